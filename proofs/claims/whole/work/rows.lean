section
-- ===== PART A: goes FIRST, ahead of the names: the tables' words, and 'selects' of the private methods out of them =====
/-- a private method of a class that the tables say can be made, by its rows of tables_1 -/
def lw_okq (q : MethodName × Nat) : Prop := (q.1.cls ≠ "java/lang/invoke/MethodHandle" ∧ q.1.cls ≠ "java/lang/invoke/VarHandle") ∧ Cond.instantiable q.1.cls q.2 ∈ tables_1 ∧ Cond.privateMethod q.1 ∈ tables_1 ∧ Cond.instanceMethod q.1 ∈ tables_1
theorem lw_p0 : lw_okq (⟨"BuoyReader", "changed", "(Z)Z"⟩, 9) := ⟨⟨by decide +kernel, by decide +kernel⟩, List.mem_of_getElem? (i := 13) (by decide +kernel), List.mem_of_getElem? (i := 331) (by decide +kernel), List.mem_of_getElem? (i := 332) (by decide +kernel)⟩
theorem lw_p1 : lw_okq (⟨"BuoyReader", "refresh", "()V"⟩, 9) := ⟨⟨by decide +kernel, by decide +kernel⟩, List.mem_of_getElem? (i := 13) (by decide +kernel), List.mem_of_getElem? (i := 379) (by decide +kernel), List.mem_of_getElem? (i := 380) (by decide +kernel)⟩
theorem lw_p2 : lw_okq (⟨"BuoyReader$Stretches", "keep", "(II)V"⟩, 9) := ⟨⟨by decide +kernel, by decide +kernel⟩, List.mem_of_getElem? (i := 89) (by decide +kernel), List.mem_of_getElem? (i := 391) (by decide +kernel), List.mem_of_getElem? (i := 392) (by decide +kernel)⟩
theorem lw_p3 : lw_okq (⟨"BuoyReader$Stretches", "mendBetween", "(II)V"⟩, 9) := ⟨⟨by decide +kernel, by decide +kernel⟩, List.mem_of_getElem? (i := 89) (by decide +kernel), List.mem_of_getElem? (i := 395) (by decide +kernel), List.mem_of_getElem? (i := 396) (by decide +kernel)⟩
theorem lw_p4 : lw_okq (⟨"BuoyReader$Stretches", "meanOf", "(I)I"⟩, 9) := ⟨⟨by decide +kernel, by decide +kernel⟩, List.mem_of_getElem? (i := 89) (by decide +kernel), List.mem_of_getElem? (i := 438) (by decide +kernel), List.mem_of_getElem? (i := 439) (by decide +kernel)⟩
theorem lw_p5 : lw_okq (⟨"BuoyReader$Stretches", "middleOf", "(ILBuoyReader$Sorter;)I"⟩, 9) := ⟨⟨by decide +kernel, by decide +kernel⟩, List.mem_of_getElem? (i := 89) (by decide +kernel), List.mem_of_getElem? (i := 442) (by decide +kernel), List.mem_of_getElem? (i := 443) (by decide +kernel)⟩
theorem lw_p6 : lw_okq (⟨"BuoyReader$Sorter", "merge", "(III)V"⟩, 3) := ⟨⟨by decide +kernel, by decide +kernel⟩, List.mem_of_getElem? (i := 247) (by decide +kernel), List.mem_of_getElem? (i := 459) (by decide +kernel), List.mem_of_getElem? (i := 460) (by decide +kernel)⟩
theorem lw_p7 : lw_okq (⟨"BuoyReader$Waves", "findIn", "(LBuoyReader$Stretches;II)V"⟩, 11) := ⟨⟨by decide +kernel, by decide +kernel⟩, List.mem_of_getElem? (i := 137) (by decide +kernel), List.mem_of_getElem? (i := 475) (by decide +kernel), List.mem_of_getElem? (i := 476) (by decide +kernel)⟩
theorem lw_p8 : lw_okq (⟨"BuoyReader$Waves", "add", "(LBuoyReader$Stretches;III)V"⟩, 11) := ⟨⟨by decide +kernel, by decide +kernel⟩, List.mem_of_getElem? (i := 137) (by decide +kernel), List.mem_of_getElem? (i := 484) (by decide +kernel), List.mem_of_getElem? (i := 485) (by decide +kernel)⟩
theorem lw_p9 : lw_okq (⟨"BuoyReader$Groups", "close", "(III)V"⟩, 4) := ⟨⟨by decide +kernel, by decide +kernel⟩, List.mem_of_getElem? (i := 224) (by decide +kernel), List.mem_of_getElem? (i := 538) (by decide +kernel), List.mem_of_getElem? (i := 539) (by decide +kernel)⟩
theorem lw_p10 : lw_okq (⟨"BuoyReader$Stretches", "latestOutside", "(III)I"⟩, 9) := ⟨⟨by decide +kernel, by decide +kernel⟩, List.mem_of_getElem? (i := 89) (by decide +kernel), List.mem_of_getElem? (i := 683) (by decide +kernel), List.mem_of_getElem? (i := 684) (by decide +kernel)⟩
theorem lw_p11 : lw_okq (⟨"BuoyReaderModel", "both", "(III)Z"⟩, 30) := ⟨⟨by decide +kernel, by decide +kernel⟩, List.mem_of_getElem? (i := 687) (by decide +kernel), List.mem_of_getElem? (i := 815) (by decide +kernel), List.mem_of_getElem? (i := 816) (by decide +kernel)⟩
theorem lw_p12 : lw_okq (⟨"BuoyReaderModel", "laysWaves", "()V"⟩, 30) := ⟨⟨by decide +kernel, by decide +kernel⟩, List.mem_of_getElem? (i := 687) (by decide +kernel), List.mem_of_getElem? (i := 836) (by decide +kernel), List.mem_of_getElem? (i := 837) (by decide +kernel)⟩
theorem lw_p13 : lw_okq (⟨"BuoyReaderModel", "laysShown", "(I)V"⟩, 30) := ⟨⟨by decide +kernel, by decide +kernel⟩, List.mem_of_getElem? (i := 687) (by decide +kernel), List.mem_of_getElem? (i := 840) (by decide +kernel), List.mem_of_getElem? (i := 841) (by decide +kernel)⟩
theorem lw_p14 : lw_okq (⟨"BuoyReaderModel", "laysStretches", "()V"⟩, 30) := ⟨⟨by decide +kernel, by decide +kernel⟩, List.mem_of_getElem? (i := 687) (by decide +kernel), List.mem_of_getElem? (i := 844) (by decide +kernel), List.mem_of_getElem? (i := 845) (by decide +kernel)⟩
theorem lw_p15 : lw_okq (⟨"BuoyReaderModel", "shownBy", "(II)I"⟩, 30) := ⟨⟨by decide +kernel, by decide +kernel⟩, List.mem_of_getElem? (i := 687) (by decide +kernel), List.mem_of_getElem? (i := 851) (by decide +kernel), List.mem_of_getElem? (i := 852) (by decide +kernel)⟩
def lw_privs_1 : List (MethodName × Nat) := [(⟨"BuoyReader", "changed", "(Z)Z"⟩, 9), (⟨"BuoyReader", "refresh", "()V"⟩, 9), (⟨"BuoyReader$Stretches", "keep", "(II)V"⟩, 9), (⟨"BuoyReader$Stretches", "mendBetween", "(II)V"⟩, 9), (⟨"BuoyReader$Stretches", "meanOf", "(I)I"⟩, 9), (⟨"BuoyReader$Stretches", "middleOf", "(ILBuoyReader$Sorter;)I"⟩, 9), (⟨"BuoyReader$Sorter", "merge", "(III)V"⟩, 3), (⟨"BuoyReader$Waves", "findIn", "(LBuoyReader$Stretches;II)V"⟩, 11), (⟨"BuoyReader$Waves", "add", "(LBuoyReader$Stretches;III)V"⟩, 11), (⟨"BuoyReader$Groups", "close", "(III)V"⟩, 4), (⟨"BuoyReader$Stretches", "latestOutside", "(III)I"⟩, 9), (⟨"BuoyReaderModel", "both", "(III)Z"⟩, 30), (⟨"BuoyReaderModel", "laysWaves", "()V"⟩, 30), (⟨"BuoyReaderModel", "laysShown", "(I)V"⟩, 30), (⟨"BuoyReaderModel", "laysStretches", "()V"⟩, 30), (⟨"BuoyReaderModel", "shownBy", "(II)I"⟩, 30)]
theorem lw_r1 : ∀ q ∈ lw_privs_1, lw_okq q := List.forall_mem_cons.mpr ⟨lw_p0, List.forall_mem_cons.mpr ⟨lw_p1, List.forall_mem_cons.mpr ⟨lw_p2, List.forall_mem_cons.mpr ⟨lw_p3, List.forall_mem_cons.mpr ⟨lw_p4, List.forall_mem_cons.mpr ⟨lw_p5, List.forall_mem_cons.mpr ⟨lw_p6, List.forall_mem_cons.mpr ⟨lw_p7, List.forall_mem_cons.mpr ⟨lw_p8, List.forall_mem_cons.mpr ⟨lw_p9, List.forall_mem_cons.mpr ⟨lw_p10, List.forall_mem_cons.mpr ⟨lw_p11, List.forall_mem_cons.mpr ⟨lw_p12, List.forall_mem_cons.mpr ⟨lw_p13, List.forall_mem_cons.mpr ⟨lw_p14, List.forall_mem_cons.mpr ⟨lw_p15, fun _ h => absurd h List.not_mem_nil⟩⟩⟩⟩⟩⟩⟩⟩⟩⟩⟩⟩⟩⟩⟩⟩
theorem lw_p16 : lw_okq (⟨"BuoyReaderModel", "mean", "(II)I"⟩, 30) := ⟨⟨by decide +kernel, by decide +kernel⟩, List.mem_of_getElem? (i := 687) (by decide +kernel), List.mem_of_getElem? (i := 855) (by decide +kernel), List.mem_of_getElem? (i := 856) (by decide +kernel)⟩
theorem lw_p17 : lw_okq (⟨"BuoyReaderModel", "level", "(I)I"⟩, 30) := ⟨⟨by decide +kernel, by decide +kernel⟩, List.mem_of_getElem? (i := 687) (by decide +kernel), List.mem_of_getElem? (i := 860) (by decide +kernel), List.mem_of_getElem? (i := 861) (by decide +kernel)⟩
theorem lw_p18 : lw_okq (⟨"BuoyReaderModel", "endOf", "(I)I"⟩, 30) := ⟨⟨by decide +kernel, by decide +kernel⟩, List.mem_of_getElem? (i := 687) (by decide +kernel), List.mem_of_getElem? (i := 864) (by decide +kernel), List.mem_of_getElem? (i := 865) (by decide +kernel)⟩
theorem lw_p19 : lw_okq (⟨"BuoyReaderModel", "fewer", "(IIZ)I"⟩, 30) := ⟨⟨by decide +kernel, by decide +kernel⟩, List.mem_of_getElem? (i := 687) (by decide +kernel), List.mem_of_getElem? (i := 868) (by decide +kernel), List.mem_of_getElem? (i := 869) (by decide +kernel)⟩
theorem lw_p20 : lw_okq (⟨"BuoyReaderModel", "crosses", "(III)Z"⟩, 30) := ⟨⟨by decide +kernel, by decide +kernel⟩, List.mem_of_getElem? (i := 687) (by decide +kernel), List.mem_of_getElem? (i := 872) (by decide +kernel), List.mem_of_getElem? (i := 873) (by decide +kernel)⟩
theorem lw_p21 : lw_okq (⟨"BuoyReaderModel", "wave", "(III)V"⟩, 30) := ⟨⟨by decide +kernel, by decide +kernel⟩, List.mem_of_getElem? (i := 687) (by decide +kernel), List.mem_of_getElem? (i := 876) (by decide +kernel), List.mem_of_getElem? (i := 877) (by decide +kernel)⟩
theorem lw_p22 : lw_okq (⟨"BuoyReaderModel", "height", "(I)I"⟩, 30) := ⟨⟨by decide +kernel, by decide +kernel⟩, List.mem_of_getElem? (i := 687) (by decide +kernel), List.mem_of_getElem? (i := 880) (by decide +kernel), List.mem_of_getElem? (i := 881) (by decide +kernel)⟩
theorem lw_p23 : lw_okq (⟨"BuoyReaderModel", "laysHigh", "()V"⟩, 30) := ⟨⟨by decide +kernel, by decide +kernel⟩, List.mem_of_getElem? (i := 687) (by decide +kernel), List.mem_of_getElem? (i := 884) (by decide +kernel), List.mem_of_getElem? (i := 885) (by decide +kernel)⟩
theorem lw_p24 : lw_okq (⟨"BuoyReaderModel", "highestSum", "(IZ)J"⟩, 30) := ⟨⟨by decide +kernel, by decide +kernel⟩, List.mem_of_getElem? (i := 687) (by decide +kernel), List.mem_of_getElem? (i := 888) (by decide +kernel), List.mem_of_getElem? (i := 889) (by decide +kernel)⟩
theorem lw_p25 : lw_okq (⟨"BuoyReaderModel", "highestMany", "(I)I"⟩, 30) := ⟨⟨by decide +kernel, by decide +kernel⟩, List.mem_of_getElem? (i := 687) (by decide +kernel), List.mem_of_getElem? (i := 892) (by decide +kernel), List.mem_of_getElem? (i := 893) (by decide +kernel)⟩
theorem lw_p26 : lw_okq (⟨"BuoyReaderModel", "middleHeight", "()I"⟩, 30) := ⟨⟨by decide +kernel, by decide +kernel⟩, List.mem_of_getElem? (i := 687) (by decide +kernel), List.mem_of_getElem? (i := 896) (by decide +kernel), List.mem_of_getElem? (i := 897) (by decide +kernel)⟩
theorem lw_p27 : lw_okq (⟨"BuoyReaderModel", "freaks", "()I"⟩, 30) := ⟨⟨by decide +kernel, by decide +kernel⟩, List.mem_of_getElem? (i := 687) (by decide +kernel), List.mem_of_getElem? (i := 900) (by decide +kernel), List.mem_of_getElem? (i := 901) (by decide +kernel)⟩
theorem lw_p28 : lw_okq (⟨"BuoyReaderModel", "isFreak", "(I)Z"⟩, 30) := ⟨⟨by decide +kernel, by decide +kernel⟩, List.mem_of_getElem? (i := 687) (by decide +kernel), List.mem_of_getElem? (i := 904) (by decide +kernel), List.mem_of_getElem? (i := 905) (by decide +kernel)⟩
theorem lw_p29 : lw_okq (⟨"BuoyReaderModel", "groups", "()I"⟩, 30) := ⟨⟨by decide +kernel, by decide +kernel⟩, List.mem_of_getElem? (i := 687) (by decide +kernel), List.mem_of_getElem? (i := 908) (by decide +kernel), List.mem_of_getElem? (i := 909) (by decide +kernel)⟩
theorem lw_p30 : lw_okq (⟨"BuoyReaderModel", "run", "(I)I"⟩, 30) := ⟨⟨by decide +kernel, by decide +kernel⟩, List.mem_of_getElem? (i := 687) (by decide +kernel), List.mem_of_getElem? (i := 912) (by decide +kernel), List.mem_of_getElem? (i := 913) (by decide +kernel)⟩
theorem lw_p31 : lw_okq (⟨"BuoyReaderModel", "names", "()I"⟩, 30) := ⟨⟨by decide +kernel, by decide +kernel⟩, List.mem_of_getElem? (i := 687) (by decide +kernel), List.mem_of_getElem? (i := 916) (by decide +kernel), List.mem_of_getElem? (i := 917) (by decide +kernel)⟩
def lw_privs_2 : List (MethodName × Nat) := [(⟨"BuoyReaderModel", "mean", "(II)I"⟩, 30), (⟨"BuoyReaderModel", "level", "(I)I"⟩, 30), (⟨"BuoyReaderModel", "endOf", "(I)I"⟩, 30), (⟨"BuoyReaderModel", "fewer", "(IIZ)I"⟩, 30), (⟨"BuoyReaderModel", "crosses", "(III)Z"⟩, 30), (⟨"BuoyReaderModel", "wave", "(III)V"⟩, 30), (⟨"BuoyReaderModel", "height", "(I)I"⟩, 30), (⟨"BuoyReaderModel", "laysHigh", "()V"⟩, 30), (⟨"BuoyReaderModel", "highestSum", "(IZ)J"⟩, 30), (⟨"BuoyReaderModel", "highestMany", "(I)I"⟩, 30), (⟨"BuoyReaderModel", "middleHeight", "()I"⟩, 30), (⟨"BuoyReaderModel", "freaks", "()I"⟩, 30), (⟨"BuoyReaderModel", "isFreak", "(I)Z"⟩, 30), (⟨"BuoyReaderModel", "groups", "()I"⟩, 30), (⟨"BuoyReaderModel", "run", "(I)I"⟩, 30), (⟨"BuoyReaderModel", "names", "()I"⟩, 30)]
theorem lw_r2 : ∀ q ∈ lw_privs_2, lw_okq q := List.forall_mem_cons.mpr ⟨lw_p16, List.forall_mem_cons.mpr ⟨lw_p17, List.forall_mem_cons.mpr ⟨lw_p18, List.forall_mem_cons.mpr ⟨lw_p19, List.forall_mem_cons.mpr ⟨lw_p20, List.forall_mem_cons.mpr ⟨lw_p21, List.forall_mem_cons.mpr ⟨lw_p22, List.forall_mem_cons.mpr ⟨lw_p23, List.forall_mem_cons.mpr ⟨lw_p24, List.forall_mem_cons.mpr ⟨lw_p25, List.forall_mem_cons.mpr ⟨lw_p26, List.forall_mem_cons.mpr ⟨lw_p27, List.forall_mem_cons.mpr ⟨lw_p28, List.forall_mem_cons.mpr ⟨lw_p29, List.forall_mem_cons.mpr ⟨lw_p30, List.forall_mem_cons.mpr ⟨lw_p31, fun _ h => absurd h List.not_mem_nil⟩⟩⟩⟩⟩⟩⟩⟩⟩⟩⟩⟩⟩⟩⟩⟩
theorem lw_p32 : lw_okq (⟨"BuoyReaderModel", "gaps", "()I"⟩, 30) := ⟨⟨by decide +kernel, by decide +kernel⟩, List.mem_of_getElem? (i := 687) (by decide +kernel), List.mem_of_getElem? (i := 920) (by decide +kernel), List.mem_of_getElem? (i := 921) (by decide +kernel)⟩
theorem lw_p33 : lw_okq (⟨"BuoyReaderModel", "waved", "()I"⟩, 30) := ⟨⟨by decide +kernel, by decide +kernel⟩, List.mem_of_getElem? (i := 687) (by decide +kernel), List.mem_of_getElem? (i := 924) (by decide +kernel), List.mem_of_getElem? (i := 925) (by decide +kernel)⟩
theorem lw_p34 : lw_okq (⟨"BuoyReaderModel", "isSample", "(I)Z"⟩, 30) := ⟨⟨by decide +kernel, by decide +kernel⟩, List.mem_of_getElem? (i := 687) (by decide +kernel), List.mem_of_getElem? (i := 932) (by decide +kernel), List.mem_of_getElem? (i := 933) (by decide +kernel)⟩
theorem lw_p35 : lw_okq (⟨"BuoyReaderModel", "extreme", "(IZ)I"⟩, 30) := ⟨⟨by decide +kernel, by decide +kernel⟩, List.mem_of_getElem? (i := 687) (by decide +kernel), List.mem_of_getElem? (i := 944) (by decide +kernel), List.mem_of_getElem? (i := 945) (by decide +kernel)⟩
theorem lw_p36 : lw_okq (⟨"BuoyReaderModel", "isWave", "(I)Z"⟩, 30) := ⟨⟨by decide +kernel, by decide +kernel⟩, List.mem_of_getElem? (i := 687) (by decide +kernel), List.mem_of_getElem? (i := 952) (by decide +kernel), List.mem_of_getElem? (i := 953) (by decide +kernel)⟩
theorem lw_p37 : lw_okq (⟨"BuoyReaderModel", "groupOf", "(I)I"⟩, 30) := ⟨⟨by decide +kernel, by decide +kernel⟩, List.mem_of_getElem? (i := 687) (by decide +kernel), List.mem_of_getElem? (i := 956) (by decide +kernel), List.mem_of_getElem? (i := 957) (by decide +kernel)⟩
theorem lw_p38 : lw_okq (⟨"BuoyReaderModel", "borne", "(I)I"⟩, 30) := ⟨⟨by decide +kernel, by decide +kernel⟩, List.mem_of_getElem? (i := 687) (by decide +kernel), List.mem_of_getElem? (i := 960) (by decide +kernel), List.mem_of_getElem? (i := 961) (by decide +kernel)⟩
theorem lw_p39 : lw_okq (⟨"BuoyReaderModel", "groupAt", "(I)I"⟩, 30) := ⟨⟨by decide +kernel, by decide +kernel⟩, List.mem_of_getElem? (i := 687) (by decide +kernel), List.mem_of_getElem? (i := 983) (by decide +kernel), List.mem_of_getElem? (i := 984) (by decide +kernel)⟩
theorem lw_p40 : lw_okq (⟨"BuoyReaderModel", "sampleOf", "(I)I"⟩, 30) := ⟨⟨by decide +kernel, by decide +kernel⟩, List.mem_of_getElem? (i := 687) (by decide +kernel), List.mem_of_getElem? (i := 996) (by decide +kernel), List.mem_of_getElem? (i := 997) (by decide +kernel)⟩
theorem lw_p41 : lw_okq (⟨"BuoyReaderModel", "countWaves", "(I)I"⟩, 30) := ⟨⟨by decide +kernel, by decide +kernel⟩, List.mem_of_getElem? (i := 687) (by decide +kernel), List.mem_of_getElem? (i := 1012) (by decide +kernel), List.mem_of_getElem? (i := 1013) (by decide +kernel)⟩
theorem lw_p42 : lw_okq (⟨"BuoyReaderModel", "hasCrossing", "(II)Z"⟩, 30) := ⟨⟨by decide +kernel, by decide +kernel⟩, List.mem_of_getElem? (i := 687) (by decide +kernel), List.mem_of_getElem? (i := 1024) (by decide +kernel), List.mem_of_getElem? (i := 1025) (by decide +kernel)⟩
def lw_privs_3 : List (MethodName × Nat) := [(⟨"BuoyReaderModel", "gaps", "()I"⟩, 30), (⟨"BuoyReaderModel", "waved", "()I"⟩, 30), (⟨"BuoyReaderModel", "isSample", "(I)Z"⟩, 30), (⟨"BuoyReaderModel", "extreme", "(IZ)I"⟩, 30), (⟨"BuoyReaderModel", "isWave", "(I)Z"⟩, 30), (⟨"BuoyReaderModel", "groupOf", "(I)I"⟩, 30), (⟨"BuoyReaderModel", "borne", "(I)I"⟩, 30), (⟨"BuoyReaderModel", "groupAt", "(I)I"⟩, 30), (⟨"BuoyReaderModel", "sampleOf", "(I)I"⟩, 30), (⟨"BuoyReaderModel", "countWaves", "(I)I"⟩, 30), (⟨"BuoyReaderModel", "hasCrossing", "(II)Z"⟩, 30)]
theorem lw_r3 : ∀ q ∈ lw_privs_3, lw_okq q := List.forall_mem_cons.mpr ⟨lw_p32, List.forall_mem_cons.mpr ⟨lw_p33, List.forall_mem_cons.mpr ⟨lw_p34, List.forall_mem_cons.mpr ⟨lw_p35, List.forall_mem_cons.mpr ⟨lw_p36, List.forall_mem_cons.mpr ⟨lw_p37, List.forall_mem_cons.mpr ⟨lw_p38, List.forall_mem_cons.mpr ⟨lw_p39, List.forall_mem_cons.mpr ⟨lw_p40, List.forall_mem_cons.mpr ⟨lw_p41, List.forall_mem_cons.mpr ⟨lw_p42, fun _ h => absurd h List.not_mem_nil⟩⟩⟩⟩⟩⟩⟩⟩⟩⟩⟩
def lw_privs : List (MethodName × Nat) := lw_privs_1 ++ (lw_privs_2 ++ (lw_privs_3))
def lw_tbl : List Cond := k2_sels lw_privs ++ tables_1
theorem lw_privs_ok : ∀ q ∈ lw_privs, lw_okq q := by
  show ∀ q ∈ lw_privs_1 ++ (lw_privs_2 ++ (lw_privs_3)), lw_okq q
  exact List.forall_mem_append.mpr ⟨lw_r1, List.forall_mem_append.mpr ⟨lw_r2, lw_r3⟩⟩
end
section
def RX0 : String := "BuoyReader$Groups"
def TX0 : u_T := fun k => match k with
  | 0 => ("BuoyReader$Groups", "groupOf", "[I", true)
  | 1 => ("BuoyReader$Groups", "first", "[I", true)
  | 2 => ("BuoyReader$Groups", "length", "[I", true)
  | _ => ("BuoyReader$Groups", "size", "I", false)
def tyX0 : Nat → FieldType := fun k => match k with
  | 0 => .array .int
  | 1 => .array .int
  | 2 => .array .int
  | _ => .int
abbrev wsX00 : List Cond := u_ws RX0 TX0 4
theorem nmX0 : ∀ a, a < 4 → ∀ b, b < 4 → a ≠ b → (TX0 a).2.1 ≠ (TX0 b).2.1 := by decide +kernel
theorem tyX0_ok : ∀ k, k < 4 → parseFieldDescriptor (TX0 k).2.2.1 = some (tyX0 k) := by decide +kernel
abbrev cX0_init : ByteArray := prog_2_method_1_code
def yX0_init : MethodName := ⟨RX0, "<init>", "()V"⟩
abbrev cX0_has : ByteArray := prog_2_method_2_code
def yX0_has : MethodName := ⟨RX0, "has", "(I)Z"⟩
abbrev cX0_find : ByteArray := prog_2_method_3_code
def yX0_find : MethodName := ⟨RX0, "find", "(LBuoyReader$Waves;LBuoyReader$Ranking;LBuoyReader$Settings;)V"⟩
abbrev cX0_close : ByteArray := prog_2_method_4_code
def yX0_close : MethodName := ⟨RX0, "close", "(III)V"⟩
def RX1 : String := "BuoyReader$LensRow"
def TX1 : u_T := fun k => match k with
  | 0 => ("BuoyReader$LensRow", "kinds", "[I", true)
  | 1 => ("BuoyReader$LensRow", "ns", "[I", true)
  | _ => ("BuoyReader$LensRow", "size", "I", false)
def tyX1 : Nat → FieldType := fun k => match k with
  | 0 => .array .int
  | 1 => .array .int
  | _ => .int
abbrev wsX10 : List Cond := u_ws RX1 TX1 3
theorem nmX1 : ∀ a, a < 3 → ∀ b, b < 3 → a ≠ b → (TX1 a).2.1 ≠ (TX1 b).2.1 := by decide +kernel
theorem tyX1_ok : ∀ k, k < 3 → parseFieldDescriptor (TX1 k).2.2.1 = some (tyX1 k) := by decide +kernel
abbrev cX1_init : ByteArray := prog_3_method_1_code
def yX1_init : MethodName := ⟨RX1, "<init>", "()V"⟩
abbrev cX1_canBe : ByteArray := prog_3_method_2_code
def yX1_canBe : MethodName := ⟨RX1, "canBe", "(II)Z"⟩
abbrev cX1_lay : ByteArray := prog_3_method_3_code
def yX1_lay : MethodName := ⟨RX1, "lay", "(II)V"⟩
abbrev cX1_takeOff : ByteArray := prog_3_method_4_code
def yX1_takeOff : MethodName := ⟨RX1, "takeOff", "()V"⟩
abbrev cX1_show : ByteArray := prog_3_method_5_code
def yX1_show : MethodName := ⟨RX1, "show", "(I[I[III)V"⟩
abbrev cX1_showMean : ByteArray := prog_3_method_6_code
def yX1_showMean : MethodName := ⟨RX1, "showMean", "([I[IIII)V"⟩
def RX2 : String := "BuoyReader$Ranking"
def TX2 : u_T := fun k => match k with
  | 0 => ("BuoyReader$Ranking", "order", "[I", true)
  | 1 => ("BuoyReader$Ranking", "rankOf", "[I", true)
  | 2 => ("BuoyReader$Ranking", "freaks", "I", false)
  | 3 => ("BuoyReader$Ranking", "sumOfAll", "J", false)
  | 4 => ("BuoyReader$Ranking", "sumOfThird", "J", false)
  | 5 => ("BuoyReader$Ranking", "third", "I", false)
  | _ => ("BuoyReader$Ranking", "middle", "I", false)
def tyX2 : Nat → FieldType := fun k => match k with
  | 0 => .array .int
  | 1 => .array .int
  | 2 => .int
  | 3 => .long
  | 4 => .long
  | 5 => .int
  | _ => .int
abbrev wsX20 : List Cond := u_ws RX2 TX2 7
theorem nmX2 : ∀ a, a < 7 → ∀ b, b < 7 → a ≠ b → (TX2 a).2.1 ≠ (TX2 b).2.1 := by decide +kernel
theorem tyX2_ok : ∀ k, k < 7 → parseFieldDescriptor (TX2 k).2.2.1 = some (tyX2 k) := by decide +kernel
abbrev cX2_init : ByteArray := prog_4_method_1_code
def yX2_init : MethodName := ⟨RX2, "<init>", "()V"⟩
abbrev cX2_partOf : ByteArray := prog_4_method_2_code
def yX2_partOf : MethodName := ⟨RX2, "partOf", "(II)I"⟩
abbrev cX2_rank : ByteArray := prog_4_method_3_code
def yX2_rank : MethodName := ⟨RX2, "rank", "(LBuoyReader$Waves;LBuoyReader$Sorter;)V"⟩
abbrev cX2_weigh : ByteArray := prog_4_method_4_code
def yX2_weigh : MethodName := ⟨RX2, "weigh", "(LBuoyReader$Waves;LBuoyReader$Settings;)V"⟩
abbrev cX2_isHigh : ByteArray := prog_4_method_5_code
def yX2_isHigh : MethodName := ⟨RX2, "isHigh", "(LBuoyReader$Waves;ILBuoyReader$Settings;)Z"⟩
abbrev cX2_heightsOfHighest : ByteArray := prog_4_method_6_code
def yX2_heightsOfHighest : MethodName := ⟨RX2, "heightsOfHighest", "(LBuoyReader$Waves;I)I"⟩
abbrev cX2_periodsOfHighest : ByteArray := prog_4_method_7_code
def yX2_periodsOfHighest : MethodName := ⟨RX2, "periodsOfHighest", "(LBuoyReader$Waves;I)I"⟩
abbrev cX2_leastRankIn : ByteArray := prog_4_method_8_code
def yX2_leastRankIn : MethodName := ⟨RX2, "leastRankIn", "(II)I"⟩
def RX3 : String := "BuoyReader$Samples"
def TX3 : u_T := fun k => match k with
  | 0 => ("BuoyReader$Samples", "came", "[I", true)
  | 1 => ("BuoyReader$Samples", "names", "[I", true)
  | _ => ("BuoyReader$Samples", "size", "I", false)
def tyX3 : Nat → FieldType := fun k => match k with
  | 0 => .array .int
  | 1 => .array .int
  | _ => .int
abbrev wsX30 : List Cond := u_ws RX3 TX3 3
theorem nmX3 : ∀ a, a < 3 → ∀ b, b < 3 → a ≠ b → (TX3 a).2.1 ≠ (TX3 b).2.1 := by decide +kernel
theorem tyX3_ok : ∀ k, k < 3 → parseFieldDescriptor (TX3 k).2.2.1 = some (tyX3 k) := by decide +kernel
abbrev cX3_init : ByteArray := prog_5_method_1_code
def yX3_init : MethodName := ⟨RX3, "<init>", "()V"⟩
abbrev cX3_canCome : ByteArray := prog_5_method_2_code
def yX3_canCome : MethodName := ⟨RX3, "canCome", "(I)Z"⟩
abbrev cX3_has : ByteArray := prog_5_method_3_code
def yX3_has : MethodName := ⟨RX3, "has", "(I)Z"⟩
abbrev cX3_room : ByteArray := prog_5_method_4_code
def yX3_room : MethodName := ⟨RX3, "room", "()I"⟩
abbrev cX3_add : ByteArray := prog_5_method_5_code
def yX3_add : MethodName := ⟨RX3, "add", "(I)V"⟩
abbrev cX3_drop : ByteArray := prog_5_method_6_code
def yX3_drop : MethodName := ⟨RX3, "drop", "(I)V"⟩
abbrev cX3_nameAt : ByteArray := prog_5_method_7_code
def yX3_nameAt : MethodName := ⟨RX3, "nameAt", "(I)I"⟩
abbrev cX3_bearerOf : ByteArray := prog_5_method_8_code
def yX3_bearerOf : MethodName := ⟨RX3, "bearerOf", "(I)I"⟩
abbrev cX3_namesGiven : ByteArray := prog_5_method_9_code
def yX3_namesGiven : MethodName := ⟨RX3, "namesGiven", "()I"⟩
abbrev cX3_leastNameIn : ByteArray := prog_5_method_10_code
def yX3_leastNameIn : MethodName := ⟨RX3, "leastNameIn", "(II)I"⟩
def RX4 : String := "BuoyReader$Settings"
def TX4 : u_T := fun k => match k with
  | 0 => ("BuoyReader$Settings", "numbers", "[I", true)
  | 1 => ("BuoyReader$Settings", "rule", "I", false)
  | 2 => ("BuoyReader$Settings", "levelTold", "I", false)
  | 3 => ("BuoyReader$Settings", "markRule", "I", false)
  | _ => ("BuoyReader$Settings", "markTold", "I", false)
def tyX4 : Nat → FieldType := fun k => match k with
  | 0 => .array .int
  | 1 => .int
  | 2 => .int
  | 3 => .int
  | _ => .int
abbrev wsX40 : List Cond := u_ws RX4 TX4 5
theorem nmX4 : ∀ a, a < 5 → ∀ b, b < 5 → a ≠ b → (TX4 a).2.1 ≠ (TX4 b).2.1 := by decide +kernel
theorem tyX4_ok : ∀ k, k < 5 → parseFieldDescriptor (TX4 k).2.2.1 = some (tyX4 k) := by decide +kernel
abbrev cX4_init : ByteArray := prog_6_method_1_code
def yX4_init : MethodName := ⟨RX4, "<init>", "()V"⟩
abbrev cX4_mend : ByteArray := prog_6_method_2_code
def yX4_mend : MethodName := ⟨RX4, "mend", "()I"⟩
abbrev cX4_band : ByteArray := prog_6_method_3_code
def yX4_band : MethodName := ⟨RX4, "band", "()I"⟩
abbrev cX4_factor : ByteArray := prog_6_method_4_code
def yX4_factor : MethodName := ⟨RX4, "factor", "()I"⟩
abbrev cX4_least : ByteArray := prog_6_method_5_code
def yX4_least : MethodName := ⟨RX4, "least", "()I"⟩
abbrev cX4_changeNumber : ByteArray := prog_6_method_6_code
def yX4_changeNumber : MethodName := ⟨RX4, "changeNumber", "(II)Z"⟩
abbrev cX4_changeRule : ByteArray := prog_6_method_7_code
def yX4_changeRule : MethodName := ⟨RX4, "changeRule", "(II)Z"⟩
abbrev cX4_changeMark : ByteArray := prog_6_method_8_code
def yX4_changeMark : MethodName := ⟨RX4, "changeMark", "(II)Z"⟩
def RX5 : String := "BuoyReader$Sorter"
def TX5 : u_T := fun k => match k with
  | 0 => ("BuoyReader$Sorter", "keys", "[J", false)
  | 1 => ("BuoyReader$Sorter", "spare", "[J", false)
  | _ => ("BuoyReader$Sorter", "size", "I", false)
def tyX5 : Nat → FieldType := fun k => match k with
  | 0 => .array .long
  | 1 => .array .long
  | _ => .int
abbrev wsX50 : List Cond := u_ws RX5 TX5 3
theorem nmX5 : ∀ a, a < 3 → ∀ b, b < 3 → a ≠ b → (TX5 a).2.1 ≠ (TX5 b).2.1 := by decide +kernel
theorem tyX5_ok : ∀ k, k < 3 → parseFieldDescriptor (TX5 k).2.2.1 = some (tyX5 k) := by decide +kernel
abbrev cX5_init : ByteArray := prog_7_method_1_code
def yX5_init : MethodName := ⟨RX5, "<init>", "()V"⟩
abbrev cX5_clear : ByteArray := prog_7_method_2_code
def yX5_clear : MethodName := ⟨RX5, "clear", "()V"⟩
abbrev cX5_add : ByteArray := prog_7_method_3_code
def yX5_add : MethodName := ⟨RX5, "add", "(J)V"⟩
abbrev cX5_keyAt : ByteArray := prog_7_method_4_code
def yX5_keyAt : MethodName := ⟨RX5, "keyAt", "(I)J"⟩
abbrev cX5_sort : ByteArray := prog_7_method_5_code
def yX5_sort : MethodName := ⟨RX5, "sort", "()V"⟩
abbrev cX5_merge : ByteArray := prog_7_method_6_code
def yX5_merge : MethodName := ⟨RX5, "merge", "(III)V"⟩
def RX6 : String := "BuoyReader$Stretches"
def TX6 : u_T := fun k => match k with
  | 0 => ("BuoyReader$Stretches", "shown", "[[I", true)
  | 1 => ("BuoyReader$Stretches", "seen", "[I", false)
  | 2 => ("BuoyReader$Stretches", "stretchOf", "[I", true)
  | 3 => ("BuoyReader$Stretches", "first", "[I", true)
  | 4 => ("BuoyReader$Stretches", "length", "[I", true)
  | 5 => ("BuoyReader$Stretches", "levels", "[I", true)
  | 6 => ("BuoyReader$Stretches", "size", "I", false)
  | 7 => ("BuoyReader$Stretches", "gaps", "I", false)
  | _ => ("BuoyReader$Stretches", "mended", "I", false)
def tyX6 : Nat → FieldType := fun k => match k with
  | 0 => .array (.array .int)
  | 1 => .array .int
  | 2 => .array .int
  | 3 => .array .int
  | 4 => .array .int
  | 5 => .array .int
  | 6 => .int
  | 7 => .int
  | _ => .int
abbrev wsX60 : List Cond := u_ws RX6 TX6 9
theorem nmX6 : ∀ a, a < 9 → ∀ b, b < 9 → a ≠ b → (TX6 a).2.1 ≠ (TX6 b).2.1 := by decide +kernel
theorem tyX6_ok : ∀ k, k < 9 → parseFieldDescriptor (TX6 k).2.2.1 = some (tyX6 k) := by decide +kernel
abbrev cX6_init : ByteArray := prog_8_method_1_code
def yX6_init : MethodName := ⟨RX6, "<init>", "()V"⟩
abbrev cX6_has : ByteArray := prog_8_method_2_code
def yX6_has : MethodName := ⟨RX6, "has", "(I)Z"⟩
abbrev cX6_endOf : ByteArray := prog_8_method_3_code
def yX6_endOf : MethodName := ⟨RX6, "endOf", "(I)I"⟩
abbrev cX6_shownBehind : ByteArray := prog_8_method_4_code
def yX6_shownBehind : MethodName := ⟨RX6, "shownBehind", "(II)I"⟩
abbrev cX6_mendGaps : ByteArray := prog_8_method_5_code
def yX6_mendGaps : MethodName := ⟨RX6, "mendGaps", "(LBuoyReader$Samples;I)V"⟩
abbrev cX6_mendBetween : ByteArray := prog_8_method_6_code
def yX6_mendBetween : MethodName := ⟨RX6, "mendBetween", "(II)V"⟩
abbrev cX6_keep : ByteArray := prog_8_method_7_code
def yX6_keep : MethodName := ⟨RX6, "keep", "(II)V"⟩
abbrev cX6_split : ByteArray := prog_8_method_8_code
def yX6_split : MethodName := ⟨RX6, "split", "(I)V"⟩
abbrev cX6_lookThrough : ByteArray := prog_8_method_9_code
def yX6_lookThrough : MethodName := ⟨RX6, "lookThrough", "(LBuoyReader$LensRow;)V"⟩
abbrev cX6_findLevels : ByteArray := prog_8_method_10_code
def yX6_findLevels : MethodName := ⟨RX6, "findLevels", "(LBuoyReader$Settings;LBuoyReader$Sorter;)V"⟩
abbrev cX6_meanOf : ByteArray := prog_8_method_11_code
def yX6_meanOf : MethodName := ⟨RX6, "meanOf", "(I)I"⟩
abbrev cX6_middleOf : ByteArray := prog_8_method_12_code
def yX6_middleOf : MethodName := ⟨RX6, "middleOf", "(ILBuoyReader$Sorter;)I"⟩
abbrev cX6_topIn : ByteArray := prog_8_method_13_code
def yX6_topIn : MethodName := ⟨RX6, "topIn", "(II)I"⟩
abbrev cX6_leastIn : ByteArray := prog_8_method_14_code
def yX6_leastIn : MethodName := ⟨RX6, "leastIn", "(II)I"⟩
abbrev cX6_nextCrossing : ByteArray := prog_8_method_15_code
def yX6_nextCrossing : MethodName := ⟨RX6, "nextCrossing", "(III)I"⟩
abbrev cX6_wavesBy : ByteArray := prog_8_method_16_code
def yX6_wavesBy : MethodName := ⟨RX6, "wavesBy", "(I)I"⟩
abbrev cX6_bandAgainst : ByteArray := prog_8_method_17_code
def yX6_bandAgainst : MethodName := ⟨RX6, "bandAgainst", "(IIII)I"⟩
abbrev cX6_latestOutside : ByteArray := prog_8_method_18_code
def yX6_latestOutside : MethodName := ⟨RX6, "latestOutside", "(III)I"⟩
def RX7 : String := "BuoyReader$Waves"
def TX7 : u_T := fun k => match k with
  | 0 => ("BuoyReader$Waves", "waveOf", "[I", true)
  | 1 => ("BuoyReader$Waves", "first", "[I", true)
  | 2 => ("BuoyReader$Waves", "period", "[I", true)
  | 3 => ("BuoyReader$Waves", "height", "[I", true)
  | 4 => ("BuoyReader$Waves", "crest", "[I", true)
  | 5 => ("BuoyReader$Waves", "top", "[I", true)
  | 6 => ("BuoyReader$Waves", "stretchOf", "[I", true)
  | 7 => ("BuoyReader$Waves", "wavesIn", "[I", true)
  | 8 => ("BuoyReader$Waves", "head", "[I", true)
  | 9 => ("BuoyReader$Waves", "tail", "[I", true)
  | _ => ("BuoyReader$Waves", "size", "I", false)
def tyX7 : Nat → FieldType := fun k => match k with
  | 0 => .array .int
  | 1 => .array .int
  | 2 => .array .int
  | 3 => .array .int
  | 4 => .array .int
  | 5 => .array .int
  | 6 => .array .int
  | 7 => .array .int
  | 8 => .array .int
  | 9 => .array .int
  | _ => .int
abbrev wsX70 : List Cond := u_ws RX7 TX7 11
theorem nmX7 : ∀ a, a < 11 → ∀ b, b < 11 → a ≠ b → (TX7 a).2.1 ≠ (TX7 b).2.1 := by decide +kernel
theorem tyX7_ok : ∀ k, k < 11 → parseFieldDescriptor (TX7 k).2.2.1 = some (tyX7 k) := by decide +kernel
abbrev cX7_init : ByteArray := prog_9_method_1_code
def yX7_init : MethodName := ⟨RX7, "<init>", "()V"⟩
abbrev cX7_has : ByteArray := prog_9_method_2_code
def yX7_has : MethodName := ⟨RX7, "has", "(I)Z"⟩
abbrev cX7_endOf : ByteArray := prog_9_method_3_code
def yX7_endOf : MethodName := ⟨RX7, "endOf", "(I)I"⟩
abbrev cX7_find : ByteArray := prog_9_method_4_code
def yX7_find : MethodName := ⟨RX7, "find", "(LBuoyReader$Stretches;II)V"⟩
abbrev cX7_findIn : ByteArray := prog_9_method_5_code
def yX7_findIn : MethodName := ⟨RX7, "findIn", "(LBuoyReader$Stretches;II)V"⟩
abbrev cX7_add : ByteArray := prog_9_method_6_code
def yX7_add : MethodName := ⟨RX7, "add", "(LBuoyReader$Stretches;III)V"⟩
abbrev cX7_periodsFrom : ByteArray := prog_9_method_7_code
def yX7_periodsFrom : MethodName := ⟨RX7, "periodsFrom", "(II)I"⟩
abbrev cX7_squaresFrom : ByteArray := prog_9_method_8_code
def yX7_squaresFrom : MethodName := ⟨RX7, "squaresFrom", "(II)J"⟩
def RX8 : String := "BuoyReader"
def TX8 : u_T := fun k => match k with
  | 0 => ("BuoyReader", "settings", "LBuoyReader$Settings;", true)
  | 1 => ("BuoyReader", "lenses", "LBuoyReader$LensRow;", true)
  | 2 => ("BuoyReader", "samples", "LBuoyReader$Samples;", true)
  | 3 => ("BuoyReader", "stretches", "LBuoyReader$Stretches;", true)
  | 4 => ("BuoyReader", "waves", "LBuoyReader$Waves;", true)
  | 5 => ("BuoyReader", "ranking", "LBuoyReader$Ranking;", true)
  | 6 => ("BuoyReader", "groups", "LBuoyReader$Groups;", true)
  | 7 => ("BuoyReader", "sorter", "LBuoyReader$Sorter;", true)
  | _ => ("BuoyReader", "stale", "Z", false)
def tyX8 : Nat → FieldType := fun k => match k with
  | 0 => .object "BuoyReader$Settings"
  | 1 => .object "BuoyReader$LensRow"
  | 2 => .object "BuoyReader$Samples"
  | 3 => .object "BuoyReader$Stretches"
  | 4 => .object "BuoyReader$Waves"
  | 5 => .object "BuoyReader$Ranking"
  | 6 => .object "BuoyReader$Groups"
  | 7 => .object "BuoyReader$Sorter"
  | _ => .boolean
abbrev wsX80 : List Cond := u_ws RX8 TX8 9
theorem nmX8 : ∀ a, a < 9 → ∀ b, b < 9 → a ≠ b → (TX8 a).2.1 ≠ (TX8 b).2.1 := by decide +kernel
theorem tyX8_ok : ∀ k, k < 9 → parseFieldDescriptor (TX8 k).2.2.1 = some (tyX8 k) := by decide +kernel
abbrev cX8_init : ByteArray := prog_1_method_1_code
def yX8_init : MethodName := ⟨RX8, "<init>", "()V"⟩
abbrev cX8_heave : ByteArray := prog_1_method_2_code
def yX8_heave : MethodName := ⟨RX8, "heave", "(I)I"⟩
abbrev cX8_four : ByteArray := prog_1_method_3_code
def yX8_four : MethodName := ⟨RX8, "four", "(J)I"⟩
abbrev cX8_forget : ByteArray := prog_1_method_4_code
def yX8_forget : MethodName := ⟨RX8, "forget", "(I)I"⟩
abbrev cX8_set : ByteArray := prog_1_method_5_code
def yX8_set : MethodName := ⟨RX8, "set", "(II)Z"⟩
abbrev cX8_level : ByteArray := prog_1_method_6_code
def yX8_level : MethodName := ⟨RX8, "level", "(II)Z"⟩
abbrev cX8_mark : ByteArray := prog_1_method_7_code
def yX8_mark : MethodName := ⟨RX8, "mark", "(II)Z"⟩
abbrev cX8_lens : ByteArray := prog_1_method_8_code
def yX8_lens : MethodName := ⟨RX8, "lens", "(II)I"⟩
abbrev cX8_off : ByteArray := prog_1_method_9_code
def yX8_off : MethodName := ⟨RX8, "off", "()I"⟩
abbrev cX8_count : ByteArray := prog_1_method_10_code
def yX8_count : MethodName := ⟨RX8, "count", "(I)I"⟩
abbrev cX8_sample : ByteArray := prog_1_method_11_code
def yX8_sample : MethodName := ⟨RX8, "sample", "(II)I"⟩
abbrev cX8_through : ByteArray := prog_1_method_12_code
def yX8_through : MethodName := ⟨RX8, "through", "(II)I"⟩
abbrev cX8_stretch : ByteArray := prog_1_method_13_code
def yX8_stretch : MethodName := ⟨RX8, "stretch", "(II)I"⟩
abbrev cX8_wave : ByteArray := prog_1_method_14_code
def yX8_wave : MethodName := ⟨RX8, "wave", "(II)I"⟩
abbrev cX8_ranked : ByteArray := prog_1_method_15_code
def yX8_ranked : MethodName := ⟨RX8, "ranked", "(I)I"⟩
abbrev cX8_highest : ByteArray := prog_1_method_16_code
def yX8_highest : MethodName := ⟨RX8, "highest", "(II)I"⟩
abbrev cX8_freak : ByteArray := prog_1_method_17_code
def yX8_freak : MethodName := ⟨RX8, "freak", "(I)I"⟩
abbrev cX8_group : ByteArray := prog_1_method_18_code
def yX8_group : MethodName := ⟨RX8, "group", "(II)I"⟩
abbrev cX8_energy : ByteArray := prog_1_method_19_code
def yX8_energy : MethodName := ⟨RX8, "energy", "(I)J"⟩
abbrev cX8_name : ByteArray := prog_1_method_20_code
def yX8_name : MethodName := ⟨RX8, "name", "(II)Z"⟩
abbrev cX8_unname : ByteArray := prog_1_method_21_code
def yX8_unname : MethodName := ⟨RX8, "unname", "(I)I"⟩
abbrev cX8_named : ByteArray := prog_1_method_22_code
def yX8_named : MethodName := ⟨RX8, "named", "(I)I"⟩
abbrev cX8_would : ByteArray := prog_1_method_23_code
def yX8_would : MethodName := ⟨RX8, "would", "(I)I"⟩
abbrev cX8_quiet : ByteArray := prog_1_method_24_code
def yX8_quiet : MethodName := ⟨RX8, "quiet", "(I)I"⟩
abbrev cX8_gone : ByteArray := prog_1_method_25_code
def yX8_gone : MethodName := ⟨RX8, "gone", "(I)I"⟩
abbrev cX8_changed : ByteArray := prog_1_method_26_code
def yX8_changed : MethodName := ⟨RX8, "changed", "(Z)Z"⟩
abbrev cX8_refresh : ByteArray := prog_1_method_27_code
def yX8_refresh : MethodName := ⟨RX8, "refresh", "()V"⟩
abbrev cX8_commonDivisor : ByteArray := prog_1_method_28_code
def yX8_commonDivisor : MethodName := ⟨RX8, "commonDivisor", "(II)I"⟩
abbrev cX8_meanDown : ByteArray := prog_1_method_29_code
def yX8_meanDown : MethodName := ⟨RX8, "meanDown", "(JI)I"⟩
def RX9 : String := "BuoyReaderModel"
def TX9 : u_T := fun k => match k with
  | 0 => ("BuoyReaderModel", "raw", "[I", true)
  | 1 => ("BuoyReaderModel", "set", "[I", true)
  | 2 => ("BuoyReaderModel", "kind", "[I", true)
  | 3 => ("BuoyReaderModel", "by", "[I", true)
  | 4 => ("BuoyReaderModel", "nameOf", "[I", true)
  | 5 => ("BuoyReaderModel", "samples", "I", false)
  | 6 => ("BuoyReaderModel", "lenses", "I", false)
  | 7 => ("BuoyReaderModel", "mended", "[I", true)
  | 8 => ("BuoyReaderModel", "stretchOf", "[I", true)
  | 9 => ("BuoyReaderModel", "from", "[I", true)
  | 10 => ("BuoyReaderModel", "shown", "[I", true)
  | 11 => ("BuoyReaderModel", "before", "[I", true)
  | 12 => ("BuoyReaderModel", "stretches", "I", false)
  | 13 => ("BuoyReaderModel", "mends", "I", false)
  | 14 => ("BuoyReaderModel", "endOf0", "I", false)
  | 15 => ("BuoyReaderModel", "levelOf", "[I", true)
  | 16 => ("BuoyReaderModel", "crossings", "[I", true)
  | 17 => ("BuoyReaderModel", "firstCrossing", "[I", true)
  | 18 => ("BuoyReaderModel", "lastCrossing", "[I", true)
  | 19 => ("BuoyReaderModel", "waveOf", "[I", true)
  | 20 => ("BuoyReaderModel", "begin", "[I", true)
  | 21 => ("BuoyReaderModel", "period", "[I", true)
  | 22 => ("BuoyReaderModel", "most", "[I", true)
  | 23 => ("BuoyReaderModel", "least", "[I", true)
  | 24 => ("BuoyReaderModel", "top", "[I", true)
  | 25 => ("BuoyReaderModel", "of", "[I", true)
  | 26 => ("BuoyReaderModel", "rank", "[I", true)
  | 27 => ("BuoyReaderModel", "isHigh", "[Z", true)
  | 28 => ("BuoyReaderModel", "waves", "I", false)
  | _ => ("BuoyReaderModel", "isArmed", "Z", false)
def tyX9 : Nat → FieldType := fun k => match k with
  | 0 => .array .int
  | 1 => .array .int
  | 2 => .array .int
  | 3 => .array .int
  | 4 => .array .int
  | 5 => .int
  | 6 => .int
  | 7 => .array .int
  | 8 => .array .int
  | 9 => .array .int
  | 10 => .array .int
  | 11 => .array .int
  | 12 => .int
  | 13 => .int
  | 14 => .int
  | 15 => .array .int
  | 16 => .array .int
  | 17 => .array .int
  | 18 => .array .int
  | 19 => .array .int
  | 20 => .array .int
  | 21 => .array .int
  | 22 => .array .int
  | 23 => .array .int
  | 24 => .array .int
  | 25 => .array .int
  | 26 => .array .int
  | 27 => .array .boolean
  | 28 => .int
  | _ => .boolean
abbrev wsX90 : List Cond := u_ws RX9 TX9 30
theorem nmX9 : ∀ a, a < 30 → ∀ b, b < 30 → a ≠ b → (TX9 a).2.1 ≠ (TX9 b).2.1 := by decide +kernel
theorem tyX9_ok : ∀ k, k < 30 → parseFieldDescriptor (TX9 k).2.2.1 = some (tyX9 k) := by decide +kernel
abbrev cX9_init : ByteArray := prog_11_method_1_code
def yX9_init : MethodName := ⟨RX9, "<init>", "()V"⟩
abbrev cX9_isIn : ByteArray := prog_11_method_2_code
def yX9_isIn : MethodName := ⟨RX9, "isIn", "(III)Z"⟩
abbrev cX9_down : ByteArray := prog_11_method_3_code
def yX9_down : MethodName := ⟨RX9, "down", "(JJ)J"⟩
abbrev cX9_isHeave : ByteArray := prog_11_method_4_code
def yX9_isHeave : MethodName := ⟨RX9, "isHeave", "(I)Z"⟩
abbrev cX9_heave : ByteArray := prog_11_method_5_code
def yX9_heave : MethodName := ⟨RX9, "heave", "(I)I"⟩
abbrev cX9_part : ByteArray := prog_11_method_6_code
def yX9_part : MethodName := ⟨RX9, "part", "(JI)I"⟩
abbrev cX9_four : ByteArray := prog_11_method_7_code
def yX9_four : MethodName := ⟨RX9, "four", "(J)I"⟩
abbrev cX9_forget : ByteArray := prog_11_method_8_code
def yX9_forget : MethodName := ⟨RX9, "forget", "(I)I"⟩
abbrev cX9_set : ByteArray := prog_11_method_9_code
def yX9_set : MethodName := ⟨RX9, "set", "(II)Z"⟩
abbrev cX9_both : ByteArray := prog_11_method_10_code
def yX9_both : MethodName := ⟨RX9, "both", "(III)Z"⟩
abbrev cX9_level : ByteArray := prog_11_method_11_code
def yX9_level : MethodName := ⟨RX9, "level", "(II)Z"⟩
abbrev cX9_mark : ByteArray := prog_11_method_12_code
def yX9_mark : MethodName := ⟨RX9, "mark", "(II)Z"⟩
abbrev cX9_lens : ByteArray := prog_11_method_13_code
def yX9_lens : MethodName := ⟨RX9, "lens", "(II)I"⟩
abbrev cX9_off : ByteArray := prog_11_method_14_code
def yX9_off : MethodName := ⟨RX9, "off", "()I"⟩
abbrev cX9_laysStretches : ByteArray := prog_11_method_15_code
def yX9_laysStretches : MethodName := ⟨RX9, "laysStretches", "()V"⟩
abbrev cX9_endOf : ByteArray := prog_11_method_16_code
def yX9_endOf : MethodName := ⟨RX9, "endOf", "(I)I"⟩
abbrev cX9_shownBy : ByteArray := prog_11_method_17_code
def yX9_shownBy : MethodName := ⟨RX9, "shownBy", "(II)I"⟩
abbrev cX9_mean : ByteArray := prog_11_method_18_code
def yX9_mean : MethodName := ⟨RX9, "mean", "(II)I"⟩
abbrev cX9_laysShown : ByteArray := prog_11_method_19_code
def yX9_laysShown : MethodName := ⟨RX9, "laysShown", "(I)V"⟩
abbrev cX9_fewer : ByteArray := prog_11_method_20_code
def yX9_fewer : MethodName := ⟨RX9, "fewer", "(IIZ)I"⟩
abbrev cX9_level_ : ByteArray := prog_11_method_21_code
def yX9_level_ : MethodName := ⟨RX9, "level", "(I)I"⟩
abbrev cX9_crosses : ByteArray := prog_11_method_22_code
def yX9_crosses : MethodName := ⟨RX9, "crosses", "(III)Z"⟩
abbrev cX9_countWaves : ByteArray := prog_11_method_23_code
def yX9_countWaves : MethodName := ⟨RX9, "countWaves", "(I)I"⟩
abbrev cX9_laysWaves : ByteArray := prog_11_method_24_code
def yX9_laysWaves : MethodName := ⟨RX9, "laysWaves", "()V"⟩
abbrev cX9_wave : ByteArray := prog_11_method_25_code
def yX9_wave : MethodName := ⟨RX9, "wave", "(III)V"⟩
abbrev cX9_height : ByteArray := prog_11_method_26_code
def yX9_height : MethodName := ⟨RX9, "height", "(I)I"⟩
abbrev cX9_highestMany : ByteArray := prog_11_method_27_code
def yX9_highestMany : MethodName := ⟨RX9, "highestMany", "(I)I"⟩
abbrev cX9_highestSum : ByteArray := prog_11_method_28_code
def yX9_highestSum : MethodName := ⟨RX9, "highestSum", "(IZ)J"⟩
abbrev cX9_middleHeight : ByteArray := prog_11_method_29_code
def yX9_middleHeight : MethodName := ⟨RX9, "middleHeight", "()I"⟩
abbrev cX9_laysHigh : ByteArray := prog_11_method_30_code
def yX9_laysHigh : MethodName := ⟨RX9, "laysHigh", "()V"⟩
abbrev cX9_isFreak : ByteArray := prog_11_method_31_code
def yX9_isFreak : MethodName := ⟨RX9, "isFreak", "(I)Z"⟩
abbrev cX9_freaks : ByteArray := prog_11_method_32_code
def yX9_freaks : MethodName := ⟨RX9, "freaks", "()I"⟩
abbrev cX9_run : ByteArray := prog_11_method_33_code
def yX9_run : MethodName := ⟨RX9, "run", "(I)I"⟩
abbrev cX9_groupAt : ByteArray := prog_11_method_34_code
def yX9_groupAt : MethodName := ⟨RX9, "groupAt", "(I)I"⟩
abbrev cX9_groups : ByteArray := prog_11_method_35_code
def yX9_groups : MethodName := ⟨RX9, "groups", "()I"⟩
abbrev cX9_groupOf : ByteArray := prog_11_method_36_code
def yX9_groupOf : MethodName := ⟨RX9, "groupOf", "(I)I"⟩
abbrev cX9_names : ByteArray := prog_11_method_37_code
def yX9_names : MethodName := ⟨RX9, "names", "()I"⟩
abbrev cX9_gaps : ByteArray := prog_11_method_38_code
def yX9_gaps : MethodName := ⟨RX9, "gaps", "()I"⟩
abbrev cX9_waved : ByteArray := prog_11_method_39_code
def yX9_waved : MethodName := ⟨RX9, "waved", "()I"⟩
abbrev cX9_count : ByteArray := prog_11_method_40_code
def yX9_count : MethodName := ⟨RX9, "count", "(I)I"⟩
abbrev cX9_isSample : ByteArray := prog_11_method_41_code
def yX9_isSample : MethodName := ⟨RX9, "isSample", "(I)Z"⟩
abbrev cX9_sample : ByteArray := prog_11_method_42_code
def yX9_sample : MethodName := ⟨RX9, "sample", "(II)I"⟩
abbrev cX9_through : ByteArray := prog_11_method_43_code
def yX9_through : MethodName := ⟨RX9, "through", "(II)I"⟩
abbrev cX9_extreme : ByteArray := prog_11_method_44_code
def yX9_extreme : MethodName := ⟨RX9, "extreme", "(IZ)I"⟩
abbrev cX9_stretch : ByteArray := prog_11_method_45_code
def yX9_stretch : MethodName := ⟨RX9, "stretch", "(II)I"⟩
abbrev cX9_isWave : ByteArray := prog_11_method_46_code
def yX9_isWave : MethodName := ⟨RX9, "isWave", "(I)Z"⟩
abbrev cX9_borne : ByteArray := prog_11_method_47_code
def yX9_borne : MethodName := ⟨RX9, "borne", "(I)I"⟩
abbrev cX9_wave_ : ByteArray := prog_11_method_48_code
def yX9_wave_ : MethodName := ⟨RX9, "wave", "(II)I"⟩
abbrev cX9_ranked : ByteArray := prog_11_method_49_code
def yX9_ranked : MethodName := ⟨RX9, "ranked", "(I)I"⟩
abbrev cX9_common : ByteArray := prog_11_method_50_code
def yX9_common : MethodName := ⟨RX9, "common", "(JJ)J"⟩
abbrev cX9_highest : ByteArray := prog_11_method_51_code
def yX9_highest : MethodName := ⟨RX9, "highest", "(II)I"⟩
abbrev cX9_freak : ByteArray := prog_11_method_52_code
def yX9_freak : MethodName := ⟨RX9, "freak", "(I)I"⟩
abbrev cX9_group : ByteArray := prog_11_method_53_code
def yX9_group : MethodName := ⟨RX9, "group", "(II)I"⟩
abbrev cX9_energy : ByteArray := prog_11_method_54_code
def yX9_energy : MethodName := ⟨RX9, "energy", "(I)J"⟩
abbrev cX9_sampleOf : ByteArray := prog_11_method_55_code
def yX9_sampleOf : MethodName := ⟨RX9, "sampleOf", "(I)I"⟩
abbrev cX9_name : ByteArray := prog_11_method_56_code
def yX9_name : MethodName := ⟨RX9, "name", "(II)Z"⟩
abbrev cX9_unname : ByteArray := prog_11_method_57_code
def yX9_unname : MethodName := ⟨RX9, "unname", "(I)I"⟩
abbrev cX9_named : ByteArray := prog_11_method_58_code
def yX9_named : MethodName := ⟨RX9, "named", "(I)I"⟩
abbrev cX9_would : ByteArray := prog_11_method_59_code
def yX9_would : MethodName := ⟨RX9, "would", "(I)I"⟩
abbrev cX9_quiet : ByteArray := prog_11_method_60_code
def yX9_quiet : MethodName := ⟨RX9, "quiet", "(I)I"⟩
abbrev cX9_hasCrossing : ByteArray := prog_11_method_61_code
def yX9_hasCrossing : MethodName := ⟨RX9, "hasCrossing", "(II)Z"⟩
abbrev cX9_gone : ByteArray := prog_11_method_62_code
def yX9_gone : MethodName := ⟨RX9, "gone", "(I)I"⟩
def RJ9 : String := "java/lang/Math"
def TJ9 : u_T := fun k => match k with
  | _ => ("", "", "", false)
def tyJ9 : Nat → FieldType := fun k => match k with
  | _ => .int
abbrev wsJ90 : List Cond := u_ws RJ9 TJ9 0
theorem nmJ9 : ∀ a, a < 0 → ∀ b, b < 0 → a ≠ b → (TJ9 a).2.1 ≠ (TJ9 b).2.1 := by decide +kernel
theorem tyJ9_ok : ∀ k, k < 0 → parseFieldDescriptor (TJ9 k).2.2.1 = some (tyJ9 k) := by decide +kernel
abbrev cJ9_floorDiv_7cf53 : ByteArray := prog_12_method_47_code
def yJ9_floorDiv_7cf53 : MethodName := ⟨RJ9, "floorDiv", "(II)I"⟩
abbrev cJ9_floorDiv_f86c9 : ByteArray := prog_12_method_49_code
def yJ9_floorDiv_f86c9 : MethodName := ⟨RJ9, "floorDiv", "(JJ)J"⟩
abbrev cJ9_floorMod_f86c9 : ByteArray := prog_12_method_52_code
def yJ9_floorMod_f86c9 : MethodName := ⟨RJ9, "floorMod", "(JJ)J"⟩
abbrev cJ9_max_7cf53 : ByteArray := prog_12_method_65_code
def yJ9_max_7cf53 : MethodName := ⟨RJ9, "max", "(II)I"⟩
abbrev cJ9_min_7cf53 : ByteArray := prog_12_method_69_code
def yJ9_min_7cf53 : MethodName := ⟨RJ9, "min", "(II)I"⟩
def RL : String := "BuoyReaderLaw"
abbrev cL_law : ByteArray := code
def yL_law : MethodName := ⟨RL, "law", "([I)Z"⟩
abbrev vwCl : List vw_C := [(RX0, TX0, 4), (RX1, TX1, 3), (RX2, TX2, 7), (RX3, TX3, 3), (RX4, TX4, 5), (RX5, TX5, 3), (RX6, TX6, 9), (RX7, TX7, 11), (RX8, TX8, 9), (RX9, TX9, 30)]
/-- the cells of the world, by place: (0 int[], 1 long[], 2 boolean[], 3 int[][], 4 object; length, or class) -/
def kdL : List (Nat × Nat) := [(4, 8), (4, 4), (4, 1), (4, 3), (4, 6), (4, 7), (4, 2), (4, 0), (4, 5), (0, 4), (0, 4), (0, 4), (0, 600), (0, 600), (3, 5), (0, 600), (0, 600), (0, 600), (0, 600), (0, 600), (0, 600), (0, 300), (0, 300), (0, 300), (0, 600), (0, 300), (0, 300), (0, 300), (0, 300), (0, 300), (0, 300), (0, 300), (0, 300), (0, 300), (0, 300), (0, 300), (0, 300), (0, 300), (0, 300), (1, 600), (1, 600), (4, 9), (0, 600), (0, 8), (0, 4), (0, 4), (0, 600), (0, 600), (0, 600), (0, 601), (0, 600), (0, 600), (0, 601), (0, 601), (0, 601), (0, 601), (0, 600), (0, 301), (0, 301), (0, 301), (0, 301), (0, 301), (0, 301), (0, 301), (2, 301)]
/-- the fields of a class: 0 int, 1 long, 2 boolean, 3 a cell that never changes, 4 a cell by its place -/
def ftL : List (List (Nat × Int)) := [[(3, 36), (3, 37), (3, 38), (0, 0)], [(3, 10), (3, 11), (0, 0)], [(3, 34), (3, 35), (0, 0), (1, 0), (1, 0), (0, 0), (0, 0)], [(3, 12), (3, 13), (0, 0)], [(3, 9), (0, 0), (0, 0), (0, 0), (0, 0)], [(4, 0), (4, 0), (0, 0)], [(3, 14), (4, 0), (3, 20), (3, 21), (3, 22), (3, 23), (0, 0), (0, 0), (0, 0)], [(3, 24), (3, 25), (3, 26), (3, 27), (3, 28), (3, 29), (3, 30), (3, 31), (3, 32), (3, 33), (0, 0)], [(3, 1), (3, 2), (3, 3), (3, 4), (3, 5), (3, 6), (3, 7), (3, 8), (2, 0)], [(3, 42), (3, 43), (3, 44), (3, 45), (3, 46), (0, 0), (0, 0), (3, 47), (3, 48), (3, 49), (3, 50), (3, 51), (0, 0), (0, 0), (0, 0), (3, 52), (3, 53), (3, 54), (3, 55), (3, 56), (3, 57), (3, 58), (3, 59), (3, 60), (3, 61), (3, 62), (3, 63), (3, 64), (0, 0), (2, 0)]]
end
section
theorem dX0_init_0 : decode cX0_init 0 = .ok (.aload_n 0, 1) := by decide +kernel
theorem dX0_init_1 : decode cX0_init 1 = .ok (.invokespecial 3, 3) := by decide +kernel
theorem dX0_init_4 : decode cX0_init 4 = .ok (.aload_n 0, 1) := by decide +kernel
theorem dX0_init_5 : decode cX0_init 5 = .ok (.sipush 300, 3) := by decide +kernel
theorem dX0_init_8 : decode cX0_init 8 = .ok (.newarray .int, 2) := by decide +kernel
theorem dX0_init_10 : decode cX0_init 10 = .ok (.putfield 9, 3) := by decide +kernel
theorem dX0_init_13 : decode cX0_init 13 = .ok (.aload_n 0, 1) := by decide +kernel
theorem dX0_init_14 : decode cX0_init 14 = .ok (.sipush 300, 3) := by decide +kernel
theorem dX0_init_17 : decode cX0_init 17 = .ok (.newarray .int, 2) := by decide +kernel
theorem dX0_init_19 : decode cX0_init 19 = .ok (.putfield 15, 3) := by decide +kernel
theorem dX0_init_22 : decode cX0_init 22 = .ok (.aload_n 0, 1) := by decide +kernel
theorem dX0_init_23 : decode cX0_init 23 = .ok (.sipush 300, 3) := by decide +kernel
theorem dX0_init_26 : decode cX0_init 26 = .ok (.newarray .int, 2) := by decide +kernel
theorem dX0_init_28 : decode cX0_init 28 = .ok (.putfield 18, 3) := by decide +kernel
theorem dX0_init_31 : decode cX0_init 31 = .ok (.return_, 1) := by decide +kernel
theorem dX0_has_0 : decode cX0_has 0 = .ok (.iload_n 1, 1) := by decide +kernel
theorem dX0_has_1 : decode cX0_has 1 = .ok (.ifCond .lt 15, 3) := by decide +kernel
theorem dX0_has_4 : decode cX0_has 4 = .ok (.iload_n 1, 1) := by decide +kernel
theorem dX0_has_5 : decode cX0_has 5 = .ok (.aload_n 0, 1) := by decide +kernel
theorem dX0_has_6 : decode cX0_has 6 = .ok (.getfield 21, 3) := by decide +kernel
theorem dX0_has_9 : decode cX0_has 9 = .ok (.if_icmp .ge 7, 3) := by decide +kernel
theorem dX0_has_12 : decode cX0_has 12 = .ok (.iconst 1, 1) := by decide +kernel
theorem dX0_has_13 : decode cX0_has 13 = .ok (.goto 4, 3) := by decide +kernel
theorem dX0_has_16 : decode cX0_has 16 = .ok (.iconst 0, 1) := by decide +kernel
theorem dX0_has_17 : decode cX0_has 17 = .ok (.ireturn, 1) := by decide +kernel
theorem dX0_find_0 : decode cX0_find 0 = .ok (.aload_n 0, 1) := by decide +kernel
theorem dX0_find_1 : decode cX0_find 1 = .ok (.iconst 0, 1) := by decide +kernel
theorem dX0_find_2 : decode cX0_find 2 = .ok (.putfield 21, 3) := by decide +kernel
theorem dX0_find_5 : decode cX0_find 5 = .ok (.iconst 0, 1) := by decide +kernel
theorem dX0_find_6 : decode cX0_find 6 = .ok (.istore 4, 2) := by decide +kernel
theorem dX0_find_8 : decode cX0_find 8 = .ok (.iconst 0, 1) := by decide +kernel
theorem dX0_find_9 : decode cX0_find 9 = .ok (.istore 5, 2) := by decide +kernel
theorem dX0_find_11 : decode cX0_find 11 = .ok (.iload 5, 2) := by decide +kernel
theorem dX0_find_13 : decode cX0_find 13 = .ok (.aload_n 1, 1) := by decide +kernel
theorem dX0_find_14 : decode cX0_find 14 = .ok (.getfield 25, 3) := by decide +kernel
theorem dX0_find_17 : decode cX0_find 17 = .ok (.if_icmp .ge 91, 3) := by decide +kernel
theorem dX0_find_20 : decode cX0_find 20 = .ok (.aload_n 0, 1) := by decide +kernel
theorem dX0_find_21 : decode cX0_find 21 = .ok (.getfield 9, 3) := by decide +kernel
theorem dX0_find_24 : decode cX0_find 24 = .ok (.iload 5, 2) := by decide +kernel
theorem dX0_find_26 : decode cX0_find 26 = .ok (.iconst (-1), 1) := by decide +kernel
theorem dX0_find_27 : decode cX0_find 27 = .ok (.iastore, 1) := by decide +kernel
theorem dX0_find_28 : decode cX0_find 28 = .ok (.iload 5, 2) := by decide +kernel
theorem dX0_find_30 : decode cX0_find 30 = .ok (.ifCond .le 26, 3) := by decide +kernel
theorem dX0_find_33 : decode cX0_find 33 = .ok (.aload_n 1, 1) := by decide +kernel
theorem dX0_find_34 : decode cX0_find 34 = .ok (.getfield 28, 3) := by decide +kernel
theorem dX0_find_37 : decode cX0_find 37 = .ok (.iload 5, 2) := by decide +kernel
theorem dX0_find_39 : decode cX0_find 39 = .ok (.iaload, 1) := by decide +kernel
theorem dX0_find_40 : decode cX0_find 40 = .ok (.aload_n 1, 1) := by decide +kernel
theorem dX0_find_41 : decode cX0_find 41 = .ok (.getfield 28, 3) := by decide +kernel
theorem dX0_find_44 : decode cX0_find 44 = .ok (.iload 5, 2) := by decide +kernel
theorem dX0_find_46 : decode cX0_find 46 = .ok (.iconst 1, 1) := by decide +kernel
theorem dX0_find_47 : decode cX0_find 47 = .ok (.isub, 1) := by decide +kernel
theorem dX0_find_48 : decode cX0_find 48 = .ok (.iaload, 1) := by decide +kernel
theorem dX0_find_49 : decode cX0_find 49 = .ok (.if_icmp .eq 7, 3) := by decide +kernel
theorem dX0_find_52 : decode cX0_find 52 = .ok (.iconst 1, 1) := by decide +kernel
theorem dX0_find_53 : decode cX0_find 53 = .ok (.goto 4, 3) := by decide +kernel
theorem dX0_find_56 : decode cX0_find 56 = .ok (.iconst 0, 1) := by decide +kernel
theorem dX0_find_57 : decode cX0_find 57 = .ok (.istore 6, 2) := by decide +kernel
theorem dX0_find_59 : decode cX0_find 59 = .ok (.aload_n 2, 1) := by decide +kernel
theorem dX0_find_60 : decode cX0_find 60 = .ok (.aload_n 1, 1) := by decide +kernel
theorem dX0_find_61 : decode cX0_find 61 = .ok (.iload 5, 2) := by decide +kernel
theorem dX0_find_63 : decode cX0_find 63 = .ok (.aload_n 3, 1) := by decide +kernel
theorem dX0_find_64 : decode cX0_find 64 = .ok (.invokevirtual 31, 3) := by decide +kernel
theorem dX0_find_67 : decode cX0_find 67 = .ok (.istore 7, 2) := by decide +kernel
theorem dX0_find_69 : decode cX0_find 69 = .ok (.iload 6, 2) := by decide +kernel
theorem dX0_find_71 : decode cX0_find 71 = .ok (.ifCond .ne 8, 3) := by decide +kernel
theorem dX0_find_74 : decode cX0_find 74 = .ok (.iload 7, 2) := by decide +kernel
theorem dX0_find_76 : decode cX0_find 76 = .ok (.ifCond .ne 18, 3) := by decide +kernel
theorem dX0_find_79 : decode cX0_find 79 = .ok (.aload_n 0, 1) := by decide +kernel
theorem dX0_find_80 : decode cX0_find 80 = .ok (.iload 5, 2) := by decide +kernel
theorem dX0_find_82 : decode cX0_find 82 = .ok (.iload 4, 2) := by decide +kernel
theorem dX0_find_84 : decode cX0_find 84 = .ok (.aload_n 3, 1) := by decide +kernel
theorem dX0_find_85 : decode cX0_find 85 = .ok (.invokevirtual 37, 3) := by decide +kernel
theorem dX0_find_88 : decode cX0_find 88 = .ok (.invokevirtual 43, 3) := by decide +kernel
theorem dX0_find_91 : decode cX0_find 91 = .ok (.iconst 0, 1) := by decide +kernel
theorem dX0_find_92 : decode cX0_find 92 = .ok (.istore 4, 2) := by decide +kernel
theorem dX0_find_94 : decode cX0_find 94 = .ok (.iload 7, 2) := by decide +kernel
theorem dX0_find_96 : decode cX0_find 96 = .ok (.ifCond .eq 6, 3) := by decide +kernel
theorem dX0_find_99 : decode cX0_find 99 = .ok (.iinc 4 1, 3) := by decide +kernel
theorem dX0_find_102 : decode cX0_find 102 = .ok (.iinc 5 1, 3) := by decide +kernel
theorem dX0_find_105 : decode cX0_find 105 = .ok (.goto (-94), 3) := by decide +kernel
theorem dX0_find_108 : decode cX0_find 108 = .ok (.aload_n 0, 1) := by decide +kernel
theorem dX0_find_109 : decode cX0_find 109 = .ok (.aload_n 1, 1) := by decide +kernel
theorem dX0_find_110 : decode cX0_find 110 = .ok (.getfield 25, 3) := by decide +kernel
theorem dX0_find_113 : decode cX0_find 113 = .ok (.iload 4, 2) := by decide +kernel
theorem dX0_find_115 : decode cX0_find 115 = .ok (.aload_n 3, 1) := by decide +kernel
theorem dX0_find_116 : decode cX0_find 116 = .ok (.invokevirtual 37, 3) := by decide +kernel
theorem dX0_find_119 : decode cX0_find 119 = .ok (.invokevirtual 43, 3) := by decide +kernel
theorem dX0_find_122 : decode cX0_find 122 = .ok (.return_, 1) := by decide +kernel
theorem dX0_close_0 : decode cX0_close 0 = .ok (.iload_n 2, 1) := by decide +kernel
theorem dX0_close_1 : decode cX0_close 1 = .ok (.iload_n 3, 1) := by decide +kernel
theorem dX0_close_2 : decode cX0_close 2 = .ok (.if_icmp .lt 15, 3) := by decide +kernel
theorem dX0_close_5 : decode cX0_close 5 = .ok (.aload_n 0, 1) := by decide +kernel
theorem dX0_close_6 : decode cX0_close 6 = .ok (.getfield 21, 3) := by decide +kernel
theorem dX0_close_9 : decode cX0_close 9 = .ok (.aload_n 0, 1) := by decide +kernel
theorem dX0_close_10 : decode cX0_close 10 = .ok (.getfield 15, 3) := by decide +kernel
theorem dX0_close_13 : decode cX0_close 13 = .ok (.arraylength, 1) := by decide +kernel
theorem dX0_close_14 : decode cX0_close 14 = .ok (.if_icmp .lt 4, 3) := by decide +kernel
theorem dX0_close_17 : decode cX0_close 17 = .ok (.return_, 1) := by decide +kernel
theorem dX0_close_18 : decode cX0_close 18 = .ok (.aload_n 0, 1) := by decide +kernel
theorem dX0_close_19 : decode cX0_close 19 = .ok (.getfield 15, 3) := by decide +kernel
theorem dX0_close_22 : decode cX0_close 22 = .ok (.aload_n 0, 1) := by decide +kernel
theorem dX0_close_23 : decode cX0_close 23 = .ok (.getfield 21, 3) := by decide +kernel
theorem dX0_close_26 : decode cX0_close 26 = .ok (.iload_n 1, 1) := by decide +kernel
theorem dX0_close_27 : decode cX0_close 27 = .ok (.iload_n 2, 1) := by decide +kernel
theorem dX0_close_28 : decode cX0_close 28 = .ok (.isub, 1) := by decide +kernel
theorem dX0_close_29 : decode cX0_close 29 = .ok (.iastore, 1) := by decide +kernel
theorem dX0_close_30 : decode cX0_close 30 = .ok (.aload_n 0, 1) := by decide +kernel
theorem dX0_close_31 : decode cX0_close 31 = .ok (.getfield 18, 3) := by decide +kernel
theorem dX0_close_34 : decode cX0_close 34 = .ok (.aload_n 0, 1) := by decide +kernel
theorem dX0_close_35 : decode cX0_close 35 = .ok (.getfield 21, 3) := by decide +kernel
theorem dX0_close_38 : decode cX0_close 38 = .ok (.iload_n 2, 1) := by decide +kernel
theorem dX0_close_39 : decode cX0_close 39 = .ok (.iastore, 1) := by decide +kernel
theorem dX0_close_40 : decode cX0_close 40 = .ok (.iload_n 1, 1) := by decide +kernel
theorem dX0_close_41 : decode cX0_close 41 = .ok (.iload_n 2, 1) := by decide +kernel
theorem dX0_close_42 : decode cX0_close 42 = .ok (.isub, 1) := by decide +kernel
theorem dX0_close_43 : decode cX0_close 43 = .ok (.istore 4, 2) := by decide +kernel
theorem dX0_close_45 : decode cX0_close 45 = .ok (.iload 4, 2) := by decide +kernel
theorem dX0_close_47 : decode cX0_close 47 = .ok (.iload_n 1, 1) := by decide +kernel
theorem dX0_close_48 : decode cX0_close 48 = .ok (.if_icmp .ge 20, 3) := by decide +kernel
theorem dX0_close_51 : decode cX0_close 51 = .ok (.aload_n 0, 1) := by decide +kernel
theorem dX0_close_52 : decode cX0_close 52 = .ok (.getfield 9, 3) := by decide +kernel
theorem dX0_close_55 : decode cX0_close 55 = .ok (.iload 4, 2) := by decide +kernel
theorem dX0_close_57 : decode cX0_close 57 = .ok (.aload_n 0, 1) := by decide +kernel
theorem dX0_close_58 : decode cX0_close 58 = .ok (.getfield 21, 3) := by decide +kernel
theorem dX0_close_61 : decode cX0_close 61 = .ok (.iastore, 1) := by decide +kernel
theorem dX0_close_62 : decode cX0_close 62 = .ok (.iinc 4 1, 3) := by decide +kernel
theorem dX0_close_65 : decode cX0_close 65 = .ok (.goto (-20), 3) := by decide +kernel
theorem dX0_close_68 : decode cX0_close 68 = .ok (.aload_n 0, 1) := by decide +kernel
theorem dX0_close_69 : decode cX0_close 69 = .ok (.dup, 1) := by decide +kernel
theorem dX0_close_70 : decode cX0_close 70 = .ok (.getfield 21, 3) := by decide +kernel
theorem dX0_close_73 : decode cX0_close 73 = .ok (.iconst 1, 1) := by decide +kernel
theorem dX0_close_74 : decode cX0_close 74 = .ok (.iadd, 1) := by decide +kernel
theorem dX0_close_75 : decode cX0_close 75 = .ok (.putfield 21, 3) := by decide +kernel
theorem dX0_close_78 : decode cX0_close 78 = .ok (.return_, 1) := by decide +kernel
theorem dX1_init_0 : decode cX1_init 0 = .ok (.aload_n 0, 1) := by decide +kernel
theorem dX1_init_1 : decode cX1_init 1 = .ok (.invokespecial 3, 3) := by decide +kernel
theorem dX1_init_4 : decode cX1_init 4 = .ok (.aload_n 0, 1) := by decide +kernel
theorem dX1_init_5 : decode cX1_init 5 = .ok (.iconst 4, 1) := by decide +kernel
theorem dX1_init_6 : decode cX1_init 6 = .ok (.newarray .int, 2) := by decide +kernel
theorem dX1_init_8 : decode cX1_init 8 = .ok (.putfield 9, 3) := by decide +kernel
theorem dX1_init_11 : decode cX1_init 11 = .ok (.aload_n 0, 1) := by decide +kernel
theorem dX1_init_12 : decode cX1_init 12 = .ok (.iconst 4, 1) := by decide +kernel
theorem dX1_init_13 : decode cX1_init 13 = .ok (.newarray .int, 2) := by decide +kernel
theorem dX1_init_15 : decode cX1_init 15 = .ok (.putfield 15, 3) := by decide +kernel
theorem dX1_init_18 : decode cX1_init 18 = .ok (.return_, 1) := by decide +kernel
theorem dX1_canBe_0 : decode cX1_canBe 0 = .ok (.iload_n 0, 1) := by decide +kernel
theorem dX1_canBe_1 : decode cX1_canBe 1 = .ok (.ifCond .lt 33, 3) := by decide +kernel
theorem dX1_canBe_4 : decode cX1_canBe 4 = .ok (.iload_n 0, 1) := by decide +kernel
theorem dX1_canBe_5 : decode cX1_canBe 5 = .ok (.getstatic 18, 3) := by decide +kernel
theorem dX1_canBe_8 : decode cX1_canBe 8 = .ok (.arraylength, 1) := by decide +kernel
theorem dX1_canBe_9 : decode cX1_canBe 9 = .ok (.if_icmp .ge 25, 3) := by decide +kernel
theorem dX1_canBe_12 : decode cX1_canBe 12 = .ok (.iload_n 1, 1) := by decide +kernel
theorem dX1_canBe_13 : decode cX1_canBe 13 = .ok (.getstatic 18, 3) := by decide +kernel
theorem dX1_canBe_16 : decode cX1_canBe 16 = .ok (.iload_n 0, 1) := by decide +kernel
theorem dX1_canBe_17 : decode cX1_canBe 17 = .ok (.iaload, 1) := by decide +kernel
theorem dX1_canBe_18 : decode cX1_canBe 18 = .ok (.if_icmp .lt 16, 3) := by decide +kernel
theorem dX1_canBe_21 : decode cX1_canBe 21 = .ok (.iload_n 1, 1) := by decide +kernel
theorem dX1_canBe_22 : decode cX1_canBe 22 = .ok (.getstatic 21, 3) := by decide +kernel
theorem dX1_canBe_25 : decode cX1_canBe 25 = .ok (.iload_n 0, 1) := by decide +kernel
theorem dX1_canBe_26 : decode cX1_canBe 26 = .ok (.iaload, 1) := by decide +kernel
theorem dX1_canBe_27 : decode cX1_canBe 27 = .ok (.if_icmp .gt 7, 3) := by decide +kernel
theorem dX1_canBe_30 : decode cX1_canBe 30 = .ok (.iconst 1, 1) := by decide +kernel
theorem dX1_canBe_31 : decode cX1_canBe 31 = .ok (.goto 4, 3) := by decide +kernel
theorem dX1_canBe_34 : decode cX1_canBe 34 = .ok (.iconst 0, 1) := by decide +kernel
theorem dX1_canBe_35 : decode cX1_canBe 35 = .ok (.ireturn, 1) := by decide +kernel
theorem dX1_lay_0 : decode cX1_lay 0 = .ok (.aload_n 0, 1) := by decide +kernel
theorem dX1_lay_1 : decode cX1_lay 1 = .ok (.getfield 24, 3) := by decide +kernel
theorem dX1_lay_4 : decode cX1_lay 4 = .ok (.aload_n 0, 1) := by decide +kernel
theorem dX1_lay_5 : decode cX1_lay 5 = .ok (.getfield 9, 3) := by decide +kernel
theorem dX1_lay_8 : decode cX1_lay 8 = .ok (.arraylength, 1) := by decide +kernel
theorem dX1_lay_9 : decode cX1_lay 9 = .ok (.if_icmp .lt 4, 3) := by decide +kernel
theorem dX1_lay_12 : decode cX1_lay 12 = .ok (.return_, 1) := by decide +kernel
theorem dX1_lay_13 : decode cX1_lay 13 = .ok (.aload_n 0, 1) := by decide +kernel
theorem dX1_lay_14 : decode cX1_lay 14 = .ok (.getfield 9, 3) := by decide +kernel
theorem dX1_lay_17 : decode cX1_lay 17 = .ok (.aload_n 0, 1) := by decide +kernel
theorem dX1_lay_18 : decode cX1_lay 18 = .ok (.getfield 24, 3) := by decide +kernel
theorem dX1_lay_21 : decode cX1_lay 21 = .ok (.iload_n 1, 1) := by decide +kernel
theorem dX1_lay_22 : decode cX1_lay 22 = .ok (.iastore, 1) := by decide +kernel
theorem dX1_lay_23 : decode cX1_lay 23 = .ok (.aload_n 0, 1) := by decide +kernel
theorem dX1_lay_24 : decode cX1_lay 24 = .ok (.getfield 15, 3) := by decide +kernel
theorem dX1_lay_27 : decode cX1_lay 27 = .ok (.aload_n 0, 1) := by decide +kernel
theorem dX1_lay_28 : decode cX1_lay 28 = .ok (.getfield 24, 3) := by decide +kernel
theorem dX1_lay_31 : decode cX1_lay 31 = .ok (.iload_n 2, 1) := by decide +kernel
theorem dX1_lay_32 : decode cX1_lay 32 = .ok (.iastore, 1) := by decide +kernel
theorem dX1_lay_33 : decode cX1_lay 33 = .ok (.aload_n 0, 1) := by decide +kernel
theorem dX1_lay_34 : decode cX1_lay 34 = .ok (.dup, 1) := by decide +kernel
theorem dX1_lay_35 : decode cX1_lay 35 = .ok (.getfield 24, 3) := by decide +kernel
theorem dX1_lay_38 : decode cX1_lay 38 = .ok (.iconst 1, 1) := by decide +kernel
theorem dX1_lay_39 : decode cX1_lay 39 = .ok (.iadd, 1) := by decide +kernel
theorem dX1_lay_40 : decode cX1_lay 40 = .ok (.putfield 24, 3) := by decide +kernel
theorem dX1_lay_43 : decode cX1_lay 43 = .ok (.return_, 1) := by decide +kernel
theorem dX1_takeOff_0 : decode cX1_takeOff 0 = .ok (.aload_n 0, 1) := by decide +kernel
theorem dX1_takeOff_1 : decode cX1_takeOff 1 = .ok (.getfield 24, 3) := by decide +kernel
theorem dX1_takeOff_4 : decode cX1_takeOff 4 = .ok (.ifCond .le 13, 3) := by decide +kernel
theorem dX1_takeOff_7 : decode cX1_takeOff 7 = .ok (.aload_n 0, 1) := by decide +kernel
theorem dX1_takeOff_8 : decode cX1_takeOff 8 = .ok (.dup, 1) := by decide +kernel
theorem dX1_takeOff_9 : decode cX1_takeOff 9 = .ok (.getfield 24, 3) := by decide +kernel
theorem dX1_takeOff_12 : decode cX1_takeOff 12 = .ok (.iconst 1, 1) := by decide +kernel
theorem dX1_takeOff_13 : decode cX1_takeOff 13 = .ok (.isub, 1) := by decide +kernel
theorem dX1_takeOff_14 : decode cX1_takeOff 14 = .ok (.putfield 24, 3) := by decide +kernel
theorem dX1_takeOff_17 : decode cX1_takeOff 17 = .ok (.return_, 1) := by decide +kernel
theorem dX1_show_0 : decode cX1_show 0 = .ok (.iload_n 1, 1) := by decide +kernel
theorem dX1_show_1 : decode cX1_show 1 = .ok (.ifCond .lt 11, 3) := by decide +kernel
theorem dX1_show_4 : decode cX1_show 4 = .ok (.iload_n 1, 1) := by decide +kernel
theorem dX1_show_5 : decode cX1_show 5 = .ok (.aload_n 0, 1) := by decide +kernel
theorem dX1_show_6 : decode cX1_show 6 = .ok (.getfield 24, 3) := by decide +kernel
theorem dX1_show_9 : decode cX1_show 9 = .ok (.if_icmp .lt 4, 3) := by decide +kernel
theorem dX1_show_12 : decode cX1_show 12 = .ok (.return_, 1) := by decide +kernel
theorem dX1_show_13 : decode cX1_show 13 = .ok (.aload_n 0, 1) := by decide +kernel
theorem dX1_show_14 : decode cX1_show 14 = .ok (.getfield 15, 3) := by decide +kernel
theorem dX1_show_17 : decode cX1_show 17 = .ok (.iload_n 1, 1) := by decide +kernel
theorem dX1_show_18 : decode cX1_show 18 = .ok (.iaload, 1) := by decide +kernel
theorem dX1_show_19 : decode cX1_show 19 = .ok (.istore 6, 2) := by decide +kernel
theorem dX1_show_21 : decode cX1_show 21 = .ok (.aload_n 0, 1) := by decide +kernel
theorem dX1_show_22 : decode cX1_show 22 = .ok (.getfield 9, 3) := by decide +kernel
theorem dX1_show_25 : decode cX1_show 25 = .ok (.iload_n 1, 1) := by decide +kernel
theorem dX1_show_26 : decode cX1_show 26 = .ok (.iaload, 1) := by decide +kernel
theorem dX1_show_27 : decode cX1_show 27 = .ok (.ifCond .ne 15, 3) := by decide +kernel
theorem dX1_show_30 : decode cX1_show 30 = .ok (.aload_n 2, 1) := by decide +kernel
theorem dX1_show_31 : decode cX1_show 31 = .ok (.aload_n 3, 1) := by decide +kernel
theorem dX1_show_32 : decode cX1_show 32 = .ok (.iload 4, 2) := by decide +kernel
theorem dX1_show_34 : decode cX1_show 34 = .ok (.iload 5, 2) := by decide +kernel
theorem dX1_show_36 : decode cX1_show 36 = .ok (.iload 6, 2) := by decide +kernel
theorem dX1_show_38 : decode cX1_show 38 = .ok (.invokestatic 28, 3) := by decide +kernel
theorem dX1_show_41 : decode cX1_show 41 = .ok (.return_, 1) := by decide +kernel
theorem dX1_show_42 : decode cX1_show 42 = .ok (.iload 4, 2) := by decide +kernel
theorem dX1_show_44 : decode cX1_show 44 = .ok (.istore 7, 2) := by decide +kernel
theorem dX1_show_46 : decode cX1_show 46 = .ok (.iload 7, 2) := by decide +kernel
theorem dX1_show_48 : decode cX1_show 48 = .ok (.iload 5, 2) := by decide +kernel
theorem dX1_show_50 : decode cX1_show 50 = .ok (.if_icmp .ge 138, 3) := by decide +kernel
theorem dX1_show_53 : decode cX1_show 53 = .ok (.aload_n 0, 1) := by decide +kernel
theorem dX1_show_54 : decode cX1_show 54 = .ok (.getfield 9, 3) := by decide +kernel
theorem dX1_show_57 : decode cX1_show 57 = .ok (.iload_n 1, 1) := by decide +kernel
theorem dX1_show_58 : decode cX1_show 58 = .ok (.iaload, 1) := by decide +kernel
theorem dX1_show_59 : decode cX1_show 59 = .ok (.tableswitch 115 1 4 #[29, 51, 63, 82], 29) := by decide +kernel
theorem dX1_show_88 : decode cX1_show 88 = .ok (.aload_n 3, 1) := by decide +kernel
theorem dX1_show_89 : decode cX1_show 89 = .ok (.iload 7, 2) := by decide +kernel
theorem dX1_show_91 : decode cX1_show 91 = .ok (.iload 6, 2) := by decide +kernel
theorem dX1_show_93 : decode cX1_show 93 = .ok (.ineg, 1) := by decide +kernel
theorem dX1_show_94 : decode cX1_show 94 = .ok (.iload 6, 2) := by decide +kernel
theorem dX1_show_96 : decode cX1_show 96 = .ok (.aload_n 2, 1) := by decide +kernel
theorem dX1_show_97 : decode cX1_show 97 = .ok (.iload 7, 2) := by decide +kernel
theorem dX1_show_99 : decode cX1_show 99 = .ok (.iaload, 1) := by decide +kernel
theorem dX1_show_100 : decode cX1_show 100 = .ok (.invokestatic 32, 3) := by decide +kernel
theorem dX1_show_103 : decode cX1_show 103 = .ok (.invokestatic 38, 3) := by decide +kernel
theorem dX1_show_106 : decode cX1_show 106 = .ok (.iastore, 1) := by decide +kernel
theorem dX1_show_107 : decode cX1_show 107 = .ok (.goto 75, 3) := by decide +kernel
theorem dX1_show_110 : decode cX1_show 110 = .ok (.aload_n 3, 1) := by decide +kernel
theorem dX1_show_111 : decode cX1_show 111 = .ok (.iload 7, 2) := by decide +kernel
theorem dX1_show_113 : decode cX1_show 113 = .ok (.aload_n 2, 1) := by decide +kernel
theorem dX1_show_114 : decode cX1_show 114 = .ok (.iload 7, 2) := by decide +kernel
theorem dX1_show_116 : decode cX1_show 116 = .ok (.iaload, 1) := by decide +kernel
theorem dX1_show_117 : decode cX1_show 117 = .ok (.ineg, 1) := by decide +kernel
theorem dX1_show_118 : decode cX1_show 118 = .ok (.iastore, 1) := by decide +kernel
theorem dX1_show_119 : decode cX1_show 119 = .ok (.goto 63, 3) := by decide +kernel
theorem dX1_show_122 : decode cX1_show 122 = .ok (.aload_n 3, 1) := by decide +kernel
theorem dX1_show_123 : decode cX1_show 123 = .ok (.iload 7, 2) := by decide +kernel
theorem dX1_show_125 : decode cX1_show 125 = .ok (.aload_n 2, 1) := by decide +kernel
theorem dX1_show_126 : decode cX1_show 126 = .ok (.iload 7, 2) := by decide +kernel
theorem dX1_show_128 : decode cX1_show 128 = .ok (.iaload, 1) := by decide +kernel
theorem dX1_show_129 : decode cX1_show 129 = .ok (.iload 6, 2) := by decide +kernel
theorem dX1_show_131 : decode cX1_show 131 = .ok (.imul, 1) := by decide +kernel
theorem dX1_show_132 : decode cX1_show 132 = .ok (.bipush 10, 2) := by decide +kernel
theorem dX1_show_134 : decode cX1_show 134 = .ok (.invokestatic 41, 3) := by decide +kernel
theorem dX1_show_137 : decode cX1_show 137 = .ok (.iastore, 1) := by decide +kernel
theorem dX1_show_138 : decode cX1_show 138 = .ok (.goto 44, 3) := by decide +kernel
theorem dX1_show_141 : decode cX1_show 141 = .ok (.aload_n 3, 1) := by decide +kernel
theorem dX1_show_142 : decode cX1_show 142 = .ok (.iload 7, 2) := by decide +kernel
theorem dX1_show_144 : decode cX1_show 144 = .ok (.iload 7, 2) := by decide +kernel
theorem dX1_show_146 : decode cX1_show 146 = .ok (.iload 4, 2) := by decide +kernel
theorem dX1_show_148 : decode cX1_show 148 = .ok (.isub, 1) := by decide +kernel
theorem dX1_show_149 : decode cX1_show 149 = .ok (.iload 6, 2) := by decide +kernel
theorem dX1_show_151 : decode cX1_show 151 = .ok (.if_icmp .ge 7, 3) := by decide +kernel
theorem dX1_show_154 : decode cX1_show 154 = .ok (.iconst 0, 1) := by decide +kernel
theorem dX1_show_155 : decode cX1_show 155 = .ok (.goto 15, 3) := by decide +kernel
theorem dX1_show_158 : decode cX1_show 158 = .ok (.aload_n 2, 1) := by decide +kernel
theorem dX1_show_159 : decode cX1_show 159 = .ok (.iload 7, 2) := by decide +kernel
theorem dX1_show_161 : decode cX1_show 161 = .ok (.iaload, 1) := by decide +kernel
theorem dX1_show_162 : decode cX1_show 162 = .ok (.aload_n 2, 1) := by decide +kernel
theorem dX1_show_163 : decode cX1_show 163 = .ok (.iload 7, 2) := by decide +kernel
theorem dX1_show_165 : decode cX1_show 165 = .ok (.iload 6, 2) := by decide +kernel
theorem dX1_show_167 : decode cX1_show 167 = .ok (.isub, 1) := by decide +kernel
theorem dX1_show_168 : decode cX1_show 168 = .ok (.iaload, 1) := by decide +kernel
theorem dX1_show_169 : decode cX1_show 169 = .ok (.isub, 1) := by decide +kernel
theorem dX1_show_170 : decode cX1_show 170 = .ok (.iastore, 1) := by decide +kernel
theorem dX1_show_171 : decode cX1_show 171 = .ok (.goto 11, 3) := by decide +kernel
theorem dX1_show_174 : decode cX1_show 174 = .ok (.aload_n 3, 1) := by decide +kernel
theorem dX1_show_175 : decode cX1_show 175 = .ok (.iload 7, 2) := by decide +kernel
theorem dX1_show_177 : decode cX1_show 177 = .ok (.aload_n 2, 1) := by decide +kernel
theorem dX1_show_178 : decode cX1_show 178 = .ok (.iload 7, 2) := by decide +kernel
theorem dX1_show_180 : decode cX1_show 180 = .ok (.iaload, 1) := by decide +kernel
theorem dX1_show_181 : decode cX1_show 181 = .ok (.iastore, 1) := by decide +kernel
theorem dX1_show_182 : decode cX1_show 182 = .ok (.iinc 7 1, 3) := by decide +kernel
theorem dX1_show_185 : decode cX1_show 185 = .ok (.goto (-139), 3) := by decide +kernel
theorem dX1_show_188 : decode cX1_show 188 = .ok (.return_, 1) := by decide +kernel
theorem dX1_showMean_0 : decode cX1_showMean 0 = .ok (.lconst 0, 1) := by decide +kernel
theorem dX1_showMean_1 : decode cX1_showMean 1 = .ok (.lstore 5, 2) := by decide +kernel
theorem dX1_showMean_3 : decode cX1_showMean 3 = .ok (.iload_n 2, 1) := by decide +kernel
theorem dX1_showMean_4 : decode cX1_showMean 4 = .ok (.istore 7, 2) := by decide +kernel
theorem dX1_showMean_6 : decode cX1_showMean 6 = .ok (.iload_n 2, 1) := by decide +kernel
theorem dX1_showMean_7 : decode cX1_showMean 7 = .ok (.istore 8, 2) := by decide +kernel
theorem dX1_showMean_9 : decode cX1_showMean 9 = .ok (.iload_n 2, 1) := by decide +kernel
theorem dX1_showMean_10 : decode cX1_showMean 10 = .ok (.istore 9, 2) := by decide +kernel
theorem dX1_showMean_12 : decode cX1_showMean 12 = .ok (.iload 9, 2) := by decide +kernel
theorem dX1_showMean_14 : decode cX1_showMean 14 = .ok (.iload_n 3, 1) := by decide +kernel
theorem dX1_showMean_15 : decode cX1_showMean 15 = .ok (.if_icmp .ge 81, 3) := by decide +kernel
theorem dX1_showMean_18 : decode cX1_showMean 18 = .ok (.iload 8, 2) := by decide +kernel
theorem dX1_showMean_20 : decode cX1_showMean 20 = .ok (.iload_n 3, 1) := by decide +kernel
theorem dX1_showMean_21 : decode cX1_showMean 21 = .ok (.if_icmp .ge 29, 3) := by decide +kernel
theorem dX1_showMean_24 : decode cX1_showMean 24 = .ok (.iload 8, 2) := by decide +kernel
theorem dX1_showMean_26 : decode cX1_showMean 26 = .ok (.iload 9, 2) := by decide +kernel
theorem dX1_showMean_28 : decode cX1_showMean 28 = .ok (.iload 4, 2) := by decide +kernel
theorem dX1_showMean_30 : decode cX1_showMean 30 = .ok (.iadd, 1) := by decide +kernel
theorem dX1_showMean_31 : decode cX1_showMean 31 = .ok (.if_icmp .gt 19, 3) := by decide +kernel
theorem dX1_showMean_34 : decode cX1_showMean 34 = .ok (.lload 5, 2) := by decide +kernel
theorem dX1_showMean_36 : decode cX1_showMean 36 = .ok (.aload_n 0, 1) := by decide +kernel
theorem dX1_showMean_37 : decode cX1_showMean 37 = .ok (.iload 8, 2) := by decide +kernel
theorem dX1_showMean_39 : decode cX1_showMean 39 = .ok (.iaload, 1) := by decide +kernel
theorem dX1_showMean_40 : decode cX1_showMean 40 = .ok (.i2l, 1) := by decide +kernel
theorem dX1_showMean_41 : decode cX1_showMean 41 = .ok (.ladd, 1) := by decide +kernel
theorem dX1_showMean_42 : decode cX1_showMean 42 = .ok (.lstore 5, 2) := by decide +kernel
theorem dX1_showMean_44 : decode cX1_showMean 44 = .ok (.iinc 8 1, 3) := by decide +kernel
theorem dX1_showMean_47 : decode cX1_showMean 47 = .ok (.goto (-29), 3) := by decide +kernel
theorem dX1_showMean_50 : decode cX1_showMean 50 = .ok (.iload 7, 2) := by decide +kernel
theorem dX1_showMean_52 : decode cX1_showMean 52 = .ok (.iload 9, 2) := by decide +kernel
theorem dX1_showMean_54 : decode cX1_showMean 54 = .ok (.iload 4, 2) := by decide +kernel
theorem dX1_showMean_56 : decode cX1_showMean 56 = .ok (.isub, 1) := by decide +kernel
theorem dX1_showMean_57 : decode cX1_showMean 57 = .ok (.if_icmp .ge 19, 3) := by decide +kernel
theorem dX1_showMean_60 : decode cX1_showMean 60 = .ok (.lload 5, 2) := by decide +kernel
theorem dX1_showMean_62 : decode cX1_showMean 62 = .ok (.aload_n 0, 1) := by decide +kernel
theorem dX1_showMean_63 : decode cX1_showMean 63 = .ok (.iload 7, 2) := by decide +kernel
theorem dX1_showMean_65 : decode cX1_showMean 65 = .ok (.iaload, 1) := by decide +kernel
theorem dX1_showMean_66 : decode cX1_showMean 66 = .ok (.i2l, 1) := by decide +kernel
theorem dX1_showMean_67 : decode cX1_showMean 67 = .ok (.lsub, 1) := by decide +kernel
theorem dX1_showMean_68 : decode cX1_showMean 68 = .ok (.lstore 5, 2) := by decide +kernel
theorem dX1_showMean_70 : decode cX1_showMean 70 = .ok (.iinc 7 1, 3) := by decide +kernel
theorem dX1_showMean_73 : decode cX1_showMean 73 = .ok (.goto (-23), 3) := by decide +kernel
theorem dX1_showMean_76 : decode cX1_showMean 76 = .ok (.aload_n 1, 1) := by decide +kernel
theorem dX1_showMean_77 : decode cX1_showMean 77 = .ok (.iload 9, 2) := by decide +kernel
theorem dX1_showMean_79 : decode cX1_showMean 79 = .ok (.lload 5, 2) := by decide +kernel
theorem dX1_showMean_81 : decode cX1_showMean 81 = .ok (.iload 8, 2) := by decide +kernel
theorem dX1_showMean_83 : decode cX1_showMean 83 = .ok (.iload 7, 2) := by decide +kernel
theorem dX1_showMean_85 : decode cX1_showMean 85 = .ok (.isub, 1) := by decide +kernel
theorem dX1_showMean_86 : decode cX1_showMean 86 = .ok (.invokestatic 44, 3) := by decide +kernel
theorem dX1_showMean_89 : decode cX1_showMean 89 = .ok (.iastore, 1) := by decide +kernel
theorem dX1_showMean_90 : decode cX1_showMean 90 = .ok (.iinc 9 1, 3) := by decide +kernel
theorem dX1_showMean_93 : decode cX1_showMean 93 = .ok (.goto (-81), 3) := by decide +kernel
theorem dX1_showMean_96 : decode cX1_showMean 96 = .ok (.return_, 1) := by decide +kernel
theorem dX2_init_0 : decode cX2_init 0 = .ok (.aload_n 0, 1) := by decide +kernel
theorem dX2_init_1 : decode cX2_init 1 = .ok (.invokespecial 3, 3) := by decide +kernel
theorem dX2_init_4 : decode cX2_init 4 = .ok (.aload_n 0, 1) := by decide +kernel
theorem dX2_init_5 : decode cX2_init 5 = .ok (.sipush 300, 3) := by decide +kernel
theorem dX2_init_8 : decode cX2_init 8 = .ok (.newarray .int, 2) := by decide +kernel
theorem dX2_init_10 : decode cX2_init 10 = .ok (.putfield 9, 3) := by decide +kernel
theorem dX2_init_13 : decode cX2_init 13 = .ok (.aload_n 0, 1) := by decide +kernel
theorem dX2_init_14 : decode cX2_init 14 = .ok (.sipush 300, 3) := by decide +kernel
theorem dX2_init_17 : decode cX2_init 17 = .ok (.newarray .int, 2) := by decide +kernel
theorem dX2_init_19 : decode cX2_init 19 = .ok (.putfield 15, 3) := by decide +kernel
theorem dX2_init_22 : decode cX2_init 22 = .ok (.return_, 1) := by decide +kernel
theorem dX2_partOf_0 : decode cX2_partOf 0 = .ok (.iload_n 0, 1) := by decide +kernel
theorem dX2_partOf_1 : decode cX2_partOf 1 = .ok (.iconst 1, 1) := by decide +kernel
theorem dX2_partOf_2 : decode cX2_partOf 2 = .ok (.if_icmp .lt 8, 3) := by decide +kernel
theorem dX2_partOf_5 : decode cX2_partOf 5 = .ok (.iload_n 1, 1) := by decide +kernel
theorem dX2_partOf_6 : decode cX2_partOf 6 = .ok (.iconst 1, 1) := by decide +kernel
theorem dX2_partOf_7 : decode cX2_partOf 7 = .ok (.if_icmp .ge 7, 3) := by decide +kernel
theorem dX2_partOf_10 : decode cX2_partOf 10 = .ok (.iconst 0, 1) := by decide +kernel
theorem dX2_partOf_11 : decode cX2_partOf 11 = .ok (.goto 10, 3) := by decide +kernel
theorem dX2_partOf_14 : decode cX2_partOf 14 = .ok (.iconst 1, 1) := by decide +kernel
theorem dX2_partOf_15 : decode cX2_partOf 15 = .ok (.iload_n 0, 1) := by decide +kernel
theorem dX2_partOf_16 : decode cX2_partOf 16 = .ok (.iload_n 1, 1) := by decide +kernel
theorem dX2_partOf_17 : decode cX2_partOf 17 = .ok (.idiv, 1) := by decide +kernel
theorem dX2_partOf_18 : decode cX2_partOf 18 = .ok (.invokestatic 18, 3) := by decide +kernel
theorem dX2_partOf_21 : decode cX2_partOf 21 = .ok (.ireturn, 1) := by decide +kernel
theorem dX2_rank_0 : decode cX2_rank 0 = .ok (.aload_n 2, 1) := by decide +kernel
theorem dX2_rank_1 : decode cX2_rank 1 = .ok (.invokevirtual 24, 3) := by decide +kernel
theorem dX2_rank_4 : decode cX2_rank 4 = .ok (.iconst 0, 1) := by decide +kernel
theorem dX2_rank_5 : decode cX2_rank 5 = .ok (.istore_n 3, 1) := by decide +kernel
theorem dX2_rank_6 : decode cX2_rank 6 = .ok (.iload_n 3, 1) := by decide +kernel
theorem dX2_rank_7 : decode cX2_rank 7 = .ok (.aload_n 1, 1) := by decide +kernel
theorem dX2_rank_8 : decode cX2_rank 8 = .ok (.getfield 29, 3) := by decide +kernel
theorem dX2_rank_11 : decode cX2_rank 11 = .ok (.if_icmp .ge 28, 3) := by decide +kernel
theorem dX2_rank_14 : decode cX2_rank 14 = .ok (.aload_n 2, 1) := by decide +kernel
theorem dX2_rank_15 : decode cX2_rank 15 = .ok (.aload_n 1, 1) := by decide +kernel
theorem dX2_rank_16 : decode cX2_rank 16 = .ok (.getfield 35, 3) := by decide +kernel
theorem dX2_rank_19 : decode cX2_rank 19 = .ok (.iload_n 3, 1) := by decide +kernel
theorem dX2_rank_20 : decode cX2_rank 20 = .ok (.iaload, 1) := by decide +kernel
theorem dX2_rank_21 : decode cX2_rank 21 = .ok (.ineg, 1) := by decide +kernel
theorem dX2_rank_22 : decode cX2_rank 22 = .ok (.i2l, 1) := by decide +kernel
theorem dX2_rank_23 : decode cX2_rank 23 = .ok (.ldc2_w 38, 3) := by decide +kernel
theorem dX2_rank_26 : decode cX2_rank 26 = .ok (.lmul, 1) := by decide +kernel
theorem dX2_rank_27 : decode cX2_rank 27 = .ok (.iload_n 3, 1) := by decide +kernel
theorem dX2_rank_28 : decode cX2_rank 28 = .ok (.i2l, 1) := by decide +kernel
theorem dX2_rank_29 : decode cX2_rank 29 = .ok (.ladd, 1) := by decide +kernel
theorem dX2_rank_30 : decode cX2_rank 30 = .ok (.invokevirtual 40, 3) := by decide +kernel
theorem dX2_rank_33 : decode cX2_rank 33 = .ok (.iinc 3 1, 3) := by decide +kernel
theorem dX2_rank_36 : decode cX2_rank 36 = .ok (.goto (-30), 3) := by decide +kernel
theorem dX2_rank_39 : decode cX2_rank 39 = .ok (.aload_n 2, 1) := by decide +kernel
theorem dX2_rank_40 : decode cX2_rank 40 = .ok (.invokevirtual 44, 3) := by decide +kernel
theorem dX2_rank_43 : decode cX2_rank 43 = .ok (.iconst 0, 1) := by decide +kernel
theorem dX2_rank_44 : decode cX2_rank 44 = .ok (.istore_n 3, 1) := by decide +kernel
theorem dX2_rank_45 : decode cX2_rank 45 = .ok (.iload_n 3, 1) := by decide +kernel
theorem dX2_rank_46 : decode cX2_rank 46 = .ok (.aload_n 1, 1) := by decide +kernel
theorem dX2_rank_47 : decode cX2_rank 47 = .ok (.getfield 29, 3) := by decide +kernel
theorem dX2_rank_50 : decode cX2_rank 50 = .ok (.if_icmp .ge 39, 3) := by decide +kernel
theorem dX2_rank_53 : decode cX2_rank 53 = .ok (.aload_n 2, 1) := by decide +kernel
theorem dX2_rank_54 : decode cX2_rank 54 = .ok (.iload_n 3, 1) := by decide +kernel
theorem dX2_rank_55 : decode cX2_rank 55 = .ok (.invokevirtual 47, 3) := by decide +kernel
theorem dX2_rank_58 : decode cX2_rank 58 = .ok (.ldc2_w 38, 3) := by decide +kernel
theorem dX2_rank_61 : decode cX2_rank 61 = .ok (.invokestatic 51, 3) := by decide +kernel
theorem dX2_rank_64 : decode cX2_rank 64 = .ok (.l2i, 1) := by decide +kernel
theorem dX2_rank_65 : decode cX2_rank 65 = .ok (.istore 4, 2) := by decide +kernel
theorem dX2_rank_67 : decode cX2_rank 67 = .ok (.aload_n 0, 1) := by decide +kernel
theorem dX2_rank_68 : decode cX2_rank 68 = .ok (.getfield 9, 3) := by decide +kernel
theorem dX2_rank_71 : decode cX2_rank 71 = .ok (.iload_n 3, 1) := by decide +kernel
theorem dX2_rank_72 : decode cX2_rank 72 = .ok (.iload 4, 2) := by decide +kernel
theorem dX2_rank_74 : decode cX2_rank 74 = .ok (.iastore, 1) := by decide +kernel
theorem dX2_rank_75 : decode cX2_rank 75 = .ok (.aload_n 0, 1) := by decide +kernel
theorem dX2_rank_76 : decode cX2_rank 76 = .ok (.getfield 15, 3) := by decide +kernel
theorem dX2_rank_79 : decode cX2_rank 79 = .ok (.iload 4, 2) := by decide +kernel
theorem dX2_rank_81 : decode cX2_rank 81 = .ok (.iload_n 3, 1) := by decide +kernel
theorem dX2_rank_82 : decode cX2_rank 82 = .ok (.iastore, 1) := by decide +kernel
theorem dX2_rank_83 : decode cX2_rank 83 = .ok (.iinc 3 1, 3) := by decide +kernel
theorem dX2_rank_86 : decode cX2_rank 86 = .ok (.goto (-41), 3) := by decide +kernel
theorem dX2_rank_89 : decode cX2_rank 89 = .ok (.return_, 1) := by decide +kernel
theorem dX2_weigh_0 : decode cX2_weigh 0 = .ok (.aload_n 0, 1) := by decide +kernel
theorem dX2_weigh_1 : decode cX2_weigh 1 = .ok (.aload_n 1, 1) := by decide +kernel
theorem dX2_weigh_2 : decode cX2_weigh 2 = .ok (.getfield 29, 3) := by decide +kernel
theorem dX2_weigh_5 : decode cX2_weigh 5 = .ok (.iconst 3, 1) := by decide +kernel
theorem dX2_weigh_6 : decode cX2_weigh 6 = .ok (.invokestatic 55, 3) := by decide +kernel
theorem dX2_weigh_9 : decode cX2_weigh 9 = .ok (.putfield 58, 3) := by decide +kernel
theorem dX2_weigh_12 : decode cX2_weigh 12 = .ok (.aload_n 0, 1) := by decide +kernel
theorem dX2_weigh_13 : decode cX2_weigh 13 = .ok (.aload_n 0, 1) := by decide +kernel
theorem dX2_weigh_14 : decode cX2_weigh 14 = .ok (.aload_n 1, 1) := by decide +kernel
theorem dX2_weigh_15 : decode cX2_weigh 15 = .ok (.aload_n 0, 1) := by decide +kernel
theorem dX2_weigh_16 : decode cX2_weigh 16 = .ok (.getfield 58, 3) := by decide +kernel
theorem dX2_weigh_19 : decode cX2_weigh 19 = .ok (.invokevirtual 61, 3) := by decide +kernel
theorem dX2_weigh_22 : decode cX2_weigh 22 = .ok (.i2l, 1) := by decide +kernel
theorem dX2_weigh_23 : decode cX2_weigh 23 = .ok (.putfield 65, 3) := by decide +kernel
theorem dX2_weigh_26 : decode cX2_weigh 26 = .ok (.aload_n 0, 1) := by decide +kernel
theorem dX2_weigh_27 : decode cX2_weigh 27 = .ok (.aload_n 0, 1) := by decide +kernel
theorem dX2_weigh_28 : decode cX2_weigh 28 = .ok (.aload_n 1, 1) := by decide +kernel
theorem dX2_weigh_29 : decode cX2_weigh 29 = .ok (.aload_n 1, 1) := by decide +kernel
theorem dX2_weigh_30 : decode cX2_weigh 30 = .ok (.getfield 29, 3) := by decide +kernel
theorem dX2_weigh_33 : decode cX2_weigh 33 = .ok (.invokevirtual 61, 3) := by decide +kernel
theorem dX2_weigh_36 : decode cX2_weigh 36 = .ok (.i2l, 1) := by decide +kernel
theorem dX2_weigh_37 : decode cX2_weigh 37 = .ok (.putfield 69, 3) := by decide +kernel
theorem dX2_weigh_40 : decode cX2_weigh 40 = .ok (.aload_n 0, 1) := by decide +kernel
theorem dX2_weigh_41 : decode cX2_weigh 41 = .ok (.aload_n 1, 1) := by decide +kernel
theorem dX2_weigh_42 : decode cX2_weigh 42 = .ok (.getfield 29, 3) := by decide +kernel
theorem dX2_weigh_45 : decode cX2_weigh 45 = .ok (.iconst 1, 1) := by decide +kernel
theorem dX2_weigh_46 : decode cX2_weigh 46 = .ok (.if_icmp .ge 7, 3) := by decide +kernel
theorem dX2_weigh_49 : decode cX2_weigh 49 = .ok (.iconst 0, 1) := by decide +kernel
theorem dX2_weigh_50 : decode cX2_weigh 50 = .ok (.goto 19, 3) := by decide +kernel
theorem dX2_weigh_53 : decode cX2_weigh 53 = .ok (.aload_n 1, 1) := by decide +kernel
theorem dX2_weigh_54 : decode cX2_weigh 54 = .ok (.getfield 35, 3) := by decide +kernel
theorem dX2_weigh_57 : decode cX2_weigh 57 = .ok (.aload_n 0, 1) := by decide +kernel
theorem dX2_weigh_58 : decode cX2_weigh 58 = .ok (.getfield 9, 3) := by decide +kernel
theorem dX2_weigh_61 : decode cX2_weigh 61 = .ok (.aload_n 1, 1) := by decide +kernel
theorem dX2_weigh_62 : decode cX2_weigh 62 = .ok (.getfield 29, 3) := by decide +kernel
theorem dX2_weigh_65 : decode cX2_weigh 65 = .ok (.iconst 2, 1) := by decide +kernel
theorem dX2_weigh_66 : decode cX2_weigh 66 = .ok (.idiv, 1) := by decide +kernel
theorem dX2_weigh_67 : decode cX2_weigh 67 = .ok (.iaload, 1) := by decide +kernel
theorem dX2_weigh_68 : decode cX2_weigh 68 = .ok (.iaload, 1) := by decide +kernel
theorem dX2_weigh_69 : decode cX2_weigh 69 = .ok (.putfield 72, 3) := by decide +kernel
theorem dX2_weigh_72 : decode cX2_weigh 72 = .ok (.aload_n 0, 1) := by decide +kernel
theorem dX2_weigh_73 : decode cX2_weigh 73 = .ok (.iconst 0, 1) := by decide +kernel
theorem dX2_weigh_74 : decode cX2_weigh 74 = .ok (.putfield 75, 3) := by decide +kernel
theorem dX2_weigh_77 : decode cX2_weigh 77 = .ok (.iconst 0, 1) := by decide +kernel
theorem dX2_weigh_78 : decode cX2_weigh 78 = .ok (.istore_n 3, 1) := by decide +kernel
theorem dX2_weigh_79 : decode cX2_weigh 79 = .ok (.iload_n 3, 1) := by decide +kernel
theorem dX2_weigh_80 : decode cX2_weigh 80 = .ok (.aload_n 1, 1) := by decide +kernel
theorem dX2_weigh_81 : decode cX2_weigh 81 = .ok (.getfield 29, 3) := by decide +kernel
theorem dX2_weigh_84 : decode cX2_weigh 84 = .ok (.if_icmp .ge 50, 3) := by decide +kernel
theorem dX2_weigh_87 : decode cX2_weigh 87 = .ok (.ldc2_w 78, 3) := by decide +kernel
theorem dX2_weigh_90 : decode cX2_weigh 90 = .ok (.aload_n 1, 1) := by decide +kernel
theorem dX2_weigh_91 : decode cX2_weigh 91 = .ok (.getfield 35, 3) := by decide +kernel
theorem dX2_weigh_94 : decode cX2_weigh 94 = .ok (.iload_n 3, 1) := by decide +kernel
theorem dX2_weigh_95 : decode cX2_weigh 95 = .ok (.iaload, 1) := by decide +kernel
theorem dX2_weigh_96 : decode cX2_weigh 96 = .ok (.i2l, 1) := by decide +kernel
theorem dX2_weigh_97 : decode cX2_weigh 97 = .ok (.lmul, 1) := by decide +kernel
theorem dX2_weigh_98 : decode cX2_weigh 98 = .ok (.aload_n 0, 1) := by decide +kernel
theorem dX2_weigh_99 : decode cX2_weigh 99 = .ok (.getfield 58, 3) := by decide +kernel
theorem dX2_weigh_102 : decode cX2_weigh 102 = .ok (.i2l, 1) := by decide +kernel
theorem dX2_weigh_103 : decode cX2_weigh 103 = .ok (.lmul, 1) := by decide +kernel
theorem dX2_weigh_104 : decode cX2_weigh 104 = .ok (.aload_n 2, 1) := by decide +kernel
theorem dX2_weigh_105 : decode cX2_weigh 105 = .ok (.invokevirtual 80, 3) := by decide +kernel
theorem dX2_weigh_108 : decode cX2_weigh 108 = .ok (.i2l, 1) := by decide +kernel
theorem dX2_weigh_109 : decode cX2_weigh 109 = .ok (.aload_n 0, 1) := by decide +kernel
theorem dX2_weigh_110 : decode cX2_weigh 110 = .ok (.getfield 65, 3) := by decide +kernel
theorem dX2_weigh_113 : decode cX2_weigh 113 = .ok (.lmul, 1) := by decide +kernel
theorem dX2_weigh_114 : decode cX2_weigh 114 = .ok (.lcmp, 1) := by decide +kernel
theorem dX2_weigh_115 : decode cX2_weigh 115 = .ok (.ifCond .le 13, 3) := by decide +kernel
theorem dX2_weigh_118 : decode cX2_weigh 118 = .ok (.aload_n 0, 1) := by decide +kernel
theorem dX2_weigh_119 : decode cX2_weigh 119 = .ok (.dup, 1) := by decide +kernel
theorem dX2_weigh_120 : decode cX2_weigh 120 = .ok (.getfield 75, 3) := by decide +kernel
theorem dX2_weigh_123 : decode cX2_weigh 123 = .ok (.iconst 1, 1) := by decide +kernel
theorem dX2_weigh_124 : decode cX2_weigh 124 = .ok (.iadd, 1) := by decide +kernel
theorem dX2_weigh_125 : decode cX2_weigh 125 = .ok (.putfield 75, 3) := by decide +kernel
theorem dX2_weigh_128 : decode cX2_weigh 128 = .ok (.iinc 3 1, 3) := by decide +kernel
theorem dX2_weigh_131 : decode cX2_weigh 131 = .ok (.goto (-52), 3) := by decide +kernel
theorem dX2_weigh_134 : decode cX2_weigh 134 = .ok (.return_, 1) := by decide +kernel
theorem dX2_isHigh_0 : decode cX2_isHigh 0 = .ok (.aload_n 1, 1) := by decide +kernel
theorem dX2_isHigh_1 : decode cX2_isHigh 1 = .ok (.getfield 35, 3) := by decide +kernel
theorem dX2_isHigh_4 : decode cX2_isHigh 4 = .ok (.iload_n 2, 1) := by decide +kernel
theorem dX2_isHigh_5 : decode cX2_isHigh 5 = .ok (.iaload, 1) := by decide +kernel
theorem dX2_isHigh_6 : decode cX2_isHigh 6 = .ok (.i2l, 1) := by decide +kernel
theorem dX2_isHigh_7 : decode cX2_isHigh 7 = .ok (.lstore 4, 2) := by decide +kernel
theorem dX2_isHigh_9 : decode cX2_isHigh 9 = .ok (.aload_n 3, 1) := by decide +kernel
theorem dX2_isHigh_10 : decode cX2_isHigh 10 = .ok (.getfield 86, 3) := by decide +kernel
theorem dX2_isHigh_13 : decode cX2_isHigh 13 = .ok (.tableswitch 88 1 3 #[27, 49, 71], 27) := by decide +kernel
theorem dX2_isHigh_40 : decode cX2_isHigh 40 = .ok (.lload 4, 2) := by decide +kernel
theorem dX2_isHigh_42 : decode cX2_isHigh 42 = .ok (.aload_n 1, 1) := by decide +kernel
theorem dX2_isHigh_43 : decode cX2_isHigh 43 = .ok (.getfield 29, 3) := by decide +kernel
theorem dX2_isHigh_46 : decode cX2_isHigh 46 = .ok (.i2l, 1) := by decide +kernel
theorem dX2_isHigh_47 : decode cX2_isHigh 47 = .ok (.lmul, 1) := by decide +kernel
theorem dX2_isHigh_48 : decode cX2_isHigh 48 = .ok (.aload_n 0, 1) := by decide +kernel
theorem dX2_isHigh_49 : decode cX2_isHigh 49 = .ok (.getfield 69, 3) := by decide +kernel
theorem dX2_isHigh_52 : decode cX2_isHigh 52 = .ok (.lcmp, 1) := by decide +kernel
theorem dX2_isHigh_53 : decode cX2_isHigh 53 = .ok (.ifCond .le 7, 3) := by decide +kernel
theorem dX2_isHigh_56 : decode cX2_isHigh 56 = .ok (.iconst 1, 1) := by decide +kernel
theorem dX2_isHigh_57 : decode cX2_isHigh 57 = .ok (.goto 4, 3) := by decide +kernel
theorem dX2_isHigh_60 : decode cX2_isHigh 60 = .ok (.iconst 0, 1) := by decide +kernel
theorem dX2_isHigh_61 : decode cX2_isHigh 61 = .ok (.ireturn, 1) := by decide +kernel
theorem dX2_isHigh_62 : decode cX2_isHigh 62 = .ok (.lload 4, 2) := by decide +kernel
theorem dX2_isHigh_64 : decode cX2_isHigh 64 = .ok (.aload_n 0, 1) := by decide +kernel
theorem dX2_isHigh_65 : decode cX2_isHigh 65 = .ok (.getfield 58, 3) := by decide +kernel
theorem dX2_isHigh_68 : decode cX2_isHigh 68 = .ok (.i2l, 1) := by decide +kernel
theorem dX2_isHigh_69 : decode cX2_isHigh 69 = .ok (.lmul, 1) := by decide +kernel
theorem dX2_isHigh_70 : decode cX2_isHigh 70 = .ok (.aload_n 0, 1) := by decide +kernel
theorem dX2_isHigh_71 : decode cX2_isHigh 71 = .ok (.getfield 65, 3) := by decide +kernel
theorem dX2_isHigh_74 : decode cX2_isHigh 74 = .ok (.lcmp, 1) := by decide +kernel
theorem dX2_isHigh_75 : decode cX2_isHigh 75 = .ok (.ifCond .le 7, 3) := by decide +kernel
theorem dX2_isHigh_78 : decode cX2_isHigh 78 = .ok (.iconst 1, 1) := by decide +kernel
theorem dX2_isHigh_79 : decode cX2_isHigh 79 = .ok (.goto 4, 3) := by decide +kernel
theorem dX2_isHigh_82 : decode cX2_isHigh 82 = .ok (.iconst 0, 1) := by decide +kernel
theorem dX2_isHigh_83 : decode cX2_isHigh 83 = .ok (.ireturn, 1) := by decide +kernel
theorem dX2_isHigh_84 : decode cX2_isHigh 84 = .ok (.lload 4, 2) := by decide +kernel
theorem dX2_isHigh_86 : decode cX2_isHigh 86 = .ok (.aload_n 0, 1) := by decide +kernel
theorem dX2_isHigh_87 : decode cX2_isHigh 87 = .ok (.getfield 72, 3) := by decide +kernel
theorem dX2_isHigh_90 : decode cX2_isHigh 90 = .ok (.i2l, 1) := by decide +kernel
theorem dX2_isHigh_91 : decode cX2_isHigh 91 = .ok (.lcmp, 1) := by decide +kernel
theorem dX2_isHigh_92 : decode cX2_isHigh 92 = .ok (.ifCond .le 7, 3) := by decide +kernel
theorem dX2_isHigh_95 : decode cX2_isHigh 95 = .ok (.iconst 1, 1) := by decide +kernel
theorem dX2_isHigh_96 : decode cX2_isHigh 96 = .ok (.goto 4, 3) := by decide +kernel
theorem dX2_isHigh_99 : decode cX2_isHigh 99 = .ok (.iconst 0, 1) := by decide +kernel
theorem dX2_isHigh_100 : decode cX2_isHigh 100 = .ok (.ireturn, 1) := by decide +kernel
theorem dX2_isHigh_101 : decode cX2_isHigh 101 = .ok (.lload 4, 2) := by decide +kernel
theorem dX2_isHigh_103 : decode cX2_isHigh 103 = .ok (.aload_n 3, 1) := by decide +kernel
theorem dX2_isHigh_104 : decode cX2_isHigh 104 = .ok (.getfield 89, 3) := by decide +kernel
theorem dX2_isHigh_107 : decode cX2_isHigh 107 = .ok (.i2l, 1) := by decide +kernel
theorem dX2_isHigh_108 : decode cX2_isHigh 108 = .ok (.lcmp, 1) := by decide +kernel
theorem dX2_isHigh_109 : decode cX2_isHigh 109 = .ok (.ifCond .le 7, 3) := by decide +kernel
theorem dX2_isHigh_112 : decode cX2_isHigh 112 = .ok (.iconst 1, 1) := by decide +kernel
theorem dX2_isHigh_113 : decode cX2_isHigh 113 = .ok (.goto 4, 3) := by decide +kernel
theorem dX2_isHigh_116 : decode cX2_isHigh 116 = .ok (.iconst 0, 1) := by decide +kernel
theorem dX2_isHigh_117 : decode cX2_isHigh 117 = .ok (.ireturn, 1) := by decide +kernel
theorem dX2_heightsOfHighest_0 : decode cX2_heightsOfHighest 0 = .ok (.iconst 0, 1) := by decide +kernel
theorem dX2_heightsOfHighest_1 : decode cX2_heightsOfHighest 1 = .ok (.istore_n 3, 1) := by decide +kernel
theorem dX2_heightsOfHighest_2 : decode cX2_heightsOfHighest 2 = .ok (.iconst 0, 1) := by decide +kernel
theorem dX2_heightsOfHighest_3 : decode cX2_heightsOfHighest 3 = .ok (.istore 4, 2) := by decide +kernel
theorem dX2_heightsOfHighest_5 : decode cX2_heightsOfHighest 5 = .ok (.iload 4, 2) := by decide +kernel
theorem dX2_heightsOfHighest_7 : decode cX2_heightsOfHighest 7 = .ok (.iload_n 2, 1) := by decide +kernel
theorem dX2_heightsOfHighest_8 : decode cX2_heightsOfHighest 8 = .ok (.if_icmp .ge 24, 3) := by decide +kernel
theorem dX2_heightsOfHighest_11 : decode cX2_heightsOfHighest 11 = .ok (.iload_n 3, 1) := by decide +kernel
theorem dX2_heightsOfHighest_12 : decode cX2_heightsOfHighest 12 = .ok (.aload_n 1, 1) := by decide +kernel
theorem dX2_heightsOfHighest_13 : decode cX2_heightsOfHighest 13 = .ok (.getfield 35, 3) := by decide +kernel
theorem dX2_heightsOfHighest_16 : decode cX2_heightsOfHighest 16 = .ok (.aload_n 0, 1) := by decide +kernel
theorem dX2_heightsOfHighest_17 : decode cX2_heightsOfHighest 17 = .ok (.getfield 9, 3) := by decide +kernel
theorem dX2_heightsOfHighest_20 : decode cX2_heightsOfHighest 20 = .ok (.iload 4, 2) := by decide +kernel
theorem dX2_heightsOfHighest_22 : decode cX2_heightsOfHighest 22 = .ok (.iaload, 1) := by decide +kernel
theorem dX2_heightsOfHighest_23 : decode cX2_heightsOfHighest 23 = .ok (.iaload, 1) := by decide +kernel
theorem dX2_heightsOfHighest_24 : decode cX2_heightsOfHighest 24 = .ok (.iadd, 1) := by decide +kernel
theorem dX2_heightsOfHighest_25 : decode cX2_heightsOfHighest 25 = .ok (.istore_n 3, 1) := by decide +kernel
theorem dX2_heightsOfHighest_26 : decode cX2_heightsOfHighest 26 = .ok (.iinc 4 1, 3) := by decide +kernel
theorem dX2_heightsOfHighest_29 : decode cX2_heightsOfHighest 29 = .ok (.goto (-24), 3) := by decide +kernel
theorem dX2_heightsOfHighest_32 : decode cX2_heightsOfHighest 32 = .ok (.iload_n 3, 1) := by decide +kernel
theorem dX2_heightsOfHighest_33 : decode cX2_heightsOfHighest 33 = .ok (.ireturn, 1) := by decide +kernel
theorem dX2_periodsOfHighest_0 : decode cX2_periodsOfHighest 0 = .ok (.iconst 0, 1) := by decide +kernel
theorem dX2_periodsOfHighest_1 : decode cX2_periodsOfHighest 1 = .ok (.istore_n 3, 1) := by decide +kernel
theorem dX2_periodsOfHighest_2 : decode cX2_periodsOfHighest 2 = .ok (.iconst 0, 1) := by decide +kernel
theorem dX2_periodsOfHighest_3 : decode cX2_periodsOfHighest 3 = .ok (.istore 4, 2) := by decide +kernel
theorem dX2_periodsOfHighest_5 : decode cX2_periodsOfHighest 5 = .ok (.iload 4, 2) := by decide +kernel
theorem dX2_periodsOfHighest_7 : decode cX2_periodsOfHighest 7 = .ok (.iload_n 2, 1) := by decide +kernel
theorem dX2_periodsOfHighest_8 : decode cX2_periodsOfHighest 8 = .ok (.if_icmp .ge 24, 3) := by decide +kernel
theorem dX2_periodsOfHighest_11 : decode cX2_periodsOfHighest 11 = .ok (.iload_n 3, 1) := by decide +kernel
theorem dX2_periodsOfHighest_12 : decode cX2_periodsOfHighest 12 = .ok (.aload_n 1, 1) := by decide +kernel
theorem dX2_periodsOfHighest_13 : decode cX2_periodsOfHighest 13 = .ok (.getfield 92, 3) := by decide +kernel
theorem dX2_periodsOfHighest_16 : decode cX2_periodsOfHighest 16 = .ok (.aload_n 0, 1) := by decide +kernel
theorem dX2_periodsOfHighest_17 : decode cX2_periodsOfHighest 17 = .ok (.getfield 9, 3) := by decide +kernel
theorem dX2_periodsOfHighest_20 : decode cX2_periodsOfHighest 20 = .ok (.iload 4, 2) := by decide +kernel
theorem dX2_periodsOfHighest_22 : decode cX2_periodsOfHighest 22 = .ok (.iaload, 1) := by decide +kernel
theorem dX2_periodsOfHighest_23 : decode cX2_periodsOfHighest 23 = .ok (.iaload, 1) := by decide +kernel
theorem dX2_periodsOfHighest_24 : decode cX2_periodsOfHighest 24 = .ok (.iadd, 1) := by decide +kernel
theorem dX2_periodsOfHighest_25 : decode cX2_periodsOfHighest 25 = .ok (.istore_n 3, 1) := by decide +kernel
theorem dX2_periodsOfHighest_26 : decode cX2_periodsOfHighest 26 = .ok (.iinc 4 1, 3) := by decide +kernel
theorem dX2_periodsOfHighest_29 : decode cX2_periodsOfHighest 29 = .ok (.goto (-24), 3) := by decide +kernel
theorem dX2_periodsOfHighest_32 : decode cX2_periodsOfHighest 32 = .ok (.iload_n 3, 1) := by decide +kernel
theorem dX2_periodsOfHighest_33 : decode cX2_periodsOfHighest 33 = .ok (.ireturn, 1) := by decide +kernel
theorem dX2_leastRankIn_0 : decode cX2_leastRankIn 0 = .ok (.iload_n 1, 1) := by decide +kernel
theorem dX2_leastRankIn_1 : decode cX2_leastRankIn 1 = .ok (.istore_n 3, 1) := by decide +kernel
theorem dX2_leastRankIn_2 : decode cX2_leastRankIn 2 = .ok (.iload_n 1, 1) := by decide +kernel
theorem dX2_leastRankIn_3 : decode cX2_leastRankIn 3 = .ok (.istore 4, 2) := by decide +kernel
theorem dX2_leastRankIn_5 : decode cX2_leastRankIn 5 = .ok (.iload 4, 2) := by decide +kernel
theorem dX2_leastRankIn_7 : decode cX2_leastRankIn 7 = .ok (.iload_n 2, 1) := by decide +kernel
theorem dX2_leastRankIn_8 : decode cX2_leastRankIn 8 = .ok (.if_icmp .ge 28, 3) := by decide +kernel
theorem dX2_leastRankIn_11 : decode cX2_leastRankIn 11 = .ok (.aload_n 0, 1) := by decide +kernel
theorem dX2_leastRankIn_12 : decode cX2_leastRankIn 12 = .ok (.getfield 15, 3) := by decide +kernel
theorem dX2_leastRankIn_15 : decode cX2_leastRankIn 15 = .ok (.iload 4, 2) := by decide +kernel
theorem dX2_leastRankIn_17 : decode cX2_leastRankIn 17 = .ok (.iaload, 1) := by decide +kernel
theorem dX2_leastRankIn_18 : decode cX2_leastRankIn 18 = .ok (.aload_n 0, 1) := by decide +kernel
theorem dX2_leastRankIn_19 : decode cX2_leastRankIn 19 = .ok (.getfield 15, 3) := by decide +kernel
theorem dX2_leastRankIn_22 : decode cX2_leastRankIn 22 = .ok (.iload_n 3, 1) := by decide +kernel
theorem dX2_leastRankIn_23 : decode cX2_leastRankIn 23 = .ok (.iaload, 1) := by decide +kernel
theorem dX2_leastRankIn_24 : decode cX2_leastRankIn 24 = .ok (.if_icmp .ge 6, 3) := by decide +kernel
theorem dX2_leastRankIn_27 : decode cX2_leastRankIn 27 = .ok (.iload 4, 2) := by decide +kernel
theorem dX2_leastRankIn_29 : decode cX2_leastRankIn 29 = .ok (.istore_n 3, 1) := by decide +kernel
theorem dX2_leastRankIn_30 : decode cX2_leastRankIn 30 = .ok (.iinc 4 1, 3) := by decide +kernel
theorem dX2_leastRankIn_33 : decode cX2_leastRankIn 33 = .ok (.goto (-28), 3) := by decide +kernel
theorem dX2_leastRankIn_36 : decode cX2_leastRankIn 36 = .ok (.iload_n 3, 1) := by decide +kernel
theorem dX2_leastRankIn_37 : decode cX2_leastRankIn 37 = .ok (.ireturn, 1) := by decide +kernel
theorem dX3_init_0 : decode cX3_init 0 = .ok (.aload_n 0, 1) := by decide +kernel
theorem dX3_init_1 : decode cX3_init 1 = .ok (.invokespecial 3, 3) := by decide +kernel
theorem dX3_init_4 : decode cX3_init 4 = .ok (.aload_n 0, 1) := by decide +kernel
theorem dX3_init_5 : decode cX3_init 5 = .ok (.sipush 600, 3) := by decide +kernel
theorem dX3_init_8 : decode cX3_init 8 = .ok (.newarray .int, 2) := by decide +kernel
theorem dX3_init_10 : decode cX3_init 10 = .ok (.putfield 9, 3) := by decide +kernel
theorem dX3_init_13 : decode cX3_init 13 = .ok (.aload_n 0, 1) := by decide +kernel
theorem dX3_init_14 : decode cX3_init 14 = .ok (.sipush 600, 3) := by decide +kernel
theorem dX3_init_17 : decode cX3_init 17 = .ok (.newarray .int, 2) := by decide +kernel
theorem dX3_init_19 : decode cX3_init 19 = .ok (.putfield 15, 3) := by decide +kernel
theorem dX3_init_22 : decode cX3_init 22 = .ok (.return_, 1) := by decide +kernel
theorem dX3_canCome_0 : decode cX3_canCome 0 = .ok (.iload_n 0, 1) := by decide +kernel
theorem dX3_canCome_1 : decode cX3_canCome 1 = .ok (.sipush (-32768), 3) := by decide +kernel
theorem dX3_canCome_4 : decode cX3_canCome 4 = .ok (.if_icmp .eq 17, 3) := by decide +kernel
theorem dX3_canCome_7 : decode cX3_canCome 7 = .ok (.iload_n 0, 1) := by decide +kernel
theorem dX3_canCome_8 : decode cX3_canCome 8 = .ok (.sipush (-9999), 3) := by decide +kernel
theorem dX3_canCome_11 : decode cX3_canCome 11 = .ok (.if_icmp .lt 14, 3) := by decide +kernel
theorem dX3_canCome_14 : decode cX3_canCome 14 = .ok (.iload_n 0, 1) := by decide +kernel
theorem dX3_canCome_15 : decode cX3_canCome 15 = .ok (.sipush 9999, 3) := by decide +kernel
theorem dX3_canCome_18 : decode cX3_canCome 18 = .ok (.if_icmp .gt 7, 3) := by decide +kernel
theorem dX3_canCome_21 : decode cX3_canCome 21 = .ok (.iconst 1, 1) := by decide +kernel
theorem dX3_canCome_22 : decode cX3_canCome 22 = .ok (.goto 4, 3) := by decide +kernel
theorem dX3_canCome_25 : decode cX3_canCome 25 = .ok (.iconst 0, 1) := by decide +kernel
theorem dX3_canCome_26 : decode cX3_canCome 26 = .ok (.ireturn, 1) := by decide +kernel
theorem dX3_has_0 : decode cX3_has 0 = .ok (.iload_n 1, 1) := by decide +kernel
theorem dX3_has_1 : decode cX3_has 1 = .ok (.ifCond .lt 15, 3) := by decide +kernel
theorem dX3_has_4 : decode cX3_has 4 = .ok (.iload_n 1, 1) := by decide +kernel
theorem dX3_has_5 : decode cX3_has 5 = .ok (.aload_n 0, 1) := by decide +kernel
theorem dX3_has_6 : decode cX3_has 6 = .ok (.getfield 18, 3) := by decide +kernel
theorem dX3_has_9 : decode cX3_has 9 = .ok (.if_icmp .ge 7, 3) := by decide +kernel
theorem dX3_has_12 : decode cX3_has 12 = .ok (.iconst 1, 1) := by decide +kernel
theorem dX3_has_13 : decode cX3_has 13 = .ok (.goto 4, 3) := by decide +kernel
theorem dX3_has_16 : decode cX3_has 16 = .ok (.iconst 0, 1) := by decide +kernel
theorem dX3_has_17 : decode cX3_has 17 = .ok (.ireturn, 1) := by decide +kernel
theorem dX3_room_0 : decode cX3_room 0 = .ok (.aload_n 0, 1) := by decide +kernel
theorem dX3_room_1 : decode cX3_room 1 = .ok (.getfield 9, 3) := by decide +kernel
theorem dX3_room_4 : decode cX3_room 4 = .ok (.arraylength, 1) := by decide +kernel
theorem dX3_room_5 : decode cX3_room 5 = .ok (.aload_n 0, 1) := by decide +kernel
theorem dX3_room_6 : decode cX3_room 6 = .ok (.getfield 18, 3) := by decide +kernel
theorem dX3_room_9 : decode cX3_room 9 = .ok (.isub, 1) := by decide +kernel
theorem dX3_room_10 : decode cX3_room 10 = .ok (.ireturn, 1) := by decide +kernel
theorem dX3_add_0 : decode cX3_add 0 = .ok (.aload_n 0, 1) := by decide +kernel
theorem dX3_add_1 : decode cX3_add 1 = .ok (.getfield 18, 3) := by decide +kernel
theorem dX3_add_4 : decode cX3_add 4 = .ok (.aload_n 0, 1) := by decide +kernel
theorem dX3_add_5 : decode cX3_add 5 = .ok (.getfield 9, 3) := by decide +kernel
theorem dX3_add_8 : decode cX3_add 8 = .ok (.arraylength, 1) := by decide +kernel
theorem dX3_add_9 : decode cX3_add 9 = .ok (.if_icmp .lt 4, 3) := by decide +kernel
theorem dX3_add_12 : decode cX3_add 12 = .ok (.return_, 1) := by decide +kernel
theorem dX3_add_13 : decode cX3_add 13 = .ok (.aload_n 0, 1) := by decide +kernel
theorem dX3_add_14 : decode cX3_add 14 = .ok (.getfield 9, 3) := by decide +kernel
theorem dX3_add_17 : decode cX3_add 17 = .ok (.aload_n 0, 1) := by decide +kernel
theorem dX3_add_18 : decode cX3_add 18 = .ok (.getfield 18, 3) := by decide +kernel
theorem dX3_add_21 : decode cX3_add 21 = .ok (.iload_n 1, 1) := by decide +kernel
theorem dX3_add_22 : decode cX3_add 22 = .ok (.iastore, 1) := by decide +kernel
theorem dX3_add_23 : decode cX3_add 23 = .ok (.aload_n 0, 1) := by decide +kernel
theorem dX3_add_24 : decode cX3_add 24 = .ok (.getfield 15, 3) := by decide +kernel
theorem dX3_add_27 : decode cX3_add 27 = .ok (.aload_n 0, 1) := by decide +kernel
theorem dX3_add_28 : decode cX3_add 28 = .ok (.getfield 18, 3) := by decide +kernel
theorem dX3_add_31 : decode cX3_add 31 = .ok (.iconst 0, 1) := by decide +kernel
theorem dX3_add_32 : decode cX3_add 32 = .ok (.iastore, 1) := by decide +kernel
theorem dX3_add_33 : decode cX3_add 33 = .ok (.aload_n 0, 1) := by decide +kernel
theorem dX3_add_34 : decode cX3_add 34 = .ok (.dup, 1) := by decide +kernel
theorem dX3_add_35 : decode cX3_add 35 = .ok (.getfield 18, 3) := by decide +kernel
theorem dX3_add_38 : decode cX3_add 38 = .ok (.iconst 1, 1) := by decide +kernel
theorem dX3_add_39 : decode cX3_add 39 = .ok (.iadd, 1) := by decide +kernel
theorem dX3_add_40 : decode cX3_add 40 = .ok (.putfield 18, 3) := by decide +kernel
theorem dX3_add_43 : decode cX3_add 43 = .ok (.return_, 1) := by decide +kernel
theorem dX3_drop_0 : decode cX3_drop 0 = .ok (.iload_n 1, 1) := by decide +kernel
theorem dX3_drop_1 : decode cX3_drop 1 = .ok (.ifCond .lt 11, 3) := by decide +kernel
theorem dX3_drop_4 : decode cX3_drop 4 = .ok (.iload_n 1, 1) := by decide +kernel
theorem dX3_drop_5 : decode cX3_drop 5 = .ok (.aload_n 0, 1) := by decide +kernel
theorem dX3_drop_6 : decode cX3_drop 6 = .ok (.getfield 18, 3) := by decide +kernel
theorem dX3_drop_9 : decode cX3_drop 9 = .ok (.if_icmp .le 4, 3) := by decide +kernel
theorem dX3_drop_12 : decode cX3_drop 12 = .ok (.return_, 1) := by decide +kernel
theorem dX3_drop_13 : decode cX3_drop 13 = .ok (.iload_n 1, 1) := by decide +kernel
theorem dX3_drop_14 : decode cX3_drop 14 = .ok (.istore_n 2, 1) := by decide +kernel
theorem dX3_drop_15 : decode cX3_drop 15 = .ok (.iload_n 2, 1) := by decide +kernel
theorem dX3_drop_16 : decode cX3_drop 16 = .ok (.aload_n 0, 1) := by decide +kernel
theorem dX3_drop_17 : decode cX3_drop 17 = .ok (.getfield 18, 3) := by decide +kernel
theorem dX3_drop_20 : decode cX3_drop 20 = .ok (.if_icmp .ge 37, 3) := by decide +kernel
theorem dX3_drop_23 : decode cX3_drop 23 = .ok (.aload_n 0, 1) := by decide +kernel
theorem dX3_drop_24 : decode cX3_drop 24 = .ok (.getfield 9, 3) := by decide +kernel
theorem dX3_drop_27 : decode cX3_drop 27 = .ok (.iload_n 2, 1) := by decide +kernel
theorem dX3_drop_28 : decode cX3_drop 28 = .ok (.iload_n 1, 1) := by decide +kernel
theorem dX3_drop_29 : decode cX3_drop 29 = .ok (.isub, 1) := by decide +kernel
theorem dX3_drop_30 : decode cX3_drop 30 = .ok (.aload_n 0, 1) := by decide +kernel
theorem dX3_drop_31 : decode cX3_drop 31 = .ok (.getfield 9, 3) := by decide +kernel
theorem dX3_drop_34 : decode cX3_drop 34 = .ok (.iload_n 2, 1) := by decide +kernel
theorem dX3_drop_35 : decode cX3_drop 35 = .ok (.iaload, 1) := by decide +kernel
theorem dX3_drop_36 : decode cX3_drop 36 = .ok (.iastore, 1) := by decide +kernel
theorem dX3_drop_37 : decode cX3_drop 37 = .ok (.aload_n 0, 1) := by decide +kernel
theorem dX3_drop_38 : decode cX3_drop 38 = .ok (.getfield 15, 3) := by decide +kernel
theorem dX3_drop_41 : decode cX3_drop 41 = .ok (.iload_n 2, 1) := by decide +kernel
theorem dX3_drop_42 : decode cX3_drop 42 = .ok (.iload_n 1, 1) := by decide +kernel
theorem dX3_drop_43 : decode cX3_drop 43 = .ok (.isub, 1) := by decide +kernel
theorem dX3_drop_44 : decode cX3_drop 44 = .ok (.aload_n 0, 1) := by decide +kernel
theorem dX3_drop_45 : decode cX3_drop 45 = .ok (.getfield 15, 3) := by decide +kernel
theorem dX3_drop_48 : decode cX3_drop 48 = .ok (.iload_n 2, 1) := by decide +kernel
theorem dX3_drop_49 : decode cX3_drop 49 = .ok (.iaload, 1) := by decide +kernel
theorem dX3_drop_50 : decode cX3_drop 50 = .ok (.iastore, 1) := by decide +kernel
theorem dX3_drop_51 : decode cX3_drop 51 = .ok (.iinc 2 1, 3) := by decide +kernel
theorem dX3_drop_54 : decode cX3_drop 54 = .ok (.goto (-39), 3) := by decide +kernel
theorem dX3_drop_57 : decode cX3_drop 57 = .ok (.aload_n 0, 1) := by decide +kernel
theorem dX3_drop_58 : decode cX3_drop 58 = .ok (.dup, 1) := by decide +kernel
theorem dX3_drop_59 : decode cX3_drop 59 = .ok (.getfield 18, 3) := by decide +kernel
theorem dX3_drop_62 : decode cX3_drop 62 = .ok (.iload_n 1, 1) := by decide +kernel
theorem dX3_drop_63 : decode cX3_drop 63 = .ok (.isub, 1) := by decide +kernel
theorem dX3_drop_64 : decode cX3_drop 64 = .ok (.putfield 18, 3) := by decide +kernel
theorem dX3_drop_67 : decode cX3_drop 67 = .ok (.return_, 1) := by decide +kernel
theorem dX3_nameAt_0 : decode cX3_nameAt 0 = .ok (.aload_n 0, 1) := by decide +kernel
theorem dX3_nameAt_1 : decode cX3_nameAt 1 = .ok (.iload_n 1, 1) := by decide +kernel
theorem dX3_nameAt_2 : decode cX3_nameAt 2 = .ok (.invokevirtual 22, 3) := by decide +kernel
theorem dX3_nameAt_5 : decode cX3_nameAt 5 = .ok (.ifCond .eq 21, 3) := by decide +kernel
theorem dX3_nameAt_8 : decode cX3_nameAt 8 = .ok (.aload_n 0, 1) := by decide +kernel
theorem dX3_nameAt_9 : decode cX3_nameAt 9 = .ok (.getfield 15, 3) := by decide +kernel
theorem dX3_nameAt_12 : decode cX3_nameAt 12 = .ok (.iload_n 1, 1) := by decide +kernel
theorem dX3_nameAt_13 : decode cX3_nameAt 13 = .ok (.iaload, 1) := by decide +kernel
theorem dX3_nameAt_14 : decode cX3_nameAt 14 = .ok (.ifCond .eq 12, 3) := by decide +kernel
theorem dX3_nameAt_17 : decode cX3_nameAt 17 = .ok (.aload_n 0, 1) := by decide +kernel
theorem dX3_nameAt_18 : decode cX3_nameAt 18 = .ok (.getfield 15, 3) := by decide +kernel
theorem dX3_nameAt_21 : decode cX3_nameAt 21 = .ok (.iload_n 1, 1) := by decide +kernel
theorem dX3_nameAt_22 : decode cX3_nameAt 22 = .ok (.iaload, 1) := by decide +kernel
theorem dX3_nameAt_23 : decode cX3_nameAt 23 = .ok (.goto 4, 3) := by decide +kernel
theorem dX3_nameAt_26 : decode cX3_nameAt 26 = .ok (.iconst (-1), 1) := by decide +kernel
theorem dX3_nameAt_27 : decode cX3_nameAt 27 = .ok (.ireturn, 1) := by decide +kernel
theorem dX3_bearerOf_0 : decode cX3_bearerOf 0 = .ok (.iload_n 1, 1) := by decide +kernel
theorem dX3_bearerOf_1 : decode cX3_bearerOf 1 = .ok (.iconst 1, 1) := by decide +kernel
theorem dX3_bearerOf_2 : decode cX3_bearerOf 2 = .ok (.if_icmp .ge 5, 3) := by decide +kernel
theorem dX3_bearerOf_5 : decode cX3_bearerOf 5 = .ok (.iconst (-1), 1) := by decide +kernel
theorem dX3_bearerOf_6 : decode cX3_bearerOf 6 = .ok (.ireturn, 1) := by decide +kernel
theorem dX3_bearerOf_7 : decode cX3_bearerOf 7 = .ok (.iconst 0, 1) := by decide +kernel
theorem dX3_bearerOf_8 : decode cX3_bearerOf 8 = .ok (.istore_n 2, 1) := by decide +kernel
theorem dX3_bearerOf_9 : decode cX3_bearerOf 9 = .ok (.iload_n 2, 1) := by decide +kernel
theorem dX3_bearerOf_10 : decode cX3_bearerOf 10 = .ok (.aload_n 0, 1) := by decide +kernel
theorem dX3_bearerOf_11 : decode cX3_bearerOf 11 = .ok (.getfield 18, 3) := by decide +kernel
theorem dX3_bearerOf_14 : decode cX3_bearerOf 14 = .ok (.if_icmp .ge 21, 3) := by decide +kernel
theorem dX3_bearerOf_17 : decode cX3_bearerOf 17 = .ok (.aload_n 0, 1) := by decide +kernel
theorem dX3_bearerOf_18 : decode cX3_bearerOf 18 = .ok (.getfield 15, 3) := by decide +kernel
theorem dX3_bearerOf_21 : decode cX3_bearerOf 21 = .ok (.iload_n 2, 1) := by decide +kernel
theorem dX3_bearerOf_22 : decode cX3_bearerOf 22 = .ok (.iaload, 1) := by decide +kernel
theorem dX3_bearerOf_23 : decode cX3_bearerOf 23 = .ok (.iload_n 1, 1) := by decide +kernel
theorem dX3_bearerOf_24 : decode cX3_bearerOf 24 = .ok (.if_icmp .ne 5, 3) := by decide +kernel
theorem dX3_bearerOf_27 : decode cX3_bearerOf 27 = .ok (.iload_n 2, 1) := by decide +kernel
theorem dX3_bearerOf_28 : decode cX3_bearerOf 28 = .ok (.ireturn, 1) := by decide +kernel
theorem dX3_bearerOf_29 : decode cX3_bearerOf 29 = .ok (.iinc 2 1, 3) := by decide +kernel
theorem dX3_bearerOf_32 : decode cX3_bearerOf 32 = .ok (.goto (-23), 3) := by decide +kernel
theorem dX3_bearerOf_35 : decode cX3_bearerOf 35 = .ok (.iconst (-1), 1) := by decide +kernel
theorem dX3_bearerOf_36 : decode cX3_bearerOf 36 = .ok (.ireturn, 1) := by decide +kernel
theorem dX3_namesGiven_0 : decode cX3_namesGiven 0 = .ok (.iconst 0, 1) := by decide +kernel
theorem dX3_namesGiven_1 : decode cX3_namesGiven 1 = .ok (.istore_n 1, 1) := by decide +kernel
theorem dX3_namesGiven_2 : decode cX3_namesGiven 2 = .ok (.iconst 0, 1) := by decide +kernel
theorem dX3_namesGiven_3 : decode cX3_namesGiven 3 = .ok (.istore_n 2, 1) := by decide +kernel
theorem dX3_namesGiven_4 : decode cX3_namesGiven 4 = .ok (.iload_n 2, 1) := by decide +kernel
theorem dX3_namesGiven_5 : decode cX3_namesGiven 5 = .ok (.aload_n 0, 1) := by decide +kernel
theorem dX3_namesGiven_6 : decode cX3_namesGiven 6 = .ok (.getfield 18, 3) := by decide +kernel
theorem dX3_namesGiven_9 : decode cX3_namesGiven 9 = .ok (.if_icmp .ge 21, 3) := by decide +kernel
theorem dX3_namesGiven_12 : decode cX3_namesGiven 12 = .ok (.aload_n 0, 1) := by decide +kernel
theorem dX3_namesGiven_13 : decode cX3_namesGiven 13 = .ok (.getfield 15, 3) := by decide +kernel
theorem dX3_namesGiven_16 : decode cX3_namesGiven 16 = .ok (.iload_n 2, 1) := by decide +kernel
theorem dX3_namesGiven_17 : decode cX3_namesGiven 17 = .ok (.iaload, 1) := by decide +kernel
theorem dX3_namesGiven_18 : decode cX3_namesGiven 18 = .ok (.ifCond .eq 6, 3) := by decide +kernel
theorem dX3_namesGiven_21 : decode cX3_namesGiven 21 = .ok (.iinc 1 1, 3) := by decide +kernel
theorem dX3_namesGiven_24 : decode cX3_namesGiven 24 = .ok (.iinc 2 1, 3) := by decide +kernel
theorem dX3_namesGiven_27 : decode cX3_namesGiven 27 = .ok (.goto (-23), 3) := by decide +kernel
theorem dX3_namesGiven_30 : decode cX3_namesGiven 30 = .ok (.iload_n 1, 1) := by decide +kernel
theorem dX3_namesGiven_31 : decode cX3_namesGiven 31 = .ok (.ireturn, 1) := by decide +kernel
theorem dX3_leastNameIn_0 : decode cX3_leastNameIn 0 = .ok (.iconst (-1), 1) := by decide +kernel
theorem dX3_leastNameIn_1 : decode cX3_leastNameIn 1 = .ok (.istore_n 3, 1) := by decide +kernel
theorem dX3_leastNameIn_2 : decode cX3_leastNameIn 2 = .ok (.iload_n 1, 1) := by decide +kernel
theorem dX3_leastNameIn_3 : decode cX3_leastNameIn 3 = .ok (.istore 4, 2) := by decide +kernel
theorem dX3_leastNameIn_5 : decode cX3_leastNameIn 5 = .ok (.iload 4, 2) := by decide +kernel
theorem dX3_leastNameIn_7 : decode cX3_leastNameIn 7 = .ok (.iload_n 2, 1) := by decide +kernel
theorem dX3_leastNameIn_8 : decode cX3_leastNameIn 8 = .ok (.if_icmp .ge 37, 3) := by decide +kernel
theorem dX3_leastNameIn_11 : decode cX3_leastNameIn 11 = .ok (.aload_n 0, 1) := by decide +kernel
theorem dX3_leastNameIn_12 : decode cX3_leastNameIn 12 = .ok (.iload 4, 2) := by decide +kernel
theorem dX3_leastNameIn_14 : decode cX3_leastNameIn 14 = .ok (.invokevirtual 26, 3) := by decide +kernel
theorem dX3_leastNameIn_17 : decode cX3_leastNameIn 17 = .ok (.istore 5, 2) := by decide +kernel
theorem dX3_leastNameIn_19 : decode cX3_leastNameIn 19 = .ok (.iload 5, 2) := by decide +kernel
theorem dX3_leastNameIn_21 : decode cX3_leastNameIn 21 = .ok (.iconst (-1), 1) := by decide +kernel
theorem dX3_leastNameIn_22 : decode cX3_leastNameIn 22 = .ok (.if_icmp .eq 17, 3) := by decide +kernel
theorem dX3_leastNameIn_25 : decode cX3_leastNameIn 25 = .ok (.iload_n 3, 1) := by decide +kernel
theorem dX3_leastNameIn_26 : decode cX3_leastNameIn 26 = .ok (.iconst (-1), 1) := by decide +kernel
theorem dX3_leastNameIn_27 : decode cX3_leastNameIn 27 = .ok (.if_icmp .eq 9, 3) := by decide +kernel
theorem dX3_leastNameIn_30 : decode cX3_leastNameIn 30 = .ok (.iload 5, 2) := by decide +kernel
theorem dX3_leastNameIn_32 : decode cX3_leastNameIn 32 = .ok (.iload_n 3, 1) := by decide +kernel
theorem dX3_leastNameIn_33 : decode cX3_leastNameIn 33 = .ok (.if_icmp .ge 6, 3) := by decide +kernel
theorem dX3_leastNameIn_36 : decode cX3_leastNameIn 36 = .ok (.iload 5, 2) := by decide +kernel
theorem dX3_leastNameIn_38 : decode cX3_leastNameIn 38 = .ok (.istore_n 3, 1) := by decide +kernel
theorem dX3_leastNameIn_39 : decode cX3_leastNameIn 39 = .ok (.iinc 4 1, 3) := by decide +kernel
theorem dX3_leastNameIn_42 : decode cX3_leastNameIn 42 = .ok (.goto (-37), 3) := by decide +kernel
theorem dX3_leastNameIn_45 : decode cX3_leastNameIn 45 = .ok (.iload_n 3, 1) := by decide +kernel
theorem dX3_leastNameIn_46 : decode cX3_leastNameIn 46 = .ok (.ireturn, 1) := by decide +kernel
theorem dX4_init_0 : decode cX4_init 0 = .ok (.aload_n 0, 1) := by decide +kernel
theorem dX4_init_1 : decode cX4_init 1 = .ok (.invokespecial 3, 3) := by decide +kernel
theorem dX4_init_4 : decode cX4_init 4 = .ok (.aload_n 0, 1) := by decide +kernel
theorem dX4_init_5 : decode cX4_init 5 = .ok (.iconst 4, 1) := by decide +kernel
theorem dX4_init_6 : decode cX4_init 6 = .ok (.newarray .int, 2) := by decide +kernel
theorem dX4_init_8 : decode cX4_init 8 = .ok (.dup, 1) := by decide +kernel
theorem dX4_init_9 : decode cX4_init 9 = .ok (.iconst 0, 1) := by decide +kernel
theorem dX4_init_10 : decode cX4_init 10 = .ok (.iconst 2, 1) := by decide +kernel
theorem dX4_init_11 : decode cX4_init 11 = .ok (.iastore, 1) := by decide +kernel
theorem dX4_init_12 : decode cX4_init 12 = .ok (.dup, 1) := by decide +kernel
theorem dX4_init_13 : decode cX4_init 13 = .ok (.iconst 1, 1) := by decide +kernel
theorem dX4_init_14 : decode cX4_init 14 = .ok (.iconst 0, 1) := by decide +kernel
theorem dX4_init_15 : decode cX4_init 15 = .ok (.iastore, 1) := by decide +kernel
theorem dX4_init_16 : decode cX4_init 16 = .ok (.dup, 1) := by decide +kernel
theorem dX4_init_17 : decode cX4_init 17 = .ok (.iconst 2, 1) := by decide +kernel
theorem dX4_init_18 : decode cX4_init 18 = .ok (.bipush 20, 2) := by decide +kernel
theorem dX4_init_20 : decode cX4_init 20 = .ok (.iastore, 1) := by decide +kernel
theorem dX4_init_21 : decode cX4_init 21 = .ok (.dup, 1) := by decide +kernel
theorem dX4_init_22 : decode cX4_init 22 = .ok (.iconst 3, 1) := by decide +kernel
theorem dX4_init_23 : decode cX4_init 23 = .ok (.iconst 2, 1) := by decide +kernel
theorem dX4_init_24 : decode cX4_init 24 = .ok (.iastore, 1) := by decide +kernel
theorem dX4_init_25 : decode cX4_init 25 = .ok (.putfield 9, 3) := by decide +kernel
theorem dX4_init_28 : decode cX4_init 28 = .ok (.return_, 1) := by decide +kernel
theorem dX4_mend_0 : decode cX4_mend 0 = .ok (.aload_n 0, 1) := by decide +kernel
theorem dX4_mend_1 : decode cX4_mend 1 = .ok (.getfield 9, 3) := by decide +kernel
theorem dX4_mend_4 : decode cX4_mend 4 = .ok (.iconst 0, 1) := by decide +kernel
theorem dX4_mend_5 : decode cX4_mend 5 = .ok (.iaload, 1) := by decide +kernel
theorem dX4_mend_6 : decode cX4_mend 6 = .ok (.ireturn, 1) := by decide +kernel
theorem dX4_band_0 : decode cX4_band 0 = .ok (.aload_n 0, 1) := by decide +kernel
theorem dX4_band_1 : decode cX4_band 1 = .ok (.getfield 9, 3) := by decide +kernel
theorem dX4_band_4 : decode cX4_band 4 = .ok (.iconst 1, 1) := by decide +kernel
theorem dX4_band_5 : decode cX4_band 5 = .ok (.iaload, 1) := by decide +kernel
theorem dX4_band_6 : decode cX4_band 6 = .ok (.ireturn, 1) := by decide +kernel
theorem dX4_factor_0 : decode cX4_factor 0 = .ok (.aload_n 0, 1) := by decide +kernel
theorem dX4_factor_1 : decode cX4_factor 1 = .ok (.getfield 9, 3) := by decide +kernel
theorem dX4_factor_4 : decode cX4_factor 4 = .ok (.iconst 2, 1) := by decide +kernel
theorem dX4_factor_5 : decode cX4_factor 5 = .ok (.iaload, 1) := by decide +kernel
theorem dX4_factor_6 : decode cX4_factor 6 = .ok (.ireturn, 1) := by decide +kernel
theorem dX4_least_0 : decode cX4_least 0 = .ok (.aload_n 0, 1) := by decide +kernel
theorem dX4_least_1 : decode cX4_least 1 = .ok (.getfield 9, 3) := by decide +kernel
theorem dX4_least_4 : decode cX4_least 4 = .ok (.iconst 3, 1) := by decide +kernel
theorem dX4_least_5 : decode cX4_least 5 = .ok (.iaload, 1) := by decide +kernel
theorem dX4_least_6 : decode cX4_least 6 = .ok (.ireturn, 1) := by decide +kernel
theorem dX4_changeNumber_0 : decode cX4_changeNumber 0 = .ok (.iload_n 1, 1) := by decide +kernel
theorem dX4_changeNumber_1 : decode cX4_changeNumber 1 = .ok (.ifCond .lt 12, 3) := by decide +kernel
theorem dX4_changeNumber_4 : decode cX4_changeNumber 4 = .ok (.iload_n 1, 1) := by decide +kernel
theorem dX4_changeNumber_5 : decode cX4_changeNumber 5 = .ok (.aload_n 0, 1) := by decide +kernel
theorem dX4_changeNumber_6 : decode cX4_changeNumber 6 = .ok (.getfield 9, 3) := by decide +kernel
theorem dX4_changeNumber_9 : decode cX4_changeNumber 9 = .ok (.arraylength, 1) := by decide +kernel
theorem dX4_changeNumber_10 : decode cX4_changeNumber 10 = .ok (.if_icmp .lt 5, 3) := by decide +kernel
theorem dX4_changeNumber_13 : decode cX4_changeNumber 13 = .ok (.iconst 0, 1) := by decide +kernel
theorem dX4_changeNumber_14 : decode cX4_changeNumber 14 = .ok (.ireturn, 1) := by decide +kernel
theorem dX4_changeNumber_15 : decode cX4_changeNumber 15 = .ok (.iload_n 2, 1) := by decide +kernel
theorem dX4_changeNumber_16 : decode cX4_changeNumber 16 = .ok (.getstatic 15, 3) := by decide +kernel
theorem dX4_changeNumber_19 : decode cX4_changeNumber 19 = .ok (.iload_n 1, 1) := by decide +kernel
theorem dX4_changeNumber_20 : decode cX4_changeNumber 20 = .ok (.iaload, 1) := by decide +kernel
theorem dX4_changeNumber_21 : decode cX4_changeNumber 21 = .ok (.if_icmp .lt 22, 3) := by decide +kernel
theorem dX4_changeNumber_24 : decode cX4_changeNumber 24 = .ok (.iload_n 2, 1) := by decide +kernel
theorem dX4_changeNumber_25 : decode cX4_changeNumber 25 = .ok (.getstatic 18, 3) := by decide +kernel
theorem dX4_changeNumber_28 : decode cX4_changeNumber 28 = .ok (.iload_n 1, 1) := by decide +kernel
theorem dX4_changeNumber_29 : decode cX4_changeNumber 29 = .ok (.iaload, 1) := by decide +kernel
theorem dX4_changeNumber_30 : decode cX4_changeNumber 30 = .ok (.if_icmp .gt 13, 3) := by decide +kernel
theorem dX4_changeNumber_33 : decode cX4_changeNumber 33 = .ok (.iload_n 2, 1) := by decide +kernel
theorem dX4_changeNumber_34 : decode cX4_changeNumber 34 = .ok (.aload_n 0, 1) := by decide +kernel
theorem dX4_changeNumber_35 : decode cX4_changeNumber 35 = .ok (.getfield 9, 3) := by decide +kernel
theorem dX4_changeNumber_38 : decode cX4_changeNumber 38 = .ok (.iload_n 1, 1) := by decide +kernel
theorem dX4_changeNumber_39 : decode cX4_changeNumber 39 = .ok (.iaload, 1) := by decide +kernel
theorem dX4_changeNumber_40 : decode cX4_changeNumber 40 = .ok (.if_icmp .ne 5, 3) := by decide +kernel
theorem dX4_changeNumber_43 : decode cX4_changeNumber 43 = .ok (.iconst 0, 1) := by decide +kernel
theorem dX4_changeNumber_44 : decode cX4_changeNumber 44 = .ok (.ireturn, 1) := by decide +kernel
theorem dX4_changeNumber_45 : decode cX4_changeNumber 45 = .ok (.aload_n 0, 1) := by decide +kernel
theorem dX4_changeNumber_46 : decode cX4_changeNumber 46 = .ok (.getfield 9, 3) := by decide +kernel
theorem dX4_changeNumber_49 : decode cX4_changeNumber 49 = .ok (.iload_n 1, 1) := by decide +kernel
theorem dX4_changeNumber_50 : decode cX4_changeNumber 50 = .ok (.iload_n 2, 1) := by decide +kernel
theorem dX4_changeNumber_51 : decode cX4_changeNumber 51 = .ok (.iastore, 1) := by decide +kernel
theorem dX4_changeNumber_52 : decode cX4_changeNumber 52 = .ok (.iconst 1, 1) := by decide +kernel
theorem dX4_changeNumber_53 : decode cX4_changeNumber 53 = .ok (.ireturn, 1) := by decide +kernel
theorem dX4_changeRule_0 : decode cX4_changeRule 0 = .ok (.iload_n 1, 1) := by decide +kernel
theorem dX4_changeRule_1 : decode cX4_changeRule 1 = .ok (.ifCond .ne 25, 3) := by decide +kernel
theorem dX4_changeRule_4 : decode cX4_changeRule 4 = .ok (.iload_n 2, 1) := by decide +kernel
theorem dX4_changeRule_5 : decode cX4_changeRule 5 = .ok (.sipush (-9999), 3) := by decide +kernel
theorem dX4_changeRule_8 : decode cX4_changeRule 8 = .ok (.if_icmp .lt 14, 3) := by decide +kernel
theorem dX4_changeRule_11 : decode cX4_changeRule 11 = .ok (.iload_n 2, 1) := by decide +kernel
theorem dX4_changeRule_12 : decode cX4_changeRule 12 = .ok (.sipush 9999, 3) := by decide +kernel
theorem dX4_changeRule_15 : decode cX4_changeRule 15 = .ok (.if_icmp .gt 7, 3) := by decide +kernel
theorem dX4_changeRule_18 : decode cX4_changeRule 18 = .ok (.iconst 1, 1) := by decide +kernel
theorem dX4_changeRule_19 : decode cX4_changeRule 19 = .ok (.goto 16, 3) := by decide +kernel
theorem dX4_changeRule_22 : decode cX4_changeRule 22 = .ok (.iconst 0, 1) := by decide +kernel
theorem dX4_changeRule_23 : decode cX4_changeRule 23 = .ok (.goto 12, 3) := by decide +kernel
theorem dX4_changeRule_26 : decode cX4_changeRule 26 = .ok (.iload_n 2, 1) := by decide +kernel
theorem dX4_changeRule_27 : decode cX4_changeRule 27 = .ok (.ifCond .ne 7, 3) := by decide +kernel
theorem dX4_changeRule_30 : decode cX4_changeRule 30 = .ok (.iconst 1, 1) := by decide +kernel
theorem dX4_changeRule_31 : decode cX4_changeRule 31 = .ok (.goto 4, 3) := by decide +kernel
theorem dX4_changeRule_34 : decode cX4_changeRule 34 = .ok (.iconst 0, 1) := by decide +kernel
theorem dX4_changeRule_35 : decode cX4_changeRule 35 = .ok (.istore_n 3, 1) := by decide +kernel
theorem dX4_changeRule_36 : decode cX4_changeRule 36 = .ok (.iload_n 1, 1) := by decide +kernel
theorem dX4_changeRule_37 : decode cX4_changeRule 37 = .ok (.ifCond .lt 28, 3) := by decide +kernel
theorem dX4_changeRule_40 : decode cX4_changeRule 40 = .ok (.iload_n 1, 1) := by decide +kernel
theorem dX4_changeRule_41 : decode cX4_changeRule 41 = .ok (.iconst 2, 1) := by decide +kernel
theorem dX4_changeRule_42 : decode cX4_changeRule 42 = .ok (.if_icmp .gt 23, 3) := by decide +kernel
theorem dX4_changeRule_45 : decode cX4_changeRule 45 = .ok (.iload_n 3, 1) := by decide +kernel
theorem dX4_changeRule_46 : decode cX4_changeRule 46 = .ok (.ifCond .eq 19, 3) := by decide +kernel
theorem dX4_changeRule_49 : decode cX4_changeRule 49 = .ok (.iload_n 1, 1) := by decide +kernel
theorem dX4_changeRule_50 : decode cX4_changeRule 50 = .ok (.aload_n 0, 1) := by decide +kernel
theorem dX4_changeRule_51 : decode cX4_changeRule 51 = .ok (.getfield 21, 3) := by decide +kernel
theorem dX4_changeRule_54 : decode cX4_changeRule 54 = .ok (.if_icmp .ne 13, 3) := by decide +kernel
theorem dX4_changeRule_57 : decode cX4_changeRule 57 = .ok (.iload_n 2, 1) := by decide +kernel
theorem dX4_changeRule_58 : decode cX4_changeRule 58 = .ok (.aload_n 0, 1) := by decide +kernel
theorem dX4_changeRule_59 : decode cX4_changeRule 59 = .ok (.getfield 25, 3) := by decide +kernel
theorem dX4_changeRule_62 : decode cX4_changeRule 62 = .ok (.if_icmp .ne 5, 3) := by decide +kernel
theorem dX4_changeRule_65 : decode cX4_changeRule 65 = .ok (.iconst 0, 1) := by decide +kernel
theorem dX4_changeRule_66 : decode cX4_changeRule 66 = .ok (.ireturn, 1) := by decide +kernel
theorem dX4_changeRule_67 : decode cX4_changeRule 67 = .ok (.aload_n 0, 1) := by decide +kernel
theorem dX4_changeRule_68 : decode cX4_changeRule 68 = .ok (.iload_n 1, 1) := by decide +kernel
theorem dX4_changeRule_69 : decode cX4_changeRule 69 = .ok (.putfield 21, 3) := by decide +kernel
theorem dX4_changeRule_72 : decode cX4_changeRule 72 = .ok (.aload_n 0, 1) := by decide +kernel
theorem dX4_changeRule_73 : decode cX4_changeRule 73 = .ok (.iload_n 2, 1) := by decide +kernel
theorem dX4_changeRule_74 : decode cX4_changeRule 74 = .ok (.putfield 25, 3) := by decide +kernel
theorem dX4_changeRule_77 : decode cX4_changeRule 77 = .ok (.iconst 1, 1) := by decide +kernel
theorem dX4_changeRule_78 : decode cX4_changeRule 78 = .ok (.ireturn, 1) := by decide +kernel
theorem dX4_changeMark_0 : decode cX4_changeMark 0 = .ok (.iload_n 1, 1) := by decide +kernel
theorem dX4_changeMark_1 : decode cX4_changeMark 1 = .ok (.ifCond .ne 21, 3) := by decide +kernel
theorem dX4_changeMark_4 : decode cX4_changeMark 4 = .ok (.iload_n 2, 1) := by decide +kernel
theorem dX4_changeMark_5 : decode cX4_changeMark 5 = .ok (.ifCond .lt 13, 3) := by decide +kernel
theorem dX4_changeMark_8 : decode cX4_changeMark 8 = .ok (.iload_n 2, 1) := by decide +kernel
theorem dX4_changeMark_9 : decode cX4_changeMark 9 = .ok (.ldc 28, 2) := by decide +kernel
theorem dX4_changeMark_11 : decode cX4_changeMark 11 = .ok (.if_icmp .gt 7, 3) := by decide +kernel
theorem dX4_changeMark_14 : decode cX4_changeMark 14 = .ok (.iconst 1, 1) := by decide +kernel
theorem dX4_changeMark_15 : decode cX4_changeMark 15 = .ok (.goto 16, 3) := by decide +kernel
theorem dX4_changeMark_18 : decode cX4_changeMark 18 = .ok (.iconst 0, 1) := by decide +kernel
theorem dX4_changeMark_19 : decode cX4_changeMark 19 = .ok (.goto 12, 3) := by decide +kernel
theorem dX4_changeMark_22 : decode cX4_changeMark 22 = .ok (.iload_n 2, 1) := by decide +kernel
theorem dX4_changeMark_23 : decode cX4_changeMark 23 = .ok (.ifCond .ne 7, 3) := by decide +kernel
theorem dX4_changeMark_26 : decode cX4_changeMark 26 = .ok (.iconst 1, 1) := by decide +kernel
theorem dX4_changeMark_27 : decode cX4_changeMark 27 = .ok (.goto 4, 3) := by decide +kernel
theorem dX4_changeMark_30 : decode cX4_changeMark 30 = .ok (.iconst 0, 1) := by decide +kernel
theorem dX4_changeMark_31 : decode cX4_changeMark 31 = .ok (.istore_n 3, 1) := by decide +kernel
theorem dX4_changeMark_32 : decode cX4_changeMark 32 = .ok (.iload_n 1, 1) := by decide +kernel
theorem dX4_changeMark_33 : decode cX4_changeMark 33 = .ok (.ifCond .lt 28, 3) := by decide +kernel
theorem dX4_changeMark_36 : decode cX4_changeMark 36 = .ok (.iload_n 1, 1) := by decide +kernel
theorem dX4_changeMark_37 : decode cX4_changeMark 37 = .ok (.iconst 3, 1) := by decide +kernel
theorem dX4_changeMark_38 : decode cX4_changeMark 38 = .ok (.if_icmp .gt 23, 3) := by decide +kernel
theorem dX4_changeMark_41 : decode cX4_changeMark 41 = .ok (.iload_n 3, 1) := by decide +kernel
theorem dX4_changeMark_42 : decode cX4_changeMark 42 = .ok (.ifCond .eq 19, 3) := by decide +kernel
theorem dX4_changeMark_45 : decode cX4_changeMark 45 = .ok (.iload_n 1, 1) := by decide +kernel
theorem dX4_changeMark_46 : decode cX4_changeMark 46 = .ok (.aload_n 0, 1) := by decide +kernel
theorem dX4_changeMark_47 : decode cX4_changeMark 47 = .ok (.getfield 29, 3) := by decide +kernel
theorem dX4_changeMark_50 : decode cX4_changeMark 50 = .ok (.if_icmp .ne 13, 3) := by decide +kernel
theorem dX4_changeMark_53 : decode cX4_changeMark 53 = .ok (.iload_n 2, 1) := by decide +kernel
theorem dX4_changeMark_54 : decode cX4_changeMark 54 = .ok (.aload_n 0, 1) := by decide +kernel
theorem dX4_changeMark_55 : decode cX4_changeMark 55 = .ok (.getfield 32, 3) := by decide +kernel
theorem dX4_changeMark_58 : decode cX4_changeMark 58 = .ok (.if_icmp .ne 5, 3) := by decide +kernel
theorem dX4_changeMark_61 : decode cX4_changeMark 61 = .ok (.iconst 0, 1) := by decide +kernel
theorem dX4_changeMark_62 : decode cX4_changeMark 62 = .ok (.ireturn, 1) := by decide +kernel
theorem dX4_changeMark_63 : decode cX4_changeMark 63 = .ok (.aload_n 0, 1) := by decide +kernel
theorem dX4_changeMark_64 : decode cX4_changeMark 64 = .ok (.iload_n 1, 1) := by decide +kernel
theorem dX4_changeMark_65 : decode cX4_changeMark 65 = .ok (.putfield 29, 3) := by decide +kernel
theorem dX4_changeMark_68 : decode cX4_changeMark 68 = .ok (.aload_n 0, 1) := by decide +kernel
theorem dX4_changeMark_69 : decode cX4_changeMark 69 = .ok (.iload_n 2, 1) := by decide +kernel
theorem dX4_changeMark_70 : decode cX4_changeMark 70 = .ok (.putfield 32, 3) := by decide +kernel
theorem dX4_changeMark_73 : decode cX4_changeMark 73 = .ok (.iconst 1, 1) := by decide +kernel
theorem dX4_changeMark_74 : decode cX4_changeMark 74 = .ok (.ireturn, 1) := by decide +kernel
theorem dX5_init_0 : decode cX5_init 0 = .ok (.aload_n 0, 1) := by decide +kernel
theorem dX5_init_1 : decode cX5_init 1 = .ok (.invokespecial 3, 3) := by decide +kernel
theorem dX5_init_4 : decode cX5_init 4 = .ok (.aload_n 0, 1) := by decide +kernel
theorem dX5_init_5 : decode cX5_init 5 = .ok (.sipush 600, 3) := by decide +kernel
theorem dX5_init_8 : decode cX5_init 8 = .ok (.newarray .long, 2) := by decide +kernel
theorem dX5_init_10 : decode cX5_init 10 = .ok (.putfield 9, 3) := by decide +kernel
theorem dX5_init_13 : decode cX5_init 13 = .ok (.aload_n 0, 1) := by decide +kernel
theorem dX5_init_14 : decode cX5_init 14 = .ok (.sipush 600, 3) := by decide +kernel
theorem dX5_init_17 : decode cX5_init 17 = .ok (.newarray .long, 2) := by decide +kernel
theorem dX5_init_19 : decode cX5_init 19 = .ok (.putfield 15, 3) := by decide +kernel
theorem dX5_init_22 : decode cX5_init 22 = .ok (.return_, 1) := by decide +kernel
theorem dX5_clear_0 : decode cX5_clear 0 = .ok (.aload_n 0, 1) := by decide +kernel
theorem dX5_clear_1 : decode cX5_clear 1 = .ok (.iconst 0, 1) := by decide +kernel
theorem dX5_clear_2 : decode cX5_clear 2 = .ok (.putfield 18, 3) := by decide +kernel
theorem dX5_clear_5 : decode cX5_clear 5 = .ok (.return_, 1) := by decide +kernel
theorem dX5_add_0 : decode cX5_add 0 = .ok (.aload_n 0, 1) := by decide +kernel
theorem dX5_add_1 : decode cX5_add 1 = .ok (.getfield 18, 3) := by decide +kernel
theorem dX5_add_4 : decode cX5_add 4 = .ok (.aload_n 0, 1) := by decide +kernel
theorem dX5_add_5 : decode cX5_add 5 = .ok (.getfield 9, 3) := by decide +kernel
theorem dX5_add_8 : decode cX5_add 8 = .ok (.arraylength, 1) := by decide +kernel
theorem dX5_add_9 : decode cX5_add 9 = .ok (.if_icmp .lt 4, 3) := by decide +kernel
theorem dX5_add_12 : decode cX5_add 12 = .ok (.return_, 1) := by decide +kernel
theorem dX5_add_13 : decode cX5_add 13 = .ok (.aload_n 0, 1) := by decide +kernel
theorem dX5_add_14 : decode cX5_add 14 = .ok (.getfield 9, 3) := by decide +kernel
theorem dX5_add_17 : decode cX5_add 17 = .ok (.aload_n 0, 1) := by decide +kernel
theorem dX5_add_18 : decode cX5_add 18 = .ok (.getfield 18, 3) := by decide +kernel
theorem dX5_add_21 : decode cX5_add 21 = .ok (.lload_n 1, 1) := by decide +kernel
theorem dX5_add_22 : decode cX5_add 22 = .ok (.lastore, 1) := by decide +kernel
theorem dX5_add_23 : decode cX5_add 23 = .ok (.aload_n 0, 1) := by decide +kernel
theorem dX5_add_24 : decode cX5_add 24 = .ok (.dup, 1) := by decide +kernel
theorem dX5_add_25 : decode cX5_add 25 = .ok (.getfield 18, 3) := by decide +kernel
theorem dX5_add_28 : decode cX5_add 28 = .ok (.iconst 1, 1) := by decide +kernel
theorem dX5_add_29 : decode cX5_add 29 = .ok (.iadd, 1) := by decide +kernel
theorem dX5_add_30 : decode cX5_add 30 = .ok (.putfield 18, 3) := by decide +kernel
theorem dX5_add_33 : decode cX5_add 33 = .ok (.return_, 1) := by decide +kernel
theorem dX5_keyAt_0 : decode cX5_keyAt 0 = .ok (.iload_n 1, 1) := by decide +kernel
theorem dX5_keyAt_1 : decode cX5_keyAt 1 = .ok (.ifCond .lt 20, 3) := by decide +kernel
theorem dX5_keyAt_4 : decode cX5_keyAt 4 = .ok (.iload_n 1, 1) := by decide +kernel
theorem dX5_keyAt_5 : decode cX5_keyAt 5 = .ok (.aload_n 0, 1) := by decide +kernel
theorem dX5_keyAt_6 : decode cX5_keyAt 6 = .ok (.getfield 18, 3) := by decide +kernel
theorem dX5_keyAt_9 : decode cX5_keyAt 9 = .ok (.if_icmp .ge 12, 3) := by decide +kernel
theorem dX5_keyAt_12 : decode cX5_keyAt 12 = .ok (.aload_n 0, 1) := by decide +kernel
theorem dX5_keyAt_13 : decode cX5_keyAt 13 = .ok (.getfield 9, 3) := by decide +kernel
theorem dX5_keyAt_16 : decode cX5_keyAt 16 = .ok (.iload_n 1, 1) := by decide +kernel
theorem dX5_keyAt_17 : decode cX5_keyAt 17 = .ok (.laload, 1) := by decide +kernel
theorem dX5_keyAt_18 : decode cX5_keyAt 18 = .ok (.goto 4, 3) := by decide +kernel
theorem dX5_keyAt_21 : decode cX5_keyAt 21 = .ok (.lconst 0, 1) := by decide +kernel
theorem dX5_keyAt_22 : decode cX5_keyAt 22 = .ok (.lreturn, 1) := by decide +kernel
theorem dX5_sort_0 : decode cX5_sort 0 = .ok (.iconst 1, 1) := by decide +kernel
theorem dX5_sort_1 : decode cX5_sort 1 = .ok (.istore_n 1, 1) := by decide +kernel
theorem dX5_sort_2 : decode cX5_sort 2 = .ok (.iload_n 1, 1) := by decide +kernel
theorem dX5_sort_3 : decode cX5_sort 3 = .ok (.aload_n 0, 1) := by decide +kernel
theorem dX5_sort_4 : decode cX5_sort 4 = .ok (.getfield 18, 3) := by decide +kernel
theorem dX5_sort_7 : decode cX5_sort 7 = .ok (.if_icmp .ge 74, 3) := by decide +kernel
theorem dX5_sort_10 : decode cX5_sort 10 = .ok (.iconst 0, 1) := by decide +kernel
theorem dX5_sort_11 : decode cX5_sort 11 = .ok (.istore_n 2, 1) := by decide +kernel
theorem dX5_sort_12 : decode cX5_sort 12 = .ok (.iload_n 2, 1) := by decide +kernel
theorem dX5_sort_13 : decode cX5_sort 13 = .ok (.aload_n 0, 1) := by decide +kernel
theorem dX5_sort_14 : decode cX5_sort 14 = .ok (.getfield 18, 3) := by decide +kernel
theorem dX5_sort_17 : decode cX5_sort 17 = .ok (.if_icmp .ge 39, 3) := by decide +kernel
theorem dX5_sort_20 : decode cX5_sort 20 = .ok (.aload_n 0, 1) := by decide +kernel
theorem dX5_sort_21 : decode cX5_sort 21 = .ok (.iload_n 2, 1) := by decide +kernel
theorem dX5_sort_22 : decode cX5_sort 22 = .ok (.iload_n 2, 1) := by decide +kernel
theorem dX5_sort_23 : decode cX5_sort 23 = .ok (.iload_n 1, 1) := by decide +kernel
theorem dX5_sort_24 : decode cX5_sort 24 = .ok (.iadd, 1) := by decide +kernel
theorem dX5_sort_25 : decode cX5_sort 25 = .ok (.aload_n 0, 1) := by decide +kernel
theorem dX5_sort_26 : decode cX5_sort 26 = .ok (.getfield 18, 3) := by decide +kernel
theorem dX5_sort_29 : decode cX5_sort 29 = .ok (.invokestatic 22, 3) := by decide +kernel
theorem dX5_sort_32 : decode cX5_sort 32 = .ok (.iload_n 2, 1) := by decide +kernel
theorem dX5_sort_33 : decode cX5_sort 33 = .ok (.iconst 2, 1) := by decide +kernel
theorem dX5_sort_34 : decode cX5_sort 34 = .ok (.iload_n 1, 1) := by decide +kernel
theorem dX5_sort_35 : decode cX5_sort 35 = .ok (.imul, 1) := by decide +kernel
theorem dX5_sort_36 : decode cX5_sort 36 = .ok (.iadd, 1) := by decide +kernel
theorem dX5_sort_37 : decode cX5_sort 37 = .ok (.aload_n 0, 1) := by decide +kernel
theorem dX5_sort_38 : decode cX5_sort 38 = .ok (.getfield 18, 3) := by decide +kernel
theorem dX5_sort_41 : decode cX5_sort 41 = .ok (.invokestatic 22, 3) := by decide +kernel
theorem dX5_sort_44 : decode cX5_sort 44 = .ok (.invokevirtual 28, 3) := by decide +kernel
theorem dX5_sort_47 : decode cX5_sort 47 = .ok (.iload_n 2, 1) := by decide +kernel
theorem dX5_sort_48 : decode cX5_sort 48 = .ok (.iconst 2, 1) := by decide +kernel
theorem dX5_sort_49 : decode cX5_sort 49 = .ok (.iload_n 1, 1) := by decide +kernel
theorem dX5_sort_50 : decode cX5_sort 50 = .ok (.imul, 1) := by decide +kernel
theorem dX5_sort_51 : decode cX5_sort 51 = .ok (.iadd, 1) := by decide +kernel
theorem dX5_sort_52 : decode cX5_sort 52 = .ok (.istore_n 2, 1) := by decide +kernel
theorem dX5_sort_53 : decode cX5_sort 53 = .ok (.goto (-41), 3) := by decide +kernel
theorem dX5_sort_56 : decode cX5_sort 56 = .ok (.aload_n 0, 1) := by decide +kernel
theorem dX5_sort_57 : decode cX5_sort 57 = .ok (.getfield 15, 3) := by decide +kernel
theorem dX5_sort_60 : decode cX5_sort 60 = .ok (.astore_n 2, 1) := by decide +kernel
theorem dX5_sort_61 : decode cX5_sort 61 = .ok (.aload_n 0, 1) := by decide +kernel
theorem dX5_sort_62 : decode cX5_sort 62 = .ok (.aload_n 0, 1) := by decide +kernel
theorem dX5_sort_63 : decode cX5_sort 63 = .ok (.getfield 9, 3) := by decide +kernel
theorem dX5_sort_66 : decode cX5_sort 66 = .ok (.putfield 15, 3) := by decide +kernel
theorem dX5_sort_69 : decode cX5_sort 69 = .ok (.aload_n 0, 1) := by decide +kernel
theorem dX5_sort_70 : decode cX5_sort 70 = .ok (.aload_n 2, 1) := by decide +kernel
theorem dX5_sort_71 : decode cX5_sort 71 = .ok (.putfield 9, 3) := by decide +kernel
theorem dX5_sort_74 : decode cX5_sort 74 = .ok (.iload_n 1, 1) := by decide +kernel
theorem dX5_sort_75 : decode cX5_sort 75 = .ok (.iconst 2, 1) := by decide +kernel
theorem dX5_sort_76 : decode cX5_sort 76 = .ok (.imul, 1) := by decide +kernel
theorem dX5_sort_77 : decode cX5_sort 77 = .ok (.istore_n 1, 1) := by decide +kernel
theorem dX5_sort_78 : decode cX5_sort 78 = .ok (.goto (-76), 3) := by decide +kernel
theorem dX5_sort_81 : decode cX5_sort 81 = .ok (.return_, 1) := by decide +kernel
theorem dX5_merge_0 : decode cX5_merge 0 = .ok (.iload_n 1, 1) := by decide +kernel
theorem dX5_merge_1 : decode cX5_merge 1 = .ok (.istore 4, 2) := by decide +kernel
theorem dX5_merge_3 : decode cX5_merge 3 = .ok (.iload_n 2, 1) := by decide +kernel
theorem dX5_merge_4 : decode cX5_merge 4 = .ok (.istore 5, 2) := by decide +kernel
theorem dX5_merge_6 : decode cX5_merge 6 = .ok (.iload_n 1, 1) := by decide +kernel
theorem dX5_merge_7 : decode cX5_merge 7 = .ok (.istore 6, 2) := by decide +kernel
theorem dX5_merge_9 : decode cX5_merge 9 = .ok (.iload 6, 2) := by decide +kernel
theorem dX5_merge_11 : decode cX5_merge 11 = .ok (.iload_n 3, 1) := by decide +kernel
theorem dX5_merge_12 : decode cX5_merge 12 = .ok (.if_icmp .ge 88, 3) := by decide +kernel
theorem dX5_merge_15 : decode cX5_merge 15 = .ok (.iload 5, 2) := by decide +kernel
theorem dX5_merge_17 : decode cX5_merge 17 = .ok (.iload_n 3, 1) := by decide +kernel
theorem dX5_merge_18 : decode cX5_merge 18 = .ok (.if_icmp .ge 27, 3) := by decide +kernel
theorem dX5_merge_21 : decode cX5_merge 21 = .ok (.iload 4, 2) := by decide +kernel
theorem dX5_merge_23 : decode cX5_merge 23 = .ok (.iload_n 2, 1) := by decide +kernel
theorem dX5_merge_24 : decode cX5_merge 24 = .ok (.if_icmp .ge 25, 3) := by decide +kernel
theorem dX5_merge_27 : decode cX5_merge 27 = .ok (.aload_n 0, 1) := by decide +kernel
theorem dX5_merge_28 : decode cX5_merge 28 = .ok (.getfield 9, 3) := by decide +kernel
theorem dX5_merge_31 : decode cX5_merge 31 = .ok (.iload 4, 2) := by decide +kernel
theorem dX5_merge_33 : decode cX5_merge 33 = .ok (.laload, 1) := by decide +kernel
theorem dX5_merge_34 : decode cX5_merge 34 = .ok (.aload_n 0, 1) := by decide +kernel
theorem dX5_merge_35 : decode cX5_merge 35 = .ok (.getfield 9, 3) := by decide +kernel
theorem dX5_merge_38 : decode cX5_merge 38 = .ok (.iload 5, 2) := by decide +kernel
theorem dX5_merge_40 : decode cX5_merge 40 = .ok (.laload, 1) := by decide +kernel
theorem dX5_merge_41 : decode cX5_merge 41 = .ok (.lcmp, 1) := by decide +kernel
theorem dX5_merge_42 : decode cX5_merge 42 = .ok (.ifCond .gt 7, 3) := by decide +kernel
theorem dX5_merge_45 : decode cX5_merge 45 = .ok (.iconst 1, 1) := by decide +kernel
theorem dX5_merge_46 : decode cX5_merge 46 = .ok (.goto 4, 3) := by decide +kernel
theorem dX5_merge_49 : decode cX5_merge 49 = .ok (.iconst 0, 1) := by decide +kernel
theorem dX5_merge_50 : decode cX5_merge 50 = .ok (.istore 7, 2) := by decide +kernel
theorem dX5_merge_52 : decode cX5_merge 52 = .ok (.iload 7, 2) := by decide +kernel
theorem dX5_merge_54 : decode cX5_merge 54 = .ok (.ifCond .eq 23, 3) := by decide +kernel
theorem dX5_merge_57 : decode cX5_merge 57 = .ok (.aload_n 0, 1) := by decide +kernel
theorem dX5_merge_58 : decode cX5_merge 58 = .ok (.getfield 15, 3) := by decide +kernel
theorem dX5_merge_61 : decode cX5_merge 61 = .ok (.iload 6, 2) := by decide +kernel
theorem dX5_merge_63 : decode cX5_merge 63 = .ok (.aload_n 0, 1) := by decide +kernel
theorem dX5_merge_64 : decode cX5_merge 64 = .ok (.getfield 9, 3) := by decide +kernel
theorem dX5_merge_67 : decode cX5_merge 67 = .ok (.iload 4, 2) := by decide +kernel
theorem dX5_merge_69 : decode cX5_merge 69 = .ok (.laload, 1) := by decide +kernel
theorem dX5_merge_70 : decode cX5_merge 70 = .ok (.lastore, 1) := by decide +kernel
theorem dX5_merge_71 : decode cX5_merge 71 = .ok (.iinc 4 1, 3) := by decide +kernel
theorem dX5_merge_74 : decode cX5_merge 74 = .ok (.goto 20, 3) := by decide +kernel
theorem dX5_merge_77 : decode cX5_merge 77 = .ok (.aload_n 0, 1) := by decide +kernel
theorem dX5_merge_78 : decode cX5_merge 78 = .ok (.getfield 15, 3) := by decide +kernel
theorem dX5_merge_81 : decode cX5_merge 81 = .ok (.iload 6, 2) := by decide +kernel
theorem dX5_merge_83 : decode cX5_merge 83 = .ok (.aload_n 0, 1) := by decide +kernel
theorem dX5_merge_84 : decode cX5_merge 84 = .ok (.getfield 9, 3) := by decide +kernel
theorem dX5_merge_87 : decode cX5_merge 87 = .ok (.iload 5, 2) := by decide +kernel
theorem dX5_merge_89 : decode cX5_merge 89 = .ok (.laload, 1) := by decide +kernel
theorem dX5_merge_90 : decode cX5_merge 90 = .ok (.lastore, 1) := by decide +kernel
theorem dX5_merge_91 : decode cX5_merge 91 = .ok (.iinc 5 1, 3) := by decide +kernel
theorem dX5_merge_94 : decode cX5_merge 94 = .ok (.iinc 6 1, 3) := by decide +kernel
theorem dX5_merge_97 : decode cX5_merge 97 = .ok (.goto (-88), 3) := by decide +kernel
theorem dX5_merge_100 : decode cX5_merge 100 = .ok (.return_, 1) := by decide +kernel
theorem dX6_init_0 : decode cX6_init 0 = .ok (.aload_n 0, 1) := by decide +kernel
theorem dX6_init_1 : decode cX6_init 1 = .ok (.invokespecial 3, 3) := by decide +kernel
theorem dX6_init_4 : decode cX6_init 4 = .ok (.aload_n 0, 1) := by decide +kernel
theorem dX6_init_5 : decode cX6_init 5 = .ok (.iconst 5, 1) := by decide +kernel
theorem dX6_init_6 : decode cX6_init 6 = .ok (.sipush 600, 3) := by decide +kernel
theorem dX6_init_9 : decode cX6_init 9 = .ok (.multianewarray 9 2, 4) := by decide +kernel
theorem dX6_init_13 : decode cX6_init 13 = .ok (.putfield 11, 3) := by decide +kernel
theorem dX6_init_16 : decode cX6_init 16 = .ok (.aload_n 0, 1) := by decide +kernel
theorem dX6_init_17 : decode cX6_init 17 = .ok (.aload_n 0, 1) := by decide +kernel
theorem dX6_init_18 : decode cX6_init 18 = .ok (.getfield 11, 3) := by decide +kernel
theorem dX6_init_21 : decode cX6_init 21 = .ok (.iconst 0, 1) := by decide +kernel
theorem dX6_init_22 : decode cX6_init 22 = .ok (.aaload, 1) := by decide +kernel
theorem dX6_init_23 : decode cX6_init 23 = .ok (.putfield 16, 3) := by decide +kernel
theorem dX6_init_26 : decode cX6_init 26 = .ok (.aload_n 0, 1) := by decide +kernel
theorem dX6_init_27 : decode cX6_init 27 = .ok (.sipush 600, 3) := by decide +kernel
theorem dX6_init_30 : decode cX6_init 30 = .ok (.newarray .int, 2) := by decide +kernel
theorem dX6_init_32 : decode cX6_init 32 = .ok (.putfield 20, 3) := by decide +kernel
theorem dX6_init_35 : decode cX6_init 35 = .ok (.aload_n 0, 1) := by decide +kernel
theorem dX6_init_36 : decode cX6_init 36 = .ok (.sipush 300, 3) := by decide +kernel
theorem dX6_init_39 : decode cX6_init 39 = .ok (.newarray .int, 2) := by decide +kernel
theorem dX6_init_41 : decode cX6_init 41 = .ok (.putfield 23, 3) := by decide +kernel
theorem dX6_init_44 : decode cX6_init 44 = .ok (.aload_n 0, 1) := by decide +kernel
theorem dX6_init_45 : decode cX6_init 45 = .ok (.sipush 300, 3) := by decide +kernel
theorem dX6_init_48 : decode cX6_init 48 = .ok (.newarray .int, 2) := by decide +kernel
theorem dX6_init_50 : decode cX6_init 50 = .ok (.putfield 26, 3) := by decide +kernel
theorem dX6_init_53 : decode cX6_init 53 = .ok (.aload_n 0, 1) := by decide +kernel
theorem dX6_init_54 : decode cX6_init 54 = .ok (.sipush 300, 3) := by decide +kernel
theorem dX6_init_57 : decode cX6_init 57 = .ok (.newarray .int, 2) := by decide +kernel
theorem dX6_init_59 : decode cX6_init 59 = .ok (.putfield 29, 3) := by decide +kernel
theorem dX6_init_62 : decode cX6_init 62 = .ok (.return_, 1) := by decide +kernel
theorem dX6_has_0 : decode cX6_has 0 = .ok (.iload_n 1, 1) := by decide +kernel
theorem dX6_has_1 : decode cX6_has 1 = .ok (.ifCond .lt 15, 3) := by decide +kernel
theorem dX6_has_4 : decode cX6_has 4 = .ok (.iload_n 1, 1) := by decide +kernel
theorem dX6_has_5 : decode cX6_has 5 = .ok (.aload_n 0, 1) := by decide +kernel
theorem dX6_has_6 : decode cX6_has 6 = .ok (.getfield 32, 3) := by decide +kernel
theorem dX6_has_9 : decode cX6_has 9 = .ok (.if_icmp .ge 7, 3) := by decide +kernel
theorem dX6_has_12 : decode cX6_has 12 = .ok (.iconst 1, 1) := by decide +kernel
theorem dX6_has_13 : decode cX6_has 13 = .ok (.goto 4, 3) := by decide +kernel
theorem dX6_has_16 : decode cX6_has 16 = .ok (.iconst 0, 1) := by decide +kernel
theorem dX6_has_17 : decode cX6_has 17 = .ok (.ireturn, 1) := by decide +kernel
theorem dX6_endOf_0 : decode cX6_endOf 0 = .ok (.aload_n 0, 1) := by decide +kernel
theorem dX6_endOf_1 : decode cX6_endOf 1 = .ok (.getfield 23, 3) := by decide +kernel
theorem dX6_endOf_4 : decode cX6_endOf 4 = .ok (.iload_n 1, 1) := by decide +kernel
theorem dX6_endOf_5 : decode cX6_endOf 5 = .ok (.iaload, 1) := by decide +kernel
theorem dX6_endOf_6 : decode cX6_endOf 6 = .ok (.aload_n 0, 1) := by decide +kernel
theorem dX6_endOf_7 : decode cX6_endOf 7 = .ok (.getfield 26, 3) := by decide +kernel
theorem dX6_endOf_10 : decode cX6_endOf 10 = .ok (.iload_n 1, 1) := by decide +kernel
theorem dX6_endOf_11 : decode cX6_endOf 11 = .ok (.iaload, 1) := by decide +kernel
theorem dX6_endOf_12 : decode cX6_endOf 12 = .ok (.iadd, 1) := by decide +kernel
theorem dX6_endOf_13 : decode cX6_endOf 13 = .ok (.ireturn, 1) := by decide +kernel
theorem dX6_shownBehind_0 : decode cX6_shownBehind 0 = .ok (.aload_n 0, 1) := by decide +kernel
theorem dX6_shownBehind_1 : decode cX6_shownBehind 1 = .ok (.getfield 20, 3) := by decide +kernel
theorem dX6_shownBehind_4 : decode cX6_shownBehind 4 = .ok (.iload_n 1, 1) := by decide +kernel
theorem dX6_shownBehind_5 : decode cX6_shownBehind 5 = .ok (.iaload, 1) := by decide +kernel
theorem dX6_shownBehind_6 : decode cX6_shownBehind 6 = .ok (.iconst (-1), 1) := by decide +kernel
theorem dX6_shownBehind_7 : decode cX6_shownBehind 7 = .ok (.if_icmp .ne 9, 3) := by decide +kernel
theorem dX6_shownBehind_10 : decode cX6_shownBehind 10 = .ok (.sipush (-32768), 3) := by decide +kernel
theorem dX6_shownBehind_13 : decode cX6_shownBehind 13 = .ok (.goto 11, 3) := by decide +kernel
theorem dX6_shownBehind_16 : decode cX6_shownBehind 16 = .ok (.aload_n 0, 1) := by decide +kernel
theorem dX6_shownBehind_17 : decode cX6_shownBehind 17 = .ok (.getfield 11, 3) := by decide +kernel
theorem dX6_shownBehind_20 : decode cX6_shownBehind 20 = .ok (.iload_n 2, 1) := by decide +kernel
theorem dX6_shownBehind_21 : decode cX6_shownBehind 21 = .ok (.aaload, 1) := by decide +kernel
theorem dX6_shownBehind_22 : decode cX6_shownBehind 22 = .ok (.iload_n 1, 1) := by decide +kernel
theorem dX6_shownBehind_23 : decode cX6_shownBehind 23 = .ok (.iaload, 1) := by decide +kernel
theorem dX6_shownBehind_24 : decode cX6_shownBehind 24 = .ok (.ireturn, 1) := by decide +kernel
theorem dX6_mendGaps_0 : decode cX6_mendGaps 0 = .ok (.aload_n 0, 1) := by decide +kernel
theorem dX6_mendGaps_1 : decode cX6_mendGaps 1 = .ok (.iconst 0, 1) := by decide +kernel
theorem dX6_mendGaps_2 : decode cX6_mendGaps 2 = .ok (.putfield 36, 3) := by decide +kernel
theorem dX6_mendGaps_5 : decode cX6_mendGaps 5 = .ok (.aload_n 0, 1) := by decide +kernel
theorem dX6_mendGaps_6 : decode cX6_mendGaps 6 = .ok (.iconst 0, 1) := by decide +kernel
theorem dX6_mendGaps_7 : decode cX6_mendGaps 7 = .ok (.putfield 39, 3) := by decide +kernel
theorem dX6_mendGaps_10 : decode cX6_mendGaps 10 = .ok (.iconst (-1), 1) := by decide +kernel
theorem dX6_mendGaps_11 : decode cX6_mendGaps 11 = .ok (.istore_n 3, 1) := by decide +kernel
theorem dX6_mendGaps_12 : decode cX6_mendGaps 12 = .ok (.iconst 0, 1) := by decide +kernel
theorem dX6_mendGaps_13 : decode cX6_mendGaps 13 = .ok (.istore 4, 2) := by decide +kernel
theorem dX6_mendGaps_15 : decode cX6_mendGaps 15 = .ok (.iload 4, 2) := by decide +kernel
theorem dX6_mendGaps_17 : decode cX6_mendGaps 17 = .ok (.aload_n 1, 1) := by decide +kernel
theorem dX6_mendGaps_18 : decode cX6_mendGaps 18 = .ok (.getfield 42, 3) := by decide +kernel
theorem dX6_mendGaps_21 : decode cX6_mendGaps 21 = .ok (.if_icmp .ge 81, 3) := by decide +kernel
theorem dX6_mendGaps_24 : decode cX6_mendGaps 24 = .ok (.aload_n 1, 1) := by decide +kernel
theorem dX6_mendGaps_25 : decode cX6_mendGaps 25 = .ok (.getfield 45, 3) := by decide +kernel
theorem dX6_mendGaps_28 : decode cX6_mendGaps 28 = .ok (.iload 4, 2) := by decide +kernel
theorem dX6_mendGaps_30 : decode cX6_mendGaps 30 = .ok (.iaload, 1) := by decide +kernel
theorem dX6_mendGaps_31 : decode cX6_mendGaps 31 = .ok (.sipush (-32768), 3) := by decide +kernel
theorem dX6_mendGaps_34 : decode cX6_mendGaps 34 = .ok (.if_icmp .ne 24, 3) := by decide +kernel
theorem dX6_mendGaps_37 : decode cX6_mendGaps 37 = .ok (.aload_n 0, 1) := by decide +kernel
theorem dX6_mendGaps_38 : decode cX6_mendGaps 38 = .ok (.dup, 1) := by decide +kernel
theorem dX6_mendGaps_39 : decode cX6_mendGaps 39 = .ok (.getfield 36, 3) := by decide +kernel
theorem dX6_mendGaps_42 : decode cX6_mendGaps 42 = .ok (.iconst 1, 1) := by decide +kernel
theorem dX6_mendGaps_43 : decode cX6_mendGaps 43 = .ok (.iadd, 1) := by decide +kernel
theorem dX6_mendGaps_44 : decode cX6_mendGaps 44 = .ok (.putfield 36, 3) := by decide +kernel
theorem dX6_mendGaps_47 : decode cX6_mendGaps 47 = .ok (.aload_n 0, 1) := by decide +kernel
theorem dX6_mendGaps_48 : decode cX6_mendGaps 48 = .ok (.getfield 20, 3) := by decide +kernel
theorem dX6_mendGaps_51 : decode cX6_mendGaps 51 = .ok (.iload 4, 2) := by decide +kernel
theorem dX6_mendGaps_53 : decode cX6_mendGaps 53 = .ok (.iconst (-1), 1) := by decide +kernel
theorem dX6_mendGaps_54 : decode cX6_mendGaps 54 = .ok (.iastore, 1) := by decide +kernel
theorem dX6_mendGaps_55 : decode cX6_mendGaps 55 = .ok (.goto 41, 3) := by decide +kernel
theorem dX6_mendGaps_58 : decode cX6_mendGaps 58 = .ok (.aload_n 0, 1) := by decide +kernel
theorem dX6_mendGaps_59 : decode cX6_mendGaps 59 = .ok (.iload 4, 2) := by decide +kernel
theorem dX6_mendGaps_61 : decode cX6_mendGaps 61 = .ok (.aload_n 1, 1) := by decide +kernel
theorem dX6_mendGaps_62 : decode cX6_mendGaps 62 = .ok (.getfield 45, 3) := by decide +kernel
theorem dX6_mendGaps_65 : decode cX6_mendGaps 65 = .ok (.iload 4, 2) := by decide +kernel
theorem dX6_mendGaps_67 : decode cX6_mendGaps 67 = .ok (.iaload, 1) := by decide +kernel
theorem dX6_mendGaps_68 : decode cX6_mendGaps 68 = .ok (.invokevirtual 48, 3) := by decide +kernel
theorem dX6_mendGaps_71 : decode cX6_mendGaps 71 = .ok (.iload_n 3, 1) := by decide +kernel
theorem dX6_mendGaps_72 : decode cX6_mendGaps 72 = .ok (.iconst (-1), 1) := by decide +kernel
theorem dX6_mendGaps_73 : decode cX6_mendGaps 73 = .ok (.if_icmp .eq 20, 3) := by decide +kernel
theorem dX6_mendGaps_76 : decode cX6_mendGaps 76 = .ok (.iload 4, 2) := by decide +kernel
theorem dX6_mendGaps_78 : decode cX6_mendGaps 78 = .ok (.iload_n 3, 1) := by decide +kernel
theorem dX6_mendGaps_79 : decode cX6_mendGaps 79 = .ok (.isub, 1) := by decide +kernel
theorem dX6_mendGaps_80 : decode cX6_mendGaps 80 = .ok (.iconst 1, 1) := by decide +kernel
theorem dX6_mendGaps_81 : decode cX6_mendGaps 81 = .ok (.isub, 1) := by decide +kernel
theorem dX6_mendGaps_82 : decode cX6_mendGaps 82 = .ok (.iload_n 2, 1) := by decide +kernel
theorem dX6_mendGaps_83 : decode cX6_mendGaps 83 = .ok (.if_icmp .gt 10, 3) := by decide +kernel
theorem dX6_mendGaps_86 : decode cX6_mendGaps 86 = .ok (.aload_n 0, 1) := by decide +kernel
theorem dX6_mendGaps_87 : decode cX6_mendGaps 87 = .ok (.iload_n 3, 1) := by decide +kernel
theorem dX6_mendGaps_88 : decode cX6_mendGaps 88 = .ok (.iload 4, 2) := by decide +kernel
theorem dX6_mendGaps_90 : decode cX6_mendGaps 90 = .ok (.invokevirtual 52, 3) := by decide +kernel
theorem dX6_mendGaps_93 : decode cX6_mendGaps 93 = .ok (.iload 4, 2) := by decide +kernel
theorem dX6_mendGaps_95 : decode cX6_mendGaps 95 = .ok (.istore_n 3, 1) := by decide +kernel
theorem dX6_mendGaps_96 : decode cX6_mendGaps 96 = .ok (.iinc 4 1, 3) := by decide +kernel
theorem dX6_mendGaps_99 : decode cX6_mendGaps 99 = .ok (.goto (-84), 3) := by decide +kernel
theorem dX6_mendGaps_102 : decode cX6_mendGaps 102 = .ok (.return_, 1) := by decide +kernel
theorem dX6_mendBetween_0 : decode cX6_mendBetween 0 = .ok (.iload_n 2, 1) := by decide +kernel
theorem dX6_mendBetween_1 : decode cX6_mendBetween 1 = .ok (.iload_n 1, 1) := by decide +kernel
theorem dX6_mendBetween_2 : decode cX6_mendBetween 2 = .ok (.isub, 1) := by decide +kernel
theorem dX6_mendBetween_3 : decode cX6_mendBetween 3 = .ok (.istore_n 3, 1) := by decide +kernel
theorem dX6_mendBetween_4 : decode cX6_mendBetween 4 = .ok (.aload_n 0, 1) := by decide +kernel
theorem dX6_mendBetween_5 : decode cX6_mendBetween 5 = .ok (.getfield 11, 3) := by decide +kernel
theorem dX6_mendBetween_8 : decode cX6_mendBetween 8 = .ok (.iconst 0, 1) := by decide +kernel
theorem dX6_mendBetween_9 : decode cX6_mendBetween 9 = .ok (.aaload, 1) := by decide +kernel
theorem dX6_mendBetween_10 : decode cX6_mendBetween 10 = .ok (.iload_n 1, 1) := by decide +kernel
theorem dX6_mendBetween_11 : decode cX6_mendBetween 11 = .ok (.iaload, 1) := by decide +kernel
theorem dX6_mendBetween_12 : decode cX6_mendBetween 12 = .ok (.istore 4, 2) := by decide +kernel
theorem dX6_mendBetween_14 : decode cX6_mendBetween 14 = .ok (.aload_n 0, 1) := by decide +kernel
theorem dX6_mendBetween_15 : decode cX6_mendBetween 15 = .ok (.getfield 11, 3) := by decide +kernel
theorem dX6_mendBetween_18 : decode cX6_mendBetween 18 = .ok (.iconst 0, 1) := by decide +kernel
theorem dX6_mendBetween_19 : decode cX6_mendBetween 19 = .ok (.aaload, 1) := by decide +kernel
theorem dX6_mendBetween_20 : decode cX6_mendBetween 20 = .ok (.iload_n 2, 1) := by decide +kernel
theorem dX6_mendBetween_21 : decode cX6_mendBetween 21 = .ok (.iaload, 1) := by decide +kernel
theorem dX6_mendBetween_22 : decode cX6_mendBetween 22 = .ok (.istore 5, 2) := by decide +kernel
theorem dX6_mendBetween_24 : decode cX6_mendBetween 24 = .ok (.iconst 1, 1) := by decide +kernel
theorem dX6_mendBetween_25 : decode cX6_mendBetween 25 = .ok (.istore 6, 2) := by decide +kernel
theorem dX6_mendBetween_27 : decode cX6_mendBetween 27 = .ok (.iload 6, 2) := by decide +kernel
theorem dX6_mendBetween_29 : decode cX6_mendBetween 29 = .ok (.iload_n 3, 1) := by decide +kernel
theorem dX6_mendBetween_30 : decode cX6_mendBetween 30 = .ok (.if_icmp .ge 48, 3) := by decide +kernel
theorem dX6_mendBetween_33 : decode cX6_mendBetween 33 = .ok (.aload_n 0, 1) := by decide +kernel
theorem dX6_mendBetween_34 : decode cX6_mendBetween 34 = .ok (.iload_n 1, 1) := by decide +kernel
theorem dX6_mendBetween_35 : decode cX6_mendBetween 35 = .ok (.iload 6, 2) := by decide +kernel
theorem dX6_mendBetween_37 : decode cX6_mendBetween 37 = .ok (.iadd, 1) := by decide +kernel
theorem dX6_mendBetween_38 : decode cX6_mendBetween 38 = .ok (.iload 4, 2) := by decide +kernel
theorem dX6_mendBetween_40 : decode cX6_mendBetween 40 = .ok (.i2l, 1) := by decide +kernel
theorem dX6_mendBetween_41 : decode cX6_mendBetween 41 = .ok (.iload_n 3, 1) := by decide +kernel
theorem dX6_mendBetween_42 : decode cX6_mendBetween 42 = .ok (.iload 6, 2) := by decide +kernel
theorem dX6_mendBetween_44 : decode cX6_mendBetween 44 = .ok (.isub, 1) := by decide +kernel
theorem dX6_mendBetween_45 : decode cX6_mendBetween 45 = .ok (.i2l, 1) := by decide +kernel
theorem dX6_mendBetween_46 : decode cX6_mendBetween 46 = .ok (.lmul, 1) := by decide +kernel
theorem dX6_mendBetween_47 : decode cX6_mendBetween 47 = .ok (.iload 5, 2) := by decide +kernel
theorem dX6_mendBetween_49 : decode cX6_mendBetween 49 = .ok (.i2l, 1) := by decide +kernel
theorem dX6_mendBetween_50 : decode cX6_mendBetween 50 = .ok (.iload 6, 2) := by decide +kernel
theorem dX6_mendBetween_52 : decode cX6_mendBetween 52 = .ok (.i2l, 1) := by decide +kernel
theorem dX6_mendBetween_53 : decode cX6_mendBetween 53 = .ok (.lmul, 1) := by decide +kernel
theorem dX6_mendBetween_54 : decode cX6_mendBetween 54 = .ok (.ladd, 1) := by decide +kernel
theorem dX6_mendBetween_55 : decode cX6_mendBetween 55 = .ok (.iload_n 3, 1) := by decide +kernel
theorem dX6_mendBetween_56 : decode cX6_mendBetween 56 = .ok (.invokestatic 55, 3) := by decide +kernel
theorem dX6_mendBetween_59 : decode cX6_mendBetween 59 = .ok (.invokevirtual 48, 3) := by decide +kernel
theorem dX6_mendBetween_62 : decode cX6_mendBetween 62 = .ok (.aload_n 0, 1) := by decide +kernel
theorem dX6_mendBetween_63 : decode cX6_mendBetween 63 = .ok (.dup, 1) := by decide +kernel
theorem dX6_mendBetween_64 : decode cX6_mendBetween 64 = .ok (.getfield 39, 3) := by decide +kernel
theorem dX6_mendBetween_67 : decode cX6_mendBetween 67 = .ok (.iconst 1, 1) := by decide +kernel
theorem dX6_mendBetween_68 : decode cX6_mendBetween 68 = .ok (.iadd, 1) := by decide +kernel
theorem dX6_mendBetween_69 : decode cX6_mendBetween 69 = .ok (.putfield 39, 3) := by decide +kernel
theorem dX6_mendBetween_72 : decode cX6_mendBetween 72 = .ok (.iinc 6 1, 3) := by decide +kernel
theorem dX6_mendBetween_75 : decode cX6_mendBetween 75 = .ok (.goto (-48), 3) := by decide +kernel
theorem dX6_mendBetween_78 : decode cX6_mendBetween 78 = .ok (.return_, 1) := by decide +kernel
theorem dX6_keep_0 : decode cX6_keep 0 = .ok (.aload_n 0, 1) := by decide +kernel
theorem dX6_keep_1 : decode cX6_keep 1 = .ok (.getfield 11, 3) := by decide +kernel
theorem dX6_keep_4 : decode cX6_keep 4 = .ok (.iconst 0, 1) := by decide +kernel
theorem dX6_keep_5 : decode cX6_keep 5 = .ok (.aaload, 1) := by decide +kernel
theorem dX6_keep_6 : decode cX6_keep 6 = .ok (.iload_n 1, 1) := by decide +kernel
theorem dX6_keep_7 : decode cX6_keep 7 = .ok (.iload_n 2, 1) := by decide +kernel
theorem dX6_keep_8 : decode cX6_keep 8 = .ok (.iastore, 1) := by decide +kernel
theorem dX6_keep_9 : decode cX6_keep 9 = .ok (.aload_n 0, 1) := by decide +kernel
theorem dX6_keep_10 : decode cX6_keep 10 = .ok (.getfield 20, 3) := by decide +kernel
theorem dX6_keep_13 : decode cX6_keep 13 = .ok (.iload_n 1, 1) := by decide +kernel
theorem dX6_keep_14 : decode cX6_keep 14 = .ok (.iconst 0, 1) := by decide +kernel
theorem dX6_keep_15 : decode cX6_keep 15 = .ok (.iastore, 1) := by decide +kernel
theorem dX6_keep_16 : decode cX6_keep 16 = .ok (.return_, 1) := by decide +kernel
theorem dX6_split_0 : decode cX6_split 0 = .ok (.aload_n 0, 1) := by decide +kernel
theorem dX6_split_1 : decode cX6_split 1 = .ok (.iconst 0, 1) := by decide +kernel
theorem dX6_split_2 : decode cX6_split 2 = .ok (.putfield 32, 3) := by decide +kernel
theorem dX6_split_5 : decode cX6_split 5 = .ok (.iconst 0, 1) := by decide +kernel
theorem dX6_split_6 : decode cX6_split 6 = .ok (.istore_n 2, 1) := by decide +kernel
theorem dX6_split_7 : decode cX6_split 7 = .ok (.iconst 0, 1) := by decide +kernel
theorem dX6_split_8 : decode cX6_split 8 = .ok (.istore_n 3, 1) := by decide +kernel
theorem dX6_split_9 : decode cX6_split 9 = .ok (.iload_n 3, 1) := by decide +kernel
theorem dX6_split_10 : decode cX6_split 10 = .ok (.iload_n 1, 1) := by decide +kernel
theorem dX6_split_11 : decode cX6_split 11 = .ok (.if_icmp .ge 99, 3) := by decide +kernel
theorem dX6_split_14 : decode cX6_split 14 = .ok (.aload_n 0, 1) := by decide +kernel
theorem dX6_split_15 : decode cX6_split 15 = .ok (.getfield 20, 3) := by decide +kernel
theorem dX6_split_18 : decode cX6_split 18 = .ok (.iload_n 3, 1) := by decide +kernel
theorem dX6_split_19 : decode cX6_split 19 = .ok (.iaload, 1) := by decide +kernel
theorem dX6_split_20 : decode cX6_split 20 = .ok (.iconst (-1), 1) := by decide +kernel
theorem dX6_split_21 : decode cX6_split 21 = .ok (.if_icmp .ne 8, 3) := by decide +kernel
theorem dX6_split_24 : decode cX6_split 24 = .ok (.iconst 0, 1) := by decide +kernel
theorem dX6_split_25 : decode cX6_split 25 = .ok (.istore_n 2, 1) := by decide +kernel
theorem dX6_split_26 : decode cX6_split 26 = .ok (.goto 78, 3) := by decide +kernel
theorem dX6_split_29 : decode cX6_split 29 = .ok (.iload_n 2, 1) := by decide +kernel
theorem dX6_split_30 : decode cX6_split 30 = .ok (.ifCond .ne 47, 3) := by decide +kernel
theorem dX6_split_33 : decode cX6_split 33 = .ok (.aload_n 0, 1) := by decide +kernel
theorem dX6_split_34 : decode cX6_split 34 = .ok (.getfield 32, 3) := by decide +kernel
theorem dX6_split_37 : decode cX6_split 37 = .ok (.aload_n 0, 1) := by decide +kernel
theorem dX6_split_38 : decode cX6_split 38 = .ok (.getfield 23, 3) := by decide +kernel
theorem dX6_split_41 : decode cX6_split 41 = .ok (.arraylength, 1) := by decide +kernel
theorem dX6_split_42 : decode cX6_split 42 = .ok (.if_icmp .ge 35, 3) := by decide +kernel
theorem dX6_split_45 : decode cX6_split 45 = .ok (.aload_n 0, 1) := by decide +kernel
theorem dX6_split_46 : decode cX6_split 46 = .ok (.getfield 23, 3) := by decide +kernel
theorem dX6_split_49 : decode cX6_split 49 = .ok (.aload_n 0, 1) := by decide +kernel
theorem dX6_split_50 : decode cX6_split 50 = .ok (.getfield 32, 3) := by decide +kernel
theorem dX6_split_53 : decode cX6_split 53 = .ok (.iload_n 3, 1) := by decide +kernel
theorem dX6_split_54 : decode cX6_split 54 = .ok (.iastore, 1) := by decide +kernel
theorem dX6_split_55 : decode cX6_split 55 = .ok (.aload_n 0, 1) := by decide +kernel
theorem dX6_split_56 : decode cX6_split 56 = .ok (.getfield 26, 3) := by decide +kernel
theorem dX6_split_59 : decode cX6_split 59 = .ok (.aload_n 0, 1) := by decide +kernel
theorem dX6_split_60 : decode cX6_split 60 = .ok (.getfield 32, 3) := by decide +kernel
theorem dX6_split_63 : decode cX6_split 63 = .ok (.iconst 0, 1) := by decide +kernel
theorem dX6_split_64 : decode cX6_split 64 = .ok (.iastore, 1) := by decide +kernel
theorem dX6_split_65 : decode cX6_split 65 = .ok (.aload_n 0, 1) := by decide +kernel
theorem dX6_split_66 : decode cX6_split 66 = .ok (.dup, 1) := by decide +kernel
theorem dX6_split_67 : decode cX6_split 67 = .ok (.getfield 32, 3) := by decide +kernel
theorem dX6_split_70 : decode cX6_split 70 = .ok (.iconst 1, 1) := by decide +kernel
theorem dX6_split_71 : decode cX6_split 71 = .ok (.iadd, 1) := by decide +kernel
theorem dX6_split_72 : decode cX6_split 72 = .ok (.putfield 32, 3) := by decide +kernel
theorem dX6_split_75 : decode cX6_split 75 = .ok (.iconst 1, 1) := by decide +kernel
theorem dX6_split_76 : decode cX6_split 76 = .ok (.istore_n 2, 1) := by decide +kernel
theorem dX6_split_77 : decode cX6_split 77 = .ok (.aload_n 0, 1) := by decide +kernel
theorem dX6_split_78 : decode cX6_split 78 = .ok (.getfield 20, 3) := by decide +kernel
theorem dX6_split_81 : decode cX6_split 81 = .ok (.iload_n 3, 1) := by decide +kernel
theorem dX6_split_82 : decode cX6_split 82 = .ok (.aload_n 0, 1) := by decide +kernel
theorem dX6_split_83 : decode cX6_split 83 = .ok (.getfield 32, 3) := by decide +kernel
theorem dX6_split_86 : decode cX6_split 86 = .ok (.iconst 1, 1) := by decide +kernel
theorem dX6_split_87 : decode cX6_split 87 = .ok (.isub, 1) := by decide +kernel
theorem dX6_split_88 : decode cX6_split 88 = .ok (.iastore, 1) := by decide +kernel
theorem dX6_split_89 : decode cX6_split 89 = .ok (.aload_n 0, 1) := by decide +kernel
theorem dX6_split_90 : decode cX6_split 90 = .ok (.getfield 26, 3) := by decide +kernel
theorem dX6_split_93 : decode cX6_split 93 = .ok (.aload_n 0, 1) := by decide +kernel
theorem dX6_split_94 : decode cX6_split 94 = .ok (.getfield 32, 3) := by decide +kernel
theorem dX6_split_97 : decode cX6_split 97 = .ok (.iconst 1, 1) := by decide +kernel
theorem dX6_split_98 : decode cX6_split 98 = .ok (.isub, 1) := by decide +kernel
theorem dX6_split_99 : decode cX6_split 99 = .ok (.dup2, 1) := by decide +kernel
theorem dX6_split_100 : decode cX6_split 100 = .ok (.iaload, 1) := by decide +kernel
theorem dX6_split_101 : decode cX6_split 101 = .ok (.iconst 1, 1) := by decide +kernel
theorem dX6_split_102 : decode cX6_split 102 = .ok (.iadd, 1) := by decide +kernel
theorem dX6_split_103 : decode cX6_split 103 = .ok (.iastore, 1) := by decide +kernel
theorem dX6_split_104 : decode cX6_split 104 = .ok (.iinc 3 1, 3) := by decide +kernel
theorem dX6_split_107 : decode cX6_split 107 = .ok (.goto (-98), 3) := by decide +kernel
theorem dX6_split_110 : decode cX6_split 110 = .ok (.return_, 1) := by decide +kernel
theorem dX6_lookThrough_0 : decode cX6_lookThrough 0 = .ok (.iconst 0, 1) := by decide +kernel
theorem dX6_lookThrough_1 : decode cX6_lookThrough 1 = .ok (.istore_n 2, 1) := by decide +kernel
theorem dX6_lookThrough_2 : decode cX6_lookThrough 2 = .ok (.iload_n 2, 1) := by decide +kernel
theorem dX6_lookThrough_3 : decode cX6_lookThrough 3 = .ok (.aload_n 1, 1) := by decide +kernel
theorem dX6_lookThrough_4 : decode cX6_lookThrough 4 = .ok (.getfield 59, 3) := by decide +kernel
theorem dX6_lookThrough_7 : decode cX6_lookThrough 7 = .ok (.if_icmp .ge 55, 3) := by decide +kernel
theorem dX6_lookThrough_10 : decode cX6_lookThrough 10 = .ok (.iconst 0, 1) := by decide +kernel
theorem dX6_lookThrough_11 : decode cX6_lookThrough 11 = .ok (.istore_n 3, 1) := by decide +kernel
theorem dX6_lookThrough_12 : decode cX6_lookThrough 12 = .ok (.iload_n 3, 1) := by decide +kernel
theorem dX6_lookThrough_13 : decode cX6_lookThrough 13 = .ok (.aload_n 0, 1) := by decide +kernel
theorem dX6_lookThrough_14 : decode cX6_lookThrough 14 = .ok (.getfield 32, 3) := by decide +kernel
theorem dX6_lookThrough_17 : decode cX6_lookThrough 17 = .ok (.if_icmp .ge 39, 3) := by decide +kernel
theorem dX6_lookThrough_20 : decode cX6_lookThrough 20 = .ok (.aload_n 1, 1) := by decide +kernel
theorem dX6_lookThrough_21 : decode cX6_lookThrough 21 = .ok (.iload_n 2, 1) := by decide +kernel
theorem dX6_lookThrough_22 : decode cX6_lookThrough 22 = .ok (.aload_n 0, 1) := by decide +kernel
theorem dX6_lookThrough_23 : decode cX6_lookThrough 23 = .ok (.getfield 11, 3) := by decide +kernel
theorem dX6_lookThrough_26 : decode cX6_lookThrough 26 = .ok (.iload_n 2, 1) := by decide +kernel
theorem dX6_lookThrough_27 : decode cX6_lookThrough 27 = .ok (.aaload, 1) := by decide +kernel
theorem dX6_lookThrough_28 : decode cX6_lookThrough 28 = .ok (.aload_n 0, 1) := by decide +kernel
theorem dX6_lookThrough_29 : decode cX6_lookThrough 29 = .ok (.getfield 11, 3) := by decide +kernel
theorem dX6_lookThrough_32 : decode cX6_lookThrough 32 = .ok (.iload_n 2, 1) := by decide +kernel
theorem dX6_lookThrough_33 : decode cX6_lookThrough 33 = .ok (.iconst 1, 1) := by decide +kernel
theorem dX6_lookThrough_34 : decode cX6_lookThrough 34 = .ok (.iadd, 1) := by decide +kernel
theorem dX6_lookThrough_35 : decode cX6_lookThrough 35 = .ok (.aaload, 1) := by decide +kernel
theorem dX6_lookThrough_36 : decode cX6_lookThrough 36 = .ok (.aload_n 0, 1) := by decide +kernel
theorem dX6_lookThrough_37 : decode cX6_lookThrough 37 = .ok (.getfield 23, 3) := by decide +kernel
theorem dX6_lookThrough_40 : decode cX6_lookThrough 40 = .ok (.iload_n 3, 1) := by decide +kernel
theorem dX6_lookThrough_41 : decode cX6_lookThrough 41 = .ok (.iaload, 1) := by decide +kernel
theorem dX6_lookThrough_42 : decode cX6_lookThrough 42 = .ok (.aload_n 0, 1) := by decide +kernel
theorem dX6_lookThrough_43 : decode cX6_lookThrough 43 = .ok (.iload_n 3, 1) := by decide +kernel
theorem dX6_lookThrough_44 : decode cX6_lookThrough 44 = .ok (.invokevirtual 62, 3) := by decide +kernel
theorem dX6_lookThrough_47 : decode cX6_lookThrough 47 = .ok (.invokevirtual 66, 3) := by decide +kernel
theorem dX6_lookThrough_50 : decode cX6_lookThrough 50 = .ok (.iinc 3 1, 3) := by decide +kernel
theorem dX6_lookThrough_53 : decode cX6_lookThrough 53 = .ok (.goto (-41), 3) := by decide +kernel
theorem dX6_lookThrough_56 : decode cX6_lookThrough 56 = .ok (.iinc 2 1, 3) := by decide +kernel
theorem dX6_lookThrough_59 : decode cX6_lookThrough 59 = .ok (.goto (-57), 3) := by decide +kernel
theorem dX6_lookThrough_62 : decode cX6_lookThrough 62 = .ok (.aload_n 0, 1) := by decide +kernel
theorem dX6_lookThrough_63 : decode cX6_lookThrough 63 = .ok (.aload_n 0, 1) := by decide +kernel
theorem dX6_lookThrough_64 : decode cX6_lookThrough 64 = .ok (.getfield 11, 3) := by decide +kernel
theorem dX6_lookThrough_67 : decode cX6_lookThrough 67 = .ok (.aload_n 1, 1) := by decide +kernel
theorem dX6_lookThrough_68 : decode cX6_lookThrough 68 = .ok (.getfield 59, 3) := by decide +kernel
theorem dX6_lookThrough_71 : decode cX6_lookThrough 71 = .ok (.aaload, 1) := by decide +kernel
theorem dX6_lookThrough_72 : decode cX6_lookThrough 72 = .ok (.putfield 16, 3) := by decide +kernel
theorem dX6_lookThrough_75 : decode cX6_lookThrough 75 = .ok (.return_, 1) := by decide +kernel
theorem dX6_findLevels_0 : decode cX6_findLevels 0 = .ok (.iconst 0, 1) := by decide +kernel
theorem dX6_findLevels_1 : decode cX6_findLevels 1 = .ok (.istore_n 3, 1) := by decide +kernel
theorem dX6_findLevels_2 : decode cX6_findLevels 2 = .ok (.iload_n 3, 1) := by decide +kernel
theorem dX6_findLevels_3 : decode cX6_findLevels 3 = .ok (.aload_n 0, 1) := by decide +kernel
theorem dX6_findLevels_4 : decode cX6_findLevels 4 = .ok (.getfield 32, 3) := by decide +kernel
theorem dX6_findLevels_7 : decode cX6_findLevels 7 = .ok (.if_icmp .ge 78, 3) := by decide +kernel
theorem dX6_findLevels_10 : decode cX6_findLevels 10 = .ok (.aload_n 1, 1) := by decide +kernel
theorem dX6_findLevels_11 : decode cX6_findLevels 11 = .ok (.getfield 70, 3) := by decide +kernel
theorem dX6_findLevels_14 : decode cX6_findLevels 14 = .ok (.lookupswitch 55 #[(1, 26), (2, 40)], 26) := by decide +kernel
theorem dX6_findLevels_40 : decode cX6_findLevels 40 = .ok (.aload_n 0, 1) := by decide +kernel
theorem dX6_findLevels_41 : decode cX6_findLevels 41 = .ok (.getfield 29, 3) := by decide +kernel
theorem dX6_findLevels_44 : decode cX6_findLevels 44 = .ok (.iload_n 3, 1) := by decide +kernel
theorem dX6_findLevels_45 : decode cX6_findLevels 45 = .ok (.aload_n 0, 1) := by decide +kernel
theorem dX6_findLevels_46 : decode cX6_findLevels 46 = .ok (.iload_n 3, 1) := by decide +kernel
theorem dX6_findLevels_47 : decode cX6_findLevels 47 = .ok (.invokevirtual 75, 3) := by decide +kernel
theorem dX6_findLevels_50 : decode cX6_findLevels 50 = .ok (.iastore, 1) := by decide +kernel
theorem dX6_findLevels_51 : decode cX6_findLevels 51 = .ok (.goto 28, 3) := by decide +kernel
theorem dX6_findLevels_54 : decode cX6_findLevels 54 = .ok (.aload_n 0, 1) := by decide +kernel
theorem dX6_findLevels_55 : decode cX6_findLevels 55 = .ok (.getfield 29, 3) := by decide +kernel
theorem dX6_findLevels_58 : decode cX6_findLevels 58 = .ok (.iload_n 3, 1) := by decide +kernel
theorem dX6_findLevels_59 : decode cX6_findLevels 59 = .ok (.aload_n 0, 1) := by decide +kernel
theorem dX6_findLevels_60 : decode cX6_findLevels 60 = .ok (.iload_n 3, 1) := by decide +kernel
theorem dX6_findLevels_61 : decode cX6_findLevels 61 = .ok (.aload_n 2, 1) := by decide +kernel
theorem dX6_findLevels_62 : decode cX6_findLevels 62 = .ok (.invokevirtual 78, 3) := by decide +kernel
theorem dX6_findLevels_65 : decode cX6_findLevels 65 = .ok (.iastore, 1) := by decide +kernel
theorem dX6_findLevels_66 : decode cX6_findLevels 66 = .ok (.goto 13, 3) := by decide +kernel
theorem dX6_findLevels_69 : decode cX6_findLevels 69 = .ok (.aload_n 0, 1) := by decide +kernel
theorem dX6_findLevels_70 : decode cX6_findLevels 70 = .ok (.getfield 29, 3) := by decide +kernel
theorem dX6_findLevels_73 : decode cX6_findLevels 73 = .ok (.iload_n 3, 1) := by decide +kernel
theorem dX6_findLevels_74 : decode cX6_findLevels 74 = .ok (.aload_n 1, 1) := by decide +kernel
theorem dX6_findLevels_75 : decode cX6_findLevels 75 = .ok (.getfield 82, 3) := by decide +kernel
theorem dX6_findLevels_78 : decode cX6_findLevels 78 = .ok (.iastore, 1) := by decide +kernel
theorem dX6_findLevels_79 : decode cX6_findLevels 79 = .ok (.iinc 3 1, 3) := by decide +kernel
theorem dX6_findLevels_82 : decode cX6_findLevels 82 = .ok (.goto (-80), 3) := by decide +kernel
theorem dX6_findLevels_85 : decode cX6_findLevels 85 = .ok (.return_, 1) := by decide +kernel
theorem dX6_meanOf_0 : decode cX6_meanOf 0 = .ok (.lconst 0, 1) := by decide +kernel
theorem dX6_meanOf_1 : decode cX6_meanOf 1 = .ok (.lstore_n 2, 1) := by decide +kernel
theorem dX6_meanOf_2 : decode cX6_meanOf 2 = .ok (.aload_n 0, 1) := by decide +kernel
theorem dX6_meanOf_3 : decode cX6_meanOf 3 = .ok (.iload_n 1, 1) := by decide +kernel
theorem dX6_meanOf_4 : decode cX6_meanOf 4 = .ok (.invokevirtual 62, 3) := by decide +kernel
theorem dX6_meanOf_7 : decode cX6_meanOf 7 = .ok (.istore 4, 2) := by decide +kernel
theorem dX6_meanOf_9 : decode cX6_meanOf 9 = .ok (.aload_n 0, 1) := by decide +kernel
theorem dX6_meanOf_10 : decode cX6_meanOf 10 = .ok (.getfield 23, 3) := by decide +kernel
theorem dX6_meanOf_13 : decode cX6_meanOf 13 = .ok (.iload_n 1, 1) := by decide +kernel
theorem dX6_meanOf_14 : decode cX6_meanOf 14 = .ok (.iaload, 1) := by decide +kernel
theorem dX6_meanOf_15 : decode cX6_meanOf 15 = .ok (.istore 5, 2) := by decide +kernel
theorem dX6_meanOf_17 : decode cX6_meanOf 17 = .ok (.iload 5, 2) := by decide +kernel
theorem dX6_meanOf_19 : decode cX6_meanOf 19 = .ok (.iload 4, 2) := by decide +kernel
theorem dX6_meanOf_21 : decode cX6_meanOf 21 = .ok (.if_icmp .ge 20, 3) := by decide +kernel
theorem dX6_meanOf_24 : decode cX6_meanOf 24 = .ok (.lload_n 2, 1) := by decide +kernel
theorem dX6_meanOf_25 : decode cX6_meanOf 25 = .ok (.aload_n 0, 1) := by decide +kernel
theorem dX6_meanOf_26 : decode cX6_meanOf 26 = .ok (.getfield 16, 3) := by decide +kernel
theorem dX6_meanOf_29 : decode cX6_meanOf 29 = .ok (.iload 5, 2) := by decide +kernel
theorem dX6_meanOf_31 : decode cX6_meanOf 31 = .ok (.iaload, 1) := by decide +kernel
theorem dX6_meanOf_32 : decode cX6_meanOf 32 = .ok (.i2l, 1) := by decide +kernel
theorem dX6_meanOf_33 : decode cX6_meanOf 33 = .ok (.ladd, 1) := by decide +kernel
theorem dX6_meanOf_34 : decode cX6_meanOf 34 = .ok (.lstore_n 2, 1) := by decide +kernel
theorem dX6_meanOf_35 : decode cX6_meanOf 35 = .ok (.iinc 5 1, 3) := by decide +kernel
theorem dX6_meanOf_38 : decode cX6_meanOf 38 = .ok (.goto (-21), 3) := by decide +kernel
theorem dX6_meanOf_41 : decode cX6_meanOf 41 = .ok (.lload_n 2, 1) := by decide +kernel
theorem dX6_meanOf_42 : decode cX6_meanOf 42 = .ok (.aload_n 0, 1) := by decide +kernel
theorem dX6_meanOf_43 : decode cX6_meanOf 43 = .ok (.getfield 26, 3) := by decide +kernel
theorem dX6_meanOf_46 : decode cX6_meanOf 46 = .ok (.iload_n 1, 1) := by decide +kernel
theorem dX6_meanOf_47 : decode cX6_meanOf 47 = .ok (.iaload, 1) := by decide +kernel
theorem dX6_meanOf_48 : decode cX6_meanOf 48 = .ok (.invokestatic 55, 3) := by decide +kernel
theorem dX6_meanOf_51 : decode cX6_meanOf 51 = .ok (.ireturn, 1) := by decide +kernel
theorem dX6_middleOf_0 : decode cX6_middleOf 0 = .ok (.aload_n 2, 1) := by decide +kernel
theorem dX6_middleOf_1 : decode cX6_middleOf 1 = .ok (.invokevirtual 85, 3) := by decide +kernel
theorem dX6_middleOf_4 : decode cX6_middleOf 4 = .ok (.aload_n 0, 1) := by decide +kernel
theorem dX6_middleOf_5 : decode cX6_middleOf 5 = .ok (.iload_n 1, 1) := by decide +kernel
theorem dX6_middleOf_6 : decode cX6_middleOf 6 = .ok (.invokevirtual 62, 3) := by decide +kernel
theorem dX6_middleOf_9 : decode cX6_middleOf 9 = .ok (.istore_n 3, 1) := by decide +kernel
theorem dX6_middleOf_10 : decode cX6_middleOf 10 = .ok (.aload_n 0, 1) := by decide +kernel
theorem dX6_middleOf_11 : decode cX6_middleOf 11 = .ok (.getfield 23, 3) := by decide +kernel
theorem dX6_middleOf_14 : decode cX6_middleOf 14 = .ok (.iload_n 1, 1) := by decide +kernel
theorem dX6_middleOf_15 : decode cX6_middleOf 15 = .ok (.iaload, 1) := by decide +kernel
theorem dX6_middleOf_16 : decode cX6_middleOf 16 = .ok (.istore 4, 2) := by decide +kernel
theorem dX6_middleOf_18 : decode cX6_middleOf 18 = .ok (.iload 4, 2) := by decide +kernel
theorem dX6_middleOf_20 : decode cX6_middleOf 20 = .ok (.iload_n 3, 1) := by decide +kernel
theorem dX6_middleOf_21 : decode cX6_middleOf 21 = .ok (.if_icmp .ge 21, 3) := by decide +kernel
theorem dX6_middleOf_24 : decode cX6_middleOf 24 = .ok (.aload_n 2, 1) := by decide +kernel
theorem dX6_middleOf_25 : decode cX6_middleOf 25 = .ok (.aload_n 0, 1) := by decide +kernel
theorem dX6_middleOf_26 : decode cX6_middleOf 26 = .ok (.getfield 16, 3) := by decide +kernel
theorem dX6_middleOf_29 : decode cX6_middleOf 29 = .ok (.iload 4, 2) := by decide +kernel
theorem dX6_middleOf_31 : decode cX6_middleOf 31 = .ok (.iaload, 1) := by decide +kernel
theorem dX6_middleOf_32 : decode cX6_middleOf 32 = .ok (.i2l, 1) := by decide +kernel
theorem dX6_middleOf_33 : decode cX6_middleOf 33 = .ok (.invokevirtual 90, 3) := by decide +kernel
theorem dX6_middleOf_36 : decode cX6_middleOf 36 = .ok (.iinc 4 1, 3) := by decide +kernel
theorem dX6_middleOf_39 : decode cX6_middleOf 39 = .ok (.goto (-21), 3) := by decide +kernel
theorem dX6_middleOf_42 : decode cX6_middleOf 42 = .ok (.aload_n 2, 1) := by decide +kernel
theorem dX6_middleOf_43 : decode cX6_middleOf 43 = .ok (.invokevirtual 94, 3) := by decide +kernel
theorem dX6_middleOf_46 : decode cX6_middleOf 46 = .ok (.aload_n 2, 1) := by decide +kernel
theorem dX6_middleOf_47 : decode cX6_middleOf 47 = .ok (.aload_n 0, 1) := by decide +kernel
theorem dX6_middleOf_48 : decode cX6_middleOf 48 = .ok (.getfield 26, 3) := by decide +kernel
theorem dX6_middleOf_51 : decode cX6_middleOf 51 = .ok (.iload_n 1, 1) := by decide +kernel
theorem dX6_middleOf_52 : decode cX6_middleOf 52 = .ok (.iaload, 1) := by decide +kernel
theorem dX6_middleOf_53 : decode cX6_middleOf 53 = .ok (.iconst 1, 1) := by decide +kernel
theorem dX6_middleOf_54 : decode cX6_middleOf 54 = .ok (.isub, 1) := by decide +kernel
theorem dX6_middleOf_55 : decode cX6_middleOf 55 = .ok (.iconst 2, 1) := by decide +kernel
theorem dX6_middleOf_56 : decode cX6_middleOf 56 = .ok (.idiv, 1) := by decide +kernel
theorem dX6_middleOf_57 : decode cX6_middleOf 57 = .ok (.invokevirtual 97, 3) := by decide +kernel
theorem dX6_middleOf_60 : decode cX6_middleOf 60 = .ok (.l2i, 1) := by decide +kernel
theorem dX6_middleOf_61 : decode cX6_middleOf 61 = .ok (.ireturn, 1) := by decide +kernel
theorem dX6_topIn_0 : decode cX6_topIn 0 = .ok (.iload_n 1, 1) := by decide +kernel
theorem dX6_topIn_1 : decode cX6_topIn 1 = .ok (.istore_n 3, 1) := by decide +kernel
theorem dX6_topIn_2 : decode cX6_topIn 2 = .ok (.iload_n 1, 1) := by decide +kernel
theorem dX6_topIn_3 : decode cX6_topIn 3 = .ok (.istore 4, 2) := by decide +kernel
theorem dX6_topIn_5 : decode cX6_topIn 5 = .ok (.iload 4, 2) := by decide +kernel
theorem dX6_topIn_7 : decode cX6_topIn 7 = .ok (.iload_n 2, 1) := by decide +kernel
theorem dX6_topIn_8 : decode cX6_topIn 8 = .ok (.if_icmp .ge 28, 3) := by decide +kernel
theorem dX6_topIn_11 : decode cX6_topIn 11 = .ok (.aload_n 0, 1) := by decide +kernel
theorem dX6_topIn_12 : decode cX6_topIn 12 = .ok (.getfield 16, 3) := by decide +kernel
theorem dX6_topIn_15 : decode cX6_topIn 15 = .ok (.iload 4, 2) := by decide +kernel
theorem dX6_topIn_17 : decode cX6_topIn 17 = .ok (.iaload, 1) := by decide +kernel
theorem dX6_topIn_18 : decode cX6_topIn 18 = .ok (.aload_n 0, 1) := by decide +kernel
theorem dX6_topIn_19 : decode cX6_topIn 19 = .ok (.getfield 16, 3) := by decide +kernel
theorem dX6_topIn_22 : decode cX6_topIn 22 = .ok (.iload_n 3, 1) := by decide +kernel
theorem dX6_topIn_23 : decode cX6_topIn 23 = .ok (.iaload, 1) := by decide +kernel
theorem dX6_topIn_24 : decode cX6_topIn 24 = .ok (.if_icmp .le 6, 3) := by decide +kernel
theorem dX6_topIn_27 : decode cX6_topIn 27 = .ok (.iload 4, 2) := by decide +kernel
theorem dX6_topIn_29 : decode cX6_topIn 29 = .ok (.istore_n 3, 1) := by decide +kernel
theorem dX6_topIn_30 : decode cX6_topIn 30 = .ok (.iinc 4 1, 3) := by decide +kernel
theorem dX6_topIn_33 : decode cX6_topIn 33 = .ok (.goto (-28), 3) := by decide +kernel
theorem dX6_topIn_36 : decode cX6_topIn 36 = .ok (.iload_n 3, 1) := by decide +kernel
theorem dX6_topIn_37 : decode cX6_topIn 37 = .ok (.ireturn, 1) := by decide +kernel
theorem dX6_leastIn_0 : decode cX6_leastIn 0 = .ok (.aload_n 0, 1) := by decide +kernel
theorem dX6_leastIn_1 : decode cX6_leastIn 1 = .ok (.getfield 16, 3) := by decide +kernel
theorem dX6_leastIn_4 : decode cX6_leastIn 4 = .ok (.iload_n 1, 1) := by decide +kernel
theorem dX6_leastIn_5 : decode cX6_leastIn 5 = .ok (.iaload, 1) := by decide +kernel
theorem dX6_leastIn_6 : decode cX6_leastIn 6 = .ok (.istore_n 3, 1) := by decide +kernel
theorem dX6_leastIn_7 : decode cX6_leastIn 7 = .ok (.iload_n 1, 1) := by decide +kernel
theorem dX6_leastIn_8 : decode cX6_leastIn 8 = .ok (.istore 4, 2) := by decide +kernel
theorem dX6_leastIn_10 : decode cX6_leastIn 10 = .ok (.iload 4, 2) := by decide +kernel
theorem dX6_leastIn_12 : decode cX6_leastIn 12 = .ok (.iload_n 2, 1) := by decide +kernel
theorem dX6_leastIn_13 : decode cX6_leastIn 13 = .ok (.if_icmp .ge 21, 3) := by decide +kernel
theorem dX6_leastIn_16 : decode cX6_leastIn 16 = .ok (.iload_n 3, 1) := by decide +kernel
theorem dX6_leastIn_17 : decode cX6_leastIn 17 = .ok (.aload_n 0, 1) := by decide +kernel
theorem dX6_leastIn_18 : decode cX6_leastIn 18 = .ok (.getfield 16, 3) := by decide +kernel
theorem dX6_leastIn_21 : decode cX6_leastIn 21 = .ok (.iload 4, 2) := by decide +kernel
theorem dX6_leastIn_23 : decode cX6_leastIn 23 = .ok (.iaload, 1) := by decide +kernel
theorem dX6_leastIn_24 : decode cX6_leastIn 24 = .ok (.invokestatic 101, 3) := by decide +kernel
theorem dX6_leastIn_27 : decode cX6_leastIn 27 = .ok (.istore_n 3, 1) := by decide +kernel
theorem dX6_leastIn_28 : decode cX6_leastIn 28 = .ok (.iinc 4 1, 3) := by decide +kernel
theorem dX6_leastIn_31 : decode cX6_leastIn 31 = .ok (.goto (-21), 3) := by decide +kernel
theorem dX6_leastIn_34 : decode cX6_leastIn 34 = .ok (.iload_n 3, 1) := by decide +kernel
theorem dX6_leastIn_35 : decode cX6_leastIn 35 = .ok (.ireturn, 1) := by decide +kernel
theorem dX6_nextCrossing_0 : decode cX6_nextCrossing 0 = .ok (.iconst 0, 1) := by decide +kernel
theorem dX6_nextCrossing_1 : decode cX6_nextCrossing 1 = .ok (.istore 4, 2) := by decide +kernel
theorem dX6_nextCrossing_3 : decode cX6_nextCrossing 3 = .ok (.aload_n 0, 1) := by decide +kernel
theorem dX6_nextCrossing_4 : decode cX6_nextCrossing 4 = .ok (.iload_n 1, 1) := by decide +kernel
theorem dX6_nextCrossing_5 : decode cX6_nextCrossing 5 = .ok (.invokevirtual 62, 3) := by decide +kernel
theorem dX6_nextCrossing_8 : decode cX6_nextCrossing 8 = .ok (.istore 5, 2) := by decide +kernel
theorem dX6_nextCrossing_10 : decode cX6_nextCrossing 10 = .ok (.iload_n 2, 1) := by decide +kernel
theorem dX6_nextCrossing_11 : decode cX6_nextCrossing 11 = .ok (.istore 6, 2) := by decide +kernel
theorem dX6_nextCrossing_13 : decode cX6_nextCrossing 13 = .ok (.iload 6, 2) := by decide +kernel
theorem dX6_nextCrossing_15 : decode cX6_nextCrossing 15 = .ok (.iload 5, 2) := by decide +kernel
theorem dX6_nextCrossing_17 : decode cX6_nextCrossing 17 = .ok (.if_icmp .ge 52, 3) := by decide +kernel
theorem dX6_nextCrossing_20 : decode cX6_nextCrossing 20 = .ok (.aload_n 0, 1) := by decide +kernel
theorem dX6_nextCrossing_21 : decode cX6_nextCrossing 21 = .ok (.getfield 16, 3) := by decide +kernel
theorem dX6_nextCrossing_24 : decode cX6_nextCrossing 24 = .ok (.iload 6, 2) := by decide +kernel
theorem dX6_nextCrossing_26 : decode cX6_nextCrossing 26 = .ok (.iaload, 1) := by decide +kernel
theorem dX6_nextCrossing_27 : decode cX6_nextCrossing 27 = .ok (.aload_n 0, 1) := by decide +kernel
theorem dX6_nextCrossing_28 : decode cX6_nextCrossing 28 = .ok (.getfield 29, 3) := by decide +kernel
theorem dX6_nextCrossing_31 : decode cX6_nextCrossing 31 = .ok (.iload_n 1, 1) := by decide +kernel
theorem dX6_nextCrossing_32 : decode cX6_nextCrossing 32 = .ok (.iaload, 1) := by decide +kernel
theorem dX6_nextCrossing_33 : decode cX6_nextCrossing 33 = .ok (.isub, 1) := by decide +kernel
theorem dX6_nextCrossing_34 : decode cX6_nextCrossing 34 = .ok (.istore 7, 2) := by decide +kernel
theorem dX6_nextCrossing_36 : decode cX6_nextCrossing 36 = .ok (.iload 7, 2) := by decide +kernel
theorem dX6_nextCrossing_38 : decode cX6_nextCrossing 38 = .ok (.iload_n 3, 1) := by decide +kernel
theorem dX6_nextCrossing_39 : decode cX6_nextCrossing 39 = .ok (.ineg, 1) := by decide +kernel
theorem dX6_nextCrossing_40 : decode cX6_nextCrossing 40 = .ok (.if_icmp .ge 9, 3) := by decide +kernel
theorem dX6_nextCrossing_43 : decode cX6_nextCrossing 43 = .ok (.iconst 1, 1) := by decide +kernel
theorem dX6_nextCrossing_44 : decode cX6_nextCrossing 44 = .ok (.istore 4, 2) := by decide +kernel
theorem dX6_nextCrossing_46 : decode cX6_nextCrossing 46 = .ok (.goto 17, 3) := by decide +kernel
theorem dX6_nextCrossing_49 : decode cX6_nextCrossing 49 = .ok (.iload 4, 2) := by decide +kernel
theorem dX6_nextCrossing_51 : decode cX6_nextCrossing 51 = .ok (.ifCond .eq 12, 3) := by decide +kernel
theorem dX6_nextCrossing_54 : decode cX6_nextCrossing 54 = .ok (.iload 7, 2) := by decide +kernel
theorem dX6_nextCrossing_56 : decode cX6_nextCrossing 56 = .ok (.iload_n 3, 1) := by decide +kernel
theorem dX6_nextCrossing_57 : decode cX6_nextCrossing 57 = .ok (.if_icmp .le 6, 3) := by decide +kernel
theorem dX6_nextCrossing_60 : decode cX6_nextCrossing 60 = .ok (.iload 6, 2) := by decide +kernel
theorem dX6_nextCrossing_62 : decode cX6_nextCrossing 62 = .ok (.ireturn, 1) := by decide +kernel
theorem dX6_nextCrossing_63 : decode cX6_nextCrossing 63 = .ok (.iinc 6 1, 3) := by decide +kernel
theorem dX6_nextCrossing_66 : decode cX6_nextCrossing 66 = .ok (.goto (-53), 3) := by decide +kernel
theorem dX6_nextCrossing_69 : decode cX6_nextCrossing 69 = .ok (.iconst (-1), 1) := by decide +kernel
theorem dX6_nextCrossing_70 : decode cX6_nextCrossing 70 = .ok (.ireturn, 1) := by decide +kernel
theorem dX6_wavesBy_0 : decode cX6_wavesBy 0 = .ok (.iconst 0, 1) := by decide +kernel
theorem dX6_wavesBy_1 : decode cX6_wavesBy 1 = .ok (.istore_n 2, 1) := by decide +kernel
theorem dX6_wavesBy_2 : decode cX6_wavesBy 2 = .ok (.iconst 0, 1) := by decide +kernel
theorem dX6_wavesBy_3 : decode cX6_wavesBy 3 = .ok (.istore_n 3, 1) := by decide +kernel
theorem dX6_wavesBy_4 : decode cX6_wavesBy 4 = .ok (.iload_n 3, 1) := by decide +kernel
theorem dX6_wavesBy_5 : decode cX6_wavesBy 5 = .ok (.aload_n 0, 1) := by decide +kernel
theorem dX6_wavesBy_6 : decode cX6_wavesBy 6 = .ok (.getfield 32, 3) := by decide +kernel
theorem dX6_wavesBy_9 : decode cX6_wavesBy 9 = .ok (.if_icmp .ge 78, 3) := by decide +kernel
theorem dX6_wavesBy_12 : decode cX6_wavesBy 12 = .ok (.iconst 0, 1) := by decide +kernel
theorem dX6_wavesBy_13 : decode cX6_wavesBy 13 = .ok (.istore 4, 2) := by decide +kernel
theorem dX6_wavesBy_15 : decode cX6_wavesBy 15 = .ok (.aload_n 0, 1) := by decide +kernel
theorem dX6_wavesBy_16 : decode cX6_wavesBy 16 = .ok (.iload_n 3, 1) := by decide +kernel
theorem dX6_wavesBy_17 : decode cX6_wavesBy 17 = .ok (.aload_n 0, 1) := by decide +kernel
theorem dX6_wavesBy_18 : decode cX6_wavesBy 18 = .ok (.getfield 23, 3) := by decide +kernel
theorem dX6_wavesBy_21 : decode cX6_wavesBy 21 = .ok (.iload_n 3, 1) := by decide +kernel
theorem dX6_wavesBy_22 : decode cX6_wavesBy 22 = .ok (.iaload, 1) := by decide +kernel
theorem dX6_wavesBy_23 : decode cX6_wavesBy 23 = .ok (.iload_n 1, 1) := by decide +kernel
theorem dX6_wavesBy_24 : decode cX6_wavesBy 24 = .ok (.invokevirtual 107, 3) := by decide +kernel
theorem dX6_wavesBy_27 : decode cX6_wavesBy 27 = .ok (.istore 5, 2) := by decide +kernel
theorem dX6_wavesBy_29 : decode cX6_wavesBy 29 = .ok (.iconst 0, 1) := by decide +kernel
theorem dX6_wavesBy_30 : decode cX6_wavesBy 30 = .ok (.istore 6, 2) := by decide +kernel
theorem dX6_wavesBy_32 : decode cX6_wavesBy 32 = .ok (.iload 6, 2) := by decide +kernel
theorem dX6_wavesBy_34 : decode cX6_wavesBy 34 = .ok (.aload_n 0, 1) := by decide +kernel
theorem dX6_wavesBy_35 : decode cX6_wavesBy 35 = .ok (.getfield 26, 3) := by decide +kernel
theorem dX6_wavesBy_38 : decode cX6_wavesBy 38 = .ok (.iload_n 3, 1) := by decide +kernel
theorem dX6_wavesBy_39 : decode cX6_wavesBy 39 = .ok (.iaload, 1) := by decide +kernel
theorem dX6_wavesBy_40 : decode cX6_wavesBy 40 = .ok (.if_icmp .ge 30, 3) := by decide +kernel
theorem dX6_wavesBy_43 : decode cX6_wavesBy 43 = .ok (.iload 5, 2) := by decide +kernel
theorem dX6_wavesBy_45 : decode cX6_wavesBy 45 = .ok (.iconst (-1), 1) := by decide +kernel
theorem dX6_wavesBy_46 : decode cX6_wavesBy 46 = .ok (.if_icmp .eq 24, 3) := by decide +kernel
theorem dX6_wavesBy_49 : decode cX6_wavesBy 49 = .ok (.iinc 4 1, 3) := by decide +kernel
theorem dX6_wavesBy_52 : decode cX6_wavesBy 52 = .ok (.aload_n 0, 1) := by decide +kernel
theorem dX6_wavesBy_53 : decode cX6_wavesBy 53 = .ok (.iload_n 3, 1) := by decide +kernel
theorem dX6_wavesBy_54 : decode cX6_wavesBy 54 = .ok (.iload 5, 2) := by decide +kernel
theorem dX6_wavesBy_56 : decode cX6_wavesBy 56 = .ok (.iconst 1, 1) := by decide +kernel
theorem dX6_wavesBy_57 : decode cX6_wavesBy 57 = .ok (.iadd, 1) := by decide +kernel
theorem dX6_wavesBy_58 : decode cX6_wavesBy 58 = .ok (.iload_n 1, 1) := by decide +kernel
theorem dX6_wavesBy_59 : decode cX6_wavesBy 59 = .ok (.invokevirtual 107, 3) := by decide +kernel
theorem dX6_wavesBy_62 : decode cX6_wavesBy 62 = .ok (.istore 5, 2) := by decide +kernel
theorem dX6_wavesBy_64 : decode cX6_wavesBy 64 = .ok (.iinc 6 1, 3) := by decide +kernel
theorem dX6_wavesBy_67 : decode cX6_wavesBy 67 = .ok (.goto (-35), 3) := by decide +kernel
theorem dX6_wavesBy_70 : decode cX6_wavesBy 70 = .ok (.iload_n 2, 1) := by decide +kernel
theorem dX6_wavesBy_71 : decode cX6_wavesBy 71 = .ok (.iconst 0, 1) := by decide +kernel
theorem dX6_wavesBy_72 : decode cX6_wavesBy 72 = .ok (.iload 4, 2) := by decide +kernel
theorem dX6_wavesBy_74 : decode cX6_wavesBy 74 = .ok (.iconst 1, 1) := by decide +kernel
theorem dX6_wavesBy_75 : decode cX6_wavesBy 75 = .ok (.isub, 1) := by decide +kernel
theorem dX6_wavesBy_76 : decode cX6_wavesBy 76 = .ok (.invokestatic 111, 3) := by decide +kernel
theorem dX6_wavesBy_79 : decode cX6_wavesBy 79 = .ok (.iadd, 1) := by decide +kernel
theorem dX6_wavesBy_80 : decode cX6_wavesBy 80 = .ok (.istore_n 2, 1) := by decide +kernel
theorem dX6_wavesBy_81 : decode cX6_wavesBy 81 = .ok (.iinc 3 1, 3) := by decide +kernel
theorem dX6_wavesBy_84 : decode cX6_wavesBy 84 = .ok (.goto (-80), 3) := by decide +kernel
theorem dX6_wavesBy_87 : decode cX6_wavesBy 87 = .ok (.iload_n 2, 1) := by decide +kernel
theorem dX6_wavesBy_88 : decode cX6_wavesBy 88 = .ok (.ireturn, 1) := by decide +kernel
theorem dX6_bandAgainst_0 : decode cX6_bandAgainst 0 = .ok (.aload_n 0, 1) := by decide +kernel
theorem dX6_bandAgainst_1 : decode cX6_bandAgainst 1 = .ok (.iload_n 1, 1) := by decide +kernel
theorem dX6_bandAgainst_2 : decode cX6_bandAgainst 2 = .ok (.iload_n 2, 1) := by decide +kernel
theorem dX6_bandAgainst_3 : decode cX6_bandAgainst 3 = .ok (.iload 4, 2) := by decide +kernel
theorem dX6_bandAgainst_5 : decode cX6_bandAgainst 5 = .ok (.invokevirtual 114, 3) := by decide +kernel
theorem dX6_bandAgainst_8 : decode cX6_bandAgainst 8 = .ok (.istore 5, 2) := by decide +kernel
theorem dX6_bandAgainst_10 : decode cX6_bandAgainst 10 = .ok (.iload_n 2, 1) := by decide +kernel
theorem dX6_bandAgainst_11 : decode cX6_bandAgainst 11 = .ok (.istore 6, 2) := by decide +kernel
theorem dX6_bandAgainst_13 : decode cX6_bandAgainst 13 = .ok (.iload 6, 2) := by decide +kernel
theorem dX6_bandAgainst_15 : decode cX6_bandAgainst 15 = .ok (.iload_n 3, 1) := by decide +kernel
theorem dX6_bandAgainst_16 : decode cX6_bandAgainst 16 = .ok (.if_icmp .ge 65, 3) := by decide +kernel
theorem dX6_bandAgainst_19 : decode cX6_bandAgainst 19 = .ok (.aload_n 0, 1) := by decide +kernel
theorem dX6_bandAgainst_20 : decode cX6_bandAgainst 20 = .ok (.getfield 16, 3) := by decide +kernel
theorem dX6_bandAgainst_23 : decode cX6_bandAgainst 23 = .ok (.iload 6, 2) := by decide +kernel
theorem dX6_bandAgainst_25 : decode cX6_bandAgainst 25 = .ok (.iaload, 1) := by decide +kernel
theorem dX6_bandAgainst_26 : decode cX6_bandAgainst 26 = .ok (.aload_n 0, 1) := by decide +kernel
theorem dX6_bandAgainst_27 : decode cX6_bandAgainst 27 = .ok (.getfield 29, 3) := by decide +kernel
theorem dX6_bandAgainst_30 : decode cX6_bandAgainst 30 = .ok (.iload_n 1, 1) := by decide +kernel
theorem dX6_bandAgainst_31 : decode cX6_bandAgainst 31 = .ok (.iaload, 1) := by decide +kernel
theorem dX6_bandAgainst_32 : decode cX6_bandAgainst 32 = .ok (.isub, 1) := by decide +kernel
theorem dX6_bandAgainst_33 : decode cX6_bandAgainst 33 = .ok (.istore 7, 2) := by decide +kernel
theorem dX6_bandAgainst_35 : decode cX6_bandAgainst 35 = .ok (.iload 7, 2) := by decide +kernel
theorem dX6_bandAgainst_37 : decode cX6_bandAgainst 37 = .ok (.iload 4, 2) := by decide +kernel
theorem dX6_bandAgainst_39 : decode cX6_bandAgainst 39 = .ok (.if_icmp .le 17, 3) := by decide +kernel
theorem dX6_bandAgainst_42 : decode cX6_bandAgainst 42 = .ok (.iload 5, 2) := by decide +kernel
theorem dX6_bandAgainst_44 : decode cX6_bandAgainst 44 = .ok (.ifCond .ge 12, 3) := by decide +kernel
theorem dX6_bandAgainst_47 : decode cX6_bandAgainst 47 = .ok (.iload 7, 2) := by decide +kernel
theorem dX6_bandAgainst_49 : decode cX6_bandAgainst 49 = .ok (.iload 5, 2) := by decide +kernel
theorem dX6_bandAgainst_51 : decode cX6_bandAgainst 51 = .ok (.ineg, 1) := by decide +kernel
theorem dX6_bandAgainst_52 : decode cX6_bandAgainst 52 = .ok (.invokestatic 101, 3) := by decide +kernel
theorem dX6_bandAgainst_55 : decode cX6_bandAgainst 55 = .ok (.ireturn, 1) := by decide +kernel
theorem dX6_bandAgainst_56 : decode cX6_bandAgainst 56 = .ok (.iload 7, 2) := by decide +kernel
theorem dX6_bandAgainst_58 : decode cX6_bandAgainst 58 = .ok (.iload 4, 2) := by decide +kernel
theorem dX6_bandAgainst_60 : decode cX6_bandAgainst 60 = .ok (.if_icmp .gt 11, 3) := by decide +kernel
theorem dX6_bandAgainst_63 : decode cX6_bandAgainst 63 = .ok (.iload 7, 2) := by decide +kernel
theorem dX6_bandAgainst_65 : decode cX6_bandAgainst 65 = .ok (.iload 4, 2) := by decide +kernel
theorem dX6_bandAgainst_67 : decode cX6_bandAgainst 67 = .ok (.ineg, 1) := by decide +kernel
theorem dX6_bandAgainst_68 : decode cX6_bandAgainst 68 = .ok (.if_icmp .ge 7, 3) := by decide +kernel
theorem dX6_bandAgainst_71 : decode cX6_bandAgainst 71 = .ok (.iload 7, 2) := by decide +kernel
theorem dX6_bandAgainst_73 : decode cX6_bandAgainst 73 = .ok (.istore 5, 2) := by decide +kernel
theorem dX6_bandAgainst_75 : decode cX6_bandAgainst 75 = .ok (.iinc 6 1, 3) := by decide +kernel
theorem dX6_bandAgainst_78 : decode cX6_bandAgainst 78 = .ok (.goto (-65), 3) := by decide +kernel
theorem dX6_bandAgainst_81 : decode cX6_bandAgainst 81 = .ok (.iload 4, 2) := by decide +kernel
theorem dX6_bandAgainst_83 : decode cX6_bandAgainst 83 = .ok (.ireturn, 1) := by decide +kernel
theorem dX6_latestOutside_0 : decode cX6_latestOutside 0 = .ok (.iload_n 2, 1) := by decide +kernel
theorem dX6_latestOutside_1 : decode cX6_latestOutside 1 = .ok (.iconst 1, 1) := by decide +kernel
theorem dX6_latestOutside_2 : decode cX6_latestOutside 2 = .ok (.isub, 1) := by decide +kernel
theorem dX6_latestOutside_3 : decode cX6_latestOutside 3 = .ok (.istore 4, 2) := by decide +kernel
theorem dX6_latestOutside_5 : decode cX6_latestOutside 5 = .ok (.iload 4, 2) := by decide +kernel
theorem dX6_latestOutside_7 : decode cX6_latestOutside 7 = .ok (.aload_n 0, 1) := by decide +kernel
theorem dX6_latestOutside_8 : decode cX6_latestOutside 8 = .ok (.getfield 23, 3) := by decide +kernel
theorem dX6_latestOutside_11 : decode cX6_latestOutside 11 = .ok (.iload_n 1, 1) := by decide +kernel
theorem dX6_latestOutside_12 : decode cX6_latestOutside 12 = .ok (.iaload, 1) := by decide +kernel
theorem dX6_latestOutside_13 : decode cX6_latestOutside 13 = .ok (.if_icmp .lt 41, 3) := by decide +kernel
theorem dX6_latestOutside_16 : decode cX6_latestOutside 16 = .ok (.aload_n 0, 1) := by decide +kernel
theorem dX6_latestOutside_17 : decode cX6_latestOutside 17 = .ok (.getfield 16, 3) := by decide +kernel
theorem dX6_latestOutside_20 : decode cX6_latestOutside 20 = .ok (.iload 4, 2) := by decide +kernel
theorem dX6_latestOutside_22 : decode cX6_latestOutside 22 = .ok (.iaload, 1) := by decide +kernel
theorem dX6_latestOutside_23 : decode cX6_latestOutside 23 = .ok (.aload_n 0, 1) := by decide +kernel
theorem dX6_latestOutside_24 : decode cX6_latestOutside 24 = .ok (.getfield 29, 3) := by decide +kernel
theorem dX6_latestOutside_27 : decode cX6_latestOutside 27 = .ok (.iload_n 1, 1) := by decide +kernel
theorem dX6_latestOutside_28 : decode cX6_latestOutside 28 = .ok (.iaload, 1) := by decide +kernel
theorem dX6_latestOutside_29 : decode cX6_latestOutside 29 = .ok (.isub, 1) := by decide +kernel
theorem dX6_latestOutside_30 : decode cX6_latestOutside 30 = .ok (.istore 5, 2) := by decide +kernel
theorem dX6_latestOutside_32 : decode cX6_latestOutside 32 = .ok (.iload 5, 2) := by decide +kernel
theorem dX6_latestOutside_34 : decode cX6_latestOutside 34 = .ok (.iload_n 3, 1) := by decide +kernel
theorem dX6_latestOutside_35 : decode cX6_latestOutside 35 = .ok (.if_icmp .gt 10, 3) := by decide +kernel
theorem dX6_latestOutside_38 : decode cX6_latestOutside 38 = .ok (.iload 5, 2) := by decide +kernel
theorem dX6_latestOutside_40 : decode cX6_latestOutside 40 = .ok (.iload_n 3, 1) := by decide +kernel
theorem dX6_latestOutside_41 : decode cX6_latestOutside 41 = .ok (.ineg, 1) := by decide +kernel
theorem dX6_latestOutside_42 : decode cX6_latestOutside 42 = .ok (.if_icmp .ge 6, 3) := by decide +kernel
theorem dX6_latestOutside_45 : decode cX6_latestOutside 45 = .ok (.iload 5, 2) := by decide +kernel
theorem dX6_latestOutside_47 : decode cX6_latestOutside 47 = .ok (.ireturn, 1) := by decide +kernel
theorem dX6_latestOutside_48 : decode cX6_latestOutside 48 = .ok (.iinc 4 (-1), 3) := by decide +kernel
theorem dX6_latestOutside_51 : decode cX6_latestOutside 51 = .ok (.goto (-46), 3) := by decide +kernel
theorem dX6_latestOutside_54 : decode cX6_latestOutside 54 = .ok (.iconst 0, 1) := by decide +kernel
theorem dX6_latestOutside_55 : decode cX6_latestOutside 55 = .ok (.ireturn, 1) := by decide +kernel
theorem dX7_init_0 : decode cX7_init 0 = .ok (.aload_n 0, 1) := by decide +kernel
theorem dX7_init_1 : decode cX7_init 1 = .ok (.invokespecial 3, 3) := by decide +kernel
theorem dX7_init_4 : decode cX7_init 4 = .ok (.aload_n 0, 1) := by decide +kernel
theorem dX7_init_5 : decode cX7_init 5 = .ok (.sipush 600, 3) := by decide +kernel
theorem dX7_init_8 : decode cX7_init 8 = .ok (.newarray .int, 2) := by decide +kernel
theorem dX7_init_10 : decode cX7_init 10 = .ok (.putfield 9, 3) := by decide +kernel
theorem dX7_init_13 : decode cX7_init 13 = .ok (.aload_n 0, 1) := by decide +kernel
theorem dX7_init_14 : decode cX7_init 14 = .ok (.sipush 300, 3) := by decide +kernel
theorem dX7_init_17 : decode cX7_init 17 = .ok (.newarray .int, 2) := by decide +kernel
theorem dX7_init_19 : decode cX7_init 19 = .ok (.putfield 15, 3) := by decide +kernel
theorem dX7_init_22 : decode cX7_init 22 = .ok (.aload_n 0, 1) := by decide +kernel
theorem dX7_init_23 : decode cX7_init 23 = .ok (.sipush 300, 3) := by decide +kernel
theorem dX7_init_26 : decode cX7_init 26 = .ok (.newarray .int, 2) := by decide +kernel
theorem dX7_init_28 : decode cX7_init 28 = .ok (.putfield 18, 3) := by decide +kernel
theorem dX7_init_31 : decode cX7_init 31 = .ok (.aload_n 0, 1) := by decide +kernel
theorem dX7_init_32 : decode cX7_init 32 = .ok (.sipush 300, 3) := by decide +kernel
theorem dX7_init_35 : decode cX7_init 35 = .ok (.newarray .int, 2) := by decide +kernel
theorem dX7_init_37 : decode cX7_init 37 = .ok (.putfield 21, 3) := by decide +kernel
theorem dX7_init_40 : decode cX7_init 40 = .ok (.aload_n 0, 1) := by decide +kernel
theorem dX7_init_41 : decode cX7_init 41 = .ok (.sipush 300, 3) := by decide +kernel
theorem dX7_init_44 : decode cX7_init 44 = .ok (.newarray .int, 2) := by decide +kernel
theorem dX7_init_46 : decode cX7_init 46 = .ok (.putfield 24, 3) := by decide +kernel
theorem dX7_init_49 : decode cX7_init 49 = .ok (.aload_n 0, 1) := by decide +kernel
theorem dX7_init_50 : decode cX7_init 50 = .ok (.sipush 300, 3) := by decide +kernel
theorem dX7_init_53 : decode cX7_init 53 = .ok (.newarray .int, 2) := by decide +kernel
theorem dX7_init_55 : decode cX7_init 55 = .ok (.putfield 27, 3) := by decide +kernel
theorem dX7_init_58 : decode cX7_init 58 = .ok (.aload_n 0, 1) := by decide +kernel
theorem dX7_init_59 : decode cX7_init 59 = .ok (.sipush 300, 3) := by decide +kernel
theorem dX7_init_62 : decode cX7_init 62 = .ok (.newarray .int, 2) := by decide +kernel
theorem dX7_init_64 : decode cX7_init 64 = .ok (.putfield 30, 3) := by decide +kernel
theorem dX7_init_67 : decode cX7_init 67 = .ok (.aload_n 0, 1) := by decide +kernel
theorem dX7_init_68 : decode cX7_init 68 = .ok (.sipush 300, 3) := by decide +kernel
theorem dX7_init_71 : decode cX7_init 71 = .ok (.newarray .int, 2) := by decide +kernel
theorem dX7_init_73 : decode cX7_init 73 = .ok (.putfield 33, 3) := by decide +kernel
theorem dX7_init_76 : decode cX7_init 76 = .ok (.aload_n 0, 1) := by decide +kernel
theorem dX7_init_77 : decode cX7_init 77 = .ok (.sipush 300, 3) := by decide +kernel
theorem dX7_init_80 : decode cX7_init 80 = .ok (.newarray .int, 2) := by decide +kernel
theorem dX7_init_82 : decode cX7_init 82 = .ok (.putfield 36, 3) := by decide +kernel
theorem dX7_init_85 : decode cX7_init 85 = .ok (.aload_n 0, 1) := by decide +kernel
theorem dX7_init_86 : decode cX7_init 86 = .ok (.sipush 300, 3) := by decide +kernel
theorem dX7_init_89 : decode cX7_init 89 = .ok (.newarray .int, 2) := by decide +kernel
theorem dX7_init_91 : decode cX7_init 91 = .ok (.putfield 39, 3) := by decide +kernel
theorem dX7_init_94 : decode cX7_init 94 = .ok (.return_, 1) := by decide +kernel
theorem dX7_has_0 : decode cX7_has 0 = .ok (.iload_n 1, 1) := by decide +kernel
theorem dX7_has_1 : decode cX7_has 1 = .ok (.ifCond .lt 15, 3) := by decide +kernel
theorem dX7_has_4 : decode cX7_has 4 = .ok (.iload_n 1, 1) := by decide +kernel
theorem dX7_has_5 : decode cX7_has 5 = .ok (.aload_n 0, 1) := by decide +kernel
theorem dX7_has_6 : decode cX7_has 6 = .ok (.getfield 42, 3) := by decide +kernel
theorem dX7_has_9 : decode cX7_has 9 = .ok (.if_icmp .ge 7, 3) := by decide +kernel
theorem dX7_has_12 : decode cX7_has 12 = .ok (.iconst 1, 1) := by decide +kernel
theorem dX7_has_13 : decode cX7_has 13 = .ok (.goto 4, 3) := by decide +kernel
theorem dX7_has_16 : decode cX7_has 16 = .ok (.iconst 0, 1) := by decide +kernel
theorem dX7_has_17 : decode cX7_has 17 = .ok (.ireturn, 1) := by decide +kernel
theorem dX7_endOf_0 : decode cX7_endOf 0 = .ok (.aload_n 0, 1) := by decide +kernel
theorem dX7_endOf_1 : decode cX7_endOf 1 = .ok (.getfield 15, 3) := by decide +kernel
theorem dX7_endOf_4 : decode cX7_endOf 4 = .ok (.iload_n 1, 1) := by decide +kernel
theorem dX7_endOf_5 : decode cX7_endOf 5 = .ok (.iaload, 1) := by decide +kernel
theorem dX7_endOf_6 : decode cX7_endOf 6 = .ok (.aload_n 0, 1) := by decide +kernel
theorem dX7_endOf_7 : decode cX7_endOf 7 = .ok (.getfield 18, 3) := by decide +kernel
theorem dX7_endOf_10 : decode cX7_endOf 10 = .ok (.iload_n 1, 1) := by decide +kernel
theorem dX7_endOf_11 : decode cX7_endOf 11 = .ok (.iaload, 1) := by decide +kernel
theorem dX7_endOf_12 : decode cX7_endOf 12 = .ok (.iadd, 1) := by decide +kernel
theorem dX7_endOf_13 : decode cX7_endOf 13 = .ok (.ireturn, 1) := by decide +kernel
theorem dX7_find_0 : decode cX7_find 0 = .ok (.aload_n 0, 1) := by decide +kernel
theorem dX7_find_1 : decode cX7_find 1 = .ok (.iconst 0, 1) := by decide +kernel
theorem dX7_find_2 : decode cX7_find 2 = .ok (.putfield 42, 3) := by decide +kernel
theorem dX7_find_5 : decode cX7_find 5 = .ok (.iconst 0, 1) := by decide +kernel
theorem dX7_find_6 : decode cX7_find 6 = .ok (.istore 4, 2) := by decide +kernel
theorem dX7_find_8 : decode cX7_find 8 = .ok (.iload 4, 2) := by decide +kernel
theorem dX7_find_10 : decode cX7_find 10 = .ok (.iload_n 2, 1) := by decide +kernel
theorem dX7_find_11 : decode cX7_find 11 = .ok (.if_icmp .ge 17, 3) := by decide +kernel
theorem dX7_find_14 : decode cX7_find 14 = .ok (.aload_n 0, 1) := by decide +kernel
theorem dX7_find_15 : decode cX7_find 15 = .ok (.getfield 9, 3) := by decide +kernel
theorem dX7_find_18 : decode cX7_find 18 = .ok (.iload 4, 2) := by decide +kernel
theorem dX7_find_20 : decode cX7_find 20 = .ok (.iconst (-1), 1) := by decide +kernel
theorem dX7_find_21 : decode cX7_find 21 = .ok (.iastore, 1) := by decide +kernel
theorem dX7_find_22 : decode cX7_find 22 = .ok (.iinc 4 1, 3) := by decide +kernel
theorem dX7_find_25 : decode cX7_find 25 = .ok (.goto (-17), 3) := by decide +kernel
theorem dX7_find_28 : decode cX7_find 28 = .ok (.iconst 0, 1) := by decide +kernel
theorem dX7_find_29 : decode cX7_find 29 = .ok (.istore 4, 2) := by decide +kernel
theorem dX7_find_31 : decode cX7_find 31 = .ok (.iload 4, 2) := by decide +kernel
theorem dX7_find_33 : decode cX7_find 33 = .ok (.aload_n 1, 1) := by decide +kernel
theorem dX7_find_34 : decode cX7_find 34 = .ok (.getfield 46, 3) := by decide +kernel
theorem dX7_find_37 : decode cX7_find 37 = .ok (.if_icmp .ge 17, 3) := by decide +kernel
theorem dX7_find_40 : decode cX7_find 40 = .ok (.aload_n 0, 1) := by decide +kernel
theorem dX7_find_41 : decode cX7_find 41 = .ok (.aload_n 1, 1) := by decide +kernel
theorem dX7_find_42 : decode cX7_find 42 = .ok (.iload 4, 2) := by decide +kernel
theorem dX7_find_44 : decode cX7_find 44 = .ok (.iload_n 3, 1) := by decide +kernel
theorem dX7_find_45 : decode cX7_find 45 = .ok (.invokevirtual 49, 3) := by decide +kernel
theorem dX7_find_48 : decode cX7_find 48 = .ok (.iinc 4 1, 3) := by decide +kernel
theorem dX7_find_51 : decode cX7_find 51 = .ok (.goto (-20), 3) := by decide +kernel
theorem dX7_find_54 : decode cX7_find 54 = .ok (.return_, 1) := by decide +kernel
theorem dX7_findIn_0 : decode cX7_findIn 0 = .ok (.aload_n 1, 1) := by decide +kernel
theorem dX7_findIn_1 : decode cX7_findIn 1 = .ok (.getfield 53, 3) := by decide +kernel
theorem dX7_findIn_4 : decode cX7_findIn 4 = .ok (.iload_n 2, 1) := by decide +kernel
theorem dX7_findIn_5 : decode cX7_findIn 5 = .ok (.iaload, 1) := by decide +kernel
theorem dX7_findIn_6 : decode cX7_findIn 6 = .ok (.istore 4, 2) := by decide +kernel
theorem dX7_findIn_8 : decode cX7_findIn 8 = .ok (.aload_n 1, 1) := by decide +kernel
theorem dX7_findIn_9 : decode cX7_findIn 9 = .ok (.iload_n 2, 1) := by decide +kernel
theorem dX7_findIn_10 : decode cX7_findIn 10 = .ok (.invokevirtual 54, 3) := by decide +kernel
theorem dX7_findIn_13 : decode cX7_findIn 13 = .ok (.istore 5, 2) := by decide +kernel
theorem dX7_findIn_15 : decode cX7_findIn 15 = .ok (.aload_n 0, 1) := by decide +kernel
theorem dX7_findIn_16 : decode cX7_findIn 16 = .ok (.getfield 42, 3) := by decide +kernel
theorem dX7_findIn_19 : decode cX7_findIn 19 = .ok (.istore 6, 2) := by decide +kernel
theorem dX7_findIn_21 : decode cX7_findIn 21 = .ok (.aload_n 1, 1) := by decide +kernel
theorem dX7_findIn_22 : decode cX7_findIn 22 = .ok (.iload_n 2, 1) := by decide +kernel
theorem dX7_findIn_23 : decode cX7_findIn 23 = .ok (.iload 4, 2) := by decide +kernel
theorem dX7_findIn_25 : decode cX7_findIn 25 = .ok (.iload_n 3, 1) := by decide +kernel
theorem dX7_findIn_26 : decode cX7_findIn 26 = .ok (.invokevirtual 58, 3) := by decide +kernel
theorem dX7_findIn_29 : decode cX7_findIn 29 = .ok (.istore 7, 2) := by decide +kernel
theorem dX7_findIn_31 : decode cX7_findIn 31 = .ok (.aload_n 0, 1) := by decide +kernel
theorem dX7_findIn_32 : decode cX7_findIn 32 = .ok (.getfield 36, 3) := by decide +kernel
theorem dX7_findIn_35 : decode cX7_findIn 35 = .ok (.iload_n 2, 1) := by decide +kernel
theorem dX7_findIn_36 : decode cX7_findIn 36 = .ok (.iload 7, 2) := by decide +kernel
theorem dX7_findIn_38 : decode cX7_findIn 38 = .ok (.iconst (-1), 1) := by decide +kernel
theorem dX7_findIn_39 : decode cX7_findIn 39 = .ok (.if_icmp .ne 11, 3) := by decide +kernel
theorem dX7_findIn_42 : decode cX7_findIn 42 = .ok (.iload 5, 2) := by decide +kernel
theorem dX7_findIn_44 : decode cX7_findIn 44 = .ok (.iload 4, 2) := by decide +kernel
theorem dX7_findIn_46 : decode cX7_findIn 46 = .ok (.isub, 1) := by decide +kernel
theorem dX7_findIn_47 : decode cX7_findIn 47 = .ok (.goto 8, 3) := by decide +kernel
theorem dX7_findIn_50 : decode cX7_findIn 50 = .ok (.iload 7, 2) := by decide +kernel
theorem dX7_findIn_52 : decode cX7_findIn 52 = .ok (.iload 4, 2) := by decide +kernel
theorem dX7_findIn_54 : decode cX7_findIn 54 = .ok (.isub, 1) := by decide +kernel
theorem dX7_findIn_55 : decode cX7_findIn 55 = .ok (.iastore, 1) := by decide +kernel
theorem dX7_findIn_56 : decode cX7_findIn 56 = .ok (.aload_n 0, 1) := by decide +kernel
theorem dX7_findIn_57 : decode cX7_findIn 57 = .ok (.getfield 39, 3) := by decide +kernel
theorem dX7_findIn_60 : decode cX7_findIn 60 = .ok (.iload_n 2, 1) := by decide +kernel
theorem dX7_findIn_61 : decode cX7_findIn 61 = .ok (.iconst 0, 1) := by decide +kernel
theorem dX7_findIn_62 : decode cX7_findIn 62 = .ok (.iastore, 1) := by decide +kernel
theorem dX7_findIn_63 : decode cX7_findIn 63 = .ok (.iload 4, 2) := by decide +kernel
theorem dX7_findIn_65 : decode cX7_findIn 65 = .ok (.istore 8, 2) := by decide +kernel
theorem dX7_findIn_67 : decode cX7_findIn 67 = .ok (.iload 8, 2) := by decide +kernel
theorem dX7_findIn_69 : decode cX7_findIn 69 = .ok (.iload 5, 2) := by decide +kernel
theorem dX7_findIn_71 : decode cX7_findIn 71 = .ok (.if_icmp .ge 61, 3) := by decide +kernel
theorem dX7_findIn_74 : decode cX7_findIn 74 = .ok (.iload 7, 2) := by decide +kernel
theorem dX7_findIn_76 : decode cX7_findIn 76 = .ok (.iconst (-1), 1) := by decide +kernel
theorem dX7_findIn_77 : decode cX7_findIn 77 = .ok (.if_icmp .eq 55, 3) := by decide +kernel
theorem dX7_findIn_80 : decode cX7_findIn 80 = .ok (.aload_n 1, 1) := by decide +kernel
theorem dX7_findIn_81 : decode cX7_findIn 81 = .ok (.iload_n 2, 1) := by decide +kernel
theorem dX7_findIn_82 : decode cX7_findIn 82 = .ok (.iload 7, 2) := by decide +kernel
theorem dX7_findIn_84 : decode cX7_findIn 84 = .ok (.iconst 1, 1) := by decide +kernel
theorem dX7_findIn_85 : decode cX7_findIn 85 = .ok (.iadd, 1) := by decide +kernel
theorem dX7_findIn_86 : decode cX7_findIn 86 = .ok (.iload_n 3, 1) := by decide +kernel
theorem dX7_findIn_87 : decode cX7_findIn 87 = .ok (.invokevirtual 58, 3) := by decide +kernel
theorem dX7_findIn_90 : decode cX7_findIn 90 = .ok (.istore 9, 2) := by decide +kernel
theorem dX7_findIn_92 : decode cX7_findIn 92 = .ok (.iload 9, 2) := by decide +kernel
theorem dX7_findIn_94 : decode cX7_findIn 94 = .ok (.iconst (-1), 1) := by decide +kernel
theorem dX7_findIn_95 : decode cX7_findIn 95 = .ok (.if_icmp .ne 17, 3) := by decide +kernel
theorem dX7_findIn_98 : decode cX7_findIn 98 = .ok (.aload_n 0, 1) := by decide +kernel
theorem dX7_findIn_99 : decode cX7_findIn 99 = .ok (.getfield 39, 3) := by decide +kernel
theorem dX7_findIn_102 : decode cX7_findIn 102 = .ok (.iload_n 2, 1) := by decide +kernel
theorem dX7_findIn_103 : decode cX7_findIn 103 = .ok (.iload 5, 2) := by decide +kernel
theorem dX7_findIn_105 : decode cX7_findIn 105 = .ok (.iload 7, 2) := by decide +kernel
theorem dX7_findIn_107 : decode cX7_findIn 107 = .ok (.isub, 1) := by decide +kernel
theorem dX7_findIn_108 : decode cX7_findIn 108 = .ok (.iastore, 1) := by decide +kernel
theorem dX7_findIn_109 : decode cX7_findIn 109 = .ok (.goto 13, 3) := by decide +kernel
theorem dX7_findIn_112 : decode cX7_findIn 112 = .ok (.aload_n 0, 1) := by decide +kernel
theorem dX7_findIn_113 : decode cX7_findIn 113 = .ok (.aload_n 1, 1) := by decide +kernel
theorem dX7_findIn_114 : decode cX7_findIn 114 = .ok (.iload_n 2, 1) := by decide +kernel
theorem dX7_findIn_115 : decode cX7_findIn 115 = .ok (.iload 7, 2) := by decide +kernel
theorem dX7_findIn_117 : decode cX7_findIn 117 = .ok (.iload 9, 2) := by decide +kernel
theorem dX7_findIn_119 : decode cX7_findIn 119 = .ok (.invokevirtual 62, 3) := by decide +kernel
theorem dX7_findIn_122 : decode cX7_findIn 122 = .ok (.iload 9, 2) := by decide +kernel
theorem dX7_findIn_124 : decode cX7_findIn 124 = .ok (.istore 7, 2) := by decide +kernel
theorem dX7_findIn_126 : decode cX7_findIn 126 = .ok (.iinc 8 1, 3) := by decide +kernel
theorem dX7_findIn_129 : decode cX7_findIn 129 = .ok (.goto (-62), 3) := by decide +kernel
theorem dX7_findIn_132 : decode cX7_findIn 132 = .ok (.aload_n 0, 1) := by decide +kernel
theorem dX7_findIn_133 : decode cX7_findIn 133 = .ok (.getfield 33, 3) := by decide +kernel
theorem dX7_findIn_136 : decode cX7_findIn 136 = .ok (.iload_n 2, 1) := by decide +kernel
theorem dX7_findIn_137 : decode cX7_findIn 137 = .ok (.aload_n 0, 1) := by decide +kernel
theorem dX7_findIn_138 : decode cX7_findIn 138 = .ok (.getfield 42, 3) := by decide +kernel
theorem dX7_findIn_141 : decode cX7_findIn 141 = .ok (.iload 6, 2) := by decide +kernel
theorem dX7_findIn_143 : decode cX7_findIn 143 = .ok (.isub, 1) := by decide +kernel
theorem dX7_findIn_144 : decode cX7_findIn 144 = .ok (.iastore, 1) := by decide +kernel
theorem dX7_findIn_145 : decode cX7_findIn 145 = .ok (.return_, 1) := by decide +kernel
theorem dX7_add_0 : decode cX7_add 0 = .ok (.aload_n 0, 1) := by decide +kernel
theorem dX7_add_1 : decode cX7_add 1 = .ok (.getfield 42, 3) := by decide +kernel
theorem dX7_add_4 : decode cX7_add 4 = .ok (.aload_n 0, 1) := by decide +kernel
theorem dX7_add_5 : decode cX7_add 5 = .ok (.getfield 15, 3) := by decide +kernel
theorem dX7_add_8 : decode cX7_add 8 = .ok (.arraylength, 1) := by decide +kernel
theorem dX7_add_9 : decode cX7_add 9 = .ok (.if_icmp .lt 4, 3) := by decide +kernel
theorem dX7_add_12 : decode cX7_add 12 = .ok (.return_, 1) := by decide +kernel
theorem dX7_add_13 : decode cX7_add 13 = .ok (.aload_n 1, 1) := by decide +kernel
theorem dX7_add_14 : decode cX7_add 14 = .ok (.iload_n 3, 1) := by decide +kernel
theorem dX7_add_15 : decode cX7_add 15 = .ok (.iload 4, 2) := by decide +kernel
theorem dX7_add_17 : decode cX7_add 17 = .ok (.invokevirtual 66, 3) := by decide +kernel
theorem dX7_add_20 : decode cX7_add 20 = .ok (.istore 5, 2) := by decide +kernel
theorem dX7_add_22 : decode cX7_add 22 = .ok (.aload_n 0, 1) := by decide +kernel
theorem dX7_add_23 : decode cX7_add 23 = .ok (.getfield 15, 3) := by decide +kernel
theorem dX7_add_26 : decode cX7_add 26 = .ok (.aload_n 0, 1) := by decide +kernel
theorem dX7_add_27 : decode cX7_add 27 = .ok (.getfield 42, 3) := by decide +kernel
theorem dX7_add_30 : decode cX7_add 30 = .ok (.iload_n 3, 1) := by decide +kernel
theorem dX7_add_31 : decode cX7_add 31 = .ok (.iastore, 1) := by decide +kernel
theorem dX7_add_32 : decode cX7_add 32 = .ok (.aload_n 0, 1) := by decide +kernel
theorem dX7_add_33 : decode cX7_add 33 = .ok (.getfield 18, 3) := by decide +kernel
theorem dX7_add_36 : decode cX7_add 36 = .ok (.aload_n 0, 1) := by decide +kernel
theorem dX7_add_37 : decode cX7_add 37 = .ok (.getfield 42, 3) := by decide +kernel
theorem dX7_add_40 : decode cX7_add 40 = .ok (.iload 4, 2) := by decide +kernel
theorem dX7_add_42 : decode cX7_add 42 = .ok (.iload_n 3, 1) := by decide +kernel
theorem dX7_add_43 : decode cX7_add 43 = .ok (.isub, 1) := by decide +kernel
theorem dX7_add_44 : decode cX7_add 44 = .ok (.iastore, 1) := by decide +kernel
theorem dX7_add_45 : decode cX7_add 45 = .ok (.aload_n 0, 1) := by decide +kernel
theorem dX7_add_46 : decode cX7_add 46 = .ok (.getfield 21, 3) := by decide +kernel
theorem dX7_add_49 : decode cX7_add 49 = .ok (.aload_n 0, 1) := by decide +kernel
theorem dX7_add_50 : decode cX7_add 50 = .ok (.getfield 42, 3) := by decide +kernel
theorem dX7_add_53 : decode cX7_add 53 = .ok (.aload_n 1, 1) := by decide +kernel
theorem dX7_add_54 : decode cX7_add 54 = .ok (.getfield 70, 3) := by decide +kernel
theorem dX7_add_57 : decode cX7_add 57 = .ok (.iload 5, 2) := by decide +kernel
theorem dX7_add_59 : decode cX7_add 59 = .ok (.iaload, 1) := by decide +kernel
theorem dX7_add_60 : decode cX7_add 60 = .ok (.aload_n 1, 1) := by decide +kernel
theorem dX7_add_61 : decode cX7_add 61 = .ok (.iload_n 3, 1) := by decide +kernel
theorem dX7_add_62 : decode cX7_add 62 = .ok (.iload 4, 2) := by decide +kernel
theorem dX7_add_64 : decode cX7_add 64 = .ok (.invokevirtual 73, 3) := by decide +kernel
theorem dX7_add_67 : decode cX7_add 67 = .ok (.isub, 1) := by decide +kernel
theorem dX7_add_68 : decode cX7_add 68 = .ok (.iastore, 1) := by decide +kernel
theorem dX7_add_69 : decode cX7_add 69 = .ok (.aload_n 0, 1) := by decide +kernel
theorem dX7_add_70 : decode cX7_add 70 = .ok (.getfield 24, 3) := by decide +kernel
theorem dX7_add_73 : decode cX7_add 73 = .ok (.aload_n 0, 1) := by decide +kernel
theorem dX7_add_74 : decode cX7_add 74 = .ok (.getfield 42, 3) := by decide +kernel
theorem dX7_add_77 : decode cX7_add 77 = .ok (.aload_n 1, 1) := by decide +kernel
theorem dX7_add_78 : decode cX7_add 78 = .ok (.getfield 70, 3) := by decide +kernel
theorem dX7_add_81 : decode cX7_add 81 = .ok (.iload 5, 2) := by decide +kernel
theorem dX7_add_83 : decode cX7_add 83 = .ok (.iaload, 1) := by decide +kernel
theorem dX7_add_84 : decode cX7_add 84 = .ok (.aload_n 1, 1) := by decide +kernel
theorem dX7_add_85 : decode cX7_add 85 = .ok (.getfield 76, 3) := by decide +kernel
theorem dX7_add_88 : decode cX7_add 88 = .ok (.iload_n 2, 1) := by decide +kernel
theorem dX7_add_89 : decode cX7_add 89 = .ok (.iaload, 1) := by decide +kernel
theorem dX7_add_90 : decode cX7_add 90 = .ok (.isub, 1) := by decide +kernel
theorem dX7_add_91 : decode cX7_add 91 = .ok (.iastore, 1) := by decide +kernel
theorem dX7_add_92 : decode cX7_add 92 = .ok (.aload_n 0, 1) := by decide +kernel
theorem dX7_add_93 : decode cX7_add 93 = .ok (.getfield 27, 3) := by decide +kernel
theorem dX7_add_96 : decode cX7_add 96 = .ok (.aload_n 0, 1) := by decide +kernel
theorem dX7_add_97 : decode cX7_add 97 = .ok (.getfield 42, 3) := by decide +kernel
theorem dX7_add_100 : decode cX7_add 100 = .ok (.iload 5, 2) := by decide +kernel
theorem dX7_add_102 : decode cX7_add 102 = .ok (.iastore, 1) := by decide +kernel
theorem dX7_add_103 : decode cX7_add 103 = .ok (.aload_n 0, 1) := by decide +kernel
theorem dX7_add_104 : decode cX7_add 104 = .ok (.getfield 30, 3) := by decide +kernel
theorem dX7_add_107 : decode cX7_add 107 = .ok (.aload_n 0, 1) := by decide +kernel
theorem dX7_add_108 : decode cX7_add 108 = .ok (.getfield 42, 3) := by decide +kernel
theorem dX7_add_111 : decode cX7_add 111 = .ok (.iload_n 2, 1) := by decide +kernel
theorem dX7_add_112 : decode cX7_add 112 = .ok (.iastore, 1) := by decide +kernel
theorem dX7_add_113 : decode cX7_add 113 = .ok (.iload_n 3, 1) := by decide +kernel
theorem dX7_add_114 : decode cX7_add 114 = .ok (.istore 6, 2) := by decide +kernel
theorem dX7_add_116 : decode cX7_add 116 = .ok (.iload 6, 2) := by decide +kernel
theorem dX7_add_118 : decode cX7_add 118 = .ok (.iload 4, 2) := by decide +kernel
theorem dX7_add_120 : decode cX7_add 120 = .ok (.if_icmp .ge 20, 3) := by decide +kernel
theorem dX7_add_123 : decode cX7_add 123 = .ok (.aload_n 0, 1) := by decide +kernel
theorem dX7_add_124 : decode cX7_add 124 = .ok (.getfield 9, 3) := by decide +kernel
theorem dX7_add_127 : decode cX7_add 127 = .ok (.iload 6, 2) := by decide +kernel
theorem dX7_add_129 : decode cX7_add 129 = .ok (.aload_n 0, 1) := by decide +kernel
theorem dX7_add_130 : decode cX7_add 130 = .ok (.getfield 42, 3) := by decide +kernel
theorem dX7_add_133 : decode cX7_add 133 = .ok (.iastore, 1) := by decide +kernel
theorem dX7_add_134 : decode cX7_add 134 = .ok (.iinc 6 1, 3) := by decide +kernel
theorem dX7_add_137 : decode cX7_add 137 = .ok (.goto (-21), 3) := by decide +kernel
theorem dX7_add_140 : decode cX7_add 140 = .ok (.aload_n 0, 1) := by decide +kernel
theorem dX7_add_141 : decode cX7_add 141 = .ok (.dup, 1) := by decide +kernel
theorem dX7_add_142 : decode cX7_add 142 = .ok (.getfield 42, 3) := by decide +kernel
theorem dX7_add_145 : decode cX7_add 145 = .ok (.iconst 1, 1) := by decide +kernel
theorem dX7_add_146 : decode cX7_add 146 = .ok (.iadd, 1) := by decide +kernel
theorem dX7_add_147 : decode cX7_add 147 = .ok (.putfield 42, 3) := by decide +kernel
theorem dX7_add_150 : decode cX7_add 150 = .ok (.return_, 1) := by decide +kernel
theorem dX7_periodsFrom_0 : decode cX7_periodsFrom 0 = .ok (.iconst 0, 1) := by decide +kernel
theorem dX7_periodsFrom_1 : decode cX7_periodsFrom 1 = .ok (.istore_n 3, 1) := by decide +kernel
theorem dX7_periodsFrom_2 : decode cX7_periodsFrom 2 = .ok (.iload_n 1, 1) := by decide +kernel
theorem dX7_periodsFrom_3 : decode cX7_periodsFrom 3 = .ok (.istore 4, 2) := by decide +kernel
theorem dX7_periodsFrom_5 : decode cX7_periodsFrom 5 = .ok (.iload 4, 2) := by decide +kernel
theorem dX7_periodsFrom_7 : decode cX7_periodsFrom 7 = .ok (.iload_n 2, 1) := by decide +kernel
theorem dX7_periodsFrom_8 : decode cX7_periodsFrom 8 = .ok (.if_icmp .ge 19, 3) := by decide +kernel
theorem dX7_periodsFrom_11 : decode cX7_periodsFrom 11 = .ok (.iload_n 3, 1) := by decide +kernel
theorem dX7_periodsFrom_12 : decode cX7_periodsFrom 12 = .ok (.aload_n 0, 1) := by decide +kernel
theorem dX7_periodsFrom_13 : decode cX7_periodsFrom 13 = .ok (.getfield 18, 3) := by decide +kernel
theorem dX7_periodsFrom_16 : decode cX7_periodsFrom 16 = .ok (.iload 4, 2) := by decide +kernel
theorem dX7_periodsFrom_18 : decode cX7_periodsFrom 18 = .ok (.iaload, 1) := by decide +kernel
theorem dX7_periodsFrom_19 : decode cX7_periodsFrom 19 = .ok (.iadd, 1) := by decide +kernel
theorem dX7_periodsFrom_20 : decode cX7_periodsFrom 20 = .ok (.istore_n 3, 1) := by decide +kernel
theorem dX7_periodsFrom_21 : decode cX7_periodsFrom 21 = .ok (.iinc 4 1, 3) := by decide +kernel
theorem dX7_periodsFrom_24 : decode cX7_periodsFrom 24 = .ok (.goto (-19), 3) := by decide +kernel
theorem dX7_periodsFrom_27 : decode cX7_periodsFrom 27 = .ok (.iload_n 3, 1) := by decide +kernel
theorem dX7_periodsFrom_28 : decode cX7_periodsFrom 28 = .ok (.ireturn, 1) := by decide +kernel
theorem dX7_squaresFrom_0 : decode cX7_squaresFrom 0 = .ok (.lconst 0, 1) := by decide +kernel
theorem dX7_squaresFrom_1 : decode cX7_squaresFrom 1 = .ok (.lstore_n 3, 1) := by decide +kernel
theorem dX7_squaresFrom_2 : decode cX7_squaresFrom 2 = .ok (.iload_n 1, 1) := by decide +kernel
theorem dX7_squaresFrom_3 : decode cX7_squaresFrom 3 = .ok (.istore 5, 2) := by decide +kernel
theorem dX7_squaresFrom_5 : decode cX7_squaresFrom 5 = .ok (.iload 5, 2) := by decide +kernel
theorem dX7_squaresFrom_7 : decode cX7_squaresFrom 7 = .ok (.iload_n 2, 1) := by decide +kernel
theorem dX7_squaresFrom_8 : decode cX7_squaresFrom 8 = .ok (.if_icmp .ge 29, 3) := by decide +kernel
theorem dX7_squaresFrom_11 : decode cX7_squaresFrom 11 = .ok (.lload_n 3, 1) := by decide +kernel
theorem dX7_squaresFrom_12 : decode cX7_squaresFrom 12 = .ok (.aload_n 0, 1) := by decide +kernel
theorem dX7_squaresFrom_13 : decode cX7_squaresFrom 13 = .ok (.getfield 21, 3) := by decide +kernel
theorem dX7_squaresFrom_16 : decode cX7_squaresFrom 16 = .ok (.iload 5, 2) := by decide +kernel
theorem dX7_squaresFrom_18 : decode cX7_squaresFrom 18 = .ok (.iaload, 1) := by decide +kernel
theorem dX7_squaresFrom_19 : decode cX7_squaresFrom 19 = .ok (.i2l, 1) := by decide +kernel
theorem dX7_squaresFrom_20 : decode cX7_squaresFrom 20 = .ok (.aload_n 0, 1) := by decide +kernel
theorem dX7_squaresFrom_21 : decode cX7_squaresFrom 21 = .ok (.getfield 21, 3) := by decide +kernel
theorem dX7_squaresFrom_24 : decode cX7_squaresFrom 24 = .ok (.iload 5, 2) := by decide +kernel
theorem dX7_squaresFrom_26 : decode cX7_squaresFrom 26 = .ok (.iaload, 1) := by decide +kernel
theorem dX7_squaresFrom_27 : decode cX7_squaresFrom 27 = .ok (.i2l, 1) := by decide +kernel
theorem dX7_squaresFrom_28 : decode cX7_squaresFrom 28 = .ok (.lmul, 1) := by decide +kernel
theorem dX7_squaresFrom_29 : decode cX7_squaresFrom 29 = .ok (.ladd, 1) := by decide +kernel
theorem dX7_squaresFrom_30 : decode cX7_squaresFrom 30 = .ok (.lstore_n 3, 1) := by decide +kernel
theorem dX7_squaresFrom_31 : decode cX7_squaresFrom 31 = .ok (.iinc 5 1, 3) := by decide +kernel
theorem dX7_squaresFrom_34 : decode cX7_squaresFrom 34 = .ok (.goto (-29), 3) := by decide +kernel
theorem dX7_squaresFrom_37 : decode cX7_squaresFrom 37 = .ok (.lload_n 3, 1) := by decide +kernel
theorem dX7_squaresFrom_38 : decode cX7_squaresFrom 38 = .ok (.lreturn, 1) := by decide +kernel
theorem dX8_init_0 : decode cX8_init 0 = .ok (.aload_n 0, 1) := by decide +kernel
theorem dX8_init_1 : decode cX8_init 1 = .ok (.invokespecial 1, 3) := by decide +kernel
theorem dX8_init_4 : decode cX8_init 4 = .ok (.aload_n 0, 1) := by decide +kernel
theorem dX8_init_5 : decode cX8_init 5 = .ok (.new 7, 3) := by decide +kernel
theorem dX8_init_8 : decode cX8_init 8 = .ok (.dup, 1) := by decide +kernel
theorem dX8_init_9 : decode cX8_init 9 = .ok (.invokespecial 9, 3) := by decide +kernel
theorem dX8_init_12 : decode cX8_init 12 = .ok (.putfield 10, 3) := by decide +kernel
theorem dX8_init_15 : decode cX8_init 15 = .ok (.aload_n 0, 1) := by decide +kernel
theorem dX8_init_16 : decode cX8_init 16 = .ok (.new 16, 3) := by decide +kernel
theorem dX8_init_19 : decode cX8_init 19 = .ok (.dup, 1) := by decide +kernel
theorem dX8_init_20 : decode cX8_init 20 = .ok (.invokespecial 18, 3) := by decide +kernel
theorem dX8_init_23 : decode cX8_init 23 = .ok (.putfield 19, 3) := by decide +kernel
theorem dX8_init_26 : decode cX8_init 26 = .ok (.aload_n 0, 1) := by decide +kernel
theorem dX8_init_27 : decode cX8_init 27 = .ok (.new 23, 3) := by decide +kernel
theorem dX8_init_30 : decode cX8_init 30 = .ok (.dup, 1) := by decide +kernel
theorem dX8_init_31 : decode cX8_init 31 = .ok (.invokespecial 25, 3) := by decide +kernel
theorem dX8_init_34 : decode cX8_init 34 = .ok (.putfield 26, 3) := by decide +kernel
theorem dX8_init_37 : decode cX8_init 37 = .ok (.aload_n 0, 1) := by decide +kernel
theorem dX8_init_38 : decode cX8_init 38 = .ok (.new 30, 3) := by decide +kernel
theorem dX8_init_41 : decode cX8_init 41 = .ok (.dup, 1) := by decide +kernel
theorem dX8_init_42 : decode cX8_init 42 = .ok (.invokespecial 32, 3) := by decide +kernel
theorem dX8_init_45 : decode cX8_init 45 = .ok (.putfield 33, 3) := by decide +kernel
theorem dX8_init_48 : decode cX8_init 48 = .ok (.aload_n 0, 1) := by decide +kernel
theorem dX8_init_49 : decode cX8_init 49 = .ok (.new 37, 3) := by decide +kernel
theorem dX8_init_52 : decode cX8_init 52 = .ok (.dup, 1) := by decide +kernel
theorem dX8_init_53 : decode cX8_init 53 = .ok (.invokespecial 39, 3) := by decide +kernel
theorem dX8_init_56 : decode cX8_init 56 = .ok (.putfield 40, 3) := by decide +kernel
theorem dX8_init_59 : decode cX8_init 59 = .ok (.aload_n 0, 1) := by decide +kernel
theorem dX8_init_60 : decode cX8_init 60 = .ok (.new 44, 3) := by decide +kernel
theorem dX8_init_63 : decode cX8_init 63 = .ok (.dup, 1) := by decide +kernel
theorem dX8_init_64 : decode cX8_init 64 = .ok (.invokespecial 46, 3) := by decide +kernel
theorem dX8_init_67 : decode cX8_init 67 = .ok (.putfield 47, 3) := by decide +kernel
theorem dX8_init_70 : decode cX8_init 70 = .ok (.aload_n 0, 1) := by decide +kernel
theorem dX8_init_71 : decode cX8_init 71 = .ok (.new 51, 3) := by decide +kernel
theorem dX8_init_74 : decode cX8_init 74 = .ok (.dup, 1) := by decide +kernel
theorem dX8_init_75 : decode cX8_init 75 = .ok (.invokespecial 53, 3) := by decide +kernel
theorem dX8_init_78 : decode cX8_init 78 = .ok (.putfield 54, 3) := by decide +kernel
theorem dX8_init_81 : decode cX8_init 81 = .ok (.aload_n 0, 1) := by decide +kernel
theorem dX8_init_82 : decode cX8_init 82 = .ok (.new 58, 3) := by decide +kernel
theorem dX8_init_85 : decode cX8_init 85 = .ok (.dup, 1) := by decide +kernel
theorem dX8_init_86 : decode cX8_init 86 = .ok (.invokespecial 60, 3) := by decide +kernel
theorem dX8_init_89 : decode cX8_init 89 = .ok (.putfield 61, 3) := by decide +kernel
theorem dX8_init_92 : decode cX8_init 92 = .ok (.aload_n 0, 1) := by decide +kernel
theorem dX8_init_93 : decode cX8_init 93 = .ok (.iconst 1, 1) := by decide +kernel
theorem dX8_init_94 : decode cX8_init 94 = .ok (.putfield 65, 3) := by decide +kernel
theorem dX8_init_97 : decode cX8_init 97 = .ok (.return_, 1) := by decide +kernel
theorem dX8_heave_0 : decode cX8_heave 0 = .ok (.iload_n 1, 1) := by decide +kernel
theorem dX8_heave_1 : decode cX8_heave 1 = .ok (.invokestatic 69, 3) := by decide +kernel
theorem dX8_heave_4 : decode cX8_heave 4 = .ok (.ifCond .eq 14, 3) := by decide +kernel
theorem dX8_heave_7 : decode cX8_heave 7 = .ok (.aload_n 0, 1) := by decide +kernel
theorem dX8_heave_8 : decode cX8_heave 8 = .ok (.getfield 26, 3) := by decide +kernel
theorem dX8_heave_11 : decode cX8_heave 11 = .ok (.invokevirtual 73, 3) := by decide +kernel
theorem dX8_heave_14 : decode cX8_heave 14 = .ok (.iconst 1, 1) := by decide +kernel
theorem dX8_heave_15 : decode cX8_heave 15 = .ok (.if_icmp .ge 5, 3) := by decide +kernel
theorem dX8_heave_18 : decode cX8_heave 18 = .ok (.iconst (-1), 1) := by decide +kernel
theorem dX8_heave_19 : decode cX8_heave 19 = .ok (.ireturn, 1) := by decide +kernel
theorem dX8_heave_20 : decode cX8_heave 20 = .ok (.aload_n 0, 1) := by decide +kernel
theorem dX8_heave_21 : decode cX8_heave 21 = .ok (.getfield 26, 3) := by decide +kernel
theorem dX8_heave_24 : decode cX8_heave 24 = .ok (.iload_n 1, 1) := by decide +kernel
theorem dX8_heave_25 : decode cX8_heave 25 = .ok (.invokevirtual 77, 3) := by decide +kernel
theorem dX8_heave_28 : decode cX8_heave 28 = .ok (.aload_n 0, 1) := by decide +kernel
theorem dX8_heave_29 : decode cX8_heave 29 = .ok (.iconst 1, 1) := by decide +kernel
theorem dX8_heave_30 : decode cX8_heave 30 = .ok (.putfield 65, 3) := by decide +kernel
theorem dX8_heave_33 : decode cX8_heave 33 = .ok (.aload_n 0, 1) := by decide +kernel
theorem dX8_heave_34 : decode cX8_heave 34 = .ok (.getfield 26, 3) := by decide +kernel
theorem dX8_heave_37 : decode cX8_heave 37 = .ok (.getfield 81, 3) := by decide +kernel
theorem dX8_heave_40 : decode cX8_heave 40 = .ok (.ireturn, 1) := by decide +kernel
theorem dX8_four_0 : decode cX8_four 0 = .ok (.lload_n 1, 1) := by decide +kernel
theorem dX8_four_1 : decode cX8_four 1 = .ok (.bipush 48, 2) := by decide +kernel
theorem dX8_four_3 : decode cX8_four 3 = .ok (.lshr, 1) := by decide +kernel
theorem dX8_four_4 : decode cX8_four 4 = .ok (.l2i, 1) := by decide +kernel
theorem dX8_four_5 : decode cX8_four 5 = .ok (.i2s, 1) := by decide +kernel
theorem dX8_four_6 : decode cX8_four 6 = .ok (.istore_n 3, 1) := by decide +kernel
theorem dX8_four_7 : decode cX8_four 7 = .ok (.lload_n 1, 1) := by decide +kernel
theorem dX8_four_8 : decode cX8_four 8 = .ok (.bipush 32, 2) := by decide +kernel
theorem dX8_four_10 : decode cX8_four 10 = .ok (.lshr, 1) := by decide +kernel
theorem dX8_four_11 : decode cX8_four 11 = .ok (.l2i, 1) := by decide +kernel
theorem dX8_four_12 : decode cX8_four 12 = .ok (.i2s, 1) := by decide +kernel
theorem dX8_four_13 : decode cX8_four 13 = .ok (.istore 4, 2) := by decide +kernel
theorem dX8_four_15 : decode cX8_four 15 = .ok (.lload_n 1, 1) := by decide +kernel
theorem dX8_four_16 : decode cX8_four 16 = .ok (.bipush 16, 2) := by decide +kernel
theorem dX8_four_18 : decode cX8_four 18 = .ok (.lshr, 1) := by decide +kernel
theorem dX8_four_19 : decode cX8_four 19 = .ok (.l2i, 1) := by decide +kernel
theorem dX8_four_20 : decode cX8_four 20 = .ok (.i2s, 1) := by decide +kernel
theorem dX8_four_21 : decode cX8_four 21 = .ok (.istore 5, 2) := by decide +kernel
theorem dX8_four_23 : decode cX8_four 23 = .ok (.lload_n 1, 1) := by decide +kernel
theorem dX8_four_24 : decode cX8_four 24 = .ok (.l2i, 1) := by decide +kernel
theorem dX8_four_25 : decode cX8_four 25 = .ok (.i2s, 1) := by decide +kernel
theorem dX8_four_26 : decode cX8_four 26 = .ok (.istore 6, 2) := by decide +kernel
theorem dX8_four_28 : decode cX8_four 28 = .ok (.iload_n 3, 1) := by decide +kernel
theorem dX8_four_29 : decode cX8_four 29 = .ok (.invokestatic 69, 3) := by decide +kernel
theorem dX8_four_32 : decode cX8_four 32 = .ok (.ifCond .eq 31, 3) := by decide +kernel
theorem dX8_four_35 : decode cX8_four 35 = .ok (.iload 4, 2) := by decide +kernel
theorem dX8_four_37 : decode cX8_four 37 = .ok (.invokestatic 69, 3) := by decide +kernel
theorem dX8_four_40 : decode cX8_four 40 = .ok (.ifCond .eq 23, 3) := by decide +kernel
theorem dX8_four_43 : decode cX8_four 43 = .ok (.iload 5, 2) := by decide +kernel
theorem dX8_four_45 : decode cX8_four 45 = .ok (.invokestatic 69, 3) := by decide +kernel
theorem dX8_four_48 : decode cX8_four 48 = .ok (.ifCond .eq 15, 3) := by decide +kernel
theorem dX8_four_51 : decode cX8_four 51 = .ok (.iload 6, 2) := by decide +kernel
theorem dX8_four_53 : decode cX8_four 53 = .ok (.invokestatic 69, 3) := by decide +kernel
theorem dX8_four_56 : decode cX8_four 56 = .ok (.ifCond .eq 7, 3) := by decide +kernel
theorem dX8_four_59 : decode cX8_four 59 = .ok (.iconst 1, 1) := by decide +kernel
theorem dX8_four_60 : decode cX8_four 60 = .ok (.goto 4, 3) := by decide +kernel
end
section
theorem dX8_four_63 : decode cX8_four 63 = .ok (.iconst 0, 1) := by decide +kernel
theorem dX8_four_64 : decode cX8_four 64 = .ok (.istore 7, 2) := by decide +kernel
theorem dX8_four_66 : decode cX8_four 66 = .ok (.iload 7, 2) := by decide +kernel
theorem dX8_four_68 : decode cX8_four 68 = .ok (.ifCond .eq 14, 3) := by decide +kernel
theorem dX8_four_71 : decode cX8_four 71 = .ok (.aload_n 0, 1) := by decide +kernel
theorem dX8_four_72 : decode cX8_four 72 = .ok (.getfield 26, 3) := by decide +kernel
theorem dX8_four_75 : decode cX8_four 75 = .ok (.invokevirtual 73, 3) := by decide +kernel
theorem dX8_four_78 : decode cX8_four 78 = .ok (.iconst 4, 1) := by decide +kernel
theorem dX8_four_79 : decode cX8_four 79 = .ok (.if_icmp .ge 5, 3) := by decide +kernel
theorem dX8_four_82 : decode cX8_four 82 = .ok (.iconst (-1), 1) := by decide +kernel
theorem dX8_four_83 : decode cX8_four 83 = .ok (.ireturn, 1) := by decide +kernel
theorem dX8_four_84 : decode cX8_four 84 = .ok (.aload_n 0, 1) := by decide +kernel
theorem dX8_four_85 : decode cX8_four 85 = .ok (.getfield 26, 3) := by decide +kernel
theorem dX8_four_88 : decode cX8_four 88 = .ok (.iload_n 3, 1) := by decide +kernel
theorem dX8_four_89 : decode cX8_four 89 = .ok (.invokevirtual 77, 3) := by decide +kernel
theorem dX8_four_92 : decode cX8_four 92 = .ok (.aload_n 0, 1) := by decide +kernel
theorem dX8_four_93 : decode cX8_four 93 = .ok (.getfield 26, 3) := by decide +kernel
theorem dX8_four_96 : decode cX8_four 96 = .ok (.iload 4, 2) := by decide +kernel
theorem dX8_four_98 : decode cX8_four 98 = .ok (.invokevirtual 77, 3) := by decide +kernel
theorem dX8_four_101 : decode cX8_four 101 = .ok (.aload_n 0, 1) := by decide +kernel
theorem dX8_four_102 : decode cX8_four 102 = .ok (.getfield 26, 3) := by decide +kernel
theorem dX8_four_105 : decode cX8_four 105 = .ok (.iload 5, 2) := by decide +kernel
theorem dX8_four_107 : decode cX8_four 107 = .ok (.invokevirtual 77, 3) := by decide +kernel
theorem dX8_four_110 : decode cX8_four 110 = .ok (.aload_n 0, 1) := by decide +kernel
theorem dX8_four_111 : decode cX8_four 111 = .ok (.getfield 26, 3) := by decide +kernel
theorem dX8_four_114 : decode cX8_four 114 = .ok (.iload 6, 2) := by decide +kernel
theorem dX8_four_116 : decode cX8_four 116 = .ok (.invokevirtual 77, 3) := by decide +kernel
theorem dX8_four_119 : decode cX8_four 119 = .ok (.aload_n 0, 1) := by decide +kernel
theorem dX8_four_120 : decode cX8_four 120 = .ok (.iconst 1, 1) := by decide +kernel
theorem dX8_four_121 : decode cX8_four 121 = .ok (.putfield 65, 3) := by decide +kernel
theorem dX8_four_124 : decode cX8_four 124 = .ok (.aload_n 0, 1) := by decide +kernel
theorem dX8_four_125 : decode cX8_four 125 = .ok (.getfield 26, 3) := by decide +kernel
theorem dX8_four_128 : decode cX8_four 128 = .ok (.getfield 81, 3) := by decide +kernel
theorem dX8_four_131 : decode cX8_four 131 = .ok (.ireturn, 1) := by decide +kernel
theorem dX8_forget_0 : decode cX8_forget 0 = .ok (.iload_n 1, 1) := by decide +kernel
theorem dX8_forget_1 : decode cX8_forget 1 = .ok (.ifCond .lt 14, 3) := by decide +kernel
theorem dX8_forget_4 : decode cX8_forget 4 = .ok (.iload_n 1, 1) := by decide +kernel
theorem dX8_forget_5 : decode cX8_forget 5 = .ok (.aload_n 0, 1) := by decide +kernel
theorem dX8_forget_6 : decode cX8_forget 6 = .ok (.getfield 26, 3) := by decide +kernel
theorem dX8_forget_9 : decode cX8_forget 9 = .ok (.getfield 81, 3) := by decide +kernel
theorem dX8_forget_12 : decode cX8_forget 12 = .ok (.if_icmp .le 5, 3) := by decide +kernel
theorem dX8_forget_15 : decode cX8_forget 15 = .ok (.iconst (-1), 1) := by decide +kernel
theorem dX8_forget_16 : decode cX8_forget 16 = .ok (.ireturn, 1) := by decide +kernel
theorem dX8_forget_17 : decode cX8_forget 17 = .ok (.aload_n 0, 1) := by decide +kernel
theorem dX8_forget_18 : decode cX8_forget 18 = .ok (.getfield 26, 3) := by decide +kernel
theorem dX8_forget_21 : decode cX8_forget 21 = .ok (.iload_n 1, 1) := by decide +kernel
theorem dX8_forget_22 : decode cX8_forget 22 = .ok (.invokevirtual 85, 3) := by decide +kernel
theorem dX8_forget_25 : decode cX8_forget 25 = .ok (.aload_n 0, 1) := by decide +kernel
theorem dX8_forget_26 : decode cX8_forget 26 = .ok (.iconst 1, 1) := by decide +kernel
theorem dX8_forget_27 : decode cX8_forget 27 = .ok (.putfield 65, 3) := by decide +kernel
theorem dX8_forget_30 : decode cX8_forget 30 = .ok (.aload_n 0, 1) := by decide +kernel
theorem dX8_forget_31 : decode cX8_forget 31 = .ok (.getfield 26, 3) := by decide +kernel
theorem dX8_forget_34 : decode cX8_forget 34 = .ok (.getfield 81, 3) := by decide +kernel
theorem dX8_forget_37 : decode cX8_forget 37 = .ok (.ireturn, 1) := by decide +kernel
theorem dX8_set_0 : decode cX8_set 0 = .ok (.aload_n 0, 1) := by decide +kernel
theorem dX8_set_1 : decode cX8_set 1 = .ok (.aload_n 0, 1) := by decide +kernel
theorem dX8_set_2 : decode cX8_set 2 = .ok (.getfield 10, 3) := by decide +kernel
theorem dX8_set_5 : decode cX8_set 5 = .ok (.iload_n 1, 1) := by decide +kernel
theorem dX8_set_6 : decode cX8_set 6 = .ok (.iload_n 2, 1) := by decide +kernel
theorem dX8_set_7 : decode cX8_set 7 = .ok (.invokevirtual 88, 3) := by decide +kernel
theorem dX8_set_10 : decode cX8_set 10 = .ok (.invokevirtual 92, 3) := by decide +kernel
theorem dX8_set_13 : decode cX8_set 13 = .ok (.ireturn, 1) := by decide +kernel
theorem dX8_level_0 : decode cX8_level 0 = .ok (.aload_n 0, 1) := by decide +kernel
theorem dX8_level_1 : decode cX8_level 1 = .ok (.aload_n 0, 1) := by decide +kernel
theorem dX8_level_2 : decode cX8_level 2 = .ok (.getfield 10, 3) := by decide +kernel
theorem dX8_level_5 : decode cX8_level 5 = .ok (.iload_n 1, 1) := by decide +kernel
theorem dX8_level_6 : decode cX8_level 6 = .ok (.iload_n 2, 1) := by decide +kernel
theorem dX8_level_7 : decode cX8_level 7 = .ok (.invokevirtual 96, 3) := by decide +kernel
theorem dX8_level_10 : decode cX8_level 10 = .ok (.invokevirtual 92, 3) := by decide +kernel
theorem dX8_level_13 : decode cX8_level 13 = .ok (.ireturn, 1) := by decide +kernel
theorem dX8_mark_0 : decode cX8_mark 0 = .ok (.aload_n 0, 1) := by decide +kernel
theorem dX8_mark_1 : decode cX8_mark 1 = .ok (.aload_n 0, 1) := by decide +kernel
theorem dX8_mark_2 : decode cX8_mark 2 = .ok (.getfield 10, 3) := by decide +kernel
theorem dX8_mark_5 : decode cX8_mark 5 = .ok (.iload_n 1, 1) := by decide +kernel
theorem dX8_mark_6 : decode cX8_mark 6 = .ok (.iload_n 2, 1) := by decide +kernel
theorem dX8_mark_7 : decode cX8_mark 7 = .ok (.invokevirtual 99, 3) := by decide +kernel
theorem dX8_mark_10 : decode cX8_mark 10 = .ok (.invokevirtual 92, 3) := by decide +kernel
theorem dX8_mark_13 : decode cX8_mark 13 = .ok (.ireturn, 1) := by decide +kernel
theorem dX8_lens_0 : decode cX8_lens 0 = .ok (.iload_n 1, 1) := by decide +kernel
theorem dX8_lens_1 : decode cX8_lens 1 = .ok (.iload_n 2, 1) := by decide +kernel
theorem dX8_lens_2 : decode cX8_lens 2 = .ok (.invokestatic 102, 3) := by decide +kernel
theorem dX8_lens_5 : decode cX8_lens 5 = .ok (.ifCond .eq 14, 3) := by decide +kernel
theorem dX8_lens_8 : decode cX8_lens 8 = .ok (.aload_n 0, 1) := by decide +kernel
theorem dX8_lens_9 : decode cX8_lens 9 = .ok (.getfield 19, 3) := by decide +kernel
theorem dX8_lens_12 : decode cX8_lens 12 = .ok (.getfield 105, 3) := by decide +kernel
theorem dX8_lens_15 : decode cX8_lens 15 = .ok (.iconst 4, 1) := by decide +kernel
theorem dX8_lens_16 : decode cX8_lens 16 = .ok (.if_icmp .lt 5, 3) := by decide +kernel
theorem dX8_lens_19 : decode cX8_lens 19 = .ok (.iconst (-1), 1) := by decide +kernel
theorem dX8_lens_20 : decode cX8_lens 20 = .ok (.ireturn, 1) := by decide +kernel
theorem dX8_lens_21 : decode cX8_lens 21 = .ok (.aload_n 0, 1) := by decide +kernel
theorem dX8_lens_22 : decode cX8_lens 22 = .ok (.getfield 19, 3) := by decide +kernel
theorem dX8_lens_25 : decode cX8_lens 25 = .ok (.iload_n 1, 1) := by decide +kernel
theorem dX8_lens_26 : decode cX8_lens 26 = .ok (.iload_n 2, 1) := by decide +kernel
theorem dX8_lens_27 : decode cX8_lens 27 = .ok (.invokevirtual 106, 3) := by decide +kernel
theorem dX8_lens_30 : decode cX8_lens 30 = .ok (.aload_n 0, 1) := by decide +kernel
theorem dX8_lens_31 : decode cX8_lens 31 = .ok (.iconst 1, 1) := by decide +kernel
theorem dX8_lens_32 : decode cX8_lens 32 = .ok (.putfield 65, 3) := by decide +kernel
theorem dX8_lens_35 : decode cX8_lens 35 = .ok (.aload_n 0, 1) := by decide +kernel
theorem dX8_lens_36 : decode cX8_lens 36 = .ok (.getfield 19, 3) := by decide +kernel
theorem dX8_lens_39 : decode cX8_lens 39 = .ok (.getfield 105, 3) := by decide +kernel
theorem dX8_lens_42 : decode cX8_lens 42 = .ok (.ireturn, 1) := by decide +kernel
theorem dX8_off_0 : decode cX8_off 0 = .ok (.aload_n 0, 1) := by decide +kernel
theorem dX8_off_1 : decode cX8_off 1 = .ok (.getfield 19, 3) := by decide +kernel
theorem dX8_off_4 : decode cX8_off 4 = .ok (.getfield 105, 3) := by decide +kernel
theorem dX8_off_7 : decode cX8_off 7 = .ok (.iconst 1, 1) := by decide +kernel
theorem dX8_off_8 : decode cX8_off 8 = .ok (.if_icmp .ge 5, 3) := by decide +kernel
theorem dX8_off_11 : decode cX8_off 11 = .ok (.iconst (-1), 1) := by decide +kernel
theorem dX8_off_12 : decode cX8_off 12 = .ok (.ireturn, 1) := by decide +kernel
theorem dX8_off_13 : decode cX8_off 13 = .ok (.aload_n 0, 1) := by decide +kernel
theorem dX8_off_14 : decode cX8_off 14 = .ok (.getfield 19, 3) := by decide +kernel
theorem dX8_off_17 : decode cX8_off 17 = .ok (.invokevirtual 110, 3) := by decide +kernel
theorem dX8_off_20 : decode cX8_off 20 = .ok (.aload_n 0, 1) := by decide +kernel
theorem dX8_off_21 : decode cX8_off 21 = .ok (.iconst 1, 1) := by decide +kernel
theorem dX8_off_22 : decode cX8_off 22 = .ok (.putfield 65, 3) := by decide +kernel
theorem dX8_off_25 : decode cX8_off 25 = .ok (.aload_n 0, 1) := by decide +kernel
theorem dX8_off_26 : decode cX8_off 26 = .ok (.getfield 19, 3) := by decide +kernel
theorem dX8_off_29 : decode cX8_off 29 = .ok (.getfield 105, 3) := by decide +kernel
theorem dX8_off_32 : decode cX8_off 32 = .ok (.ireturn, 1) := by decide +kernel
theorem dX8_count_0 : decode cX8_count 0 = .ok (.aload_n 0, 1) := by decide +kernel
theorem dX8_count_1 : decode cX8_count 1 = .ok (.invokevirtual 113, 3) := by decide +kernel
theorem dX8_count_4 : decode cX8_count 4 = .ok (.iload_n 1, 1) := by decide +kernel
theorem dX8_count_5 : decode cX8_count 5 = .ok (.tableswitch 215 0 15 #[79, 87, 95, 103, 111, 119, 127, 135, 143, 151, 159, 167, 175, 183, 191, 199], 79) := by decide +kernel
theorem dX8_count_84 : decode cX8_count 84 = .ok (.aload_n 0, 1) := by decide +kernel
theorem dX8_count_85 : decode cX8_count 85 = .ok (.getfield 26, 3) := by decide +kernel
theorem dX8_count_88 : decode cX8_count 88 = .ok (.getfield 81, 3) := by decide +kernel
theorem dX8_count_91 : decode cX8_count 91 = .ok (.ireturn, 1) := by decide +kernel
theorem dX8_count_92 : decode cX8_count 92 = .ok (.aload_n 0, 1) := by decide +kernel
theorem dX8_count_93 : decode cX8_count 93 = .ok (.getfield 33, 3) := by decide +kernel
theorem dX8_count_96 : decode cX8_count 96 = .ok (.getfield 116, 3) := by decide +kernel
theorem dX8_count_99 : decode cX8_count 99 = .ok (.ireturn, 1) := by decide +kernel
theorem dX8_count_100 : decode cX8_count 100 = .ok (.aload_n 0, 1) := by decide +kernel
theorem dX8_count_101 : decode cX8_count 101 = .ok (.getfield 40, 3) := by decide +kernel
theorem dX8_count_104 : decode cX8_count 104 = .ok (.getfield 117, 3) := by decide +kernel
theorem dX8_count_107 : decode cX8_count 107 = .ok (.ireturn, 1) := by decide +kernel
theorem dX8_count_108 : decode cX8_count 108 = .ok (.aload_n 0, 1) := by decide +kernel
theorem dX8_count_109 : decode cX8_count 109 = .ok (.getfield 47, 3) := by decide +kernel
theorem dX8_count_112 : decode cX8_count 112 = .ok (.getfield 118, 3) := by decide +kernel
theorem dX8_count_115 : decode cX8_count 115 = .ok (.ireturn, 1) := by decide +kernel
theorem dX8_count_116 : decode cX8_count 116 = .ok (.aload_n 0, 1) := by decide +kernel
theorem dX8_count_117 : decode cX8_count 117 = .ok (.getfield 54, 3) := by decide +kernel
theorem dX8_count_120 : decode cX8_count 120 = .ok (.getfield 121, 3) := by decide +kernel
theorem dX8_count_123 : decode cX8_count 123 = .ok (.ireturn, 1) := by decide +kernel
theorem dX8_count_124 : decode cX8_count 124 = .ok (.aload_n 0, 1) := by decide +kernel
theorem dX8_count_125 : decode cX8_count 125 = .ok (.getfield 19, 3) := by decide +kernel
theorem dX8_count_128 : decode cX8_count 128 = .ok (.getfield 105, 3) := by decide +kernel
theorem dX8_count_131 : decode cX8_count 131 = .ok (.ireturn, 1) := by decide +kernel
theorem dX8_count_132 : decode cX8_count 132 = .ok (.aload_n 0, 1) := by decide +kernel
theorem dX8_count_133 : decode cX8_count 133 = .ok (.getfield 26, 3) := by decide +kernel
theorem dX8_count_136 : decode cX8_count 136 = .ok (.invokevirtual 122, 3) := by decide +kernel
theorem dX8_count_139 : decode cX8_count 139 = .ok (.ireturn, 1) := by decide +kernel
theorem dX8_count_140 : decode cX8_count 140 = .ok (.aload_n 0, 1) := by decide +kernel
theorem dX8_count_141 : decode cX8_count 141 = .ok (.getfield 10, 3) := by decide +kernel
theorem dX8_count_144 : decode cX8_count 144 = .ok (.invokevirtual 125, 3) := by decide +kernel
theorem dX8_count_147 : decode cX8_count 147 = .ok (.ireturn, 1) := by decide +kernel
theorem dX8_count_148 : decode cX8_count 148 = .ok (.aload_n 0, 1) := by decide +kernel
theorem dX8_count_149 : decode cX8_count 149 = .ok (.getfield 10, 3) := by decide +kernel
theorem dX8_count_152 : decode cX8_count 152 = .ok (.invokevirtual 128, 3) := by decide +kernel
theorem dX8_count_155 : decode cX8_count 155 = .ok (.ireturn, 1) := by decide +kernel
theorem dX8_count_156 : decode cX8_count 156 = .ok (.aload_n 0, 1) := by decide +kernel
theorem dX8_count_157 : decode cX8_count 157 = .ok (.getfield 10, 3) := by decide +kernel
theorem dX8_count_160 : decode cX8_count 160 = .ok (.invokevirtual 131, 3) := by decide +kernel
theorem dX8_count_163 : decode cX8_count 163 = .ok (.ireturn, 1) := by decide +kernel
theorem dX8_count_164 : decode cX8_count 164 = .ok (.aload_n 0, 1) := by decide +kernel
theorem dX8_count_165 : decode cX8_count 165 = .ok (.getfield 10, 3) := by decide +kernel
theorem dX8_count_168 : decode cX8_count 168 = .ok (.invokevirtual 134, 3) := by decide +kernel
theorem dX8_count_171 : decode cX8_count 171 = .ok (.ireturn, 1) := by decide +kernel
theorem dX8_count_172 : decode cX8_count 172 = .ok (.aload_n 0, 1) := by decide +kernel
theorem dX8_count_173 : decode cX8_count 173 = .ok (.getfield 10, 3) := by decide +kernel
theorem dX8_count_176 : decode cX8_count 176 = .ok (.getfield 137, 3) := by decide +kernel
theorem dX8_count_179 : decode cX8_count 179 = .ok (.ireturn, 1) := by decide +kernel
theorem dX8_count_180 : decode cX8_count 180 = .ok (.aload_n 0, 1) := by decide +kernel
theorem dX8_count_181 : decode cX8_count 181 = .ok (.getfield 10, 3) := by decide +kernel
theorem dX8_count_184 : decode cX8_count 184 = .ok (.getfield 140, 3) := by decide +kernel
theorem dX8_count_187 : decode cX8_count 187 = .ok (.ireturn, 1) := by decide +kernel
theorem dX8_count_188 : decode cX8_count 188 = .ok (.aload_n 0, 1) := by decide +kernel
theorem dX8_count_189 : decode cX8_count 189 = .ok (.getfield 33, 3) := by decide +kernel
theorem dX8_count_192 : decode cX8_count 192 = .ok (.getfield 143, 3) := by decide +kernel
theorem dX8_count_195 : decode cX8_count 195 = .ok (.ireturn, 1) := by decide +kernel
theorem dX8_count_196 : decode cX8_count 196 = .ok (.aload_n 0, 1) := by decide +kernel
theorem dX8_count_197 : decode cX8_count 197 = .ok (.getfield 33, 3) := by decide +kernel
theorem dX8_count_200 : decode cX8_count 200 = .ok (.getfield 146, 3) := by decide +kernel
theorem dX8_count_203 : decode cX8_count 203 = .ok (.ireturn, 1) := by decide +kernel
theorem dX8_count_204 : decode cX8_count 204 = .ok (.aload_n 0, 1) := by decide +kernel
theorem dX8_count_205 : decode cX8_count 205 = .ok (.getfield 40, 3) := by decide +kernel
theorem dX8_count_208 : decode cX8_count 208 = .ok (.iconst 0, 1) := by decide +kernel
theorem dX8_count_209 : decode cX8_count 209 = .ok (.aload_n 0, 1) := by decide +kernel
theorem dX8_count_210 : decode cX8_count 210 = .ok (.getfield 40, 3) := by decide +kernel
theorem dX8_count_213 : decode cX8_count 213 = .ok (.getfield 117, 3) := by decide +kernel
theorem dX8_count_216 : decode cX8_count 216 = .ok (.invokevirtual 149, 3) := by decide +kernel
theorem dX8_count_219 : decode cX8_count 219 = .ok (.ireturn, 1) := by decide +kernel
theorem dX8_count_220 : decode cX8_count 220 = .ok (.iconst (-1), 1) := by decide +kernel
theorem dX8_count_221 : decode cX8_count 221 = .ok (.ireturn, 1) := by decide +kernel
theorem dX8_sample_0 : decode cX8_sample 0 = .ok (.aload_n 0, 1) := by decide +kernel
theorem dX8_sample_1 : decode cX8_sample 1 = .ok (.getfield 26, 3) := by decide +kernel
theorem dX8_sample_4 : decode cX8_sample 4 = .ok (.iload_n 1, 1) := by decide +kernel
theorem dX8_sample_5 : decode cX8_sample 5 = .ok (.invokevirtual 153, 3) := by decide +kernel
theorem dX8_sample_8 : decode cX8_sample 8 = .ok (.ifCond .ne 5, 3) := by decide +kernel
theorem dX8_sample_11 : decode cX8_sample 11 = .ok (.iconst (-1), 1) := by decide +kernel
theorem dX8_sample_12 : decode cX8_sample 12 = .ok (.ireturn, 1) := by decide +kernel
theorem dX8_sample_13 : decode cX8_sample 13 = .ok (.aload_n 0, 1) := by decide +kernel
theorem dX8_sample_14 : decode cX8_sample 14 = .ok (.invokevirtual 113, 3) := by decide +kernel
theorem dX8_sample_17 : decode cX8_sample 17 = .ok (.iload_n 2, 1) := by decide +kernel
theorem dX8_sample_18 : decode cX8_sample 18 = .ok (.tableswitch 103 0 5 #[38, 48, 58, 74, 84, 94], 38) := by decide +kernel
theorem dX8_sample_56 : decode cX8_sample 56 = .ok (.aload_n 0, 1) := by decide +kernel
theorem dX8_sample_57 : decode cX8_sample 57 = .ok (.getfield 26, 3) := by decide +kernel
theorem dX8_sample_60 : decode cX8_sample 60 = .ok (.getfield 156, 3) := by decide +kernel
theorem dX8_sample_63 : decode cX8_sample 63 = .ok (.iload_n 1, 1) := by decide +kernel
theorem dX8_sample_64 : decode cX8_sample 64 = .ok (.iaload, 1) := by decide +kernel
theorem dX8_sample_65 : decode cX8_sample 65 = .ok (.ireturn, 1) := by decide +kernel
theorem dX8_sample_66 : decode cX8_sample 66 = .ok (.aload_n 0, 1) := by decide +kernel
theorem dX8_sample_67 : decode cX8_sample 67 = .ok (.getfield 33, 3) := by decide +kernel
theorem dX8_sample_70 : decode cX8_sample 70 = .ok (.iload_n 1, 1) := by decide +kernel
theorem dX8_sample_71 : decode cX8_sample 71 = .ok (.iconst 0, 1) := by decide +kernel
theorem dX8_sample_72 : decode cX8_sample 72 = .ok (.invokevirtual 160, 3) := by decide +kernel
theorem dX8_sample_75 : decode cX8_sample 75 = .ok (.ireturn, 1) := by decide +kernel
theorem dX8_sample_76 : decode cX8_sample 76 = .ok (.aload_n 0, 1) := by decide +kernel
theorem dX8_sample_77 : decode cX8_sample 77 = .ok (.getfield 33, 3) := by decide +kernel
theorem dX8_sample_80 : decode cX8_sample 80 = .ok (.iload_n 1, 1) := by decide +kernel
theorem dX8_sample_81 : decode cX8_sample 81 = .ok (.aload_n 0, 1) := by decide +kernel
theorem dX8_sample_82 : decode cX8_sample 82 = .ok (.getfield 19, 3) := by decide +kernel
theorem dX8_sample_85 : decode cX8_sample 85 = .ok (.getfield 105, 3) := by decide +kernel
theorem dX8_sample_88 : decode cX8_sample 88 = .ok (.invokevirtual 160, 3) := by decide +kernel
theorem dX8_sample_91 : decode cX8_sample 91 = .ok (.ireturn, 1) := by decide +kernel
theorem dX8_sample_92 : decode cX8_sample 92 = .ok (.aload_n 0, 1) := by decide +kernel
theorem dX8_sample_93 : decode cX8_sample 93 = .ok (.getfield 33, 3) := by decide +kernel
theorem dX8_sample_96 : decode cX8_sample 96 = .ok (.getfield 163, 3) := by decide +kernel
theorem dX8_sample_99 : decode cX8_sample 99 = .ok (.iload_n 1, 1) := by decide +kernel
theorem dX8_sample_100 : decode cX8_sample 100 = .ok (.iaload, 1) := by decide +kernel
theorem dX8_sample_101 : decode cX8_sample 101 = .ok (.ireturn, 1) := by decide +kernel
theorem dX8_sample_102 : decode cX8_sample 102 = .ok (.aload_n 0, 1) := by decide +kernel
theorem dX8_sample_103 : decode cX8_sample 103 = .ok (.getfield 40, 3) := by decide +kernel
theorem dX8_sample_106 : decode cX8_sample 106 = .ok (.getfield 166, 3) := by decide +kernel
theorem dX8_sample_109 : decode cX8_sample 109 = .ok (.iload_n 1, 1) := by decide +kernel
theorem dX8_sample_110 : decode cX8_sample 110 = .ok (.iaload, 1) := by decide +kernel
theorem dX8_sample_111 : decode cX8_sample 111 = .ok (.ireturn, 1) := by decide +kernel
theorem dX8_sample_112 : decode cX8_sample 112 = .ok (.aload_n 0, 1) := by decide +kernel
theorem dX8_sample_113 : decode cX8_sample 113 = .ok (.getfield 26, 3) := by decide +kernel
theorem dX8_sample_116 : decode cX8_sample 116 = .ok (.iload_n 1, 1) := by decide +kernel
theorem dX8_sample_117 : decode cX8_sample 117 = .ok (.invokevirtual 169, 3) := by decide +kernel
theorem dX8_sample_120 : decode cX8_sample 120 = .ok (.ireturn, 1) := by decide +kernel
theorem dX8_sample_121 : decode cX8_sample 121 = .ok (.iconst (-1), 1) := by decide +kernel
theorem dX8_sample_122 : decode cX8_sample 122 = .ok (.ireturn, 1) := by decide +kernel
theorem dX8_through_0 : decode cX8_through 0 = .ok (.aload_n 0, 1) := by decide +kernel
theorem dX8_through_1 : decode cX8_through 1 = .ok (.getfield 26, 3) := by decide +kernel
theorem dX8_through_4 : decode cX8_through 4 = .ok (.iload_n 1, 1) := by decide +kernel
theorem dX8_through_5 : decode cX8_through 5 = .ok (.invokevirtual 153, 3) := by decide +kernel
theorem dX8_through_8 : decode cX8_through 8 = .ok (.ifCond .eq 18, 3) := by decide +kernel
theorem dX8_through_11 : decode cX8_through 11 = .ok (.iload_n 2, 1) := by decide +kernel
theorem dX8_through_12 : decode cX8_through 12 = .ok (.ifCond .lt 14, 3) := by decide +kernel
theorem dX8_through_15 : decode cX8_through 15 = .ok (.iload_n 2, 1) := by decide +kernel
theorem dX8_through_16 : decode cX8_through 16 = .ok (.aload_n 0, 1) := by decide +kernel
theorem dX8_through_17 : decode cX8_through 17 = .ok (.getfield 19, 3) := by decide +kernel
theorem dX8_through_20 : decode cX8_through 20 = .ok (.getfield 105, 3) := by decide +kernel
theorem dX8_through_23 : decode cX8_through 23 = .ok (.if_icmp .le 7, 3) := by decide +kernel
theorem dX8_through_26 : decode cX8_through 26 = .ok (.sipush (-32768), 3) := by decide +kernel
theorem dX8_through_29 : decode cX8_through 29 = .ok (.ireturn, 1) := by decide +kernel
theorem dX8_through_30 : decode cX8_through 30 = .ok (.aload_n 0, 1) := by decide +kernel
theorem dX8_through_31 : decode cX8_through 31 = .ok (.invokevirtual 113, 3) := by decide +kernel
theorem dX8_through_34 : decode cX8_through 34 = .ok (.aload_n 0, 1) := by decide +kernel
theorem dX8_through_35 : decode cX8_through 35 = .ok (.getfield 33, 3) := by decide +kernel
theorem dX8_through_38 : decode cX8_through 38 = .ok (.iload_n 1, 1) := by decide +kernel
theorem dX8_through_39 : decode cX8_through 39 = .ok (.iload_n 2, 1) := by decide +kernel
theorem dX8_through_40 : decode cX8_through 40 = .ok (.invokevirtual 160, 3) := by decide +kernel
theorem dX8_through_43 : decode cX8_through 43 = .ok (.ireturn, 1) := by decide +kernel
theorem dX8_stretch_0 : decode cX8_stretch 0 = .ok (.aload_n 0, 1) := by decide +kernel
theorem dX8_stretch_1 : decode cX8_stretch 1 = .ok (.invokevirtual 113, 3) := by decide +kernel
theorem dX8_stretch_4 : decode cX8_stretch 4 = .ok (.aload_n 0, 1) := by decide +kernel
theorem dX8_stretch_5 : decode cX8_stretch 5 = .ok (.getfield 33, 3) := by decide +kernel
theorem dX8_stretch_8 : decode cX8_stretch 8 = .ok (.iload_n 1, 1) := by decide +kernel
theorem dX8_stretch_9 : decode cX8_stretch 9 = .ok (.invokevirtual 173, 3) := by decide +kernel
theorem dX8_stretch_12 : decode cX8_stretch 12 = .ok (.ifCond .ne 5, 3) := by decide +kernel
theorem dX8_stretch_15 : decode cX8_stretch 15 = .ok (.iconst (-1), 1) := by decide +kernel
theorem dX8_stretch_16 : decode cX8_stretch 16 = .ok (.ireturn, 1) := by decide +kernel
theorem dX8_stretch_17 : decode cX8_stretch 17 = .ok (.iload_n 2, 1) := by decide +kernel
theorem dX8_stretch_18 : decode cX8_stretch 18 = .ok (.tableswitch 164 0 7 #[46, 56, 66, 76, 86, 96, 106, 139], 46) := by decide +kernel
theorem dX8_stretch_64 : decode cX8_stretch 64 = .ok (.aload_n 0, 1) := by decide +kernel
theorem dX8_stretch_65 : decode cX8_stretch 65 = .ok (.getfield 33, 3) := by decide +kernel
theorem dX8_stretch_68 : decode cX8_stretch 68 = .ok (.getfield 174, 3) := by decide +kernel
theorem dX8_stretch_71 : decode cX8_stretch 71 = .ok (.iload_n 1, 1) := by decide +kernel
theorem dX8_stretch_72 : decode cX8_stretch 72 = .ok (.iaload, 1) := by decide +kernel
theorem dX8_stretch_73 : decode cX8_stretch 73 = .ok (.ireturn, 1) := by decide +kernel
theorem dX8_stretch_74 : decode cX8_stretch 74 = .ok (.aload_n 0, 1) := by decide +kernel
theorem dX8_stretch_75 : decode cX8_stretch 75 = .ok (.getfield 33, 3) := by decide +kernel
theorem dX8_stretch_78 : decode cX8_stretch 78 = .ok (.getfield 177, 3) := by decide +kernel
theorem dX8_stretch_81 : decode cX8_stretch 81 = .ok (.iload_n 1, 1) := by decide +kernel
theorem dX8_stretch_82 : decode cX8_stretch 82 = .ok (.iaload, 1) := by decide +kernel
theorem dX8_stretch_83 : decode cX8_stretch 83 = .ok (.ireturn, 1) := by decide +kernel
theorem dX8_stretch_84 : decode cX8_stretch 84 = .ok (.aload_n 0, 1) := by decide +kernel
theorem dX8_stretch_85 : decode cX8_stretch 85 = .ok (.getfield 33, 3) := by decide +kernel
theorem dX8_stretch_88 : decode cX8_stretch 88 = .ok (.getfield 180, 3) := by decide +kernel
theorem dX8_stretch_91 : decode cX8_stretch 91 = .ok (.iload_n 1, 1) := by decide +kernel
theorem dX8_stretch_92 : decode cX8_stretch 92 = .ok (.iaload, 1) := by decide +kernel
theorem dX8_stretch_93 : decode cX8_stretch 93 = .ok (.ireturn, 1) := by decide +kernel
theorem dX8_stretch_94 : decode cX8_stretch 94 = .ok (.aload_n 0, 1) := by decide +kernel
theorem dX8_stretch_95 : decode cX8_stretch 95 = .ok (.getfield 40, 3) := by decide +kernel
theorem dX8_stretch_98 : decode cX8_stretch 98 = .ok (.getfield 183, 3) := by decide +kernel
theorem dX8_stretch_101 : decode cX8_stretch 101 = .ok (.iload_n 1, 1) := by decide +kernel
theorem dX8_stretch_102 : decode cX8_stretch 102 = .ok (.iaload, 1) := by decide +kernel
theorem dX8_stretch_103 : decode cX8_stretch 103 = .ok (.ireturn, 1) := by decide +kernel
theorem dX8_stretch_104 : decode cX8_stretch 104 = .ok (.aload_n 0, 1) := by decide +kernel
theorem dX8_stretch_105 : decode cX8_stretch 105 = .ok (.getfield 40, 3) := by decide +kernel
theorem dX8_stretch_108 : decode cX8_stretch 108 = .ok (.getfield 186, 3) := by decide +kernel
theorem dX8_stretch_111 : decode cX8_stretch 111 = .ok (.iload_n 1, 1) := by decide +kernel
theorem dX8_stretch_112 : decode cX8_stretch 112 = .ok (.iaload, 1) := by decide +kernel
theorem dX8_stretch_113 : decode cX8_stretch 113 = .ok (.ireturn, 1) := by decide +kernel
theorem dX8_stretch_114 : decode cX8_stretch 114 = .ok (.aload_n 0, 1) := by decide +kernel
theorem dX8_stretch_115 : decode cX8_stretch 115 = .ok (.getfield 40, 3) := by decide +kernel
theorem dX8_stretch_118 : decode cX8_stretch 118 = .ok (.getfield 189, 3) := by decide +kernel
theorem dX8_stretch_121 : decode cX8_stretch 121 = .ok (.iload_n 1, 1) := by decide +kernel
theorem dX8_stretch_122 : decode cX8_stretch 122 = .ok (.iaload, 1) := by decide +kernel
theorem dX8_stretch_123 : decode cX8_stretch 123 = .ok (.ireturn, 1) := by decide +kernel
theorem dX8_stretch_124 : decode cX8_stretch 124 = .ok (.aload_n 0, 1) := by decide +kernel
theorem dX8_stretch_125 : decode cX8_stretch 125 = .ok (.getfield 33, 3) := by decide +kernel
theorem dX8_stretch_128 : decode cX8_stretch 128 = .ok (.getfield 192, 3) := by decide +kernel
theorem dX8_stretch_131 : decode cX8_stretch 131 = .ok (.aload_n 0, 1) := by decide +kernel
theorem dX8_stretch_132 : decode cX8_stretch 132 = .ok (.getfield 33, 3) := by decide +kernel
theorem dX8_stretch_135 : decode cX8_stretch 135 = .ok (.aload_n 0, 1) := by decide +kernel
theorem dX8_stretch_136 : decode cX8_stretch 136 = .ok (.getfield 33, 3) := by decide +kernel
theorem dX8_stretch_139 : decode cX8_stretch 139 = .ok (.getfield 174, 3) := by decide +kernel
theorem dX8_stretch_142 : decode cX8_stretch 142 = .ok (.iload_n 1, 1) := by decide +kernel
theorem dX8_stretch_143 : decode cX8_stretch 143 = .ok (.iaload, 1) := by decide +kernel
theorem dX8_stretch_144 : decode cX8_stretch 144 = .ok (.aload_n 0, 1) := by decide +kernel
theorem dX8_stretch_145 : decode cX8_stretch 145 = .ok (.getfield 33, 3) := by decide +kernel
theorem dX8_stretch_148 : decode cX8_stretch 148 = .ok (.iload_n 1, 1) := by decide +kernel
theorem dX8_stretch_149 : decode cX8_stretch 149 = .ok (.invokevirtual 195, 3) := by decide +kernel
theorem dX8_stretch_152 : decode cX8_stretch 152 = .ok (.invokevirtual 198, 3) := by decide +kernel
theorem dX8_stretch_155 : decode cX8_stretch 155 = .ok (.iaload, 1) := by decide +kernel
theorem dX8_stretch_156 : decode cX8_stretch 156 = .ok (.ireturn, 1) := by decide +kernel
theorem dX8_stretch_157 : decode cX8_stretch 157 = .ok (.aload_n 0, 1) := by decide +kernel
theorem dX8_stretch_158 : decode cX8_stretch 158 = .ok (.getfield 33, 3) := by decide +kernel
theorem dX8_stretch_161 : decode cX8_stretch 161 = .ok (.aload_n 0, 1) := by decide +kernel
theorem dX8_stretch_162 : decode cX8_stretch 162 = .ok (.getfield 33, 3) := by decide +kernel
theorem dX8_stretch_165 : decode cX8_stretch 165 = .ok (.getfield 174, 3) := by decide +kernel
theorem dX8_stretch_168 : decode cX8_stretch 168 = .ok (.iload_n 1, 1) := by decide +kernel
theorem dX8_stretch_169 : decode cX8_stretch 169 = .ok (.iaload, 1) := by decide +kernel
theorem dX8_stretch_170 : decode cX8_stretch 170 = .ok (.aload_n 0, 1) := by decide +kernel
theorem dX8_stretch_171 : decode cX8_stretch 171 = .ok (.getfield 33, 3) := by decide +kernel
theorem dX8_stretch_174 : decode cX8_stretch 174 = .ok (.iload_n 1, 1) := by decide +kernel
theorem dX8_stretch_175 : decode cX8_stretch 175 = .ok (.invokevirtual 195, 3) := by decide +kernel
theorem dX8_stretch_178 : decode cX8_stretch 178 = .ok (.invokevirtual 201, 3) := by decide +kernel
theorem dX8_stretch_181 : decode cX8_stretch 181 = .ok (.ireturn, 1) := by decide +kernel
theorem dX8_stretch_182 : decode cX8_stretch 182 = .ok (.iconst (-1), 1) := by decide +kernel
theorem dX8_stretch_183 : decode cX8_stretch 183 = .ok (.ireturn, 1) := by decide +kernel
theorem dX8_wave_0 : decode cX8_wave 0 = .ok (.aload_n 0, 1) := by decide +kernel
theorem dX8_wave_1 : decode cX8_wave 1 = .ok (.invokevirtual 113, 3) := by decide +kernel
theorem dX8_wave_4 : decode cX8_wave 4 = .ok (.aload_n 0, 1) := by decide +kernel
theorem dX8_wave_5 : decode cX8_wave 5 = .ok (.getfield 40, 3) := by decide +kernel
theorem dX8_wave_8 : decode cX8_wave 8 = .ok (.iload_n 1, 1) := by decide +kernel
theorem dX8_wave_9 : decode cX8_wave 9 = .ok (.invokevirtual 204, 3) := by decide +kernel
theorem dX8_wave_12 : decode cX8_wave 12 = .ok (.ifCond .ne 5, 3) := by decide +kernel
theorem dX8_wave_15 : decode cX8_wave 15 = .ok (.iconst (-1), 1) := by decide +kernel
theorem dX8_wave_16 : decode cX8_wave 16 = .ok (.ireturn, 1) := by decide +kernel
theorem dX8_wave_17 : decode cX8_wave 17 = .ok (.iload_n 2, 1) := by decide +kernel
theorem dX8_wave_18 : decode cX8_wave 18 = .ok (.tableswitch 237 0 11 #[62, 72, 82, 92, 102, 122, 132, 142, 152, 177, 202, 212], 62) := by decide +kernel
theorem dX8_wave_80 : decode cX8_wave 80 = .ok (.aload_n 0, 1) := by decide +kernel
theorem dX8_wave_81 : decode cX8_wave 81 = .ok (.getfield 40, 3) := by decide +kernel
theorem dX8_wave_84 : decode cX8_wave 84 = .ok (.getfield 205, 3) := by decide +kernel
theorem dX8_wave_87 : decode cX8_wave 87 = .ok (.iload_n 1, 1) := by decide +kernel
theorem dX8_wave_88 : decode cX8_wave 88 = .ok (.iaload, 1) := by decide +kernel
theorem dX8_wave_89 : decode cX8_wave 89 = .ok (.ireturn, 1) := by decide +kernel
theorem dX8_wave_90 : decode cX8_wave 90 = .ok (.aload_n 0, 1) := by decide +kernel
theorem dX8_wave_91 : decode cX8_wave 91 = .ok (.getfield 40, 3) := by decide +kernel
theorem dX8_wave_94 : decode cX8_wave 94 = .ok (.getfield 206, 3) := by decide +kernel
theorem dX8_wave_97 : decode cX8_wave 97 = .ok (.iload_n 1, 1) := by decide +kernel
theorem dX8_wave_98 : decode cX8_wave 98 = .ok (.iaload, 1) := by decide +kernel
theorem dX8_wave_99 : decode cX8_wave 99 = .ok (.ireturn, 1) := by decide +kernel
theorem dX8_wave_100 : decode cX8_wave 100 = .ok (.aload_n 0, 1) := by decide +kernel
theorem dX8_wave_101 : decode cX8_wave 101 = .ok (.getfield 40, 3) := by decide +kernel
theorem dX8_wave_104 : decode cX8_wave 104 = .ok (.getfield 209, 3) := by decide +kernel
theorem dX8_wave_107 : decode cX8_wave 107 = .ok (.iload_n 1, 1) := by decide +kernel
theorem dX8_wave_108 : decode cX8_wave 108 = .ok (.iaload, 1) := by decide +kernel
theorem dX8_wave_109 : decode cX8_wave 109 = .ok (.ireturn, 1) := by decide +kernel
theorem dX8_wave_110 : decode cX8_wave 110 = .ok (.aload_n 0, 1) := by decide +kernel
theorem dX8_wave_111 : decode cX8_wave 111 = .ok (.getfield 40, 3) := by decide +kernel
theorem dX8_wave_114 : decode cX8_wave 114 = .ok (.getfield 212, 3) := by decide +kernel
theorem dX8_wave_117 : decode cX8_wave 117 = .ok (.iload_n 1, 1) := by decide +kernel
theorem dX8_wave_118 : decode cX8_wave 118 = .ok (.iaload, 1) := by decide +kernel
theorem dX8_wave_119 : decode cX8_wave 119 = .ok (.ireturn, 1) := by decide +kernel
theorem dX8_wave_120 : decode cX8_wave 120 = .ok (.aload_n 0, 1) := by decide +kernel
theorem dX8_wave_121 : decode cX8_wave 121 = .ok (.getfield 40, 3) := by decide +kernel
theorem dX8_wave_124 : decode cX8_wave 124 = .ok (.getfield 209, 3) := by decide +kernel
theorem dX8_wave_127 : decode cX8_wave 127 = .ok (.iload_n 1, 1) := by decide +kernel
theorem dX8_wave_128 : decode cX8_wave 128 = .ok (.iaload, 1) := by decide +kernel
theorem dX8_wave_129 : decode cX8_wave 129 = .ok (.aload_n 0, 1) := by decide +kernel
theorem dX8_wave_130 : decode cX8_wave 130 = .ok (.getfield 40, 3) := by decide +kernel
theorem dX8_wave_133 : decode cX8_wave 133 = .ok (.getfield 212, 3) := by decide +kernel
theorem dX8_wave_136 : decode cX8_wave 136 = .ok (.iload_n 1, 1) := by decide +kernel
theorem dX8_wave_137 : decode cX8_wave 137 = .ok (.iaload, 1) := by decide +kernel
theorem dX8_wave_138 : decode cX8_wave 138 = .ok (.isub, 1) := by decide +kernel
theorem dX8_wave_139 : decode cX8_wave 139 = .ok (.ireturn, 1) := by decide +kernel
theorem dX8_wave_140 : decode cX8_wave 140 = .ok (.aload_n 0, 1) := by decide +kernel
theorem dX8_wave_141 : decode cX8_wave 141 = .ok (.getfield 40, 3) := by decide +kernel
theorem dX8_wave_144 : decode cX8_wave 144 = .ok (.getfield 215, 3) := by decide +kernel
theorem dX8_wave_147 : decode cX8_wave 147 = .ok (.iload_n 1, 1) := by decide +kernel
theorem dX8_wave_148 : decode cX8_wave 148 = .ok (.iaload, 1) := by decide +kernel
theorem dX8_wave_149 : decode cX8_wave 149 = .ok (.ireturn, 1) := by decide +kernel
theorem dX8_wave_150 : decode cX8_wave 150 = .ok (.aload_n 0, 1) := by decide +kernel
theorem dX8_wave_151 : decode cX8_wave 151 = .ok (.getfield 40, 3) := by decide +kernel
theorem dX8_wave_154 : decode cX8_wave 154 = .ok (.getfield 218, 3) := by decide +kernel
theorem dX8_wave_157 : decode cX8_wave 157 = .ok (.iload_n 1, 1) := by decide +kernel
theorem dX8_wave_158 : decode cX8_wave 158 = .ok (.iaload, 1) := by decide +kernel
theorem dX8_wave_159 : decode cX8_wave 159 = .ok (.ireturn, 1) := by decide +kernel
theorem dX8_wave_160 : decode cX8_wave 160 = .ok (.aload_n 0, 1) := by decide +kernel
theorem dX8_wave_161 : decode cX8_wave 161 = .ok (.getfield 47, 3) := by decide +kernel
theorem dX8_wave_164 : decode cX8_wave 164 = .ok (.getfield 219, 3) := by decide +kernel
theorem dX8_wave_167 : decode cX8_wave 167 = .ok (.iload_n 1, 1) := by decide +kernel
theorem dX8_wave_168 : decode cX8_wave 168 = .ok (.iaload, 1) := by decide +kernel
theorem dX8_wave_169 : decode cX8_wave 169 = .ok (.ireturn, 1) := by decide +kernel
theorem dX8_wave_170 : decode cX8_wave 170 = .ok (.aload_n 0, 1) := by decide +kernel
theorem dX8_wave_171 : decode cX8_wave 171 = .ok (.getfield 47, 3) := by decide +kernel
theorem dX8_wave_174 : decode cX8_wave 174 = .ok (.getfield 219, 3) := by decide +kernel
theorem dX8_wave_177 : decode cX8_wave 177 = .ok (.iload_n 1, 1) := by decide +kernel
theorem dX8_wave_178 : decode cX8_wave 178 = .ok (.iaload, 1) := by decide +kernel
theorem dX8_wave_179 : decode cX8_wave 179 = .ok (.aload_n 0, 1) := by decide +kernel
theorem dX8_wave_180 : decode cX8_wave 180 = .ok (.getfield 47, 3) := by decide +kernel
theorem dX8_wave_183 : decode cX8_wave 183 = .ok (.getfield 118, 3) := by decide +kernel
theorem dX8_wave_186 : decode cX8_wave 186 = .ok (.if_icmp .ge 7, 3) := by decide +kernel
theorem dX8_wave_189 : decode cX8_wave 189 = .ok (.iconst 1, 1) := by decide +kernel
theorem dX8_wave_190 : decode cX8_wave 190 = .ok (.goto 4, 3) := by decide +kernel
theorem dX8_wave_193 : decode cX8_wave 193 = .ok (.iconst 0, 1) := by decide +kernel
theorem dX8_wave_194 : decode cX8_wave 194 = .ok (.ireturn, 1) := by decide +kernel
theorem dX8_wave_195 : decode cX8_wave 195 = .ok (.aload_n 0, 1) := by decide +kernel
theorem dX8_wave_196 : decode cX8_wave 196 = .ok (.getfield 47, 3) := by decide +kernel
theorem dX8_wave_199 : decode cX8_wave 199 = .ok (.aload_n 0, 1) := by decide +kernel
theorem dX8_wave_200 : decode cX8_wave 200 = .ok (.getfield 40, 3) := by decide +kernel
theorem dX8_wave_203 : decode cX8_wave 203 = .ok (.iload_n 1, 1) := by decide +kernel
theorem dX8_wave_204 : decode cX8_wave 204 = .ok (.aload_n 0, 1) := by decide +kernel
theorem dX8_wave_205 : decode cX8_wave 205 = .ok (.getfield 10, 3) := by decide +kernel
theorem dX8_wave_208 : decode cX8_wave 208 = .ok (.invokevirtual 222, 3) := by decide +kernel
theorem dX8_wave_211 : decode cX8_wave 211 = .ok (.ifCond .eq 7, 3) := by decide +kernel
theorem dX8_wave_214 : decode cX8_wave 214 = .ok (.iconst 1, 1) := by decide +kernel
theorem dX8_wave_215 : decode cX8_wave 215 = .ok (.goto 4, 3) := by decide +kernel
theorem dX8_wave_218 : decode cX8_wave 218 = .ok (.iconst 0, 1) := by decide +kernel
theorem dX8_wave_219 : decode cX8_wave 219 = .ok (.ireturn, 1) := by decide +kernel
theorem dX8_wave_220 : decode cX8_wave 220 = .ok (.aload_n 0, 1) := by decide +kernel
theorem dX8_wave_221 : decode cX8_wave 221 = .ok (.getfield 54, 3) := by decide +kernel
theorem dX8_wave_224 : decode cX8_wave 224 = .ok (.getfield 226, 3) := by decide +kernel
theorem dX8_wave_227 : decode cX8_wave 227 = .ok (.iload_n 1, 1) := by decide +kernel
theorem dX8_wave_228 : decode cX8_wave 228 = .ok (.iaload, 1) := by decide +kernel
theorem dX8_wave_229 : decode cX8_wave 229 = .ok (.ireturn, 1) := by decide +kernel
theorem dX8_wave_230 : decode cX8_wave 230 = .ok (.aload_n 0, 1) := by decide +kernel
theorem dX8_wave_231 : decode cX8_wave 231 = .ok (.getfield 26, 3) := by decide +kernel
theorem dX8_wave_234 : decode cX8_wave 234 = .ok (.aload_n 0, 1) := by decide +kernel
theorem dX8_wave_235 : decode cX8_wave 235 = .ok (.getfield 40, 3) := by decide +kernel
theorem dX8_wave_238 : decode cX8_wave 238 = .ok (.getfield 205, 3) := by decide +kernel
theorem dX8_wave_241 : decode cX8_wave 241 = .ok (.iload_n 1, 1) := by decide +kernel
theorem dX8_wave_242 : decode cX8_wave 242 = .ok (.iaload, 1) := by decide +kernel
theorem dX8_wave_243 : decode cX8_wave 243 = .ok (.aload_n 0, 1) := by decide +kernel
theorem dX8_wave_244 : decode cX8_wave 244 = .ok (.getfield 40, 3) := by decide +kernel
theorem dX8_wave_247 : decode cX8_wave 247 = .ok (.iload_n 1, 1) := by decide +kernel
theorem dX8_wave_248 : decode cX8_wave 248 = .ok (.invokevirtual 229, 3) := by decide +kernel
theorem dX8_wave_251 : decode cX8_wave 251 = .ok (.invokevirtual 230, 3) := by decide +kernel
theorem dX8_wave_254 : decode cX8_wave 254 = .ok (.ireturn, 1) := by decide +kernel
theorem dX8_wave_255 : decode cX8_wave 255 = .ok (.iconst (-1), 1) := by decide +kernel
theorem dX8_wave_256 : decode cX8_wave 256 = .ok (.ireturn, 1) := by decide +kernel
theorem dX8_ranked_0 : decode cX8_ranked 0 = .ok (.aload_n 0, 1) := by decide +kernel
theorem dX8_ranked_1 : decode cX8_ranked 1 = .ok (.invokevirtual 113, 3) := by decide +kernel
theorem dX8_ranked_4 : decode cX8_ranked 4 = .ok (.aload_n 0, 1) := by decide +kernel
theorem dX8_ranked_5 : decode cX8_ranked 5 = .ok (.getfield 40, 3) := by decide +kernel
theorem dX8_ranked_8 : decode cX8_ranked 8 = .ok (.iload_n 1, 1) := by decide +kernel
theorem dX8_ranked_9 : decode cX8_ranked 9 = .ok (.invokevirtual 204, 3) := by decide +kernel
theorem dX8_ranked_12 : decode cX8_ranked 12 = .ok (.ifCond .eq 15, 3) := by decide +kernel
theorem dX8_ranked_15 : decode cX8_ranked 15 = .ok (.aload_n 0, 1) := by decide +kernel
theorem dX8_ranked_16 : decode cX8_ranked 16 = .ok (.getfield 47, 3) := by decide +kernel
theorem dX8_ranked_19 : decode cX8_ranked 19 = .ok (.getfield 233, 3) := by decide +kernel
theorem dX8_ranked_22 : decode cX8_ranked 22 = .ok (.iload_n 1, 1) := by decide +kernel
theorem dX8_ranked_23 : decode cX8_ranked 23 = .ok (.iaload, 1) := by decide +kernel
theorem dX8_ranked_24 : decode cX8_ranked 24 = .ok (.goto 4, 3) := by decide +kernel
theorem dX8_ranked_27 : decode cX8_ranked 27 = .ok (.iconst (-1), 1) := by decide +kernel
theorem dX8_ranked_28 : decode cX8_ranked 28 = .ok (.ireturn, 1) := by decide +kernel
theorem dX8_highest_0 : decode cX8_highest 0 = .ok (.iload_n 1, 1) := by decide +kernel
theorem dX8_highest_1 : decode cX8_highest 1 = .ok (.iconst 1, 1) := by decide +kernel
theorem dX8_highest_2 : decode cX8_highest 2 = .ok (.if_icmp .lt 18, 3) := by decide +kernel
theorem dX8_highest_5 : decode cX8_highest 5 = .ok (.iload_n 1, 1) := by decide +kernel
theorem dX8_highest_6 : decode cX8_highest 6 = .ok (.bipush 10, 2) := by decide +kernel
theorem dX8_highest_8 : decode cX8_highest 8 = .ok (.if_icmp .gt 12, 3) := by decide +kernel
theorem dX8_highest_11 : decode cX8_highest 11 = .ok (.iload_n 2, 1) := by decide +kernel
theorem dX8_highest_12 : decode cX8_highest 12 = .ok (.ifCond .lt 8, 3) := by decide +kernel
theorem dX8_highest_15 : decode cX8_highest 15 = .ok (.iload_n 2, 1) := by decide +kernel
theorem dX8_highest_16 : decode cX8_highest 16 = .ok (.iconst 4, 1) := by decide +kernel
theorem dX8_highest_17 : decode cX8_highest 17 = .ok (.if_icmp .le 5, 3) := by decide +kernel
theorem dX8_highest_20 : decode cX8_highest 20 = .ok (.iconst (-1), 1) := by decide +kernel
theorem dX8_highest_21 : decode cX8_highest 21 = .ok (.ireturn, 1) := by decide +kernel
theorem dX8_highest_22 : decode cX8_highest 22 = .ok (.aload_n 0, 1) := by decide +kernel
theorem dX8_highest_23 : decode cX8_highest 23 = .ok (.invokevirtual 113, 3) := by decide +kernel
theorem dX8_highest_26 : decode cX8_highest 26 = .ok (.aload_n 0, 1) := by decide +kernel
theorem dX8_highest_27 : decode cX8_highest 27 = .ok (.getfield 40, 3) := by decide +kernel
theorem dX8_highest_30 : decode cX8_highest 30 = .ok (.getfield 117, 3) := by decide +kernel
theorem dX8_highest_33 : decode cX8_highest 33 = .ok (.iload_n 1, 1) := by decide +kernel
theorem dX8_highest_34 : decode cX8_highest 34 = .ok (.invokestatic 236, 3) := by decide +kernel
theorem dX8_highest_37 : decode cX8_highest 37 = .ok (.istore_n 3, 1) := by decide +kernel
theorem dX8_highest_38 : decode cX8_highest 38 = .ok (.iload_n 2, 1) := by decide +kernel
theorem dX8_highest_39 : decode cX8_highest 39 = .ok (.iconst 4, 1) := by decide +kernel
theorem dX8_highest_40 : decode cX8_highest 40 = .ok (.if_icmp .ne 5, 3) := by decide +kernel
theorem dX8_highest_43 : decode cX8_highest 43 = .ok (.iload_n 3, 1) := by decide +kernel
theorem dX8_highest_44 : decode cX8_highest 44 = .ok (.ireturn, 1) := by decide +kernel
theorem dX8_highest_45 : decode cX8_highest 45 = .ok (.iload_n 2, 1) := by decide +kernel
theorem dX8_highest_46 : decode cX8_highest 46 = .ok (.iconst 2, 1) := by decide +kernel
theorem dX8_highest_47 : decode cX8_highest 47 = .ok (.if_icmp .ge 18, 3) := by decide +kernel
theorem dX8_highest_50 : decode cX8_highest 50 = .ok (.aload_n 0, 1) := by decide +kernel
theorem dX8_highest_51 : decode cX8_highest 51 = .ok (.getfield 47, 3) := by decide +kernel
theorem dX8_highest_54 : decode cX8_highest 54 = .ok (.aload_n 0, 1) := by decide +kernel
theorem dX8_highest_55 : decode cX8_highest 55 = .ok (.getfield 40, 3) := by decide +kernel
theorem dX8_highest_58 : decode cX8_highest 58 = .ok (.iload_n 3, 1) := by decide +kernel
theorem dX8_highest_59 : decode cX8_highest 59 = .ok (.invokevirtual 239, 3) := by decide +kernel
theorem dX8_highest_62 : decode cX8_highest 62 = .ok (.goto 15, 3) := by decide +kernel
theorem dX8_highest_65 : decode cX8_highest 65 = .ok (.aload_n 0, 1) := by decide +kernel
theorem dX8_highest_66 : decode cX8_highest 66 = .ok (.getfield 47, 3) := by decide +kernel
theorem dX8_highest_69 : decode cX8_highest 69 = .ok (.aload_n 0, 1) := by decide +kernel
theorem dX8_highest_70 : decode cX8_highest 70 = .ok (.getfield 40, 3) := by decide +kernel
theorem dX8_highest_73 : decode cX8_highest 73 = .ok (.iload_n 3, 1) := by decide +kernel
theorem dX8_highest_74 : decode cX8_highest 74 = .ok (.invokevirtual 243, 3) := by decide +kernel
theorem dX8_highest_77 : decode cX8_highest 77 = .ok (.istore 4, 2) := by decide +kernel
theorem dX8_highest_79 : decode cX8_highest 79 = .ok (.iconst 1, 1) := by decide +kernel
theorem dX8_highest_80 : decode cX8_highest 80 = .ok (.iload_n 3, 1) := by decide +kernel
theorem dX8_highest_81 : decode cX8_highest 81 = .ok (.invokestatic 246, 3) := by decide +kernel
theorem dX8_highest_84 : decode cX8_highest 84 = .ok (.istore 5, 2) := by decide +kernel
theorem dX8_highest_86 : decode cX8_highest 86 = .ok (.iconst 1, 1) := by decide +kernel
theorem dX8_highest_87 : decode cX8_highest 87 = .ok (.iload 4, 2) := by decide +kernel
theorem dX8_highest_89 : decode cX8_highest 89 = .ok (.iload 5, 2) := by decide +kernel
theorem dX8_highest_91 : decode cX8_highest 91 = .ok (.invokestatic 251, 3) := by decide +kernel
theorem dX8_highest_94 : decode cX8_highest 94 = .ok (.invokestatic 246, 3) := by decide +kernel
theorem dX8_highest_97 : decode cX8_highest 97 = .ok (.istore 6, 2) := by decide +kernel
theorem dX8_highest_99 : decode cX8_highest 99 = .ok (.iload_n 2, 1) := by decide +kernel
theorem dX8_highest_100 : decode cX8_highest 100 = .ok (.iconst 2, 1) := by decide +kernel
theorem dX8_highest_101 : decode cX8_highest 101 = .ok (.irem, 1) := by decide +kernel
theorem dX8_highest_102 : decode cX8_highest 102 = .ok (.ifCond .ne 11, 3) := by decide +kernel
theorem dX8_highest_105 : decode cX8_highest 105 = .ok (.iload 4, 2) := by decide +kernel
theorem dX8_highest_107 : decode cX8_highest 107 = .ok (.iload 6, 2) := by decide +kernel
theorem dX8_highest_109 : decode cX8_highest 109 = .ok (.idiv, 1) := by decide +kernel
theorem dX8_highest_110 : decode cX8_highest 110 = .ok (.goto 8, 3) := by decide +kernel
theorem dX8_highest_113 : decode cX8_highest 113 = .ok (.iload 5, 2) := by decide +kernel
theorem dX8_highest_115 : decode cX8_highest 115 = .ok (.iload 6, 2) := by decide +kernel
theorem dX8_highest_117 : decode cX8_highest 117 = .ok (.idiv, 1) := by decide +kernel
theorem dX8_highest_118 : decode cX8_highest 118 = .ok (.ireturn, 1) := by decide +kernel
theorem dX8_freak_0 : decode cX8_freak 0 = .ok (.aload_n 0, 1) := by decide +kernel
theorem dX8_freak_1 : decode cX8_freak 1 = .ok (.invokevirtual 113, 3) := by decide +kernel
theorem dX8_freak_4 : decode cX8_freak 4 = .ok (.iload_n 1, 1) := by decide +kernel
theorem dX8_freak_5 : decode cX8_freak 5 = .ok (.ifCond .lt 26, 3) := by decide +kernel
theorem dX8_freak_8 : decode cX8_freak 8 = .ok (.iload_n 1, 1) := by decide +kernel
theorem dX8_freak_9 : decode cX8_freak 9 = .ok (.aload_n 0, 1) := by decide +kernel
theorem dX8_freak_10 : decode cX8_freak 10 = .ok (.getfield 47, 3) := by decide +kernel
theorem dX8_freak_13 : decode cX8_freak 13 = .ok (.getfield 118, 3) := by decide +kernel
theorem dX8_freak_16 : decode cX8_freak 16 = .ok (.if_icmp .ge 15, 3) := by decide +kernel
theorem dX8_freak_19 : decode cX8_freak 19 = .ok (.aload_n 0, 1) := by decide +kernel
theorem dX8_freak_20 : decode cX8_freak 20 = .ok (.getfield 47, 3) := by decide +kernel
theorem dX8_freak_23 : decode cX8_freak 23 = .ok (.getfield 233, 3) := by decide +kernel
theorem dX8_freak_26 : decode cX8_freak 26 = .ok (.iload_n 1, 1) := by decide +kernel
theorem dX8_freak_27 : decode cX8_freak 27 = .ok (.iaload, 1) := by decide +kernel
theorem dX8_freak_28 : decode cX8_freak 28 = .ok (.goto 4, 3) := by decide +kernel
theorem dX8_freak_31 : decode cX8_freak 31 = .ok (.iconst (-1), 1) := by decide +kernel
theorem dX8_freak_32 : decode cX8_freak 32 = .ok (.ireturn, 1) := by decide +kernel
theorem dX8_group_0 : decode cX8_group 0 = .ok (.aload_n 0, 1) := by decide +kernel
theorem dX8_group_1 : decode cX8_group 1 = .ok (.invokevirtual 113, 3) := by decide +kernel
theorem dX8_group_4 : decode cX8_group 4 = .ok (.aload_n 0, 1) := by decide +kernel
theorem dX8_group_5 : decode cX8_group 5 = .ok (.getfield 54, 3) := by decide +kernel
theorem dX8_group_8 : decode cX8_group 8 = .ok (.iload_n 1, 1) := by decide +kernel
theorem dX8_group_9 : decode cX8_group 9 = .ok (.invokevirtual 254, 3) := by decide +kernel
theorem dX8_group_12 : decode cX8_group 12 = .ok (.ifCond .ne 5, 3) := by decide +kernel
theorem dX8_group_15 : decode cX8_group 15 = .ok (.iconst (-1), 1) := by decide +kernel
theorem dX8_group_16 : decode cX8_group 16 = .ok (.ireturn, 1) := by decide +kernel
theorem dX8_group_17 : decode cX8_group 17 = .ok (.aload_n 0, 1) := by decide +kernel
theorem dX8_group_18 : decode cX8_group 18 = .ok (.getfield 54, 3) := by decide +kernel
theorem dX8_group_21 : decode cX8_group 21 = .ok (.getfield 255, 3) := by decide +kernel
theorem dX8_group_24 : decode cX8_group 24 = .ok (.iload_n 1, 1) := by decide +kernel
theorem dX8_group_25 : decode cX8_group 25 = .ok (.iaload, 1) := by decide +kernel
theorem dX8_group_26 : decode cX8_group 26 = .ok (.istore_n 3, 1) := by decide +kernel
theorem dX8_group_27 : decode cX8_group 27 = .ok (.iload_n 3, 1) := by decide +kernel
theorem dX8_group_28 : decode cX8_group 28 = .ok (.aload_n 0, 1) := by decide +kernel
theorem dX8_group_29 : decode cX8_group 29 = .ok (.getfield 54, 3) := by decide +kernel
theorem dX8_group_32 : decode cX8_group 32 = .ok (.getfield 256, 3) := by decide +kernel
theorem dX8_group_35 : decode cX8_group 35 = .ok (.iload_n 1, 1) := by decide +kernel
theorem dX8_group_36 : decode cX8_group 36 = .ok (.iaload, 1) := by decide +kernel
theorem dX8_group_37 : decode cX8_group 37 = .ok (.iadd, 1) := by decide +kernel
theorem dX8_group_38 : decode cX8_group 38 = .ok (.istore 4, 2) := by decide +kernel
theorem dX8_group_40 : decode cX8_group 40 = .ok (.iload_n 2, 1) := by decide +kernel
theorem dX8_group_41 : decode cX8_group 41 = .ok (.tableswitch 100 0 4 #[35, 37, 47, 58, 89], 35) := by decide +kernel
theorem dX8_group_76 : decode cX8_group 76 = .ok (.iload_n 3, 1) := by decide +kernel
theorem dX8_group_77 : decode cX8_group 77 = .ok (.ireturn, 1) := by decide +kernel
theorem dX8_group_78 : decode cX8_group 78 = .ok (.aload_n 0, 1) := by decide +kernel
theorem dX8_group_79 : decode cX8_group 79 = .ok (.getfield 54, 3) := by decide +kernel
theorem dX8_group_82 : decode cX8_group 82 = .ok (.getfield 256, 3) := by decide +kernel
theorem dX8_group_85 : decode cX8_group 85 = .ok (.iload_n 1, 1) := by decide +kernel
theorem dX8_group_86 : decode cX8_group 86 = .ok (.iaload, 1) := by decide +kernel
theorem dX8_group_87 : decode cX8_group 87 = .ok (.ireturn, 1) := by decide +kernel
theorem dX8_group_88 : decode cX8_group 88 = .ok (.aload_n 0, 1) := by decide +kernel
theorem dX8_group_89 : decode cX8_group 89 = .ok (.getfield 47, 3) := by decide +kernel
theorem dX8_group_92 : decode cX8_group 92 = .ok (.iload_n 3, 1) := by decide +kernel
theorem dX8_group_93 : decode cX8_group 93 = .ok (.iload 4, 2) := by decide +kernel
theorem dX8_group_95 : decode cX8_group 95 = .ok (.invokevirtual 257, 3) := by decide +kernel
theorem dX8_group_98 : decode cX8_group 98 = .ok (.ireturn, 1) := by decide +kernel
theorem dX8_group_99 : decode cX8_group 99 = .ok (.aload_n 0, 1) := by decide +kernel
theorem dX8_group_100 : decode cX8_group 100 = .ok (.getfield 54, 3) := by decide +kernel
theorem dX8_group_103 : decode cX8_group 103 = .ok (.iload_n 1, 1) := by decide +kernel
theorem dX8_group_104 : decode cX8_group 104 = .ok (.iconst 1, 1) := by decide +kernel
theorem dX8_group_105 : decode cX8_group 105 = .ok (.iadd, 1) := by decide +kernel
theorem dX8_group_106 : decode cX8_group 106 = .ok (.invokevirtual 254, 3) := by decide +kernel
theorem dX8_group_109 : decode cX8_group 109 = .ok (.ifCond .eq 19, 3) := by decide +kernel
theorem dX8_group_112 : decode cX8_group 112 = .ok (.aload_n 0, 1) := by decide +kernel
theorem dX8_group_113 : decode cX8_group 113 = .ok (.getfield 54, 3) := by decide +kernel
theorem dX8_group_116 : decode cX8_group 116 = .ok (.getfield 255, 3) := by decide +kernel
theorem dX8_group_119 : decode cX8_group 119 = .ok (.iload_n 1, 1) := by decide +kernel
theorem dX8_group_120 : decode cX8_group 120 = .ok (.iconst 1, 1) := by decide +kernel
theorem dX8_group_121 : decode cX8_group 121 = .ok (.iadd, 1) := by decide +kernel
theorem dX8_group_122 : decode cX8_group 122 = .ok (.iaload, 1) := by decide +kernel
theorem dX8_group_123 : decode cX8_group 123 = .ok (.iload_n 3, 1) := by decide +kernel
theorem dX8_group_124 : decode cX8_group 124 = .ok (.isub, 1) := by decide +kernel
theorem dX8_group_125 : decode cX8_group 125 = .ok (.goto 4, 3) := by decide +kernel
theorem dX8_group_128 : decode cX8_group 128 = .ok (.iconst (-1), 1) := by decide +kernel
theorem dX8_group_129 : decode cX8_group 129 = .ok (.ireturn, 1) := by decide +kernel
theorem dX8_group_130 : decode cX8_group 130 = .ok (.aload_n 0, 1) := by decide +kernel
theorem dX8_group_131 : decode cX8_group 131 = .ok (.getfield 40, 3) := by decide +kernel
theorem dX8_group_134 : decode cX8_group 134 = .ok (.iload_n 3, 1) := by decide +kernel
theorem dX8_group_135 : decode cX8_group 135 = .ok (.iload 4, 2) := by decide +kernel
theorem dX8_group_137 : decode cX8_group 137 = .ok (.invokevirtual 149, 3) := by decide +kernel
theorem dX8_group_140 : decode cX8_group 140 = .ok (.ireturn, 1) := by decide +kernel
theorem dX8_group_141 : decode cX8_group 141 = .ok (.iconst (-1), 1) := by decide +kernel
theorem dX8_group_142 : decode cX8_group 142 = .ok (.ireturn, 1) := by decide +kernel
theorem dX8_energy_0 : decode cX8_energy 0 = .ok (.aload_n 0, 1) := by decide +kernel
theorem dX8_energy_1 : decode cX8_energy 1 = .ok (.invokevirtual 113, 3) := by decide +kernel
theorem dX8_energy_4 : decode cX8_energy 4 = .ok (.iload_n 1, 1) := by decide +kernel
theorem dX8_energy_5 : decode cX8_energy 5 = .ok (.iconst (-1), 1) := by decide +kernel
theorem dX8_energy_6 : decode cX8_energy 6 = .ok (.if_icmp .ne 19, 3) := by decide +kernel
theorem dX8_energy_9 : decode cX8_energy 9 = .ok (.aload_n 0, 1) := by decide +kernel
theorem dX8_energy_10 : decode cX8_energy 10 = .ok (.getfield 40, 3) := by decide +kernel
theorem dX8_energy_13 : decode cX8_energy 13 = .ok (.iconst 0, 1) := by decide +kernel
theorem dX8_energy_14 : decode cX8_energy 14 = .ok (.aload_n 0, 1) := by decide +kernel
theorem dX8_energy_15 : decode cX8_energy 15 = .ok (.getfield 40, 3) := by decide +kernel
theorem dX8_energy_18 : decode cX8_energy 18 = .ok (.getfield 117, 3) := by decide +kernel
theorem dX8_energy_21 : decode cX8_energy 21 = .ok (.invokevirtual 260, 3) := by decide +kernel
theorem dX8_energy_24 : decode cX8_energy 24 = .ok (.lreturn, 1) := by decide +kernel
theorem dX8_energy_25 : decode cX8_energy 25 = .ok (.aload_n 0, 1) := by decide +kernel
theorem dX8_energy_26 : decode cX8_energy 26 = .ok (.getfield 54, 3) := by decide +kernel
theorem dX8_energy_29 : decode cX8_energy 29 = .ok (.iload_n 1, 1) := by decide +kernel
theorem dX8_energy_30 : decode cX8_energy 30 = .ok (.invokevirtual 254, 3) := by decide +kernel
theorem dX8_energy_33 : decode cX8_energy 33 = .ok (.ifCond .ne 7, 3) := by decide +kernel
theorem dX8_energy_36 : decode cX8_energy 36 = .ok (.ldc2_w 264, 3) := by decide +kernel
theorem dX8_energy_39 : decode cX8_energy 39 = .ok (.lreturn, 1) := by decide +kernel
theorem dX8_energy_40 : decode cX8_energy 40 = .ok (.aload_n 0, 1) := by decide +kernel
theorem dX8_energy_41 : decode cX8_energy 41 = .ok (.getfield 54, 3) := by decide +kernel
theorem dX8_energy_44 : decode cX8_energy 44 = .ok (.getfield 255, 3) := by decide +kernel
theorem dX8_energy_47 : decode cX8_energy 47 = .ok (.iload_n 1, 1) := by decide +kernel
theorem dX8_energy_48 : decode cX8_energy 48 = .ok (.iaload, 1) := by decide +kernel
theorem dX8_energy_49 : decode cX8_energy 49 = .ok (.istore_n 2, 1) := by decide +kernel
theorem dX8_energy_50 : decode cX8_energy 50 = .ok (.aload_n 0, 1) := by decide +kernel
theorem dX8_energy_51 : decode cX8_energy 51 = .ok (.getfield 40, 3) := by decide +kernel
theorem dX8_energy_54 : decode cX8_energy 54 = .ok (.iload_n 2, 1) := by decide +kernel
theorem dX8_energy_55 : decode cX8_energy 55 = .ok (.iload_n 2, 1) := by decide +kernel
theorem dX8_energy_56 : decode cX8_energy 56 = .ok (.aload_n 0, 1) := by decide +kernel
theorem dX8_energy_57 : decode cX8_energy 57 = .ok (.getfield 54, 3) := by decide +kernel
theorem dX8_energy_60 : decode cX8_energy 60 = .ok (.getfield 256, 3) := by decide +kernel
theorem dX8_energy_63 : decode cX8_energy 63 = .ok (.iload_n 1, 1) := by decide +kernel
theorem dX8_energy_64 : decode cX8_energy 64 = .ok (.iaload, 1) := by decide +kernel
theorem dX8_energy_65 : decode cX8_energy 65 = .ok (.iadd, 1) := by decide +kernel
theorem dX8_energy_66 : decode cX8_energy 66 = .ok (.invokevirtual 260, 3) := by decide +kernel
theorem dX8_energy_69 : decode cX8_energy 69 = .ok (.lreturn, 1) := by decide +kernel
theorem dX8_name_0 : decode cX8_name 0 = .ok (.aload_n 0, 1) := by decide +kernel
theorem dX8_name_1 : decode cX8_name 1 = .ok (.invokevirtual 113, 3) := by decide +kernel
theorem dX8_name_4 : decode cX8_name 4 = .ok (.aload_n 0, 1) := by decide +kernel
theorem dX8_name_5 : decode cX8_name 5 = .ok (.getfield 40, 3) := by decide +kernel
theorem dX8_name_8 : decode cX8_name 8 = .ok (.iload_n 1, 1) := by decide +kernel
theorem dX8_name_9 : decode cX8_name 9 = .ok (.invokevirtual 204, 3) := by decide +kernel
theorem dX8_name_12 : decode cX8_name 12 = .ok (.ifCond .eq 15, 3) := by decide +kernel
theorem dX8_name_15 : decode cX8_name 15 = .ok (.iload_n 2, 1) := by decide +kernel
theorem dX8_name_16 : decode cX8_name 16 = .ok (.iconst 1, 1) := by decide +kernel
theorem dX8_name_17 : decode cX8_name 17 = .ok (.if_icmp .lt 10, 3) := by decide +kernel
theorem dX8_name_20 : decode cX8_name 20 = .ok (.iload_n 2, 1) := by decide +kernel
theorem dX8_name_21 : decode cX8_name 21 = .ok (.sipush 999, 3) := by decide +kernel
theorem dX8_name_24 : decode cX8_name 24 = .ok (.if_icmp .le 5, 3) := by decide +kernel
theorem dX8_name_27 : decode cX8_name 27 = .ok (.iconst 0, 1) := by decide +kernel
theorem dX8_name_28 : decode cX8_name 28 = .ok (.ireturn, 1) := by decide +kernel
theorem dX8_name_29 : decode cX8_name 29 = .ok (.aload_n 0, 1) := by decide +kernel
theorem dX8_name_30 : decode cX8_name 30 = .ok (.getfield 40, 3) := by decide +kernel
theorem dX8_name_33 : decode cX8_name 33 = .ok (.getfield 215, 3) := by decide +kernel
theorem dX8_name_36 : decode cX8_name 36 = .ok (.iload_n 1, 1) := by decide +kernel
theorem dX8_name_37 : decode cX8_name 37 = .ok (.iaload, 1) := by decide +kernel
theorem dX8_name_38 : decode cX8_name 38 = .ok (.istore_n 3, 1) := by decide +kernel
theorem dX8_name_39 : decode cX8_name 39 = .ok (.aload_n 0, 1) := by decide +kernel
theorem dX8_name_40 : decode cX8_name 40 = .ok (.getfield 26, 3) := by decide +kernel
theorem dX8_name_43 : decode cX8_name 43 = .ok (.iload_n 3, 1) := by decide +kernel
theorem dX8_name_44 : decode cX8_name 44 = .ok (.invokevirtual 169, 3) := by decide +kernel
theorem dX8_name_47 : decode cX8_name 47 = .ok (.iconst (-1), 1) := by decide +kernel
theorem dX8_name_48 : decode cX8_name 48 = .ok (.if_icmp .ne 15, 3) := by decide +kernel
theorem dX8_name_51 : decode cX8_name 51 = .ok (.aload_n 0, 1) := by decide +kernel
theorem dX8_name_52 : decode cX8_name 52 = .ok (.getfield 26, 3) := by decide +kernel
theorem dX8_name_55 : decode cX8_name 55 = .ok (.iload_n 2, 1) := by decide +kernel
theorem dX8_name_56 : decode cX8_name 56 = .ok (.invokevirtual 266, 3) := by decide +kernel
theorem dX8_name_59 : decode cX8_name 59 = .ok (.iconst (-1), 1) := by decide +kernel
theorem dX8_name_60 : decode cX8_name 60 = .ok (.if_icmp .eq 5, 3) := by decide +kernel
theorem dX8_name_63 : decode cX8_name 63 = .ok (.iconst 0, 1) := by decide +kernel
theorem dX8_name_64 : decode cX8_name 64 = .ok (.ireturn, 1) := by decide +kernel
theorem dX8_name_65 : decode cX8_name 65 = .ok (.aload_n 0, 1) := by decide +kernel
theorem dX8_name_66 : decode cX8_name 66 = .ok (.getfield 26, 3) := by decide +kernel
theorem dX8_name_69 : decode cX8_name 69 = .ok (.invokevirtual 122, 3) := by decide +kernel
theorem dX8_name_72 : decode cX8_name 72 = .ok (.bipush 20, 2) := by decide +kernel
theorem dX8_name_74 : decode cX8_name 74 = .ok (.if_icmp .lt 5, 3) := by decide +kernel
theorem dX8_name_77 : decode cX8_name 77 = .ok (.iconst 0, 1) := by decide +kernel
theorem dX8_name_78 : decode cX8_name 78 = .ok (.ireturn, 1) := by decide +kernel
theorem dX8_name_79 : decode cX8_name 79 = .ok (.aload_n 0, 1) := by decide +kernel
theorem dX8_name_80 : decode cX8_name 80 = .ok (.getfield 26, 3) := by decide +kernel
theorem dX8_name_83 : decode cX8_name 83 = .ok (.getfield 269, 3) := by decide +kernel
theorem dX8_name_86 : decode cX8_name 86 = .ok (.iload_n 3, 1) := by decide +kernel
theorem dX8_name_87 : decode cX8_name 87 = .ok (.iload_n 2, 1) := by decide +kernel
theorem dX8_name_88 : decode cX8_name 88 = .ok (.iastore, 1) := by decide +kernel
theorem dX8_name_89 : decode cX8_name 89 = .ok (.iconst 1, 1) := by decide +kernel
theorem dX8_name_90 : decode cX8_name 90 = .ok (.ireturn, 1) := by decide +kernel
theorem dX8_unname_0 : decode cX8_unname 0 = .ok (.aload_n 0, 1) := by decide +kernel
theorem dX8_unname_1 : decode cX8_unname 1 = .ok (.getfield 26, 3) := by decide +kernel
theorem dX8_unname_4 : decode cX8_unname 4 = .ok (.iload_n 1, 1) := by decide +kernel
theorem dX8_unname_5 : decode cX8_unname 5 = .ok (.invokevirtual 266, 3) := by decide +kernel
theorem dX8_unname_8 : decode cX8_unname 8 = .ok (.istore_n 2, 1) := by decide +kernel
theorem dX8_unname_9 : decode cX8_unname 9 = .ok (.iload_n 2, 1) := by decide +kernel
theorem dX8_unname_10 : decode cX8_unname 10 = .ok (.iconst (-1), 1) := by decide +kernel
theorem dX8_unname_11 : decode cX8_unname 11 = .ok (.if_icmp .eq 13, 3) := by decide +kernel
theorem dX8_unname_14 : decode cX8_unname 14 = .ok (.aload_n 0, 1) := by decide +kernel
theorem dX8_unname_15 : decode cX8_unname 15 = .ok (.getfield 26, 3) := by decide +kernel
theorem dX8_unname_18 : decode cX8_unname 18 = .ok (.getfield 269, 3) := by decide +kernel
theorem dX8_unname_21 : decode cX8_unname 21 = .ok (.iload_n 2, 1) := by decide +kernel
theorem dX8_unname_22 : decode cX8_unname 22 = .ok (.iconst 0, 1) := by decide +kernel
theorem dX8_unname_23 : decode cX8_unname 23 = .ok (.iastore, 1) := by decide +kernel
theorem dX8_unname_24 : decode cX8_unname 24 = .ok (.iload_n 2, 1) := by decide +kernel
theorem dX8_unname_25 : decode cX8_unname 25 = .ok (.ireturn, 1) := by decide +kernel
theorem dX8_named_0 : decode cX8_named 0 = .ok (.aload_n 0, 1) := by decide +kernel
theorem dX8_named_1 : decode cX8_named 1 = .ok (.invokevirtual 113, 3) := by decide +kernel
theorem dX8_named_4 : decode cX8_named 4 = .ok (.aload_n 0, 1) := by decide +kernel
theorem dX8_named_5 : decode cX8_named 5 = .ok (.getfield 26, 3) := by decide +kernel
theorem dX8_named_8 : decode cX8_named 8 = .ok (.iload_n 1, 1) := by decide +kernel
theorem dX8_named_9 : decode cX8_named 9 = .ok (.invokevirtual 266, 3) := by decide +kernel
theorem dX8_named_12 : decode cX8_named 12 = .ok (.istore_n 2, 1) := by decide +kernel
theorem dX8_named_13 : decode cX8_named 13 = .ok (.iload_n 2, 1) := by decide +kernel
theorem dX8_named_14 : decode cX8_named 14 = .ok (.iconst (-1), 1) := by decide +kernel
theorem dX8_named_15 : decode cX8_named 15 = .ok (.if_icmp .ne 7, 3) := by decide +kernel
theorem dX8_named_18 : decode cX8_named 18 = .ok (.iconst (-1), 1) := by decide +kernel
theorem dX8_named_19 : decode cX8_named 19 = .ok (.goto 12, 3) := by decide +kernel
theorem dX8_named_22 : decode cX8_named 22 = .ok (.aload_n 0, 1) := by decide +kernel
theorem dX8_named_23 : decode cX8_named 23 = .ok (.getfield 40, 3) := by decide +kernel
theorem dX8_named_26 : decode cX8_named 26 = .ok (.getfield 166, 3) := by decide +kernel
theorem dX8_named_29 : decode cX8_named 29 = .ok (.iload_n 2, 1) := by decide +kernel
theorem dX8_named_30 : decode cX8_named 30 = .ok (.iaload, 1) := by decide +kernel
theorem dX8_named_31 : decode cX8_named 31 = .ok (.ireturn, 1) := by decide +kernel
theorem dX8_would_0 : decode cX8_would 0 = .ok (.iload_n 1, 1) := by decide +kernel
theorem dX8_would_1 : decode cX8_would 1 = .ok (.ifCond .lt 10, 3) := by decide +kernel
theorem dX8_would_4 : decode cX8_would 4 = .ok (.iload_n 1, 1) := by decide +kernel
theorem dX8_would_5 : decode cX8_would 5 = .ok (.sipush 500, 3) := by decide +kernel
theorem dX8_would_8 : decode cX8_would 8 = .ok (.if_icmp .le 5, 3) := by decide +kernel
theorem dX8_would_11 : decode cX8_would 11 = .ok (.iconst (-1), 1) := by decide +kernel
theorem dX8_would_12 : decode cX8_would 12 = .ok (.ireturn, 1) := by decide +kernel
theorem dX8_would_13 : decode cX8_would 13 = .ok (.aload_n 0, 1) := by decide +kernel
theorem dX8_would_14 : decode cX8_would 14 = .ok (.invokevirtual 113, 3) := by decide +kernel
theorem dX8_would_17 : decode cX8_would 17 = .ok (.aload_n 0, 1) := by decide +kernel
theorem dX8_would_18 : decode cX8_would 18 = .ok (.getfield 33, 3) := by decide +kernel
theorem dX8_would_21 : decode cX8_would 21 = .ok (.iload_n 1, 1) := by decide +kernel
theorem dX8_would_22 : decode cX8_would 22 = .ok (.invokevirtual 272, 3) := by decide +kernel
theorem dX8_would_25 : decode cX8_would 25 = .ok (.ireturn, 1) := by decide +kernel
theorem dX8_quiet_0 : decode cX8_quiet 0 = .ok (.iload_n 1, 1) := by decide +kernel
theorem dX8_quiet_1 : decode cX8_quiet 1 = .ok (.ifCond .ge 5, 3) := by decide +kernel
theorem dX8_quiet_4 : decode cX8_quiet 4 = .ok (.iconst (-1), 1) := by decide +kernel
theorem dX8_quiet_5 : decode cX8_quiet 5 = .ok (.ireturn, 1) := by decide +kernel
theorem dX8_quiet_6 : decode cX8_quiet 6 = .ok (.aload_n 0, 1) := by decide +kernel
theorem dX8_quiet_7 : decode cX8_quiet 7 = .ok (.invokevirtual 113, 3) := by decide +kernel
theorem dX8_quiet_10 : decode cX8_quiet 10 = .ok (.iconst 0, 1) := by decide +kernel
theorem dX8_quiet_11 : decode cX8_quiet 11 = .ok (.istore_n 2, 1) := by decide +kernel
theorem dX8_quiet_12 : decode cX8_quiet 12 = .ok (.sipush 501, 3) := by decide +kernel
theorem dX8_quiet_15 : decode cX8_quiet 15 = .ok (.istore_n 3, 1) := by decide +kernel
theorem dX8_quiet_16 : decode cX8_quiet 16 = .ok (.iconst 0, 1) := by decide +kernel
theorem dX8_quiet_17 : decode cX8_quiet 17 = .ok (.istore 4, 2) := by decide +kernel
theorem dX8_quiet_19 : decode cX8_quiet 19 = .ok (.iload 4, 2) := by decide +kernel
theorem dX8_quiet_21 : decode cX8_quiet 21 = .ok (.sipush 500, 3) := by decide +kernel
theorem dX8_quiet_24 : decode cX8_quiet 24 = .ok (.if_icmp .gt 45, 3) := by decide +kernel
theorem dX8_quiet_27 : decode cX8_quiet 27 = .ok (.iload_n 2, 1) := by decide +kernel
theorem dX8_quiet_28 : decode cX8_quiet 28 = .ok (.iload_n 3, 1) := by decide +kernel
theorem dX8_quiet_29 : decode cX8_quiet 29 = .ok (.if_icmp .ge 40, 3) := by decide +kernel
theorem dX8_quiet_32 : decode cX8_quiet 32 = .ok (.iload_n 2, 1) := by decide +kernel
theorem dX8_quiet_33 : decode cX8_quiet 33 = .ok (.iload_n 3, 1) := by decide +kernel
theorem dX8_quiet_34 : decode cX8_quiet 34 = .ok (.iadd, 1) := by decide +kernel
theorem dX8_quiet_35 : decode cX8_quiet 35 = .ok (.iconst 2, 1) := by decide +kernel
theorem dX8_quiet_36 : decode cX8_quiet 36 = .ok (.idiv, 1) := by decide +kernel
theorem dX8_quiet_37 : decode cX8_quiet 37 = .ok (.istore 5, 2) := by decide +kernel
theorem dX8_quiet_39 : decode cX8_quiet 39 = .ok (.aload_n 0, 1) := by decide +kernel
theorem dX8_quiet_40 : decode cX8_quiet 40 = .ok (.getfield 33, 3) := by decide +kernel
theorem dX8_quiet_43 : decode cX8_quiet 43 = .ok (.iload 5, 2) := by decide +kernel
theorem dX8_quiet_45 : decode cX8_quiet 45 = .ok (.invokevirtual 272, 3) := by decide +kernel
theorem dX8_quiet_48 : decode cX8_quiet 48 = .ok (.iload_n 1, 1) := by decide +kernel
theorem dX8_quiet_49 : decode cX8_quiet 49 = .ok (.if_icmp .gt 9, 3) := by decide +kernel
theorem dX8_quiet_52 : decode cX8_quiet 52 = .ok (.iload 5, 2) := by decide +kernel
theorem dX8_quiet_54 : decode cX8_quiet 54 = .ok (.istore_n 3, 1) := by decide +kernel
theorem dX8_quiet_55 : decode cX8_quiet 55 = .ok (.goto 8, 3) := by decide +kernel
theorem dX8_quiet_58 : decode cX8_quiet 58 = .ok (.iload 5, 2) := by decide +kernel
theorem dX8_quiet_60 : decode cX8_quiet 60 = .ok (.iconst 1, 1) := by decide +kernel
theorem dX8_quiet_61 : decode cX8_quiet 61 = .ok (.iadd, 1) := by decide +kernel
theorem dX8_quiet_62 : decode cX8_quiet 62 = .ok (.istore_n 2, 1) := by decide +kernel
theorem dX8_quiet_63 : decode cX8_quiet 63 = .ok (.iinc 4 1, 3) := by decide +kernel
theorem dX8_quiet_66 : decode cX8_quiet 66 = .ok (.goto (-47), 3) := by decide +kernel
theorem dX8_quiet_69 : decode cX8_quiet 69 = .ok (.iload_n 2, 1) := by decide +kernel
theorem dX8_quiet_70 : decode cX8_quiet 70 = .ok (.sipush 500, 3) := by decide +kernel
theorem dX8_quiet_73 : decode cX8_quiet 73 = .ok (.if_icmp .le 7, 3) := by decide +kernel
theorem dX8_quiet_76 : decode cX8_quiet 76 = .ok (.iconst (-1), 1) := by decide +kernel
theorem dX8_quiet_77 : decode cX8_quiet 77 = .ok (.goto 4, 3) := by decide +kernel
theorem dX8_quiet_80 : decode cX8_quiet 80 = .ok (.iload_n 2, 1) := by decide +kernel
theorem dX8_quiet_81 : decode cX8_quiet 81 = .ok (.ireturn, 1) := by decide +kernel
theorem dX8_gone_0 : decode cX8_gone 0 = .ok (.aload_n 0, 1) := by decide +kernel
theorem dX8_gone_1 : decode cX8_gone 1 = .ok (.invokevirtual 113, 3) := by decide +kernel
theorem dX8_gone_4 : decode cX8_gone 4 = .ok (.aload_n 0, 1) := by decide +kernel
theorem dX8_gone_5 : decode cX8_gone 5 = .ok (.getfield 40, 3) := by decide +kernel
theorem dX8_gone_8 : decode cX8_gone 8 = .ok (.iload_n 1, 1) := by decide +kernel
theorem dX8_gone_9 : decode cX8_gone 9 = .ok (.invokevirtual 204, 3) := by decide +kernel
theorem dX8_gone_12 : decode cX8_gone 12 = .ok (.ifCond .ne 5, 3) := by decide +kernel
theorem dX8_gone_15 : decode cX8_gone 15 = .ok (.iconst (-1), 1) := by decide +kernel
theorem dX8_gone_16 : decode cX8_gone 16 = .ok (.ireturn, 1) := by decide +kernel
theorem dX8_gone_17 : decode cX8_gone 17 = .ok (.iconst 0, 1) := by decide +kernel
theorem dX8_gone_18 : decode cX8_gone 18 = .ok (.istore_n 2, 1) := by decide +kernel
theorem dX8_gone_19 : decode cX8_gone 19 = .ok (.iconst 0, 1) := by decide +kernel
theorem dX8_gone_20 : decode cX8_gone 20 = .ok (.istore_n 3, 1) := by decide +kernel
theorem dX8_gone_21 : decode cX8_gone 21 = .ok (.iload_n 3, 1) := by decide +kernel
theorem dX8_gone_22 : decode cX8_gone 22 = .ok (.sipush 500, 3) := by decide +kernel
theorem dX8_gone_25 : decode cX8_gone 25 = .ok (.if_icmp .gt 63, 3) := by decide +kernel
theorem dX8_gone_28 : decode cX8_gone 28 = .ok (.iload_n 2, 1) := by decide +kernel
theorem dX8_gone_29 : decode cX8_gone 29 = .ok (.sipush 500, 3) := by decide +kernel
theorem dX8_gone_32 : decode cX8_gone 32 = .ok (.if_icmp .gt 56, 3) := by decide +kernel
theorem dX8_gone_35 : decode cX8_gone 35 = .ok (.aload_n 0, 1) := by decide +kernel
theorem dX8_gone_36 : decode cX8_gone 36 = .ok (.getfield 33, 3) := by decide +kernel
theorem dX8_gone_39 : decode cX8_gone 39 = .ok (.aload_n 0, 1) := by decide +kernel
theorem dX8_gone_40 : decode cX8_gone 40 = .ok (.getfield 40, 3) := by decide +kernel
theorem dX8_gone_43 : decode cX8_gone 43 = .ok (.getfield 218, 3) := by decide +kernel
theorem dX8_gone_46 : decode cX8_gone 46 = .ok (.iload_n 1, 1) := by decide +kernel
theorem dX8_gone_47 : decode cX8_gone 47 = .ok (.iaload, 1) := by decide +kernel
theorem dX8_gone_48 : decode cX8_gone 48 = .ok (.aload_n 0, 1) := by decide +kernel
theorem dX8_gone_49 : decode cX8_gone 49 = .ok (.getfield 40, 3) := by decide +kernel
theorem dX8_gone_52 : decode cX8_gone 52 = .ok (.getfield 205, 3) := by decide +kernel
theorem dX8_gone_55 : decode cX8_gone 55 = .ok (.iload_n 1, 1) := by decide +kernel
theorem dX8_gone_56 : decode cX8_gone 56 = .ok (.iaload, 1) := by decide +kernel
theorem dX8_gone_57 : decode cX8_gone 57 = .ok (.aload_n 0, 1) := by decide +kernel
theorem dX8_gone_58 : decode cX8_gone 58 = .ok (.getfield 40, 3) := by decide +kernel
theorem dX8_gone_61 : decode cX8_gone 61 = .ok (.iload_n 1, 1) := by decide +kernel
theorem dX8_gone_62 : decode cX8_gone 62 = .ok (.invokevirtual 229, 3) := by decide +kernel
theorem dX8_gone_65 : decode cX8_gone 65 = .ok (.iload_n 2, 1) := by decide +kernel
theorem dX8_gone_66 : decode cX8_gone 66 = .ok (.invokevirtual 275, 3) := by decide +kernel
theorem dX8_gone_69 : decode cX8_gone 69 = .ok (.istore 4, 2) := by decide +kernel
theorem dX8_gone_71 : decode cX8_gone 71 = .ok (.iload 4, 2) := by decide +kernel
theorem dX8_gone_73 : decode cX8_gone 73 = .ok (.iload_n 2, 1) := by decide +kernel
theorem dX8_gone_74 : decode cX8_gone 74 = .ok (.if_icmp .ne 5, 3) := by decide +kernel
theorem dX8_gone_77 : decode cX8_gone 77 = .ok (.iload_n 2, 1) := by decide +kernel
theorem dX8_gone_78 : decode cX8_gone 78 = .ok (.ireturn, 1) := by decide +kernel
theorem dX8_gone_79 : decode cX8_gone 79 = .ok (.iload 4, 2) := by decide +kernel
theorem dX8_gone_81 : decode cX8_gone 81 = .ok (.istore_n 2, 1) := by decide +kernel
theorem dX8_gone_82 : decode cX8_gone 82 = .ok (.iinc 3 1, 3) := by decide +kernel
theorem dX8_gone_85 : decode cX8_gone 85 = .ok (.goto (-64), 3) := by decide +kernel
theorem dX8_gone_88 : decode cX8_gone 88 = .ok (.iconst (-1), 1) := by decide +kernel
theorem dX8_gone_89 : decode cX8_gone 89 = .ok (.ireturn, 1) := by decide +kernel
theorem dX8_changed_0 : decode cX8_changed 0 = .ok (.iload_n 1, 1) := by decide +kernel
theorem dX8_changed_1 : decode cX8_changed 1 = .ok (.ifCond .eq 8, 3) := by decide +kernel
theorem dX8_changed_4 : decode cX8_changed 4 = .ok (.aload_n 0, 1) := by decide +kernel
theorem dX8_changed_5 : decode cX8_changed 5 = .ok (.iconst 1, 1) := by decide +kernel
theorem dX8_changed_6 : decode cX8_changed 6 = .ok (.putfield 65, 3) := by decide +kernel
theorem dX8_changed_9 : decode cX8_changed 9 = .ok (.iload_n 1, 1) := by decide +kernel
theorem dX8_changed_10 : decode cX8_changed 10 = .ok (.ireturn, 1) := by decide +kernel
theorem dX8_refresh_0 : decode cX8_refresh 0 = .ok (.aload_n 0, 1) := by decide +kernel
theorem dX8_refresh_1 : decode cX8_refresh 1 = .ok (.getfield 65, 3) := by decide +kernel
theorem dX8_refresh_4 : decode cX8_refresh 4 = .ok (.ifCond .ne 4, 3) := by decide +kernel
theorem dX8_refresh_7 : decode cX8_refresh 7 = .ok (.return_, 1) := by decide +kernel
theorem dX8_refresh_8 : decode cX8_refresh 8 = .ok (.aload_n 0, 1) := by decide +kernel
theorem dX8_refresh_9 : decode cX8_refresh 9 = .ok (.iconst 0, 1) := by decide +kernel
theorem dX8_refresh_10 : decode cX8_refresh 10 = .ok (.putfield 65, 3) := by decide +kernel
theorem dX8_refresh_13 : decode cX8_refresh 13 = .ok (.aload_n 0, 1) := by decide +kernel
theorem dX8_refresh_14 : decode cX8_refresh 14 = .ok (.getfield 33, 3) := by decide +kernel
theorem dX8_refresh_17 : decode cX8_refresh 17 = .ok (.aload_n 0, 1) := by decide +kernel
theorem dX8_refresh_18 : decode cX8_refresh 18 = .ok (.getfield 26, 3) := by decide +kernel
theorem dX8_refresh_21 : decode cX8_refresh 21 = .ok (.aload_n 0, 1) := by decide +kernel
theorem dX8_refresh_22 : decode cX8_refresh 22 = .ok (.getfield 10, 3) := by decide +kernel
theorem dX8_refresh_25 : decode cX8_refresh 25 = .ok (.invokevirtual 125, 3) := by decide +kernel
theorem dX8_refresh_28 : decode cX8_refresh 28 = .ok (.invokevirtual 279, 3) := by decide +kernel
theorem dX8_refresh_31 : decode cX8_refresh 31 = .ok (.aload_n 0, 1) := by decide +kernel
theorem dX8_refresh_32 : decode cX8_refresh 32 = .ok (.getfield 33, 3) := by decide +kernel
theorem dX8_refresh_35 : decode cX8_refresh 35 = .ok (.aload_n 0, 1) := by decide +kernel
theorem dX8_refresh_36 : decode cX8_refresh 36 = .ok (.getfield 26, 3) := by decide +kernel
theorem dX8_refresh_39 : decode cX8_refresh 39 = .ok (.getfield 81, 3) := by decide +kernel
theorem dX8_refresh_42 : decode cX8_refresh 42 = .ok (.invokevirtual 283, 3) := by decide +kernel
theorem dX8_refresh_45 : decode cX8_refresh 45 = .ok (.aload_n 0, 1) := by decide +kernel
theorem dX8_refresh_46 : decode cX8_refresh 46 = .ok (.getfield 33, 3) := by decide +kernel
theorem dX8_refresh_49 : decode cX8_refresh 49 = .ok (.aload_n 0, 1) := by decide +kernel
theorem dX8_refresh_50 : decode cX8_refresh 50 = .ok (.getfield 19, 3) := by decide +kernel
theorem dX8_refresh_53 : decode cX8_refresh 53 = .ok (.invokevirtual 286, 3) := by decide +kernel
theorem dX8_refresh_56 : decode cX8_refresh 56 = .ok (.aload_n 0, 1) := by decide +kernel
theorem dX8_refresh_57 : decode cX8_refresh 57 = .ok (.getfield 33, 3) := by decide +kernel
theorem dX8_refresh_60 : decode cX8_refresh 60 = .ok (.aload_n 0, 1) := by decide +kernel
theorem dX8_refresh_61 : decode cX8_refresh 61 = .ok (.getfield 10, 3) := by decide +kernel
theorem dX8_refresh_64 : decode cX8_refresh 64 = .ok (.aload_n 0, 1) := by decide +kernel
theorem dX8_refresh_65 : decode cX8_refresh 65 = .ok (.getfield 61, 3) := by decide +kernel
theorem dX8_refresh_68 : decode cX8_refresh 68 = .ok (.invokevirtual 290, 3) := by decide +kernel
theorem dX8_refresh_71 : decode cX8_refresh 71 = .ok (.aload_n 0, 1) := by decide +kernel
theorem dX8_refresh_72 : decode cX8_refresh 72 = .ok (.getfield 40, 3) := by decide +kernel
theorem dX8_refresh_75 : decode cX8_refresh 75 = .ok (.aload_n 0, 1) := by decide +kernel
theorem dX8_refresh_76 : decode cX8_refresh 76 = .ok (.getfield 33, 3) := by decide +kernel
theorem dX8_refresh_79 : decode cX8_refresh 79 = .ok (.aload_n 0, 1) := by decide +kernel
theorem dX8_refresh_80 : decode cX8_refresh 80 = .ok (.getfield 26, 3) := by decide +kernel
theorem dX8_refresh_83 : decode cX8_refresh 83 = .ok (.getfield 81, 3) := by decide +kernel
theorem dX8_refresh_86 : decode cX8_refresh 86 = .ok (.aload_n 0, 1) := by decide +kernel
theorem dX8_refresh_87 : decode cX8_refresh 87 = .ok (.getfield 10, 3) := by decide +kernel
theorem dX8_refresh_90 : decode cX8_refresh 90 = .ok (.invokevirtual 128, 3) := by decide +kernel
theorem dX8_refresh_93 : decode cX8_refresh 93 = .ok (.invokevirtual 294, 3) := by decide +kernel
theorem dX8_refresh_96 : decode cX8_refresh 96 = .ok (.aload_n 0, 1) := by decide +kernel
theorem dX8_refresh_97 : decode cX8_refresh 97 = .ok (.getfield 47, 3) := by decide +kernel
theorem dX8_refresh_100 : decode cX8_refresh 100 = .ok (.aload_n 0, 1) := by decide +kernel
theorem dX8_refresh_101 : decode cX8_refresh 101 = .ok (.getfield 40, 3) := by decide +kernel
theorem dX8_refresh_104 : decode cX8_refresh 104 = .ok (.aload_n 0, 1) := by decide +kernel
theorem dX8_refresh_105 : decode cX8_refresh 105 = .ok (.getfield 61, 3) := by decide +kernel
theorem dX8_refresh_108 : decode cX8_refresh 108 = .ok (.invokevirtual 298, 3) := by decide +kernel
theorem dX8_refresh_111 : decode cX8_refresh 111 = .ok (.aload_n 0, 1) := by decide +kernel
theorem dX8_refresh_112 : decode cX8_refresh 112 = .ok (.getfield 47, 3) := by decide +kernel
theorem dX8_refresh_115 : decode cX8_refresh 115 = .ok (.aload_n 0, 1) := by decide +kernel
theorem dX8_refresh_116 : decode cX8_refresh 116 = .ok (.getfield 40, 3) := by decide +kernel
theorem dX8_refresh_119 : decode cX8_refresh 119 = .ok (.aload_n 0, 1) := by decide +kernel
theorem dX8_refresh_120 : decode cX8_refresh 120 = .ok (.getfield 10, 3) := by decide +kernel
theorem dX8_refresh_123 : decode cX8_refresh 123 = .ok (.invokevirtual 302, 3) := by decide +kernel
theorem dX8_refresh_126 : decode cX8_refresh 126 = .ok (.aload_n 0, 1) := by decide +kernel
theorem dX8_refresh_127 : decode cX8_refresh 127 = .ok (.getfield 54, 3) := by decide +kernel
theorem dX8_refresh_130 : decode cX8_refresh 130 = .ok (.aload_n 0, 1) := by decide +kernel
theorem dX8_refresh_131 : decode cX8_refresh 131 = .ok (.getfield 40, 3) := by decide +kernel
theorem dX8_refresh_134 : decode cX8_refresh 134 = .ok (.aload_n 0, 1) := by decide +kernel
theorem dX8_refresh_135 : decode cX8_refresh 135 = .ok (.getfield 47, 3) := by decide +kernel
theorem dX8_refresh_138 : decode cX8_refresh 138 = .ok (.aload_n 0, 1) := by decide +kernel
theorem dX8_refresh_139 : decode cX8_refresh 139 = .ok (.getfield 10, 3) := by decide +kernel
theorem dX8_refresh_142 : decode cX8_refresh 142 = .ok (.invokevirtual 306, 3) := by decide +kernel
theorem dX8_refresh_145 : decode cX8_refresh 145 = .ok (.return_, 1) := by decide +kernel
theorem dX8_commonDivisor_0 : decode cX8_commonDivisor 0 = .ok (.iload_n 0, 1) := by decide +kernel
theorem dX8_commonDivisor_1 : decode cX8_commonDivisor 1 = .ok (.istore_n 2, 1) := by decide +kernel
theorem dX8_commonDivisor_2 : decode cX8_commonDivisor 2 = .ok (.iload_n 1, 1) := by decide +kernel
theorem dX8_commonDivisor_3 : decode cX8_commonDivisor 3 = .ok (.istore_n 3, 1) := by decide +kernel
theorem dX8_commonDivisor_4 : decode cX8_commonDivisor 4 = .ok (.iconst 0, 1) := by decide +kernel
theorem dX8_commonDivisor_5 : decode cX8_commonDivisor 5 = .ok (.istore 4, 2) := by decide +kernel
theorem dX8_commonDivisor_7 : decode cX8_commonDivisor 7 = .ok (.iload 4, 2) := by decide +kernel
theorem dX8_commonDivisor_9 : decode cX8_commonDivisor 9 = .ok (.bipush 64, 2) := by decide +kernel
theorem dX8_commonDivisor_11 : decode cX8_commonDivisor 11 = .ok (.if_icmp .ge 23, 3) := by decide +kernel
theorem dX8_commonDivisor_14 : decode cX8_commonDivisor 14 = .ok (.iload_n 3, 1) := by decide +kernel
theorem dX8_commonDivisor_15 : decode cX8_commonDivisor 15 = .ok (.ifCond .eq 19, 3) := by decide +kernel
theorem dX8_commonDivisor_18 : decode cX8_commonDivisor 18 = .ok (.iload_n 2, 1) := by decide +kernel
theorem dX8_commonDivisor_19 : decode cX8_commonDivisor 19 = .ok (.iload_n 3, 1) := by decide +kernel
theorem dX8_commonDivisor_20 : decode cX8_commonDivisor 20 = .ok (.irem, 1) := by decide +kernel
theorem dX8_commonDivisor_21 : decode cX8_commonDivisor 21 = .ok (.istore 5, 2) := by decide +kernel
theorem dX8_commonDivisor_23 : decode cX8_commonDivisor 23 = .ok (.iload_n 3, 1) := by decide +kernel
theorem dX8_commonDivisor_24 : decode cX8_commonDivisor 24 = .ok (.istore_n 2, 1) := by decide +kernel
theorem dX8_commonDivisor_25 : decode cX8_commonDivisor 25 = .ok (.iload 5, 2) := by decide +kernel
theorem dX8_commonDivisor_27 : decode cX8_commonDivisor 27 = .ok (.istore_n 3, 1) := by decide +kernel
theorem dX8_commonDivisor_28 : decode cX8_commonDivisor 28 = .ok (.iinc 4 1, 3) := by decide +kernel
theorem dX8_commonDivisor_31 : decode cX8_commonDivisor 31 = .ok (.goto (-24), 3) := by decide +kernel
theorem dX8_commonDivisor_34 : decode cX8_commonDivisor 34 = .ok (.iload_n 2, 1) := by decide +kernel
theorem dX8_commonDivisor_35 : decode cX8_commonDivisor 35 = .ok (.ireturn, 1) := by decide +kernel
theorem dX8_meanDown_0 : decode cX8_meanDown 0 = .ok (.iload_n 2, 1) := by decide +kernel
theorem dX8_meanDown_1 : decode cX8_meanDown 1 = .ok (.iconst 1, 1) := by decide +kernel
theorem dX8_meanDown_2 : decode cX8_meanDown 2 = .ok (.if_icmp .ge 7, 3) := by decide +kernel
theorem dX8_meanDown_5 : decode cX8_meanDown 5 = .ok (.iconst 0, 1) := by decide +kernel
theorem dX8_meanDown_6 : decode cX8_meanDown 6 = .ok (.goto 10, 3) := by decide +kernel
theorem dX8_meanDown_9 : decode cX8_meanDown 9 = .ok (.lload_n 0, 1) := by decide +kernel
theorem dX8_meanDown_10 : decode cX8_meanDown 10 = .ok (.iload_n 2, 1) := by decide +kernel
theorem dX8_meanDown_11 : decode cX8_meanDown 11 = .ok (.i2l, 1) := by decide +kernel
theorem dX8_meanDown_12 : decode cX8_meanDown 12 = .ok (.invokestatic 309, 3) := by decide +kernel
theorem dX8_meanDown_15 : decode cX8_meanDown 15 = .ok (.l2i, 1) := by decide +kernel
theorem dX8_meanDown_16 : decode cX8_meanDown 16 = .ok (.ireturn, 1) := by decide +kernel
theorem dX9_init_0 : decode cX9_init 0 = .ok (.aload_n 0, 1) := by decide +kernel
theorem dX9_init_1 : decode cX9_init 1 = .ok (.invokespecial 1, 3) := by decide +kernel
theorem dX9_init_4 : decode cX9_init 4 = .ok (.aload_n 0, 1) := by decide +kernel
theorem dX9_init_5 : decode cX9_init 5 = .ok (.sipush 600, 3) := by decide +kernel
theorem dX9_init_8 : decode cX9_init 8 = .ok (.newarray .int, 2) := by decide +kernel
theorem dX9_init_10 : decode cX9_init 10 = .ok (.putfield 7, 3) := by decide +kernel
theorem dX9_init_13 : decode cX9_init 13 = .ok (.aload_n 0, 1) := by decide +kernel
theorem dX9_init_14 : decode cX9_init 14 = .ok (.bipush 8, 2) := by decide +kernel
theorem dX9_init_16 : decode cX9_init 16 = .ok (.newarray .int, 2) := by decide +kernel
theorem dX9_init_18 : decode cX9_init 18 = .ok (.putfield 13, 3) := by decide +kernel
theorem dX9_init_21 : decode cX9_init 21 = .ok (.aload_n 0, 1) := by decide +kernel
theorem dX9_init_22 : decode cX9_init 22 = .ok (.iconst 4, 1) := by decide +kernel
theorem dX9_init_23 : decode cX9_init 23 = .ok (.newarray .int, 2) := by decide +kernel
theorem dX9_init_25 : decode cX9_init 25 = .ok (.putfield 16, 3) := by decide +kernel
theorem dX9_init_28 : decode cX9_init 28 = .ok (.aload_n 0, 1) := by decide +kernel
theorem dX9_init_29 : decode cX9_init 29 = .ok (.iconst 4, 1) := by decide +kernel
theorem dX9_init_30 : decode cX9_init 30 = .ok (.newarray .int, 2) := by decide +kernel
theorem dX9_init_32 : decode cX9_init 32 = .ok (.putfield 19, 3) := by decide +kernel
theorem dX9_init_35 : decode cX9_init 35 = .ok (.aload_n 0, 1) := by decide +kernel
theorem dX9_init_36 : decode cX9_init 36 = .ok (.sipush 600, 3) := by decide +kernel
theorem dX9_init_39 : decode cX9_init 39 = .ok (.newarray .int, 2) := by decide +kernel
theorem dX9_init_41 : decode cX9_init 41 = .ok (.putfield 22, 3) := by decide +kernel
theorem dX9_init_44 : decode cX9_init 44 = .ok (.aload_n 0, 1) := by decide +kernel
theorem dX9_init_45 : decode cX9_init 45 = .ok (.sipush 600, 3) := by decide +kernel
theorem dX9_init_48 : decode cX9_init 48 = .ok (.newarray .int, 2) := by decide +kernel
theorem dX9_init_50 : decode cX9_init 50 = .ok (.putfield 25, 3) := by decide +kernel
theorem dX9_init_53 : decode cX9_init 53 = .ok (.aload_n 0, 1) := by decide +kernel
theorem dX9_init_54 : decode cX9_init 54 = .ok (.sipush 600, 3) := by decide +kernel
theorem dX9_init_57 : decode cX9_init 57 = .ok (.newarray .int, 2) := by decide +kernel
theorem dX9_init_59 : decode cX9_init 59 = .ok (.putfield 28, 3) := by decide +kernel
theorem dX9_init_62 : decode cX9_init 62 = .ok (.aload_n 0, 1) := by decide +kernel
theorem dX9_init_63 : decode cX9_init 63 = .ok (.sipush 601, 3) := by decide +kernel
theorem dX9_init_66 : decode cX9_init 66 = .ok (.newarray .int, 2) := by decide +kernel
theorem dX9_init_68 : decode cX9_init 68 = .ok (.putfield 31, 3) := by decide +kernel
theorem dX9_init_71 : decode cX9_init 71 = .ok (.aload_n 0, 1) := by decide +kernel
theorem dX9_init_72 : decode cX9_init 72 = .ok (.sipush 600, 3) := by decide +kernel
theorem dX9_init_75 : decode cX9_init 75 = .ok (.newarray .int, 2) := by decide +kernel
theorem dX9_init_77 : decode cX9_init 77 = .ok (.putfield 34, 3) := by decide +kernel
theorem dX9_init_80 : decode cX9_init 80 = .ok (.aload_n 0, 1) := by decide +kernel
theorem dX9_init_81 : decode cX9_init 81 = .ok (.sipush 600, 3) := by decide +kernel
theorem dX9_init_84 : decode cX9_init 84 = .ok (.newarray .int, 2) := by decide +kernel
theorem dX9_init_86 : decode cX9_init 86 = .ok (.putfield 37, 3) := by decide +kernel
theorem dX9_init_89 : decode cX9_init 89 = .ok (.aload_n 0, 1) := by decide +kernel
theorem dX9_init_90 : decode cX9_init 90 = .ok (.sipush 601, 3) := by decide +kernel
theorem dX9_init_93 : decode cX9_init 93 = .ok (.newarray .int, 2) := by decide +kernel
theorem dX9_init_95 : decode cX9_init 95 = .ok (.putfield 40, 3) := by decide +kernel
theorem dX9_init_98 : decode cX9_init 98 = .ok (.aload_n 0, 1) := by decide +kernel
theorem dX9_init_99 : decode cX9_init 99 = .ok (.sipush 601, 3) := by decide +kernel
theorem dX9_init_102 : decode cX9_init 102 = .ok (.newarray .int, 2) := by decide +kernel
theorem dX9_init_104 : decode cX9_init 104 = .ok (.putfield 43, 3) := by decide +kernel
theorem dX9_init_107 : decode cX9_init 107 = .ok (.aload_n 0, 1) := by decide +kernel
theorem dX9_init_108 : decode cX9_init 108 = .ok (.sipush 601, 3) := by decide +kernel
theorem dX9_init_111 : decode cX9_init 111 = .ok (.newarray .int, 2) := by decide +kernel
theorem dX9_init_113 : decode cX9_init 113 = .ok (.putfield 46, 3) := by decide +kernel
theorem dX9_init_116 : decode cX9_init 116 = .ok (.aload_n 0, 1) := by decide +kernel
theorem dX9_init_117 : decode cX9_init 117 = .ok (.sipush 601, 3) := by decide +kernel
theorem dX9_init_120 : decode cX9_init 120 = .ok (.newarray .int, 2) := by decide +kernel
theorem dX9_init_122 : decode cX9_init 122 = .ok (.putfield 49, 3) := by decide +kernel
theorem dX9_init_125 : decode cX9_init 125 = .ok (.aload_n 0, 1) := by decide +kernel
theorem dX9_init_126 : decode cX9_init 126 = .ok (.sipush 600, 3) := by decide +kernel
theorem dX9_init_129 : decode cX9_init 129 = .ok (.newarray .int, 2) := by decide +kernel
theorem dX9_init_131 : decode cX9_init 131 = .ok (.putfield 52, 3) := by decide +kernel
theorem dX9_init_134 : decode cX9_init 134 = .ok (.aload_n 0, 1) := by decide +kernel
theorem dX9_init_135 : decode cX9_init 135 = .ok (.sipush 301, 3) := by decide +kernel
theorem dX9_init_138 : decode cX9_init 138 = .ok (.newarray .int, 2) := by decide +kernel
theorem dX9_init_140 : decode cX9_init 140 = .ok (.putfield 55, 3) := by decide +kernel
theorem dX9_init_143 : decode cX9_init 143 = .ok (.aload_n 0, 1) := by decide +kernel
theorem dX9_init_144 : decode cX9_init 144 = .ok (.sipush 301, 3) := by decide +kernel
theorem dX9_init_147 : decode cX9_init 147 = .ok (.newarray .int, 2) := by decide +kernel
theorem dX9_init_149 : decode cX9_init 149 = .ok (.putfield 58, 3) := by decide +kernel
theorem dX9_init_152 : decode cX9_init 152 = .ok (.aload_n 0, 1) := by decide +kernel
theorem dX9_init_153 : decode cX9_init 153 = .ok (.sipush 301, 3) := by decide +kernel
theorem dX9_init_156 : decode cX9_init 156 = .ok (.newarray .int, 2) := by decide +kernel
theorem dX9_init_158 : decode cX9_init 158 = .ok (.putfield 61, 3) := by decide +kernel
theorem dX9_init_161 : decode cX9_init 161 = .ok (.aload_n 0, 1) := by decide +kernel
theorem dX9_init_162 : decode cX9_init 162 = .ok (.sipush 301, 3) := by decide +kernel
theorem dX9_init_165 : decode cX9_init 165 = .ok (.newarray .int, 2) := by decide +kernel
theorem dX9_init_167 : decode cX9_init 167 = .ok (.putfield 64, 3) := by decide +kernel
theorem dX9_init_170 : decode cX9_init 170 = .ok (.aload_n 0, 1) := by decide +kernel
theorem dX9_init_171 : decode cX9_init 171 = .ok (.sipush 301, 3) := by decide +kernel
theorem dX9_init_174 : decode cX9_init 174 = .ok (.newarray .int, 2) := by decide +kernel
theorem dX9_init_176 : decode cX9_init 176 = .ok (.putfield 67, 3) := by decide +kernel
theorem dX9_init_179 : decode cX9_init 179 = .ok (.aload_n 0, 1) := by decide +kernel
theorem dX9_init_180 : decode cX9_init 180 = .ok (.sipush 301, 3) := by decide +kernel
theorem dX9_init_183 : decode cX9_init 183 = .ok (.newarray .int, 2) := by decide +kernel
theorem dX9_init_185 : decode cX9_init 185 = .ok (.putfield 70, 3) := by decide +kernel
theorem dX9_init_188 : decode cX9_init 188 = .ok (.aload_n 0, 1) := by decide +kernel
theorem dX9_init_189 : decode cX9_init 189 = .ok (.sipush 301, 3) := by decide +kernel
theorem dX9_init_192 : decode cX9_init 192 = .ok (.newarray .int, 2) := by decide +kernel
theorem dX9_init_194 : decode cX9_init 194 = .ok (.putfield 73, 3) := by decide +kernel
theorem dX9_init_197 : decode cX9_init 197 = .ok (.aload_n 0, 1) := by decide +kernel
theorem dX9_init_198 : decode cX9_init 198 = .ok (.sipush 301, 3) := by decide +kernel
theorem dX9_init_201 : decode cX9_init 201 = .ok (.newarray .boolean, 2) := by decide +kernel
theorem dX9_init_203 : decode cX9_init 203 = .ok (.putfield 76, 3) := by decide +kernel
theorem dX9_init_206 : decode cX9_init 206 = .ok (.aload_n 0, 1) := by decide +kernel
theorem dX9_init_207 : decode cX9_init 207 = .ok (.getfield 13, 3) := by decide +kernel
theorem dX9_init_210 : decode cX9_init 210 = .ok (.iconst 0, 1) := by decide +kernel
theorem dX9_init_211 : decode cX9_init 211 = .ok (.iconst 2, 1) := by decide +kernel
theorem dX9_init_212 : decode cX9_init 212 = .ok (.iastore, 1) := by decide +kernel
theorem dX9_init_213 : decode cX9_init 213 = .ok (.aload_n 0, 1) := by decide +kernel
theorem dX9_init_214 : decode cX9_init 214 = .ok (.getfield 13, 3) := by decide +kernel
theorem dX9_init_217 : decode cX9_init 217 = .ok (.iconst 2, 1) := by decide +kernel
theorem dX9_init_218 : decode cX9_init 218 = .ok (.bipush 20, 2) := by decide +kernel
theorem dX9_init_220 : decode cX9_init 220 = .ok (.iastore, 1) := by decide +kernel
theorem dX9_init_221 : decode cX9_init 221 = .ok (.aload_n 0, 1) := by decide +kernel
theorem dX9_init_222 : decode cX9_init 222 = .ok (.getfield 13, 3) := by decide +kernel
theorem dX9_init_225 : decode cX9_init 225 = .ok (.iconst 3, 1) := by decide +kernel
theorem dX9_init_226 : decode cX9_init 226 = .ok (.iconst 2, 1) := by decide +kernel
theorem dX9_init_227 : decode cX9_init 227 = .ok (.iastore, 1) := by decide +kernel
theorem dX9_init_228 : decode cX9_init 228 = .ok (.iconst 0, 1) := by decide +kernel
theorem dX9_init_229 : decode cX9_init 229 = .ok (.istore_n 1, 1) := by decide +kernel
theorem dX9_init_230 : decode cX9_init 230 = .ok (.iload_n 1, 1) := by decide +kernel
theorem dX9_init_231 : decode cX9_init 231 = .ok (.sipush 600, 3) := by decide +kernel
theorem dX9_init_234 : decode cX9_init 234 = .ok (.if_icmp .ge 16, 3) := by decide +kernel
theorem dX9_init_237 : decode cX9_init 237 = .ok (.aload_n 0, 1) := by decide +kernel
theorem dX9_init_238 : decode cX9_init 238 = .ok (.getfield 22, 3) := by decide +kernel
theorem dX9_init_241 : decode cX9_init 241 = .ok (.iload_n 1, 1) := by decide +kernel
theorem dX9_init_242 : decode cX9_init 242 = .ok (.iconst (-1), 1) := by decide +kernel
theorem dX9_init_243 : decode cX9_init 243 = .ok (.iastore, 1) := by decide +kernel
theorem dX9_init_244 : decode cX9_init 244 = .ok (.iinc 1 1, 3) := by decide +kernel
theorem dX9_init_247 : decode cX9_init 247 = .ok (.goto (-17), 3) := by decide +kernel
theorem dX9_init_250 : decode cX9_init 250 = .ok (.return_, 1) := by decide +kernel
theorem dX9_isIn_0 : decode cX9_isIn 0 = .ok (.iload_n 0, 1) := by decide +kernel
theorem dX9_isIn_1 : decode cX9_isIn 1 = .ok (.iload_n 1, 1) := by decide +kernel
theorem dX9_isIn_2 : decode cX9_isIn 2 = .ok (.if_icmp .lt 12, 3) := by decide +kernel
theorem dX9_isIn_5 : decode cX9_isIn 5 = .ok (.iload_n 0, 1) := by decide +kernel
theorem dX9_isIn_6 : decode cX9_isIn 6 = .ok (.iload_n 2, 1) := by decide +kernel
theorem dX9_isIn_7 : decode cX9_isIn 7 = .ok (.if_icmp .gt 7, 3) := by decide +kernel
theorem dX9_isIn_10 : decode cX9_isIn 10 = .ok (.iconst 1, 1) := by decide +kernel
theorem dX9_isIn_11 : decode cX9_isIn 11 = .ok (.goto 4, 3) := by decide +kernel
theorem dX9_isIn_14 : decode cX9_isIn 14 = .ok (.iconst 0, 1) := by decide +kernel
theorem dX9_isIn_15 : decode cX9_isIn 15 = .ok (.ireturn, 1) := by decide +kernel
theorem dX9_down_0 : decode cX9_down 0 = .ok (.lload_n 0, 1) := by decide +kernel
theorem dX9_down_1 : decode cX9_down 1 = .ok (.lload_n 2, 1) := by decide +kernel
theorem dX9_down_2 : decode cX9_down 2 = .ok (.ldiv, 1) := by decide +kernel
theorem dX9_down_3 : decode cX9_down 3 = .ok (.lstore 4, 2) := by decide +kernel
theorem dX9_down_5 : decode cX9_down 5 = .ok (.lload_n 0, 1) := by decide +kernel
theorem dX9_down_6 : decode cX9_down 6 = .ok (.lload_n 2, 1) := by decide +kernel
theorem dX9_down_7 : decode cX9_down 7 = .ok (.lrem, 1) := by decide +kernel
theorem dX9_down_8 : decode cX9_down 8 = .ok (.lconst 0, 1) := by decide +kernel
theorem dX9_down_9 : decode cX9_down 9 = .ok (.lcmp, 1) := by decide +kernel
theorem dX9_down_10 : decode cX9_down 10 = .ok (.ifCond .ge 10, 3) := by decide +kernel
theorem dX9_down_13 : decode cX9_down 13 = .ok (.lload 4, 2) := by decide +kernel
theorem dX9_down_15 : decode cX9_down 15 = .ok (.lconst 1, 1) := by decide +kernel
theorem dX9_down_16 : decode cX9_down 16 = .ok (.lsub, 1) := by decide +kernel
theorem dX9_down_17 : decode cX9_down 17 = .ok (.goto 5, 3) := by decide +kernel
theorem dX9_down_20 : decode cX9_down 20 = .ok (.lload 4, 2) := by decide +kernel
theorem dX9_down_22 : decode cX9_down 22 = .ok (.lreturn, 1) := by decide +kernel
theorem dX9_isHeave_0 : decode cX9_isHeave 0 = .ok (.iload_n 0, 1) := by decide +kernel
theorem dX9_isHeave_1 : decode cX9_isHeave 1 = .ok (.sipush (-32768), 3) := by decide +kernel
theorem dX9_isHeave_4 : decode cX9_isHeave 4 = .ok (.if_icmp .eq 16, 3) := by decide +kernel
theorem dX9_isHeave_7 : decode cX9_isHeave 7 = .ok (.iload_n 0, 1) := by decide +kernel
theorem dX9_isHeave_8 : decode cX9_isHeave 8 = .ok (.sipush (-9999), 3) := by decide +kernel
theorem dX9_isHeave_11 : decode cX9_isHeave 11 = .ok (.sipush 9999, 3) := by decide +kernel
theorem dX9_isHeave_14 : decode cX9_isHeave 14 = .ok (.invokestatic 80, 3) := by decide +kernel
theorem dX9_isHeave_17 : decode cX9_isHeave 17 = .ok (.ifCond .eq 7, 3) := by decide +kernel
theorem dX9_isHeave_20 : decode cX9_isHeave 20 = .ok (.iconst 1, 1) := by decide +kernel
theorem dX9_isHeave_21 : decode cX9_isHeave 21 = .ok (.goto 4, 3) := by decide +kernel
theorem dX9_isHeave_24 : decode cX9_isHeave 24 = .ok (.iconst 0, 1) := by decide +kernel
theorem dX9_isHeave_25 : decode cX9_isHeave 25 = .ok (.ireturn, 1) := by decide +kernel
theorem dX9_heave_0 : decode cX9_heave 0 = .ok (.iload_n 1, 1) := by decide +kernel
theorem dX9_heave_1 : decode cX9_heave 1 = .ok (.invokestatic 84, 3) := by decide +kernel
theorem dX9_heave_4 : decode cX9_heave 4 = .ok (.ifCond .eq 13, 3) := by decide +kernel
theorem dX9_heave_7 : decode cX9_heave 7 = .ok (.aload_n 0, 1) := by decide +kernel
theorem dX9_heave_8 : decode cX9_heave 8 = .ok (.getfield 88, 3) := by decide +kernel
theorem dX9_heave_11 : decode cX9_heave 11 = .ok (.sipush 600, 3) := by decide +kernel
theorem dX9_heave_14 : decode cX9_heave 14 = .ok (.if_icmp .ne 5, 3) := by decide +kernel
theorem dX9_heave_17 : decode cX9_heave 17 = .ok (.iconst (-1), 1) := by decide +kernel
theorem dX9_heave_18 : decode cX9_heave 18 = .ok (.ireturn, 1) := by decide +kernel
theorem dX9_heave_19 : decode cX9_heave 19 = .ok (.aload_n 0, 1) := by decide +kernel
theorem dX9_heave_20 : decode cX9_heave 20 = .ok (.getfield 7, 3) := by decide +kernel
theorem dX9_heave_23 : decode cX9_heave 23 = .ok (.aload_n 0, 1) := by decide +kernel
theorem dX9_heave_24 : decode cX9_heave 24 = .ok (.getfield 88, 3) := by decide +kernel
theorem dX9_heave_27 : decode cX9_heave 27 = .ok (.iload_n 1, 1) := by decide +kernel
theorem dX9_heave_28 : decode cX9_heave 28 = .ok (.iastore, 1) := by decide +kernel
theorem dX9_heave_29 : decode cX9_heave 29 = .ok (.aload_n 0, 1) := by decide +kernel
theorem dX9_heave_30 : decode cX9_heave 30 = .ok (.getfield 22, 3) := by decide +kernel
theorem dX9_heave_33 : decode cX9_heave 33 = .ok (.aload_n 0, 1) := by decide +kernel
theorem dX9_heave_34 : decode cX9_heave 34 = .ok (.getfield 88, 3) := by decide +kernel
theorem dX9_heave_37 : decode cX9_heave 37 = .ok (.iconst (-1), 1) := by decide +kernel
theorem dX9_heave_38 : decode cX9_heave 38 = .ok (.iastore, 1) := by decide +kernel
theorem dX9_heave_39 : decode cX9_heave 39 = .ok (.aload_n 0, 1) := by decide +kernel
theorem dX9_heave_40 : decode cX9_heave 40 = .ok (.dup, 1) := by decide +kernel
theorem dX9_heave_41 : decode cX9_heave 41 = .ok (.getfield 88, 3) := by decide +kernel
theorem dX9_heave_44 : decode cX9_heave 44 = .ok (.iconst 1, 1) := by decide +kernel
theorem dX9_heave_45 : decode cX9_heave 45 = .ok (.iadd, 1) := by decide +kernel
theorem dX9_heave_46 : decode cX9_heave 46 = .ok (.putfield 88, 3) := by decide +kernel
theorem dX9_heave_49 : decode cX9_heave 49 = .ok (.aload_n 0, 1) := by decide +kernel
theorem dX9_heave_50 : decode cX9_heave 50 = .ok (.getfield 88, 3) := by decide +kernel
theorem dX9_heave_53 : decode cX9_heave 53 = .ok (.ireturn, 1) := by decide +kernel
theorem dX9_part_0 : decode cX9_part 0 = .ok (.lload_n 0, 1) := by decide +kernel
theorem dX9_part_1 : decode cX9_part 1 = .ok (.bipush 16, 2) := by decide +kernel
theorem dX9_part_3 : decode cX9_part 3 = .ok (.iload_n 2, 1) := by decide +kernel
theorem dX9_part_4 : decode cX9_part 4 = .ok (.imul, 1) := by decide +kernel
theorem dX9_part_5 : decode cX9_part 5 = .ok (.lshl, 1) := by decide +kernel
theorem dX9_part_6 : decode cX9_part 6 = .ok (.bipush 48, 2) := by decide +kernel
theorem dX9_part_8 : decode cX9_part 8 = .ok (.lshr, 1) := by decide +kernel
theorem dX9_part_9 : decode cX9_part 9 = .ok (.l2i, 1) := by decide +kernel
theorem dX9_part_10 : decode cX9_part 10 = .ok (.ireturn, 1) := by decide +kernel
theorem dX9_four_0 : decode cX9_four 0 = .ok (.aload_n 0, 1) := by decide +kernel
theorem dX9_four_1 : decode cX9_four 1 = .ok (.getfield 88, 3) := by decide +kernel
theorem dX9_four_4 : decode cX9_four 4 = .ok (.iconst 4, 1) := by decide +kernel
theorem dX9_four_5 : decode cX9_four 5 = .ok (.iadd, 1) := by decide +kernel
theorem dX9_four_6 : decode cX9_four 6 = .ok (.sipush 600, 3) := by decide +kernel
theorem dX9_four_9 : decode cX9_four 9 = .ok (.if_icmp .le 5, 3) := by decide +kernel
theorem dX9_four_12 : decode cX9_four 12 = .ok (.iconst (-1), 1) := by decide +kernel
theorem dX9_four_13 : decode cX9_four 13 = .ok (.ireturn, 1) := by decide +kernel
theorem dX9_four_14 : decode cX9_four 14 = .ok (.iconst 0, 1) := by decide +kernel
theorem dX9_four_15 : decode cX9_four 15 = .ok (.istore_n 3, 1) := by decide +kernel
theorem dX9_four_16 : decode cX9_four 16 = .ok (.iload_n 3, 1) := by decide +kernel
theorem dX9_four_17 : decode cX9_four 17 = .ok (.iconst 4, 1) := by decide +kernel
theorem dX9_four_18 : decode cX9_four 18 = .ok (.if_icmp .ge 22, 3) := by decide +kernel
theorem dX9_four_21 : decode cX9_four 21 = .ok (.lload_n 1, 1) := by decide +kernel
theorem dX9_four_22 : decode cX9_four 22 = .ok (.iload_n 3, 1) := by decide +kernel
theorem dX9_four_23 : decode cX9_four 23 = .ok (.invokestatic 92, 3) := by decide +kernel
theorem dX9_four_26 : decode cX9_four 26 = .ok (.invokestatic 84, 3) := by decide +kernel
theorem dX9_four_29 : decode cX9_four 29 = .ok (.ifCond .ne 5, 3) := by decide +kernel
theorem dX9_four_32 : decode cX9_four 32 = .ok (.iconst (-1), 1) := by decide +kernel
theorem dX9_four_33 : decode cX9_four 33 = .ok (.ireturn, 1) := by decide +kernel
theorem dX9_four_34 : decode cX9_four 34 = .ok (.iinc 3 1, 3) := by decide +kernel
theorem dX9_four_37 : decode cX9_four 37 = .ok (.goto (-21), 3) := by decide +kernel
theorem dX9_four_40 : decode cX9_four 40 = .ok (.aload_n 0, 1) := by decide +kernel
theorem dX9_four_41 : decode cX9_four 41 = .ok (.getfield 88, 3) := by decide +kernel
theorem dX9_four_44 : decode cX9_four 44 = .ok (.istore_n 3, 1) := by decide +kernel
theorem dX9_four_45 : decode cX9_four 45 = .ok (.iconst 0, 1) := by decide +kernel
theorem dX9_four_46 : decode cX9_four 46 = .ok (.istore 4, 2) := by decide +kernel
theorem dX9_four_48 : decode cX9_four 48 = .ok (.iload 4, 2) := by decide +kernel
theorem dX9_four_50 : decode cX9_four 50 = .ok (.iconst 4, 1) := by decide +kernel
theorem dX9_four_51 : decode cX9_four 51 = .ok (.if_icmp .ge 20, 3) := by decide +kernel
theorem dX9_four_54 : decode cX9_four 54 = .ok (.aload_n 0, 1) := by decide +kernel
theorem dX9_four_55 : decode cX9_four 55 = .ok (.lload_n 1, 1) := by decide +kernel
theorem dX9_four_56 : decode cX9_four 56 = .ok (.iload 4, 2) := by decide +kernel
theorem dX9_four_58 : decode cX9_four 58 = .ok (.invokestatic 92, 3) := by decide +kernel
theorem dX9_four_61 : decode cX9_four 61 = .ok (.invokevirtual 96, 3) := by decide +kernel
theorem dX9_four_64 : decode cX9_four 64 = .ok (.istore_n 3, 1) := by decide +kernel
theorem dX9_four_65 : decode cX9_four 65 = .ok (.iinc 4 1, 3) := by decide +kernel
theorem dX9_four_68 : decode cX9_four 68 = .ok (.goto (-20), 3) := by decide +kernel
theorem dX9_four_71 : decode cX9_four 71 = .ok (.iload_n 3, 1) := by decide +kernel
theorem dX9_four_72 : decode cX9_four 72 = .ok (.ireturn, 1) := by decide +kernel
theorem dX9_forget_0 : decode cX9_forget 0 = .ok (.iload_n 1, 1) := by decide +kernel
theorem dX9_forget_1 : decode cX9_forget 1 = .ok (.iconst 0, 1) := by decide +kernel
theorem dX9_forget_2 : decode cX9_forget 2 = .ok (.aload_n 0, 1) := by decide +kernel
theorem dX9_forget_3 : decode cX9_forget 3 = .ok (.getfield 88, 3) := by decide +kernel
theorem dX9_forget_6 : decode cX9_forget 6 = .ok (.invokestatic 80, 3) := by decide +kernel
theorem dX9_forget_9 : decode cX9_forget 9 = .ok (.ifCond .ne 5, 3) := by decide +kernel
theorem dX9_forget_12 : decode cX9_forget 12 = .ok (.iconst (-1), 1) := by decide +kernel
theorem dX9_forget_13 : decode cX9_forget 13 = .ok (.ireturn, 1) := by decide +kernel
theorem dX9_forget_14 : decode cX9_forget 14 = .ok (.aload_n 0, 1) := by decide +kernel
theorem dX9_forget_15 : decode cX9_forget 15 = .ok (.dup, 1) := by decide +kernel
theorem dX9_forget_16 : decode cX9_forget 16 = .ok (.getfield 88, 3) := by decide +kernel
theorem dX9_forget_19 : decode cX9_forget 19 = .ok (.iload_n 1, 1) := by decide +kernel
theorem dX9_forget_20 : decode cX9_forget 20 = .ok (.isub, 1) := by decide +kernel
theorem dX9_forget_21 : decode cX9_forget 21 = .ok (.putfield 88, 3) := by decide +kernel
theorem dX9_forget_24 : decode cX9_forget 24 = .ok (.iconst 0, 1) := by decide +kernel
theorem dX9_forget_25 : decode cX9_forget 25 = .ok (.istore_n 2, 1) := by decide +kernel
theorem dX9_forget_26 : decode cX9_forget 26 = .ok (.iload_n 2, 1) := by decide +kernel
theorem dX9_forget_27 : decode cX9_forget 27 = .ok (.aload_n 0, 1) := by decide +kernel
theorem dX9_forget_28 : decode cX9_forget 28 = .ok (.getfield 88, 3) := by decide +kernel
theorem dX9_forget_31 : decode cX9_forget 31 = .ok (.if_icmp .ge 37, 3) := by decide +kernel
theorem dX9_forget_34 : decode cX9_forget 34 = .ok (.aload_n 0, 1) := by decide +kernel
theorem dX9_forget_35 : decode cX9_forget 35 = .ok (.getfield 7, 3) := by decide +kernel
theorem dX9_forget_38 : decode cX9_forget 38 = .ok (.iload_n 2, 1) := by decide +kernel
theorem dX9_forget_39 : decode cX9_forget 39 = .ok (.aload_n 0, 1) := by decide +kernel
theorem dX9_forget_40 : decode cX9_forget 40 = .ok (.getfield 7, 3) := by decide +kernel
theorem dX9_forget_43 : decode cX9_forget 43 = .ok (.iload_n 2, 1) := by decide +kernel
theorem dX9_forget_44 : decode cX9_forget 44 = .ok (.iload_n 1, 1) := by decide +kernel
theorem dX9_forget_45 : decode cX9_forget 45 = .ok (.iadd, 1) := by decide +kernel
theorem dX9_forget_46 : decode cX9_forget 46 = .ok (.iaload, 1) := by decide +kernel
theorem dX9_forget_47 : decode cX9_forget 47 = .ok (.iastore, 1) := by decide +kernel
theorem dX9_forget_48 : decode cX9_forget 48 = .ok (.aload_n 0, 1) := by decide +kernel
theorem dX9_forget_49 : decode cX9_forget 49 = .ok (.getfield 22, 3) := by decide +kernel
theorem dX9_forget_52 : decode cX9_forget 52 = .ok (.iload_n 2, 1) := by decide +kernel
theorem dX9_forget_53 : decode cX9_forget 53 = .ok (.aload_n 0, 1) := by decide +kernel
theorem dX9_forget_54 : decode cX9_forget 54 = .ok (.getfield 22, 3) := by decide +kernel
theorem dX9_forget_57 : decode cX9_forget 57 = .ok (.iload_n 2, 1) := by decide +kernel
theorem dX9_forget_58 : decode cX9_forget 58 = .ok (.iload_n 1, 1) := by decide +kernel
theorem dX9_forget_59 : decode cX9_forget 59 = .ok (.iadd, 1) := by decide +kernel
theorem dX9_forget_60 : decode cX9_forget 60 = .ok (.iaload, 1) := by decide +kernel
theorem dX9_forget_61 : decode cX9_forget 61 = .ok (.iastore, 1) := by decide +kernel
theorem dX9_forget_62 : decode cX9_forget 62 = .ok (.iinc 2 1, 3) := by decide +kernel
theorem dX9_forget_65 : decode cX9_forget 65 = .ok (.goto (-39), 3) := by decide +kernel
theorem dX9_forget_68 : decode cX9_forget 68 = .ok (.aload_n 0, 1) := by decide +kernel
theorem dX9_forget_69 : decode cX9_forget 69 = .ok (.getfield 88, 3) := by decide +kernel
theorem dX9_forget_72 : decode cX9_forget 72 = .ok (.istore_n 2, 1) := by decide +kernel
theorem dX9_forget_73 : decode cX9_forget 73 = .ok (.iload_n 2, 1) := by decide +kernel
theorem dX9_forget_74 : decode cX9_forget 74 = .ok (.sipush 600, 3) := by decide +kernel
theorem dX9_forget_77 : decode cX9_forget 77 = .ok (.if_icmp .ge 16, 3) := by decide +kernel
theorem dX9_forget_80 : decode cX9_forget 80 = .ok (.aload_n 0, 1) := by decide +kernel
theorem dX9_forget_81 : decode cX9_forget 81 = .ok (.getfield 22, 3) := by decide +kernel
theorem dX9_forget_84 : decode cX9_forget 84 = .ok (.iload_n 2, 1) := by decide +kernel
theorem dX9_forget_85 : decode cX9_forget 85 = .ok (.iconst (-1), 1) := by decide +kernel
theorem dX9_forget_86 : decode cX9_forget 86 = .ok (.iastore, 1) := by decide +kernel
theorem dX9_forget_87 : decode cX9_forget 87 = .ok (.iinc 2 1, 3) := by decide +kernel
theorem dX9_forget_90 : decode cX9_forget 90 = .ok (.goto (-17), 3) := by decide +kernel
theorem dX9_forget_93 : decode cX9_forget 93 = .ok (.aload_n 0, 1) := by decide +kernel
theorem dX9_forget_94 : decode cX9_forget 94 = .ok (.getfield 88, 3) := by decide +kernel
theorem dX9_forget_97 : decode cX9_forget 97 = .ok (.ireturn, 1) := by decide +kernel
theorem dX9_set_0 : decode cX9_set 0 = .ok (.iload_n 1, 1) := by decide +kernel
theorem dX9_set_1 : decode cX9_set 1 = .ok (.ifCond .ne 13, 3) := by decide +kernel
theorem dX9_set_4 : decode cX9_set 4 = .ok (.iload_n 2, 1) := by decide +kernel
theorem dX9_set_5 : decode cX9_set 5 = .ok (.iconst 0, 1) := by decide +kernel
theorem dX9_set_6 : decode cX9_set 6 = .ok (.bipush 20, 2) := by decide +kernel
theorem dX9_set_8 : decode cX9_set 8 = .ok (.invokestatic 80, 3) := by decide +kernel
theorem dX9_set_11 : decode cX9_set 11 = .ok (.goto 55, 3) := by decide +kernel
theorem dX9_set_14 : decode cX9_set 14 = .ok (.iload_n 1, 1) := by decide +kernel
theorem dX9_set_15 : decode cX9_set 15 = .ok (.iconst 1, 1) := by decide +kernel
theorem dX9_set_16 : decode cX9_set 16 = .ok (.if_icmp .ne 14, 3) := by decide +kernel
theorem dX9_set_19 : decode cX9_set 19 = .ok (.iload_n 2, 1) := by decide +kernel
theorem dX9_set_20 : decode cX9_set 20 = .ok (.iconst 0, 1) := by decide +kernel
theorem dX9_set_21 : decode cX9_set 21 = .ok (.sipush 500, 3) := by decide +kernel
theorem dX9_set_24 : decode cX9_set 24 = .ok (.invokestatic 80, 3) := by decide +kernel
theorem dX9_set_27 : decode cX9_set 27 = .ok (.goto 39, 3) := by decide +kernel
theorem dX9_set_30 : decode cX9_set 30 = .ok (.iload_n 1, 1) := by decide +kernel
theorem dX9_set_31 : decode cX9_set 31 = .ok (.iconst 2, 1) := by decide +kernel
theorem dX9_set_32 : decode cX9_set 32 = .ok (.if_icmp .ne 14, 3) := by decide +kernel
theorem dX9_set_35 : decode cX9_set 35 = .ok (.iload_n 2, 1) := by decide +kernel
theorem dX9_set_36 : decode cX9_set 36 = .ok (.bipush 10, 2) := by decide +kernel
theorem dX9_set_38 : decode cX9_set 38 = .ok (.bipush 50, 2) := by decide +kernel
theorem dX9_set_40 : decode cX9_set 40 = .ok (.invokestatic 80, 3) := by decide +kernel
theorem dX9_set_43 : decode cX9_set 43 = .ok (.goto 23, 3) := by decide +kernel
theorem dX9_set_46 : decode cX9_set 46 = .ok (.iload_n 1, 1) := by decide +kernel
theorem dX9_set_47 : decode cX9_set 47 = .ok (.iconst 3, 1) := by decide +kernel
theorem dX9_set_48 : decode cX9_set 48 = .ok (.if_icmp .ne 17, 3) := by decide +kernel
theorem dX9_set_51 : decode cX9_set 51 = .ok (.iload_n 2, 1) := by decide +kernel
theorem dX9_set_52 : decode cX9_set 52 = .ok (.iconst 1, 1) := by decide +kernel
theorem dX9_set_53 : decode cX9_set 53 = .ok (.bipush 9, 2) := by decide +kernel
theorem dX9_set_55 : decode cX9_set 55 = .ok (.invokestatic 80, 3) := by decide +kernel
theorem dX9_set_58 : decode cX9_set 58 = .ok (.ifCond .eq 7, 3) := by decide +kernel
theorem dX9_set_61 : decode cX9_set 61 = .ok (.iconst 1, 1) := by decide +kernel
theorem dX9_set_62 : decode cX9_set 62 = .ok (.goto 4, 3) := by decide +kernel
theorem dX9_set_65 : decode cX9_set 65 = .ok (.iconst 0, 1) := by decide +kernel
theorem dX9_set_66 : decode cX9_set 66 = .ok (.istore_n 3, 1) := by decide +kernel
theorem dX9_set_67 : decode cX9_set 67 = .ok (.iload_n 3, 1) := by decide +kernel
theorem dX9_set_68 : decode cX9_set 68 = .ok (.ifCond .eq 13, 3) := by decide +kernel
theorem dX9_set_71 : decode cX9_set 71 = .ok (.aload_n 0, 1) := by decide +kernel
theorem dX9_set_72 : decode cX9_set 72 = .ok (.getfield 13, 3) := by decide +kernel
theorem dX9_set_75 : decode cX9_set 75 = .ok (.iload_n 1, 1) := by decide +kernel
theorem dX9_set_76 : decode cX9_set 76 = .ok (.iaload, 1) := by decide +kernel
theorem dX9_set_77 : decode cX9_set 77 = .ok (.iload_n 2, 1) := by decide +kernel
theorem dX9_set_78 : decode cX9_set 78 = .ok (.if_icmp .ne 5, 3) := by decide +kernel
theorem dX9_set_81 : decode cX9_set 81 = .ok (.iconst 0, 1) := by decide +kernel
theorem dX9_set_82 : decode cX9_set 82 = .ok (.ireturn, 1) := by decide +kernel
theorem dX9_set_83 : decode cX9_set 83 = .ok (.aload_n 0, 1) := by decide +kernel
theorem dX9_set_84 : decode cX9_set 84 = .ok (.getfield 13, 3) := by decide +kernel
theorem dX9_set_87 : decode cX9_set 87 = .ok (.iload_n 1, 1) := by decide +kernel
theorem dX9_set_88 : decode cX9_set 88 = .ok (.iload_n 2, 1) := by decide +kernel
theorem dX9_set_89 : decode cX9_set 89 = .ok (.iastore, 1) := by decide +kernel
theorem dX9_set_90 : decode cX9_set 90 = .ok (.iconst 1, 1) := by decide +kernel
theorem dX9_set_91 : decode cX9_set 91 = .ok (.ireturn, 1) := by decide +kernel
theorem dX9_both_0 : decode cX9_both 0 = .ok (.aload_n 0, 1) := by decide +kernel
theorem dX9_both_1 : decode cX9_both 1 = .ok (.getfield 13, 3) := by decide +kernel
theorem dX9_both_4 : decode cX9_both 4 = .ok (.iload_n 1, 1) := by decide +kernel
theorem dX9_both_5 : decode cX9_both 5 = .ok (.iaload, 1) := by decide +kernel
theorem dX9_both_6 : decode cX9_both 6 = .ok (.iload_n 2, 1) := by decide +kernel
theorem dX9_both_7 : decode cX9_both 7 = .ok (.if_icmp .ne 17, 3) := by decide +kernel
theorem dX9_both_10 : decode cX9_both 10 = .ok (.aload_n 0, 1) := by decide +kernel
theorem dX9_both_11 : decode cX9_both 11 = .ok (.getfield 13, 3) := by decide +kernel
theorem dX9_both_14 : decode cX9_both 14 = .ok (.iload_n 1, 1) := by decide +kernel
theorem dX9_both_15 : decode cX9_both 15 = .ok (.iconst 1, 1) := by decide +kernel
theorem dX9_both_16 : decode cX9_both 16 = .ok (.iadd, 1) := by decide +kernel
theorem dX9_both_17 : decode cX9_both 17 = .ok (.iaload, 1) := by decide +kernel
theorem dX9_both_18 : decode cX9_both 18 = .ok (.iload_n 3, 1) := by decide +kernel
theorem dX9_both_19 : decode cX9_both 19 = .ok (.if_icmp .ne 5, 3) := by decide +kernel
theorem dX9_both_22 : decode cX9_both 22 = .ok (.iconst 0, 1) := by decide +kernel
theorem dX9_both_23 : decode cX9_both 23 = .ok (.ireturn, 1) := by decide +kernel
theorem dX9_both_24 : decode cX9_both 24 = .ok (.aload_n 0, 1) := by decide +kernel
theorem dX9_both_25 : decode cX9_both 25 = .ok (.getfield 13, 3) := by decide +kernel
theorem dX9_both_28 : decode cX9_both 28 = .ok (.iload_n 1, 1) := by decide +kernel
theorem dX9_both_29 : decode cX9_both 29 = .ok (.iload_n 2, 1) := by decide +kernel
theorem dX9_both_30 : decode cX9_both 30 = .ok (.iastore, 1) := by decide +kernel
theorem dX9_both_31 : decode cX9_both 31 = .ok (.aload_n 0, 1) := by decide +kernel
theorem dX9_both_32 : decode cX9_both 32 = .ok (.getfield 13, 3) := by decide +kernel
theorem dX9_both_35 : decode cX9_both 35 = .ok (.iload_n 1, 1) := by decide +kernel
theorem dX9_both_36 : decode cX9_both 36 = .ok (.iconst 1, 1) := by decide +kernel
theorem dX9_both_37 : decode cX9_both 37 = .ok (.iadd, 1) := by decide +kernel
theorem dX9_both_38 : decode cX9_both 38 = .ok (.iload_n 3, 1) := by decide +kernel
theorem dX9_both_39 : decode cX9_both 39 = .ok (.iastore, 1) := by decide +kernel
theorem dX9_both_40 : decode cX9_both 40 = .ok (.iconst 1, 1) := by decide +kernel
theorem dX9_both_41 : decode cX9_both 41 = .ok (.ireturn, 1) := by decide +kernel
theorem dX9_level_0 : decode cX9_level 0 = .ok (.iload_n 1, 1) := by decide +kernel
theorem dX9_level_1 : decode cX9_level 1 = .ok (.iconst 0, 1) := by decide +kernel
theorem dX9_level_2 : decode cX9_level 2 = .ok (.iconst 2, 1) := by decide +kernel
theorem dX9_level_3 : decode cX9_level 3 = .ok (.invokestatic 80, 3) := by decide +kernel
theorem dX9_level_6 : decode cX9_level 6 = .ok (.ifCond .eq 27, 3) := by decide +kernel
theorem dX9_level_9 : decode cX9_level 9 = .ok (.iload_n 1, 1) := by decide +kernel
theorem dX9_level_10 : decode cX9_level 10 = .ok (.ifCond .ne 19, 3) := by decide +kernel
theorem dX9_level_13 : decode cX9_level 13 = .ok (.iload_n 2, 1) := by decide +kernel
theorem dX9_level_14 : decode cX9_level 14 = .ok (.sipush (-9999), 3) := by decide +kernel
theorem dX9_level_17 : decode cX9_level 17 = .ok (.sipush 9999, 3) := by decide +kernel
theorem dX9_level_20 : decode cX9_level 20 = .ok (.invokestatic 80, 3) := by decide +kernel
theorem dX9_level_23 : decode cX9_level 23 = .ok (.ifCond .ne 12, 3) := by decide +kernel
theorem dX9_level_26 : decode cX9_level 26 = .ok (.goto 7, 3) := by decide +kernel
theorem dX9_level_29 : decode cX9_level 29 = .ok (.iload_n 2, 1) := by decide +kernel
theorem dX9_level_30 : decode cX9_level 30 = .ok (.ifCond .eq 5, 3) := by decide +kernel
theorem dX9_level_33 : decode cX9_level 33 = .ok (.iconst 0, 1) := by decide +kernel
theorem dX9_level_34 : decode cX9_level 34 = .ok (.ireturn, 1) := by decide +kernel
theorem dX9_level_35 : decode cX9_level 35 = .ok (.aload_n 0, 1) := by decide +kernel
theorem dX9_level_36 : decode cX9_level 36 = .ok (.iconst 4, 1) := by decide +kernel
theorem dX9_level_37 : decode cX9_level 37 = .ok (.iload_n 1, 1) := by decide +kernel
theorem dX9_level_38 : decode cX9_level 38 = .ok (.iload_n 2, 1) := by decide +kernel
theorem dX9_level_39 : decode cX9_level 39 = .ok (.invokevirtual 100, 3) := by decide +kernel
theorem dX9_level_42 : decode cX9_level 42 = .ok (.ireturn, 1) := by decide +kernel
theorem dX9_mark_0 : decode cX9_mark 0 = .ok (.iload_n 1, 1) := by decide +kernel
theorem dX9_mark_1 : decode cX9_mark 1 = .ok (.iconst 0, 1) := by decide +kernel
theorem dX9_mark_2 : decode cX9_mark 2 = .ok (.iconst 3, 1) := by decide +kernel
theorem dX9_mark_3 : decode cX9_mark 3 = .ok (.invokestatic 80, 3) := by decide +kernel
theorem dX9_mark_6 : decode cX9_mark 6 = .ok (.ifCond .eq 24, 3) := by decide +kernel
theorem dX9_mark_9 : decode cX9_mark 9 = .ok (.iload_n 1, 1) := by decide +kernel
theorem dX9_mark_10 : decode cX9_mark 10 = .ok (.ifCond .ne 16, 3) := by decide +kernel
theorem dX9_mark_13 : decode cX9_mark 13 = .ok (.iload_n 2, 1) := by decide +kernel
theorem dX9_mark_14 : decode cX9_mark 14 = .ok (.iconst 0, 1) := by decide +kernel
theorem dX9_mark_15 : decode cX9_mark 15 = .ok (.ldc 103, 2) := by decide +kernel
theorem dX9_mark_17 : decode cX9_mark 17 = .ok (.invokestatic 80, 3) := by decide +kernel
theorem dX9_mark_20 : decode cX9_mark 20 = .ok (.ifCond .ne 12, 3) := by decide +kernel
theorem dX9_mark_23 : decode cX9_mark 23 = .ok (.goto 7, 3) := by decide +kernel
theorem dX9_mark_26 : decode cX9_mark 26 = .ok (.iload_n 2, 1) := by decide +kernel
theorem dX9_mark_27 : decode cX9_mark 27 = .ok (.ifCond .eq 5, 3) := by decide +kernel
theorem dX9_mark_30 : decode cX9_mark 30 = .ok (.iconst 0, 1) := by decide +kernel
theorem dX9_mark_31 : decode cX9_mark 31 = .ok (.ireturn, 1) := by decide +kernel
theorem dX9_mark_32 : decode cX9_mark 32 = .ok (.aload_n 0, 1) := by decide +kernel
theorem dX9_mark_33 : decode cX9_mark 33 = .ok (.bipush 6, 2) := by decide +kernel
theorem dX9_mark_35 : decode cX9_mark 35 = .ok (.iload_n 1, 1) := by decide +kernel
theorem dX9_mark_36 : decode cX9_mark 36 = .ok (.iload_n 2, 1) := by decide +kernel
theorem dX9_mark_37 : decode cX9_mark 37 = .ok (.invokevirtual 100, 3) := by decide +kernel
theorem dX9_mark_40 : decode cX9_mark 40 = .ok (.ireturn, 1) := by decide +kernel
theorem dX9_lens_0 : decode cX9_lens 0 = .ok (.iload_n 1, 1) := by decide +kernel
theorem dX9_lens_1 : decode cX9_lens 1 = .ok (.ifCond .ne 12, 3) := by decide +kernel
theorem dX9_lens_4 : decode cX9_lens 4 = .ok (.iload_n 2, 1) := by decide +kernel
theorem dX9_lens_5 : decode cX9_lens 5 = .ok (.iconst 1, 1) := by decide +kernel
theorem dX9_lens_6 : decode cX9_lens 6 = .ok (.iconst 5, 1) := by decide +kernel
theorem dX9_lens_7 : decode cX9_lens 7 = .ok (.invokestatic 80, 3) := by decide +kernel
theorem dX9_lens_10 : decode cX9_lens 10 = .ok (.goto 71, 3) := by decide +kernel
theorem dX9_lens_13 : decode cX9_lens 13 = .ok (.iload_n 1, 1) := by decide +kernel
theorem dX9_lens_14 : decode cX9_lens 14 = .ok (.iconst 1, 1) := by decide +kernel
theorem dX9_lens_15 : decode cX9_lens 15 = .ok (.if_icmp .ne 14, 3) := by decide +kernel
theorem dX9_lens_18 : decode cX9_lens 18 = .ok (.iload_n 2, 1) := by decide +kernel
theorem dX9_lens_19 : decode cX9_lens 19 = .ok (.iconst 0, 1) := by decide +kernel
theorem dX9_lens_20 : decode cX9_lens 20 = .ok (.sipush 9999, 3) := by decide +kernel
theorem dX9_lens_23 : decode cX9_lens 23 = .ok (.invokestatic 80, 3) := by decide +kernel
theorem dX9_lens_26 : decode cX9_lens 26 = .ok (.goto 55, 3) := by decide +kernel
theorem dX9_lens_29 : decode cX9_lens 29 = .ok (.iload_n 1, 1) := by decide +kernel
theorem dX9_lens_30 : decode cX9_lens 30 = .ok (.iconst 2, 1) := by decide +kernel
theorem dX9_lens_31 : decode cX9_lens 31 = .ok (.if_icmp .ne 15, 3) := by decide +kernel
theorem dX9_lens_34 : decode cX9_lens 34 = .ok (.iload_n 2, 1) := by decide +kernel
theorem dX9_lens_35 : decode cX9_lens 35 = .ok (.ifCond .ne 7, 3) := by decide +kernel
theorem dX9_lens_38 : decode cX9_lens 38 = .ok (.iconst 1, 1) := by decide +kernel
theorem dX9_lens_39 : decode cX9_lens 39 = .ok (.goto 42, 3) := by decide +kernel
theorem dX9_lens_42 : decode cX9_lens 42 = .ok (.iconst 0, 1) := by decide +kernel
theorem dX9_lens_43 : decode cX9_lens 43 = .ok (.goto 38, 3) := by decide +kernel
theorem dX9_lens_46 : decode cX9_lens 46 = .ok (.iload_n 1, 1) := by decide +kernel
theorem dX9_lens_47 : decode cX9_lens 47 = .ok (.iconst 3, 1) := by decide +kernel
theorem dX9_lens_48 : decode cX9_lens 48 = .ok (.if_icmp .ne 13, 3) := by decide +kernel
theorem dX9_lens_51 : decode cX9_lens 51 = .ok (.iload_n 2, 1) := by decide +kernel
theorem dX9_lens_52 : decode cX9_lens 52 = .ok (.iconst 1, 1) := by decide +kernel
theorem dX9_lens_53 : decode cX9_lens 53 = .ok (.bipush 30, 2) := by decide +kernel
theorem dX9_lens_55 : decode cX9_lens 55 = .ok (.invokestatic 80, 3) := by decide +kernel
theorem dX9_lens_58 : decode cX9_lens 58 = .ok (.goto 23, 3) := by decide +kernel
theorem dX9_lens_61 : decode cX9_lens 61 = .ok (.iload_n 1, 1) := by decide +kernel
theorem dX9_lens_62 : decode cX9_lens 62 = .ok (.iconst 4, 1) := by decide +kernel
theorem dX9_lens_63 : decode cX9_lens 63 = .ok (.if_icmp .ne 17, 3) := by decide +kernel
theorem dX9_lens_66 : decode cX9_lens 66 = .ok (.iload_n 2, 1) := by decide +kernel
theorem dX9_lens_67 : decode cX9_lens 67 = .ok (.iconst 1, 1) := by decide +kernel
theorem dX9_lens_68 : decode cX9_lens 68 = .ok (.bipush 9, 2) := by decide +kernel
theorem dX9_lens_70 : decode cX9_lens 70 = .ok (.invokestatic 80, 3) := by decide +kernel
theorem dX9_lens_73 : decode cX9_lens 73 = .ok (.ifCond .eq 7, 3) := by decide +kernel
theorem dX9_lens_76 : decode cX9_lens 76 = .ok (.iconst 1, 1) := by decide +kernel
theorem dX9_lens_77 : decode cX9_lens 77 = .ok (.goto 4, 3) := by decide +kernel
theorem dX9_lens_80 : decode cX9_lens 80 = .ok (.iconst 0, 1) := by decide +kernel
theorem dX9_lens_81 : decode cX9_lens 81 = .ok (.istore_n 3, 1) := by decide +kernel
theorem dX9_lens_82 : decode cX9_lens 82 = .ok (.iload_n 3, 1) := by decide +kernel
theorem dX9_lens_83 : decode cX9_lens 83 = .ok (.ifCond .eq 11, 3) := by decide +kernel
theorem dX9_lens_86 : decode cX9_lens 86 = .ok (.aload_n 0, 1) := by decide +kernel
theorem dX9_lens_87 : decode cX9_lens 87 = .ok (.getfield 104, 3) := by decide +kernel
theorem dX9_lens_90 : decode cX9_lens 90 = .ok (.iconst 4, 1) := by decide +kernel
theorem dX9_lens_91 : decode cX9_lens 91 = .ok (.if_icmp .ne 5, 3) := by decide +kernel
theorem dX9_lens_94 : decode cX9_lens 94 = .ok (.iconst (-1), 1) := by decide +kernel
theorem dX9_lens_95 : decode cX9_lens 95 = .ok (.ireturn, 1) := by decide +kernel
theorem dX9_lens_96 : decode cX9_lens 96 = .ok (.aload_n 0, 1) := by decide +kernel
theorem dX9_lens_97 : decode cX9_lens 97 = .ok (.getfield 16, 3) := by decide +kernel
theorem dX9_lens_100 : decode cX9_lens 100 = .ok (.aload_n 0, 1) := by decide +kernel
theorem dX9_lens_101 : decode cX9_lens 101 = .ok (.getfield 104, 3) := by decide +kernel
theorem dX9_lens_104 : decode cX9_lens 104 = .ok (.iload_n 1, 1) := by decide +kernel
theorem dX9_lens_105 : decode cX9_lens 105 = .ok (.iastore, 1) := by decide +kernel
theorem dX9_lens_106 : decode cX9_lens 106 = .ok (.aload_n 0, 1) := by decide +kernel
theorem dX9_lens_107 : decode cX9_lens 107 = .ok (.getfield 19, 3) := by decide +kernel
theorem dX9_lens_110 : decode cX9_lens 110 = .ok (.aload_n 0, 1) := by decide +kernel
theorem dX9_lens_111 : decode cX9_lens 111 = .ok (.getfield 104, 3) := by decide +kernel
theorem dX9_lens_114 : decode cX9_lens 114 = .ok (.iload_n 2, 1) := by decide +kernel
theorem dX9_lens_115 : decode cX9_lens 115 = .ok (.iastore, 1) := by decide +kernel
theorem dX9_lens_116 : decode cX9_lens 116 = .ok (.aload_n 0, 1) := by decide +kernel
theorem dX9_lens_117 : decode cX9_lens 117 = .ok (.dup, 1) := by decide +kernel
theorem dX9_lens_118 : decode cX9_lens 118 = .ok (.getfield 104, 3) := by decide +kernel
theorem dX9_lens_121 : decode cX9_lens 121 = .ok (.iconst 1, 1) := by decide +kernel
theorem dX9_lens_122 : decode cX9_lens 122 = .ok (.iadd, 1) := by decide +kernel
theorem dX9_lens_123 : decode cX9_lens 123 = .ok (.putfield 104, 3) := by decide +kernel
theorem dX9_lens_126 : decode cX9_lens 126 = .ok (.aload_n 0, 1) := by decide +kernel
theorem dX9_lens_127 : decode cX9_lens 127 = .ok (.getfield 104, 3) := by decide +kernel
theorem dX9_lens_130 : decode cX9_lens 130 = .ok (.ireturn, 1) := by decide +kernel
theorem dX9_off_0 : decode cX9_off 0 = .ok (.aload_n 0, 1) := by decide +kernel
theorem dX9_off_1 : decode cX9_off 1 = .ok (.getfield 104, 3) := by decide +kernel
theorem dX9_off_4 : decode cX9_off 4 = .ok (.ifCond .ne 5, 3) := by decide +kernel
theorem dX9_off_7 : decode cX9_off 7 = .ok (.iconst (-1), 1) := by decide +kernel
theorem dX9_off_8 : decode cX9_off 8 = .ok (.ireturn, 1) := by decide +kernel
theorem dX9_off_9 : decode cX9_off 9 = .ok (.aload_n 0, 1) := by decide +kernel
theorem dX9_off_10 : decode cX9_off 10 = .ok (.dup, 1) := by decide +kernel
theorem dX9_off_11 : decode cX9_off 11 = .ok (.getfield 104, 3) := by decide +kernel
theorem dX9_off_14 : decode cX9_off 14 = .ok (.iconst 1, 1) := by decide +kernel
theorem dX9_off_15 : decode cX9_off 15 = .ok (.isub, 1) := by decide +kernel
theorem dX9_off_16 : decode cX9_off 16 = .ok (.putfield 104, 3) := by decide +kernel
theorem dX9_off_19 : decode cX9_off 19 = .ok (.aload_n 0, 1) := by decide +kernel
theorem dX9_off_20 : decode cX9_off 20 = .ok (.getfield 104, 3) := by decide +kernel
theorem dX9_off_23 : decode cX9_off 23 = .ok (.ireturn, 1) := by decide +kernel
theorem dX9_laysStretches_0 : decode cX9_laysStretches 0 = .ok (.aload_n 0, 1) := by decide +kernel
theorem dX9_laysStretches_1 : decode cX9_laysStretches 1 = .ok (.iconst 0, 1) := by decide +kernel
theorem dX9_laysStretches_2 : decode cX9_laysStretches 2 = .ok (.putfield 107, 3) := by decide +kernel
theorem dX9_laysStretches_5 : decode cX9_laysStretches 5 = .ok (.iconst 0, 1) := by decide +kernel
theorem dX9_laysStretches_6 : decode cX9_laysStretches 6 = .ok (.istore_n 1, 1) := by decide +kernel
theorem dX9_laysStretches_7 : decode cX9_laysStretches 7 = .ok (.iload_n 1, 1) := by decide +kernel
theorem dX9_laysStretches_8 : decode cX9_laysStretches 8 = .ok (.aload_n 0, 1) := by decide +kernel
theorem dX9_laysStretches_9 : decode cX9_laysStretches 9 = .ok (.getfield 88, 3) := by decide +kernel
theorem dX9_laysStretches_12 : decode cX9_laysStretches 12 = .ok (.if_icmp .ge 21, 3) := by decide +kernel
theorem dX9_laysStretches_15 : decode cX9_laysStretches 15 = .ok (.aload_n 0, 1) := by decide +kernel
theorem dX9_laysStretches_16 : decode cX9_laysStretches 16 = .ok (.getfield 25, 3) := by decide +kernel
theorem dX9_laysStretches_19 : decode cX9_laysStretches 19 = .ok (.iload_n 1, 1) := by decide +kernel
theorem dX9_laysStretches_20 : decode cX9_laysStretches 20 = .ok (.aload_n 0, 1) := by decide +kernel
theorem dX9_laysStretches_21 : decode cX9_laysStretches 21 = .ok (.getfield 7, 3) := by decide +kernel
theorem dX9_laysStretches_24 : decode cX9_laysStretches 24 = .ok (.iload_n 1, 1) := by decide +kernel
theorem dX9_laysStretches_25 : decode cX9_laysStretches 25 = .ok (.iaload, 1) := by decide +kernel
theorem dX9_laysStretches_26 : decode cX9_laysStretches 26 = .ok (.iastore, 1) := by decide +kernel
theorem dX9_laysStretches_27 : decode cX9_laysStretches 27 = .ok (.iinc 1 1, 3) := by decide +kernel
theorem dX9_laysStretches_30 : decode cX9_laysStretches 30 = .ok (.goto (-23), 3) := by decide +kernel
theorem dX9_laysStretches_33 : decode cX9_laysStretches 33 = .ok (.iconst 0, 1) := by decide +kernel
theorem dX9_laysStretches_34 : decode cX9_laysStretches 34 = .ok (.istore_n 1, 1) := by decide +kernel
theorem dX9_laysStretches_35 : decode cX9_laysStretches 35 = .ok (.iload_n 1, 1) := by decide +kernel
theorem dX9_laysStretches_36 : decode cX9_laysStretches 36 = .ok (.aload_n 0, 1) := by decide +kernel
theorem dX9_laysStretches_37 : decode cX9_laysStretches 37 = .ok (.getfield 88, 3) := by decide +kernel
theorem dX9_laysStretches_40 : decode cX9_laysStretches 40 = .ok (.if_icmp .ge 172, 3) := by decide +kernel
theorem dX9_laysStretches_43 : decode cX9_laysStretches 43 = .ok (.aload_n 0, 1) := by decide +kernel
theorem dX9_laysStretches_44 : decode cX9_laysStretches 44 = .ok (.getfield 7, 3) := by decide +kernel
theorem dX9_laysStretches_47 : decode cX9_laysStretches 47 = .ok (.iload_n 1, 1) := by decide +kernel
theorem dX9_laysStretches_48 : decode cX9_laysStretches 48 = .ok (.iaload, 1) := by decide +kernel
theorem dX9_laysStretches_49 : decode cX9_laysStretches 49 = .ok (.sipush (-32768), 3) := by decide +kernel
theorem dX9_laysStretches_52 : decode cX9_laysStretches 52 = .ok (.if_icmp .ne 154, 3) := by decide +kernel
theorem dX9_laysStretches_55 : decode cX9_laysStretches 55 = .ok (.iload_n 1, 1) := by decide +kernel
theorem dX9_laysStretches_56 : decode cX9_laysStretches 56 = .ok (.ifCond .le 20, 3) := by decide +kernel
theorem dX9_laysStretches_59 : decode cX9_laysStretches 59 = .ok (.aload_n 0, 1) := by decide +kernel
theorem dX9_laysStretches_60 : decode cX9_laysStretches 60 = .ok (.getfield 7, 3) := by decide +kernel
theorem dX9_laysStretches_63 : decode cX9_laysStretches 63 = .ok (.iload_n 1, 1) := by decide +kernel
theorem dX9_laysStretches_64 : decode cX9_laysStretches 64 = .ok (.iconst 1, 1) := by decide +kernel
theorem dX9_laysStretches_65 : decode cX9_laysStretches 65 = .ok (.isub, 1) := by decide +kernel
theorem dX9_laysStretches_66 : decode cX9_laysStretches 66 = .ok (.iaload, 1) := by decide +kernel
theorem dX9_laysStretches_67 : decode cX9_laysStretches 67 = .ok (.sipush (-32768), 3) := by decide +kernel
theorem dX9_laysStretches_70 : decode cX9_laysStretches 70 = .ok (.if_icmp .ne 6, 3) := by decide +kernel
theorem dX9_laysStretches_73 : decode cX9_laysStretches 73 = .ok (.goto 133, 3) := by decide +kernel
theorem dX9_laysStretches_76 : decode cX9_laysStretches 76 = .ok (.iload_n 1, 1) := by decide +kernel
theorem dX9_laysStretches_77 : decode cX9_laysStretches 77 = .ok (.istore_n 2, 1) := by decide +kernel
theorem dX9_laysStretches_78 : decode cX9_laysStretches 78 = .ok (.iload_n 2, 1) := by decide +kernel
theorem dX9_laysStretches_79 : decode cX9_laysStretches 79 = .ok (.aload_n 0, 1) := by decide +kernel
theorem dX9_laysStretches_80 : decode cX9_laysStretches 80 = .ok (.getfield 88, 3) := by decide +kernel
theorem dX9_laysStretches_83 : decode cX9_laysStretches 83 = .ok (.if_icmp .ge 21, 3) := by decide +kernel
theorem dX9_laysStretches_86 : decode cX9_laysStretches 86 = .ok (.aload_n 0, 1) := by decide +kernel
theorem dX9_laysStretches_87 : decode cX9_laysStretches 87 = .ok (.getfield 7, 3) := by decide +kernel
theorem dX9_laysStretches_90 : decode cX9_laysStretches 90 = .ok (.iload_n 2, 1) := by decide +kernel
theorem dX9_laysStretches_91 : decode cX9_laysStretches 91 = .ok (.iaload, 1) := by decide +kernel
theorem dX9_laysStretches_92 : decode cX9_laysStretches 92 = .ok (.sipush (-32768), 3) := by decide +kernel
theorem dX9_laysStretches_95 : decode cX9_laysStretches 95 = .ok (.if_icmp .ne 9, 3) := by decide +kernel
theorem dX9_laysStretches_98 : decode cX9_laysStretches 98 = .ok (.iinc 2 1, 3) := by decide +kernel
theorem dX9_laysStretches_101 : decode cX9_laysStretches 101 = .ok (.goto (-23), 3) := by decide +kernel
theorem dX9_laysStretches_104 : decode cX9_laysStretches 104 = .ok (.iload_n 2, 1) := by decide +kernel
theorem dX9_laysStretches_105 : decode cX9_laysStretches 105 = .ok (.iload_n 1, 1) := by decide +kernel
theorem dX9_laysStretches_106 : decode cX9_laysStretches 106 = .ok (.isub, 1) := by decide +kernel
theorem dX9_laysStretches_107 : decode cX9_laysStretches 107 = .ok (.istore_n 3, 1) := by decide +kernel
theorem dX9_laysStretches_108 : decode cX9_laysStretches 108 = .ok (.iload_n 1, 1) := by decide +kernel
theorem dX9_laysStretches_109 : decode cX9_laysStretches 109 = .ok (.ifCond .eq 97, 3) := by decide +kernel
theorem dX9_laysStretches_112 : decode cX9_laysStretches 112 = .ok (.iload_n 2, 1) := by decide +kernel
theorem dX9_laysStretches_113 : decode cX9_laysStretches 113 = .ok (.aload_n 0, 1) := by decide +kernel
theorem dX9_laysStretches_114 : decode cX9_laysStretches 114 = .ok (.getfield 88, 3) := by decide +kernel
theorem dX9_laysStretches_117 : decode cX9_laysStretches 117 = .ok (.if_icmp .eq 89, 3) := by decide +kernel
theorem dX9_laysStretches_120 : decode cX9_laysStretches 120 = .ok (.iload_n 3, 1) := by decide +kernel
theorem dX9_laysStretches_121 : decode cX9_laysStretches 121 = .ok (.aload_n 0, 1) := by decide +kernel
theorem dX9_laysStretches_122 : decode cX9_laysStretches 122 = .ok (.getfield 13, 3) := by decide +kernel
theorem dX9_laysStretches_125 : decode cX9_laysStretches 125 = .ok (.iconst 0, 1) := by decide +kernel
theorem dX9_laysStretches_126 : decode cX9_laysStretches 126 = .ok (.iaload, 1) := by decide +kernel
theorem dX9_laysStretches_127 : decode cX9_laysStretches 127 = .ok (.if_icmp .le 6, 3) := by decide +kernel
theorem dX9_laysStretches_130 : decode cX9_laysStretches 130 = .ok (.goto 76, 3) := by decide +kernel
theorem dX9_laysStretches_133 : decode cX9_laysStretches 133 = .ok (.iconst 1, 1) := by decide +kernel
theorem dX9_laysStretches_134 : decode cX9_laysStretches 134 = .ok (.istore 4, 2) := by decide +kernel
theorem dX9_laysStretches_136 : decode cX9_laysStretches 136 = .ok (.iload 4, 2) := by decide +kernel
theorem dX9_laysStretches_138 : decode cX9_laysStretches 138 = .ok (.iload_n 3, 1) := by decide +kernel
theorem dX9_laysStretches_139 : decode cX9_laysStretches 139 = .ok (.if_icmp .gt 57, 3) := by decide +kernel
theorem dX9_laysStretches_142 : decode cX9_laysStretches 142 = .ok (.aload_n 0, 1) := by decide +kernel
theorem dX9_laysStretches_143 : decode cX9_laysStretches 143 = .ok (.getfield 25, 3) := by decide +kernel
theorem dX9_laysStretches_146 : decode cX9_laysStretches 146 = .ok (.iload_n 1, 1) := by decide +kernel
theorem dX9_laysStretches_147 : decode cX9_laysStretches 147 = .ok (.iload 4, 2) := by decide +kernel
theorem dX9_laysStretches_149 : decode cX9_laysStretches 149 = .ok (.iadd, 1) := by decide +kernel
theorem dX9_laysStretches_150 : decode cX9_laysStretches 150 = .ok (.iconst 1, 1) := by decide +kernel
theorem dX9_laysStretches_151 : decode cX9_laysStretches 151 = .ok (.isub, 1) := by decide +kernel
theorem dX9_laysStretches_152 : decode cX9_laysStretches 152 = .ok (.aload_n 0, 1) := by decide +kernel
theorem dX9_laysStretches_153 : decode cX9_laysStretches 153 = .ok (.getfield 7, 3) := by decide +kernel
theorem dX9_laysStretches_156 : decode cX9_laysStretches 156 = .ok (.iload_n 1, 1) := by decide +kernel
theorem dX9_laysStretches_157 : decode cX9_laysStretches 157 = .ok (.iconst 1, 1) := by decide +kernel
theorem dX9_laysStretches_158 : decode cX9_laysStretches 158 = .ok (.isub, 1) := by decide +kernel
theorem dX9_laysStretches_159 : decode cX9_laysStretches 159 = .ok (.iaload, 1) := by decide +kernel
theorem dX9_laysStretches_160 : decode cX9_laysStretches 160 = .ok (.i2l, 1) := by decide +kernel
theorem dX9_laysStretches_161 : decode cX9_laysStretches 161 = .ok (.iload_n 3, 1) := by decide +kernel
theorem dX9_laysStretches_162 : decode cX9_laysStretches 162 = .ok (.iconst 1, 1) := by decide +kernel
theorem dX9_laysStretches_163 : decode cX9_laysStretches 163 = .ok (.iadd, 1) := by decide +kernel
theorem dX9_laysStretches_164 : decode cX9_laysStretches 164 = .ok (.iload 4, 2) := by decide +kernel
theorem dX9_laysStretches_166 : decode cX9_laysStretches 166 = .ok (.isub, 1) := by decide +kernel
theorem dX9_laysStretches_167 : decode cX9_laysStretches 167 = .ok (.i2l, 1) := by decide +kernel
theorem dX9_laysStretches_168 : decode cX9_laysStretches 168 = .ok (.lmul, 1) := by decide +kernel
theorem dX9_laysStretches_169 : decode cX9_laysStretches 169 = .ok (.aload_n 0, 1) := by decide +kernel
theorem dX9_laysStretches_170 : decode cX9_laysStretches 170 = .ok (.getfield 7, 3) := by decide +kernel
theorem dX9_laysStretches_173 : decode cX9_laysStretches 173 = .ok (.iload_n 2, 1) := by decide +kernel
theorem dX9_laysStretches_174 : decode cX9_laysStretches 174 = .ok (.iaload, 1) := by decide +kernel
theorem dX9_laysStretches_175 : decode cX9_laysStretches 175 = .ok (.i2l, 1) := by decide +kernel
theorem dX9_laysStretches_176 : decode cX9_laysStretches 176 = .ok (.iload 4, 2) := by decide +kernel
theorem dX9_laysStretches_178 : decode cX9_laysStretches 178 = .ok (.i2l, 1) := by decide +kernel
theorem dX9_laysStretches_179 : decode cX9_laysStretches 179 = .ok (.lmul, 1) := by decide +kernel
theorem dX9_laysStretches_180 : decode cX9_laysStretches 180 = .ok (.ladd, 1) := by decide +kernel
theorem dX9_laysStretches_181 : decode cX9_laysStretches 181 = .ok (.iload_n 3, 1) := by decide +kernel
theorem dX9_laysStretches_182 : decode cX9_laysStretches 182 = .ok (.iconst 1, 1) := by decide +kernel
theorem dX9_laysStretches_183 : decode cX9_laysStretches 183 = .ok (.iadd, 1) := by decide +kernel
theorem dX9_laysStretches_184 : decode cX9_laysStretches 184 = .ok (.i2l, 1) := by decide +kernel
theorem dX9_laysStretches_185 : decode cX9_laysStretches 185 = .ok (.invokestatic 110, 3) := by decide +kernel
theorem dX9_laysStretches_188 : decode cX9_laysStretches 188 = .ok (.l2i, 1) := by decide +kernel
theorem dX9_laysStretches_189 : decode cX9_laysStretches 189 = .ok (.iastore, 1) := by decide +kernel
theorem dX9_laysStretches_190 : decode cX9_laysStretches 190 = .ok (.iinc 4 1, 3) := by decide +kernel
theorem dX9_laysStretches_193 : decode cX9_laysStretches 193 = .ok (.goto (-57), 3) := by decide +kernel
theorem dX9_laysStretches_196 : decode cX9_laysStretches 196 = .ok (.aload_n 0, 1) := by decide +kernel
theorem dX9_laysStretches_197 : decode cX9_laysStretches 197 = .ok (.dup, 1) := by decide +kernel
theorem dX9_laysStretches_198 : decode cX9_laysStretches 198 = .ok (.getfield 107, 3) := by decide +kernel
theorem dX9_laysStretches_201 : decode cX9_laysStretches 201 = .ok (.iload_n 3, 1) := by decide +kernel
theorem dX9_laysStretches_202 : decode cX9_laysStretches 202 = .ok (.iadd, 1) := by decide +kernel
theorem dX9_laysStretches_203 : decode cX9_laysStretches 203 = .ok (.putfield 107, 3) := by decide +kernel
theorem dX9_laysStretches_206 : decode cX9_laysStretches 206 = .ok (.iinc 1 1, 3) := by decide +kernel
theorem dX9_laysStretches_209 : decode cX9_laysStretches 209 = .ok (.goto (-174), 3) := by decide +kernel
theorem dX9_laysStretches_212 : decode cX9_laysStretches 212 = .ok (.aload_n 0, 1) := by decide +kernel
theorem dX9_laysStretches_213 : decode cX9_laysStretches 213 = .ok (.iconst 0, 1) := by decide +kernel
theorem dX9_laysStretches_214 : decode cX9_laysStretches 214 = .ok (.putfield 114, 3) := by decide +kernel
theorem dX9_laysStretches_217 : decode cX9_laysStretches 217 = .ok (.iconst 0, 1) := by decide +kernel
theorem dX9_laysStretches_218 : decode cX9_laysStretches 218 = .ok (.istore_n 1, 1) := by decide +kernel
theorem dX9_laysStretches_219 : decode cX9_laysStretches 219 = .ok (.iload_n 1, 1) := by decide +kernel
theorem dX9_laysStretches_220 : decode cX9_laysStretches 220 = .ok (.aload_n 0, 1) := by decide +kernel
theorem dX9_laysStretches_221 : decode cX9_laysStretches 221 = .ok (.getfield 88, 3) := by decide +kernel
theorem dX9_laysStretches_224 : decode cX9_laysStretches 224 = .ok (.if_icmp .ge 81, 3) := by decide +kernel
theorem dX9_laysStretches_227 : decode cX9_laysStretches 227 = .ok (.aload_n 0, 1) := by decide +kernel
theorem dX9_laysStretches_228 : decode cX9_laysStretches 228 = .ok (.getfield 28, 3) := by decide +kernel
theorem dX9_laysStretches_231 : decode cX9_laysStretches 231 = .ok (.iload_n 1, 1) := by decide +kernel
theorem dX9_laysStretches_232 : decode cX9_laysStretches 232 = .ok (.iconst (-1), 1) := by decide +kernel
theorem dX9_laysStretches_233 : decode cX9_laysStretches 233 = .ok (.iastore, 1) := by decide +kernel
theorem dX9_laysStretches_234 : decode cX9_laysStretches 234 = .ok (.aload_n 0, 1) := by decide +kernel
theorem dX9_laysStretches_235 : decode cX9_laysStretches 235 = .ok (.getfield 25, 3) := by decide +kernel
theorem dX9_laysStretches_238 : decode cX9_laysStretches 238 = .ok (.iload_n 1, 1) := by decide +kernel
theorem dX9_laysStretches_239 : decode cX9_laysStretches 239 = .ok (.iaload, 1) := by decide +kernel
theorem dX9_laysStretches_240 : decode cX9_laysStretches 240 = .ok (.sipush (-32768), 3) := by decide +kernel
theorem dX9_laysStretches_243 : decode cX9_laysStretches 243 = .ok (.if_icmp .ne 6, 3) := by decide +kernel
theorem dX9_laysStretches_246 : decode cX9_laysStretches 246 = .ok (.goto 53, 3) := by decide +kernel
theorem dX9_laysStretches_249 : decode cX9_laysStretches 249 = .ok (.iload_n 1, 1) := by decide +kernel
theorem dX9_laysStretches_250 : decode cX9_laysStretches 250 = .ok (.ifCond .eq 17, 3) := by decide +kernel
theorem dX9_laysStretches_253 : decode cX9_laysStretches 253 = .ok (.aload_n 0, 1) := by decide +kernel
theorem dX9_laysStretches_254 : decode cX9_laysStretches 254 = .ok (.getfield 25, 3) := by decide +kernel
theorem dX9_laysStretches_257 : decode cX9_laysStretches 257 = .ok (.iload_n 1, 1) := by decide +kernel
theorem dX9_laysStretches_258 : decode cX9_laysStretches 258 = .ok (.iconst 1, 1) := by decide +kernel
theorem dX9_laysStretches_259 : decode cX9_laysStretches 259 = .ok (.isub, 1) := by decide +kernel
theorem dX9_laysStretches_260 : decode cX9_laysStretches 260 = .ok (.iaload, 1) := by decide +kernel
theorem dX9_laysStretches_261 : decode cX9_laysStretches 261 = .ok (.sipush (-32768), 3) := by decide +kernel
theorem dX9_laysStretches_264 : decode cX9_laysStretches 264 = .ok (.if_icmp .ne 23, 3) := by decide +kernel
theorem dX9_laysStretches_267 : decode cX9_laysStretches 267 = .ok (.aload_n 0, 1) := by decide +kernel
theorem dX9_laysStretches_268 : decode cX9_laysStretches 268 = .ok (.getfield 31, 3) := by decide +kernel
theorem dX9_laysStretches_271 : decode cX9_laysStretches 271 = .ok (.aload_n 0, 1) := by decide +kernel
theorem dX9_laysStretches_272 : decode cX9_laysStretches 272 = .ok (.getfield 114, 3) := by decide +kernel
theorem dX9_laysStretches_275 : decode cX9_laysStretches 275 = .ok (.iload_n 1, 1) := by decide +kernel
theorem dX9_laysStretches_276 : decode cX9_laysStretches 276 = .ok (.iastore, 1) := by decide +kernel
theorem dX9_laysStretches_277 : decode cX9_laysStretches 277 = .ok (.aload_n 0, 1) := by decide +kernel
theorem dX9_laysStretches_278 : decode cX9_laysStretches 278 = .ok (.dup, 1) := by decide +kernel
theorem dX9_laysStretches_279 : decode cX9_laysStretches 279 = .ok (.getfield 114, 3) := by decide +kernel
theorem dX9_laysStretches_282 : decode cX9_laysStretches 282 = .ok (.iconst 1, 1) := by decide +kernel
theorem dX9_laysStretches_283 : decode cX9_laysStretches 283 = .ok (.iadd, 1) := by decide +kernel
theorem dX9_laysStretches_284 : decode cX9_laysStretches 284 = .ok (.putfield 114, 3) := by decide +kernel
theorem dX9_laysStretches_287 : decode cX9_laysStretches 287 = .ok (.aload_n 0, 1) := by decide +kernel
theorem dX9_laysStretches_288 : decode cX9_laysStretches 288 = .ok (.getfield 28, 3) := by decide +kernel
theorem dX9_laysStretches_291 : decode cX9_laysStretches 291 = .ok (.iload_n 1, 1) := by decide +kernel
theorem dX9_laysStretches_292 : decode cX9_laysStretches 292 = .ok (.aload_n 0, 1) := by decide +kernel
theorem dX9_laysStretches_293 : decode cX9_laysStretches 293 = .ok (.getfield 114, 3) := by decide +kernel
theorem dX9_laysStretches_296 : decode cX9_laysStretches 296 = .ok (.iconst 1, 1) := by decide +kernel
theorem dX9_laysStretches_297 : decode cX9_laysStretches 297 = .ok (.isub, 1) := by decide +kernel
theorem dX9_laysStretches_298 : decode cX9_laysStretches 298 = .ok (.iastore, 1) := by decide +kernel
theorem dX9_laysStretches_299 : decode cX9_laysStretches 299 = .ok (.iinc 1 1, 3) := by decide +kernel
theorem dX9_laysStretches_302 : decode cX9_laysStretches 302 = .ok (.goto (-83), 3) := by decide +kernel
theorem dX9_laysStretches_305 : decode cX9_laysStretches 305 = .ok (.return_, 1) := by decide +kernel
theorem dX9_endOf_0 : decode cX9_endOf 0 = .ok (.aload_n 0, 1) := by decide +kernel
theorem dX9_endOf_1 : decode cX9_endOf 1 = .ok (.getfield 31, 3) := by decide +kernel
theorem dX9_endOf_4 : decode cX9_endOf 4 = .ok (.iload_n 1, 1) := by decide +kernel
theorem dX9_endOf_5 : decode cX9_endOf 5 = .ok (.iaload, 1) := by decide +kernel
theorem dX9_endOf_6 : decode cX9_endOf 6 = .ok (.istore_n 2, 1) := by decide +kernel
theorem dX9_endOf_7 : decode cX9_endOf 7 = .ok (.iload_n 2, 1) := by decide +kernel
theorem dX9_endOf_8 : decode cX9_endOf 8 = .ok (.aload_n 0, 1) := by decide +kernel
theorem dX9_endOf_9 : decode cX9_endOf 9 = .ok (.getfield 88, 3) := by decide +kernel
theorem dX9_endOf_12 : decode cX9_endOf 12 = .ok (.if_icmp .ge 21, 3) := by decide +kernel
theorem dX9_endOf_15 : decode cX9_endOf 15 = .ok (.aload_n 0, 1) := by decide +kernel
theorem dX9_endOf_16 : decode cX9_endOf 16 = .ok (.getfield 25, 3) := by decide +kernel
theorem dX9_endOf_19 : decode cX9_endOf 19 = .ok (.iload_n 2, 1) := by decide +kernel
theorem dX9_endOf_20 : decode cX9_endOf 20 = .ok (.iaload, 1) := by decide +kernel
theorem dX9_endOf_21 : decode cX9_endOf 21 = .ok (.sipush (-32768), 3) := by decide +kernel
theorem dX9_endOf_24 : decode cX9_endOf 24 = .ok (.if_icmp .eq 9, 3) := by decide +kernel
theorem dX9_endOf_27 : decode cX9_endOf 27 = .ok (.iinc 2 1, 3) := by decide +kernel
theorem dX9_endOf_30 : decode cX9_endOf 30 = .ok (.goto (-23), 3) := by decide +kernel
theorem dX9_endOf_33 : decode cX9_endOf 33 = .ok (.iload_n 2, 1) := by decide +kernel
theorem dX9_endOf_34 : decode cX9_endOf 34 = .ok (.ireturn, 1) := by decide +kernel
theorem dX9_shownBy_0 : decode cX9_shownBy 0 = .ok (.aload_n 0, 1) := by decide +kernel
theorem dX9_shownBy_1 : decode cX9_shownBy 1 = .ok (.getfield 31, 3) := by decide +kernel
theorem dX9_shownBy_4 : decode cX9_shownBy 4 = .ok (.aload_n 0, 1) := by decide +kernel
theorem dX9_shownBy_5 : decode cX9_shownBy 5 = .ok (.getfield 28, 3) := by decide +kernel
theorem dX9_shownBy_8 : decode cX9_shownBy 8 = .ok (.iload_n 2, 1) := by decide +kernel
theorem dX9_shownBy_9 : decode cX9_shownBy 9 = .ok (.iaload, 1) := by decide +kernel
theorem dX9_shownBy_10 : decode cX9_shownBy 10 = .ok (.iaload, 1) := by decide +kernel
theorem dX9_shownBy_11 : decode cX9_shownBy 11 = .ok (.istore_n 3, 1) := by decide +kernel
theorem dX9_shownBy_12 : decode cX9_shownBy 12 = .ok (.aload_n 0, 1) := by decide +kernel
theorem dX9_shownBy_13 : decode cX9_shownBy 13 = .ok (.getfield 19, 3) := by decide +kernel
theorem dX9_shownBy_16 : decode cX9_shownBy 16 = .ok (.iload_n 1, 1) := by decide +kernel
theorem dX9_shownBy_17 : decode cX9_shownBy 17 = .ok (.iaload, 1) := by decide +kernel
theorem dX9_shownBy_18 : decode cX9_shownBy 18 = .ok (.istore 4, 2) := by decide +kernel
theorem dX9_shownBy_20 : decode cX9_shownBy 20 = .ok (.aload_n 0, 1) := by decide +kernel
theorem dX9_shownBy_21 : decode cX9_shownBy 21 = .ok (.getfield 37, 3) := by decide +kernel
theorem dX9_shownBy_24 : decode cX9_shownBy 24 = .ok (.iload_n 2, 1) := by decide +kernel
theorem dX9_shownBy_25 : decode cX9_shownBy 25 = .ok (.iaload, 1) := by decide +kernel
theorem dX9_shownBy_26 : decode cX9_shownBy 26 = .ok (.istore 5, 2) := by decide +kernel
theorem dX9_shownBy_28 : decode cX9_shownBy 28 = .ok (.aload_n 0, 1) := by decide +kernel
theorem dX9_shownBy_29 : decode cX9_shownBy 29 = .ok (.getfield 16, 3) := by decide +kernel
theorem dX9_shownBy_32 : decode cX9_shownBy 32 = .ok (.iload_n 1, 1) := by decide +kernel
theorem dX9_shownBy_33 : decode cX9_shownBy 33 = .ok (.iaload, 1) := by decide +kernel
theorem dX9_shownBy_34 : decode cX9_shownBy 34 = .ok (.tableswitch 86 0 3 #[30, 38, 67, 71], 30) := by decide +kernel
theorem dX9_shownBy_64 : decode cX9_shownBy 64 = .ok (.aload_n 0, 1) := by decide +kernel
theorem dX9_shownBy_65 : decode cX9_shownBy 65 = .ok (.iload_n 2, 1) := by decide +kernel
theorem dX9_shownBy_66 : decode cX9_shownBy 66 = .ok (.iload 4, 2) := by decide +kernel
theorem dX9_shownBy_68 : decode cX9_shownBy 68 = .ok (.invokevirtual 117, 3) := by decide +kernel
theorem dX9_shownBy_71 : decode cX9_shownBy 71 = .ok (.ireturn, 1) := by decide +kernel
theorem dX9_shownBy_72 : decode cX9_shownBy 72 = .ok (.iload 5, 2) := by decide +kernel
theorem dX9_shownBy_74 : decode cX9_shownBy 74 = .ok (.iload 4, 2) := by decide +kernel
theorem dX9_shownBy_76 : decode cX9_shownBy 76 = .ok (.ineg, 1) := by decide +kernel
theorem dX9_shownBy_77 : decode cX9_shownBy 77 = .ok (.if_icmp .ge 9, 3) := by decide +kernel
theorem dX9_shownBy_80 : decode cX9_shownBy 80 = .ok (.iload 4, 2) := by decide +kernel
theorem dX9_shownBy_82 : decode cX9_shownBy 82 = .ok (.ineg, 1) := by decide +kernel
theorem dX9_shownBy_83 : decode cX9_shownBy 83 = .ok (.goto 17, 3) := by decide +kernel
theorem dX9_shownBy_86 : decode cX9_shownBy 86 = .ok (.iload 5, 2) := by decide +kernel
theorem dX9_shownBy_88 : decode cX9_shownBy 88 = .ok (.iload 4, 2) := by decide +kernel
theorem dX9_shownBy_90 : decode cX9_shownBy 90 = .ok (.if_icmp .le 8, 3) := by decide +kernel
theorem dX9_shownBy_93 : decode cX9_shownBy 93 = .ok (.iload 4, 2) := by decide +kernel
theorem dX9_shownBy_95 : decode cX9_shownBy 95 = .ok (.goto 5, 3) := by decide +kernel
theorem dX9_shownBy_98 : decode cX9_shownBy 98 = .ok (.iload 5, 2) := by decide +kernel
theorem dX9_shownBy_100 : decode cX9_shownBy 100 = .ok (.ireturn, 1) := by decide +kernel
theorem dX9_shownBy_101 : decode cX9_shownBy 101 = .ok (.iload 5, 2) := by decide +kernel
theorem dX9_shownBy_103 : decode cX9_shownBy 103 = .ok (.ineg, 1) := by decide +kernel
theorem dX9_shownBy_104 : decode cX9_shownBy 104 = .ok (.ireturn, 1) := by decide +kernel
theorem dX9_shownBy_105 : decode cX9_shownBy 105 = .ok (.iload 5, 2) := by decide +kernel
theorem dX9_shownBy_107 : decode cX9_shownBy 107 = .ok (.i2l, 1) := by decide +kernel
theorem dX9_shownBy_108 : decode cX9_shownBy 108 = .ok (.iload 4, 2) := by decide +kernel
theorem dX9_shownBy_110 : decode cX9_shownBy 110 = .ok (.i2l, 1) := by decide +kernel
theorem dX9_shownBy_111 : decode cX9_shownBy 111 = .ok (.lmul, 1) := by decide +kernel
theorem dX9_shownBy_112 : decode cX9_shownBy 112 = .ok (.ldc2_w 121, 3) := by decide +kernel
theorem dX9_shownBy_115 : decode cX9_shownBy 115 = .ok (.invokestatic 110, 3) := by decide +kernel
theorem dX9_shownBy_118 : decode cX9_shownBy 118 = .ok (.l2i, 1) := by decide +kernel
theorem dX9_shownBy_119 : decode cX9_shownBy 119 = .ok (.ireturn, 1) := by decide +kernel
theorem dX9_shownBy_120 : decode cX9_shownBy 120 = .ok (.iload_n 2, 1) := by decide +kernel
theorem dX9_shownBy_121 : decode cX9_shownBy 121 = .ok (.iload_n 3, 1) := by decide +kernel
theorem dX9_shownBy_122 : decode cX9_shownBy 122 = .ok (.isub, 1) := by decide +kernel
theorem dX9_shownBy_123 : decode cX9_shownBy 123 = .ok (.iload 4, 2) := by decide +kernel
theorem dX9_shownBy_125 : decode cX9_shownBy 125 = .ok (.if_icmp .ge 7, 3) := by decide +kernel
theorem dX9_shownBy_128 : decode cX9_shownBy 128 = .ok (.iconst 0, 1) := by decide +kernel
theorem dX9_shownBy_129 : decode cX9_shownBy 129 = .ok (.goto 15, 3) := by decide +kernel
theorem dX9_shownBy_132 : decode cX9_shownBy 132 = .ok (.iload 5, 2) := by decide +kernel
theorem dX9_shownBy_134 : decode cX9_shownBy 134 = .ok (.aload_n 0, 1) := by decide +kernel
theorem dX9_shownBy_135 : decode cX9_shownBy 135 = .ok (.getfield 37, 3) := by decide +kernel
theorem dX9_shownBy_138 : decode cX9_shownBy 138 = .ok (.iload_n 2, 1) := by decide +kernel
theorem dX9_shownBy_139 : decode cX9_shownBy 139 = .ok (.iload 4, 2) := by decide +kernel
theorem dX9_shownBy_141 : decode cX9_shownBy 141 = .ok (.isub, 1) := by decide +kernel
theorem dX9_shownBy_142 : decode cX9_shownBy 142 = .ok (.iaload, 1) := by decide +kernel
theorem dX9_shownBy_143 : decode cX9_shownBy 143 = .ok (.isub, 1) := by decide +kernel
theorem dX9_shownBy_144 : decode cX9_shownBy 144 = .ok (.ireturn, 1) := by decide +kernel
theorem dX9_mean_0 : decode cX9_mean 0 = .ok (.lconst 0, 1) := by decide +kernel
theorem dX9_mean_1 : decode cX9_mean 1 = .ok (.lstore_n 3, 1) := by decide +kernel
theorem dX9_mean_2 : decode cX9_mean 2 = .ok (.iconst 0, 1) := by decide +kernel
theorem dX9_mean_3 : decode cX9_mean 3 = .ok (.istore 5, 2) := by decide +kernel
theorem dX9_mean_5 : decode cX9_mean 5 = .ok (.iload_n 1, 1) := by decide +kernel
theorem dX9_mean_6 : decode cX9_mean 6 = .ok (.iload_n 2, 1) := by decide +kernel
theorem dX9_mean_7 : decode cX9_mean 7 = .ok (.isub, 1) := by decide +kernel
theorem dX9_mean_8 : decode cX9_mean 8 = .ok (.istore 6, 2) := by decide +kernel
theorem dX9_mean_10 : decode cX9_mean 10 = .ok (.iload 6, 2) := by decide +kernel
theorem dX9_mean_12 : decode cX9_mean 12 = .ok (.iload_n 1, 1) := by decide +kernel
theorem dX9_mean_13 : decode cX9_mean 13 = .ok (.iload_n 2, 1) := by decide +kernel
theorem dX9_mean_14 : decode cX9_mean 14 = .ok (.iadd, 1) := by decide +kernel
theorem dX9_mean_15 : decode cX9_mean 15 = .ok (.if_icmp .gt 57, 3) := by decide +kernel
theorem dX9_mean_18 : decode cX9_mean 18 = .ok (.iload 6, 2) := by decide +kernel
theorem dX9_mean_20 : decode cX9_mean 20 = .ok (.iconst 0, 1) := by decide +kernel
theorem dX9_mean_21 : decode cX9_mean 21 = .ok (.aload_n 0, 1) := by decide +kernel
theorem dX9_mean_22 : decode cX9_mean 22 = .ok (.getfield 88, 3) := by decide +kernel
theorem dX9_mean_25 : decode cX9_mean 25 = .ok (.iconst 1, 1) := by decide +kernel
theorem dX9_mean_26 : decode cX9_mean 26 = .ok (.isub, 1) := by decide +kernel
theorem dX9_mean_27 : decode cX9_mean 27 = .ok (.invokestatic 80, 3) := by decide +kernel
theorem dX9_mean_30 : decode cX9_mean 30 = .ok (.ifCond .eq 36, 3) := by decide +kernel
theorem dX9_mean_33 : decode cX9_mean 33 = .ok (.aload_n 0, 1) := by decide +kernel
theorem dX9_mean_34 : decode cX9_mean 34 = .ok (.getfield 28, 3) := by decide +kernel
theorem dX9_mean_37 : decode cX9_mean 37 = .ok (.iload 6, 2) := by decide +kernel
theorem dX9_mean_39 : decode cX9_mean 39 = .ok (.iaload, 1) := by decide +kernel
theorem dX9_mean_40 : decode cX9_mean 40 = .ok (.aload_n 0, 1) := by decide +kernel
theorem dX9_mean_41 : decode cX9_mean 41 = .ok (.getfield 28, 3) := by decide +kernel
theorem dX9_mean_44 : decode cX9_mean 44 = .ok (.iload_n 1, 1) := by decide +kernel
theorem dX9_mean_45 : decode cX9_mean 45 = .ok (.iaload, 1) := by decide +kernel
theorem dX9_mean_46 : decode cX9_mean 46 = .ok (.if_icmp .eq 6, 3) := by decide +kernel
theorem dX9_mean_49 : decode cX9_mean 49 = .ok (.goto 17, 3) := by decide +kernel
theorem dX9_mean_52 : decode cX9_mean 52 = .ok (.lload_n 3, 1) := by decide +kernel
theorem dX9_mean_53 : decode cX9_mean 53 = .ok (.aload_n 0, 1) := by decide +kernel
theorem dX9_mean_54 : decode cX9_mean 54 = .ok (.getfield 37, 3) := by decide +kernel
theorem dX9_mean_57 : decode cX9_mean 57 = .ok (.iload 6, 2) := by decide +kernel
theorem dX9_mean_59 : decode cX9_mean 59 = .ok (.iaload, 1) := by decide +kernel
theorem dX9_mean_60 : decode cX9_mean 60 = .ok (.i2l, 1) := by decide +kernel
theorem dX9_mean_61 : decode cX9_mean 61 = .ok (.ladd, 1) := by decide +kernel
theorem dX9_mean_62 : decode cX9_mean 62 = .ok (.lstore_n 3, 1) := by decide +kernel
theorem dX9_mean_63 : decode cX9_mean 63 = .ok (.iinc 5 1, 3) := by decide +kernel
theorem dX9_mean_66 : decode cX9_mean 66 = .ok (.iinc 6 1, 3) := by decide +kernel
theorem dX9_mean_69 : decode cX9_mean 69 = .ok (.goto (-59), 3) := by decide +kernel
theorem dX9_mean_72 : decode cX9_mean 72 = .ok (.lload_n 3, 1) := by decide +kernel
theorem dX9_mean_73 : decode cX9_mean 73 = .ok (.iload 5, 2) := by decide +kernel
theorem dX9_mean_75 : decode cX9_mean 75 = .ok (.i2l, 1) := by decide +kernel
theorem dX9_mean_76 : decode cX9_mean 76 = .ok (.invokestatic 110, 3) := by decide +kernel
theorem dX9_mean_79 : decode cX9_mean 79 = .ok (.l2i, 1) := by decide +kernel
theorem dX9_mean_80 : decode cX9_mean 80 = .ok (.ireturn, 1) := by decide +kernel
theorem dX9_laysShown_0 : decode cX9_laysShown 0 = .ok (.aload_n 0, 1) := by decide +kernel
theorem dX9_laysShown_1 : decode cX9_laysShown 1 = .ok (.invokevirtual 123, 3) := by decide +kernel
theorem dX9_laysShown_4 : decode cX9_laysShown 4 = .ok (.iconst 0, 1) := by decide +kernel
theorem dX9_laysShown_5 : decode cX9_laysShown 5 = .ok (.istore_n 2, 1) := by decide +kernel
theorem dX9_laysShown_6 : decode cX9_laysShown 6 = .ok (.iload_n 2, 1) := by decide +kernel
theorem dX9_laysShown_7 : decode cX9_laysShown 7 = .ok (.aload_n 0, 1) := by decide +kernel
theorem dX9_laysShown_8 : decode cX9_laysShown 8 = .ok (.getfield 88, 3) := by decide +kernel
theorem dX9_laysShown_11 : decode cX9_laysShown 11 = .ok (.if_icmp .ge 21, 3) := by decide +kernel
theorem dX9_laysShown_14 : decode cX9_laysShown 14 = .ok (.aload_n 0, 1) := by decide +kernel
theorem dX9_laysShown_15 : decode cX9_laysShown 15 = .ok (.getfield 34, 3) := by decide +kernel
theorem dX9_laysShown_18 : decode cX9_laysShown 18 = .ok (.iload_n 2, 1) := by decide +kernel
theorem dX9_laysShown_19 : decode cX9_laysShown 19 = .ok (.aload_n 0, 1) := by decide +kernel
theorem dX9_laysShown_20 : decode cX9_laysShown 20 = .ok (.getfield 25, 3) := by decide +kernel
theorem dX9_laysShown_23 : decode cX9_laysShown 23 = .ok (.iload_n 2, 1) := by decide +kernel
theorem dX9_laysShown_24 : decode cX9_laysShown 24 = .ok (.iaload, 1) := by decide +kernel
theorem dX9_laysShown_25 : decode cX9_laysShown 25 = .ok (.iastore, 1) := by decide +kernel
theorem dX9_laysShown_26 : decode cX9_laysShown 26 = .ok (.iinc 2 1, 3) := by decide +kernel
theorem dX9_laysShown_29 : decode cX9_laysShown 29 = .ok (.goto (-23), 3) := by decide +kernel
theorem dX9_laysShown_32 : decode cX9_laysShown 32 = .ok (.iconst 0, 1) := by decide +kernel
theorem dX9_laysShown_33 : decode cX9_laysShown 33 = .ok (.istore_n 2, 1) := by decide +kernel
theorem dX9_laysShown_34 : decode cX9_laysShown 34 = .ok (.iload_n 2, 1) := by decide +kernel
theorem dX9_laysShown_35 : decode cX9_laysShown 35 = .ok (.iload_n 1, 1) := by decide +kernel
theorem dX9_laysShown_36 : decode cX9_laysShown 36 = .ok (.if_icmp .ge 75, 3) := by decide +kernel
theorem dX9_laysShown_39 : decode cX9_laysShown 39 = .ok (.iconst 0, 1) := by decide +kernel
theorem dX9_laysShown_40 : decode cX9_laysShown 40 = .ok (.istore_n 3, 1) := by decide +kernel
theorem dX9_laysShown_41 : decode cX9_laysShown 41 = .ok (.iload_n 3, 1) := by decide +kernel
theorem dX9_laysShown_42 : decode cX9_laysShown 42 = .ok (.aload_n 0, 1) := by decide +kernel
theorem dX9_laysShown_43 : decode cX9_laysShown 43 = .ok (.getfield 88, 3) := by decide +kernel
theorem dX9_laysShown_46 : decode cX9_laysShown 46 = .ok (.if_icmp .ge 21, 3) := by decide +kernel
theorem dX9_laysShown_49 : decode cX9_laysShown 49 = .ok (.aload_n 0, 1) := by decide +kernel
theorem dX9_laysShown_50 : decode cX9_laysShown 50 = .ok (.getfield 37, 3) := by decide +kernel
theorem dX9_laysShown_53 : decode cX9_laysShown 53 = .ok (.iload_n 3, 1) := by decide +kernel
theorem dX9_laysShown_54 : decode cX9_laysShown 54 = .ok (.aload_n 0, 1) := by decide +kernel
theorem dX9_laysShown_55 : decode cX9_laysShown 55 = .ok (.getfield 34, 3) := by decide +kernel
theorem dX9_laysShown_58 : decode cX9_laysShown 58 = .ok (.iload_n 3, 1) := by decide +kernel
theorem dX9_laysShown_59 : decode cX9_laysShown 59 = .ok (.iaload, 1) := by decide +kernel
theorem dX9_laysShown_60 : decode cX9_laysShown 60 = .ok (.iastore, 1) := by decide +kernel
theorem dX9_laysShown_61 : decode cX9_laysShown 61 = .ok (.iinc 3 1, 3) := by decide +kernel
theorem dX9_laysShown_64 : decode cX9_laysShown 64 = .ok (.goto (-23), 3) := by decide +kernel
theorem dX9_laysShown_67 : decode cX9_laysShown 67 = .ok (.iconst 0, 1) := by decide +kernel
theorem dX9_laysShown_68 : decode cX9_laysShown 68 = .ok (.istore_n 3, 1) := by decide +kernel
theorem dX9_laysShown_69 : decode cX9_laysShown 69 = .ok (.iload_n 3, 1) := by decide +kernel
theorem dX9_laysShown_70 : decode cX9_laysShown 70 = .ok (.aload_n 0, 1) := by decide +kernel
theorem dX9_laysShown_71 : decode cX9_laysShown 71 = .ok (.getfield 88, 3) := by decide +kernel
theorem dX9_laysShown_74 : decode cX9_laysShown 74 = .ok (.if_icmp .ge 31, 3) := by decide +kernel
theorem dX9_laysShown_77 : decode cX9_laysShown 77 = .ok (.aload_n 0, 1) := by decide +kernel
theorem dX9_laysShown_78 : decode cX9_laysShown 78 = .ok (.getfield 28, 3) := by decide +kernel
theorem dX9_laysShown_81 : decode cX9_laysShown 81 = .ok (.iload_n 3, 1) := by decide +kernel
theorem dX9_laysShown_82 : decode cX9_laysShown 82 = .ok (.iaload, 1) := by decide +kernel
theorem dX9_laysShown_83 : decode cX9_laysShown 83 = .ok (.iconst (-1), 1) := by decide +kernel
theorem dX9_laysShown_84 : decode cX9_laysShown 84 = .ok (.if_icmp .eq 15, 3) := by decide +kernel
theorem dX9_laysShown_87 : decode cX9_laysShown 87 = .ok (.aload_n 0, 1) := by decide +kernel
theorem dX9_laysShown_88 : decode cX9_laysShown 88 = .ok (.getfield 34, 3) := by decide +kernel
theorem dX9_laysShown_91 : decode cX9_laysShown 91 = .ok (.iload_n 3, 1) := by decide +kernel
theorem dX9_laysShown_92 : decode cX9_laysShown 92 = .ok (.aload_n 0, 1) := by decide +kernel
theorem dX9_laysShown_93 : decode cX9_laysShown 93 = .ok (.iload_n 2, 1) := by decide +kernel
theorem dX9_laysShown_94 : decode cX9_laysShown 94 = .ok (.iload_n 3, 1) := by decide +kernel
theorem dX9_laysShown_95 : decode cX9_laysShown 95 = .ok (.invokevirtual 126, 3) := by decide +kernel
theorem dX9_laysShown_98 : decode cX9_laysShown 98 = .ok (.iastore, 1) := by decide +kernel
theorem dX9_laysShown_99 : decode cX9_laysShown 99 = .ok (.iinc 3 1, 3) := by decide +kernel
theorem dX9_laysShown_102 : decode cX9_laysShown 102 = .ok (.goto (-33), 3) := by decide +kernel
theorem dX9_laysShown_105 : decode cX9_laysShown 105 = .ok (.iinc 2 1, 3) := by decide +kernel
theorem dX9_laysShown_108 : decode cX9_laysShown 108 = .ok (.goto (-74), 3) := by decide +kernel
theorem dX9_laysShown_111 : decode cX9_laysShown 111 = .ok (.return_, 1) := by decide +kernel
theorem dX9_fewer_0 : decode cX9_fewer 0 = .ok (.iconst 0, 1) := by decide +kernel
theorem dX9_fewer_1 : decode cX9_fewer 1 = .ok (.istore 4, 2) := by decide +kernel
theorem dX9_fewer_3 : decode cX9_fewer 3 = .ok (.aload_n 0, 1) := by decide +kernel
theorem dX9_fewer_4 : decode cX9_fewer 4 = .ok (.getfield 31, 3) := by decide +kernel
theorem dX9_fewer_7 : decode cX9_fewer 7 = .ok (.iload_n 1, 1) := by decide +kernel
theorem dX9_fewer_8 : decode cX9_fewer 8 = .ok (.iaload, 1) := by decide +kernel
theorem dX9_fewer_9 : decode cX9_fewer 9 = .ok (.istore 5, 2) := by decide +kernel
theorem dX9_fewer_11 : decode cX9_fewer 11 = .ok (.iload 5, 2) := by decide +kernel
theorem dX9_fewer_13 : decode cX9_fewer 13 = .ok (.aload_n 0, 1) := by decide +kernel
theorem dX9_fewer_14 : decode cX9_fewer 14 = .ok (.getfield 129, 3) := by decide +kernel
theorem dX9_fewer_17 : decode cX9_fewer 17 = .ok (.if_icmp .ge 45, 3) := by decide +kernel
theorem dX9_fewer_20 : decode cX9_fewer 20 = .ok (.iload 4, 2) := by decide +kernel
theorem dX9_fewer_22 : decode cX9_fewer 22 = .ok (.aload_n 0, 1) := by decide +kernel
theorem dX9_fewer_23 : decode cX9_fewer 23 = .ok (.getfield 34, 3) := by decide +kernel
theorem dX9_fewer_26 : decode cX9_fewer 26 = .ok (.iload 5, 2) := by decide +kernel
theorem dX9_fewer_28 : decode cX9_fewer 28 = .ok (.iaload, 1) := by decide +kernel
theorem dX9_fewer_29 : decode cX9_fewer 29 = .ok (.iload_n 2, 1) := by decide +kernel
theorem dX9_fewer_30 : decode cX9_fewer 30 = .ok (.if_icmp .lt 18, 3) := by decide +kernel
theorem dX9_fewer_33 : decode cX9_fewer 33 = .ok (.iload_n 3, 1) := by decide +kernel
theorem dX9_fewer_34 : decode cX9_fewer 34 = .ok (.ifCond .eq 18, 3) := by decide +kernel
theorem dX9_fewer_37 : decode cX9_fewer 37 = .ok (.aload_n 0, 1) := by decide +kernel
theorem dX9_fewer_38 : decode cX9_fewer 38 = .ok (.getfield 34, 3) := by decide +kernel
theorem dX9_fewer_41 : decode cX9_fewer 41 = .ok (.iload 5, 2) := by decide +kernel
theorem dX9_fewer_43 : decode cX9_fewer 43 = .ok (.iaload, 1) := by decide +kernel
theorem dX9_fewer_44 : decode cX9_fewer 44 = .ok (.iload_n 2, 1) := by decide +kernel
theorem dX9_fewer_45 : decode cX9_fewer 45 = .ok (.if_icmp .ne 7, 3) := by decide +kernel
theorem dX9_fewer_48 : decode cX9_fewer 48 = .ok (.iconst 1, 1) := by decide +kernel
theorem dX9_fewer_49 : decode cX9_fewer 49 = .ok (.goto 4, 3) := by decide +kernel
theorem dX9_fewer_52 : decode cX9_fewer 52 = .ok (.iconst 0, 1) := by decide +kernel
theorem dX9_fewer_53 : decode cX9_fewer 53 = .ok (.iadd, 1) := by decide +kernel
theorem dX9_fewer_54 : decode cX9_fewer 54 = .ok (.istore 4, 2) := by decide +kernel
theorem dX9_fewer_56 : decode cX9_fewer 56 = .ok (.iinc 5 1, 3) := by decide +kernel
theorem dX9_fewer_59 : decode cX9_fewer 59 = .ok (.goto (-48), 3) := by decide +kernel
theorem dX9_fewer_62 : decode cX9_fewer 62 = .ok (.iload 4, 2) := by decide +kernel
theorem dX9_fewer_64 : decode cX9_fewer 64 = .ok (.ireturn, 1) := by decide +kernel
theorem dX9_level__0 : decode cX9_level_ 0 = .ok (.aload_n 0, 1) := by decide +kernel
theorem dX9_level__1 : decode cX9_level_ 1 = .ok (.getfield 13, 3) := by decide +kernel
theorem dX9_level__4 : decode cX9_level_ 4 = .ok (.iconst 4, 1) := by decide +kernel
theorem dX9_level__5 : decode cX9_level_ 5 = .ok (.iaload, 1) := by decide +kernel
theorem dX9_level__6 : decode cX9_level_ 6 = .ok (.ifCond .ne 10, 3) := by decide +kernel
theorem dX9_level__9 : decode cX9_level_ 9 = .ok (.aload_n 0, 1) := by decide +kernel
theorem dX9_level__10 : decode cX9_level_ 10 = .ok (.getfield 13, 3) := by decide +kernel
theorem dX9_level__13 : decode cX9_level_ 13 = .ok (.iconst 5, 1) := by decide +kernel
theorem dX9_level__14 : decode cX9_level_ 14 = .ok (.iaload, 1) := by decide +kernel
theorem dX9_level__15 : decode cX9_level_ 15 = .ok (.ireturn, 1) := by decide +kernel
theorem dX9_level__16 : decode cX9_level_ 16 = .ok (.aload_n 0, 1) := by decide +kernel
theorem dX9_level__17 : decode cX9_level_ 17 = .ok (.aload_n 0, 1) := by decide +kernel
theorem dX9_level__18 : decode cX9_level_ 18 = .ok (.iload_n 1, 1) := by decide +kernel
theorem dX9_level__19 : decode cX9_level_ 19 = .ok (.invokevirtual 132, 3) := by decide +kernel
theorem dX9_level__22 : decode cX9_level_ 22 = .ok (.putfield 129, 3) := by decide +kernel
theorem dX9_level__25 : decode cX9_level_ 25 = .ok (.aload_n 0, 1) := by decide +kernel
theorem dX9_level__26 : decode cX9_level_ 26 = .ok (.getfield 129, 3) := by decide +kernel
theorem dX9_level__29 : decode cX9_level_ 29 = .ok (.aload_n 0, 1) := by decide +kernel
theorem dX9_level__30 : decode cX9_level_ 30 = .ok (.getfield 31, 3) := by decide +kernel
theorem dX9_level__33 : decode cX9_level_ 33 = .ok (.iload_n 1, 1) := by decide +kernel
theorem dX9_level__34 : decode cX9_level_ 34 = .ok (.iaload, 1) := by decide +kernel
theorem dX9_level__35 : decode cX9_level_ 35 = .ok (.isub, 1) := by decide +kernel
theorem dX9_level__36 : decode cX9_level_ 36 = .ok (.istore_n 2, 1) := by decide +kernel
theorem dX9_level__37 : decode cX9_level_ 37 = .ok (.lconst 0, 1) := by decide +kernel
theorem dX9_level__38 : decode cX9_level_ 38 = .ok (.lstore_n 3, 1) := by decide +kernel
theorem dX9_level__39 : decode cX9_level_ 39 = .ok (.aload_n 0, 1) := by decide +kernel
theorem dX9_level__40 : decode cX9_level_ 40 = .ok (.getfield 31, 3) := by decide +kernel
theorem dX9_level__43 : decode cX9_level_ 43 = .ok (.iload_n 1, 1) := by decide +kernel
theorem dX9_level__44 : decode cX9_level_ 44 = .ok (.iaload, 1) := by decide +kernel
theorem dX9_level__45 : decode cX9_level_ 45 = .ok (.istore 5, 2) := by decide +kernel
theorem dX9_level__47 : decode cX9_level_ 47 = .ok (.iload 5, 2) := by decide +kernel
theorem dX9_level__49 : decode cX9_level_ 49 = .ok (.aload_n 0, 1) := by decide +kernel
theorem dX9_level__50 : decode cX9_level_ 50 = .ok (.getfield 129, 3) := by decide +kernel
theorem dX9_level__53 : decode cX9_level_ 53 = .ok (.if_icmp .ge 80, 3) := by decide +kernel
theorem dX9_level__56 : decode cX9_level_ 56 = .ok (.lload_n 3, 1) := by decide +kernel
theorem dX9_level__57 : decode cX9_level_ 57 = .ok (.aload_n 0, 1) := by decide +kernel
theorem dX9_level__58 : decode cX9_level_ 58 = .ok (.getfield 34, 3) := by decide +kernel
theorem dX9_level__61 : decode cX9_level_ 61 = .ok (.iload 5, 2) := by decide +kernel
theorem dX9_level__63 : decode cX9_level_ 63 = .ok (.iaload, 1) := by decide +kernel
theorem dX9_level__64 : decode cX9_level_ 64 = .ok (.i2l, 1) := by decide +kernel
theorem dX9_level__65 : decode cX9_level_ 65 = .ok (.ladd, 1) := by decide +kernel
theorem dX9_level__66 : decode cX9_level_ 66 = .ok (.lstore_n 3, 1) := by decide +kernel
theorem dX9_level__67 : decode cX9_level_ 67 = .ok (.aload_n 0, 1) := by decide +kernel
theorem dX9_level__68 : decode cX9_level_ 68 = .ok (.getfield 13, 3) := by decide +kernel
theorem dX9_level__71 : decode cX9_level_ 71 = .ok (.iconst 4, 1) := by decide +kernel
theorem dX9_level__72 : decode cX9_level_ 72 = .ok (.iaload, 1) := by decide +kernel
theorem dX9_level__73 : decode cX9_level_ 73 = .ok (.iconst 2, 1) := by decide +kernel
theorem dX9_level__74 : decode cX9_level_ 74 = .ok (.if_icmp .ne 53, 3) := by decide +kernel
theorem dX9_level__77 : decode cX9_level_ 77 = .ok (.aload_n 0, 1) := by decide +kernel
theorem dX9_level__78 : decode cX9_level_ 78 = .ok (.iload_n 1, 1) := by decide +kernel
theorem dX9_level__79 : decode cX9_level_ 79 = .ok (.aload_n 0, 1) := by decide +kernel
theorem dX9_level__80 : decode cX9_level_ 80 = .ok (.getfield 34, 3) := by decide +kernel
theorem dX9_level__83 : decode cX9_level_ 83 = .ok (.iload 5, 2) := by decide +kernel
theorem dX9_level__85 : decode cX9_level_ 85 = .ok (.iaload, 1) := by decide +kernel
theorem dX9_level__86 : decode cX9_level_ 86 = .ok (.iconst 0, 1) := by decide +kernel
theorem dX9_level__87 : decode cX9_level_ 87 = .ok (.invokevirtual 135, 3) := by decide +kernel
theorem dX9_level__90 : decode cX9_level_ 90 = .ok (.iload_n 2, 1) := by decide +kernel
theorem dX9_level__91 : decode cX9_level_ 91 = .ok (.iconst 1, 1) := by decide +kernel
theorem dX9_level__92 : decode cX9_level_ 92 = .ok (.isub, 1) := by decide +kernel
theorem dX9_level__93 : decode cX9_level_ 93 = .ok (.iconst 2, 1) := by decide +kernel
theorem dX9_level__94 : decode cX9_level_ 94 = .ok (.idiv, 1) := by decide +kernel
theorem dX9_level__95 : decode cX9_level_ 95 = .ok (.if_icmp .gt 32, 3) := by decide +kernel
theorem dX9_level__98 : decode cX9_level_ 98 = .ok (.aload_n 0, 1) := by decide +kernel
theorem dX9_level__99 : decode cX9_level_ 99 = .ok (.iload_n 1, 1) := by decide +kernel
theorem dX9_level__100 : decode cX9_level_ 100 = .ok (.aload_n 0, 1) := by decide +kernel
theorem dX9_level__101 : decode cX9_level_ 101 = .ok (.getfield 34, 3) := by decide +kernel
theorem dX9_level__104 : decode cX9_level_ 104 = .ok (.iload 5, 2) := by decide +kernel
theorem dX9_level__106 : decode cX9_level_ 106 = .ok (.iaload, 1) := by decide +kernel
theorem dX9_level__107 : decode cX9_level_ 107 = .ok (.iconst 1, 1) := by decide +kernel
theorem dX9_level__108 : decode cX9_level_ 108 = .ok (.invokevirtual 135, 3) := by decide +kernel
theorem dX9_level__111 : decode cX9_level_ 111 = .ok (.iload_n 2, 1) := by decide +kernel
theorem dX9_level__112 : decode cX9_level_ 112 = .ok (.iconst 1, 1) := by decide +kernel
theorem dX9_level__113 : decode cX9_level_ 113 = .ok (.isub, 1) := by decide +kernel
theorem dX9_level__114 : decode cX9_level_ 114 = .ok (.iconst 2, 1) := by decide +kernel
theorem dX9_level__115 : decode cX9_level_ 115 = .ok (.idiv, 1) := by decide +kernel
theorem dX9_level__116 : decode cX9_level_ 116 = .ok (.if_icmp .le 11, 3) := by decide +kernel
theorem dX9_level__119 : decode cX9_level_ 119 = .ok (.aload_n 0, 1) := by decide +kernel
theorem dX9_level__120 : decode cX9_level_ 120 = .ok (.getfield 34, 3) := by decide +kernel
theorem dX9_level__123 : decode cX9_level_ 123 = .ok (.iload 5, 2) := by decide +kernel
theorem dX9_level__125 : decode cX9_level_ 125 = .ok (.iaload, 1) := by decide +kernel
theorem dX9_level__126 : decode cX9_level_ 126 = .ok (.ireturn, 1) := by decide +kernel
theorem dX9_level__127 : decode cX9_level_ 127 = .ok (.iinc 5 1, 3) := by decide +kernel
theorem dX9_level__130 : decode cX9_level_ 130 = .ok (.goto (-83), 3) := by decide +kernel
theorem dX9_level__133 : decode cX9_level_ 133 = .ok (.lload_n 3, 1) := by decide +kernel
theorem dX9_level__134 : decode cX9_level_ 134 = .ok (.iload_n 2, 1) := by decide +kernel
theorem dX9_level__135 : decode cX9_level_ 135 = .ok (.i2l, 1) := by decide +kernel
theorem dX9_level__136 : decode cX9_level_ 136 = .ok (.invokestatic 110, 3) := by decide +kernel
theorem dX9_level__139 : decode cX9_level_ 139 = .ok (.l2i, 1) := by decide +kernel
theorem dX9_level__140 : decode cX9_level_ 140 = .ok (.ireturn, 1) := by decide +kernel
theorem dX9_crosses_0 : decode cX9_crosses 0 = .ok (.aload_n 0, 1) := by decide +kernel
theorem dX9_crosses_1 : decode cX9_crosses 1 = .ok (.getfield 34, 3) := by decide +kernel
theorem dX9_crosses_4 : decode cX9_crosses 4 = .ok (.iload_n 1, 1) := by decide +kernel
theorem dX9_crosses_5 : decode cX9_crosses 5 = .ok (.iaload, 1) := by decide +kernel
theorem dX9_crosses_6 : decode cX9_crosses 6 = .ok (.iload_n 2, 1) := by decide +kernel
theorem dX9_crosses_7 : decode cX9_crosses 7 = .ok (.iload_n 3, 1) := by decide +kernel
theorem dX9_crosses_8 : decode cX9_crosses 8 = .ok (.isub, 1) := by decide +kernel
theorem dX9_crosses_9 : decode cX9_crosses 9 = .ok (.if_icmp .ge 8, 3) := by decide +kernel
theorem dX9_crosses_12 : decode cX9_crosses 12 = .ok (.aload_n 0, 1) := by decide +kernel
theorem dX9_crosses_13 : decode cX9_crosses 13 = .ok (.iconst 1, 1) := by decide +kernel
theorem dX9_crosses_14 : decode cX9_crosses 14 = .ok (.putfield 139, 3) := by decide +kernel
theorem dX9_crosses_17 : decode cX9_crosses 17 = .ok (.aload_n 0, 1) := by decide +kernel
theorem dX9_crosses_18 : decode cX9_crosses 18 = .ok (.getfield 139, 3) := by decide +kernel
theorem dX9_crosses_21 : decode cX9_crosses 21 = .ok (.ifCond .eq 15, 3) := by decide +kernel
theorem dX9_crosses_24 : decode cX9_crosses 24 = .ok (.aload_n 0, 1) := by decide +kernel
theorem dX9_crosses_25 : decode cX9_crosses 25 = .ok (.getfield 34, 3) := by decide +kernel
theorem dX9_crosses_28 : decode cX9_crosses 28 = .ok (.iload_n 1, 1) := by decide +kernel
theorem dX9_crosses_29 : decode cX9_crosses 29 = .ok (.iaload, 1) := by decide +kernel
theorem dX9_crosses_30 : decode cX9_crosses 30 = .ok (.iload_n 2, 1) := by decide +kernel
theorem dX9_crosses_31 : decode cX9_crosses 31 = .ok (.iload_n 3, 1) := by decide +kernel
theorem dX9_crosses_32 : decode cX9_crosses 32 = .ok (.iadd, 1) := by decide +kernel
theorem dX9_crosses_33 : decode cX9_crosses 33 = .ok (.if_icmp .gt 5, 3) := by decide +kernel
theorem dX9_crosses_36 : decode cX9_crosses 36 = .ok (.iconst 0, 1) := by decide +kernel
theorem dX9_crosses_37 : decode cX9_crosses 37 = .ok (.ireturn, 1) := by decide +kernel
theorem dX9_crosses_38 : decode cX9_crosses 38 = .ok (.aload_n 0, 1) := by decide +kernel
theorem dX9_crosses_39 : decode cX9_crosses 39 = .ok (.iconst 0, 1) := by decide +kernel
theorem dX9_crosses_40 : decode cX9_crosses 40 = .ok (.putfield 139, 3) := by decide +kernel
theorem dX9_crosses_43 : decode cX9_crosses 43 = .ok (.iconst 1, 1) := by decide +kernel
theorem dX9_crosses_44 : decode cX9_crosses 44 = .ok (.ireturn, 1) := by decide +kernel
theorem dX9_countWaves_0 : decode cX9_countWaves 0 = .ok (.iconst 0, 1) := by decide +kernel
theorem dX9_countWaves_1 : decode cX9_countWaves 1 = .ok (.istore_n 2, 1) := by decide +kernel
theorem dX9_countWaves_2 : decode cX9_countWaves 2 = .ok (.iconst 0, 1) := by decide +kernel
theorem dX9_countWaves_3 : decode cX9_countWaves 3 = .ok (.istore_n 3, 1) := by decide +kernel
theorem dX9_countWaves_4 : decode cX9_countWaves 4 = .ok (.iload_n 3, 1) := by decide +kernel
theorem dX9_countWaves_5 : decode cX9_countWaves 5 = .ok (.aload_n 0, 1) := by decide +kernel
theorem dX9_countWaves_6 : decode cX9_countWaves 6 = .ok (.getfield 114, 3) := by decide +kernel
theorem dX9_countWaves_9 : decode cX9_countWaves 9 = .ok (.if_icmp .ge 94, 3) := by decide +kernel
theorem dX9_countWaves_12 : decode cX9_countWaves 12 = .ok (.aload_n 0, 1) := by decide +kernel
theorem dX9_countWaves_13 : decode cX9_countWaves 13 = .ok (.iconst 0, 1) := by decide +kernel
theorem dX9_countWaves_14 : decode cX9_countWaves 14 = .ok (.putfield 139, 3) := by decide +kernel
theorem dX9_countWaves_17 : decode cX9_countWaves 17 = .ok (.iconst 0, 1) := by decide +kernel
theorem dX9_countWaves_18 : decode cX9_countWaves 18 = .ok (.istore 4, 2) := by decide +kernel
theorem dX9_countWaves_20 : decode cX9_countWaves 20 = .ok (.aload_n 0, 1) := by decide +kernel
theorem dX9_countWaves_21 : decode cX9_countWaves 21 = .ok (.getfield 31, 3) := by decide +kernel
theorem dX9_countWaves_24 : decode cX9_countWaves 24 = .ok (.iload_n 3, 1) := by decide +kernel
theorem dX9_countWaves_25 : decode cX9_countWaves 25 = .ok (.iaload, 1) := by decide +kernel
theorem dX9_countWaves_26 : decode cX9_countWaves 26 = .ok (.istore 5, 2) := by decide +kernel
theorem dX9_countWaves_28 : decode cX9_countWaves 28 = .ok (.iload 5, 2) := by decide +kernel
theorem dX9_countWaves_30 : decode cX9_countWaves 30 = .ok (.aload_n 0, 1) := by decide +kernel
theorem dX9_countWaves_31 : decode cX9_countWaves 31 = .ok (.getfield 88, 3) := by decide +kernel
theorem dX9_countWaves_34 : decode cX9_countWaves 34 = .ok (.if_icmp .ge 46, 3) := by decide +kernel
theorem dX9_countWaves_37 : decode cX9_countWaves 37 = .ok (.aload_n 0, 1) := by decide +kernel
theorem dX9_countWaves_38 : decode cX9_countWaves 38 = .ok (.getfield 28, 3) := by decide +kernel
theorem dX9_countWaves_41 : decode cX9_countWaves 41 = .ok (.iload 5, 2) := by decide +kernel
theorem dX9_countWaves_43 : decode cX9_countWaves 43 = .ok (.iaload, 1) := by decide +kernel
theorem dX9_countWaves_44 : decode cX9_countWaves 44 = .ok (.iload_n 3, 1) := by decide +kernel
theorem dX9_countWaves_45 : decode cX9_countWaves 45 = .ok (.if_icmp .ne 35, 3) := by decide +kernel
theorem dX9_countWaves_48 : decode cX9_countWaves 48 = .ok (.iload 4, 2) := by decide +kernel
theorem dX9_countWaves_50 : decode cX9_countWaves 50 = .ok (.aload_n 0, 1) := by decide +kernel
theorem dX9_countWaves_51 : decode cX9_countWaves 51 = .ok (.iload 5, 2) := by decide +kernel
theorem dX9_countWaves_53 : decode cX9_countWaves 53 = .ok (.aload_n 0, 1) := by decide +kernel
theorem dX9_countWaves_54 : decode cX9_countWaves 54 = .ok (.getfield 40, 3) := by decide +kernel
theorem dX9_countWaves_57 : decode cX9_countWaves 57 = .ok (.iload_n 3, 1) := by decide +kernel
theorem dX9_countWaves_58 : decode cX9_countWaves 58 = .ok (.iaload, 1) := by decide +kernel
theorem dX9_countWaves_59 : decode cX9_countWaves 59 = .ok (.iload_n 1, 1) := by decide +kernel
theorem dX9_countWaves_60 : decode cX9_countWaves 60 = .ok (.invokevirtual 143, 3) := by decide +kernel
theorem dX9_countWaves_63 : decode cX9_countWaves 63 = .ok (.ifCond .eq 7, 3) := by decide +kernel
theorem dX9_countWaves_66 : decode cX9_countWaves 66 = .ok (.iconst 1, 1) := by decide +kernel
theorem dX9_countWaves_67 : decode cX9_countWaves 67 = .ok (.goto 4, 3) := by decide +kernel
theorem dX9_countWaves_70 : decode cX9_countWaves 70 = .ok (.iconst 0, 1) := by decide +kernel
theorem dX9_countWaves_71 : decode cX9_countWaves 71 = .ok (.iadd, 1) := by decide +kernel
theorem dX9_countWaves_72 : decode cX9_countWaves 72 = .ok (.istore 4, 2) := by decide +kernel
theorem dX9_countWaves_74 : decode cX9_countWaves 74 = .ok (.iinc 5 1, 3) := by decide +kernel
theorem dX9_countWaves_77 : decode cX9_countWaves 77 = .ok (.goto (-49), 3) := by decide +kernel
theorem dX9_countWaves_80 : decode cX9_countWaves 80 = .ok (.iload_n 2, 1) := by decide +kernel
theorem dX9_countWaves_81 : decode cX9_countWaves 81 = .ok (.iload 4, 2) := by decide +kernel
theorem dX9_countWaves_83 : decode cX9_countWaves 83 = .ok (.iconst 1, 1) := by decide +kernel
theorem dX9_countWaves_84 : decode cX9_countWaves 84 = .ok (.if_icmp .le 10, 3) := by decide +kernel
theorem dX9_countWaves_87 : decode cX9_countWaves 87 = .ok (.iload 4, 2) := by decide +kernel
theorem dX9_countWaves_89 : decode cX9_countWaves 89 = .ok (.iconst 1, 1) := by decide +kernel
theorem dX9_countWaves_90 : decode cX9_countWaves 90 = .ok (.isub, 1) := by decide +kernel
theorem dX9_countWaves_91 : decode cX9_countWaves 91 = .ok (.goto 4, 3) := by decide +kernel
theorem dX9_countWaves_94 : decode cX9_countWaves 94 = .ok (.iconst 0, 1) := by decide +kernel
theorem dX9_countWaves_95 : decode cX9_countWaves 95 = .ok (.iadd, 1) := by decide +kernel
theorem dX9_countWaves_96 : decode cX9_countWaves 96 = .ok (.istore_n 2, 1) := by decide +kernel
theorem dX9_countWaves_97 : decode cX9_countWaves 97 = .ok (.iinc 3 1, 3) := by decide +kernel
theorem dX9_countWaves_100 : decode cX9_countWaves 100 = .ok (.goto (-96), 3) := by decide +kernel
theorem dX9_countWaves_103 : decode cX9_countWaves 103 = .ok (.iload_n 2, 1) := by decide +kernel
theorem dX9_countWaves_104 : decode cX9_countWaves 104 = .ok (.ireturn, 1) := by decide +kernel
theorem dX9_laysWaves_0 : decode cX9_laysWaves 0 = .ok (.aload_n 0, 1) := by decide +kernel
theorem dX9_laysWaves_1 : decode cX9_laysWaves 1 = .ok (.aload_n 0, 1) := by decide +kernel
theorem dX9_laysWaves_2 : decode cX9_laysWaves 2 = .ok (.getfield 104, 3) := by decide +kernel
theorem dX9_laysWaves_5 : decode cX9_laysWaves 5 = .ok (.invokevirtual 146, 3) := by decide +kernel
theorem dX9_laysWaves_8 : decode cX9_laysWaves 8 = .ok (.aload_n 0, 1) := by decide +kernel
theorem dX9_laysWaves_9 : decode cX9_laysWaves 9 = .ok (.iconst 0, 1) := by decide +kernel
theorem dX9_laysWaves_10 : decode cX9_laysWaves 10 = .ok (.putfield 150, 3) := by decide +kernel
theorem dX9_laysWaves_13 : decode cX9_laysWaves 13 = .ok (.iconst 0, 1) := by decide +kernel
theorem dX9_laysWaves_14 : decode cX9_laysWaves 14 = .ok (.istore_n 1, 1) := by decide +kernel
theorem dX9_laysWaves_15 : decode cX9_laysWaves 15 = .ok (.iload_n 1, 1) := by decide +kernel
theorem dX9_laysWaves_16 : decode cX9_laysWaves 16 = .ok (.aload_n 0, 1) := by decide +kernel
theorem dX9_laysWaves_17 : decode cX9_laysWaves 17 = .ok (.getfield 88, 3) := by decide +kernel
theorem dX9_laysWaves_20 : decode cX9_laysWaves 20 = .ok (.if_icmp .ge 16, 3) := by decide +kernel
theorem dX9_laysWaves_23 : decode cX9_laysWaves 23 = .ok (.aload_n 0, 1) := by decide +kernel
theorem dX9_laysWaves_24 : decode cX9_laysWaves 24 = .ok (.getfield 52, 3) := by decide +kernel
theorem dX9_laysWaves_27 : decode cX9_laysWaves 27 = .ok (.iload_n 1, 1) := by decide +kernel
theorem dX9_laysWaves_28 : decode cX9_laysWaves 28 = .ok (.iconst (-1), 1) := by decide +kernel
theorem dX9_laysWaves_29 : decode cX9_laysWaves 29 = .ok (.iastore, 1) := by decide +kernel
theorem dX9_laysWaves_30 : decode cX9_laysWaves 30 = .ok (.iinc 1 1, 3) := by decide +kernel
theorem dX9_laysWaves_33 : decode cX9_laysWaves 33 = .ok (.goto (-18), 3) := by decide +kernel
theorem dX9_laysWaves_36 : decode cX9_laysWaves 36 = .ok (.iconst 0, 1) := by decide +kernel
theorem dX9_laysWaves_37 : decode cX9_laysWaves 37 = .ok (.istore_n 1, 1) := by decide +kernel
theorem dX9_laysWaves_38 : decode cX9_laysWaves 38 = .ok (.iload_n 1, 1) := by decide +kernel
theorem dX9_laysWaves_39 : decode cX9_laysWaves 39 = .ok (.aload_n 0, 1) := by decide +kernel
theorem dX9_laysWaves_40 : decode cX9_laysWaves 40 = .ok (.getfield 114, 3) := by decide +kernel
theorem dX9_laysWaves_43 : decode cX9_laysWaves 43 = .ok (.if_icmp .ge 129, 3) := by decide +kernel
theorem dX9_laysWaves_46 : decode cX9_laysWaves 46 = .ok (.aload_n 0, 1) := by decide +kernel
theorem dX9_laysWaves_47 : decode cX9_laysWaves 47 = .ok (.getfield 40, 3) := by decide +kernel
theorem dX9_laysWaves_50 : decode cX9_laysWaves 50 = .ok (.iload_n 1, 1) := by decide +kernel
theorem dX9_laysWaves_51 : decode cX9_laysWaves 51 = .ok (.aload_n 0, 1) := by decide +kernel
theorem dX9_laysWaves_52 : decode cX9_laysWaves 52 = .ok (.iload_n 1, 1) := by decide +kernel
theorem dX9_laysWaves_53 : decode cX9_laysWaves 53 = .ok (.invokevirtual 153, 3) := by decide +kernel
theorem dX9_laysWaves_56 : decode cX9_laysWaves 56 = .ok (.iastore, 1) := by decide +kernel
theorem dX9_laysWaves_57 : decode cX9_laysWaves 57 = .ok (.aload_n 0, 1) := by decide +kernel
theorem dX9_laysWaves_58 : decode cX9_laysWaves 58 = .ok (.getfield 43, 3) := by decide +kernel
theorem dX9_laysWaves_61 : decode cX9_laysWaves 61 = .ok (.iload_n 1, 1) := by decide +kernel
theorem dX9_laysWaves_62 : decode cX9_laysWaves 62 = .ok (.iconst 0, 1) := by decide +kernel
theorem dX9_laysWaves_63 : decode cX9_laysWaves 63 = .ok (.iastore, 1) := by decide +kernel
theorem dX9_laysWaves_64 : decode cX9_laysWaves 64 = .ok (.aload_n 0, 1) := by decide +kernel
theorem dX9_laysWaves_65 : decode cX9_laysWaves 65 = .ok (.iconst 0, 1) := by decide +kernel
theorem dX9_laysWaves_66 : decode cX9_laysWaves 66 = .ok (.putfield 139, 3) := by decide +kernel
theorem dX9_laysWaves_69 : decode cX9_laysWaves 69 = .ok (.iconst (-1), 1) := by decide +kernel
theorem dX9_laysWaves_70 : decode cX9_laysWaves 70 = .ok (.istore_n 2, 1) := by decide +kernel
theorem dX9_laysWaves_71 : decode cX9_laysWaves 71 = .ok (.aload_n 0, 1) := by decide +kernel
theorem dX9_laysWaves_72 : decode cX9_laysWaves 72 = .ok (.getfield 31, 3) := by decide +kernel
theorem dX9_laysWaves_75 : decode cX9_laysWaves 75 = .ok (.iload_n 1, 1) := by decide +kernel
theorem dX9_laysWaves_76 : decode cX9_laysWaves 76 = .ok (.iaload, 1) := by decide +kernel
theorem dX9_laysWaves_77 : decode cX9_laysWaves 77 = .ok (.istore_n 3, 1) := by decide +kernel
theorem dX9_laysWaves_78 : decode cX9_laysWaves 78 = .ok (.iload_n 3, 1) := by decide +kernel
theorem dX9_laysWaves_79 : decode cX9_laysWaves 79 = .ok (.aload_n 0, 1) := by decide +kernel
theorem dX9_laysWaves_80 : decode cX9_laysWaves 80 = .ok (.getfield 88, 3) := by decide +kernel
theorem dX9_laysWaves_83 : decode cX9_laysWaves 83 = .ok (.if_icmp .ge 76, 3) := by decide +kernel
theorem dX9_laysWaves_86 : decode cX9_laysWaves 86 = .ok (.aload_n 0, 1) := by decide +kernel
theorem dX9_laysWaves_87 : decode cX9_laysWaves 87 = .ok (.getfield 28, 3) := by decide +kernel
theorem dX9_laysWaves_90 : decode cX9_laysWaves 90 = .ok (.iload_n 3, 1) := by decide +kernel
theorem dX9_laysWaves_91 : decode cX9_laysWaves 91 = .ok (.iaload, 1) := by decide +kernel
theorem dX9_laysWaves_92 : decode cX9_laysWaves 92 = .ok (.iload_n 1, 1) := by decide +kernel
theorem dX9_laysWaves_93 : decode cX9_laysWaves 93 = .ok (.if_icmp .ne 66, 3) := by decide +kernel
theorem dX9_laysWaves_96 : decode cX9_laysWaves 96 = .ok (.aload_n 0, 1) := by decide +kernel
theorem dX9_laysWaves_97 : decode cX9_laysWaves 97 = .ok (.iload_n 3, 1) := by decide +kernel
theorem dX9_laysWaves_98 : decode cX9_laysWaves 98 = .ok (.aload_n 0, 1) := by decide +kernel
theorem dX9_laysWaves_99 : decode cX9_laysWaves 99 = .ok (.getfield 40, 3) := by decide +kernel
theorem dX9_laysWaves_102 : decode cX9_laysWaves 102 = .ok (.iload_n 1, 1) := by decide +kernel
theorem dX9_laysWaves_103 : decode cX9_laysWaves 103 = .ok (.iaload, 1) := by decide +kernel
theorem dX9_laysWaves_104 : decode cX9_laysWaves 104 = .ok (.aload_n 0, 1) := by decide +kernel
theorem dX9_laysWaves_105 : decode cX9_laysWaves 105 = .ok (.getfield 13, 3) := by decide +kernel
theorem dX9_laysWaves_108 : decode cX9_laysWaves 108 = .ok (.iconst 1, 1) := by decide +kernel
theorem dX9_laysWaves_109 : decode cX9_laysWaves 109 = .ok (.iaload, 1) := by decide +kernel
theorem dX9_laysWaves_110 : decode cX9_laysWaves 110 = .ok (.invokevirtual 143, 3) := by decide +kernel
theorem dX9_laysWaves_113 : decode cX9_laysWaves 113 = .ok (.ifCond .ne 6, 3) := by decide +kernel
theorem dX9_laysWaves_116 : decode cX9_laysWaves 116 = .ok (.goto 37, 3) := by decide +kernel
theorem dX9_laysWaves_119 : decode cX9_laysWaves 119 = .ok (.iload_n 2, 1) := by decide +kernel
theorem dX9_laysWaves_120 : decode cX9_laysWaves 120 = .ok (.iconst (-1), 1) := by decide +kernel
theorem dX9_laysWaves_121 : decode cX9_laysWaves 121 = .ok (.if_icmp .eq 13, 3) := by decide +kernel
theorem dX9_laysWaves_124 : decode cX9_laysWaves 124 = .ok (.aload_n 0, 1) := by decide +kernel
theorem dX9_laysWaves_125 : decode cX9_laysWaves 125 = .ok (.iload_n 1, 1) := by decide +kernel
theorem dX9_laysWaves_126 : decode cX9_laysWaves 126 = .ok (.iload_n 2, 1) := by decide +kernel
theorem dX9_laysWaves_127 : decode cX9_laysWaves 127 = .ok (.iload_n 3, 1) := by decide +kernel
theorem dX9_laysWaves_128 : decode cX9_laysWaves 128 = .ok (.invokevirtual 156, 3) := by decide +kernel
theorem dX9_laysWaves_131 : decode cX9_laysWaves 131 = .ok (.goto 10, 3) := by decide +kernel
theorem dX9_laysWaves_134 : decode cX9_laysWaves 134 = .ok (.aload_n 0, 1) := by decide +kernel
theorem dX9_laysWaves_135 : decode cX9_laysWaves 135 = .ok (.getfield 46, 3) := by decide +kernel
theorem dX9_laysWaves_138 : decode cX9_laysWaves 138 = .ok (.iload_n 1, 1) := by decide +kernel
theorem dX9_laysWaves_139 : decode cX9_laysWaves 139 = .ok (.iload_n 3, 1) := by decide +kernel
theorem dX9_laysWaves_140 : decode cX9_laysWaves 140 = .ok (.iastore, 1) := by decide +kernel
theorem dX9_laysWaves_141 : decode cX9_laysWaves 141 = .ok (.iload_n 3, 1) := by decide +kernel
theorem dX9_laysWaves_142 : decode cX9_laysWaves 142 = .ok (.istore_n 2, 1) := by decide +kernel
theorem dX9_laysWaves_143 : decode cX9_laysWaves 143 = .ok (.aload_n 0, 1) := by decide +kernel
end
section
theorem dX9_laysWaves_144 : decode cX9_laysWaves 144 = .ok (.getfield 43, 3) := by decide +kernel
theorem dX9_laysWaves_147 : decode cX9_laysWaves 147 = .ok (.iload_n 1, 1) := by decide +kernel
theorem dX9_laysWaves_148 : decode cX9_laysWaves 148 = .ok (.dup2, 1) := by decide +kernel
theorem dX9_laysWaves_149 : decode cX9_laysWaves 149 = .ok (.iaload, 1) := by decide +kernel
theorem dX9_laysWaves_150 : decode cX9_laysWaves 150 = .ok (.iconst 1, 1) := by decide +kernel
theorem dX9_laysWaves_151 : decode cX9_laysWaves 151 = .ok (.iadd, 1) := by decide +kernel
theorem dX9_laysWaves_152 : decode cX9_laysWaves 152 = .ok (.iastore, 1) := by decide +kernel
theorem dX9_laysWaves_153 : decode cX9_laysWaves 153 = .ok (.iinc 3 1, 3) := by decide +kernel
theorem dX9_laysWaves_156 : decode cX9_laysWaves 156 = .ok (.goto (-78), 3) := by decide +kernel
theorem dX9_laysWaves_159 : decode cX9_laysWaves 159 = .ok (.aload_n 0, 1) := by decide +kernel
theorem dX9_laysWaves_160 : decode cX9_laysWaves 160 = .ok (.getfield 49, 3) := by decide +kernel
theorem dX9_laysWaves_163 : decode cX9_laysWaves 163 = .ok (.iload_n 1, 1) := by decide +kernel
theorem dX9_laysWaves_164 : decode cX9_laysWaves 164 = .ok (.iload_n 2, 1) := by decide +kernel
theorem dX9_laysWaves_165 : decode cX9_laysWaves 165 = .ok (.iastore, 1) := by decide +kernel
theorem dX9_laysWaves_166 : decode cX9_laysWaves 166 = .ok (.iinc 1 1, 3) := by decide +kernel
theorem dX9_laysWaves_169 : decode cX9_laysWaves 169 = .ok (.goto (-131), 3) := by decide +kernel
theorem dX9_laysWaves_172 : decode cX9_laysWaves 172 = .ok (.iconst 0, 1) := by decide +kernel
theorem dX9_laysWaves_173 : decode cX9_laysWaves 173 = .ok (.istore_n 1, 1) := by decide +kernel
theorem dX9_laysWaves_174 : decode cX9_laysWaves 174 = .ok (.iload_n 1, 1) := by decide +kernel
theorem dX9_laysWaves_175 : decode cX9_laysWaves 175 = .ok (.aload_n 0, 1) := by decide +kernel
theorem dX9_laysWaves_176 : decode cX9_laysWaves 176 = .ok (.getfield 150, 3) := by decide +kernel
theorem dX9_laysWaves_179 : decode cX9_laysWaves 179 = .ok (.if_icmp .ge 77, 3) := by decide +kernel
theorem dX9_laysWaves_182 : decode cX9_laysWaves 182 = .ok (.aload_n 0, 1) := by decide +kernel
theorem dX9_laysWaves_183 : decode cX9_laysWaves 183 = .ok (.getfield 73, 3) := by decide +kernel
theorem dX9_laysWaves_186 : decode cX9_laysWaves 186 = .ok (.iload_n 1, 1) := by decide +kernel
theorem dX9_laysWaves_187 : decode cX9_laysWaves 187 = .ok (.iconst 0, 1) := by decide +kernel
theorem dX9_laysWaves_188 : decode cX9_laysWaves 188 = .ok (.iastore, 1) := by decide +kernel
theorem dX9_laysWaves_189 : decode cX9_laysWaves 189 = .ok (.iconst 0, 1) := by decide +kernel
theorem dX9_laysWaves_190 : decode cX9_laysWaves 190 = .ok (.istore_n 2, 1) := by decide +kernel
theorem dX9_laysWaves_191 : decode cX9_laysWaves 191 = .ok (.iload_n 2, 1) := by decide +kernel
theorem dX9_laysWaves_192 : decode cX9_laysWaves 192 = .ok (.aload_n 0, 1) := by decide +kernel
theorem dX9_laysWaves_193 : decode cX9_laysWaves 193 = .ok (.getfield 150, 3) := by decide +kernel
theorem dX9_laysWaves_196 : decode cX9_laysWaves 196 = .ok (.if_icmp .ge 54, 3) := by decide +kernel
theorem dX9_laysWaves_199 : decode cX9_laysWaves 199 = .ok (.aload_n 0, 1) := by decide +kernel
theorem dX9_laysWaves_200 : decode cX9_laysWaves 200 = .ok (.getfield 73, 3) := by decide +kernel
theorem dX9_laysWaves_203 : decode cX9_laysWaves 203 = .ok (.iload_n 1, 1) := by decide +kernel
theorem dX9_laysWaves_204 : decode cX9_laysWaves 204 = .ok (.dup2, 1) := by decide +kernel
theorem dX9_laysWaves_205 : decode cX9_laysWaves 205 = .ok (.iaload, 1) := by decide +kernel
theorem dX9_laysWaves_206 : decode cX9_laysWaves 206 = .ok (.aload_n 0, 1) := by decide +kernel
theorem dX9_laysWaves_207 : decode cX9_laysWaves 207 = .ok (.iload_n 2, 1) := by decide +kernel
theorem dX9_laysWaves_208 : decode cX9_laysWaves 208 = .ok (.invokevirtual 160, 3) := by decide +kernel
theorem dX9_laysWaves_211 : decode cX9_laysWaves 211 = .ok (.aload_n 0, 1) := by decide +kernel
theorem dX9_laysWaves_212 : decode cX9_laysWaves 212 = .ok (.iload_n 1, 1) := by decide +kernel
theorem dX9_laysWaves_213 : decode cX9_laysWaves 213 = .ok (.invokevirtual 160, 3) := by decide +kernel
theorem dX9_laysWaves_216 : decode cX9_laysWaves 216 = .ok (.if_icmp .gt 21, 3) := by decide +kernel
theorem dX9_laysWaves_219 : decode cX9_laysWaves 219 = .ok (.aload_n 0, 1) := by decide +kernel
theorem dX9_laysWaves_220 : decode cX9_laysWaves 220 = .ok (.iload_n 2, 1) := by decide +kernel
theorem dX9_laysWaves_221 : decode cX9_laysWaves 221 = .ok (.invokevirtual 160, 3) := by decide +kernel
theorem dX9_laysWaves_224 : decode cX9_laysWaves 224 = .ok (.aload_n 0, 1) := by decide +kernel
theorem dX9_laysWaves_225 : decode cX9_laysWaves 225 = .ok (.iload_n 1, 1) := by decide +kernel
theorem dX9_laysWaves_226 : decode cX9_laysWaves 226 = .ok (.invokevirtual 160, 3) := by decide +kernel
theorem dX9_laysWaves_229 : decode cX9_laysWaves 229 = .ok (.if_icmp .ne 12, 3) := by decide +kernel
theorem dX9_laysWaves_232 : decode cX9_laysWaves 232 = .ok (.iload_n 2, 1) := by decide +kernel
theorem dX9_laysWaves_233 : decode cX9_laysWaves 233 = .ok (.iload_n 1, 1) := by decide +kernel
theorem dX9_laysWaves_234 : decode cX9_laysWaves 234 = .ok (.if_icmp .ge 7, 3) := by decide +kernel
theorem dX9_laysWaves_237 : decode cX9_laysWaves 237 = .ok (.iconst 1, 1) := by decide +kernel
theorem dX9_laysWaves_238 : decode cX9_laysWaves 238 = .ok (.goto 4, 3) := by decide +kernel
theorem dX9_laysWaves_241 : decode cX9_laysWaves 241 = .ok (.iconst 0, 1) := by decide +kernel
theorem dX9_laysWaves_242 : decode cX9_laysWaves 242 = .ok (.iadd, 1) := by decide +kernel
theorem dX9_laysWaves_243 : decode cX9_laysWaves 243 = .ok (.iastore, 1) := by decide +kernel
theorem dX9_laysWaves_244 : decode cX9_laysWaves 244 = .ok (.iinc 2 1, 3) := by decide +kernel
theorem dX9_laysWaves_247 : decode cX9_laysWaves 247 = .ok (.goto (-56), 3) := by decide +kernel
theorem dX9_laysWaves_250 : decode cX9_laysWaves 250 = .ok (.iinc 1 1, 3) := by decide +kernel
theorem dX9_laysWaves_253 : decode cX9_laysWaves 253 = .ok (.goto (-79), 3) := by decide +kernel
theorem dX9_laysWaves_256 : decode cX9_laysWaves 256 = .ok (.aload_n 0, 1) := by decide +kernel
theorem dX9_laysWaves_257 : decode cX9_laysWaves 257 = .ok (.invokevirtual 163, 3) := by decide +kernel
theorem dX9_laysWaves_260 : decode cX9_laysWaves 260 = .ok (.return_, 1) := by decide +kernel
theorem dX9_wave_0 : decode cX9_wave 0 = .ok (.aload_n 0, 1) := by decide +kernel
theorem dX9_wave_1 : decode cX9_wave 1 = .ok (.getfield 150, 3) := by decide +kernel
theorem dX9_wave_4 : decode cX9_wave 4 = .ok (.istore 4, 2) := by decide +kernel
theorem dX9_wave_6 : decode cX9_wave 6 = .ok (.aload_n 0, 1) := by decide +kernel
theorem dX9_wave_7 : decode cX9_wave 7 = .ok (.getfield 55, 3) := by decide +kernel
theorem dX9_wave_10 : decode cX9_wave 10 = .ok (.iload 4, 2) := by decide +kernel
theorem dX9_wave_12 : decode cX9_wave 12 = .ok (.iload_n 2, 1) := by decide +kernel
theorem dX9_wave_13 : decode cX9_wave 13 = .ok (.iastore, 1) := by decide +kernel
theorem dX9_wave_14 : decode cX9_wave 14 = .ok (.aload_n 0, 1) := by decide +kernel
theorem dX9_wave_15 : decode cX9_wave 15 = .ok (.getfield 58, 3) := by decide +kernel
theorem dX9_wave_18 : decode cX9_wave 18 = .ok (.iload 4, 2) := by decide +kernel
theorem dX9_wave_20 : decode cX9_wave 20 = .ok (.iload_n 3, 1) := by decide +kernel
theorem dX9_wave_21 : decode cX9_wave 21 = .ok (.iload_n 2, 1) := by decide +kernel
theorem dX9_wave_22 : decode cX9_wave 22 = .ok (.isub, 1) := by decide +kernel
theorem dX9_wave_23 : decode cX9_wave 23 = .ok (.iastore, 1) := by decide +kernel
theorem dX9_wave_24 : decode cX9_wave 24 = .ok (.aload_n 0, 1) := by decide +kernel
theorem dX9_wave_25 : decode cX9_wave 25 = .ok (.getfield 70, 3) := by decide +kernel
theorem dX9_wave_28 : decode cX9_wave 28 = .ok (.iload 4, 2) := by decide +kernel
theorem dX9_wave_30 : decode cX9_wave 30 = .ok (.iload_n 1, 1) := by decide +kernel
theorem dX9_wave_31 : decode cX9_wave 31 = .ok (.iastore, 1) := by decide +kernel
theorem dX9_wave_32 : decode cX9_wave 32 = .ok (.aload_n 0, 1) := by decide +kernel
theorem dX9_wave_33 : decode cX9_wave 33 = .ok (.getfield 67, 3) := by decide +kernel
theorem dX9_wave_36 : decode cX9_wave 36 = .ok (.iload 4, 2) := by decide +kernel
theorem dX9_wave_38 : decode cX9_wave 38 = .ok (.iload_n 2, 1) := by decide +kernel
theorem dX9_wave_39 : decode cX9_wave 39 = .ok (.iastore, 1) := by decide +kernel
theorem dX9_wave_40 : decode cX9_wave 40 = .ok (.aload_n 0, 1) := by decide +kernel
theorem dX9_wave_41 : decode cX9_wave 41 = .ok (.getfield 64, 3) := by decide +kernel
theorem dX9_wave_44 : decode cX9_wave 44 = .ok (.iload 4, 2) := by decide +kernel
theorem dX9_wave_46 : decode cX9_wave 46 = .ok (.aload_n 0, 1) := by decide +kernel
theorem dX9_wave_47 : decode cX9_wave 47 = .ok (.getfield 34, 3) := by decide +kernel
theorem dX9_wave_50 : decode cX9_wave 50 = .ok (.iload_n 2, 1) := by decide +kernel
theorem dX9_wave_51 : decode cX9_wave 51 = .ok (.iaload, 1) := by decide +kernel
theorem dX9_wave_52 : decode cX9_wave 52 = .ok (.iastore, 1) := by decide +kernel
theorem dX9_wave_53 : decode cX9_wave 53 = .ok (.iload_n 2, 1) := by decide +kernel
theorem dX9_wave_54 : decode cX9_wave 54 = .ok (.istore 5, 2) := by decide +kernel
theorem dX9_wave_56 : decode cX9_wave 56 = .ok (.iload 5, 2) := by decide +kernel
theorem dX9_wave_58 : decode cX9_wave 58 = .ok (.iload_n 3, 1) := by decide +kernel
theorem dX9_wave_59 : decode cX9_wave 59 = .ok (.if_icmp .ge 80, 3) := by decide +kernel
theorem dX9_wave_62 : decode cX9_wave 62 = .ok (.aload_n 0, 1) := by decide +kernel
theorem dX9_wave_63 : decode cX9_wave 63 = .ok (.getfield 34, 3) := by decide +kernel
theorem dX9_wave_66 : decode cX9_wave 66 = .ok (.iload 5, 2) := by decide +kernel
theorem dX9_wave_68 : decode cX9_wave 68 = .ok (.iaload, 1) := by decide +kernel
theorem dX9_wave_69 : decode cX9_wave 69 = .ok (.aload_n 0, 1) := by decide +kernel
theorem dX9_wave_70 : decode cX9_wave 70 = .ok (.getfield 34, 3) := by decide +kernel
theorem dX9_wave_73 : decode cX9_wave 73 = .ok (.aload_n 0, 1) := by decide +kernel
theorem dX9_wave_74 : decode cX9_wave 74 = .ok (.getfield 67, 3) := by decide +kernel
theorem dX9_wave_77 : decode cX9_wave 77 = .ok (.iload 4, 2) := by decide +kernel
theorem dX9_wave_79 : decode cX9_wave 79 = .ok (.iaload, 1) := by decide +kernel
theorem dX9_wave_80 : decode cX9_wave 80 = .ok (.iaload, 1) := by decide +kernel
theorem dX9_wave_81 : decode cX9_wave 81 = .ok (.if_icmp .le 12, 3) := by decide +kernel
theorem dX9_wave_84 : decode cX9_wave 84 = .ok (.aload_n 0, 1) := by decide +kernel
theorem dX9_wave_85 : decode cX9_wave 85 = .ok (.getfield 67, 3) := by decide +kernel
theorem dX9_wave_88 : decode cX9_wave 88 = .ok (.iload 4, 2) := by decide +kernel
theorem dX9_wave_90 : decode cX9_wave 90 = .ok (.iload 5, 2) := by decide +kernel
theorem dX9_wave_92 : decode cX9_wave 92 = .ok (.iastore, 1) := by decide +kernel
theorem dX9_wave_93 : decode cX9_wave 93 = .ok (.aload_n 0, 1) := by decide +kernel
theorem dX9_wave_94 : decode cX9_wave 94 = .ok (.getfield 34, 3) := by decide +kernel
theorem dX9_wave_97 : decode cX9_wave 97 = .ok (.iload 5, 2) := by decide +kernel
theorem dX9_wave_99 : decode cX9_wave 99 = .ok (.iaload, 1) := by decide +kernel
theorem dX9_wave_100 : decode cX9_wave 100 = .ok (.aload_n 0, 1) := by decide +kernel
theorem dX9_wave_101 : decode cX9_wave 101 = .ok (.getfield 64, 3) := by decide +kernel
theorem dX9_wave_104 : decode cX9_wave 104 = .ok (.iload 4, 2) := by decide +kernel
theorem dX9_wave_106 : decode cX9_wave 106 = .ok (.iaload, 1) := by decide +kernel
theorem dX9_wave_107 : decode cX9_wave 107 = .ok (.if_icmp .ge 17, 3) := by decide +kernel
theorem dX9_wave_110 : decode cX9_wave 110 = .ok (.aload_n 0, 1) := by decide +kernel
theorem dX9_wave_111 : decode cX9_wave 111 = .ok (.getfield 64, 3) := by decide +kernel
theorem dX9_wave_114 : decode cX9_wave 114 = .ok (.iload 4, 2) := by decide +kernel
theorem dX9_wave_116 : decode cX9_wave 116 = .ok (.aload_n 0, 1) := by decide +kernel
theorem dX9_wave_117 : decode cX9_wave 117 = .ok (.getfield 34, 3) := by decide +kernel
theorem dX9_wave_120 : decode cX9_wave 120 = .ok (.iload 5, 2) := by decide +kernel
theorem dX9_wave_122 : decode cX9_wave 122 = .ok (.iaload, 1) := by decide +kernel
theorem dX9_wave_123 : decode cX9_wave 123 = .ok (.iastore, 1) := by decide +kernel
theorem dX9_wave_124 : decode cX9_wave 124 = .ok (.aload_n 0, 1) := by decide +kernel
theorem dX9_wave_125 : decode cX9_wave 125 = .ok (.getfield 52, 3) := by decide +kernel
theorem dX9_wave_128 : decode cX9_wave 128 = .ok (.iload 5, 2) := by decide +kernel
theorem dX9_wave_130 : decode cX9_wave 130 = .ok (.iload 4, 2) := by decide +kernel
theorem dX9_wave_132 : decode cX9_wave 132 = .ok (.iastore, 1) := by decide +kernel
theorem dX9_wave_133 : decode cX9_wave 133 = .ok (.iinc 5 1, 3) := by decide +kernel
theorem dX9_wave_136 : decode cX9_wave 136 = .ok (.goto (-80), 3) := by decide +kernel
theorem dX9_wave_139 : decode cX9_wave 139 = .ok (.aload_n 0, 1) := by decide +kernel
theorem dX9_wave_140 : decode cX9_wave 140 = .ok (.getfield 61, 3) := by decide +kernel
theorem dX9_wave_143 : decode cX9_wave 143 = .ok (.iload 4, 2) := by decide +kernel
theorem dX9_wave_145 : decode cX9_wave 145 = .ok (.aload_n 0, 1) := by decide +kernel
theorem dX9_wave_146 : decode cX9_wave 146 = .ok (.getfield 34, 3) := by decide +kernel
theorem dX9_wave_149 : decode cX9_wave 149 = .ok (.aload_n 0, 1) := by decide +kernel
theorem dX9_wave_150 : decode cX9_wave 150 = .ok (.getfield 67, 3) := by decide +kernel
theorem dX9_wave_153 : decode cX9_wave 153 = .ok (.iload 4, 2) := by decide +kernel
theorem dX9_wave_155 : decode cX9_wave 155 = .ok (.iaload, 1) := by decide +kernel
theorem dX9_wave_156 : decode cX9_wave 156 = .ok (.iaload, 1) := by decide +kernel
theorem dX9_wave_157 : decode cX9_wave 157 = .ok (.iastore, 1) := by decide +kernel
theorem dX9_wave_158 : decode cX9_wave 158 = .ok (.aload_n 0, 1) := by decide +kernel
theorem dX9_wave_159 : decode cX9_wave 159 = .ok (.dup, 1) := by decide +kernel
theorem dX9_wave_160 : decode cX9_wave 160 = .ok (.getfield 150, 3) := by decide +kernel
theorem dX9_wave_163 : decode cX9_wave 163 = .ok (.iconst 1, 1) := by decide +kernel
theorem dX9_wave_164 : decode cX9_wave 164 = .ok (.iadd, 1) := by decide +kernel
theorem dX9_wave_165 : decode cX9_wave 165 = .ok (.putfield 150, 3) := by decide +kernel
theorem dX9_wave_168 : decode cX9_wave 168 = .ok (.return_, 1) := by decide +kernel
theorem dX9_height_0 : decode cX9_height 0 = .ok (.aload_n 0, 1) := by decide +kernel
theorem dX9_height_1 : decode cX9_height 1 = .ok (.getfield 61, 3) := by decide +kernel
theorem dX9_height_4 : decode cX9_height 4 = .ok (.iload_n 1, 1) := by decide +kernel
theorem dX9_height_5 : decode cX9_height 5 = .ok (.iaload, 1) := by decide +kernel
theorem dX9_height_6 : decode cX9_height 6 = .ok (.aload_n 0, 1) := by decide +kernel
theorem dX9_height_7 : decode cX9_height 7 = .ok (.getfield 64, 3) := by decide +kernel
theorem dX9_height_10 : decode cX9_height 10 = .ok (.iload_n 1, 1) := by decide +kernel
theorem dX9_height_11 : decode cX9_height 11 = .ok (.iaload, 1) := by decide +kernel
theorem dX9_height_12 : decode cX9_height 12 = .ok (.isub, 1) := by decide +kernel
theorem dX9_height_13 : decode cX9_height 13 = .ok (.ireturn, 1) := by decide +kernel
theorem dX9_highestMany_0 : decode cX9_highestMany 0 = .ok (.aload_n 0, 1) := by decide +kernel
theorem dX9_highestMany_1 : decode cX9_highestMany 1 = .ok (.getfield 150, 3) := by decide +kernel
theorem dX9_highestMany_4 : decode cX9_highestMany 4 = .ok (.ifCond .ne 7, 3) := by decide +kernel
theorem dX9_highestMany_7 : decode cX9_highestMany 7 = .ok (.iconst 0, 1) := by decide +kernel
theorem dX9_highestMany_8 : decode cX9_highestMany 8 = .ok (.goto 23, 3) := by decide +kernel
theorem dX9_highestMany_11 : decode cX9_highestMany 11 = .ok (.aload_n 0, 1) := by decide +kernel
theorem dX9_highestMany_12 : decode cX9_highestMany 12 = .ok (.getfield 150, 3) := by decide +kernel
theorem dX9_highestMany_15 : decode cX9_highestMany 15 = .ok (.iload_n 1, 1) := by decide +kernel
theorem dX9_highestMany_16 : decode cX9_highestMany 16 = .ok (.idiv, 1) := by decide +kernel
theorem dX9_highestMany_17 : decode cX9_highestMany 17 = .ok (.iconst 1, 1) := by decide +kernel
theorem dX9_highestMany_18 : decode cX9_highestMany 18 = .ok (.if_icmp .ge 7, 3) := by decide +kernel
theorem dX9_highestMany_21 : decode cX9_highestMany 21 = .ok (.iconst 1, 1) := by decide +kernel
theorem dX9_highestMany_22 : decode cX9_highestMany 22 = .ok (.goto 9, 3) := by decide +kernel
theorem dX9_highestMany_25 : decode cX9_highestMany 25 = .ok (.aload_n 0, 1) := by decide +kernel
theorem dX9_highestMany_26 : decode cX9_highestMany 26 = .ok (.getfield 150, 3) := by decide +kernel
theorem dX9_highestMany_29 : decode cX9_highestMany 29 = .ok (.iload_n 1, 1) := by decide +kernel
theorem dX9_highestMany_30 : decode cX9_highestMany 30 = .ok (.idiv, 1) := by decide +kernel
theorem dX9_highestMany_31 : decode cX9_highestMany 31 = .ok (.ireturn, 1) := by decide +kernel
theorem dX9_highestSum_0 : decode cX9_highestSum 0 = .ok (.lconst 0, 1) := by decide +kernel
theorem dX9_highestSum_1 : decode cX9_highestSum 1 = .ok (.lstore_n 3, 1) := by decide +kernel
theorem dX9_highestSum_2 : decode cX9_highestSum 2 = .ok (.iconst 0, 1) := by decide +kernel
theorem dX9_highestSum_3 : decode cX9_highestSum 3 = .ok (.istore 5, 2) := by decide +kernel
theorem dX9_highestSum_5 : decode cX9_highestSum 5 = .ok (.iload 5, 2) := by decide +kernel
theorem dX9_highestSum_7 : decode cX9_highestSum 7 = .ok (.aload_n 0, 1) := by decide +kernel
theorem dX9_highestSum_8 : decode cX9_highestSum 8 = .ok (.getfield 150, 3) := by decide +kernel
theorem dX9_highestSum_11 : decode cX9_highestSum 11 = .ok (.if_icmp .ge 49, 3) := by decide +kernel
theorem dX9_highestSum_14 : decode cX9_highestSum 14 = .ok (.aload_n 0, 1) := by decide +kernel
theorem dX9_highestSum_15 : decode cX9_highestSum 15 = .ok (.getfield 73, 3) := by decide +kernel
theorem dX9_highestSum_18 : decode cX9_highestSum 18 = .ok (.iload 5, 2) := by decide +kernel
theorem dX9_highestSum_20 : decode cX9_highestSum 20 = .ok (.iaload, 1) := by decide +kernel
theorem dX9_highestSum_21 : decode cX9_highestSum 21 = .ok (.aload_n 0, 1) := by decide +kernel
theorem dX9_highestSum_22 : decode cX9_highestSum 22 = .ok (.iload_n 1, 1) := by decide +kernel
theorem dX9_highestSum_23 : decode cX9_highestSum 23 = .ok (.invokevirtual 166, 3) := by decide +kernel
theorem dX9_highestSum_26 : decode cX9_highestSum 26 = .ok (.if_icmp .ge 28, 3) := by decide +kernel
theorem dX9_highestSum_29 : decode cX9_highestSum 29 = .ok (.lload_n 3, 1) := by decide +kernel
theorem dX9_highestSum_30 : decode cX9_highestSum 30 = .ok (.iload_n 2, 1) := by decide +kernel
theorem dX9_highestSum_31 : decode cX9_highestSum 31 = .ok (.ifCond .eq 13, 3) := by decide +kernel
theorem dX9_highestSum_34 : decode cX9_highestSum 34 = .ok (.aload_n 0, 1) := by decide +kernel
theorem dX9_highestSum_35 : decode cX9_highestSum 35 = .ok (.iload 5, 2) := by decide +kernel
theorem dX9_highestSum_37 : decode cX9_highestSum 37 = .ok (.invokevirtual 160, 3) := by decide +kernel
theorem dX9_highestSum_40 : decode cX9_highestSum 40 = .ok (.i2l, 1) := by decide +kernel
theorem dX9_highestSum_41 : decode cX9_highestSum 41 = .ok (.goto 11, 3) := by decide +kernel
theorem dX9_highestSum_44 : decode cX9_highestSum 44 = .ok (.aload_n 0, 1) := by decide +kernel
theorem dX9_highestSum_45 : decode cX9_highestSum 45 = .ok (.getfield 58, 3) := by decide +kernel
theorem dX9_highestSum_48 : decode cX9_highestSum 48 = .ok (.iload 5, 2) := by decide +kernel
theorem dX9_highestSum_50 : decode cX9_highestSum 50 = .ok (.iaload, 1) := by decide +kernel
theorem dX9_highestSum_51 : decode cX9_highestSum 51 = .ok (.i2l, 1) := by decide +kernel
theorem dX9_highestSum_52 : decode cX9_highestSum 52 = .ok (.ladd, 1) := by decide +kernel
theorem dX9_highestSum_53 : decode cX9_highestSum 53 = .ok (.lstore_n 3, 1) := by decide +kernel
theorem dX9_highestSum_54 : decode cX9_highestSum 54 = .ok (.iinc 5 1, 3) := by decide +kernel
theorem dX9_highestSum_57 : decode cX9_highestSum 57 = .ok (.goto (-52), 3) := by decide +kernel
theorem dX9_highestSum_60 : decode cX9_highestSum 60 = .ok (.lload_n 3, 1) := by decide +kernel
theorem dX9_highestSum_61 : decode cX9_highestSum 61 = .ok (.lreturn, 1) := by decide +kernel
theorem dX9_middleHeight_0 : decode cX9_middleHeight 0 = .ok (.iconst 0, 1) := by decide +kernel
theorem dX9_middleHeight_1 : decode cX9_middleHeight 1 = .ok (.istore_n 1, 1) := by decide +kernel
theorem dX9_middleHeight_2 : decode cX9_middleHeight 2 = .ok (.iload_n 1, 1) := by decide +kernel
theorem dX9_middleHeight_3 : decode cX9_middleHeight 3 = .ok (.aload_n 0, 1) := by decide +kernel
theorem dX9_middleHeight_4 : decode cX9_middleHeight 4 = .ok (.getfield 150, 3) := by decide +kernel
theorem dX9_middleHeight_7 : decode cX9_middleHeight 7 = .ok (.if_icmp .ge 105, 3) := by decide +kernel
theorem dX9_middleHeight_10 : decode cX9_middleHeight 10 = .ok (.iconst 0, 1) := by decide +kernel
theorem dX9_middleHeight_11 : decode cX9_middleHeight 11 = .ok (.istore_n 2, 1) := by decide +kernel
theorem dX9_middleHeight_12 : decode cX9_middleHeight 12 = .ok (.iconst 0, 1) := by decide +kernel
theorem dX9_middleHeight_13 : decode cX9_middleHeight 13 = .ok (.istore_n 3, 1) := by decide +kernel
theorem dX9_middleHeight_14 : decode cX9_middleHeight 14 = .ok (.iconst 0, 1) := by decide +kernel
theorem dX9_middleHeight_15 : decode cX9_middleHeight 15 = .ok (.istore 4, 2) := by decide +kernel
theorem dX9_middleHeight_17 : decode cX9_middleHeight 17 = .ok (.iload 4, 2) := by decide +kernel
theorem dX9_middleHeight_19 : decode cX9_middleHeight 19 = .ok (.aload_n 0, 1) := by decide +kernel
theorem dX9_middleHeight_20 : decode cX9_middleHeight 20 = .ok (.getfield 150, 3) := by decide +kernel
theorem dX9_middleHeight_23 : decode cX9_middleHeight 23 = .ok (.if_icmp .ge 53, 3) := by decide +kernel
theorem dX9_middleHeight_26 : decode cX9_middleHeight 26 = .ok (.iload_n 2, 1) := by decide +kernel
theorem dX9_middleHeight_27 : decode cX9_middleHeight 27 = .ok (.aload_n 0, 1) := by decide +kernel
theorem dX9_middleHeight_28 : decode cX9_middleHeight 28 = .ok (.iload 4, 2) := by decide +kernel
theorem dX9_middleHeight_30 : decode cX9_middleHeight 30 = .ok (.invokevirtual 160, 3) := by decide +kernel
theorem dX9_middleHeight_33 : decode cX9_middleHeight 33 = .ok (.aload_n 0, 1) := by decide +kernel
theorem dX9_middleHeight_34 : decode cX9_middleHeight 34 = .ok (.iload_n 1, 1) := by decide +kernel
theorem dX9_middleHeight_35 : decode cX9_middleHeight 35 = .ok (.invokevirtual 160, 3) := by decide +kernel
theorem dX9_middleHeight_38 : decode cX9_middleHeight 38 = .ok (.if_icmp .ge 7, 3) := by decide +kernel
theorem dX9_middleHeight_41 : decode cX9_middleHeight 41 = .ok (.iconst 1, 1) := by decide +kernel
theorem dX9_middleHeight_42 : decode cX9_middleHeight 42 = .ok (.goto 4, 3) := by decide +kernel
theorem dX9_middleHeight_45 : decode cX9_middleHeight 45 = .ok (.iconst 0, 1) := by decide +kernel
theorem dX9_middleHeight_46 : decode cX9_middleHeight 46 = .ok (.iadd, 1) := by decide +kernel
theorem dX9_middleHeight_47 : decode cX9_middleHeight 47 = .ok (.istore_n 2, 1) := by decide +kernel
theorem dX9_middleHeight_48 : decode cX9_middleHeight 48 = .ok (.iload_n 3, 1) := by decide +kernel
theorem dX9_middleHeight_49 : decode cX9_middleHeight 49 = .ok (.aload_n 0, 1) := by decide +kernel
theorem dX9_middleHeight_50 : decode cX9_middleHeight 50 = .ok (.iload 4, 2) := by decide +kernel
theorem dX9_middleHeight_52 : decode cX9_middleHeight 52 = .ok (.invokevirtual 160, 3) := by decide +kernel
theorem dX9_middleHeight_55 : decode cX9_middleHeight 55 = .ok (.aload_n 0, 1) := by decide +kernel
theorem dX9_middleHeight_56 : decode cX9_middleHeight 56 = .ok (.iload_n 1, 1) := by decide +kernel
theorem dX9_middleHeight_57 : decode cX9_middleHeight 57 = .ok (.invokevirtual 160, 3) := by decide +kernel
theorem dX9_middleHeight_60 : decode cX9_middleHeight 60 = .ok (.if_icmp .gt 7, 3) := by decide +kernel
theorem dX9_middleHeight_63 : decode cX9_middleHeight 63 = .ok (.iconst 1, 1) := by decide +kernel
theorem dX9_middleHeight_64 : decode cX9_middleHeight 64 = .ok (.goto 4, 3) := by decide +kernel
theorem dX9_middleHeight_67 : decode cX9_middleHeight 67 = .ok (.iconst 0, 1) := by decide +kernel
theorem dX9_middleHeight_68 : decode cX9_middleHeight 68 = .ok (.iadd, 1) := by decide +kernel
theorem dX9_middleHeight_69 : decode cX9_middleHeight 69 = .ok (.istore_n 3, 1) := by decide +kernel
theorem dX9_middleHeight_70 : decode cX9_middleHeight 70 = .ok (.iinc 4 1, 3) := by decide +kernel
theorem dX9_middleHeight_73 : decode cX9_middleHeight 73 = .ok (.goto (-56), 3) := by decide +kernel
theorem dX9_middleHeight_76 : decode cX9_middleHeight 76 = .ok (.iload_n 2, 1) := by decide +kernel
theorem dX9_middleHeight_77 : decode cX9_middleHeight 77 = .ok (.aload_n 0, 1) := by decide +kernel
theorem dX9_middleHeight_78 : decode cX9_middleHeight 78 = .ok (.getfield 150, 3) := by decide +kernel
theorem dX9_middleHeight_81 : decode cX9_middleHeight 81 = .ok (.iconst 1, 1) := by decide +kernel
theorem dX9_middleHeight_82 : decode cX9_middleHeight 82 = .ok (.isub, 1) := by decide +kernel
theorem dX9_middleHeight_83 : decode cX9_middleHeight 83 = .ok (.iconst 2, 1) := by decide +kernel
theorem dX9_middleHeight_84 : decode cX9_middleHeight 84 = .ok (.idiv, 1) := by decide +kernel
theorem dX9_middleHeight_85 : decode cX9_middleHeight 85 = .ok (.if_icmp .gt 21, 3) := by decide +kernel
theorem dX9_middleHeight_88 : decode cX9_middleHeight 88 = .ok (.iload_n 3, 1) := by decide +kernel
theorem dX9_middleHeight_89 : decode cX9_middleHeight 89 = .ok (.aload_n 0, 1) := by decide +kernel
theorem dX9_middleHeight_90 : decode cX9_middleHeight 90 = .ok (.getfield 150, 3) := by decide +kernel
theorem dX9_middleHeight_93 : decode cX9_middleHeight 93 = .ok (.iconst 1, 1) := by decide +kernel
theorem dX9_middleHeight_94 : decode cX9_middleHeight 94 = .ok (.isub, 1) := by decide +kernel
theorem dX9_middleHeight_95 : decode cX9_middleHeight 95 = .ok (.iconst 2, 1) := by decide +kernel
theorem dX9_middleHeight_96 : decode cX9_middleHeight 96 = .ok (.idiv, 1) := by decide +kernel
theorem dX9_middleHeight_97 : decode cX9_middleHeight 97 = .ok (.if_icmp .le 9, 3) := by decide +kernel
theorem dX9_middleHeight_100 : decode cX9_middleHeight 100 = .ok (.aload_n 0, 1) := by decide +kernel
theorem dX9_middleHeight_101 : decode cX9_middleHeight 101 = .ok (.iload_n 1, 1) := by decide +kernel
theorem dX9_middleHeight_102 : decode cX9_middleHeight 102 = .ok (.invokevirtual 160, 3) := by decide +kernel
theorem dX9_middleHeight_105 : decode cX9_middleHeight 105 = .ok (.ireturn, 1) := by decide +kernel
theorem dX9_middleHeight_106 : decode cX9_middleHeight 106 = .ok (.iinc 1 1, 3) := by decide +kernel
theorem dX9_middleHeight_109 : decode cX9_middleHeight 109 = .ok (.goto (-107), 3) := by decide +kernel
theorem dX9_middleHeight_112 : decode cX9_middleHeight 112 = .ok (.iconst 0, 1) := by decide +kernel
theorem dX9_middleHeight_113 : decode cX9_middleHeight 113 = .ok (.ireturn, 1) := by decide +kernel
theorem dX9_laysHigh_0 : decode cX9_laysHigh 0 = .ok (.aload_n 0, 1) := by decide +kernel
theorem dX9_laysHigh_1 : decode cX9_laysHigh 1 = .ok (.getfield 13, 3) := by decide +kernel
theorem dX9_laysHigh_4 : decode cX9_laysHigh 4 = .ok (.bipush 7, 2) := by decide +kernel
theorem dX9_laysHigh_6 : decode cX9_laysHigh 6 = .ok (.iaload, 1) := by decide +kernel
theorem dX9_laysHigh_7 : decode cX9_laysHigh 7 = .ok (.i2l, 1) := by decide +kernel
theorem dX9_laysHigh_8 : decode cX9_laysHigh 8 = .ok (.lstore_n 1, 1) := by decide +kernel
theorem dX9_laysHigh_9 : decode cX9_laysHigh 9 = .ok (.lconst 1, 1) := by decide +kernel
theorem dX9_laysHigh_10 : decode cX9_laysHigh 10 = .ok (.lstore_n 3, 1) := by decide +kernel
theorem dX9_laysHigh_11 : decode cX9_laysHigh 11 = .ok (.aload_n 0, 1) := by decide +kernel
theorem dX9_laysHigh_12 : decode cX9_laysHigh 12 = .ok (.getfield 13, 3) := by decide +kernel
theorem dX9_laysHigh_15 : decode cX9_laysHigh 15 = .ok (.bipush 6, 2) := by decide +kernel
theorem dX9_laysHigh_17 : decode cX9_laysHigh 17 = .ok (.iaload, 1) := by decide +kernel
theorem dX9_laysHigh_18 : decode cX9_laysHigh 18 = .ok (.iconst 1, 1) := by decide +kernel
theorem dX9_laysHigh_19 : decode cX9_laysHigh 19 = .ok (.if_icmp .eq 14, 3) := by decide +kernel
theorem dX9_laysHigh_22 : decode cX9_laysHigh 22 = .ok (.aload_n 0, 1) := by decide +kernel
theorem dX9_laysHigh_23 : decode cX9_laysHigh 23 = .ok (.getfield 13, 3) := by decide +kernel
theorem dX9_laysHigh_26 : decode cX9_laysHigh 26 = .ok (.bipush 6, 2) := by decide +kernel
theorem dX9_laysHigh_28 : decode cX9_laysHigh 28 = .ok (.iaload, 1) := by decide +kernel
theorem dX9_laysHigh_29 : decode cX9_laysHigh 29 = .ok (.iconst 2, 1) := by decide +kernel
theorem dX9_laysHigh_30 : decode cX9_laysHigh 30 = .ok (.if_icmp .ne 37, 3) := by decide +kernel
theorem dX9_laysHigh_33 : decode cX9_laysHigh 33 = .ok (.aload_n 0, 1) := by decide +kernel
theorem dX9_laysHigh_34 : decode cX9_laysHigh 34 = .ok (.getfield 13, 3) := by decide +kernel
theorem dX9_laysHigh_37 : decode cX9_laysHigh 37 = .ok (.bipush 6, 2) := by decide +kernel
theorem dX9_laysHigh_39 : decode cX9_laysHigh 39 = .ok (.iaload, 1) := by decide +kernel
theorem dX9_laysHigh_40 : decode cX9_laysHigh 40 = .ok (.iconst 1, 1) := by decide +kernel
theorem dX9_laysHigh_41 : decode cX9_laysHigh 41 = .ok (.if_icmp .ne 7, 3) := by decide +kernel
theorem dX9_laysHigh_44 : decode cX9_laysHigh 44 = .ok (.iconst 1, 1) := by decide +kernel
theorem dX9_laysHigh_45 : decode cX9_laysHigh 45 = .ok (.goto 4, 3) := by decide +kernel
theorem dX9_laysHigh_48 : decode cX9_laysHigh 48 = .ok (.iconst 3, 1) := by decide +kernel
theorem dX9_laysHigh_49 : decode cX9_laysHigh 49 = .ok (.istore 5, 2) := by decide +kernel
theorem dX9_laysHigh_51 : decode cX9_laysHigh 51 = .ok (.aload_n 0, 1) := by decide +kernel
theorem dX9_laysHigh_52 : decode cX9_laysHigh 52 = .ok (.iload 5, 2) := by decide +kernel
theorem dX9_laysHigh_54 : decode cX9_laysHigh 54 = .ok (.iconst 1, 1) := by decide +kernel
theorem dX9_laysHigh_55 : decode cX9_laysHigh 55 = .ok (.invokevirtual 169, 3) := by decide +kernel
theorem dX9_laysHigh_58 : decode cX9_laysHigh 58 = .ok (.lstore_n 1, 1) := by decide +kernel
theorem dX9_laysHigh_59 : decode cX9_laysHigh 59 = .ok (.aload_n 0, 1) := by decide +kernel
theorem dX9_laysHigh_60 : decode cX9_laysHigh 60 = .ok (.iload 5, 2) := by decide +kernel
theorem dX9_laysHigh_62 : decode cX9_laysHigh 62 = .ok (.invokevirtual 166, 3) := by decide +kernel
theorem dX9_laysHigh_65 : decode cX9_laysHigh 65 = .ok (.i2l, 1) := by decide +kernel
theorem dX9_laysHigh_66 : decode cX9_laysHigh 66 = .ok (.lstore_n 3, 1) := by decide +kernel
theorem dX9_laysHigh_67 : decode cX9_laysHigh 67 = .ok (.aload_n 0, 1) := by decide +kernel
theorem dX9_laysHigh_68 : decode cX9_laysHigh 68 = .ok (.getfield 13, 3) := by decide +kernel
theorem dX9_laysHigh_71 : decode cX9_laysHigh 71 = .ok (.bipush 6, 2) := by decide +kernel
theorem dX9_laysHigh_73 : decode cX9_laysHigh 73 = .ok (.iaload, 1) := by decide +kernel
theorem dX9_laysHigh_74 : decode cX9_laysHigh 74 = .ok (.iconst 3, 1) := by decide +kernel
theorem dX9_laysHigh_75 : decode cX9_laysHigh 75 = .ok (.if_icmp .ne 9, 3) := by decide +kernel
theorem dX9_laysHigh_78 : decode cX9_laysHigh 78 = .ok (.aload_n 0, 1) := by decide +kernel
theorem dX9_laysHigh_79 : decode cX9_laysHigh 79 = .ok (.invokevirtual 173, 3) := by decide +kernel
theorem dX9_laysHigh_82 : decode cX9_laysHigh 82 = .ok (.i2l, 1) := by decide +kernel
theorem dX9_laysHigh_83 : decode cX9_laysHigh 83 = .ok (.lstore_n 1, 1) := by decide +kernel
theorem dX9_laysHigh_84 : decode cX9_laysHigh 84 = .ok (.iconst 0, 1) := by decide +kernel
theorem dX9_laysHigh_85 : decode cX9_laysHigh 85 = .ok (.istore 5, 2) := by decide +kernel
theorem dX9_laysHigh_87 : decode cX9_laysHigh 87 = .ok (.iload 5, 2) := by decide +kernel
theorem dX9_laysHigh_89 : decode cX9_laysHigh 89 = .ok (.aload_n 0, 1) := by decide +kernel
theorem dX9_laysHigh_90 : decode cX9_laysHigh 90 = .ok (.getfield 150, 3) := by decide +kernel
theorem dX9_laysHigh_93 : decode cX9_laysHigh 93 = .ok (.if_icmp .ge 35, 3) := by decide +kernel
theorem dX9_laysHigh_96 : decode cX9_laysHigh 96 = .ok (.aload_n 0, 1) := by decide +kernel
theorem dX9_laysHigh_97 : decode cX9_laysHigh 97 = .ok (.getfield 76, 3) := by decide +kernel
theorem dX9_laysHigh_100 : decode cX9_laysHigh 100 = .ok (.iload 5, 2) := by decide +kernel
theorem dX9_laysHigh_102 : decode cX9_laysHigh 102 = .ok (.aload_n 0, 1) := by decide +kernel
theorem dX9_laysHigh_103 : decode cX9_laysHigh 103 = .ok (.iload 5, 2) := by decide +kernel
theorem dX9_laysHigh_105 : decode cX9_laysHigh 105 = .ok (.invokevirtual 160, 3) := by decide +kernel
theorem dX9_laysHigh_108 : decode cX9_laysHigh 108 = .ok (.i2l, 1) := by decide +kernel
theorem dX9_laysHigh_109 : decode cX9_laysHigh 109 = .ok (.lload_n 3, 1) := by decide +kernel
theorem dX9_laysHigh_110 : decode cX9_laysHigh 110 = .ok (.lmul, 1) := by decide +kernel
theorem dX9_laysHigh_111 : decode cX9_laysHigh 111 = .ok (.lload_n 1, 1) := by decide +kernel
theorem dX9_laysHigh_112 : decode cX9_laysHigh 112 = .ok (.lcmp, 1) := by decide +kernel
theorem dX9_laysHigh_113 : decode cX9_laysHigh 113 = .ok (.ifCond .le 7, 3) := by decide +kernel
theorem dX9_laysHigh_116 : decode cX9_laysHigh 116 = .ok (.iconst 1, 1) := by decide +kernel
theorem dX9_laysHigh_117 : decode cX9_laysHigh 117 = .ok (.goto 4, 3) := by decide +kernel
theorem dX9_laysHigh_120 : decode cX9_laysHigh 120 = .ok (.iconst 0, 1) := by decide +kernel
theorem dX9_laysHigh_121 : decode cX9_laysHigh 121 = .ok (.bastore, 1) := by decide +kernel
theorem dX9_laysHigh_122 : decode cX9_laysHigh 122 = .ok (.iinc 5 1, 3) := by decide +kernel
theorem dX9_laysHigh_125 : decode cX9_laysHigh 125 = .ok (.goto (-38), 3) := by decide +kernel
theorem dX9_laysHigh_128 : decode cX9_laysHigh 128 = .ok (.return_, 1) := by decide +kernel
theorem dX9_isFreak_0 : decode cX9_isFreak 0 = .ok (.ldc2_w 121, 3) := by decide +kernel
theorem dX9_isFreak_3 : decode cX9_isFreak 3 = .ok (.aload_n 0, 1) := by decide +kernel
theorem dX9_isFreak_4 : decode cX9_isFreak 4 = .ok (.iload_n 1, 1) := by decide +kernel
theorem dX9_isFreak_5 : decode cX9_isFreak 5 = .ok (.invokevirtual 160, 3) := by decide +kernel
theorem dX9_isFreak_8 : decode cX9_isFreak 8 = .ok (.i2l, 1) := by decide +kernel
theorem dX9_isFreak_9 : decode cX9_isFreak 9 = .ok (.lmul, 1) := by decide +kernel
theorem dX9_isFreak_10 : decode cX9_isFreak 10 = .ok (.aload_n 0, 1) := by decide +kernel
theorem dX9_isFreak_11 : decode cX9_isFreak 11 = .ok (.iconst 3, 1) := by decide +kernel
theorem dX9_isFreak_12 : decode cX9_isFreak 12 = .ok (.invokevirtual 166, 3) := by decide +kernel
theorem dX9_isFreak_15 : decode cX9_isFreak 15 = .ok (.i2l, 1) := by decide +kernel
theorem dX9_isFreak_16 : decode cX9_isFreak 16 = .ok (.lmul, 1) := by decide +kernel
theorem dX9_isFreak_17 : decode cX9_isFreak 17 = .ok (.aload_n 0, 1) := by decide +kernel
theorem dX9_isFreak_18 : decode cX9_isFreak 18 = .ok (.getfield 13, 3) := by decide +kernel
theorem dX9_isFreak_21 : decode cX9_isFreak 21 = .ok (.iconst 2, 1) := by decide +kernel
theorem dX9_isFreak_22 : decode cX9_isFreak 22 = .ok (.iaload, 1) := by decide +kernel
theorem dX9_isFreak_23 : decode cX9_isFreak 23 = .ok (.i2l, 1) := by decide +kernel
theorem dX9_isFreak_24 : decode cX9_isFreak 24 = .ok (.aload_n 0, 1) := by decide +kernel
theorem dX9_isFreak_25 : decode cX9_isFreak 25 = .ok (.iconst 3, 1) := by decide +kernel
theorem dX9_isFreak_26 : decode cX9_isFreak 26 = .ok (.iconst 1, 1) := by decide +kernel
theorem dX9_isFreak_27 : decode cX9_isFreak 27 = .ok (.invokevirtual 169, 3) := by decide +kernel
theorem dX9_isFreak_30 : decode cX9_isFreak 30 = .ok (.lmul, 1) := by decide +kernel
theorem dX9_isFreak_31 : decode cX9_isFreak 31 = .ok (.lcmp, 1) := by decide +kernel
theorem dX9_isFreak_32 : decode cX9_isFreak 32 = .ok (.ifCond .le 7, 3) := by decide +kernel
theorem dX9_isFreak_35 : decode cX9_isFreak 35 = .ok (.iconst 1, 1) := by decide +kernel
theorem dX9_isFreak_36 : decode cX9_isFreak 36 = .ok (.goto 4, 3) := by decide +kernel
theorem dX9_isFreak_39 : decode cX9_isFreak 39 = .ok (.iconst 0, 1) := by decide +kernel
theorem dX9_isFreak_40 : decode cX9_isFreak 40 = .ok (.ireturn, 1) := by decide +kernel
theorem dX9_freaks_0 : decode cX9_freaks 0 = .ok (.iconst 0, 1) := by decide +kernel
theorem dX9_freaks_1 : decode cX9_freaks 1 = .ok (.istore_n 1, 1) := by decide +kernel
theorem dX9_freaks_2 : decode cX9_freaks 2 = .ok (.iconst 0, 1) := by decide +kernel
theorem dX9_freaks_3 : decode cX9_freaks 3 = .ok (.istore_n 2, 1) := by decide +kernel
theorem dX9_freaks_4 : decode cX9_freaks 4 = .ok (.iload_n 2, 1) := by decide +kernel
theorem dX9_freaks_5 : decode cX9_freaks 5 = .ok (.aload_n 0, 1) := by decide +kernel
theorem dX9_freaks_6 : decode cX9_freaks 6 = .ok (.getfield 150, 3) := by decide +kernel
theorem dX9_freaks_9 : decode cX9_freaks 9 = .ok (.if_icmp .ge 25, 3) := by decide +kernel
theorem dX9_freaks_12 : decode cX9_freaks 12 = .ok (.iload_n 1, 1) := by decide +kernel
theorem dX9_freaks_13 : decode cX9_freaks 13 = .ok (.aload_n 0, 1) := by decide +kernel
theorem dX9_freaks_14 : decode cX9_freaks 14 = .ok (.iload_n 2, 1) := by decide +kernel
theorem dX9_freaks_15 : decode cX9_freaks 15 = .ok (.invokevirtual 177, 3) := by decide +kernel
theorem dX9_freaks_18 : decode cX9_freaks 18 = .ok (.ifCond .eq 7, 3) := by decide +kernel
theorem dX9_freaks_21 : decode cX9_freaks 21 = .ok (.iconst 1, 1) := by decide +kernel
theorem dX9_freaks_22 : decode cX9_freaks 22 = .ok (.goto 4, 3) := by decide +kernel
theorem dX9_freaks_25 : decode cX9_freaks 25 = .ok (.iconst 0, 1) := by decide +kernel
theorem dX9_freaks_26 : decode cX9_freaks 26 = .ok (.iadd, 1) := by decide +kernel
theorem dX9_freaks_27 : decode cX9_freaks 27 = .ok (.istore_n 1, 1) := by decide +kernel
theorem dX9_freaks_28 : decode cX9_freaks 28 = .ok (.iinc 2 1, 3) := by decide +kernel
theorem dX9_freaks_31 : decode cX9_freaks 31 = .ok (.goto (-27), 3) := by decide +kernel
theorem dX9_freaks_34 : decode cX9_freaks 34 = .ok (.iload_n 1, 1) := by decide +kernel
theorem dX9_freaks_35 : decode cX9_freaks 35 = .ok (.ireturn, 1) := by decide +kernel
theorem dX9_run_0 : decode cX9_run 0 = .ok (.aload_n 0, 1) := by decide +kernel
theorem dX9_run_1 : decode cX9_run 1 = .ok (.getfield 76, 3) := by decide +kernel
theorem dX9_run_4 : decode cX9_run 4 = .ok (.iload_n 1, 1) := by decide +kernel
theorem dX9_run_5 : decode cX9_run 5 = .ok (.baload, 1) := by decide +kernel
theorem dX9_run_6 : decode cX9_run 6 = .ok (.ifCond .eq 35, 3) := by decide +kernel
theorem dX9_run_9 : decode cX9_run 9 = .ok (.iload_n 1, 1) := by decide +kernel
theorem dX9_run_10 : decode cX9_run 10 = .ok (.ifCond .le 33, 3) := by decide +kernel
theorem dX9_run_13 : decode cX9_run 13 = .ok (.aload_n 0, 1) := by decide +kernel
theorem dX9_run_14 : decode cX9_run 14 = .ok (.getfield 76, 3) := by decide +kernel
theorem dX9_run_17 : decode cX9_run 17 = .ok (.iload_n 1, 1) := by decide +kernel
theorem dX9_run_18 : decode cX9_run 18 = .ok (.iconst 1, 1) := by decide +kernel
theorem dX9_run_19 : decode cX9_run 19 = .ok (.isub, 1) := by decide +kernel
theorem dX9_run_20 : decode cX9_run 20 = .ok (.baload, 1) := by decide +kernel
theorem dX9_run_21 : decode cX9_run 21 = .ok (.ifCond .eq 22, 3) := by decide +kernel
theorem dX9_run_24 : decode cX9_run 24 = .ok (.aload_n 0, 1) := by decide +kernel
theorem dX9_run_25 : decode cX9_run 25 = .ok (.getfield 70, 3) := by decide +kernel
theorem dX9_run_28 : decode cX9_run 28 = .ok (.iload_n 1, 1) := by decide +kernel
theorem dX9_run_29 : decode cX9_run 29 = .ok (.iconst 1, 1) := by decide +kernel
theorem dX9_run_30 : decode cX9_run 30 = .ok (.isub, 1) := by decide +kernel
theorem dX9_run_31 : decode cX9_run 31 = .ok (.iaload, 1) := by decide +kernel
theorem dX9_run_32 : decode cX9_run 32 = .ok (.aload_n 0, 1) := by decide +kernel
theorem dX9_run_33 : decode cX9_run 33 = .ok (.getfield 70, 3) := by decide +kernel
theorem dX9_run_36 : decode cX9_run 36 = .ok (.iload_n 1, 1) := by decide +kernel
theorem dX9_run_37 : decode cX9_run 37 = .ok (.iaload, 1) := by decide +kernel
theorem dX9_run_38 : decode cX9_run 38 = .ok (.if_icmp .ne 5, 3) := by decide +kernel
theorem dX9_run_41 : decode cX9_run 41 = .ok (.iconst 0, 1) := by decide +kernel
theorem dX9_run_42 : decode cX9_run 42 = .ok (.ireturn, 1) := by decide +kernel
theorem dX9_run_43 : decode cX9_run 43 = .ok (.iconst 0, 1) := by decide +kernel
theorem dX9_run_44 : decode cX9_run 44 = .ok (.istore_n 2, 1) := by decide +kernel
theorem dX9_run_45 : decode cX9_run 45 = .ok (.iload_n 1, 1) := by decide +kernel
theorem dX9_run_46 : decode cX9_run 46 = .ok (.iload_n 2, 1) := by decide +kernel
theorem dX9_run_47 : decode cX9_run 47 = .ok (.iadd, 1) := by decide +kernel
theorem dX9_run_48 : decode cX9_run 48 = .ok (.aload_n 0, 1) := by decide +kernel
theorem dX9_run_49 : decode cX9_run 49 = .ok (.getfield 150, 3) := by decide +kernel
theorem dX9_run_52 : decode cX9_run 52 = .ok (.if_icmp .ge 37, 3) := by decide +kernel
theorem dX9_run_55 : decode cX9_run 55 = .ok (.aload_n 0, 1) := by decide +kernel
theorem dX9_run_56 : decode cX9_run 56 = .ok (.getfield 76, 3) := by decide +kernel
theorem dX9_run_59 : decode cX9_run 59 = .ok (.iload_n 1, 1) := by decide +kernel
theorem dX9_run_60 : decode cX9_run 60 = .ok (.iload_n 2, 1) := by decide +kernel
theorem dX9_run_61 : decode cX9_run 61 = .ok (.iadd, 1) := by decide +kernel
theorem dX9_run_62 : decode cX9_run 62 = .ok (.baload, 1) := by decide +kernel
theorem dX9_run_63 : decode cX9_run 63 = .ok (.ifCond .eq 26, 3) := by decide +kernel
theorem dX9_run_66 : decode cX9_run 66 = .ok (.aload_n 0, 1) := by decide +kernel
theorem dX9_run_67 : decode cX9_run 67 = .ok (.getfield 70, 3) := by decide +kernel
theorem dX9_run_70 : decode cX9_run 70 = .ok (.iload_n 1, 1) := by decide +kernel
theorem dX9_run_71 : decode cX9_run 71 = .ok (.iload_n 2, 1) := by decide +kernel
theorem dX9_run_72 : decode cX9_run 72 = .ok (.iadd, 1) := by decide +kernel
theorem dX9_run_73 : decode cX9_run 73 = .ok (.iaload, 1) := by decide +kernel
theorem dX9_run_74 : decode cX9_run 74 = .ok (.aload_n 0, 1) := by decide +kernel
theorem dX9_run_75 : decode cX9_run 75 = .ok (.getfield 70, 3) := by decide +kernel
theorem dX9_run_78 : decode cX9_run 78 = .ok (.iload_n 1, 1) := by decide +kernel
theorem dX9_run_79 : decode cX9_run 79 = .ok (.iaload, 1) := by decide +kernel
theorem dX9_run_80 : decode cX9_run 80 = .ok (.if_icmp .ne 9, 3) := by decide +kernel
theorem dX9_run_83 : decode cX9_run 83 = .ok (.iinc 2 1, 3) := by decide +kernel
theorem dX9_run_86 : decode cX9_run 86 = .ok (.goto (-41), 3) := by decide +kernel
theorem dX9_run_89 : decode cX9_run 89 = .ok (.iload_n 2, 1) := by decide +kernel
theorem dX9_run_90 : decode cX9_run 90 = .ok (.ireturn, 1) := by decide +kernel
theorem dX9_groupAt_0 : decode cX9_groupAt 0 = .ok (.iconst 0, 1) := by decide +kernel
theorem dX9_groupAt_1 : decode cX9_groupAt 1 = .ok (.istore_n 2, 1) := by decide +kernel
theorem dX9_groupAt_2 : decode cX9_groupAt 2 = .ok (.iconst 0, 1) := by decide +kernel
theorem dX9_groupAt_3 : decode cX9_groupAt 3 = .ok (.istore_n 3, 1) := by decide +kernel
theorem dX9_groupAt_4 : decode cX9_groupAt 4 = .ok (.iload_n 3, 1) := by decide +kernel
theorem dX9_groupAt_5 : decode cX9_groupAt 5 = .ok (.aload_n 0, 1) := by decide +kernel
theorem dX9_groupAt_6 : decode cX9_groupAt 6 = .ok (.getfield 150, 3) := by decide +kernel
theorem dX9_groupAt_9 : decode cX9_groupAt 9 = .ok (.if_icmp .ge 36, 3) := by decide +kernel
theorem dX9_groupAt_12 : decode cX9_groupAt 12 = .ok (.aload_n 0, 1) := by decide +kernel
theorem dX9_groupAt_13 : decode cX9_groupAt 13 = .ok (.iload_n 3, 1) := by decide +kernel
theorem dX9_groupAt_14 : decode cX9_groupAt 14 = .ok (.invokevirtual 180, 3) := by decide +kernel
theorem dX9_groupAt_17 : decode cX9_groupAt 17 = .ok (.aload_n 0, 1) := by decide +kernel
theorem dX9_groupAt_18 : decode cX9_groupAt 18 = .ok (.getfield 13, 3) := by decide +kernel
theorem dX9_groupAt_21 : decode cX9_groupAt 21 = .ok (.iconst 3, 1) := by decide +kernel
theorem dX9_groupAt_22 : decode cX9_groupAt 22 = .ok (.iaload, 1) := by decide +kernel
theorem dX9_groupAt_23 : decode cX9_groupAt 23 = .ok (.if_icmp .ge 6, 3) := by decide +kernel
theorem dX9_groupAt_26 : decode cX9_groupAt 26 = .ok (.goto 13, 3) := by decide +kernel
theorem dX9_groupAt_29 : decode cX9_groupAt 29 = .ok (.iload_n 2, 1) := by decide +kernel
theorem dX9_groupAt_30 : decode cX9_groupAt 30 = .ok (.iload_n 1, 1) := by decide +kernel
theorem dX9_groupAt_31 : decode cX9_groupAt 31 = .ok (.if_icmp .ne 5, 3) := by decide +kernel
theorem dX9_groupAt_34 : decode cX9_groupAt 34 = .ok (.iload_n 3, 1) := by decide +kernel
theorem dX9_groupAt_35 : decode cX9_groupAt 35 = .ok (.ireturn, 1) := by decide +kernel
theorem dX9_groupAt_36 : decode cX9_groupAt 36 = .ok (.iinc 2 1, 3) := by decide +kernel
theorem dX9_groupAt_39 : decode cX9_groupAt 39 = .ok (.iinc 3 1, 3) := by decide +kernel
theorem dX9_groupAt_42 : decode cX9_groupAt 42 = .ok (.goto (-38), 3) := by decide +kernel
theorem dX9_groupAt_45 : decode cX9_groupAt 45 = .ok (.iconst (-1), 1) := by decide +kernel
theorem dX9_groupAt_46 : decode cX9_groupAt 46 = .ok (.ireturn, 1) := by decide +kernel
theorem dX9_groups_0 : decode cX9_groups 0 = .ok (.iconst 0, 1) := by decide +kernel
theorem dX9_groups_1 : decode cX9_groups 1 = .ok (.istore_n 1, 1) := by decide +kernel
theorem dX9_groups_2 : decode cX9_groups 2 = .ok (.iconst 0, 1) := by decide +kernel
theorem dX9_groups_3 : decode cX9_groups 3 = .ok (.istore_n 2, 1) := by decide +kernel
theorem dX9_groups_4 : decode cX9_groups 4 = .ok (.iload_n 2, 1) := by decide +kernel
theorem dX9_groups_5 : decode cX9_groups 5 = .ok (.aload_n 0, 1) := by decide +kernel
theorem dX9_groups_6 : decode cX9_groups 6 = .ok (.getfield 150, 3) := by decide +kernel
theorem dX9_groups_9 : decode cX9_groups 9 = .ok (.if_icmp .ge 31, 3) := by decide +kernel
theorem dX9_groups_12 : decode cX9_groups 12 = .ok (.iload_n 1, 1) := by decide +kernel
theorem dX9_groups_13 : decode cX9_groups 13 = .ok (.aload_n 0, 1) := by decide +kernel
theorem dX9_groups_14 : decode cX9_groups 14 = .ok (.iload_n 2, 1) := by decide +kernel
theorem dX9_groups_15 : decode cX9_groups 15 = .ok (.invokevirtual 180, 3) := by decide +kernel
theorem dX9_groups_18 : decode cX9_groups 18 = .ok (.aload_n 0, 1) := by decide +kernel
theorem dX9_groups_19 : decode cX9_groups 19 = .ok (.getfield 13, 3) := by decide +kernel
theorem dX9_groups_22 : decode cX9_groups 22 = .ok (.iconst 3, 1) := by decide +kernel
theorem dX9_groups_23 : decode cX9_groups 23 = .ok (.iaload, 1) := by decide +kernel
theorem dX9_groups_24 : decode cX9_groups 24 = .ok (.if_icmp .lt 7, 3) := by decide +kernel
theorem dX9_groups_27 : decode cX9_groups 27 = .ok (.iconst 1, 1) := by decide +kernel
theorem dX9_groups_28 : decode cX9_groups 28 = .ok (.goto 4, 3) := by decide +kernel
theorem dX9_groups_31 : decode cX9_groups 31 = .ok (.iconst 0, 1) := by decide +kernel
theorem dX9_groups_32 : decode cX9_groups 32 = .ok (.iadd, 1) := by decide +kernel
theorem dX9_groups_33 : decode cX9_groups 33 = .ok (.istore_n 1, 1) := by decide +kernel
theorem dX9_groups_34 : decode cX9_groups 34 = .ok (.iinc 2 1, 3) := by decide +kernel
theorem dX9_groups_37 : decode cX9_groups 37 = .ok (.goto (-33), 3) := by decide +kernel
theorem dX9_groups_40 : decode cX9_groups 40 = .ok (.iload_n 1, 1) := by decide +kernel
theorem dX9_groups_41 : decode cX9_groups 41 = .ok (.ireturn, 1) := by decide +kernel
theorem dX9_groupOf_0 : decode cX9_groupOf 0 = .ok (.iconst (-1), 1) := by decide +kernel
theorem dX9_groupOf_1 : decode cX9_groupOf 1 = .ok (.istore_n 2, 1) := by decide +kernel
theorem dX9_groupOf_2 : decode cX9_groupOf 2 = .ok (.iconst 0, 1) := by decide +kernel
theorem dX9_groupOf_3 : decode cX9_groupOf 3 = .ok (.istore_n 3, 1) := by decide +kernel
theorem dX9_groupOf_4 : decode cX9_groupOf 4 = .ok (.iload_n 3, 1) := by decide +kernel
theorem dX9_groupOf_5 : decode cX9_groupOf 5 = .ok (.iload_n 1, 1) := by decide +kernel
theorem dX9_groupOf_6 : decode cX9_groupOf 6 = .ok (.if_icmp .gt 42, 3) := by decide +kernel
theorem dX9_groupOf_9 : decode cX9_groupOf 9 = .ok (.aload_n 0, 1) := by decide +kernel
theorem dX9_groupOf_10 : decode cX9_groupOf 10 = .ok (.iload_n 3, 1) := by decide +kernel
theorem dX9_groupOf_11 : decode cX9_groupOf 11 = .ok (.invokevirtual 180, 3) := by decide +kernel
theorem dX9_groupOf_14 : decode cX9_groupOf 14 = .ok (.aload_n 0, 1) := by decide +kernel
theorem dX9_groupOf_15 : decode cX9_groupOf 15 = .ok (.getfield 13, 3) := by decide +kernel
theorem dX9_groupOf_18 : decode cX9_groupOf 18 = .ok (.iconst 3, 1) := by decide +kernel
theorem dX9_groupOf_19 : decode cX9_groupOf 19 = .ok (.iaload, 1) := by decide +kernel
theorem dX9_groupOf_20 : decode cX9_groupOf 20 = .ok (.if_icmp .ge 6, 3) := by decide +kernel
theorem dX9_groupOf_23 : decode cX9_groupOf 23 = .ok (.goto 19, 3) := by decide +kernel
theorem dX9_groupOf_26 : decode cX9_groupOf 26 = .ok (.iinc 2 1, 3) := by decide +kernel
theorem dX9_groupOf_29 : decode cX9_groupOf 29 = .ok (.iload_n 1, 1) := by decide +kernel
theorem dX9_groupOf_30 : decode cX9_groupOf 30 = .ok (.iload_n 3, 1) := by decide +kernel
theorem dX9_groupOf_31 : decode cX9_groupOf 31 = .ok (.aload_n 0, 1) := by decide +kernel
theorem dX9_groupOf_32 : decode cX9_groupOf 32 = .ok (.iload_n 3, 1) := by decide +kernel
theorem dX9_groupOf_33 : decode cX9_groupOf 33 = .ok (.invokevirtual 180, 3) := by decide +kernel
theorem dX9_groupOf_36 : decode cX9_groupOf 36 = .ok (.iadd, 1) := by decide +kernel
theorem dX9_groupOf_37 : decode cX9_groupOf 37 = .ok (.if_icmp .ge 5, 3) := by decide +kernel
theorem dX9_groupOf_40 : decode cX9_groupOf 40 = .ok (.iload_n 2, 1) := by decide +kernel
theorem dX9_groupOf_41 : decode cX9_groupOf 41 = .ok (.ireturn, 1) := by decide +kernel
theorem dX9_groupOf_42 : decode cX9_groupOf 42 = .ok (.iinc 3 1, 3) := by decide +kernel
theorem dX9_groupOf_45 : decode cX9_groupOf 45 = .ok (.goto (-41), 3) := by decide +kernel
theorem dX9_groupOf_48 : decode cX9_groupOf 48 = .ok (.iconst (-1), 1) := by decide +kernel
theorem dX9_groupOf_49 : decode cX9_groupOf 49 = .ok (.ireturn, 1) := by decide +kernel
theorem dX9_names_0 : decode cX9_names 0 = .ok (.iconst 0, 1) := by decide +kernel
theorem dX9_names_1 : decode cX9_names 1 = .ok (.istore_n 1, 1) := by decide +kernel
theorem dX9_names_2 : decode cX9_names 2 = .ok (.iconst 0, 1) := by decide +kernel
theorem dX9_names_3 : decode cX9_names 3 = .ok (.istore_n 2, 1) := by decide +kernel
theorem dX9_names_4 : decode cX9_names 4 = .ok (.iload_n 2, 1) := by decide +kernel
theorem dX9_names_5 : decode cX9_names 5 = .ok (.aload_n 0, 1) := by decide +kernel
theorem dX9_names_6 : decode cX9_names 6 = .ok (.getfield 88, 3) := by decide +kernel
theorem dX9_names_9 : decode cX9_names 9 = .ok (.if_icmp .ge 27, 3) := by decide +kernel
theorem dX9_names_12 : decode cX9_names 12 = .ok (.iload_n 1, 1) := by decide +kernel
theorem dX9_names_13 : decode cX9_names 13 = .ok (.aload_n 0, 1) := by decide +kernel
theorem dX9_names_14 : decode cX9_names 14 = .ok (.getfield 22, 3) := by decide +kernel
theorem dX9_names_17 : decode cX9_names 17 = .ok (.iload_n 2, 1) := by decide +kernel
theorem dX9_names_18 : decode cX9_names 18 = .ok (.iaload, 1) := by decide +kernel
theorem dX9_names_19 : decode cX9_names 19 = .ok (.iconst (-1), 1) := by decide +kernel
theorem dX9_names_20 : decode cX9_names 20 = .ok (.if_icmp .ne 7, 3) := by decide +kernel
theorem dX9_names_23 : decode cX9_names 23 = .ok (.iconst 0, 1) := by decide +kernel
theorem dX9_names_24 : decode cX9_names 24 = .ok (.goto 4, 3) := by decide +kernel
theorem dX9_names_27 : decode cX9_names 27 = .ok (.iconst 1, 1) := by decide +kernel
theorem dX9_names_28 : decode cX9_names 28 = .ok (.iadd, 1) := by decide +kernel
theorem dX9_names_29 : decode cX9_names 29 = .ok (.istore_n 1, 1) := by decide +kernel
theorem dX9_names_30 : decode cX9_names 30 = .ok (.iinc 2 1, 3) := by decide +kernel
theorem dX9_names_33 : decode cX9_names 33 = .ok (.goto (-29), 3) := by decide +kernel
theorem dX9_names_36 : decode cX9_names 36 = .ok (.iload_n 1, 1) := by decide +kernel
theorem dX9_names_37 : decode cX9_names 37 = .ok (.ireturn, 1) := by decide +kernel
theorem dX9_gaps_0 : decode cX9_gaps 0 = .ok (.iconst 0, 1) := by decide +kernel
theorem dX9_gaps_1 : decode cX9_gaps 1 = .ok (.istore_n 1, 1) := by decide +kernel
theorem dX9_gaps_2 : decode cX9_gaps 2 = .ok (.iconst 0, 1) := by decide +kernel
theorem dX9_gaps_3 : decode cX9_gaps 3 = .ok (.istore_n 2, 1) := by decide +kernel
theorem dX9_gaps_4 : decode cX9_gaps 4 = .ok (.iload_n 2, 1) := by decide +kernel
theorem dX9_gaps_5 : decode cX9_gaps 5 = .ok (.aload_n 0, 1) := by decide +kernel
theorem dX9_gaps_6 : decode cX9_gaps 6 = .ok (.getfield 88, 3) := by decide +kernel
theorem dX9_gaps_9 : decode cX9_gaps 9 = .ok (.if_icmp .ge 29, 3) := by decide +kernel
theorem dX9_gaps_12 : decode cX9_gaps 12 = .ok (.iload_n 1, 1) := by decide +kernel
theorem dX9_gaps_13 : decode cX9_gaps 13 = .ok (.aload_n 0, 1) := by decide +kernel
theorem dX9_gaps_14 : decode cX9_gaps 14 = .ok (.getfield 7, 3) := by decide +kernel
theorem dX9_gaps_17 : decode cX9_gaps 17 = .ok (.iload_n 2, 1) := by decide +kernel
theorem dX9_gaps_18 : decode cX9_gaps 18 = .ok (.iaload, 1) := by decide +kernel
theorem dX9_gaps_19 : decode cX9_gaps 19 = .ok (.sipush (-32768), 3) := by decide +kernel
theorem dX9_gaps_22 : decode cX9_gaps 22 = .ok (.if_icmp .ne 7, 3) := by decide +kernel
theorem dX9_gaps_25 : decode cX9_gaps 25 = .ok (.iconst 1, 1) := by decide +kernel
theorem dX9_gaps_26 : decode cX9_gaps 26 = .ok (.goto 4, 3) := by decide +kernel
theorem dX9_gaps_29 : decode cX9_gaps 29 = .ok (.iconst 0, 1) := by decide +kernel
theorem dX9_gaps_30 : decode cX9_gaps 30 = .ok (.iadd, 1) := by decide +kernel
theorem dX9_gaps_31 : decode cX9_gaps 31 = .ok (.istore_n 1, 1) := by decide +kernel
theorem dX9_gaps_32 : decode cX9_gaps 32 = .ok (.iinc 2 1, 3) := by decide +kernel
theorem dX9_gaps_35 : decode cX9_gaps 35 = .ok (.goto (-31), 3) := by decide +kernel
theorem dX9_gaps_38 : decode cX9_gaps 38 = .ok (.iload_n 1, 1) := by decide +kernel
theorem dX9_gaps_39 : decode cX9_gaps 39 = .ok (.ireturn, 1) := by decide +kernel
theorem dX9_waved_0 : decode cX9_waved 0 = .ok (.iconst 0, 1) := by decide +kernel
theorem dX9_waved_1 : decode cX9_waved 1 = .ok (.istore_n 1, 1) := by decide +kernel
theorem dX9_waved_2 : decode cX9_waved 2 = .ok (.iconst 0, 1) := by decide +kernel
theorem dX9_waved_3 : decode cX9_waved 3 = .ok (.istore_n 2, 1) := by decide +kernel
theorem dX9_waved_4 : decode cX9_waved 4 = .ok (.iload_n 2, 1) := by decide +kernel
theorem dX9_waved_5 : decode cX9_waved 5 = .ok (.aload_n 0, 1) := by decide +kernel
theorem dX9_waved_6 : decode cX9_waved 6 = .ok (.getfield 150, 3) := by decide +kernel
theorem dX9_waved_9 : decode cX9_waved 9 = .ok (.if_icmp .ge 18, 3) := by decide +kernel
theorem dX9_waved_12 : decode cX9_waved 12 = .ok (.iload_n 1, 1) := by decide +kernel
theorem dX9_waved_13 : decode cX9_waved 13 = .ok (.aload_n 0, 1) := by decide +kernel
theorem dX9_waved_14 : decode cX9_waved 14 = .ok (.getfield 58, 3) := by decide +kernel
theorem dX9_waved_17 : decode cX9_waved 17 = .ok (.iload_n 2, 1) := by decide +kernel
theorem dX9_waved_18 : decode cX9_waved 18 = .ok (.iaload, 1) := by decide +kernel
theorem dX9_waved_19 : decode cX9_waved 19 = .ok (.iadd, 1) := by decide +kernel
theorem dX9_waved_20 : decode cX9_waved 20 = .ok (.istore_n 1, 1) := by decide +kernel
theorem dX9_waved_21 : decode cX9_waved 21 = .ok (.iinc 2 1, 3) := by decide +kernel
theorem dX9_waved_24 : decode cX9_waved 24 = .ok (.goto (-20), 3) := by decide +kernel
theorem dX9_waved_27 : decode cX9_waved 27 = .ok (.iload_n 1, 1) := by decide +kernel
theorem dX9_waved_28 : decode cX9_waved 28 = .ok (.ireturn, 1) := by decide +kernel
theorem dX9_count_0 : decode cX9_count 0 = .ok (.aload_n 0, 1) := by decide +kernel
theorem dX9_count_1 : decode cX9_count 1 = .ok (.invokevirtual 183, 3) := by decide +kernel
theorem dX9_count_4 : decode cX9_count 4 = .ok (.iload_n 1, 1) := by decide +kernel
theorem dX9_count_5 : decode cX9_count 5 = .ok (.tableswitch 172 0 15 #[79, 84, 89, 94, 99, 104, 109, 114, 121, 128, 135, 142, 149, 157, 162, 167], 79) := by decide +kernel
theorem dX9_count_84 : decode cX9_count 84 = .ok (.aload_n 0, 1) := by decide +kernel
theorem dX9_count_85 : decode cX9_count 85 = .ok (.getfield 88, 3) := by decide +kernel
theorem dX9_count_88 : decode cX9_count 88 = .ok (.ireturn, 1) := by decide +kernel
theorem dX9_count_89 : decode cX9_count 89 = .ok (.aload_n 0, 1) := by decide +kernel
theorem dX9_count_90 : decode cX9_count 90 = .ok (.getfield 114, 3) := by decide +kernel
theorem dX9_count_93 : decode cX9_count 93 = .ok (.ireturn, 1) := by decide +kernel
theorem dX9_count_94 : decode cX9_count 94 = .ok (.aload_n 0, 1) := by decide +kernel
theorem dX9_count_95 : decode cX9_count 95 = .ok (.getfield 150, 3) := by decide +kernel
theorem dX9_count_98 : decode cX9_count 98 = .ok (.ireturn, 1) := by decide +kernel
theorem dX9_count_99 : decode cX9_count 99 = .ok (.aload_n 0, 1) := by decide +kernel
theorem dX9_count_100 : decode cX9_count 100 = .ok (.invokevirtual 186, 3) := by decide +kernel
theorem dX9_count_103 : decode cX9_count 103 = .ok (.ireturn, 1) := by decide +kernel
theorem dX9_count_104 : decode cX9_count 104 = .ok (.aload_n 0, 1) := by decide +kernel
theorem dX9_count_105 : decode cX9_count 105 = .ok (.invokevirtual 189, 3) := by decide +kernel
theorem dX9_count_108 : decode cX9_count 108 = .ok (.ireturn, 1) := by decide +kernel
theorem dX9_count_109 : decode cX9_count 109 = .ok (.aload_n 0, 1) := by decide +kernel
theorem dX9_count_110 : decode cX9_count 110 = .ok (.getfield 104, 3) := by decide +kernel
theorem dX9_count_113 : decode cX9_count 113 = .ok (.ireturn, 1) := by decide +kernel
theorem dX9_count_114 : decode cX9_count 114 = .ok (.aload_n 0, 1) := by decide +kernel
theorem dX9_count_115 : decode cX9_count 115 = .ok (.invokevirtual 192, 3) := by decide +kernel
theorem dX9_count_118 : decode cX9_count 118 = .ok (.ireturn, 1) := by decide +kernel
theorem dX9_count_119 : decode cX9_count 119 = .ok (.aload_n 0, 1) := by decide +kernel
theorem dX9_count_120 : decode cX9_count 120 = .ok (.getfield 13, 3) := by decide +kernel
theorem dX9_count_123 : decode cX9_count 123 = .ok (.iconst 0, 1) := by decide +kernel
theorem dX9_count_124 : decode cX9_count 124 = .ok (.iaload, 1) := by decide +kernel
theorem dX9_count_125 : decode cX9_count 125 = .ok (.ireturn, 1) := by decide +kernel
theorem dX9_count_126 : decode cX9_count 126 = .ok (.aload_n 0, 1) := by decide +kernel
theorem dX9_count_127 : decode cX9_count 127 = .ok (.getfield 13, 3) := by decide +kernel
theorem dX9_count_130 : decode cX9_count 130 = .ok (.iconst 1, 1) := by decide +kernel
theorem dX9_count_131 : decode cX9_count 131 = .ok (.iaload, 1) := by decide +kernel
theorem dX9_count_132 : decode cX9_count 132 = .ok (.ireturn, 1) := by decide +kernel
theorem dX9_count_133 : decode cX9_count 133 = .ok (.aload_n 0, 1) := by decide +kernel
theorem dX9_count_134 : decode cX9_count 134 = .ok (.getfield 13, 3) := by decide +kernel
theorem dX9_count_137 : decode cX9_count 137 = .ok (.iconst 2, 1) := by decide +kernel
theorem dX9_count_138 : decode cX9_count 138 = .ok (.iaload, 1) := by decide +kernel
theorem dX9_count_139 : decode cX9_count 139 = .ok (.ireturn, 1) := by decide +kernel
theorem dX9_count_140 : decode cX9_count 140 = .ok (.aload_n 0, 1) := by decide +kernel
theorem dX9_count_141 : decode cX9_count 141 = .ok (.getfield 13, 3) := by decide +kernel
theorem dX9_count_144 : decode cX9_count 144 = .ok (.iconst 3, 1) := by decide +kernel
theorem dX9_count_145 : decode cX9_count 145 = .ok (.iaload, 1) := by decide +kernel
theorem dX9_count_146 : decode cX9_count 146 = .ok (.ireturn, 1) := by decide +kernel
theorem dX9_count_147 : decode cX9_count 147 = .ok (.aload_n 0, 1) := by decide +kernel
theorem dX9_count_148 : decode cX9_count 148 = .ok (.getfield 13, 3) := by decide +kernel
theorem dX9_count_151 : decode cX9_count 151 = .ok (.iconst 4, 1) := by decide +kernel
theorem dX9_count_152 : decode cX9_count 152 = .ok (.iaload, 1) := by decide +kernel
theorem dX9_count_153 : decode cX9_count 153 = .ok (.ireturn, 1) := by decide +kernel
theorem dX9_count_154 : decode cX9_count 154 = .ok (.aload_n 0, 1) := by decide +kernel
theorem dX9_count_155 : decode cX9_count 155 = .ok (.getfield 13, 3) := by decide +kernel
theorem dX9_count_158 : decode cX9_count 158 = .ok (.bipush 6, 2) := by decide +kernel
theorem dX9_count_160 : decode cX9_count 160 = .ok (.iaload, 1) := by decide +kernel
theorem dX9_count_161 : decode cX9_count 161 = .ok (.ireturn, 1) := by decide +kernel
theorem dX9_count_162 : decode cX9_count 162 = .ok (.aload_n 0, 1) := by decide +kernel
theorem dX9_count_163 : decode cX9_count 163 = .ok (.invokevirtual 195, 3) := by decide +kernel
theorem dX9_count_166 : decode cX9_count 166 = .ok (.ireturn, 1) := by decide +kernel
theorem dX9_count_167 : decode cX9_count 167 = .ok (.aload_n 0, 1) := by decide +kernel
theorem dX9_count_168 : decode cX9_count 168 = .ok (.getfield 107, 3) := by decide +kernel
theorem dX9_count_171 : decode cX9_count 171 = .ok (.ireturn, 1) := by decide +kernel
theorem dX9_count_172 : decode cX9_count 172 = .ok (.aload_n 0, 1) := by decide +kernel
theorem dX9_count_173 : decode cX9_count 173 = .ok (.invokevirtual 198, 3) := by decide +kernel
theorem dX9_count_176 : decode cX9_count 176 = .ok (.ireturn, 1) := by decide +kernel
theorem dX9_count_177 : decode cX9_count 177 = .ok (.iconst (-1), 1) := by decide +kernel
theorem dX9_count_178 : decode cX9_count 178 = .ok (.ireturn, 1) := by decide +kernel
theorem dX9_isSample_0 : decode cX9_isSample 0 = .ok (.iload_n 1, 1) := by decide +kernel
theorem dX9_isSample_1 : decode cX9_isSample 1 = .ok (.iconst 0, 1) := by decide +kernel
theorem dX9_isSample_2 : decode cX9_isSample 2 = .ok (.aload_n 0, 1) := by decide +kernel
theorem dX9_isSample_3 : decode cX9_isSample 3 = .ok (.getfield 88, 3) := by decide +kernel
theorem dX9_isSample_6 : decode cX9_isSample 6 = .ok (.iconst 1, 1) := by decide +kernel
theorem dX9_isSample_7 : decode cX9_isSample 7 = .ok (.isub, 1) := by decide +kernel
theorem dX9_isSample_8 : decode cX9_isSample 8 = .ok (.invokestatic 80, 3) := by decide +kernel
theorem dX9_isSample_11 : decode cX9_isSample 11 = .ok (.ireturn, 1) := by decide +kernel
theorem dX9_sample_0 : decode cX9_sample 0 = .ok (.aload_n 0, 1) := by decide +kernel
theorem dX9_sample_1 : decode cX9_sample 1 = .ok (.iload_n 1, 1) := by decide +kernel
theorem dX9_sample_2 : decode cX9_sample 2 = .ok (.invokevirtual 201, 3) := by decide +kernel
theorem dX9_sample_5 : decode cX9_sample 5 = .ok (.ifCond .ne 5, 3) := by decide +kernel
theorem dX9_sample_8 : decode cX9_sample 8 = .ok (.iconst (-1), 1) := by decide +kernel
theorem dX9_sample_9 : decode cX9_sample 9 = .ok (.ireturn, 1) := by decide +kernel
theorem dX9_sample_10 : decode cX9_sample 10 = .ok (.aload_n 0, 1) := by decide +kernel
theorem dX9_sample_11 : decode cX9_sample 11 = .ok (.invokevirtual 183, 3) := by decide +kernel
theorem dX9_sample_14 : decode cX9_sample 14 = .ok (.iload_n 2, 1) := by decide +kernel
theorem dX9_sample_15 : decode cX9_sample 15 = .ok (.tableswitch 79 0 5 #[37, 44, 51, 58, 65, 72], 37) := by decide +kernel
theorem dX9_sample_52 : decode cX9_sample 52 = .ok (.aload_n 0, 1) := by decide +kernel
theorem dX9_sample_53 : decode cX9_sample 53 = .ok (.getfield 7, 3) := by decide +kernel
theorem dX9_sample_56 : decode cX9_sample 56 = .ok (.iload_n 1, 1) := by decide +kernel
theorem dX9_sample_57 : decode cX9_sample 57 = .ok (.iaload, 1) := by decide +kernel
theorem dX9_sample_58 : decode cX9_sample 58 = .ok (.ireturn, 1) := by decide +kernel
theorem dX9_sample_59 : decode cX9_sample 59 = .ok (.aload_n 0, 1) := by decide +kernel
theorem dX9_sample_60 : decode cX9_sample 60 = .ok (.getfield 25, 3) := by decide +kernel
theorem dX9_sample_63 : decode cX9_sample 63 = .ok (.iload_n 1, 1) := by decide +kernel
theorem dX9_sample_64 : decode cX9_sample 64 = .ok (.iaload, 1) := by decide +kernel
theorem dX9_sample_65 : decode cX9_sample 65 = .ok (.ireturn, 1) := by decide +kernel
theorem dX9_sample_66 : decode cX9_sample 66 = .ok (.aload_n 0, 1) := by decide +kernel
theorem dX9_sample_67 : decode cX9_sample 67 = .ok (.getfield 34, 3) := by decide +kernel
theorem dX9_sample_70 : decode cX9_sample 70 = .ok (.iload_n 1, 1) := by decide +kernel
theorem dX9_sample_71 : decode cX9_sample 71 = .ok (.iaload, 1) := by decide +kernel
theorem dX9_sample_72 : decode cX9_sample 72 = .ok (.ireturn, 1) := by decide +kernel
theorem dX9_sample_73 : decode cX9_sample 73 = .ok (.aload_n 0, 1) := by decide +kernel
theorem dX9_sample_74 : decode cX9_sample 74 = .ok (.getfield 28, 3) := by decide +kernel
theorem dX9_sample_77 : decode cX9_sample 77 = .ok (.iload_n 1, 1) := by decide +kernel
theorem dX9_sample_78 : decode cX9_sample 78 = .ok (.iaload, 1) := by decide +kernel
theorem dX9_sample_79 : decode cX9_sample 79 = .ok (.ireturn, 1) := by decide +kernel
theorem dX9_sample_80 : decode cX9_sample 80 = .ok (.aload_n 0, 1) := by decide +kernel
theorem dX9_sample_81 : decode cX9_sample 81 = .ok (.getfield 52, 3) := by decide +kernel
theorem dX9_sample_84 : decode cX9_sample 84 = .ok (.iload_n 1, 1) := by decide +kernel
theorem dX9_sample_85 : decode cX9_sample 85 = .ok (.iaload, 1) := by decide +kernel
theorem dX9_sample_86 : decode cX9_sample 86 = .ok (.ireturn, 1) := by decide +kernel
theorem dX9_sample_87 : decode cX9_sample 87 = .ok (.aload_n 0, 1) := by decide +kernel
theorem dX9_sample_88 : decode cX9_sample 88 = .ok (.getfield 22, 3) := by decide +kernel
theorem dX9_sample_91 : decode cX9_sample 91 = .ok (.iload_n 1, 1) := by decide +kernel
theorem dX9_sample_92 : decode cX9_sample 92 = .ok (.iaload, 1) := by decide +kernel
theorem dX9_sample_93 : decode cX9_sample 93 = .ok (.ireturn, 1) := by decide +kernel
theorem dX9_sample_94 : decode cX9_sample 94 = .ok (.iconst (-1), 1) := by decide +kernel
theorem dX9_sample_95 : decode cX9_sample 95 = .ok (.ireturn, 1) := by decide +kernel
theorem dX9_through_0 : decode cX9_through 0 = .ok (.aload_n 0, 1) := by decide +kernel
theorem dX9_through_1 : decode cX9_through 1 = .ok (.iload_n 1, 1) := by decide +kernel
theorem dX9_through_2 : decode cX9_through 2 = .ok (.invokevirtual 201, 3) := by decide +kernel
theorem dX9_through_5 : decode cX9_through 5 = .ok (.ifCond .eq 15, 3) := by decide +kernel
theorem dX9_through_8 : decode cX9_through 8 = .ok (.iload_n 2, 1) := by decide +kernel
theorem dX9_through_9 : decode cX9_through 9 = .ok (.iconst 0, 1) := by decide +kernel
theorem dX9_through_10 : decode cX9_through 10 = .ok (.aload_n 0, 1) := by decide +kernel
theorem dX9_through_11 : decode cX9_through 11 = .ok (.getfield 104, 3) := by decide +kernel
theorem dX9_through_14 : decode cX9_through 14 = .ok (.invokestatic 80, 3) := by decide +kernel
theorem dX9_through_17 : decode cX9_through 17 = .ok (.ifCond .ne 7, 3) := by decide +kernel
theorem dX9_through_20 : decode cX9_through 20 = .ok (.sipush (-32768), 3) := by decide +kernel
theorem dX9_through_23 : decode cX9_through 23 = .ok (.ireturn, 1) := by decide +kernel
theorem dX9_through_24 : decode cX9_through 24 = .ok (.aload_n 0, 1) := by decide +kernel
theorem dX9_through_25 : decode cX9_through 25 = .ok (.iload_n 2, 1) := by decide +kernel
theorem dX9_through_26 : decode cX9_through 26 = .ok (.invokevirtual 146, 3) := by decide +kernel
theorem dX9_through_29 : decode cX9_through 29 = .ok (.aload_n 0, 1) := by decide +kernel
theorem dX9_through_30 : decode cX9_through 30 = .ok (.getfield 34, 3) := by decide +kernel
theorem dX9_through_33 : decode cX9_through 33 = .ok (.iload_n 1, 1) := by decide +kernel
theorem dX9_through_34 : decode cX9_through 34 = .ok (.iaload, 1) := by decide +kernel
theorem dX9_through_35 : decode cX9_through 35 = .ok (.ireturn, 1) := by decide +kernel
theorem dX9_extreme_0 : decode cX9_extreme 0 = .ok (.aload_n 0, 1) := by decide +kernel
theorem dX9_extreme_1 : decode cX9_extreme 1 = .ok (.getfield 34, 3) := by decide +kernel
theorem dX9_extreme_4 : decode cX9_extreme 4 = .ok (.aload_n 0, 1) := by decide +kernel
theorem dX9_extreme_5 : decode cX9_extreme 5 = .ok (.getfield 31, 3) := by decide +kernel
theorem dX9_extreme_8 : decode cX9_extreme 8 = .ok (.iload_n 1, 1) := by decide +kernel
theorem dX9_extreme_9 : decode cX9_extreme 9 = .ok (.iaload, 1) := by decide +kernel
theorem dX9_extreme_10 : decode cX9_extreme 10 = .ok (.iaload, 1) := by decide +kernel
theorem dX9_extreme_11 : decode cX9_extreme 11 = .ok (.istore_n 3, 1) := by decide +kernel
theorem dX9_extreme_12 : decode cX9_extreme 12 = .ok (.aload_n 0, 1) := by decide +kernel
theorem dX9_extreme_13 : decode cX9_extreme 13 = .ok (.getfield 31, 3) := by decide +kernel
theorem dX9_extreme_16 : decode cX9_extreme 16 = .ok (.iload_n 1, 1) := by decide +kernel
theorem dX9_extreme_17 : decode cX9_extreme 17 = .ok (.iaload, 1) := by decide +kernel
theorem dX9_extreme_18 : decode cX9_extreme 18 = .ok (.istore 4, 2) := by decide +kernel
theorem dX9_extreme_20 : decode cX9_extreme 20 = .ok (.iload 4, 2) := by decide +kernel
theorem dX9_extreme_22 : decode cX9_extreme 22 = .ok (.aload_n 0, 1) := by decide +kernel
theorem dX9_extreme_23 : decode cX9_extreme 23 = .ok (.getfield 88, 3) := by decide +kernel
theorem dX9_extreme_26 : decode cX9_extreme 26 = .ok (.if_icmp .ge 57, 3) := by decide +kernel
theorem dX9_extreme_29 : decode cX9_extreme 29 = .ok (.aload_n 0, 1) := by decide +kernel
theorem dX9_extreme_30 : decode cX9_extreme 30 = .ok (.getfield 28, 3) := by decide +kernel
theorem dX9_extreme_33 : decode cX9_extreme 33 = .ok (.iload 4, 2) := by decide +kernel
theorem dX9_extreme_35 : decode cX9_extreme 35 = .ok (.iaload, 1) := by decide +kernel
theorem dX9_extreme_36 : decode cX9_extreme 36 = .ok (.iload_n 1, 1) := by decide +kernel
theorem dX9_extreme_37 : decode cX9_extreme 37 = .ok (.if_icmp .ne 46, 3) := by decide +kernel
theorem dX9_extreme_40 : decode cX9_extreme 40 = .ok (.iload_n 2, 1) := by decide +kernel
theorem dX9_extreme_41 : decode cX9_extreme 41 = .ok (.ifCond .eq 17, 3) := by decide +kernel
theorem dX9_extreme_44 : decode cX9_extreme 44 = .ok (.aload_n 0, 1) := by decide +kernel
theorem dX9_extreme_45 : decode cX9_extreme 45 = .ok (.getfield 34, 3) := by decide +kernel
theorem dX9_extreme_48 : decode cX9_extreme 48 = .ok (.iload 4, 2) := by decide +kernel
theorem dX9_extreme_50 : decode cX9_extreme 50 = .ok (.iaload, 1) := by decide +kernel
theorem dX9_extreme_51 : decode cX9_extreme 51 = .ok (.iload_n 3, 1) := by decide +kernel
theorem dX9_extreme_52 : decode cX9_extreme 52 = .ok (.if_icmp .le 25, 3) := by decide +kernel
theorem dX9_extreme_55 : decode cX9_extreme 55 = .ok (.goto 14, 3) := by decide +kernel
theorem dX9_extreme_58 : decode cX9_extreme 58 = .ok (.aload_n 0, 1) := by decide +kernel
theorem dX9_extreme_59 : decode cX9_extreme 59 = .ok (.getfield 34, 3) := by decide +kernel
theorem dX9_extreme_62 : decode cX9_extreme 62 = .ok (.iload 4, 2) := by decide +kernel
theorem dX9_extreme_64 : decode cX9_extreme 64 = .ok (.iaload, 1) := by decide +kernel
theorem dX9_extreme_65 : decode cX9_extreme 65 = .ok (.iload_n 3, 1) := by decide +kernel
theorem dX9_extreme_66 : decode cX9_extreme 66 = .ok (.if_icmp .ge 11, 3) := by decide +kernel
theorem dX9_extreme_69 : decode cX9_extreme 69 = .ok (.aload_n 0, 1) := by decide +kernel
theorem dX9_extreme_70 : decode cX9_extreme 70 = .ok (.getfield 34, 3) := by decide +kernel
theorem dX9_extreme_73 : decode cX9_extreme 73 = .ok (.iload 4, 2) := by decide +kernel
theorem dX9_extreme_75 : decode cX9_extreme 75 = .ok (.iaload, 1) := by decide +kernel
theorem dX9_extreme_76 : decode cX9_extreme 76 = .ok (.istore_n 3, 1) := by decide +kernel
theorem dX9_extreme_77 : decode cX9_extreme 77 = .ok (.iinc 4 1, 3) := by decide +kernel
theorem dX9_extreme_80 : decode cX9_extreme 80 = .ok (.goto (-60), 3) := by decide +kernel
theorem dX9_extreme_83 : decode cX9_extreme 83 = .ok (.iload_n 3, 1) := by decide +kernel
theorem dX9_extreme_84 : decode cX9_extreme 84 = .ok (.ireturn, 1) := by decide +kernel
theorem dX9_stretch_0 : decode cX9_stretch 0 = .ok (.aload_n 0, 1) := by decide +kernel
theorem dX9_stretch_1 : decode cX9_stretch 1 = .ok (.invokevirtual 183, 3) := by decide +kernel
theorem dX9_stretch_4 : decode cX9_stretch 4 = .ok (.iload_n 1, 1) := by decide +kernel
theorem dX9_stretch_5 : decode cX9_stretch 5 = .ok (.iconst 0, 1) := by decide +kernel
theorem dX9_stretch_6 : decode cX9_stretch 6 = .ok (.aload_n 0, 1) := by decide +kernel
theorem dX9_stretch_7 : decode cX9_stretch 7 = .ok (.getfield 114, 3) := by decide +kernel
theorem dX9_stretch_10 : decode cX9_stretch 10 = .ok (.iconst 1, 1) := by decide +kernel
theorem dX9_stretch_11 : decode cX9_stretch 11 = .ok (.isub, 1) := by decide +kernel
theorem dX9_stretch_12 : decode cX9_stretch 12 = .ok (.invokestatic 80, 3) := by decide +kernel
theorem dX9_stretch_15 : decode cX9_stretch 15 = .ok (.ifCond .ne 5, 3) := by decide +kernel
theorem dX9_stretch_18 : decode cX9_stretch 18 = .ok (.iconst (-1), 1) := by decide +kernel
theorem dX9_stretch_19 : decode cX9_stretch 19 = .ok (.ireturn, 1) := by decide +kernel
theorem dX9_stretch_20 : decode cX9_stretch 20 = .ok (.aload_n 0, 1) := by decide +kernel
theorem dX9_stretch_21 : decode cX9_stretch 21 = .ok (.getfield 31, 3) := by decide +kernel
theorem dX9_stretch_24 : decode cX9_stretch 24 = .ok (.iload_n 1, 1) := by decide +kernel
theorem dX9_stretch_25 : decode cX9_stretch 25 = .ok (.iaload, 1) := by decide +kernel
theorem dX9_stretch_26 : decode cX9_stretch 26 = .ok (.istore_n 3, 1) := by decide +kernel
theorem dX9_stretch_27 : decode cX9_stretch 27 = .ok (.aload_n 0, 1) := by decide +kernel
theorem dX9_stretch_28 : decode cX9_stretch 28 = .ok (.iload_n 1, 1) := by decide +kernel
theorem dX9_stretch_29 : decode cX9_stretch 29 = .ok (.invokevirtual 132, 3) := by decide +kernel
theorem dX9_stretch_32 : decode cX9_stretch 32 = .ok (.istore 4, 2) := by decide +kernel
theorem dX9_stretch_34 : decode cX9_stretch 34 = .ok (.iload_n 2, 1) := by decide +kernel
theorem dX9_stretch_35 : decode cX9_stretch 35 = .ok (.tableswitch 144 0 7 #[45, 47, 52, 59, 82, 107, 130, 137], 45) := by decide +kernel
theorem dX9_stretch_80 : decode cX9_stretch 80 = .ok (.iload_n 3, 1) := by decide +kernel
theorem dX9_stretch_81 : decode cX9_stretch 81 = .ok (.ireturn, 1) := by decide +kernel
theorem dX9_stretch_82 : decode cX9_stretch 82 = .ok (.iload 4, 2) := by decide +kernel
theorem dX9_stretch_84 : decode cX9_stretch 84 = .ok (.iload_n 3, 1) := by decide +kernel
theorem dX9_stretch_85 : decode cX9_stretch 85 = .ok (.isub, 1) := by decide +kernel
theorem dX9_stretch_86 : decode cX9_stretch 86 = .ok (.ireturn, 1) := by decide +kernel
theorem dX9_stretch_87 : decode cX9_stretch 87 = .ok (.aload_n 0, 1) := by decide +kernel
theorem dX9_stretch_88 : decode cX9_stretch 88 = .ok (.getfield 40, 3) := by decide +kernel
theorem dX9_stretch_91 : decode cX9_stretch 91 = .ok (.iload_n 1, 1) := by decide +kernel
theorem dX9_stretch_92 : decode cX9_stretch 92 = .ok (.iaload, 1) := by decide +kernel
theorem dX9_stretch_93 : decode cX9_stretch 93 = .ok (.ireturn, 1) := by decide +kernel
theorem dX9_stretch_94 : decode cX9_stretch 94 = .ok (.aload_n 0, 1) := by decide +kernel
theorem dX9_stretch_95 : decode cX9_stretch 95 = .ok (.getfield 43, 3) := by decide +kernel
theorem dX9_stretch_98 : decode cX9_stretch 98 = .ok (.iload_n 1, 1) := by decide +kernel
theorem dX9_stretch_99 : decode cX9_stretch 99 = .ok (.iaload, 1) := by decide +kernel
theorem dX9_stretch_100 : decode cX9_stretch 100 = .ok (.iconst 1, 1) := by decide +kernel
theorem dX9_stretch_101 : decode cX9_stretch 101 = .ok (.if_icmp .le 14, 3) := by decide +kernel
theorem dX9_stretch_104 : decode cX9_stretch 104 = .ok (.aload_n 0, 1) := by decide +kernel
theorem dX9_stretch_105 : decode cX9_stretch 105 = .ok (.getfield 43, 3) := by decide +kernel
theorem dX9_stretch_108 : decode cX9_stretch 108 = .ok (.iload_n 1, 1) := by decide +kernel
theorem dX9_stretch_109 : decode cX9_stretch 109 = .ok (.iaload, 1) := by decide +kernel
theorem dX9_stretch_110 : decode cX9_stretch 110 = .ok (.iconst 1, 1) := by decide +kernel
theorem dX9_stretch_111 : decode cX9_stretch 111 = .ok (.isub, 1) := by decide +kernel
theorem dX9_stretch_112 : decode cX9_stretch 112 = .ok (.goto 4, 3) := by decide +kernel
theorem dX9_stretch_115 : decode cX9_stretch 115 = .ok (.iconst 0, 1) := by decide +kernel
theorem dX9_stretch_116 : decode cX9_stretch 116 = .ok (.ireturn, 1) := by decide +kernel
theorem dX9_stretch_117 : decode cX9_stretch 117 = .ok (.aload_n 0, 1) := by decide +kernel
theorem dX9_stretch_118 : decode cX9_stretch 118 = .ok (.getfield 43, 3) := by decide +kernel
theorem dX9_stretch_121 : decode cX9_stretch 121 = .ok (.iload_n 1, 1) := by decide +kernel
theorem dX9_stretch_122 : decode cX9_stretch 122 = .ok (.iaload, 1) := by decide +kernel
theorem dX9_stretch_123 : decode cX9_stretch 123 = .ok (.ifCond .ne 10, 3) := by decide +kernel
theorem dX9_stretch_126 : decode cX9_stretch 126 = .ok (.iload 4, 2) := by decide +kernel
theorem dX9_stretch_128 : decode cX9_stretch 128 = .ok (.iload_n 3, 1) := by decide +kernel
theorem dX9_stretch_129 : decode cX9_stretch 129 = .ok (.isub, 1) := by decide +kernel
theorem dX9_stretch_130 : decode cX9_stretch 130 = .ok (.goto 11, 3) := by decide +kernel
theorem dX9_stretch_133 : decode cX9_stretch 133 = .ok (.aload_n 0, 1) := by decide +kernel
theorem dX9_stretch_134 : decode cX9_stretch 134 = .ok (.getfield 46, 3) := by decide +kernel
theorem dX9_stretch_137 : decode cX9_stretch 137 = .ok (.iload_n 1, 1) := by decide +kernel
theorem dX9_stretch_138 : decode cX9_stretch 138 = .ok (.iaload, 1) := by decide +kernel
theorem dX9_stretch_139 : decode cX9_stretch 139 = .ok (.iload_n 3, 1) := by decide +kernel
theorem dX9_stretch_140 : decode cX9_stretch 140 = .ok (.isub, 1) := by decide +kernel
theorem dX9_stretch_141 : decode cX9_stretch 141 = .ok (.ireturn, 1) := by decide +kernel
theorem dX9_stretch_142 : decode cX9_stretch 142 = .ok (.aload_n 0, 1) := by decide +kernel
theorem dX9_stretch_143 : decode cX9_stretch 143 = .ok (.getfield 43, 3) := by decide +kernel
theorem dX9_stretch_146 : decode cX9_stretch 146 = .ok (.iload_n 1, 1) := by decide +kernel
theorem dX9_stretch_147 : decode cX9_stretch 147 = .ok (.iaload, 1) := by decide +kernel
theorem dX9_stretch_148 : decode cX9_stretch 148 = .ok (.ifCond .ne 7, 3) := by decide +kernel
theorem dX9_stretch_151 : decode cX9_stretch 151 = .ok (.iconst 0, 1) := by decide +kernel
theorem dX9_stretch_152 : decode cX9_stretch 152 = .ok (.goto 12, 3) := by decide +kernel
theorem dX9_stretch_155 : decode cX9_stretch 155 = .ok (.iload 4, 2) := by decide +kernel
theorem dX9_stretch_157 : decode cX9_stretch 157 = .ok (.aload_n 0, 1) := by decide +kernel
theorem dX9_stretch_158 : decode cX9_stretch 158 = .ok (.getfield 49, 3) := by decide +kernel
theorem dX9_stretch_161 : decode cX9_stretch 161 = .ok (.iload_n 1, 1) := by decide +kernel
theorem dX9_stretch_162 : decode cX9_stretch 162 = .ok (.iaload, 1) := by decide +kernel
theorem dX9_stretch_163 : decode cX9_stretch 163 = .ok (.isub, 1) := by decide +kernel
theorem dX9_stretch_164 : decode cX9_stretch 164 = .ok (.ireturn, 1) := by decide +kernel
theorem dX9_stretch_165 : decode cX9_stretch 165 = .ok (.aload_n 0, 1) := by decide +kernel
theorem dX9_stretch_166 : decode cX9_stretch 166 = .ok (.iload_n 1, 1) := by decide +kernel
theorem dX9_stretch_167 : decode cX9_stretch 167 = .ok (.iconst 1, 1) := by decide +kernel
theorem dX9_stretch_168 : decode cX9_stretch 168 = .ok (.invokevirtual 204, 3) := by decide +kernel
theorem dX9_stretch_171 : decode cX9_stretch 171 = .ok (.ireturn, 1) := by decide +kernel
theorem dX9_stretch_172 : decode cX9_stretch 172 = .ok (.aload_n 0, 1) := by decide +kernel
theorem dX9_stretch_173 : decode cX9_stretch 173 = .ok (.iload_n 1, 1) := by decide +kernel
theorem dX9_stretch_174 : decode cX9_stretch 174 = .ok (.iconst 0, 1) := by decide +kernel
theorem dX9_stretch_175 : decode cX9_stretch 175 = .ok (.invokevirtual 204, 3) := by decide +kernel
theorem dX9_stretch_178 : decode cX9_stretch 178 = .ok (.ireturn, 1) := by decide +kernel
theorem dX9_stretch_179 : decode cX9_stretch 179 = .ok (.iconst (-1), 1) := by decide +kernel
theorem dX9_stretch_180 : decode cX9_stretch 180 = .ok (.ireturn, 1) := by decide +kernel
theorem dX9_isWave_0 : decode cX9_isWave 0 = .ok (.iload_n 1, 1) := by decide +kernel
theorem dX9_isWave_1 : decode cX9_isWave 1 = .ok (.iconst 0, 1) := by decide +kernel
theorem dX9_isWave_2 : decode cX9_isWave 2 = .ok (.aload_n 0, 1) := by decide +kernel
theorem dX9_isWave_3 : decode cX9_isWave 3 = .ok (.getfield 150, 3) := by decide +kernel
theorem dX9_isWave_6 : decode cX9_isWave 6 = .ok (.iconst 1, 1) := by decide +kernel
theorem dX9_isWave_7 : decode cX9_isWave 7 = .ok (.isub, 1) := by decide +kernel
theorem dX9_isWave_8 : decode cX9_isWave 8 = .ok (.invokestatic 80, 3) := by decide +kernel
theorem dX9_isWave_11 : decode cX9_isWave 11 = .ok (.ireturn, 1) := by decide +kernel
theorem dX9_borne_0 : decode cX9_borne 0 = .ok (.iconst (-1), 1) := by decide +kernel
theorem dX9_borne_1 : decode cX9_borne 1 = .ok (.istore_n 2, 1) := by decide +kernel
theorem dX9_borne_2 : decode cX9_borne 2 = .ok (.aload_n 0, 1) := by decide +kernel
theorem dX9_borne_3 : decode cX9_borne 3 = .ok (.getfield 55, 3) := by decide +kernel
theorem dX9_borne_6 : decode cX9_borne 6 = .ok (.iload_n 1, 1) := by decide +kernel
theorem dX9_borne_7 : decode cX9_borne 7 = .ok (.iaload, 1) := by decide +kernel
theorem dX9_borne_8 : decode cX9_borne 8 = .ok (.istore_n 3, 1) := by decide +kernel
theorem dX9_borne_9 : decode cX9_borne 9 = .ok (.iload_n 3, 1) := by decide +kernel
theorem dX9_borne_10 : decode cX9_borne 10 = .ok (.aload_n 0, 1) := by decide +kernel
theorem dX9_borne_11 : decode cX9_borne 11 = .ok (.getfield 55, 3) := by decide +kernel
theorem dX9_borne_14 : decode cX9_borne 14 = .ok (.iload_n 1, 1) := by decide +kernel
theorem dX9_borne_15 : decode cX9_borne 15 = .ok (.iaload, 1) := by decide +kernel
theorem dX9_borne_16 : decode cX9_borne 16 = .ok (.aload_n 0, 1) := by decide +kernel
theorem dX9_borne_17 : decode cX9_borne 17 = .ok (.getfield 58, 3) := by decide +kernel
theorem dX9_borne_20 : decode cX9_borne 20 = .ok (.iload_n 1, 1) := by decide +kernel
theorem dX9_borne_21 : decode cX9_borne 21 = .ok (.iaload, 1) := by decide +kernel
theorem dX9_borne_22 : decode cX9_borne 22 = .ok (.iadd, 1) := by decide +kernel
theorem dX9_borne_23 : decode cX9_borne 23 = .ok (.if_icmp .ge 41, 3) := by decide +kernel
theorem dX9_borne_26 : decode cX9_borne 26 = .ok (.aload_n 0, 1) := by decide +kernel
theorem dX9_borne_27 : decode cX9_borne 27 = .ok (.getfield 22, 3) := by decide +kernel
theorem dX9_borne_30 : decode cX9_borne 30 = .ok (.iload_n 3, 1) := by decide +kernel
theorem dX9_borne_31 : decode cX9_borne 31 = .ok (.iaload, 1) := by decide +kernel
theorem dX9_borne_32 : decode cX9_borne 32 = .ok (.iconst (-1), 1) := by decide +kernel
theorem dX9_borne_33 : decode cX9_borne 33 = .ok (.if_icmp .eq 25, 3) := by decide +kernel
theorem dX9_borne_36 : decode cX9_borne 36 = .ok (.iload_n 2, 1) := by decide +kernel
theorem dX9_borne_37 : decode cX9_borne 37 = .ok (.iconst (-1), 1) := by decide +kernel
theorem dX9_borne_38 : decode cX9_borne 38 = .ok (.if_icmp .eq 13, 3) := by decide +kernel
theorem dX9_borne_41 : decode cX9_borne 41 = .ok (.aload_n 0, 1) := by decide +kernel
theorem dX9_borne_42 : decode cX9_borne 42 = .ok (.getfield 22, 3) := by decide +kernel
theorem dX9_borne_45 : decode cX9_borne 45 = .ok (.iload_n 3, 1) := by decide +kernel
theorem dX9_borne_46 : decode cX9_borne 46 = .ok (.iaload, 1) := by decide +kernel
theorem dX9_borne_47 : decode cX9_borne 47 = .ok (.iload_n 2, 1) := by decide +kernel
theorem dX9_borne_48 : decode cX9_borne 48 = .ok (.if_icmp .ge 10, 3) := by decide +kernel
theorem dX9_borne_51 : decode cX9_borne 51 = .ok (.aload_n 0, 1) := by decide +kernel
theorem dX9_borne_52 : decode cX9_borne 52 = .ok (.getfield 22, 3) := by decide +kernel
theorem dX9_borne_55 : decode cX9_borne 55 = .ok (.iload_n 3, 1) := by decide +kernel
theorem dX9_borne_56 : decode cX9_borne 56 = .ok (.iaload, 1) := by decide +kernel
theorem dX9_borne_57 : decode cX9_borne 57 = .ok (.istore_n 2, 1) := by decide +kernel
theorem dX9_borne_58 : decode cX9_borne 58 = .ok (.iinc 3 1, 3) := by decide +kernel
theorem dX9_borne_61 : decode cX9_borne 61 = .ok (.goto (-52), 3) := by decide +kernel
theorem dX9_borne_64 : decode cX9_borne 64 = .ok (.iload_n 2, 1) := by decide +kernel
theorem dX9_borne_65 : decode cX9_borne 65 = .ok (.ireturn, 1) := by decide +kernel
theorem dX9_wave__0 : decode cX9_wave_ 0 = .ok (.aload_n 0, 1) := by decide +kernel
theorem dX9_wave__1 : decode cX9_wave_ 1 = .ok (.invokevirtual 183, 3) := by decide +kernel
theorem dX9_wave__4 : decode cX9_wave_ 4 = .ok (.aload_n 0, 1) := by decide +kernel
theorem dX9_wave__5 : decode cX9_wave_ 5 = .ok (.iload_n 1, 1) := by decide +kernel
theorem dX9_wave__6 : decode cX9_wave_ 6 = .ok (.invokevirtual 208, 3) := by decide +kernel
theorem dX9_wave__9 : decode cX9_wave_ 9 = .ok (.ifCond .ne 5, 3) := by decide +kernel
theorem dX9_wave__12 : decode cX9_wave_ 12 = .ok (.iconst (-1), 1) := by decide +kernel
theorem dX9_wave__13 : decode cX9_wave_ 13 = .ok (.ireturn, 1) := by decide +kernel
theorem dX9_wave__14 : decode cX9_wave_ 14 = .ok (.iload_n 2, 1) := by decide +kernel
theorem dX9_wave__15 : decode cX9_wave_ 15 = .ok (.tableswitch 181 0 11 #[61, 68, 75, 81, 100, 119, 126, 133, 140, 154, 169, 175], 61) := by decide +kernel
theorem dX9_wave__76 : decode cX9_wave_ 76 = .ok (.aload_n 0, 1) := by decide +kernel
theorem dX9_wave__77 : decode cX9_wave_ 77 = .ok (.getfield 55, 3) := by decide +kernel
theorem dX9_wave__80 : decode cX9_wave_ 80 = .ok (.iload_n 1, 1) := by decide +kernel
theorem dX9_wave__81 : decode cX9_wave_ 81 = .ok (.iaload, 1) := by decide +kernel
theorem dX9_wave__82 : decode cX9_wave_ 82 = .ok (.ireturn, 1) := by decide +kernel
theorem dX9_wave__83 : decode cX9_wave_ 83 = .ok (.aload_n 0, 1) := by decide +kernel
theorem dX9_wave__84 : decode cX9_wave_ 84 = .ok (.getfield 58, 3) := by decide +kernel
theorem dX9_wave__87 : decode cX9_wave_ 87 = .ok (.iload_n 1, 1) := by decide +kernel
theorem dX9_wave__88 : decode cX9_wave_ 88 = .ok (.iaload, 1) := by decide +kernel
theorem dX9_wave__89 : decode cX9_wave_ 89 = .ok (.ireturn, 1) := by decide +kernel
theorem dX9_wave__90 : decode cX9_wave_ 90 = .ok (.aload_n 0, 1) := by decide +kernel
theorem dX9_wave__91 : decode cX9_wave_ 91 = .ok (.iload_n 1, 1) := by decide +kernel
theorem dX9_wave__92 : decode cX9_wave_ 92 = .ok (.invokevirtual 160, 3) := by decide +kernel
theorem dX9_wave__95 : decode cX9_wave_ 95 = .ok (.ireturn, 1) := by decide +kernel
theorem dX9_wave__96 : decode cX9_wave_ 96 = .ok (.aload_n 0, 1) := by decide +kernel
theorem dX9_wave__97 : decode cX9_wave_ 97 = .ok (.getfield 61, 3) := by decide +kernel
theorem dX9_wave__100 : decode cX9_wave_ 100 = .ok (.iload_n 1, 1) := by decide +kernel
theorem dX9_wave__101 : decode cX9_wave_ 101 = .ok (.iaload, 1) := by decide +kernel
theorem dX9_wave__102 : decode cX9_wave_ 102 = .ok (.aload_n 0, 1) := by decide +kernel
theorem dX9_wave__103 : decode cX9_wave_ 103 = .ok (.getfield 40, 3) := by decide +kernel
theorem dX9_wave__106 : decode cX9_wave_ 106 = .ok (.aload_n 0, 1) := by decide +kernel
theorem dX9_wave__107 : decode cX9_wave_ 107 = .ok (.getfield 70, 3) := by decide +kernel
theorem dX9_wave__110 : decode cX9_wave_ 110 = .ok (.iload_n 1, 1) := by decide +kernel
theorem dX9_wave__111 : decode cX9_wave_ 111 = .ok (.iaload, 1) := by decide +kernel
theorem dX9_wave__112 : decode cX9_wave_ 112 = .ok (.iaload, 1) := by decide +kernel
theorem dX9_wave__113 : decode cX9_wave_ 113 = .ok (.isub, 1) := by decide +kernel
theorem dX9_wave__114 : decode cX9_wave_ 114 = .ok (.ireturn, 1) := by decide +kernel
theorem dX9_wave__115 : decode cX9_wave_ 115 = .ok (.aload_n 0, 1) := by decide +kernel
theorem dX9_wave__116 : decode cX9_wave_ 116 = .ok (.getfield 40, 3) := by decide +kernel
theorem dX9_wave__119 : decode cX9_wave_ 119 = .ok (.aload_n 0, 1) := by decide +kernel
theorem dX9_wave__120 : decode cX9_wave_ 120 = .ok (.getfield 70, 3) := by decide +kernel
theorem dX9_wave__123 : decode cX9_wave_ 123 = .ok (.iload_n 1, 1) := by decide +kernel
theorem dX9_wave__124 : decode cX9_wave_ 124 = .ok (.iaload, 1) := by decide +kernel
theorem dX9_wave__125 : decode cX9_wave_ 125 = .ok (.iaload, 1) := by decide +kernel
theorem dX9_wave__126 : decode cX9_wave_ 126 = .ok (.aload_n 0, 1) := by decide +kernel
theorem dX9_wave__127 : decode cX9_wave_ 127 = .ok (.getfield 64, 3) := by decide +kernel
theorem dX9_wave__130 : decode cX9_wave_ 130 = .ok (.iload_n 1, 1) := by decide +kernel
theorem dX9_wave__131 : decode cX9_wave_ 131 = .ok (.iaload, 1) := by decide +kernel
theorem dX9_wave__132 : decode cX9_wave_ 132 = .ok (.isub, 1) := by decide +kernel
theorem dX9_wave__133 : decode cX9_wave_ 133 = .ok (.ireturn, 1) := by decide +kernel
theorem dX9_wave__134 : decode cX9_wave_ 134 = .ok (.aload_n 0, 1) := by decide +kernel
theorem dX9_wave__135 : decode cX9_wave_ 135 = .ok (.getfield 67, 3) := by decide +kernel
theorem dX9_wave__138 : decode cX9_wave_ 138 = .ok (.iload_n 1, 1) := by decide +kernel
theorem dX9_wave__139 : decode cX9_wave_ 139 = .ok (.iaload, 1) := by decide +kernel
theorem dX9_wave__140 : decode cX9_wave_ 140 = .ok (.ireturn, 1) := by decide +kernel
theorem dX9_wave__141 : decode cX9_wave_ 141 = .ok (.aload_n 0, 1) := by decide +kernel
theorem dX9_wave__142 : decode cX9_wave_ 142 = .ok (.getfield 70, 3) := by decide +kernel
theorem dX9_wave__145 : decode cX9_wave_ 145 = .ok (.iload_n 1, 1) := by decide +kernel
theorem dX9_wave__146 : decode cX9_wave_ 146 = .ok (.iaload, 1) := by decide +kernel
theorem dX9_wave__147 : decode cX9_wave_ 147 = .ok (.ireturn, 1) := by decide +kernel
theorem dX9_wave__148 : decode cX9_wave_ 148 = .ok (.aload_n 0, 1) := by decide +kernel
theorem dX9_wave__149 : decode cX9_wave_ 149 = .ok (.getfield 73, 3) := by decide +kernel
theorem dX9_wave__152 : decode cX9_wave_ 152 = .ok (.iload_n 1, 1) := by decide +kernel
theorem dX9_wave__153 : decode cX9_wave_ 153 = .ok (.iaload, 1) := by decide +kernel
theorem dX9_wave__154 : decode cX9_wave_ 154 = .ok (.ireturn, 1) := by decide +kernel
theorem dX9_wave__155 : decode cX9_wave_ 155 = .ok (.aload_n 0, 1) := by decide +kernel
theorem dX9_wave__156 : decode cX9_wave_ 156 = .ok (.iload_n 1, 1) := by decide +kernel
theorem dX9_wave__157 : decode cX9_wave_ 157 = .ok (.invokevirtual 177, 3) := by decide +kernel
theorem dX9_wave__160 : decode cX9_wave_ 160 = .ok (.ifCond .eq 7, 3) := by decide +kernel
theorem dX9_wave__163 : decode cX9_wave_ 163 = .ok (.iconst 1, 1) := by decide +kernel
theorem dX9_wave__164 : decode cX9_wave_ 164 = .ok (.goto 4, 3) := by decide +kernel
theorem dX9_wave__167 : decode cX9_wave_ 167 = .ok (.iconst 0, 1) := by decide +kernel
theorem dX9_wave__168 : decode cX9_wave_ 168 = .ok (.ireturn, 1) := by decide +kernel
theorem dX9_wave__169 : decode cX9_wave_ 169 = .ok (.aload_n 0, 1) := by decide +kernel
theorem dX9_wave__170 : decode cX9_wave_ 170 = .ok (.getfield 76, 3) := by decide +kernel
theorem dX9_wave__173 : decode cX9_wave_ 173 = .ok (.iload_n 1, 1) := by decide +kernel
theorem dX9_wave__174 : decode cX9_wave_ 174 = .ok (.baload, 1) := by decide +kernel
theorem dX9_wave__175 : decode cX9_wave_ 175 = .ok (.ifCond .eq 7, 3) := by decide +kernel
theorem dX9_wave__178 : decode cX9_wave_ 178 = .ok (.iconst 1, 1) := by decide +kernel
theorem dX9_wave__179 : decode cX9_wave_ 179 = .ok (.goto 4, 3) := by decide +kernel
theorem dX9_wave__182 : decode cX9_wave_ 182 = .ok (.iconst 0, 1) := by decide +kernel
theorem dX9_wave__183 : decode cX9_wave_ 183 = .ok (.ireturn, 1) := by decide +kernel
theorem dX9_wave__184 : decode cX9_wave_ 184 = .ok (.aload_n 0, 1) := by decide +kernel
theorem dX9_wave__185 : decode cX9_wave_ 185 = .ok (.iload_n 1, 1) := by decide +kernel
theorem dX9_wave__186 : decode cX9_wave_ 186 = .ok (.invokevirtual 211, 3) := by decide +kernel
theorem dX9_wave__189 : decode cX9_wave_ 189 = .ok (.ireturn, 1) := by decide +kernel
theorem dX9_wave__190 : decode cX9_wave_ 190 = .ok (.aload_n 0, 1) := by decide +kernel
theorem dX9_wave__191 : decode cX9_wave_ 191 = .ok (.iload_n 1, 1) := by decide +kernel
theorem dX9_wave__192 : decode cX9_wave_ 192 = .ok (.invokevirtual 214, 3) := by decide +kernel
theorem dX9_wave__195 : decode cX9_wave_ 195 = .ok (.ireturn, 1) := by decide +kernel
theorem dX9_wave__196 : decode cX9_wave_ 196 = .ok (.iconst (-1), 1) := by decide +kernel
theorem dX9_wave__197 : decode cX9_wave_ 197 = .ok (.ireturn, 1) := by decide +kernel
theorem dX9_ranked_0 : decode cX9_ranked 0 = .ok (.aload_n 0, 1) := by decide +kernel
theorem dX9_ranked_1 : decode cX9_ranked 1 = .ok (.invokevirtual 183, 3) := by decide +kernel
theorem dX9_ranked_4 : decode cX9_ranked 4 = .ok (.iconst 0, 1) := by decide +kernel
theorem dX9_ranked_5 : decode cX9_ranked 5 = .ok (.istore_n 2, 1) := by decide +kernel
theorem dX9_ranked_6 : decode cX9_ranked 6 = .ok (.iload_n 2, 1) := by decide +kernel
theorem dX9_ranked_7 : decode cX9_ranked 7 = .ok (.aload_n 0, 1) := by decide +kernel
theorem dX9_ranked_8 : decode cX9_ranked 8 = .ok (.getfield 150, 3) := by decide +kernel
theorem dX9_ranked_11 : decode cX9_ranked 11 = .ok (.if_icmp .ge 21, 3) := by decide +kernel
theorem dX9_ranked_14 : decode cX9_ranked 14 = .ok (.aload_n 0, 1) := by decide +kernel
theorem dX9_ranked_15 : decode cX9_ranked 15 = .ok (.getfield 73, 3) := by decide +kernel
theorem dX9_ranked_18 : decode cX9_ranked 18 = .ok (.iload_n 2, 1) := by decide +kernel
theorem dX9_ranked_19 : decode cX9_ranked 19 = .ok (.iaload, 1) := by decide +kernel
theorem dX9_ranked_20 : decode cX9_ranked 20 = .ok (.iload_n 1, 1) := by decide +kernel
theorem dX9_ranked_21 : decode cX9_ranked 21 = .ok (.if_icmp .ne 5, 3) := by decide +kernel
theorem dX9_ranked_24 : decode cX9_ranked 24 = .ok (.iload_n 2, 1) := by decide +kernel
theorem dX9_ranked_25 : decode cX9_ranked 25 = .ok (.ireturn, 1) := by decide +kernel
theorem dX9_ranked_26 : decode cX9_ranked 26 = .ok (.iinc 2 1, 3) := by decide +kernel
theorem dX9_ranked_29 : decode cX9_ranked 29 = .ok (.goto (-23), 3) := by decide +kernel
theorem dX9_ranked_32 : decode cX9_ranked 32 = .ok (.iconst (-1), 1) := by decide +kernel
theorem dX9_ranked_33 : decode cX9_ranked 33 = .ok (.ireturn, 1) := by decide +kernel
theorem dX9_common_0 : decode cX9_common 0 = .ok (.lload_n 0, 1) := by decide +kernel
theorem dX9_common_1 : decode cX9_common 1 = .ok (.lstore 4, 2) := by decide +kernel
theorem dX9_common_3 : decode cX9_common 3 = .ok (.lload_n 2, 1) := by decide +kernel
theorem dX9_common_4 : decode cX9_common 4 = .ok (.lstore 6, 2) := by decide +kernel
theorem dX9_common_6 : decode cX9_common 6 = .ok (.lload 6, 2) := by decide +kernel
theorem dX9_common_8 : decode cX9_common 8 = .ok (.lconst 0, 1) := by decide +kernel
theorem dX9_common_9 : decode cX9_common 9 = .ok (.lcmp, 1) := by decide +kernel
theorem dX9_common_10 : decode cX9_common 10 = .ok (.ifCond .eq 21, 3) := by decide +kernel
theorem dX9_common_13 : decode cX9_common 13 = .ok (.lload 4, 2) := by decide +kernel
theorem dX9_common_15 : decode cX9_common 15 = .ok (.lload 6, 2) := by decide +kernel
theorem dX9_common_17 : decode cX9_common 17 = .ok (.lrem, 1) := by decide +kernel
theorem dX9_common_18 : decode cX9_common 18 = .ok (.lstore 8, 2) := by decide +kernel
theorem dX9_common_20 : decode cX9_common 20 = .ok (.lload 6, 2) := by decide +kernel
theorem dX9_common_22 : decode cX9_common 22 = .ok (.lstore 4, 2) := by decide +kernel
theorem dX9_common_24 : decode cX9_common 24 = .ok (.lload 8, 2) := by decide +kernel
theorem dX9_common_26 : decode cX9_common 26 = .ok (.lstore 6, 2) := by decide +kernel
theorem dX9_common_28 : decode cX9_common 28 = .ok (.goto (-22), 3) := by decide +kernel
theorem dX9_common_31 : decode cX9_common 31 = .ok (.lload 4, 2) := by decide +kernel
theorem dX9_common_33 : decode cX9_common 33 = .ok (.lreturn, 1) := by decide +kernel
theorem dX9_highest_0 : decode cX9_highest 0 = .ok (.iload_n 1, 1) := by decide +kernel
theorem dX9_highest_1 : decode cX9_highest 1 = .ok (.iconst 1, 1) := by decide +kernel
theorem dX9_highest_2 : decode cX9_highest 2 = .ok (.bipush 10, 2) := by decide +kernel
theorem dX9_highest_4 : decode cX9_highest 4 = .ok (.invokestatic 80, 3) := by decide +kernel
theorem dX9_highest_7 : decode cX9_highest 7 = .ok (.ifCond .eq 12, 3) := by decide +kernel
theorem dX9_highest_10 : decode cX9_highest 10 = .ok (.iload_n 2, 1) := by decide +kernel
theorem dX9_highest_11 : decode cX9_highest 11 = .ok (.iconst 0, 1) := by decide +kernel
theorem dX9_highest_12 : decode cX9_highest 12 = .ok (.iconst 4, 1) := by decide +kernel
theorem dX9_highest_13 : decode cX9_highest 13 = .ok (.invokestatic 80, 3) := by decide +kernel
theorem dX9_highest_16 : decode cX9_highest 16 = .ok (.ifCond .ne 5, 3) := by decide +kernel
theorem dX9_highest_19 : decode cX9_highest 19 = .ok (.iconst (-1), 1) := by decide +kernel
theorem dX9_highest_20 : decode cX9_highest 20 = .ok (.ireturn, 1) := by decide +kernel
theorem dX9_highest_21 : decode cX9_highest 21 = .ok (.aload_n 0, 1) := by decide +kernel
theorem dX9_highest_22 : decode cX9_highest 22 = .ok (.invokevirtual 183, 3) := by decide +kernel
theorem dX9_highest_25 : decode cX9_highest 25 = .ok (.aload_n 0, 1) := by decide +kernel
theorem dX9_highest_26 : decode cX9_highest 26 = .ok (.iload_n 1, 1) := by decide +kernel
theorem dX9_highest_27 : decode cX9_highest 27 = .ok (.invokevirtual 166, 3) := by decide +kernel
theorem dX9_highest_30 : decode cX9_highest 30 = .ok (.istore_n 3, 1) := by decide +kernel
theorem dX9_highest_31 : decode cX9_highest 31 = .ok (.iload_n 2, 1) := by decide +kernel
theorem dX9_highest_32 : decode cX9_highest 32 = .ok (.iconst 4, 1) := by decide +kernel
theorem dX9_highest_33 : decode cX9_highest 33 = .ok (.if_icmp .ne 5, 3) := by decide +kernel
theorem dX9_highest_36 : decode cX9_highest 36 = .ok (.iload_n 3, 1) := by decide +kernel
theorem dX9_highest_37 : decode cX9_highest 37 = .ok (.ireturn, 1) := by decide +kernel
theorem dX9_highest_38 : decode cX9_highest 38 = .ok (.iload_n 3, 1) := by decide +kernel
theorem dX9_highest_39 : decode cX9_highest 39 = .ok (.ifCond .ne 7, 3) := by decide +kernel
theorem dX9_highest_42 : decode cX9_highest 42 = .ok (.iload_n 2, 1) := by decide +kernel
theorem dX9_highest_43 : decode cX9_highest 43 = .ok (.iconst 2, 1) := by decide +kernel
theorem dX9_highest_44 : decode cX9_highest 44 = .ok (.irem, 1) := by decide +kernel
theorem dX9_highest_45 : decode cX9_highest 45 = .ok (.ireturn, 1) := by decide +kernel
theorem dX9_highest_46 : decode cX9_highest 46 = .ok (.aload_n 0, 1) := by decide +kernel
theorem dX9_highest_47 : decode cX9_highest 47 = .ok (.iload_n 1, 1) := by decide +kernel
theorem dX9_highest_48 : decode cX9_highest 48 = .ok (.iload_n 2, 1) := by decide +kernel
theorem dX9_highest_49 : decode cX9_highest 49 = .ok (.iconst 2, 1) := by decide +kernel
theorem dX9_highest_50 : decode cX9_highest 50 = .ok (.if_icmp .ge 7, 3) := by decide +kernel
theorem dX9_highest_53 : decode cX9_highest 53 = .ok (.iconst 1, 1) := by decide +kernel
theorem dX9_highest_54 : decode cX9_highest 54 = .ok (.goto 4, 3) := by decide +kernel
theorem dX9_highest_57 : decode cX9_highest 57 = .ok (.iconst 0, 1) := by decide +kernel
theorem dX9_highest_58 : decode cX9_highest 58 = .ok (.invokevirtual 169, 3) := by decide +kernel
theorem dX9_highest_61 : decode cX9_highest 61 = .ok (.lstore 4, 2) := by decide +kernel
theorem dX9_highest_63 : decode cX9_highest 63 = .ok (.iload_n 2, 1) := by decide +kernel
theorem dX9_highest_64 : decode cX9_highest 64 = .ok (.iconst 2, 1) := by decide +kernel
theorem dX9_highest_65 : decode cX9_highest 65 = .ok (.irem, 1) := by decide +kernel
theorem dX9_highest_66 : decode cX9_highest 66 = .ok (.ifCond .ne 8, 3) := by decide +kernel
theorem dX9_highest_69 : decode cX9_highest 69 = .ok (.lload 4, 2) := by decide +kernel
theorem dX9_highest_71 : decode cX9_highest 71 = .ok (.goto 5, 3) := by decide +kernel
theorem dX9_highest_74 : decode cX9_highest 74 = .ok (.iload_n 3, 1) := by decide +kernel
theorem dX9_highest_75 : decode cX9_highest 75 = .ok (.i2l, 1) := by decide +kernel
theorem dX9_highest_76 : decode cX9_highest 76 = .ok (.lload 4, 2) := by decide +kernel
theorem dX9_highest_78 : decode cX9_highest 78 = .ok (.iload_n 3, 1) := by decide +kernel
theorem dX9_highest_79 : decode cX9_highest 79 = .ok (.i2l, 1) := by decide +kernel
theorem dX9_highest_80 : decode cX9_highest 80 = .ok (.invokestatic 217, 3) := by decide +kernel
theorem dX9_highest_83 : decode cX9_highest 83 = .ok (.ldiv, 1) := by decide +kernel
theorem dX9_highest_84 : decode cX9_highest 84 = .ok (.l2i, 1) := by decide +kernel
theorem dX9_highest_85 : decode cX9_highest 85 = .ok (.ireturn, 1) := by decide +kernel
theorem dX9_freak_0 : decode cX9_freak 0 = .ok (.aload_n 0, 1) := by decide +kernel
theorem dX9_freak_1 : decode cX9_freak 1 = .ok (.invokevirtual 183, 3) := by decide +kernel
theorem dX9_freak_4 : decode cX9_freak 4 = .ok (.iconst 0, 1) := by decide +kernel
theorem dX9_freak_5 : decode cX9_freak 5 = .ok (.istore_n 2, 1) := by decide +kernel
theorem dX9_freak_6 : decode cX9_freak 6 = .ok (.iconst 0, 1) := by decide +kernel
theorem dX9_freak_7 : decode cX9_freak 7 = .ok (.istore_n 3, 1) := by decide +kernel
theorem dX9_freak_8 : decode cX9_freak 8 = .ok (.iload_n 3, 1) := by decide +kernel
theorem dX9_freak_9 : decode cX9_freak 9 = .ok (.aload_n 0, 1) := by decide +kernel
theorem dX9_freak_10 : decode cX9_freak 10 = .ok (.getfield 150, 3) := by decide +kernel
theorem dX9_freak_13 : decode cX9_freak 13 = .ok (.if_icmp .ge 51, 3) := by decide +kernel
theorem dX9_freak_16 : decode cX9_freak 16 = .ok (.iconst 0, 1) := by decide +kernel
theorem dX9_freak_17 : decode cX9_freak 17 = .ok (.istore 4, 2) := by decide +kernel
theorem dX9_freak_19 : decode cX9_freak 19 = .ok (.aload_n 0, 1) := by decide +kernel
theorem dX9_freak_20 : decode cX9_freak 20 = .ok (.getfield 73, 3) := by decide +kernel
theorem dX9_freak_23 : decode cX9_freak 23 = .ok (.iload 4, 2) := by decide +kernel
theorem dX9_freak_25 : decode cX9_freak 25 = .ok (.iaload, 1) := by decide +kernel
theorem dX9_freak_26 : decode cX9_freak 26 = .ok (.iload_n 3, 1) := by decide +kernel
theorem dX9_freak_27 : decode cX9_freak 27 = .ok (.if_icmp .eq 9, 3) := by decide +kernel
theorem dX9_freak_30 : decode cX9_freak 30 = .ok (.iinc 4 1, 3) := by decide +kernel
theorem dX9_freak_33 : decode cX9_freak 33 = .ok (.goto (-14), 3) := by decide +kernel
theorem dX9_freak_36 : decode cX9_freak 36 = .ok (.aload_n 0, 1) := by decide +kernel
theorem dX9_freak_37 : decode cX9_freak 37 = .ok (.iload 4, 2) := by decide +kernel
theorem dX9_freak_39 : decode cX9_freak 39 = .ok (.invokevirtual 177, 3) := by decide +kernel
theorem dX9_freak_42 : decode cX9_freak 42 = .ok (.ifCond .ne 5, 3) := by decide +kernel
theorem dX9_freak_45 : decode cX9_freak 45 = .ok (.iconst (-1), 1) := by decide +kernel
theorem dX9_freak_46 : decode cX9_freak 46 = .ok (.ireturn, 1) := by decide +kernel
theorem dX9_freak_47 : decode cX9_freak 47 = .ok (.iload_n 2, 1) := by decide +kernel
theorem dX9_freak_48 : decode cX9_freak 48 = .ok (.iload_n 1, 1) := by decide +kernel
theorem dX9_freak_49 : decode cX9_freak 49 = .ok (.if_icmp .ne 6, 3) := by decide +kernel
theorem dX9_freak_52 : decode cX9_freak 52 = .ok (.iload 4, 2) := by decide +kernel
theorem dX9_freak_54 : decode cX9_freak 54 = .ok (.ireturn, 1) := by decide +kernel
theorem dX9_freak_55 : decode cX9_freak 55 = .ok (.iinc 2 1, 3) := by decide +kernel
theorem dX9_freak_58 : decode cX9_freak 58 = .ok (.iinc 3 1, 3) := by decide +kernel
theorem dX9_freak_61 : decode cX9_freak 61 = .ok (.goto (-53), 3) := by decide +kernel
theorem dX9_freak_64 : decode cX9_freak 64 = .ok (.iconst (-1), 1) := by decide +kernel
theorem dX9_freak_65 : decode cX9_freak 65 = .ok (.ireturn, 1) := by decide +kernel
theorem dX9_group_0 : decode cX9_group 0 = .ok (.aload_n 0, 1) := by decide +kernel
theorem dX9_group_1 : decode cX9_group 1 = .ok (.invokevirtual 183, 3) := by decide +kernel
theorem dX9_group_4 : decode cX9_group 4 = .ok (.aload_n 0, 1) := by decide +kernel
theorem dX9_group_5 : decode cX9_group 5 = .ok (.iload_n 1, 1) := by decide +kernel
theorem dX9_group_6 : decode cX9_group 6 = .ok (.invokevirtual 220, 3) := by decide +kernel
theorem dX9_group_9 : decode cX9_group 9 = .ok (.istore_n 3, 1) := by decide +kernel
theorem dX9_group_10 : decode cX9_group 10 = .ok (.iload_n 3, 1) := by decide +kernel
theorem dX9_group_11 : decode cX9_group 11 = .ok (.iconst (-1), 1) := by decide +kernel
theorem dX9_group_12 : decode cX9_group 12 = .ok (.if_icmp .eq 12, 3) := by decide +kernel
theorem dX9_group_15 : decode cX9_group 15 = .ok (.iload_n 2, 1) := by decide +kernel
theorem dX9_group_16 : decode cX9_group 16 = .ok (.iconst 0, 1) := by decide +kernel
theorem dX9_group_17 : decode cX9_group 17 = .ok (.iconst 4, 1) := by decide +kernel
theorem dX9_group_18 : decode cX9_group 18 = .ok (.invokestatic 80, 3) := by decide +kernel
theorem dX9_group_21 : decode cX9_group 21 = .ok (.ifCond .ne 5, 3) := by decide +kernel
theorem dX9_group_24 : decode cX9_group 24 = .ok (.iconst (-1), 1) := by decide +kernel
theorem dX9_group_25 : decode cX9_group 25 = .ok (.ireturn, 1) := by decide +kernel
theorem dX9_group_26 : decode cX9_group 26 = .ok (.aload_n 0, 1) := by decide +kernel
theorem dX9_group_27 : decode cX9_group 27 = .ok (.iload_n 3, 1) := by decide +kernel
theorem dX9_group_28 : decode cX9_group 28 = .ok (.invokevirtual 180, 3) := by decide +kernel
theorem dX9_group_31 : decode cX9_group 31 = .ok (.istore 4, 2) := by decide +kernel
theorem dX9_group_33 : decode cX9_group 33 = .ok (.iload_n 3, 1) := by decide +kernel
theorem dX9_group_34 : decode cX9_group 34 = .ok (.istore 5, 2) := by decide +kernel
theorem dX9_group_36 : decode cX9_group 36 = .ok (.iconst 0, 1) := by decide +kernel
theorem dX9_group_37 : decode cX9_group 37 = .ok (.istore 6, 2) := by decide +kernel
theorem dX9_group_39 : decode cX9_group 39 = .ok (.iload_n 3, 1) := by decide +kernel
theorem dX9_group_40 : decode cX9_group 40 = .ok (.istore 7, 2) := by decide +kernel
theorem dX9_group_42 : decode cX9_group 42 = .ok (.iload 7, 2) := by decide +kernel
theorem dX9_group_44 : decode cX9_group 44 = .ok (.iload_n 3, 1) := by decide +kernel
theorem dX9_group_45 : decode cX9_group 45 = .ok (.iload 4, 2) := by decide +kernel
theorem dX9_group_47 : decode cX9_group 47 = .ok (.iadd, 1) := by decide +kernel
theorem dX9_group_48 : decode cX9_group 48 = .ok (.if_icmp .ge 42, 3) := by decide +kernel
theorem dX9_group_51 : decode cX9_group 51 = .ok (.aload_n 0, 1) := by decide +kernel
theorem dX9_group_52 : decode cX9_group 52 = .ok (.getfield 73, 3) := by decide +kernel
theorem dX9_group_55 : decode cX9_group 55 = .ok (.iload 7, 2) := by decide +kernel
theorem dX9_group_57 : decode cX9_group 57 = .ok (.iaload, 1) := by decide +kernel
theorem dX9_group_58 : decode cX9_group 58 = .ok (.aload_n 0, 1) := by decide +kernel
theorem dX9_group_59 : decode cX9_group 59 = .ok (.getfield 73, 3) := by decide +kernel
theorem dX9_group_62 : decode cX9_group 62 = .ok (.iload 5, 2) := by decide +kernel
theorem dX9_group_64 : decode cX9_group 64 = .ok (.iaload, 1) := by decide +kernel
theorem dX9_group_65 : decode cX9_group 65 = .ok (.if_icmp .ge 7, 3) := by decide +kernel
theorem dX9_group_68 : decode cX9_group 68 = .ok (.iload 7, 2) := by decide +kernel
theorem dX9_group_70 : decode cX9_group 70 = .ok (.istore 5, 2) := by decide +kernel
theorem dX9_group_72 : decode cX9_group 72 = .ok (.iload 6, 2) := by decide +kernel
theorem dX9_group_74 : decode cX9_group 74 = .ok (.aload_n 0, 1) := by decide +kernel
theorem dX9_group_75 : decode cX9_group 75 = .ok (.getfield 58, 3) := by decide +kernel
theorem dX9_group_78 : decode cX9_group 78 = .ok (.iload 7, 2) := by decide +kernel
theorem dX9_group_80 : decode cX9_group 80 = .ok (.iaload, 1) := by decide +kernel
theorem dX9_group_81 : decode cX9_group 81 = .ok (.iadd, 1) := by decide +kernel
theorem dX9_group_82 : decode cX9_group 82 = .ok (.istore 6, 2) := by decide +kernel
theorem dX9_group_84 : decode cX9_group 84 = .ok (.iinc 7 1, 3) := by decide +kernel
theorem dX9_group_87 : decode cX9_group 87 = .ok (.goto (-45), 3) := by decide +kernel
theorem dX9_group_90 : decode cX9_group 90 = .ok (.aload_n 0, 1) := by decide +kernel
theorem dX9_group_91 : decode cX9_group 91 = .ok (.iload_n 1, 1) := by decide +kernel
theorem dX9_group_92 : decode cX9_group 92 = .ok (.iconst 1, 1) := by decide +kernel
theorem dX9_group_93 : decode cX9_group 93 = .ok (.iadd, 1) := by decide +kernel
theorem dX9_group_94 : decode cX9_group 94 = .ok (.invokevirtual 220, 3) := by decide +kernel
theorem dX9_group_97 : decode cX9_group 97 = .ok (.istore 7, 2) := by decide +kernel
theorem dX9_group_99 : decode cX9_group 99 = .ok (.iload_n 2, 1) := by decide +kernel
theorem dX9_group_100 : decode cX9_group 100 = .ok (.ifCond .ne 7, 3) := by decide +kernel
theorem dX9_group_103 : decode cX9_group 103 = .ok (.iload_n 3, 1) := by decide +kernel
theorem dX9_group_104 : decode cX9_group 104 = .ok (.goto 47, 3) := by decide +kernel
theorem dX9_group_107 : decode cX9_group 107 = .ok (.iload_n 2, 1) := by decide +kernel
theorem dX9_group_108 : decode cX9_group 108 = .ok (.iconst 1, 1) := by decide +kernel
theorem dX9_group_109 : decode cX9_group 109 = .ok (.if_icmp .ne 8, 3) := by decide +kernel
theorem dX9_group_112 : decode cX9_group 112 = .ok (.iload 4, 2) := by decide +kernel
theorem dX9_group_114 : decode cX9_group 114 = .ok (.goto 37, 3) := by decide +kernel
theorem dX9_group_117 : decode cX9_group 117 = .ok (.iload_n 2, 1) := by decide +kernel
theorem dX9_group_118 : decode cX9_group 118 = .ok (.iconst 2, 1) := by decide +kernel
theorem dX9_group_119 : decode cX9_group 119 = .ok (.if_icmp .ne 8, 3) := by decide +kernel
theorem dX9_group_122 : decode cX9_group 122 = .ok (.iload 5, 2) := by decide +kernel
theorem dX9_group_124 : decode cX9_group 124 = .ok (.goto 27, 3) := by decide +kernel
theorem dX9_group_127 : decode cX9_group 127 = .ok (.iload_n 2, 1) := by decide +kernel
theorem dX9_group_128 : decode cX9_group 128 = .ok (.iconst 4, 1) := by decide +kernel
theorem dX9_group_129 : decode cX9_group 129 = .ok (.if_icmp .ne 8, 3) := by decide +kernel
theorem dX9_group_132 : decode cX9_group 132 = .ok (.iload 6, 2) := by decide +kernel
theorem dX9_group_134 : decode cX9_group 134 = .ok (.goto 17, 3) := by decide +kernel
theorem dX9_group_137 : decode cX9_group 137 = .ok (.iload 7, 2) := by decide +kernel
theorem dX9_group_139 : decode cX9_group 139 = .ok (.iconst (-1), 1) := by decide +kernel
theorem dX9_group_140 : decode cX9_group 140 = .ok (.if_icmp .ne 7, 3) := by decide +kernel
theorem dX9_group_143 : decode cX9_group 143 = .ok (.iconst (-1), 1) := by decide +kernel
theorem dX9_group_144 : decode cX9_group 144 = .ok (.goto 7, 3) := by decide +kernel
theorem dX9_group_147 : decode cX9_group 147 = .ok (.iload 7, 2) := by decide +kernel
theorem dX9_group_149 : decode cX9_group 149 = .ok (.iload_n 3, 1) := by decide +kernel
theorem dX9_group_150 : decode cX9_group 150 = .ok (.isub, 1) := by decide +kernel
theorem dX9_group_151 : decode cX9_group 151 = .ok (.ireturn, 1) := by decide +kernel
theorem dX9_energy_0 : decode cX9_energy 0 = .ok (.aload_n 0, 1) := by decide +kernel
theorem dX9_energy_1 : decode cX9_energy 1 = .ok (.invokevirtual 183, 3) := by decide +kernel
theorem dX9_energy_4 : decode cX9_energy 4 = .ok (.iload_n 1, 1) := by decide +kernel
theorem dX9_energy_5 : decode cX9_energy 5 = .ok (.iconst (-1), 1) := by decide +kernel
theorem dX9_energy_6 : decode cX9_energy 6 = .ok (.if_icmp .ne 7, 3) := by decide +kernel
theorem dX9_energy_9 : decode cX9_energy 9 = .ok (.iconst 0, 1) := by decide +kernel
theorem dX9_energy_10 : decode cX9_energy 10 = .ok (.goto 8, 3) := by decide +kernel
theorem dX9_energy_13 : decode cX9_energy 13 = .ok (.aload_n 0, 1) := by decide +kernel
theorem dX9_energy_14 : decode cX9_energy 14 = .ok (.iload_n 1, 1) := by decide +kernel
theorem dX9_energy_15 : decode cX9_energy 15 = .ok (.invokevirtual 220, 3) := by decide +kernel
theorem dX9_energy_18 : decode cX9_energy 18 = .ok (.istore_n 2, 1) := by decide +kernel
theorem dX9_energy_19 : decode cX9_energy 19 = .ok (.iload_n 2, 1) := by decide +kernel
theorem dX9_energy_20 : decode cX9_energy 20 = .ok (.iconst (-1), 1) := by decide +kernel
theorem dX9_energy_21 : decode cX9_energy 21 = .ok (.if_icmp .ne 7, 3) := by decide +kernel
theorem dX9_energy_24 : decode cX9_energy 24 = .ok (.ldc2_w 223, 3) := by decide +kernel
theorem dX9_energy_27 : decode cX9_energy 27 = .ok (.lreturn, 1) := by decide +kernel
theorem dX9_energy_28 : decode cX9_energy 28 = .ok (.iload_n 1, 1) := by decide +kernel
theorem dX9_energy_29 : decode cX9_energy 29 = .ok (.iconst (-1), 1) := by decide +kernel
theorem dX9_energy_30 : decode cX9_energy 30 = .ok (.if_icmp .ne 10, 3) := by decide +kernel
theorem dX9_energy_33 : decode cX9_energy 33 = .ok (.aload_n 0, 1) := by decide +kernel
theorem dX9_energy_34 : decode cX9_energy 34 = .ok (.getfield 150, 3) := by decide +kernel
theorem dX9_energy_37 : decode cX9_energy 37 = .ok (.goto 8, 3) := by decide +kernel
theorem dX9_energy_40 : decode cX9_energy 40 = .ok (.aload_n 0, 1) := by decide +kernel
theorem dX9_energy_41 : decode cX9_energy 41 = .ok (.iload_n 2, 1) := by decide +kernel
theorem dX9_energy_42 : decode cX9_energy 42 = .ok (.invokevirtual 180, 3) := by decide +kernel
theorem dX9_energy_45 : decode cX9_energy 45 = .ok (.istore_n 3, 1) := by decide +kernel
theorem dX9_energy_46 : decode cX9_energy 46 = .ok (.lconst 0, 1) := by decide +kernel
theorem dX9_energy_47 : decode cX9_energy 47 = .ok (.lstore 4, 2) := by decide +kernel
theorem dX9_energy_49 : decode cX9_energy 49 = .ok (.iload_n 2, 1) := by decide +kernel
theorem dX9_energy_50 : decode cX9_energy 50 = .ok (.istore 6, 2) := by decide +kernel
theorem dX9_energy_52 : decode cX9_energy 52 = .ok (.iload 6, 2) := by decide +kernel
theorem dX9_energy_54 : decode cX9_energy 54 = .ok (.iload_n 2, 1) := by decide +kernel
theorem dX9_energy_55 : decode cX9_energy 55 = .ok (.iload_n 3, 1) := by decide +kernel
theorem dX9_energy_56 : decode cX9_energy 56 = .ok (.iadd, 1) := by decide +kernel
theorem dX9_energy_57 : decode cX9_energy 57 = .ok (.if_icmp .ge 29, 3) := by decide +kernel
theorem dX9_energy_60 : decode cX9_energy 60 = .ok (.lload 4, 2) := by decide +kernel
theorem dX9_energy_62 : decode cX9_energy 62 = .ok (.aload_n 0, 1) := by decide +kernel
theorem dX9_energy_63 : decode cX9_energy 63 = .ok (.iload 6, 2) := by decide +kernel
theorem dX9_energy_65 : decode cX9_energy 65 = .ok (.invokevirtual 160, 3) := by decide +kernel
theorem dX9_energy_68 : decode cX9_energy 68 = .ok (.i2l, 1) := by decide +kernel
theorem dX9_energy_69 : decode cX9_energy 69 = .ok (.aload_n 0, 1) := by decide +kernel
theorem dX9_energy_70 : decode cX9_energy 70 = .ok (.iload 6, 2) := by decide +kernel
theorem dX9_energy_72 : decode cX9_energy 72 = .ok (.invokevirtual 160, 3) := by decide +kernel
theorem dX9_energy_75 : decode cX9_energy 75 = .ok (.i2l, 1) := by decide +kernel
theorem dX9_energy_76 : decode cX9_energy 76 = .ok (.lmul, 1) := by decide +kernel
theorem dX9_energy_77 : decode cX9_energy 77 = .ok (.ladd, 1) := by decide +kernel
theorem dX9_energy_78 : decode cX9_energy 78 = .ok (.lstore 4, 2) := by decide +kernel
theorem dX9_energy_80 : decode cX9_energy 80 = .ok (.iinc 6 1, 3) := by decide +kernel
theorem dX9_energy_83 : decode cX9_energy 83 = .ok (.goto (-31), 3) := by decide +kernel
theorem dX9_energy_86 : decode cX9_energy 86 = .ok (.lload 4, 2) := by decide +kernel
theorem dX9_energy_88 : decode cX9_energy 88 = .ok (.lreturn, 1) := by decide +kernel
theorem dX9_sampleOf_0 : decode cX9_sampleOf 0 = .ok (.iconst 0, 1) := by decide +kernel
theorem dX9_sampleOf_1 : decode cX9_sampleOf 1 = .ok (.istore_n 2, 1) := by decide +kernel
theorem dX9_sampleOf_2 : decode cX9_sampleOf 2 = .ok (.iload_n 2, 1) := by decide +kernel
theorem dX9_sampleOf_3 : decode cX9_sampleOf 3 = .ok (.aload_n 0, 1) := by decide +kernel
theorem dX9_sampleOf_4 : decode cX9_sampleOf 4 = .ok (.getfield 88, 3) := by decide +kernel
theorem dX9_sampleOf_7 : decode cX9_sampleOf 7 = .ok (.if_icmp .ge 21, 3) := by decide +kernel
theorem dX9_sampleOf_10 : decode cX9_sampleOf 10 = .ok (.aload_n 0, 1) := by decide +kernel
theorem dX9_sampleOf_11 : decode cX9_sampleOf 11 = .ok (.getfield 22, 3) := by decide +kernel
theorem dX9_sampleOf_14 : decode cX9_sampleOf 14 = .ok (.iload_n 2, 1) := by decide +kernel
theorem dX9_sampleOf_15 : decode cX9_sampleOf 15 = .ok (.iaload, 1) := by decide +kernel
theorem dX9_sampleOf_16 : decode cX9_sampleOf 16 = .ok (.iload_n 1, 1) := by decide +kernel
theorem dX9_sampleOf_17 : decode cX9_sampleOf 17 = .ok (.if_icmp .ne 5, 3) := by decide +kernel
theorem dX9_sampleOf_20 : decode cX9_sampleOf 20 = .ok (.iload_n 2, 1) := by decide +kernel
theorem dX9_sampleOf_21 : decode cX9_sampleOf 21 = .ok (.ireturn, 1) := by decide +kernel
theorem dX9_sampleOf_22 : decode cX9_sampleOf 22 = .ok (.iinc 2 1, 3) := by decide +kernel
theorem dX9_sampleOf_25 : decode cX9_sampleOf 25 = .ok (.goto (-23), 3) := by decide +kernel
theorem dX9_sampleOf_28 : decode cX9_sampleOf 28 = .ok (.iconst (-1), 1) := by decide +kernel
theorem dX9_sampleOf_29 : decode cX9_sampleOf 29 = .ok (.ireturn, 1) := by decide +kernel
theorem dX9_name_0 : decode cX9_name 0 = .ok (.aload_n 0, 1) := by decide +kernel
theorem dX9_name_1 : decode cX9_name 1 = .ok (.invokevirtual 183, 3) := by decide +kernel
theorem dX9_name_4 : decode cX9_name 4 = .ok (.aload_n 0, 1) := by decide +kernel
theorem dX9_name_5 : decode cX9_name 5 = .ok (.iload_n 1, 1) := by decide +kernel
theorem dX9_name_6 : decode cX9_name 6 = .ok (.invokevirtual 208, 3) := by decide +kernel
theorem dX9_name_9 : decode cX9_name 9 = .ok (.ifCond .eq 47, 3) := by decide +kernel
theorem dX9_name_12 : decode cX9_name 12 = .ok (.iload_n 2, 1) := by decide +kernel
theorem dX9_name_13 : decode cX9_name 13 = .ok (.iconst 1, 1) := by decide +kernel
theorem dX9_name_14 : decode cX9_name 14 = .ok (.sipush 999, 3) := by decide +kernel
theorem dX9_name_17 : decode cX9_name 17 = .ok (.invokestatic 80, 3) := by decide +kernel
theorem dX9_name_20 : decode cX9_name 20 = .ok (.ifCond .eq 36, 3) := by decide +kernel
theorem dX9_name_23 : decode cX9_name 23 = .ok (.aload_n 0, 1) := by decide +kernel
theorem dX9_name_24 : decode cX9_name 24 = .ok (.getfield 22, 3) := by decide +kernel
theorem dX9_name_27 : decode cX9_name 27 = .ok (.aload_n 0, 1) := by decide +kernel
theorem dX9_name_28 : decode cX9_name 28 = .ok (.getfield 67, 3) := by decide +kernel
theorem dX9_name_31 : decode cX9_name 31 = .ok (.iload_n 1, 1) := by decide +kernel
theorem dX9_name_32 : decode cX9_name 32 = .ok (.iaload, 1) := by decide +kernel
theorem dX9_name_33 : decode cX9_name 33 = .ok (.iaload, 1) := by decide +kernel
theorem dX9_name_34 : decode cX9_name 34 = .ok (.iconst (-1), 1) := by decide +kernel
theorem dX9_name_35 : decode cX9_name 35 = .ok (.if_icmp .ne 21, 3) := by decide +kernel
theorem dX9_name_38 : decode cX9_name 38 = .ok (.aload_n 0, 1) := by decide +kernel
theorem dX9_name_39 : decode cX9_name 39 = .ok (.iload_n 2, 1) := by decide +kernel
theorem dX9_name_40 : decode cX9_name 40 = .ok (.invokevirtual 225, 3) := by decide +kernel
theorem dX9_name_43 : decode cX9_name 43 = .ok (.iconst (-1), 1) := by decide +kernel
theorem dX9_name_44 : decode cX9_name 44 = .ok (.if_icmp .ne 12, 3) := by decide +kernel
theorem dX9_name_47 : decode cX9_name 47 = .ok (.aload_n 0, 1) := by decide +kernel
theorem dX9_name_48 : decode cX9_name 48 = .ok (.invokevirtual 192, 3) := by decide +kernel
theorem dX9_name_51 : decode cX9_name 51 = .ok (.bipush 20, 2) := by decide +kernel
theorem dX9_name_53 : decode cX9_name 53 = .ok (.if_icmp .ne 5, 3) := by decide +kernel
theorem dX9_name_56 : decode cX9_name 56 = .ok (.iconst 0, 1) := by decide +kernel
theorem dX9_name_57 : decode cX9_name 57 = .ok (.ireturn, 1) := by decide +kernel
theorem dX9_name_58 : decode cX9_name 58 = .ok (.aload_n 0, 1) := by decide +kernel
theorem dX9_name_59 : decode cX9_name 59 = .ok (.getfield 22, 3) := by decide +kernel
theorem dX9_name_62 : decode cX9_name 62 = .ok (.aload_n 0, 1) := by decide +kernel
theorem dX9_name_63 : decode cX9_name 63 = .ok (.getfield 67, 3) := by decide +kernel
theorem dX9_name_66 : decode cX9_name 66 = .ok (.iload_n 1, 1) := by decide +kernel
theorem dX9_name_67 : decode cX9_name 67 = .ok (.iaload, 1) := by decide +kernel
theorem dX9_name_68 : decode cX9_name 68 = .ok (.iload_n 2, 1) := by decide +kernel
theorem dX9_name_69 : decode cX9_name 69 = .ok (.iastore, 1) := by decide +kernel
theorem dX9_name_70 : decode cX9_name 70 = .ok (.iconst 1, 1) := by decide +kernel
theorem dX9_name_71 : decode cX9_name 71 = .ok (.ireturn, 1) := by decide +kernel
theorem dX9_unname_0 : decode cX9_unname 0 = .ok (.iload_n 1, 1) := by decide +kernel
theorem dX9_unname_1 : decode cX9_unname 1 = .ok (.iconst 1, 1) := by decide +kernel
theorem dX9_unname_2 : decode cX9_unname 2 = .ok (.sipush 999, 3) := by decide +kernel
theorem dX9_unname_5 : decode cX9_unname 5 = .ok (.invokestatic 80, 3) := by decide +kernel
theorem dX9_unname_8 : decode cX9_unname 8 = .ok (.ifCond .ne 5, 3) := by decide +kernel
theorem dX9_unname_11 : decode cX9_unname 11 = .ok (.iconst (-1), 1) := by decide +kernel
theorem dX9_unname_12 : decode cX9_unname 12 = .ok (.ireturn, 1) := by decide +kernel
theorem dX9_unname_13 : decode cX9_unname 13 = .ok (.aload_n 0, 1) := by decide +kernel
theorem dX9_unname_14 : decode cX9_unname 14 = .ok (.iload_n 1, 1) := by decide +kernel
theorem dX9_unname_15 : decode cX9_unname 15 = .ok (.invokevirtual 225, 3) := by decide +kernel
theorem dX9_unname_18 : decode cX9_unname 18 = .ok (.istore_n 2, 1) := by decide +kernel
theorem dX9_unname_19 : decode cX9_unname 19 = .ok (.iload_n 2, 1) := by decide +kernel
theorem dX9_unname_20 : decode cX9_unname 20 = .ok (.iconst (-1), 1) := by decide +kernel
theorem dX9_unname_21 : decode cX9_unname 21 = .ok (.if_icmp .eq 10, 3) := by decide +kernel
theorem dX9_unname_24 : decode cX9_unname 24 = .ok (.aload_n 0, 1) := by decide +kernel
theorem dX9_unname_25 : decode cX9_unname 25 = .ok (.getfield 22, 3) := by decide +kernel
theorem dX9_unname_28 : decode cX9_unname 28 = .ok (.iload_n 2, 1) := by decide +kernel
theorem dX9_unname_29 : decode cX9_unname 29 = .ok (.iconst (-1), 1) := by decide +kernel
theorem dX9_unname_30 : decode cX9_unname 30 = .ok (.iastore, 1) := by decide +kernel
theorem dX9_unname_31 : decode cX9_unname 31 = .ok (.iload_n 2, 1) := by decide +kernel
theorem dX9_unname_32 : decode cX9_unname 32 = .ok (.ireturn, 1) := by decide +kernel
theorem dX9_named_0 : decode cX9_named 0 = .ok (.iload_n 1, 1) := by decide +kernel
theorem dX9_named_1 : decode cX9_named 1 = .ok (.iconst 1, 1) := by decide +kernel
theorem dX9_named_2 : decode cX9_named 2 = .ok (.sipush 999, 3) := by decide +kernel
theorem dX9_named_5 : decode cX9_named 5 = .ok (.invokestatic 80, 3) := by decide +kernel
theorem dX9_named_8 : decode cX9_named 8 = .ok (.ifCond .eq 12, 3) := by decide +kernel
theorem dX9_named_11 : decode cX9_named 11 = .ok (.aload_n 0, 1) := by decide +kernel
theorem dX9_named_12 : decode cX9_named 12 = .ok (.iload_n 1, 1) := by decide +kernel
theorem dX9_named_13 : decode cX9_named 13 = .ok (.invokevirtual 225, 3) := by decide +kernel
theorem dX9_named_16 : decode cX9_named 16 = .ok (.iconst (-1), 1) := by decide +kernel
theorem dX9_named_17 : decode cX9_named 17 = .ok (.if_icmp .ne 5, 3) := by decide +kernel
theorem dX9_named_20 : decode cX9_named 20 = .ok (.iconst (-1), 1) := by decide +kernel
theorem dX9_named_21 : decode cX9_named 21 = .ok (.ireturn, 1) := by decide +kernel
theorem dX9_named_22 : decode cX9_named 22 = .ok (.aload_n 0, 1) := by decide +kernel
theorem dX9_named_23 : decode cX9_named 23 = .ok (.invokevirtual 183, 3) := by decide +kernel
theorem dX9_named_26 : decode cX9_named 26 = .ok (.aload_n 0, 1) := by decide +kernel
theorem dX9_named_27 : decode cX9_named 27 = .ok (.getfield 52, 3) := by decide +kernel
theorem dX9_named_30 : decode cX9_named 30 = .ok (.aload_n 0, 1) := by decide +kernel
theorem dX9_named_31 : decode cX9_named 31 = .ok (.iload_n 1, 1) := by decide +kernel
theorem dX9_named_32 : decode cX9_named 32 = .ok (.invokevirtual 225, 3) := by decide +kernel
theorem dX9_named_35 : decode cX9_named 35 = .ok (.iaload, 1) := by decide +kernel
theorem dX9_named_36 : decode cX9_named 36 = .ok (.ireturn, 1) := by decide +kernel
theorem dX9_would_0 : decode cX9_would 0 = .ok (.iload_n 1, 1) := by decide +kernel
theorem dX9_would_1 : decode cX9_would 1 = .ok (.iconst 0, 1) := by decide +kernel
theorem dX9_would_2 : decode cX9_would 2 = .ok (.sipush 500, 3) := by decide +kernel
theorem dX9_would_5 : decode cX9_would 5 = .ok (.invokestatic 80, 3) := by decide +kernel
theorem dX9_would_8 : decode cX9_would 8 = .ok (.ifCond .ne 5, 3) := by decide +kernel
theorem dX9_would_11 : decode cX9_would 11 = .ok (.iconst (-1), 1) := by decide +kernel
theorem dX9_would_12 : decode cX9_would 12 = .ok (.ireturn, 1) := by decide +kernel
theorem dX9_would_13 : decode cX9_would 13 = .ok (.aload_n 0, 1) := by decide +kernel
theorem dX9_would_14 : decode cX9_would 14 = .ok (.invokevirtual 183, 3) := by decide +kernel
theorem dX9_would_17 : decode cX9_would 17 = .ok (.aload_n 0, 1) := by decide +kernel
theorem dX9_would_18 : decode cX9_would 18 = .ok (.iload_n 1, 1) := by decide +kernel
theorem dX9_would_19 : decode cX9_would 19 = .ok (.invokevirtual 228, 3) := by decide +kernel
theorem dX9_would_22 : decode cX9_would 22 = .ok (.ireturn, 1) := by decide +kernel
theorem dX9_quiet_0 : decode cX9_quiet 0 = .ok (.iload_n 1, 1) := by decide +kernel
theorem dX9_quiet_1 : decode cX9_quiet 1 = .ok (.ifCond .ge 5, 3) := by decide +kernel
theorem dX9_quiet_4 : decode cX9_quiet 4 = .ok (.iconst (-1), 1) := by decide +kernel
theorem dX9_quiet_5 : decode cX9_quiet 5 = .ok (.ireturn, 1) := by decide +kernel
theorem dX9_quiet_6 : decode cX9_quiet 6 = .ok (.aload_n 0, 1) := by decide +kernel
theorem dX9_quiet_7 : decode cX9_quiet 7 = .ok (.invokevirtual 183, 3) := by decide +kernel
theorem dX9_quiet_10 : decode cX9_quiet 10 = .ok (.iconst 0, 1) := by decide +kernel
theorem dX9_quiet_11 : decode cX9_quiet 11 = .ok (.istore_n 2, 1) := by decide +kernel
theorem dX9_quiet_12 : decode cX9_quiet 12 = .ok (.iload_n 2, 1) := by decide +kernel
theorem dX9_quiet_13 : decode cX9_quiet 13 = .ok (.sipush 500, 3) := by decide +kernel
theorem dX9_quiet_16 : decode cX9_quiet 16 = .ok (.if_icmp .gt 20, 3) := by decide +kernel
theorem dX9_quiet_19 : decode cX9_quiet 19 = .ok (.aload_n 0, 1) := by decide +kernel
theorem dX9_quiet_20 : decode cX9_quiet 20 = .ok (.iload_n 2, 1) := by decide +kernel
theorem dX9_quiet_21 : decode cX9_quiet 21 = .ok (.invokevirtual 228, 3) := by decide +kernel
theorem dX9_quiet_24 : decode cX9_quiet 24 = .ok (.iload_n 1, 1) := by decide +kernel
theorem dX9_quiet_25 : decode cX9_quiet 25 = .ok (.if_icmp .gt 5, 3) := by decide +kernel
theorem dX9_quiet_28 : decode cX9_quiet 28 = .ok (.iload_n 2, 1) := by decide +kernel
theorem dX9_quiet_29 : decode cX9_quiet 29 = .ok (.ireturn, 1) := by decide +kernel
theorem dX9_quiet_30 : decode cX9_quiet 30 = .ok (.iinc 2 1, 3) := by decide +kernel
theorem dX9_quiet_33 : decode cX9_quiet 33 = .ok (.goto (-21), 3) := by decide +kernel
theorem dX9_quiet_36 : decode cX9_quiet 36 = .ok (.iconst (-1), 1) := by decide +kernel
theorem dX9_quiet_37 : decode cX9_quiet 37 = .ok (.ireturn, 1) := by decide +kernel
theorem dX9_hasCrossing_0 : decode cX9_hasCrossing 0 = .ok (.aload_n 0, 1) := by decide +kernel
theorem dX9_hasCrossing_1 : decode cX9_hasCrossing 1 = .ok (.getfield 70, 3) := by decide +kernel
theorem dX9_hasCrossing_4 : decode cX9_hasCrossing 4 = .ok (.iload_n 1, 1) := by decide +kernel
theorem dX9_hasCrossing_5 : decode cX9_hasCrossing 5 = .ok (.iaload, 1) := by decide +kernel
theorem dX9_hasCrossing_6 : decode cX9_hasCrossing 6 = .ok (.istore_n 3, 1) := by decide +kernel
theorem dX9_hasCrossing_7 : decode cX9_hasCrossing 7 = .ok (.iconst 0, 1) := by decide +kernel
theorem dX9_hasCrossing_8 : decode cX9_hasCrossing 8 = .ok (.istore 4, 2) := by decide +kernel
theorem dX9_hasCrossing_10 : decode cX9_hasCrossing 10 = .ok (.aload_n 0, 1) := by decide +kernel
theorem dX9_hasCrossing_11 : decode cX9_hasCrossing 11 = .ok (.iconst 0, 1) := by decide +kernel
theorem dX9_hasCrossing_12 : decode cX9_hasCrossing 12 = .ok (.putfield 139, 3) := by decide +kernel
theorem dX9_hasCrossing_15 : decode cX9_hasCrossing 15 = .ok (.aload_n 0, 1) := by decide +kernel
theorem dX9_hasCrossing_16 : decode cX9_hasCrossing 16 = .ok (.getfield 31, 3) := by decide +kernel
theorem dX9_hasCrossing_19 : decode cX9_hasCrossing 19 = .ok (.iload_n 3, 1) := by decide +kernel
theorem dX9_hasCrossing_20 : decode cX9_hasCrossing 20 = .ok (.iaload, 1) := by decide +kernel
theorem dX9_hasCrossing_21 : decode cX9_hasCrossing 21 = .ok (.istore 5, 2) := by decide +kernel
theorem dX9_hasCrossing_23 : decode cX9_hasCrossing 23 = .ok (.iload 5, 2) := by decide +kernel
theorem dX9_hasCrossing_25 : decode cX9_hasCrossing 25 = .ok (.aload_n 0, 1) := by decide +kernel
theorem dX9_hasCrossing_26 : decode cX9_hasCrossing 26 = .ok (.getfield 88, 3) := by decide +kernel
theorem dX9_hasCrossing_29 : decode cX9_hasCrossing 29 = .ok (.if_icmp .ge 59, 3) := by decide +kernel
theorem dX9_hasCrossing_32 : decode cX9_hasCrossing 32 = .ok (.aload_n 0, 1) := by decide +kernel
theorem dX9_hasCrossing_33 : decode cX9_hasCrossing 33 = .ok (.getfield 28, 3) := by decide +kernel
theorem dX9_hasCrossing_36 : decode cX9_hasCrossing 36 = .ok (.iload 5, 2) := by decide +kernel
theorem dX9_hasCrossing_38 : decode cX9_hasCrossing 38 = .ok (.iaload, 1) := by decide +kernel
theorem dX9_hasCrossing_39 : decode cX9_hasCrossing 39 = .ok (.iload_n 3, 1) := by decide +kernel
theorem dX9_hasCrossing_40 : decode cX9_hasCrossing 40 = .ok (.if_icmp .ne 48, 3) := by decide +kernel
theorem dX9_hasCrossing_43 : decode cX9_hasCrossing 43 = .ok (.aload_n 0, 1) := by decide +kernel
theorem dX9_hasCrossing_44 : decode cX9_hasCrossing 44 = .ok (.iload 5, 2) := by decide +kernel
theorem dX9_hasCrossing_46 : decode cX9_hasCrossing 46 = .ok (.aload_n 0, 1) := by decide +kernel
theorem dX9_hasCrossing_47 : decode cX9_hasCrossing 47 = .ok (.getfield 40, 3) := by decide +kernel
theorem dX9_hasCrossing_50 : decode cX9_hasCrossing 50 = .ok (.iload_n 3, 1) := by decide +kernel
theorem dX9_hasCrossing_51 : decode cX9_hasCrossing 51 = .ok (.iaload, 1) := by decide +kernel
theorem dX9_hasCrossing_52 : decode cX9_hasCrossing 52 = .ok (.iload_n 2, 1) := by decide +kernel
theorem dX9_hasCrossing_53 : decode cX9_hasCrossing 53 = .ok (.invokevirtual 143, 3) := by decide +kernel
theorem dX9_hasCrossing_56 : decode cX9_hasCrossing 56 = .ok (.ifCond .eq 14, 3) := by decide +kernel
theorem dX9_hasCrossing_59 : decode cX9_hasCrossing 59 = .ok (.aload_n 0, 1) := by decide +kernel
theorem dX9_hasCrossing_60 : decode cX9_hasCrossing 60 = .ok (.getfield 52, 3) := by decide +kernel
theorem dX9_hasCrossing_63 : decode cX9_hasCrossing 63 = .ok (.iload 5, 2) := by decide +kernel
theorem dX9_hasCrossing_65 : decode cX9_hasCrossing 65 = .ok (.iaload, 1) := by decide +kernel
theorem dX9_hasCrossing_66 : decode cX9_hasCrossing 66 = .ok (.iload_n 1, 1) := by decide +kernel
theorem dX9_hasCrossing_67 : decode cX9_hasCrossing 67 = .ok (.if_icmp .eq 8, 3) := by decide +kernel
theorem dX9_hasCrossing_70 : decode cX9_hasCrossing 70 = .ok (.iload 4, 2) := by decide +kernel
theorem dX9_hasCrossing_72 : decode cX9_hasCrossing 72 = .ok (.ifCond .eq 7, 3) := by decide +kernel
theorem dX9_hasCrossing_75 : decode cX9_hasCrossing 75 = .ok (.iconst 1, 1) := by decide +kernel
theorem dX9_hasCrossing_76 : decode cX9_hasCrossing 76 = .ok (.goto 4, 3) := by decide +kernel
theorem dX9_hasCrossing_79 : decode cX9_hasCrossing 79 = .ok (.iconst 0, 1) := by decide +kernel
theorem dX9_hasCrossing_80 : decode cX9_hasCrossing 80 = .ok (.istore 4, 2) := by decide +kernel
theorem dX9_hasCrossing_82 : decode cX9_hasCrossing 82 = .ok (.iinc 5 1, 3) := by decide +kernel
theorem dX9_hasCrossing_85 : decode cX9_hasCrossing 85 = .ok (.goto (-62), 3) := by decide +kernel
theorem dX9_hasCrossing_88 : decode cX9_hasCrossing 88 = .ok (.iload 4, 2) := by decide +kernel
theorem dX9_hasCrossing_90 : decode cX9_hasCrossing 90 = .ok (.ireturn, 1) := by decide +kernel
theorem dX9_gone_0 : decode cX9_gone 0 = .ok (.aload_n 0, 1) := by decide +kernel
theorem dX9_gone_1 : decode cX9_gone 1 = .ok (.invokevirtual 183, 3) := by decide +kernel
theorem dX9_gone_4 : decode cX9_gone 4 = .ok (.aload_n 0, 1) := by decide +kernel
theorem dX9_gone_5 : decode cX9_gone 5 = .ok (.iload_n 1, 1) := by decide +kernel
theorem dX9_gone_6 : decode cX9_gone 6 = .ok (.invokevirtual 208, 3) := by decide +kernel
theorem dX9_gone_9 : decode cX9_gone 9 = .ok (.ifCond .ne 5, 3) := by decide +kernel
theorem dX9_gone_12 : decode cX9_gone 12 = .ok (.iconst (-1), 1) := by decide +kernel
theorem dX9_gone_13 : decode cX9_gone 13 = .ok (.ireturn, 1) := by decide +kernel
theorem dX9_gone_14 : decode cX9_gone 14 = .ok (.iconst 0, 1) := by decide +kernel
theorem dX9_gone_15 : decode cX9_gone 15 = .ok (.istore_n 2, 1) := by decide +kernel
theorem dX9_gone_16 : decode cX9_gone 16 = .ok (.iload_n 2, 1) := by decide +kernel
theorem dX9_gone_17 : decode cX9_gone 17 = .ok (.sipush 500, 3) := by decide +kernel
theorem dX9_gone_20 : decode cX9_gone 20 = .ok (.if_icmp .gt 20, 3) := by decide +kernel
theorem dX9_gone_23 : decode cX9_gone 23 = .ok (.aload_n 0, 1) := by decide +kernel
theorem dX9_gone_24 : decode cX9_gone 24 = .ok (.iload_n 1, 1) := by decide +kernel
theorem dX9_gone_25 : decode cX9_gone 25 = .ok (.iload_n 2, 1) := by decide +kernel
theorem dX9_gone_26 : decode cX9_gone 26 = .ok (.invokevirtual 231, 3) := by decide +kernel
theorem dX9_gone_29 : decode cX9_gone 29 = .ok (.ifCond .ne 5, 3) := by decide +kernel
theorem dX9_gone_32 : decode cX9_gone 32 = .ok (.iload_n 2, 1) := by decide +kernel
theorem dX9_gone_33 : decode cX9_gone 33 = .ok (.ireturn, 1) := by decide +kernel
theorem dX9_gone_34 : decode cX9_gone 34 = .ok (.iinc 2 1, 3) := by decide +kernel
theorem dX9_gone_37 : decode cX9_gone 37 = .ok (.goto (-21), 3) := by decide +kernel
theorem dX9_gone_40 : decode cX9_gone 40 = .ok (.iconst (-1), 1) := by decide +kernel
theorem dX9_gone_41 : decode cX9_gone 41 = .ok (.ireturn, 1) := by decide +kernel
theorem dJ9_floorDiv_7cf53_0 : decode cJ9_floorDiv_7cf53 0 = .ok (.iload_n 0, 1) := by decide +kernel
theorem dJ9_floorDiv_7cf53_1 : decode cJ9_floorDiv_7cf53 1 = .ok (.iload_n 1, 1) := by decide +kernel
theorem dJ9_floorDiv_7cf53_2 : decode cJ9_floorDiv_7cf53 2 = .ok (.idiv, 1) := by decide +kernel
theorem dJ9_floorDiv_7cf53_3 : decode cJ9_floorDiv_7cf53 3 = .ok (.istore_n 2, 1) := by decide +kernel
theorem dJ9_floorDiv_7cf53_4 : decode cJ9_floorDiv_7cf53 4 = .ok (.iload_n 0, 1) := by decide +kernel
theorem dJ9_floorDiv_7cf53_5 : decode cJ9_floorDiv_7cf53 5 = .ok (.iload_n 1, 1) := by decide +kernel
theorem dJ9_floorDiv_7cf53_6 : decode cJ9_floorDiv_7cf53 6 = .ok (.ixor, 1) := by decide +kernel
theorem dJ9_floorDiv_7cf53_7 : decode cJ9_floorDiv_7cf53 7 = .ok (.ifCond .ge 14, 3) := by decide +kernel
theorem dJ9_floorDiv_7cf53_10 : decode cJ9_floorDiv_7cf53 10 = .ok (.iload_n 2, 1) := by decide +kernel
theorem dJ9_floorDiv_7cf53_11 : decode cJ9_floorDiv_7cf53 11 = .ok (.iload_n 1, 1) := by decide +kernel
theorem dJ9_floorDiv_7cf53_12 : decode cJ9_floorDiv_7cf53 12 = .ok (.imul, 1) := by decide +kernel
theorem dJ9_floorDiv_7cf53_13 : decode cJ9_floorDiv_7cf53 13 = .ok (.iload_n 0, 1) := by decide +kernel
theorem dJ9_floorDiv_7cf53_14 : decode cJ9_floorDiv_7cf53 14 = .ok (.if_icmp .eq 7, 3) := by decide +kernel
theorem dJ9_floorDiv_7cf53_17 : decode cJ9_floorDiv_7cf53 17 = .ok (.iload_n 2, 1) := by decide +kernel
theorem dJ9_floorDiv_7cf53_18 : decode cJ9_floorDiv_7cf53 18 = .ok (.iconst 1, 1) := by decide +kernel
theorem dJ9_floorDiv_7cf53_19 : decode cJ9_floorDiv_7cf53 19 = .ok (.isub, 1) := by decide +kernel
theorem dJ9_floorDiv_7cf53_20 : decode cJ9_floorDiv_7cf53 20 = .ok (.ireturn, 1) := by decide +kernel
theorem dJ9_floorDiv_7cf53_21 : decode cJ9_floorDiv_7cf53 21 = .ok (.iload_n 2, 1) := by decide +kernel
theorem dJ9_floorDiv_7cf53_22 : decode cJ9_floorDiv_7cf53 22 = .ok (.ireturn, 1) := by decide +kernel
theorem dJ9_floorDiv_f86c9_0 : decode cJ9_floorDiv_f86c9 0 = .ok (.lload_n 0, 1) := by decide +kernel
theorem dJ9_floorDiv_f86c9_1 : decode cJ9_floorDiv_f86c9 1 = .ok (.lload_n 2, 1) := by decide +kernel
theorem dJ9_floorDiv_f86c9_2 : decode cJ9_floorDiv_f86c9 2 = .ok (.ldiv, 1) := by decide +kernel
theorem dJ9_floorDiv_f86c9_3 : decode cJ9_floorDiv_f86c9 3 = .ok (.lstore 4, 2) := by decide +kernel
theorem dJ9_floorDiv_f86c9_5 : decode cJ9_floorDiv_f86c9 5 = .ok (.lload_n 0, 1) := by decide +kernel
theorem dJ9_floorDiv_f86c9_6 : decode cJ9_floorDiv_f86c9 6 = .ok (.lload_n 2, 1) := by decide +kernel
theorem dJ9_floorDiv_f86c9_7 : decode cJ9_floorDiv_f86c9 7 = .ok (.lxor, 1) := by decide +kernel
theorem dJ9_floorDiv_f86c9_8 : decode cJ9_floorDiv_f86c9 8 = .ok (.lconst 0, 1) := by decide +kernel
theorem dJ9_floorDiv_f86c9_9 : decode cJ9_floorDiv_f86c9 9 = .ok (.lcmp, 1) := by decide +kernel
theorem dJ9_floorDiv_f86c9_10 : decode cJ9_floorDiv_f86c9 10 = .ok (.ifCond .ge 17, 3) := by decide +kernel
theorem dJ9_floorDiv_f86c9_13 : decode cJ9_floorDiv_f86c9 13 = .ok (.lload 4, 2) := by decide +kernel
theorem dJ9_floorDiv_f86c9_15 : decode cJ9_floorDiv_f86c9 15 = .ok (.lload_n 2, 1) := by decide +kernel
theorem dJ9_floorDiv_f86c9_16 : decode cJ9_floorDiv_f86c9 16 = .ok (.lmul, 1) := by decide +kernel
theorem dJ9_floorDiv_f86c9_17 : decode cJ9_floorDiv_f86c9 17 = .ok (.lload_n 0, 1) := by decide +kernel
theorem dJ9_floorDiv_f86c9_18 : decode cJ9_floorDiv_f86c9 18 = .ok (.lcmp, 1) := by decide +kernel
theorem dJ9_floorDiv_f86c9_19 : decode cJ9_floorDiv_f86c9 19 = .ok (.ifCond .eq 8, 3) := by decide +kernel
theorem dJ9_floorDiv_f86c9_22 : decode cJ9_floorDiv_f86c9 22 = .ok (.lload 4, 2) := by decide +kernel
theorem dJ9_floorDiv_f86c9_24 : decode cJ9_floorDiv_f86c9 24 = .ok (.lconst 1, 1) := by decide +kernel
theorem dJ9_floorDiv_f86c9_25 : decode cJ9_floorDiv_f86c9 25 = .ok (.lsub, 1) := by decide +kernel
theorem dJ9_floorDiv_f86c9_26 : decode cJ9_floorDiv_f86c9 26 = .ok (.lreturn, 1) := by decide +kernel
theorem dJ9_floorDiv_f86c9_27 : decode cJ9_floorDiv_f86c9 27 = .ok (.lload 4, 2) := by decide +kernel
theorem dJ9_floorDiv_f86c9_29 : decode cJ9_floorDiv_f86c9 29 = .ok (.lreturn, 1) := by decide +kernel
theorem dJ9_floorMod_f86c9_0 : decode cJ9_floorMod_f86c9 0 = .ok (.lload_n 0, 1) := by decide +kernel
theorem dJ9_floorMod_f86c9_1 : decode cJ9_floorMod_f86c9 1 = .ok (.lload_n 2, 1) := by decide +kernel
theorem dJ9_floorMod_f86c9_2 : decode cJ9_floorMod_f86c9 2 = .ok (.lrem, 1) := by decide +kernel
theorem dJ9_floorMod_f86c9_3 : decode cJ9_floorMod_f86c9 3 = .ok (.lstore 4, 2) := by decide +kernel
theorem dJ9_floorMod_f86c9_5 : decode cJ9_floorMod_f86c9 5 = .ok (.lload_n 0, 1) := by decide +kernel
theorem dJ9_floorMod_f86c9_6 : decode cJ9_floorMod_f86c9 6 = .ok (.lload_n 2, 1) := by decide +kernel
theorem dJ9_floorMod_f86c9_7 : decode cJ9_floorMod_f86c9 7 = .ok (.lxor, 1) := by decide +kernel
theorem dJ9_floorMod_f86c9_8 : decode cJ9_floorMod_f86c9 8 = .ok (.lconst 0, 1) := by decide +kernel
theorem dJ9_floorMod_f86c9_9 : decode cJ9_floorMod_f86c9 9 = .ok (.lcmp, 1) := by decide +kernel
theorem dJ9_floorMod_f86c9_10 : decode cJ9_floorMod_f86c9 10 = .ok (.ifCond .ge 15, 3) := by decide +kernel
theorem dJ9_floorMod_f86c9_13 : decode cJ9_floorMod_f86c9 13 = .ok (.lload 4, 2) := by decide +kernel
theorem dJ9_floorMod_f86c9_15 : decode cJ9_floorMod_f86c9 15 = .ok (.lconst 0, 1) := by decide +kernel
theorem dJ9_floorMod_f86c9_16 : decode cJ9_floorMod_f86c9 16 = .ok (.lcmp, 1) := by decide +kernel
theorem dJ9_floorMod_f86c9_17 : decode cJ9_floorMod_f86c9 17 = .ok (.ifCond .eq 8, 3) := by decide +kernel
theorem dJ9_floorMod_f86c9_20 : decode cJ9_floorMod_f86c9 20 = .ok (.lload 4, 2) := by decide +kernel
theorem dJ9_floorMod_f86c9_22 : decode cJ9_floorMod_f86c9 22 = .ok (.lload_n 2, 1) := by decide +kernel
theorem dJ9_floorMod_f86c9_23 : decode cJ9_floorMod_f86c9 23 = .ok (.ladd, 1) := by decide +kernel
theorem dJ9_floorMod_f86c9_24 : decode cJ9_floorMod_f86c9 24 = .ok (.lreturn, 1) := by decide +kernel
theorem dJ9_floorMod_f86c9_25 : decode cJ9_floorMod_f86c9 25 = .ok (.lload 4, 2) := by decide +kernel
theorem dJ9_floorMod_f86c9_27 : decode cJ9_floorMod_f86c9 27 = .ok (.lreturn, 1) := by decide +kernel
theorem dJ9_max_7cf53_0 : decode cJ9_max_7cf53 0 = .ok (.iload_n 0, 1) := by decide +kernel
theorem dJ9_max_7cf53_1 : decode cJ9_max_7cf53 1 = .ok (.iload_n 1, 1) := by decide +kernel
theorem dJ9_max_7cf53_2 : decode cJ9_max_7cf53 2 = .ok (.if_icmp .lt 7, 3) := by decide +kernel
theorem dJ9_max_7cf53_5 : decode cJ9_max_7cf53 5 = .ok (.iload_n 0, 1) := by decide +kernel
theorem dJ9_max_7cf53_6 : decode cJ9_max_7cf53 6 = .ok (.goto 4, 3) := by decide +kernel
theorem dJ9_max_7cf53_9 : decode cJ9_max_7cf53 9 = .ok (.iload_n 1, 1) := by decide +kernel
theorem dJ9_max_7cf53_10 : decode cJ9_max_7cf53 10 = .ok (.ireturn, 1) := by decide +kernel
theorem dJ9_min_7cf53_0 : decode cJ9_min_7cf53 0 = .ok (.iload_n 0, 1) := by decide +kernel
theorem dJ9_min_7cf53_1 : decode cJ9_min_7cf53 1 = .ok (.iload_n 1, 1) := by decide +kernel
theorem dJ9_min_7cf53_2 : decode cJ9_min_7cf53 2 = .ok (.if_icmp .gt 7, 3) := by decide +kernel
theorem dJ9_min_7cf53_5 : decode cJ9_min_7cf53 5 = .ok (.iload_n 0, 1) := by decide +kernel
theorem dJ9_min_7cf53_6 : decode cJ9_min_7cf53 6 = .ok (.goto 4, 3) := by decide +kernel
theorem dJ9_min_7cf53_9 : decode cJ9_min_7cf53 9 = .ok (.iload_n 1, 1) := by decide +kernel
theorem dJ9_min_7cf53_10 : decode cJ9_min_7cf53 10 = .ok (.ireturn, 1) := by decide +kernel
theorem dL_law_0 : decode cL_law 0 = .ok (.new 7, 3) := by decide +kernel
theorem dL_law_3 : decode cL_law 3 = .ok (.dup, 1) := by decide +kernel
theorem dL_law_4 : decode cL_law 4 = .ok (.invokespecial 9, 3) := by decide +kernel
theorem dL_law_7 : decode cL_law 7 = .ok (.astore_n 1, 1) := by decide +kernel
theorem dL_law_8 : decode cL_law 8 = .ok (.new 10, 3) := by decide +kernel
theorem dL_law_11 : decode cL_law 11 = .ok (.dup, 1) := by decide +kernel
theorem dL_law_12 : decode cL_law 12 = .ok (.invokespecial 12, 3) := by decide +kernel
theorem dL_law_15 : decode cL_law 15 = .ok (.astore_n 2, 1) := by decide +kernel
theorem dL_law_16 : decode cL_law 16 = .ok (.iconst 0, 1) := by decide +kernel
theorem dL_law_17 : decode cL_law 17 = .ok (.istore_n 3, 1) := by decide +kernel
theorem dL_law_18 : decode cL_law 18 = .ok (.iload_n 3, 1) := by decide +kernel
theorem dL_law_19 : decode cL_law 19 = .ok (.aload_n 0, 1) := by decide +kernel
theorem dL_law_20 : decode cL_law 20 = .ok (.arraylength, 1) := by decide +kernel
theorem dL_law_21 : decode cL_law 21 = .ok (.iconst 3, 1) := by decide +kernel
theorem dL_law_22 : decode cL_law 22 = .ok (.isub, 1) := by decide +kernel
theorem dL_law_23 : decode cL_law 23 = .ok (.if_icmp .gt 810, 3) := by decide +kernel
theorem dL_law_26 : decode cL_law 26 = .ok (.aload_n 0, 1) := by decide +kernel
theorem dL_law_27 : decode cL_law 27 = .ok (.iload_n 3, 1) := by decide +kernel
theorem dL_law_28 : decode cL_law 28 = .ok (.iaload, 1) := by decide +kernel
theorem dL_law_29 : decode cL_law 29 = .ok (.bipush 31, 2) := by decide +kernel
theorem dL_law_31 : decode cL_law 31 = .ok (.iand, 1) := by decide +kernel
theorem dL_law_32 : decode cL_law 32 = .ok (.tableswitch 795 0 23 #[112, 135, 188, 211, 244, 277, 310, 343, 356, 379, 412, 445, 478, 511, 534, 567, 590, 623, 647, 680, 703, 726, 749, 772], 112) := by decide +kernel
theorem dL_law_144 : decode cL_law 144 = .ok (.aload_n 1, 1) := by decide +kernel
theorem dL_law_145 : decode cL_law 145 = .ok (.aload_n 0, 1) := by decide +kernel
theorem dL_law_146 : decode cL_law 146 = .ok (.iload_n 3, 1) := by decide +kernel
theorem dL_law_147 : decode cL_law 147 = .ok (.iconst 1, 1) := by decide +kernel
theorem dL_law_148 : decode cL_law 148 = .ok (.iadd, 1) := by decide +kernel
theorem dL_law_149 : decode cL_law 149 = .ok (.iaload, 1) := by decide +kernel
theorem dL_law_150 : decode cL_law 150 = .ok (.invokevirtual 13, 3) := by decide +kernel
theorem dL_law_153 : decode cL_law 153 = .ok (.aload_n 2, 1) := by decide +kernel
theorem dL_law_154 : decode cL_law 154 = .ok (.aload_n 0, 1) := by decide +kernel
theorem dL_law_155 : decode cL_law 155 = .ok (.iload_n 3, 1) := by decide +kernel
theorem dL_law_156 : decode cL_law 156 = .ok (.iconst 1, 1) := by decide +kernel
theorem dL_law_157 : decode cL_law 157 = .ok (.iadd, 1) := by decide +kernel
theorem dL_law_158 : decode cL_law 158 = .ok (.iaload, 1) := by decide +kernel
theorem dL_law_159 : decode cL_law 159 = .ok (.invokevirtual 17, 3) := by decide +kernel
theorem dL_law_162 : decode cL_law 162 = .ok (.if_icmp .eq 665, 3) := by decide +kernel
theorem dL_law_165 : decode cL_law 165 = .ok (.iconst 0, 1) := by decide +kernel
theorem dL_law_166 : decode cL_law 166 = .ok (.ireturn, 1) := by decide +kernel
theorem dL_law_167 : decode cL_law 167 = .ok (.aload_n 1, 1) := by decide +kernel
theorem dL_law_168 : decode cL_law 168 = .ok (.aload_n 0, 1) := by decide +kernel
theorem dL_law_169 : decode cL_law 169 = .ok (.iload_n 3, 1) := by decide +kernel
theorem dL_law_170 : decode cL_law 170 = .ok (.iconst 1, 1) := by decide +kernel
theorem dL_law_171 : decode cL_law 171 = .ok (.iadd, 1) := by decide +kernel
theorem dL_law_172 : decode cL_law 172 = .ok (.iaload, 1) := by decide +kernel
theorem dL_law_173 : decode cL_law 173 = .ok (.i2l, 1) := by decide +kernel
theorem dL_law_174 : decode cL_law 174 = .ok (.bipush 32, 2) := by decide +kernel
theorem dL_law_176 : decode cL_law 176 = .ok (.lshl, 1) := by decide +kernel
theorem dL_law_177 : decode cL_law 177 = .ok (.aload_n 0, 1) := by decide +kernel
theorem dL_law_178 : decode cL_law 178 = .ok (.iload_n 3, 1) := by decide +kernel
theorem dL_law_179 : decode cL_law 179 = .ok (.iconst 2, 1) := by decide +kernel
theorem dL_law_180 : decode cL_law 180 = .ok (.iadd, 1) := by decide +kernel
theorem dL_law_181 : decode cL_law 181 = .ok (.iaload, 1) := by decide +kernel
theorem dL_law_182 : decode cL_law 182 = .ok (.i2l, 1) := by decide +kernel
theorem dL_law_183 : decode cL_law 183 = .ok (.ldc2_w 18, 3) := by decide +kernel
theorem dL_law_186 : decode cL_law 186 = .ok (.land, 1) := by decide +kernel
theorem dL_law_187 : decode cL_law 187 = .ok (.lor, 1) := by decide +kernel
theorem dL_law_188 : decode cL_law 188 = .ok (.invokevirtual 20, 3) := by decide +kernel
theorem dL_law_191 : decode cL_law 191 = .ok (.aload_n 2, 1) := by decide +kernel
theorem dL_law_192 : decode cL_law 192 = .ok (.aload_n 0, 1) := by decide +kernel
theorem dL_law_193 : decode cL_law 193 = .ok (.iload_n 3, 1) := by decide +kernel
theorem dL_law_194 : decode cL_law 194 = .ok (.iconst 1, 1) := by decide +kernel
theorem dL_law_195 : decode cL_law 195 = .ok (.iadd, 1) := by decide +kernel
theorem dL_law_196 : decode cL_law 196 = .ok (.iaload, 1) := by decide +kernel
theorem dL_law_197 : decode cL_law 197 = .ok (.i2l, 1) := by decide +kernel
theorem dL_law_198 : decode cL_law 198 = .ok (.bipush 32, 2) := by decide +kernel
theorem dL_law_200 : decode cL_law 200 = .ok (.lshl, 1) := by decide +kernel
theorem dL_law_201 : decode cL_law 201 = .ok (.aload_n 0, 1) := by decide +kernel
theorem dL_law_202 : decode cL_law 202 = .ok (.iload_n 3, 1) := by decide +kernel
theorem dL_law_203 : decode cL_law 203 = .ok (.iconst 2, 1) := by decide +kernel
theorem dL_law_204 : decode cL_law 204 = .ok (.iadd, 1) := by decide +kernel
theorem dL_law_205 : decode cL_law 205 = .ok (.iaload, 1) := by decide +kernel
theorem dL_law_206 : decode cL_law 206 = .ok (.i2l, 1) := by decide +kernel
theorem dL_law_207 : decode cL_law 207 = .ok (.ldc2_w 18, 3) := by decide +kernel
theorem dL_law_210 : decode cL_law 210 = .ok (.land, 1) := by decide +kernel
theorem dL_law_211 : decode cL_law 211 = .ok (.lor, 1) := by decide +kernel
theorem dL_law_212 : decode cL_law 212 = .ok (.invokevirtual 24, 3) := by decide +kernel
theorem dL_law_215 : decode cL_law 215 = .ok (.if_icmp .eq 612, 3) := by decide +kernel
theorem dL_law_218 : decode cL_law 218 = .ok (.iconst 0, 1) := by decide +kernel
theorem dL_law_219 : decode cL_law 219 = .ok (.ireturn, 1) := by decide +kernel
theorem dL_law_220 : decode cL_law 220 = .ok (.aload_n 1, 1) := by decide +kernel
theorem dL_law_221 : decode cL_law 221 = .ok (.aload_n 0, 1) := by decide +kernel
theorem dL_law_222 : decode cL_law 222 = .ok (.iload_n 3, 1) := by decide +kernel
theorem dL_law_223 : decode cL_law 223 = .ok (.iconst 1, 1) := by decide +kernel
theorem dL_law_224 : decode cL_law 224 = .ok (.iadd, 1) := by decide +kernel
theorem dL_law_225 : decode cL_law 225 = .ok (.iaload, 1) := by decide +kernel
theorem dL_law_226 : decode cL_law 226 = .ok (.invokevirtual 25, 3) := by decide +kernel
theorem dL_law_229 : decode cL_law 229 = .ok (.aload_n 2, 1) := by decide +kernel
theorem dL_law_230 : decode cL_law 230 = .ok (.aload_n 0, 1) := by decide +kernel
theorem dL_law_231 : decode cL_law 231 = .ok (.iload_n 3, 1) := by decide +kernel
theorem dL_law_232 : decode cL_law 232 = .ok (.iconst 1, 1) := by decide +kernel
theorem dL_law_233 : decode cL_law 233 = .ok (.iadd, 1) := by decide +kernel
theorem dL_law_234 : decode cL_law 234 = .ok (.iaload, 1) := by decide +kernel
theorem dL_law_235 : decode cL_law 235 = .ok (.invokevirtual 28, 3) := by decide +kernel
theorem dL_law_238 : decode cL_law 238 = .ok (.if_icmp .eq 589, 3) := by decide +kernel
theorem dL_law_241 : decode cL_law 241 = .ok (.iconst 0, 1) := by decide +kernel
theorem dL_law_242 : decode cL_law 242 = .ok (.ireturn, 1) := by decide +kernel
theorem dL_law_243 : decode cL_law 243 = .ok (.aload_n 1, 1) := by decide +kernel
theorem dL_law_244 : decode cL_law 244 = .ok (.aload_n 0, 1) := by decide +kernel
theorem dL_law_245 : decode cL_law 245 = .ok (.iload_n 3, 1) := by decide +kernel
theorem dL_law_246 : decode cL_law 246 = .ok (.iconst 1, 1) := by decide +kernel
theorem dL_law_247 : decode cL_law 247 = .ok (.iadd, 1) := by decide +kernel
theorem dL_law_248 : decode cL_law 248 = .ok (.iaload, 1) := by decide +kernel
theorem dL_law_249 : decode cL_law 249 = .ok (.aload_n 0, 1) := by decide +kernel
theorem dL_law_250 : decode cL_law 250 = .ok (.iload_n 3, 1) := by decide +kernel
theorem dL_law_251 : decode cL_law 251 = .ok (.iconst 2, 1) := by decide +kernel
theorem dL_law_252 : decode cL_law 252 = .ok (.iadd, 1) := by decide +kernel
theorem dL_law_253 : decode cL_law 253 = .ok (.iaload, 1) := by decide +kernel
theorem dL_law_254 : decode cL_law 254 = .ok (.invokevirtual 29, 3) := by decide +kernel
theorem dL_law_257 : decode cL_law 257 = .ok (.aload_n 2, 1) := by decide +kernel
theorem dL_law_258 : decode cL_law 258 = .ok (.aload_n 0, 1) := by decide +kernel
theorem dL_law_259 : decode cL_law 259 = .ok (.iload_n 3, 1) := by decide +kernel
theorem dL_law_260 : decode cL_law 260 = .ok (.iconst 1, 1) := by decide +kernel
theorem dL_law_261 : decode cL_law 261 = .ok (.iadd, 1) := by decide +kernel
theorem dL_law_262 : decode cL_law 262 = .ok (.iaload, 1) := by decide +kernel
theorem dL_law_263 : decode cL_law 263 = .ok (.aload_n 0, 1) := by decide +kernel
theorem dL_law_264 : decode cL_law 264 = .ok (.iload_n 3, 1) := by decide +kernel
theorem dL_law_265 : decode cL_law 265 = .ok (.iconst 2, 1) := by decide +kernel
theorem dL_law_266 : decode cL_law 266 = .ok (.iadd, 1) := by decide +kernel
theorem dL_law_267 : decode cL_law 267 = .ok (.iaload, 1) := by decide +kernel
theorem dL_law_268 : decode cL_law 268 = .ok (.invokevirtual 33, 3) := by decide +kernel
theorem dL_law_271 : decode cL_law 271 = .ok (.if_icmp .eq 556, 3) := by decide +kernel
theorem dL_law_274 : decode cL_law 274 = .ok (.iconst 0, 1) := by decide +kernel
theorem dL_law_275 : decode cL_law 275 = .ok (.ireturn, 1) := by decide +kernel
theorem dL_law_276 : decode cL_law 276 = .ok (.aload_n 1, 1) := by decide +kernel
theorem dL_law_277 : decode cL_law 277 = .ok (.aload_n 0, 1) := by decide +kernel
theorem dL_law_278 : decode cL_law 278 = .ok (.iload_n 3, 1) := by decide +kernel
theorem dL_law_279 : decode cL_law 279 = .ok (.iconst 1, 1) := by decide +kernel
theorem dL_law_280 : decode cL_law 280 = .ok (.iadd, 1) := by decide +kernel
theorem dL_law_281 : decode cL_law 281 = .ok (.iaload, 1) := by decide +kernel
theorem dL_law_282 : decode cL_law 282 = .ok (.aload_n 0, 1) := by decide +kernel
theorem dL_law_283 : decode cL_law 283 = .ok (.iload_n 3, 1) := by decide +kernel
theorem dL_law_284 : decode cL_law 284 = .ok (.iconst 2, 1) := by decide +kernel
theorem dL_law_285 : decode cL_law 285 = .ok (.iadd, 1) := by decide +kernel
theorem dL_law_286 : decode cL_law 286 = .ok (.iaload, 1) := by decide +kernel
theorem dL_law_287 : decode cL_law 287 = .ok (.invokevirtual 34, 3) := by decide +kernel
theorem dL_law_290 : decode cL_law 290 = .ok (.aload_n 2, 1) := by decide +kernel
theorem dL_law_291 : decode cL_law 291 = .ok (.aload_n 0, 1) := by decide +kernel
theorem dL_law_292 : decode cL_law 292 = .ok (.iload_n 3, 1) := by decide +kernel
theorem dL_law_293 : decode cL_law 293 = .ok (.iconst 1, 1) := by decide +kernel
theorem dL_law_294 : decode cL_law 294 = .ok (.iadd, 1) := by decide +kernel
theorem dL_law_295 : decode cL_law 295 = .ok (.iaload, 1) := by decide +kernel
theorem dL_law_296 : decode cL_law 296 = .ok (.aload_n 0, 1) := by decide +kernel
theorem dL_law_297 : decode cL_law 297 = .ok (.iload_n 3, 1) := by decide +kernel
theorem dL_law_298 : decode cL_law 298 = .ok (.iconst 2, 1) := by decide +kernel
theorem dL_law_299 : decode cL_law 299 = .ok (.iadd, 1) := by decide +kernel
theorem dL_law_300 : decode cL_law 300 = .ok (.iaload, 1) := by decide +kernel
theorem dL_law_301 : decode cL_law 301 = .ok (.invokevirtual 37, 3) := by decide +kernel
theorem dL_law_304 : decode cL_law 304 = .ok (.if_icmp .eq 523, 3) := by decide +kernel
theorem dL_law_307 : decode cL_law 307 = .ok (.iconst 0, 1) := by decide +kernel
theorem dL_law_308 : decode cL_law 308 = .ok (.ireturn, 1) := by decide +kernel
theorem dL_law_309 : decode cL_law 309 = .ok (.aload_n 1, 1) := by decide +kernel
theorem dL_law_310 : decode cL_law 310 = .ok (.aload_n 0, 1) := by decide +kernel
theorem dL_law_311 : decode cL_law 311 = .ok (.iload_n 3, 1) := by decide +kernel
theorem dL_law_312 : decode cL_law 312 = .ok (.iconst 1, 1) := by decide +kernel
theorem dL_law_313 : decode cL_law 313 = .ok (.iadd, 1) := by decide +kernel
theorem dL_law_314 : decode cL_law 314 = .ok (.iaload, 1) := by decide +kernel
theorem dL_law_315 : decode cL_law 315 = .ok (.aload_n 0, 1) := by decide +kernel
theorem dL_law_316 : decode cL_law 316 = .ok (.iload_n 3, 1) := by decide +kernel
theorem dL_law_317 : decode cL_law 317 = .ok (.iconst 2, 1) := by decide +kernel
theorem dL_law_318 : decode cL_law 318 = .ok (.iadd, 1) := by decide +kernel
theorem dL_law_319 : decode cL_law 319 = .ok (.iaload, 1) := by decide +kernel
theorem dL_law_320 : decode cL_law 320 = .ok (.invokevirtual 38, 3) := by decide +kernel
theorem dL_law_323 : decode cL_law 323 = .ok (.aload_n 2, 1) := by decide +kernel
theorem dL_law_324 : decode cL_law 324 = .ok (.aload_n 0, 1) := by decide +kernel
theorem dL_law_325 : decode cL_law 325 = .ok (.iload_n 3, 1) := by decide +kernel
theorem dL_law_326 : decode cL_law 326 = .ok (.iconst 1, 1) := by decide +kernel
theorem dL_law_327 : decode cL_law 327 = .ok (.iadd, 1) := by decide +kernel
theorem dL_law_328 : decode cL_law 328 = .ok (.iaload, 1) := by decide +kernel
theorem dL_law_329 : decode cL_law 329 = .ok (.aload_n 0, 1) := by decide +kernel
theorem dL_law_330 : decode cL_law 330 = .ok (.iload_n 3, 1) := by decide +kernel
theorem dL_law_331 : decode cL_law 331 = .ok (.iconst 2, 1) := by decide +kernel
theorem dL_law_332 : decode cL_law 332 = .ok (.iadd, 1) := by decide +kernel
theorem dL_law_333 : decode cL_law 333 = .ok (.iaload, 1) := by decide +kernel
theorem dL_law_334 : decode cL_law 334 = .ok (.invokevirtual 41, 3) := by decide +kernel
theorem dL_law_337 : decode cL_law 337 = .ok (.if_icmp .eq 490, 3) := by decide +kernel
theorem dL_law_340 : decode cL_law 340 = .ok (.iconst 0, 1) := by decide +kernel
theorem dL_law_341 : decode cL_law 341 = .ok (.ireturn, 1) := by decide +kernel
theorem dL_law_342 : decode cL_law 342 = .ok (.aload_n 1, 1) := by decide +kernel
theorem dL_law_343 : decode cL_law 343 = .ok (.aload_n 0, 1) := by decide +kernel
theorem dL_law_344 : decode cL_law 344 = .ok (.iload_n 3, 1) := by decide +kernel
theorem dL_law_345 : decode cL_law 345 = .ok (.iconst 1, 1) := by decide +kernel
theorem dL_law_346 : decode cL_law 346 = .ok (.iadd, 1) := by decide +kernel
theorem dL_law_347 : decode cL_law 347 = .ok (.iaload, 1) := by decide +kernel
theorem dL_law_348 : decode cL_law 348 = .ok (.aload_n 0, 1) := by decide +kernel
theorem dL_law_349 : decode cL_law 349 = .ok (.iload_n 3, 1) := by decide +kernel
theorem dL_law_350 : decode cL_law 350 = .ok (.iconst 2, 1) := by decide +kernel
theorem dL_law_351 : decode cL_law 351 = .ok (.iadd, 1) := by decide +kernel
theorem dL_law_352 : decode cL_law 352 = .ok (.iaload, 1) := by decide +kernel
theorem dL_law_353 : decode cL_law 353 = .ok (.invokevirtual 42, 3) := by decide +kernel
theorem dL_law_356 : decode cL_law 356 = .ok (.aload_n 2, 1) := by decide +kernel
theorem dL_law_357 : decode cL_law 357 = .ok (.aload_n 0, 1) := by decide +kernel
theorem dL_law_358 : decode cL_law 358 = .ok (.iload_n 3, 1) := by decide +kernel
theorem dL_law_359 : decode cL_law 359 = .ok (.iconst 1, 1) := by decide +kernel
theorem dL_law_360 : decode cL_law 360 = .ok (.iadd, 1) := by decide +kernel
theorem dL_law_361 : decode cL_law 361 = .ok (.iaload, 1) := by decide +kernel
theorem dL_law_362 : decode cL_law 362 = .ok (.aload_n 0, 1) := by decide +kernel
theorem dL_law_363 : decode cL_law 363 = .ok (.iload_n 3, 1) := by decide +kernel
theorem dL_law_364 : decode cL_law 364 = .ok (.iconst 2, 1) := by decide +kernel
theorem dL_law_365 : decode cL_law 365 = .ok (.iadd, 1) := by decide +kernel
theorem dL_law_366 : decode cL_law 366 = .ok (.iaload, 1) := by decide +kernel
theorem dL_law_367 : decode cL_law 367 = .ok (.invokevirtual 46, 3) := by decide +kernel
theorem dL_law_370 : decode cL_law 370 = .ok (.if_icmp .eq 457, 3) := by decide +kernel
theorem dL_law_373 : decode cL_law 373 = .ok (.iconst 0, 1) := by decide +kernel
theorem dL_law_374 : decode cL_law 374 = .ok (.ireturn, 1) := by decide +kernel
theorem dL_law_375 : decode cL_law 375 = .ok (.aload_n 1, 1) := by decide +kernel
theorem dL_law_376 : decode cL_law 376 = .ok (.invokevirtual 47, 3) := by decide +kernel
theorem dL_law_379 : decode cL_law 379 = .ok (.aload_n 2, 1) := by decide +kernel
theorem dL_law_380 : decode cL_law 380 = .ok (.invokevirtual 51, 3) := by decide +kernel
theorem dL_law_383 : decode cL_law 383 = .ok (.if_icmp .eq 444, 3) := by decide +kernel
theorem dL_law_386 : decode cL_law 386 = .ok (.iconst 0, 1) := by decide +kernel
theorem dL_law_387 : decode cL_law 387 = .ok (.ireturn, 1) := by decide +kernel
theorem dL_law_388 : decode cL_law 388 = .ok (.aload_n 1, 1) := by decide +kernel
theorem dL_law_389 : decode cL_law 389 = .ok (.aload_n 0, 1) := by decide +kernel
theorem dL_law_390 : decode cL_law 390 = .ok (.iload_n 3, 1) := by decide +kernel
theorem dL_law_391 : decode cL_law 391 = .ok (.iconst 1, 1) := by decide +kernel
theorem dL_law_392 : decode cL_law 392 = .ok (.iadd, 1) := by decide +kernel
theorem dL_law_393 : decode cL_law 393 = .ok (.iaload, 1) := by decide +kernel
theorem dL_law_394 : decode cL_law 394 = .ok (.invokevirtual 52, 3) := by decide +kernel
theorem dL_law_397 : decode cL_law 397 = .ok (.aload_n 2, 1) := by decide +kernel
theorem dL_law_398 : decode cL_law 398 = .ok (.aload_n 0, 1) := by decide +kernel
theorem dL_law_399 : decode cL_law 399 = .ok (.iload_n 3, 1) := by decide +kernel
theorem dL_law_400 : decode cL_law 400 = .ok (.iconst 1, 1) := by decide +kernel
theorem dL_law_401 : decode cL_law 401 = .ok (.iadd, 1) := by decide +kernel
theorem dL_law_402 : decode cL_law 402 = .ok (.iaload, 1) := by decide +kernel
theorem dL_law_403 : decode cL_law 403 = .ok (.invokevirtual 55, 3) := by decide +kernel
theorem dL_law_406 : decode cL_law 406 = .ok (.if_icmp .eq 421, 3) := by decide +kernel
theorem dL_law_409 : decode cL_law 409 = .ok (.iconst 0, 1) := by decide +kernel
theorem dL_law_410 : decode cL_law 410 = .ok (.ireturn, 1) := by decide +kernel
theorem dL_law_411 : decode cL_law 411 = .ok (.aload_n 1, 1) := by decide +kernel
theorem dL_law_412 : decode cL_law 412 = .ok (.aload_n 0, 1) := by decide +kernel
theorem dL_law_413 : decode cL_law 413 = .ok (.iload_n 3, 1) := by decide +kernel
theorem dL_law_414 : decode cL_law 414 = .ok (.iconst 1, 1) := by decide +kernel
theorem dL_law_415 : decode cL_law 415 = .ok (.iadd, 1) := by decide +kernel
theorem dL_law_416 : decode cL_law 416 = .ok (.iaload, 1) := by decide +kernel
theorem dL_law_417 : decode cL_law 417 = .ok (.aload_n 0, 1) := by decide +kernel
theorem dL_law_418 : decode cL_law 418 = .ok (.iload_n 3, 1) := by decide +kernel
theorem dL_law_419 : decode cL_law 419 = .ok (.iconst 2, 1) := by decide +kernel
theorem dL_law_420 : decode cL_law 420 = .ok (.iadd, 1) := by decide +kernel
theorem dL_law_421 : decode cL_law 421 = .ok (.iaload, 1) := by decide +kernel
theorem dL_law_422 : decode cL_law 422 = .ok (.invokevirtual 56, 3) := by decide +kernel
theorem dL_law_425 : decode cL_law 425 = .ok (.aload_n 2, 1) := by decide +kernel
theorem dL_law_426 : decode cL_law 426 = .ok (.aload_n 0, 1) := by decide +kernel
theorem dL_law_427 : decode cL_law 427 = .ok (.iload_n 3, 1) := by decide +kernel
theorem dL_law_428 : decode cL_law 428 = .ok (.iconst 1, 1) := by decide +kernel
theorem dL_law_429 : decode cL_law 429 = .ok (.iadd, 1) := by decide +kernel
theorem dL_law_430 : decode cL_law 430 = .ok (.iaload, 1) := by decide +kernel
theorem dL_law_431 : decode cL_law 431 = .ok (.aload_n 0, 1) := by decide +kernel
theorem dL_law_432 : decode cL_law 432 = .ok (.iload_n 3, 1) := by decide +kernel
theorem dL_law_433 : decode cL_law 433 = .ok (.iconst 2, 1) := by decide +kernel
theorem dL_law_434 : decode cL_law 434 = .ok (.iadd, 1) := by decide +kernel
theorem dL_law_435 : decode cL_law 435 = .ok (.iaload, 1) := by decide +kernel
theorem dL_law_436 : decode cL_law 436 = .ok (.invokevirtual 59, 3) := by decide +kernel
theorem dL_law_439 : decode cL_law 439 = .ok (.if_icmp .eq 388, 3) := by decide +kernel
theorem dL_law_442 : decode cL_law 442 = .ok (.iconst 0, 1) := by decide +kernel
theorem dL_law_443 : decode cL_law 443 = .ok (.ireturn, 1) := by decide +kernel
theorem dL_law_444 : decode cL_law 444 = .ok (.aload_n 1, 1) := by decide +kernel
theorem dL_law_445 : decode cL_law 445 = .ok (.aload_n 0, 1) := by decide +kernel
theorem dL_law_446 : decode cL_law 446 = .ok (.iload_n 3, 1) := by decide +kernel
theorem dL_law_447 : decode cL_law 447 = .ok (.iconst 1, 1) := by decide +kernel
theorem dL_law_448 : decode cL_law 448 = .ok (.iadd, 1) := by decide +kernel
theorem dL_law_449 : decode cL_law 449 = .ok (.iaload, 1) := by decide +kernel
theorem dL_law_450 : decode cL_law 450 = .ok (.aload_n 0, 1) := by decide +kernel
theorem dL_law_451 : decode cL_law 451 = .ok (.iload_n 3, 1) := by decide +kernel
theorem dL_law_452 : decode cL_law 452 = .ok (.iconst 2, 1) := by decide +kernel
theorem dL_law_453 : decode cL_law 453 = .ok (.iadd, 1) := by decide +kernel
theorem dL_law_454 : decode cL_law 454 = .ok (.iaload, 1) := by decide +kernel
theorem dL_law_455 : decode cL_law 455 = .ok (.invokevirtual 60, 3) := by decide +kernel
theorem dL_law_458 : decode cL_law 458 = .ok (.aload_n 2, 1) := by decide +kernel
theorem dL_law_459 : decode cL_law 459 = .ok (.aload_n 0, 1) := by decide +kernel
theorem dL_law_460 : decode cL_law 460 = .ok (.iload_n 3, 1) := by decide +kernel
theorem dL_law_461 : decode cL_law 461 = .ok (.iconst 1, 1) := by decide +kernel
theorem dL_law_462 : decode cL_law 462 = .ok (.iadd, 1) := by decide +kernel
theorem dL_law_463 : decode cL_law 463 = .ok (.iaload, 1) := by decide +kernel
theorem dL_law_464 : decode cL_law 464 = .ok (.aload_n 0, 1) := by decide +kernel
theorem dL_law_465 : decode cL_law 465 = .ok (.iload_n 3, 1) := by decide +kernel
theorem dL_law_466 : decode cL_law 466 = .ok (.iconst 2, 1) := by decide +kernel
theorem dL_law_467 : decode cL_law 467 = .ok (.iadd, 1) := by decide +kernel
theorem dL_law_468 : decode cL_law 468 = .ok (.iaload, 1) := by decide +kernel
theorem dL_law_469 : decode cL_law 469 = .ok (.invokevirtual 63, 3) := by decide +kernel
theorem dL_law_472 : decode cL_law 472 = .ok (.if_icmp .eq 355, 3) := by decide +kernel
theorem dL_law_475 : decode cL_law 475 = .ok (.iconst 0, 1) := by decide +kernel
theorem dL_law_476 : decode cL_law 476 = .ok (.ireturn, 1) := by decide +kernel
theorem dL_law_477 : decode cL_law 477 = .ok (.aload_n 1, 1) := by decide +kernel
theorem dL_law_478 : decode cL_law 478 = .ok (.aload_n 0, 1) := by decide +kernel
theorem dL_law_479 : decode cL_law 479 = .ok (.iload_n 3, 1) := by decide +kernel
theorem dL_law_480 : decode cL_law 480 = .ok (.iconst 1, 1) := by decide +kernel
theorem dL_law_481 : decode cL_law 481 = .ok (.iadd, 1) := by decide +kernel
theorem dL_law_482 : decode cL_law 482 = .ok (.iaload, 1) := by decide +kernel
theorem dL_law_483 : decode cL_law 483 = .ok (.aload_n 0, 1) := by decide +kernel
theorem dL_law_484 : decode cL_law 484 = .ok (.iload_n 3, 1) := by decide +kernel
theorem dL_law_485 : decode cL_law 485 = .ok (.iconst 2, 1) := by decide +kernel
theorem dL_law_486 : decode cL_law 486 = .ok (.iadd, 1) := by decide +kernel
theorem dL_law_487 : decode cL_law 487 = .ok (.iaload, 1) := by decide +kernel
theorem dL_law_488 : decode cL_law 488 = .ok (.invokevirtual 64, 3) := by decide +kernel
theorem dL_law_491 : decode cL_law 491 = .ok (.aload_n 2, 1) := by decide +kernel
theorem dL_law_492 : decode cL_law 492 = .ok (.aload_n 0, 1) := by decide +kernel
theorem dL_law_493 : decode cL_law 493 = .ok (.iload_n 3, 1) := by decide +kernel
theorem dL_law_494 : decode cL_law 494 = .ok (.iconst 1, 1) := by decide +kernel
theorem dL_law_495 : decode cL_law 495 = .ok (.iadd, 1) := by decide +kernel
theorem dL_law_496 : decode cL_law 496 = .ok (.iaload, 1) := by decide +kernel
theorem dL_law_497 : decode cL_law 497 = .ok (.aload_n 0, 1) := by decide +kernel
theorem dL_law_498 : decode cL_law 498 = .ok (.iload_n 3, 1) := by decide +kernel
theorem dL_law_499 : decode cL_law 499 = .ok (.iconst 2, 1) := by decide +kernel
theorem dL_law_500 : decode cL_law 500 = .ok (.iadd, 1) := by decide +kernel
theorem dL_law_501 : decode cL_law 501 = .ok (.iaload, 1) := by decide +kernel
theorem dL_law_502 : decode cL_law 502 = .ok (.invokevirtual 67, 3) := by decide +kernel
theorem dL_law_505 : decode cL_law 505 = .ok (.if_icmp .eq 322, 3) := by decide +kernel
theorem dL_law_508 : decode cL_law 508 = .ok (.iconst 0, 1) := by decide +kernel
theorem dL_law_509 : decode cL_law 509 = .ok (.ireturn, 1) := by decide +kernel
theorem dL_law_510 : decode cL_law 510 = .ok (.aload_n 1, 1) := by decide +kernel
theorem dL_law_511 : decode cL_law 511 = .ok (.aload_n 0, 1) := by decide +kernel
theorem dL_law_512 : decode cL_law 512 = .ok (.iload_n 3, 1) := by decide +kernel
theorem dL_law_513 : decode cL_law 513 = .ok (.iconst 1, 1) := by decide +kernel
theorem dL_law_514 : decode cL_law 514 = .ok (.iadd, 1) := by decide +kernel
theorem dL_law_515 : decode cL_law 515 = .ok (.iaload, 1) := by decide +kernel
theorem dL_law_516 : decode cL_law 516 = .ok (.aload_n 0, 1) := by decide +kernel
theorem dL_law_517 : decode cL_law 517 = .ok (.iload_n 3, 1) := by decide +kernel
theorem dL_law_518 : decode cL_law 518 = .ok (.iconst 2, 1) := by decide +kernel
theorem dL_law_519 : decode cL_law 519 = .ok (.iadd, 1) := by decide +kernel
theorem dL_law_520 : decode cL_law 520 = .ok (.iaload, 1) := by decide +kernel
theorem dL_law_521 : decode cL_law 521 = .ok (.invokevirtual 68, 3) := by decide +kernel
theorem dL_law_524 : decode cL_law 524 = .ok (.aload_n 2, 1) := by decide +kernel
theorem dL_law_525 : decode cL_law 525 = .ok (.aload_n 0, 1) := by decide +kernel
theorem dL_law_526 : decode cL_law 526 = .ok (.iload_n 3, 1) := by decide +kernel
theorem dL_law_527 : decode cL_law 527 = .ok (.iconst 1, 1) := by decide +kernel
theorem dL_law_528 : decode cL_law 528 = .ok (.iadd, 1) := by decide +kernel
theorem dL_law_529 : decode cL_law 529 = .ok (.iaload, 1) := by decide +kernel
theorem dL_law_530 : decode cL_law 530 = .ok (.aload_n 0, 1) := by decide +kernel
theorem dL_law_531 : decode cL_law 531 = .ok (.iload_n 3, 1) := by decide +kernel
theorem dL_law_532 : decode cL_law 532 = .ok (.iconst 2, 1) := by decide +kernel
theorem dL_law_533 : decode cL_law 533 = .ok (.iadd, 1) := by decide +kernel
theorem dL_law_534 : decode cL_law 534 = .ok (.iaload, 1) := by decide +kernel
theorem dL_law_535 : decode cL_law 535 = .ok (.invokevirtual 71, 3) := by decide +kernel
theorem dL_law_538 : decode cL_law 538 = .ok (.if_icmp .eq 289, 3) := by decide +kernel
theorem dL_law_541 : decode cL_law 541 = .ok (.iconst 0, 1) := by decide +kernel
theorem dL_law_542 : decode cL_law 542 = .ok (.ireturn, 1) := by decide +kernel
theorem dL_law_543 : decode cL_law 543 = .ok (.aload_n 1, 1) := by decide +kernel
theorem dL_law_544 : decode cL_law 544 = .ok (.aload_n 0, 1) := by decide +kernel
theorem dL_law_545 : decode cL_law 545 = .ok (.iload_n 3, 1) := by decide +kernel
theorem dL_law_546 : decode cL_law 546 = .ok (.iconst 1, 1) := by decide +kernel
theorem dL_law_547 : decode cL_law 547 = .ok (.iadd, 1) := by decide +kernel
theorem dL_law_548 : decode cL_law 548 = .ok (.iaload, 1) := by decide +kernel
theorem dL_law_549 : decode cL_law 549 = .ok (.invokevirtual 72, 3) := by decide +kernel
theorem dL_law_552 : decode cL_law 552 = .ok (.aload_n 2, 1) := by decide +kernel
theorem dL_law_553 : decode cL_law 553 = .ok (.aload_n 0, 1) := by decide +kernel
theorem dL_law_554 : decode cL_law 554 = .ok (.iload_n 3, 1) := by decide +kernel
theorem dL_law_555 : decode cL_law 555 = .ok (.iconst 1, 1) := by decide +kernel
theorem dL_law_556 : decode cL_law 556 = .ok (.iadd, 1) := by decide +kernel
theorem dL_law_557 : decode cL_law 557 = .ok (.iaload, 1) := by decide +kernel
theorem dL_law_558 : decode cL_law 558 = .ok (.invokevirtual 75, 3) := by decide +kernel
theorem dL_law_561 : decode cL_law 561 = .ok (.if_icmp .eq 266, 3) := by decide +kernel
theorem dL_law_564 : decode cL_law 564 = .ok (.iconst 0, 1) := by decide +kernel
theorem dL_law_565 : decode cL_law 565 = .ok (.ireturn, 1) := by decide +kernel
theorem dL_law_566 : decode cL_law 566 = .ok (.aload_n 1, 1) := by decide +kernel
theorem dL_law_567 : decode cL_law 567 = .ok (.aload_n 0, 1) := by decide +kernel
theorem dL_law_568 : decode cL_law 568 = .ok (.iload_n 3, 1) := by decide +kernel
theorem dL_law_569 : decode cL_law 569 = .ok (.iconst 1, 1) := by decide +kernel
theorem dL_law_570 : decode cL_law 570 = .ok (.iadd, 1) := by decide +kernel
theorem dL_law_571 : decode cL_law 571 = .ok (.iaload, 1) := by decide +kernel
theorem dL_law_572 : decode cL_law 572 = .ok (.aload_n 0, 1) := by decide +kernel
theorem dL_law_573 : decode cL_law 573 = .ok (.iload_n 3, 1) := by decide +kernel
theorem dL_law_574 : decode cL_law 574 = .ok (.iconst 2, 1) := by decide +kernel
theorem dL_law_575 : decode cL_law 575 = .ok (.iadd, 1) := by decide +kernel
theorem dL_law_576 : decode cL_law 576 = .ok (.iaload, 1) := by decide +kernel
theorem dL_law_577 : decode cL_law 577 = .ok (.invokevirtual 76, 3) := by decide +kernel
theorem dL_law_580 : decode cL_law 580 = .ok (.aload_n 2, 1) := by decide +kernel
theorem dL_law_581 : decode cL_law 581 = .ok (.aload_n 0, 1) := by decide +kernel
theorem dL_law_582 : decode cL_law 582 = .ok (.iload_n 3, 1) := by decide +kernel
theorem dL_law_583 : decode cL_law 583 = .ok (.iconst 1, 1) := by decide +kernel
theorem dL_law_584 : decode cL_law 584 = .ok (.iadd, 1) := by decide +kernel
theorem dL_law_585 : decode cL_law 585 = .ok (.iaload, 1) := by decide +kernel
theorem dL_law_586 : decode cL_law 586 = .ok (.aload_n 0, 1) := by decide +kernel
theorem dL_law_587 : decode cL_law 587 = .ok (.iload_n 3, 1) := by decide +kernel
theorem dL_law_588 : decode cL_law 588 = .ok (.iconst 2, 1) := by decide +kernel
theorem dL_law_589 : decode cL_law 589 = .ok (.iadd, 1) := by decide +kernel
theorem dL_law_590 : decode cL_law 590 = .ok (.iaload, 1) := by decide +kernel
theorem dL_law_591 : decode cL_law 591 = .ok (.invokevirtual 79, 3) := by decide +kernel
theorem dL_law_594 : decode cL_law 594 = .ok (.if_icmp .eq 233, 3) := by decide +kernel
theorem dL_law_597 : decode cL_law 597 = .ok (.iconst 0, 1) := by decide +kernel
theorem dL_law_598 : decode cL_law 598 = .ok (.ireturn, 1) := by decide +kernel
theorem dL_law_599 : decode cL_law 599 = .ok (.aload_n 1, 1) := by decide +kernel
theorem dL_law_600 : decode cL_law 600 = .ok (.aload_n 0, 1) := by decide +kernel
theorem dL_law_601 : decode cL_law 601 = .ok (.iload_n 3, 1) := by decide +kernel
theorem dL_law_602 : decode cL_law 602 = .ok (.iconst 1, 1) := by decide +kernel
theorem dL_law_603 : decode cL_law 603 = .ok (.iadd, 1) := by decide +kernel
theorem dL_law_604 : decode cL_law 604 = .ok (.iaload, 1) := by decide +kernel
theorem dL_law_605 : decode cL_law 605 = .ok (.invokevirtual 80, 3) := by decide +kernel
theorem dL_law_608 : decode cL_law 608 = .ok (.aload_n 2, 1) := by decide +kernel
theorem dL_law_609 : decode cL_law 609 = .ok (.aload_n 0, 1) := by decide +kernel
theorem dL_law_610 : decode cL_law 610 = .ok (.iload_n 3, 1) := by decide +kernel
theorem dL_law_611 : decode cL_law 611 = .ok (.iconst 1, 1) := by decide +kernel
theorem dL_law_612 : decode cL_law 612 = .ok (.iadd, 1) := by decide +kernel
theorem dL_law_613 : decode cL_law 613 = .ok (.iaload, 1) := by decide +kernel
theorem dL_law_614 : decode cL_law 614 = .ok (.invokevirtual 83, 3) := by decide +kernel
theorem dL_law_617 : decode cL_law 617 = .ok (.if_icmp .eq 210, 3) := by decide +kernel
theorem dL_law_620 : decode cL_law 620 = .ok (.iconst 0, 1) := by decide +kernel
theorem dL_law_621 : decode cL_law 621 = .ok (.ireturn, 1) := by decide +kernel
theorem dL_law_622 : decode cL_law 622 = .ok (.aload_n 1, 1) := by decide +kernel
theorem dL_law_623 : decode cL_law 623 = .ok (.aload_n 0, 1) := by decide +kernel
theorem dL_law_624 : decode cL_law 624 = .ok (.iload_n 3, 1) := by decide +kernel
theorem dL_law_625 : decode cL_law 625 = .ok (.iconst 1, 1) := by decide +kernel
theorem dL_law_626 : decode cL_law 626 = .ok (.iadd, 1) := by decide +kernel
theorem dL_law_627 : decode cL_law 627 = .ok (.iaload, 1) := by decide +kernel
theorem dL_law_628 : decode cL_law 628 = .ok (.aload_n 0, 1) := by decide +kernel
theorem dL_law_629 : decode cL_law 629 = .ok (.iload_n 3, 1) := by decide +kernel
theorem dL_law_630 : decode cL_law 630 = .ok (.iconst 2, 1) := by decide +kernel
theorem dL_law_631 : decode cL_law 631 = .ok (.iadd, 1) := by decide +kernel
theorem dL_law_632 : decode cL_law 632 = .ok (.iaload, 1) := by decide +kernel
theorem dL_law_633 : decode cL_law 633 = .ok (.invokevirtual 84, 3) := by decide +kernel
theorem dL_law_636 : decode cL_law 636 = .ok (.aload_n 2, 1) := by decide +kernel
theorem dL_law_637 : decode cL_law 637 = .ok (.aload_n 0, 1) := by decide +kernel
theorem dL_law_638 : decode cL_law 638 = .ok (.iload_n 3, 1) := by decide +kernel
theorem dL_law_639 : decode cL_law 639 = .ok (.iconst 1, 1) := by decide +kernel
theorem dL_law_640 : decode cL_law 640 = .ok (.iadd, 1) := by decide +kernel
theorem dL_law_641 : decode cL_law 641 = .ok (.iaload, 1) := by decide +kernel
theorem dL_law_642 : decode cL_law 642 = .ok (.aload_n 0, 1) := by decide +kernel
theorem dL_law_643 : decode cL_law 643 = .ok (.iload_n 3, 1) := by decide +kernel
theorem dL_law_644 : decode cL_law 644 = .ok (.iconst 2, 1) := by decide +kernel
theorem dL_law_645 : decode cL_law 645 = .ok (.iadd, 1) := by decide +kernel
theorem dL_law_646 : decode cL_law 646 = .ok (.iaload, 1) := by decide +kernel
theorem dL_law_647 : decode cL_law 647 = .ok (.invokevirtual 87, 3) := by decide +kernel
theorem dL_law_650 : decode cL_law 650 = .ok (.if_icmp .eq 177, 3) := by decide +kernel
theorem dL_law_653 : decode cL_law 653 = .ok (.iconst 0, 1) := by decide +kernel
theorem dL_law_654 : decode cL_law 654 = .ok (.ireturn, 1) := by decide +kernel
theorem dL_law_655 : decode cL_law 655 = .ok (.aload_n 1, 1) := by decide +kernel
theorem dL_law_656 : decode cL_law 656 = .ok (.aload_n 0, 1) := by decide +kernel
theorem dL_law_657 : decode cL_law 657 = .ok (.iload_n 3, 1) := by decide +kernel
theorem dL_law_658 : decode cL_law 658 = .ok (.iconst 1, 1) := by decide +kernel
theorem dL_law_659 : decode cL_law 659 = .ok (.iadd, 1) := by decide +kernel
theorem dL_law_660 : decode cL_law 660 = .ok (.iaload, 1) := by decide +kernel
theorem dL_law_661 : decode cL_law 661 = .ok (.invokevirtual 88, 3) := by decide +kernel
theorem dL_law_664 : decode cL_law 664 = .ok (.aload_n 2, 1) := by decide +kernel
theorem dL_law_665 : decode cL_law 665 = .ok (.aload_n 0, 1) := by decide +kernel
theorem dL_law_666 : decode cL_law 666 = .ok (.iload_n 3, 1) := by decide +kernel
theorem dL_law_667 : decode cL_law 667 = .ok (.iconst 1, 1) := by decide +kernel
theorem dL_law_668 : decode cL_law 668 = .ok (.iadd, 1) := by decide +kernel
theorem dL_law_669 : decode cL_law 669 = .ok (.iaload, 1) := by decide +kernel
theorem dL_law_670 : decode cL_law 670 = .ok (.invokevirtual 92, 3) := by decide +kernel
theorem dL_law_673 : decode cL_law 673 = .ok (.lcmp, 1) := by decide +kernel
theorem dL_law_674 : decode cL_law 674 = .ok (.ifCond .eq 153, 3) := by decide +kernel
theorem dL_law_677 : decode cL_law 677 = .ok (.iconst 0, 1) := by decide +kernel
theorem dL_law_678 : decode cL_law 678 = .ok (.ireturn, 1) := by decide +kernel
theorem dL_law_679 : decode cL_law 679 = .ok (.aload_n 1, 1) := by decide +kernel
theorem dL_law_680 : decode cL_law 680 = .ok (.aload_n 0, 1) := by decide +kernel
theorem dL_law_681 : decode cL_law 681 = .ok (.iload_n 3, 1) := by decide +kernel
theorem dL_law_682 : decode cL_law 682 = .ok (.iconst 1, 1) := by decide +kernel
theorem dL_law_683 : decode cL_law 683 = .ok (.iadd, 1) := by decide +kernel
theorem dL_law_684 : decode cL_law 684 = .ok (.iaload, 1) := by decide +kernel
theorem dL_law_685 : decode cL_law 685 = .ok (.aload_n 0, 1) := by decide +kernel
theorem dL_law_686 : decode cL_law 686 = .ok (.iload_n 3, 1) := by decide +kernel
theorem dL_law_687 : decode cL_law 687 = .ok (.iconst 2, 1) := by decide +kernel
theorem dL_law_688 : decode cL_law 688 = .ok (.iadd, 1) := by decide +kernel
theorem dL_law_689 : decode cL_law 689 = .ok (.iaload, 1) := by decide +kernel
theorem dL_law_690 : decode cL_law 690 = .ok (.invokevirtual 93, 3) := by decide +kernel
theorem dL_law_693 : decode cL_law 693 = .ok (.aload_n 2, 1) := by decide +kernel
theorem dL_law_694 : decode cL_law 694 = .ok (.aload_n 0, 1) := by decide +kernel
theorem dL_law_695 : decode cL_law 695 = .ok (.iload_n 3, 1) := by decide +kernel
theorem dL_law_696 : decode cL_law 696 = .ok (.iconst 1, 1) := by decide +kernel
theorem dL_law_697 : decode cL_law 697 = .ok (.iadd, 1) := by decide +kernel
theorem dL_law_698 : decode cL_law 698 = .ok (.iaload, 1) := by decide +kernel
theorem dL_law_699 : decode cL_law 699 = .ok (.aload_n 0, 1) := by decide +kernel
theorem dL_law_700 : decode cL_law 700 = .ok (.iload_n 3, 1) := by decide +kernel
theorem dL_law_701 : decode cL_law 701 = .ok (.iconst 2, 1) := by decide +kernel
theorem dL_law_702 : decode cL_law 702 = .ok (.iadd, 1) := by decide +kernel
theorem dL_law_703 : decode cL_law 703 = .ok (.iaload, 1) := by decide +kernel
theorem dL_law_704 : decode cL_law 704 = .ok (.invokevirtual 96, 3) := by decide +kernel
theorem dL_law_707 : decode cL_law 707 = .ok (.if_icmp .eq 120, 3) := by decide +kernel
theorem dL_law_710 : decode cL_law 710 = .ok (.iconst 0, 1) := by decide +kernel
theorem dL_law_711 : decode cL_law 711 = .ok (.ireturn, 1) := by decide +kernel
theorem dL_law_712 : decode cL_law 712 = .ok (.aload_n 1, 1) := by decide +kernel
theorem dL_law_713 : decode cL_law 713 = .ok (.aload_n 0, 1) := by decide +kernel
theorem dL_law_714 : decode cL_law 714 = .ok (.iload_n 3, 1) := by decide +kernel
theorem dL_law_715 : decode cL_law 715 = .ok (.iconst 1, 1) := by decide +kernel
theorem dL_law_716 : decode cL_law 716 = .ok (.iadd, 1) := by decide +kernel
theorem dL_law_717 : decode cL_law 717 = .ok (.iaload, 1) := by decide +kernel
theorem dL_law_718 : decode cL_law 718 = .ok (.invokevirtual 97, 3) := by decide +kernel
theorem dL_law_721 : decode cL_law 721 = .ok (.aload_n 2, 1) := by decide +kernel
theorem dL_law_722 : decode cL_law 722 = .ok (.aload_n 0, 1) := by decide +kernel
theorem dL_law_723 : decode cL_law 723 = .ok (.iload_n 3, 1) := by decide +kernel
theorem dL_law_724 : decode cL_law 724 = .ok (.iconst 1, 1) := by decide +kernel
theorem dL_law_725 : decode cL_law 725 = .ok (.iadd, 1) := by decide +kernel
theorem dL_law_726 : decode cL_law 726 = .ok (.iaload, 1) := by decide +kernel
theorem dL_law_727 : decode cL_law 727 = .ok (.invokevirtual 100, 3) := by decide +kernel
theorem dL_law_730 : decode cL_law 730 = .ok (.if_icmp .eq 97, 3) := by decide +kernel
theorem dL_law_733 : decode cL_law 733 = .ok (.iconst 0, 1) := by decide +kernel
theorem dL_law_734 : decode cL_law 734 = .ok (.ireturn, 1) := by decide +kernel
theorem dL_law_735 : decode cL_law 735 = .ok (.aload_n 1, 1) := by decide +kernel
theorem dL_law_736 : decode cL_law 736 = .ok (.aload_n 0, 1) := by decide +kernel
theorem dL_law_737 : decode cL_law 737 = .ok (.iload_n 3, 1) := by decide +kernel
theorem dL_law_738 : decode cL_law 738 = .ok (.iconst 1, 1) := by decide +kernel
theorem dL_law_739 : decode cL_law 739 = .ok (.iadd, 1) := by decide +kernel
theorem dL_law_740 : decode cL_law 740 = .ok (.iaload, 1) := by decide +kernel
theorem dL_law_741 : decode cL_law 741 = .ok (.invokevirtual 101, 3) := by decide +kernel
theorem dL_law_744 : decode cL_law 744 = .ok (.aload_n 2, 1) := by decide +kernel
theorem dL_law_745 : decode cL_law 745 = .ok (.aload_n 0, 1) := by decide +kernel
theorem dL_law_746 : decode cL_law 746 = .ok (.iload_n 3, 1) := by decide +kernel
theorem dL_law_747 : decode cL_law 747 = .ok (.iconst 1, 1) := by decide +kernel
theorem dL_law_748 : decode cL_law 748 = .ok (.iadd, 1) := by decide +kernel
theorem dL_law_749 : decode cL_law 749 = .ok (.iaload, 1) := by decide +kernel
theorem dL_law_750 : decode cL_law 750 = .ok (.invokevirtual 104, 3) := by decide +kernel
theorem dL_law_753 : decode cL_law 753 = .ok (.if_icmp .eq 74, 3) := by decide +kernel
theorem dL_law_756 : decode cL_law 756 = .ok (.iconst 0, 1) := by decide +kernel
theorem dL_law_757 : decode cL_law 757 = .ok (.ireturn, 1) := by decide +kernel
theorem dL_law_758 : decode cL_law 758 = .ok (.aload_n 1, 1) := by decide +kernel
theorem dL_law_759 : decode cL_law 759 = .ok (.aload_n 0, 1) := by decide +kernel
theorem dL_law_760 : decode cL_law 760 = .ok (.iload_n 3, 1) := by decide +kernel
theorem dL_law_761 : decode cL_law 761 = .ok (.iconst 1, 1) := by decide +kernel
theorem dL_law_762 : decode cL_law 762 = .ok (.iadd, 1) := by decide +kernel
theorem dL_law_763 : decode cL_law 763 = .ok (.iaload, 1) := by decide +kernel
theorem dL_law_764 : decode cL_law 764 = .ok (.invokevirtual 105, 3) := by decide +kernel
theorem dL_law_767 : decode cL_law 767 = .ok (.aload_n 2, 1) := by decide +kernel
theorem dL_law_768 : decode cL_law 768 = .ok (.aload_n 0, 1) := by decide +kernel
theorem dL_law_769 : decode cL_law 769 = .ok (.iload_n 3, 1) := by decide +kernel
theorem dL_law_770 : decode cL_law 770 = .ok (.iconst 1, 1) := by decide +kernel
theorem dL_law_771 : decode cL_law 771 = .ok (.iadd, 1) := by decide +kernel
theorem dL_law_772 : decode cL_law 772 = .ok (.iaload, 1) := by decide +kernel
theorem dL_law_773 : decode cL_law 773 = .ok (.invokevirtual 108, 3) := by decide +kernel
theorem dL_law_776 : decode cL_law 776 = .ok (.if_icmp .eq 51, 3) := by decide +kernel
theorem dL_law_779 : decode cL_law 779 = .ok (.iconst 0, 1) := by decide +kernel
theorem dL_law_780 : decode cL_law 780 = .ok (.ireturn, 1) := by decide +kernel
theorem dL_law_781 : decode cL_law 781 = .ok (.aload_n 1, 1) := by decide +kernel
theorem dL_law_782 : decode cL_law 782 = .ok (.aload_n 0, 1) := by decide +kernel
theorem dL_law_783 : decode cL_law 783 = .ok (.iload_n 3, 1) := by decide +kernel
theorem dL_law_784 : decode cL_law 784 = .ok (.iconst 1, 1) := by decide +kernel
theorem dL_law_785 : decode cL_law 785 = .ok (.iadd, 1) := by decide +kernel
theorem dL_law_786 : decode cL_law 786 = .ok (.iaload, 1) := by decide +kernel
theorem dL_law_787 : decode cL_law 787 = .ok (.invokevirtual 109, 3) := by decide +kernel
theorem dL_law_790 : decode cL_law 790 = .ok (.aload_n 2, 1) := by decide +kernel
theorem dL_law_791 : decode cL_law 791 = .ok (.aload_n 0, 1) := by decide +kernel
theorem dL_law_792 : decode cL_law 792 = .ok (.iload_n 3, 1) := by decide +kernel
theorem dL_law_793 : decode cL_law 793 = .ok (.iconst 1, 1) := by decide +kernel
theorem dL_law_794 : decode cL_law 794 = .ok (.iadd, 1) := by decide +kernel
theorem dL_law_795 : decode cL_law 795 = .ok (.iaload, 1) := by decide +kernel
theorem dL_law_796 : decode cL_law 796 = .ok (.invokevirtual 112, 3) := by decide +kernel
theorem dL_law_799 : decode cL_law 799 = .ok (.if_icmp .eq 28, 3) := by decide +kernel
theorem dL_law_802 : decode cL_law 802 = .ok (.iconst 0, 1) := by decide +kernel
theorem dL_law_803 : decode cL_law 803 = .ok (.ireturn, 1) := by decide +kernel
theorem dL_law_804 : decode cL_law 804 = .ok (.aload_n 1, 1) := by decide +kernel
theorem dL_law_805 : decode cL_law 805 = .ok (.aload_n 0, 1) := by decide +kernel
theorem dL_law_806 : decode cL_law 806 = .ok (.iload_n 3, 1) := by decide +kernel
theorem dL_law_807 : decode cL_law 807 = .ok (.iconst 1, 1) := by decide +kernel
theorem dL_law_808 : decode cL_law 808 = .ok (.iadd, 1) := by decide +kernel
theorem dL_law_809 : decode cL_law 809 = .ok (.iaload, 1) := by decide +kernel
theorem dL_law_810 : decode cL_law 810 = .ok (.invokevirtual 113, 3) := by decide +kernel
theorem dL_law_813 : decode cL_law 813 = .ok (.aload_n 2, 1) := by decide +kernel
theorem dL_law_814 : decode cL_law 814 = .ok (.aload_n 0, 1) := by decide +kernel
theorem dL_law_815 : decode cL_law 815 = .ok (.iload_n 3, 1) := by decide +kernel
theorem dL_law_816 : decode cL_law 816 = .ok (.iconst 1, 1) := by decide +kernel
theorem dL_law_817 : decode cL_law 817 = .ok (.iadd, 1) := by decide +kernel
theorem dL_law_818 : decode cL_law 818 = .ok (.iaload, 1) := by decide +kernel
theorem dL_law_819 : decode cL_law 819 = .ok (.invokevirtual 116, 3) := by decide +kernel
theorem dL_law_822 : decode cL_law 822 = .ok (.if_icmp .eq 5, 3) := by decide +kernel
theorem dL_law_825 : decode cL_law 825 = .ok (.iconst 0, 1) := by decide +kernel
theorem dL_law_826 : decode cL_law 826 = .ok (.ireturn, 1) := by decide +kernel
theorem dL_law_827 : decode cL_law 827 = .ok (.iinc 3 3, 3) := by decide +kernel
theorem dL_law_830 : decode cL_law 830 = .ok (.goto (-812), 3) := by decide +kernel
theorem dL_law_833 : decode cL_law 833 = .ok (.iconst 1, 1) := by decide +kernel
theorem dL_law_834 : decode cL_law 834 = .ok (.ireturn, 1) := by decide +kernel
end
section
/-! THE ENGINE: a small abstract machine (numbers as Int, cells by place) whose judgement Wd implies the machine's W -/
abbrev AV : Type := Nat × Int
abbrev HP : Type := Int → Int → Int
abbrev MI : Type := MethodName × ByteArray × Nat × Option FieldType × Nat × Nat
def gtbl : List Cond := lw_tbl.filter goodWord
theorem gm {w : Cond} (i : Nat) (h : lw_tbl[i]? = some w) (g : goodWord w = true) : w ∈ gtbl := List.mem_filter.mpr ⟨List.mem_of_getElem? h, g⟩
def inI (z : Int) : Prop := -2147483648 ≤ z ∧ z ≤ 2147483647
def inJ (z : Int) : Prop := -9223372036854775808 ≤ z ∧ z ≤ 9223372036854775807
def vv (v : AV) : Prop := (v.1 = 0 → inI v.2) ∧ (v.1 = 1 → inJ v.2)
def VS (S : List AV) : Prop := ∀ v ∈ S, vv v
theorem VS.h {x : AV} {S : List AV} (h : VS (x :: S)) : vv x := h x List.mem_cons_self
theorem VS.t {x : AV} {S : List AV} (h : VS (x :: S)) : VS S := fun v hv => h v (List.mem_cons_of_mem _ hv)
theorem VS.c {x : AV} {S : List AV} (h : vv x) (hS : VS S) : VS (x :: S) := fun v hv => (List.mem_cons.mp hv).elim (fun e => e ▸ h) (hS v)
theorem vvI {z : Int} (h : inI z) : vv (0, z) := ⟨fun _ => h, fun e => absurd e (by decide : ¬ (0 : Nat) = 1)⟩
theorem vvJ {z : Int} (h : inJ z) : vv (1, z) := ⟨fun e => absurd e (by decide : ¬ (1 : Nat) = 0), fun _ => h⟩
theorem vvR {z : Int} : vv (2, z) := ⟨fun e => absurd e (by decide : ¬ (2 : Nat) = 0), fun e => absurd e (by decide : ¬ (2 : Nat) = 1)⟩
theorem vv.i {z : Int} (h : vv (0, z)) : inI z := h.1 rfl
theorem vv.j {z : Int} (h : vv (1, z)) : inJ z := h.2 rfl
def xg (ad : Int → Nat) (v : AV) : Value := match v.1 with
  | 0 => .int (Int32.ofInt v.2)
  | 1 => .long (Int64.ofInt v.2)
  | _ => .ref (ad v.2)
theorem oI {z : Int} (h : inI z) : (Int32.ofInt z).toInt = z := Int32.toInt_ofInt_of_le (by have := h.1; omega) (by have := h.2; omega)
theorem oJ {z : Int} (h : inJ z) : (Int64.ofInt z).toInt = z := Int64.toInt_ofInt_of_le (by have := h.1; omega) (by have := h.2; omega)
theorem oI_eq {a b : Int} (ha : inI a) (hb : inI b) : Int32.ofInt a = Int32.ofInt b ↔ a = b := ⟨fun h => by rw [← oI ha, ← oI hb, h], fun h => by rw [h]⟩
theorem oI_le {a b : Int} (ha : inI a) (hb : inI b) : Int32.ofInt a ≤ Int32.ofInt b ↔ a ≤ b := by rw [Int32.le_iff_toInt_le, oI ha, oI hb]
theorem oI_lt {a b : Int} (ha : inI a) (hb : inI b) : Int32.ofInt a < Int32.ofInt b ↔ a < b := by rw [Int32.lt_iff_toInt_lt, oI ha, oI hb]
theorem oI_0 : Int32.ofInt 0 = 0 := rfl
theorem inI_0 : inI 0 := ⟨by decide, by decide⟩
theorem oI_toNat {z : Int} (h : inI z) : (Int32.ofInt z).toNatClampNeg = z.toNat := by
  show (Int32.ofInt z).toInt.toNat = z.toNat
  rw [oI h]
theorem oI_in {z : Int} {n : Nat} (h : inI z) (h0 : 0 ≤ z) (h1 : z < n) : vp_in (Int32.ofInt z) n := vp_in_iff.mpr (by rw [oI h]; exact ⟨h0, h1⟩)
-- ===== the world
def kd (k : Nat) : Nat × Nat := kdL.getD k (9, 0)
def fcs (k : Nat) : List (Nat × Int) := ftL.getD (kd k).2 []
def isJ (k j : Nat) : Bool := (kd k).1 == 1 || ((kd k).1 == 4 && (((fcs k).getD j (9, 0)).1 == 1))
def vh (h : HP) : Prop := ∀ k j : Nat, if isJ k j = true then inJ (h k j) else inI (h k j)
def fv (ad : Int → Nat) (h : HP) (k j : Nat) (q : Nat × Int) : Value := match q.1 with
  | 3 => .ref (ad q.2)
  | 4 => .ref (ad (h k j))
  | 1 => .long (Int64.ofInt (h k j))
  | _ => .int (Int32.ofInt (h k j))
def fvs (ad : Int → Nat) (h : HP) (k : Nat) : List Value := (fcs k).mapIdx (fun j q => fv ad h k j q)
abbrev xE : Type := ClassId × ClassId × ClassId × ClassId
abbrev tyE (E : xE) : List (ClassId × FieldType) := [(E.1, .int), (E.2.1, .long), (E.2.2.1, .boolean), (E.2.2.2, .array .int)]
def cE (E : xE) (ad : Int → Nat) (h : HP) (k : Nat) : va_E := match (kd k).1 with
  | 0 => .inl (E.1, (kd k).2, .inl (fun j => Int32.ofInt (h k j)))
  | 1 => .inl (E.2.1, (kd k).2, .inr (.inl (fun j => Int64.ofInt (h k j))))
  | 2 => .inl (E.2.2.1, (kd k).2, .inl (fun j => Int32.ofInt (h k j)))
  | 3 => .inl (E.2.2.2, (kd k).2, .inr (.inr (.inr (.inr (fun j => some (ad (15 + (j : Int))))))))
  | _ => .inr ((kd k).2, fvs ad h k)
abbrev NC : Nat := 65
def wl (E : xE) (ad : Int → Nat) (h : HP) : va_W := (List.range NC).map (fun k : Nat => (ad (k : Int), cE E ad h k))
theorem wl_get {E : xE} {ad : Int → Nat} {h : HP} {k : Nat} (hk : k < NC) : (wl E ad h)[k]? = some (ad (k : Int), cE E ad h k) := by
  unfold wl
  rw [List.getElem?_map, List.getElem?_range hk]
  rfl
theorem cE_congr {E : xE} {ad : Int → Nat} {h h' : HP} {k : Nat} (hh : ∀ j : Nat, h' k j = h k j) : cE E ad h' k = cE E ad h k := by
  have e1 : (fun j : Nat => Int32.ofInt (h' k j)) = (fun j : Nat => Int32.ofInt (h k j)) := funext fun j => by rw [hh j]
  have e2 : (fun j : Nat => Int64.ofInt (h' k j)) = (fun j : Nat => Int64.ofInt (h k j)) := funext fun j => by rw [hh j]
  have e3 : fvs ad h' k = fvs ad h k := by
    unfold fvs fv
    congr 1
    funext j q
    rw [hh j]
  unfold cE
  rw [e1, e2, e3]
theorem wl_set {E : xE} {ad : Int → Nat} {h h' : HP} {k : Nat} (hk : k < NC) (hh : ∀ k' : Nat, k' ≠ k → ∀ j : Nat, h' k' j = h k' j) {x : va_E} (hx : x = cE E ad h' k) : (wl E ad h).set k (ad (k : Int), x) = wl E ad h' := by
  subst hx
  apply List.ext_getElem?
  intro i
  by_cases hi : i < NC
  · by_cases e : k = i
    · subst e
      rw [List.getElem?_set_self (by simp [wl]; exact hi), wl_get hi]
    · rw [List.getElem?_set_ne e, wl_get hi, wl_get hi, cE_congr (hh i (fun q => e q.symm))]
  · have h1 : ((wl E ad h).set k (ad (k : Int), cE E ad h' k))[i]? = none := by simp [wl]; omega
    have h2 : (wl E ad h')[i]? = none := by simp [wl]; omega
    rw [h1, h2]
/-- a place of a cell gets a number -/
def xu (h : HP) (k i v : Int) : HP := fun a b => if a = k then (if b = i then v else h a b) else h a b
theorem xu_s (h : HP) (k i v : Int) : xu h k i v k i = v := by simp [xu]
theorem xu_k {h : HP} {k i v a b : Int} (e : ¬ a = k) : xu h k i v a b = h a b := by simp [xu, e]
theorem xu_i {h : HP} {k i v a b : Int} (e : ¬ b = i) : xu h k i v a b = h a b := by simp [xu, e]
theorem xu_off {h : HP} {k : Nat} {i v : Int} (k' : Nat) (e : k' ≠ k) (j : Nat) : xu h k i v k' j = h k' j := xu_k (fun q => e (Int.ofNat.inj q))
theorem vh_xu {h : HP} {k : Nat} {i v : Int} (hv : vh h) (hi : ∀ j : Nat, (j : Int) = i → if isJ k j = true then inJ v else inI v) : vh (xu h k i v) := by
  intro a b
  by_cases e : (a : Int) = k
  · have ea : a = k := Int.ofNat.inj e
    subst ea
    by_cases eb : (b : Int) = i
    · have := hi b eb
      simp only [xu, eb, if_true]
      exact this
    · rw [xu_i eb]; exact hv a b
  · rw [xu_k e]; exact hv a b
theorem vh.i {h : HP} (hv : vh h) {k j : Nat} (e : isJ k j = false) : inI (h k j) := by
  have := hv k j
  rw [e] at this
  exact this
theorem vh.j {h : HP} (hv : vh h) {k j : Nat} (e : isJ k j = true) : inJ (h k j) := by
  have := hv k j
  rw [e] at this
  exact this
-- ===== what never changes: static arrays, the script, the links of nest mates
def sxL : List (List Int) := [[0, 0, 10, 1], [20, 500, 50, 9], [1, 0, 0, 1, 1], [5, 9999, 0, 30, 9]]
def sx (i : Nat) (j : Int) : Int := (sxL.getD i []).getD j.toNat 0
def SX (X : Nat × (Int → Int)) (ad : Int → Nat) (A : Nat → Prop) (U : State) (H : Heap) : Prop :=
  (va_Z "BuoyReader$Settings" "LOWEST" "[I" (.ref (ad 1000)) A U H ∧ va_Z "BuoyReader$Settings" "GREATEST" "[I" (.ref (ad 1001)) A U H ∧ va_Z "BuoyReader$LensRow" "LEAST_N" "[I" (.ref (ad 1002)) A U H ∧ va_Z "BuoyReader$LensRow" "GREATEST_N" "[I" (.ref (ad 1003)) A U H) ∧
  (va_T .int (ad 1000) 4 (fun j => .int (Int32.ofInt (sx 0 j))) A U H ∧ va_T .int (ad 1001) 4 (fun j => .int (Int32.ofInt (sx 1 j))) A U H ∧ va_T .int (ad 1002) 5 (fun j => .int (Int32.ofInt (sx 2 j))) A U H ∧ va_T .int (ad 1003) 5 (fun j => .int (Int32.ofInt (sx 3 j))) A U H) ∧
  (va_T .int (ad 1004) X.1 (fun j => .int (Int32.ofInt (X.2 j))) A U H ∧ X.1 ≤ 1536 ∧ ∀ j : Nat, j < X.1 → inI (X.2 j)) ∧
  va_Nw (.methodLinkNest RX1 44 yX8_meanDown "BuoyReader") U ∧ va_Nw (.methodLinkNest RX6 55 yX8_meanDown "BuoyReader") U
theorem SX.moved {X : Nat × (Int → Int)} {ad : Int → Nat} {A : Nat → Prop} {u U : State} {H : Heap} (hW : u.WarmedH U.vm) (h : SX X ad A u H) : SX X ad A U H := by
  obtain ⟨⟨a1, a2, a3, a4⟩, ⟨b1, b2, b3, b4⟩, ⟨c1, c2⟩, d1, d2⟩ := h
  have hvm := hW.alike
  exact ⟨⟨va_Z.moved hvm a1, va_Z.moved hvm a2, va_Z.moved hvm a3, va_Z.moved hvm a4⟩, ⟨va_T.moved hvm b1, va_T.moved hvm b2, va_T.moved hvm b3, va_T.moved hvm b4⟩, ⟨va_T.moved hvm c1, c2⟩, va_Nw.warmM hW d1, va_Nw.warmM hW d2⟩
theorem SX.kept {X : Nat × (Int → Int)} {ad : Int → Nat} {A : Nat → Prop} {U : State} {H H1 : Heap} (hq : ∀ a : Nat, a < H.size → ¬ A a → H1[a]? = H[a]?) (h : SX X ad A U H) : SX X ad A U H1 := by
  obtain ⟨⟨a1, a2, a3, a4⟩, ⟨b1, b2, b3, b4⟩, ⟨c1, c2⟩, d1, d2⟩ := h
  exact ⟨⟨a1.kept hq, a2.kept hq, a3.kept hq, a4.kept hq⟩, ⟨b1.kept hq, b2.kept hq, b3.kept hq, b4.kept hq⟩, ⟨c1.kept hq, c2⟩, d1, d2⟩
theorem SX.same {X : Nat × (Int → Int)} {ad : Int → Nat} {A : Nat → Prop} {u U : State} {H : Heap} (hvm : u.vm = U.vm) (h : SX X ad A u H) : SX X ad A U H := by
  obtain ⟨⟨a1, a2, a3, a4⟩, ⟨b1, b2, b3, b4⟩, ⟨c1, c2⟩, d1, d2⟩ := h
  have hal : u.vm.Alike U.vm := by rw [hvm]; exact Vm.Alike.refl _
  exact ⟨⟨va_Z.moved hal a1, va_Z.moved hal a2, va_Z.moved hal a3, va_Z.moved hal a4⟩, ⟨va_T.moved hal b1, va_T.moved hal b2, va_T.moved hal b3, va_T.moved hal b4⟩, ⟨va_T.moved hal c1, c2⟩, va_Nw.same rfl hvm d1, va_Nw.same rfl hvm d2⟩
-- ===== the judgement
def Cx (mi : MI) (X : Nat × (Int → Int)) (p : Program) (R : Room) (s : State) (m : MethodId) (args : Array Value) (c : Code) (D : va_G) (E : xE) (ad : Int → Nat) (A : Nat → Prop) (cells slots : Nat) : Prop :=
  p.tables.exec = Jvm.exec ∧ c.code = mi.2.1 ∧ c.maxLocals = mi.2.2.1 ∧ s.vm.findClass mi.1.cls = some m.cls ∧ (∀ w ∈ gtbl, w.before args s = true) ∧ va_K D vwCl (tyE E) s ∧ (∀ q : Nat, s.heap.size ≤ q → A q) ∧ (mi.2.2.2.2.1 ≤ R.frames ∧ mi.2.2.2.2.2 ≤ R.locals ∧ cells ≤ R.cells ∧ slots ≤ R.slots) ∧ SX X ad A s s.heap
def Sx (D : va_G) (E : xE) (ad : Int → Nat) (A : Nat → Prop) (s : State) (H : Heap) (locs : List Loc) (h : HP) : Prop := va_P D vwCl (wl E ad h) H ∧ va_D A (wl E ad h) ∧ va_S A s.heap H locs ∧ vh h
def HL (ad : Int → Nat) (nL : Nat) (ls : Array Slot) (L : List AV) : Prop := ls.size = nL ∧ lv_wf ls ∧ ∀ (i : Nat) (v : AV), L[i]? = some v → v.1 ≠ 9 → ls[i]? = some (.val (xg ad v)) ∧ vv v
def rtag (o : Option FieldType) : Nat := match o with
  | none => 7
  | some .long => 1
  | some _ => 0
def rt (mi : MI) (pc : Nat) (z : Int) : Prop :=
  (decode mi.2.1 pc = .ok (.ireturn, 1) ∧ (mi.2.2.2.1 = some .int ∨ (mi.2.2.2.1 = some .boolean ∧ (z = 0 ∨ z = 1)))) ∨ (decode mi.2.1 pc = .ok (.lreturn, 1) ∧ mi.2.2.2.1 = some .long) ∨ (decode mi.2.1 pc = .ok (.return_, 1) ∧ mi.2.2.2.1 = none)
/-- what a method of an answer of that type leaves on the stack -/
def rpush (o : Option FieldType) (z : Int) (S : List AV) : List AV := match o with
  | none => S
  | some .long => (1, z) :: S
  | some _ => (0, z) :: S
def rsv (ad : Int → Nat) (o : Option FieldType) (z : Int) : Option Value := match o with
  | none => none
  | some .long => some (.long (Int64.ofInt z))
  | some _ => some (.int (Int32.ofInt z))
theorem rpush_map (ad : Int → Nat) (o : Option FieldType) (z : Int) (S : List AV) : (rpush o z S).map (xg ad) = (rsv ad o z).toList ++ S.map (xg ad) := by
  cases o with
  | none => rfl
  | some t => cases t <;> rfl
theorem rpush_vs {o : Option FieldType} {z : Int} {S : List AV} (h : vv (rtag o, z)) (hS : VS S) : VS (rpush o z S) := by
  cases o with
  | none => exact hS
  | some t => cases t <;> exact VS.c h hS
def Wd (mi : MI) (X : Nat × (Int → Int)) (pc : Nat) (L S : List AV) (h : HP) (Q : Int → HP → Prop) : Prop :=
  ∀ (p : Program) (l : Launch) (e : Env) (R : Room) (s : State) (m : MethodId) (args : Array Value) (below : List Frame) (meth : Method) (c : Code) (H : Heap) (locs : List Loc) (cells slots : Nat) (D : va_G) (E : xE) (ad : Int → Nat) (A : Nat → Prop) (ls : Array Slot) (Qm : State → Prop),
    Cx mi X p R s m args c D E ad A cells slots → Sx D E ad A s H locs h → HL ad mi.2.2.1 ls L → VS S →
    (∀ (pcr : Nat) (ls' : Array Slot) (H' : Heap) (locs' : List Loc) (z : Int) (h' : HP), rt mi pcr z → vv (rtag mi.2.2.2.1, z) → Q z h' → Sx D E ad A s H' locs' h' → W p l e R s m args below meth c H' locs' cells slots Qm (F0 m pcr ls' (rsv ad mi.2.2.2.1 z).toList)) →
    W p l e R s m args below meth c H locs cells slots Qm (F0 m pc ls (S.map (xg ad)))
theorem Wd.imp {mi : MI} {X : Nat × (Int → Int)} {pc : Nat} {L S : List AV} {h : HP} {Q Q' : Int → HP → Prop} (H : Wd mi X pc L S h Q) (hq : ∀ z h', Q z h' → Q' z h') : Wd mi X pc L S h Q' := by
  intro p l e R s m args below meth c HH locs cells slots D E ad A ls Qm hC hS hL hv hr
  exact H p l e R s m args below meth c HH locs cells slots D E ad A ls Qm hC hS hL hv (fun pcr ls' H' locs' z h' a b q d => hr pcr ls' H' locs' z h' a b (hq z h' q) d)
/-- fewer locals are known -/
theorem Wd.less {mi : MI} {X : Nat × (Int → Int)} {pc : Nat} {L L' S : List AV} {h : HP} {Q : Int → HP → Prop} (H : Wd mi X pc L' S h Q) (hl : ∀ (i : Nat) (v : AV), L'[i]? = some v → v.1 ≠ 9 → L[i]? = some v) : Wd mi X pc L S h Q := by
  intro p l e R s m args below meth c HH locs cells slots D E ad A ls Qm hC hS hL hv hr
  exact H p l e R s m args below meth c HH locs cells slots D E ad A ls Qm hC hS ⟨hL.1, hL.2.1, fun i v h1 h2 => hL.2.2 i v (hl i v h1 h2) h2⟩ hv hr
end
section
/-! ROWS of the engine: numbers, locals -/
theorem inJ_0 : inJ 0 := ⟨by decide, by decide⟩
theorem oJ_eq {a b : Int} (ha : inJ a) (hb : inJ b) : Int64.ofInt a = Int64.ofInt b ↔ a = b := ⟨fun h => by rw [← oJ ha, ← oJ hb, h], fun h => by rw [h]⟩
theorem oJ_lt {a b : Int} (ha : inJ a) (hb : inJ b) : Int64.ofInt a < Int64.ofInt b ↔ a < b := by rw [Int64.lt_iff_toInt_lt, oJ ha, oJ hb]
theorem inI_J {a : Int} (h : inI a) : inJ a := ⟨by have := h.1; omega, by have := h.2; omega⟩
theorem inI_toInt (x : Int32) : inI x.toInt := ⟨Int32.le_toInt x, by have := Int32.toInt_lt x; omega⟩
theorem inJ_toInt (x : Int64) : inJ x.toInt := ⟨Int64.le_toInt x, by have := Int64.toInt_lt x; omega⟩
theorem o_i2l {a : Int} (h : inI a) : (Int32.ofInt a).toInt64 = Int64.ofInt a := Int32.toInt64_ofInt (by have := h.1; exact this) (by have := h.2; exact this)
theorem o_l2iw (a : Int) : (Int64.ofInt a).toInt32 = Int32.ofInt (a.bmod 4294967296) := by
  rw [Int64.toInt32_ofInt]
  apply Int32.toInt_inj.mp
  rw [Int32.toInt_ofInt, Int32.toInt_ofInt]
  exact (Int.bmod_bmod (x := a) (m := 4294967296)).symm
theorem inI_bmod (a : Int) : inI (a.bmod 4294967296) := by
  have h1 := Int.le_bmod (x := a) (m := 4294967296) (by decide)
  have h2 := Int.bmod_lt (x := a) (m := 4294967296) (by decide)
  unfold inI; omega
theorem inI_bmods (a : Int) : inI (a.bmod 65536) := by
  have h1 := Int.le_bmod (x := a) (m := 65536) (by decide)
  have h2 := Int.bmod_lt (x := a) (m := 65536) (by decide)
  unfold inI; omega
theorem o_i2s (a : Int) : (Int32.ofInt a).toInt16.toInt32 = Int32.ofInt (a.bmod 65536) := by
  rw [Int32.toInt16_ofInt]
  apply Int32.toInt_inj.mp
  rw [Int16.toInt_toInt32, Int16.toInt_ofInt, oI (inI_bmods a)]
theorem oI_div {a b : Int} (ha : inI a) (hb : inI b) (_h0 : ¬ b = 0) : Int32.ofInt (a.tdiv b) = Int32.ofInt a / Int32.ofInt b := Int32.ofInt_tdiv (by exact ha.1) (by exact ha.2) (by exact hb.1) (by exact hb.2)
theorem oJ_div {a b : Int} (ha : inJ a) (hb : inJ b) (_h0 : ¬ b = 0) : Int64.ofInt (a.tdiv b) = Int64.ofInt a / Int64.ofInt b := Int64.ofInt_tdiv (by exact ha.1) (by exact ha.2) (by exact hb.1) (by exact hb.2)
theorem oI_rem {a b : Int} (ha : inI a) (hb : inI b) (h0 : ¬ b = 0) : Int32.ofInt a - Int32.ofInt a / Int32.ofInt b * Int32.ofInt b = Int32.ofInt (a.tmod b) := by
  rw [← oI_div ha hb h0, ← Int32.ofInt_mul, ← Int32.ofInt_sub]
  congr 1
  have := Int.tmod_def a b
  rw [Int.mul_comm] at this
  omega
theorem oJ_rem {a b : Int} (ha : inJ a) (hb : inJ b) (h0 : ¬ b = 0) : Int64.ofInt a - Int64.ofInt a / Int64.ofInt b * Int64.ofInt b = Int64.ofInt (a.tmod b) := by
  rw [← oJ_div ha hb h0, ← Int64.ofInt_mul, ← Int64.ofInt_sub]
  congr 1
  have := Int.tmod_def a b
  rw [Int.mul_comm] at this
  omega
theorem tmod_abs {a b : Int} (h0 : ¬ b = 0) : (0 ≤ b → -b < a.tmod b ∧ a.tmod b < b) ∧ (b < 0 → b < a.tmod b ∧ a.tmod b < -b) := by
  have k : (a.tmod b).natAbs = a.natAbs % b.natAbs := Int.natAbs_tmod a b
  have hb : 0 < b.natAbs := by omega
  have k2 := Nat.mod_lt a.natAbs hb
  constructor
  · intro hb
    omega
  · intro hb
    omega
theorem inI_tmod {a b : Int} (_ha : inI a) (hb : inI b) (h0 : ¬ b = 0) : inI (a.tmod b) := by
  have k := tmod_abs (a := a) h0
  unfold inI at *
  rcases Int.lt_or_le b 0 with h | h
  · have := k.2 h; omega
  · have := k.1 h; omega
theorem inJ_tmod {a b : Int} (_ha : inJ a) (hb : inJ b) (h0 : ¬ b = 0) : inJ (a.tmod b) := by
  have k := tmod_abs (a := a) h0
  unfold inJ at *
  rcases Int.lt_or_le b 0 with h | h
  · have := k.2 h; omega
  · have := k.1 h; omega
def lcz (a b : Int) : Int := if b < a then 1 else if a = b then 0 else -1
theorem inI_lcz (a b : Int) : inI (lcz a b) := by
  unfold lcz inI
  split
  · decide
  · split <;> decide
theorem o_lcmp {a b : Int} (ha : inJ a) (hb : inJ b) : lg_cmp (Int64.ofInt a) (Int64.ofInt b) = Int32.ofInt (lcz a b) := by
  show (if Int64.ofInt b < Int64.ofInt a then (1 : Int32) else if Int64.ofInt a = Int64.ofInt b then 0 else -1) = _
  unfold lcz
  by_cases h : b < a
  · rw [if_pos ((oJ_lt hb ha).mpr h), if_pos h]; rfl
  · rw [if_neg (fun q => h ((oJ_lt hb ha).mp q)), if_neg h]
    by_cases h2 : a = b
    · rw [if_pos ((oJ_eq ha hb).mpr h2), if_pos h2]; rfl
    · rw [if_neg (fun q => h2 ((oJ_eq ha hb).mp q)), if_neg h2]; rfl
theorem lcz_le {a b : Int} : lcz a b ≤ 0 ↔ a ≤ b := by unfold lcz; split <;> (try split) <;> omega
theorem lcz_ge {a b : Int} : 0 ≤ lcz a b ↔ b ≤ a := by unfold lcz; split <;> (try split) <;> omega
theorem lcz_lt {a b : Int} : lcz a b < 0 ↔ a < b := by unfold lcz; split <;> (try split) <;> omega
theorem lcz_gt {a b : Int} : 0 < lcz a b ↔ b < a := by unfold lcz; split <;> (try split) <;> omega
theorem lcz_eq {a b : Int} : lcz a b = 0 ↔ a = b := by unfold lcz; split <;> (try split) <;> omega
theorem xg_cat {ad : Int → Nat} {v : AV} (h : (xg ad v).category = 2) : v.1 = 1 := by
  obtain ⟨t, z⟩ := v
  match t, h with
  | 0, h => simp [xg, Value.category] at h
  | 1, _ => rfl
  | n + 2, h => simp [xg, Value.category] at h
theorem xg_cat1 {ad : Int → Nat} {v : AV} (h : ¬ v.1 = 1) : (xg ad v).category = 1 := by
  rcases lv_cat (xg ad v) with q | q
  · exact q
  · exact absurd (xg_cat q) h
def lvO (ad : Int → Nat) (L : List AV) : List (Nat × Value) := (List.range L.length).filterMap (fun i => match L[i]? with
  | some v => if v.1 = 9 then none else some (i, xg ad v)
  | none => none)
theorem lvO_mem {ad : Int → Nat} {L : List AV} {i : Nat} {v : AV} (h : L[i]? = some v) (h9 : ¬ v.1 = 9) : (i, xg ad v) ∈ lvO ad L := by
  unfold lvO
  refine List.mem_filterMap.mpr ⟨i, List.mem_range.mpr (List.getElem?_eq_some_iff.mp h).1, ?_⟩
  rw [h]
  simp [h9]
theorem lvO_has {ad : Int → Nat} {nL : Nat} {ls : Array Slot} {L : List AV} (h : HL ad nL ls L) : lv_has ls nL (lvO ad L) := by
  refine ⟨h.1, h.2.1, fun q hq => ?_⟩
  obtain ⟨i, -, hi⟩ := List.mem_filterMap.mp hq
  cases hv : L[i]? with
  | none => rw [hv] at hi; cases hi
  | some v =>
    rw [hv] at hi
    by_cases h9 : v.1 = 9
    · simp [h9] at hi
    · simp only [h9, if_false] at hi
      cases hi
      exact (h.2.2 i v hv h9).1
def lclr (L : List AV) (i : Nat) : List AV := match i with
  | 0 => L
  | n + 1 => match L[n]? with
    | some (1, _) => L.set n (9, 0)
    | _ => L
theorem lclr_get {L : List AV} {i j : Nat} {w : AV} (h : (lclr L i)[j]? = some w) (h9 : ¬ w.1 = 9) : L[j]? = some w ∧ (j + 1 = i → ¬ w.1 = 1) := by
  cases i with
  | zero => exact ⟨h, fun e => by omega⟩
  | succ n =>
    have h : (match L[n]? with
      | some (1, _) => L.set n (9, 0)
      | _ => L)[j]? = some w := h
    split at h
    · rename_i z hz
      by_cases e : n = j
      · subst e
        rw [List.getElem?_set_self (List.getElem?_eq_some_iff.mp hz).1] at h
        cases h
        exact absurd rfl h9
      · rw [List.getElem?_set_ne e] at h
        exact ⟨h, fun q => by omega⟩
    · rename_i hn
      refine ⟨h, fun q z => ?_⟩
      have e : n = j := by omega
      subst e
      obtain ⟨t, y⟩ := w
      have z : t = 1 := z
      subst z
      exact hn y h
theorem HL_st1 {ad : Int → Nat} {nL : Nat} {ls ls9 : Array Slot} {L : List AV} {i : Nat} {v : AV} (h : HL ad nL ls L) (h1 : ¬ v.1 = 1) (hv : vv v) (h9 : lv_has ls9 nL ((i, xg ad v) :: (lvO ad L).filter (fun q => !(q.1 == i) && !(q.1 + 1 == i && q.2.category == 2)))) : HL ad nL ls9 ((lclr L i).set i v) := by
  refine ⟨h9.1, h9.2.1, fun j w hj hw => ?_⟩
  by_cases e : i = j
  · subst e
    have hl := (List.getElem?_eq_some_iff.mp hj).1
    rw [List.length_set] at hl
    rw [List.getElem?_set_self hl] at hj
    cases hj
    exact ⟨h9.2.2 (i, xg ad v) List.mem_cons_self, hv⟩
  · rw [List.getElem?_set_ne e] at hj
    obtain ⟨q1, q2⟩ := lclr_get hj hw
    refine ⟨h9.2.2 (j, xg ad w) (List.mem_cons_of_mem _ (List.mem_filter.mpr ⟨lvO_mem q1 hw, ?_⟩)), (h.2.2 j w q1 hw).2⟩
    have e2 : ¬ j = i := fun q => e q.symm
    by_cases e3 : j + 1 = i
    · have e4 : ¬ (xg ad w).category = 2 := fun q => q2 e3 (xg_cat q)
      simp [e2, e4]
    · simp [e2, e3]
theorem HL_st2 {ad : Int → Nat} {nL : Nat} {ls ls9 : Array Slot} {L : List AV} {i : Nat} {z : Int} (h : HL ad nL ls L) (hv : vv (1, z)) (h9 : lv_has ls9 nL ((i, Value.long (Int64.ofInt z)) :: (lvO ad L).filter (fun q => !(q.1 == i) && (!(q.1 == i + 1) && !(q.1 + 1 == i && q.2.category == 2))))) : HL ad nL ls9 (((lclr L i).set i (1, z)).set (i + 1) (9, 0)) := by
  refine ⟨h9.1, h9.2.1, fun j w hj hw => ?_⟩
  by_cases e0 : i + 1 = j
  · subst e0
    have hl := (List.getElem?_eq_some_iff.mp hj).1
    rw [List.length_set] at hl
    rw [List.getElem?_set_self hl] at hj
    cases hj
    exact absurd rfl hw
  · rw [List.getElem?_set_ne e0] at hj
    by_cases e : i = j
    · subst e
      have hl := (List.getElem?_eq_some_iff.mp hj).1
      rw [List.length_set] at hl
      rw [List.getElem?_set_self hl] at hj
      cases hj
      exact ⟨h9.2.2 (i, Value.long (Int64.ofInt z)) List.mem_cons_self, hv⟩
    · rw [List.getElem?_set_ne e] at hj
      obtain ⟨q1, q2⟩ := lclr_get hj hw
      refine ⟨h9.2.2 (j, xg ad w) (List.mem_cons_of_mem _ (List.mem_filter.mpr ⟨lvO_mem q1 hw, ?_⟩)), (h.2.2 j w q1 hw).2⟩
      have e2 : ¬ j = i := fun q => e q.symm
      have e5 : ¬ j = i + 1 := fun q => e0 q.symm
      by_cases e3 : j + 1 = i
      · have e4 : ¬ (xg ad w).category = 2 := fun q => q2 e3 (xg_cat q)
        simp [e2, e4, e5]
      · simp [e2, e3, e5]
theorem s_iconst {mi : MI} {X : Nat × (Int → Int)} {pc : Nat} {L S : List AV} {h : HP} {Q : Int → HP → Prop} (n : Nat) {z : Int} (hn : pc + 1 = n) (hd : decode mi.2.1 pc = .ok (.iconst z, 1)) (hz : inI z) (H : Wd mi X n L ((0, z) :: S) h Q) : Wd mi X pc L S h Q := by
  subst hn
  intro p l e R s m args below meth c HH locs cells slots D E ad A ls Qm hC hS hL hv hr
  have hx := hC.1
  have hb := hC.2.1
  exact lv_iconst hx hb hd rfl (H p l e R s m args below meth c HH locs cells slots D E ad A ls Qm hC hS hL (VS.c (vvI hz) hv) hr)
theorem s_bipush {mi : MI} {X : Nat × (Int → Int)} {pc : Nat} {L S : List AV} {h : HP} {Q : Int → HP → Prop} (n : Nat) {z : Int} (hn : pc + 2 = n) (hd : decode mi.2.1 pc = .ok (.bipush z, 2)) (hw : (Int8.ofInt z).toInt32 = Int32.ofInt z) (hz : inI z) (H : Wd mi X n L ((0, z) :: S) h Q) : Wd mi X pc L S h Q := by
  subst hn
  intro p l e R s m args below meth c HH locs cells slots D E ad A ls Qm hC hS hL hv hr
  have hx := hC.1
  have hb := hC.2.1
  exact lv_bipush hx hb hd hw (H p l e R s m args below meth c HH locs cells slots D E ad A ls Qm hC hS hL (VS.c (vvI hz) hv) hr)
theorem s_sipush {mi : MI} {X : Nat × (Int → Int)} {pc : Nat} {L S : List AV} {h : HP} {Q : Int → HP → Prop} (n : Nat) {z : Int} (hn : pc + 3 = n) (hd : decode mi.2.1 pc = .ok (.sipush z, 3)) (hw : (Int16.ofInt z).toInt32 = Int32.ofInt z) (hz : inI z) (H : Wd mi X n L ((0, z) :: S) h Q) : Wd mi X pc L S h Q := by
  subst hn
  intro p l e R s m args below meth c HH locs cells slots D E ad A ls Qm hC hS hL hv hr
  have hx := hC.1
  have hb := hC.2.1
  exact lv_sipush hx hb hd hw (H p l e R s m args below meth c HH locs cells slots D E ad A ls Qm hC hS hL (VS.c (vvI hz) hv) hr)
theorem s_lconst {mi : MI} {X : Nat × (Int → Int)} {pc : Nat} {L S : List AV} {h : HP} {Q : Int → HP → Prop} (n : Nat) {f : Fin 2} (z : Int) (hn : pc + 1 = n) (hd : decode mi.2.1 pc = .ok (.lconst f, 1)) (hw : Int64.ofNat (f : Nat) = Int64.ofInt z) (hz : inJ z) (H : Wd mi X n L ((1, z) :: S) h Q) : Wd mi X pc L S h Q := by
  subst hn
  intro p l e R s m args below meth c HH locs cells slots D E ad A ls Qm hC hS hL hv hr
  have hx := hC.1
  have hb := hC.2.1
  exact lv_lconst hx hb hd hw (H p l e R s m args below meth c HH locs cells slots D E ad A ls Qm hC hS hL (VS.c (vvJ hz) hv) hr)
theorem s_ldc {mi : MI} {X : Nat × (Int → Int)} {pc : Nat} {L S : List AV} {h : HP} {Q : Int → HP → Prop} (n : Nat) {idx : Nat} (z : Int) (hn : pc + 2 = n) (hd : decode mi.2.1 pc = .ok (.ldc idx, 2)) (hw : Cond.constant mi.1.cls idx (Int32.ofInt z) ∈ gtbl) (hz : inI z) (H : Wd mi X n L ((0, z) :: S) h Q) : Wd mi X pc L S h Q := by
  subst hn
  intro p l e R s m args below meth c HH locs cells slots D E ad A ls Qm hC hS hL hv hr
  have hx := hC.1
  have hb := hC.2.1
  exact lv_ldc hx hb hC.2.2.2.1 (hC.2.2.2.2.1 _ hw) hd (H p l e R s m args below meth c HH locs cells slots D E ad A ls Qm hC hS hL (VS.c (vvI hz) hv) hr)
theorem s_ldc2 {mi : MI} {X : Nat × (Int → Int)} {pc : Nat} {L S : List AV} {h : HP} {Q : Int → HP → Prop} (n : Nat) {idx : Nat} (z : Int) (hn : pc + 3 = n) (hd : decode mi.2.1 pc = .ok (.ldc2_w idx, 3)) (hw : Cond.constantLong mi.1.cls idx (Int64.ofInt z) ∈ gtbl) (hz : inJ z) (H : Wd mi X n L ((1, z) :: S) h Q) : Wd mi X pc L S h Q := by
  subst hn
  intro p l e R s m args below meth c HH locs cells slots D E ad A ls Qm hC hS hL hv hr
  have hx := hC.1
  have hb := hC.2.1
  exact lv_ldc2 hx hb hC.2.2.2.1 (hC.2.2.2.2.1 _ hw) hd (H p l e R s m args below meth c HH locs cells slots D E ad A ls Qm hC hS hL (VS.c (vvJ hz) hv) hr)
theorem s_iload_n {mi : MI} {X : Nat × (Int → Int)} {pc : Nat} {L S : List AV} {h : HP} {Q : Int → HP → Prop} (n : Nat) {f : Fin 4} (i : Nat) {z : Int} (hn : pc + 1 = n) (hd : decode mi.2.1 pc = .ok (.iload_n f, 1)) (hi : (f : Nat) = i) (hl : L[i]? = some (0, z)) (H : Wd mi X n L ((0, z) :: S) h Q) : Wd mi X pc L S h Q := by
  subst hn
  intro p l e R s m args below meth c HH locs cells slots D E ad A ls Qm hC hS hL hv hr
  have hx := hC.1
  have hb := hC.2.1
  have q := hL.2.2 i _ hl (by decide : ¬ (0 : Nat) = 9)
  exact lv_iload_n hx hb hd hi q.1 (H p l e R s m args below meth c HH locs cells slots D E ad A ls Qm hC hS hL (VS.c q.2 hv) hr)
theorem s_iload {mi : MI} {X : Nat × (Int → Int)} {pc : Nat} {L S : List AV} {h : HP} {Q : Int → HP → Prop} (n : Nat) (i : Nat) {z : Int} (hn : pc + 2 = n) (hd : decode mi.2.1 pc = .ok (.iload i, 2)) (hl : L[i]? = some (0, z)) (H : Wd mi X n L ((0, z) :: S) h Q) : Wd mi X pc L S h Q := by
  subst hn
  intro p l e R s m args below meth c HH locs cells slots D E ad A ls Qm hC hS hL hv hr
  have hx := hC.1
  have hb := hC.2.1
  have q := hL.2.2 i _ hl (by decide : ¬ (0 : Nat) = 9)
  exact lv_iload hx hb hd q.1 (H p l e R s m args below meth c HH locs cells slots D E ad A ls Qm hC hS hL (VS.c q.2 hv) hr)
theorem s_lload_n {mi : MI} {X : Nat × (Int → Int)} {pc : Nat} {L S : List AV} {h : HP} {Q : Int → HP → Prop} (n : Nat) {f : Fin 4} (i : Nat) {z : Int} (hn : pc + 1 = n) (hd : decode mi.2.1 pc = .ok (.lload_n f, 1)) (hi : (f : Nat) = i) (hl : L[i]? = some (1, z)) (H : Wd mi X n L ((1, z) :: S) h Q) : Wd mi X pc L S h Q := by
  subst hn
  intro p l e R s m args below meth c HH locs cells slots D E ad A ls Qm hC hS hL hv hr
  have hx := hC.1
  have hb := hC.2.1
  have q := hL.2.2 i _ hl (by decide : ¬ (1 : Nat) = 9)
  exact lv_lload_n hx hb hd hi q.1 (H p l e R s m args below meth c HH locs cells slots D E ad A ls Qm hC hS hL (VS.c q.2 hv) hr)
theorem s_lload {mi : MI} {X : Nat × (Int → Int)} {pc : Nat} {L S : List AV} {h : HP} {Q : Int → HP → Prop} (n : Nat) (i : Nat) {z : Int} (hn : pc + 2 = n) (hd : decode mi.2.1 pc = .ok (.lload i, 2)) (hl : L[i]? = some (1, z)) (H : Wd mi X n L ((1, z) :: S) h Q) : Wd mi X pc L S h Q := by
  subst hn
  intro p l e R s m args below meth c HH locs cells slots D E ad A ls Qm hC hS hL hv hr
  have hx := hC.1
  have hb := hC.2.1
  have q := hL.2.2 i _ hl (by decide : ¬ (1 : Nat) = 9)
  exact lv_lload hx hb hd q.1 (H p l e R s m args below meth c HH locs cells slots D E ad A ls Qm hC hS hL (VS.c q.2 hv) hr)
theorem s_aload_n {mi : MI} {X : Nat × (Int → Int)} {pc : Nat} {L S : List AV} {h : HP} {Q : Int → HP → Prop} (n : Nat) {f : Fin 4} (i : Nat) {z : Int} (hn : pc + 1 = n) (hd : decode mi.2.1 pc = .ok (.aload_n f, 1)) (hi : (f : Nat) = i) (hl : L[i]? = some (2, z)) (H : Wd mi X n L ((2, z) :: S) h Q) : Wd mi X pc L S h Q := by
  subst hn
  intro p l e R s m args below meth c HH locs cells slots D E ad A ls Qm hC hS hL hv hr
  have hx := hC.1
  have hb := hC.2.1
  have q := hL.2.2 i _ hl (by decide : ¬ (2 : Nat) = 9)
  exact lv_aload_n hx hb hd hi q.1 (H p l e R s m args below meth c HH locs cells slots D E ad A ls Qm hC hS hL (VS.c q.2 hv) hr)
theorem s_aload {mi : MI} {X : Nat × (Int → Int)} {pc : Nat} {L S : List AV} {h : HP} {Q : Int → HP → Prop} (n : Nat) (i : Nat) {z : Int} (hn : pc + 2 = n) (hd : decode mi.2.1 pc = .ok (.aload i, 2)) (hl : L[i]? = some (2, z)) (H : Wd mi X n L ((2, z) :: S) h Q) : Wd mi X pc L S h Q := by
  subst hn
  intro p l e R s m args below meth c HH locs cells slots D E ad A ls Qm hC hS hL hv hr
  have hx := hC.1
  have hb := hC.2.1
  have q := hL.2.2 i _ hl (by decide : ¬ (2 : Nat) = 9)
  exact lv_aload hx hb hd q.1 (H p l e R s m args below meth c HH locs cells slots D E ad A ls Qm hC hS hL (VS.c q.2 hv) hr)
theorem s_istore_n {mi : MI} {X : Nat × (Int → Int)} {pc : Nat} {L S : List AV} {h : HP} {Q : Int → HP → Prop} (n : Nat) {f : Fin 4} (i : Nat) {z : Int} {L2 : List AV} (hn : pc + 1 = n) (hd : decode mi.2.1 pc = .ok (.istore_n f, 1)) (hi : (f : Nat) = i) (hin : i < mi.2.2.1) (hl : (lclr L i).set i (0, z) = L2) (H : Wd mi X n L2 S h Q) : Wd mi X pc L ((0, z) :: S) h Q := by
  subst hn
  subst hl
  intro p l e R s m args below meth c HH locs cells slots D E ad A ls Qm hC hS hL hv hr
  have hx := hC.1
  have hb := hC.2.1
  refine lv_istore_n hx hb hd hi (lvO_has hL) hin rfl (fun ls9 h9 => ?_)
  have hL9 := HL_st1 (v := (0, z)) hL (by decide : ¬ (0 : Nat) = 1) hv.h h9
  exact H p l e R s m args below meth c HH locs cells slots D E ad A ls9 Qm hC hS hL9 hv.t hr
theorem s_istore {mi : MI} {X : Nat × (Int → Int)} {pc : Nat} {L S : List AV} {h : HP} {Q : Int → HP → Prop} (n : Nat) (i : Nat) {z : Int} {L2 : List AV} (hn : pc + 2 = n) (hd : decode mi.2.1 pc = .ok (.istore i, 2)) (hin : i < mi.2.2.1) (hl : (lclr L i).set i (0, z) = L2) (H : Wd mi X n L2 S h Q) : Wd mi X pc L ((0, z) :: S) h Q := by
  subst hn
  subst hl
  intro p l e R s m args below meth c HH locs cells slots D E ad A ls Qm hC hS hL hv hr
  have hx := hC.1
  have hb := hC.2.1
  refine lv_istore hx hb hd (lvO_has hL) hin rfl (fun ls9 h9 => ?_)
  have hL9 := HL_st1 (v := (0, z)) hL (by decide : ¬ (0 : Nat) = 1) hv.h h9
  exact H p l e R s m args below meth c HH locs cells slots D E ad A ls9 Qm hC hS hL9 hv.t hr
theorem s_astore_n {mi : MI} {X : Nat × (Int → Int)} {pc : Nat} {L S : List AV} {h : HP} {Q : Int → HP → Prop} (n : Nat) {f : Fin 4} (i : Nat) {z : Int} {L2 : List AV} (hn : pc + 1 = n) (hd : decode mi.2.1 pc = .ok (.astore_n f, 1)) (hi : (f : Nat) = i) (hin : i < mi.2.2.1) (hl : (lclr L i).set i (2, z) = L2) (H : Wd mi X n L2 S h Q) : Wd mi X pc L ((2, z) :: S) h Q := by
  subst hn
  subst hl
  intro p l e R s m args below meth c HH locs cells slots D E ad A ls Qm hC hS hL hv hr
  have hx := hC.1
  have hb := hC.2.1
  refine lv_astore_n hx hb hd hi (lvO_has hL) hin rfl (fun ls9 h9 => ?_)
  have hL9 := HL_st1 (v := (2, z)) hL (by decide : ¬ (2 : Nat) = 1) hv.h h9
  exact H p l e R s m args below meth c HH locs cells slots D E ad A ls9 Qm hC hS hL9 hv.t hr
theorem s_astore {mi : MI} {X : Nat × (Int → Int)} {pc : Nat} {L S : List AV} {h : HP} {Q : Int → HP → Prop} (n : Nat) (i : Nat) {z : Int} {L2 : List AV} (hn : pc + 2 = n) (hd : decode mi.2.1 pc = .ok (.astore i, 2)) (hin : i < mi.2.2.1) (hl : (lclr L i).set i (2, z) = L2) (H : Wd mi X n L2 S h Q) : Wd mi X pc L ((2, z) :: S) h Q := by
  subst hn
  subst hl
  intro p l e R s m args below meth c HH locs cells slots D E ad A ls Qm hC hS hL hv hr
  have hx := hC.1
  have hb := hC.2.1
  refine lv_astore hx hb hd (lvO_has hL) hin rfl (fun ls9 h9 => ?_)
  have hL9 := HL_st1 (v := (2, z)) hL (by decide : ¬ (2 : Nat) = 1) hv.h h9
  exact H p l e R s m args below meth c HH locs cells slots D E ad A ls9 Qm hC hS hL9 hv.t hr
theorem s_lstore_n {mi : MI} {X : Nat × (Int → Int)} {pc : Nat} {L S : List AV} {h : HP} {Q : Int → HP → Prop} (n : Nat) {f : Fin 4} (i : Nat) {z : Int} {L2 : List AV} (hn : pc + 1 = n) (hd : decode mi.2.1 pc = .ok (.lstore_n f, 1)) (hi : (f : Nat) = i) (hin : i + 1 < mi.2.2.1) (hl : ((lclr L i).set i (1, z)).set (i + 1) (9, 0) = L2) (H : Wd mi X n L2 S h Q) : Wd mi X pc L ((1, z) :: S) h Q := by
  subst hn
  subst hl
  intro p l e R s m args below meth c HH locs cells slots D E ad A ls Qm hC hS hL hv hr
  have hx := hC.1
  have hb := hC.2.1
  refine lv_lstore_n hx hb hd hi (lvO_has hL) hin rfl (fun ls9 h9 => ?_)
  have hL9 := HL_st2 hL hv.h h9
  exact H p l e R s m args below meth c HH locs cells slots D E ad A ls9 Qm hC hS hL9 hv.t hr
theorem s_lstore {mi : MI} {X : Nat × (Int → Int)} {pc : Nat} {L S : List AV} {h : HP} {Q : Int → HP → Prop} (n : Nat) (i : Nat) {z : Int} {L2 : List AV} (hn : pc + 2 = n) (hd : decode mi.2.1 pc = .ok (.lstore i, 2)) (hin : i + 1 < mi.2.2.1) (hl : ((lclr L i).set i (1, z)).set (i + 1) (9, 0) = L2) (H : Wd mi X n L2 S h Q) : Wd mi X pc L ((1, z) :: S) h Q := by
  subst hn
  subst hl
  intro p l e R s m args below meth c HH locs cells slots D E ad A ls Qm hC hS hL hv hr
  have hx := hC.1
  have hb := hC.2.1
  refine lv_lstore hx hb hd (lvO_has hL) hin rfl (fun ls9 h9 => ?_)
  have hL9 := HL_st2 hL hv.h h9
  exact H p l e R s m args below meth c HH locs cells slots D E ad A ls9 Qm hC hS hL9 hv.t hr
theorem s_iinc {mi : MI} {X : Nat × (Int → Int)} {pc : Nat} {L S : List AV} {h : HP} {Q : Int → HP → Prop} (n : Nat) (i : Nat) {z d : Int} {L2 : List AV} (hn : pc + 3 = n) (hd : decode mi.2.1 pc = .ok (.iinc i d, 3)) (hin : i < mi.2.2.1) (hz : L[i]? = some (0, z)) (hl : (lclr L i).set i (0, z + d) = L2) (hi : inI (z + d)) (H : Wd mi X n L2 S h Q) : Wd mi X pc L S h Q := by
  subst hn
  subst hl
  intro p l e R s m args below meth c HH locs cells slots D E ad A ls Qm hC hS hL hv hr
  have hx := hC.1
  have hb := hC.2.1
  obtain ⟨k9, hk9⟩ := List.getElem?_of_mem (lvO_mem (ad := ad) hz (by decide : ¬ (0 : Nat) = 9))
  refine lv_iinc (v := Int32.ofInt (z + d)) hx hb hd (lvO_has hL) (x := Int32.ofInt z) hk9 (by rw [Int32.ofInt_add]) hin rfl (fun ls9 h9 => ?_)
  have hL9 := HL_st1 (v := (0, z + d)) hL (by decide : ¬ (0 : Nat) = 1) (vvI hi) h9
  exact H p l e R s m args below meth c HH locs cells slots D E ad A ls9 Qm hC hS hL9 hv hr
theorem s_iadd {mi : MI} {X : Nat × (Int → Int)} {pc : Nat} {L S : List AV} {h : HP} {Q : Int → HP → Prop} (n : Nat) {a b : Int} (hn : pc + 1 = n) (hd : decode mi.2.1 pc = .ok (.iadd, 1)) (hi : inI (a + b)) (H : Wd mi X n L ((0, a + b) :: S) h Q) : Wd mi X pc L ((0, b) :: (0, a) :: S) h Q := by
  subst hn
  intro p l e R s m args below meth c HH locs cells slots D E ad A ls Qm hC hS hL hv hr
  have hx := hC.1
  have hb := hC.2.1
  refine lv_iadd hx hb hd ?_
  rw [← Int32.ofInt_add]
  exact H p l e R s m args below meth c HH locs cells slots D E ad A ls Qm hC hS hL (VS.c (vvI hi) hv.t.t) hr
theorem s_isub {mi : MI} {X : Nat × (Int → Int)} {pc : Nat} {L S : List AV} {h : HP} {Q : Int → HP → Prop} (n : Nat) {a b : Int} (hn : pc + 1 = n) (hd : decode mi.2.1 pc = .ok (.isub, 1)) (hi : inI (a - b)) (H : Wd mi X n L ((0, a - b) :: S) h Q) : Wd mi X pc L ((0, b) :: (0, a) :: S) h Q := by
  subst hn
  intro p l e R s m args below meth c HH locs cells slots D E ad A ls Qm hC hS hL hv hr
  have hx := hC.1
  have hb := hC.2.1
  refine lv_isub hx hb hd ?_
  rw [← Int32.ofInt_sub]
  exact H p l e R s m args below meth c HH locs cells slots D E ad A ls Qm hC hS hL (VS.c (vvI hi) hv.t.t) hr
theorem s_imul {mi : MI} {X : Nat × (Int → Int)} {pc : Nat} {L S : List AV} {h : HP} {Q : Int → HP → Prop} (n : Nat) {a b : Int} (hn : pc + 1 = n) (hd : decode mi.2.1 pc = .ok (.imul, 1)) (hi : inI (a * b)) (H : Wd mi X n L ((0, a * b) :: S) h Q) : Wd mi X pc L ((0, b) :: (0, a) :: S) h Q := by
  subst hn
  intro p l e R s m args below meth c HH locs cells slots D E ad A ls Qm hC hS hL hv hr
  have hx := hC.1
  have hb := hC.2.1
  refine lv_imul hx hb hd ?_
  rw [← Int32.ofInt_mul]
  exact H p l e R s m args below meth c HH locs cells slots D E ad A ls Qm hC hS hL (VS.c (vvI hi) hv.t.t) hr
theorem s_ineg {mi : MI} {X : Nat × (Int → Int)} {pc : Nat} {L S : List AV} {h : HP} {Q : Int → HP → Prop} (n : Nat) {a : Int} (hn : pc + 1 = n) (hd : decode mi.2.1 pc = .ok (.ineg, 1)) (hi : inI (-a)) (H : Wd mi X n L ((0, -a) :: S) h Q) : Wd mi X pc L ((0, a) :: S) h Q := by
  subst hn
  intro p l e R s m args below meth c HH locs cells slots D E ad A ls Qm hC hS hL hv hr
  have hx := hC.1
  have hb := hC.2.1
  refine lv_ineg hx hb hd ?_
  rw [← Int32.ofInt_neg]
  exact H p l e R s m args below meth c HH locs cells slots D E ad A ls Qm hC hS hL (VS.c (vvI hi) hv.t) hr
theorem s_idiv {mi : MI} {X : Nat × (Int → Int)} {pc : Nat} {L S : List AV} {h : HP} {Q : Int → HP → Prop} (n : Nat) {a b : Int} (hn : pc + 1 = n) (hd : decode mi.2.1 pc = .ok (.idiv, 1)) (h0 : ¬ b = 0) (hi : inI (a.tdiv b)) (H : Wd mi X n L ((0, a.tdiv b) :: S) h Q) : Wd mi X pc L ((0, b) :: (0, a) :: S) h Q := by
  subst hn
  intro p l e R s m args below meth c HH locs cells slots D E ad A ls Qm hC hS hL hv hr
  have hx := hC.1
  have hb := hC.2.1
  have va := hv.t.h.i
  have vb := hv.h.i
  refine lv_idiv hx hb hd (fun q => h0 ((oI_eq vb inI_0).mp q)) ?_
  rw [← oI_div va vb h0]
  exact H p l e R s m args below meth c HH locs cells slots D E ad A ls Qm hC hS hL (VS.c (vvI hi) hv.t.t) hr
theorem s_irem {mi : MI} {X : Nat × (Int → Int)} {pc : Nat} {L S : List AV} {h : HP} {Q : Int → HP → Prop} (n : Nat) {a b : Int} (hn : pc + 1 = n) (hd : decode mi.2.1 pc = .ok (.irem, 1)) (h0 : ¬ b = 0) (H : Wd mi X n L ((0, a.tmod b) :: S) h Q) : Wd mi X pc L ((0, b) :: (0, a) :: S) h Q := by
  subst hn
  intro p l e R s m args below meth c HH locs cells slots D E ad A ls Qm hC hS hL hv hr
  have hx := hC.1
  have hb := hC.2.1
  have va := hv.t.h.i
  have vb := hv.h.i
  refine lv_irem hx hb hd (fun q => h0 ((oI_eq vb inI_0).mp q)) ?_
  rw [oI_rem va vb h0]
  exact H p l e R s m args below meth c HH locs cells slots D E ad A ls Qm hC hS hL (VS.c (vvI (inI_tmod va vb h0)) hv.t.t) hr
theorem s_ladd {mi : MI} {X : Nat × (Int → Int)} {pc : Nat} {L S : List AV} {h : HP} {Q : Int → HP → Prop} (n : Nat) {a b : Int} (hn : pc + 1 = n) (hd : decode mi.2.1 pc = .ok (.ladd, 1)) (hi : inJ (a + b)) (H : Wd mi X n L ((1, a + b) :: S) h Q) : Wd mi X pc L ((1, b) :: (1, a) :: S) h Q := by
  subst hn
  intro p l e R s m args below meth c HH locs cells slots D E ad A ls Qm hC hS hL hv hr
  have hx := hC.1
  have hb := hC.2.1
  refine lv_ladd hx hb hd ?_
  rw [← Int64.ofInt_add]
  exact H p l e R s m args below meth c HH locs cells slots D E ad A ls Qm hC hS hL (VS.c (vvJ hi) hv.t.t) hr
theorem s_lsub {mi : MI} {X : Nat × (Int → Int)} {pc : Nat} {L S : List AV} {h : HP} {Q : Int → HP → Prop} (n : Nat) {a b : Int} (hn : pc + 1 = n) (hd : decode mi.2.1 pc = .ok (.lsub, 1)) (hi : inJ (a - b)) (H : Wd mi X n L ((1, a - b) :: S) h Q) : Wd mi X pc L ((1, b) :: (1, a) :: S) h Q := by
  subst hn
  intro p l e R s m args below meth c HH locs cells slots D E ad A ls Qm hC hS hL hv hr
  have hx := hC.1
  have hb := hC.2.1
  refine lv_lsub hx hb hd ?_
  rw [← Int64.ofInt_sub]
  exact H p l e R s m args below meth c HH locs cells slots D E ad A ls Qm hC hS hL (VS.c (vvJ hi) hv.t.t) hr
theorem s_lmul {mi : MI} {X : Nat × (Int → Int)} {pc : Nat} {L S : List AV} {h : HP} {Q : Int → HP → Prop} (n : Nat) {a b : Int} (hn : pc + 1 = n) (hd : decode mi.2.1 pc = .ok (.lmul, 1)) (hi : inJ (a * b)) (H : Wd mi X n L ((1, a * b) :: S) h Q) : Wd mi X pc L ((1, b) :: (1, a) :: S) h Q := by
  subst hn
  intro p l e R s m args below meth c HH locs cells slots D E ad A ls Qm hC hS hL hv hr
  have hx := hC.1
  have hb := hC.2.1
  refine lv_lmul hx hb hd ?_
  rw [← Int64.ofInt_mul]
  exact H p l e R s m args below meth c HH locs cells slots D E ad A ls Qm hC hS hL (VS.c (vvJ hi) hv.t.t) hr
theorem s_lneg {mi : MI} {X : Nat × (Int → Int)} {pc : Nat} {L S : List AV} {h : HP} {Q : Int → HP → Prop} (n : Nat) {a : Int} (hn : pc + 1 = n) (hd : decode mi.2.1 pc = .ok (.lneg, 1)) (hi : inJ (-a)) (H : Wd mi X n L ((1, -a) :: S) h Q) : Wd mi X pc L ((1, a) :: S) h Q := by
  subst hn
  intro p l e R s m args below meth c HH locs cells slots D E ad A ls Qm hC hS hL hv hr
  have hx := hC.1
  have hb := hC.2.1
  refine lv_lneg hx hb hd ?_
  rw [← Int64.ofInt_neg]
  exact H p l e R s m args below meth c HH locs cells slots D E ad A ls Qm hC hS hL (VS.c (vvJ hi) hv.t) hr
theorem s_ldiv {mi : MI} {X : Nat × (Int → Int)} {pc : Nat} {L S : List AV} {h : HP} {Q : Int → HP → Prop} (n : Nat) {a b : Int} (hn : pc + 1 = n) (hd : decode mi.2.1 pc = .ok (.ldiv, 1)) (h0 : ¬ b = 0) (hi : inJ (a.tdiv b)) (H : Wd mi X n L ((1, a.tdiv b) :: S) h Q) : Wd mi X pc L ((1, b) :: (1, a) :: S) h Q := by
  subst hn
  intro p l e R s m args below meth c HH locs cells slots D E ad A ls Qm hC hS hL hv hr
  have hx := hC.1
  have hb := hC.2.1
  have va := hv.t.h.j
  have vb := hv.h.j
  refine lv_ldiv hx hb hd (fun q => h0 ((oJ_eq vb inJ_0).mp q)) ?_
  rw [← oJ_div va vb h0]
  exact H p l e R s m args below meth c HH locs cells slots D E ad A ls Qm hC hS hL (VS.c (vvJ hi) hv.t.t) hr
theorem s_lrem {mi : MI} {X : Nat × (Int → Int)} {pc : Nat} {L S : List AV} {h : HP} {Q : Int → HP → Prop} (n : Nat) {a b : Int} (hn : pc + 1 = n) (hd : decode mi.2.1 pc = .ok (.lrem, 1)) (h0 : ¬ b = 0) (H : Wd mi X n L ((1, a.tmod b) :: S) h Q) : Wd mi X pc L ((1, b) :: (1, a) :: S) h Q := by
  subst hn
  intro p l e R s m args below meth c HH locs cells slots D E ad A ls Qm hC hS hL hv hr
  have hx := hC.1
  have hb := hC.2.1
  have va := hv.t.h.j
  have vb := hv.h.j
  refine lv_lrem hx hb hd (fun q => h0 ((oJ_eq vb inJ_0).mp q)) ?_
  rw [oJ_rem va vb h0]
  exact H p l e R s m args below meth c HH locs cells slots D E ad A ls Qm hC hS hL (VS.c (vvJ (inJ_tmod va vb h0)) hv.t.t) hr
theorem s_i2l {mi : MI} {X : Nat × (Int → Int)} {pc : Nat} {L S : List AV} {h : HP} {Q : Int → HP → Prop} (n : Nat) {a : Int} (hn : pc + 1 = n) (hd : decode mi.2.1 pc = .ok (.i2l, 1)) (H : Wd mi X n L ((1, a) :: S) h Q) : Wd mi X pc L ((0, a) :: S) h Q := by
  subst hn
  intro p l e R s m args below meth c HH locs cells slots D E ad A ls Qm hC hS hL hv hr
  have hx := hC.1
  have hb := hC.2.1
  exact lv_i2l hx hb hd (o_i2l hv.h.i) (H p l e R s m args below meth c HH locs cells slots D E ad A ls Qm hC hS hL (VS.c (vvJ (inI_J hv.h.i)) hv.t) hr)
theorem s_l2i {mi : MI} {X : Nat × (Int → Int)} {pc : Nat} {L S : List AV} {h : HP} {Q : Int → HP → Prop} (n : Nat) {a : Int} (hn : pc + 1 = n) (hd : decode mi.2.1 pc = .ok (.l2i, 1)) (hi : inI a) (H : Wd mi X n L ((0, a) :: S) h Q) : Wd mi X pc L ((1, a) :: S) h Q := by
  subst hn
  intro p l e R s m args below meth c HH locs cells slots D E ad A ls Qm hC hS hL hv hr
  have hx := hC.1
  have hb := hC.2.1
  exact lv_l2i hx hb hd Int64.toInt32_ofInt (H p l e R s m args below meth c HH locs cells slots D E ad A ls Qm hC hS hL (VS.c (vvI hi) hv.t) hr)
theorem s_l2iw {mi : MI} {X : Nat × (Int → Int)} {pc : Nat} {L S : List AV} {h : HP} {Q : Int → HP → Prop} (n : Nat) {a : Int} (hn : pc + 1 = n) (hd : decode mi.2.1 pc = .ok (.l2i, 1)) (H : Wd mi X n L ((0, a.bmod 4294967296) :: S) h Q) : Wd mi X pc L ((1, a) :: S) h Q := by
  subst hn
  intro p l e R s m args below meth c HH locs cells slots D E ad A ls Qm hC hS hL hv hr
  have hx := hC.1
  have hb := hC.2.1
  exact lv_l2i hx hb hd (o_l2iw a) (H p l e R s m args below meth c HH locs cells slots D E ad A ls Qm hC hS hL (VS.c (vvI (inI_bmod a)) hv.t) hr)
theorem s_i2s {mi : MI} {X : Nat × (Int → Int)} {pc : Nat} {L S : List AV} {h : HP} {Q : Int → HP → Prop} (n : Nat) {a : Int} (hn : pc + 1 = n) (hd : decode mi.2.1 pc = .ok (.i2s, 1)) (H : Wd mi X n L ((0, a.bmod 65536) :: S) h Q) : Wd mi X pc L ((0, a) :: S) h Q := by
  subst hn
  intro p l e R s m args below meth c HH locs cells slots D E ad A ls Qm hC hS hL hv hr
  have hx := hC.1
  have hb := hC.2.1
  exact lv_i2s hx hb hd (o_i2s a) (H p l e R s m args below meth c HH locs cells slots D E ad A ls Qm hC hS hL (VS.c (vvI (inI_bmods a)) hv.t) hr)
theorem s_iand {mi : MI} {X : Nat × (Int → Int)} {pc : Nat} {L S : List AV} {h : HP} {Q : Int → HP → Prop} (n : Nat) {a b : Int} (hn : pc + 1 = n) (hd : decode mi.2.1 pc = .ok (.iand, 1)) (H : Wd mi X n L ((0, (Int32.ofInt a &&& Int32.ofInt b).toInt) :: S) h Q) : Wd mi X pc L ((0, b) :: (0, a) :: S) h Q := by
  subst hn
  intro p l e R s m args below meth c HH locs cells slots D E ad A ls Qm hC hS hL hv hr
  have hx := hC.1
  have hb := hC.2.1
  refine lv_iand hx hb hd ?_
  rw [← Int32.ofInt_toInt (Int32.ofInt a &&& Int32.ofInt b)]
  exact H p l e R s m args below meth c HH locs cells slots D E ad A ls Qm hC hS hL (VS.c (vvI (inI_toInt _)) hv.t.t) hr
theorem s_land {mi : MI} {X : Nat × (Int → Int)} {pc : Nat} {L S : List AV} {h : HP} {Q : Int → HP → Prop} (n : Nat) {a b : Int} (hn : pc + 1 = n) (hd : decode mi.2.1 pc = .ok (.land, 1)) (H : Wd mi X n L ((1, (Int64.ofInt a &&& Int64.ofInt b).toInt) :: S) h Q) : Wd mi X pc L ((1, b) :: (1, a) :: S) h Q := by
  subst hn
  intro p l e R s m args below meth c HH locs cells slots D E ad A ls Qm hC hS hL hv hr
  have hx := hC.1
  have hb := hC.2.1
  refine lv_land hx hb hd ?_
  rw [← Int64.ofInt_toInt (Int64.ofInt a &&& Int64.ofInt b)]
  exact H p l e R s m args below meth c HH locs cells slots D E ad A ls Qm hC hS hL (VS.c (vvJ (inJ_toInt _)) hv.t.t) hr
theorem s_ior {mi : MI} {X : Nat × (Int → Int)} {pc : Nat} {L S : List AV} {h : HP} {Q : Int → HP → Prop} (n : Nat) {a b : Int} (hn : pc + 1 = n) (hd : decode mi.2.1 pc = .ok (.ior, 1)) (H : Wd mi X n L ((0, (Int32.ofInt a ||| Int32.ofInt b).toInt) :: S) h Q) : Wd mi X pc L ((0, b) :: (0, a) :: S) h Q := by
  subst hn
  intro p l e R s m args below meth c HH locs cells slots D E ad A ls Qm hC hS hL hv hr
  have hx := hC.1
  have hb := hC.2.1
  refine lv_ior hx hb hd ?_
  rw [← Int32.ofInt_toInt (Int32.ofInt a ||| Int32.ofInt b)]
  exact H p l e R s m args below meth c HH locs cells slots D E ad A ls Qm hC hS hL (VS.c (vvI (inI_toInt _)) hv.t.t) hr
theorem s_lor {mi : MI} {X : Nat × (Int → Int)} {pc : Nat} {L S : List AV} {h : HP} {Q : Int → HP → Prop} (n : Nat) {a b : Int} (hn : pc + 1 = n) (hd : decode mi.2.1 pc = .ok (.lor, 1)) (H : Wd mi X n L ((1, (Int64.ofInt a ||| Int64.ofInt b).toInt) :: S) h Q) : Wd mi X pc L ((1, b) :: (1, a) :: S) h Q := by
  subst hn
  intro p l e R s m args below meth c HH locs cells slots D E ad A ls Qm hC hS hL hv hr
  have hx := hC.1
  have hb := hC.2.1
  refine lv_lor hx hb hd ?_
  rw [← Int64.ofInt_toInt (Int64.ofInt a ||| Int64.ofInt b)]
  exact H p l e R s m args below meth c HH locs cells slots D E ad A ls Qm hC hS hL (VS.c (vvJ (inJ_toInt _)) hv.t.t) hr
theorem s_ixor {mi : MI} {X : Nat × (Int → Int)} {pc : Nat} {L S : List AV} {h : HP} {Q : Int → HP → Prop} (n : Nat) {a b : Int} (hn : pc + 1 = n) (hd : decode mi.2.1 pc = .ok (.ixor, 1)) (H : Wd mi X n L ((0, (Int32.ofInt a ^^^ Int32.ofInt b).toInt) :: S) h Q) : Wd mi X pc L ((0, b) :: (0, a) :: S) h Q := by
  subst hn
  intro p l e R s m args below meth c HH locs cells slots D E ad A ls Qm hC hS hL hv hr
  have hx := hC.1
  have hb := hC.2.1
  refine lv_ixor hx hb hd ?_
  rw [← Int32.ofInt_toInt (Int32.ofInt a ^^^ Int32.ofInt b)]
  exact H p l e R s m args below meth c HH locs cells slots D E ad A ls Qm hC hS hL (VS.c (vvI (inI_toInt _)) hv.t.t) hr
theorem s_lxor {mi : MI} {X : Nat × (Int → Int)} {pc : Nat} {L S : List AV} {h : HP} {Q : Int → HP → Prop} (n : Nat) {a b : Int} (hn : pc + 1 = n) (hd : decode mi.2.1 pc = .ok (.lxor, 1)) (H : Wd mi X n L ((1, (Int64.ofInt a ^^^ Int64.ofInt b).toInt) :: S) h Q) : Wd mi X pc L ((1, b) :: (1, a) :: S) h Q := by
  subst hn
  intro p l e R s m args below meth c HH locs cells slots D E ad A ls Qm hC hS hL hv hr
  have hx := hC.1
  have hb := hC.2.1
  refine lv_lxor hx hb hd ?_
  rw [← Int64.ofInt_toInt (Int64.ofInt a ^^^ Int64.ofInt b)]
  exact H p l e R s m args below meth c HH locs cells slots D E ad A ls Qm hC hS hL (VS.c (vvJ (inJ_toInt _)) hv.t.t) hr
theorem s_lshr {mi : MI} {X : Nat × (Int → Int)} {pc : Nat} {L S : List AV} {h : HP} {Q : Int → HP → Prop} (n : Nat) {a b : Int} (hn : pc + 1 = n) (hd : decode mi.2.1 pc = .ok (.lshr, 1)) (H : Wd mi X n L ((1, (Int64.ofInt a >>> ((Int32.ofInt b).toInt64 &&& 63)).toInt) :: S) h Q) : Wd mi X pc L ((0, b) :: (1, a) :: S) h Q := by
  subst hn
  intro p l e R s m args below meth c HH locs cells slots D E ad A ls Qm hC hS hL hv hr
  have hx := hC.1
  have hb := hC.2.1
  exact lv_lshr hx hb hd (Int64.ofInt_toInt _).symm (H p l e R s m args below meth c HH locs cells slots D E ad A ls Qm hC hS hL (VS.c (vvJ (inJ_toInt _)) hv.t.t) hr)
theorem s_lshl {mi : MI} {X : Nat × (Int → Int)} {pc : Nat} {L S : List AV} {h : HP} {Q : Int → HP → Prop} (n : Nat) {a b : Int} (hn : pc + 1 = n) (hd : decode mi.2.1 pc = .ok (.lshl, 1)) (H : Wd mi X n L ((1, (Int64.ofInt a <<< ((Int32.ofInt b).toInt64 &&& 63)).toInt) :: S) h Q) : Wd mi X pc L ((0, b) :: (1, a) :: S) h Q := by
  subst hn
  intro p l e R s m args below meth c HH locs cells slots D E ad A ls Qm hC hS hL hv hr
  have hx := hC.1
  have hb := hC.2.1
  exact lv_lshl hx hb hd (Int64.ofInt_toInt _).symm (H p l e R s m args below meth c HH locs cells slots D E ad A ls Qm hC hS hL (VS.c (vvJ (inJ_toInt _)) hv.t.t) hr)
theorem s_dup {mi : MI} {X : Nat × (Int → Int)} {pc : Nat} {L S : List AV} {h : HP} {Q : Int → HP → Prop} (n : Nat) {v : AV} (hn : pc + 1 = n) (hd : decode mi.2.1 pc = .ok (.dup, 1)) (hc : ¬ v.1 = 1) (H : Wd mi X n L (v :: v :: S) h Q) : Wd mi X pc L (v :: S) h Q := by
  subst hn
  intro p l e R s m args below meth c HH locs cells slots D E ad A ls Qm hC hS hL hv hr
  have hx := hC.1
  have hb := hC.2.1
  exact lv_dup hx hb hd (xg_cat1 hc) (H p l e R s m args below meth c HH locs cells slots D E ad A ls Qm hC hS hL (VS.c hv.h hv) hr)
theorem s_dup2 {mi : MI} {X : Nat × (Int → Int)} {pc : Nat} {L S : List AV} {h : HP} {Q : Int → HP → Prop} (n : Nat) {v w : AV} (hn : pc + 1 = n) (hd : decode mi.2.1 pc = .ok (.dup2, 1)) (hc : ¬ v.1 = 1) (hw : ¬ w.1 = 1) (H : Wd mi X n L (v :: w :: v :: w :: S) h Q) : Wd mi X pc L (v :: w :: S) h Q := by
  subst hn
  intro p l e R s m args below meth c HH locs cells slots D E ad A ls Qm hC hS hL hv hr
  have hx := hC.1
  have hb := hC.2.1
  exact lv_dup2_11 hx hb hd (xg_cat1 hc) (xg_cat1 hw) (H p l e R s m args below meth c HH locs cells slots D E ad A ls Qm hC hS hL (VS.c hv.h (VS.c hv.t.h hv)) hr)
theorem s_icmp_eq {mi : MI} {X : Nat × (Int → Int)} {pc : Nat} {L S : List AV} {h : HP} {Q : Int → HP → Prop} (n t : Nat) {a b : Int} {off : Int} (hn : pc + 3 = n) (hd : decode mi.2.1 pc = .ok (.if_icmp .eq off, 3)) (ht : (pc : Int) + off = (t : Int)) (Ht : a = b → Wd mi X t L S h Q) (Hf : ¬ (a = b) → Wd mi X n L S h Q) : Wd mi X pc L ((0, b) :: (0, a) :: S) h Q := by
  subst hn
  intro p l e R s m args below meth c HH locs cells slots D E ad A ls Qm hC hS hL hv hr
  have hx := hC.1
  have hb := hC.2.1
  have va := hv.t.h.i
  have vb := hv.h.i
  have q9 := oI_eq va vb
  have q := oI_eq va vb
  exact lv_icmp_eq hx hb hd ht (fun z => Ht (q.mp z) p l e R s m args below meth c HH locs cells slots D E ad A ls Qm hC hS hL hv.t.t hr) (fun z => Hf (fun y => z (q.mpr y)) p l e R s m args below meth c HH locs cells slots D E ad A ls Qm hC hS hL hv.t.t hr)
theorem s_if_eq {mi : MI} {X : Nat × (Int → Int)} {pc : Nat} {L S : List AV} {h : HP} {Q : Int → HP → Prop} (n t : Nat) {a : Int} {off : Int} (hn : pc + 3 = n) (hd : decode mi.2.1 pc = .ok (.ifCond .eq off, 3)) (ht : (pc : Int) + off = (t : Int)) (Ht : a = 0 → Wd mi X t L S h Q) (Hf : ¬ (a = 0) → Wd mi X n L S h Q) : Wd mi X pc L ((0, a) :: S) h Q := by
  subst hn
  intro p l e R s m args below meth c HH locs cells slots D E ad A ls Qm hC hS hL hv hr
  have hx := hC.1
  have hb := hC.2.1
  have va := hv.h.i
  have q9 := oI_eq va inI_0
  have q := oI_eq va inI_0
  exact lv_if_eq hx hb hd ht (fun z => Ht (q.mp z) p l e R s m args below meth c HH locs cells slots D E ad A ls Qm hC hS hL hv.t hr) (fun z => Hf (fun y => z (q.mpr y)) p l e R s m args below meth c HH locs cells slots D E ad A ls Qm hC hS hL hv.t hr)
theorem s_icmp_ne {mi : MI} {X : Nat × (Int → Int)} {pc : Nat} {L S : List AV} {h : HP} {Q : Int → HP → Prop} (n t : Nat) {a b : Int} {off : Int} (hn : pc + 3 = n) (hd : decode mi.2.1 pc = .ok (.if_icmp .ne off, 3)) (ht : (pc : Int) + off = (t : Int)) (Ht : ¬ a = b → Wd mi X t L S h Q) (Hf : a = b → Wd mi X n L S h Q) : Wd mi X pc L ((0, b) :: (0, a) :: S) h Q := by
  subst hn
  intro p l e R s m args below meth c HH locs cells slots D E ad A ls Qm hC hS hL hv hr
  have hx := hC.1
  have hb := hC.2.1
  have va := hv.t.h.i
  have vb := hv.h.i
  have q9 := oI_eq va vb
  have q := not_congr (oI_eq va vb)
  exact lv_icmp_ne hx hb hd ht (fun z => Ht (q.mp z) p l e R s m args below meth c HH locs cells slots D E ad A ls Qm hC hS hL hv.t.t hr) (fun z => Hf (q9.mp z) p l e R s m args below meth c HH locs cells slots D E ad A ls Qm hC hS hL hv.t.t hr)
theorem s_if_ne {mi : MI} {X : Nat × (Int → Int)} {pc : Nat} {L S : List AV} {h : HP} {Q : Int → HP → Prop} (n t : Nat) {a : Int} {off : Int} (hn : pc + 3 = n) (hd : decode mi.2.1 pc = .ok (.ifCond .ne off, 3)) (ht : (pc : Int) + off = (t : Int)) (Ht : ¬ a = 0 → Wd mi X t L S h Q) (Hf : a = 0 → Wd mi X n L S h Q) : Wd mi X pc L ((0, a) :: S) h Q := by
  subst hn
  intro p l e R s m args below meth c HH locs cells slots D E ad A ls Qm hC hS hL hv hr
  have hx := hC.1
  have hb := hC.2.1
  have va := hv.h.i
  have q9 := oI_eq va inI_0
  have q := not_congr (oI_eq va inI_0)
  exact lv_if_ne hx hb hd ht (fun z => Ht (q.mp z) p l e R s m args below meth c HH locs cells slots D E ad A ls Qm hC hS hL hv.t hr) (fun z => Hf (q9.mp z) p l e R s m args below meth c HH locs cells slots D E ad A ls Qm hC hS hL hv.t hr)
theorem s_icmp_lt {mi : MI} {X : Nat × (Int → Int)} {pc : Nat} {L S : List AV} {h : HP} {Q : Int → HP → Prop} (n t : Nat) {a b : Int} {off : Int} (hn : pc + 3 = n) (hd : decode mi.2.1 pc = .ok (.if_icmp .lt off, 3)) (ht : (pc : Int) + off = (t : Int)) (Ht : a < b → Wd mi X t L S h Q) (Hf : ¬ (a < b) → Wd mi X n L S h Q) : Wd mi X pc L ((0, b) :: (0, a) :: S) h Q := by
  subst hn
  intro p l e R s m args below meth c HH locs cells slots D E ad A ls Qm hC hS hL hv hr
  have hx := hC.1
  have hb := hC.2.1
  have va := hv.t.h.i
  have vb := hv.h.i
  have q9 := oI_eq va vb
  have q := oI_lt va vb
  exact lv_icmp_lt hx hb hd ht (fun z => Ht (q.mp z) p l e R s m args below meth c HH locs cells slots D E ad A ls Qm hC hS hL hv.t.t hr) (fun z => Hf (fun y => z (q.mpr y)) p l e R s m args below meth c HH locs cells slots D E ad A ls Qm hC hS hL hv.t.t hr)
theorem s_if_lt {mi : MI} {X : Nat × (Int → Int)} {pc : Nat} {L S : List AV} {h : HP} {Q : Int → HP → Prop} (n t : Nat) {a : Int} {off : Int} (hn : pc + 3 = n) (hd : decode mi.2.1 pc = .ok (.ifCond .lt off, 3)) (ht : (pc : Int) + off = (t : Int)) (Ht : a < 0 → Wd mi X t L S h Q) (Hf : ¬ (a < 0) → Wd mi X n L S h Q) : Wd mi X pc L ((0, a) :: S) h Q := by
  subst hn
  intro p l e R s m args below meth c HH locs cells slots D E ad A ls Qm hC hS hL hv hr
  have hx := hC.1
  have hb := hC.2.1
  have va := hv.h.i
  have q9 := oI_eq va inI_0
  have q := oI_lt va inI_0
  exact lv_if_lt hx hb hd ht (fun z => Ht (q.mp z) p l e R s m args below meth c HH locs cells slots D E ad A ls Qm hC hS hL hv.t hr) (fun z => Hf (fun y => z (q.mpr y)) p l e R s m args below meth c HH locs cells slots D E ad A ls Qm hC hS hL hv.t hr)
theorem s_icmp_ge {mi : MI} {X : Nat × (Int → Int)} {pc : Nat} {L S : List AV} {h : HP} {Q : Int → HP → Prop} (n t : Nat) {a b : Int} {off : Int} (hn : pc + 3 = n) (hd : decode mi.2.1 pc = .ok (.if_icmp .ge off, 3)) (ht : (pc : Int) + off = (t : Int)) (Ht : b ≤ a → Wd mi X t L S h Q) (Hf : ¬ (b ≤ a) → Wd mi X n L S h Q) : Wd mi X pc L ((0, b) :: (0, a) :: S) h Q := by
  subst hn
  intro p l e R s m args below meth c HH locs cells slots D E ad A ls Qm hC hS hL hv hr
  have hx := hC.1
  have hb := hC.2.1
  have va := hv.t.h.i
  have vb := hv.h.i
  have q9 := oI_eq va vb
  have q := oI_le vb va
  exact lv_icmp_ge hx hb hd ht (fun z => Ht (q.mp z) p l e R s m args below meth c HH locs cells slots D E ad A ls Qm hC hS hL hv.t.t hr) (fun z => Hf (fun y => z (q.mpr y)) p l e R s m args below meth c HH locs cells slots D E ad A ls Qm hC hS hL hv.t.t hr)
theorem s_if_ge {mi : MI} {X : Nat × (Int → Int)} {pc : Nat} {L S : List AV} {h : HP} {Q : Int → HP → Prop} (n t : Nat) {a : Int} {off : Int} (hn : pc + 3 = n) (hd : decode mi.2.1 pc = .ok (.ifCond .ge off, 3)) (ht : (pc : Int) + off = (t : Int)) (Ht : 0 ≤ a → Wd mi X t L S h Q) (Hf : ¬ (0 ≤ a) → Wd mi X n L S h Q) : Wd mi X pc L ((0, a) :: S) h Q := by
  subst hn
  intro p l e R s m args below meth c HH locs cells slots D E ad A ls Qm hC hS hL hv hr
  have hx := hC.1
  have hb := hC.2.1
  have va := hv.h.i
  have q9 := oI_eq va inI_0
  have q := oI_le inI_0 va
  exact lv_if_ge hx hb hd ht (fun z => Ht (q.mp z) p l e R s m args below meth c HH locs cells slots D E ad A ls Qm hC hS hL hv.t hr) (fun z => Hf (fun y => z (q.mpr y)) p l e R s m args below meth c HH locs cells slots D E ad A ls Qm hC hS hL hv.t hr)
theorem s_icmp_gt {mi : MI} {X : Nat × (Int → Int)} {pc : Nat} {L S : List AV} {h : HP} {Q : Int → HP → Prop} (n t : Nat) {a b : Int} {off : Int} (hn : pc + 3 = n) (hd : decode mi.2.1 pc = .ok (.if_icmp .gt off, 3)) (ht : (pc : Int) + off = (t : Int)) (Ht : b < a → Wd mi X t L S h Q) (Hf : ¬ (b < a) → Wd mi X n L S h Q) : Wd mi X pc L ((0, b) :: (0, a) :: S) h Q := by
  subst hn
  intro p l e R s m args below meth c HH locs cells slots D E ad A ls Qm hC hS hL hv hr
  have hx := hC.1
  have hb := hC.2.1
  have va := hv.t.h.i
  have vb := hv.h.i
  have q9 := oI_eq va vb
  have q := oI_lt vb va
  exact lv_icmp_gt hx hb hd ht (fun z => Ht (q.mp z) p l e R s m args below meth c HH locs cells slots D E ad A ls Qm hC hS hL hv.t.t hr) (fun z => Hf (fun y => z (q.mpr y)) p l e R s m args below meth c HH locs cells slots D E ad A ls Qm hC hS hL hv.t.t hr)
theorem s_if_gt {mi : MI} {X : Nat × (Int → Int)} {pc : Nat} {L S : List AV} {h : HP} {Q : Int → HP → Prop} (n t : Nat) {a : Int} {off : Int} (hn : pc + 3 = n) (hd : decode mi.2.1 pc = .ok (.ifCond .gt off, 3)) (ht : (pc : Int) + off = (t : Int)) (Ht : 0 < a → Wd mi X t L S h Q) (Hf : ¬ (0 < a) → Wd mi X n L S h Q) : Wd mi X pc L ((0, a) :: S) h Q := by
  subst hn
  intro p l e R s m args below meth c HH locs cells slots D E ad A ls Qm hC hS hL hv hr
  have hx := hC.1
  have hb := hC.2.1
  have va := hv.h.i
  have q9 := oI_eq va inI_0
  have q := oI_lt inI_0 va
  exact lv_if_gt hx hb hd ht (fun z => Ht (q.mp z) p l e R s m args below meth c HH locs cells slots D E ad A ls Qm hC hS hL hv.t hr) (fun z => Hf (fun y => z (q.mpr y)) p l e R s m args below meth c HH locs cells slots D E ad A ls Qm hC hS hL hv.t hr)
theorem s_icmp_le {mi : MI} {X : Nat × (Int → Int)} {pc : Nat} {L S : List AV} {h : HP} {Q : Int → HP → Prop} (n t : Nat) {a b : Int} {off : Int} (hn : pc + 3 = n) (hd : decode mi.2.1 pc = .ok (.if_icmp .le off, 3)) (ht : (pc : Int) + off = (t : Int)) (Ht : a ≤ b → Wd mi X t L S h Q) (Hf : ¬ (a ≤ b) → Wd mi X n L S h Q) : Wd mi X pc L ((0, b) :: (0, a) :: S) h Q := by
  subst hn
  intro p l e R s m args below meth c HH locs cells slots D E ad A ls Qm hC hS hL hv hr
  have hx := hC.1
  have hb := hC.2.1
  have va := hv.t.h.i
  have vb := hv.h.i
  have q9 := oI_eq va vb
  have q := oI_le va vb
  exact lv_icmp_le hx hb hd ht (fun z => Ht (q.mp z) p l e R s m args below meth c HH locs cells slots D E ad A ls Qm hC hS hL hv.t.t hr) (fun z => Hf (fun y => z (q.mpr y)) p l e R s m args below meth c HH locs cells slots D E ad A ls Qm hC hS hL hv.t.t hr)
theorem s_if_le {mi : MI} {X : Nat × (Int → Int)} {pc : Nat} {L S : List AV} {h : HP} {Q : Int → HP → Prop} (n t : Nat) {a : Int} {off : Int} (hn : pc + 3 = n) (hd : decode mi.2.1 pc = .ok (.ifCond .le off, 3)) (ht : (pc : Int) + off = (t : Int)) (Ht : a ≤ 0 → Wd mi X t L S h Q) (Hf : ¬ (a ≤ 0) → Wd mi X n L S h Q) : Wd mi X pc L ((0, a) :: S) h Q := by
  subst hn
  intro p l e R s m args below meth c HH locs cells slots D E ad A ls Qm hC hS hL hv hr
  have hx := hC.1
  have hb := hC.2.1
  have va := hv.h.i
  have q9 := oI_eq va inI_0
  have q := oI_le va inI_0
  exact lv_if_le hx hb hd ht (fun z => Ht (q.mp z) p l e R s m args below meth c HH locs cells slots D E ad A ls Qm hC hS hL hv.t hr) (fun z => Hf (fun y => z (q.mpr y)) p l e R s m args below meth c HH locs cells slots D E ad A ls Qm hC hS hL hv.t hr)
theorem s_goto {mi : MI} {X : Nat × (Int → Int)} {pc : Nat} {L S : List AV} {h : HP} {Q : Int → HP → Prop} (t : Nat) {off : Int} (hd : decode mi.2.1 pc = .ok (.goto off, 3)) (ht : (pc : Int) + off = (t : Int)) (H : Wd mi X t L S h Q) : Wd mi X pc L S h Q := by
  intro p l e R s m args below meth c HH locs cells slots D E ad A ls Qm hC hS hL hv hr
  have hx := hC.1
  have hb := hC.2.1
  exact lv_goto hx hb hd ht (H p l e R s m args below meth c HH locs cells slots D E ad A ls Qm hC hS hL hv hr)
theorem s_lcmp {mi : MI} {X : Nat × (Int → Int)} {pc : Nat} {L S : List AV} {h : HP} {Q : Int → HP → Prop} (n : Nat) {a b : Int} (hn : pc + 1 = n) (hd : decode mi.2.1 pc = .ok (.lcmp, 1)) (H : Wd mi X n L ((0, lcz a b) :: S) h Q) : Wd mi X pc L ((1, b) :: (1, a) :: S) h Q := by
  subst hn
  intro p l e R s m args below meth c HH locs cells slots D E ad A ls Qm hC hS hL hv hr
  have hx := hC.1
  have hb := hC.2.1
  refine W.lcmp hx hb hd ?_
  rw [o_lcmp hv.t.h.j hv.h.j]
  exact H p l e R s m args below meth c HH locs cells slots D E ad A ls Qm hC hS hL (VS.c (vvI (inI_lcz a b)) hv.t.t) hr
theorem s_tsw {mi : MI} {X : Nat × (Int → Int)} {pc : Nat} {L S : List AV} {h : HP} {Q : Int → HP → Prop} {a lo hi dflt : Int} {offs : Array Int} {len : Nat} (t : Nat) {off : Int} (hd : decode mi.2.1 pc = .ok (.tableswitch dflt lo hi offs, len)) (h1 : ¬ a < lo) (h2 : ¬ hi < a) (ho : offs[(a - lo).toNat]? = some off) (ht : (pc : Int) + off = (t : Int)) (H : Wd mi X t L S h Q) : Wd mi X pc L ((0, a) :: S) h Q := by
  intro p l e R s m args below meth c HH locs cells slots D E ad A ls Qm hC hS hL hv hr
  have hx := hC.1
  have hb := hC.2.1
  have va := hv.h.i
  exact lv_tableIn hx hb hd (by rw [oI va]; exact h1) (by rw [oI va]; exact h2) (by rw [oI va]; exact ho) ht (H p l e R s m args below meth c HH locs cells slots D E ad A ls Qm hC hS hL hv.t hr)
theorem s_tsd {mi : MI} {X : Nat × (Int → Int)} {pc : Nat} {L S : List AV} {h : HP} {Q : Int → HP → Prop} {a lo hi dflt : Int} {offs : Array Int} {len : Nat} (t : Nat) (hd : decode mi.2.1 pc = .ok (.tableswitch dflt lo hi offs, len)) (h1 : a < lo ∨ hi < a) (ht : (pc : Int) + dflt = (t : Int)) (H : Wd mi X t L S h Q) : Wd mi X pc L ((0, a) :: S) h Q := by
  intro p l e R s m args below meth c HH locs cells slots D E ad A ls Qm hC hS hL hv hr
  have hx := hC.1
  have hb := hC.2.1
  have va := hv.h.i
  exact lv_tableOut hx hb hd (by rw [oI va]; exact h1) ht (H p l e R s m args below meth c HH locs cells slots D E ad A ls Qm hC hS hL hv.t hr)
theorem s_lsw {mi : MI} {X : Nat × (Int → Int)} {pc : Nat} {L S : List AV} {h : HP} {Q : Int → HP → Prop} {a dflt : Int} {ps : Array (Int × Int)} {len : Nat} (t : Nat) {off : Int} (hd : decode mi.2.1 pc = .ok (.lookupswitch dflt ps, len)) (hp : (ps.toList.zip (ps.toList.drop 1)).all (fun (a, next) => a.1 < next.1) = true) (ho : Op.lookupswitch.offset ps.toList dflt a = off) (ht : (pc : Int) + off = (t : Int)) (H : Wd mi X t L S h Q) : Wd mi X pc L ((0, a) :: S) h Q := by
  intro p l e R s m args below meth c HH locs cells slots D E ad A ls Qm hC hS hL hv hr
  have hx := hC.1
  have hb := hC.2.1
  have va := hv.h.i
  exact lv_lookup hx hb hd hp (by rw [oI va]; exact ho) ht (H p l e R s m args below meth c HH locs cells slots D E ad A ls Qm hC hS hL hv.t hr)
theorem s_iret {mi : MI} {X : Nat × (Int → Int)} {pc : Nat} {L S : List AV} {h : HP} {Q : Int → HP → Prop} {z : Int} (hd : decode mi.2.1 pc = .ok (.ireturn, 1)) (ht : mi.2.2.2.1 = some .int) (H : Q z h) : Wd mi X pc L [(0, z)] h Q := by
  intro p l e R s m args below meth c HH locs cells slots D E ad A ls Qm hC hS hL hv hr
  have hx := hC.1
  have hb := hC.2.1
  have k := hr pc ls HH locs z h (Or.inl ⟨hd, Or.inl ht⟩) (by rw [ht]; exact hv.h) H hS
  rw [ht] at k
  exact k
theorem s_zret {mi : MI} {X : Nat × (Int → Int)} {pc : Nat} {L S : List AV} {h : HP} {Q : Int → HP → Prop} {z : Int} (hd : decode mi.2.1 pc = .ok (.ireturn, 1)) (ht : mi.2.2.2.1 = some .boolean) (h01 : z = 0 ∨ z = 1) (H : Q z h) : Wd mi X pc L [(0, z)] h Q := by
  intro p l e R s m args below meth c HH locs cells slots D E ad A ls Qm hC hS hL hv hr
  have hx := hC.1
  have hb := hC.2.1
  have k := hr pc ls HH locs z h (Or.inl ⟨hd, Or.inr ⟨ht, h01⟩⟩) (by rw [ht]; exact hv.h) H hS
  rw [ht] at k
  exact k
theorem s_lret {mi : MI} {X : Nat × (Int → Int)} {pc : Nat} {L S : List AV} {h : HP} {Q : Int → HP → Prop} {z : Int} (hd : decode mi.2.1 pc = .ok (.lreturn, 1)) (ht : mi.2.2.2.1 = some .long) (H : Q z h) : Wd mi X pc L [(1, z)] h Q := by
  intro p l e R s m args below meth c HH locs cells slots D E ad A ls Qm hC hS hL hv hr
  have hx := hC.1
  have hb := hC.2.1
  have k := hr pc ls HH locs z h (Or.inr (Or.inl ⟨hd, ht⟩)) (by rw [ht]; exact hv.h) H hS
  rw [ht] at k
  exact k
theorem s_vret {mi : MI} {X : Nat × (Int → Int)} {pc : Nat} {L S : List AV} {h : HP} {Q : Int → HP → Prop} (hd : decode mi.2.1 pc = .ok (.return_, 1)) (ht : mi.2.2.2.1 = none) (H : Q 0 h) : Wd mi X pc L [] h Q := by
  intro p l e R s m args below meth c HH locs cells slots D E ad A ls Qm hC hS hL hv hr
  have hx := hC.1
  have hb := hC.2.1
  have k := hr pc ls HH locs 0 h (Or.inr (Or.inr ⟨hd, ht⟩)) (by rw [ht]; exact ⟨fun e => absurd e (by decide : ¬ (7 : Nat) = 0), fun e => absurd e (by decide : ¬ (7 : Nat) = 1)⟩) H hS
  rw [ht] at k
  exact k
end
section
/-! ROWS of the engine: fields, arrays -/
def avf (h : HP) (k j : Nat) : AV := match (fcs k).getD j (9, 0) with
  | (3, q) => (2, q)
  | (4, _) => (2, h k j)
  | (1, _) => (1, h k j)
  | _ => (0, h k j)
theorem fvs_get {ad : Int → Nat} {h : HP} {k j : Nat} {t : Nat} {y : Int} (hf : (fcs k)[j]? = some (t, y)) : (fvs ad h k)[j]? = some (fv ad h k j (t, y)) := by
  unfold fvs
  rw [List.getElem?_mapIdx, hf]
  rfl
theorem fvs_len {ad : Int → Nat} {h : HP} {k : Nat} : (fvs ad h k).length = (fcs k).length := by
  unfold fvs
  rw [List.length_mapIdx]
theorem isJ_obj {k j ci t : Nat} {y : Int} (hk : kd k = (4, ci)) (hf : (fcs k)[j]? = some (t, y)) : isJ k j = (t == 1) := by
  unfold isJ
  rw [hk]
  simp [List.getD, hf]
theorem cE_obj {E : xE} {ad : Int → Nat} {h : HP} {k ci : Nat} (hk : kd k = (4, ci)) : cE E ad h k = .inr (ci, fvs ad h k) := by
  unfold cE
  rw [hk]
  rfl
theorem cE_i {E : xE} {ad : Int → Nat} {h : HP} {k n : Nat} (hk : kd k = (0, n)) : cE E ad h k = .inl (E.1, n, .inl (fun j => Int32.ofInt (h k j))) := by
  unfold cE
  rw [hk]
  rfl
theorem cE_j {E : xE} {ad : Int → Nat} {h : HP} {k n : Nat} (hk : kd k = (1, n)) : cE E ad h k = .inl (E.2.1, n, .inr (.inl (fun j => Int64.ofInt (h k j)))) := by
  unfold cE
  rw [hk]
  rfl
theorem cE_z {E : xE} {ad : Int → Nat} {h : HP} {k n : Nat} (hk : kd k = (2, n)) : cE E ad h k = .inl (E.2.2.1, n, .inl (fun j => Int32.ofInt (h k j))) := by
  unfold cE
  rw [hk]
  rfl
theorem cE_g {E : xE} {ad : Int → Nat} {h : HP} {k n : Nat} (hk : kd k = (3, n)) : cE E ad h k = .inl (E.2.2.2, n, .inr (.inr (.inr (.inr (fun j => some (ad (15 + (j : Int)))))))) := by
  unfold cE
  rw [hk]
  rfl
theorem fvs_set {ad : Int → Nat} {h : HP} {k j t : Nat} {y z : Int} {v : Value} (hf : (fcs k)[j]? = some (t, y)) (hv : fv ad (xu h k j z) k j (t, y) = v) : (fvs ad h k).set j v = fvs ad (xu h k j z) k := by
  apply List.ext_getElem?
  intro i
  by_cases e : j = i
  · subst e
    rw [List.getElem?_set_self (by rw [fvs_len]; exact (List.getElem?_eq_some_iff.mp hf).1), fvs_get hf, hv]
  · rw [List.getElem?_set_ne e]
    unfold fvs
    rw [List.getElem?_mapIdx, List.getElem?_mapIdx]
    cases hq : (fcs k)[i]? with
    | none => rfl
    | some q =>
      simp only [Option.map_some]
      congr 1
      unfold fv
      have e1 : ¬ (i : Int) = (j : Int) := by omega
      rw [xu_i e1]
/-- a class of the world: its number, name, fields; what the tables say of them -/
def CK (ci : Nat) (C : String) (T : u_T) (N : Nat) (ty : Nat → FieldType) : Prop :=
  vwCl[ci]? = some (C, T, N) ∧ (∀ w ∈ u_ws C T N, w ∈ gtbl) ∧ (∀ k, k < N → parseFieldDescriptor (T k).2.2.1 = some (ty k)) ∧ (∀ a, a < N → ∀ b, b < N → a ≠ b → (T a).2.1 ≠ (T b).2.1)
theorem s_getf {mi : MI} {X : Nat × (Int → Int)} {pc : Nat} {L S : List AV} {h : HP} {Q : Int → HP → Prop} (n : Nat) {idx : Nat} (k j : Nat) {z : Int} {v : AV} {ci N t : Nat} {y : Int} {C : String} {T : u_T} {ty : Nat → FieldType} (hn : pc + 3 = n) (hd : decode mi.2.1 pc = .ok (.getfield idx, 3)) (hc : CK ci C T N ty) (hz : z = (k : Int)) (hk : k < NC) (hkd : kd k = (4, ci)) (hj : j < N) (hw : Cond.fieldLink mi.1.cls idx (T j).1 (T j).2.1 (T j).2.2.1 ∈ gtbl) (hf : (fcs k)[j]? = some (t, y)) (hv : avf h k j = v) (H : Wd mi X n L (v :: S) h Q) : Wd mi X pc L ((2, z) :: S) h Q := by
  subst hn
  subst hz
  intro p l e R s m args below meth c HH locs cells slots D E ad A ls Qm hC hS hL hvs hr
  have he := wl_get (E := E) (ad := ad) (h := h) hk
  rw [cE_obj hkd] at he
  have e9 : fv ad h k j (t, y) = xg ad v ∧ vv v := by
    have hJ := isJ_obj hkd hf
    have hg : (fcs k).getD j (9, 0) = (t, y) := by simp [List.getD, hf]
    unfold avf at hv
    rw [hg] at hv
    match t, hv, hJ with
    | 0, hv, hJ => subst hv; exact ⟨rfl, vvI (hS.2.2.2.i hJ)⟩
    | 1, hv, hJ => subst hv; exact ⟨rfl, vvJ (hS.2.2.2.j hJ)⟩
    | 2, hv, hJ => subst hv; exact ⟨rfl, vvI (hS.2.2.2.i hJ)⟩
    | 3, hv, _ => subst hv; exact ⟨rfl, vvR⟩
    | 4, hv, _ => subst hv; exact ⟨rfl, vvR⟩
    | q + 5, hv, hJ => subst hv; exact ⟨rfl, vvI (hS.2.2.2.i (by rw [hJ]; simp))⟩
  exact va_get (D := D) (ci := ci) (v := xg ad v) hC.1 hC.2.1 hC.2.2.2.2.1 hc.2.1 hC.2.2.2.1 hC.2.2.2.2.2.1 hS.1 k he hc.1 j hj (hC.2.2.2.2.1 _ hw) (fun _ q => q) (by rw [fvs_get hf, e9.1]) hd
    (H p l e R s m args below meth c HH locs cells slots D E ad A ls Qm hC hS hL (VS.c e9.2 hvs.t) hr)
theorem s_putx {mi : MI} {X : Nat × (Int → Int)} {pc : Nat} {L S : List AV} {h : HP} {Q : Int → HP → Prop} (n : Nat) {idx : Nat} (k j : Nat) {z x : Int} {g : Nat} {ci N t : Nat} {y : Int} {C : String} {T : u_T} {ty : Nat → FieldType} (hn : pc + 3 = n) (hd : decode mi.2.1 pc = .ok (.putfield idx, 3)) (hc : CK ci C T N ty) (hz : z = (k : Int)) (hk : k < NC) (hkd : kd k = (4, ci)) (hj : j < N) (hw : Cond.fieldLink mi.1.cls idx (T j).1 (T j).2.1 (T j).2.2.1 ∈ gtbl) (hfin : (T j).2.2.2 = false) (hf : (fcs k)[j]? = some (t, y))
    (hval : ∀ ad : Int → Nat, narrow (ty j) (xg ad (g, x)) = xg ad (g, x) ∧ fits (ty j) (xg ad (g, x)) = true ∧ fv ad (xu h k j x) k j (t, y) = xg ad (g, x)) (hvx : vv (g, x) → if (t == 1) = true then inJ x else inI x)
    (H : Wd mi X n L S (xu h k j x) Q) : Wd mi X pc L ((g, x) :: (2, z) :: S) h Q := by
  subst hn
  subst hz
  intro p l e R s m args below meth c HH locs cells slots D E ad A ls Qm hC hS hL hvs hr
  have he := wl_get (E := E) (ad := ad) (h := h) hk
  rw [cE_obj hkd] at he
  obtain ⟨v1, v2, v3⟩ := hval ad
  refine va_put (D := D) (ci := ci) (v := xg ad (g, x)) (ty := ty j) hC.1 hC.2.1 hC.2.2.2.2.1 hc.2.1 ty hc.2.2.1 hc.2.2.2 hC.2.2.2.1 hC.2.2.2.2.2.1 hS.1 hS.2.1 hS.2.2.1 k he hc.1 j hj (hC.2.2.2.2.1 _ hw) (fun _ q => q) hfin (hc.2.2.1 j hj) v1 v2 (by rw [fvs_len]; exact (List.getElem?_eq_some_iff.mp hf).1) hd (fun H1 locs1 hP hD hSS => ?_)
  have ew : (wl E ad h).set k (ad (k : Int), .inr (ci, (fvs ad h k).set j (xg ad (g, x)))) = wl E ad (xu h k j x) := wl_set hk (fun k' q j' => xu_off k' q j') (by rw [cE_obj hkd, fvs_set hf v3])
  rw [ew] at hP hD
  refine H p l e R s m args below meth c H1 locs1 cells slots D E ad A ls Qm hC ⟨hP, hD, hSS, vh_xu hS.2.2.2 (fun q hq => ?_)⟩ hL hvs.t.t hr
  have hq : q = j := Int.ofNat.inj hq
  subst hq
  rw [isJ_obj hkd hf]
  exact hvx hvs.h
theorem s_putI {mi : MI} {X : Nat × (Int → Int)} {pc : Nat} {L S : List AV} {h : HP} {Q : Int → HP → Prop} (n : Nat) {idx : Nat} (k j : Nat) {z x : Int} {ci N : Nat} {y : Int} {C : String} {T : u_T} {ty : Nat → FieldType} (hn : pc + 3 = n) (hd : decode mi.2.1 pc = .ok (.putfield idx, 3)) (hc : CK ci C T N ty) (hz : z = (k : Int)) (hk : k < NC) (hkd : kd k = (4, ci)) (hj : j < N) (hw : Cond.fieldLink mi.1.cls idx (T j).1 (T j).2.1 (T j).2.2.1 ∈ gtbl) (hfin : (T j).2.2.2 = false) (hf : (fcs k)[j]? = some (0, y)) (hty : ty j = .int)
    (H : Wd mi X n L S (xu h k j x) Q) : Wd mi X pc L ((0, x) :: (2, z) :: S) h Q :=
  s_putx n k j hn hd hc hz hk hkd hj hw hfin hf (fun ad => by rw [hty]; exact ⟨rfl, rfl, by show Value.int (Int32.ofInt (xu h k j x k j)) = _; rw [xu_s]; rfl⟩) (fun q => q.i) H
theorem s_putZ {mi : MI} {X : Nat × (Int → Int)} {pc : Nat} {L S : List AV} {h : HP} {Q : Int → HP → Prop} (n : Nat) {idx : Nat} (k j : Nat) {z x : Int} {ci N : Nat} {y : Int} {C : String} {T : u_T} {ty : Nat → FieldType} (hn : pc + 3 = n) (hd : decode mi.2.1 pc = .ok (.putfield idx, 3)) (hc : CK ci C T N ty) (hz : z = (k : Int)) (hk : k < NC) (hkd : kd k = (4, ci)) (hj : j < N) (hw : Cond.fieldLink mi.1.cls idx (T j).1 (T j).2.1 (T j).2.2.1 ∈ gtbl) (hfin : (T j).2.2.2 = false) (hf : (fcs k)[j]? = some (2, y)) (hty : ty j = .boolean) (h01 : x = 0 ∨ x = 1)
    (H : Wd mi X n L S (xu h k j x) Q) : Wd mi X pc L ((0, x) :: (2, z) :: S) h Q :=
  s_putx n k j hn hd hc hz hk hkd hj hw hfin hf (fun ad => by
    rw [hty]
    refine ⟨?_, ?_, by show Value.int (Int32.ofInt (xu h k j x k j)) = _; rw [xu_s]; rfl⟩
    · rcases h01 with q | q <;> rw [q] <;> rfl
    · rcases h01 with q | q <;> rw [q] <;> rfl) (fun q => q.i) H
theorem s_putJ {mi : MI} {X : Nat × (Int → Int)} {pc : Nat} {L S : List AV} {h : HP} {Q : Int → HP → Prop} (n : Nat) {idx : Nat} (k j : Nat) {z x : Int} {ci N : Nat} {y : Int} {C : String} {T : u_T} {ty : Nat → FieldType} (hn : pc + 3 = n) (hd : decode mi.2.1 pc = .ok (.putfield idx, 3)) (hc : CK ci C T N ty) (hz : z = (k : Int)) (hk : k < NC) (hkd : kd k = (4, ci)) (hj : j < N) (hw : Cond.fieldLink mi.1.cls idx (T j).1 (T j).2.1 (T j).2.2.1 ∈ gtbl) (hfin : (T j).2.2.2 = false) (hf : (fcs k)[j]? = some (1, y)) (hty : ty j = .long)
    (H : Wd mi X n L S (xu h k j x) Q) : Wd mi X pc L ((1, x) :: (2, z) :: S) h Q :=
  s_putx n k j hn hd hc hz hk hkd hj hw hfin hf (fun ad => by rw [hty]; exact ⟨rfl, rfl, by show Value.long (Int64.ofInt (xu h k j x k j)) = _; rw [xu_s]; rfl⟩) (fun q => q.j) H
theorem s_putR {mi : MI} {X : Nat × (Int → Int)} {pc : Nat} {L S : List AV} {h : HP} {Q : Int → HP → Prop} (n : Nat) {idx : Nat} (k j : Nat) {z x : Int} {ci N : Nat} {y : Int} {C : String} {T : u_T} {ty : Nat → FieldType} {et : FieldType} (hn : pc + 3 = n) (hd : decode mi.2.1 pc = .ok (.putfield idx, 3)) (hc : CK ci C T N ty) (hz : z = (k : Int)) (hk : k < NC) (hkd : kd k = (4, ci)) (hj : j < N) (hw : Cond.fieldLink mi.1.cls idx (T j).1 (T j).2.1 (T j).2.2.1 ∈ gtbl) (hfin : (T j).2.2.2 = false) (hf : (fcs k)[j]? = some (4, y)) (hty : ty j = .array et) (hx : inI x)
    (H : Wd mi X n L S (xu h k j x) Q) : Wd mi X pc L ((2, x) :: (2, z) :: S) h Q :=
  s_putx n k j hn hd hc hz hk hkd hj hw hfin hf (fun ad => by rw [hty]; exact ⟨rfl, rfl, by show Value.ref (ad (xu h k j x k j)) = _; rw [xu_s]; rfl⟩) (fun _ => hx) H
/-- arrays by place -/
def IA (a : Int) (n : Nat) : Prop := ∃ k : Nat, a = (k : Int) ∧ k < NC ∧ kd k = (0, n)
def JA (a : Int) (n : Nat) : Prop := ∃ k : Nat, a = (k : Int) ∧ k < NC ∧ kd k = (1, n)
def ZA (a : Int) (n : Nat) : Prop := ∃ k : Nat, a = (k : Int) ∧ k < NC ∧ kd k = (2, n)
theorem isJ_i {k n : Nat} (j : Nat) (hk : kd k = (0, n)) : isJ k j = false := by unfold isJ; rw [hk]; rfl
theorem isJ_z {k n : Nat} (j : Nat) (hk : kd k = (2, n)) : isJ k j = false := by unfold isJ; rw [hk]; rfl
theorem isJ_j {k n : Nat} (j : Nat) (hk : kd k = (1, n)) : isJ k j = true := by unfold isJ; rw [hk]; rfl
theorem s_iald {mi : MI} {X : Nat × (Int → Int)} {pc : Nat} {L S : List AV} {h : HP} {Q : Int → HP → Prop} (n : Nat) {a i : Int} {len : Nat} (hn : pc + 1 = n) (hd : decode mi.2.1 pc = .ok (.iaload, 1)) (ha : IA a len) (h0 : 0 ≤ i) (h1 : i < len) (H : Wd mi X n L ((0, h a i) :: S) h Q) : Wd mi X pc L ((0, i) :: (2, a) :: S) h Q := by
  subst hn
  obtain ⟨k, rfl, hk, hkd⟩ := ha
  intro p l e R s m args below meth c HH locs cells slots D E ad A ls Qm hC hS hL hvs hr
  have he := wl_get (E := E) (ad := ad) (h := h) hk
  rw [cE_i hkd] at he
  have hi := hvs.h.i
  obtain ⟨j, rfl⟩ : ∃ j : Nat, i = (j : Int) := ⟨i.toNat, by omega⟩
  refine va_iald hC.1 hC.2.1 hC.2.2.2.2.2.1 hS.1 k 0 he rfl (oI_in hi h0 h1) hd ?_
  rw [oI_toNat hi]
  exact H p l e R s m args below meth c HH locs cells slots D E ad A ls Qm hC hS hL (VS.c (vvI (hS.2.2.2.i (isJ_i j hkd))) hvs.t.t) hr
theorem s_zald {mi : MI} {X : Nat × (Int → Int)} {pc : Nat} {L S : List AV} {h : HP} {Q : Int → HP → Prop} (n : Nat) {a i : Int} {len : Nat} (hn : pc + 1 = n) (hd : decode mi.2.1 pc = .ok (.baload, 1)) (ha : ZA a len) (h0 : 0 ≤ i) (h1 : i < len) (H : Wd mi X n L ((0, h a i) :: S) h Q) : Wd mi X pc L ((0, i) :: (2, a) :: S) h Q := by
  subst hn
  obtain ⟨k, rfl, hk, hkd⟩ := ha
  intro p l e R s m args below meth c HH locs cells slots D E ad A ls Qm hC hS hL hvs hr
  have he := wl_get (E := E) (ad := ad) (h := h) hk
  rw [cE_z hkd] at he
  have hi := hvs.h.i
  obtain ⟨j, rfl⟩ : ∃ j : Nat, i = (j : Int) := ⟨i.toNat, by omega⟩
  refine va_zald hC.1 hC.2.1 hC.2.2.2.2.2.1 hS.1 k 2 he rfl (oI_in hi h0 h1) hd ?_
  rw [oI_toNat hi]
  exact H p l e R s m args below meth c HH locs cells slots D E ad A ls Qm hC hS hL (VS.c (vvI (hS.2.2.2.i (isJ_z j hkd))) hvs.t.t) hr
theorem s_lald {mi : MI} {X : Nat × (Int → Int)} {pc : Nat} {L S : List AV} {h : HP} {Q : Int → HP → Prop} (n : Nat) {a i : Int} {len : Nat} (hn : pc + 1 = n) (hd : decode mi.2.1 pc = .ok (.laload, 1)) (ha : JA a len) (h0 : 0 ≤ i) (h1 : i < len) (H : Wd mi X n L ((1, h a i) :: S) h Q) : Wd mi X pc L ((0, i) :: (2, a) :: S) h Q := by
  subst hn
  obtain ⟨k, rfl, hk, hkd⟩ := ha
  intro p l e R s m args below meth c HH locs cells slots D E ad A ls Qm hC hS hL hvs hr
  have he := wl_get (E := E) (ad := ad) (h := h) hk
  rw [cE_j hkd] at he
  have hi := hvs.h.i
  obtain ⟨j, rfl⟩ : ∃ j : Nat, i = (j : Int) := ⟨i.toNat, by omega⟩
  refine va_lald hC.1 hC.2.1 hC.2.2.2.2.2.1 hS.1 k 1 he rfl (oI_in hi h0 h1) hd ?_
  rw [oI_toNat hi]
  exact H p l e R s m args below meth c HH locs cells slots D E ad A ls Qm hC hS hL (VS.c (vvJ (hS.2.2.2.j (isJ_j j hkd))) hvs.t.t) hr
theorem up_i {h : HP} {k j : Nat} {x : Int} : (fun q : Nat => Int32.ofInt (xu h k j x k q)) = upd (fun q : Nat => Int32.ofInt (h k q)) j (Int32.ofInt x) := by
  funext q
  unfold upd
  by_cases e : q = j
  · subst e; rw [xu_s, if_pos rfl]
  · have e1 : ¬ (q : Int) = (j : Int) := by omega
    rw [xu_i e1, if_neg e]
theorem up_j {h : HP} {k j : Nat} {x : Int} : (fun q : Nat => Int64.ofInt (xu h k j x k q)) = vp_updL (fun q : Nat => Int64.ofInt (h k q)) j (Int64.ofInt x) := by
  funext q
  unfold vp_updL
  by_cases e : q = j
  · subst e; rw [xu_s, if_pos rfl]
  · have e1 : ¬ (q : Int) = (j : Int) := by omega
    rw [xu_i e1, if_neg e]
theorem s_iast {mi : MI} {X : Nat × (Int → Int)} {pc : Nat} {L S : List AV} {h : HP} {Q : Int → HP → Prop} (n : Nat) {a i x : Int} {len : Nat} (hn : pc + 1 = n) (hd : decode mi.2.1 pc = .ok (.iastore, 1)) (ha : IA a len) (h0 : 0 ≤ i) (h1 : i < len) (H : Wd mi X n L S (xu h a i x) Q) : Wd mi X pc L ((0, x) :: (0, i) :: (2, a) :: S) h Q := by
  subst hn
  obtain ⟨k, rfl, hk, hkd⟩ := ha
  intro p l e R s m args below meth c HH locs cells slots D E ad A ls Qm hC hS hL hvs hr
  have he := wl_get (E := E) (ad := ad) (h := h) hk
  rw [cE_i hkd] at he
  have hi := hvs.t.h.i
  obtain ⟨j, rfl⟩ : ∃ j : Nat, i = (j : Int) := ⟨i.toNat, by omega⟩
  refine va_iast hC.1 hC.2.1 hC.2.2.2.2.2.1 hS.1 hS.2.1 hS.2.2.1 k 0 he rfl (oI_in hi h0 h1) hd (fun H1 locs1 hP hD hSS => ?_)
  rw [oI_toNat hi] at hP hD
  have ew := wl_set (E := E) (ad := ad) (h := h) (h' := xu h k j x) hk (fun k' q j' => xu_off k' q j') (x := .inl (E.1, len, .inl (upd (fun q : Nat => Int32.ofInt (h k q)) j (Int32.ofInt x)))) (by rw [cE_i hkd, up_i])
  have e2 : ((j : Int)).toNat = j := Int.toNat_natCast j
  rw [e2, ew] at hP hD
  exact H p l e R s m args below meth c H1 locs1 cells slots D E ad A ls Qm hC ⟨hP, hD, hSS, vh_xu hS.2.2.2 (fun q hq => by rw [isJ_i q hkd]; exact hvs.h.i)⟩ hL hvs.t.t.t hr
theorem s_last {mi : MI} {X : Nat × (Int → Int)} {pc : Nat} {L S : List AV} {h : HP} {Q : Int → HP → Prop} (n : Nat) {a i x : Int} {len : Nat} (hn : pc + 1 = n) (hd : decode mi.2.1 pc = .ok (.lastore, 1)) (ha : JA a len) (h0 : 0 ≤ i) (h1 : i < len) (H : Wd mi X n L S (xu h a i x) Q) : Wd mi X pc L ((1, x) :: (0, i) :: (2, a) :: S) h Q := by
  subst hn
  obtain ⟨k, rfl, hk, hkd⟩ := ha
  intro p l e R s m args below meth c HH locs cells slots D E ad A ls Qm hC hS hL hvs hr
  have he := wl_get (E := E) (ad := ad) (h := h) hk
  rw [cE_j hkd] at he
  have hi := hvs.t.h.i
  obtain ⟨j, rfl⟩ : ∃ j : Nat, i = (j : Int) := ⟨i.toNat, by omega⟩
  refine va_last hC.1 hC.2.1 hC.2.2.2.2.2.1 hS.1 hS.2.1 hS.2.2.1 k 1 he rfl (oI_in hi h0 h1) hd (fun H1 locs1 hP hD hSS => ?_)
  rw [oI_toNat hi] at hP hD
  have ew := wl_set (E := E) (ad := ad) (h := h) (h' := xu h k j x) hk (fun k' q j' => xu_off k' q j') (x := .inl (E.2.1, len, .inr (.inl (vp_updL (fun q : Nat => Int64.ofInt (h k q)) j (Int64.ofInt x))))) (by rw [cE_j hkd, up_j])
  have e2 : ((j : Int)).toNat = j := Int.toNat_natCast j
  rw [e2, ew] at hP hD
  exact H p l e R s m args below meth c H1 locs1 cells slots D E ad A ls Qm hC ⟨hP, hD, hSS, vh_xu hS.2.2.2 (fun q hq => by rw [isJ_j q hkd]; exact hvs.h.j)⟩ hL hvs.t.t.t hr
theorem s_zast {mi : MI} {X : Nat × (Int → Int)} {pc : Nat} {L S : List AV} {h : HP} {Q : Int → HP → Prop} (n : Nat) {a i x : Int} {len : Nat} (hn : pc + 1 = n) (hd : decode mi.2.1 pc = .ok (.bastore, 1)) (ha : ZA a len) (h0 : 0 ≤ i) (h1 : i < len) (h01 : x = 0 ∨ x = 1) (H : Wd mi X n L S (xu h a i x) Q) : Wd mi X pc L ((0, x) :: (0, i) :: (2, a) :: S) h Q := by
  subst hn
  obtain ⟨k, rfl, hk, hkd⟩ := ha
  intro p l e R s m args below meth c HH locs cells slots D E ad A ls Qm hC hS hL hvs hr
  have he := wl_get (E := E) (ad := ad) (h := h) hk
  rw [cE_z hkd] at he
  have hi := hvs.t.h.i
  obtain ⟨j, rfl⟩ : ∃ j : Nat, i = (j : Int) := ⟨i.toNat, by omega⟩
  refine va_zast hC.1 hC.2.1 hC.2.2.2.2.2.1 hS.1 hS.2.1 hS.2.2.1 k 2 he rfl (oI_in hi h0 h1) hd (fun H1 locs1 hP hD hSS => ?_)
  have en : vp_nar .boolean (Int32.ofInt x) = Int32.ofInt x := by rcases h01 with q | q <;> rw [q] <;> rfl
  rw [oI_toNat hi, en] at hP hD
  have ew := wl_set (E := E) (ad := ad) (h := h) (h' := xu h k j x) hk (fun k' q j' => xu_off k' q j') (x := .inl (E.2.2.1, len, .inl (upd (fun q : Nat => Int32.ofInt (h k q)) j (Int32.ofInt x)))) (by rw [cE_z hkd, up_i])
  have e2 : ((j : Int)).toNat = j := Int.toNat_natCast j
  rw [e2, ew] at hP hD
  exact H p l e R s m args below meth c H1 locs1 cells slots D E ad A ls Qm hC ⟨hP, hD, hSS, vh_xu hS.2.2.2 (fun q hq => by rw [isJ_z q hkd]; exact hvs.h.i)⟩ hL hvs.t.t.t hr
theorem inI_len {k t n : Nat} (h : kd k = (t, n)) : inI (n : Int) := by
  have key : ∀ q ∈ kdL, q.2 ≤ 1000 := by decide
  have : n ≤ 1000 := by
    unfold kd at h
    rw [List.getD] at h
    cases hq : kdL[k]? with
    | none => rw [hq] at h; cases h; decide
    | some q => rw [hq] at h; have := key q (List.mem_of_getElem? hq); cases h; exact this
  unfold inI; omega
theorem s_alenI {mi : MI} {X : Nat × (Int → Int)} {pc : Nat} {L S : List AV} {h : HP} {Q : Int → HP → Prop} (n : Nat) {a : Int} {len : Nat} (hn : pc + 1 = n) (hd : decode mi.2.1 pc = .ok (.arraylength, 1)) (ha : IA a len) (H : Wd mi X n L ((0, (len : Int)) :: S) h Q) : Wd mi X pc L ((2, a) :: S) h Q := by
  subst hn
  obtain ⟨k, rfl, hk, hkd⟩ := ha
  intro p l e R s m args below meth c HH locs cells slots D E ad A ls Qm hC hS hL hvs hr
  have he := wl_get (E := E) (ad := ad) (h := h) hk
  rw [cE_i hkd] at he
  exact va_alen hC.1 hC.2.1 hC.2.2.2.2.2.1 hS.1 k 0 he rfl (v := Int32.ofInt (len : Int)) Int32.ofInt_eq_ofNat.symm hd (H p l e R s m args below meth c HH locs cells slots D E ad A ls Qm hC hS hL (VS.c (vvI (inI_len hkd)) hvs.t) hr)
theorem s_alenJ {mi : MI} {X : Nat × (Int → Int)} {pc : Nat} {L S : List AV} {h : HP} {Q : Int → HP → Prop} (n : Nat) {a : Int} {len : Nat} (hn : pc + 1 = n) (hd : decode mi.2.1 pc = .ok (.arraylength, 1)) (ha : JA a len) (H : Wd mi X n L ((0, (len : Int)) :: S) h Q) : Wd mi X pc L ((2, a) :: S) h Q := by
  subst hn
  obtain ⟨k, rfl, hk, hkd⟩ := ha
  intro p l e R s m args below meth c HH locs cells slots D E ad A ls Qm hC hS hL hvs hr
  have he := wl_get (E := E) (ad := ad) (h := h) hk
  rw [cE_j hkd] at he
  exact va_alen hC.1 hC.2.1 hC.2.2.2.2.2.1 hS.1 k 1 he rfl (v := Int32.ofInt (len : Int)) Int32.ofInt_eq_ofNat.symm hd (H p l e R s m args below meth c HH locs cells slots D E ad A ls Qm hC hS hL (VS.c (vvI (inI_len hkd)) hvs.t) hr)
/-- the five rows of shown -/
theorem s_aald {mi : MI} {X : Nat × (Int → Int)} {pc : Nat} {L S : List AV} {h : HP} {Q : Int → HP → Prop} (n : Nat) {i : Int} (hn : pc + 1 = n) (hd : decode mi.2.1 pc = .ok (.aaload, 1)) (h0 : 0 ≤ i) (h1 : i < 5) (H : Wd mi X n L ((2, 15 + i) :: S) h Q) : Wd mi X pc L ((0, i) :: (2, 14) :: S) h Q := by
  subst hn
  intro p l e R s m args below meth c HH locs cells slots D E ad A ls Qm hC hS hL hvs hr
  have hkd : kd 14 = (3, 5) := by decide
  have he := wl_get (E := E) (ad := ad) (h := h) (show 14 < NC by decide)
  rw [cE_g hkd] at he
  have hi := hvs.h.i
  obtain ⟨j, rfl⟩ : ∃ j : Nat, i = (j : Int) := ⟨i.toNat, by omega⟩
  have hin := oI_in (n := 5) hi h0 h1
  have hj : j < 5 := by omega
  have ht : (tyE E)[3]? = some (E.2.2.2, .array .int) := rfl
  have e2 : (Int32.ofInt (j : Int)).toNatClampNeg = j := by rw [oI_toNat hi]; exact Int.toNat_natCast j
  refine W.aald (v := .ref (ad (15 + (j : Int)))) (ty := .array .int) hC.1 hC.2.1 (hS.1 14 _ he) ((hC.2.2.2.2.2.1.2 3 _ ht).1 5 (fun j => va_rf (some (ad (15 + (j : Int)))))) rfl (fun q => by cases q) (by show ¬ (Int32.ofInt (j : Int) < 0 ∨ (arrV _ _ _).slots.size ≤ _); rw [arrV_size]; exact hin) (by show (arrV _ _ _).slots[_]? = _; rw [e2, arrV_read _ _ hj]; rfl) rfl rfl hd ?_
  exact H p l e R s m args below meth c HH locs cells slots D E ad A ls Qm hC hS hL (VS.c vvR hvs.t.t) hr
/-- static arrays, the script -/
def xa (X : Nat × (Int → Int)) (a : Int) : Nat × (Int → Int) := if a = 1000 then (4, sx 0) else if a = 1001 then (4, sx 1) else if a = 1002 then (5, sx 2) else if a = 1003 then (5, sx 3) else X
theorem sx_in (i : Nat) (j : Int) : inI (sx i j) := by
  have key : ∀ l ∈ sxL, ∀ z ∈ l, inI z := by unfold inI; decide
  unfold sx
  rw [List.getD, List.getD]
  cases h1 : sxL[i]? with
  | none => simp; exact inI_0
  | some l =>
    simp only [Option.getD_some]
    cases h2 : l[j.toNat]? with
    | none => simp; exact inI_0
    | some z => exact key l (List.mem_of_getElem? h1) z (List.mem_of_getElem? h2)
theorem SX.at {X : Nat × (Int → Int)} {ad : Int → Nat} {A : Nat → Prop} {U : State} {H : Heap} (h : SX X ad A U H) {a : Int} (ha : a = 1000 ∨ a = 1001 ∨ a = 1002 ∨ a = 1003 ∨ a = 1004) : va_T .int (ad a) (xa X a).1 (fun j => .int (Int32.ofInt ((xa X a).2 j))) A U H ∧ (xa X a).1 ≤ 1536 ∧ ∀ j : Nat, j < (xa X a).1 → inI ((xa X a).2 j) := by
  obtain ⟨-, ⟨b1, b2, b3, b4⟩, ⟨c1, c2, c3⟩, -, -⟩ := h
  rcases ha with rfl | rfl | rfl | rfl | rfl
  · exact ⟨b1, (by decide : 4 ≤ 1536), fun j _ => sx_in 0 j⟩
  · exact ⟨b2, (by decide : 4 ≤ 1536), fun j _ => sx_in 1 j⟩
  · exact ⟨b3, (by decide : 5 ≤ 1536), fun j _ => sx_in 2 j⟩
  · exact ⟨b4, (by decide : 5 ≤ 1536), fun j _ => sx_in 3 j⟩
  · exact ⟨c1, c2, c3⟩
theorem s_xald {mi : MI} {X : Nat × (Int → Int)} {pc : Nat} {L S : List AV} {h : HP} {Q : Int → HP → Prop} (n : Nat) {a i : Int} {len : Nat} {f : Int → Int} (hn : pc + 1 = n) (hd : decode mi.2.1 pc = .ok (.iaload, 1)) (ha : a = 1000 ∨ a = 1001 ∨ a = 1002 ∨ a = 1003 ∨ a = 1004) (hx : xa X a = (len, f)) (h0 : 0 ≤ i) (h1 : i < len) (H : Wd mi X n L ((0, f i) :: S) h Q) : Wd mi X pc L ((0, i) :: (2, a) :: S) h Q := by
  subst hn
  intro p l e R s m args below meth c HH locs cells slots D E ad A ls Qm hC hS hL hvs hr
  obtain ⟨t1, t2, t3⟩ := hC.2.2.2.2.2.2.2.2.at ha
  rw [hx] at t1 t2 t3
  have hi := hvs.h.i
  obtain ⟨j, rfl⟩ : ∃ j : Nat, i = (j : Int) := ⟨i.toNat, by omega⟩
  refine va_ti hC.1 hC.2.1 t1 hS.2.2.1 (oI_in hi h0 h1) (v := .int (Int32.ofInt (f j))) (by rw [oI_toNat hi]; rfl) hd ?_
  exact H p l e R s m args below meth c HH locs cells slots D E ad A ls Qm hC hS hL (VS.c (vvI (t3 j (by omega))) hvs.t.t) hr
theorem s_xlen {mi : MI} {X : Nat × (Int → Int)} {pc : Nat} {L S : List AV} {h : HP} {Q : Int → HP → Prop} (n : Nat) {a : Int} {len : Nat} {f : Int → Int} (hn : pc + 1 = n) (hd : decode mi.2.1 pc = .ok (.arraylength, 1)) (ha : a = 1000 ∨ a = 1001 ∨ a = 1002 ∨ a = 1003 ∨ a = 1004) (hx : xa X a = (len, f)) (H : Wd mi X n L ((0, (len : Int)) :: S) h Q) : Wd mi X pc L ((2, a) :: S) h Q := by
  subst hn
  intro p l e R s m args below meth c HH locs cells slots D E ad A ls Qm hC hS hL hvs hr
  obtain ⟨t1, t2, t3⟩ := hC.2.2.2.2.2.2.2.2.at ha
  rw [hx] at t1 t2
  have t2 : len ≤ 1536 := t2
  exact va_tlen hC.1 hC.2.1 t1 hS.2.2.1 (v := Int32.ofInt (len : Int)) Int32.ofInt_eq_ofNat.symm hd (H p l e R s m args below meth c HH locs cells slots D E ad A ls Qm hC hS hL (VS.c (vvI ⟨by omega, by omega⟩) hvs.t) hr)
theorem s_gets {mi : MI} {X : Nat × (Int → Int)} {pc : Nat} {L S : List AV} {h : HP} {Q : Int → HP → Prop} (n : Nat) {idx : Nat} (a : Int) (C f : String) (hn : pc + 3 = n) (hd : decode mi.2.1 pc = .ok (.getstatic idx, 3)) (ha : (a = 1000 ∧ C = "BuoyReader$Settings" ∧ f = "LOWEST") ∨ (a = 1001 ∧ C = "BuoyReader$Settings" ∧ f = "GREATEST") ∨ (a = 1002 ∧ C = "BuoyReader$LensRow" ∧ f = "LEAST_N") ∨ (a = 1003 ∧ C = "BuoyReader$LensRow" ∧ f = "GREATEST_N")) (hw : Cond.fieldLink mi.1.cls idx C f "[I" ∈ gtbl) (H : Wd mi X n L ((2, a) :: S) h Q) : Wd mi X pc L S h Q := by
  subst hn
  intro p l e R s m args below meth c HH locs cells slots D E ad A ls Qm hC hS hL hvs hr
  obtain ⟨⟨a1, a2, a3, a4⟩, -⟩ := hC.2.2.2.2.2.2.2.2
  have k := H p l e R s m args below meth c HH locs cells slots D E ad A ls Qm hC hS hL (VS.c vvR hvs) hr
  rcases ha with ⟨rfl, rfl, rfl⟩ | ⟨rfl, rfl, rfl⟩ | ⟨rfl, rfl, rfl⟩ | ⟨rfl, rfl, rfl⟩
  · exact va_gets hC.1 hC.2.1 a1 hS.2.2.1 hC.2.2.2.1 (hC.2.2.2.2.1 _ hw) (fun _ q => q) hd k
  · exact va_gets hC.1 hC.2.1 a2 hS.2.2.1 hC.2.2.2.1 (hC.2.2.2.2.1 _ hw) (fun _ q => q) hd k
  · exact va_gets hC.1 hC.2.1 a3 hS.2.2.1 hC.2.2.2.1 (hC.2.2.2.2.1 _ hw) (fun _ q => q) hd k
  · exact va_gets hC.1 hC.2.1 a4 hS.2.2.1 hC.2.2.2.1 (hC.2.2.2.2.1 _ hw) (fun _ q => q) hd k
end
section
/-! ROWS of the engine: calls -/
def argL (As : List AV) : List AV := As.flatMap (fun v => if v.1 = 1 then [v, (9, 0)] else [v])
def entL (As : List AV) (n : Nat) : List AV := argL As ++ List.replicate (n - (argL As).length) (9, 0)
theorem xg_cat2 {ad : Int → Nat} {v : AV} (h : v.1 = 1) : (xg ad v).category = 2 := by
  obtain ⟨t, z⟩ := v
  have h : t = 1 := h
  subst h
  rfl
theorem argL_at {ad : Int → Nat} : ∀ (As : List AV) (off i : Nat) (v : AV), VS As → (argL As)[i]? = some v → ¬ v.1 = 9 → (off + i, xg ad v) ∈ lv_args off (As.map (xg ad)) ∧ vv v
  | [], off, i, v, _, h, _ => by simp [argL] at h
  | a :: As, off, i, v, hv, h, h9 => by
    by_cases h1 : a.1 = 1
    · have e : argL (a :: As) = a :: (9, 0) :: argL As := by simp [argL, h1]
      rw [e] at h
      match i, h with
      | 0, h => cases h; exact ⟨by simp [lv_args], hv.h⟩
      | 1, h => cases h; exact absurd rfl h9
      | i + 2, h =>
        have k := argL_at (ad := ad) As (off + 2) i v hv.t h h9
        refine ⟨?_, k.2⟩
        show _ ∈ lv_args off (xg ad a :: As.map (xg ad))
        unfold lv_args
        rw [if_pos (xg_cat2 h1)]
        refine List.mem_cons_of_mem _ ?_
        rw [show off + (i + 2) = off + 2 + i by omega]
        exact k.1
    · have e : argL (a :: As) = a :: argL As := by simp [argL, h1]
      rw [e] at h
      match i, h with
      | 0, h => cases h; exact ⟨by simp [lv_args], hv.h⟩
      | i + 1, h =>
        have k := argL_at (ad := ad) As (off + 1) i v hv.t h h9
        refine ⟨?_, k.2⟩
        show _ ∈ lv_args off (xg ad a :: As.map (xg ad))
        unfold lv_args
        rw [if_neg (by rw [xg_cat1 h1]; decide)]
        refine List.mem_cons_of_mem _ ?_
        rw [show off + (i + 1) = off + 1 + i by omega]
        exact k.1
theorem lg_sl_len {ad : Int → Nat} : ∀ As : List AV, (lg_sl (As.map (xg ad))).length = (argL As).length
  | [] => rfl
  | a :: As => by
    have ih := lg_sl_len (ad := ad) As
    by_cases h1 : a.1 = 1
    · have e1 : argL (a :: As) = a :: (9, 0) :: argL As := by simp [argL, h1]
      have e2 : lg_sl ((a :: As).map (xg ad)) = .val (xg ad a) :: .second :: lg_sl (As.map (xg ad)) := by simp [lg_sl, xg_cat2 h1]
      rw [e1, e2]; simp [ih]
    · have e1 : argL (a :: As) = a :: argL As := by simp [argL, h1]
      have e2 : lg_sl ((a :: As).map (xg ad)) = .val (xg ad a) :: lg_sl (As.map (xg ad)) := by simp [lg_sl, xg_cat1 h1]
      rw [e1, e2]; simp [ih]
theorem HL_entry {ad : Int → Nat} {n : Nat} {As : List AV} (hv : VS As) (hle : (argL As).length ≤ n) : HL ad n ((lg_sl (As.map (xg ad)) ++ List.replicate (n - (lg_sl (As.map (xg ad))).length) Slot.unset).toArray) (entL As n) := by
  have hl := lv_entry (As.map (xg ad)) (n := n) (by rw [lg_sl_len]; exact hle)
  refine ⟨hl.1, hl.2.1, fun i v hi h9 => ?_⟩
  unfold entL at hi
  by_cases h : i < (argL As).length
  · rw [List.getElem?_append_left h] at hi
    have k := argL_at (ad := ad) As 0 i v hv hi h9
    rw [Nat.zero_add] at k
    exact ⟨hl.2.2 _ k.1, k.2⟩
  · rw [List.getElem?_append_right (by omega)] at hi
    have := List.eq_of_mem_replicate (List.mem_of_getElem? hi)
    subst this
    exact absurd rfl h9
/-- what is asked of a method that is called -/
def MOK (mj : MI) : Prop := plainName mj.1.cls = true ∧ (mj.1.cls ≠ "java/lang/invoke/MethodHandle" ∧ mj.1.cls ≠ "java/lang/invoke/VarHandle") ∧ Cond.code mj.1 mj.2.1 mj.2.2.1 mj.2.2.2.1 ∈ gtbl ∧ Cond.initialized mj.1.cls ∈ gtbl
def xPc (X : Nat × (Int → Int)) (D : va_G) (E : xE) (ad : Int → Nat) (A : Nat → Prop) (H : Heap) (As : List AV) : Array Value → State → Prop := va_Pc (As.map (xg ad)) (fun U => U.heap = H ∧ va_K D vwCl (tyE E) U ∧ SX X ad A U U.heap)
def xQc (D : va_G) (E : xE) (ad : Int → Nat) (A : Nat → Prop) (o : Option FieldType) (Q : Int → HP → Prop) : Array Value → State → Outcome → State → Prop := fun _ st oc t => (∃ (z : Int) (h' : HP), oc = .returned (rsv ad o z) ∧ vv (rtag o, z) ∧ Q z h' ∧ va_P D vwCl (wl E ad h') t.heap ∧ va_D A (wl E ad h') ∧ vh h') ∧ va_F A st t
abbrev xrm (mj : MI) : Room := { frames := mj.2.2.2.2.1, cells := 0, slots := 0, locals := mj.2.2.2.2.2 }
theorem wd_met {l : Launch} {mj : MI} {X : Nat × (Int → Int)} {h : HP} {Q : Int → HP → Prop} {As Lj : List AV} {D : va_G} {E : xE} {ad : Int → Nat} {A : Nat → Prop} {H : Heap} (hok : MOK mj) (hle : (argL As).length ≤ mj.2.2.1) (hLj : entL As mj.2.2.1 = Lj) (hW : Wd mj X 0 Lj [] h Q) (hvs : VS As) (hP : va_P D vwCl (wl E ad h) H) (hD : va_D A (wl E ad h)) (hv : vh h) (hA : ∀ q : Nat, H.size ≤ q → A q) :
    Met l mj.1 (Cond.code mj.1 mj.2.1 mj.2.2.1 mj.2.2.2.1 :: gtbl) (xrm mj) (xPc X D E ad A H As) (xQc D E ad A mj.2.2.2.1 Q) 0 0 A := by
  refine Met.ofW (cc := mj.2.1) (maxL := mj.2.2.1) (ret := mj.2.2.2.1) hok.1 rfl ?_
  intro p e s m args below meth c s₁ B hml hpre
  obtain ⟨rfl, hH, hK, hSX⟩ := hpre
  have hts := atoms_spec (ws := Cond.code mj.1 mj.2.1 mj.2.2.1 mj.2.2.2.1 :: gtbl) B.pre
  have hown : s.vm.findClass mj.1.cls = some m.cls := findClass_of_methodNamed B.named
  have hlocks := B.notSynchronized
  have hret := B.returns
  rw [lg_entry_eq]
  subst hH
  refine hW p l e _ s m _ below meth c s.heap [] 0 0 D E ad A _ _ ⟨B.exec, B.bytes, hml, hown, fun w hw => hts w (List.mem_cons_of_mem _ hw), hK, hA, ⟨Nat.le_refl _, Nat.le_refl _, Nat.le_refl _, Nat.le_refl _⟩, hSX⟩ ⟨hP, hD, va_S.rf, hv⟩ (by rw [← hLj]; exact HL_entry hvs hle) (fun v hq => by cases hq) ?_
  intro pcr ls' H' locs' z h' hrt hvr hQ hS'
  have hq : ∀ t : State, t.heap = H' → xQc D E ad A mj.2.2.2.1 Q (As.map (xg ad)).toArray s (.returned (rsv ad mj.2.2.2.1 z)) t := fun t ht => ⟨⟨z, h', rfl, hvr, hQ, by rw [ht]; exact hS'.1, hS'.2.1, hS'.2.2.2⟩, hS'.2.2.1.F ht⟩
  rcases hrt with ⟨hd, hr⟩ | ⟨hd, hr⟩ | ⟨hd, hr⟩
  · rcases hr with hr | ⟨hr, h01⟩
    · rw [hr] at hq hret ⊢
      exact W.iret (v := Int32.ofInt z) B.exec B.bytes hret (fun t ht _ => hq t ht) hS'.2.2.1.2.2 hd
    · rw [hr] at hq hret ⊢
      exact W.zret (v := Int32.ofInt z) (ty := .boolean) B.exec B.bytes hret (by rcases h01 with q | q <;> rw [q] <;> rfl) (fun t ht _ => hq t ht) hS'.2.2.1.2.2 hd
  · rw [hr] at hq hret ⊢
    exact W.lret (v := Int64.ofInt z) B.exec B.bytes hret (fun t ht _ => hq t ht) hS'.2.2.1.2.2 hd
  · rw [hr] at hq hret ⊢
    exact W.vret B.exec B.bytes hret (fun t ht _ => hq t ht) hS'.2.2.1.2.2 hd
theorem xPc_blind {X : Nat × (Int → Int)} {D : va_G} {E : xE} {ad : Int → Nat} {A : Nat → Prop} {H : Heap} {As : List AV} : FrameBlind (xPc X D E ad A H As) := by
  intro a U g mk q
  obtain ⟨q0, q1, qK, qS⟩ := q
  exact ⟨q0, q1, va_K.moved (u := U) (U := U.calling g mk a) (Vm.Alike.refl U.vm) qK, SX.same (u := U) (U := U.calling g mk a) rfl qS⟩
theorem x_call {p : Program} {l : Launch} {e : Env} {R : Room} {s : State} {m : MethodId} {args : Array Value} {below : List Frame} {meth : Method} {c : Code} {H : Heap} {locs : List Loc} {cells slots pc : Nat} {Qm : State → Prop} {ls : Array Slot} {st0 rest : List Value} {Qa : State → Outcome → State → Prop} {A : Nat → Prop}
    (hr : va_Run p l e R s m args below meth c H locs cells slots 0 0 (F0 m pc ls st0) rest Qa A)
    (kk : ∀ (v : Option Value) (st₀ t : State) (H1 : Heap) (locs1 : List Loc), st₀.heap = H → t.heap = H1 → Qa st₀ (.returned v) t → (∀ q ∈ locs1, q ∈ locs ∨ A q.base) → W p l e R s m args below meth c H1 locs1 cells slots Qm (F0 m (pc + 3) ls (v.toList ++ rest))) : W p l e R s m args below meth c H locs cells slots Qm (F0 m pc ls st0) := by
  intro T hT X
  obtain ⟨v, st₀, t, T', L, h0, X', hL, e1, e2, hq, st⟩ := hr T hT X
  obtain ⟨t2, a1, b1⟩ := kk v st₀ t T'.heap (locs ++ L) h0 e1.symm hq (fun q hq => (List.mem_append.mp hq).elim Or.inl (fun h => Or.inr (hL q h))) T' rfl X'
  exact ⟨t2, st t2 a1, b1⟩
theorem good_gt {mj : MI} (hok : MOK mj) : GoodIn gtbl (Cond.code mj.1 mj.2.1 mj.2.2.1 mj.2.2.2.1 :: gtbl) := by
  intro w hw
  have hm : w ∈ gtbl := (List.mem_cons.mp hw).elim (fun q => q ▸ hok.2.2.1) id
  exact ⟨hm, good_of_word (List.mem_filter.mp hm).2⟩
/-- behind a call the machine goes on with the callee's world -/
theorem x_back {mi : MI} {mj : MI} {X : Nat × (Int → Int)} {pc : Nat} {L S : List AV} {h : HP} {Q : Int → HP → Prop} {p : Program} {l : Launch} {e : Env} {R : Room} {s : State} {m : MethodId} {args : Array Value} {below : List Frame} {meth : Method} {c : Code} {HH : Heap} {locs : List Loc} {cells slots : Nat} {D : va_G} {E : xE} {ad : Int → Nat} {A : Nat → Prop} {ls : Array Slot} {Qm : State → Prop} {st0 : List Value}
    (hC : Cx mi X p R s m args c D E ad A cells slots) (hS : Sx D E ad A s HH locs h) (hL : HL ad mi.2.2.1 ls L) (hv : VS S)
    (hr : ∀ (pcr : Nat) (ls' : Array Slot) (H' : Heap) (locs' : List Loc) (z : Int) (h' : HP), rt mi pcr z → vv (rtag mi.2.2.2.1, z) → Q z h' → Sx D E ad A s H' locs' h' → W p l e R s m args below meth c H' locs' cells slots Qm (F0 m pcr ls' (rsv ad mi.2.2.2.1 z).toList)) {a9 : Array Value}
    (hrun : va_Run p l e R s m args below meth c HH locs cells slots 0 0 (F0 m pc ls st0) (S.map (xg ad)) (xQc D E ad A mj.2.2.2.1 (fun z h' => Wd mi X (pc + 3) L (rpush mj.2.2.2.1 z S) h' Q) a9) A) :
    W p l e R s m args below meth c HH locs cells slots Qm (F0 m pc ls st0) := by
  refine x_call hrun (fun v st₀ t H1 locs1 e0 e1 hq hlocs => ?_)
  obtain ⟨⟨z, h', ho, hvz, hW, hP, hD, hvh⟩, hF⟩ := hq
  cases ho
  rw [← rpush_map]
  have hS1 : va_S A s.heap H1 locs1 := by
    refine ⟨?_, fun q h1 h2 => ?_, fun q hq => ?_⟩
    · have := hS.2.2.1.1
      have h2 := hF.1
      rw [e0, e1] at h2
      exact Nat.le_trans this h2
    · have h3 := hF.2 q (by rw [e0]; exact Nat.lt_of_lt_of_le h1 hS.2.2.1.1) h2
      rw [e0, e1] at h3
      rw [h3]
      exact hS.2.2.1.2.1 q h1 h2
    · rcases hlocs q hq with k | k
      · exact hS.2.2.1.2.2 q k
      · exact k
  exact hW p l e R s m args below meth c H1 locs1 cells slots D E ad A ls Qm hC ⟨by rw [← e1]; exact hP, hD, hS1, hvh⟩ hL (rpush_vs hvz hv) hr
theorem s_callV {mi mj : MI} {X : Nat × (Int → Int)} {pc : Nat} {L S S0 : List AV} {h : HP} {Q : Int → HP → Prop} (n : Nat) {idx : Nat} (As Lj : List AV) (k : Nat) {z : Int} {ci : Nat} {q9 : vw_C} (hn : pc + 3 = n) (hd : decode mi.2.1 pc = .ok (.invokevirtual idx, 3)) (hok : MOK mj) (hlk : Cond.methodLink mi.1.cls idx mj.1 ∈ gtbl) (hin : Cond.instanceMethod mj.1 ∈ gtbl) (hsel : Cond.selects mj.1.cls mj.1 mj.1 ∈ gtbl) (hz : z = (k : Int)) (hk : k < NC) (hkd : kd k = (4, ci)) (hcl : vwCl[ci]? = some q9) (hcn : q9.1 = mj.1.cls) (hs : S0 = As.reverse ++ (2, z) :: S) (hnp : (parseMethodDescriptor mj.1.desc).map (fun d => d.parameters.length) = some As.length) (hst : (S.map (fun v => if v.1 = 1 then 2 else 1)).sum ≤ 8) (hfr : mj.2.2.2.2.1 + 1 ≤ mi.2.2.2.2.1 ∧ 8 + (mj.2.2.1 + 11) + mj.2.2.2.2.2 ≤ mi.2.2.2.2.2) (hle : (argL ((2, z) :: As)).length ≤ mj.2.2.1) (hLj : entL ((2, z) :: As) mj.2.2.1 = Lj)
    (H : Wd mj X 0 Lj [] h (fun z h' => Wd mi X n L (rpush mj.2.2.2.1 z S) h' Q)) : Wd mi X pc L S0 h Q := by
  subst hn
  subst hz
  subst hs
  intro p l e R s m args below meth c HH locs cells slots D E ad A ls Qm hC hS hL hv hr
  have hvA : VS ((2, (k : Int)) :: As) := fun v hq => hv v (by
    rcases List.mem_cons.mp hq with q | q
    · rw [q]; exact List.mem_append_right _ List.mem_cons_self
    · exact List.mem_append_left _ (List.mem_reverse.mpr q))
  have hvS : VS S := fun v hq => hv v (List.mem_append_right _ (List.mem_cons_of_mem _ hq))
  have he := wl_get (E := E) (ad := ad) (h := h) hk
  rw [cE_obj hkd] at he
  have hts := hC.2.2.2.2.1
  have hA : ∀ q : Nat, HH.size ≤ q → A q := fun q hq => hC.2.2.2.2.2.2.1 q (Nat.le_trans hS.2.2.1.1 hq)
  have hrm := hC.2.2.2.2.2.2.2.1
  have em : (As.reverse ++ (2, (k : Int)) :: S).map (xg ad) = (As.map (xg ad)).reverse ++ .ref (ad (k : Int)) :: S.map (xg ad) := by simp [xg]
  rw [em]
  have hst9 : ((S.map (xg ad)).map fun v => v.category).sum ≤ 8 := by
    have e9 : ((S.map (xg ad)).map fun v => v.category) = S.map (fun v => if v.1 = 1 then 2 else 1) := by
      rw [List.map_map]
      apply List.map_congr_left
      intro v _
      show (xg ad v).category = _
      by_cases h1 : v.1 = 1
      · rw [if_pos h1, xg_cat2 h1]
      · rw [if_neg h1, xg_cat1 h1]
    rw [e9]; exact hst
  refine x_back (mj := mj) hC hS hL hvS hr (va_runV (As := As.map (xg ad)) (b := ad (k : Int)) (C := mj.1.cls) (Ts := gtbl) (nL := mi.2.2.1) (n := As.length) ⟨hC.1, hC.2.1, hC.2.2.1, hC.2.2.2.1, hts⟩ (wd_met hok hle hLj H hvA hS.1 hS.2.1 hS.2.2.2 hA)
    ⟨callB_of As.length hts (good_gt hok) rfl rfl rfl (hts _ hok.2.2.2) (hts _ hlk) ⟨hok.2.1.1, hok.2.1.2, hnp⟩ ⟨Nat.le_trans hfr.1 hrm.1, Nat.le_trans hfr.2 hrm.2.1⟩, hts _ hin, hts _ hsel⟩
    ⟨xPc_blind, ?_, fun U hU hW => ⟨rfl, hU, va_K.moved hW.alike hC.2.2.2.2.2.1, SX.moved hW (by rw [hU]; exact SX.kept (fun a h1 h2 => hS.2.2.1.2.1 a h1 h2) hC.2.2.2.2.2.2.2.2)⟩⟩
    rfl (by rw [List.length_map]) hL.1 rfl (lv_room hst9) hd ⟨hrm.2.2.1, hrm.2.2.2⟩)
  have hrc := va_recv hC.2.2.2.2.2.1 hS.1 (q := q9) hcl he
  rw [hcn] at hrc
  exact hrc
theorem s_callS {mi mj : MI} {X : Nat × (Int → Int)} {pc : Nat} {L S S0 : List AV} {h : HP} {Q : Int → HP → Prop} (n : Nat) {idx : Nat} (As Lj : List AV) (hn : pc + 3 = n) (hd : decode mi.2.1 pc = .ok (.invokestatic idx, 3)) (hok : MOK mj) (hlk : Cond.methodLink mi.1.cls idx mj.1 ∈ gtbl) (hin : Cond.static mj.1 ∈ gtbl) (hs : S0 = As.reverse ++ S) (hnp : (parseMethodDescriptor mj.1.desc).map (fun d => d.parameters.length) = some As.length) (hst : (S.map (fun v => if v.1 = 1 then 2 else 1)).sum ≤ 8) (hfr : mj.2.2.2.2.1 + 1 ≤ mi.2.2.2.2.1 ∧ 8 + (mj.2.2.1 + 11) + mj.2.2.2.2.2 ≤ mi.2.2.2.2.2) (hle : (argL As).length ≤ mj.2.2.1) (hLj : entL As mj.2.2.1 = Lj)
    (H : Wd mj X 0 Lj [] h (fun z h' => Wd mi X n L (rpush mj.2.2.2.1 z S) h' Q)) : Wd mi X pc L S0 h Q := by
  subst hn
  subst hs
  intro p l e R s m args below meth c HH locs cells slots D E ad A ls Qm hC hS hL hv hr
  have hvA : VS As := fun v hq => hv v (List.mem_append_left _ (List.mem_reverse.mpr hq))
  have hvS : VS S := fun v hq => hv v (List.mem_append_right _ hq)
  have hts := hC.2.2.2.2.1
  have hA : ∀ q : Nat, HH.size ≤ q → A q := fun q hq => hC.2.2.2.2.2.2.1 q (Nat.le_trans hS.2.2.1.1 hq)
  have hrm := hC.2.2.2.2.2.2.2.1
  have em : (As.reverse ++ S).map (xg ad) = (As.map (xg ad)).reverse ++ S.map (xg ad) := by simp
  rw [em]
  have hst9 : ((S.map (xg ad)).map fun v => v.category).sum ≤ 8 := by
    have e9 : ((S.map (xg ad)).map fun v => v.category) = S.map (fun v => if v.1 = 1 then 2 else 1) := by
      rw [List.map_map]
      apply List.map_congr_left
      intro v _
      show (xg ad v).category = _
      by_cases h1 : v.1 = 1
      · rw [if_pos h1, xg_cat2 h1]
      · rw [if_neg h1, xg_cat1 h1]
    rw [e9]; exact hst
  exact x_back (mj := mj) hC hS hL hvS hr (va_runS (As := As.map (xg ad)) (Ts := gtbl) (nL := mi.2.2.1) (n := As.length) ⟨hC.1, hC.2.1, hC.2.2.1, hC.2.2.2.1, hts⟩ (wd_met hok hle hLj H hvA hS.1 hS.2.1 hS.2.2.2 hA)
    ⟨callB_of As.length hts (good_gt hok) rfl rfl rfl (hts _ hok.2.2.2) (hts _ hlk) ⟨hok.2.1.1, hok.2.1.2, hnp⟩ ⟨Nat.le_trans hfr.1 hrm.1, Nat.le_trans hfr.2 hrm.2.1⟩, hts _ hin⟩
    ⟨xPc_blind, fun U hU hW => ⟨rfl, hU, va_K.moved hW.alike hC.2.2.2.2.2.1, SX.moved hW (by rw [hU]; exact SX.kept (fun a h1 h2 => hS.2.2.1.2.1 a h1 h2) hC.2.2.2.2.2.2.2.2)⟩⟩
    rfl (by rw [List.length_map]) hL.1 rfl (lv_room hst9) hd ⟨hrm.2.2.1, hrm.2.2.2⟩)
/-- a static method of a nest mate (meanDown) -/
theorem s_callN {mi mj : MI} {X : Nat × (Int → Int)} {pc : Nat} {L S S0 : List AV} {h : HP} {Q : Int → HP → Prop} (n : Nat) {idx : Nat} (As Lj : List AV) (hn : pc + 3 = n) (hd : decode mi.2.1 pc = .ok (.invokestatic idx, 3)) (hok : MOK mj) (hlk : (mi.1.cls = RX1 ∧ idx = 44 ∨ mi.1.cls = RX6 ∧ idx = 55) ∧ mj.1 = yX8_meanDown) (hin : Cond.static mj.1 ∈ gtbl) (hs : S0 = As.reverse ++ S) (hnp : (parseMethodDescriptor mj.1.desc).map (fun d => d.parameters.length) = some As.length) (hst : (S.map (fun v => if v.1 = 1 then 2 else 1)).sum ≤ 8) (hfr : mj.2.2.2.2.1 + 1 ≤ mi.2.2.2.2.1 ∧ 8 + (mj.2.2.1 + 11) + mj.2.2.2.2.2 ≤ mi.2.2.2.2.2) (hle : (argL As).length ≤ mj.2.2.1) (hLj : entL As mj.2.2.1 = Lj)
    (H : Wd mj X 0 Lj [] h (fun z h' => Wd mi X n L (rpush mj.2.2.2.1 z S) h' Q)) : Wd mi X pc L S0 h Q := by
  subst hn
  subst hs
  intro p l e R s m args below meth c HH locs cells slots D E ad A ls Qm hC hS hL hv hr
  have hvA : VS As := fun v hq => hv v (List.mem_append_left _ (List.mem_reverse.mpr hq))
  have hvS : VS S := fun v hq => hv v (List.mem_append_right _ hq)
  have hts := hC.2.2.2.2.1
  have hA : ∀ q : Nat, HH.size ≤ q → A q := fun q hq => hC.2.2.2.2.2.2.1 q (Nat.le_trans hS.2.2.1.1 hq)
  have hrm := hC.2.2.2.2.2.2.2.1
  have hnw : va_Nw (.methodLinkNest mi.1.cls idx mj.1 "BuoyReader") s := by
    obtain ⟨-, -, -, d1, d2⟩ := hC.2.2.2.2.2.2.2.2
    obtain ⟨h1 | h1, h2⟩ := hlk
    · rw [h1.1, h1.2, h2]; exact d1
    · rw [h1.1, h1.2, h2]; exact d2
  have em : (As.reverse ++ S).map (xg ad) = (As.map (xg ad)).reverse ++ S.map (xg ad) := by simp
  rw [em]
  have hst9 : ((S.map (xg ad)).map fun v => v.category).sum ≤ 8 := by
    have e9 : ((S.map (xg ad)).map fun v => v.category) = S.map (fun v => if v.1 = 1 then 2 else 1) := by
      rw [List.map_map]
      apply List.map_congr_left
      intro v _
      show (xg ad v).category = _
      by_cases h1 : v.1 = 1
      · rw [if_pos h1, xg_cat2 h1]
      · rw [if_neg h1, xg_cat1 h1]
    rw [e9]; exact hst
  exact x_back (mj := mj) hC hS hL hvS hr (va_runSN (As := As.map (xg ad)) (Ts := gtbl) (nL := mi.2.2.1) (n := As.length) (host := "BuoyReader") ⟨hC.1, hC.2.1, hC.2.2.1, hC.2.2.2.1, hts⟩ (wd_met hok hle hLj H hvA hS.1 hS.2.1 hS.2.2.2 hA)
    ⟨va_cnB As.length hts (good_gt hok) rfl rfl rfl hnw (hts _ hok.2.2.2) ⟨hok.2.1.1, hok.2.1.2, hnp⟩ ⟨Nat.le_trans hfr.1 hrm.1, Nat.le_trans hfr.2 hrm.2.1⟩, hts _ hin, trivial⟩
    ⟨xPc_blind, fun U hU hW => ⟨rfl, hU, va_K.moved hW.alike hC.2.2.2.2.2.1, SX.moved hW (by rw [hU]; exact SX.kept (fun a h1 h2 => hS.2.2.1.2.1 a h1 h2) hC.2.2.2.2.2.2.2.2)⟩⟩
    rfl (by rw [List.length_map]) hL.1 rfl (lv_room hst9) hd ⟨hrm.2.2.1, hrm.2.2.2⟩)
end
