section
-- ===== PART A: goes FIRST, ahead of the names: the tables' words, and 'selects' of the private methods out of them =====
/-- a private method of a class that the tables say can be made, by its rows of tables_1 -/
def lw_okq (q : MethodName × Nat) : Prop := (q.1.cls ≠ "java/lang/invoke/MethodHandle" ∧ q.1.cls ≠ "java/lang/invoke/VarHandle") ∧ Cond.instantiable q.1.cls q.2 ∈ tables_1 ∧ Cond.privateMethod q.1 ∈ tables_1 ∧ Cond.instanceMethod q.1 ∈ tables_1
theorem lw_p0 : lw_okq (⟨"WaxInEars$Page", "isInHead", "(II)Z"⟩, 2) := ⟨⟨by decide +kernel, by decide +kernel⟩, List.mem_of_getElem? (i := 20) (by decide +kernel), List.mem_of_getElem? (i := 190) (by decide +kernel), List.mem_of_getElem? (i := 191) (by decide +kernel)⟩
theorem lw_p1 : lw_okq (⟨"WaxInEars$Passage", "setSong", "(II)V"⟩, 5) := ⟨⟨by decide +kernel, by decide +kernel⟩, List.mem_of_getElem? (i := 36) (by decide +kernel), List.mem_of_getElem? (i := 214) (by decide +kernel), List.mem_of_getElem? (i := 215) (by decide +kernel)⟩
theorem lw_p2 : lw_okq (⟨"WaxInEars$Passage", "addPlace", "(I)V"⟩, 5) := ⟨⟨by decide +kernel, by decide +kernel⟩, List.mem_of_getElem? (i := 36) (by decide +kernel), List.mem_of_getElem? (i := 221) (by decide +kernel), List.mem_of_getElem? (i := 222) (by decide +kernel)⟩
theorem lw_p3 : lw_okq (⟨"WaxInEars", "hasPassage", "()Z"⟩, 12) := ⟨⟨by decide +kernel, by decide +kernel⟩, List.mem_of_getElem? (i := 12) (by decide +kernel), List.mem_of_getElem? (i := 248) (by decide +kernel), List.mem_of_getElem? (i := 249) (by decide +kernel)⟩
theorem lw_p4 : lw_okq (⟨"WaxInEars", "isKnown", "(I)Z"⟩, 12) := ⟨⟨by decide +kernel, by decide +kernel⟩, List.mem_of_getElem? (i := 12) (by decide +kernel), List.mem_of_getElem? (i := 272) (by decide +kernel), List.mem_of_getElem? (i := 273) (by decide +kernel)⟩
theorem lw_p5 : lw_okq (⟨"WaxInEars", "canGoOn", "()Z"⟩, 12) := ⟨⟨by decide +kernel, by decide +kernel⟩, List.mem_of_getElem? (i := 12) (by decide +kernel), List.mem_of_getElem? (i := 338) (by decide +kernel), List.mem_of_getElem? (i := 339) (by decide +kernel)⟩
theorem lw_p6 : lw_okq (⟨"WaxInEars$Ship", "swimmersAt", "(LWaxInEars$Passage;LWaxInEars$Crew;)I"⟩, 6) := ⟨⟨by decide +kernel, by decide +kernel⟩, List.mem_of_getElem? (i := 85) (by decide +kernel), List.mem_of_getElem? (i := 346) (by decide +kernel), List.mem_of_getElem? (i := 347) (by decide +kernel)⟩
theorem lw_p7 : lw_okq (⟨"WaxInEars$Ship", "isStriking", "(ILWaxInEars$Passage;LWaxInEars$Crew;)Z"⟩, 6) := ⟨⟨by decide +kernel, by decide +kernel⟩, List.mem_of_getElem? (i := 85) (by decide +kernel), List.mem_of_getElem? (i := 355) (by decide +kernel), List.mem_of_getElem? (i := 356) (by decide +kernel)⟩
theorem lw_p8 : lw_okq (⟨"WaxInEars$Ship", "isFree", "(I)Z"⟩, 6) := ⟨⟨by decide +kernel, by decide +kernel⟩, List.mem_of_getElem? (i := 85) (by decide +kernel), List.mem_of_getElem? (i := 359) (by decide +kernel), List.mem_of_getElem? (i := 360) (by decide +kernel)⟩
theorem lw_p9 : lw_okq (⟨"WaxInEars$Ship", "freeOars", "(LWaxInEars$Crew;)I"⟩, 6) := ⟨⟨by decide +kernel, by decide +kernel⟩, List.mem_of_getElem? (i := 85) (by decide +kernel), List.mem_of_getElem? (i := 364) (by decide +kernel), List.mem_of_getElem? (i := 365) (by decide +kernel)⟩
theorem lw_p10 : lw_okq (⟨"WaxInEars$Ship", "comeOn", "(LWaxInEars$Passage;)V"⟩, 6) := ⟨⟨by decide +kernel, by decide +kernel⟩, List.mem_of_getElem? (i := 85) (by decide +kernel), List.mem_of_getElem? (i := 369) (by decide +kernel), List.mem_of_getElem? (i := 370) (by decide +kernel)⟩
theorem lw_p11 : lw_okq (⟨"WaxInEars", "rankWithWax", "(I)I"⟩, 12) := ⟨⟨by decide +kernel, by decide +kernel⟩, List.mem_of_getElem? (i := 12) (by decide +kernel), List.mem_of_getElem? (i := 403) (by decide +kernel), List.mem_of_getElem? (i := 404) (by decide +kernel)⟩
theorem lw_p12 : lw_okq (⟨"WaxInEars", "rankOfTrial", "()I"⟩, 12) := ⟨⟨by decide +kernel, by decide +kernel⟩, List.mem_of_getElem? (i := 12) (by decide +kernel), List.mem_of_getElem? (i := 407) (by decide +kernel), List.mem_of_getElem? (i := 408) (by decide +kernel)⟩
theorem lw_p13 : lw_okq (⟨"WaxInEars", "rankWithListener", "(I)I"⟩, 12) := ⟨⟨by decide +kernel, by decide +kernel⟩, List.mem_of_getElem? (i := 12) (by decide +kernel), List.mem_of_getElem? (i := 424) (by decide +kernel), List.mem_of_getElem? (i := 425) (by decide +kernel)⟩
theorem lw_p14 : lw_okq (⟨"WaxInEars$Passage", "copy", "(LWaxInEars$Passage;)V"⟩, 5) := ⟨⟨by decide +kernel, by decide +kernel⟩, List.mem_of_getElem? (i := 36) (by decide +kernel), List.mem_of_getElem? (i := 436) (by decide +kernel), List.mem_of_getElem? (i := 437) (by decide +kernel)⟩
theorem lw_p15 : lw_okq (⟨"WaxInEars", "fittingSetsWith", "(I)I"⟩, 12) := ⟨⟨by decide +kernel, by decide +kernel⟩, List.mem_of_getElem? (i := 12) (by decide +kernel), List.mem_of_getElem? (i := 461) (by decide +kernel), List.mem_of_getElem? (i := 462) (by decide +kernel)⟩
def lw_privs_1 : List (MethodName × Nat) := [(⟨"WaxInEars$Page", "isInHead", "(II)Z"⟩, 2), (⟨"WaxInEars$Passage", "setSong", "(II)V"⟩, 5), (⟨"WaxInEars$Passage", "addPlace", "(I)V"⟩, 5), (⟨"WaxInEars", "hasPassage", "()Z"⟩, 12), (⟨"WaxInEars", "isKnown", "(I)Z"⟩, 12), (⟨"WaxInEars", "canGoOn", "()Z"⟩, 12), (⟨"WaxInEars$Ship", "swimmersAt", "(LWaxInEars$Passage;LWaxInEars$Crew;)I"⟩, 6), (⟨"WaxInEars$Ship", "isStriking", "(ILWaxInEars$Passage;LWaxInEars$Crew;)Z"⟩, 6), (⟨"WaxInEars$Ship", "isFree", "(I)Z"⟩, 6), (⟨"WaxInEars$Ship", "freeOars", "(LWaxInEars$Crew;)I"⟩, 6), (⟨"WaxInEars$Ship", "comeOn", "(LWaxInEars$Passage;)V"⟩, 6), (⟨"WaxInEars", "rankWithWax", "(I)I"⟩, 12), (⟨"WaxInEars", "rankOfTrial", "()I"⟩, 12), (⟨"WaxInEars", "rankWithListener", "(I)I"⟩, 12), (⟨"WaxInEars$Passage", "copy", "(LWaxInEars$Passage;)V"⟩, 5), (⟨"WaxInEars", "fittingSetsWith", "(I)I"⟩, 12)]
theorem lw_r1 : ∀ q ∈ lw_privs_1, lw_okq q := List.forall_mem_cons.mpr ⟨lw_p0, List.forall_mem_cons.mpr ⟨lw_p1, List.forall_mem_cons.mpr ⟨lw_p2, List.forall_mem_cons.mpr ⟨lw_p3, List.forall_mem_cons.mpr ⟨lw_p4, List.forall_mem_cons.mpr ⟨lw_p5, List.forall_mem_cons.mpr ⟨lw_p6, List.forall_mem_cons.mpr ⟨lw_p7, List.forall_mem_cons.mpr ⟨lw_p8, List.forall_mem_cons.mpr ⟨lw_p9, List.forall_mem_cons.mpr ⟨lw_p10, List.forall_mem_cons.mpr ⟨lw_p11, List.forall_mem_cons.mpr ⟨lw_p12, List.forall_mem_cons.mpr ⟨lw_p13, List.forall_mem_cons.mpr ⟨lw_p14, List.forall_mem_cons.mpr ⟨lw_p15, fun _ h => absurd h List.not_mem_nil⟩⟩⟩⟩⟩⟩⟩⟩⟩⟩⟩⟩⟩⟩⟩⟩
theorem lw_p16 : lw_okq (⟨"WaxInEars", "isFitting", "(I)Z"⟩, 12) := ⟨⟨by decide +kernel, by decide +kernel⟩, List.mem_of_getElem? (i := 12) (by decide +kernel), List.mem_of_getElem? (i := 465) (by decide +kernel), List.mem_of_getElem? (i := 466) (by decide +kernel)⟩
theorem lw_p17 : lw_okq (⟨"WaxInEarsModel", "readPassage", "()V"⟩, 50) := ⟨⟨by decide +kernel, by decide +kernel⟩, List.mem_of_getElem? (i := 527) (by decide +kernel), List.mem_of_getElem? (i := 700) (by decide +kernel), List.mem_of_getElem? (i := 701) (by decide +kernel)⟩
theorem lw_p18 : lw_okq (⟨"WaxInEarsModel", "nextState", "(II)I"⟩, 50) := ⟨⟨by decide +kernel, by decide +kernel⟩, List.mem_of_getElem? (i := 527) (by decide +kernel), List.mem_of_getElem? (i := 704) (by decide +kernel), List.mem_of_getElem? (i := 705) (by decide +kernel)⟩
theorem lw_p19 : lw_okq (⟨"WaxInEarsModel", "placeState", "(I)I"⟩, 50) := ⟨⟨by decide +kernel, by decide +kernel⟩, List.mem_of_getElem? (i := 527) (by decide +kernel), List.mem_of_getElem? (i := 708) (by decide +kernel), List.mem_of_getElem? (i := 709) (by decide +kernel)⟩
theorem lw_p20 : lw_okq (⟨"WaxInEarsModel", "begin", "()V"⟩, 50) := ⟨⟨by decide +kernel, by decide +kernel⟩, List.mem_of_getElem? (i := 527) (by decide +kernel), List.mem_of_getElem? (i := 716) (by decide +kernel), List.mem_of_getElem? (i := 717) (by decide +kernel)⟩
theorem lw_p21 : lw_okq (⟨"WaxInEarsModel", "isMan", "(I)Z"⟩, 50) := ⟨⟨by decide +kernel, by decide +kernel⟩, List.mem_of_getElem? (i := 527) (by decide +kernel), List.mem_of_getElem? (i := 732) (by decide +kernel), List.mem_of_getElem? (i := 733) (by decide +kernel)⟩
theorem lw_p22 : lw_okq (⟨"WaxInEarsModel", "manNow", "(II)I"⟩, 50) := ⟨⟨by decide +kernel, by decide +kernel⟩, List.mem_of_getElem? (i := 527) (by decide +kernel), List.mem_of_getElem? (i := 736) (by decide +kernel), List.mem_of_getElem? (i := 737) (by decide +kernel)⟩
theorem lw_p23 : lw_okq (⟨"WaxInEarsModel", "hears", "(I)Z"⟩, 50) := ⟨⟨by decide +kernel, by decide +kernel⟩, List.mem_of_getElem? (i := 527) (by decide +kernel), List.mem_of_getElem? (i := 740) (by decide +kernel), List.mem_of_getElem? (i := 741) (by decide +kernel)⟩
theorem lw_p24 : lw_okq (⟨"WaxInEarsModel", "holds", "(I)I"⟩, 50) := ⟨⟨by decide +kernel, by decide +kernel⟩, List.mem_of_getElem? (i := 527) (by decide +kernel), List.mem_of_getElem? (i := 747) (by decide +kernel), List.mem_of_getElem? (i := 748) (by decide +kernel)⟩
theorem lw_p25 : lw_okq (⟨"WaxInEarsModel", "isOn", "()Z"⟩, 50) := ⟨⟨by decide +kernel, by decide +kernel⟩, List.mem_of_getElem? (i := 527) (by decide +kernel), List.mem_of_getElem? (i := 767) (by decide +kernel), List.mem_of_getElem? (i := 768) (by decide +kernel)⟩
theorem lw_p26 : lw_okq (⟨"WaxInEarsModel", "goStroke", "()V"⟩, 50) := ⟨⟨by decide +kernel, by decide +kernel⟩, List.mem_of_getElem? (i := 527) (by decide +kernel), List.mem_of_getElem? (i := 771) (by decide +kernel), List.mem_of_getElem? (i := 772) (by decide +kernel)⟩
theorem lw_p27 : lw_okq (⟨"WaxInEarsModel", "swims", "(II)Z"⟩, 50) := ⟨⟨by decide +kernel, by decide +kernel⟩, List.mem_of_getElem? (i := 527) (by decide +kernel), List.mem_of_getElem? (i := 775) (by decide +kernel), List.mem_of_getElem? (i := 776) (by decide +kernel)⟩
theorem lw_p28 : lw_okq (⟨"WaxInEarsModel", "everybody", "()I"⟩, 50) := ⟨⟨by decide +kernel, by decide +kernel⟩, List.mem_of_getElem? (i := 527) (by decide +kernel), List.mem_of_getElem? (i := 779) (by decide +kernel), List.mem_of_getElem? (i := 780) (by decide +kernel)⟩
theorem lw_p29 : lw_okq (⟨"WaxInEarsModel", "anyHears", "()Z"⟩, 50) := ⟨⟨by decide +kernel, by decide +kernel⟩, List.mem_of_getElem? (i := 527) (by decide +kernel), List.mem_of_getElem? (i := 783) (by decide +kernel), List.mem_of_getElem? (i := 784) (by decide +kernel)⟩
theorem lw_p30 : lw_okq (⟨"WaxInEarsModel", "anySees", "()Z"⟩, 50) := ⟨⟨by decide +kernel, by decide +kernel⟩, List.mem_of_getElem? (i := 527) (by decide +kernel), List.mem_of_getElem? (i := 787) (by decide +kernel), List.mem_of_getElem? (i := 788) (by decide +kernel)⟩
theorem lw_p31 : lw_okq (⟨"WaxInEarsModel", "oars", "()I"⟩, 50) := ⟨⟨by decide +kernel, by decide +kernel⟩, List.mem_of_getElem? (i := 527) (by decide +kernel), List.mem_of_getElem? (i := 791) (by decide +kernel), List.mem_of_getElem? (i := 792) (by decide +kernel)⟩
def lw_privs_2 : List (MethodName × Nat) := [(⟨"WaxInEars", "isFitting", "(I)Z"⟩, 12), (⟨"WaxInEarsModel", "readPassage", "()V"⟩, 50), (⟨"WaxInEarsModel", "nextState", "(II)I"⟩, 50), (⟨"WaxInEarsModel", "placeState", "(I)I"⟩, 50), (⟨"WaxInEarsModel", "begin", "()V"⟩, 50), (⟨"WaxInEarsModel", "isMan", "(I)Z"⟩, 50), (⟨"WaxInEarsModel", "manNow", "(II)I"⟩, 50), (⟨"WaxInEarsModel", "hears", "(I)Z"⟩, 50), (⟨"WaxInEarsModel", "holds", "(I)I"⟩, 50), (⟨"WaxInEarsModel", "isOn", "()Z"⟩, 50), (⟨"WaxInEarsModel", "goStroke", "()V"⟩, 50), (⟨"WaxInEarsModel", "swims", "(II)Z"⟩, 50), (⟨"WaxInEarsModel", "everybody", "()I"⟩, 50), (⟨"WaxInEarsModel", "anyHears", "()Z"⟩, 50), (⟨"WaxInEarsModel", "anySees", "()Z"⟩, 50), (⟨"WaxInEarsModel", "oars", "()I"⟩, 50)]
theorem lw_r2 : ∀ q ∈ lw_privs_2, lw_okq q := List.forall_mem_cons.mpr ⟨lw_p16, List.forall_mem_cons.mpr ⟨lw_p17, List.forall_mem_cons.mpr ⟨lw_p18, List.forall_mem_cons.mpr ⟨lw_p19, List.forall_mem_cons.mpr ⟨lw_p20, List.forall_mem_cons.mpr ⟨lw_p21, List.forall_mem_cons.mpr ⟨lw_p22, List.forall_mem_cons.mpr ⟨lw_p23, List.forall_mem_cons.mpr ⟨lw_p24, List.forall_mem_cons.mpr ⟨lw_p25, List.forall_mem_cons.mpr ⟨lw_p26, List.forall_mem_cons.mpr ⟨lw_p27, List.forall_mem_cons.mpr ⟨lw_p28, List.forall_mem_cons.mpr ⟨lw_p29, List.forall_mem_cons.mpr ⟨lw_p30, List.forall_mem_cons.mpr ⟨lw_p31, fun _ h => absurd h List.not_mem_nil⟩⟩⟩⟩⟩⟩⟩⟩⟩⟩⟩⟩⟩⟩⟩⟩
theorem lw_p32 : lw_okq (⟨"WaxInEarsModel", "outcomeNow", "(I)I"⟩, 50) := ⟨⟨by decide +kernel, by decide +kernel⟩, List.mem_of_getElem? (i := 527) (by decide +kernel), List.mem_of_getElem? (i := 799) (by decide +kernel), List.mem_of_getElem? (i := 800) (by decide +kernel)⟩
theorem lw_p33 : lw_okq (⟨"WaxInEarsModel", "save", "()V"⟩, 50) := ⟨⟨by decide +kernel, by decide +kernel⟩, List.mem_of_getElem? (i := 527) (by decide +kernel), List.mem_of_getElem? (i := 803) (by decide +kernel), List.mem_of_getElem? (i := 804) (by decide +kernel)⟩
theorem lw_p34 : lw_okq (⟨"WaxInEarsModel", "goOn", "()V"⟩, 50) := ⟨⟨by decide +kernel, by decide +kernel⟩, List.mem_of_getElem? (i := 527) (by decide +kernel), List.mem_of_getElem? (i := 807) (by decide +kernel), List.mem_of_getElem? (i := 808) (by decide +kernel)⟩
theorem lw_p35 : lw_okq (⟨"WaxInEarsModel", "back", "()V"⟩, 50) := ⟨⟨by decide +kernel, by decide +kernel⟩, List.mem_of_getElem? (i := 527) (by decide +kernel), List.mem_of_getElem? (i := 814) (by decide +kernel), List.mem_of_getElem? (i := 815) (by decide +kernel)⟩
theorem lw_p36 : lw_okq (⟨"WaxInEarsModel", "waxingNow", "(II)I"⟩, 50) := ⟨⟨by decide +kernel, by decide +kernel⟩, List.mem_of_getElem? (i := 527) (by decide +kernel), List.mem_of_getElem? (i := 822) (by decide +kernel), List.mem_of_getElem? (i := 823) (by decide +kernel)⟩
theorem lw_p37 : lw_okq (⟨"WaxInEarsModel", "badness", "()I"⟩, 50) := ⟨⟨by decide +kernel, by decide +kernel⟩, List.mem_of_getElem? (i := 527) (by decide +kernel), List.mem_of_getElem? (i := 826) (by decide +kernel), List.mem_of_getElem? (i := 827) (by decide +kernel)⟩
theorem lw_p38 : lw_okq (⟨"WaxInEarsModel", "holdNow", "(I)I"⟩, 50) := ⟨⟨by decide +kernel, by decide +kernel⟩, List.mem_of_getElem? (i := 527) (by decide +kernel), List.mem_of_getElem? (i := 834) (by decide +kernel), List.mem_of_getElem? (i := 835) (by decide +kernel)⟩
theorem lw_p39 : lw_okq (⟨"WaxInEarsModel", "listenerNow", "()I"⟩, 50) := ⟨⟨by decide +kernel, by decide +kernel⟩, List.mem_of_getElem? (i := 527) (by decide +kernel), List.mem_of_getElem? (i := 842) (by decide +kernel), List.mem_of_getElem? (i := 843) (by decide +kernel)⟩
theorem lw_p40 : lw_okq (⟨"WaxInEarsModel", "soldNow", "()I"⟩, 50) := ⟨⟨by decide +kernel, by decide +kernel⟩, List.mem_of_getElem? (i := 527) (by decide +kernel), List.mem_of_getElem? (i := 850) (by decide +kernel), List.mem_of_getElem? (i := 851) (by decide +kernel)⟩
theorem lw_p41 : lw_okq (⟨"WaxInEarsModel", "layFits", "()I"⟩, 50) := ⟨⟨by decide +kernel, by decide +kernel⟩, List.mem_of_getElem? (i := 527) (by decide +kernel), List.mem_of_getElem? (i := 866) (by decide +kernel), List.mem_of_getElem? (i := 867) (by decide +kernel)⟩
theorem lw_p42 : lw_okq (⟨"WaxInEarsModel", "isLoggedSo", "(I)Z"⟩, 50) := ⟨⟨by decide +kernel, by decide +kernel⟩, List.mem_of_getElem? (i := 527) (by decide +kernel), List.mem_of_getElem? (i := 870) (by decide +kernel), List.mem_of_getElem? (i := 871) (by decide +kernel)⟩
theorem lw_p43 : lw_okq (⟨"WaxInEarsModel", "sureNow", "(I)I"⟩, 50) := ⟨⟨by decide +kernel, by decide +kernel⟩, List.mem_of_getElem? (i := 527) (by decide +kernel), List.mem_of_getElem? (i := 878) (by decide +kernel), List.mem_of_getElem? (i := 879) (by decide +kernel)⟩
theorem lw_p44 : lw_okq (⟨"WaxInEarsModel", "voyagesNow", "(III)I"⟩, 50) := ⟨⟨by decide +kernel, by decide +kernel⟩, List.mem_of_getElem? (i := 527) (by decide +kernel), List.mem_of_getElem? (i := 886) (by decide +kernel), List.mem_of_getElem? (i := 887) (by decide +kernel)⟩
theorem lw_p45 : lw_okq (⟨"WaxInEarsModel", "draw", "(I)I"⟩, 50) := ⟨⟨by decide +kernel, by decide +kernel⟩, List.mem_of_getElem? (i := 527) (by decide +kernel), List.mem_of_getElem? (i := 890) (by decide +kernel), List.mem_of_getElem? (i := 891) (by decide +kernel)⟩
theorem lw_p46 : lw_okq (⟨"WaxInEarsModel", "howMany", "(I)I"⟩, 50) := ⟨⟨by decide +kernel, by decide +kernel⟩, List.mem_of_getElem? (i := 527) (by decide +kernel), List.mem_of_getElem? (i := 910) (by decide +kernel), List.mem_of_getElem? (i := 911) (by decide +kernel)⟩
theorem lw_p47 : lw_okq (⟨"WaxInEarsModel", "mix", "(J)V"⟩, 50) := ⟨⟨by decide +kernel, by decide +kernel⟩, List.mem_of_getElem? (i := 527) (by decide +kernel), List.mem_of_getElem? (i := 919) (by decide +kernel), List.mem_of_getElem? (i := 920) (by decide +kernel)⟩
def lw_privs_3 : List (MethodName × Nat) := [(⟨"WaxInEarsModel", "outcomeNow", "(I)I"⟩, 50), (⟨"WaxInEarsModel", "save", "()V"⟩, 50), (⟨"WaxInEarsModel", "goOn", "()V"⟩, 50), (⟨"WaxInEarsModel", "back", "()V"⟩, 50), (⟨"WaxInEarsModel", "waxingNow", "(II)I"⟩, 50), (⟨"WaxInEarsModel", "badness", "()I"⟩, 50), (⟨"WaxInEarsModel", "holdNow", "(I)I"⟩, 50), (⟨"WaxInEarsModel", "listenerNow", "()I"⟩, 50), (⟨"WaxInEarsModel", "soldNow", "()I"⟩, 50), (⟨"WaxInEarsModel", "layFits", "()I"⟩, 50), (⟨"WaxInEarsModel", "isLoggedSo", "(I)Z"⟩, 50), (⟨"WaxInEarsModel", "sureNow", "(I)I"⟩, 50), (⟨"WaxInEarsModel", "voyagesNow", "(III)I"⟩, 50), (⟨"WaxInEarsModel", "draw", "(I)I"⟩, 50), (⟨"WaxInEarsModel", "howMany", "(I)I"⟩, 50), (⟨"WaxInEarsModel", "mix", "(J)V"⟩, 50)]
theorem lw_r3 : ∀ q ∈ lw_privs_3, lw_okq q := List.forall_mem_cons.mpr ⟨lw_p32, List.forall_mem_cons.mpr ⟨lw_p33, List.forall_mem_cons.mpr ⟨lw_p34, List.forall_mem_cons.mpr ⟨lw_p35, List.forall_mem_cons.mpr ⟨lw_p36, List.forall_mem_cons.mpr ⟨lw_p37, List.forall_mem_cons.mpr ⟨lw_p38, List.forall_mem_cons.mpr ⟨lw_p39, List.forall_mem_cons.mpr ⟨lw_p40, List.forall_mem_cons.mpr ⟨lw_p41, List.forall_mem_cons.mpr ⟨lw_p42, List.forall_mem_cons.mpr ⟨lw_p43, List.forall_mem_cons.mpr ⟨lw_p44, List.forall_mem_cons.mpr ⟨lw_p45, List.forall_mem_cons.mpr ⟨lw_p46, List.forall_mem_cons.mpr ⟨lw_p47, fun _ h => absurd h List.not_mem_nil⟩⟩⟩⟩⟩⟩⟩⟩⟩⟩⟩⟩⟩⟩⟩⟩
theorem lw_p48 : lw_okq (⟨"WaxInEarsModel", "mixOutcome", "()V"⟩, 50) := ⟨⟨by decide +kernel, by decide +kernel⟩, List.mem_of_getElem? (i := 527) (by decide +kernel), List.mem_of_getElem? (i := 924) (by decide +kernel), List.mem_of_getElem? (i := 925) (by decide +kernel)⟩
def lw_privs_4 : List (MethodName × Nat) := [(⟨"WaxInEarsModel", "mixOutcome", "()V"⟩, 50)]
theorem lw_r4 : ∀ q ∈ lw_privs_4, lw_okq q := List.forall_mem_cons.mpr ⟨lw_p48, fun _ h => absurd h List.not_mem_nil⟩
def lw_privs : List (MethodName × Nat) := lw_privs_1 ++ (lw_privs_2 ++ (lw_privs_3 ++ (lw_privs_4)))
def lw_tbl : List Cond := k2_sels lw_privs ++ tables_1
theorem lw_privs_ok : ∀ q ∈ lw_privs, lw_okq q := by
  show ∀ q ∈ lw_privs_1 ++ (lw_privs_2 ++ (lw_privs_3 ++ (lw_privs_4))), lw_okq q
  exact List.forall_mem_append.mpr ⟨lw_r1, List.forall_mem_append.mpr ⟨lw_r2, List.forall_mem_append.mpr ⟨lw_r3, lw_r4⟩⟩⟩
end
section
/-! Names, field tables, codes: as the claim prints them (made by wip/whole/names.py); then the words of lw_tbl, each by its place. -/
def RX0 : String := "WaxInEars$Crew"
def TX0 : u_T := fun k => match k with
  | 0 => ("WaxInEars$Crew", "kinds", "[I", true)
  | 1 => ("WaxInEars$Crew", "oars", "[I", true)
  | 2 => ("WaxInEars$Crew", "wills", "[I", true)
  | _ => ("WaxInEars$Crew", "size", "I", false)
def tyX0 : Nat → FieldType := fun k => match k with
  | 0 => .array .int
  | 1 => .array .int
  | 2 => .array .int
  | _ => .int
abbrev wsX00 : List Cond := u_ws RX0 TX0 4
theorem nmX0 : ∀ a, a < 4 → ∀ b, b < 4 → a ≠ b → (TX0 a).2.1 ≠ (TX0 b).2.1 := by decide +kernel
theorem tyX0_ok : ∀ k, k < 4 → parseFieldDescriptor (TX0 k).2.2.1 = some (tyX0 k) := by decide +kernel
abbrev cX0_init : ByteArray := prog_2_method_1_code
def yX0_init : MethodName := ⟨RX0, "<init>", "()V"⟩
abbrev cX0_add : ByteArray := prog_2_method_2_code
def yX0_add : MethodName := ⟨RX0, "add", "(III)V"⟩
abbrev cX0_kindOf : ByteArray := prog_2_method_3_code
def yX0_kindOf : MethodName := ⟨RX0, "kindOf", "(I)I"⟩
abbrev cX0_oarOf : ByteArray := prog_2_method_4_code
def yX0_oarOf : MethodName := ⟨RX0, "oarOf", "(I)I"⟩
abbrev cX0_willOf : ByteArray := prog_2_method_5_code
def yX0_willOf : MethodName := ⟨RX0, "willOf", "(I)I"⟩
abbrev cX0_isOfKind : ByteArray := prog_2_method_6_code
def yX0_isOfKind : MethodName := ⟨RX0, "isOfKind", "(II)Z"⟩
abbrev cX0_everyone : ByteArray := prog_2_method_7_code
def yX0_everyone : MethodName := ⟨RX0, "everyone", "()I"⟩
def RX1 : String := "WaxInEars$Log"
def TX1 : u_T := fun k => match k with
  | 0 => ("WaxInEars$Log", "sets", "[I", true)
  | _ => ("WaxInEars$Log", "size", "I", false)
def tyX1 : Nat → FieldType := fun k => match k with
  | 0 => .array .int
  | _ => .int
abbrev wsX10 : List Cond := u_ws RX1 TX1 2
theorem nmX1 : ∀ a, a < 2 → ∀ b, b < 2 → a ≠ b → (TX1 a).2.1 ≠ (TX1 b).2.1 := by decide +kernel
theorem tyX1_ok : ∀ k, k < 2 → parseFieldDescriptor (TX1 k).2.2.1 = some (tyX1 k) := by decide +kernel
abbrev cX1_init : ByteArray := prog_3_method_1_code
def yX1_init : MethodName := ⟨RX1, "<init>", "()V"⟩
abbrev cX1_add : ByteArray := prog_3_method_2_code
def yX1_add : MethodName := ⟨RX1, "add", "(I)V"⟩
abbrev cX1_setAt : ByteArray := prog_3_method_3_code
def yX1_setAt : MethodName := ⟨RX1, "setAt", "(I)I"⟩
abbrev cX1_copy : ByteArray := prog_3_method_4_code
def yX1_copy : MethodName := ⟨RX1, "copy", "(LWaxInEars$Log;)V"⟩
def RX2 : String := "WaxInEars$Page"
def TX2 : u_T := fun k => match k with
  | 0 => ("WaxInEars$Page", "letters", "[I", true)
  | _ => ("WaxInEars$Page", "size", "I", false)
def tyX2 : Nat → FieldType := fun k => match k with
  | 0 => .array .int
  | _ => .int
abbrev wsX20 : List Cond := u_ws RX2 TX2 2
theorem nmX2 : ∀ a, a < 2 → ∀ b, b < 2 → a ≠ b → (TX2 a).2.1 ≠ (TX2 b).2.1 := by decide +kernel
theorem tyX2_ok : ∀ k, k < 2 → parseFieldDescriptor (TX2 k).2.2.1 = some (tyX2 k) := by decide +kernel
abbrev cX2_init : ByteArray := prog_4_method_1_code
def yX2_init : MethodName := ⟨RX2, "<init>", "()V"⟩
abbrev cX2_add : ByteArray := prog_4_method_2_code
def yX2_add : MethodName := ⟨RX2, "add", "(I)V"⟩
abbrev cX2_codeAt : ByteArray := prog_4_method_3_code
def yX2_codeAt : MethodName := ⟨RX2, "codeAt", "(I)I"⟩
abbrev cX2_isPassage : ByteArray := prog_4_method_4_code
def yX2_isPassage : MethodName := ⟨RX2, "isPassage", "()Z"⟩
abbrev cX2_firstFault : ByteArray := prog_4_method_5_code
def yX2_firstFault : MethodName := ⟨RX2, "firstFault", "()I"⟩
abbrev cX2_isInHead : ByteArray := prog_4_method_6_code
def yX2_isInHead : MethodName := ⟨RX2, "isInHead", "(II)Z"⟩
abbrev cX2_beginsPlace : ByteArray := prog_4_method_7_code
def yX2_beginsPlace : MethodName := ⟨RX2, "beginsPlace", "(I)Z"⟩
abbrev cX2_isSong : ByteArray := prog_4_method_8_code
def yX2_isSong : MethodName := ⟨RX2, "isSong", "(I)Z"⟩
def RX3 : String := "WaxInEars$Passage"
def TX3 : u_T := fun k => match k with
  | 0 => ("WaxInEars$Passage", "songs", "[I", true)
  | 1 => ("WaxInEars$Passage", "rocks", "[I", true)
  | 2 => ("WaxInEars$Passage", "need", "I", false)
  | 3 => ("WaxInEars$Passage", "noon", "I", false)
  | _ => ("WaxInEars$Passage", "size", "I", false)
def tyX3 : Nat → FieldType := fun k => match k with
  | 0 => .array .int
  | 1 => .array .int
  | 2 => .int
  | 3 => .int
  | _ => .int
abbrev wsX30 : List Cond := u_ws RX3 TX3 5
theorem nmX3 : ∀ a, a < 5 → ∀ b, b < 5 → a ≠ b → (TX3 a).2.1 ≠ (TX3 b).2.1 := by decide +kernel
theorem tyX3_ok : ∀ k, k < 5 → parseFieldDescriptor (TX3 k).2.2.1 = some (tyX3 k) := by decide +kernel
abbrev cX3_init : ByteArray := prog_5_method_1_code
def yX3_init : MethodName := ⟨RX3, "<init>", "()V"⟩
abbrev cX3_read : ByteArray := prog_5_method_2_code
def yX3_read : MethodName := ⟨RX3, "read", "(LWaxInEars$Page;)V"⟩
abbrev cX3_rockBy : ByteArray := prog_5_method_3_code
def yX3_rockBy : MethodName := ⟨RX3, "rockBy", "(I)I"⟩
abbrev cX3_addPlace : ByteArray := prog_5_method_4_code
def yX3_addPlace : MethodName := ⟨RX3, "addPlace", "(I)V"⟩
abbrev cX3_setSong : ByteArray := prog_5_method_5_code
def yX3_setSong : MethodName := ⟨RX3, "setSong", "(II)V"⟩
abbrev cX3_songAt : ByteArray := prog_5_method_6_code
def yX3_songAt : MethodName := ⟨RX3, "songAt", "(I)I"⟩
abbrev cX3_rockAt : ByteArray := prog_5_method_7_code
def yX3_rockAt : MethodName := ⟨RX3, "rockAt", "(I)I"⟩
abbrev cX3_copyWeaker : ByteArray := prog_5_method_8_code
def yX3_copyWeaker : MethodName := ⟨RX3, "copyWeaker", "(LWaxInEars$Passage;I)V"⟩
abbrev cX3_copyDrawn : ByteArray := prog_5_method_9_code
def yX3_copyDrawn : MethodName := ⟨RX3, "copyDrawn", "(LWaxInEars$Passage;I)I"⟩
abbrev cX3_seedAfter : ByteArray := prog_5_method_10_code
def yX3_seedAfter : MethodName := ⟨RX3, "seedAfter", "(I)I"⟩
abbrev cX3_copy : ByteArray := prog_5_method_11_code
def yX3_copy : MethodName := ⟨RX3, "copy", "(LWaxInEars$Passage;)V"⟩
def RX4 : String := "WaxInEars$Ship"
def TX4 : u_T := fun k => match k with
  | 0 => ("WaxInEars$Ship", "knots", "[I", true)
  | 1 => ("WaxInEars$Ship", "waxed", "I", false)
  | 2 => ("WaxInEars$Ship", "aboard", "I", false)
  | 3 => ("WaxInEars$Ship", "place", "I", false)
  | 4 => ("WaxInEars$Ship", "strokes", "I", false)
  | _ => ("WaxInEars$Ship", "how", "I", false)
def tyX4 : Nat → FieldType := fun k => match k with
  | 0 => .array .int
  | 1 => .int
  | 2 => .int
  | 3 => .int
  | 4 => .int
  | _ => .int
abbrev wsX40 : List Cond := u_ws RX4 TX4 6
theorem nmX4 : ∀ a, a < 6 → ∀ b, b < 6 → a ≠ b → (TX4 a).2.1 ≠ (TX4 b).2.1 := by decide +kernel
theorem tyX4_ok : ∀ k, k < 6 → parseFieldDescriptor (TX4 k).2.2.1 = some (tyX4 k) := by decide +kernel
abbrev cX4_init : ByteArray := prog_6_method_1_code
def yX4_init : MethodName := ⟨RX4, "<init>", "()V"⟩
abbrev cX4_copy : ByteArray := prog_6_method_2_code
def yX4_copy : MethodName := ⟨RX4, "copy", "(LWaxInEars$Ship;)V"⟩
abbrev cX4_startWith : ByteArray := prog_6_method_3_code
def yX4_startWith : MethodName := ⟨RX4, "startWith", "(I)V"⟩
abbrev cX4_board : ByteArray := prog_6_method_4_code
def yX4_board : MethodName := ⟨RX4, "board", "(I)V"⟩
abbrev cX4_isAboard : ByteArray := prog_6_method_5_code
def yX4_isAboard : MethodName := ⟨RX4, "isAboard", "(I)Z"⟩
abbrev cX4_isWaxed : ByteArray := prog_6_method_6_code
def yX4_isWaxed : MethodName := ⟨RX4, "isWaxed", "(I)Z"⟩
abbrev cX4_setWax : ByteArray := prog_6_method_7_code
def yX4_setWax : MethodName := ⟨RX4, "setWax", "(IZ)V"⟩
abbrev cX4_knotsOf : ByteArray := prog_6_method_8_code
def yX4_knotsOf : MethodName := ⟨RX4, "knotsOf", "(I)I"⟩
abbrev cX4_setKnots : ByteArray := prog_6_method_9_code
def yX4_setKnots : MethodName := ⟨RX4, "setKnots", "(II)V"⟩
abbrev cX4_lostOf : ByteArray := prog_6_method_10_code
def yX4_lostOf : MethodName := ⟨RX4, "lostOf", "(LWaxInEars$Crew;)I"⟩
abbrev cX4_isHearing : ByteArray := prog_6_method_11_code
def yX4_isHearing : MethodName := ⟨RX4, "isHearing", "(ILWaxInEars$Passage;LWaxInEars$Crew;)Z"⟩
abbrev cX4_holdOn : ByteArray := prog_6_method_12_code
def yX4_holdOn : MethodName := ⟨RX4, "holdOn", "(ILWaxInEars$Crew;)I"⟩
abbrev cX4_rowOn : ByteArray := prog_6_method_13_code
def yX4_rowOn : MethodName := ⟨RX4, "rowOn", "(LWaxInEars$Passage;LWaxInEars$Crew;)I"⟩
abbrev cX4_row : ByteArray := prog_6_method_14_code
def yX4_row : MethodName := ⟨RX4, "row", "(LWaxInEars$Passage;LWaxInEars$Crew;)I"⟩
abbrev cX4_comeOn : ByteArray := prog_6_method_15_code
def yX4_comeOn : MethodName := ⟨RX4, "comeOn", "(LWaxInEars$Passage;)V"⟩
abbrev cX4_swimmersAt : ByteArray := prog_6_method_16_code
def yX4_swimmersAt : MethodName := ⟨RX4, "swimmersAt", "(LWaxInEars$Passage;LWaxInEars$Crew;)I"⟩
abbrev cX4_isStriking : ByteArray := prog_6_method_17_code
def yX4_isStriking : MethodName := ⟨RX4, "isStriking", "(ILWaxInEars$Passage;LWaxInEars$Crew;)Z"⟩
abbrev cX4_freeOars : ByteArray := prog_6_method_18_code
def yX4_freeOars : MethodName := ⟨RX4, "freeOars", "(LWaxInEars$Crew;)I"⟩
abbrev cX4_isFree : ByteArray := prog_6_method_19_code
def yX4_isFree : MethodName := ⟨RX4, "isFree", "(I)Z"⟩
def RX5 : String := "WaxInEars"
def TX5 : u_T := fun k => match k with
  | 0 => ("WaxInEars", "page", "LWaxInEars$Page;", true)
  | 1 => ("WaxInEars", "passage", "LWaxInEars$Passage;", true)
  | 2 => ("WaxInEars", "crew", "LWaxInEars$Crew;", true)
  | 3 => ("WaxInEars", "ship", "LWaxInEars$Ship;", true)
  | 4 => ("WaxInEars", "log", "LWaxInEars$Log;", true)
  | 5 => ("WaxInEars", "keptShip", "LWaxInEars$Ship;", true)
  | 6 => ("WaxInEars", "keptLog", "LWaxInEars$Log;", true)
  | 7 => ("WaxInEars", "keptMen", "I", false)
  | 8 => ("WaxInEars", "isKept", "Z", false)
  | 9 => ("WaxInEars", "trialShip", "LWaxInEars$Ship;", true)
  | 10 => ("WaxInEars", "trialPassage", "LWaxInEars$Passage;", true)
  | _ => ("WaxInEars", "timesRead", "I", false)
def tyX5 : Nat → FieldType := fun k => match k with
  | 0 => .object "WaxInEars$Page"
  | 1 => .object "WaxInEars$Passage"
  | 2 => .object "WaxInEars$Crew"
  | 3 => .object "WaxInEars$Ship"
  | 4 => .object "WaxInEars$Log"
  | 5 => .object "WaxInEars$Ship"
  | 6 => .object "WaxInEars$Log"
  | 7 => .int
  | 8 => .boolean
  | 9 => .object "WaxInEars$Ship"
  | 10 => .object "WaxInEars$Passage"
  | _ => .int
abbrev wsX50 : List Cond := u_ws RX5 TX5 12
theorem nmX5 : ∀ a, a < 12 → ∀ b, b < 12 → a ≠ b → (TX5 a).2.1 ≠ (TX5 b).2.1 := by decide +kernel
theorem tyX5_ok : ∀ k, k < 12 → parseFieldDescriptor (TX5 k).2.2.1 = some (tyX5 k) := by decide +kernel
abbrev cX5_init : ByteArray := prog_1_method_1_code
def yX5_init : MethodName := ⟨RX5, "<init>", "()V"⟩
abbrev cX5_letter : ByteArray := prog_1_method_2_code
def yX5_letter : MethodName := ⟨RX5, "letter", "(I)I"⟩
abbrev cX5_blank : ByteArray := prog_1_method_3_code
def yX5_blank : MethodName := ⟨RX5, "blank", "()I"⟩
abbrev cX5_fault : ByteArray := prog_1_method_4_code
def yX5_fault : MethodName := ⟨RX5, "fault", "()I"⟩
abbrev cX5_passage : ByteArray := prog_1_method_5_code
def yX5_passage : MethodName := ⟨RX5, "passage", "()I"⟩
abbrev cX5_place : ByteArray := prog_1_method_6_code
def yX5_place : MethodName := ⟨RX5, "place", "(II)I"⟩
abbrev cX5_man : ByteArray := prog_1_method_7_code
def yX5_man : MethodName := ⟨RX5, "man", "(III)I"⟩
abbrev cX5_about : ByteArray := prog_1_method_8_code
def yX5_about : MethodName := ⟨RX5, "about", "(II)I"⟩
abbrev cX5_as : ByteArray := prog_1_method_9_code
def yX5_as : MethodName := ⟨RX5, "as", "(II)I"⟩
abbrev cX5_wax : ByteArray := prog_1_method_10_code
def yX5_wax : MethodName := ⟨RX5, "wax", "(IZ)I"⟩
abbrev cX5_bind : ByteArray := prog_1_method_11_code
def yX5_bind : MethodName := ⟨RX5, "bind", "(II)I"⟩
abbrev cX5_stroke : ByteArray := prog_1_method_12_code
def yX5_stroke : MethodName := ⟨RX5, "stroke", "()I"⟩
abbrev cX5_outcome : ByteArray := prog_1_method_13_code
def yX5_outcome : MethodName := ⟨RX5, "outcome", "(I)I"⟩
abbrev cX5_waxing : ByteArray := prog_1_method_14_code
def yX5_waxing : MethodName := ⟨RX5, "waxing", "(II)I"⟩
abbrev cX5_hold : ByteArray := prog_1_method_15_code
def yX5_hold : MethodName := ⟨RX5, "hold", "(I)I"⟩
abbrev cX5_listener : ByteArray := prog_1_method_16_code
def yX5_listener : MethodName := ⟨RX5, "listener", "()I"⟩
abbrev cX5_sold : ByteArray := prog_1_method_17_code
def yX5_sold : MethodName := ⟨RX5, "sold", "()I"⟩
abbrev cX5_log : ByteArray := prog_1_method_18_code
def yX5_log : MethodName := ⟨RX5, "log", "(I)I"⟩
abbrev cX5_forget : ByteArray := prog_1_method_19_code
def yX5_forget : MethodName := ⟨RX5, "forget", "()I"⟩
abbrev cX5_fits : ByteArray := prog_1_method_20_code
def yX5_fits : MethodName := ⟨RX5, "fits", "()I"⟩
abbrev cX5_sure : ByteArray := prog_1_method_21_code
def yX5_sure : MethodName := ⟨RX5, "sure", "(I)I"⟩
abbrev cX5_voyages : ByteArray := prog_1_method_22_code
def yX5_voyages : MethodName := ⟨RX5, "voyages", "(III)I"⟩
abbrev cX5_image : ByteArray := prog_1_method_23_code
def yX5_image : MethodName := ⟨RX5, "image", "()I"⟩
abbrev cX5_restore : ByteArray := prog_1_method_24_code
def yX5_restore : MethodName := ⟨RX5, "restore", "()I"⟩
abbrev cX5_count : ByteArray := prog_1_method_25_code
def yX5_count : MethodName := ⟨RX5, "count", "(I)I"⟩
abbrev cX5_digest : ByteArray := prog_1_method_26_code
def yX5_digest : MethodName := ⟨RX5, "digest", "()J"⟩
abbrev cX5_mix : ByteArray := prog_1_method_27_code
def yX5_mix : MethodName := ⟨RX5, "mix", "(JJ)J"⟩
abbrev cX5_hasPassage : ByteArray := prog_1_method_28_code
def yX5_hasPassage : MethodName := ⟨RX5, "hasPassage", "()Z"⟩
abbrev cX5_isKnown : ByteArray := prog_1_method_29_code
def yX5_isKnown : MethodName := ⟨RX5, "isKnown", "(I)Z"⟩
abbrev cX5_canGoOn : ByteArray := prog_1_method_30_code
def yX5_canGoOn : MethodName := ⟨RX5, "canGoOn", "()Z"⟩
abbrev cX5_rankWithWax : ByteArray := prog_1_method_31_code
def yX5_rankWithWax : MethodName := ⟨RX5, "rankWithWax", "(I)I"⟩
abbrev cX5_rankWithListener : ByteArray := prog_1_method_32_code
def yX5_rankWithListener : MethodName := ⟨RX5, "rankWithListener", "(I)I"⟩
abbrev cX5_rankOfTrial : ByteArray := prog_1_method_33_code
def yX5_rankOfTrial : MethodName := ⟨RX5, "rankOfTrial", "()I"⟩
abbrev cX5_fittingSetsWith : ByteArray := prog_1_method_34_code
def yX5_fittingSetsWith : MethodName := ⟨RX5, "fittingSetsWith", "(I)I"⟩
abbrev cX5_isFitting : ByteArray := prog_1_method_35_code
def yX5_isFitting : MethodName := ⟨RX5, "isFitting", "(I)Z"⟩
abbrev cX5_isKind : ByteArray := prog_1_method_36_code
def yX5_isKind : MethodName := ⟨RX5, "isKind", "(I)Z"⟩
abbrev cX5_asInt : ByteArray := prog_1_method_37_code
def yX5_asInt : MethodName := ⟨RX5, "asInt", "(Z)I"⟩
def RX6 : String := "WaxInEarsModel"
def TX6 : u_T := fun k => match k with
  | 0 => ("WaxInEarsModel", "isPassage", "Z", false)
  | 1 => ("WaxInEarsModel", "passages", "I", false)
  | 2 => ("WaxInEarsModel", "need", "I", false)
  | 3 => ("WaxInEarsModel", "noon", "I", false)
  | 4 => ("WaxInEarsModel", "places", "I", false)
  | 5 => ("WaxInEarsModel", "songOf", "[I", true)
  | 6 => ("WaxInEarsModel", "rockOf", "[I", true)
  | 7 => ("WaxInEarsModel", "men", "I", false)
  | 8 => ("WaxInEarsModel", "kindOf", "[I", true)
  | 9 => ("WaxInEarsModel", "oarOf", "[I", true)
  | 10 => ("WaxInEarsModel", "willOf", "[I", true)
  | 11 => ("WaxInEarsModel", "knotsOf", "[I", true)
  | 12 => ("WaxInEarsModel", "waxSet", "I", false)
  | 13 => ("WaxInEarsModel", "lostSet", "I", false)
  | 14 => ("WaxInEarsModel", "place", "I", false)
  | 15 => ("WaxInEarsModel", "stroke", "I", false)
  | 16 => ("WaxInEarsModel", "how", "I", false)
  | 17 => ("WaxInEarsModel", "swamSet", "I", false)
  | 18 => ("WaxInEarsModel", "logged", "I", false)
  | 19 => ("WaxInEarsModel", "logOf", "[I", true)
  | 20 => ("WaxInEarsModel", "pageLength", "I", false)
  | 21 => ("WaxInEarsModel", "page", "[B", true)
  | 22 => ("WaxInEarsModel", "faultAt", "I", false)
  | 23 => ("WaxInEarsModel", "isWhole", "Z", false)
  | 24 => ("WaxInEarsModel", "newNeed", "I", false)
  | 25 => ("WaxInEarsModel", "newNoon", "I", false)
  | 26 => ("WaxInEarsModel", "newPlaces", "I", false)
  | 27 => ("WaxInEarsModel", "newSong", "[I", true)
  | 28 => ("WaxInEarsModel", "newRock", "[I", true)
  | 29 => ("WaxInEarsModel", "savedWax", "I", false)
  | 30 => ("WaxInEarsModel", "savedLost", "I", false)
  | 31 => ("WaxInEarsModel", "savedPlace", "I", false)
  | 32 => ("WaxInEarsModel", "savedStroke", "I", false)
  | 33 => ("WaxInEarsModel", "savedHow", "I", false)
  | 34 => ("WaxInEarsModel", "savedKnots", "[I", true)
  | 35 => ("WaxInEarsModel", "savedSong", "[I", true)
  | 36 => ("WaxInEarsModel", "hadOf", "[I", true)
  | 37 => ("WaxInEarsModel", "seedNow", "J", false)
  | 38 => ("WaxInEarsModel", "isKept", "Z", false)
  | 39 => ("WaxInEarsModel", "keptPassage", "I", false)
  | 40 => ("WaxInEarsModel", "keptMen", "I", false)
  | 41 => ("WaxInEarsModel", "keptWax", "I", false)
  | 42 => ("WaxInEarsModel", "keptLost", "I", false)
  | 43 => ("WaxInEarsModel", "keptPlace", "I", false)
  | 44 => ("WaxInEarsModel", "keptStroke", "I", false)
  | 45 => ("WaxInEarsModel", "keptHow", "I", false)
  | 46 => ("WaxInEarsModel", "keptLogged", "I", false)
  | 47 => ("WaxInEarsModel", "keptKnots", "[I", true)
  | 48 => ("WaxInEarsModel", "keptLogOf", "[I", true)
  | _ => ("WaxInEarsModel", "h", "J", false)
def tyX6 : Nat → FieldType := fun k => match k with
  | 0 => .boolean
  | 1 => .int
  | 2 => .int
  | 3 => .int
  | 4 => .int
  | 5 => .array .int
  | 6 => .array .int
  | 7 => .int
  | 8 => .array .int
  | 9 => .array .int
  | 10 => .array .int
  | 11 => .array .int
  | 12 => .int
  | 13 => .int
  | 14 => .int
  | 15 => .int
  | 16 => .int
  | 17 => .int
  | 18 => .int
  | 19 => .array .int
  | 20 => .int
  | 21 => .array .byte
  | 22 => .int
  | 23 => .boolean
  | 24 => .int
  | 25 => .int
  | 26 => .int
  | 27 => .array .int
  | 28 => .array .int
  | 29 => .int
  | 30 => .int
  | 31 => .int
  | 32 => .int
  | 33 => .int
  | 34 => .array .int
  | 35 => .array .int
  | 36 => .array .int
  | 37 => .long
  | 38 => .boolean
  | 39 => .int
  | 40 => .int
  | 41 => .int
  | 42 => .int
  | 43 => .int
  | 44 => .int
  | 45 => .int
  | 46 => .int
  | 47 => .array .int
  | 48 => .array .int
  | _ => .long
abbrev wsX60 : List Cond := u_ws RX6 TX6 50
theorem nmX6 : ∀ a, a < 50 → ∀ b, b < 50 → a ≠ b → (TX6 a).2.1 ≠ (TX6 b).2.1 := by decide +kernel
theorem tyX6_ok : ∀ k, k < 50 → parseFieldDescriptor (TX6 k).2.2.1 = some (tyX6 k) := by decide +kernel
abbrev cX6_init : ByteArray := prog_8_method_1_code
def yX6_init : MethodName := ⟨RX6, "<init>", "()V"⟩
abbrev cX6_within : ByteArray := prog_8_method_3_code
def yX6_within : MethodName := ⟨RX6, "within", "(III)Z"⟩
abbrev cX6_has : ByteArray := prog_8_method_4_code
def yX6_has : MethodName := ⟨RX6, "has", "(II)Z"⟩
abbrev cX6_size : ByteArray := prog_8_method_5_code
def yX6_size : MethodName := ⟨RX6, "size", "(I)I"⟩
abbrev cX6_letter : ByteArray := prog_8_method_6_code
def yX6_letter : MethodName := ⟨RX6, "letter", "(I)I"⟩
abbrev cX6_blank : ByteArray := prog_8_method_7_code
def yX6_blank : MethodName := ⟨RX6, "blank", "()I"⟩
abbrev cX6_nextState : ByteArray := prog_8_method_8_code
def yX6_nextState : MethodName := ⟨RX6, "nextState", "(II)I"⟩
abbrev cX6_placeState : ByteArray := prog_8_method_9_code
def yX6_placeState : MethodName := ⟨RX6, "placeState", "(I)I"⟩
abbrev cX6_readPassage : ByteArray := prog_8_method_10_code
def yX6_readPassage : MethodName := ⟨RX6, "readPassage", "()V"⟩
abbrev cX6_fault : ByteArray := prog_8_method_11_code
def yX6_fault : MethodName := ⟨RX6, "fault", "()I"⟩
abbrev cX6_passage : ByteArray := prog_8_method_12_code
def yX6_passage : MethodName := ⟨RX6, "passage", "()I"⟩
abbrev cX6_begin : ByteArray := prog_8_method_13_code
def yX6_begin : MethodName := ⟨RX6, "begin", "()V"⟩
abbrev cX6_place : ByteArray := prog_8_method_14_code
def yX6_place : MethodName := ⟨RX6, "place", "(II)I"⟩
abbrev cX6_isMan : ByteArray := prog_8_method_15_code
def yX6_isMan : MethodName := ⟨RX6, "isMan", "(I)Z"⟩
abbrev cX6_man : ByteArray := prog_8_method_16_code
def yX6_man : MethodName := ⟨RX6, "man", "(III)I"⟩
abbrev cX6_hears : ByteArray := prog_8_method_17_code
def yX6_hears : MethodName := ⟨RX6, "hears", "(I)Z"⟩
abbrev cX6_holds : ByteArray := prog_8_method_18_code
def yX6_holds : MethodName := ⟨RX6, "holds", "(I)I"⟩
abbrev cX6_manNow : ByteArray := prog_8_method_19_code
def yX6_manNow : MethodName := ⟨RX6, "manNow", "(II)I"⟩
abbrev cX6_about : ByteArray := prog_8_method_20_code
def yX6_about : MethodName := ⟨RX6, "about", "(II)I"⟩
abbrev cX6_as : ByteArray := prog_8_method_21_code
def yX6_as : MethodName := ⟨RX6, "as", "(II)I"⟩
abbrev cX6_wax : ByteArray := prog_8_method_22_code
def yX6_wax : MethodName := ⟨RX6, "wax", "(IZ)I"⟩
abbrev cX6_bind : ByteArray := prog_8_method_23_code
def yX6_bind : MethodName := ⟨RX6, "bind", "(II)I"⟩
abbrev cX6_everybody : ByteArray := prog_8_method_24_code
def yX6_everybody : MethodName := ⟨RX6, "everybody", "()I"⟩
abbrev cX6_swims : ByteArray := prog_8_method_25_code
def yX6_swims : MethodName := ⟨RX6, "swims", "(II)Z"⟩
abbrev cX6_anyHears : ByteArray := prog_8_method_26_code
def yX6_anyHears : MethodName := ⟨RX6, "anyHears", "()Z"⟩
abbrev cX6_anySees : ByteArray := prog_8_method_27_code
def yX6_anySees : MethodName := ⟨RX6, "anySees", "()Z"⟩
abbrev cX6_oars : ByteArray := prog_8_method_28_code
def yX6_oars : MethodName := ⟨RX6, "oars", "()I"⟩
abbrev cX6_goStroke : ByteArray := prog_8_method_29_code
def yX6_goStroke : MethodName := ⟨RX6, "goStroke", "()V"⟩
abbrev cX6_isOn : ByteArray := prog_8_method_30_code
def yX6_isOn : MethodName := ⟨RX6, "isOn", "()Z"⟩
abbrev cX6_stroke : ByteArray := prog_8_method_31_code
def yX6_stroke : MethodName := ⟨RX6, "stroke", "()I"⟩
abbrev cX6_save : ByteArray := prog_8_method_32_code
def yX6_save : MethodName := ⟨RX6, "save", "()V"⟩
abbrev cX6_back : ByteArray := prog_8_method_33_code
def yX6_back : MethodName := ⟨RX6, "back", "()V"⟩
abbrev cX6_goOn : ByteArray := prog_8_method_34_code
def yX6_goOn : MethodName := ⟨RX6, "goOn", "()V"⟩
abbrev cX6_badness : ByteArray := prog_8_method_35_code
def yX6_badness : MethodName := ⟨RX6, "badness", "()I"⟩
abbrev cX6_outcomeNow : ByteArray := prog_8_method_36_code
def yX6_outcomeNow : MethodName := ⟨RX6, "outcomeNow", "(I)I"⟩
abbrev cX6_outcome : ByteArray := prog_8_method_37_code
def yX6_outcome : MethodName := ⟨RX6, "outcome", "(I)I"⟩
abbrev cX6_waxingNow : ByteArray := prog_8_method_38_code
def yX6_waxingNow : MethodName := ⟨RX6, "waxingNow", "(II)I"⟩
abbrev cX6_waxing : ByteArray := prog_8_method_39_code
def yX6_waxing : MethodName := ⟨RX6, "waxing", "(II)I"⟩
abbrev cX6_holdNow : ByteArray := prog_8_method_40_code
def yX6_holdNow : MethodName := ⟨RX6, "holdNow", "(I)I"⟩
abbrev cX6_hold : ByteArray := prog_8_method_41_code
def yX6_hold : MethodName := ⟨RX6, "hold", "(I)I"⟩
abbrev cX6_listenerNow : ByteArray := prog_8_method_42_code
def yX6_listenerNow : MethodName := ⟨RX6, "listenerNow", "()I"⟩
abbrev cX6_listener : ByteArray := prog_8_method_43_code
def yX6_listener : MethodName := ⟨RX6, "listener", "()I"⟩
abbrev cX6_soldNow : ByteArray := prog_8_method_44_code
def yX6_soldNow : MethodName := ⟨RX6, "soldNow", "()I"⟩
abbrev cX6_sold : ByteArray := prog_8_method_45_code
def yX6_sold : MethodName := ⟨RX6, "sold", "()I"⟩
abbrev cX6_log : ByteArray := prog_8_method_46_code
def yX6_log : MethodName := ⟨RX6, "log", "(I)I"⟩
abbrev cX6_forget : ByteArray := prog_8_method_47_code
def yX6_forget : MethodName := ⟨RX6, "forget", "()I"⟩
abbrev cX6_isLoggedSo : ByteArray := prog_8_method_48_code
def yX6_isLoggedSo : MethodName := ⟨RX6, "isLoggedSo", "(I)Z"⟩
abbrev cX6_layFits : ByteArray := prog_8_method_49_code
def yX6_layFits : MethodName := ⟨RX6, "layFits", "()I"⟩
abbrev cX6_fits : ByteArray := prog_8_method_50_code
def yX6_fits : MethodName := ⟨RX6, "fits", "()I"⟩
abbrev cX6_sureNow : ByteArray := prog_8_method_51_code
def yX6_sureNow : MethodName := ⟨RX6, "sureNow", "(I)I"⟩
abbrev cX6_sure : ByteArray := prog_8_method_52_code
def yX6_sure : MethodName := ⟨RX6, "sure", "(I)I"⟩
abbrev cX6_draw : ByteArray := prog_8_method_53_code
def yX6_draw : MethodName := ⟨RX6, "draw", "(I)I"⟩
abbrev cX6_voyagesNow : ByteArray := prog_8_method_54_code
def yX6_voyagesNow : MethodName := ⟨RX6, "voyagesNow", "(III)I"⟩
abbrev cX6_voyages : ByteArray := prog_8_method_55_code
def yX6_voyages : MethodName := ⟨RX6, "voyages", "(III)I"⟩
abbrev cX6_image : ByteArray := prog_8_method_56_code
def yX6_image : MethodName := ⟨RX6, "image", "()I"⟩
abbrev cX6_restore : ByteArray := prog_8_method_57_code
def yX6_restore : MethodName := ⟨RX6, "restore", "()I"⟩
abbrev cX6_howMany : ByteArray := prog_8_method_58_code
def yX6_howMany : MethodName := ⟨RX6, "howMany", "(I)I"⟩
abbrev cX6_count : ByteArray := prog_8_method_59_code
def yX6_count : MethodName := ⟨RX6, "count", "(I)I"⟩
abbrev cX6_mix : ByteArray := prog_8_method_60_code
def yX6_mix : MethodName := ⟨RX6, "mix", "(J)V"⟩
abbrev cX6_mixOutcome : ByteArray := prog_8_method_61_code
def yX6_mixOutcome : MethodName := ⟨RX6, "mixOutcome", "()V"⟩
abbrev cX6_digest : ByteArray := prog_8_method_62_code
def yX6_digest : MethodName := ⟨RX6, "digest", "()J"⟩
def RJ6 : String := "java/lang/Integer"
def TJ6 : u_T := fun k => match k with
  | _ => ("", "", "", false)
def tyJ6 : Nat → FieldType := fun k => match k with
  | _ => .int
abbrev wsJ60 : List Cond := u_ws RJ6 TJ6 0
theorem nmJ6 : ∀ a, a < 0 → ∀ b, b < 0 → a ≠ b → (TJ6 a).2.1 ≠ (TJ6 b).2.1 := by decide +kernel
theorem tyJ6_ok : ∀ k, k < 0 → parseFieldDescriptor (TJ6 k).2.2.1 = some (tyJ6 k) := by decide +kernel
abbrev cJ6_bitCount_0f7a4 : ByteArray := prog_9_method_49_code
def yJ6_bitCount_0f7a4 : MethodName := ⟨RJ6, "bitCount", "(I)I"⟩
def RJ9 : String := "java/lang/Math"
def TJ9 : u_T := fun k => match k with
  | _ => ("", "", "", false)
def tyJ9 : Nat → FieldType := fun k => match k with
  | _ => .int
abbrev wsJ90 : List Cond := u_ws RJ9 TJ9 0
theorem nmJ9 : ∀ a, a < 0 → ∀ b, b < 0 → a ≠ b → (TJ9 a).2.1 ≠ (TJ9 b).2.1 := by decide +kernel
theorem tyJ9_ok : ∀ k, k < 0 → parseFieldDescriptor (TJ9 k).2.2.1 = some (tyJ9 k) := by decide +kernel
abbrev cJ9_max_7cf53 : ByteArray := prog_10_method_65_code
def yJ9_max_7cf53 : MethodName := ⟨RJ9, "max", "(II)I"⟩
def RJ10 : String := "java/lang/System"
def TJ10 : u_T := fun k => match k with
  | _ => ("", "", "", false)
def tyJ10 : Nat → FieldType := fun k => match k with
  | _ => .int
abbrev wsJ100 : List Cond := u_ws RJ10 TJ10 0
theorem nmJ10 : ∀ a, a < 0 → ∀ b, b < 0 → a ≠ b → (TJ10 a).2.1 ≠ (TJ10 b).2.1 := by decide +kernel
theorem tyJ10_ok : ∀ k, k < 0 → parseFieldDescriptor (TJ10 k).2.2.1 = some (tyJ10 k) := by decide +kernel
def RL : String := "WaxInEarsLaw"
abbrev cL_law : ByteArray := code
def yL_law : MethodName := ⟨RL, "law", "([I)Z"⟩
abbrev vwCl : List vw_C := [(RX0, TX0, 4), (RX1, TX1, 2), (RX2, TX2, 2), (RX3, TX3, 5), (RX4, TX4, 6), (RX5, TX5, 12), (RX6, TX6, 50)]
/-- the words of lw_tbl that hold in every frame of the run -/
def lw_good : List Cond := lw_tbl.filter goodWord
theorem tw_in {w : Cond} {i : Nat} (h : lw_tbl[i]? = some w) (hg : goodWord w = true) : w ∈ lw_good := List.mem_filter.mpr ⟨List.mem_of_getElem? h, hg⟩
theorem tw_sub (ws : List Cond) (ps : List Nat) (hp : ws = ps.filterMap (fun i => lw_tbl[i]?)) (hg : ws.all goodWord = true) : ∀ w ∈ ws, w ∈ lw_good := by
  intro w hw
  refine List.mem_filter.mpr ⟨?_, List.all_eq_true.mp hg w hw⟩
  rw [hp] at hw
  obtain ⟨i, -, hi⟩ := List.mem_filterMap.mp hw
  first | exact List.mem_of_getElem? hi | exact List.getElem?_mem hi
theorem inX0 : ∀ w ∈ u_ws RX0 TX0 4, w ∈ lw_good := tw_sub _ [124, 126, 128, 130] (by decide +kernel) (by decide +kernel)
theorem inX1 : ∀ w ∈ u_ws RX1 TX1 2, w ∈ lw_good := tw_sub _ [172, 174] (by decide +kernel) (by decide +kernel)
theorem inX2 : ∀ w ∈ u_ws RX2 TX2 2, w ∈ lw_good := tw_sub _ [78, 80] (by decide +kernel) (by decide +kernel)
theorem inX3 : ∀ w ∈ u_ws RX3 TX3 5, w ∈ lw_good := tw_sub _ [101, 103, 105, 107, 109] (by decide +kernel) (by decide +kernel)
theorem inX4 : ∀ w ∈ u_ws RX4 TX4 6, w ∈ lw_good := tw_sub _ [150, 152, 154, 156, 158, 160] (by decide +kernel) (by decide +kernel)
theorem inX5 : ∀ w ∈ u_ws RX5 TX5 12, w ∈ lw_good := tw_sub _ [189, 191, 193, 195, 197, 199, 201, 203, 205, 207, 209, 211] (by decide +kernel) (by decide +kernel)
theorem inX6 : ∀ w ∈ u_ws RX6 TX6 50, w ∈ lw_good := tw_sub _ [631, 633, 635, 637, 639, 641, 643, 645, 647, 649, 651, 653, 655, 657, 659, 661, 663, 665, 667, 669, 671, 673, 675, 677, 679, 681, 683, 685, 687, 689, 691, 693, 695, 697, 699, 701, 703, 705, 707, 709, 711, 713, 715, 717, 719, 721, 723, 725, 727, 729] (by decide +kernel) (by decide +kernel)
theorem tw_0 : Cond.selects RX2 yX2_isInHead yX2_isInHead ∈ lw_good := tw_in (i := 0) (by decide +kernel) (by decide +kernel)
theorem tw_1 : Cond.selects RX3 yX3_setSong yX3_setSong ∈ lw_good := tw_in (i := 1) (by decide +kernel) (by decide +kernel)
theorem tw_2 : Cond.selects RX3 yX3_addPlace yX3_addPlace ∈ lw_good := tw_in (i := 2) (by decide +kernel) (by decide +kernel)
theorem tw_3 : Cond.selects RX5 yX5_hasPassage yX5_hasPassage ∈ lw_good := tw_in (i := 3) (by decide +kernel) (by decide +kernel)
theorem tw_4 : Cond.selects RX5 yX5_isKnown yX5_isKnown ∈ lw_good := tw_in (i := 4) (by decide +kernel) (by decide +kernel)
theorem tw_5 : Cond.selects RX5 yX5_canGoOn yX5_canGoOn ∈ lw_good := tw_in (i := 5) (by decide +kernel) (by decide +kernel)
theorem tw_6 : Cond.selects RX4 yX4_swimmersAt yX4_swimmersAt ∈ lw_good := tw_in (i := 6) (by decide +kernel) (by decide +kernel)
theorem tw_7 : Cond.selects RX4 yX4_isStriking yX4_isStriking ∈ lw_good := tw_in (i := 7) (by decide +kernel) (by decide +kernel)
theorem tw_8 : Cond.selects RX4 yX4_isFree yX4_isFree ∈ lw_good := tw_in (i := 8) (by decide +kernel) (by decide +kernel)
theorem tw_9 : Cond.selects RX4 yX4_freeOars yX4_freeOars ∈ lw_good := tw_in (i := 9) (by decide +kernel) (by decide +kernel)
theorem tw_10 : Cond.selects RX4 yX4_comeOn yX4_comeOn ∈ lw_good := tw_in (i := 10) (by decide +kernel) (by decide +kernel)
theorem tw_11 : Cond.selects RX5 yX5_rankWithWax yX5_rankWithWax ∈ lw_good := tw_in (i := 11) (by decide +kernel) (by decide +kernel)
theorem tw_12 : Cond.selects RX5 yX5_rankOfTrial yX5_rankOfTrial ∈ lw_good := tw_in (i := 12) (by decide +kernel) (by decide +kernel)
theorem tw_13 : Cond.selects RX5 yX5_rankWithListener yX5_rankWithListener ∈ lw_good := tw_in (i := 13) (by decide +kernel) (by decide +kernel)
theorem tw_14 : Cond.selects RX3 yX3_copy yX3_copy ∈ lw_good := tw_in (i := 14) (by decide +kernel) (by decide +kernel)
theorem tw_15 : Cond.selects RX5 yX5_fittingSetsWith yX5_fittingSetsWith ∈ lw_good := tw_in (i := 15) (by decide +kernel) (by decide +kernel)
theorem tw_16 : Cond.selects RX5 yX5_isFitting yX5_isFitting ∈ lw_good := tw_in (i := 16) (by decide +kernel) (by decide +kernel)
theorem tw_17 : Cond.selects RX6 yX6_readPassage yX6_readPassage ∈ lw_good := tw_in (i := 17) (by decide +kernel) (by decide +kernel)
theorem tw_18 : Cond.selects RX6 yX6_nextState yX6_nextState ∈ lw_good := tw_in (i := 18) (by decide +kernel) (by decide +kernel)
theorem tw_19 : Cond.selects RX6 yX6_placeState yX6_placeState ∈ lw_good := tw_in (i := 19) (by decide +kernel) (by decide +kernel)
theorem tw_20 : Cond.selects RX6 yX6_begin yX6_begin ∈ lw_good := tw_in (i := 20) (by decide +kernel) (by decide +kernel)
theorem tw_21 : Cond.selects RX6 yX6_isMan yX6_isMan ∈ lw_good := tw_in (i := 21) (by decide +kernel) (by decide +kernel)
theorem tw_22 : Cond.selects RX6 yX6_manNow yX6_manNow ∈ lw_good := tw_in (i := 22) (by decide +kernel) (by decide +kernel)
theorem tw_23 : Cond.selects RX6 yX6_hears yX6_hears ∈ lw_good := tw_in (i := 23) (by decide +kernel) (by decide +kernel)
theorem tw_24 : Cond.selects RX6 yX6_holds yX6_holds ∈ lw_good := tw_in (i := 24) (by decide +kernel) (by decide +kernel)
theorem tw_25 : Cond.selects RX6 yX6_isOn yX6_isOn ∈ lw_good := tw_in (i := 25) (by decide +kernel) (by decide +kernel)
theorem tw_26 : Cond.selects RX6 yX6_goStroke yX6_goStroke ∈ lw_good := tw_in (i := 26) (by decide +kernel) (by decide +kernel)
theorem tw_27 : Cond.selects RX6 yX6_swims yX6_swims ∈ lw_good := tw_in (i := 27) (by decide +kernel) (by decide +kernel)
theorem tw_28 : Cond.selects RX6 yX6_everybody yX6_everybody ∈ lw_good := tw_in (i := 28) (by decide +kernel) (by decide +kernel)
theorem tw_29 : Cond.selects RX6 yX6_anyHears yX6_anyHears ∈ lw_good := tw_in (i := 29) (by decide +kernel) (by decide +kernel)
theorem tw_30 : Cond.selects RX6 yX6_anySees yX6_anySees ∈ lw_good := tw_in (i := 30) (by decide +kernel) (by decide +kernel)
theorem tw_31 : Cond.selects RX6 yX6_oars yX6_oars ∈ lw_good := tw_in (i := 31) (by decide +kernel) (by decide +kernel)
theorem tw_32 : Cond.selects RX6 yX6_outcomeNow yX6_outcomeNow ∈ lw_good := tw_in (i := 32) (by decide +kernel) (by decide +kernel)
theorem tw_33 : Cond.selects RX6 yX6_save yX6_save ∈ lw_good := tw_in (i := 33) (by decide +kernel) (by decide +kernel)
theorem tw_34 : Cond.selects RX6 yX6_goOn yX6_goOn ∈ lw_good := tw_in (i := 34) (by decide +kernel) (by decide +kernel)
theorem tw_35 : Cond.selects RX6 yX6_back yX6_back ∈ lw_good := tw_in (i := 35) (by decide +kernel) (by decide +kernel)
theorem tw_36 : Cond.selects RX6 yX6_waxingNow yX6_waxingNow ∈ lw_good := tw_in (i := 36) (by decide +kernel) (by decide +kernel)
theorem tw_37 : Cond.selects RX6 yX6_badness yX6_badness ∈ lw_good := tw_in (i := 37) (by decide +kernel) (by decide +kernel)
theorem tw_38 : Cond.selects RX6 yX6_holdNow yX6_holdNow ∈ lw_good := tw_in (i := 38) (by decide +kernel) (by decide +kernel)
theorem tw_39 : Cond.selects RX6 yX6_listenerNow yX6_listenerNow ∈ lw_good := tw_in (i := 39) (by decide +kernel) (by decide +kernel)
theorem tw_40 : Cond.selects RX6 yX6_soldNow yX6_soldNow ∈ lw_good := tw_in (i := 40) (by decide +kernel) (by decide +kernel)
theorem tw_41 : Cond.selects RX6 yX6_layFits yX6_layFits ∈ lw_good := tw_in (i := 41) (by decide +kernel) (by decide +kernel)
theorem tw_42 : Cond.selects RX6 yX6_isLoggedSo yX6_isLoggedSo ∈ lw_good := tw_in (i := 42) (by decide +kernel) (by decide +kernel)
theorem tw_43 : Cond.selects RX6 yX6_sureNow yX6_sureNow ∈ lw_good := tw_in (i := 43) (by decide +kernel) (by decide +kernel)
theorem tw_44 : Cond.selects RX6 yX6_voyagesNow yX6_voyagesNow ∈ lw_good := tw_in (i := 44) (by decide +kernel) (by decide +kernel)
theorem tw_45 : Cond.selects RX6 yX6_draw yX6_draw ∈ lw_good := tw_in (i := 45) (by decide +kernel) (by decide +kernel)
theorem tw_46 : Cond.selects RX6 yX6_howMany yX6_howMany ∈ lw_good := tw_in (i := 46) (by decide +kernel) (by decide +kernel)
theorem tw_47 : Cond.selects RX6 yX6_mix yX6_mix ∈ lw_good := tw_in (i := 47) (by decide +kernel) (by decide +kernel)
theorem tw_48 : Cond.selects RX6 yX6_mixOutcome yX6_mixOutcome ∈ lw_good := tw_in (i := 48) (by decide +kernel) (by decide +kernel)
theorem tw_49 : Cond.initialized RL ∈ lw_good := tw_in (i := 49) (by decide +kernel) (by decide +kernel)
theorem tw_50 : Cond.initialized RX5 ∈ lw_good := tw_in (i := 50) (by decide +kernel) (by decide +kernel)
theorem tw_51 : Cond.initialized RX2 ∈ lw_good := tw_in (i := 51) (by decide +kernel) (by decide +kernel)
theorem tw_52 : Cond.initialized RX3 ∈ lw_good := tw_in (i := 52) (by decide +kernel) (by decide +kernel)
theorem tw_53 : Cond.initialized RX0 ∈ lw_good := tw_in (i := 53) (by decide +kernel) (by decide +kernel)
theorem tw_54 : Cond.initialized RX4 ∈ lw_good := tw_in (i := 54) (by decide +kernel) (by decide +kernel)
theorem tw_55 : Cond.initialized RX1 ∈ lw_good := tw_in (i := 55) (by decide +kernel) (by decide +kernel)
theorem tw_56 : Cond.initialized RX6 ∈ lw_good := tw_in (i := 56) (by decide +kernel) (by decide +kernel)
theorem tw_57 : Cond.initialized RJ10 ∈ lw_good := tw_in (i := 57) (by decide +kernel) (by decide +kernel)
theorem tw_58 : Cond.initialized RJ6 ∈ lw_good := tw_in (i := 58) (by decide +kernel) (by decide +kernel)
theorem tw_59 : Cond.initialized RJ9 ∈ lw_good := tw_in (i := 59) (by decide +kernel) (by decide +kernel)
theorem tw_60 : Cond.classLink RL 7 RX5 ∈ lw_good := tw_in (i := 60) (by decide +kernel) (by decide +kernel)
theorem tw_61 : Cond.instantiable RX5 12 ∈ lw_good := tw_in (i := 61) (by decide +kernel) (by decide +kernel)
theorem tw_62 : Cond.methodLink RL 9 yX5_init ∈ lw_good := tw_in (i := 62) (by decide +kernel) (by decide +kernel)
theorem tw_63 : Cond.instanceMethod yX5_init ∈ lw_good := tw_in (i := 63) (by decide +kernel) (by decide +kernel)
theorem tw_64 : Cond.code yX5_init cX5_init 1 none ∈ lw_good := tw_in (i := 64) (by decide +kernel) (by decide +kernel)
theorem tw_65 : Cond.methodLink RX5 3 objectInit ∈ lw_good := tw_in (i := 65) (by decide +kernel) (by decide +kernel)
theorem tw_66 : Cond.instanceMethod objectInit ∈ lw_good := tw_in (i := 66) (by decide +kernel) (by decide +kernel)
theorem tw_67 : Cond.code objectInit ⟨#[0xb1]⟩ 1 none ∈ lw_good := tw_in (i := 67) (by decide +kernel) (by decide +kernel)
theorem tw_68 : Cond.classLink RX5 9 RX2 ∈ lw_good := tw_in (i := 68) (by decide +kernel) (by decide +kernel)
theorem tw_69 : Cond.instantiable RX2 2 ∈ lw_good := tw_in (i := 69) (by decide +kernel) (by decide +kernel)
theorem tw_70 : Cond.methodLinkNest RX5 11 yX2_init "WaxInEars" ∈ lw_tbl := List.mem_of_getElem? (i := 70) (by decide +kernel)
theorem tw_71 : Cond.instanceMethod yX2_init ∈ lw_good := tw_in (i := 71) (by decide +kernel) (by decide +kernel)
theorem tw_72 : Cond.code yX2_init cX2_init 1 none ∈ lw_good := tw_in (i := 72) (by decide +kernel) (by decide +kernel)
theorem tw_73 : Cond.methodLink RX2 3 objectInit ∈ lw_good := tw_in (i := 73) (by decide +kernel) (by decide +kernel)
theorem tw_74 : Cond.fieldLink RX2 9 "WaxInEars$Page" "letters" "[I" ∈ lw_good := tw_in (i := 74) (by decide +kernel) (by decide +kernel)
theorem tw_75 : Cond.fieldLink RX2 15 "WaxInEars$Page" "size" "I" ∈ lw_good := tw_in (i := 75) (by decide +kernel) (by decide +kernel)
theorem tw_76 : Cond.fieldLink RX5 56 "WaxInEars$Page" "size" "I" ∈ lw_good := tw_in (i := 76) (by decide +kernel) (by decide +kernel)
theorem tw_77 : Cond.fieldLink RX3 34 "WaxInEars$Page" "size" "I" ∈ lw_good := tw_in (i := 77) (by decide +kernel) (by decide +kernel)
theorem tw_83 : Cond.arrayClass .int ∈ lw_good := tw_in (i := 83) (by decide +kernel) (by decide +kernel)
theorem tw_84 : Cond.classLink RX5 16 RX3 ∈ lw_good := tw_in (i := 84) (by decide +kernel) (by decide +kernel)
theorem tw_85 : Cond.instantiable RX3 5 ∈ lw_good := tw_in (i := 85) (by decide +kernel) (by decide +kernel)
theorem tw_86 : Cond.methodLinkNest RX5 18 yX3_init "WaxInEars" ∈ lw_tbl := List.mem_of_getElem? (i := 86) (by decide +kernel)
theorem tw_87 : Cond.instanceMethod yX3_init ∈ lw_good := tw_in (i := 87) (by decide +kernel) (by decide +kernel)
theorem tw_88 : Cond.code yX3_init cX3_init 1 none ∈ lw_good := tw_in (i := 88) (by decide +kernel) (by decide +kernel)
theorem tw_89 : Cond.methodLink RX3 3 objectInit ∈ lw_good := tw_in (i := 89) (by decide +kernel) (by decide +kernel)
theorem tw_90 : Cond.fieldLink RX3 9 "WaxInEars$Passage" "songs" "[I" ∈ lw_good := tw_in (i := 90) (by decide +kernel) (by decide +kernel)
theorem tw_91 : Cond.fieldLink RX3 15 "WaxInEars$Passage" "rocks" "[I" ∈ lw_good := tw_in (i := 91) (by decide +kernel) (by decide +kernel)
theorem tw_92 : Cond.fieldLink RX3 24 "WaxInEars$Passage" "need" "I" ∈ lw_good := tw_in (i := 92) (by decide +kernel) (by decide +kernel)
theorem tw_93 : Cond.fieldLink RX4 92 "WaxInEars$Passage" "need" "I" ∈ lw_good := tw_in (i := 93) (by decide +kernel) (by decide +kernel)
theorem tw_94 : Cond.fieldLink RX5 216 "WaxInEars$Passage" "need" "I" ∈ lw_good := tw_in (i := 94) (by decide +kernel) (by decide +kernel)
theorem tw_95 : Cond.fieldLink RX3 28 "WaxInEars$Passage" "noon" "I" ∈ lw_good := tw_in (i := 95) (by decide +kernel) (by decide +kernel)
theorem tw_96 : Cond.fieldLink RX4 63 "WaxInEars$Passage" "noon" "I" ∈ lw_good := tw_in (i := 96) (by decide +kernel) (by decide +kernel)
theorem tw_97 : Cond.fieldLink RX5 219 "WaxInEars$Passage" "noon" "I" ∈ lw_good := tw_in (i := 97) (by decide +kernel) (by decide +kernel)
theorem tw_98 : Cond.fieldLink RX3 31 "WaxInEars$Passage" "size" "I" ∈ lw_good := tw_in (i := 98) (by decide +kernel) (by decide +kernel)
theorem tw_99 : Cond.fieldLink RX5 88 "WaxInEars$Passage" "size" "I" ∈ lw_good := tw_in (i := 99) (by decide +kernel) (by decide +kernel)
theorem tw_100 : Cond.fieldLink RX4 99 "WaxInEars$Passage" "size" "I" ∈ lw_good := tw_in (i := 100) (by decide +kernel) (by decide +kernel)
theorem tw_112 : Cond.classLink RX5 23 RX0 ∈ lw_good := tw_in (i := 112) (by decide +kernel) (by decide +kernel)
theorem tw_113 : Cond.instantiable RX0 4 ∈ lw_good := tw_in (i := 113) (by decide +kernel) (by decide +kernel)
theorem tw_114 : Cond.methodLinkNest RX5 25 yX0_init "WaxInEars" ∈ lw_tbl := List.mem_of_getElem? (i := 114) (by decide +kernel)
theorem tw_115 : Cond.instanceMethod yX0_init ∈ lw_good := tw_in (i := 115) (by decide +kernel) (by decide +kernel)
theorem tw_116 : Cond.code yX0_init cX0_init 1 none ∈ lw_good := tw_in (i := 116) (by decide +kernel) (by decide +kernel)
theorem tw_117 : Cond.methodLink RX0 3 objectInit ∈ lw_good := tw_in (i := 117) (by decide +kernel) (by decide +kernel)
theorem tw_118 : Cond.fieldLink RX0 9 "WaxInEars$Crew" "kinds" "[I" ∈ lw_good := tw_in (i := 118) (by decide +kernel) (by decide +kernel)
theorem tw_119 : Cond.fieldLink RX0 15 "WaxInEars$Crew" "oars" "[I" ∈ lw_good := tw_in (i := 119) (by decide +kernel) (by decide +kernel)
theorem tw_120 : Cond.fieldLink RX0 18 "WaxInEars$Crew" "wills" "[I" ∈ lw_good := tw_in (i := 120) (by decide +kernel) (by decide +kernel)
theorem tw_121 : Cond.fieldLink RX0 21 "WaxInEars$Crew" "size" "I" ∈ lw_good := tw_in (i := 121) (by decide +kernel) (by decide +kernel)
theorem tw_122 : Cond.fieldLink RX5 76 "WaxInEars$Crew" "size" "I" ∈ lw_good := tw_in (i := 122) (by decide +kernel) (by decide +kernel)
theorem tw_123 : Cond.fieldLink RX4 45 "WaxInEars$Crew" "size" "I" ∈ lw_good := tw_in (i := 123) (by decide +kernel) (by decide +kernel)
theorem tw_133 : Cond.classLink RX5 30 RX4 ∈ lw_good := tw_in (i := 133) (by decide +kernel) (by decide +kernel)
theorem tw_134 : Cond.instantiable RX4 6 ∈ lw_good := tw_in (i := 134) (by decide +kernel) (by decide +kernel)
theorem tw_135 : Cond.methodLinkNest RX5 32 yX4_init "WaxInEars" ∈ lw_tbl := List.mem_of_getElem? (i := 135) (by decide +kernel)
theorem tw_136 : Cond.instanceMethod yX4_init ∈ lw_good := tw_in (i := 136) (by decide +kernel) (by decide +kernel)
theorem tw_137 : Cond.code yX4_init cX4_init 1 none ∈ lw_good := tw_in (i := 137) (by decide +kernel) (by decide +kernel)
theorem tw_138 : Cond.methodLink RX4 3 objectInit ∈ lw_good := tw_in (i := 138) (by decide +kernel) (by decide +kernel)
theorem tw_139 : Cond.fieldLink RX4 9 "WaxInEars$Ship" "knots" "[I" ∈ lw_good := tw_in (i := 139) (by decide +kernel) (by decide +kernel)
theorem tw_140 : Cond.fieldLink RX4 21 "WaxInEars$Ship" "waxed" "I" ∈ lw_good := tw_in (i := 140) (by decide +kernel) (by decide +kernel)
theorem tw_141 : Cond.fieldLink RX5 257 "WaxInEars$Ship" "waxed" "I" ∈ lw_good := tw_in (i := 141) (by decide +kernel) (by decide +kernel)
theorem tw_142 : Cond.fieldLink RX4 25 "WaxInEars$Ship" "aboard" "I" ∈ lw_good := tw_in (i := 142) (by decide +kernel) (by decide +kernel)
theorem tw_143 : Cond.fieldLink RX5 187 "WaxInEars$Ship" "aboard" "I" ∈ lw_good := tw_in (i := 143) (by decide +kernel) (by decide +kernel)
theorem tw_144 : Cond.fieldLink RX4 28 "WaxInEars$Ship" "place" "I" ∈ lw_good := tw_in (i := 144) (by decide +kernel) (by decide +kernel)
theorem tw_145 : Cond.fieldLink RX5 103 "WaxInEars$Ship" "place" "I" ∈ lw_good := tw_in (i := 145) (by decide +kernel) (by decide +kernel)
theorem tw_146 : Cond.fieldLink RX4 31 "WaxInEars$Ship" "strokes" "I" ∈ lw_good := tw_in (i := 146) (by decide +kernel) (by decide +kernel)
theorem tw_147 : Cond.fieldLink RX5 106 "WaxInEars$Ship" "strokes" "I" ∈ lw_good := tw_in (i := 147) (by decide +kernel) (by decide +kernel)
theorem tw_148 : Cond.fieldLink RX4 34 "WaxInEars$Ship" "how" "I" ∈ lw_good := tw_in (i := 148) (by decide +kernel) (by decide +kernel)
theorem tw_149 : Cond.fieldLink RX5 152 "WaxInEars$Ship" "how" "I" ∈ lw_good := tw_in (i := 149) (by decide +kernel) (by decide +kernel)
theorem tw_163 : Cond.classLink RX5 37 RX1 ∈ lw_good := tw_in (i := 163) (by decide +kernel) (by decide +kernel)
theorem tw_164 : Cond.instantiable RX1 2 ∈ lw_good := tw_in (i := 164) (by decide +kernel) (by decide +kernel)
theorem tw_165 : Cond.methodLinkNest RX5 39 yX1_init "WaxInEars" ∈ lw_tbl := List.mem_of_getElem? (i := 165) (by decide +kernel)
theorem tw_166 : Cond.instanceMethod yX1_init ∈ lw_good := tw_in (i := 166) (by decide +kernel) (by decide +kernel)
theorem tw_167 : Cond.code yX1_init cX1_init 1 none ∈ lw_good := tw_in (i := 167) (by decide +kernel) (by decide +kernel)
theorem tw_168 : Cond.methodLink RX1 3 objectInit ∈ lw_good := tw_in (i := 168) (by decide +kernel) (by decide +kernel)
theorem tw_169 : Cond.fieldLink RX1 9 "WaxInEars$Log" "sets" "[I" ∈ lw_good := tw_in (i := 169) (by decide +kernel) (by decide +kernel)
theorem tw_170 : Cond.fieldLink RX1 15 "WaxInEars$Log" "size" "I" ∈ lw_good := tw_in (i := 170) (by decide +kernel) (by decide +kernel)
theorem tw_171 : Cond.fieldLink RX5 77 "WaxInEars$Log" "size" "I" ∈ lw_good := tw_in (i := 171) (by decide +kernel) (by decide +kernel)
theorem tw_177 : Cond.fieldLink RX5 12 "WaxInEars" "page" "LWaxInEars$Page;" ∈ lw_good := tw_in (i := 177) (by decide +kernel) (by decide +kernel)
theorem tw_178 : Cond.fieldLink RX5 19 "WaxInEars" "passage" "LWaxInEars$Passage;" ∈ lw_good := tw_in (i := 178) (by decide +kernel) (by decide +kernel)
theorem tw_179 : Cond.fieldLink RX5 26 "WaxInEars" "crew" "LWaxInEars$Crew;" ∈ lw_good := tw_in (i := 179) (by decide +kernel) (by decide +kernel)
theorem tw_180 : Cond.fieldLink RX5 33 "WaxInEars" "ship" "LWaxInEars$Ship;" ∈ lw_good := tw_in (i := 180) (by decide +kernel) (by decide +kernel)
theorem tw_181 : Cond.fieldLink RX5 40 "WaxInEars" "log" "LWaxInEars$Log;" ∈ lw_good := tw_in (i := 181) (by decide +kernel) (by decide +kernel)
theorem tw_182 : Cond.fieldLink RX5 44 "WaxInEars" "keptShip" "LWaxInEars$Ship;" ∈ lw_good := tw_in (i := 182) (by decide +kernel) (by decide +kernel)
theorem tw_183 : Cond.fieldLink RX5 47 "WaxInEars" "keptLog" "LWaxInEars$Log;" ∈ lw_good := tw_in (i := 183) (by decide +kernel) (by decide +kernel)
theorem tw_184 : Cond.fieldLink RX5 213 "WaxInEars" "keptMen" "I" ∈ lw_good := tw_in (i := 184) (by decide +kernel) (by decide +kernel)
theorem tw_185 : Cond.fieldLink RX5 81 "WaxInEars" "isKept" "Z" ∈ lw_good := tw_in (i := 185) (by decide +kernel) (by decide +kernel)
theorem tw_186 : Cond.fieldLink RX5 50 "WaxInEars" "trialShip" "LWaxInEars$Ship;" ∈ lw_good := tw_in (i := 186) (by decide +kernel) (by decide +kernel)
theorem tw_187 : Cond.fieldLink RX5 53 "WaxInEars" "trialPassage" "LWaxInEars$Passage;" ∈ lw_good := tw_in (i := 187) (by decide +kernel) (by decide +kernel)
theorem tw_188 : Cond.fieldLink RX5 85 "WaxInEars" "timesRead" "I" ∈ lw_good := tw_in (i := 188) (by decide +kernel) (by decide +kernel)
theorem tw_214 : Cond.methodLink RL 13 yX5_letter ∈ lw_good := tw_in (i := 214) (by decide +kernel) (by decide +kernel)
theorem tw_215 : Cond.instanceMethod yX5_letter ∈ lw_good := tw_in (i := 215) (by decide +kernel) (by decide +kernel)
theorem tw_216 : Cond.selects RX5 yX5_letter yX5_letter ∈ lw_good := tw_in (i := 216) (by decide +kernel) (by decide +kernel)
theorem tw_217 : Cond.code yX5_letter cX5_letter 2 (some .int) ∈ lw_good := tw_in (i := 217) (by decide +kernel) (by decide +kernel)
theorem tw_218 : Cond.methodLink RX5 60 yX2_add ∈ lw_good := tw_in (i := 218) (by decide +kernel) (by decide +kernel)
theorem tw_219 : Cond.instanceMethod yX2_add ∈ lw_good := tw_in (i := 219) (by decide +kernel) (by decide +kernel)
theorem tw_220 : Cond.selects RX2 yX2_add yX2_add ∈ lw_good := tw_in (i := 220) (by decide +kernel) (by decide +kernel)
theorem tw_221 : Cond.code yX2_add cX2_add 2 none ∈ lw_good := tw_in (i := 221) (by decide +kernel) (by decide +kernel)
theorem tw_222 : Cond.methodLink RL 18 yX5_blank ∈ lw_good := tw_in (i := 222) (by decide +kernel) (by decide +kernel)
theorem tw_223 : Cond.instanceMethod yX5_blank ∈ lw_good := tw_in (i := 223) (by decide +kernel) (by decide +kernel)
theorem tw_224 : Cond.selects RX5 yX5_blank yX5_blank ∈ lw_good := tw_in (i := 224) (by decide +kernel) (by decide +kernel)
theorem tw_225 : Cond.code yX5_blank cX5_blank 2 (some .int) ∈ lw_good := tw_in (i := 225) (by decide +kernel) (by decide +kernel)
theorem tw_226 : Cond.methodLink RL 23 yX5_fault ∈ lw_good := tw_in (i := 226) (by decide +kernel) (by decide +kernel)
theorem tw_227 : Cond.instanceMethod yX5_fault ∈ lw_good := tw_in (i := 227) (by decide +kernel) (by decide +kernel)
theorem tw_228 : Cond.selects RX5 yX5_fault yX5_fault ∈ lw_good := tw_in (i := 228) (by decide +kernel) (by decide +kernel)
theorem tw_229 : Cond.code yX5_fault cX5_fault 1 (some .int) ∈ lw_good := tw_in (i := 229) (by decide +kernel) (by decide +kernel)
theorem tw_230 : Cond.methodLink RX5 64 yX2_firstFault ∈ lw_good := tw_in (i := 230) (by decide +kernel) (by decide +kernel)
theorem tw_231 : Cond.instanceMethod yX2_firstFault ∈ lw_good := tw_in (i := 231) (by decide +kernel) (by decide +kernel)
theorem tw_232 : Cond.selects RX2 yX2_firstFault yX2_firstFault ∈ lw_good := tw_in (i := 232) (by decide +kernel) (by decide +kernel)
theorem tw_233 : Cond.code yX2_firstFault cX2_firstFault 5 (some .int) ∈ lw_good := tw_in (i := 233) (by decide +kernel) (by decide +kernel)
theorem tw_234 : Cond.methodLink RX2 23 yX2_codeAt ∈ lw_good := tw_in (i := 234) (by decide +kernel) (by decide +kernel)
theorem tw_235 : Cond.instanceMethod yX2_codeAt ∈ lw_good := tw_in (i := 235) (by decide +kernel) (by decide +kernel)
theorem tw_236 : Cond.selects RX2 yX2_codeAt yX2_codeAt ∈ lw_good := tw_in (i := 236) (by decide +kernel) (by decide +kernel)
theorem tw_237 : Cond.code yX2_codeAt cX2_codeAt 2 (some .int) ∈ lw_good := tw_in (i := 237) (by decide +kernel) (by decide +kernel)
theorem tw_238 : Cond.methodLink RX2 31 yX2_isInHead ∈ lw_good := tw_in (i := 238) (by decide +kernel) (by decide +kernel)
theorem tw_240 : Cond.instanceMethod yX2_isInHead ∈ lw_good := tw_in (i := 240) (by decide +kernel) (by decide +kernel)
theorem tw_241 : Cond.code yX2_isInHead cX2_isInHead 3 (some .boolean) ∈ lw_good := tw_in (i := 241) (by decide +kernel) (by decide +kernel)
theorem tw_242 : Cond.methodLink RX2 35 yX2_beginsPlace ∈ lw_good := tw_in (i := 242) (by decide +kernel) (by decide +kernel)
theorem tw_243 : Cond.static yX2_beginsPlace ∈ lw_good := tw_in (i := 243) (by decide +kernel) (by decide +kernel)
theorem tw_244 : Cond.code yX2_beginsPlace cX2_beginsPlace 1 (some .boolean) ∈ lw_good := tw_in (i := 244) (by decide +kernel) (by decide +kernel)
theorem tw_245 : Cond.methodLink RX2 27 yX2_isSong ∈ lw_good := tw_in (i := 245) (by decide +kernel) (by decide +kernel)
theorem tw_246 : Cond.static yX2_isSong ∈ lw_good := tw_in (i := 246) (by decide +kernel) (by decide +kernel)
theorem tw_247 : Cond.code yX2_isSong cX2_isSong 1 (some .boolean) ∈ lw_good := tw_in (i := 247) (by decide +kernel) (by decide +kernel)
theorem tw_248 : Cond.methodLink RL 27 yX5_passage ∈ lw_good := tw_in (i := 248) (by decide +kernel) (by decide +kernel)
theorem tw_249 : Cond.instanceMethod yX5_passage ∈ lw_good := tw_in (i := 249) (by decide +kernel) (by decide +kernel)
theorem tw_250 : Cond.selects RX5 yX5_passage yX5_passage ∈ lw_good := tw_in (i := 250) (by decide +kernel) (by decide +kernel)
theorem tw_251 : Cond.code yX5_passage cX5_passage 1 (some .int) ∈ lw_good := tw_in (i := 251) (by decide +kernel) (by decide +kernel)
theorem tw_252 : Cond.methodLink RX5 68 yX2_isPassage ∈ lw_good := tw_in (i := 252) (by decide +kernel) (by decide +kernel)
theorem tw_253 : Cond.instanceMethod yX2_isPassage ∈ lw_good := tw_in (i := 253) (by decide +kernel) (by decide +kernel)
theorem tw_254 : Cond.selects RX2 yX2_isPassage yX2_isPassage ∈ lw_good := tw_in (i := 254) (by decide +kernel) (by decide +kernel)
theorem tw_255 : Cond.code yX2_isPassage cX2_isPassage 1 (some .boolean) ∈ lw_good := tw_in (i := 255) (by decide +kernel) (by decide +kernel)
theorem tw_256 : Cond.methodLink RX2 19 yX2_firstFault ∈ lw_good := tw_in (i := 256) (by decide +kernel) (by decide +kernel)
theorem tw_257 : Cond.methodLink RX5 72 yX3_read ∈ lw_good := tw_in (i := 257) (by decide +kernel) (by decide +kernel)
theorem tw_258 : Cond.instanceMethod yX3_read ∈ lw_good := tw_in (i := 258) (by decide +kernel) (by decide +kernel)
theorem tw_259 : Cond.selects RX3 yX3_read yX3_read ∈ lw_good := tw_in (i := 259) (by decide +kernel) (by decide +kernel)
theorem tw_260 : Cond.code yX3_read cX3_read 4 none ∈ lw_good := tw_in (i := 260) (by decide +kernel) (by decide +kernel)
theorem tw_261 : Cond.methodLink RX3 18 yX2_codeAt ∈ lw_good := tw_in (i := 261) (by decide +kernel) (by decide +kernel)
theorem tw_262 : Cond.methodLink RX3 35 yX3_setSong ∈ lw_good := tw_in (i := 262) (by decide +kernel) (by decide +kernel)
theorem tw_264 : Cond.instanceMethod yX3_setSong ∈ lw_good := tw_in (i := 264) (by decide +kernel) (by decide +kernel)
theorem tw_265 : Cond.code yX3_setSong cX3_setSong 3 none ∈ lw_good := tw_in (i := 265) (by decide +kernel) (by decide +kernel)
theorem tw_266 : Cond.methodLink RX3 39 yX3_rockBy ∈ lw_good := tw_in (i := 266) (by decide +kernel) (by decide +kernel)
theorem tw_267 : Cond.static yX3_rockBy ∈ lw_good := tw_in (i := 267) (by decide +kernel) (by decide +kernel)
theorem tw_268 : Cond.code yX3_rockBy cX3_rockBy 1 (some .int) ∈ lw_good := tw_in (i := 268) (by decide +kernel) (by decide +kernel)
theorem tw_269 : Cond.methodLink RX3 42 yX3_addPlace ∈ lw_good := tw_in (i := 269) (by decide +kernel) (by decide +kernel)
theorem tw_271 : Cond.instanceMethod yX3_addPlace ∈ lw_good := tw_in (i := 271) (by decide +kernel) (by decide +kernel)
theorem tw_272 : Cond.code yX3_addPlace cX3_addPlace 2 none ∈ lw_good := tw_in (i := 272) (by decide +kernel) (by decide +kernel)
theorem tw_273 : Cond.methodLink RX5 78 yX4_startWith ∈ lw_good := tw_in (i := 273) (by decide +kernel) (by decide +kernel)
theorem tw_274 : Cond.instanceMethod yX4_startWith ∈ lw_good := tw_in (i := 274) (by decide +kernel) (by decide +kernel)
theorem tw_275 : Cond.selects RX4 yX4_startWith yX4_startWith ∈ lw_good := tw_in (i := 275) (by decide +kernel) (by decide +kernel)
theorem tw_276 : Cond.code yX4_startWith cX4_startWith 2 none ∈ lw_good := tw_in (i := 276) (by decide +kernel) (by decide +kernel)
theorem tw_277 : Cond.methodLink RL 31 yX5_place ∈ lw_good := tw_in (i := 277) (by decide +kernel) (by decide +kernel)
theorem tw_278 : Cond.instanceMethod yX5_place ∈ lw_good := tw_in (i := 278) (by decide +kernel) (by decide +kernel)
theorem tw_279 : Cond.selects RX5 yX5_place yX5_place ∈ lw_good := tw_in (i := 279) (by decide +kernel) (by decide +kernel)
theorem tw_280 : Cond.code yX5_place cX5_place 3 (some .int) ∈ lw_good := tw_in (i := 280) (by decide +kernel) (by decide +kernel)
theorem tw_281 : Cond.methodLink RX5 89 yX3_songAt ∈ lw_good := tw_in (i := 281) (by decide +kernel) (by decide +kernel)
theorem tw_282 : Cond.instanceMethod yX3_songAt ∈ lw_good := tw_in (i := 282) (by decide +kernel) (by decide +kernel)
theorem tw_283 : Cond.selects RX3 yX3_songAt yX3_songAt ∈ lw_good := tw_in (i := 283) (by decide +kernel) (by decide +kernel)
theorem tw_284 : Cond.code yX3_songAt cX3_songAt 2 (some .int) ∈ lw_good := tw_in (i := 284) (by decide +kernel) (by decide +kernel)
theorem tw_285 : Cond.methodLink RX5 93 yX3_rockAt ∈ lw_good := tw_in (i := 285) (by decide +kernel) (by decide +kernel)
theorem tw_286 : Cond.instanceMethod yX3_rockAt ∈ lw_good := tw_in (i := 286) (by decide +kernel) (by decide +kernel)
theorem tw_287 : Cond.selects RX3 yX3_rockAt yX3_rockAt ∈ lw_good := tw_in (i := 287) (by decide +kernel) (by decide +kernel)
theorem tw_288 : Cond.code yX3_rockAt cX3_rockAt 2 (some .int) ∈ lw_good := tw_in (i := 288) (by decide +kernel) (by decide +kernel)
theorem tw_289 : Cond.methodLink RL 36 yX5_man ∈ lw_good := tw_in (i := 289) (by decide +kernel) (by decide +kernel)
theorem tw_290 : Cond.instanceMethod yX5_man ∈ lw_good := tw_in (i := 290) (by decide +kernel) (by decide +kernel)
theorem tw_291 : Cond.selects RX5 yX5_man yX5_man ∈ lw_good := tw_in (i := 291) (by decide +kernel) (by decide +kernel)
theorem tw_292 : Cond.code yX5_man cX5_man 5 (some .int) ∈ lw_good := tw_in (i := 292) (by decide +kernel) (by decide +kernel)
theorem tw_293 : Cond.methodLink RX5 96 yX5_isKind ∈ lw_good := tw_in (i := 293) (by decide +kernel) (by decide +kernel)
theorem tw_294 : Cond.static yX5_isKind ∈ lw_good := tw_in (i := 294) (by decide +kernel) (by decide +kernel)
theorem tw_295 : Cond.code yX5_isKind cX5_isKind 1 (some .boolean) ∈ lw_good := tw_in (i := 295) (by decide +kernel) (by decide +kernel)
theorem tw_296 : Cond.methodLink RX5 100 yX5_hasPassage ∈ lw_good := tw_in (i := 296) (by decide +kernel) (by decide +kernel)
theorem tw_298 : Cond.instanceMethod yX5_hasPassage ∈ lw_good := tw_in (i := 298) (by decide +kernel) (by decide +kernel)
theorem tw_299 : Cond.code yX5_hasPassage cX5_hasPassage 1 (some .boolean) ∈ lw_good := tw_in (i := 299) (by decide +kernel) (by decide +kernel)
theorem tw_300 : Cond.methodLink RX5 109 yX0_add ∈ lw_good := tw_in (i := 300) (by decide +kernel) (by decide +kernel)
theorem tw_301 : Cond.instanceMethod yX0_add ∈ lw_good := tw_in (i := 301) (by decide +kernel) (by decide +kernel)
theorem tw_302 : Cond.selects RX0 yX0_add yX0_add ∈ lw_good := tw_in (i := 302) (by decide +kernel) (by decide +kernel)
theorem tw_303 : Cond.code yX0_add cX0_add 4 none ∈ lw_good := tw_in (i := 303) (by decide +kernel) (by decide +kernel)
theorem tw_304 : Cond.methodLink RX5 112 yX4_board ∈ lw_good := tw_in (i := 304) (by decide +kernel) (by decide +kernel)
theorem tw_305 : Cond.instanceMethod yX4_board ∈ lw_good := tw_in (i := 305) (by decide +kernel) (by decide +kernel)
theorem tw_306 : Cond.selects RX4 yX4_board yX4_board ∈ lw_good := tw_in (i := 306) (by decide +kernel) (by decide +kernel)
theorem tw_307 : Cond.code yX4_board cX4_board 2 none ∈ lw_good := tw_in (i := 307) (by decide +kernel) (by decide +kernel)
theorem tw_308 : Cond.methodLink RX4 37 yX4_setWax ∈ lw_good := tw_in (i := 308) (by decide +kernel) (by decide +kernel)
theorem tw_309 : Cond.instanceMethod yX4_setWax ∈ lw_good := tw_in (i := 309) (by decide +kernel) (by decide +kernel)
theorem tw_310 : Cond.selects RX4 yX4_setWax yX4_setWax ∈ lw_good := tw_in (i := 310) (by decide +kernel) (by decide +kernel)
theorem tw_311 : Cond.code yX4_setWax cX4_setWax 3 none ∈ lw_good := tw_in (i := 311) (by decide +kernel) (by decide +kernel)
theorem tw_312 : Cond.methodLink RX4 41 yX4_setKnots ∈ lw_good := tw_in (i := 312) (by decide +kernel) (by decide +kernel)
theorem tw_313 : Cond.instanceMethod yX4_setKnots ∈ lw_good := tw_in (i := 313) (by decide +kernel) (by decide +kernel)
theorem tw_314 : Cond.selects RX4 yX4_setKnots yX4_setKnots ∈ lw_good := tw_in (i := 314) (by decide +kernel) (by decide +kernel)
theorem tw_315 : Cond.code yX4_setKnots cX4_setKnots 3 none ∈ lw_good := tw_in (i := 315) (by decide +kernel) (by decide +kernel)
theorem tw_316 : Cond.methodLink RL 41 yX5_about ∈ lw_good := tw_in (i := 316) (by decide +kernel) (by decide +kernel)
theorem tw_317 : Cond.instanceMethod yX5_about ∈ lw_good := tw_in (i := 317) (by decide +kernel) (by decide +kernel)
theorem tw_318 : Cond.selects RX5 yX5_about yX5_about ∈ lw_good := tw_in (i := 318) (by decide +kernel) (by decide +kernel)
theorem tw_319 : Cond.code yX5_about cX5_about 3 (some .int) ∈ lw_good := tw_in (i := 319) (by decide +kernel) (by decide +kernel)
theorem tw_320 : Cond.methodLink RX5 115 yX5_isKnown ∈ lw_good := tw_in (i := 320) (by decide +kernel) (by decide +kernel)
theorem tw_322 : Cond.instanceMethod yX5_isKnown ∈ lw_good := tw_in (i := 322) (by decide +kernel) (by decide +kernel)
theorem tw_323 : Cond.code yX5_isKnown cX5_isKnown 2 (some .boolean) ∈ lw_good := tw_in (i := 323) (by decide +kernel) (by decide +kernel)
theorem tw_324 : Cond.methodLink RX5 118 yX0_kindOf ∈ lw_good := tw_in (i := 324) (by decide +kernel) (by decide +kernel)
theorem tw_325 : Cond.instanceMethod yX0_kindOf ∈ lw_good := tw_in (i := 325) (by decide +kernel) (by decide +kernel)
theorem tw_326 : Cond.selects RX0 yX0_kindOf yX0_kindOf ∈ lw_good := tw_in (i := 326) (by decide +kernel) (by decide +kernel)
theorem tw_327 : Cond.code yX0_kindOf cX0_kindOf 2 (some .int) ∈ lw_good := tw_in (i := 327) (by decide +kernel) (by decide +kernel)
theorem tw_328 : Cond.methodLink RX5 121 yX0_oarOf ∈ lw_good := tw_in (i := 328) (by decide +kernel) (by decide +kernel)
theorem tw_329 : Cond.instanceMethod yX0_oarOf ∈ lw_good := tw_in (i := 329) (by decide +kernel) (by decide +kernel)
theorem tw_330 : Cond.selects RX0 yX0_oarOf yX0_oarOf ∈ lw_good := tw_in (i := 330) (by decide +kernel) (by decide +kernel)
theorem tw_331 : Cond.code yX0_oarOf cX0_oarOf 2 (some .int) ∈ lw_good := tw_in (i := 331) (by decide +kernel) (by decide +kernel)
theorem tw_332 : Cond.methodLink RX5 124 yX0_willOf ∈ lw_good := tw_in (i := 332) (by decide +kernel) (by decide +kernel)
theorem tw_333 : Cond.instanceMethod yX0_willOf ∈ lw_good := tw_in (i := 333) (by decide +kernel) (by decide +kernel)
theorem tw_334 : Cond.selects RX0 yX0_willOf yX0_willOf ∈ lw_good := tw_in (i := 334) (by decide +kernel) (by decide +kernel)
theorem tw_335 : Cond.code yX0_willOf cX0_willOf 2 (some .int) ∈ lw_good := tw_in (i := 335) (by decide +kernel) (by decide +kernel)
theorem tw_336 : Cond.methodLink RX5 127 yX4_isWaxed ∈ lw_good := tw_in (i := 336) (by decide +kernel) (by decide +kernel)
theorem tw_337 : Cond.instanceMethod yX4_isWaxed ∈ lw_good := tw_in (i := 337) (by decide +kernel) (by decide +kernel)
theorem tw_338 : Cond.selects RX4 yX4_isWaxed yX4_isWaxed ∈ lw_good := tw_in (i := 338) (by decide +kernel) (by decide +kernel)
theorem tw_339 : Cond.code yX4_isWaxed cX4_isWaxed 2 (some .boolean) ∈ lw_good := tw_in (i := 339) (by decide +kernel) (by decide +kernel)
theorem tw_340 : Cond.methodLink RX5 130 yX5_asInt ∈ lw_good := tw_in (i := 340) (by decide +kernel) (by decide +kernel)
theorem tw_341 : Cond.static yX5_asInt ∈ lw_good := tw_in (i := 341) (by decide +kernel) (by decide +kernel)
theorem tw_342 : Cond.code yX5_asInt cX5_asInt 1 (some .int) ∈ lw_good := tw_in (i := 342) (by decide +kernel) (by decide +kernel)
theorem tw_343 : Cond.methodLink RX5 134 yX4_knotsOf ∈ lw_good := tw_in (i := 343) (by decide +kernel) (by decide +kernel)
theorem tw_344 : Cond.instanceMethod yX4_knotsOf ∈ lw_good := tw_in (i := 344) (by decide +kernel) (by decide +kernel)
theorem tw_345 : Cond.selects RX4 yX4_knotsOf yX4_knotsOf ∈ lw_good := tw_in (i := 345) (by decide +kernel) (by decide +kernel)
theorem tw_346 : Cond.code yX4_knotsOf cX4_knotsOf 2 (some .int) ∈ lw_good := tw_in (i := 346) (by decide +kernel) (by decide +kernel)
theorem tw_347 : Cond.methodLink RX5 137 yX4_isAboard ∈ lw_good := tw_in (i := 347) (by decide +kernel) (by decide +kernel)
theorem tw_348 : Cond.instanceMethod yX4_isAboard ∈ lw_good := tw_in (i := 348) (by decide +kernel) (by decide +kernel)
theorem tw_349 : Cond.selects RX4 yX4_isAboard yX4_isAboard ∈ lw_good := tw_in (i := 349) (by decide +kernel) (by decide +kernel)
theorem tw_350 : Cond.code yX4_isAboard cX4_isAboard 2 (some .boolean) ∈ lw_good := tw_in (i := 350) (by decide +kernel) (by decide +kernel)
theorem tw_351 : Cond.methodLink RX5 140 yX4_isHearing ∈ lw_good := tw_in (i := 351) (by decide +kernel) (by decide +kernel)
theorem tw_352 : Cond.instanceMethod yX4_isHearing ∈ lw_good := tw_in (i := 352) (by decide +kernel) (by decide +kernel)
theorem tw_353 : Cond.selects RX4 yX4_isHearing yX4_isHearing ∈ lw_good := tw_in (i := 353) (by decide +kernel) (by decide +kernel)
theorem tw_354 : Cond.code yX4_isHearing cX4_isHearing 4 (some .boolean) ∈ lw_good := tw_in (i := 354) (by decide +kernel) (by decide +kernel)
theorem tw_355 : Cond.methodLink RX4 56 yX0_kindOf ∈ lw_good := tw_in (i := 355) (by decide +kernel) (by decide +kernel)
theorem tw_356 : Cond.methodLink RX4 59 yX4_isWaxed ∈ lw_good := tw_in (i := 356) (by decide +kernel) (by decide +kernel)
theorem tw_357 : Cond.methodLink RX5 144 yX4_holdOn ∈ lw_good := tw_in (i := 357) (by decide +kernel) (by decide +kernel)
theorem tw_358 : Cond.instanceMethod yX4_holdOn ∈ lw_good := tw_in (i := 358) (by decide +kernel) (by decide +kernel)
theorem tw_359 : Cond.selects RX4 yX4_holdOn yX4_holdOn ∈ lw_good := tw_in (i := 359) (by decide +kernel) (by decide +kernel)
theorem tw_360 : Cond.code yX4_holdOn cX4_holdOn 4 (some .int) ∈ lw_good := tw_in (i := 360) (by decide +kernel) (by decide +kernel)
theorem tw_361 : Cond.methodLink RX4 68 yX0_willOf ∈ lw_good := tw_in (i := 361) (by decide +kernel) (by decide +kernel)
theorem tw_362 : Cond.methodLink RX4 71 yX4_knotsOf ∈ lw_good := tw_in (i := 362) (by decide +kernel) (by decide +kernel)
theorem tw_363 : Cond.methodLink RL 45 yX5_as ∈ lw_good := tw_in (i := 363) (by decide +kernel) (by decide +kernel)
theorem tw_364 : Cond.instanceMethod yX5_as ∈ lw_good := tw_in (i := 364) (by decide +kernel) (by decide +kernel)
theorem tw_365 : Cond.selects RX5 yX5_as yX5_as ∈ lw_good := tw_in (i := 365) (by decide +kernel) (by decide +kernel)
theorem tw_366 : Cond.code yX5_as cX5_as 3 (some .int) ∈ lw_good := tw_in (i := 366) (by decide +kernel) (by decide +kernel)
theorem tw_367 : Cond.methodLink RX5 148 yX0_isOfKind ∈ lw_good := tw_in (i := 367) (by decide +kernel) (by decide +kernel)
theorem tw_368 : Cond.instanceMethod yX0_isOfKind ∈ lw_good := tw_in (i := 368) (by decide +kernel) (by decide +kernel)
theorem tw_369 : Cond.selects RX0 yX0_isOfKind yX0_isOfKind ∈ lw_good := tw_in (i := 369) (by decide +kernel) (by decide +kernel)
theorem tw_370 : Cond.code yX0_isOfKind cX0_isOfKind 4 (some .boolean) ∈ lw_good := tw_in (i := 370) (by decide +kernel) (by decide +kernel)
theorem tw_371 : Cond.methodLink RX0 25 yX0_kindOf ∈ lw_good := tw_in (i := 371) (by decide +kernel) (by decide +kernel)
theorem tw_372 : Cond.methodLink RL 49 yX5_wax ∈ lw_good := tw_in (i := 372) (by decide +kernel) (by decide +kernel)
theorem tw_373 : Cond.instanceMethod yX5_wax ∈ lw_good := tw_in (i := 373) (by decide +kernel) (by decide +kernel)
theorem tw_374 : Cond.selects RX5 yX5_wax yX5_wax ∈ lw_good := tw_in (i := 374) (by decide +kernel) (by decide +kernel)
theorem tw_375 : Cond.code yX5_wax cX5_wax 4 (some .int) ∈ lw_good := tw_in (i := 375) (by decide +kernel) (by decide +kernel)
theorem tw_376 : Cond.methodLink RX5 155 yX4_setWax ∈ lw_good := tw_in (i := 376) (by decide +kernel) (by decide +kernel)
theorem tw_377 : Cond.methodLink RL 54 yX5_bind ∈ lw_good := tw_in (i := 377) (by decide +kernel) (by decide +kernel)
theorem tw_378 : Cond.instanceMethod yX5_bind ∈ lw_good := tw_in (i := 378) (by decide +kernel) (by decide +kernel)
theorem tw_379 : Cond.selects RX5 yX5_bind yX5_bind ∈ lw_good := tw_in (i := 379) (by decide +kernel) (by decide +kernel)
theorem tw_380 : Cond.code yX5_bind cX5_bind 4 (some .int) ∈ lw_good := tw_in (i := 380) (by decide +kernel) (by decide +kernel)
theorem tw_381 : Cond.methodLink RX5 159 yX4_setKnots ∈ lw_good := tw_in (i := 381) (by decide +kernel) (by decide +kernel)
theorem tw_382 : Cond.methodLink RL 58 yX5_stroke ∈ lw_good := tw_in (i := 382) (by decide +kernel) (by decide +kernel)
theorem tw_383 : Cond.instanceMethod yX5_stroke ∈ lw_good := tw_in (i := 383) (by decide +kernel) (by decide +kernel)
theorem tw_384 : Cond.selects RX5 yX5_stroke yX5_stroke ∈ lw_good := tw_in (i := 384) (by decide +kernel) (by decide +kernel)
theorem tw_385 : Cond.code yX5_stroke cX5_stroke 1 (some .int) ∈ lw_good := tw_in (i := 385) (by decide +kernel) (by decide +kernel)
theorem tw_386 : Cond.methodLink RX5 163 yX5_canGoOn ∈ lw_good := tw_in (i := 386) (by decide +kernel) (by decide +kernel)
theorem tw_388 : Cond.instanceMethod yX5_canGoOn ∈ lw_good := tw_in (i := 388) (by decide +kernel) (by decide +kernel)
theorem tw_389 : Cond.code yX5_canGoOn cX5_canGoOn 1 (some .boolean) ∈ lw_good := tw_in (i := 389) (by decide +kernel) (by decide +kernel)
theorem tw_390 : Cond.methodLink RX5 166 yX4_row ∈ lw_good := tw_in (i := 390) (by decide +kernel) (by decide +kernel)
theorem tw_391 : Cond.instanceMethod yX4_row ∈ lw_good := tw_in (i := 391) (by decide +kernel) (by decide +kernel)
theorem tw_392 : Cond.selects RX4 yX4_row yX4_row ∈ lw_good := tw_in (i := 392) (by decide +kernel) (by decide +kernel)
theorem tw_393 : Cond.code yX4_row cX4_row 4 (some .int) ∈ lw_good := tw_in (i := 393) (by decide +kernel) (by decide +kernel)
theorem tw_394 : Cond.methodLink RX4 78 yX4_swimmersAt ∈ lw_good := tw_in (i := 394) (by decide +kernel) (by decide +kernel)
theorem tw_396 : Cond.instanceMethod yX4_swimmersAt ∈ lw_good := tw_in (i := 396) (by decide +kernel) (by decide +kernel)
theorem tw_397 : Cond.code yX4_swimmersAt cX4_swimmersAt 7 (some .int) ∈ lw_good := tw_in (i := 397) (by decide +kernel) (by decide +kernel)
theorem tw_398 : Cond.methodLink RX4 100 yX3_songAt ∈ lw_good := tw_in (i := 398) (by decide +kernel) (by decide +kernel)
theorem tw_399 : Cond.methodLink RX4 103 yX4_isAboard ∈ lw_good := tw_in (i := 399) (by decide +kernel) (by decide +kernel)
theorem tw_400 : Cond.methodLink RX4 106 yX4_isHearing ∈ lw_good := tw_in (i := 400) (by decide +kernel) (by decide +kernel)
theorem tw_401 : Cond.methodLink RX4 109 yX4_holdOn ∈ lw_good := tw_in (i := 401) (by decide +kernel) (by decide +kernel)
theorem tw_402 : Cond.methodLink RX4 81 yX3_rockAt ∈ lw_good := tw_in (i := 402) (by decide +kernel) (by decide +kernel)
theorem tw_403 : Cond.methodLink RX4 84 yX4_isStriking ∈ lw_good := tw_in (i := 403) (by decide +kernel) (by decide +kernel)
theorem tw_405 : Cond.instanceMethod yX4_isStriking ∈ lw_good := tw_in (i := 405) (by decide +kernel) (by decide +kernel)
theorem tw_406 : Cond.code yX4_isStriking cX4_isStriking 5 (some .boolean) ∈ lw_good := tw_in (i := 406) (by decide +kernel) (by decide +kernel)
theorem tw_407 : Cond.methodLink RX4 113 yX4_isFree ∈ lw_good := tw_in (i := 407) (by decide +kernel) (by decide +kernel)
theorem tw_409 : Cond.instanceMethod yX4_isFree ∈ lw_good := tw_in (i := 409) (by decide +kernel) (by decide +kernel)
theorem tw_410 : Cond.code yX4_isFree cX4_isFree 2 (some .boolean) ∈ lw_good := tw_in (i := 410) (by decide +kernel) (by decide +kernel)
theorem tw_411 : Cond.methodLink RX4 116 yX0_isOfKind ∈ lw_good := tw_in (i := 411) (by decide +kernel) (by decide +kernel)
theorem tw_412 : Cond.methodLink RX4 88 yX4_freeOars ∈ lw_good := tw_in (i := 412) (by decide +kernel) (by decide +kernel)
theorem tw_414 : Cond.instanceMethod yX4_freeOars ∈ lw_good := tw_in (i := 414) (by decide +kernel) (by decide +kernel)
theorem tw_415 : Cond.code yX4_freeOars cX4_freeOars 4 (some .int) ∈ lw_good := tw_in (i := 415) (by decide +kernel) (by decide +kernel)
theorem tw_416 : Cond.methodLink RX4 120 yX0_oarOf ∈ lw_good := tw_in (i := 416) (by decide +kernel) (by decide +kernel)
theorem tw_417 : Cond.methodLink RX4 95 yX4_comeOn ∈ lw_good := tw_in (i := 417) (by decide +kernel) (by decide +kernel)
theorem tw_419 : Cond.instanceMethod yX4_comeOn ∈ lw_good := tw_in (i := 419) (by decide +kernel) (by decide +kernel)
theorem tw_420 : Cond.code yX4_comeOn cX4_comeOn 2 none ∈ lw_good := tw_in (i := 420) (by decide +kernel) (by decide +kernel)
theorem tw_421 : Cond.methodLink RL 62 yX5_outcome ∈ lw_good := tw_in (i := 421) (by decide +kernel) (by decide +kernel)
theorem tw_422 : Cond.instanceMethod yX5_outcome ∈ lw_good := tw_in (i := 422) (by decide +kernel) (by decide +kernel)
theorem tw_423 : Cond.selects RX5 yX5_outcome yX5_outcome ∈ lw_good := tw_in (i := 423) (by decide +kernel) (by decide +kernel)
theorem tw_424 : Cond.code yX5_outcome cX5_outcome 3 (some .int) ∈ lw_good := tw_in (i := 424) (by decide +kernel) (by decide +kernel)
theorem tw_425 : Cond.methodLink RX5 170 yX4_copy ∈ lw_good := tw_in (i := 425) (by decide +kernel) (by decide +kernel)
theorem tw_426 : Cond.instanceMethod yX4_copy ∈ lw_good := tw_in (i := 426) (by decide +kernel) (by decide +kernel)
theorem tw_427 : Cond.selects RX4 yX4_copy yX4_copy ∈ lw_good := tw_in (i := 427) (by decide +kernel) (by decide +kernel)
theorem tw_428 : Cond.code yX4_copy cX4_copy 2 none ∈ lw_good := tw_in (i := 428) (by decide +kernel) (by decide +kernel)
theorem tw_429 : Cond.methodLink RX4 15 arraycopyName ∈ lw_good := tw_in (i := 429) (by decide +kernel) (by decide +kernel)
theorem tw_430 : Cond.static arraycopyName ∈ lw_good := tw_in (i := 430) (by decide +kernel) (by decide +kernel)
theorem tw_431 : Cond.native arraycopyName ∈ lw_good := tw_in (i := 431) (by decide +kernel) (by decide +kernel)
theorem tw_432 : Cond.methodLink RX5 174 yX4_rowOn ∈ lw_good := tw_in (i := 432) (by decide +kernel) (by decide +kernel)
theorem tw_433 : Cond.instanceMethod yX4_rowOn ∈ lw_good := tw_in (i := 433) (by decide +kernel) (by decide +kernel)
theorem tw_434 : Cond.selects RX4 yX4_rowOn yX4_rowOn ∈ lw_good := tw_in (i := 434) (by decide +kernel) (by decide +kernel)
theorem tw_435 : Cond.code yX4_rowOn cX4_rowOn 4 (some .int) ∈ lw_good := tw_in (i := 435) (by decide +kernel) (by decide +kernel)
theorem tw_436 : Cond.methodLink RX4 74 yX4_row ∈ lw_good := tw_in (i := 436) (by decide +kernel) (by decide +kernel)
theorem tw_437 : Cond.methodLink RX5 177 yX4_lostOf ∈ lw_good := tw_in (i := 437) (by decide +kernel) (by decide +kernel)
theorem tw_438 : Cond.instanceMethod yX4_lostOf ∈ lw_good := tw_in (i := 438) (by decide +kernel) (by decide +kernel)
theorem tw_439 : Cond.selects RX4 yX4_lostOf yX4_lostOf ∈ lw_good := tw_in (i := 439) (by decide +kernel) (by decide +kernel)
theorem tw_440 : Cond.code yX4_lostOf cX4_lostOf 2 (some .int) ∈ lw_good := tw_in (i := 440) (by decide +kernel) (by decide +kernel)
theorem tw_441 : Cond.methodLink RX4 50 yJ6_bitCount_0f7a4 ∈ lw_good := tw_in (i := 441) (by decide +kernel) (by decide +kernel)
theorem tw_442 : Cond.static yJ6_bitCount_0f7a4 ∈ lw_good := tw_in (i := 442) (by decide +kernel) (by decide +kernel)
theorem tw_443 : Cond.code yJ6_bitCount_0f7a4 cJ6_bitCount_0f7a4 1 (some .int) ∈ lw_good := tw_in (i := 443) (by decide +kernel) (by decide +kernel)
theorem tw_444 : Cond.constant RJ6 265 1431655765 ∈ lw_good := tw_in (i := 444) (by decide +kernel) (by decide +kernel)
theorem tw_445 : Cond.constant RJ6 266 858993459 ∈ lw_good := tw_in (i := 445) (by decide +kernel) (by decide +kernel)
theorem tw_446 : Cond.constant RJ6 267 252645135 ∈ lw_good := tw_in (i := 446) (by decide +kernel) (by decide +kernel)
theorem tw_447 : Cond.methodLink RL 66 yX5_waxing ∈ lw_good := tw_in (i := 447) (by decide +kernel) (by decide +kernel)
theorem tw_448 : Cond.instanceMethod yX5_waxing ∈ lw_good := tw_in (i := 448) (by decide +kernel) (by decide +kernel)
theorem tw_449 : Cond.selects RX5 yX5_waxing yX5_waxing ∈ lw_good := tw_in (i := 449) (by decide +kernel) (by decide +kernel)
theorem tw_450 : Cond.code yX5_waxing cX5_waxing 7 (some .int) ∈ lw_good := tw_in (i := 450) (by decide +kernel) (by decide +kernel)
theorem tw_451 : Cond.methodLink RX5 181 yX5_rankWithWax ∈ lw_good := tw_in (i := 451) (by decide +kernel) (by decide +kernel)
theorem tw_453 : Cond.instanceMethod yX5_rankWithWax ∈ lw_good := tw_in (i := 453) (by decide +kernel) (by decide +kernel)
theorem tw_454 : Cond.code yX5_rankWithWax cX5_rankWithWax 2 (some .int) ∈ lw_good := tw_in (i := 454) (by decide +kernel) (by decide +kernel)
theorem tw_455 : Cond.methodLink RX5 260 yX5_rankOfTrial ∈ lw_good := tw_in (i := 455) (by decide +kernel) (by decide +kernel)
theorem tw_457 : Cond.instanceMethod yX5_rankOfTrial ∈ lw_good := tw_in (i := 457) (by decide +kernel) (by decide +kernel)
theorem tw_458 : Cond.code yX5_rankOfTrial cX5_rankOfTrial 2 (some .int) ∈ lw_good := tw_in (i := 458) (by decide +kernel) (by decide +kernel)
theorem tw_459 : Cond.methodLink RX5 184 yX0_everyone ∈ lw_good := tw_in (i := 459) (by decide +kernel) (by decide +kernel)
theorem tw_460 : Cond.instanceMethod yX0_everyone ∈ lw_good := tw_in (i := 460) (by decide +kernel) (by decide +kernel)
theorem tw_461 : Cond.selects RX0 yX0_everyone yX0_everyone ∈ lw_good := tw_in (i := 461) (by decide +kernel) (by decide +kernel)
theorem tw_462 : Cond.code yX0_everyone cX0_everyone 1 (some .int) ∈ lw_good := tw_in (i := 462) (by decide +kernel) (by decide +kernel)
theorem tw_463 : Cond.methodLink RX5 190 yJ6_bitCount_0f7a4 ∈ lw_good := tw_in (i := 463) (by decide +kernel) (by decide +kernel)
theorem tw_464 : Cond.methodLink RL 70 yX5_hold ∈ lw_good := tw_in (i := 464) (by decide +kernel) (by decide +kernel)
theorem tw_465 : Cond.instanceMethod yX5_hold ∈ lw_good := tw_in (i := 465) (by decide +kernel) (by decide +kernel)
theorem tw_466 : Cond.selects RX5 yX5_hold yX5_hold ∈ lw_good := tw_in (i := 466) (by decide +kernel) (by decide +kernel)
theorem tw_467 : Cond.code yX5_hold cX5_hold 3 (some .int) ∈ lw_good := tw_in (i := 467) (by decide +kernel) (by decide +kernel)
theorem tw_468 : Cond.methodLink RL 74 yX5_listener ∈ lw_good := tw_in (i := 468) (by decide +kernel) (by decide +kernel)
theorem tw_469 : Cond.instanceMethod yX5_listener ∈ lw_good := tw_in (i := 469) (by decide +kernel) (by decide +kernel)
theorem tw_470 : Cond.selects RX5 yX5_listener yX5_listener ∈ lw_good := tw_in (i := 470) (by decide +kernel) (by decide +kernel)
theorem tw_471 : Cond.code yX5_listener cX5_listener 5 (some .int) ∈ lw_good := tw_in (i := 471) (by decide +kernel) (by decide +kernel)
theorem tw_472 : Cond.methodLink RX5 195 yX5_rankWithListener ∈ lw_good := tw_in (i := 472) (by decide +kernel) (by decide +kernel)
theorem tw_474 : Cond.instanceMethod yX5_rankWithListener ∈ lw_good := tw_in (i := 474) (by decide +kernel) (by decide +kernel)
theorem tw_475 : Cond.code yX5_rankWithListener cX5_rankWithListener 3 (some .int) ∈ lw_good := tw_in (i := 475) (by decide +kernel) (by decide +kernel)
theorem tw_476 : Cond.methodLink RL 78 yX5_sold ∈ lw_good := tw_in (i := 476) (by decide +kernel) (by decide +kernel)
theorem tw_477 : Cond.instanceMethod yX5_sold ∈ lw_good := tw_in (i := 477) (by decide +kernel) (by decide +kernel)
theorem tw_478 : Cond.selects RX5 yX5_sold yX5_sold ∈ lw_good := tw_in (i := 478) (by decide +kernel) (by decide +kernel)
theorem tw_479 : Cond.code yX5_sold cX5_sold 3 (some .int) ∈ lw_good := tw_in (i := 479) (by decide +kernel) (by decide +kernel)
theorem tw_480 : Cond.methodLink RX5 198 yX3_copyWeaker ∈ lw_good := tw_in (i := 480) (by decide +kernel) (by decide +kernel)
theorem tw_481 : Cond.instanceMethod yX3_copyWeaker ∈ lw_good := tw_in (i := 481) (by decide +kernel) (by decide +kernel)
theorem tw_482 : Cond.selects RX3 yX3_copyWeaker yX3_copyWeaker ∈ lw_good := tw_in (i := 482) (by decide +kernel) (by decide +kernel)
theorem tw_483 : Cond.code yX3_copyWeaker cX3_copyWeaker 4 none ∈ lw_good := tw_in (i := 483) (by decide +kernel) (by decide +kernel)
theorem tw_484 : Cond.methodLink RX3 46 yX3_copy ∈ lw_good := tw_in (i := 484) (by decide +kernel) (by decide +kernel)
theorem tw_486 : Cond.instanceMethod yX3_copy ∈ lw_good := tw_in (i := 486) (by decide +kernel) (by decide +kernel)
theorem tw_487 : Cond.code yX3_copy cX3_copy 2 none ∈ lw_good := tw_in (i := 487) (by decide +kernel) (by decide +kernel)
theorem tw_488 : Cond.methodLink RX3 69 arraycopyName ∈ lw_good := tw_in (i := 488) (by decide +kernel) (by decide +kernel)
theorem tw_489 : Cond.methodLink RX3 50 yX3_songAt ∈ lw_good := tw_in (i := 489) (by decide +kernel) (by decide +kernel)
theorem tw_490 : Cond.methodLink RX3 53 yJ9_max_7cf53 ∈ lw_good := tw_in (i := 490) (by decide +kernel) (by decide +kernel)
theorem tw_491 : Cond.static yJ9_max_7cf53 ∈ lw_good := tw_in (i := 491) (by decide +kernel) (by decide +kernel)
theorem tw_492 : Cond.code yJ9_max_7cf53 cJ9_max_7cf53 2 (some .int) ∈ lw_good := tw_in (i := 492) (by decide +kernel) (by decide +kernel)
theorem tw_493 : Cond.methodLink RL 82 yX5_log ∈ lw_good := tw_in (i := 493) (by decide +kernel) (by decide +kernel)
theorem tw_494 : Cond.instanceMethod yX5_log ∈ lw_good := tw_in (i := 494) (by decide +kernel) (by decide +kernel)
theorem tw_495 : Cond.selects RX5 yX5_log yX5_log ∈ lw_good := tw_in (i := 495) (by decide +kernel) (by decide +kernel)
theorem tw_496 : Cond.code yX5_log cX5_log 2 (some .int) ∈ lw_good := tw_in (i := 496) (by decide +kernel) (by decide +kernel)
theorem tw_497 : Cond.methodLink RX5 202 yX1_add ∈ lw_good := tw_in (i := 497) (by decide +kernel) (by decide +kernel)
theorem tw_498 : Cond.instanceMethod yX1_add ∈ lw_good := tw_in (i := 498) (by decide +kernel) (by decide +kernel)
theorem tw_499 : Cond.selects RX1 yX1_add yX1_add ∈ lw_good := tw_in (i := 499) (by decide +kernel) (by decide +kernel)
theorem tw_500 : Cond.code yX1_add cX1_add 2 none ∈ lw_good := tw_in (i := 500) (by decide +kernel) (by decide +kernel)
theorem tw_501 : Cond.methodLink RL 86 yX5_forget ∈ lw_good := tw_in (i := 501) (by decide +kernel) (by decide +kernel)
theorem tw_502 : Cond.instanceMethod yX5_forget ∈ lw_good := tw_in (i := 502) (by decide +kernel) (by decide +kernel)
theorem tw_503 : Cond.selects RX5 yX5_forget yX5_forget ∈ lw_good := tw_in (i := 503) (by decide +kernel) (by decide +kernel)
theorem tw_504 : Cond.code yX5_forget cX5_forget 2 (some .int) ∈ lw_good := tw_in (i := 504) (by decide +kernel) (by decide +kernel)
theorem tw_505 : Cond.methodLink RL 90 yX5_fits ∈ lw_good := tw_in (i := 505) (by decide +kernel) (by decide +kernel)
theorem tw_506 : Cond.instanceMethod yX5_fits ∈ lw_good := tw_in (i := 506) (by decide +kernel) (by decide +kernel)
theorem tw_507 : Cond.selects RX5 yX5_fits yX5_fits ∈ lw_good := tw_in (i := 507) (by decide +kernel) (by decide +kernel)
theorem tw_508 : Cond.code yX5_fits cX5_fits 1 (some .int) ∈ lw_good := tw_in (i := 508) (by decide +kernel) (by decide +kernel)
theorem tw_509 : Cond.methodLink RX5 203 yX5_fittingSetsWith ∈ lw_good := tw_in (i := 509) (by decide +kernel) (by decide +kernel)
theorem tw_511 : Cond.instanceMethod yX5_fittingSetsWith ∈ lw_good := tw_in (i := 511) (by decide +kernel) (by decide +kernel)
theorem tw_512 : Cond.code yX5_fittingSetsWith cX5_fittingSetsWith 4 (some .int) ∈ lw_good := tw_in (i := 512) (by decide +kernel) (by decide +kernel)
theorem tw_513 : Cond.methodLink RX5 263 yX5_isFitting ∈ lw_good := tw_in (i := 513) (by decide +kernel) (by decide +kernel)
theorem tw_515 : Cond.instanceMethod yX5_isFitting ∈ lw_good := tw_in (i := 515) (by decide +kernel) (by decide +kernel)
theorem tw_516 : Cond.code yX5_isFitting cX5_isFitting 4 (some .boolean) ∈ lw_good := tw_in (i := 516) (by decide +kernel) (by decide +kernel)
theorem tw_517 : Cond.methodLink RX5 266 yX1_setAt ∈ lw_good := tw_in (i := 517) (by decide +kernel) (by decide +kernel)
theorem tw_518 : Cond.instanceMethod yX1_setAt ∈ lw_good := tw_in (i := 518) (by decide +kernel) (by decide +kernel)
theorem tw_519 : Cond.selects RX1 yX1_setAt yX1_setAt ∈ lw_good := tw_in (i := 519) (by decide +kernel) (by decide +kernel)
theorem tw_520 : Cond.code yX1_setAt cX1_setAt 2 (some .int) ∈ lw_good := tw_in (i := 520) (by decide +kernel) (by decide +kernel)
theorem tw_521 : Cond.methodLink RL 94 yX5_sure ∈ lw_good := tw_in (i := 521) (by decide +kernel) (by decide +kernel)
theorem tw_522 : Cond.instanceMethod yX5_sure ∈ lw_good := tw_in (i := 522) (by decide +kernel) (by decide +kernel)
theorem tw_523 : Cond.selects RX5 yX5_sure yX5_sure ∈ lw_good := tw_in (i := 523) (by decide +kernel) (by decide +kernel)
theorem tw_524 : Cond.code yX5_sure cX5_sure 4 (some .int) ∈ lw_good := tw_in (i := 524) (by decide +kernel) (by decide +kernel)
theorem tw_525 : Cond.methodLink RL 98 yX5_voyages ∈ lw_good := tw_in (i := 525) (by decide +kernel) (by decide +kernel)
theorem tw_526 : Cond.instanceMethod yX5_voyages ∈ lw_good := tw_in (i := 526) (by decide +kernel) (by decide +kernel)
theorem tw_527 : Cond.selects RX5 yX5_voyages yX5_voyages ∈ lw_good := tw_in (i := 527) (by decide +kernel) (by decide +kernel)
theorem tw_528 : Cond.code yX5_voyages cX5_voyages 8 (some .int) ∈ lw_good := tw_in (i := 528) (by decide +kernel) (by decide +kernel)
theorem tw_529 : Cond.methodLink RX5 206 yX3_copyDrawn ∈ lw_good := tw_in (i := 529) (by decide +kernel) (by decide +kernel)
theorem tw_530 : Cond.instanceMethod yX3_copyDrawn ∈ lw_good := tw_in (i := 530) (by decide +kernel) (by decide +kernel)
theorem tw_531 : Cond.selects RX3 yX3_copyDrawn yX3_copyDrawn ∈ lw_good := tw_in (i := 531) (by decide +kernel) (by decide +kernel)
theorem tw_532 : Cond.code yX3_copyDrawn cX3_copyDrawn 5 (some .int) ∈ lw_good := tw_in (i := 532) (by decide +kernel) (by decide +kernel)
theorem tw_533 : Cond.methodLink RX3 59 yX3_seedAfter ∈ lw_good := tw_in (i := 533) (by decide +kernel) (by decide +kernel)
theorem tw_534 : Cond.static yX3_seedAfter ∈ lw_good := tw_in (i := 534) (by decide +kernel) (by decide +kernel)
theorem tw_535 : Cond.code yX3_seedAfter cX3_seedAfter 1 (some .int) ∈ lw_good := tw_in (i := 535) (by decide +kernel) (by decide +kernel)
theorem tw_536 : Cond.constantLong RX3 63 1103515245 ∈ lw_good := tw_in (i := 536) (by decide +kernel) (by decide +kernel)
theorem tw_537 : Cond.constantLong RX3 65 12345 ∈ lw_good := tw_in (i := 537) (by decide +kernel) (by decide +kernel)
theorem tw_538 : Cond.constantLong RX3 67 2147483648 ∈ lw_good := tw_in (i := 538) (by decide +kernel) (by decide +kernel)
theorem tw_539 : Cond.constant RX3 62 65536 ∈ lw_good := tw_in (i := 539) (by decide +kernel) (by decide +kernel)
theorem tw_540 : Cond.methodLink RL 102 yX5_image ∈ lw_good := tw_in (i := 540) (by decide +kernel) (by decide +kernel)
theorem tw_541 : Cond.instanceMethod yX5_image ∈ lw_good := tw_in (i := 541) (by decide +kernel) (by decide +kernel)
theorem tw_542 : Cond.selects RX5 yX5_image yX5_image ∈ lw_good := tw_in (i := 542) (by decide +kernel) (by decide +kernel)
theorem tw_543 : Cond.code yX5_image cX5_image 1 (some .int) ∈ lw_good := tw_in (i := 543) (by decide +kernel) (by decide +kernel)
theorem tw_544 : Cond.methodLink RX5 210 yX1_copy ∈ lw_good := tw_in (i := 544) (by decide +kernel) (by decide +kernel)
theorem tw_545 : Cond.instanceMethod yX1_copy ∈ lw_good := tw_in (i := 545) (by decide +kernel) (by decide +kernel)
theorem tw_546 : Cond.selects RX1 yX1_copy yX1_copy ∈ lw_good := tw_in (i := 546) (by decide +kernel) (by decide +kernel)
theorem tw_547 : Cond.code yX1_copy cX1_copy 2 none ∈ lw_good := tw_in (i := 547) (by decide +kernel) (by decide +kernel)
theorem tw_548 : Cond.methodLink RX1 19 arraycopyName ∈ lw_good := tw_in (i := 548) (by decide +kernel) (by decide +kernel)
theorem tw_549 : Cond.methodLink RL 106 yX5_restore ∈ lw_good := tw_in (i := 549) (by decide +kernel) (by decide +kernel)
theorem tw_550 : Cond.instanceMethod yX5_restore ∈ lw_good := tw_in (i := 550) (by decide +kernel) (by decide +kernel)
theorem tw_551 : Cond.selects RX5 yX5_restore yX5_restore ∈ lw_good := tw_in (i := 551) (by decide +kernel) (by decide +kernel)
theorem tw_552 : Cond.code yX5_restore cX5_restore 1 (some .int) ∈ lw_good := tw_in (i := 552) (by decide +kernel) (by decide +kernel)
theorem tw_553 : Cond.methodLink RL 110 yX5_count ∈ lw_good := tw_in (i := 553) (by decide +kernel) (by decide +kernel)
theorem tw_554 : Cond.instanceMethod yX5_count ∈ lw_good := tw_in (i := 554) (by decide +kernel) (by decide +kernel)
theorem tw_555 : Cond.selects RX5 yX5_count yX5_count ∈ lw_good := tw_in (i := 555) (by decide +kernel) (by decide +kernel)
theorem tw_556 : Cond.code yX5_count cX5_count 2 (some .int) ∈ lw_good := tw_in (i := 556) (by decide +kernel) (by decide +kernel)
theorem tw_557 : Cond.methodLink RL 114 yX5_digest ∈ lw_good := tw_in (i := 557) (by decide +kernel) (by decide +kernel)
theorem tw_558 : Cond.instanceMethod yX5_digest ∈ lw_good := tw_in (i := 558) (by decide +kernel) (by decide +kernel)
theorem tw_559 : Cond.selects RX5 yX5_digest yX5_digest ∈ lw_good := tw_in (i := 559) (by decide +kernel) (by decide +kernel)
theorem tw_560 : Cond.code yX5_digest cX5_digest 5 (some .long) ∈ lw_good := tw_in (i := 560) (by decide +kernel) (by decide +kernel)
theorem tw_561 : Cond.constantLong RX5 222 757 ∈ lw_good := tw_in (i := 561) (by decide +kernel) (by decide +kernel)
theorem tw_562 : Cond.methodLink RX5 224 yX5_place ∈ lw_good := tw_in (i := 562) (by decide +kernel) (by decide +kernel)
theorem tw_563 : Cond.methodLink RX5 227 yX5_mix ∈ lw_good := tw_in (i := 563) (by decide +kernel) (by decide +kernel)
theorem tw_564 : Cond.static yX5_mix ∈ lw_good := tw_in (i := 564) (by decide +kernel) (by decide +kernel)
theorem tw_565 : Cond.code yX5_mix cX5_mix 4 (some .long) ∈ lw_good := tw_in (i := 565) (by decide +kernel) (by decide +kernel)
theorem tw_566 : Cond.constantLong RX5 255 31 ∈ lw_good := tw_in (i := 566) (by decide +kernel) (by decide +kernel)
theorem tw_567 : Cond.methodLink RX5 231 yX5_about ∈ lw_good := tw_in (i := 567) (by decide +kernel) (by decide +kernel)
theorem tw_568 : Cond.methodLink RX5 234 yX5_outcome ∈ lw_good := tw_in (i := 568) (by decide +kernel) (by decide +kernel)
theorem tw_569 : Cond.methodLink RX5 237 yX5_waxing ∈ lw_good := tw_in (i := 569) (by decide +kernel) (by decide +kernel)
theorem tw_570 : Cond.methodLink RX5 240 yX5_listener ∈ lw_good := tw_in (i := 570) (by decide +kernel) (by decide +kernel)
theorem tw_571 : Cond.methodLink RX5 243 yX5_sold ∈ lw_good := tw_in (i := 571) (by decide +kernel) (by decide +kernel)
theorem tw_572 : Cond.methodLink RX5 246 yX5_fits ∈ lw_good := tw_in (i := 572) (by decide +kernel) (by decide +kernel)
theorem tw_573 : Cond.methodLink RX5 249 yX2_codeAt ∈ lw_good := tw_in (i := 573) (by decide +kernel) (by decide +kernel)
theorem tw_574 : Cond.methodLink RX5 252 yX5_count ∈ lw_good := tw_in (i := 574) (by decide +kernel) (by decide +kernel)
theorem tw_575 : Cond.classLink RL 10 RX6 ∈ lw_good := tw_in (i := 575) (by decide +kernel) (by decide +kernel)
theorem tw_576 : Cond.instantiable RX6 50 ∈ lw_good := tw_in (i := 576) (by decide +kernel) (by decide +kernel)
theorem tw_577 : Cond.methodLink RL 12 yX6_init ∈ lw_good := tw_in (i := 577) (by decide +kernel) (by decide +kernel)
theorem tw_578 : Cond.instanceMethod yX6_init ∈ lw_good := tw_in (i := 578) (by decide +kernel) (by decide +kernel)
theorem tw_579 : Cond.code yX6_init cX6_init 1 none ∈ lw_good := tw_in (i := 579) (by decide +kernel) (by decide +kernel)
theorem tw_580 : Cond.methodLink RX6 1 objectInit ∈ lw_good := tw_in (i := 580) (by decide +kernel) (by decide +kernel)
theorem tw_581 : Cond.fieldLink RX6 100 "WaxInEarsModel" "isPassage" "Z" ∈ lw_good := tw_in (i := 581) (by decide +kernel) (by decide +kernel)
theorem tw_582 : Cond.fieldLink RX6 103 "WaxInEarsModel" "passages" "I" ∈ lw_good := tw_in (i := 582) (by decide +kernel) (by decide +kernel)
theorem tw_583 : Cond.fieldLink RX6 91 "WaxInEarsModel" "need" "I" ∈ lw_good := tw_in (i := 583) (by decide +kernel) (by decide +kernel)
theorem tw_584 : Cond.fieldLink RX6 94 "WaxInEarsModel" "noon" "I" ∈ lw_good := tw_in (i := 584) (by decide +kernel) (by decide +kernel)
theorem tw_585 : Cond.fieldLink RX6 97 "WaxInEarsModel" "places" "I" ∈ lw_good := tw_in (i := 585) (by decide +kernel) (by decide +kernel)
theorem tw_586 : Cond.fieldLink RX6 7 "WaxInEarsModel" "songOf" "[I" ∈ lw_good := tw_in (i := 586) (by decide +kernel) (by decide +kernel)
theorem tw_587 : Cond.fieldLink RX6 13 "WaxInEarsModel" "rockOf" "[I" ∈ lw_good := tw_in (i := 587) (by decide +kernel) (by decide +kernel)
theorem tw_588 : Cond.fieldLink RX6 106 "WaxInEarsModel" "men" "I" ∈ lw_good := tw_in (i := 588) (by decide +kernel) (by decide +kernel)
theorem tw_589 : Cond.fieldLink RX6 16 "WaxInEarsModel" "kindOf" "[I" ∈ lw_good := tw_in (i := 589) (by decide +kernel) (by decide +kernel)
theorem tw_590 : Cond.fieldLink RX6 19 "WaxInEarsModel" "oarOf" "[I" ∈ lw_good := tw_in (i := 590) (by decide +kernel) (by decide +kernel)
theorem tw_591 : Cond.fieldLink RX6 22 "WaxInEarsModel" "willOf" "[I" ∈ lw_good := tw_in (i := 591) (by decide +kernel) (by decide +kernel)
theorem tw_592 : Cond.fieldLink RX6 25 "WaxInEarsModel" "knotsOf" "[I" ∈ lw_good := tw_in (i := 592) (by decide +kernel) (by decide +kernel)
theorem tw_593 : Cond.fieldLink RX6 112 "WaxInEarsModel" "waxSet" "I" ∈ lw_good := tw_in (i := 593) (by decide +kernel) (by decide +kernel)
theorem tw_594 : Cond.fieldLink RX6 118 "WaxInEarsModel" "lostSet" "I" ∈ lw_good := tw_in (i := 594) (by decide +kernel) (by decide +kernel)
theorem tw_595 : Cond.fieldLink RX6 121 "WaxInEarsModel" "place" "I" ∈ lw_good := tw_in (i := 595) (by decide +kernel) (by decide +kernel)
theorem tw_596 : Cond.fieldLink RX6 124 "WaxInEarsModel" "stroke" "I" ∈ lw_good := tw_in (i := 596) (by decide +kernel) (by decide +kernel)
theorem tw_597 : Cond.fieldLink RX6 127 "WaxInEarsModel" "how" "I" ∈ lw_good := tw_in (i := 597) (by decide +kernel) (by decide +kernel)
theorem tw_598 : Cond.fieldLink RX6 147 "WaxInEarsModel" "swamSet" "I" ∈ lw_good := tw_in (i := 598) (by decide +kernel) (by decide +kernel)
theorem tw_599 : Cond.fieldLink RX6 109 "WaxInEarsModel" "logged" "I" ∈ lw_good := tw_in (i := 599) (by decide +kernel) (by decide +kernel)
theorem tw_600 : Cond.fieldLink RX6 28 "WaxInEarsModel" "logOf" "[I" ∈ lw_good := tw_in (i := 600) (by decide +kernel) (by decide +kernel)
theorem tw_601 : Cond.fieldLink RX6 60 "WaxInEarsModel" "pageLength" "I" ∈ lw_good := tw_in (i := 601) (by decide +kernel) (by decide +kernel)
theorem tw_602 : Cond.fieldLink RX6 31 "WaxInEarsModel" "page" "[B" ∈ lw_good := tw_in (i := 602) (by decide +kernel) (by decide +kernel)
theorem tw_603 : Cond.fieldLink RX6 81 "WaxInEarsModel" "faultAt" "I" ∈ lw_good := tw_in (i := 603) (by decide +kernel) (by decide +kernel)
theorem tw_604 : Cond.fieldLink RX6 84 "WaxInEarsModel" "isWhole" "Z" ∈ lw_good := tw_in (i := 604) (by decide +kernel) (by decide +kernel)
theorem tw_605 : Cond.fieldLink RX6 64 "WaxInEarsModel" "newNeed" "I" ∈ lw_good := tw_in (i := 605) (by decide +kernel) (by decide +kernel)
theorem tw_606 : Cond.fieldLink RX6 67 "WaxInEarsModel" "newNoon" "I" ∈ lw_good := tw_in (i := 606) (by decide +kernel) (by decide +kernel)
theorem tw_607 : Cond.fieldLink RX6 70 "WaxInEarsModel" "newPlaces" "I" ∈ lw_good := tw_in (i := 607) (by decide +kernel) (by decide +kernel)
theorem tw_608 : Cond.fieldLink RX6 35 "WaxInEarsModel" "newSong" "[I" ∈ lw_good := tw_in (i := 608) (by decide +kernel) (by decide +kernel)
theorem tw_609 : Cond.fieldLink RX6 38 "WaxInEarsModel" "newRock" "[I" ∈ lw_good := tw_in (i := 609) (by decide +kernel) (by decide +kernel)
theorem tw_610 : Cond.fieldLink RX6 173 "WaxInEarsModel" "savedWax" "I" ∈ lw_good := tw_in (i := 610) (by decide +kernel) (by decide +kernel)
theorem tw_611 : Cond.fieldLink RX6 176 "WaxInEarsModel" "savedLost" "I" ∈ lw_good := tw_in (i := 611) (by decide +kernel) (by decide +kernel)
theorem tw_612 : Cond.fieldLink RX6 179 "WaxInEarsModel" "savedPlace" "I" ∈ lw_good := tw_in (i := 612) (by decide +kernel) (by decide +kernel)
theorem tw_613 : Cond.fieldLink RX6 182 "WaxInEarsModel" "savedStroke" "I" ∈ lw_good := tw_in (i := 613) (by decide +kernel) (by decide +kernel)
theorem tw_614 : Cond.fieldLink RX6 185 "WaxInEarsModel" "savedHow" "I" ∈ lw_good := tw_in (i := 614) (by decide +kernel) (by decide +kernel)
theorem tw_615 : Cond.fieldLink RX6 41 "WaxInEarsModel" "savedKnots" "[I" ∈ lw_good := tw_in (i := 615) (by decide +kernel) (by decide +kernel)
theorem tw_616 : Cond.fieldLink RX6 44 "WaxInEarsModel" "savedSong" "[I" ∈ lw_good := tw_in (i := 616) (by decide +kernel) (by decide +kernel)
theorem tw_617 : Cond.fieldLink RX6 47 "WaxInEarsModel" "hadOf" "[I" ∈ lw_good := tw_in (i := 617) (by decide +kernel) (by decide +kernel)
theorem tw_618 : Cond.fieldLink RX6 229 "WaxInEarsModel" "seedNow" "J" ∈ lw_good := tw_in (i := 618) (by decide +kernel) (by decide +kernel)
theorem tw_619 : Cond.fieldLink RX6 246 "WaxInEarsModel" "isKept" "Z" ∈ lw_good := tw_in (i := 619) (by decide +kernel) (by decide +kernel)
theorem tw_620 : Cond.fieldLink RX6 249 "WaxInEarsModel" "keptPassage" "I" ∈ lw_good := tw_in (i := 620) (by decide +kernel) (by decide +kernel)
theorem tw_621 : Cond.fieldLink RX6 252 "WaxInEarsModel" "keptMen" "I" ∈ lw_good := tw_in (i := 621) (by decide +kernel) (by decide +kernel)
theorem tw_622 : Cond.fieldLink RX6 255 "WaxInEarsModel" "keptWax" "I" ∈ lw_good := tw_in (i := 622) (by decide +kernel) (by decide +kernel)
theorem tw_623 : Cond.fieldLink RX6 258 "WaxInEarsModel" "keptLost" "I" ∈ lw_good := tw_in (i := 623) (by decide +kernel) (by decide +kernel)
theorem tw_624 : Cond.fieldLink RX6 261 "WaxInEarsModel" "keptPlace" "I" ∈ lw_good := tw_in (i := 624) (by decide +kernel) (by decide +kernel)
theorem tw_625 : Cond.fieldLink RX6 264 "WaxInEarsModel" "keptStroke" "I" ∈ lw_good := tw_in (i := 625) (by decide +kernel) (by decide +kernel)
theorem tw_626 : Cond.fieldLink RX6 267 "WaxInEarsModel" "keptHow" "I" ∈ lw_good := tw_in (i := 626) (by decide +kernel) (by decide +kernel)
theorem tw_627 : Cond.fieldLink RX6 270 "WaxInEarsModel" "keptLogged" "I" ∈ lw_good := tw_in (i := 627) (by decide +kernel) (by decide +kernel)
theorem tw_628 : Cond.fieldLink RX6 50 "WaxInEarsModel" "keptKnots" "[I" ∈ lw_good := tw_in (i := 628) (by decide +kernel) (by decide +kernel)
theorem tw_629 : Cond.fieldLink RX6 53 "WaxInEarsModel" "keptLogOf" "[I" ∈ lw_good := tw_in (i := 629) (by decide +kernel) (by decide +kernel)
theorem tw_630 : Cond.fieldLink RX6 278 "WaxInEarsModel" "h" "J" ∈ lw_good := tw_in (i := 630) (by decide +kernel) (by decide +kernel)
theorem tw_732 : Cond.arrayClass .byte ∈ lw_good := tw_in (i := 732) (by decide +kernel) (by decide +kernel)
theorem tw_733 : Cond.methodLink RL 17 yX6_letter ∈ lw_good := tw_in (i := 733) (by decide +kernel) (by decide +kernel)
theorem tw_734 : Cond.instanceMethod yX6_letter ∈ lw_good := tw_in (i := 734) (by decide +kernel) (by decide +kernel)
theorem tw_735 : Cond.selects RX6 yX6_letter yX6_letter ∈ lw_good := tw_in (i := 735) (by decide +kernel) (by decide +kernel)
theorem tw_736 : Cond.code yX6_letter cX6_letter 2 (some .int) ∈ lw_good := tw_in (i := 736) (by decide +kernel) (by decide +kernel)
theorem tw_737 : Cond.methodLink RX6 56 yX6_within ∈ lw_good := tw_in (i := 737) (by decide +kernel) (by decide +kernel)
theorem tw_738 : Cond.static yX6_within ∈ lw_good := tw_in (i := 738) (by decide +kernel) (by decide +kernel)
theorem tw_739 : Cond.code yX6_within cX6_within 3 (some .boolean) ∈ lw_good := tw_in (i := 739) (by decide +kernel) (by decide +kernel)
theorem tw_740 : Cond.methodLink RL 22 yX6_blank ∈ lw_good := tw_in (i := 740) (by decide +kernel) (by decide +kernel)
theorem tw_741 : Cond.instanceMethod yX6_blank ∈ lw_good := tw_in (i := 741) (by decide +kernel) (by decide +kernel)
theorem tw_742 : Cond.selects RX6 yX6_blank yX6_blank ∈ lw_good := tw_in (i := 742) (by decide +kernel) (by decide +kernel)
theorem tw_743 : Cond.code yX6_blank cX6_blank 2 (some .int) ∈ lw_good := tw_in (i := 743) (by decide +kernel) (by decide +kernel)
theorem tw_744 : Cond.methodLink RL 26 yX6_fault ∈ lw_good := tw_in (i := 744) (by decide +kernel) (by decide +kernel)
theorem tw_745 : Cond.instanceMethod yX6_fault ∈ lw_good := tw_in (i := 745) (by decide +kernel) (by decide +kernel)
theorem tw_746 : Cond.selects RX6 yX6_fault yX6_fault ∈ lw_good := tw_in (i := 746) (by decide +kernel) (by decide +kernel)
theorem tw_747 : Cond.code yX6_fault cX6_fault 1 (some .int) ∈ lw_good := tw_in (i := 747) (by decide +kernel) (by decide +kernel)
theorem tw_748 : Cond.methodLink RX6 88 yX6_readPassage ∈ lw_good := tw_in (i := 748) (by decide +kernel) (by decide +kernel)
theorem tw_750 : Cond.instanceMethod yX6_readPassage ∈ lw_good := tw_in (i := 750) (by decide +kernel) (by decide +kernel)
theorem tw_751 : Cond.code yX6_readPassage cX6_readPassage 5 none ∈ lw_good := tw_in (i := 751) (by decide +kernel) (by decide +kernel)
theorem tw_752 : Cond.methodLink RX6 77 yX6_nextState ∈ lw_good := tw_in (i := 752) (by decide +kernel) (by decide +kernel)
theorem tw_754 : Cond.instanceMethod yX6_nextState ∈ lw_good := tw_in (i := 754) (by decide +kernel) (by decide +kernel)
theorem tw_755 : Cond.code yX6_nextState cX6_nextState 4 (some .int) ∈ lw_good := tw_in (i := 755) (by decide +kernel) (by decide +kernel)
theorem tw_756 : Cond.methodLink RX6 73 yX6_placeState ∈ lw_good := tw_in (i := 756) (by decide +kernel) (by decide +kernel)
theorem tw_758 : Cond.instanceMethod yX6_placeState ∈ lw_good := tw_in (i := 758) (by decide +kernel) (by decide +kernel)
theorem tw_759 : Cond.code yX6_placeState cX6_placeState 3 (some .int) ∈ lw_good := tw_in (i := 759) (by decide +kernel) (by decide +kernel)
theorem tw_760 : Cond.methodLink RL 30 yX6_passage ∈ lw_good := tw_in (i := 760) (by decide +kernel) (by decide +kernel)
theorem tw_761 : Cond.instanceMethod yX6_passage ∈ lw_good := tw_in (i := 761) (by decide +kernel) (by decide +kernel)
theorem tw_762 : Cond.selects RX6 yX6_passage yX6_passage ∈ lw_good := tw_in (i := 762) (by decide +kernel) (by decide +kernel)
theorem tw_763 : Cond.code yX6_passage cX6_passage 2 (some .int) ∈ lw_good := tw_in (i := 763) (by decide +kernel) (by decide +kernel)
theorem tw_764 : Cond.methodLink RX6 115 yX6_begin ∈ lw_good := tw_in (i := 764) (by decide +kernel) (by decide +kernel)
theorem tw_766 : Cond.instanceMethod yX6_begin ∈ lw_good := tw_in (i := 766) (by decide +kernel) (by decide +kernel)
theorem tw_767 : Cond.code yX6_begin cX6_begin 1 none ∈ lw_good := tw_in (i := 767) (by decide +kernel) (by decide +kernel)
theorem tw_768 : Cond.methodLink RL 35 yX6_place ∈ lw_good := tw_in (i := 768) (by decide +kernel) (by decide +kernel)
theorem tw_769 : Cond.instanceMethod yX6_place ∈ lw_good := tw_in (i := 769) (by decide +kernel) (by decide +kernel)
theorem tw_770 : Cond.selects RX6 yX6_place yX6_place ∈ lw_good := tw_in (i := 770) (by decide +kernel) (by decide +kernel)
theorem tw_771 : Cond.code yX6_place cX6_place 3 (some .int) ∈ lw_good := tw_in (i := 771) (by decide +kernel) (by decide +kernel)
theorem tw_772 : Cond.methodLink RL 40 yX6_man ∈ lw_good := tw_in (i := 772) (by decide +kernel) (by decide +kernel)
theorem tw_773 : Cond.instanceMethod yX6_man ∈ lw_good := tw_in (i := 773) (by decide +kernel) (by decide +kernel)
theorem tw_774 : Cond.selects RX6 yX6_man yX6_man ∈ lw_good := tw_in (i := 774) (by decide +kernel) (by decide +kernel)
theorem tw_775 : Cond.code yX6_man cX6_man 4 (some .int) ∈ lw_good := tw_in (i := 775) (by decide +kernel) (by decide +kernel)
theorem tw_776 : Cond.methodLink RL 44 yX6_about ∈ lw_good := tw_in (i := 776) (by decide +kernel) (by decide +kernel)
theorem tw_777 : Cond.instanceMethod yX6_about ∈ lw_good := tw_in (i := 777) (by decide +kernel) (by decide +kernel)
theorem tw_778 : Cond.selects RX6 yX6_about yX6_about ∈ lw_good := tw_in (i := 778) (by decide +kernel) (by decide +kernel)
theorem tw_779 : Cond.code yX6_about cX6_about 3 (some .int) ∈ lw_good := tw_in (i := 779) (by decide +kernel) (by decide +kernel)
theorem tw_780 : Cond.methodLink RX6 141 yX6_isMan ∈ lw_good := tw_in (i := 780) (by decide +kernel) (by decide +kernel)
theorem tw_782 : Cond.instanceMethod yX6_isMan ∈ lw_good := tw_in (i := 782) (by decide +kernel) (by decide +kernel)
theorem tw_783 : Cond.code yX6_isMan cX6_isMan 2 (some .boolean) ∈ lw_good := tw_in (i := 783) (by decide +kernel) (by decide +kernel)
theorem tw_784 : Cond.methodLink RX6 144 yX6_manNow ∈ lw_good := tw_in (i := 784) (by decide +kernel) (by decide +kernel)
theorem tw_786 : Cond.instanceMethod yX6_manNow ∈ lw_good := tw_in (i := 786) (by decide +kernel) (by decide +kernel)
theorem tw_787 : Cond.code yX6_manNow cX6_manNow 3 (some .int) ∈ lw_good := tw_in (i := 787) (by decide +kernel) (by decide +kernel)
theorem tw_788 : Cond.methodLink RX6 134 yX6_hears ∈ lw_good := tw_in (i := 788) (by decide +kernel) (by decide +kernel)
theorem tw_790 : Cond.instanceMethod yX6_hears ∈ lw_good := tw_in (i := 790) (by decide +kernel) (by decide +kernel)
theorem tw_791 : Cond.code yX6_hears cX6_hears 2 (some .boolean) ∈ lw_good := tw_in (i := 791) (by decide +kernel) (by decide +kernel)
theorem tw_792 : Cond.methodLink RX6 130 yX6_has ∈ lw_good := tw_in (i := 792) (by decide +kernel) (by decide +kernel)
theorem tw_793 : Cond.static yX6_has ∈ lw_good := tw_in (i := 793) (by decide +kernel) (by decide +kernel)
theorem tw_794 : Cond.code yX6_has cX6_has 2 (some .boolean) ∈ lw_good := tw_in (i := 794) (by decide +kernel) (by decide +kernel)
theorem tw_795 : Cond.methodLink RX6 138 yX6_holds ∈ lw_good := tw_in (i := 795) (by decide +kernel) (by decide +kernel)
theorem tw_797 : Cond.instanceMethod yX6_holds ∈ lw_good := tw_in (i := 797) (by decide +kernel) (by decide +kernel)
theorem tw_798 : Cond.code yX6_holds cX6_holds 2 (some .int) ∈ lw_good := tw_in (i := 798) (by decide +kernel) (by decide +kernel)
theorem tw_799 : Cond.methodLink RL 48 yX6_as ∈ lw_good := tw_in (i := 799) (by decide +kernel) (by decide +kernel)
theorem tw_800 : Cond.instanceMethod yX6_as ∈ lw_good := tw_in (i := 800) (by decide +kernel) (by decide +kernel)
theorem tw_801 : Cond.selects RX6 yX6_as yX6_as ∈ lw_good := tw_in (i := 801) (by decide +kernel) (by decide +kernel)
theorem tw_802 : Cond.code yX6_as cX6_as 4 (some .int) ∈ lw_good := tw_in (i := 802) (by decide +kernel) (by decide +kernel)
theorem tw_803 : Cond.methodLink RL 53 yX6_wax ∈ lw_good := tw_in (i := 803) (by decide +kernel) (by decide +kernel)
theorem tw_804 : Cond.instanceMethod yX6_wax ∈ lw_good := tw_in (i := 804) (by decide +kernel) (by decide +kernel)
theorem tw_805 : Cond.selects RX6 yX6_wax yX6_wax ∈ lw_good := tw_in (i := 805) (by decide +kernel) (by decide +kernel)
theorem tw_806 : Cond.code yX6_wax cX6_wax 4 (some .int) ∈ lw_good := tw_in (i := 806) (by decide +kernel) (by decide +kernel)
theorem tw_807 : Cond.methodLink RL 57 yX6_bind ∈ lw_good := tw_in (i := 807) (by decide +kernel) (by decide +kernel)
theorem tw_808 : Cond.instanceMethod yX6_bind ∈ lw_good := tw_in (i := 808) (by decide +kernel) (by decide +kernel)
theorem tw_809 : Cond.selects RX6 yX6_bind yX6_bind ∈ lw_good := tw_in (i := 809) (by decide +kernel) (by decide +kernel)
theorem tw_810 : Cond.code yX6_bind cX6_bind 4 (some .int) ∈ lw_good := tw_in (i := 810) (by decide +kernel) (by decide +kernel)
theorem tw_811 : Cond.methodLink RL 61 yX6_stroke ∈ lw_good := tw_in (i := 811) (by decide +kernel) (by decide +kernel)
theorem tw_812 : Cond.instanceMethod yX6_stroke ∈ lw_good := tw_in (i := 812) (by decide +kernel) (by decide +kernel)
theorem tw_813 : Cond.selects RX6 yX6_stroke yX6_stroke ∈ lw_good := tw_in (i := 813) (by decide +kernel) (by decide +kernel)
theorem tw_814 : Cond.code yX6_stroke cX6_stroke 1 (some .int) ∈ lw_good := tw_in (i := 814) (by decide +kernel) (by decide +kernel)
theorem tw_815 : Cond.methodLink RX6 167 yX6_isOn ∈ lw_good := tw_in (i := 815) (by decide +kernel) (by decide +kernel)
theorem tw_817 : Cond.instanceMethod yX6_isOn ∈ lw_good := tw_in (i := 817) (by decide +kernel) (by decide +kernel)
theorem tw_818 : Cond.code yX6_isOn cX6_isOn 1 (some .boolean) ∈ lw_good := tw_in (i := 818) (by decide +kernel) (by decide +kernel)
theorem tw_819 : Cond.methodLink RX6 170 yX6_goStroke ∈ lw_good := tw_in (i := 819) (by decide +kernel) (by decide +kernel)
theorem tw_821 : Cond.instanceMethod yX6_goStroke ∈ lw_good := tw_in (i := 821) (by decide +kernel) (by decide +kernel)
theorem tw_822 : Cond.code yX6_goStroke cX6_goStroke 2 none ∈ lw_good := tw_in (i := 822) (by decide +kernel) (by decide +kernel)
theorem tw_823 : Cond.methodLink RX6 150 yX6_swims ∈ lw_good := tw_in (i := 823) (by decide +kernel) (by decide +kernel)
theorem tw_825 : Cond.instanceMethod yX6_swims ∈ lw_good := tw_in (i := 825) (by decide +kernel) (by decide +kernel)
theorem tw_826 : Cond.code yX6_swims cX6_swims 4 (some .boolean) ∈ lw_good := tw_in (i := 826) (by decide +kernel) (by decide +kernel)
theorem tw_827 : Cond.methodLink RX6 153 yX6_everybody ∈ lw_good := tw_in (i := 827) (by decide +kernel) (by decide +kernel)
theorem tw_829 : Cond.instanceMethod yX6_everybody ∈ lw_good := tw_in (i := 829) (by decide +kernel) (by decide +kernel)
theorem tw_830 : Cond.code yX6_everybody cX6_everybody 1 (some .int) ∈ lw_good := tw_in (i := 830) (by decide +kernel) (by decide +kernel)
theorem tw_831 : Cond.methodLink RX6 157 yX6_anyHears ∈ lw_good := tw_in (i := 831) (by decide +kernel) (by decide +kernel)
theorem tw_833 : Cond.instanceMethod yX6_anyHears ∈ lw_good := tw_in (i := 833) (by decide +kernel) (by decide +kernel)
theorem tw_834 : Cond.code yX6_anyHears cX6_anyHears 3 (some .boolean) ∈ lw_good := tw_in (i := 834) (by decide +kernel) (by decide +kernel)
theorem tw_835 : Cond.methodLink RX6 161 yX6_anySees ∈ lw_good := tw_in (i := 835) (by decide +kernel) (by decide +kernel)
theorem tw_837 : Cond.instanceMethod yX6_anySees ∈ lw_good := tw_in (i := 837) (by decide +kernel) (by decide +kernel)
theorem tw_838 : Cond.code yX6_anySees cX6_anySees 4 (some .boolean) ∈ lw_good := tw_in (i := 838) (by decide +kernel) (by decide +kernel)
theorem tw_839 : Cond.methodLink RX6 164 yX6_oars ∈ lw_good := tw_in (i := 839) (by decide +kernel) (by decide +kernel)
theorem tw_841 : Cond.instanceMethod yX6_oars ∈ lw_good := tw_in (i := 841) (by decide +kernel) (by decide +kernel)
theorem tw_842 : Cond.code yX6_oars cX6_oars 3 (some .int) ∈ lw_good := tw_in (i := 842) (by decide +kernel) (by decide +kernel)
theorem tw_843 : Cond.methodLink RL 65 yX6_outcome ∈ lw_good := tw_in (i := 843) (by decide +kernel) (by decide +kernel)
theorem tw_844 : Cond.instanceMethod yX6_outcome ∈ lw_good := tw_in (i := 844) (by decide +kernel) (by decide +kernel)
theorem tw_845 : Cond.selects RX6 yX6_outcome yX6_outcome ∈ lw_good := tw_in (i := 845) (by decide +kernel) (by decide +kernel)
theorem tw_846 : Cond.code yX6_outcome cX6_outcome 2 (some .int) ∈ lw_good := tw_in (i := 846) (by decide +kernel) (by decide +kernel)
theorem tw_847 : Cond.methodLink RX6 200 yX6_outcomeNow ∈ lw_good := tw_in (i := 847) (by decide +kernel) (by decide +kernel)
theorem tw_849 : Cond.instanceMethod yX6_outcomeNow ∈ lw_good := tw_in (i := 849) (by decide +kernel) (by decide +kernel)
theorem tw_850 : Cond.code yX6_outcomeNow cX6_outcomeNow 3 (some .int) ∈ lw_good := tw_in (i := 850) (by decide +kernel) (by decide +kernel)
theorem tw_851 : Cond.methodLink RX6 191 yX6_save ∈ lw_good := tw_in (i := 851) (by decide +kernel) (by decide +kernel)
theorem tw_853 : Cond.instanceMethod yX6_save ∈ lw_good := tw_in (i := 853) (by decide +kernel) (by decide +kernel)
theorem tw_854 : Cond.code yX6_save cX6_save 2 none ∈ lw_good := tw_in (i := 854) (by decide +kernel) (by decide +kernel)
theorem tw_855 : Cond.methodLink RX6 194 yX6_goOn ∈ lw_good := tw_in (i := 855) (by decide +kernel) (by decide +kernel)
theorem tw_857 : Cond.instanceMethod yX6_goOn ∈ lw_good := tw_in (i := 857) (by decide +kernel) (by decide +kernel)
theorem tw_858 : Cond.code yX6_goOn cX6_goOn 2 none ∈ lw_good := tw_in (i := 858) (by decide +kernel) (by decide +kernel)
theorem tw_859 : Cond.methodLink RX6 188 yX6_size ∈ lw_good := tw_in (i := 859) (by decide +kernel) (by decide +kernel)
theorem tw_860 : Cond.static yX6_size ∈ lw_good := tw_in (i := 860) (by decide +kernel) (by decide +kernel)
theorem tw_861 : Cond.code yX6_size cX6_size 3 (some .int) ∈ lw_good := tw_in (i := 861) (by decide +kernel) (by decide +kernel)
theorem tw_862 : Cond.methodLink RX6 197 yX6_back ∈ lw_good := tw_in (i := 862) (by decide +kernel) (by decide +kernel)
theorem tw_864 : Cond.instanceMethod yX6_back ∈ lw_good := tw_in (i := 864) (by decide +kernel) (by decide +kernel)
theorem tw_865 : Cond.code yX6_back cX6_back 2 none ∈ lw_good := tw_in (i := 865) (by decide +kernel) (by decide +kernel)
theorem tw_866 : Cond.methodLink RL 69 yX6_waxing ∈ lw_good := tw_in (i := 866) (by decide +kernel) (by decide +kernel)
theorem tw_867 : Cond.instanceMethod yX6_waxing ∈ lw_good := tw_in (i := 867) (by decide +kernel) (by decide +kernel)
theorem tw_868 : Cond.selects RX6 yX6_waxing yX6_waxing ∈ lw_good := tw_in (i := 868) (by decide +kernel) (by decide +kernel)
theorem tw_869 : Cond.code yX6_waxing cX6_waxing 3 (some .int) ∈ lw_good := tw_in (i := 869) (by decide +kernel) (by decide +kernel)
theorem tw_870 : Cond.methodLink RX6 206 yX6_waxingNow ∈ lw_good := tw_in (i := 870) (by decide +kernel) (by decide +kernel)
theorem tw_872 : Cond.instanceMethod yX6_waxingNow ∈ lw_good := tw_in (i := 872) (by decide +kernel) (by decide +kernel)
theorem tw_873 : Cond.code yX6_waxingNow cX6_waxingNow 7 (some .int) ∈ lw_good := tw_in (i := 873) (by decide +kernel) (by decide +kernel)
theorem tw_874 : Cond.methodLink RX6 203 yX6_badness ∈ lw_good := tw_in (i := 874) (by decide +kernel) (by decide +kernel)
theorem tw_876 : Cond.instanceMethod yX6_badness ∈ lw_good := tw_in (i := 876) (by decide +kernel) (by decide +kernel)
theorem tw_877 : Cond.code yX6_badness cX6_badness 1 (some .int) ∈ lw_good := tw_in (i := 877) (by decide +kernel) (by decide +kernel)
theorem tw_878 : Cond.methodLink RL 73 yX6_hold ∈ lw_good := tw_in (i := 878) (by decide +kernel) (by decide +kernel)
theorem tw_879 : Cond.instanceMethod yX6_hold ∈ lw_good := tw_in (i := 879) (by decide +kernel) (by decide +kernel)
theorem tw_880 : Cond.selects RX6 yX6_hold yX6_hold ∈ lw_good := tw_in (i := 880) (by decide +kernel) (by decide +kernel)
theorem tw_881 : Cond.code yX6_hold cX6_hold 2 (some .int) ∈ lw_good := tw_in (i := 881) (by decide +kernel) (by decide +kernel)
theorem tw_882 : Cond.methodLink RX6 209 yX6_holdNow ∈ lw_good := tw_in (i := 882) (by decide +kernel) (by decide +kernel)
theorem tw_884 : Cond.instanceMethod yX6_holdNow ∈ lw_good := tw_in (i := 884) (by decide +kernel) (by decide +kernel)
theorem tw_885 : Cond.code yX6_holdNow cX6_holdNow 4 (some .int) ∈ lw_good := tw_in (i := 885) (by decide +kernel) (by decide +kernel)
theorem tw_886 : Cond.methodLink RL 77 yX6_listener ∈ lw_good := tw_in (i := 886) (by decide +kernel) (by decide +kernel)
theorem tw_887 : Cond.instanceMethod yX6_listener ∈ lw_good := tw_in (i := 887) (by decide +kernel) (by decide +kernel)
theorem tw_888 : Cond.selects RX6 yX6_listener yX6_listener ∈ lw_good := tw_in (i := 888) (by decide +kernel) (by decide +kernel)
theorem tw_889 : Cond.code yX6_listener cX6_listener 1 (some .int) ∈ lw_good := tw_in (i := 889) (by decide +kernel) (by decide +kernel)
theorem tw_890 : Cond.methodLink RX6 212 yX6_listenerNow ∈ lw_good := tw_in (i := 890) (by decide +kernel) (by decide +kernel)
theorem tw_892 : Cond.instanceMethod yX6_listenerNow ∈ lw_good := tw_in (i := 892) (by decide +kernel) (by decide +kernel)
theorem tw_893 : Cond.code yX6_listenerNow cX6_listenerNow 5 (some .int) ∈ lw_good := tw_in (i := 893) (by decide +kernel) (by decide +kernel)
theorem tw_894 : Cond.methodLink RL 81 yX6_sold ∈ lw_good := tw_in (i := 894) (by decide +kernel) (by decide +kernel)
theorem tw_895 : Cond.instanceMethod yX6_sold ∈ lw_good := tw_in (i := 895) (by decide +kernel) (by decide +kernel)
theorem tw_896 : Cond.selects RX6 yX6_sold yX6_sold ∈ lw_good := tw_in (i := 896) (by decide +kernel) (by decide +kernel)
theorem tw_897 : Cond.code yX6_sold cX6_sold 1 (some .int) ∈ lw_good := tw_in (i := 897) (by decide +kernel) (by decide +kernel)
theorem tw_898 : Cond.methodLink RX6 215 yX6_soldNow ∈ lw_good := tw_in (i := 898) (by decide +kernel) (by decide +kernel)
theorem tw_900 : Cond.instanceMethod yX6_soldNow ∈ lw_good := tw_in (i := 900) (by decide +kernel) (by decide +kernel)
theorem tw_901 : Cond.code yX6_soldNow cX6_soldNow 3 (some .int) ∈ lw_good := tw_in (i := 901) (by decide +kernel) (by decide +kernel)
theorem tw_902 : Cond.methodLink RL 85 yX6_log ∈ lw_good := tw_in (i := 902) (by decide +kernel) (by decide +kernel)
theorem tw_903 : Cond.instanceMethod yX6_log ∈ lw_good := tw_in (i := 903) (by decide +kernel) (by decide +kernel)
theorem tw_904 : Cond.selects RX6 yX6_log yX6_log ∈ lw_good := tw_in (i := 904) (by decide +kernel) (by decide +kernel)
theorem tw_905 : Cond.code yX6_log cX6_log 2 (some .int) ∈ lw_good := tw_in (i := 905) (by decide +kernel) (by decide +kernel)
theorem tw_906 : Cond.methodLink RL 89 yX6_forget ∈ lw_good := tw_in (i := 906) (by decide +kernel) (by decide +kernel)
theorem tw_907 : Cond.instanceMethod yX6_forget ∈ lw_good := tw_in (i := 907) (by decide +kernel) (by decide +kernel)
theorem tw_908 : Cond.selects RX6 yX6_forget yX6_forget ∈ lw_good := tw_in (i := 908) (by decide +kernel) (by decide +kernel)
theorem tw_909 : Cond.code yX6_forget cX6_forget 2 (some .int) ∈ lw_good := tw_in (i := 909) (by decide +kernel) (by decide +kernel)
theorem tw_910 : Cond.methodLink RL 93 yX6_fits ∈ lw_good := tw_in (i := 910) (by decide +kernel) (by decide +kernel)
theorem tw_911 : Cond.instanceMethod yX6_fits ∈ lw_good := tw_in (i := 911) (by decide +kernel) (by decide +kernel)
theorem tw_912 : Cond.selects RX6 yX6_fits yX6_fits ∈ lw_good := tw_in (i := 912) (by decide +kernel) (by decide +kernel)
theorem tw_913 : Cond.code yX6_fits cX6_fits 1 (some .int) ∈ lw_good := tw_in (i := 913) (by decide +kernel) (by decide +kernel)
theorem tw_914 : Cond.methodLink RX6 221 yX6_layFits ∈ lw_good := tw_in (i := 914) (by decide +kernel) (by decide +kernel)
theorem tw_916 : Cond.instanceMethod yX6_layFits ∈ lw_good := tw_in (i := 916) (by decide +kernel) (by decide +kernel)
theorem tw_917 : Cond.code yX6_layFits cX6_layFits 4 (some .int) ∈ lw_good := tw_in (i := 917) (by decide +kernel) (by decide +kernel)
theorem tw_918 : Cond.methodLink RX6 218 yX6_isLoggedSo ∈ lw_good := tw_in (i := 918) (by decide +kernel) (by decide +kernel)
theorem tw_920 : Cond.instanceMethod yX6_isLoggedSo ∈ lw_good := tw_in (i := 920) (by decide +kernel) (by decide +kernel)
theorem tw_921 : Cond.code yX6_isLoggedSo cX6_isLoggedSo 4 (some .boolean) ∈ lw_good := tw_in (i := 921) (by decide +kernel) (by decide +kernel)
theorem tw_922 : Cond.methodLink RL 97 yX6_sure ∈ lw_good := tw_in (i := 922) (by decide +kernel) (by decide +kernel)
theorem tw_923 : Cond.instanceMethod yX6_sure ∈ lw_good := tw_in (i := 923) (by decide +kernel) (by decide +kernel)
theorem tw_924 : Cond.selects RX6 yX6_sure yX6_sure ∈ lw_good := tw_in (i := 924) (by decide +kernel) (by decide +kernel)
theorem tw_925 : Cond.code yX6_sure cX6_sure 2 (some .int) ∈ lw_good := tw_in (i := 925) (by decide +kernel) (by decide +kernel)
theorem tw_926 : Cond.methodLink RX6 224 yX6_sureNow ∈ lw_good := tw_in (i := 926) (by decide +kernel) (by decide +kernel)
theorem tw_928 : Cond.instanceMethod yX6_sureNow ∈ lw_good := tw_in (i := 928) (by decide +kernel) (by decide +kernel)
theorem tw_929 : Cond.code yX6_sureNow cX6_sureNow 3 (some .int) ∈ lw_good := tw_in (i := 929) (by decide +kernel) (by decide +kernel)
theorem tw_930 : Cond.methodLink RL 101 yX6_voyages ∈ lw_good := tw_in (i := 930) (by decide +kernel) (by decide +kernel)
theorem tw_931 : Cond.instanceMethod yX6_voyages ∈ lw_good := tw_in (i := 931) (by decide +kernel) (by decide +kernel)
theorem tw_932 : Cond.selects RX6 yX6_voyages yX6_voyages ∈ lw_good := tw_in (i := 932) (by decide +kernel) (by decide +kernel)
theorem tw_933 : Cond.code yX6_voyages cX6_voyages 4 (some .int) ∈ lw_good := tw_in (i := 933) (by decide +kernel) (by decide +kernel)
theorem tw_934 : Cond.methodLink RX6 242 yX6_voyagesNow ∈ lw_good := tw_in (i := 934) (by decide +kernel) (by decide +kernel)
theorem tw_936 : Cond.instanceMethod yX6_voyagesNow ∈ lw_good := tw_in (i := 936) (by decide +kernel) (by decide +kernel)
theorem tw_937 : Cond.code yX6_voyagesNow cX6_voyagesNow 8 (some .int) ∈ lw_good := tw_in (i := 937) (by decide +kernel) (by decide +kernel)
theorem tw_938 : Cond.methodLink RX6 239 yX6_draw ∈ lw_good := tw_in (i := 938) (by decide +kernel) (by decide +kernel)
theorem tw_940 : Cond.instanceMethod yX6_draw ∈ lw_good := tw_in (i := 940) (by decide +kernel) (by decide +kernel)
theorem tw_941 : Cond.code yX6_draw cX6_draw 2 (some .int) ∈ lw_good := tw_in (i := 941) (by decide +kernel) (by decide +kernel)
theorem tw_942 : Cond.constantLong RX6 227 1103515245 ∈ lw_good := tw_in (i := 942) (by decide +kernel) (by decide +kernel)
theorem tw_943 : Cond.constantLong RX6 233 12345 ∈ lw_good := tw_in (i := 943) (by decide +kernel) (by decide +kernel)
theorem tw_944 : Cond.constantLong RX6 235 2147483647 ∈ lw_good := tw_in (i := 944) (by decide +kernel) (by decide +kernel)
theorem tw_945 : Cond.constantLong RX6 237 65536 ∈ lw_good := tw_in (i := 945) (by decide +kernel) (by decide +kernel)
theorem tw_946 : Cond.methodLink RL 105 yX6_image ∈ lw_good := tw_in (i := 946) (by decide +kernel) (by decide +kernel)
theorem tw_947 : Cond.instanceMethod yX6_image ∈ lw_good := tw_in (i := 947) (by decide +kernel) (by decide +kernel)
theorem tw_948 : Cond.selects RX6 yX6_image yX6_image ∈ lw_good := tw_in (i := 948) (by decide +kernel) (by decide +kernel)
theorem tw_949 : Cond.code yX6_image cX6_image 2 (some .int) ∈ lw_good := tw_in (i := 949) (by decide +kernel) (by decide +kernel)
theorem tw_950 : Cond.methodLink RL 109 yX6_restore ∈ lw_good := tw_in (i := 950) (by decide +kernel) (by decide +kernel)
theorem tw_951 : Cond.instanceMethod yX6_restore ∈ lw_good := tw_in (i := 951) (by decide +kernel) (by decide +kernel)
theorem tw_952 : Cond.selects RX6 yX6_restore yX6_restore ∈ lw_good := tw_in (i := 952) (by decide +kernel) (by decide +kernel)
theorem tw_953 : Cond.code yX6_restore cX6_restore 2 (some .int) ∈ lw_good := tw_in (i := 953) (by decide +kernel) (by decide +kernel)
theorem tw_954 : Cond.methodLink RL 113 yX6_count ∈ lw_good := tw_in (i := 954) (by decide +kernel) (by decide +kernel)
theorem tw_955 : Cond.instanceMethod yX6_count ∈ lw_good := tw_in (i := 955) (by decide +kernel) (by decide +kernel)
theorem tw_956 : Cond.selects RX6 yX6_count yX6_count ∈ lw_good := tw_in (i := 956) (by decide +kernel) (by decide +kernel)
theorem tw_957 : Cond.code yX6_count cX6_count 2 (some .int) ∈ lw_good := tw_in (i := 957) (by decide +kernel) (by decide +kernel)
theorem tw_958 : Cond.methodLink RX6 273 yX6_howMany ∈ lw_good := tw_in (i := 958) (by decide +kernel) (by decide +kernel)
theorem tw_960 : Cond.instanceMethod yX6_howMany ∈ lw_good := tw_in (i := 960) (by decide +kernel) (by decide +kernel)
theorem tw_961 : Cond.code yX6_howMany cX6_howMany 2 (some .int) ∈ lw_good := tw_in (i := 961) (by decide +kernel) (by decide +kernel)
theorem tw_962 : Cond.methodLink RL 118 yX6_digest ∈ lw_good := tw_in (i := 962) (by decide +kernel) (by decide +kernel)
theorem tw_963 : Cond.instanceMethod yX6_digest ∈ lw_good := tw_in (i := 963) (by decide +kernel) (by decide +kernel)
theorem tw_964 : Cond.selects RX6 yX6_digest yX6_digest ∈ lw_good := tw_in (i := 964) (by decide +kernel) (by decide +kernel)
theorem tw_965 : Cond.code yX6_digest cX6_digest 3 (some .long) ∈ lw_good := tw_in (i := 965) (by decide +kernel) (by decide +kernel)
theorem tw_966 : Cond.constantLong RX6 285 757 ∈ lw_good := tw_in (i := 966) (by decide +kernel) (by decide +kernel)
theorem tw_967 : Cond.methodLink RX6 281 yX6_mix ∈ lw_good := tw_in (i := 967) (by decide +kernel) (by decide +kernel)
theorem tw_969 : Cond.instanceMethod yX6_mix ∈ lw_good := tw_in (i := 969) (by decide +kernel) (by decide +kernel)
theorem tw_970 : Cond.code yX6_mix cX6_mix 3 none ∈ lw_good := tw_in (i := 970) (by decide +kernel) (by decide +kernel)
theorem tw_971 : Cond.constantLong RX6 276 31 ∈ lw_good := tw_in (i := 971) (by decide +kernel) (by decide +kernel)
theorem tw_972 : Cond.methodLink RX6 287 yX6_mixOutcome ∈ lw_good := tw_in (i := 972) (by decide +kernel) (by decide +kernel)
theorem tw_974 : Cond.instanceMethod yX6_mixOutcome ∈ lw_good := tw_in (i := 974) (by decide +kernel) (by decide +kernel)
theorem tw_975 : Cond.code yX6_mixOutcome cX6_mixOutcome 2 none ∈ lw_good := tw_in (i := 975) (by decide +kernel) (by decide +kernel)
end
section
/-! the instructions, as the claim prints them -/
theorem dX0_init_0 : decode cX0_init 0 = .ok (.aload_n 0, 1) := by decide +kernel
theorem dX0_init_1 : decode cX0_init 1 = .ok (.invokespecial 3, 3) := by decide +kernel
theorem dX0_init_4 : decode cX0_init 4 = .ok (.aload_n 0, 1) := by decide +kernel
theorem dX0_init_5 : decode cX0_init 5 = .ok (.iconst 5, 1) := by decide +kernel
theorem dX0_init_6 : decode cX0_init 6 = .ok (.newarray .int, 2) := by decide +kernel
theorem dX0_init_8 : decode cX0_init 8 = .ok (.putfield 9, 3) := by decide +kernel
theorem dX0_init_11 : decode cX0_init 11 = .ok (.aload_n 0, 1) := by decide +kernel
theorem dX0_init_12 : decode cX0_init 12 = .ok (.iconst 5, 1) := by decide +kernel
theorem dX0_init_13 : decode cX0_init 13 = .ok (.newarray .int, 2) := by decide +kernel
theorem dX0_init_15 : decode cX0_init 15 = .ok (.putfield 15, 3) := by decide +kernel
theorem dX0_init_18 : decode cX0_init 18 = .ok (.aload_n 0, 1) := by decide +kernel
theorem dX0_init_19 : decode cX0_init 19 = .ok (.iconst 5, 1) := by decide +kernel
theorem dX0_init_20 : decode cX0_init 20 = .ok (.newarray .int, 2) := by decide +kernel
theorem dX0_init_22 : decode cX0_init 22 = .ok (.putfield 18, 3) := by decide +kernel
theorem dX0_init_25 : decode cX0_init 25 = .ok (.return_, 1) := by decide +kernel
theorem dX0_add_0 : decode cX0_add 0 = .ok (.aload_n 0, 1) := by decide +kernel
theorem dX0_add_1 : decode cX0_add 1 = .ok (.getfield 21, 3) := by decide +kernel
theorem dX0_add_4 : decode cX0_add 4 = .ok (.ifCond .lt 51, 3) := by decide +kernel
theorem dX0_add_7 : decode cX0_add 7 = .ok (.aload_n 0, 1) := by decide +kernel
theorem dX0_add_8 : decode cX0_add 8 = .ok (.getfield 21, 3) := by decide +kernel
theorem dX0_add_11 : decode cX0_add 11 = .ok (.iconst 5, 1) := by decide +kernel
theorem dX0_add_12 : decode cX0_add 12 = .ok (.if_icmp .ge 43, 3) := by decide +kernel
theorem dX0_add_15 : decode cX0_add 15 = .ok (.aload_n 0, 1) := by decide +kernel
theorem dX0_add_16 : decode cX0_add 16 = .ok (.getfield 9, 3) := by decide +kernel
theorem dX0_add_19 : decode cX0_add 19 = .ok (.aload_n 0, 1) := by decide +kernel
theorem dX0_add_20 : decode cX0_add 20 = .ok (.getfield 21, 3) := by decide +kernel
theorem dX0_add_23 : decode cX0_add 23 = .ok (.iload_n 1, 1) := by decide +kernel
theorem dX0_add_24 : decode cX0_add 24 = .ok (.iastore, 1) := by decide +kernel
theorem dX0_add_25 : decode cX0_add 25 = .ok (.aload_n 0, 1) := by decide +kernel
theorem dX0_add_26 : decode cX0_add 26 = .ok (.getfield 15, 3) := by decide +kernel
theorem dX0_add_29 : decode cX0_add 29 = .ok (.aload_n 0, 1) := by decide +kernel
theorem dX0_add_30 : decode cX0_add 30 = .ok (.getfield 21, 3) := by decide +kernel
theorem dX0_add_33 : decode cX0_add 33 = .ok (.iload_n 2, 1) := by decide +kernel
theorem dX0_add_34 : decode cX0_add 34 = .ok (.iastore, 1) := by decide +kernel
theorem dX0_add_35 : decode cX0_add 35 = .ok (.aload_n 0, 1) := by decide +kernel
theorem dX0_add_36 : decode cX0_add 36 = .ok (.getfield 18, 3) := by decide +kernel
theorem dX0_add_39 : decode cX0_add 39 = .ok (.aload_n 0, 1) := by decide +kernel
theorem dX0_add_40 : decode cX0_add 40 = .ok (.getfield 21, 3) := by decide +kernel
theorem dX0_add_43 : decode cX0_add 43 = .ok (.iload_n 3, 1) := by decide +kernel
theorem dX0_add_44 : decode cX0_add 44 = .ok (.iastore, 1) := by decide +kernel
theorem dX0_add_45 : decode cX0_add 45 = .ok (.aload_n 0, 1) := by decide +kernel
theorem dX0_add_46 : decode cX0_add 46 = .ok (.dup, 1) := by decide +kernel
theorem dX0_add_47 : decode cX0_add 47 = .ok (.getfield 21, 3) := by decide +kernel
theorem dX0_add_50 : decode cX0_add 50 = .ok (.iconst 1, 1) := by decide +kernel
theorem dX0_add_51 : decode cX0_add 51 = .ok (.iadd, 1) := by decide +kernel
theorem dX0_add_52 : decode cX0_add 52 = .ok (.putfield 21, 3) := by decide +kernel
theorem dX0_add_55 : decode cX0_add 55 = .ok (.return_, 1) := by decide +kernel
theorem dX0_kindOf_0 : decode cX0_kindOf 0 = .ok (.iload_n 1, 1) := by decide +kernel
theorem dX0_kindOf_1 : decode cX0_kindOf 1 = .ok (.ifCond .lt 17, 3) := by decide +kernel
theorem dX0_kindOf_4 : decode cX0_kindOf 4 = .ok (.iload_n 1, 1) := by decide +kernel
theorem dX0_kindOf_5 : decode cX0_kindOf 5 = .ok (.iconst 5, 1) := by decide +kernel
theorem dX0_kindOf_6 : decode cX0_kindOf 6 = .ok (.if_icmp .ge 12, 3) := by decide +kernel
theorem dX0_kindOf_9 : decode cX0_kindOf 9 = .ok (.aload_n 0, 1) := by decide +kernel
theorem dX0_kindOf_10 : decode cX0_kindOf 10 = .ok (.getfield 9, 3) := by decide +kernel
theorem dX0_kindOf_13 : decode cX0_kindOf 13 = .ok (.iload_n 1, 1) := by decide +kernel
theorem dX0_kindOf_14 : decode cX0_kindOf 14 = .ok (.iaload, 1) := by decide +kernel
theorem dX0_kindOf_15 : decode cX0_kindOf 15 = .ok (.goto 4, 3) := by decide +kernel
theorem dX0_kindOf_18 : decode cX0_kindOf 18 = .ok (.iconst 0, 1) := by decide +kernel
theorem dX0_kindOf_19 : decode cX0_kindOf 19 = .ok (.ireturn, 1) := by decide +kernel
theorem dX0_oarOf_0 : decode cX0_oarOf 0 = .ok (.iload_n 1, 1) := by decide +kernel
theorem dX0_oarOf_1 : decode cX0_oarOf 1 = .ok (.ifCond .lt 17, 3) := by decide +kernel
theorem dX0_oarOf_4 : decode cX0_oarOf 4 = .ok (.iload_n 1, 1) := by decide +kernel
theorem dX0_oarOf_5 : decode cX0_oarOf 5 = .ok (.iconst 5, 1) := by decide +kernel
theorem dX0_oarOf_6 : decode cX0_oarOf 6 = .ok (.if_icmp .ge 12, 3) := by decide +kernel
theorem dX0_oarOf_9 : decode cX0_oarOf 9 = .ok (.aload_n 0, 1) := by decide +kernel
theorem dX0_oarOf_10 : decode cX0_oarOf 10 = .ok (.getfield 15, 3) := by decide +kernel
theorem dX0_oarOf_13 : decode cX0_oarOf 13 = .ok (.iload_n 1, 1) := by decide +kernel
theorem dX0_oarOf_14 : decode cX0_oarOf 14 = .ok (.iaload, 1) := by decide +kernel
theorem dX0_oarOf_15 : decode cX0_oarOf 15 = .ok (.goto 4, 3) := by decide +kernel
theorem dX0_oarOf_18 : decode cX0_oarOf 18 = .ok (.iconst 0, 1) := by decide +kernel
theorem dX0_oarOf_19 : decode cX0_oarOf 19 = .ok (.ireturn, 1) := by decide +kernel
theorem dX0_willOf_0 : decode cX0_willOf 0 = .ok (.iload_n 1, 1) := by decide +kernel
theorem dX0_willOf_1 : decode cX0_willOf 1 = .ok (.ifCond .lt 17, 3) := by decide +kernel
theorem dX0_willOf_4 : decode cX0_willOf 4 = .ok (.iload_n 1, 1) := by decide +kernel
theorem dX0_willOf_5 : decode cX0_willOf 5 = .ok (.iconst 5, 1) := by decide +kernel
theorem dX0_willOf_6 : decode cX0_willOf 6 = .ok (.if_icmp .ge 12, 3) := by decide +kernel
theorem dX0_willOf_9 : decode cX0_willOf 9 = .ok (.aload_n 0, 1) := by decide +kernel
theorem dX0_willOf_10 : decode cX0_willOf 10 = .ok (.getfield 18, 3) := by decide +kernel
theorem dX0_willOf_13 : decode cX0_willOf 13 = .ok (.iload_n 1, 1) := by decide +kernel
theorem dX0_willOf_14 : decode cX0_willOf 14 = .ok (.iaload, 1) := by decide +kernel
theorem dX0_willOf_15 : decode cX0_willOf 15 = .ok (.goto 4, 3) := by decide +kernel
theorem dX0_willOf_18 : decode cX0_willOf 18 = .ok (.iconst 0, 1) := by decide +kernel
theorem dX0_willOf_19 : decode cX0_willOf 19 = .ok (.ireturn, 1) := by decide +kernel
theorem dX0_isOfKind_0 : decode cX0_isOfKind 0 = .ok (.aload_n 0, 1) := by decide +kernel
theorem dX0_isOfKind_1 : decode cX0_isOfKind 1 = .ok (.iload_n 1, 1) := by decide +kernel
theorem dX0_isOfKind_2 : decode cX0_isOfKind 2 = .ok (.invokevirtual 25, 3) := by decide +kernel
theorem dX0_isOfKind_5 : decode cX0_isOfKind 5 = .ok (.istore_n 3, 1) := by decide +kernel
theorem dX0_isOfKind_6 : decode cX0_isOfKind 6 = .ok (.iload_n 2, 1) := by decide +kernel
theorem dX0_isOfKind_7 : decode cX0_isOfKind 7 = .ok (.ifCond .eq 18, 3) := by decide +kernel
theorem dX0_isOfKind_10 : decode cX0_isOfKind 10 = .ok (.iload_n 3, 1) := by decide +kernel
theorem dX0_isOfKind_11 : decode cX0_isOfKind 11 = .ok (.iload_n 2, 1) := by decide +kernel
theorem dX0_isOfKind_12 : decode cX0_isOfKind 12 = .ok (.if_icmp .eq 13, 3) := by decide +kernel
theorem dX0_isOfKind_15 : decode cX0_isOfKind 15 = .ok (.iload_n 2, 1) := by decide +kernel
theorem dX0_isOfKind_16 : decode cX0_isOfKind 16 = .ok (.iconst 3, 1) := by decide +kernel
theorem dX0_isOfKind_17 : decode cX0_isOfKind 17 = .ok (.if_icmp .ne 12, 3) := by decide +kernel
theorem dX0_isOfKind_20 : decode cX0_isOfKind 20 = .ok (.iload_n 3, 1) := by decide +kernel
theorem dX0_isOfKind_21 : decode cX0_isOfKind 21 = .ok (.iconst 4, 1) := by decide +kernel
theorem dX0_isOfKind_22 : decode cX0_isOfKind 22 = .ok (.if_icmp .ne 7, 3) := by decide +kernel
theorem dX0_isOfKind_25 : decode cX0_isOfKind 25 = .ok (.iconst 1, 1) := by decide +kernel
theorem dX0_isOfKind_26 : decode cX0_isOfKind 26 = .ok (.goto 4, 3) := by decide +kernel
theorem dX0_isOfKind_29 : decode cX0_isOfKind 29 = .ok (.iconst 0, 1) := by decide +kernel
theorem dX0_isOfKind_30 : decode cX0_isOfKind 30 = .ok (.ireturn, 1) := by decide +kernel
theorem dX0_everyone_0 : decode cX0_everyone 0 = .ok (.iconst 1, 1) := by decide +kernel
theorem dX0_everyone_1 : decode cX0_everyone 1 = .ok (.aload_n 0, 1) := by decide +kernel
theorem dX0_everyone_2 : decode cX0_everyone 2 = .ok (.getfield 21, 3) := by decide +kernel
theorem dX0_everyone_5 : decode cX0_everyone 5 = .ok (.ishl, 1) := by decide +kernel
theorem dX0_everyone_6 : decode cX0_everyone 6 = .ok (.iconst 1, 1) := by decide +kernel
theorem dX0_everyone_7 : decode cX0_everyone 7 = .ok (.isub, 1) := by decide +kernel
theorem dX0_everyone_8 : decode cX0_everyone 8 = .ok (.ireturn, 1) := by decide +kernel
theorem dX1_init_0 : decode cX1_init 0 = .ok (.aload_n 0, 1) := by decide +kernel
theorem dX1_init_1 : decode cX1_init 1 = .ok (.invokespecial 3, 3) := by decide +kernel
theorem dX1_init_4 : decode cX1_init 4 = .ok (.aload_n 0, 1) := by decide +kernel
theorem dX1_init_5 : decode cX1_init 5 = .ok (.bipush 8, 2) := by decide +kernel
theorem dX1_init_7 : decode cX1_init 7 = .ok (.newarray .int, 2) := by decide +kernel
theorem dX1_init_9 : decode cX1_init 9 = .ok (.putfield 9, 3) := by decide +kernel
theorem dX1_init_12 : decode cX1_init 12 = .ok (.return_, 1) := by decide +kernel
theorem dX1_add_0 : decode cX1_add 0 = .ok (.aload_n 0, 1) := by decide +kernel
theorem dX1_add_1 : decode cX1_add 1 = .ok (.getfield 15, 3) := by decide +kernel
theorem dX1_add_4 : decode cX1_add 4 = .ok (.ifCond .lt 32, 3) := by decide +kernel
theorem dX1_add_7 : decode cX1_add 7 = .ok (.aload_n 0, 1) := by decide +kernel
theorem dX1_add_8 : decode cX1_add 8 = .ok (.getfield 15, 3) := by decide +kernel
theorem dX1_add_11 : decode cX1_add 11 = .ok (.bipush 8, 2) := by decide +kernel
theorem dX1_add_13 : decode cX1_add 13 = .ok (.if_icmp .ge 23, 3) := by decide +kernel
theorem dX1_add_16 : decode cX1_add 16 = .ok (.aload_n 0, 1) := by decide +kernel
theorem dX1_add_17 : decode cX1_add 17 = .ok (.getfield 9, 3) := by decide +kernel
theorem dX1_add_20 : decode cX1_add 20 = .ok (.aload_n 0, 1) := by decide +kernel
theorem dX1_add_21 : decode cX1_add 21 = .ok (.getfield 15, 3) := by decide +kernel
theorem dX1_add_24 : decode cX1_add 24 = .ok (.iload_n 1, 1) := by decide +kernel
theorem dX1_add_25 : decode cX1_add 25 = .ok (.iastore, 1) := by decide +kernel
theorem dX1_add_26 : decode cX1_add 26 = .ok (.aload_n 0, 1) := by decide +kernel
theorem dX1_add_27 : decode cX1_add 27 = .ok (.dup, 1) := by decide +kernel
theorem dX1_add_28 : decode cX1_add 28 = .ok (.getfield 15, 3) := by decide +kernel
theorem dX1_add_31 : decode cX1_add 31 = .ok (.iconst 1, 1) := by decide +kernel
theorem dX1_add_32 : decode cX1_add 32 = .ok (.iadd, 1) := by decide +kernel
theorem dX1_add_33 : decode cX1_add 33 = .ok (.putfield 15, 3) := by decide +kernel
theorem dX1_add_36 : decode cX1_add 36 = .ok (.return_, 1) := by decide +kernel
theorem dX1_setAt_0 : decode cX1_setAt 0 = .ok (.iload_n 1, 1) := by decide +kernel
theorem dX1_setAt_1 : decode cX1_setAt 1 = .ok (.ifCond .lt 18, 3) := by decide +kernel
theorem dX1_setAt_4 : decode cX1_setAt 4 = .ok (.iload_n 1, 1) := by decide +kernel
theorem dX1_setAt_5 : decode cX1_setAt 5 = .ok (.bipush 8, 2) := by decide +kernel
theorem dX1_setAt_7 : decode cX1_setAt 7 = .ok (.if_icmp .ge 12, 3) := by decide +kernel
theorem dX1_setAt_10 : decode cX1_setAt 10 = .ok (.aload_n 0, 1) := by decide +kernel
theorem dX1_setAt_11 : decode cX1_setAt 11 = .ok (.getfield 9, 3) := by decide +kernel
theorem dX1_setAt_14 : decode cX1_setAt 14 = .ok (.iload_n 1, 1) := by decide +kernel
theorem dX1_setAt_15 : decode cX1_setAt 15 = .ok (.iaload, 1) := by decide +kernel
theorem dX1_setAt_16 : decode cX1_setAt 16 = .ok (.goto 4, 3) := by decide +kernel
theorem dX1_setAt_19 : decode cX1_setAt 19 = .ok (.iconst 0, 1) := by decide +kernel
theorem dX1_setAt_20 : decode cX1_setAt 20 = .ok (.ireturn, 1) := by decide +kernel
theorem dX1_copy_0 : decode cX1_copy 0 = .ok (.aload_n 1, 1) := by decide +kernel
theorem dX1_copy_1 : decode cX1_copy 1 = .ok (.getfield 9, 3) := by decide +kernel
theorem dX1_copy_4 : decode cX1_copy 4 = .ok (.iconst 0, 1) := by decide +kernel
theorem dX1_copy_5 : decode cX1_copy 5 = .ok (.aload_n 0, 1) := by decide +kernel
theorem dX1_copy_6 : decode cX1_copy 6 = .ok (.getfield 9, 3) := by decide +kernel
theorem dX1_copy_9 : decode cX1_copy 9 = .ok (.iconst 0, 1) := by decide +kernel
theorem dX1_copy_10 : decode cX1_copy 10 = .ok (.bipush 8, 2) := by decide +kernel
theorem dX1_copy_12 : decode cX1_copy 12 = .ok (.invokestatic 19, 3) := by decide +kernel
theorem dX1_copy_15 : decode cX1_copy 15 = .ok (.aload_n 0, 1) := by decide +kernel
theorem dX1_copy_16 : decode cX1_copy 16 = .ok (.aload_n 1, 1) := by decide +kernel
theorem dX1_copy_17 : decode cX1_copy 17 = .ok (.getfield 15, 3) := by decide +kernel
theorem dX1_copy_20 : decode cX1_copy 20 = .ok (.putfield 15, 3) := by decide +kernel
theorem dX1_copy_23 : decode cX1_copy 23 = .ok (.return_, 1) := by decide +kernel
theorem dX2_init_0 : decode cX2_init 0 = .ok (.aload_n 0, 1) := by decide +kernel
theorem dX2_init_1 : decode cX2_init 1 = .ok (.invokespecial 3, 3) := by decide +kernel
theorem dX2_init_4 : decode cX2_init 4 = .ok (.aload_n 0, 1) := by decide +kernel
theorem dX2_init_5 : decode cX2_init 5 = .ok (.bipush 30, 2) := by decide +kernel
theorem dX2_init_7 : decode cX2_init 7 = .ok (.newarray .int, 2) := by decide +kernel
theorem dX2_init_9 : decode cX2_init 9 = .ok (.putfield 9, 3) := by decide +kernel
theorem dX2_init_12 : decode cX2_init 12 = .ok (.return_, 1) := by decide +kernel
theorem dX2_add_0 : decode cX2_add 0 = .ok (.aload_n 0, 1) := by decide +kernel
theorem dX2_add_1 : decode cX2_add 1 = .ok (.getfield 15, 3) := by decide +kernel
theorem dX2_add_4 : decode cX2_add 4 = .ok (.ifCond .lt 35, 3) := by decide +kernel
theorem dX2_add_7 : decode cX2_add 7 = .ok (.aload_n 0, 1) := by decide +kernel
theorem dX2_add_8 : decode cX2_add 8 = .ok (.getfield 15, 3) := by decide +kernel
theorem dX2_add_11 : decode cX2_add 11 = .ok (.aload_n 0, 1) := by decide +kernel
theorem dX2_add_12 : decode cX2_add 12 = .ok (.getfield 9, 3) := by decide +kernel
theorem dX2_add_15 : decode cX2_add 15 = .ok (.arraylength, 1) := by decide +kernel
theorem dX2_add_16 : decode cX2_add 16 = .ok (.if_icmp .ge 23, 3) := by decide +kernel
theorem dX2_add_19 : decode cX2_add 19 = .ok (.aload_n 0, 1) := by decide +kernel
theorem dX2_add_20 : decode cX2_add 20 = .ok (.getfield 9, 3) := by decide +kernel
theorem dX2_add_23 : decode cX2_add 23 = .ok (.aload_n 0, 1) := by decide +kernel
theorem dX2_add_24 : decode cX2_add 24 = .ok (.getfield 15, 3) := by decide +kernel
theorem dX2_add_27 : decode cX2_add 27 = .ok (.iload_n 1, 1) := by decide +kernel
theorem dX2_add_28 : decode cX2_add 28 = .ok (.iastore, 1) := by decide +kernel
theorem dX2_add_29 : decode cX2_add 29 = .ok (.aload_n 0, 1) := by decide +kernel
theorem dX2_add_30 : decode cX2_add 30 = .ok (.dup, 1) := by decide +kernel
theorem dX2_add_31 : decode cX2_add 31 = .ok (.getfield 15, 3) := by decide +kernel
theorem dX2_add_34 : decode cX2_add 34 = .ok (.iconst 1, 1) := by decide +kernel
theorem dX2_add_35 : decode cX2_add 35 = .ok (.iadd, 1) := by decide +kernel
theorem dX2_add_36 : decode cX2_add 36 = .ok (.putfield 15, 3) := by decide +kernel
theorem dX2_add_39 : decode cX2_add 39 = .ok (.return_, 1) := by decide +kernel
theorem dX2_codeAt_0 : decode cX2_codeAt 0 = .ok (.iload_n 1, 1) := by decide +kernel
theorem dX2_codeAt_1 : decode cX2_codeAt 1 = .ok (.ifCond .lt 21, 3) := by decide +kernel
theorem dX2_codeAt_4 : decode cX2_codeAt 4 = .ok (.iload_n 1, 1) := by decide +kernel
theorem dX2_codeAt_5 : decode cX2_codeAt 5 = .ok (.aload_n 0, 1) := by decide +kernel
theorem dX2_codeAt_6 : decode cX2_codeAt 6 = .ok (.getfield 9, 3) := by decide +kernel
theorem dX2_codeAt_9 : decode cX2_codeAt 9 = .ok (.arraylength, 1) := by decide +kernel
theorem dX2_codeAt_10 : decode cX2_codeAt 10 = .ok (.if_icmp .ge 12, 3) := by decide +kernel
theorem dX2_codeAt_13 : decode cX2_codeAt 13 = .ok (.aload_n 0, 1) := by decide +kernel
theorem dX2_codeAt_14 : decode cX2_codeAt 14 = .ok (.getfield 9, 3) := by decide +kernel
theorem dX2_codeAt_17 : decode cX2_codeAt 17 = .ok (.iload_n 1, 1) := by decide +kernel
theorem dX2_codeAt_18 : decode cX2_codeAt 18 = .ok (.iaload, 1) := by decide +kernel
theorem dX2_codeAt_19 : decode cX2_codeAt 19 = .ok (.goto 4, 3) := by decide +kernel
theorem dX2_codeAt_22 : decode cX2_codeAt 22 = .ok (.iconst 0, 1) := by decide +kernel
theorem dX2_codeAt_23 : decode cX2_codeAt 23 = .ok (.ireturn, 1) := by decide +kernel
theorem dX2_isPassage_0 : decode cX2_isPassage 0 = .ok (.aload_n 0, 1) := by decide +kernel
theorem dX2_isPassage_1 : decode cX2_isPassage 1 = .ok (.getfield 15, 3) := by decide +kernel
theorem dX2_isPassage_4 : decode cX2_isPassage 4 = .ok (.iconst 4, 1) := by decide +kernel
theorem dX2_isPassage_5 : decode cX2_isPassage 5 = .ok (.if_icmp .le 34, 3) := by decide +kernel
theorem dX2_isPassage_8 : decode cX2_isPassage 8 = .ok (.aload_n 0, 1) := by decide +kernel
theorem dX2_isPassage_9 : decode cX2_isPassage 9 = .ok (.invokevirtual 19, 3) := by decide +kernel
theorem dX2_isPassage_12 : decode cX2_isPassage 12 = .ok (.aload_n 0, 1) := by decide +kernel
theorem dX2_isPassage_13 : decode cX2_isPassage 13 = .ok (.getfield 15, 3) := by decide +kernel
theorem dX2_isPassage_16 : decode cX2_isPassage 16 = .ok (.if_icmp .ne 23, 3) := by decide +kernel
theorem dX2_isPassage_19 : decode cX2_isPassage 19 = .ok (.aload_n 0, 1) := by decide +kernel
theorem dX2_isPassage_20 : decode cX2_isPassage 20 = .ok (.aload_n 0, 1) := by decide +kernel
theorem dX2_isPassage_21 : decode cX2_isPassage 21 = .ok (.getfield 15, 3) := by decide +kernel
theorem dX2_isPassage_24 : decode cX2_isPassage 24 = .ok (.iconst 1, 1) := by decide +kernel
theorem dX2_isPassage_25 : decode cX2_isPassage 25 = .ok (.isub, 1) := by decide +kernel
theorem dX2_isPassage_26 : decode cX2_isPassage 26 = .ok (.invokevirtual 23, 3) := by decide +kernel
theorem dX2_isPassage_29 : decode cX2_isPassage 29 = .ok (.invokestatic 27, 3) := by decide +kernel
theorem dX2_isPassage_32 : decode cX2_isPassage 32 = .ok (.ifCond .ne 7, 3) := by decide +kernel
theorem dX2_isPassage_35 : decode cX2_isPassage 35 = .ok (.iconst 1, 1) := by decide +kernel
theorem dX2_isPassage_36 : decode cX2_isPassage 36 = .ok (.goto 4, 3) := by decide +kernel
theorem dX2_isPassage_39 : decode cX2_isPassage 39 = .ok (.iconst 0, 1) := by decide +kernel
theorem dX2_isPassage_40 : decode cX2_isPassage 40 = .ok (.ireturn, 1) := by decide +kernel
theorem dX2_firstFault_0 : decode cX2_firstFault 0 = .ok (.iconst 0, 1) := by decide +kernel
theorem dX2_firstFault_1 : decode cX2_firstFault 1 = .ok (.istore_n 1, 1) := by decide +kernel
theorem dX2_firstFault_2 : decode cX2_firstFault 2 = .ok (.iconst 0, 1) := by decide +kernel
theorem dX2_firstFault_3 : decode cX2_firstFault 3 = .ok (.istore_n 2, 1) := by decide +kernel
theorem dX2_firstFault_4 : decode cX2_firstFault 4 = .ok (.iconst 0, 1) := by decide +kernel
theorem dX2_firstFault_5 : decode cX2_firstFault 5 = .ok (.istore_n 3, 1) := by decide +kernel
theorem dX2_firstFault_6 : decode cX2_firstFault 6 = .ok (.iload_n 3, 1) := by decide +kernel
theorem dX2_firstFault_7 : decode cX2_firstFault 7 = .ok (.aload_n 0, 1) := by decide +kernel
theorem dX2_firstFault_8 : decode cX2_firstFault 8 = .ok (.getfield 15, 3) := by decide +kernel
theorem dX2_firstFault_11 : decode cX2_firstFault 11 = .ok (.if_icmp .ge 83, 3) := by decide +kernel
theorem dX2_firstFault_14 : decode cX2_firstFault 14 = .ok (.aload_n 0, 1) := by decide +kernel
theorem dX2_firstFault_15 : decode cX2_firstFault 15 = .ok (.iload_n 3, 1) := by decide +kernel
theorem dX2_firstFault_16 : decode cX2_firstFault 16 = .ok (.invokevirtual 23, 3) := by decide +kernel
theorem dX2_firstFault_19 : decode cX2_firstFault 19 = .ok (.istore 4, 2) := by decide +kernel
theorem dX2_firstFault_21 : decode cX2_firstFault 21 = .ok (.iload_n 3, 1) := by decide +kernel
theorem dX2_firstFault_22 : decode cX2_firstFault 22 = .ok (.iconst 4, 1) := by decide +kernel
theorem dX2_firstFault_23 : decode cX2_firstFault 23 = .ok (.if_icmp .ge 15, 3) := by decide +kernel
theorem dX2_firstFault_26 : decode cX2_firstFault 26 = .ok (.aload_n 0, 1) := by decide +kernel
theorem dX2_firstFault_27 : decode cX2_firstFault 27 = .ok (.iload_n 3, 1) := by decide +kernel
theorem dX2_firstFault_28 : decode cX2_firstFault 28 = .ok (.iload 4, 2) := by decide +kernel
theorem dX2_firstFault_30 : decode cX2_firstFault 30 = .ok (.invokevirtual 31, 3) := by decide +kernel
theorem dX2_firstFault_33 : decode cX2_firstFault 33 = .ok (.ifCond .ne 55, 3) := by decide +kernel
theorem dX2_firstFault_36 : decode cX2_firstFault 36 = .ok (.iload_n 3, 1) := by decide +kernel
theorem dX2_firstFault_37 : decode cX2_firstFault 37 = .ok (.ireturn, 1) := by decide +kernel
theorem dX2_firstFault_38 : decode cX2_firstFault 38 = .ok (.iload_n 2, 1) := by decide +kernel
theorem dX2_firstFault_39 : decode cX2_firstFault 39 = .ok (.ifCond .eq 24, 3) := by decide +kernel
theorem dX2_firstFault_42 : decode cX2_firstFault 42 = .ok (.iload 4, 2) := by decide +kernel
theorem dX2_firstFault_44 : decode cX2_firstFault 44 = .ok (.bipush 49, 2) := by decide +kernel
theorem dX2_firstFault_46 : decode cX2_firstFault 46 = .ok (.if_icmp .lt 10, 3) := by decide +kernel
theorem dX2_firstFault_49 : decode cX2_firstFault 49 = .ok (.iload 4, 2) := by decide +kernel
theorem dX2_firstFault_51 : decode cX2_firstFault 51 = .ok (.bipush 57, 2) := by decide +kernel
theorem dX2_firstFault_53 : decode cX2_firstFault 53 = .ok (.if_icmp .le 5, 3) := by decide +kernel
theorem dX2_firstFault_56 : decode cX2_firstFault 56 = .ok (.iload_n 3, 1) := by decide +kernel
theorem dX2_firstFault_57 : decode cX2_firstFault 57 = .ok (.ireturn, 1) := by decide +kernel
theorem dX2_firstFault_58 : decode cX2_firstFault 58 = .ok (.iconst 0, 1) := by decide +kernel
theorem dX2_firstFault_59 : decode cX2_firstFault 59 = .ok (.istore_n 2, 1) := by decide +kernel
theorem dX2_firstFault_60 : decode cX2_firstFault 60 = .ok (.goto 28, 3) := by decide +kernel
theorem dX2_firstFault_63 : decode cX2_firstFault 63 = .ok (.iload_n 1, 1) := by decide +kernel
theorem dX2_firstFault_64 : decode cX2_firstFault 64 = .ok (.bipush 12, 2) := by decide +kernel
theorem dX2_firstFault_66 : decode cX2_firstFault 66 = .ok (.if_icmp .ge 11, 3) := by decide +kernel
theorem dX2_firstFault_69 : decode cX2_firstFault 69 = .ok (.iload 4, 2) := by decide +kernel
theorem dX2_firstFault_71 : decode cX2_firstFault 71 = .ok (.invokestatic 35, 3) := by decide +kernel
theorem dX2_firstFault_74 : decode cX2_firstFault 74 = .ok (.ifCond .ne 5, 3) := by decide +kernel
theorem dX2_firstFault_77 : decode cX2_firstFault 77 = .ok (.iload_n 3, 1) := by decide +kernel
theorem dX2_firstFault_78 : decode cX2_firstFault 78 = .ok (.ireturn, 1) := by decide +kernel
theorem dX2_firstFault_79 : decode cX2_firstFault 79 = .ok (.iinc 1 1, 3) := by decide +kernel
theorem dX2_firstFault_82 : decode cX2_firstFault 82 = .ok (.iload 4, 2) := by decide +kernel
theorem dX2_firstFault_84 : decode cX2_firstFault 84 = .ok (.invokestatic 27, 3) := by decide +kernel
theorem dX2_firstFault_87 : decode cX2_firstFault 87 = .ok (.istore_n 2, 1) := by decide +kernel
theorem dX2_firstFault_88 : decode cX2_firstFault 88 = .ok (.iinc 3 1, 3) := by decide +kernel
theorem dX2_firstFault_91 : decode cX2_firstFault 91 = .ok (.goto (-85), 3) := by decide +kernel
theorem dX2_firstFault_94 : decode cX2_firstFault 94 = .ok (.aload_n 0, 1) := by decide +kernel
theorem dX2_firstFault_95 : decode cX2_firstFault 95 = .ok (.getfield 15, 3) := by decide +kernel
theorem dX2_firstFault_98 : decode cX2_firstFault 98 = .ok (.ireturn, 1) := by decide +kernel
theorem dX2_isInHead_0 : decode cX2_isInHead 0 = .ok (.iload_n 1, 1) := by decide +kernel
theorem dX2_isInHead_1 : decode cX2_isInHead 1 = .ok (.tableswitch 96 0 2 #[27, 45, 78], 27) := by decide +kernel
theorem dX2_isInHead_28 : decode cX2_isInHead 28 = .ok (.iload_n 2, 1) := by decide +kernel
theorem dX2_isInHead_29 : decode cX2_isInHead 29 = .ok (.bipush 48, 2) := by decide +kernel
theorem dX2_isInHead_31 : decode cX2_isInHead 31 = .ok (.if_icmp .lt 13, 3) := by decide +kernel
theorem dX2_isInHead_34 : decode cX2_isInHead 34 = .ok (.iload_n 2, 1) := by decide +kernel
theorem dX2_isInHead_35 : decode cX2_isInHead 35 = .ok (.bipush 52, 2) := by decide +kernel
theorem dX2_isInHead_37 : decode cX2_isInHead 37 = .ok (.if_icmp .gt 7, 3) := by decide +kernel
theorem dX2_isInHead_40 : decode cX2_isInHead 40 = .ok (.iconst 1, 1) := by decide +kernel
theorem dX2_isInHead_41 : decode cX2_isInHead 41 = .ok (.goto 4, 3) := by decide +kernel
theorem dX2_isInHead_44 : decode cX2_isInHead 44 = .ok (.iconst 0, 1) := by decide +kernel
theorem dX2_isInHead_45 : decode cX2_isInHead 45 = .ok (.ireturn, 1) := by decide +kernel
theorem dX2_isInHead_46 : decode cX2_isInHead 46 = .ok (.iload_n 2, 1) := by decide +kernel
theorem dX2_isInHead_47 : decode cX2_isInHead 47 = .ok (.bipush 48, 2) := by decide +kernel
theorem dX2_isInHead_49 : decode cX2_isInHead 49 = .ok (.if_icmp .lt 28, 3) := by decide +kernel
theorem dX2_isInHead_52 : decode cX2_isInHead 52 = .ok (.iload_n 2, 1) := by decide +kernel
theorem dX2_isInHead_53 : decode cX2_isInHead 53 = .ok (.aload_n 0, 1) := by decide +kernel
theorem dX2_isInHead_54 : decode cX2_isInHead 54 = .ok (.iconst 0, 1) := by decide +kernel
theorem dX2_isInHead_55 : decode cX2_isInHead 55 = .ok (.invokevirtual 23, 3) := by decide +kernel
theorem dX2_isInHead_58 : decode cX2_isInHead 58 = .ok (.bipush 52, 2) := by decide +kernel
theorem dX2_isInHead_60 : decode cX2_isInHead 60 = .ok (.if_icmp .ne 8, 3) := by decide +kernel
theorem dX2_isInHead_63 : decode cX2_isInHead 63 = .ok (.bipush 53, 2) := by decide +kernel
theorem dX2_isInHead_65 : decode cX2_isInHead 65 = .ok (.goto 5, 3) := by decide +kernel
theorem dX2_isInHead_68 : decode cX2_isInHead 68 = .ok (.bipush 57, 2) := by decide +kernel
theorem dX2_isInHead_70 : decode cX2_isInHead 70 = .ok (.if_icmp .gt 7, 3) := by decide +kernel
theorem dX2_isInHead_73 : decode cX2_isInHead 73 = .ok (.iconst 1, 1) := by decide +kernel
theorem dX2_isInHead_74 : decode cX2_isInHead 74 = .ok (.goto 4, 3) := by decide +kernel
theorem dX2_isInHead_77 : decode cX2_isInHead 77 = .ok (.iconst 0, 1) := by decide +kernel
theorem dX2_isInHead_78 : decode cX2_isInHead 78 = .ok (.ireturn, 1) := by decide +kernel
theorem dX2_isInHead_79 : decode cX2_isInHead 79 = .ok (.iload_n 2, 1) := by decide +kernel
theorem dX2_isInHead_80 : decode cX2_isInHead 80 = .ok (.bipush 49, 2) := by decide +kernel
theorem dX2_isInHead_82 : decode cX2_isInHead 82 = .ok (.if_icmp .lt 13, 3) := by decide +kernel
theorem dX2_isInHead_85 : decode cX2_isInHead 85 = .ok (.iload_n 2, 1) := by decide +kernel
theorem dX2_isInHead_86 : decode cX2_isInHead 86 = .ok (.bipush 57, 2) := by decide +kernel
theorem dX2_isInHead_88 : decode cX2_isInHead 88 = .ok (.if_icmp .gt 7, 3) := by decide +kernel
theorem dX2_isInHead_91 : decode cX2_isInHead 91 = .ok (.iconst 1, 1) := by decide +kernel
theorem dX2_isInHead_92 : decode cX2_isInHead 92 = .ok (.goto 4, 3) := by decide +kernel
theorem dX2_isInHead_95 : decode cX2_isInHead 95 = .ok (.iconst 0, 1) := by decide +kernel
theorem dX2_isInHead_96 : decode cX2_isInHead 96 = .ok (.ireturn, 1) := by decide +kernel
theorem dX2_isInHead_97 : decode cX2_isInHead 97 = .ok (.iload_n 2, 1) := by decide +kernel
theorem dX2_isInHead_98 : decode cX2_isInHead 98 = .ok (.bipush 58, 2) := by decide +kernel
theorem dX2_isInHead_100 : decode cX2_isInHead 100 = .ok (.if_icmp .ne 7, 3) := by decide +kernel
theorem dX2_isInHead_103 : decode cX2_isInHead 103 = .ok (.iconst 1, 1) := by decide +kernel
theorem dX2_isInHead_104 : decode cX2_isInHead 104 = .ok (.goto 4, 3) := by decide +kernel
theorem dX2_isInHead_107 : decode cX2_isInHead 107 = .ok (.iconst 0, 1) := by decide +kernel
theorem dX2_isInHead_108 : decode cX2_isInHead 108 = .ok (.ireturn, 1) := by decide +kernel
theorem dX2_beginsPlace_0 : decode cX2_beginsPlace 0 = .ok (.iload_n 0, 1) := by decide +kernel
theorem dX2_beginsPlace_1 : decode cX2_beginsPlace 1 = .ok (.bipush 46, 2) := by decide +kernel
theorem dX2_beginsPlace_3 : decode cX2_beginsPlace 3 = .ok (.if_icmp .eq 22, 3) := by decide +kernel
theorem dX2_beginsPlace_6 : decode cX2_beginsPlace 6 = .ok (.iload_n 0, 1) := by decide +kernel
theorem dX2_beginsPlace_7 : decode cX2_beginsPlace 7 = .ok (.bipush 114, 2) := by decide +kernel
theorem dX2_beginsPlace_9 : decode cX2_beginsPlace 9 = .ok (.if_icmp .eq 16, 3) := by decide +kernel
theorem dX2_beginsPlace_12 : decode cX2_beginsPlace 12 = .ok (.iload_n 0, 1) := by decide +kernel
theorem dX2_beginsPlace_13 : decode cX2_beginsPlace 13 = .ok (.bipush 101, 2) := by decide +kernel
theorem dX2_beginsPlace_15 : decode cX2_beginsPlace 15 = .ok (.if_icmp .eq 10, 3) := by decide +kernel
theorem dX2_beginsPlace_18 : decode cX2_beginsPlace 18 = .ok (.iload_n 0, 1) := by decide +kernel
theorem dX2_beginsPlace_19 : decode cX2_beginsPlace 19 = .ok (.invokestatic 27, 3) := by decide +kernel
theorem dX2_beginsPlace_22 : decode cX2_beginsPlace 22 = .ok (.ifCond .eq 7, 3) := by decide +kernel
theorem dX2_beginsPlace_25 : decode cX2_beginsPlace 25 = .ok (.iconst 1, 1) := by decide +kernel
theorem dX2_beginsPlace_26 : decode cX2_beginsPlace 26 = .ok (.goto 4, 3) := by decide +kernel
theorem dX2_beginsPlace_29 : decode cX2_beginsPlace 29 = .ok (.iconst 0, 1) := by decide +kernel
theorem dX2_beginsPlace_30 : decode cX2_beginsPlace 30 = .ok (.ireturn, 1) := by decide +kernel
theorem dX2_isSong_0 : decode cX2_isSong 0 = .ok (.iload_n 0, 1) := by decide +kernel
theorem dX2_isSong_1 : decode cX2_isSong 1 = .ok (.bipush 115, 2) := by decide +kernel
theorem dX2_isSong_3 : decode cX2_isSong 3 = .ok (.if_icmp .eq 9, 3) := by decide +kernel
theorem dX2_isSong_6 : decode cX2_isSong 6 = .ok (.iload_n 0, 1) := by decide +kernel
theorem dX2_isSong_7 : decode cX2_isSong 7 = .ok (.bipush 98, 2) := by decide +kernel
theorem dX2_isSong_9 : decode cX2_isSong 9 = .ok (.if_icmp .ne 7, 3) := by decide +kernel
theorem dX2_isSong_12 : decode cX2_isSong 12 = .ok (.iconst 1, 1) := by decide +kernel
theorem dX2_isSong_13 : decode cX2_isSong 13 = .ok (.goto 4, 3) := by decide +kernel
theorem dX2_isSong_16 : decode cX2_isSong 16 = .ok (.iconst 0, 1) := by decide +kernel
theorem dX2_isSong_17 : decode cX2_isSong 17 = .ok (.ireturn, 1) := by decide +kernel
theorem dX3_init_0 : decode cX3_init 0 = .ok (.aload_n 0, 1) := by decide +kernel
theorem dX3_init_1 : decode cX3_init 1 = .ok (.invokespecial 3, 3) := by decide +kernel
theorem dX3_init_4 : decode cX3_init 4 = .ok (.aload_n 0, 1) := by decide +kernel
theorem dX3_init_5 : decode cX3_init 5 = .ok (.bipush 12, 2) := by decide +kernel
theorem dX3_init_7 : decode cX3_init 7 = .ok (.newarray .int, 2) := by decide +kernel
theorem dX3_init_9 : decode cX3_init 9 = .ok (.putfield 9, 3) := by decide +kernel
theorem dX3_init_12 : decode cX3_init 12 = .ok (.aload_n 0, 1) := by decide +kernel
theorem dX3_init_13 : decode cX3_init 13 = .ok (.bipush 12, 2) := by decide +kernel
theorem dX3_init_15 : decode cX3_init 15 = .ok (.newarray .int, 2) := by decide +kernel
theorem dX3_init_17 : decode cX3_init 17 = .ok (.putfield 15, 3) := by decide +kernel
theorem dX3_init_20 : decode cX3_init 20 = .ok (.return_, 1) := by decide +kernel
theorem dX3_read_0 : decode cX3_read 0 = .ok (.aload_n 0, 1) := by decide +kernel
theorem dX3_read_1 : decode cX3_read 1 = .ok (.bipush 10, 2) := by decide +kernel
theorem dX3_read_3 : decode cX3_read 3 = .ok (.aload_n 1, 1) := by decide +kernel
theorem dX3_read_4 : decode cX3_read 4 = .ok (.iconst 0, 1) := by decide +kernel
theorem dX3_read_5 : decode cX3_read 5 = .ok (.invokevirtual 18, 3) := by decide +kernel
theorem dX3_read_8 : decode cX3_read 8 = .ok (.bipush 48, 2) := by decide +kernel
theorem dX3_read_10 : decode cX3_read 10 = .ok (.isub, 1) := by decide +kernel
theorem dX3_read_11 : decode cX3_read 11 = .ok (.imul, 1) := by decide +kernel
theorem dX3_read_12 : decode cX3_read 12 = .ok (.aload_n 1, 1) := by decide +kernel
theorem dX3_read_13 : decode cX3_read 13 = .ok (.iconst 1, 1) := by decide +kernel
theorem dX3_read_14 : decode cX3_read 14 = .ok (.invokevirtual 18, 3) := by decide +kernel
theorem dX3_read_17 : decode cX3_read 17 = .ok (.iadd, 1) := by decide +kernel
theorem dX3_read_18 : decode cX3_read 18 = .ok (.bipush 48, 2) := by decide +kernel
theorem dX3_read_20 : decode cX3_read 20 = .ok (.isub, 1) := by decide +kernel
theorem dX3_read_21 : decode cX3_read 21 = .ok (.putfield 24, 3) := by decide +kernel
theorem dX3_read_24 : decode cX3_read 24 = .ok (.aload_n 0, 1) := by decide +kernel
theorem dX3_read_25 : decode cX3_read 25 = .ok (.aload_n 1, 1) := by decide +kernel
theorem dX3_read_26 : decode cX3_read 26 = .ok (.iconst 2, 1) := by decide +kernel
theorem dX3_read_27 : decode cX3_read 27 = .ok (.invokevirtual 18, 3) := by decide +kernel
theorem dX3_read_30 : decode cX3_read 30 = .ok (.bipush 48, 2) := by decide +kernel
theorem dX3_read_32 : decode cX3_read 32 = .ok (.isub, 1) := by decide +kernel
theorem dX3_read_33 : decode cX3_read 33 = .ok (.putfield 28, 3) := by decide +kernel
theorem dX3_read_36 : decode cX3_read 36 = .ok (.aload_n 0, 1) := by decide +kernel
theorem dX3_read_37 : decode cX3_read 37 = .ok (.iconst 0, 1) := by decide +kernel
theorem dX3_read_38 : decode cX3_read 38 = .ok (.putfield 31, 3) := by decide +kernel
theorem dX3_read_41 : decode cX3_read 41 = .ok (.iconst 4, 1) := by decide +kernel
theorem dX3_read_42 : decode cX3_read 42 = .ok (.istore_n 2, 1) := by decide +kernel
theorem dX3_read_43 : decode cX3_read 43 = .ok (.iload_n 2, 1) := by decide +kernel
theorem dX3_read_44 : decode cX3_read 44 = .ok (.aload_n 1, 1) := by decide +kernel
theorem dX3_read_45 : decode cX3_read 45 = .ok (.getfield 34, 3) := by decide +kernel
theorem dX3_read_48 : decode cX3_read 48 = .ok (.if_icmp .ge 52, 3) := by decide +kernel
theorem dX3_read_51 : decode cX3_read 51 = .ok (.aload_n 1, 1) := by decide +kernel
theorem dX3_read_52 : decode cX3_read 52 = .ok (.iload_n 2, 1) := by decide +kernel
theorem dX3_read_53 : decode cX3_read 53 = .ok (.invokevirtual 18, 3) := by decide +kernel
theorem dX3_read_56 : decode cX3_read 56 = .ok (.istore_n 3, 1) := by decide +kernel
theorem dX3_read_57 : decode cX3_read 57 = .ok (.iload_n 3, 1) := by decide +kernel
theorem dX3_read_58 : decode cX3_read 58 = .ok (.bipush 49, 2) := by decide +kernel
theorem dX3_read_60 : decode cX3_read 60 = .ok (.if_icmp .lt 26, 3) := by decide +kernel
theorem dX3_read_63 : decode cX3_read 63 = .ok (.iload_n 3, 1) := by decide +kernel
theorem dX3_read_64 : decode cX3_read 64 = .ok (.bipush 57, 2) := by decide +kernel
theorem dX3_read_66 : decode cX3_read 66 = .ok (.if_icmp .gt 20, 3) := by decide +kernel
theorem dX3_read_69 : decode cX3_read 69 = .ok (.aload_n 0, 1) := by decide +kernel
theorem dX3_read_70 : decode cX3_read 70 = .ok (.aload_n 0, 1) := by decide +kernel
theorem dX3_read_71 : decode cX3_read 71 = .ok (.getfield 31, 3) := by decide +kernel
theorem dX3_read_74 : decode cX3_read 74 = .ok (.iconst 1, 1) := by decide +kernel
theorem dX3_read_75 : decode cX3_read 75 = .ok (.isub, 1) := by decide +kernel
theorem dX3_read_76 : decode cX3_read 76 = .ok (.iload_n 3, 1) := by decide +kernel
theorem dX3_read_77 : decode cX3_read 77 = .ok (.bipush 48, 2) := by decide +kernel
theorem dX3_read_79 : decode cX3_read 79 = .ok (.isub, 1) := by decide +kernel
theorem dX3_read_80 : decode cX3_read 80 = .ok (.invokevirtual 35, 3) := by decide +kernel
theorem dX3_read_83 : decode cX3_read 83 = .ok (.goto 11, 3) := by decide +kernel
theorem dX3_read_86 : decode cX3_read 86 = .ok (.aload_n 0, 1) := by decide +kernel
theorem dX3_read_87 : decode cX3_read 87 = .ok (.iload_n 3, 1) := by decide +kernel
theorem dX3_read_88 : decode cX3_read 88 = .ok (.invokestatic 39, 3) := by decide +kernel
theorem dX3_read_91 : decode cX3_read 91 = .ok (.invokevirtual 42, 3) := by decide +kernel
theorem dX3_read_94 : decode cX3_read 94 = .ok (.iinc 2 1, 3) := by decide +kernel
theorem dX3_read_97 : decode cX3_read 97 = .ok (.goto (-54), 3) := by decide +kernel
theorem dX3_read_100 : decode cX3_read 100 = .ok (.return_, 1) := by decide +kernel
theorem dX3_rockBy_0 : decode cX3_rockBy 0 = .ok (.iload_n 0, 1) := by decide +kernel
theorem dX3_rockBy_1 : decode cX3_rockBy 1 = .ok (.bipush 114, 2) := by decide +kernel
theorem dX3_rockBy_3 : decode cX3_rockBy 3 = .ok (.if_icmp .eq 9, 3) := by decide +kernel
theorem dX3_rockBy_6 : decode cX3_rockBy 6 = .ok (.iload_n 0, 1) := by decide +kernel
theorem dX3_rockBy_7 : decode cX3_rockBy 7 = .ok (.bipush 98, 2) := by decide +kernel
theorem dX3_rockBy_9 : decode cX3_rockBy 9 = .ok (.if_icmp .ne 5, 3) := by decide +kernel
theorem dX3_rockBy_12 : decode cX3_rockBy 12 = .ok (.iconst 1, 1) := by decide +kernel
theorem dX3_rockBy_13 : decode cX3_rockBy 13 = .ok (.ireturn, 1) := by decide +kernel
theorem dX3_rockBy_14 : decode cX3_rockBy 14 = .ok (.iload_n 0, 1) := by decide +kernel
theorem dX3_rockBy_15 : decode cX3_rockBy 15 = .ok (.bipush 101, 2) := by decide +kernel
theorem dX3_rockBy_17 : decode cX3_rockBy 17 = .ok (.if_icmp .ne 7, 3) := by decide +kernel
theorem dX3_rockBy_20 : decode cX3_rockBy 20 = .ok (.iconst 2, 1) := by decide +kernel
theorem dX3_rockBy_21 : decode cX3_rockBy 21 = .ok (.goto 4, 3) := by decide +kernel
theorem dX3_rockBy_24 : decode cX3_rockBy 24 = .ok (.iconst 0, 1) := by decide +kernel
theorem dX3_rockBy_25 : decode cX3_rockBy 25 = .ok (.ireturn, 1) := by decide +kernel
theorem dX3_addPlace_0 : decode cX3_addPlace 0 = .ok (.aload_n 0, 1) := by decide +kernel
theorem dX3_addPlace_1 : decode cX3_addPlace 1 = .ok (.getfield 31, 3) := by decide +kernel
theorem dX3_addPlace_4 : decode cX3_addPlace 4 = .ok (.ifCond .lt 42, 3) := by decide +kernel
theorem dX3_addPlace_7 : decode cX3_addPlace 7 = .ok (.aload_n 0, 1) := by decide +kernel
theorem dX3_addPlace_8 : decode cX3_addPlace 8 = .ok (.getfield 31, 3) := by decide +kernel
theorem dX3_addPlace_11 : decode cX3_addPlace 11 = .ok (.bipush 12, 2) := by decide +kernel
theorem dX3_addPlace_13 : decode cX3_addPlace 13 = .ok (.if_icmp .ge 33, 3) := by decide +kernel
theorem dX3_addPlace_16 : decode cX3_addPlace 16 = .ok (.aload_n 0, 1) := by decide +kernel
theorem dX3_addPlace_17 : decode cX3_addPlace 17 = .ok (.getfield 9, 3) := by decide +kernel
theorem dX3_addPlace_20 : decode cX3_addPlace 20 = .ok (.aload_n 0, 1) := by decide +kernel
theorem dX3_addPlace_21 : decode cX3_addPlace 21 = .ok (.getfield 31, 3) := by decide +kernel
theorem dX3_addPlace_24 : decode cX3_addPlace 24 = .ok (.iconst 0, 1) := by decide +kernel
theorem dX3_addPlace_25 : decode cX3_addPlace 25 = .ok (.iastore, 1) := by decide +kernel
theorem dX3_addPlace_26 : decode cX3_addPlace 26 = .ok (.aload_n 0, 1) := by decide +kernel
theorem dX3_addPlace_27 : decode cX3_addPlace 27 = .ok (.getfield 15, 3) := by decide +kernel
theorem dX3_addPlace_30 : decode cX3_addPlace 30 = .ok (.aload_n 0, 1) := by decide +kernel
theorem dX3_addPlace_31 : decode cX3_addPlace 31 = .ok (.getfield 31, 3) := by decide +kernel
theorem dX3_addPlace_34 : decode cX3_addPlace 34 = .ok (.iload_n 1, 1) := by decide +kernel
theorem dX3_addPlace_35 : decode cX3_addPlace 35 = .ok (.iastore, 1) := by decide +kernel
theorem dX3_addPlace_36 : decode cX3_addPlace 36 = .ok (.aload_n 0, 1) := by decide +kernel
theorem dX3_addPlace_37 : decode cX3_addPlace 37 = .ok (.dup, 1) := by decide +kernel
theorem dX3_addPlace_38 : decode cX3_addPlace 38 = .ok (.getfield 31, 3) := by decide +kernel
theorem dX3_addPlace_41 : decode cX3_addPlace 41 = .ok (.iconst 1, 1) := by decide +kernel
theorem dX3_addPlace_42 : decode cX3_addPlace 42 = .ok (.iadd, 1) := by decide +kernel
theorem dX3_addPlace_43 : decode cX3_addPlace 43 = .ok (.putfield 31, 3) := by decide +kernel
theorem dX3_addPlace_46 : decode cX3_addPlace 46 = .ok (.return_, 1) := by decide +kernel
theorem dX3_setSong_0 : decode cX3_setSong 0 = .ok (.iload_n 1, 1) := by decide +kernel
theorem dX3_setSong_1 : decode cX3_setSong 1 = .ok (.ifCond .lt 16, 3) := by decide +kernel
theorem dX3_setSong_4 : decode cX3_setSong 4 = .ok (.iload_n 1, 1) := by decide +kernel
theorem dX3_setSong_5 : decode cX3_setSong 5 = .ok (.bipush 12, 2) := by decide +kernel
theorem dX3_setSong_7 : decode cX3_setSong 7 = .ok (.if_icmp .ge 10, 3) := by decide +kernel
theorem dX3_setSong_10 : decode cX3_setSong 10 = .ok (.aload_n 0, 1) := by decide +kernel
theorem dX3_setSong_11 : decode cX3_setSong 11 = .ok (.getfield 9, 3) := by decide +kernel
theorem dX3_setSong_14 : decode cX3_setSong 14 = .ok (.iload_n 1, 1) := by decide +kernel
theorem dX3_setSong_15 : decode cX3_setSong 15 = .ok (.iload_n 2, 1) := by decide +kernel
theorem dX3_setSong_16 : decode cX3_setSong 16 = .ok (.iastore, 1) := by decide +kernel
theorem dX3_setSong_17 : decode cX3_setSong 17 = .ok (.return_, 1) := by decide +kernel
theorem dX3_songAt_0 : decode cX3_songAt 0 = .ok (.iload_n 1, 1) := by decide +kernel
theorem dX3_songAt_1 : decode cX3_songAt 1 = .ok (.ifCond .lt 18, 3) := by decide +kernel
theorem dX3_songAt_4 : decode cX3_songAt 4 = .ok (.iload_n 1, 1) := by decide +kernel
theorem dX3_songAt_5 : decode cX3_songAt 5 = .ok (.bipush 12, 2) := by decide +kernel
theorem dX3_songAt_7 : decode cX3_songAt 7 = .ok (.if_icmp .ge 12, 3) := by decide +kernel
theorem dX3_songAt_10 : decode cX3_songAt 10 = .ok (.aload_n 0, 1) := by decide +kernel
theorem dX3_songAt_11 : decode cX3_songAt 11 = .ok (.getfield 9, 3) := by decide +kernel
theorem dX3_songAt_14 : decode cX3_songAt 14 = .ok (.iload_n 1, 1) := by decide +kernel
theorem dX3_songAt_15 : decode cX3_songAt 15 = .ok (.iaload, 1) := by decide +kernel
theorem dX3_songAt_16 : decode cX3_songAt 16 = .ok (.goto 4, 3) := by decide +kernel
theorem dX3_songAt_19 : decode cX3_songAt 19 = .ok (.iconst 0, 1) := by decide +kernel
theorem dX3_songAt_20 : decode cX3_songAt 20 = .ok (.ireturn, 1) := by decide +kernel
theorem dX3_rockAt_0 : decode cX3_rockAt 0 = .ok (.iload_n 1, 1) := by decide +kernel
theorem dX3_rockAt_1 : decode cX3_rockAt 1 = .ok (.ifCond .lt 18, 3) := by decide +kernel
theorem dX3_rockAt_4 : decode cX3_rockAt 4 = .ok (.iload_n 1, 1) := by decide +kernel
theorem dX3_rockAt_5 : decode cX3_rockAt 5 = .ok (.bipush 12, 2) := by decide +kernel
theorem dX3_rockAt_7 : decode cX3_rockAt 7 = .ok (.if_icmp .ge 12, 3) := by decide +kernel
theorem dX3_rockAt_10 : decode cX3_rockAt 10 = .ok (.aload_n 0, 1) := by decide +kernel
theorem dX3_rockAt_11 : decode cX3_rockAt 11 = .ok (.getfield 15, 3) := by decide +kernel
theorem dX3_rockAt_14 : decode cX3_rockAt 14 = .ok (.iload_n 1, 1) := by decide +kernel
theorem dX3_rockAt_15 : decode cX3_rockAt 15 = .ok (.iaload, 1) := by decide +kernel
theorem dX3_rockAt_16 : decode cX3_rockAt 16 = .ok (.goto 4, 3) := by decide +kernel
theorem dX3_rockAt_19 : decode cX3_rockAt 19 = .ok (.iconst 0, 1) := by decide +kernel
theorem dX3_rockAt_20 : decode cX3_rockAt 20 = .ok (.ireturn, 1) := by decide +kernel
theorem dX3_copyWeaker_0 : decode cX3_copyWeaker 0 = .ok (.aload_n 0, 1) := by decide +kernel
theorem dX3_copyWeaker_1 : decode cX3_copyWeaker 1 = .ok (.aload_n 1, 1) := by decide +kernel
theorem dX3_copyWeaker_2 : decode cX3_copyWeaker 2 = .ok (.invokevirtual 46, 3) := by decide +kernel
theorem dX3_copyWeaker_5 : decode cX3_copyWeaker 5 = .ok (.iconst 0, 1) := by decide +kernel
theorem dX3_copyWeaker_6 : decode cX3_copyWeaker 6 = .ok (.istore_n 3, 1) := by decide +kernel
theorem dX3_copyWeaker_7 : decode cX3_copyWeaker 7 = .ok (.iload_n 3, 1) := by decide +kernel
theorem dX3_copyWeaker_8 : decode cX3_copyWeaker 8 = .ok (.aload_n 0, 1) := by decide +kernel
theorem dX3_copyWeaker_9 : decode cX3_copyWeaker 9 = .ok (.getfield 31, 3) := by decide +kernel
theorem dX3_copyWeaker_12 : decode cX3_copyWeaker 12 = .ok (.if_icmp .ge 25, 3) := by decide +kernel
theorem dX3_copyWeaker_15 : decode cX3_copyWeaker 15 = .ok (.aload_n 0, 1) := by decide +kernel
theorem dX3_copyWeaker_16 : decode cX3_copyWeaker 16 = .ok (.iload_n 3, 1) := by decide +kernel
theorem dX3_copyWeaker_17 : decode cX3_copyWeaker 17 = .ok (.iconst 0, 1) := by decide +kernel
theorem dX3_copyWeaker_18 : decode cX3_copyWeaker 18 = .ok (.aload_n 0, 1) := by decide +kernel
theorem dX3_copyWeaker_19 : decode cX3_copyWeaker 19 = .ok (.iload_n 3, 1) := by decide +kernel
theorem dX3_copyWeaker_20 : decode cX3_copyWeaker 20 = .ok (.invokevirtual 50, 3) := by decide +kernel
theorem dX3_copyWeaker_23 : decode cX3_copyWeaker 23 = .ok (.iload_n 2, 1) := by decide +kernel
theorem dX3_copyWeaker_24 : decode cX3_copyWeaker 24 = .ok (.isub, 1) := by decide +kernel
theorem dX3_copyWeaker_25 : decode cX3_copyWeaker 25 = .ok (.invokestatic 53, 3) := by decide +kernel
theorem dX3_copyWeaker_28 : decode cX3_copyWeaker 28 = .ok (.invokevirtual 35, 3) := by decide +kernel
theorem dX3_copyWeaker_31 : decode cX3_copyWeaker 31 = .ok (.iinc 3 1, 3) := by decide +kernel
theorem dX3_copyWeaker_34 : decode cX3_copyWeaker 34 = .ok (.goto (-27), 3) := by decide +kernel
theorem dX3_copyWeaker_37 : decode cX3_copyWeaker 37 = .ok (.return_, 1) := by decide +kernel
theorem dX3_copyDrawn_0 : decode cX3_copyDrawn 0 = .ok (.aload_n 0, 1) := by decide +kernel
theorem dX3_copyDrawn_1 : decode cX3_copyDrawn 1 = .ok (.aload_n 1, 1) := by decide +kernel
theorem dX3_copyDrawn_2 : decode cX3_copyDrawn 2 = .ok (.invokevirtual 46, 3) := by decide +kernel
theorem dX3_copyDrawn_5 : decode cX3_copyDrawn 5 = .ok (.iload_n 2, 1) := by decide +kernel
theorem dX3_copyDrawn_6 : decode cX3_copyDrawn 6 = .ok (.istore_n 3, 1) := by decide +kernel
theorem dX3_copyDrawn_7 : decode cX3_copyDrawn 7 = .ok (.iconst 0, 1) := by decide +kernel
theorem dX3_copyDrawn_8 : decode cX3_copyDrawn 8 = .ok (.istore 4, 2) := by decide +kernel
theorem dX3_copyDrawn_10 : decode cX3_copyDrawn 10 = .ok (.iload 4, 2) := by decide +kernel
theorem dX3_copyDrawn_12 : decode cX3_copyDrawn 12 = .ok (.aload_n 0, 1) := by decide +kernel
theorem dX3_copyDrawn_13 : decode cX3_copyDrawn 13 = .ok (.getfield 31, 3) := by decide +kernel
theorem dX3_copyDrawn_16 : decode cX3_copyDrawn 16 = .ok (.if_icmp .ge 36, 3) := by decide +kernel
theorem dX3_copyDrawn_19 : decode cX3_copyDrawn 19 = .ok (.aload_n 0, 1) := by decide +kernel
theorem dX3_copyDrawn_20 : decode cX3_copyDrawn 20 = .ok (.iload 4, 2) := by decide +kernel
theorem dX3_copyDrawn_22 : decode cX3_copyDrawn 22 = .ok (.invokevirtual 50, 3) := by decide +kernel
theorem dX3_copyDrawn_25 : decode cX3_copyDrawn 25 = .ok (.ifCond .le 21, 3) := by decide +kernel
theorem dX3_copyDrawn_28 : decode cX3_copyDrawn 28 = .ok (.iload_n 3, 1) := by decide +kernel
theorem dX3_copyDrawn_29 : decode cX3_copyDrawn 29 = .ok (.invokestatic 59, 3) := by decide +kernel
theorem dX3_copyDrawn_32 : decode cX3_copyDrawn 32 = .ok (.istore_n 3, 1) := by decide +kernel
theorem dX3_copyDrawn_33 : decode cX3_copyDrawn 33 = .ok (.aload_n 0, 1) := by decide +kernel
theorem dX3_copyDrawn_34 : decode cX3_copyDrawn 34 = .ok (.iload 4, 2) := by decide +kernel
theorem dX3_copyDrawn_36 : decode cX3_copyDrawn 36 = .ok (.iload_n 3, 1) := by decide +kernel
theorem dX3_copyDrawn_37 : decode cX3_copyDrawn 37 = .ok (.ldc 62, 2) := by decide +kernel
theorem dX3_copyDrawn_39 : decode cX3_copyDrawn 39 = .ok (.idiv, 1) := by decide +kernel
theorem dX3_copyDrawn_40 : decode cX3_copyDrawn 40 = .ok (.bipush 10, 2) := by decide +kernel
theorem dX3_copyDrawn_42 : decode cX3_copyDrawn 42 = .ok (.irem, 1) := by decide +kernel
theorem dX3_copyDrawn_43 : decode cX3_copyDrawn 43 = .ok (.invokevirtual 35, 3) := by decide +kernel
theorem dX3_copyDrawn_46 : decode cX3_copyDrawn 46 = .ok (.iinc 4 1, 3) := by decide +kernel
theorem dX3_copyDrawn_49 : decode cX3_copyDrawn 49 = .ok (.goto (-39), 3) := by decide +kernel
theorem dX3_copyDrawn_52 : decode cX3_copyDrawn 52 = .ok (.iload_n 3, 1) := by decide +kernel
theorem dX3_copyDrawn_53 : decode cX3_copyDrawn 53 = .ok (.ireturn, 1) := by decide +kernel
theorem dX3_seedAfter_0 : decode cX3_seedAfter 0 = .ok (.ldc2_w 63, 3) := by decide +kernel
theorem dX3_seedAfter_3 : decode cX3_seedAfter 3 = .ok (.iload_n 0, 1) := by decide +kernel
theorem dX3_seedAfter_4 : decode cX3_seedAfter 4 = .ok (.i2l, 1) := by decide +kernel
theorem dX3_seedAfter_5 : decode cX3_seedAfter 5 = .ok (.lmul, 1) := by decide +kernel
theorem dX3_seedAfter_6 : decode cX3_seedAfter 6 = .ok (.ldc2_w 65, 3) := by decide +kernel
theorem dX3_seedAfter_9 : decode cX3_seedAfter 9 = .ok (.ladd, 1) := by decide +kernel
theorem dX3_seedAfter_10 : decode cX3_seedAfter 10 = .ok (.ldc2_w 67, 3) := by decide +kernel
theorem dX3_seedAfter_13 : decode cX3_seedAfter 13 = .ok (.lrem, 1) := by decide +kernel
theorem dX3_seedAfter_14 : decode cX3_seedAfter 14 = .ok (.l2i, 1) := by decide +kernel
theorem dX3_seedAfter_15 : decode cX3_seedAfter 15 = .ok (.ireturn, 1) := by decide +kernel
theorem dX3_copy_0 : decode cX3_copy 0 = .ok (.aload_n 1, 1) := by decide +kernel
theorem dX3_copy_1 : decode cX3_copy 1 = .ok (.getfield 9, 3) := by decide +kernel
theorem dX3_copy_4 : decode cX3_copy 4 = .ok (.iconst 0, 1) := by decide +kernel
theorem dX3_copy_5 : decode cX3_copy 5 = .ok (.aload_n 0, 1) := by decide +kernel
theorem dX3_copy_6 : decode cX3_copy 6 = .ok (.getfield 9, 3) := by decide +kernel
theorem dX3_copy_9 : decode cX3_copy 9 = .ok (.iconst 0, 1) := by decide +kernel
theorem dX3_copy_10 : decode cX3_copy 10 = .ok (.bipush 12, 2) := by decide +kernel
theorem dX3_copy_12 : decode cX3_copy 12 = .ok (.invokestatic 69, 3) := by decide +kernel
theorem dX3_copy_15 : decode cX3_copy 15 = .ok (.aload_n 1, 1) := by decide +kernel
theorem dX3_copy_16 : decode cX3_copy 16 = .ok (.getfield 15, 3) := by decide +kernel
theorem dX3_copy_19 : decode cX3_copy 19 = .ok (.iconst 0, 1) := by decide +kernel
theorem dX3_copy_20 : decode cX3_copy 20 = .ok (.aload_n 0, 1) := by decide +kernel
theorem dX3_copy_21 : decode cX3_copy 21 = .ok (.getfield 15, 3) := by decide +kernel
theorem dX3_copy_24 : decode cX3_copy 24 = .ok (.iconst 0, 1) := by decide +kernel
theorem dX3_copy_25 : decode cX3_copy 25 = .ok (.bipush 12, 2) := by decide +kernel
theorem dX3_copy_27 : decode cX3_copy 27 = .ok (.invokestatic 69, 3) := by decide +kernel
theorem dX3_copy_30 : decode cX3_copy 30 = .ok (.aload_n 0, 1) := by decide +kernel
theorem dX3_copy_31 : decode cX3_copy 31 = .ok (.aload_n 1, 1) := by decide +kernel
theorem dX3_copy_32 : decode cX3_copy 32 = .ok (.getfield 24, 3) := by decide +kernel
theorem dX3_copy_35 : decode cX3_copy 35 = .ok (.putfield 24, 3) := by decide +kernel
theorem dX3_copy_38 : decode cX3_copy 38 = .ok (.aload_n 0, 1) := by decide +kernel
theorem dX3_copy_39 : decode cX3_copy 39 = .ok (.aload_n 1, 1) := by decide +kernel
theorem dX3_copy_40 : decode cX3_copy 40 = .ok (.getfield 28, 3) := by decide +kernel
theorem dX3_copy_43 : decode cX3_copy 43 = .ok (.putfield 28, 3) := by decide +kernel
theorem dX3_copy_46 : decode cX3_copy 46 = .ok (.aload_n 0, 1) := by decide +kernel
theorem dX3_copy_47 : decode cX3_copy 47 = .ok (.aload_n 1, 1) := by decide +kernel
theorem dX3_copy_48 : decode cX3_copy 48 = .ok (.getfield 31, 3) := by decide +kernel
theorem dX3_copy_51 : decode cX3_copy 51 = .ok (.putfield 31, 3) := by decide +kernel
theorem dX3_copy_54 : decode cX3_copy 54 = .ok (.return_, 1) := by decide +kernel
theorem dX4_init_0 : decode cX4_init 0 = .ok (.aload_n 0, 1) := by decide +kernel
theorem dX4_init_1 : decode cX4_init 1 = .ok (.invokespecial 3, 3) := by decide +kernel
theorem dX4_init_4 : decode cX4_init 4 = .ok (.aload_n 0, 1) := by decide +kernel
theorem dX4_init_5 : decode cX4_init 5 = .ok (.iconst 5, 1) := by decide +kernel
theorem dX4_init_6 : decode cX4_init 6 = .ok (.newarray .int, 2) := by decide +kernel
theorem dX4_init_8 : decode cX4_init 8 = .ok (.putfield 9, 3) := by decide +kernel
theorem dX4_init_11 : decode cX4_init 11 = .ok (.return_, 1) := by decide +kernel
theorem dX4_copy_0 : decode cX4_copy 0 = .ok (.aload_n 1, 1) := by decide +kernel
theorem dX4_copy_1 : decode cX4_copy 1 = .ok (.getfield 9, 3) := by decide +kernel
theorem dX4_copy_4 : decode cX4_copy 4 = .ok (.iconst 0, 1) := by decide +kernel
theorem dX4_copy_5 : decode cX4_copy 5 = .ok (.aload_n 0, 1) := by decide +kernel
theorem dX4_copy_6 : decode cX4_copy 6 = .ok (.getfield 9, 3) := by decide +kernel
theorem dX4_copy_9 : decode cX4_copy 9 = .ok (.iconst 0, 1) := by decide +kernel
theorem dX4_copy_10 : decode cX4_copy 10 = .ok (.iconst 5, 1) := by decide +kernel
theorem dX4_copy_11 : decode cX4_copy 11 = .ok (.invokestatic 15, 3) := by decide +kernel
theorem dX4_copy_14 : decode cX4_copy 14 = .ok (.aload_n 0, 1) := by decide +kernel
theorem dX4_copy_15 : decode cX4_copy 15 = .ok (.aload_n 1, 1) := by decide +kernel
theorem dX4_copy_16 : decode cX4_copy 16 = .ok (.getfield 21, 3) := by decide +kernel
theorem dX4_copy_19 : decode cX4_copy 19 = .ok (.putfield 21, 3) := by decide +kernel
theorem dX4_copy_22 : decode cX4_copy 22 = .ok (.aload_n 0, 1) := by decide +kernel
theorem dX4_copy_23 : decode cX4_copy 23 = .ok (.aload_n 1, 1) := by decide +kernel
theorem dX4_copy_24 : decode cX4_copy 24 = .ok (.getfield 25, 3) := by decide +kernel
theorem dX4_copy_27 : decode cX4_copy 27 = .ok (.putfield 25, 3) := by decide +kernel
theorem dX4_copy_30 : decode cX4_copy 30 = .ok (.aload_n 0, 1) := by decide +kernel
theorem dX4_copy_31 : decode cX4_copy 31 = .ok (.aload_n 1, 1) := by decide +kernel
theorem dX4_copy_32 : decode cX4_copy 32 = .ok (.getfield 28, 3) := by decide +kernel
theorem dX4_copy_35 : decode cX4_copy 35 = .ok (.putfield 28, 3) := by decide +kernel
theorem dX4_copy_38 : decode cX4_copy 38 = .ok (.aload_n 0, 1) := by decide +kernel
theorem dX4_copy_39 : decode cX4_copy 39 = .ok (.aload_n 1, 1) := by decide +kernel
theorem dX4_copy_40 : decode cX4_copy 40 = .ok (.getfield 31, 3) := by decide +kernel
theorem dX4_copy_43 : decode cX4_copy 43 = .ok (.putfield 31, 3) := by decide +kernel
theorem dX4_copy_46 : decode cX4_copy 46 = .ok (.aload_n 0, 1) := by decide +kernel
theorem dX4_copy_47 : decode cX4_copy 47 = .ok (.aload_n 1, 1) := by decide +kernel
theorem dX4_copy_48 : decode cX4_copy 48 = .ok (.getfield 34, 3) := by decide +kernel
theorem dX4_copy_51 : decode cX4_copy 51 = .ok (.putfield 34, 3) := by decide +kernel
theorem dX4_copy_54 : decode cX4_copy 54 = .ok (.return_, 1) := by decide +kernel
theorem dX4_startWith_0 : decode cX4_startWith 0 = .ok (.aload_n 0, 1) := by decide +kernel
theorem dX4_startWith_1 : decode cX4_startWith 1 = .ok (.iload_n 1, 1) := by decide +kernel
theorem dX4_startWith_2 : decode cX4_startWith 2 = .ok (.putfield 25, 3) := by decide +kernel
theorem dX4_startWith_5 : decode cX4_startWith 5 = .ok (.aload_n 0, 1) := by decide +kernel
theorem dX4_startWith_6 : decode cX4_startWith 6 = .ok (.iconst 0, 1) := by decide +kernel
theorem dX4_startWith_7 : decode cX4_startWith 7 = .ok (.putfield 28, 3) := by decide +kernel
theorem dX4_startWith_10 : decode cX4_startWith 10 = .ok (.aload_n 0, 1) := by decide +kernel
theorem dX4_startWith_11 : decode cX4_startWith 11 = .ok (.iconst 0, 1) := by decide +kernel
theorem dX4_startWith_12 : decode cX4_startWith 12 = .ok (.putfield 31, 3) := by decide +kernel
theorem dX4_startWith_15 : decode cX4_startWith 15 = .ok (.aload_n 0, 1) := by decide +kernel
theorem dX4_startWith_16 : decode cX4_startWith 16 = .ok (.iconst 0, 1) := by decide +kernel
theorem dX4_startWith_17 : decode cX4_startWith 17 = .ok (.putfield 34, 3) := by decide +kernel
theorem dX4_startWith_20 : decode cX4_startWith 20 = .ok (.return_, 1) := by decide +kernel
theorem dX4_board_0 : decode cX4_board 0 = .ok (.aload_n 0, 1) := by decide +kernel
theorem dX4_board_1 : decode cX4_board 1 = .ok (.dup, 1) := by decide +kernel
theorem dX4_board_2 : decode cX4_board 2 = .ok (.getfield 25, 3) := by decide +kernel
theorem dX4_board_5 : decode cX4_board 5 = .ok (.iconst 1, 1) := by decide +kernel
theorem dX4_board_6 : decode cX4_board 6 = .ok (.iload_n 1, 1) := by decide +kernel
theorem dX4_board_7 : decode cX4_board 7 = .ok (.ishl, 1) := by decide +kernel
theorem dX4_board_8 : decode cX4_board 8 = .ok (.ior, 1) := by decide +kernel
theorem dX4_board_9 : decode cX4_board 9 = .ok (.putfield 25, 3) := by decide +kernel
theorem dX4_board_12 : decode cX4_board 12 = .ok (.aload_n 0, 1) := by decide +kernel
theorem dX4_board_13 : decode cX4_board 13 = .ok (.iload_n 1, 1) := by decide +kernel
theorem dX4_board_14 : decode cX4_board 14 = .ok (.iconst 0, 1) := by decide +kernel
theorem dX4_board_15 : decode cX4_board 15 = .ok (.invokevirtual 37, 3) := by decide +kernel
theorem dX4_board_18 : decode cX4_board 18 = .ok (.aload_n 0, 1) := by decide +kernel
theorem dX4_board_19 : decode cX4_board 19 = .ok (.iload_n 1, 1) := by decide +kernel
theorem dX4_board_20 : decode cX4_board 20 = .ok (.iconst 0, 1) := by decide +kernel
theorem dX4_board_21 : decode cX4_board 21 = .ok (.invokevirtual 41, 3) := by decide +kernel
theorem dX4_board_24 : decode cX4_board 24 = .ok (.return_, 1) := by decide +kernel
theorem dX4_isAboard_0 : decode cX4_isAboard 0 = .ok (.aload_n 0, 1) := by decide +kernel
theorem dX4_isAboard_1 : decode cX4_isAboard 1 = .ok (.getfield 25, 3) := by decide +kernel
theorem dX4_isAboard_4 : decode cX4_isAboard 4 = .ok (.iconst 1, 1) := by decide +kernel
theorem dX4_isAboard_5 : decode cX4_isAboard 5 = .ok (.iload_n 1, 1) := by decide +kernel
theorem dX4_isAboard_6 : decode cX4_isAboard 6 = .ok (.ishl, 1) := by decide +kernel
theorem dX4_isAboard_7 : decode cX4_isAboard 7 = .ok (.iand, 1) := by decide +kernel
theorem dX4_isAboard_8 : decode cX4_isAboard 8 = .ok (.ifCond .eq 7, 3) := by decide +kernel
theorem dX4_isAboard_11 : decode cX4_isAboard 11 = .ok (.iconst 1, 1) := by decide +kernel
theorem dX4_isAboard_12 : decode cX4_isAboard 12 = .ok (.goto 4, 3) := by decide +kernel
theorem dX4_isAboard_15 : decode cX4_isAboard 15 = .ok (.iconst 0, 1) := by decide +kernel
theorem dX4_isAboard_16 : decode cX4_isAboard 16 = .ok (.ireturn, 1) := by decide +kernel
theorem dX4_isWaxed_0 : decode cX4_isWaxed 0 = .ok (.aload_n 0, 1) := by decide +kernel
theorem dX4_isWaxed_1 : decode cX4_isWaxed 1 = .ok (.getfield 21, 3) := by decide +kernel
theorem dX4_isWaxed_4 : decode cX4_isWaxed 4 = .ok (.iconst 1, 1) := by decide +kernel
theorem dX4_isWaxed_5 : decode cX4_isWaxed 5 = .ok (.iload_n 1, 1) := by decide +kernel
theorem dX4_isWaxed_6 : decode cX4_isWaxed 6 = .ok (.ishl, 1) := by decide +kernel
theorem dX4_isWaxed_7 : decode cX4_isWaxed 7 = .ok (.iand, 1) := by decide +kernel
theorem dX4_isWaxed_8 : decode cX4_isWaxed 8 = .ok (.ifCond .eq 7, 3) := by decide +kernel
theorem dX4_isWaxed_11 : decode cX4_isWaxed 11 = .ok (.iconst 1, 1) := by decide +kernel
theorem dX4_isWaxed_12 : decode cX4_isWaxed 12 = .ok (.goto 4, 3) := by decide +kernel
theorem dX4_isWaxed_15 : decode cX4_isWaxed 15 = .ok (.iconst 0, 1) := by decide +kernel
theorem dX4_isWaxed_16 : decode cX4_isWaxed 16 = .ok (.ireturn, 1) := by decide +kernel
theorem dX4_setWax_0 : decode cX4_setWax 0 = .ok (.aload_n 0, 1) := by decide +kernel
theorem dX4_setWax_1 : decode cX4_setWax 1 = .ok (.iload_n 2, 1) := by decide +kernel
theorem dX4_setWax_2 : decode cX4_setWax 2 = .ok (.ifCond .eq 14, 3) := by decide +kernel
theorem dX4_setWax_5 : decode cX4_setWax 5 = .ok (.aload_n 0, 1) := by decide +kernel
theorem dX4_setWax_6 : decode cX4_setWax 6 = .ok (.getfield 21, 3) := by decide +kernel
theorem dX4_setWax_9 : decode cX4_setWax 9 = .ok (.iconst 1, 1) := by decide +kernel
theorem dX4_setWax_10 : decode cX4_setWax 10 = .ok (.iload_n 1, 1) := by decide +kernel
theorem dX4_setWax_11 : decode cX4_setWax 11 = .ok (.ishl, 1) := by decide +kernel
theorem dX4_setWax_12 : decode cX4_setWax 12 = .ok (.ior, 1) := by decide +kernel
theorem dX4_setWax_13 : decode cX4_setWax 13 = .ok (.goto 13, 3) := by decide +kernel
theorem dX4_setWax_16 : decode cX4_setWax 16 = .ok (.aload_n 0, 1) := by decide +kernel
theorem dX4_setWax_17 : decode cX4_setWax 17 = .ok (.getfield 21, 3) := by decide +kernel
theorem dX4_setWax_20 : decode cX4_setWax 20 = .ok (.iconst 1, 1) := by decide +kernel
theorem dX4_setWax_21 : decode cX4_setWax 21 = .ok (.iload_n 1, 1) := by decide +kernel
theorem dX4_setWax_22 : decode cX4_setWax 22 = .ok (.ishl, 1) := by decide +kernel
theorem dX4_setWax_23 : decode cX4_setWax 23 = .ok (.iconst (-1), 1) := by decide +kernel
theorem dX4_setWax_24 : decode cX4_setWax 24 = .ok (.ixor, 1) := by decide +kernel
theorem dX4_setWax_25 : decode cX4_setWax 25 = .ok (.iand, 1) := by decide +kernel
theorem dX4_setWax_26 : decode cX4_setWax 26 = .ok (.putfield 21, 3) := by decide +kernel
theorem dX4_setWax_29 : decode cX4_setWax 29 = .ok (.return_, 1) := by decide +kernel
theorem dX4_knotsOf_0 : decode cX4_knotsOf 0 = .ok (.iload_n 1, 1) := by decide +kernel
theorem dX4_knotsOf_1 : decode cX4_knotsOf 1 = .ok (.ifCond .lt 17, 3) := by decide +kernel
theorem dX4_knotsOf_4 : decode cX4_knotsOf 4 = .ok (.iload_n 1, 1) := by decide +kernel
theorem dX4_knotsOf_5 : decode cX4_knotsOf 5 = .ok (.iconst 5, 1) := by decide +kernel
theorem dX4_knotsOf_6 : decode cX4_knotsOf 6 = .ok (.if_icmp .ge 12, 3) := by decide +kernel
theorem dX4_knotsOf_9 : decode cX4_knotsOf 9 = .ok (.aload_n 0, 1) := by decide +kernel
theorem dX4_knotsOf_10 : decode cX4_knotsOf 10 = .ok (.getfield 9, 3) := by decide +kernel
theorem dX4_knotsOf_13 : decode cX4_knotsOf 13 = .ok (.iload_n 1, 1) := by decide +kernel
theorem dX4_knotsOf_14 : decode cX4_knotsOf 14 = .ok (.iaload, 1) := by decide +kernel
theorem dX4_knotsOf_15 : decode cX4_knotsOf 15 = .ok (.goto 4, 3) := by decide +kernel
theorem dX4_knotsOf_18 : decode cX4_knotsOf 18 = .ok (.iconst 0, 1) := by decide +kernel
theorem dX4_knotsOf_19 : decode cX4_knotsOf 19 = .ok (.ireturn, 1) := by decide +kernel
theorem dX4_setKnots_0 : decode cX4_setKnots 0 = .ok (.iload_n 1, 1) := by decide +kernel
theorem dX4_setKnots_1 : decode cX4_setKnots 1 = .ok (.ifCond .lt 15, 3) := by decide +kernel
theorem dX4_setKnots_4 : decode cX4_setKnots 4 = .ok (.iload_n 1, 1) := by decide +kernel
theorem dX4_setKnots_5 : decode cX4_setKnots 5 = .ok (.iconst 5, 1) := by decide +kernel
theorem dX4_setKnots_6 : decode cX4_setKnots 6 = .ok (.if_icmp .ge 10, 3) := by decide +kernel
theorem dX4_setKnots_9 : decode cX4_setKnots 9 = .ok (.aload_n 0, 1) := by decide +kernel
theorem dX4_setKnots_10 : decode cX4_setKnots 10 = .ok (.getfield 9, 3) := by decide +kernel
theorem dX4_setKnots_13 : decode cX4_setKnots 13 = .ok (.iload_n 1, 1) := by decide +kernel
theorem dX4_setKnots_14 : decode cX4_setKnots 14 = .ok (.iload_n 2, 1) := by decide +kernel
theorem dX4_setKnots_15 : decode cX4_setKnots 15 = .ok (.iastore, 1) := by decide +kernel
theorem dX4_setKnots_16 : decode cX4_setKnots 16 = .ok (.return_, 1) := by decide +kernel
theorem dX4_lostOf_0 : decode cX4_lostOf 0 = .ok (.aload_n 1, 1) := by decide +kernel
theorem dX4_lostOf_1 : decode cX4_lostOf 1 = .ok (.getfield 45, 3) := by decide +kernel
theorem dX4_lostOf_4 : decode cX4_lostOf 4 = .ok (.aload_n 0, 1) := by decide +kernel
theorem dX4_lostOf_5 : decode cX4_lostOf 5 = .ok (.getfield 25, 3) := by decide +kernel
theorem dX4_lostOf_8 : decode cX4_lostOf 8 = .ok (.invokestatic 50, 3) := by decide +kernel
theorem dX4_lostOf_11 : decode cX4_lostOf 11 = .ok (.isub, 1) := by decide +kernel
theorem dX4_lostOf_12 : decode cX4_lostOf 12 = .ok (.ireturn, 1) := by decide +kernel
theorem dX4_isHearing_0 : decode cX4_isHearing 0 = .ok (.aload_n 3, 1) := by decide +kernel
theorem dX4_isHearing_1 : decode cX4_isHearing 1 = .ok (.iload_n 1, 1) := by decide +kernel
theorem dX4_isHearing_2 : decode cX4_isHearing 2 = .ok (.invokevirtual 56, 3) := by decide +kernel
theorem dX4_isHearing_5 : decode cX4_isHearing 5 = .ok (.iconst 1, 1) := by decide +kernel
theorem dX4_isHearing_6 : decode cX4_isHearing 6 = .ok (.if_icmp .eq 26, 3) := by decide +kernel
theorem dX4_isHearing_9 : decode cX4_isHearing 9 = .ok (.aload_n 0, 1) := by decide +kernel
theorem dX4_isHearing_10 : decode cX4_isHearing 10 = .ok (.iload_n 1, 1) := by decide +kernel
theorem dX4_isHearing_11 : decode cX4_isHearing 11 = .ok (.invokevirtual 59, 3) := by decide +kernel
theorem dX4_isHearing_14 : decode cX4_isHearing 14 = .ok (.ifCond .eq 14, 3) := by decide +kernel
theorem dX4_isHearing_17 : decode cX4_isHearing 17 = .ok (.aload_n 0, 1) := by decide +kernel
theorem dX4_isHearing_18 : decode cX4_isHearing 18 = .ok (.getfield 31, 3) := by decide +kernel
theorem dX4_isHearing_21 : decode cX4_isHearing 21 = .ok (.aload_n 2, 1) := by decide +kernel
theorem dX4_isHearing_22 : decode cX4_isHearing 22 = .ok (.getfield 63, 3) := by decide +kernel
theorem dX4_isHearing_25 : decode cX4_isHearing 25 = .ok (.if_icmp .lt 7, 3) := by decide +kernel
theorem dX4_isHearing_28 : decode cX4_isHearing 28 = .ok (.iconst 1, 1) := by decide +kernel
theorem dX4_isHearing_29 : decode cX4_isHearing 29 = .ok (.goto 4, 3) := by decide +kernel
theorem dX4_isHearing_32 : decode cX4_isHearing 32 = .ok (.iconst 0, 1) := by decide +kernel
theorem dX4_isHearing_33 : decode cX4_isHearing 33 = .ok (.ireturn, 1) := by decide +kernel
theorem dX4_holdOn_0 : decode cX4_holdOn 0 = .ok (.aload_n 2, 1) := by decide +kernel
theorem dX4_holdOn_1 : decode cX4_holdOn 1 = .ok (.iload_n 1, 1) := by decide +kernel
theorem dX4_holdOn_2 : decode cX4_holdOn 2 = .ok (.invokevirtual 56, 3) := by decide +kernel
theorem dX4_holdOn_5 : decode cX4_holdOn 5 = .ok (.iconst 4, 1) := by decide +kernel
theorem dX4_holdOn_6 : decode cX4_holdOn 6 = .ok (.if_icmp .ne 7, 3) := by decide +kernel
theorem dX4_holdOn_9 : decode cX4_holdOn 9 = .ok (.iconst 3, 1) := by decide +kernel
theorem dX4_holdOn_10 : decode cX4_holdOn 10 = .ok (.goto 4, 3) := by decide +kernel
theorem dX4_holdOn_13 : decode cX4_holdOn 13 = .ok (.iconst 2, 1) := by decide +kernel
theorem dX4_holdOn_14 : decode cX4_holdOn 14 = .ok (.istore_n 3, 1) := by decide +kernel
theorem dX4_holdOn_15 : decode cX4_holdOn 15 = .ok (.aload_n 2, 1) := by decide +kernel
theorem dX4_holdOn_16 : decode cX4_holdOn 16 = .ok (.iload_n 1, 1) := by decide +kernel
theorem dX4_holdOn_17 : decode cX4_holdOn 17 = .ok (.invokevirtual 68, 3) := by decide +kernel
theorem dX4_holdOn_20 : decode cX4_holdOn 20 = .ok (.iload_n 3, 1) := by decide +kernel
theorem dX4_holdOn_21 : decode cX4_holdOn 21 = .ok (.aload_n 0, 1) := by decide +kernel
theorem dX4_holdOn_22 : decode cX4_holdOn 22 = .ok (.iload_n 1, 1) := by decide +kernel
theorem dX4_holdOn_23 : decode cX4_holdOn 23 = .ok (.invokevirtual 71, 3) := by decide +kernel
theorem dX4_holdOn_26 : decode cX4_holdOn 26 = .ok (.imul, 1) := by decide +kernel
theorem dX4_holdOn_27 : decode cX4_holdOn 27 = .ok (.iadd, 1) := by decide +kernel
theorem dX4_holdOn_28 : decode cX4_holdOn 28 = .ok (.ireturn, 1) := by decide +kernel
theorem dX4_rowOn_0 : decode cX4_rowOn 0 = .ok (.iconst 0, 1) := by decide +kernel
theorem dX4_rowOn_1 : decode cX4_rowOn 1 = .ok (.istore_n 3, 1) := by decide +kernel
theorem dX4_rowOn_2 : decode cX4_rowOn 2 = .ok (.iload_n 3, 1) := by decide +kernel
theorem dX4_rowOn_3 : decode cX4_rowOn 3 = .ok (.bipush 30, 2) := by decide +kernel
theorem dX4_rowOn_5 : decode cX4_rowOn 5 = .ok (.if_icmp .ge 23, 3) := by decide +kernel
theorem dX4_rowOn_8 : decode cX4_rowOn 8 = .ok (.aload_n 0, 1) := by decide +kernel
theorem dX4_rowOn_9 : decode cX4_rowOn 9 = .ok (.getfield 34, 3) := by decide +kernel
theorem dX4_rowOn_12 : decode cX4_rowOn 12 = .ok (.ifCond .ne 16, 3) := by decide +kernel
theorem dX4_rowOn_15 : decode cX4_rowOn 15 = .ok (.aload_n 0, 1) := by decide +kernel
theorem dX4_rowOn_16 : decode cX4_rowOn 16 = .ok (.aload_n 1, 1) := by decide +kernel
theorem dX4_rowOn_17 : decode cX4_rowOn 17 = .ok (.aload_n 2, 1) := by decide +kernel
theorem dX4_rowOn_18 : decode cX4_rowOn 18 = .ok (.invokevirtual 74, 3) := by decide +kernel
theorem dX4_rowOn_21 : decode cX4_rowOn 21 = .ok (.pop, 1) := by decide +kernel
theorem dX4_rowOn_22 : decode cX4_rowOn 22 = .ok (.iinc 3 1, 3) := by decide +kernel
theorem dX4_rowOn_25 : decode cX4_rowOn 25 = .ok (.goto (-23), 3) := by decide +kernel
theorem dX4_rowOn_28 : decode cX4_rowOn 28 = .ok (.iload_n 3, 1) := by decide +kernel
theorem dX4_rowOn_29 : decode cX4_rowOn 29 = .ok (.ireturn, 1) := by decide +kernel
theorem dX4_row_0 : decode cX4_row 0 = .ok (.aload_n 0, 1) := by decide +kernel
theorem dX4_row_1 : decode cX4_row 1 = .ok (.aload_n 1, 1) := by decide +kernel
theorem dX4_row_2 : decode cX4_row 2 = .ok (.aload_n 2, 1) := by decide +kernel
theorem dX4_row_3 : decode cX4_row 3 = .ok (.invokevirtual 78, 3) := by decide +kernel
theorem dX4_row_6 : decode cX4_row 6 = .ok (.istore_n 3, 1) := by decide +kernel
theorem dX4_row_7 : decode cX4_row 7 = .ok (.aload_n 0, 1) := by decide +kernel
theorem dX4_row_8 : decode cX4_row 8 = .ok (.dup, 1) := by decide +kernel
theorem dX4_row_9 : decode cX4_row 9 = .ok (.getfield 25, 3) := by decide +kernel
theorem dX4_row_12 : decode cX4_row 12 = .ok (.iload_n 3, 1) := by decide +kernel
theorem dX4_row_13 : decode cX4_row 13 = .ok (.iconst (-1), 1) := by decide +kernel
theorem dX4_row_14 : decode cX4_row 14 = .ok (.ixor, 1) := by decide +kernel
theorem dX4_row_15 : decode cX4_row 15 = .ok (.iand, 1) := by decide +kernel
theorem dX4_row_16 : decode cX4_row 16 = .ok (.putfield 25, 3) := by decide +kernel
theorem dX4_row_19 : decode cX4_row 19 = .ok (.aload_n 0, 1) := by decide +kernel
theorem dX4_row_20 : decode cX4_row 20 = .ok (.getfield 25, 3) := by decide +kernel
theorem dX4_row_23 : decode cX4_row 23 = .ok (.ifCond .ne 11, 3) := by decide +kernel
theorem dX4_row_26 : decode cX4_row 26 = .ok (.aload_n 0, 1) := by decide +kernel
theorem dX4_row_27 : decode cX4_row 27 = .ok (.iconst 3, 1) := by decide +kernel
theorem dX4_row_28 : decode cX4_row 28 = .ok (.putfield 34, 3) := by decide +kernel
theorem dX4_row_31 : decode cX4_row 31 = .ok (.goto 50, 3) := by decide +kernel
theorem dX4_row_34 : decode cX4_row 34 = .ok (.aload_n 0, 1) := by decide +kernel
theorem dX4_row_35 : decode cX4_row 35 = .ok (.aload_n 1, 1) := by decide +kernel
theorem dX4_row_36 : decode cX4_row 36 = .ok (.aload_n 0, 1) := by decide +kernel
theorem dX4_row_37 : decode cX4_row 37 = .ok (.getfield 28, 3) := by decide +kernel
theorem dX4_row_40 : decode cX4_row 40 = .ok (.invokevirtual 81, 3) := by decide +kernel
theorem dX4_row_43 : decode cX4_row 43 = .ok (.aload_n 1, 1) := by decide +kernel
theorem dX4_row_44 : decode cX4_row 44 = .ok (.aload_n 2, 1) := by decide +kernel
theorem dX4_row_45 : decode cX4_row 45 = .ok (.invokevirtual 84, 3) := by decide +kernel
theorem dX4_row_48 : decode cX4_row 48 = .ok (.ifCond .eq 16, 3) := by decide +kernel
theorem dX4_row_51 : decode cX4_row 51 = .ok (.aload_n 0, 1) := by decide +kernel
theorem dX4_row_52 : decode cX4_row 52 = .ok (.iconst 0, 1) := by decide +kernel
theorem dX4_row_53 : decode cX4_row 53 = .ok (.putfield 25, 3) := by decide +kernel
theorem dX4_row_56 : decode cX4_row 56 = .ok (.aload_n 0, 1) := by decide +kernel
theorem dX4_row_57 : decode cX4_row 57 = .ok (.iconst 2, 1) := by decide +kernel
theorem dX4_row_58 : decode cX4_row 58 = .ok (.putfield 34, 3) := by decide +kernel
theorem dX4_row_61 : decode cX4_row 61 = .ok (.goto 20, 3) := by decide +kernel
theorem dX4_row_64 : decode cX4_row 64 = .ok (.aload_n 0, 1) := by decide +kernel
theorem dX4_row_65 : decode cX4_row 65 = .ok (.aload_n 2, 1) := by decide +kernel
theorem dX4_row_66 : decode cX4_row 66 = .ok (.invokevirtual 88, 3) := by decide +kernel
theorem dX4_row_69 : decode cX4_row 69 = .ok (.aload_n 1, 1) := by decide +kernel
theorem dX4_row_70 : decode cX4_row 70 = .ok (.getfield 92, 3) := by decide +kernel
theorem dX4_row_73 : decode cX4_row 73 = .ok (.if_icmp .lt 8, 3) := by decide +kernel
theorem dX4_row_76 : decode cX4_row 76 = .ok (.aload_n 0, 1) := by decide +kernel
theorem dX4_row_77 : decode cX4_row 77 = .ok (.aload_n 1, 1) := by decide +kernel
theorem dX4_row_78 : decode cX4_row 78 = .ok (.invokevirtual 95, 3) := by decide +kernel
theorem dX4_row_81 : decode cX4_row 81 = .ok (.aload_n 0, 1) := by decide +kernel
theorem dX4_row_82 : decode cX4_row 82 = .ok (.dup, 1) := by decide +kernel
theorem dX4_row_83 : decode cX4_row 83 = .ok (.getfield 31, 3) := by decide +kernel
theorem dX4_row_86 : decode cX4_row 86 = .ok (.iconst 1, 1) := by decide +kernel
theorem dX4_row_87 : decode cX4_row 87 = .ok (.iadd, 1) := by decide +kernel
theorem dX4_row_88 : decode cX4_row 88 = .ok (.putfield 31, 3) := by decide +kernel
theorem dX4_row_91 : decode cX4_row 91 = .ok (.iload_n 3, 1) := by decide +kernel
theorem dX4_row_92 : decode cX4_row 92 = .ok (.ireturn, 1) := by decide +kernel
theorem dX4_comeOn_0 : decode cX4_comeOn 0 = .ok (.aload_n 0, 1) := by decide +kernel
theorem dX4_comeOn_1 : decode cX4_comeOn 1 = .ok (.getfield 28, 3) := by decide +kernel
theorem dX4_comeOn_4 : decode cX4_comeOn 4 = .ok (.iconst 1, 1) := by decide +kernel
theorem dX4_comeOn_5 : decode cX4_comeOn 5 = .ok (.iadd, 1) := by decide +kernel
theorem dX4_comeOn_6 : decode cX4_comeOn 6 = .ok (.aload_n 1, 1) := by decide +kernel
theorem dX4_comeOn_7 : decode cX4_comeOn 7 = .ok (.getfield 99, 3) := by decide +kernel
theorem dX4_comeOn_10 : decode cX4_comeOn 10 = .ok (.if_icmp .ge 16, 3) := by decide +kernel
theorem dX4_comeOn_13 : decode cX4_comeOn 13 = .ok (.aload_n 0, 1) := by decide +kernel
theorem dX4_comeOn_14 : decode cX4_comeOn 14 = .ok (.dup, 1) := by decide +kernel
theorem dX4_comeOn_15 : decode cX4_comeOn 15 = .ok (.getfield 28, 3) := by decide +kernel
theorem dX4_comeOn_18 : decode cX4_comeOn 18 = .ok (.iconst 1, 1) := by decide +kernel
theorem dX4_comeOn_19 : decode cX4_comeOn 19 = .ok (.iadd, 1) := by decide +kernel
theorem dX4_comeOn_20 : decode cX4_comeOn 20 = .ok (.putfield 28, 3) := by decide +kernel
theorem dX4_comeOn_23 : decode cX4_comeOn 23 = .ok (.goto 8, 3) := by decide +kernel
theorem dX4_comeOn_26 : decode cX4_comeOn 26 = .ok (.aload_n 0, 1) := by decide +kernel
theorem dX4_comeOn_27 : decode cX4_comeOn 27 = .ok (.iconst 1, 1) := by decide +kernel
theorem dX4_comeOn_28 : decode cX4_comeOn 28 = .ok (.putfield 34, 3) := by decide +kernel
theorem dX4_comeOn_31 : decode cX4_comeOn 31 = .ok (.return_, 1) := by decide +kernel
theorem dX4_swimmersAt_0 : decode cX4_swimmersAt 0 = .ok (.aload_n 1, 1) := by decide +kernel
theorem dX4_swimmersAt_1 : decode cX4_swimmersAt 1 = .ok (.aload_n 0, 1) := by decide +kernel
theorem dX4_swimmersAt_2 : decode cX4_swimmersAt 2 = .ok (.getfield 28, 3) := by decide +kernel
theorem dX4_swimmersAt_5 : decode cX4_swimmersAt 5 = .ok (.invokevirtual 100, 3) := by decide +kernel
theorem dX4_swimmersAt_8 : decode cX4_swimmersAt 8 = .ok (.istore_n 3, 1) := by decide +kernel
theorem dX4_swimmersAt_9 : decode cX4_swimmersAt 9 = .ok (.iconst 0, 1) := by decide +kernel
theorem dX4_swimmersAt_10 : decode cX4_swimmersAt 10 = .ok (.istore 4, 2) := by decide +kernel
theorem dX4_swimmersAt_12 : decode cX4_swimmersAt 12 = .ok (.iconst 0, 1) := by decide +kernel
theorem dX4_swimmersAt_13 : decode cX4_swimmersAt 13 = .ok (.istore 5, 2) := by decide +kernel
theorem dX4_swimmersAt_15 : decode cX4_swimmersAt 15 = .ok (.iload 5, 2) := by decide +kernel
theorem dX4_swimmersAt_17 : decode cX4_swimmersAt 17 = .ok (.aload_n 2, 1) := by decide +kernel
theorem dX4_swimmersAt_18 : decode cX4_swimmersAt 18 = .ok (.getfield 45, 3) := by decide +kernel
theorem dX4_swimmersAt_21 : decode cX4_swimmersAt 21 = .ok (.if_icmp .ge 69, 3) := by decide +kernel
theorem dX4_swimmersAt_24 : decode cX4_swimmersAt 24 = .ok (.aload_n 2, 1) := by decide +kernel
theorem dX4_swimmersAt_25 : decode cX4_swimmersAt 25 = .ok (.iload 5, 2) := by decide +kernel
theorem dX4_swimmersAt_27 : decode cX4_swimmersAt 27 = .ok (.invokevirtual 56, 3) := by decide +kernel
theorem dX4_swimmersAt_30 : decode cX4_swimmersAt 30 = .ok (.iconst 2, 1) := by decide +kernel
theorem dX4_swimmersAt_31 : decode cX4_swimmersAt 31 = .ok (.if_icmp .ne 9, 3) := by decide +kernel
theorem dX4_swimmersAt_34 : decode cX4_swimmersAt 34 = .ok (.iload_n 3, 1) := by decide +kernel
theorem dX4_swimmersAt_35 : decode cX4_swimmersAt 35 = .ok (.iconst 2, 1) := by decide +kernel
theorem dX4_swimmersAt_36 : decode cX4_swimmersAt 36 = .ok (.idiv, 1) := by decide +kernel
theorem dX4_swimmersAt_37 : decode cX4_swimmersAt 37 = .ok (.goto 4, 3) := by decide +kernel
theorem dX4_swimmersAt_40 : decode cX4_swimmersAt 40 = .ok (.iload_n 3, 1) := by decide +kernel
theorem dX4_swimmersAt_41 : decode cX4_swimmersAt 41 = .ok (.istore 6, 2) := by decide +kernel
theorem dX4_swimmersAt_43 : decode cX4_swimmersAt 43 = .ok (.aload_n 0, 1) := by decide +kernel
theorem dX4_swimmersAt_44 : decode cX4_swimmersAt 44 = .ok (.iload 5, 2) := by decide +kernel
theorem dX4_swimmersAt_46 : decode cX4_swimmersAt 46 = .ok (.invokevirtual 103, 3) := by decide +kernel
theorem dX4_swimmersAt_49 : decode cX4_swimmersAt 49 = .ok (.ifCond .eq 35, 3) := by decide +kernel
theorem dX4_swimmersAt_52 : decode cX4_swimmersAt 52 = .ok (.aload_n 0, 1) := by decide +kernel
theorem dX4_swimmersAt_53 : decode cX4_swimmersAt 53 = .ok (.iload 5, 2) := by decide +kernel
theorem dX4_swimmersAt_55 : decode cX4_swimmersAt 55 = .ok (.aload_n 1, 1) := by decide +kernel
theorem dX4_swimmersAt_56 : decode cX4_swimmersAt 56 = .ok (.aload_n 2, 1) := by decide +kernel
theorem dX4_swimmersAt_57 : decode cX4_swimmersAt 57 = .ok (.invokevirtual 106, 3) := by decide +kernel
theorem dX4_swimmersAt_60 : decode cX4_swimmersAt 60 = .ok (.ifCond .eq 24, 3) := by decide +kernel
theorem dX4_swimmersAt_63 : decode cX4_swimmersAt 63 = .ok (.aload_n 0, 1) := by decide +kernel
theorem dX4_swimmersAt_64 : decode cX4_swimmersAt 64 = .ok (.iload 5, 2) := by decide +kernel
theorem dX4_swimmersAt_66 : decode cX4_swimmersAt 66 = .ok (.aload_n 2, 1) := by decide +kernel
theorem dX4_swimmersAt_67 : decode cX4_swimmersAt 67 = .ok (.invokevirtual 109, 3) := by decide +kernel
theorem dX4_swimmersAt_70 : decode cX4_swimmersAt 70 = .ok (.iload 6, 2) := by decide +kernel
theorem dX4_swimmersAt_72 : decode cX4_swimmersAt 72 = .ok (.if_icmp .ge 12, 3) := by decide +kernel
theorem dX4_swimmersAt_75 : decode cX4_swimmersAt 75 = .ok (.iload 4, 2) := by decide +kernel
theorem dX4_swimmersAt_77 : decode cX4_swimmersAt 77 = .ok (.iconst 1, 1) := by decide +kernel
theorem dX4_swimmersAt_78 : decode cX4_swimmersAt 78 = .ok (.iload 5, 2) := by decide +kernel
theorem dX4_swimmersAt_80 : decode cX4_swimmersAt 80 = .ok (.ishl, 1) := by decide +kernel
theorem dX4_swimmersAt_81 : decode cX4_swimmersAt 81 = .ok (.ior, 1) := by decide +kernel
theorem dX4_swimmersAt_82 : decode cX4_swimmersAt 82 = .ok (.istore 4, 2) := by decide +kernel
theorem dX4_swimmersAt_84 : decode cX4_swimmersAt 84 = .ok (.iinc 5 1, 3) := by decide +kernel
theorem dX4_swimmersAt_87 : decode cX4_swimmersAt 87 = .ok (.goto (-72), 3) := by decide +kernel
theorem dX4_swimmersAt_90 : decode cX4_swimmersAt 90 = .ok (.iload 4, 2) := by decide +kernel
theorem dX4_swimmersAt_92 : decode cX4_swimmersAt 92 = .ok (.ireturn, 1) := by decide +kernel
theorem dX4_isStriking_0 : decode cX4_isStriking 0 = .ok (.iload_n 1, 1) := by decide +kernel
theorem dX4_isStriking_1 : decode cX4_isStriking 1 = .ok (.ifCond .ne 5, 3) := by decide +kernel
theorem dX4_isStriking_4 : decode cX4_isStriking 4 = .ok (.iconst 0, 1) := by decide +kernel
theorem dX4_isStriking_5 : decode cX4_isStriking 5 = .ok (.ireturn, 1) := by decide +kernel
theorem dX4_isStriking_6 : decode cX4_isStriking 6 = .ok (.iconst 0, 1) := by decide +kernel
theorem dX4_isStriking_7 : decode cX4_isStriking 7 = .ok (.istore 4, 2) := by decide +kernel
theorem dX4_isStriking_9 : decode cX4_isStriking 9 = .ok (.iload 4, 2) := by decide +kernel
theorem dX4_isStriking_11 : decode cX4_isStriking 11 = .ok (.aload_n 3, 1) := by decide +kernel
theorem dX4_isStriking_12 : decode cX4_isStriking 12 = .ok (.getfield 45, 3) := by decide +kernel
theorem dX4_isStriking_15 : decode cX4_isStriking 15 = .ok (.if_icmp .ge 62, 3) := by decide +kernel
theorem dX4_isStriking_18 : decode cX4_isStriking 18 = .ok (.iload_n 1, 1) := by decide +kernel
theorem dX4_isStriking_19 : decode cX4_isStriking 19 = .ok (.iconst 1, 1) := by decide +kernel
theorem dX4_isStriking_20 : decode cX4_isStriking 20 = .ok (.if_icmp .ne 25, 3) := by decide +kernel
theorem dX4_isStriking_23 : decode cX4_isStriking 23 = .ok (.aload_n 0, 1) := by decide +kernel
theorem dX4_isStriking_24 : decode cX4_isStriking 24 = .ok (.iload 4, 2) := by decide +kernel
theorem dX4_isStriking_26 : decode cX4_isStriking 26 = .ok (.invokevirtual 103, 3) := by decide +kernel
theorem dX4_isStriking_29 : decode cX4_isStriking 29 = .ok (.ifCond .eq 16, 3) := by decide +kernel
theorem dX4_isStriking_32 : decode cX4_isStriking 32 = .ok (.aload_n 0, 1) := by decide +kernel
theorem dX4_isStriking_33 : decode cX4_isStriking 33 = .ok (.iload 4, 2) := by decide +kernel
theorem dX4_isStriking_35 : decode cX4_isStriking 35 = .ok (.aload_n 2, 1) := by decide +kernel
theorem dX4_isStriking_36 : decode cX4_isStriking 36 = .ok (.aload_n 3, 1) := by decide +kernel
theorem dX4_isStriking_37 : decode cX4_isStriking 37 = .ok (.invokevirtual 106, 3) := by decide +kernel
theorem dX4_isStriking_40 : decode cX4_isStriking 40 = .ok (.ifCond .eq 5, 3) := by decide +kernel
theorem dX4_isStriking_43 : decode cX4_isStriking 43 = .ok (.iconst 0, 1) := by decide +kernel
theorem dX4_isStriking_44 : decode cX4_isStriking 44 = .ok (.ireturn, 1) := by decide +kernel
theorem dX4_isStriking_45 : decode cX4_isStriking 45 = .ok (.iload_n 1, 1) := by decide +kernel
theorem dX4_isStriking_46 : decode cX4_isStriking 46 = .ok (.iconst 2, 1) := by decide +kernel
theorem dX4_isStriking_47 : decode cX4_isStriking 47 = .ok (.if_icmp .ne 24, 3) := by decide +kernel
theorem dX4_isStriking_50 : decode cX4_isStriking 50 = .ok (.aload_n 0, 1) := by decide +kernel
theorem dX4_isStriking_51 : decode cX4_isStriking 51 = .ok (.iload 4, 2) := by decide +kernel
theorem dX4_isStriking_53 : decode cX4_isStriking 53 = .ok (.invokevirtual 113, 3) := by decide +kernel
theorem dX4_isStriking_56 : decode cX4_isStriking 56 = .ok (.ifCond .eq 15, 3) := by decide +kernel
theorem dX4_isStriking_59 : decode cX4_isStriking 59 = .ok (.aload_n 3, 1) := by decide +kernel
theorem dX4_isStriking_60 : decode cX4_isStriking 60 = .ok (.iload 4, 2) := by decide +kernel
theorem dX4_isStriking_62 : decode cX4_isStriking 62 = .ok (.iconst 3, 1) := by decide +kernel
theorem dX4_isStriking_63 : decode cX4_isStriking 63 = .ok (.invokevirtual 116, 3) := by decide +kernel
theorem dX4_isStriking_66 : decode cX4_isStriking 66 = .ok (.ifCond .eq 5, 3) := by decide +kernel
theorem dX4_isStriking_69 : decode cX4_isStriking 69 = .ok (.iconst 0, 1) := by decide +kernel
theorem dX4_isStriking_70 : decode cX4_isStriking 70 = .ok (.ireturn, 1) := by decide +kernel
theorem dX4_isStriking_71 : decode cX4_isStriking 71 = .ok (.iinc 4 1, 3) := by decide +kernel
theorem dX4_isStriking_74 : decode cX4_isStriking 74 = .ok (.goto (-65), 3) := by decide +kernel
theorem dX4_isStriking_77 : decode cX4_isStriking 77 = .ok (.iconst 1, 1) := by decide +kernel
theorem dX4_isStriking_78 : decode cX4_isStriking 78 = .ok (.ireturn, 1) := by decide +kernel
theorem dX4_freeOars_0 : decode cX4_freeOars 0 = .ok (.iconst 0, 1) := by decide +kernel
theorem dX4_freeOars_1 : decode cX4_freeOars 1 = .ok (.istore_n 2, 1) := by decide +kernel
theorem dX4_freeOars_2 : decode cX4_freeOars 2 = .ok (.iconst 0, 1) := by decide +kernel
theorem dX4_freeOars_3 : decode cX4_freeOars 3 = .ok (.istore_n 3, 1) := by decide +kernel
theorem dX4_freeOars_4 : decode cX4_freeOars 4 = .ok (.iload_n 3, 1) := by decide +kernel
theorem dX4_freeOars_5 : decode cX4_freeOars 5 = .ok (.aload_n 1, 1) := by decide +kernel
theorem dX4_freeOars_6 : decode cX4_freeOars 6 = .ok (.getfield 45, 3) := by decide +kernel
theorem dX4_freeOars_9 : decode cX4_freeOars 9 = .ok (.if_icmp .ge 25, 3) := by decide +kernel
theorem dX4_freeOars_12 : decode cX4_freeOars 12 = .ok (.aload_n 0, 1) := by decide +kernel
theorem dX4_freeOars_13 : decode cX4_freeOars 13 = .ok (.iload_n 3, 1) := by decide +kernel
theorem dX4_freeOars_14 : decode cX4_freeOars 14 = .ok (.invokevirtual 113, 3) := by decide +kernel
theorem dX4_freeOars_17 : decode cX4_freeOars 17 = .ok (.ifCond .eq 11, 3) := by decide +kernel
theorem dX4_freeOars_20 : decode cX4_freeOars 20 = .ok (.iload_n 2, 1) := by decide +kernel
theorem dX4_freeOars_21 : decode cX4_freeOars 21 = .ok (.aload_n 1, 1) := by decide +kernel
theorem dX4_freeOars_22 : decode cX4_freeOars 22 = .ok (.iload_n 3, 1) := by decide +kernel
theorem dX4_freeOars_23 : decode cX4_freeOars 23 = .ok (.invokevirtual 120, 3) := by decide +kernel
theorem dX4_freeOars_26 : decode cX4_freeOars 26 = .ok (.iadd, 1) := by decide +kernel
theorem dX4_freeOars_27 : decode cX4_freeOars 27 = .ok (.istore_n 2, 1) := by decide +kernel
theorem dX4_freeOars_28 : decode cX4_freeOars 28 = .ok (.iinc 3 1, 3) := by decide +kernel
theorem dX4_freeOars_31 : decode cX4_freeOars 31 = .ok (.goto (-27), 3) := by decide +kernel
theorem dX4_freeOars_34 : decode cX4_freeOars 34 = .ok (.iload_n 2, 1) := by decide +kernel
theorem dX4_freeOars_35 : decode cX4_freeOars 35 = .ok (.ireturn, 1) := by decide +kernel
theorem dX4_isFree_0 : decode cX4_isFree 0 = .ok (.aload_n 0, 1) := by decide +kernel
theorem dX4_isFree_1 : decode cX4_isFree 1 = .ok (.iload_n 1, 1) := by decide +kernel
theorem dX4_isFree_2 : decode cX4_isFree 2 = .ok (.invokevirtual 103, 3) := by decide +kernel
theorem dX4_isFree_5 : decode cX4_isFree 5 = .ok (.ifCond .eq 15, 3) := by decide +kernel
theorem dX4_isFree_8 : decode cX4_isFree 8 = .ok (.aload_n 0, 1) := by decide +kernel
theorem dX4_isFree_9 : decode cX4_isFree 9 = .ok (.iload_n 1, 1) := by decide +kernel
theorem dX4_isFree_10 : decode cX4_isFree 10 = .ok (.invokevirtual 71, 3) := by decide +kernel
theorem dX4_isFree_13 : decode cX4_isFree 13 = .ok (.ifCond .ne 7, 3) := by decide +kernel
theorem dX4_isFree_16 : decode cX4_isFree 16 = .ok (.iconst 1, 1) := by decide +kernel
theorem dX4_isFree_17 : decode cX4_isFree 17 = .ok (.goto 4, 3) := by decide +kernel
theorem dX4_isFree_20 : decode cX4_isFree 20 = .ok (.iconst 0, 1) := by decide +kernel
theorem dX4_isFree_21 : decode cX4_isFree 21 = .ok (.ireturn, 1) := by decide +kernel
theorem dX5_init_0 : decode cX5_init 0 = .ok (.aload_n 0, 1) := by decide +kernel
theorem dX5_init_1 : decode cX5_init 1 = .ok (.invokespecial 3, 3) := by decide +kernel
theorem dX5_init_4 : decode cX5_init 4 = .ok (.aload_n 0, 1) := by decide +kernel
theorem dX5_init_5 : decode cX5_init 5 = .ok (.new 9, 3) := by decide +kernel
theorem dX5_init_8 : decode cX5_init 8 = .ok (.dup, 1) := by decide +kernel
theorem dX5_init_9 : decode cX5_init 9 = .ok (.invokespecial 11, 3) := by decide +kernel
theorem dX5_init_12 : decode cX5_init 12 = .ok (.putfield 12, 3) := by decide +kernel
theorem dX5_init_15 : decode cX5_init 15 = .ok (.aload_n 0, 1) := by decide +kernel
theorem dX5_init_16 : decode cX5_init 16 = .ok (.new 16, 3) := by decide +kernel
theorem dX5_init_19 : decode cX5_init 19 = .ok (.dup, 1) := by decide +kernel
theorem dX5_init_20 : decode cX5_init 20 = .ok (.invokespecial 18, 3) := by decide +kernel
theorem dX5_init_23 : decode cX5_init 23 = .ok (.putfield 19, 3) := by decide +kernel
theorem dX5_init_26 : decode cX5_init 26 = .ok (.aload_n 0, 1) := by decide +kernel
theorem dX5_init_27 : decode cX5_init 27 = .ok (.new 23, 3) := by decide +kernel
theorem dX5_init_30 : decode cX5_init 30 = .ok (.dup, 1) := by decide +kernel
theorem dX5_init_31 : decode cX5_init 31 = .ok (.invokespecial 25, 3) := by decide +kernel
theorem dX5_init_34 : decode cX5_init 34 = .ok (.putfield 26, 3) := by decide +kernel
theorem dX5_init_37 : decode cX5_init 37 = .ok (.aload_n 0, 1) := by decide +kernel
theorem dX5_init_38 : decode cX5_init 38 = .ok (.new 30, 3) := by decide +kernel
theorem dX5_init_41 : decode cX5_init 41 = .ok (.dup, 1) := by decide +kernel
theorem dX5_init_42 : decode cX5_init 42 = .ok (.invokespecial 32, 3) := by decide +kernel
theorem dX5_init_45 : decode cX5_init 45 = .ok (.putfield 33, 3) := by decide +kernel
theorem dX5_init_48 : decode cX5_init 48 = .ok (.aload_n 0, 1) := by decide +kernel
theorem dX5_init_49 : decode cX5_init 49 = .ok (.new 37, 3) := by decide +kernel
theorem dX5_init_52 : decode cX5_init 52 = .ok (.dup, 1) := by decide +kernel
theorem dX5_init_53 : decode cX5_init 53 = .ok (.invokespecial 39, 3) := by decide +kernel
theorem dX5_init_56 : decode cX5_init 56 = .ok (.putfield 40, 3) := by decide +kernel
theorem dX5_init_59 : decode cX5_init 59 = .ok (.aload_n 0, 1) := by decide +kernel
theorem dX5_init_60 : decode cX5_init 60 = .ok (.new 30, 3) := by decide +kernel
theorem dX5_init_63 : decode cX5_init 63 = .ok (.dup, 1) := by decide +kernel
theorem dX5_init_64 : decode cX5_init 64 = .ok (.invokespecial 32, 3) := by decide +kernel
theorem dX5_init_67 : decode cX5_init 67 = .ok (.putfield 44, 3) := by decide +kernel
theorem dX5_init_70 : decode cX5_init 70 = .ok (.aload_n 0, 1) := by decide +kernel
theorem dX5_init_71 : decode cX5_init 71 = .ok (.new 37, 3) := by decide +kernel
theorem dX5_init_74 : decode cX5_init 74 = .ok (.dup, 1) := by decide +kernel
theorem dX5_init_75 : decode cX5_init 75 = .ok (.invokespecial 39, 3) := by decide +kernel
theorem dX5_init_78 : decode cX5_init 78 = .ok (.putfield 47, 3) := by decide +kernel
theorem dX5_init_81 : decode cX5_init 81 = .ok (.aload_n 0, 1) := by decide +kernel
theorem dX5_init_82 : decode cX5_init 82 = .ok (.new 30, 3) := by decide +kernel
theorem dX5_init_85 : decode cX5_init 85 = .ok (.dup, 1) := by decide +kernel
theorem dX5_init_86 : decode cX5_init 86 = .ok (.invokespecial 32, 3) := by decide +kernel
theorem dX5_init_89 : decode cX5_init 89 = .ok (.putfield 50, 3) := by decide +kernel
theorem dX5_init_92 : decode cX5_init 92 = .ok (.aload_n 0, 1) := by decide +kernel
theorem dX5_init_93 : decode cX5_init 93 = .ok (.new 16, 3) := by decide +kernel
theorem dX5_init_96 : decode cX5_init 96 = .ok (.dup, 1) := by decide +kernel
theorem dX5_init_97 : decode cX5_init 97 = .ok (.invokespecial 18, 3) := by decide +kernel
theorem dX5_init_100 : decode cX5_init 100 = .ok (.putfield 53, 3) := by decide +kernel
theorem dX5_init_103 : decode cX5_init 103 = .ok (.return_, 1) := by decide +kernel
theorem dX5_letter_0 : decode cX5_letter 0 = .ok (.iload_n 1, 1) := by decide +kernel
theorem dX5_letter_1 : decode cX5_letter 1 = .ok (.bipush 32, 2) := by decide +kernel
theorem dX5_letter_3 : decode cX5_letter 3 = .ok (.if_icmp .lt 9, 3) := by decide +kernel
theorem dX5_letter_6 : decode cX5_letter 6 = .ok (.iload_n 1, 1) := by decide +kernel
theorem dX5_letter_7 : decode cX5_letter 7 = .ok (.bipush 126, 2) := by decide +kernel
theorem dX5_letter_9 : decode cX5_letter 9 = .ok (.if_icmp .le 6, 3) := by decide +kernel
theorem dX5_letter_12 : decode cX5_letter 12 = .ok (.bipush (-102), 2) := by decide +kernel
theorem dX5_letter_14 : decode cX5_letter 14 = .ok (.ireturn, 1) := by decide +kernel
theorem dX5_letter_15 : decode cX5_letter 15 = .ok (.aload_n 0, 1) := by decide +kernel
theorem dX5_letter_16 : decode cX5_letter 16 = .ok (.getfield 12, 3) := by decide +kernel
theorem dX5_letter_19 : decode cX5_letter 19 = .ok (.getfield 56, 3) := by decide +kernel
theorem dX5_letter_22 : decode cX5_letter 22 = .ok (.bipush 30, 2) := by decide +kernel
theorem dX5_letter_24 : decode cX5_letter 24 = .ok (.if_icmp .lt 6, 3) := by decide +kernel
theorem dX5_letter_27 : decode cX5_letter 27 = .ok (.bipush (-104), 2) := by decide +kernel
theorem dX5_letter_29 : decode cX5_letter 29 = .ok (.ireturn, 1) := by decide +kernel
theorem dX5_letter_30 : decode cX5_letter 30 = .ok (.aload_n 0, 1) := by decide +kernel
theorem dX5_letter_31 : decode cX5_letter 31 = .ok (.getfield 12, 3) := by decide +kernel
theorem dX5_letter_34 : decode cX5_letter 34 = .ok (.iload_n 1, 1) := by decide +kernel
theorem dX5_letter_35 : decode cX5_letter 35 = .ok (.invokevirtual 60, 3) := by decide +kernel
theorem dX5_letter_38 : decode cX5_letter 38 = .ok (.aload_n 0, 1) := by decide +kernel
theorem dX5_letter_39 : decode cX5_letter 39 = .ok (.getfield 12, 3) := by decide +kernel
theorem dX5_letter_42 : decode cX5_letter 42 = .ok (.getfield 56, 3) := by decide +kernel
theorem dX5_letter_45 : decode cX5_letter 45 = .ok (.ireturn, 1) := by decide +kernel
theorem dX5_blank_0 : decode cX5_blank 0 = .ok (.aload_n 0, 1) := by decide +kernel
theorem dX5_blank_1 : decode cX5_blank 1 = .ok (.getfield 12, 3) := by decide +kernel
theorem dX5_blank_4 : decode cX5_blank 4 = .ok (.getfield 56, 3) := by decide +kernel
theorem dX5_blank_7 : decode cX5_blank 7 = .ok (.istore_n 1, 1) := by decide +kernel
theorem dX5_blank_8 : decode cX5_blank 8 = .ok (.aload_n 0, 1) := by decide +kernel
theorem dX5_blank_9 : decode cX5_blank 9 = .ok (.getfield 12, 3) := by decide +kernel
theorem dX5_blank_12 : decode cX5_blank 12 = .ok (.iconst 0, 1) := by decide +kernel
theorem dX5_blank_13 : decode cX5_blank 13 = .ok (.putfield 56, 3) := by decide +kernel
theorem dX5_blank_16 : decode cX5_blank 16 = .ok (.iload_n 1, 1) := by decide +kernel
theorem dX5_blank_17 : decode cX5_blank 17 = .ok (.ireturn, 1) := by decide +kernel
theorem dX5_fault_0 : decode cX5_fault 0 = .ok (.aload_n 0, 1) := by decide +kernel
theorem dX5_fault_1 : decode cX5_fault 1 = .ok (.getfield 12, 3) := by decide +kernel
theorem dX5_fault_4 : decode cX5_fault 4 = .ok (.invokevirtual 64, 3) := by decide +kernel
theorem dX5_fault_7 : decode cX5_fault 7 = .ok (.ireturn, 1) := by decide +kernel
theorem dX5_passage_0 : decode cX5_passage 0 = .ok (.aload_n 0, 1) := by decide +kernel
theorem dX5_passage_1 : decode cX5_passage 1 = .ok (.getfield 12, 3) := by decide +kernel
theorem dX5_passage_4 : decode cX5_passage 4 = .ok (.invokevirtual 68, 3) := by decide +kernel
theorem dX5_passage_7 : decode cX5_passage 7 = .ok (.ifCond .ne 6, 3) := by decide +kernel
theorem dX5_passage_10 : decode cX5_passage 10 = .ok (.bipush (-103), 2) := by decide +kernel
theorem dX5_passage_12 : decode cX5_passage 12 = .ok (.ireturn, 1) := by decide +kernel
theorem dX5_passage_13 : decode cX5_passage 13 = .ok (.aload_n 0, 1) := by decide +kernel
theorem dX5_passage_14 : decode cX5_passage 14 = .ok (.getfield 19, 3) := by decide +kernel
theorem dX5_passage_17 : decode cX5_passage 17 = .ok (.aload_n 0, 1) := by decide +kernel
theorem dX5_passage_18 : decode cX5_passage 18 = .ok (.getfield 12, 3) := by decide +kernel
theorem dX5_passage_21 : decode cX5_passage 21 = .ok (.invokevirtual 72, 3) := by decide +kernel
theorem dX5_passage_24 : decode cX5_passage 24 = .ok (.aload_n 0, 1) := by decide +kernel
theorem dX5_passage_25 : decode cX5_passage 25 = .ok (.getfield 12, 3) := by decide +kernel
theorem dX5_passage_28 : decode cX5_passage 28 = .ok (.iconst 0, 1) := by decide +kernel
theorem dX5_passage_29 : decode cX5_passage 29 = .ok (.putfield 56, 3) := by decide +kernel
theorem dX5_passage_32 : decode cX5_passage 32 = .ok (.aload_n 0, 1) := by decide +kernel
theorem dX5_passage_33 : decode cX5_passage 33 = .ok (.getfield 26, 3) := by decide +kernel
theorem dX5_passage_36 : decode cX5_passage 36 = .ok (.iconst 0, 1) := by decide +kernel
theorem dX5_passage_37 : decode cX5_passage 37 = .ok (.putfield 76, 3) := by decide +kernel
theorem dX5_passage_40 : decode cX5_passage 40 = .ok (.aload_n 0, 1) := by decide +kernel
theorem dX5_passage_41 : decode cX5_passage 41 = .ok (.getfield 40, 3) := by decide +kernel
theorem dX5_passage_44 : decode cX5_passage 44 = .ok (.iconst 0, 1) := by decide +kernel
theorem dX5_passage_45 : decode cX5_passage 45 = .ok (.putfield 77, 3) := by decide +kernel
theorem dX5_passage_48 : decode cX5_passage 48 = .ok (.aload_n 0, 1) := by decide +kernel
theorem dX5_passage_49 : decode cX5_passage 49 = .ok (.getfield 33, 3) := by decide +kernel
theorem dX5_passage_52 : decode cX5_passage 52 = .ok (.iconst 0, 1) := by decide +kernel
theorem dX5_passage_53 : decode cX5_passage 53 = .ok (.invokevirtual 78, 3) := by decide +kernel
theorem dX5_passage_56 : decode cX5_passage 56 = .ok (.aload_n 0, 1) := by decide +kernel
theorem dX5_passage_57 : decode cX5_passage 57 = .ok (.iconst 0, 1) := by decide +kernel
theorem dX5_passage_58 : decode cX5_passage 58 = .ok (.putfield 81, 3) := by decide +kernel
theorem dX5_passage_61 : decode cX5_passage 61 = .ok (.aload_n 0, 1) := by decide +kernel
theorem dX5_passage_62 : decode cX5_passage 62 = .ok (.dup, 1) := by decide +kernel
theorem dX5_passage_63 : decode cX5_passage 63 = .ok (.getfield 85, 3) := by decide +kernel
theorem dX5_passage_66 : decode cX5_passage 66 = .ok (.iconst 1, 1) := by decide +kernel
theorem dX5_passage_67 : decode cX5_passage 67 = .ok (.iadd, 1) := by decide +kernel
theorem dX5_passage_68 : decode cX5_passage 68 = .ok (.putfield 85, 3) := by decide +kernel
theorem dX5_passage_71 : decode cX5_passage 71 = .ok (.aload_n 0, 1) := by decide +kernel
theorem dX5_passage_72 : decode cX5_passage 72 = .ok (.getfield 19, 3) := by decide +kernel
theorem dX5_passage_75 : decode cX5_passage 75 = .ok (.getfield 88, 3) := by decide +kernel
theorem dX5_passage_78 : decode cX5_passage 78 = .ok (.ireturn, 1) := by decide +kernel
theorem dX5_place_0 : decode cX5_place 0 = .ok (.iload_n 1, 1) := by decide +kernel
theorem dX5_place_1 : decode cX5_place 1 = .ok (.ifCond .lt 14, 3) := by decide +kernel
theorem dX5_place_4 : decode cX5_place 4 = .ok (.iload_n 1, 1) := by decide +kernel
theorem dX5_place_5 : decode cX5_place 5 = .ok (.aload_n 0, 1) := by decide +kernel
theorem dX5_place_6 : decode cX5_place 6 = .ok (.getfield 19, 3) := by decide +kernel
theorem dX5_place_9 : decode cX5_place 9 = .ok (.getfield 88, 3) := by decide +kernel
theorem dX5_place_12 : decode cX5_place 12 = .ok (.if_icmp .lt 6, 3) := by decide +kernel
theorem dX5_place_15 : decode cX5_place 15 = .ok (.bipush (-101), 2) := by decide +kernel
theorem dX5_place_17 : decode cX5_place 17 = .ok (.ireturn, 1) := by decide +kernel
theorem dX5_place_18 : decode cX5_place 18 = .ok (.iload_n 2, 1) := by decide +kernel
theorem dX5_place_19 : decode cX5_place 19 = .ok (.ifCond .lt 8, 3) := by decide +kernel
theorem dX5_place_22 : decode cX5_place 22 = .ok (.iload_n 2, 1) := by decide +kernel
theorem dX5_place_23 : decode cX5_place 23 = .ok (.iconst 1, 1) := by decide +kernel
theorem dX5_place_24 : decode cX5_place 24 = .ok (.if_icmp .le 6, 3) := by decide +kernel
theorem dX5_place_27 : decode cX5_place 27 = .ok (.bipush (-102), 2) := by decide +kernel
theorem dX5_place_29 : decode cX5_place 29 = .ok (.ireturn, 1) := by decide +kernel
theorem dX5_place_30 : decode cX5_place 30 = .ok (.iload_n 2, 1) := by decide +kernel
theorem dX5_place_31 : decode cX5_place 31 = .ok (.ifCond .ne 14, 3) := by decide +kernel
theorem dX5_place_34 : decode cX5_place 34 = .ok (.aload_n 0, 1) := by decide +kernel
theorem dX5_place_35 : decode cX5_place 35 = .ok (.getfield 19, 3) := by decide +kernel
theorem dX5_place_38 : decode cX5_place 38 = .ok (.iload_n 1, 1) := by decide +kernel
theorem dX5_place_39 : decode cX5_place 39 = .ok (.invokevirtual 89, 3) := by decide +kernel
theorem dX5_place_42 : decode cX5_place 42 = .ok (.goto 11, 3) := by decide +kernel
theorem dX5_place_45 : decode cX5_place 45 = .ok (.aload_n 0, 1) := by decide +kernel
theorem dX5_place_46 : decode cX5_place 46 = .ok (.getfield 19, 3) := by decide +kernel
theorem dX5_place_49 : decode cX5_place 49 = .ok (.iload_n 1, 1) := by decide +kernel
theorem dX5_place_50 : decode cX5_place 50 = .ok (.invokevirtual 93, 3) := by decide +kernel
theorem dX5_place_53 : decode cX5_place 53 = .ok (.ireturn, 1) := by decide +kernel
theorem dX5_man_0 : decode cX5_man 0 = .ok (.iload_n 1, 1) := by decide +kernel
theorem dX5_man_1 : decode cX5_man 1 = .ok (.invokestatic 96, 3) := by decide +kernel
theorem dX5_man_4 : decode cX5_man 4 = .ok (.ifCond .eq 24, 3) := by decide +kernel
theorem dX5_man_7 : decode cX5_man 7 = .ok (.iload_n 2, 1) := by decide +kernel
theorem dX5_man_8 : decode cX5_man 8 = .ok (.iconst 1, 1) := by decide +kernel
theorem dX5_man_9 : decode cX5_man 9 = .ok (.if_icmp .lt 19, 3) := by decide +kernel
theorem dX5_man_12 : decode cX5_man 12 = .ok (.iload_n 2, 1) := by decide +kernel
theorem dX5_man_13 : decode cX5_man 13 = .ok (.bipush 9, 2) := by decide +kernel
theorem dX5_man_15 : decode cX5_man 15 = .ok (.if_icmp .gt 13, 3) := by decide +kernel
theorem dX5_man_18 : decode cX5_man 18 = .ok (.iload_n 3, 1) := by decide +kernel
theorem dX5_man_19 : decode cX5_man 19 = .ok (.ifCond .lt 9, 3) := by decide +kernel
theorem dX5_man_22 : decode cX5_man 22 = .ok (.iload_n 3, 1) := by decide +kernel
theorem dX5_man_23 : decode cX5_man 23 = .ok (.bipush 9, 2) := by decide +kernel
theorem dX5_man_25 : decode cX5_man 25 = .ok (.if_icmp .le 6, 3) := by decide +kernel
theorem dX5_man_28 : decode cX5_man 28 = .ok (.bipush (-102), 2) := by decide +kernel
theorem dX5_man_30 : decode cX5_man 30 = .ok (.ireturn, 1) := by decide +kernel
theorem dX5_man_31 : decode cX5_man 31 = .ok (.aload_n 0, 1) := by decide +kernel
theorem dX5_man_32 : decode cX5_man 32 = .ok (.invokevirtual 100, 3) := by decide +kernel
theorem dX5_man_35 : decode cX5_man 35 = .ok (.ifCond .eq 23, 3) := by decide +kernel
theorem dX5_man_38 : decode cX5_man 38 = .ok (.aload_n 0, 1) := by decide +kernel
theorem dX5_man_39 : decode cX5_man 39 = .ok (.getfield 33, 3) := by decide +kernel
theorem dX5_man_42 : decode cX5_man 42 = .ok (.getfield 103, 3) := by decide +kernel
theorem dX5_man_45 : decode cX5_man 45 = .ok (.ifCond .ne 13, 3) := by decide +kernel
theorem dX5_man_48 : decode cX5_man 48 = .ok (.aload_n 0, 1) := by decide +kernel
theorem dX5_man_49 : decode cX5_man 49 = .ok (.getfield 33, 3) := by decide +kernel
theorem dX5_man_52 : decode cX5_man 52 = .ok (.getfield 106, 3) := by decide +kernel
theorem dX5_man_55 : decode cX5_man 55 = .ok (.ifCond .eq 6, 3) := by decide +kernel
theorem dX5_man_58 : decode cX5_man 58 = .ok (.bipush (-103), 2) := by decide +kernel
theorem dX5_man_60 : decode cX5_man 60 = .ok (.ireturn, 1) := by decide +kernel
theorem dX5_man_61 : decode cX5_man 61 = .ok (.aload_n 0, 1) := by decide +kernel
theorem dX5_man_62 : decode cX5_man 62 = .ok (.getfield 26, 3) := by decide +kernel
theorem dX5_man_65 : decode cX5_man 65 = .ok (.getfield 76, 3) := by decide +kernel
theorem dX5_man_68 : decode cX5_man 68 = .ok (.iconst 5, 1) := by decide +kernel
theorem dX5_man_69 : decode cX5_man 69 = .ok (.if_icmp .lt 6, 3) := by decide +kernel
theorem dX5_man_72 : decode cX5_man 72 = .ok (.bipush (-104), 2) := by decide +kernel
theorem dX5_man_74 : decode cX5_man 74 = .ok (.ireturn, 1) := by decide +kernel
theorem dX5_man_75 : decode cX5_man 75 = .ok (.aload_n 0, 1) := by decide +kernel
theorem dX5_man_76 : decode cX5_man 76 = .ok (.getfield 26, 3) := by decide +kernel
theorem dX5_man_79 : decode cX5_man 79 = .ok (.getfield 76, 3) := by decide +kernel
theorem dX5_man_82 : decode cX5_man 82 = .ok (.istore 4, 2) := by decide +kernel
theorem dX5_man_84 : decode cX5_man 84 = .ok (.aload_n 0, 1) := by decide +kernel
theorem dX5_man_85 : decode cX5_man 85 = .ok (.getfield 26, 3) := by decide +kernel
theorem dX5_man_88 : decode cX5_man 88 = .ok (.iload_n 1, 1) := by decide +kernel
theorem dX5_man_89 : decode cX5_man 89 = .ok (.iload_n 2, 1) := by decide +kernel
theorem dX5_man_90 : decode cX5_man 90 = .ok (.iload_n 3, 1) := by decide +kernel
theorem dX5_man_91 : decode cX5_man 91 = .ok (.invokevirtual 109, 3) := by decide +kernel
theorem dX5_man_94 : decode cX5_man 94 = .ok (.aload_n 0, 1) := by decide +kernel
theorem dX5_man_95 : decode cX5_man 95 = .ok (.getfield 33, 3) := by decide +kernel
theorem dX5_man_98 : decode cX5_man 98 = .ok (.iload 4, 2) := by decide +kernel
theorem dX5_man_100 : decode cX5_man 100 = .ok (.invokevirtual 112, 3) := by decide +kernel
theorem dX5_man_103 : decode cX5_man 103 = .ok (.iload 4, 2) := by decide +kernel
theorem dX5_man_105 : decode cX5_man 105 = .ok (.ireturn, 1) := by decide +kernel
theorem dX5_about_0 : decode cX5_about 0 = .ok (.aload_n 0, 1) := by decide +kernel
theorem dX5_about_1 : decode cX5_about 1 = .ok (.iload_n 1, 1) := by decide +kernel
theorem dX5_about_2 : decode cX5_about 2 = .ok (.invokevirtual 115, 3) := by decide +kernel
theorem dX5_about_5 : decode cX5_about 5 = .ok (.ifCond .ne 6, 3) := by decide +kernel
theorem dX5_about_8 : decode cX5_about 8 = .ok (.bipush (-101), 2) := by decide +kernel
theorem dX5_about_10 : decode cX5_about 10 = .ok (.ireturn, 1) := by decide +kernel
theorem dX5_about_11 : decode cX5_about 11 = .ok (.iload_n 2, 1) := by decide +kernel
theorem dX5_about_12 : decode cX5_about 12 = .ok (.tableswitch 149 0 7 #[48, 57, 66, 75, 87, 96, 116, 136], 48) := by decide +kernel
theorem dX5_about_60 : decode cX5_about 60 = .ok (.aload_n 0, 1) := by decide +kernel
theorem dX5_about_61 : decode cX5_about 61 = .ok (.getfield 26, 3) := by decide +kernel
theorem dX5_about_64 : decode cX5_about 64 = .ok (.iload_n 1, 1) := by decide +kernel
theorem dX5_about_65 : decode cX5_about 65 = .ok (.invokevirtual 118, 3) := by decide +kernel
theorem dX5_about_68 : decode cX5_about 68 = .ok (.ireturn, 1) := by decide +kernel
theorem dX5_about_69 : decode cX5_about 69 = .ok (.aload_n 0, 1) := by decide +kernel
theorem dX5_about_70 : decode cX5_about 70 = .ok (.getfield 26, 3) := by decide +kernel
theorem dX5_about_73 : decode cX5_about 73 = .ok (.iload_n 1, 1) := by decide +kernel
theorem dX5_about_74 : decode cX5_about 74 = .ok (.invokevirtual 121, 3) := by decide +kernel
theorem dX5_about_77 : decode cX5_about 77 = .ok (.ireturn, 1) := by decide +kernel
theorem dX5_about_78 : decode cX5_about 78 = .ok (.aload_n 0, 1) := by decide +kernel
theorem dX5_about_79 : decode cX5_about 79 = .ok (.getfield 26, 3) := by decide +kernel
theorem dX5_about_82 : decode cX5_about 82 = .ok (.iload_n 1, 1) := by decide +kernel
theorem dX5_about_83 : decode cX5_about 83 = .ok (.invokevirtual 124, 3) := by decide +kernel
theorem dX5_about_86 : decode cX5_about 86 = .ok (.ireturn, 1) := by decide +kernel
theorem dX5_about_87 : decode cX5_about 87 = .ok (.aload_n 0, 1) := by decide +kernel
theorem dX5_about_88 : decode cX5_about 88 = .ok (.getfield 33, 3) := by decide +kernel
theorem dX5_about_91 : decode cX5_about 91 = .ok (.iload_n 1, 1) := by decide +kernel
theorem dX5_about_92 : decode cX5_about 92 = .ok (.invokevirtual 127, 3) := by decide +kernel
theorem dX5_about_95 : decode cX5_about 95 = .ok (.invokestatic 130, 3) := by decide +kernel
theorem dX5_about_98 : decode cX5_about 98 = .ok (.ireturn, 1) := by decide +kernel
theorem dX5_about_99 : decode cX5_about 99 = .ok (.aload_n 0, 1) := by decide +kernel
theorem dX5_about_100 : decode cX5_about 100 = .ok (.getfield 33, 3) := by decide +kernel
theorem dX5_about_103 : decode cX5_about 103 = .ok (.iload_n 1, 1) := by decide +kernel
theorem dX5_about_104 : decode cX5_about 104 = .ok (.invokevirtual 134, 3) := by decide +kernel
theorem dX5_about_107 : decode cX5_about 107 = .ok (.ireturn, 1) := by decide +kernel
theorem dX5_about_108 : decode cX5_about 108 = .ok (.aload_n 0, 1) := by decide +kernel
theorem dX5_about_109 : decode cX5_about 109 = .ok (.getfield 33, 3) := by decide +kernel
theorem dX5_about_112 : decode cX5_about 112 = .ok (.iload_n 1, 1) := by decide +kernel
theorem dX5_about_113 : decode cX5_about 113 = .ok (.invokevirtual 137, 3) := by decide +kernel
theorem dX5_about_116 : decode cX5_about 116 = .ok (.ifCond .ne 7, 3) := by decide +kernel
theorem dX5_about_119 : decode cX5_about 119 = .ok (.iconst 1, 1) := by decide +kernel
theorem dX5_about_120 : decode cX5_about 120 = .ok (.goto 4, 3) := by decide +kernel
theorem dX5_about_123 : decode cX5_about 123 = .ok (.iconst 0, 1) := by decide +kernel
theorem dX5_about_124 : decode cX5_about 124 = .ok (.invokestatic 130, 3) := by decide +kernel
theorem dX5_about_127 : decode cX5_about 127 = .ok (.ireturn, 1) := by decide +kernel
theorem dX5_about_128 : decode cX5_about 128 = .ok (.aload_n 0, 1) := by decide +kernel
theorem dX5_about_129 : decode cX5_about 129 = .ok (.getfield 33, 3) := by decide +kernel
theorem dX5_about_132 : decode cX5_about 132 = .ok (.iload_n 1, 1) := by decide +kernel
theorem dX5_about_133 : decode cX5_about 133 = .ok (.aload_n 0, 1) := by decide +kernel
theorem dX5_about_134 : decode cX5_about 134 = .ok (.getfield 19, 3) := by decide +kernel
theorem dX5_about_137 : decode cX5_about 137 = .ok (.aload_n 0, 1) := by decide +kernel
theorem dX5_about_138 : decode cX5_about 138 = .ok (.getfield 26, 3) := by decide +kernel
theorem dX5_about_141 : decode cX5_about 141 = .ok (.invokevirtual 140, 3) := by decide +kernel
theorem dX5_about_144 : decode cX5_about 144 = .ok (.invokestatic 130, 3) := by decide +kernel
theorem dX5_about_147 : decode cX5_about 147 = .ok (.ireturn, 1) := by decide +kernel
theorem dX5_about_148 : decode cX5_about 148 = .ok (.aload_n 0, 1) := by decide +kernel
theorem dX5_about_149 : decode cX5_about 149 = .ok (.getfield 33, 3) := by decide +kernel
theorem dX5_about_152 : decode cX5_about 152 = .ok (.iload_n 1, 1) := by decide +kernel
theorem dX5_about_153 : decode cX5_about 153 = .ok (.aload_n 0, 1) := by decide +kernel
theorem dX5_about_154 : decode cX5_about 154 = .ok (.getfield 26, 3) := by decide +kernel
theorem dX5_about_157 : decode cX5_about 157 = .ok (.invokevirtual 144, 3) := by decide +kernel
theorem dX5_about_160 : decode cX5_about 160 = .ok (.ireturn, 1) := by decide +kernel
theorem dX5_about_161 : decode cX5_about 161 = .ok (.bipush (-102), 2) := by decide +kernel
theorem dX5_about_163 : decode cX5_about 163 = .ok (.ireturn, 1) := by decide +kernel
theorem dX5_as_0 : decode cX5_as 0 = .ok (.aload_n 0, 1) := by decide +kernel
theorem dX5_as_1 : decode cX5_as 1 = .ok (.iload_n 1, 1) := by decide +kernel
theorem dX5_as_2 : decode cX5_as 2 = .ok (.invokevirtual 115, 3) := by decide +kernel
theorem dX5_as_5 : decode cX5_as 5 = .ok (.ifCond .ne 6, 3) := by decide +kernel
theorem dX5_as_8 : decode cX5_as 8 = .ok (.bipush (-101), 2) := by decide +kernel
theorem dX5_as_10 : decode cX5_as 10 = .ok (.ireturn, 1) := by decide +kernel
theorem dX5_as_11 : decode cX5_as 11 = .ok (.iload_n 2, 1) := by decide +kernel
theorem dX5_as_12 : decode cX5_as 12 = .ok (.invokestatic 96, 3) := by decide +kernel
theorem dX5_as_15 : decode cX5_as 15 = .ok (.ifCond .ne 6, 3) := by decide +kernel
theorem dX5_as_18 : decode cX5_as 18 = .ok (.bipush (-102), 2) := by decide +kernel
theorem dX5_as_20 : decode cX5_as 20 = .ok (.ireturn, 1) := by decide +kernel
theorem dX5_as_21 : decode cX5_as 21 = .ok (.aload_n 0, 1) := by decide +kernel
theorem dX5_as_22 : decode cX5_as 22 = .ok (.getfield 26, 3) := by decide +kernel
theorem dX5_as_25 : decode cX5_as 25 = .ok (.iload_n 1, 1) := by decide +kernel
theorem dX5_as_26 : decode cX5_as 26 = .ok (.iload_n 2, 1) := by decide +kernel
theorem dX5_as_27 : decode cX5_as 27 = .ok (.invokevirtual 148, 3) := by decide +kernel
theorem dX5_as_30 : decode cX5_as 30 = .ok (.ifCond .eq 7, 3) := by decide +kernel
theorem dX5_as_33 : decode cX5_as 33 = .ok (.iload_n 1, 1) := by decide +kernel
theorem dX5_as_34 : decode cX5_as 34 = .ok (.goto 4, 3) := by decide +kernel
theorem dX5_as_37 : decode cX5_as 37 = .ok (.iconst (-1), 1) := by decide +kernel
theorem dX5_as_38 : decode cX5_as 38 = .ok (.ireturn, 1) := by decide +kernel
theorem dX5_wax_0 : decode cX5_wax 0 = .ok (.aload_n 0, 1) := by decide +kernel
theorem dX5_wax_1 : decode cX5_wax 1 = .ok (.iload_n 1, 1) := by decide +kernel
theorem dX5_wax_2 : decode cX5_wax 2 = .ok (.invokevirtual 115, 3) := by decide +kernel
theorem dX5_wax_5 : decode cX5_wax 5 = .ok (.ifCond .ne 6, 3) := by decide +kernel
theorem dX5_wax_8 : decode cX5_wax 8 = .ok (.bipush (-101), 2) := by decide +kernel
theorem dX5_wax_10 : decode cX5_wax 10 = .ok (.ireturn, 1) := by decide +kernel
theorem dX5_wax_11 : decode cX5_wax 11 = .ok (.aload_n 0, 1) := by decide +kernel
theorem dX5_wax_12 : decode cX5_wax 12 = .ok (.getfield 33, 3) := by decide +kernel
theorem dX5_wax_15 : decode cX5_wax 15 = .ok (.iload_n 1, 1) := by decide +kernel
theorem dX5_wax_16 : decode cX5_wax 16 = .ok (.invokevirtual 137, 3) := by decide +kernel
theorem dX5_wax_19 : decode cX5_wax 19 = .ok (.ifCond .eq 13, 3) := by decide +kernel
theorem dX5_wax_22 : decode cX5_wax 22 = .ok (.aload_n 0, 1) := by decide +kernel
theorem dX5_wax_23 : decode cX5_wax 23 = .ok (.getfield 33, 3) := by decide +kernel
theorem dX5_wax_26 : decode cX5_wax 26 = .ok (.getfield 152, 3) := by decide +kernel
theorem dX5_wax_29 : decode cX5_wax 29 = .ok (.ifCond .eq 6, 3) := by decide +kernel
theorem dX5_wax_32 : decode cX5_wax 32 = .ok (.bipush (-103), 2) := by decide +kernel
theorem dX5_wax_34 : decode cX5_wax 34 = .ok (.ireturn, 1) := by decide +kernel
theorem dX5_wax_35 : decode cX5_wax 35 = .ok (.aload_n 0, 1) := by decide +kernel
theorem dX5_wax_36 : decode cX5_wax 36 = .ok (.getfield 33, 3) := by decide +kernel
theorem dX5_wax_39 : decode cX5_wax 39 = .ok (.iload_n 1, 1) := by decide +kernel
theorem dX5_wax_40 : decode cX5_wax 40 = .ok (.invokevirtual 127, 3) := by decide +kernel
theorem dX5_wax_43 : decode cX5_wax 43 = .ok (.invokestatic 130, 3) := by decide +kernel
theorem dX5_wax_46 : decode cX5_wax 46 = .ok (.istore_n 3, 1) := by decide +kernel
theorem dX5_wax_47 : decode cX5_wax 47 = .ok (.aload_n 0, 1) := by decide +kernel
theorem dX5_wax_48 : decode cX5_wax 48 = .ok (.getfield 33, 3) := by decide +kernel
theorem dX5_wax_51 : decode cX5_wax 51 = .ok (.iload_n 1, 1) := by decide +kernel
theorem dX5_wax_52 : decode cX5_wax 52 = .ok (.iload_n 2, 1) := by decide +kernel
theorem dX5_wax_53 : decode cX5_wax 53 = .ok (.invokevirtual 155, 3) := by decide +kernel
theorem dX5_wax_56 : decode cX5_wax 56 = .ok (.iload_n 3, 1) := by decide +kernel
theorem dX5_wax_57 : decode cX5_wax 57 = .ok (.ireturn, 1) := by decide +kernel
theorem dX5_bind_0 : decode cX5_bind 0 = .ok (.aload_n 0, 1) := by decide +kernel
theorem dX5_bind_1 : decode cX5_bind 1 = .ok (.iload_n 1, 1) := by decide +kernel
theorem dX5_bind_2 : decode cX5_bind 2 = .ok (.invokevirtual 115, 3) := by decide +kernel
theorem dX5_bind_5 : decode cX5_bind 5 = .ok (.ifCond .ne 6, 3) := by decide +kernel
theorem dX5_bind_8 : decode cX5_bind 8 = .ok (.bipush (-101), 2) := by decide +kernel
theorem dX5_bind_10 : decode cX5_bind 10 = .ok (.ireturn, 1) := by decide +kernel
theorem dX5_bind_11 : decode cX5_bind 11 = .ok (.iload_n 2, 1) := by decide +kernel
theorem dX5_bind_12 : decode cX5_bind 12 = .ok (.ifCond .lt 9, 3) := by decide +kernel
theorem dX5_bind_15 : decode cX5_bind 15 = .ok (.iload_n 2, 1) := by decide +kernel
theorem dX5_bind_16 : decode cX5_bind 16 = .ok (.bipush 9, 2) := by decide +kernel
theorem dX5_bind_18 : decode cX5_bind 18 = .ok (.if_icmp .le 6, 3) := by decide +kernel
theorem dX5_bind_21 : decode cX5_bind 21 = .ok (.bipush (-102), 2) := by decide +kernel
theorem dX5_bind_23 : decode cX5_bind 23 = .ok (.ireturn, 1) := by decide +kernel
theorem dX5_bind_24 : decode cX5_bind 24 = .ok (.aload_n 0, 1) := by decide +kernel
theorem dX5_bind_25 : decode cX5_bind 25 = .ok (.getfield 33, 3) := by decide +kernel
theorem dX5_bind_28 : decode cX5_bind 28 = .ok (.iload_n 1, 1) := by decide +kernel
theorem dX5_bind_29 : decode cX5_bind 29 = .ok (.invokevirtual 137, 3) := by decide +kernel
theorem dX5_bind_32 : decode cX5_bind 32 = .ok (.ifCond .eq 13, 3) := by decide +kernel
theorem dX5_bind_35 : decode cX5_bind 35 = .ok (.aload_n 0, 1) := by decide +kernel
theorem dX5_bind_36 : decode cX5_bind 36 = .ok (.getfield 33, 3) := by decide +kernel
theorem dX5_bind_39 : decode cX5_bind 39 = .ok (.getfield 152, 3) := by decide +kernel
theorem dX5_bind_42 : decode cX5_bind 42 = .ok (.ifCond .eq 6, 3) := by decide +kernel
theorem dX5_bind_45 : decode cX5_bind 45 = .ok (.bipush (-103), 2) := by decide +kernel
theorem dX5_bind_47 : decode cX5_bind 47 = .ok (.ireturn, 1) := by decide +kernel
theorem dX5_bind_48 : decode cX5_bind 48 = .ok (.aload_n 0, 1) := by decide +kernel
theorem dX5_bind_49 : decode cX5_bind 49 = .ok (.getfield 33, 3) := by decide +kernel
theorem dX5_bind_52 : decode cX5_bind 52 = .ok (.iload_n 1, 1) := by decide +kernel
theorem dX5_bind_53 : decode cX5_bind 53 = .ok (.invokevirtual 134, 3) := by decide +kernel
theorem dX5_bind_56 : decode cX5_bind 56 = .ok (.istore_n 3, 1) := by decide +kernel
theorem dX5_bind_57 : decode cX5_bind 57 = .ok (.aload_n 0, 1) := by decide +kernel
theorem dX5_bind_58 : decode cX5_bind 58 = .ok (.getfield 33, 3) := by decide +kernel
theorem dX5_bind_61 : decode cX5_bind 61 = .ok (.iload_n 1, 1) := by decide +kernel
theorem dX5_bind_62 : decode cX5_bind 62 = .ok (.iload_n 2, 1) := by decide +kernel
theorem dX5_bind_63 : decode cX5_bind 63 = .ok (.invokevirtual 159, 3) := by decide +kernel
theorem dX5_bind_66 : decode cX5_bind 66 = .ok (.iload_n 3, 1) := by decide +kernel
theorem dX5_bind_67 : decode cX5_bind 67 = .ok (.ireturn, 1) := by decide +kernel
theorem dX5_stroke_0 : decode cX5_stroke 0 = .ok (.aload_n 0, 1) := by decide +kernel
theorem dX5_stroke_1 : decode cX5_stroke 1 = .ok (.invokevirtual 163, 3) := by decide +kernel
theorem dX5_stroke_4 : decode cX5_stroke 4 = .ok (.ifCond .ne 6, 3) := by decide +kernel
theorem dX5_stroke_7 : decode cX5_stroke 7 = .ok (.bipush (-103), 2) := by decide +kernel
theorem dX5_stroke_9 : decode cX5_stroke 9 = .ok (.ireturn, 1) := by decide +kernel
theorem dX5_stroke_10 : decode cX5_stroke 10 = .ok (.aload_n 0, 1) := by decide +kernel
theorem dX5_stroke_11 : decode cX5_stroke 11 = .ok (.getfield 33, 3) := by decide +kernel
theorem dX5_stroke_14 : decode cX5_stroke 14 = .ok (.aload_n 0, 1) := by decide +kernel
theorem dX5_stroke_15 : decode cX5_stroke 15 = .ok (.getfield 19, 3) := by decide +kernel
theorem dX5_stroke_18 : decode cX5_stroke 18 = .ok (.aload_n 0, 1) := by decide +kernel
theorem dX5_stroke_19 : decode cX5_stroke 19 = .ok (.getfield 26, 3) := by decide +kernel
theorem dX5_stroke_22 : decode cX5_stroke 22 = .ok (.invokevirtual 166, 3) := by decide +kernel
theorem dX5_stroke_25 : decode cX5_stroke 25 = .ok (.pop, 1) := by decide +kernel
theorem dX5_stroke_26 : decode cX5_stroke 26 = .ok (.aload_n 0, 1) := by decide +kernel
theorem dX5_stroke_27 : decode cX5_stroke 27 = .ok (.getfield 33, 3) := by decide +kernel
theorem dX5_stroke_30 : decode cX5_stroke 30 = .ok (.getfield 152, 3) := by decide +kernel
theorem dX5_stroke_33 : decode cX5_stroke 33 = .ok (.ifCond .ne 13, 3) := by decide +kernel
theorem dX5_stroke_36 : decode cX5_stroke 36 = .ok (.aload_n 0, 1) := by decide +kernel
theorem dX5_stroke_37 : decode cX5_stroke 37 = .ok (.getfield 33, 3) := by decide +kernel
theorem dX5_stroke_40 : decode cX5_stroke 40 = .ok (.getfield 103, 3) := by decide +kernel
theorem dX5_stroke_43 : decode cX5_stroke 43 = .ok (.goto 4, 3) := by decide +kernel
theorem dX5_stroke_46 : decode cX5_stroke 46 = .ok (.iconst (-1), 1) := by decide +kernel
theorem dX5_stroke_47 : decode cX5_stroke 47 = .ok (.ireturn, 1) := by decide +kernel
theorem dX5_outcome_0 : decode cX5_outcome 0 = .ok (.iload_n 1, 1) := by decide +kernel
theorem dX5_outcome_1 : decode cX5_outcome 1 = .ok (.ifCond .lt 8, 3) := by decide +kernel
theorem dX5_outcome_4 : decode cX5_outcome 4 = .ok (.iload_n 1, 1) := by decide +kernel
theorem dX5_outcome_5 : decode cX5_outcome 5 = .ok (.iconst 3, 1) := by decide +kernel
theorem dX5_outcome_6 : decode cX5_outcome 6 = .ok (.if_icmp .lt 6, 3) := by decide +kernel
theorem dX5_outcome_9 : decode cX5_outcome 9 = .ok (.bipush (-102), 2) := by decide +kernel
theorem dX5_outcome_11 : decode cX5_outcome 11 = .ok (.ireturn, 1) := by decide +kernel
theorem dX5_outcome_12 : decode cX5_outcome 12 = .ok (.aload_n 0, 1) := by decide +kernel
theorem dX5_outcome_13 : decode cX5_outcome 13 = .ok (.invokevirtual 163, 3) := by decide +kernel
theorem dX5_outcome_16 : decode cX5_outcome 16 = .ok (.ifCond .ne 6, 3) := by decide +kernel
theorem dX5_outcome_19 : decode cX5_outcome 19 = .ok (.bipush (-103), 2) := by decide +kernel
theorem dX5_outcome_21 : decode cX5_outcome 21 = .ok (.ireturn, 1) := by decide +kernel
theorem dX5_outcome_22 : decode cX5_outcome 22 = .ok (.aload_n 0, 1) := by decide +kernel
theorem dX5_outcome_23 : decode cX5_outcome 23 = .ok (.getfield 50, 3) := by decide +kernel
theorem dX5_outcome_26 : decode cX5_outcome 26 = .ok (.aload_n 0, 1) := by decide +kernel
theorem dX5_outcome_27 : decode cX5_outcome 27 = .ok (.getfield 33, 3) := by decide +kernel
theorem dX5_outcome_30 : decode cX5_outcome 30 = .ok (.invokevirtual 170, 3) := by decide +kernel
theorem dX5_outcome_33 : decode cX5_outcome 33 = .ok (.aload_n 0, 1) := by decide +kernel
theorem dX5_outcome_34 : decode cX5_outcome 34 = .ok (.getfield 50, 3) := by decide +kernel
theorem dX5_outcome_37 : decode cX5_outcome 37 = .ok (.aload_n 0, 1) := by decide +kernel
theorem dX5_outcome_38 : decode cX5_outcome 38 = .ok (.getfield 19, 3) := by decide +kernel
theorem dX5_outcome_41 : decode cX5_outcome 41 = .ok (.aload_n 0, 1) := by decide +kernel
theorem dX5_outcome_42 : decode cX5_outcome 42 = .ok (.getfield 26, 3) := by decide +kernel
theorem dX5_outcome_45 : decode cX5_outcome 45 = .ok (.invokevirtual 174, 3) := by decide +kernel
theorem dX5_outcome_48 : decode cX5_outcome 48 = .ok (.istore_n 2, 1) := by decide +kernel
theorem dX5_outcome_49 : decode cX5_outcome 49 = .ok (.iload_n 1, 1) := by decide +kernel
theorem dX5_outcome_50 : decode cX5_outcome 50 = .ok (.ifCond .ne 15, 3) := by decide +kernel
theorem dX5_outcome_53 : decode cX5_outcome 53 = .ok (.aload_n 0, 1) := by decide +kernel
theorem dX5_outcome_54 : decode cX5_outcome 54 = .ok (.getfield 50, 3) := by decide +kernel
theorem dX5_outcome_57 : decode cX5_outcome 57 = .ok (.aload_n 0, 1) := by decide +kernel
theorem dX5_outcome_58 : decode cX5_outcome 58 = .ok (.getfield 26, 3) := by decide +kernel
theorem dX5_outcome_61 : decode cX5_outcome 61 = .ok (.invokevirtual 177, 3) := by decide +kernel
theorem dX5_outcome_64 : decode cX5_outcome 64 = .ok (.ireturn, 1) := by decide +kernel
theorem dX5_outcome_65 : decode cX5_outcome 65 = .ok (.iload_n 1, 1) := by decide +kernel
theorem dX5_outcome_66 : decode cX5_outcome 66 = .ok (.iconst 1, 1) := by decide +kernel
theorem dX5_outcome_67 : decode cX5_outcome 67 = .ok (.if_icmp .ne 7, 3) := by decide +kernel
theorem dX5_outcome_70 : decode cX5_outcome 70 = .ok (.iload_n 2, 1) := by decide +kernel
theorem dX5_outcome_71 : decode cX5_outcome 71 = .ok (.goto 10, 3) := by decide +kernel
theorem dX5_outcome_74 : decode cX5_outcome 74 = .ok (.aload_n 0, 1) := by decide +kernel
theorem dX5_outcome_75 : decode cX5_outcome 75 = .ok (.getfield 50, 3) := by decide +kernel
theorem dX5_outcome_78 : decode cX5_outcome 78 = .ok (.getfield 152, 3) := by decide +kernel
theorem dX5_outcome_81 : decode cX5_outcome 81 = .ok (.ireturn, 1) := by decide +kernel
theorem dX5_waxing_0 : decode cX5_waxing 0 = .ok (.iload_n 1, 1) := by decide +kernel
theorem dX5_waxing_1 : decode cX5_waxing 1 = .ok (.ifCond .lt 17, 3) := by decide +kernel
theorem dX5_waxing_4 : decode cX5_waxing 4 = .ok (.iload_n 1, 1) := by decide +kernel
theorem dX5_waxing_5 : decode cX5_waxing 5 = .ok (.iconst 5, 1) := by decide +kernel
theorem dX5_waxing_6 : decode cX5_waxing 6 = .ok (.if_icmp .gt 12, 3) := by decide +kernel
theorem dX5_waxing_9 : decode cX5_waxing 9 = .ok (.iload_n 2, 1) := by decide +kernel
theorem dX5_waxing_10 : decode cX5_waxing 10 = .ok (.ifCond .lt 8, 3) := by decide +kernel
theorem dX5_waxing_13 : decode cX5_waxing 13 = .ok (.iload_n 2, 1) := by decide +kernel
theorem dX5_waxing_14 : decode cX5_waxing 14 = .ok (.iconst 1, 1) := by decide +kernel
theorem dX5_waxing_15 : decode cX5_waxing 15 = .ok (.if_icmp .le 6, 3) := by decide +kernel
theorem dX5_waxing_18 : decode cX5_waxing 18 = .ok (.bipush (-102), 2) := by decide +kernel
theorem dX5_waxing_20 : decode cX5_waxing 20 = .ok (.ireturn, 1) := by decide +kernel
theorem dX5_waxing_21 : decode cX5_waxing 21 = .ok (.aload_n 0, 1) := by decide +kernel
theorem dX5_waxing_22 : decode cX5_waxing 22 = .ok (.invokevirtual 163, 3) := by decide +kernel
theorem dX5_waxing_25 : decode cX5_waxing 25 = .ok (.ifCond .ne 6, 3) := by decide +kernel
theorem dX5_waxing_28 : decode cX5_waxing 28 = .ok (.bipush (-103), 2) := by decide +kernel
theorem dX5_waxing_30 : decode cX5_waxing 30 = .ok (.ireturn, 1) := by decide +kernel
theorem dX5_waxing_31 : decode cX5_waxing 31 = .ok (.iconst 0, 1) := by decide +kernel
theorem dX5_waxing_32 : decode cX5_waxing 32 = .ok (.istore_n 3, 1) := by decide +kernel
theorem dX5_waxing_33 : decode cX5_waxing 33 = .ok (.aload_n 0, 1) := by decide +kernel
theorem dX5_waxing_34 : decode cX5_waxing 34 = .ok (.iconst 0, 1) := by decide +kernel
theorem dX5_waxing_35 : decode cX5_waxing 35 = .ok (.invokevirtual 181, 3) := by decide +kernel
theorem dX5_waxing_38 : decode cX5_waxing 38 = .ok (.istore 4, 2) := by decide +kernel
theorem dX5_waxing_40 : decode cX5_waxing 40 = .ok (.iconst 1, 1) := by decide +kernel
theorem dX5_waxing_41 : decode cX5_waxing 41 = .ok (.istore 5, 2) := by decide +kernel
theorem dX5_waxing_43 : decode cX5_waxing 43 = .ok (.iload 5, 2) := by decide +kernel
theorem dX5_waxing_45 : decode cX5_waxing 45 = .ok (.aload_n 0, 1) := by decide +kernel
theorem dX5_waxing_46 : decode cX5_waxing 46 = .ok (.getfield 26, 3) := by decide +kernel
theorem dX5_waxing_49 : decode cX5_waxing 49 = .ok (.invokevirtual 184, 3) := by decide +kernel
theorem dX5_waxing_52 : decode cX5_waxing 52 = .ok (.if_icmp .gt 74, 3) := by decide +kernel
theorem dX5_waxing_55 : decode cX5_waxing 55 = .ok (.iload 5, 2) := by decide +kernel
theorem dX5_waxing_57 : decode cX5_waxing 57 = .ok (.aload_n 0, 1) := by decide +kernel
theorem dX5_waxing_58 : decode cX5_waxing 58 = .ok (.getfield 33, 3) := by decide +kernel
theorem dX5_waxing_61 : decode cX5_waxing 61 = .ok (.getfield 187, 3) := by decide +kernel
theorem dX5_waxing_64 : decode cX5_waxing 64 = .ok (.iconst (-1), 1) := by decide +kernel
theorem dX5_waxing_65 : decode cX5_waxing 65 = .ok (.ixor, 1) := by decide +kernel
theorem dX5_waxing_66 : decode cX5_waxing 66 = .ok (.iand, 1) := by decide +kernel
theorem dX5_waxing_67 : decode cX5_waxing 67 = .ok (.ifCond .ne 53, 3) := by decide +kernel
theorem dX5_waxing_70 : decode cX5_waxing 70 = .ok (.iload 5, 2) := by decide +kernel
theorem dX5_waxing_72 : decode cX5_waxing 72 = .ok (.invokestatic 190, 3) := by decide +kernel
theorem dX5_waxing_75 : decode cX5_waxing 75 = .ok (.iload_n 1, 1) := by decide +kernel
theorem dX5_waxing_76 : decode cX5_waxing 76 = .ok (.if_icmp .gt 44, 3) := by decide +kernel
theorem dX5_waxing_79 : decode cX5_waxing 79 = .ok (.aload_n 0, 1) := by decide +kernel
theorem dX5_waxing_80 : decode cX5_waxing 80 = .ok (.iload 5, 2) := by decide +kernel
theorem dX5_waxing_82 : decode cX5_waxing 82 = .ok (.invokevirtual 181, 3) := by decide +kernel
theorem dX5_waxing_85 : decode cX5_waxing 85 = .ok (.istore 6, 2) := by decide +kernel
theorem dX5_waxing_87 : decode cX5_waxing 87 = .ok (.iload 6, 2) := by decide +kernel
theorem dX5_waxing_89 : decode cX5_waxing 89 = .ok (.iload 4, 2) := by decide +kernel
theorem dX5_waxing_91 : decode cX5_waxing 91 = .ok (.if_icmp .lt 22, 3) := by decide +kernel
theorem dX5_waxing_94 : decode cX5_waxing 94 = .ok (.iload 6, 2) := by decide +kernel
theorem dX5_waxing_96 : decode cX5_waxing 96 = .ok (.iload 4, 2) := by decide +kernel
theorem dX5_waxing_98 : decode cX5_waxing 98 = .ok (.if_icmp .ne 22, 3) := by decide +kernel
theorem dX5_waxing_101 : decode cX5_waxing 101 = .ok (.iload 5, 2) := by decide +kernel
theorem dX5_waxing_103 : decode cX5_waxing 103 = .ok (.invokestatic 190, 3) := by decide +kernel
theorem dX5_waxing_106 : decode cX5_waxing 106 = .ok (.iload_n 3, 1) := by decide +kernel
theorem dX5_waxing_107 : decode cX5_waxing 107 = .ok (.invokestatic 190, 3) := by decide +kernel
theorem dX5_waxing_110 : decode cX5_waxing 110 = .ok (.if_icmp .ge 10, 3) := by decide +kernel
theorem dX5_waxing_113 : decode cX5_waxing 113 = .ok (.iload 5, 2) := by decide +kernel
theorem dX5_waxing_115 : decode cX5_waxing 115 = .ok (.istore_n 3, 1) := by decide +kernel
theorem dX5_waxing_116 : decode cX5_waxing 116 = .ok (.iload 6, 2) := by decide +kernel
theorem dX5_waxing_118 : decode cX5_waxing 118 = .ok (.istore 4, 2) := by decide +kernel
theorem dX5_waxing_120 : decode cX5_waxing 120 = .ok (.iinc 5 1, 3) := by decide +kernel
theorem dX5_waxing_123 : decode cX5_waxing 123 = .ok (.goto (-80), 3) := by decide +kernel
theorem dX5_waxing_126 : decode cX5_waxing 126 = .ok (.iload_n 2, 1) := by decide +kernel
theorem dX5_waxing_127 : decode cX5_waxing 127 = .ok (.iconst 1, 1) := by decide +kernel
theorem dX5_waxing_128 : decode cX5_waxing 128 = .ok (.if_icmp .ne 7, 3) := by decide +kernel
theorem dX5_waxing_131 : decode cX5_waxing 131 = .ok (.iload_n 3, 1) := by decide +kernel
theorem dX5_waxing_132 : decode cX5_waxing 132 = .ok (.goto 8, 3) := by decide +kernel
theorem dX5_waxing_135 : decode cX5_waxing 135 = .ok (.iload 4, 2) := by decide +kernel
theorem dX5_waxing_137 : decode cX5_waxing 137 = .ok (.bipush 6, 2) := by decide +kernel
theorem dX5_waxing_139 : decode cX5_waxing 139 = .ok (.irem, 1) := by decide +kernel
theorem dX5_waxing_140 : decode cX5_waxing 140 = .ok (.ireturn, 1) := by decide +kernel
theorem dX5_hold_0 : decode cX5_hold 0 = .ok (.aload_n 0, 1) := by decide +kernel
theorem dX5_hold_1 : decode cX5_hold 1 = .ok (.iload_n 1, 1) := by decide +kernel
theorem dX5_hold_2 : decode cX5_hold 2 = .ok (.invokevirtual 115, 3) := by decide +kernel
theorem dX5_hold_5 : decode cX5_hold 5 = .ok (.ifCond .ne 6, 3) := by decide +kernel
theorem dX5_hold_8 : decode cX5_hold 8 = .ok (.bipush (-101), 2) := by decide +kernel
theorem dX5_hold_10 : decode cX5_hold 10 = .ok (.ireturn, 1) := by decide +kernel
theorem dX5_hold_11 : decode cX5_hold 11 = .ok (.aload_n 0, 1) := by decide +kernel
theorem dX5_hold_12 : decode cX5_hold 12 = .ok (.invokevirtual 163, 3) := by decide +kernel
theorem dX5_hold_15 : decode cX5_hold 15 = .ok (.ifCond .eq 14, 3) := by decide +kernel
theorem dX5_hold_18 : decode cX5_hold 18 = .ok (.aload_n 0, 1) := by decide +kernel
theorem dX5_hold_19 : decode cX5_hold 19 = .ok (.getfield 33, 3) := by decide +kernel
theorem dX5_hold_22 : decode cX5_hold 22 = .ok (.iload_n 1, 1) := by decide +kernel
theorem dX5_hold_23 : decode cX5_hold 23 = .ok (.invokevirtual 137, 3) := by decide +kernel
theorem dX5_hold_26 : decode cX5_hold 26 = .ok (.ifCond .ne 6, 3) := by decide +kernel
theorem dX5_hold_29 : decode cX5_hold 29 = .ok (.bipush (-103), 2) := by decide +kernel
theorem dX5_hold_31 : decode cX5_hold 31 = .ok (.ireturn, 1) := by decide +kernel
theorem dX5_hold_32 : decode cX5_hold 32 = .ok (.iconst 0, 1) := by decide +kernel
theorem dX5_hold_33 : decode cX5_hold 33 = .ok (.istore_n 2, 1) := by decide +kernel
theorem dX5_hold_34 : decode cX5_hold 34 = .ok (.iload_n 2, 1) := by decide +kernel
theorem dX5_hold_35 : decode cX5_hold 35 = .ok (.bipush 9, 2) := by decide +kernel
theorem dX5_hold_37 : decode cX5_hold 37 = .ok (.if_icmp .gt 58, 3) := by decide +kernel
theorem dX5_hold_40 : decode cX5_hold 40 = .ok (.aload_n 0, 1) := by decide +kernel
theorem dX5_hold_41 : decode cX5_hold 41 = .ok (.getfield 50, 3) := by decide +kernel
theorem dX5_hold_44 : decode cX5_hold 44 = .ok (.aload_n 0, 1) := by decide +kernel
theorem dX5_hold_45 : decode cX5_hold 45 = .ok (.getfield 33, 3) := by decide +kernel
theorem dX5_hold_48 : decode cX5_hold 48 = .ok (.invokevirtual 170, 3) := by decide +kernel
theorem dX5_hold_51 : decode cX5_hold 51 = .ok (.aload_n 0, 1) := by decide +kernel
theorem dX5_hold_52 : decode cX5_hold 52 = .ok (.getfield 50, 3) := by decide +kernel
theorem dX5_hold_55 : decode cX5_hold 55 = .ok (.iload_n 1, 1) := by decide +kernel
theorem dX5_hold_56 : decode cX5_hold 56 = .ok (.iload_n 2, 1) := by decide +kernel
theorem dX5_hold_57 : decode cX5_hold 57 = .ok (.invokevirtual 159, 3) := by decide +kernel
theorem dX5_hold_60 : decode cX5_hold 60 = .ok (.aload_n 0, 1) := by decide +kernel
theorem dX5_hold_61 : decode cX5_hold 61 = .ok (.getfield 50, 3) := by decide +kernel
theorem dX5_hold_64 : decode cX5_hold 64 = .ok (.aload_n 0, 1) := by decide +kernel
theorem dX5_hold_65 : decode cX5_hold 65 = .ok (.getfield 19, 3) := by decide +kernel
theorem dX5_hold_68 : decode cX5_hold 68 = .ok (.aload_n 0, 1) := by decide +kernel
theorem dX5_hold_69 : decode cX5_hold 69 = .ok (.getfield 26, 3) := by decide +kernel
theorem dX5_hold_72 : decode cX5_hold 72 = .ok (.invokevirtual 174, 3) := by decide +kernel
theorem dX5_hold_75 : decode cX5_hold 75 = .ok (.pop, 1) := by decide +kernel
theorem dX5_hold_76 : decode cX5_hold 76 = .ok (.aload_n 0, 1) := by decide +kernel
theorem dX5_hold_77 : decode cX5_hold 77 = .ok (.getfield 50, 3) := by decide +kernel
theorem dX5_hold_80 : decode cX5_hold 80 = .ok (.iload_n 1, 1) := by decide +kernel
theorem dX5_hold_81 : decode cX5_hold 81 = .ok (.invokevirtual 137, 3) := by decide +kernel
theorem dX5_hold_84 : decode cX5_hold 84 = .ok (.ifCond .eq 5, 3) := by decide +kernel
theorem dX5_hold_87 : decode cX5_hold 87 = .ok (.iload_n 2, 1) := by decide +kernel
theorem dX5_hold_88 : decode cX5_hold 88 = .ok (.ireturn, 1) := by decide +kernel
theorem dX5_hold_89 : decode cX5_hold 89 = .ok (.iinc 2 1, 3) := by decide +kernel
theorem dX5_hold_92 : decode cX5_hold 92 = .ok (.goto (-58), 3) := by decide +kernel
theorem dX5_hold_95 : decode cX5_hold 95 = .ok (.iconst (-1), 1) := by decide +kernel
theorem dX5_hold_96 : decode cX5_hold 96 = .ok (.ireturn, 1) := by decide +kernel
theorem dX5_listener_0 : decode cX5_listener 0 = .ok (.aload_n 0, 1) := by decide +kernel
theorem dX5_listener_1 : decode cX5_listener 1 = .ok (.invokevirtual 163, 3) := by decide +kernel
theorem dX5_listener_4 : decode cX5_listener 4 = .ok (.ifCond .ne 6, 3) := by decide +kernel
theorem dX5_listener_7 : decode cX5_listener 7 = .ok (.bipush (-103), 2) := by decide +kernel
theorem dX5_listener_9 : decode cX5_listener 9 = .ok (.ireturn, 1) := by decide +kernel
theorem dX5_listener_10 : decode cX5_listener 10 = .ok (.iconst (-1), 1) := by decide +kernel
theorem dX5_listener_11 : decode cX5_listener 11 = .ok (.istore_n 1, 1) := by decide +kernel
theorem dX5_listener_12 : decode cX5_listener 12 = .ok (.iconst 0, 1) := by decide +kernel
theorem dX5_listener_13 : decode cX5_listener 13 = .ok (.istore_n 2, 1) := by decide +kernel
theorem dX5_listener_14 : decode cX5_listener 14 = .ok (.iconst 0, 1) := by decide +kernel
theorem dX5_listener_15 : decode cX5_listener 15 = .ok (.istore_n 3, 1) := by decide +kernel
theorem dX5_listener_16 : decode cX5_listener 16 = .ok (.iload_n 3, 1) := by decide +kernel
theorem dX5_listener_17 : decode cX5_listener 17 = .ok (.aload_n 0, 1) := by decide +kernel
theorem dX5_listener_18 : decode cX5_listener 18 = .ok (.getfield 26, 3) := by decide +kernel
theorem dX5_listener_21 : decode cX5_listener 21 = .ok (.getfield 76, 3) := by decide +kernel
theorem dX5_listener_24 : decode cX5_listener 24 = .ok (.if_icmp .ge 43, 3) := by decide +kernel
theorem dX5_listener_27 : decode cX5_listener 27 = .ok (.aload_n 0, 1) := by decide +kernel
theorem dX5_listener_28 : decode cX5_listener 28 = .ok (.getfield 33, 3) := by decide +kernel
theorem dX5_listener_31 : decode cX5_listener 31 = .ok (.iload_n 3, 1) := by decide +kernel
theorem dX5_listener_32 : decode cX5_listener 32 = .ok (.invokevirtual 137, 3) := by decide +kernel
theorem dX5_listener_35 : decode cX5_listener 35 = .ok (.ifCond .eq 26, 3) := by decide +kernel
theorem dX5_listener_38 : decode cX5_listener 38 = .ok (.aload_n 0, 1) := by decide +kernel
theorem dX5_listener_39 : decode cX5_listener 39 = .ok (.iload_n 3, 1) := by decide +kernel
theorem dX5_listener_40 : decode cX5_listener 40 = .ok (.invokevirtual 195, 3) := by decide +kernel
theorem dX5_listener_43 : decode cX5_listener 43 = .ok (.istore 4, 2) := by decide +kernel
theorem dX5_listener_45 : decode cX5_listener 45 = .ok (.iload_n 1, 1) := by decide +kernel
theorem dX5_listener_46 : decode cX5_listener 46 = .ok (.iconst (-1), 1) := by decide +kernel
theorem dX5_listener_47 : decode cX5_listener 47 = .ok (.if_icmp .eq 9, 3) := by decide +kernel
theorem dX5_listener_50 : decode cX5_listener 50 = .ok (.iload 4, 2) := by decide +kernel
theorem dX5_listener_52 : decode cX5_listener 52 = .ok (.iload_n 2, 1) := by decide +kernel
theorem dX5_listener_53 : decode cX5_listener 53 = .ok (.if_icmp .ge 8, 3) := by decide +kernel
theorem dX5_listener_56 : decode cX5_listener 56 = .ok (.iload_n 3, 1) := by decide +kernel
theorem dX5_listener_57 : decode cX5_listener 57 = .ok (.istore_n 1, 1) := by decide +kernel
theorem dX5_listener_58 : decode cX5_listener 58 = .ok (.iload 4, 2) := by decide +kernel
theorem dX5_listener_60 : decode cX5_listener 60 = .ok (.istore_n 2, 1) := by decide +kernel
theorem dX5_listener_61 : decode cX5_listener 61 = .ok (.iinc 3 1, 3) := by decide +kernel
theorem dX5_listener_64 : decode cX5_listener 64 = .ok (.goto (-48), 3) := by decide +kernel
theorem dX5_listener_67 : decode cX5_listener 67 = .ok (.iload_n 1, 1) := by decide +kernel
theorem dX5_listener_68 : decode cX5_listener 68 = .ok (.ireturn, 1) := by decide +kernel
theorem dX5_sold_0 : decode cX5_sold 0 = .ok (.aload_n 0, 1) := by decide +kernel
theorem dX5_sold_1 : decode cX5_sold 1 = .ok (.invokevirtual 163, 3) := by decide +kernel
theorem dX5_sold_4 : decode cX5_sold 4 = .ok (.ifCond .ne 6, 3) := by decide +kernel
theorem dX5_sold_7 : decode cX5_sold 7 = .ok (.bipush (-103), 2) := by decide +kernel
theorem dX5_sold_9 : decode cX5_sold 9 = .ok (.ireturn, 1) := by decide +kernel
theorem dX5_sold_10 : decode cX5_sold 10 = .ok (.aload_n 0, 1) := by decide +kernel
theorem dX5_sold_11 : decode cX5_sold 11 = .ok (.getfield 33, 3) := by decide +kernel
theorem dX5_sold_14 : decode cX5_sold 14 = .ok (.aload_n 0, 1) := by decide +kernel
theorem dX5_sold_15 : decode cX5_sold 15 = .ok (.getfield 26, 3) := by decide +kernel
theorem dX5_sold_18 : decode cX5_sold 18 = .ok (.invokevirtual 177, 3) := by decide +kernel
theorem dX5_sold_21 : decode cX5_sold 21 = .ok (.istore_n 1, 1) := by decide +kernel
theorem dX5_sold_22 : decode cX5_sold 22 = .ok (.iconst 0, 1) := by decide +kernel
theorem dX5_sold_23 : decode cX5_sold 23 = .ok (.istore_n 2, 1) := by decide +kernel
theorem dX5_sold_24 : decode cX5_sold 24 = .ok (.iload_n 2, 1) := by decide +kernel
theorem dX5_sold_25 : decode cX5_sold 25 = .ok (.bipush 9, 2) := by decide +kernel
theorem dX5_sold_27 : decode cX5_sold 27 = .ok (.if_icmp .gt 65, 3) := by decide +kernel
theorem dX5_sold_30 : decode cX5_sold 30 = .ok (.aload_n 0, 1) := by decide +kernel
theorem dX5_sold_31 : decode cX5_sold 31 = .ok (.getfield 53, 3) := by decide +kernel
theorem dX5_sold_34 : decode cX5_sold 34 = .ok (.aload_n 0, 1) := by decide +kernel
theorem dX5_sold_35 : decode cX5_sold 35 = .ok (.getfield 19, 3) := by decide +kernel
theorem dX5_sold_38 : decode cX5_sold 38 = .ok (.iload_n 2, 1) := by decide +kernel
theorem dX5_sold_39 : decode cX5_sold 39 = .ok (.invokevirtual 198, 3) := by decide +kernel
theorem dX5_sold_42 : decode cX5_sold 42 = .ok (.aload_n 0, 1) := by decide +kernel
theorem dX5_sold_43 : decode cX5_sold 43 = .ok (.getfield 50, 3) := by decide +kernel
theorem dX5_sold_46 : decode cX5_sold 46 = .ok (.aload_n 0, 1) := by decide +kernel
theorem dX5_sold_47 : decode cX5_sold 47 = .ok (.getfield 33, 3) := by decide +kernel
theorem dX5_sold_50 : decode cX5_sold 50 = .ok (.invokevirtual 170, 3) := by decide +kernel
theorem dX5_sold_53 : decode cX5_sold 53 = .ok (.aload_n 0, 1) := by decide +kernel
theorem dX5_sold_54 : decode cX5_sold 54 = .ok (.getfield 50, 3) := by decide +kernel
theorem dX5_sold_57 : decode cX5_sold 57 = .ok (.aload_n 0, 1) := by decide +kernel
theorem dX5_sold_58 : decode cX5_sold 58 = .ok (.getfield 53, 3) := by decide +kernel
theorem dX5_sold_61 : decode cX5_sold 61 = .ok (.aload_n 0, 1) := by decide +kernel
theorem dX5_sold_62 : decode cX5_sold 62 = .ok (.getfield 26, 3) := by decide +kernel
theorem dX5_sold_65 : decode cX5_sold 65 = .ok (.invokevirtual 174, 3) := by decide +kernel
theorem dX5_sold_68 : decode cX5_sold 68 = .ok (.pop, 1) := by decide +kernel
theorem dX5_sold_69 : decode cX5_sold 69 = .ok (.aload_n 0, 1) := by decide +kernel
theorem dX5_sold_70 : decode cX5_sold 70 = .ok (.getfield 50, 3) := by decide +kernel
theorem dX5_sold_73 : decode cX5_sold 73 = .ok (.aload_n 0, 1) := by decide +kernel
theorem dX5_sold_74 : decode cX5_sold 74 = .ok (.getfield 26, 3) := by decide +kernel
theorem dX5_sold_77 : decode cX5_sold 77 = .ok (.invokevirtual 177, 3) := by decide +kernel
theorem dX5_sold_80 : decode cX5_sold 80 = .ok (.iload_n 1, 1) := by decide +kernel
theorem dX5_sold_81 : decode cX5_sold 81 = .ok (.if_icmp .ne 5, 3) := by decide +kernel
theorem dX5_sold_84 : decode cX5_sold 84 = .ok (.iload_n 2, 1) := by decide +kernel
theorem dX5_sold_85 : decode cX5_sold 85 = .ok (.ireturn, 1) := by decide +kernel
theorem dX5_sold_86 : decode cX5_sold 86 = .ok (.iinc 2 1, 3) := by decide +kernel
theorem dX5_sold_89 : decode cX5_sold 89 = .ok (.goto (-65), 3) := by decide +kernel
theorem dX5_sold_92 : decode cX5_sold 92 = .ok (.iconst (-1), 1) := by decide +kernel
theorem dX5_sold_93 : decode cX5_sold 93 = .ok (.ireturn, 1) := by decide +kernel
theorem dX5_log_0 : decode cX5_log 0 = .ok (.iload_n 1, 1) := by decide +kernel
theorem dX5_log_1 : decode cX5_log 1 = .ok (.ifCond .lt 14, 3) := by decide +kernel
theorem dX5_log_4 : decode cX5_log 4 = .ok (.iload_n 1, 1) := by decide +kernel
theorem dX5_log_5 : decode cX5_log 5 = .ok (.aload_n 0, 1) := by decide +kernel
theorem dX5_log_6 : decode cX5_log 6 = .ok (.getfield 26, 3) := by decide +kernel
theorem dX5_log_9 : decode cX5_log 9 = .ok (.invokevirtual 184, 3) := by decide +kernel
theorem dX5_log_12 : decode cX5_log 12 = .ok (.if_icmp .le 6, 3) := by decide +kernel
theorem dX5_log_15 : decode cX5_log 15 = .ok (.bipush (-102), 2) := by decide +kernel
theorem dX5_log_17 : decode cX5_log 17 = .ok (.ireturn, 1) := by decide +kernel
theorem dX5_log_18 : decode cX5_log 18 = .ok (.aload_n 0, 1) := by decide +kernel
theorem dX5_log_19 : decode cX5_log 19 = .ok (.getfield 40, 3) := by decide +kernel
theorem dX5_log_22 : decode cX5_log 22 = .ok (.getfield 77, 3) := by decide +kernel
theorem dX5_log_25 : decode cX5_log 25 = .ok (.bipush 8, 2) := by decide +kernel
theorem dX5_log_27 : decode cX5_log 27 = .ok (.if_icmp .lt 6, 3) := by decide +kernel
theorem dX5_log_30 : decode cX5_log 30 = .ok (.bipush (-104), 2) := by decide +kernel
theorem dX5_log_32 : decode cX5_log 32 = .ok (.ireturn, 1) := by decide +kernel
theorem dX5_log_33 : decode cX5_log 33 = .ok (.aload_n 0, 1) := by decide +kernel
theorem dX5_log_34 : decode cX5_log 34 = .ok (.getfield 40, 3) := by decide +kernel
theorem dX5_log_37 : decode cX5_log 37 = .ok (.iload_n 1, 1) := by decide +kernel
theorem dX5_log_38 : decode cX5_log 38 = .ok (.invokevirtual 202, 3) := by decide +kernel
theorem dX5_log_41 : decode cX5_log 41 = .ok (.aload_n 0, 1) := by decide +kernel
theorem dX5_log_42 : decode cX5_log 42 = .ok (.getfield 40, 3) := by decide +kernel
theorem dX5_log_45 : decode cX5_log 45 = .ok (.getfield 77, 3) := by decide +kernel
theorem dX5_log_48 : decode cX5_log 48 = .ok (.ireturn, 1) := by decide +kernel
theorem dX5_forget_0 : decode cX5_forget 0 = .ok (.aload_n 0, 1) := by decide +kernel
theorem dX5_forget_1 : decode cX5_forget 1 = .ok (.getfield 40, 3) := by decide +kernel
theorem dX5_forget_4 : decode cX5_forget 4 = .ok (.getfield 77, 3) := by decide +kernel
theorem dX5_forget_7 : decode cX5_forget 7 = .ok (.istore_n 1, 1) := by decide +kernel
theorem dX5_forget_8 : decode cX5_forget 8 = .ok (.aload_n 0, 1) := by decide +kernel
theorem dX5_forget_9 : decode cX5_forget 9 = .ok (.getfield 40, 3) := by decide +kernel
theorem dX5_forget_12 : decode cX5_forget 12 = .ok (.iconst 0, 1) := by decide +kernel
theorem dX5_forget_13 : decode cX5_forget 13 = .ok (.putfield 77, 3) := by decide +kernel
theorem dX5_forget_16 : decode cX5_forget 16 = .ok (.iload_n 1, 1) := by decide +kernel
theorem dX5_forget_17 : decode cX5_forget 17 = .ok (.ireturn, 1) := by decide +kernel
theorem dX5_fits_0 : decode cX5_fits 0 = .ok (.aload_n 0, 1) := by decide +kernel
theorem dX5_fits_1 : decode cX5_fits 1 = .ok (.invokevirtual 100, 3) := by decide +kernel
theorem dX5_fits_4 : decode cX5_fits 4 = .ok (.ifCond .eq 13, 3) := by decide +kernel
theorem dX5_fits_7 : decode cX5_fits 7 = .ok (.aload_n 0, 1) := by decide +kernel
theorem dX5_fits_8 : decode cX5_fits 8 = .ok (.getfield 26, 3) := by decide +kernel
theorem dX5_fits_11 : decode cX5_fits 11 = .ok (.getfield 76, 3) := by decide +kernel
theorem dX5_fits_14 : decode cX5_fits 14 = .ok (.ifCond .ne 6, 3) := by decide +kernel
theorem dX5_fits_17 : decode cX5_fits 17 = .ok (.bipush (-103), 2) := by decide +kernel
theorem dX5_fits_19 : decode cX5_fits 19 = .ok (.ireturn, 1) := by decide +kernel
theorem dX5_fits_20 : decode cX5_fits 20 = .ok (.aload_n 0, 1) := by decide +kernel
theorem dX5_fits_21 : decode cX5_fits 21 = .ok (.iconst 0, 1) := by decide +kernel
theorem dX5_fits_22 : decode cX5_fits 22 = .ok (.invokevirtual 203, 3) := by decide +kernel
theorem dX5_fits_25 : decode cX5_fits 25 = .ok (.ireturn, 1) := by decide +kernel
theorem dX5_sure_0 : decode cX5_sure 0 = .ok (.aload_n 0, 1) := by decide +kernel
theorem dX5_sure_1 : decode cX5_sure 1 = .ok (.iload_n 1, 1) := by decide +kernel
theorem dX5_sure_2 : decode cX5_sure 2 = .ok (.invokevirtual 115, 3) := by decide +kernel
theorem dX5_sure_5 : decode cX5_sure 5 = .ok (.ifCond .ne 6, 3) := by decide +kernel
theorem dX5_sure_8 : decode cX5_sure 8 = .ok (.bipush (-101), 2) := by decide +kernel
theorem dX5_sure_10 : decode cX5_sure 10 = .ok (.ireturn, 1) := by decide +kernel
theorem dX5_sure_11 : decode cX5_sure 11 = .ok (.aload_n 0, 1) := by decide +kernel
theorem dX5_sure_12 : decode cX5_sure 12 = .ok (.iconst 0, 1) := by decide +kernel
theorem dX5_sure_13 : decode cX5_sure 13 = .ok (.invokevirtual 203, 3) := by decide +kernel
theorem dX5_sure_16 : decode cX5_sure 16 = .ok (.istore_n 2, 1) := by decide +kernel
theorem dX5_sure_17 : decode cX5_sure 17 = .ok (.aload_n 0, 1) := by decide +kernel
theorem dX5_sure_18 : decode cX5_sure 18 = .ok (.iconst 1, 1) := by decide +kernel
theorem dX5_sure_19 : decode cX5_sure 19 = .ok (.iload_n 1, 1) := by decide +kernel
theorem dX5_sure_20 : decode cX5_sure 20 = .ok (.ishl, 1) := by decide +kernel
theorem dX5_sure_21 : decode cX5_sure 21 = .ok (.invokevirtual 203, 3) := by decide +kernel
theorem dX5_sure_24 : decode cX5_sure 24 = .ok (.istore_n 3, 1) := by decide +kernel
theorem dX5_sure_25 : decode cX5_sure 25 = .ok (.iload_n 2, 1) := by decide +kernel
theorem dX5_sure_26 : decode cX5_sure 26 = .ok (.ifCond .eq 12, 3) := by decide +kernel
theorem dX5_sure_29 : decode cX5_sure 29 = .ok (.iload_n 3, 1) := by decide +kernel
theorem dX5_sure_30 : decode cX5_sure 30 = .ok (.ifCond .eq 10, 3) := by decide +kernel
theorem dX5_sure_33 : decode cX5_sure 33 = .ok (.iload_n 3, 1) := by decide +kernel
theorem dX5_sure_34 : decode cX5_sure 34 = .ok (.iload_n 2, 1) := by decide +kernel
theorem dX5_sure_35 : decode cX5_sure 35 = .ok (.if_icmp .eq 5, 3) := by decide +kernel
theorem dX5_sure_38 : decode cX5_sure 38 = .ok (.iconst (-1), 1) := by decide +kernel
theorem dX5_sure_39 : decode cX5_sure 39 = .ok (.ireturn, 1) := by decide +kernel
theorem dX5_sure_40 : decode cX5_sure 40 = .ok (.iload_n 3, 1) := by decide +kernel
theorem dX5_sure_41 : decode cX5_sure 41 = .ok (.iload_n 2, 1) := by decide +kernel
theorem dX5_sure_42 : decode cX5_sure 42 = .ok (.if_icmp .ne 7, 3) := by decide +kernel
theorem dX5_sure_45 : decode cX5_sure 45 = .ok (.iconst 1, 1) := by decide +kernel
theorem dX5_sure_46 : decode cX5_sure 46 = .ok (.goto 4, 3) := by decide +kernel
theorem dX5_sure_49 : decode cX5_sure 49 = .ok (.iconst 0, 1) := by decide +kernel
theorem dX5_sure_50 : decode cX5_sure 50 = .ok (.invokestatic 130, 3) := by decide +kernel
theorem dX5_sure_53 : decode cX5_sure 53 = .ok (.ireturn, 1) := by decide +kernel
theorem dX5_voyages_0 : decode cX5_voyages 0 = .ok (.iload_n 1, 1) := by decide +kernel
theorem dX5_voyages_1 : decode cX5_voyages 1 = .ok (.iconst 1, 1) := by decide +kernel
theorem dX5_voyages_2 : decode cX5_voyages 2 = .ok (.if_icmp .lt 22, 3) := by decide +kernel
theorem dX5_voyages_5 : decode cX5_voyages 5 = .ok (.iload_n 1, 1) := by decide +kernel
theorem dX5_voyages_6 : decode cX5_voyages 6 = .ok (.bipush 20, 2) := by decide +kernel
theorem dX5_voyages_8 : decode cX5_voyages 8 = .ok (.if_icmp .gt 16, 3) := by decide +kernel
theorem dX5_voyages_11 : decode cX5_voyages 11 = .ok (.iload_n 2, 1) := by decide +kernel
theorem dX5_voyages_12 : decode cX5_voyages 12 = .ok (.ifCond .lt 12, 3) := by decide +kernel
theorem dX5_voyages_15 : decode cX5_voyages 15 = .ok (.iload_n 3, 1) := by decide +kernel
theorem dX5_voyages_16 : decode cX5_voyages 16 = .ok (.ifCond .lt 8, 3) := by decide +kernel
theorem dX5_voyages_19 : decode cX5_voyages 19 = .ok (.iload_n 3, 1) := by decide +kernel
theorem dX5_voyages_20 : decode cX5_voyages 20 = .ok (.iconst 2, 1) := by decide +kernel
theorem dX5_voyages_21 : decode cX5_voyages 21 = .ok (.if_icmp .le 6, 3) := by decide +kernel
theorem dX5_voyages_24 : decode cX5_voyages 24 = .ok (.bipush (-102), 2) := by decide +kernel
theorem dX5_voyages_26 : decode cX5_voyages 26 = .ok (.ireturn, 1) := by decide +kernel
theorem dX5_voyages_27 : decode cX5_voyages 27 = .ok (.aload_n 0, 1) := by decide +kernel
theorem dX5_voyages_28 : decode cX5_voyages 28 = .ok (.invokevirtual 100, 3) := by decide +kernel
theorem dX5_voyages_31 : decode cX5_voyages 31 = .ok (.ifCond .eq 13, 3) := by decide +kernel
theorem dX5_voyages_34 : decode cX5_voyages 34 = .ok (.aload_n 0, 1) := by decide +kernel
theorem dX5_voyages_35 : decode cX5_voyages 35 = .ok (.getfield 26, 3) := by decide +kernel
theorem dX5_voyages_38 : decode cX5_voyages 38 = .ok (.getfield 76, 3) := by decide +kernel
theorem dX5_voyages_41 : decode cX5_voyages 41 = .ok (.ifCond .ne 6, 3) := by decide +kernel
theorem dX5_voyages_44 : decode cX5_voyages 44 = .ok (.bipush (-103), 2) := by decide +kernel
theorem dX5_voyages_46 : decode cX5_voyages 46 = .ok (.ireturn, 1) := by decide +kernel
theorem dX5_voyages_47 : decode cX5_voyages 47 = .ok (.iconst 0, 1) := by decide +kernel
theorem dX5_voyages_48 : decode cX5_voyages 48 = .ok (.istore 4, 2) := by decide +kernel
theorem dX5_voyages_50 : decode cX5_voyages 50 = .ok (.iconst 0, 1) := by decide +kernel
theorem dX5_voyages_51 : decode cX5_voyages 51 = .ok (.istore 5, 2) := by decide +kernel
theorem dX5_voyages_53 : decode cX5_voyages 53 = .ok (.iload_n 2, 1) := by decide +kernel
theorem dX5_voyages_54 : decode cX5_voyages 54 = .ok (.istore 6, 2) := by decide +kernel
theorem dX5_voyages_56 : decode cX5_voyages 56 = .ok (.iconst 0, 1) := by decide +kernel
theorem dX5_voyages_57 : decode cX5_voyages 57 = .ok (.istore 7, 2) := by decide +kernel
theorem dX5_voyages_59 : decode cX5_voyages 59 = .ok (.iload 7, 2) := by decide +kernel
theorem dX5_voyages_61 : decode cX5_voyages 61 = .ok (.iload_n 1, 1) := by decide +kernel
theorem dX5_voyages_62 : decode cX5_voyages 62 = .ok (.if_icmp .ge 105, 3) := by decide +kernel
theorem dX5_voyages_65 : decode cX5_voyages 65 = .ok (.aload_n 0, 1) := by decide +kernel
theorem dX5_voyages_66 : decode cX5_voyages 66 = .ok (.getfield 53, 3) := by decide +kernel
theorem dX5_voyages_69 : decode cX5_voyages 69 = .ok (.aload_n 0, 1) := by decide +kernel
theorem dX5_voyages_70 : decode cX5_voyages 70 = .ok (.getfield 19, 3) := by decide +kernel
theorem dX5_voyages_73 : decode cX5_voyages 73 = .ok (.iload 6, 2) := by decide +kernel
theorem dX5_voyages_75 : decode cX5_voyages 75 = .ok (.invokevirtual 206, 3) := by decide +kernel
theorem dX5_voyages_78 : decode cX5_voyages 78 = .ok (.istore 6, 2) := by decide +kernel
theorem dX5_voyages_80 : decode cX5_voyages 80 = .ok (.aload_n 0, 1) := by decide +kernel
theorem dX5_voyages_81 : decode cX5_voyages 81 = .ok (.getfield 50, 3) := by decide +kernel
theorem dX5_voyages_84 : decode cX5_voyages 84 = .ok (.aload_n 0, 1) := by decide +kernel
theorem dX5_voyages_85 : decode cX5_voyages 85 = .ok (.getfield 33, 3) := by decide +kernel
theorem dX5_voyages_88 : decode cX5_voyages 88 = .ok (.invokevirtual 170, 3) := by decide +kernel
theorem dX5_voyages_91 : decode cX5_voyages 91 = .ok (.aload_n 0, 1) := by decide +kernel
theorem dX5_voyages_92 : decode cX5_voyages 92 = .ok (.getfield 50, 3) := by decide +kernel
theorem dX5_voyages_95 : decode cX5_voyages 95 = .ok (.aload_n 0, 1) := by decide +kernel
theorem dX5_voyages_96 : decode cX5_voyages 96 = .ok (.getfield 26, 3) := by decide +kernel
theorem dX5_voyages_99 : decode cX5_voyages 99 = .ok (.invokevirtual 184, 3) := by decide +kernel
theorem dX5_voyages_102 : decode cX5_voyages 102 = .ok (.invokevirtual 78, 3) := by decide +kernel
theorem dX5_voyages_105 : decode cX5_voyages 105 = .ok (.aload_n 0, 1) := by decide +kernel
theorem dX5_voyages_106 : decode cX5_voyages 106 = .ok (.getfield 50, 3) := by decide +kernel
theorem dX5_voyages_109 : decode cX5_voyages 109 = .ok (.aload_n 0, 1) := by decide +kernel
theorem dX5_voyages_110 : decode cX5_voyages 110 = .ok (.getfield 53, 3) := by decide +kernel
theorem dX5_voyages_113 : decode cX5_voyages 113 = .ok (.aload_n 0, 1) := by decide +kernel
theorem dX5_voyages_114 : decode cX5_voyages 114 = .ok (.getfield 26, 3) := by decide +kernel
theorem dX5_voyages_117 : decode cX5_voyages 117 = .ok (.invokevirtual 174, 3) := by decide +kernel
theorem dX5_voyages_120 : decode cX5_voyages 120 = .ok (.pop, 1) := by decide +kernel
theorem dX5_voyages_121 : decode cX5_voyages 121 = .ok (.iload 4, 2) := by decide +kernel
theorem dX5_voyages_123 : decode cX5_voyages 123 = .ok (.aload_n 0, 1) := by decide +kernel
theorem dX5_voyages_124 : decode cX5_voyages 124 = .ok (.getfield 50, 3) := by decide +kernel
theorem dX5_voyages_127 : decode cX5_voyages 127 = .ok (.getfield 152, 3) := by decide +kernel
theorem dX5_voyages_130 : decode cX5_voyages 130 = .ok (.iconst 1, 1) := by decide +kernel
theorem dX5_voyages_131 : decode cX5_voyages 131 = .ok (.if_icmp .ne 7, 3) := by decide +kernel
theorem dX5_voyages_134 : decode cX5_voyages 134 = .ok (.iconst 1, 1) := by decide +kernel
theorem dX5_voyages_135 : decode cX5_voyages 135 = .ok (.goto 4, 3) := by decide +kernel
theorem dX5_voyages_138 : decode cX5_voyages 138 = .ok (.iconst 0, 1) := by decide +kernel
theorem dX5_voyages_139 : decode cX5_voyages 139 = .ok (.invokestatic 130, 3) := by decide +kernel
theorem dX5_voyages_142 : decode cX5_voyages 142 = .ok (.iadd, 1) := by decide +kernel
theorem dX5_voyages_143 : decode cX5_voyages 143 = .ok (.istore 4, 2) := by decide +kernel
theorem dX5_voyages_145 : decode cX5_voyages 145 = .ok (.iload 5, 2) := by decide +kernel
theorem dX5_voyages_147 : decode cX5_voyages 147 = .ok (.aload_n 0, 1) := by decide +kernel
theorem dX5_voyages_148 : decode cX5_voyages 148 = .ok (.getfield 50, 3) := by decide +kernel
theorem dX5_voyages_151 : decode cX5_voyages 151 = .ok (.aload_n 0, 1) := by decide +kernel
theorem dX5_voyages_152 : decode cX5_voyages 152 = .ok (.getfield 26, 3) := by decide +kernel
theorem dX5_voyages_155 : decode cX5_voyages 155 = .ok (.invokevirtual 177, 3) := by decide +kernel
theorem dX5_voyages_158 : decode cX5_voyages 158 = .ok (.iadd, 1) := by decide +kernel
theorem dX5_voyages_159 : decode cX5_voyages 159 = .ok (.istore 5, 2) := by decide +kernel
theorem dX5_voyages_161 : decode cX5_voyages 161 = .ok (.iinc 7 1, 3) := by decide +kernel
theorem dX5_voyages_164 : decode cX5_voyages 164 = .ok (.goto (-105), 3) := by decide +kernel
theorem dX5_voyages_167 : decode cX5_voyages 167 = .ok (.iload_n 3, 1) := by decide +kernel
theorem dX5_voyages_168 : decode cX5_voyages 168 = .ok (.ifCond .ne 6, 3) := by decide +kernel
theorem dX5_voyages_171 : decode cX5_voyages 171 = .ok (.iload 4, 2) := by decide +kernel
theorem dX5_voyages_173 : decode cX5_voyages 173 = .ok (.ireturn, 1) := by decide +kernel
theorem dX5_voyages_174 : decode cX5_voyages 174 = .ok (.iload_n 3, 1) := by decide +kernel
theorem dX5_voyages_175 : decode cX5_voyages 175 = .ok (.iconst 1, 1) := by decide +kernel
theorem dX5_voyages_176 : decode cX5_voyages 176 = .ok (.if_icmp .ne 8, 3) := by decide +kernel
theorem dX5_voyages_179 : decode cX5_voyages 179 = .ok (.iload 5, 2) := by decide +kernel
theorem dX5_voyages_181 : decode cX5_voyages 181 = .ok (.goto 5, 3) := by decide +kernel
theorem dX5_voyages_184 : decode cX5_voyages 184 = .ok (.iload 6, 2) := by decide +kernel
theorem dX5_voyages_186 : decode cX5_voyages 186 = .ok (.ireturn, 1) := by decide +kernel
theorem dX5_image_0 : decode cX5_image 0 = .ok (.aload_n 0, 1) := by decide +kernel
theorem dX5_image_1 : decode cX5_image 1 = .ok (.invokevirtual 100, 3) := by decide +kernel
theorem dX5_image_4 : decode cX5_image 4 = .ok (.ifCond .ne 6, 3) := by decide +kernel
theorem dX5_image_7 : decode cX5_image 7 = .ok (.bipush (-103), 2) := by decide +kernel
theorem dX5_image_9 : decode cX5_image 9 = .ok (.ireturn, 1) := by decide +kernel
theorem dX5_image_10 : decode cX5_image 10 = .ok (.aload_n 0, 1) := by decide +kernel
theorem dX5_image_11 : decode cX5_image 11 = .ok (.getfield 44, 3) := by decide +kernel
theorem dX5_image_14 : decode cX5_image 14 = .ok (.aload_n 0, 1) := by decide +kernel
theorem dX5_image_15 : decode cX5_image 15 = .ok (.getfield 33, 3) := by decide +kernel
theorem dX5_image_18 : decode cX5_image 18 = .ok (.invokevirtual 170, 3) := by decide +kernel
theorem dX5_image_21 : decode cX5_image 21 = .ok (.aload_n 0, 1) := by decide +kernel
theorem dX5_image_22 : decode cX5_image 22 = .ok (.getfield 47, 3) := by decide +kernel
theorem dX5_image_25 : decode cX5_image 25 = .ok (.aload_n 0, 1) := by decide +kernel
theorem dX5_image_26 : decode cX5_image 26 = .ok (.getfield 40, 3) := by decide +kernel
theorem dX5_image_29 : decode cX5_image 29 = .ok (.invokevirtual 210, 3) := by decide +kernel
theorem dX5_image_32 : decode cX5_image 32 = .ok (.aload_n 0, 1) := by decide +kernel
theorem dX5_image_33 : decode cX5_image 33 = .ok (.aload_n 0, 1) := by decide +kernel
theorem dX5_image_34 : decode cX5_image 34 = .ok (.getfield 26, 3) := by decide +kernel
theorem dX5_image_37 : decode cX5_image 37 = .ok (.getfield 76, 3) := by decide +kernel
theorem dX5_image_40 : decode cX5_image 40 = .ok (.putfield 213, 3) := by decide +kernel
theorem dX5_image_43 : decode cX5_image 43 = .ok (.aload_n 0, 1) := by decide +kernel
theorem dX5_image_44 : decode cX5_image 44 = .ok (.iconst 1, 1) := by decide +kernel
theorem dX5_image_45 : decode cX5_image 45 = .ok (.putfield 81, 3) := by decide +kernel
theorem dX5_image_48 : decode cX5_image 48 = .ok (.aload_n 0, 1) := by decide +kernel
theorem dX5_image_49 : decode cX5_image 49 = .ok (.getfield 33, 3) := by decide +kernel
theorem dX5_image_52 : decode cX5_image 52 = .ok (.getfield 106, 3) := by decide +kernel
theorem dX5_image_55 : decode cX5_image 55 = .ok (.ireturn, 1) := by decide +kernel
theorem dX5_restore_0 : decode cX5_restore 0 = .ok (.aload_n 0, 1) := by decide +kernel
theorem dX5_restore_1 : decode cX5_restore 1 = .ok (.getfield 81, 3) := by decide +kernel
theorem dX5_restore_4 : decode cX5_restore 4 = .ok (.ifCond .ne 6, 3) := by decide +kernel
theorem dX5_restore_7 : decode cX5_restore 7 = .ok (.bipush (-103), 2) := by decide +kernel
theorem dX5_restore_9 : decode cX5_restore 9 = .ok (.ireturn, 1) := by decide +kernel
theorem dX5_restore_10 : decode cX5_restore 10 = .ok (.aload_n 0, 1) := by decide +kernel
theorem dX5_restore_11 : decode cX5_restore 11 = .ok (.getfield 33, 3) := by decide +kernel
theorem dX5_restore_14 : decode cX5_restore 14 = .ok (.aload_n 0, 1) := by decide +kernel
theorem dX5_restore_15 : decode cX5_restore 15 = .ok (.getfield 44, 3) := by decide +kernel
theorem dX5_restore_18 : decode cX5_restore 18 = .ok (.invokevirtual 170, 3) := by decide +kernel
theorem dX5_restore_21 : decode cX5_restore 21 = .ok (.aload_n 0, 1) := by decide +kernel
theorem dX5_restore_22 : decode cX5_restore 22 = .ok (.getfield 40, 3) := by decide +kernel
theorem dX5_restore_25 : decode cX5_restore 25 = .ok (.aload_n 0, 1) := by decide +kernel
theorem dX5_restore_26 : decode cX5_restore 26 = .ok (.getfield 47, 3) := by decide +kernel
theorem dX5_restore_29 : decode cX5_restore 29 = .ok (.invokevirtual 210, 3) := by decide +kernel
theorem dX5_restore_32 : decode cX5_restore 32 = .ok (.aload_n 0, 1) := by decide +kernel
theorem dX5_restore_33 : decode cX5_restore 33 = .ok (.getfield 26, 3) := by decide +kernel
theorem dX5_restore_36 : decode cX5_restore 36 = .ok (.aload_n 0, 1) := by decide +kernel
theorem dX5_restore_37 : decode cX5_restore 37 = .ok (.getfield 213, 3) := by decide +kernel
theorem dX5_restore_40 : decode cX5_restore 40 = .ok (.putfield 76, 3) := by decide +kernel
theorem dX5_restore_43 : decode cX5_restore 43 = .ok (.aload_n 0, 1) := by decide +kernel
theorem dX5_restore_44 : decode cX5_restore 44 = .ok (.getfield 33, 3) := by decide +kernel
theorem dX5_restore_47 : decode cX5_restore 47 = .ok (.getfield 106, 3) := by decide +kernel
theorem dX5_restore_50 : decode cX5_restore 50 = .ok (.ireturn, 1) := by decide +kernel
theorem dX5_count_0 : decode cX5_count 0 = .ok (.iload_n 1, 1) := by decide +kernel
theorem dX5_count_1 : decode cX5_count 1 = .ok (.tableswitch 148 0 10 #[59, 67, 75, 83, 91, 103, 111, 119, 127, 135, 143], 59) := by decide +kernel
theorem dX5_count_60 : decode cX5_count 60 = .ok (.aload_n 0, 1) := by decide +kernel
theorem dX5_count_61 : decode cX5_count 61 = .ok (.getfield 19, 3) := by decide +kernel
theorem dX5_count_64 : decode cX5_count 64 = .ok (.getfield 88, 3) := by decide +kernel
theorem dX5_count_67 : decode cX5_count 67 = .ok (.ireturn, 1) := by decide +kernel
theorem dX5_count_68 : decode cX5_count 68 = .ok (.aload_n 0, 1) := by decide +kernel
theorem dX5_count_69 : decode cX5_count 69 = .ok (.getfield 19, 3) := by decide +kernel
theorem dX5_count_72 : decode cX5_count 72 = .ok (.getfield 216, 3) := by decide +kernel
theorem dX5_count_75 : decode cX5_count 75 = .ok (.ireturn, 1) := by decide +kernel
theorem dX5_count_76 : decode cX5_count 76 = .ok (.aload_n 0, 1) := by decide +kernel
theorem dX5_count_77 : decode cX5_count 77 = .ok (.getfield 19, 3) := by decide +kernel
theorem dX5_count_80 : decode cX5_count 80 = .ok (.getfield 219, 3) := by decide +kernel
theorem dX5_count_83 : decode cX5_count 83 = .ok (.ireturn, 1) := by decide +kernel
theorem dX5_count_84 : decode cX5_count 84 = .ok (.aload_n 0, 1) := by decide +kernel
theorem dX5_count_85 : decode cX5_count 85 = .ok (.getfield 26, 3) := by decide +kernel
theorem dX5_count_88 : decode cX5_count 88 = .ok (.getfield 76, 3) := by decide +kernel
theorem dX5_count_91 : decode cX5_count 91 = .ok (.ireturn, 1) := by decide +kernel
theorem dX5_count_92 : decode cX5_count 92 = .ok (.aload_n 0, 1) := by decide +kernel
theorem dX5_count_93 : decode cX5_count 93 = .ok (.getfield 33, 3) := by decide +kernel
theorem dX5_count_96 : decode cX5_count 96 = .ok (.aload_n 0, 1) := by decide +kernel
theorem dX5_count_97 : decode cX5_count 97 = .ok (.getfield 26, 3) := by decide +kernel
theorem dX5_count_100 : decode cX5_count 100 = .ok (.invokevirtual 177, 3) := by decide +kernel
theorem dX5_count_103 : decode cX5_count 103 = .ok (.ireturn, 1) := by decide +kernel
theorem dX5_count_104 : decode cX5_count 104 = .ok (.aload_n 0, 1) := by decide +kernel
theorem dX5_count_105 : decode cX5_count 105 = .ok (.getfield 33, 3) := by decide +kernel
theorem dX5_count_108 : decode cX5_count 108 = .ok (.getfield 103, 3) := by decide +kernel
theorem dX5_count_111 : decode cX5_count 111 = .ok (.ireturn, 1) := by decide +kernel
theorem dX5_count_112 : decode cX5_count 112 = .ok (.aload_n 0, 1) := by decide +kernel
theorem dX5_count_113 : decode cX5_count 113 = .ok (.getfield 33, 3) := by decide +kernel
theorem dX5_count_116 : decode cX5_count 116 = .ok (.getfield 106, 3) := by decide +kernel
theorem dX5_count_119 : decode cX5_count 119 = .ok (.ireturn, 1) := by decide +kernel
theorem dX5_count_120 : decode cX5_count 120 = .ok (.aload_n 0, 1) := by decide +kernel
theorem dX5_count_121 : decode cX5_count 121 = .ok (.getfield 33, 3) := by decide +kernel
theorem dX5_count_124 : decode cX5_count 124 = .ok (.getfield 152, 3) := by decide +kernel
theorem dX5_count_127 : decode cX5_count 127 = .ok (.ireturn, 1) := by decide +kernel
theorem dX5_count_128 : decode cX5_count 128 = .ok (.aload_n 0, 1) := by decide +kernel
theorem dX5_count_129 : decode cX5_count 129 = .ok (.getfield 40, 3) := by decide +kernel
theorem dX5_count_132 : decode cX5_count 132 = .ok (.getfield 77, 3) := by decide +kernel
theorem dX5_count_135 : decode cX5_count 135 = .ok (.ireturn, 1) := by decide +kernel
theorem dX5_count_136 : decode cX5_count 136 = .ok (.aload_n 0, 1) := by decide +kernel
theorem dX5_count_137 : decode cX5_count 137 = .ok (.getfield 12, 3) := by decide +kernel
theorem dX5_count_140 : decode cX5_count 140 = .ok (.getfield 56, 3) := by decide +kernel
theorem dX5_count_143 : decode cX5_count 143 = .ok (.ireturn, 1) := by decide +kernel
theorem dX5_count_144 : decode cX5_count 144 = .ok (.aload_n 0, 1) := by decide +kernel
theorem dX5_count_145 : decode cX5_count 145 = .ok (.getfield 85, 3) := by decide +kernel
theorem dX5_count_148 : decode cX5_count 148 = .ok (.ireturn, 1) := by decide +kernel
theorem dX5_count_149 : decode cX5_count 149 = .ok (.bipush (-102), 2) := by decide +kernel
theorem dX5_count_151 : decode cX5_count 151 = .ok (.ireturn, 1) := by decide +kernel
theorem dX5_digest_0 : decode cX5_digest 0 = .ok (.ldc2_w 222, 3) := by decide +kernel
theorem dX5_digest_3 : decode cX5_digest 3 = .ok (.lstore_n 1, 1) := by decide +kernel
theorem dX5_digest_4 : decode cX5_digest 4 = .ok (.iconst 0, 1) := by decide +kernel
theorem dX5_digest_5 : decode cX5_digest 5 = .ok (.istore_n 3, 1) := by decide +kernel
theorem dX5_digest_6 : decode cX5_digest 6 = .ok (.iload_n 3, 1) := by decide +kernel
theorem dX5_digest_7 : decode cX5_digest 7 = .ok (.aload_n 0, 1) := by decide +kernel
theorem dX5_digest_8 : decode cX5_digest 8 = .ok (.getfield 19, 3) := by decide +kernel
theorem dX5_digest_11 : decode cX5_digest 11 = .ok (.getfield 88, 3) := by decide +kernel
theorem dX5_digest_14 : decode cX5_digest 14 = .ok (.if_icmp .ge 31, 3) := by decide +kernel
theorem dX5_digest_17 : decode cX5_digest 17 = .ok (.lload_n 1, 1) := by decide +kernel
theorem dX5_digest_18 : decode cX5_digest 18 = .ok (.aload_n 0, 1) := by decide +kernel
theorem dX5_digest_19 : decode cX5_digest 19 = .ok (.iload_n 3, 1) := by decide +kernel
theorem dX5_digest_20 : decode cX5_digest 20 = .ok (.iconst 0, 1) := by decide +kernel
theorem dX5_digest_21 : decode cX5_digest 21 = .ok (.invokevirtual 224, 3) := by decide +kernel
theorem dX5_digest_24 : decode cX5_digest 24 = .ok (.i2l, 1) := by decide +kernel
theorem dX5_digest_25 : decode cX5_digest 25 = .ok (.invokestatic 227, 3) := by decide +kernel
theorem dX5_digest_28 : decode cX5_digest 28 = .ok (.aload_n 0, 1) := by decide +kernel
theorem dX5_digest_29 : decode cX5_digest 29 = .ok (.iload_n 3, 1) := by decide +kernel
theorem dX5_digest_30 : decode cX5_digest 30 = .ok (.iconst 1, 1) := by decide +kernel
theorem dX5_digest_31 : decode cX5_digest 31 = .ok (.invokevirtual 224, 3) := by decide +kernel
theorem dX5_digest_34 : decode cX5_digest 34 = .ok (.i2l, 1) := by decide +kernel
theorem dX5_digest_35 : decode cX5_digest 35 = .ok (.invokestatic 227, 3) := by decide +kernel
theorem dX5_digest_38 : decode cX5_digest 38 = .ok (.lstore_n 1, 1) := by decide +kernel
theorem dX5_digest_39 : decode cX5_digest 39 = .ok (.iinc 3 1, 3) := by decide +kernel
theorem dX5_digest_42 : decode cX5_digest 42 = .ok (.goto (-36), 3) := by decide +kernel
theorem dX5_digest_45 : decode cX5_digest 45 = .ok (.iconst 0, 1) := by decide +kernel
theorem dX5_digest_46 : decode cX5_digest 46 = .ok (.istore_n 3, 1) := by decide +kernel
theorem dX5_digest_47 : decode cX5_digest 47 = .ok (.iload_n 3, 1) := by decide +kernel
theorem dX5_digest_48 : decode cX5_digest 48 = .ok (.aload_n 0, 1) := by decide +kernel
theorem dX5_digest_49 : decode cX5_digest 49 = .ok (.getfield 26, 3) := by decide +kernel
theorem dX5_digest_52 : decode cX5_digest 52 = .ok (.getfield 76, 3) := by decide +kernel
theorem dX5_digest_55 : decode cX5_digest 55 = .ok (.if_icmp .ge 38, 3) := by decide +kernel
theorem dX5_digest_58 : decode cX5_digest 58 = .ok (.iconst 0, 1) := by decide +kernel
theorem dX5_digest_59 : decode cX5_digest 59 = .ok (.istore 4, 2) := by decide +kernel
theorem dX5_digest_61 : decode cX5_digest 61 = .ok (.iload 4, 2) := by decide +kernel
theorem dX5_digest_63 : decode cX5_digest 63 = .ok (.bipush 8, 2) := by decide +kernel
theorem dX5_digest_65 : decode cX5_digest 65 = .ok (.if_icmp .ge 22, 3) := by decide +kernel
theorem dX5_digest_68 : decode cX5_digest 68 = .ok (.lload_n 1, 1) := by decide +kernel
theorem dX5_digest_69 : decode cX5_digest 69 = .ok (.aload_n 0, 1) := by decide +kernel
theorem dX5_digest_70 : decode cX5_digest 70 = .ok (.iload_n 3, 1) := by decide +kernel
theorem dX5_digest_71 : decode cX5_digest 71 = .ok (.iload 4, 2) := by decide +kernel
theorem dX5_digest_73 : decode cX5_digest 73 = .ok (.invokevirtual 231, 3) := by decide +kernel
theorem dX5_digest_76 : decode cX5_digest 76 = .ok (.i2l, 1) := by decide +kernel
theorem dX5_digest_77 : decode cX5_digest 77 = .ok (.invokestatic 227, 3) := by decide +kernel
theorem dX5_digest_80 : decode cX5_digest 80 = .ok (.lstore_n 1, 1) := by decide +kernel
theorem dX5_digest_81 : decode cX5_digest 81 = .ok (.iinc 4 1, 3) := by decide +kernel
theorem dX5_digest_84 : decode cX5_digest 84 = .ok (.goto (-23), 3) := by decide +kernel
theorem dX5_digest_87 : decode cX5_digest 87 = .ok (.iinc 3 1, 3) := by decide +kernel
theorem dX5_digest_90 : decode cX5_digest 90 = .ok (.goto (-43), 3) := by decide +kernel
theorem dX5_digest_93 : decode cX5_digest 93 = .ok (.aload_n 0, 1) := by decide +kernel
theorem dX5_digest_94 : decode cX5_digest 94 = .ok (.invokevirtual 163, 3) := by decide +kernel
theorem dX5_digest_97 : decode cX5_digest 97 = .ok (.ifCond .eq 67, 3) := by decide +kernel
theorem dX5_digest_100 : decode cX5_digest 100 = .ok (.iconst 0, 1) := by decide +kernel
theorem dX5_digest_101 : decode cX5_digest 101 = .ok (.istore_n 3, 1) := by decide +kernel
theorem dX5_digest_102 : decode cX5_digest 102 = .ok (.iload_n 3, 1) := by decide +kernel
theorem dX5_digest_103 : decode cX5_digest 103 = .ok (.iconst 3, 1) := by decide +kernel
theorem dX5_digest_104 : decode cX5_digest 104 = .ok (.if_icmp .ge 20, 3) := by decide +kernel
theorem dX5_digest_107 : decode cX5_digest 107 = .ok (.lload_n 1, 1) := by decide +kernel
theorem dX5_digest_108 : decode cX5_digest 108 = .ok (.aload_n 0, 1) := by decide +kernel
theorem dX5_digest_109 : decode cX5_digest 109 = .ok (.iload_n 3, 1) := by decide +kernel
theorem dX5_digest_110 : decode cX5_digest 110 = .ok (.invokevirtual 234, 3) := by decide +kernel
theorem dX5_digest_113 : decode cX5_digest 113 = .ok (.i2l, 1) := by decide +kernel
theorem dX5_digest_114 : decode cX5_digest 114 = .ok (.invokestatic 227, 3) := by decide +kernel
theorem dX5_digest_117 : decode cX5_digest 117 = .ok (.lstore_n 1, 1) := by decide +kernel
theorem dX5_digest_118 : decode cX5_digest 118 = .ok (.iinc 3 1, 3) := by decide +kernel
theorem dX5_digest_121 : decode cX5_digest 121 = .ok (.goto (-19), 3) := by decide +kernel
theorem dX5_digest_124 : decode cX5_digest 124 = .ok (.lload_n 1, 1) := by decide +kernel
theorem dX5_digest_125 : decode cX5_digest 125 = .ok (.aload_n 0, 1) := by decide +kernel
theorem dX5_digest_126 : decode cX5_digest 126 = .ok (.iconst 2, 1) := by decide +kernel
theorem dX5_digest_127 : decode cX5_digest 127 = .ok (.iconst 0, 1) := by decide +kernel
theorem dX5_digest_128 : decode cX5_digest 128 = .ok (.invokevirtual 237, 3) := by decide +kernel
theorem dX5_digest_131 : decode cX5_digest 131 = .ok (.i2l, 1) := by decide +kernel
theorem dX5_digest_132 : decode cX5_digest 132 = .ok (.invokestatic 227, 3) := by decide +kernel
theorem dX5_digest_135 : decode cX5_digest 135 = .ok (.aload_n 0, 1) := by decide +kernel
theorem dX5_digest_136 : decode cX5_digest 136 = .ok (.iconst 2, 1) := by decide +kernel
theorem dX5_digest_137 : decode cX5_digest 137 = .ok (.iconst 1, 1) := by decide +kernel
theorem dX5_digest_138 : decode cX5_digest 138 = .ok (.invokevirtual 237, 3) := by decide +kernel
theorem dX5_digest_141 : decode cX5_digest 141 = .ok (.i2l, 1) := by decide +kernel
theorem dX5_digest_142 : decode cX5_digest 142 = .ok (.invokestatic 227, 3) := by decide +kernel
theorem dX5_digest_145 : decode cX5_digest 145 = .ok (.lstore_n 1, 1) := by decide +kernel
theorem dX5_digest_146 : decode cX5_digest 146 = .ok (.lload_n 1, 1) := by decide +kernel
theorem dX5_digest_147 : decode cX5_digest 147 = .ok (.aload_n 0, 1) := by decide +kernel
theorem dX5_digest_148 : decode cX5_digest 148 = .ok (.invokevirtual 240, 3) := by decide +kernel
theorem dX5_digest_151 : decode cX5_digest 151 = .ok (.i2l, 1) := by decide +kernel
theorem dX5_digest_152 : decode cX5_digest 152 = .ok (.invokestatic 227, 3) := by decide +kernel
theorem dX5_digest_155 : decode cX5_digest 155 = .ok (.aload_n 0, 1) := by decide +kernel
theorem dX5_digest_156 : decode cX5_digest 156 = .ok (.invokevirtual 243, 3) := by decide +kernel
theorem dX5_digest_159 : decode cX5_digest 159 = .ok (.i2l, 1) := by decide +kernel
theorem dX5_digest_160 : decode cX5_digest 160 = .ok (.invokestatic 227, 3) := by decide +kernel
theorem dX5_digest_163 : decode cX5_digest 163 = .ok (.lstore_n 1, 1) := by decide +kernel
theorem dX5_digest_164 : decode cX5_digest 164 = .ok (.aload_n 0, 1) := by decide +kernel
theorem dX5_digest_165 : decode cX5_digest 165 = .ok (.invokevirtual 100, 3) := by decide +kernel
theorem dX5_digest_168 : decode cX5_digest 168 = .ok (.ifCond .eq 23, 3) := by decide +kernel
theorem dX5_digest_171 : decode cX5_digest 171 = .ok (.aload_n 0, 1) := by decide +kernel
theorem dX5_digest_172 : decode cX5_digest 172 = .ok (.getfield 26, 3) := by decide +kernel
theorem dX5_digest_175 : decode cX5_digest 175 = .ok (.getfield 76, 3) := by decide +kernel
theorem dX5_digest_178 : decode cX5_digest 178 = .ok (.ifCond .le 13, 3) := by decide +kernel
theorem dX5_digest_181 : decode cX5_digest 181 = .ok (.lload_n 1, 1) := by decide +kernel
theorem dX5_digest_182 : decode cX5_digest 182 = .ok (.aload_n 0, 1) := by decide +kernel
theorem dX5_digest_183 : decode cX5_digest 183 = .ok (.invokevirtual 246, 3) := by decide +kernel
theorem dX5_digest_186 : decode cX5_digest 186 = .ok (.i2l, 1) := by decide +kernel
theorem dX5_digest_187 : decode cX5_digest 187 = .ok (.invokestatic 227, 3) := by decide +kernel
theorem dX5_digest_190 : decode cX5_digest 190 = .ok (.lstore_n 1, 1) := by decide +kernel
theorem dX5_digest_191 : decode cX5_digest 191 = .ok (.iconst 0, 1) := by decide +kernel
theorem dX5_digest_192 : decode cX5_digest 192 = .ok (.istore_n 3, 1) := by decide +kernel
theorem dX5_digest_193 : decode cX5_digest 193 = .ok (.iload_n 3, 1) := by decide +kernel
theorem dX5_digest_194 : decode cX5_digest 194 = .ok (.aload_n 0, 1) := by decide +kernel
theorem dX5_digest_195 : decode cX5_digest 195 = .ok (.getfield 12, 3) := by decide +kernel
theorem dX5_digest_198 : decode cX5_digest 198 = .ok (.getfield 56, 3) := by decide +kernel
theorem dX5_digest_201 : decode cX5_digest 201 = .ok (.if_icmp .ge 23, 3) := by decide +kernel
theorem dX5_digest_204 : decode cX5_digest 204 = .ok (.lload_n 1, 1) := by decide +kernel
theorem dX5_digest_205 : decode cX5_digest 205 = .ok (.aload_n 0, 1) := by decide +kernel
theorem dX5_digest_206 : decode cX5_digest 206 = .ok (.getfield 12, 3) := by decide +kernel
theorem dX5_digest_209 : decode cX5_digest 209 = .ok (.iload_n 3, 1) := by decide +kernel
theorem dX5_digest_210 : decode cX5_digest 210 = .ok (.invokevirtual 249, 3) := by decide +kernel
theorem dX5_digest_213 : decode cX5_digest 213 = .ok (.i2l, 1) := by decide +kernel
theorem dX5_digest_214 : decode cX5_digest 214 = .ok (.invokestatic 227, 3) := by decide +kernel
theorem dX5_digest_217 : decode cX5_digest 217 = .ok (.lstore_n 1, 1) := by decide +kernel
theorem dX5_digest_218 : decode cX5_digest 218 = .ok (.iinc 3 1, 3) := by decide +kernel
theorem dX5_digest_221 : decode cX5_digest 221 = .ok (.goto (-28), 3) := by decide +kernel
theorem dX5_digest_224 : decode cX5_digest 224 = .ok (.iconst 0, 1) := by decide +kernel
theorem dX5_digest_225 : decode cX5_digest 225 = .ok (.istore_n 3, 1) := by decide +kernel
theorem dX5_digest_226 : decode cX5_digest 226 = .ok (.iload_n 3, 1) := by decide +kernel
theorem dX5_digest_227 : decode cX5_digest 227 = .ok (.bipush 11, 2) := by decide +kernel
theorem dX5_digest_229 : decode cX5_digest 229 = .ok (.if_icmp .ge 20, 3) := by decide +kernel
theorem dX5_digest_232 : decode cX5_digest 232 = .ok (.lload_n 1, 1) := by decide +kernel
theorem dX5_digest_233 : decode cX5_digest 233 = .ok (.aload_n 0, 1) := by decide +kernel
theorem dX5_digest_234 : decode cX5_digest 234 = .ok (.iload_n 3, 1) := by decide +kernel
theorem dX5_digest_235 : decode cX5_digest 235 = .ok (.invokevirtual 252, 3) := by decide +kernel
theorem dX5_digest_238 : decode cX5_digest 238 = .ok (.i2l, 1) := by decide +kernel
theorem dX5_digest_239 : decode cX5_digest 239 = .ok (.invokestatic 227, 3) := by decide +kernel
theorem dX5_digest_242 : decode cX5_digest 242 = .ok (.lstore_n 1, 1) := by decide +kernel
theorem dX5_digest_243 : decode cX5_digest 243 = .ok (.iinc 3 1, 3) := by decide +kernel
theorem dX5_digest_246 : decode cX5_digest 246 = .ok (.goto (-20), 3) := by decide +kernel
theorem dX5_digest_249 : decode cX5_digest 249 = .ok (.lload_n 1, 1) := by decide +kernel
theorem dX5_digest_250 : decode cX5_digest 250 = .ok (.lreturn, 1) := by decide +kernel
theorem dX5_mix_0 : decode cX5_mix 0 = .ok (.ldc2_w 255, 3) := by decide +kernel
theorem dX5_mix_3 : decode cX5_mix 3 = .ok (.lload_n 0, 1) := by decide +kernel
theorem dX5_mix_4 : decode cX5_mix 4 = .ok (.lmul, 1) := by decide +kernel
theorem dX5_mix_5 : decode cX5_mix 5 = .ok (.lload_n 2, 1) := by decide +kernel
theorem dX5_mix_6 : decode cX5_mix 6 = .ok (.ladd, 1) := by decide +kernel
theorem dX5_mix_7 : decode cX5_mix 7 = .ok (.lreturn, 1) := by decide +kernel
theorem dX5_hasPassage_0 : decode cX5_hasPassage 0 = .ok (.aload_n 0, 1) := by decide +kernel
theorem dX5_hasPassage_1 : decode cX5_hasPassage 1 = .ok (.getfield 19, 3) := by decide +kernel
theorem dX5_hasPassage_4 : decode cX5_hasPassage 4 = .ok (.getfield 88, 3) := by decide +kernel
theorem dX5_hasPassage_7 : decode cX5_hasPassage 7 = .ok (.ifCond .le 7, 3) := by decide +kernel
theorem dX5_hasPassage_10 : decode cX5_hasPassage 10 = .ok (.iconst 1, 1) := by decide +kernel
theorem dX5_hasPassage_11 : decode cX5_hasPassage 11 = .ok (.goto 4, 3) := by decide +kernel
theorem dX5_hasPassage_14 : decode cX5_hasPassage 14 = .ok (.iconst 0, 1) := by decide +kernel
theorem dX5_hasPassage_15 : decode cX5_hasPassage 15 = .ok (.ireturn, 1) := by decide +kernel
theorem dX5_isKnown_0 : decode cX5_isKnown 0 = .ok (.iload_n 1, 1) := by decide +kernel
theorem dX5_isKnown_1 : decode cX5_isKnown 1 = .ok (.ifCond .lt 18, 3) := by decide +kernel
theorem dX5_isKnown_4 : decode cX5_isKnown 4 = .ok (.iload_n 1, 1) := by decide +kernel
theorem dX5_isKnown_5 : decode cX5_isKnown 5 = .ok (.aload_n 0, 1) := by decide +kernel
theorem dX5_isKnown_6 : decode cX5_isKnown 6 = .ok (.getfield 26, 3) := by decide +kernel
theorem dX5_isKnown_9 : decode cX5_isKnown 9 = .ok (.getfield 76, 3) := by decide +kernel
theorem dX5_isKnown_12 : decode cX5_isKnown 12 = .ok (.if_icmp .ge 7, 3) := by decide +kernel
theorem dX5_isKnown_15 : decode cX5_isKnown 15 = .ok (.iconst 1, 1) := by decide +kernel
theorem dX5_isKnown_16 : decode cX5_isKnown 16 = .ok (.goto 4, 3) := by decide +kernel
theorem dX5_isKnown_19 : decode cX5_isKnown 19 = .ok (.iconst 0, 1) := by decide +kernel
theorem dX5_isKnown_20 : decode cX5_isKnown 20 = .ok (.ireturn, 1) := by decide +kernel
theorem dX5_canGoOn_0 : decode cX5_canGoOn 0 = .ok (.aload_n 0, 1) := by decide +kernel
theorem dX5_canGoOn_1 : decode cX5_canGoOn 1 = .ok (.invokevirtual 100, 3) := by decide +kernel
theorem dX5_canGoOn_4 : decode cX5_canGoOn 4 = .ok (.ifCond .eq 27, 3) := by decide +kernel
theorem dX5_canGoOn_7 : decode cX5_canGoOn 7 = .ok (.aload_n 0, 1) := by decide +kernel
theorem dX5_canGoOn_8 : decode cX5_canGoOn 8 = .ok (.getfield 26, 3) := by decide +kernel
theorem dX5_canGoOn_11 : decode cX5_canGoOn 11 = .ok (.getfield 76, 3) := by decide +kernel
theorem dX5_canGoOn_14 : decode cX5_canGoOn 14 = .ok (.ifCond .le 17, 3) := by decide +kernel
theorem dX5_canGoOn_17 : decode cX5_canGoOn 17 = .ok (.aload_n 0, 1) := by decide +kernel
theorem dX5_canGoOn_18 : decode cX5_canGoOn 18 = .ok (.getfield 33, 3) := by decide +kernel
theorem dX5_canGoOn_21 : decode cX5_canGoOn 21 = .ok (.getfield 152, 3) := by decide +kernel
theorem dX5_canGoOn_24 : decode cX5_canGoOn 24 = .ok (.ifCond .ne 7, 3) := by decide +kernel
theorem dX5_canGoOn_27 : decode cX5_canGoOn 27 = .ok (.iconst 1, 1) := by decide +kernel
theorem dX5_canGoOn_28 : decode cX5_canGoOn 28 = .ok (.goto 4, 3) := by decide +kernel
theorem dX5_canGoOn_31 : decode cX5_canGoOn 31 = .ok (.iconst 0, 1) := by decide +kernel
theorem dX5_canGoOn_32 : decode cX5_canGoOn 32 = .ok (.ireturn, 1) := by decide +kernel
theorem dX5_rankWithWax_0 : decode cX5_rankWithWax 0 = .ok (.aload_n 0, 1) := by decide +kernel
theorem dX5_rankWithWax_1 : decode cX5_rankWithWax 1 = .ok (.getfield 50, 3) := by decide +kernel
theorem dX5_rankWithWax_4 : decode cX5_rankWithWax 4 = .ok (.aload_n 0, 1) := by decide +kernel
theorem dX5_rankWithWax_5 : decode cX5_rankWithWax 5 = .ok (.getfield 33, 3) := by decide +kernel
theorem dX5_rankWithWax_8 : decode cX5_rankWithWax 8 = .ok (.invokevirtual 170, 3) := by decide +kernel
theorem dX5_rankWithWax_11 : decode cX5_rankWithWax 11 = .ok (.aload_n 0, 1) := by decide +kernel
theorem dX5_rankWithWax_12 : decode cX5_rankWithWax 12 = .ok (.getfield 50, 3) := by decide +kernel
theorem dX5_rankWithWax_15 : decode cX5_rankWithWax 15 = .ok (.iload_n 1, 1) := by decide +kernel
theorem dX5_rankWithWax_16 : decode cX5_rankWithWax 16 = .ok (.putfield 257, 3) := by decide +kernel
theorem dX5_rankWithWax_19 : decode cX5_rankWithWax 19 = .ok (.aload_n 0, 1) := by decide +kernel
theorem dX5_rankWithWax_20 : decode cX5_rankWithWax 20 = .ok (.getfield 50, 3) := by decide +kernel
theorem dX5_rankWithWax_23 : decode cX5_rankWithWax 23 = .ok (.aload_n 0, 1) := by decide +kernel
theorem dX5_rankWithWax_24 : decode cX5_rankWithWax 24 = .ok (.getfield 19, 3) := by decide +kernel
theorem dX5_rankWithWax_27 : decode cX5_rankWithWax 27 = .ok (.aload_n 0, 1) := by decide +kernel
theorem dX5_rankWithWax_28 : decode cX5_rankWithWax 28 = .ok (.getfield 26, 3) := by decide +kernel
theorem dX5_rankWithWax_31 : decode cX5_rankWithWax 31 = .ok (.invokevirtual 174, 3) := by decide +kernel
theorem dX5_rankWithWax_34 : decode cX5_rankWithWax 34 = .ok (.pop, 1) := by decide +kernel
theorem dX5_rankWithWax_35 : decode cX5_rankWithWax 35 = .ok (.aload_n 0, 1) := by decide +kernel
theorem dX5_rankWithWax_36 : decode cX5_rankWithWax 36 = .ok (.invokevirtual 260, 3) := by decide +kernel
theorem dX5_rankWithWax_39 : decode cX5_rankWithWax 39 = .ok (.ireturn, 1) := by decide +kernel
theorem dX5_rankWithListener_0 : decode cX5_rankWithListener 0 = .ok (.aload_n 0, 1) := by decide +kernel
theorem dX5_rankWithListener_1 : decode cX5_rankWithListener 1 = .ok (.getfield 50, 3) := by decide +kernel
theorem dX5_rankWithListener_4 : decode cX5_rankWithListener 4 = .ok (.aload_n 0, 1) := by decide +kernel
theorem dX5_rankWithListener_5 : decode cX5_rankWithListener 5 = .ok (.getfield 33, 3) := by decide +kernel
theorem dX5_rankWithListener_8 : decode cX5_rankWithListener 8 = .ok (.invokevirtual 170, 3) := by decide +kernel
theorem dX5_rankWithListener_11 : decode cX5_rankWithListener 11 = .ok (.aload_n 0, 1) := by decide +kernel
theorem dX5_rankWithListener_12 : decode cX5_rankWithListener 12 = .ok (.getfield 50, 3) := by decide +kernel
theorem dX5_rankWithListener_15 : decode cX5_rankWithListener 15 = .ok (.aload_n 0, 1) := by decide +kernel
theorem dX5_rankWithListener_16 : decode cX5_rankWithListener 16 = .ok (.getfield 33, 3) := by decide +kernel
theorem dX5_rankWithListener_19 : decode cX5_rankWithListener 19 = .ok (.getfield 187, 3) := by decide +kernel
theorem dX5_rankWithListener_22 : decode cX5_rankWithListener 22 = .ok (.iconst 1, 1) := by decide +kernel
theorem dX5_rankWithListener_23 : decode cX5_rankWithListener 23 = .ok (.iload_n 1, 1) := by decide +kernel
theorem dX5_rankWithListener_24 : decode cX5_rankWithListener 24 = .ok (.ishl, 1) := by decide +kernel
theorem dX5_rankWithListener_25 : decode cX5_rankWithListener 25 = .ok (.iconst (-1), 1) := by decide +kernel
theorem dX5_rankWithListener_26 : decode cX5_rankWithListener 26 = .ok (.ixor, 1) := by decide +kernel
theorem dX5_rankWithListener_27 : decode cX5_rankWithListener 27 = .ok (.iand, 1) := by decide +kernel
theorem dX5_rankWithListener_28 : decode cX5_rankWithListener 28 = .ok (.putfield 257, 3) := by decide +kernel
theorem dX5_rankWithListener_31 : decode cX5_rankWithListener 31 = .ok (.iconst 0, 1) := by decide +kernel
theorem dX5_rankWithListener_32 : decode cX5_rankWithListener 32 = .ok (.istore_n 2, 1) := by decide +kernel
theorem dX5_rankWithListener_33 : decode cX5_rankWithListener 33 = .ok (.iload_n 2, 1) := by decide +kernel
theorem dX5_rankWithListener_34 : decode cX5_rankWithListener 34 = .ok (.aload_n 0, 1) := by decide +kernel
theorem dX5_rankWithListener_35 : decode cX5_rankWithListener 35 = .ok (.getfield 26, 3) := by decide +kernel
theorem dX5_rankWithListener_38 : decode cX5_rankWithListener 38 = .ok (.getfield 76, 3) := by decide +kernel
theorem dX5_rankWithListener_41 : decode cX5_rankWithListener 41 = .ok (.if_icmp .ge 28, 3) := by decide +kernel
theorem dX5_rankWithListener_44 : decode cX5_rankWithListener 44 = .ok (.aload_n 0, 1) := by decide +kernel
theorem dX5_rankWithListener_45 : decode cX5_rankWithListener 45 = .ok (.getfield 50, 3) := by decide +kernel
theorem dX5_rankWithListener_48 : decode cX5_rankWithListener 48 = .ok (.iload_n 2, 1) := by decide +kernel
theorem dX5_rankWithListener_49 : decode cX5_rankWithListener 49 = .ok (.iload_n 2, 1) := by decide +kernel
theorem dX5_rankWithListener_50 : decode cX5_rankWithListener 50 = .ok (.iload_n 1, 1) := by decide +kernel
theorem dX5_rankWithListener_51 : decode cX5_rankWithListener 51 = .ok (.if_icmp .ne 8, 3) := by decide +kernel
theorem dX5_rankWithListener_54 : decode cX5_rankWithListener 54 = .ok (.bipush 9, 2) := by decide +kernel
theorem dX5_rankWithListener_56 : decode cX5_rankWithListener 56 = .ok (.goto 4, 3) := by decide +kernel
theorem dX5_rankWithListener_59 : decode cX5_rankWithListener 59 = .ok (.iconst 0, 1) := by decide +kernel
theorem dX5_rankWithListener_60 : decode cX5_rankWithListener 60 = .ok (.invokevirtual 159, 3) := by decide +kernel
theorem dX5_rankWithListener_63 : decode cX5_rankWithListener 63 = .ok (.iinc 2 1, 3) := by decide +kernel
theorem dX5_rankWithListener_66 : decode cX5_rankWithListener 66 = .ok (.goto (-33), 3) := by decide +kernel
theorem dX5_rankWithListener_69 : decode cX5_rankWithListener 69 = .ok (.aload_n 0, 1) := by decide +kernel
theorem dX5_rankWithListener_70 : decode cX5_rankWithListener 70 = .ok (.getfield 50, 3) := by decide +kernel
theorem dX5_rankWithListener_73 : decode cX5_rankWithListener 73 = .ok (.aload_n 0, 1) := by decide +kernel
theorem dX5_rankWithListener_74 : decode cX5_rankWithListener 74 = .ok (.getfield 19, 3) := by decide +kernel
theorem dX5_rankWithListener_77 : decode cX5_rankWithListener 77 = .ok (.aload_n 0, 1) := by decide +kernel
theorem dX5_rankWithListener_78 : decode cX5_rankWithListener 78 = .ok (.getfield 26, 3) := by decide +kernel
theorem dX5_rankWithListener_81 : decode cX5_rankWithListener 81 = .ok (.invokevirtual 174, 3) := by decide +kernel
theorem dX5_rankWithListener_84 : decode cX5_rankWithListener 84 = .ok (.pop, 1) := by decide +kernel
theorem dX5_rankWithListener_85 : decode cX5_rankWithListener 85 = .ok (.aload_n 0, 1) := by decide +kernel
theorem dX5_rankWithListener_86 : decode cX5_rankWithListener 86 = .ok (.invokevirtual 260, 3) := by decide +kernel
theorem dX5_rankWithListener_89 : decode cX5_rankWithListener 89 = .ok (.ireturn, 1) := by decide +kernel
theorem dX5_rankOfTrial_0 : decode cX5_rankOfTrial 0 = .ok (.aload_n 0, 1) := by decide +kernel
theorem dX5_rankOfTrial_1 : decode cX5_rankOfTrial 1 = .ok (.getfield 50, 3) := by decide +kernel
theorem dX5_rankOfTrial_4 : decode cX5_rankOfTrial 4 = .ok (.aload_n 0, 1) := by decide +kernel
theorem dX5_rankOfTrial_5 : decode cX5_rankOfTrial 5 = .ok (.getfield 26, 3) := by decide +kernel
theorem dX5_rankOfTrial_8 : decode cX5_rankOfTrial 8 = .ok (.invokevirtual 177, 3) := by decide +kernel
theorem dX5_rankOfTrial_11 : decode cX5_rankOfTrial 11 = .ok (.istore_n 1, 1) := by decide +kernel
theorem dX5_rankOfTrial_12 : decode cX5_rankOfTrial 12 = .ok (.aload_n 0, 1) := by decide +kernel
theorem dX5_rankOfTrial_13 : decode cX5_rankOfTrial 13 = .ok (.getfield 50, 3) := by decide +kernel
theorem dX5_rankOfTrial_16 : decode cX5_rankOfTrial 16 = .ok (.getfield 152, 3) := by decide +kernel
theorem dX5_rankOfTrial_19 : decode cX5_rankOfTrial 19 = .ok (.iconst 1, 1) := by decide +kernel
theorem dX5_rankOfTrial_20 : decode cX5_rankOfTrial 20 = .ok (.if_icmp .ne 7, 3) := by decide +kernel
theorem dX5_rankOfTrial_23 : decode cX5_rankOfTrial 23 = .ok (.iload_n 1, 1) := by decide +kernel
theorem dX5_rankOfTrial_24 : decode cX5_rankOfTrial 24 = .ok (.goto 7, 3) := by decide +kernel
theorem dX5_rankOfTrial_27 : decode cX5_rankOfTrial 27 = .ok (.iload_n 1, 1) := by decide +kernel
theorem dX5_rankOfTrial_28 : decode cX5_rankOfTrial 28 = .ok (.bipush 6, 2) := by decide +kernel
theorem dX5_rankOfTrial_30 : decode cX5_rankOfTrial 30 = .ok (.iadd, 1) := by decide +kernel
theorem dX5_rankOfTrial_31 : decode cX5_rankOfTrial 31 = .ok (.ireturn, 1) := by decide +kernel
theorem dX5_fittingSetsWith_0 : decode cX5_fittingSetsWith 0 = .ok (.iconst 0, 1) := by decide +kernel
theorem dX5_fittingSetsWith_1 : decode cX5_fittingSetsWith 1 = .ok (.istore_n 2, 1) := by decide +kernel
theorem dX5_fittingSetsWith_2 : decode cX5_fittingSetsWith 2 = .ok (.iconst 0, 1) := by decide +kernel
theorem dX5_fittingSetsWith_3 : decode cX5_fittingSetsWith 3 = .ok (.istore_n 3, 1) := by decide +kernel
theorem dX5_fittingSetsWith_4 : decode cX5_fittingSetsWith 4 = .ok (.iload_n 3, 1) := by decide +kernel
theorem dX5_fittingSetsWith_5 : decode cX5_fittingSetsWith 5 = .ok (.aload_n 0, 1) := by decide +kernel
theorem dX5_fittingSetsWith_6 : decode cX5_fittingSetsWith 6 = .ok (.getfield 26, 3) := by decide +kernel
theorem dX5_fittingSetsWith_9 : decode cX5_fittingSetsWith 9 = .ok (.invokevirtual 184, 3) := by decide +kernel
theorem dX5_fittingSetsWith_12 : decode cX5_fittingSetsWith 12 = .ok (.if_icmp .gt 27, 3) := by decide +kernel
theorem dX5_fittingSetsWith_15 : decode cX5_fittingSetsWith 15 = .ok (.iload_n 3, 1) := by decide +kernel
theorem dX5_fittingSetsWith_16 : decode cX5_fittingSetsWith 16 = .ok (.iload_n 1, 1) := by decide +kernel
theorem dX5_fittingSetsWith_17 : decode cX5_fittingSetsWith 17 = .ok (.iand, 1) := by decide +kernel
theorem dX5_fittingSetsWith_18 : decode cX5_fittingSetsWith 18 = .ok (.iload_n 1, 1) := by decide +kernel
theorem dX5_fittingSetsWith_19 : decode cX5_fittingSetsWith 19 = .ok (.if_icmp .ne 14, 3) := by decide +kernel
theorem dX5_fittingSetsWith_22 : decode cX5_fittingSetsWith 22 = .ok (.aload_n 0, 1) := by decide +kernel
theorem dX5_fittingSetsWith_23 : decode cX5_fittingSetsWith 23 = .ok (.iload_n 3, 1) := by decide +kernel
theorem dX5_fittingSetsWith_24 : decode cX5_fittingSetsWith 24 = .ok (.invokevirtual 263, 3) := by decide +kernel
theorem dX5_fittingSetsWith_27 : decode cX5_fittingSetsWith 27 = .ok (.ifCond .eq 6, 3) := by decide +kernel
theorem dX5_fittingSetsWith_30 : decode cX5_fittingSetsWith 30 = .ok (.iinc 2 1, 3) := by decide +kernel
theorem dX5_fittingSetsWith_33 : decode cX5_fittingSetsWith 33 = .ok (.iinc 3 1, 3) := by decide +kernel
theorem dX5_fittingSetsWith_36 : decode cX5_fittingSetsWith 36 = .ok (.goto (-32), 3) := by decide +kernel
theorem dX5_fittingSetsWith_39 : decode cX5_fittingSetsWith 39 = .ok (.iload_n 2, 1) := by decide +kernel
theorem dX5_fittingSetsWith_40 : decode cX5_fittingSetsWith 40 = .ok (.ireturn, 1) := by decide +kernel
theorem dX5_isFitting_0 : decode cX5_isFitting 0 = .ok (.aload_n 0, 1) := by decide +kernel
theorem dX5_isFitting_1 : decode cX5_isFitting 1 = .ok (.getfield 50, 3) := by decide +kernel
theorem dX5_isFitting_4 : decode cX5_isFitting 4 = .ok (.aload_n 0, 1) := by decide +kernel
theorem dX5_isFitting_5 : decode cX5_isFitting 5 = .ok (.getfield 33, 3) := by decide +kernel
theorem dX5_isFitting_8 : decode cX5_isFitting 8 = .ok (.invokevirtual 170, 3) := by decide +kernel
theorem dX5_isFitting_11 : decode cX5_isFitting 11 = .ok (.aload_n 0, 1) := by decide +kernel
theorem dX5_isFitting_12 : decode cX5_isFitting 12 = .ok (.getfield 50, 3) := by decide +kernel
theorem dX5_isFitting_15 : decode cX5_isFitting 15 = .ok (.aload_n 0, 1) := by decide +kernel
theorem dX5_isFitting_16 : decode cX5_isFitting 16 = .ok (.getfield 26, 3) := by decide +kernel
theorem dX5_isFitting_19 : decode cX5_isFitting 19 = .ok (.invokevirtual 184, 3) := by decide +kernel
theorem dX5_isFitting_22 : decode cX5_isFitting 22 = .ok (.invokevirtual 78, 3) := by decide +kernel
theorem dX5_isFitting_25 : decode cX5_isFitting 25 = .ok (.aload_n 0, 1) := by decide +kernel
theorem dX5_isFitting_26 : decode cX5_isFitting 26 = .ok (.getfield 50, 3) := by decide +kernel
theorem dX5_isFitting_29 : decode cX5_isFitting 29 = .ok (.iload_n 1, 1) := by decide +kernel
theorem dX5_isFitting_30 : decode cX5_isFitting 30 = .ok (.putfield 257, 3) := by decide +kernel
theorem dX5_isFitting_33 : decode cX5_isFitting 33 = .ok (.iconst 0, 1) := by decide +kernel
theorem dX5_isFitting_34 : decode cX5_isFitting 34 = .ok (.istore_n 2, 1) := by decide +kernel
theorem dX5_isFitting_35 : decode cX5_isFitting 35 = .ok (.iload_n 2, 1) := by decide +kernel
theorem dX5_isFitting_36 : decode cX5_isFitting 36 = .ok (.aload_n 0, 1) := by decide +kernel
theorem dX5_isFitting_37 : decode cX5_isFitting 37 = .ok (.getfield 40, 3) := by decide +kernel
theorem dX5_isFitting_40 : decode cX5_isFitting 40 = .ok (.getfield 77, 3) := by decide +kernel
theorem dX5_isFitting_43 : decode cX5_isFitting 43 = .ok (.if_icmp .ge 53, 3) := by decide +kernel
theorem dX5_isFitting_46 : decode cX5_isFitting 46 = .ok (.aload_n 0, 1) := by decide +kernel
theorem dX5_isFitting_47 : decode cX5_isFitting 47 = .ok (.getfield 50, 3) := by decide +kernel
theorem dX5_isFitting_50 : decode cX5_isFitting 50 = .ok (.getfield 152, 3) := by decide +kernel
theorem dX5_isFitting_53 : decode cX5_isFitting 53 = .ok (.ifCond .ne 21, 3) := by decide +kernel
theorem dX5_isFitting_56 : decode cX5_isFitting 56 = .ok (.aload_n 0, 1) := by decide +kernel
theorem dX5_isFitting_57 : decode cX5_isFitting 57 = .ok (.getfield 50, 3) := by decide +kernel
theorem dX5_isFitting_60 : decode cX5_isFitting 60 = .ok (.aload_n 0, 1) := by decide +kernel
theorem dX5_isFitting_61 : decode cX5_isFitting 61 = .ok (.getfield 19, 3) := by decide +kernel
theorem dX5_isFitting_64 : decode cX5_isFitting 64 = .ok (.aload_n 0, 1) := by decide +kernel
theorem dX5_isFitting_65 : decode cX5_isFitting 65 = .ok (.getfield 26, 3) := by decide +kernel
theorem dX5_isFitting_68 : decode cX5_isFitting 68 = .ok (.invokevirtual 166, 3) := by decide +kernel
theorem dX5_isFitting_71 : decode cX5_isFitting 71 = .ok (.goto 4, 3) := by decide +kernel
theorem dX5_isFitting_74 : decode cX5_isFitting 74 = .ok (.iconst 0, 1) := by decide +kernel
theorem dX5_isFitting_75 : decode cX5_isFitting 75 = .ok (.istore_n 3, 1) := by decide +kernel
theorem dX5_isFitting_76 : decode cX5_isFitting 76 = .ok (.iload_n 3, 1) := by decide +kernel
theorem dX5_isFitting_77 : decode cX5_isFitting 77 = .ok (.aload_n 0, 1) := by decide +kernel
theorem dX5_isFitting_78 : decode cX5_isFitting 78 = .ok (.getfield 40, 3) := by decide +kernel
theorem dX5_isFitting_81 : decode cX5_isFitting 81 = .ok (.iload_n 2, 1) := by decide +kernel
theorem dX5_isFitting_82 : decode cX5_isFitting 82 = .ok (.invokevirtual 266, 3) := by decide +kernel
theorem dX5_isFitting_85 : decode cX5_isFitting 85 = .ok (.if_icmp .eq 5, 3) := by decide +kernel
theorem dX5_isFitting_88 : decode cX5_isFitting 88 = .ok (.iconst 0, 1) := by decide +kernel
theorem dX5_isFitting_89 : decode cX5_isFitting 89 = .ok (.ireturn, 1) := by decide +kernel
theorem dX5_isFitting_90 : decode cX5_isFitting 90 = .ok (.iinc 2 1, 3) := by decide +kernel
theorem dX5_isFitting_93 : decode cX5_isFitting 93 = .ok (.goto (-58), 3) := by decide +kernel
theorem dX5_isFitting_96 : decode cX5_isFitting 96 = .ok (.iconst 1, 1) := by decide +kernel
theorem dX5_isFitting_97 : decode cX5_isFitting 97 = .ok (.ireturn, 1) := by decide +kernel
theorem dX5_isKind_0 : decode cX5_isKind 0 = .ok (.iload_n 0, 1) := by decide +kernel
theorem dX5_isKind_1 : decode cX5_isKind 1 = .ok (.ifCond .lt 12, 3) := by decide +kernel
theorem dX5_isKind_4 : decode cX5_isKind 4 = .ok (.iload_n 0, 1) := by decide +kernel
theorem dX5_isKind_5 : decode cX5_isKind 5 = .ok (.iconst 4, 1) := by decide +kernel
theorem dX5_isKind_6 : decode cX5_isKind 6 = .ok (.if_icmp .gt 7, 3) := by decide +kernel
theorem dX5_isKind_9 : decode cX5_isKind 9 = .ok (.iconst 1, 1) := by decide +kernel
theorem dX5_isKind_10 : decode cX5_isKind 10 = .ok (.goto 4, 3) := by decide +kernel
theorem dX5_isKind_13 : decode cX5_isKind 13 = .ok (.iconst 0, 1) := by decide +kernel
theorem dX5_isKind_14 : decode cX5_isKind 14 = .ok (.ireturn, 1) := by decide +kernel
theorem dX5_asInt_0 : decode cX5_asInt 0 = .ok (.iload_n 0, 1) := by decide +kernel
theorem dX5_asInt_1 : decode cX5_asInt 1 = .ok (.ifCond .eq 7, 3) := by decide +kernel
theorem dX5_asInt_4 : decode cX5_asInt 4 = .ok (.iconst 1, 1) := by decide +kernel
theorem dX5_asInt_5 : decode cX5_asInt 5 = .ok (.goto 4, 3) := by decide +kernel
theorem dX5_asInt_8 : decode cX5_asInt 8 = .ok (.iconst 0, 1) := by decide +kernel
theorem dX5_asInt_9 : decode cX5_asInt 9 = .ok (.ireturn, 1) := by decide +kernel
theorem dX6_init_0 : decode cX6_init 0 = .ok (.aload_n 0, 1) := by decide +kernel
theorem dX6_init_1 : decode cX6_init 1 = .ok (.invokespecial 1, 3) := by decide +kernel
theorem dX6_init_4 : decode cX6_init 4 = .ok (.aload_n 0, 1) := by decide +kernel
theorem dX6_init_5 : decode cX6_init 5 = .ok (.bipush 12, 2) := by decide +kernel
theorem dX6_init_7 : decode cX6_init 7 = .ok (.newarray .int, 2) := by decide +kernel
theorem dX6_init_9 : decode cX6_init 9 = .ok (.putfield 7, 3) := by decide +kernel
theorem dX6_init_12 : decode cX6_init 12 = .ok (.aload_n 0, 1) := by decide +kernel
theorem dX6_init_13 : decode cX6_init 13 = .ok (.bipush 12, 2) := by decide +kernel
theorem dX6_init_15 : decode cX6_init 15 = .ok (.newarray .int, 2) := by decide +kernel
theorem dX6_init_17 : decode cX6_init 17 = .ok (.putfield 13, 3) := by decide +kernel
theorem dX6_init_20 : decode cX6_init 20 = .ok (.aload_n 0, 1) := by decide +kernel
theorem dX6_init_21 : decode cX6_init 21 = .ok (.iconst 5, 1) := by decide +kernel
theorem dX6_init_22 : decode cX6_init 22 = .ok (.newarray .int, 2) := by decide +kernel
theorem dX6_init_24 : decode cX6_init 24 = .ok (.putfield 16, 3) := by decide +kernel
theorem dX6_init_27 : decode cX6_init 27 = .ok (.aload_n 0, 1) := by decide +kernel
theorem dX6_init_28 : decode cX6_init 28 = .ok (.iconst 5, 1) := by decide +kernel
theorem dX6_init_29 : decode cX6_init 29 = .ok (.newarray .int, 2) := by decide +kernel
theorem dX6_init_31 : decode cX6_init 31 = .ok (.putfield 19, 3) := by decide +kernel
theorem dX6_init_34 : decode cX6_init 34 = .ok (.aload_n 0, 1) := by decide +kernel
theorem dX6_init_35 : decode cX6_init 35 = .ok (.iconst 5, 1) := by decide +kernel
theorem dX6_init_36 : decode cX6_init 36 = .ok (.newarray .int, 2) := by decide +kernel
theorem dX6_init_38 : decode cX6_init 38 = .ok (.putfield 22, 3) := by decide +kernel
theorem dX6_init_41 : decode cX6_init 41 = .ok (.aload_n 0, 1) := by decide +kernel
theorem dX6_init_42 : decode cX6_init 42 = .ok (.iconst 5, 1) := by decide +kernel
theorem dX6_init_43 : decode cX6_init 43 = .ok (.newarray .int, 2) := by decide +kernel
theorem dX6_init_45 : decode cX6_init 45 = .ok (.putfield 25, 3) := by decide +kernel
theorem dX6_init_48 : decode cX6_init 48 = .ok (.aload_n 0, 1) := by decide +kernel
theorem dX6_init_49 : decode cX6_init 49 = .ok (.bipush 8, 2) := by decide +kernel
theorem dX6_init_51 : decode cX6_init 51 = .ok (.newarray .int, 2) := by decide +kernel
theorem dX6_init_53 : decode cX6_init 53 = .ok (.putfield 28, 3) := by decide +kernel
theorem dX6_init_56 : decode cX6_init 56 = .ok (.aload_n 0, 1) := by decide +kernel
theorem dX6_init_57 : decode cX6_init 57 = .ok (.bipush 30, 2) := by decide +kernel
theorem dX6_init_59 : decode cX6_init 59 = .ok (.newarray .byte, 2) := by decide +kernel
theorem dX6_init_61 : decode cX6_init 61 = .ok (.putfield 31, 3) := by decide +kernel
theorem dX6_init_64 : decode cX6_init 64 = .ok (.aload_n 0, 1) := by decide +kernel
theorem dX6_init_65 : decode cX6_init 65 = .ok (.bipush 12, 2) := by decide +kernel
theorem dX6_init_67 : decode cX6_init 67 = .ok (.newarray .int, 2) := by decide +kernel
theorem dX6_init_69 : decode cX6_init 69 = .ok (.putfield 35, 3) := by decide +kernel
theorem dX6_init_72 : decode cX6_init 72 = .ok (.aload_n 0, 1) := by decide +kernel
theorem dX6_init_73 : decode cX6_init 73 = .ok (.bipush 12, 2) := by decide +kernel
theorem dX6_init_75 : decode cX6_init 75 = .ok (.newarray .int, 2) := by decide +kernel
theorem dX6_init_77 : decode cX6_init 77 = .ok (.putfield 38, 3) := by decide +kernel
theorem dX6_init_80 : decode cX6_init 80 = .ok (.aload_n 0, 1) := by decide +kernel
theorem dX6_init_81 : decode cX6_init 81 = .ok (.iconst 5, 1) := by decide +kernel
theorem dX6_init_82 : decode cX6_init 82 = .ok (.newarray .int, 2) := by decide +kernel
theorem dX6_init_84 : decode cX6_init 84 = .ok (.putfield 41, 3) := by decide +kernel
theorem dX6_init_87 : decode cX6_init 87 = .ok (.aload_n 0, 1) := by decide +kernel
theorem dX6_init_88 : decode cX6_init 88 = .ok (.bipush 12, 2) := by decide +kernel
theorem dX6_init_90 : decode cX6_init 90 = .ok (.newarray .int, 2) := by decide +kernel
theorem dX6_init_92 : decode cX6_init 92 = .ok (.putfield 44, 3) := by decide +kernel
theorem dX6_init_95 : decode cX6_init 95 = .ok (.aload_n 0, 1) := by decide +kernel
theorem dX6_init_96 : decode cX6_init 96 = .ok (.iconst 5, 1) := by decide +kernel
theorem dX6_init_97 : decode cX6_init 97 = .ok (.newarray .int, 2) := by decide +kernel
theorem dX6_init_99 : decode cX6_init 99 = .ok (.putfield 47, 3) := by decide +kernel
theorem dX6_init_102 : decode cX6_init 102 = .ok (.aload_n 0, 1) := by decide +kernel
theorem dX6_init_103 : decode cX6_init 103 = .ok (.iconst 5, 1) := by decide +kernel
theorem dX6_init_104 : decode cX6_init 104 = .ok (.newarray .int, 2) := by decide +kernel
theorem dX6_init_106 : decode cX6_init 106 = .ok (.putfield 50, 3) := by decide +kernel
theorem dX6_init_109 : decode cX6_init 109 = .ok (.aload_n 0, 1) := by decide +kernel
theorem dX6_init_110 : decode cX6_init 110 = .ok (.bipush 8, 2) := by decide +kernel
theorem dX6_init_112 : decode cX6_init 112 = .ok (.newarray .int, 2) := by decide +kernel
theorem dX6_init_114 : decode cX6_init 114 = .ok (.putfield 53, 3) := by decide +kernel
theorem dX6_init_117 : decode cX6_init 117 = .ok (.return_, 1) := by decide +kernel
theorem dX6_within_0 : decode cX6_within 0 = .ok (.iload_n 0, 1) := by decide +kernel
theorem dX6_within_1 : decode cX6_within 1 = .ok (.iload_n 1, 1) := by decide +kernel
theorem dX6_within_2 : decode cX6_within 2 = .ok (.if_icmp .lt 12, 3) := by decide +kernel
theorem dX6_within_5 : decode cX6_within 5 = .ok (.iload_n 0, 1) := by decide +kernel
theorem dX6_within_6 : decode cX6_within 6 = .ok (.iload_n 2, 1) := by decide +kernel
theorem dX6_within_7 : decode cX6_within 7 = .ok (.if_icmp .gt 7, 3) := by decide +kernel
theorem dX6_within_10 : decode cX6_within 10 = .ok (.iconst 1, 1) := by decide +kernel
theorem dX6_within_11 : decode cX6_within 11 = .ok (.goto 4, 3) := by decide +kernel
theorem dX6_within_14 : decode cX6_within 14 = .ok (.iconst 0, 1) := by decide +kernel
theorem dX6_within_15 : decode cX6_within 15 = .ok (.ireturn, 1) := by decide +kernel
theorem dX6_has_0 : decode cX6_has 0 = .ok (.iload_n 0, 1) := by decide +kernel
theorem dX6_has_1 : decode cX6_has 1 = .ok (.iload_n 1, 1) := by decide +kernel
theorem dX6_has_2 : decode cX6_has 2 = .ok (.ishr, 1) := by decide +kernel
theorem dX6_has_3 : decode cX6_has 3 = .ok (.iconst 1, 1) := by decide +kernel
theorem dX6_has_4 : decode cX6_has 4 = .ok (.iand, 1) := by decide +kernel
theorem dX6_has_5 : decode cX6_has 5 = .ok (.iconst 1, 1) := by decide +kernel
theorem dX6_has_6 : decode cX6_has 6 = .ok (.if_icmp .ne 7, 3) := by decide +kernel
theorem dX6_has_9 : decode cX6_has 9 = .ok (.iconst 1, 1) := by decide +kernel
theorem dX6_has_10 : decode cX6_has 10 = .ok (.goto 4, 3) := by decide +kernel
theorem dX6_has_13 : decode cX6_has 13 = .ok (.iconst 0, 1) := by decide +kernel
theorem dX6_has_14 : decode cX6_has 14 = .ok (.ireturn, 1) := by decide +kernel
theorem dX6_size_0 : decode cX6_size 0 = .ok (.iconst 0, 1) := by decide +kernel
theorem dX6_size_1 : decode cX6_size 1 = .ok (.istore_n 1, 1) := by decide +kernel
theorem dX6_size_2 : decode cX6_size 2 = .ok (.iconst 0, 1) := by decide +kernel
theorem dX6_size_3 : decode cX6_size 3 = .ok (.istore_n 2, 1) := by decide +kernel
theorem dX6_size_4 : decode cX6_size 4 = .ok (.iload_n 2, 1) := by decide +kernel
theorem dX6_size_5 : decode cX6_size 5 = .ok (.iconst 5, 1) := by decide +kernel
theorem dX6_size_6 : decode cX6_size 6 = .ok (.if_icmp .ge 17, 3) := by decide +kernel
theorem dX6_size_9 : decode cX6_size 9 = .ok (.iload_n 1, 1) := by decide +kernel
theorem dX6_size_10 : decode cX6_size 10 = .ok (.iload_n 0, 1) := by decide +kernel
theorem dX6_size_11 : decode cX6_size 11 = .ok (.iload_n 2, 1) := by decide +kernel
theorem dX6_size_12 : decode cX6_size 12 = .ok (.ishr, 1) := by decide +kernel
theorem dX6_size_13 : decode cX6_size 13 = .ok (.iconst 1, 1) := by decide +kernel
theorem dX6_size_14 : decode cX6_size 14 = .ok (.iand, 1) := by decide +kernel
theorem dX6_size_15 : decode cX6_size 15 = .ok (.iadd, 1) := by decide +kernel
theorem dX6_size_16 : decode cX6_size 16 = .ok (.istore_n 1, 1) := by decide +kernel
theorem dX6_size_17 : decode cX6_size 17 = .ok (.iinc 2 1, 3) := by decide +kernel
theorem dX6_size_20 : decode cX6_size 20 = .ok (.goto (-16), 3) := by decide +kernel
theorem dX6_size_23 : decode cX6_size 23 = .ok (.iload_n 1, 1) := by decide +kernel
theorem dX6_size_24 : decode cX6_size 24 = .ok (.ireturn, 1) := by decide +kernel
theorem dX6_letter_0 : decode cX6_letter 0 = .ok (.iload_n 1, 1) := by decide +kernel
theorem dX6_letter_1 : decode cX6_letter 1 = .ok (.bipush 32, 2) := by decide +kernel
theorem dX6_letter_3 : decode cX6_letter 3 = .ok (.bipush 126, 2) := by decide +kernel
theorem dX6_letter_5 : decode cX6_letter 5 = .ok (.invokestatic 56, 3) := by decide +kernel
theorem dX6_letter_8 : decode cX6_letter 8 = .ok (.ifCond .ne 6, 3) := by decide +kernel
theorem dX6_letter_11 : decode cX6_letter 11 = .ok (.bipush (-102), 2) := by decide +kernel
theorem dX6_letter_13 : decode cX6_letter 13 = .ok (.ireturn, 1) := by decide +kernel
theorem dX6_letter_14 : decode cX6_letter 14 = .ok (.aload_n 0, 1) := by decide +kernel
theorem dX6_letter_15 : decode cX6_letter 15 = .ok (.getfield 60, 3) := by decide +kernel
theorem dX6_letter_18 : decode cX6_letter 18 = .ok (.bipush 30, 2) := by decide +kernel
theorem dX6_letter_20 : decode cX6_letter 20 = .ok (.if_icmp .ne 6, 3) := by decide +kernel
theorem dX6_letter_23 : decode cX6_letter 23 = .ok (.bipush (-104), 2) := by decide +kernel
theorem dX6_letter_25 : decode cX6_letter 25 = .ok (.ireturn, 1) := by decide +kernel
theorem dX6_letter_26 : decode cX6_letter 26 = .ok (.aload_n 0, 1) := by decide +kernel
theorem dX6_letter_27 : decode cX6_letter 27 = .ok (.getfield 31, 3) := by decide +kernel
theorem dX6_letter_30 : decode cX6_letter 30 = .ok (.aload_n 0, 1) := by decide +kernel
theorem dX6_letter_31 : decode cX6_letter 31 = .ok (.getfield 60, 3) := by decide +kernel
theorem dX6_letter_34 : decode cX6_letter 34 = .ok (.iload_n 1, 1) := by decide +kernel
theorem dX6_letter_35 : decode cX6_letter 35 = .ok (.i2b, 1) := by decide +kernel
theorem dX6_letter_36 : decode cX6_letter 36 = .ok (.bastore, 1) := by decide +kernel
theorem dX6_letter_37 : decode cX6_letter 37 = .ok (.aload_n 0, 1) := by decide +kernel
theorem dX6_letter_38 : decode cX6_letter 38 = .ok (.dup, 1) := by decide +kernel
theorem dX6_letter_39 : decode cX6_letter 39 = .ok (.getfield 60, 3) := by decide +kernel
theorem dX6_letter_42 : decode cX6_letter 42 = .ok (.iconst 1, 1) := by decide +kernel
theorem dX6_letter_43 : decode cX6_letter 43 = .ok (.iadd, 1) := by decide +kernel
theorem dX6_letter_44 : decode cX6_letter 44 = .ok (.putfield 60, 3) := by decide +kernel
theorem dX6_letter_47 : decode cX6_letter 47 = .ok (.aload_n 0, 1) := by decide +kernel
theorem dX6_letter_48 : decode cX6_letter 48 = .ok (.getfield 60, 3) := by decide +kernel
theorem dX6_letter_51 : decode cX6_letter 51 = .ok (.ireturn, 1) := by decide +kernel
theorem dX6_blank_0 : decode cX6_blank 0 = .ok (.aload_n 0, 1) := by decide +kernel
theorem dX6_blank_1 : decode cX6_blank 1 = .ok (.getfield 60, 3) := by decide +kernel
theorem dX6_blank_4 : decode cX6_blank 4 = .ok (.istore_n 1, 1) := by decide +kernel
theorem dX6_blank_5 : decode cX6_blank 5 = .ok (.aload_n 0, 1) := by decide +kernel
theorem dX6_blank_6 : decode cX6_blank 6 = .ok (.iconst 0, 1) := by decide +kernel
theorem dX6_blank_7 : decode cX6_blank 7 = .ok (.putfield 60, 3) := by decide +kernel
theorem dX6_blank_10 : decode cX6_blank 10 = .ok (.iload_n 1, 1) := by decide +kernel
theorem dX6_blank_11 : decode cX6_blank 11 = .ok (.ireturn, 1) := by decide +kernel
theorem dX6_nextState_0 : decode cX6_nextState 0 = .ok (.iload_n 2, 1) := by decide +kernel
theorem dX6_nextState_1 : decode cX6_nextState 1 = .ok (.bipush 48, 2) := by decide +kernel
theorem dX6_nextState_3 : decode cX6_nextState 3 = .ok (.isub, 1) := by decide +kernel
theorem dX6_nextState_4 : decode cX6_nextState 4 = .ok (.istore_n 3, 1) := by decide +kernel
theorem dX6_nextState_5 : decode cX6_nextState 5 = .ok (.iload_n 1, 1) := by decide +kernel
theorem dX6_nextState_6 : decode cX6_nextState 6 = .ok (.tableswitch 161 0 6 #[42, 65, 100, 121, 161, 161, 133], 42) := by decide +kernel
theorem dX6_nextState_48 : decode cX6_nextState 48 = .ok (.aload_n 0, 1) := by decide +kernel
theorem dX6_nextState_49 : decode cX6_nextState 49 = .ok (.bipush 10, 2) := by decide +kernel
theorem dX6_nextState_51 : decode cX6_nextState 51 = .ok (.iload_n 3, 1) := by decide +kernel
theorem dX6_nextState_52 : decode cX6_nextState 52 = .ok (.imul, 1) := by decide +kernel
theorem dX6_nextState_53 : decode cX6_nextState 53 = .ok (.putfield 64, 3) := by decide +kernel
theorem dX6_nextState_56 : decode cX6_nextState 56 = .ok (.iload_n 3, 1) := by decide +kernel
theorem dX6_nextState_57 : decode cX6_nextState 57 = .ok (.iconst 0, 1) := by decide +kernel
theorem dX6_nextState_58 : decode cX6_nextState 58 = .ok (.iconst 4, 1) := by decide +kernel
theorem dX6_nextState_59 : decode cX6_nextState 59 = .ok (.invokestatic 56, 3) := by decide +kernel
theorem dX6_nextState_62 : decode cX6_nextState 62 = .ok (.ifCond .eq 7, 3) := by decide +kernel
theorem dX6_nextState_65 : decode cX6_nextState 65 = .ok (.iconst 1, 1) := by decide +kernel
theorem dX6_nextState_66 : decode cX6_nextState 66 = .ok (.goto 4, 3) := by decide +kernel
theorem dX6_nextState_69 : decode cX6_nextState 69 = .ok (.iconst (-1), 1) := by decide +kernel
theorem dX6_nextState_70 : decode cX6_nextState 70 = .ok (.ireturn, 1) := by decide +kernel
theorem dX6_nextState_71 : decode cX6_nextState 71 = .ok (.aload_n 0, 1) := by decide +kernel
theorem dX6_nextState_72 : decode cX6_nextState 72 = .ok (.dup, 1) := by decide +kernel
theorem dX6_nextState_73 : decode cX6_nextState 73 = .ok (.getfield 64, 3) := by decide +kernel
theorem dX6_nextState_76 : decode cX6_nextState 76 = .ok (.iload_n 3, 1) := by decide +kernel
theorem dX6_nextState_77 : decode cX6_nextState 77 = .ok (.iadd, 1) := by decide +kernel
theorem dX6_nextState_78 : decode cX6_nextState 78 = .ok (.putfield 64, 3) := by decide +kernel
theorem dX6_nextState_81 : decode cX6_nextState 81 = .ok (.iload_n 3, 1) := by decide +kernel
theorem dX6_nextState_82 : decode cX6_nextState 82 = .ok (.iconst 0, 1) := by decide +kernel
theorem dX6_nextState_83 : decode cX6_nextState 83 = .ok (.bipush 9, 2) := by decide +kernel
theorem dX6_nextState_85 : decode cX6_nextState 85 = .ok (.invokestatic 56, 3) := by decide +kernel
theorem dX6_nextState_88 : decode cX6_nextState 88 = .ok (.ifCond .eq 16, 3) := by decide +kernel
theorem dX6_nextState_91 : decode cX6_nextState 91 = .ok (.aload_n 0, 1) := by decide +kernel
theorem dX6_nextState_92 : decode cX6_nextState 92 = .ok (.getfield 64, 3) := by decide +kernel
theorem dX6_nextState_95 : decode cX6_nextState 95 = .ok (.bipush 45, 2) := by decide +kernel
theorem dX6_nextState_97 : decode cX6_nextState 97 = .ok (.if_icmp .gt 7, 3) := by decide +kernel
theorem dX6_nextState_100 : decode cX6_nextState 100 = .ok (.iconst 2, 1) := by decide +kernel
theorem dX6_nextState_101 : decode cX6_nextState 101 = .ok (.goto 4, 3) := by decide +kernel
theorem dX6_nextState_104 : decode cX6_nextState 104 = .ok (.iconst (-1), 1) := by decide +kernel
theorem dX6_nextState_105 : decode cX6_nextState 105 = .ok (.ireturn, 1) := by decide +kernel
theorem dX6_nextState_106 : decode cX6_nextState 106 = .ok (.aload_n 0, 1) := by decide +kernel
theorem dX6_nextState_107 : decode cX6_nextState 107 = .ok (.iload_n 3, 1) := by decide +kernel
theorem dX6_nextState_108 : decode cX6_nextState 108 = .ok (.putfield 67, 3) := by decide +kernel
theorem dX6_nextState_111 : decode cX6_nextState 111 = .ok (.iload_n 3, 1) := by decide +kernel
theorem dX6_nextState_112 : decode cX6_nextState 112 = .ok (.iconst 1, 1) := by decide +kernel
theorem dX6_nextState_113 : decode cX6_nextState 113 = .ok (.bipush 9, 2) := by decide +kernel
theorem dX6_nextState_115 : decode cX6_nextState 115 = .ok (.invokestatic 56, 3) := by decide +kernel
theorem dX6_nextState_118 : decode cX6_nextState 118 = .ok (.ifCond .eq 7, 3) := by decide +kernel
theorem dX6_nextState_121 : decode cX6_nextState 121 = .ok (.iconst 3, 1) := by decide +kernel
theorem dX6_nextState_122 : decode cX6_nextState 122 = .ok (.goto 4, 3) := by decide +kernel
theorem dX6_nextState_125 : decode cX6_nextState 125 = .ok (.iconst (-1), 1) := by decide +kernel
theorem dX6_nextState_126 : decode cX6_nextState 126 = .ok (.ireturn, 1) := by decide +kernel
theorem dX6_nextState_127 : decode cX6_nextState 127 = .ok (.iload_n 2, 1) := by decide +kernel
theorem dX6_nextState_128 : decode cX6_nextState 128 = .ok (.bipush 58, 2) := by decide +kernel
theorem dX6_nextState_130 : decode cX6_nextState 130 = .ok (.if_icmp .ne 7, 3) := by decide +kernel
theorem dX6_nextState_133 : decode cX6_nextState 133 = .ok (.iconst 4, 1) := by decide +kernel
theorem dX6_nextState_134 : decode cX6_nextState 134 = .ok (.goto 4, 3) := by decide +kernel
theorem dX6_nextState_137 : decode cX6_nextState 137 = .ok (.iconst (-1), 1) := by decide +kernel
theorem dX6_nextState_138 : decode cX6_nextState 138 = .ok (.ireturn, 1) := by decide +kernel
theorem dX6_nextState_139 : decode cX6_nextState 139 = .ok (.aload_n 0, 1) := by decide +kernel
theorem dX6_nextState_140 : decode cX6_nextState 140 = .ok (.getfield 35, 3) := by decide +kernel
theorem dX6_nextState_143 : decode cX6_nextState 143 = .ok (.aload_n 0, 1) := by decide +kernel
theorem dX6_nextState_144 : decode cX6_nextState 144 = .ok (.getfield 70, 3) := by decide +kernel
theorem dX6_nextState_147 : decode cX6_nextState 147 = .ok (.iconst 1, 1) := by decide +kernel
theorem dX6_nextState_148 : decode cX6_nextState 148 = .ok (.isub, 1) := by decide +kernel
theorem dX6_nextState_149 : decode cX6_nextState 149 = .ok (.iload_n 3, 1) := by decide +kernel
theorem dX6_nextState_150 : decode cX6_nextState 150 = .ok (.iastore, 1) := by decide +kernel
theorem dX6_nextState_151 : decode cX6_nextState 151 = .ok (.iload_n 3, 1) := by decide +kernel
theorem dX6_nextState_152 : decode cX6_nextState 152 = .ok (.iconst 1, 1) := by decide +kernel
theorem dX6_nextState_153 : decode cX6_nextState 153 = .ok (.bipush 9, 2) := by decide +kernel
theorem dX6_nextState_155 : decode cX6_nextState 155 = .ok (.invokestatic 56, 3) := by decide +kernel
theorem dX6_nextState_158 : decode cX6_nextState 158 = .ok (.ifCond .eq 7, 3) := by decide +kernel
theorem dX6_nextState_161 : decode cX6_nextState 161 = .ok (.iconst 5, 1) := by decide +kernel
theorem dX6_nextState_162 : decode cX6_nextState 162 = .ok (.goto 4, 3) := by decide +kernel
theorem dX6_nextState_165 : decode cX6_nextState 165 = .ok (.iconst (-1), 1) := by decide +kernel
theorem dX6_nextState_166 : decode cX6_nextState 166 = .ok (.ireturn, 1) := by decide +kernel
theorem dX6_nextState_167 : decode cX6_nextState 167 = .ok (.aload_n 0, 1) := by decide +kernel
theorem dX6_nextState_168 : decode cX6_nextState 168 = .ok (.getfield 70, 3) := by decide +kernel
theorem dX6_nextState_171 : decode cX6_nextState 171 = .ok (.bipush 12, 2) := by decide +kernel
theorem dX6_nextState_173 : decode cX6_nextState 173 = .ok (.if_icmp .ge 11, 3) := by decide +kernel
theorem dX6_nextState_176 : decode cX6_nextState 176 = .ok (.aload_n 0, 1) := by decide +kernel
theorem dX6_nextState_177 : decode cX6_nextState 177 = .ok (.iload_n 2, 1) := by decide +kernel
theorem dX6_nextState_178 : decode cX6_nextState 178 = .ok (.invokevirtual 73, 3) := by decide +kernel
theorem dX6_nextState_181 : decode cX6_nextState 181 = .ok (.goto 4, 3) := by decide +kernel
theorem dX6_nextState_184 : decode cX6_nextState 184 = .ok (.iconst (-1), 1) := by decide +kernel
theorem dX6_nextState_185 : decode cX6_nextState 185 = .ok (.ireturn, 1) := by decide +kernel
theorem dX6_placeState_0 : decode cX6_placeState 0 = .ok (.iload_n 1, 1) := by decide +kernel
theorem dX6_placeState_1 : decode cX6_placeState 1 = .ok (.bipush 115, 2) := by decide +kernel
theorem dX6_placeState_3 : decode cX6_placeState 3 = .ok (.if_icmp .eq 9, 3) := by decide +kernel
theorem dX6_placeState_6 : decode cX6_placeState 6 = .ok (.iload_n 1, 1) := by decide +kernel
theorem dX6_placeState_7 : decode cX6_placeState 7 = .ok (.bipush 98, 2) := by decide +kernel
theorem dX6_placeState_9 : decode cX6_placeState 9 = .ok (.if_icmp .ne 7, 3) := by decide +kernel
theorem dX6_placeState_12 : decode cX6_placeState 12 = .ok (.iconst 1, 1) := by decide +kernel
theorem dX6_placeState_13 : decode cX6_placeState 13 = .ok (.goto 4, 3) := by decide +kernel
theorem dX6_placeState_16 : decode cX6_placeState 16 = .ok (.iconst 0, 1) := by decide +kernel
theorem dX6_placeState_17 : decode cX6_placeState 17 = .ok (.istore_n 2, 1) := by decide +kernel
theorem dX6_placeState_18 : decode cX6_placeState 18 = .ok (.iload_n 2, 1) := by decide +kernel
theorem dX6_placeState_19 : decode cX6_placeState 19 = .ok (.ifCond .ne 23, 3) := by decide +kernel
theorem dX6_placeState_22 : decode cX6_placeState 22 = .ok (.iload_n 1, 1) := by decide +kernel
theorem dX6_placeState_23 : decode cX6_placeState 23 = .ok (.bipush 46, 2) := by decide +kernel
theorem dX6_placeState_25 : decode cX6_placeState 25 = .ok (.if_icmp .eq 17, 3) := by decide +kernel
theorem dX6_placeState_28 : decode cX6_placeState 28 = .ok (.iload_n 1, 1) := by decide +kernel
theorem dX6_placeState_29 : decode cX6_placeState 29 = .ok (.bipush 114, 2) := by decide +kernel
theorem dX6_placeState_31 : decode cX6_placeState 31 = .ok (.if_icmp .eq 11, 3) := by decide +kernel
theorem dX6_placeState_34 : decode cX6_placeState 34 = .ok (.iload_n 1, 1) := by decide +kernel
theorem dX6_placeState_35 : decode cX6_placeState 35 = .ok (.bipush 101, 2) := by decide +kernel
theorem dX6_placeState_37 : decode cX6_placeState 37 = .ok (.if_icmp .eq 5, 3) := by decide +kernel
theorem dX6_placeState_40 : decode cX6_placeState 40 = .ok (.iconst (-1), 1) := by decide +kernel
theorem dX6_placeState_41 : decode cX6_placeState 41 = .ok (.ireturn, 1) := by decide +kernel
theorem dX6_placeState_42 : decode cX6_placeState 42 = .ok (.aload_n 0, 1) := by decide +kernel
theorem dX6_placeState_43 : decode cX6_placeState 43 = .ok (.getfield 35, 3) := by decide +kernel
theorem dX6_placeState_46 : decode cX6_placeState 46 = .ok (.aload_n 0, 1) := by decide +kernel
theorem dX6_placeState_47 : decode cX6_placeState 47 = .ok (.getfield 70, 3) := by decide +kernel
theorem dX6_placeState_50 : decode cX6_placeState 50 = .ok (.iconst 0, 1) := by decide +kernel
theorem dX6_placeState_51 : decode cX6_placeState 51 = .ok (.iastore, 1) := by decide +kernel
theorem dX6_placeState_52 : decode cX6_placeState 52 = .ok (.aload_n 0, 1) := by decide +kernel
theorem dX6_placeState_53 : decode cX6_placeState 53 = .ok (.getfield 38, 3) := by decide +kernel
theorem dX6_placeState_56 : decode cX6_placeState 56 = .ok (.aload_n 0, 1) := by decide +kernel
theorem dX6_placeState_57 : decode cX6_placeState 57 = .ok (.getfield 70, 3) := by decide +kernel
theorem dX6_placeState_60 : decode cX6_placeState 60 = .ok (.iload_n 1, 1) := by decide +kernel
theorem dX6_placeState_61 : decode cX6_placeState 61 = .ok (.bipush 114, 2) := by decide +kernel
theorem dX6_placeState_63 : decode cX6_placeState 63 = .ok (.if_icmp .eq 9, 3) := by decide +kernel
theorem dX6_placeState_66 : decode cX6_placeState 66 = .ok (.iload_n 1, 1) := by decide +kernel
theorem dX6_placeState_67 : decode cX6_placeState 67 = .ok (.bipush 98, 2) := by decide +kernel
theorem dX6_placeState_69 : decode cX6_placeState 69 = .ok (.if_icmp .ne 7, 3) := by decide +kernel
theorem dX6_placeState_72 : decode cX6_placeState 72 = .ok (.iconst 1, 1) := by decide +kernel
theorem dX6_placeState_73 : decode cX6_placeState 73 = .ok (.goto 14, 3) := by decide +kernel
theorem dX6_placeState_76 : decode cX6_placeState 76 = .ok (.iload_n 1, 1) := by decide +kernel
theorem dX6_placeState_77 : decode cX6_placeState 77 = .ok (.bipush 101, 2) := by decide +kernel
theorem dX6_placeState_79 : decode cX6_placeState 79 = .ok (.if_icmp .ne 7, 3) := by decide +kernel
theorem dX6_placeState_82 : decode cX6_placeState 82 = .ok (.iconst 2, 1) := by decide +kernel
theorem dX6_placeState_83 : decode cX6_placeState 83 = .ok (.goto 4, 3) := by decide +kernel
theorem dX6_placeState_86 : decode cX6_placeState 86 = .ok (.iconst 0, 1) := by decide +kernel
theorem dX6_placeState_87 : decode cX6_placeState 87 = .ok (.iastore, 1) := by decide +kernel
theorem dX6_placeState_88 : decode cX6_placeState 88 = .ok (.aload_n 0, 1) := by decide +kernel
theorem dX6_placeState_89 : decode cX6_placeState 89 = .ok (.dup, 1) := by decide +kernel
theorem dX6_placeState_90 : decode cX6_placeState 90 = .ok (.getfield 70, 3) := by decide +kernel
theorem dX6_placeState_93 : decode cX6_placeState 93 = .ok (.iconst 1, 1) := by decide +kernel
theorem dX6_placeState_94 : decode cX6_placeState 94 = .ok (.iadd, 1) := by decide +kernel
theorem dX6_placeState_95 : decode cX6_placeState 95 = .ok (.putfield 70, 3) := by decide +kernel
theorem dX6_placeState_98 : decode cX6_placeState 98 = .ok (.iload_n 2, 1) := by decide +kernel
theorem dX6_placeState_99 : decode cX6_placeState 99 = .ok (.ifCond .eq 8, 3) := by decide +kernel
theorem dX6_placeState_102 : decode cX6_placeState 102 = .ok (.bipush 6, 2) := by decide +kernel
theorem dX6_placeState_104 : decode cX6_placeState 104 = .ok (.goto 4, 3) := by decide +kernel
theorem dX6_placeState_107 : decode cX6_placeState 107 = .ok (.iconst 5, 1) := by decide +kernel
theorem dX6_placeState_108 : decode cX6_placeState 108 = .ok (.ireturn, 1) := by decide +kernel
theorem dX6_readPassage_0 : decode cX6_readPassage 0 = .ok (.aload_n 0, 1) := by decide +kernel
theorem dX6_readPassage_1 : decode cX6_readPassage 1 = .ok (.iconst 0, 1) := by decide +kernel
theorem dX6_readPassage_2 : decode cX6_readPassage 2 = .ok (.putfield 70, 3) := by decide +kernel
theorem dX6_readPassage_5 : decode cX6_readPassage 5 = .ok (.iconst 0, 1) := by decide +kernel
theorem dX6_readPassage_6 : decode cX6_readPassage 6 = .ok (.istore_n 1, 1) := by decide +kernel
theorem dX6_readPassage_7 : decode cX6_readPassage 7 = .ok (.iconst 0, 1) := by decide +kernel
theorem dX6_readPassage_8 : decode cX6_readPassage 8 = .ok (.istore_n 2, 1) := by decide +kernel
theorem dX6_readPassage_9 : decode cX6_readPassage 9 = .ok (.iconst 1, 1) := by decide +kernel
theorem dX6_readPassage_10 : decode cX6_readPassage 10 = .ok (.istore_n 3, 1) := by decide +kernel
theorem dX6_readPassage_11 : decode cX6_readPassage 11 = .ok (.iload_n 2, 1) := by decide +kernel
theorem dX6_readPassage_12 : decode cX6_readPassage 12 = .ok (.aload_n 0, 1) := by decide +kernel
theorem dX6_readPassage_13 : decode cX6_readPassage 13 = .ok (.getfield 60, 3) := by decide +kernel
theorem dX6_readPassage_16 : decode cX6_readPassage 16 = .ok (.if_icmp .ge 58, 3) := by decide +kernel
theorem dX6_readPassage_19 : decode cX6_readPassage 19 = .ok (.iload_n 3, 1) := by decide +kernel
theorem dX6_readPassage_20 : decode cX6_readPassage 20 = .ok (.ifCond .eq 54, 3) := by decide +kernel
theorem dX6_readPassage_23 : decode cX6_readPassage 23 = .ok (.aload_n 0, 1) := by decide +kernel
theorem dX6_readPassage_24 : decode cX6_readPassage 24 = .ok (.iload_n 1, 1) := by decide +kernel
theorem dX6_readPassage_25 : decode cX6_readPassage 25 = .ok (.aload_n 0, 1) := by decide +kernel
theorem dX6_readPassage_26 : decode cX6_readPassage 26 = .ok (.getfield 31, 3) := by decide +kernel
theorem dX6_readPassage_29 : decode cX6_readPassage 29 = .ok (.iload_n 2, 1) := by decide +kernel
theorem dX6_readPassage_30 : decode cX6_readPassage 30 = .ok (.baload, 1) := by decide +kernel
theorem dX6_readPassage_31 : decode cX6_readPassage 31 = .ok (.invokevirtual 77, 3) := by decide +kernel
theorem dX6_readPassage_34 : decode cX6_readPassage 34 = .ok (.istore 4, 2) := by decide +kernel
theorem dX6_readPassage_36 : decode cX6_readPassage 36 = .ok (.iload 4, 2) := by decide +kernel
theorem dX6_readPassage_38 : decode cX6_readPassage 38 = .ok (.iconst (-1), 1) := by decide +kernel
theorem dX6_readPassage_39 : decode cX6_readPassage 39 = .ok (.if_icmp .eq 7, 3) := by decide +kernel
theorem dX6_readPassage_42 : decode cX6_readPassage 42 = .ok (.iconst 1, 1) := by decide +kernel
theorem dX6_readPassage_43 : decode cX6_readPassage 43 = .ok (.goto 4, 3) := by decide +kernel
theorem dX6_readPassage_46 : decode cX6_readPassage 46 = .ok (.iconst 0, 1) := by decide +kernel
theorem dX6_readPassage_47 : decode cX6_readPassage 47 = .ok (.istore_n 3, 1) := by decide +kernel
theorem dX6_readPassage_48 : decode cX6_readPassage 48 = .ok (.iload_n 3, 1) := by decide +kernel
theorem dX6_readPassage_49 : decode cX6_readPassage 49 = .ok (.ifCond .eq 8, 3) := by decide +kernel
theorem dX6_readPassage_52 : decode cX6_readPassage 52 = .ok (.iload 4, 2) := by decide +kernel
theorem dX6_readPassage_54 : decode cX6_readPassage 54 = .ok (.goto 4, 3) := by decide +kernel
theorem dX6_readPassage_57 : decode cX6_readPassage 57 = .ok (.iload_n 1, 1) := by decide +kernel
theorem dX6_readPassage_58 : decode cX6_readPassage 58 = .ok (.istore_n 1, 1) := by decide +kernel
theorem dX6_readPassage_59 : decode cX6_readPassage 59 = .ok (.iload_n 2, 1) := by decide +kernel
theorem dX6_readPassage_60 : decode cX6_readPassage 60 = .ok (.iload_n 3, 1) := by decide +kernel
theorem dX6_readPassage_61 : decode cX6_readPassage 61 = .ok (.ifCond .eq 7, 3) := by decide +kernel
theorem dX6_readPassage_64 : decode cX6_readPassage 64 = .ok (.iconst 1, 1) := by decide +kernel
theorem dX6_readPassage_65 : decode cX6_readPassage 65 = .ok (.goto 4, 3) := by decide +kernel
theorem dX6_readPassage_68 : decode cX6_readPassage 68 = .ok (.iconst 0, 1) := by decide +kernel
theorem dX6_readPassage_69 : decode cX6_readPassage 69 = .ok (.iadd, 1) := by decide +kernel
theorem dX6_readPassage_70 : decode cX6_readPassage 70 = .ok (.istore_n 2, 1) := by decide +kernel
theorem dX6_readPassage_71 : decode cX6_readPassage 71 = .ok (.goto (-60), 3) := by decide +kernel
theorem dX6_readPassage_74 : decode cX6_readPassage 74 = .ok (.aload_n 0, 1) := by decide +kernel
theorem dX6_readPassage_75 : decode cX6_readPassage 75 = .ok (.iload_n 2, 1) := by decide +kernel
theorem dX6_readPassage_76 : decode cX6_readPassage 76 = .ok (.putfield 81, 3) := by decide +kernel
theorem dX6_readPassage_79 : decode cX6_readPassage 79 = .ok (.aload_n 0, 1) := by decide +kernel
theorem dX6_readPassage_80 : decode cX6_readPassage 80 = .ok (.iload_n 2, 1) := by decide +kernel
theorem dX6_readPassage_81 : decode cX6_readPassage 81 = .ok (.aload_n 0, 1) := by decide +kernel
theorem dX6_readPassage_82 : decode cX6_readPassage 82 = .ok (.getfield 60, 3) := by decide +kernel
theorem dX6_readPassage_85 : decode cX6_readPassage 85 = .ok (.if_icmp .ne 12, 3) := by decide +kernel
theorem dX6_readPassage_88 : decode cX6_readPassage 88 = .ok (.iload_n 1, 1) := by decide +kernel
theorem dX6_readPassage_89 : decode cX6_readPassage 89 = .ok (.iconst 5, 1) := by decide +kernel
theorem dX6_readPassage_90 : decode cX6_readPassage 90 = .ok (.if_icmp .ne 7, 3) := by decide +kernel
theorem dX6_readPassage_93 : decode cX6_readPassage 93 = .ok (.iconst 1, 1) := by decide +kernel
theorem dX6_readPassage_94 : decode cX6_readPassage 94 = .ok (.goto 4, 3) := by decide +kernel
theorem dX6_readPassage_97 : decode cX6_readPassage 97 = .ok (.iconst 0, 1) := by decide +kernel
theorem dX6_readPassage_98 : decode cX6_readPassage 98 = .ok (.putfield 84, 3) := by decide +kernel
theorem dX6_readPassage_101 : decode cX6_readPassage 101 = .ok (.return_, 1) := by decide +kernel
theorem dX6_fault_0 : decode cX6_fault 0 = .ok (.aload_n 0, 1) := by decide +kernel
theorem dX6_fault_1 : decode cX6_fault 1 = .ok (.invokevirtual 88, 3) := by decide +kernel
theorem dX6_fault_4 : decode cX6_fault 4 = .ok (.aload_n 0, 1) := by decide +kernel
theorem dX6_fault_5 : decode cX6_fault 5 = .ok (.getfield 81, 3) := by decide +kernel
theorem dX6_fault_8 : decode cX6_fault 8 = .ok (.ireturn, 1) := by decide +kernel
theorem dX6_passage_0 : decode cX6_passage 0 = .ok (.aload_n 0, 1) := by decide +kernel
theorem dX6_passage_1 : decode cX6_passage 1 = .ok (.invokevirtual 88, 3) := by decide +kernel
theorem dX6_passage_4 : decode cX6_passage 4 = .ok (.aload_n 0, 1) := by decide +kernel
theorem dX6_passage_5 : decode cX6_passage 5 = .ok (.getfield 84, 3) := by decide +kernel
theorem dX6_passage_8 : decode cX6_passage 8 = .ok (.ifCond .ne 6, 3) := by decide +kernel
theorem dX6_passage_11 : decode cX6_passage 11 = .ok (.bipush (-103), 2) := by decide +kernel
theorem dX6_passage_13 : decode cX6_passage 13 = .ok (.ireturn, 1) := by decide +kernel
theorem dX6_passage_14 : decode cX6_passage 14 = .ok (.aload_n 0, 1) := by decide +kernel
theorem dX6_passage_15 : decode cX6_passage 15 = .ok (.aload_n 0, 1) := by decide +kernel
theorem dX6_passage_16 : decode cX6_passage 16 = .ok (.getfield 64, 3) := by decide +kernel
theorem dX6_passage_19 : decode cX6_passage 19 = .ok (.putfield 91, 3) := by decide +kernel
theorem dX6_passage_22 : decode cX6_passage 22 = .ok (.aload_n 0, 1) := by decide +kernel
theorem dX6_passage_23 : decode cX6_passage 23 = .ok (.aload_n 0, 1) := by decide +kernel
theorem dX6_passage_24 : decode cX6_passage 24 = .ok (.getfield 67, 3) := by decide +kernel
theorem dX6_passage_27 : decode cX6_passage 27 = .ok (.putfield 94, 3) := by decide +kernel
theorem dX6_passage_30 : decode cX6_passage 30 = .ok (.aload_n 0, 1) := by decide +kernel
theorem dX6_passage_31 : decode cX6_passage 31 = .ok (.aload_n 0, 1) := by decide +kernel
theorem dX6_passage_32 : decode cX6_passage 32 = .ok (.getfield 70, 3) := by decide +kernel
theorem dX6_passage_35 : decode cX6_passage 35 = .ok (.putfield 97, 3) := by decide +kernel
theorem dX6_passage_38 : decode cX6_passage 38 = .ok (.iconst 0, 1) := by decide +kernel
theorem dX6_passage_39 : decode cX6_passage 39 = .ok (.istore_n 1, 1) := by decide +kernel
theorem dX6_passage_40 : decode cX6_passage 40 = .ok (.iload_n 1, 1) := by decide +kernel
theorem dX6_passage_41 : decode cX6_passage 41 = .ok (.bipush 12, 2) := by decide +kernel
theorem dX6_passage_43 : decode cX6_passage 43 = .ok (.if_icmp .ge 33, 3) := by decide +kernel
theorem dX6_passage_46 : decode cX6_passage 46 = .ok (.aload_n 0, 1) := by decide +kernel
theorem dX6_passage_47 : decode cX6_passage 47 = .ok (.getfield 7, 3) := by decide +kernel
theorem dX6_passage_50 : decode cX6_passage 50 = .ok (.iload_n 1, 1) := by decide +kernel
theorem dX6_passage_51 : decode cX6_passage 51 = .ok (.aload_n 0, 1) := by decide +kernel
theorem dX6_passage_52 : decode cX6_passage 52 = .ok (.getfield 35, 3) := by decide +kernel
theorem dX6_passage_55 : decode cX6_passage 55 = .ok (.iload_n 1, 1) := by decide +kernel
theorem dX6_passage_56 : decode cX6_passage 56 = .ok (.iaload, 1) := by decide +kernel
theorem dX6_passage_57 : decode cX6_passage 57 = .ok (.iastore, 1) := by decide +kernel
theorem dX6_passage_58 : decode cX6_passage 58 = .ok (.aload_n 0, 1) := by decide +kernel
theorem dX6_passage_59 : decode cX6_passage 59 = .ok (.getfield 13, 3) := by decide +kernel
theorem dX6_passage_62 : decode cX6_passage 62 = .ok (.iload_n 1, 1) := by decide +kernel
theorem dX6_passage_63 : decode cX6_passage 63 = .ok (.aload_n 0, 1) := by decide +kernel
theorem dX6_passage_64 : decode cX6_passage 64 = .ok (.getfield 38, 3) := by decide +kernel
theorem dX6_passage_67 : decode cX6_passage 67 = .ok (.iload_n 1, 1) := by decide +kernel
theorem dX6_passage_68 : decode cX6_passage 68 = .ok (.iaload, 1) := by decide +kernel
theorem dX6_passage_69 : decode cX6_passage 69 = .ok (.iastore, 1) := by decide +kernel
theorem dX6_passage_70 : decode cX6_passage 70 = .ok (.iinc 1 1, 3) := by decide +kernel
theorem dX6_passage_73 : decode cX6_passage 73 = .ok (.goto (-33), 3) := by decide +kernel
theorem dX6_passage_76 : decode cX6_passage 76 = .ok (.aload_n 0, 1) := by decide +kernel
theorem dX6_passage_77 : decode cX6_passage 77 = .ok (.iconst 1, 1) := by decide +kernel
theorem dX6_passage_78 : decode cX6_passage 78 = .ok (.putfield 100, 3) := by decide +kernel
theorem dX6_passage_81 : decode cX6_passage 81 = .ok (.aload_n 0, 1) := by decide +kernel
theorem dX6_passage_82 : decode cX6_passage 82 = .ok (.dup, 1) := by decide +kernel
theorem dX6_passage_83 : decode cX6_passage 83 = .ok (.getfield 103, 3) := by decide +kernel
theorem dX6_passage_86 : decode cX6_passage 86 = .ok (.iconst 1, 1) := by decide +kernel
theorem dX6_passage_87 : decode cX6_passage 87 = .ok (.iadd, 1) := by decide +kernel
theorem dX6_passage_88 : decode cX6_passage 88 = .ok (.putfield 103, 3) := by decide +kernel
theorem dX6_passage_91 : decode cX6_passage 91 = .ok (.aload_n 0, 1) := by decide +kernel
theorem dX6_passage_92 : decode cX6_passage 92 = .ok (.iconst 0, 1) := by decide +kernel
theorem dX6_passage_93 : decode cX6_passage 93 = .ok (.putfield 106, 3) := by decide +kernel
theorem dX6_passage_96 : decode cX6_passage 96 = .ok (.aload_n 0, 1) := by decide +kernel
theorem dX6_passage_97 : decode cX6_passage 97 = .ok (.iconst 0, 1) := by decide +kernel
theorem dX6_passage_98 : decode cX6_passage 98 = .ok (.putfield 109, 3) := by decide +kernel
theorem dX6_passage_101 : decode cX6_passage 101 = .ok (.aload_n 0, 1) := by decide +kernel
theorem dX6_passage_102 : decode cX6_passage 102 = .ok (.iconst 0, 1) := by decide +kernel
theorem dX6_passage_103 : decode cX6_passage 103 = .ok (.putfield 112, 3) := by decide +kernel
theorem dX6_passage_106 : decode cX6_passage 106 = .ok (.aload_n 0, 1) := by decide +kernel
theorem dX6_passage_107 : decode cX6_passage 107 = .ok (.invokevirtual 115, 3) := by decide +kernel
theorem dX6_passage_110 : decode cX6_passage 110 = .ok (.aload_n 0, 1) := by decide +kernel
theorem dX6_passage_111 : decode cX6_passage 111 = .ok (.iconst 0, 1) := by decide +kernel
theorem dX6_passage_112 : decode cX6_passage 112 = .ok (.putfield 60, 3) := by decide +kernel
theorem dX6_passage_115 : decode cX6_passage 115 = .ok (.aload_n 0, 1) := by decide +kernel
theorem dX6_passage_116 : decode cX6_passage 116 = .ok (.getfield 97, 3) := by decide +kernel
theorem dX6_passage_119 : decode cX6_passage 119 = .ok (.ireturn, 1) := by decide +kernel
theorem dX6_begin_0 : decode cX6_begin 0 = .ok (.aload_n 0, 1) := by decide +kernel
theorem dX6_begin_1 : decode cX6_begin 1 = .ok (.iconst 0, 1) := by decide +kernel
theorem dX6_begin_2 : decode cX6_begin 2 = .ok (.putfield 118, 3) := by decide +kernel
theorem dX6_begin_5 : decode cX6_begin 5 = .ok (.aload_n 0, 1) := by decide +kernel
theorem dX6_begin_6 : decode cX6_begin 6 = .ok (.iconst 0, 1) := by decide +kernel
theorem dX6_begin_7 : decode cX6_begin 7 = .ok (.putfield 121, 3) := by decide +kernel
theorem dX6_begin_10 : decode cX6_begin 10 = .ok (.aload_n 0, 1) := by decide +kernel
theorem dX6_begin_11 : decode cX6_begin 11 = .ok (.iconst 0, 1) := by decide +kernel
theorem dX6_begin_12 : decode cX6_begin 12 = .ok (.putfield 124, 3) := by decide +kernel
theorem dX6_begin_15 : decode cX6_begin 15 = .ok (.aload_n 0, 1) := by decide +kernel
theorem dX6_begin_16 : decode cX6_begin 16 = .ok (.iconst 0, 1) := by decide +kernel
theorem dX6_begin_17 : decode cX6_begin 17 = .ok (.putfield 127, 3) := by decide +kernel
theorem dX6_begin_20 : decode cX6_begin 20 = .ok (.return_, 1) := by decide +kernel
theorem dX6_place_0 : decode cX6_place 0 = .ok (.iload_n 1, 1) := by decide +kernel
theorem dX6_place_1 : decode cX6_place 1 = .ok (.iconst 0, 1) := by decide +kernel
theorem dX6_place_2 : decode cX6_place 2 = .ok (.aload_n 0, 1) := by decide +kernel
theorem dX6_place_3 : decode cX6_place 3 = .ok (.getfield 97, 3) := by decide +kernel
theorem dX6_place_6 : decode cX6_place 6 = .ok (.iconst 1, 1) := by decide +kernel
theorem dX6_place_7 : decode cX6_place 7 = .ok (.isub, 1) := by decide +kernel
theorem dX6_place_8 : decode cX6_place 8 = .ok (.invokestatic 56, 3) := by decide +kernel
theorem dX6_place_11 : decode cX6_place 11 = .ok (.ifCond .ne 6, 3) := by decide +kernel
theorem dX6_place_14 : decode cX6_place 14 = .ok (.bipush (-101), 2) := by decide +kernel
theorem dX6_place_16 : decode cX6_place 16 = .ok (.ireturn, 1) := by decide +kernel
theorem dX6_place_17 : decode cX6_place 17 = .ok (.iload_n 2, 1) := by decide +kernel
theorem dX6_place_18 : decode cX6_place 18 = .ok (.iconst 0, 1) := by decide +kernel
theorem dX6_place_19 : decode cX6_place 19 = .ok (.iconst 1, 1) := by decide +kernel
theorem dX6_place_20 : decode cX6_place 20 = .ok (.invokestatic 56, 3) := by decide +kernel
theorem dX6_place_23 : decode cX6_place 23 = .ok (.ifCond .ne 8, 3) := by decide +kernel
theorem dX6_place_26 : decode cX6_place 26 = .ok (.bipush (-102), 2) := by decide +kernel
theorem dX6_place_28 : decode cX6_place 28 = .ok (.goto 22, 3) := by decide +kernel
theorem dX6_place_31 : decode cX6_place 31 = .ok (.iload_n 2, 1) := by decide +kernel
theorem dX6_place_32 : decode cX6_place 32 = .ok (.ifCond .ne 12, 3) := by decide +kernel
theorem dX6_place_35 : decode cX6_place 35 = .ok (.aload_n 0, 1) := by decide +kernel
theorem dX6_place_36 : decode cX6_place 36 = .ok (.getfield 7, 3) := by decide +kernel
theorem dX6_place_39 : decode cX6_place 39 = .ok (.iload_n 1, 1) := by decide +kernel
theorem dX6_place_40 : decode cX6_place 40 = .ok (.iaload, 1) := by decide +kernel
theorem dX6_place_41 : decode cX6_place 41 = .ok (.goto 9, 3) := by decide +kernel
theorem dX6_place_44 : decode cX6_place 44 = .ok (.aload_n 0, 1) := by decide +kernel
theorem dX6_place_45 : decode cX6_place 45 = .ok (.getfield 13, 3) := by decide +kernel
theorem dX6_place_48 : decode cX6_place 48 = .ok (.iload_n 1, 1) := by decide +kernel
theorem dX6_place_49 : decode cX6_place 49 = .ok (.iaload, 1) := by decide +kernel
theorem dX6_place_50 : decode cX6_place 50 = .ok (.ireturn, 1) := by decide +kernel
theorem dX6_isMan_0 : decode cX6_isMan 0 = .ok (.iload_n 1, 1) := by decide +kernel
theorem dX6_isMan_1 : decode cX6_isMan 1 = .ok (.iconst 0, 1) := by decide +kernel
theorem dX6_isMan_2 : decode cX6_isMan 2 = .ok (.aload_n 0, 1) := by decide +kernel
theorem dX6_isMan_3 : decode cX6_isMan 3 = .ok (.getfield 106, 3) := by decide +kernel
theorem dX6_isMan_6 : decode cX6_isMan 6 = .ok (.iconst 1, 1) := by decide +kernel
theorem dX6_isMan_7 : decode cX6_isMan 7 = .ok (.isub, 1) := by decide +kernel
theorem dX6_isMan_8 : decode cX6_isMan 8 = .ok (.invokestatic 56, 3) := by decide +kernel
theorem dX6_isMan_11 : decode cX6_isMan 11 = .ok (.ireturn, 1) := by decide +kernel
theorem dX6_man_0 : decode cX6_man 0 = .ok (.iload_n 1, 1) := by decide +kernel
theorem dX6_man_1 : decode cX6_man 1 = .ok (.iconst 0, 1) := by decide +kernel
theorem dX6_man_2 : decode cX6_man 2 = .ok (.iconst 4, 1) := by decide +kernel
theorem dX6_man_3 : decode cX6_man 3 = .ok (.invokestatic 56, 3) := by decide +kernel
theorem dX6_man_6 : decode cX6_man 6 = .ok (.ifCond .eq 23, 3) := by decide +kernel
theorem dX6_man_9 : decode cX6_man 9 = .ok (.iload_n 2, 1) := by decide +kernel
theorem dX6_man_10 : decode cX6_man 10 = .ok (.iconst 1, 1) := by decide +kernel
theorem dX6_man_11 : decode cX6_man 11 = .ok (.bipush 9, 2) := by decide +kernel
theorem dX6_man_13 : decode cX6_man 13 = .ok (.invokestatic 56, 3) := by decide +kernel
theorem dX6_man_16 : decode cX6_man 16 = .ok (.ifCond .eq 13, 3) := by decide +kernel
theorem dX6_man_19 : decode cX6_man 19 = .ok (.iload_n 3, 1) := by decide +kernel
theorem dX6_man_20 : decode cX6_man 20 = .ok (.iconst 0, 1) := by decide +kernel
theorem dX6_man_21 : decode cX6_man 21 = .ok (.bipush 9, 2) := by decide +kernel
theorem dX6_man_23 : decode cX6_man 23 = .ok (.invokestatic 56, 3) := by decide +kernel
theorem dX6_man_26 : decode cX6_man 26 = .ok (.ifCond .ne 6, 3) := by decide +kernel
theorem dX6_man_29 : decode cX6_man 29 = .ok (.bipush (-102), 2) := by decide +kernel
theorem dX6_man_31 : decode cX6_man 31 = .ok (.ireturn, 1) := by decide +kernel
theorem dX6_man_32 : decode cX6_man 32 = .ok (.aload_n 0, 1) := by decide +kernel
theorem dX6_man_33 : decode cX6_man 33 = .ok (.getfield 100, 3) := by decide +kernel
theorem dX6_man_36 : decode cX6_man 36 = .ok (.ifCond .eq 17, 3) := by decide +kernel
theorem dX6_man_39 : decode cX6_man 39 = .ok (.aload_n 0, 1) := by decide +kernel
theorem dX6_man_40 : decode cX6_man 40 = .ok (.getfield 121, 3) := by decide +kernel
theorem dX6_man_43 : decode cX6_man 43 = .ok (.ifCond .ne 10, 3) := by decide +kernel
theorem dX6_man_46 : decode cX6_man 46 = .ok (.aload_n 0, 1) := by decide +kernel
theorem dX6_man_47 : decode cX6_man 47 = .ok (.getfield 124, 3) := by decide +kernel
theorem dX6_man_50 : decode cX6_man 50 = .ok (.ifCond .eq 6, 3) := by decide +kernel
theorem dX6_man_53 : decode cX6_man 53 = .ok (.bipush (-103), 2) := by decide +kernel
theorem dX6_man_55 : decode cX6_man 55 = .ok (.ireturn, 1) := by decide +kernel
theorem dX6_man_56 : decode cX6_man 56 = .ok (.aload_n 0, 1) := by decide +kernel
theorem dX6_man_57 : decode cX6_man 57 = .ok (.getfield 106, 3) := by decide +kernel
theorem dX6_man_60 : decode cX6_man 60 = .ok (.iconst 5, 1) := by decide +kernel
theorem dX6_man_61 : decode cX6_man 61 = .ok (.if_icmp .ne 6, 3) := by decide +kernel
theorem dX6_man_64 : decode cX6_man 64 = .ok (.bipush (-104), 2) := by decide +kernel
theorem dX6_man_66 : decode cX6_man 66 = .ok (.ireturn, 1) := by decide +kernel
theorem dX6_man_67 : decode cX6_man 67 = .ok (.aload_n 0, 1) := by decide +kernel
theorem dX6_man_68 : decode cX6_man 68 = .ok (.getfield 16, 3) := by decide +kernel
theorem dX6_man_71 : decode cX6_man 71 = .ok (.aload_n 0, 1) := by decide +kernel
theorem dX6_man_72 : decode cX6_man 72 = .ok (.getfield 106, 3) := by decide +kernel
theorem dX6_man_75 : decode cX6_man 75 = .ok (.iload_n 1, 1) := by decide +kernel
theorem dX6_man_76 : decode cX6_man 76 = .ok (.iastore, 1) := by decide +kernel
theorem dX6_man_77 : decode cX6_man 77 = .ok (.aload_n 0, 1) := by decide +kernel
theorem dX6_man_78 : decode cX6_man 78 = .ok (.getfield 19, 3) := by decide +kernel
theorem dX6_man_81 : decode cX6_man 81 = .ok (.aload_n 0, 1) := by decide +kernel
theorem dX6_man_82 : decode cX6_man 82 = .ok (.getfield 106, 3) := by decide +kernel
theorem dX6_man_85 : decode cX6_man 85 = .ok (.iload_n 2, 1) := by decide +kernel
theorem dX6_man_86 : decode cX6_man 86 = .ok (.iastore, 1) := by decide +kernel
theorem dX6_man_87 : decode cX6_man 87 = .ok (.aload_n 0, 1) := by decide +kernel
theorem dX6_man_88 : decode cX6_man 88 = .ok (.getfield 22, 3) := by decide +kernel
theorem dX6_man_91 : decode cX6_man 91 = .ok (.aload_n 0, 1) := by decide +kernel
theorem dX6_man_92 : decode cX6_man 92 = .ok (.getfield 106, 3) := by decide +kernel
theorem dX6_man_95 : decode cX6_man 95 = .ok (.iload_n 3, 1) := by decide +kernel
theorem dX6_man_96 : decode cX6_man 96 = .ok (.iastore, 1) := by decide +kernel
theorem dX6_man_97 : decode cX6_man 97 = .ok (.aload_n 0, 1) := by decide +kernel
theorem dX6_man_98 : decode cX6_man 98 = .ok (.getfield 25, 3) := by decide +kernel
theorem dX6_man_101 : decode cX6_man 101 = .ok (.aload_n 0, 1) := by decide +kernel
theorem dX6_man_102 : decode cX6_man 102 = .ok (.getfield 106, 3) := by decide +kernel
theorem dX6_man_105 : decode cX6_man 105 = .ok (.iconst 0, 1) := by decide +kernel
theorem dX6_man_106 : decode cX6_man 106 = .ok (.iastore, 1) := by decide +kernel
theorem dX6_man_107 : decode cX6_man 107 = .ok (.aload_n 0, 1) := by decide +kernel
theorem dX6_man_108 : decode cX6_man 108 = .ok (.dup, 1) := by decide +kernel
theorem dX6_man_109 : decode cX6_man 109 = .ok (.getfield 112, 3) := by decide +kernel
theorem dX6_man_112 : decode cX6_man 112 = .ok (.iconst 1, 1) := by decide +kernel
theorem dX6_man_113 : decode cX6_man 113 = .ok (.aload_n 0, 1) := by decide +kernel
theorem dX6_man_114 : decode cX6_man 114 = .ok (.getfield 106, 3) := by decide +kernel
theorem dX6_man_117 : decode cX6_man 117 = .ok (.ishl, 1) := by decide +kernel
theorem dX6_man_118 : decode cX6_man 118 = .ok (.iconst (-1), 1) := by decide +kernel
theorem dX6_man_119 : decode cX6_man 119 = .ok (.ixor, 1) := by decide +kernel
theorem dX6_man_120 : decode cX6_man 120 = .ok (.iand, 1) := by decide +kernel
theorem dX6_man_121 : decode cX6_man 121 = .ok (.putfield 112, 3) := by decide +kernel
theorem dX6_man_124 : decode cX6_man 124 = .ok (.aload_n 0, 1) := by decide +kernel
theorem dX6_man_125 : decode cX6_man 125 = .ok (.dup, 1) := by decide +kernel
theorem dX6_man_126 : decode cX6_man 126 = .ok (.getfield 106, 3) := by decide +kernel
theorem dX6_man_129 : decode cX6_man 129 = .ok (.iconst 1, 1) := by decide +kernel
theorem dX6_man_130 : decode cX6_man 130 = .ok (.iadd, 1) := by decide +kernel
theorem dX6_man_131 : decode cX6_man 131 = .ok (.putfield 106, 3) := by decide +kernel
theorem dX6_man_134 : decode cX6_man 134 = .ok (.aload_n 0, 1) := by decide +kernel
theorem dX6_man_135 : decode cX6_man 135 = .ok (.getfield 106, 3) := by decide +kernel
theorem dX6_man_138 : decode cX6_man 138 = .ok (.iconst 1, 1) := by decide +kernel
theorem dX6_man_139 : decode cX6_man 139 = .ok (.isub, 1) := by decide +kernel
theorem dX6_man_140 : decode cX6_man 140 = .ok (.ireturn, 1) := by decide +kernel
theorem dX6_hears_0 : decode cX6_hears 0 = .ok (.aload_n 0, 1) := by decide +kernel
theorem dX6_hears_1 : decode cX6_hears 1 = .ok (.getfield 16, 3) := by decide +kernel
theorem dX6_hears_4 : decode cX6_hears 4 = .ok (.iload_n 1, 1) := by decide +kernel
theorem dX6_hears_5 : decode cX6_hears 5 = .ok (.iaload, 1) := by decide +kernel
theorem dX6_hears_6 : decode cX6_hears 6 = .ok (.iconst 1, 1) := by decide +kernel
theorem dX6_hears_7 : decode cX6_hears 7 = .ok (.if_icmp .eq 29, 3) := by decide +kernel
theorem dX6_hears_10 : decode cX6_hears 10 = .ok (.aload_n 0, 1) := by decide +kernel
theorem dX6_hears_11 : decode cX6_hears 11 = .ok (.getfield 112, 3) := by decide +kernel
theorem dX6_hears_14 : decode cX6_hears 14 = .ok (.iload_n 1, 1) := by decide +kernel
theorem dX6_hears_15 : decode cX6_hears 15 = .ok (.invokestatic 130, 3) := by decide +kernel
theorem dX6_hears_18 : decode cX6_hears 18 = .ok (.ifCond .eq 14, 3) := by decide +kernel
theorem dX6_hears_21 : decode cX6_hears 21 = .ok (.aload_n 0, 1) := by decide +kernel
theorem dX6_hears_22 : decode cX6_hears 22 = .ok (.getfield 124, 3) := by decide +kernel
theorem dX6_hears_25 : decode cX6_hears 25 = .ok (.aload_n 0, 1) := by decide +kernel
theorem dX6_hears_26 : decode cX6_hears 26 = .ok (.getfield 94, 3) := by decide +kernel
theorem dX6_hears_29 : decode cX6_hears 29 = .ok (.if_icmp .lt 7, 3) := by decide +kernel
theorem dX6_hears_32 : decode cX6_hears 32 = .ok (.iconst 1, 1) := by decide +kernel
theorem dX6_hears_33 : decode cX6_hears 33 = .ok (.goto 4, 3) := by decide +kernel
theorem dX6_hears_36 : decode cX6_hears 36 = .ok (.iconst 0, 1) := by decide +kernel
theorem dX6_hears_37 : decode cX6_hears 37 = .ok (.ireturn, 1) := by decide +kernel
theorem dX6_holds_0 : decode cX6_holds 0 = .ok (.aload_n 0, 1) := by decide +kernel
theorem dX6_holds_1 : decode cX6_holds 1 = .ok (.getfield 22, 3) := by decide +kernel
theorem dX6_holds_4 : decode cX6_holds 4 = .ok (.iload_n 1, 1) := by decide +kernel
theorem dX6_holds_5 : decode cX6_holds 5 = .ok (.iaload, 1) := by decide +kernel
theorem dX6_holds_6 : decode cX6_holds 6 = .ok (.aload_n 0, 1) := by decide +kernel
theorem dX6_holds_7 : decode cX6_holds 7 = .ok (.getfield 25, 3) := by decide +kernel
theorem dX6_holds_10 : decode cX6_holds 10 = .ok (.iload_n 1, 1) := by decide +kernel
theorem dX6_holds_11 : decode cX6_holds 11 = .ok (.iaload, 1) := by decide +kernel
theorem dX6_holds_12 : decode cX6_holds 12 = .ok (.aload_n 0, 1) := by decide +kernel
theorem dX6_holds_13 : decode cX6_holds 13 = .ok (.getfield 16, 3) := by decide +kernel
theorem dX6_holds_16 : decode cX6_holds 16 = .ok (.iload_n 1, 1) := by decide +kernel
theorem dX6_holds_17 : decode cX6_holds 17 = .ok (.iaload, 1) := by decide +kernel
theorem dX6_holds_18 : decode cX6_holds 18 = .ok (.iconst 4, 1) := by decide +kernel
theorem dX6_holds_19 : decode cX6_holds 19 = .ok (.if_icmp .ne 7, 3) := by decide +kernel
theorem dX6_holds_22 : decode cX6_holds 22 = .ok (.iconst 3, 1) := by decide +kernel
theorem dX6_holds_23 : decode cX6_holds 23 = .ok (.goto 4, 3) := by decide +kernel
theorem dX6_holds_26 : decode cX6_holds 26 = .ok (.iconst 2, 1) := by decide +kernel
theorem dX6_holds_27 : decode cX6_holds 27 = .ok (.imul, 1) := by decide +kernel
theorem dX6_holds_28 : decode cX6_holds 28 = .ok (.iadd, 1) := by decide +kernel
theorem dX6_holds_29 : decode cX6_holds 29 = .ok (.ireturn, 1) := by decide +kernel
theorem dX6_manNow_0 : decode cX6_manNow 0 = .ok (.iload_n 2, 1) := by decide +kernel
theorem dX6_manNow_1 : decode cX6_manNow 1 = .ok (.tableswitch 103 0 6 #[43, 50, 57, 64, 73, 80, 89], 43) := by decide +kernel
theorem dX6_manNow_44 : decode cX6_manNow 44 = .ok (.aload_n 0, 1) := by decide +kernel
theorem dX6_manNow_45 : decode cX6_manNow 45 = .ok (.getfield 16, 3) := by decide +kernel
theorem dX6_manNow_48 : decode cX6_manNow 48 = .ok (.iload_n 1, 1) := by decide +kernel
theorem dX6_manNow_49 : decode cX6_manNow 49 = .ok (.iaload, 1) := by decide +kernel
theorem dX6_manNow_50 : decode cX6_manNow 50 = .ok (.ireturn, 1) := by decide +kernel
theorem dX6_manNow_51 : decode cX6_manNow 51 = .ok (.aload_n 0, 1) := by decide +kernel
theorem dX6_manNow_52 : decode cX6_manNow 52 = .ok (.getfield 19, 3) := by decide +kernel
theorem dX6_manNow_55 : decode cX6_manNow 55 = .ok (.iload_n 1, 1) := by decide +kernel
theorem dX6_manNow_56 : decode cX6_manNow 56 = .ok (.iaload, 1) := by decide +kernel
theorem dX6_manNow_57 : decode cX6_manNow 57 = .ok (.ireturn, 1) := by decide +kernel
theorem dX6_manNow_58 : decode cX6_manNow 58 = .ok (.aload_n 0, 1) := by decide +kernel
theorem dX6_manNow_59 : decode cX6_manNow 59 = .ok (.getfield 22, 3) := by decide +kernel
theorem dX6_manNow_62 : decode cX6_manNow 62 = .ok (.iload_n 1, 1) := by decide +kernel
theorem dX6_manNow_63 : decode cX6_manNow 63 = .ok (.iaload, 1) := by decide +kernel
theorem dX6_manNow_64 : decode cX6_manNow 64 = .ok (.ireturn, 1) := by decide +kernel
theorem dX6_manNow_65 : decode cX6_manNow 65 = .ok (.aload_n 0, 1) := by decide +kernel
theorem dX6_manNow_66 : decode cX6_manNow 66 = .ok (.getfield 112, 3) := by decide +kernel
theorem dX6_manNow_69 : decode cX6_manNow 69 = .ok (.iload_n 1, 1) := by decide +kernel
theorem dX6_manNow_70 : decode cX6_manNow 70 = .ok (.ishr, 1) := by decide +kernel
theorem dX6_manNow_71 : decode cX6_manNow 71 = .ok (.iconst 1, 1) := by decide +kernel
theorem dX6_manNow_72 : decode cX6_manNow 72 = .ok (.iand, 1) := by decide +kernel
theorem dX6_manNow_73 : decode cX6_manNow 73 = .ok (.ireturn, 1) := by decide +kernel
theorem dX6_manNow_74 : decode cX6_manNow 74 = .ok (.aload_n 0, 1) := by decide +kernel
theorem dX6_manNow_75 : decode cX6_manNow 75 = .ok (.getfield 25, 3) := by decide +kernel
theorem dX6_manNow_78 : decode cX6_manNow 78 = .ok (.iload_n 1, 1) := by decide +kernel
theorem dX6_manNow_79 : decode cX6_manNow 79 = .ok (.iaload, 1) := by decide +kernel
theorem dX6_manNow_80 : decode cX6_manNow 80 = .ok (.ireturn, 1) := by decide +kernel
theorem dX6_manNow_81 : decode cX6_manNow 81 = .ok (.aload_n 0, 1) := by decide +kernel
theorem dX6_manNow_82 : decode cX6_manNow 82 = .ok (.getfield 118, 3) := by decide +kernel
theorem dX6_manNow_85 : decode cX6_manNow 85 = .ok (.iload_n 1, 1) := by decide +kernel
theorem dX6_manNow_86 : decode cX6_manNow 86 = .ok (.ishr, 1) := by decide +kernel
theorem dX6_manNow_87 : decode cX6_manNow 87 = .ok (.iconst 1, 1) := by decide +kernel
theorem dX6_manNow_88 : decode cX6_manNow 88 = .ok (.iand, 1) := by decide +kernel
theorem dX6_manNow_89 : decode cX6_manNow 89 = .ok (.ireturn, 1) := by decide +kernel
theorem dX6_manNow_90 : decode cX6_manNow 90 = .ok (.aload_n 0, 1) := by decide +kernel
theorem dX6_manNow_91 : decode cX6_manNow 91 = .ok (.iload_n 1, 1) := by decide +kernel
theorem dX6_manNow_92 : decode cX6_manNow 92 = .ok (.invokevirtual 134, 3) := by decide +kernel
theorem dX6_manNow_95 : decode cX6_manNow 95 = .ok (.ifCond .eq 7, 3) := by decide +kernel
theorem dX6_manNow_98 : decode cX6_manNow 98 = .ok (.iconst 1, 1) := by decide +kernel
theorem dX6_manNow_99 : decode cX6_manNow 99 = .ok (.goto 4, 3) := by decide +kernel
theorem dX6_manNow_102 : decode cX6_manNow 102 = .ok (.iconst 0, 1) := by decide +kernel
theorem dX6_manNow_103 : decode cX6_manNow 103 = .ok (.ireturn, 1) := by decide +kernel
theorem dX6_manNow_104 : decode cX6_manNow 104 = .ok (.aload_n 0, 1) := by decide +kernel
theorem dX6_manNow_105 : decode cX6_manNow 105 = .ok (.iload_n 1, 1) := by decide +kernel
theorem dX6_manNow_106 : decode cX6_manNow 106 = .ok (.invokevirtual 138, 3) := by decide +kernel
theorem dX6_manNow_109 : decode cX6_manNow 109 = .ok (.ireturn, 1) := by decide +kernel
theorem dX6_about_0 : decode cX6_about 0 = .ok (.aload_n 0, 1) := by decide +kernel
theorem dX6_about_1 : decode cX6_about 1 = .ok (.iload_n 1, 1) := by decide +kernel
theorem dX6_about_2 : decode cX6_about 2 = .ok (.invokevirtual 141, 3) := by decide +kernel
theorem dX6_about_5 : decode cX6_about 5 = .ok (.ifCond .ne 8, 3) := by decide +kernel
theorem dX6_about_8 : decode cX6_about 8 = .ok (.bipush (-101), 2) := by decide +kernel
theorem dX6_about_10 : decode cX6_about 10 = .ok (.goto 24, 3) := by decide +kernel
theorem dX6_about_13 : decode cX6_about 13 = .ok (.iload_n 2, 1) := by decide +kernel
theorem dX6_about_14 : decode cX6_about 14 = .ok (.iconst 0, 1) := by decide +kernel
theorem dX6_about_15 : decode cX6_about 15 = .ok (.bipush 7, 2) := by decide +kernel
theorem dX6_about_17 : decode cX6_about 17 = .ok (.invokestatic 56, 3) := by decide +kernel
theorem dX6_about_20 : decode cX6_about 20 = .ok (.ifCond .eq 12, 3) := by decide +kernel
theorem dX6_about_23 : decode cX6_about 23 = .ok (.aload_n 0, 1) := by decide +kernel
theorem dX6_about_24 : decode cX6_about 24 = .ok (.iload_n 1, 1) := by decide +kernel
theorem dX6_about_25 : decode cX6_about 25 = .ok (.iload_n 2, 1) := by decide +kernel
theorem dX6_about_26 : decode cX6_about 26 = .ok (.invokevirtual 144, 3) := by decide +kernel
theorem dX6_about_29 : decode cX6_about 29 = .ok (.goto 5, 3) := by decide +kernel
theorem dX6_about_32 : decode cX6_about 32 = .ok (.bipush (-102), 2) := by decide +kernel
theorem dX6_about_34 : decode cX6_about 34 = .ok (.ireturn, 1) := by decide +kernel
theorem dX6_as_0 : decode cX6_as 0 = .ok (.aload_n 0, 1) := by decide +kernel
theorem dX6_as_1 : decode cX6_as 1 = .ok (.iload_n 1, 1) := by decide +kernel
theorem dX6_as_2 : decode cX6_as 2 = .ok (.invokevirtual 141, 3) := by decide +kernel
theorem dX6_as_5 : decode cX6_as 5 = .ok (.ifCond .ne 6, 3) := by decide +kernel
theorem dX6_as_8 : decode cX6_as 8 = .ok (.bipush (-101), 2) := by decide +kernel
theorem dX6_as_10 : decode cX6_as 10 = .ok (.ireturn, 1) := by decide +kernel
theorem dX6_as_11 : decode cX6_as 11 = .ok (.iload_n 2, 1) := by decide +kernel
theorem dX6_as_12 : decode cX6_as 12 = .ok (.iconst 0, 1) := by decide +kernel
theorem dX6_as_13 : decode cX6_as 13 = .ok (.iconst 4, 1) := by decide +kernel
theorem dX6_as_14 : decode cX6_as 14 = .ok (.invokestatic 56, 3) := by decide +kernel
theorem dX6_as_17 : decode cX6_as 17 = .ok (.ifCond .ne 6, 3) := by decide +kernel
theorem dX6_as_20 : decode cX6_as 20 = .ok (.bipush (-102), 2) := by decide +kernel
theorem dX6_as_22 : decode cX6_as 22 = .ok (.ireturn, 1) := by decide +kernel
theorem dX6_as_23 : decode cX6_as 23 = .ok (.aload_n 0, 1) := by decide +kernel
theorem dX6_as_24 : decode cX6_as 24 = .ok (.getfield 16, 3) := by decide +kernel
theorem dX6_as_27 : decode cX6_as 27 = .ok (.iload_n 1, 1) := by decide +kernel
theorem dX6_as_28 : decode cX6_as 28 = .ok (.iaload, 1) := by decide +kernel
theorem dX6_as_29 : decode cX6_as 29 = .ok (.istore_n 3, 1) := by decide +kernel
theorem dX6_as_30 : decode cX6_as 30 = .ok (.iload_n 2, 1) := by decide +kernel
theorem dX6_as_31 : decode cX6_as 31 = .ok (.ifCond .eq 18, 3) := by decide +kernel
theorem dX6_as_34 : decode cX6_as 34 = .ok (.iload_n 3, 1) := by decide +kernel
theorem dX6_as_35 : decode cX6_as 35 = .ok (.iload_n 2, 1) := by decide +kernel
theorem dX6_as_36 : decode cX6_as 36 = .ok (.if_icmp .eq 13, 3) := by decide +kernel
theorem dX6_as_39 : decode cX6_as 39 = .ok (.iload_n 2, 1) := by decide +kernel
theorem dX6_as_40 : decode cX6_as 40 = .ok (.iconst 3, 1) := by decide +kernel
theorem dX6_as_41 : decode cX6_as 41 = .ok (.if_icmp .ne 12, 3) := by decide +kernel
theorem dX6_as_44 : decode cX6_as 44 = .ok (.iload_n 3, 1) := by decide +kernel
theorem dX6_as_45 : decode cX6_as 45 = .ok (.iconst 4, 1) := by decide +kernel
theorem dX6_as_46 : decode cX6_as 46 = .ok (.if_icmp .ne 7, 3) := by decide +kernel
theorem dX6_as_49 : decode cX6_as 49 = .ok (.iload_n 1, 1) := by decide +kernel
theorem dX6_as_50 : decode cX6_as 50 = .ok (.goto 4, 3) := by decide +kernel
theorem dX6_as_53 : decode cX6_as 53 = .ok (.iconst (-1), 1) := by decide +kernel
theorem dX6_as_54 : decode cX6_as 54 = .ok (.ireturn, 1) := by decide +kernel
theorem dX6_wax_0 : decode cX6_wax 0 = .ok (.aload_n 0, 1) := by decide +kernel
theorem dX6_wax_1 : decode cX6_wax 1 = .ok (.iload_n 1, 1) := by decide +kernel
theorem dX6_wax_2 : decode cX6_wax 2 = .ok (.invokevirtual 141, 3) := by decide +kernel
theorem dX6_wax_5 : decode cX6_wax 5 = .ok (.ifCond .ne 6, 3) := by decide +kernel
theorem dX6_wax_8 : decode cX6_wax 8 = .ok (.bipush (-101), 2) := by decide +kernel
theorem dX6_wax_10 : decode cX6_wax 10 = .ok (.ireturn, 1) := by decide +kernel
theorem dX6_wax_11 : decode cX6_wax 11 = .ok (.aload_n 0, 1) := by decide +kernel
theorem dX6_wax_12 : decode cX6_wax 12 = .ok (.getfield 118, 3) := by decide +kernel
theorem dX6_wax_15 : decode cX6_wax 15 = .ok (.iload_n 1, 1) := by decide +kernel
theorem dX6_wax_16 : decode cX6_wax 16 = .ok (.invokestatic 130, 3) := by decide +kernel
theorem dX6_wax_19 : decode cX6_wax 19 = .ok (.ifCond .ne 10, 3) := by decide +kernel
theorem dX6_wax_22 : decode cX6_wax 22 = .ok (.aload_n 0, 1) := by decide +kernel
theorem dX6_wax_23 : decode cX6_wax 23 = .ok (.getfield 127, 3) := by decide +kernel
theorem dX6_wax_26 : decode cX6_wax 26 = .ok (.ifCond .eq 6, 3) := by decide +kernel
theorem dX6_wax_29 : decode cX6_wax 29 = .ok (.bipush (-103), 2) := by decide +kernel
theorem dX6_wax_31 : decode cX6_wax 31 = .ok (.ireturn, 1) := by decide +kernel
theorem dX6_wax_32 : decode cX6_wax 32 = .ok (.aload_n 0, 1) := by decide +kernel
theorem dX6_wax_33 : decode cX6_wax 33 = .ok (.getfield 112, 3) := by decide +kernel
theorem dX6_wax_36 : decode cX6_wax 36 = .ok (.iload_n 1, 1) := by decide +kernel
theorem dX6_wax_37 : decode cX6_wax 37 = .ok (.ishr, 1) := by decide +kernel
theorem dX6_wax_38 : decode cX6_wax 38 = .ok (.iconst 1, 1) := by decide +kernel
theorem dX6_wax_39 : decode cX6_wax 39 = .ok (.iand, 1) := by decide +kernel
theorem dX6_wax_40 : decode cX6_wax 40 = .ok (.istore_n 3, 1) := by decide +kernel
theorem dX6_wax_41 : decode cX6_wax 41 = .ok (.aload_n 0, 1) := by decide +kernel
theorem dX6_wax_42 : decode cX6_wax 42 = .ok (.iload_n 2, 1) := by decide +kernel
theorem dX6_wax_43 : decode cX6_wax 43 = .ok (.ifCond .eq 14, 3) := by decide +kernel
theorem dX6_wax_46 : decode cX6_wax 46 = .ok (.aload_n 0, 1) := by decide +kernel
theorem dX6_wax_47 : decode cX6_wax 47 = .ok (.getfield 112, 3) := by decide +kernel
theorem dX6_wax_50 : decode cX6_wax 50 = .ok (.iconst 1, 1) := by decide +kernel
theorem dX6_wax_51 : decode cX6_wax 51 = .ok (.iload_n 1, 1) := by decide +kernel
theorem dX6_wax_52 : decode cX6_wax 52 = .ok (.ishl, 1) := by decide +kernel
theorem dX6_wax_53 : decode cX6_wax 53 = .ok (.ior, 1) := by decide +kernel
theorem dX6_wax_54 : decode cX6_wax 54 = .ok (.goto 13, 3) := by decide +kernel
theorem dX6_wax_57 : decode cX6_wax 57 = .ok (.aload_n 0, 1) := by decide +kernel
theorem dX6_wax_58 : decode cX6_wax 58 = .ok (.getfield 112, 3) := by decide +kernel
theorem dX6_wax_61 : decode cX6_wax 61 = .ok (.iconst 1, 1) := by decide +kernel
theorem dX6_wax_62 : decode cX6_wax 62 = .ok (.iload_n 1, 1) := by decide +kernel
theorem dX6_wax_63 : decode cX6_wax 63 = .ok (.ishl, 1) := by decide +kernel
theorem dX6_wax_64 : decode cX6_wax 64 = .ok (.iconst (-1), 1) := by decide +kernel
theorem dX6_wax_65 : decode cX6_wax 65 = .ok (.ixor, 1) := by decide +kernel
theorem dX6_wax_66 : decode cX6_wax 66 = .ok (.iand, 1) := by decide +kernel
theorem dX6_wax_67 : decode cX6_wax 67 = .ok (.putfield 112, 3) := by decide +kernel
theorem dX6_wax_70 : decode cX6_wax 70 = .ok (.iload_n 3, 1) := by decide +kernel
theorem dX6_wax_71 : decode cX6_wax 71 = .ok (.ireturn, 1) := by decide +kernel
theorem dX6_bind_0 : decode cX6_bind 0 = .ok (.aload_n 0, 1) := by decide +kernel
theorem dX6_bind_1 : decode cX6_bind 1 = .ok (.iload_n 1, 1) := by decide +kernel
theorem dX6_bind_2 : decode cX6_bind 2 = .ok (.invokevirtual 141, 3) := by decide +kernel
theorem dX6_bind_5 : decode cX6_bind 5 = .ok (.ifCond .ne 6, 3) := by decide +kernel
theorem dX6_bind_8 : decode cX6_bind 8 = .ok (.bipush (-101), 2) := by decide +kernel
theorem dX6_bind_10 : decode cX6_bind 10 = .ok (.ireturn, 1) := by decide +kernel
theorem dX6_bind_11 : decode cX6_bind 11 = .ok (.iload_n 2, 1) := by decide +kernel
theorem dX6_bind_12 : decode cX6_bind 12 = .ok (.iconst 0, 1) := by decide +kernel
theorem dX6_bind_13 : decode cX6_bind 13 = .ok (.bipush 9, 2) := by decide +kernel
theorem dX6_bind_15 : decode cX6_bind 15 = .ok (.invokestatic 56, 3) := by decide +kernel
theorem dX6_bind_18 : decode cX6_bind 18 = .ok (.ifCond .ne 6, 3) := by decide +kernel
theorem dX6_bind_21 : decode cX6_bind 21 = .ok (.bipush (-102), 2) := by decide +kernel
theorem dX6_bind_23 : decode cX6_bind 23 = .ok (.ireturn, 1) := by decide +kernel
theorem dX6_bind_24 : decode cX6_bind 24 = .ok (.aload_n 0, 1) := by decide +kernel
theorem dX6_bind_25 : decode cX6_bind 25 = .ok (.getfield 118, 3) := by decide +kernel
theorem dX6_bind_28 : decode cX6_bind 28 = .ok (.iload_n 1, 1) := by decide +kernel
theorem dX6_bind_29 : decode cX6_bind 29 = .ok (.invokestatic 130, 3) := by decide +kernel
theorem dX6_bind_32 : decode cX6_bind 32 = .ok (.ifCond .ne 10, 3) := by decide +kernel
theorem dX6_bind_35 : decode cX6_bind 35 = .ok (.aload_n 0, 1) := by decide +kernel
theorem dX6_bind_36 : decode cX6_bind 36 = .ok (.getfield 127, 3) := by decide +kernel
theorem dX6_bind_39 : decode cX6_bind 39 = .ok (.ifCond .eq 6, 3) := by decide +kernel
theorem dX6_bind_42 : decode cX6_bind 42 = .ok (.bipush (-103), 2) := by decide +kernel
theorem dX6_bind_44 : decode cX6_bind 44 = .ok (.ireturn, 1) := by decide +kernel
theorem dX6_bind_45 : decode cX6_bind 45 = .ok (.aload_n 0, 1) := by decide +kernel
theorem dX6_bind_46 : decode cX6_bind 46 = .ok (.getfield 25, 3) := by decide +kernel
theorem dX6_bind_49 : decode cX6_bind 49 = .ok (.iload_n 1, 1) := by decide +kernel
theorem dX6_bind_50 : decode cX6_bind 50 = .ok (.iaload, 1) := by decide +kernel
theorem dX6_bind_51 : decode cX6_bind 51 = .ok (.istore_n 3, 1) := by decide +kernel
theorem dX6_bind_52 : decode cX6_bind 52 = .ok (.aload_n 0, 1) := by decide +kernel
theorem dX6_bind_53 : decode cX6_bind 53 = .ok (.getfield 25, 3) := by decide +kernel
theorem dX6_bind_56 : decode cX6_bind 56 = .ok (.iload_n 1, 1) := by decide +kernel
theorem dX6_bind_57 : decode cX6_bind 57 = .ok (.iload_n 2, 1) := by decide +kernel
theorem dX6_bind_58 : decode cX6_bind 58 = .ok (.iastore, 1) := by decide +kernel
theorem dX6_bind_59 : decode cX6_bind 59 = .ok (.iload_n 3, 1) := by decide +kernel
theorem dX6_bind_60 : decode cX6_bind 60 = .ok (.ireturn, 1) := by decide +kernel
theorem dX6_everybody_0 : decode cX6_everybody 0 = .ok (.iconst 1, 1) := by decide +kernel
theorem dX6_everybody_1 : decode cX6_everybody 1 = .ok (.aload_n 0, 1) := by decide +kernel
theorem dX6_everybody_2 : decode cX6_everybody 2 = .ok (.getfield 106, 3) := by decide +kernel
theorem dX6_everybody_5 : decode cX6_everybody 5 = .ok (.ishl, 1) := by decide +kernel
theorem dX6_everybody_6 : decode cX6_everybody 6 = .ok (.iconst 1, 1) := by decide +kernel
theorem dX6_everybody_7 : decode cX6_everybody 7 = .ok (.isub, 1) := by decide +kernel
theorem dX6_everybody_8 : decode cX6_everybody 8 = .ok (.ireturn, 1) := by decide +kernel
theorem dX6_swims_0 : decode cX6_swims 0 = .ok (.aload_n 0, 1) := by decide +kernel
theorem dX6_swims_1 : decode cX6_swims 1 = .ok (.getfield 16, 3) := by decide +kernel
theorem dX6_swims_4 : decode cX6_swims 4 = .ok (.iload_n 1, 1) := by decide +kernel
theorem dX6_swims_5 : decode cX6_swims 5 = .ok (.iaload, 1) := by decide +kernel
theorem dX6_swims_6 : decode cX6_swims 6 = .ok (.iconst 2, 1) := by decide +kernel
theorem dX6_swims_7 : decode cX6_swims 7 = .ok (.if_icmp .ne 9, 3) := by decide +kernel
theorem dX6_swims_10 : decode cX6_swims 10 = .ok (.iload_n 2, 1) := by decide +kernel
theorem dX6_swims_11 : decode cX6_swims 11 = .ok (.iconst 2, 1) := by decide +kernel
theorem dX6_swims_12 : decode cX6_swims 12 = .ok (.idiv, 1) := by decide +kernel
theorem dX6_swims_13 : decode cX6_swims 13 = .ok (.goto 4, 3) := by decide +kernel
theorem dX6_swims_16 : decode cX6_swims 16 = .ok (.iload_n 2, 1) := by decide +kernel
theorem dX6_swims_17 : decode cX6_swims 17 = .ok (.istore_n 3, 1) := by decide +kernel
theorem dX6_swims_18 : decode cX6_swims 18 = .ok (.aload_n 0, 1) := by decide +kernel
theorem dX6_swims_19 : decode cX6_swims 19 = .ok (.getfield 118, 3) := by decide +kernel
theorem dX6_swims_22 : decode cX6_swims 22 = .ok (.iload_n 1, 1) := by decide +kernel
theorem dX6_swims_23 : decode cX6_swims 23 = .ok (.invokestatic 130, 3) := by decide +kernel
theorem dX6_swims_26 : decode cX6_swims 26 = .ok (.ifCond .ne 24, 3) := by decide +kernel
theorem dX6_swims_29 : decode cX6_swims 29 = .ok (.aload_n 0, 1) := by decide +kernel
theorem dX6_swims_30 : decode cX6_swims 30 = .ok (.iload_n 1, 1) := by decide +kernel
theorem dX6_swims_31 : decode cX6_swims 31 = .ok (.invokevirtual 134, 3) := by decide +kernel
theorem dX6_swims_34 : decode cX6_swims 34 = .ok (.ifCond .eq 16, 3) := by decide +kernel
theorem dX6_swims_37 : decode cX6_swims 37 = .ok (.aload_n 0, 1) := by decide +kernel
theorem dX6_swims_38 : decode cX6_swims 38 = .ok (.iload_n 1, 1) := by decide +kernel
theorem dX6_swims_39 : decode cX6_swims 39 = .ok (.invokevirtual 138, 3) := by decide +kernel
theorem dX6_swims_42 : decode cX6_swims 42 = .ok (.iload_n 3, 1) := by decide +kernel
theorem dX6_swims_43 : decode cX6_swims 43 = .ok (.if_icmp .ge 7, 3) := by decide +kernel
theorem dX6_swims_46 : decode cX6_swims 46 = .ok (.iconst 1, 1) := by decide +kernel
theorem dX6_swims_47 : decode cX6_swims 47 = .ok (.goto 4, 3) := by decide +kernel
theorem dX6_swims_50 : decode cX6_swims 50 = .ok (.iconst 0, 1) := by decide +kernel
theorem dX6_swims_51 : decode cX6_swims 51 = .ok (.ireturn, 1) := by decide +kernel
theorem dX6_anyHears_0 : decode cX6_anyHears 0 = .ok (.iconst 0, 1) := by decide +kernel
theorem dX6_anyHears_1 : decode cX6_anyHears 1 = .ok (.istore_n 1, 1) := by decide +kernel
theorem dX6_anyHears_2 : decode cX6_anyHears 2 = .ok (.iconst 0, 1) := by decide +kernel
theorem dX6_anyHears_3 : decode cX6_anyHears 3 = .ok (.istore_n 2, 1) := by decide +kernel
theorem dX6_anyHears_4 : decode cX6_anyHears 4 = .ok (.iload_n 2, 1) := by decide +kernel
theorem dX6_anyHears_5 : decode cX6_anyHears 5 = .ok (.aload_n 0, 1) := by decide +kernel
theorem dX6_anyHears_6 : decode cX6_anyHears 6 = .ok (.getfield 106, 3) := by decide +kernel
theorem dX6_anyHears_9 : decode cX6_anyHears 9 = .ok (.if_icmp .ge 38, 3) := by decide +kernel
theorem dX6_anyHears_12 : decode cX6_anyHears 12 = .ok (.iload_n 1, 1) := by decide +kernel
theorem dX6_anyHears_13 : decode cX6_anyHears 13 = .ok (.ifCond .ne 22, 3) := by decide +kernel
theorem dX6_anyHears_16 : decode cX6_anyHears 16 = .ok (.aload_n 0, 1) := by decide +kernel
theorem dX6_anyHears_17 : decode cX6_anyHears 17 = .ok (.getfield 118, 3) := by decide +kernel
theorem dX6_anyHears_20 : decode cX6_anyHears 20 = .ok (.iload_n 2, 1) := by decide +kernel
theorem dX6_anyHears_21 : decode cX6_anyHears 21 = .ok (.invokestatic 130, 3) := by decide +kernel
theorem dX6_anyHears_24 : decode cX6_anyHears 24 = .ok (.ifCond .ne 15, 3) := by decide +kernel
theorem dX6_anyHears_27 : decode cX6_anyHears 27 = .ok (.aload_n 0, 1) := by decide +kernel
theorem dX6_anyHears_28 : decode cX6_anyHears 28 = .ok (.iload_n 2, 1) := by decide +kernel
theorem dX6_anyHears_29 : decode cX6_anyHears 29 = .ok (.invokevirtual 134, 3) := by decide +kernel
theorem dX6_anyHears_32 : decode cX6_anyHears 32 = .ok (.ifCond .eq 7, 3) := by decide +kernel
theorem dX6_anyHears_35 : decode cX6_anyHears 35 = .ok (.iconst 1, 1) := by decide +kernel
theorem dX6_anyHears_36 : decode cX6_anyHears 36 = .ok (.goto 4, 3) := by decide +kernel
theorem dX6_anyHears_39 : decode cX6_anyHears 39 = .ok (.iconst 0, 1) := by decide +kernel
theorem dX6_anyHears_40 : decode cX6_anyHears 40 = .ok (.istore_n 1, 1) := by decide +kernel
theorem dX6_anyHears_41 : decode cX6_anyHears 41 = .ok (.iinc 2 1, 3) := by decide +kernel
theorem dX6_anyHears_44 : decode cX6_anyHears 44 = .ok (.goto (-40), 3) := by decide +kernel
theorem dX6_anyHears_47 : decode cX6_anyHears 47 = .ok (.iload_n 1, 1) := by decide +kernel
theorem dX6_anyHears_48 : decode cX6_anyHears 48 = .ok (.ireturn, 1) := by decide +kernel
theorem dX6_anySees_0 : decode cX6_anySees 0 = .ok (.iconst 0, 1) := by decide +kernel
theorem dX6_anySees_1 : decode cX6_anySees 1 = .ok (.istore_n 1, 1) := by decide +kernel
theorem dX6_anySees_2 : decode cX6_anySees 2 = .ok (.iconst 0, 1) := by decide +kernel
theorem dX6_anySees_3 : decode cX6_anySees 3 = .ok (.istore_n 2, 1) := by decide +kernel
theorem dX6_anySees_4 : decode cX6_anySees 4 = .ok (.iload_n 2, 1) := by decide +kernel
theorem dX6_anySees_5 : decode cX6_anySees 5 = .ok (.aload_n 0, 1) := by decide +kernel
theorem dX6_anySees_6 : decode cX6_anySees 6 = .ok (.getfield 106, 3) := by decide +kernel
theorem dX6_anySees_9 : decode cX6_anySees 9 = .ok (.if_icmp .ge 69, 3) := by decide +kernel
theorem dX6_anySees_12 : decode cX6_anySees 12 = .ok (.aload_n 0, 1) := by decide +kernel
theorem dX6_anySees_13 : decode cX6_anySees 13 = .ok (.getfield 16, 3) := by decide +kernel
theorem dX6_anySees_16 : decode cX6_anySees 16 = .ok (.iload_n 2, 1) := by decide +kernel
theorem dX6_anySees_17 : decode cX6_anySees 17 = .ok (.iaload, 1) := by decide +kernel
theorem dX6_anySees_18 : decode cX6_anySees 18 = .ok (.iconst 3, 1) := by decide +kernel
theorem dX6_anySees_19 : decode cX6_anySees 19 = .ok (.if_icmp .eq 13, 3) := by decide +kernel
theorem dX6_anySees_22 : decode cX6_anySees 22 = .ok (.aload_n 0, 1) := by decide +kernel
theorem dX6_anySees_23 : decode cX6_anySees 23 = .ok (.getfield 16, 3) := by decide +kernel
theorem dX6_anySees_26 : decode cX6_anySees 26 = .ok (.iload_n 2, 1) := by decide +kernel
theorem dX6_anySees_27 : decode cX6_anySees 27 = .ok (.iaload, 1) := by decide +kernel
theorem dX6_anySees_28 : decode cX6_anySees 28 = .ok (.iconst 4, 1) := by decide +kernel
theorem dX6_anySees_29 : decode cX6_anySees 29 = .ok (.if_icmp .ne 7, 3) := by decide +kernel
theorem dX6_anySees_32 : decode cX6_anySees 32 = .ok (.iconst 1, 1) := by decide +kernel
theorem dX6_anySees_33 : decode cX6_anySees 33 = .ok (.goto 4, 3) := by decide +kernel
theorem dX6_anySees_36 : decode cX6_anySees 36 = .ok (.iconst 0, 1) := by decide +kernel
theorem dX6_anySees_37 : decode cX6_anySees 37 = .ok (.istore_n 3, 1) := by decide +kernel
theorem dX6_anySees_38 : decode cX6_anySees 38 = .ok (.iload_n 1, 1) := by decide +kernel
theorem dX6_anySees_39 : decode cX6_anySees 39 = .ok (.ifCond .ne 27, 3) := by decide +kernel
theorem dX6_anySees_42 : decode cX6_anySees 42 = .ok (.aload_n 0, 1) := by decide +kernel
theorem dX6_anySees_43 : decode cX6_anySees 43 = .ok (.getfield 118, 3) := by decide +kernel
theorem dX6_anySees_46 : decode cX6_anySees 46 = .ok (.iload_n 2, 1) := by decide +kernel
theorem dX6_anySees_47 : decode cX6_anySees 47 = .ok (.invokestatic 130, 3) := by decide +kernel
theorem dX6_anySees_50 : decode cX6_anySees 50 = .ok (.ifCond .ne 20, 3) := by decide +kernel
theorem dX6_anySees_53 : decode cX6_anySees 53 = .ok (.iload_n 3, 1) := by decide +kernel
theorem dX6_anySees_54 : decode cX6_anySees 54 = .ok (.ifCond .eq 16, 3) := by decide +kernel
theorem dX6_anySees_57 : decode cX6_anySees 57 = .ok (.aload_n 0, 1) := by decide +kernel
theorem dX6_anySees_58 : decode cX6_anySees 58 = .ok (.getfield 25, 3) := by decide +kernel
theorem dX6_anySees_61 : decode cX6_anySees 61 = .ok (.iload_n 2, 1) := by decide +kernel
theorem dX6_anySees_62 : decode cX6_anySees 62 = .ok (.iaload, 1) := by decide +kernel
theorem dX6_anySees_63 : decode cX6_anySees 63 = .ok (.ifCond .ne 7, 3) := by decide +kernel
theorem dX6_anySees_66 : decode cX6_anySees 66 = .ok (.iconst 1, 1) := by decide +kernel
theorem dX6_anySees_67 : decode cX6_anySees 67 = .ok (.goto 4, 3) := by decide +kernel
theorem dX6_anySees_70 : decode cX6_anySees 70 = .ok (.iconst 0, 1) := by decide +kernel
theorem dX6_anySees_71 : decode cX6_anySees 71 = .ok (.istore_n 1, 1) := by decide +kernel
theorem dX6_anySees_72 : decode cX6_anySees 72 = .ok (.iinc 2 1, 3) := by decide +kernel
theorem dX6_anySees_75 : decode cX6_anySees 75 = .ok (.goto (-71), 3) := by decide +kernel
theorem dX6_anySees_78 : decode cX6_anySees 78 = .ok (.iload_n 1, 1) := by decide +kernel
theorem dX6_anySees_79 : decode cX6_anySees 79 = .ok (.ireturn, 1) := by decide +kernel
theorem dX6_oars_0 : decode cX6_oars 0 = .ok (.iconst 0, 1) := by decide +kernel
theorem dX6_oars_1 : decode cX6_oars 1 = .ok (.istore_n 1, 1) := by decide +kernel
theorem dX6_oars_2 : decode cX6_oars 2 = .ok (.iconst 0, 1) := by decide +kernel
theorem dX6_oars_3 : decode cX6_oars 3 = .ok (.istore_n 2, 1) := by decide +kernel
theorem dX6_oars_4 : decode cX6_oars 4 = .ok (.iload_n 2, 1) := by decide +kernel
theorem dX6_oars_5 : decode cX6_oars 5 = .ok (.aload_n 0, 1) := by decide +kernel
theorem dX6_oars_6 : decode cX6_oars 6 = .ok (.getfield 106, 3) := by decide +kernel
theorem dX6_oars_9 : decode cX6_oars 9 = .ok (.if_icmp .ge 42, 3) := by decide +kernel
theorem dX6_oars_12 : decode cX6_oars 12 = .ok (.iload_n 1, 1) := by decide +kernel
theorem dX6_oars_13 : decode cX6_oars 13 = .ok (.aload_n 0, 1) := by decide +kernel
theorem dX6_oars_14 : decode cX6_oars 14 = .ok (.getfield 118, 3) := by decide +kernel
theorem dX6_oars_17 : decode cX6_oars 17 = .ok (.iload_n 2, 1) := by decide +kernel
theorem dX6_oars_18 : decode cX6_oars 18 = .ok (.invokestatic 130, 3) := by decide +kernel
theorem dX6_oars_21 : decode cX6_oars 21 = .ok (.ifCond .ne 21, 3) := by decide +kernel
theorem dX6_oars_24 : decode cX6_oars 24 = .ok (.aload_n 0, 1) := by decide +kernel
theorem dX6_oars_25 : decode cX6_oars 25 = .ok (.getfield 25, 3) := by decide +kernel
theorem dX6_oars_28 : decode cX6_oars 28 = .ok (.iload_n 2, 1) := by decide +kernel
theorem dX6_oars_29 : decode cX6_oars 29 = .ok (.iaload, 1) := by decide +kernel
theorem dX6_oars_30 : decode cX6_oars 30 = .ok (.ifCond .ne 12, 3) := by decide +kernel
theorem dX6_oars_33 : decode cX6_oars 33 = .ok (.aload_n 0, 1) := by decide +kernel
theorem dX6_oars_34 : decode cX6_oars 34 = .ok (.getfield 19, 3) := by decide +kernel
theorem dX6_oars_37 : decode cX6_oars 37 = .ok (.iload_n 2, 1) := by decide +kernel
theorem dX6_oars_38 : decode cX6_oars 38 = .ok (.iaload, 1) := by decide +kernel
theorem dX6_oars_39 : decode cX6_oars 39 = .ok (.goto 4, 3) := by decide +kernel
theorem dX6_oars_42 : decode cX6_oars 42 = .ok (.iconst 0, 1) := by decide +kernel
theorem dX6_oars_43 : decode cX6_oars 43 = .ok (.iadd, 1) := by decide +kernel
theorem dX6_oars_44 : decode cX6_oars 44 = .ok (.istore_n 1, 1) := by decide +kernel
theorem dX6_oars_45 : decode cX6_oars 45 = .ok (.iinc 2 1, 3) := by decide +kernel
theorem dX6_oars_48 : decode cX6_oars 48 = .ok (.goto (-44), 3) := by decide +kernel
theorem dX6_oars_51 : decode cX6_oars 51 = .ok (.iload_n 1, 1) := by decide +kernel
theorem dX6_oars_52 : decode cX6_oars 52 = .ok (.ireturn, 1) := by decide +kernel
theorem dX6_goStroke_0 : decode cX6_goStroke 0 = .ok (.aload_n 0, 1) := by decide +kernel
theorem dX6_goStroke_1 : decode cX6_goStroke 1 = .ok (.iconst 0, 1) := by decide +kernel
theorem dX6_goStroke_2 : decode cX6_goStroke 2 = .ok (.putfield 147, 3) := by decide +kernel
theorem dX6_goStroke_5 : decode cX6_goStroke 5 = .ok (.iconst 0, 1) := by decide +kernel
theorem dX6_goStroke_6 : decode cX6_goStroke 6 = .ok (.istore_n 1, 1) := by decide +kernel
theorem dX6_goStroke_7 : decode cX6_goStroke 7 = .ok (.iload_n 1, 1) := by decide +kernel
theorem dX6_goStroke_8 : decode cX6_goStroke 8 = .ok (.aload_n 0, 1) := by decide +kernel
theorem dX6_goStroke_9 : decode cX6_goStroke 9 = .ok (.getfield 106, 3) := by decide +kernel
theorem dX6_goStroke_12 : decode cX6_goStroke 12 = .ok (.if_icmp .ge 54, 3) := by decide +kernel
theorem dX6_goStroke_15 : decode cX6_goStroke 15 = .ok (.aload_n 0, 1) := by decide +kernel
theorem dX6_goStroke_16 : decode cX6_goStroke 16 = .ok (.dup, 1) := by decide +kernel
theorem dX6_goStroke_17 : decode cX6_goStroke 17 = .ok (.getfield 147, 3) := by decide +kernel
theorem dX6_goStroke_20 : decode cX6_goStroke 20 = .ok (.aload_n 0, 1) := by decide +kernel
theorem dX6_goStroke_21 : decode cX6_goStroke 21 = .ok (.getfield 7, 3) := by decide +kernel
theorem dX6_goStroke_24 : decode cX6_goStroke 24 = .ok (.aload_n 0, 1) := by decide +kernel
theorem dX6_goStroke_25 : decode cX6_goStroke 25 = .ok (.getfield 121, 3) := by decide +kernel
theorem dX6_goStroke_28 : decode cX6_goStroke 28 = .ok (.iaload, 1) := by decide +kernel
theorem dX6_goStroke_29 : decode cX6_goStroke 29 = .ok (.ifCond .le 26, 3) := by decide +kernel
theorem dX6_goStroke_32 : decode cX6_goStroke 32 = .ok (.aload_n 0, 1) := by decide +kernel
theorem dX6_goStroke_33 : decode cX6_goStroke 33 = .ok (.iload_n 1, 1) := by decide +kernel
theorem dX6_goStroke_34 : decode cX6_goStroke 34 = .ok (.aload_n 0, 1) := by decide +kernel
theorem dX6_goStroke_35 : decode cX6_goStroke 35 = .ok (.getfield 7, 3) := by decide +kernel
theorem dX6_goStroke_38 : decode cX6_goStroke 38 = .ok (.aload_n 0, 1) := by decide +kernel
theorem dX6_goStroke_39 : decode cX6_goStroke 39 = .ok (.getfield 121, 3) := by decide +kernel
theorem dX6_goStroke_42 : decode cX6_goStroke 42 = .ok (.iaload, 1) := by decide +kernel
theorem dX6_goStroke_43 : decode cX6_goStroke 43 = .ok (.invokevirtual 150, 3) := by decide +kernel
theorem dX6_goStroke_46 : decode cX6_goStroke 46 = .ok (.ifCond .eq 9, 3) := by decide +kernel
theorem dX6_goStroke_49 : decode cX6_goStroke 49 = .ok (.iconst 1, 1) := by decide +kernel
theorem dX6_goStroke_50 : decode cX6_goStroke 50 = .ok (.iload_n 1, 1) := by decide +kernel
theorem dX6_goStroke_51 : decode cX6_goStroke 51 = .ok (.ishl, 1) := by decide +kernel
theorem dX6_goStroke_52 : decode cX6_goStroke 52 = .ok (.goto 4, 3) := by decide +kernel
theorem dX6_goStroke_55 : decode cX6_goStroke 55 = .ok (.iconst 0, 1) := by decide +kernel
theorem dX6_goStroke_56 : decode cX6_goStroke 56 = .ok (.ior, 1) := by decide +kernel
theorem dX6_goStroke_57 : decode cX6_goStroke 57 = .ok (.putfield 147, 3) := by decide +kernel
theorem dX6_goStroke_60 : decode cX6_goStroke 60 = .ok (.iinc 1 1, 3) := by decide +kernel
theorem dX6_goStroke_63 : decode cX6_goStroke 63 = .ok (.goto (-56), 3) := by decide +kernel
theorem dX6_goStroke_66 : decode cX6_goStroke 66 = .ok (.aload_n 0, 1) := by decide +kernel
theorem dX6_goStroke_67 : decode cX6_goStroke 67 = .ok (.dup, 1) := by decide +kernel
theorem dX6_goStroke_68 : decode cX6_goStroke 68 = .ok (.getfield 118, 3) := by decide +kernel
theorem dX6_goStroke_71 : decode cX6_goStroke 71 = .ok (.aload_n 0, 1) := by decide +kernel
theorem dX6_goStroke_72 : decode cX6_goStroke 72 = .ok (.getfield 147, 3) := by decide +kernel
theorem dX6_goStroke_75 : decode cX6_goStroke 75 = .ok (.ior, 1) := by decide +kernel
theorem dX6_goStroke_76 : decode cX6_goStroke 76 = .ok (.putfield 118, 3) := by decide +kernel
theorem dX6_goStroke_79 : decode cX6_goStroke 79 = .ok (.aload_n 0, 1) := by decide +kernel
theorem dX6_goStroke_80 : decode cX6_goStroke 80 = .ok (.getfield 118, 3) := by decide +kernel
theorem dX6_goStroke_83 : decode cX6_goStroke 83 = .ok (.aload_n 0, 1) := by decide +kernel
theorem dX6_goStroke_84 : decode cX6_goStroke 84 = .ok (.invokevirtual 153, 3) := by decide +kernel
theorem dX6_goStroke_87 : decode cX6_goStroke 87 = .ok (.if_icmp .ne 11, 3) := by decide +kernel
theorem dX6_goStroke_90 : decode cX6_goStroke 90 = .ok (.aload_n 0, 1) := by decide +kernel
theorem dX6_goStroke_91 : decode cX6_goStroke 91 = .ok (.iconst 3, 1) := by decide +kernel
theorem dX6_goStroke_92 : decode cX6_goStroke 92 = .ok (.putfield 127, 3) := by decide +kernel
theorem dX6_goStroke_95 : decode cX6_goStroke 95 = .ok (.goto 113, 3) := by decide +kernel
theorem dX6_goStroke_98 : decode cX6_goStroke 98 = .ok (.aload_n 0, 1) := by decide +kernel
theorem dX6_goStroke_99 : decode cX6_goStroke 99 = .ok (.getfield 13, 3) := by decide +kernel
theorem dX6_goStroke_102 : decode cX6_goStroke 102 = .ok (.aload_n 0, 1) := by decide +kernel
theorem dX6_goStroke_103 : decode cX6_goStroke 103 = .ok (.getfield 121, 3) := by decide +kernel
theorem dX6_goStroke_106 : decode cX6_goStroke 106 = .ok (.iaload, 1) := by decide +kernel
theorem dX6_goStroke_107 : decode cX6_goStroke 107 = .ok (.iconst 1, 1) := by decide +kernel
theorem dX6_goStroke_108 : decode cX6_goStroke 108 = .ok (.if_icmp .ne 10, 3) := by decide +kernel
theorem dX6_goStroke_111 : decode cX6_goStroke 111 = .ok (.aload_n 0, 1) := by decide +kernel
theorem dX6_goStroke_112 : decode cX6_goStroke 112 = .ok (.invokevirtual 157, 3) := by decide +kernel
theorem dX6_goStroke_115 : decode cX6_goStroke 115 = .ok (.ifCond .eq 23, 3) := by decide +kernel
theorem dX6_goStroke_118 : decode cX6_goStroke 118 = .ok (.aload_n 0, 1) := by decide +kernel
theorem dX6_goStroke_119 : decode cX6_goStroke 119 = .ok (.getfield 13, 3) := by decide +kernel
theorem dX6_goStroke_122 : decode cX6_goStroke 122 = .ok (.aload_n 0, 1) := by decide +kernel
theorem dX6_goStroke_123 : decode cX6_goStroke 123 = .ok (.getfield 121, 3) := by decide +kernel
theorem dX6_goStroke_126 : decode cX6_goStroke 126 = .ok (.iaload, 1) := by decide +kernel
theorem dX6_goStroke_127 : decode cX6_goStroke 127 = .ok (.iconst 2, 1) := by decide +kernel
theorem dX6_goStroke_128 : decode cX6_goStroke 128 = .ok (.if_icmp .ne 26, 3) := by decide +kernel
theorem dX6_goStroke_131 : decode cX6_goStroke 131 = .ok (.aload_n 0, 1) := by decide +kernel
theorem dX6_goStroke_132 : decode cX6_goStroke 132 = .ok (.invokevirtual 161, 3) := by decide +kernel
theorem dX6_goStroke_135 : decode cX6_goStroke 135 = .ok (.ifCond .ne 19, 3) := by decide +kernel
theorem dX6_goStroke_138 : decode cX6_goStroke 138 = .ok (.aload_n 0, 1) := by decide +kernel
theorem dX6_goStroke_139 : decode cX6_goStroke 139 = .ok (.iconst 2, 1) := by decide +kernel
theorem dX6_goStroke_140 : decode cX6_goStroke 140 = .ok (.putfield 127, 3) := by decide +kernel
theorem dX6_goStroke_143 : decode cX6_goStroke 143 = .ok (.aload_n 0, 1) := by decide +kernel
theorem dX6_goStroke_144 : decode cX6_goStroke 144 = .ok (.aload_n 0, 1) := by decide +kernel
theorem dX6_goStroke_145 : decode cX6_goStroke 145 = .ok (.invokevirtual 153, 3) := by decide +kernel
theorem dX6_goStroke_148 : decode cX6_goStroke 148 = .ok (.putfield 118, 3) := by decide +kernel
theorem dX6_goStroke_151 : decode cX6_goStroke 151 = .ok (.goto 57, 3) := by decide +kernel
theorem dX6_goStroke_154 : decode cX6_goStroke 154 = .ok (.aload_n 0, 1) := by decide +kernel
theorem dX6_goStroke_155 : decode cX6_goStroke 155 = .ok (.invokevirtual 164, 3) := by decide +kernel
theorem dX6_goStroke_158 : decode cX6_goStroke 158 = .ok (.aload_n 0, 1) := by decide +kernel
theorem dX6_goStroke_159 : decode cX6_goStroke 159 = .ok (.getfield 91, 3) := by decide +kernel
theorem dX6_goStroke_162 : decode cX6_goStroke 162 = .ok (.if_icmp .lt 46, 3) := by decide +kernel
theorem dX6_goStroke_165 : decode cX6_goStroke 165 = .ok (.aload_n 0, 1) := by decide +kernel
theorem dX6_goStroke_166 : decode cX6_goStroke 166 = .ok (.aload_n 0, 1) := by decide +kernel
theorem dX6_goStroke_167 : decode cX6_goStroke 167 = .ok (.getfield 121, 3) := by decide +kernel
theorem dX6_goStroke_170 : decode cX6_goStroke 170 = .ok (.aload_n 0, 1) := by decide +kernel
theorem dX6_goStroke_171 : decode cX6_goStroke 171 = .ok (.getfield 97, 3) := by decide +kernel
theorem dX6_goStroke_174 : decode cX6_goStroke 174 = .ok (.iconst 1, 1) := by decide +kernel
theorem dX6_goStroke_175 : decode cX6_goStroke 175 = .ok (.isub, 1) := by decide +kernel
theorem dX6_goStroke_176 : decode cX6_goStroke 176 = .ok (.if_icmp .ne 7, 3) := by decide +kernel
theorem dX6_goStroke_179 : decode cX6_goStroke 179 = .ok (.iconst 1, 1) := by decide +kernel
theorem dX6_goStroke_180 : decode cX6_goStroke 180 = .ok (.goto 4, 3) := by decide +kernel
theorem dX6_goStroke_183 : decode cX6_goStroke 183 = .ok (.iconst 0, 1) := by decide +kernel
theorem dX6_goStroke_184 : decode cX6_goStroke 184 = .ok (.putfield 127, 3) := by decide +kernel
theorem dX6_goStroke_187 : decode cX6_goStroke 187 = .ok (.aload_n 0, 1) := by decide +kernel
theorem dX6_goStroke_188 : decode cX6_goStroke 188 = .ok (.dup, 1) := by decide +kernel
theorem dX6_goStroke_189 : decode cX6_goStroke 189 = .ok (.getfield 121, 3) := by decide +kernel
theorem dX6_goStroke_192 : decode cX6_goStroke 192 = .ok (.aload_n 0, 1) := by decide +kernel
theorem dX6_goStroke_193 : decode cX6_goStroke 193 = .ok (.getfield 127, 3) := by decide +kernel
theorem dX6_goStroke_196 : decode cX6_goStroke 196 = .ok (.ifCond .ne 7, 3) := by decide +kernel
theorem dX6_goStroke_199 : decode cX6_goStroke 199 = .ok (.iconst 1, 1) := by decide +kernel
theorem dX6_goStroke_200 : decode cX6_goStroke 200 = .ok (.goto 4, 3) := by decide +kernel
theorem dX6_goStroke_203 : decode cX6_goStroke 203 = .ok (.iconst 0, 1) := by decide +kernel
theorem dX6_goStroke_204 : decode cX6_goStroke 204 = .ok (.iadd, 1) := by decide +kernel
theorem dX6_goStroke_205 : decode cX6_goStroke 205 = .ok (.putfield 121, 3) := by decide +kernel
theorem dX6_goStroke_208 : decode cX6_goStroke 208 = .ok (.aload_n 0, 1) := by decide +kernel
theorem dX6_goStroke_209 : decode cX6_goStroke 209 = .ok (.dup, 1) := by decide +kernel
theorem dX6_goStroke_210 : decode cX6_goStroke 210 = .ok (.getfield 124, 3) := by decide +kernel
theorem dX6_goStroke_213 : decode cX6_goStroke 213 = .ok (.iconst 1, 1) := by decide +kernel
theorem dX6_goStroke_214 : decode cX6_goStroke 214 = .ok (.iadd, 1) := by decide +kernel
theorem dX6_goStroke_215 : decode cX6_goStroke 215 = .ok (.putfield 124, 3) := by decide +kernel
theorem dX6_goStroke_218 : decode cX6_goStroke 218 = .ok (.return_, 1) := by decide +kernel
theorem dX6_isOn_0 : decode cX6_isOn 0 = .ok (.aload_n 0, 1) := by decide +kernel
theorem dX6_isOn_1 : decode cX6_isOn 1 = .ok (.getfield 100, 3) := by decide +kernel
theorem dX6_isOn_4 : decode cX6_isOn 4 = .ok (.ifCond .eq 21, 3) := by decide +kernel
theorem dX6_isOn_7 : decode cX6_isOn 7 = .ok (.aload_n 0, 1) := by decide +kernel
theorem dX6_isOn_8 : decode cX6_isOn 8 = .ok (.getfield 106, 3) := by decide +kernel
theorem dX6_isOn_11 : decode cX6_isOn 11 = .ok (.ifCond .le 14, 3) := by decide +kernel
theorem dX6_isOn_14 : decode cX6_isOn 14 = .ok (.aload_n 0, 1) := by decide +kernel
theorem dX6_isOn_15 : decode cX6_isOn 15 = .ok (.getfield 127, 3) := by decide +kernel
theorem dX6_isOn_18 : decode cX6_isOn 18 = .ok (.ifCond .ne 7, 3) := by decide +kernel
theorem dX6_isOn_21 : decode cX6_isOn 21 = .ok (.iconst 1, 1) := by decide +kernel
theorem dX6_isOn_22 : decode cX6_isOn 22 = .ok (.goto 4, 3) := by decide +kernel
theorem dX6_isOn_25 : decode cX6_isOn 25 = .ok (.iconst 0, 1) := by decide +kernel
theorem dX6_isOn_26 : decode cX6_isOn 26 = .ok (.ireturn, 1) := by decide +kernel
theorem dX6_stroke_0 : decode cX6_stroke 0 = .ok (.aload_n 0, 1) := by decide +kernel
theorem dX6_stroke_1 : decode cX6_stroke 1 = .ok (.invokevirtual 167, 3) := by decide +kernel
theorem dX6_stroke_4 : decode cX6_stroke 4 = .ok (.ifCond .ne 6, 3) := by decide +kernel
theorem dX6_stroke_7 : decode cX6_stroke 7 = .ok (.bipush (-103), 2) := by decide +kernel
theorem dX6_stroke_9 : decode cX6_stroke 9 = .ok (.ireturn, 1) := by decide +kernel
theorem dX6_stroke_10 : decode cX6_stroke 10 = .ok (.aload_n 0, 1) := by decide +kernel
theorem dX6_stroke_11 : decode cX6_stroke 11 = .ok (.invokevirtual 170, 3) := by decide +kernel
theorem dX6_stroke_14 : decode cX6_stroke 14 = .ok (.aload_n 0, 1) := by decide +kernel
theorem dX6_stroke_15 : decode cX6_stroke 15 = .ok (.getfield 127, 3) := by decide +kernel
theorem dX6_stroke_18 : decode cX6_stroke 18 = .ok (.ifCond .ne 10, 3) := by decide +kernel
theorem dX6_stroke_21 : decode cX6_stroke 21 = .ok (.aload_n 0, 1) := by decide +kernel
theorem dX6_stroke_22 : decode cX6_stroke 22 = .ok (.getfield 121, 3) := by decide +kernel
theorem dX6_stroke_25 : decode cX6_stroke 25 = .ok (.goto 4, 3) := by decide +kernel
theorem dX6_stroke_28 : decode cX6_stroke 28 = .ok (.iconst (-1), 1) := by decide +kernel
theorem dX6_stroke_29 : decode cX6_stroke 29 = .ok (.ireturn, 1) := by decide +kernel
theorem dX6_save_0 : decode cX6_save 0 = .ok (.aload_n 0, 1) := by decide +kernel
theorem dX6_save_1 : decode cX6_save 1 = .ok (.aload_n 0, 1) := by decide +kernel
theorem dX6_save_2 : decode cX6_save 2 = .ok (.getfield 112, 3) := by decide +kernel
theorem dX6_save_5 : decode cX6_save 5 = .ok (.putfield 173, 3) := by decide +kernel
theorem dX6_save_8 : decode cX6_save 8 = .ok (.aload_n 0, 1) := by decide +kernel
theorem dX6_save_9 : decode cX6_save 9 = .ok (.aload_n 0, 1) := by decide +kernel
theorem dX6_save_10 : decode cX6_save 10 = .ok (.getfield 118, 3) := by decide +kernel
theorem dX6_save_13 : decode cX6_save 13 = .ok (.putfield 176, 3) := by decide +kernel
theorem dX6_save_16 : decode cX6_save 16 = .ok (.aload_n 0, 1) := by decide +kernel
theorem dX6_save_17 : decode cX6_save 17 = .ok (.aload_n 0, 1) := by decide +kernel
theorem dX6_save_18 : decode cX6_save 18 = .ok (.getfield 121, 3) := by decide +kernel
theorem dX6_save_21 : decode cX6_save 21 = .ok (.putfield 179, 3) := by decide +kernel
theorem dX6_save_24 : decode cX6_save 24 = .ok (.aload_n 0, 1) := by decide +kernel
theorem dX6_save_25 : decode cX6_save 25 = .ok (.aload_n 0, 1) := by decide +kernel
theorem dX6_save_26 : decode cX6_save 26 = .ok (.getfield 124, 3) := by decide +kernel
theorem dX6_save_29 : decode cX6_save 29 = .ok (.putfield 182, 3) := by decide +kernel
theorem dX6_save_32 : decode cX6_save 32 = .ok (.aload_n 0, 1) := by decide +kernel
theorem dX6_save_33 : decode cX6_save 33 = .ok (.aload_n 0, 1) := by decide +kernel
theorem dX6_save_34 : decode cX6_save 34 = .ok (.getfield 127, 3) := by decide +kernel
theorem dX6_save_37 : decode cX6_save 37 = .ok (.putfield 185, 3) := by decide +kernel
theorem dX6_save_40 : decode cX6_save 40 = .ok (.iconst 0, 1) := by decide +kernel
theorem dX6_save_41 : decode cX6_save 41 = .ok (.istore_n 1, 1) := by decide +kernel
theorem dX6_save_42 : decode cX6_save 42 = .ok (.iload_n 1, 1) := by decide +kernel
theorem dX6_save_43 : decode cX6_save 43 = .ok (.iconst 5, 1) := by decide +kernel
theorem dX6_save_44 : decode cX6_save 44 = .ok (.if_icmp .ge 21, 3) := by decide +kernel
theorem dX6_save_47 : decode cX6_save 47 = .ok (.aload_n 0, 1) := by decide +kernel
theorem dX6_save_48 : decode cX6_save 48 = .ok (.getfield 41, 3) := by decide +kernel
theorem dX6_save_51 : decode cX6_save 51 = .ok (.iload_n 1, 1) := by decide +kernel
theorem dX6_save_52 : decode cX6_save 52 = .ok (.aload_n 0, 1) := by decide +kernel
theorem dX6_save_53 : decode cX6_save 53 = .ok (.getfield 25, 3) := by decide +kernel
theorem dX6_save_56 : decode cX6_save 56 = .ok (.iload_n 1, 1) := by decide +kernel
theorem dX6_save_57 : decode cX6_save 57 = .ok (.iaload, 1) := by decide +kernel
theorem dX6_save_58 : decode cX6_save 58 = .ok (.iastore, 1) := by decide +kernel
theorem dX6_save_59 : decode cX6_save 59 = .ok (.iinc 1 1, 3) := by decide +kernel
theorem dX6_save_62 : decode cX6_save 62 = .ok (.goto (-20), 3) := by decide +kernel
theorem dX6_save_65 : decode cX6_save 65 = .ok (.iconst 0, 1) := by decide +kernel
theorem dX6_save_66 : decode cX6_save 66 = .ok (.istore_n 1, 1) := by decide +kernel
theorem dX6_save_67 : decode cX6_save 67 = .ok (.iload_n 1, 1) := by decide +kernel
theorem dX6_save_68 : decode cX6_save 68 = .ok (.bipush 12, 2) := by decide +kernel
theorem dX6_save_70 : decode cX6_save 70 = .ok (.if_icmp .ge 21, 3) := by decide +kernel
theorem dX6_save_73 : decode cX6_save 73 = .ok (.aload_n 0, 1) := by decide +kernel
theorem dX6_save_74 : decode cX6_save 74 = .ok (.getfield 44, 3) := by decide +kernel
theorem dX6_save_77 : decode cX6_save 77 = .ok (.iload_n 1, 1) := by decide +kernel
theorem dX6_save_78 : decode cX6_save 78 = .ok (.aload_n 0, 1) := by decide +kernel
theorem dX6_save_79 : decode cX6_save 79 = .ok (.getfield 7, 3) := by decide +kernel
theorem dX6_save_82 : decode cX6_save 82 = .ok (.iload_n 1, 1) := by decide +kernel
theorem dX6_save_83 : decode cX6_save 83 = .ok (.iaload, 1) := by decide +kernel
theorem dX6_save_84 : decode cX6_save 84 = .ok (.iastore, 1) := by decide +kernel
theorem dX6_save_85 : decode cX6_save 85 = .ok (.iinc 1 1, 3) := by decide +kernel
theorem dX6_save_88 : decode cX6_save 88 = .ok (.goto (-21), 3) := by decide +kernel
theorem dX6_save_91 : decode cX6_save 91 = .ok (.return_, 1) := by decide +kernel
theorem dX6_back_0 : decode cX6_back 0 = .ok (.aload_n 0, 1) := by decide +kernel
theorem dX6_back_1 : decode cX6_back 1 = .ok (.aload_n 0, 1) := by decide +kernel
theorem dX6_back_2 : decode cX6_back 2 = .ok (.getfield 173, 3) := by decide +kernel
theorem dX6_back_5 : decode cX6_back 5 = .ok (.putfield 112, 3) := by decide +kernel
theorem dX6_back_8 : decode cX6_back 8 = .ok (.aload_n 0, 1) := by decide +kernel
theorem dX6_back_9 : decode cX6_back 9 = .ok (.aload_n 0, 1) := by decide +kernel
theorem dX6_back_10 : decode cX6_back 10 = .ok (.getfield 176, 3) := by decide +kernel
theorem dX6_back_13 : decode cX6_back 13 = .ok (.putfield 118, 3) := by decide +kernel
theorem dX6_back_16 : decode cX6_back 16 = .ok (.aload_n 0, 1) := by decide +kernel
theorem dX6_back_17 : decode cX6_back 17 = .ok (.aload_n 0, 1) := by decide +kernel
theorem dX6_back_18 : decode cX6_back 18 = .ok (.getfield 179, 3) := by decide +kernel
theorem dX6_back_21 : decode cX6_back 21 = .ok (.putfield 121, 3) := by decide +kernel
theorem dX6_back_24 : decode cX6_back 24 = .ok (.aload_n 0, 1) := by decide +kernel
theorem dX6_back_25 : decode cX6_back 25 = .ok (.aload_n 0, 1) := by decide +kernel
theorem dX6_back_26 : decode cX6_back 26 = .ok (.getfield 182, 3) := by decide +kernel
theorem dX6_back_29 : decode cX6_back 29 = .ok (.putfield 124, 3) := by decide +kernel
theorem dX6_back_32 : decode cX6_back 32 = .ok (.aload_n 0, 1) := by decide +kernel
theorem dX6_back_33 : decode cX6_back 33 = .ok (.aload_n 0, 1) := by decide +kernel
theorem dX6_back_34 : decode cX6_back 34 = .ok (.getfield 185, 3) := by decide +kernel
theorem dX6_back_37 : decode cX6_back 37 = .ok (.putfield 127, 3) := by decide +kernel
theorem dX6_back_40 : decode cX6_back 40 = .ok (.iconst 0, 1) := by decide +kernel
theorem dX6_back_41 : decode cX6_back 41 = .ok (.istore_n 1, 1) := by decide +kernel
theorem dX6_back_42 : decode cX6_back 42 = .ok (.iload_n 1, 1) := by decide +kernel
theorem dX6_back_43 : decode cX6_back 43 = .ok (.iconst 5, 1) := by decide +kernel
theorem dX6_back_44 : decode cX6_back 44 = .ok (.if_icmp .ge 21, 3) := by decide +kernel
theorem dX6_back_47 : decode cX6_back 47 = .ok (.aload_n 0, 1) := by decide +kernel
theorem dX6_back_48 : decode cX6_back 48 = .ok (.getfield 25, 3) := by decide +kernel
theorem dX6_back_51 : decode cX6_back 51 = .ok (.iload_n 1, 1) := by decide +kernel
theorem dX6_back_52 : decode cX6_back 52 = .ok (.aload_n 0, 1) := by decide +kernel
theorem dX6_back_53 : decode cX6_back 53 = .ok (.getfield 41, 3) := by decide +kernel
theorem dX6_back_56 : decode cX6_back 56 = .ok (.iload_n 1, 1) := by decide +kernel
theorem dX6_back_57 : decode cX6_back 57 = .ok (.iaload, 1) := by decide +kernel
theorem dX6_back_58 : decode cX6_back 58 = .ok (.iastore, 1) := by decide +kernel
theorem dX6_back_59 : decode cX6_back 59 = .ok (.iinc 1 1, 3) := by decide +kernel
theorem dX6_back_62 : decode cX6_back 62 = .ok (.goto (-20), 3) := by decide +kernel
theorem dX6_back_65 : decode cX6_back 65 = .ok (.iconst 0, 1) := by decide +kernel
theorem dX6_back_66 : decode cX6_back 66 = .ok (.istore_n 1, 1) := by decide +kernel
theorem dX6_back_67 : decode cX6_back 67 = .ok (.iload_n 1, 1) := by decide +kernel
theorem dX6_back_68 : decode cX6_back 68 = .ok (.bipush 12, 2) := by decide +kernel
theorem dX6_back_70 : decode cX6_back 70 = .ok (.if_icmp .ge 21, 3) := by decide +kernel
theorem dX6_back_73 : decode cX6_back 73 = .ok (.aload_n 0, 1) := by decide +kernel
theorem dX6_back_74 : decode cX6_back 74 = .ok (.getfield 7, 3) := by decide +kernel
theorem dX6_back_77 : decode cX6_back 77 = .ok (.iload_n 1, 1) := by decide +kernel
theorem dX6_back_78 : decode cX6_back 78 = .ok (.aload_n 0, 1) := by decide +kernel
theorem dX6_back_79 : decode cX6_back 79 = .ok (.getfield 44, 3) := by decide +kernel
theorem dX6_back_82 : decode cX6_back 82 = .ok (.iload_n 1, 1) := by decide +kernel
theorem dX6_back_83 : decode cX6_back 83 = .ok (.iaload, 1) := by decide +kernel
theorem dX6_back_84 : decode cX6_back 84 = .ok (.iastore, 1) := by decide +kernel
theorem dX6_back_85 : decode cX6_back 85 = .ok (.iinc 1 1, 3) := by decide +kernel
theorem dX6_back_88 : decode cX6_back 88 = .ok (.goto (-21), 3) := by decide +kernel
theorem dX6_back_91 : decode cX6_back 91 = .ok (.return_, 1) := by decide +kernel
theorem dX6_goOn_0 : decode cX6_goOn 0 = .ok (.iconst 0, 1) := by decide +kernel
theorem dX6_goOn_1 : decode cX6_goOn 1 = .ok (.istore_n 1, 1) := by decide +kernel
theorem dX6_goOn_2 : decode cX6_goOn 2 = .ok (.iload_n 1, 1) := by decide +kernel
theorem dX6_goOn_3 : decode cX6_goOn 3 = .ok (.bipush 30, 2) := by decide +kernel
theorem dX6_goOn_5 : decode cX6_goOn 5 = .ok (.if_icmp .ge 20, 3) := by decide +kernel
theorem dX6_goOn_8 : decode cX6_goOn 8 = .ok (.aload_n 0, 1) := by decide +kernel
theorem dX6_goOn_9 : decode cX6_goOn 9 = .ok (.getfield 127, 3) := by decide +kernel
theorem dX6_goOn_12 : decode cX6_goOn 12 = .ok (.ifCond .ne 13, 3) := by decide +kernel
theorem dX6_goOn_15 : decode cX6_goOn 15 = .ok (.aload_n 0, 1) := by decide +kernel
theorem dX6_goOn_16 : decode cX6_goOn 16 = .ok (.invokevirtual 170, 3) := by decide +kernel
theorem dX6_goOn_19 : decode cX6_goOn 19 = .ok (.iinc 1 1, 3) := by decide +kernel
theorem dX6_goOn_22 : decode cX6_goOn 22 = .ok (.goto (-20), 3) := by decide +kernel
theorem dX6_goOn_25 : decode cX6_goOn 25 = .ok (.return_, 1) := by decide +kernel
theorem dX6_badness_0 : decode cX6_badness 0 = .ok (.aload_n 0, 1) := by decide +kernel
theorem dX6_badness_1 : decode cX6_badness 1 = .ok (.getfield 118, 3) := by decide +kernel
theorem dX6_badness_4 : decode cX6_badness 4 = .ok (.invokestatic 188, 3) := by decide +kernel
theorem dX6_badness_7 : decode cX6_badness 7 = .ok (.aload_n 0, 1) := by decide +kernel
theorem dX6_badness_8 : decode cX6_badness 8 = .ok (.getfield 127, 3) := by decide +kernel
theorem dX6_badness_11 : decode cX6_badness 11 = .ok (.iconst 1, 1) := by decide +kernel
theorem dX6_badness_12 : decode cX6_badness 12 = .ok (.if_icmp .ne 7, 3) := by decide +kernel
theorem dX6_badness_15 : decode cX6_badness 15 = .ok (.iconst 0, 1) := by decide +kernel
theorem dX6_badness_16 : decode cX6_badness 16 = .ok (.goto 6, 3) := by decide +kernel
theorem dX6_badness_19 : decode cX6_badness 19 = .ok (.sipush 1000, 3) := by decide +kernel
theorem dX6_badness_22 : decode cX6_badness 22 = .ok (.iadd, 1) := by decide +kernel
theorem dX6_badness_23 : decode cX6_badness 23 = .ok (.ireturn, 1) := by decide +kernel
theorem dX6_outcomeNow_0 : decode cX6_outcomeNow 0 = .ok (.aload_n 0, 1) := by decide +kernel
theorem dX6_outcomeNow_1 : decode cX6_outcomeNow 1 = .ok (.invokevirtual 191, 3) := by decide +kernel
theorem dX6_outcomeNow_4 : decode cX6_outcomeNow 4 = .ok (.aload_n 0, 1) := by decide +kernel
theorem dX6_outcomeNow_5 : decode cX6_outcomeNow 5 = .ok (.invokevirtual 194, 3) := by decide +kernel
theorem dX6_outcomeNow_8 : decode cX6_outcomeNow 8 = .ok (.iload_n 1, 1) := by decide +kernel
theorem dX6_outcomeNow_9 : decode cX6_outcomeNow 9 = .ok (.ifCond .ne 13, 3) := by decide +kernel
theorem dX6_outcomeNow_12 : decode cX6_outcomeNow 12 = .ok (.aload_n 0, 1) := by decide +kernel
theorem dX6_outcomeNow_13 : decode cX6_outcomeNow 13 = .ok (.getfield 118, 3) := by decide +kernel
theorem dX6_outcomeNow_16 : decode cX6_outcomeNow 16 = .ok (.invokestatic 188, 3) := by decide +kernel
theorem dX6_outcomeNow_19 : decode cX6_outcomeNow 19 = .ok (.goto 24, 3) := by decide +kernel
theorem dX6_outcomeNow_22 : decode cX6_outcomeNow 22 = .ok (.iload_n 1, 1) := by decide +kernel
theorem dX6_outcomeNow_23 : decode cX6_outcomeNow 23 = .ok (.iconst 1, 1) := by decide +kernel
theorem dX6_outcomeNow_24 : decode cX6_outcomeNow 24 = .ok (.if_icmp .ne 15, 3) := by decide +kernel
theorem dX6_outcomeNow_27 : decode cX6_outcomeNow 27 = .ok (.aload_n 0, 1) := by decide +kernel
theorem dX6_outcomeNow_28 : decode cX6_outcomeNow 28 = .ok (.getfield 124, 3) := by decide +kernel
theorem dX6_outcomeNow_31 : decode cX6_outcomeNow 31 = .ok (.aload_n 0, 1) := by decide +kernel
theorem dX6_outcomeNow_32 : decode cX6_outcomeNow 32 = .ok (.getfield 182, 3) := by decide +kernel
theorem dX6_outcomeNow_35 : decode cX6_outcomeNow 35 = .ok (.isub, 1) := by decide +kernel
theorem dX6_outcomeNow_36 : decode cX6_outcomeNow 36 = .ok (.goto 7, 3) := by decide +kernel
theorem dX6_outcomeNow_39 : decode cX6_outcomeNow 39 = .ok (.aload_n 0, 1) := by decide +kernel
theorem dX6_outcomeNow_40 : decode cX6_outcomeNow 40 = .ok (.getfield 127, 3) := by decide +kernel
theorem dX6_outcomeNow_43 : decode cX6_outcomeNow 43 = .ok (.istore_n 2, 1) := by decide +kernel
theorem dX6_outcomeNow_44 : decode cX6_outcomeNow 44 = .ok (.aload_n 0, 1) := by decide +kernel
theorem dX6_outcomeNow_45 : decode cX6_outcomeNow 45 = .ok (.invokevirtual 197, 3) := by decide +kernel
theorem dX6_outcomeNow_48 : decode cX6_outcomeNow 48 = .ok (.iload_n 2, 1) := by decide +kernel
theorem dX6_outcomeNow_49 : decode cX6_outcomeNow 49 = .ok (.ireturn, 1) := by decide +kernel
theorem dX6_outcome_0 : decode cX6_outcome 0 = .ok (.iload_n 1, 1) := by decide +kernel
theorem dX6_outcome_1 : decode cX6_outcome 1 = .ok (.iconst 0, 1) := by decide +kernel
theorem dX6_outcome_2 : decode cX6_outcome 2 = .ok (.iconst 2, 1) := by decide +kernel
theorem dX6_outcome_3 : decode cX6_outcome 3 = .ok (.invokestatic 56, 3) := by decide +kernel
theorem dX6_outcome_6 : decode cX6_outcome 6 = .ok (.ifCond .ne 6, 3) := by decide +kernel
theorem dX6_outcome_9 : decode cX6_outcome 9 = .ok (.bipush (-102), 2) := by decide +kernel
theorem dX6_outcome_11 : decode cX6_outcome 11 = .ok (.ireturn, 1) := by decide +kernel
theorem dX6_outcome_12 : decode cX6_outcome 12 = .ok (.aload_n 0, 1) := by decide +kernel
theorem dX6_outcome_13 : decode cX6_outcome 13 = .ok (.invokevirtual 167, 3) := by decide +kernel
theorem dX6_outcome_16 : decode cX6_outcome 16 = .ok (.ifCond .eq 11, 3) := by decide +kernel
theorem dX6_outcome_19 : decode cX6_outcome 19 = .ok (.aload_n 0, 1) := by decide +kernel
theorem dX6_outcome_20 : decode cX6_outcome 20 = .ok (.iload_n 1, 1) := by decide +kernel
theorem dX6_outcome_21 : decode cX6_outcome 21 = .ok (.invokevirtual 200, 3) := by decide +kernel
theorem dX6_outcome_24 : decode cX6_outcome 24 = .ok (.goto 5, 3) := by decide +kernel
theorem dX6_outcome_27 : decode cX6_outcome 27 = .ok (.bipush (-103), 2) := by decide +kernel
theorem dX6_outcome_29 : decode cX6_outcome 29 = .ok (.ireturn, 1) := by decide +kernel
theorem dX6_waxingNow_0 : decode cX6_waxingNow 0 = .ok (.iconst (-1), 1) := by decide +kernel
theorem dX6_waxingNow_1 : decode cX6_waxingNow 1 = .ok (.istore_n 3, 1) := by decide +kernel
theorem dX6_waxingNow_2 : decode cX6_waxingNow 2 = .ok (.sipush 2000, 3) := by decide +kernel
theorem dX6_waxingNow_5 : decode cX6_waxingNow 5 = .ok (.istore 4, 2) := by decide +kernel
theorem dX6_waxingNow_7 : decode cX6_waxingNow 7 = .ok (.aload_n 0, 1) := by decide +kernel
theorem dX6_waxingNow_8 : decode cX6_waxingNow 8 = .ok (.invokevirtual 191, 3) := by decide +kernel
theorem dX6_waxingNow_11 : decode cX6_waxingNow 11 = .ok (.iconst 0, 1) := by decide +kernel
theorem dX6_waxingNow_12 : decode cX6_waxingNow 12 = .ok (.istore 5, 2) := by decide +kernel
theorem dX6_waxingNow_14 : decode cX6_waxingNow 14 = .ok (.iload 5, 2) := by decide +kernel
theorem dX6_waxingNow_16 : decode cX6_waxingNow 16 = .ok (.iload_n 1, 1) := by decide +kernel
theorem dX6_waxingNow_17 : decode cX6_waxingNow 17 = .ok (.if_icmp .gt 107, 3) := by decide +kernel
theorem dX6_waxingNow_20 : decode cX6_waxingNow 20 = .ok (.iconst 0, 1) := by decide +kernel
theorem dX6_waxingNow_21 : decode cX6_waxingNow 21 = .ok (.istore 6, 2) := by decide +kernel
theorem dX6_waxingNow_23 : decode cX6_waxingNow 23 = .ok (.iload 6, 2) := by decide +kernel
theorem dX6_waxingNow_25 : decode cX6_waxingNow 25 = .ok (.aload_n 0, 1) := by decide +kernel
theorem dX6_waxingNow_26 : decode cX6_waxingNow 26 = .ok (.invokevirtual 153, 3) := by decide +kernel
theorem dX6_waxingNow_29 : decode cX6_waxingNow 29 = .ok (.if_icmp .gt 89, 3) := by decide +kernel
theorem dX6_waxingNow_32 : decode cX6_waxingNow 32 = .ok (.iload 6, 2) := by decide +kernel
theorem dX6_waxingNow_34 : decode cX6_waxingNow 34 = .ok (.aload_n 0, 1) := by decide +kernel
theorem dX6_waxingNow_35 : decode cX6_waxingNow 35 = .ok (.getfield 118, 3) := by decide +kernel
theorem dX6_waxingNow_38 : decode cX6_waxingNow 38 = .ok (.iand, 1) := by decide +kernel
theorem dX6_waxingNow_39 : decode cX6_waxingNow 39 = .ok (.ifCond .ne 73, 3) := by decide +kernel
theorem dX6_waxingNow_42 : decode cX6_waxingNow 42 = .ok (.iload 6, 2) := by decide +kernel
theorem dX6_waxingNow_44 : decode cX6_waxingNow 44 = .ok (.invokestatic 188, 3) := by decide +kernel
theorem dX6_waxingNow_47 : decode cX6_waxingNow 47 = .ok (.iload 5, 2) := by decide +kernel
theorem dX6_waxingNow_49 : decode cX6_waxingNow 49 = .ok (.if_icmp .ne 63, 3) := by decide +kernel
theorem dX6_waxingNow_52 : decode cX6_waxingNow 52 = .ok (.aload_n 0, 1) := by decide +kernel
theorem dX6_waxingNow_53 : decode cX6_waxingNow 53 = .ok (.aload_n 0, 1) := by decide +kernel
theorem dX6_waxingNow_54 : decode cX6_waxingNow 54 = .ok (.getfield 173, 3) := by decide +kernel
theorem dX6_waxingNow_57 : decode cX6_waxingNow 57 = .ok (.aload_n 0, 1) := by decide +kernel
theorem dX6_waxingNow_58 : decode cX6_waxingNow 58 = .ok (.getfield 118, 3) := by decide +kernel
theorem dX6_waxingNow_61 : decode cX6_waxingNow 61 = .ok (.iand, 1) := by decide +kernel
theorem dX6_waxingNow_62 : decode cX6_waxingNow 62 = .ok (.iload 6, 2) := by decide +kernel
theorem dX6_waxingNow_64 : decode cX6_waxingNow 64 = .ok (.ior, 1) := by decide +kernel
theorem dX6_waxingNow_65 : decode cX6_waxingNow 65 = .ok (.putfield 112, 3) := by decide +kernel
theorem dX6_waxingNow_68 : decode cX6_waxingNow 68 = .ok (.aload_n 0, 1) := by decide +kernel
theorem dX6_waxingNow_69 : decode cX6_waxingNow 69 = .ok (.invokevirtual 194, 3) := by decide +kernel
theorem dX6_waxingNow_72 : decode cX6_waxingNow 72 = .ok (.aload_n 0, 1) := by decide +kernel
theorem dX6_waxingNow_73 : decode cX6_waxingNow 73 = .ok (.invokevirtual 203, 3) := by decide +kernel
theorem dX6_waxingNow_76 : decode cX6_waxingNow 76 = .ok (.iload 4, 2) := by decide +kernel
theorem dX6_waxingNow_78 : decode cX6_waxingNow 78 = .ok (.if_icmp .ge 8, 3) := by decide +kernel
theorem dX6_waxingNow_81 : decode cX6_waxingNow 81 = .ok (.iload 6, 2) := by decide +kernel
theorem dX6_waxingNow_83 : decode cX6_waxingNow 83 = .ok (.goto 4, 3) := by decide +kernel
theorem dX6_waxingNow_86 : decode cX6_waxingNow 86 = .ok (.iload_n 3, 1) := by decide +kernel
theorem dX6_waxingNow_87 : decode cX6_waxingNow 87 = .ok (.istore_n 3, 1) := by decide +kernel
theorem dX6_waxingNow_88 : decode cX6_waxingNow 88 = .ok (.aload_n 0, 1) := by decide +kernel
theorem dX6_waxingNow_89 : decode cX6_waxingNow 89 = .ok (.invokevirtual 203, 3) := by decide +kernel
theorem dX6_waxingNow_92 : decode cX6_waxingNow 92 = .ok (.iload 4, 2) := by decide +kernel
theorem dX6_waxingNow_94 : decode cX6_waxingNow 94 = .ok (.if_icmp .ge 10, 3) := by decide +kernel
theorem dX6_waxingNow_97 : decode cX6_waxingNow 97 = .ok (.aload_n 0, 1) := by decide +kernel
theorem dX6_waxingNow_98 : decode cX6_waxingNow 98 = .ok (.invokevirtual 203, 3) := by decide +kernel
theorem dX6_waxingNow_101 : decode cX6_waxingNow 101 = .ok (.goto 5, 3) := by decide +kernel
theorem dX6_waxingNow_104 : decode cX6_waxingNow 104 = .ok (.iload 4, 2) := by decide +kernel
theorem dX6_waxingNow_106 : decode cX6_waxingNow 106 = .ok (.istore 4, 2) := by decide +kernel
theorem dX6_waxingNow_108 : decode cX6_waxingNow 108 = .ok (.aload_n 0, 1) := by decide +kernel
theorem dX6_waxingNow_109 : decode cX6_waxingNow 109 = .ok (.invokevirtual 197, 3) := by decide +kernel
theorem dX6_waxingNow_112 : decode cX6_waxingNow 112 = .ok (.iinc 6 1, 3) := by decide +kernel
theorem dX6_waxingNow_115 : decode cX6_waxingNow 115 = .ok (.goto (-92), 3) := by decide +kernel
theorem dX6_waxingNow_118 : decode cX6_waxingNow 118 = .ok (.iinc 5 1, 3) := by decide +kernel
theorem dX6_waxingNow_121 : decode cX6_waxingNow 121 = .ok (.goto (-107), 3) := by decide +kernel
theorem dX6_waxingNow_124 : decode cX6_waxingNow 124 = .ok (.iload_n 2, 1) := by decide +kernel
theorem dX6_waxingNow_125 : decode cX6_waxingNow 125 = .ok (.ifCond .ne 12, 3) := by decide +kernel
theorem dX6_waxingNow_128 : decode cX6_waxingNow 128 = .ok (.iload 4, 2) := by decide +kernel
theorem dX6_waxingNow_130 : decode cX6_waxingNow 130 = .ok (.sipush 1000, 3) := by decide +kernel
theorem dX6_waxingNow_133 : decode cX6_waxingNow 133 = .ok (.irem, 1) := by decide +kernel
theorem dX6_waxingNow_134 : decode cX6_waxingNow 134 = .ok (.goto 4, 3) := by decide +kernel
theorem dX6_waxingNow_137 : decode cX6_waxingNow 137 = .ok (.iload_n 3, 1) := by decide +kernel
theorem dX6_waxingNow_138 : decode cX6_waxingNow 138 = .ok (.ireturn, 1) := by decide +kernel
theorem dX6_waxing_0 : decode cX6_waxing 0 = .ok (.iload_n 1, 1) := by decide +kernel
theorem dX6_waxing_1 : decode cX6_waxing 1 = .ok (.iconst 0, 1) := by decide +kernel
theorem dX6_waxing_2 : decode cX6_waxing 2 = .ok (.iconst 5, 1) := by decide +kernel
theorem dX6_waxing_3 : decode cX6_waxing 3 = .ok (.invokestatic 56, 3) := by decide +kernel
theorem dX6_waxing_6 : decode cX6_waxing 6 = .ok (.ifCond .eq 12, 3) := by decide +kernel
theorem dX6_waxing_9 : decode cX6_waxing 9 = .ok (.iload_n 2, 1) := by decide +kernel
theorem dX6_waxing_10 : decode cX6_waxing 10 = .ok (.iconst 0, 1) := by decide +kernel
theorem dX6_waxing_11 : decode cX6_waxing 11 = .ok (.iconst 1, 1) := by decide +kernel
theorem dX6_waxing_12 : decode cX6_waxing 12 = .ok (.invokestatic 56, 3) := by decide +kernel
theorem dX6_waxing_15 : decode cX6_waxing 15 = .ok (.ifCond .ne 6, 3) := by decide +kernel
theorem dX6_waxing_18 : decode cX6_waxing 18 = .ok (.bipush (-102), 2) := by decide +kernel
theorem dX6_waxing_20 : decode cX6_waxing 20 = .ok (.ireturn, 1) := by decide +kernel
theorem dX6_waxing_21 : decode cX6_waxing 21 = .ok (.aload_n 0, 1) := by decide +kernel
theorem dX6_waxing_22 : decode cX6_waxing 22 = .ok (.invokevirtual 167, 3) := by decide +kernel
theorem dX6_waxing_25 : decode cX6_waxing 25 = .ok (.ifCond .eq 12, 3) := by decide +kernel
theorem dX6_waxing_28 : decode cX6_waxing 28 = .ok (.aload_n 0, 1) := by decide +kernel
theorem dX6_waxing_29 : decode cX6_waxing 29 = .ok (.iload_n 1, 1) := by decide +kernel
theorem dX6_waxing_30 : decode cX6_waxing 30 = .ok (.iload_n 2, 1) := by decide +kernel
theorem dX6_waxing_31 : decode cX6_waxing 31 = .ok (.invokevirtual 206, 3) := by decide +kernel
theorem dX6_waxing_34 : decode cX6_waxing 34 = .ok (.goto 5, 3) := by decide +kernel
theorem dX6_waxing_37 : decode cX6_waxing 37 = .ok (.bipush (-103), 2) := by decide +kernel
theorem dX6_waxing_39 : decode cX6_waxing 39 = .ok (.ireturn, 1) := by decide +kernel
theorem dX6_holdNow_0 : decode cX6_holdNow 0 = .ok (.aload_n 0, 1) := by decide +kernel
theorem dX6_holdNow_1 : decode cX6_holdNow 1 = .ok (.invokevirtual 191, 3) := by decide +kernel
theorem dX6_holdNow_4 : decode cX6_holdNow 4 = .ok (.iconst 0, 1) := by decide +kernel
theorem dX6_holdNow_5 : decode cX6_holdNow 5 = .ok (.istore_n 2, 1) := by decide +kernel
theorem dX6_holdNow_6 : decode cX6_holdNow 6 = .ok (.iload_n 2, 1) := by decide +kernel
theorem dX6_holdNow_7 : decode cX6_holdNow 7 = .ok (.bipush 9, 2) := by decide +kernel
theorem dX6_holdNow_9 : decode cX6_holdNow 9 = .ok (.if_icmp .gt 47, 3) := by decide +kernel
theorem dX6_holdNow_12 : decode cX6_holdNow 12 = .ok (.aload_n 0, 1) := by decide +kernel
theorem dX6_holdNow_13 : decode cX6_holdNow 13 = .ok (.getfield 25, 3) := by decide +kernel
theorem dX6_holdNow_16 : decode cX6_holdNow 16 = .ok (.iload_n 1, 1) := by decide +kernel
theorem dX6_holdNow_17 : decode cX6_holdNow 17 = .ok (.iload_n 2, 1) := by decide +kernel
theorem dX6_holdNow_18 : decode cX6_holdNow 18 = .ok (.iastore, 1) := by decide +kernel
theorem dX6_holdNow_19 : decode cX6_holdNow 19 = .ok (.aload_n 0, 1) := by decide +kernel
theorem dX6_holdNow_20 : decode cX6_holdNow 20 = .ok (.invokevirtual 194, 3) := by decide +kernel
theorem dX6_holdNow_23 : decode cX6_holdNow 23 = .ok (.aload_n 0, 1) := by decide +kernel
theorem dX6_holdNow_24 : decode cX6_holdNow 24 = .ok (.getfield 118, 3) := by decide +kernel
theorem dX6_holdNow_27 : decode cX6_holdNow 27 = .ok (.iload_n 1, 1) := by decide +kernel
theorem dX6_holdNow_28 : decode cX6_holdNow 28 = .ok (.invokestatic 130, 3) := by decide +kernel
theorem dX6_holdNow_31 : decode cX6_holdNow 31 = .ok (.ifCond .ne 7, 3) := by decide +kernel
theorem dX6_holdNow_34 : decode cX6_holdNow 34 = .ok (.iconst 1, 1) := by decide +kernel
theorem dX6_holdNow_35 : decode cX6_holdNow 35 = .ok (.goto 4, 3) := by decide +kernel
theorem dX6_holdNow_38 : decode cX6_holdNow 38 = .ok (.iconst 0, 1) := by decide +kernel
theorem dX6_holdNow_39 : decode cX6_holdNow 39 = .ok (.istore_n 3, 1) := by decide +kernel
theorem dX6_holdNow_40 : decode cX6_holdNow 40 = .ok (.aload_n 0, 1) := by decide +kernel
theorem dX6_holdNow_41 : decode cX6_holdNow 41 = .ok (.invokevirtual 197, 3) := by decide +kernel
theorem dX6_holdNow_44 : decode cX6_holdNow 44 = .ok (.iload_n 3, 1) := by decide +kernel
theorem dX6_holdNow_45 : decode cX6_holdNow 45 = .ok (.ifCond .eq 5, 3) := by decide +kernel
theorem dX6_holdNow_48 : decode cX6_holdNow 48 = .ok (.iload_n 2, 1) := by decide +kernel
theorem dX6_holdNow_49 : decode cX6_holdNow 49 = .ok (.ireturn, 1) := by decide +kernel
theorem dX6_holdNow_50 : decode cX6_holdNow 50 = .ok (.iinc 2 1, 3) := by decide +kernel
theorem dX6_holdNow_53 : decode cX6_holdNow 53 = .ok (.goto (-47), 3) := by decide +kernel
theorem dX6_holdNow_56 : decode cX6_holdNow 56 = .ok (.iconst (-1), 1) := by decide +kernel
theorem dX6_holdNow_57 : decode cX6_holdNow 57 = .ok (.ireturn, 1) := by decide +kernel
theorem dX6_hold_0 : decode cX6_hold 0 = .ok (.aload_n 0, 1) := by decide +kernel
theorem dX6_hold_1 : decode cX6_hold 1 = .ok (.iload_n 1, 1) := by decide +kernel
theorem dX6_hold_2 : decode cX6_hold 2 = .ok (.invokevirtual 141, 3) := by decide +kernel
theorem dX6_hold_5 : decode cX6_hold 5 = .ok (.ifCond .ne 6, 3) := by decide +kernel
theorem dX6_hold_8 : decode cX6_hold 8 = .ok (.bipush (-101), 2) := by decide +kernel
theorem dX6_hold_10 : decode cX6_hold 10 = .ok (.ireturn, 1) := by decide +kernel
theorem dX6_hold_11 : decode cX6_hold 11 = .ok (.aload_n 0, 1) := by decide +kernel
theorem dX6_hold_12 : decode cX6_hold 12 = .ok (.invokevirtual 167, 3) := by decide +kernel
theorem dX6_hold_15 : decode cX6_hold 15 = .ok (.ifCond .eq 22, 3) := by decide +kernel
theorem dX6_hold_18 : decode cX6_hold 18 = .ok (.aload_n 0, 1) := by decide +kernel
theorem dX6_hold_19 : decode cX6_hold 19 = .ok (.getfield 118, 3) := by decide +kernel
theorem dX6_hold_22 : decode cX6_hold 22 = .ok (.iload_n 1, 1) := by decide +kernel
theorem dX6_hold_23 : decode cX6_hold 23 = .ok (.invokestatic 130, 3) := by decide +kernel
theorem dX6_hold_26 : decode cX6_hold 26 = .ok (.ifCond .ne 11, 3) := by decide +kernel
theorem dX6_hold_29 : decode cX6_hold 29 = .ok (.aload_n 0, 1) := by decide +kernel
theorem dX6_hold_30 : decode cX6_hold 30 = .ok (.iload_n 1, 1) := by decide +kernel
theorem dX6_hold_31 : decode cX6_hold 31 = .ok (.invokevirtual 209, 3) := by decide +kernel
theorem dX6_hold_34 : decode cX6_hold 34 = .ok (.goto 5, 3) := by decide +kernel
theorem dX6_hold_37 : decode cX6_hold 37 = .ok (.bipush (-103), 2) := by decide +kernel
theorem dX6_hold_39 : decode cX6_hold 39 = .ok (.ireturn, 1) := by decide +kernel
theorem dX6_listenerNow_0 : decode cX6_listenerNow 0 = .ok (.iconst (-1), 1) := by decide +kernel
theorem dX6_listenerNow_1 : decode cX6_listenerNow 1 = .ok (.istore_n 1, 1) := by decide +kernel
theorem dX6_listenerNow_2 : decode cX6_listenerNow 2 = .ok (.sipush 2000, 3) := by decide +kernel
theorem dX6_listenerNow_5 : decode cX6_listenerNow 5 = .ok (.istore_n 2, 1) := by decide +kernel
theorem dX6_listenerNow_6 : decode cX6_listenerNow 6 = .ok (.aload_n 0, 1) := by decide +kernel
theorem dX6_listenerNow_7 : decode cX6_listenerNow 7 = .ok (.invokevirtual 191, 3) := by decide +kernel
theorem dX6_listenerNow_10 : decode cX6_listenerNow 10 = .ok (.iconst 0, 1) := by decide +kernel
theorem dX6_listenerNow_11 : decode cX6_listenerNow 11 = .ok (.istore_n 3, 1) := by decide +kernel
theorem dX6_listenerNow_12 : decode cX6_listenerNow 12 = .ok (.iload_n 3, 1) := by decide +kernel
theorem dX6_listenerNow_13 : decode cX6_listenerNow 13 = .ok (.aload_n 0, 1) := by decide +kernel
theorem dX6_listenerNow_14 : decode cX6_listenerNow 14 = .ok (.getfield 106, 3) := by decide +kernel
theorem dX6_listenerNow_17 : decode cX6_listenerNow 17 = .ok (.if_icmp .ge 149, 3) := by decide +kernel
theorem dX6_listenerNow_20 : decode cX6_listenerNow 20 = .ok (.aload_n 0, 1) := by decide +kernel
theorem dX6_listenerNow_21 : decode cX6_listenerNow 21 = .ok (.getfield 118, 3) := by decide +kernel
theorem dX6_listenerNow_24 : decode cX6_listenerNow 24 = .ok (.iload_n 3, 1) := by decide +kernel
theorem dX6_listenerNow_25 : decode cX6_listenerNow 25 = .ok (.invokestatic 130, 3) := by decide +kernel
theorem dX6_listenerNow_28 : decode cX6_listenerNow 28 = .ok (.ifCond .ne 132, 3) := by decide +kernel
theorem dX6_listenerNow_31 : decode cX6_listenerNow 31 = .ok (.iconst 0, 1) := by decide +kernel
theorem dX6_listenerNow_32 : decode cX6_listenerNow 32 = .ok (.istore 4, 2) := by decide +kernel
theorem dX6_listenerNow_34 : decode cX6_listenerNow 34 = .ok (.iload 4, 2) := by decide +kernel
theorem dX6_listenerNow_36 : decode cX6_listenerNow 36 = .ok (.aload_n 0, 1) := by decide +kernel
theorem dX6_listenerNow_37 : decode cX6_listenerNow 37 = .ok (.getfield 106, 3) := by decide +kernel
theorem dX6_listenerNow_40 : decode cX6_listenerNow 40 = .ok (.if_icmp .ge 50, 3) := by decide +kernel
theorem dX6_listenerNow_43 : decode cX6_listenerNow 43 = .ok (.aload_n 0, 1) := by decide +kernel
theorem dX6_listenerNow_44 : decode cX6_listenerNow 44 = .ok (.getfield 25, 3) := by decide +kernel
theorem dX6_listenerNow_47 : decode cX6_listenerNow 47 = .ok (.iload 4, 2) := by decide +kernel
theorem dX6_listenerNow_49 : decode cX6_listenerNow 49 = .ok (.aload_n 0, 1) := by decide +kernel
theorem dX6_listenerNow_50 : decode cX6_listenerNow 50 = .ok (.getfield 118, 3) := by decide +kernel
theorem dX6_listenerNow_53 : decode cX6_listenerNow 53 = .ok (.iload 4, 2) := by decide +kernel
theorem dX6_listenerNow_55 : decode cX6_listenerNow 55 = .ok (.invokestatic 130, 3) := by decide +kernel
theorem dX6_listenerNow_58 : decode cX6_listenerNow 58 = .ok (.ifCond .eq 13, 3) := by decide +kernel
theorem dX6_listenerNow_61 : decode cX6_listenerNow 61 = .ok (.aload_n 0, 1) := by decide +kernel
theorem dX6_listenerNow_62 : decode cX6_listenerNow 62 = .ok (.getfield 25, 3) := by decide +kernel
theorem dX6_listenerNow_65 : decode cX6_listenerNow 65 = .ok (.iload 4, 2) := by decide +kernel
theorem dX6_listenerNow_67 : decode cX6_listenerNow 67 = .ok (.iaload, 1) := by decide +kernel
theorem dX6_listenerNow_68 : decode cX6_listenerNow 68 = .ok (.goto 15, 3) := by decide +kernel
theorem dX6_listenerNow_71 : decode cX6_listenerNow 71 = .ok (.iload 4, 2) := by decide +kernel
theorem dX6_listenerNow_73 : decode cX6_listenerNow 73 = .ok (.iload_n 3, 1) := by decide +kernel
theorem dX6_listenerNow_74 : decode cX6_listenerNow 74 = .ok (.if_icmp .ne 8, 3) := by decide +kernel
theorem dX6_listenerNow_77 : decode cX6_listenerNow 77 = .ok (.bipush 9, 2) := by decide +kernel
theorem dX6_listenerNow_79 : decode cX6_listenerNow 79 = .ok (.goto 4, 3) := by decide +kernel
theorem dX6_listenerNow_82 : decode cX6_listenerNow 82 = .ok (.iconst 0, 1) := by decide +kernel
theorem dX6_listenerNow_83 : decode cX6_listenerNow 83 = .ok (.iastore, 1) := by decide +kernel
theorem dX6_listenerNow_84 : decode cX6_listenerNow 84 = .ok (.iinc 4 1, 3) := by decide +kernel
theorem dX6_listenerNow_87 : decode cX6_listenerNow 87 = .ok (.goto (-53), 3) := by decide +kernel
theorem dX6_listenerNow_90 : decode cX6_listenerNow 90 = .ok (.aload_n 0, 1) := by decide +kernel
theorem dX6_listenerNow_91 : decode cX6_listenerNow 91 = .ok (.aload_n 0, 1) := by decide +kernel
theorem dX6_listenerNow_92 : decode cX6_listenerNow 92 = .ok (.getfield 173, 3) := by decide +kernel
theorem dX6_listenerNow_95 : decode cX6_listenerNow 95 = .ok (.aload_n 0, 1) := by decide +kernel
theorem dX6_listenerNow_96 : decode cX6_listenerNow 96 = .ok (.getfield 118, 3) := by decide +kernel
theorem dX6_listenerNow_99 : decode cX6_listenerNow 99 = .ok (.iand, 1) := by decide +kernel
theorem dX6_listenerNow_100 : decode cX6_listenerNow 100 = .ok (.aload_n 0, 1) := by decide +kernel
theorem dX6_listenerNow_101 : decode cX6_listenerNow 101 = .ok (.invokevirtual 153, 3) := by decide +kernel
theorem dX6_listenerNow_104 : decode cX6_listenerNow 104 = .ok (.aload_n 0, 1) := by decide +kernel
theorem dX6_listenerNow_105 : decode cX6_listenerNow 105 = .ok (.getfield 118, 3) := by decide +kernel
theorem dX6_listenerNow_108 : decode cX6_listenerNow 108 = .ok (.iconst (-1), 1) := by decide +kernel
theorem dX6_listenerNow_109 : decode cX6_listenerNow 109 = .ok (.ixor, 1) := by decide +kernel
theorem dX6_listenerNow_110 : decode cX6_listenerNow 110 = .ok (.iand, 1) := by decide +kernel
theorem dX6_listenerNow_111 : decode cX6_listenerNow 111 = .ok (.iconst 1, 1) := by decide +kernel
theorem dX6_listenerNow_112 : decode cX6_listenerNow 112 = .ok (.iload_n 3, 1) := by decide +kernel
theorem dX6_listenerNow_113 : decode cX6_listenerNow 113 = .ok (.ishl, 1) := by decide +kernel
theorem dX6_listenerNow_114 : decode cX6_listenerNow 114 = .ok (.iconst (-1), 1) := by decide +kernel
theorem dX6_listenerNow_115 : decode cX6_listenerNow 115 = .ok (.ixor, 1) := by decide +kernel
theorem dX6_listenerNow_116 : decode cX6_listenerNow 116 = .ok (.iand, 1) := by decide +kernel
theorem dX6_listenerNow_117 : decode cX6_listenerNow 117 = .ok (.ior, 1) := by decide +kernel
theorem dX6_listenerNow_118 : decode cX6_listenerNow 118 = .ok (.putfield 112, 3) := by decide +kernel
theorem dX6_listenerNow_121 : decode cX6_listenerNow 121 = .ok (.aload_n 0, 1) := by decide +kernel
theorem dX6_listenerNow_122 : decode cX6_listenerNow 122 = .ok (.invokevirtual 194, 3) := by decide +kernel
theorem dX6_listenerNow_125 : decode cX6_listenerNow 125 = .ok (.aload_n 0, 1) := by decide +kernel
theorem dX6_listenerNow_126 : decode cX6_listenerNow 126 = .ok (.invokevirtual 203, 3) := by decide +kernel
theorem dX6_listenerNow_129 : decode cX6_listenerNow 129 = .ok (.iload_n 2, 1) := by decide +kernel
theorem dX6_listenerNow_130 : decode cX6_listenerNow 130 = .ok (.if_icmp .ge 7, 3) := by decide +kernel
theorem dX6_listenerNow_133 : decode cX6_listenerNow 133 = .ok (.iload_n 3, 1) := by decide +kernel
theorem dX6_listenerNow_134 : decode cX6_listenerNow 134 = .ok (.goto 4, 3) := by decide +kernel
theorem dX6_listenerNow_137 : decode cX6_listenerNow 137 = .ok (.iload_n 1, 1) := by decide +kernel
theorem dX6_listenerNow_138 : decode cX6_listenerNow 138 = .ok (.istore_n 1, 1) := by decide +kernel
theorem dX6_listenerNow_139 : decode cX6_listenerNow 139 = .ok (.aload_n 0, 1) := by decide +kernel
theorem dX6_listenerNow_140 : decode cX6_listenerNow 140 = .ok (.invokevirtual 203, 3) := by decide +kernel
theorem dX6_listenerNow_143 : decode cX6_listenerNow 143 = .ok (.iload_n 2, 1) := by decide +kernel
theorem dX6_listenerNow_144 : decode cX6_listenerNow 144 = .ok (.if_icmp .ge 10, 3) := by decide +kernel
theorem dX6_listenerNow_147 : decode cX6_listenerNow 147 = .ok (.aload_n 0, 1) := by decide +kernel
theorem dX6_listenerNow_148 : decode cX6_listenerNow 148 = .ok (.invokevirtual 203, 3) := by decide +kernel
theorem dX6_listenerNow_151 : decode cX6_listenerNow 151 = .ok (.goto 4, 3) := by decide +kernel
theorem dX6_listenerNow_154 : decode cX6_listenerNow 154 = .ok (.iload_n 2, 1) := by decide +kernel
theorem dX6_listenerNow_155 : decode cX6_listenerNow 155 = .ok (.istore_n 2, 1) := by decide +kernel
theorem dX6_listenerNow_156 : decode cX6_listenerNow 156 = .ok (.aload_n 0, 1) := by decide +kernel
theorem dX6_listenerNow_157 : decode cX6_listenerNow 157 = .ok (.invokevirtual 197, 3) := by decide +kernel
theorem dX6_listenerNow_160 : decode cX6_listenerNow 160 = .ok (.iinc 3 1, 3) := by decide +kernel
theorem dX6_listenerNow_163 : decode cX6_listenerNow 163 = .ok (.goto (-151), 3) := by decide +kernel
theorem dX6_listenerNow_166 : decode cX6_listenerNow 166 = .ok (.iload_n 1, 1) := by decide +kernel
theorem dX6_listenerNow_167 : decode cX6_listenerNow 167 = .ok (.ireturn, 1) := by decide +kernel
theorem dX6_listener_0 : decode cX6_listener 0 = .ok (.aload_n 0, 1) := by decide +kernel
theorem dX6_listener_1 : decode cX6_listener 1 = .ok (.invokevirtual 167, 3) := by decide +kernel
theorem dX6_listener_4 : decode cX6_listener 4 = .ok (.ifCond .eq 10, 3) := by decide +kernel
theorem dX6_listener_7 : decode cX6_listener 7 = .ok (.aload_n 0, 1) := by decide +kernel
theorem dX6_listener_8 : decode cX6_listener 8 = .ok (.invokevirtual 212, 3) := by decide +kernel
theorem dX6_listener_11 : decode cX6_listener 11 = .ok (.goto 5, 3) := by decide +kernel
theorem dX6_listener_14 : decode cX6_listener 14 = .ok (.bipush (-103), 2) := by decide +kernel
theorem dX6_listener_16 : decode cX6_listener 16 = .ok (.ireturn, 1) := by decide +kernel
theorem dX6_soldNow_0 : decode cX6_soldNow 0 = .ok (.aload_n 0, 1) := by decide +kernel
theorem dX6_soldNow_1 : decode cX6_soldNow 1 = .ok (.invokevirtual 191, 3) := by decide +kernel
theorem dX6_soldNow_4 : decode cX6_soldNow 4 = .ok (.iconst 0, 1) := by decide +kernel
theorem dX6_soldNow_5 : decode cX6_soldNow 5 = .ok (.istore_n 1, 1) := by decide +kernel
theorem dX6_soldNow_6 : decode cX6_soldNow 6 = .ok (.iload_n 1, 1) := by decide +kernel
theorem dX6_soldNow_7 : decode cX6_soldNow 7 = .ok (.bipush 9, 2) := by decide +kernel
theorem dX6_soldNow_9 : decode cX6_soldNow 9 = .ok (.if_icmp .gt 84, 3) := by decide +kernel
theorem dX6_soldNow_12 : decode cX6_soldNow 12 = .ok (.iconst 0, 1) := by decide +kernel
theorem dX6_soldNow_13 : decode cX6_soldNow 13 = .ok (.istore_n 2, 1) := by decide +kernel
theorem dX6_soldNow_14 : decode cX6_soldNow 14 = .ok (.iload_n 2, 1) := by decide +kernel
theorem dX6_soldNow_15 : decode cX6_soldNow 15 = .ok (.aload_n 0, 1) := by decide +kernel
theorem dX6_soldNow_16 : decode cX6_soldNow 16 = .ok (.getfield 97, 3) := by decide +kernel
theorem dX6_soldNow_19 : decode cX6_soldNow 19 = .ok (.if_icmp .ge 37, 3) := by decide +kernel
theorem dX6_soldNow_22 : decode cX6_soldNow 22 = .ok (.aload_n 0, 1) := by decide +kernel
theorem dX6_soldNow_23 : decode cX6_soldNow 23 = .ok (.getfield 7, 3) := by decide +kernel
theorem dX6_soldNow_26 : decode cX6_soldNow 26 = .ok (.iload_n 2, 1) := by decide +kernel
theorem dX6_soldNow_27 : decode cX6_soldNow 27 = .ok (.aload_n 0, 1) := by decide +kernel
theorem dX6_soldNow_28 : decode cX6_soldNow 28 = .ok (.getfield 7, 3) := by decide +kernel
theorem dX6_soldNow_31 : decode cX6_soldNow 31 = .ok (.iload_n 2, 1) := by decide +kernel
theorem dX6_soldNow_32 : decode cX6_soldNow 32 = .ok (.iaload, 1) := by decide +kernel
theorem dX6_soldNow_33 : decode cX6_soldNow 33 = .ok (.iload_n 1, 1) := by decide +kernel
theorem dX6_soldNow_34 : decode cX6_soldNow 34 = .ok (.if_icmp .le 14, 3) := by decide +kernel
theorem dX6_soldNow_37 : decode cX6_soldNow 37 = .ok (.aload_n 0, 1) := by decide +kernel
theorem dX6_soldNow_38 : decode cX6_soldNow 38 = .ok (.getfield 7, 3) := by decide +kernel
theorem dX6_soldNow_41 : decode cX6_soldNow 41 = .ok (.iload_n 2, 1) := by decide +kernel
theorem dX6_soldNow_42 : decode cX6_soldNow 42 = .ok (.iaload, 1) := by decide +kernel
theorem dX6_soldNow_43 : decode cX6_soldNow 43 = .ok (.iload_n 1, 1) := by decide +kernel
theorem dX6_soldNow_44 : decode cX6_soldNow 44 = .ok (.isub, 1) := by decide +kernel
theorem dX6_soldNow_45 : decode cX6_soldNow 45 = .ok (.goto 4, 3) := by decide +kernel
theorem dX6_soldNow_48 : decode cX6_soldNow 48 = .ok (.iconst 0, 1) := by decide +kernel
theorem dX6_soldNow_49 : decode cX6_soldNow 49 = .ok (.iastore, 1) := by decide +kernel
theorem dX6_soldNow_50 : decode cX6_soldNow 50 = .ok (.iinc 2 1, 3) := by decide +kernel
theorem dX6_soldNow_53 : decode cX6_soldNow 53 = .ok (.goto (-39), 3) := by decide +kernel
theorem dX6_soldNow_56 : decode cX6_soldNow 56 = .ok (.aload_n 0, 1) := by decide +kernel
theorem dX6_soldNow_57 : decode cX6_soldNow 57 = .ok (.invokevirtual 194, 3) := by decide +kernel
theorem dX6_soldNow_60 : decode cX6_soldNow 60 = .ok (.aload_n 0, 1) := by decide +kernel
theorem dX6_soldNow_61 : decode cX6_soldNow 61 = .ok (.getfield 118, 3) := by decide +kernel
theorem dX6_soldNow_64 : decode cX6_soldNow 64 = .ok (.aload_n 0, 1) := by decide +kernel
theorem dX6_soldNow_65 : decode cX6_soldNow 65 = .ok (.getfield 176, 3) := by decide +kernel
theorem dX6_soldNow_68 : decode cX6_soldNow 68 = .ok (.if_icmp .ne 7, 3) := by decide +kernel
theorem dX6_soldNow_71 : decode cX6_soldNow 71 = .ok (.iconst 1, 1) := by decide +kernel
theorem dX6_soldNow_72 : decode cX6_soldNow 72 = .ok (.goto 4, 3) := by decide +kernel
theorem dX6_soldNow_75 : decode cX6_soldNow 75 = .ok (.iconst 0, 1) := by decide +kernel
theorem dX6_soldNow_76 : decode cX6_soldNow 76 = .ok (.istore_n 2, 1) := by decide +kernel
theorem dX6_soldNow_77 : decode cX6_soldNow 77 = .ok (.aload_n 0, 1) := by decide +kernel
theorem dX6_soldNow_78 : decode cX6_soldNow 78 = .ok (.invokevirtual 197, 3) := by decide +kernel
theorem dX6_soldNow_81 : decode cX6_soldNow 81 = .ok (.iload_n 2, 1) := by decide +kernel
theorem dX6_soldNow_82 : decode cX6_soldNow 82 = .ok (.ifCond .eq 5, 3) := by decide +kernel
theorem dX6_soldNow_85 : decode cX6_soldNow 85 = .ok (.iload_n 1, 1) := by decide +kernel
theorem dX6_soldNow_86 : decode cX6_soldNow 86 = .ok (.ireturn, 1) := by decide +kernel
theorem dX6_soldNow_87 : decode cX6_soldNow 87 = .ok (.iinc 1 1, 3) := by decide +kernel
theorem dX6_soldNow_90 : decode cX6_soldNow 90 = .ok (.goto (-84), 3) := by decide +kernel
theorem dX6_soldNow_93 : decode cX6_soldNow 93 = .ok (.iconst (-1), 1) := by decide +kernel
theorem dX6_soldNow_94 : decode cX6_soldNow 94 = .ok (.ireturn, 1) := by decide +kernel
theorem dX6_sold_0 : decode cX6_sold 0 = .ok (.aload_n 0, 1) := by decide +kernel
theorem dX6_sold_1 : decode cX6_sold 1 = .ok (.invokevirtual 167, 3) := by decide +kernel
theorem dX6_sold_4 : decode cX6_sold 4 = .ok (.ifCond .eq 10, 3) := by decide +kernel
theorem dX6_sold_7 : decode cX6_sold 7 = .ok (.aload_n 0, 1) := by decide +kernel
theorem dX6_sold_8 : decode cX6_sold 8 = .ok (.invokevirtual 215, 3) := by decide +kernel
theorem dX6_sold_11 : decode cX6_sold 11 = .ok (.goto 5, 3) := by decide +kernel
theorem dX6_sold_14 : decode cX6_sold 14 = .ok (.bipush (-103), 2) := by decide +kernel
theorem dX6_sold_16 : decode cX6_sold 16 = .ok (.ireturn, 1) := by decide +kernel
theorem dX6_log_0 : decode cX6_log 0 = .ok (.iload_n 1, 1) := by decide +kernel
theorem dX6_log_1 : decode cX6_log 1 = .ok (.iconst 0, 1) := by decide +kernel
theorem dX6_log_2 : decode cX6_log 2 = .ok (.aload_n 0, 1) := by decide +kernel
theorem dX6_log_3 : decode cX6_log 3 = .ok (.invokevirtual 153, 3) := by decide +kernel
theorem dX6_log_6 : decode cX6_log 6 = .ok (.invokestatic 56, 3) := by decide +kernel
theorem dX6_log_9 : decode cX6_log 9 = .ok (.ifCond .ne 6, 3) := by decide +kernel
theorem dX6_log_12 : decode cX6_log 12 = .ok (.bipush (-102), 2) := by decide +kernel
theorem dX6_log_14 : decode cX6_log 14 = .ok (.ireturn, 1) := by decide +kernel
theorem dX6_log_15 : decode cX6_log 15 = .ok (.aload_n 0, 1) := by decide +kernel
theorem dX6_log_16 : decode cX6_log 16 = .ok (.getfield 109, 3) := by decide +kernel
theorem dX6_log_19 : decode cX6_log 19 = .ok (.bipush 8, 2) := by decide +kernel
theorem dX6_log_21 : decode cX6_log 21 = .ok (.if_icmp .ne 6, 3) := by decide +kernel
theorem dX6_log_24 : decode cX6_log 24 = .ok (.bipush (-104), 2) := by decide +kernel
theorem dX6_log_26 : decode cX6_log 26 = .ok (.ireturn, 1) := by decide +kernel
theorem dX6_log_27 : decode cX6_log 27 = .ok (.aload_n 0, 1) := by decide +kernel
theorem dX6_log_28 : decode cX6_log 28 = .ok (.getfield 28, 3) := by decide +kernel
theorem dX6_log_31 : decode cX6_log 31 = .ok (.aload_n 0, 1) := by decide +kernel
theorem dX6_log_32 : decode cX6_log 32 = .ok (.getfield 109, 3) := by decide +kernel
theorem dX6_log_35 : decode cX6_log 35 = .ok (.iload_n 1, 1) := by decide +kernel
theorem dX6_log_36 : decode cX6_log 36 = .ok (.iastore, 1) := by decide +kernel
theorem dX6_log_37 : decode cX6_log 37 = .ok (.aload_n 0, 1) := by decide +kernel
theorem dX6_log_38 : decode cX6_log 38 = .ok (.dup, 1) := by decide +kernel
theorem dX6_log_39 : decode cX6_log 39 = .ok (.getfield 109, 3) := by decide +kernel
theorem dX6_log_42 : decode cX6_log 42 = .ok (.iconst 1, 1) := by decide +kernel
theorem dX6_log_43 : decode cX6_log 43 = .ok (.iadd, 1) := by decide +kernel
theorem dX6_log_44 : decode cX6_log 44 = .ok (.putfield 109, 3) := by decide +kernel
theorem dX6_log_47 : decode cX6_log 47 = .ok (.aload_n 0, 1) := by decide +kernel
theorem dX6_log_48 : decode cX6_log 48 = .ok (.getfield 109, 3) := by decide +kernel
theorem dX6_log_51 : decode cX6_log 51 = .ok (.ireturn, 1) := by decide +kernel
theorem dX6_forget_0 : decode cX6_forget 0 = .ok (.aload_n 0, 1) := by decide +kernel
theorem dX6_forget_1 : decode cX6_forget 1 = .ok (.getfield 109, 3) := by decide +kernel
theorem dX6_forget_4 : decode cX6_forget 4 = .ok (.istore_n 1, 1) := by decide +kernel
theorem dX6_forget_5 : decode cX6_forget 5 = .ok (.aload_n 0, 1) := by decide +kernel
theorem dX6_forget_6 : decode cX6_forget 6 = .ok (.iconst 0, 1) := by decide +kernel
theorem dX6_forget_7 : decode cX6_forget 7 = .ok (.putfield 109, 3) := by decide +kernel
theorem dX6_forget_10 : decode cX6_forget 10 = .ok (.iload_n 1, 1) := by decide +kernel
theorem dX6_forget_11 : decode cX6_forget 11 = .ok (.ireturn, 1) := by decide +kernel
theorem dX6_isLoggedSo_0 : decode cX6_isLoggedSo 0 = .ok (.aload_n 0, 1) := by decide +kernel
theorem dX6_isLoggedSo_1 : decode cX6_isLoggedSo 1 = .ok (.invokevirtual 115, 3) := by decide +kernel
theorem dX6_isLoggedSo_4 : decode cX6_isLoggedSo 4 = .ok (.aload_n 0, 1) := by decide +kernel
theorem dX6_isLoggedSo_5 : decode cX6_isLoggedSo 5 = .ok (.iload_n 1, 1) := by decide +kernel
theorem dX6_isLoggedSo_6 : decode cX6_isLoggedSo 6 = .ok (.putfield 112, 3) := by decide +kernel
theorem dX6_isLoggedSo_9 : decode cX6_isLoggedSo 9 = .ok (.iconst 1, 1) := by decide +kernel
theorem dX6_isLoggedSo_10 : decode cX6_isLoggedSo 10 = .ok (.istore_n 2, 1) := by decide +kernel
theorem dX6_isLoggedSo_11 : decode cX6_isLoggedSo 11 = .ok (.iconst 0, 1) := by decide +kernel
theorem dX6_isLoggedSo_12 : decode cX6_isLoggedSo 12 = .ok (.istore_n 3, 1) := by decide +kernel
theorem dX6_isLoggedSo_13 : decode cX6_isLoggedSo 13 = .ok (.iload_n 3, 1) := by decide +kernel
theorem dX6_isLoggedSo_14 : decode cX6_isLoggedSo 14 = .ok (.aload_n 0, 1) := by decide +kernel
theorem dX6_isLoggedSo_15 : decode cX6_isLoggedSo 15 = .ok (.getfield 109, 3) := by decide +kernel
theorem dX6_isLoggedSo_18 : decode cX6_isLoggedSo 18 = .ok (.if_icmp .ge 48, 3) := by decide +kernel
theorem dX6_isLoggedSo_21 : decode cX6_isLoggedSo 21 = .ok (.aload_n 0, 1) := by decide +kernel
theorem dX6_isLoggedSo_22 : decode cX6_isLoggedSo 22 = .ok (.iconst 0, 1) := by decide +kernel
theorem dX6_isLoggedSo_23 : decode cX6_isLoggedSo 23 = .ok (.putfield 147, 3) := by decide +kernel
theorem dX6_isLoggedSo_26 : decode cX6_isLoggedSo 26 = .ok (.aload_n 0, 1) := by decide +kernel
theorem dX6_isLoggedSo_27 : decode cX6_isLoggedSo 27 = .ok (.getfield 127, 3) := by decide +kernel
theorem dX6_isLoggedSo_30 : decode cX6_isLoggedSo 30 = .ok (.ifCond .ne 7, 3) := by decide +kernel
theorem dX6_isLoggedSo_33 : decode cX6_isLoggedSo 33 = .ok (.aload_n 0, 1) := by decide +kernel
theorem dX6_isLoggedSo_34 : decode cX6_isLoggedSo 34 = .ok (.invokevirtual 170, 3) := by decide +kernel
theorem dX6_isLoggedSo_37 : decode cX6_isLoggedSo 37 = .ok (.iload_n 2, 1) := by decide +kernel
theorem dX6_isLoggedSo_38 : decode cX6_isLoggedSo 38 = .ok (.ifCond .eq 20, 3) := by decide +kernel
theorem dX6_isLoggedSo_41 : decode cX6_isLoggedSo 41 = .ok (.aload_n 0, 1) := by decide +kernel
theorem dX6_isLoggedSo_42 : decode cX6_isLoggedSo 42 = .ok (.getfield 147, 3) := by decide +kernel
theorem dX6_isLoggedSo_45 : decode cX6_isLoggedSo 45 = .ok (.aload_n 0, 1) := by decide +kernel
theorem dX6_isLoggedSo_46 : decode cX6_isLoggedSo 46 = .ok (.getfield 28, 3) := by decide +kernel
theorem dX6_isLoggedSo_49 : decode cX6_isLoggedSo 49 = .ok (.iload_n 3, 1) := by decide +kernel
theorem dX6_isLoggedSo_50 : decode cX6_isLoggedSo 50 = .ok (.iaload, 1) := by decide +kernel
theorem dX6_isLoggedSo_51 : decode cX6_isLoggedSo 51 = .ok (.if_icmp .ne 7, 3) := by decide +kernel
theorem dX6_isLoggedSo_54 : decode cX6_isLoggedSo 54 = .ok (.iconst 1, 1) := by decide +kernel
theorem dX6_isLoggedSo_55 : decode cX6_isLoggedSo 55 = .ok (.goto 4, 3) := by decide +kernel
theorem dX6_isLoggedSo_58 : decode cX6_isLoggedSo 58 = .ok (.iconst 0, 1) := by decide +kernel
theorem dX6_isLoggedSo_59 : decode cX6_isLoggedSo 59 = .ok (.istore_n 2, 1) := by decide +kernel
theorem dX6_isLoggedSo_60 : decode cX6_isLoggedSo 60 = .ok (.iinc 3 1, 3) := by decide +kernel
theorem dX6_isLoggedSo_63 : decode cX6_isLoggedSo 63 = .ok (.goto (-50), 3) := by decide +kernel
theorem dX6_isLoggedSo_66 : decode cX6_isLoggedSo 66 = .ok (.aload_n 0, 1) := by decide +kernel
theorem dX6_isLoggedSo_67 : decode cX6_isLoggedSo 67 = .ok (.invokevirtual 197, 3) := by decide +kernel
theorem dX6_isLoggedSo_70 : decode cX6_isLoggedSo 70 = .ok (.iload_n 2, 1) := by decide +kernel
theorem dX6_isLoggedSo_71 : decode cX6_isLoggedSo 71 = .ok (.ireturn, 1) := by decide +kernel
theorem dX6_layFits_0 : decode cX6_layFits 0 = .ok (.iconst 0, 1) := by decide +kernel
theorem dX6_layFits_1 : decode cX6_layFits 1 = .ok (.istore_n 1, 1) := by decide +kernel
theorem dX6_layFits_2 : decode cX6_layFits 2 = .ok (.iconst 0, 1) := by decide +kernel
theorem dX6_layFits_3 : decode cX6_layFits 3 = .ok (.istore_n 2, 1) := by decide +kernel
theorem dX6_layFits_4 : decode cX6_layFits 4 = .ok (.iload_n 2, 1) := by decide +kernel
theorem dX6_layFits_5 : decode cX6_layFits 5 = .ok (.iconst 5, 1) := by decide +kernel
theorem dX6_layFits_6 : decode cX6_layFits 6 = .ok (.if_icmp .ge 16, 3) := by decide +kernel
theorem dX6_layFits_9 : decode cX6_layFits 9 = .ok (.aload_n 0, 1) := by decide +kernel
theorem dX6_layFits_10 : decode cX6_layFits 10 = .ok (.getfield 47, 3) := by decide +kernel
theorem dX6_layFits_13 : decode cX6_layFits 13 = .ok (.iload_n 2, 1) := by decide +kernel
theorem dX6_layFits_14 : decode cX6_layFits 14 = .ok (.iconst 0, 1) := by decide +kernel
theorem dX6_layFits_15 : decode cX6_layFits 15 = .ok (.iastore, 1) := by decide +kernel
theorem dX6_layFits_16 : decode cX6_layFits 16 = .ok (.iinc 2 1, 3) := by decide +kernel
theorem dX6_layFits_19 : decode cX6_layFits 19 = .ok (.goto (-15), 3) := by decide +kernel
theorem dX6_layFits_22 : decode cX6_layFits 22 = .ok (.aload_n 0, 1) := by decide +kernel
theorem dX6_layFits_23 : decode cX6_layFits 23 = .ok (.invokevirtual 191, 3) := by decide +kernel
theorem dX6_layFits_26 : decode cX6_layFits 26 = .ok (.iconst 0, 1) := by decide +kernel
theorem dX6_layFits_27 : decode cX6_layFits 27 = .ok (.istore_n 2, 1) := by decide +kernel
theorem dX6_layFits_28 : decode cX6_layFits 28 = .ok (.iload_n 2, 1) := by decide +kernel
theorem dX6_layFits_29 : decode cX6_layFits 29 = .ok (.aload_n 0, 1) := by decide +kernel
theorem dX6_layFits_30 : decode cX6_layFits 30 = .ok (.invokevirtual 153, 3) := by decide +kernel
theorem dX6_layFits_33 : decode cX6_layFits 33 = .ok (.if_icmp .gt 50, 3) := by decide +kernel
theorem dX6_layFits_36 : decode cX6_layFits 36 = .ok (.aload_n 0, 1) := by decide +kernel
theorem dX6_layFits_37 : decode cX6_layFits 37 = .ok (.iload_n 2, 1) := by decide +kernel
theorem dX6_layFits_38 : decode cX6_layFits 38 = .ok (.invokevirtual 218, 3) := by decide +kernel
theorem dX6_layFits_41 : decode cX6_layFits 41 = .ok (.ifCond .eq 36, 3) := by decide +kernel
theorem dX6_layFits_44 : decode cX6_layFits 44 = .ok (.iinc 1 1, 3) := by decide +kernel
theorem dX6_layFits_47 : decode cX6_layFits 47 = .ok (.iconst 0, 1) := by decide +kernel
theorem dX6_layFits_48 : decode cX6_layFits 48 = .ok (.istore_n 3, 1) := by decide +kernel
theorem dX6_layFits_49 : decode cX6_layFits 49 = .ok (.iload_n 3, 1) := by decide +kernel
theorem dX6_layFits_50 : decode cX6_layFits 50 = .ok (.aload_n 0, 1) := by decide +kernel
theorem dX6_layFits_51 : decode cX6_layFits 51 = .ok (.getfield 106, 3) := by decide +kernel
theorem dX6_layFits_54 : decode cX6_layFits 54 = .ok (.if_icmp .ge 23, 3) := by decide +kernel
theorem dX6_layFits_57 : decode cX6_layFits 57 = .ok (.aload_n 0, 1) := by decide +kernel
theorem dX6_layFits_58 : decode cX6_layFits 58 = .ok (.getfield 47, 3) := by decide +kernel
theorem dX6_layFits_61 : decode cX6_layFits 61 = .ok (.iload_n 3, 1) := by decide +kernel
theorem dX6_layFits_62 : decode cX6_layFits 62 = .ok (.dup2, 1) := by decide +kernel
theorem dX6_layFits_63 : decode cX6_layFits 63 = .ok (.iaload, 1) := by decide +kernel
theorem dX6_layFits_64 : decode cX6_layFits 64 = .ok (.iload_n 2, 1) := by decide +kernel
theorem dX6_layFits_65 : decode cX6_layFits 65 = .ok (.iload_n 3, 1) := by decide +kernel
theorem dX6_layFits_66 : decode cX6_layFits 66 = .ok (.ishr, 1) := by decide +kernel
theorem dX6_layFits_67 : decode cX6_layFits 67 = .ok (.iconst 1, 1) := by decide +kernel
theorem dX6_layFits_68 : decode cX6_layFits 68 = .ok (.iand, 1) := by decide +kernel
theorem dX6_layFits_69 : decode cX6_layFits 69 = .ok (.iadd, 1) := by decide +kernel
theorem dX6_layFits_70 : decode cX6_layFits 70 = .ok (.iastore, 1) := by decide +kernel
theorem dX6_layFits_71 : decode cX6_layFits 71 = .ok (.iinc 3 1, 3) := by decide +kernel
theorem dX6_layFits_74 : decode cX6_layFits 74 = .ok (.goto (-25), 3) := by decide +kernel
theorem dX6_layFits_77 : decode cX6_layFits 77 = .ok (.iinc 2 1, 3) := by decide +kernel
theorem dX6_layFits_80 : decode cX6_layFits 80 = .ok (.goto (-52), 3) := by decide +kernel
theorem dX6_layFits_83 : decode cX6_layFits 83 = .ok (.iload_n 1, 1) := by decide +kernel
theorem dX6_layFits_84 : decode cX6_layFits 84 = .ok (.ireturn, 1) := by decide +kernel
theorem dX6_fits_0 : decode cX6_fits 0 = .ok (.aload_n 0, 1) := by decide +kernel
theorem dX6_fits_1 : decode cX6_fits 1 = .ok (.getfield 100, 3) := by decide +kernel
theorem dX6_fits_4 : decode cX6_fits 4 = .ok (.ifCond .eq 17, 3) := by decide +kernel
theorem dX6_fits_7 : decode cX6_fits 7 = .ok (.aload_n 0, 1) := by decide +kernel
theorem dX6_fits_8 : decode cX6_fits 8 = .ok (.getfield 106, 3) := by decide +kernel
theorem dX6_fits_11 : decode cX6_fits 11 = .ok (.ifCond .le 10, 3) := by decide +kernel
theorem dX6_fits_14 : decode cX6_fits 14 = .ok (.aload_n 0, 1) := by decide +kernel
theorem dX6_fits_15 : decode cX6_fits 15 = .ok (.invokevirtual 221, 3) := by decide +kernel
theorem dX6_fits_18 : decode cX6_fits 18 = .ok (.goto 5, 3) := by decide +kernel
theorem dX6_fits_21 : decode cX6_fits 21 = .ok (.bipush (-103), 2) := by decide +kernel
theorem dX6_fits_23 : decode cX6_fits 23 = .ok (.ireturn, 1) := by decide +kernel
theorem dX6_sureNow_0 : decode cX6_sureNow 0 = .ok (.aload_n 0, 1) := by decide +kernel
theorem dX6_sureNow_1 : decode cX6_sureNow 1 = .ok (.invokevirtual 221, 3) := by decide +kernel
theorem dX6_sureNow_4 : decode cX6_sureNow 4 = .ok (.istore_n 2, 1) := by decide +kernel
theorem dX6_sureNow_5 : decode cX6_sureNow 5 = .ok (.iload_n 2, 1) := by decide +kernel
theorem dX6_sureNow_6 : decode cX6_sureNow 6 = .ok (.ifCond .ne 7, 3) := by decide +kernel
theorem dX6_sureNow_9 : decode cX6_sureNow 9 = .ok (.iconst (-1), 1) := by decide +kernel
theorem dX6_sureNow_10 : decode cX6_sureNow 10 = .ok (.goto 31, 3) := by decide +kernel
theorem dX6_sureNow_13 : decode cX6_sureNow 13 = .ok (.aload_n 0, 1) := by decide +kernel
theorem dX6_sureNow_14 : decode cX6_sureNow 14 = .ok (.getfield 47, 3) := by decide +kernel
theorem dX6_sureNow_17 : decode cX6_sureNow 17 = .ok (.iload_n 1, 1) := by decide +kernel
theorem dX6_sureNow_18 : decode cX6_sureNow 18 = .ok (.iaload, 1) := by decide +kernel
theorem dX6_sureNow_19 : decode cX6_sureNow 19 = .ok (.iload_n 2, 1) := by decide +kernel
theorem dX6_sureNow_20 : decode cX6_sureNow 20 = .ok (.if_icmp .ne 7, 3) := by decide +kernel
theorem dX6_sureNow_23 : decode cX6_sureNow 23 = .ok (.iconst 1, 1) := by decide +kernel
theorem dX6_sureNow_24 : decode cX6_sureNow 24 = .ok (.goto 17, 3) := by decide +kernel
theorem dX6_sureNow_27 : decode cX6_sureNow 27 = .ok (.aload_n 0, 1) := by decide +kernel
theorem dX6_sureNow_28 : decode cX6_sureNow 28 = .ok (.getfield 47, 3) := by decide +kernel
theorem dX6_sureNow_31 : decode cX6_sureNow 31 = .ok (.iload_n 1, 1) := by decide +kernel
theorem dX6_sureNow_32 : decode cX6_sureNow 32 = .ok (.iaload, 1) := by decide +kernel
theorem dX6_sureNow_33 : decode cX6_sureNow 33 = .ok (.ifCond .ne 7, 3) := by decide +kernel
theorem dX6_sureNow_36 : decode cX6_sureNow 36 = .ok (.iconst 0, 1) := by decide +kernel
theorem dX6_sureNow_37 : decode cX6_sureNow 37 = .ok (.goto 4, 3) := by decide +kernel
theorem dX6_sureNow_40 : decode cX6_sureNow 40 = .ok (.iconst (-1), 1) := by decide +kernel
theorem dX6_sureNow_41 : decode cX6_sureNow 41 = .ok (.ireturn, 1) := by decide +kernel
theorem dX6_sure_0 : decode cX6_sure 0 = .ok (.aload_n 0, 1) := by decide +kernel
theorem dX6_sure_1 : decode cX6_sure 1 = .ok (.iload_n 1, 1) := by decide +kernel
theorem dX6_sure_2 : decode cX6_sure 2 = .ok (.invokevirtual 141, 3) := by decide +kernel
theorem dX6_sure_5 : decode cX6_sure 5 = .ok (.ifCond .eq 11, 3) := by decide +kernel
theorem dX6_sure_8 : decode cX6_sure 8 = .ok (.aload_n 0, 1) := by decide +kernel
theorem dX6_sure_9 : decode cX6_sure 9 = .ok (.iload_n 1, 1) := by decide +kernel
theorem dX6_sure_10 : decode cX6_sure 10 = .ok (.invokevirtual 224, 3) := by decide +kernel
theorem dX6_sure_13 : decode cX6_sure 13 = .ok (.goto 5, 3) := by decide +kernel
theorem dX6_sure_16 : decode cX6_sure 16 = .ok (.bipush (-101), 2) := by decide +kernel
theorem dX6_sure_18 : decode cX6_sure 18 = .ok (.ireturn, 1) := by decide +kernel
theorem dX6_draw_0 : decode cX6_draw 0 = .ok (.aload_n 0, 1) := by decide +kernel
theorem dX6_draw_1 : decode cX6_draw 1 = .ok (.ldc2_w 227, 3) := by decide +kernel
theorem dX6_draw_4 : decode cX6_draw 4 = .ok (.aload_n 0, 1) := by decide +kernel
theorem dX6_draw_5 : decode cX6_draw 5 = .ok (.getfield 229, 3) := by decide +kernel
theorem dX6_draw_8 : decode cX6_draw 8 = .ok (.lmul, 1) := by decide +kernel
theorem dX6_draw_9 : decode cX6_draw 9 = .ok (.ldc2_w 233, 3) := by decide +kernel
theorem dX6_draw_12 : decode cX6_draw 12 = .ok (.ladd, 1) := by decide +kernel
theorem dX6_draw_13 : decode cX6_draw 13 = .ok (.ldc2_w 235, 3) := by decide +kernel
theorem dX6_draw_16 : decode cX6_draw 16 = .ok (.land, 1) := by decide +kernel
theorem dX6_draw_17 : decode cX6_draw 17 = .ok (.putfield 229, 3) := by decide +kernel
theorem dX6_draw_20 : decode cX6_draw 20 = .ok (.aload_n 0, 1) := by decide +kernel
theorem dX6_draw_21 : decode cX6_draw 21 = .ok (.getfield 229, 3) := by decide +kernel
theorem dX6_draw_24 : decode cX6_draw 24 = .ok (.ldc2_w 237, 3) := by decide +kernel
theorem dX6_draw_27 : decode cX6_draw 27 = .ok (.ldiv, 1) := by decide +kernel
theorem dX6_draw_28 : decode cX6_draw 28 = .ok (.iload_n 1, 1) := by decide +kernel
theorem dX6_draw_29 : decode cX6_draw 29 = .ok (.i2l, 1) := by decide +kernel
theorem dX6_draw_30 : decode cX6_draw 30 = .ok (.lrem, 1) := by decide +kernel
theorem dX6_draw_31 : decode cX6_draw 31 = .ok (.l2i, 1) := by decide +kernel
theorem dX6_draw_32 : decode cX6_draw 32 = .ok (.ireturn, 1) := by decide +kernel
theorem dX6_voyagesNow_0 : decode cX6_voyagesNow 0 = .ok (.aload_n 0, 1) := by decide +kernel
theorem dX6_voyagesNow_1 : decode cX6_voyagesNow 1 = .ok (.invokevirtual 191, 3) := by decide +kernel
theorem dX6_voyagesNow_4 : decode cX6_voyagesNow 4 = .ok (.aload_n 0, 1) := by decide +kernel
theorem dX6_voyagesNow_5 : decode cX6_voyagesNow 5 = .ok (.iload_n 2, 1) := by decide +kernel
theorem dX6_voyagesNow_6 : decode cX6_voyagesNow 6 = .ok (.i2l, 1) := by decide +kernel
theorem dX6_voyagesNow_7 : decode cX6_voyagesNow 7 = .ok (.putfield 229, 3) := by decide +kernel
theorem dX6_voyagesNow_10 : decode cX6_voyagesNow 10 = .ok (.iconst 0, 1) := by decide +kernel
theorem dX6_voyagesNow_11 : decode cX6_voyagesNow 11 = .ok (.istore 4, 2) := by decide +kernel
theorem dX6_voyagesNow_13 : decode cX6_voyagesNow 13 = .ok (.iconst 0, 1) := by decide +kernel
theorem dX6_voyagesNow_14 : decode cX6_voyagesNow 14 = .ok (.istore 5, 2) := by decide +kernel
theorem dX6_voyagesNow_16 : decode cX6_voyagesNow 16 = .ok (.iconst 0, 1) := by decide +kernel
theorem dX6_voyagesNow_17 : decode cX6_voyagesNow 17 = .ok (.istore 6, 2) := by decide +kernel
theorem dX6_voyagesNow_19 : decode cX6_voyagesNow 19 = .ok (.iload 6, 2) := by decide +kernel
theorem dX6_voyagesNow_21 : decode cX6_voyagesNow 21 = .ok (.iload_n 1, 1) := by decide +kernel
theorem dX6_voyagesNow_22 : decode cX6_voyagesNow 22 = .ok (.if_icmp .ge 92, 3) := by decide +kernel
theorem dX6_voyagesNow_25 : decode cX6_voyagesNow 25 = .ok (.iconst 0, 1) := by decide +kernel
theorem dX6_voyagesNow_26 : decode cX6_voyagesNow 26 = .ok (.istore 7, 2) := by decide +kernel
theorem dX6_voyagesNow_28 : decode cX6_voyagesNow 28 = .ok (.iload 7, 2) := by decide +kernel
theorem dX6_voyagesNow_30 : decode cX6_voyagesNow 30 = .ok (.aload_n 0, 1) := by decide +kernel
theorem dX6_voyagesNow_31 : decode cX6_voyagesNow 31 = .ok (.getfield 97, 3) := by decide +kernel
theorem dX6_voyagesNow_34 : decode cX6_voyagesNow 34 = .ok (.if_icmp .ge 36, 3) := by decide +kernel
theorem dX6_voyagesNow_37 : decode cX6_voyagesNow 37 = .ok (.aload_n 0, 1) := by decide +kernel
theorem dX6_voyagesNow_38 : decode cX6_voyagesNow 38 = .ok (.getfield 7, 3) := by decide +kernel
theorem dX6_voyagesNow_41 : decode cX6_voyagesNow 41 = .ok (.iload 7, 2) := by decide +kernel
theorem dX6_voyagesNow_43 : decode cX6_voyagesNow 43 = .ok (.aload_n 0, 1) := by decide +kernel
theorem dX6_voyagesNow_44 : decode cX6_voyagesNow 44 = .ok (.getfield 44, 3) := by decide +kernel
theorem dX6_voyagesNow_47 : decode cX6_voyagesNow 47 = .ok (.iload 7, 2) := by decide +kernel
theorem dX6_voyagesNow_49 : decode cX6_voyagesNow 49 = .ok (.iaload, 1) := by decide +kernel
theorem dX6_voyagesNow_50 : decode cX6_voyagesNow 50 = .ok (.ifCond .le 12, 3) := by decide +kernel
theorem dX6_voyagesNow_53 : decode cX6_voyagesNow 53 = .ok (.aload_n 0, 1) := by decide +kernel
theorem dX6_voyagesNow_54 : decode cX6_voyagesNow 54 = .ok (.bipush 10, 2) := by decide +kernel
theorem dX6_voyagesNow_56 : decode cX6_voyagesNow 56 = .ok (.invokevirtual 239, 3) := by decide +kernel
theorem dX6_voyagesNow_59 : decode cX6_voyagesNow 59 = .ok (.goto 4, 3) := by decide +kernel
theorem dX6_voyagesNow_62 : decode cX6_voyagesNow 62 = .ok (.iconst 0, 1) := by decide +kernel
theorem dX6_voyagesNow_63 : decode cX6_voyagesNow 63 = .ok (.iastore, 1) := by decide +kernel
theorem dX6_voyagesNow_64 : decode cX6_voyagesNow 64 = .ok (.iinc 7 1, 3) := by decide +kernel
theorem dX6_voyagesNow_67 : decode cX6_voyagesNow 67 = .ok (.goto (-39), 3) := by decide +kernel
theorem dX6_voyagesNow_70 : decode cX6_voyagesNow 70 = .ok (.aload_n 0, 1) := by decide +kernel
theorem dX6_voyagesNow_71 : decode cX6_voyagesNow 71 = .ok (.invokevirtual 115, 3) := by decide +kernel
theorem dX6_voyagesNow_74 : decode cX6_voyagesNow 74 = .ok (.aload_n 0, 1) := by decide +kernel
theorem dX6_voyagesNow_75 : decode cX6_voyagesNow 75 = .ok (.invokevirtual 194, 3) := by decide +kernel
theorem dX6_voyagesNow_78 : decode cX6_voyagesNow 78 = .ok (.iload 4, 2) := by decide +kernel
theorem dX6_voyagesNow_80 : decode cX6_voyagesNow 80 = .ok (.aload_n 0, 1) := by decide +kernel
theorem dX6_voyagesNow_81 : decode cX6_voyagesNow 81 = .ok (.getfield 127, 3) := by decide +kernel
theorem dX6_voyagesNow_84 : decode cX6_voyagesNow 84 = .ok (.iconst 1, 1) := by decide +kernel
theorem dX6_voyagesNow_85 : decode cX6_voyagesNow 85 = .ok (.if_icmp .ne 7, 3) := by decide +kernel
theorem dX6_voyagesNow_88 : decode cX6_voyagesNow 88 = .ok (.iconst 1, 1) := by decide +kernel
theorem dX6_voyagesNow_89 : decode cX6_voyagesNow 89 = .ok (.goto 4, 3) := by decide +kernel
theorem dX6_voyagesNow_92 : decode cX6_voyagesNow 92 = .ok (.iconst 0, 1) := by decide +kernel
theorem dX6_voyagesNow_93 : decode cX6_voyagesNow 93 = .ok (.iadd, 1) := by decide +kernel
theorem dX6_voyagesNow_94 : decode cX6_voyagesNow 94 = .ok (.istore 4, 2) := by decide +kernel
theorem dX6_voyagesNow_96 : decode cX6_voyagesNow 96 = .ok (.iload 5, 2) := by decide +kernel
theorem dX6_voyagesNow_98 : decode cX6_voyagesNow 98 = .ok (.aload_n 0, 1) := by decide +kernel
theorem dX6_voyagesNow_99 : decode cX6_voyagesNow 99 = .ok (.getfield 118, 3) := by decide +kernel
theorem dX6_voyagesNow_102 : decode cX6_voyagesNow 102 = .ok (.invokestatic 188, 3) := by decide +kernel
theorem dX6_voyagesNow_105 : decode cX6_voyagesNow 105 = .ok (.iadd, 1) := by decide +kernel
theorem dX6_voyagesNow_106 : decode cX6_voyagesNow 106 = .ok (.istore 5, 2) := by decide +kernel
theorem dX6_voyagesNow_108 : decode cX6_voyagesNow 108 = .ok (.iinc 6 1, 3) := by decide +kernel
theorem dX6_voyagesNow_111 : decode cX6_voyagesNow 111 = .ok (.goto (-92), 3) := by decide +kernel
theorem dX6_voyagesNow_114 : decode cX6_voyagesNow 114 = .ok (.aload_n 0, 1) := by decide +kernel
theorem dX6_voyagesNow_115 : decode cX6_voyagesNow 115 = .ok (.invokevirtual 197, 3) := by decide +kernel
theorem dX6_voyagesNow_118 : decode cX6_voyagesNow 118 = .ok (.iload_n 3, 1) := by decide +kernel
theorem dX6_voyagesNow_119 : decode cX6_voyagesNow 119 = .ok (.ifCond .ne 8, 3) := by decide +kernel
theorem dX6_voyagesNow_122 : decode cX6_voyagesNow 122 = .ok (.iload 4, 2) := by decide +kernel
theorem dX6_voyagesNow_124 : decode cX6_voyagesNow 124 = .ok (.goto 18, 3) := by decide +kernel
theorem dX6_voyagesNow_127 : decode cX6_voyagesNow 127 = .ok (.iload_n 3, 1) := by decide +kernel
theorem dX6_voyagesNow_128 : decode cX6_voyagesNow 128 = .ok (.iconst 1, 1) := by decide +kernel
theorem dX6_voyagesNow_129 : decode cX6_voyagesNow 129 = .ok (.if_icmp .ne 8, 3) := by decide +kernel
theorem dX6_voyagesNow_132 : decode cX6_voyagesNow 132 = .ok (.iload 5, 2) := by decide +kernel
theorem dX6_voyagesNow_134 : decode cX6_voyagesNow 134 = .ok (.goto 8, 3) := by decide +kernel
theorem dX6_voyagesNow_137 : decode cX6_voyagesNow 137 = .ok (.aload_n 0, 1) := by decide +kernel
theorem dX6_voyagesNow_138 : decode cX6_voyagesNow 138 = .ok (.getfield 229, 3) := by decide +kernel
theorem dX6_voyagesNow_141 : decode cX6_voyagesNow 141 = .ok (.l2i, 1) := by decide +kernel
theorem dX6_voyagesNow_142 : decode cX6_voyagesNow 142 = .ok (.ireturn, 1) := by decide +kernel
theorem dX6_voyages_0 : decode cX6_voyages 0 = .ok (.iload_n 1, 1) := by decide +kernel
theorem dX6_voyages_1 : decode cX6_voyages 1 = .ok (.iconst 1, 1) := by decide +kernel
theorem dX6_voyages_2 : decode cX6_voyages 2 = .ok (.bipush 20, 2) := by decide +kernel
theorem dX6_voyages_4 : decode cX6_voyages 4 = .ok (.invokestatic 56, 3) := by decide +kernel
theorem dX6_voyages_7 : decode cX6_voyages 7 = .ok (.ifCond .eq 16, 3) := by decide +kernel
theorem dX6_voyages_10 : decode cX6_voyages 10 = .ok (.iload_n 2, 1) := by decide +kernel
theorem dX6_voyages_11 : decode cX6_voyages 11 = .ok (.ifCond .lt 12, 3) := by decide +kernel
theorem dX6_voyages_14 : decode cX6_voyages 14 = .ok (.iload_n 3, 1) := by decide +kernel
theorem dX6_voyages_15 : decode cX6_voyages 15 = .ok (.iconst 0, 1) := by decide +kernel
theorem dX6_voyages_16 : decode cX6_voyages 16 = .ok (.iconst 2, 1) := by decide +kernel
theorem dX6_voyages_17 : decode cX6_voyages 17 = .ok (.invokestatic 56, 3) := by decide +kernel
theorem dX6_voyages_20 : decode cX6_voyages 20 = .ok (.ifCond .ne 6, 3) := by decide +kernel
theorem dX6_voyages_23 : decode cX6_voyages 23 = .ok (.bipush (-102), 2) := by decide +kernel
theorem dX6_voyages_25 : decode cX6_voyages 25 = .ok (.ireturn, 1) := by decide +kernel
theorem dX6_voyages_26 : decode cX6_voyages 26 = .ok (.aload_n 0, 1) := by decide +kernel
theorem dX6_voyages_27 : decode cX6_voyages 27 = .ok (.getfield 100, 3) := by decide +kernel
theorem dX6_voyages_30 : decode cX6_voyages 30 = .ok (.ifCond .eq 20, 3) := by decide +kernel
theorem dX6_voyages_33 : decode cX6_voyages 33 = .ok (.aload_n 0, 1) := by decide +kernel
theorem dX6_voyages_34 : decode cX6_voyages 34 = .ok (.getfield 106, 3) := by decide +kernel
theorem dX6_voyages_37 : decode cX6_voyages 37 = .ok (.ifCond .le 13, 3) := by decide +kernel
theorem dX6_voyages_40 : decode cX6_voyages 40 = .ok (.aload_n 0, 1) := by decide +kernel
theorem dX6_voyages_41 : decode cX6_voyages 41 = .ok (.iload_n 1, 1) := by decide +kernel
theorem dX6_voyages_42 : decode cX6_voyages 42 = .ok (.iload_n 2, 1) := by decide +kernel
theorem dX6_voyages_43 : decode cX6_voyages 43 = .ok (.iload_n 3, 1) := by decide +kernel
theorem dX6_voyages_44 : decode cX6_voyages 44 = .ok (.invokevirtual 242, 3) := by decide +kernel
theorem dX6_voyages_47 : decode cX6_voyages 47 = .ok (.goto 5, 3) := by decide +kernel
theorem dX6_voyages_50 : decode cX6_voyages 50 = .ok (.bipush (-103), 2) := by decide +kernel
theorem dX6_voyages_52 : decode cX6_voyages 52 = .ok (.ireturn, 1) := by decide +kernel
theorem dX6_image_0 : decode cX6_image 0 = .ok (.aload_n 0, 1) := by decide +kernel
theorem dX6_image_1 : decode cX6_image 1 = .ok (.getfield 100, 3) := by decide +kernel
theorem dX6_image_4 : decode cX6_image 4 = .ok (.ifCond .ne 6, 3) := by decide +kernel
theorem dX6_image_7 : decode cX6_image 7 = .ok (.bipush (-103), 2) := by decide +kernel
theorem dX6_image_9 : decode cX6_image 9 = .ok (.ireturn, 1) := by decide +kernel
theorem dX6_image_10 : decode cX6_image 10 = .ok (.aload_n 0, 1) := by decide +kernel
theorem dX6_image_11 : decode cX6_image 11 = .ok (.iconst 1, 1) := by decide +kernel
theorem dX6_image_12 : decode cX6_image 12 = .ok (.putfield 246, 3) := by decide +kernel
theorem dX6_image_15 : decode cX6_image 15 = .ok (.aload_n 0, 1) := by decide +kernel
theorem dX6_image_16 : decode cX6_image 16 = .ok (.aload_n 0, 1) := by decide +kernel
theorem dX6_image_17 : decode cX6_image 17 = .ok (.getfield 103, 3) := by decide +kernel
theorem dX6_image_20 : decode cX6_image 20 = .ok (.putfield 249, 3) := by decide +kernel
theorem dX6_image_23 : decode cX6_image 23 = .ok (.aload_n 0, 1) := by decide +kernel
theorem dX6_image_24 : decode cX6_image 24 = .ok (.aload_n 0, 1) := by decide +kernel
theorem dX6_image_25 : decode cX6_image 25 = .ok (.getfield 106, 3) := by decide +kernel
theorem dX6_image_28 : decode cX6_image 28 = .ok (.putfield 252, 3) := by decide +kernel
theorem dX6_image_31 : decode cX6_image 31 = .ok (.aload_n 0, 1) := by decide +kernel
theorem dX6_image_32 : decode cX6_image 32 = .ok (.aload_n 0, 1) := by decide +kernel
theorem dX6_image_33 : decode cX6_image 33 = .ok (.getfield 112, 3) := by decide +kernel
theorem dX6_image_36 : decode cX6_image 36 = .ok (.putfield 255, 3) := by decide +kernel
theorem dX6_image_39 : decode cX6_image 39 = .ok (.aload_n 0, 1) := by decide +kernel
theorem dX6_image_40 : decode cX6_image 40 = .ok (.aload_n 0, 1) := by decide +kernel
theorem dX6_image_41 : decode cX6_image 41 = .ok (.getfield 118, 3) := by decide +kernel
theorem dX6_image_44 : decode cX6_image 44 = .ok (.putfield 258, 3) := by decide +kernel
theorem dX6_image_47 : decode cX6_image 47 = .ok (.aload_n 0, 1) := by decide +kernel
theorem dX6_image_48 : decode cX6_image 48 = .ok (.aload_n 0, 1) := by decide +kernel
theorem dX6_image_49 : decode cX6_image 49 = .ok (.getfield 121, 3) := by decide +kernel
theorem dX6_image_52 : decode cX6_image 52 = .ok (.putfield 261, 3) := by decide +kernel
theorem dX6_image_55 : decode cX6_image 55 = .ok (.aload_n 0, 1) := by decide +kernel
theorem dX6_image_56 : decode cX6_image 56 = .ok (.aload_n 0, 1) := by decide +kernel
theorem dX6_image_57 : decode cX6_image 57 = .ok (.getfield 124, 3) := by decide +kernel
theorem dX6_image_60 : decode cX6_image 60 = .ok (.putfield 264, 3) := by decide +kernel
theorem dX6_image_63 : decode cX6_image 63 = .ok (.aload_n 0, 1) := by decide +kernel
theorem dX6_image_64 : decode cX6_image 64 = .ok (.aload_n 0, 1) := by decide +kernel
theorem dX6_image_65 : decode cX6_image 65 = .ok (.getfield 127, 3) := by decide +kernel
theorem dX6_image_68 : decode cX6_image 68 = .ok (.putfield 267, 3) := by decide +kernel
theorem dX6_image_71 : decode cX6_image 71 = .ok (.aload_n 0, 1) := by decide +kernel
theorem dX6_image_72 : decode cX6_image 72 = .ok (.aload_n 0, 1) := by decide +kernel
theorem dX6_image_73 : decode cX6_image 73 = .ok (.getfield 109, 3) := by decide +kernel
theorem dX6_image_76 : decode cX6_image 76 = .ok (.putfield 270, 3) := by decide +kernel
theorem dX6_image_79 : decode cX6_image 79 = .ok (.iconst 0, 1) := by decide +kernel
theorem dX6_image_80 : decode cX6_image 80 = .ok (.istore_n 1, 1) := by decide +kernel
theorem dX6_image_81 : decode cX6_image 81 = .ok (.iload_n 1, 1) := by decide +kernel
theorem dX6_image_82 : decode cX6_image 82 = .ok (.iconst 5, 1) := by decide +kernel
theorem dX6_image_83 : decode cX6_image 83 = .ok (.if_icmp .ge 21, 3) := by decide +kernel
theorem dX6_image_86 : decode cX6_image 86 = .ok (.aload_n 0, 1) := by decide +kernel
theorem dX6_image_87 : decode cX6_image 87 = .ok (.getfield 50, 3) := by decide +kernel
theorem dX6_image_90 : decode cX6_image 90 = .ok (.iload_n 1, 1) := by decide +kernel
theorem dX6_image_91 : decode cX6_image 91 = .ok (.aload_n 0, 1) := by decide +kernel
theorem dX6_image_92 : decode cX6_image 92 = .ok (.getfield 25, 3) := by decide +kernel
theorem dX6_image_95 : decode cX6_image 95 = .ok (.iload_n 1, 1) := by decide +kernel
theorem dX6_image_96 : decode cX6_image 96 = .ok (.iaload, 1) := by decide +kernel
theorem dX6_image_97 : decode cX6_image 97 = .ok (.iastore, 1) := by decide +kernel
theorem dX6_image_98 : decode cX6_image 98 = .ok (.iinc 1 1, 3) := by decide +kernel
theorem dX6_image_101 : decode cX6_image 101 = .ok (.goto (-20), 3) := by decide +kernel
theorem dX6_image_104 : decode cX6_image 104 = .ok (.iconst 0, 1) := by decide +kernel
theorem dX6_image_105 : decode cX6_image 105 = .ok (.istore_n 1, 1) := by decide +kernel
theorem dX6_image_106 : decode cX6_image 106 = .ok (.iload_n 1, 1) := by decide +kernel
theorem dX6_image_107 : decode cX6_image 107 = .ok (.bipush 8, 2) := by decide +kernel
theorem dX6_image_109 : decode cX6_image 109 = .ok (.if_icmp .ge 21, 3) := by decide +kernel
theorem dX6_image_112 : decode cX6_image 112 = .ok (.aload_n 0, 1) := by decide +kernel
theorem dX6_image_113 : decode cX6_image 113 = .ok (.getfield 53, 3) := by decide +kernel
theorem dX6_image_116 : decode cX6_image 116 = .ok (.iload_n 1, 1) := by decide +kernel
theorem dX6_image_117 : decode cX6_image 117 = .ok (.aload_n 0, 1) := by decide +kernel
theorem dX6_image_118 : decode cX6_image 118 = .ok (.getfield 28, 3) := by decide +kernel
theorem dX6_image_121 : decode cX6_image 121 = .ok (.iload_n 1, 1) := by decide +kernel
theorem dX6_image_122 : decode cX6_image 122 = .ok (.iaload, 1) := by decide +kernel
theorem dX6_image_123 : decode cX6_image 123 = .ok (.iastore, 1) := by decide +kernel
theorem dX6_image_124 : decode cX6_image 124 = .ok (.iinc 1 1, 3) := by decide +kernel
theorem dX6_image_127 : decode cX6_image 127 = .ok (.goto (-21), 3) := by decide +kernel
theorem dX6_image_130 : decode cX6_image 130 = .ok (.aload_n 0, 1) := by decide +kernel
theorem dX6_image_131 : decode cX6_image 131 = .ok (.getfield 124, 3) := by decide +kernel
theorem dX6_image_134 : decode cX6_image 134 = .ok (.ireturn, 1) := by decide +kernel
theorem dX6_restore_0 : decode cX6_restore 0 = .ok (.aload_n 0, 1) := by decide +kernel
theorem dX6_restore_1 : decode cX6_restore 1 = .ok (.getfield 246, 3) := by decide +kernel
theorem dX6_restore_4 : decode cX6_restore 4 = .ok (.ifCond .eq 14, 3) := by decide +kernel
theorem dX6_restore_7 : decode cX6_restore 7 = .ok (.aload_n 0, 1) := by decide +kernel
theorem dX6_restore_8 : decode cX6_restore 8 = .ok (.getfield 249, 3) := by decide +kernel
theorem dX6_restore_11 : decode cX6_restore 11 = .ok (.aload_n 0, 1) := by decide +kernel
theorem dX6_restore_12 : decode cX6_restore 12 = .ok (.getfield 103, 3) := by decide +kernel
theorem dX6_restore_15 : decode cX6_restore 15 = .ok (.if_icmp .eq 6, 3) := by decide +kernel
theorem dX6_restore_18 : decode cX6_restore 18 = .ok (.bipush (-103), 2) := by decide +kernel
theorem dX6_restore_20 : decode cX6_restore 20 = .ok (.ireturn, 1) := by decide +kernel
theorem dX6_restore_21 : decode cX6_restore 21 = .ok (.aload_n 0, 1) := by decide +kernel
theorem dX6_restore_22 : decode cX6_restore 22 = .ok (.aload_n 0, 1) := by decide +kernel
theorem dX6_restore_23 : decode cX6_restore 23 = .ok (.getfield 252, 3) := by decide +kernel
theorem dX6_restore_26 : decode cX6_restore 26 = .ok (.putfield 106, 3) := by decide +kernel
theorem dX6_restore_29 : decode cX6_restore 29 = .ok (.aload_n 0, 1) := by decide +kernel
theorem dX6_restore_30 : decode cX6_restore 30 = .ok (.aload_n 0, 1) := by decide +kernel
theorem dX6_restore_31 : decode cX6_restore 31 = .ok (.getfield 255, 3) := by decide +kernel
theorem dX6_restore_34 : decode cX6_restore 34 = .ok (.putfield 112, 3) := by decide +kernel
theorem dX6_restore_37 : decode cX6_restore 37 = .ok (.aload_n 0, 1) := by decide +kernel
theorem dX6_restore_38 : decode cX6_restore 38 = .ok (.aload_n 0, 1) := by decide +kernel
theorem dX6_restore_39 : decode cX6_restore 39 = .ok (.getfield 258, 3) := by decide +kernel
theorem dX6_restore_42 : decode cX6_restore 42 = .ok (.putfield 118, 3) := by decide +kernel
theorem dX6_restore_45 : decode cX6_restore 45 = .ok (.aload_n 0, 1) := by decide +kernel
theorem dX6_restore_46 : decode cX6_restore 46 = .ok (.aload_n 0, 1) := by decide +kernel
theorem dX6_restore_47 : decode cX6_restore 47 = .ok (.getfield 261, 3) := by decide +kernel
theorem dX6_restore_50 : decode cX6_restore 50 = .ok (.putfield 121, 3) := by decide +kernel
theorem dX6_restore_53 : decode cX6_restore 53 = .ok (.aload_n 0, 1) := by decide +kernel
theorem dX6_restore_54 : decode cX6_restore 54 = .ok (.aload_n 0, 1) := by decide +kernel
theorem dX6_restore_55 : decode cX6_restore 55 = .ok (.getfield 264, 3) := by decide +kernel
theorem dX6_restore_58 : decode cX6_restore 58 = .ok (.putfield 124, 3) := by decide +kernel
theorem dX6_restore_61 : decode cX6_restore 61 = .ok (.aload_n 0, 1) := by decide +kernel
theorem dX6_restore_62 : decode cX6_restore 62 = .ok (.aload_n 0, 1) := by decide +kernel
theorem dX6_restore_63 : decode cX6_restore 63 = .ok (.getfield 267, 3) := by decide +kernel
theorem dX6_restore_66 : decode cX6_restore 66 = .ok (.putfield 127, 3) := by decide +kernel
theorem dX6_restore_69 : decode cX6_restore 69 = .ok (.aload_n 0, 1) := by decide +kernel
theorem dX6_restore_70 : decode cX6_restore 70 = .ok (.aload_n 0, 1) := by decide +kernel
theorem dX6_restore_71 : decode cX6_restore 71 = .ok (.getfield 270, 3) := by decide +kernel
theorem dX6_restore_74 : decode cX6_restore 74 = .ok (.putfield 109, 3) := by decide +kernel
theorem dX6_restore_77 : decode cX6_restore 77 = .ok (.iconst 0, 1) := by decide +kernel
theorem dX6_restore_78 : decode cX6_restore 78 = .ok (.istore_n 1, 1) := by decide +kernel
theorem dX6_restore_79 : decode cX6_restore 79 = .ok (.iload_n 1, 1) := by decide +kernel
theorem dX6_restore_80 : decode cX6_restore 80 = .ok (.iconst 5, 1) := by decide +kernel
theorem dX6_restore_81 : decode cX6_restore 81 = .ok (.if_icmp .ge 21, 3) := by decide +kernel
theorem dX6_restore_84 : decode cX6_restore 84 = .ok (.aload_n 0, 1) := by decide +kernel
theorem dX6_restore_85 : decode cX6_restore 85 = .ok (.getfield 25, 3) := by decide +kernel
theorem dX6_restore_88 : decode cX6_restore 88 = .ok (.iload_n 1, 1) := by decide +kernel
theorem dX6_restore_89 : decode cX6_restore 89 = .ok (.aload_n 0, 1) := by decide +kernel
theorem dX6_restore_90 : decode cX6_restore 90 = .ok (.getfield 50, 3) := by decide +kernel
theorem dX6_restore_93 : decode cX6_restore 93 = .ok (.iload_n 1, 1) := by decide +kernel
theorem dX6_restore_94 : decode cX6_restore 94 = .ok (.iaload, 1) := by decide +kernel
theorem dX6_restore_95 : decode cX6_restore 95 = .ok (.iastore, 1) := by decide +kernel
theorem dX6_restore_96 : decode cX6_restore 96 = .ok (.iinc 1 1, 3) := by decide +kernel
theorem dX6_restore_99 : decode cX6_restore 99 = .ok (.goto (-20), 3) := by decide +kernel
theorem dX6_restore_102 : decode cX6_restore 102 = .ok (.iconst 0, 1) := by decide +kernel
theorem dX6_restore_103 : decode cX6_restore 103 = .ok (.istore_n 1, 1) := by decide +kernel
theorem dX6_restore_104 : decode cX6_restore 104 = .ok (.iload_n 1, 1) := by decide +kernel
theorem dX6_restore_105 : decode cX6_restore 105 = .ok (.bipush 8, 2) := by decide +kernel
theorem dX6_restore_107 : decode cX6_restore 107 = .ok (.if_icmp .ge 21, 3) := by decide +kernel
theorem dX6_restore_110 : decode cX6_restore 110 = .ok (.aload_n 0, 1) := by decide +kernel
theorem dX6_restore_111 : decode cX6_restore 111 = .ok (.getfield 28, 3) := by decide +kernel
theorem dX6_restore_114 : decode cX6_restore 114 = .ok (.iload_n 1, 1) := by decide +kernel
theorem dX6_restore_115 : decode cX6_restore 115 = .ok (.aload_n 0, 1) := by decide +kernel
theorem dX6_restore_116 : decode cX6_restore 116 = .ok (.getfield 53, 3) := by decide +kernel
theorem dX6_restore_119 : decode cX6_restore 119 = .ok (.iload_n 1, 1) := by decide +kernel
theorem dX6_restore_120 : decode cX6_restore 120 = .ok (.iaload, 1) := by decide +kernel
theorem dX6_restore_121 : decode cX6_restore 121 = .ok (.iastore, 1) := by decide +kernel
theorem dX6_restore_122 : decode cX6_restore 122 = .ok (.iinc 1 1, 3) := by decide +kernel
theorem dX6_restore_125 : decode cX6_restore 125 = .ok (.goto (-21), 3) := by decide +kernel
theorem dX6_restore_128 : decode cX6_restore 128 = .ok (.aload_n 0, 1) := by decide +kernel
theorem dX6_restore_129 : decode cX6_restore 129 = .ok (.getfield 124, 3) := by decide +kernel
theorem dX6_restore_132 : decode cX6_restore 132 = .ok (.ireturn, 1) := by decide +kernel
theorem dX6_howMany_0 : decode cX6_howMany 0 = .ok (.iload_n 1, 1) := by decide +kernel
theorem dX6_howMany_1 : decode cX6_howMany 1 = .ok (.tableswitch 117 0 10 #[59, 64, 69, 74, 79, 87, 92, 97, 102, 107, 112], 59) := by decide +kernel
theorem dX6_howMany_60 : decode cX6_howMany 60 = .ok (.aload_n 0, 1) := by decide +kernel
theorem dX6_howMany_61 : decode cX6_howMany 61 = .ok (.getfield 97, 3) := by decide +kernel
theorem dX6_howMany_64 : decode cX6_howMany 64 = .ok (.ireturn, 1) := by decide +kernel
theorem dX6_howMany_65 : decode cX6_howMany 65 = .ok (.aload_n 0, 1) := by decide +kernel
theorem dX6_howMany_66 : decode cX6_howMany 66 = .ok (.getfield 91, 3) := by decide +kernel
theorem dX6_howMany_69 : decode cX6_howMany 69 = .ok (.ireturn, 1) := by decide +kernel
theorem dX6_howMany_70 : decode cX6_howMany 70 = .ok (.aload_n 0, 1) := by decide +kernel
theorem dX6_howMany_71 : decode cX6_howMany 71 = .ok (.getfield 94, 3) := by decide +kernel
theorem dX6_howMany_74 : decode cX6_howMany 74 = .ok (.ireturn, 1) := by decide +kernel
theorem dX6_howMany_75 : decode cX6_howMany 75 = .ok (.aload_n 0, 1) := by decide +kernel
theorem dX6_howMany_76 : decode cX6_howMany 76 = .ok (.getfield 106, 3) := by decide +kernel
theorem dX6_howMany_79 : decode cX6_howMany 79 = .ok (.ireturn, 1) := by decide +kernel
theorem dX6_howMany_80 : decode cX6_howMany 80 = .ok (.aload_n 0, 1) := by decide +kernel
theorem dX6_howMany_81 : decode cX6_howMany 81 = .ok (.getfield 118, 3) := by decide +kernel
theorem dX6_howMany_84 : decode cX6_howMany 84 = .ok (.invokestatic 188, 3) := by decide +kernel
theorem dX6_howMany_87 : decode cX6_howMany 87 = .ok (.ireturn, 1) := by decide +kernel
theorem dX6_howMany_88 : decode cX6_howMany 88 = .ok (.aload_n 0, 1) := by decide +kernel
theorem dX6_howMany_89 : decode cX6_howMany 89 = .ok (.getfield 121, 3) := by decide +kernel
theorem dX6_howMany_92 : decode cX6_howMany 92 = .ok (.ireturn, 1) := by decide +kernel
theorem dX6_howMany_93 : decode cX6_howMany 93 = .ok (.aload_n 0, 1) := by decide +kernel
theorem dX6_howMany_94 : decode cX6_howMany 94 = .ok (.getfield 124, 3) := by decide +kernel
theorem dX6_howMany_97 : decode cX6_howMany 97 = .ok (.ireturn, 1) := by decide +kernel
theorem dX6_howMany_98 : decode cX6_howMany 98 = .ok (.aload_n 0, 1) := by decide +kernel
theorem dX6_howMany_99 : decode cX6_howMany 99 = .ok (.getfield 127, 3) := by decide +kernel
theorem dX6_howMany_102 : decode cX6_howMany 102 = .ok (.ireturn, 1) := by decide +kernel
theorem dX6_howMany_103 : decode cX6_howMany 103 = .ok (.aload_n 0, 1) := by decide +kernel
theorem dX6_howMany_104 : decode cX6_howMany 104 = .ok (.getfield 109, 3) := by decide +kernel
theorem dX6_howMany_107 : decode cX6_howMany 107 = .ok (.ireturn, 1) := by decide +kernel
theorem dX6_howMany_108 : decode cX6_howMany 108 = .ok (.aload_n 0, 1) := by decide +kernel
theorem dX6_howMany_109 : decode cX6_howMany 109 = .ok (.getfield 60, 3) := by decide +kernel
theorem dX6_howMany_112 : decode cX6_howMany 112 = .ok (.ireturn, 1) := by decide +kernel
theorem dX6_howMany_113 : decode cX6_howMany 113 = .ok (.aload_n 0, 1) := by decide +kernel
theorem dX6_howMany_114 : decode cX6_howMany 114 = .ok (.getfield 103, 3) := by decide +kernel
theorem dX6_howMany_117 : decode cX6_howMany 117 = .ok (.ireturn, 1) := by decide +kernel
theorem dX6_howMany_118 : decode cX6_howMany 118 = .ok (.bipush (-102), 2) := by decide +kernel
theorem dX6_howMany_120 : decode cX6_howMany 120 = .ok (.ireturn, 1) := by decide +kernel
theorem dX6_count_0 : decode cX6_count 0 = .ok (.aload_n 0, 1) := by decide +kernel
theorem dX6_count_1 : decode cX6_count 1 = .ok (.iload_n 1, 1) := by decide +kernel
theorem dX6_count_2 : decode cX6_count 2 = .ok (.invokevirtual 273, 3) := by decide +kernel
theorem dX6_count_5 : decode cX6_count 5 = .ok (.ireturn, 1) := by decide +kernel
theorem dX6_mix_0 : decode cX6_mix 0 = .ok (.aload_n 0, 1) := by decide +kernel
theorem dX6_mix_1 : decode cX6_mix 1 = .ok (.ldc2_w 276, 3) := by decide +kernel
theorem dX6_mix_4 : decode cX6_mix 4 = .ok (.aload_n 0, 1) := by decide +kernel
theorem dX6_mix_5 : decode cX6_mix 5 = .ok (.getfield 278, 3) := by decide +kernel
theorem dX6_mix_8 : decode cX6_mix 8 = .ok (.lmul, 1) := by decide +kernel
theorem dX6_mix_9 : decode cX6_mix 9 = .ok (.lload_n 1, 1) := by decide +kernel
theorem dX6_mix_10 : decode cX6_mix 10 = .ok (.ladd, 1) := by decide +kernel
theorem dX6_mix_11 : decode cX6_mix 11 = .ok (.putfield 278, 3) := by decide +kernel
theorem dX6_mix_14 : decode cX6_mix 14 = .ok (.return_, 1) := by decide +kernel
theorem dX6_mixOutcome_0 : decode cX6_mixOutcome 0 = .ok (.iconst 0, 1) := by decide +kernel
theorem dX6_mixOutcome_1 : decode cX6_mixOutcome 1 = .ok (.istore_n 1, 1) := by decide +kernel
theorem dX6_mixOutcome_2 : decode cX6_mixOutcome 2 = .ok (.iload_n 1, 1) := by decide +kernel
theorem dX6_mixOutcome_3 : decode cX6_mixOutcome 3 = .ok (.iconst 3, 1) := by decide +kernel
theorem dX6_mixOutcome_4 : decode cX6_mixOutcome 4 = .ok (.if_icmp .ge 19, 3) := by decide +kernel
theorem dX6_mixOutcome_7 : decode cX6_mixOutcome 7 = .ok (.aload_n 0, 1) := by decide +kernel
theorem dX6_mixOutcome_8 : decode cX6_mixOutcome 8 = .ok (.aload_n 0, 1) := by decide +kernel
theorem dX6_mixOutcome_9 : decode cX6_mixOutcome 9 = .ok (.iload_n 1, 1) := by decide +kernel
theorem dX6_mixOutcome_10 : decode cX6_mixOutcome 10 = .ok (.invokevirtual 200, 3) := by decide +kernel
theorem dX6_mixOutcome_13 : decode cX6_mixOutcome 13 = .ok (.i2l, 1) := by decide +kernel
theorem dX6_mixOutcome_14 : decode cX6_mixOutcome 14 = .ok (.invokevirtual 281, 3) := by decide +kernel
theorem dX6_mixOutcome_17 : decode cX6_mixOutcome 17 = .ok (.iinc 1 1, 3) := by decide +kernel
theorem dX6_mixOutcome_20 : decode cX6_mixOutcome 20 = .ok (.goto (-18), 3) := by decide +kernel
theorem dX6_mixOutcome_23 : decode cX6_mixOutcome 23 = .ok (.aload_n 0, 1) := by decide +kernel
theorem dX6_mixOutcome_24 : decode cX6_mixOutcome 24 = .ok (.aload_n 0, 1) := by decide +kernel
theorem dX6_mixOutcome_25 : decode cX6_mixOutcome 25 = .ok (.iconst 2, 1) := by decide +kernel
theorem dX6_mixOutcome_26 : decode cX6_mixOutcome 26 = .ok (.iconst 0, 1) := by decide +kernel
theorem dX6_mixOutcome_27 : decode cX6_mixOutcome 27 = .ok (.invokevirtual 206, 3) := by decide +kernel
theorem dX6_mixOutcome_30 : decode cX6_mixOutcome 30 = .ok (.i2l, 1) := by decide +kernel
theorem dX6_mixOutcome_31 : decode cX6_mixOutcome 31 = .ok (.invokevirtual 281, 3) := by decide +kernel
theorem dX6_mixOutcome_34 : decode cX6_mixOutcome 34 = .ok (.aload_n 0, 1) := by decide +kernel
theorem dX6_mixOutcome_35 : decode cX6_mixOutcome 35 = .ok (.aload_n 0, 1) := by decide +kernel
theorem dX6_mixOutcome_36 : decode cX6_mixOutcome 36 = .ok (.iconst 2, 1) := by decide +kernel
theorem dX6_mixOutcome_37 : decode cX6_mixOutcome 37 = .ok (.iconst 1, 1) := by decide +kernel
theorem dX6_mixOutcome_38 : decode cX6_mixOutcome 38 = .ok (.invokevirtual 206, 3) := by decide +kernel
theorem dX6_mixOutcome_41 : decode cX6_mixOutcome 41 = .ok (.i2l, 1) := by decide +kernel
theorem dX6_mixOutcome_42 : decode cX6_mixOutcome 42 = .ok (.invokevirtual 281, 3) := by decide +kernel
theorem dX6_mixOutcome_45 : decode cX6_mixOutcome 45 = .ok (.aload_n 0, 1) := by decide +kernel
theorem dX6_mixOutcome_46 : decode cX6_mixOutcome 46 = .ok (.aload_n 0, 1) := by decide +kernel
theorem dX6_mixOutcome_47 : decode cX6_mixOutcome 47 = .ok (.invokevirtual 212, 3) := by decide +kernel
theorem dX6_mixOutcome_50 : decode cX6_mixOutcome 50 = .ok (.i2l, 1) := by decide +kernel
theorem dX6_mixOutcome_51 : decode cX6_mixOutcome 51 = .ok (.invokevirtual 281, 3) := by decide +kernel
theorem dX6_mixOutcome_54 : decode cX6_mixOutcome 54 = .ok (.aload_n 0, 1) := by decide +kernel
theorem dX6_mixOutcome_55 : decode cX6_mixOutcome 55 = .ok (.aload_n 0, 1) := by decide +kernel
theorem dX6_mixOutcome_56 : decode cX6_mixOutcome 56 = .ok (.invokevirtual 215, 3) := by decide +kernel
theorem dX6_mixOutcome_59 : decode cX6_mixOutcome 59 = .ok (.i2l, 1) := by decide +kernel
theorem dX6_mixOutcome_60 : decode cX6_mixOutcome 60 = .ok (.invokevirtual 281, 3) := by decide +kernel
theorem dX6_mixOutcome_63 : decode cX6_mixOutcome 63 = .ok (.return_, 1) := by decide +kernel
theorem dX6_digest_0 : decode cX6_digest 0 = .ok (.aload_n 0, 1) := by decide +kernel
theorem dX6_digest_1 : decode cX6_digest 1 = .ok (.ldc2_w 285, 3) := by decide +kernel
theorem dX6_digest_4 : decode cX6_digest 4 = .ok (.putfield 278, 3) := by decide +kernel
theorem dX6_digest_7 : decode cX6_digest 7 = .ok (.iconst 0, 1) := by decide +kernel
theorem dX6_digest_8 : decode cX6_digest 8 = .ok (.istore_n 1, 1) := by decide +kernel
theorem dX6_digest_9 : decode cX6_digest 9 = .ok (.iload_n 1, 1) := by decide +kernel
theorem dX6_digest_10 : decode cX6_digest 10 = .ok (.aload_n 0, 1) := by decide +kernel
theorem dX6_digest_11 : decode cX6_digest 11 = .ok (.getfield 97, 3) := by decide +kernel
theorem dX6_digest_14 : decode cX6_digest 14 = .ok (.if_icmp .ge 31, 3) := by decide +kernel
theorem dX6_digest_17 : decode cX6_digest 17 = .ok (.aload_n 0, 1) := by decide +kernel
theorem dX6_digest_18 : decode cX6_digest 18 = .ok (.aload_n 0, 1) := by decide +kernel
theorem dX6_digest_19 : decode cX6_digest 19 = .ok (.getfield 7, 3) := by decide +kernel
theorem dX6_digest_22 : decode cX6_digest 22 = .ok (.iload_n 1, 1) := by decide +kernel
theorem dX6_digest_23 : decode cX6_digest 23 = .ok (.iaload, 1) := by decide +kernel
theorem dX6_digest_24 : decode cX6_digest 24 = .ok (.i2l, 1) := by decide +kernel
theorem dX6_digest_25 : decode cX6_digest 25 = .ok (.invokevirtual 281, 3) := by decide +kernel
theorem dX6_digest_28 : decode cX6_digest 28 = .ok (.aload_n 0, 1) := by decide +kernel
theorem dX6_digest_29 : decode cX6_digest 29 = .ok (.aload_n 0, 1) := by decide +kernel
theorem dX6_digest_30 : decode cX6_digest 30 = .ok (.getfield 13, 3) := by decide +kernel
theorem dX6_digest_33 : decode cX6_digest 33 = .ok (.iload_n 1, 1) := by decide +kernel
theorem dX6_digest_34 : decode cX6_digest 34 = .ok (.iaload, 1) := by decide +kernel
theorem dX6_digest_35 : decode cX6_digest 35 = .ok (.i2l, 1) := by decide +kernel
theorem dX6_digest_36 : decode cX6_digest 36 = .ok (.invokevirtual 281, 3) := by decide +kernel
theorem dX6_digest_39 : decode cX6_digest 39 = .ok (.iinc 1 1, 3) := by decide +kernel
theorem dX6_digest_42 : decode cX6_digest 42 = .ok (.goto (-33), 3) := by decide +kernel
theorem dX6_digest_45 : decode cX6_digest 45 = .ok (.iconst 0, 1) := by decide +kernel
theorem dX6_digest_46 : decode cX6_digest 46 = .ok (.istore_n 1, 1) := by decide +kernel
theorem dX6_digest_47 : decode cX6_digest 47 = .ok (.iload_n 1, 1) := by decide +kernel
theorem dX6_digest_48 : decode cX6_digest 48 = .ok (.aload_n 0, 1) := by decide +kernel
theorem dX6_digest_49 : decode cX6_digest 49 = .ok (.getfield 106, 3) := by decide +kernel
theorem dX6_digest_52 : decode cX6_digest 52 = .ok (.if_icmp .ge 34, 3) := by decide +kernel
theorem dX6_digest_55 : decode cX6_digest 55 = .ok (.iconst 0, 1) := by decide +kernel
theorem dX6_digest_56 : decode cX6_digest 56 = .ok (.istore_n 2, 1) := by decide +kernel
theorem dX6_digest_57 : decode cX6_digest 57 = .ok (.iload_n 2, 1) := by decide +kernel
theorem dX6_digest_58 : decode cX6_digest 58 = .ok (.bipush 8, 2) := by decide +kernel
theorem dX6_digest_60 : decode cX6_digest 60 = .ok (.if_icmp .ge 20, 3) := by decide +kernel
theorem dX6_digest_63 : decode cX6_digest 63 = .ok (.aload_n 0, 1) := by decide +kernel
theorem dX6_digest_64 : decode cX6_digest 64 = .ok (.aload_n 0, 1) := by decide +kernel
theorem dX6_digest_65 : decode cX6_digest 65 = .ok (.iload_n 1, 1) := by decide +kernel
theorem dX6_digest_66 : decode cX6_digest 66 = .ok (.iload_n 2, 1) := by decide +kernel
theorem dX6_digest_67 : decode cX6_digest 67 = .ok (.invokevirtual 144, 3) := by decide +kernel
theorem dX6_digest_70 : decode cX6_digest 70 = .ok (.i2l, 1) := by decide +kernel
theorem dX6_digest_71 : decode cX6_digest 71 = .ok (.invokevirtual 281, 3) := by decide +kernel
theorem dX6_digest_74 : decode cX6_digest 74 = .ok (.iinc 2 1, 3) := by decide +kernel
theorem dX6_digest_77 : decode cX6_digest 77 = .ok (.goto (-20), 3) := by decide +kernel
theorem dX6_digest_80 : decode cX6_digest 80 = .ok (.iinc 1 1, 3) := by decide +kernel
theorem dX6_digest_83 : decode cX6_digest 83 = .ok (.goto (-36), 3) := by decide +kernel
theorem dX6_digest_86 : decode cX6_digest 86 = .ok (.aload_n 0, 1) := by decide +kernel
theorem dX6_digest_87 : decode cX6_digest 87 = .ok (.invokevirtual 167, 3) := by decide +kernel
theorem dX6_digest_90 : decode cX6_digest 90 = .ok (.ifCond .eq 7, 3) := by decide +kernel
theorem dX6_digest_93 : decode cX6_digest 93 = .ok (.aload_n 0, 1) := by decide +kernel
theorem dX6_digest_94 : decode cX6_digest 94 = .ok (.invokevirtual 287, 3) := by decide +kernel
theorem dX6_digest_97 : decode cX6_digest 97 = .ok (.aload_n 0, 1) := by decide +kernel
theorem dX6_digest_98 : decode cX6_digest 98 = .ok (.getfield 100, 3) := by decide +kernel
theorem dX6_digest_101 : decode cX6_digest 101 = .ok (.ifCond .eq 19, 3) := by decide +kernel
theorem dX6_digest_104 : decode cX6_digest 104 = .ok (.aload_n 0, 1) := by decide +kernel
theorem dX6_digest_105 : decode cX6_digest 105 = .ok (.getfield 106, 3) := by decide +kernel
theorem dX6_digest_108 : decode cX6_digest 108 = .ok (.ifCond .le 12, 3) := by decide +kernel
theorem dX6_digest_111 : decode cX6_digest 111 = .ok (.aload_n 0, 1) := by decide +kernel
theorem dX6_digest_112 : decode cX6_digest 112 = .ok (.aload_n 0, 1) := by decide +kernel
theorem dX6_digest_113 : decode cX6_digest 113 = .ok (.invokevirtual 221, 3) := by decide +kernel
theorem dX6_digest_116 : decode cX6_digest 116 = .ok (.i2l, 1) := by decide +kernel
theorem dX6_digest_117 : decode cX6_digest 117 = .ok (.invokevirtual 281, 3) := by decide +kernel
theorem dX6_digest_120 : decode cX6_digest 120 = .ok (.iconst 0, 1) := by decide +kernel
theorem dX6_digest_121 : decode cX6_digest 121 = .ok (.istore_n 1, 1) := by decide +kernel
theorem dX6_digest_122 : decode cX6_digest 122 = .ok (.iload_n 1, 1) := by decide +kernel
theorem dX6_digest_123 : decode cX6_digest 123 = .ok (.aload_n 0, 1) := by decide +kernel
theorem dX6_digest_124 : decode cX6_digest 124 = .ok (.getfield 60, 3) := by decide +kernel
theorem dX6_digest_127 : decode cX6_digest 127 = .ok (.if_icmp .ge 20, 3) := by decide +kernel
theorem dX6_digest_130 : decode cX6_digest 130 = .ok (.aload_n 0, 1) := by decide +kernel
theorem dX6_digest_131 : decode cX6_digest 131 = .ok (.aload_n 0, 1) := by decide +kernel
theorem dX6_digest_132 : decode cX6_digest 132 = .ok (.getfield 31, 3) := by decide +kernel
theorem dX6_digest_135 : decode cX6_digest 135 = .ok (.iload_n 1, 1) := by decide +kernel
theorem dX6_digest_136 : decode cX6_digest 136 = .ok (.baload, 1) := by decide +kernel
theorem dX6_digest_137 : decode cX6_digest 137 = .ok (.i2l, 1) := by decide +kernel
theorem dX6_digest_138 : decode cX6_digest 138 = .ok (.invokevirtual 281, 3) := by decide +kernel
theorem dX6_digest_141 : decode cX6_digest 141 = .ok (.iinc 1 1, 3) := by decide +kernel
theorem dX6_digest_144 : decode cX6_digest 144 = .ok (.goto (-22), 3) := by decide +kernel
theorem dX6_digest_147 : decode cX6_digest 147 = .ok (.iconst 0, 1) := by decide +kernel
theorem dX6_digest_148 : decode cX6_digest 148 = .ok (.istore_n 1, 1) := by decide +kernel
theorem dX6_digest_149 : decode cX6_digest 149 = .ok (.iload_n 1, 1) := by decide +kernel
theorem dX6_digest_150 : decode cX6_digest 150 = .ok (.bipush 11, 2) := by decide +kernel
theorem dX6_digest_152 : decode cX6_digest 152 = .ok (.if_icmp .ge 19, 3) := by decide +kernel
theorem dX6_digest_155 : decode cX6_digest 155 = .ok (.aload_n 0, 1) := by decide +kernel
theorem dX6_digest_156 : decode cX6_digest 156 = .ok (.aload_n 0, 1) := by decide +kernel
theorem dX6_digest_157 : decode cX6_digest 157 = .ok (.iload_n 1, 1) := by decide +kernel
theorem dX6_digest_158 : decode cX6_digest 158 = .ok (.invokevirtual 273, 3) := by decide +kernel
theorem dX6_digest_161 : decode cX6_digest 161 = .ok (.i2l, 1) := by decide +kernel
theorem dX6_digest_162 : decode cX6_digest 162 = .ok (.invokevirtual 281, 3) := by decide +kernel
theorem dX6_digest_165 : decode cX6_digest 165 = .ok (.iinc 1 1, 3) := by decide +kernel
theorem dX6_digest_168 : decode cX6_digest 168 = .ok (.goto (-19), 3) := by decide +kernel
theorem dX6_digest_171 : decode cX6_digest 171 = .ok (.aload_n 0, 1) := by decide +kernel
theorem dX6_digest_172 : decode cX6_digest 172 = .ok (.getfield 278, 3) := by decide +kernel
theorem dX6_digest_175 : decode cX6_digest 175 = .ok (.lreturn, 1) := by decide +kernel
theorem dJ6_bitCount_0f7a4_0 : decode cJ6_bitCount_0f7a4 0 = .ok (.iload_n 0, 1) := by decide +kernel
theorem dJ6_bitCount_0f7a4_1 : decode cJ6_bitCount_0f7a4 1 = .ok (.iload_n 0, 1) := by decide +kernel
theorem dJ6_bitCount_0f7a4_2 : decode cJ6_bitCount_0f7a4 2 = .ok (.iconst 1, 1) := by decide +kernel
theorem dJ6_bitCount_0f7a4_3 : decode cJ6_bitCount_0f7a4 3 = .ok (.iushr, 1) := by decide +kernel
theorem dJ6_bitCount_0f7a4_4 : decode cJ6_bitCount_0f7a4 4 = .ok (.ldc_w 265, 3) := by decide +kernel
theorem dJ6_bitCount_0f7a4_7 : decode cJ6_bitCount_0f7a4 7 = .ok (.iand, 1) := by decide +kernel
theorem dJ6_bitCount_0f7a4_8 : decode cJ6_bitCount_0f7a4 8 = .ok (.isub, 1) := by decide +kernel
theorem dJ6_bitCount_0f7a4_9 : decode cJ6_bitCount_0f7a4 9 = .ok (.istore_n 0, 1) := by decide +kernel
theorem dJ6_bitCount_0f7a4_10 : decode cJ6_bitCount_0f7a4 10 = .ok (.iload_n 0, 1) := by decide +kernel
theorem dJ6_bitCount_0f7a4_11 : decode cJ6_bitCount_0f7a4 11 = .ok (.ldc_w 266, 3) := by decide +kernel
theorem dJ6_bitCount_0f7a4_14 : decode cJ6_bitCount_0f7a4 14 = .ok (.iand, 1) := by decide +kernel
theorem dJ6_bitCount_0f7a4_15 : decode cJ6_bitCount_0f7a4 15 = .ok (.iload_n 0, 1) := by decide +kernel
theorem dJ6_bitCount_0f7a4_16 : decode cJ6_bitCount_0f7a4 16 = .ok (.iconst 2, 1) := by decide +kernel
theorem dJ6_bitCount_0f7a4_17 : decode cJ6_bitCount_0f7a4 17 = .ok (.iushr, 1) := by decide +kernel
theorem dJ6_bitCount_0f7a4_18 : decode cJ6_bitCount_0f7a4 18 = .ok (.ldc_w 266, 3) := by decide +kernel
theorem dJ6_bitCount_0f7a4_21 : decode cJ6_bitCount_0f7a4 21 = .ok (.iand, 1) := by decide +kernel
theorem dJ6_bitCount_0f7a4_22 : decode cJ6_bitCount_0f7a4 22 = .ok (.iadd, 1) := by decide +kernel
theorem dJ6_bitCount_0f7a4_23 : decode cJ6_bitCount_0f7a4 23 = .ok (.istore_n 0, 1) := by decide +kernel
theorem dJ6_bitCount_0f7a4_24 : decode cJ6_bitCount_0f7a4 24 = .ok (.iload_n 0, 1) := by decide +kernel
theorem dJ6_bitCount_0f7a4_25 : decode cJ6_bitCount_0f7a4 25 = .ok (.iload_n 0, 1) := by decide +kernel
theorem dJ6_bitCount_0f7a4_26 : decode cJ6_bitCount_0f7a4 26 = .ok (.iconst 4, 1) := by decide +kernel
theorem dJ6_bitCount_0f7a4_27 : decode cJ6_bitCount_0f7a4 27 = .ok (.iushr, 1) := by decide +kernel
theorem dJ6_bitCount_0f7a4_28 : decode cJ6_bitCount_0f7a4 28 = .ok (.iadd, 1) := by decide +kernel
theorem dJ6_bitCount_0f7a4_29 : decode cJ6_bitCount_0f7a4 29 = .ok (.ldc_w 267, 3) := by decide +kernel
theorem dJ6_bitCount_0f7a4_32 : decode cJ6_bitCount_0f7a4 32 = .ok (.iand, 1) := by decide +kernel
theorem dJ6_bitCount_0f7a4_33 : decode cJ6_bitCount_0f7a4 33 = .ok (.istore_n 0, 1) := by decide +kernel
theorem dJ6_bitCount_0f7a4_34 : decode cJ6_bitCount_0f7a4 34 = .ok (.iload_n 0, 1) := by decide +kernel
theorem dJ6_bitCount_0f7a4_35 : decode cJ6_bitCount_0f7a4 35 = .ok (.iload_n 0, 1) := by decide +kernel
theorem dJ6_bitCount_0f7a4_36 : decode cJ6_bitCount_0f7a4 36 = .ok (.bipush 8, 2) := by decide +kernel
theorem dJ6_bitCount_0f7a4_38 : decode cJ6_bitCount_0f7a4 38 = .ok (.iushr, 1) := by decide +kernel
theorem dJ6_bitCount_0f7a4_39 : decode cJ6_bitCount_0f7a4 39 = .ok (.iadd, 1) := by decide +kernel
theorem dJ6_bitCount_0f7a4_40 : decode cJ6_bitCount_0f7a4 40 = .ok (.istore_n 0, 1) := by decide +kernel
theorem dJ6_bitCount_0f7a4_41 : decode cJ6_bitCount_0f7a4 41 = .ok (.iload_n 0, 1) := by decide +kernel
theorem dJ6_bitCount_0f7a4_42 : decode cJ6_bitCount_0f7a4 42 = .ok (.iload_n 0, 1) := by decide +kernel
theorem dJ6_bitCount_0f7a4_43 : decode cJ6_bitCount_0f7a4 43 = .ok (.bipush 16, 2) := by decide +kernel
theorem dJ6_bitCount_0f7a4_45 : decode cJ6_bitCount_0f7a4 45 = .ok (.iushr, 1) := by decide +kernel
theorem dJ6_bitCount_0f7a4_46 : decode cJ6_bitCount_0f7a4 46 = .ok (.iadd, 1) := by decide +kernel
theorem dJ6_bitCount_0f7a4_47 : decode cJ6_bitCount_0f7a4 47 = .ok (.istore_n 0, 1) := by decide +kernel
theorem dJ6_bitCount_0f7a4_48 : decode cJ6_bitCount_0f7a4 48 = .ok (.iload_n 0, 1) := by decide +kernel
theorem dJ6_bitCount_0f7a4_49 : decode cJ6_bitCount_0f7a4 49 = .ok (.bipush 63, 2) := by decide +kernel
theorem dJ6_bitCount_0f7a4_51 : decode cJ6_bitCount_0f7a4 51 = .ok (.iand, 1) := by decide +kernel
theorem dJ6_bitCount_0f7a4_52 : decode cJ6_bitCount_0f7a4 52 = .ok (.ireturn, 1) := by decide +kernel
theorem dJ9_max_7cf53_0 : decode cJ9_max_7cf53 0 = .ok (.iload_n 0, 1) := by decide +kernel
theorem dJ9_max_7cf53_1 : decode cJ9_max_7cf53 1 = .ok (.iload_n 1, 1) := by decide +kernel
theorem dJ9_max_7cf53_2 : decode cJ9_max_7cf53 2 = .ok (.if_icmp .lt 7, 3) := by decide +kernel
theorem dJ9_max_7cf53_5 : decode cJ9_max_7cf53 5 = .ok (.iload_n 0, 1) := by decide +kernel
theorem dJ9_max_7cf53_6 : decode cJ9_max_7cf53 6 = .ok (.goto 4, 3) := by decide +kernel
theorem dJ9_max_7cf53_9 : decode cJ9_max_7cf53 9 = .ok (.iload_n 1, 1) := by decide +kernel
theorem dJ9_max_7cf53_10 : decode cJ9_max_7cf53 10 = .ok (.ireturn, 1) := by decide +kernel
theorem dL_law_0 : decode cL_law 0 = .ok (.new 7, 3) := by decide +kernel
theorem dL_law_3 : decode cL_law 3 = .ok (.dup, 1) := by decide +kernel
theorem dL_law_4 : decode cL_law 4 = .ok (.invokespecial 9, 3) := by decide +kernel
theorem dL_law_7 : decode cL_law 7 = .ok (.astore_n 1, 1) := by decide +kernel
theorem dL_law_8 : decode cL_law 8 = .ok (.new 10, 3) := by decide +kernel
theorem dL_law_11 : decode cL_law 11 = .ok (.dup, 1) := by decide +kernel
theorem dL_law_12 : decode cL_law 12 = .ok (.invokespecial 12, 3) := by decide +kernel
theorem dL_law_15 : decode cL_law 15 = .ok (.astore_n 2, 1) := by decide +kernel
theorem dL_law_16 : decode cL_law 16 = .ok (.iconst 0, 1) := by decide +kernel
theorem dL_law_17 : decode cL_law 17 = .ok (.istore_n 3, 1) := by decide +kernel
theorem dL_law_18 : decode cL_law 18 = .ok (.iload_n 3, 1) := by decide +kernel
theorem dL_law_19 : decode cL_law 19 = .ok (.aload_n 0, 1) := by decide +kernel
theorem dL_law_20 : decode cL_law 20 = .ok (.arraylength, 1) := by decide +kernel
theorem dL_law_21 : decode cL_law 21 = .ok (.iconst 4, 1) := by decide +kernel
theorem dL_law_22 : decode cL_law 22 = .ok (.isub, 1) := by decide +kernel
theorem dL_law_23 : decode cL_law 23 = .ok (.if_icmp .gt 713, 3) := by decide +kernel
theorem dL_law_26 : decode cL_law 26 = .ok (.aload_n 0, 1) := by decide +kernel
theorem dL_law_27 : decode cL_law 27 = .ok (.iload_n 3, 1) := by decide +kernel
theorem dL_law_28 : decode cL_law 28 = .ok (.iaload, 1) := by decide +kernel
theorem dL_law_29 : decode cL_law 29 = .ok (.bipush 31, 2) := by decide +kernel
theorem dL_law_31 : decode cL_law 31 = .ok (.iand, 1) := by decide +kernel
theorem dL_law_32 : decode cL_law 32 = .ok (.tableswitch 698 0 24 #[116, 139, 152, 165, 178, 211, 254, 287, 320, 369, 402, 415, 438, 471, 494, 507, 520, 543, 556, 569, 592, 635, 648, 661, 684], 116) := by decide +kernel
theorem dL_law_148 : decode cL_law 148 = .ok (.aload_n 1, 1) := by decide +kernel
theorem dL_law_149 : decode cL_law 149 = .ok (.aload_n 0, 1) := by decide +kernel
theorem dL_law_150 : decode cL_law 150 = .ok (.iload_n 3, 1) := by decide +kernel
theorem dL_law_151 : decode cL_law 151 = .ok (.iconst 1, 1) := by decide +kernel
theorem dL_law_152 : decode cL_law 152 = .ok (.iadd, 1) := by decide +kernel
theorem dL_law_153 : decode cL_law 153 = .ok (.iaload, 1) := by decide +kernel
theorem dL_law_154 : decode cL_law 154 = .ok (.invokevirtual 13, 3) := by decide +kernel
theorem dL_law_157 : decode cL_law 157 = .ok (.aload_n 2, 1) := by decide +kernel
theorem dL_law_158 : decode cL_law 158 = .ok (.aload_n 0, 1) := by decide +kernel
theorem dL_law_159 : decode cL_law 159 = .ok (.iload_n 3, 1) := by decide +kernel
theorem dL_law_160 : decode cL_law 160 = .ok (.iconst 1, 1) := by decide +kernel
theorem dL_law_161 : decode cL_law 161 = .ok (.iadd, 1) := by decide +kernel
theorem dL_law_162 : decode cL_law 162 = .ok (.iaload, 1) := by decide +kernel
theorem dL_law_163 : decode cL_law 163 = .ok (.invokevirtual 17, 3) := by decide +kernel
theorem dL_law_166 : decode cL_law 166 = .ok (.if_icmp .eq 564, 3) := by decide +kernel
theorem dL_law_169 : decode cL_law 169 = .ok (.iconst 0, 1) := by decide +kernel
theorem dL_law_170 : decode cL_law 170 = .ok (.ireturn, 1) := by decide +kernel
theorem dL_law_171 : decode cL_law 171 = .ok (.aload_n 1, 1) := by decide +kernel
theorem dL_law_172 : decode cL_law 172 = .ok (.invokevirtual 18, 3) := by decide +kernel
theorem dL_law_175 : decode cL_law 175 = .ok (.aload_n 2, 1) := by decide +kernel
theorem dL_law_176 : decode cL_law 176 = .ok (.invokevirtual 22, 3) := by decide +kernel
theorem dL_law_179 : decode cL_law 179 = .ok (.if_icmp .eq 551, 3) := by decide +kernel
theorem dL_law_182 : decode cL_law 182 = .ok (.iconst 0, 1) := by decide +kernel
theorem dL_law_183 : decode cL_law 183 = .ok (.ireturn, 1) := by decide +kernel
theorem dL_law_184 : decode cL_law 184 = .ok (.aload_n 1, 1) := by decide +kernel
theorem dL_law_185 : decode cL_law 185 = .ok (.invokevirtual 23, 3) := by decide +kernel
theorem dL_law_188 : decode cL_law 188 = .ok (.aload_n 2, 1) := by decide +kernel
theorem dL_law_189 : decode cL_law 189 = .ok (.invokevirtual 26, 3) := by decide +kernel
theorem dL_law_192 : decode cL_law 192 = .ok (.if_icmp .eq 538, 3) := by decide +kernel
theorem dL_law_195 : decode cL_law 195 = .ok (.iconst 0, 1) := by decide +kernel
theorem dL_law_196 : decode cL_law 196 = .ok (.ireturn, 1) := by decide +kernel
theorem dL_law_197 : decode cL_law 197 = .ok (.aload_n 1, 1) := by decide +kernel
theorem dL_law_198 : decode cL_law 198 = .ok (.invokevirtual 27, 3) := by decide +kernel
theorem dL_law_201 : decode cL_law 201 = .ok (.aload_n 2, 1) := by decide +kernel
theorem dL_law_202 : decode cL_law 202 = .ok (.invokevirtual 30, 3) := by decide +kernel
theorem dL_law_205 : decode cL_law 205 = .ok (.if_icmp .eq 525, 3) := by decide +kernel
theorem dL_law_208 : decode cL_law 208 = .ok (.iconst 0, 1) := by decide +kernel
theorem dL_law_209 : decode cL_law 209 = .ok (.ireturn, 1) := by decide +kernel
theorem dL_law_210 : decode cL_law 210 = .ok (.aload_n 1, 1) := by decide +kernel
theorem dL_law_211 : decode cL_law 211 = .ok (.aload_n 0, 1) := by decide +kernel
theorem dL_law_212 : decode cL_law 212 = .ok (.iload_n 3, 1) := by decide +kernel
theorem dL_law_213 : decode cL_law 213 = .ok (.iconst 1, 1) := by decide +kernel
theorem dL_law_214 : decode cL_law 214 = .ok (.iadd, 1) := by decide +kernel
theorem dL_law_215 : decode cL_law 215 = .ok (.iaload, 1) := by decide +kernel
theorem dL_law_216 : decode cL_law 216 = .ok (.aload_n 0, 1) := by decide +kernel
theorem dL_law_217 : decode cL_law 217 = .ok (.iload_n 3, 1) := by decide +kernel
theorem dL_law_218 : decode cL_law 218 = .ok (.iconst 2, 1) := by decide +kernel
theorem dL_law_219 : decode cL_law 219 = .ok (.iadd, 1) := by decide +kernel
theorem dL_law_220 : decode cL_law 220 = .ok (.iaload, 1) := by decide +kernel
theorem dL_law_221 : decode cL_law 221 = .ok (.invokevirtual 31, 3) := by decide +kernel
theorem dL_law_224 : decode cL_law 224 = .ok (.aload_n 2, 1) := by decide +kernel
theorem dL_law_225 : decode cL_law 225 = .ok (.aload_n 0, 1) := by decide +kernel
theorem dL_law_226 : decode cL_law 226 = .ok (.iload_n 3, 1) := by decide +kernel
theorem dL_law_227 : decode cL_law 227 = .ok (.iconst 1, 1) := by decide +kernel
theorem dL_law_228 : decode cL_law 228 = .ok (.iadd, 1) := by decide +kernel
theorem dL_law_229 : decode cL_law 229 = .ok (.iaload, 1) := by decide +kernel
theorem dL_law_230 : decode cL_law 230 = .ok (.aload_n 0, 1) := by decide +kernel
theorem dL_law_231 : decode cL_law 231 = .ok (.iload_n 3, 1) := by decide +kernel
theorem dL_law_232 : decode cL_law 232 = .ok (.iconst 2, 1) := by decide +kernel
theorem dL_law_233 : decode cL_law 233 = .ok (.iadd, 1) := by decide +kernel
theorem dL_law_234 : decode cL_law 234 = .ok (.iaload, 1) := by decide +kernel
theorem dL_law_235 : decode cL_law 235 = .ok (.invokevirtual 35, 3) := by decide +kernel
theorem dL_law_238 : decode cL_law 238 = .ok (.if_icmp .eq 492, 3) := by decide +kernel
theorem dL_law_241 : decode cL_law 241 = .ok (.iconst 0, 1) := by decide +kernel
theorem dL_law_242 : decode cL_law 242 = .ok (.ireturn, 1) := by decide +kernel
theorem dL_law_243 : decode cL_law 243 = .ok (.aload_n 1, 1) := by decide +kernel
theorem dL_law_244 : decode cL_law 244 = .ok (.aload_n 0, 1) := by decide +kernel
theorem dL_law_245 : decode cL_law 245 = .ok (.iload_n 3, 1) := by decide +kernel
theorem dL_law_246 : decode cL_law 246 = .ok (.iconst 1, 1) := by decide +kernel
theorem dL_law_247 : decode cL_law 247 = .ok (.iadd, 1) := by decide +kernel
theorem dL_law_248 : decode cL_law 248 = .ok (.iaload, 1) := by decide +kernel
theorem dL_law_249 : decode cL_law 249 = .ok (.aload_n 0, 1) := by decide +kernel
theorem dL_law_250 : decode cL_law 250 = .ok (.iload_n 3, 1) := by decide +kernel
theorem dL_law_251 : decode cL_law 251 = .ok (.iconst 2, 1) := by decide +kernel
theorem dL_law_252 : decode cL_law 252 = .ok (.iadd, 1) := by decide +kernel
theorem dL_law_253 : decode cL_law 253 = .ok (.iaload, 1) := by decide +kernel
theorem dL_law_254 : decode cL_law 254 = .ok (.aload_n 0, 1) := by decide +kernel
theorem dL_law_255 : decode cL_law 255 = .ok (.iload_n 3, 1) := by decide +kernel
theorem dL_law_256 : decode cL_law 256 = .ok (.iconst 3, 1) := by decide +kernel
theorem dL_law_257 : decode cL_law 257 = .ok (.iadd, 1) := by decide +kernel
theorem dL_law_258 : decode cL_law 258 = .ok (.iaload, 1) := by decide +kernel
theorem dL_law_259 : decode cL_law 259 = .ok (.invokevirtual 36, 3) := by decide +kernel
theorem dL_law_262 : decode cL_law 262 = .ok (.aload_n 2, 1) := by decide +kernel
theorem dL_law_263 : decode cL_law 263 = .ok (.aload_n 0, 1) := by decide +kernel
theorem dL_law_264 : decode cL_law 264 = .ok (.iload_n 3, 1) := by decide +kernel
theorem dL_law_265 : decode cL_law 265 = .ok (.iconst 1, 1) := by decide +kernel
theorem dL_law_266 : decode cL_law 266 = .ok (.iadd, 1) := by decide +kernel
theorem dL_law_267 : decode cL_law 267 = .ok (.iaload, 1) := by decide +kernel
theorem dL_law_268 : decode cL_law 268 = .ok (.aload_n 0, 1) := by decide +kernel
theorem dL_law_269 : decode cL_law 269 = .ok (.iload_n 3, 1) := by decide +kernel
theorem dL_law_270 : decode cL_law 270 = .ok (.iconst 2, 1) := by decide +kernel
theorem dL_law_271 : decode cL_law 271 = .ok (.iadd, 1) := by decide +kernel
theorem dL_law_272 : decode cL_law 272 = .ok (.iaload, 1) := by decide +kernel
theorem dL_law_273 : decode cL_law 273 = .ok (.aload_n 0, 1) := by decide +kernel
theorem dL_law_274 : decode cL_law 274 = .ok (.iload_n 3, 1) := by decide +kernel
theorem dL_law_275 : decode cL_law 275 = .ok (.iconst 3, 1) := by decide +kernel
theorem dL_law_276 : decode cL_law 276 = .ok (.iadd, 1) := by decide +kernel
theorem dL_law_277 : decode cL_law 277 = .ok (.iaload, 1) := by decide +kernel
theorem dL_law_278 : decode cL_law 278 = .ok (.invokevirtual 40, 3) := by decide +kernel
theorem dL_law_281 : decode cL_law 281 = .ok (.if_icmp .eq 449, 3) := by decide +kernel
theorem dL_law_284 : decode cL_law 284 = .ok (.iconst 0, 1) := by decide +kernel
theorem dL_law_285 : decode cL_law 285 = .ok (.ireturn, 1) := by decide +kernel
theorem dL_law_286 : decode cL_law 286 = .ok (.aload_n 1, 1) := by decide +kernel
theorem dL_law_287 : decode cL_law 287 = .ok (.aload_n 0, 1) := by decide +kernel
theorem dL_law_288 : decode cL_law 288 = .ok (.iload_n 3, 1) := by decide +kernel
theorem dL_law_289 : decode cL_law 289 = .ok (.iconst 1, 1) := by decide +kernel
theorem dL_law_290 : decode cL_law 290 = .ok (.iadd, 1) := by decide +kernel
theorem dL_law_291 : decode cL_law 291 = .ok (.iaload, 1) := by decide +kernel
theorem dL_law_292 : decode cL_law 292 = .ok (.aload_n 0, 1) := by decide +kernel
theorem dL_law_293 : decode cL_law 293 = .ok (.iload_n 3, 1) := by decide +kernel
theorem dL_law_294 : decode cL_law 294 = .ok (.iconst 2, 1) := by decide +kernel
theorem dL_law_295 : decode cL_law 295 = .ok (.iadd, 1) := by decide +kernel
theorem dL_law_296 : decode cL_law 296 = .ok (.iaload, 1) := by decide +kernel
theorem dL_law_297 : decode cL_law 297 = .ok (.invokevirtual 41, 3) := by decide +kernel
theorem dL_law_300 : decode cL_law 300 = .ok (.aload_n 2, 1) := by decide +kernel
theorem dL_law_301 : decode cL_law 301 = .ok (.aload_n 0, 1) := by decide +kernel
theorem dL_law_302 : decode cL_law 302 = .ok (.iload_n 3, 1) := by decide +kernel
theorem dL_law_303 : decode cL_law 303 = .ok (.iconst 1, 1) := by decide +kernel
theorem dL_law_304 : decode cL_law 304 = .ok (.iadd, 1) := by decide +kernel
theorem dL_law_305 : decode cL_law 305 = .ok (.iaload, 1) := by decide +kernel
theorem dL_law_306 : decode cL_law 306 = .ok (.aload_n 0, 1) := by decide +kernel
theorem dL_law_307 : decode cL_law 307 = .ok (.iload_n 3, 1) := by decide +kernel
theorem dL_law_308 : decode cL_law 308 = .ok (.iconst 2, 1) := by decide +kernel
theorem dL_law_309 : decode cL_law 309 = .ok (.iadd, 1) := by decide +kernel
theorem dL_law_310 : decode cL_law 310 = .ok (.iaload, 1) := by decide +kernel
theorem dL_law_311 : decode cL_law 311 = .ok (.invokevirtual 44, 3) := by decide +kernel
theorem dL_law_314 : decode cL_law 314 = .ok (.if_icmp .eq 416, 3) := by decide +kernel
theorem dL_law_317 : decode cL_law 317 = .ok (.iconst 0, 1) := by decide +kernel
theorem dL_law_318 : decode cL_law 318 = .ok (.ireturn, 1) := by decide +kernel
theorem dL_law_319 : decode cL_law 319 = .ok (.aload_n 1, 1) := by decide +kernel
theorem dL_law_320 : decode cL_law 320 = .ok (.aload_n 0, 1) := by decide +kernel
theorem dL_law_321 : decode cL_law 321 = .ok (.iload_n 3, 1) := by decide +kernel
theorem dL_law_322 : decode cL_law 322 = .ok (.iconst 1, 1) := by decide +kernel
theorem dL_law_323 : decode cL_law 323 = .ok (.iadd, 1) := by decide +kernel
theorem dL_law_324 : decode cL_law 324 = .ok (.iaload, 1) := by decide +kernel
theorem dL_law_325 : decode cL_law 325 = .ok (.aload_n 0, 1) := by decide +kernel
theorem dL_law_326 : decode cL_law 326 = .ok (.iload_n 3, 1) := by decide +kernel
theorem dL_law_327 : decode cL_law 327 = .ok (.iconst 2, 1) := by decide +kernel
theorem dL_law_328 : decode cL_law 328 = .ok (.iadd, 1) := by decide +kernel
theorem dL_law_329 : decode cL_law 329 = .ok (.iaload, 1) := by decide +kernel
theorem dL_law_330 : decode cL_law 330 = .ok (.invokevirtual 45, 3) := by decide +kernel
theorem dL_law_333 : decode cL_law 333 = .ok (.aload_n 2, 1) := by decide +kernel
theorem dL_law_334 : decode cL_law 334 = .ok (.aload_n 0, 1) := by decide +kernel
theorem dL_law_335 : decode cL_law 335 = .ok (.iload_n 3, 1) := by decide +kernel
theorem dL_law_336 : decode cL_law 336 = .ok (.iconst 1, 1) := by decide +kernel
theorem dL_law_337 : decode cL_law 337 = .ok (.iadd, 1) := by decide +kernel
theorem dL_law_338 : decode cL_law 338 = .ok (.iaload, 1) := by decide +kernel
theorem dL_law_339 : decode cL_law 339 = .ok (.aload_n 0, 1) := by decide +kernel
theorem dL_law_340 : decode cL_law 340 = .ok (.iload_n 3, 1) := by decide +kernel
theorem dL_law_341 : decode cL_law 341 = .ok (.iconst 2, 1) := by decide +kernel
theorem dL_law_342 : decode cL_law 342 = .ok (.iadd, 1) := by decide +kernel
theorem dL_law_343 : decode cL_law 343 = .ok (.iaload, 1) := by decide +kernel
theorem dL_law_344 : decode cL_law 344 = .ok (.invokevirtual 48, 3) := by decide +kernel
theorem dL_law_347 : decode cL_law 347 = .ok (.if_icmp .eq 383, 3) := by decide +kernel
theorem dL_law_350 : decode cL_law 350 = .ok (.iconst 0, 1) := by decide +kernel
theorem dL_law_351 : decode cL_law 351 = .ok (.ireturn, 1) := by decide +kernel
theorem dL_law_352 : decode cL_law 352 = .ok (.aload_n 1, 1) := by decide +kernel
theorem dL_law_353 : decode cL_law 353 = .ok (.aload_n 0, 1) := by decide +kernel
theorem dL_law_354 : decode cL_law 354 = .ok (.iload_n 3, 1) := by decide +kernel
theorem dL_law_355 : decode cL_law 355 = .ok (.iconst 1, 1) := by decide +kernel
theorem dL_law_356 : decode cL_law 356 = .ok (.iadd, 1) := by decide +kernel
theorem dL_law_357 : decode cL_law 357 = .ok (.iaload, 1) := by decide +kernel
theorem dL_law_358 : decode cL_law 358 = .ok (.aload_n 0, 1) := by decide +kernel
theorem dL_law_359 : decode cL_law 359 = .ok (.iload_n 3, 1) := by decide +kernel
theorem dL_law_360 : decode cL_law 360 = .ok (.iconst 2, 1) := by decide +kernel
theorem dL_law_361 : decode cL_law 361 = .ok (.iadd, 1) := by decide +kernel
theorem dL_law_362 : decode cL_law 362 = .ok (.iaload, 1) := by decide +kernel
theorem dL_law_363 : decode cL_law 363 = .ok (.ifCond .eq 7, 3) := by decide +kernel
theorem dL_law_366 : decode cL_law 366 = .ok (.iconst 1, 1) := by decide +kernel
theorem dL_law_367 : decode cL_law 367 = .ok (.goto 4, 3) := by decide +kernel
theorem dL_law_370 : decode cL_law 370 = .ok (.iconst 0, 1) := by decide +kernel
theorem dL_law_371 : decode cL_law 371 = .ok (.invokevirtual 49, 3) := by decide +kernel
theorem dL_law_374 : decode cL_law 374 = .ok (.aload_n 2, 1) := by decide +kernel
theorem dL_law_375 : decode cL_law 375 = .ok (.aload_n 0, 1) := by decide +kernel
theorem dL_law_376 : decode cL_law 376 = .ok (.iload_n 3, 1) := by decide +kernel
theorem dL_law_377 : decode cL_law 377 = .ok (.iconst 1, 1) := by decide +kernel
theorem dL_law_378 : decode cL_law 378 = .ok (.iadd, 1) := by decide +kernel
theorem dL_law_379 : decode cL_law 379 = .ok (.iaload, 1) := by decide +kernel
theorem dL_law_380 : decode cL_law 380 = .ok (.aload_n 0, 1) := by decide +kernel
theorem dL_law_381 : decode cL_law 381 = .ok (.iload_n 3, 1) := by decide +kernel
theorem dL_law_382 : decode cL_law 382 = .ok (.iconst 2, 1) := by decide +kernel
theorem dL_law_383 : decode cL_law 383 = .ok (.iadd, 1) := by decide +kernel
theorem dL_law_384 : decode cL_law 384 = .ok (.iaload, 1) := by decide +kernel
theorem dL_law_385 : decode cL_law 385 = .ok (.ifCond .eq 7, 3) := by decide +kernel
theorem dL_law_388 : decode cL_law 388 = .ok (.iconst 1, 1) := by decide +kernel
theorem dL_law_389 : decode cL_law 389 = .ok (.goto 4, 3) := by decide +kernel
theorem dL_law_392 : decode cL_law 392 = .ok (.iconst 0, 1) := by decide +kernel
theorem dL_law_393 : decode cL_law 393 = .ok (.invokevirtual 53, 3) := by decide +kernel
theorem dL_law_396 : decode cL_law 396 = .ok (.if_icmp .eq 334, 3) := by decide +kernel
theorem dL_law_399 : decode cL_law 399 = .ok (.iconst 0, 1) := by decide +kernel
theorem dL_law_400 : decode cL_law 400 = .ok (.ireturn, 1) := by decide +kernel
theorem dL_law_401 : decode cL_law 401 = .ok (.aload_n 1, 1) := by decide +kernel
theorem dL_law_402 : decode cL_law 402 = .ok (.aload_n 0, 1) := by decide +kernel
theorem dL_law_403 : decode cL_law 403 = .ok (.iload_n 3, 1) := by decide +kernel
theorem dL_law_404 : decode cL_law 404 = .ok (.iconst 1, 1) := by decide +kernel
theorem dL_law_405 : decode cL_law 405 = .ok (.iadd, 1) := by decide +kernel
theorem dL_law_406 : decode cL_law 406 = .ok (.iaload, 1) := by decide +kernel
theorem dL_law_407 : decode cL_law 407 = .ok (.aload_n 0, 1) := by decide +kernel
theorem dL_law_408 : decode cL_law 408 = .ok (.iload_n 3, 1) := by decide +kernel
theorem dL_law_409 : decode cL_law 409 = .ok (.iconst 2, 1) := by decide +kernel
theorem dL_law_410 : decode cL_law 410 = .ok (.iadd, 1) := by decide +kernel
theorem dL_law_411 : decode cL_law 411 = .ok (.iaload, 1) := by decide +kernel
theorem dL_law_412 : decode cL_law 412 = .ok (.invokevirtual 54, 3) := by decide +kernel
theorem dL_law_415 : decode cL_law 415 = .ok (.aload_n 2, 1) := by decide +kernel
theorem dL_law_416 : decode cL_law 416 = .ok (.aload_n 0, 1) := by decide +kernel
theorem dL_law_417 : decode cL_law 417 = .ok (.iload_n 3, 1) := by decide +kernel
theorem dL_law_418 : decode cL_law 418 = .ok (.iconst 1, 1) := by decide +kernel
theorem dL_law_419 : decode cL_law 419 = .ok (.iadd, 1) := by decide +kernel
theorem dL_law_420 : decode cL_law 420 = .ok (.iaload, 1) := by decide +kernel
theorem dL_law_421 : decode cL_law 421 = .ok (.aload_n 0, 1) := by decide +kernel
theorem dL_law_422 : decode cL_law 422 = .ok (.iload_n 3, 1) := by decide +kernel
theorem dL_law_423 : decode cL_law 423 = .ok (.iconst 2, 1) := by decide +kernel
theorem dL_law_424 : decode cL_law 424 = .ok (.iadd, 1) := by decide +kernel
theorem dL_law_425 : decode cL_law 425 = .ok (.iaload, 1) := by decide +kernel
theorem dL_law_426 : decode cL_law 426 = .ok (.invokevirtual 57, 3) := by decide +kernel
theorem dL_law_429 : decode cL_law 429 = .ok (.if_icmp .eq 301, 3) := by decide +kernel
theorem dL_law_432 : decode cL_law 432 = .ok (.iconst 0, 1) := by decide +kernel
theorem dL_law_433 : decode cL_law 433 = .ok (.ireturn, 1) := by decide +kernel
theorem dL_law_434 : decode cL_law 434 = .ok (.aload_n 1, 1) := by decide +kernel
theorem dL_law_435 : decode cL_law 435 = .ok (.invokevirtual 58, 3) := by decide +kernel
theorem dL_law_438 : decode cL_law 438 = .ok (.aload_n 2, 1) := by decide +kernel
theorem dL_law_439 : decode cL_law 439 = .ok (.invokevirtual 61, 3) := by decide +kernel
theorem dL_law_442 : decode cL_law 442 = .ok (.if_icmp .eq 288, 3) := by decide +kernel
theorem dL_law_445 : decode cL_law 445 = .ok (.iconst 0, 1) := by decide +kernel
theorem dL_law_446 : decode cL_law 446 = .ok (.ireturn, 1) := by decide +kernel
theorem dL_law_447 : decode cL_law 447 = .ok (.aload_n 1, 1) := by decide +kernel
theorem dL_law_448 : decode cL_law 448 = .ok (.aload_n 0, 1) := by decide +kernel
theorem dL_law_449 : decode cL_law 449 = .ok (.iload_n 3, 1) := by decide +kernel
theorem dL_law_450 : decode cL_law 450 = .ok (.iconst 1, 1) := by decide +kernel
theorem dL_law_451 : decode cL_law 451 = .ok (.iadd, 1) := by decide +kernel
theorem dL_law_452 : decode cL_law 452 = .ok (.iaload, 1) := by decide +kernel
theorem dL_law_453 : decode cL_law 453 = .ok (.invokevirtual 62, 3) := by decide +kernel
theorem dL_law_456 : decode cL_law 456 = .ok (.aload_n 2, 1) := by decide +kernel
theorem dL_law_457 : decode cL_law 457 = .ok (.aload_n 0, 1) := by decide +kernel
theorem dL_law_458 : decode cL_law 458 = .ok (.iload_n 3, 1) := by decide +kernel
theorem dL_law_459 : decode cL_law 459 = .ok (.iconst 1, 1) := by decide +kernel
theorem dL_law_460 : decode cL_law 460 = .ok (.iadd, 1) := by decide +kernel
theorem dL_law_461 : decode cL_law 461 = .ok (.iaload, 1) := by decide +kernel
theorem dL_law_462 : decode cL_law 462 = .ok (.invokevirtual 65, 3) := by decide +kernel
theorem dL_law_465 : decode cL_law 465 = .ok (.if_icmp .eq 265, 3) := by decide +kernel
theorem dL_law_468 : decode cL_law 468 = .ok (.iconst 0, 1) := by decide +kernel
theorem dL_law_469 : decode cL_law 469 = .ok (.ireturn, 1) := by decide +kernel
theorem dL_law_470 : decode cL_law 470 = .ok (.aload_n 1, 1) := by decide +kernel
theorem dL_law_471 : decode cL_law 471 = .ok (.aload_n 0, 1) := by decide +kernel
theorem dL_law_472 : decode cL_law 472 = .ok (.iload_n 3, 1) := by decide +kernel
theorem dL_law_473 : decode cL_law 473 = .ok (.iconst 1, 1) := by decide +kernel
theorem dL_law_474 : decode cL_law 474 = .ok (.iadd, 1) := by decide +kernel
theorem dL_law_475 : decode cL_law 475 = .ok (.iaload, 1) := by decide +kernel
theorem dL_law_476 : decode cL_law 476 = .ok (.aload_n 0, 1) := by decide +kernel
theorem dL_law_477 : decode cL_law 477 = .ok (.iload_n 3, 1) := by decide +kernel
theorem dL_law_478 : decode cL_law 478 = .ok (.iconst 2, 1) := by decide +kernel
theorem dL_law_479 : decode cL_law 479 = .ok (.iadd, 1) := by decide +kernel
theorem dL_law_480 : decode cL_law 480 = .ok (.iaload, 1) := by decide +kernel
theorem dL_law_481 : decode cL_law 481 = .ok (.invokevirtual 66, 3) := by decide +kernel
theorem dL_law_484 : decode cL_law 484 = .ok (.aload_n 2, 1) := by decide +kernel
theorem dL_law_485 : decode cL_law 485 = .ok (.aload_n 0, 1) := by decide +kernel
theorem dL_law_486 : decode cL_law 486 = .ok (.iload_n 3, 1) := by decide +kernel
theorem dL_law_487 : decode cL_law 487 = .ok (.iconst 1, 1) := by decide +kernel
theorem dL_law_488 : decode cL_law 488 = .ok (.iadd, 1) := by decide +kernel
theorem dL_law_489 : decode cL_law 489 = .ok (.iaload, 1) := by decide +kernel
theorem dL_law_490 : decode cL_law 490 = .ok (.aload_n 0, 1) := by decide +kernel
theorem dL_law_491 : decode cL_law 491 = .ok (.iload_n 3, 1) := by decide +kernel
theorem dL_law_492 : decode cL_law 492 = .ok (.iconst 2, 1) := by decide +kernel
theorem dL_law_493 : decode cL_law 493 = .ok (.iadd, 1) := by decide +kernel
theorem dL_law_494 : decode cL_law 494 = .ok (.iaload, 1) := by decide +kernel
theorem dL_law_495 : decode cL_law 495 = .ok (.invokevirtual 69, 3) := by decide +kernel
theorem dL_law_498 : decode cL_law 498 = .ok (.if_icmp .eq 232, 3) := by decide +kernel
theorem dL_law_501 : decode cL_law 501 = .ok (.iconst 0, 1) := by decide +kernel
theorem dL_law_502 : decode cL_law 502 = .ok (.ireturn, 1) := by decide +kernel
theorem dL_law_503 : decode cL_law 503 = .ok (.aload_n 1, 1) := by decide +kernel
theorem dL_law_504 : decode cL_law 504 = .ok (.aload_n 0, 1) := by decide +kernel
theorem dL_law_505 : decode cL_law 505 = .ok (.iload_n 3, 1) := by decide +kernel
theorem dL_law_506 : decode cL_law 506 = .ok (.iconst 1, 1) := by decide +kernel
theorem dL_law_507 : decode cL_law 507 = .ok (.iadd, 1) := by decide +kernel
theorem dL_law_508 : decode cL_law 508 = .ok (.iaload, 1) := by decide +kernel
theorem dL_law_509 : decode cL_law 509 = .ok (.invokevirtual 70, 3) := by decide +kernel
theorem dL_law_512 : decode cL_law 512 = .ok (.aload_n 2, 1) := by decide +kernel
theorem dL_law_513 : decode cL_law 513 = .ok (.aload_n 0, 1) := by decide +kernel
theorem dL_law_514 : decode cL_law 514 = .ok (.iload_n 3, 1) := by decide +kernel
theorem dL_law_515 : decode cL_law 515 = .ok (.iconst 1, 1) := by decide +kernel
theorem dL_law_516 : decode cL_law 516 = .ok (.iadd, 1) := by decide +kernel
theorem dL_law_517 : decode cL_law 517 = .ok (.iaload, 1) := by decide +kernel
theorem dL_law_518 : decode cL_law 518 = .ok (.invokevirtual 73, 3) := by decide +kernel
theorem dL_law_521 : decode cL_law 521 = .ok (.if_icmp .eq 209, 3) := by decide +kernel
theorem dL_law_524 : decode cL_law 524 = .ok (.iconst 0, 1) := by decide +kernel
theorem dL_law_525 : decode cL_law 525 = .ok (.ireturn, 1) := by decide +kernel
theorem dL_law_526 : decode cL_law 526 = .ok (.aload_n 1, 1) := by decide +kernel
theorem dL_law_527 : decode cL_law 527 = .ok (.invokevirtual 74, 3) := by decide +kernel
theorem dL_law_530 : decode cL_law 530 = .ok (.aload_n 2, 1) := by decide +kernel
theorem dL_law_531 : decode cL_law 531 = .ok (.invokevirtual 77, 3) := by decide +kernel
theorem dL_law_534 : decode cL_law 534 = .ok (.if_icmp .eq 196, 3) := by decide +kernel
theorem dL_law_537 : decode cL_law 537 = .ok (.iconst 0, 1) := by decide +kernel
theorem dL_law_538 : decode cL_law 538 = .ok (.ireturn, 1) := by decide +kernel
theorem dL_law_539 : decode cL_law 539 = .ok (.aload_n 1, 1) := by decide +kernel
theorem dL_law_540 : decode cL_law 540 = .ok (.invokevirtual 78, 3) := by decide +kernel
theorem dL_law_543 : decode cL_law 543 = .ok (.aload_n 2, 1) := by decide +kernel
theorem dL_law_544 : decode cL_law 544 = .ok (.invokevirtual 81, 3) := by decide +kernel
theorem dL_law_547 : decode cL_law 547 = .ok (.if_icmp .eq 183, 3) := by decide +kernel
theorem dL_law_550 : decode cL_law 550 = .ok (.iconst 0, 1) := by decide +kernel
theorem dL_law_551 : decode cL_law 551 = .ok (.ireturn, 1) := by decide +kernel
theorem dL_law_552 : decode cL_law 552 = .ok (.aload_n 1, 1) := by decide +kernel
theorem dL_law_553 : decode cL_law 553 = .ok (.aload_n 0, 1) := by decide +kernel
theorem dL_law_554 : decode cL_law 554 = .ok (.iload_n 3, 1) := by decide +kernel
theorem dL_law_555 : decode cL_law 555 = .ok (.iconst 1, 1) := by decide +kernel
theorem dL_law_556 : decode cL_law 556 = .ok (.iadd, 1) := by decide +kernel
theorem dL_law_557 : decode cL_law 557 = .ok (.iaload, 1) := by decide +kernel
theorem dL_law_558 : decode cL_law 558 = .ok (.invokevirtual 82, 3) := by decide +kernel
theorem dL_law_561 : decode cL_law 561 = .ok (.aload_n 2, 1) := by decide +kernel
theorem dL_law_562 : decode cL_law 562 = .ok (.aload_n 0, 1) := by decide +kernel
theorem dL_law_563 : decode cL_law 563 = .ok (.iload_n 3, 1) := by decide +kernel
theorem dL_law_564 : decode cL_law 564 = .ok (.iconst 1, 1) := by decide +kernel
theorem dL_law_565 : decode cL_law 565 = .ok (.iadd, 1) := by decide +kernel
theorem dL_law_566 : decode cL_law 566 = .ok (.iaload, 1) := by decide +kernel
theorem dL_law_567 : decode cL_law 567 = .ok (.invokevirtual 85, 3) := by decide +kernel
theorem dL_law_570 : decode cL_law 570 = .ok (.if_icmp .eq 160, 3) := by decide +kernel
theorem dL_law_573 : decode cL_law 573 = .ok (.iconst 0, 1) := by decide +kernel
theorem dL_law_574 : decode cL_law 574 = .ok (.ireturn, 1) := by decide +kernel
theorem dL_law_575 : decode cL_law 575 = .ok (.aload_n 1, 1) := by decide +kernel
theorem dL_law_576 : decode cL_law 576 = .ok (.invokevirtual 86, 3) := by decide +kernel
theorem dL_law_579 : decode cL_law 579 = .ok (.aload_n 2, 1) := by decide +kernel
theorem dL_law_580 : decode cL_law 580 = .ok (.invokevirtual 89, 3) := by decide +kernel
theorem dL_law_583 : decode cL_law 583 = .ok (.if_icmp .eq 147, 3) := by decide +kernel
theorem dL_law_586 : decode cL_law 586 = .ok (.iconst 0, 1) := by decide +kernel
theorem dL_law_587 : decode cL_law 587 = .ok (.ireturn, 1) := by decide +kernel
theorem dL_law_588 : decode cL_law 588 = .ok (.aload_n 1, 1) := by decide +kernel
theorem dL_law_589 : decode cL_law 589 = .ok (.invokevirtual 90, 3) := by decide +kernel
theorem dL_law_592 : decode cL_law 592 = .ok (.aload_n 2, 1) := by decide +kernel
theorem dL_law_593 : decode cL_law 593 = .ok (.invokevirtual 93, 3) := by decide +kernel
theorem dL_law_596 : decode cL_law 596 = .ok (.if_icmp .eq 134, 3) := by decide +kernel
theorem dL_law_599 : decode cL_law 599 = .ok (.iconst 0, 1) := by decide +kernel
theorem dL_law_600 : decode cL_law 600 = .ok (.ireturn, 1) := by decide +kernel
theorem dL_law_601 : decode cL_law 601 = .ok (.aload_n 1, 1) := by decide +kernel
theorem dL_law_602 : decode cL_law 602 = .ok (.aload_n 0, 1) := by decide +kernel
theorem dL_law_603 : decode cL_law 603 = .ok (.iload_n 3, 1) := by decide +kernel
theorem dL_law_604 : decode cL_law 604 = .ok (.iconst 1, 1) := by decide +kernel
theorem dL_law_605 : decode cL_law 605 = .ok (.iadd, 1) := by decide +kernel
theorem dL_law_606 : decode cL_law 606 = .ok (.iaload, 1) := by decide +kernel
theorem dL_law_607 : decode cL_law 607 = .ok (.invokevirtual 94, 3) := by decide +kernel
theorem dL_law_610 : decode cL_law 610 = .ok (.aload_n 2, 1) := by decide +kernel
theorem dL_law_611 : decode cL_law 611 = .ok (.aload_n 0, 1) := by decide +kernel
theorem dL_law_612 : decode cL_law 612 = .ok (.iload_n 3, 1) := by decide +kernel
theorem dL_law_613 : decode cL_law 613 = .ok (.iconst 1, 1) := by decide +kernel
theorem dL_law_614 : decode cL_law 614 = .ok (.iadd, 1) := by decide +kernel
theorem dL_law_615 : decode cL_law 615 = .ok (.iaload, 1) := by decide +kernel
theorem dL_law_616 : decode cL_law 616 = .ok (.invokevirtual 97, 3) := by decide +kernel
theorem dL_law_619 : decode cL_law 619 = .ok (.if_icmp .eq 111, 3) := by decide +kernel
theorem dL_law_622 : decode cL_law 622 = .ok (.iconst 0, 1) := by decide +kernel
theorem dL_law_623 : decode cL_law 623 = .ok (.ireturn, 1) := by decide +kernel
theorem dL_law_624 : decode cL_law 624 = .ok (.aload_n 1, 1) := by decide +kernel
theorem dL_law_625 : decode cL_law 625 = .ok (.aload_n 0, 1) := by decide +kernel
theorem dL_law_626 : decode cL_law 626 = .ok (.iload_n 3, 1) := by decide +kernel
theorem dL_law_627 : decode cL_law 627 = .ok (.iconst 1, 1) := by decide +kernel
theorem dL_law_628 : decode cL_law 628 = .ok (.iadd, 1) := by decide +kernel
theorem dL_law_629 : decode cL_law 629 = .ok (.iaload, 1) := by decide +kernel
theorem dL_law_630 : decode cL_law 630 = .ok (.aload_n 0, 1) := by decide +kernel
theorem dL_law_631 : decode cL_law 631 = .ok (.iload_n 3, 1) := by decide +kernel
theorem dL_law_632 : decode cL_law 632 = .ok (.iconst 2, 1) := by decide +kernel
theorem dL_law_633 : decode cL_law 633 = .ok (.iadd, 1) := by decide +kernel
theorem dL_law_634 : decode cL_law 634 = .ok (.iaload, 1) := by decide +kernel
theorem dL_law_635 : decode cL_law 635 = .ok (.aload_n 0, 1) := by decide +kernel
theorem dL_law_636 : decode cL_law 636 = .ok (.iload_n 3, 1) := by decide +kernel
theorem dL_law_637 : decode cL_law 637 = .ok (.iconst 3, 1) := by decide +kernel
theorem dL_law_638 : decode cL_law 638 = .ok (.iadd, 1) := by decide +kernel
theorem dL_law_639 : decode cL_law 639 = .ok (.iaload, 1) := by decide +kernel
theorem dL_law_640 : decode cL_law 640 = .ok (.invokevirtual 98, 3) := by decide +kernel
theorem dL_law_643 : decode cL_law 643 = .ok (.aload_n 2, 1) := by decide +kernel
theorem dL_law_644 : decode cL_law 644 = .ok (.aload_n 0, 1) := by decide +kernel
theorem dL_law_645 : decode cL_law 645 = .ok (.iload_n 3, 1) := by decide +kernel
theorem dL_law_646 : decode cL_law 646 = .ok (.iconst 1, 1) := by decide +kernel
theorem dL_law_647 : decode cL_law 647 = .ok (.iadd, 1) := by decide +kernel
theorem dL_law_648 : decode cL_law 648 = .ok (.iaload, 1) := by decide +kernel
theorem dL_law_649 : decode cL_law 649 = .ok (.aload_n 0, 1) := by decide +kernel
theorem dL_law_650 : decode cL_law 650 = .ok (.iload_n 3, 1) := by decide +kernel
theorem dL_law_651 : decode cL_law 651 = .ok (.iconst 2, 1) := by decide +kernel
theorem dL_law_652 : decode cL_law 652 = .ok (.iadd, 1) := by decide +kernel
theorem dL_law_653 : decode cL_law 653 = .ok (.iaload, 1) := by decide +kernel
theorem dL_law_654 : decode cL_law 654 = .ok (.aload_n 0, 1) := by decide +kernel
theorem dL_law_655 : decode cL_law 655 = .ok (.iload_n 3, 1) := by decide +kernel
theorem dL_law_656 : decode cL_law 656 = .ok (.iconst 3, 1) := by decide +kernel
theorem dL_law_657 : decode cL_law 657 = .ok (.iadd, 1) := by decide +kernel
theorem dL_law_658 : decode cL_law 658 = .ok (.iaload, 1) := by decide +kernel
theorem dL_law_659 : decode cL_law 659 = .ok (.invokevirtual 101, 3) := by decide +kernel
theorem dL_law_662 : decode cL_law 662 = .ok (.if_icmp .eq 68, 3) := by decide +kernel
theorem dL_law_665 : decode cL_law 665 = .ok (.iconst 0, 1) := by decide +kernel
theorem dL_law_666 : decode cL_law 666 = .ok (.ireturn, 1) := by decide +kernel
theorem dL_law_667 : decode cL_law 667 = .ok (.aload_n 1, 1) := by decide +kernel
theorem dL_law_668 : decode cL_law 668 = .ok (.invokevirtual 102, 3) := by decide +kernel
theorem dL_law_671 : decode cL_law 671 = .ok (.aload_n 2, 1) := by decide +kernel
theorem dL_law_672 : decode cL_law 672 = .ok (.invokevirtual 105, 3) := by decide +kernel
theorem dL_law_675 : decode cL_law 675 = .ok (.if_icmp .eq 55, 3) := by decide +kernel
theorem dL_law_678 : decode cL_law 678 = .ok (.iconst 0, 1) := by decide +kernel
theorem dL_law_679 : decode cL_law 679 = .ok (.ireturn, 1) := by decide +kernel
theorem dL_law_680 : decode cL_law 680 = .ok (.aload_n 1, 1) := by decide +kernel
theorem dL_law_681 : decode cL_law 681 = .ok (.invokevirtual 106, 3) := by decide +kernel
theorem dL_law_684 : decode cL_law 684 = .ok (.aload_n 2, 1) := by decide +kernel
theorem dL_law_685 : decode cL_law 685 = .ok (.invokevirtual 109, 3) := by decide +kernel
theorem dL_law_688 : decode cL_law 688 = .ok (.if_icmp .eq 42, 3) := by decide +kernel
theorem dL_law_691 : decode cL_law 691 = .ok (.iconst 0, 1) := by decide +kernel
theorem dL_law_692 : decode cL_law 692 = .ok (.ireturn, 1) := by decide +kernel
theorem dL_law_693 : decode cL_law 693 = .ok (.aload_n 1, 1) := by decide +kernel
theorem dL_law_694 : decode cL_law 694 = .ok (.aload_n 0, 1) := by decide +kernel
theorem dL_law_695 : decode cL_law 695 = .ok (.iload_n 3, 1) := by decide +kernel
theorem dL_law_696 : decode cL_law 696 = .ok (.iconst 1, 1) := by decide +kernel
theorem dL_law_697 : decode cL_law 697 = .ok (.iadd, 1) := by decide +kernel
theorem dL_law_698 : decode cL_law 698 = .ok (.iaload, 1) := by decide +kernel
theorem dL_law_699 : decode cL_law 699 = .ok (.invokevirtual 110, 3) := by decide +kernel
theorem dL_law_702 : decode cL_law 702 = .ok (.aload_n 2, 1) := by decide +kernel
theorem dL_law_703 : decode cL_law 703 = .ok (.aload_n 0, 1) := by decide +kernel
theorem dL_law_704 : decode cL_law 704 = .ok (.iload_n 3, 1) := by decide +kernel
theorem dL_law_705 : decode cL_law 705 = .ok (.iconst 1, 1) := by decide +kernel
theorem dL_law_706 : decode cL_law 706 = .ok (.iadd, 1) := by decide +kernel
theorem dL_law_707 : decode cL_law 707 = .ok (.iaload, 1) := by decide +kernel
theorem dL_law_708 : decode cL_law 708 = .ok (.invokevirtual 113, 3) := by decide +kernel
theorem dL_law_711 : decode cL_law 711 = .ok (.if_icmp .eq 19, 3) := by decide +kernel
theorem dL_law_714 : decode cL_law 714 = .ok (.iconst 0, 1) := by decide +kernel
theorem dL_law_715 : decode cL_law 715 = .ok (.ireturn, 1) := by decide +kernel
theorem dL_law_716 : decode cL_law 716 = .ok (.aload_n 1, 1) := by decide +kernel
theorem dL_law_717 : decode cL_law 717 = .ok (.invokevirtual 114, 3) := by decide +kernel
theorem dL_law_720 : decode cL_law 720 = .ok (.aload_n 2, 1) := by decide +kernel
theorem dL_law_721 : decode cL_law 721 = .ok (.invokevirtual 118, 3) := by decide +kernel
theorem dL_law_724 : decode cL_law 724 = .ok (.lcmp, 1) := by decide +kernel
theorem dL_law_725 : decode cL_law 725 = .ok (.ifCond .eq 5, 3) := by decide +kernel
theorem dL_law_728 : decode cL_law 728 = .ok (.iconst 0, 1) := by decide +kernel
theorem dL_law_729 : decode cL_law 729 = .ok (.ireturn, 1) := by decide +kernel
theorem dL_law_730 : decode cL_law 730 = .ok (.iinc 3 4, 3) := by decide +kernel
theorem dL_law_733 : decode cL_law 733 = .ok (.goto (-715), 3) := by decide +kernel
theorem dL_law_736 : decode cL_law 736 = .ok (.iconst 1, 1) := by decide +kernel
theorem dL_law_737 : decode cL_law 737 = .ok (.ireturn, 1) := by decide +kernel
end
section
/-! Rows of this claim's own: contracts of methods that make nothing, as 'from these cells to those cells with this answer'; the walk's rows with the frame's facts in one word (xE). -/
def bz : Bool → Int32
  | true => 1
  | false => 0
def xin (i : Int32) (n : Nat) : Bool := decide (0 ≤ i.toInt) && decide (i.toInt < n)
theorem xin_vp {i : Int32} {n : Nat} (h : xin i n = true) : vp_in i n := by
  simp only [xin, Bool.and_eq_true, decide_eq_true_eq] at h
  exact vp_in_iff.mpr h
theorem og_p {α : Type} {c : Prop} [Decidable c] {x y : Option α} {r : α} (h : c) (hM : (if c then x else y) = some r) : x = some r := by rwa [if_pos h] at hM
theorem og_n {α : Type} {c : Prop} [Decidable c] {x y : Option α} {r : α} (h : ¬ c) (hM : (if c then x else y) = some r) : y = some r := by rwa [if_neg h] at hM
theorem og_g {α : Type} {c : Prop} [Decidable c] {x : Option α} {r : α} (hM : (if c then x else none) = some r) : c ∧ x = some r := by
  by_cases h : c
  · exact ⟨h, by rwa [if_pos h] at hM⟩
  · rw [if_neg h] at hM
    cases hM
theorem og_b {α β : Type} {o : Option α} {f : α → Option β} {r : β} (hM : o.bind f = some r) : ∃ u, o = some u ∧ f u = some r := Option.bind_eq_some_iff.mp hM
/-- the words that each method's contract stands on: its own code, and the tables' -/
def wsA (y : MethodName) (bc : ByteArray) (nL : Nat) (ret : Option FieldType) : List Cond := .code y bc nL ret :: lw_good
theorem xGood {y : MethodName} {bc : ByteArray} {nL : Nat} {ret : Option FieldType} (h : Cond.code y bc nL ret ∈ lw_good) : GoodIn lw_good (wsA y bc nL ret) := fun w hw => by
  have h1 : w ∈ lw_good := by
    rcases List.mem_cons.mp hw with rfl | h2
    · exact h
    · exact h2
  exact ⟨h1, good_of_word (List.mem_filter.mp h1).2⟩
abbrev xT (cI cB : ClassId) : List (ClassId × FieldType) := [(cI, .int), (cB, .byte)]
def xQ (D : va_G) (tys : List (ClassId × FieldType)) (w' : va_W) (v : Option Value) (A : Nat → Prop) : Array Value → State → Outcome → State → Prop := fun _ st oc t => (oc = .returned v ∧ va_P D vwCl w' t.heap ∧ va_K D vwCl tys t ∧ va_D A w') ∧ va_F A st t
/-- a method's contract: from the cells w, called with 'as', it returns v and leaves the cells w' -/
def xC (l : Launch) (D : va_G) (tys : List (ClassId × FieldType)) (y : MethodName) (bc : ByteArray) (nL : Nat) (ret : Option FieldType) (rm : Room) (as : List Value) (w : va_W) (v : Option Value) (w' : va_W) : Prop :=
  ∀ sz : Nat, Met l y (wsA y bc nL ret) rm (va_Pc as (fun U => U.heap.size = sz ∧ va_P D vwCl w U.heap ∧ va_K D vwCl tys U ∧ va_D (fun _ => True) w)) (xQ D tys w' v (va_A w sz)) 0 0 (va_A w sz)
/-- what holds in a frame -/
def xE (p : Program) (s : State) (m : MethodId) (args : Array Value) (meth : Method) (c : Code) (A : Nat → Prop) (D : va_G) (tys : List (ClassId × FieldType)) (own : String) (bc : ByteArray) (nL : Nat) (ret : Option FieldType) : Prop :=
  p.tables.exec = Jvm.exec ∧ c.code = bc ∧ meth.sig.returnType = ret ∧ (∀ w ∈ lw_good, w.before args s = true) ∧ s.vm.findClass own = some m.cls ∧ c.maxLocals = nL ∧ meth.locks = false ∧ (∀ q : Nat, s.heap.size ≤ q → A q) ∧ va_K D vwCl tys s
theorem xC.of {l : Launch} {D : va_G} {tys : List (ClassId × FieldType)} {y : MethodName} {bc : ByteArray} {nL : Nat} {ret : Option FieldType} {rm : Room} {as : List Value} {w : va_W} {v : Option Value} {w' : va_W} (hy : plainName y.cls = true) (hn : (lg_sl as).length ≤ nL)
    (body : ∀ (p : Program) (e : Env) (s : State) (m : MethodId) (below : List Frame) (meth : Method) (c : Code) (A : Nat → Prop) (ls : Array Slot), xE p s m as.toArray meth c A D tys y.cls bc nL ret → va_P D vwCl w s.heap → va_D A w → va_S A s.heap s.heap [] → lv_has ls nL (lv_args 0 as) →
      W p l e rm s m as.toArray below meth c s.heap [] 0 0 (MQ below (xQ D tys w' v A) as.toArray s 0 0 A) (F0 m 0 ls [])) : xC l D tys y bc nL ret rm as w v w' := by
  intro sz
  refine Met.ofW (cc := bc) (maxL := nL) (ret := ret) hy rfl ?_
  intro p e s m args below meth c s₁ B hml hv
  obtain ⟨rfl, hsz, hP, hK, hD0⟩ := hv
  subst hsz
  have hts := atoms_spec (ws := wsA y bc nL ret) B.pre
  have hl := lv_entry as hn
  rw [lg_entry_eq]
  exact body p e s m below meth c (va_A w s.heap.size) _ ⟨B.exec, B.bytes, B.returns, fun w hw => hts w (List.mem_cons_of_mem _ hw), findClass_of_methodNamed B.named, hml, B.notSynchronized, fun q h => Or.inr h, hK⟩ hP hD0.self va_S.rf hl
section XB
variable {p : Program} {l : Launch} {e : Env} {R : Room} {s : State} {m : MethodId} {args : Array Value} {below : List Frame} {meth : Method} {c : Code} {H : Heap} {locs : List Loc} {cells slots : Nat} {Q : State → Prop}
variable {D : va_G} {tys : List (ClassId × FieldType)} {A : Nat → Prop} {own : String} {bc : ByteArray} {nL : Nat} {ret : Option FieldType} {pc : Nat} {ls : Array Slot} {rest : List Value} {ws w' wn : va_W} {a : Nat}
theorem x_iret {v : Int32} (E : xE p s m args meth c A D tys own bc nL (some .int)) (hP : va_P D vwCl w' H) (hD : va_D A w') (hS : va_S A s.heap H locs) (hdg : decode bc pc = .ok (.ireturn, 1)) :
    W p l e R s m args below meth c H locs 0 0 (MQ below (xQ D tys w' (some (.int v)) A) args s 0 0 A) (F0 m pc ls [.int v]) := by
  obtain ⟨hx, hb, hr, hts, hown, hml, hlocks, hA, hK⟩ := E
  exact W.iret hx hb hr (fun t ht hW => ⟨⟨rfl, by rw [ht]; exact hP, va_K.moved hW.alike hK, hD⟩, hS.F ht⟩) hS.2.2 hdg hlocks
theorem x_zret {b : Bool} (E : xE p s m args meth c A D tys own bc nL (some .boolean)) (hP : va_P D vwCl w' H) (hD : va_D A w') (hS : va_S A s.heap H locs) (hdg : decode bc pc = .ok (.ireturn, 1)) :
    W p l e R s m args below meth c H locs 0 0 (MQ below (xQ D tys w' (some (.int (bz b))) A) args s 0 0 A) (F0 m pc ls [.int (bz b)]) := by
  obtain ⟨hx, hb, hr, hts, hown, hml, hlocks, hA, hK⟩ := E
  exact W.zret hx hb hr (by cases b <;> rfl) (fun t ht hW => ⟨⟨rfl, by rw [ht]; exact hP, va_K.moved hW.alike hK, hD⟩, hS.F ht⟩) hS.2.2 hdg hlocks
theorem x_lret {v : Int64} (E : xE p s m args meth c A D tys own bc nL (some .long)) (hP : va_P D vwCl w' H) (hD : va_D A w') (hS : va_S A s.heap H locs) (hdg : decode bc pc = .ok (.lreturn, 1)) :
    W p l e R s m args below meth c H locs 0 0 (MQ below (xQ D tys w' (some (.long v)) A) args s 0 0 A) (F0 m pc ls [.long v]) := by
  obtain ⟨hx, hb, hr, hts, hown, hml, hlocks, hA, hK⟩ := E
  exact W.lret hx hb hr (fun t ht hW => ⟨⟨rfl, by rw [ht]; exact hP, va_K.moved hW.alike hK, hD⟩, hS.F ht⟩) hS.2.2 hdg hlocks
theorem x_vret (E : xE p s m args meth c A D tys own bc nL none) (hP : va_P D vwCl w' H) (hD : va_D A w') (hS : va_S A s.heap H locs) (hdg : decode bc pc = .ok (.return_, 1)) :
    W p l e R s m args below meth c H locs 0 0 (MQ below (xQ D tys w' none A) args s 0 0 A) (F0 m pc ls []) := by
  obtain ⟨hx, hb, hr, hts, hown, hml, hlocks, hA, hK⟩ := E
  exact W.vret hx hb hr (fun t ht hW => ⟨⟨rfl, by rw [ht]; exact hP, va_K.moved hW.alike hK, hD⟩, hS.F ht⟩) hS.2.2 hdg hlocks
theorem x_get {C : String} {T : u_T} {N ci index : Nat} (E : xE p s m args meth c A D tys own bc nL ret) (hin : ∀ w ∈ u_ws C T N, w ∈ lw_good) (hc : vwCl[ci]? = some (C, T, N)) (k : Nat) (hk : k < N) {fs : List Value} {v : Value} (hv : fs[k]? = some v)
    (hP : va_P D vwCl ws H) (q0 : Nat) (he : ws[q0]? = some (a, .inr (ci, fs))) (hlink : Cond.fieldLink own index (T k).1 (T k).2.1 (T k).2.2.1 ∈ lw_good) (hdg : decode bc pc = .ok (.getfield index, 3))
    (kk : W p l e R s m args below meth c H locs cells slots Q (F0 m (pc + 3) ls (v :: rest))) : W p l e R s m args below meth c H locs cells slots Q (F0 m pc ls (.ref a :: rest)) := by
  obtain ⟨hx, hb, hr, hts, hown, hml, hlocks, hA, hK⟩ := E
  exact va_get hx hb hts hin hown hK hP q0 he hc k hk (hts _ hlink) (fun _ h => h) hv hdg kk
theorem x_put {C : String} {T : u_T} {N ci index : Nat} (E : xE p s m args meth c A D tys own bc nL ret) (hin : ∀ w ∈ u_ws C T N, w ∈ lw_good) (ty0 : Nat → FieldType) (hty : ∀ k, k < N → parseFieldDescriptor (T k).2.2.1 = some (ty0 k)) (hnm : ∀ a, a < N → ∀ b, b < N → a ≠ b → (T a).2.1 ≠ (T b).2.1)
    (hc : vwCl[ci]? = some (C, T, N)) (k : Nat) (hk : k < N) (hfin : (T k).2.2.2 = false) {fs fs' : List Value} {v : Value} (hn : narrow (ty0 k) v = v) (hfit : fits (ty0 k) v = true) (hl : k < fs.length) (hfs : fs.set k v = fs')
    (hP : va_P D vwCl ws H) (hD : va_D A ws) (hS : va_S A s.heap H locs) (q0 : Nat) (he : ws[q0]? = some (a, .inr (ci, fs))) (hlink : Cond.fieldLink own index (T k).1 (T k).2.1 (T k).2.2.1 ∈ lw_good) (hdg : decode bc pc = .ok (.putfield index, 3))
    (hw : ws.set q0 (a, .inr (ci, fs')) = wn)
    (kk : ∀ (H1 : Heap) (locs1 : List Loc), va_P D vwCl wn H1 → va_D A wn → va_S A s.heap H1 locs1 → W p l e R s m args below meth c H1 locs1 cells slots Q (F0 m (pc + 3) ls rest)) : W p l e R s m args below meth c H locs cells slots Q (F0 m pc ls (v :: .ref a :: rest)) := by
  obtain ⟨hx, hb, hr, hts, hown, hml, hlocks, hA, hK⟩ := E
  subst hfs
  subst hw
  exact va_put hx hb hts hin ty0 hty hnm hown hK hP hD hS q0 he hc k hk (hts _ hlink) (fun _ h => h) hfin (hty k hk) hn hfit hl hdg kk
theorem x_iald {cI cB : ClassId} {n : Nat} {f : Nat → Int32} {i : Int32} (E : xE p s m args meth c A D (xT cI cB) own bc nL ret) (hin : xin i n = true) (hP : va_P D vwCl ws H) (q0 : Nat) (he : ws[q0]? = some (a, .inl (cI, n, .inl f))) (hdg : decode bc pc = .ok (.iaload, 1))
    (kk : W p l e R s m args below meth c H locs cells slots Q (F0 m (pc + 1) ls (.int (f i.toNatClampNeg) :: rest))) : W p l e R s m args below meth c H locs cells slots Q (F0 m pc ls (.int i :: .ref a :: rest)) := by
  obtain ⟨hx, hb, hr, hts, hown, hml, hlocks, hA, hK⟩ := E
  exact va_iald hx hb hK hP q0 0 he rfl (xin_vp hin) hdg kk
theorem x_bald {cI cB : ClassId} {n : Nat} {f : Nat → Int32} {i : Int32} (E : xE p s m args meth c A D (xT cI cB) own bc nL ret) (hin : xin i n = true) (hP : va_P D vwCl ws H) (q0 : Nat) (he : ws[q0]? = some (a, .inl (cB, n, .inl f))) (hdg : decode bc pc = .ok (.baload, 1))
    (kk : W p l e R s m args below meth c H locs cells slots Q (F0 m (pc + 1) ls (.int (f i.toNatClampNeg) :: rest))) : W p l e R s m args below meth c H locs cells slots Q (F0 m pc ls (.int i :: .ref a :: rest)) := by
  obtain ⟨hx, hb, hr, hts, hown, hml, hlocks, hA, hK⟩ := E
  exact va_bald hx hb hK hP q0 1 he rfl (xin_vp hin) hdg kk
theorem x_iast {cI cB : ClassId} {n : Nat} {f : Nat → Int32} {i x : Int32} (E : xE p s m args meth c A D (xT cI cB) own bc nL ret) (hin : xin i n = true) (hP : va_P D vwCl ws H) (hD : va_D A ws) (hS : va_S A s.heap H locs) (q0 : Nat) (he : ws[q0]? = some (a, .inl (cI, n, .inl f))) (hdg : decode bc pc = .ok (.iastore, 1))
    (hw : ws.set q0 (a, .inl (cI, n, .inl (upd f i.toNatClampNeg x))) = wn)
    (kk : ∀ (H1 : Heap) (locs1 : List Loc), va_P D vwCl wn H1 → va_D A wn → va_S A s.heap H1 locs1 → W p l e R s m args below meth c H1 locs1 cells slots Q (F0 m (pc + 1) ls rest)) : W p l e R s m args below meth c H locs cells slots Q (F0 m pc ls (.int x :: .int i :: .ref a :: rest)) := by
  obtain ⟨hx, hb, hr, hts, hown, hml, hlocks, hA, hK⟩ := E
  subst hw
  exact va_iast hx hb hK hP hD hS q0 0 he rfl (xin_vp hin) hdg kk
theorem x_bast {cI cB : ClassId} {n : Nat} {f : Nat → Int32} {i x : Int32} (E : xE p s m args meth c A D (xT cI cB) own bc nL ret) (hin : xin i n = true) (hP : va_P D vwCl ws H) (hD : va_D A ws) (hS : va_S A s.heap H locs) (q0 : Nat) (he : ws[q0]? = some (a, .inl (cB, n, .inl f))) (hdg : decode bc pc = .ok (.bastore, 1))
    (hw : ws.set q0 (a, .inl (cB, n, .inl (upd f i.toNatClampNeg (vp_nar .byte x)))) = wn)
    (kk : ∀ (H1 : Heap) (locs1 : List Loc), va_P D vwCl wn H1 → va_D A wn → va_S A s.heap H1 locs1 → W p l e R s m args below meth c H1 locs1 cells slots Q (F0 m (pc + 1) ls rest)) : W p l e R s m args below meth c H locs cells slots Q (F0 m pc ls (.int x :: .int i :: .ref a :: rest)) := by
  obtain ⟨hx, hb, hr, hts, hown, hml, hlocks, hA, hK⟩ := E
  subst hw
  exact va_bast hx hb hK hP hD hS q0 1 he rfl (xin_vp hin) hdg kk
theorem x_alen {cI cB : ClassId} {n : Nat} {f : Nat → Int32} {v : Int32} (E : xE p s m args meth c A D (xT cI cB) own bc nL ret) (hP : va_P D vwCl ws H) (q0 : Nat) (he : ws[q0]? = some (a, .inl (cI, n, .inl f))) (hv : Int32.ofNat n = v) (hdg : decode bc pc = .ok (.arraylength, 1))
    (kk : W p l e R s m args below meth c H locs cells slots Q (F0 m (pc + 1) ls (.int v :: rest))) : W p l e R s m args below meth c H locs cells slots Q (F0 m pc ls (.ref a :: rest)) := by
  obtain ⟨hx, hb, hr, hts, hown, hml, hlocks, hA, hK⟩ := E
  exact va_alen hx hb hK hP q0 0 he rfl hv hdg kk
theorem x_copy {cI cB : ClassId} {n0 n1 index a0 : Nat} {f g : Nat → Int32} {sp dp n : Int32} (E : xE p s m args meth c A D (xT cI cB) own bc nL ret) (hlen : ls.size = nL) (hlink : Cond.methodLink own index arraycopyName ∈ lw_good) (hnat : Cond.native arraycopyName ∈ lw_good) (hstat : Cond.static arraycopyName ∈ lw_good) (hini : Cond.initialized "java/lang/System" ∈ lw_good)
    (hP : va_P D vwCl ws H) (hD : va_D A ws) (hS : va_S A s.heap H locs) (q0 q1 : Nat) (he0 : ws[q0]? = some (a0, .inl (cI, n0, .inl f))) (he1 : ws[q1]? = some (a, .inl (cI, n1, .inl g)))
    (h1 : ¬ sp < 0) (h2 : ¬ dp < 0) (h3 : ¬ n < 0) (h4 : sp.toNatClampNeg + n.toNatClampNeg ≤ n0) (h5 : dp.toNatClampNeg + n.toNatClampNeg ≤ n1) (hframes : 1 ≤ R.frames) (hlocals : (rest.map fun v => v.category).sum + (nativeFrameWords "java/lang/System" "arraycopy" 5 + 11) ≤ R.locals) (hdg : decode bc pc = .ok (.invokestatic index, 3))
    (hw : ws.set q1 (a, .inl (cI, n1, .inl (va_cpy f g sp.toNatClampNeg dp.toNatClampNeg n.toNatClampNeg))) = wn)
    (kk : ∀ (H1 : Heap) (locs1 : List Loc), va_P D vwCl wn H1 → va_D A wn → va_S A s.heap H1 locs1 → W p l e R s m args below meth c H1 locs1 cells slots Q (F0 m (pc + 3) ls rest)) : W p l e R s m args below meth c H locs cells slots Q (F0 m pc ls (.int n :: .int dp :: .ref a :: .int sp :: .ref a0 :: rest)) := by
  obtain ⟨hx, hb, hr, hts, hown, hml, hlocks, hA, hK⟩ := E
  subst hw
  exact va_copyi hx hb (hml.trans hlen.symm) hown (hts _ hlink) (hts _ hnat) (hts _ hstat) (hts _ hini) hK hP hD hS q0 q1 0 0 he0 he1 rfl rfl rfl h1 h2 h3 h4 h5 (fun _ _ => rfl) hframes hlocals hdg kk
/-- what a call needs of a callee of an object, once and for all -/
def xV (y : MethodName) (bc : ByteArray) (nL : Nat) (ret : Option FieldType) (n : Nat) : Prop := Cond.code y bc nL ret ∈ lw_good ∧ Cond.instanceMethod y ∈ lw_good ∧ Cond.selects y.cls y y ∈ lw_good ∧ Cond.initialized y.cls ∈ lw_good ∧ (y.cls ≠ "java/lang/invoke/MethodHandle" ∧ y.cls ≠ "java/lang/invoke/VarHandle" ∧ (parseMethodDescriptor y.desc).map (fun d => d.parameters.length) = some n)
def xSt (y : MethodName) (bc : ByteArray) (nL : Nat) (ret : Option FieldType) (n : Nat) : Prop := Cond.code y bc nL ret ∈ lw_good ∧ Cond.static y ∈ lw_good ∧ Cond.initialized y.cls ∈ lw_good ∧ (y.cls ≠ "java/lang/invoke/MethodHandle" ∧ y.cls ≠ "java/lang/invoke/VarHandle" ∧ (parseMethodDescriptor y.desc).map (fun d => d.parameters.length) = some n)
def xchk (n : Nat) (is isR : List Nat) : Bool := ((List.range n).all fun k => decide (k ∈ is) || decide (k ∈ isR)) && va_nd is
/-- the cells behind a call: the callee's as it left them, the others as they were -/
theorem x_join {wc wc' : va_W} {H1 : Heap} (hP : va_P D vwCl ws H) (hD : va_D A ws) (is isR : List Nat) (wr : va_W) (aw : List Nat) (N : Nat) (h1 : is.map (fun i => ws[i]?) = wc.map some) (h2 : is.map (fun i => wn[i]?) = wc'.map some) (h3 : isR.map (fun i => ws[i]?) = wr.map some) (h3' : isR.map (fun i => wn[i]?) = wr.map some) (h40 : ws.map (fun q => q.1) = aw) (h4' : wn.map (fun q => q.1) = aw) (hN : aw.length = N) (h5 : xchk N is isR = true)
    (hk : ∀ q : Nat, q < H.size → ¬ va_A wc H.size q → H1[q]? = H[q]?) (hP1 : va_P D vwCl wc' H1) : va_P D vwCl wn H1 ∧ va_D A wn := by
  have h4 : wn.map (fun q => q.1) = ws.map (fun q => q.1) := h4'.trans h40.symm
  have h3 : isR.map (fun i => wn[i]?) = isR.map (fun i => ws[i]?) := h3'.trans h3.symm
  have hlw : ws.length = N := by rw [← hN, ← h40, List.length_map]
  simp only [xchk, Bool.and_eq_true] at h5
  have hfst : ∀ (k : Nat) (q : Nat × va_E), wn[k]? = some q → ∃ q', ws[k]? = some q' ∧ q'.1 = q.1 := by
    intro k q hq
    have h := congrArg (fun l => l[k]?) h4
    simp only [List.getElem?_map, hq, Option.map_some] at h
    cases hw : ws[k]? with
    | none => rw [hw] at h; cases h
    | some q' => rw [hw] at h; exact ⟨q', rfl, (Option.some.inj h).symm⟩
  have hat : ∀ {js : List Nat} {w : va_W} {z : va_W}, js.map (fun i => z[i]?) = w.map some → ∀ (j k : Nat), js[j]? = some k → ∃ q, w[j]? = some q ∧ z[k]? = some q := by
    intro js w z h j k hj
    have h' := congrArg (fun l => l[j]?) h
    simp only [List.getElem?_map, hj, Option.map_some] at h'
    cases hw : w[j]? with
    | none => rw [hw] at h'; cases h'
    | some q => rw [hw] at h'; exact ⟨q, rfl, Option.some.inj h'⟩
  constructor
  · intro k q hq
    obtain ⟨q', hq', hqq⟩ := hfst k q hq
    have hkl : k < ws.length := (List.getElem?_eq_some_iff.mp hq').1
    have hcov := List.all_eq_true.mp h5.1 k (List.mem_range.mpr (hlw ▸ hkl))
    simp only [Bool.or_eq_true, decide_eq_true_eq] at hcov
    by_cases hin : k ∈ is
    · obtain ⟨j, hj⟩ := List.getElem?_of_mem hin
      obtain ⟨q2, hq2, hz⟩ := hat h2 j k hj
      rw [hq] at hz
      cases hz
      exact hP1 j q hq2
    · have hinR : k ∈ isR := hcov.resolve_left hin
      obtain ⟨j, hj⟩ := List.getElem?_of_mem hinR
      have hsame : wn[k]? = ws[k]? := by
        have h' := congrArg (fun l => l[j]?) h3
        simp only [List.getElem?_map, hj, Option.map_some] at h'
        exact Option.some.inj h'
      rw [hq] at hsame
      have hold := hP k q hsame.symm
      refine hold.kept (hk q.1 hold.lt ?_)
      rintro (⟨j2, e2, hj2⟩ | hge)
      · have hjl : j2 < is.length := by
          have hl1 : j2 < wc.length := (List.getElem?_eq_some_iff.mp hj2).1
          have hl2 := congrArg List.length h1
          simp only [List.length_map] at hl2
          omega
        obtain ⟨q3, hq3, hz3⟩ := hat h1 j2 _ (List.getElem?_eq_getElem hjl)
        rw [hj2] at hq3
        cases hq3
        have := hD.1 k _ q _ hsame.symm hz3 rfl
        exact hin (this ▸ List.getElem_mem hjl)
      · exact absurd hold.lt (Nat.not_lt.mpr hge)
  · constructor
    · intro i j x y hx hy hxy
      obtain ⟨x', hx', ex⟩ := hfst i x hx
      obtain ⟨y', hy', ey⟩ := hfst j y hy
      exact hD.1 i j x' y' hx' hy' (by rw [ex, ey, hxy])
    · intro k q hq
      obtain ⟨q', hq', hqq⟩ := hfst k q hq
      exact hqq ▸ hD.2 k q' hq'
theorem x_run {wc wc' : va_W} {v : Option Value} {st0 : List Value} {a1 : Array Value} (hr : va_Run p l e R s m args below meth c H locs cells slots 0 0 (F0 m pc ls st0) rest (xQ D tys wc' v (va_A wc H.size) a1) (va_A wc H.size)) (hA : ∀ q : Nat, s.heap.size ≤ q → A q)
    (hP : va_P D vwCl ws H) (hD : va_D A ws) (hS : va_S A s.heap H locs) (is isR : List Nat) (wr : va_W) (aw : List Nat) (N : Nat) (h1 : is.map (fun i => ws[i]?) = wc.map some) (h2 : is.map (fun i => wn[i]?) = wc'.map some) (h3 : isR.map (fun i => ws[i]?) = wr.map some) (h3' : isR.map (fun i => wn[i]?) = wr.map some) (h40 : ws.map (fun q => q.1) = aw) (h4' : wn.map (fun q => q.1) = aw) (hN : aw.length = N) (h5 : xchk N is isR = true)
    (kk : ∀ (H1 : Heap) (locs1 : List Loc), va_P D vwCl wn H1 → va_D A wn → va_S A s.heap H1 locs1 → W p l e R s m args below meth c H1 locs1 cells slots Q (F0 m (pc + 3) ls (v.toList ++ rest))) : W p l e R s m args below meth c H locs cells slots Q (F0 m pc ls st0) := by
  intro T hT X
  obtain ⟨v', st₀, t, T', L, h0, X', hL, e1, e2, ⟨⟨hv, hp, -, -⟩, hz, hk⟩, st⟩ := hr T hT X
  cases hv
  rw [h0] at hz hk
  have hF := va_free hD hS hA is h1
  have hk' : ∀ q : Nat, q < H.size → ¬ va_A wc H.size q → T'.heap[q]? = H[q]? := fun q h1 h2 => by rw [e1]; exact hk q h1 h2
  obtain ⟨hPn, hDn⟩ := x_join hP hD is isR wr aw N h1 h2 h3 h3' h40 h4' hN h5 hk' (by rw [e1]; exact hp)
  obtain ⟨t2, a2, b2⟩ := kk T'.heap (locs ++ L) hPn hDn ⟨Nat.le_trans hS.1 (by rw [e1]; exact hz), fun q h1 h2 => by rw [hk' q (Nat.lt_of_lt_of_le h1 hS.1) (fun z => h2 (hF q z))]; exact hS.2.1 q h1 h2, fun q hq => by
      rcases List.mem_append.mp hq with h | h
      · exact hS.2.2 q h
      · exact hF _ (hL q h)⟩ T' rfl X'
  exact ⟨t2, st t2 a2, b2⟩
theorem x_V {y : MethodName} {bc' : ByteArray} {nL' n q0 ci index : Nat} {ret' : Option FieldType} {rm : Room} {b : Addr} {As st0 : List Value} {wc wc' : va_W} {v : Option Value} {fs : List Value} {cq : vw_C} {lv : List (Nat × Value)} (E : xE p s m args meth c A D tys own bc nL ret) (hC : xC l D tys y bc' nL' ret' rm (.ref b :: As) wc v wc') (ok : xV y bc' nL' ret' n) (hlink : Cond.methodLink own index y ∈ lw_good)
    (hz : rm.cells = 0 ∧ rm.slots = 0) (hR : rm.frames + 1 ≤ R.frames ∧ 8 + (nL' + 11) + rm.locals ≤ R.locals) (hn : As.length = n) (hst : st0 = As.reverse ++ .ref b :: rest) (hcat : (rest.map fun v => v.category).sum ≤ 8) (hl : lv_has ls nL lv) (hdg : decode bc pc = .ok (.invokevirtual index, 3)) (hf : cells ≤ R.cells ∧ slots ≤ R.slots)
    (hP : va_P D vwCl ws H) (hD : va_D A ws) (hS : va_S A s.heap H locs) (is isR : List Nat) (wr : va_W) (aw : List Nat) (N : Nat) (h1 : is.map (fun i => ws[i]?) = wc.map some) (h2 : is.map (fun i => wn[i]?) = wc'.map some) (h3 : isR.map (fun i => ws[i]?) = wr.map some) (h3' : isR.map (fun i => wn[i]?) = wr.map some) (h40 : ws.map (fun q => q.1) = aw) (h4' : wn.map (fun q => q.1) = aw) (hN : aw.length = N) (h5 : xchk N is isR = true)
    (hq : wc[q0]? = some (b, .inr (ci, fs))) (hci : vwCl[ci]? = some cq) (hcq : cq.1 = y.cls)
    (kk : ∀ (H1 : Heap) (locs1 : List Loc), va_P D vwCl wn H1 → va_D A wn → va_S A s.heap H1 locs1 → W p l e R s m args below meth c H1 locs1 cells slots Q (F0 m (pc + 3) ls (v.toList ++ rest))) : W p l e R s m args below meth c H locs cells slots Q (F0 m pc ls st0) := by
  obtain ⟨hx, hb, hr, hts, hown, hml, hlocks, hA, hK⟩ := E
  obtain ⟨o1, o2, o3, o4, o5⟩ := ok
  have hPc : va_P D vwCl wc H := by
    intro k q hk
    have h' := congrArg (fun l => l[k]?) h1
    simp only [List.getElem?_map, hk, Option.map_some] at h'
    cases hi : is[k]? with
    | none => rw [hi] at h'; cases h'
    | some i => rw [hi] at h'; exact hP i q (Option.some.inj h')
  have hDc : va_D (fun _ => True) wc := (hD.sub is (by simp only [xchk, Bool.and_eq_true] at h5; exact h5.2) h1).weaken (fun _ _ _ _ => trivial)
  have hrun := va_runV (e := e) (below := below) (meth := meth) (locs := locs) (S := ⟨hx, hb, hml, hown, hts⟩) (hC H.size) (cw := ⟨callB_of n hts (xGood o1) rfl hz.1 hz.2 (hts _ o4) (hts _ hlink) o5 hR, hts _ o2, hts _ o3⟩)
    ⟨fun a U g mk q => by obtain ⟨q0, q1, qP, qK, qD⟩ := q; exact ⟨q0, q1, qP, va_K.moved (u := U) (U := U.calling g mk a) (Vm.Alike.refl U.vm) qK, qD⟩, by have h := va_recv hK hPc hci hq; rw [hcq] at h; exact h, fun U hU hW => ⟨rfl, by rw [hU], by rw [hU]; exact hPc, va_K.moved hW.alike hK, hDc⟩⟩
    (g := F0 m pc ls st0) rfl hn hl.1 hst (lv_room hcat) hdg hf
  exact x_run hrun hA hP hD hS is isR wr aw N h1 h2 h3 h3' h40 h4' hN h5 kk
theorem x_S {y : MethodName} {bc' : ByteArray} {nL' n index : Nat} {ret' : Option FieldType} {rm : Room} {As st0 : List Value} {wc wc' : va_W} {v : Option Value} {lv : List (Nat × Value)} (E : xE p s m args meth c A D tys own bc nL ret) (hC : xC l D tys y bc' nL' ret' rm As wc v wc') (ok : xSt y bc' nL' ret' n) (hlink : Cond.methodLink own index y ∈ lw_good)
    (hz : rm.cells = 0 ∧ rm.slots = 0) (hR : rm.frames + 1 ≤ R.frames ∧ 8 + (nL' + 11) + rm.locals ≤ R.locals) (hn : As.length = n) (hst : st0 = As.reverse ++ rest) (hcat : (rest.map fun v => v.category).sum ≤ 8) (hl : lv_has ls nL lv) (hdg : decode bc pc = .ok (.invokestatic index, 3)) (hf : cells ≤ R.cells ∧ slots ≤ R.slots)
    (hP : va_P D vwCl ws H) (hD : va_D A ws) (hS : va_S A s.heap H locs) (is isR : List Nat) (wr : va_W) (aw : List Nat) (N : Nat) (h1 : is.map (fun i => ws[i]?) = wc.map some) (h2 : is.map (fun i => wn[i]?) = wc'.map some) (h3 : isR.map (fun i => ws[i]?) = wr.map some) (h3' : isR.map (fun i => wn[i]?) = wr.map some) (h40 : ws.map (fun q => q.1) = aw) (h4' : wn.map (fun q => q.1) = aw) (hN : aw.length = N) (h5 : xchk N is isR = true)
    (kk : ∀ (H1 : Heap) (locs1 : List Loc), va_P D vwCl wn H1 → va_D A wn → va_S A s.heap H1 locs1 → W p l e R s m args below meth c H1 locs1 cells slots Q (F0 m (pc + 3) ls (v.toList ++ rest))) : W p l e R s m args below meth c H locs cells slots Q (F0 m pc ls st0) := by
  obtain ⟨hx, hb, hr, hts, hown, hml, hlocks, hA, hK⟩ := E
  obtain ⟨o1, o2, o4, o5⟩ := ok
  have hPc : va_P D vwCl wc H := by
    intro k q hk
    have h' := congrArg (fun l => l[k]?) h1
    simp only [List.getElem?_map, hk, Option.map_some] at h'
    cases hi : is[k]? with
    | none => rw [hi] at h'; cases h'
    | some i => rw [hi] at h'; exact hP i q (Option.some.inj h')
  have hDc : va_D (fun _ => True) wc := (hD.sub is (by simp only [xchk, Bool.and_eq_true] at h5; exact h5.2) h1).weaken (fun _ _ _ _ => trivial)
  have hrun := va_runS (e := e) (below := below) (meth := meth) (locs := locs) (S := ⟨hx, hb, hml, hown, hts⟩) (hC H.size) (cw := ⟨callB_of n hts (xGood o1) rfl hz.1 hz.2 (hts _ o4) (hts _ hlink) o5 hR, hts _ o2⟩)
    ⟨fun a U g mk q => by obtain ⟨q0, q1, qP, qK, qD⟩ := q; exact ⟨q0, q1, qP, va_K.moved (u := U) (U := U.calling g mk a) (Vm.Alike.refl U.vm) qK, qD⟩, fun U hU hW => ⟨rfl, by rw [hU], by rw [hU]; exact hPc, va_K.moved hW.alike hK, hDc⟩⟩
    (g := F0 m pc ls st0) rfl hn hl.1 hst (lv_room hcat) hdg hf
  exact x_run hrun hA hP hD hS is isR wr aw N h1 h2 h3 h3' h40 h4' hN h5 kk
end XB
section XB2
variable {p : Program} {l : Launch} {e : Env} {R : Room} {s : State} {m : MethodId} {args : Array Value} {below : List Frame} {meth : Method} {c : Code} {H : Heap} {locs : List Loc} {cells slots : Nat} {Q : State → Prop}
variable {D : va_G} {tys : List (ClassId × FieldType)} {A : Nat → Prop} {own : String} {bc : ByteArray} {nL : Nat} {ret : Option FieldType} {pc : Nat} {ls : Array Slot} {rest : List Value} {ws w' wn : va_W} {a : Nat}
theorem x_Vi {y : MethodName} {bc' : ByteArray} {nL' n q0 ci index : Nat} {ret' : Option FieldType} {rm : Room} {b : Addr} {As st0 : List Value} {wc wc' : va_W} {v : Value} {fs : List Value} {cq : vw_C} {lv : List (Nat × Value)} (E : xE p s m args meth c A D tys own bc nL ret) (hC : xC l D tys y bc' nL' ret' rm (.ref b :: As) wc (some v) wc') (ok : xV y bc' nL' ret' n) (hlink : Cond.methodLink own index y ∈ lw_good)
    (hz : rm.cells = 0 ∧ rm.slots = 0) (hR : rm.frames + 1 ≤ R.frames ∧ 8 + (nL' + 11) + rm.locals ≤ R.locals) (hn : As.length = n) (hst : st0 = As.reverse ++ .ref b :: rest) (hcat : (rest.map fun v => v.category).sum ≤ 8) (hl : lv_has ls nL lv) (hdg : decode bc pc = .ok (.invokevirtual index, 3)) (hf : cells ≤ R.cells ∧ slots ≤ R.slots)
    (hP : va_P D vwCl ws H) (hD : va_D A ws) (hS : va_S A s.heap H locs) (is isR : List Nat) (wr : va_W) (aw : List Nat) (N : Nat) (h1 : is.map (fun i => ws[i]?) = wc.map some) (h2 : is.map (fun i => wn[i]?) = wc'.map some) (h3 : isR.map (fun i => ws[i]?) = wr.map some) (h3' : isR.map (fun i => wn[i]?) = wr.map some) (h40 : ws.map (fun q => q.1) = aw) (h4' : wn.map (fun q => q.1) = aw) (hN : aw.length = N) (h5 : xchk N is isR = true)
    (hq : wc[q0]? = some (b, .inr (ci, fs))) (hci : vwCl[ci]? = some cq) (hcq : cq.1 = y.cls)
    (kk : ∀ (H1 : Heap) (locs1 : List Loc), va_P D vwCl wn H1 → va_D A wn → va_S A s.heap H1 locs1 → W p l e R s m args below meth c H1 locs1 cells slots Q (F0 m (pc + 3) ls (v :: rest))) : W p l e R s m args below meth c H locs cells slots Q (F0 m pc ls st0) :=
  x_V E hC ok hlink hz hR hn hst hcat hl hdg hf hP hD hS is isR wr aw N h1 h2 h3 h3' h40 h4' hN h5 hq hci hcq kk
theorem x_Vv {y : MethodName} {bc' : ByteArray} {nL' n q0 ci index : Nat} {ret' : Option FieldType} {rm : Room} {b : Addr} {As st0 : List Value} {wc wc' : va_W}  {fs : List Value} {cq : vw_C} {lv : List (Nat × Value)} (E : xE p s m args meth c A D tys own bc nL ret) (hC : xC l D tys y bc' nL' ret' rm (.ref b :: As) wc none wc') (ok : xV y bc' nL' ret' n) (hlink : Cond.methodLink own index y ∈ lw_good)
    (hz : rm.cells = 0 ∧ rm.slots = 0) (hR : rm.frames + 1 ≤ R.frames ∧ 8 + (nL' + 11) + rm.locals ≤ R.locals) (hn : As.length = n) (hst : st0 = As.reverse ++ .ref b :: rest) (hcat : (rest.map fun v => v.category).sum ≤ 8) (hl : lv_has ls nL lv) (hdg : decode bc pc = .ok (.invokevirtual index, 3)) (hf : cells ≤ R.cells ∧ slots ≤ R.slots)
    (hP : va_P D vwCl ws H) (hD : va_D A ws) (hS : va_S A s.heap H locs) (is isR : List Nat) (wr : va_W) (aw : List Nat) (N : Nat) (h1 : is.map (fun i => ws[i]?) = wc.map some) (h2 : is.map (fun i => wn[i]?) = wc'.map some) (h3 : isR.map (fun i => ws[i]?) = wr.map some) (h3' : isR.map (fun i => wn[i]?) = wr.map some) (h40 : ws.map (fun q => q.1) = aw) (h4' : wn.map (fun q => q.1) = aw) (hN : aw.length = N) (h5 : xchk N is isR = true)
    (hq : wc[q0]? = some (b, .inr (ci, fs))) (hci : vwCl[ci]? = some cq) (hcq : cq.1 = y.cls)
    (kk : ∀ (H1 : Heap) (locs1 : List Loc), va_P D vwCl wn H1 → va_D A wn → va_S A s.heap H1 locs1 → W p l e R s m args below meth c H1 locs1 cells slots Q (F0 m (pc + 3) ls rest)) : W p l e R s m args below meth c H locs cells slots Q (F0 m pc ls st0) :=
  x_V E hC ok hlink hz hR hn hst hcat hl hdg hf hP hD hS is isR wr aw N h1 h2 h3 h3' h40 h4' hN h5 hq hci hcq kk
theorem x_Si {y : MethodName} {bc' : ByteArray} {nL' n index : Nat} {ret' : Option FieldType} {rm : Room} {As st0 : List Value} {wc wc' : va_W} {v : Value} {lv : List (Nat × Value)} (E : xE p s m args meth c A D tys own bc nL ret) (hC : xC l D tys y bc' nL' ret' rm As wc (some v) wc') (ok : xSt y bc' nL' ret' n) (hlink : Cond.methodLink own index y ∈ lw_good)
    (hz : rm.cells = 0 ∧ rm.slots = 0) (hR : rm.frames + 1 ≤ R.frames ∧ 8 + (nL' + 11) + rm.locals ≤ R.locals) (hn : As.length = n) (hst : st0 = As.reverse ++ rest) (hcat : (rest.map fun v => v.category).sum ≤ 8) (hl : lv_has ls nL lv) (hdg : decode bc pc = .ok (.invokestatic index, 3)) (hf : cells ≤ R.cells ∧ slots ≤ R.slots)
    (hP : va_P D vwCl ws H) (hD : va_D A ws) (hS : va_S A s.heap H locs) (is isR : List Nat) (wr : va_W) (aw : List Nat) (N : Nat) (h1 : is.map (fun i => ws[i]?) = wc.map some) (h2 : is.map (fun i => wn[i]?) = wc'.map some) (h3 : isR.map (fun i => ws[i]?) = wr.map some) (h3' : isR.map (fun i => wn[i]?) = wr.map some) (h40 : ws.map (fun q => q.1) = aw) (h4' : wn.map (fun q => q.1) = aw) (hN : aw.length = N) (h5 : xchk N is isR = true)
    (kk : ∀ (H1 : Heap) (locs1 : List Loc), va_P D vwCl wn H1 → va_D A wn → va_S A s.heap H1 locs1 → W p l e R s m args below meth c H1 locs1 cells slots Q (F0 m (pc + 3) ls (v :: rest))) : W p l e R s m args below meth c H locs cells slots Q (F0 m pc ls st0) :=
  x_S E hC ok hlink hz hR hn hst hcat hl hdg hf hP hD hS is isR wr aw N h1 h2 h3 h3' h40 h4' hN h5 kk
theorem x_Sv {y : MethodName} {bc' : ByteArray} {nL' n index : Nat} {ret' : Option FieldType} {rm : Room} {As st0 : List Value} {wc wc' : va_W}  {lv : List (Nat × Value)} (E : xE p s m args meth c A D tys own bc nL ret) (hC : xC l D tys y bc' nL' ret' rm As wc none wc') (ok : xSt y bc' nL' ret' n) (hlink : Cond.methodLink own index y ∈ lw_good)
    (hz : rm.cells = 0 ∧ rm.slots = 0) (hR : rm.frames + 1 ≤ R.frames ∧ 8 + (nL' + 11) + rm.locals ≤ R.locals) (hn : As.length = n) (hst : st0 = As.reverse ++ rest) (hcat : (rest.map fun v => v.category).sum ≤ 8) (hl : lv_has ls nL lv) (hdg : decode bc pc = .ok (.invokestatic index, 3)) (hf : cells ≤ R.cells ∧ slots ≤ R.slots)
    (hP : va_P D vwCl ws H) (hD : va_D A ws) (hS : va_S A s.heap H locs) (is isR : List Nat) (wr : va_W) (aw : List Nat) (N : Nat) (h1 : is.map (fun i => ws[i]?) = wc.map some) (h2 : is.map (fun i => wn[i]?) = wc'.map some) (h3 : isR.map (fun i => ws[i]?) = wr.map some) (h3' : isR.map (fun i => wn[i]?) = wr.map some) (h40 : ws.map (fun q => q.1) = aw) (h4' : wn.map (fun q => q.1) = aw) (hN : aw.length = N) (h5 : xchk N is isR = true)
    (kk : ∀ (H1 : Heap) (locs1 : List Loc), va_P D vwCl wn H1 → va_D A wn → va_S A s.heap H1 locs1 → W p l e R s m args below meth c H1 locs1 cells slots Q (F0 m (pc + 3) ls rest)) : W p l e R s m args below meth c H locs cells slots Q (F0 m pc ls st0) :=
  x_S E hC ok hlink hz hR hn hst hcat hl hdg hf hP hD hS is isR wr aw N h1 h2 h3 h3' h40 h4' hN h5 kk
end XB2
end
section
/-! the fields of each class: a read and a write of each, once and for all (made by wip/whole/gen.py) -/
abbrev oX0 (r0 r1 r2 : Nat) (f : Nat → Int32) : va_E := .inr (0, [.ref r0, .ref r1, .ref r2, .int (f 3)])
abbrev oX1 (r0 : Nat) (f : Nat → Int32) : va_E := .inr (1, [.ref r0, .int (f 1)])
abbrev oX2 (r0 : Nat) (f : Nat → Int32) : va_E := .inr (2, [.ref r0, .int (f 1)])
abbrev oX3 (r0 r1 : Nat) (f : Nat → Int32) : va_E := .inr (3, [.ref r0, .ref r1, .int (f 2), .int (f 3), .int (f 4)])
abbrev oX4 (r0 : Nat) (f : Nat → Int32) : va_E := .inr (4, [.ref r0, .int (f 1), .int (f 2), .int (f 3), .int (f 4), .int (f 5)])
abbrev oX5 (r0 r1 r2 r3 r4 r5 r6 r9 r10 : Nat) (f : Nat → Int32) : va_E := .inr (5, [.ref r0, .ref r1, .ref r2, .ref r3, .ref r4, .ref r5, .ref r6, .int (f 7), .int (f 8), .ref r9, .ref r10, .int (f 11)])
abbrev oX6 (r5 r6 r8 r9 r10 r11 r19 r21 r27 r28 r34 r35 r36 r47 r48 : Nat) (f : Nat → Int32) (g : Nat → Int64) : va_E := .inr (6, [.int (f 0), .int (f 1), .int (f 2), .int (f 3), .int (f 4), .ref r5, .ref r6, .int (f 7), .ref r8, .ref r9, .ref r10, .ref r11, .int (f 12), .int (f 13), .int (f 14), .int (f 15), .int (f 16), .int (f 17), .int (f 18), .ref r19, .int (f 20), .ref r21, .int (f 22), .int (f 23), .int (f 24), .int (f 25), .int (f 26), .ref r27, .ref r28, .int (f 29), .int (f 30), .int (f 31), .int (f 32), .int (f 33), .ref r34, .ref r35, .ref r36, .long (g 37), .int (f 38), .int (f 39), .int (f 40), .int (f 41), .int (f 42), .int (f 43), .int (f 44), .int (f 45), .int (f 46), .ref r47, .ref r48, .long (g 49)])
section XF
variable {p : Program} {l : Launch} {e : Env} {R : Room} {s : State} {m : MethodId} {args : Array Value} {below : List Frame} {meth : Method} {c : Code} {H : Heap} {locs : List Loc} {cells slots : Nat} {Q : State → Prop}
variable {D : va_G} {tys : List (ClassId × FieldType)} {A : Nat → Prop} {own : String} {bc : ByteArray} {nL : Nat} {ret : Option FieldType} {pc : Nat} {ls : Array Slot} {rest : List Value} {ws wn : va_W} {a index : Nat}
theorem gx0_0 {r0 r1 r2 : Nat} {f : Nat → Int32} (E : xE p s m args meth c A D tys own bc nL ret) (hP : va_P D vwCl ws H) (q0 : Nat) (he : ws[q0]? = some (a, oX0 r0 r1 r2 f)) (hlink : Cond.fieldLink own index "WaxInEars$Crew" "kinds" "[I" ∈ lw_good) (hdg : decode bc pc = .ok (.getfield index, 3)) (kk : W p l e R s m args below meth c H locs cells slots Q (F0 m (pc + 3) ls (.ref r0 :: rest))) : W p l e R s m args below meth c H locs cells slots Q (F0 m pc ls (.ref a :: rest)) :=
  x_get E inX0 rfl 0 (by decide) rfl hP q0 he hlink hdg kk
theorem gx0_1 {r0 r1 r2 : Nat} {f : Nat → Int32} (E : xE p s m args meth c A D tys own bc nL ret) (hP : va_P D vwCl ws H) (q0 : Nat) (he : ws[q0]? = some (a, oX0 r0 r1 r2 f)) (hlink : Cond.fieldLink own index "WaxInEars$Crew" "oars" "[I" ∈ lw_good) (hdg : decode bc pc = .ok (.getfield index, 3)) (kk : W p l e R s m args below meth c H locs cells slots Q (F0 m (pc + 3) ls (.ref r1 :: rest))) : W p l e R s m args below meth c H locs cells slots Q (F0 m pc ls (.ref a :: rest)) :=
  x_get E inX0 rfl 1 (by decide) rfl hP q0 he hlink hdg kk
theorem gx0_2 {r0 r1 r2 : Nat} {f : Nat → Int32} (E : xE p s m args meth c A D tys own bc nL ret) (hP : va_P D vwCl ws H) (q0 : Nat) (he : ws[q0]? = some (a, oX0 r0 r1 r2 f)) (hlink : Cond.fieldLink own index "WaxInEars$Crew" "wills" "[I" ∈ lw_good) (hdg : decode bc pc = .ok (.getfield index, 3)) (kk : W p l e R s m args below meth c H locs cells slots Q (F0 m (pc + 3) ls (.ref r2 :: rest))) : W p l e R s m args below meth c H locs cells slots Q (F0 m pc ls (.ref a :: rest)) :=
  x_get E inX0 rfl 2 (by decide) rfl hP q0 he hlink hdg kk
theorem gx0_3 {r0 r1 r2 : Nat} {f : Nat → Int32} {v : Int32} (E : xE p s m args meth c A D tys own bc nL ret) (hP : va_P D vwCl ws H) (q0 : Nat) (he : ws[q0]? = some (a, oX0 r0 r1 r2 f)) (hv : f 3 = v) (hlink : Cond.fieldLink own index "WaxInEars$Crew" "size" "I" ∈ lw_good) (hdg : decode bc pc = .ok (.getfield index, 3)) (kk : W p l e R s m args below meth c H locs cells slots Q (F0 m (pc + 3) ls (.int v :: rest))) : W p l e R s m args below meth c H locs cells slots Q (F0 m pc ls (.ref a :: rest)) :=
  x_get E inX0 rfl 3 (by decide) (by rw [← hv]; rfl) hP q0 he hlink hdg kk
set_option maxRecDepth 4000 in
theorem px0_3 {r0 r1 r2 : Nat} {f : Nat → Int32} {v : Int32} (E : xE p s m args meth c A D tys own bc nL ret) (hP : va_P D vwCl ws H) (hD : va_D A ws) (hS : va_S A s.heap H locs) (q0 : Nat) (he : ws[q0]? = some (a, oX0 r0 r1 r2 f)) (hlink : Cond.fieldLink own index "WaxInEars$Crew" "size" "I" ∈ lw_good) (hdg : decode bc pc = .ok (.putfield index, 3)) (hw : ws.set q0 (a, oX0 r0 r1 r2 (upd f 3 v)) = wn) (kk : ∀ (H1 : Heap) (locs1 : List Loc), va_P D vwCl wn H1 → va_D A wn → va_S A s.heap H1 locs1 → W p l e R s m args below meth c H1 locs1 cells slots Q (F0 m (pc + 3) ls rest)) : W p l e R s m args below meth c H locs cells slots Q (F0 m pc ls (.int v :: .ref a :: rest)) :=
  x_put E inX0 tyX0 tyX0_ok nmX0 rfl 3 (by decide) rfl rfl rfl (Nat.le_of_ble_eq_true rfl) rfl hP hD hS q0 he hlink hdg hw kk
theorem gx1_0 {r0 : Nat} {f : Nat → Int32} (E : xE p s m args meth c A D tys own bc nL ret) (hP : va_P D vwCl ws H) (q0 : Nat) (he : ws[q0]? = some (a, oX1 r0 f)) (hlink : Cond.fieldLink own index "WaxInEars$Log" "sets" "[I" ∈ lw_good) (hdg : decode bc pc = .ok (.getfield index, 3)) (kk : W p l e R s m args below meth c H locs cells slots Q (F0 m (pc + 3) ls (.ref r0 :: rest))) : W p l e R s m args below meth c H locs cells slots Q (F0 m pc ls (.ref a :: rest)) :=
  x_get E inX1 rfl 0 (by decide) rfl hP q0 he hlink hdg kk
theorem gx1_1 {r0 : Nat} {f : Nat → Int32} {v : Int32} (E : xE p s m args meth c A D tys own bc nL ret) (hP : va_P D vwCl ws H) (q0 : Nat) (he : ws[q0]? = some (a, oX1 r0 f)) (hv : f 1 = v) (hlink : Cond.fieldLink own index "WaxInEars$Log" "size" "I" ∈ lw_good) (hdg : decode bc pc = .ok (.getfield index, 3)) (kk : W p l e R s m args below meth c H locs cells slots Q (F0 m (pc + 3) ls (.int v :: rest))) : W p l e R s m args below meth c H locs cells slots Q (F0 m pc ls (.ref a :: rest)) :=
  x_get E inX1 rfl 1 (by decide) (by rw [← hv]; rfl) hP q0 he hlink hdg kk
set_option maxRecDepth 4000 in
theorem px1_1 {r0 : Nat} {f : Nat → Int32} {v : Int32} (E : xE p s m args meth c A D tys own bc nL ret) (hP : va_P D vwCl ws H) (hD : va_D A ws) (hS : va_S A s.heap H locs) (q0 : Nat) (he : ws[q0]? = some (a, oX1 r0 f)) (hlink : Cond.fieldLink own index "WaxInEars$Log" "size" "I" ∈ lw_good) (hdg : decode bc pc = .ok (.putfield index, 3)) (hw : ws.set q0 (a, oX1 r0 (upd f 1 v)) = wn) (kk : ∀ (H1 : Heap) (locs1 : List Loc), va_P D vwCl wn H1 → va_D A wn → va_S A s.heap H1 locs1 → W p l e R s m args below meth c H1 locs1 cells slots Q (F0 m (pc + 3) ls rest)) : W p l e R s m args below meth c H locs cells slots Q (F0 m pc ls (.int v :: .ref a :: rest)) :=
  x_put E inX1 tyX1 tyX1_ok nmX1 rfl 1 (by decide) rfl rfl rfl (Nat.le_of_ble_eq_true rfl) rfl hP hD hS q0 he hlink hdg hw kk
theorem gx2_0 {r0 : Nat} {f : Nat → Int32} (E : xE p s m args meth c A D tys own bc nL ret) (hP : va_P D vwCl ws H) (q0 : Nat) (he : ws[q0]? = some (a, oX2 r0 f)) (hlink : Cond.fieldLink own index "WaxInEars$Page" "letters" "[I" ∈ lw_good) (hdg : decode bc pc = .ok (.getfield index, 3)) (kk : W p l e R s m args below meth c H locs cells slots Q (F0 m (pc + 3) ls (.ref r0 :: rest))) : W p l e R s m args below meth c H locs cells slots Q (F0 m pc ls (.ref a :: rest)) :=
  x_get E inX2 rfl 0 (by decide) rfl hP q0 he hlink hdg kk
theorem gx2_1 {r0 : Nat} {f : Nat → Int32} {v : Int32} (E : xE p s m args meth c A D tys own bc nL ret) (hP : va_P D vwCl ws H) (q0 : Nat) (he : ws[q0]? = some (a, oX2 r0 f)) (hv : f 1 = v) (hlink : Cond.fieldLink own index "WaxInEars$Page" "size" "I" ∈ lw_good) (hdg : decode bc pc = .ok (.getfield index, 3)) (kk : W p l e R s m args below meth c H locs cells slots Q (F0 m (pc + 3) ls (.int v :: rest))) : W p l e R s m args below meth c H locs cells slots Q (F0 m pc ls (.ref a :: rest)) :=
  x_get E inX2 rfl 1 (by decide) (by rw [← hv]; rfl) hP q0 he hlink hdg kk
set_option maxRecDepth 4000 in
theorem px2_1 {r0 : Nat} {f : Nat → Int32} {v : Int32} (E : xE p s m args meth c A D tys own bc nL ret) (hP : va_P D vwCl ws H) (hD : va_D A ws) (hS : va_S A s.heap H locs) (q0 : Nat) (he : ws[q0]? = some (a, oX2 r0 f)) (hlink : Cond.fieldLink own index "WaxInEars$Page" "size" "I" ∈ lw_good) (hdg : decode bc pc = .ok (.putfield index, 3)) (hw : ws.set q0 (a, oX2 r0 (upd f 1 v)) = wn) (kk : ∀ (H1 : Heap) (locs1 : List Loc), va_P D vwCl wn H1 → va_D A wn → va_S A s.heap H1 locs1 → W p l e R s m args below meth c H1 locs1 cells slots Q (F0 m (pc + 3) ls rest)) : W p l e R s m args below meth c H locs cells slots Q (F0 m pc ls (.int v :: .ref a :: rest)) :=
  x_put E inX2 tyX2 tyX2_ok nmX2 rfl 1 (by decide) rfl rfl rfl (Nat.le_of_ble_eq_true rfl) rfl hP hD hS q0 he hlink hdg hw kk
theorem gx3_0 {r0 r1 : Nat} {f : Nat → Int32} (E : xE p s m args meth c A D tys own bc nL ret) (hP : va_P D vwCl ws H) (q0 : Nat) (he : ws[q0]? = some (a, oX3 r0 r1 f)) (hlink : Cond.fieldLink own index "WaxInEars$Passage" "songs" "[I" ∈ lw_good) (hdg : decode bc pc = .ok (.getfield index, 3)) (kk : W p l e R s m args below meth c H locs cells slots Q (F0 m (pc + 3) ls (.ref r0 :: rest))) : W p l e R s m args below meth c H locs cells slots Q (F0 m pc ls (.ref a :: rest)) :=
  x_get E inX3 rfl 0 (by decide) rfl hP q0 he hlink hdg kk
theorem gx3_1 {r0 r1 : Nat} {f : Nat → Int32} (E : xE p s m args meth c A D tys own bc nL ret) (hP : va_P D vwCl ws H) (q0 : Nat) (he : ws[q0]? = some (a, oX3 r0 r1 f)) (hlink : Cond.fieldLink own index "WaxInEars$Passage" "rocks" "[I" ∈ lw_good) (hdg : decode bc pc = .ok (.getfield index, 3)) (kk : W p l e R s m args below meth c H locs cells slots Q (F0 m (pc + 3) ls (.ref r1 :: rest))) : W p l e R s m args below meth c H locs cells slots Q (F0 m pc ls (.ref a :: rest)) :=
  x_get E inX3 rfl 1 (by decide) rfl hP q0 he hlink hdg kk
theorem gx3_2 {r0 r1 : Nat} {f : Nat → Int32} {v : Int32} (E : xE p s m args meth c A D tys own bc nL ret) (hP : va_P D vwCl ws H) (q0 : Nat) (he : ws[q0]? = some (a, oX3 r0 r1 f)) (hv : f 2 = v) (hlink : Cond.fieldLink own index "WaxInEars$Passage" "need" "I" ∈ lw_good) (hdg : decode bc pc = .ok (.getfield index, 3)) (kk : W p l e R s m args below meth c H locs cells slots Q (F0 m (pc + 3) ls (.int v :: rest))) : W p l e R s m args below meth c H locs cells slots Q (F0 m pc ls (.ref a :: rest)) :=
  x_get E inX3 rfl 2 (by decide) (by rw [← hv]; rfl) hP q0 he hlink hdg kk
set_option maxRecDepth 4000 in
theorem px3_2 {r0 r1 : Nat} {f : Nat → Int32} {v : Int32} (E : xE p s m args meth c A D tys own bc nL ret) (hP : va_P D vwCl ws H) (hD : va_D A ws) (hS : va_S A s.heap H locs) (q0 : Nat) (he : ws[q0]? = some (a, oX3 r0 r1 f)) (hlink : Cond.fieldLink own index "WaxInEars$Passage" "need" "I" ∈ lw_good) (hdg : decode bc pc = .ok (.putfield index, 3)) (hw : ws.set q0 (a, oX3 r0 r1 (upd f 2 v)) = wn) (kk : ∀ (H1 : Heap) (locs1 : List Loc), va_P D vwCl wn H1 → va_D A wn → va_S A s.heap H1 locs1 → W p l e R s m args below meth c H1 locs1 cells slots Q (F0 m (pc + 3) ls rest)) : W p l e R s m args below meth c H locs cells slots Q (F0 m pc ls (.int v :: .ref a :: rest)) :=
  x_put E inX3 tyX3 tyX3_ok nmX3 rfl 2 (by decide) rfl rfl rfl (Nat.le_of_ble_eq_true rfl) rfl hP hD hS q0 he hlink hdg hw kk
theorem gx3_3 {r0 r1 : Nat} {f : Nat → Int32} {v : Int32} (E : xE p s m args meth c A D tys own bc nL ret) (hP : va_P D vwCl ws H) (q0 : Nat) (he : ws[q0]? = some (a, oX3 r0 r1 f)) (hv : f 3 = v) (hlink : Cond.fieldLink own index "WaxInEars$Passage" "noon" "I" ∈ lw_good) (hdg : decode bc pc = .ok (.getfield index, 3)) (kk : W p l e R s m args below meth c H locs cells slots Q (F0 m (pc + 3) ls (.int v :: rest))) : W p l e R s m args below meth c H locs cells slots Q (F0 m pc ls (.ref a :: rest)) :=
  x_get E inX3 rfl 3 (by decide) (by rw [← hv]; rfl) hP q0 he hlink hdg kk
set_option maxRecDepth 4000 in
theorem px3_3 {r0 r1 : Nat} {f : Nat → Int32} {v : Int32} (E : xE p s m args meth c A D tys own bc nL ret) (hP : va_P D vwCl ws H) (hD : va_D A ws) (hS : va_S A s.heap H locs) (q0 : Nat) (he : ws[q0]? = some (a, oX3 r0 r1 f)) (hlink : Cond.fieldLink own index "WaxInEars$Passage" "noon" "I" ∈ lw_good) (hdg : decode bc pc = .ok (.putfield index, 3)) (hw : ws.set q0 (a, oX3 r0 r1 (upd f 3 v)) = wn) (kk : ∀ (H1 : Heap) (locs1 : List Loc), va_P D vwCl wn H1 → va_D A wn → va_S A s.heap H1 locs1 → W p l e R s m args below meth c H1 locs1 cells slots Q (F0 m (pc + 3) ls rest)) : W p l e R s m args below meth c H locs cells slots Q (F0 m pc ls (.int v :: .ref a :: rest)) :=
  x_put E inX3 tyX3 tyX3_ok nmX3 rfl 3 (by decide) rfl rfl rfl (Nat.le_of_ble_eq_true rfl) rfl hP hD hS q0 he hlink hdg hw kk
theorem gx3_4 {r0 r1 : Nat} {f : Nat → Int32} {v : Int32} (E : xE p s m args meth c A D tys own bc nL ret) (hP : va_P D vwCl ws H) (q0 : Nat) (he : ws[q0]? = some (a, oX3 r0 r1 f)) (hv : f 4 = v) (hlink : Cond.fieldLink own index "WaxInEars$Passage" "size" "I" ∈ lw_good) (hdg : decode bc pc = .ok (.getfield index, 3)) (kk : W p l e R s m args below meth c H locs cells slots Q (F0 m (pc + 3) ls (.int v :: rest))) : W p l e R s m args below meth c H locs cells slots Q (F0 m pc ls (.ref a :: rest)) :=
  x_get E inX3 rfl 4 (by decide) (by rw [← hv]; rfl) hP q0 he hlink hdg kk
set_option maxRecDepth 4000 in
theorem px3_4 {r0 r1 : Nat} {f : Nat → Int32} {v : Int32} (E : xE p s m args meth c A D tys own bc nL ret) (hP : va_P D vwCl ws H) (hD : va_D A ws) (hS : va_S A s.heap H locs) (q0 : Nat) (he : ws[q0]? = some (a, oX3 r0 r1 f)) (hlink : Cond.fieldLink own index "WaxInEars$Passage" "size" "I" ∈ lw_good) (hdg : decode bc pc = .ok (.putfield index, 3)) (hw : ws.set q0 (a, oX3 r0 r1 (upd f 4 v)) = wn) (kk : ∀ (H1 : Heap) (locs1 : List Loc), va_P D vwCl wn H1 → va_D A wn → va_S A s.heap H1 locs1 → W p l e R s m args below meth c H1 locs1 cells slots Q (F0 m (pc + 3) ls rest)) : W p l e R s m args below meth c H locs cells slots Q (F0 m pc ls (.int v :: .ref a :: rest)) :=
  x_put E inX3 tyX3 tyX3_ok nmX3 rfl 4 (by decide) rfl rfl rfl (Nat.le_of_ble_eq_true rfl) rfl hP hD hS q0 he hlink hdg hw kk
theorem gx4_0 {r0 : Nat} {f : Nat → Int32} (E : xE p s m args meth c A D tys own bc nL ret) (hP : va_P D vwCl ws H) (q0 : Nat) (he : ws[q0]? = some (a, oX4 r0 f)) (hlink : Cond.fieldLink own index "WaxInEars$Ship" "knots" "[I" ∈ lw_good) (hdg : decode bc pc = .ok (.getfield index, 3)) (kk : W p l e R s m args below meth c H locs cells slots Q (F0 m (pc + 3) ls (.ref r0 :: rest))) : W p l e R s m args below meth c H locs cells slots Q (F0 m pc ls (.ref a :: rest)) :=
  x_get E inX4 rfl 0 (by decide) rfl hP q0 he hlink hdg kk
theorem gx4_1 {r0 : Nat} {f : Nat → Int32} {v : Int32} (E : xE p s m args meth c A D tys own bc nL ret) (hP : va_P D vwCl ws H) (q0 : Nat) (he : ws[q0]? = some (a, oX4 r0 f)) (hv : f 1 = v) (hlink : Cond.fieldLink own index "WaxInEars$Ship" "waxed" "I" ∈ lw_good) (hdg : decode bc pc = .ok (.getfield index, 3)) (kk : W p l e R s m args below meth c H locs cells slots Q (F0 m (pc + 3) ls (.int v :: rest))) : W p l e R s m args below meth c H locs cells slots Q (F0 m pc ls (.ref a :: rest)) :=
  x_get E inX4 rfl 1 (by decide) (by rw [← hv]; rfl) hP q0 he hlink hdg kk
set_option maxRecDepth 4000 in
theorem px4_1 {r0 : Nat} {f : Nat → Int32} {v : Int32} (E : xE p s m args meth c A D tys own bc nL ret) (hP : va_P D vwCl ws H) (hD : va_D A ws) (hS : va_S A s.heap H locs) (q0 : Nat) (he : ws[q0]? = some (a, oX4 r0 f)) (hlink : Cond.fieldLink own index "WaxInEars$Ship" "waxed" "I" ∈ lw_good) (hdg : decode bc pc = .ok (.putfield index, 3)) (hw : ws.set q0 (a, oX4 r0 (upd f 1 v)) = wn) (kk : ∀ (H1 : Heap) (locs1 : List Loc), va_P D vwCl wn H1 → va_D A wn → va_S A s.heap H1 locs1 → W p l e R s m args below meth c H1 locs1 cells slots Q (F0 m (pc + 3) ls rest)) : W p l e R s m args below meth c H locs cells slots Q (F0 m pc ls (.int v :: .ref a :: rest)) :=
  x_put E inX4 tyX4 tyX4_ok nmX4 rfl 1 (by decide) rfl rfl rfl (Nat.le_of_ble_eq_true rfl) rfl hP hD hS q0 he hlink hdg hw kk
theorem gx4_2 {r0 : Nat} {f : Nat → Int32} {v : Int32} (E : xE p s m args meth c A D tys own bc nL ret) (hP : va_P D vwCl ws H) (q0 : Nat) (he : ws[q0]? = some (a, oX4 r0 f)) (hv : f 2 = v) (hlink : Cond.fieldLink own index "WaxInEars$Ship" "aboard" "I" ∈ lw_good) (hdg : decode bc pc = .ok (.getfield index, 3)) (kk : W p l e R s m args below meth c H locs cells slots Q (F0 m (pc + 3) ls (.int v :: rest))) : W p l e R s m args below meth c H locs cells slots Q (F0 m pc ls (.ref a :: rest)) :=
  x_get E inX4 rfl 2 (by decide) (by rw [← hv]; rfl) hP q0 he hlink hdg kk
set_option maxRecDepth 4000 in
theorem px4_2 {r0 : Nat} {f : Nat → Int32} {v : Int32} (E : xE p s m args meth c A D tys own bc nL ret) (hP : va_P D vwCl ws H) (hD : va_D A ws) (hS : va_S A s.heap H locs) (q0 : Nat) (he : ws[q0]? = some (a, oX4 r0 f)) (hlink : Cond.fieldLink own index "WaxInEars$Ship" "aboard" "I" ∈ lw_good) (hdg : decode bc pc = .ok (.putfield index, 3)) (hw : ws.set q0 (a, oX4 r0 (upd f 2 v)) = wn) (kk : ∀ (H1 : Heap) (locs1 : List Loc), va_P D vwCl wn H1 → va_D A wn → va_S A s.heap H1 locs1 → W p l e R s m args below meth c H1 locs1 cells slots Q (F0 m (pc + 3) ls rest)) : W p l e R s m args below meth c H locs cells slots Q (F0 m pc ls (.int v :: .ref a :: rest)) :=
  x_put E inX4 tyX4 tyX4_ok nmX4 rfl 2 (by decide) rfl rfl rfl (Nat.le_of_ble_eq_true rfl) rfl hP hD hS q0 he hlink hdg hw kk
theorem gx4_3 {r0 : Nat} {f : Nat → Int32} {v : Int32} (E : xE p s m args meth c A D tys own bc nL ret) (hP : va_P D vwCl ws H) (q0 : Nat) (he : ws[q0]? = some (a, oX4 r0 f)) (hv : f 3 = v) (hlink : Cond.fieldLink own index "WaxInEars$Ship" "place" "I" ∈ lw_good) (hdg : decode bc pc = .ok (.getfield index, 3)) (kk : W p l e R s m args below meth c H locs cells slots Q (F0 m (pc + 3) ls (.int v :: rest))) : W p l e R s m args below meth c H locs cells slots Q (F0 m pc ls (.ref a :: rest)) :=
  x_get E inX4 rfl 3 (by decide) (by rw [← hv]; rfl) hP q0 he hlink hdg kk
set_option maxRecDepth 4000 in
theorem px4_3 {r0 : Nat} {f : Nat → Int32} {v : Int32} (E : xE p s m args meth c A D tys own bc nL ret) (hP : va_P D vwCl ws H) (hD : va_D A ws) (hS : va_S A s.heap H locs) (q0 : Nat) (he : ws[q0]? = some (a, oX4 r0 f)) (hlink : Cond.fieldLink own index "WaxInEars$Ship" "place" "I" ∈ lw_good) (hdg : decode bc pc = .ok (.putfield index, 3)) (hw : ws.set q0 (a, oX4 r0 (upd f 3 v)) = wn) (kk : ∀ (H1 : Heap) (locs1 : List Loc), va_P D vwCl wn H1 → va_D A wn → va_S A s.heap H1 locs1 → W p l e R s m args below meth c H1 locs1 cells slots Q (F0 m (pc + 3) ls rest)) : W p l e R s m args below meth c H locs cells slots Q (F0 m pc ls (.int v :: .ref a :: rest)) :=
  x_put E inX4 tyX4 tyX4_ok nmX4 rfl 3 (by decide) rfl rfl rfl (Nat.le_of_ble_eq_true rfl) rfl hP hD hS q0 he hlink hdg hw kk
theorem gx4_4 {r0 : Nat} {f : Nat → Int32} {v : Int32} (E : xE p s m args meth c A D tys own bc nL ret) (hP : va_P D vwCl ws H) (q0 : Nat) (he : ws[q0]? = some (a, oX4 r0 f)) (hv : f 4 = v) (hlink : Cond.fieldLink own index "WaxInEars$Ship" "strokes" "I" ∈ lw_good) (hdg : decode bc pc = .ok (.getfield index, 3)) (kk : W p l e R s m args below meth c H locs cells slots Q (F0 m (pc + 3) ls (.int v :: rest))) : W p l e R s m args below meth c H locs cells slots Q (F0 m pc ls (.ref a :: rest)) :=
  x_get E inX4 rfl 4 (by decide) (by rw [← hv]; rfl) hP q0 he hlink hdg kk
set_option maxRecDepth 4000 in
theorem px4_4 {r0 : Nat} {f : Nat → Int32} {v : Int32} (E : xE p s m args meth c A D tys own bc nL ret) (hP : va_P D vwCl ws H) (hD : va_D A ws) (hS : va_S A s.heap H locs) (q0 : Nat) (he : ws[q0]? = some (a, oX4 r0 f)) (hlink : Cond.fieldLink own index "WaxInEars$Ship" "strokes" "I" ∈ lw_good) (hdg : decode bc pc = .ok (.putfield index, 3)) (hw : ws.set q0 (a, oX4 r0 (upd f 4 v)) = wn) (kk : ∀ (H1 : Heap) (locs1 : List Loc), va_P D vwCl wn H1 → va_D A wn → va_S A s.heap H1 locs1 → W p l e R s m args below meth c H1 locs1 cells slots Q (F0 m (pc + 3) ls rest)) : W p l e R s m args below meth c H locs cells slots Q (F0 m pc ls (.int v :: .ref a :: rest)) :=
  x_put E inX4 tyX4 tyX4_ok nmX4 rfl 4 (by decide) rfl rfl rfl (Nat.le_of_ble_eq_true rfl) rfl hP hD hS q0 he hlink hdg hw kk
theorem gx4_5 {r0 : Nat} {f : Nat → Int32} {v : Int32} (E : xE p s m args meth c A D tys own bc nL ret) (hP : va_P D vwCl ws H) (q0 : Nat) (he : ws[q0]? = some (a, oX4 r0 f)) (hv : f 5 = v) (hlink : Cond.fieldLink own index "WaxInEars$Ship" "how" "I" ∈ lw_good) (hdg : decode bc pc = .ok (.getfield index, 3)) (kk : W p l e R s m args below meth c H locs cells slots Q (F0 m (pc + 3) ls (.int v :: rest))) : W p l e R s m args below meth c H locs cells slots Q (F0 m pc ls (.ref a :: rest)) :=
  x_get E inX4 rfl 5 (by decide) (by rw [← hv]; rfl) hP q0 he hlink hdg kk
set_option maxRecDepth 4000 in
theorem px4_5 {r0 : Nat} {f : Nat → Int32} {v : Int32} (E : xE p s m args meth c A D tys own bc nL ret) (hP : va_P D vwCl ws H) (hD : va_D A ws) (hS : va_S A s.heap H locs) (q0 : Nat) (he : ws[q0]? = some (a, oX4 r0 f)) (hlink : Cond.fieldLink own index "WaxInEars$Ship" "how" "I" ∈ lw_good) (hdg : decode bc pc = .ok (.putfield index, 3)) (hw : ws.set q0 (a, oX4 r0 (upd f 5 v)) = wn) (kk : ∀ (H1 : Heap) (locs1 : List Loc), va_P D vwCl wn H1 → va_D A wn → va_S A s.heap H1 locs1 → W p l e R s m args below meth c H1 locs1 cells slots Q (F0 m (pc + 3) ls rest)) : W p l e R s m args below meth c H locs cells slots Q (F0 m pc ls (.int v :: .ref a :: rest)) :=
  x_put E inX4 tyX4 tyX4_ok nmX4 rfl 5 (by decide) rfl rfl rfl (Nat.le_of_ble_eq_true rfl) rfl hP hD hS q0 he hlink hdg hw kk
theorem gx5_0 {r0 r1 r2 r3 r4 r5 r6 r9 r10 : Nat} {f : Nat → Int32} (E : xE p s m args meth c A D tys own bc nL ret) (hP : va_P D vwCl ws H) (q0 : Nat) (he : ws[q0]? = some (a, oX5 r0 r1 r2 r3 r4 r5 r6 r9 r10 f)) (hlink : Cond.fieldLink own index "WaxInEars" "page" "LWaxInEars$Page;" ∈ lw_good) (hdg : decode bc pc = .ok (.getfield index, 3)) (kk : W p l e R s m args below meth c H locs cells slots Q (F0 m (pc + 3) ls (.ref r0 :: rest))) : W p l e R s m args below meth c H locs cells slots Q (F0 m pc ls (.ref a :: rest)) :=
  x_get E inX5 rfl 0 (by decide) rfl hP q0 he hlink hdg kk
theorem gx5_1 {r0 r1 r2 r3 r4 r5 r6 r9 r10 : Nat} {f : Nat → Int32} (E : xE p s m args meth c A D tys own bc nL ret) (hP : va_P D vwCl ws H) (q0 : Nat) (he : ws[q0]? = some (a, oX5 r0 r1 r2 r3 r4 r5 r6 r9 r10 f)) (hlink : Cond.fieldLink own index "WaxInEars" "passage" "LWaxInEars$Passage;" ∈ lw_good) (hdg : decode bc pc = .ok (.getfield index, 3)) (kk : W p l e R s m args below meth c H locs cells slots Q (F0 m (pc + 3) ls (.ref r1 :: rest))) : W p l e R s m args below meth c H locs cells slots Q (F0 m pc ls (.ref a :: rest)) :=
  x_get E inX5 rfl 1 (by decide) rfl hP q0 he hlink hdg kk
theorem gx5_2 {r0 r1 r2 r3 r4 r5 r6 r9 r10 : Nat} {f : Nat → Int32} (E : xE p s m args meth c A D tys own bc nL ret) (hP : va_P D vwCl ws H) (q0 : Nat) (he : ws[q0]? = some (a, oX5 r0 r1 r2 r3 r4 r5 r6 r9 r10 f)) (hlink : Cond.fieldLink own index "WaxInEars" "crew" "LWaxInEars$Crew;" ∈ lw_good) (hdg : decode bc pc = .ok (.getfield index, 3)) (kk : W p l e R s m args below meth c H locs cells slots Q (F0 m (pc + 3) ls (.ref r2 :: rest))) : W p l e R s m args below meth c H locs cells slots Q (F0 m pc ls (.ref a :: rest)) :=
  x_get E inX5 rfl 2 (by decide) rfl hP q0 he hlink hdg kk
theorem gx5_3 {r0 r1 r2 r3 r4 r5 r6 r9 r10 : Nat} {f : Nat → Int32} (E : xE p s m args meth c A D tys own bc nL ret) (hP : va_P D vwCl ws H) (q0 : Nat) (he : ws[q0]? = some (a, oX5 r0 r1 r2 r3 r4 r5 r6 r9 r10 f)) (hlink : Cond.fieldLink own index "WaxInEars" "ship" "LWaxInEars$Ship;" ∈ lw_good) (hdg : decode bc pc = .ok (.getfield index, 3)) (kk : W p l e R s m args below meth c H locs cells slots Q (F0 m (pc + 3) ls (.ref r3 :: rest))) : W p l e R s m args below meth c H locs cells slots Q (F0 m pc ls (.ref a :: rest)) :=
  x_get E inX5 rfl 3 (by decide) rfl hP q0 he hlink hdg kk
theorem gx5_4 {r0 r1 r2 r3 r4 r5 r6 r9 r10 : Nat} {f : Nat → Int32} (E : xE p s m args meth c A D tys own bc nL ret) (hP : va_P D vwCl ws H) (q0 : Nat) (he : ws[q0]? = some (a, oX5 r0 r1 r2 r3 r4 r5 r6 r9 r10 f)) (hlink : Cond.fieldLink own index "WaxInEars" "log" "LWaxInEars$Log;" ∈ lw_good) (hdg : decode bc pc = .ok (.getfield index, 3)) (kk : W p l e R s m args below meth c H locs cells slots Q (F0 m (pc + 3) ls (.ref r4 :: rest))) : W p l e R s m args below meth c H locs cells slots Q (F0 m pc ls (.ref a :: rest)) :=
  x_get E inX5 rfl 4 (by decide) rfl hP q0 he hlink hdg kk
theorem gx5_5 {r0 r1 r2 r3 r4 r5 r6 r9 r10 : Nat} {f : Nat → Int32} (E : xE p s m args meth c A D tys own bc nL ret) (hP : va_P D vwCl ws H) (q0 : Nat) (he : ws[q0]? = some (a, oX5 r0 r1 r2 r3 r4 r5 r6 r9 r10 f)) (hlink : Cond.fieldLink own index "WaxInEars" "keptShip" "LWaxInEars$Ship;" ∈ lw_good) (hdg : decode bc pc = .ok (.getfield index, 3)) (kk : W p l e R s m args below meth c H locs cells slots Q (F0 m (pc + 3) ls (.ref r5 :: rest))) : W p l e R s m args below meth c H locs cells slots Q (F0 m pc ls (.ref a :: rest)) :=
  x_get E inX5 rfl 5 (by decide) rfl hP q0 he hlink hdg kk
theorem gx5_6 {r0 r1 r2 r3 r4 r5 r6 r9 r10 : Nat} {f : Nat → Int32} (E : xE p s m args meth c A D tys own bc nL ret) (hP : va_P D vwCl ws H) (q0 : Nat) (he : ws[q0]? = some (a, oX5 r0 r1 r2 r3 r4 r5 r6 r9 r10 f)) (hlink : Cond.fieldLink own index "WaxInEars" "keptLog" "LWaxInEars$Log;" ∈ lw_good) (hdg : decode bc pc = .ok (.getfield index, 3)) (kk : W p l e R s m args below meth c H locs cells slots Q (F0 m (pc + 3) ls (.ref r6 :: rest))) : W p l e R s m args below meth c H locs cells slots Q (F0 m pc ls (.ref a :: rest)) :=
  x_get E inX5 rfl 6 (by decide) rfl hP q0 he hlink hdg kk
theorem gx5_7 {r0 r1 r2 r3 r4 r5 r6 r9 r10 : Nat} {f : Nat → Int32} {v : Int32} (E : xE p s m args meth c A D tys own bc nL ret) (hP : va_P D vwCl ws H) (q0 : Nat) (he : ws[q0]? = some (a, oX5 r0 r1 r2 r3 r4 r5 r6 r9 r10 f)) (hv : f 7 = v) (hlink : Cond.fieldLink own index "WaxInEars" "keptMen" "I" ∈ lw_good) (hdg : decode bc pc = .ok (.getfield index, 3)) (kk : W p l e R s m args below meth c H locs cells slots Q (F0 m (pc + 3) ls (.int v :: rest))) : W p l e R s m args below meth c H locs cells slots Q (F0 m pc ls (.ref a :: rest)) :=
  x_get E inX5 rfl 7 (by decide) (by rw [← hv]; rfl) hP q0 he hlink hdg kk
set_option maxRecDepth 4000 in
theorem px5_7 {r0 r1 r2 r3 r4 r5 r6 r9 r10 : Nat} {f : Nat → Int32} {v : Int32} (E : xE p s m args meth c A D tys own bc nL ret) (hP : va_P D vwCl ws H) (hD : va_D A ws) (hS : va_S A s.heap H locs) (q0 : Nat) (he : ws[q0]? = some (a, oX5 r0 r1 r2 r3 r4 r5 r6 r9 r10 f)) (hlink : Cond.fieldLink own index "WaxInEars" "keptMen" "I" ∈ lw_good) (hdg : decode bc pc = .ok (.putfield index, 3)) (hw : ws.set q0 (a, oX5 r0 r1 r2 r3 r4 r5 r6 r9 r10 (upd f 7 v)) = wn) (kk : ∀ (H1 : Heap) (locs1 : List Loc), va_P D vwCl wn H1 → va_D A wn → va_S A s.heap H1 locs1 → W p l e R s m args below meth c H1 locs1 cells slots Q (F0 m (pc + 3) ls rest)) : W p l e R s m args below meth c H locs cells slots Q (F0 m pc ls (.int v :: .ref a :: rest)) :=
  x_put E inX5 tyX5 tyX5_ok nmX5 rfl 7 (by decide) rfl rfl rfl (Nat.le_of_ble_eq_true rfl) rfl hP hD hS q0 he hlink hdg hw kk
theorem gx5_8 {r0 r1 r2 r3 r4 r5 r6 r9 r10 : Nat} {f : Nat → Int32} {v : Int32} (E : xE p s m args meth c A D tys own bc nL ret) (hP : va_P D vwCl ws H) (q0 : Nat) (he : ws[q0]? = some (a, oX5 r0 r1 r2 r3 r4 r5 r6 r9 r10 f)) (hv : f 8 = v) (hlink : Cond.fieldLink own index "WaxInEars" "isKept" "Z" ∈ lw_good) (hdg : decode bc pc = .ok (.getfield index, 3)) (kk : W p l e R s m args below meth c H locs cells slots Q (F0 m (pc + 3) ls (.int v :: rest))) : W p l e R s m args below meth c H locs cells slots Q (F0 m pc ls (.ref a :: rest)) :=
  x_get E inX5 rfl 8 (by decide) (by rw [← hv]; rfl) hP q0 he hlink hdg kk
set_option maxRecDepth 4000 in
theorem px5_8 {r0 r1 r2 r3 r4 r5 r6 r9 r10 : Nat} {f : Nat → Int32} {v : Int32} (E : xE p s m args meth c A D tys own bc nL ret) (hn : narrow .boolean (.int v) = .int v) (hf : fits .boolean (.int v) = true) (hP : va_P D vwCl ws H) (hD : va_D A ws) (hS : va_S A s.heap H locs) (q0 : Nat) (he : ws[q0]? = some (a, oX5 r0 r1 r2 r3 r4 r5 r6 r9 r10 f)) (hlink : Cond.fieldLink own index "WaxInEars" "isKept" "Z" ∈ lw_good) (hdg : decode bc pc = .ok (.putfield index, 3)) (hw : ws.set q0 (a, oX5 r0 r1 r2 r3 r4 r5 r6 r9 r10 (upd f 8 v)) = wn) (kk : ∀ (H1 : Heap) (locs1 : List Loc), va_P D vwCl wn H1 → va_D A wn → va_S A s.heap H1 locs1 → W p l e R s m args below meth c H1 locs1 cells slots Q (F0 m (pc + 3) ls rest)) : W p l e R s m args below meth c H locs cells slots Q (F0 m pc ls (.int v :: .ref a :: rest)) :=
  x_put E inX5 tyX5 tyX5_ok nmX5 rfl 8 (by decide) rfl hn hf (Nat.le_of_ble_eq_true rfl) rfl hP hD hS q0 he hlink hdg hw kk
theorem gx5_9 {r0 r1 r2 r3 r4 r5 r6 r9 r10 : Nat} {f : Nat → Int32} (E : xE p s m args meth c A D tys own bc nL ret) (hP : va_P D vwCl ws H) (q0 : Nat) (he : ws[q0]? = some (a, oX5 r0 r1 r2 r3 r4 r5 r6 r9 r10 f)) (hlink : Cond.fieldLink own index "WaxInEars" "trialShip" "LWaxInEars$Ship;" ∈ lw_good) (hdg : decode bc pc = .ok (.getfield index, 3)) (kk : W p l e R s m args below meth c H locs cells slots Q (F0 m (pc + 3) ls (.ref r9 :: rest))) : W p l e R s m args below meth c H locs cells slots Q (F0 m pc ls (.ref a :: rest)) :=
  x_get E inX5 rfl 9 (by decide) rfl hP q0 he hlink hdg kk
theorem gx5_10 {r0 r1 r2 r3 r4 r5 r6 r9 r10 : Nat} {f : Nat → Int32} (E : xE p s m args meth c A D tys own bc nL ret) (hP : va_P D vwCl ws H) (q0 : Nat) (he : ws[q0]? = some (a, oX5 r0 r1 r2 r3 r4 r5 r6 r9 r10 f)) (hlink : Cond.fieldLink own index "WaxInEars" "trialPassage" "LWaxInEars$Passage;" ∈ lw_good) (hdg : decode bc pc = .ok (.getfield index, 3)) (kk : W p l e R s m args below meth c H locs cells slots Q (F0 m (pc + 3) ls (.ref r10 :: rest))) : W p l e R s m args below meth c H locs cells slots Q (F0 m pc ls (.ref a :: rest)) :=
  x_get E inX5 rfl 10 (by decide) rfl hP q0 he hlink hdg kk
theorem gx5_11 {r0 r1 r2 r3 r4 r5 r6 r9 r10 : Nat} {f : Nat → Int32} {v : Int32} (E : xE p s m args meth c A D tys own bc nL ret) (hP : va_P D vwCl ws H) (q0 : Nat) (he : ws[q0]? = some (a, oX5 r0 r1 r2 r3 r4 r5 r6 r9 r10 f)) (hv : f 11 = v) (hlink : Cond.fieldLink own index "WaxInEars" "timesRead" "I" ∈ lw_good) (hdg : decode bc pc = .ok (.getfield index, 3)) (kk : W p l e R s m args below meth c H locs cells slots Q (F0 m (pc + 3) ls (.int v :: rest))) : W p l e R s m args below meth c H locs cells slots Q (F0 m pc ls (.ref a :: rest)) :=
  x_get E inX5 rfl 11 (by decide) (by rw [← hv]; rfl) hP q0 he hlink hdg kk
set_option maxRecDepth 4000 in
theorem px5_11 {r0 r1 r2 r3 r4 r5 r6 r9 r10 : Nat} {f : Nat → Int32} {v : Int32} (E : xE p s m args meth c A D tys own bc nL ret) (hP : va_P D vwCl ws H) (hD : va_D A ws) (hS : va_S A s.heap H locs) (q0 : Nat) (he : ws[q0]? = some (a, oX5 r0 r1 r2 r3 r4 r5 r6 r9 r10 f)) (hlink : Cond.fieldLink own index "WaxInEars" "timesRead" "I" ∈ lw_good) (hdg : decode bc pc = .ok (.putfield index, 3)) (hw : ws.set q0 (a, oX5 r0 r1 r2 r3 r4 r5 r6 r9 r10 (upd f 11 v)) = wn) (kk : ∀ (H1 : Heap) (locs1 : List Loc), va_P D vwCl wn H1 → va_D A wn → va_S A s.heap H1 locs1 → W p l e R s m args below meth c H1 locs1 cells slots Q (F0 m (pc + 3) ls rest)) : W p l e R s m args below meth c H locs cells slots Q (F0 m pc ls (.int v :: .ref a :: rest)) :=
  x_put E inX5 tyX5 tyX5_ok nmX5 rfl 11 (by decide) rfl rfl rfl (Nat.le_of_ble_eq_true rfl) rfl hP hD hS q0 he hlink hdg hw kk
theorem gx6_0 {r5 r6 r8 r9 r10 r11 r19 r21 r27 r28 r34 r35 r36 r47 r48 : Nat} {f : Nat → Int32} {g : Nat → Int64} {v : Int32} (E : xE p s m args meth c A D tys own bc nL ret) (hP : va_P D vwCl ws H) (q0 : Nat) (he : ws[q0]? = some (a, oX6 r5 r6 r8 r9 r10 r11 r19 r21 r27 r28 r34 r35 r36 r47 r48 f g)) (hv : f 0 = v) (hlink : Cond.fieldLink own index "WaxInEarsModel" "isPassage" "Z" ∈ lw_good) (hdg : decode bc pc = .ok (.getfield index, 3)) (kk : W p l e R s m args below meth c H locs cells slots Q (F0 m (pc + 3) ls (.int v :: rest))) : W p l e R s m args below meth c H locs cells slots Q (F0 m pc ls (.ref a :: rest)) :=
  x_get E inX6 rfl 0 (by decide) (by rw [← hv]; rfl) hP q0 he hlink hdg kk
set_option maxRecDepth 4000 in
theorem px6_0 {r5 r6 r8 r9 r10 r11 r19 r21 r27 r28 r34 r35 r36 r47 r48 : Nat} {f : Nat → Int32} {g : Nat → Int64} {v : Int32} (E : xE p s m args meth c A D tys own bc nL ret) (hn : narrow .boolean (.int v) = .int v) (hf : fits .boolean (.int v) = true) (hP : va_P D vwCl ws H) (hD : va_D A ws) (hS : va_S A s.heap H locs) (q0 : Nat) (he : ws[q0]? = some (a, oX6 r5 r6 r8 r9 r10 r11 r19 r21 r27 r28 r34 r35 r36 r47 r48 f g)) (hlink : Cond.fieldLink own index "WaxInEarsModel" "isPassage" "Z" ∈ lw_good) (hdg : decode bc pc = .ok (.putfield index, 3)) (hw : ws.set q0 (a, oX6 r5 r6 r8 r9 r10 r11 r19 r21 r27 r28 r34 r35 r36 r47 r48 (upd f 0 v) g) = wn) (kk : ∀ (H1 : Heap) (locs1 : List Loc), va_P D vwCl wn H1 → va_D A wn → va_S A s.heap H1 locs1 → W p l e R s m args below meth c H1 locs1 cells slots Q (F0 m (pc + 3) ls rest)) : W p l e R s m args below meth c H locs cells slots Q (F0 m pc ls (.int v :: .ref a :: rest)) :=
  x_put E inX6 tyX6 tyX6_ok nmX6 rfl 0 (by decide) rfl hn hf (Nat.le_of_ble_eq_true rfl) rfl hP hD hS q0 he hlink hdg hw kk
theorem gx6_1 {r5 r6 r8 r9 r10 r11 r19 r21 r27 r28 r34 r35 r36 r47 r48 : Nat} {f : Nat → Int32} {g : Nat → Int64} {v : Int32} (E : xE p s m args meth c A D tys own bc nL ret) (hP : va_P D vwCl ws H) (q0 : Nat) (he : ws[q0]? = some (a, oX6 r5 r6 r8 r9 r10 r11 r19 r21 r27 r28 r34 r35 r36 r47 r48 f g)) (hv : f 1 = v) (hlink : Cond.fieldLink own index "WaxInEarsModel" "passages" "I" ∈ lw_good) (hdg : decode bc pc = .ok (.getfield index, 3)) (kk : W p l e R s m args below meth c H locs cells slots Q (F0 m (pc + 3) ls (.int v :: rest))) : W p l e R s m args below meth c H locs cells slots Q (F0 m pc ls (.ref a :: rest)) :=
  x_get E inX6 rfl 1 (by decide) (by rw [← hv]; rfl) hP q0 he hlink hdg kk
set_option maxRecDepth 4000 in
theorem px6_1 {r5 r6 r8 r9 r10 r11 r19 r21 r27 r28 r34 r35 r36 r47 r48 : Nat} {f : Nat → Int32} {g : Nat → Int64} {v : Int32} (E : xE p s m args meth c A D tys own bc nL ret) (hP : va_P D vwCl ws H) (hD : va_D A ws) (hS : va_S A s.heap H locs) (q0 : Nat) (he : ws[q0]? = some (a, oX6 r5 r6 r8 r9 r10 r11 r19 r21 r27 r28 r34 r35 r36 r47 r48 f g)) (hlink : Cond.fieldLink own index "WaxInEarsModel" "passages" "I" ∈ lw_good) (hdg : decode bc pc = .ok (.putfield index, 3)) (hw : ws.set q0 (a, oX6 r5 r6 r8 r9 r10 r11 r19 r21 r27 r28 r34 r35 r36 r47 r48 (upd f 1 v) g) = wn) (kk : ∀ (H1 : Heap) (locs1 : List Loc), va_P D vwCl wn H1 → va_D A wn → va_S A s.heap H1 locs1 → W p l e R s m args below meth c H1 locs1 cells slots Q (F0 m (pc + 3) ls rest)) : W p l e R s m args below meth c H locs cells slots Q (F0 m pc ls (.int v :: .ref a :: rest)) :=
  x_put E inX6 tyX6 tyX6_ok nmX6 rfl 1 (by decide) rfl rfl rfl (Nat.le_of_ble_eq_true rfl) rfl hP hD hS q0 he hlink hdg hw kk
theorem gx6_2 {r5 r6 r8 r9 r10 r11 r19 r21 r27 r28 r34 r35 r36 r47 r48 : Nat} {f : Nat → Int32} {g : Nat → Int64} {v : Int32} (E : xE p s m args meth c A D tys own bc nL ret) (hP : va_P D vwCl ws H) (q0 : Nat) (he : ws[q0]? = some (a, oX6 r5 r6 r8 r9 r10 r11 r19 r21 r27 r28 r34 r35 r36 r47 r48 f g)) (hv : f 2 = v) (hlink : Cond.fieldLink own index "WaxInEarsModel" "need" "I" ∈ lw_good) (hdg : decode bc pc = .ok (.getfield index, 3)) (kk : W p l e R s m args below meth c H locs cells slots Q (F0 m (pc + 3) ls (.int v :: rest))) : W p l e R s m args below meth c H locs cells slots Q (F0 m pc ls (.ref a :: rest)) :=
  x_get E inX6 rfl 2 (by decide) (by rw [← hv]; rfl) hP q0 he hlink hdg kk
set_option maxRecDepth 4000 in
theorem px6_2 {r5 r6 r8 r9 r10 r11 r19 r21 r27 r28 r34 r35 r36 r47 r48 : Nat} {f : Nat → Int32} {g : Nat → Int64} {v : Int32} (E : xE p s m args meth c A D tys own bc nL ret) (hP : va_P D vwCl ws H) (hD : va_D A ws) (hS : va_S A s.heap H locs) (q0 : Nat) (he : ws[q0]? = some (a, oX6 r5 r6 r8 r9 r10 r11 r19 r21 r27 r28 r34 r35 r36 r47 r48 f g)) (hlink : Cond.fieldLink own index "WaxInEarsModel" "need" "I" ∈ lw_good) (hdg : decode bc pc = .ok (.putfield index, 3)) (hw : ws.set q0 (a, oX6 r5 r6 r8 r9 r10 r11 r19 r21 r27 r28 r34 r35 r36 r47 r48 (upd f 2 v) g) = wn) (kk : ∀ (H1 : Heap) (locs1 : List Loc), va_P D vwCl wn H1 → va_D A wn → va_S A s.heap H1 locs1 → W p l e R s m args below meth c H1 locs1 cells slots Q (F0 m (pc + 3) ls rest)) : W p l e R s m args below meth c H locs cells slots Q (F0 m pc ls (.int v :: .ref a :: rest)) :=
  x_put E inX6 tyX6 tyX6_ok nmX6 rfl 2 (by decide) rfl rfl rfl (Nat.le_of_ble_eq_true rfl) rfl hP hD hS q0 he hlink hdg hw kk
theorem gx6_3 {r5 r6 r8 r9 r10 r11 r19 r21 r27 r28 r34 r35 r36 r47 r48 : Nat} {f : Nat → Int32} {g : Nat → Int64} {v : Int32} (E : xE p s m args meth c A D tys own bc nL ret) (hP : va_P D vwCl ws H) (q0 : Nat) (he : ws[q0]? = some (a, oX6 r5 r6 r8 r9 r10 r11 r19 r21 r27 r28 r34 r35 r36 r47 r48 f g)) (hv : f 3 = v) (hlink : Cond.fieldLink own index "WaxInEarsModel" "noon" "I" ∈ lw_good) (hdg : decode bc pc = .ok (.getfield index, 3)) (kk : W p l e R s m args below meth c H locs cells slots Q (F0 m (pc + 3) ls (.int v :: rest))) : W p l e R s m args below meth c H locs cells slots Q (F0 m pc ls (.ref a :: rest)) :=
  x_get E inX6 rfl 3 (by decide) (by rw [← hv]; rfl) hP q0 he hlink hdg kk
set_option maxRecDepth 4000 in
theorem px6_3 {r5 r6 r8 r9 r10 r11 r19 r21 r27 r28 r34 r35 r36 r47 r48 : Nat} {f : Nat → Int32} {g : Nat → Int64} {v : Int32} (E : xE p s m args meth c A D tys own bc nL ret) (hP : va_P D vwCl ws H) (hD : va_D A ws) (hS : va_S A s.heap H locs) (q0 : Nat) (he : ws[q0]? = some (a, oX6 r5 r6 r8 r9 r10 r11 r19 r21 r27 r28 r34 r35 r36 r47 r48 f g)) (hlink : Cond.fieldLink own index "WaxInEarsModel" "noon" "I" ∈ lw_good) (hdg : decode bc pc = .ok (.putfield index, 3)) (hw : ws.set q0 (a, oX6 r5 r6 r8 r9 r10 r11 r19 r21 r27 r28 r34 r35 r36 r47 r48 (upd f 3 v) g) = wn) (kk : ∀ (H1 : Heap) (locs1 : List Loc), va_P D vwCl wn H1 → va_D A wn → va_S A s.heap H1 locs1 → W p l e R s m args below meth c H1 locs1 cells slots Q (F0 m (pc + 3) ls rest)) : W p l e R s m args below meth c H locs cells slots Q (F0 m pc ls (.int v :: .ref a :: rest)) :=
  x_put E inX6 tyX6 tyX6_ok nmX6 rfl 3 (by decide) rfl rfl rfl (Nat.le_of_ble_eq_true rfl) rfl hP hD hS q0 he hlink hdg hw kk
theorem gx6_4 {r5 r6 r8 r9 r10 r11 r19 r21 r27 r28 r34 r35 r36 r47 r48 : Nat} {f : Nat → Int32} {g : Nat → Int64} {v : Int32} (E : xE p s m args meth c A D tys own bc nL ret) (hP : va_P D vwCl ws H) (q0 : Nat) (he : ws[q0]? = some (a, oX6 r5 r6 r8 r9 r10 r11 r19 r21 r27 r28 r34 r35 r36 r47 r48 f g)) (hv : f 4 = v) (hlink : Cond.fieldLink own index "WaxInEarsModel" "places" "I" ∈ lw_good) (hdg : decode bc pc = .ok (.getfield index, 3)) (kk : W p l e R s m args below meth c H locs cells slots Q (F0 m (pc + 3) ls (.int v :: rest))) : W p l e R s m args below meth c H locs cells slots Q (F0 m pc ls (.ref a :: rest)) :=
  x_get E inX6 rfl 4 (by decide) (by rw [← hv]; rfl) hP q0 he hlink hdg kk
set_option maxRecDepth 4000 in
theorem px6_4 {r5 r6 r8 r9 r10 r11 r19 r21 r27 r28 r34 r35 r36 r47 r48 : Nat} {f : Nat → Int32} {g : Nat → Int64} {v : Int32} (E : xE p s m args meth c A D tys own bc nL ret) (hP : va_P D vwCl ws H) (hD : va_D A ws) (hS : va_S A s.heap H locs) (q0 : Nat) (he : ws[q0]? = some (a, oX6 r5 r6 r8 r9 r10 r11 r19 r21 r27 r28 r34 r35 r36 r47 r48 f g)) (hlink : Cond.fieldLink own index "WaxInEarsModel" "places" "I" ∈ lw_good) (hdg : decode bc pc = .ok (.putfield index, 3)) (hw : ws.set q0 (a, oX6 r5 r6 r8 r9 r10 r11 r19 r21 r27 r28 r34 r35 r36 r47 r48 (upd f 4 v) g) = wn) (kk : ∀ (H1 : Heap) (locs1 : List Loc), va_P D vwCl wn H1 → va_D A wn → va_S A s.heap H1 locs1 → W p l e R s m args below meth c H1 locs1 cells slots Q (F0 m (pc + 3) ls rest)) : W p l e R s m args below meth c H locs cells slots Q (F0 m pc ls (.int v :: .ref a :: rest)) :=
  x_put E inX6 tyX6 tyX6_ok nmX6 rfl 4 (by decide) rfl rfl rfl (Nat.le_of_ble_eq_true rfl) rfl hP hD hS q0 he hlink hdg hw kk
theorem gx6_5 {r5 r6 r8 r9 r10 r11 r19 r21 r27 r28 r34 r35 r36 r47 r48 : Nat} {f : Nat → Int32} {g : Nat → Int64} (E : xE p s m args meth c A D tys own bc nL ret) (hP : va_P D vwCl ws H) (q0 : Nat) (he : ws[q0]? = some (a, oX6 r5 r6 r8 r9 r10 r11 r19 r21 r27 r28 r34 r35 r36 r47 r48 f g)) (hlink : Cond.fieldLink own index "WaxInEarsModel" "songOf" "[I" ∈ lw_good) (hdg : decode bc pc = .ok (.getfield index, 3)) (kk : W p l e R s m args below meth c H locs cells slots Q (F0 m (pc + 3) ls (.ref r5 :: rest))) : W p l e R s m args below meth c H locs cells slots Q (F0 m pc ls (.ref a :: rest)) :=
  x_get E inX6 rfl 5 (by decide) rfl hP q0 he hlink hdg kk
theorem gx6_6 {r5 r6 r8 r9 r10 r11 r19 r21 r27 r28 r34 r35 r36 r47 r48 : Nat} {f : Nat → Int32} {g : Nat → Int64} (E : xE p s m args meth c A D tys own bc nL ret) (hP : va_P D vwCl ws H) (q0 : Nat) (he : ws[q0]? = some (a, oX6 r5 r6 r8 r9 r10 r11 r19 r21 r27 r28 r34 r35 r36 r47 r48 f g)) (hlink : Cond.fieldLink own index "WaxInEarsModel" "rockOf" "[I" ∈ lw_good) (hdg : decode bc pc = .ok (.getfield index, 3)) (kk : W p l e R s m args below meth c H locs cells slots Q (F0 m (pc + 3) ls (.ref r6 :: rest))) : W p l e R s m args below meth c H locs cells slots Q (F0 m pc ls (.ref a :: rest)) :=
  x_get E inX6 rfl 6 (by decide) rfl hP q0 he hlink hdg kk
theorem gx6_7 {r5 r6 r8 r9 r10 r11 r19 r21 r27 r28 r34 r35 r36 r47 r48 : Nat} {f : Nat → Int32} {g : Nat → Int64} {v : Int32} (E : xE p s m args meth c A D tys own bc nL ret) (hP : va_P D vwCl ws H) (q0 : Nat) (he : ws[q0]? = some (a, oX6 r5 r6 r8 r9 r10 r11 r19 r21 r27 r28 r34 r35 r36 r47 r48 f g)) (hv : f 7 = v) (hlink : Cond.fieldLink own index "WaxInEarsModel" "men" "I" ∈ lw_good) (hdg : decode bc pc = .ok (.getfield index, 3)) (kk : W p l e R s m args below meth c H locs cells slots Q (F0 m (pc + 3) ls (.int v :: rest))) : W p l e R s m args below meth c H locs cells slots Q (F0 m pc ls (.ref a :: rest)) :=
  x_get E inX6 rfl 7 (by decide) (by rw [← hv]; rfl) hP q0 he hlink hdg kk
set_option maxRecDepth 4000 in
theorem px6_7 {r5 r6 r8 r9 r10 r11 r19 r21 r27 r28 r34 r35 r36 r47 r48 : Nat} {f : Nat → Int32} {g : Nat → Int64} {v : Int32} (E : xE p s m args meth c A D tys own bc nL ret) (hP : va_P D vwCl ws H) (hD : va_D A ws) (hS : va_S A s.heap H locs) (q0 : Nat) (he : ws[q0]? = some (a, oX6 r5 r6 r8 r9 r10 r11 r19 r21 r27 r28 r34 r35 r36 r47 r48 f g)) (hlink : Cond.fieldLink own index "WaxInEarsModel" "men" "I" ∈ lw_good) (hdg : decode bc pc = .ok (.putfield index, 3)) (hw : ws.set q0 (a, oX6 r5 r6 r8 r9 r10 r11 r19 r21 r27 r28 r34 r35 r36 r47 r48 (upd f 7 v) g) = wn) (kk : ∀ (H1 : Heap) (locs1 : List Loc), va_P D vwCl wn H1 → va_D A wn → va_S A s.heap H1 locs1 → W p l e R s m args below meth c H1 locs1 cells slots Q (F0 m (pc + 3) ls rest)) : W p l e R s m args below meth c H locs cells slots Q (F0 m pc ls (.int v :: .ref a :: rest)) :=
  x_put E inX6 tyX6 tyX6_ok nmX6 rfl 7 (by decide) rfl rfl rfl (Nat.le_of_ble_eq_true rfl) rfl hP hD hS q0 he hlink hdg hw kk
theorem gx6_8 {r5 r6 r8 r9 r10 r11 r19 r21 r27 r28 r34 r35 r36 r47 r48 : Nat} {f : Nat → Int32} {g : Nat → Int64} (E : xE p s m args meth c A D tys own bc nL ret) (hP : va_P D vwCl ws H) (q0 : Nat) (he : ws[q0]? = some (a, oX6 r5 r6 r8 r9 r10 r11 r19 r21 r27 r28 r34 r35 r36 r47 r48 f g)) (hlink : Cond.fieldLink own index "WaxInEarsModel" "kindOf" "[I" ∈ lw_good) (hdg : decode bc pc = .ok (.getfield index, 3)) (kk : W p l e R s m args below meth c H locs cells slots Q (F0 m (pc + 3) ls (.ref r8 :: rest))) : W p l e R s m args below meth c H locs cells slots Q (F0 m pc ls (.ref a :: rest)) :=
  x_get E inX6 rfl 8 (by decide) rfl hP q0 he hlink hdg kk
theorem gx6_9 {r5 r6 r8 r9 r10 r11 r19 r21 r27 r28 r34 r35 r36 r47 r48 : Nat} {f : Nat → Int32} {g : Nat → Int64} (E : xE p s m args meth c A D tys own bc nL ret) (hP : va_P D vwCl ws H) (q0 : Nat) (he : ws[q0]? = some (a, oX6 r5 r6 r8 r9 r10 r11 r19 r21 r27 r28 r34 r35 r36 r47 r48 f g)) (hlink : Cond.fieldLink own index "WaxInEarsModel" "oarOf" "[I" ∈ lw_good) (hdg : decode bc pc = .ok (.getfield index, 3)) (kk : W p l e R s m args below meth c H locs cells slots Q (F0 m (pc + 3) ls (.ref r9 :: rest))) : W p l e R s m args below meth c H locs cells slots Q (F0 m pc ls (.ref a :: rest)) :=
  x_get E inX6 rfl 9 (by decide) rfl hP q0 he hlink hdg kk
theorem gx6_10 {r5 r6 r8 r9 r10 r11 r19 r21 r27 r28 r34 r35 r36 r47 r48 : Nat} {f : Nat → Int32} {g : Nat → Int64} (E : xE p s m args meth c A D tys own bc nL ret) (hP : va_P D vwCl ws H) (q0 : Nat) (he : ws[q0]? = some (a, oX6 r5 r6 r8 r9 r10 r11 r19 r21 r27 r28 r34 r35 r36 r47 r48 f g)) (hlink : Cond.fieldLink own index "WaxInEarsModel" "willOf" "[I" ∈ lw_good) (hdg : decode bc pc = .ok (.getfield index, 3)) (kk : W p l e R s m args below meth c H locs cells slots Q (F0 m (pc + 3) ls (.ref r10 :: rest))) : W p l e R s m args below meth c H locs cells slots Q (F0 m pc ls (.ref a :: rest)) :=
  x_get E inX6 rfl 10 (by decide) rfl hP q0 he hlink hdg kk
theorem gx6_11 {r5 r6 r8 r9 r10 r11 r19 r21 r27 r28 r34 r35 r36 r47 r48 : Nat} {f : Nat → Int32} {g : Nat → Int64} (E : xE p s m args meth c A D tys own bc nL ret) (hP : va_P D vwCl ws H) (q0 : Nat) (he : ws[q0]? = some (a, oX6 r5 r6 r8 r9 r10 r11 r19 r21 r27 r28 r34 r35 r36 r47 r48 f g)) (hlink : Cond.fieldLink own index "WaxInEarsModel" "knotsOf" "[I" ∈ lw_good) (hdg : decode bc pc = .ok (.getfield index, 3)) (kk : W p l e R s m args below meth c H locs cells slots Q (F0 m (pc + 3) ls (.ref r11 :: rest))) : W p l e R s m args below meth c H locs cells slots Q (F0 m pc ls (.ref a :: rest)) :=
  x_get E inX6 rfl 11 (by decide) rfl hP q0 he hlink hdg kk
theorem gx6_12 {r5 r6 r8 r9 r10 r11 r19 r21 r27 r28 r34 r35 r36 r47 r48 : Nat} {f : Nat → Int32} {g : Nat → Int64} {v : Int32} (E : xE p s m args meth c A D tys own bc nL ret) (hP : va_P D vwCl ws H) (q0 : Nat) (he : ws[q0]? = some (a, oX6 r5 r6 r8 r9 r10 r11 r19 r21 r27 r28 r34 r35 r36 r47 r48 f g)) (hv : f 12 = v) (hlink : Cond.fieldLink own index "WaxInEarsModel" "waxSet" "I" ∈ lw_good) (hdg : decode bc pc = .ok (.getfield index, 3)) (kk : W p l e R s m args below meth c H locs cells slots Q (F0 m (pc + 3) ls (.int v :: rest))) : W p l e R s m args below meth c H locs cells slots Q (F0 m pc ls (.ref a :: rest)) :=
  x_get E inX6 rfl 12 (by decide) (by rw [← hv]; rfl) hP q0 he hlink hdg kk
set_option maxRecDepth 4000 in
theorem px6_12 {r5 r6 r8 r9 r10 r11 r19 r21 r27 r28 r34 r35 r36 r47 r48 : Nat} {f : Nat → Int32} {g : Nat → Int64} {v : Int32} (E : xE p s m args meth c A D tys own bc nL ret) (hP : va_P D vwCl ws H) (hD : va_D A ws) (hS : va_S A s.heap H locs) (q0 : Nat) (he : ws[q0]? = some (a, oX6 r5 r6 r8 r9 r10 r11 r19 r21 r27 r28 r34 r35 r36 r47 r48 f g)) (hlink : Cond.fieldLink own index "WaxInEarsModel" "waxSet" "I" ∈ lw_good) (hdg : decode bc pc = .ok (.putfield index, 3)) (hw : ws.set q0 (a, oX6 r5 r6 r8 r9 r10 r11 r19 r21 r27 r28 r34 r35 r36 r47 r48 (upd f 12 v) g) = wn) (kk : ∀ (H1 : Heap) (locs1 : List Loc), va_P D vwCl wn H1 → va_D A wn → va_S A s.heap H1 locs1 → W p l e R s m args below meth c H1 locs1 cells slots Q (F0 m (pc + 3) ls rest)) : W p l e R s m args below meth c H locs cells slots Q (F0 m pc ls (.int v :: .ref a :: rest)) :=
  x_put E inX6 tyX6 tyX6_ok nmX6 rfl 12 (by decide) rfl rfl rfl (Nat.le_of_ble_eq_true rfl) rfl hP hD hS q0 he hlink hdg hw kk
theorem gx6_13 {r5 r6 r8 r9 r10 r11 r19 r21 r27 r28 r34 r35 r36 r47 r48 : Nat} {f : Nat → Int32} {g : Nat → Int64} {v : Int32} (E : xE p s m args meth c A D tys own bc nL ret) (hP : va_P D vwCl ws H) (q0 : Nat) (he : ws[q0]? = some (a, oX6 r5 r6 r8 r9 r10 r11 r19 r21 r27 r28 r34 r35 r36 r47 r48 f g)) (hv : f 13 = v) (hlink : Cond.fieldLink own index "WaxInEarsModel" "lostSet" "I" ∈ lw_good) (hdg : decode bc pc = .ok (.getfield index, 3)) (kk : W p l e R s m args below meth c H locs cells slots Q (F0 m (pc + 3) ls (.int v :: rest))) : W p l e R s m args below meth c H locs cells slots Q (F0 m pc ls (.ref a :: rest)) :=
  x_get E inX6 rfl 13 (by decide) (by rw [← hv]; rfl) hP q0 he hlink hdg kk
set_option maxRecDepth 4000 in
theorem px6_13 {r5 r6 r8 r9 r10 r11 r19 r21 r27 r28 r34 r35 r36 r47 r48 : Nat} {f : Nat → Int32} {g : Nat → Int64} {v : Int32} (E : xE p s m args meth c A D tys own bc nL ret) (hP : va_P D vwCl ws H) (hD : va_D A ws) (hS : va_S A s.heap H locs) (q0 : Nat) (he : ws[q0]? = some (a, oX6 r5 r6 r8 r9 r10 r11 r19 r21 r27 r28 r34 r35 r36 r47 r48 f g)) (hlink : Cond.fieldLink own index "WaxInEarsModel" "lostSet" "I" ∈ lw_good) (hdg : decode bc pc = .ok (.putfield index, 3)) (hw : ws.set q0 (a, oX6 r5 r6 r8 r9 r10 r11 r19 r21 r27 r28 r34 r35 r36 r47 r48 (upd f 13 v) g) = wn) (kk : ∀ (H1 : Heap) (locs1 : List Loc), va_P D vwCl wn H1 → va_D A wn → va_S A s.heap H1 locs1 → W p l e R s m args below meth c H1 locs1 cells slots Q (F0 m (pc + 3) ls rest)) : W p l e R s m args below meth c H locs cells slots Q (F0 m pc ls (.int v :: .ref a :: rest)) :=
  x_put E inX6 tyX6 tyX6_ok nmX6 rfl 13 (by decide) rfl rfl rfl (Nat.le_of_ble_eq_true rfl) rfl hP hD hS q0 he hlink hdg hw kk
theorem gx6_14 {r5 r6 r8 r9 r10 r11 r19 r21 r27 r28 r34 r35 r36 r47 r48 : Nat} {f : Nat → Int32} {g : Nat → Int64} {v : Int32} (E : xE p s m args meth c A D tys own bc nL ret) (hP : va_P D vwCl ws H) (q0 : Nat) (he : ws[q0]? = some (a, oX6 r5 r6 r8 r9 r10 r11 r19 r21 r27 r28 r34 r35 r36 r47 r48 f g)) (hv : f 14 = v) (hlink : Cond.fieldLink own index "WaxInEarsModel" "place" "I" ∈ lw_good) (hdg : decode bc pc = .ok (.getfield index, 3)) (kk : W p l e R s m args below meth c H locs cells slots Q (F0 m (pc + 3) ls (.int v :: rest))) : W p l e R s m args below meth c H locs cells slots Q (F0 m pc ls (.ref a :: rest)) :=
  x_get E inX6 rfl 14 (by decide) (by rw [← hv]; rfl) hP q0 he hlink hdg kk
set_option maxRecDepth 4000 in
theorem px6_14 {r5 r6 r8 r9 r10 r11 r19 r21 r27 r28 r34 r35 r36 r47 r48 : Nat} {f : Nat → Int32} {g : Nat → Int64} {v : Int32} (E : xE p s m args meth c A D tys own bc nL ret) (hP : va_P D vwCl ws H) (hD : va_D A ws) (hS : va_S A s.heap H locs) (q0 : Nat) (he : ws[q0]? = some (a, oX6 r5 r6 r8 r9 r10 r11 r19 r21 r27 r28 r34 r35 r36 r47 r48 f g)) (hlink : Cond.fieldLink own index "WaxInEarsModel" "place" "I" ∈ lw_good) (hdg : decode bc pc = .ok (.putfield index, 3)) (hw : ws.set q0 (a, oX6 r5 r6 r8 r9 r10 r11 r19 r21 r27 r28 r34 r35 r36 r47 r48 (upd f 14 v) g) = wn) (kk : ∀ (H1 : Heap) (locs1 : List Loc), va_P D vwCl wn H1 → va_D A wn → va_S A s.heap H1 locs1 → W p l e R s m args below meth c H1 locs1 cells slots Q (F0 m (pc + 3) ls rest)) : W p l e R s m args below meth c H locs cells slots Q (F0 m pc ls (.int v :: .ref a :: rest)) :=
  x_put E inX6 tyX6 tyX6_ok nmX6 rfl 14 (by decide) rfl rfl rfl (Nat.le_of_ble_eq_true rfl) rfl hP hD hS q0 he hlink hdg hw kk
theorem gx6_15 {r5 r6 r8 r9 r10 r11 r19 r21 r27 r28 r34 r35 r36 r47 r48 : Nat} {f : Nat → Int32} {g : Nat → Int64} {v : Int32} (E : xE p s m args meth c A D tys own bc nL ret) (hP : va_P D vwCl ws H) (q0 : Nat) (he : ws[q0]? = some (a, oX6 r5 r6 r8 r9 r10 r11 r19 r21 r27 r28 r34 r35 r36 r47 r48 f g)) (hv : f 15 = v) (hlink : Cond.fieldLink own index "WaxInEarsModel" "stroke" "I" ∈ lw_good) (hdg : decode bc pc = .ok (.getfield index, 3)) (kk : W p l e R s m args below meth c H locs cells slots Q (F0 m (pc + 3) ls (.int v :: rest))) : W p l e R s m args below meth c H locs cells slots Q (F0 m pc ls (.ref a :: rest)) :=
  x_get E inX6 rfl 15 (by decide) (by rw [← hv]; rfl) hP q0 he hlink hdg kk
set_option maxRecDepth 4000 in
theorem px6_15 {r5 r6 r8 r9 r10 r11 r19 r21 r27 r28 r34 r35 r36 r47 r48 : Nat} {f : Nat → Int32} {g : Nat → Int64} {v : Int32} (E : xE p s m args meth c A D tys own bc nL ret) (hP : va_P D vwCl ws H) (hD : va_D A ws) (hS : va_S A s.heap H locs) (q0 : Nat) (he : ws[q0]? = some (a, oX6 r5 r6 r8 r9 r10 r11 r19 r21 r27 r28 r34 r35 r36 r47 r48 f g)) (hlink : Cond.fieldLink own index "WaxInEarsModel" "stroke" "I" ∈ lw_good) (hdg : decode bc pc = .ok (.putfield index, 3)) (hw : ws.set q0 (a, oX6 r5 r6 r8 r9 r10 r11 r19 r21 r27 r28 r34 r35 r36 r47 r48 (upd f 15 v) g) = wn) (kk : ∀ (H1 : Heap) (locs1 : List Loc), va_P D vwCl wn H1 → va_D A wn → va_S A s.heap H1 locs1 → W p l e R s m args below meth c H1 locs1 cells slots Q (F0 m (pc + 3) ls rest)) : W p l e R s m args below meth c H locs cells slots Q (F0 m pc ls (.int v :: .ref a :: rest)) :=
  x_put E inX6 tyX6 tyX6_ok nmX6 rfl 15 (by decide) rfl rfl rfl (Nat.le_of_ble_eq_true rfl) rfl hP hD hS q0 he hlink hdg hw kk
theorem gx6_16 {r5 r6 r8 r9 r10 r11 r19 r21 r27 r28 r34 r35 r36 r47 r48 : Nat} {f : Nat → Int32} {g : Nat → Int64} {v : Int32} (E : xE p s m args meth c A D tys own bc nL ret) (hP : va_P D vwCl ws H) (q0 : Nat) (he : ws[q0]? = some (a, oX6 r5 r6 r8 r9 r10 r11 r19 r21 r27 r28 r34 r35 r36 r47 r48 f g)) (hv : f 16 = v) (hlink : Cond.fieldLink own index "WaxInEarsModel" "how" "I" ∈ lw_good) (hdg : decode bc pc = .ok (.getfield index, 3)) (kk : W p l e R s m args below meth c H locs cells slots Q (F0 m (pc + 3) ls (.int v :: rest))) : W p l e R s m args below meth c H locs cells slots Q (F0 m pc ls (.ref a :: rest)) :=
  x_get E inX6 rfl 16 (by decide) (by rw [← hv]; rfl) hP q0 he hlink hdg kk
set_option maxRecDepth 4000 in
theorem px6_16 {r5 r6 r8 r9 r10 r11 r19 r21 r27 r28 r34 r35 r36 r47 r48 : Nat} {f : Nat → Int32} {g : Nat → Int64} {v : Int32} (E : xE p s m args meth c A D tys own bc nL ret) (hP : va_P D vwCl ws H) (hD : va_D A ws) (hS : va_S A s.heap H locs) (q0 : Nat) (he : ws[q0]? = some (a, oX6 r5 r6 r8 r9 r10 r11 r19 r21 r27 r28 r34 r35 r36 r47 r48 f g)) (hlink : Cond.fieldLink own index "WaxInEarsModel" "how" "I" ∈ lw_good) (hdg : decode bc pc = .ok (.putfield index, 3)) (hw : ws.set q0 (a, oX6 r5 r6 r8 r9 r10 r11 r19 r21 r27 r28 r34 r35 r36 r47 r48 (upd f 16 v) g) = wn) (kk : ∀ (H1 : Heap) (locs1 : List Loc), va_P D vwCl wn H1 → va_D A wn → va_S A s.heap H1 locs1 → W p l e R s m args below meth c H1 locs1 cells slots Q (F0 m (pc + 3) ls rest)) : W p l e R s m args below meth c H locs cells slots Q (F0 m pc ls (.int v :: .ref a :: rest)) :=
  x_put E inX6 tyX6 tyX6_ok nmX6 rfl 16 (by decide) rfl rfl rfl (Nat.le_of_ble_eq_true rfl) rfl hP hD hS q0 he hlink hdg hw kk
theorem gx6_17 {r5 r6 r8 r9 r10 r11 r19 r21 r27 r28 r34 r35 r36 r47 r48 : Nat} {f : Nat → Int32} {g : Nat → Int64} {v : Int32} (E : xE p s m args meth c A D tys own bc nL ret) (hP : va_P D vwCl ws H) (q0 : Nat) (he : ws[q0]? = some (a, oX6 r5 r6 r8 r9 r10 r11 r19 r21 r27 r28 r34 r35 r36 r47 r48 f g)) (hv : f 17 = v) (hlink : Cond.fieldLink own index "WaxInEarsModel" "swamSet" "I" ∈ lw_good) (hdg : decode bc pc = .ok (.getfield index, 3)) (kk : W p l e R s m args below meth c H locs cells slots Q (F0 m (pc + 3) ls (.int v :: rest))) : W p l e R s m args below meth c H locs cells slots Q (F0 m pc ls (.ref a :: rest)) :=
  x_get E inX6 rfl 17 (by decide) (by rw [← hv]; rfl) hP q0 he hlink hdg kk
set_option maxRecDepth 4000 in
theorem px6_17 {r5 r6 r8 r9 r10 r11 r19 r21 r27 r28 r34 r35 r36 r47 r48 : Nat} {f : Nat → Int32} {g : Nat → Int64} {v : Int32} (E : xE p s m args meth c A D tys own bc nL ret) (hP : va_P D vwCl ws H) (hD : va_D A ws) (hS : va_S A s.heap H locs) (q0 : Nat) (he : ws[q0]? = some (a, oX6 r5 r6 r8 r9 r10 r11 r19 r21 r27 r28 r34 r35 r36 r47 r48 f g)) (hlink : Cond.fieldLink own index "WaxInEarsModel" "swamSet" "I" ∈ lw_good) (hdg : decode bc pc = .ok (.putfield index, 3)) (hw : ws.set q0 (a, oX6 r5 r6 r8 r9 r10 r11 r19 r21 r27 r28 r34 r35 r36 r47 r48 (upd f 17 v) g) = wn) (kk : ∀ (H1 : Heap) (locs1 : List Loc), va_P D vwCl wn H1 → va_D A wn → va_S A s.heap H1 locs1 → W p l e R s m args below meth c H1 locs1 cells slots Q (F0 m (pc + 3) ls rest)) : W p l e R s m args below meth c H locs cells slots Q (F0 m pc ls (.int v :: .ref a :: rest)) :=
  x_put E inX6 tyX6 tyX6_ok nmX6 rfl 17 (by decide) rfl rfl rfl (Nat.le_of_ble_eq_true rfl) rfl hP hD hS q0 he hlink hdg hw kk
theorem gx6_18 {r5 r6 r8 r9 r10 r11 r19 r21 r27 r28 r34 r35 r36 r47 r48 : Nat} {f : Nat → Int32} {g : Nat → Int64} {v : Int32} (E : xE p s m args meth c A D tys own bc nL ret) (hP : va_P D vwCl ws H) (q0 : Nat) (he : ws[q0]? = some (a, oX6 r5 r6 r8 r9 r10 r11 r19 r21 r27 r28 r34 r35 r36 r47 r48 f g)) (hv : f 18 = v) (hlink : Cond.fieldLink own index "WaxInEarsModel" "logged" "I" ∈ lw_good) (hdg : decode bc pc = .ok (.getfield index, 3)) (kk : W p l e R s m args below meth c H locs cells slots Q (F0 m (pc + 3) ls (.int v :: rest))) : W p l e R s m args below meth c H locs cells slots Q (F0 m pc ls (.ref a :: rest)) :=
  x_get E inX6 rfl 18 (by decide) (by rw [← hv]; rfl) hP q0 he hlink hdg kk
set_option maxRecDepth 4000 in
theorem px6_18 {r5 r6 r8 r9 r10 r11 r19 r21 r27 r28 r34 r35 r36 r47 r48 : Nat} {f : Nat → Int32} {g : Nat → Int64} {v : Int32} (E : xE p s m args meth c A D tys own bc nL ret) (hP : va_P D vwCl ws H) (hD : va_D A ws) (hS : va_S A s.heap H locs) (q0 : Nat) (he : ws[q0]? = some (a, oX6 r5 r6 r8 r9 r10 r11 r19 r21 r27 r28 r34 r35 r36 r47 r48 f g)) (hlink : Cond.fieldLink own index "WaxInEarsModel" "logged" "I" ∈ lw_good) (hdg : decode bc pc = .ok (.putfield index, 3)) (hw : ws.set q0 (a, oX6 r5 r6 r8 r9 r10 r11 r19 r21 r27 r28 r34 r35 r36 r47 r48 (upd f 18 v) g) = wn) (kk : ∀ (H1 : Heap) (locs1 : List Loc), va_P D vwCl wn H1 → va_D A wn → va_S A s.heap H1 locs1 → W p l e R s m args below meth c H1 locs1 cells slots Q (F0 m (pc + 3) ls rest)) : W p l e R s m args below meth c H locs cells slots Q (F0 m pc ls (.int v :: .ref a :: rest)) :=
  x_put E inX6 tyX6 tyX6_ok nmX6 rfl 18 (by decide) rfl rfl rfl (Nat.le_of_ble_eq_true rfl) rfl hP hD hS q0 he hlink hdg hw kk
theorem gx6_19 {r5 r6 r8 r9 r10 r11 r19 r21 r27 r28 r34 r35 r36 r47 r48 : Nat} {f : Nat → Int32} {g : Nat → Int64} (E : xE p s m args meth c A D tys own bc nL ret) (hP : va_P D vwCl ws H) (q0 : Nat) (he : ws[q0]? = some (a, oX6 r5 r6 r8 r9 r10 r11 r19 r21 r27 r28 r34 r35 r36 r47 r48 f g)) (hlink : Cond.fieldLink own index "WaxInEarsModel" "logOf" "[I" ∈ lw_good) (hdg : decode bc pc = .ok (.getfield index, 3)) (kk : W p l e R s m args below meth c H locs cells slots Q (F0 m (pc + 3) ls (.ref r19 :: rest))) : W p l e R s m args below meth c H locs cells slots Q (F0 m pc ls (.ref a :: rest)) :=
  x_get E inX6 rfl 19 (by decide) rfl hP q0 he hlink hdg kk
theorem gx6_20 {r5 r6 r8 r9 r10 r11 r19 r21 r27 r28 r34 r35 r36 r47 r48 : Nat} {f : Nat → Int32} {g : Nat → Int64} {v : Int32} (E : xE p s m args meth c A D tys own bc nL ret) (hP : va_P D vwCl ws H) (q0 : Nat) (he : ws[q0]? = some (a, oX6 r5 r6 r8 r9 r10 r11 r19 r21 r27 r28 r34 r35 r36 r47 r48 f g)) (hv : f 20 = v) (hlink : Cond.fieldLink own index "WaxInEarsModel" "pageLength" "I" ∈ lw_good) (hdg : decode bc pc = .ok (.getfield index, 3)) (kk : W p l e R s m args below meth c H locs cells slots Q (F0 m (pc + 3) ls (.int v :: rest))) : W p l e R s m args below meth c H locs cells slots Q (F0 m pc ls (.ref a :: rest)) :=
  x_get E inX6 rfl 20 (by decide) (by rw [← hv]; rfl) hP q0 he hlink hdg kk
set_option maxRecDepth 4000 in
theorem px6_20 {r5 r6 r8 r9 r10 r11 r19 r21 r27 r28 r34 r35 r36 r47 r48 : Nat} {f : Nat → Int32} {g : Nat → Int64} {v : Int32} (E : xE p s m args meth c A D tys own bc nL ret) (hP : va_P D vwCl ws H) (hD : va_D A ws) (hS : va_S A s.heap H locs) (q0 : Nat) (he : ws[q0]? = some (a, oX6 r5 r6 r8 r9 r10 r11 r19 r21 r27 r28 r34 r35 r36 r47 r48 f g)) (hlink : Cond.fieldLink own index "WaxInEarsModel" "pageLength" "I" ∈ lw_good) (hdg : decode bc pc = .ok (.putfield index, 3)) (hw : ws.set q0 (a, oX6 r5 r6 r8 r9 r10 r11 r19 r21 r27 r28 r34 r35 r36 r47 r48 (upd f 20 v) g) = wn) (kk : ∀ (H1 : Heap) (locs1 : List Loc), va_P D vwCl wn H1 → va_D A wn → va_S A s.heap H1 locs1 → W p l e R s m args below meth c H1 locs1 cells slots Q (F0 m (pc + 3) ls rest)) : W p l e R s m args below meth c H locs cells slots Q (F0 m pc ls (.int v :: .ref a :: rest)) :=
  x_put E inX6 tyX6 tyX6_ok nmX6 rfl 20 (by decide) rfl rfl rfl (Nat.le_of_ble_eq_true rfl) rfl hP hD hS q0 he hlink hdg hw kk
theorem gx6_21 {r5 r6 r8 r9 r10 r11 r19 r21 r27 r28 r34 r35 r36 r47 r48 : Nat} {f : Nat → Int32} {g : Nat → Int64} (E : xE p s m args meth c A D tys own bc nL ret) (hP : va_P D vwCl ws H) (q0 : Nat) (he : ws[q0]? = some (a, oX6 r5 r6 r8 r9 r10 r11 r19 r21 r27 r28 r34 r35 r36 r47 r48 f g)) (hlink : Cond.fieldLink own index "WaxInEarsModel" "page" "[B" ∈ lw_good) (hdg : decode bc pc = .ok (.getfield index, 3)) (kk : W p l e R s m args below meth c H locs cells slots Q (F0 m (pc + 3) ls (.ref r21 :: rest))) : W p l e R s m args below meth c H locs cells slots Q (F0 m pc ls (.ref a :: rest)) :=
  x_get E inX6 rfl 21 (by decide) rfl hP q0 he hlink hdg kk
theorem gx6_22 {r5 r6 r8 r9 r10 r11 r19 r21 r27 r28 r34 r35 r36 r47 r48 : Nat} {f : Nat → Int32} {g : Nat → Int64} {v : Int32} (E : xE p s m args meth c A D tys own bc nL ret) (hP : va_P D vwCl ws H) (q0 : Nat) (he : ws[q0]? = some (a, oX6 r5 r6 r8 r9 r10 r11 r19 r21 r27 r28 r34 r35 r36 r47 r48 f g)) (hv : f 22 = v) (hlink : Cond.fieldLink own index "WaxInEarsModel" "faultAt" "I" ∈ lw_good) (hdg : decode bc pc = .ok (.getfield index, 3)) (kk : W p l e R s m args below meth c H locs cells slots Q (F0 m (pc + 3) ls (.int v :: rest))) : W p l e R s m args below meth c H locs cells slots Q (F0 m pc ls (.ref a :: rest)) :=
  x_get E inX6 rfl 22 (by decide) (by rw [← hv]; rfl) hP q0 he hlink hdg kk
set_option maxRecDepth 4000 in
theorem px6_22 {r5 r6 r8 r9 r10 r11 r19 r21 r27 r28 r34 r35 r36 r47 r48 : Nat} {f : Nat → Int32} {g : Nat → Int64} {v : Int32} (E : xE p s m args meth c A D tys own bc nL ret) (hP : va_P D vwCl ws H) (hD : va_D A ws) (hS : va_S A s.heap H locs) (q0 : Nat) (he : ws[q0]? = some (a, oX6 r5 r6 r8 r9 r10 r11 r19 r21 r27 r28 r34 r35 r36 r47 r48 f g)) (hlink : Cond.fieldLink own index "WaxInEarsModel" "faultAt" "I" ∈ lw_good) (hdg : decode bc pc = .ok (.putfield index, 3)) (hw : ws.set q0 (a, oX6 r5 r6 r8 r9 r10 r11 r19 r21 r27 r28 r34 r35 r36 r47 r48 (upd f 22 v) g) = wn) (kk : ∀ (H1 : Heap) (locs1 : List Loc), va_P D vwCl wn H1 → va_D A wn → va_S A s.heap H1 locs1 → W p l e R s m args below meth c H1 locs1 cells slots Q (F0 m (pc + 3) ls rest)) : W p l e R s m args below meth c H locs cells slots Q (F0 m pc ls (.int v :: .ref a :: rest)) :=
  x_put E inX6 tyX6 tyX6_ok nmX6 rfl 22 (by decide) rfl rfl rfl (Nat.le_of_ble_eq_true rfl) rfl hP hD hS q0 he hlink hdg hw kk
theorem gx6_23 {r5 r6 r8 r9 r10 r11 r19 r21 r27 r28 r34 r35 r36 r47 r48 : Nat} {f : Nat → Int32} {g : Nat → Int64} {v : Int32} (E : xE p s m args meth c A D tys own bc nL ret) (hP : va_P D vwCl ws H) (q0 : Nat) (he : ws[q0]? = some (a, oX6 r5 r6 r8 r9 r10 r11 r19 r21 r27 r28 r34 r35 r36 r47 r48 f g)) (hv : f 23 = v) (hlink : Cond.fieldLink own index "WaxInEarsModel" "isWhole" "Z" ∈ lw_good) (hdg : decode bc pc = .ok (.getfield index, 3)) (kk : W p l e R s m args below meth c H locs cells slots Q (F0 m (pc + 3) ls (.int v :: rest))) : W p l e R s m args below meth c H locs cells slots Q (F0 m pc ls (.ref a :: rest)) :=
  x_get E inX6 rfl 23 (by decide) (by rw [← hv]; rfl) hP q0 he hlink hdg kk
set_option maxRecDepth 4000 in
theorem px6_23 {r5 r6 r8 r9 r10 r11 r19 r21 r27 r28 r34 r35 r36 r47 r48 : Nat} {f : Nat → Int32} {g : Nat → Int64} {v : Int32} (E : xE p s m args meth c A D tys own bc nL ret) (hn : narrow .boolean (.int v) = .int v) (hf : fits .boolean (.int v) = true) (hP : va_P D vwCl ws H) (hD : va_D A ws) (hS : va_S A s.heap H locs) (q0 : Nat) (he : ws[q0]? = some (a, oX6 r5 r6 r8 r9 r10 r11 r19 r21 r27 r28 r34 r35 r36 r47 r48 f g)) (hlink : Cond.fieldLink own index "WaxInEarsModel" "isWhole" "Z" ∈ lw_good) (hdg : decode bc pc = .ok (.putfield index, 3)) (hw : ws.set q0 (a, oX6 r5 r6 r8 r9 r10 r11 r19 r21 r27 r28 r34 r35 r36 r47 r48 (upd f 23 v) g) = wn) (kk : ∀ (H1 : Heap) (locs1 : List Loc), va_P D vwCl wn H1 → va_D A wn → va_S A s.heap H1 locs1 → W p l e R s m args below meth c H1 locs1 cells slots Q (F0 m (pc + 3) ls rest)) : W p l e R s m args below meth c H locs cells slots Q (F0 m pc ls (.int v :: .ref a :: rest)) :=
  x_put E inX6 tyX6 tyX6_ok nmX6 rfl 23 (by decide) rfl hn hf (Nat.le_of_ble_eq_true rfl) rfl hP hD hS q0 he hlink hdg hw kk
theorem gx6_24 {r5 r6 r8 r9 r10 r11 r19 r21 r27 r28 r34 r35 r36 r47 r48 : Nat} {f : Nat → Int32} {g : Nat → Int64} {v : Int32} (E : xE p s m args meth c A D tys own bc nL ret) (hP : va_P D vwCl ws H) (q0 : Nat) (he : ws[q0]? = some (a, oX6 r5 r6 r8 r9 r10 r11 r19 r21 r27 r28 r34 r35 r36 r47 r48 f g)) (hv : f 24 = v) (hlink : Cond.fieldLink own index "WaxInEarsModel" "newNeed" "I" ∈ lw_good) (hdg : decode bc pc = .ok (.getfield index, 3)) (kk : W p l e R s m args below meth c H locs cells slots Q (F0 m (pc + 3) ls (.int v :: rest))) : W p l e R s m args below meth c H locs cells slots Q (F0 m pc ls (.ref a :: rest)) :=
  x_get E inX6 rfl 24 (by decide) (by rw [← hv]; rfl) hP q0 he hlink hdg kk
set_option maxRecDepth 4000 in
theorem px6_24 {r5 r6 r8 r9 r10 r11 r19 r21 r27 r28 r34 r35 r36 r47 r48 : Nat} {f : Nat → Int32} {g : Nat → Int64} {v : Int32} (E : xE p s m args meth c A D tys own bc nL ret) (hP : va_P D vwCl ws H) (hD : va_D A ws) (hS : va_S A s.heap H locs) (q0 : Nat) (he : ws[q0]? = some (a, oX6 r5 r6 r8 r9 r10 r11 r19 r21 r27 r28 r34 r35 r36 r47 r48 f g)) (hlink : Cond.fieldLink own index "WaxInEarsModel" "newNeed" "I" ∈ lw_good) (hdg : decode bc pc = .ok (.putfield index, 3)) (hw : ws.set q0 (a, oX6 r5 r6 r8 r9 r10 r11 r19 r21 r27 r28 r34 r35 r36 r47 r48 (upd f 24 v) g) = wn) (kk : ∀ (H1 : Heap) (locs1 : List Loc), va_P D vwCl wn H1 → va_D A wn → va_S A s.heap H1 locs1 → W p l e R s m args below meth c H1 locs1 cells slots Q (F0 m (pc + 3) ls rest)) : W p l e R s m args below meth c H locs cells slots Q (F0 m pc ls (.int v :: .ref a :: rest)) :=
  x_put E inX6 tyX6 tyX6_ok nmX6 rfl 24 (by decide) rfl rfl rfl (Nat.le_of_ble_eq_true rfl) rfl hP hD hS q0 he hlink hdg hw kk
theorem gx6_25 {r5 r6 r8 r9 r10 r11 r19 r21 r27 r28 r34 r35 r36 r47 r48 : Nat} {f : Nat → Int32} {g : Nat → Int64} {v : Int32} (E : xE p s m args meth c A D tys own bc nL ret) (hP : va_P D vwCl ws H) (q0 : Nat) (he : ws[q0]? = some (a, oX6 r5 r6 r8 r9 r10 r11 r19 r21 r27 r28 r34 r35 r36 r47 r48 f g)) (hv : f 25 = v) (hlink : Cond.fieldLink own index "WaxInEarsModel" "newNoon" "I" ∈ lw_good) (hdg : decode bc pc = .ok (.getfield index, 3)) (kk : W p l e R s m args below meth c H locs cells slots Q (F0 m (pc + 3) ls (.int v :: rest))) : W p l e R s m args below meth c H locs cells slots Q (F0 m pc ls (.ref a :: rest)) :=
  x_get E inX6 rfl 25 (by decide) (by rw [← hv]; rfl) hP q0 he hlink hdg kk
set_option maxRecDepth 4000 in
theorem px6_25 {r5 r6 r8 r9 r10 r11 r19 r21 r27 r28 r34 r35 r36 r47 r48 : Nat} {f : Nat → Int32} {g : Nat → Int64} {v : Int32} (E : xE p s m args meth c A D tys own bc nL ret) (hP : va_P D vwCl ws H) (hD : va_D A ws) (hS : va_S A s.heap H locs) (q0 : Nat) (he : ws[q0]? = some (a, oX6 r5 r6 r8 r9 r10 r11 r19 r21 r27 r28 r34 r35 r36 r47 r48 f g)) (hlink : Cond.fieldLink own index "WaxInEarsModel" "newNoon" "I" ∈ lw_good) (hdg : decode bc pc = .ok (.putfield index, 3)) (hw : ws.set q0 (a, oX6 r5 r6 r8 r9 r10 r11 r19 r21 r27 r28 r34 r35 r36 r47 r48 (upd f 25 v) g) = wn) (kk : ∀ (H1 : Heap) (locs1 : List Loc), va_P D vwCl wn H1 → va_D A wn → va_S A s.heap H1 locs1 → W p l e R s m args below meth c H1 locs1 cells slots Q (F0 m (pc + 3) ls rest)) : W p l e R s m args below meth c H locs cells slots Q (F0 m pc ls (.int v :: .ref a :: rest)) :=
  x_put E inX6 tyX6 tyX6_ok nmX6 rfl 25 (by decide) rfl rfl rfl (Nat.le_of_ble_eq_true rfl) rfl hP hD hS q0 he hlink hdg hw kk
theorem gx6_26 {r5 r6 r8 r9 r10 r11 r19 r21 r27 r28 r34 r35 r36 r47 r48 : Nat} {f : Nat → Int32} {g : Nat → Int64} {v : Int32} (E : xE p s m args meth c A D tys own bc nL ret) (hP : va_P D vwCl ws H) (q0 : Nat) (he : ws[q0]? = some (a, oX6 r5 r6 r8 r9 r10 r11 r19 r21 r27 r28 r34 r35 r36 r47 r48 f g)) (hv : f 26 = v) (hlink : Cond.fieldLink own index "WaxInEarsModel" "newPlaces" "I" ∈ lw_good) (hdg : decode bc pc = .ok (.getfield index, 3)) (kk : W p l e R s m args below meth c H locs cells slots Q (F0 m (pc + 3) ls (.int v :: rest))) : W p l e R s m args below meth c H locs cells slots Q (F0 m pc ls (.ref a :: rest)) :=
  x_get E inX6 rfl 26 (by decide) (by rw [← hv]; rfl) hP q0 he hlink hdg kk
set_option maxRecDepth 4000 in
theorem px6_26 {r5 r6 r8 r9 r10 r11 r19 r21 r27 r28 r34 r35 r36 r47 r48 : Nat} {f : Nat → Int32} {g : Nat → Int64} {v : Int32} (E : xE p s m args meth c A D tys own bc nL ret) (hP : va_P D vwCl ws H) (hD : va_D A ws) (hS : va_S A s.heap H locs) (q0 : Nat) (he : ws[q0]? = some (a, oX6 r5 r6 r8 r9 r10 r11 r19 r21 r27 r28 r34 r35 r36 r47 r48 f g)) (hlink : Cond.fieldLink own index "WaxInEarsModel" "newPlaces" "I" ∈ lw_good) (hdg : decode bc pc = .ok (.putfield index, 3)) (hw : ws.set q0 (a, oX6 r5 r6 r8 r9 r10 r11 r19 r21 r27 r28 r34 r35 r36 r47 r48 (upd f 26 v) g) = wn) (kk : ∀ (H1 : Heap) (locs1 : List Loc), va_P D vwCl wn H1 → va_D A wn → va_S A s.heap H1 locs1 → W p l e R s m args below meth c H1 locs1 cells slots Q (F0 m (pc + 3) ls rest)) : W p l e R s m args below meth c H locs cells slots Q (F0 m pc ls (.int v :: .ref a :: rest)) :=
  x_put E inX6 tyX6 tyX6_ok nmX6 rfl 26 (by decide) rfl rfl rfl (Nat.le_of_ble_eq_true rfl) rfl hP hD hS q0 he hlink hdg hw kk
theorem gx6_27 {r5 r6 r8 r9 r10 r11 r19 r21 r27 r28 r34 r35 r36 r47 r48 : Nat} {f : Nat → Int32} {g : Nat → Int64} (E : xE p s m args meth c A D tys own bc nL ret) (hP : va_P D vwCl ws H) (q0 : Nat) (he : ws[q0]? = some (a, oX6 r5 r6 r8 r9 r10 r11 r19 r21 r27 r28 r34 r35 r36 r47 r48 f g)) (hlink : Cond.fieldLink own index "WaxInEarsModel" "newSong" "[I" ∈ lw_good) (hdg : decode bc pc = .ok (.getfield index, 3)) (kk : W p l e R s m args below meth c H locs cells slots Q (F0 m (pc + 3) ls (.ref r27 :: rest))) : W p l e R s m args below meth c H locs cells slots Q (F0 m pc ls (.ref a :: rest)) :=
  x_get E inX6 rfl 27 (by decide) rfl hP q0 he hlink hdg kk
theorem gx6_28 {r5 r6 r8 r9 r10 r11 r19 r21 r27 r28 r34 r35 r36 r47 r48 : Nat} {f : Nat → Int32} {g : Nat → Int64} (E : xE p s m args meth c A D tys own bc nL ret) (hP : va_P D vwCl ws H) (q0 : Nat) (he : ws[q0]? = some (a, oX6 r5 r6 r8 r9 r10 r11 r19 r21 r27 r28 r34 r35 r36 r47 r48 f g)) (hlink : Cond.fieldLink own index "WaxInEarsModel" "newRock" "[I" ∈ lw_good) (hdg : decode bc pc = .ok (.getfield index, 3)) (kk : W p l e R s m args below meth c H locs cells slots Q (F0 m (pc + 3) ls (.ref r28 :: rest))) : W p l e R s m args below meth c H locs cells slots Q (F0 m pc ls (.ref a :: rest)) :=
  x_get E inX6 rfl 28 (by decide) rfl hP q0 he hlink hdg kk
theorem gx6_29 {r5 r6 r8 r9 r10 r11 r19 r21 r27 r28 r34 r35 r36 r47 r48 : Nat} {f : Nat → Int32} {g : Nat → Int64} {v : Int32} (E : xE p s m args meth c A D tys own bc nL ret) (hP : va_P D vwCl ws H) (q0 : Nat) (he : ws[q0]? = some (a, oX6 r5 r6 r8 r9 r10 r11 r19 r21 r27 r28 r34 r35 r36 r47 r48 f g)) (hv : f 29 = v) (hlink : Cond.fieldLink own index "WaxInEarsModel" "savedWax" "I" ∈ lw_good) (hdg : decode bc pc = .ok (.getfield index, 3)) (kk : W p l e R s m args below meth c H locs cells slots Q (F0 m (pc + 3) ls (.int v :: rest))) : W p l e R s m args below meth c H locs cells slots Q (F0 m pc ls (.ref a :: rest)) :=
  x_get E inX6 rfl 29 (by decide) (by rw [← hv]; rfl) hP q0 he hlink hdg kk
set_option maxRecDepth 4000 in
theorem px6_29 {r5 r6 r8 r9 r10 r11 r19 r21 r27 r28 r34 r35 r36 r47 r48 : Nat} {f : Nat → Int32} {g : Nat → Int64} {v : Int32} (E : xE p s m args meth c A D tys own bc nL ret) (hP : va_P D vwCl ws H) (hD : va_D A ws) (hS : va_S A s.heap H locs) (q0 : Nat) (he : ws[q0]? = some (a, oX6 r5 r6 r8 r9 r10 r11 r19 r21 r27 r28 r34 r35 r36 r47 r48 f g)) (hlink : Cond.fieldLink own index "WaxInEarsModel" "savedWax" "I" ∈ lw_good) (hdg : decode bc pc = .ok (.putfield index, 3)) (hw : ws.set q0 (a, oX6 r5 r6 r8 r9 r10 r11 r19 r21 r27 r28 r34 r35 r36 r47 r48 (upd f 29 v) g) = wn) (kk : ∀ (H1 : Heap) (locs1 : List Loc), va_P D vwCl wn H1 → va_D A wn → va_S A s.heap H1 locs1 → W p l e R s m args below meth c H1 locs1 cells slots Q (F0 m (pc + 3) ls rest)) : W p l e R s m args below meth c H locs cells slots Q (F0 m pc ls (.int v :: .ref a :: rest)) :=
  x_put E inX6 tyX6 tyX6_ok nmX6 rfl 29 (by decide) rfl rfl rfl (Nat.le_of_ble_eq_true rfl) rfl hP hD hS q0 he hlink hdg hw kk
theorem gx6_30 {r5 r6 r8 r9 r10 r11 r19 r21 r27 r28 r34 r35 r36 r47 r48 : Nat} {f : Nat → Int32} {g : Nat → Int64} {v : Int32} (E : xE p s m args meth c A D tys own bc nL ret) (hP : va_P D vwCl ws H) (q0 : Nat) (he : ws[q0]? = some (a, oX6 r5 r6 r8 r9 r10 r11 r19 r21 r27 r28 r34 r35 r36 r47 r48 f g)) (hv : f 30 = v) (hlink : Cond.fieldLink own index "WaxInEarsModel" "savedLost" "I" ∈ lw_good) (hdg : decode bc pc = .ok (.getfield index, 3)) (kk : W p l e R s m args below meth c H locs cells slots Q (F0 m (pc + 3) ls (.int v :: rest))) : W p l e R s m args below meth c H locs cells slots Q (F0 m pc ls (.ref a :: rest)) :=
  x_get E inX6 rfl 30 (by decide) (by rw [← hv]; rfl) hP q0 he hlink hdg kk
set_option maxRecDepth 4000 in
theorem px6_30 {r5 r6 r8 r9 r10 r11 r19 r21 r27 r28 r34 r35 r36 r47 r48 : Nat} {f : Nat → Int32} {g : Nat → Int64} {v : Int32} (E : xE p s m args meth c A D tys own bc nL ret) (hP : va_P D vwCl ws H) (hD : va_D A ws) (hS : va_S A s.heap H locs) (q0 : Nat) (he : ws[q0]? = some (a, oX6 r5 r6 r8 r9 r10 r11 r19 r21 r27 r28 r34 r35 r36 r47 r48 f g)) (hlink : Cond.fieldLink own index "WaxInEarsModel" "savedLost" "I" ∈ lw_good) (hdg : decode bc pc = .ok (.putfield index, 3)) (hw : ws.set q0 (a, oX6 r5 r6 r8 r9 r10 r11 r19 r21 r27 r28 r34 r35 r36 r47 r48 (upd f 30 v) g) = wn) (kk : ∀ (H1 : Heap) (locs1 : List Loc), va_P D vwCl wn H1 → va_D A wn → va_S A s.heap H1 locs1 → W p l e R s m args below meth c H1 locs1 cells slots Q (F0 m (pc + 3) ls rest)) : W p l e R s m args below meth c H locs cells slots Q (F0 m pc ls (.int v :: .ref a :: rest)) :=
  x_put E inX6 tyX6 tyX6_ok nmX6 rfl 30 (by decide) rfl rfl rfl (Nat.le_of_ble_eq_true rfl) rfl hP hD hS q0 he hlink hdg hw kk
theorem gx6_31 {r5 r6 r8 r9 r10 r11 r19 r21 r27 r28 r34 r35 r36 r47 r48 : Nat} {f : Nat → Int32} {g : Nat → Int64} {v : Int32} (E : xE p s m args meth c A D tys own bc nL ret) (hP : va_P D vwCl ws H) (q0 : Nat) (he : ws[q0]? = some (a, oX6 r5 r6 r8 r9 r10 r11 r19 r21 r27 r28 r34 r35 r36 r47 r48 f g)) (hv : f 31 = v) (hlink : Cond.fieldLink own index "WaxInEarsModel" "savedPlace" "I" ∈ lw_good) (hdg : decode bc pc = .ok (.getfield index, 3)) (kk : W p l e R s m args below meth c H locs cells slots Q (F0 m (pc + 3) ls (.int v :: rest))) : W p l e R s m args below meth c H locs cells slots Q (F0 m pc ls (.ref a :: rest)) :=
  x_get E inX6 rfl 31 (by decide) (by rw [← hv]; rfl) hP q0 he hlink hdg kk
set_option maxRecDepth 4000 in
theorem px6_31 {r5 r6 r8 r9 r10 r11 r19 r21 r27 r28 r34 r35 r36 r47 r48 : Nat} {f : Nat → Int32} {g : Nat → Int64} {v : Int32} (E : xE p s m args meth c A D tys own bc nL ret) (hP : va_P D vwCl ws H) (hD : va_D A ws) (hS : va_S A s.heap H locs) (q0 : Nat) (he : ws[q0]? = some (a, oX6 r5 r6 r8 r9 r10 r11 r19 r21 r27 r28 r34 r35 r36 r47 r48 f g)) (hlink : Cond.fieldLink own index "WaxInEarsModel" "savedPlace" "I" ∈ lw_good) (hdg : decode bc pc = .ok (.putfield index, 3)) (hw : ws.set q0 (a, oX6 r5 r6 r8 r9 r10 r11 r19 r21 r27 r28 r34 r35 r36 r47 r48 (upd f 31 v) g) = wn) (kk : ∀ (H1 : Heap) (locs1 : List Loc), va_P D vwCl wn H1 → va_D A wn → va_S A s.heap H1 locs1 → W p l e R s m args below meth c H1 locs1 cells slots Q (F0 m (pc + 3) ls rest)) : W p l e R s m args below meth c H locs cells slots Q (F0 m pc ls (.int v :: .ref a :: rest)) :=
  x_put E inX6 tyX6 tyX6_ok nmX6 rfl 31 (by decide) rfl rfl rfl (Nat.le_of_ble_eq_true rfl) rfl hP hD hS q0 he hlink hdg hw kk
theorem gx6_32 {r5 r6 r8 r9 r10 r11 r19 r21 r27 r28 r34 r35 r36 r47 r48 : Nat} {f : Nat → Int32} {g : Nat → Int64} {v : Int32} (E : xE p s m args meth c A D tys own bc nL ret) (hP : va_P D vwCl ws H) (q0 : Nat) (he : ws[q0]? = some (a, oX6 r5 r6 r8 r9 r10 r11 r19 r21 r27 r28 r34 r35 r36 r47 r48 f g)) (hv : f 32 = v) (hlink : Cond.fieldLink own index "WaxInEarsModel" "savedStroke" "I" ∈ lw_good) (hdg : decode bc pc = .ok (.getfield index, 3)) (kk : W p l e R s m args below meth c H locs cells slots Q (F0 m (pc + 3) ls (.int v :: rest))) : W p l e R s m args below meth c H locs cells slots Q (F0 m pc ls (.ref a :: rest)) :=
  x_get E inX6 rfl 32 (by decide) (by rw [← hv]; rfl) hP q0 he hlink hdg kk
set_option maxRecDepth 4000 in
theorem px6_32 {r5 r6 r8 r9 r10 r11 r19 r21 r27 r28 r34 r35 r36 r47 r48 : Nat} {f : Nat → Int32} {g : Nat → Int64} {v : Int32} (E : xE p s m args meth c A D tys own bc nL ret) (hP : va_P D vwCl ws H) (hD : va_D A ws) (hS : va_S A s.heap H locs) (q0 : Nat) (he : ws[q0]? = some (a, oX6 r5 r6 r8 r9 r10 r11 r19 r21 r27 r28 r34 r35 r36 r47 r48 f g)) (hlink : Cond.fieldLink own index "WaxInEarsModel" "savedStroke" "I" ∈ lw_good) (hdg : decode bc pc = .ok (.putfield index, 3)) (hw : ws.set q0 (a, oX6 r5 r6 r8 r9 r10 r11 r19 r21 r27 r28 r34 r35 r36 r47 r48 (upd f 32 v) g) = wn) (kk : ∀ (H1 : Heap) (locs1 : List Loc), va_P D vwCl wn H1 → va_D A wn → va_S A s.heap H1 locs1 → W p l e R s m args below meth c H1 locs1 cells slots Q (F0 m (pc + 3) ls rest)) : W p l e R s m args below meth c H locs cells slots Q (F0 m pc ls (.int v :: .ref a :: rest)) :=
  x_put E inX6 tyX6 tyX6_ok nmX6 rfl 32 (by decide) rfl rfl rfl (Nat.le_of_ble_eq_true rfl) rfl hP hD hS q0 he hlink hdg hw kk
theorem gx6_33 {r5 r6 r8 r9 r10 r11 r19 r21 r27 r28 r34 r35 r36 r47 r48 : Nat} {f : Nat → Int32} {g : Nat → Int64} {v : Int32} (E : xE p s m args meth c A D tys own bc nL ret) (hP : va_P D vwCl ws H) (q0 : Nat) (he : ws[q0]? = some (a, oX6 r5 r6 r8 r9 r10 r11 r19 r21 r27 r28 r34 r35 r36 r47 r48 f g)) (hv : f 33 = v) (hlink : Cond.fieldLink own index "WaxInEarsModel" "savedHow" "I" ∈ lw_good) (hdg : decode bc pc = .ok (.getfield index, 3)) (kk : W p l e R s m args below meth c H locs cells slots Q (F0 m (pc + 3) ls (.int v :: rest))) : W p l e R s m args below meth c H locs cells slots Q (F0 m pc ls (.ref a :: rest)) :=
  x_get E inX6 rfl 33 (by decide) (by rw [← hv]; rfl) hP q0 he hlink hdg kk
set_option maxRecDepth 4000 in
theorem px6_33 {r5 r6 r8 r9 r10 r11 r19 r21 r27 r28 r34 r35 r36 r47 r48 : Nat} {f : Nat → Int32} {g : Nat → Int64} {v : Int32} (E : xE p s m args meth c A D tys own bc nL ret) (hP : va_P D vwCl ws H) (hD : va_D A ws) (hS : va_S A s.heap H locs) (q0 : Nat) (he : ws[q0]? = some (a, oX6 r5 r6 r8 r9 r10 r11 r19 r21 r27 r28 r34 r35 r36 r47 r48 f g)) (hlink : Cond.fieldLink own index "WaxInEarsModel" "savedHow" "I" ∈ lw_good) (hdg : decode bc pc = .ok (.putfield index, 3)) (hw : ws.set q0 (a, oX6 r5 r6 r8 r9 r10 r11 r19 r21 r27 r28 r34 r35 r36 r47 r48 (upd f 33 v) g) = wn) (kk : ∀ (H1 : Heap) (locs1 : List Loc), va_P D vwCl wn H1 → va_D A wn → va_S A s.heap H1 locs1 → W p l e R s m args below meth c H1 locs1 cells slots Q (F0 m (pc + 3) ls rest)) : W p l e R s m args below meth c H locs cells slots Q (F0 m pc ls (.int v :: .ref a :: rest)) :=
  x_put E inX6 tyX6 tyX6_ok nmX6 rfl 33 (by decide) rfl rfl rfl (Nat.le_of_ble_eq_true rfl) rfl hP hD hS q0 he hlink hdg hw kk
theorem gx6_34 {r5 r6 r8 r9 r10 r11 r19 r21 r27 r28 r34 r35 r36 r47 r48 : Nat} {f : Nat → Int32} {g : Nat → Int64} (E : xE p s m args meth c A D tys own bc nL ret) (hP : va_P D vwCl ws H) (q0 : Nat) (he : ws[q0]? = some (a, oX6 r5 r6 r8 r9 r10 r11 r19 r21 r27 r28 r34 r35 r36 r47 r48 f g)) (hlink : Cond.fieldLink own index "WaxInEarsModel" "savedKnots" "[I" ∈ lw_good) (hdg : decode bc pc = .ok (.getfield index, 3)) (kk : W p l e R s m args below meth c H locs cells slots Q (F0 m (pc + 3) ls (.ref r34 :: rest))) : W p l e R s m args below meth c H locs cells slots Q (F0 m pc ls (.ref a :: rest)) :=
  x_get E inX6 rfl 34 (by decide) rfl hP q0 he hlink hdg kk
theorem gx6_35 {r5 r6 r8 r9 r10 r11 r19 r21 r27 r28 r34 r35 r36 r47 r48 : Nat} {f : Nat → Int32} {g : Nat → Int64} (E : xE p s m args meth c A D tys own bc nL ret) (hP : va_P D vwCl ws H) (q0 : Nat) (he : ws[q0]? = some (a, oX6 r5 r6 r8 r9 r10 r11 r19 r21 r27 r28 r34 r35 r36 r47 r48 f g)) (hlink : Cond.fieldLink own index "WaxInEarsModel" "savedSong" "[I" ∈ lw_good) (hdg : decode bc pc = .ok (.getfield index, 3)) (kk : W p l e R s m args below meth c H locs cells slots Q (F0 m (pc + 3) ls (.ref r35 :: rest))) : W p l e R s m args below meth c H locs cells slots Q (F0 m pc ls (.ref a :: rest)) :=
  x_get E inX6 rfl 35 (by decide) rfl hP q0 he hlink hdg kk
theorem gx6_36 {r5 r6 r8 r9 r10 r11 r19 r21 r27 r28 r34 r35 r36 r47 r48 : Nat} {f : Nat → Int32} {g : Nat → Int64} (E : xE p s m args meth c A D tys own bc nL ret) (hP : va_P D vwCl ws H) (q0 : Nat) (he : ws[q0]? = some (a, oX6 r5 r6 r8 r9 r10 r11 r19 r21 r27 r28 r34 r35 r36 r47 r48 f g)) (hlink : Cond.fieldLink own index "WaxInEarsModel" "hadOf" "[I" ∈ lw_good) (hdg : decode bc pc = .ok (.getfield index, 3)) (kk : W p l e R s m args below meth c H locs cells slots Q (F0 m (pc + 3) ls (.ref r36 :: rest))) : W p l e R s m args below meth c H locs cells slots Q (F0 m pc ls (.ref a :: rest)) :=
  x_get E inX6 rfl 36 (by decide) rfl hP q0 he hlink hdg kk
theorem gx6_37 {r5 r6 r8 r9 r10 r11 r19 r21 r27 r28 r34 r35 r36 r47 r48 : Nat} {f : Nat → Int32} {g : Nat → Int64} {v : Int64} (E : xE p s m args meth c A D tys own bc nL ret) (hP : va_P D vwCl ws H) (q0 : Nat) (he : ws[q0]? = some (a, oX6 r5 r6 r8 r9 r10 r11 r19 r21 r27 r28 r34 r35 r36 r47 r48 f g)) (hv : g 37 = v) (hlink : Cond.fieldLink own index "WaxInEarsModel" "seedNow" "J" ∈ lw_good) (hdg : decode bc pc = .ok (.getfield index, 3)) (kk : W p l e R s m args below meth c H locs cells slots Q (F0 m (pc + 3) ls (.long v :: rest))) : W p l e R s m args below meth c H locs cells slots Q (F0 m pc ls (.ref a :: rest)) :=
  x_get E inX6 rfl 37 (by decide) (by rw [← hv]; rfl) hP q0 he hlink hdg kk
set_option maxRecDepth 4000 in
theorem px6_37 {r5 r6 r8 r9 r10 r11 r19 r21 r27 r28 r34 r35 r36 r47 r48 : Nat} {f : Nat → Int32} {g : Nat → Int64} {v : Int64} (E : xE p s m args meth c A D tys own bc nL ret) (hP : va_P D vwCl ws H) (hD : va_D A ws) (hS : va_S A s.heap H locs) (q0 : Nat) (he : ws[q0]? = some (a, oX6 r5 r6 r8 r9 r10 r11 r19 r21 r27 r28 r34 r35 r36 r47 r48 f g)) (hlink : Cond.fieldLink own index "WaxInEarsModel" "seedNow" "J" ∈ lw_good) (hdg : decode bc pc = .ok (.putfield index, 3)) (hw : ws.set q0 (a, oX6 r5 r6 r8 r9 r10 r11 r19 r21 r27 r28 r34 r35 r36 r47 r48 f (vp_updL g 37 v)) = wn) (kk : ∀ (H1 : Heap) (locs1 : List Loc), va_P D vwCl wn H1 → va_D A wn → va_S A s.heap H1 locs1 → W p l e R s m args below meth c H1 locs1 cells slots Q (F0 m (pc + 3) ls rest)) : W p l e R s m args below meth c H locs cells slots Q (F0 m pc ls (.long v :: .ref a :: rest)) :=
  x_put E inX6 tyX6 tyX6_ok nmX6 rfl 37 (by decide) rfl rfl rfl (Nat.le_of_ble_eq_true rfl) rfl hP hD hS q0 he hlink hdg hw kk
theorem gx6_38 {r5 r6 r8 r9 r10 r11 r19 r21 r27 r28 r34 r35 r36 r47 r48 : Nat} {f : Nat → Int32} {g : Nat → Int64} {v : Int32} (E : xE p s m args meth c A D tys own bc nL ret) (hP : va_P D vwCl ws H) (q0 : Nat) (he : ws[q0]? = some (a, oX6 r5 r6 r8 r9 r10 r11 r19 r21 r27 r28 r34 r35 r36 r47 r48 f g)) (hv : f 38 = v) (hlink : Cond.fieldLink own index "WaxInEarsModel" "isKept" "Z" ∈ lw_good) (hdg : decode bc pc = .ok (.getfield index, 3)) (kk : W p l e R s m args below meth c H locs cells slots Q (F0 m (pc + 3) ls (.int v :: rest))) : W p l e R s m args below meth c H locs cells slots Q (F0 m pc ls (.ref a :: rest)) :=
  x_get E inX6 rfl 38 (by decide) (by rw [← hv]; rfl) hP q0 he hlink hdg kk
set_option maxRecDepth 4000 in
theorem px6_38 {r5 r6 r8 r9 r10 r11 r19 r21 r27 r28 r34 r35 r36 r47 r48 : Nat} {f : Nat → Int32} {g : Nat → Int64} {v : Int32} (E : xE p s m args meth c A D tys own bc nL ret) (hn : narrow .boolean (.int v) = .int v) (hf : fits .boolean (.int v) = true) (hP : va_P D vwCl ws H) (hD : va_D A ws) (hS : va_S A s.heap H locs) (q0 : Nat) (he : ws[q0]? = some (a, oX6 r5 r6 r8 r9 r10 r11 r19 r21 r27 r28 r34 r35 r36 r47 r48 f g)) (hlink : Cond.fieldLink own index "WaxInEarsModel" "isKept" "Z" ∈ lw_good) (hdg : decode bc pc = .ok (.putfield index, 3)) (hw : ws.set q0 (a, oX6 r5 r6 r8 r9 r10 r11 r19 r21 r27 r28 r34 r35 r36 r47 r48 (upd f 38 v) g) = wn) (kk : ∀ (H1 : Heap) (locs1 : List Loc), va_P D vwCl wn H1 → va_D A wn → va_S A s.heap H1 locs1 → W p l e R s m args below meth c H1 locs1 cells slots Q (F0 m (pc + 3) ls rest)) : W p l e R s m args below meth c H locs cells slots Q (F0 m pc ls (.int v :: .ref a :: rest)) :=
  x_put E inX6 tyX6 tyX6_ok nmX6 rfl 38 (by decide) rfl hn hf (Nat.le_of_ble_eq_true rfl) rfl hP hD hS q0 he hlink hdg hw kk
theorem gx6_39 {r5 r6 r8 r9 r10 r11 r19 r21 r27 r28 r34 r35 r36 r47 r48 : Nat} {f : Nat → Int32} {g : Nat → Int64} {v : Int32} (E : xE p s m args meth c A D tys own bc nL ret) (hP : va_P D vwCl ws H) (q0 : Nat) (he : ws[q0]? = some (a, oX6 r5 r6 r8 r9 r10 r11 r19 r21 r27 r28 r34 r35 r36 r47 r48 f g)) (hv : f 39 = v) (hlink : Cond.fieldLink own index "WaxInEarsModel" "keptPassage" "I" ∈ lw_good) (hdg : decode bc pc = .ok (.getfield index, 3)) (kk : W p l e R s m args below meth c H locs cells slots Q (F0 m (pc + 3) ls (.int v :: rest))) : W p l e R s m args below meth c H locs cells slots Q (F0 m pc ls (.ref a :: rest)) :=
  x_get E inX6 rfl 39 (by decide) (by rw [← hv]; rfl) hP q0 he hlink hdg kk
set_option maxRecDepth 4000 in
theorem px6_39 {r5 r6 r8 r9 r10 r11 r19 r21 r27 r28 r34 r35 r36 r47 r48 : Nat} {f : Nat → Int32} {g : Nat → Int64} {v : Int32} (E : xE p s m args meth c A D tys own bc nL ret) (hP : va_P D vwCl ws H) (hD : va_D A ws) (hS : va_S A s.heap H locs) (q0 : Nat) (he : ws[q0]? = some (a, oX6 r5 r6 r8 r9 r10 r11 r19 r21 r27 r28 r34 r35 r36 r47 r48 f g)) (hlink : Cond.fieldLink own index "WaxInEarsModel" "keptPassage" "I" ∈ lw_good) (hdg : decode bc pc = .ok (.putfield index, 3)) (hw : ws.set q0 (a, oX6 r5 r6 r8 r9 r10 r11 r19 r21 r27 r28 r34 r35 r36 r47 r48 (upd f 39 v) g) = wn) (kk : ∀ (H1 : Heap) (locs1 : List Loc), va_P D vwCl wn H1 → va_D A wn → va_S A s.heap H1 locs1 → W p l e R s m args below meth c H1 locs1 cells slots Q (F0 m (pc + 3) ls rest)) : W p l e R s m args below meth c H locs cells slots Q (F0 m pc ls (.int v :: .ref a :: rest)) :=
  x_put E inX6 tyX6 tyX6_ok nmX6 rfl 39 (by decide) rfl rfl rfl (Nat.le_of_ble_eq_true rfl) rfl hP hD hS q0 he hlink hdg hw kk
theorem gx6_40 {r5 r6 r8 r9 r10 r11 r19 r21 r27 r28 r34 r35 r36 r47 r48 : Nat} {f : Nat → Int32} {g : Nat → Int64} {v : Int32} (E : xE p s m args meth c A D tys own bc nL ret) (hP : va_P D vwCl ws H) (q0 : Nat) (he : ws[q0]? = some (a, oX6 r5 r6 r8 r9 r10 r11 r19 r21 r27 r28 r34 r35 r36 r47 r48 f g)) (hv : f 40 = v) (hlink : Cond.fieldLink own index "WaxInEarsModel" "keptMen" "I" ∈ lw_good) (hdg : decode bc pc = .ok (.getfield index, 3)) (kk : W p l e R s m args below meth c H locs cells slots Q (F0 m (pc + 3) ls (.int v :: rest))) : W p l e R s m args below meth c H locs cells slots Q (F0 m pc ls (.ref a :: rest)) :=
  x_get E inX6 rfl 40 (by decide) (by rw [← hv]; rfl) hP q0 he hlink hdg kk
set_option maxRecDepth 4000 in
theorem px6_40 {r5 r6 r8 r9 r10 r11 r19 r21 r27 r28 r34 r35 r36 r47 r48 : Nat} {f : Nat → Int32} {g : Nat → Int64} {v : Int32} (E : xE p s m args meth c A D tys own bc nL ret) (hP : va_P D vwCl ws H) (hD : va_D A ws) (hS : va_S A s.heap H locs) (q0 : Nat) (he : ws[q0]? = some (a, oX6 r5 r6 r8 r9 r10 r11 r19 r21 r27 r28 r34 r35 r36 r47 r48 f g)) (hlink : Cond.fieldLink own index "WaxInEarsModel" "keptMen" "I" ∈ lw_good) (hdg : decode bc pc = .ok (.putfield index, 3)) (hw : ws.set q0 (a, oX6 r5 r6 r8 r9 r10 r11 r19 r21 r27 r28 r34 r35 r36 r47 r48 (upd f 40 v) g) = wn) (kk : ∀ (H1 : Heap) (locs1 : List Loc), va_P D vwCl wn H1 → va_D A wn → va_S A s.heap H1 locs1 → W p l e R s m args below meth c H1 locs1 cells slots Q (F0 m (pc + 3) ls rest)) : W p l e R s m args below meth c H locs cells slots Q (F0 m pc ls (.int v :: .ref a :: rest)) :=
  x_put E inX6 tyX6 tyX6_ok nmX6 rfl 40 (by decide) rfl rfl rfl (Nat.le_of_ble_eq_true rfl) rfl hP hD hS q0 he hlink hdg hw kk
theorem gx6_41 {r5 r6 r8 r9 r10 r11 r19 r21 r27 r28 r34 r35 r36 r47 r48 : Nat} {f : Nat → Int32} {g : Nat → Int64} {v : Int32} (E : xE p s m args meth c A D tys own bc nL ret) (hP : va_P D vwCl ws H) (q0 : Nat) (he : ws[q0]? = some (a, oX6 r5 r6 r8 r9 r10 r11 r19 r21 r27 r28 r34 r35 r36 r47 r48 f g)) (hv : f 41 = v) (hlink : Cond.fieldLink own index "WaxInEarsModel" "keptWax" "I" ∈ lw_good) (hdg : decode bc pc = .ok (.getfield index, 3)) (kk : W p l e R s m args below meth c H locs cells slots Q (F0 m (pc + 3) ls (.int v :: rest))) : W p l e R s m args below meth c H locs cells slots Q (F0 m pc ls (.ref a :: rest)) :=
  x_get E inX6 rfl 41 (by decide) (by rw [← hv]; rfl) hP q0 he hlink hdg kk
set_option maxRecDepth 4000 in
theorem px6_41 {r5 r6 r8 r9 r10 r11 r19 r21 r27 r28 r34 r35 r36 r47 r48 : Nat} {f : Nat → Int32} {g : Nat → Int64} {v : Int32} (E : xE p s m args meth c A D tys own bc nL ret) (hP : va_P D vwCl ws H) (hD : va_D A ws) (hS : va_S A s.heap H locs) (q0 : Nat) (he : ws[q0]? = some (a, oX6 r5 r6 r8 r9 r10 r11 r19 r21 r27 r28 r34 r35 r36 r47 r48 f g)) (hlink : Cond.fieldLink own index "WaxInEarsModel" "keptWax" "I" ∈ lw_good) (hdg : decode bc pc = .ok (.putfield index, 3)) (hw : ws.set q0 (a, oX6 r5 r6 r8 r9 r10 r11 r19 r21 r27 r28 r34 r35 r36 r47 r48 (upd f 41 v) g) = wn) (kk : ∀ (H1 : Heap) (locs1 : List Loc), va_P D vwCl wn H1 → va_D A wn → va_S A s.heap H1 locs1 → W p l e R s m args below meth c H1 locs1 cells slots Q (F0 m (pc + 3) ls rest)) : W p l e R s m args below meth c H locs cells slots Q (F0 m pc ls (.int v :: .ref a :: rest)) :=
  x_put E inX6 tyX6 tyX6_ok nmX6 rfl 41 (by decide) rfl rfl rfl (Nat.le_of_ble_eq_true rfl) rfl hP hD hS q0 he hlink hdg hw kk
theorem gx6_42 {r5 r6 r8 r9 r10 r11 r19 r21 r27 r28 r34 r35 r36 r47 r48 : Nat} {f : Nat → Int32} {g : Nat → Int64} {v : Int32} (E : xE p s m args meth c A D tys own bc nL ret) (hP : va_P D vwCl ws H) (q0 : Nat) (he : ws[q0]? = some (a, oX6 r5 r6 r8 r9 r10 r11 r19 r21 r27 r28 r34 r35 r36 r47 r48 f g)) (hv : f 42 = v) (hlink : Cond.fieldLink own index "WaxInEarsModel" "keptLost" "I" ∈ lw_good) (hdg : decode bc pc = .ok (.getfield index, 3)) (kk : W p l e R s m args below meth c H locs cells slots Q (F0 m (pc + 3) ls (.int v :: rest))) : W p l e R s m args below meth c H locs cells slots Q (F0 m pc ls (.ref a :: rest)) :=
  x_get E inX6 rfl 42 (by decide) (by rw [← hv]; rfl) hP q0 he hlink hdg kk
set_option maxRecDepth 4000 in
theorem px6_42 {r5 r6 r8 r9 r10 r11 r19 r21 r27 r28 r34 r35 r36 r47 r48 : Nat} {f : Nat → Int32} {g : Nat → Int64} {v : Int32} (E : xE p s m args meth c A D tys own bc nL ret) (hP : va_P D vwCl ws H) (hD : va_D A ws) (hS : va_S A s.heap H locs) (q0 : Nat) (he : ws[q0]? = some (a, oX6 r5 r6 r8 r9 r10 r11 r19 r21 r27 r28 r34 r35 r36 r47 r48 f g)) (hlink : Cond.fieldLink own index "WaxInEarsModel" "keptLost" "I" ∈ lw_good) (hdg : decode bc pc = .ok (.putfield index, 3)) (hw : ws.set q0 (a, oX6 r5 r6 r8 r9 r10 r11 r19 r21 r27 r28 r34 r35 r36 r47 r48 (upd f 42 v) g) = wn) (kk : ∀ (H1 : Heap) (locs1 : List Loc), va_P D vwCl wn H1 → va_D A wn → va_S A s.heap H1 locs1 → W p l e R s m args below meth c H1 locs1 cells slots Q (F0 m (pc + 3) ls rest)) : W p l e R s m args below meth c H locs cells slots Q (F0 m pc ls (.int v :: .ref a :: rest)) :=
  x_put E inX6 tyX6 tyX6_ok nmX6 rfl 42 (by decide) rfl rfl rfl (Nat.le_of_ble_eq_true rfl) rfl hP hD hS q0 he hlink hdg hw kk
theorem gx6_43 {r5 r6 r8 r9 r10 r11 r19 r21 r27 r28 r34 r35 r36 r47 r48 : Nat} {f : Nat → Int32} {g : Nat → Int64} {v : Int32} (E : xE p s m args meth c A D tys own bc nL ret) (hP : va_P D vwCl ws H) (q0 : Nat) (he : ws[q0]? = some (a, oX6 r5 r6 r8 r9 r10 r11 r19 r21 r27 r28 r34 r35 r36 r47 r48 f g)) (hv : f 43 = v) (hlink : Cond.fieldLink own index "WaxInEarsModel" "keptPlace" "I" ∈ lw_good) (hdg : decode bc pc = .ok (.getfield index, 3)) (kk : W p l e R s m args below meth c H locs cells slots Q (F0 m (pc + 3) ls (.int v :: rest))) : W p l e R s m args below meth c H locs cells slots Q (F0 m pc ls (.ref a :: rest)) :=
  x_get E inX6 rfl 43 (by decide) (by rw [← hv]; rfl) hP q0 he hlink hdg kk
set_option maxRecDepth 4000 in
theorem px6_43 {r5 r6 r8 r9 r10 r11 r19 r21 r27 r28 r34 r35 r36 r47 r48 : Nat} {f : Nat → Int32} {g : Nat → Int64} {v : Int32} (E : xE p s m args meth c A D tys own bc nL ret) (hP : va_P D vwCl ws H) (hD : va_D A ws) (hS : va_S A s.heap H locs) (q0 : Nat) (he : ws[q0]? = some (a, oX6 r5 r6 r8 r9 r10 r11 r19 r21 r27 r28 r34 r35 r36 r47 r48 f g)) (hlink : Cond.fieldLink own index "WaxInEarsModel" "keptPlace" "I" ∈ lw_good) (hdg : decode bc pc = .ok (.putfield index, 3)) (hw : ws.set q0 (a, oX6 r5 r6 r8 r9 r10 r11 r19 r21 r27 r28 r34 r35 r36 r47 r48 (upd f 43 v) g) = wn) (kk : ∀ (H1 : Heap) (locs1 : List Loc), va_P D vwCl wn H1 → va_D A wn → va_S A s.heap H1 locs1 → W p l e R s m args below meth c H1 locs1 cells slots Q (F0 m (pc + 3) ls rest)) : W p l e R s m args below meth c H locs cells slots Q (F0 m pc ls (.int v :: .ref a :: rest)) :=
  x_put E inX6 tyX6 tyX6_ok nmX6 rfl 43 (by decide) rfl rfl rfl (Nat.le_of_ble_eq_true rfl) rfl hP hD hS q0 he hlink hdg hw kk
theorem gx6_44 {r5 r6 r8 r9 r10 r11 r19 r21 r27 r28 r34 r35 r36 r47 r48 : Nat} {f : Nat → Int32} {g : Nat → Int64} {v : Int32} (E : xE p s m args meth c A D tys own bc nL ret) (hP : va_P D vwCl ws H) (q0 : Nat) (he : ws[q0]? = some (a, oX6 r5 r6 r8 r9 r10 r11 r19 r21 r27 r28 r34 r35 r36 r47 r48 f g)) (hv : f 44 = v) (hlink : Cond.fieldLink own index "WaxInEarsModel" "keptStroke" "I" ∈ lw_good) (hdg : decode bc pc = .ok (.getfield index, 3)) (kk : W p l e R s m args below meth c H locs cells slots Q (F0 m (pc + 3) ls (.int v :: rest))) : W p l e R s m args below meth c H locs cells slots Q (F0 m pc ls (.ref a :: rest)) :=
  x_get E inX6 rfl 44 (by decide) (by rw [← hv]; rfl) hP q0 he hlink hdg kk
set_option maxRecDepth 4000 in
theorem px6_44 {r5 r6 r8 r9 r10 r11 r19 r21 r27 r28 r34 r35 r36 r47 r48 : Nat} {f : Nat → Int32} {g : Nat → Int64} {v : Int32} (E : xE p s m args meth c A D tys own bc nL ret) (hP : va_P D vwCl ws H) (hD : va_D A ws) (hS : va_S A s.heap H locs) (q0 : Nat) (he : ws[q0]? = some (a, oX6 r5 r6 r8 r9 r10 r11 r19 r21 r27 r28 r34 r35 r36 r47 r48 f g)) (hlink : Cond.fieldLink own index "WaxInEarsModel" "keptStroke" "I" ∈ lw_good) (hdg : decode bc pc = .ok (.putfield index, 3)) (hw : ws.set q0 (a, oX6 r5 r6 r8 r9 r10 r11 r19 r21 r27 r28 r34 r35 r36 r47 r48 (upd f 44 v) g) = wn) (kk : ∀ (H1 : Heap) (locs1 : List Loc), va_P D vwCl wn H1 → va_D A wn → va_S A s.heap H1 locs1 → W p l e R s m args below meth c H1 locs1 cells slots Q (F0 m (pc + 3) ls rest)) : W p l e R s m args below meth c H locs cells slots Q (F0 m pc ls (.int v :: .ref a :: rest)) :=
  x_put E inX6 tyX6 tyX6_ok nmX6 rfl 44 (by decide) rfl rfl rfl (Nat.le_of_ble_eq_true rfl) rfl hP hD hS q0 he hlink hdg hw kk
theorem gx6_45 {r5 r6 r8 r9 r10 r11 r19 r21 r27 r28 r34 r35 r36 r47 r48 : Nat} {f : Nat → Int32} {g : Nat → Int64} {v : Int32} (E : xE p s m args meth c A D tys own bc nL ret) (hP : va_P D vwCl ws H) (q0 : Nat) (he : ws[q0]? = some (a, oX6 r5 r6 r8 r9 r10 r11 r19 r21 r27 r28 r34 r35 r36 r47 r48 f g)) (hv : f 45 = v) (hlink : Cond.fieldLink own index "WaxInEarsModel" "keptHow" "I" ∈ lw_good) (hdg : decode bc pc = .ok (.getfield index, 3)) (kk : W p l e R s m args below meth c H locs cells slots Q (F0 m (pc + 3) ls (.int v :: rest))) : W p l e R s m args below meth c H locs cells slots Q (F0 m pc ls (.ref a :: rest)) :=
  x_get E inX6 rfl 45 (by decide) (by rw [← hv]; rfl) hP q0 he hlink hdg kk
set_option maxRecDepth 4000 in
theorem px6_45 {r5 r6 r8 r9 r10 r11 r19 r21 r27 r28 r34 r35 r36 r47 r48 : Nat} {f : Nat → Int32} {g : Nat → Int64} {v : Int32} (E : xE p s m args meth c A D tys own bc nL ret) (hP : va_P D vwCl ws H) (hD : va_D A ws) (hS : va_S A s.heap H locs) (q0 : Nat) (he : ws[q0]? = some (a, oX6 r5 r6 r8 r9 r10 r11 r19 r21 r27 r28 r34 r35 r36 r47 r48 f g)) (hlink : Cond.fieldLink own index "WaxInEarsModel" "keptHow" "I" ∈ lw_good) (hdg : decode bc pc = .ok (.putfield index, 3)) (hw : ws.set q0 (a, oX6 r5 r6 r8 r9 r10 r11 r19 r21 r27 r28 r34 r35 r36 r47 r48 (upd f 45 v) g) = wn) (kk : ∀ (H1 : Heap) (locs1 : List Loc), va_P D vwCl wn H1 → va_D A wn → va_S A s.heap H1 locs1 → W p l e R s m args below meth c H1 locs1 cells slots Q (F0 m (pc + 3) ls rest)) : W p l e R s m args below meth c H locs cells slots Q (F0 m pc ls (.int v :: .ref a :: rest)) :=
  x_put E inX6 tyX6 tyX6_ok nmX6 rfl 45 (by decide) rfl rfl rfl (Nat.le_of_ble_eq_true rfl) rfl hP hD hS q0 he hlink hdg hw kk
theorem gx6_46 {r5 r6 r8 r9 r10 r11 r19 r21 r27 r28 r34 r35 r36 r47 r48 : Nat} {f : Nat → Int32} {g : Nat → Int64} {v : Int32} (E : xE p s m args meth c A D tys own bc nL ret) (hP : va_P D vwCl ws H) (q0 : Nat) (he : ws[q0]? = some (a, oX6 r5 r6 r8 r9 r10 r11 r19 r21 r27 r28 r34 r35 r36 r47 r48 f g)) (hv : f 46 = v) (hlink : Cond.fieldLink own index "WaxInEarsModel" "keptLogged" "I" ∈ lw_good) (hdg : decode bc pc = .ok (.getfield index, 3)) (kk : W p l e R s m args below meth c H locs cells slots Q (F0 m (pc + 3) ls (.int v :: rest))) : W p l e R s m args below meth c H locs cells slots Q (F0 m pc ls (.ref a :: rest)) :=
  x_get E inX6 rfl 46 (by decide) (by rw [← hv]; rfl) hP q0 he hlink hdg kk
set_option maxRecDepth 4000 in
theorem px6_46 {r5 r6 r8 r9 r10 r11 r19 r21 r27 r28 r34 r35 r36 r47 r48 : Nat} {f : Nat → Int32} {g : Nat → Int64} {v : Int32} (E : xE p s m args meth c A D tys own bc nL ret) (hP : va_P D vwCl ws H) (hD : va_D A ws) (hS : va_S A s.heap H locs) (q0 : Nat) (he : ws[q0]? = some (a, oX6 r5 r6 r8 r9 r10 r11 r19 r21 r27 r28 r34 r35 r36 r47 r48 f g)) (hlink : Cond.fieldLink own index "WaxInEarsModel" "keptLogged" "I" ∈ lw_good) (hdg : decode bc pc = .ok (.putfield index, 3)) (hw : ws.set q0 (a, oX6 r5 r6 r8 r9 r10 r11 r19 r21 r27 r28 r34 r35 r36 r47 r48 (upd f 46 v) g) = wn) (kk : ∀ (H1 : Heap) (locs1 : List Loc), va_P D vwCl wn H1 → va_D A wn → va_S A s.heap H1 locs1 → W p l e R s m args below meth c H1 locs1 cells slots Q (F0 m (pc + 3) ls rest)) : W p l e R s m args below meth c H locs cells slots Q (F0 m pc ls (.int v :: .ref a :: rest)) :=
  x_put E inX6 tyX6 tyX6_ok nmX6 rfl 46 (by decide) rfl rfl rfl (Nat.le_of_ble_eq_true rfl) rfl hP hD hS q0 he hlink hdg hw kk
theorem gx6_47 {r5 r6 r8 r9 r10 r11 r19 r21 r27 r28 r34 r35 r36 r47 r48 : Nat} {f : Nat → Int32} {g : Nat → Int64} (E : xE p s m args meth c A D tys own bc nL ret) (hP : va_P D vwCl ws H) (q0 : Nat) (he : ws[q0]? = some (a, oX6 r5 r6 r8 r9 r10 r11 r19 r21 r27 r28 r34 r35 r36 r47 r48 f g)) (hlink : Cond.fieldLink own index "WaxInEarsModel" "keptKnots" "[I" ∈ lw_good) (hdg : decode bc pc = .ok (.getfield index, 3)) (kk : W p l e R s m args below meth c H locs cells slots Q (F0 m (pc + 3) ls (.ref r47 :: rest))) : W p l e R s m args below meth c H locs cells slots Q (F0 m pc ls (.ref a :: rest)) :=
  x_get E inX6 rfl 47 (by decide) rfl hP q0 he hlink hdg kk
theorem gx6_48 {r5 r6 r8 r9 r10 r11 r19 r21 r27 r28 r34 r35 r36 r47 r48 : Nat} {f : Nat → Int32} {g : Nat → Int64} (E : xE p s m args meth c A D tys own bc nL ret) (hP : va_P D vwCl ws H) (q0 : Nat) (he : ws[q0]? = some (a, oX6 r5 r6 r8 r9 r10 r11 r19 r21 r27 r28 r34 r35 r36 r47 r48 f g)) (hlink : Cond.fieldLink own index "WaxInEarsModel" "keptLogOf" "[I" ∈ lw_good) (hdg : decode bc pc = .ok (.getfield index, 3)) (kk : W p l e R s m args below meth c H locs cells slots Q (F0 m (pc + 3) ls (.ref r48 :: rest))) : W p l e R s m args below meth c H locs cells slots Q (F0 m pc ls (.ref a :: rest)) :=
  x_get E inX6 rfl 48 (by decide) rfl hP q0 he hlink hdg kk
theorem gx6_49 {r5 r6 r8 r9 r10 r11 r19 r21 r27 r28 r34 r35 r36 r47 r48 : Nat} {f : Nat → Int32} {g : Nat → Int64} {v : Int64} (E : xE p s m args meth c A D tys own bc nL ret) (hP : va_P D vwCl ws H) (q0 : Nat) (he : ws[q0]? = some (a, oX6 r5 r6 r8 r9 r10 r11 r19 r21 r27 r28 r34 r35 r36 r47 r48 f g)) (hv : g 49 = v) (hlink : Cond.fieldLink own index "WaxInEarsModel" "h" "J" ∈ lw_good) (hdg : decode bc pc = .ok (.getfield index, 3)) (kk : W p l e R s m args below meth c H locs cells slots Q (F0 m (pc + 3) ls (.long v :: rest))) : W p l e R s m args below meth c H locs cells slots Q (F0 m pc ls (.ref a :: rest)) :=
  x_get E inX6 rfl 49 (by decide) (by rw [← hv]; rfl) hP q0 he hlink hdg kk
set_option maxRecDepth 4000 in
theorem px6_49 {r5 r6 r8 r9 r10 r11 r19 r21 r27 r28 r34 r35 r36 r47 r48 : Nat} {f : Nat → Int32} {g : Nat → Int64} {v : Int64} (E : xE p s m args meth c A D tys own bc nL ret) (hP : va_P D vwCl ws H) (hD : va_D A ws) (hS : va_S A s.heap H locs) (q0 : Nat) (he : ws[q0]? = some (a, oX6 r5 r6 r8 r9 r10 r11 r19 r21 r27 r28 r34 r35 r36 r47 r48 f g)) (hlink : Cond.fieldLink own index "WaxInEarsModel" "h" "J" ∈ lw_good) (hdg : decode bc pc = .ok (.putfield index, 3)) (hw : ws.set q0 (a, oX6 r5 r6 r8 r9 r10 r11 r19 r21 r27 r28 r34 r35 r36 r47 r48 f (vp_updL g 49 v)) = wn) (kk : ∀ (H1 : Heap) (locs1 : List Loc), va_P D vwCl wn H1 → va_D A wn → va_S A s.heap H1 locs1 → W p l e R s m args below meth c H1 locs1 cells slots Q (F0 m (pc + 3) ls rest)) : W p l e R s m args below meth c H locs cells slots Q (F0 m pc ls (.long v :: .ref a :: rest)) :=
  x_put E inX6 tyX6 tyX6_ok nmX6 rfl 49 (by decide) rfl rfl rfl (Nat.le_of_ble_eq_true rfl) rfl hP hD hS q0 he hlink hdg hw kk
end XF
end
section
/-! LAYER 1, made by wip/whole/gen.py: J6, X0, X1, X2, X3 -/
def X2_add (V_t : Nat → Int32) (V_t_letters : Nat → Int32) (P1 : Int32) : Option ((Nat → Int32) × (Nat → Int32)) := (if (V_t 1) < 0 then (some (V_t, V_t_letters)) else (if (30 : Int32) ≤ (V_t 1) then (some (V_t, V_t_letters)) else (if xin (V_t 1) 30 then (some ((upd V_t 1 ((V_t 1) + (1 : Int32))), (upd V_t_letters (V_t 1).toNatClampNeg P1))) else none)))
theorem ok_X2_add : xV yX2_add cX2_add 2 none 1 := ⟨tw_221, tw_219, tw_220, tw_51, by decide +kernel, by decide +kernel, by decide +kernel⟩
set_option maxHeartbeats 4000000 in
set_option maxRecDepth 100000 in
theorem c_X2_add (l : Launch) (D : va_G) (cI cB : ClassId) (A_t A_t_letters : Nat) (V_t : Nat → Int32) (V_t_letters : Nat → Int32) (P1 : Int32) (r : (Nat → Int32) × (Nat → Int32)) (hM : X2_add V_t V_t_letters P1 = some r) : xC l D (xT cI cB) yX2_add cX2_add 2 none { frames := 0, cells := 0, slots := 0, locals := 0 } [.ref A_t, .int P1] [(A_t, oX2 A_t_letters V_t), (A_t_letters, .inl (cI, 30, .inl V_t_letters))] none [(A_t, oX2 A_t_letters r.1), (A_t_letters, .inl (cI, 30, .inl r.2))] := by
  refine xC.of (by decide +kernel) (Nat.le_of_ble_eq_true rfl) (fun p e s m below meth c A ls E hP hD hS hl => ?_)
  obtain ⟨hx, hb, hr, hts, hown, hml, hlocks, hA, hK⟩ := id E
  replace hl : lv_has ls 2 [(0, .ref A_t), (1, .int P1)] := hl
  rw [X2_add] at hM
  refine lv_aload_n hx hb dX2_add_0 rfl (lv_at hl 0 rfl) ?_
  refine gx2_1 (v := (V_t 1)) E hP 0 rfl rfl tw_75 dX2_add_1 ?_
  refine lv_if_lt (tgt := 39) hx hb dX2_add_4 (by decide) (fun c3 => ?_) (fun c3 => ?_)
  · replace hM := og_p c3 hM
    obtain rfl := Option.some.inj hM
    exact x_vret E hP hD hS dX2_add_39
  · replace hM := og_n c3 hM
    refine lv_aload_n hx hb dX2_add_7 rfl (lv_at hl 0 rfl) ?_
    refine gx2_1 (v := (V_t 1)) E hP 0 rfl rfl tw_75 dX2_add_8 ?_
    refine lv_aload_n hx hb dX2_add_11 rfl (lv_at hl 0 rfl) ?_
    refine gx2_0 E hP 0 rfl tw_74 dX2_add_12 ?_
    refine x_alen (v := 30) E hP 1 rfl (by decide) dX2_add_15 ?_
    refine lv_icmp_ge (tgt := 39) hx hb dX2_add_16 (by decide) (fun c2 => ?_) (fun c2 => ?_)
    · replace hM := og_p c2 hM
      obtain rfl := Option.some.inj hM
      exact x_vret E hP hD hS dX2_add_39
    · replace hM := og_n c2 hM
      refine lv_aload_n hx hb dX2_add_19 rfl (lv_at hl 0 rfl) ?_
      refine gx2_0 E hP 0 rfl tw_74 dX2_add_20 ?_
      refine lv_aload_n hx hb dX2_add_23 rfl (lv_at hl 0 rfl) ?_
      refine gx2_1 (v := (V_t 1)) E hP 0 rfl rfl tw_75 dX2_add_24 ?_
      refine lv_iload_n hx hb dX2_add_27 rfl (lv_at hl 1 rfl) ?_
      obtain ⟨hi1, hM⟩ := og_g hM
      refine x_iast (wn := [(A_t, oX2 A_t_letters V_t), (A_t_letters, .inl (cI, 30, .inl (upd V_t_letters (V_t 1).toNatClampNeg P1)))]) E hi1 hP hD hS 1 rfl dX2_add_28 rfl (fun H locs hP hD hS => ?_)
      refine lv_aload_n hx hb dX2_add_29 rfl (lv_at hl 0 rfl) ?_
      refine lv_dup hx hb dX2_add_30 rfl ?_
      refine gx2_1 (v := (V_t 1)) E hP 0 rfl rfl tw_75 dX2_add_31 ?_
      refine lv_iconst (v := 1) hx hb dX2_add_34 (by decide) ?_
      refine lv_iadd hx hb dX2_add_35 ?_
      refine px2_1 (wn := [(A_t, oX2 A_t_letters (upd V_t 1 ((V_t 1) + (1 : Int32)))), (A_t_letters, .inl (cI, 30, .inl (upd V_t_letters (V_t 1).toNatClampNeg P1)))]) E hP hD hS 0 rfl tw_75 dX2_add_36 rfl (fun H locs hP hD hS => ?_)
      obtain rfl := Option.some.inj hM
      exact x_vret E hP hD hS dX2_add_39
def X2_codeAt (V_t : Nat → Int32) (V_t_letters : Nat → Int32) (P1 : Int32) : Option (Int32) := (if P1 < 0 then (some ((0 : Int32))) else (if (30 : Int32) ≤ P1 then (some ((0 : Int32))) else (if xin P1 30 then (some ((V_t_letters P1.toNatClampNeg))) else none)))
theorem ok_X2_codeAt : xV yX2_codeAt cX2_codeAt 2 (some .int) 1 := ⟨tw_237, tw_235, tw_236, tw_51, by decide +kernel, by decide +kernel, by decide +kernel⟩
set_option maxHeartbeats 4000000 in
set_option maxRecDepth 100000 in
theorem c_X2_codeAt (l : Launch) (D : va_G) (cI cB : ClassId) (A_t A_t_letters : Nat) (V_t : Nat → Int32) (V_t_letters : Nat → Int32) (P1 : Int32) (r : Int32) (hM : X2_codeAt V_t V_t_letters P1 = some r) : xC l D (xT cI cB) yX2_codeAt cX2_codeAt 2 (some .int) { frames := 0, cells := 0, slots := 0, locals := 0 } [.ref A_t, .int P1] [(A_t, oX2 A_t_letters V_t), (A_t_letters, .inl (cI, 30, .inl V_t_letters))] (some (.int r)) [(A_t, oX2 A_t_letters V_t), (A_t_letters, .inl (cI, 30, .inl V_t_letters))] := by
  refine xC.of (by decide +kernel) (Nat.le_of_ble_eq_true rfl) (fun p e s m below meth c A ls E hP hD hS hl => ?_)
  obtain ⟨hx, hb, hr, hts, hown, hml, hlocks, hA, hK⟩ := id E
  replace hl : lv_has ls 2 [(0, .ref A_t), (1, .int P1)] := hl
  rw [X2_codeAt] at hM
  refine lv_iload_n hx hb dX2_codeAt_0 rfl (lv_at hl 1 rfl) ?_
  refine lv_if_lt (tgt := 22) hx hb dX2_codeAt_1 (by decide) (fun c3 => ?_) (fun c3 => ?_)
  · replace hM := og_p c3 hM
    refine lv_iconst (v := 0) hx hb dX2_codeAt_22 (by decide) ?_
    obtain rfl := Option.some.inj hM
    exact x_iret E hP hD hS dX2_codeAt_23
  · replace hM := og_n c3 hM
    refine lv_iload_n hx hb dX2_codeAt_4 rfl (lv_at hl 1 rfl) ?_
    refine lv_aload_n hx hb dX2_codeAt_5 rfl (lv_at hl 0 rfl) ?_
    refine gx2_0 E hP 0 rfl tw_74 dX2_codeAt_6 ?_
    refine x_alen (v := 30) E hP 1 rfl (by decide) dX2_codeAt_9 ?_
    refine lv_icmp_ge (tgt := 22) hx hb dX2_codeAt_10 (by decide) (fun c2 => ?_) (fun c2 => ?_)
    · replace hM := og_p c2 hM
      refine lv_iconst (v := 0) hx hb dX2_codeAt_22 (by decide) ?_
      obtain rfl := Option.some.inj hM
      exact x_iret E hP hD hS dX2_codeAt_23
    · replace hM := og_n c2 hM
      refine lv_aload_n hx hb dX2_codeAt_13 rfl (lv_at hl 0 rfl) ?_
      refine gx2_0 E hP 0 rfl tw_74 dX2_codeAt_14 ?_
      refine lv_iload_n hx hb dX2_codeAt_17 rfl (lv_at hl 1 rfl) ?_
      obtain ⟨hi1, hM⟩ := og_g hM
      refine x_iald E hi1 hP 1 rfl dX2_codeAt_18 ?_
      refine lv_goto (tgt := 23) hx hb dX2_codeAt_19 (by decide) ?_
      obtain rfl := Option.some.inj hM
      exact x_iret E hP hD hS dX2_codeAt_23
def X2_isInHead (V_t : Nat → Int32) (V_t_letters : Nat → Int32) (P1 : Int32) (P2 : Int32) : Option (Bool) := (if P1 = 0 then (if P2 < (48 : Int32) then (some (false)) else (if (52 : Int32) < P2 then (some (false)) else (some (true)))) else (if P1 = 1 then (if P2 < (48 : Int32) then (some (false)) else ((X2_codeAt V_t V_t_letters (0 : Int32)).bind fun u5 => (if u5 = (52 : Int32) then (if (53 : Int32) < P2 then (some (false)) else (some (true))) else (if (57 : Int32) < P2 then (some (false)) else (some (true)))))) else (if P1 = 2 then (if P2 < (49 : Int32) then (some (false)) else (if (57 : Int32) < P2 then (some (false)) else (some (true)))) else (if P2 = (58 : Int32) then (some (true)) else (some (false))))))
theorem ok_X2_isInHead : xV yX2_isInHead cX2_isInHead 3 (some .boolean) 2 := ⟨tw_241, tw_240, tw_0, tw_51, by decide +kernel, by decide +kernel, by decide +kernel⟩
set_option maxHeartbeats 4000000 in
set_option maxRecDepth 100000 in
theorem c_X2_isInHead (l : Launch) (D : va_G) (cI cB : ClassId) (A_t A_t_letters : Nat) (V_t : Nat → Int32) (V_t_letters : Nat → Int32) (P1 : Int32) (P2 : Int32) (r : Bool) (hM : X2_isInHead V_t V_t_letters P1 P2 = some r) : xC l D (xT cI cB) yX2_isInHead cX2_isInHead 3 (some .boolean) { frames := 1, cells := 0, slots := 0, locals := 21 } [.ref A_t, .int P1, .int P2] [(A_t, oX2 A_t_letters V_t), (A_t_letters, .inl (cI, 30, .inl V_t_letters))] (some (.int (bz r))) [(A_t, oX2 A_t_letters V_t), (A_t_letters, .inl (cI, 30, .inl V_t_letters))] := by
  refine xC.of (by decide +kernel) (Nat.le_of_ble_eq_true rfl) (fun p e s m below meth c A ls E hP hD hS hl => ?_)
  obtain ⟨hx, hb, hr, hts, hown, hml, hlocks, hA, hK⟩ := id E
  replace hl : lv_has ls 3 [(0, .ref A_t), (1, .int P1), (2, .int P2)] := hl
  rw [X2_isInHead] at hM
  refine lv_iload_n hx hb dX2_isInHead_0 rfl (lv_at hl 1 rfl) ?_
  by_cases c1 : P1 = 0
  · replace hM := og_p c1 hM
    refine lv_tableIn (tgt := 28) hx hb dX2_isInHead_1 (by rw [c1]; decide) (by rw [c1]; decide) (by rw [c1]; rfl) (by decide) ?_
    refine lv_iload_n hx hb dX2_isInHead_28 rfl (lv_at hl 2 rfl) ?_
    refine lv_bipush (v := 48) hx hb dX2_isInHead_29 (by decide) ?_
    refine lv_icmp_lt (tgt := 44) hx hb dX2_isInHead_31 (by decide) (fun c3 => ?_) (fun c3 => ?_)
    · replace hM := og_p c3 hM
      refine lv_iconst (v := 0) hx hb dX2_isInHead_44 (by decide) ?_
      obtain rfl := Option.some.inj hM
      exact x_zret (b := false) E hP hD hS dX2_isInHead_45
    · replace hM := og_n c3 hM
      refine lv_iload_n hx hb dX2_isInHead_34 rfl (lv_at hl 2 rfl) ?_
      refine lv_bipush (v := 52) hx hb dX2_isInHead_35 (by decide) ?_
      refine lv_icmp_gt (tgt := 44) hx hb dX2_isInHead_37 (by decide) (fun c2 => ?_) (fun c2 => ?_)
      · replace hM := og_p c2 hM
        refine lv_iconst (v := 0) hx hb dX2_isInHead_44 (by decide) ?_
        obtain rfl := Option.some.inj hM
        exact x_zret (b := false) E hP hD hS dX2_isInHead_45
      · replace hM := og_n c2 hM
        refine lv_iconst (v := 1) hx hb dX2_isInHead_40 (by decide) ?_
        refine lv_goto (tgt := 45) hx hb dX2_isInHead_41 (by decide) ?_
        obtain rfl := Option.some.inj hM
        exact x_zret (b := true) E hP hD hS dX2_isInHead_45
  replace hM := og_n c1 hM
  by_cases c4 : P1 = 1
  · replace hM := og_p c4 hM
    refine lv_tableIn (tgt := 46) hx hb dX2_isInHead_1 (by rw [c4]; decide) (by rw [c4]; decide) (by rw [c4]; rfl) (by decide) ?_
    refine lv_iload_n hx hb dX2_isInHead_46 rfl (lv_at hl 2 rfl) ?_
    refine lv_bipush (v := 48) hx hb dX2_isInHead_47 (by decide) ?_
    refine lv_icmp_lt (tgt := 77) hx hb dX2_isInHead_49 (by decide) (fun c10 => ?_) (fun c10 => ?_)
    · replace hM := og_p c10 hM
      refine lv_iconst (v := 0) hx hb dX2_isInHead_77 (by decide) ?_
      obtain rfl := Option.some.inj hM
      exact x_zret (b := false) E hP hD hS dX2_isInHead_78
    · replace hM := og_n c10 hM
      refine lv_iload_n hx hb dX2_isInHead_52 rfl (lv_at hl 2 rfl) ?_
      refine lv_aload_n hx hb dX2_isInHead_53 rfl (lv_at hl 0 rfl) ?_
      refine lv_iconst (v := 0) hx hb dX2_isInHead_54 (by decide) ?_
      obtain ⟨u5, hu6, hM⟩ := og_b hM
      refine x_Vi (n := 1) (q0 := 0) (rest := [.int P2]) (wn := [(A_t, oX2 A_t_letters V_t), (A_t_letters, .inl (cI, 30, .inl V_t_letters))]) E (c_X2_codeAt l D cI cB A_t A_t_letters V_t V_t_letters (0 : Int32) u5 hu6) ok_X2_codeAt tw_234 ⟨rfl, rfl⟩ ⟨Nat.le_of_ble_eq_true rfl, Nat.le_of_ble_eq_true rfl⟩ rfl rfl (Nat.le_of_ble_eq_true rfl) hl dX2_isInHead_55 ⟨Nat.zero_le _, Nat.zero_le _⟩ hP hD hS [0, 1] [] [] [A_t, A_t_letters] 2 rfl rfl rfl rfl rfl rfl rfl (by decide +kernel) rfl rfl rfl (fun H locs hP hD hS => ?_)
      refine lv_bipush (v := 52) hx hb dX2_isInHead_58 (by decide) ?_
      refine lv_icmp_ne (tgt := 68) hx hb dX2_isInHead_60 (by decide) (fun c9 => ?_) (fun c9 => ?_)
      · replace hM := og_n c9 hM
        refine lv_bipush (v := 57) hx hb dX2_isInHead_68 (by decide) ?_
        refine lv_icmp_gt (tgt := 77) hx hb dX2_isInHead_70 (by decide) (fun c7 => ?_) (fun c7 => ?_)
        · replace hM := og_p c7 hM
          refine lv_iconst (v := 0) hx hb dX2_isInHead_77 (by decide) ?_
          obtain rfl := Option.some.inj hM
          exact x_zret (b := false) E hP hD hS dX2_isInHead_78
        · replace hM := og_n c7 hM
          refine lv_iconst (v := 1) hx hb dX2_isInHead_73 (by decide) ?_
          refine lv_goto (tgt := 78) hx hb dX2_isInHead_74 (by decide) ?_
          obtain rfl := Option.some.inj hM
          exact x_zret (b := true) E hP hD hS dX2_isInHead_78
      · replace hM := og_p c9 hM
        refine lv_bipush (v := 53) hx hb dX2_isInHead_63 (by decide) ?_
        refine lv_goto (tgt := 70) hx hb dX2_isInHead_65 (by decide) ?_
        refine lv_icmp_gt (tgt := 77) hx hb dX2_isInHead_70 (by decide) (fun c8 => ?_) (fun c8 => ?_)
        · replace hM := og_p c8 hM
          refine lv_iconst (v := 0) hx hb dX2_isInHead_77 (by decide) ?_
          obtain rfl := Option.some.inj hM
          exact x_zret (b := false) E hP hD hS dX2_isInHead_78
        · replace hM := og_n c8 hM
          refine lv_iconst (v := 1) hx hb dX2_isInHead_73 (by decide) ?_
          refine lv_goto (tgt := 78) hx hb dX2_isInHead_74 (by decide) ?_
          obtain rfl := Option.some.inj hM
          exact x_zret (b := true) E hP hD hS dX2_isInHead_78
  replace hM := og_n c4 hM
  by_cases c11 : P1 = 2
  · replace hM := og_p c11 hM
    refine lv_tableIn (tgt := 79) hx hb dX2_isInHead_1 (by rw [c11]; decide) (by rw [c11]; decide) (by rw [c11]; rfl) (by decide) ?_
    refine lv_iload_n hx hb dX2_isInHead_79 rfl (lv_at hl 2 rfl) ?_
    refine lv_bipush (v := 49) hx hb dX2_isInHead_80 (by decide) ?_
    refine lv_icmp_lt (tgt := 95) hx hb dX2_isInHead_82 (by decide) (fun c13 => ?_) (fun c13 => ?_)
    · replace hM := og_p c13 hM
      refine lv_iconst (v := 0) hx hb dX2_isInHead_95 (by decide) ?_
      obtain rfl := Option.some.inj hM
      exact x_zret (b := false) E hP hD hS dX2_isInHead_96
    · replace hM := og_n c13 hM
      refine lv_iload_n hx hb dX2_isInHead_85 rfl (lv_at hl 2 rfl) ?_
      refine lv_bipush (v := 57) hx hb dX2_isInHead_86 (by decide) ?_
      refine lv_icmp_gt (tgt := 95) hx hb dX2_isInHead_88 (by decide) (fun c12 => ?_) (fun c12 => ?_)
      · replace hM := og_p c12 hM
        refine lv_iconst (v := 0) hx hb dX2_isInHead_95 (by decide) ?_
        obtain rfl := Option.some.inj hM
        exact x_zret (b := false) E hP hD hS dX2_isInHead_96
      · replace hM := og_n c12 hM
        refine lv_iconst (v := 1) hx hb dX2_isInHead_91 (by decide) ?_
        refine lv_goto (tgt := 96) hx hb dX2_isInHead_92 (by decide) ?_
        obtain rfl := Option.some.inj hM
        exact x_zret (b := true) E hP hD hS dX2_isInHead_96
  replace hM := og_n c11 hM
  have tc1 := lv_neT (a := 0) c1 (by decide)
  have tc4 := lv_neT (a := 1) c4 (by decide)
  have tc11 := lv_neT (a := 2) c11 (by decide)
  refine lv_tableOut (tgt := 97) hx hb dX2_isInHead_1 (by omega) (by decide) ?_
  refine lv_iload_n hx hb dX2_isInHead_97 rfl (lv_at hl 2 rfl) ?_
  refine lv_bipush (v := 58) hx hb dX2_isInHead_98 (by decide) ?_
  refine lv_icmp_ne (tgt := 107) hx hb dX2_isInHead_100 (by decide) (fun c14 => ?_) (fun c14 => ?_)
  · replace hM := og_n c14 hM
    refine lv_iconst (v := 0) hx hb dX2_isInHead_107 (by decide) ?_
    obtain rfl := Option.some.inj hM
    exact x_zret (b := false) E hP hD hS dX2_isInHead_108
  · replace hM := og_p c14 hM
    refine lv_iconst (v := 1) hx hb dX2_isInHead_103 (by decide) ?_
    refine lv_goto (tgt := 108) hx hb dX2_isInHead_104 (by decide) ?_
    obtain rfl := Option.some.inj hM
    exact x_zret (b := true) E hP hD hS dX2_isInHead_108
def X2_isSong (P1 : Int32) : Option (Bool) := (if P1 = (115 : Int32) then (some (true)) else (if P1 = (98 : Int32) then (some (true)) else (some (false))))
theorem ok_X2_isSong : xSt yX2_isSong cX2_isSong 1 (some .boolean) 1 := ⟨tw_247, tw_246, tw_51, by decide +kernel, by decide +kernel, by decide +kernel⟩
set_option maxHeartbeats 4000000 in
set_option maxRecDepth 100000 in
theorem c_X2_isSong (l : Launch) (D : va_G) (cI cB : ClassId) (P1 : Int32) (r : Bool) (hM : X2_isSong P1 = some r) : xC l D (xT cI cB) yX2_isSong cX2_isSong 1 (some .boolean) { frames := 0, cells := 0, slots := 0, locals := 0 } [.int P1] [] (some (.int (bz r))) [] := by
  refine xC.of (by decide +kernel) (Nat.le_of_ble_eq_true rfl) (fun p e s m below meth c A ls E hP hD hS hl => ?_)
  obtain ⟨hx, hb, hr, hts, hown, hml, hlocks, hA, hK⟩ := id E
  replace hl : lv_has ls 1 [(0, .int P1)] := hl
  rw [X2_isSong] at hM
  refine lv_iload_n hx hb dX2_isSong_0 rfl (lv_at hl 0 rfl) ?_
  refine lv_bipush (v := 115) hx hb dX2_isSong_1 (by decide) ?_
  refine lv_icmp_eq (tgt := 12) hx hb dX2_isSong_3 (by decide) (fun c2 => ?_) (fun c2 => ?_)
  · replace hM := og_p c2 hM
    refine lv_iconst (v := 1) hx hb dX2_isSong_12 (by decide) ?_
    refine lv_goto (tgt := 17) hx hb dX2_isSong_13 (by decide) ?_
    obtain rfl := Option.some.inj hM
    exact x_zret (b := true) E hP hD hS dX2_isSong_17
  · replace hM := og_n c2 hM
    refine lv_iload_n hx hb dX2_isSong_6 rfl (lv_at hl 0 rfl) ?_
    refine lv_bipush (v := 98) hx hb dX2_isSong_7 (by decide) ?_
    refine lv_icmp_ne (tgt := 16) hx hb dX2_isSong_9 (by decide) (fun c1 => ?_) (fun c1 => ?_)
    · replace hM := og_n c1 hM
      refine lv_iconst (v := 0) hx hb dX2_isSong_16 (by decide) ?_
      obtain rfl := Option.some.inj hM
      exact x_zret (b := false) E hP hD hS dX2_isSong_17
    · replace hM := og_p c1 hM
      refine lv_iconst (v := 1) hx hb dX2_isSong_12 (by decide) ?_
      refine lv_goto (tgt := 17) hx hb dX2_isSong_13 (by decide) ?_
      obtain rfl := Option.some.inj hM
      exact x_zret (b := true) E hP hD hS dX2_isSong_17
def X2_beginsPlace (P1 : Int32) : Option (Bool) := (if P1 = (46 : Int32) then (some (true)) else (if P1 = (114 : Int32) then (some (true)) else (if P1 = (101 : Int32) then (some (true)) else ((X2_isSong P1).bind fun u1 => (if (bz u1) = 0 then (some (false)) else (some (true)))))))
theorem ok_X2_beginsPlace : xSt yX2_beginsPlace cX2_beginsPlace 1 (some .boolean) 1 := ⟨tw_244, tw_243, tw_51, by decide +kernel, by decide +kernel, by decide +kernel⟩
set_option maxHeartbeats 4000000 in
set_option maxRecDepth 100000 in
theorem c_X2_beginsPlace (l : Launch) (D : va_G) (cI cB : ClassId) (P1 : Int32) (r : Bool) (hM : X2_beginsPlace P1 = some r) : xC l D (xT cI cB) yX2_beginsPlace cX2_beginsPlace 1 (some .boolean) { frames := 1, cells := 0, slots := 0, locals := 20 } [.int P1] [] (some (.int (bz r))) [] := by
  refine xC.of (by decide +kernel) (Nat.le_of_ble_eq_true rfl) (fun p e s m below meth c A ls E hP hD hS hl => ?_)
  obtain ⟨hx, hb, hr, hts, hown, hml, hlocks, hA, hK⟩ := id E
  replace hl : lv_has ls 1 [(0, .int P1)] := hl
  rw [X2_beginsPlace] at hM
  refine lv_iload_n hx hb dX2_beginsPlace_0 rfl (lv_at hl 0 rfl) ?_
  refine lv_bipush (v := 46) hx hb dX2_beginsPlace_1 (by decide) ?_
  refine lv_icmp_eq (tgt := 25) hx hb dX2_beginsPlace_3 (by decide) (fun c6 => ?_) (fun c6 => ?_)
  · replace hM := og_p c6 hM
    refine lv_iconst (v := 1) hx hb dX2_beginsPlace_25 (by decide) ?_
    refine lv_goto (tgt := 30) hx hb dX2_beginsPlace_26 (by decide) ?_
    obtain rfl := Option.some.inj hM
    exact x_zret (b := true) E hP hD hS dX2_beginsPlace_30
  · replace hM := og_n c6 hM
    refine lv_iload_n hx hb dX2_beginsPlace_6 rfl (lv_at hl 0 rfl) ?_
    refine lv_bipush (v := 114) hx hb dX2_beginsPlace_7 (by decide) ?_
    refine lv_icmp_eq (tgt := 25) hx hb dX2_beginsPlace_9 (by decide) (fun c5 => ?_) (fun c5 => ?_)
    · replace hM := og_p c5 hM
      refine lv_iconst (v := 1) hx hb dX2_beginsPlace_25 (by decide) ?_
      refine lv_goto (tgt := 30) hx hb dX2_beginsPlace_26 (by decide) ?_
      obtain rfl := Option.some.inj hM
      exact x_zret (b := true) E hP hD hS dX2_beginsPlace_30
    · replace hM := og_n c5 hM
      refine lv_iload_n hx hb dX2_beginsPlace_12 rfl (lv_at hl 0 rfl) ?_
      refine lv_bipush (v := 101) hx hb dX2_beginsPlace_13 (by decide) ?_
      refine lv_icmp_eq (tgt := 25) hx hb dX2_beginsPlace_15 (by decide) (fun c4 => ?_) (fun c4 => ?_)
      · replace hM := og_p c4 hM
        refine lv_iconst (v := 1) hx hb dX2_beginsPlace_25 (by decide) ?_
        refine lv_goto (tgt := 30) hx hb dX2_beginsPlace_26 (by decide) ?_
        obtain rfl := Option.some.inj hM
        exact x_zret (b := true) E hP hD hS dX2_beginsPlace_30
      · replace hM := og_n c4 hM
        refine lv_iload_n hx hb dX2_beginsPlace_18 rfl (lv_at hl 0 rfl) ?_
        obtain ⟨u1, hu2, hM⟩ := og_b hM
        refine x_Si (n := 1) (rest := []) (wn := []) E (c_X2_isSong l D cI cB P1 u1 hu2) ok_X2_isSong tw_245 ⟨rfl, rfl⟩ ⟨Nat.le_of_ble_eq_true rfl, Nat.le_of_ble_eq_true rfl⟩ rfl rfl (Nat.le_of_ble_eq_true rfl) hl dX2_beginsPlace_19 ⟨Nat.zero_le _, Nat.zero_le _⟩ hP hD hS [] [] [] [] 0 rfl rfl rfl rfl rfl rfl rfl (by decide +kernel) (fun H locs hP hD hS => ?_)
        refine lv_if_eq (tgt := 29) hx hb dX2_beginsPlace_22 (by decide) (fun c3 => ?_) (fun c3 => ?_)
        · replace hM := og_p c3 hM
          refine lv_iconst (v := 0) hx hb dX2_beginsPlace_29 (by decide) ?_
          obtain rfl := Option.some.inj hM
          exact x_zret (b := false) E hP hD hS dX2_beginsPlace_30
        · replace hM := og_n c3 hM
          refine lv_iconst (v := 1) hx hb dX2_beginsPlace_25 (by decide) ?_
          refine lv_goto (tgt := 30) hx hb dX2_beginsPlace_26 (by decide) ?_
          obtain rfl := Option.some.inj hM
          exact x_zret (b := true) E hP hD hS dX2_beginsPlace_30
def X2_firstFault_6 (n : Nat) (V_t : Nat → Int32) (V_t_letters : Nat → Int32) : Nat → Int32 → Int32 → Int32 → Option (Int32)
  | 0, _, _, _ => none
  | k + 1, L1, L2, L3 => (if (V_t 1) ≤ L3 then (some ((V_t 1))) else ((X2_codeAt V_t V_t_letters L3).bind fun u1 => (if (4 : Int32) ≤ L3 then (if L2 = 0 then (if (12 : Int32) ≤ L1 then (some (L3)) else ((X2_beginsPlace u1).bind fun u3 => (if (bz u3) = 0 then (some (L3)) else ((X2_isSong u1).bind fun u5 => (X2_firstFault_6 n V_t V_t_letters k (L1 + 1) (bz u5) (L3 + 1)))))) else (if u1 < (49 : Int32) then (some (L3)) else (if u1 ≤ (57 : Int32) then (X2_firstFault_6 n V_t V_t_letters k L1 (0 : Int32) (L3 + 1)) else (some (L3))))) else ((X2_isInHead V_t V_t_letters L3 u1).bind fun u12 => (if (bz u12) = 0 then (some (L3)) else (X2_firstFault_6 n V_t V_t_letters k L1 L2 (L3 + 1)))))))
set_option maxHeartbeats 4000000 in
set_option maxRecDepth 100000 in
theorem lp_X2_firstFault_6 (n : Nat) (l : Launch) (D : va_G) (cI cB : ClassId) (A_t A_t_letters : Nat) (V_t : Nat → Int32) (V_t_letters : Nat → Int32) (r : Int32) {p : Program} {e : Env} {s : State} {m : MethodId} {args : Array Value} {below : List Frame} {meth : Method} {c : Code} {A : Nat → Prop} (E : xE p s m args meth c A D (xT cI cB) RX2 cX2_firstFault 5 (some .int)) :
    ∀ (k : Nat) (L1 : Int32) (L2 : Int32) (L3 : Int32), X2_firstFault_6 n V_t V_t_letters k L1 L2 L3 = some r → ∀ (H : Heap) (locs : List Loc) (ls : Array Slot), va_P D vwCl [(A_t, oX2 A_t_letters V_t), (A_t_letters, .inl (cI, 30, .inl V_t_letters))] H → va_D A [(A_t, oX2 A_t_letters V_t), (A_t_letters, .inl (cI, 30, .inl V_t_letters))] → va_S A s.heap H locs → lv_has ls 5 [(0, .ref A_t), (1, .int L1), (2, .int L2), (3, .int L3)] → W p l e { frames := 2, cells := 0, slots := 0, locals := 43 } s m args below meth c H locs 0 0 (MQ below (xQ D (xT cI cB) [(A_t, oX2 A_t_letters V_t), (A_t_letters, .inl (cI, 30, .inl V_t_letters))] (some (.int r)) A) args s 0 0 A) (F0 m 6 ls []) := by
  obtain ⟨hx, hb, hr, hts, hown, hml, hlocks, hA, hK⟩ := id E
  intro k
  induction k with
  | zero =>
    intro L1 L2 L3 hM
    rw [X2_firstFault_6] at hM
    cases hM
  | succ k ih =>
    intro L1 L2 L3 hM H locs ls hP hD hS hl
    rw [X2_firstFault_6] at hM
    refine lv_iload_n hx hb dX2_firstFault_6 rfl (lv_at hl 3 rfl) ?_
    refine lv_aload_n hx hb dX2_firstFault_7 rfl (lv_at hl 0 rfl) ?_
    refine gx2_1 (v := (V_t 1)) E hP 0 rfl rfl tw_75 dX2_firstFault_8 ?_
    refine lv_icmp_ge (tgt := 94) hx hb dX2_firstFault_11 (by decide) (fun c16 => ?_) (fun c16 => ?_)
    · replace hM := og_p c16 hM
      refine lv_aload_n hx hb dX2_firstFault_94 rfl (lv_at hl 0 rfl) ?_
      refine gx2_1 (v := (V_t 1)) E hP 0 rfl rfl tw_75 dX2_firstFault_95 ?_
      obtain rfl := Option.some.inj hM
      exact x_iret E hP hD hS dX2_firstFault_98
    · replace hM := og_n c16 hM
      refine lv_aload_n hx hb dX2_firstFault_14 rfl (lv_at hl 0 rfl) ?_
      refine lv_iload_n hx hb dX2_firstFault_15 rfl (lv_at hl 3 rfl) ?_
      obtain ⟨u1, hu2, hM⟩ := og_b hM
      refine x_Vi (n := 1) (q0 := 0) (rest := []) (wn := [(A_t, oX2 A_t_letters V_t), (A_t_letters, .inl (cI, 30, .inl V_t_letters))]) E (c_X2_codeAt l D cI cB A_t A_t_letters V_t V_t_letters L3 u1 hu2) ok_X2_codeAt tw_234 ⟨rfl, rfl⟩ ⟨Nat.le_of_ble_eq_true rfl, Nat.le_of_ble_eq_true rfl⟩ rfl rfl (Nat.le_of_ble_eq_true rfl) hl dX2_firstFault_16 ⟨Nat.zero_le _, Nat.zero_le _⟩ hP hD hS [0, 1] [] [] [A_t, A_t_letters] 2 rfl rfl rfl rfl rfl rfl rfl (by decide +kernel) rfl rfl rfl (fun H locs hP hD hS => ?_)
      refine lv_istore (lv' := [(4, .int u1), (0, .ref A_t), (1, .int L1), (2, .int L2), (3, .int L3)]) hx hb dX2_firstFault_19 hl (by decide) rfl (fun ls hl => ?_)
      refine lv_iload_n hx hb dX2_firstFault_21 rfl (lv_at hl 4 rfl) ?_
      refine lv_iconst (v := 4) hx hb dX2_firstFault_22 (by decide) ?_
      refine lv_icmp_ge (tgt := 38) hx hb dX2_firstFault_23 (by decide) (fun c15 => ?_) (fun c15 => ?_)
      · replace hM := og_p c15 hM
        refine lv_iload_n hx hb dX2_firstFault_38 rfl (lv_at hl 3 rfl) ?_
        refine lv_if_eq (tgt := 63) hx hb dX2_firstFault_39 (by decide) (fun c11 => ?_) (fun c11 => ?_)
        · replace hM := og_p c11 hM
          refine lv_iload_n hx hb dX2_firstFault_63 rfl (lv_at hl 2 rfl) ?_
          refine lv_bipush (v := 12) hx hb dX2_firstFault_64 (by decide) ?_
          refine lv_icmp_ge (tgt := 77) hx hb dX2_firstFault_66 (by decide) (fun c8 => ?_) (fun c8 => ?_)
          · replace hM := og_p c8 hM
            refine lv_iload_n hx hb dX2_firstFault_77 rfl (lv_at hl 4 rfl) ?_
            obtain rfl := Option.some.inj hM
            exact x_iret E hP hD hS dX2_firstFault_78
          · replace hM := og_n c8 hM
            refine lv_iload hx hb dX2_firstFault_69 (lv_at hl 0 rfl) ?_
            obtain ⟨u3, hu4, hM⟩ := og_b hM
            refine x_Si (n := 1) (rest := []) (wn := [(A_t, oX2 A_t_letters V_t), (A_t_letters, .inl (cI, 30, .inl V_t_letters))]) E (c_X2_beginsPlace l D cI cB u1 u3 hu4) ok_X2_beginsPlace tw_242 ⟨rfl, rfl⟩ ⟨Nat.le_of_ble_eq_true rfl, Nat.le_of_ble_eq_true rfl⟩ rfl rfl (Nat.le_of_ble_eq_true rfl) hl dX2_firstFault_71 ⟨Nat.zero_le _, Nat.zero_le _⟩ hP hD hS [] [0, 1] [(A_t, oX2 A_t_letters V_t), (A_t_letters, .inl (cI, 30, .inl V_t_letters))] [A_t, A_t_letters] 2 rfl rfl rfl rfl rfl rfl rfl (by decide +kernel) (fun H locs hP hD hS => ?_)
            refine lv_if_ne (tgt := 79) hx hb dX2_firstFault_74 (by decide) (fun c7 => ?_) (fun c7 => ?_)
            · replace hM := og_n c7 hM
              refine lv_iinc (v := (L1 + 1)) (lv' := [(1, .int (L1 + 1)), (4, .int u1), (0, .ref A_t), (2, .int L2), (3, .int L3)]) hx hb dX2_firstFault_79 hl (k := 2) rfl rfl (by decide) rfl (fun ls hl => ?_)
              refine lv_iload hx hb dX2_firstFault_82 (lv_at hl 1 rfl) ?_
              obtain ⟨u5, hu6, hM⟩ := og_b hM
              refine x_Si (n := 1) (rest := []) (wn := [(A_t, oX2 A_t_letters V_t), (A_t_letters, .inl (cI, 30, .inl V_t_letters))]) E (c_X2_isSong l D cI cB u1 u5 hu6) ok_X2_isSong tw_245 ⟨rfl, rfl⟩ ⟨Nat.le_of_ble_eq_true rfl, Nat.le_of_ble_eq_true rfl⟩ rfl rfl (Nat.le_of_ble_eq_true rfl) hl dX2_firstFault_84 ⟨Nat.zero_le _, Nat.zero_le _⟩ hP hD hS [] [0, 1] [(A_t, oX2 A_t_letters V_t), (A_t_letters, .inl (cI, 30, .inl V_t_letters))] [A_t, A_t_letters] 2 rfl rfl rfl rfl rfl rfl rfl (by decide +kernel) (fun H locs hP hD hS => ?_)
              refine lv_istore_n (lv' := [(2, .int (bz u5)), (1, .int (L1 + 1)), (4, .int u1), (0, .ref A_t), (3, .int L3)]) hx hb dX2_firstFault_87 rfl hl (by decide) rfl (fun ls hl => ?_)
              refine lv_iinc (v := (L3 + 1)) (lv' := [(3, .int (L3 + 1)), (2, .int (bz u5)), (1, .int (L1 + 1)), (4, .int u1), (0, .ref A_t)]) hx hb dX2_firstFault_88 hl (k := 4) rfl rfl (by decide) rfl (fun ls hl => ?_)
              refine lv_goto (tgt := 6) hx hb dX2_firstFault_91 (by decide) ?_
              exact ih (L1 + 1) (bz u5) (L3 + 1) hM _ _ _ hP hD hS (lv_sub hl [4, 2, 1, 0] rfl)
            · replace hM := og_p c7 hM
              refine lv_iload_n hx hb dX2_firstFault_77 rfl (lv_at hl 4 rfl) ?_
              obtain rfl := Option.some.inj hM
              exact x_iret E hP hD hS dX2_firstFault_78
        · replace hM := og_n c11 hM
          refine lv_iload hx hb dX2_firstFault_42 (lv_at hl 0 rfl) ?_
          refine lv_bipush (v := 49) hx hb dX2_firstFault_44 (by decide) ?_
          refine lv_icmp_lt (tgt := 56) hx hb dX2_firstFault_46 (by decide) (fun c10 => ?_) (fun c10 => ?_)
          · replace hM := og_p c10 hM
            refine lv_iload_n hx hb dX2_firstFault_56 rfl (lv_at hl 4 rfl) ?_
            obtain rfl := Option.some.inj hM
            exact x_iret E hP hD hS dX2_firstFault_57
          · replace hM := og_n c10 hM
            refine lv_iload hx hb dX2_firstFault_49 (lv_at hl 0 rfl) ?_
            refine lv_bipush (v := 57) hx hb dX2_firstFault_51 (by decide) ?_
            refine lv_icmp_le (tgt := 58) hx hb dX2_firstFault_53 (by decide) (fun c9 => ?_) (fun c9 => ?_)
            · replace hM := og_p c9 hM
              refine lv_iconst (v := 0) hx hb dX2_firstFault_58 (by decide) ?_
              refine lv_istore_n (lv' := [(2, .int (0 : Int32)), (4, .int u1), (0, .ref A_t), (1, .int L1), (3, .int L3)]) hx hb dX2_firstFault_59 rfl hl (by decide) rfl (fun ls hl => ?_)
              refine lv_goto (tgt := 88) hx hb dX2_firstFault_60 (by decide) ?_
              refine lv_iinc (v := (L3 + 1)) (lv' := [(3, .int (L3 + 1)), (2, .int (0 : Int32)), (4, .int u1), (0, .ref A_t), (1, .int L1)]) hx hb dX2_firstFault_88 hl (k := 4) rfl rfl (by decide) rfl (fun ls hl => ?_)
              refine lv_goto (tgt := 6) hx hb dX2_firstFault_91 (by decide) ?_
              exact ih L1 (0 : Int32) (L3 + 1) hM _ _ _ hP hD hS (lv_sub hl [3, 4, 1, 0] rfl)
            · replace hM := og_n c9 hM
              refine lv_iload_n hx hb dX2_firstFault_56 rfl (lv_at hl 4 rfl) ?_
              obtain rfl := Option.some.inj hM
              exact x_iret E hP hD hS dX2_firstFault_57
      · replace hM := og_n c15 hM
        refine lv_aload_n hx hb dX2_firstFault_26 rfl (lv_at hl 1 rfl) ?_
        refine lv_iload_n hx hb dX2_firstFault_27 rfl (lv_at hl 4 rfl) ?_
        refine lv_iload hx hb dX2_firstFault_28 (lv_at hl 0 rfl) ?_
        obtain ⟨u12, hu13, hM⟩ := og_b hM
        refine x_Vi (n := 2) (q0 := 0) (rest := []) (wn := [(A_t, oX2 A_t_letters V_t), (A_t_letters, .inl (cI, 30, .inl V_t_letters))]) E (c_X2_isInHead l D cI cB A_t A_t_letters V_t V_t_letters L3 u1 u12 hu13) ok_X2_isInHead tw_238 ⟨rfl, rfl⟩ ⟨Nat.le_of_ble_eq_true rfl, Nat.le_of_ble_eq_true rfl⟩ rfl rfl (Nat.le_of_ble_eq_true rfl) hl dX2_firstFault_30 ⟨Nat.zero_le _, Nat.zero_le _⟩ hP hD hS [0, 1] [] [] [A_t, A_t_letters] 2 rfl rfl rfl rfl rfl rfl rfl (by decide +kernel) rfl rfl rfl (fun H locs hP hD hS => ?_)
        refine lv_if_ne (tgt := 88) hx hb dX2_firstFault_33 (by decide) (fun c14 => ?_) (fun c14 => ?_)
        · replace hM := og_n c14 hM
          refine lv_iinc (v := (L3 + 1)) (lv' := [(3, .int (L3 + 1)), (4, .int u1), (0, .ref A_t), (1, .int L1), (2, .int L2)]) hx hb dX2_firstFault_88 hl (k := 4) rfl rfl (by decide) rfl (fun ls hl => ?_)
          refine lv_goto (tgt := 6) hx hb dX2_firstFault_91 (by decide) ?_
          exact ih L1 L2 (L3 + 1) hM _ _ _ hP hD hS (lv_sub hl [2, 3, 4, 0] rfl)
        · replace hM := og_p c14 hM
          refine lv_iload_n hx hb dX2_firstFault_36 rfl (lv_at hl 4 rfl) ?_
          obtain rfl := Option.some.inj hM
          exact x_iret E hP hD hS dX2_firstFault_37
def X2_firstFault (n : Nat) (V_t : Nat → Int32) (V_t_letters : Nat → Int32) : Option (Int32) := (X2_firstFault_6 n V_t V_t_letters n (0 : Int32) (0 : Int32) (0 : Int32))
theorem ok_X2_firstFault : xV yX2_firstFault cX2_firstFault 5 (some .int) 0 := ⟨tw_233, tw_231, tw_232, tw_51, by decide +kernel, by decide +kernel, by decide +kernel⟩
set_option maxHeartbeats 4000000 in
set_option maxRecDepth 100000 in
theorem c_X2_firstFault (n : Nat) (l : Launch) (D : va_G) (cI cB : ClassId) (A_t A_t_letters : Nat) (V_t : Nat → Int32) (V_t_letters : Nat → Int32) (r : Int32) (hM : X2_firstFault n V_t V_t_letters = some r) : xC l D (xT cI cB) yX2_firstFault cX2_firstFault 5 (some .int) { frames := 2, cells := 0, slots := 0, locals := 43 } [.ref A_t] [(A_t, oX2 A_t_letters V_t), (A_t_letters, .inl (cI, 30, .inl V_t_letters))] (some (.int r)) [(A_t, oX2 A_t_letters V_t), (A_t_letters, .inl (cI, 30, .inl V_t_letters))] := by
  refine xC.of (by decide +kernel) (Nat.le_of_ble_eq_true rfl) (fun p e s m below meth c A ls E hP hD hS hl => ?_)
  obtain ⟨hx, hb, hr, hts, hown, hml, hlocks, hA, hK⟩ := id E
  replace hl : lv_has ls 5 [(0, .ref A_t)] := hl
  rw [X2_firstFault] at hM
  refine lv_iconst (v := 0) hx hb dX2_firstFault_0 (by decide) ?_
  refine lv_istore_n (lv' := [(1, .int (0 : Int32)), (0, .ref A_t)]) hx hb dX2_firstFault_1 rfl hl (by decide) rfl (fun ls hl => ?_)
  refine lv_iconst (v := 0) hx hb dX2_firstFault_2 (by decide) ?_
  refine lv_istore_n (lv' := [(2, .int (0 : Int32)), (1, .int (0 : Int32)), (0, .ref A_t)]) hx hb dX2_firstFault_3 rfl hl (by decide) rfl (fun ls hl => ?_)
  refine lv_iconst (v := 0) hx hb dX2_firstFault_4 (by decide) ?_
  refine lv_istore_n (lv' := [(3, .int (0 : Int32)), (2, .int (0 : Int32)), (1, .int (0 : Int32)), (0, .ref A_t)]) hx hb dX2_firstFault_5 rfl hl (by decide) rfl (fun ls hl => ?_)
  exact lp_X2_firstFault_6 n l D cI cB A_t A_t_letters V_t V_t_letters r E n (0 : Int32) (0 : Int32) (0 : Int32) hM _ _ _ hP hD hS (lv_sub hl [3, 2, 1, 0] rfl)
def X2_isPassage (n : Nat) (V_t : Nat → Int32) (V_t_letters : Nat → Int32) : Option (Bool) := (if (V_t 1) ≤ (4 : Int32) then (some (false)) else ((X2_firstFault n V_t V_t_letters).bind fun u1 => (if u1 = (V_t 1) then ((X2_codeAt V_t V_t_letters ((V_t 1) - (1 : Int32))).bind fun u3 => ((X2_isSong u3).bind fun u5 => (if (bz u5) = 0 then (some (true)) else (some (false))))) else (some (false)))))
theorem ok_X2_isPassage : xV yX2_isPassage cX2_isPassage 1 (some .boolean) 0 := ⟨tw_255, tw_253, tw_254, tw_51, by decide +kernel, by decide +kernel, by decide +kernel⟩
set_option maxHeartbeats 4000000 in
set_option maxRecDepth 100000 in
theorem c_X2_isPassage (n : Nat) (l : Launch) (D : va_G) (cI cB : ClassId) (A_t A_t_letters : Nat) (V_t : Nat → Int32) (V_t_letters : Nat → Int32) (r : Bool) (hM : X2_isPassage n V_t V_t_letters = some r) : xC l D (xT cI cB) yX2_isPassage cX2_isPassage 1 (some .boolean) { frames := 3, cells := 0, slots := 0, locals := 67 } [.ref A_t] [(A_t, oX2 A_t_letters V_t), (A_t_letters, .inl (cI, 30, .inl V_t_letters))] (some (.int (bz r))) [(A_t, oX2 A_t_letters V_t), (A_t_letters, .inl (cI, 30, .inl V_t_letters))] := by
  refine xC.of (by decide +kernel) (Nat.le_of_ble_eq_true rfl) (fun p e s m below meth c A ls E hP hD hS hl => ?_)
  obtain ⟨hx, hb, hr, hts, hown, hml, hlocks, hA, hK⟩ := id E
  replace hl : lv_has ls 1 [(0, .ref A_t)] := hl
  rw [X2_isPassage] at hM
  refine lv_aload_n hx hb dX2_isPassage_0 rfl (lv_at hl 0 rfl) ?_
  refine gx2_1 (v := (V_t 1)) E hP 0 rfl rfl tw_75 dX2_isPassage_1 ?_
  refine lv_iconst (v := 4) hx hb dX2_isPassage_4 (by decide) ?_
  refine lv_icmp_le (tgt := 39) hx hb dX2_isPassage_5 (by decide) (fun c9 => ?_) (fun c9 => ?_)
  · replace hM := og_p c9 hM
    refine lv_iconst (v := 0) hx hb dX2_isPassage_39 (by decide) ?_
    obtain rfl := Option.some.inj hM
    exact x_zret (b := false) E hP hD hS dX2_isPassage_40
  · replace hM := og_n c9 hM
    refine lv_aload_n hx hb dX2_isPassage_8 rfl (lv_at hl 0 rfl) ?_
    obtain ⟨u1, hu2, hM⟩ := og_b hM
    refine x_Vi (n := 0) (q0 := 0) (rest := []) (wn := [(A_t, oX2 A_t_letters V_t), (A_t_letters, .inl (cI, 30, .inl V_t_letters))]) E (c_X2_firstFault n l D cI cB A_t A_t_letters V_t V_t_letters u1 hu2) ok_X2_firstFault tw_256 ⟨rfl, rfl⟩ ⟨Nat.le_of_ble_eq_true rfl, Nat.le_of_ble_eq_true rfl⟩ rfl rfl (Nat.le_of_ble_eq_true rfl) hl dX2_isPassage_9 ⟨Nat.zero_le _, Nat.zero_le _⟩ hP hD hS [0, 1] [] [] [A_t, A_t_letters] 2 rfl rfl rfl rfl rfl rfl rfl (by decide +kernel) rfl rfl rfl (fun H locs hP hD hS => ?_)
    refine lv_aload_n hx hb dX2_isPassage_12 rfl (lv_at hl 0 rfl) ?_
    refine gx2_1 (v := (V_t 1)) E hP 0 rfl rfl tw_75 dX2_isPassage_13 ?_
    refine lv_icmp_ne (tgt := 39) hx hb dX2_isPassage_16 (by decide) (fun c8 => ?_) (fun c8 => ?_)
    · replace hM := og_n c8 hM
      refine lv_iconst (v := 0) hx hb dX2_isPassage_39 (by decide) ?_
      obtain rfl := Option.some.inj hM
      exact x_zret (b := false) E hP hD hS dX2_isPassage_40
    · replace hM := og_p c8 hM
      refine lv_aload_n hx hb dX2_isPassage_19 rfl (lv_at hl 0 rfl) ?_
      refine lv_aload_n hx hb dX2_isPassage_20 rfl (lv_at hl 0 rfl) ?_
      refine gx2_1 (v := (V_t 1)) E hP 0 rfl rfl tw_75 dX2_isPassage_21 ?_
      refine lv_iconst (v := 1) hx hb dX2_isPassage_24 (by decide) ?_
      refine lv_isub hx hb dX2_isPassage_25 ?_
      obtain ⟨u3, hu4, hM⟩ := og_b hM
      refine x_Vi (n := 1) (q0 := 0) (rest := []) (wn := [(A_t, oX2 A_t_letters V_t), (A_t_letters, .inl (cI, 30, .inl V_t_letters))]) E (c_X2_codeAt l D cI cB A_t A_t_letters V_t V_t_letters ((V_t 1) - (1 : Int32)) u3 hu4) ok_X2_codeAt tw_234 ⟨rfl, rfl⟩ ⟨Nat.le_of_ble_eq_true rfl, Nat.le_of_ble_eq_true rfl⟩ rfl rfl (Nat.le_of_ble_eq_true rfl) hl dX2_isPassage_26 ⟨Nat.zero_le _, Nat.zero_le _⟩ hP hD hS [0, 1] [] [] [A_t, A_t_letters] 2 rfl rfl rfl rfl rfl rfl rfl (by decide +kernel) rfl rfl rfl (fun H locs hP hD hS => ?_)
      obtain ⟨u5, hu6, hM⟩ := og_b hM
      refine x_Si (n := 1) (rest := []) (wn := [(A_t, oX2 A_t_letters V_t), (A_t_letters, .inl (cI, 30, .inl V_t_letters))]) E (c_X2_isSong l D cI cB u3 u5 hu6) ok_X2_isSong tw_245 ⟨rfl, rfl⟩ ⟨Nat.le_of_ble_eq_true rfl, Nat.le_of_ble_eq_true rfl⟩ rfl rfl (Nat.le_of_ble_eq_true rfl) hl dX2_isPassage_29 ⟨Nat.zero_le _, Nat.zero_le _⟩ hP hD hS [] [0, 1] [(A_t, oX2 A_t_letters V_t), (A_t_letters, .inl (cI, 30, .inl V_t_letters))] [A_t, A_t_letters] 2 rfl rfl rfl rfl rfl rfl rfl (by decide +kernel) (fun H locs hP hD hS => ?_)
      refine lv_if_ne (tgt := 39) hx hb dX2_isPassage_32 (by decide) (fun c7 => ?_) (fun c7 => ?_)
      · replace hM := og_n c7 hM
        refine lv_iconst (v := 0) hx hb dX2_isPassage_39 (by decide) ?_
        obtain rfl := Option.some.inj hM
        exact x_zret (b := false) E hP hD hS dX2_isPassage_40
      · replace hM := og_p c7 hM
        refine lv_iconst (v := 1) hx hb dX2_isPassage_35 (by decide) ?_
        refine lv_goto (tgt := 40) hx hb dX2_isPassage_36 (by decide) ?_
        obtain rfl := Option.some.inj hM
        exact x_zret (b := true) E hP hD hS dX2_isPassage_40
def X3_setSong (V_t : Nat → Int32) (V_t_songs : Nat → Int32) (P1 : Int32) (P2 : Int32) : Option ((Nat → Int32)) := (if P1 < 0 then (some (V_t_songs)) else (if (12 : Int32) ≤ P1 then (some (V_t_songs)) else (if xin P1 12 then (some ((upd V_t_songs P1.toNatClampNeg P2))) else none)))
theorem ok_X3_setSong : xV yX3_setSong cX3_setSong 3 none 2 := ⟨tw_265, tw_264, tw_1, tw_52, by decide +kernel, by decide +kernel, by decide +kernel⟩
set_option maxHeartbeats 4000000 in
set_option maxRecDepth 100000 in
theorem c_X3_setSong (l : Launch) (D : va_G) (cI cB : ClassId) (A_t A_t_songs A_t_rocks : Nat) (V_t : Nat → Int32) (V_t_songs : Nat → Int32) (P1 : Int32) (P2 : Int32) (r : (Nat → Int32)) (hM : X3_setSong V_t V_t_songs P1 P2 = some r) : xC l D (xT cI cB) yX3_setSong cX3_setSong 3 none { frames := 0, cells := 0, slots := 0, locals := 0 } [.ref A_t, .int P1, .int P2] [(A_t, oX3 A_t_songs A_t_rocks V_t), (A_t_songs, .inl (cI, 12, .inl V_t_songs))] none [(A_t, oX3 A_t_songs A_t_rocks V_t), (A_t_songs, .inl (cI, 12, .inl r))] := by
  refine xC.of (by decide +kernel) (Nat.le_of_ble_eq_true rfl) (fun p e s m below meth c A ls E hP hD hS hl => ?_)
  obtain ⟨hx, hb, hr, hts, hown, hml, hlocks, hA, hK⟩ := id E
  replace hl : lv_has ls 3 [(0, .ref A_t), (1, .int P1), (2, .int P2)] := hl
  rw [X3_setSong] at hM
  refine lv_iload_n hx hb dX3_setSong_0 rfl (lv_at hl 1 rfl) ?_
  refine lv_if_lt (tgt := 17) hx hb dX3_setSong_1 (by decide) (fun c3 => ?_) (fun c3 => ?_)
  · replace hM := og_p c3 hM
    obtain rfl := Option.some.inj hM
    exact x_vret E hP hD hS dX3_setSong_17
  · replace hM := og_n c3 hM
    refine lv_iload_n hx hb dX3_setSong_4 rfl (lv_at hl 1 rfl) ?_
    refine lv_bipush (v := 12) hx hb dX3_setSong_5 (by decide) ?_
    refine lv_icmp_ge (tgt := 17) hx hb dX3_setSong_7 (by decide) (fun c2 => ?_) (fun c2 => ?_)
    · replace hM := og_p c2 hM
      obtain rfl := Option.some.inj hM
      exact x_vret E hP hD hS dX3_setSong_17
    · replace hM := og_n c2 hM
      refine lv_aload_n hx hb dX3_setSong_10 rfl (lv_at hl 0 rfl) ?_
      refine gx3_0 E hP 0 rfl tw_90 dX3_setSong_11 ?_
      refine lv_iload_n hx hb dX3_setSong_14 rfl (lv_at hl 1 rfl) ?_
      refine lv_iload_n hx hb dX3_setSong_15 rfl (lv_at hl 2 rfl) ?_
      obtain ⟨hi1, hM⟩ := og_g hM
      refine x_iast (wn := [(A_t, oX3 A_t_songs A_t_rocks V_t), (A_t_songs, .inl (cI, 12, .inl (upd V_t_songs P1.toNatClampNeg P2)))]) E hi1 hP hD hS 1 rfl dX3_setSong_16 rfl (fun H locs hP hD hS => ?_)
      obtain rfl := Option.some.inj hM
      exact x_vret E hP hD hS dX3_setSong_17
def X3_rockBy (P1 : Int32) : Option (Int32) := (if P1 = (114 : Int32) then (some ((1 : Int32))) else (if P1 = (98 : Int32) then (some ((1 : Int32))) else (if P1 = (101 : Int32) then (some ((2 : Int32))) else (some ((0 : Int32))))))
theorem ok_X3_rockBy : xSt yX3_rockBy cX3_rockBy 1 (some .int) 1 := ⟨tw_268, tw_267, tw_52, by decide +kernel, by decide +kernel, by decide +kernel⟩
set_option maxHeartbeats 4000000 in
set_option maxRecDepth 100000 in
theorem c_X3_rockBy (l : Launch) (D : va_G) (cI cB : ClassId) (P1 : Int32) (r : Int32) (hM : X3_rockBy P1 = some r) : xC l D (xT cI cB) yX3_rockBy cX3_rockBy 1 (some .int) { frames := 0, cells := 0, slots := 0, locals := 0 } [.int P1] [] (some (.int r)) [] := by
  refine xC.of (by decide +kernel) (Nat.le_of_ble_eq_true rfl) (fun p e s m below meth c A ls E hP hD hS hl => ?_)
  obtain ⟨hx, hb, hr, hts, hown, hml, hlocks, hA, hK⟩ := id E
  replace hl : lv_has ls 1 [(0, .int P1)] := hl
  rw [X3_rockBy] at hM
  refine lv_iload_n hx hb dX3_rockBy_0 rfl (lv_at hl 0 rfl) ?_
  refine lv_bipush (v := 114) hx hb dX3_rockBy_1 (by decide) ?_
  refine lv_icmp_eq (tgt := 12) hx hb dX3_rockBy_3 (by decide) (fun c3 => ?_) (fun c3 => ?_)
  · replace hM := og_p c3 hM
    refine lv_iconst (v := 1) hx hb dX3_rockBy_12 (by decide) ?_
    obtain rfl := Option.some.inj hM
    exact x_iret E hP hD hS dX3_rockBy_13
  · replace hM := og_n c3 hM
    refine lv_iload_n hx hb dX3_rockBy_6 rfl (lv_at hl 0 rfl) ?_
    refine lv_bipush (v := 98) hx hb dX3_rockBy_7 (by decide) ?_
    refine lv_icmp_ne (tgt := 14) hx hb dX3_rockBy_9 (by decide) (fun c2 => ?_) (fun c2 => ?_)
    · replace hM := og_n c2 hM
      refine lv_iload_n hx hb dX3_rockBy_14 rfl (lv_at hl 0 rfl) ?_
      refine lv_bipush (v := 101) hx hb dX3_rockBy_15 (by decide) ?_
      refine lv_icmp_ne (tgt := 24) hx hb dX3_rockBy_17 (by decide) (fun c1 => ?_) (fun c1 => ?_)
      · replace hM := og_n c1 hM
        refine lv_iconst (v := 0) hx hb dX3_rockBy_24 (by decide) ?_
        obtain rfl := Option.some.inj hM
        exact x_iret E hP hD hS dX3_rockBy_25
      · replace hM := og_p c1 hM
        refine lv_iconst (v := 2) hx hb dX3_rockBy_20 (by decide) ?_
        refine lv_goto (tgt := 25) hx hb dX3_rockBy_21 (by decide) ?_
        obtain rfl := Option.some.inj hM
        exact x_iret E hP hD hS dX3_rockBy_25
    · replace hM := og_p c2 hM
      refine lv_iconst (v := 1) hx hb dX3_rockBy_12 (by decide) ?_
      obtain rfl := Option.some.inj hM
      exact x_iret E hP hD hS dX3_rockBy_13
def X3_addPlace (V_t : Nat → Int32) (V_t_songs : Nat → Int32) (V_t_rocks : Nat → Int32) (P1 : Int32) : Option ((Nat → Int32) × (Nat → Int32) × (Nat → Int32)) := (if (V_t 4) < 0 then (some (V_t, V_t_songs, V_t_rocks)) else (if (12 : Int32) ≤ (V_t 4) then (some (V_t, V_t_songs, V_t_rocks)) else (if xin (V_t 4) 12 then (if xin (V_t 4) 12 then (some ((upd V_t 4 ((V_t 4) + (1 : Int32))), (upd V_t_songs (V_t 4).toNatClampNeg (0 : Int32)), (upd V_t_rocks (V_t 4).toNatClampNeg P1))) else none) else none)))
theorem ok_X3_addPlace : xV yX3_addPlace cX3_addPlace 2 none 1 := ⟨tw_272, tw_271, tw_2, tw_52, by decide +kernel, by decide +kernel, by decide +kernel⟩
set_option maxHeartbeats 4000000 in
set_option maxRecDepth 100000 in
theorem c_X3_addPlace (l : Launch) (D : va_G) (cI cB : ClassId) (A_t A_t_songs A_t_rocks : Nat) (V_t : Nat → Int32) (V_t_songs : Nat → Int32) (V_t_rocks : Nat → Int32) (P1 : Int32) (r : (Nat → Int32) × (Nat → Int32) × (Nat → Int32)) (hM : X3_addPlace V_t V_t_songs V_t_rocks P1 = some r) : xC l D (xT cI cB) yX3_addPlace cX3_addPlace 2 none { frames := 0, cells := 0, slots := 0, locals := 0 } [.ref A_t, .int P1] [(A_t, oX3 A_t_songs A_t_rocks V_t), (A_t_songs, .inl (cI, 12, .inl V_t_songs)), (A_t_rocks, .inl (cI, 12, .inl V_t_rocks))] none [(A_t, oX3 A_t_songs A_t_rocks r.1), (A_t_songs, .inl (cI, 12, .inl r.2.1)), (A_t_rocks, .inl (cI, 12, .inl r.2.2))] := by
  refine xC.of (by decide +kernel) (Nat.le_of_ble_eq_true rfl) (fun p e s m below meth c A ls E hP hD hS hl => ?_)
  obtain ⟨hx, hb, hr, hts, hown, hml, hlocks, hA, hK⟩ := id E
  replace hl : lv_has ls 2 [(0, .ref A_t), (1, .int P1)] := hl
  rw [X3_addPlace] at hM
  refine lv_aload_n hx hb dX3_addPlace_0 rfl (lv_at hl 0 rfl) ?_
  refine gx3_4 (v := (V_t 4)) E hP 0 rfl rfl tw_98 dX3_addPlace_1 ?_
  refine lv_if_lt (tgt := 46) hx hb dX3_addPlace_4 (by decide) (fun c4 => ?_) (fun c4 => ?_)
  · replace hM := og_p c4 hM
    obtain rfl := Option.some.inj hM
    exact x_vret E hP hD hS dX3_addPlace_46
  · replace hM := og_n c4 hM
    refine lv_aload_n hx hb dX3_addPlace_7 rfl (lv_at hl 0 rfl) ?_
    refine gx3_4 (v := (V_t 4)) E hP 0 rfl rfl tw_98 dX3_addPlace_8 ?_
    refine lv_bipush (v := 12) hx hb dX3_addPlace_11 (by decide) ?_
    refine lv_icmp_ge (tgt := 46) hx hb dX3_addPlace_13 (by decide) (fun c3 => ?_) (fun c3 => ?_)
    · replace hM := og_p c3 hM
      obtain rfl := Option.some.inj hM
      exact x_vret E hP hD hS dX3_addPlace_46
    · replace hM := og_n c3 hM
      refine lv_aload_n hx hb dX3_addPlace_16 rfl (lv_at hl 0 rfl) ?_
      refine gx3_0 E hP 0 rfl tw_90 dX3_addPlace_17 ?_
      refine lv_aload_n hx hb dX3_addPlace_20 rfl (lv_at hl 0 rfl) ?_
      refine gx3_4 (v := (V_t 4)) E hP 0 rfl rfl tw_98 dX3_addPlace_21 ?_
      refine lv_iconst (v := 0) hx hb dX3_addPlace_24 (by decide) ?_
      obtain ⟨hi1, hM⟩ := og_g hM
      refine x_iast (wn := [(A_t, oX3 A_t_songs A_t_rocks V_t), (A_t_songs, .inl (cI, 12, .inl (upd V_t_songs (V_t 4).toNatClampNeg (0 : Int32)))), (A_t_rocks, .inl (cI, 12, .inl V_t_rocks))]) E hi1 hP hD hS 1 rfl dX3_addPlace_25 rfl (fun H locs hP hD hS => ?_)
      refine lv_aload_n hx hb dX3_addPlace_26 rfl (lv_at hl 0 rfl) ?_
      refine gx3_1 E hP 0 rfl tw_91 dX3_addPlace_27 ?_
      refine lv_aload_n hx hb dX3_addPlace_30 rfl (lv_at hl 0 rfl) ?_
      refine gx3_4 (v := (V_t 4)) E hP 0 rfl rfl tw_98 dX3_addPlace_31 ?_
      refine lv_iload_n hx hb dX3_addPlace_34 rfl (lv_at hl 1 rfl) ?_
      obtain ⟨hi2, hM⟩ := og_g hM
      refine x_iast (wn := [(A_t, oX3 A_t_songs A_t_rocks V_t), (A_t_songs, .inl (cI, 12, .inl (upd V_t_songs (V_t 4).toNatClampNeg (0 : Int32)))), (A_t_rocks, .inl (cI, 12, .inl (upd V_t_rocks (V_t 4).toNatClampNeg P1)))]) E hi2 hP hD hS 2 rfl dX3_addPlace_35 rfl (fun H locs hP hD hS => ?_)
      refine lv_aload_n hx hb dX3_addPlace_36 rfl (lv_at hl 0 rfl) ?_
      refine lv_dup hx hb dX3_addPlace_37 rfl ?_
      refine gx3_4 (v := (V_t 4)) E hP 0 rfl rfl tw_98 dX3_addPlace_38 ?_
      refine lv_iconst (v := 1) hx hb dX3_addPlace_41 (by decide) ?_
      refine lv_iadd hx hb dX3_addPlace_42 ?_
      refine px3_4 (wn := [(A_t, oX3 A_t_songs A_t_rocks (upd V_t 4 ((V_t 4) + (1 : Int32)))), (A_t_songs, .inl (cI, 12, .inl (upd V_t_songs (V_t 4).toNatClampNeg (0 : Int32)))), (A_t_rocks, .inl (cI, 12, .inl (upd V_t_rocks (V_t 4).toNatClampNeg P1)))]) E hP hD hS 0 rfl tw_98 dX3_addPlace_43 rfl (fun H locs hP hD hS => ?_)
      obtain rfl := Option.some.inj hM
      exact x_vret E hP hD hS dX3_addPlace_46
def X3_read_43 (n : Nat) (V_p1 : Nat → Int32) (V_p1_letters : Nat → Int32) : Nat → (Nat → Int32) → (Nat → Int32) → (Nat → Int32) → Int32 → Option ((Nat → Int32) × (Nat → Int32) × (Nat → Int32))
  | 0, _, _, _, _ => none
  | k + 1, V_t, V_t_songs, V_t_rocks, L2 => (if (V_p1 1) ≤ L2 then (some (V_t, V_t_songs, V_t_rocks)) else ((X2_codeAt V_p1 V_p1_letters L2).bind fun u7 => (if u7 < (49 : Int32) then ((X3_rockBy u7).bind fun u9 => ((X3_addPlace V_t V_t_songs V_t_rocks u9).bind fun u11 => (X3_read_43 n V_p1 V_p1_letters k u11.1 u11.2.1 u11.2.2 (L2 + 1)))) else (if (57 : Int32) < u7 then ((X3_rockBy u7).bind fun u13 => ((X3_addPlace V_t V_t_songs V_t_rocks u13).bind fun u15 => (X3_read_43 n V_p1 V_p1_letters k u15.1 u15.2.1 u15.2.2 (L2 + 1)))) else ((X3_setSong V_t V_t_songs ((V_t 4) - (1 : Int32)) (u7 - (48 : Int32))).bind fun u17 => (X3_read_43 n V_p1 V_p1_letters k V_t u17 V_t_rocks (L2 + 1)))))))
set_option maxHeartbeats 4000000 in
set_option maxRecDepth 100000 in
theorem lp_X3_read_43 (n : Nat) (l : Launch) (D : va_G) (cI cB : ClassId) (A_t A_t_songs A_t_rocks A_p1 A_p1_letters : Nat) (V_p1 : Nat → Int32) (V_p1_letters : Nat → Int32) (r : (Nat → Int32) × (Nat → Int32) × (Nat → Int32)) {p : Program} {e : Env} {s : State} {m : MethodId} {args : Array Value} {below : List Frame} {meth : Method} {c : Code} {A : Nat → Prop} (E : xE p s m args meth c A D (xT cI cB) RX3 cX3_read 4 none) :
    ∀ (k : Nat) (V_t : Nat → Int32) (V_t_songs : Nat → Int32) (V_t_rocks : Nat → Int32) (L2 : Int32), X3_read_43 n V_p1 V_p1_letters k V_t V_t_songs V_t_rocks L2 = some r → ∀ (H : Heap) (locs : List Loc) (ls : Array Slot), va_P D vwCl [(A_t, oX3 A_t_songs A_t_rocks V_t), (A_t_songs, .inl (cI, 12, .inl V_t_songs)), (A_t_rocks, .inl (cI, 12, .inl V_t_rocks)), (A_p1, oX2 A_p1_letters V_p1), (A_p1_letters, .inl (cI, 30, .inl V_p1_letters))] H → va_D A [(A_t, oX3 A_t_songs A_t_rocks V_t), (A_t_songs, .inl (cI, 12, .inl V_t_songs)), (A_t_rocks, .inl (cI, 12, .inl V_t_rocks)), (A_p1, oX2 A_p1_letters V_p1), (A_p1_letters, .inl (cI, 30, .inl V_p1_letters))] → va_S A s.heap H locs → lv_has ls 4 [(0, .ref A_t), (1, .ref A_p1), (2, .int L2)] → W p l e { frames := 1, cells := 0, slots := 0, locals := 22 } s m args below meth c H locs 0 0 (MQ below (xQ D (xT cI cB) [(A_t, oX3 A_t_songs A_t_rocks r.1), (A_t_songs, .inl (cI, 12, .inl r.2.1)), (A_t_rocks, .inl (cI, 12, .inl r.2.2)), (A_p1, oX2 A_p1_letters V_p1), (A_p1_letters, .inl (cI, 30, .inl V_p1_letters))] none A) args s 0 0 A) (F0 m 43 ls []) := by
  obtain ⟨hx, hb, hr, hts, hown, hml, hlocks, hA, hK⟩ := id E
  intro k
  induction k with
  | zero =>
    intro V_t V_t_songs V_t_rocks L2 hM
    rw [X3_read_43] at hM
    cases hM
  | succ k ih =>
    intro V_t V_t_songs V_t_rocks L2 hM H locs ls hP hD hS hl
    rw [X3_read_43] at hM
    refine lv_iload_n hx hb dX3_read_43 rfl (lv_at hl 2 rfl) ?_
    refine lv_aload_n hx hb dX3_read_44 rfl (lv_at hl 1 rfl) ?_
    refine gx2_1 (v := (V_p1 1)) E hP 3 rfl rfl tw_77 dX3_read_45 ?_
    refine lv_icmp_ge (tgt := 100) hx hb dX3_read_48 (by decide) (fun c21 => ?_) (fun c21 => ?_)
    · replace hM := og_p c21 hM
      obtain rfl := Option.some.inj hM
      exact x_vret E hP hD hS dX3_read_100
    · replace hM := og_n c21 hM
      refine lv_aload_n hx hb dX3_read_51 rfl (lv_at hl 1 rfl) ?_
      refine lv_iload_n hx hb dX3_read_52 rfl (lv_at hl 2 rfl) ?_
      obtain ⟨u7, hu8, hM⟩ := og_b hM
      refine x_Vi (n := 1) (q0 := 0) (rest := []) (wn := [(A_t, oX3 A_t_songs A_t_rocks V_t), (A_t_songs, .inl (cI, 12, .inl V_t_songs)), (A_t_rocks, .inl (cI, 12, .inl V_t_rocks)), (A_p1, oX2 A_p1_letters V_p1), (A_p1_letters, .inl (cI, 30, .inl V_p1_letters))]) E (c_X2_codeAt l D cI cB A_p1 A_p1_letters V_p1 V_p1_letters L2 u7 hu8) ok_X2_codeAt tw_261 ⟨rfl, rfl⟩ ⟨Nat.le_of_ble_eq_true rfl, Nat.le_of_ble_eq_true rfl⟩ rfl rfl (Nat.le_of_ble_eq_true rfl) hl dX3_read_53 ⟨Nat.zero_le _, Nat.zero_le _⟩ hP hD hS [3, 4] [0, 1, 2] [(A_t, oX3 A_t_songs A_t_rocks V_t), (A_t_songs, .inl (cI, 12, .inl V_t_songs)), (A_t_rocks, .inl (cI, 12, .inl V_t_rocks))] [A_t, A_t_songs, A_t_rocks, A_p1, A_p1_letters] 5 rfl rfl rfl rfl rfl rfl rfl (by decide +kernel) rfl rfl rfl (fun H locs hP hD hS => ?_)
      refine lv_istore_n (lv' := [(3, .int u7), (0, .ref A_t), (1, .ref A_p1), (2, .int L2)]) hx hb dX3_read_56 rfl hl (by decide) rfl (fun ls hl => ?_)
      refine lv_iload_n hx hb dX3_read_57 rfl (lv_at hl 0 rfl) ?_
      refine lv_bipush (v := 49) hx hb dX3_read_58 (by decide) ?_
      refine lv_icmp_lt (tgt := 86) hx hb dX3_read_60 (by decide) (fun c20 => ?_) (fun c20 => ?_)
      · replace hM := og_p c20 hM
        refine lv_aload_n hx hb dX3_read_86 rfl (lv_at hl 1 rfl) ?_
        refine lv_iload_n hx hb dX3_read_87 rfl (lv_at hl 0 rfl) ?_
        obtain ⟨u9, hu10, hM⟩ := og_b hM
        refine x_Si (n := 1) (rest := [.ref A_t]) (wn := [(A_t, oX3 A_t_songs A_t_rocks V_t), (A_t_songs, .inl (cI, 12, .inl V_t_songs)), (A_t_rocks, .inl (cI, 12, .inl V_t_rocks)), (A_p1, oX2 A_p1_letters V_p1), (A_p1_letters, .inl (cI, 30, .inl V_p1_letters))]) E (c_X3_rockBy l D cI cB u7 u9 hu10) ok_X3_rockBy tw_266 ⟨rfl, rfl⟩ ⟨Nat.le_of_ble_eq_true rfl, Nat.le_of_ble_eq_true rfl⟩ rfl rfl (Nat.le_of_ble_eq_true rfl) hl dX3_read_88 ⟨Nat.zero_le _, Nat.zero_le _⟩ hP hD hS [] [0, 1, 2, 3, 4] [(A_t, oX3 A_t_songs A_t_rocks V_t), (A_t_songs, .inl (cI, 12, .inl V_t_songs)), (A_t_rocks, .inl (cI, 12, .inl V_t_rocks)), (A_p1, oX2 A_p1_letters V_p1), (A_p1_letters, .inl (cI, 30, .inl V_p1_letters))] [A_t, A_t_songs, A_t_rocks, A_p1, A_p1_letters] 5 rfl rfl rfl rfl rfl rfl rfl (by decide +kernel) (fun H locs hP hD hS => ?_)
        obtain ⟨u11, hu12, hM⟩ := og_b hM
        refine x_Vv (n := 1) (q0 := 0) (rest := []) (wn := [(A_t, oX3 A_t_songs A_t_rocks u11.1), (A_t_songs, .inl (cI, 12, .inl u11.2.1)), (A_t_rocks, .inl (cI, 12, .inl u11.2.2)), (A_p1, oX2 A_p1_letters V_p1), (A_p1_letters, .inl (cI, 30, .inl V_p1_letters))]) E (c_X3_addPlace l D cI cB A_t A_t_songs A_t_rocks V_t V_t_songs V_t_rocks u9 u11 hu12) ok_X3_addPlace tw_269 ⟨rfl, rfl⟩ ⟨Nat.le_of_ble_eq_true rfl, Nat.le_of_ble_eq_true rfl⟩ rfl rfl (Nat.le_of_ble_eq_true rfl) hl dX3_read_91 ⟨Nat.zero_le _, Nat.zero_le _⟩ hP hD hS [0, 1, 2] [3, 4] [(A_p1, oX2 A_p1_letters V_p1), (A_p1_letters, .inl (cI, 30, .inl V_p1_letters))] [A_t, A_t_songs, A_t_rocks, A_p1, A_p1_letters] 5 rfl rfl rfl rfl rfl rfl rfl (by decide +kernel) rfl rfl rfl (fun H locs hP hD hS => ?_)
        refine lv_iinc (v := (L2 + 1)) (lv' := [(2, .int (L2 + 1)), (3, .int u7), (0, .ref A_t), (1, .ref A_p1)]) hx hb dX3_read_94 hl (k := 3) rfl rfl (by decide) rfl (fun ls hl => ?_)
        refine lv_goto (tgt := 43) hx hb dX3_read_97 (by decide) ?_
        exact ih u11.1 u11.2.1 u11.2.2 (L2 + 1) hM _ _ _ hP hD hS (lv_sub hl [2, 3, 0] rfl)
      · replace hM := og_n c20 hM
        refine lv_iload_n hx hb dX3_read_63 rfl (lv_at hl 0 rfl) ?_
        refine lv_bipush (v := 57) hx hb dX3_read_64 (by decide) ?_
        refine lv_icmp_gt (tgt := 86) hx hb dX3_read_66 (by decide) (fun c19 => ?_) (fun c19 => ?_)
        · replace hM := og_p c19 hM
          refine lv_aload_n hx hb dX3_read_86 rfl (lv_at hl 1 rfl) ?_
          refine lv_iload_n hx hb dX3_read_87 rfl (lv_at hl 0 rfl) ?_
          obtain ⟨u13, hu14, hM⟩ := og_b hM
          refine x_Si (n := 1) (rest := [.ref A_t]) (wn := [(A_t, oX3 A_t_songs A_t_rocks V_t), (A_t_songs, .inl (cI, 12, .inl V_t_songs)), (A_t_rocks, .inl (cI, 12, .inl V_t_rocks)), (A_p1, oX2 A_p1_letters V_p1), (A_p1_letters, .inl (cI, 30, .inl V_p1_letters))]) E (c_X3_rockBy l D cI cB u7 u13 hu14) ok_X3_rockBy tw_266 ⟨rfl, rfl⟩ ⟨Nat.le_of_ble_eq_true rfl, Nat.le_of_ble_eq_true rfl⟩ rfl rfl (Nat.le_of_ble_eq_true rfl) hl dX3_read_88 ⟨Nat.zero_le _, Nat.zero_le _⟩ hP hD hS [] [0, 1, 2, 3, 4] [(A_t, oX3 A_t_songs A_t_rocks V_t), (A_t_songs, .inl (cI, 12, .inl V_t_songs)), (A_t_rocks, .inl (cI, 12, .inl V_t_rocks)), (A_p1, oX2 A_p1_letters V_p1), (A_p1_letters, .inl (cI, 30, .inl V_p1_letters))] [A_t, A_t_songs, A_t_rocks, A_p1, A_p1_letters] 5 rfl rfl rfl rfl rfl rfl rfl (by decide +kernel) (fun H locs hP hD hS => ?_)
          obtain ⟨u15, hu16, hM⟩ := og_b hM
          refine x_Vv (n := 1) (q0 := 0) (rest := []) (wn := [(A_t, oX3 A_t_songs A_t_rocks u15.1), (A_t_songs, .inl (cI, 12, .inl u15.2.1)), (A_t_rocks, .inl (cI, 12, .inl u15.2.2)), (A_p1, oX2 A_p1_letters V_p1), (A_p1_letters, .inl (cI, 30, .inl V_p1_letters))]) E (c_X3_addPlace l D cI cB A_t A_t_songs A_t_rocks V_t V_t_songs V_t_rocks u13 u15 hu16) ok_X3_addPlace tw_269 ⟨rfl, rfl⟩ ⟨Nat.le_of_ble_eq_true rfl, Nat.le_of_ble_eq_true rfl⟩ rfl rfl (Nat.le_of_ble_eq_true rfl) hl dX3_read_91 ⟨Nat.zero_le _, Nat.zero_le _⟩ hP hD hS [0, 1, 2] [3, 4] [(A_p1, oX2 A_p1_letters V_p1), (A_p1_letters, .inl (cI, 30, .inl V_p1_letters))] [A_t, A_t_songs, A_t_rocks, A_p1, A_p1_letters] 5 rfl rfl rfl rfl rfl rfl rfl (by decide +kernel) rfl rfl rfl (fun H locs hP hD hS => ?_)
          refine lv_iinc (v := (L2 + 1)) (lv' := [(2, .int (L2 + 1)), (3, .int u7), (0, .ref A_t), (1, .ref A_p1)]) hx hb dX3_read_94 hl (k := 3) rfl rfl (by decide) rfl (fun ls hl => ?_)
          refine lv_goto (tgt := 43) hx hb dX3_read_97 (by decide) ?_
          exact ih u15.1 u15.2.1 u15.2.2 (L2 + 1) hM _ _ _ hP hD hS (lv_sub hl [2, 3, 0] rfl)
        · replace hM := og_n c19 hM
          refine lv_aload_n hx hb dX3_read_69 rfl (lv_at hl 1 rfl) ?_
          refine lv_aload_n hx hb dX3_read_70 rfl (lv_at hl 1 rfl) ?_
          refine gx3_4 (v := (V_t 4)) E hP 0 rfl rfl tw_98 dX3_read_71 ?_
          refine lv_iconst (v := 1) hx hb dX3_read_74 (by decide) ?_
          refine lv_isub hx hb dX3_read_75 ?_
          refine lv_iload_n hx hb dX3_read_76 rfl (lv_at hl 0 rfl) ?_
          refine lv_bipush (v := 48) hx hb dX3_read_77 (by decide) ?_
          refine lv_isub hx hb dX3_read_79 ?_
          obtain ⟨u17, hu18, hM⟩ := og_b hM
          refine x_Vv (n := 2) (q0 := 0) (rest := []) (wn := [(A_t, oX3 A_t_songs A_t_rocks V_t), (A_t_songs, .inl (cI, 12, .inl u17)), (A_t_rocks, .inl (cI, 12, .inl V_t_rocks)), (A_p1, oX2 A_p1_letters V_p1), (A_p1_letters, .inl (cI, 30, .inl V_p1_letters))]) E (c_X3_setSong l D cI cB A_t A_t_songs A_t_rocks V_t V_t_songs ((V_t 4) - (1 : Int32)) (u7 - (48 : Int32)) u17 hu18) ok_X3_setSong tw_262 ⟨rfl, rfl⟩ ⟨Nat.le_of_ble_eq_true rfl, Nat.le_of_ble_eq_true rfl⟩ rfl rfl (Nat.le_of_ble_eq_true rfl) hl dX3_read_80 ⟨Nat.zero_le _, Nat.zero_le _⟩ hP hD hS [0, 1] [2, 3, 4] [(A_t_rocks, .inl (cI, 12, .inl V_t_rocks)), (A_p1, oX2 A_p1_letters V_p1), (A_p1_letters, .inl (cI, 30, .inl V_p1_letters))] [A_t, A_t_songs, A_t_rocks, A_p1, A_p1_letters] 5 rfl rfl rfl rfl rfl rfl rfl (by decide +kernel) rfl rfl rfl (fun H locs hP hD hS => ?_)
          refine lv_goto (tgt := 94) hx hb dX3_read_83 (by decide) ?_
          refine lv_iinc (v := (L2 + 1)) (lv' := [(2, .int (L2 + 1)), (3, .int u7), (0, .ref A_t), (1, .ref A_p1)]) hx hb dX3_read_94 hl (k := 3) rfl rfl (by decide) rfl (fun ls hl => ?_)
          refine lv_goto (tgt := 43) hx hb dX3_read_97 (by decide) ?_
          exact ih V_t u17 V_t_rocks (L2 + 1) hM _ _ _ hP hD hS (lv_sub hl [2, 3, 0] rfl)
def X3_read (n : Nat) (V_t : Nat → Int32) (V_t_songs : Nat → Int32) (V_t_rocks : Nat → Int32) (V_p1 : Nat → Int32) (V_p1_letters : Nat → Int32) : Option ((Nat → Int32) × (Nat → Int32) × (Nat → Int32)) := ((X2_codeAt V_p1 V_p1_letters (0 : Int32)).bind fun u1 => ((X2_codeAt V_p1 V_p1_letters (1 : Int32)).bind fun u3 => ((X2_codeAt V_p1 V_p1_letters (2 : Int32)).bind fun u5 => (X3_read_43 n V_p1 V_p1_letters n (upd (upd (upd V_t 2 ((((10 : Int32) * (u1 - (48 : Int32))) + u3) - (48 : Int32))) 3 (u5 - (48 : Int32))) 4 (0 : Int32)) V_t_songs V_t_rocks (4 : Int32)))))
theorem ok_X3_read : xV yX3_read cX3_read 4 none 1 := ⟨tw_260, tw_258, tw_259, tw_52, by decide +kernel, by decide +kernel, by decide +kernel⟩
set_option maxHeartbeats 4000000 in
set_option maxRecDepth 100000 in
theorem c_X3_read (n : Nat) (l : Launch) (D : va_G) (cI cB : ClassId) (A_t A_t_songs A_t_rocks A_p1 A_p1_letters : Nat) (V_t : Nat → Int32) (V_t_songs : Nat → Int32) (V_t_rocks : Nat → Int32) (V_p1 : Nat → Int32) (V_p1_letters : Nat → Int32) (r : (Nat → Int32) × (Nat → Int32) × (Nat → Int32)) (hM : X3_read n V_t V_t_songs V_t_rocks V_p1 V_p1_letters = some r) : xC l D (xT cI cB) yX3_read cX3_read 4 none { frames := 1, cells := 0, slots := 0, locals := 22 } [.ref A_t, .ref A_p1] [(A_t, oX3 A_t_songs A_t_rocks V_t), (A_t_songs, .inl (cI, 12, .inl V_t_songs)), (A_t_rocks, .inl (cI, 12, .inl V_t_rocks)), (A_p1, oX2 A_p1_letters V_p1), (A_p1_letters, .inl (cI, 30, .inl V_p1_letters))] none [(A_t, oX3 A_t_songs A_t_rocks r.1), (A_t_songs, .inl (cI, 12, .inl r.2.1)), (A_t_rocks, .inl (cI, 12, .inl r.2.2)), (A_p1, oX2 A_p1_letters V_p1), (A_p1_letters, .inl (cI, 30, .inl V_p1_letters))] := by
  refine xC.of (by decide +kernel) (Nat.le_of_ble_eq_true rfl) (fun p e s m below meth c A ls E hP hD hS hl => ?_)
  obtain ⟨hx, hb, hr, hts, hown, hml, hlocks, hA, hK⟩ := id E
  replace hl : lv_has ls 4 [(0, .ref A_t), (1, .ref A_p1)] := hl
  rw [X3_read] at hM
  refine lv_aload_n hx hb dX3_read_0 rfl (lv_at hl 0 rfl) ?_
  refine lv_bipush (v := 10) hx hb dX3_read_1 (by decide) ?_
  refine lv_aload_n hx hb dX3_read_3 rfl (lv_at hl 1 rfl) ?_
  refine lv_iconst (v := 0) hx hb dX3_read_4 (by decide) ?_
  obtain ⟨u1, hu2, hM⟩ := og_b hM
  refine x_Vi (n := 1) (q0 := 0) (rest := [.int (10 : Int32), .ref A_t]) (wn := [(A_t, oX3 A_t_songs A_t_rocks V_t), (A_t_songs, .inl (cI, 12, .inl V_t_songs)), (A_t_rocks, .inl (cI, 12, .inl V_t_rocks)), (A_p1, oX2 A_p1_letters V_p1), (A_p1_letters, .inl (cI, 30, .inl V_p1_letters))]) E (c_X2_codeAt l D cI cB A_p1 A_p1_letters V_p1 V_p1_letters (0 : Int32) u1 hu2) ok_X2_codeAt tw_261 ⟨rfl, rfl⟩ ⟨Nat.le_of_ble_eq_true rfl, Nat.le_of_ble_eq_true rfl⟩ rfl rfl (Nat.le_of_ble_eq_true rfl) hl dX3_read_5 ⟨Nat.zero_le _, Nat.zero_le _⟩ hP hD hS [3, 4] [0, 1, 2] [(A_t, oX3 A_t_songs A_t_rocks V_t), (A_t_songs, .inl (cI, 12, .inl V_t_songs)), (A_t_rocks, .inl (cI, 12, .inl V_t_rocks))] [A_t, A_t_songs, A_t_rocks, A_p1, A_p1_letters] 5 rfl rfl rfl rfl rfl rfl rfl (by decide +kernel) rfl rfl rfl (fun H locs hP hD hS => ?_)
  refine lv_bipush (v := 48) hx hb dX3_read_8 (by decide) ?_
  refine lv_isub hx hb dX3_read_10 ?_
  refine lv_imul hx hb dX3_read_11 ?_
  refine lv_aload_n hx hb dX3_read_12 rfl (lv_at hl 1 rfl) ?_
  refine lv_iconst (v := 1) hx hb dX3_read_13 (by decide) ?_
  obtain ⟨u3, hu4, hM⟩ := og_b hM
  refine x_Vi (n := 1) (q0 := 0) (rest := [.int ((10 : Int32) * (u1 - (48 : Int32))), .ref A_t]) (wn := [(A_t, oX3 A_t_songs A_t_rocks V_t), (A_t_songs, .inl (cI, 12, .inl V_t_songs)), (A_t_rocks, .inl (cI, 12, .inl V_t_rocks)), (A_p1, oX2 A_p1_letters V_p1), (A_p1_letters, .inl (cI, 30, .inl V_p1_letters))]) E (c_X2_codeAt l D cI cB A_p1 A_p1_letters V_p1 V_p1_letters (1 : Int32) u3 hu4) ok_X2_codeAt tw_261 ⟨rfl, rfl⟩ ⟨Nat.le_of_ble_eq_true rfl, Nat.le_of_ble_eq_true rfl⟩ rfl rfl (Nat.le_of_ble_eq_true rfl) hl dX3_read_14 ⟨Nat.zero_le _, Nat.zero_le _⟩ hP hD hS [3, 4] [0, 1, 2] [(A_t, oX3 A_t_songs A_t_rocks V_t), (A_t_songs, .inl (cI, 12, .inl V_t_songs)), (A_t_rocks, .inl (cI, 12, .inl V_t_rocks))] [A_t, A_t_songs, A_t_rocks, A_p1, A_p1_letters] 5 rfl rfl rfl rfl rfl rfl rfl (by decide +kernel) rfl rfl rfl (fun H locs hP hD hS => ?_)
  refine lv_iadd hx hb dX3_read_17 ?_
  refine lv_bipush (v := 48) hx hb dX3_read_18 (by decide) ?_
  refine lv_isub hx hb dX3_read_20 ?_
  refine px3_2 (wn := [(A_t, oX3 A_t_songs A_t_rocks (upd V_t 2 ((((10 : Int32) * (u1 - (48 : Int32))) + u3) - (48 : Int32)))), (A_t_songs, .inl (cI, 12, .inl V_t_songs)), (A_t_rocks, .inl (cI, 12, .inl V_t_rocks)), (A_p1, oX2 A_p1_letters V_p1), (A_p1_letters, .inl (cI, 30, .inl V_p1_letters))]) E hP hD hS 0 rfl tw_92 dX3_read_21 rfl (fun H locs hP hD hS => ?_)
  refine lv_aload_n hx hb dX3_read_24 rfl (lv_at hl 0 rfl) ?_
  refine lv_aload_n hx hb dX3_read_25 rfl (lv_at hl 1 rfl) ?_
  refine lv_iconst (v := 2) hx hb dX3_read_26 (by decide) ?_
  obtain ⟨u5, hu6, hM⟩ := og_b hM
  refine x_Vi (n := 1) (q0 := 0) (rest := [.ref A_t]) (wn := [(A_t, oX3 A_t_songs A_t_rocks (upd V_t 2 ((((10 : Int32) * (u1 - (48 : Int32))) + u3) - (48 : Int32)))), (A_t_songs, .inl (cI, 12, .inl V_t_songs)), (A_t_rocks, .inl (cI, 12, .inl V_t_rocks)), (A_p1, oX2 A_p1_letters V_p1), (A_p1_letters, .inl (cI, 30, .inl V_p1_letters))]) E (c_X2_codeAt l D cI cB A_p1 A_p1_letters V_p1 V_p1_letters (2 : Int32) u5 hu6) ok_X2_codeAt tw_261 ⟨rfl, rfl⟩ ⟨Nat.le_of_ble_eq_true rfl, Nat.le_of_ble_eq_true rfl⟩ rfl rfl (Nat.le_of_ble_eq_true rfl) hl dX3_read_27 ⟨Nat.zero_le _, Nat.zero_le _⟩ hP hD hS [3, 4] [0, 1, 2] [(A_t, oX3 A_t_songs A_t_rocks (upd V_t 2 ((((10 : Int32) * (u1 - (48 : Int32))) + u3) - (48 : Int32)))), (A_t_songs, .inl (cI, 12, .inl V_t_songs)), (A_t_rocks, .inl (cI, 12, .inl V_t_rocks))] [A_t, A_t_songs, A_t_rocks, A_p1, A_p1_letters] 5 rfl rfl rfl rfl rfl rfl rfl (by decide +kernel) rfl rfl rfl (fun H locs hP hD hS => ?_)
  refine lv_bipush (v := 48) hx hb dX3_read_30 (by decide) ?_
  refine lv_isub hx hb dX3_read_32 ?_
  refine px3_3 (wn := [(A_t, oX3 A_t_songs A_t_rocks (upd (upd V_t 2 ((((10 : Int32) * (u1 - (48 : Int32))) + u3) - (48 : Int32))) 3 (u5 - (48 : Int32)))), (A_t_songs, .inl (cI, 12, .inl V_t_songs)), (A_t_rocks, .inl (cI, 12, .inl V_t_rocks)), (A_p1, oX2 A_p1_letters V_p1), (A_p1_letters, .inl (cI, 30, .inl V_p1_letters))]) E hP hD hS 0 rfl tw_95 dX3_read_33 rfl (fun H locs hP hD hS => ?_)
  refine lv_aload_n hx hb dX3_read_36 rfl (lv_at hl 0 rfl) ?_
  refine lv_iconst (v := 0) hx hb dX3_read_37 (by decide) ?_
  refine px3_4 (wn := [(A_t, oX3 A_t_songs A_t_rocks (upd (upd (upd V_t 2 ((((10 : Int32) * (u1 - (48 : Int32))) + u3) - (48 : Int32))) 3 (u5 - (48 : Int32))) 4 (0 : Int32))), (A_t_songs, .inl (cI, 12, .inl V_t_songs)), (A_t_rocks, .inl (cI, 12, .inl V_t_rocks)), (A_p1, oX2 A_p1_letters V_p1), (A_p1_letters, .inl (cI, 30, .inl V_p1_letters))]) E hP hD hS 0 rfl tw_98 dX3_read_38 rfl (fun H locs hP hD hS => ?_)
  refine lv_iconst (v := 4) hx hb dX3_read_41 (by decide) ?_
  refine lv_istore_n (lv' := [(2, .int (4 : Int32)), (0, .ref A_t), (1, .ref A_p1)]) hx hb dX3_read_42 rfl hl (by decide) rfl (fun ls hl => ?_)
  exact lp_X3_read_43 n l D cI cB A_t A_t_songs A_t_rocks A_p1 A_p1_letters V_p1 V_p1_letters r E n (upd (upd (upd V_t 2 ((((10 : Int32) * (u1 - (48 : Int32))) + u3) - (48 : Int32))) 3 (u5 - (48 : Int32))) 4 (0 : Int32)) V_t_songs V_t_rocks (4 : Int32) hM _ _ _ hP hD hS (lv_sub hl [1, 2, 0] rfl)
def X3_songAt (V_t : Nat → Int32) (V_t_songs : Nat → Int32) (P1 : Int32) : Option (Int32) := (if P1 < 0 then (some ((0 : Int32))) else (if (12 : Int32) ≤ P1 then (some ((0 : Int32))) else (if xin P1 12 then (some ((V_t_songs P1.toNatClampNeg))) else none)))
theorem ok_X3_songAt : xV yX3_songAt cX3_songAt 2 (some .int) 1 := ⟨tw_284, tw_282, tw_283, tw_52, by decide +kernel, by decide +kernel, by decide +kernel⟩
set_option maxHeartbeats 4000000 in
set_option maxRecDepth 100000 in
theorem c_X3_songAt (l : Launch) (D : va_G) (cI cB : ClassId) (A_t A_t_songs A_t_rocks : Nat) (V_t : Nat → Int32) (V_t_songs : Nat → Int32) (P1 : Int32) (r : Int32) (hM : X3_songAt V_t V_t_songs P1 = some r) : xC l D (xT cI cB) yX3_songAt cX3_songAt 2 (some .int) { frames := 0, cells := 0, slots := 0, locals := 0 } [.ref A_t, .int P1] [(A_t, oX3 A_t_songs A_t_rocks V_t), (A_t_songs, .inl (cI, 12, .inl V_t_songs))] (some (.int r)) [(A_t, oX3 A_t_songs A_t_rocks V_t), (A_t_songs, .inl (cI, 12, .inl V_t_songs))] := by
  refine xC.of (by decide +kernel) (Nat.le_of_ble_eq_true rfl) (fun p e s m below meth c A ls E hP hD hS hl => ?_)
  obtain ⟨hx, hb, hr, hts, hown, hml, hlocks, hA, hK⟩ := id E
  replace hl : lv_has ls 2 [(0, .ref A_t), (1, .int P1)] := hl
  rw [X3_songAt] at hM
  refine lv_iload_n hx hb dX3_songAt_0 rfl (lv_at hl 1 rfl) ?_
  refine lv_if_lt (tgt := 19) hx hb dX3_songAt_1 (by decide) (fun c3 => ?_) (fun c3 => ?_)
  · replace hM := og_p c3 hM
    refine lv_iconst (v := 0) hx hb dX3_songAt_19 (by decide) ?_
    obtain rfl := Option.some.inj hM
    exact x_iret E hP hD hS dX3_songAt_20
  · replace hM := og_n c3 hM
    refine lv_iload_n hx hb dX3_songAt_4 rfl (lv_at hl 1 rfl) ?_
    refine lv_bipush (v := 12) hx hb dX3_songAt_5 (by decide) ?_
    refine lv_icmp_ge (tgt := 19) hx hb dX3_songAt_7 (by decide) (fun c2 => ?_) (fun c2 => ?_)
    · replace hM := og_p c2 hM
      refine lv_iconst (v := 0) hx hb dX3_songAt_19 (by decide) ?_
      obtain rfl := Option.some.inj hM
      exact x_iret E hP hD hS dX3_songAt_20
    · replace hM := og_n c2 hM
      refine lv_aload_n hx hb dX3_songAt_10 rfl (lv_at hl 0 rfl) ?_
      refine gx3_0 E hP 0 rfl tw_90 dX3_songAt_11 ?_
      refine lv_iload_n hx hb dX3_songAt_14 rfl (lv_at hl 1 rfl) ?_
      obtain ⟨hi1, hM⟩ := og_g hM
      refine x_iald E hi1 hP 1 rfl dX3_songAt_15 ?_
      refine lv_goto (tgt := 20) hx hb dX3_songAt_16 (by decide) ?_
      obtain rfl := Option.some.inj hM
      exact x_iret E hP hD hS dX3_songAt_20
def X3_rockAt (V_t : Nat → Int32) (V_t_rocks : Nat → Int32) (P1 : Int32) : Option (Int32) := (if P1 < 0 then (some ((0 : Int32))) else (if (12 : Int32) ≤ P1 then (some ((0 : Int32))) else (if xin P1 12 then (some ((V_t_rocks P1.toNatClampNeg))) else none)))
theorem ok_X3_rockAt : xV yX3_rockAt cX3_rockAt 2 (some .int) 1 := ⟨tw_288, tw_286, tw_287, tw_52, by decide +kernel, by decide +kernel, by decide +kernel⟩
set_option maxHeartbeats 4000000 in
set_option maxRecDepth 100000 in
theorem c_X3_rockAt (l : Launch) (D : va_G) (cI cB : ClassId) (A_t A_t_songs A_t_rocks : Nat) (V_t : Nat → Int32) (V_t_rocks : Nat → Int32) (P1 : Int32) (r : Int32) (hM : X3_rockAt V_t V_t_rocks P1 = some r) : xC l D (xT cI cB) yX3_rockAt cX3_rockAt 2 (some .int) { frames := 0, cells := 0, slots := 0, locals := 0 } [.ref A_t, .int P1] [(A_t, oX3 A_t_songs A_t_rocks V_t), (A_t_rocks, .inl (cI, 12, .inl V_t_rocks))] (some (.int r)) [(A_t, oX3 A_t_songs A_t_rocks V_t), (A_t_rocks, .inl (cI, 12, .inl V_t_rocks))] := by
  refine xC.of (by decide +kernel) (Nat.le_of_ble_eq_true rfl) (fun p e s m below meth c A ls E hP hD hS hl => ?_)
  obtain ⟨hx, hb, hr, hts, hown, hml, hlocks, hA, hK⟩ := id E
  replace hl : lv_has ls 2 [(0, .ref A_t), (1, .int P1)] := hl
  rw [X3_rockAt] at hM
  refine lv_iload_n hx hb dX3_rockAt_0 rfl (lv_at hl 1 rfl) ?_
  refine lv_if_lt (tgt := 19) hx hb dX3_rockAt_1 (by decide) (fun c3 => ?_) (fun c3 => ?_)
  · replace hM := og_p c3 hM
    refine lv_iconst (v := 0) hx hb dX3_rockAt_19 (by decide) ?_
    obtain rfl := Option.some.inj hM
    exact x_iret E hP hD hS dX3_rockAt_20
  · replace hM := og_n c3 hM
    refine lv_iload_n hx hb dX3_rockAt_4 rfl (lv_at hl 1 rfl) ?_
    refine lv_bipush (v := 12) hx hb dX3_rockAt_5 (by decide) ?_
    refine lv_icmp_ge (tgt := 19) hx hb dX3_rockAt_7 (by decide) (fun c2 => ?_) (fun c2 => ?_)
    · replace hM := og_p c2 hM
      refine lv_iconst (v := 0) hx hb dX3_rockAt_19 (by decide) ?_
      obtain rfl := Option.some.inj hM
      exact x_iret E hP hD hS dX3_rockAt_20
    · replace hM := og_n c2 hM
      refine lv_aload_n hx hb dX3_rockAt_10 rfl (lv_at hl 0 rfl) ?_
      refine gx3_1 E hP 0 rfl tw_91 dX3_rockAt_11 ?_
      refine lv_iload_n hx hb dX3_rockAt_14 rfl (lv_at hl 1 rfl) ?_
      obtain ⟨hi1, hM⟩ := og_g hM
      refine x_iald E hi1 hP 1 rfl dX3_rockAt_15 ?_
      refine lv_goto (tgt := 20) hx hb dX3_rockAt_16 (by decide) ?_
      obtain rfl := Option.some.inj hM
      exact x_iret E hP hD hS dX3_rockAt_20
def X0_add (V_t : Nat → Int32) (V_t_kinds : Nat → Int32) (V_t_oars : Nat → Int32) (V_t_wills : Nat → Int32) (P1 : Int32) (P2 : Int32) (P3 : Int32) : Option ((Nat → Int32) × (Nat → Int32) × (Nat → Int32) × (Nat → Int32)) := (if (V_t 3) < 0 then (some (V_t, V_t_kinds, V_t_oars, V_t_wills)) else (if (5 : Int32) ≤ (V_t 3) then (some (V_t, V_t_kinds, V_t_oars, V_t_wills)) else (if xin (V_t 3) 5 then (if xin (V_t 3) 5 then (if xin (V_t 3) 5 then (some ((upd V_t 3 ((V_t 3) + (1 : Int32))), (upd V_t_kinds (V_t 3).toNatClampNeg P1), (upd V_t_oars (V_t 3).toNatClampNeg P2), (upd V_t_wills (V_t 3).toNatClampNeg P3))) else none) else none) else none)))
theorem ok_X0_add : xV yX0_add cX0_add 4 none 3 := ⟨tw_303, tw_301, tw_302, tw_53, by decide +kernel, by decide +kernel, by decide +kernel⟩
set_option maxHeartbeats 4000000 in
set_option maxRecDepth 100000 in
theorem c_X0_add (l : Launch) (D : va_G) (cI cB : ClassId) (A_t A_t_kinds A_t_oars A_t_wills : Nat) (V_t : Nat → Int32) (V_t_kinds : Nat → Int32) (V_t_oars : Nat → Int32) (V_t_wills : Nat → Int32) (P1 : Int32) (P2 : Int32) (P3 : Int32) (r : (Nat → Int32) × (Nat → Int32) × (Nat → Int32) × (Nat → Int32)) (hM : X0_add V_t V_t_kinds V_t_oars V_t_wills P1 P2 P3 = some r) : xC l D (xT cI cB) yX0_add cX0_add 4 none { frames := 0, cells := 0, slots := 0, locals := 0 } [.ref A_t, .int P1, .int P2, .int P3] [(A_t, oX0 A_t_kinds A_t_oars A_t_wills V_t), (A_t_kinds, .inl (cI, 5, .inl V_t_kinds)), (A_t_oars, .inl (cI, 5, .inl V_t_oars)), (A_t_wills, .inl (cI, 5, .inl V_t_wills))] none [(A_t, oX0 A_t_kinds A_t_oars A_t_wills r.1), (A_t_kinds, .inl (cI, 5, .inl r.2.1)), (A_t_oars, .inl (cI, 5, .inl r.2.2.1)), (A_t_wills, .inl (cI, 5, .inl r.2.2.2))] := by
  refine xC.of (by decide +kernel) (Nat.le_of_ble_eq_true rfl) (fun p e s m below meth c A ls E hP hD hS hl => ?_)
  obtain ⟨hx, hb, hr, hts, hown, hml, hlocks, hA, hK⟩ := id E
  replace hl : lv_has ls 4 [(0, .ref A_t), (1, .int P1), (2, .int P2), (3, .int P3)] := hl
  rw [X0_add] at hM
  refine lv_aload_n hx hb dX0_add_0 rfl (lv_at hl 0 rfl) ?_
  refine gx0_3 (v := (V_t 3)) E hP 0 rfl rfl tw_121 dX0_add_1 ?_
  refine lv_if_lt (tgt := 55) hx hb dX0_add_4 (by decide) (fun c5 => ?_) (fun c5 => ?_)
  · replace hM := og_p c5 hM
    obtain rfl := Option.some.inj hM
    exact x_vret E hP hD hS dX0_add_55
  · replace hM := og_n c5 hM
    refine lv_aload_n hx hb dX0_add_7 rfl (lv_at hl 0 rfl) ?_
    refine gx0_3 (v := (V_t 3)) E hP 0 rfl rfl tw_121 dX0_add_8 ?_
    refine lv_iconst (v := 5) hx hb dX0_add_11 (by decide) ?_
    refine lv_icmp_ge (tgt := 55) hx hb dX0_add_12 (by decide) (fun c4 => ?_) (fun c4 => ?_)
    · replace hM := og_p c4 hM
      obtain rfl := Option.some.inj hM
      exact x_vret E hP hD hS dX0_add_55
    · replace hM := og_n c4 hM
      refine lv_aload_n hx hb dX0_add_15 rfl (lv_at hl 0 rfl) ?_
      refine gx0_0 E hP 0 rfl tw_118 dX0_add_16 ?_
      refine lv_aload_n hx hb dX0_add_19 rfl (lv_at hl 0 rfl) ?_
      refine gx0_3 (v := (V_t 3)) E hP 0 rfl rfl tw_121 dX0_add_20 ?_
      refine lv_iload_n hx hb dX0_add_23 rfl (lv_at hl 1 rfl) ?_
      obtain ⟨hi1, hM⟩ := og_g hM
      refine x_iast (wn := [(A_t, oX0 A_t_kinds A_t_oars A_t_wills V_t), (A_t_kinds, .inl (cI, 5, .inl (upd V_t_kinds (V_t 3).toNatClampNeg P1))), (A_t_oars, .inl (cI, 5, .inl V_t_oars)), (A_t_wills, .inl (cI, 5, .inl V_t_wills))]) E hi1 hP hD hS 1 rfl dX0_add_24 rfl (fun H locs hP hD hS => ?_)
      refine lv_aload_n hx hb dX0_add_25 rfl (lv_at hl 0 rfl) ?_
      refine gx0_1 E hP 0 rfl tw_119 dX0_add_26 ?_
      refine lv_aload_n hx hb dX0_add_29 rfl (lv_at hl 0 rfl) ?_
      refine gx0_3 (v := (V_t 3)) E hP 0 rfl rfl tw_121 dX0_add_30 ?_
      refine lv_iload_n hx hb dX0_add_33 rfl (lv_at hl 2 rfl) ?_
      obtain ⟨hi2, hM⟩ := og_g hM
      refine x_iast (wn := [(A_t, oX0 A_t_kinds A_t_oars A_t_wills V_t), (A_t_kinds, .inl (cI, 5, .inl (upd V_t_kinds (V_t 3).toNatClampNeg P1))), (A_t_oars, .inl (cI, 5, .inl (upd V_t_oars (V_t 3).toNatClampNeg P2))), (A_t_wills, .inl (cI, 5, .inl V_t_wills))]) E hi2 hP hD hS 2 rfl dX0_add_34 rfl (fun H locs hP hD hS => ?_)
      refine lv_aload_n hx hb dX0_add_35 rfl (lv_at hl 0 rfl) ?_
      refine gx0_2 E hP 0 rfl tw_120 dX0_add_36 ?_
      refine lv_aload_n hx hb dX0_add_39 rfl (lv_at hl 0 rfl) ?_
      refine gx0_3 (v := (V_t 3)) E hP 0 rfl rfl tw_121 dX0_add_40 ?_
      refine lv_iload_n hx hb dX0_add_43 rfl (lv_at hl 3 rfl) ?_
      obtain ⟨hi3, hM⟩ := og_g hM
      refine x_iast (wn := [(A_t, oX0 A_t_kinds A_t_oars A_t_wills V_t), (A_t_kinds, .inl (cI, 5, .inl (upd V_t_kinds (V_t 3).toNatClampNeg P1))), (A_t_oars, .inl (cI, 5, .inl (upd V_t_oars (V_t 3).toNatClampNeg P2))), (A_t_wills, .inl (cI, 5, .inl (upd V_t_wills (V_t 3).toNatClampNeg P3)))]) E hi3 hP hD hS 3 rfl dX0_add_44 rfl (fun H locs hP hD hS => ?_)
      refine lv_aload_n hx hb dX0_add_45 rfl (lv_at hl 0 rfl) ?_
      refine lv_dup hx hb dX0_add_46 rfl ?_
      refine gx0_3 (v := (V_t 3)) E hP 0 rfl rfl tw_121 dX0_add_47 ?_
      refine lv_iconst (v := 1) hx hb dX0_add_50 (by decide) ?_
      refine lv_iadd hx hb dX0_add_51 ?_
      refine px0_3 (wn := [(A_t, oX0 A_t_kinds A_t_oars A_t_wills (upd V_t 3 ((V_t 3) + (1 : Int32)))), (A_t_kinds, .inl (cI, 5, .inl (upd V_t_kinds (V_t 3).toNatClampNeg P1))), (A_t_oars, .inl (cI, 5, .inl (upd V_t_oars (V_t 3).toNatClampNeg P2))), (A_t_wills, .inl (cI, 5, .inl (upd V_t_wills (V_t 3).toNatClampNeg P3)))]) E hP hD hS 0 rfl tw_121 dX0_add_52 rfl (fun H locs hP hD hS => ?_)
      obtain rfl := Option.some.inj hM
      exact x_vret E hP hD hS dX0_add_55
def X0_kindOf (V_t : Nat → Int32) (V_t_kinds : Nat → Int32) (P1 : Int32) : Option (Int32) := (if P1 < 0 then (some ((0 : Int32))) else (if (5 : Int32) ≤ P1 then (some ((0 : Int32))) else (if xin P1 5 then (some ((V_t_kinds P1.toNatClampNeg))) else none)))
theorem ok_X0_kindOf : xV yX0_kindOf cX0_kindOf 2 (some .int) 1 := ⟨tw_327, tw_325, tw_326, tw_53, by decide +kernel, by decide +kernel, by decide +kernel⟩
set_option maxHeartbeats 4000000 in
set_option maxRecDepth 100000 in
theorem c_X0_kindOf (l : Launch) (D : va_G) (cI cB : ClassId) (A_t A_t_kinds A_t_oars A_t_wills : Nat) (V_t : Nat → Int32) (V_t_kinds : Nat → Int32) (P1 : Int32) (r : Int32) (hM : X0_kindOf V_t V_t_kinds P1 = some r) : xC l D (xT cI cB) yX0_kindOf cX0_kindOf 2 (some .int) { frames := 0, cells := 0, slots := 0, locals := 0 } [.ref A_t, .int P1] [(A_t, oX0 A_t_kinds A_t_oars A_t_wills V_t), (A_t_kinds, .inl (cI, 5, .inl V_t_kinds))] (some (.int r)) [(A_t, oX0 A_t_kinds A_t_oars A_t_wills V_t), (A_t_kinds, .inl (cI, 5, .inl V_t_kinds))] := by
  refine xC.of (by decide +kernel) (Nat.le_of_ble_eq_true rfl) (fun p e s m below meth c A ls E hP hD hS hl => ?_)
  obtain ⟨hx, hb, hr, hts, hown, hml, hlocks, hA, hK⟩ := id E
  replace hl : lv_has ls 2 [(0, .ref A_t), (1, .int P1)] := hl
  rw [X0_kindOf] at hM
  refine lv_iload_n hx hb dX0_kindOf_0 rfl (lv_at hl 1 rfl) ?_
  refine lv_if_lt (tgt := 18) hx hb dX0_kindOf_1 (by decide) (fun c3 => ?_) (fun c3 => ?_)
  · replace hM := og_p c3 hM
    refine lv_iconst (v := 0) hx hb dX0_kindOf_18 (by decide) ?_
    obtain rfl := Option.some.inj hM
    exact x_iret E hP hD hS dX0_kindOf_19
  · replace hM := og_n c3 hM
    refine lv_iload_n hx hb dX0_kindOf_4 rfl (lv_at hl 1 rfl) ?_
    refine lv_iconst (v := 5) hx hb dX0_kindOf_5 (by decide) ?_
    refine lv_icmp_ge (tgt := 18) hx hb dX0_kindOf_6 (by decide) (fun c2 => ?_) (fun c2 => ?_)
    · replace hM := og_p c2 hM
      refine lv_iconst (v := 0) hx hb dX0_kindOf_18 (by decide) ?_
      obtain rfl := Option.some.inj hM
      exact x_iret E hP hD hS dX0_kindOf_19
    · replace hM := og_n c2 hM
      refine lv_aload_n hx hb dX0_kindOf_9 rfl (lv_at hl 0 rfl) ?_
      refine gx0_0 E hP 0 rfl tw_118 dX0_kindOf_10 ?_
      refine lv_iload_n hx hb dX0_kindOf_13 rfl (lv_at hl 1 rfl) ?_
      obtain ⟨hi1, hM⟩ := og_g hM
      refine x_iald E hi1 hP 1 rfl dX0_kindOf_14 ?_
      refine lv_goto (tgt := 19) hx hb dX0_kindOf_15 (by decide) ?_
      obtain rfl := Option.some.inj hM
      exact x_iret E hP hD hS dX0_kindOf_19
def X0_oarOf (V_t : Nat → Int32) (V_t_oars : Nat → Int32) (P1 : Int32) : Option (Int32) := (if P1 < 0 then (some ((0 : Int32))) else (if (5 : Int32) ≤ P1 then (some ((0 : Int32))) else (if xin P1 5 then (some ((V_t_oars P1.toNatClampNeg))) else none)))
theorem ok_X0_oarOf : xV yX0_oarOf cX0_oarOf 2 (some .int) 1 := ⟨tw_331, tw_329, tw_330, tw_53, by decide +kernel, by decide +kernel, by decide +kernel⟩
set_option maxHeartbeats 4000000 in
set_option maxRecDepth 100000 in
theorem c_X0_oarOf (l : Launch) (D : va_G) (cI cB : ClassId) (A_t A_t_kinds A_t_oars A_t_wills : Nat) (V_t : Nat → Int32) (V_t_oars : Nat → Int32) (P1 : Int32) (r : Int32) (hM : X0_oarOf V_t V_t_oars P1 = some r) : xC l D (xT cI cB) yX0_oarOf cX0_oarOf 2 (some .int) { frames := 0, cells := 0, slots := 0, locals := 0 } [.ref A_t, .int P1] [(A_t, oX0 A_t_kinds A_t_oars A_t_wills V_t), (A_t_oars, .inl (cI, 5, .inl V_t_oars))] (some (.int r)) [(A_t, oX0 A_t_kinds A_t_oars A_t_wills V_t), (A_t_oars, .inl (cI, 5, .inl V_t_oars))] := by
  refine xC.of (by decide +kernel) (Nat.le_of_ble_eq_true rfl) (fun p e s m below meth c A ls E hP hD hS hl => ?_)
  obtain ⟨hx, hb, hr, hts, hown, hml, hlocks, hA, hK⟩ := id E
  replace hl : lv_has ls 2 [(0, .ref A_t), (1, .int P1)] := hl
  rw [X0_oarOf] at hM
  refine lv_iload_n hx hb dX0_oarOf_0 rfl (lv_at hl 1 rfl) ?_
  refine lv_if_lt (tgt := 18) hx hb dX0_oarOf_1 (by decide) (fun c3 => ?_) (fun c3 => ?_)
  · replace hM := og_p c3 hM
    refine lv_iconst (v := 0) hx hb dX0_oarOf_18 (by decide) ?_
    obtain rfl := Option.some.inj hM
    exact x_iret E hP hD hS dX0_oarOf_19
  · replace hM := og_n c3 hM
    refine lv_iload_n hx hb dX0_oarOf_4 rfl (lv_at hl 1 rfl) ?_
    refine lv_iconst (v := 5) hx hb dX0_oarOf_5 (by decide) ?_
    refine lv_icmp_ge (tgt := 18) hx hb dX0_oarOf_6 (by decide) (fun c2 => ?_) (fun c2 => ?_)
    · replace hM := og_p c2 hM
      refine lv_iconst (v := 0) hx hb dX0_oarOf_18 (by decide) ?_
      obtain rfl := Option.some.inj hM
      exact x_iret E hP hD hS dX0_oarOf_19
    · replace hM := og_n c2 hM
      refine lv_aload_n hx hb dX0_oarOf_9 rfl (lv_at hl 0 rfl) ?_
      refine gx0_1 E hP 0 rfl tw_119 dX0_oarOf_10 ?_
      refine lv_iload_n hx hb dX0_oarOf_13 rfl (lv_at hl 1 rfl) ?_
      obtain ⟨hi1, hM⟩ := og_g hM
      refine x_iald E hi1 hP 1 rfl dX0_oarOf_14 ?_
      refine lv_goto (tgt := 19) hx hb dX0_oarOf_15 (by decide) ?_
      obtain rfl := Option.some.inj hM
      exact x_iret E hP hD hS dX0_oarOf_19
def X0_willOf (V_t : Nat → Int32) (V_t_wills : Nat → Int32) (P1 : Int32) : Option (Int32) := (if P1 < 0 then (some ((0 : Int32))) else (if (5 : Int32) ≤ P1 then (some ((0 : Int32))) else (if xin P1 5 then (some ((V_t_wills P1.toNatClampNeg))) else none)))
theorem ok_X0_willOf : xV yX0_willOf cX0_willOf 2 (some .int) 1 := ⟨tw_335, tw_333, tw_334, tw_53, by decide +kernel, by decide +kernel, by decide +kernel⟩
set_option maxHeartbeats 4000000 in
set_option maxRecDepth 100000 in
theorem c_X0_willOf (l : Launch) (D : va_G) (cI cB : ClassId) (A_t A_t_kinds A_t_oars A_t_wills : Nat) (V_t : Nat → Int32) (V_t_wills : Nat → Int32) (P1 : Int32) (r : Int32) (hM : X0_willOf V_t V_t_wills P1 = some r) : xC l D (xT cI cB) yX0_willOf cX0_willOf 2 (some .int) { frames := 0, cells := 0, slots := 0, locals := 0 } [.ref A_t, .int P1] [(A_t, oX0 A_t_kinds A_t_oars A_t_wills V_t), (A_t_wills, .inl (cI, 5, .inl V_t_wills))] (some (.int r)) [(A_t, oX0 A_t_kinds A_t_oars A_t_wills V_t), (A_t_wills, .inl (cI, 5, .inl V_t_wills))] := by
  refine xC.of (by decide +kernel) (Nat.le_of_ble_eq_true rfl) (fun p e s m below meth c A ls E hP hD hS hl => ?_)
  obtain ⟨hx, hb, hr, hts, hown, hml, hlocks, hA, hK⟩ := id E
  replace hl : lv_has ls 2 [(0, .ref A_t), (1, .int P1)] := hl
  rw [X0_willOf] at hM
  refine lv_iload_n hx hb dX0_willOf_0 rfl (lv_at hl 1 rfl) ?_
  refine lv_if_lt (tgt := 18) hx hb dX0_willOf_1 (by decide) (fun c3 => ?_) (fun c3 => ?_)
  · replace hM := og_p c3 hM
    refine lv_iconst (v := 0) hx hb dX0_willOf_18 (by decide) ?_
    obtain rfl := Option.some.inj hM
    exact x_iret E hP hD hS dX0_willOf_19
  · replace hM := og_n c3 hM
    refine lv_iload_n hx hb dX0_willOf_4 rfl (lv_at hl 1 rfl) ?_
    refine lv_iconst (v := 5) hx hb dX0_willOf_5 (by decide) ?_
    refine lv_icmp_ge (tgt := 18) hx hb dX0_willOf_6 (by decide) (fun c2 => ?_) (fun c2 => ?_)
    · replace hM := og_p c2 hM
      refine lv_iconst (v := 0) hx hb dX0_willOf_18 (by decide) ?_
      obtain rfl := Option.some.inj hM
      exact x_iret E hP hD hS dX0_willOf_19
    · replace hM := og_n c2 hM
      refine lv_aload_n hx hb dX0_willOf_9 rfl (lv_at hl 0 rfl) ?_
      refine gx0_2 E hP 0 rfl tw_120 dX0_willOf_10 ?_
      refine lv_iload_n hx hb dX0_willOf_13 rfl (lv_at hl 1 rfl) ?_
      obtain ⟨hi1, hM⟩ := og_g hM
      refine x_iald E hi1 hP 1 rfl dX0_willOf_14 ?_
      refine lv_goto (tgt := 19) hx hb dX0_willOf_15 (by decide) ?_
      obtain rfl := Option.some.inj hM
      exact x_iret E hP hD hS dX0_willOf_19
def X0_isOfKind (V_t : Nat → Int32) (V_t_kinds : Nat → Int32) (P1 : Int32) (P2 : Int32) : Option (Bool) := ((X0_kindOf V_t V_t_kinds P1).bind fun u1 => (if P2 = 0 then (some (true)) else (if u1 = P2 then (some (true)) else (if P2 = (3 : Int32) then (if u1 = (4 : Int32) then (some (true)) else (some (false))) else (some (false))))))
theorem ok_X0_isOfKind : xV yX0_isOfKind cX0_isOfKind 4 (some .boolean) 2 := ⟨tw_370, tw_368, tw_369, tw_53, by decide +kernel, by decide +kernel, by decide +kernel⟩
set_option maxHeartbeats 4000000 in
set_option maxRecDepth 100000 in
theorem c_X0_isOfKind (l : Launch) (D : va_G) (cI cB : ClassId) (A_t A_t_kinds A_t_oars A_t_wills : Nat) (V_t : Nat → Int32) (V_t_kinds : Nat → Int32) (P1 : Int32) (P2 : Int32) (r : Bool) (hM : X0_isOfKind V_t V_t_kinds P1 P2 = some r) : xC l D (xT cI cB) yX0_isOfKind cX0_isOfKind 4 (some .boolean) { frames := 1, cells := 0, slots := 0, locals := 21 } [.ref A_t, .int P1, .int P2] [(A_t, oX0 A_t_kinds A_t_oars A_t_wills V_t), (A_t_kinds, .inl (cI, 5, .inl V_t_kinds))] (some (.int (bz r))) [(A_t, oX0 A_t_kinds A_t_oars A_t_wills V_t), (A_t_kinds, .inl (cI, 5, .inl V_t_kinds))] := by
  refine xC.of (by decide +kernel) (Nat.le_of_ble_eq_true rfl) (fun p e s m below meth c A ls E hP hD hS hl => ?_)
  obtain ⟨hx, hb, hr, hts, hown, hml, hlocks, hA, hK⟩ := id E
  replace hl : lv_has ls 4 [(0, .ref A_t), (1, .int P1), (2, .int P2)] := hl
  rw [X0_isOfKind] at hM
  refine lv_aload_n hx hb dX0_isOfKind_0 rfl (lv_at hl 0 rfl) ?_
  refine lv_iload_n hx hb dX0_isOfKind_1 rfl (lv_at hl 1 rfl) ?_
  obtain ⟨u1, hu2, hM⟩ := og_b hM
  refine x_Vi (n := 1) (q0 := 0) (rest := []) (wn := [(A_t, oX0 A_t_kinds A_t_oars A_t_wills V_t), (A_t_kinds, .inl (cI, 5, .inl V_t_kinds))]) E (c_X0_kindOf l D cI cB A_t A_t_kinds A_t_oars A_t_wills V_t V_t_kinds P1 u1 hu2) ok_X0_kindOf tw_371 ⟨rfl, rfl⟩ ⟨Nat.le_of_ble_eq_true rfl, Nat.le_of_ble_eq_true rfl⟩ rfl rfl (Nat.le_of_ble_eq_true rfl) hl dX0_isOfKind_2 ⟨Nat.zero_le _, Nat.zero_le _⟩ hP hD hS [0, 1] [] [] [A_t, A_t_kinds] 2 rfl rfl rfl rfl rfl rfl rfl (by decide +kernel) rfl rfl rfl (fun H locs hP hD hS => ?_)
  refine lv_istore_n (lv' := [(3, .int u1), (0, .ref A_t), (1, .int P1), (2, .int P2)]) hx hb dX0_isOfKind_5 rfl hl (by decide) rfl (fun ls hl => ?_)
  refine lv_iload_n hx hb dX0_isOfKind_6 rfl (lv_at hl 3 rfl) ?_
  refine lv_if_eq (tgt := 25) hx hb dX0_isOfKind_7 (by decide) (fun c6 => ?_) (fun c6 => ?_)
  · replace hM := og_p c6 hM
    refine lv_iconst (v := 1) hx hb dX0_isOfKind_25 (by decide) ?_
    refine lv_goto (tgt := 30) hx hb dX0_isOfKind_26 (by decide) ?_
    obtain rfl := Option.some.inj hM
    exact x_zret (b := true) E hP hD hS dX0_isOfKind_30
  · replace hM := og_n c6 hM
    refine lv_iload_n hx hb dX0_isOfKind_10 rfl (lv_at hl 0 rfl) ?_
    refine lv_iload_n hx hb dX0_isOfKind_11 rfl (lv_at hl 3 rfl) ?_
    refine lv_icmp_eq (tgt := 25) hx hb dX0_isOfKind_12 (by decide) (fun c5 => ?_) (fun c5 => ?_)
    · replace hM := og_p c5 hM
      refine lv_iconst (v := 1) hx hb dX0_isOfKind_25 (by decide) ?_
      refine lv_goto (tgt := 30) hx hb dX0_isOfKind_26 (by decide) ?_
      obtain rfl := Option.some.inj hM
      exact x_zret (b := true) E hP hD hS dX0_isOfKind_30
    · replace hM := og_n c5 hM
      refine lv_iload_n hx hb dX0_isOfKind_15 rfl (lv_at hl 3 rfl) ?_
      refine lv_iconst (v := 3) hx hb dX0_isOfKind_16 (by decide) ?_
      refine lv_icmp_ne (tgt := 29) hx hb dX0_isOfKind_17 (by decide) (fun c4 => ?_) (fun c4 => ?_)
      · replace hM := og_n c4 hM
        refine lv_iconst (v := 0) hx hb dX0_isOfKind_29 (by decide) ?_
        obtain rfl := Option.some.inj hM
        exact x_zret (b := false) E hP hD hS dX0_isOfKind_30
      · replace hM := og_p c4 hM
        refine lv_iload_n hx hb dX0_isOfKind_20 rfl (lv_at hl 0 rfl) ?_
        refine lv_iconst (v := 4) hx hb dX0_isOfKind_21 (by decide) ?_
        refine lv_icmp_ne (tgt := 29) hx hb dX0_isOfKind_22 (by decide) (fun c3 => ?_) (fun c3 => ?_)
        · replace hM := og_n c3 hM
          refine lv_iconst (v := 0) hx hb dX0_isOfKind_29 (by decide) ?_
          obtain rfl := Option.some.inj hM
          exact x_zret (b := false) E hP hD hS dX0_isOfKind_30
        · replace hM := og_p c3 hM
          refine lv_iconst (v := 1) hx hb dX0_isOfKind_25 (by decide) ?_
          refine lv_goto (tgt := 30) hx hb dX0_isOfKind_26 (by decide) ?_
          obtain rfl := Option.some.inj hM
          exact x_zret (b := true) E hP hD hS dX0_isOfKind_30
def J6_bitCount_0f7a4 (P1 : Int32) : Option (Int32) := (some (((((((((P1 - ((P1.toUInt32 >>> ((1 : Int32).toUInt32 &&& Int32.toUInt32 31)).toInt32 &&& (1431655765 : Int32))) &&& (858993459 : Int32)) + (((P1 - ((P1.toUInt32 >>> ((1 : Int32).toUInt32 &&& Int32.toUInt32 31)).toInt32 &&& (1431655765 : Int32))).toUInt32 >>> ((2 : Int32).toUInt32 &&& Int32.toUInt32 31)).toInt32 &&& (858993459 : Int32))) + ((((P1 - ((P1.toUInt32 >>> ((1 : Int32).toUInt32 &&& Int32.toUInt32 31)).toInt32 &&& (1431655765 : Int32))) &&& (858993459 : Int32)) + (((P1 - ((P1.toUInt32 >>> ((1 : Int32).toUInt32 &&& Int32.toUInt32 31)).toInt32 &&& (1431655765 : Int32))).toUInt32 >>> ((2 : Int32).toUInt32 &&& Int32.toUInt32 31)).toInt32 &&& (858993459 : Int32))).toUInt32 >>> ((4 : Int32).toUInt32 &&& Int32.toUInt32 31)).toInt32) &&& (252645135 : Int32)) + ((((((P1 - ((P1.toUInt32 >>> ((1 : Int32).toUInt32 &&& Int32.toUInt32 31)).toInt32 &&& (1431655765 : Int32))) &&& (858993459 : Int32)) + (((P1 - ((P1.toUInt32 >>> ((1 : Int32).toUInt32 &&& Int32.toUInt32 31)).toInt32 &&& (1431655765 : Int32))).toUInt32 >>> ((2 : Int32).toUInt32 &&& Int32.toUInt32 31)).toInt32 &&& (858993459 : Int32))) + ((((P1 - ((P1.toUInt32 >>> ((1 : Int32).toUInt32 &&& Int32.toUInt32 31)).toInt32 &&& (1431655765 : Int32))) &&& (858993459 : Int32)) + (((P1 - ((P1.toUInt32 >>> ((1 : Int32).toUInt32 &&& Int32.toUInt32 31)).toInt32 &&& (1431655765 : Int32))).toUInt32 >>> ((2 : Int32).toUInt32 &&& Int32.toUInt32 31)).toInt32 &&& (858993459 : Int32))).toUInt32 >>> ((4 : Int32).toUInt32 &&& Int32.toUInt32 31)).toInt32) &&& (252645135 : Int32)).toUInt32 >>> ((8 : Int32).toUInt32 &&& Int32.toUInt32 31)).toInt32) + (((((((P1 - ((P1.toUInt32 >>> ((1 : Int32).toUInt32 &&& Int32.toUInt32 31)).toInt32 &&& (1431655765 : Int32))) &&& (858993459 : Int32)) + (((P1 - ((P1.toUInt32 >>> ((1 : Int32).toUInt32 &&& Int32.toUInt32 31)).toInt32 &&& (1431655765 : Int32))).toUInt32 >>> ((2 : Int32).toUInt32 &&& Int32.toUInt32 31)).toInt32 &&& (858993459 : Int32))) + ((((P1 - ((P1.toUInt32 >>> ((1 : Int32).toUInt32 &&& Int32.toUInt32 31)).toInt32 &&& (1431655765 : Int32))) &&& (858993459 : Int32)) + (((P1 - ((P1.toUInt32 >>> ((1 : Int32).toUInt32 &&& Int32.toUInt32 31)).toInt32 &&& (1431655765 : Int32))).toUInt32 >>> ((2 : Int32).toUInt32 &&& Int32.toUInt32 31)).toInt32 &&& (858993459 : Int32))).toUInt32 >>> ((4 : Int32).toUInt32 &&& Int32.toUInt32 31)).toInt32) &&& (252645135 : Int32)) + ((((((P1 - ((P1.toUInt32 >>> ((1 : Int32).toUInt32 &&& Int32.toUInt32 31)).toInt32 &&& (1431655765 : Int32))) &&& (858993459 : Int32)) + (((P1 - ((P1.toUInt32 >>> ((1 : Int32).toUInt32 &&& Int32.toUInt32 31)).toInt32 &&& (1431655765 : Int32))).toUInt32 >>> ((2 : Int32).toUInt32 &&& Int32.toUInt32 31)).toInt32 &&& (858993459 : Int32))) + ((((P1 - ((P1.toUInt32 >>> ((1 : Int32).toUInt32 &&& Int32.toUInt32 31)).toInt32 &&& (1431655765 : Int32))) &&& (858993459 : Int32)) + (((P1 - ((P1.toUInt32 >>> ((1 : Int32).toUInt32 &&& Int32.toUInt32 31)).toInt32 &&& (1431655765 : Int32))).toUInt32 >>> ((2 : Int32).toUInt32 &&& Int32.toUInt32 31)).toInt32 &&& (858993459 : Int32))).toUInt32 >>> ((4 : Int32).toUInt32 &&& Int32.toUInt32 31)).toInt32) &&& (252645135 : Int32)).toUInt32 >>> ((8 : Int32).toUInt32 &&& Int32.toUInt32 31)).toInt32).toUInt32 >>> ((16 : Int32).toUInt32 &&& Int32.toUInt32 31)).toInt32) &&& (63 : Int32))))
theorem ok_J6_bitCount_0f7a4 : xSt yJ6_bitCount_0f7a4 cJ6_bitCount_0f7a4 1 (some .int) 1 := ⟨tw_443, tw_442, tw_58, by decide +kernel, by decide +kernel, by decide +kernel⟩
set_option maxHeartbeats 4000000 in
set_option maxRecDepth 100000 in
theorem c_J6_bitCount_0f7a4 (l : Launch) (D : va_G) (cI cB : ClassId) (P1 : Int32) (r : Int32) (hM : J6_bitCount_0f7a4 P1 = some r) : xC l D (xT cI cB) yJ6_bitCount_0f7a4 cJ6_bitCount_0f7a4 1 (some .int) { frames := 0, cells := 0, slots := 0, locals := 0 } [.int P1] [] (some (.int r)) [] := by
  refine xC.of (by decide +kernel) (Nat.le_of_ble_eq_true rfl) (fun p e s m below meth c A ls E hP hD hS hl => ?_)
  obtain ⟨hx, hb, hr, hts, hown, hml, hlocks, hA, hK⟩ := id E
  replace hl : lv_has ls 1 [(0, .int P1)] := hl
  rw [J6_bitCount_0f7a4] at hM
  refine lv_iload_n hx hb dJ6_bitCount_0f7a4_0 rfl (lv_at hl 0 rfl) ?_
  refine lv_iload_n hx hb dJ6_bitCount_0f7a4_1 rfl (lv_at hl 0 rfl) ?_
  refine lv_iconst (v := 1) hx hb dJ6_bitCount_0f7a4_2 (by decide) ?_
  refine lv_iushr (v := (P1.toUInt32 >>> ((1 : Int32).toUInt32 &&& Int32.toUInt32 31)).toInt32) hx hb dJ6_bitCount_0f7a4_3 rfl ?_
  refine lv_ldcw (v := 1431655765) hx hb hown (hts _ tw_444) dJ6_bitCount_0f7a4_4 ?_
  refine lv_iand hx hb dJ6_bitCount_0f7a4_7 ?_
  refine lv_isub hx hb dJ6_bitCount_0f7a4_8 ?_
  refine lv_istore_n (lv' := [(0, .int (P1 - ((P1.toUInt32 >>> ((1 : Int32).toUInt32 &&& Int32.toUInt32 31)).toInt32 &&& (1431655765 : Int32))))]) hx hb dJ6_bitCount_0f7a4_9 rfl hl (by decide) rfl (fun ls hl => ?_)
  refine lv_iload_n hx hb dJ6_bitCount_0f7a4_10 rfl (lv_at hl 0 rfl) ?_
  refine lv_ldcw (v := 858993459) hx hb hown (hts _ tw_445) dJ6_bitCount_0f7a4_11 ?_
  refine lv_iand hx hb dJ6_bitCount_0f7a4_14 ?_
  refine lv_iload_n hx hb dJ6_bitCount_0f7a4_15 rfl (lv_at hl 0 rfl) ?_
  refine lv_iconst (v := 2) hx hb dJ6_bitCount_0f7a4_16 (by decide) ?_
  refine lv_iushr (v := ((P1 - ((P1.toUInt32 >>> ((1 : Int32).toUInt32 &&& Int32.toUInt32 31)).toInt32 &&& (1431655765 : Int32))).toUInt32 >>> ((2 : Int32).toUInt32 &&& Int32.toUInt32 31)).toInt32) hx hb dJ6_bitCount_0f7a4_17 rfl ?_
  refine lv_ldcw (v := 858993459) hx hb hown (hts _ tw_445) dJ6_bitCount_0f7a4_18 ?_
  refine lv_iand hx hb dJ6_bitCount_0f7a4_21 ?_
  refine lv_iadd hx hb dJ6_bitCount_0f7a4_22 ?_
  refine lv_istore_n (lv' := [(0, .int (((P1 - ((P1.toUInt32 >>> ((1 : Int32).toUInt32 &&& Int32.toUInt32 31)).toInt32 &&& (1431655765 : Int32))) &&& (858993459 : Int32)) + (((P1 - ((P1.toUInt32 >>> ((1 : Int32).toUInt32 &&& Int32.toUInt32 31)).toInt32 &&& (1431655765 : Int32))).toUInt32 >>> ((2 : Int32).toUInt32 &&& Int32.toUInt32 31)).toInt32 &&& (858993459 : Int32))))]) hx hb dJ6_bitCount_0f7a4_23 rfl hl (by decide) rfl (fun ls hl => ?_)
  refine lv_iload_n hx hb dJ6_bitCount_0f7a4_24 rfl (lv_at hl 0 rfl) ?_
  refine lv_iload_n hx hb dJ6_bitCount_0f7a4_25 rfl (lv_at hl 0 rfl) ?_
  refine lv_iconst (v := 4) hx hb dJ6_bitCount_0f7a4_26 (by decide) ?_
  refine lv_iushr (v := ((((P1 - ((P1.toUInt32 >>> ((1 : Int32).toUInt32 &&& Int32.toUInt32 31)).toInt32 &&& (1431655765 : Int32))) &&& (858993459 : Int32)) + (((P1 - ((P1.toUInt32 >>> ((1 : Int32).toUInt32 &&& Int32.toUInt32 31)).toInt32 &&& (1431655765 : Int32))).toUInt32 >>> ((2 : Int32).toUInt32 &&& Int32.toUInt32 31)).toInt32 &&& (858993459 : Int32))).toUInt32 >>> ((4 : Int32).toUInt32 &&& Int32.toUInt32 31)).toInt32) hx hb dJ6_bitCount_0f7a4_27 rfl ?_
  refine lv_iadd hx hb dJ6_bitCount_0f7a4_28 ?_
  refine lv_ldcw (v := 252645135) hx hb hown (hts _ tw_446) dJ6_bitCount_0f7a4_29 ?_
  refine lv_iand hx hb dJ6_bitCount_0f7a4_32 ?_
  refine lv_istore_n (lv' := [(0, .int (((((P1 - ((P1.toUInt32 >>> ((1 : Int32).toUInt32 &&& Int32.toUInt32 31)).toInt32 &&& (1431655765 : Int32))) &&& (858993459 : Int32)) + (((P1 - ((P1.toUInt32 >>> ((1 : Int32).toUInt32 &&& Int32.toUInt32 31)).toInt32 &&& (1431655765 : Int32))).toUInt32 >>> ((2 : Int32).toUInt32 &&& Int32.toUInt32 31)).toInt32 &&& (858993459 : Int32))) + ((((P1 - ((P1.toUInt32 >>> ((1 : Int32).toUInt32 &&& Int32.toUInt32 31)).toInt32 &&& (1431655765 : Int32))) &&& (858993459 : Int32)) + (((P1 - ((P1.toUInt32 >>> ((1 : Int32).toUInt32 &&& Int32.toUInt32 31)).toInt32 &&& (1431655765 : Int32))).toUInt32 >>> ((2 : Int32).toUInt32 &&& Int32.toUInt32 31)).toInt32 &&& (858993459 : Int32))).toUInt32 >>> ((4 : Int32).toUInt32 &&& Int32.toUInt32 31)).toInt32) &&& (252645135 : Int32)))]) hx hb dJ6_bitCount_0f7a4_33 rfl hl (by decide) rfl (fun ls hl => ?_)
  refine lv_iload_n hx hb dJ6_bitCount_0f7a4_34 rfl (lv_at hl 0 rfl) ?_
  refine lv_iload_n hx hb dJ6_bitCount_0f7a4_35 rfl (lv_at hl 0 rfl) ?_
  refine lv_bipush (v := 8) hx hb dJ6_bitCount_0f7a4_36 (by decide) ?_
  refine lv_iushr (v := ((((((P1 - ((P1.toUInt32 >>> ((1 : Int32).toUInt32 &&& Int32.toUInt32 31)).toInt32 &&& (1431655765 : Int32))) &&& (858993459 : Int32)) + (((P1 - ((P1.toUInt32 >>> ((1 : Int32).toUInt32 &&& Int32.toUInt32 31)).toInt32 &&& (1431655765 : Int32))).toUInt32 >>> ((2 : Int32).toUInt32 &&& Int32.toUInt32 31)).toInt32 &&& (858993459 : Int32))) + ((((P1 - ((P1.toUInt32 >>> ((1 : Int32).toUInt32 &&& Int32.toUInt32 31)).toInt32 &&& (1431655765 : Int32))) &&& (858993459 : Int32)) + (((P1 - ((P1.toUInt32 >>> ((1 : Int32).toUInt32 &&& Int32.toUInt32 31)).toInt32 &&& (1431655765 : Int32))).toUInt32 >>> ((2 : Int32).toUInt32 &&& Int32.toUInt32 31)).toInt32 &&& (858993459 : Int32))).toUInt32 >>> ((4 : Int32).toUInt32 &&& Int32.toUInt32 31)).toInt32) &&& (252645135 : Int32)).toUInt32 >>> ((8 : Int32).toUInt32 &&& Int32.toUInt32 31)).toInt32) hx hb dJ6_bitCount_0f7a4_38 rfl ?_
  refine lv_iadd hx hb dJ6_bitCount_0f7a4_39 ?_
  refine lv_istore_n (lv' := [(0, .int ((((((P1 - ((P1.toUInt32 >>> ((1 : Int32).toUInt32 &&& Int32.toUInt32 31)).toInt32 &&& (1431655765 : Int32))) &&& (858993459 : Int32)) + (((P1 - ((P1.toUInt32 >>> ((1 : Int32).toUInt32 &&& Int32.toUInt32 31)).toInt32 &&& (1431655765 : Int32))).toUInt32 >>> ((2 : Int32).toUInt32 &&& Int32.toUInt32 31)).toInt32 &&& (858993459 : Int32))) + ((((P1 - ((P1.toUInt32 >>> ((1 : Int32).toUInt32 &&& Int32.toUInt32 31)).toInt32 &&& (1431655765 : Int32))) &&& (858993459 : Int32)) + (((P1 - ((P1.toUInt32 >>> ((1 : Int32).toUInt32 &&& Int32.toUInt32 31)).toInt32 &&& (1431655765 : Int32))).toUInt32 >>> ((2 : Int32).toUInt32 &&& Int32.toUInt32 31)).toInt32 &&& (858993459 : Int32))).toUInt32 >>> ((4 : Int32).toUInt32 &&& Int32.toUInt32 31)).toInt32) &&& (252645135 : Int32)) + ((((((P1 - ((P1.toUInt32 >>> ((1 : Int32).toUInt32 &&& Int32.toUInt32 31)).toInt32 &&& (1431655765 : Int32))) &&& (858993459 : Int32)) + (((P1 - ((P1.toUInt32 >>> ((1 : Int32).toUInt32 &&& Int32.toUInt32 31)).toInt32 &&& (1431655765 : Int32))).toUInt32 >>> ((2 : Int32).toUInt32 &&& Int32.toUInt32 31)).toInt32 &&& (858993459 : Int32))) + ((((P1 - ((P1.toUInt32 >>> ((1 : Int32).toUInt32 &&& Int32.toUInt32 31)).toInt32 &&& (1431655765 : Int32))) &&& (858993459 : Int32)) + (((P1 - ((P1.toUInt32 >>> ((1 : Int32).toUInt32 &&& Int32.toUInt32 31)).toInt32 &&& (1431655765 : Int32))).toUInt32 >>> ((2 : Int32).toUInt32 &&& Int32.toUInt32 31)).toInt32 &&& (858993459 : Int32))).toUInt32 >>> ((4 : Int32).toUInt32 &&& Int32.toUInt32 31)).toInt32) &&& (252645135 : Int32)).toUInt32 >>> ((8 : Int32).toUInt32 &&& Int32.toUInt32 31)).toInt32))]) hx hb dJ6_bitCount_0f7a4_40 rfl hl (by decide) rfl (fun ls hl => ?_)
  refine lv_iload_n hx hb dJ6_bitCount_0f7a4_41 rfl (lv_at hl 0 rfl) ?_
  refine lv_iload_n hx hb dJ6_bitCount_0f7a4_42 rfl (lv_at hl 0 rfl) ?_
  refine lv_bipush (v := 16) hx hb dJ6_bitCount_0f7a4_43 (by decide) ?_
  refine lv_iushr (v := (((((((P1 - ((P1.toUInt32 >>> ((1 : Int32).toUInt32 &&& Int32.toUInt32 31)).toInt32 &&& (1431655765 : Int32))) &&& (858993459 : Int32)) + (((P1 - ((P1.toUInt32 >>> ((1 : Int32).toUInt32 &&& Int32.toUInt32 31)).toInt32 &&& (1431655765 : Int32))).toUInt32 >>> ((2 : Int32).toUInt32 &&& Int32.toUInt32 31)).toInt32 &&& (858993459 : Int32))) + ((((P1 - ((P1.toUInt32 >>> ((1 : Int32).toUInt32 &&& Int32.toUInt32 31)).toInt32 &&& (1431655765 : Int32))) &&& (858993459 : Int32)) + (((P1 - ((P1.toUInt32 >>> ((1 : Int32).toUInt32 &&& Int32.toUInt32 31)).toInt32 &&& (1431655765 : Int32))).toUInt32 >>> ((2 : Int32).toUInt32 &&& Int32.toUInt32 31)).toInt32 &&& (858993459 : Int32))).toUInt32 >>> ((4 : Int32).toUInt32 &&& Int32.toUInt32 31)).toInt32) &&& (252645135 : Int32)) + ((((((P1 - ((P1.toUInt32 >>> ((1 : Int32).toUInt32 &&& Int32.toUInt32 31)).toInt32 &&& (1431655765 : Int32))) &&& (858993459 : Int32)) + (((P1 - ((P1.toUInt32 >>> ((1 : Int32).toUInt32 &&& Int32.toUInt32 31)).toInt32 &&& (1431655765 : Int32))).toUInt32 >>> ((2 : Int32).toUInt32 &&& Int32.toUInt32 31)).toInt32 &&& (858993459 : Int32))) + ((((P1 - ((P1.toUInt32 >>> ((1 : Int32).toUInt32 &&& Int32.toUInt32 31)).toInt32 &&& (1431655765 : Int32))) &&& (858993459 : Int32)) + (((P1 - ((P1.toUInt32 >>> ((1 : Int32).toUInt32 &&& Int32.toUInt32 31)).toInt32 &&& (1431655765 : Int32))).toUInt32 >>> ((2 : Int32).toUInt32 &&& Int32.toUInt32 31)).toInt32 &&& (858993459 : Int32))).toUInt32 >>> ((4 : Int32).toUInt32 &&& Int32.toUInt32 31)).toInt32) &&& (252645135 : Int32)).toUInt32 >>> ((8 : Int32).toUInt32 &&& Int32.toUInt32 31)).toInt32).toUInt32 >>> ((16 : Int32).toUInt32 &&& Int32.toUInt32 31)).toInt32) hx hb dJ6_bitCount_0f7a4_45 rfl ?_
  refine lv_iadd hx hb dJ6_bitCount_0f7a4_46 ?_
  refine lv_istore_n (lv' := [(0, .int (((((((P1 - ((P1.toUInt32 >>> ((1 : Int32).toUInt32 &&& Int32.toUInt32 31)).toInt32 &&& (1431655765 : Int32))) &&& (858993459 : Int32)) + (((P1 - ((P1.toUInt32 >>> ((1 : Int32).toUInt32 &&& Int32.toUInt32 31)).toInt32 &&& (1431655765 : Int32))).toUInt32 >>> ((2 : Int32).toUInt32 &&& Int32.toUInt32 31)).toInt32 &&& (858993459 : Int32))) + ((((P1 - ((P1.toUInt32 >>> ((1 : Int32).toUInt32 &&& Int32.toUInt32 31)).toInt32 &&& (1431655765 : Int32))) &&& (858993459 : Int32)) + (((P1 - ((P1.toUInt32 >>> ((1 : Int32).toUInt32 &&& Int32.toUInt32 31)).toInt32 &&& (1431655765 : Int32))).toUInt32 >>> ((2 : Int32).toUInt32 &&& Int32.toUInt32 31)).toInt32 &&& (858993459 : Int32))).toUInt32 >>> ((4 : Int32).toUInt32 &&& Int32.toUInt32 31)).toInt32) &&& (252645135 : Int32)) + ((((((P1 - ((P1.toUInt32 >>> ((1 : Int32).toUInt32 &&& Int32.toUInt32 31)).toInt32 &&& (1431655765 : Int32))) &&& (858993459 : Int32)) + (((P1 - ((P1.toUInt32 >>> ((1 : Int32).toUInt32 &&& Int32.toUInt32 31)).toInt32 &&& (1431655765 : Int32))).toUInt32 >>> ((2 : Int32).toUInt32 &&& Int32.toUInt32 31)).toInt32 &&& (858993459 : Int32))) + ((((P1 - ((P1.toUInt32 >>> ((1 : Int32).toUInt32 &&& Int32.toUInt32 31)).toInt32 &&& (1431655765 : Int32))) &&& (858993459 : Int32)) + (((P1 - ((P1.toUInt32 >>> ((1 : Int32).toUInt32 &&& Int32.toUInt32 31)).toInt32 &&& (1431655765 : Int32))).toUInt32 >>> ((2 : Int32).toUInt32 &&& Int32.toUInt32 31)).toInt32 &&& (858993459 : Int32))).toUInt32 >>> ((4 : Int32).toUInt32 &&& Int32.toUInt32 31)).toInt32) &&& (252645135 : Int32)).toUInt32 >>> ((8 : Int32).toUInt32 &&& Int32.toUInt32 31)).toInt32) + (((((((P1 - ((P1.toUInt32 >>> ((1 : Int32).toUInt32 &&& Int32.toUInt32 31)).toInt32 &&& (1431655765 : Int32))) &&& (858993459 : Int32)) + (((P1 - ((P1.toUInt32 >>> ((1 : Int32).toUInt32 &&& Int32.toUInt32 31)).toInt32 &&& (1431655765 : Int32))).toUInt32 >>> ((2 : Int32).toUInt32 &&& Int32.toUInt32 31)).toInt32 &&& (858993459 : Int32))) + ((((P1 - ((P1.toUInt32 >>> ((1 : Int32).toUInt32 &&& Int32.toUInt32 31)).toInt32 &&& (1431655765 : Int32))) &&& (858993459 : Int32)) + (((P1 - ((P1.toUInt32 >>> ((1 : Int32).toUInt32 &&& Int32.toUInt32 31)).toInt32 &&& (1431655765 : Int32))).toUInt32 >>> ((2 : Int32).toUInt32 &&& Int32.toUInt32 31)).toInt32 &&& (858993459 : Int32))).toUInt32 >>> ((4 : Int32).toUInt32 &&& Int32.toUInt32 31)).toInt32) &&& (252645135 : Int32)) + ((((((P1 - ((P1.toUInt32 >>> ((1 : Int32).toUInt32 &&& Int32.toUInt32 31)).toInt32 &&& (1431655765 : Int32))) &&& (858993459 : Int32)) + (((P1 - ((P1.toUInt32 >>> ((1 : Int32).toUInt32 &&& Int32.toUInt32 31)).toInt32 &&& (1431655765 : Int32))).toUInt32 >>> ((2 : Int32).toUInt32 &&& Int32.toUInt32 31)).toInt32 &&& (858993459 : Int32))) + ((((P1 - ((P1.toUInt32 >>> ((1 : Int32).toUInt32 &&& Int32.toUInt32 31)).toInt32 &&& (1431655765 : Int32))) &&& (858993459 : Int32)) + (((P1 - ((P1.toUInt32 >>> ((1 : Int32).toUInt32 &&& Int32.toUInt32 31)).toInt32 &&& (1431655765 : Int32))).toUInt32 >>> ((2 : Int32).toUInt32 &&& Int32.toUInt32 31)).toInt32 &&& (858993459 : Int32))).toUInt32 >>> ((4 : Int32).toUInt32 &&& Int32.toUInt32 31)).toInt32) &&& (252645135 : Int32)).toUInt32 >>> ((8 : Int32).toUInt32 &&& Int32.toUInt32 31)).toInt32).toUInt32 >>> ((16 : Int32).toUInt32 &&& Int32.toUInt32 31)).toInt32))]) hx hb dJ6_bitCount_0f7a4_47 rfl hl (by decide) rfl (fun ls hl => ?_)
  refine lv_iload_n hx hb dJ6_bitCount_0f7a4_48 rfl (lv_at hl 0 rfl) ?_
  refine lv_bipush (v := 63) hx hb dJ6_bitCount_0f7a4_49 (by decide) ?_
  refine lv_iand hx hb dJ6_bitCount_0f7a4_51 ?_
  obtain rfl := Option.some.inj hM
  exact x_iret E hP hD hS dJ6_bitCount_0f7a4_52
def X0_everyone (V_t : Nat → Int32) : Option (Int32) := (some ((((1 : Int32) <<< ((V_t 3) &&& 31)) - (1 : Int32))))
theorem ok_X0_everyone : xV yX0_everyone cX0_everyone 1 (some .int) 0 := ⟨tw_462, tw_460, tw_461, tw_53, by decide +kernel, by decide +kernel, by decide +kernel⟩
set_option maxHeartbeats 4000000 in
set_option maxRecDepth 100000 in
theorem c_X0_everyone (l : Launch) (D : va_G) (cI cB : ClassId) (A_t A_t_kinds A_t_oars A_t_wills : Nat) (V_t : Nat → Int32) (r : Int32) (hM : X0_everyone V_t = some r) : xC l D (xT cI cB) yX0_everyone cX0_everyone 1 (some .int) { frames := 0, cells := 0, slots := 0, locals := 0 } [.ref A_t] [(A_t, oX0 A_t_kinds A_t_oars A_t_wills V_t)] (some (.int r)) [(A_t, oX0 A_t_kinds A_t_oars A_t_wills V_t)] := by
  refine xC.of (by decide +kernel) (Nat.le_of_ble_eq_true rfl) (fun p e s m below meth c A ls E hP hD hS hl => ?_)
  obtain ⟨hx, hb, hr, hts, hown, hml, hlocks, hA, hK⟩ := id E
  replace hl : lv_has ls 1 [(0, .ref A_t)] := hl
  rw [X0_everyone] at hM
  refine lv_iconst (v := 1) hx hb dX0_everyone_0 (by decide) ?_
  refine lv_aload_n hx hb dX0_everyone_1 rfl (lv_at hl 0 rfl) ?_
  refine gx0_3 (v := (V_t 3)) E hP 0 rfl rfl tw_121 dX0_everyone_2 ?_
  refine lv_ishl hx hb dX0_everyone_5 ?_
  refine lv_iconst (v := 1) hx hb dX0_everyone_6 (by decide) ?_
  refine lv_isub hx hb dX0_everyone_7 ?_
  obtain rfl := Option.some.inj hM
  exact x_iret E hP hD hS dX0_everyone_8
def X3_copy (V_t : Nat → Int32) (V_t_songs : Nat → Int32) (V_t_rocks : Nat → Int32) (V_p1 : Nat → Int32) (V_p1_songs : Nat → Int32) (V_p1_rocks : Nat → Int32) : Option ((Nat → Int32) × (Nat → Int32) × (Nat → Int32)) := (some ((upd (upd (upd V_t 2 (V_p1 2)) 3 (V_p1 3)) 4 (V_p1 4)), (va_cpy V_p1_songs V_t_songs (0 : Int32).toNatClampNeg (0 : Int32).toNatClampNeg (12 : Int32).toNatClampNeg), (va_cpy V_p1_rocks V_t_rocks (0 : Int32).toNatClampNeg (0 : Int32).toNatClampNeg (12 : Int32).toNatClampNeg)))
theorem ok_X3_copy : xV yX3_copy cX3_copy 2 none 1 := ⟨tw_487, tw_486, tw_14, tw_52, by decide +kernel, by decide +kernel, by decide +kernel⟩
set_option maxHeartbeats 4000000 in
set_option maxRecDepth 100000 in
theorem c_X3_copy (l : Launch) (D : va_G) (cI cB : ClassId) (A_t A_t_songs A_t_rocks A_p1 A_p1_songs A_p1_rocks : Nat) (V_t : Nat → Int32) (V_t_songs : Nat → Int32) (V_t_rocks : Nat → Int32) (V_p1 : Nat → Int32) (V_p1_songs : Nat → Int32) (V_p1_rocks : Nat → Int32) (r : (Nat → Int32) × (Nat → Int32) × (Nat → Int32)) (hM : X3_copy V_t V_t_songs V_t_rocks V_p1 V_p1_songs V_p1_rocks = some r) : xC l D (xT cI cB) yX3_copy cX3_copy 2 none { frames := 1, cells := 0, slots := 0, locals := 18 } [.ref A_t, .ref A_p1] [(A_t, oX3 A_t_songs A_t_rocks V_t), (A_t_songs, .inl (cI, 12, .inl V_t_songs)), (A_t_rocks, .inl (cI, 12, .inl V_t_rocks)), (A_p1, oX3 A_p1_songs A_p1_rocks V_p1), (A_p1_songs, .inl (cI, 12, .inl V_p1_songs)), (A_p1_rocks, .inl (cI, 12, .inl V_p1_rocks))] none [(A_t, oX3 A_t_songs A_t_rocks r.1), (A_t_songs, .inl (cI, 12, .inl r.2.1)), (A_t_rocks, .inl (cI, 12, .inl r.2.2)), (A_p1, oX3 A_p1_songs A_p1_rocks V_p1), (A_p1_songs, .inl (cI, 12, .inl V_p1_songs)), (A_p1_rocks, .inl (cI, 12, .inl V_p1_rocks))] := by
  refine xC.of (by decide +kernel) (Nat.le_of_ble_eq_true rfl) (fun p e s m below meth c A ls E hP hD hS hl => ?_)
  obtain ⟨hx, hb, hr, hts, hown, hml, hlocks, hA, hK⟩ := id E
  replace hl : lv_has ls 2 [(0, .ref A_t), (1, .ref A_p1)] := hl
  rw [X3_copy] at hM
  refine lv_aload_n hx hb dX3_copy_0 rfl (lv_at hl 1 rfl) ?_
  refine gx3_0 E hP 3 rfl tw_90 dX3_copy_1 ?_
  refine lv_iconst (v := 0) hx hb dX3_copy_4 (by decide) ?_
  refine lv_aload_n hx hb dX3_copy_5 rfl (lv_at hl 0 rfl) ?_
  refine gx3_0 E hP 0 rfl tw_90 dX3_copy_6 ?_
  refine lv_iconst (v := 0) hx hb dX3_copy_9 (by decide) ?_
  refine lv_bipush (v := 12) hx hb dX3_copy_10 (by decide) ?_
  refine x_copy (wn := [(A_t, oX3 A_t_songs A_t_rocks V_t), (A_t_songs, .inl (cI, 12, .inl (va_cpy V_p1_songs V_t_songs (0 : Int32).toNatClampNeg (0 : Int32).toNatClampNeg (12 : Int32).toNatClampNeg))), (A_t_rocks, .inl (cI, 12, .inl V_t_rocks)), (A_p1, oX3 A_p1_songs A_p1_rocks V_p1), (A_p1_songs, .inl (cI, 12, .inl V_p1_songs)), (A_p1_rocks, .inl (cI, 12, .inl V_p1_rocks))]) E hl.1 tw_488 tw_431 tw_430 tw_57 hP hD hS 4 1 rfl rfl (by decide) (by decide) (by decide) (by decide) (by decide) (Nat.le_of_ble_eq_true rfl) (Nat.le_of_ble_eq_true rfl) dX3_copy_12 rfl (fun H locs hP hD hS => ?_)
  refine lv_aload_n hx hb dX3_copy_15 rfl (lv_at hl 1 rfl) ?_
  refine gx3_1 E hP 3 rfl tw_91 dX3_copy_16 ?_
  refine lv_iconst (v := 0) hx hb dX3_copy_19 (by decide) ?_
  refine lv_aload_n hx hb dX3_copy_20 rfl (lv_at hl 0 rfl) ?_
  refine gx3_1 E hP 0 rfl tw_91 dX3_copy_21 ?_
  refine lv_iconst (v := 0) hx hb dX3_copy_24 (by decide) ?_
  refine lv_bipush (v := 12) hx hb dX3_copy_25 (by decide) ?_
  refine x_copy (wn := [(A_t, oX3 A_t_songs A_t_rocks V_t), (A_t_songs, .inl (cI, 12, .inl (va_cpy V_p1_songs V_t_songs (0 : Int32).toNatClampNeg (0 : Int32).toNatClampNeg (12 : Int32).toNatClampNeg))), (A_t_rocks, .inl (cI, 12, .inl (va_cpy V_p1_rocks V_t_rocks (0 : Int32).toNatClampNeg (0 : Int32).toNatClampNeg (12 : Int32).toNatClampNeg))), (A_p1, oX3 A_p1_songs A_p1_rocks V_p1), (A_p1_songs, .inl (cI, 12, .inl V_p1_songs)), (A_p1_rocks, .inl (cI, 12, .inl V_p1_rocks))]) E hl.1 tw_488 tw_431 tw_430 tw_57 hP hD hS 5 2 rfl rfl (by decide) (by decide) (by decide) (by decide) (by decide) (Nat.le_of_ble_eq_true rfl) (Nat.le_of_ble_eq_true rfl) dX3_copy_27 rfl (fun H locs hP hD hS => ?_)
  refine lv_aload_n hx hb dX3_copy_30 rfl (lv_at hl 0 rfl) ?_
  refine lv_aload_n hx hb dX3_copy_31 rfl (lv_at hl 1 rfl) ?_
  refine gx3_2 (v := (V_p1 2)) E hP 3 rfl rfl tw_92 dX3_copy_32 ?_
  refine px3_2 (wn := [(A_t, oX3 A_t_songs A_t_rocks (upd V_t 2 (V_p1 2))), (A_t_songs, .inl (cI, 12, .inl (va_cpy V_p1_songs V_t_songs (0 : Int32).toNatClampNeg (0 : Int32).toNatClampNeg (12 : Int32).toNatClampNeg))), (A_t_rocks, .inl (cI, 12, .inl (va_cpy V_p1_rocks V_t_rocks (0 : Int32).toNatClampNeg (0 : Int32).toNatClampNeg (12 : Int32).toNatClampNeg))), (A_p1, oX3 A_p1_songs A_p1_rocks V_p1), (A_p1_songs, .inl (cI, 12, .inl V_p1_songs)), (A_p1_rocks, .inl (cI, 12, .inl V_p1_rocks))]) E hP hD hS 0 rfl tw_92 dX3_copy_35 rfl (fun H locs hP hD hS => ?_)
  refine lv_aload_n hx hb dX3_copy_38 rfl (lv_at hl 0 rfl) ?_
  refine lv_aload_n hx hb dX3_copy_39 rfl (lv_at hl 1 rfl) ?_
  refine gx3_3 (v := (V_p1 3)) E hP 3 rfl rfl tw_95 dX3_copy_40 ?_
  refine px3_3 (wn := [(A_t, oX3 A_t_songs A_t_rocks (upd (upd V_t 2 (V_p1 2)) 3 (V_p1 3))), (A_t_songs, .inl (cI, 12, .inl (va_cpy V_p1_songs V_t_songs (0 : Int32).toNatClampNeg (0 : Int32).toNatClampNeg (12 : Int32).toNatClampNeg))), (A_t_rocks, .inl (cI, 12, .inl (va_cpy V_p1_rocks V_t_rocks (0 : Int32).toNatClampNeg (0 : Int32).toNatClampNeg (12 : Int32).toNatClampNeg))), (A_p1, oX3 A_p1_songs A_p1_rocks V_p1), (A_p1_songs, .inl (cI, 12, .inl V_p1_songs)), (A_p1_rocks, .inl (cI, 12, .inl V_p1_rocks))]) E hP hD hS 0 rfl tw_95 dX3_copy_43 rfl (fun H locs hP hD hS => ?_)
  refine lv_aload_n hx hb dX3_copy_46 rfl (lv_at hl 0 rfl) ?_
  refine lv_aload_n hx hb dX3_copy_47 rfl (lv_at hl 1 rfl) ?_
  refine gx3_4 (v := (V_p1 4)) E hP 3 rfl rfl tw_98 dX3_copy_48 ?_
  refine px3_4 (wn := [(A_t, oX3 A_t_songs A_t_rocks (upd (upd (upd V_t 2 (V_p1 2)) 3 (V_p1 3)) 4 (V_p1 4))), (A_t_songs, .inl (cI, 12, .inl (va_cpy V_p1_songs V_t_songs (0 : Int32).toNatClampNeg (0 : Int32).toNatClampNeg (12 : Int32).toNatClampNeg))), (A_t_rocks, .inl (cI, 12, .inl (va_cpy V_p1_rocks V_t_rocks (0 : Int32).toNatClampNeg (0 : Int32).toNatClampNeg (12 : Int32).toNatClampNeg))), (A_p1, oX3 A_p1_songs A_p1_rocks V_p1), (A_p1_songs, .inl (cI, 12, .inl V_p1_songs)), (A_p1_rocks, .inl (cI, 12, .inl V_p1_rocks))]) E hP hD hS 0 rfl tw_98 dX3_copy_51 rfl (fun H locs hP hD hS => ?_)
  obtain rfl := Option.some.inj hM
  exact x_vret E hP hD hS dX3_copy_54
def X3_copyWeaker_7 (n : Nat) (V_p1 : Nat → Int32) (V_p1_songs : Nat → Int32) (V_p1_rocks : Nat → Int32) : Nat → (Nat → Int32) → (Nat → Int32) → (Nat → Int32) → Int32 → Int32 → Option ((Nat → Int32) × (Nat → Int32) × (Nat → Int32))
  | 0, _, _, _, _, _ => none
  | k + 1, V_t, V_t_songs, V_t_rocks, L2, L3 => (if (V_t 4) ≤ L3 then (some (V_t, V_t_songs, V_t_rocks)) else ((X3_songAt V_t V_t_songs L3).bind fun u3 => ((X3_setSong V_t V_t_songs L3 (if (0 : Int32) < (u3 - L2) then (u3 - L2) else (0 : Int32))).bind fun u5 => (X3_copyWeaker_7 n V_p1 V_p1_songs V_p1_rocks k V_t u5 V_t_rocks L2 (L3 + 1)))))
set_option maxHeartbeats 4000000 in
set_option maxRecDepth 100000 in
theorem lp_X3_copyWeaker_7 (n : Nat) (l : Launch) (D : va_G) (cI cB : ClassId) (A_t A_t_songs A_t_rocks A_p1 A_p1_songs A_p1_rocks : Nat) (V_p1 : Nat → Int32) (V_p1_songs : Nat → Int32) (V_p1_rocks : Nat → Int32) (r : (Nat → Int32) × (Nat → Int32) × (Nat → Int32)) {p : Program} {e : Env} {s : State} {m : MethodId} {args : Array Value} {below : List Frame} {meth : Method} {c : Code} {A : Nat → Prop} (E : xE p s m args meth c A D (xT cI cB) RX3 cX3_copyWeaker 4 none) :
    ∀ (k : Nat) (V_t : Nat → Int32) (V_t_songs : Nat → Int32) (V_t_rocks : Nat → Int32) (L2 : Int32) (L3 : Int32), X3_copyWeaker_7 n V_p1 V_p1_songs V_p1_rocks k V_t V_t_songs V_t_rocks L2 L3 = some r → ∀ (H : Heap) (locs : List Loc) (ls : Array Slot), va_P D vwCl [(A_t, oX3 A_t_songs A_t_rocks V_t), (A_t_songs, .inl (cI, 12, .inl V_t_songs)), (A_t_rocks, .inl (cI, 12, .inl V_t_rocks)), (A_p1, oX3 A_p1_songs A_p1_rocks V_p1), (A_p1_songs, .inl (cI, 12, .inl V_p1_songs)), (A_p1_rocks, .inl (cI, 12, .inl V_p1_rocks))] H → va_D A [(A_t, oX3 A_t_songs A_t_rocks V_t), (A_t_songs, .inl (cI, 12, .inl V_t_songs)), (A_t_rocks, .inl (cI, 12, .inl V_t_rocks)), (A_p1, oX3 A_p1_songs A_p1_rocks V_p1), (A_p1_songs, .inl (cI, 12, .inl V_p1_songs)), (A_p1_rocks, .inl (cI, 12, .inl V_p1_rocks))] → va_S A s.heap H locs → lv_has ls 4 [(0, .ref A_t), (1, .ref A_p1), (2, .int L2), (3, .int L3)] → W p l e { frames := 2, cells := 0, slots := 0, locals := 39 } s m args below meth c H locs 0 0 (MQ below (xQ D (xT cI cB) [(A_t, oX3 A_t_songs A_t_rocks r.1), (A_t_songs, .inl (cI, 12, .inl r.2.1)), (A_t_rocks, .inl (cI, 12, .inl r.2.2)), (A_p1, oX3 A_p1_songs A_p1_rocks V_p1), (A_p1_songs, .inl (cI, 12, .inl V_p1_songs)), (A_p1_rocks, .inl (cI, 12, .inl V_p1_rocks))] none A) args s 0 0 A) (F0 m 7 ls []) := by
  obtain ⟨hx, hb, hr, hts, hown, hml, hlocks, hA, hK⟩ := id E
  intro k
  induction k with
  | zero =>
    intro V_t V_t_songs V_t_rocks L2 L3 hM
    rw [X3_copyWeaker_7] at hM
    cases hM
  | succ k ih =>
    intro V_t V_t_songs V_t_rocks L2 L3 hM H locs ls hP hD hS hl
    rw [X3_copyWeaker_7] at hM
    refine lv_iload_n hx hb dX3_copyWeaker_7 rfl (lv_at hl 3 rfl) ?_
    refine lv_aload_n hx hb dX3_copyWeaker_8 rfl (lv_at hl 0 rfl) ?_
    refine gx3_4 (v := (V_t 4)) E hP 0 rfl rfl tw_98 dX3_copyWeaker_9 ?_
    refine lv_icmp_ge (tgt := 37) hx hb dX3_copyWeaker_12 (by decide) (fun c7 => ?_) (fun c7 => ?_)
    · replace hM := og_p c7 hM
      obtain rfl := Option.some.inj hM
      exact x_vret E hP hD hS dX3_copyWeaker_37
    · replace hM := og_n c7 hM
      refine lv_aload_n hx hb dX3_copyWeaker_15 rfl (lv_at hl 0 rfl) ?_
      refine lv_iload_n hx hb dX3_copyWeaker_16 rfl (lv_at hl 3 rfl) ?_
      refine lv_iconst (v := 0) hx hb dX3_copyWeaker_17 (by decide) ?_
      refine lv_aload_n hx hb dX3_copyWeaker_18 rfl (lv_at hl 0 rfl) ?_
      refine lv_iload_n hx hb dX3_copyWeaker_19 rfl (lv_at hl 3 rfl) ?_
      obtain ⟨u3, hu4, hM⟩ := og_b hM
      refine x_Vi (n := 1) (q0 := 0) (rest := [.int (0 : Int32), .int L3, .ref A_t]) (wn := [(A_t, oX3 A_t_songs A_t_rocks V_t), (A_t_songs, .inl (cI, 12, .inl V_t_songs)), (A_t_rocks, .inl (cI, 12, .inl V_t_rocks)), (A_p1, oX3 A_p1_songs A_p1_rocks V_p1), (A_p1_songs, .inl (cI, 12, .inl V_p1_songs)), (A_p1_rocks, .inl (cI, 12, .inl V_p1_rocks))]) E (c_X3_songAt l D cI cB A_t A_t_songs A_t_rocks V_t V_t_songs L3 u3 hu4) ok_X3_songAt tw_489 ⟨rfl, rfl⟩ ⟨Nat.le_of_ble_eq_true rfl, Nat.le_of_ble_eq_true rfl⟩ rfl rfl (Nat.le_of_ble_eq_true rfl) hl dX3_copyWeaker_20 ⟨Nat.zero_le _, Nat.zero_le _⟩ hP hD hS [0, 1] [2, 3, 4, 5] [(A_t_rocks, .inl (cI, 12, .inl V_t_rocks)), (A_p1, oX3 A_p1_songs A_p1_rocks V_p1), (A_p1_songs, .inl (cI, 12, .inl V_p1_songs)), (A_p1_rocks, .inl (cI, 12, .inl V_p1_rocks))] [A_t, A_t_songs, A_t_rocks, A_p1, A_p1_songs, A_p1_rocks] 6 rfl rfl rfl rfl rfl rfl rfl (by decide +kernel) rfl rfl rfl (fun H locs hP hD hS => ?_)
      refine lv_iload_n hx hb dX3_copyWeaker_23 rfl (lv_at hl 2 rfl) ?_
      refine lv_isub hx hb dX3_copyWeaker_24 ?_
      refine va_mmax hx hb (hml.trans hl.1.symm) hown (hts _ tw_490) (hts _ tw_491) (hts _ tw_59) (hts _ tw_492) (Nat.le_of_ble_eq_true rfl) (Nat.le_of_ble_eq_true rfl) (Nat.zero_le _) (Nat.zero_le _) dX3_copyWeaker_25 ?_
      obtain ⟨u5, hu6, hM⟩ := og_b hM
      refine x_Vv (n := 2) (q0 := 0) (rest := []) (wn := [(A_t, oX3 A_t_songs A_t_rocks V_t), (A_t_songs, .inl (cI, 12, .inl u5)), (A_t_rocks, .inl (cI, 12, .inl V_t_rocks)), (A_p1, oX3 A_p1_songs A_p1_rocks V_p1), (A_p1_songs, .inl (cI, 12, .inl V_p1_songs)), (A_p1_rocks, .inl (cI, 12, .inl V_p1_rocks))]) E (c_X3_setSong l D cI cB A_t A_t_songs A_t_rocks V_t V_t_songs L3 (if (0 : Int32) < (u3 - L2) then (u3 - L2) else (0 : Int32)) u5 hu6) ok_X3_setSong tw_262 ⟨rfl, rfl⟩ ⟨Nat.le_of_ble_eq_true rfl, Nat.le_of_ble_eq_true rfl⟩ rfl rfl (Nat.le_of_ble_eq_true rfl) hl dX3_copyWeaker_28 ⟨Nat.zero_le _, Nat.zero_le _⟩ hP hD hS [0, 1] [2, 3, 4, 5] [(A_t_rocks, .inl (cI, 12, .inl V_t_rocks)), (A_p1, oX3 A_p1_songs A_p1_rocks V_p1), (A_p1_songs, .inl (cI, 12, .inl V_p1_songs)), (A_p1_rocks, .inl (cI, 12, .inl V_p1_rocks))] [A_t, A_t_songs, A_t_rocks, A_p1, A_p1_songs, A_p1_rocks] 6 rfl rfl rfl rfl rfl rfl rfl (by decide +kernel) rfl rfl rfl (fun H locs hP hD hS => ?_)
      refine lv_iinc (v := (L3 + 1)) (lv' := [(3, .int (L3 + 1)), (0, .ref A_t), (1, .ref A_p1), (2, .int L2)]) hx hb dX3_copyWeaker_31 hl (k := 3) rfl rfl (by decide) rfl (fun ls hl => ?_)
      refine lv_goto (tgt := 7) hx hb dX3_copyWeaker_34 (by decide) ?_
      exact ih V_t u5 V_t_rocks L2 (L3 + 1) hM _ _ _ hP hD hS (lv_sub hl [1, 2, 3, 0] rfl)
def X3_copyWeaker (n : Nat) (V_t : Nat → Int32) (V_t_songs : Nat → Int32) (V_t_rocks : Nat → Int32) (V_p1 : Nat → Int32) (V_p1_songs : Nat → Int32) (V_p1_rocks : Nat → Int32) (P2 : Int32) : Option ((Nat → Int32) × (Nat → Int32) × (Nat → Int32)) := ((X3_copy V_t V_t_songs V_t_rocks V_p1 V_p1_songs V_p1_rocks).bind fun u1 => (X3_copyWeaker_7 n V_p1 V_p1_songs V_p1_rocks n u1.1 u1.2.1 u1.2.2 P2 (0 : Int32)))
theorem ok_X3_copyWeaker : xV yX3_copyWeaker cX3_copyWeaker 4 none 2 := ⟨tw_483, tw_481, tw_482, tw_52, by decide +kernel, by decide +kernel, by decide +kernel⟩
set_option maxHeartbeats 4000000 in
set_option maxRecDepth 100000 in
theorem c_X3_copyWeaker (n : Nat) (l : Launch) (D : va_G) (cI cB : ClassId) (A_t A_t_songs A_t_rocks A_p1 A_p1_songs A_p1_rocks : Nat) (V_t : Nat → Int32) (V_t_songs : Nat → Int32) (V_t_rocks : Nat → Int32) (V_p1 : Nat → Int32) (V_p1_songs : Nat → Int32) (V_p1_rocks : Nat → Int32) (P2 : Int32) (r : (Nat → Int32) × (Nat → Int32) × (Nat → Int32)) (hM : X3_copyWeaker n V_t V_t_songs V_t_rocks V_p1 V_p1_songs V_p1_rocks P2 = some r) : xC l D (xT cI cB) yX3_copyWeaker cX3_copyWeaker 4 none { frames := 2, cells := 0, slots := 0, locals := 39 } [.ref A_t, .ref A_p1, .int P2] [(A_t, oX3 A_t_songs A_t_rocks V_t), (A_t_songs, .inl (cI, 12, .inl V_t_songs)), (A_t_rocks, .inl (cI, 12, .inl V_t_rocks)), (A_p1, oX3 A_p1_songs A_p1_rocks V_p1), (A_p1_songs, .inl (cI, 12, .inl V_p1_songs)), (A_p1_rocks, .inl (cI, 12, .inl V_p1_rocks))] none [(A_t, oX3 A_t_songs A_t_rocks r.1), (A_t_songs, .inl (cI, 12, .inl r.2.1)), (A_t_rocks, .inl (cI, 12, .inl r.2.2)), (A_p1, oX3 A_p1_songs A_p1_rocks V_p1), (A_p1_songs, .inl (cI, 12, .inl V_p1_songs)), (A_p1_rocks, .inl (cI, 12, .inl V_p1_rocks))] := by
  refine xC.of (by decide +kernel) (Nat.le_of_ble_eq_true rfl) (fun p e s m below meth c A ls E hP hD hS hl => ?_)
  obtain ⟨hx, hb, hr, hts, hown, hml, hlocks, hA, hK⟩ := id E
  replace hl : lv_has ls 4 [(0, .ref A_t), (1, .ref A_p1), (2, .int P2)] := hl
  rw [X3_copyWeaker] at hM
  refine lv_aload_n hx hb dX3_copyWeaker_0 rfl (lv_at hl 0 rfl) ?_
  refine lv_aload_n hx hb dX3_copyWeaker_1 rfl (lv_at hl 1 rfl) ?_
  obtain ⟨u1, hu2, hM⟩ := og_b hM
  refine x_Vv (n := 1) (q0 := 0) (rest := []) (wn := [(A_t, oX3 A_t_songs A_t_rocks u1.1), (A_t_songs, .inl (cI, 12, .inl u1.2.1)), (A_t_rocks, .inl (cI, 12, .inl u1.2.2)), (A_p1, oX3 A_p1_songs A_p1_rocks V_p1), (A_p1_songs, .inl (cI, 12, .inl V_p1_songs)), (A_p1_rocks, .inl (cI, 12, .inl V_p1_rocks))]) E (c_X3_copy l D cI cB A_t A_t_songs A_t_rocks A_p1 A_p1_songs A_p1_rocks V_t V_t_songs V_t_rocks V_p1 V_p1_songs V_p1_rocks u1 hu2) ok_X3_copy tw_484 ⟨rfl, rfl⟩ ⟨Nat.le_of_ble_eq_true rfl, Nat.le_of_ble_eq_true rfl⟩ rfl rfl (Nat.le_of_ble_eq_true rfl) hl dX3_copyWeaker_2 ⟨Nat.zero_le _, Nat.zero_le _⟩ hP hD hS [0, 1, 2, 3, 4, 5] [] [] [A_t, A_t_songs, A_t_rocks, A_p1, A_p1_songs, A_p1_rocks] 6 rfl rfl rfl rfl rfl rfl rfl (by decide +kernel) rfl rfl rfl (fun H locs hP hD hS => ?_)
  refine lv_iconst (v := 0) hx hb dX3_copyWeaker_5 (by decide) ?_
  refine lv_istore_n (lv' := [(3, .int (0 : Int32)), (0, .ref A_t), (1, .ref A_p1), (2, .int P2)]) hx hb dX3_copyWeaker_6 rfl hl (by decide) rfl (fun ls hl => ?_)
  exact lp_X3_copyWeaker_7 n l D cI cB A_t A_t_songs A_t_rocks A_p1 A_p1_songs A_p1_rocks V_p1 V_p1_songs V_p1_rocks r E n u1.1 u1.2.1 u1.2.2 P2 (0 : Int32) hM _ _ _ hP hD hS (lv_sub hl [1, 2, 3, 0] rfl)
def X1_add (V_t : Nat → Int32) (V_t_sets : Nat → Int32) (P1 : Int32) : Option ((Nat → Int32) × (Nat → Int32)) := (if (V_t 1) < 0 then (some (V_t, V_t_sets)) else (if (8 : Int32) ≤ (V_t 1) then (some (V_t, V_t_sets)) else (if xin (V_t 1) 8 then (some ((upd V_t 1 ((V_t 1) + (1 : Int32))), (upd V_t_sets (V_t 1).toNatClampNeg P1))) else none)))
theorem ok_X1_add : xV yX1_add cX1_add 2 none 1 := ⟨tw_500, tw_498, tw_499, tw_55, by decide +kernel, by decide +kernel, by decide +kernel⟩
set_option maxHeartbeats 4000000 in
set_option maxRecDepth 100000 in
theorem c_X1_add (l : Launch) (D : va_G) (cI cB : ClassId) (A_t A_t_sets : Nat) (V_t : Nat → Int32) (V_t_sets : Nat → Int32) (P1 : Int32) (r : (Nat → Int32) × (Nat → Int32)) (hM : X1_add V_t V_t_sets P1 = some r) : xC l D (xT cI cB) yX1_add cX1_add 2 none { frames := 0, cells := 0, slots := 0, locals := 0 } [.ref A_t, .int P1] [(A_t, oX1 A_t_sets V_t), (A_t_sets, .inl (cI, 8, .inl V_t_sets))] none [(A_t, oX1 A_t_sets r.1), (A_t_sets, .inl (cI, 8, .inl r.2))] := by
  refine xC.of (by decide +kernel) (Nat.le_of_ble_eq_true rfl) (fun p e s m below meth c A ls E hP hD hS hl => ?_)
  obtain ⟨hx, hb, hr, hts, hown, hml, hlocks, hA, hK⟩ := id E
  replace hl : lv_has ls 2 [(0, .ref A_t), (1, .int P1)] := hl
  rw [X1_add] at hM
  refine lv_aload_n hx hb dX1_add_0 rfl (lv_at hl 0 rfl) ?_
  refine gx1_1 (v := (V_t 1)) E hP 0 rfl rfl tw_170 dX1_add_1 ?_
  refine lv_if_lt (tgt := 36) hx hb dX1_add_4 (by decide) (fun c3 => ?_) (fun c3 => ?_)
  · replace hM := og_p c3 hM
    obtain rfl := Option.some.inj hM
    exact x_vret E hP hD hS dX1_add_36
  · replace hM := og_n c3 hM
    refine lv_aload_n hx hb dX1_add_7 rfl (lv_at hl 0 rfl) ?_
    refine gx1_1 (v := (V_t 1)) E hP 0 rfl rfl tw_170 dX1_add_8 ?_
    refine lv_bipush (v := 8) hx hb dX1_add_11 (by decide) ?_
    refine lv_icmp_ge (tgt := 36) hx hb dX1_add_13 (by decide) (fun c2 => ?_) (fun c2 => ?_)
    · replace hM := og_p c2 hM
      obtain rfl := Option.some.inj hM
      exact x_vret E hP hD hS dX1_add_36
    · replace hM := og_n c2 hM
      refine lv_aload_n hx hb dX1_add_16 rfl (lv_at hl 0 rfl) ?_
      refine gx1_0 E hP 0 rfl tw_169 dX1_add_17 ?_
      refine lv_aload_n hx hb dX1_add_20 rfl (lv_at hl 0 rfl) ?_
      refine gx1_1 (v := (V_t 1)) E hP 0 rfl rfl tw_170 dX1_add_21 ?_
      refine lv_iload_n hx hb dX1_add_24 rfl (lv_at hl 1 rfl) ?_
      obtain ⟨hi1, hM⟩ := og_g hM
      refine x_iast (wn := [(A_t, oX1 A_t_sets V_t), (A_t_sets, .inl (cI, 8, .inl (upd V_t_sets (V_t 1).toNatClampNeg P1)))]) E hi1 hP hD hS 1 rfl dX1_add_25 rfl (fun H locs hP hD hS => ?_)
      refine lv_aload_n hx hb dX1_add_26 rfl (lv_at hl 0 rfl) ?_
      refine lv_dup hx hb dX1_add_27 rfl ?_
      refine gx1_1 (v := (V_t 1)) E hP 0 rfl rfl tw_170 dX1_add_28 ?_
      refine lv_iconst (v := 1) hx hb dX1_add_31 (by decide) ?_
      refine lv_iadd hx hb dX1_add_32 ?_
      refine px1_1 (wn := [(A_t, oX1 A_t_sets (upd V_t 1 ((V_t 1) + (1 : Int32)))), (A_t_sets, .inl (cI, 8, .inl (upd V_t_sets (V_t 1).toNatClampNeg P1)))]) E hP hD hS 0 rfl tw_170 dX1_add_33 rfl (fun H locs hP hD hS => ?_)
      obtain rfl := Option.some.inj hM
      exact x_vret E hP hD hS dX1_add_36
def X1_setAt (V_t : Nat → Int32) (V_t_sets : Nat → Int32) (P1 : Int32) : Option (Int32) := (if P1 < 0 then (some ((0 : Int32))) else (if (8 : Int32) ≤ P1 then (some ((0 : Int32))) else (if xin P1 8 then (some ((V_t_sets P1.toNatClampNeg))) else none)))
theorem ok_X1_setAt : xV yX1_setAt cX1_setAt 2 (some .int) 1 := ⟨tw_520, tw_518, tw_519, tw_55, by decide +kernel, by decide +kernel, by decide +kernel⟩
set_option maxHeartbeats 4000000 in
set_option maxRecDepth 100000 in
theorem c_X1_setAt (l : Launch) (D : va_G) (cI cB : ClassId) (A_t A_t_sets : Nat) (V_t : Nat → Int32) (V_t_sets : Nat → Int32) (P1 : Int32) (r : Int32) (hM : X1_setAt V_t V_t_sets P1 = some r) : xC l D (xT cI cB) yX1_setAt cX1_setAt 2 (some .int) { frames := 0, cells := 0, slots := 0, locals := 0 } [.ref A_t, .int P1] [(A_t, oX1 A_t_sets V_t), (A_t_sets, .inl (cI, 8, .inl V_t_sets))] (some (.int r)) [(A_t, oX1 A_t_sets V_t), (A_t_sets, .inl (cI, 8, .inl V_t_sets))] := by
  refine xC.of (by decide +kernel) (Nat.le_of_ble_eq_true rfl) (fun p e s m below meth c A ls E hP hD hS hl => ?_)
  obtain ⟨hx, hb, hr, hts, hown, hml, hlocks, hA, hK⟩ := id E
  replace hl : lv_has ls 2 [(0, .ref A_t), (1, .int P1)] := hl
  rw [X1_setAt] at hM
  refine lv_iload_n hx hb dX1_setAt_0 rfl (lv_at hl 1 rfl) ?_
  refine lv_if_lt (tgt := 19) hx hb dX1_setAt_1 (by decide) (fun c3 => ?_) (fun c3 => ?_)
  · replace hM := og_p c3 hM
    refine lv_iconst (v := 0) hx hb dX1_setAt_19 (by decide) ?_
    obtain rfl := Option.some.inj hM
    exact x_iret E hP hD hS dX1_setAt_20
  · replace hM := og_n c3 hM
    refine lv_iload_n hx hb dX1_setAt_4 rfl (lv_at hl 1 rfl) ?_
    refine lv_bipush (v := 8) hx hb dX1_setAt_5 (by decide) ?_
    refine lv_icmp_ge (tgt := 19) hx hb dX1_setAt_7 (by decide) (fun c2 => ?_) (fun c2 => ?_)
    · replace hM := og_p c2 hM
      refine lv_iconst (v := 0) hx hb dX1_setAt_19 (by decide) ?_
      obtain rfl := Option.some.inj hM
      exact x_iret E hP hD hS dX1_setAt_20
    · replace hM := og_n c2 hM
      refine lv_aload_n hx hb dX1_setAt_10 rfl (lv_at hl 0 rfl) ?_
      refine gx1_0 E hP 0 rfl tw_169 dX1_setAt_11 ?_
      refine lv_iload_n hx hb dX1_setAt_14 rfl (lv_at hl 1 rfl) ?_
      obtain ⟨hi1, hM⟩ := og_g hM
      refine x_iald E hi1 hP 1 rfl dX1_setAt_15 ?_
      refine lv_goto (tgt := 20) hx hb dX1_setAt_16 (by decide) ?_
      obtain rfl := Option.some.inj hM
      exact x_iret E hP hD hS dX1_setAt_20
def X3_seedAfter (P1 : Int32) : Option (Int32) := (some (((((1103515245 : Int64) * P1.toInt64) + (12345 : Int64)) - (((1103515245 : Int64) * P1.toInt64) + (12345 : Int64)) / (2147483648 : Int64) * (2147483648 : Int64)).toInt32))
theorem ok_X3_seedAfter : xSt yX3_seedAfter cX3_seedAfter 1 (some .int) 1 := ⟨tw_535, tw_534, tw_52, by decide +kernel, by decide +kernel, by decide +kernel⟩
set_option maxHeartbeats 4000000 in
set_option maxRecDepth 100000 in
theorem c_X3_seedAfter (l : Launch) (D : va_G) (cI cB : ClassId) (P1 : Int32) (r : Int32) (hM : X3_seedAfter P1 = some r) : xC l D (xT cI cB) yX3_seedAfter cX3_seedAfter 1 (some .int) { frames := 0, cells := 0, slots := 0, locals := 0 } [.int P1] [] (some (.int r)) [] := by
  refine xC.of (by decide +kernel) (Nat.le_of_ble_eq_true rfl) (fun p e s m below meth c A ls E hP hD hS hl => ?_)
  obtain ⟨hx, hb, hr, hts, hown, hml, hlocks, hA, hK⟩ := id E
  replace hl : lv_has ls 1 [(0, .int P1)] := hl
  rw [X3_seedAfter] at hM
  refine lv_ldc2 (v := 1103515245) hx hb hown (hts _ tw_536) dX3_seedAfter_0 ?_
  refine lv_iload_n hx hb dX3_seedAfter_3 rfl (lv_at hl 0 rfl) ?_
  refine lv_i2l (v := P1.toInt64) hx hb dX3_seedAfter_4 rfl ?_
  refine lv_lmul hx hb dX3_seedAfter_5 ?_
  refine lv_ldc2 (v := 12345) hx hb hown (hts _ tw_537) dX3_seedAfter_6 ?_
  refine lv_ladd hx hb dX3_seedAfter_9 ?_
  refine lv_ldc2 (v := 2147483648) hx hb hown (hts _ tw_538) dX3_seedAfter_10 ?_
  refine lv_lrem hx hb dX3_seedAfter_13 (by decide) ?_
  refine lv_l2i (v := ((((1103515245 : Int64) * P1.toInt64) + (12345 : Int64)) - (((1103515245 : Int64) * P1.toInt64) + (12345 : Int64)) / (2147483648 : Int64) * (2147483648 : Int64)).toInt32) hx hb dX3_seedAfter_14 rfl ?_
  obtain rfl := Option.some.inj hM
  exact x_iret E hP hD hS dX3_seedAfter_15
def X3_copyDrawn_10 (n : Nat) (V_p1 : Nat → Int32) (V_p1_songs : Nat → Int32) (V_p1_rocks : Nat → Int32) : Nat → (Nat → Int32) → (Nat → Int32) → (Nat → Int32) → Int32 → Int32 → Int32 → Option (Int32 × (Nat → Int32) × (Nat → Int32) × (Nat → Int32))
  | 0, _, _, _, _, _, _ => none
  | k + 1, V_t, V_t_songs, V_t_rocks, L2, L3, L4 => (if (V_t 4) ≤ L4 then (some (L3, V_t, V_t_songs, V_t_rocks)) else ((X3_songAt V_t V_t_songs L4).bind fun u3 => (if u3 ≤ 0 then (X3_copyDrawn_10 n V_p1 V_p1_songs V_p1_rocks k V_t V_t_songs V_t_rocks L2 L3 (L4 + 1)) else ((X3_seedAfter L3).bind fun u5 => ((X3_setSong V_t V_t_songs L4 ((u5 / (65536 : Int32)) - (u5 / (65536 : Int32)) / (10 : Int32) * (10 : Int32))).bind fun u7 => (X3_copyDrawn_10 n V_p1 V_p1_songs V_p1_rocks k V_t u7 V_t_rocks L2 u5 (L4 + 1)))))))
set_option maxHeartbeats 4000000 in
set_option maxRecDepth 100000 in
theorem lp_X3_copyDrawn_10 (n : Nat) (l : Launch) (D : va_G) (cI cB : ClassId) (A_t A_t_songs A_t_rocks A_p1 A_p1_songs A_p1_rocks : Nat) (V_p1 : Nat → Int32) (V_p1_songs : Nat → Int32) (V_p1_rocks : Nat → Int32) (r : Int32 × (Nat → Int32) × (Nat → Int32) × (Nat → Int32)) {p : Program} {e : Env} {s : State} {m : MethodId} {args : Array Value} {below : List Frame} {meth : Method} {c : Code} {A : Nat → Prop} (E : xE p s m args meth c A D (xT cI cB) RX3 cX3_copyDrawn 5 (some .int)) :
    ∀ (k : Nat) (V_t : Nat → Int32) (V_t_songs : Nat → Int32) (V_t_rocks : Nat → Int32) (L2 : Int32) (L3 : Int32) (L4 : Int32), X3_copyDrawn_10 n V_p1 V_p1_songs V_p1_rocks k V_t V_t_songs V_t_rocks L2 L3 L4 = some r → ∀ (H : Heap) (locs : List Loc) (ls : Array Slot), va_P D vwCl [(A_t, oX3 A_t_songs A_t_rocks V_t), (A_t_songs, .inl (cI, 12, .inl V_t_songs)), (A_t_rocks, .inl (cI, 12, .inl V_t_rocks)), (A_p1, oX3 A_p1_songs A_p1_rocks V_p1), (A_p1_songs, .inl (cI, 12, .inl V_p1_songs)), (A_p1_rocks, .inl (cI, 12, .inl V_p1_rocks))] H → va_D A [(A_t, oX3 A_t_songs A_t_rocks V_t), (A_t_songs, .inl (cI, 12, .inl V_t_songs)), (A_t_rocks, .inl (cI, 12, .inl V_t_rocks)), (A_p1, oX3 A_p1_songs A_p1_rocks V_p1), (A_p1_songs, .inl (cI, 12, .inl V_p1_songs)), (A_p1_rocks, .inl (cI, 12, .inl V_p1_rocks))] → va_S A s.heap H locs → lv_has ls 5 [(0, .ref A_t), (1, .ref A_p1), (2, .int L2), (3, .int L3), (4, .int L4)] → W p l e { frames := 2, cells := 0, slots := 0, locals := 39 } s m args below meth c H locs 0 0 (MQ below (xQ D (xT cI cB) [(A_t, oX3 A_t_songs A_t_rocks r.2.1), (A_t_songs, .inl (cI, 12, .inl r.2.2.1)), (A_t_rocks, .inl (cI, 12, .inl r.2.2.2)), (A_p1, oX3 A_p1_songs A_p1_rocks V_p1), (A_p1_songs, .inl (cI, 12, .inl V_p1_songs)), (A_p1_rocks, .inl (cI, 12, .inl V_p1_rocks))] (some (.int r.1)) A) args s 0 0 A) (F0 m 10 ls []) := by
  obtain ⟨hx, hb, hr, hts, hown, hml, hlocks, hA, hK⟩ := id E
  intro k
  induction k with
  | zero =>
    intro V_t V_t_songs V_t_rocks L2 L3 L4 hM
    rw [X3_copyDrawn_10] at hM
    cases hM
  | succ k ih =>
    intro V_t V_t_songs V_t_rocks L2 L3 L4 hM H locs ls hP hD hS hl
    rw [X3_copyDrawn_10] at hM
    refine lv_iload hx hb dX3_copyDrawn_10 (lv_at hl 4 rfl) ?_
    refine lv_aload_n hx hb dX3_copyDrawn_12 rfl (lv_at hl 0 rfl) ?_
    refine gx3_4 (v := (V_t 4)) E hP 0 rfl rfl tw_98 dX3_copyDrawn_13 ?_
    refine lv_icmp_ge (tgt := 52) hx hb dX3_copyDrawn_16 (by decide) (fun c10 => ?_) (fun c10 => ?_)
    · replace hM := og_p c10 hM
      refine lv_iload_n hx hb dX3_copyDrawn_52 rfl (lv_at hl 3 rfl) ?_
      obtain rfl := Option.some.inj hM
      exact x_iret E hP hD hS dX3_copyDrawn_53
    · replace hM := og_n c10 hM
      refine lv_aload_n hx hb dX3_copyDrawn_19 rfl (lv_at hl 0 rfl) ?_
      refine lv_iload hx hb dX3_copyDrawn_20 (lv_at hl 4 rfl) ?_
      obtain ⟨u3, hu4, hM⟩ := og_b hM
      refine x_Vi (n := 1) (q0 := 0) (rest := []) (wn := [(A_t, oX3 A_t_songs A_t_rocks V_t), (A_t_songs, .inl (cI, 12, .inl V_t_songs)), (A_t_rocks, .inl (cI, 12, .inl V_t_rocks)), (A_p1, oX3 A_p1_songs A_p1_rocks V_p1), (A_p1_songs, .inl (cI, 12, .inl V_p1_songs)), (A_p1_rocks, .inl (cI, 12, .inl V_p1_rocks))]) E (c_X3_songAt l D cI cB A_t A_t_songs A_t_rocks V_t V_t_songs L4 u3 hu4) ok_X3_songAt tw_489 ⟨rfl, rfl⟩ ⟨Nat.le_of_ble_eq_true rfl, Nat.le_of_ble_eq_true rfl⟩ rfl rfl (Nat.le_of_ble_eq_true rfl) hl dX3_copyDrawn_22 ⟨Nat.zero_le _, Nat.zero_le _⟩ hP hD hS [0, 1] [2, 3, 4, 5] [(A_t_rocks, .inl (cI, 12, .inl V_t_rocks)), (A_p1, oX3 A_p1_songs A_p1_rocks V_p1), (A_p1_songs, .inl (cI, 12, .inl V_p1_songs)), (A_p1_rocks, .inl (cI, 12, .inl V_p1_rocks))] [A_t, A_t_songs, A_t_rocks, A_p1, A_p1_songs, A_p1_rocks] 6 rfl rfl rfl rfl rfl rfl rfl (by decide +kernel) rfl rfl rfl (fun H locs hP hD hS => ?_)
      refine lv_if_le (tgt := 46) hx hb dX3_copyDrawn_25 (by decide) (fun c9 => ?_) (fun c9 => ?_)
      · replace hM := og_p c9 hM
        refine lv_iinc (v := (L4 + 1)) (lv' := [(4, .int (L4 + 1)), (0, .ref A_t), (1, .ref A_p1), (2, .int L2), (3, .int L3)]) hx hb dX3_copyDrawn_46 hl (k := 4) rfl rfl (by decide) rfl (fun ls hl => ?_)
        refine lv_goto (tgt := 10) hx hb dX3_copyDrawn_49 (by decide) ?_
        exact ih V_t V_t_songs V_t_rocks L2 L3 (L4 + 1) hM _ _ _ hP hD hS (lv_sub hl [1, 2, 3, 4, 0] rfl)
      · replace hM := og_n c9 hM
        refine lv_iload_n hx hb dX3_copyDrawn_28 rfl (lv_at hl 3 rfl) ?_
        obtain ⟨u5, hu6, hM⟩ := og_b hM
        refine x_Si (n := 1) (rest := []) (wn := [(A_t, oX3 A_t_songs A_t_rocks V_t), (A_t_songs, .inl (cI, 12, .inl V_t_songs)), (A_t_rocks, .inl (cI, 12, .inl V_t_rocks)), (A_p1, oX3 A_p1_songs A_p1_rocks V_p1), (A_p1_songs, .inl (cI, 12, .inl V_p1_songs)), (A_p1_rocks, .inl (cI, 12, .inl V_p1_rocks))]) E (c_X3_seedAfter l D cI cB L3 u5 hu6) ok_X3_seedAfter tw_533 ⟨rfl, rfl⟩ ⟨Nat.le_of_ble_eq_true rfl, Nat.le_of_ble_eq_true rfl⟩ rfl rfl (Nat.le_of_ble_eq_true rfl) hl dX3_copyDrawn_29 ⟨Nat.zero_le _, Nat.zero_le _⟩ hP hD hS [] [0, 1, 2, 3, 4, 5] [(A_t, oX3 A_t_songs A_t_rocks V_t), (A_t_songs, .inl (cI, 12, .inl V_t_songs)), (A_t_rocks, .inl (cI, 12, .inl V_t_rocks)), (A_p1, oX3 A_p1_songs A_p1_rocks V_p1), (A_p1_songs, .inl (cI, 12, .inl V_p1_songs)), (A_p1_rocks, .inl (cI, 12, .inl V_p1_rocks))] [A_t, A_t_songs, A_t_rocks, A_p1, A_p1_songs, A_p1_rocks] 6 rfl rfl rfl rfl rfl rfl rfl (by decide +kernel) (fun H locs hP hD hS => ?_)
        refine lv_istore_n (lv' := [(3, .int u5), (0, .ref A_t), (1, .ref A_p1), (2, .int L2), (4, .int L4)]) hx hb dX3_copyDrawn_32 rfl hl (by decide) rfl (fun ls hl => ?_)
        refine lv_aload_n hx hb dX3_copyDrawn_33 rfl (lv_at hl 1 rfl) ?_
        refine lv_iload hx hb dX3_copyDrawn_34 (lv_at hl 4 rfl) ?_
        refine lv_iload_n hx hb dX3_copyDrawn_36 rfl (lv_at hl 0 rfl) ?_
        refine lv_ldc (v := 65536) hx hb hown (hts _ tw_539) dX3_copyDrawn_37 ?_
        refine lv_idiv hx hb dX3_copyDrawn_39 (by decide) ?_
        refine lv_bipush (v := 10) hx hb dX3_copyDrawn_40 (by decide) ?_
        refine lv_irem hx hb dX3_copyDrawn_42 (by decide) ?_
        obtain ⟨u7, hu8, hM⟩ := og_b hM
        refine x_Vv (n := 2) (q0 := 0) (rest := []) (wn := [(A_t, oX3 A_t_songs A_t_rocks V_t), (A_t_songs, .inl (cI, 12, .inl u7)), (A_t_rocks, .inl (cI, 12, .inl V_t_rocks)), (A_p1, oX3 A_p1_songs A_p1_rocks V_p1), (A_p1_songs, .inl (cI, 12, .inl V_p1_songs)), (A_p1_rocks, .inl (cI, 12, .inl V_p1_rocks))]) E (c_X3_setSong l D cI cB A_t A_t_songs A_t_rocks V_t V_t_songs L4 ((u5 / (65536 : Int32)) - (u5 / (65536 : Int32)) / (10 : Int32) * (10 : Int32)) u7 hu8) ok_X3_setSong tw_262 ⟨rfl, rfl⟩ ⟨Nat.le_of_ble_eq_true rfl, Nat.le_of_ble_eq_true rfl⟩ rfl rfl (Nat.le_of_ble_eq_true rfl) hl dX3_copyDrawn_43 ⟨Nat.zero_le _, Nat.zero_le _⟩ hP hD hS [0, 1] [2, 3, 4, 5] [(A_t_rocks, .inl (cI, 12, .inl V_t_rocks)), (A_p1, oX3 A_p1_songs A_p1_rocks V_p1), (A_p1_songs, .inl (cI, 12, .inl V_p1_songs)), (A_p1_rocks, .inl (cI, 12, .inl V_p1_rocks))] [A_t, A_t_songs, A_t_rocks, A_p1, A_p1_songs, A_p1_rocks] 6 rfl rfl rfl rfl rfl rfl rfl (by decide +kernel) rfl rfl rfl (fun H locs hP hD hS => ?_)
        refine lv_iinc (v := (L4 + 1)) (lv' := [(4, .int (L4 + 1)), (3, .int u5), (0, .ref A_t), (1, .ref A_p1), (2, .int L2)]) hx hb dX3_copyDrawn_46 hl (k := 4) rfl rfl (by decide) rfl (fun ls hl => ?_)
        refine lv_goto (tgt := 10) hx hb dX3_copyDrawn_49 (by decide) ?_
        exact ih V_t u7 V_t_rocks L2 u5 (L4 + 1) hM _ _ _ hP hD hS (lv_sub hl [2, 3, 4, 1, 0] rfl)
def X3_copyDrawn (n : Nat) (V_t : Nat → Int32) (V_t_songs : Nat → Int32) (V_t_rocks : Nat → Int32) (V_p1 : Nat → Int32) (V_p1_songs : Nat → Int32) (V_p1_rocks : Nat → Int32) (P2 : Int32) : Option (Int32 × (Nat → Int32) × (Nat → Int32) × (Nat → Int32)) := ((X3_copy V_t V_t_songs V_t_rocks V_p1 V_p1_songs V_p1_rocks).bind fun u1 => (X3_copyDrawn_10 n V_p1 V_p1_songs V_p1_rocks n u1.1 u1.2.1 u1.2.2 P2 P2 (0 : Int32)))
theorem ok_X3_copyDrawn : xV yX3_copyDrawn cX3_copyDrawn 5 (some .int) 2 := ⟨tw_532, tw_530, tw_531, tw_52, by decide +kernel, by decide +kernel, by decide +kernel⟩
set_option maxHeartbeats 4000000 in
set_option maxRecDepth 100000 in
theorem c_X3_copyDrawn (n : Nat) (l : Launch) (D : va_G) (cI cB : ClassId) (A_t A_t_songs A_t_rocks A_p1 A_p1_songs A_p1_rocks : Nat) (V_t : Nat → Int32) (V_t_songs : Nat → Int32) (V_t_rocks : Nat → Int32) (V_p1 : Nat → Int32) (V_p1_songs : Nat → Int32) (V_p1_rocks : Nat → Int32) (P2 : Int32) (r : Int32 × (Nat → Int32) × (Nat → Int32) × (Nat → Int32)) (hM : X3_copyDrawn n V_t V_t_songs V_t_rocks V_p1 V_p1_songs V_p1_rocks P2 = some r) : xC l D (xT cI cB) yX3_copyDrawn cX3_copyDrawn 5 (some .int) { frames := 2, cells := 0, slots := 0, locals := 39 } [.ref A_t, .ref A_p1, .int P2] [(A_t, oX3 A_t_songs A_t_rocks V_t), (A_t_songs, .inl (cI, 12, .inl V_t_songs)), (A_t_rocks, .inl (cI, 12, .inl V_t_rocks)), (A_p1, oX3 A_p1_songs A_p1_rocks V_p1), (A_p1_songs, .inl (cI, 12, .inl V_p1_songs)), (A_p1_rocks, .inl (cI, 12, .inl V_p1_rocks))] (some (.int r.1)) [(A_t, oX3 A_t_songs A_t_rocks r.2.1), (A_t_songs, .inl (cI, 12, .inl r.2.2.1)), (A_t_rocks, .inl (cI, 12, .inl r.2.2.2)), (A_p1, oX3 A_p1_songs A_p1_rocks V_p1), (A_p1_songs, .inl (cI, 12, .inl V_p1_songs)), (A_p1_rocks, .inl (cI, 12, .inl V_p1_rocks))] := by
  refine xC.of (by decide +kernel) (Nat.le_of_ble_eq_true rfl) (fun p e s m below meth c A ls E hP hD hS hl => ?_)
  obtain ⟨hx, hb, hr, hts, hown, hml, hlocks, hA, hK⟩ := id E
  replace hl : lv_has ls 5 [(0, .ref A_t), (1, .ref A_p1), (2, .int P2)] := hl
  rw [X3_copyDrawn] at hM
  refine lv_aload_n hx hb dX3_copyDrawn_0 rfl (lv_at hl 0 rfl) ?_
  refine lv_aload_n hx hb dX3_copyDrawn_1 rfl (lv_at hl 1 rfl) ?_
  obtain ⟨u1, hu2, hM⟩ := og_b hM
  refine x_Vv (n := 1) (q0 := 0) (rest := []) (wn := [(A_t, oX3 A_t_songs A_t_rocks u1.1), (A_t_songs, .inl (cI, 12, .inl u1.2.1)), (A_t_rocks, .inl (cI, 12, .inl u1.2.2)), (A_p1, oX3 A_p1_songs A_p1_rocks V_p1), (A_p1_songs, .inl (cI, 12, .inl V_p1_songs)), (A_p1_rocks, .inl (cI, 12, .inl V_p1_rocks))]) E (c_X3_copy l D cI cB A_t A_t_songs A_t_rocks A_p1 A_p1_songs A_p1_rocks V_t V_t_songs V_t_rocks V_p1 V_p1_songs V_p1_rocks u1 hu2) ok_X3_copy tw_484 ⟨rfl, rfl⟩ ⟨Nat.le_of_ble_eq_true rfl, Nat.le_of_ble_eq_true rfl⟩ rfl rfl (Nat.le_of_ble_eq_true rfl) hl dX3_copyDrawn_2 ⟨Nat.zero_le _, Nat.zero_le _⟩ hP hD hS [0, 1, 2, 3, 4, 5] [] [] [A_t, A_t_songs, A_t_rocks, A_p1, A_p1_songs, A_p1_rocks] 6 rfl rfl rfl rfl rfl rfl rfl (by decide +kernel) rfl rfl rfl (fun H locs hP hD hS => ?_)
  refine lv_iload_n hx hb dX3_copyDrawn_5 rfl (lv_at hl 2 rfl) ?_
  refine lv_istore_n (lv' := [(3, .int P2), (0, .ref A_t), (1, .ref A_p1), (2, .int P2)]) hx hb dX3_copyDrawn_6 rfl hl (by decide) rfl (fun ls hl => ?_)
  refine lv_iconst (v := 0) hx hb dX3_copyDrawn_7 (by decide) ?_
  refine lv_istore (lv' := [(4, .int (0 : Int32)), (3, .int P2), (0, .ref A_t), (1, .ref A_p1), (2, .int P2)]) hx hb dX3_copyDrawn_8 hl (by decide) rfl (fun ls hl => ?_)
  exact lp_X3_copyDrawn_10 n l D cI cB A_t A_t_songs A_t_rocks A_p1 A_p1_songs A_p1_rocks V_p1 V_p1_songs V_p1_rocks r E n u1.1 u1.2.1 u1.2.2 P2 P2 (0 : Int32) hM _ _ _ hP hD hS (lv_sub hl [2, 3, 4, 1, 0] rfl)
def X1_copy (V_t : Nat → Int32) (V_t_sets : Nat → Int32) (V_p1 : Nat → Int32) (V_p1_sets : Nat → Int32) : Option ((Nat → Int32) × (Nat → Int32)) := (some ((upd V_t 1 (V_p1 1)), (va_cpy V_p1_sets V_t_sets (0 : Int32).toNatClampNeg (0 : Int32).toNatClampNeg (8 : Int32).toNatClampNeg)))
theorem ok_X1_copy : xV yX1_copy cX1_copy 2 none 1 := ⟨tw_547, tw_545, tw_546, tw_55, by decide +kernel, by decide +kernel, by decide +kernel⟩
set_option maxHeartbeats 4000000 in
set_option maxRecDepth 100000 in
theorem c_X1_copy (l : Launch) (D : va_G) (cI cB : ClassId) (A_t A_t_sets A_p1 A_p1_sets : Nat) (V_t : Nat → Int32) (V_t_sets : Nat → Int32) (V_p1 : Nat → Int32) (V_p1_sets : Nat → Int32) (r : (Nat → Int32) × (Nat → Int32)) (hM : X1_copy V_t V_t_sets V_p1 V_p1_sets = some r) : xC l D (xT cI cB) yX1_copy cX1_copy 2 none { frames := 1, cells := 0, slots := 0, locals := 18 } [.ref A_t, .ref A_p1] [(A_t, oX1 A_t_sets V_t), (A_t_sets, .inl (cI, 8, .inl V_t_sets)), (A_p1, oX1 A_p1_sets V_p1), (A_p1_sets, .inl (cI, 8, .inl V_p1_sets))] none [(A_t, oX1 A_t_sets r.1), (A_t_sets, .inl (cI, 8, .inl r.2)), (A_p1, oX1 A_p1_sets V_p1), (A_p1_sets, .inl (cI, 8, .inl V_p1_sets))] := by
  refine xC.of (by decide +kernel) (Nat.le_of_ble_eq_true rfl) (fun p e s m below meth c A ls E hP hD hS hl => ?_)
  obtain ⟨hx, hb, hr, hts, hown, hml, hlocks, hA, hK⟩ := id E
  replace hl : lv_has ls 2 [(0, .ref A_t), (1, .ref A_p1)] := hl
  rw [X1_copy] at hM
  refine lv_aload_n hx hb dX1_copy_0 rfl (lv_at hl 1 rfl) ?_
  refine gx1_0 E hP 2 rfl tw_169 dX1_copy_1 ?_
  refine lv_iconst (v := 0) hx hb dX1_copy_4 (by decide) ?_
  refine lv_aload_n hx hb dX1_copy_5 rfl (lv_at hl 0 rfl) ?_
  refine gx1_0 E hP 0 rfl tw_169 dX1_copy_6 ?_
  refine lv_iconst (v := 0) hx hb dX1_copy_9 (by decide) ?_
  refine lv_bipush (v := 8) hx hb dX1_copy_10 (by decide) ?_
  refine x_copy (wn := [(A_t, oX1 A_t_sets V_t), (A_t_sets, .inl (cI, 8, .inl (va_cpy V_p1_sets V_t_sets (0 : Int32).toNatClampNeg (0 : Int32).toNatClampNeg (8 : Int32).toNatClampNeg))), (A_p1, oX1 A_p1_sets V_p1), (A_p1_sets, .inl (cI, 8, .inl V_p1_sets))]) E hl.1 tw_548 tw_431 tw_430 tw_57 hP hD hS 3 1 rfl rfl (by decide) (by decide) (by decide) (by decide) (by decide) (Nat.le_of_ble_eq_true rfl) (Nat.le_of_ble_eq_true rfl) dX1_copy_12 rfl (fun H locs hP hD hS => ?_)
  refine lv_aload_n hx hb dX1_copy_15 rfl (lv_at hl 0 rfl) ?_
  refine lv_aload_n hx hb dX1_copy_16 rfl (lv_at hl 1 rfl) ?_
  refine gx1_1 (v := (V_p1 1)) E hP 2 rfl rfl tw_170 dX1_copy_17 ?_
  refine px1_1 (wn := [(A_t, oX1 A_t_sets (upd V_t 1 (V_p1 1))), (A_t_sets, .inl (cI, 8, .inl (va_cpy V_p1_sets V_t_sets (0 : Int32).toNatClampNeg (0 : Int32).toNatClampNeg (8 : Int32).toNatClampNeg))), (A_p1, oX1 A_p1_sets V_p1), (A_p1_sets, .inl (cI, 8, .inl V_p1_sets))]) E hP hD hS 0 rfl tw_170 dX1_copy_20 rfl (fun H locs hP hD hS => ?_)
  obtain rfl := Option.some.inj hM
  exact x_vret E hP hD hS dX1_copy_23
end
section
theorem zz_end : True := trivial
end
