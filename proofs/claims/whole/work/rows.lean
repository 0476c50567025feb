section
-- ===== PART A: goes FIRST, ahead of the names: the tables' words, and 'selects' of the private methods out of them =====
/-- a private method of a class that the tables say can be made, by its rows of tables_1 -/
def lw_okq (q : MethodName × Nat) : Prop := (q.1.cls ≠ "java/lang/invoke/MethodHandle" ∧ q.1.cls ≠ "java/lang/invoke/VarHandle") ∧ Cond.instantiable q.1.cls q.2 ∈ tables_1 ∧ Cond.privateMethod q.1 ∈ tables_1 ∧ Cond.instanceMethod q.1 ∈ tables_1
theorem lw_p0 : lw_okq (⟨"SpiderLoom$Text", "goesOn", "(LSpiderLoom$Frame;I)Z"⟩, 2) := ⟨⟨by decide +kernel, by decide +kernel⟩, List.mem_of_getElem? (i := 20) (by decide +kernel), List.mem_of_getElem? (i := 179) (by decide +kernel), List.mem_of_getElem? (i := 180) (by decide +kernel)⟩
theorem lw_p1 : lw_okq (⟨"SpiderLoom", "isHidden", "(I)Z"⟩, 12) := ⟨⟨by decide +kernel, by decide +kernel⟩, List.mem_of_getElem? (i := 12) (by decide +kernel), List.mem_of_getElem? (i := 215) (by decide +kernel), List.mem_of_getElem? (i := 216) (by decide +kernel)⟩
theorem lw_p2 : lw_okq (⟨"SpiderLoom", "setHidden", "(II)V"⟩, 12) := ⟨⟨by decide +kernel, by decide +kernel⟩, List.mem_of_getElem? (i := 12) (by decide +kernel), List.mem_of_getElem? (i := 223) (by decide +kernel), List.mem_of_getElem? (i := 224) (by decide +kernel)⟩
theorem lw_p3 : lw_okq (⟨"SpiderLoom", "found", "(I)I"⟩, 12) := ⟨⟨by decide +kernel, by decide +kernel⟩, List.mem_of_getElem? (i := 12) (by decide +kernel), List.mem_of_getElem? (i := 238) (by decide +kernel), List.mem_of_getElem? (i := 239) (by decide +kernel)⟩
theorem lw_p4 : lw_okq (⟨"SpiderLoom", "canBeTold", "(II)Z"⟩, 12) := ⟨⟨by decide +kernel, by decide +kernel⟩, List.mem_of_getElem? (i := 12) (by decide +kernel), List.mem_of_getElem? (i := 260) (by decide +kernel), List.mem_of_getElem? (i := 261) (by decide +kernel)⟩
theorem lw_p5 : lw_okq (⟨"SpiderLoom", "lay", "(LSpiderLoom$Spider;LSpiderLoom$Frame;III)LSpiderLoom$Spider;"⟩, 12) := ⟨⟨by decide +kernel, by decide +kernel⟩, List.mem_of_getElem? (i := 12) (by decide +kernel), List.mem_of_getElem? (i := 267) (by decide +kernel), List.mem_of_getElem? (i := 268) (by decide +kernel)⟩
theorem lw_p6 : lw_okq (⟨"SpiderLoom$Frame", "behindByRows", "(II)I"⟩, 3) := ⟨⟨by decide +kernel, by decide +kernel⟩, List.mem_of_getElem? (i := 35) (by decide +kernel), List.mem_of_getElem? (i := 291) (by decide +kernel), List.mem_of_getElem? (i := 292) (by decide +kernel)⟩
theorem lw_p7 : lw_okq (⟨"SpiderLoom$Frame", "side", "(III)I"⟩, 3) := ⟨⟨by decide +kernel, by decide +kernel⟩, List.mem_of_getElem? (i := 35) (by decide +kernel), List.mem_of_getElem? (i := 318) (by decide +kernel), List.mem_of_getElem? (i := 319) (by decide +kernel)⟩
theorem lw_p8 : lw_okq (⟨"SpiderLoom", "fewestHiddenFor", "(III)I"⟩, 12) := ⟨⟨by decide +kernel, by decide +kernel⟩, List.mem_of_getElem? (i := 12) (by decide +kernel), List.mem_of_getElem? (i := 368) (by decide +kernel), List.mem_of_getElem? (i := 369) (by decide +kernel)⟩
theorem lw_p9 : lw_okq (⟨"SpiderLoom", "stepInTurn", "(LSpiderLoom$Spider;LSpiderLoom$Spider;)I"⟩, 12) := ⟨⟨by decide +kernel, by decide +kernel⟩, List.mem_of_getElem? (i := 12) (by decide +kernel), List.mem_of_getElem? (i := 382) (by decide +kernel), List.mem_of_getElem? (i := 383) (by decide +kernel)⟩
theorem lw_p10 : lw_okq (⟨"SpiderLoom", "comesOut", "(I)Z"⟩, 12) := ⟨⟨by decide +kernel, by decide +kernel⟩, List.mem_of_getElem? (i := 12) (by decide +kernel), List.mem_of_getElem? (i := 402) (by decide +kernel), List.mem_of_getElem? (i := 403) (by decide +kernel)⟩
theorem lw_p11 : lw_okq (⟨"SpiderLoom", "unlikeWebs", "(II)I"⟩, 12) := ⟨⟨by decide +kernel, by decide +kernel⟩, List.mem_of_getElem? (i := 12) (by decide +kernel), List.mem_of_getElem? (i := 411) (by decide +kernel), List.mem_of_getElem? (i := 412) (by decide +kernel)⟩
theorem lw_p12 : lw_okq (⟨"SpiderLoom", "isCaught", "(LSpiderLoom$Spider;II)Z"⟩, 12) := ⟨⟨by decide +kernel, by decide +kernel⟩, List.mem_of_getElem? (i := 12) (by decide +kernel), List.mem_of_getElem? (i := 426) (by decide +kernel), List.mem_of_getElem? (i := 427) (by decide +kernel)⟩
theorem lw_p13 : lw_okq (⟨"SpiderLoom", "refusalOfItem", "(III)I"⟩, 12) := ⟨⟨by decide +kernel, by decide +kernel⟩, List.mem_of_getElem? (i := 12) (by decide +kernel), List.mem_of_getElem? (i := 458) (by decide +kernel), List.mem_of_getElem? (i := 459) (by decide +kernel)⟩
theorem lw_p14 : lw_okq (⟨"SpiderLoom", "mixWeb", "(JII)J"⟩, 12) := ⟨⟨by decide +kernel, by decide +kernel⟩, List.mem_of_getElem? (i := 12) (by decide +kernel), List.mem_of_getElem? (i := 502) (by decide +kernel), List.mem_of_getElem? (i := 503) (by decide +kernel)⟩
theorem lw_p15 : lw_okq (⟨"SpiderLoomModel", "faultNow", "()I"⟩, 25) := ⟨⟨by decide +kernel, by decide +kernel⟩, List.mem_of_getElem? (i := 518) (by decide +kernel), List.mem_of_getElem? (i := 620) (by decide +kernel), List.mem_of_getElem? (i := 621) (by decide +kernel)⟩
def lw_privs_1 : List (MethodName × Nat) := [(⟨"SpiderLoom$Text", "goesOn", "(LSpiderLoom$Frame;I)Z"⟩, 2), (⟨"SpiderLoom", "isHidden", "(I)Z"⟩, 12), (⟨"SpiderLoom", "setHidden", "(II)V"⟩, 12), (⟨"SpiderLoom", "found", "(I)I"⟩, 12), (⟨"SpiderLoom", "canBeTold", "(II)Z"⟩, 12), (⟨"SpiderLoom", "lay", "(LSpiderLoom$Spider;LSpiderLoom$Frame;III)LSpiderLoom$Spider;"⟩, 12), (⟨"SpiderLoom$Frame", "behindByRows", "(II)I"⟩, 3), (⟨"SpiderLoom$Frame", "side", "(III)I"⟩, 3), (⟨"SpiderLoom", "fewestHiddenFor", "(III)I"⟩, 12), (⟨"SpiderLoom", "stepInTurn", "(LSpiderLoom$Spider;LSpiderLoom$Spider;)I"⟩, 12), (⟨"SpiderLoom", "comesOut", "(I)Z"⟩, 12), (⟨"SpiderLoom", "unlikeWebs", "(II)I"⟩, 12), (⟨"SpiderLoom", "isCaught", "(LSpiderLoom$Spider;II)Z"⟩, 12), (⟨"SpiderLoom", "refusalOfItem", "(III)I"⟩, 12), (⟨"SpiderLoom", "mixWeb", "(JII)J"⟩, 12), (⟨"SpiderLoomModel", "faultNow", "()I"⟩, 25)]
theorem lw_r1 : ∀ q ∈ lw_privs_1, lw_okq q := List.forall_mem_cons.mpr ⟨lw_p0, List.forall_mem_cons.mpr ⟨lw_p1, List.forall_mem_cons.mpr ⟨lw_p2, List.forall_mem_cons.mpr ⟨lw_p3, List.forall_mem_cons.mpr ⟨lw_p4, List.forall_mem_cons.mpr ⟨lw_p5, List.forall_mem_cons.mpr ⟨lw_p6, List.forall_mem_cons.mpr ⟨lw_p7, List.forall_mem_cons.mpr ⟨lw_p8, List.forall_mem_cons.mpr ⟨lw_p9, List.forall_mem_cons.mpr ⟨lw_p10, List.forall_mem_cons.mpr ⟨lw_p11, List.forall_mem_cons.mpr ⟨lw_p12, List.forall_mem_cons.mpr ⟨lw_p13, List.forall_mem_cons.mpr ⟨lw_p14, List.forall_mem_cons.mpr ⟨lw_p15, fun _ h => absurd h List.not_mem_nil⟩⟩⟩⟩⟩⟩⟩⟩⟩⟩⟩⟩⟩⟩⟩⟩
theorem lw_p16 : lw_okq (⟨"SpiderLoomModel", "figureAt", "(I)I"⟩, 25) := ⟨⟨by decide +kernel, by decide +kernel⟩, List.mem_of_getElem? (i := 518) (by decide +kernel), List.mem_of_getElem? (i := 624) (by decide +kernel), List.mem_of_getElem? (i := 625) (by decide +kernel)⟩
theorem lw_p17 : lw_okq (⟨"SpiderLoomModel", "isTaken", "(III)Z"⟩, 25) := ⟨⟨by decide +kernel, by decide +kernel⟩, List.mem_of_getElem? (i := 518) (by decide +kernel), List.mem_of_getElem? (i := 628) (by decide +kernel), List.mem_of_getElem? (i := 629) (by decide +kernel)⟩
theorem lw_p18 : lw_okq (⟨"SpiderLoomModel", "isPeg", "(I)Z"⟩, 25) := ⟨⟨by decide +kernel, by decide +kernel⟩, List.mem_of_getElem? (i := 518) (by decide +kernel), List.mem_of_getElem? (i := 636) (by decide +kernel), List.mem_of_getElem? (i := 637) (by decide +kernel)⟩
theorem lw_p19 : lw_okq (⟨"SpiderLoomModel", "pegOf", "(II)I"⟩, 25) := ⟨⟨by decide +kernel, by decide +kernel⟩, List.mem_of_getElem? (i := 518) (by decide +kernel), List.mem_of_getElem? (i := 640) (by decide +kernel), List.mem_of_getElem? (i := 641) (by decide +kernel)⟩
theorem lw_p20 : lw_okq (⟨"SpiderLoomModel", "meets", "(I)I"⟩, 25) := ⟨⟨by decide +kernel, by decide +kernel⟩, List.mem_of_getElem? (i := 518) (by decide +kernel), List.mem_of_getElem? (i := 662) (by decide +kernel), List.mem_of_getElem? (i := 663) (by decide +kernel)⟩
theorem lw_p21 : lw_okq (⟨"SpiderLoomModel", "farOf", "(II)I"⟩, 25) := ⟨⟨by decide +kernel, by decide +kernel⟩, List.mem_of_getElem? (i := 518) (by decide +kernel), List.mem_of_getElem? (i := 670) (by decide +kernel), List.mem_of_getElem? (i := 671) (by decide +kernel)⟩
theorem lw_p22 : lw_okq (⟨"SpiderLoomModel", "isWeb", "(II)Z"⟩, 25) := ⟨⟨by decide +kernel, by decide +kernel⟩, List.mem_of_getElem? (i := 518) (by decide +kernel), List.mem_of_getElem? (i := 681) (by decide +kernel), List.mem_of_getElem? (i := 682) (by decide +kernel)⟩
theorem lw_p23 : lw_okq (⟨"SpiderLoomModel", "webOf", "(III)I"⟩, 25) := ⟨⟨by decide +kernel, by decide +kernel⟩, List.mem_of_getElem? (i := 518) (by decide +kernel), List.mem_of_getElem? (i := 688) (by decide +kernel), List.mem_of_getElem? (i := 689) (by decide +kernel)⟩
theorem lw_p24 : lw_okq (⟨"SpiderLoomModel", "isHidden", "(I)Z"⟩, 25) := ⟨⟨by decide +kernel, by decide +kernel⟩, List.mem_of_getElem? (i := 518) (by decide +kernel), List.mem_of_getElem? (i := 692) (by decide +kernel), List.mem_of_getElem? (i := 693) (by decide +kernel)⟩
theorem lw_p25 : lw_okq (⟨"SpiderLoomModel", "lays", "(III)V"⟩, 25) := ⟨⟨by decide +kernel, by decide +kernel⟩, List.mem_of_getElem? (i := 518) (by decide +kernel), List.mem_of_getElem? (i := 699) (by decide +kernel), List.mem_of_getElem? (i := 700) (by decide +kernel)⟩
theorem lw_p26 : lw_okq (⟨"SpiderLoomModel", "nextOf", "(III)I"⟩, 25) := ⟨⟨by decide +kernel, by decide +kernel⟩, List.mem_of_getElem? (i := 518) (by decide +kernel), List.mem_of_getElem? (i := 703) (by decide +kernel), List.mem_of_getElem? (i := 704) (by decide +kernel)⟩
theorem lw_p27 : lw_okq (⟨"SpiderLoomModel", "place", "(I)I"⟩, 25) := ⟨⟨by decide +kernel, by decide +kernel⟩, List.mem_of_getElem? (i := 518) (by decide +kernel), List.mem_of_getElem? (i := 707) (by decide +kernel), List.mem_of_getElem? (i := 708) (by decide +kernel)⟩
theorem lw_p28 : lw_okq (⟨"SpiderLoomModel", "lengthOf", "(III)I"⟩, 25) := ⟨⟨by decide +kernel, by decide +kernel⟩, List.mem_of_getElem? (i := 518) (by decide +kernel), List.mem_of_getElem? (i := 715) (by decide +kernel), List.mem_of_getElem? (i := 716) (by decide +kernel)⟩
theorem lw_p29 : lw_okq (⟨"SpiderLoomModel", "crossesOf", "(II)I"⟩, 25) := ⟨⟨by decide +kernel, by decide +kernel⟩, List.mem_of_getElem? (i := 518) (by decide +kernel), List.mem_of_getElem? (i := 723) (by decide +kernel), List.mem_of_getElem? (i := 724) (by decide +kernel)⟩
theorem lw_p30 : lw_okq (⟨"SpiderLoomModel", "doMeet", "(IIII)Z"⟩, 25) := ⟨⟨by decide +kernel, by decide +kernel⟩, List.mem_of_getElem? (i := 518) (by decide +kernel), List.mem_of_getElem? (i := 727) (by decide +kernel), List.mem_of_getElem? (i := 728) (by decide +kernel)⟩
theorem lw_p31 : lw_okq (⟨"SpiderLoomModel", "hand", "(III)I"⟩, 25) := ⟨⟨by decide +kernel, by decide +kernel⟩, List.mem_of_getElem? (i := 518) (by decide +kernel), List.mem_of_getElem? (i := 731) (by decide +kernel), List.mem_of_getElem? (i := 732) (by decide +kernel)⟩
def lw_privs_2 : List (MethodName × Nat) := [(⟨"SpiderLoomModel", "figureAt", "(I)I"⟩, 25), (⟨"SpiderLoomModel", "isTaken", "(III)Z"⟩, 25), (⟨"SpiderLoomModel", "isPeg", "(I)Z"⟩, 25), (⟨"SpiderLoomModel", "pegOf", "(II)I"⟩, 25), (⟨"SpiderLoomModel", "meets", "(I)I"⟩, 25), (⟨"SpiderLoomModel", "farOf", "(II)I"⟩, 25), (⟨"SpiderLoomModel", "isWeb", "(II)Z"⟩, 25), (⟨"SpiderLoomModel", "webOf", "(III)I"⟩, 25), (⟨"SpiderLoomModel", "isHidden", "(I)Z"⟩, 25), (⟨"SpiderLoomModel", "lays", "(III)V"⟩, 25), (⟨"SpiderLoomModel", "nextOf", "(III)I"⟩, 25), (⟨"SpiderLoomModel", "place", "(I)I"⟩, 25), (⟨"SpiderLoomModel", "lengthOf", "(III)I"⟩, 25), (⟨"SpiderLoomModel", "crossesOf", "(II)I"⟩, 25), (⟨"SpiderLoomModel", "doMeet", "(IIII)Z"⟩, 25), (⟨"SpiderLoomModel", "hand", "(III)I"⟩, 25)]
theorem lw_r2 : ∀ q ∈ lw_privs_2, lw_okq q := List.forall_mem_cons.mpr ⟨lw_p16, List.forall_mem_cons.mpr ⟨lw_p17, List.forall_mem_cons.mpr ⟨lw_p18, List.forall_mem_cons.mpr ⟨lw_p19, List.forall_mem_cons.mpr ⟨lw_p20, List.forall_mem_cons.mpr ⟨lw_p21, List.forall_mem_cons.mpr ⟨lw_p22, List.forall_mem_cons.mpr ⟨lw_p23, List.forall_mem_cons.mpr ⟨lw_p24, List.forall_mem_cons.mpr ⟨lw_p25, List.forall_mem_cons.mpr ⟨lw_p26, List.forall_mem_cons.mpr ⟨lw_p27, List.forall_mem_cons.mpr ⟨lw_p28, List.forall_mem_cons.mpr ⟨lw_p29, List.forall_mem_cons.mpr ⟨lw_p30, List.forall_mem_cons.mpr ⟨lw_p31, fun _ h => absurd h List.not_mem_nil⟩⟩⟩⟩⟩⟩⟩⟩⟩⟩⟩⟩⟩⟩⟩⟩
theorem lw_p32 : lw_okq (⟨"SpiderLoomModel", "isBetween", "(III)Z"⟩, 25) := ⟨⟨by decide +kernel, by decide +kernel⟩, List.mem_of_getElem? (i := 518) (by decide +kernel), List.mem_of_getElem? (i := 735) (by decide +kernel), List.mem_of_getElem? (i := 736) (by decide +kernel)⟩
theorem lw_p33 : lw_okq (⟨"SpiderLoomModel", "hangsOf", "(III)I"⟩, 25) := ⟨⟨by decide +kernel, by decide +kernel⟩, List.mem_of_getElem? (i := 518) (by decide +kernel), List.mem_of_getElem? (i := 743) (by decide +kernel), List.mem_of_getElem? (i := 744) (by decide +kernel)⟩
theorem lw_p34 : lw_okq (⟨"SpiderLoomModel", "indexOf", "(I)I"⟩, 25) := ⟨⟨by decide +kernel, by decide +kernel⟩, List.mem_of_getElem? (i := 518) (by decide +kernel), List.mem_of_getElem? (i := 747) (by decide +kernel), List.mem_of_getElem? (i := 748) (by decide +kernel)⟩
theorem lw_p35 : lw_okq (⟨"SpiderLoomModel", "piecesOf", "(III)I"⟩, 25) := ⟨⟨by decide +kernel, by decide +kernel⟩, List.mem_of_getElem? (i := 518) (by decide +kernel), List.mem_of_getElem? (i := 755) (by decide +kernel), List.mem_of_getElem? (i := 756) (by decide +kernel)⟩
theorem lw_p36 : lw_okq (⟨"SpiderLoomModel", "turnedOf", "(II)I"⟩, 25) := ⟨⟨by decide +kernel, by decide +kernel⟩, List.mem_of_getElem? (i := 518) (by decide +kernel), List.mem_of_getElem? (i := 763) (by decide +kernel), List.mem_of_getElem? (i := 764) (by decide +kernel)⟩
theorem lw_p37 : lw_okq (⟨"SpiderLoomModel", "turns", "(I)V"⟩, 25) := ⟨⟨by decide +kernel, by decide +kernel⟩, List.mem_of_getElem? (i := 518) (by decide +kernel), List.mem_of_getElem? (i := 767) (by decide +kernel), List.mem_of_getElem? (i := 768) (by decide +kernel)⟩
theorem lw_p38 : lw_okq (⟨"SpiderLoomModel", "moreOf", "(IIII)I"⟩, 25) := ⟨⟨by decide +kernel, by decide +kernel⟩, List.mem_of_getElem? (i := 518) (by decide +kernel), List.mem_of_getElem? (i := 775) (by decide +kernel), List.mem_of_getElem? (i := 776) (by decide +kernel)⟩
theorem lw_p39 : lw_okq (⟨"SpiderLoomModel", "beginOf", "(I)I"⟩, 25) := ⟨⟨by decide +kernel, by decide +kernel⟩, List.mem_of_getElem? (i := 518) (by decide +kernel), List.mem_of_getElem? (i := 783) (by decide +kernel), List.mem_of_getElem? (i := 784) (by decide +kernel)⟩
theorem lw_p40 : lw_okq (⟨"SpiderLoomModel", "lastOf", "(IIII)I"⟩, 25) := ⟨⟨by decide +kernel, by decide +kernel⟩, List.mem_of_getElem? (i := 518) (by decide +kernel), List.mem_of_getElem? (i := 791) (by decide +kernel), List.mem_of_getElem? (i := 792) (by decide +kernel)⟩
theorem lw_p41 : lw_okq (⟨"SpiderLoomModel", "twoOf", "(IIIII)I"⟩, 25) := ⟨⟨by decide +kernel, by decide +kernel⟩, List.mem_of_getElem? (i := 518) (by decide +kernel), List.mem_of_getElem? (i := 802) (by decide +kernel), List.mem_of_getElem? (i := 803) (by decide +kernel)⟩
theorem lw_p42 : lw_okq (⟨"SpiderLoomModel", "fitsNow", "()I"⟩, 25) := ⟨⟨by decide +kernel, by decide +kernel⟩, List.mem_of_getElem? (i := 518) (by decide +kernel), List.mem_of_getElem? (i := 818) (by decide +kernel), List.mem_of_getElem? (i := 819) (by decide +kernel)⟩
theorem lw_p43 : lw_okq (⟨"SpiderLoomModel", "tellsNow", "()I"⟩, 25) := ⟨⟨by decide +kernel, by decide +kernel⟩, List.mem_of_getElem? (i := 518) (by decide +kernel), List.mem_of_getElem? (i := 826) (by decide +kernel), List.mem_of_getElem? (i := 827) (by decide +kernel)⟩
theorem lw_p44 : lw_okq (⟨"SpiderLoomModel", "unlikeFrom", "(II)I"⟩, 25) := ⟨⟨by decide +kernel, by decide +kernel⟩, List.mem_of_getElem? (i := 518) (by decide +kernel), List.mem_of_getElem? (i := 830) (by decide +kernel), List.mem_of_getElem? (i := 831) (by decide +kernel)⟩
theorem lw_p45 : lw_okq (⟨"SpiderLoomModel", "areAlike", "(II)Z"⟩, 25) := ⟨⟨by decide +kernel, by decide +kernel⟩, List.mem_of_getElem? (i := 518) (by decide +kernel), List.mem_of_getElem? (i := 834) (by decide +kernel), List.mem_of_getElem? (i := 835) (by decide +kernel)⟩
theorem lw_p46 : lw_okq (⟨"SpiderLoomModel", "fliesOf", "(IIII)I"⟩, 25) := ⟨⟨by decide +kernel, by decide +kernel⟩, List.mem_of_getElem? (i := 518) (by decide +kernel), List.mem_of_getElem? (i := 842) (by decide +kernel), List.mem_of_getElem? (i := 843) (by decide +kernel)⟩
theorem lw_p47 : lw_okq (⟨"SpiderLoomModel", "dewOf", "(III)I"⟩, 25) := ⟨⟨by decide +kernel, by decide +kernel⟩, List.mem_of_getElem? (i := 518) (by decide +kernel), List.mem_of_getElem? (i := 851) (by decide +kernel), List.mem_of_getElem? (i := 852) (by decide +kernel)⟩
def lw_privs_3 : List (MethodName × Nat) := [(⟨"SpiderLoomModel", "isBetween", "(III)Z"⟩, 25), (⟨"SpiderLoomModel", "hangsOf", "(III)I"⟩, 25), (⟨"SpiderLoomModel", "indexOf", "(I)I"⟩, 25), (⟨"SpiderLoomModel", "piecesOf", "(III)I"⟩, 25), (⟨"SpiderLoomModel", "turnedOf", "(II)I"⟩, 25), (⟨"SpiderLoomModel", "turns", "(I)V"⟩, 25), (⟨"SpiderLoomModel", "moreOf", "(IIII)I"⟩, 25), (⟨"SpiderLoomModel", "beginOf", "(I)I"⟩, 25), (⟨"SpiderLoomModel", "lastOf", "(IIII)I"⟩, 25), (⟨"SpiderLoomModel", "twoOf", "(IIIII)I"⟩, 25), (⟨"SpiderLoomModel", "fitsNow", "()I"⟩, 25), (⟨"SpiderLoomModel", "tellsNow", "()I"⟩, 25), (⟨"SpiderLoomModel", "unlikeFrom", "(II)I"⟩, 25), (⟨"SpiderLoomModel", "areAlike", "(II)Z"⟩, 25), (⟨"SpiderLoomModel", "fliesOf", "(IIII)I"⟩, 25), (⟨"SpiderLoomModel", "dewOf", "(III)I"⟩, 25)]
theorem lw_r3 : ∀ q ∈ lw_privs_3, lw_okq q := List.forall_mem_cons.mpr ⟨lw_p32, List.forall_mem_cons.mpr ⟨lw_p33, List.forall_mem_cons.mpr ⟨lw_p34, List.forall_mem_cons.mpr ⟨lw_p35, List.forall_mem_cons.mpr ⟨lw_p36, List.forall_mem_cons.mpr ⟨lw_p37, List.forall_mem_cons.mpr ⟨lw_p38, List.forall_mem_cons.mpr ⟨lw_p39, List.forall_mem_cons.mpr ⟨lw_p40, List.forall_mem_cons.mpr ⟨lw_p41, List.forall_mem_cons.mpr ⟨lw_p42, List.forall_mem_cons.mpr ⟨lw_p43, List.forall_mem_cons.mpr ⟨lw_p44, List.forall_mem_cons.mpr ⟨lw_p45, List.forall_mem_cons.mpr ⟨lw_p46, List.forall_mem_cons.mpr ⟨lw_p47, fun _ h => absurd h List.not_mem_nil⟩⟩⟩⟩⟩⟩⟩⟩⟩⟩⟩⟩⟩⟩⟩⟩
theorem lw_p48 : lw_okq (⟨"SpiderLoomModel", "lacks", "(III)I"⟩, 25) := ⟨⟨by decide +kernel, by decide +kernel⟩, List.mem_of_getElem? (i := 518) (by decide +kernel), List.mem_of_getElem? (i := 867) (by decide +kernel), List.mem_of_getElem? (i := 868) (by decide +kernel)⟩
theorem lw_p49 : lw_okq (⟨"SpiderLoomModel", "keep", "(III)V"⟩, 25) := ⟨⟨by decide +kernel, by decide +kernel⟩, List.mem_of_getElem? (i := 518) (by decide +kernel), List.mem_of_getElem? (i := 871) (by decide +kernel), List.mem_of_getElem? (i := 872) (by decide +kernel)⟩
theorem lw_p50 : lw_okq (⟨"SpiderLoomModel", "sumOf", "(I)I"⟩, 25) := ⟨⟨by decide +kernel, by decide +kernel⟩, List.mem_of_getElem? (i := 518) (by decide +kernel), List.mem_of_getElem? (i := 892) (by decide +kernel), List.mem_of_getElem? (i := 893) (by decide +kernel)⟩
def lw_privs_4 : List (MethodName × Nat) := [(⟨"SpiderLoomModel", "lacks", "(III)I"⟩, 25), (⟨"SpiderLoomModel", "keep", "(III)V"⟩, 25), (⟨"SpiderLoomModel", "sumOf", "(I)I"⟩, 25)]
theorem lw_r4 : ∀ q ∈ lw_privs_4, lw_okq q := List.forall_mem_cons.mpr ⟨lw_p48, List.forall_mem_cons.mpr ⟨lw_p49, List.forall_mem_cons.mpr ⟨lw_p50, fun _ h => absurd h List.not_mem_nil⟩⟩⟩
def lw_privs : List (MethodName × Nat) := lw_privs_1 ++ (lw_privs_2 ++ (lw_privs_3 ++ (lw_privs_4)))
def lw_tbl : List Cond := k2_sels lw_privs ++ tables_1
theorem lw_privs_ok : ∀ q ∈ lw_privs, lw_okq q := by
  show ∀ q ∈ lw_privs_1 ++ (lw_privs_2 ++ (lw_privs_3 ++ (lw_privs_4))), lw_okq q
  exact List.forall_mem_append.mpr ⟨lw_r1, List.forall_mem_append.mpr ⟨lw_r2, List.forall_mem_append.mpr ⟨lw_r3, lw_r4⟩⟩⟩
-- ===== end of PART A; then your names; then what follows =====
end
section
/-! the words that are good for a callee: all of lw_tbl that keep -/
def lwg : List Cond := lw_tbl.filter goodWord
theorem lwg_sub {w : Cond} (h : w ∈ lwg) : w ∈ lw_tbl := (List.mem_filter.mp h).1
theorem lwg_good {w : Cond} (h : w ∈ lwg) : goodWord w = true := (List.mem_filter.mp h).2
theorem mem_t (i : Nat) {w : Cond} (h : tables_1[i]? = some w) (hg : goodWord w = true) : w ∈ lwg := List.mem_filter.mpr ⟨List.mem_append_right _ (List.mem_of_getElem? h), hg⟩
theorem mem_s (i : Nat) {q : MethodName × Nat} (h : lw_privs[i]? = some q) : Cond.selects q.1.cls q.1 q.1 ∈ lwg := List.mem_filter.mpr ⟨List.mem_append_left _ (List.mem_map.mpr ⟨q, List.mem_of_getElem? h, rfl⟩), rfl⟩
theorem mem_s2 (i : Nat) {q : MethodName × Nat} {w : Cond} (h : lw_privs[i]? = some q) (hw : w = Cond.selects q.1.cls q.1 q.1) : w ∈ lwg := hw ▸ mem_s i h
end
section
def RX0 : String := "SpiderLoom$Frame"
def TX0 : u_T := fun k => match k with
  | 0 => ("SpiderLoom$Frame", "x", "[I", true)
  | 1 => ("SpiderLoom$Frame", "y", "[I", true)
  | _ => ("SpiderLoom$Frame", "size", "I", false)
def tyX0 : Nat → FieldType := fun k => match k with
  | 0 => .array .int
  | 1 => .array .int
  | _ => .int
theorem nmX0 : ∀ a, a < 3 → ∀ b, b < 3 → a ≠ b → (TX0 a).2.1 ≠ (TX0 b).2.1 := by decide +kernel
theorem tyX0_ok : ∀ k, k < 3 → parseFieldDescriptor (TX0 k).2.2.1 = some (tyX0 k) := by decide +kernel
theorem inX0 : ∀ w ∈ u_ws RX0 TX0 3, w ∈ lwg := by
  intro w hw
  obtain ⟨k, hk, rfl⟩ := List.mem_map.mp hw
  have hk := List.mem_range.mp hk
  match k, hk with
  | 0, _ => exact mem_t 47 (by decide +kernel) rfl
  | 1, _ => exact mem_t 49 (by decide +kernel) rfl
  | 2, _ => exact mem_t 51 (by decide +kernel) rfl
  | k + 3, hk => exact absurd hk (by omega)
def RX1 : String := "SpiderLoom$Notes"
def TX1 : u_T := fun k => match k with
  | 0 => ("SpiderLoom$Notes", "from", "[I", true)
  | 1 => ("SpiderLoom$Notes", "turn", "[I", true)
  | 2 => ("SpiderLoom$Notes", "peg", "[I", true)
  | _ => ("SpiderLoom$Notes", "size", "I", false)
def tyX1 : Nat → FieldType := fun k => match k with
  | 0 => .array .int
  | 1 => .array .int
  | 2 => .array .int
  | _ => .int
theorem nmX1 : ∀ a, a < 4 → ∀ b, b < 4 → a ≠ b → (TX1 a).2.1 ≠ (TX1 b).2.1 := by decide +kernel
theorem tyX1_ok : ∀ k, k < 4 → parseFieldDescriptor (TX1 k).2.2.1 = some (tyX1 k) := by decide +kernel
theorem inX1 : ∀ w ∈ u_ws RX1 TX1 4, w ∈ lwg := by
  intro w hw
  obtain ⟨k, hk, rfl⟩ := List.mem_map.mp hw
  have hk := List.mem_range.mp hk
  match k, hk with
  | 0, _ => exact mem_t 70 (by decide +kernel) rfl
  | 1, _ => exact mem_t 72 (by decide +kernel) rfl
  | 2, _ => exact mem_t 74 (by decide +kernel) rfl
  | 3, _ => exact mem_t 76 (by decide +kernel) rfl
  | k + 4, hk => exact absurd hk (by omega)
def RX2 : String := "SpiderLoom$Sheet"
def TX2 : u_T := fun k => match k with
  | 0 => ("SpiderLoom$Sheet", "items", "[I", true)
  | 1 => ("SpiderLoom$Sheet", "lost", "Z", false)
  | 2 => ("SpiderLoom$Sheet", "form", "I", false)
  | _ => ("SpiderLoom$Sheet", "size", "I", false)
def tyX2 : Nat → FieldType := fun k => match k with
  | 0 => .array .int
  | 1 => .boolean
  | 2 => .int
  | _ => .int
theorem nmX2 : ∀ a, a < 4 → ∀ b, b < 4 → a ≠ b → (TX2 a).2.1 ≠ (TX2 b).2.1 := by decide +kernel
theorem tyX2_ok : ∀ k, k < 4 → parseFieldDescriptor (TX2 k).2.2.1 = some (tyX2 k) := by decide +kernel
theorem inX2 : ∀ w ∈ u_ws RX2 TX2 4, w ∈ lwg := by
  intro w hw
  obtain ⟨k, hk, rfl⟩ := List.mem_map.mp hw
  have hk := List.mem_range.mp hk
  match k, hk with
  | 0, _ => exact mem_t 120 (by decide +kernel) rfl
  | 1, _ => exact mem_t 122 (by decide +kernel) rfl
  | 2, _ => exact mem_t 124 (by decide +kernel) rfl
  | 3, _ => exact mem_t 126 (by decide +kernel) rfl
  | k + 4, hk => exact absurd hk (by omega)
def RX3 : String := "SpiderLoom$Spider"
def TX3 : u_T := fun k => match k with
  | 0 => ("SpiderLoom$Spider", "row", "[I", true)
  | 1 => ("SpiderLoom$Spider", "size", "I", false)
  | 2 => ("SpiderLoom$Spider", "law", "I", false)
  | 3 => ("SpiderLoom$Spider", "way", "I", false)
  | _ => ("SpiderLoom$Spider", "left", "I", false)
def tyX3 : Nat → FieldType := fun k => match k with
  | 0 => .array .int
  | 1 => .int
  | 2 => .int
  | 3 => .int
  | _ => .int
theorem nmX3 : ∀ a, a < 5 → ∀ b, b < 5 → a ≠ b → (TX3 a).2.1 ≠ (TX3 b).2.1 := by decide +kernel
theorem tyX3_ok : ∀ k, k < 5 → parseFieldDescriptor (TX3 k).2.2.1 = some (tyX3 k) := by decide +kernel
theorem inX3 : ∀ w ∈ u_ws RX3 TX3 5, w ∈ lwg := by
  intro w hw
  obtain ⟨k, hk, rfl⟩ := List.mem_map.mp hw
  have hk := List.mem_range.mp hk
  match k, hk with
  | 0, _ => exact mem_t 96 (by decide +kernel) rfl
  | 1, _ => exact mem_t 98 (by decide +kernel) rfl
  | 2, _ => exact mem_t 100 (by decide +kernel) rfl
  | 3, _ => exact mem_t 102 (by decide +kernel) rfl
  | 4, _ => exact mem_t 104 (by decide +kernel) rfl
  | k + 5, hk => exact absurd hk (by omega)
def RX4 : String := "SpiderLoom$Text"
def TX4 : u_T := fun k => match k with
  | 0 => ("SpiderLoom$Text", "bytes", "[I", true)
  | _ => ("SpiderLoom$Text", "size", "I", false)
def tyX4 : Nat → FieldType := fun k => match k with
  | 0 => .array .int
  | _ => .int
theorem nmX4 : ∀ a, a < 2 → ∀ b, b < 2 → a ≠ b → (TX4 a).2.1 ≠ (TX4 b).2.1 := by decide +kernel
theorem tyX4_ok : ∀ k, k < 2 → parseFieldDescriptor (TX4 k).2.2.1 = some (tyX4 k) := by decide +kernel
theorem inX4 : ∀ w ∈ u_ws RX4 TX4 2, w ∈ lwg := by
  intro w hw
  obtain ⟨k, hk, rfl⟩ := List.mem_map.mp hw
  have hk := List.mem_range.mp hk
  match k, hk with
  | 0, _ => exact mem_t 28 (by decide +kernel) rfl
  | 1, _ => exact mem_t 30 (by decide +kernel) rfl
  | k + 2, hk => exact absurd hk (by omega)
def RX5 : String := "SpiderLoom"
def TX5 : u_T := fun k => match k with
  | 0 => ("SpiderLoom", "text", "LSpiderLoom$Text;", true)
  | 1 => ("SpiderLoom", "frame", "LSpiderLoom$Frame;", true)
  | 2 => ("SpiderLoom", "otherFrame", "LSpiderLoom$Frame;", true)
  | 3 => ("SpiderLoom", "spiders", "[LSpiderLoom$Spider;", true)
  | 4 => ("SpiderLoom", "notes", "LSpiderLoom$Notes;", true)
  | 5 => ("SpiderLoom", "sheets", "[LSpiderLoom$Sheet;", true)
  | 6 => ("SpiderLoom", "faultPlace", "I", false)
  | 7 => ("SpiderLoom", "hidden", "I", false)
  | 8 => ("SpiderLoom", "thread", "I", false)
  | 9 => ("SpiderLoom", "hunger", "I", false)
  | 10 => ("SpiderLoom", "reach", "I", false)
  | _ => ("SpiderLoom", "latestFinding", "I", false)
def tyX5 : Nat → FieldType := fun k => match k with
  | 0 => .object "SpiderLoom$Text"
  | 1 => .object "SpiderLoom$Frame"
  | 2 => .object "SpiderLoom$Frame"
  | 3 => .array (.object "SpiderLoom$Spider")
  | 4 => .object "SpiderLoom$Notes"
  | 5 => .array (.object "SpiderLoom$Sheet")
  | 6 => .int
  | 7 => .int
  | 8 => .int
  | 9 => .int
  | 10 => .int
  | _ => .int
theorem nmX5 : ∀ a, a < 12 → ∀ b, b < 12 → a ≠ b → (TX5 a).2.1 ≠ (TX5 b).2.1 := by decide +kernel
theorem tyX5_ok : ∀ k, k < 12 → parseFieldDescriptor (TX5 k).2.2.1 = some (tyX5 k) := by decide +kernel
theorem inX5 : ∀ w ∈ u_ws RX5 TX5 12, w ∈ lwg := by
  intro w hw
  obtain ⟨k, hk, rfl⟩ := List.mem_map.mp hw
  have hk := List.mem_range.mp hk
  match k, hk with
  | 0, _ => exact mem_t 141 (by decide +kernel) rfl
  | 1, _ => exact mem_t 143 (by decide +kernel) rfl
  | 2, _ => exact mem_t 145 (by decide +kernel) rfl
  | 3, _ => exact mem_t 147 (by decide +kernel) rfl
  | 4, _ => exact mem_t 149 (by decide +kernel) rfl
  | 5, _ => exact mem_t 151 (by decide +kernel) rfl
  | 6, _ => exact mem_t 153 (by decide +kernel) rfl
  | 7, _ => exact mem_t 155 (by decide +kernel) rfl
  | 8, _ => exact mem_t 157 (by decide +kernel) rfl
  | 9, _ => exact mem_t 159 (by decide +kernel) rfl
  | 10, _ => exact mem_t 161 (by decide +kernel) rfl
  | 11, _ => exact mem_t 163 (by decide +kernel) rfl
  | k + 12, hk => exact absurd hk (by omega)
def RX6 : String := "SpiderLoomModel"
def TX6 : u_T := fun k => match k with
  | 0 => ("SpiderLoomModel", "text", "[I", true)
  | 1 => ("SpiderLoomModel", "typed", "I", false)
  | 2 => ("SpiderLoomModel", "pegs", "I", false)
  | 3 => ("SpiderLoomModel", "xs", "[I", true)
  | 4 => ("SpiderLoomModel", "ys", "[I", true)
  | 5 => ("SpiderLoomModel", "hidden", "I", false)
  | 6 => ("SpiderLoomModel", "threads", "I", false)
  | 7 => ("SpiderLoomModel", "hunger", "I", false)
  | 8 => ("SpiderLoomModel", "reach", "I", false)
  | 9 => ("SpiderLoomModel", "row", "[I", true)
  | 10 => ("SpiderLoomModel", "rowMany", "I", false)
  | 11 => ("SpiderLoomModel", "rowLong", "I", false)
  | 12 => ("SpiderLoomModel", "rowLeft", "I", false)
  | 13 => ("SpiderLoomModel", "other", "[I", true)
  | 14 => ("SpiderLoomModel", "sights", "I", false)
  | 15 => ("SpiderLoomModel", "seenFrom", "[I", true)
  | 16 => ("SpiderLoomModel", "seenAs", "[I", true)
  | 17 => ("SpiderLoomModel", "seenPeg", "[I", true)
  | 18 => ("SpiderLoomModel", "webs", "[I", true)
  | 19 => ("SpiderLoomModel", "isThere", "[Z", true)
  | 20 => ("SpiderLoomModel", "forms", "[I", true)
  | 21 => ("SpiderLoomModel", "sizes", "[I", true)
  | 22 => ("SpiderLoomModel", "items", "[I", true)
  | 23 => ("SpiderLoomModel", "moved", "[I", true)
  | _ => ("SpiderLoomModel", "finding", "I", false)
def tyX6 : Nat → FieldType := fun k => match k with
  | 0 => .array .int
  | 1 => .int
  | 2 => .int
  | 3 => .array .int
  | 4 => .array .int
  | 5 => .int
  | 6 => .int
  | 7 => .int
  | 8 => .int
  | 9 => .array .int
  | 10 => .int
  | 11 => .int
  | 12 => .int
  | 13 => .array .int
  | 14 => .int
  | 15 => .array .int
  | 16 => .array .int
  | 17 => .array .int
  | 18 => .array .int
  | 19 => .array .boolean
  | 20 => .array .int
  | 21 => .array .int
  | 22 => .array .int
  | 23 => .array .int
  | _ => .int
theorem nmX6 : ∀ a, a < 25 → ∀ b, b < 25 → a ≠ b → (TX6 a).2.1 ≠ (TX6 b).2.1 := by decide +kernel
theorem tyX6_ok : ∀ k, k < 25 → parseFieldDescriptor (TX6 k).2.2.1 = some (tyX6 k) := by decide +kernel
theorem inX6 : ∀ w ∈ u_ws RX6 TX6 25, w ∈ lwg := by
  intro w hw
  obtain ⟨k, hk, rfl⟩ := List.mem_map.mp hw
  have hk := List.mem_range.mp hk
  match k, hk with
  | 0, _ => exact mem_t 548 (by decide +kernel) rfl
  | 1, _ => exact mem_t 550 (by decide +kernel) rfl
  | 2, _ => exact mem_t 552 (by decide +kernel) rfl
  | 3, _ => exact mem_t 554 (by decide +kernel) rfl
  | 4, _ => exact mem_t 556 (by decide +kernel) rfl
  | 5, _ => exact mem_t 558 (by decide +kernel) rfl
  | 6, _ => exact mem_t 560 (by decide +kernel) rfl
  | 7, _ => exact mem_t 562 (by decide +kernel) rfl
  | 8, _ => exact mem_t 564 (by decide +kernel) rfl
  | 9, _ => exact mem_t 566 (by decide +kernel) rfl
  | 10, _ => exact mem_t 568 (by decide +kernel) rfl
  | 11, _ => exact mem_t 570 (by decide +kernel) rfl
  | 12, _ => exact mem_t 572 (by decide +kernel) rfl
  | 13, _ => exact mem_t 574 (by decide +kernel) rfl
  | 14, _ => exact mem_t 576 (by decide +kernel) rfl
  | 15, _ => exact mem_t 578 (by decide +kernel) rfl
  | 16, _ => exact mem_t 580 (by decide +kernel) rfl
  | 17, _ => exact mem_t 582 (by decide +kernel) rfl
  | 18, _ => exact mem_t 584 (by decide +kernel) rfl
  | 19, _ => exact mem_t 586 (by decide +kernel) rfl
  | 20, _ => exact mem_t 588 (by decide +kernel) rfl
  | 21, _ => exact mem_t 590 (by decide +kernel) rfl
  | 22, _ => exact mem_t 592 (by decide +kernel) rfl
  | 23, _ => exact mem_t 594 (by decide +kernel) rfl
  | 24, _ => exact mem_t 596 (by decide +kernel) rfl
  | k + 25, hk => exact absurd hk (by omega)
abbrev classes : List vw_C := [(RX0, TX0, 3), (RX1, TX1, 4), (RX2, TX2, 4), (RX3, TX3, 5), (RX4, TX4, 2), (RX5, TX5, 12), (RX6, TX6, 25)]
abbrev Mt : Type := MethodName × ByteArray × Nat × Option FieldType × Nat × Nat
def m_C_init : Mt := (⟨"SpiderLoom", "<init>", "()V"⟩, prog_1_method_1_code, 2, none, 2, 40)
def m_Tx_init : Mt := (⟨"SpiderLoom$Text", "<init>", "()V"⟩, prog_6_method_1_code, 1, none, 1, 20)
def m_Fr_init : Mt := (⟨"SpiderLoom$Frame", "<init>", "()V"⟩, prog_2_method_1_code, 1, none, 1, 20)
def m_No_init : Mt := (⟨"SpiderLoom$Notes", "<init>", "()V"⟩, prog_3_method_1_code, 1, none, 1, 20)
def m_Sp_init : Mt := (⟨"SpiderLoom$Spider", "<init>", "()V"⟩, prog_5_method_1_code, 1, none, 1, 20)
def m_Sh_init : Mt := (⟨"SpiderLoom$Sheet", "<init>", "()V"⟩, prog_4_method_1_code, 1, none, 1, 20)
def m_C_type : Mt := (⟨"SpiderLoom", "type", "(I)I"⟩, prog_1_method_2_code, 2, (some FieldType.int), 3, 68)
def m_Tx_append : Mt := (⟨"SpiderLoom$Text", "append", "(I)V"⟩, prog_6_method_2_code, 2, none, 0, 0)
def m_Tx_pegsTo : Mt := (⟨"SpiderLoom$Text", "pegsTo", "(LSpiderLoom$Frame;)I"⟩, prog_6_method_4_code, 3, (some FieldType.int), 2, 46)
def m_Tx_goesOn : Mt := (⟨"SpiderLoom$Text", "goesOn", "(LSpiderLoom$Frame;I)Z"⟩, prog_6_method_5_code, 4, (some FieldType.boolean), 1, 23)
def m_Fr_isTaken : Mt := (⟨"SpiderLoom$Frame", "isTaken", "(II)Z"⟩, prog_2_method_5_code, 4, (some FieldType.boolean), 0, 0)
def m_Fr_add : Mt := (⟨"SpiderLoom$Frame", "add", "(II)V"⟩, prog_2_method_4_code, 3, none, 0, 0)
def m_C_wipe : Mt := (⟨"SpiderLoom", "wipe", "()I"⟩, prog_1_method_3_code, 2, (some FieldType.int), 3, 68)
def m_Tx_shorten : Mt := (⟨"SpiderLoom$Text", "shorten", "(I)V"⟩, prog_6_method_3_code, 2, none, 0, 0)
def m_C_undo : Mt := (⟨"SpiderLoom", "undo", "()I"⟩, prog_1_method_4_code, 1, (some FieldType.int), 3, 68)
def m_C_fault : Mt := (⟨"SpiderLoom", "fault", "()I"⟩, prog_1_method_5_code, 1, (some FieldType.int), 0, 0)
def m_C_peg : Mt := (⟨"SpiderLoom", "peg", "(II)I"⟩, prog_1_method_6_code, 3, (some FieldType.int), 1, 21)
def m_Fr_has : Mt := (⟨"SpiderLoom$Frame", "has", "(I)Z"⟩, prog_2_method_2_code, 2, (some FieldType.boolean), 0, 0)
def m_C_isHidden : Mt := (⟨"SpiderLoom", "isHidden", "(I)Z"⟩, prog_1_method_40_code, 2, (some FieldType.boolean), 0, 0)
def m_C_hide : Mt := (⟨"SpiderLoom", "hide", "(II)I"⟩, prog_1_method_7_code, 4, (some FieldType.int), 1, 22)
def m_C_setHidden : Mt := (⟨"SpiderLoom", "setHidden", "(II)V"⟩, prog_1_method_41_code, 3, none, 0, 0)
def m_C_set : Mt := (⟨"SpiderLoom", "set", "(II)I"⟩, prog_1_method_8_code, 4, (some FieldType.int), 0, 0)
def m_C_read : Mt := (⟨"SpiderLoom", "read", "(I)I"⟩, prog_1_method_9_code, 6, (some FieldType.int), 1, 22)
def m_C_isSheet : Mt := (⟨"SpiderLoom", "isSheet", "(I)Z"⟩, prog_1_method_38_code, 1, (some FieldType.boolean), 0, 0)
def m_C_found : Mt := (⟨"SpiderLoom", "found", "(I)I"⟩, prog_1_method_42_code, 2, (some FieldType.int), 0, 0)
def m_Ma_min : Mt := (⟨"java/lang/Math", "min", "(II)I"⟩, prog_10_method_69_code, 2, (some FieldType.int), 0, 0)
def m_C_far : Mt := (⟨"SpiderLoom", "far", "(II)I"⟩, prog_1_method_10_code, 3, (some FieldType.int), 2, 42)
def m_Fr_apart : Mt := (⟨"SpiderLoom$Frame", "apart", "(II)I"⟩, prog_2_method_8_code, 3, (some FieldType.int), 1, 20)
def m_Ma_abs : Mt := (⟨"java/lang/Math", "abs", "(I)I"⟩, prog_10_method_59_code, 1, (some FieldType.int), 0, 0)
def m_C_web : Mt := (⟨"SpiderLoom", "web", "(III)I"⟩, prog_1_method_11_code, 5, (some FieldType.int), 4, 97)
def m_C_canBeTold : Mt := (⟨"SpiderLoom", "canBeTold", "(II)Z"⟩, prog_1_method_39_code, 3, (some FieldType.boolean), 1, 21)
def m_C_isLaw : Mt := (⟨"SpiderLoom", "isLaw", "(I)Z"⟩, prog_1_method_36_code, 1, (some FieldType.boolean), 0, 0)
def m_C_lay : Mt := (⟨"SpiderLoom", "lay", "(LSpiderLoom$Spider;LSpiderLoom$Frame;III)LSpiderLoom$Spider;"⟩, prog_1_method_44_code, 9, (some (FieldType.object "SpiderLoom$Spider")), 3, 69)
def m_Sp_startAt : Mt := (⟨"SpiderLoom$Spider", "startAt", "(III)V"⟩, prog_5_method_2_code, 4, none, 0, 0)
def m_Fr_all : Mt := (⟨"SpiderLoom$Frame", "all", "()I"⟩, prog_2_method_3_code, 1, (some FieldType.int), 0, 0)
def m_Sp_here : Mt := (⟨"SpiderLoom$Spider", "here", "()I"⟩, prog_5_method_3_code, 1, (some FieldType.int), 0, 0)
def m_Fr_choose : Mt := (⟨"SpiderLoom$Frame", "choose", "(III)I"⟩, prog_2_method_11_code, 8, (some FieldType.int), 2, 42)
def m_Fr_behindByNumbers : Mt := (⟨"SpiderLoom$Frame", "behindByNumbers", "(II)I"⟩, prog_2_method_12_code, 2, (some FieldType.int), 0, 0)
def m_Fr_behindByRows : Mt := (⟨"SpiderLoom$Frame", "behindByRows", "(II)I"⟩, prog_2_method_13_code, 4, (some FieldType.int), 0, 0)
def m_Sp_goOn : Mt := (⟨"SpiderLoom$Spider", "goOn", "(III)Z"⟩, prog_5_method_4_code, 4, (some FieldType.boolean), 0, 0)
def m_C_length : Mt := (⟨"SpiderLoom", "length", "(III)I"⟩, prog_1_method_12_code, 5, (some FieldType.int), 4, 97)
def m_C_crosses : Mt := (⟨"SpiderLoom", "crosses", "(II)I"⟩, prog_1_method_13_code, 7, (some FieldType.int), 4, 97)
def m_Fr_meet : Mt := (⟨"SpiderLoom$Frame", "meet", "(IIII)Z"⟩, prog_2_method_14_code, 5, (some FieldType.boolean), 2, 44)
def m_Fr_overlap : Mt := (⟨"SpiderLoom$Frame", "overlap", "(IIII)Z"⟩, prog_2_method_15_code, 4, (some FieldType.boolean), 1, 21)
def m_Ma_max : Mt := (⟨"java/lang/Math", "max", "(II)I"⟩, prog_10_method_65_code, 2, (some FieldType.int), 0, 0)
def m_Fr_side : Mt := (⟨"SpiderLoom$Frame", "side", "(III)I"⟩, prog_2_method_16_code, 4, (some FieldType.int), 0, 0)
def m_C_hangs : Mt := (⟨"SpiderLoom", "hangs", "(III)I"⟩, prog_1_method_14_code, 4, (some FieldType.int), 4, 97)
def m_C_neighbours : Mt := (⟨"SpiderLoom", "neighbours", "(LSpiderLoom$Spider;I)I"⟩, prog_1_method_46_code, 3, (some FieldType.int), 1, 22)
def m_Sp_placeOf : Mt := (⟨"SpiderLoom$Spider", "placeOf", "(I)I"⟩, prog_5_method_5_code, 3, (some FieldType.int), 0, 0)
def m_C_pieces : Mt := (⟨"SpiderLoom", "pieces", "(III)I"⟩, prog_1_method_15_code, 5, (some FieldType.int), 4, 97)
def m_C_turned : Mt := (⟨"SpiderLoom", "turned", "(II)I"⟩, prog_1_method_16_code, 5, (some FieldType.int), 4, 97)
def m_Fr_becomeTurned : Mt := (⟨"SpiderLoom$Frame", "becomeTurned", "(LSpiderLoom$Frame;)V"⟩, prog_2_method_7_code, 3, none, 1, 22)
def m_Sp_hasRowOf : Mt := (⟨"SpiderLoom$Spider", "hasRowOf", "(LSpiderLoom$Spider;)Z"⟩, prog_5_method_6_code, 3, (some FieldType.boolean), 0, 0)
def m_C_more : Mt := (⟨"SpiderLoom", "more", "(IIII)I"⟩, prog_1_method_17_code, 5, (some FieldType.int), 4, 97)
def m_Fr_become : Mt := (⟨"SpiderLoom$Frame", "become", "(LSpiderLoom$Frame;)V"⟩, prog_2_method_6_code, 3, none, 1, 22)
def m_C_begin : Mt := (⟨"SpiderLoom", "begin", "(I)I"⟩, prog_1_method_18_code, 7, (some FieldType.int), 4, 97)
def m_C_last : Mt := (⟨"SpiderLoom", "last", "(IIII)I"⟩, prog_1_method_19_code, 6, (some FieldType.int), 5, 125)
def m_C_fewestHiddenFor : Mt := (⟨"SpiderLoom", "fewestHiddenFor", "(III)I"⟩, prog_1_method_47_code, 9, (some FieldType.int), 4, 97)
def m_In_bitCount : Mt := (⟨"java/lang/Integer", "bitCount", "(I)I"⟩, prog_9_method_49_code, 1, (some FieldType.int), 0, 0)
def m_C_two : Mt := (⟨"SpiderLoom", "two", "(IIIII)I"⟩, prog_1_method_20_code, 9, (some FieldType.int), 4, 97)
def m_C_stepInTurn : Mt := (⟨"SpiderLoom", "stepInTurn", "(LSpiderLoom$Spider;LSpiderLoom$Spider;)I"⟩, prog_1_method_45_code, 9, (some FieldType.int), 3, 69)
def m_C_seen : Mt := (⟨"SpiderLoom", "seen", "(III)I"⟩, prog_1_method_21_code, 4, (some FieldType.int), 1, 23)
def m_No_add : Mt := (⟨"SpiderLoom$Notes", "add", "(III)V"⟩, prog_3_method_2_code, 4, none, 0, 0)
def m_C_forget : Mt := (⟨"SpiderLoom", "forget", "()I"⟩, prog_1_method_22_code, 2, (some FieldType.int), 0, 0)
def m_C_fits : Mt := (⟨"SpiderLoom", "fits", "()I"⟩, prog_1_method_23_code, 3, (some FieldType.int), 5, 122)
def m_C_comesOut : Mt := (⟨"SpiderLoom", "comesOut", "(I)Z"⟩, prog_1_method_48_code, 6, (some FieldType.boolean), 4, 97)
def m_C_tells : Mt := (⟨"SpiderLoom", "tells", "()I"⟩, prog_1_method_24_code, 6, (some FieldType.int), 6, 144)
def m_C_unlikeWebs : Mt := (⟨"SpiderLoom", "unlikeWebs", "(II)I"⟩, prog_1_method_49_code, 8, (some FieldType.int), 4, 97)
def m_C_flies : Mt := (⟨"SpiderLoom", "flies", "(IIII)I"⟩, prog_1_method_25_code, 11, (some FieldType.int), 4, 97)
def m_C_nextLot : Mt := (⟨"SpiderLoom", "nextLot", "(I)I"⟩, prog_1_method_50_code, 1, (some FieldType.int), 0, 0)
def m_C_placeByLot : Mt := (⟨"SpiderLoom", "placeByLot", "(I)I"⟩, prog_1_method_51_code, 1, (some FieldType.int), 0, 0)
def m_C_isCaught : Mt := (⟨"SpiderLoom", "isCaught", "(LSpiderLoom$Spider;II)Z"⟩, prog_1_method_52_code, 5, (some FieldType.boolean), 2, 43)
def m_Fr_apartFrom : Mt := (⟨"SpiderLoom$Frame", "apartFrom", "(III)I"⟩, prog_2_method_9_code, 4, (some FieldType.int), 1, 20)
def m_C_dew : Mt := (⟨"SpiderLoom", "dew", "(III)I"⟩, prog_1_method_26_code, 7, (some FieldType.int), 4, 97)
def m_C_sheet : Mt := (⟨"SpiderLoom", "sheet", "(III)I"⟩, prog_1_method_27_code, 4, (some FieldType.int), 2, 44)
def m_C_isForm : Mt := (⟨"SpiderLoom", "isForm", "(I)Z"⟩, prog_1_method_37_code, 1, (some FieldType.boolean), 0, 0)
def m_Sh_renew : Mt := (⟨"SpiderLoom$Sheet", "renew", "(II)V"⟩, prog_4_method_2_code, 4, none, 1, 21)
def m_C_lose : Mt := (⟨"SpiderLoom", "lose", "(I)I"⟩, prog_1_method_28_code, 2, (some FieldType.int), 1, 21)
def m_C_put : Mt := (⟨"SpiderLoom", "put", "(IIII)I"⟩, prog_1_method_29_code, 6, (some FieldType.int), 2, 45)
def m_C_refusalOfItem : Mt := (⟨"SpiderLoom", "refusalOfItem", "(III)I"⟩, prog_1_method_43_code, 5, (some FieldType.int), 1, 21)
def m_Sh_store : Mt := (⟨"SpiderLoom$Sheet", "store", "(II)V"⟩, prog_4_method_3_code, 3, none, 0, 0)
def m_C_get : Mt := (⟨"SpiderLoom", "get", "(III)I"⟩, prog_1_method_30_code, 4, (some FieldType.int), 2, 45)
def m_C_copy : Mt := (⟨"SpiderLoom", "copy", "(IIIII)I"⟩, prog_1_method_31_code, 8, (some FieldType.int), 1, 80)
def m_Sh_hasRun : Mt := (⟨"SpiderLoom$Sheet", "hasRun", "(II)Z"⟩, prog_4_method_4_code, 3, (some FieldType.boolean), 0, 0)
def m_C_write : Mt := (⟨"SpiderLoom", "write", "(III)I"⟩, prog_1_method_32_code, 8, (some FieldType.int), 4, 97)
def m_C_count : Mt := (⟨"SpiderLoom", "count", "(I)I"⟩, prog_1_method_33_code, 2, (some FieldType.int), 3, 65)
def m_Fr_apartOfAllPairs : Mt := (⟨"SpiderLoom$Frame", "apartOfAllPairs", "()I"⟩, prog_2_method_10_code, 4, (some FieldType.int), 2, 42)
def m_C_digest : Mt := (⟨"SpiderLoom", "digest", "()J"⟩, prog_1_method_34_code, 5, (some FieldType.long), 7, 169)
def m_C_mixWeb : Mt := (⟨"SpiderLoom", "mixWeb", "(JII)J"⟩, prog_1_method_35_code, 8, (some FieldType.long), 5, 127)
def m_M_init : Mt := (⟨"SpiderLoomModel", "<init>", "()V"⟩, prog_8_method_1_code, 1, none, 1, 20)
def m_M_type : Mt := (⟨"SpiderLoomModel", "type", "(I)I"⟩, prog_8_method_7_code, 2, (some FieldType.int), 1, 22)
def m_M_in : Mt := (⟨"SpiderLoomModel", "in", "(III)Z"⟩, prog_8_method_3_code, 3, (some FieldType.boolean), 0, 0)
def m_M_wipe : Mt := (⟨"SpiderLoomModel", "wipe", "()I"⟩, prog_8_method_8_code, 2, (some FieldType.int), 0, 0)
def m_M_undo : Mt := (⟨"SpiderLoomModel", "undo", "()I"⟩, prog_8_method_9_code, 1, (some FieldType.int), 0, 0)
def m_M_fault : Mt := (⟨"SpiderLoomModel", "fault", "()I"⟩, prog_8_method_13_code, 1, (some FieldType.int), 3, 68)
def m_M_faultNow : Mt := (⟨"SpiderLoomModel", "faultNow", "()I"⟩, prog_8_method_12_code, 5, (some FieldType.int), 2, 44)
def m_M_figureAt : Mt := (⟨"SpiderLoomModel", "figureAt", "(I)I"⟩, prog_8_method_10_code, 3, (some FieldType.int), 1, 22)
def m_M_isTaken : Mt := (⟨"SpiderLoomModel", "isTaken", "(III)Z"⟩, prog_8_method_11_code, 6, (some FieldType.boolean), 0, 0)
def m_M_peg : Mt := (⟨"SpiderLoomModel", "peg", "(II)I"⟩, prog_8_method_18_code, 3, (some FieldType.int), 4, 90)
def m_M_isPeg : Mt := (⟨"SpiderLoomModel", "isPeg", "(I)Z"⟩, prog_8_method_14_code, 3, (some FieldType.boolean), 3, 68)
def m_M_pegOf : Mt := (⟨"SpiderLoomModel", "pegOf", "(II)I"⟩, prog_8_method_17_code, 3, (some FieldType.int), 0, 0)
def m_M_hide : Mt := (⟨"SpiderLoomModel", "hide", "(II)I"⟩, prog_8_method_19_code, 4, (some FieldType.int), 2, 42)
def m_M_isTen : Mt := (⟨"SpiderLoomModel", "isTen", "(I)Z"⟩, prog_8_method_15_code, 1, (some FieldType.boolean), 1, 22)
def m_M_set : Mt := (⟨"SpiderLoomModel", "set", "(II)I"⟩, prog_8_method_20_code, 4, (some FieldType.int), 1, 22)
def m_M_read : Mt := (⟨"SpiderLoomModel", "read", "(I)I"⟩, prog_8_method_21_code, 3, (some FieldType.int), 2, 42)
def m_M_isSheet : Mt := (⟨"SpiderLoomModel", "isSheet", "(I)Z"⟩, prog_8_method_67_code, 1, (some FieldType.boolean), 1, 22)
def m_M_meets : Mt := (⟨"SpiderLoomModel", "meets", "(I)I"⟩, prog_8_method_66_code, 2, (some FieldType.int), 0, 0)
def m_M_far : Mt := (⟨"SpiderLoomModel", "far", "(II)I"⟩, prog_8_method_23_code, 3, (some FieldType.int), 4, 90)
def m_M_farOf : Mt := (⟨"SpiderLoomModel", "farOf", "(II)I"⟩, prog_8_method_22_code, 3, (some FieldType.int), 1, 21)
def m_M_apart : Mt := (⟨"SpiderLoomModel", "apart", "(II)I"⟩, prog_8_method_6_code, 2, (some FieldType.int), 0, 0)
def m_M_web : Mt := (⟨"SpiderLoomModel", "web", "(III)I"⟩, prog_8_method_30_code, 4, (some FieldType.int), 5, 120)
def m_M_isWeb : Mt := (⟨"SpiderLoomModel", "isWeb", "(II)Z"⟩, prog_8_method_28_code, 3, (some FieldType.boolean), 4, 90)
def m_M_isLaw : Mt := (⟨"SpiderLoomModel", "isLaw", "(I)Z"⟩, prog_8_method_16_code, 1, (some FieldType.boolean), 1, 22)
def m_M_webOf : Mt := (⟨"SpiderLoomModel", "webOf", "(III)I"⟩, prog_8_method_29_code, 4, (some FieldType.int), 4, 97)
def m_M_isHidden : Mt := (⟨"SpiderLoomModel", "isHidden", "(I)Z"⟩, prog_8_method_27_code, 2, (some FieldType.boolean), 1, 21)
def m_M_isIn : Mt := (⟨"SpiderLoomModel", "isIn", "(II)Z"⟩, prog_8_method_4_code, 2, (some FieldType.boolean), 0, 0)
def m_M_lays : Mt := (⟨"SpiderLoomModel", "lays", "(III)V"⟩, prog_8_method_26_code, 7, none, 3, 71)
def m_M_nextOf : Mt := (⟨"SpiderLoomModel", "nextOf", "(III)I"⟩, prog_8_method_25_code, 9, (some FieldType.int), 2, 43)
def m_M_place : Mt := (⟨"SpiderLoomModel", "place", "(I)I"⟩, prog_8_method_24_code, 2, (some FieldType.int), 0, 0)
def m_M_length : Mt := (⟨"SpiderLoomModel", "length", "(III)I"⟩, prog_8_method_32_code, 4, (some FieldType.int), 5, 120)
def m_M_lengthOf : Mt := (⟨"SpiderLoomModel", "lengthOf", "(III)I"⟩, prog_8_method_31_code, 4, (some FieldType.int), 4, 97)
def m_M_crosses : Mt := (⟨"SpiderLoomModel", "crosses", "(II)I"⟩, prog_8_method_37_code, 3, (some FieldType.int), 5, 122)
def m_M_crossesOf : Mt := (⟨"SpiderLoomModel", "crossesOf", "(II)I"⟩, prog_8_method_36_code, 6, (some FieldType.int), 4, 97)
def m_M_doMeet : Mt := (⟨"SpiderLoomModel", "doMeet", "(IIII)Z"⟩, prog_8_method_35_code, 10, (some FieldType.boolean), 3, 66)
def m_M_hand : Mt := (⟨"SpiderLoomModel", "hand", "(III)I"⟩, prog_8_method_33_code, 5, (some FieldType.int), 0, 0)
def m_M_isBetween : Mt := (⟨"SpiderLoomModel", "isBetween", "(III)Z"⟩, prog_8_method_34_code, 4, (some FieldType.boolean), 2, 43)
def m_M_hangs : Mt := (⟨"SpiderLoomModel", "hangs", "(III)I"⟩, prog_8_method_40_code, 4, (some FieldType.int), 5, 121)
def m_M_hangsOf : Mt := (⟨"SpiderLoomModel", "hangsOf", "(III)I"⟩, prog_8_method_39_code, 5, (some FieldType.int), 4, 97)
def m_M_indexOf : Mt := (⟨"SpiderLoomModel", "indexOf", "(I)I"⟩, prog_8_method_38_code, 3, (some FieldType.int), 0, 0)
def m_M_pieces : Mt := (⟨"SpiderLoomModel", "pieces", "(III)I"⟩, prog_8_method_42_code, 4, (some FieldType.int), 6, 145)
def m_M_piecesOf : Mt := (⟨"SpiderLoomModel", "piecesOf", "(III)I"⟩, prog_8_method_41_code, 5, (some FieldType.int), 5, 121)
def m_M_turned : Mt := (⟨"SpiderLoomModel", "turned", "(II)I"⟩, prog_8_method_45_code, 3, (some FieldType.int), 5, 122)
def m_M_turnedOf : Mt := (⟨"SpiderLoomModel", "turnedOf", "(II)I"⟩, prog_8_method_44_code, 6, (some FieldType.int), 4, 97)
def m_M_turns : Mt := (⟨"SpiderLoomModel", "turns", "(I)V"⟩, prog_8_method_43_code, 5, none, 0, 0)
def m_M_more : Mt := (⟨"SpiderLoomModel", "more", "(IIII)I"⟩, prog_8_method_47_code, 5, (some FieldType.int), 5, 121)
def m_M_moreOf : Mt := (⟨"SpiderLoomModel", "moreOf", "(IIII)I"⟩, prog_8_method_46_code, 5, (some FieldType.int), 4, 97)
def m_M_begin : Mt := (⟨"SpiderLoomModel", "begin", "(I)I"⟩, prog_8_method_49_code, 2, (some FieldType.int), 5, 124)
def m_M_beginOf : Mt := (⟨"SpiderLoomModel", "beginOf", "(I)I"⟩, prog_8_method_48_code, 8, (some FieldType.int), 4, 97)
def m_M_last : Mt := (⟨"SpiderLoomModel", "last", "(IIII)I"⟩, prog_8_method_51_code, 5, (some FieldType.int), 5, 124)
def m_M_lastOf : Mt := (⟨"SpiderLoomModel", "lastOf", "(IIII)I"⟩, prog_8_method_50_code, 8, (some FieldType.int), 4, 97)
def m_M_ones : Mt := (⟨"SpiderLoomModel", "ones", "(I)I"⟩, prog_8_method_5_code, 3, (some FieldType.int), 0, 0)
def m_M_two : Mt := (⟨"SpiderLoomModel", "two", "(IIIII)I"⟩, prog_8_method_53_code, 6, (some FieldType.int), 5, 112)
def m_M_twoOf : Mt := (⟨"SpiderLoomModel", "twoOf", "(IIIII)I"⟩, prog_8_method_52_code, 19, (some FieldType.int), 3, 71)
def m_M_seen : Mt := (⟨"SpiderLoomModel", "seen", "(III)I"⟩, prog_8_method_54_code, 4, (some FieldType.int), 2, 42)
def m_M_forget : Mt := (⟨"SpiderLoomModel", "forget", "()I"⟩, prog_8_method_55_code, 2, (some FieldType.int), 0, 0)
def m_M_fits : Mt := (⟨"SpiderLoomModel", "fits", "()I"⟩, prog_8_method_57_code, 1, (some FieldType.int), 5, 122)
def m_M_fitsNow : Mt := (⟨"SpiderLoomModel", "fitsNow", "()I"⟩, prog_8_method_56_code, 6, (some FieldType.int), 4, 97)
def m_M_tells : Mt := (⟨"SpiderLoomModel", "tells", "()I"⟩, prog_8_method_61_code, 1, (some FieldType.int), 6, 148)
def m_M_tellsNow : Mt := (⟨"SpiderLoomModel", "tellsNow", "()I"⟩, prog_8_method_60_code, 6, (some FieldType.int), 5, 123)
def m_M_unlikeFrom : Mt := (⟨"SpiderLoomModel", "unlikeFrom", "(II)I"⟩, prog_8_method_59_code, 7, (some FieldType.int), 4, 97)
def m_M_areAlike : Mt := (⟨"SpiderLoomModel", "areAlike", "(II)Z"⟩, prog_8_method_58_code, 5, (some FieldType.boolean), 0, 0)
def m_M_flies : Mt := (⟨"SpiderLoomModel", "flies", "(IIII)I"⟩, prog_8_method_63_code, 5, (some FieldType.int), 5, 128)
def m_M_fliesOf : Mt := (⟨"SpiderLoomModel", "fliesOf", "(IIII)I"⟩, prog_8_method_62_code, 12, (some FieldType.int), 4, 97)
def m_M_dew : Mt := (⟨"SpiderLoomModel", "dew", "(III)I"⟩, prog_8_method_65_code, 4, (some FieldType.int), 5, 121)
def m_M_dewOf : Mt := (⟨"SpiderLoomModel", "dewOf", "(III)I"⟩, prog_8_method_64_code, 5, (some FieldType.int), 4, 97)
def m_M_sheet : Mt := (⟨"SpiderLoomModel", "sheet", "(III)I"⟩, prog_8_method_68_code, 5, (some FieldType.int), 2, 42)
def m_M_lose : Mt := (⟨"SpiderLoomModel", "lose", "(I)I"⟩, prog_8_method_69_code, 2, (some FieldType.int), 2, 42)
def m_M_put : Mt := (⟨"SpiderLoomModel", "put", "(IIII)I"⟩, prog_8_method_72_code, 6, (some FieldType.int), 2, 45)
def m_M_lacks : Mt := (⟨"SpiderLoomModel", "lacks", "(III)I"⟩, prog_8_method_70_code, 4, (some FieldType.int), 1, 22)
def m_M_keep : Mt := (⟨"SpiderLoomModel", "keep", "(III)V"⟩, prog_8_method_71_code, 4, none, 0, 0)
def m_M_get : Mt := (⟨"SpiderLoomModel", "get", "(III)I"⟩, prog_8_method_73_code, 5, (some FieldType.int), 2, 45)
def m_M_copy : Mt := (⟨"SpiderLoomModel", "copy", "(IIIII)I"⟩, prog_8_method_74_code, 7, (some FieldType.int), 2, 42)
def m_M_write : Mt := (⟨"SpiderLoomModel", "write", "(III)I"⟩, prog_8_method_75_code, 5, (some FieldType.int), 5, 112)
def m_M_count : Mt := (⟨"SpiderLoomModel", "count", "(I)I"⟩, prog_8_method_77_code, 2, (some FieldType.int), 4, 93)
def m_M_sumOf : Mt := (⟨"SpiderLoomModel", "sumOf", "(I)I"⟩, prog_8_method_76_code, 6, (some FieldType.int), 3, 68)
def m_M_digest : Mt := (⟨"SpiderLoomModel", "digest", "()J"⟩, prog_8_method_78_code, 6, (some FieldType.long), 7, 168)
def flds : Nat → List (Option Nat)
  | 0 => [some 1, some 2, none]
  | 1 => [some 1, some 2, some 3, none]
  | 2 => [some 1, none, none, none]
  | 3 => [some 1, none, none, none, none]
  | 4 => [some 1, none]
  | 5 => [some 1, some 3, some 6, some 9, some 10, some 14, none, none, none, none, none, none]
  | _ => [some 1, none, none, some 2, some 3, none, none, none, none, some 4, none, none, none, some 5, none, some 6, some 7, some 8, some 9, some 10, some 11, some 12, some 13, some 14, none]
def shp : Nat → Nat ⊕ (Nat × Nat × Nat)
  | 0 => .inl 5
  | 1 => .inl 4
  | 2 => .inr (0, 40, 0)
  | 3 => .inl 0
  | 4 => .inr (0, 10, 0)
  | 5 => .inr (0, 10, 0)
  | 6 => .inl 0
  | 7 => .inr (0, 10, 0)
  | 8 => .inr (0, 10, 0)
  | 9 => .inr (2, 4, 15)
  | 10 => .inl 1
  | 11 => .inr (0, 8, 0)
  | 12 => .inr (0, 8, 0)
  | 13 => .inr (0, 8, 0)
  | 14 => .inr (3, 4, 23)
  | 15 => .inl 3
  | 16 => .inr (0, 10, 0)
  | 17 => .inl 3
  | 18 => .inr (0, 10, 0)
  | 19 => .inl 3
  | 20 => .inr (0, 10, 0)
  | 21 => .inl 3
  | 22 => .inr (0, 10, 0)
  | 23 => .inl 2
  | 24 => .inr (0, 48, 0)
  | 25 => .inl 2
  | 26 => .inr (0, 48, 0)
  | 27 => .inl 2
  | 28 => .inr (0, 48, 0)
  | 29 => .inl 2
  | 30 => .inr (0, 48, 0)
  | 31 => .inl 6
  | 32 => .inr (0, 40, 0)
  | 33 => .inr (0, 11, 0)
  | 34 => .inr (0, 11, 0)
  | 35 => .inr (0, 11, 0)
  | 36 => .inr (0, 11, 0)
  | 37 => .inr (0, 8, 0)
  | 38 => .inr (0, 8, 0)
  | 39 => .inr (0, 8, 0)
  | 40 => .inr (0, 44, 0)
  | 41 => .inr (1, 4, 0)
  | 42 => .inr (0, 4, 0)
  | 43 => .inr (0, 4, 0)
  | 44 => .inr (0, 192, 0)
  | _ => .inr (0, 48, 0)
def NC : Nat := 46
end
section
/-! THE JUDGEMENT V: a method's body at a pc, over the abstract world, comes to the pure value o -/
abbrev Hp : Type := Nat → Nat → Int32
abbrev Gt : Type := Launch × (Nat → Nat) × va_G × (Nat → ClassId)
def ad (G : Gt) (a : Nat) : Nat := G.2.1 a
def isO (ci a : Nat) : Prop := a < NC ∧ shp a = .inl ci
def isA (k n b a : Nat) : Prop := a < NC ∧ shp a = .inr (k, n, b)
def cellF (G : Gt) (h : Hp) (a : Nat) (fl : List (Option Nat)) : List Value := fl.mapIdx fun k o => match o with
  | none => .int (h a k)
  | some d => .ref (ad G (a + d))
def cellE (G : Gt) (h : Hp) (a : Nat) (s : Nat ⊕ (Nat × Nat × Nat)) : va_E := match s with
  | .inl ci => .inr (ci, cellF G h a (flds ci))
  | .inr (k, n, b) => .inl (G.2.2.2 k, n, if k ≤ 1 then .inl (h a) else .inr (.inr (.inr (.inr (fun i => some (ad G (b + 2 * i)))))))
def cellOf (G : Gt) (h : Hp) (a : Nat) : va_E := cellE G h a (shp a)
def world (G : Gt) (h : Hp) : va_W := (List.range NC).map fun a => (ad G a, cellOf G h a)
def tysOf (G : Gt) : List (ClassId × FieldType) := [(G.2.2.2 0, .int), (G.2.2.2 1, .boolean), (G.2.2.2 2, .object "SpiderLoom$Spider"), (G.2.2.2 3, .object "SpiderLoom$Sheet")]
def hset (h : Hp) (a k : Nat) (v : Int32) : Hp := fun b => if b = a then upd (h a) k v else h b
def hcpy (h : Hp) (a b sp dp n : Nat) : Hp := fun c => if c = b then va_cpy (h a) (h b) sp dp n else h c
def wInj (G : Gt) : Prop := ∀ a b, a < NC → b < NC → ad G a = ad G b → a = b
def Aw (G : Gt) : Nat → Prop := fun q => ∃ a, a < NC ∧ q = ad G a
theorem world_at {G : Gt} {h : Hp} {a : Nat} (ha : a < NC) : (world G h)[a]? = some (ad G a, cellOf G h a) := by
  simp [world, ha]
theorem world_set {G : Gt} {h h' : Hp} {a : Nat} (ha : a < NC) (hh : ∀ b, b ≠ a → h' b = h b) : (world G h).set a (ad G a, cellOf G h' a) = world G h' := by
  apply List.ext_getElem?
  intro b
  by_cases hb : b = a
  · subst hb
    rw [List.getElem?_set_self (by simp [world, ha]), world_at ha]
  · rw [List.getElem?_set_ne (Ne.symm hb)]
    by_cases hn : b < NC
    · rw [world_at hn, world_at hn]
      have e : h' b = h b := hh b hb
      have : cellOf G h' b = cellOf G h b := by
        unfold cellOf cellE
        cases shp b with
        | inl ci => simp only [cellF, e]
        | inr q => simp only [e]
      rw [this]
    · rw [List.getElem?_eq_none (by simp [world]; omega), List.getElem?_eq_none (by simp [world]; omega)]
theorem world_D {G : Gt} {h : Hp} (hi : wInj G) : va_D (Aw G) (world G h) := by
  have key : ∀ (k : Nat) (q : Nat × va_E), (world G h)[k]? = some q → k < NC ∧ q.1 = ad G k := by
    intro k q hk
    have hl : k < (world G h).length := (List.getElem?_eq_some_iff.mp hk).1
    have hn : k < NC := by simpa [world] using hl
    rw [world_at hn] at hk
    cases hk
    exact ⟨hn, rfl⟩
  refine ⟨fun i j p q h1 h2 e => ?_, fun k q hk => ?_⟩
  · obtain ⟨a1, a2⟩ := key i p h1
    obtain ⟨b1, b2⟩ := key j q h2
    exact hi i j a1 b1 (a2.symm.trans (e.trans b2))
  · obtain ⟨a1, a2⟩ := key k q hk
    exact ⟨k, a1, a2⟩
theorem cell_O {G : Gt} {h : Hp} {ci a : Nat} (hO : isO ci a) : (world G h)[a]? = some (ad G a, .inr (ci, cellF G h a (flds ci))) := by
  rw [world_at hO.1, cellOf, hO.2]; rfl
theorem cell_A {G : Gt} {h : Hp} {k n b a : Nat} (hA : isA k n b a) (hk : k ≤ 1) : (world G h)[a]? = some (ad G a, .inl (G.2.2.2 k, n, .inl (h a))) := by
  rw [world_at hA.1, cellOf, hA.2]; simp [cellE, hk]
theorem cell_R {G : Gt} {h : Hp} {k n b a : Nat} (hA : isA k n b a) (hk : ¬ k ≤ 1) : (world G h)[a]? = some (ad G a, .inl (G.2.2.2 k, n, .inr (.inr (.inr (.inr (fun i => some (ad G (b + 2 * i)))))))) := by
  rw [world_at hA.1, cellOf, hA.2]; simp [cellE, hk]
theorem cellF_i {G : Gt} {h : Hp} {a k : Nat} {fl : List (Option Nat)} (hk : fl[k]? = some none) : (cellF G h a fl)[k]? = some (.int (h a k)) := by
  simp [cellF, List.getElem?_mapIdx, hk]
theorem cellF_r {G : Gt} {h : Hp} {a k d : Nat} {fl : List (Option Nat)} (hk : fl[k]? = some (some d)) : (cellF G h a fl)[k]? = some (.ref (ad G (a + d))) := by
  simp [cellF, List.getElem?_mapIdx, hk]
theorem cellF_set {G : Gt} {h : Hp} {a k : Nat} {v : Int32} {fl : List (Option Nat)} (hk : fl[k]? = some none) : (cellF G h a fl).set k (.int v) = cellF G (hset h a k v) a fl := by
  apply List.ext_getElem?
  intro j
  by_cases hj : j = k
  · subst hj
    rw [List.getElem?_set_self (by have := (List.getElem?_eq_some_iff.mp (cellF_i (G := G) (h := h) (a := a) hk)).1; exact this)]
    rw [cellF_i hk]
    simp [hset, upd]
  · rw [List.getElem?_set_ne (Ne.symm hj)]
    simp only [cellF, List.getElem?_mapIdx]
    cases fl[j]? with
    | none => rfl
    | some o =>
      cases o with
      | none => simp [hset, upd, hj]
      | some d => rfl
theorem hset_off {h : Hp} {a k : Nat} {v : Int32} {b : Nat} (hb : b ≠ a) : hset h a k v b = h b := by simp [hset, hb]
theorem set_O {G : Gt} {h : Hp} {ci a k : Nat} {v : Int32} (hO : isO ci a) (hk : (flds ci)[k]? = some none) : (world G h).set a (ad G a, .inr (ci, (cellF G h a (flds ci)).set k (.int v))) = world G (hset h a k v) := by
  rw [cellF_set hk]
  have := world_set (G := G) (h := h) (h' := hset h a k v) hO.1 (fun b hb => hset_off hb)
  rw [← this, cellOf, hO.2]; rfl
theorem set_A {G : Gt} {h : Hp} {kd n b a k : Nat} {v : Int32} (hA : isA kd n b a) (hkd : kd ≤ 1) : (world G h).set a (ad G a, .inl (G.2.2.2 kd, n, .inl (upd (h a) k v))) = world G (hset h a k v) := by
  have := world_set (G := G) (h := h) (h' := hset h a k v) hA.1 (fun b hb => hset_off hb)
  rw [← this, cellOf, hA.2]; simp [cellE, hkd, hset]
theorem set_C {G : Gt} {h : Hp} {kd n b a a0 sp dp nn : Nat} (hA : isA kd n b a) (hkd : kd ≤ 1) : (world G h).set a (ad G a, .inl (G.2.2.2 kd, n, .inl (va_cpy (h a0) (h a) sp dp nn))) = world G (hcpy h a0 a sp dp nn) := by
  have := world_set (G := G) (h := h) (h' := hcpy h a0 a sp dp nn) hA.1 (fun b hb => by simp [hcpy, hb])
  rw [← this, cellOf, hA.2]; simp [cellE, hkd, hcpy]
def wsOf (μ : Mt) : List Cond := .code μ.1 μ.2.1 μ.2.2.1 μ.2.2.2.1 :: lwg
def rmOf (μ : Mt) : Room := { frames := μ.2.2.2.2.1, cells := 0, slots := 0, locals := μ.2.2.2.2.2 }
def Qc {ρ : Type} (G : Gt) (κ : ρ → Option Value) (r : ρ) (h : Hp) : Array Value → State → Outcome → State → Prop := fun _ st oc t => oc = .returned (κ r) ∧ va_P G.2.2.1 classes (world G h) t.heap ∧ va_F (Aw G) st t
def WH (G : Gt) (h : Hp) (U : State) : Prop := va_P G.2.2.1 classes (world G h) U.heap ∧ va_K G.2.2.1 classes (tysOf G) U ∧ wInj G
def Cx (μ : Mt) (p : Program) (s : State) (m : MethodId) (args : Array Value) (meth : Method) (c : Code) : Prop :=
  p.tables.exec = Jvm.exec ∧ c.code = μ.2.1 ∧ meth.sig.returnType = μ.2.2.2.1 ∧ c.maxLocals = μ.2.2.1 ∧ s.vm.findClass μ.1.cls = some m.cls ∧ (∀ w ∈ wsOf μ, w.before args s = true) ∧ meth.locks = false
/-- where o is some (r, h'), the method, from pc on, returns κ r with the world h' -/
def V {ρ : Type} (G : Gt) (μ : Mt) (pc : Nat) (ls : List (Nat × Value)) (st : List Value) (h : Hp) (κ : ρ → Option Value) (o : Option (ρ × Hp)) : Prop :=
  ∀ (r : ρ) (h' : Hp), o = some (r, h') → ∀ (p : Program) (e : Env) (s : State) (m : MethodId) (args : Array Value) (below : List Frame) (meth : Method) (c : Code) (H : Heap) (locs : List Loc) (lsA : Array Slot),
    Cx μ p s m args meth c → va_K G.2.2.1 classes (tysOf G) s → wInj G → va_P G.2.2.1 classes (world G h) H → va_S (Aw G) s.heap H locs → lv_has lsA μ.2.2.1 ls →
    W p G.1 e (rmOf μ) s m args below meth c H locs 0 0 (MQ below (Qc G κ r h') args s 0 0 (Aw G)) (F0 m pc lsA st)
def Cn {ρ : Type} (G : Gt) (μ : Mt) (av : List Value) (h : Hp) (κ : ρ → Option Value) (o : Option (ρ × Hp)) : Prop :=
  ∀ (r : ρ) (h' : Hp), o = some (r, h') → Met G.1 μ.1 (wsOf μ) (rmOf μ) (va_Pc av (WH G h)) (Qc G κ r h') 0 0 (Aw G)
def κi : Int32 → Option Value := fun r => some (.int r)
def κl : Int64 → Option Value := fun r => some (.long r)
def κv : Unit → Option Value := fun _ => none
def κr (G : Gt) : Nat → Option Value := fun a => some (.ref (ad G a))
def inb (i : Int32) (n : Nat) : Bool := !decide (i < 0) && decide (i.toNatClampNeg < n)
abbrev ix (i : Int32) : Nat := i.toNatClampNeg
/-- the index is looked at -/
def chk {α : Type} (n : Nat) (i : Int32) (o : Option α) : Option α := if inb i n = true then o else none
def bnd {ρ σ : Type} (o : Option (ρ × Hp)) (f : ρ → Hp → Option σ) : Option σ := match o with
  | none => none
  | some q => f q.1 q.2
/-- a boolean answer -/
def zret (v : Int32) (h : Hp) : Option (Int32 × Hp) := if v = 0 then some (0, h) else if v = 1 then some (1, h) else none
def FUEL : Nat := 5000
theorem inb_in {i : Int32} {n : Nat} (h : inb i n = true) : vp_in i n := by
  simp [inb] at h
  rintro (q | q)
  · exact absurd q (Int32.not_lt.mpr h.1)
  · omega
theorem chk_some {α : Type} {n : Nat} {i : Int32} {o : Option α} {q : α} (h : chk n i o = some q) : inb i n = true ∧ o = some q := by
  unfold chk at h
  split at h
  · exact ⟨by assumption, h⟩
  · cases h
theorem Cx.call {μ μz : Mt} {p : Program} {s : State} {m : MethodId} {args : Array Value} {meth : Method} {c : Code} (C : Cx μ p s m args meth c) (hc : Cond.code μz.1 μz.2.1 μz.2.2.1 μz.2.2.2.1 ∈ lwg) : GoodIn (wsOf μ) (wsOf μz) := by
  intro w hw
  have h1 : w ∈ lwg := by
    rcases List.mem_cons.mp hw with e | e
    · rw [e]; exact hc
    · exact e
  exact ⟨List.mem_cons_of_mem _ h1, good_of_word (lwg_good h1)⟩
theorem Cx.word {μ : Mt} {p : Program} {s : State} {m : MethodId} {args : Array Value} {meth : Method} {c : Code} (C : Cx μ p s m args meth c) {w : Cond} (hw : w ∈ lwg) : w.before args s = true := C.2.2.2.2.2.1 w (List.mem_cons_of_mem _ hw)
/-- a method's words in the tables, its descriptor: what a call needs -/
def CallOK (cls : String) (idx : Nat) (μz : Mt) (n : Nat) : Prop :=
  Cond.code μz.1 μz.2.1 μz.2.2.1 μz.2.2.2.1 ∈ lwg ∧ Cond.initialized μz.1.cls ∈ lwg ∧ Cond.methodLink cls idx μz.1 ∈ lwg ∧ (μz.1.cls ≠ "java/lang/invoke/MethodHandle" ∧ μz.1.cls ≠ "java/lang/invoke/VarHandle" ∧ (parseMethodDescriptor μz.1.desc).map (fun d => d.parameters.length) = some n)
def InstOK (μz : Mt) (ci : Nat) : Prop := Cond.instanceMethod μz.1 ∈ lwg ∧ Cond.selects μz.1.cls μz.1 μz.1 ∈ lwg ∧ ∃ q, classes[ci]? = some q ∧ q.1 = μz.1.cls
def StatOK (μz : Mt) : Prop := Cond.static μz.1 ∈ lwg
def RoomOK (μ μz : Mt) : Prop := μz.2.2.2.2.1 + 1 ≤ μ.2.2.2.2.1 ∧ 8 + (μz.2.2.1 + 11) + μz.2.2.2.2.2 ≤ μ.2.2.2.2.2
theorem WH.blind {G : Gt} {h : Hp} {av : List Value} : FrameBlind (va_Pc av (WH G h)) := by
  intro a U g mk q
  obtain ⟨q0, qP, qK, qI⟩ := q
  exact ⟨q0, qP, va_K.moved (u := U) (U := U.calling g mk a) (Vm.Alike.refl U.vm) qK, qI⟩
theorem entryV {ρ : Type} {G : Gt} {μ : Mt} {av : List Value} {ls : List (Nat × Value)} {h : Hp} {κ : ρ → Option Value} {o : Option (ρ × Hp)} (hy : plainName μ.1.cls = true) (hn : (lg_sl av).length ≤ μ.2.2.1) (hl : lv_args 0 av = ls) (k : V G μ 0 ls [] h κ o) : Cn G μ av h κ o := by
  intro r h' ho
  refine Met.ofW (cc := μ.2.1) (maxL := μ.2.2.1) (ret := μ.2.2.2.1) hy rfl ?_
  intro p e s m args below meth c s₁ B hml hv
  obtain ⟨rfl, hP, hK, hI⟩ := hv
  have hts := atoms_spec (ws := wsOf μ) B.pre
  have hown : s.vm.findClass μ.1.cls = some m.cls := findClass_of_methodNamed B.named
  have hl0 := lv_entry av (n := μ.2.2.1) hn
  rw [lg_entry_eq]
  rw [hl] at hl0
  exact k r h' ho p e s m _ below meth c s.heap [] _ ⟨B.exec, B.bytes, B.returns, hml, hown, hts, B.notSynchronized⟩ hK hI hP va_S.rf hl0
section VR
variable {ρ : Type} {G : Gt} {μ : Mt} {pc : Nat} {ls : List (Nat × Value)} {st : List Value} {h : Hp} {κ : ρ → Option Value} {o : Option (ρ × Hp)}
theorem v_sub (ks : List Nat) {ls' : List (Nat × Value)} (hl : lv_pick ls' ks = ls) (k : V G μ pc ls st h κ o) : V G μ pc ls' st h κ o := by
  intro r h' ho p e s m args below meth c H locs lsA C hK hI hP hS hL
  exact k r h' ho p e s m args below meth c H locs lsA C hK hI hP hS (lv_sub hL ks hl)
theorem v_iconst {n : Int} (v : Int32) (hdg : decode μ.2.1 pc = .ok (.iconst n, 1)) (hv : Int32.ofInt n = v) (k : V G μ (pc + 1) ls (.int v :: st) h κ o) : V G μ pc ls st h κ o := by
  intro r h' ho p e s m args below meth c H locs lsA C hK hI hP hS hL
  exact lv_iconst C.1 C.2.1 hdg hv (k r h' ho p e s m args below meth c H locs lsA C hK hI hP hS hL)
theorem v_bipush {n : Int} (v : Int32) (hdg : decode μ.2.1 pc = .ok (.bipush n, 2)) (hv : (Int8.ofInt n).toInt32 = v) (k : V G μ (pc + 2) ls (.int v :: st) h κ o) : V G μ pc ls st h κ o := by
  intro r h' ho p e s m args below meth c H locs lsA C hK hI hP hS hL
  exact lv_bipush C.1 C.2.1 hdg hv (k r h' ho p e s m args below meth c H locs lsA C hK hI hP hS hL)
theorem v_sipush {n : Int} (v : Int32) (hdg : decode μ.2.1 pc = .ok (.sipush n, 3)) (hv : (Int16.ofInt n).toInt32 = v) (k : V G μ (pc + 3) ls (.int v :: st) h κ o) : V G μ pc ls st h κ o := by
  intro r h' ho p e s m args below meth c H locs lsA C hK hI hP hS hL
  exact lv_sipush C.1 C.2.1 hdg hv (k r h' ho p e s m args below meth c H locs lsA C hK hI hP hS hL)
theorem v_ldc {i : Nat} {v : Int32} (hw : Cond.constant μ.1.cls i v ∈ lwg) (hdg : decode μ.2.1 pc = .ok (.ldc i, 2)) (k : V G μ (pc + 2) ls (.int v :: st) h κ o) : V G μ pc ls st h κ o := by
  intro r h' ho p e s m args below meth c H locs lsA C hK hI hP hS hL
  exact lv_ldc C.1 C.2.1 C.2.2.2.2.1 (C.word hw) hdg (k r h' ho p e s m args below meth c H locs lsA C hK hI hP hS hL)
theorem v_ldcw {i : Nat} {v : Int32} (hw : Cond.constant μ.1.cls i v ∈ lwg) (hdg : decode μ.2.1 pc = .ok (.ldc_w i, 3)) (k : V G μ (pc + 3) ls (.int v :: st) h κ o) : V G μ pc ls st h κ o := by
  intro r h' ho p e s m args below meth c H locs lsA C hK hI hP hS hL
  exact lv_ldcw C.1 C.2.1 C.2.2.2.2.1 (C.word hw) hdg (k r h' ho p e s m args below meth c H locs lsA C hK hI hP hS hL)
theorem v_ldc2 {i : Nat} {v : Int64} (hw : Cond.constantLong μ.1.cls i v ∈ lwg) (hdg : decode μ.2.1 pc = .ok (.ldc2_w i, 3)) (k : V G μ (pc + 3) ls (.long v :: st) h κ o) : V G μ pc ls st h κ o := by
  intro r h' ho p e s m args below meth c H locs lsA C hK hI hP hS hL
  exact lv_ldc2 C.1 C.2.1 C.2.2.2.2.1 (C.word hw) hdg (k r h' ho p e s m args below meth c H locs lsA C hK hI hP hS hL)
theorem v_iload_n {f : Fin 4} {i : Nat} {x : Int32} (j : Nat) (hdg : decode μ.2.1 pc = .ok (.iload_n f, 1)) (hi : (f : Nat) = i) (hl : ls[j]? = some (i, .int x)) (k : V G μ (pc + 1) ls (.int x :: st) h κ o) : V G μ pc ls st h κ o := by
  intro r h' ho p e s m args below meth c H locs lsA C hK hI hP hS hL
  exact lv_iload_n C.1 C.2.1 hdg hi (lv_at hL j hl) (k r h' ho p e s m args below meth c H locs lsA C hK hI hP hS hL)
theorem v_iload {i : Nat} {x : Int32} (j : Nat) (hdg : decode μ.2.1 pc = .ok (.iload i, 2)) (hl : ls[j]? = some (i, .int x)) (k : V G μ (pc + 2) ls (.int x :: st) h κ o) : V G μ pc ls st h κ o := by
  intro r h' ho p e s m args below meth c H locs lsA C hK hI hP hS hL
  exact lv_iload C.1 C.2.1 hdg (lv_at hL j hl) (k r h' ho p e s m args below meth c H locs lsA C hK hI hP hS hL)
theorem v_lload_n {f : Fin 4} {i : Nat} {x : Int64} (j : Nat) (hdg : decode μ.2.1 pc = .ok (.lload_n f, 1)) (hi : (f : Nat) = i) (hl : ls[j]? = some (i, .long x)) (k : V G μ (pc + 1) ls (.long x :: st) h κ o) : V G μ pc ls st h κ o := by
  intro r h' ho p e s m args below meth c H locs lsA C hK hI hP hS hL
  exact lv_lload_n C.1 C.2.1 hdg hi (lv_at hL j hl) (k r h' ho p e s m args below meth c H locs lsA C hK hI hP hS hL)
theorem v_lload {i : Nat} {x : Int64} (j : Nat) (hdg : decode μ.2.1 pc = .ok (.lload i, 2)) (hl : ls[j]? = some (i, .long x)) (k : V G μ (pc + 2) ls (.long x :: st) h κ o) : V G μ pc ls st h κ o := by
  intro r h' ho p e s m args below meth c H locs lsA C hK hI hP hS hL
  exact lv_lload C.1 C.2.1 hdg (lv_at hL j hl) (k r h' ho p e s m args below meth c H locs lsA C hK hI hP hS hL)
theorem v_aload_n {f : Fin 4} {i : Nat} {x : Nat} (j : Nat) (hdg : decode μ.2.1 pc = .ok (.aload_n f, 1)) (hi : (f : Nat) = i) (hl : ls[j]? = some (i, .ref x)) (k : V G μ (pc + 1) ls (.ref x :: st) h κ o) : V G μ pc ls st h κ o := by
  intro r h' ho p e s m args below meth c H locs lsA C hK hI hP hS hL
  exact lv_aload_n C.1 C.2.1 hdg hi (lv_at hL j hl) (k r h' ho p e s m args below meth c H locs lsA C hK hI hP hS hL)
theorem v_aload {i : Nat} {x : Nat} (j : Nat) (hdg : decode μ.2.1 pc = .ok (.aload i, 2)) (hl : ls[j]? = some (i, .ref x)) (k : V G μ (pc + 2) ls (.ref x :: st) h κ o) : V G μ pc ls st h κ o := by
  intro r h' ho p e s m args below meth c H locs lsA C hK hI hP hS hL
  exact lv_aload C.1 C.2.1 hdg (lv_at hL j hl) (k r h' ho p e s m args below meth c H locs lsA C hK hI hP hS hL)
theorem v_istore_n {f : Fin 4} {i : Nat} {x : Int32} (ls' : List (Nat × Value)) (hdg : decode μ.2.1 pc = .ok (.istore_n f, 1)) (hi : (f : Nat) = i) (hn : i < μ.2.2.1) (hl : (i, Value.int x) :: ls.filter (fun q => !(q.1 == i) && !(q.1 + 1 == i && q.2.category == 2)) = ls') (k : V G μ (pc + 1) ls' st h κ o) : V G μ pc ls (.int x :: st) h κ o := by
  intro r h' ho p e s m args below meth c H locs lsA C hK hI hP hS hL
  exact lv_istore_n C.1 C.2.1 hdg hi hL hn hl (fun lsB hB => k r h' ho p e s m args below meth c H locs lsB C hK hI hP hS hB)
theorem v_istore {i : Nat} {x : Int32} (ls' : List (Nat × Value)) (hdg : decode μ.2.1 pc = .ok (.istore i, 2)) (hn : i < μ.2.2.1) (hl : (i, Value.int x) :: ls.filter (fun q => !(q.1 == i) && !(q.1 + 1 == i && q.2.category == 2)) = ls') (k : V G μ (pc + 2) ls' st h κ o) : V G μ pc ls (.int x :: st) h κ o := by
  intro r h' ho p e s m args below meth c H locs lsA C hK hI hP hS hL
  exact lv_istore C.1 C.2.1 hdg hL hn hl (fun lsB hB => k r h' ho p e s m args below meth c H locs lsB C hK hI hP hS hB)
theorem v_lstore_n {f : Fin 4} {i : Nat} {x : Int64} (ls' : List (Nat × Value)) (hdg : decode μ.2.1 pc = .ok (.lstore_n f, 1)) (hi : (f : Nat) = i) (hn : i + 1 < μ.2.2.1) (hl : (i, Value.long x) :: ls.filter (fun q => !(q.1 == i) && (!(q.1 == i + 1) && !(q.1 + 1 == i && q.2.category == 2))) = ls') (k : V G μ (pc + 1) ls' st h κ o) : V G μ pc ls (.long x :: st) h κ o := by
  intro r h' ho p e s m args below meth c H locs lsA C hK hI hP hS hL
  exact lv_lstore_n C.1 C.2.1 hdg hi hL hn hl (fun lsB hB => k r h' ho p e s m args below meth c H locs lsB C hK hI hP hS hB)
theorem v_lstore {i : Nat} {x : Int64} (ls' : List (Nat × Value)) (hdg : decode μ.2.1 pc = .ok (.lstore i, 2)) (hn : i + 1 < μ.2.2.1) (hl : (i, Value.long x) :: ls.filter (fun q => !(q.1 == i) && (!(q.1 == i + 1) && !(q.1 + 1 == i && q.2.category == 2))) = ls') (k : V G μ (pc + 2) ls' st h κ o) : V G μ pc ls (.long x :: st) h κ o := by
  intro r h' ho p e s m args below meth c H locs lsA C hK hI hP hS hL
  exact lv_lstore C.1 C.2.1 hdg hL hn hl (fun lsB hB => k r h' ho p e s m args below meth c H locs lsB C hK hI hP hS hB)
theorem v_astore_n {f : Fin 4} {i : Nat} {x : Nat} (ls' : List (Nat × Value)) (hdg : decode μ.2.1 pc = .ok (.astore_n f, 1)) (hi : (f : Nat) = i) (hn : i < μ.2.2.1) (hl : (i, Value.ref x) :: ls.filter (fun q => !(q.1 == i) && !(q.1 + 1 == i && q.2.category == 2)) = ls') (k : V G μ (pc + 1) ls' st h κ o) : V G μ pc ls (.ref x :: st) h κ o := by
  intro r h' ho p e s m args below meth c H locs lsA C hK hI hP hS hL
  exact lv_astore_n C.1 C.2.1 hdg hi hL hn hl (fun lsB hB => k r h' ho p e s m args below meth c H locs lsB C hK hI hP hS hB)
theorem v_astore {i : Nat} {x : Nat} (ls' : List (Nat × Value)) (hdg : decode μ.2.1 pc = .ok (.astore i, 2)) (hn : i < μ.2.2.1) (hl : (i, Value.ref x) :: ls.filter (fun q => !(q.1 == i) && !(q.1 + 1 == i && q.2.category == 2)) = ls') (k : V G μ (pc + 2) ls' st h κ o) : V G μ pc ls (.ref x :: st) h κ o := by
  intro r h' ho p e s m args below meth c H locs lsA C hK hI hP hS hL
  exact lv_astore C.1 C.2.1 hdg hL hn hl (fun lsB hB => k r h' ho p e s m args below meth c H locs lsB C hK hI hP hS hB)
theorem v_iinc {i : Nat} {n : Int} {x : Int32} (v : Int32) (j : Nat) (ls' : List (Nat × Value)) (hdg : decode μ.2.1 pc = .ok (.iinc i n, 3)) (hj : ls[j]? = some (i, .int x)) (hv : x + Int32.ofInt n = v) (hn : i < μ.2.2.1) (hl : (i, Value.int v) :: ls.filter (fun q => !(q.1 == i) && !(q.1 + 1 == i && q.2.category == 2)) = ls') (k : V G μ (pc + 3) ls' st h κ o) : V G μ pc ls st h κ o := by
  intro r h' ho p e s m args below meth c H locs lsA C hK hI hP hS hL
  exact lv_iinc C.1 C.2.1 hdg hL hj hv hn hl (fun lsB hB => k r h' ho p e s m args below meth c H locs lsB C hK hI hP hS hB)
theorem v_iadd {x y : Int32} (hdg : decode μ.2.1 pc = .ok (.iadd, 1)) (k : V G μ (pc + 1) ls (.int (x + y) :: st) h κ o) : V G μ pc ls (.int y :: .int x :: st) h κ o := by
  intro r h' ho p e s m args below meth c H locs lsA C hK hI hP hS hL
  exact lv_iadd C.1 C.2.1 hdg (k r h' ho p e s m args below meth c H locs lsA C hK hI hP hS hL)
theorem v_isub {x y : Int32} (hdg : decode μ.2.1 pc = .ok (.isub, 1)) (k : V G μ (pc + 1) ls (.int (x - y) :: st) h κ o) : V G μ pc ls (.int y :: .int x :: st) h κ o := by
  intro r h' ho p e s m args below meth c H locs lsA C hK hI hP hS hL
  exact lv_isub C.1 C.2.1 hdg (k r h' ho p e s m args below meth c H locs lsA C hK hI hP hS hL)
theorem v_imul {x y : Int32} (hdg : decode μ.2.1 pc = .ok (.imul, 1)) (k : V G μ (pc + 1) ls (.int (x * y) :: st) h κ o) : V G μ pc ls (.int y :: .int x :: st) h κ o := by
  intro r h' ho p e s m args below meth c H locs lsA C hK hI hP hS hL
  exact lv_imul C.1 C.2.1 hdg (k r h' ho p e s m args below meth c H locs lsA C hK hI hP hS hL)
theorem v_iand {x y : Int32} (hdg : decode μ.2.1 pc = .ok (.iand, 1)) (k : V G μ (pc + 1) ls (.int (x &&& y) :: st) h κ o) : V G μ pc ls (.int y :: .int x :: st) h κ o := by
  intro r h' ho p e s m args below meth c H locs lsA C hK hI hP hS hL
  exact lv_iand C.1 C.2.1 hdg (k r h' ho p e s m args below meth c H locs lsA C hK hI hP hS hL)
theorem v_ior {x y : Int32} (hdg : decode μ.2.1 pc = .ok (.ior, 1)) (k : V G μ (pc + 1) ls (.int (x ||| y) :: st) h κ o) : V G μ pc ls (.int y :: .int x :: st) h κ o := by
  intro r h' ho p e s m args below meth c H locs lsA C hK hI hP hS hL
  exact lv_ior C.1 C.2.1 hdg (k r h' ho p e s m args below meth c H locs lsA C hK hI hP hS hL)
theorem v_ixor {x y : Int32} (hdg : decode μ.2.1 pc = .ok (.ixor, 1)) (k : V G μ (pc + 1) ls (.int (x ^^^ y) :: st) h κ o) : V G μ pc ls (.int y :: .int x :: st) h κ o := by
  intro r h' ho p e s m args below meth c H locs lsA C hK hI hP hS hL
  exact lv_ixor C.1 C.2.1 hdg (k r h' ho p e s m args below meth c H locs lsA C hK hI hP hS hL)
theorem v_ishl {x y : Int32} (hdg : decode μ.2.1 pc = .ok (.ishl, 1)) (k : V G μ (pc + 1) ls (.int (x <<< (y &&& 31)) :: st) h κ o) : V G μ pc ls (.int y :: .int x :: st) h κ o := by
  intro r h' ho p e s m args below meth c H locs lsA C hK hI hP hS hL
  exact lv_ishl C.1 C.2.1 hdg (k r h' ho p e s m args below meth c H locs lsA C hK hI hP hS hL)
theorem v_ishr {x y : Int32} (hdg : decode μ.2.1 pc = .ok (.ishr, 1)) (k : V G μ (pc + 1) ls (.int (x >>> (y &&& 31)) :: st) h κ o) : V G μ pc ls (.int y :: .int x :: st) h κ o := by
  intro r h' ho p e s m args below meth c H locs lsA C hK hI hP hS hL
  exact lv_ishr C.1 C.2.1 hdg (k r h' ho p e s m args below meth c H locs lsA C hK hI hP hS hL)
theorem v_ladd {x y : Int64} (hdg : decode μ.2.1 pc = .ok (.ladd, 1)) (k : V G μ (pc + 1) ls (.long (x + y) :: st) h κ o) : V G μ pc ls (.long y :: .long x :: st) h κ o := by
  intro r h' ho p e s m args below meth c H locs lsA C hK hI hP hS hL
  exact lv_ladd C.1 C.2.1 hdg (k r h' ho p e s m args below meth c H locs lsA C hK hI hP hS hL)
theorem v_lmul {x y : Int64} (hdg : decode μ.2.1 pc = .ok (.lmul, 1)) (k : V G μ (pc + 1) ls (.long (x * y) :: st) h κ o) : V G μ pc ls (.long y :: .long x :: st) h κ o := by
  intro r h' ho p e s m args below meth c H locs lsA C hK hI hP hS hL
  exact lv_lmul C.1 C.2.1 hdg (k r h' ho p e s m args below meth c H locs lsA C hK hI hP hS hL)
theorem v_irem {x y : Int32} (hne : ¬ y = 0) (hdg : decode μ.2.1 pc = .ok (.irem, 1)) (k : V G μ (pc + 1) ls (.int (x - x / y * y) :: st) h κ o) : V G μ pc ls (.int y :: .int x :: st) h κ o := by
  intro r h' ho p e s m args below meth c H locs lsA C hK hI hP hS hL
  exact lv_irem C.1 C.2.1 hdg hne (k r h' ho p e s m args below meth c H locs lsA C hK hI hP hS hL)
theorem v_iushr {x y : Int32} (hdg : decode μ.2.1 pc = .ok (.iushr, 1)) (k : V G μ (pc + 1) ls (.int ((x.toUInt32 >>> (y.toUInt32 &&& Int32.toUInt32 31)).toInt32) :: st) h κ o) : V G μ pc ls (.int y :: .int x :: st) h κ o := by
  intro r h' ho p e s m args below meth c H locs lsA C hK hI hP hS hL
  exact lv_iushr C.1 C.2.1 hdg rfl (k r h' ho p e s m args below meth c H locs lsA C hK hI hP hS hL)
theorem v_ineg {x : Int32} (hdg : decode μ.2.1 pc = .ok (.ineg, 1)) (k : V G μ (pc + 1) ls (.int (-x) :: st) h κ o) : V G μ pc ls (.int x :: st) h κ o := by
  intro r h' ho p e s m args below meth c H locs lsA C hK hI hP hS hL
  exact lv_ineg C.1 C.2.1 hdg (k r h' ho p e s m args below meth c H locs lsA C hK hI hP hS hL)
theorem v_i2l {x : Int32} (hdg : decode μ.2.1 pc = .ok (.i2l, 1)) (k : V G μ (pc + 1) ls (.long x.toInt64 :: st) h κ o) : V G μ pc ls (.int x :: st) h κ o := by
  intro r h' ho p e s m args below meth c H locs lsA C hK hI hP hS hL
  exact lv_i2l C.1 C.2.1 hdg rfl (k r h' ho p e s m args below meth c H locs lsA C hK hI hP hS hL)
theorem v_i2b {x : Int32} (hdg : decode μ.2.1 pc = .ok (.i2b, 1)) (k : V G μ (pc + 1) ls (.int x.toInt8.toInt32 :: st) h κ o) : V G μ pc ls (.int x :: st) h κ o := by
  intro r h' ho p e s m args below meth c H locs lsA C hK hI hP hS hL
  exact lv_i2b C.1 C.2.1 hdg rfl (k r h' ho p e s m args below meth c H locs lsA C hK hI hP hS hL)
theorem v_i2s {x : Int32} (hdg : decode μ.2.1 pc = .ok (.i2s, 1)) (k : V G μ (pc + 1) ls (.int x.toInt16.toInt32 :: st) h κ o) : V G μ pc ls (.int x :: st) h κ o := by
  intro r h' ho p e s m args below meth c H locs lsA C hK hI hP hS hL
  exact lv_i2s C.1 C.2.1 hdg rfl (k r h' ho p e s m args below meth c H locs lsA C hK hI hP hS hL)
theorem v_lcmp {x y : Int64} (hdg : decode μ.2.1 pc = .ok (.lcmp, 1)) (k : V G μ (pc + 1) ls (.int (lg_cmp x y) :: st) h κ o) : V G μ pc ls (.long y :: .long x :: st) h κ o := by
  intro r h' ho p e s m args below meth c H locs lsA C hK hI hP hS hL
  exact W.lcmp C.1 C.2.1 hdg (k r h' ho p e s m args below meth c H locs lsA C hK hI hP hS hL)
theorem v_dup {va : Value} (hdg : decode μ.2.1 pc = .ok (.dup, 1)) (hva : va.category = 1) (k : V G μ (pc + 1) ls (va :: va :: st) h κ o) : V G μ pc ls (va :: st) h κ o := by
  intro r h' ho p e s m args below meth c H locs lsA C hK hI hP hS hL
  exact lv_dup C.1 C.2.1 hdg hva (k r h' ho p e s m args below meth c H locs lsA C hK hI hP hS hL)
theorem v_goto {off : Int} (tgt : Nat) (hdg : decode μ.2.1 pc = .ok (.goto off, 3)) (ht : (pc : Int) + off = (tgt : Int)) (k : V G μ tgt ls st h κ o) : V G μ pc ls st h κ o := by
  intro r h' ho p e s m args below meth c H locs lsA C hK hI hP hS hL
  exact lv_goto C.1 C.2.1 hdg ht (k r h' ho p e s m args below meth c H locs lsA C hK hI hP hS hL)
theorem v_if_eq {x : Int32} {o1 o2 : Option (ρ × Hp)} {off : Int} (tgt : Nat) (hdg : decode μ.2.1 pc = .ok (.ifCond .eq off, 3)) (ht : (pc : Int) + off = (tgt : Int)) (k1 : V G μ tgt ls st h κ o1) (k2 : V G μ (pc + 3) ls st h κ o2) : V G μ pc ls (.int x :: st) h κ (if x = 0 then o1 else o2) := by
  intro r h' ho p e s m args below meth c H locs lsA C hK hI hP hS hL
  exact lv_if_eq C.1 C.2.1 hdg ht (fun hc => k1 r h' (by rw [if_pos hc] at ho; exact ho) p e s m args below meth c H locs lsA C hK hI hP hS hL) (fun hc => k2 r h' (by rw [if_neg hc] at ho; exact ho) p e s m args below meth c H locs lsA C hK hI hP hS hL)
theorem v_if_eq_t {x : Int32} {off : Int} (tgt : Nat) (hdg : decode μ.2.1 pc = .ok (.ifCond .eq off, 3)) (ht : (pc : Int) + off = (tgt : Int)) (hc : x = 0) (k1 : V G μ tgt ls st h κ o) : V G μ pc ls (.int x :: st) h κ o := by
  intro r h' ho p e s m args below meth c H locs lsA C hK hI hP hS hL
  exact lv_if_eq C.1 C.2.1 hdg ht (fun _ => k1 r h' ho p e s m args below meth c H locs lsA C hK hI hP hS hL) (fun q => absurd hc q)
theorem v_if_eq_f {x : Int32} {off : Int} (tgt : Nat) (hdg : decode μ.2.1 pc = .ok (.ifCond .eq off, 3)) (ht : (pc : Int) + off = (tgt : Int)) (hc : ¬ (x = 0)) (k2 : V G μ (pc + 3) ls st h κ o) : V G μ pc ls (.int x :: st) h κ o := by
  intro r h' ho p e s m args below meth c H locs lsA C hK hI hP hS hL
  exact lv_if_eq C.1 C.2.1 hdg ht (fun q => absurd q hc) (fun _ => k2 r h' ho p e s m args below meth c H locs lsA C hK hI hP hS hL)
theorem v_icmp_eq {x y : Int32} {o1 o2 : Option (ρ × Hp)} {off : Int} (tgt : Nat) (hdg : decode μ.2.1 pc = .ok (.if_icmp .eq off, 3)) (ht : (pc : Int) + off = (tgt : Int)) (k1 : V G μ tgt ls st h κ o1) (k2 : V G μ (pc + 3) ls st h κ o2) : V G μ pc ls (.int y :: .int x :: st) h κ (if x = y then o1 else o2) := by
  intro r h' ho p e s m args below meth c H locs lsA C hK hI hP hS hL
  exact lv_icmp_eq C.1 C.2.1 hdg ht (fun hc => k1 r h' (by rw [if_pos hc] at ho; exact ho) p e s m args below meth c H locs lsA C hK hI hP hS hL) (fun hc => k2 r h' (by rw [if_neg hc] at ho; exact ho) p e s m args below meth c H locs lsA C hK hI hP hS hL)
theorem v_icmp_eq_t {x y : Int32} {off : Int} (tgt : Nat) (hdg : decode μ.2.1 pc = .ok (.if_icmp .eq off, 3)) (ht : (pc : Int) + off = (tgt : Int)) (hc : x = y) (k1 : V G μ tgt ls st h κ o) : V G μ pc ls (.int y :: .int x :: st) h κ o := by
  intro r h' ho p e s m args below meth c H locs lsA C hK hI hP hS hL
  exact lv_icmp_eq C.1 C.2.1 hdg ht (fun _ => k1 r h' ho p e s m args below meth c H locs lsA C hK hI hP hS hL) (fun q => absurd hc q)
theorem v_icmp_eq_f {x y : Int32} {off : Int} (tgt : Nat) (hdg : decode μ.2.1 pc = .ok (.if_icmp .eq off, 3)) (ht : (pc : Int) + off = (tgt : Int)) (hc : ¬ (x = y)) (k2 : V G μ (pc + 3) ls st h κ o) : V G μ pc ls (.int y :: .int x :: st) h κ o := by
  intro r h' ho p e s m args below meth c H locs lsA C hK hI hP hS hL
  exact lv_icmp_eq C.1 C.2.1 hdg ht (fun q => absurd q hc) (fun _ => k2 r h' ho p e s m args below meth c H locs lsA C hK hI hP hS hL)
theorem v_if_ne {x : Int32} {o1 o2 : Option (ρ × Hp)} {off : Int} (tgt : Nat) (hdg : decode μ.2.1 pc = .ok (.ifCond .ne off, 3)) (ht : (pc : Int) + off = (tgt : Int)) (k1 : V G μ (pc + 3) ls st h κ o1) (k2 : V G μ tgt ls st h κ o2) : V G μ pc ls (.int x :: st) h κ (if x = 0 then o1 else o2) := by
  intro r h' ho p e s m args below meth c H locs lsA C hK hI hP hS hL
  exact lv_if_ne C.1 C.2.1 hdg ht (fun hc => k2 r h' (by rw [if_neg hc] at ho; exact ho) p e s m args below meth c H locs lsA C hK hI hP hS hL) (fun hc => k1 r h' (by rw [if_pos hc] at ho; exact ho) p e s m args below meth c H locs lsA C hK hI hP hS hL)
theorem v_if_ne_t {x : Int32} {off : Int} (tgt : Nat) (hdg : decode μ.2.1 pc = .ok (.ifCond .ne off, 3)) (ht : (pc : Int) + off = (tgt : Int)) (hc : x = 0) (k1 : V G μ (pc + 3) ls st h κ o) : V G μ pc ls (.int x :: st) h κ o := by
  intro r h' ho p e s m args below meth c H locs lsA C hK hI hP hS hL
  exact lv_if_ne C.1 C.2.1 hdg ht (fun q => absurd hc q) (fun _ => k1 r h' ho p e s m args below meth c H locs lsA C hK hI hP hS hL)
theorem v_if_ne_f {x : Int32} {off : Int} (tgt : Nat) (hdg : decode μ.2.1 pc = .ok (.ifCond .ne off, 3)) (ht : (pc : Int) + off = (tgt : Int)) (hc : ¬ (x = 0)) (k2 : V G μ tgt ls st h κ o) : V G μ pc ls (.int x :: st) h κ o := by
  intro r h' ho p e s m args below meth c H locs lsA C hK hI hP hS hL
  exact lv_if_ne C.1 C.2.1 hdg ht (fun _ => k2 r h' ho p e s m args below meth c H locs lsA C hK hI hP hS hL) (fun q => absurd q hc)
theorem v_icmp_ne {x y : Int32} {o1 o2 : Option (ρ × Hp)} {off : Int} (tgt : Nat) (hdg : decode μ.2.1 pc = .ok (.if_icmp .ne off, 3)) (ht : (pc : Int) + off = (tgt : Int)) (k1 : V G μ (pc + 3) ls st h κ o1) (k2 : V G μ tgt ls st h κ o2) : V G μ pc ls (.int y :: .int x :: st) h κ (if x = y then o1 else o2) := by
  intro r h' ho p e s m args below meth c H locs lsA C hK hI hP hS hL
  exact lv_icmp_ne C.1 C.2.1 hdg ht (fun hc => k2 r h' (by rw [if_neg hc] at ho; exact ho) p e s m args below meth c H locs lsA C hK hI hP hS hL) (fun hc => k1 r h' (by rw [if_pos hc] at ho; exact ho) p e s m args below meth c H locs lsA C hK hI hP hS hL)
theorem v_icmp_ne_t {x y : Int32} {off : Int} (tgt : Nat) (hdg : decode μ.2.1 pc = .ok (.if_icmp .ne off, 3)) (ht : (pc : Int) + off = (tgt : Int)) (hc : x = y) (k1 : V G μ (pc + 3) ls st h κ o) : V G μ pc ls (.int y :: .int x :: st) h κ o := by
  intro r h' ho p e s m args below meth c H locs lsA C hK hI hP hS hL
  exact lv_icmp_ne C.1 C.2.1 hdg ht (fun q => absurd hc q) (fun _ => k1 r h' ho p e s m args below meth c H locs lsA C hK hI hP hS hL)
theorem v_icmp_ne_f {x y : Int32} {off : Int} (tgt : Nat) (hdg : decode μ.2.1 pc = .ok (.if_icmp .ne off, 3)) (ht : (pc : Int) + off = (tgt : Int)) (hc : ¬ (x = y)) (k2 : V G μ tgt ls st h κ o) : V G μ pc ls (.int y :: .int x :: st) h κ o := by
  intro r h' ho p e s m args below meth c H locs lsA C hK hI hP hS hL
  exact lv_icmp_ne C.1 C.2.1 hdg ht (fun _ => k2 r h' ho p e s m args below meth c H locs lsA C hK hI hP hS hL) (fun q => absurd q hc)
theorem v_if_lt {x : Int32} {o1 o2 : Option (ρ × Hp)} {off : Int} (tgt : Nat) (hdg : decode μ.2.1 pc = .ok (.ifCond .lt off, 3)) (ht : (pc : Int) + off = (tgt : Int)) (k1 : V G μ tgt ls st h κ o1) (k2 : V G μ (pc + 3) ls st h κ o2) : V G μ pc ls (.int x :: st) h κ (if x < 0 then o1 else o2) := by
  intro r h' ho p e s m args below meth c H locs lsA C hK hI hP hS hL
  exact lv_if_lt C.1 C.2.1 hdg ht (fun hc => k1 r h' (by rw [if_pos hc] at ho; exact ho) p e s m args below meth c H locs lsA C hK hI hP hS hL) (fun hc => k2 r h' (by rw [if_neg hc] at ho; exact ho) p e s m args below meth c H locs lsA C hK hI hP hS hL)
theorem v_if_lt_t {x : Int32} {off : Int} (tgt : Nat) (hdg : decode μ.2.1 pc = .ok (.ifCond .lt off, 3)) (ht : (pc : Int) + off = (tgt : Int)) (hc : x < 0) (k1 : V G μ tgt ls st h κ o) : V G μ pc ls (.int x :: st) h κ o := by
  intro r h' ho p e s m args below meth c H locs lsA C hK hI hP hS hL
  exact lv_if_lt C.1 C.2.1 hdg ht (fun _ => k1 r h' ho p e s m args below meth c H locs lsA C hK hI hP hS hL) (fun q => absurd hc q)
theorem v_if_lt_f {x : Int32} {off : Int} (tgt : Nat) (hdg : decode μ.2.1 pc = .ok (.ifCond .lt off, 3)) (ht : (pc : Int) + off = (tgt : Int)) (hc : ¬ (x < 0)) (k2 : V G μ (pc + 3) ls st h κ o) : V G μ pc ls (.int x :: st) h κ o := by
  intro r h' ho p e s m args below meth c H locs lsA C hK hI hP hS hL
  exact lv_if_lt C.1 C.2.1 hdg ht (fun q => absurd q hc) (fun _ => k2 r h' ho p e s m args below meth c H locs lsA C hK hI hP hS hL)
theorem v_icmp_lt {x y : Int32} {o1 o2 : Option (ρ × Hp)} {off : Int} (tgt : Nat) (hdg : decode μ.2.1 pc = .ok (.if_icmp .lt off, 3)) (ht : (pc : Int) + off = (tgt : Int)) (k1 : V G μ tgt ls st h κ o1) (k2 : V G μ (pc + 3) ls st h κ o2) : V G μ pc ls (.int y :: .int x :: st) h κ (if x < y then o1 else o2) := by
  intro r h' ho p e s m args below meth c H locs lsA C hK hI hP hS hL
  exact lv_icmp_lt C.1 C.2.1 hdg ht (fun hc => k1 r h' (by rw [if_pos hc] at ho; exact ho) p e s m args below meth c H locs lsA C hK hI hP hS hL) (fun hc => k2 r h' (by rw [if_neg hc] at ho; exact ho) p e s m args below meth c H locs lsA C hK hI hP hS hL)
theorem v_icmp_lt_t {x y : Int32} {off : Int} (tgt : Nat) (hdg : decode μ.2.1 pc = .ok (.if_icmp .lt off, 3)) (ht : (pc : Int) + off = (tgt : Int)) (hc : x < y) (k1 : V G μ tgt ls st h κ o) : V G μ pc ls (.int y :: .int x :: st) h κ o := by
  intro r h' ho p e s m args below meth c H locs lsA C hK hI hP hS hL
  exact lv_icmp_lt C.1 C.2.1 hdg ht (fun _ => k1 r h' ho p e s m args below meth c H locs lsA C hK hI hP hS hL) (fun q => absurd hc q)
theorem v_icmp_lt_f {x y : Int32} {off : Int} (tgt : Nat) (hdg : decode μ.2.1 pc = .ok (.if_icmp .lt off, 3)) (ht : (pc : Int) + off = (tgt : Int)) (hc : ¬ (x < y)) (k2 : V G μ (pc + 3) ls st h κ o) : V G μ pc ls (.int y :: .int x :: st) h κ o := by
  intro r h' ho p e s m args below meth c H locs lsA C hK hI hP hS hL
  exact lv_icmp_lt C.1 C.2.1 hdg ht (fun q => absurd q hc) (fun _ => k2 r h' ho p e s m args below meth c H locs lsA C hK hI hP hS hL)
theorem v_if_ge {x : Int32} {o1 o2 : Option (ρ × Hp)} {off : Int} (tgt : Nat) (hdg : decode μ.2.1 pc = .ok (.ifCond .ge off, 3)) (ht : (pc : Int) + off = (tgt : Int)) (k1 : V G μ tgt ls st h κ o1) (k2 : V G μ (pc + 3) ls st h κ o2) : V G μ pc ls (.int x :: st) h κ (if 0 ≤ x then o1 else o2) := by
  intro r h' ho p e s m args below meth c H locs lsA C hK hI hP hS hL
  exact lv_if_ge C.1 C.2.1 hdg ht (fun hc => k1 r h' (by rw [if_pos hc] at ho; exact ho) p e s m args below meth c H locs lsA C hK hI hP hS hL) (fun hc => k2 r h' (by rw [if_neg hc] at ho; exact ho) p e s m args below meth c H locs lsA C hK hI hP hS hL)
theorem v_if_ge_t {x : Int32} {off : Int} (tgt : Nat) (hdg : decode μ.2.1 pc = .ok (.ifCond .ge off, 3)) (ht : (pc : Int) + off = (tgt : Int)) (hc : 0 ≤ x) (k1 : V G μ tgt ls st h κ o) : V G μ pc ls (.int x :: st) h κ o := by
  intro r h' ho p e s m args below meth c H locs lsA C hK hI hP hS hL
  exact lv_if_ge C.1 C.2.1 hdg ht (fun _ => k1 r h' ho p e s m args below meth c H locs lsA C hK hI hP hS hL) (fun q => absurd hc q)
theorem v_if_ge_f {x : Int32} {off : Int} (tgt : Nat) (hdg : decode μ.2.1 pc = .ok (.ifCond .ge off, 3)) (ht : (pc : Int) + off = (tgt : Int)) (hc : ¬ (0 ≤ x)) (k2 : V G μ (pc + 3) ls st h κ o) : V G μ pc ls (.int x :: st) h κ o := by
  intro r h' ho p e s m args below meth c H locs lsA C hK hI hP hS hL
  exact lv_if_ge C.1 C.2.1 hdg ht (fun q => absurd q hc) (fun _ => k2 r h' ho p e s m args below meth c H locs lsA C hK hI hP hS hL)
theorem v_icmp_ge {x y : Int32} {o1 o2 : Option (ρ × Hp)} {off : Int} (tgt : Nat) (hdg : decode μ.2.1 pc = .ok (.if_icmp .ge off, 3)) (ht : (pc : Int) + off = (tgt : Int)) (k1 : V G μ tgt ls st h κ o1) (k2 : V G μ (pc + 3) ls st h κ o2) : V G μ pc ls (.int y :: .int x :: st) h κ (if y ≤ x then o1 else o2) := by
  intro r h' ho p e s m args below meth c H locs lsA C hK hI hP hS hL
  exact lv_icmp_ge C.1 C.2.1 hdg ht (fun hc => k1 r h' (by rw [if_pos hc] at ho; exact ho) p e s m args below meth c H locs lsA C hK hI hP hS hL) (fun hc => k2 r h' (by rw [if_neg hc] at ho; exact ho) p e s m args below meth c H locs lsA C hK hI hP hS hL)
theorem v_icmp_ge_t {x y : Int32} {off : Int} (tgt : Nat) (hdg : decode μ.2.1 pc = .ok (.if_icmp .ge off, 3)) (ht : (pc : Int) + off = (tgt : Int)) (hc : y ≤ x) (k1 : V G μ tgt ls st h κ o) : V G μ pc ls (.int y :: .int x :: st) h κ o := by
  intro r h' ho p e s m args below meth c H locs lsA C hK hI hP hS hL
  exact lv_icmp_ge C.1 C.2.1 hdg ht (fun _ => k1 r h' ho p e s m args below meth c H locs lsA C hK hI hP hS hL) (fun q => absurd hc q)
theorem v_icmp_ge_f {x y : Int32} {off : Int} (tgt : Nat) (hdg : decode μ.2.1 pc = .ok (.if_icmp .ge off, 3)) (ht : (pc : Int) + off = (tgt : Int)) (hc : ¬ (y ≤ x)) (k2 : V G μ (pc + 3) ls st h κ o) : V G μ pc ls (.int y :: .int x :: st) h κ o := by
  intro r h' ho p e s m args below meth c H locs lsA C hK hI hP hS hL
  exact lv_icmp_ge C.1 C.2.1 hdg ht (fun q => absurd q hc) (fun _ => k2 r h' ho p e s m args below meth c H locs lsA C hK hI hP hS hL)
theorem v_if_gt {x : Int32} {o1 o2 : Option (ρ × Hp)} {off : Int} (tgt : Nat) (hdg : decode μ.2.1 pc = .ok (.ifCond .gt off, 3)) (ht : (pc : Int) + off = (tgt : Int)) (k1 : V G μ tgt ls st h κ o1) (k2 : V G μ (pc + 3) ls st h κ o2) : V G μ pc ls (.int x :: st) h κ (if 0 < x then o1 else o2) := by
  intro r h' ho p e s m args below meth c H locs lsA C hK hI hP hS hL
  exact lv_if_gt C.1 C.2.1 hdg ht (fun hc => k1 r h' (by rw [if_pos hc] at ho; exact ho) p e s m args below meth c H locs lsA C hK hI hP hS hL) (fun hc => k2 r h' (by rw [if_neg hc] at ho; exact ho) p e s m args below meth c H locs lsA C hK hI hP hS hL)
theorem v_if_gt_t {x : Int32} {off : Int} (tgt : Nat) (hdg : decode μ.2.1 pc = .ok (.ifCond .gt off, 3)) (ht : (pc : Int) + off = (tgt : Int)) (hc : 0 < x) (k1 : V G μ tgt ls st h κ o) : V G μ pc ls (.int x :: st) h κ o := by
  intro r h' ho p e s m args below meth c H locs lsA C hK hI hP hS hL
  exact lv_if_gt C.1 C.2.1 hdg ht (fun _ => k1 r h' ho p e s m args below meth c H locs lsA C hK hI hP hS hL) (fun q => absurd hc q)
theorem v_if_gt_f {x : Int32} {off : Int} (tgt : Nat) (hdg : decode μ.2.1 pc = .ok (.ifCond .gt off, 3)) (ht : (pc : Int) + off = (tgt : Int)) (hc : ¬ (0 < x)) (k2 : V G μ (pc + 3) ls st h κ o) : V G μ pc ls (.int x :: st) h κ o := by
  intro r h' ho p e s m args below meth c H locs lsA C hK hI hP hS hL
  exact lv_if_gt C.1 C.2.1 hdg ht (fun q => absurd q hc) (fun _ => k2 r h' ho p e s m args below meth c H locs lsA C hK hI hP hS hL)
theorem v_icmp_gt {x y : Int32} {o1 o2 : Option (ρ × Hp)} {off : Int} (tgt : Nat) (hdg : decode μ.2.1 pc = .ok (.if_icmp .gt off, 3)) (ht : (pc : Int) + off = (tgt : Int)) (k1 : V G μ tgt ls st h κ o1) (k2 : V G μ (pc + 3) ls st h κ o2) : V G μ pc ls (.int y :: .int x :: st) h κ (if y < x then o1 else o2) := by
  intro r h' ho p e s m args below meth c H locs lsA C hK hI hP hS hL
  exact lv_icmp_gt C.1 C.2.1 hdg ht (fun hc => k1 r h' (by rw [if_pos hc] at ho; exact ho) p e s m args below meth c H locs lsA C hK hI hP hS hL) (fun hc => k2 r h' (by rw [if_neg hc] at ho; exact ho) p e s m args below meth c H locs lsA C hK hI hP hS hL)
theorem v_icmp_gt_t {x y : Int32} {off : Int} (tgt : Nat) (hdg : decode μ.2.1 pc = .ok (.if_icmp .gt off, 3)) (ht : (pc : Int) + off = (tgt : Int)) (hc : y < x) (k1 : V G μ tgt ls st h κ o) : V G μ pc ls (.int y :: .int x :: st) h κ o := by
  intro r h' ho p e s m args below meth c H locs lsA C hK hI hP hS hL
  exact lv_icmp_gt C.1 C.2.1 hdg ht (fun _ => k1 r h' ho p e s m args below meth c H locs lsA C hK hI hP hS hL) (fun q => absurd hc q)
theorem v_icmp_gt_f {x y : Int32} {off : Int} (tgt : Nat) (hdg : decode μ.2.1 pc = .ok (.if_icmp .gt off, 3)) (ht : (pc : Int) + off = (tgt : Int)) (hc : ¬ (y < x)) (k2 : V G μ (pc + 3) ls st h κ o) : V G μ pc ls (.int y :: .int x :: st) h κ o := by
  intro r h' ho p e s m args below meth c H locs lsA C hK hI hP hS hL
  exact lv_icmp_gt C.1 C.2.1 hdg ht (fun q => absurd q hc) (fun _ => k2 r h' ho p e s m args below meth c H locs lsA C hK hI hP hS hL)
theorem v_if_le {x : Int32} {o1 o2 : Option (ρ × Hp)} {off : Int} (tgt : Nat) (hdg : decode μ.2.1 pc = .ok (.ifCond .le off, 3)) (ht : (pc : Int) + off = (tgt : Int)) (k1 : V G μ tgt ls st h κ o1) (k2 : V G μ (pc + 3) ls st h κ o2) : V G μ pc ls (.int x :: st) h κ (if x ≤ 0 then o1 else o2) := by
  intro r h' ho p e s m args below meth c H locs lsA C hK hI hP hS hL
  exact lv_if_le C.1 C.2.1 hdg ht (fun hc => k1 r h' (by rw [if_pos hc] at ho; exact ho) p e s m args below meth c H locs lsA C hK hI hP hS hL) (fun hc => k2 r h' (by rw [if_neg hc] at ho; exact ho) p e s m args below meth c H locs lsA C hK hI hP hS hL)
theorem v_if_le_t {x : Int32} {off : Int} (tgt : Nat) (hdg : decode μ.2.1 pc = .ok (.ifCond .le off, 3)) (ht : (pc : Int) + off = (tgt : Int)) (hc : x ≤ 0) (k1 : V G μ tgt ls st h κ o) : V G μ pc ls (.int x :: st) h κ o := by
  intro r h' ho p e s m args below meth c H locs lsA C hK hI hP hS hL
  exact lv_if_le C.1 C.2.1 hdg ht (fun _ => k1 r h' ho p e s m args below meth c H locs lsA C hK hI hP hS hL) (fun q => absurd hc q)
theorem v_if_le_f {x : Int32} {off : Int} (tgt : Nat) (hdg : decode μ.2.1 pc = .ok (.ifCond .le off, 3)) (ht : (pc : Int) + off = (tgt : Int)) (hc : ¬ (x ≤ 0)) (k2 : V G μ (pc + 3) ls st h κ o) : V G μ pc ls (.int x :: st) h κ o := by
  intro r h' ho p e s m args below meth c H locs lsA C hK hI hP hS hL
  exact lv_if_le C.1 C.2.1 hdg ht (fun q => absurd q hc) (fun _ => k2 r h' ho p e s m args below meth c H locs lsA C hK hI hP hS hL)
theorem v_icmp_le {x y : Int32} {o1 o2 : Option (ρ × Hp)} {off : Int} (tgt : Nat) (hdg : decode μ.2.1 pc = .ok (.if_icmp .le off, 3)) (ht : (pc : Int) + off = (tgt : Int)) (k1 : V G μ tgt ls st h κ o1) (k2 : V G μ (pc + 3) ls st h κ o2) : V G μ pc ls (.int y :: .int x :: st) h κ (if x ≤ y then o1 else o2) := by
  intro r h' ho p e s m args below meth c H locs lsA C hK hI hP hS hL
  exact lv_icmp_le C.1 C.2.1 hdg ht (fun hc => k1 r h' (by rw [if_pos hc] at ho; exact ho) p e s m args below meth c H locs lsA C hK hI hP hS hL) (fun hc => k2 r h' (by rw [if_neg hc] at ho; exact ho) p e s m args below meth c H locs lsA C hK hI hP hS hL)
theorem v_icmp_le_t {x y : Int32} {off : Int} (tgt : Nat) (hdg : decode μ.2.1 pc = .ok (.if_icmp .le off, 3)) (ht : (pc : Int) + off = (tgt : Int)) (hc : x ≤ y) (k1 : V G μ tgt ls st h κ o) : V G μ pc ls (.int y :: .int x :: st) h κ o := by
  intro r h' ho p e s m args below meth c H locs lsA C hK hI hP hS hL
  exact lv_icmp_le C.1 C.2.1 hdg ht (fun _ => k1 r h' ho p e s m args below meth c H locs lsA C hK hI hP hS hL) (fun q => absurd hc q)
theorem v_icmp_le_f {x y : Int32} {off : Int} (tgt : Nat) (hdg : decode μ.2.1 pc = .ok (.if_icmp .le off, 3)) (ht : (pc : Int) + off = (tgt : Int)) (hc : ¬ (x ≤ y)) (k2 : V G μ (pc + 3) ls st h κ o) : V G μ pc ls (.int y :: .int x :: st) h κ o := by
  intro r h' ho p e s m args below meth c H locs lsA C hK hI hP hS hL
  exact lv_icmp_le C.1 C.2.1 hdg ht (fun q => absurd q hc) (fun _ => k2 r h' ho p e s m args below meth c H locs lsA C hK hI hP hS hL)
theorem v_ite {P : Prop} [Decidable P] {o1 o2 : Option (ρ × Hp)} (k1 : P → V G μ pc ls st h κ o1) (k2 : ¬ P → V G μ pc ls st h κ o2) : V G μ pc ls st h κ (if P then o1 else o2) := by
  by_cases hc : P
  · rw [if_pos hc]; exact k1 hc
  · rw [if_neg hc]; exact k2 hc
theorem v_tabIn {dflt lo hi off : Int} {offs : Array Int} {len : Nat} {x : Int32} (tgt : Nat) (hdg : decode μ.2.1 pc = .ok (.tableswitch dflt lo hi offs, len)) (h1 : ¬ x.toInt < lo) (h2 : ¬ hi < x.toInt) (ho : offs[(x.toInt - lo).toNat]? = some off) (ht : (pc : Int) + off = (tgt : Int)) (k : V G μ tgt ls st h κ o) : V G μ pc ls (.int x :: st) h κ o := by
  intro r h' hoo p e s m args below meth c H locs lsA C hK hI hP hS hL
  exact lv_tableIn C.1 C.2.1 hdg h1 h2 ho ht (k r h' hoo p e s m args below meth c H locs lsA C hK hI hP hS hL)
theorem v_tabOut {dflt lo hi : Int} {offs : Array Int} {len : Nat} {x : Int32} (tgt : Nat) (hdg : decode μ.2.1 pc = .ok (.tableswitch dflt lo hi offs, len)) (h1 : x.toInt < lo ∨ hi < x.toInt) (ht : (pc : Int) + dflt = (tgt : Int)) (k : V G μ tgt ls st h κ o) : V G μ pc ls (.int x :: st) h κ o := by
  intro r h' hoo p e s m args below meth c H locs lsA C hK hI hP hS hL
  exact lv_tableOut C.1 C.2.1 hdg h1 ht (k r h' hoo p e s m args below meth c H locs lsA C hK hI hP hS hL)
theorem v_lookup {dflt : Int} {ps : Array (Int × Int)} {len : Nat} {x : Int32} {off : Int} (tgt : Nat) (hdg : decode μ.2.1 pc = .ok (.lookupswitch dflt ps, len)) (hp : (ps.toList.zip (ps.toList.drop 1)).all (fun (a, next) => a.1 < next.1) = true) (ho : Op.lookupswitch.offset ps.toList dflt x.toInt = off) (ht : (pc : Int) + off = (tgt : Int)) (k : V G μ tgt ls st h κ o) : V G μ pc ls (.int x :: st) h κ o := by
  intro r h' hoo p e s m args below meth c H locs lsA C hK hI hP hS hL
  exact lv_lookup C.1 C.2.1 hdg hp ho ht (k r h' hoo p e s m args below meth c H locs lsA C hK hI hP hS hL)
/-- a field's link, as the tables have it -/
def FL (cls : String) (idx ci k : Nat) : Prop := ∃ q, classes[ci]? = some q ∧ k < q.2.2 ∧ (Cond.fieldLink cls idx q.1 (q.2.1 k).2.1 (q.2.1 k).2.2.1 ∈ lwg ∨ ∃ host, Cond.fieldLinkNest cls idx q.1 (q.2.1 k).2.1 (q.2.1 k).2.2.1 host ∈ lwg) ∧ (q.2.1 k).1 = q.1
def FT (ci k : Nat) (ty : FieldType) : Prop := ∃ q, classes[ci]? = some q ∧ (q.2.1 k).2.2.2 = false ∧ parseFieldDescriptor (q.2.1 k).2.2.1 = some ty
theorem cl_ok : ∀ (ci : Nat) (q : vw_C), classes[ci]? = some q → (∀ w ∈ u_ws q.1 q.2.1 q.2.2, w ∈ lwg) ∧ (∃ ty0 : Nat → FieldType, ∀ k, k < q.2.2 → parseFieldDescriptor (q.2.1 k).2.2.1 = some (ty0 k)) ∧ (∀ a, a < q.2.2 → ∀ b, b < q.2.2 → a ≠ b → (q.2.1 a).2.1 ≠ (q.2.1 b).2.1)
  | 0, _, h => by cases h; exact ⟨inX0, ⟨tyX0, tyX0_ok⟩, nmX0⟩
  | 1, _, h => by cases h; exact ⟨inX1, ⟨tyX1, tyX1_ok⟩, nmX1⟩
  | 2, _, h => by cases h; exact ⟨inX2, ⟨tyX2, tyX2_ok⟩, nmX2⟩
  | 3, _, h => by cases h; exact ⟨inX3, ⟨tyX3, tyX3_ok⟩, nmX3⟩
  | 4, _, h => by cases h; exact ⟨inX4, ⟨tyX4, tyX4_ok⟩, nmX4⟩
  | 5, _, h => by cases h; exact ⟨inX5, ⟨tyX5, tyX5_ok⟩, nmX5⟩
  | 6, _, h => by cases h; exact ⟨inX6, ⟨tyX6, tyX6_ok⟩, nmX6⟩
  | n + 7, _, h => by simp [classes] at h
theorem v_getv {ci a k idx : Nat} {v : Value} (hF : FL μ.1.cls idx ci k) (hO : isO ci a) (hv : (cellF G h a (flds ci))[k]? = some v) (hdg : decode μ.2.1 pc = .ok (.getfield idx, 3)) (kk : V G μ (pc + 3) ls (v :: st) h κ o) : V G μ pc ls (.ref (ad G a) :: st) h κ o := by
  intro r h' ho p e s m args below meth c H locs lsA C hK hI hP hS hL
  obtain ⟨⟨q1, q2, q3⟩, hq, hk, hl, hs⟩ := hF
  dsimp only at hk hl hs
  have hin := (cl_ok ci _ hq).1
  rcases hl with hl | ⟨host, hl⟩
  · exact va_get C.1 C.2.1 (fun w hw => C.word hw) hin C.2.2.2.2.1 hK hP a (cell_O hO) hq k hk (C.word hl) (fun x hx => by rw [← hs]; exact hx) hv hdg (kk r h' ho p e s m args below meth c H locs lsA C hK hI hP hS hL)
  · exact va_getN C.1 C.2.1 (fun w hw => C.word hw) hin C.2.2.2.2.1 hK hP a (cell_O hO) hq k hk (C.word hl) (fun x hx => by rw [← hs]; exact hx) hv hdg (kk r h' ho p e s m args below meth c H locs lsA C hK hI hP hS hL)
theorem v_geti {ci a k idx : Nat} (hF : FL μ.1.cls idx ci k) (hO : isO ci a) (hk : (flds ci)[k]? = some none) (hdg : decode μ.2.1 pc = .ok (.getfield idx, 3)) (kk : V G μ (pc + 3) ls (.int (h a k) :: st) h κ o) : V G μ pc ls (.ref (ad G a) :: st) h κ o := v_getv hF hO (cellF_i hk) hdg kk
theorem v_getr {ci a k idx d : Nat} (b : Nat) (hF : FL μ.1.cls idx ci k) (hO : isO ci a) (hk : (flds ci)[k]? = some (some d)) (hb : a + d = b) (hdg : decode μ.2.1 pc = .ok (.getfield idx, 3)) (kk : V G μ (pc + 3) ls (.ref (ad G b) :: st) h κ o) : V G μ pc ls (.ref (ad G a) :: st) h κ o := v_getv hF hO (cellF_r hk) hdg (by rw [hb]; exact kk)
theorem v_puti {ci a k idx : Nat} {x : Int32} {ty : FieldType} (hF : FL μ.1.cls idx ci k) (hT : FT ci k ty) (hn : narrow ty (.int x) = .int x) (hfit : fits ty (.int x) = true) (hO : isO ci a) (hk : (flds ci)[k]? = some none) (hdg : decode μ.2.1 pc = .ok (.putfield idx, 3)) (kk : V G μ (pc + 3) ls st (hset h a k x) κ o) : V G μ pc ls (.int x :: .ref (ad G a) :: st) h κ o := by
  intro r h' ho p e s m args below meth c H locs lsA C hK hI hP hS hL
  obtain ⟨⟨q1, q2, q3⟩, hq, hk1, hl, hs⟩ := hF
  obtain ⟨q', hq', hfin, hd⟩ := hT
  cases hq.symm.trans hq'
  dsimp only at hk1 hl hs
  obtain ⟨hin, ⟨ty0, hty⟩, hnm⟩ := cl_ok ci _ hq
  have hlen : k < (cellF G h a (flds ci)).length := (List.getElem?_eq_some_iff.mp (cellF_i (G := G) (h := h) (a := a) hk)).1
  rcases hl with hl | ⟨host, hl⟩
  · exact va_put C.1 C.2.1 (fun w hw => C.word hw) hin ty0 hty hnm C.2.2.2.2.1 hK hP (world_D hI) hS a (cell_O hO) hq k hk1 (C.word hl) (fun x hx => by rw [← hs]; exact hx) hfin hd hn hfit hlen hdg
      (fun H1 locs1 hP1 _ hS1 => by rw [set_O hO hk] at hP1; exact kk r h' ho p e s m args below meth c H1 locs1 lsA C hK hI hP1 hS1 hL)
  · exact va_putN C.1 C.2.1 (fun w hw => C.word hw) hin ty0 hty hnm C.2.2.2.2.1 hK hP (world_D hI) hS a (cell_O hO) hq k hk1 (C.word hl) (fun x hx => by rw [← hs]; exact hx) hfin hd hn hfit hlen hdg
      (fun H1 locs1 hP1 _ hS1 => by rw [set_O hO hk] at hP1; exact kk r h' ho p e s m args below meth c H1 locs1 lsA C hK hI hP1 hS1 hL)
theorem v_iald {n b a : Nat} {i : Int32} (hA : isA 0 n b a) (hdg : decode μ.2.1 pc = .ok (.iaload, 1)) (kk : V G μ (pc + 1) ls (.int (h a (ix i)) :: st) h κ o) : V G μ pc ls (.int i :: .ref (ad G a) :: st) h κ (chk n i o) := by
  intro r h' ho p e s m args below meth c H locs lsA C hK hI hP hS hL
  obtain ⟨hi, ho⟩ := chk_some ho
  exact va_iald C.1 C.2.1 hK hP a 0 (cell_A hA (by decide)) rfl (inb_in hi) hdg (kk r h' ho p e s m args below meth c H locs lsA C hK hI hP hS hL)
theorem v_zald {n b a : Nat} {i : Int32} (hA : isA 1 n b a) (hdg : decode μ.2.1 pc = .ok (.baload, 1)) (kk : V G μ (pc + 1) ls (.int (h a (ix i)) :: st) h κ o) : V G μ pc ls (.int i :: .ref (ad G a) :: st) h κ (chk n i o) := by
  intro r h' ho p e s m args below meth c H locs lsA C hK hI hP hS hL
  obtain ⟨hi, ho⟩ := chk_some ho
  exact va_zald C.1 C.2.1 hK hP a 1 (cell_A hA (by decide)) rfl (inb_in hi) hdg (kk r h' ho p e s m args below meth c H locs lsA C hK hI hP hS hL)
theorem v_iast {n b a : Nat} {i x : Int32} (hA : isA 0 n b a) (hdg : decode μ.2.1 pc = .ok (.iastore, 1)) (kk : V G μ (pc + 1) ls st (hset h a (ix i) x) κ o) : V G μ pc ls (.int x :: .int i :: .ref (ad G a) :: st) h κ (chk n i o) := by
  intro r h' ho p e s m args below meth c H locs lsA C hK hI hP hS hL
  obtain ⟨hi, ho⟩ := chk_some ho
  exact va_iast C.1 C.2.1 hK hP (world_D hI) hS a 0 (cell_A hA (by decide)) rfl (inb_in hi) hdg (fun H1 locs1 hP1 _ hS1 => by rw [set_A hA (by decide)] at hP1; exact kk r h' ho p e s m args below meth c H1 locs1 lsA C hK hI hP1 hS1 hL)
theorem v_zast {n b a : Nat} {i x : Int32} (hx : vp_nar .boolean x = x) (hA : isA 1 n b a) (hdg : decode μ.2.1 pc = .ok (.bastore, 1)) (kk : V G μ (pc + 1) ls st (hset h a (ix i) x) κ o) : V G μ pc ls (.int x :: .int i :: .ref (ad G a) :: st) h κ (chk n i o) := by
  intro r h' ho p e s m args below meth c H locs lsA C hK hI hP hS hL
  obtain ⟨hi, ho⟩ := chk_some ho
  exact va_zast C.1 C.2.1 hK hP (world_D hI) hS a 1 (cell_A hA (by decide)) rfl (inb_in hi) hdg (fun H1 locs1 hP1 _ hS1 => by rw [hx, set_A hA (by decide)] at hP1; exact kk r h' ho p e s m args below meth c H1 locs1 lsA C hK hI hP1 hS1 hL)
theorem v_aald2 {n b a : Nat} {i : Int32} (hA : isA 2 n b a) (hdg : decode μ.2.1 pc = .ok (.aaload, 1)) (kk : V G μ (pc + 1) ls (.ref (ad G (b + 2 * ix i)) :: st) h κ o) : V G μ pc ls (.int i :: .ref (ad G a) :: st) h κ (chk n i o) := by
  intro r h' ho p e s m args below meth c H locs lsA C hK hI hP hS hL
  obtain ⟨hi, ho⟩ := chk_some ho
  exact va_aldq C.1 C.2.1 hK hP a 2 (cell_R hA (by decide)) rfl (inb_in hi) hdg (kk r h' ho p e s m args below meth c H locs lsA C hK hI hP hS hL)
theorem v_aald3 {n b a : Nat} {i : Int32} (hA : isA 3 n b a) (hdg : decode μ.2.1 pc = .ok (.aaload, 1)) (kk : V G μ (pc + 1) ls (.ref (ad G (b + 2 * ix i)) :: st) h κ o) : V G μ pc ls (.int i :: .ref (ad G a) :: st) h κ (chk n i o) := by
  intro r h' ho p e s m args below meth c H locs lsA C hK hI hP hS hL
  obtain ⟨hi, ho⟩ := chk_some ho
  exact va_aldq C.1 C.2.1 hK hP a 3 (cell_R hA (by decide)) rfl (inb_in hi) hdg (kk r h' ho p e s m args below meth c H locs lsA C hK hI hP hS hL)
theorem v_iret {x : Int32} (hr : μ.2.2.2.1 = some .int) (hdg : decode μ.2.1 pc = .ok (.ireturn, 1)) : V G μ pc ls [.int x] h κi (some (x, h)) := by
  intro r h' ho p e s m args below meth c H locs lsA C hK hI hP hS hL
  cases ho
  exact W.iret C.1 C.2.1 (C.2.2.1.trans hr) (fun t ht hW => ⟨rfl, by rw [ht]; exact hP, hS.F ht⟩) hS.2.2 hdg C.2.2.2.2.2.2
theorem v_zretL {x : Int32} (hr : μ.2.2.2.1 = some .boolean) (hn : narrow .boolean (.int x) = .int x) (hdg : decode μ.2.1 pc = .ok (.ireturn, 1)) : V G μ pc ls [.int x] h κi (some (x, h)) := by
  intro r h' ho p e s m args below meth c H locs lsA C hK hI hP hS hL
  cases ho
  exact W.zret C.1 C.2.1 (C.2.2.1.trans hr) hn (fun t ht hW => ⟨rfl, by rw [ht]; exact hP, hS.F ht⟩) hS.2.2 hdg C.2.2.2.2.2.2
theorem v_zret {x : Int32} (hr : μ.2.2.2.1 = some .boolean) (hdg : decode μ.2.1 pc = .ok (.ireturn, 1)) : V G μ pc ls [.int x] h κi (zret x h) := by
  unfold zret
  refine v_ite (fun hc => ?_) (fun _ => v_ite (fun hc => ?_) (fun _ r h' ho => by cases ho))
  · subst hc; exact v_zretL hr rfl hdg
  · subst hc; exact v_zretL hr rfl hdg
theorem v_lret {x : Int64} (hr : μ.2.2.2.1 = some .long) (hdg : decode μ.2.1 pc = .ok (.lreturn, 1)) : V G μ pc ls [.long x] h κl (some (x, h)) := by
  intro r h' ho p e s m args below meth c H locs lsA C hK hI hP hS hL
  cases ho
  exact W.lret C.1 C.2.1 (C.2.2.1.trans hr) (fun t ht hW => ⟨rfl, by rw [ht]; exact hP, hS.F ht⟩) hS.2.2 hdg C.2.2.2.2.2.2
theorem v_vret (hr : μ.2.2.2.1 = none) (hdg : decode μ.2.1 pc = .ok (.return_, 1)) : V G μ pc ls [] h κv (some ((), h)) := by
  intro r h' ho p e s m args below meth c H locs lsA C hK hI hP hS hL
  cases ho
  exact W.vret C.1 C.2.1 (C.2.2.1.trans hr) (fun t ht hW => ⟨rfl, by rw [ht]; exact hP, hS.F ht⟩) hS.2.2 hdg C.2.2.2.2.2.2
theorem v_aret {a : Nat} {nm : String} (hr : μ.2.2.2.1 = some (.object nm)) (hdg : decode μ.2.1 pc = .ok (.areturn, 1)) : V G μ pc ls [.ref (ad G a)] h (κr G) (some (a, h)) := by
  intro r h' ho p e s m args below meth c H locs lsA C hK hI hP hS hL
  cases ho
  exact W.aret C.1 C.2.1 (C.2.2.1.trans hr) (Or.inl ⟨_, rfl⟩) (Or.inr ⟨_, rfl⟩) (fun t ht hW => ⟨rfl, by rw [ht]; exact hP, hS.F ht⟩) hS.2.2 hdg C.2.2.2.2.2.2
theorem bnd_inv {σ τ : Type} {o : Option (σ × Hp)} {f : σ → Hp → Option τ} {q : τ} (h : bnd o f = some q) : ∃ r1 h1, o = some (r1, h1) ∧ f r1 h1 = some q := by
  cases o with
  | none => cases h
  | some z => exact ⟨z.1, z.2, rfl, h⟩
theorem v_after {σ : Type} {κz : σ → Option Value} {rest st0 : List Value} {oz : Option (σ × Hp)} {f : σ → Hp → Option (ρ × Hp)}
    (hrun : ∀ r1 h1, oz = some (r1, h1) → ∀ (p : Program) (e : Env) (s : State) (m : MethodId) (args : Array Value) (below : List Frame) (meth : Method) (c : Code) (H : Heap) (locs : List Loc) (lsA : Array Slot),
      Cx μ p s m args meth c → va_K G.2.2.1 classes (tysOf G) s → wInj G → va_P G.2.2.1 classes (world G h) H → va_S (Aw G) s.heap H locs → lv_has lsA μ.2.2.1 ls →
      ∃ a, va_Run p G.1 e (rmOf μ) s m args below meth c H locs 0 0 0 0 (F0 m pc lsA st0) rest (Qc G κz r1 h1 a) (Aw G))
    (k : ∀ r1 h1, V G μ (pc + 3) ls ((κz r1).toList ++ rest) h1 κ (f r1 h1)) : V G μ pc ls st0 h κ (bnd oz f) := by
  intro r h' ho p e s m args below meth c H locs lsA C hK hI hP hS hL
  obtain ⟨r1, h1, hz, hf⟩ := bnd_inv ho
  obtain ⟨a, hr⟩ := hrun r1 h1 hz p e s m args below meth c H locs lsA C hK hI hP hS hL
  intro T hT X
  obtain ⟨v, st₀, t, T', L, h0, X', hLc, e1, e2, ⟨hv, hP1, hz1, hk1⟩, stp⟩ := hr T hT X
  cases hv
  rw [h0] at hz1 hk1
  have hS1 : va_S (Aw G) s.heap T'.heap (locs ++ L) := ⟨Nat.le_trans hS.1 (by rw [e1]; exact hz1), fun q g1 g2 => by rw [e1, hk1 q (Nat.lt_of_lt_of_le g1 hS.1) g2]; exact hS.2.1 q g1 g2, fun q hq => by
    rcases List.mem_append.mp hq with g | g
    · exact hS.2.2 q g
    · exact hLc q g⟩
  obtain ⟨t2, a1, b1⟩ := k r1 h1 r h' hf p e s m args below meth c T'.heap (locs ++ L) lsA C hK hI (by rw [e1]; exact hP1) hS1 hL T' rfl X'
  exact ⟨t2, stp t2 a1, b1⟩
theorem v_callV {σ : Type} {κz : σ → Option Value} {μz : Mt} {ci a idx n : Nat} {As rest st0 : List Value} {oz : Option (σ × Hp)} {f : σ → Hp → Option (ρ × Hp)}
    (hC : Cn G μz (.ref (ad G a) :: As) h κz oz) (hok : CallOK μ.1.cls idx μz n) (hin : InstOK μz ci) (hO : isO ci a) (hR : RoomOK μ μz) (hn : As.length = n) (hst : st0 = As.reverse ++ .ref (ad G a) :: rest) (hw : (rest.map fun v => v.category).sum ≤ 8) (hdg : decode μ.2.1 pc = .ok (.invokevirtual idx, 3))
    (k : ∀ r1 h1, V G μ (pc + 3) ls ((κz r1).toList ++ rest) h1 κ (f r1 h1)) : V G μ pc ls st0 h κ (bnd oz f) := by
  refine v_after (fun r1 h1 hz p e s m args below meth c H locs lsA C hK hI hP hS hL => ?_) k
  obtain ⟨hcode, hini, hlink, hd⟩ := hok
  obtain ⟨hinst, hsel, q, hq, hqc⟩ := hin
  have hcb := callB_of (R := rmOf μ) (rm := rmOf μz) (mc := 0) (ms := 0) n C.2.2.2.2.2.1 (C.call hcode) rfl rfl rfl (C.word hini) (C.word hlink) hd hR
  refine ⟨_, va_runV (As := As) (rest := rest) (C := μz.1.cls) ⟨C.1, C.2.1, C.2.2.2.1, C.2.2.2.2.1, C.2.2.2.2.2.1⟩ (hC r1 h1 hz) ⟨hcb, C.word hinst, C.word hsel⟩ ⟨WH.blind, ?_, fun U hU hW => ⟨rfl, by rw [hU]; exact hP, va_K.moved hW.alike hK, hI⟩⟩ rfl hn hL.1 hst (lv_room hw) hdg ⟨Nat.le_refl 0, Nat.le_refl 0⟩⟩
  obtain ⟨cell, g1, g2, g3⟩ := va_recv hK hP hq (cell_O hO)
  exact ⟨cell, g1, g2, by rw [← hqc]; exact g3⟩
theorem v_callS {σ : Type} {κz : σ → Option Value} {μz : Mt} {idx n : Nat} {As rest st0 : List Value} {oz : Option (σ × Hp)} {f : σ → Hp → Option (ρ × Hp)}
    (hC : Cn G μz As h κz oz) (hok : CallOK μ.1.cls idx μz n) (hin : StatOK μz) (hR : RoomOK μ μz) (hn : As.length = n) (hst : st0 = As.reverse ++ rest) (hw : (rest.map fun v => v.category).sum ≤ 8) (hdg : decode μ.2.1 pc = .ok (.invokestatic idx, 3))
    (k : ∀ r1 h1, V G μ (pc + 3) ls ((κz r1).toList ++ rest) h1 κ (f r1 h1)) : V G μ pc ls st0 h κ (bnd oz f) := by
  refine v_after (fun r1 h1 hz p e s m args below meth c H locs lsA C hK hI hP hS hL => ?_) k
  obtain ⟨hcode, hini, hlink, hd⟩ := hok
  have hcb := callB_of (R := rmOf μ) (rm := rmOf μz) (mc := 0) (ms := 0) n C.2.2.2.2.2.1 (C.call hcode) rfl rfl rfl (C.word hini) (C.word hlink) hd hR
  exact ⟨_, va_runS (As := As) (rest := rest) ⟨C.1, C.2.1, C.2.2.2.1, C.2.2.2.2.1, C.2.2.2.2.2.1⟩ (hC r1 h1 hz) ⟨hcb, C.word hin⟩ ⟨WH.blind, fun U hU hW => ⟨rfl, by rw [hU]; exact hP, va_K.moved hW.alike hK, hI⟩⟩ rfl hn hL.1 hst (lv_room hw) hdg ⟨Nat.le_refl 0, Nat.le_refl 0⟩⟩
/-- System.arraycopy of int rows -/
def acp (h : Hp) (a b na nb : Nat) (sp dp n : Int32) : Option (Unit × Hp) := if ¬ sp < 0 ∧ ¬ dp < 0 ∧ ¬ n < 0 ∧ ix sp + ix n ≤ na ∧ ix dp + ix n ≤ nb then some ((), hcpy h a b (ix sp) (ix dp) (ix n)) else none
theorem v_acopy {a b na nb b1 b2 idx : Nat} {sp dp n : Int32} {f : Unit → Hp → Option (ρ × Hp)} (hA : isA 0 na b1 a) (hB : isA 0 nb b2 b) (hlink : Cond.methodLink μ.1.cls idx arraycopyName ∈ lwg) (hnat : Cond.native arraycopyName ∈ lwg) (hstat : Cond.static arraycopyName ∈ lwg) (hini : Cond.initialized "java/lang/System" ∈ lwg) (hR : 1 ≤ μ.2.2.2.2.1 ∧ 8 + (nativeFrameWords "java/lang/System" "arraycopy" 5 + 11) ≤ μ.2.2.2.2.2) (hw : (st.map fun v => v.category).sum ≤ 8) (hdg : decode μ.2.1 pc = .ok (.invokestatic idx, 3))
    (k : ∀ h1, V G μ (pc + 3) ls st h1 κ (f () h1)) : V G μ pc ls (.int n :: .int dp :: .ref (ad G b) :: .int sp :: .ref (ad G a) :: st) h κ (bnd (acp h a b na nb sp dp n) f) := by
  intro r h' ho p e s m args below meth c H locs lsA C hK hI hP hS hL
  obtain ⟨r1, h1, hz, hf⟩ := bnd_inv ho
  unfold acp at hz
  split at hz
  · next hc =>
    cases hz
    refine va_copyi (ty := .int) C.1 C.2.1 (C.2.2.2.1.trans hL.1.symm) C.2.2.2.2.1 (C.word hlink) (C.word hnat) (C.word hstat) (C.word hini) hK hP (world_D hI) hS a b 0 0 (cell_A hA (by decide)) (cell_A hB (by decide)) rfl rfl rfl hc.1 hc.2.1 hc.2.2.1 hc.2.2.2.1 hc.2.2.2.2 (fun i _ => rfl) hR.1 (Nat.le_trans (Nat.add_le_add_right hw _) hR.2) hdg
      (fun H1 locs1 hP1 _ hS1 => by rw [set_C hB (by decide)] at hP1; exact k _ r h' hf p e s m args below meth c H1 locs1 lsA C hK hI hP1 hS1 hL)
  · cases hz
end VR
end
section
theorem i_vc : Claimed_1_1 ∧ Claimed_1_2 := sorry
end
