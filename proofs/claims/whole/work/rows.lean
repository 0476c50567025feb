section
-- ===== PART A: goes FIRST, ahead of the names: the tables' words, and 'selects' of the private methods out of them =====
/-- a private method of a class that the tables say can be made, by its rows of tables_1 -/
def lw_okq (q : MethodName × Nat) : Prop := (q.1.cls ≠ "java/lang/invoke/MethodHandle" ∧ q.1.cls ≠ "java/lang/invoke/VarHandle") ∧ Cond.instantiable q.1.cls q.2 ∈ tables_1 ∧ Cond.privateMethod q.1 ∈ tables_1 ∧ Cond.instanceMethod q.1 ∈ tables_1
theorem lw_p0 : lw_okq (⟨"SpiderLoom$Text", "goesOn", "(LSpiderLoom$Frame;I)Z"⟩, 2) := ⟨⟨by decide +kernel, by decide +kernel⟩, List.mem_of_getElem? (i := 20) (by decide +kernel), List.mem_of_getElem? (i := 179) (by decide +kernel), List.mem_of_getElem? (i := 180) (by decide +kernel)⟩
theorem lw_p1 : lw_okq (⟨"SpiderLoom", "isHidden", "(I)Z"⟩, 12) := ⟨⟨by decide +kernel, by decide +kernel⟩, List.mem_of_getElem? (i := 12) (by decide +kernel), List.mem_of_getElem? (i := 215) (by decide +kernel), List.mem_of_getElem? (i := 216) (by decide +kernel)⟩
theorem lw_p2 : lw_okq (⟨"SpiderLoom", "setHidden", "(II)V"⟩, 12) := ⟨⟨by decide +kernel, by decide +kernel⟩, List.mem_of_getElem? (i := 12) (by decide +kernel), List.mem_of_getElem? (i := 223) (by decide +kernel), List.mem_of_getElem? (i := 224) (by decide +kernel)⟩
theorem lw_p3 : lw_okq (⟨"SpiderLoom", "found", "(I)I"⟩, 12) := ⟨⟨by decide +kernel, by decide +kernel⟩, List.mem_of_getElem? (i := 12) (by decide +kernel), List.mem_of_getElem? (i := 238) (by decide +kernel), List.mem_of_getElem? (i := 239) (by decide +kernel)⟩
theorem lw_p4 : lw_okq (⟨"SpiderLoom", "canBeTold", "(II)Z"⟩, 12) := ⟨⟨by decide +kernel, by decide +kernel⟩, List.mem_of_getElem? (i := 12) (by decide +kernel), List.mem_of_getElem? (i := 260) (by decide +kernel), List.mem_of_getElem? (i := 261) (by decide +kernel)⟩
theorem lw_p5 : lw_okq (⟨"SpiderLoom", "lay", "(LSpiderLoom$Spider;LSpiderLoom$Frame;III)LSpiderLoom$Spider;"⟩, 12) := ⟨⟨by decide +kernel, by decide +kernel⟩, List.mem_of_getElem? (i := 12) (by decide +kernel), List.mem_of_getElem? (i := 267) (by decide +kernel), List.mem_of_getElem? (i := 268) (by decide +kernel)⟩
theorem lw_p6 : lw_okq (⟨"SpiderLoom$Frame", "behindByRows", "(II)I"⟩, 3) := ⟨⟨by decide +kernel, by decide +kernel⟩, List.mem_of_getElem? (i := 35) (by decide +kernel), List.mem_of_getElem? (i := 291) (by decide +kernel), List.mem_of_getElem? (i := 292) (by decide +kernel)⟩
theorem lw_p7 : lw_okq (⟨"SpiderLoom$Frame", "side", "(III)I"⟩, 3) := ⟨⟨by decide +kernel, by decide +kernel⟩, List.mem_of_getElem? (i := 35) (by decide +kernel), List.mem_of_getElem? (i := 318) (by decide +kernel), List.mem_of_getElem? (i := 319) (by decide +kernel)⟩
theorem lw_p8 : lw_okq (⟨"SpiderLoom", "fewestHiddenFor", "(III)I"⟩, 12) := ⟨⟨by decide +kernel, by decide +kernel⟩, List.mem_of_getElem? (i := 12) (by decide +kernel), List.mem_of_getElem? (i := 368) (by decide +kernel), List.mem_of_getElem? (i := 369) (by decide +kernel)⟩
theorem lw_p9 : lw_okq (⟨"SpiderLoom", "stepInTurn", "(LSpiderLoom$Spider;LSpiderLoom$Spider;)I"⟩, 12) := ⟨⟨by decide +kernel, by decide +kernel⟩, List.mem_of_getElem? (i := 12) (by decide +kernel), List.mem_of_getElem? (i := 382) (by decide +kernel), List.mem_of_getElem? (i := 383) (by decide +kernel)⟩
theorem lw_p10 : lw_okq (⟨"SpiderLoom", "comesOut", "(I)Z"⟩, 12) := ⟨⟨by decide +kernel, by decide +kernel⟩, List.mem_of_getElem? (i := 12) (by decide +kernel), List.mem_of_getElem? (i := 402) (by decide +kernel), List.mem_of_getElem? (i := 403) (by decide +kernel)⟩
theorem lw_p11 : lw_okq (⟨"SpiderLoom", "unlikeWebs", "(II)I"⟩, 12) := ⟨⟨by decide +kernel, by decide +kernel⟩, List.mem_of_getElem? (i := 12) (by decide +kernel), List.mem_of_getElem? (i := 411) (by decide +kernel), List.mem_of_getElem? (i := 412) (by decide +kernel)⟩
theorem lw_p12 : lw_okq (⟨"SpiderLoom", "isCaught", "(LSpiderLoom$Spider;II)Z"⟩, 12) := ⟨⟨by decide +kernel, by decide +kernel⟩, List.mem_of_getElem? (i := 12) (by decide +kernel), List.mem_of_getElem? (i := 426) (by decide +kernel), List.mem_of_getElem? (i := 427) (by decide +kernel)⟩
theorem lw_p13 : lw_okq (⟨"SpiderLoom", "refusalOfItem", "(III)I"⟩, 12) := ⟨⟨by decide +kernel, by decide +kernel⟩, List.mem_of_getElem? (i := 12) (by decide +kernel), List.mem_of_getElem? (i := 458) (by decide +kernel), List.mem_of_getElem? (i := 459) (by decide +kernel)⟩
theorem lw_p14 : lw_okq (⟨"SpiderLoom", "mixWeb", "(JII)J"⟩, 12) := ⟨⟨by decide +kernel, by decide +kernel⟩, List.mem_of_getElem? (i := 12) (by decide +kernel), List.mem_of_getElem? (i := 502) (by decide +kernel), List.mem_of_getElem? (i := 503) (by decide +kernel)⟩
theorem lw_p15 : lw_okq (⟨"SpiderLoomModel", "faultNow", "()I"⟩, 25) := ⟨⟨by decide +kernel, by decide +kernel⟩, List.mem_of_getElem? (i := 518) (by decide +kernel), List.mem_of_getElem? (i := 620) (by decide +kernel), List.mem_of_getElem? (i := 621) (by decide +kernel)⟩
def lw_privs_1 : List (MethodName × Nat) := [(⟨"SpiderLoom$Text", "goesOn", "(LSpiderLoom$Frame;I)Z"⟩, 2), (⟨"SpiderLoom", "isHidden", "(I)Z"⟩, 12), (⟨"SpiderLoom", "setHidden", "(II)V"⟩, 12), (⟨"SpiderLoom", "found", "(I)I"⟩, 12), (⟨"SpiderLoom", "canBeTold", "(II)Z"⟩, 12), (⟨"SpiderLoom", "lay", "(LSpiderLoom$Spider;LSpiderLoom$Frame;III)LSpiderLoom$Spider;"⟩, 12), (⟨"SpiderLoom$Frame", "behindByRows", "(II)I"⟩, 3), (⟨"SpiderLoom$Frame", "side", "(III)I"⟩, 3), (⟨"SpiderLoom", "fewestHiddenFor", "(III)I"⟩, 12), (⟨"SpiderLoom", "stepInTurn", "(LSpiderLoom$Spider;LSpiderLoom$Spider;)I"⟩, 12), (⟨"SpiderLoom", "comesOut", "(I)Z"⟩, 12), (⟨"SpiderLoom", "unlikeWebs", "(II)I"⟩, 12), (⟨"SpiderLoom", "isCaught", "(LSpiderLoom$Spider;II)Z"⟩, 12), (⟨"SpiderLoom", "refusalOfItem", "(III)I"⟩, 12), (⟨"SpiderLoom", "mixWeb", "(JII)J"⟩, 12), (⟨"SpiderLoomModel", "faultNow", "()I"⟩, 25)]
theorem lw_r1 : ∀ q ∈ lw_privs_1, lw_okq q := List.forall_mem_cons.mpr ⟨lw_p0, List.forall_mem_cons.mpr ⟨lw_p1, List.forall_mem_cons.mpr ⟨lw_p2, List.forall_mem_cons.mpr ⟨lw_p3, List.forall_mem_cons.mpr ⟨lw_p4, List.forall_mem_cons.mpr ⟨lw_p5, List.forall_mem_cons.mpr ⟨lw_p6, List.forall_mem_cons.mpr ⟨lw_p7, List.forall_mem_cons.mpr ⟨lw_p8, List.forall_mem_cons.mpr ⟨lw_p9, List.forall_mem_cons.mpr ⟨lw_p10, List.forall_mem_cons.mpr ⟨lw_p11, List.forall_mem_cons.mpr ⟨lw_p12, List.forall_mem_cons.mpr ⟨lw_p13, List.forall_mem_cons.mpr ⟨lw_p14, List.forall_mem_cons.mpr ⟨lw_p15, fun _ h => absurd h List.not_mem_nil⟩⟩⟩⟩⟩⟩⟩⟩⟩⟩⟩⟩⟩⟩⟩⟩
theorem lw_p16 : lw_okq (⟨"SpiderLoomModel", "figureAt", "(I)I"⟩, 25) := ⟨⟨by decide +kernel, by decide +kernel⟩, List.mem_of_getElem? (i := 518) (by decide +kernel), List.mem_of_getElem? (i := 624) (by decide +kernel), List.mem_of_getElem? (i := 625) (by decide +kernel)⟩
theorem lw_p17 : lw_okq (⟨"SpiderLoomModel", "isTaken", "(III)Z"⟩, 25) := ⟨⟨by decide +kernel, by decide +kernel⟩, List.mem_of_getElem? (i := 518) (by decide +kernel), List.mem_of_getElem? (i := 628) (by decide +kernel), List.mem_of_getElem? (i := 629) (by decide +kernel)⟩
theorem lw_p18 : lw_okq (⟨"SpiderLoomModel", "isPeg", "(I)Z"⟩, 25) := ⟨⟨by decide +kernel, by decide +kernel⟩, List.mem_of_getElem? (i := 518) (by decide +kernel), List.mem_of_getElem? (i := 636) (by decide +kernel), List.mem_of_getElem? (i := 637) (by decide +kernel)⟩
theorem lw_p19 : lw_okq (⟨"SpiderLoomModel", "pegOf", "(II)I"⟩, 25) := ⟨⟨by decide +kernel, by decide +kernel⟩, List.mem_of_getElem? (i := 518) (by decide +kernel), List.mem_of_getElem? (i := 640) (by decide +kernel), List.mem_of_getElem? (i := 641) (by decide +kernel)⟩
theorem lw_p20 : lw_okq (⟨"SpiderLoomModel", "meets", "(I)I"⟩, 25) := ⟨⟨by decide +kernel, by decide +kernel⟩, List.mem_of_getElem? (i := 518) (by decide +kernel), List.mem_of_getElem? (i := 662) (by decide +kernel), List.mem_of_getElem? (i := 663) (by decide +kernel)⟩
theorem lw_p21 : lw_okq (⟨"SpiderLoomModel", "farOf", "(II)I"⟩, 25) := ⟨⟨by decide +kernel, by decide +kernel⟩, List.mem_of_getElem? (i := 518) (by decide +kernel), List.mem_of_getElem? (i := 670) (by decide +kernel), List.mem_of_getElem? (i := 671) (by decide +kernel)⟩
theorem lw_p22 : lw_okq (⟨"SpiderLoomModel", "isWeb", "(II)Z"⟩, 25) := ⟨⟨by decide +kernel, by decide +kernel⟩, List.mem_of_getElem? (i := 518) (by decide +kernel), List.mem_of_getElem? (i := 681) (by decide +kernel), List.mem_of_getElem? (i := 682) (by decide +kernel)⟩
theorem lw_p23 : lw_okq (⟨"SpiderLoomModel", "webOf", "(III)I"⟩, 25) := ⟨⟨by decide +kernel, by decide +kernel⟩, List.mem_of_getElem? (i := 518) (by decide +kernel), List.mem_of_getElem? (i := 688) (by decide +kernel), List.mem_of_getElem? (i := 689) (by decide +kernel)⟩
theorem lw_p24 : lw_okq (⟨"SpiderLoomModel", "isHidden", "(I)Z"⟩, 25) := ⟨⟨by decide +kernel, by decide +kernel⟩, List.mem_of_getElem? (i := 518) (by decide +kernel), List.mem_of_getElem? (i := 692) (by decide +kernel), List.mem_of_getElem? (i := 693) (by decide +kernel)⟩
theorem lw_p25 : lw_okq (⟨"SpiderLoomModel", "lays", "(III)V"⟩, 25) := ⟨⟨by decide +kernel, by decide +kernel⟩, List.mem_of_getElem? (i := 518) (by decide +kernel), List.mem_of_getElem? (i := 699) (by decide +kernel), List.mem_of_getElem? (i := 700) (by decide +kernel)⟩
theorem lw_p26 : lw_okq (⟨"SpiderLoomModel", "nextOf", "(III)I"⟩, 25) := ⟨⟨by decide +kernel, by decide +kernel⟩, List.mem_of_getElem? (i := 518) (by decide +kernel), List.mem_of_getElem? (i := 703) (by decide +kernel), List.mem_of_getElem? (i := 704) (by decide +kernel)⟩
theorem lw_p27 : lw_okq (⟨"SpiderLoomModel", "place", "(I)I"⟩, 25) := ⟨⟨by decide +kernel, by decide +kernel⟩, List.mem_of_getElem? (i := 518) (by decide +kernel), List.mem_of_getElem? (i := 707) (by decide +kernel), List.mem_of_getElem? (i := 708) (by decide +kernel)⟩
theorem lw_p28 : lw_okq (⟨"SpiderLoomModel", "lengthOf", "(III)I"⟩, 25) := ⟨⟨by decide +kernel, by decide +kernel⟩, List.mem_of_getElem? (i := 518) (by decide +kernel), List.mem_of_getElem? (i := 715) (by decide +kernel), List.mem_of_getElem? (i := 716) (by decide +kernel)⟩
theorem lw_p29 : lw_okq (⟨"SpiderLoomModel", "crossesOf", "(II)I"⟩, 25) := ⟨⟨by decide +kernel, by decide +kernel⟩, List.mem_of_getElem? (i := 518) (by decide +kernel), List.mem_of_getElem? (i := 723) (by decide +kernel), List.mem_of_getElem? (i := 724) (by decide +kernel)⟩
theorem lw_p30 : lw_okq (⟨"SpiderLoomModel", "doMeet", "(IIII)Z"⟩, 25) := ⟨⟨by decide +kernel, by decide +kernel⟩, List.mem_of_getElem? (i := 518) (by decide +kernel), List.mem_of_getElem? (i := 727) (by decide +kernel), List.mem_of_getElem? (i := 728) (by decide +kernel)⟩
theorem lw_p31 : lw_okq (⟨"SpiderLoomModel", "hand", "(III)I"⟩, 25) := ⟨⟨by decide +kernel, by decide +kernel⟩, List.mem_of_getElem? (i := 518) (by decide +kernel), List.mem_of_getElem? (i := 731) (by decide +kernel), List.mem_of_getElem? (i := 732) (by decide +kernel)⟩
def lw_privs_2 : List (MethodName × Nat) := [(⟨"SpiderLoomModel", "figureAt", "(I)I"⟩, 25), (⟨"SpiderLoomModel", "isTaken", "(III)Z"⟩, 25), (⟨"SpiderLoomModel", "isPeg", "(I)Z"⟩, 25), (⟨"SpiderLoomModel", "pegOf", "(II)I"⟩, 25), (⟨"SpiderLoomModel", "meets", "(I)I"⟩, 25), (⟨"SpiderLoomModel", "farOf", "(II)I"⟩, 25), (⟨"SpiderLoomModel", "isWeb", "(II)Z"⟩, 25), (⟨"SpiderLoomModel", "webOf", "(III)I"⟩, 25), (⟨"SpiderLoomModel", "isHidden", "(I)Z"⟩, 25), (⟨"SpiderLoomModel", "lays", "(III)V"⟩, 25), (⟨"SpiderLoomModel", "nextOf", "(III)I"⟩, 25), (⟨"SpiderLoomModel", "place", "(I)I"⟩, 25), (⟨"SpiderLoomModel", "lengthOf", "(III)I"⟩, 25), (⟨"SpiderLoomModel", "crossesOf", "(II)I"⟩, 25), (⟨"SpiderLoomModel", "doMeet", "(IIII)Z"⟩, 25), (⟨"SpiderLoomModel", "hand", "(III)I"⟩, 25)]
theorem lw_r2 : ∀ q ∈ lw_privs_2, lw_okq q := List.forall_mem_cons.mpr ⟨lw_p16, List.forall_mem_cons.mpr ⟨lw_p17, List.forall_mem_cons.mpr ⟨lw_p18, List.forall_mem_cons.mpr ⟨lw_p19, List.forall_mem_cons.mpr ⟨lw_p20, List.forall_mem_cons.mpr ⟨lw_p21, List.forall_mem_cons.mpr ⟨lw_p22, List.forall_mem_cons.mpr ⟨lw_p23, List.forall_mem_cons.mpr ⟨lw_p24, List.forall_mem_cons.mpr ⟨lw_p25, List.forall_mem_cons.mpr ⟨lw_p26, List.forall_mem_cons.mpr ⟨lw_p27, List.forall_mem_cons.mpr ⟨lw_p28, List.forall_mem_cons.mpr ⟨lw_p29, List.forall_mem_cons.mpr ⟨lw_p30, List.forall_mem_cons.mpr ⟨lw_p31, fun _ h => absurd h List.not_mem_nil⟩⟩⟩⟩⟩⟩⟩⟩⟩⟩⟩⟩⟩⟩⟩⟩
theorem lw_p32 : lw_okq (⟨"SpiderLoomModel", "isBetween", "(III)Z"⟩, 25) := ⟨⟨by decide +kernel, by decide +kernel⟩, List.mem_of_getElem? (i := 518) (by decide +kernel), List.mem_of_getElem? (i := 735) (by decide +kernel), List.mem_of_getElem? (i := 736) (by decide +kernel)⟩
theorem lw_p33 : lw_okq (⟨"SpiderLoomModel", "hangsOf", "(III)I"⟩, 25) := ⟨⟨by decide +kernel, by decide +kernel⟩, List.mem_of_getElem? (i := 518) (by decide +kernel), List.mem_of_getElem? (i := 743) (by decide +kernel), List.mem_of_getElem? (i := 744) (by decide +kernel)⟩
theorem lw_p34 : lw_okq (⟨"SpiderLoomModel", "indexOf", "(I)I"⟩, 25) := ⟨⟨by decide +kernel, by decide +kernel⟩, List.mem_of_getElem? (i := 518) (by decide +kernel), List.mem_of_getElem? (i := 747) (by decide +kernel), List.mem_of_getElem? (i := 748) (by decide +kernel)⟩
theorem lw_p35 : lw_okq (⟨"SpiderLoomModel", "piecesOf", "(III)I"⟩, 25) := ⟨⟨by decide +kernel, by decide +kernel⟩, List.mem_of_getElem? (i := 518) (by decide +kernel), List.mem_of_getElem? (i := 755) (by decide +kernel), List.mem_of_getElem? (i := 756) (by decide +kernel)⟩
theorem lw_p36 : lw_okq (⟨"SpiderLoomModel", "turnedOf", "(II)I"⟩, 25) := ⟨⟨by decide +kernel, by decide +kernel⟩, List.mem_of_getElem? (i := 518) (by decide +kernel), List.mem_of_getElem? (i := 763) (by decide +kernel), List.mem_of_getElem? (i := 764) (by decide +kernel)⟩
theorem lw_p37 : lw_okq (⟨"SpiderLoomModel", "turns", "(I)V"⟩, 25) := ⟨⟨by decide +kernel, by decide +kernel⟩, List.mem_of_getElem? (i := 518) (by decide +kernel), List.mem_of_getElem? (i := 767) (by decide +kernel), List.mem_of_getElem? (i := 768) (by decide +kernel)⟩
theorem lw_p38 : lw_okq (⟨"SpiderLoomModel", "moreOf", "(IIII)I"⟩, 25) := ⟨⟨by decide +kernel, by decide +kernel⟩, List.mem_of_getElem? (i := 518) (by decide +kernel), List.mem_of_getElem? (i := 775) (by decide +kernel), List.mem_of_getElem? (i := 776) (by decide +kernel)⟩
theorem lw_p39 : lw_okq (⟨"SpiderLoomModel", "beginOf", "(I)I"⟩, 25) := ⟨⟨by decide +kernel, by decide +kernel⟩, List.mem_of_getElem? (i := 518) (by decide +kernel), List.mem_of_getElem? (i := 783) (by decide +kernel), List.mem_of_getElem? (i := 784) (by decide +kernel)⟩
theorem lw_p40 : lw_okq (⟨"SpiderLoomModel", "lastOf", "(IIII)I"⟩, 25) := ⟨⟨by decide +kernel, by decide +kernel⟩, List.mem_of_getElem? (i := 518) (by decide +kernel), List.mem_of_getElem? (i := 791) (by decide +kernel), List.mem_of_getElem? (i := 792) (by decide +kernel)⟩
theorem lw_p41 : lw_okq (⟨"SpiderLoomModel", "twoOf", "(IIIII)I"⟩, 25) := ⟨⟨by decide +kernel, by decide +kernel⟩, List.mem_of_getElem? (i := 518) (by decide +kernel), List.mem_of_getElem? (i := 802) (by decide +kernel), List.mem_of_getElem? (i := 803) (by decide +kernel)⟩
theorem lw_p42 : lw_okq (⟨"SpiderLoomModel", "fitsNow", "()I"⟩, 25) := ⟨⟨by decide +kernel, by decide +kernel⟩, List.mem_of_getElem? (i := 518) (by decide +kernel), List.mem_of_getElem? (i := 818) (by decide +kernel), List.mem_of_getElem? (i := 819) (by decide +kernel)⟩
theorem lw_p43 : lw_okq (⟨"SpiderLoomModel", "tellsNow", "()I"⟩, 25) := ⟨⟨by decide +kernel, by decide +kernel⟩, List.mem_of_getElem? (i := 518) (by decide +kernel), List.mem_of_getElem? (i := 826) (by decide +kernel), List.mem_of_getElem? (i := 827) (by decide +kernel)⟩
theorem lw_p44 : lw_okq (⟨"SpiderLoomModel", "unlikeFrom", "(II)I"⟩, 25) := ⟨⟨by decide +kernel, by decide +kernel⟩, List.mem_of_getElem? (i := 518) (by decide +kernel), List.mem_of_getElem? (i := 830) (by decide +kernel), List.mem_of_getElem? (i := 831) (by decide +kernel)⟩
theorem lw_p45 : lw_okq (⟨"SpiderLoomModel", "areAlike", "(II)Z"⟩, 25) := ⟨⟨by decide +kernel, by decide +kernel⟩, List.mem_of_getElem? (i := 518) (by decide +kernel), List.mem_of_getElem? (i := 834) (by decide +kernel), List.mem_of_getElem? (i := 835) (by decide +kernel)⟩
theorem lw_p46 : lw_okq (⟨"SpiderLoomModel", "fliesOf", "(IIII)I"⟩, 25) := ⟨⟨by decide +kernel, by decide +kernel⟩, List.mem_of_getElem? (i := 518) (by decide +kernel), List.mem_of_getElem? (i := 842) (by decide +kernel), List.mem_of_getElem? (i := 843) (by decide +kernel)⟩
theorem lw_p47 : lw_okq (⟨"SpiderLoomModel", "dewOf", "(III)I"⟩, 25) := ⟨⟨by decide +kernel, by decide +kernel⟩, List.mem_of_getElem? (i := 518) (by decide +kernel), List.mem_of_getElem? (i := 851) (by decide +kernel), List.mem_of_getElem? (i := 852) (by decide +kernel)⟩
def lw_privs_3 : List (MethodName × Nat) := [(⟨"SpiderLoomModel", "isBetween", "(III)Z"⟩, 25), (⟨"SpiderLoomModel", "hangsOf", "(III)I"⟩, 25), (⟨"SpiderLoomModel", "indexOf", "(I)I"⟩, 25), (⟨"SpiderLoomModel", "piecesOf", "(III)I"⟩, 25), (⟨"SpiderLoomModel", "turnedOf", "(II)I"⟩, 25), (⟨"SpiderLoomModel", "turns", "(I)V"⟩, 25), (⟨"SpiderLoomModel", "moreOf", "(IIII)I"⟩, 25), (⟨"SpiderLoomModel", "beginOf", "(I)I"⟩, 25), (⟨"SpiderLoomModel", "lastOf", "(IIII)I"⟩, 25), (⟨"SpiderLoomModel", "twoOf", "(IIIII)I"⟩, 25), (⟨"SpiderLoomModel", "fitsNow", "()I"⟩, 25), (⟨"SpiderLoomModel", "tellsNow", "()I"⟩, 25), (⟨"SpiderLoomModel", "unlikeFrom", "(II)I"⟩, 25), (⟨"SpiderLoomModel", "areAlike", "(II)Z"⟩, 25), (⟨"SpiderLoomModel", "fliesOf", "(IIII)I"⟩, 25), (⟨"SpiderLoomModel", "dewOf", "(III)I"⟩, 25)]
theorem lw_r3 : ∀ q ∈ lw_privs_3, lw_okq q := List.forall_mem_cons.mpr ⟨lw_p32, List.forall_mem_cons.mpr ⟨lw_p33, List.forall_mem_cons.mpr ⟨lw_p34, List.forall_mem_cons.mpr ⟨lw_p35, List.forall_mem_cons.mpr ⟨lw_p36, List.forall_mem_cons.mpr ⟨lw_p37, List.forall_mem_cons.mpr ⟨lw_p38, List.forall_mem_cons.mpr ⟨lw_p39, List.forall_mem_cons.mpr ⟨lw_p40, List.forall_mem_cons.mpr ⟨lw_p41, List.forall_mem_cons.mpr ⟨lw_p42, List.forall_mem_cons.mpr ⟨lw_p43, List.forall_mem_cons.mpr ⟨lw_p44, List.forall_mem_cons.mpr ⟨lw_p45, List.forall_mem_cons.mpr ⟨lw_p46, List.forall_mem_cons.mpr ⟨lw_p47, fun _ h => absurd h List.not_mem_nil⟩⟩⟩⟩⟩⟩⟩⟩⟩⟩⟩⟩⟩⟩⟩⟩
theorem lw_p48 : lw_okq (⟨"SpiderLoomModel", "lacks", "(III)I"⟩, 25) := ⟨⟨by decide +kernel, by decide +kernel⟩, List.mem_of_getElem? (i := 518) (by decide +kernel), List.mem_of_getElem? (i := 867) (by decide +kernel), List.mem_of_getElem? (i := 868) (by decide +kernel)⟩
theorem lw_p49 : lw_okq (⟨"SpiderLoomModel", "keep", "(III)V"⟩, 25) := ⟨⟨by decide +kernel, by decide +kernel⟩, List.mem_of_getElem? (i := 518) (by decide +kernel), List.mem_of_getElem? (i := 871) (by decide +kernel), List.mem_of_getElem? (i := 872) (by decide +kernel)⟩
theorem lw_p50 : lw_okq (⟨"SpiderLoomModel", "sumOf", "(I)I"⟩, 25) := ⟨⟨by decide +kernel, by decide +kernel⟩, List.mem_of_getElem? (i := 518) (by decide +kernel), List.mem_of_getElem? (i := 892) (by decide +kernel), List.mem_of_getElem? (i := 893) (by decide +kernel)⟩
def lw_privs_4 : List (MethodName × Nat) := [(⟨"SpiderLoomModel", "lacks", "(III)I"⟩, 25), (⟨"SpiderLoomModel", "keep", "(III)V"⟩, 25), (⟨"SpiderLoomModel", "sumOf", "(I)I"⟩, 25)]
theorem lw_r4 : ∀ q ∈ lw_privs_4, lw_okq q := List.forall_mem_cons.mpr ⟨lw_p48, List.forall_mem_cons.mpr ⟨lw_p49, List.forall_mem_cons.mpr ⟨lw_p50, fun _ h => absurd h List.not_mem_nil⟩⟩⟩
def lw_privs : List (MethodName × Nat) := lw_privs_1 ++ (lw_privs_2 ++ (lw_privs_3 ++ (lw_privs_4)))
def lw_tbl : List Cond := k2_sels lw_privs ++ tables_1
theorem lw_privs_ok : ∀ q ∈ lw_privs, lw_okq q := by
  show ∀ q ∈ lw_privs_1 ++ (lw_privs_2 ++ (lw_privs_3 ++ (lw_privs_4))), lw_okq q
  exact List.forall_mem_append.mpr ⟨lw_r1, List.forall_mem_append.mpr ⟨lw_r2, List.forall_mem_append.mpr ⟨lw_r3, lw_r4⟩⟩⟩
-- ===== end of PART A; then your names; then what follows =====
end
section
/-! the words that are good for a callee: all of lw_tbl that keep -/
def lwg : List Cond := lw_tbl.filter goodWord
theorem lwg_sub {w : Cond} (h : w ∈ lwg) : w ∈ lw_tbl := (List.mem_filter.mp h).1
theorem lwg_good {w : Cond} (h : w ∈ lwg) : goodWord w = true := (List.mem_filter.mp h).2
theorem mem_t (i : Nat) {w : Cond} (h : tables_1[i]? = some w) (hg : goodWord w = true) : w ∈ lwg := List.mem_filter.mpr ⟨List.mem_append_right _ (List.mem_of_getElem? h), hg⟩
theorem mem_s (i : Nat) {q : MethodName × Nat} (h : lw_privs[i]? = some q) : Cond.selects q.1.cls q.1 q.1 ∈ lwg := List.mem_filter.mpr ⟨List.mem_append_left _ (List.mem_map.mpr ⟨q, List.mem_of_getElem? h, rfl⟩), rfl⟩
theorem mem_s2 (i : Nat) {q : MethodName × Nat} {w : Cond} (h : lw_privs[i]? = some q) (hw : w = Cond.selects q.1.cls q.1 q.1) : w ∈ lwg := hw ▸ mem_s i h
theorem mem_s3 (i n : Nat) {y : MethodName} (h : lw_privs[i]? = some (y, n)) : Cond.selects y.cls y y ∈ lwg := mem_s i h
/-! the links to a nest mate's fields -/
def isNestF : Cond → Bool
  | .fieldLinkNest _ _ _ _ _ _ => true
  | _ => false
def nestW : List Cond := tables_1.filter isNestF
theorem mem_n (i : Nat) {w : Cond} (h : tables_1[i]? = some w) (hg : isNestF w = true) : w ∈ nestW := List.mem_filter.mpr ⟨List.mem_of_getElem? h, hg⟩
theorem nest_warm {s U : State} (hW : s.WarmedH U.vm) (h : ∀ w ∈ nestW, va_Nw w s) : ∀ w ∈ nestW, va_Nw w U := by
  intro w hw
  have h1 := h w hw
  have h2 := (List.mem_filter.mp hw).2
  cases w <;> first | exact va_Nw.warmF hW h1 | exact absurd h2 (fun q => by cases q)
theorem nest_same {s U : State} (hv : s.vm = U.vm) (h : ∀ w ∈ nestW, va_Nw w s) : ∀ w ∈ nestW, va_Nw w U := by
  intro w hw
  have h1 := h w hw
  have h2 := (List.mem_filter.mp hw).2
  cases w <;> first | exact va_Nw.same rfl hv h1 | exact absurd h2 (fun q => by cases q)
theorem nest_of {A : Array Value} {s : State} (h : ∀ w ∈ lw_tbl, w.before A s = true) : ∀ w ∈ nestW, va_Nw w s := by
  intro w hw
  have h1 := h w (List.mem_append_right _ (List.mem_filter.mp hw).1)
  have h2 := (List.mem_filter.mp hw).2
  cases w <;> first | exact va_Nw.of rfl h1 | exact absurd h2 (fun q => by cases q)
end
section
def RX0 : String := "SpiderLoom$Frame"
def TX0 : u_T := fun k => match k with
  | 0 => ("SpiderLoom$Frame", "x", "[I", true)
  | 1 => ("SpiderLoom$Frame", "y", "[I", true)
  | _ => ("SpiderLoom$Frame", "size", "I", false)
def tyX0 : Nat → FieldType := fun k => match k with
  | 0 => .array .int
  | 1 => .array .int
  | _ => .int
theorem nmX0 : ∀ a, a < 3 → ∀ b, b < 3 → a ≠ b → (TX0 a).2.1 ≠ (TX0 b).2.1 := by decide +kernel
theorem tyX0_ok : ∀ k, k < 3 → parseFieldDescriptor (TX0 k).2.2.1 = some (tyX0 k) := by decide +kernel
theorem inX0 : ∀ w ∈ u_ws RX0 TX0 3, w ∈ lwg := by
  intro w hw
  obtain ⟨k, hk, rfl⟩ := List.mem_map.mp hw
  have hk := List.mem_range.mp hk
  match k, hk with
  | 0, _ => exact mem_t 47 (by decide +kernel) rfl
  | 1, _ => exact mem_t 49 (by decide +kernel) rfl
  | 2, _ => exact mem_t 51 (by decide +kernel) rfl
  | k + 3, hk => exact absurd hk (by omega)
def RX1 : String := "SpiderLoom$Notes"
def TX1 : u_T := fun k => match k with
  | 0 => ("SpiderLoom$Notes", "from", "[I", true)
  | 1 => ("SpiderLoom$Notes", "turn", "[I", true)
  | 2 => ("SpiderLoom$Notes", "peg", "[I", true)
  | _ => ("SpiderLoom$Notes", "size", "I", false)
def tyX1 : Nat → FieldType := fun k => match k with
  | 0 => .array .int
  | 1 => .array .int
  | 2 => .array .int
  | _ => .int
theorem nmX1 : ∀ a, a < 4 → ∀ b, b < 4 → a ≠ b → (TX1 a).2.1 ≠ (TX1 b).2.1 := by decide +kernel
theorem tyX1_ok : ∀ k, k < 4 → parseFieldDescriptor (TX1 k).2.2.1 = some (tyX1 k) := by decide +kernel
theorem inX1 : ∀ w ∈ u_ws RX1 TX1 4, w ∈ lwg := by
  intro w hw
  obtain ⟨k, hk, rfl⟩ := List.mem_map.mp hw
  have hk := List.mem_range.mp hk
  match k, hk with
  | 0, _ => exact mem_t 70 (by decide +kernel) rfl
  | 1, _ => exact mem_t 72 (by decide +kernel) rfl
  | 2, _ => exact mem_t 74 (by decide +kernel) rfl
  | 3, _ => exact mem_t 76 (by decide +kernel) rfl
  | k + 4, hk => exact absurd hk (by omega)
def RX2 : String := "SpiderLoom$Sheet"
def TX2 : u_T := fun k => match k with
  | 0 => ("SpiderLoom$Sheet", "items", "[I", true)
  | 1 => ("SpiderLoom$Sheet", "lost", "Z", false)
  | 2 => ("SpiderLoom$Sheet", "form", "I", false)
  | _ => ("SpiderLoom$Sheet", "size", "I", false)
def tyX2 : Nat → FieldType := fun k => match k with
  | 0 => .array .int
  | 1 => .boolean
  | 2 => .int
  | _ => .int
theorem nmX2 : ∀ a, a < 4 → ∀ b, b < 4 → a ≠ b → (TX2 a).2.1 ≠ (TX2 b).2.1 := by decide +kernel
theorem tyX2_ok : ∀ k, k < 4 → parseFieldDescriptor (TX2 k).2.2.1 = some (tyX2 k) := by decide +kernel
theorem inX2 : ∀ w ∈ u_ws RX2 TX2 4, w ∈ lwg := by
  intro w hw
  obtain ⟨k, hk, rfl⟩ := List.mem_map.mp hw
  have hk := List.mem_range.mp hk
  match k, hk with
  | 0, _ => exact mem_t 120 (by decide +kernel) rfl
  | 1, _ => exact mem_t 122 (by decide +kernel) rfl
  | 2, _ => exact mem_t 124 (by decide +kernel) rfl
  | 3, _ => exact mem_t 126 (by decide +kernel) rfl
  | k + 4, hk => exact absurd hk (by omega)
def RX3 : String := "SpiderLoom$Spider"
def TX3 : u_T := fun k => match k with
  | 0 => ("SpiderLoom$Spider", "row", "[I", true)
  | 1 => ("SpiderLoom$Spider", "size", "I", false)
  | 2 => ("SpiderLoom$Spider", "law", "I", false)
  | 3 => ("SpiderLoom$Spider", "way", "I", false)
  | _ => ("SpiderLoom$Spider", "left", "I", false)
def tyX3 : Nat → FieldType := fun k => match k with
  | 0 => .array .int
  | 1 => .int
  | 2 => .int
  | 3 => .int
  | _ => .int
theorem nmX3 : ∀ a, a < 5 → ∀ b, b < 5 → a ≠ b → (TX3 a).2.1 ≠ (TX3 b).2.1 := by decide +kernel
theorem tyX3_ok : ∀ k, k < 5 → parseFieldDescriptor (TX3 k).2.2.1 = some (tyX3 k) := by decide +kernel
theorem inX3 : ∀ w ∈ u_ws RX3 TX3 5, w ∈ lwg := by
  intro w hw
  obtain ⟨k, hk, rfl⟩ := List.mem_map.mp hw
  have hk := List.mem_range.mp hk
  match k, hk with
  | 0, _ => exact mem_t 96 (by decide +kernel) rfl
  | 1, _ => exact mem_t 98 (by decide +kernel) rfl
  | 2, _ => exact mem_t 100 (by decide +kernel) rfl
  | 3, _ => exact mem_t 102 (by decide +kernel) rfl
  | 4, _ => exact mem_t 104 (by decide +kernel) rfl
  | k + 5, hk => exact absurd hk (by omega)
def RX4 : String := "SpiderLoom$Text"
def TX4 : u_T := fun k => match k with
  | 0 => ("SpiderLoom$Text", "bytes", "[I", true)
  | _ => ("SpiderLoom$Text", "size", "I", false)
def tyX4 : Nat → FieldType := fun k => match k with
  | 0 => .array .int
  | _ => .int
theorem nmX4 : ∀ a, a < 2 → ∀ b, b < 2 → a ≠ b → (TX4 a).2.1 ≠ (TX4 b).2.1 := by decide +kernel
theorem tyX4_ok : ∀ k, k < 2 → parseFieldDescriptor (TX4 k).2.2.1 = some (tyX4 k) := by decide +kernel
theorem inX4 : ∀ w ∈ u_ws RX4 TX4 2, w ∈ lwg := by
  intro w hw
  obtain ⟨k, hk, rfl⟩ := List.mem_map.mp hw
  have hk := List.mem_range.mp hk
  match k, hk with
  | 0, _ => exact mem_t 28 (by decide +kernel) rfl
  | 1, _ => exact mem_t 30 (by decide +kernel) rfl
  | k + 2, hk => exact absurd hk (by omega)
def RX5 : String := "SpiderLoom"
def TX5 : u_T := fun k => match k with
  | 0 => ("SpiderLoom", "text", "LSpiderLoom$Text;", true)
  | 1 => ("SpiderLoom", "frame", "LSpiderLoom$Frame;", true)
  | 2 => ("SpiderLoom", "otherFrame", "LSpiderLoom$Frame;", true)
  | 3 => ("SpiderLoom", "spiders", "[LSpiderLoom$Spider;", true)
  | 4 => ("SpiderLoom", "notes", "LSpiderLoom$Notes;", true)
  | 5 => ("SpiderLoom", "sheets", "[LSpiderLoom$Sheet;", true)
  | 6 => ("SpiderLoom", "faultPlace", "I", false)
  | 7 => ("SpiderLoom", "hidden", "I", false)
  | 8 => ("SpiderLoom", "thread", "I", false)
  | 9 => ("SpiderLoom", "hunger", "I", false)
  | 10 => ("SpiderLoom", "reach", "I", false)
  | _ => ("SpiderLoom", "latestFinding", "I", false)
def tyX5 : Nat → FieldType := fun k => match k with
  | 0 => .object "SpiderLoom$Text"
  | 1 => .object "SpiderLoom$Frame"
  | 2 => .object "SpiderLoom$Frame"
  | 3 => .array (.object "SpiderLoom$Spider")
  | 4 => .object "SpiderLoom$Notes"
  | 5 => .array (.object "SpiderLoom$Sheet")
  | 6 => .int
  | 7 => .int
  | 8 => .int
  | 9 => .int
  | 10 => .int
  | _ => .int
theorem nmX5 : ∀ a, a < 12 → ∀ b, b < 12 → a ≠ b → (TX5 a).2.1 ≠ (TX5 b).2.1 := by decide +kernel
theorem tyX5_ok : ∀ k, k < 12 → parseFieldDescriptor (TX5 k).2.2.1 = some (tyX5 k) := by decide +kernel
theorem inX5 : ∀ w ∈ u_ws RX5 TX5 12, w ∈ lwg := by
  intro w hw
  obtain ⟨k, hk, rfl⟩ := List.mem_map.mp hw
  have hk := List.mem_range.mp hk
  match k, hk with
  | 0, _ => exact mem_t 141 (by decide +kernel) rfl
  | 1, _ => exact mem_t 143 (by decide +kernel) rfl
  | 2, _ => exact mem_t 145 (by decide +kernel) rfl
  | 3, _ => exact mem_t 147 (by decide +kernel) rfl
  | 4, _ => exact mem_t 149 (by decide +kernel) rfl
  | 5, _ => exact mem_t 151 (by decide +kernel) rfl
  | 6, _ => exact mem_t 153 (by decide +kernel) rfl
  | 7, _ => exact mem_t 155 (by decide +kernel) rfl
  | 8, _ => exact mem_t 157 (by decide +kernel) rfl
  | 9, _ => exact mem_t 159 (by decide +kernel) rfl
  | 10, _ => exact mem_t 161 (by decide +kernel) rfl
  | 11, _ => exact mem_t 163 (by decide +kernel) rfl
  | k + 12, hk => exact absurd hk (by omega)
def RX6 : String := "SpiderLoomModel"
def TX6 : u_T := fun k => match k with
  | 0 => ("SpiderLoomModel", "text", "[I", true)
  | 1 => ("SpiderLoomModel", "typed", "I", false)
  | 2 => ("SpiderLoomModel", "pegs", "I", false)
  | 3 => ("SpiderLoomModel", "xs", "[I", true)
  | 4 => ("SpiderLoomModel", "ys", "[I", true)
  | 5 => ("SpiderLoomModel", "hidden", "I", false)
  | 6 => ("SpiderLoomModel", "threads", "I", false)
  | 7 => ("SpiderLoomModel", "hunger", "I", false)
  | 8 => ("SpiderLoomModel", "reach", "I", false)
  | 9 => ("SpiderLoomModel", "row", "[I", true)
  | 10 => ("SpiderLoomModel", "rowMany", "I", false)
  | 11 => ("SpiderLoomModel", "rowLong", "I", false)
  | 12 => ("SpiderLoomModel", "rowLeft", "I", false)
  | 13 => ("SpiderLoomModel", "other", "[I", true)
  | 14 => ("SpiderLoomModel", "sights", "I", false)
  | 15 => ("SpiderLoomModel", "seenFrom", "[I", true)
  | 16 => ("SpiderLoomModel", "seenAs", "[I", true)
  | 17 => ("SpiderLoomModel", "seenPeg", "[I", true)
  | 18 => ("SpiderLoomModel", "webs", "[I", true)
  | 19 => ("SpiderLoomModel", "isThere", "[Z", true)
  | 20 => ("SpiderLoomModel", "forms", "[I", true)
  | 21 => ("SpiderLoomModel", "sizes", "[I", true)
  | 22 => ("SpiderLoomModel", "items", "[I", true)
  | 23 => ("SpiderLoomModel", "moved", "[I", true)
  | _ => ("SpiderLoomModel", "finding", "I", false)
def tyX6 : Nat → FieldType := fun k => match k with
  | 0 => .array .int
  | 1 => .int
  | 2 => .int
  | 3 => .array .int
  | 4 => .array .int
  | 5 => .int
  | 6 => .int
  | 7 => .int
  | 8 => .int
  | 9 => .array .int
  | 10 => .int
  | 11 => .int
  | 12 => .int
  | 13 => .array .int
  | 14 => .int
  | 15 => .array .int
  | 16 => .array .int
  | 17 => .array .int
  | 18 => .array .int
  | 19 => .array .boolean
  | 20 => .array .int
  | 21 => .array .int
  | 22 => .array .int
  | 23 => .array .int
  | _ => .int
theorem nmX6 : ∀ a, a < 25 → ∀ b, b < 25 → a ≠ b → (TX6 a).2.1 ≠ (TX6 b).2.1 := by decide +kernel
theorem tyX6_ok : ∀ k, k < 25 → parseFieldDescriptor (TX6 k).2.2.1 = some (tyX6 k) := by decide +kernel
theorem inX6 : ∀ w ∈ u_ws RX6 TX6 25, w ∈ lwg := by
  intro w hw
  obtain ⟨k, hk, rfl⟩ := List.mem_map.mp hw
  have hk := List.mem_range.mp hk
  match k, hk with
  | 0, _ => exact mem_t 548 (by decide +kernel) rfl
  | 1, _ => exact mem_t 550 (by decide +kernel) rfl
  | 2, _ => exact mem_t 552 (by decide +kernel) rfl
  | 3, _ => exact mem_t 554 (by decide +kernel) rfl
  | 4, _ => exact mem_t 556 (by decide +kernel) rfl
  | 5, _ => exact mem_t 558 (by decide +kernel) rfl
  | 6, _ => exact mem_t 560 (by decide +kernel) rfl
  | 7, _ => exact mem_t 562 (by decide +kernel) rfl
  | 8, _ => exact mem_t 564 (by decide +kernel) rfl
  | 9, _ => exact mem_t 566 (by decide +kernel) rfl
  | 10, _ => exact mem_t 568 (by decide +kernel) rfl
  | 11, _ => exact mem_t 570 (by decide +kernel) rfl
  | 12, _ => exact mem_t 572 (by decide +kernel) rfl
  | 13, _ => exact mem_t 574 (by decide +kernel) rfl
  | 14, _ => exact mem_t 576 (by decide +kernel) rfl
  | 15, _ => exact mem_t 578 (by decide +kernel) rfl
  | 16, _ => exact mem_t 580 (by decide +kernel) rfl
  | 17, _ => exact mem_t 582 (by decide +kernel) rfl
  | 18, _ => exact mem_t 584 (by decide +kernel) rfl
  | 19, _ => exact mem_t 586 (by decide +kernel) rfl
  | 20, _ => exact mem_t 588 (by decide +kernel) rfl
  | 21, _ => exact mem_t 590 (by decide +kernel) rfl
  | 22, _ => exact mem_t 592 (by decide +kernel) rfl
  | 23, _ => exact mem_t 594 (by decide +kernel) rfl
  | 24, _ => exact mem_t 596 (by decide +kernel) rfl
  | k + 25, hk => exact absurd hk (by omega)
abbrev classes : List vw_C := [(RX0, TX0, 3), (RX1, TX1, 4), (RX2, TX2, 4), (RX3, TX3, 5), (RX4, TX4, 2), (RX5, TX5, 12), (RX6, TX6, 25)]
abbrev Mt : Type := MethodName × ByteArray × Nat × Option FieldType × Nat × Nat
def m_C_init : Mt := (⟨"SpiderLoom", "<init>", "()V"⟩, prog_1_method_1_code, 2, none, 2, 40)
def m_Tx_init : Mt := (⟨"SpiderLoom$Text", "<init>", "()V"⟩, prog_6_method_1_code, 1, none, 1, 20)
def m_Fr_init : Mt := (⟨"SpiderLoom$Frame", "<init>", "()V"⟩, prog_2_method_1_code, 1, none, 1, 20)
def m_No_init : Mt := (⟨"SpiderLoom$Notes", "<init>", "()V"⟩, prog_3_method_1_code, 1, none, 1, 20)
def m_Sp_init : Mt := (⟨"SpiderLoom$Spider", "<init>", "()V"⟩, prog_5_method_1_code, 1, none, 1, 20)
def m_Sh_init : Mt := (⟨"SpiderLoom$Sheet", "<init>", "()V"⟩, prog_4_method_1_code, 1, none, 1, 20)
def m_C_type : Mt := (⟨"SpiderLoom", "type", "(I)I"⟩, prog_1_method_2_code, 2, (some FieldType.int), 3, 68)
def m_Tx_append : Mt := (⟨"SpiderLoom$Text", "append", "(I)V"⟩, prog_6_method_2_code, 2, none, 0, 0)
def m_Tx_pegsTo : Mt := (⟨"SpiderLoom$Text", "pegsTo", "(LSpiderLoom$Frame;)I"⟩, prog_6_method_4_code, 3, (some FieldType.int), 2, 46)
def m_Tx_goesOn : Mt := (⟨"SpiderLoom$Text", "goesOn", "(LSpiderLoom$Frame;I)Z"⟩, prog_6_method_5_code, 4, (some FieldType.boolean), 1, 23)
def m_Fr_isTaken : Mt := (⟨"SpiderLoom$Frame", "isTaken", "(II)Z"⟩, prog_2_method_5_code, 4, (some FieldType.boolean), 0, 0)
def m_Fr_add : Mt := (⟨"SpiderLoom$Frame", "add", "(II)V"⟩, prog_2_method_4_code, 3, none, 0, 0)
def m_C_wipe : Mt := (⟨"SpiderLoom", "wipe", "()I"⟩, prog_1_method_3_code, 2, (some FieldType.int), 3, 68)
def m_Tx_shorten : Mt := (⟨"SpiderLoom$Text", "shorten", "(I)V"⟩, prog_6_method_3_code, 2, none, 0, 0)
def m_C_undo : Mt := (⟨"SpiderLoom", "undo", "()I"⟩, prog_1_method_4_code, 1, (some FieldType.int), 3, 68)
def m_C_fault : Mt := (⟨"SpiderLoom", "fault", "()I"⟩, prog_1_method_5_code, 1, (some FieldType.int), 0, 0)
def m_C_peg : Mt := (⟨"SpiderLoom", "peg", "(II)I"⟩, prog_1_method_6_code, 3, (some FieldType.int), 1, 21)
def m_Fr_has : Mt := (⟨"SpiderLoom$Frame", "has", "(I)Z"⟩, prog_2_method_2_code, 2, (some FieldType.boolean), 0, 0)
def m_C_isHidden : Mt := (⟨"SpiderLoom", "isHidden", "(I)Z"⟩, prog_1_method_40_code, 2, (some FieldType.boolean), 0, 0)
def m_C_hide : Mt := (⟨"SpiderLoom", "hide", "(II)I"⟩, prog_1_method_7_code, 4, (some FieldType.int), 1, 22)
def m_C_setHidden : Mt := (⟨"SpiderLoom", "setHidden", "(II)V"⟩, prog_1_method_41_code, 3, none, 0, 0)
def m_C_set : Mt := (⟨"SpiderLoom", "set", "(II)I"⟩, prog_1_method_8_code, 4, (some FieldType.int), 0, 0)
def m_C_read : Mt := (⟨"SpiderLoom", "read", "(I)I"⟩, prog_1_method_9_code, 6, (some FieldType.int), 1, 22)
def m_C_isSheet : Mt := (⟨"SpiderLoom", "isSheet", "(I)Z"⟩, prog_1_method_38_code, 1, (some FieldType.boolean), 0, 0)
def m_C_found : Mt := (⟨"SpiderLoom", "found", "(I)I"⟩, prog_1_method_42_code, 2, (some FieldType.int), 0, 0)
def m_Ma_min : Mt := (⟨"java/lang/Math", "min", "(II)I"⟩, prog_10_method_69_code, 2, (some FieldType.int), 0, 0)
def m_C_far : Mt := (⟨"SpiderLoom", "far", "(II)I"⟩, prog_1_method_10_code, 3, (some FieldType.int), 2, 42)
def m_Fr_apart : Mt := (⟨"SpiderLoom$Frame", "apart", "(II)I"⟩, prog_2_method_8_code, 3, (some FieldType.int), 1, 20)
def m_Ma_abs : Mt := (⟨"java/lang/Math", "abs", "(I)I"⟩, prog_10_method_59_code, 1, (some FieldType.int), 0, 0)
def m_C_web : Mt := (⟨"SpiderLoom", "web", "(III)I"⟩, prog_1_method_11_code, 5, (some FieldType.int), 4, 97)
def m_C_canBeTold : Mt := (⟨"SpiderLoom", "canBeTold", "(II)Z"⟩, prog_1_method_39_code, 3, (some FieldType.boolean), 1, 21)
def m_C_isLaw : Mt := (⟨"SpiderLoom", "isLaw", "(I)Z"⟩, prog_1_method_36_code, 1, (some FieldType.boolean), 0, 0)
def m_C_lay : Mt := (⟨"SpiderLoom", "lay", "(LSpiderLoom$Spider;LSpiderLoom$Frame;III)LSpiderLoom$Spider;"⟩, prog_1_method_44_code, 9, (some (FieldType.object "SpiderLoom$Spider")), 3, 69)
def m_Sp_startAt : Mt := (⟨"SpiderLoom$Spider", "startAt", "(III)V"⟩, prog_5_method_2_code, 4, none, 0, 0)
def m_Fr_all : Mt := (⟨"SpiderLoom$Frame", "all", "()I"⟩, prog_2_method_3_code, 1, (some FieldType.int), 0, 0)
def m_Sp_here : Mt := (⟨"SpiderLoom$Spider", "here", "()I"⟩, prog_5_method_3_code, 1, (some FieldType.int), 0, 0)
def m_Fr_choose : Mt := (⟨"SpiderLoom$Frame", "choose", "(III)I"⟩, prog_2_method_11_code, 8, (some FieldType.int), 2, 42)
def m_Fr_behindByNumbers : Mt := (⟨"SpiderLoom$Frame", "behindByNumbers", "(II)I"⟩, prog_2_method_12_code, 2, (some FieldType.int), 0, 0)
def m_Fr_behindByRows : Mt := (⟨"SpiderLoom$Frame", "behindByRows", "(II)I"⟩, prog_2_method_13_code, 4, (some FieldType.int), 0, 0)
def m_Sp_goOn : Mt := (⟨"SpiderLoom$Spider", "goOn", "(III)Z"⟩, prog_5_method_4_code, 4, (some FieldType.boolean), 0, 0)
def m_C_length : Mt := (⟨"SpiderLoom", "length", "(III)I"⟩, prog_1_method_12_code, 5, (some FieldType.int), 4, 97)
def m_C_crosses : Mt := (⟨"SpiderLoom", "crosses", "(II)I"⟩, prog_1_method_13_code, 7, (some FieldType.int), 4, 97)
def m_Fr_meet : Mt := (⟨"SpiderLoom$Frame", "meet", "(IIII)Z"⟩, prog_2_method_14_code, 5, (some FieldType.boolean), 2, 44)
def m_Fr_overlap : Mt := (⟨"SpiderLoom$Frame", "overlap", "(IIII)Z"⟩, prog_2_method_15_code, 4, (some FieldType.boolean), 1, 21)
def m_Ma_max : Mt := (⟨"java/lang/Math", "max", "(II)I"⟩, prog_10_method_65_code, 2, (some FieldType.int), 0, 0)
def m_Fr_side : Mt := (⟨"SpiderLoom$Frame", "side", "(III)I"⟩, prog_2_method_16_code, 4, (some FieldType.int), 0, 0)
def m_C_hangs : Mt := (⟨"SpiderLoom", "hangs", "(III)I"⟩, prog_1_method_14_code, 4, (some FieldType.int), 4, 97)
def m_C_neighbours : Mt := (⟨"SpiderLoom", "neighbours", "(LSpiderLoom$Spider;I)I"⟩, prog_1_method_46_code, 3, (some FieldType.int), 1, 22)
def m_Sp_placeOf : Mt := (⟨"SpiderLoom$Spider", "placeOf", "(I)I"⟩, prog_5_method_5_code, 3, (some FieldType.int), 0, 0)
def m_C_pieces : Mt := (⟨"SpiderLoom", "pieces", "(III)I"⟩, prog_1_method_15_code, 5, (some FieldType.int), 4, 97)
def m_C_turned : Mt := (⟨"SpiderLoom", "turned", "(II)I"⟩, prog_1_method_16_code, 5, (some FieldType.int), 4, 97)
def m_Fr_becomeTurned : Mt := (⟨"SpiderLoom$Frame", "becomeTurned", "(LSpiderLoom$Frame;)V"⟩, prog_2_method_7_code, 3, none, 1, 22)
def m_Sp_hasRowOf : Mt := (⟨"SpiderLoom$Spider", "hasRowOf", "(LSpiderLoom$Spider;)Z"⟩, prog_5_method_6_code, 3, (some FieldType.boolean), 0, 0)
def m_C_more : Mt := (⟨"SpiderLoom", "more", "(IIII)I"⟩, prog_1_method_17_code, 5, (some FieldType.int), 4, 97)
def m_Fr_become : Mt := (⟨"SpiderLoom$Frame", "become", "(LSpiderLoom$Frame;)V"⟩, prog_2_method_6_code, 3, none, 1, 22)
def m_C_begin : Mt := (⟨"SpiderLoom", "begin", "(I)I"⟩, prog_1_method_18_code, 7, (some FieldType.int), 4, 97)
def m_C_last : Mt := (⟨"SpiderLoom", "last", "(IIII)I"⟩, prog_1_method_19_code, 6, (some FieldType.int), 5, 125)
def m_C_fewestHiddenFor : Mt := (⟨"SpiderLoom", "fewestHiddenFor", "(III)I"⟩, prog_1_method_47_code, 9, (some FieldType.int), 4, 97)
def m_In_bitCount : Mt := (⟨"java/lang/Integer", "bitCount", "(I)I"⟩, prog_9_method_49_code, 1, (some FieldType.int), 0, 0)
def m_C_two : Mt := (⟨"SpiderLoom", "two", "(IIIII)I"⟩, prog_1_method_20_code, 9, (some FieldType.int), 4, 97)
def m_C_stepInTurn : Mt := (⟨"SpiderLoom", "stepInTurn", "(LSpiderLoom$Spider;LSpiderLoom$Spider;)I"⟩, prog_1_method_45_code, 9, (some FieldType.int), 3, 69)
def m_C_seen : Mt := (⟨"SpiderLoom", "seen", "(III)I"⟩, prog_1_method_21_code, 4, (some FieldType.int), 1, 23)
def m_No_add : Mt := (⟨"SpiderLoom$Notes", "add", "(III)V"⟩, prog_3_method_2_code, 4, none, 0, 0)
def m_C_forget : Mt := (⟨"SpiderLoom", "forget", "()I"⟩, prog_1_method_22_code, 2, (some FieldType.int), 0, 0)
def m_C_fits : Mt := (⟨"SpiderLoom", "fits", "()I"⟩, prog_1_method_23_code, 3, (some FieldType.int), 5, 122)
def m_C_comesOut : Mt := (⟨"SpiderLoom", "comesOut", "(I)Z"⟩, prog_1_method_48_code, 6, (some FieldType.boolean), 4, 97)
def m_C_tells : Mt := (⟨"SpiderLoom", "tells", "()I"⟩, prog_1_method_24_code, 6, (some FieldType.int), 6, 144)
def m_C_unlikeWebs : Mt := (⟨"SpiderLoom", "unlikeWebs", "(II)I"⟩, prog_1_method_49_code, 8, (some FieldType.int), 4, 97)
def m_C_flies : Mt := (⟨"SpiderLoom", "flies", "(IIII)I"⟩, prog_1_method_25_code, 11, (some FieldType.int), 4, 97)
def m_C_nextLot : Mt := (⟨"SpiderLoom", "nextLot", "(I)I"⟩, prog_1_method_50_code, 1, (some FieldType.int), 0, 0)
def m_C_placeByLot : Mt := (⟨"SpiderLoom", "placeByLot", "(I)I"⟩, prog_1_method_51_code, 1, (some FieldType.int), 0, 0)
def m_C_isCaught : Mt := (⟨"SpiderLoom", "isCaught", "(LSpiderLoom$Spider;II)Z"⟩, prog_1_method_52_code, 5, (some FieldType.boolean), 2, 43)
def m_Fr_apartFrom : Mt := (⟨"SpiderLoom$Frame", "apartFrom", "(III)I"⟩, prog_2_method_9_code, 4, (some FieldType.int), 1, 20)
def m_C_dew : Mt := (⟨"SpiderLoom", "dew", "(III)I"⟩, prog_1_method_26_code, 7, (some FieldType.int), 4, 97)
def m_C_sheet : Mt := (⟨"SpiderLoom", "sheet", "(III)I"⟩, prog_1_method_27_code, 4, (some FieldType.int), 2, 44)
def m_C_isForm : Mt := (⟨"SpiderLoom", "isForm", "(I)Z"⟩, prog_1_method_37_code, 1, (some FieldType.boolean), 0, 0)
def m_Sh_renew : Mt := (⟨"SpiderLoom$Sheet", "renew", "(II)V"⟩, prog_4_method_2_code, 4, none, 1, 21)
def m_C_lose : Mt := (⟨"SpiderLoom", "lose", "(I)I"⟩, prog_1_method_28_code, 2, (some FieldType.int), 1, 21)
def m_C_put : Mt := (⟨"SpiderLoom", "put", "(IIII)I"⟩, prog_1_method_29_code, 6, (some FieldType.int), 2, 45)
def m_C_refusalOfItem : Mt := (⟨"SpiderLoom", "refusalOfItem", "(III)I"⟩, prog_1_method_43_code, 5, (some FieldType.int), 1, 21)
def m_Sh_store : Mt := (⟨"SpiderLoom$Sheet", "store", "(II)V"⟩, prog_4_method_3_code, 3, none, 0, 0)
def m_C_get : Mt := (⟨"SpiderLoom", "get", "(III)I"⟩, prog_1_method_30_code, 4, (some FieldType.int), 2, 45)
def m_C_copy : Mt := (⟨"SpiderLoom", "copy", "(IIIII)I"⟩, prog_1_method_31_code, 8, (some FieldType.int), 1, 80)
def m_Sh_hasRun : Mt := (⟨"SpiderLoom$Sheet", "hasRun", "(II)Z"⟩, prog_4_method_4_code, 3, (some FieldType.boolean), 0, 0)
def m_C_write : Mt := (⟨"SpiderLoom", "write", "(III)I"⟩, prog_1_method_32_code, 8, (some FieldType.int), 4, 97)
def m_C_count : Mt := (⟨"SpiderLoom", "count", "(I)I"⟩, prog_1_method_33_code, 2, (some FieldType.int), 3, 65)
def m_Fr_apartOfAllPairs : Mt := (⟨"SpiderLoom$Frame", "apartOfAllPairs", "()I"⟩, prog_2_method_10_code, 4, (some FieldType.int), 2, 42)
def m_C_digest : Mt := (⟨"SpiderLoom", "digest", "()J"⟩, prog_1_method_34_code, 5, (some FieldType.long), 7, 169)
def m_C_mixWeb : Mt := (⟨"SpiderLoom", "mixWeb", "(JII)J"⟩, prog_1_method_35_code, 8, (some FieldType.long), 5, 127)
def m_M_init : Mt := (⟨"SpiderLoomModel", "<init>", "()V"⟩, prog_8_method_1_code, 1, none, 1, 20)
def m_M_type : Mt := (⟨"SpiderLoomModel", "type", "(I)I"⟩, prog_8_method_7_code, 2, (some FieldType.int), 1, 22)
def m_M_in : Mt := (⟨"SpiderLoomModel", "in", "(III)Z"⟩, prog_8_method_3_code, 3, (some FieldType.boolean), 0, 0)
def m_M_wipe : Mt := (⟨"SpiderLoomModel", "wipe", "()I"⟩, prog_8_method_8_code, 2, (some FieldType.int), 0, 0)
def m_M_undo : Mt := (⟨"SpiderLoomModel", "undo", "()I"⟩, prog_8_method_9_code, 1, (some FieldType.int), 0, 0)
def m_M_fault : Mt := (⟨"SpiderLoomModel", "fault", "()I"⟩, prog_8_method_13_code, 1, (some FieldType.int), 3, 68)
def m_M_faultNow : Mt := (⟨"SpiderLoomModel", "faultNow", "()I"⟩, prog_8_method_12_code, 5, (some FieldType.int), 2, 44)
def m_M_figureAt : Mt := (⟨"SpiderLoomModel", "figureAt", "(I)I"⟩, prog_8_method_10_code, 3, (some FieldType.int), 1, 22)
def m_M_isTaken : Mt := (⟨"SpiderLoomModel", "isTaken", "(III)Z"⟩, prog_8_method_11_code, 6, (some FieldType.boolean), 0, 0)
def m_M_peg : Mt := (⟨"SpiderLoomModel", "peg", "(II)I"⟩, prog_8_method_18_code, 3, (some FieldType.int), 4, 90)
def m_M_isPeg : Mt := (⟨"SpiderLoomModel", "isPeg", "(I)Z"⟩, prog_8_method_14_code, 3, (some FieldType.boolean), 3, 68)
def m_M_pegOf : Mt := (⟨"SpiderLoomModel", "pegOf", "(II)I"⟩, prog_8_method_17_code, 3, (some FieldType.int), 0, 0)
def m_M_hide : Mt := (⟨"SpiderLoomModel", "hide", "(II)I"⟩, prog_8_method_19_code, 4, (some FieldType.int), 2, 42)
def m_M_isTen : Mt := (⟨"SpiderLoomModel", "isTen", "(I)Z"⟩, prog_8_method_15_code, 1, (some FieldType.boolean), 1, 22)
def m_M_set : Mt := (⟨"SpiderLoomModel", "set", "(II)I"⟩, prog_8_method_20_code, 4, (some FieldType.int), 1, 22)
def m_M_read : Mt := (⟨"SpiderLoomModel", "read", "(I)I"⟩, prog_8_method_21_code, 3, (some FieldType.int), 2, 42)
def m_M_isSheet : Mt := (⟨"SpiderLoomModel", "isSheet", "(I)Z"⟩, prog_8_method_67_code, 1, (some FieldType.boolean), 1, 22)
def m_M_meets : Mt := (⟨"SpiderLoomModel", "meets", "(I)I"⟩, prog_8_method_66_code, 2, (some FieldType.int), 0, 0)
def m_M_far : Mt := (⟨"SpiderLoomModel", "far", "(II)I"⟩, prog_8_method_23_code, 3, (some FieldType.int), 4, 90)
def m_M_farOf : Mt := (⟨"SpiderLoomModel", "farOf", "(II)I"⟩, prog_8_method_22_code, 3, (some FieldType.int), 1, 21)
def m_M_apart : Mt := (⟨"SpiderLoomModel", "apart", "(II)I"⟩, prog_8_method_6_code, 2, (some FieldType.int), 0, 0)
def m_M_web : Mt := (⟨"SpiderLoomModel", "web", "(III)I"⟩, prog_8_method_30_code, 4, (some FieldType.int), 5, 120)
def m_M_isWeb : Mt := (⟨"SpiderLoomModel", "isWeb", "(II)Z"⟩, prog_8_method_28_code, 3, (some FieldType.boolean), 4, 90)
def m_M_isLaw : Mt := (⟨"SpiderLoomModel", "isLaw", "(I)Z"⟩, prog_8_method_16_code, 1, (some FieldType.boolean), 1, 22)
def m_M_webOf : Mt := (⟨"SpiderLoomModel", "webOf", "(III)I"⟩, prog_8_method_29_code, 4, (some FieldType.int), 4, 97)
def m_M_isHidden : Mt := (⟨"SpiderLoomModel", "isHidden", "(I)Z"⟩, prog_8_method_27_code, 2, (some FieldType.boolean), 1, 21)
def m_M_isIn : Mt := (⟨"SpiderLoomModel", "isIn", "(II)Z"⟩, prog_8_method_4_code, 2, (some FieldType.boolean), 0, 0)
def m_M_lays : Mt := (⟨"SpiderLoomModel", "lays", "(III)V"⟩, prog_8_method_26_code, 7, none, 3, 71)
def m_M_nextOf : Mt := (⟨"SpiderLoomModel", "nextOf", "(III)I"⟩, prog_8_method_25_code, 9, (some FieldType.int), 2, 43)
def m_M_place : Mt := (⟨"SpiderLoomModel", "place", "(I)I"⟩, prog_8_method_24_code, 2, (some FieldType.int), 0, 0)
def m_M_length : Mt := (⟨"SpiderLoomModel", "length", "(III)I"⟩, prog_8_method_32_code, 4, (some FieldType.int), 5, 120)
def m_M_lengthOf : Mt := (⟨"SpiderLoomModel", "lengthOf", "(III)I"⟩, prog_8_method_31_code, 4, (some FieldType.int), 4, 97)
def m_M_crosses : Mt := (⟨"SpiderLoomModel", "crosses", "(II)I"⟩, prog_8_method_37_code, 3, (some FieldType.int), 5, 122)
def m_M_crossesOf : Mt := (⟨"SpiderLoomModel", "crossesOf", "(II)I"⟩, prog_8_method_36_code, 6, (some FieldType.int), 4, 97)
def m_M_doMeet : Mt := (⟨"SpiderLoomModel", "doMeet", "(IIII)Z"⟩, prog_8_method_35_code, 10, (some FieldType.boolean), 3, 66)
def m_M_hand : Mt := (⟨"SpiderLoomModel", "hand", "(III)I"⟩, prog_8_method_33_code, 5, (some FieldType.int), 0, 0)
def m_M_isBetween : Mt := (⟨"SpiderLoomModel", "isBetween", "(III)Z"⟩, prog_8_method_34_code, 4, (some FieldType.boolean), 2, 43)
def m_M_hangs : Mt := (⟨"SpiderLoomModel", "hangs", "(III)I"⟩, prog_8_method_40_code, 4, (some FieldType.int), 5, 121)
def m_M_hangsOf : Mt := (⟨"SpiderLoomModel", "hangsOf", "(III)I"⟩, prog_8_method_39_code, 5, (some FieldType.int), 4, 97)
def m_M_indexOf : Mt := (⟨"SpiderLoomModel", "indexOf", "(I)I"⟩, prog_8_method_38_code, 3, (some FieldType.int), 0, 0)
def m_M_pieces : Mt := (⟨"SpiderLoomModel", "pieces", "(III)I"⟩, prog_8_method_42_code, 4, (some FieldType.int), 6, 145)
def m_M_piecesOf : Mt := (⟨"SpiderLoomModel", "piecesOf", "(III)I"⟩, prog_8_method_41_code, 5, (some FieldType.int), 5, 121)
def m_M_turned : Mt := (⟨"SpiderLoomModel", "turned", "(II)I"⟩, prog_8_method_45_code, 3, (some FieldType.int), 5, 122)
def m_M_turnedOf : Mt := (⟨"SpiderLoomModel", "turnedOf", "(II)I"⟩, prog_8_method_44_code, 6, (some FieldType.int), 4, 97)
def m_M_turns : Mt := (⟨"SpiderLoomModel", "turns", "(I)V"⟩, prog_8_method_43_code, 5, none, 0, 0)
def m_M_more : Mt := (⟨"SpiderLoomModel", "more", "(IIII)I"⟩, prog_8_method_47_code, 5, (some FieldType.int), 5, 121)
def m_M_moreOf : Mt := (⟨"SpiderLoomModel", "moreOf", "(IIII)I"⟩, prog_8_method_46_code, 5, (some FieldType.int), 4, 97)
def m_M_begin : Mt := (⟨"SpiderLoomModel", "begin", "(I)I"⟩, prog_8_method_49_code, 2, (some FieldType.int), 5, 124)
def m_M_beginOf : Mt := (⟨"SpiderLoomModel", "beginOf", "(I)I"⟩, prog_8_method_48_code, 8, (some FieldType.int), 4, 97)
def m_M_last : Mt := (⟨"SpiderLoomModel", "last", "(IIII)I"⟩, prog_8_method_51_code, 5, (some FieldType.int), 5, 124)
def m_M_lastOf : Mt := (⟨"SpiderLoomModel", "lastOf", "(IIII)I"⟩, prog_8_method_50_code, 8, (some FieldType.int), 4, 97)
def m_M_ones : Mt := (⟨"SpiderLoomModel", "ones", "(I)I"⟩, prog_8_method_5_code, 3, (some FieldType.int), 0, 0)
def m_M_two : Mt := (⟨"SpiderLoomModel", "two", "(IIIII)I"⟩, prog_8_method_53_code, 6, (some FieldType.int), 5, 112)
def m_M_twoOf : Mt := (⟨"SpiderLoomModel", "twoOf", "(IIIII)I"⟩, prog_8_method_52_code, 19, (some FieldType.int), 3, 71)
def m_M_seen : Mt := (⟨"SpiderLoomModel", "seen", "(III)I"⟩, prog_8_method_54_code, 4, (some FieldType.int), 2, 42)
def m_M_forget : Mt := (⟨"SpiderLoomModel", "forget", "()I"⟩, prog_8_method_55_code, 2, (some FieldType.int), 0, 0)
def m_M_fits : Mt := (⟨"SpiderLoomModel", "fits", "()I"⟩, prog_8_method_57_code, 1, (some FieldType.int), 5, 122)
def m_M_fitsNow : Mt := (⟨"SpiderLoomModel", "fitsNow", "()I"⟩, prog_8_method_56_code, 6, (some FieldType.int), 4, 97)
def m_M_tells : Mt := (⟨"SpiderLoomModel", "tells", "()I"⟩, prog_8_method_61_code, 1, (some FieldType.int), 6, 148)
def m_M_tellsNow : Mt := (⟨"SpiderLoomModel", "tellsNow", "()I"⟩, prog_8_method_60_code, 6, (some FieldType.int), 5, 123)
def m_M_unlikeFrom : Mt := (⟨"SpiderLoomModel", "unlikeFrom", "(II)I"⟩, prog_8_method_59_code, 7, (some FieldType.int), 4, 97)
def m_M_areAlike : Mt := (⟨"SpiderLoomModel", "areAlike", "(II)Z"⟩, prog_8_method_58_code, 5, (some FieldType.boolean), 0, 0)
def m_M_flies : Mt := (⟨"SpiderLoomModel", "flies", "(IIII)I"⟩, prog_8_method_63_code, 5, (some FieldType.int), 5, 128)
def m_M_fliesOf : Mt := (⟨"SpiderLoomModel", "fliesOf", "(IIII)I"⟩, prog_8_method_62_code, 12, (some FieldType.int), 4, 97)
def m_M_dew : Mt := (⟨"SpiderLoomModel", "dew", "(III)I"⟩, prog_8_method_65_code, 4, (some FieldType.int), 5, 121)
def m_M_dewOf : Mt := (⟨"SpiderLoomModel", "dewOf", "(III)I"⟩, prog_8_method_64_code, 5, (some FieldType.int), 4, 97)
def m_M_sheet : Mt := (⟨"SpiderLoomModel", "sheet", "(III)I"⟩, prog_8_method_68_code, 5, (some FieldType.int), 2, 42)
def m_M_lose : Mt := (⟨"SpiderLoomModel", "lose", "(I)I"⟩, prog_8_method_69_code, 2, (some FieldType.int), 2, 42)
def m_M_put : Mt := (⟨"SpiderLoomModel", "put", "(IIII)I"⟩, prog_8_method_72_code, 6, (some FieldType.int), 2, 45)
def m_M_lacks : Mt := (⟨"SpiderLoomModel", "lacks", "(III)I"⟩, prog_8_method_70_code, 4, (some FieldType.int), 1, 22)
def m_M_keep : Mt := (⟨"SpiderLoomModel", "keep", "(III)V"⟩, prog_8_method_71_code, 4, none, 0, 0)
def m_M_get : Mt := (⟨"SpiderLoomModel", "get", "(III)I"⟩, prog_8_method_73_code, 5, (some FieldType.int), 2, 45)
def m_M_copy : Mt := (⟨"SpiderLoomModel", "copy", "(IIIII)I"⟩, prog_8_method_74_code, 7, (some FieldType.int), 2, 42)
def m_M_write : Mt := (⟨"SpiderLoomModel", "write", "(III)I"⟩, prog_8_method_75_code, 5, (some FieldType.int), 5, 112)
def m_M_count : Mt := (⟨"SpiderLoomModel", "count", "(I)I"⟩, prog_8_method_77_code, 2, (some FieldType.int), 4, 93)
def m_M_sumOf : Mt := (⟨"SpiderLoomModel", "sumOf", "(I)I"⟩, prog_8_method_76_code, 6, (some FieldType.int), 3, 68)
def m_M_digest : Mt := (⟨"SpiderLoomModel", "digest", "()J"⟩, prog_8_method_78_code, 6, (some FieldType.long), 7, 168)
def flds : Nat → List (Option Nat)
  | 0 => [some 1, some 2, none]
  | 1 => [some 1, some 2, some 3, none]
  | 2 => [some 1, none, none, none]
  | 3 => [some 1, none, none, none, none]
  | 4 => [some 1, none]
  | 5 => [some 1, some 3, some 6, some 9, some 10, some 14, none, none, none, none, none, none]
  | _ => [some 1, none, none, some 2, some 3, none, none, none, none, some 4, none, none, none, some 5, none, some 6, some 7, some 8, some 9, some 10, some 11, some 12, some 13, some 14, none]
def shp : Nat → Nat ⊕ (Nat × Nat × Nat)
  | 0 => .inl 5
  | 1 => .inl 4
  | 2 => .inr (0, 40, 0)
  | 3 => .inl 0
  | 4 => .inr (0, 10, 0)
  | 5 => .inr (0, 10, 0)
  | 6 => .inl 0
  | 7 => .inr (0, 10, 0)
  | 8 => .inr (0, 10, 0)
  | 9 => .inr (2, 4, 15)
  | 10 => .inl 1
  | 11 => .inr (0, 8, 0)
  | 12 => .inr (0, 8, 0)
  | 13 => .inr (0, 8, 0)
  | 14 => .inr (3, 4, 23)
  | 15 => .inl 3
  | 16 => .inr (0, 10, 0)
  | 17 => .inl 3
  | 18 => .inr (0, 10, 0)
  | 19 => .inl 3
  | 20 => .inr (0, 10, 0)
  | 21 => .inl 3
  | 22 => .inr (0, 10, 0)
  | 23 => .inl 2
  | 24 => .inr (0, 48, 0)
  | 25 => .inl 2
  | 26 => .inr (0, 48, 0)
  | 27 => .inl 2
  | 28 => .inr (0, 48, 0)
  | 29 => .inl 2
  | 30 => .inr (0, 48, 0)
  | 31 => .inl 6
  | 32 => .inr (0, 40, 0)
  | 33 => .inr (0, 11, 0)
  | 34 => .inr (0, 11, 0)
  | 35 => .inr (0, 11, 0)
  | 36 => .inr (0, 11, 0)
  | 37 => .inr (0, 8, 0)
  | 38 => .inr (0, 8, 0)
  | 39 => .inr (0, 8, 0)
  | 40 => .inr (0, 44, 0)
  | 41 => .inr (1, 4, 0)
  | 42 => .inr (0, 4, 0)
  | 43 => .inr (0, 4, 0)
  | 44 => .inr (0, 192, 0)
  | _ => .inr (0, 48, 0)
def NC : Nat := 46
end
section
/-! THE JUDGEMENT V: a method's body at a pc, over the abstract world, comes to the pure value o -/
abbrev Hp : Type := Nat → Nat → Int32
abbrev Gt : Type := Launch × (Nat → Nat) × va_G × (Nat → ClassId)
def ad (G : Gt) (a : Nat) : Nat := G.2.1 a
def isO (ci a : Nat) : Prop := a < NC ∧ shp a = .inl ci
def isA (k n b a : Nat) : Prop := a < NC ∧ shp a = .inr (k, n, b)
def cellF (G : Gt) (h : Hp) (a : Nat) (fl : List (Option Nat)) : List Value := fl.mapIdx fun k o => match o with
  | none => .int (h a k)
  | some d => .ref (ad G (a + d))
def cellE (G : Gt) (h : Hp) (a : Nat) (s : Nat ⊕ (Nat × Nat × Nat)) : va_E := match s with
  | .inl ci => .inr (ci, cellF G h a (flds ci))
  | .inr (k, n, b) => .inl (G.2.2.2 k, n, if k ≤ 1 then .inl (h a) else .inr (.inr (.inr (.inr (fun i => some (ad G (b + 2 * i)))))))
def cellOf (G : Gt) (h : Hp) (a : Nat) : va_E := cellE G h a (shp a)
def world (G : Gt) (h : Hp) : va_W := (List.range NC).map fun a => (ad G a, cellOf G h a)
def tysOf (G : Gt) : List (ClassId × FieldType) := [(G.2.2.2 0, .int), (G.2.2.2 1, .boolean), (G.2.2.2 2, .object "SpiderLoom$Spider"), (G.2.2.2 3, .object "SpiderLoom$Sheet")]
def hset (h : Hp) (a k : Nat) (v : Int32) : Hp := fun b => if b = a then upd (h a) k v else h b
def hcpy (h : Hp) (a b sp dp n : Nat) : Hp := fun c => if c = b then va_cpy (h a) (h b) sp dp n else h c
def wInj (G : Gt) : Prop := ∀ a b, a < NC → b < NC → ad G a = ad G b → a = b
def Aw (G : Gt) : Nat → Prop := fun q => ∃ a, a < NC ∧ q = ad G a
theorem world_at {G : Gt} {h : Hp} {a : Nat} (ha : a < NC) : (world G h)[a]? = some (ad G a, cellOf G h a) := by
  simp [world, ha]
theorem world_set {G : Gt} {h h' : Hp} {a : Nat} (ha : a < NC) (hh : ∀ b, b ≠ a → h' b = h b) : (world G h).set a (ad G a, cellOf G h' a) = world G h' := by
  apply List.ext_getElem?
  intro b
  by_cases hb : b = a
  · subst hb
    rw [List.getElem?_set_self (by simp [world, ha]), world_at ha]
  · rw [List.getElem?_set_ne (Ne.symm hb)]
    by_cases hn : b < NC
    · rw [world_at hn, world_at hn]
      have e : h' b = h b := hh b hb
      have : cellOf G h' b = cellOf G h b := by
        unfold cellOf cellE
        cases shp b with
        | inl ci => simp only [cellF, e]
        | inr q => simp only [e]
      rw [this]
    · rw [List.getElem?_eq_none (by simp [world]; omega), List.getElem?_eq_none (by simp [world]; omega)]
theorem world_D {G : Gt} {h : Hp} (hi : wInj G) : va_D (Aw G) (world G h) := by
  have key : ∀ (k : Nat) (q : Nat × va_E), (world G h)[k]? = some q → k < NC ∧ q.1 = ad G k := by
    intro k q hk
    have hl : k < (world G h).length := (List.getElem?_eq_some_iff.mp hk).1
    have hn : k < NC := by simpa [world] using hl
    rw [world_at hn] at hk
    cases hk
    exact ⟨hn, rfl⟩
  refine ⟨fun i j p q h1 h2 e => ?_, fun k q hk => ?_⟩
  · obtain ⟨a1, a2⟩ := key i p h1
    obtain ⟨b1, b2⟩ := key j q h2
    exact hi i j a1 b1 (a2.symm.trans (e.trans b2))
  · obtain ⟨a1, a2⟩ := key k q hk
    exact ⟨k, a1, a2⟩
theorem cell_O {G : Gt} {h : Hp} {ci a : Nat} (hO : isO ci a) : (world G h)[a]? = some (ad G a, .inr (ci, cellF G h a (flds ci))) := by
  rw [world_at hO.1, cellOf, hO.2]; rfl
theorem cell_A {G : Gt} {h : Hp} {k n b a : Nat} (hA : isA k n b a) (hk : k ≤ 1) : (world G h)[a]? = some (ad G a, .inl (G.2.2.2 k, n, .inl (h a))) := by
  rw [world_at hA.1, cellOf, hA.2]; simp [cellE, hk]
theorem cell_R {G : Gt} {h : Hp} {k n b a : Nat} (hA : isA k n b a) (hk : ¬ k ≤ 1) : (world G h)[a]? = some (ad G a, .inl (G.2.2.2 k, n, .inr (.inr (.inr (.inr (fun i => some (ad G (b + 2 * i)))))))) := by
  rw [world_at hA.1, cellOf, hA.2]; simp [cellE, hk]
theorem cellF_i {G : Gt} {h : Hp} {a k : Nat} {fl : List (Option Nat)} (hk : fl[k]? = some none) : (cellF G h a fl)[k]? = some (.int (h a k)) := by
  simp [cellF, List.getElem?_mapIdx, hk]
theorem cellF_r {G : Gt} {h : Hp} {a k d : Nat} {fl : List (Option Nat)} (hk : fl[k]? = some (some d)) : (cellF G h a fl)[k]? = some (.ref (ad G (a + d))) := by
  simp [cellF, List.getElem?_mapIdx, hk]
theorem cellF_set {G : Gt} {h : Hp} {a k : Nat} {v : Int32} {fl : List (Option Nat)} (hk : fl[k]? = some none) : (cellF G h a fl).set k (.int v) = cellF G (hset h a k v) a fl := by
  apply List.ext_getElem?
  intro j
  by_cases hj : j = k
  · subst hj
    rw [List.getElem?_set_self (by have := (List.getElem?_eq_some_iff.mp (cellF_i (G := G) (h := h) (a := a) hk)).1; exact this)]
    rw [cellF_i hk]
    simp [hset, upd]
  · rw [List.getElem?_set_ne (Ne.symm hj)]
    simp only [cellF, List.getElem?_mapIdx]
    cases fl[j]? with
    | none => rfl
    | some o =>
      cases o with
      | none => simp [hset, upd, hj]
      | some d => rfl
theorem hset_off {h : Hp} {a k : Nat} {v : Int32} {b : Nat} (hb : b ≠ a) : hset h a k v b = h b := by simp [hset, hb]
theorem set_O {G : Gt} {h : Hp} {ci a k : Nat} {v : Int32} (hO : isO ci a) (hk : (flds ci)[k]? = some none) : (world G h).set a (ad G a, .inr (ci, (cellF G h a (flds ci)).set k (.int v))) = world G (hset h a k v) := by
  rw [cellF_set hk]
  have := world_set (G := G) (h := h) (h' := hset h a k v) hO.1 (fun b hb => hset_off hb)
  rw [← this, cellOf, hO.2]; rfl
theorem set_A {G : Gt} {h : Hp} {kd n b a k : Nat} {v : Int32} (hA : isA kd n b a) (hkd : kd ≤ 1) : (world G h).set a (ad G a, .inl (G.2.2.2 kd, n, .inl (upd (h a) k v))) = world G (hset h a k v) := by
  have := world_set (G := G) (h := h) (h' := hset h a k v) hA.1 (fun b hb => hset_off hb)
  rw [← this, cellOf, hA.2]; simp [cellE, hkd, hset]
theorem set_C {G : Gt} {h : Hp} {kd n b a a0 sp dp nn : Nat} (hA : isA kd n b a) (hkd : kd ≤ 1) : (world G h).set a (ad G a, .inl (G.2.2.2 kd, n, .inl (va_cpy (h a0) (h a) sp dp nn))) = world G (hcpy h a0 a sp dp nn) := by
  have := world_set (G := G) (h := h) (h' := hcpy h a0 a sp dp nn) hA.1 (fun b hb => by simp [hcpy, hb])
  rw [← this, cellOf, hA.2]; simp [cellE, hkd, hcpy]
def KK (G : Gt) (U : State) : Prop := va_K G.2.2.1 classes (tysOf G) U ∧ ∀ w ∈ nestW, va_Nw w U
theorem KK.warm {G : Gt} {s U : State} (hW : s.WarmedH U.vm) (h : KK G s) : KK G U := ⟨va_K.moved hW.alike h.1, nest_warm hW h.2⟩
theorem KK.same {G : Gt} {s U : State} (hv : s.vm = U.vm) (h : KK G s) : KK G U := ⟨va_K.moved (by rw [← hv]; exact Vm.Alike.refl s.vm) h.1, nest_same hv h.2⟩
def wsOf (μ : Mt) : List Cond := .code μ.1 μ.2.1 μ.2.2.1 μ.2.2.2.1 :: lwg
def rmOf (μ : Mt) : Room := { frames := μ.2.2.2.2.1, cells := 0, slots := 0, locals := μ.2.2.2.2.2 }
def Qc {ρ : Type} (G : Gt) (κ : ρ → Option Value) (r : ρ) (h : Hp) : Array Value → State → Outcome → State → Prop := fun _ st oc t => oc = .returned (κ r) ∧ va_P G.2.2.1 classes (world G h) t.heap ∧ va_F (Aw G) st t
def WH (G : Gt) (h : Hp) (U : State) : Prop := va_P G.2.2.1 classes (world G h) U.heap ∧ KK G U ∧ wInj G
def Cx (μ : Mt) (p : Program) (s : State) (m : MethodId) (args : Array Value) (meth : Method) (c : Code) : Prop :=
  p.tables.exec = Jvm.exec ∧ c.code = μ.2.1 ∧ meth.sig.returnType = μ.2.2.2.1 ∧ c.maxLocals = μ.2.2.1 ∧ s.vm.findClass μ.1.cls = some m.cls ∧ (∀ w ∈ wsOf μ, w.before args s = true) ∧ meth.locks = false
/-- where o is some (r, h'), the method, from pc on, returns κ r with the world h' -/
def V {ρ : Type} (G : Gt) (μ : Mt) (pc : Nat) (ls : List (Nat × Value)) (st : List Value) (h : Hp) (κ : ρ → Option Value) (o : Option (ρ × Hp)) : Prop :=
  ∀ (r : ρ) (h' : Hp), o = some (r, h') → ∀ (p : Program) (e : Env) (s : State) (m : MethodId) (args : Array Value) (below : List Frame) (meth : Method) (c : Code) (H : Heap) (locs : List Loc) (lsA : Array Slot),
    Cx μ p s m args meth c → KK G s → wInj G → va_P G.2.2.1 classes (world G h) H → va_S (Aw G) s.heap H locs → lv_has lsA μ.2.2.1 ls →
    W p G.1 e (rmOf μ) s m args below meth c H locs 0 0 (MQ below (Qc G κ r h') args s 0 0 (Aw G)) (F0 m pc lsA st)
def Cn {ρ : Type} (G : Gt) (μ : Mt) (av : List Value) (h : Hp) (κ : ρ → Option Value) (o : Option (ρ × Hp)) : Prop :=
  ∀ (r : ρ) (h' : Hp), o = some (r, h') → Met G.1 μ.1 (wsOf μ) (rmOf μ) (va_Pc av (WH G h)) (Qc G κ r h') 0 0 (Aw G)
def κi : Int32 → Option Value := fun r => some (.int r)
def κl : Int64 → Option Value := fun r => some (.long r)
def κv : Unit → Option Value := fun _ => none
def κr (G : Gt) : Nat → Option Value := fun a => some (.ref (ad G a))
def inb (i : Int32) (n : Nat) : Bool := !decide (i < 0) && decide (i.toNatClampNeg < n)
abbrev ix (i : Int32) : Nat := i.toNatClampNeg
/-- the index is looked at -/
def chk {α : Type} (n : Nat) (i : Int32) (o : Option α) : Option α := if inb i n = true then o else none
def bnd {ρ σ : Type} (o : Option (ρ × Hp)) (f : ρ → Hp → Option σ) : Option σ := match o with
  | none => none
  | some q => f q.1 q.2
/-- a boolean answer -/
def zret (v : Int32) (h : Hp) : Option (Int32 × Hp) := if v = 0 then some (0, h) else if v = 1 then some (1, h) else none
def FUEL : Nat := 5000
theorem inb_in {i : Int32} {n : Nat} (h : inb i n = true) : vp_in i n := by
  simp [inb] at h
  rintro (q | q)
  · exact absurd q (Int32.not_lt.mpr h.1)
  · omega
theorem chk_some {α : Type} {n : Nat} {i : Int32} {o : Option α} {q : α} (h : chk n i o = some q) : inb i n = true ∧ o = some q := by
  unfold chk at h
  split at h
  · exact ⟨by assumption, h⟩
  · cases h
theorem Cx.call {μ μz : Mt} {p : Program} {s : State} {m : MethodId} {args : Array Value} {meth : Method} {c : Code} (C : Cx μ p s m args meth c) (hc : Cond.code μz.1 μz.2.1 μz.2.2.1 μz.2.2.2.1 ∈ lwg) : GoodIn (wsOf μ) (wsOf μz) := by
  intro w hw
  have h1 : w ∈ lwg := by
    rcases List.mem_cons.mp hw with e | e
    · rw [e]; exact hc
    · exact e
  exact ⟨List.mem_cons_of_mem _ h1, good_of_word (lwg_good h1)⟩
theorem Cx.word {μ : Mt} {p : Program} {s : State} {m : MethodId} {args : Array Value} {meth : Method} {c : Code} (C : Cx μ p s m args meth c) {w : Cond} (hw : w ∈ lwg) : w.before args s = true := C.2.2.2.2.2.1 w (List.mem_cons_of_mem _ hw)
/-- a method's words in the tables, its descriptor: what a call needs -/
def CallOK (cls : String) (idx : Nat) (μz : Mt) (n : Nat) : Prop :=
  Cond.code μz.1 μz.2.1 μz.2.2.1 μz.2.2.2.1 ∈ lwg ∧ Cond.initialized μz.1.cls ∈ lwg ∧ Cond.methodLink cls idx μz.1 ∈ lwg ∧ (μz.1.cls ≠ "java/lang/invoke/MethodHandle" ∧ μz.1.cls ≠ "java/lang/invoke/VarHandle" ∧ (parseMethodDescriptor μz.1.desc).map (fun d => d.parameters.length) = some n)
def InstOK (μz : Mt) (ci : Nat) : Prop := Cond.instanceMethod μz.1 ∈ lwg ∧ Cond.selects μz.1.cls μz.1 μz.1 ∈ lwg ∧ ∃ q, classes[ci]? = some q ∧ q.1 = μz.1.cls
def StatOK (μz : Mt) : Prop := Cond.static μz.1 ∈ lwg
def RoomOK (μ μz : Mt) : Prop := μz.2.2.2.2.1 + 1 ≤ μ.2.2.2.2.1 ∧ 8 + (μz.2.2.1 + 11) + μz.2.2.2.2.2 ≤ μ.2.2.2.2.2
theorem WH.blind {G : Gt} {h : Hp} {av : List Value} : FrameBlind (va_Pc av (WH G h)) := by
  intro a U g mk q
  obtain ⟨q0, qP, qK, qI⟩ := q
  exact ⟨q0, qP, KK.same (s := U) (U := U.calling g mk a) rfl qK, qI⟩
theorem entryV {ρ : Type} {G : Gt} {μ : Mt} {av : List Value} {ls : List (Nat × Value)} {h : Hp} {κ : ρ → Option Value} {o : Option (ρ × Hp)} (hy : plainName μ.1.cls = true) (hn : (lg_sl av).length ≤ μ.2.2.1) (hl : lv_args 0 av = ls) (k : V G μ 0 ls [] h κ o) : Cn G μ av h κ o := by
  intro r h' ho
  refine Met.ofW (cc := μ.2.1) (maxL := μ.2.2.1) (ret := μ.2.2.2.1) hy rfl ?_
  intro p e s m args below meth c s₁ B hml hv
  obtain ⟨rfl, hP, hK, hI⟩ := hv
  have hts := atoms_spec (ws := wsOf μ) B.pre
  have hown : s.vm.findClass μ.1.cls = some m.cls := findClass_of_methodNamed B.named
  have hl0 := lv_entry av (n := μ.2.2.1) hn
  rw [lg_entry_eq]
  rw [hl] at hl0
  exact k r h' ho p e s m _ below meth c s.heap [] _ ⟨B.exec, B.bytes, B.returns, hml, hown, hts, B.notSynchronized⟩ hK hI hP va_S.rf hl0
section VR
variable {ρ : Type} {G : Gt} {μ : Mt} {pc : Nat} {ls : List (Nat × Value)} {st : List Value} {h : Hp} {κ : ρ → Option Value} {o : Option (ρ × Hp)}
theorem v_sub (ks : List Nat) {ls' : List (Nat × Value)} (hl : lv_pick ls' ks = ls) (k : V G μ pc ls st h κ o) : V G μ pc ls' st h κ o := by
  intro r h' ho p e s m args below meth c H locs lsA C hK hI hP hS hL
  exact k r h' ho p e s m args below meth c H locs lsA C hK hI hP hS (lv_sub hL ks hl)
theorem v_iconst {n : Int} (v : Int32) (hdg : decode μ.2.1 pc = .ok (.iconst n, 1)) (hv : Int32.ofInt n = v) (k : V G μ (pc + 1) ls (.int v :: st) h κ o) : V G μ pc ls st h κ o := by
  intro r h' ho p e s m args below meth c H locs lsA C hK hI hP hS hL
  exact lv_iconst C.1 C.2.1 hdg hv (k r h' ho p e s m args below meth c H locs lsA C hK hI hP hS hL)
theorem v_bipush {n : Int} (v : Int32) (hdg : decode μ.2.1 pc = .ok (.bipush n, 2)) (hv : (Int8.ofInt n).toInt32 = v) (k : V G μ (pc + 2) ls (.int v :: st) h κ o) : V G μ pc ls st h κ o := by
  intro r h' ho p e s m args below meth c H locs lsA C hK hI hP hS hL
  exact lv_bipush C.1 C.2.1 hdg hv (k r h' ho p e s m args below meth c H locs lsA C hK hI hP hS hL)
theorem v_sipush {n : Int} (v : Int32) (hdg : decode μ.2.1 pc = .ok (.sipush n, 3)) (hv : (Int16.ofInt n).toInt32 = v) (k : V G μ (pc + 3) ls (.int v :: st) h κ o) : V G μ pc ls st h κ o := by
  intro r h' ho p e s m args below meth c H locs lsA C hK hI hP hS hL
  exact lv_sipush C.1 C.2.1 hdg hv (k r h' ho p e s m args below meth c H locs lsA C hK hI hP hS hL)
theorem v_ldc {i : Nat} {v : Int32} (hw : Cond.constant μ.1.cls i v ∈ lwg) (hdg : decode μ.2.1 pc = .ok (.ldc i, 2)) (k : V G μ (pc + 2) ls (.int v :: st) h κ o) : V G μ pc ls st h κ o := by
  intro r h' ho p e s m args below meth c H locs lsA C hK hI hP hS hL
  exact lv_ldc C.1 C.2.1 C.2.2.2.2.1 (C.word hw) hdg (k r h' ho p e s m args below meth c H locs lsA C hK hI hP hS hL)
theorem v_ldcw {i : Nat} {v : Int32} (hw : Cond.constant μ.1.cls i v ∈ lwg) (hdg : decode μ.2.1 pc = .ok (.ldc_w i, 3)) (k : V G μ (pc + 3) ls (.int v :: st) h κ o) : V G μ pc ls st h κ o := by
  intro r h' ho p e s m args below meth c H locs lsA C hK hI hP hS hL
  exact lv_ldcw C.1 C.2.1 C.2.2.2.2.1 (C.word hw) hdg (k r h' ho p e s m args below meth c H locs lsA C hK hI hP hS hL)
theorem v_ldc2 {i : Nat} {v : Int64} (hw : Cond.constantLong μ.1.cls i v ∈ lwg) (hdg : decode μ.2.1 pc = .ok (.ldc2_w i, 3)) (k : V G μ (pc + 3) ls (.long v :: st) h κ o) : V G μ pc ls st h κ o := by
  intro r h' ho p e s m args below meth c H locs lsA C hK hI hP hS hL
  exact lv_ldc2 C.1 C.2.1 C.2.2.2.2.1 (C.word hw) hdg (k r h' ho p e s m args below meth c H locs lsA C hK hI hP hS hL)
theorem v_iload_n {f : Fin 4} {i : Nat} {x : Int32} (j : Nat) (hdg : decode μ.2.1 pc = .ok (.iload_n f, 1)) (hi : (f : Nat) = i) (hl : ls[j]? = some (i, .int x)) (k : V G μ (pc + 1) ls (.int x :: st) h κ o) : V G μ pc ls st h κ o := by
  intro r h' ho p e s m args below meth c H locs lsA C hK hI hP hS hL
  exact lv_iload_n C.1 C.2.1 hdg hi (lv_at hL j hl) (k r h' ho p e s m args below meth c H locs lsA C hK hI hP hS hL)
theorem v_iload {i : Nat} {x : Int32} (j : Nat) (hdg : decode μ.2.1 pc = .ok (.iload i, 2)) (hl : ls[j]? = some (i, .int x)) (k : V G μ (pc + 2) ls (.int x :: st) h κ o) : V G μ pc ls st h κ o := by
  intro r h' ho p e s m args below meth c H locs lsA C hK hI hP hS hL
  exact lv_iload C.1 C.2.1 hdg (lv_at hL j hl) (k r h' ho p e s m args below meth c H locs lsA C hK hI hP hS hL)
theorem v_lload_n {f : Fin 4} {i : Nat} {x : Int64} (j : Nat) (hdg : decode μ.2.1 pc = .ok (.lload_n f, 1)) (hi : (f : Nat) = i) (hl : ls[j]? = some (i, .long x)) (k : V G μ (pc + 1) ls (.long x :: st) h κ o) : V G μ pc ls st h κ o := by
  intro r h' ho p e s m args below meth c H locs lsA C hK hI hP hS hL
  exact lv_lload_n C.1 C.2.1 hdg hi (lv_at hL j hl) (k r h' ho p e s m args below meth c H locs lsA C hK hI hP hS hL)
theorem v_lload {i : Nat} {x : Int64} (j : Nat) (hdg : decode μ.2.1 pc = .ok (.lload i, 2)) (hl : ls[j]? = some (i, .long x)) (k : V G μ (pc + 2) ls (.long x :: st) h κ o) : V G μ pc ls st h κ o := by
  intro r h' ho p e s m args below meth c H locs lsA C hK hI hP hS hL
  exact lv_lload C.1 C.2.1 hdg (lv_at hL j hl) (k r h' ho p e s m args below meth c H locs lsA C hK hI hP hS hL)
theorem v_aload_n {f : Fin 4} {i : Nat} {x : Nat} (j : Nat) (hdg : decode μ.2.1 pc = .ok (.aload_n f, 1)) (hi : (f : Nat) = i) (hl : ls[j]? = some (i, .ref x)) (k : V G μ (pc + 1) ls (.ref x :: st) h κ o) : V G μ pc ls st h κ o := by
  intro r h' ho p e s m args below meth c H locs lsA C hK hI hP hS hL
  exact lv_aload_n C.1 C.2.1 hdg hi (lv_at hL j hl) (k r h' ho p e s m args below meth c H locs lsA C hK hI hP hS hL)
theorem v_aload {i : Nat} {x : Nat} (j : Nat) (hdg : decode μ.2.1 pc = .ok (.aload i, 2)) (hl : ls[j]? = some (i, .ref x)) (k : V G μ (pc + 2) ls (.ref x :: st) h κ o) : V G μ pc ls st h κ o := by
  intro r h' ho p e s m args below meth c H locs lsA C hK hI hP hS hL
  exact lv_aload C.1 C.2.1 hdg (lv_at hL j hl) (k r h' ho p e s m args below meth c H locs lsA C hK hI hP hS hL)
theorem v_istore_n {f : Fin 4} {i : Nat} {x : Int32} (ls' : List (Nat × Value)) (hdg : decode μ.2.1 pc = .ok (.istore_n f, 1)) (hi : (f : Nat) = i) (hn : i < μ.2.2.1) (hl : (i, Value.int x) :: ls.filter (fun q => !(q.1 == i) && !(q.1 + 1 == i && q.2.category == 2)) = ls') (k : V G μ (pc + 1) ls' st h κ o) : V G μ pc ls (.int x :: st) h κ o := by
  intro r h' ho p e s m args below meth c H locs lsA C hK hI hP hS hL
  exact lv_istore_n C.1 C.2.1 hdg hi hL hn hl (fun lsB hB => k r h' ho p e s m args below meth c H locs lsB C hK hI hP hS hB)
theorem v_istore {i : Nat} {x : Int32} (ls' : List (Nat × Value)) (hdg : decode μ.2.1 pc = .ok (.istore i, 2)) (hn : i < μ.2.2.1) (hl : (i, Value.int x) :: ls.filter (fun q => !(q.1 == i) && !(q.1 + 1 == i && q.2.category == 2)) = ls') (k : V G μ (pc + 2) ls' st h κ o) : V G μ pc ls (.int x :: st) h κ o := by
  intro r h' ho p e s m args below meth c H locs lsA C hK hI hP hS hL
  exact lv_istore C.1 C.2.1 hdg hL hn hl (fun lsB hB => k r h' ho p e s m args below meth c H locs lsB C hK hI hP hS hB)
theorem v_lstore_n {f : Fin 4} {i : Nat} {x : Int64} (ls' : List (Nat × Value)) (hdg : decode μ.2.1 pc = .ok (.lstore_n f, 1)) (hi : (f : Nat) = i) (hn : i + 1 < μ.2.2.1) (hl : (i, Value.long x) :: ls.filter (fun q => !(q.1 == i) && (!(q.1 == i + 1) && !(q.1 + 1 == i && q.2.category == 2))) = ls') (k : V G μ (pc + 1) ls' st h κ o) : V G μ pc ls (.long x :: st) h κ o := by
  intro r h' ho p e s m args below meth c H locs lsA C hK hI hP hS hL
  exact lv_lstore_n C.1 C.2.1 hdg hi hL hn hl (fun lsB hB => k r h' ho p e s m args below meth c H locs lsB C hK hI hP hS hB)
theorem v_lstore {i : Nat} {x : Int64} (ls' : List (Nat × Value)) (hdg : decode μ.2.1 pc = .ok (.lstore i, 2)) (hn : i + 1 < μ.2.2.1) (hl : (i, Value.long x) :: ls.filter (fun q => !(q.1 == i) && (!(q.1 == i + 1) && !(q.1 + 1 == i && q.2.category == 2))) = ls') (k : V G μ (pc + 2) ls' st h κ o) : V G μ pc ls (.long x :: st) h κ o := by
  intro r h' ho p e s m args below meth c H locs lsA C hK hI hP hS hL
  exact lv_lstore C.1 C.2.1 hdg hL hn hl (fun lsB hB => k r h' ho p e s m args below meth c H locs lsB C hK hI hP hS hB)
theorem v_astore_n {f : Fin 4} {i : Nat} {x : Nat} (ls' : List (Nat × Value)) (hdg : decode μ.2.1 pc = .ok (.astore_n f, 1)) (hi : (f : Nat) = i) (hn : i < μ.2.2.1) (hl : (i, Value.ref x) :: ls.filter (fun q => !(q.1 == i) && !(q.1 + 1 == i && q.2.category == 2)) = ls') (k : V G μ (pc + 1) ls' st h κ o) : V G μ pc ls (.ref x :: st) h κ o := by
  intro r h' ho p e s m args below meth c H locs lsA C hK hI hP hS hL
  exact lv_astore_n C.1 C.2.1 hdg hi hL hn hl (fun lsB hB => k r h' ho p e s m args below meth c H locs lsB C hK hI hP hS hB)
theorem v_astore {i : Nat} {x : Nat} (ls' : List (Nat × Value)) (hdg : decode μ.2.1 pc = .ok (.astore i, 2)) (hn : i < μ.2.2.1) (hl : (i, Value.ref x) :: ls.filter (fun q => !(q.1 == i) && !(q.1 + 1 == i && q.2.category == 2)) = ls') (k : V G μ (pc + 2) ls' st h κ o) : V G μ pc ls (.ref x :: st) h κ o := by
  intro r h' ho p e s m args below meth c H locs lsA C hK hI hP hS hL
  exact lv_astore C.1 C.2.1 hdg hL hn hl (fun lsB hB => k r h' ho p e s m args below meth c H locs lsB C hK hI hP hS hB)
theorem v_iinc {i : Nat} {n : Int} {x : Int32} (v : Int32) (j : Nat) (ls' : List (Nat × Value)) (hdg : decode μ.2.1 pc = .ok (.iinc i n, 3)) (hj : ls[j]? = some (i, .int x)) (hv : x + Int32.ofInt n = v) (hn : i < μ.2.2.1) (hl : (i, Value.int v) :: ls.filter (fun q => !(q.1 == i) && !(q.1 + 1 == i && q.2.category == 2)) = ls') (k : V G μ (pc + 3) ls' st h κ o) : V G μ pc ls st h κ o := by
  intro r h' ho p e s m args below meth c H locs lsA C hK hI hP hS hL
  exact lv_iinc C.1 C.2.1 hdg hL hj hv hn hl (fun lsB hB => k r h' ho p e s m args below meth c H locs lsB C hK hI hP hS hB)
theorem v_iadd {x y : Int32} (hdg : decode μ.2.1 pc = .ok (.iadd, 1)) (k : V G μ (pc + 1) ls (.int (x + y) :: st) h κ o) : V G μ pc ls (.int y :: .int x :: st) h κ o := by
  intro r h' ho p e s m args below meth c H locs lsA C hK hI hP hS hL
  exact lv_iadd C.1 C.2.1 hdg (k r h' ho p e s m args below meth c H locs lsA C hK hI hP hS hL)
theorem v_isub {x y : Int32} (hdg : decode μ.2.1 pc = .ok (.isub, 1)) (k : V G μ (pc + 1) ls (.int (x - y) :: st) h κ o) : V G μ pc ls (.int y :: .int x :: st) h κ o := by
  intro r h' ho p e s m args below meth c H locs lsA C hK hI hP hS hL
  exact lv_isub C.1 C.2.1 hdg (k r h' ho p e s m args below meth c H locs lsA C hK hI hP hS hL)
theorem v_imul {x y : Int32} (hdg : decode μ.2.1 pc = .ok (.imul, 1)) (k : V G μ (pc + 1) ls (.int (x * y) :: st) h κ o) : V G μ pc ls (.int y :: .int x :: st) h κ o := by
  intro r h' ho p e s m args below meth c H locs lsA C hK hI hP hS hL
  exact lv_imul C.1 C.2.1 hdg (k r h' ho p e s m args below meth c H locs lsA C hK hI hP hS hL)
theorem v_iand {x y : Int32} (hdg : decode μ.2.1 pc = .ok (.iand, 1)) (k : V G μ (pc + 1) ls (.int (x &&& y) :: st) h κ o) : V G μ pc ls (.int y :: .int x :: st) h κ o := by
  intro r h' ho p e s m args below meth c H locs lsA C hK hI hP hS hL
  exact lv_iand C.1 C.2.1 hdg (k r h' ho p e s m args below meth c H locs lsA C hK hI hP hS hL)
theorem v_ior {x y : Int32} (hdg : decode μ.2.1 pc = .ok (.ior, 1)) (k : V G μ (pc + 1) ls (.int (x ||| y) :: st) h κ o) : V G μ pc ls (.int y :: .int x :: st) h κ o := by
  intro r h' ho p e s m args below meth c H locs lsA C hK hI hP hS hL
  exact lv_ior C.1 C.2.1 hdg (k r h' ho p e s m args below meth c H locs lsA C hK hI hP hS hL)
theorem v_ixor {x y : Int32} (hdg : decode μ.2.1 pc = .ok (.ixor, 1)) (k : V G μ (pc + 1) ls (.int (x ^^^ y) :: st) h κ o) : V G μ pc ls (.int y :: .int x :: st) h κ o := by
  intro r h' ho p e s m args below meth c H locs lsA C hK hI hP hS hL
  exact lv_ixor C.1 C.2.1 hdg (k r h' ho p e s m args below meth c H locs lsA C hK hI hP hS hL)
theorem v_ishl {x y : Int32} (hdg : decode μ.2.1 pc = .ok (.ishl, 1)) (k : V G μ (pc + 1) ls (.int (x <<< (y &&& 31)) :: st) h κ o) : V G μ pc ls (.int y :: .int x :: st) h κ o := by
  intro r h' ho p e s m args below meth c H locs lsA C hK hI hP hS hL
  exact lv_ishl C.1 C.2.1 hdg (k r h' ho p e s m args below meth c H locs lsA C hK hI hP hS hL)
theorem v_ishr {x y : Int32} (hdg : decode μ.2.1 pc = .ok (.ishr, 1)) (k : V G μ (pc + 1) ls (.int (x >>> (y &&& 31)) :: st) h κ o) : V G μ pc ls (.int y :: .int x :: st) h κ o := by
  intro r h' ho p e s m args below meth c H locs lsA C hK hI hP hS hL
  exact lv_ishr C.1 C.2.1 hdg (k r h' ho p e s m args below meth c H locs lsA C hK hI hP hS hL)
theorem v_ladd {x y : Int64} (hdg : decode μ.2.1 pc = .ok (.ladd, 1)) (k : V G μ (pc + 1) ls (.long (x + y) :: st) h κ o) : V G μ pc ls (.long y :: .long x :: st) h κ o := by
  intro r h' ho p e s m args below meth c H locs lsA C hK hI hP hS hL
  exact lv_ladd C.1 C.2.1 hdg (k r h' ho p e s m args below meth c H locs lsA C hK hI hP hS hL)
theorem v_lmul {x y : Int64} (hdg : decode μ.2.1 pc = .ok (.lmul, 1)) (k : V G μ (pc + 1) ls (.long (x * y) :: st) h κ o) : V G μ pc ls (.long y :: .long x :: st) h κ o := by
  intro r h' ho p e s m args below meth c H locs lsA C hK hI hP hS hL
  exact lv_lmul C.1 C.2.1 hdg (k r h' ho p e s m args below meth c H locs lsA C hK hI hP hS hL)
theorem v_irem {x y : Int32} (hne : ¬ y = 0) (hdg : decode μ.2.1 pc = .ok (.irem, 1)) (k : V G μ (pc + 1) ls (.int (x - x / y * y) :: st) h κ o) : V G μ pc ls (.int y :: .int x :: st) h κ o := by
  intro r h' ho p e s m args below meth c H locs lsA C hK hI hP hS hL
  exact lv_irem C.1 C.2.1 hdg hne (k r h' ho p e s m args below meth c H locs lsA C hK hI hP hS hL)
theorem v_iushr {x y : Int32} (hdg : decode μ.2.1 pc = .ok (.iushr, 1)) (k : V G μ (pc + 1) ls (.int ((x.toUInt32 >>> (y.toUInt32 &&& Int32.toUInt32 31)).toInt32) :: st) h κ o) : V G μ pc ls (.int y :: .int x :: st) h κ o := by
  intro r h' ho p e s m args below meth c H locs lsA C hK hI hP hS hL
  exact lv_iushr C.1 C.2.1 hdg rfl (k r h' ho p e s m args below meth c H locs lsA C hK hI hP hS hL)
theorem v_ineg {x : Int32} (hdg : decode μ.2.1 pc = .ok (.ineg, 1)) (k : V G μ (pc + 1) ls (.int (-x) :: st) h κ o) : V G μ pc ls (.int x :: st) h κ o := by
  intro r h' ho p e s m args below meth c H locs lsA C hK hI hP hS hL
  exact lv_ineg C.1 C.2.1 hdg (k r h' ho p e s m args below meth c H locs lsA C hK hI hP hS hL)
theorem v_i2l {x : Int32} (hdg : decode μ.2.1 pc = .ok (.i2l, 1)) (k : V G μ (pc + 1) ls (.long x.toInt64 :: st) h κ o) : V G μ pc ls (.int x :: st) h κ o := by
  intro r h' ho p e s m args below meth c H locs lsA C hK hI hP hS hL
  exact lv_i2l C.1 C.2.1 hdg rfl (k r h' ho p e s m args below meth c H locs lsA C hK hI hP hS hL)
theorem v_i2b {x : Int32} (hdg : decode μ.2.1 pc = .ok (.i2b, 1)) (k : V G μ (pc + 1) ls (.int x.toInt8.toInt32 :: st) h κ o) : V G μ pc ls (.int x :: st) h κ o := by
  intro r h' ho p e s m args below meth c H locs lsA C hK hI hP hS hL
  exact lv_i2b C.1 C.2.1 hdg rfl (k r h' ho p e s m args below meth c H locs lsA C hK hI hP hS hL)
theorem v_i2s {x : Int32} (hdg : decode μ.2.1 pc = .ok (.i2s, 1)) (k : V G μ (pc + 1) ls (.int x.toInt16.toInt32 :: st) h κ o) : V G μ pc ls (.int x :: st) h κ o := by
  intro r h' ho p e s m args below meth c H locs lsA C hK hI hP hS hL
  exact lv_i2s C.1 C.2.1 hdg rfl (k r h' ho p e s m args below meth c H locs lsA C hK hI hP hS hL)
theorem v_lcmp {x y : Int64} (hdg : decode μ.2.1 pc = .ok (.lcmp, 1)) (k : V G μ (pc + 1) ls (.int (lg_cmp x y) :: st) h κ o) : V G μ pc ls (.long y :: .long x :: st) h κ o := by
  intro r h' ho p e s m args below meth c H locs lsA C hK hI hP hS hL
  exact W.lcmp C.1 C.2.1 hdg (k r h' ho p e s m args below meth c H locs lsA C hK hI hP hS hL)
theorem v_dup {va : Value} (hdg : decode μ.2.1 pc = .ok (.dup, 1)) (hva : va.category = 1) (k : V G μ (pc + 1) ls (va :: va :: st) h κ o) : V G μ pc ls (va :: st) h κ o := by
  intro r h' ho p e s m args below meth c H locs lsA C hK hI hP hS hL
  exact lv_dup C.1 C.2.1 hdg hva (k r h' ho p e s m args below meth c H locs lsA C hK hI hP hS hL)
theorem v_goto {off : Int} (tgt : Nat) (hdg : decode μ.2.1 pc = .ok (.goto off, 3)) (ht : (pc : Int) + off = (tgt : Int)) (k : V G μ tgt ls st h κ o) : V G μ pc ls st h κ o := by
  intro r h' ho p e s m args below meth c H locs lsA C hK hI hP hS hL
  exact lv_goto C.1 C.2.1 hdg ht (k r h' ho p e s m args below meth c H locs lsA C hK hI hP hS hL)
theorem v_if_eq {x : Int32} {o1 o2 : Option (ρ × Hp)} {off : Int} (tgt : Nat) (hdg : decode μ.2.1 pc = .ok (.ifCond .eq off, 3)) (ht : (pc : Int) + off = (tgt : Int)) (k1 : x = 0 → V G μ tgt ls st h κ o1) (k2 : ¬ (x = 0) → V G μ (pc + 3) ls st h κ o2) : V G μ pc ls (.int x :: st) h κ (if x = 0 then o1 else o2) := by
  intro r h' ho p e s m args below meth c H locs lsA C hK hI hP hS hL
  exact lv_if_eq C.1 C.2.1 hdg ht (fun hc => k1 hc r h' (by rw [if_pos hc] at ho; exact ho) p e s m args below meth c H locs lsA C hK hI hP hS hL) (fun hc => k2 hc r h' (by rw [if_neg hc] at ho; exact ho) p e s m args below meth c H locs lsA C hK hI hP hS hL)
theorem v_if_eq_t {x : Int32} {off : Int} (tgt : Nat) (hdg : decode μ.2.1 pc = .ok (.ifCond .eq off, 3)) (ht : (pc : Int) + off = (tgt : Int)) (hc : x = 0) (k1 : V G μ tgt ls st h κ o) : V G μ pc ls (.int x :: st) h κ o := by
  intro r h' ho p e s m args below meth c H locs lsA C hK hI hP hS hL
  exact lv_if_eq C.1 C.2.1 hdg ht (fun _ => k1 r h' ho p e s m args below meth c H locs lsA C hK hI hP hS hL) (fun q => absurd hc q)
theorem v_if_eq_f {x : Int32} {off : Int} (tgt : Nat) (hdg : decode μ.2.1 pc = .ok (.ifCond .eq off, 3)) (ht : (pc : Int) + off = (tgt : Int)) (hc : ¬ (x = 0)) (k2 : V G μ (pc + 3) ls st h κ o) : V G μ pc ls (.int x :: st) h κ o := by
  intro r h' ho p e s m args below meth c H locs lsA C hK hI hP hS hL
  exact lv_if_eq C.1 C.2.1 hdg ht (fun q => absurd q hc) (fun _ => k2 r h' ho p e s m args below meth c H locs lsA C hK hI hP hS hL)
theorem v_icmp_eq {x y : Int32} {o1 o2 : Option (ρ × Hp)} {off : Int} (tgt : Nat) (hdg : decode μ.2.1 pc = .ok (.if_icmp .eq off, 3)) (ht : (pc : Int) + off = (tgt : Int)) (k1 : x = y → V G μ tgt ls st h κ o1) (k2 : ¬ (x = y) → V G μ (pc + 3) ls st h κ o2) : V G μ pc ls (.int y :: .int x :: st) h κ (if x = y then o1 else o2) := by
  intro r h' ho p e s m args below meth c H locs lsA C hK hI hP hS hL
  exact lv_icmp_eq C.1 C.2.1 hdg ht (fun hc => k1 hc r h' (by rw [if_pos hc] at ho; exact ho) p e s m args below meth c H locs lsA C hK hI hP hS hL) (fun hc => k2 hc r h' (by rw [if_neg hc] at ho; exact ho) p e s m args below meth c H locs lsA C hK hI hP hS hL)
theorem v_icmp_eq_t {x y : Int32} {off : Int} (tgt : Nat) (hdg : decode μ.2.1 pc = .ok (.if_icmp .eq off, 3)) (ht : (pc : Int) + off = (tgt : Int)) (hc : x = y) (k1 : V G μ tgt ls st h κ o) : V G μ pc ls (.int y :: .int x :: st) h κ o := by
  intro r h' ho p e s m args below meth c H locs lsA C hK hI hP hS hL
  exact lv_icmp_eq C.1 C.2.1 hdg ht (fun _ => k1 r h' ho p e s m args below meth c H locs lsA C hK hI hP hS hL) (fun q => absurd hc q)
theorem v_icmp_eq_f {x y : Int32} {off : Int} (tgt : Nat) (hdg : decode μ.2.1 pc = .ok (.if_icmp .eq off, 3)) (ht : (pc : Int) + off = (tgt : Int)) (hc : ¬ (x = y)) (k2 : V G μ (pc + 3) ls st h κ o) : V G μ pc ls (.int y :: .int x :: st) h κ o := by
  intro r h' ho p e s m args below meth c H locs lsA C hK hI hP hS hL
  exact lv_icmp_eq C.1 C.2.1 hdg ht (fun q => absurd q hc) (fun _ => k2 r h' ho p e s m args below meth c H locs lsA C hK hI hP hS hL)
theorem v_if_ne {x : Int32} {o1 o2 : Option (ρ × Hp)} {off : Int} (tgt : Nat) (hdg : decode μ.2.1 pc = .ok (.ifCond .ne off, 3)) (ht : (pc : Int) + off = (tgt : Int)) (k1 : x = 0 → V G μ (pc + 3) ls st h κ o1) (k2 : ¬ (x = 0) → V G μ tgt ls st h κ o2) : V G μ pc ls (.int x :: st) h κ (if x = 0 then o1 else o2) := by
  intro r h' ho p e s m args below meth c H locs lsA C hK hI hP hS hL
  exact lv_if_ne C.1 C.2.1 hdg ht (fun hc => k2 hc r h' (by rw [if_neg hc] at ho; exact ho) p e s m args below meth c H locs lsA C hK hI hP hS hL) (fun hc => k1 hc r h' (by rw [if_pos hc] at ho; exact ho) p e s m args below meth c H locs lsA C hK hI hP hS hL)
theorem v_if_ne_t {x : Int32} {off : Int} (tgt : Nat) (hdg : decode μ.2.1 pc = .ok (.ifCond .ne off, 3)) (ht : (pc : Int) + off = (tgt : Int)) (hc : x = 0) (k1 : V G μ (pc + 3) ls st h κ o) : V G μ pc ls (.int x :: st) h κ o := by
  intro r h' ho p e s m args below meth c H locs lsA C hK hI hP hS hL
  exact lv_if_ne C.1 C.2.1 hdg ht (fun q => absurd hc q) (fun _ => k1 r h' ho p e s m args below meth c H locs lsA C hK hI hP hS hL)
theorem v_if_ne_f {x : Int32} {off : Int} (tgt : Nat) (hdg : decode μ.2.1 pc = .ok (.ifCond .ne off, 3)) (ht : (pc : Int) + off = (tgt : Int)) (hc : ¬ (x = 0)) (k2 : V G μ tgt ls st h κ o) : V G μ pc ls (.int x :: st) h κ o := by
  intro r h' ho p e s m args below meth c H locs lsA C hK hI hP hS hL
  exact lv_if_ne C.1 C.2.1 hdg ht (fun _ => k2 r h' ho p e s m args below meth c H locs lsA C hK hI hP hS hL) (fun q => absurd q hc)
theorem v_icmp_ne {x y : Int32} {o1 o2 : Option (ρ × Hp)} {off : Int} (tgt : Nat) (hdg : decode μ.2.1 pc = .ok (.if_icmp .ne off, 3)) (ht : (pc : Int) + off = (tgt : Int)) (k1 : x = y → V G μ (pc + 3) ls st h κ o1) (k2 : ¬ (x = y) → V G μ tgt ls st h κ o2) : V G μ pc ls (.int y :: .int x :: st) h κ (if x = y then o1 else o2) := by
  intro r h' ho p e s m args below meth c H locs lsA C hK hI hP hS hL
  exact lv_icmp_ne C.1 C.2.1 hdg ht (fun hc => k2 hc r h' (by rw [if_neg hc] at ho; exact ho) p e s m args below meth c H locs lsA C hK hI hP hS hL) (fun hc => k1 hc r h' (by rw [if_pos hc] at ho; exact ho) p e s m args below meth c H locs lsA C hK hI hP hS hL)
theorem v_icmp_ne_t {x y : Int32} {off : Int} (tgt : Nat) (hdg : decode μ.2.1 pc = .ok (.if_icmp .ne off, 3)) (ht : (pc : Int) + off = (tgt : Int)) (hc : x = y) (k1 : V G μ (pc + 3) ls st h κ o) : V G μ pc ls (.int y :: .int x :: st) h κ o := by
  intro r h' ho p e s m args below meth c H locs lsA C hK hI hP hS hL
  exact lv_icmp_ne C.1 C.2.1 hdg ht (fun q => absurd hc q) (fun _ => k1 r h' ho p e s m args below meth c H locs lsA C hK hI hP hS hL)
theorem v_icmp_ne_f {x y : Int32} {off : Int} (tgt : Nat) (hdg : decode μ.2.1 pc = .ok (.if_icmp .ne off, 3)) (ht : (pc : Int) + off = (tgt : Int)) (hc : ¬ (x = y)) (k2 : V G μ tgt ls st h κ o) : V G μ pc ls (.int y :: .int x :: st) h κ o := by
  intro r h' ho p e s m args below meth c H locs lsA C hK hI hP hS hL
  exact lv_icmp_ne C.1 C.2.1 hdg ht (fun _ => k2 r h' ho p e s m args below meth c H locs lsA C hK hI hP hS hL) (fun q => absurd q hc)
theorem v_if_lt {x : Int32} {o1 o2 : Option (ρ × Hp)} {off : Int} (tgt : Nat) (hdg : decode μ.2.1 pc = .ok (.ifCond .lt off, 3)) (ht : (pc : Int) + off = (tgt : Int)) (k1 : x < 0 → V G μ tgt ls st h κ o1) (k2 : ¬ (x < 0) → V G μ (pc + 3) ls st h κ o2) : V G μ pc ls (.int x :: st) h κ (if x < 0 then o1 else o2) := by
  intro r h' ho p e s m args below meth c H locs lsA C hK hI hP hS hL
  exact lv_if_lt C.1 C.2.1 hdg ht (fun hc => k1 hc r h' (by rw [if_pos hc] at ho; exact ho) p e s m args below meth c H locs lsA C hK hI hP hS hL) (fun hc => k2 hc r h' (by rw [if_neg hc] at ho; exact ho) p e s m args below meth c H locs lsA C hK hI hP hS hL)
theorem v_if_lt_t {x : Int32} {off : Int} (tgt : Nat) (hdg : decode μ.2.1 pc = .ok (.ifCond .lt off, 3)) (ht : (pc : Int) + off = (tgt : Int)) (hc : x < 0) (k1 : V G μ tgt ls st h κ o) : V G μ pc ls (.int x :: st) h κ o := by
  intro r h' ho p e s m args below meth c H locs lsA C hK hI hP hS hL
  exact lv_if_lt C.1 C.2.1 hdg ht (fun _ => k1 r h' ho p e s m args below meth c H locs lsA C hK hI hP hS hL) (fun q => absurd hc q)
theorem v_if_lt_f {x : Int32} {off : Int} (tgt : Nat) (hdg : decode μ.2.1 pc = .ok (.ifCond .lt off, 3)) (ht : (pc : Int) + off = (tgt : Int)) (hc : ¬ (x < 0)) (k2 : V G μ (pc + 3) ls st h κ o) : V G μ pc ls (.int x :: st) h κ o := by
  intro r h' ho p e s m args below meth c H locs lsA C hK hI hP hS hL
  exact lv_if_lt C.1 C.2.1 hdg ht (fun q => absurd q hc) (fun _ => k2 r h' ho p e s m args below meth c H locs lsA C hK hI hP hS hL)
theorem v_icmp_lt {x y : Int32} {o1 o2 : Option (ρ × Hp)} {off : Int} (tgt : Nat) (hdg : decode μ.2.1 pc = .ok (.if_icmp .lt off, 3)) (ht : (pc : Int) + off = (tgt : Int)) (k1 : x < y → V G μ tgt ls st h κ o1) (k2 : ¬ (x < y) → V G μ (pc + 3) ls st h κ o2) : V G μ pc ls (.int y :: .int x :: st) h κ (if x < y then o1 else o2) := by
  intro r h' ho p e s m args below meth c H locs lsA C hK hI hP hS hL
  exact lv_icmp_lt C.1 C.2.1 hdg ht (fun hc => k1 hc r h' (by rw [if_pos hc] at ho; exact ho) p e s m args below meth c H locs lsA C hK hI hP hS hL) (fun hc => k2 hc r h' (by rw [if_neg hc] at ho; exact ho) p e s m args below meth c H locs lsA C hK hI hP hS hL)
theorem v_icmp_lt_t {x y : Int32} {off : Int} (tgt : Nat) (hdg : decode μ.2.1 pc = .ok (.if_icmp .lt off, 3)) (ht : (pc : Int) + off = (tgt : Int)) (hc : x < y) (k1 : V G μ tgt ls st h κ o) : V G μ pc ls (.int y :: .int x :: st) h κ o := by
  intro r h' ho p e s m args below meth c H locs lsA C hK hI hP hS hL
  exact lv_icmp_lt C.1 C.2.1 hdg ht (fun _ => k1 r h' ho p e s m args below meth c H locs lsA C hK hI hP hS hL) (fun q => absurd hc q)
theorem v_icmp_lt_f {x y : Int32} {off : Int} (tgt : Nat) (hdg : decode μ.2.1 pc = .ok (.if_icmp .lt off, 3)) (ht : (pc : Int) + off = (tgt : Int)) (hc : ¬ (x < y)) (k2 : V G μ (pc + 3) ls st h κ o) : V G μ pc ls (.int y :: .int x :: st) h κ o := by
  intro r h' ho p e s m args below meth c H locs lsA C hK hI hP hS hL
  exact lv_icmp_lt C.1 C.2.1 hdg ht (fun q => absurd q hc) (fun _ => k2 r h' ho p e s m args below meth c H locs lsA C hK hI hP hS hL)
theorem v_if_ge {x : Int32} {o1 o2 : Option (ρ × Hp)} {off : Int} (tgt : Nat) (hdg : decode μ.2.1 pc = .ok (.ifCond .ge off, 3)) (ht : (pc : Int) + off = (tgt : Int)) (k1 : 0 ≤ x → V G μ tgt ls st h κ o1) (k2 : ¬ (0 ≤ x) → V G μ (pc + 3) ls st h κ o2) : V G μ pc ls (.int x :: st) h κ (if 0 ≤ x then o1 else o2) := by
  intro r h' ho p e s m args below meth c H locs lsA C hK hI hP hS hL
  exact lv_if_ge C.1 C.2.1 hdg ht (fun hc => k1 hc r h' (by rw [if_pos hc] at ho; exact ho) p e s m args below meth c H locs lsA C hK hI hP hS hL) (fun hc => k2 hc r h' (by rw [if_neg hc] at ho; exact ho) p e s m args below meth c H locs lsA C hK hI hP hS hL)
theorem v_if_ge_t {x : Int32} {off : Int} (tgt : Nat) (hdg : decode μ.2.1 pc = .ok (.ifCond .ge off, 3)) (ht : (pc : Int) + off = (tgt : Int)) (hc : 0 ≤ x) (k1 : V G μ tgt ls st h κ o) : V G μ pc ls (.int x :: st) h κ o := by
  intro r h' ho p e s m args below meth c H locs lsA C hK hI hP hS hL
  exact lv_if_ge C.1 C.2.1 hdg ht (fun _ => k1 r h' ho p e s m args below meth c H locs lsA C hK hI hP hS hL) (fun q => absurd hc q)
theorem v_if_ge_f {x : Int32} {off : Int} (tgt : Nat) (hdg : decode μ.2.1 pc = .ok (.ifCond .ge off, 3)) (ht : (pc : Int) + off = (tgt : Int)) (hc : ¬ (0 ≤ x)) (k2 : V G μ (pc + 3) ls st h κ o) : V G μ pc ls (.int x :: st) h κ o := by
  intro r h' ho p e s m args below meth c H locs lsA C hK hI hP hS hL
  exact lv_if_ge C.1 C.2.1 hdg ht (fun q => absurd q hc) (fun _ => k2 r h' ho p e s m args below meth c H locs lsA C hK hI hP hS hL)
theorem v_icmp_ge {x y : Int32} {o1 o2 : Option (ρ × Hp)} {off : Int} (tgt : Nat) (hdg : decode μ.2.1 pc = .ok (.if_icmp .ge off, 3)) (ht : (pc : Int) + off = (tgt : Int)) (k1 : y ≤ x → V G μ tgt ls st h κ o1) (k2 : ¬ (y ≤ x) → V G μ (pc + 3) ls st h κ o2) : V G μ pc ls (.int y :: .int x :: st) h κ (if y ≤ x then o1 else o2) := by
  intro r h' ho p e s m args below meth c H locs lsA C hK hI hP hS hL
  exact lv_icmp_ge C.1 C.2.1 hdg ht (fun hc => k1 hc r h' (by rw [if_pos hc] at ho; exact ho) p e s m args below meth c H locs lsA C hK hI hP hS hL) (fun hc => k2 hc r h' (by rw [if_neg hc] at ho; exact ho) p e s m args below meth c H locs lsA C hK hI hP hS hL)
theorem v_icmp_ge_t {x y : Int32} {off : Int} (tgt : Nat) (hdg : decode μ.2.1 pc = .ok (.if_icmp .ge off, 3)) (ht : (pc : Int) + off = (tgt : Int)) (hc : y ≤ x) (k1 : V G μ tgt ls st h κ o) : V G μ pc ls (.int y :: .int x :: st) h κ o := by
  intro r h' ho p e s m args below meth c H locs lsA C hK hI hP hS hL
  exact lv_icmp_ge C.1 C.2.1 hdg ht (fun _ => k1 r h' ho p e s m args below meth c H locs lsA C hK hI hP hS hL) (fun q => absurd hc q)
theorem v_icmp_ge_f {x y : Int32} {off : Int} (tgt : Nat) (hdg : decode μ.2.1 pc = .ok (.if_icmp .ge off, 3)) (ht : (pc : Int) + off = (tgt : Int)) (hc : ¬ (y ≤ x)) (k2 : V G μ (pc + 3) ls st h κ o) : V G μ pc ls (.int y :: .int x :: st) h κ o := by
  intro r h' ho p e s m args below meth c H locs lsA C hK hI hP hS hL
  exact lv_icmp_ge C.1 C.2.1 hdg ht (fun q => absurd q hc) (fun _ => k2 r h' ho p e s m args below meth c H locs lsA C hK hI hP hS hL)
theorem v_if_gt {x : Int32} {o1 o2 : Option (ρ × Hp)} {off : Int} (tgt : Nat) (hdg : decode μ.2.1 pc = .ok (.ifCond .gt off, 3)) (ht : (pc : Int) + off = (tgt : Int)) (k1 : 0 < x → V G μ tgt ls st h κ o1) (k2 : ¬ (0 < x) → V G μ (pc + 3) ls st h κ o2) : V G μ pc ls (.int x :: st) h κ (if 0 < x then o1 else o2) := by
  intro r h' ho p e s m args below meth c H locs lsA C hK hI hP hS hL
  exact lv_if_gt C.1 C.2.1 hdg ht (fun hc => k1 hc r h' (by rw [if_pos hc] at ho; exact ho) p e s m args below meth c H locs lsA C hK hI hP hS hL) (fun hc => k2 hc r h' (by rw [if_neg hc] at ho; exact ho) p e s m args below meth c H locs lsA C hK hI hP hS hL)
theorem v_if_gt_t {x : Int32} {off : Int} (tgt : Nat) (hdg : decode μ.2.1 pc = .ok (.ifCond .gt off, 3)) (ht : (pc : Int) + off = (tgt : Int)) (hc : 0 < x) (k1 : V G μ tgt ls st h κ o) : V G μ pc ls (.int x :: st) h κ o := by
  intro r h' ho p e s m args below meth c H locs lsA C hK hI hP hS hL
  exact lv_if_gt C.1 C.2.1 hdg ht (fun _ => k1 r h' ho p e s m args below meth c H locs lsA C hK hI hP hS hL) (fun q => absurd hc q)
theorem v_if_gt_f {x : Int32} {off : Int} (tgt : Nat) (hdg : decode μ.2.1 pc = .ok (.ifCond .gt off, 3)) (ht : (pc : Int) + off = (tgt : Int)) (hc : ¬ (0 < x)) (k2 : V G μ (pc + 3) ls st h κ o) : V G μ pc ls (.int x :: st) h κ o := by
  intro r h' ho p e s m args below meth c H locs lsA C hK hI hP hS hL
  exact lv_if_gt C.1 C.2.1 hdg ht (fun q => absurd q hc) (fun _ => k2 r h' ho p e s m args below meth c H locs lsA C hK hI hP hS hL)
theorem v_icmp_gt {x y : Int32} {o1 o2 : Option (ρ × Hp)} {off : Int} (tgt : Nat) (hdg : decode μ.2.1 pc = .ok (.if_icmp .gt off, 3)) (ht : (pc : Int) + off = (tgt : Int)) (k1 : y < x → V G μ tgt ls st h κ o1) (k2 : ¬ (y < x) → V G μ (pc + 3) ls st h κ o2) : V G μ pc ls (.int y :: .int x :: st) h κ (if y < x then o1 else o2) := by
  intro r h' ho p e s m args below meth c H locs lsA C hK hI hP hS hL
  exact lv_icmp_gt C.1 C.2.1 hdg ht (fun hc => k1 hc r h' (by rw [if_pos hc] at ho; exact ho) p e s m args below meth c H locs lsA C hK hI hP hS hL) (fun hc => k2 hc r h' (by rw [if_neg hc] at ho; exact ho) p e s m args below meth c H locs lsA C hK hI hP hS hL)
theorem v_icmp_gt_t {x y : Int32} {off : Int} (tgt : Nat) (hdg : decode μ.2.1 pc = .ok (.if_icmp .gt off, 3)) (ht : (pc : Int) + off = (tgt : Int)) (hc : y < x) (k1 : V G μ tgt ls st h κ o) : V G μ pc ls (.int y :: .int x :: st) h κ o := by
  intro r h' ho p e s m args below meth c H locs lsA C hK hI hP hS hL
  exact lv_icmp_gt C.1 C.2.1 hdg ht (fun _ => k1 r h' ho p e s m args below meth c H locs lsA C hK hI hP hS hL) (fun q => absurd hc q)
theorem v_icmp_gt_f {x y : Int32} {off : Int} (tgt : Nat) (hdg : decode μ.2.1 pc = .ok (.if_icmp .gt off, 3)) (ht : (pc : Int) + off = (tgt : Int)) (hc : ¬ (y < x)) (k2 : V G μ (pc + 3) ls st h κ o) : V G μ pc ls (.int y :: .int x :: st) h κ o := by
  intro r h' ho p e s m args below meth c H locs lsA C hK hI hP hS hL
  exact lv_icmp_gt C.1 C.2.1 hdg ht (fun q => absurd q hc) (fun _ => k2 r h' ho p e s m args below meth c H locs lsA C hK hI hP hS hL)
theorem v_if_le {x : Int32} {o1 o2 : Option (ρ × Hp)} {off : Int} (tgt : Nat) (hdg : decode μ.2.1 pc = .ok (.ifCond .le off, 3)) (ht : (pc : Int) + off = (tgt : Int)) (k1 : x ≤ 0 → V G μ tgt ls st h κ o1) (k2 : ¬ (x ≤ 0) → V G μ (pc + 3) ls st h κ o2) : V G μ pc ls (.int x :: st) h κ (if x ≤ 0 then o1 else o2) := by
  intro r h' ho p e s m args below meth c H locs lsA C hK hI hP hS hL
  exact lv_if_le C.1 C.2.1 hdg ht (fun hc => k1 hc r h' (by rw [if_pos hc] at ho; exact ho) p e s m args below meth c H locs lsA C hK hI hP hS hL) (fun hc => k2 hc r h' (by rw [if_neg hc] at ho; exact ho) p e s m args below meth c H locs lsA C hK hI hP hS hL)
theorem v_if_le_t {x : Int32} {off : Int} (tgt : Nat) (hdg : decode μ.2.1 pc = .ok (.ifCond .le off, 3)) (ht : (pc : Int) + off = (tgt : Int)) (hc : x ≤ 0) (k1 : V G μ tgt ls st h κ o) : V G μ pc ls (.int x :: st) h κ o := by
  intro r h' ho p e s m args below meth c H locs lsA C hK hI hP hS hL
  exact lv_if_le C.1 C.2.1 hdg ht (fun _ => k1 r h' ho p e s m args below meth c H locs lsA C hK hI hP hS hL) (fun q => absurd hc q)
theorem v_if_le_f {x : Int32} {off : Int} (tgt : Nat) (hdg : decode μ.2.1 pc = .ok (.ifCond .le off, 3)) (ht : (pc : Int) + off = (tgt : Int)) (hc : ¬ (x ≤ 0)) (k2 : V G μ (pc + 3) ls st h κ o) : V G μ pc ls (.int x :: st) h κ o := by
  intro r h' ho p e s m args below meth c H locs lsA C hK hI hP hS hL
  exact lv_if_le C.1 C.2.1 hdg ht (fun q => absurd q hc) (fun _ => k2 r h' ho p e s m args below meth c H locs lsA C hK hI hP hS hL)
theorem v_icmp_le {x y : Int32} {o1 o2 : Option (ρ × Hp)} {off : Int} (tgt : Nat) (hdg : decode μ.2.1 pc = .ok (.if_icmp .le off, 3)) (ht : (pc : Int) + off = (tgt : Int)) (k1 : x ≤ y → V G μ tgt ls st h κ o1) (k2 : ¬ (x ≤ y) → V G μ (pc + 3) ls st h κ o2) : V G μ pc ls (.int y :: .int x :: st) h κ (if x ≤ y then o1 else o2) := by
  intro r h' ho p e s m args below meth c H locs lsA C hK hI hP hS hL
  exact lv_icmp_le C.1 C.2.1 hdg ht (fun hc => k1 hc r h' (by rw [if_pos hc] at ho; exact ho) p e s m args below meth c H locs lsA C hK hI hP hS hL) (fun hc => k2 hc r h' (by rw [if_neg hc] at ho; exact ho) p e s m args below meth c H locs lsA C hK hI hP hS hL)
theorem v_icmp_le_t {x y : Int32} {off : Int} (tgt : Nat) (hdg : decode μ.2.1 pc = .ok (.if_icmp .le off, 3)) (ht : (pc : Int) + off = (tgt : Int)) (hc : x ≤ y) (k1 : V G μ tgt ls st h κ o) : V G μ pc ls (.int y :: .int x :: st) h κ o := by
  intro r h' ho p e s m args below meth c H locs lsA C hK hI hP hS hL
  exact lv_icmp_le C.1 C.2.1 hdg ht (fun _ => k1 r h' ho p e s m args below meth c H locs lsA C hK hI hP hS hL) (fun q => absurd hc q)
theorem v_icmp_le_f {x y : Int32} {off : Int} (tgt : Nat) (hdg : decode μ.2.1 pc = .ok (.if_icmp .le off, 3)) (ht : (pc : Int) + off = (tgt : Int)) (hc : ¬ (x ≤ y)) (k2 : V G μ (pc + 3) ls st h κ o) : V G μ pc ls (.int y :: .int x :: st) h κ o := by
  intro r h' ho p e s m args below meth c H locs lsA C hK hI hP hS hL
  exact lv_icmp_le C.1 C.2.1 hdg ht (fun q => absurd q hc) (fun _ => k2 r h' ho p e s m args below meth c H locs lsA C hK hI hP hS hL)
theorem v_ite {P : Prop} [Decidable P] {o1 o2 : Option (ρ × Hp)} (k1 : P → V G μ pc ls st h κ o1) (k2 : ¬ P → V G μ pc ls st h κ o2) : V G μ pc ls st h κ (if P then o1 else o2) := by
  by_cases hc : P
  · rw [if_pos hc]; exact k1 hc
  · rw [if_neg hc]; exact k2 hc
theorem v_tabIn {dflt lo hi off : Int} {offs : Array Int} {len : Nat} {x : Int32} (tgt : Nat) (hdg : decode μ.2.1 pc = .ok (.tableswitch dflt lo hi offs, len)) (h1 : ¬ x.toInt < lo) (h2 : ¬ hi < x.toInt) (ho : offs[(x.toInt - lo).toNat]? = some off) (ht : (pc : Int) + off = (tgt : Int)) (k : V G μ tgt ls st h κ o) : V G μ pc ls (.int x :: st) h κ o := by
  intro r h' hoo p e s m args below meth c H locs lsA C hK hI hP hS hL
  exact lv_tableIn C.1 C.2.1 hdg h1 h2 ho ht (k r h' hoo p e s m args below meth c H locs lsA C hK hI hP hS hL)
theorem v_tabOut {dflt lo hi : Int} {offs : Array Int} {len : Nat} {x : Int32} (tgt : Nat) (hdg : decode μ.2.1 pc = .ok (.tableswitch dflt lo hi offs, len)) (h1 : x.toInt < lo ∨ hi < x.toInt) (ht : (pc : Int) + dflt = (tgt : Int)) (k : V G μ tgt ls st h κ o) : V G μ pc ls (.int x :: st) h κ o := by
  intro r h' hoo p e s m args below meth c H locs lsA C hK hI hP hS hL
  exact lv_tableOut C.1 C.2.1 hdg h1 ht (k r h' hoo p e s m args below meth c H locs lsA C hK hI hP hS hL)
theorem v_lookup {dflt : Int} {ps : Array (Int × Int)} {len : Nat} {x : Int32} {off : Int} (tgt : Nat) (hdg : decode μ.2.1 pc = .ok (.lookupswitch dflt ps, len)) (hp : (ps.toList.zip (ps.toList.drop 1)).all (fun (a, next) => a.1 < next.1) = true) (ho : Op.lookupswitch.offset ps.toList dflt x.toInt = off) (ht : (pc : Int) + off = (tgt : Int)) (k : V G μ tgt ls st h κ o) : V G μ pc ls (.int x :: st) h κ o := by
  intro r h' hoo p e s m args below meth c H locs lsA C hK hI hP hS hL
  exact lv_lookup C.1 C.2.1 hdg hp ho ht (k r h' hoo p e s m args below meth c H locs lsA C hK hI hP hS hL)
/-- a field's link, as the tables have it -/
def FL (cls : String) (idx ci k : Nat) : Prop := ∃ q, classes[ci]? = some q ∧ k < q.2.2 ∧ (Cond.fieldLink cls idx q.1 (q.2.1 k).2.1 (q.2.1 k).2.2.1 ∈ lwg ∨ ∃ host, Cond.fieldLinkNest cls idx q.1 (q.2.1 k).2.1 (q.2.1 k).2.2.1 host ∈ nestW) ∧ (q.2.1 k).1 = q.1
def FT (ci k : Nat) (ty : FieldType) : Prop := ∃ q, classes[ci]? = some q ∧ (q.2.1 k).2.2.2 = false ∧ parseFieldDescriptor (q.2.1 k).2.2.1 = some ty
theorem cl_ok : ∀ (ci : Nat) (q : vw_C), classes[ci]? = some q → (∀ w ∈ u_ws q.1 q.2.1 q.2.2, w ∈ lwg) ∧ (∃ ty0 : Nat → FieldType, ∀ k, k < q.2.2 → parseFieldDescriptor (q.2.1 k).2.2.1 = some (ty0 k)) ∧ (∀ a, a < q.2.2 → ∀ b, b < q.2.2 → a ≠ b → (q.2.1 a).2.1 ≠ (q.2.1 b).2.1)
  | 0, _, h => by cases h; exact ⟨inX0, ⟨tyX0, tyX0_ok⟩, nmX0⟩
  | 1, _, h => by cases h; exact ⟨inX1, ⟨tyX1, tyX1_ok⟩, nmX1⟩
  | 2, _, h => by cases h; exact ⟨inX2, ⟨tyX2, tyX2_ok⟩, nmX2⟩
  | 3, _, h => by cases h; exact ⟨inX3, ⟨tyX3, tyX3_ok⟩, nmX3⟩
  | 4, _, h => by cases h; exact ⟨inX4, ⟨tyX4, tyX4_ok⟩, nmX4⟩
  | 5, _, h => by cases h; exact ⟨inX5, ⟨tyX5, tyX5_ok⟩, nmX5⟩
  | 6, _, h => by cases h; exact ⟨inX6, ⟨tyX6, tyX6_ok⟩, nmX6⟩
  | n + 7, _, h => by simp [classes] at h
theorem v_getv {ci a k idx : Nat} {v : Value} (hF : FL μ.1.cls idx ci k) (hO : isO ci a) (hv : (cellF G h a (flds ci))[k]? = some v) (hdg : decode μ.2.1 pc = .ok (.getfield idx, 3)) (kk : V G μ (pc + 3) ls (v :: st) h κ o) : V G μ pc ls (.ref (ad G a) :: st) h κ o := by
  intro r h' ho p e s m args below meth c H locs lsA C hK hI hP hS hL
  obtain ⟨⟨q1, q2, q3⟩, hq, hk, hl, hs⟩ := hF
  dsimp only at hk hl hs
  have hin := (cl_ok ci _ hq).1
  rcases hl with hl | ⟨host, hl⟩
  · exact va_get C.1 C.2.1 (fun w hw => C.word hw) hin C.2.2.2.2.1 hK.1 hP a (cell_O hO) hq k hk (C.word hl) (fun x hx => by rw [← hs]; exact hx) hv hdg (kk r h' ho p e s m args below meth c H locs lsA C hK hI hP hS hL)
  · exact va_getN C.1 C.2.1 (fun w hw => C.word hw) hin C.2.2.2.2.1 hK.1 hP a (cell_O hO) hq k hk (va_Nw.use rfl (hK.2 _ hl)) (fun x hx => by rw [← hs]; exact hx) hv hdg (kk r h' ho p e s m args below meth c H locs lsA C hK hI hP hS hL)
theorem v_geti {ci a k idx : Nat} (hF : FL μ.1.cls idx ci k) (hO : isO ci a) (hk : (flds ci)[k]? = some none) (hdg : decode μ.2.1 pc = .ok (.getfield idx, 3)) (kk : V G μ (pc + 3) ls (.int (h a k) :: st) h κ o) : V G μ pc ls (.ref (ad G a) :: st) h κ o := v_getv hF hO (cellF_i hk) hdg kk
theorem v_getr {ci a k idx d : Nat} (b : Nat) (hF : FL μ.1.cls idx ci k) (hO : isO ci a) (hk : (flds ci)[k]? = some (some d)) (hb : a + d = b) (hdg : decode μ.2.1 pc = .ok (.getfield idx, 3)) (kk : V G μ (pc + 3) ls (.ref (ad G b) :: st) h κ o) : V G μ pc ls (.ref (ad G a) :: st) h κ o := v_getv hF hO (cellF_r hk) hdg (by rw [hb]; exact kk)
theorem v_puti {ci a k idx : Nat} {x : Int32} {ty : FieldType} (hF : FL μ.1.cls idx ci k) (hT : FT ci k ty) (hn : narrow ty (.int x) = .int x) (hfit : fits ty (.int x) = true) (hO : isO ci a) (hk : (flds ci)[k]? = some none) (hdg : decode μ.2.1 pc = .ok (.putfield idx, 3)) (kk : V G μ (pc + 3) ls st (hset h a k x) κ o) : V G μ pc ls (.int x :: .ref (ad G a) :: st) h κ o := by
  intro r h' ho p e s m args below meth c H locs lsA C hK hI hP hS hL
  obtain ⟨⟨q1, q2, q3⟩, hq, hk1, hl, hs⟩ := hF
  obtain ⟨q', hq', hfin, hd⟩ := hT
  cases hq.symm.trans hq'
  dsimp only at hk1 hl hs
  obtain ⟨hin, ⟨ty0, hty⟩, hnm⟩ := cl_ok ci _ hq
  have hlen : k < (cellF G h a (flds ci)).length := (List.getElem?_eq_some_iff.mp (cellF_i (G := G) (h := h) (a := a) hk)).1
  rcases hl with hl | ⟨host, hl⟩
  · exact va_put C.1 C.2.1 (fun w hw => C.word hw) hin ty0 hty hnm C.2.2.2.2.1 hK.1 hP (world_D hI) hS a (cell_O hO) hq k hk1 (C.word hl) (fun x hx => by rw [← hs]; exact hx) hfin hd hn hfit hlen hdg
      (fun H1 locs1 hP1 _ hS1 => by rw [set_O hO hk] at hP1; exact kk r h' ho p e s m args below meth c H1 locs1 lsA C hK hI hP1 hS1 hL)
  · exact va_putN C.1 C.2.1 (fun w hw => C.word hw) hin ty0 hty hnm C.2.2.2.2.1 hK.1 hP (world_D hI) hS a (cell_O hO) hq k hk1 (va_Nw.use rfl (hK.2 _ hl)) (fun x hx => by rw [← hs]; exact hx) hfin hd hn hfit hlen hdg
      (fun H1 locs1 hP1 _ hS1 => by rw [set_O hO hk] at hP1; exact kk r h' ho p e s m args below meth c H1 locs1 lsA C hK hI hP1 hS1 hL)
theorem v_iald {n b a : Nat} {i : Int32} (hA : isA 0 n b a) (hdg : decode μ.2.1 pc = .ok (.iaload, 1)) (kk : V G μ (pc + 1) ls (.int (h a (ix i)) :: st) h κ o) : V G μ pc ls (.int i :: .ref (ad G a) :: st) h κ (chk n i o) := by
  intro r h' ho p e s m args below meth c H locs lsA C hK hI hP hS hL
  obtain ⟨hi, ho⟩ := chk_some ho
  exact va_iald C.1 C.2.1 hK.1 hP a 0 (cell_A hA (by decide)) rfl (inb_in hi) hdg (kk r h' ho p e s m args below meth c H locs lsA C hK hI hP hS hL)
theorem v_zald {n b a : Nat} {i : Int32} (hA : isA 1 n b a) (hdg : decode μ.2.1 pc = .ok (.baload, 1)) (kk : V G μ (pc + 1) ls (.int (h a (ix i)) :: st) h κ o) : V G μ pc ls (.int i :: .ref (ad G a) :: st) h κ (chk n i o) := by
  intro r h' ho p e s m args below meth c H locs lsA C hK hI hP hS hL
  obtain ⟨hi, ho⟩ := chk_some ho
  exact va_zald C.1 C.2.1 hK.1 hP a 1 (cell_A hA (by decide)) rfl (inb_in hi) hdg (kk r h' ho p e s m args below meth c H locs lsA C hK hI hP hS hL)
theorem v_iast {n b a : Nat} {i x : Int32} (hA : isA 0 n b a) (hdg : decode μ.2.1 pc = .ok (.iastore, 1)) (kk : V G μ (pc + 1) ls st (hset h a (ix i) x) κ o) : V G μ pc ls (.int x :: .int i :: .ref (ad G a) :: st) h κ (chk n i o) := by
  intro r h' ho p e s m args below meth c H locs lsA C hK hI hP hS hL
  obtain ⟨hi, ho⟩ := chk_some ho
  exact va_iast C.1 C.2.1 hK.1 hP (world_D hI) hS a 0 (cell_A hA (by decide)) rfl (inb_in hi) hdg (fun H1 locs1 hP1 _ hS1 => by rw [set_A hA (by decide)] at hP1; exact kk r h' ho p e s m args below meth c H1 locs1 lsA C hK hI hP1 hS1 hL)
theorem v_zast {n b a : Nat} {i x : Int32} (hx : vp_nar .boolean x = x) (hA : isA 1 n b a) (hdg : decode μ.2.1 pc = .ok (.bastore, 1)) (kk : V G μ (pc + 1) ls st (hset h a (ix i) x) κ o) : V G μ pc ls (.int x :: .int i :: .ref (ad G a) :: st) h κ (chk n i o) := by
  intro r h' ho p e s m args below meth c H locs lsA C hK hI hP hS hL
  obtain ⟨hi, ho⟩ := chk_some ho
  exact va_zast C.1 C.2.1 hK.1 hP (world_D hI) hS a 1 (cell_A hA (by decide)) rfl (inb_in hi) hdg (fun H1 locs1 hP1 _ hS1 => by rw [hx, set_A hA (by decide)] at hP1; exact kk r h' ho p e s m args below meth c H1 locs1 lsA C hK hI hP1 hS1 hL)
theorem v_aald2 {n b a : Nat} {i : Int32} (d : Nat) (hd : b + 2 * ix i = d) (hA : isA 2 n b a) (hdg : decode μ.2.1 pc = .ok (.aaload, 1)) (kk : inb i n = true → V G μ (pc + 1) ls (.ref (ad G d) :: st) h κ o) : V G μ pc ls (.int i :: .ref (ad G a) :: st) h κ (chk n i o) := by
  intro r h' ho p e s m args below meth c H locs lsA C hK hI hP hS hL
  obtain ⟨hi, ho⟩ := chk_some ho
  exact va_aldq C.1 C.2.1 hK.1 hP a 2 (cell_R hA (by decide)) rfl (inb_in hi) hdg (by subst hd; exact kk hi r h' ho p e s m args below meth c H locs lsA C hK hI hP hS hL)
theorem v_aald3 {n b a : Nat} {i : Int32} (d : Nat) (hd : b + 2 * ix i = d) (hA : isA 3 n b a) (hdg : decode μ.2.1 pc = .ok (.aaload, 1)) (kk : inb i n = true → V G μ (pc + 1) ls (.ref (ad G d) :: st) h κ o) : V G μ pc ls (.int i :: .ref (ad G a) :: st) h κ (chk n i o) := by
  intro r h' ho p e s m args below meth c H locs lsA C hK hI hP hS hL
  obtain ⟨hi, ho⟩ := chk_some ho
  exact va_aldq C.1 C.2.1 hK.1 hP a 3 (cell_R hA (by decide)) rfl (inb_in hi) hdg (by subst hd; exact kk hi r h' ho p e s m args below meth c H locs lsA C hK hI hP hS hL)
theorem v_iret {x : Int32} (hr : μ.2.2.2.1 = some .int) (hdg : decode μ.2.1 pc = .ok (.ireturn, 1)) : V G μ pc ls [.int x] h κi (some (x, h)) := by
  intro r h' ho p e s m args below meth c H locs lsA C hK hI hP hS hL
  cases ho
  exact W.iret C.1 C.2.1 (C.2.2.1.trans hr) (fun t ht hW => ⟨rfl, by rw [ht]; exact hP, hS.F ht⟩) hS.2.2 hdg C.2.2.2.2.2.2
theorem v_zretL {x : Int32} (hr : μ.2.2.2.1 = some .boolean) (hn : narrow .boolean (.int x) = .int x) (hdg : decode μ.2.1 pc = .ok (.ireturn, 1)) : V G μ pc ls [.int x] h κi (some (x, h)) := by
  intro r h' ho p e s m args below meth c H locs lsA C hK hI hP hS hL
  cases ho
  exact W.zret C.1 C.2.1 (C.2.2.1.trans hr) hn (fun t ht hW => ⟨rfl, by rw [ht]; exact hP, hS.F ht⟩) hS.2.2 hdg C.2.2.2.2.2.2
theorem v_zret {x : Int32} (hr : μ.2.2.2.1 = some .boolean) (hdg : decode μ.2.1 pc = .ok (.ireturn, 1)) : V G μ pc ls [.int x] h κi (zret x h) := by
  unfold zret
  refine v_ite (fun hc => ?_) (fun _ => v_ite (fun hc => ?_) (fun _ r h' ho => by cases ho))
  · subst hc; exact v_zretL hr rfl hdg
  · subst hc; exact v_zretL hr rfl hdg
theorem v_lret {x : Int64} (hr : μ.2.2.2.1 = some .long) (hdg : decode μ.2.1 pc = .ok (.lreturn, 1)) : V G μ pc ls [.long x] h κl (some (x, h)) := by
  intro r h' ho p e s m args below meth c H locs lsA C hK hI hP hS hL
  cases ho
  exact W.lret C.1 C.2.1 (C.2.2.1.trans hr) (fun t ht hW => ⟨rfl, by rw [ht]; exact hP, hS.F ht⟩) hS.2.2 hdg C.2.2.2.2.2.2
theorem v_vret (hr : μ.2.2.2.1 = none) (hdg : decode μ.2.1 pc = .ok (.return_, 1)) : V G μ pc ls [] h κv (some ((), h)) := by
  intro r h' ho p e s m args below meth c H locs lsA C hK hI hP hS hL
  cases ho
  exact W.vret C.1 C.2.1 (C.2.2.1.trans hr) (fun t ht hW => ⟨rfl, by rw [ht]; exact hP, hS.F ht⟩) hS.2.2 hdg C.2.2.2.2.2.2
theorem v_aret {a : Nat} {nm : String} (hr : μ.2.2.2.1 = some (.object nm)) (hdg : decode μ.2.1 pc = .ok (.areturn, 1)) : V G μ pc ls [.ref (ad G a)] h (κr G) (some (a, h)) := by
  intro r h' ho p e s m args below meth c H locs lsA C hK hI hP hS hL
  cases ho
  exact W.aret C.1 C.2.1 (C.2.2.1.trans hr) (Or.inl ⟨_, rfl⟩) (Or.inr ⟨_, rfl⟩) (fun t ht hW => ⟨rfl, by rw [ht]; exact hP, hS.F ht⟩) hS.2.2 hdg C.2.2.2.2.2.2
theorem bnd_inv {σ τ : Type} {o : Option (σ × Hp)} {f : σ → Hp → Option τ} {q : τ} (h : bnd o f = some q) : ∃ r1 h1, o = some (r1, h1) ∧ f r1 h1 = some q := by
  cases o with
  | none => cases h
  | some z => exact ⟨z.1, z.2, rfl, h⟩
theorem v_after {σ : Type} {κz : σ → Option Value} {rest st0 : List Value} {oz : Option (σ × Hp)} {f : σ → Hp → Option (ρ × Hp)}
    (hrun : ∀ r1 h1, oz = some (r1, h1) → ∀ (p : Program) (e : Env) (s : State) (m : MethodId) (args : Array Value) (below : List Frame) (meth : Method) (c : Code) (H : Heap) (locs : List Loc) (lsA : Array Slot),
      Cx μ p s m args meth c → KK G s → wInj G → va_P G.2.2.1 classes (world G h) H → va_S (Aw G) s.heap H locs → lv_has lsA μ.2.2.1 ls →
      ∃ a, va_Run p G.1 e (rmOf μ) s m args below meth c H locs 0 0 0 0 (F0 m pc lsA st0) rest (Qc G κz r1 h1 a) (Aw G))
    (k : ∀ r1 h1, oz = some (r1, h1) → V G μ (pc + 3) ls ((κz r1).toList ++ rest) h1 κ (f r1 h1)) : V G μ pc ls st0 h κ (bnd oz f) := by
  intro r h' ho p e s m args below meth c H locs lsA C hK hI hP hS hL
  obtain ⟨r1, h1, hz, hf⟩ := bnd_inv ho
  obtain ⟨a, hr⟩ := hrun r1 h1 hz p e s m args below meth c H locs lsA C hK hI hP hS hL
  intro T hT X
  obtain ⟨v, st₀, t, T', L, h0, X', hLc, e1, e2, ⟨hv, hP1, hz1, hk1⟩, stp⟩ := hr T hT X
  cases hv
  rw [h0] at hz1 hk1
  have hS1 : va_S (Aw G) s.heap T'.heap (locs ++ L) := ⟨Nat.le_trans hS.1 (by rw [e1]; exact hz1), fun q g1 g2 => by rw [e1, hk1 q (Nat.lt_of_lt_of_le g1 hS.1) g2]; exact hS.2.1 q g1 g2, fun q hq => by
    rcases List.mem_append.mp hq with g | g
    · exact hS.2.2 q g
    · exact hLc q g⟩
  obtain ⟨t2, a1, b1⟩ := k r1 h1 hz r h' hf p e s m args below meth c T'.heap (locs ++ L) lsA C hK hI (by rw [e1]; exact hP1) hS1 hL T' rfl X'
  exact ⟨t2, stp t2 a1, b1⟩
theorem v_callV {σ : Type} {κz : σ → Option Value} {μz : Mt} {ci a idx n : Nat} {As rest st0 : List Value} {oz : Option (σ × Hp)} {f : σ → Hp → Option (ρ × Hp)}
    (hC : Cn G μz (.ref (ad G a) :: As) h κz oz) (hok : CallOK μ.1.cls idx μz n) (hin : InstOK μz ci) (hO : isO ci a) (hR : RoomOK μ μz) (hn : As.length = n) (hst : st0 = As.reverse ++ .ref (ad G a) :: rest) (hw : (rest.map fun v => v.category).sum ≤ 8) (hdg : decode μ.2.1 pc = .ok (.invokevirtual idx, 3))
    (k : ∀ r1 h1, oz = some (r1, h1) → V G μ (pc + 3) ls ((κz r1).toList ++ rest) h1 κ (f r1 h1)) : V G μ pc ls st0 h κ (bnd oz f) := by
  refine v_after (fun r1 h1 hz p e s m args below meth c H locs lsA C hK hI hP hS hL => ?_) k
  obtain ⟨hcode, hini, hlink, hd⟩ := hok
  obtain ⟨hinst, hsel, q, hq, hqc⟩ := hin
  have hcb := callB_of (R := rmOf μ) (rm := rmOf μz) (mc := 0) (ms := 0) n C.2.2.2.2.2.1 (C.call hcode) rfl rfl rfl (C.word hini) (C.word hlink) hd hR
  refine ⟨_, va_runV (As := As) (rest := rest) (C := μz.1.cls) ⟨C.1, C.2.1, C.2.2.2.1, C.2.2.2.2.1, C.2.2.2.2.2.1⟩ (hC r1 h1 hz) ⟨hcb, C.word hinst, C.word hsel⟩ ⟨WH.blind, ?_, fun U hU hW => ⟨rfl, by rw [hU]; exact hP, KK.warm hW hK, hI⟩⟩ rfl hn hL.1 hst (lv_room hw) hdg ⟨Nat.le_refl 0, Nat.le_refl 0⟩⟩
  obtain ⟨cell, g1, g2, g3⟩ := va_recv hK.1 hP hq (cell_O hO)
  exact ⟨cell, g1, g2, by rw [← hqc]; exact g3⟩
theorem v_callS {σ : Type} {κz : σ → Option Value} {μz : Mt} {idx n : Nat} {As rest st0 : List Value} {oz : Option (σ × Hp)} {f : σ → Hp → Option (ρ × Hp)}
    (hC : Cn G μz As h κz oz) (hok : CallOK μ.1.cls idx μz n) (hin : StatOK μz) (hR : RoomOK μ μz) (hn : As.length = n) (hst : st0 = As.reverse ++ rest) (hw : (rest.map fun v => v.category).sum ≤ 8) (hdg : decode μ.2.1 pc = .ok (.invokestatic idx, 3))
    (k : ∀ r1 h1, oz = some (r1, h1) → V G μ (pc + 3) ls ((κz r1).toList ++ rest) h1 κ (f r1 h1)) : V G μ pc ls st0 h κ (bnd oz f) := by
  refine v_after (fun r1 h1 hz p e s m args below meth c H locs lsA C hK hI hP hS hL => ?_) k
  obtain ⟨hcode, hini, hlink, hd⟩ := hok
  have hcb := callB_of (R := rmOf μ) (rm := rmOf μz) (mc := 0) (ms := 0) n C.2.2.2.2.2.1 (C.call hcode) rfl rfl rfl (C.word hini) (C.word hlink) hd hR
  exact ⟨_, va_runS (As := As) (rest := rest) ⟨C.1, C.2.1, C.2.2.2.1, C.2.2.2.2.1, C.2.2.2.2.2.1⟩ (hC r1 h1 hz) ⟨hcb, C.word hin⟩ ⟨WH.blind, fun U hU hW => ⟨rfl, by rw [hU]; exact hP, KK.warm hW hK, hI⟩⟩ rfl hn hL.1 hst (lv_room hw) hdg ⟨Nat.le_refl 0, Nat.le_refl 0⟩⟩
theorem v_callVi {μz : Mt} {ci a idx n : Nat} {As rest st0 : List Value} {oz : Option (Int32 × Hp)} {f : Int32 → Hp → Option (ρ × Hp)}
    (hC : Cn G μz (.ref (ad G a) :: As) h κi oz) (hok : CallOK μ.1.cls idx μz n) (hin : InstOK μz ci) (hO : isO ci a) (hR : RoomOK μ μz) (hn : As.length = n) (hst : st0 = As.reverse ++ .ref (ad G a) :: rest) (hw : (rest.map fun v => v.category).sum ≤ 8) (hdg : decode μ.2.1 pc = .ok (.invokevirtual idx, 3))
    (k : ∀ r1 h1, oz = some (r1, h1) → V G μ (pc + 3) ls (.int r1 :: rest) h1 κ (f r1 h1)) : V G μ pc ls st0 h κ (bnd oz f) := v_callV hC hok hin hO hR hn hst hw hdg k
theorem v_callSi {μz : Mt} {idx n : Nat} {As rest st0 : List Value} {oz : Option (Int32 × Hp)} {f : Int32 → Hp → Option (ρ × Hp)}
    (hC : Cn G μz As h κi oz) (hok : CallOK μ.1.cls idx μz n) (hin : StatOK μz) (hR : RoomOK μ μz) (hn : As.length = n) (hst : st0 = As.reverse ++ rest) (hw : (rest.map fun v => v.category).sum ≤ 8) (hdg : decode μ.2.1 pc = .ok (.invokestatic idx, 3))
    (k : ∀ r1 h1, oz = some (r1, h1) → V G μ (pc + 3) ls (.int r1 :: rest) h1 κ (f r1 h1)) : V G μ pc ls st0 h κ (bnd oz f) := v_callS hC hok hin hR hn hst hw hdg k
theorem v_callVl {μz : Mt} {ci a idx n : Nat} {As rest st0 : List Value} {oz : Option (Int64 × Hp)} {f : Int64 → Hp → Option (ρ × Hp)}
    (hC : Cn G μz (.ref (ad G a) :: As) h κl oz) (hok : CallOK μ.1.cls idx μz n) (hin : InstOK μz ci) (hO : isO ci a) (hR : RoomOK μ μz) (hn : As.length = n) (hst : st0 = As.reverse ++ .ref (ad G a) :: rest) (hw : (rest.map fun v => v.category).sum ≤ 8) (hdg : decode μ.2.1 pc = .ok (.invokevirtual idx, 3))
    (k : ∀ r1 h1, oz = some (r1, h1) → V G μ (pc + 3) ls (.long r1 :: rest) h1 κ (f r1 h1)) : V G μ pc ls st0 h κ (bnd oz f) := v_callV hC hok hin hO hR hn hst hw hdg k
theorem v_callSl {μz : Mt} {idx n : Nat} {As rest st0 : List Value} {oz : Option (Int64 × Hp)} {f : Int64 → Hp → Option (ρ × Hp)}
    (hC : Cn G μz As h κl oz) (hok : CallOK μ.1.cls idx μz n) (hin : StatOK μz) (hR : RoomOK μ μz) (hn : As.length = n) (hst : st0 = As.reverse ++ rest) (hw : (rest.map fun v => v.category).sum ≤ 8) (hdg : decode μ.2.1 pc = .ok (.invokestatic idx, 3))
    (k : ∀ r1 h1, oz = some (r1, h1) → V G μ (pc + 3) ls (.long r1 :: rest) h1 κ (f r1 h1)) : V G μ pc ls st0 h κ (bnd oz f) := v_callS hC hok hin hR hn hst hw hdg k
theorem v_callVv {μz : Mt} {ci a idx n : Nat} {As rest st0 : List Value} {oz : Option (Unit × Hp)} {f : Unit → Hp → Option (ρ × Hp)}
    (hC : Cn G μz (.ref (ad G a) :: As) h κv oz) (hok : CallOK μ.1.cls idx μz n) (hin : InstOK μz ci) (hO : isO ci a) (hR : RoomOK μ μz) (hn : As.length = n) (hst : st0 = As.reverse ++ .ref (ad G a) :: rest) (hw : (rest.map fun v => v.category).sum ≤ 8) (hdg : decode μ.2.1 pc = .ok (.invokevirtual idx, 3))
    (k : ∀ r1 h1, oz = some (r1, h1) → V G μ (pc + 3) ls (rest) h1 κ (f r1 h1)) : V G μ pc ls st0 h κ (bnd oz f) := v_callV hC hok hin hO hR hn hst hw hdg k
theorem v_callSv {μz : Mt} {idx n : Nat} {As rest st0 : List Value} {oz : Option (Unit × Hp)} {f : Unit → Hp → Option (ρ × Hp)}
    (hC : Cn G μz As h κv oz) (hok : CallOK μ.1.cls idx μz n) (hin : StatOK μz) (hR : RoomOK μ μz) (hn : As.length = n) (hst : st0 = As.reverse ++ rest) (hw : (rest.map fun v => v.category).sum ≤ 8) (hdg : decode μ.2.1 pc = .ok (.invokestatic idx, 3))
    (k : ∀ r1 h1, oz = some (r1, h1) → V G μ (pc + 3) ls (rest) h1 κ (f r1 h1)) : V G μ pc ls st0 h κ (bnd oz f) := v_callS hC hok hin hR hn hst hw hdg k
theorem v_callVr {μz : Mt} {ci a idx n : Nat} {As rest st0 : List Value} {oz : Option (Nat × Hp)} {f : Nat → Hp → Option (ρ × Hp)}
    (hC : Cn G μz (.ref (ad G a) :: As) h (κr G) oz) (hok : CallOK μ.1.cls idx μz n) (hin : InstOK μz ci) (hO : isO ci a) (hR : RoomOK μ μz) (hn : As.length = n) (hst : st0 = As.reverse ++ .ref (ad G a) :: rest) (hw : (rest.map fun v => v.category).sum ≤ 8) (hdg : decode μ.2.1 pc = .ok (.invokevirtual idx, 3))
    (k : ∀ r1 h1, oz = some (r1, h1) → V G μ (pc + 3) ls (.ref (ad G r1) :: rest) h1 κ (f r1 h1)) : V G μ pc ls st0 h κ (bnd oz f) := v_callV hC hok hin hO hR hn hst hw hdg k
theorem v_callSr {μz : Mt} {idx n : Nat} {As rest st0 : List Value} {oz : Option (Nat × Hp)} {f : Nat → Hp → Option (ρ × Hp)}
    (hC : Cn G μz As h (κr G) oz) (hok : CallOK μ.1.cls idx μz n) (hin : StatOK μz) (hR : RoomOK μ μz) (hn : As.length = n) (hst : st0 = As.reverse ++ rest) (hw : (rest.map fun v => v.category).sum ≤ 8) (hdg : decode μ.2.1 pc = .ok (.invokestatic idx, 3))
    (k : ∀ r1 h1, oz = some (r1, h1) → V G μ (pc + 3) ls (.ref (ad G r1) :: rest) h1 κ (f r1 h1)) : V G μ pc ls st0 h κ (bnd oz f) := v_callS hC hok hin hR hn hst hw hdg k
/-- System.arraycopy of int rows -/
def acp (h : Hp) (a b na nb : Nat) (sp dp n : Int32) : Option (Unit × Hp) := if ¬ sp < 0 ∧ ¬ dp < 0 ∧ ¬ n < 0 ∧ ix sp + ix n ≤ na ∧ ix dp + ix n ≤ nb then some ((), hcpy h a b (ix sp) (ix dp) (ix n)) else none
theorem v_acopy {a b na nb b1 b2 idx : Nat} {sp dp n : Int32} {f : Unit → Hp → Option (ρ × Hp)} (hA : isA 0 na b1 a) (hB : isA 0 nb b2 b) (hlink : Cond.methodLink μ.1.cls idx arraycopyName ∈ lwg) (hnat : Cond.native arraycopyName ∈ lwg) (hstat : Cond.static arraycopyName ∈ lwg) (hini : Cond.initialized "java/lang/System" ∈ lwg) (hR : 1 ≤ μ.2.2.2.2.1 ∧ 8 + (nativeFrameWords "java/lang/System" "arraycopy" 5 + 11) ≤ μ.2.2.2.2.2) (hw : (st.map fun v => v.category).sum ≤ 8) (hdg : decode μ.2.1 pc = .ok (.invokestatic idx, 3))
    (k : ∀ h1, V G μ (pc + 3) ls st h1 κ (f () h1)) : V G μ pc ls (.int n :: .int dp :: .ref (ad G b) :: .int sp :: .ref (ad G a) :: st) h κ (bnd (acp h a b na nb sp dp n) f) := by
  intro r h' ho p e s m args below meth c H locs lsA C hK hI hP hS hL
  obtain ⟨r1, h1, hz, hf⟩ := bnd_inv ho
  unfold acp at hz
  split at hz
  · next hc =>
    cases hz
    refine va_copyi (ty := .int) C.1 C.2.1 (C.2.2.2.1.trans hL.1.symm) C.2.2.2.2.1 (C.word hlink) (C.word hnat) (C.word hstat) (C.word hini) hK.1 hP (world_D hI) hS a b 0 0 (cell_A hA (by decide)) (cell_A hB (by decide)) rfl rfl rfl hc.1 hc.2.1 hc.2.2.1 hc.2.2.2.1 hc.2.2.2.2 (fun i _ => rfl) hR.1 (Nat.le_trans (Nat.add_le_add_right hw _) hR.2) hdg
      (fun H1 locs1 hP1 _ hS1 => by rw [set_C hB (by decide)] at hP1; exact k _ r h' hf p e s m args below meth c H1 locs1 lsA C hK hI hP1 hS1 hL)
  · cases hz
end VR
theorem v_none {ρ : Type} {G : Gt} {μ : Mt} {pc : Nat} {ls : List (Nat × Value)} {st : List Value} {h : Hp} {κ : ρ → Option Value} : V G μ pc ls st h κ none := fun r h' ho => by cases ho
theorem ofs_0_1 : ∀ a, a < 46 → shp a = .inl 0 → (a + 1 < 46 ∧ shp (a + 1) = .inr (0, 10, 0)) := by decide
theorem ofs_0_2 : ∀ a, a < 46 → shp a = .inl 0 → (a + 2 < 46 ∧ shp (a + 2) = .inr (0, 10, 0)) := by decide
theorem ofs_1_1 : ∀ a, a < 46 → shp a = .inl 1 → (a + 1 < 46 ∧ shp (a + 1) = .inr (0, 8, 0)) := by decide
theorem ofs_1_2 : ∀ a, a < 46 → shp a = .inl 1 → (a + 2 < 46 ∧ shp (a + 2) = .inr (0, 8, 0)) := by decide
theorem ofs_1_3 : ∀ a, a < 46 → shp a = .inl 1 → (a + 3 < 46 ∧ shp (a + 3) = .inr (0, 8, 0)) := by decide
theorem frA {a : Nat} (h : isO 0 a) : isA 0 10 0 (a + 1) ∧ isA 0 10 0 (a + 2) := ⟨ofs_0_1 a h.1 h.2, ofs_0_2 a h.1 h.2⟩
theorem noA {a : Nat} (h : isO 1 a) : isA 0 8 0 (a + 1) ∧ isA 0 8 0 (a + 2) ∧ isA 0 8 0 (a + 3) := ⟨ofs_1_1 a h.1 h.2, ofs_1_2 a h.1 h.2, ofs_1_3 a h.1 h.2⟩
theorem shA {a : Nat} (h : isO 2 a) : isA 0 48 0 (a + 1) := by
  have key : ∀ a, a < 46 → shp a = .inl 2 → (a + 1 < 46 ∧ shp (a + 1) = .inr (0, 48, 0)) := by decide
  exact key a h.1 h.2
theorem spA {a : Nat} (h : isO 3 a) : isA 0 10 0 (a + 1) := by
  have key : ∀ a, a < 46 → shp a = .inl 3 → (a + 1 < 46 ∧ shp (a + 1) = .inr (0, 10, 0)) := by decide
  exact key a h.1 h.2
theorem txA {a : Nat} (h : isO 4 a) : isA 0 40 0 (a + 1) := by
  have key : ∀ a, a < 46 → shp a = .inl 4 → (a + 1 < 46 ∧ shp (a + 1) = .inr (0, 40, 0)) := by decide
  exact key a h.1 h.2
theorem sp_o {i : Int32} (h : inb i 4 = true) : isO 3 (15 + 2 * ix i) := by
  have hi : ix i < 4 := by simp [inb] at h; exact h.2
  have key : ∀ j, j < 4 → (15 + 2 * j < 46 ∧ shp (15 + 2 * j) = .inl 3) := by decide
  exact key _ hi
theorem sh_o {i : Int32} (h : inb i 4 = true) : isO 2 (23 + 2 * ix i) := by
  have hi : ix i < 4 := by simp [inb] at h; exact h.2
  have key : ∀ j, j < 4 → (23 + 2 * j < 46 ∧ shp (23 + 2 * j) = .inl 2) := by decide
  exact key _ hi
theorem o_0 : isO 5 0 := ⟨by decide, rfl⟩
theorem o_1 : isO 4 1 := ⟨by decide, rfl⟩
theorem ar_2 : isA 0 40 0 2 := ⟨by decide, rfl⟩
theorem o_3 : isO 0 3 := ⟨by decide, rfl⟩
theorem ar_4 : isA 0 10 0 4 := ⟨by decide, rfl⟩
theorem ar_5 : isA 0 10 0 5 := ⟨by decide, rfl⟩
theorem o_6 : isO 0 6 := ⟨by decide, rfl⟩
theorem ar_7 : isA 0 10 0 7 := ⟨by decide, rfl⟩
theorem ar_8 : isA 0 10 0 8 := ⟨by decide, rfl⟩
theorem ar_9 : isA 2 4 15 9 := ⟨by decide, rfl⟩
theorem o_10 : isO 1 10 := ⟨by decide, rfl⟩
theorem ar_11 : isA 0 8 0 11 := ⟨by decide, rfl⟩
theorem ar_12 : isA 0 8 0 12 := ⟨by decide, rfl⟩
theorem ar_13 : isA 0 8 0 13 := ⟨by decide, rfl⟩
theorem ar_14 : isA 3 4 23 14 := ⟨by decide, rfl⟩
theorem o_15 : isO 3 15 := ⟨by decide, rfl⟩
theorem ar_16 : isA 0 10 0 16 := ⟨by decide, rfl⟩
theorem o_17 : isO 3 17 := ⟨by decide, rfl⟩
theorem ar_18 : isA 0 10 0 18 := ⟨by decide, rfl⟩
theorem o_19 : isO 3 19 := ⟨by decide, rfl⟩
theorem ar_20 : isA 0 10 0 20 := ⟨by decide, rfl⟩
theorem o_21 : isO 3 21 := ⟨by decide, rfl⟩
theorem ar_22 : isA 0 10 0 22 := ⟨by decide, rfl⟩
theorem o_23 : isO 2 23 := ⟨by decide, rfl⟩
theorem ar_24 : isA 0 48 0 24 := ⟨by decide, rfl⟩
theorem o_25 : isO 2 25 := ⟨by decide, rfl⟩
theorem ar_26 : isA 0 48 0 26 := ⟨by decide, rfl⟩
theorem o_27 : isO 2 27 := ⟨by decide, rfl⟩
theorem ar_28 : isA 0 48 0 28 := ⟨by decide, rfl⟩
theorem o_29 : isO 2 29 := ⟨by decide, rfl⟩
theorem ar_30 : isA 0 48 0 30 := ⟨by decide, rfl⟩
theorem o_31 : isO 6 31 := ⟨by decide, rfl⟩
theorem ar_32 : isA 0 40 0 32 := ⟨by decide, rfl⟩
theorem ar_33 : isA 0 11 0 33 := ⟨by decide, rfl⟩
theorem ar_34 : isA 0 11 0 34 := ⟨by decide, rfl⟩
theorem ar_35 : isA 0 11 0 35 := ⟨by decide, rfl⟩
theorem ar_36 : isA 0 11 0 36 := ⟨by decide, rfl⟩
theorem ar_37 : isA 0 8 0 37 := ⟨by decide, rfl⟩
theorem ar_38 : isA 0 8 0 38 := ⟨by decide, rfl⟩
theorem ar_39 : isA 0 8 0 39 := ⟨by decide, rfl⟩
theorem ar_40 : isA 0 44 0 40 := ⟨by decide, rfl⟩
theorem ar_41 : isA 1 4 0 41 := ⟨by decide, rfl⟩
theorem ar_42 : isA 0 4 0 42 := ⟨by decide, rfl⟩
theorem ar_43 : isA 0 4 0 43 := ⟨by decide, rfl⟩
theorem ar_44 : isA 0 192 0 44 := ⟨by decide, rfl⟩
theorem ar_45 : isA 0 48 0 45 := ⟨by decide, rfl⟩
end
section
theorem fl_C_10 : FL "SpiderLoom" 10 5 0 := ⟨_, rfl, by decide, Or.inl (mem_t 129 (by decide +kernel) rfl), rfl⟩
theorem fl_C_19 : FL "SpiderLoom" 19 5 1 := ⟨_, rfl, by decide, Or.inl (mem_t 130 (by decide +kernel) rfl), rfl⟩
theorem fl_C_23 : FL "SpiderLoom" 23 5 2 := ⟨_, rfl, by decide, Or.inl (mem_t 131 (by decide +kernel) rfl), rfl⟩
theorem fl_C_28 : FL "SpiderLoom" 28 5 3 := ⟨_, rfl, by decide, Or.inl (mem_t 132 (by decide +kernel) rfl), rfl⟩
theorem fl_C_35 : FL "SpiderLoom" 35 5 4 := ⟨_, rfl, by decide, Or.inl (mem_t 133 (by decide +kernel) rfl), rfl⟩
theorem fl_C_41 : FL "SpiderLoom" 41 5 5 := ⟨_, rfl, by decide, Or.inl (mem_t 134 (by decide +kernel) rfl), rfl⟩
theorem fl_C_45 : FL "SpiderLoom" 45 5 6 := ⟨_, rfl, by decide, Or.inl (mem_t 135 (by decide +kernel) rfl), rfl⟩
theorem fl_C_49 : FL "SpiderLoom" 49 5 7 := ⟨_, rfl, by decide, Or.inl (mem_t 136 (by decide +kernel) rfl), rfl⟩
theorem fl_C_52 : FL "SpiderLoom" 52 5 8 := ⟨_, rfl, by decide, Or.inl (mem_t 137 (by decide +kernel) rfl), rfl⟩
theorem fl_C_55 : FL "SpiderLoom" 55 5 9 := ⟨_, rfl, by decide, Or.inl (mem_t 138 (by decide +kernel) rfl), rfl⟩
theorem fl_C_58 : FL "SpiderLoom" 58 5 10 := ⟨_, rfl, by decide, Or.inl (mem_t 139 (by decide +kernel) rfl), rfl⟩
theorem fl_C_61 : FL "SpiderLoom" 61 5 11 := ⟨_, rfl, by decide, Or.inl (mem_t 140 (by decide +kernel) rfl), rfl⟩
theorem fl_C_66 : FL "SpiderLoom" 66 4 1 := ⟨_, rfl, by decide, Or.inr ⟨"SpiderLoom", mem_n 27 (by decide +kernel) rfl⟩, rfl⟩
theorem fl_C_84 : FL "SpiderLoom" 84 0 0 := ⟨_, rfl, by decide, Or.inr ⟨"SpiderLoom", mem_n 41 (by decide +kernel) rfl⟩, rfl⟩
theorem fl_C_88 : FL "SpiderLoom" 88 0 1 := ⟨_, rfl, by decide, Or.inr ⟨"SpiderLoom", mem_n 43 (by decide +kernel) rfl⟩, rfl⟩
theorem fl_C_101 : FL "SpiderLoom" 101 2 1 := ⟨_, rfl, by decide, Or.inr ⟨"SpiderLoom", mem_n 115 (by decide +kernel) rfl⟩, rfl⟩
theorem fl_C_109 : FL "SpiderLoom" 109 2 3 := ⟨_, rfl, by decide, Or.inr ⟨"SpiderLoom", mem_n 119 (by decide +kernel) rfl⟩, rfl⟩
theorem fl_C_116 : FL "SpiderLoom" 116 2 0 := ⟨_, rfl, by decide, Or.inr ⟨"SpiderLoom", mem_n 113 (by decide +kernel) rfl⟩, rfl⟩
theorem fl_C_130 : FL "SpiderLoom" 130 3 1 := ⟨_, rfl, by decide, Or.inr ⟨"SpiderLoom", mem_n 89 (by decide +kernel) rfl⟩, rfl⟩
theorem fl_C_131 : FL "SpiderLoom" 131 3 0 := ⟨_, rfl, by decide, Or.inr ⟨"SpiderLoom", mem_n 87 (by decide +kernel) rfl⟩, rfl⟩
theorem fl_C_134 : FL "SpiderLoom" 134 3 3 := ⟨_, rfl, by decide, Or.inr ⟨"SpiderLoom", mem_n 93 (by decide +kernel) rfl⟩, rfl⟩
theorem fl_C_137 : FL "SpiderLoom" 137 3 4 := ⟨_, rfl, by decide, Or.inr ⟨"SpiderLoom", mem_n 95 (by decide +kernel) rfl⟩, rfl⟩
theorem fl_C_159 : FL "SpiderLoom" 159 0 2 := ⟨_, rfl, by decide, Or.inr ⟨"SpiderLoom", mem_n 46 (by decide +kernel) rfl⟩, rfl⟩
theorem fl_C_189 : FL "SpiderLoom" 189 1 3 := ⟨_, rfl, by decide, Or.inr ⟨"SpiderLoom", mem_n 69 (by decide +kernel) rfl⟩, rfl⟩
theorem fl_C_225 : FL "SpiderLoom" 225 2 2 := ⟨_, rfl, by decide, Or.inr ⟨"SpiderLoom", mem_n 117 (by decide +kernel) rfl⟩, rfl⟩
theorem fl_C_305 : FL "SpiderLoom" 305 3 2 := ⟨_, rfl, by decide, Or.inr ⟨"SpiderLoom", mem_n 91 (by decide +kernel) rfl⟩, rfl⟩
theorem fl_C_308 : FL "SpiderLoom" 308 1 0 := ⟨_, rfl, by decide, Or.inr ⟨"SpiderLoom", mem_n 63 (by decide +kernel) rfl⟩, rfl⟩
theorem fl_C_311 : FL "SpiderLoom" 311 1 1 := ⟨_, rfl, by decide, Or.inr ⟨"SpiderLoom", mem_n 65 (by decide +kernel) rfl⟩, rfl⟩
theorem fl_C_314 : FL "SpiderLoom" 314 1 2 := ⟨_, rfl, by decide, Or.inr ⟨"SpiderLoom", mem_n 67 (by decide +kernel) rfl⟩, rfl⟩
theorem fl_Fr_9 : FL "SpiderLoom$Frame" 9 0 0 := ⟨_, rfl, by decide, Or.inl (mem_t 40 (by decide +kernel) rfl), rfl⟩
theorem fl_Fr_15 : FL "SpiderLoom$Frame" 15 0 1 := ⟨_, rfl, by decide, Or.inl (mem_t 42 (by decide +kernel) rfl), rfl⟩
theorem fl_Fr_18 : FL "SpiderLoom$Frame" 18 0 2 := ⟨_, rfl, by decide, Or.inl (mem_t 44 (by decide +kernel) rfl), rfl⟩
theorem fl_No_9 : FL "SpiderLoom$Notes" 9 1 0 := ⟨_, rfl, by decide, Or.inl (mem_t 62 (by decide +kernel) rfl), rfl⟩
theorem fl_No_15 : FL "SpiderLoom$Notes" 15 1 1 := ⟨_, rfl, by decide, Or.inl (mem_t 64 (by decide +kernel) rfl), rfl⟩
theorem fl_No_18 : FL "SpiderLoom$Notes" 18 1 2 := ⟨_, rfl, by decide, Or.inl (mem_t 66 (by decide +kernel) rfl), rfl⟩
theorem fl_No_21 : FL "SpiderLoom$Notes" 21 1 3 := ⟨_, rfl, by decide, Or.inl (mem_t 68 (by decide +kernel) rfl), rfl⟩
theorem fl_Sh_9 : FL "SpiderLoom$Sheet" 9 2 0 := ⟨_, rfl, by decide, Or.inl (mem_t 112 (by decide +kernel) rfl), rfl⟩
theorem fl_Sh_15 : FL "SpiderLoom$Sheet" 15 2 1 := ⟨_, rfl, by decide, Or.inl (mem_t 114 (by decide +kernel) rfl), rfl⟩
theorem fl_Sh_19 : FL "SpiderLoom$Sheet" 19 2 2 := ⟨_, rfl, by decide, Or.inl (mem_t 116 (by decide +kernel) rfl), rfl⟩
theorem fl_Sh_23 : FL "SpiderLoom$Sheet" 23 2 3 := ⟨_, rfl, by decide, Or.inl (mem_t 118 (by decide +kernel) rfl), rfl⟩
theorem fl_Sp_9 : FL "SpiderLoom$Spider" 9 3 0 := ⟨_, rfl, by decide, Or.inl (mem_t 86 (by decide +kernel) rfl), rfl⟩
theorem fl_Sp_15 : FL "SpiderLoom$Spider" 15 3 1 := ⟨_, rfl, by decide, Or.inl (mem_t 88 (by decide +kernel) rfl), rfl⟩
theorem fl_Sp_19 : FL "SpiderLoom$Spider" 19 3 2 := ⟨_, rfl, by decide, Or.inl (mem_t 90 (by decide +kernel) rfl), rfl⟩
theorem fl_Sp_22 : FL "SpiderLoom$Spider" 22 3 3 := ⟨_, rfl, by decide, Or.inl (mem_t 92 (by decide +kernel) rfl), rfl⟩
theorem fl_Sp_25 : FL "SpiderLoom$Spider" 25 3 4 := ⟨_, rfl, by decide, Or.inl (mem_t 94 (by decide +kernel) rfl), rfl⟩
theorem fl_Tx_9 : FL "SpiderLoom$Text" 9 4 0 := ⟨_, rfl, by decide, Or.inl (mem_t 25 (by decide +kernel) rfl), rfl⟩
theorem fl_Tx_15 : FL "SpiderLoom$Text" 15 4 1 := ⟨_, rfl, by decide, Or.inl (mem_t 26 (by decide +kernel) rfl), rfl⟩
theorem fl_Tx_19 : FL "SpiderLoom$Text" 19 0 2 := ⟨_, rfl, by decide, Or.inr ⟨"SpiderLoom", mem_n 45 (by decide +kernel) rfl⟩, rfl⟩
theorem fl_M_7 : FL "SpiderLoomModel" 7 6 0 := ⟨_, rfl, by decide, Or.inl (mem_t 523 (by decide +kernel) rfl), rfl⟩
theorem fl_M_13 : FL "SpiderLoomModel" 13 6 3 := ⟨_, rfl, by decide, Or.inl (mem_t 526 (by decide +kernel) rfl), rfl⟩
theorem fl_M_16 : FL "SpiderLoomModel" 16 6 4 := ⟨_, rfl, by decide, Or.inl (mem_t 527 (by decide +kernel) rfl), rfl⟩
theorem fl_M_19 : FL "SpiderLoomModel" 19 6 9 := ⟨_, rfl, by decide, Or.inl (mem_t 532 (by decide +kernel) rfl), rfl⟩
theorem fl_M_22 : FL "SpiderLoomModel" 22 6 13 := ⟨_, rfl, by decide, Or.inl (mem_t 536 (by decide +kernel) rfl), rfl⟩
theorem fl_M_25 : FL "SpiderLoomModel" 25 6 15 := ⟨_, rfl, by decide, Or.inl (mem_t 538 (by decide +kernel) rfl), rfl⟩
theorem fl_M_28 : FL "SpiderLoomModel" 28 6 16 := ⟨_, rfl, by decide, Or.inl (mem_t 539 (by decide +kernel) rfl), rfl⟩
theorem fl_M_31 : FL "SpiderLoomModel" 31 6 17 := ⟨_, rfl, by decide, Or.inl (mem_t 540 (by decide +kernel) rfl), rfl⟩
theorem fl_M_34 : FL "SpiderLoomModel" 34 6 18 := ⟨_, rfl, by decide, Or.inl (mem_t 541 (by decide +kernel) rfl), rfl⟩
theorem fl_M_37 : FL "SpiderLoomModel" 37 6 19 := ⟨_, rfl, by decide, Or.inl (mem_t 542 (by decide +kernel) rfl), rfl⟩
theorem fl_M_41 : FL "SpiderLoomModel" 41 6 20 := ⟨_, rfl, by decide, Or.inl (mem_t 543 (by decide +kernel) rfl), rfl⟩
theorem fl_M_44 : FL "SpiderLoomModel" 44 6 21 := ⟨_, rfl, by decide, Or.inl (mem_t 544 (by decide +kernel) rfl), rfl⟩
theorem fl_M_47 : FL "SpiderLoomModel" 47 6 22 := ⟨_, rfl, by decide, Or.inl (mem_t 545 (by decide +kernel) rfl), rfl⟩
theorem fl_M_50 : FL "SpiderLoomModel" 50 6 23 := ⟨_, rfl, by decide, Or.inl (mem_t 546 (by decide +kernel) rfl), rfl⟩
theorem fl_M_53 : FL "SpiderLoomModel" 53 6 6 := ⟨_, rfl, by decide, Or.inl (mem_t 529 (by decide +kernel) rfl), rfl⟩
theorem fl_M_57 : FL "SpiderLoomModel" 57 6 8 := ⟨_, rfl, by decide, Or.inl (mem_t 531 (by decide +kernel) rfl), rfl⟩
theorem fl_M_64 : FL "SpiderLoomModel" 64 6 1 := ⟨_, rfl, by decide, Or.inl (mem_t 524 (by decide +kernel) rfl), rfl⟩
theorem fl_M_67 : FL "SpiderLoomModel" 67 6 2 := ⟨_, rfl, by decide, Or.inl (mem_t 525 (by decide +kernel) rfl), rfl⟩
theorem fl_M_81 : FL "SpiderLoomModel" 81 6 5 := ⟨_, rfl, by decide, Or.inl (mem_t 528 (by decide +kernel) rfl), rfl⟩
theorem fl_M_95 : FL "SpiderLoomModel" 95 6 7 := ⟨_, rfl, by decide, Or.inl (mem_t 530 (by decide +kernel) rfl), rfl⟩
theorem fl_M_117 : FL "SpiderLoomModel" 117 6 10 := ⟨_, rfl, by decide, Or.inl (mem_t 533 (by decide +kernel) rfl), rfl⟩
theorem fl_M_120 : FL "SpiderLoomModel" 120 6 11 := ⟨_, rfl, by decide, Or.inl (mem_t 534 (by decide +kernel) rfl), rfl⟩
theorem fl_M_123 : FL "SpiderLoomModel" 123 6 12 := ⟨_, rfl, by decide, Or.inl (mem_t 535 (by decide +kernel) rfl), rfl⟩
theorem fl_M_195 : FL "SpiderLoomModel" 195 6 14 := ⟨_, rfl, by decide, Or.inl (mem_t 537 (by decide +kernel) rfl), rfl⟩
theorem fl_M_217 : FL "SpiderLoomModel" 217 6 24 := ⟨_, rfl, by decide, Or.inl (mem_t 547 (by decide +kernel) rfl), rfl⟩
theorem ft_0_2 : FT 0 2 .int := ⟨_, rfl, by decide +kernel, by decide +kernel⟩
theorem ft_1_3 : FT 1 3 .int := ⟨_, rfl, by decide +kernel, by decide +kernel⟩
theorem ft_2_1 : FT 2 1 .boolean := ⟨_, rfl, by decide +kernel, by decide +kernel⟩
theorem ft_2_2 : FT 2 2 .int := ⟨_, rfl, by decide +kernel, by decide +kernel⟩
theorem ft_2_3 : FT 2 3 .int := ⟨_, rfl, by decide +kernel, by decide +kernel⟩
theorem ft_3_1 : FT 3 1 .int := ⟨_, rfl, by decide +kernel, by decide +kernel⟩
theorem ft_3_2 : FT 3 2 .int := ⟨_, rfl, by decide +kernel, by decide +kernel⟩
theorem ft_3_3 : FT 3 3 .int := ⟨_, rfl, by decide +kernel, by decide +kernel⟩
theorem ft_3_4 : FT 3 4 .int := ⟨_, rfl, by decide +kernel, by decide +kernel⟩
theorem ft_4_1 : FT 4 1 .int := ⟨_, rfl, by decide +kernel, by decide +kernel⟩
theorem ft_5_6 : FT 5 6 .int := ⟨_, rfl, by decide +kernel, by decide +kernel⟩
theorem ft_5_7 : FT 5 7 .int := ⟨_, rfl, by decide +kernel, by decide +kernel⟩
theorem ft_5_8 : FT 5 8 .int := ⟨_, rfl, by decide +kernel, by decide +kernel⟩
theorem ft_5_9 : FT 5 9 .int := ⟨_, rfl, by decide +kernel, by decide +kernel⟩
theorem ft_5_10 : FT 5 10 .int := ⟨_, rfl, by decide +kernel, by decide +kernel⟩
theorem ft_5_11 : FT 5 11 .int := ⟨_, rfl, by decide +kernel, by decide +kernel⟩
theorem ft_6_1 : FT 6 1 .int := ⟨_, rfl, by decide +kernel, by decide +kernel⟩
theorem ft_6_2 : FT 6 2 .int := ⟨_, rfl, by decide +kernel, by decide +kernel⟩
theorem ft_6_5 : FT 6 5 .int := ⟨_, rfl, by decide +kernel, by decide +kernel⟩
theorem ft_6_6 : FT 6 6 .int := ⟨_, rfl, by decide +kernel, by decide +kernel⟩
theorem ft_6_7 : FT 6 7 .int := ⟨_, rfl, by decide +kernel, by decide +kernel⟩
theorem ft_6_8 : FT 6 8 .int := ⟨_, rfl, by decide +kernel, by decide +kernel⟩
theorem ft_6_10 : FT 6 10 .int := ⟨_, rfl, by decide +kernel, by decide +kernel⟩
theorem ft_6_11 : FT 6 11 .int := ⟨_, rfl, by decide +kernel, by decide +kernel⟩
theorem ft_6_12 : FT 6 12 .int := ⟨_, rfl, by decide +kernel, by decide +kernel⟩
theorem ft_6_14 : FT 6 14 .int := ⟨_, rfl, by decide +kernel, by decide +kernel⟩
theorem ft_6_24 : FT 6 24 .int := ⟨_, rfl, by decide +kernel, by decide +kernel⟩
theorem co_C_69 : CallOK "SpiderLoom" 69 m_Tx_append 1 := ⟨mem_t 173 (by decide +kernel) rfl, mem_t 2 (by decide +kernel) rfl, mem_t 170 (by decide +kernel) rfl, by decide +kernel, by decide +kernel, by decide +kernel⟩
theorem co_C_73 : CallOK "SpiderLoom" 73 m_Tx_pegsTo 1 := ⟨mem_t 177 (by decide +kernel) rfl, mem_t 2 (by decide +kernel) rfl, mem_t 174 (by decide +kernel) rfl, by decide +kernel, by decide +kernel, by decide +kernel⟩
theorem co_C_77 : CallOK "SpiderLoom" 77 m_Tx_shorten 1 := ⟨mem_t 197 (by decide +kernel) rfl, mem_t 2 (by decide +kernel) rfl, mem_t 194 (by decide +kernel) rfl, by decide +kernel, by decide +kernel, by decide +kernel⟩
theorem co_C_80 : CallOK "SpiderLoom" 80 m_Fr_has 1 := ⟨mem_t 213 (by decide +kernel) rfl, mem_t 3 (by decide +kernel) rfl, mem_t 210 (by decide +kernel) rfl, by decide +kernel, by decide +kernel, by decide +kernel⟩
theorem co_C_91 : CallOK "SpiderLoom" 91 m_C_isHidden 1 := ⟨mem_t 217 (by decide +kernel) rfl, mem_t 1 (by decide +kernel) rfl, mem_t 214 (by decide +kernel) rfl, by decide +kernel, by decide +kernel, by decide +kernel⟩
theorem co_C_94 : CallOK "SpiderLoom" 94 m_C_setHidden 2 := ⟨mem_t 225 (by decide +kernel) rfl, mem_t 1 (by decide +kernel) rfl, mem_t 222 (by decide +kernel) rfl, by decide +kernel, by decide +kernel, by decide +kernel⟩
theorem co_C_98 : CallOK "SpiderLoom" 98 m_C_isSheet 1 := ⟨mem_t 236 (by decide +kernel) rfl, mem_t 1 (by decide +kernel) rfl, mem_t 234 (by decide +kernel) rfl, by decide +kernel, by decide +kernel, by decide +kernel⟩
theorem co_C_105 : CallOK "SpiderLoom" 105 m_C_found 1 := ⟨mem_t 240 (by decide +kernel) rfl, mem_t 1 (by decide +kernel) rfl, mem_t 237 (by decide +kernel) rfl, by decide +kernel, by decide +kernel, by decide +kernel⟩
theorem co_C_110 : CallOK "SpiderLoom" 110 m_Ma_min 2 := ⟨mem_t 243 (by decide +kernel) rfl, mem_t 8 (by decide +kernel) rfl, mem_t 241 (by decide +kernel) rfl, by decide +kernel, by decide +kernel, by decide +kernel⟩
theorem co_C_119 : CallOK "SpiderLoom" 119 m_Fr_apart 2 := ⟨mem_t 251 (by decide +kernel) rfl, mem_t 3 (by decide +kernel) rfl, mem_t 248 (by decide +kernel) rfl, by decide +kernel, by decide +kernel, by decide +kernel⟩
theorem co_C_122 : CallOK "SpiderLoom" 122 m_C_canBeTold 2 := ⟨mem_t 262 (by decide +kernel) rfl, mem_t 1 (by decide +kernel) rfl, mem_t 259 (by decide +kernel) rfl, by decide +kernel, by decide +kernel, by decide +kernel⟩
theorem co_C_126 : CallOK "SpiderLoom" 126 m_C_lay 5 := ⟨mem_t 269 (by decide +kernel) rfl, mem_t 1 (by decide +kernel) rfl, mem_t 266 (by decide +kernel) rfl, by decide +kernel, by decide +kernel, by decide +kernel⟩
theorem co_C_140 : CallOK "SpiderLoom" 140 m_Fr_meet 4 := ⟨mem_t 309 (by decide +kernel) rfl, mem_t 3 (by decide +kernel) rfl, mem_t 306 (by decide +kernel) rfl, by decide +kernel, by decide +kernel, by decide +kernel⟩
theorem co_C_144 : CallOK "SpiderLoom" 144 m_C_neighbours 2 := ⟨mem_t 327 (by decide +kernel) rfl, mem_t 1 (by decide +kernel) rfl, mem_t 325 (by decide +kernel) rfl, by decide +kernel, by decide +kernel, by decide +kernel⟩
theorem co_C_148 : CallOK "SpiderLoom" 148 m_Sp_placeOf 1 := ⟨mem_t 331 (by decide +kernel) rfl, mem_t 5 (by decide +kernel) rfl, mem_t 328 (by decide +kernel) rfl, by decide +kernel, by decide +kernel, by decide +kernel⟩
theorem co_C_151 : CallOK "SpiderLoom" 151 m_Fr_becomeTurned 1 := ⟨mem_t 343 (by decide +kernel) rfl, mem_t 3 (by decide +kernel) rfl, mem_t 340 (by decide +kernel) rfl, by decide +kernel, by decide +kernel, by decide +kernel⟩
theorem co_C_155 : CallOK "SpiderLoom" 155 m_Sp_hasRowOf 1 := ⟨mem_t 348 (by decide +kernel) rfl, mem_t 5 (by decide +kernel) rfl, mem_t 345 (by decide +kernel) rfl, by decide +kernel, by decide +kernel, by decide +kernel⟩
theorem co_C_160 : CallOK "SpiderLoom" 160 m_Fr_isTaken 2 := ⟨mem_t 185 (by decide +kernel) rfl, mem_t 3 (by decide +kernel) rfl, mem_t 353 (by decide +kernel) rfl, by decide +kernel, by decide +kernel, by decide +kernel⟩
theorem co_C_163 : CallOK "SpiderLoom" 163 m_Fr_become 1 := ⟨mem_t 357 (by decide +kernel) rfl, mem_t 3 (by decide +kernel) rfl, mem_t 354 (by decide +kernel) rfl, by decide +kernel, by decide +kernel, by decide +kernel⟩
theorem co_C_166 : CallOK "SpiderLoom" 166 m_Fr_add 2 := ⟨mem_t 189 (by decide +kernel) rfl, mem_t 3 (by decide +kernel) rfl, mem_t 358 (by decide +kernel) rfl, by decide +kernel, by decide +kernel, by decide +kernel⟩
theorem co_C_169 : CallOK "SpiderLoom" 169 m_C_isLaw 1 := ⟨mem_t 265 (by decide +kernel) rfl, mem_t 1 (by decide +kernel) rfl, mem_t 263 (by decide +kernel) rfl, by decide +kernel, by decide +kernel, by decide +kernel⟩
theorem co_C_172 : CallOK "SpiderLoom" 172 m_C_fewestHiddenFor 3 := ⟨mem_t 370 (by decide +kernel) rfl, mem_t 1 (by decide +kernel) rfl, mem_t 367 (by decide +kernel) rfl, by decide +kernel, by decide +kernel, by decide +kernel⟩
theorem co_C_176 : CallOK "SpiderLoom" 176 m_In_bitCount 1 := ⟨mem_t 373 (by decide +kernel) rfl, mem_t 9 (by decide +kernel) rfl, mem_t 371 (by decide +kernel) rfl, by decide +kernel, by decide +kernel, by decide +kernel⟩
theorem co_C_181 : CallOK "SpiderLoom" 181 m_Sp_startAt 3 := ⟨mem_t 273 (by decide +kernel) rfl, mem_t 5 (by decide +kernel) rfl, mem_t 270 (by decide +kernel) rfl, by decide +kernel, by decide +kernel, by decide +kernel⟩
theorem co_C_185 : CallOK "SpiderLoom" 185 m_C_stepInTurn 2 := ⟨mem_t 384 (by decide +kernel) rfl, mem_t 1 (by decide +kernel) rfl, mem_t 381 (by decide +kernel) rfl, by decide +kernel, by decide +kernel, by decide +kernel⟩
theorem co_C_190 : CallOK "SpiderLoom" 190 m_No_add 3 := ⟨mem_t 392 (by decide +kernel) rfl, mem_t 4 (by decide +kernel) rfl, mem_t 389 (by decide +kernel) rfl, by decide +kernel, by decide +kernel, by decide +kernel⟩
theorem co_C_192 : CallOK "SpiderLoom" 192 m_C_comesOut 1 := ⟨mem_t 404 (by decide +kernel) rfl, mem_t 1 (by decide +kernel) rfl, mem_t 401 (by decide +kernel) rfl, by decide +kernel, by decide +kernel, by decide +kernel⟩
theorem co_C_195 : CallOK "SpiderLoom" 195 m_C_fits 0 := ⟨mem_t 400 (by decide +kernel) rfl, mem_t 1 (by decide +kernel) rfl, mem_t 409 (by decide +kernel) rfl, by decide +kernel, by decide +kernel, by decide +kernel⟩
theorem co_C_199 : CallOK "SpiderLoom" 199 m_C_unlikeWebs 2 := ⟨mem_t 413 (by decide +kernel) rfl, mem_t 1 (by decide +kernel) rfl, mem_t 410 (by decide +kernel) rfl, by decide +kernel, by decide +kernel, by decide +kernel⟩
theorem co_C_202 : CallOK "SpiderLoom" 202 m_C_nextLot 1 := ⟨mem_t 420 (by decide +kernel) rfl, mem_t 1 (by decide +kernel) rfl, mem_t 418 (by decide +kernel) rfl, by decide +kernel, by decide +kernel, by decide +kernel⟩
theorem co_C_205 : CallOK "SpiderLoom" 205 m_C_placeByLot 1 := ⟨mem_t 424 (by decide +kernel) rfl, mem_t 1 (by decide +kernel) rfl, mem_t 422 (by decide +kernel) rfl, by decide +kernel, by decide +kernel, by decide +kernel⟩
theorem co_C_208 : CallOK "SpiderLoom" 208 m_C_isCaught 3 := ⟨mem_t 428 (by decide +kernel) rfl, mem_t 1 (by decide +kernel) rfl, mem_t 425 (by decide +kernel) rfl, by decide +kernel, by decide +kernel, by decide +kernel⟩
theorem co_C_212 : CallOK "SpiderLoom" 212 m_C_isForm 1 := ⟨mem_t 443 (by decide +kernel) rfl, mem_t 1 (by decide +kernel) rfl, mem_t 441 (by decide +kernel) rfl, by decide +kernel, by decide +kernel, by decide +kernel⟩
theorem co_C_215 : CallOK "SpiderLoom" 215 m_Sh_renew 2 := ⟨mem_t 447 (by decide +kernel) rfl, mem_t 6 (by decide +kernel) rfl, mem_t 444 (by decide +kernel) rfl, by decide +kernel, by decide +kernel, by decide +kernel⟩
theorem co_C_218 : CallOK "SpiderLoom" 218 m_C_refusalOfItem 3 := ⟨mem_t 460 (by decide +kernel) rfl, mem_t 1 (by decide +kernel) rfl, mem_t 457 (by decide +kernel) rfl, by decide +kernel, by decide +kernel, by decide +kernel⟩
theorem co_C_221 : CallOK "SpiderLoom" 221 m_Sh_store 2 := ⟨mem_t 464 (by decide +kernel) rfl, mem_t 6 (by decide +kernel) rfl, mem_t 461 (by decide +kernel) rfl, by decide +kernel, by decide +kernel, by decide +kernel⟩
theorem co_C_228 : CallOK "SpiderLoom" 228 m_Sh_hasRun 2 := ⟨mem_t 477 (by decide +kernel) rfl, mem_t 6 (by decide +kernel) rfl, mem_t 474 (by decide +kernel) rfl, by decide +kernel, by decide +kernel, by decide +kernel⟩
theorem co_C_237 : CallOK "SpiderLoom" 237 m_Fr_all 0 := ⟨mem_t 277 (by decide +kernel) rfl, mem_t 3 (by decide +kernel) rfl, mem_t 274 (by decide +kernel) rfl, by decide +kernel, by decide +kernel, by decide +kernel⟩
theorem co_C_240 : CallOK "SpiderLoom" 240 m_Fr_apartOfAllPairs 0 := ⟨mem_t 492 (by decide +kernel) rfl, mem_t 3 (by decide +kernel) rfl, mem_t 489 (by decide +kernel) rfl, by decide +kernel, by decide +kernel, by decide +kernel⟩
theorem co_C_247 : CallOK "SpiderLoom" 247 m_C_count 1 := ⟨mem_t 488 (by decide +kernel) rfl, mem_t 1 (by decide +kernel) rfl, mem_t 499 (by decide +kernel) rfl, by decide +kernel, by decide +kernel, by decide +kernel⟩
theorem co_C_250 : CallOK "SpiderLoom" 250 m_C_fault 0 := ⟨mem_t 205 (by decide +kernel) rfl, mem_t 1 (by decide +kernel) rfl, mem_t 500 (by decide +kernel) rfl, by decide +kernel, by decide +kernel, by decide +kernel⟩
theorem co_C_253 : CallOK "SpiderLoom" 253 m_C_mixWeb 3 := ⟨mem_t 504 (by decide +kernel) rfl, mem_t 1 (by decide +kernel) rfl, mem_t 501 (by decide +kernel) rfl, by decide +kernel, by decide +kernel, by decide +kernel⟩
theorem co_C_257 : CallOK "SpiderLoom" 257 m_C_begin 1 := ⟨mem_t 362 (by decide +kernel) rfl, mem_t 1 (by decide +kernel) rfl, mem_t 512 (by decide +kernel) rfl, by decide +kernel, by decide +kernel, by decide +kernel⟩
theorem co_C_260 : CallOK "SpiderLoom" 260 m_C_last 4 := ⟨mem_t 366 (by decide +kernel) rfl, mem_t 1 (by decide +kernel) rfl, mem_t 513 (by decide +kernel) rfl, by decide +kernel, by decide +kernel, by decide +kernel⟩
theorem co_C_264 : CallOK "SpiderLoom" 264 m_C_two 5 := ⟨mem_t 380 (by decide +kernel) rfl, mem_t 1 (by decide +kernel) rfl, mem_t 514 (by decide +kernel) rfl, by decide +kernel, by decide +kernel, by decide +kernel⟩
theorem co_C_268 : CallOK "SpiderLoom" 268 m_C_more 4 := ⟨mem_t 352 (by decide +kernel) rfl, mem_t 1 (by decide +kernel) rfl, mem_t 515 (by decide +kernel) rfl, by decide +kernel, by decide +kernel, by decide +kernel⟩
theorem co_C_271 : CallOK "SpiderLoom" 271 m_C_tells 0 := ⟨mem_t 408 (by decide +kernel) rfl, mem_t 1 (by decide +kernel) rfl, mem_t 516 (by decide +kernel) rfl, by decide +kernel, by decide +kernel, by decide +kernel⟩
theorem co_C_274 : CallOK "SpiderLoom" 274 m_C_length 3 := ⟨mem_t 301 (by decide +kernel) rfl, mem_t 1 (by decide +kernel) rfl, mem_t 505 (by decide +kernel) rfl, by decide +kernel, by decide +kernel, by decide +kernel⟩
theorem co_C_277 : CallOK "SpiderLoom" 277 m_C_crosses 2 := ⟨mem_t 305 (by decide +kernel) rfl, mem_t 1 (by decide +kernel) rfl, mem_t 506 (by decide +kernel) rfl, by decide +kernel, by decide +kernel, by decide +kernel⟩
theorem co_C_280 : CallOK "SpiderLoom" 280 m_C_turned 2 := ⟨mem_t 339 (by decide +kernel) rfl, mem_t 1 (by decide +kernel) rfl, mem_t 507 (by decide +kernel) rfl, by decide +kernel, by decide +kernel, by decide +kernel⟩
theorem co_C_283 : CallOK "SpiderLoom" 283 m_C_web 3 := ⟨mem_t 258 (by decide +kernel) rfl, mem_t 1 (by decide +kernel) rfl, mem_t 508 (by decide +kernel) rfl, by decide +kernel, by decide +kernel, by decide +kernel⟩
theorem co_C_286 : CallOK "SpiderLoom" 286 m_C_hangs 3 := ⟨mem_t 324 (by decide +kernel) rfl, mem_t 1 (by decide +kernel) rfl, mem_t 509 (by decide +kernel) rfl, by decide +kernel, by decide +kernel, by decide +kernel⟩
theorem co_C_289 : CallOK "SpiderLoom" 289 m_C_pieces 3 := ⟨mem_t 335 (by decide +kernel) rfl, mem_t 1 (by decide +kernel) rfl, mem_t 510 (by decide +kernel) rfl, by decide +kernel, by decide +kernel, by decide +kernel⟩
theorem co_C_292 : CallOK "SpiderLoom" 292 m_C_flies 4 := ⟨mem_t 417 (by decide +kernel) rfl, mem_t 1 (by decide +kernel) rfl, mem_t 511 (by decide +kernel) rfl, by decide +kernel, by decide +kernel, by decide +kernel⟩
theorem co_C_295 : CallOK "SpiderLoom" 295 m_Sp_here 0 := ⟨mem_t 281 (by decide +kernel) rfl, mem_t 5 (by decide +kernel) rfl, mem_t 278 (by decide +kernel) rfl, by decide +kernel, by decide +kernel, by decide +kernel⟩
theorem co_C_298 : CallOK "SpiderLoom" 298 m_Fr_choose 3 := ⟨mem_t 285 (by decide +kernel) rfl, mem_t 3 (by decide +kernel) rfl, mem_t 282 (by decide +kernel) rfl, by decide +kernel, by decide +kernel, by decide +kernel⟩
theorem co_C_301 : CallOK "SpiderLoom" 301 m_Sp_goOn 3 := ⟨mem_t 297 (by decide +kernel) rfl, mem_t 5 (by decide +kernel) rfl, mem_t 294 (by decide +kernel) rfl, by decide +kernel, by decide +kernel, by decide +kernel⟩
theorem co_C_318 : CallOK "SpiderLoom" 318 m_Fr_apartFrom 3 := ⟨mem_t 432 (by decide +kernel) rfl, mem_t 3 (by decide +kernel) rfl, mem_t 429 (by decide +kernel) rfl, by decide +kernel, by decide +kernel, by decide +kernel⟩
theorem co_Fr_22 : CallOK "SpiderLoom$Frame" 22 m_Fr_add 2 := ⟨mem_t 189 (by decide +kernel) rfl, mem_t 3 (by decide +kernel) rfl, mem_t 344 (by decide +kernel) rfl, by decide +kernel, by decide +kernel, by decide +kernel⟩
theorem co_Fr_26 : CallOK "SpiderLoom$Frame" 26 m_Ma_abs 1 := ⟨mem_t 254 (by decide +kernel) rfl, mem_t 8 (by decide +kernel) rfl, mem_t 252 (by decide +kernel) rfl, by decide +kernel, by decide +kernel, by decide +kernel⟩
theorem co_Fr_32 : CallOK "SpiderLoom$Frame" 32 m_Fr_apart 2 := ⟨mem_t 251 (by decide +kernel) rfl, mem_t 3 (by decide +kernel) rfl, mem_t 286 (by decide +kernel) rfl, by decide +kernel, by decide +kernel, by decide +kernel⟩
theorem co_Fr_36 : CallOK "SpiderLoom$Frame" 36 m_Fr_behindByNumbers 2 := ⟨mem_t 289 (by decide +kernel) rfl, mem_t 3 (by decide +kernel) rfl, mem_t 287 (by decide +kernel) rfl, by decide +kernel, by decide +kernel, by decide +kernel⟩
theorem co_Fr_39 : CallOK "SpiderLoom$Frame" 39 m_Fr_behindByRows 2 := ⟨mem_t 293 (by decide +kernel) rfl, mem_t 3 (by decide +kernel) rfl, mem_t 290 (by decide +kernel) rfl, by decide +kernel, by decide +kernel, by decide +kernel⟩
theorem co_Fr_42 : CallOK "SpiderLoom$Frame" 42 m_Fr_overlap 4 := ⟨mem_t 312 (by decide +kernel) rfl, mem_t 3 (by decide +kernel) rfl, mem_t 310 (by decide +kernel) rfl, by decide +kernel, by decide +kernel, by decide +kernel⟩
theorem co_Fr_46 : CallOK "SpiderLoom$Frame" 46 m_Fr_side 3 := ⟨mem_t 320 (by decide +kernel) rfl, mem_t 3 (by decide +kernel) rfl, mem_t 317 (by decide +kernel) rfl, by decide +kernel, by decide +kernel, by decide +kernel⟩
theorem co_Fr_50 : CallOK "SpiderLoom$Frame" 50 m_Ma_max 2 := ⟨mem_t 315 (by decide +kernel) rfl, mem_t 8 (by decide +kernel) rfl, mem_t 313 (by decide +kernel) rfl, by decide +kernel, by decide +kernel, by decide +kernel⟩
theorem co_Fr_53 : CallOK "SpiderLoom$Frame" 53 m_Ma_min 2 := ⟨mem_t 243 (by decide +kernel) rfl, mem_t 8 (by decide +kernel) rfl, mem_t 316 (by decide +kernel) rfl, by decide +kernel, by decide +kernel, by decide +kernel⟩
theorem co_Sh_26 : CallOK "SpiderLoom$Sheet" 26 m_Ma_min 2 := ⟨mem_t 243 (by decide +kernel) rfl, mem_t 8 (by decide +kernel) rfl, mem_t 448 (by decide +kernel) rfl, by decide +kernel, by decide +kernel, by decide +kernel⟩
theorem co_Tx_22 : CallOK "SpiderLoom$Text" 22 m_Tx_goesOn 2 := ⟨mem_t 181 (by decide +kernel) rfl, mem_t 2 (by decide +kernel) rfl, mem_t 178 (by decide +kernel) rfl, by decide +kernel, by decide +kernel, by decide +kernel⟩
theorem co_Tx_26 : CallOK "SpiderLoom$Text" 26 m_Fr_add 2 := ⟨mem_t 189 (by decide +kernel) rfl, mem_t 3 (by decide +kernel) rfl, mem_t 186 (by decide +kernel) rfl, by decide +kernel, by decide +kernel, by decide +kernel⟩
theorem co_Tx_30 : CallOK "SpiderLoom$Text" 30 m_Fr_isTaken 2 := ⟨mem_t 185 (by decide +kernel) rfl, mem_t 3 (by decide +kernel) rfl, mem_t 182 (by decide +kernel) rfl, by decide +kernel, by decide +kernel, by decide +kernel⟩
theorem co_M_60 : CallOK "SpiderLoomModel" 60 m_M_in 3 := ⟨mem_t 606 (by decide +kernel) rfl, mem_t 7 (by decide +kernel) rfl, mem_t 604 (by decide +kernel) rfl, by decide +kernel, by decide +kernel, by decide +kernel⟩
theorem co_M_70 : CallOK "SpiderLoomModel" 70 m_M_figureAt 1 := ⟨mem_t 626 (by decide +kernel) rfl, mem_t 7 (by decide +kernel) rfl, mem_t 623 (by decide +kernel) rfl, by decide +kernel, by decide +kernel, by decide +kernel⟩
theorem co_M_74 : CallOK "SpiderLoomModel" 74 m_M_isTaken 3 := ⟨mem_t 630 (by decide +kernel) rfl, mem_t 7 (by decide +kernel) rfl, mem_t 627 (by decide +kernel) rfl, by decide +kernel, by decide +kernel, by decide +kernel⟩
theorem co_M_77 : CallOK "SpiderLoomModel" 77 m_M_faultNow 0 := ⟨mem_t 622 (by decide +kernel) rfl, mem_t 7 (by decide +kernel) rfl, mem_t 619 (by decide +kernel) rfl, by decide +kernel, by decide +kernel, by decide +kernel⟩
theorem co_M_84 : CallOK "SpiderLoomModel" 84 m_M_isPeg 1 := ⟨mem_t 638 (by decide +kernel) rfl, mem_t 7 (by decide +kernel) rfl, mem_t 635 (by decide +kernel) rfl, by decide +kernel, by decide +kernel, by decide +kernel⟩
theorem co_M_88 : CallOK "SpiderLoomModel" 88 m_M_pegOf 2 := ⟨mem_t 642 (by decide +kernel) rfl, mem_t 7 (by decide +kernel) rfl, mem_t 639 (by decide +kernel) rfl, by decide +kernel, by decide +kernel, by decide +kernel⟩
theorem co_M_92 : CallOK "SpiderLoomModel" 92 m_M_isTen 1 := ⟨mem_t 649 (by decide +kernel) rfl, mem_t 7 (by decide +kernel) rfl, mem_t 647 (by decide +kernel) rfl, by decide +kernel, by decide +kernel, by decide +kernel⟩
theorem co_M_98 : CallOK "SpiderLoomModel" 98 m_M_isSheet 1 := ⟨mem_t 660 (by decide +kernel) rfl, mem_t 7 (by decide +kernel) rfl, mem_t 658 (by decide +kernel) rfl, by decide +kernel, by decide +kernel, by decide +kernel⟩
theorem co_M_101 : CallOK "SpiderLoomModel" 101 m_M_meets 1 := ⟨mem_t 664 (by decide +kernel) rfl, mem_t 7 (by decide +kernel) rfl, mem_t 661 (by decide +kernel) rfl, by decide +kernel, by decide +kernel, by decide +kernel⟩
theorem co_M_104 : CallOK "SpiderLoomModel" 104 m_M_apart 2 := ⟨mem_t 675 (by decide +kernel) rfl, mem_t 7 (by decide +kernel) rfl, mem_t 673 (by decide +kernel) rfl, by decide +kernel, by decide +kernel, by decide +kernel⟩
theorem co_M_107 : CallOK "SpiderLoomModel" 107 m_M_farOf 2 := ⟨mem_t 672 (by decide +kernel) rfl, mem_t 7 (by decide +kernel) rfl, mem_t 669 (by decide +kernel) rfl, by decide +kernel, by decide +kernel, by decide +kernel⟩
theorem co_M_110 : CallOK "SpiderLoomModel" 110 m_M_place 1 := ⟨mem_t 709 (by decide +kernel) rfl, mem_t 7 (by decide +kernel) rfl, mem_t 706 (by decide +kernel) rfl, by decide +kernel, by decide +kernel, by decide +kernel⟩
theorem co_M_113 : CallOK "SpiderLoomModel" 113 m_M_isIn 2 := ⟨mem_t 697 (by decide +kernel) rfl, mem_t 7 (by decide +kernel) rfl, mem_t 695 (by decide +kernel) rfl, by decide +kernel, by decide +kernel, by decide +kernel⟩
theorem co_M_126 : CallOK "SpiderLoomModel" 126 m_M_nextOf 3 := ⟨mem_t 705 (by decide +kernel) rfl, mem_t 7 (by decide +kernel) rfl, mem_t 702 (by decide +kernel) rfl, by decide +kernel, by decide +kernel, by decide +kernel⟩
theorem co_M_130 : CallOK "SpiderLoomModel" 130 m_M_isLaw 1 := ⟨mem_t 686 (by decide +kernel) rfl, mem_t 7 (by decide +kernel) rfl, mem_t 684 (by decide +kernel) rfl, by decide +kernel, by decide +kernel, by decide +kernel⟩
theorem co_M_133 : CallOK "SpiderLoomModel" 133 m_M_isHidden 1 := ⟨mem_t 694 (by decide +kernel) rfl, mem_t 7 (by decide +kernel) rfl, mem_t 691 (by decide +kernel) rfl, by decide +kernel, by decide +kernel, by decide +kernel⟩
theorem co_M_136 : CallOK "SpiderLoomModel" 136 m_M_lays 3 := ⟨mem_t 701 (by decide +kernel) rfl, mem_t 7 (by decide +kernel) rfl, mem_t 698 (by decide +kernel) rfl, by decide +kernel, by decide +kernel, by decide +kernel⟩
theorem co_M_140 : CallOK "SpiderLoomModel" 140 m_M_isWeb 2 := ⟨mem_t 683 (by decide +kernel) rfl, mem_t 7 (by decide +kernel) rfl, mem_t 680 (by decide +kernel) rfl, by decide +kernel, by decide +kernel, by decide +kernel⟩
theorem co_M_143 : CallOK "SpiderLoomModel" 143 m_M_webOf 3 := ⟨mem_t 690 (by decide +kernel) rfl, mem_t 7 (by decide +kernel) rfl, mem_t 687 (by decide +kernel) rfl, by decide +kernel, by decide +kernel, by decide +kernel⟩
theorem co_M_146 : CallOK "SpiderLoomModel" 146 m_M_lengthOf 3 := ⟨mem_t 717 (by decide +kernel) rfl, mem_t 7 (by decide +kernel) rfl, mem_t 714 (by decide +kernel) rfl, by decide +kernel, by decide +kernel, by decide +kernel⟩
theorem co_M_149 : CallOK "SpiderLoomModel" 149 m_M_hand 3 := ⟨mem_t 733 (by decide +kernel) rfl, mem_t 7 (by decide +kernel) rfl, mem_t 730 (by decide +kernel) rfl, by decide +kernel, by decide +kernel, by decide +kernel⟩
theorem co_M_152 : CallOK "SpiderLoomModel" 152 m_M_isBetween 3 := ⟨mem_t 737 (by decide +kernel) rfl, mem_t 7 (by decide +kernel) rfl, mem_t 734 (by decide +kernel) rfl, by decide +kernel, by decide +kernel, by decide +kernel⟩
theorem co_M_155 : CallOK "SpiderLoomModel" 155 m_M_doMeet 4 := ⟨mem_t 729 (by decide +kernel) rfl, mem_t 7 (by decide +kernel) rfl, mem_t 726 (by decide +kernel) rfl, by decide +kernel, by decide +kernel, by decide +kernel⟩
theorem co_M_159 : CallOK "SpiderLoomModel" 159 m_M_crossesOf 2 := ⟨mem_t 725 (by decide +kernel) rfl, mem_t 7 (by decide +kernel) rfl, mem_t 722 (by decide +kernel) rfl, by decide +kernel, by decide +kernel, by decide +kernel⟩
theorem co_M_162 : CallOK "SpiderLoomModel" 162 m_M_indexOf 1 := ⟨mem_t 749 (by decide +kernel) rfl, mem_t 7 (by decide +kernel) rfl, mem_t 746 (by decide +kernel) rfl, by decide +kernel, by decide +kernel, by decide +kernel⟩
theorem co_M_165 : CallOK "SpiderLoomModel" 165 m_M_hangsOf 3 := ⟨mem_t 745 (by decide +kernel) rfl, mem_t 7 (by decide +kernel) rfl, mem_t 742 (by decide +kernel) rfl, by decide +kernel, by decide +kernel, by decide +kernel⟩
theorem co_M_168 : CallOK "SpiderLoomModel" 168 m_M_piecesOf 3 := ⟨mem_t 757 (by decide +kernel) rfl, mem_t 7 (by decide +kernel) rfl, mem_t 754 (by decide +kernel) rfl, by decide +kernel, by decide +kernel, by decide +kernel⟩
theorem co_M_171 : CallOK "SpiderLoomModel" 171 m_M_turns 1 := ⟨mem_t 769 (by decide +kernel) rfl, mem_t 7 (by decide +kernel) rfl, mem_t 766 (by decide +kernel) rfl, by decide +kernel, by decide +kernel, by decide +kernel⟩
theorem co_M_175 : CallOK "SpiderLoomModel" 175 m_M_turnedOf 2 := ⟨mem_t 765 (by decide +kernel) rfl, mem_t 7 (by decide +kernel) rfl, mem_t 762 (by decide +kernel) rfl, by decide +kernel, by decide +kernel, by decide +kernel⟩
theorem co_M_178 : CallOK "SpiderLoomModel" 178 m_M_moreOf 4 := ⟨mem_t 777 (by decide +kernel) rfl, mem_t 7 (by decide +kernel) rfl, mem_t 774 (by decide +kernel) rfl, by decide +kernel, by decide +kernel, by decide +kernel⟩
theorem co_M_182 : CallOK "SpiderLoomModel" 182 m_M_beginOf 1 := ⟨mem_t 785 (by decide +kernel) rfl, mem_t 7 (by decide +kernel) rfl, mem_t 782 (by decide +kernel) rfl, by decide +kernel, by decide +kernel, by decide +kernel⟩
theorem co_M_185 : CallOK "SpiderLoomModel" 185 m_M_ones 1 := ⟨mem_t 796 (by decide +kernel) rfl, mem_t 7 (by decide +kernel) rfl, mem_t 794 (by decide +kernel) rfl, by decide +kernel, by decide +kernel, by decide +kernel⟩
theorem co_M_188 : CallOK "SpiderLoomModel" 188 m_M_lastOf 4 := ⟨mem_t 793 (by decide +kernel) rfl, mem_t 7 (by decide +kernel) rfl, mem_t 790 (by decide +kernel) rfl, by decide +kernel, by decide +kernel, by decide +kernel⟩
theorem co_M_191 : CallOK "SpiderLoomModel" 191 m_M_twoOf 5 := ⟨mem_t 804 (by decide +kernel) rfl, mem_t 7 (by decide +kernel) rfl, mem_t 801 (by decide +kernel) rfl, by decide +kernel, by decide +kernel, by decide +kernel⟩
theorem co_M_198 : CallOK "SpiderLoomModel" 198 m_M_fitsNow 0 := ⟨mem_t 820 (by decide +kernel) rfl, mem_t 7 (by decide +kernel) rfl, mem_t 817 (by decide +kernel) rfl, by decide +kernel, by decide +kernel, by decide +kernel⟩
theorem co_M_201 : CallOK "SpiderLoomModel" 201 m_M_areAlike 2 := ⟨mem_t 836 (by decide +kernel) rfl, mem_t 7 (by decide +kernel) rfl, mem_t 833 (by decide +kernel) rfl, by decide +kernel, by decide +kernel, by decide +kernel⟩
theorem co_M_204 : CallOK "SpiderLoomModel" 204 m_M_unlikeFrom 2 := ⟨mem_t 832 (by decide +kernel) rfl, mem_t 7 (by decide +kernel) rfl, mem_t 829 (by decide +kernel) rfl, by decide +kernel, by decide +kernel, by decide +kernel⟩
theorem co_M_207 : CallOK "SpiderLoomModel" 207 m_M_tellsNow 0 := ⟨mem_t 828 (by decide +kernel) rfl, mem_t 7 (by decide +kernel) rfl, mem_t 825 (by decide +kernel) rfl, by decide +kernel, by decide +kernel, by decide +kernel⟩
theorem co_M_211 : CallOK "SpiderLoomModel" 211 m_M_fliesOf 4 := ⟨mem_t 844 (by decide +kernel) rfl, mem_t 7 (by decide +kernel) rfl, mem_t 841 (by decide +kernel) rfl, by decide +kernel, by decide +kernel, by decide +kernel⟩
theorem co_M_214 : CallOK "SpiderLoomModel" 214 m_M_dewOf 3 := ⟨mem_t 853 (by decide +kernel) rfl, mem_t 7 (by decide +kernel) rfl, mem_t 850 (by decide +kernel) rfl, by decide +kernel, by decide +kernel, by decide +kernel⟩
theorem co_M_220 : CallOK "SpiderLoomModel" 220 m_M_lacks 3 := ⟨mem_t 869 (by decide +kernel) rfl, mem_t 7 (by decide +kernel) rfl, mem_t 866 (by decide +kernel) rfl, by decide +kernel, by decide +kernel, by decide +kernel⟩
theorem co_M_223 : CallOK "SpiderLoomModel" 223 m_M_keep 3 := ⟨mem_t 873 (by decide +kernel) rfl, mem_t 7 (by decide +kernel) rfl, mem_t 870 (by decide +kernel) rfl, by decide +kernel, by decide +kernel, by decide +kernel⟩
theorem co_M_227 : CallOK "SpiderLoomModel" 227 m_M_sumOf 1 := ⟨mem_t 894 (by decide +kernel) rfl, mem_t 7 (by decide +kernel) rfl, mem_t 891 (by decide +kernel) rfl, by decide +kernel, by decide +kernel, by decide +kernel⟩
theorem co_M_234 : CallOK "SpiderLoomModel" 234 m_M_count 1 := ⟨mem_t 890 (by decide +kernel) rfl, mem_t 7 (by decide +kernel) rfl, mem_t 901 (by decide +kernel) rfl, by decide +kernel, by decide +kernel, by decide +kernel⟩
theorem co_M_237 : CallOK "SpiderLoomModel" 237 m_M_pieces 3 := ⟨mem_t 753 (by decide +kernel) rfl, mem_t 7 (by decide +kernel) rfl, mem_t 902 (by decide +kernel) rfl, by decide +kernel, by decide +kernel, by decide +kernel⟩
theorem co_M_240 : CallOK "SpiderLoomModel" 240 m_M_last 4 := ⟨mem_t 789 (by decide +kernel) rfl, mem_t 7 (by decide +kernel) rfl, mem_t 903 (by decide +kernel) rfl, by decide +kernel, by decide +kernel, by decide +kernel⟩
theorem co_M_243 : CallOK "SpiderLoomModel" 243 m_M_two 5 := ⟨mem_t 800 (by decide +kernel) rfl, mem_t 7 (by decide +kernel) rfl, mem_t 904 (by decide +kernel) rfl, by decide +kernel, by decide +kernel, by decide +kernel⟩
theorem co_M_246 : CallOK "SpiderLoomModel" 246 m_M_more 4 := ⟨mem_t 773 (by decide +kernel) rfl, mem_t 7 (by decide +kernel) rfl, mem_t 905 (by decide +kernel) rfl, by decide +kernel, by decide +kernel, by decide +kernel⟩
theorem io_Tx_append : InstOK m_Tx_append 4 := ⟨mem_t 171 (by decide +kernel) rfl, mem_t 172 (by decide +kernel) rfl, _, rfl, by decide +kernel⟩
theorem io_Fr_isTaken : InstOK m_Fr_isTaken 0 := ⟨mem_t 183 (by decide +kernel) rfl, mem_t 184 (by decide +kernel) rfl, _, rfl, by decide +kernel⟩
theorem io_Tx_goesOn : InstOK m_Tx_goesOn 4 := ⟨mem_t 180 (by decide +kernel) rfl, mem_s3 0 2 (by decide +kernel), _, rfl, by decide +kernel⟩
theorem io_Fr_add : InstOK m_Fr_add 0 := ⟨mem_t 187 (by decide +kernel) rfl, mem_t 188 (by decide +kernel) rfl, _, rfl, by decide +kernel⟩
theorem io_Tx_pegsTo : InstOK m_Tx_pegsTo 4 := ⟨mem_t 175 (by decide +kernel) rfl, mem_t 176 (by decide +kernel) rfl, _, rfl, by decide +kernel⟩
theorem io_C_type : InstOK m_C_type 5 := ⟨mem_t 167 (by decide +kernel) rfl, mem_t 168 (by decide +kernel) rfl, _, rfl, by decide +kernel⟩
theorem io_Tx_shorten : InstOK m_Tx_shorten 4 := ⟨mem_t 195 (by decide +kernel) rfl, mem_t 196 (by decide +kernel) rfl, _, rfl, by decide +kernel⟩
theorem io_C_wipe : InstOK m_C_wipe 5 := ⟨mem_t 191 (by decide +kernel) rfl, mem_t 192 (by decide +kernel) rfl, _, rfl, by decide +kernel⟩
theorem io_C_undo : InstOK m_C_undo 5 := ⟨mem_t 199 (by decide +kernel) rfl, mem_t 200 (by decide +kernel) rfl, _, rfl, by decide +kernel⟩
theorem io_C_fault : InstOK m_C_fault 5 := ⟨mem_t 203 (by decide +kernel) rfl, mem_t 204 (by decide +kernel) rfl, _, rfl, by decide +kernel⟩
theorem io_Fr_has : InstOK m_Fr_has 0 := ⟨mem_t 211 (by decide +kernel) rfl, mem_t 212 (by decide +kernel) rfl, _, rfl, by decide +kernel⟩
theorem io_C_isHidden : InstOK m_C_isHidden 5 := ⟨mem_t 216 (by decide +kernel) rfl, mem_s3 1 12 (by decide +kernel), _, rfl, by decide +kernel⟩
theorem io_C_peg : InstOK m_C_peg 5 := ⟨mem_t 207 (by decide +kernel) rfl, mem_t 208 (by decide +kernel) rfl, _, rfl, by decide +kernel⟩
theorem io_C_setHidden : InstOK m_C_setHidden 5 := ⟨mem_t 224 (by decide +kernel) rfl, mem_s3 2 12 (by decide +kernel), _, rfl, by decide +kernel⟩
theorem io_C_hide : InstOK m_C_hide 5 := ⟨mem_t 219 (by decide +kernel) rfl, mem_t 220 (by decide +kernel) rfl, _, rfl, by decide +kernel⟩
theorem io_C_set : InstOK m_C_set 5 := ⟨mem_t 227 (by decide +kernel) rfl, mem_t 228 (by decide +kernel) rfl, _, rfl, by decide +kernel⟩
theorem so_C_isSheet : StatOK m_C_isSheet := mem_t 235 (by decide +kernel) rfl
theorem io_C_found : InstOK m_C_found 5 := ⟨mem_t 239 (by decide +kernel) rfl, mem_s3 3 12 (by decide +kernel), _, rfl, by decide +kernel⟩
theorem so_Ma_min : StatOK m_Ma_min := mem_t 242 (by decide +kernel) rfl
theorem io_C_read : InstOK m_C_read 5 := ⟨mem_t 231 (by decide +kernel) rfl, mem_t 232 (by decide +kernel) rfl, _, rfl, by decide +kernel⟩
theorem so_Ma_abs : StatOK m_Ma_abs := mem_t 253 (by decide +kernel) rfl
theorem io_Fr_apart : InstOK m_Fr_apart 0 := ⟨mem_t 249 (by decide +kernel) rfl, mem_t 250 (by decide +kernel) rfl, _, rfl, by decide +kernel⟩
theorem io_C_far : InstOK m_C_far 5 := ⟨mem_t 245 (by decide +kernel) rfl, mem_t 246 (by decide +kernel) rfl, _, rfl, by decide +kernel⟩
theorem so_C_isLaw : StatOK m_C_isLaw := mem_t 264 (by decide +kernel) rfl
theorem io_C_canBeTold : InstOK m_C_canBeTold 5 := ⟨mem_t 261 (by decide +kernel) rfl, mem_s3 4 12 (by decide +kernel), _, rfl, by decide +kernel⟩
theorem io_Sp_startAt : InstOK m_Sp_startAt 3 := ⟨mem_t 271 (by decide +kernel) rfl, mem_t 272 (by decide +kernel) rfl, _, rfl, by decide +kernel⟩
theorem io_Fr_all : InstOK m_Fr_all 0 := ⟨mem_t 275 (by decide +kernel) rfl, mem_t 276 (by decide +kernel) rfl, _, rfl, by decide +kernel⟩
theorem io_Sp_here : InstOK m_Sp_here 3 := ⟨mem_t 279 (by decide +kernel) rfl, mem_t 280 (by decide +kernel) rfl, _, rfl, by decide +kernel⟩
theorem so_Fr_behindByNumbers : StatOK m_Fr_behindByNumbers := mem_t 288 (by decide +kernel) rfl
theorem io_Fr_behindByRows : InstOK m_Fr_behindByRows 0 := ⟨mem_t 292 (by decide +kernel) rfl, mem_s3 6 3 (by decide +kernel), _, rfl, by decide +kernel⟩
theorem io_Fr_choose : InstOK m_Fr_choose 0 := ⟨mem_t 283 (by decide +kernel) rfl, mem_t 284 (by decide +kernel) rfl, _, rfl, by decide +kernel⟩
theorem io_Sp_goOn : InstOK m_Sp_goOn 3 := ⟨mem_t 295 (by decide +kernel) rfl, mem_t 296 (by decide +kernel) rfl, _, rfl, by decide +kernel⟩
theorem io_C_lay : InstOK m_C_lay 5 := ⟨mem_t 268 (by decide +kernel) rfl, mem_s3 5 12 (by decide +kernel), _, rfl, by decide +kernel⟩
theorem io_C_web : InstOK m_C_web 5 := ⟨mem_t 256 (by decide +kernel) rfl, mem_t 257 (by decide +kernel) rfl, _, rfl, by decide +kernel⟩
theorem io_C_length : InstOK m_C_length 5 := ⟨mem_t 299 (by decide +kernel) rfl, mem_t 300 (by decide +kernel) rfl, _, rfl, by decide +kernel⟩
theorem so_Ma_max : StatOK m_Ma_max := mem_t 314 (by decide +kernel) rfl
theorem so_Fr_overlap : StatOK m_Fr_overlap := mem_t 311 (by decide +kernel) rfl
theorem io_Fr_side : InstOK m_Fr_side 0 := ⟨mem_t 319 (by decide +kernel) rfl, mem_s3 7 3 (by decide +kernel), _, rfl, by decide +kernel⟩
theorem io_Fr_meet : InstOK m_Fr_meet 0 := ⟨mem_t 307 (by decide +kernel) rfl, mem_t 308 (by decide +kernel) rfl, _, rfl, by decide +kernel⟩
theorem io_C_crosses : InstOK m_C_crosses 5 := ⟨mem_t 303 (by decide +kernel) rfl, mem_t 304 (by decide +kernel) rfl, _, rfl, by decide +kernel⟩
theorem io_Sp_placeOf : InstOK m_Sp_placeOf 3 := ⟨mem_t 329 (by decide +kernel) rfl, mem_t 330 (by decide +kernel) rfl, _, rfl, by decide +kernel⟩
theorem so_C_neighbours : StatOK m_C_neighbours := mem_t 326 (by decide +kernel) rfl
theorem io_C_hangs : InstOK m_C_hangs 5 := ⟨mem_t 322 (by decide +kernel) rfl, mem_t 323 (by decide +kernel) rfl, _, rfl, by decide +kernel⟩
theorem io_C_pieces : InstOK m_C_pieces 5 := ⟨mem_t 333 (by decide +kernel) rfl, mem_t 334 (by decide +kernel) rfl, _, rfl, by decide +kernel⟩
theorem io_Fr_becomeTurned : InstOK m_Fr_becomeTurned 0 := ⟨mem_t 341 (by decide +kernel) rfl, mem_t 342 (by decide +kernel) rfl, _, rfl, by decide +kernel⟩
theorem io_Sp_hasRowOf : InstOK m_Sp_hasRowOf 3 := ⟨mem_t 346 (by decide +kernel) rfl, mem_t 347 (by decide +kernel) rfl, _, rfl, by decide +kernel⟩
theorem io_C_turned : InstOK m_C_turned 5 := ⟨mem_t 337 (by decide +kernel) rfl, mem_t 338 (by decide +kernel) rfl, _, rfl, by decide +kernel⟩
theorem io_Fr_become : InstOK m_Fr_become 0 := ⟨mem_t 355 (by decide +kernel) rfl, mem_t 356 (by decide +kernel) rfl, _, rfl, by decide +kernel⟩
theorem io_C_more : InstOK m_C_more 5 := ⟨mem_t 350 (by decide +kernel) rfl, mem_t 351 (by decide +kernel) rfl, _, rfl, by decide +kernel⟩
theorem io_C_begin : InstOK m_C_begin 5 := ⟨mem_t 360 (by decide +kernel) rfl, mem_t 361 (by decide +kernel) rfl, _, rfl, by decide +kernel⟩
theorem so_In_bitCount : StatOK m_In_bitCount := mem_t 372 (by decide +kernel) rfl
theorem io_C_fewestHiddenFor : InstOK m_C_fewestHiddenFor 5 := ⟨mem_t 369 (by decide +kernel) rfl, mem_s3 8 12 (by decide +kernel), _, rfl, by decide +kernel⟩
theorem io_C_last : InstOK m_C_last 5 := ⟨mem_t 364 (by decide +kernel) rfl, mem_t 365 (by decide +kernel) rfl, _, rfl, by decide +kernel⟩
theorem io_C_stepInTurn : InstOK m_C_stepInTurn 5 := ⟨mem_t 383 (by decide +kernel) rfl, mem_s3 9 12 (by decide +kernel), _, rfl, by decide +kernel⟩
theorem io_C_two : InstOK m_C_two 5 := ⟨mem_t 378 (by decide +kernel) rfl, mem_t 379 (by decide +kernel) rfl, _, rfl, by decide +kernel⟩
theorem io_No_add : InstOK m_No_add 1 := ⟨mem_t 390 (by decide +kernel) rfl, mem_t 391 (by decide +kernel) rfl, _, rfl, by decide +kernel⟩
theorem io_C_seen : InstOK m_C_seen 5 := ⟨mem_t 386 (by decide +kernel) rfl, mem_t 387 (by decide +kernel) rfl, _, rfl, by decide +kernel⟩
theorem io_C_forget : InstOK m_C_forget 5 := ⟨mem_t 394 (by decide +kernel) rfl, mem_t 395 (by decide +kernel) rfl, _, rfl, by decide +kernel⟩
theorem io_C_comesOut : InstOK m_C_comesOut 5 := ⟨mem_t 403 (by decide +kernel) rfl, mem_s3 10 12 (by decide +kernel), _, rfl, by decide +kernel⟩
theorem io_C_fits : InstOK m_C_fits 5 := ⟨mem_t 398 (by decide +kernel) rfl, mem_t 399 (by decide +kernel) rfl, _, rfl, by decide +kernel⟩
theorem io_C_unlikeWebs : InstOK m_C_unlikeWebs 5 := ⟨mem_t 412 (by decide +kernel) rfl, mem_s3 11 12 (by decide +kernel), _, rfl, by decide +kernel⟩
theorem io_C_tells : InstOK m_C_tells 5 := ⟨mem_t 406 (by decide +kernel) rfl, mem_t 407 (by decide +kernel) rfl, _, rfl, by decide +kernel⟩
theorem so_C_nextLot : StatOK m_C_nextLot := mem_t 419 (by decide +kernel) rfl
theorem so_C_placeByLot : StatOK m_C_placeByLot := mem_t 423 (by decide +kernel) rfl
theorem io_Fr_apartFrom : InstOK m_Fr_apartFrom 0 := ⟨mem_t 430 (by decide +kernel) rfl, mem_t 431 (by decide +kernel) rfl, _, rfl, by decide +kernel⟩
theorem io_C_isCaught : InstOK m_C_isCaught 5 := ⟨mem_t 427 (by decide +kernel) rfl, mem_s3 12 12 (by decide +kernel), _, rfl, by decide +kernel⟩
theorem io_C_flies : InstOK m_C_flies 5 := ⟨mem_t 415 (by decide +kernel) rfl, mem_t 416 (by decide +kernel) rfl, _, rfl, by decide +kernel⟩
theorem io_C_dew : InstOK m_C_dew 5 := ⟨mem_t 434 (by decide +kernel) rfl, mem_t 435 (by decide +kernel) rfl, _, rfl, by decide +kernel⟩
theorem so_C_isForm : StatOK m_C_isForm := mem_t 442 (by decide +kernel) rfl
theorem io_Sh_renew : InstOK m_Sh_renew 2 := ⟨mem_t 445 (by decide +kernel) rfl, mem_t 446 (by decide +kernel) rfl, _, rfl, by decide +kernel⟩
theorem io_C_sheet : InstOK m_C_sheet 5 := ⟨mem_t 438 (by decide +kernel) rfl, mem_t 439 (by decide +kernel) rfl, _, rfl, by decide +kernel⟩
theorem io_C_lose : InstOK m_C_lose 5 := ⟨mem_t 450 (by decide +kernel) rfl, mem_t 451 (by decide +kernel) rfl, _, rfl, by decide +kernel⟩
theorem io_C_refusalOfItem : InstOK m_C_refusalOfItem 5 := ⟨mem_t 459 (by decide +kernel) rfl, mem_s3 13 12 (by decide +kernel), _, rfl, by decide +kernel⟩
theorem io_Sh_store : InstOK m_Sh_store 2 := ⟨mem_t 462 (by decide +kernel) rfl, mem_t 463 (by decide +kernel) rfl, _, rfl, by decide +kernel⟩
theorem io_C_put : InstOK m_C_put 5 := ⟨mem_t 454 (by decide +kernel) rfl, mem_t 455 (by decide +kernel) rfl, _, rfl, by decide +kernel⟩
theorem io_C_get : InstOK m_C_get 5 := ⟨mem_t 466 (by decide +kernel) rfl, mem_t 467 (by decide +kernel) rfl, _, rfl, by decide +kernel⟩
theorem io_Sh_hasRun : InstOK m_Sh_hasRun 2 := ⟨mem_t 475 (by decide +kernel) rfl, mem_t 476 (by decide +kernel) rfl, _, rfl, by decide +kernel⟩
theorem io_C_copy : InstOK m_C_copy 5 := ⟨mem_t 471 (by decide +kernel) rfl, mem_t 472 (by decide +kernel) rfl, _, rfl, by decide +kernel⟩
theorem io_C_write : InstOK m_C_write 5 := ⟨mem_t 482 (by decide +kernel) rfl, mem_t 483 (by decide +kernel) rfl, _, rfl, by decide +kernel⟩
theorem io_Fr_apartOfAllPairs : InstOK m_Fr_apartOfAllPairs 0 := ⟨mem_t 490 (by decide +kernel) rfl, mem_t 491 (by decide +kernel) rfl, _, rfl, by decide +kernel⟩
theorem io_C_count : InstOK m_C_count 5 := ⟨mem_t 486 (by decide +kernel) rfl, mem_t 487 (by decide +kernel) rfl, _, rfl, by decide +kernel⟩
theorem io_C_mixWeb : InstOK m_C_mixWeb 5 := ⟨mem_t 503 (by decide +kernel) rfl, mem_s3 14 12 (by decide +kernel), _, rfl, by decide +kernel⟩
theorem io_C_digest : InstOK m_C_digest 5 := ⟨mem_t 494 (by decide +kernel) rfl, mem_t 495 (by decide +kernel) rfl, _, rfl, by decide +kernel⟩
theorem so_M_in : StatOK m_M_in := mem_t 605 (by decide +kernel) rfl
theorem io_M_type : InstOK m_M_type 6 := ⟨mem_t 601 (by decide +kernel) rfl, mem_t 602 (by decide +kernel) rfl, _, rfl, by decide +kernel⟩
theorem io_M_wipe : InstOK m_M_wipe 6 := ⟨mem_t 608 (by decide +kernel) rfl, mem_t 609 (by decide +kernel) rfl, _, rfl, by decide +kernel⟩
theorem io_M_undo : InstOK m_M_undo 6 := ⟨mem_t 612 (by decide +kernel) rfl, mem_t 613 (by decide +kernel) rfl, _, rfl, by decide +kernel⟩
theorem io_M_figureAt : InstOK m_M_figureAt 6 := ⟨mem_t 625 (by decide +kernel) rfl, mem_s3 16 25 (by decide +kernel), _, rfl, by decide +kernel⟩
theorem io_M_isTaken : InstOK m_M_isTaken 6 := ⟨mem_t 629 (by decide +kernel) rfl, mem_s3 17 25 (by decide +kernel), _, rfl, by decide +kernel⟩
theorem io_M_faultNow : InstOK m_M_faultNow 6 := ⟨mem_t 621 (by decide +kernel) rfl, mem_s3 15 25 (by decide +kernel), _, rfl, by decide +kernel⟩
theorem io_M_fault : InstOK m_M_fault 6 := ⟨mem_t 616 (by decide +kernel) rfl, mem_t 617 (by decide +kernel) rfl, _, rfl, by decide +kernel⟩
theorem io_M_isPeg : InstOK m_M_isPeg 6 := ⟨mem_t 637 (by decide +kernel) rfl, mem_s3 18 25 (by decide +kernel), _, rfl, by decide +kernel⟩
theorem io_M_pegOf : InstOK m_M_pegOf 6 := ⟨mem_t 641 (by decide +kernel) rfl, mem_s3 19 25 (by decide +kernel), _, rfl, by decide +kernel⟩
theorem io_M_peg : InstOK m_M_peg 6 := ⟨mem_t 632 (by decide +kernel) rfl, mem_t 633 (by decide +kernel) rfl, _, rfl, by decide +kernel⟩
theorem so_M_isTen : StatOK m_M_isTen := mem_t 648 (by decide +kernel) rfl
theorem io_M_hide : InstOK m_M_hide 6 := ⟨mem_t 644 (by decide +kernel) rfl, mem_t 645 (by decide +kernel) rfl, _, rfl, by decide +kernel⟩
theorem io_M_set : InstOK m_M_set 6 := ⟨mem_t 651 (by decide +kernel) rfl, mem_t 652 (by decide +kernel) rfl, _, rfl, by decide +kernel⟩
theorem so_M_isSheet : StatOK m_M_isSheet := mem_t 659 (by decide +kernel) rfl
theorem io_M_meets : InstOK m_M_meets 6 := ⟨mem_t 663 (by decide +kernel) rfl, mem_s3 20 25 (by decide +kernel), _, rfl, by decide +kernel⟩
theorem io_M_read : InstOK m_M_read 6 := ⟨mem_t 655 (by decide +kernel) rfl, mem_t 656 (by decide +kernel) rfl, _, rfl, by decide +kernel⟩
theorem so_M_apart : StatOK m_M_apart := mem_t 674 (by decide +kernel) rfl
theorem io_M_farOf : InstOK m_M_farOf 6 := ⟨mem_t 671 (by decide +kernel) rfl, mem_s3 21 25 (by decide +kernel), _, rfl, by decide +kernel⟩
theorem io_M_far : InstOK m_M_far 6 := ⟨mem_t 666 (by decide +kernel) rfl, mem_t 667 (by decide +kernel) rfl, _, rfl, by decide +kernel⟩
theorem so_M_isLaw : StatOK m_M_isLaw := mem_t 685 (by decide +kernel) rfl
theorem io_M_isWeb : InstOK m_M_isWeb 6 := ⟨mem_t 682 (by decide +kernel) rfl, mem_s3 22 25 (by decide +kernel), _, rfl, by decide +kernel⟩
theorem so_M_isIn : StatOK m_M_isIn := mem_t 696 (by decide +kernel) rfl
theorem io_M_isHidden : InstOK m_M_isHidden 6 := ⟨mem_t 693 (by decide +kernel) rfl, mem_s3 24 25 (by decide +kernel), _, rfl, by decide +kernel⟩
theorem io_M_place : InstOK m_M_place 6 := ⟨mem_t 708 (by decide +kernel) rfl, mem_s3 27 25 (by decide +kernel), _, rfl, by decide +kernel⟩
theorem io_M_nextOf : InstOK m_M_nextOf 6 := ⟨mem_t 704 (by decide +kernel) rfl, mem_s3 26 25 (by decide +kernel), _, rfl, by decide +kernel⟩
theorem io_M_lays : InstOK m_M_lays 6 := ⟨mem_t 700 (by decide +kernel) rfl, mem_s3 25 25 (by decide +kernel), _, rfl, by decide +kernel⟩
theorem io_M_webOf : InstOK m_M_webOf 6 := ⟨mem_t 689 (by decide +kernel) rfl, mem_s3 23 25 (by decide +kernel), _, rfl, by decide +kernel⟩
theorem io_M_web : InstOK m_M_web 6 := ⟨mem_t 677 (by decide +kernel) rfl, mem_t 678 (by decide +kernel) rfl, _, rfl, by decide +kernel⟩
theorem io_M_lengthOf : InstOK m_M_lengthOf 6 := ⟨mem_t 716 (by decide +kernel) rfl, mem_s3 28 25 (by decide +kernel), _, rfl, by decide +kernel⟩
theorem io_M_length : InstOK m_M_length 6 := ⟨mem_t 711 (by decide +kernel) rfl, mem_t 712 (by decide +kernel) rfl, _, rfl, by decide +kernel⟩
theorem io_M_hand : InstOK m_M_hand 6 := ⟨mem_t 732 (by decide +kernel) rfl, mem_s3 31 25 (by decide +kernel), _, rfl, by decide +kernel⟩
theorem io_M_isBetween : InstOK m_M_isBetween 6 := ⟨mem_t 736 (by decide +kernel) rfl, mem_s3 32 25 (by decide +kernel), _, rfl, by decide +kernel⟩
theorem io_M_doMeet : InstOK m_M_doMeet 6 := ⟨mem_t 728 (by decide +kernel) rfl, mem_s3 30 25 (by decide +kernel), _, rfl, by decide +kernel⟩
theorem io_M_crossesOf : InstOK m_M_crossesOf 6 := ⟨mem_t 724 (by decide +kernel) rfl, mem_s3 29 25 (by decide +kernel), _, rfl, by decide +kernel⟩
theorem io_M_crosses : InstOK m_M_crosses 6 := ⟨mem_t 719 (by decide +kernel) rfl, mem_t 720 (by decide +kernel) rfl, _, rfl, by decide +kernel⟩
theorem io_M_indexOf : InstOK m_M_indexOf 6 := ⟨mem_t 748 (by decide +kernel) rfl, mem_s3 34 25 (by decide +kernel), _, rfl, by decide +kernel⟩
theorem io_M_hangsOf : InstOK m_M_hangsOf 6 := ⟨mem_t 744 (by decide +kernel) rfl, mem_s3 33 25 (by decide +kernel), _, rfl, by decide +kernel⟩
theorem io_M_hangs : InstOK m_M_hangs 6 := ⟨mem_t 739 (by decide +kernel) rfl, mem_t 740 (by decide +kernel) rfl, _, rfl, by decide +kernel⟩
theorem io_M_piecesOf : InstOK m_M_piecesOf 6 := ⟨mem_t 756 (by decide +kernel) rfl, mem_s3 35 25 (by decide +kernel), _, rfl, by decide +kernel⟩
theorem io_M_pieces : InstOK m_M_pieces 6 := ⟨mem_t 751 (by decide +kernel) rfl, mem_t 752 (by decide +kernel) rfl, _, rfl, by decide +kernel⟩
theorem io_M_turns : InstOK m_M_turns 6 := ⟨mem_t 768 (by decide +kernel) rfl, mem_s3 37 25 (by decide +kernel), _, rfl, by decide +kernel⟩
theorem io_M_turnedOf : InstOK m_M_turnedOf 6 := ⟨mem_t 764 (by decide +kernel) rfl, mem_s3 36 25 (by decide +kernel), _, rfl, by decide +kernel⟩
theorem io_M_turned : InstOK m_M_turned 6 := ⟨mem_t 759 (by decide +kernel) rfl, mem_t 760 (by decide +kernel) rfl, _, rfl, by decide +kernel⟩
theorem io_M_moreOf : InstOK m_M_moreOf 6 := ⟨mem_t 776 (by decide +kernel) rfl, mem_s3 38 25 (by decide +kernel), _, rfl, by decide +kernel⟩
theorem io_M_more : InstOK m_M_more 6 := ⟨mem_t 771 (by decide +kernel) rfl, mem_t 772 (by decide +kernel) rfl, _, rfl, by decide +kernel⟩
theorem io_M_beginOf : InstOK m_M_beginOf 6 := ⟨mem_t 784 (by decide +kernel) rfl, mem_s3 39 25 (by decide +kernel), _, rfl, by decide +kernel⟩
theorem io_M_begin : InstOK m_M_begin 6 := ⟨mem_t 779 (by decide +kernel) rfl, mem_t 780 (by decide +kernel) rfl, _, rfl, by decide +kernel⟩
theorem so_M_ones : StatOK m_M_ones := mem_t 795 (by decide +kernel) rfl
theorem io_M_lastOf : InstOK m_M_lastOf 6 := ⟨mem_t 792 (by decide +kernel) rfl, mem_s3 40 25 (by decide +kernel), _, rfl, by decide +kernel⟩
theorem io_M_last : InstOK m_M_last 6 := ⟨mem_t 787 (by decide +kernel) rfl, mem_t 788 (by decide +kernel) rfl, _, rfl, by decide +kernel⟩
theorem io_M_twoOf : InstOK m_M_twoOf 6 := ⟨mem_t 803 (by decide +kernel) rfl, mem_s3 41 25 (by decide +kernel), _, rfl, by decide +kernel⟩
theorem io_M_two : InstOK m_M_two 6 := ⟨mem_t 798 (by decide +kernel) rfl, mem_t 799 (by decide +kernel) rfl, _, rfl, by decide +kernel⟩
theorem io_M_seen : InstOK m_M_seen 6 := ⟨mem_t 806 (by decide +kernel) rfl, mem_t 807 (by decide +kernel) rfl, _, rfl, by decide +kernel⟩
theorem io_M_forget : InstOK m_M_forget 6 := ⟨mem_t 810 (by decide +kernel) rfl, mem_t 811 (by decide +kernel) rfl, _, rfl, by decide +kernel⟩
theorem io_M_fitsNow : InstOK m_M_fitsNow 6 := ⟨mem_t 819 (by decide +kernel) rfl, mem_s3 42 25 (by decide +kernel), _, rfl, by decide +kernel⟩
theorem io_M_fits : InstOK m_M_fits 6 := ⟨mem_t 814 (by decide +kernel) rfl, mem_t 815 (by decide +kernel) rfl, _, rfl, by decide +kernel⟩
theorem io_M_areAlike : InstOK m_M_areAlike 6 := ⟨mem_t 835 (by decide +kernel) rfl, mem_s3 45 25 (by decide +kernel), _, rfl, by decide +kernel⟩
theorem io_M_unlikeFrom : InstOK m_M_unlikeFrom 6 := ⟨mem_t 831 (by decide +kernel) rfl, mem_s3 44 25 (by decide +kernel), _, rfl, by decide +kernel⟩
theorem io_M_tellsNow : InstOK m_M_tellsNow 6 := ⟨mem_t 827 (by decide +kernel) rfl, mem_s3 43 25 (by decide +kernel), _, rfl, by decide +kernel⟩
theorem io_M_tells : InstOK m_M_tells 6 := ⟨mem_t 822 (by decide +kernel) rfl, mem_t 823 (by decide +kernel) rfl, _, rfl, by decide +kernel⟩
theorem io_M_fliesOf : InstOK m_M_fliesOf 6 := ⟨mem_t 843 (by decide +kernel) rfl, mem_s3 46 25 (by decide +kernel), _, rfl, by decide +kernel⟩
theorem io_M_flies : InstOK m_M_flies 6 := ⟨mem_t 838 (by decide +kernel) rfl, mem_t 839 (by decide +kernel) rfl, _, rfl, by decide +kernel⟩
theorem io_M_dewOf : InstOK m_M_dewOf 6 := ⟨mem_t 852 (by decide +kernel) rfl, mem_s3 47 25 (by decide +kernel), _, rfl, by decide +kernel⟩
theorem io_M_dew : InstOK m_M_dew 6 := ⟨mem_t 847 (by decide +kernel) rfl, mem_t 848 (by decide +kernel) rfl, _, rfl, by decide +kernel⟩
theorem io_M_sheet : InstOK m_M_sheet 6 := ⟨mem_t 855 (by decide +kernel) rfl, mem_t 856 (by decide +kernel) rfl, _, rfl, by decide +kernel⟩
theorem io_M_lose : InstOK m_M_lose 6 := ⟨mem_t 859 (by decide +kernel) rfl, mem_t 860 (by decide +kernel) rfl, _, rfl, by decide +kernel⟩
theorem io_M_lacks : InstOK m_M_lacks 6 := ⟨mem_t 868 (by decide +kernel) rfl, mem_s3 48 25 (by decide +kernel), _, rfl, by decide +kernel⟩
theorem io_M_keep : InstOK m_M_keep 6 := ⟨mem_t 872 (by decide +kernel) rfl, mem_s3 49 25 (by decide +kernel), _, rfl, by decide +kernel⟩
theorem io_M_put : InstOK m_M_put 6 := ⟨mem_t 863 (by decide +kernel) rfl, mem_t 864 (by decide +kernel) rfl, _, rfl, by decide +kernel⟩
theorem io_M_get : InstOK m_M_get 6 := ⟨mem_t 875 (by decide +kernel) rfl, mem_t 876 (by decide +kernel) rfl, _, rfl, by decide +kernel⟩
theorem io_M_copy : InstOK m_M_copy 6 := ⟨mem_t 880 (by decide +kernel) rfl, mem_t 881 (by decide +kernel) rfl, _, rfl, by decide +kernel⟩
theorem io_M_write : InstOK m_M_write 6 := ⟨mem_t 884 (by decide +kernel) rfl, mem_t 885 (by decide +kernel) rfl, _, rfl, by decide +kernel⟩
theorem io_M_sumOf : InstOK m_M_sumOf 6 := ⟨mem_t 893 (by decide +kernel) rfl, mem_s3 50 25 (by decide +kernel), _, rfl, by decide +kernel⟩
theorem io_M_count : InstOK m_M_count 6 := ⟨mem_t 888 (by decide +kernel) rfl, mem_t 889 (by decide +kernel) rfl, _, rfl, by decide +kernel⟩
theorem io_M_digest : InstOK m_M_digest 6 := ⟨mem_t 896 (by decide +kernel) rfl, mem_t 897 (by decide +kernel) rfl, _, rfl, by decide +kernel⟩
end
section
def f_Tx_append (a0 : Nat) (x1 : Int32) (h : Hp) : Option (Unit × Hp) :=
  if 40 ≤ (h a0 1) then
    some ((), h)
  else
    chk 40 (h a0 1) <|
    some ((), hset (hset h (a0 + 1) (ix (h a0 1)) x1) a0 1 (((hset h (a0 + 1) (ix (h a0 1)) x1) a0 1) + 1))
def l_Fr_isTaken_2 : Nat → Nat → Int32 → Int32 → Int32 → Hp → Option (Int32 × Hp)
  | 0, _, _, _, _, _ => none
  | n + 1, a0, x1, x2, x3, h =>
    if (h a0 2) ≤ x3 then
      some (0, h)
    else
      chk 10 x3 <|
      if (h (a0 + 1) (ix x3)) = x1 then
        chk 10 x3 <|
        if (h (a0 + 2) (ix x3)) = x2 then
          some (1, h)
        else
          (l_Fr_isTaken_2 n) a0 x1 x2 (x3 + 1) h
      else
        (l_Fr_isTaken_2 n) a0 x1 x2 (x3 + 1) h
def f_Fr_isTaken (a0 : Nat) (x1 : Int32) (x2 : Int32) (h : Hp) : Option (Int32 × Hp) :=
  l_Fr_isTaken_2 FUEL a0 x1 x2 0 h
def f_Tx_goesOn (a0 : Nat) (a1 : Nat) (x2 : Int32) (h : Hp) : Option (Int32 × Hp) :=
  chk 40 x2 <|
  if (x2 - x2 / 3 * 3) = 2 then
    if (h (a0 + 1) (ix x2)) = 59 then
      some (1, h)
    else
      some (0, h)
  else
    if (h (a0 + 1) (ix x2)) < 48 then
      some (0, h)
    else
      if 57 < (h (a0 + 1) (ix x2)) then
        some (0, h)
      else
        if (h a1 2) < 10 then
          if (x2 - x2 / 3 * 3) = 0 then
            some (1, h)
          else
            chk 40 (x2 - 1) <|
            bnd (f_Fr_isTaken a1 ((h (a0 + 1) (ix (x2 - 1))) - 48) ((h (a0 + 1) (ix x2)) - 48) h) fun r7 h7 =>
            if r7 = 0 then
              some (1, h7)
            else
              some (0, h7)
        else
          some (0, h)
def f_Fr_add (a0 : Nat) (x1 : Int32) (x2 : Int32) (h : Hp) : Option (Unit × Hp) :=
  if 10 ≤ (h a0 2) then
    some ((), h)
  else
    chk 10 (h a0 2) <|
    chk 10 ((hset h (a0 + 1) (ix (h a0 2)) x1) a0 2) <|
    some ((), hset (hset (hset h (a0 + 1) (ix (h a0 2)) x1) (a0 + 2) (ix ((hset h (a0 + 1) (ix (h a0 2)) x1) a0 2)) x2) a0 2 (((hset (hset h (a0 + 1) (ix (h a0 2)) x1) (a0 + 2) (ix ((hset h (a0 + 1) (ix (h a0 2)) x1) a0 2)) x2) a0 2) + 1))
def l_Tx_pegsTo_7 : Nat → Nat → Nat → Int32 → Hp → Option (Int32 × Hp)
  | 0, _, _, _, _ => none
  | n + 1, a0, a1, x2, h =>
    if (h a0 1) ≤ x2 then
      if x2 = (h a0 1) then
        if (h a0 1) = 0 then
          some ((-1), h)
        else
          if ((h a0 1) - (h a0 1) / 3 * 3) = 2 then
            some ((-1), h)
          else
            some (x2, hset h a1 2 0)
      else
        some (x2, hset h a1 2 0)
    else
      bnd (f_Tx_goesOn a0 a1 x2 h) fun r5 h5 =>
      if r5 = 0 then
        if x2 = (h5 a0 1) then
          if (h5 a0 1) = 0 then
            some ((-1), h5)
          else
            if ((h5 a0 1) - (h5 a0 1) / 3 * 3) = 2 then
              some ((-1), h5)
            else
              some (x2, hset h5 a1 2 0)
        else
          some (x2, hset h5 a1 2 0)
      else
        if (x2 - x2 / 3 * 3) = 1 then
          chk 40 (x2 - 1) <|
          chk 40 x2 <|
          bnd (f_Fr_add a1 ((h5 (a0 + 1) (ix (x2 - 1))) - 48) ((h5 (a0 + 1) (ix x2)) - 48) h5) fun _ h11 =>
          (l_Tx_pegsTo_7 n) a0 a1 (x2 + 1) h11
        else
          (l_Tx_pegsTo_7 n) a0 a1 (x2 + 1) h5
def f_Tx_pegsTo (a0 : Nat) (a1 : Nat) (h : Hp) : Option (Int32 × Hp) :=
  l_Tx_pegsTo_7 FUEL a0 a1 0 (hset h a1 2 0)
def f_C_type (x1 : Int32) (h : Hp) : Option (Int32 × Hp) :=
  if x1 < 0 then
    some ((-2), h)
  else
    if x1 ≤ 255 then
      if (h 1 1) < 40 then
        bnd (f_Tx_append 1 x1 h) fun _ h4 =>
        bnd (f_Tx_pegsTo 1 3 h4) fun r5 h5 =>
        some ((hset h5 0 6 r5) 1 1, hset h5 0 6 r5)
      else
        some ((-4), h)
    else
      some ((-2), h)
def f_Tx_shorten (a0 : Nat) (x1 : Int32) (h : Hp) : Option (Unit × Hp) :=
  if x1 < 0 then
    some ((), h)
  else
    if (h a0 1) ≤ x1 then
      some ((), h)
    else
      some ((), hset h a0 1 x1)
def f_C_wipe (h : Hp) : Option (Int32 × Hp) :=
  bnd (f_Tx_shorten 1 0 h) fun _ h1 =>
  bnd (f_Tx_pegsTo 1 3 h1) fun r2 h2 =>
  some (h 1 1, hset h2 0 6 r2)
def f_C_undo (h : Hp) : Option (Int32 × Hp) :=
  if 0 < (h 1 1) then
    bnd (f_Tx_shorten 1 ((h 1 1) - 1) h) fun _ h2 =>
    bnd (f_Tx_pegsTo 1 3 h2) fun r3 h3 =>
    some ((hset h3 0 6 r3) 1 1, hset h3 0 6 r3)
  else
    some ((-3), h)
def f_C_fault (h : Hp) : Option (Int32 × Hp) :=
  some (h 0 6, h)
def f_Fr_has (a0 : Nat) (x1 : Int32) (h : Hp) : Option (Int32 × Hp) :=
  if x1 < 0 then
    some (0, h)
  else
    if (h a0 2) ≤ x1 then
      some (0, h)
    else
      some (1, h)
def f_C_isHidden (x1 : Int32) (h : Hp) : Option (Int32 × Hp) :=
  if (((h 0 7) >>> (x1 &&& 31)) &&& 1) = 1 then
    some (1, h)
  else
    some (0, h)
def f_C_peg (x1 : Int32) (x2 : Int32) (h : Hp) : Option (Int32 × Hp) :=
  bnd (f_Fr_has 3 x1 h) fun r1 h1 =>
  if r1 = 0 then
    some ((-2), h1)
  else
    if x2 = 0 then
      chk 10 x1 <|
      some (h1 4 (ix x1), h1)
    else
      if x2 = 1 then
        chk 10 x1 <|
        some (h1 5 (ix x1), h1)
      else
        if x2 = 2 then
          bnd (f_C_isHidden x1 h1) fun r6 h6 =>
          if r6 = 0 then
            some (0, h6)
          else
            some (1, h6)
        else
          some ((-2), h1)
def f_C_setHidden (x1 : Int32) (x2 : Int32) (h : Hp) : Option (Unit × Hp) :=
  some ((), hset h 0 7 (((h 0 7) &&& (((1 : Int32) <<< (x1 &&& 31)) ^^^ (-1))) ||| (x2 <<< (x1 &&& 31))))
def f_C_hide (x1 : Int32) (x2 : Int32) (h : Hp) : Option (Int32 × Hp) :=
  if x1 < 0 then
    some ((-2), h)
  else
    if 10 ≤ x1 then
      some ((-2), h)
    else
      if x2 < 0 then
        some ((-2), h)
      else
        if x2 ≤ 1 then
          bnd (f_C_isHidden x1 h) fun r5 h5 =>
          if r5 = 0 then
            bnd (f_C_setHidden x1 x2 h5) fun _ h7 =>
            some (0, h7)
          else
            bnd (f_C_setHidden x1 x2 h5) fun _ h8 =>
            some (1, h8)
        else
          some ((-2), h)
def f_C_set (x1 : Int32) (x2 : Int32) (h : Hp) : Option (Int32 × Hp) :=
  if 0 ≤ x2 then
    if x1 = 0 then
      if 200 < x2 then
        if x1 = 1 then
          if 9 < x2 then
            if x1 = 2 then
              some ((-2), h)
            else
              some ((-2), h)
          else
            some (h 0 9, hset h 0 9 x2)
        else
          if x1 = 2 then
            if 9 < x2 then
              some ((-2), h)
            else
              some (h 0 10, hset h 0 10 x2)
          else
            some ((-2), h)
      else
        some (h 0 8, hset h 0 8 x2)
    else
      if x1 = 1 then
        if 9 < x2 then
          if x1 = 2 then
            some ((-2), h)
          else
            some ((-2), h)
        else
          some (h 0 9, hset h 0 9 x2)
      else
        if x1 = 2 then
          if 9 < x2 then
            some ((-2), h)
          else
            some (h 0 10, hset h 0 10 x2)
        else
          some ((-2), h)
  else
    some ((-2), h)
def f_C_isSheet (x0 : Int32) (h : Hp) : Option (Int32 × Hp) :=
  if x0 < 0 then
    some (0, h)
  else
    if 4 ≤ x0 then
      some (0, h)
    else
      some (1, h)
def f_C_found (x1 : Int32) (h : Hp) : Option (Int32 × Hp) :=
  some ((-10) - x1, hset h 0 11 x1)
def f_Ma_min (x0 : Int32) (x1 : Int32) (h : Hp) : Option (Int32 × Hp) :=
  if x1 < x0 then
    some (x1, h)
  else
    some (x0, h)
def l_C_read_43 : Nat → Nat → Int32 → Int32 → Hp → Option (Int32 × Hp)
  | 0, _, _, _, _ => none
  | n + 1, a2, x3, x4, h =>
    if x3 ≤ x4 then
      some (x3, h)
    else
      chk 48 x4 <|
      if (h (a2 + 1) (ix x4)) = 0 then
        bnd (f_C_setHidden x4 (h (a2 + 1) (ix x4)) h) fun _ h8 =>
        (l_C_read_43 n) a2 x3 (x4 + 1) h8
      else
        if (h (a2 + 1) (ix x4)) = 1 then
          bnd (f_C_setHidden x4 (h (a2 + 1) (ix x4)) h) fun _ h10 =>
          (l_C_read_43 n) a2 x3 (x4 + 1) h10
        else
          some (x4, h)
def f_C_read (x1 : Int32) (h : Hp) : Option (Int32 × Hp) :=
  bnd (f_C_isSheet x1 h) fun r1 h1 =>
  if r1 = 0 then
    some ((-2), h1)
  else
    chk 4 x1 <|
    if (h1 (23 + 2 * ix x1) 1) = 0 then
      bnd (f_Ma_min (h1 (23 + 2 * ix x1) 3) 10 h1) fun r5 h5 =>
      l_C_read_43 FUEL (23 + 2 * ix x1) r5 0 h5
    else
      bnd (f_C_found 1 h1) fun r11 h11 =>
      some (r11, h11)
def f_Ma_abs (x0 : Int32) (h : Hp) : Option (Int32 × Hp) :=
  if 0 ≤ x0 then
    some (x0, h)
  else
    some (-x0, h)
def f_Fr_apart (a0 : Nat) (x1 : Int32) (x2 : Int32) (h : Hp) : Option (Int32 × Hp) :=
  chk 10 x1 <|
  chk 10 x2 <|
  bnd (f_Ma_abs ((h (a0 + 1) (ix x1)) - (h (a0 + 1) (ix x2))) h) fun r1 h1 =>
  chk 10 x1 <|
  chk 10 x2 <|
  bnd (f_Ma_abs ((h1 (a0 + 2) (ix x1)) - (h1 (a0 + 2) (ix x2))) h1) fun r2 h2 =>
  some (r1 + r2, h2)
def f_C_far (x1 : Int32) (x2 : Int32) (h : Hp) : Option (Int32 × Hp) :=
  bnd (f_Fr_has 3 x1 h) fun r1 h1 =>
  if r1 = 0 then
    some ((-2), h1)
  else
    bnd (f_Fr_has 3 x2 h1) fun r3 h3 =>
    if r3 = 0 then
      some ((-2), h3)
    else
      bnd (f_Fr_apart 3 x1 x2 h3) fun r5 h5 =>
      some (r5, h5)
def f_C_isLaw (x0 : Int32) (h : Hp) : Option (Int32 × Hp) :=
  if x0 < 0 then
    some (0, h)
  else
    if 4 ≤ x0 then
      some (0, h)
    else
      some (1, h)
def f_C_canBeTold (x1 : Int32) (x2 : Int32) (h : Hp) : Option (Int32 × Hp) :=
  bnd (f_Fr_has 3 x1 h) fun r1 h1 =>
  if r1 = 0 then
    some (0, h1)
  else
    bnd (f_C_isLaw x2 h1) fun r3 h3 =>
    if r3 = 0 then
      some (0, h3)
    else
      some (1, h3)
def f_Sp_startAt (a0 : Nat) (x1 : Int32) (x2 : Int32) (x3 : Int32) (h : Hp) : Option (Unit × Hp) :=
  chk 10 0 <|
  some ((), hset (hset (hset (hset (hset h (a0 + 1) (ix 0) x1) a0 1 1) a0 2 x2) a0 3 0) a0 4 x3)
def f_Fr_all (a0 : Nat) (h : Hp) : Option (Int32 × Hp) :=
  some (((1 : Int32) <<< ((h a0 2) &&& 31)) - 1, h)
def f_Sp_here (a0 : Nat) (h : Hp) : Option (Int32 × Hp) :=
  if (h a0 1) ≤ 0 then
    some (0, h)
  else
    chk 10 ((h a0 1) - 1) <|
    some (h (a0 + 1) (ix ((h a0 1) - 1)), h)
def f_Fr_behindByNumbers (x0 : Int32) (x1 : Int32) (h : Hp) : Option (Int32 × Hp) :=
  if x1 ≤ x0 then
    some ((x1 - x0) + 10, h)
  else
    some (x1 - x0, h)
def f_Fr_behindByRows (a0 : Nat) (x1 : Int32) (x2 : Int32) (h : Hp) : Option (Int32 × Hp) :=
  chk 10 x2 <|
  chk 10 x1 <|
  chk 10 x2 <|
  chk 10 x1 <|
  if (((((h (a0 + 2) (ix x2)) - (h (a0 + 2) (ix x1))) * 10) + (h (a0 + 1) (ix x2))) - (h (a0 + 1) (ix x1))) ≤ 0 then
    some ((((((h (a0 + 2) (ix x2)) - (h (a0 + 2) (ix x1))) * 10) + (h (a0 + 1) (ix x2))) - (h (a0 + 1) (ix x1))) + 100, h)
  else
    some (((((h (a0 + 2) (ix x2)) - (h (a0 + 2) (ix x1))) * 10) + (h (a0 + 1) (ix x2))) - (h (a0 + 1) (ix x1)), h)
def l_Fr_choose_9 : Nat → Nat → Int32 → Int32 → Int32 → Int32 → Int32 → Int32 → Hp → Option (Int32 × Hp)
  | 0, _, _, _, _, _, _, _, _ => none
  | n + 1, a0, x1, x2, x3, x4, x5, x6, h =>
    if (h a0 2) ≤ x6 then
      some (x4, h)
    else
      if ((x3 >>> (x6 &&& 31)) &&& 1) = 0 then
        (l_Fr_choose_9 n) a0 x1 x2 x3 x4 x5 (x6 + 1) h
      else
        if x1 = 0 then
          bnd (f_Fr_apart a0 x2 x6 h) fun r4 h4 =>
          if x4 = (-1) then
            (l_Fr_choose_9 n) a0 x1 x2 x3 x6 r4 (x6 + 1) h4
          else
            if x5 ≤ r4 then
              (l_Fr_choose_9 n) a0 x1 x2 x3 x4 x5 (x6 + 1) h4
            else
              (l_Fr_choose_9 n) a0 x1 x2 x3 x6 r4 (x6 + 1) h4
        else
          if x1 = 1 then
            bnd (f_Fr_apart a0 x2 x6 h) fun r8 h8 =>
            if x4 = (-1) then
              (l_Fr_choose_9 n) a0 x1 x2 x3 x6 (-r8) (x6 + 1) h8
            else
              if x5 ≤ (-r8) then
                (l_Fr_choose_9 n) a0 x1 x2 x3 x4 x5 (x6 + 1) h8
              else
                (l_Fr_choose_9 n) a0 x1 x2 x3 x6 (-r8) (x6 + 1) h8
          else
            if x1 = 2 then
              bnd (f_Fr_behindByNumbers x2 x6 h) fun r12 h12 =>
              if x4 = (-1) then
                (l_Fr_choose_9 n) a0 x1 x2 x3 x6 r12 (x6 + 1) h12
              else
                if x5 ≤ r12 then
                  (l_Fr_choose_9 n) a0 x1 x2 x3 x4 x5 (x6 + 1) h12
                else
                  (l_Fr_choose_9 n) a0 x1 x2 x3 x6 r12 (x6 + 1) h12
            else
              bnd (f_Fr_behindByRows a0 x2 x6 h) fun r15 h15 =>
              if x4 = (-1) then
                (l_Fr_choose_9 n) a0 x1 x2 x3 x6 r15 (x6 + 1) h15
              else
                if x5 ≤ r15 then
                  (l_Fr_choose_9 n) a0 x1 x2 x3 x4 x5 (x6 + 1) h15
                else
                  (l_Fr_choose_9 n) a0 x1 x2 x3 x6 r15 (x6 + 1) h15
def f_Fr_choose (a0 : Nat) (x1 : Int32) (x2 : Int32) (x3 : Int32) (h : Hp) : Option (Int32 × Hp) :=
  l_Fr_choose_9 FUEL a0 x1 x2 x3 (-1) 0 0 h
def f_Sp_goOn (a0 : Nat) (x1 : Int32) (x2 : Int32) (x3 : Int32) (h : Hp) : Option (Int32 × Hp) :=
  if 10 ≤ (h a0 1) then
    some (0, h)
  else
    if (x2 + x3) ≤ (h a0 4) then
      chk 10 (h a0 1) <|
      some (1, hset (hset (hset (hset h (a0 + 1) (ix (h a0 1)) x1) a0 1 (((hset h (a0 + 1) (ix (h a0 1)) x1) a0 1) + 1)) a0 3 (((hset (hset h (a0 + 1) (ix (h a0 1)) x1) a0 1 (((hset h (a0 + 1) (ix (h a0 1)) x1) a0 1) + 1)) a0 3) + x2)) a0 4 (((hset (hset (hset h (a0 + 1) (ix (h a0 1)) x1) a0 1 (((hset h (a0 + 1) (ix (h a0 1)) x1) a0 1) + 1)) a0 3 (((hset (hset h (a0 + 1) (ix (h a0 1)) x1) a0 1 (((hset h (a0 + 1) (ix (h a0 1)) x1) a0 1) + 1)) a0 3) + x2)) a0 4) - (x2 + x3)))
    else
      some (0, h)
def l_C_lay_31 : Nat → Nat → Nat → Int32 → Int32 → Int32 → Hp → Option (Nat × Hp)
  | 0, _, _, _, _, _, _ => none
  | n + 1, a1, a2, x4, x6, x7, h =>
    if (h a2 2) ≤ x7 then
      some (a1, h)
    else
      bnd (f_Sp_here a1 h) fun r4 h4 =>
      bnd (f_Fr_choose a2 x4 r4 x6 h4) fun r5 h5 =>
      if r5 = (-1) then
        some (a1, h5)
      else
        bnd (f_Sp_here a1 h5) fun r7 h7 =>
        bnd (f_Fr_apart a2 r7 r5 h7) fun r8 h8 =>
        bnd (f_Sp_goOn a1 r5 r8 (h8 0 9) h8) fun r9 h9 =>
        if r9 = 0 then
          some (a1, h9)
        else
          (l_C_lay_31 n) a1 a2 x4 (x6 &&& (((1 : Int32) <<< (r5 &&& 31)) ^^^ (-1))) (x7 + 1) h9
def f_C_lay (a1 : Nat) (a2 : Nat) (x3 : Int32) (x4 : Int32) (x5 : Int32) (h : Hp) : Option (Nat × Hp) :=
  bnd (f_Sp_startAt a1 x3 x4 (h 0 8) h) fun _ h1 =>
  bnd (f_Fr_all a2 h1) fun r2 h2 =>
  l_C_lay_31 FUEL a1 a2 x4 ((r2 &&& (x5 ^^^ (-1))) &&& (((1 : Int32) <<< (x3 &&& 31)) ^^^ (-1))) 1 h2
def f_C_web (x1 : Int32) (x2 : Int32) (x3 : Int32) (h : Hp) : Option (Int32 × Hp) :=
  bnd (f_C_canBeTold x1 x2 h) fun r1 h1 =>
  if r1 = 0 then
    some ((-2), h1)
  else
    if x3 < 0 then
      some ((-2), h1)
    else
      if x3 < 10 then
        bnd (f_C_isHidden x1 h1) fun r5 h5 =>
        if r5 = 0 then
          chk 4 0 <|
          bnd (f_C_lay 15 3 x1 x2 (h5 0 7) h5) fun r8 h8 =>
          if (h8 r8 1) ≤ x3 then
            some ((-1), h8)
          else
            chk 10 x3 <|
            some (h8 (r8 + 1) (ix x3), h8)
        else
          some ((-3), h5)
      else
        some ((-2), h1)
def f_C_length (x1 : Int32) (x2 : Int32) (x3 : Int32) (h : Hp) : Option (Int32 × Hp) :=
  bnd (f_C_canBeTold x1 x2 h) fun r1 h1 =>
  if r1 = 0 then
    some ((-2), h1)
  else
    if x3 < 0 then
      some ((-2), h1)
    else
      if x3 ≤ 2 then
        bnd (f_C_isHidden x1 h1) fun r5 h5 =>
        if r5 = 0 then
          chk 4 0 <|
          bnd (f_C_lay 15 3 x1 x2 (h5 0 7) h5) fun r8 h8 =>
          if x3 = 0 then
            some (h8 r8 3, h8)
          else
            if x3 = 1 then
              some (h8 r8 1, h8)
            else
              some (h8 r8 4, h8)
        else
          some ((-3), h5)
      else
        some ((-2), h1)
def f_Ma_max (x0 : Int32) (x1 : Int32) (h : Hp) : Option (Int32 × Hp) :=
  if x0 < x1 then
    some (x1, h)
  else
    some (x0, h)
def f_Fr_overlap (x0 : Int32) (x1 : Int32) (x2 : Int32) (x3 : Int32) (h : Hp) : Option (Int32 × Hp) :=
  bnd (f_Ma_max x0 x1 h) fun r1 h1 =>
  bnd (f_Ma_min x2 x3 h1) fun r2 h2 =>
  if r1 < r2 then
    some (0, h2)
  else
    bnd (f_Ma_max x2 x3 h2) fun r4 h4 =>
    bnd (f_Ma_min x0 x1 h4) fun r5 h5 =>
    if r4 < r5 then
      some (0, h5)
    else
      some (1, h5)
def f_Fr_side (a0 : Nat) (x1 : Int32) (x2 : Int32) (x3 : Int32) (h : Hp) : Option (Int32 × Hp) :=
  chk 10 x2 <|
  chk 10 x1 <|
  chk 10 x3 <|
  chk 10 x1 <|
  chk 10 x2 <|
  chk 10 x1 <|
  chk 10 x3 <|
  chk 10 x1 <|
  some ((((h (a0 + 1) (ix x2)) - (h (a0 + 1) (ix x1))) * ((h (a0 + 2) (ix x3)) - (h (a0 + 2) (ix x1)))) - (((h (a0 + 2) (ix x2)) - (h (a0 + 2) (ix x1))) * ((h (a0 + 1) (ix x3)) - (h (a0 + 1) (ix x1)))), h)
def f_Fr_meet (a0 : Nat) (x1 : Int32) (x2 : Int32) (x3 : Int32) (x4 : Int32) (h : Hp) : Option (Int32 × Hp) :=
  chk 10 x1 <|
  chk 10 x2 <|
  chk 10 x3 <|
  chk 10 x4 <|
  bnd (f_Fr_overlap (h (a0 + 1) (ix x1)) (h (a0 + 1) (ix x2)) (h (a0 + 1) (ix x3)) (h (a0 + 1) (ix x4)) h) fun r1 h1 =>
  if r1 = 0 then
    some (0, h1)
  else
    chk 10 x1 <|
    chk 10 x2 <|
    chk 10 x3 <|
    chk 10 x4 <|
    bnd (f_Fr_overlap (h1 (a0 + 2) (ix x1)) (h1 (a0 + 2) (ix x2)) (h1 (a0 + 2) (ix x3)) (h1 (a0 + 2) (ix x4)) h1) fun r3 h3 =>
    if r3 = 0 then
      some (0, h3)
    else
      bnd (f_Fr_side a0 x1 x2 x3 h3) fun r5 h5 =>
      bnd (f_Fr_side a0 x1 x2 x4 h5) fun r6 h6 =>
      if 0 < (r5 * r6) then
        some (0, h6)
      else
        bnd (f_Fr_side a0 x3 x4 x1 h6) fun r8 h8 =>
        bnd (f_Fr_side a0 x3 x4 x2 h8) fun r9 h9 =>
        if 0 < (r8 * r9) then
          some (0, h9)
        else
          some (1, h9)
def l_C_crosses_67 (K50 : Nat → Int32 → Int32 → Hp → Option (Int32 × Hp)) : Nat → Nat → Int32 → Int32 → Int32 → Hp → Option (Int32 × Hp)
  | 0, _, _, _, _, _ => none
  | n + 1, a3, x4, x5, x6, h =>
    if (h a3 1) ≤ (x6 + 1) then
      K50 a3 x4 (x5 + 1) h
    else
      chk 10 x5 <|
      chk 10 (x5 + 1) <|
      chk 10 x6 <|
      chk 10 (x6 + 1) <|
      bnd (f_Fr_meet 3 (h (a3 + 1) (ix x5)) (h (a3 + 1) (ix (x5 + 1))) (h (a3 + 1) (ix x6)) (h (a3 + 1) (ix (x6 + 1))) h) fun r9 h9 =>
      if r9 = 0 then
        (l_C_crosses_67 K50 n) a3 x4 x5 (x6 + 1) h9
      else
        (l_C_crosses_67 K50 n) a3 (x4 + 1) x5 (x6 + 1) h9
def l_C_crosses_50 : Nat → Nat → Int32 → Int32 → Hp → Option (Int32 × Hp)
  | 0, _, _, _, _ => none
  | n + 1, a3, x4, x5, h =>
    if (h a3 1) ≤ (x5 + 1) then
      some (x4, h)
    else
      l_C_crosses_67 (l_C_crosses_50 n) FUEL a3 x4 x5 (x5 + 2) h
def f_C_crosses (x1 : Int32) (x2 : Int32) (h : Hp) : Option (Int32 × Hp) :=
  bnd (f_C_canBeTold x1 x2 h) fun r1 h1 =>
  if r1 = 0 then
    some ((-2), h1)
  else
    bnd (f_C_isHidden x1 h1) fun r3 h3 =>
    if r3 = 0 then
      chk 4 0 <|
      bnd (f_C_lay 15 3 x1 x2 (h3 0 7) h3) fun r6 h6 =>
      l_C_crosses_50 FUEL r6 0 0 h6
    else
      some ((-3), h3)
def l_Sp_placeOf_2 : Nat → Nat → Int32 → Int32 → Hp → Option (Int32 × Hp)
  | 0, _, _, _, _ => none
  | n + 1, a0, x1, x2, h =>
    if (h a0 1) ≤ x2 then
      some ((-1), h)
    else
      chk 10 x2 <|
      if (h (a0 + 1) (ix x2)) = x1 then
        some (x2, h)
      else
        (l_Sp_placeOf_2 n) a0 x1 (x2 + 1) h
def f_Sp_placeOf (a0 : Nat) (x1 : Int32) (h : Hp) : Option (Int32 × Hp) :=
  l_Sp_placeOf_2 FUEL a0 x1 0 h
def f_C_neighbours (a0 : Nat) (x1 : Int32) (h : Hp) : Option (Int32 × Hp) :=
  bnd (f_Sp_placeOf a0 x1 h) fun r1 h1 =>
  if r1 = (-1) then
    some (0, h1)
  else
    if r1 ≤ 0 then
      if (h1 a0 1) ≤ (r1 + 1) then
        some (0 + 0, h1)
      else
        some (0 + 1, h1)
    else
      if (h1 a0 1) ≤ (r1 + 1) then
        some (1 + 0, h1)
      else
        some (1 + 1, h1)
def f_C_hangs (x1 : Int32) (x2 : Int32) (x3 : Int32) (h : Hp) : Option (Int32 × Hp) :=
  bnd (f_C_canBeTold x1 x2 h) fun r1 h1 =>
  if r1 = 0 then
    some ((-2), h1)
  else
    bnd (f_Fr_has 3 x3 h1) fun r3 h3 =>
    if r3 = 0 then
      some ((-2), h3)
    else
      bnd (f_C_isHidden x1 h3) fun r5 h5 =>
      if r5 = 0 then
        chk 4 0 <|
        bnd (f_C_lay 15 3 x1 x2 (h5 0 7) h5) fun r8 h8 =>
        bnd (f_C_neighbours r8 x3 h8) fun r9 h9 =>
        some (r9, h9)
      else
        some ((-3), h5)
def f_C_pieces (x1 : Int32) (x2 : Int32) (x3 : Int32) (h : Hp) : Option (Int32 × Hp) :=
  bnd (f_C_canBeTold x1 x2 h) fun r1 h1 =>
  if r1 = 0 then
    some ((-2), h1)
  else
    bnd (f_Fr_has 3 x3 h1) fun r3 h3 =>
    if r3 = 0 then
      some ((-2), h3)
    else
      bnd (f_C_isHidden x1 h3) fun r5 h5 =>
      if r5 = 0 then
        chk 4 0 <|
        bnd (f_C_lay 15 3 x1 x2 (h5 0 7) h5) fun r8 h8 =>
        bnd (f_Sp_placeOf r8 x3 h8) fun r9 h9 =>
        if r9 = (-1) then
          some (1, h9)
        else
          bnd (f_C_neighbours r8 x3 h9) fun r11 h11 =>
          some (r11, h11)
      else
        some ((-3), h5)
def l_Fr_becomeTurned_7 : Nat → Nat → Nat → Int32 → Hp → Option (Unit × Hp)
  | 0, _, _, _, _ => none
  | n + 1, a0, a1, x2, h =>
    if (h a1 2) ≤ x2 then
      some ((), h)
    else
      chk 10 x2 <|
      chk 10 x2 <|
      bnd (f_Fr_add a0 (9 - (h (a1 + 2) (ix x2))) (h (a1 + 1) (ix x2)) h) fun _ h2 =>
      (l_Fr_becomeTurned_7 n) a0 a1 (x2 + 1) h2
def f_Fr_becomeTurned (a0 : Nat) (a1 : Nat) (h : Hp) : Option (Unit × Hp) :=
  l_Fr_becomeTurned_7 FUEL a0 a1 0 (hset h a0 2 0)
def l_Sp_hasRowOf_15 : Nat → Nat → Nat → Int32 → Hp → Option (Int32 × Hp)
  | 0, _, _, _, _ => none
  | n + 1, a0, a1, x2, h =>
    if (h a0 1) ≤ x2 then
      some (1, h)
    else
      chk 10 x2 <|
      chk 10 x2 <|
      if (h (a0 + 1) (ix x2)) = (h (a1 + 1) (ix x2)) then
        (l_Sp_hasRowOf_15 n) a0 a1 (x2 + 1) h
      else
        some (0, h)
def f_Sp_hasRowOf (a0 : Nat) (a1 : Nat) (h : Hp) : Option (Int32 × Hp) :=
  if (h a0 1) = (h a1 1) then
    l_Sp_hasRowOf_15 FUEL a0 a1 0 h
  else
    some (0, h)
def f_C_turned (x1 : Int32) (x2 : Int32) (h : Hp) : Option (Int32 × Hp) :=
  bnd (f_C_canBeTold x1 x2 h) fun r1 h1 =>
  if r1 = 0 then
    some ((-2), h1)
  else
    bnd (f_C_isHidden x1 h1) fun r3 h3 =>
    if r3 = 0 then
      bnd (f_Fr_becomeTurned 6 3 h3) fun _ h5 =>
      chk 4 0 <|
      bnd (f_C_lay 15 3 x1 x2 (h5 0 7) h5) fun r7 h7 =>
      chk 4 1 <|
      bnd (f_C_lay 17 6 x1 x2 (h7 0 7) h7) fun r9 h9 =>
      bnd (f_Sp_hasRowOf r7 r9 h9) fun r10 h10 =>
      if r10 = 0 then
        some (0, h10)
      else
        some (1, h10)
    else
      some ((-3), h3)
def l_Fr_become_7 : Nat → Nat → Nat → Int32 → Hp → Option (Unit × Hp)
  | 0, _, _, _, _ => none
  | n + 1, a0, a1, x2, h =>
    if (h a1 2) ≤ x2 then
      some ((), h)
    else
      chk 10 x2 <|
      chk 10 x2 <|
      bnd (f_Fr_add a0 (h (a1 + 1) (ix x2)) (h (a1 + 2) (ix x2)) h) fun _ h2 =>
      (l_Fr_become_7 n) a0 a1 (x2 + 1) h2
def f_Fr_become (a0 : Nat) (a1 : Nat) (h : Hp) : Option (Unit × Hp) :=
  l_Fr_become_7 FUEL a0 a1 0 (hset h a0 2 0)
def f_C_more (x1 : Int32) (x2 : Int32) (x3 : Int32) (x4 : Int32) (h : Hp) : Option (Int32 × Hp) :=
  bnd (f_C_canBeTold x1 x2 h) fun r1 h1 =>
  if r1 = 0 then
    some ((-2), h1)
  else
    if x3 < 0 then
      some ((-2), h1)
    else
      if 10 ≤ x3 then
        some ((-2), h1)
      else
        if x4 < 0 then
          some ((-2), h1)
        else
          if x4 < 10 then
            bnd (f_C_isHidden x1 h1) fun r7 h7 =>
            if r7 = 0 then
              if 10 ≤ (h7 3 2) then
                some ((-3), h7)
              else
                bnd (f_Fr_isTaken 3 x3 x4 h7) fun r10 h10 =>
                if r10 = 0 then
                  bnd (f_Fr_become 6 3 h10) fun _ h12 =>
                  bnd (f_Fr_add 6 x3 x4 h12) fun _ h13 =>
                  chk 4 0 <|
                  bnd (f_C_lay 15 6 x1 x2 (h13 0 7) h13) fun r15 h15 =>
                  some (h15 r15 3, h15)
                else
                  some ((-3), h10)
            else
              some ((-3), h7)
          else
            some ((-2), h1)
def l_C_begin_20 : Nat → Int32 → Int32 → Int32 → Int32 → Int32 → Hp → Option (Int32 × Hp)
  | 0, _, _, _, _, _, _ => none
  | n + 1, x1, x2, x3, x4, x5, h =>
    if (h 3 2) ≤ x5 then
      some (x2, h)
    else
      bnd (f_C_isHidden x5 h) fun r4 h4 =>
      if r4 = 0 then
        chk 4 0 <|
        bnd (f_C_lay 15 3 x5 x1 (h4 0 7) h4) fun r7 h7 =>
        if x3 < (h7 r7 1) then
          (l_C_begin_20 n) x1 x5 (h7 r7 1) (h7 r7 3) (x5 + 1) h7
        else
          if (h7 r7 1) = x3 then
            if x4 ≤ (h7 r7 3) then
              (l_C_begin_20 n) x1 x2 x3 x4 (x5 + 1) h7
            else
              (l_C_begin_20 n) x1 x5 (h7 r7 1) (h7 r7 3) (x5 + 1) h7
          else
            (l_C_begin_20 n) x1 x2 x3 x4 (x5 + 1) h7
      else
        (l_C_begin_20 n) x1 x2 x3 x4 (x5 + 1) h4
def f_C_begin (x1 : Int32) (h : Hp) : Option (Int32 × Hp) :=
  bnd (f_C_isLaw x1 h) fun r1 h1 =>
  if r1 = 0 then
    some ((-2), h1)
  else
    l_C_begin_20 FUEL x1 (-1) 0 0 0 h1
def f_In_bitCount (x0 : Int32) (h : Hp) : Option (Int32 × Hp) :=
  some ((((((((x0 - (((Int32.toUInt32 x0 >>> (Int32.toUInt32 1 &&& Int32.toUInt32 31)).toInt32) &&& 1431655765)) &&& 858993459) + (((Int32.toUInt32 (x0 - (((Int32.toUInt32 x0 >>> (Int32.toUInt32 1 &&& Int32.toUInt32 31)).toInt32) &&& 1431655765)) >>> (Int32.toUInt32 2 &&& Int32.toUInt32 31)).toInt32) &&& 858993459)) + ((Int32.toUInt32 (((x0 - (((Int32.toUInt32 x0 >>> (Int32.toUInt32 1 &&& Int32.toUInt32 31)).toInt32) &&& 1431655765)) &&& 858993459) + (((Int32.toUInt32 (x0 - (((Int32.toUInt32 x0 >>> (Int32.toUInt32 1 &&& Int32.toUInt32 31)).toInt32) &&& 1431655765)) >>> (Int32.toUInt32 2 &&& Int32.toUInt32 31)).toInt32) &&& 858993459)) >>> (Int32.toUInt32 4 &&& Int32.toUInt32 31)).toInt32)) &&& 252645135) + ((Int32.toUInt32 (((((x0 - (((Int32.toUInt32 x0 >>> (Int32.toUInt32 1 &&& Int32.toUInt32 31)).toInt32) &&& 1431655765)) &&& 858993459) + (((Int32.toUInt32 (x0 - (((Int32.toUInt32 x0 >>> (Int32.toUInt32 1 &&& Int32.toUInt32 31)).toInt32) &&& 1431655765)) >>> (Int32.toUInt32 2 &&& Int32.toUInt32 31)).toInt32) &&& 858993459)) + ((Int32.toUInt32 (((x0 - (((Int32.toUInt32 x0 >>> (Int32.toUInt32 1 &&& Int32.toUInt32 31)).toInt32) &&& 1431655765)) &&& 858993459) + (((Int32.toUInt32 (x0 - (((Int32.toUInt32 x0 >>> (Int32.toUInt32 1 &&& Int32.toUInt32 31)).toInt32) &&& 1431655765)) >>> (Int32.toUInt32 2 &&& Int32.toUInt32 31)).toInt32) &&& 858993459)) >>> (Int32.toUInt32 4 &&& Int32.toUInt32 31)).toInt32)) &&& 252645135) >>> (Int32.toUInt32 8 &&& Int32.toUInt32 31)).toInt32)) + ((Int32.toUInt32 ((((((x0 - (((Int32.toUInt32 x0 >>> (Int32.toUInt32 1 &&& Int32.toUInt32 31)).toInt32) &&& 1431655765)) &&& 858993459) + (((Int32.toUInt32 (x0 - (((Int32.toUInt32 x0 >>> (Int32.toUInt32 1 &&& Int32.toUInt32 31)).toInt32) &&& 1431655765)) >>> (Int32.toUInt32 2 &&& Int32.toUInt32 31)).toInt32) &&& 858993459)) + ((Int32.toUInt32 (((x0 - (((Int32.toUInt32 x0 >>> (Int32.toUInt32 1 &&& Int32.toUInt32 31)).toInt32) &&& 1431655765)) &&& 858993459) + (((Int32.toUInt32 (x0 - (((Int32.toUInt32 x0 >>> (Int32.toUInt32 1 &&& Int32.toUInt32 31)).toInt32) &&& 1431655765)) >>> (Int32.toUInt32 2 &&& Int32.toUInt32 31)).toInt32) &&& 858993459)) >>> (Int32.toUInt32 4 &&& Int32.toUInt32 31)).toInt32)) &&& 252645135) + ((Int32.toUInt32 (((((x0 - (((Int32.toUInt32 x0 >>> (Int32.toUInt32 1 &&& Int32.toUInt32 31)).toInt32) &&& 1431655765)) &&& 858993459) + (((Int32.toUInt32 (x0 - (((Int32.toUInt32 x0 >>> (Int32.toUInt32 1 &&& Int32.toUInt32 31)).toInt32) &&& 1431655765)) >>> (Int32.toUInt32 2 &&& Int32.toUInt32 31)).toInt32) &&& 858993459)) + ((Int32.toUInt32 (((x0 - (((Int32.toUInt32 x0 >>> (Int32.toUInt32 1 &&& Int32.toUInt32 31)).toInt32) &&& 1431655765)) &&& 858993459) + (((Int32.toUInt32 (x0 - (((Int32.toUInt32 x0 >>> (Int32.toUInt32 1 &&& Int32.toUInt32 31)).toInt32) &&& 1431655765)) >>> (Int32.toUInt32 2 &&& Int32.toUInt32 31)).toInt32) &&& 858993459)) >>> (Int32.toUInt32 4 &&& Int32.toUInt32 31)).toInt32)) &&& 252645135) >>> (Int32.toUInt32 8 &&& Int32.toUInt32 31)).toInt32)) >>> (Int32.toUInt32 16 &&& Int32.toUInt32 31)).toInt32)) &&& 63, h)
def l_C_fewestHiddenFor_38 : Nat → Int32 → Int32 → Int32 → Int32 → Int32 → Int32 → Int32 → Hp → Option (Int32 × Hp)
  | 0, _, _, _, _, _, _, _, _ => none
  | n + 1, x1, x2, x3, x4, x5, x6, x7, h =>
    if x4 < x7 then
      some (x5, h)
    else
      if (x7 &&& (x4 ^^^ (-1))) = 0 then
        bnd (f_In_bitCount x7 h) fun r4 h4 =>
        if r4 < x6 then
          chk 4 0 <|
          bnd (f_C_lay 15 3 x1 x2 ((h4 0 7) ||| x7) h4) fun r7 h7 =>
          bnd (f_Sp_here r7 h7) fun r8 h8 =>
          if r8 = x3 then
            bnd (f_In_bitCount x7 h8) fun r10 h10 =>
            (l_C_fewestHiddenFor_38 n) x1 x2 x3 x4 x7 r10 (x7 + 1) h10
          else
            (l_C_fewestHiddenFor_38 n) x1 x2 x3 x4 x5 x6 (x7 + 1) h8
        else
          (l_C_fewestHiddenFor_38 n) x1 x2 x3 x4 x5 x6 (x7 + 1) h4
      else
        (l_C_fewestHiddenFor_38 n) x1 x2 x3 x4 x5 x6 (x7 + 1) h
def f_C_fewestHiddenFor (x1 : Int32) (x2 : Int32) (x3 : Int32) (h : Hp) : Option (Int32 × Hp) :=
  bnd (f_Fr_all 3 h) fun r1 h1 =>
  l_C_fewestHiddenFor_38 FUEL x1 x2 x3 (((r1 &&& ((h1 0 7) ^^^ (-1))) &&& (((1 : Int32) <<< (x1 &&& 31)) ^^^ (-1))) &&& (((1 : Int32) <<< (x3 &&& 31)) ^^^ (-1))) (-1) 11 0 h1
def f_C_last (x1 : Int32) (x2 : Int32) (x3 : Int32) (x4 : Int32) (h : Hp) : Option (Int32 × Hp) :=
  bnd (f_C_canBeTold x1 x2 h) fun r1 h1 =>
  if r1 = 0 then
    some ((-2), h1)
  else
    bnd (f_Fr_has 3 x3 h1) fun r3 h3 =>
    if r3 = 0 then
      some ((-2), h3)
    else
      if x1 = x3 then
        some ((-2), h3)
      else
        if x4 < 0 then
          some ((-2), h3)
        else
          if x4 ≤ 1 then
            bnd (f_C_isHidden x1 h3) fun r8 h8 =>
            if r8 = 0 then
              bnd (f_C_isHidden x3 h8) fun r10 h10 =>
              if r10 = 0 then
                bnd (f_C_fewestHiddenFor x1 x2 x3 h10) fun r12 h12 =>
                if r12 = (-1) then
                  some ((-1), h12)
                else
                  if x4 = 0 then
                    bnd (f_In_bitCount r12 h12) fun r15 h15 =>
                    some (r15, h15)
                  else
                    some (r12, h12)
              else
                some ((-3), h10)
            else
              some ((-3), h8)
          else
            some ((-2), h3)
def l_C_stepInTurn_42 : Nat → Nat → Nat → Int32 → Int32 → Int32 → Int32 → Hp → Option (Int32 × Hp)
  | 0, _, _, _, _, _, _, _ => none
  | n + 1, a1, a2, x3, x4, x5, x6, h =>
    if 40 ≤ x6 then
      some (x4, h)
    else
      if 2 ≤ x5 then
        some (x4, h)
      else
        if (x6 - x6 / 2 * 2) = 0 then
          bnd (f_Sp_here a1 h) fun r7 h7 =>
          bnd (f_Fr_choose 3 (h a1 2) r7 x3 h7) fun r8 h8 =>
          if r8 = (-1) then
            (l_C_stepInTurn_42 n) a1 a2 x3 x4 (x5 + 1) (x6 + 1) h8
          else
            bnd (f_Sp_here a1 h8) fun r10 h10 =>
            bnd (f_Fr_apart 3 r10 r8 h10) fun r11 h11 =>
            bnd (f_Sp_goOn a1 r8 r11 (h11 0 9) h11) fun r12 h12 =>
            if r12 = 0 then
              (l_C_stepInTurn_42 n) a1 a2 x3 x4 (x5 + 1) (x6 + 1) h12
            else
              (l_C_stepInTurn_42 n) a1 a2 (x3 &&& (((1 : Int32) <<< (r8 &&& 31)) ^^^ (-1))) r8 0 (x6 + 1) h12
        else
          bnd (f_Sp_here a2 h) fun r14 h14 =>
          bnd (f_Fr_choose 3 (h a2 2) r14 x3 h14) fun r15 h15 =>
          if r15 = (-1) then
            (l_C_stepInTurn_42 n) a1 a2 x3 x4 (x5 + 1) (x6 + 1) h15
          else
            bnd (f_Sp_here a2 h15) fun r17 h17 =>
            bnd (f_Fr_apart 3 r17 r15 h17) fun r18 h18 =>
            bnd (f_Sp_goOn a2 r15 r18 (h18 0 9) h18) fun r19 h19 =>
            if r19 = 0 then
              (l_C_stepInTurn_42 n) a1 a2 x3 x4 (x5 + 1) (x6 + 1) h19
            else
              (l_C_stepInTurn_42 n) a1 a2 (x3 &&& (((1 : Int32) <<< (r15 &&& 31)) ^^^ (-1))) r15 0 (x6 + 1) h19
def f_C_stepInTurn (a1 : Nat) (a2 : Nat) (h : Hp) : Option (Int32 × Hp) :=
  bnd (f_Fr_all 3 h) fun r1 h1 =>
  bnd (f_Sp_here a1 h1) fun r2 h2 =>
  bnd (f_Sp_here a2 h2) fun r3 h3 =>
  l_C_stepInTurn_42 FUEL a1 a2 (((r1 &&& ((h1 0 7) ^^^ (-1))) &&& (((1 : Int32) <<< (r2 &&& 31)) ^^^ (-1))) &&& (((1 : Int32) <<< (r3 &&& 31)) ^^^ (-1))) (-1) 0 0 h3
def f_C_two (x1 : Int32) (x2 : Int32) (x3 : Int32) (x4 : Int32) (x5 : Int32) (h : Hp) : Option (Int32 × Hp) :=
  bnd (f_C_canBeTold x1 x2 h) fun r1 h1 =>
  if r1 = 0 then
    some ((-2), h1)
  else
    bnd (f_C_canBeTold x3 x4 h1) fun r3 h3 =>
    if r3 = 0 then
      some ((-2), h3)
    else
      if x1 = x3 then
        some ((-2), h3)
      else
        if x5 < 0 then
          some ((-2), h3)
        else
          if x5 ≤ 2 then
            bnd (f_C_isHidden x1 h3) fun r8 h8 =>
            if r8 = 0 then
              bnd (f_C_isHidden x3 h8) fun r10 h10 =>
              if r10 = 0 then
                chk 4 0 <|
                chk 4 1 <|
                bnd (f_Sp_startAt 15 x1 x2 (h10 0 8) h10) fun _ h14 =>
                bnd (f_Sp_startAt 17 x3 x4 (h14 0 8) h14) fun _ h15 =>
                bnd (f_C_stepInTurn 15 17 h15) fun r16 h16 =>
                if x5 = 0 then
                  some (h16 15 1, h16)
                else
                  if x5 = 1 then
                    some (h16 17 1, h16)
                  else
                    some (r16, h16)
              else
                some ((-3), h10)
            else
              some ((-3), h8)
          else
            some ((-2), h3)
def f_No_add (a0 : Nat) (x1 : Int32) (x2 : Int32) (x3 : Int32) (h : Hp) : Option (Unit × Hp) :=
  if 8 ≤ (h a0 3) then
    some ((), h)
  else
    chk 8 (h a0 3) <|
    chk 8 ((hset h (a0 + 1) (ix (h a0 3)) x1) a0 3) <|
    chk 8 ((hset (hset h (a0 + 1) (ix (h a0 3)) x1) (a0 + 2) (ix ((hset h (a0 + 1) (ix (h a0 3)) x1) a0 3)) x2) a0 3) <|
    some ((), hset (hset (hset (hset h (a0 + 1) (ix (h a0 3)) x1) (a0 + 2) (ix ((hset h (a0 + 1) (ix (h a0 3)) x1) a0 3)) x2) (a0 + 3) (ix ((hset (hset h (a0 + 1) (ix (h a0 3)) x1) (a0 + 2) (ix ((hset h (a0 + 1) (ix (h a0 3)) x1) a0 3)) x2) a0 3)) x3) a0 3 (((hset (hset (hset h (a0 + 1) (ix (h a0 3)) x1) (a0 + 2) (ix ((hset h (a0 + 1) (ix (h a0 3)) x1) a0 3)) x2) (a0 + 3) (ix ((hset (hset h (a0 + 1) (ix (h a0 3)) x1) (a0 + 2) (ix ((hset h (a0 + 1) (ix (h a0 3)) x1) a0 3)) x2) a0 3)) x3) a0 3) + 1))
def f_C_seen (x1 : Int32) (x2 : Int32) (x3 : Int32) (h : Hp) : Option (Int32 × Hp) :=
  if x1 < 0 then
    some ((-2), h)
  else
    if 10 ≤ x1 then
      some ((-2), h)
    else
      if x2 < 1 then
        some ((-2), h)
      else
        if 10 ≤ x2 then
          some ((-2), h)
        else
          if x3 < 0 then
            some ((-2), h)
          else
            if x3 < 10 then
              if (h 10 3) < 8 then
                bnd (f_No_add 10 x1 x2 x3 h) fun _ h8 =>
                some (h8 10 3, h8)
              else
                some ((-4), h)
            else
              some ((-2), h)
def f_C_forget (h : Hp) : Option (Int32 × Hp) :=
  some (h 10 3, hset h 10 3 0)
def l_C_comesOut_2 : Nat → Int32 → Int32 → Hp → Option (Int32 × Hp)
  | 0, _, _, _ => none
  | n + 1, x1, x2, h =>
    if (h 10 3) ≤ x2 then
      some (1, h)
    else
      chk 8 x2 <|
      bnd (f_Fr_has 3 (h 11 (ix x2)) h) fun r2 h2 =>
      if r2 = 0 then
        some (0, h2)
      else
        bnd (f_C_isHidden (h 11 (ix x2)) h2) fun r4 h4 =>
        if r4 = 0 then
          chk 4 0 <|
          bnd (f_C_lay 15 3 (h 11 (ix x2)) x1 (h4 0 7) h4) fun r7 h7 =>
          chk 8 x2 <|
          if (h7 r7 1) ≤ (h7 12 (ix x2)) then
            some (0, h7)
          else
            chk 10 (h7 12 (ix x2)) <|
            chk 8 x2 <|
            if (h7 (r7 + 1) (ix (h7 12 (ix x2)))) = (h7 13 (ix x2)) then
              (l_C_comesOut_2 n) x1 (x2 + 1) h7
            else
              some (0, h7)
        else
          some (0, h4)
def f_C_comesOut (x1 : Int32) (h : Hp) : Option (Int32 × Hp) :=
  l_C_comesOut_2 FUEL x1 0 h
def l_C_fits_4 : Nat → Int32 → Int32 → Hp → Option (Int32 × Hp)
  | 0, _, _, _ => none
  | n + 1, x1, x2, h =>
    if 4 ≤ x2 then
      some (x1, h)
    else
      bnd (f_C_comesOut x2 h) fun r2 h2 =>
      if r2 = 0 then
        (l_C_fits_4 n) x1 (x2 + 1) h2
      else
        (l_C_fits_4 n) (x1 ||| ((1 : Int32) <<< (x2 &&& 31))) (x2 + 1) h2
def f_C_fits (h : Hp) : Option (Int32 × Hp) :=
  l_C_fits_4 FUEL 0 0 h
def l_C_unlikeWebs_53 (K5 : Int32 → Int32 → Int32 → Int32 → Hp → Option (Int32 × Hp)) : Nat → Int32 → Int32 → Int32 → Int32 → Nat → Int32 → Int32 → Hp → Option (Int32 × Hp)
  | 0, _, _, _, _, _, _, _, _ => none
  | n + 1, x1, x2, x3, x4, a5, x6, x7, h =>
    if x4 ≤ x7 then
      if x6 = 0 then
        K5 x1 x2 x3 (x4 + 1) h
      else
        K5 x1 x2 (x3 + 1) (x4 + 1) h
    else
      if ((x2 >>> (x7 &&& 31)) &&& 1) = 1 then
        chk 4 x7 <|
        bnd (f_Sp_hasRowOf a5 (15 + 2 * ix x7) h) fun r9 h9 =>
        if r9 = 0 then
          (l_C_unlikeWebs_53 K5 n) x1 x2 x3 x4 a5 x6 (x7 + 1) h9
        else
          (l_C_unlikeWebs_53 K5 n) x1 x2 x3 x4 a5 0 (x7 + 1) h9
      else
        (l_C_unlikeWebs_53 K5 n) x1 x2 x3 x4 a5 x6 (x7 + 1) h
def l_C_unlikeWebs_5 : Nat → Int32 → Int32 → Int32 → Int32 → Hp → Option (Int32 × Hp)
  | 0, _, _, _, _, _ => none
  | n + 1, x1, x2, x3, x4, h =>
    if 4 ≤ x4 then
      some (x3, h)
    else
      if ((x2 >>> (x4 &&& 31)) &&& 1) = 0 then
        (l_C_unlikeWebs_5 n) x1 x2 x3 (x4 + 1) h
      else
        chk 4 x4 <|
        bnd (f_C_lay (15 + 2 * ix x4) 3 x1 x4 (h 0 7) h) fun r4 h4 =>
        l_C_unlikeWebs_53 (l_C_unlikeWebs_5 n) FUEL x1 x2 x3 x4 r4 1 0 h4
def f_C_unlikeWebs (x1 : Int32) (x2 : Int32) (h : Hp) : Option (Int32 × Hp) :=
  l_C_unlikeWebs_5 FUEL x1 x2 0 0 h
def l_C_tells_12 : Nat → Int32 → Int32 → Int32 → Int32 → Hp → Option (Int32 × Hp)
  | 0, _, _, _, _, _ => none
  | n + 1, x1, x2, x3, x4, h =>
    if (h 3 2) ≤ x4 then
      some (x2, h)
    else
      bnd (f_C_isHidden x4 h) fun r3 h3 =>
      if r3 = 0 then
        bnd (f_C_unlikeWebs x4 x1 h3) fun r5 h5 =>
        if r5 ≤ x3 then
          (l_C_tells_12 n) x1 x2 x3 (x4 + 1) h5
        else
          (l_C_tells_12 n) x1 x4 r5 (x4 + 1) h5
      else
        (l_C_tells_12 n) x1 x2 x3 (x4 + 1) h3
def f_C_tells (h : Hp) : Option (Int32 × Hp) :=
  bnd (f_C_fits h) fun r1 h1 =>
  l_C_tells_12 FUEL r1 (-1) (-1) 0 h1
def f_C_nextLot (x0 : Int32) (h : Hp) : Option (Int32 × Hp) :=
  some ((1103515245 * x0) + 12345, h)
def f_C_placeByLot (x0 : Int32) (h : Hp) : Option (Int32 × Hp) :=
  some (((Int32.toUInt32 x0 >>> (Int32.toUInt32 16 &&& Int32.toUInt32 31)).toInt32) - ((Int32.toUInt32 x0 >>> (Int32.toUInt32 16 &&& Int32.toUInt32 31)).toInt32) / 10 * 10, h)
def f_Fr_apartFrom (a0 : Nat) (x1 : Int32) (x2 : Int32) (x3 : Int32) (h : Hp) : Option (Int32 × Hp) :=
  chk 10 x1 <|
  bnd (f_Ma_abs ((h (a0 + 1) (ix x1)) - x2) h) fun r1 h1 =>
  chk 10 x1 <|
  bnd (f_Ma_abs ((h1 (a0 + 2) (ix x1)) - x3) h1) fun r2 h2 =>
  some (r1 + r2, h2)
def l_C_isCaught_3 : Nat → Nat → Int32 → Int32 → Int32 → Hp → Option (Int32 × Hp)
  | 0, _, _, _, _, _ => none
  | n + 1, a1, x2, x3, x4, h =>
    if (h a1 1) ≤ x4 then
      some (0, h)
    else
      chk 10 x4 <|
      bnd (f_Fr_apartFrom 3 (h (a1 + 1) (ix x4)) x2 x3 h) fun r2 h2 =>
      if (h2 0 10) < r2 then
        (l_C_isCaught_3 n) a1 x2 x3 (x4 + 1) h2
      else
        some (1, h2)
def f_C_isCaught (a1 : Nat) (x2 : Int32) (x3 : Int32) (h : Hp) : Option (Int32 × Hp) :=
  l_C_isCaught_3 FUEL a1 x2 x3 0 h
def l_C_flies_66 : Nat → Int32 → Nat → Int32 → Int32 → Int32 → Hp → Option (Int32 × Hp)
  | 0, _, _, _, _, _, _ => none
  | n + 1, x4, a5, x6, x7, x8, h =>
    if x4 ≤ x8 then
      some (x7, h)
    else
      bnd (f_C_nextLot x6 h) fun r10 h10 =>
      bnd (f_C_placeByLot r10 h10) fun r11 h11 =>
      bnd (f_C_nextLot r10 h11) fun r12 h12 =>
      bnd (f_C_placeByLot r12 h12) fun r13 h13 =>
      bnd (f_C_isCaught a5 r11 r13 h13) fun r14 h14 =>
      if r14 = 0 then
        (l_C_flies_66 n) x4 a5 r12 x7 (x8 + 1) h14
      else
        (l_C_flies_66 n) x4 a5 r12 (x7 + 1) (x8 + 1) h14
def f_C_flies (x1 : Int32) (x2 : Int32) (x3 : Int32) (x4 : Int32) (h : Hp) : Option (Int32 × Hp) :=
  bnd (f_C_canBeTold x1 x2 h) fun r1 h1 =>
  if r1 = 0 then
    some ((-2), h1)
  else
    if x4 < 0 then
      some ((-2), h1)
    else
      if x4 ≤ 99 then
        bnd (f_C_isHidden x1 h1) fun r5 h5 =>
        if r5 = 0 then
          chk 4 0 <|
          bnd (f_C_lay 15 3 x1 x2 (h5 0 7) h5) fun r8 h8 =>
          l_C_flies_66 FUEL x4 r8 x3 0 0 h8
        else
          some ((-3), h5)
      else
        some ((-2), h1)
def l_C_dew_77 : Nat → Nat → Nat → Int32 → Hp → Option (Int32 × Hp)
  | 0, _, _, _, _ => none
  | n + 1, a4, a5, x6, h =>
    if (h a4 3) ≤ x6 then
      some ((-1), h)
    else
      if (h a5 1) ≤ (x6 + 1) then
        some ((-1), h)
      else
        chk 48 x6 <|
        chk 10 x6 <|
        chk 10 (x6 + 1) <|
        bnd (f_Fr_apart 3 (h (a5 + 1) (ix x6)) (h (a5 + 1) (ix (x6 + 1))) h) fun r13 h13 =>
        if (h (a4 + 1) (ix x6)) ≤ r13 then
          (l_C_dew_77 n) a4 a5 (x6 + 1) h13
        else
          some (x6, h13)
def f_C_dew (x1 : Int32) (x2 : Int32) (x3 : Int32) (h : Hp) : Option (Int32 × Hp) :=
  bnd (f_C_canBeTold x1 x2 h) fun r1 h1 =>
  if r1 = 0 then
    some ((-2), h1)
  else
    bnd (f_C_isSheet x3 h1) fun r3 h3 =>
    if r3 = 0 then
      some ((-2), h3)
    else
      chk 4 x3 <|
      if (h3 (23 + 2 * ix x3) 1) = 0 then
        bnd (f_C_isHidden x1 h3) fun r7 h7 =>
        if r7 = 0 then
          chk 4 0 <|
          bnd (f_C_lay 15 3 x1 x2 (h7 0 7) h7) fun r10 h10 =>
          l_C_dew_77 FUEL (23 + 2 * ix x3) r10 0 h10
        else
          some ((-3), h7)
      else
        bnd (f_C_found 1 h3) fun r15 h15 =>
        some (r15, h15)
def f_C_isForm (x0 : Int32) (h : Hp) : Option (Int32 × Hp) :=
  if x0 < 0 then
    some (0, h)
  else
    if 2 < x0 then
      some (0, h)
    else
      some (1, h)
def l_Sh_renew_22 : Nat → Nat → Int32 → Hp → Option (Unit × Hp)
  | 0, _, _, _ => none
  | n + 1, a0, x3, h =>
    if (h a0 3) ≤ x3 then
      some ((), h)
    else
      chk 48 x3 <|
      (l_Sh_renew_22 n) a0 (x3 + 1) (hset h (a0 + 1) (ix x3) 0)
def f_Sh_renew (a0 : Nat) (x1 : Int32) (x2 : Int32) (h : Hp) : Option (Unit × Hp) :=
  bnd (f_Ma_min x2 48 (hset (hset h a0 1 0) a0 2 x1)) fun r1 h1 =>
  l_Sh_renew_22 FUEL a0 0 (hset h1 a0 3 r1)
def f_C_sheet (x1 : Int32) (x2 : Int32) (x3 : Int32) (h : Hp) : Option (Int32 × Hp) :=
  bnd (f_C_isSheet x1 h) fun r1 h1 =>
  if r1 = 0 then
    some ((-2), h1)
  else
    bnd (f_C_isForm x2 h1) fun r3 h3 =>
    if r3 = 0 then
      some ((-2), h3)
    else
      if x3 ≤ 48 then
        if 0 ≤ x3 then
          chk 4 x1 <|
          bnd (f_Sh_renew (23 + 2 * ix x1) x2 x3 h3) fun _ h8 =>
          some (x3, h8)
        else
          bnd (f_C_found 5 h3) fun r9 h9 =>
          some (r9, h9)
      else
        some ((-2), h3)
def f_C_lose (x1 : Int32) (h : Hp) : Option (Int32 × Hp) :=
  bnd (f_C_isSheet x1 h) fun r1 h1 =>
  if r1 = 0 then
    some ((-2), h1)
  else
    chk 4 x1 <|
    if (h1 (23 + 2 * ix x1) 1) = 0 then
      chk 4 x1 <|
      chk 4 x1 <|
      some ((hset h1 (23 + 2 * ix x1) 1 1) (23 + 2 * ix x1) 3, hset h1 (23 + 2 * ix x1) 1 1)
    else
      bnd (f_C_found 1 h1) fun r7 h7 =>
      some (r7, h7)
def f_C_refusalOfItem (x1 : Int32) (x2 : Int32) (x3 : Int32) (h : Hp) : Option (Int32 × Hp) :=
  bnd (f_C_isSheet x1 h) fun r1 h1 =>
  if r1 = 0 then
    some ((-2), h1)
  else
    bnd (f_C_isForm x2 h1) fun r3 h3 =>
    if r3 = 0 then
      some ((-2), h3)
    else
      chk 4 x1 <|
      if (h3 (23 + 2 * ix x1) 1) = 0 then
        if (h3 (23 + 2 * ix x1) 2) = x2 then
          if x3 < 0 then
            bnd (f_C_found 2 h3) fun r9 h9 =>
            some (r9, h9)
          else
            if x3 < (h3 (23 + 2 * ix x1) 3) then
              some (0, h3)
            else
              bnd (f_C_found 2 h3) fun r11 h11 =>
              some (r11, h11)
        else
          bnd (f_C_found 3 h3) fun r12 h12 =>
          some (r12, h12)
      else
        bnd (f_C_found 1 h3) fun r13 h13 =>
        some (r13, h13)
def f_Sh_store (a0 : Nat) (x1 : Int32) (x2 : Int32) (h : Hp) : Option (Unit × Hp) :=
  if x1 < 0 then
    some ((), h)
  else
    if x1 < (h a0 3) then
      if (h a0 2) = 0 then
        chk 48 x1 <|
        some ((), hset h (a0 + 1) (ix x1) ((Int32.toInt8 x2).toInt32))
      else
        if (h a0 2) = 1 then
          chk 48 x1 <|
          some ((), hset h (a0 + 1) (ix x1) ((Int32.toInt16 x2).toInt32))
        else
          chk 48 x1 <|
          some ((), hset h (a0 + 1) (ix x1) x2)
    else
      some ((), h)
def f_C_put (x1 : Int32) (x2 : Int32) (x3 : Int32) (x4 : Int32) (h : Hp) : Option (Int32 × Hp) :=
  bnd (f_C_refusalOfItem x1 x2 x3 h) fun r1 h1 =>
  if r1 = 0 then
    chk 4 x1 <|
    bnd (f_Sh_store (23 + 2 * ix x1) x3 x4 h1) fun _ h4 =>
    some (1, h4)
  else
    some (r1, h1)
def f_C_get (x1 : Int32) (x2 : Int32) (x3 : Int32) (h : Hp) : Option (Int32 × Hp) :=
  bnd (f_C_refusalOfItem x1 x2 x3 h) fun r1 h1 =>
  if r1 = 0 then
    chk 4 x1 <|
    chk 48 x3 <|
    some (h1 (23 + 2 * ix x1 + 1) (ix x3), h1)
  else
    some ((-2147483648), h1)
def f_Sh_hasRun (a0 : Nat) (x1 : Int32) (x2 : Int32) (h : Hp) : Option (Int32 × Hp) :=
  if x1 < 0 then
    some (0, h)
  else
    if x2 < 0 then
      some (0, h)
    else
      if (h a0 3) < x1 then
        some (0, h)
      else
        if ((h a0 3) - x1) < x2 then
          some (0, h)
        else
          some (1, h)
def f_C_copy (x1 : Int32) (x2 : Int32) (x3 : Int32) (x4 : Int32) (x5 : Int32) (h : Hp) : Option (Int32 × Hp) :=
  bnd (f_C_isSheet x1 h) fun r1 h1 =>
  if r1 = 0 then
    some ((-2), h1)
  else
    bnd (f_C_isSheet x3 h1) fun r3 h3 =>
    if r3 = 0 then
      some ((-2), h3)
    else
      chk 4 x1 <|
      chk 4 x3 <|
      if (h3 (23 + 2 * ix x1) 1) = 0 then
        if (h3 (23 + 2 * ix x3) 1) = 0 then
          if (h3 (23 + 2 * ix x1) 2) = (h3 (23 + 2 * ix x3) 2) then
            bnd (f_Sh_hasRun (23 + 2 * ix x1) x2 x5 h3) fun r10 h10 =>
            if r10 = 0 then
              bnd (f_C_found 2 h10) fun r12 h12 =>
              some (r12, h12)
            else
              bnd (f_Sh_hasRun (23 + 2 * ix x3) x4 x5 h10) fun r13 h13 =>
              if r13 = 0 then
                bnd (f_C_found 2 h13) fun r15 h15 =>
                some (r15, h15)
              else
                bnd (acp h13 (23 + 2 * ix x1 + 1) (23 + 2 * ix x3 + 1) 48 48 x2 x4 x5) fun _ h16 =>
                some (1, h16)
          else
            bnd (f_C_found 4 h3) fun r17 h17 =>
            some (r17, h17)
        else
          bnd (f_C_found 1 h3) fun r18 h18 =>
          some (r18, h18)
      else
        bnd (f_C_found 1 h3) fun r19 h19 =>
        some (r19, h19)
def l_C_write_92 : Nat → Nat → Nat → Int32 → Int32 → Hp → Option (Int32 × Hp)
  | 0, _, _, _, _, _ => none
  | n + 1, a4, a5, x6, x7, h =>
    if x6 ≤ x7 then
      some (x6, h)
    else
      chk 10 x7 <|
      bnd (f_Sh_store a4 x7 (h (a5 + 1) (ix x7)) h) fun _ h13 =>
      (l_C_write_92 n) a4 a5 x6 (x7 + 1) h13
def f_C_write (x1 : Int32) (x2 : Int32) (x3 : Int32) (h : Hp) : Option (Int32 × Hp) :=
  bnd (f_C_canBeTold x1 x2 h) fun r1 h1 =>
  if r1 = 0 then
    some ((-2), h1)
  else
    bnd (f_C_isSheet x3 h1) fun r3 h3 =>
    if r3 = 0 then
      some ((-2), h3)
    else
      chk 4 x3 <|
      if (h3 (23 + 2 * ix x3) 1) = 0 then
        bnd (f_C_isHidden x1 h3) fun r7 h7 =>
        if r7 = 0 then
          chk 4 0 <|
          bnd (f_C_lay 15 3 x1 x2 (h7 0 7) h7) fun r10 h10 =>
          bnd (f_Ma_min (h10 (23 + 2 * ix x3) 3) (h10 r10 1) h10) fun r11 h11 =>
          l_C_write_92 FUEL (23 + 2 * ix x3) r10 r11 0 h11
        else
          some ((-3), h7)
      else
        bnd (f_C_found 1 h3) fun r14 h14 =>
        some (r14, h14)
def l_Fr_apartOfAllPairs_16 (K4 : Nat → Int32 → Int32 → Hp → Option (Int32 × Hp)) : Nat → Nat → Int32 → Int32 → Int32 → Hp → Option (Int32 × Hp)
  | 0, _, _, _, _, _ => none
  | n + 1, a0, x1, x2, x3, h =>
    if (h a0 2) ≤ x3 then
      K4 a0 x1 (x2 + 1) h
    else
      bnd (f_Fr_apart a0 x2 x3 h) fun r3 h3 =>
      (l_Fr_apartOfAllPairs_16 K4 n) a0 (x1 + r3) x2 (x3 + 1) h3
def l_Fr_apartOfAllPairs_4 : Nat → Nat → Int32 → Int32 → Hp → Option (Int32 × Hp)
  | 0, _, _, _, _ => none
  | n + 1, a0, x1, x2, h =>
    if (h a0 2) ≤ x2 then
      some (x1, h)
    else
      l_Fr_apartOfAllPairs_16 (l_Fr_apartOfAllPairs_4 n) FUEL a0 x1 x2 (x2 + 1) h
def f_Fr_apartOfAllPairs (a0 : Nat) (h : Hp) : Option (Int32 × Hp) :=
  l_Fr_apartOfAllPairs_4 FUEL a0 0 0 h
def f_C_count (x1 : Int32) (h : Hp) : Option (Int32 × Hp) :=
  if x1 = 0 then
    some (h 3 2, h)
  else
    if x1 = 1 then
      some (h 1 1, h)
    else
      if x1 = 2 then
        bnd (f_Fr_all 3 h) fun r4 h4 =>
        bnd (f_In_bitCount (r4 &&& (h4 0 7)) h4) fun r5 h5 =>
        some (r5, h5)
      else
        if x1 = 3 then
          some (h 0 8, h)
        else
          if x1 = 4 then
            some (h 0 9, h)
          else
            if x1 = 5 then
              some (h 0 10, h)
            else
              if x1 = 6 then
                some (h 10 3, h)
              else
                if x1 = 7 then
                  bnd (f_Fr_apartOfAllPairs 3 h) fun r11 h11 =>
                  some (r11, h11)
                else
                  if x1 = 8 then
                    some (h 0 11, h)
                  else
                    some ((-2), h)
def l_C_mixWeb_6 : Nat → Int32 → Int32 → Int64 → Int32 → Hp → Option (Int64 × Hp)
  | 0, _, _, _, _, _ => none
  | n + 1, x3, x4, l5, x7, h =>
    if 3 ≤ x7 then
      bnd (f_C_crosses x3 x4 h) fun r2 h2 =>
      bnd (f_C_turned x3 x4 h2) fun r3 h3 =>
      bnd (f_C_web x3 x4 1 h3) fun r4 h4 =>
      bnd (f_C_hangs x3 x4 0 h4) fun r5 h5 =>
      bnd (f_C_pieces x3 x4 1 h5) fun r6 h6 =>
      bnd (f_C_flies x3 x4 7 9 h6) fun r7 h7 =>
      some ((31 * ((31 * ((31 * ((31 * ((31 * ((31 * l5) + (Int32.toInt64 r2))) + (Int32.toInt64 r3))) + (Int32.toInt64 r4))) + (Int32.toInt64 r5))) + (Int32.toInt64 r6))) + (Int32.toInt64 r7), h7)
    else
      bnd (f_C_length x3 x4 x7 h) fun r8 h8 =>
      (l_C_mixWeb_6 n) x3 x4 ((31 * l5) + (Int32.toInt64 r8)) (x7 + 1) h8
def f_C_mixWeb (l1 : Int64) (x3 : Int32) (x4 : Int32) (h : Hp) : Option (Int64 × Hp) :=
  l_C_mixWeb_6 FUEL x3 x4 l1 0 h
def l_C_digest_143 : Nat → Int64 → Int32 → Hp → Option (Int64 × Hp)
  | 0, _, _, _ => none
  | n + 1, l1, x3, h =>
    if 3 ≤ x3 then
      bnd (f_C_more 0 0 5 5 h) fun r7 h7 =>
      bnd (f_C_fits h7) fun r8 h8 =>
      bnd (f_C_tells h8) fun r9 h9 =>
      some ((31 * ((31 * ((31 * l1) + (Int32.toInt64 r7))) + (Int32.toInt64 r8))) + (Int32.toInt64 r9), h9)
    else
      bnd (f_C_two 0 0 1 1 x3 h) fun r10 h10 =>
      (l_C_digest_143 n) ((31 * l1) + (Int32.toInt64 r10)) (x3 + 1) h10
def l_C_digest_114 : Nat → Int64 → Int32 → Hp → Option (Int64 × Hp)
  | 0, _, _, _ => none
  | n + 1, l1, x3, h =>
    if 2 ≤ x3 then
      l_C_digest_143 FUEL l1 0 h
    else
      bnd (f_C_last 0 0 1 x3 h) fun r11 h11 =>
      (l_C_digest_114 n) ((31 * l1) + (Int32.toInt64 r11)) (x3 + 1) h11
def l_C_digest_88 : Nat → Int64 → Int32 → Hp → Option (Int64 × Hp)
  | 0, _, _, _ => none
  | n + 1, l1, x3, h =>
    if 4 ≤ x3 then
      l_C_digest_114 FUEL l1 0 h
    else
      bnd (f_C_begin x3 h) fun r12 h12 =>
      (l_C_digest_88 n) ((31 * l1) + (Int32.toInt64 r12)) (x3 + 1) h12
def l_C_digest_59 (K45 : Int64 → Int32 → Hp → Option (Int64 × Hp)) : Nat → Int64 → Int32 → Int32 → Hp → Option (Int64 × Hp)
  | 0, _, _, _, _ => none
  | n + 1, l1, x3, x4, h =>
    if 4 ≤ x4 then
      K45 l1 (x3 + 1) h
    else
      bnd (f_C_mixWeb l1 x3 x4 h) fun r14 h14 =>
      (l_C_digest_59 K45 n) r14 x3 (x4 + 1) h14
def l_C_digest_45 : Nat → Int64 → Int32 → Hp → Option (Int64 × Hp)
  | 0, _, _, _ => none
  | n + 1, l1, x3, h =>
    if (h 3 2) ≤ x3 then
      l_C_digest_88 FUEL l1 0 h
    else
      l_C_digest_59 (l_C_digest_45 n) FUEL l1 x3 0 h
def l_C_digest_6 : Nat → Int64 → Int32 → Hp → Option (Int64 × Hp)
  | 0, _, _, _ => none
  | n + 1, l1, x3, h =>
    if 8 ≤ x3 then
      bnd (f_C_fault h) fun r2 h2 =>
      l_C_digest_45 FUEL ((31 * l1) + (Int32.toInt64 r2)) 0 h2
    else
      bnd (f_C_count x3 h) fun r15 h15 =>
      (l_C_digest_6 n) ((31 * l1) + (Int32.toInt64 r15)) (x3 + 1) h15
def f_C_digest (h : Hp) : Option (Int64 × Hp) :=
  l_C_digest_6 FUEL 17 0 h
def f_M_in (x0 : Int32) (x1 : Int32) (x2 : Int32) (h : Hp) : Option (Int32 × Hp) :=
  if x0 < x1 then
    some (0, h)
  else
    if x2 < x0 then
      some (0, h)
    else
      some (1, h)
def f_M_type (x1 : Int32) (h : Hp) : Option (Int32 × Hp) :=
  bnd (f_M_in x1 0 255 h) fun r1 h1 =>
  if r1 = 0 then
    some ((-2), h1)
  else
    if (h1 31 1) = 40 then
      some ((-4), h1)
    else
      chk 40 (h1 31 1) <|
      some ((hset (hset h1 32 (ix (h1 31 1)) x1) 31 1 (((hset h1 32 (ix (h1 31 1)) x1) 31 1) + 1)) 31 1, hset (hset h1 32 (ix (h1 31 1)) x1) 31 1 (((hset h1 32 (ix (h1 31 1)) x1) 31 1) + 1))
def f_M_wipe (h : Hp) : Option (Int32 × Hp) :=
  some (h 31 1, hset h 31 1 0)
def f_M_undo (h : Hp) : Option (Int32 × Hp) :=
  if (h 31 1) = 0 then
    some ((-3), h)
  else
    some ((hset h 31 1 ((h 31 1) - 1)) 31 1, hset h 31 1 ((h 31 1) - 1))
def f_M_figureAt (x1 : Int32) (h : Hp) : Option (Int32 × Hp) :=
  if (h 31 1) ≤ x1 then
    bnd (f_M_in (-1) 0 9 h) fun r2 h2 =>
    if r2 = 0 then
      some ((-1), h2)
    else
      some ((-1), h2)
  else
    chk 40 x1 <|
    bnd (f_M_in ((h 32 (ix x1)) - 48) 0 9 h) fun r4 h4 =>
    if r4 = 0 then
      some ((-1), h4)
    else
      some ((h 32 (ix x1)) - 48, h4)
def l_M_isTaken_6 : Nat → Int32 → Int32 → Int32 → Int32 → Int32 → Hp → Option (Int32 × Hp)
  | 0, _, _, _, _, _, _ => none
  | n + 1, x1, x2, x3, x4, x5, h =>
    if x3 ≤ x5 then
      zret x4 h
    else
      if x4 = 0 then
        chk 11 x5 <|
        if (h 33 (ix x5)) = x1 then
          chk 11 x5 <|
          if (h 34 (ix x5)) = x2 then
            (l_M_isTaken_6 n) x1 x2 x3 1 (x5 + 1) h
          else
            (l_M_isTaken_6 n) x1 x2 x3 0 (x5 + 1) h
        else
          (l_M_isTaken_6 n) x1 x2 x3 0 (x5 + 1) h
      else
        (l_M_isTaken_6 n) x1 x2 x3 1 (x5 + 1) h
def f_M_isTaken (x1 : Int32) (x2 : Int32) (x3 : Int32) (h : Hp) : Option (Int32 × Hp) :=
  l_M_isTaken_6 FUEL x1 x2 x3 0 0 h
def l_M_faultNow_9 : Nat → Int32 → Int32 → Hp → Option (Int32 × Hp)
  | 0, _, _, _ => none
  | n + 1, x1, x2, h =>
    if x2 < (h 31 1) then
      bnd (f_M_figureAt x2 h) fun r2 h2 =>
      bnd (f_M_figureAt (x2 + 1) h2) fun r3 h3 =>
      if x1 = 10 then
        some (x2, h3)
      else
        if r2 = (-1) then
          some (x2, h3)
        else
          if r3 = (-1) then
            some (x2 + 1, h3)
          else
            bnd (f_M_isTaken r2 r3 x1 h3) fun r7 h7 =>
            if r7 = 0 then
              chk 11 x1 <|
              chk 11 x1 <|
              if (x2 + 2) = ((hset (hset h7 33 (ix x1) r2) 34 (ix x1) r3) 31 1) then
                some ((-1), hset (hset (hset h7 33 (ix x1) r2) 34 (ix x1) r3) 31 2 (x1 + 1))
              else
                chk 40 (x2 + 2) <|
                if ((hset (hset h7 33 (ix x1) r2) 34 (ix x1) r3) 32 (ix (x2 + 2))) = 59 then
                  (l_M_faultNow_9 n) (x1 + 1) ((x2 + 2) + 1) (hset (hset h7 33 (ix x1) r2) 34 (ix x1) r3)
                else
                  some (x2 + 2, hset (hset h7 33 (ix x1) r2) 34 (ix x1) r3)
            else
              some (x2 + 1, h7)
    else
      if x2 ≤ 0 then
        some ((-1), h)
      else
        bnd (f_M_figureAt x2 h) fun r12 h12 =>
        bnd (f_M_figureAt (x2 + 1) h12) fun r13 h13 =>
        if x1 = 10 then
          some (x2, h13)
        else
          if r12 = (-1) then
            some (x2, h13)
          else
            if r13 = (-1) then
              some (x2 + 1, h13)
            else
              bnd (f_M_isTaken r12 r13 x1 h13) fun r17 h17 =>
              if r17 = 0 then
                chk 11 x1 <|
                chk 11 x1 <|
                if (x2 + 2) = ((hset (hset h17 33 (ix x1) r12) 34 (ix x1) r13) 31 1) then
                  some ((-1), hset (hset (hset h17 33 (ix x1) r12) 34 (ix x1) r13) 31 2 (x1 + 1))
                else
                  chk 40 (x2 + 2) <|
                  if ((hset (hset h17 33 (ix x1) r12) 34 (ix x1) r13) 32 (ix (x2 + 2))) = 59 then
                    (l_M_faultNow_9 n) (x1 + 1) ((x2 + 2) + 1) (hset (hset h17 33 (ix x1) r12) 34 (ix x1) r13)
                  else
                    some (x2 + 2, hset (hset h17 33 (ix x1) r12) 34 (ix x1) r13)
              else
                some (x2 + 1, h17)
def f_M_faultNow (h : Hp) : Option (Int32 × Hp) :=
  l_M_faultNow_9 FUEL 0 0 (hset h 31 2 0)
def f_M_fault (h : Hp) : Option (Int32 × Hp) :=
  bnd (f_M_faultNow h) fun r1 h1 =>
  some (r1, h1)
def f_M_isPeg (x1 : Int32) (h : Hp) : Option (Int32 × Hp) :=
  bnd (f_M_faultNow h) fun r1 h1 =>
  bnd (f_M_in x1 0 ((h1 31 2) - 1) h1) fun r2 h2 =>
  zret r2 h2
def f_M_pegOf (x1 : Int32) (x2 : Int32) (h : Hp) : Option (Int32 × Hp) :=
  if x2 = 0 then
    chk 11 x1 <|
    some (h 33 (ix x1), h)
  else
    if x2 = 1 then
      chk 11 x1 <|
      some (h 34 (ix x1), h)
    else
      some (((h 31 5) >>> (x1 &&& 31)) &&& 1, h)
def f_M_peg (x1 : Int32) (x2 : Int32) (h : Hp) : Option (Int32 × Hp) :=
  bnd (f_M_isPeg x1 h) fun r1 h1 =>
  if r1 = 0 then
    some ((-2), h1)
  else
    bnd (f_M_in x2 0 2 h1) fun r3 h3 =>
    if r3 = 0 then
      some ((-2), h3)
    else
      bnd (f_M_pegOf x1 x2 h3) fun r5 h5 =>
      some (r5, h5)
def f_M_isTen (x0 : Int32) (h : Hp) : Option (Int32 × Hp) :=
  bnd (f_M_in x0 0 9 h) fun r1 h1 =>
  zret r1 h1
def f_M_hide (x1 : Int32) (x2 : Int32) (h : Hp) : Option (Int32 × Hp) :=
  bnd (f_M_isTen x1 h) fun r1 h1 =>
  if r1 = 0 then
    some ((-2), h1)
  else
    bnd (f_M_in x2 0 1 h1) fun r3 h3 =>
    if r3 = 0 then
      some ((-2), h3)
    else
      some (((h3 31 5) >>> (x1 &&& 31)) &&& 1, hset h3 31 5 (((h3 31 5) &&& (((1 : Int32) <<< (x1 &&& 31)) ^^^ (-1))) ||| (x2 <<< (x1 &&& 31))))
def f_M_set (x1 : Int32) (x2 : Int32) (h : Hp) : Option (Int32 × Hp) :=
  bnd (f_M_in x1 0 2 h) fun r1 h1 =>
  if r1 = 0 then
    some ((-2), h1)
  else
    if x1 = 0 then
      bnd (f_M_in x2 0 200 h1) fun r4 h4 =>
      if r4 = 0 then
        some ((-2), h4)
      else
        if x1 = 1 then
          if x1 = 2 then
            some (h4 31 6, hset (hset (hset h4 31 6 x2) 31 7 x2) 31 8 x2)
          else
            some (h4 31 6, hset (hset (hset h4 31 6 x2) 31 7 x2) 31 8 ((hset (hset h4 31 6 x2) 31 7 x2) 31 8))
        else
          if x1 = 2 then
            some (h4 31 6, hset (hset (hset h4 31 6 x2) 31 7 ((hset h4 31 6 x2) 31 7)) 31 8 x2)
          else
            some (h4 31 6, hset (hset (hset h4 31 6 x2) 31 7 ((hset h4 31 6 x2) 31 7)) 31 8 ((hset (hset h4 31 6 x2) 31 7 ((hset h4 31 6 x2) 31 7)) 31 8))
    else
      bnd (f_M_in x2 0 9 h1) fun r9 h9 =>
      if r9 = 0 then
        some ((-2), h9)
      else
        if x1 = 1 then
          if x1 = 2 then
            some (h9 31 7, hset (hset (hset h9 31 6 (h9 31 6)) 31 7 x2) 31 8 x2)
          else
            some (h9 31 7, hset (hset (hset h9 31 6 (h9 31 6)) 31 7 x2) 31 8 ((hset (hset h9 31 6 (h9 31 6)) 31 7 x2) 31 8))
        else
          if x1 = 2 then
            some (h9 31 8, hset (hset (hset h9 31 6 (h9 31 6)) 31 7 ((hset h9 31 6 (h9 31 6)) 31 7)) 31 8 x2)
          else
            some (h9 31 8, hset (hset (hset h9 31 6 (h9 31 6)) 31 7 ((hset h9 31 6 (h9 31 6)) 31 7)) 31 8 ((hset (hset h9 31 6 (h9 31 6)) 31 7 ((hset h9 31 6 (h9 31 6)) 31 7)) 31 8))
def f_M_isSheet (x0 : Int32) (h : Hp) : Option (Int32 × Hp) :=
  bnd (f_M_in x0 0 3 h) fun r1 h1 =>
  zret r1 h1
def f_M_meets (x1 : Int32) (h : Hp) : Option (Int32 × Hp) :=
  some ((-10) - x1, hset h 31 24 x1)
def l_M_read_27 : Nat → Int32 → Int32 → Hp → Option (Int32 × Hp)
  | 0, _, _, _ => none
  | n + 1, x1, x2, h =>
    chk 4 x1 <|
    if (h 43 (ix x1)) ≤ x2 then
      some (x2, h)
    else
      if 10 ≤ x2 then
        some (x2, h)
      else
        chk 192 ((48 * x1) + x2) <|
        bnd (f_M_in (h 44 (ix ((48 * x1) + x2))) 0 1 h) fun r7 h7 =>
        if r7 = 0 then
          some (x2, h7)
        else
          chk 192 ((48 * x1) + x2) <|
          (l_M_read_27 n) x1 (x2 + 1) (hset h7 31 5 (((h7 31 5) &&& (((1 : Int32) <<< (x2 &&& 31)) ^^^ (-1))) ||| ((h7 44 (ix ((48 * x1) + x2))) <<< (x2 &&& 31))))
def f_M_read (x1 : Int32) (h : Hp) : Option (Int32 × Hp) :=
  bnd (f_M_isSheet x1 h) fun r1 h1 =>
  if r1 = 0 then
    some ((-2), h1)
  else
    chk 4 x1 <|
    if (h1 41 (ix x1)) = 0 then
      bnd (f_M_meets 1 h1) fun r4 h4 =>
      some (r4, h4)
    else
      l_M_read_27 FUEL x1 0 h1
def f_M_apart (x0 : Int32) (x1 : Int32) (h : Hp) : Option (Int32 × Hp) :=
  if x1 ≤ x0 then
    some (x0 - x1, h)
  else
    some (x1 - x0, h)
def f_M_farOf (x1 : Int32) (x2 : Int32) (h : Hp) : Option (Int32 × Hp) :=
  chk 11 x1 <|
  chk 11 x2 <|
  bnd (f_M_apart (h 33 (ix x1)) (h 33 (ix x2)) h) fun r1 h1 =>
  chk 11 x1 <|
  chk 11 x2 <|
  bnd (f_M_apart (h1 34 (ix x1)) (h1 34 (ix x2)) h1) fun r2 h2 =>
  some (r1 + r2, h2)
def f_M_far (x1 : Int32) (x2 : Int32) (h : Hp) : Option (Int32 × Hp) :=
  bnd (f_M_isPeg x1 h) fun r1 h1 =>
  if r1 = 0 then
    some ((-2), h1)
  else
    bnd (f_M_isPeg x2 h1) fun r3 h3 =>
    if r3 = 0 then
      some ((-2), h3)
    else
      bnd (f_M_farOf x1 x2 h3) fun r5 h5 =>
      some (r5, h5)
def f_M_isLaw (x0 : Int32) (h : Hp) : Option (Int32 × Hp) :=
  bnd (f_M_in x0 0 3 h) fun r1 h1 =>
  zret r1 h1
def f_M_isWeb (x1 : Int32) (x2 : Int32) (h : Hp) : Option (Int32 × Hp) :=
  bnd (f_M_isPeg x1 h) fun r1 h1 =>
  if r1 = 0 then
    some (0, h1)
  else
    bnd (f_M_isLaw x2 h1) fun r3 h3 =>
    if r3 = 0 then
      some (0, h3)
    else
      some (1, h3)
def f_M_isIn (x0 : Int32) (x1 : Int32) (h : Hp) : Option (Int32 × Hp) :=
  if ((x0 >>> (x1 &&& 31)) &&& 1) = 1 then
    some (1, h)
  else
    some (0, h)
def f_M_isHidden (x1 : Int32) (h : Hp) : Option (Int32 × Hp) :=
  bnd (f_M_isIn (h 31 5) x1 h) fun r1 h1 =>
  zret r1 h1
def f_M_place (x1 : Int32) (h : Hp) : Option (Int32 × Hp) :=
  chk 11 x1 <|
  chk 11 x1 <|
  some ((10 * (h 34 (ix x1))) + (h 33 (ix x1)), h)
def l_M_nextOf_9 : Nat → Int32 → Int32 → Int32 → Int32 → Int32 → Int32 → Hp → Option (Int32 × Hp)
  | 0, _, _, _, _, _, _, _ => none
  | n + 1, x1, x2, x3, x4, x5, x6, h =>
    if (h 31 2) ≤ x6 then
      some (x4, h)
    else
      if x2 = 0 then
        bnd (f_M_farOf x1 x6 h) fun r3 h3 =>
        bnd (f_M_isIn x3 x6 h3) fun r4 h4 =>
        if r4 = 0 then
          (l_M_nextOf_9 n) x1 x2 x3 x4 x5 (x6 + 1) h4
        else
          if x4 = (-1) then
            (l_M_nextOf_9 n) x1 x2 x3 x6 r3 (x6 + 1) h4
          else
            if x5 ≤ r3 then
              (l_M_nextOf_9 n) x1 x2 x3 x4 x5 (x6 + 1) h4
            else
              (l_M_nextOf_9 n) x1 x2 x3 x6 r3 (x6 + 1) h4
      else
        if x2 = 1 then
          bnd (f_M_farOf x1 x6 h) fun r9 h9 =>
          bnd (f_M_isIn x3 x6 h9) fun r10 h10 =>
          if r10 = 0 then
            (l_M_nextOf_9 n) x1 x2 x3 x4 x5 (x6 + 1) h10
          else
            if x4 = (-1) then
              (l_M_nextOf_9 n) x1 x2 x3 x6 (-r9) (x6 + 1) h10
            else
              if x5 ≤ (-r9) then
                (l_M_nextOf_9 n) x1 x2 x3 x4 x5 (x6 + 1) h10
              else
                (l_M_nextOf_9 n) x1 x2 x3 x6 (-r9) (x6 + 1) h10
        else
          if x2 = 2 then
            if x6 ≤ x1 then
              bnd (f_M_isIn x3 x6 h) fun r16 h16 =>
              if r16 = 0 then
                (l_M_nextOf_9 n) x1 x2 x3 x4 x5 (x6 + 1) h16
              else
                if x4 = (-1) then
                  (l_M_nextOf_9 n) x1 x2 x3 x6 ((x6 - x1) + 11) (x6 + 1) h16
                else
                  if x5 ≤ ((x6 - x1) + 11) then
                    (l_M_nextOf_9 n) x1 x2 x3 x4 x5 (x6 + 1) h16
                  else
                    (l_M_nextOf_9 n) x1 x2 x3 x6 ((x6 - x1) + 11) (x6 + 1) h16
            else
              bnd (f_M_isIn x3 x6 h) fun r20 h20 =>
              if r20 = 0 then
                (l_M_nextOf_9 n) x1 x2 x3 x4 x5 (x6 + 1) h20
              else
                if x4 = (-1) then
                  (l_M_nextOf_9 n) x1 x2 x3 x6 (x6 - x1) (x6 + 1) h20
                else
                  if x5 ≤ (x6 - x1) then
                    (l_M_nextOf_9 n) x1 x2 x3 x4 x5 (x6 + 1) h20
                  else
                    (l_M_nextOf_9 n) x1 x2 x3 x6 (x6 - x1) (x6 + 1) h20
          else
            bnd (f_M_place x6 h) fun r24 h24 =>
            bnd (f_M_place x1 h24) fun r25 h25 =>
            bnd (f_M_isIn x3 x6 h25) fun r26 h26 =>
            if r26 = 0 then
              (l_M_nextOf_9 n) x1 x2 x3 x4 x5 (x6 + 1) h26
            else
              if x4 = (-1) then
                (l_M_nextOf_9 n) x1 x2 x3 x6 (((r24 - r25) + 100) - ((r24 - r25) + 100) / 100 * 100) (x6 + 1) h26
              else
                if x5 ≤ (((r24 - r25) + 100) - ((r24 - r25) + 100) / 100 * 100) then
                  (l_M_nextOf_9 n) x1 x2 x3 x4 x5 (x6 + 1) h26
                else
                  (l_M_nextOf_9 n) x1 x2 x3 x6 (((r24 - r25) + 100) - ((r24 - r25) + 100) / 100 * 100) (x6 + 1) h26
def f_M_nextOf (x1 : Int32) (x2 : Int32) (x3 : Int32) (h : Hp) : Option (Int32 × Hp) :=
  l_M_nextOf_9 FUEL x1 x2 x3 (-1) 0 0 h
def l_M_lays_55 : Nat → Int32 → Int32 → Int32 → Hp → Option (Unit × Hp)
  | 0, _, _, _, _ => none
  | n + 1, x2, x4, x5, h =>
    if x5 = (-1) then
      some ((), h)
    else
      chk 11 ((h 31 10) - 1) <|
      bnd (f_M_farOf (h 35 (ix ((h 31 10) - 1))) x5 h) fun r3 h3 =>
      if (h 31 12) < (r3 + (h3 31 7)) then
        some ((), h3)
      else
        chk 11 ((h3 31 10) - 1) <|
        bnd (f_M_farOf (h3 35 (ix ((h3 31 10) - 1))) x5 h3) fun r5 h5 =>
        chk 11 ((hset (hset h5 31 11 ((h5 31 11) + r5)) 31 12 (((hset h5 31 11 ((h5 31 11) + r5)) 31 12) - (r5 + ((hset h5 31 11 ((h5 31 11) + r5)) 31 7)))) 31 10) <|
        bnd (f_M_nextOf x5 x2 (x4 &&& (((1 : Int32) <<< (x5 &&& 31)) ^^^ (-1))) (hset (hset (hset (hset h5 31 11 ((h5 31 11) + r5)) 31 12 (((hset h5 31 11 ((h5 31 11) + r5)) 31 12) - (r5 + ((hset h5 31 11 ((h5 31 11) + r5)) 31 7)))) 35 (ix ((hset (hset h5 31 11 ((h5 31 11) + r5)) 31 12 (((hset h5 31 11 ((h5 31 11) + r5)) 31 12) - (r5 + ((hset h5 31 11 ((h5 31 11) + r5)) 31 7)))) 31 10)) x5) 31 10 (((hset (hset (hset h5 31 11 ((h5 31 11) + r5)) 31 12 (((hset h5 31 11 ((h5 31 11) + r5)) 31 12) - (r5 + ((hset h5 31 11 ((h5 31 11) + r5)) 31 7)))) 35 (ix ((hset (hset h5 31 11 ((h5 31 11) + r5)) 31 12 (((hset h5 31 11 ((h5 31 11) + r5)) 31 12) - (r5 + ((hset h5 31 11 ((h5 31 11) + r5)) 31 7)))) 31 10)) x5) 31 10) + 1))) fun r6 h6 =>
        (l_M_lays_55 n) x2 (x4 &&& (((1 : Int32) <<< (x5 &&& 31)) ^^^ (-1))) r6 h6
def f_M_lays (x1 : Int32) (x2 : Int32) (x3 : Int32) (h : Hp) : Option (Unit × Hp) :=
  chk 11 0 <|
  bnd (f_M_nextOf x1 x2 (((((1 : Int32) <<< ((h 31 2) &&& 31)) - 1) &&& (x3 ^^^ (-1))) &&& (((1 : Int32) <<< (x1 &&& 31)) ^^^ (-1))) (hset (hset (hset (hset h 35 (ix 0) x1) 31 10 1) 31 11 0) 31 12 ((hset (hset (hset h 35 (ix 0) x1) 31 10 1) 31 11 0) 31 6))) fun r1 h1 =>
  l_M_lays_55 FUEL x2 (((((1 : Int32) <<< ((h 31 2) &&& 31)) - 1) &&& (x3 ^^^ (-1))) &&& (((1 : Int32) <<< (x1 &&& 31)) ^^^ (-1))) r1 h1
def f_M_webOf (x1 : Int32) (x2 : Int32) (x3 : Int32) (h : Hp) : Option (Int32 × Hp) :=
  bnd (f_M_isHidden x1 h) fun r1 h1 =>
  if r1 = 0 then
    bnd (f_M_lays x1 x2 (h1 31 5) h1) fun _ h3 =>
    if (h3 31 10) ≤ x3 then
      some ((-1), h3)
    else
      chk 11 x3 <|
      some (h3 35 (ix x3), h3)
  else
    some ((-3), h1)
def f_M_web (x1 : Int32) (x2 : Int32) (x3 : Int32) (h : Hp) : Option (Int32 × Hp) :=
  bnd (f_M_isWeb x1 x2 h) fun r1 h1 =>
  if r1 = 0 then
    some ((-2), h1)
  else
    bnd (f_M_isTen x3 h1) fun r3 h3 =>
    if r3 = 0 then
      some ((-2), h3)
    else
      bnd (f_M_webOf x1 x2 x3 h3) fun r5 h5 =>
      some (r5, h5)
def f_M_lengthOf (x1 : Int32) (x2 : Int32) (x3 : Int32) (h : Hp) : Option (Int32 × Hp) :=
  bnd (f_M_isHidden x1 h) fun r1 h1 =>
  if r1 = 0 then
    bnd (f_M_lays x1 x2 (h1 31 5) h1) fun _ h3 =>
    if x3 = 0 then
      some (h3 31 11, h3)
    else
      if x3 = 1 then
        some (h3 31 10, h3)
      else
        some (h3 31 12, h3)
  else
    some ((-3), h1)
def f_M_length (x1 : Int32) (x2 : Int32) (x3 : Int32) (h : Hp) : Option (Int32 × Hp) :=
  bnd (f_M_isWeb x1 x2 h) fun r1 h1 =>
  if r1 = 0 then
    some ((-2), h1)
  else
    bnd (f_M_in x3 0 2 h1) fun r3 h3 =>
    if r3 = 0 then
      some ((-2), h3)
    else
      bnd (f_M_lengthOf x1 x2 x3 h3) fun r5 h5 =>
      some (r5, h5)
def f_M_hand (x1 : Int32) (x2 : Int32) (x3 : Int32) (h : Hp) : Option (Int32 × Hp) :=
  chk 11 x2 <|
  chk 11 x1 <|
  chk 11 x3 <|
  chk 11 x1 <|
  chk 11 x2 <|
  chk 11 x1 <|
  chk 11 x3 <|
  chk 11 x1 <|
  if ((((h 33 (ix x2)) - (h 33 (ix x1))) * ((h 34 (ix x3)) - (h 34 (ix x1)))) - (((h 34 (ix x2)) - (h 34 (ix x1))) * ((h 33 (ix x3)) - (h 33 (ix x1))))) ≤ 0 then
    if 0 ≤ ((((h 33 (ix x2)) - (h 33 (ix x1))) * ((h 34 (ix x3)) - (h 34 (ix x1)))) - (((h 34 (ix x2)) - (h 34 (ix x1))) * ((h 33 (ix x3)) - (h 33 (ix x1))))) then
      some (0, h)
    else
      some ((-1), h)
  else
    some (1, h)
def f_M_isBetween (x1 : Int32) (x2 : Int32) (x3 : Int32) (h : Hp) : Option (Int32 × Hp) :=
  bnd (f_M_farOf x1 x3 h) fun r1 h1 =>
  bnd (f_M_farOf x3 x2 h1) fun r2 h2 =>
  bnd (f_M_farOf x1 x2 h2) fun r3 h3 =>
  if (r1 + r2) = r3 then
    some (1, h3)
  else
    some (0, h3)
def f_M_doMeet (x1 : Int32) (x2 : Int32) (x3 : Int32) (x4 : Int32) (h : Hp) : Option (Int32 × Hp) :=
  bnd (f_M_hand x1 x2 x3 h) fun r1 h1 =>
  bnd (f_M_hand x1 x2 x4 h1) fun r2 h2 =>
  bnd (f_M_hand x3 x4 x1 h2) fun r3 h3 =>
  bnd (f_M_hand x3 x4 x2 h3) fun r4 h4 =>
  if r1 = 0 then
    bnd (f_M_isBetween x1 x2 x3 h4) fun r6 h6 =>
    if r6 = 0 then
      if r2 = 0 then
        bnd (f_M_isBetween x1 x2 x4 h6) fun r9 h9 =>
        if r9 = 0 then
          if r3 = 0 then
            bnd (f_M_isBetween x3 x4 x1 h9) fun r12 h12 =>
            if r12 = 0 then
              if r4 = 0 then
                bnd (f_M_isBetween x3 x4 x2 h12) fun r15 h15 =>
                if r15 = 0 then
                  if 0 ≤ (r1 * r2) then
                    some (0, h15)
                  else
                    if 0 ≤ (r3 * r4) then
                      some (0, h15)
                    else
                      some (1, h15)
                else
                  some (1, h15)
              else
                if 0 ≤ (r1 * r2) then
                  some (0, h12)
                else
                  if 0 ≤ (r3 * r4) then
                    some (0, h12)
                  else
                    some (1, h12)
            else
              some (1, h12)
          else
            if r4 = 0 then
              bnd (f_M_isBetween x3 x4 x2 h9) fun r22 h22 =>
              if r22 = 0 then
                if 0 ≤ (r1 * r2) then
                  some (0, h22)
                else
                  if 0 ≤ (r3 * r4) then
                    some (0, h22)
                  else
                    some (1, h22)
              else
                some (1, h22)
            else
              if 0 ≤ (r1 * r2) then
                some (0, h9)
              else
                if 0 ≤ (r3 * r4) then
                  some (0, h9)
                else
                  some (1, h9)
        else
          some (1, h9)
      else
        if r3 = 0 then
          bnd (f_M_isBetween x3 x4 x1 h6) fun r29 h29 =>
          if r29 = 0 then
            if r4 = 0 then
              bnd (f_M_isBetween x3 x4 x2 h29) fun r32 h32 =>
              if r32 = 0 then
                if 0 ≤ (r1 * r2) then
                  some (0, h32)
                else
                  if 0 ≤ (r3 * r4) then
                    some (0, h32)
                  else
                    some (1, h32)
              else
                some (1, h32)
            else
              if 0 ≤ (r1 * r2) then
                some (0, h29)
              else
                if 0 ≤ (r3 * r4) then
                  some (0, h29)
                else
                  some (1, h29)
          else
            some (1, h29)
        else
          if r4 = 0 then
            bnd (f_M_isBetween x3 x4 x2 h6) fun r39 h39 =>
            if r39 = 0 then
              if 0 ≤ (r1 * r2) then
                some (0, h39)
              else
                if 0 ≤ (r3 * r4) then
                  some (0, h39)
                else
                  some (1, h39)
            else
              some (1, h39)
          else
            if 0 ≤ (r1 * r2) then
              some (0, h6)
            else
              if 0 ≤ (r3 * r4) then
                some (0, h6)
              else
                some (1, h6)
    else
      some (1, h6)
  else
    if r2 = 0 then
      bnd (f_M_isBetween x1 x2 x4 h4) fun r46 h46 =>
      if r46 = 0 then
        if r3 = 0 then
          bnd (f_M_isBetween x3 x4 x1 h46) fun r49 h49 =>
          if r49 = 0 then
            if r4 = 0 then
              bnd (f_M_isBetween x3 x4 x2 h49) fun r52 h52 =>
              if r52 = 0 then
                if 0 ≤ (r1 * r2) then
                  some (0, h52)
                else
                  if 0 ≤ (r3 * r4) then
                    some (0, h52)
                  else
                    some (1, h52)
              else
                some (1, h52)
            else
              if 0 ≤ (r1 * r2) then
                some (0, h49)
              else
                if 0 ≤ (r3 * r4) then
                  some (0, h49)
                else
                  some (1, h49)
          else
            some (1, h49)
        else
          if r4 = 0 then
            bnd (f_M_isBetween x3 x4 x2 h46) fun r59 h59 =>
            if r59 = 0 then
              if 0 ≤ (r1 * r2) then
                some (0, h59)
              else
                if 0 ≤ (r3 * r4) then
                  some (0, h59)
                else
                  some (1, h59)
            else
              some (1, h59)
          else
            if 0 ≤ (r1 * r2) then
              some (0, h46)
            else
              if 0 ≤ (r3 * r4) then
                some (0, h46)
              else
                some (1, h46)
      else
        some (1, h46)
    else
      if r3 = 0 then
        bnd (f_M_isBetween x3 x4 x1 h4) fun r66 h66 =>
        if r66 = 0 then
          if r4 = 0 then
            bnd (f_M_isBetween x3 x4 x2 h66) fun r69 h69 =>
            if r69 = 0 then
              if 0 ≤ (r1 * r2) then
                some (0, h69)
              else
                if 0 ≤ (r3 * r4) then
                  some (0, h69)
                else
                  some (1, h69)
            else
              some (1, h69)
          else
            if 0 ≤ (r1 * r2) then
              some (0, h66)
            else
              if 0 ≤ (r3 * r4) then
                some (0, h66)
              else
                some (1, h66)
        else
          some (1, h66)
      else
        if r4 = 0 then
          bnd (f_M_isBetween x3 x4 x2 h4) fun r76 h76 =>
          if r76 = 0 then
            if 0 ≤ (r1 * r2) then
              some (0, h76)
            else
              if 0 ≤ (r3 * r4) then
                some (0, h76)
              else
                some (1, h76)
          else
            some (1, h76)
        else
          if 0 ≤ (r1 * r2) then
            some (0, h4)
          else
            if 0 ≤ (r3 * r4) then
              some (0, h4)
            else
              some (1, h4)
def l_M_crossesOf_43 (K26 : Int32 → Int32 → Hp → Option (Int32 × Hp)) : Nat → Int32 → Int32 → Int32 → Hp → Option (Int32 × Hp)
  | 0, _, _, _, _ => none
  | n + 1, x3, x4, x5, h =>
    if (h 31 10) ≤ (x5 + 1) then
      K26 x3 (x4 + 1) h
    else
      chk 11 x4 <|
      chk 11 (x4 + 1) <|
      chk 11 x5 <|
      chk 11 (x5 + 1) <|
      bnd (f_M_doMeet (h 35 (ix x4)) (h 35 (ix (x4 + 1))) (h 35 (ix x5)) (h 35 (ix (x5 + 1))) h) fun r6 h6 =>
      if r6 = 0 then
        (l_M_crossesOf_43 K26 n) (x3 + 0) x4 (x5 + 1) h6
      else
        (l_M_crossesOf_43 K26 n) (x3 + 1) x4 (x5 + 1) h6
def l_M_crossesOf_26 : Nat → Int32 → Int32 → Hp → Option (Int32 × Hp)
  | 0, _, _, _ => none
  | n + 1, x3, x4, h =>
    if (h 31 10) ≤ (x4 + 1) then
      some (x3, h)
    else
      l_M_crossesOf_43 (l_M_crossesOf_26 n) FUEL x3 x4 (x4 + 2) h
def f_M_crossesOf (x1 : Int32) (x2 : Int32) (h : Hp) : Option (Int32 × Hp) :=
  bnd (f_M_isHidden x1 h) fun r1 h1 =>
  if r1 = 0 then
    bnd (f_M_lays x1 x2 (h1 31 5) h1) fun _ h3 =>
    l_M_crossesOf_26 FUEL 0 0 h3
  else
    some ((-3), h1)
def f_M_crosses (x1 : Int32) (x2 : Int32) (h : Hp) : Option (Int32 × Hp) :=
  bnd (f_M_isWeb x1 x2 h) fun r1 h1 =>
  if r1 = 0 then
    some ((-2), h1)
  else
    bnd (f_M_crossesOf x1 x2 h1) fun r3 h3 =>
    some (r3, h3)
def l_M_indexOf_2 : Nat → Int32 → Int32 → Hp → Option (Int32 × Hp)
  | 0, _, _, _ => none
  | n + 1, x1, x2, h =>
    if (h 31 10) ≤ x2 then
      some ((-1), h)
    else
      chk 11 x2 <|
      if (h 35 (ix x2)) = x1 then
        some (x2, h)
      else
        (l_M_indexOf_2 n) x1 (x2 + 1) h
def f_M_indexOf (x1 : Int32) (h : Hp) : Option (Int32 × Hp) :=
  l_M_indexOf_2 FUEL x1 0 h
def f_M_hangsOf (x1 : Int32) (x2 : Int32) (x3 : Int32) (h : Hp) : Option (Int32 × Hp) :=
  bnd (f_M_isHidden x1 h) fun r1 h1 =>
  if r1 = 0 then
    bnd (f_M_lays x1 x2 (h1 31 5) h1) fun _ h3 =>
    bnd (f_M_indexOf x3 h3) fun r4 h4 =>
    if r4 = (-1) then
      some (0, h4)
    else
      if r4 ≤ 0 then
        if (h4 31 10) ≤ (r4 + 1) then
          some (0 + 0, h4)
        else
          some (0 + 1, h4)
      else
        if (h4 31 10) ≤ (r4 + 1) then
          some (1 + 0, h4)
        else
          some (1 + 1, h4)
  else
    some ((-3), h1)
def f_M_hangs (x1 : Int32) (x2 : Int32) (x3 : Int32) (h : Hp) : Option (Int32 × Hp) :=
  bnd (f_M_isWeb x1 x2 h) fun r1 h1 =>
  if r1 = 0 then
    some ((-2), h1)
  else
    bnd (f_M_isPeg x3 h1) fun r3 h3 =>
    if r3 = 0 then
      some ((-2), h3)
    else
      bnd (f_M_hangsOf x1 x2 x3 h3) fun r5 h5 =>
      some (r5, h5)
def f_M_piecesOf (x1 : Int32) (x2 : Int32) (x3 : Int32) (h : Hp) : Option (Int32 × Hp) :=
  bnd (f_M_hangsOf x1 x2 x3 h) fun r1 h1 =>
  if r1 = (-3) then
    some (r1, h1)
  else
    bnd (f_M_indexOf x3 h1) fun r3 h3 =>
    if r3 = (-1) then
      some (1, h3)
    else
      some (r1, h3)
def f_M_pieces (x1 : Int32) (x2 : Int32) (x3 : Int32) (h : Hp) : Option (Int32 × Hp) :=
  bnd (f_M_isWeb x1 x2 h) fun r1 h1 =>
  if r1 = 0 then
    some ((-2), h1)
  else
    bnd (f_M_isPeg x3 h1) fun r3 h3 =>
    if r3 = 0 then
      some ((-2), h3)
    else
      bnd (f_M_piecesOf x1 x2 x3 h3) fun r5 h5 =>
      some (r5, h5)
def l_M_turns_9 (K2 : Int32 → Int32 → Hp → Option (Unit × Hp)) : Nat → Int32 → Int32 → Int32 → Hp → Option (Unit × Hp)
  | 0, _, _, _, _ => none
  | n + 1, x1, x2, x3, h =>
    if (h 31 2) ≤ x3 then
      K2 x1 (x2 + 1) h
    else
      chk 11 x3 <|
      chk 11 x3 <|
      chk 11 x3 <|
      chk 11 x3 <|
      (l_M_turns_9 K2 n) x1 x2 (x3 + 1) (hset (hset h 33 (ix x3) (9 - (h 34 (ix x3)))) 34 (ix x3) (h 33 (ix x3)))
def l_M_turns_2 : Nat → Int32 → Int32 → Hp → Option (Unit × Hp)
  | 0, _, _, _ => none
  | n + 1, x1, x2, h =>
    if x1 ≤ x2 then
      some ((), h)
    else
      l_M_turns_9 (l_M_turns_2 n) FUEL x1 x2 0 h
def f_M_turns (x1 : Int32) (h : Hp) : Option (Unit × Hp) :=
  l_M_turns_2 FUEL x1 0 h
def l_M_turnedOf_93 : Nat → Int32 → Int32 → Int32 → Hp → Option (Int32 × Hp)
  | 0, _, _, _, _ => none
  | n + 1, x3, x4, x5, h =>
    if x3 ≤ x5 then
      if x4 = 0 then
        some (0, h)
      else
        some (1, h)
    else
      if x4 = 0 then
        some (0, h)
      else
        chk 11 x5 <|
        chk 11 x5 <|
        if (h 35 (ix x5)) = (h 36 (ix x5)) then
          (l_M_turnedOf_93 n) x3 1 (x5 + 1) h
        else
          (l_M_turnedOf_93 n) x3 0 (x5 + 1) h
def l_M_turnedOf_29 : Nat → Int32 → Int32 → Int32 → Int32 → Hp → Option (Int32 × Hp)
  | 0, _, _, _, _, _ => none
  | n + 1, x1, x2, x3, x4, h =>
    if x3 ≤ x4 then
      bnd (f_M_turns 1 h) fun _ h5 =>
      bnd (f_M_lays x1 x2 (h5 31 5) h5) fun _ h6 =>
      bnd (f_M_turns 3 h6) fun _ h7 =>
      if (h7 31 10) = x3 then
        l_M_turnedOf_93 FUEL x3 1 0 h7
      else
        l_M_turnedOf_93 FUEL x3 0 0 h7
    else
      chk 11 x4 <|
      chk 11 x4 <|
      (l_M_turnedOf_29 n) x1 x2 x3 (x4 + 1) (hset h 36 (ix x4) (h 35 (ix x4)))
def f_M_turnedOf (x1 : Int32) (x2 : Int32) (h : Hp) : Option (Int32 × Hp) :=
  bnd (f_M_isHidden x1 h) fun r1 h1 =>
  if r1 = 0 then
    bnd (f_M_lays x1 x2 (h1 31 5) h1) fun _ h3 =>
    l_M_turnedOf_29 FUEL x1 x2 (h3 31 10) 0 h3
  else
    some ((-3), h1)
def f_M_turned (x1 : Int32) (x2 : Int32) (h : Hp) : Option (Int32 × Hp) :=
  bnd (f_M_isWeb x1 x2 h) fun r1 h1 =>
  if r1 = 0 then
    some ((-2), h1)
  else
    bnd (f_M_turnedOf x1 x2 h1) fun r3 h3 =>
    some (r3, h3)
def f_M_moreOf (x1 : Int32) (x2 : Int32) (x3 : Int32) (x4 : Int32) (h : Hp) : Option (Int32 × Hp) :=
  bnd (f_M_isHidden x1 h) fun r1 h1 =>
  if r1 = 0 then
    if (h1 31 2) = 10 then
      some ((-3), h1)
    else
      bnd (f_M_isTaken x3 x4 (h1 31 2) h1) fun r4 h4 =>
      if r4 = 0 then
        chk 11 (h4 31 2) <|
        chk 11 ((hset h4 33 (ix (h4 31 2)) x3) 31 2) <|
        bnd (f_M_lays x1 x2 ((hset (hset (hset h4 33 (ix (h4 31 2)) x3) 34 (ix ((hset h4 33 (ix (h4 31 2)) x3) 31 2)) x4) 31 2 (((hset (hset h4 33 (ix (h4 31 2)) x3) 34 (ix ((hset h4 33 (ix (h4 31 2)) x3) 31 2)) x4) 31 2) + 1)) 31 5) (hset (hset (hset h4 33 (ix (h4 31 2)) x3) 34 (ix ((hset h4 33 (ix (h4 31 2)) x3) 31 2)) x4) 31 2 (((hset (hset h4 33 (ix (h4 31 2)) x3) 34 (ix ((hset h4 33 (ix (h4 31 2)) x3) 31 2)) x4) 31 2) + 1))) fun _ h6 =>
        some ((hset h6 31 2 ((h6 31 2) - 1)) 31 11, hset h6 31 2 ((h6 31 2) - 1))
      else
        some ((-3), h4)
  else
    some ((-3), h1)
def f_M_more (x1 : Int32) (x2 : Int32) (x3 : Int32) (x4 : Int32) (h : Hp) : Option (Int32 × Hp) :=
  bnd (f_M_isWeb x1 x2 h) fun r1 h1 =>
  if r1 = 0 then
    some ((-2), h1)
  else
    bnd (f_M_isTen x3 h1) fun r3 h3 =>
    if r3 = 0 then
      some ((-2), h3)
    else
      bnd (f_M_isTen x4 h3) fun r5 h5 =>
      if r5 = 0 then
        some ((-2), h5)
      else
        bnd (f_M_moreOf x1 x2 x3 x4 h5) fun r7 h7 =>
        some (r7, h7)
def l_M_beginOf_16 : Nat → Int32 → Int32 → Int32 → Int32 → Int32 → Hp → Option (Int32 × Hp)
  | 0, _, _, _, _, _, _ => none
  | n + 1, x1, x3, x4, x5, x6, h =>
    if (h 31 2) ≤ x6 then
      some (x3, h)
    else
      bnd (f_M_isHidden x6 h) fun r3 h3 =>
      if r3 = 0 then
        bnd (f_M_lays x6 x1 (h3 31 5) h3) fun _ h5 =>
        if x4 < (h5 31 10) then
          (l_M_beginOf_16 n) x1 x6 (h5 31 10) (h5 31 11) (x6 + 1) h5
        else
          if (h5 31 10) = x4 then
            if x5 ≤ (h5 31 11) then
              (l_M_beginOf_16 n) x1 x3 x4 x5 (x6 + 1) h5
            else
              (l_M_beginOf_16 n) x1 x6 (h5 31 10) (h5 31 11) (x6 + 1) h5
          else
            (l_M_beginOf_16 n) x1 x3 x4 x5 (x6 + 1) h5
      else
        (l_M_beginOf_16 n) x1 x3 x4 x5 (x6 + 1) h3
def f_M_beginOf (x1 : Int32) (h : Hp) : Option (Int32 × Hp) :=
  bnd (f_M_faultNow h) fun r1 h1 =>
  l_M_beginOf_16 FUEL x1 (-1) 0 0 0 h1
def f_M_begin (x1 : Int32) (h : Hp) : Option (Int32 × Hp) :=
  bnd (f_M_isLaw x1 h) fun r1 h1 =>
  if r1 = 0 then
    some ((-2), h1)
  else
    bnd (f_M_beginOf x1 h1) fun r3 h3 =>
    some (r3, h3)
def l_M_ones_4 : Nat → Int32 → Int32 → Int32 → Hp → Option (Int32 × Hp)
  | 0, _, _, _, _ => none
  | n + 1, x0, x1, x2, h =>
    if 10 ≤ x2 then
      some (x1, h)
    else
      (l_M_ones_4 n) x0 (x1 + ((x0 >>> (x2 &&& 31)) &&& 1)) (x2 + 1) h
def f_M_ones (x0 : Int32) (h : Hp) : Option (Int32 × Hp) :=
  l_M_ones_4 FUEL x0 0 0 h
def l_M_lastOf_54 : Nat → Int32 → Int32 → Int32 → Int32 → Int32 → Int32 → Int32 → Hp → Option (Int32 × Hp)
  | 0, _, _, _, _, _, _, _, _ => none
  | n + 1, x1, x2, x3, x4, x5, x6, x7, h =>
    if ((1 : Int32) <<< ((h 31 2) &&& 31)) ≤ x7 then
      if x6 = (-1) then
        some (x6, h)
      else
        if x4 = 1 then
          some (x6, h)
        else
          bnd (f_M_ones x6 h) fun r8 h8 =>
          some (r8, h8)
    else
      if (x7 &&& (x5 ^^^ (-1))) = 0 then
        if x6 = (-1) then
          bnd (f_M_lays x1 x2 ((h 31 5) ||| x7) h) fun _ h11 =>
          chk 11 ((h11 31 10) - 1) <|
          if (h11 35 (ix ((h11 31 10) - 1))) = x3 then
            (l_M_lastOf_54 n) x1 x2 x3 x4 x5 x7 (x7 + 1) h11
          else
            (l_M_lastOf_54 n) x1 x2 x3 x4 x5 x6 (x7 + 1) h11
        else
          bnd (f_M_ones x7 h) fun r13 h13 =>
          bnd (f_M_ones x6 h13) fun r14 h14 =>
          if r14 ≤ r13 then
            (l_M_lastOf_54 n) x1 x2 x3 x4 x5 x6 (x7 + 1) h14
          else
            bnd (f_M_lays x1 x2 ((h14 31 5) ||| x7) h14) fun _ h16 =>
            chk 11 ((h16 31 10) - 1) <|
            if (h16 35 (ix ((h16 31 10) - 1))) = x3 then
              (l_M_lastOf_54 n) x1 x2 x3 x4 x5 x7 (x7 + 1) h16
            else
              (l_M_lastOf_54 n) x1 x2 x3 x4 x5 x6 (x7 + 1) h16
      else
        (l_M_lastOf_54 n) x1 x2 x3 x4 x5 x6 (x7 + 1) h
def f_M_lastOf (x1 : Int32) (x2 : Int32) (x3 : Int32) (x4 : Int32) (h : Hp) : Option (Int32 × Hp) :=
  bnd (f_M_isHidden x1 h) fun r1 h1 =>
  if r1 = 0 then
    bnd (f_M_isHidden x3 h1) fun r3 h3 =>
    if r3 = 0 then
      l_M_lastOf_54 FUEL x1 x2 x3 x4 ((((((1 : Int32) <<< ((h3 31 2) &&& 31)) - 1) &&& ((h3 31 5) ^^^ (-1))) &&& (((1 : Int32) <<< (x1 &&& 31)) ^^^ (-1))) &&& (((1 : Int32) <<< (x3 &&& 31)) ^^^ (-1))) (-1) 0 h3
    else
      some ((-3), h3)
  else
    some ((-3), h1)
def f_M_last (x1 : Int32) (x2 : Int32) (x3 : Int32) (x4 : Int32) (h : Hp) : Option (Int32 × Hp) :=
  bnd (f_M_isWeb x1 x2 h) fun r1 h1 =>
  if r1 = 0 then
    some ((-2), h1)
  else
    bnd (f_M_isPeg x3 h1) fun r3 h3 =>
    if r3 = 0 then
      some ((-2), h3)
    else
      if x1 = x3 then
        some ((-2), h3)
      else
        bnd (f_M_in x4 0 1 h3) fun r6 h6 =>
        if r6 = 0 then
          some ((-2), h6)
        else
          bnd (f_M_lastOf x1 x2 x3 x4 h6) fun r8 h8 =>
          some (r8, h8)
def l_M_twoOf_81 : Nat → Int32 → Int32 → Int32 → Int32 → Int32 → Int32 → Int32 → Int32 → Int32 → Int32 → Int32 → Int32 → Int32 → Hp → Option (Int32 × Hp)
  | 0, _, _, _, _, _, _, _, _, _, _, _, _, _, _ => none
  | n + 1, x2, x4, x5, x6, x7, x8, x9, x10, x11, x12, x13, x14, x15, h =>
    if 2 ≤ x14 then
      if x5 = 0 then
        some (x11, h)
      else
        if x5 = 1 then
          some (x12, h)
        else
          some (x13, h)
    else
      if x15 = 0 then
        bnd (f_M_nextOf x8 x4 x6 h) fun r9 h9 =>
        if r9 = (-1) then
          (l_M_twoOf_81 n) x2 x4 x5 x6 x7 x8 x9 x10 x11 x12 x13 (x14 + 1) 1 h9
        else
          bnd (f_M_farOf x8 r9 h9) fun r11 h11 =>
          if (r11 + (h11 31 7)) ≤ x10 then
            bnd (f_M_farOf x8 r9 h11) fun r13 h13 =>
            (l_M_twoOf_81 n) x2 x4 x5 (x6 &&& (((1 : Int32) <<< (r9 &&& 31)) ^^^ (-1))) x7 r9 x9 (x10 - (r13 + (h13 31 7))) (x11 + 0) (x12 + 1) r9 0 1 h13
          else
            (l_M_twoOf_81 n) x2 x4 x5 x6 x7 x8 x9 x10 x11 x12 x13 (x14 + 1) 1 h11
      else
        bnd (f_M_nextOf x7 x2 x6 h) fun r14 h14 =>
        if r14 = (-1) then
          (l_M_twoOf_81 n) x2 x4 x5 x6 x7 x8 x9 x10 x11 x12 x13 (x14 + 1) 0 h14
        else
          bnd (f_M_farOf x7 r14 h14) fun r16 h16 =>
          if (r16 + (h16 31 7)) ≤ x9 then
            bnd (f_M_farOf x7 r14 h16) fun r18 h18 =>
            (l_M_twoOf_81 n) x2 x4 x5 (x6 &&& (((1 : Int32) <<< (r14 &&& 31)) ^^^ (-1))) r14 x8 (x9 - (r18 + (h18 31 7))) x10 (x11 + 1) (x12 + 0) r14 0 0 h18
          else
            (l_M_twoOf_81 n) x2 x4 x5 x6 x7 x8 x9 x10 x11 x12 x13 (x14 + 1) 0 h16
def f_M_twoOf (x1 : Int32) (x2 : Int32) (x3 : Int32) (x4 : Int32) (x5 : Int32) (h : Hp) : Option (Int32 × Hp) :=
  bnd (f_M_isHidden x1 h) fun r1 h1 =>
  if r1 = 0 then
    bnd (f_M_isHidden x3 h1) fun r3 h3 =>
    if r3 = 0 then
      l_M_twoOf_81 FUEL x2 x4 x5 ((((((1 : Int32) <<< ((h3 31 2) &&& 31)) - 1) &&& ((h3 31 5) ^^^ (-1))) &&& (((1 : Int32) <<< (x1 &&& 31)) ^^^ (-1))) &&& (((1 : Int32) <<< (x3 &&& 31)) ^^^ (-1))) x1 x3 (h3 31 6) (h3 31 6) 1 1 (-1) 0 1 h3
    else
      some ((-3), h3)
  else
    some ((-3), h1)
def f_M_two (x1 : Int32) (x2 : Int32) (x3 : Int32) (x4 : Int32) (x5 : Int32) (h : Hp) : Option (Int32 × Hp) :=
  bnd (f_M_isWeb x1 x2 h) fun r1 h1 =>
  if r1 = 0 then
    some ((-2), h1)
  else
    bnd (f_M_isWeb x3 x4 h1) fun r3 h3 =>
    if r3 = 0 then
      some ((-2), h3)
    else
      if x1 = x3 then
        some ((-2), h3)
      else
        bnd (f_M_in x5 0 2 h3) fun r6 h6 =>
        if r6 = 0 then
          some ((-2), h6)
        else
          bnd (f_M_twoOf x1 x2 x3 x4 x5 h6) fun r8 h8 =>
          some (r8, h8)
def f_M_seen (x1 : Int32) (x2 : Int32) (x3 : Int32) (h : Hp) : Option (Int32 × Hp) :=
  bnd (f_M_isTen x1 h) fun r1 h1 =>
  if r1 = 0 then
    some ((-2), h1)
  else
    bnd (f_M_in x2 1 9 h1) fun r3 h3 =>
    if r3 = 0 then
      some ((-2), h3)
    else
      bnd (f_M_isTen x3 h3) fun r5 h5 =>
      if r5 = 0 then
        some ((-2), h5)
      else
        if (h5 31 14) = 8 then
          some ((-4), h5)
        else
          chk 8 (h5 31 14) <|
          chk 8 ((hset h5 37 (ix (h5 31 14)) x1) 31 14) <|
          chk 8 ((hset (hset h5 37 (ix (h5 31 14)) x1) 38 (ix ((hset h5 37 (ix (h5 31 14)) x1) 31 14)) x2) 31 14) <|
          some ((hset (hset (hset (hset h5 37 (ix (h5 31 14)) x1) 38 (ix ((hset h5 37 (ix (h5 31 14)) x1) 31 14)) x2) 39 (ix ((hset (hset h5 37 (ix (h5 31 14)) x1) 38 (ix ((hset h5 37 (ix (h5 31 14)) x1) 31 14)) x2) 31 14)) x3) 31 14 (((hset (hset (hset h5 37 (ix (h5 31 14)) x1) 38 (ix ((hset h5 37 (ix (h5 31 14)) x1) 31 14)) x2) 39 (ix ((hset (hset h5 37 (ix (h5 31 14)) x1) 38 (ix ((hset h5 37 (ix (h5 31 14)) x1) 31 14)) x2) 31 14)) x3) 31 14) + 1)) 31 14, hset (hset (hset (hset h5 37 (ix (h5 31 14)) x1) 38 (ix ((hset h5 37 (ix (h5 31 14)) x1) 31 14)) x2) 39 (ix ((hset (hset h5 37 (ix (h5 31 14)) x1) 38 (ix ((hset h5 37 (ix (h5 31 14)) x1) 31 14)) x2) 31 14)) x3) 31 14 (((hset (hset (hset h5 37 (ix (h5 31 14)) x1) 38 (ix ((hset h5 37 (ix (h5 31 14)) x1) 31 14)) x2) 39 (ix ((hset (hset h5 37 (ix (h5 31 14)) x1) 38 (ix ((hset h5 37 (ix (h5 31 14)) x1) 31 14)) x2) 31 14)) x3) 31 14) + 1))
def f_M_forget (h : Hp) : Option (Int32 × Hp) :=
  some (h 31 14, hset h 31 14 0)
def l_M_fitsNow_20 (K9 : Int32 → Int32 → Hp → Option (Int32 × Hp)) : Nat → Int32 → Int32 → Int32 → Int32 → Hp → Option (Int32 × Hp)
  | 0, _, _, _, _, _ => none
  | n + 1, x2, x3, x4, x5, h =>
    if (h 31 14) ≤ x5 then
      if x4 = 0 then
        K9 (x2 ||| 0) (x3 + 1) h
      else
        K9 (x2 ||| ((1 : Int32) <<< (x3 &&& 31))) (x3 + 1) h
    else
      if x4 = 0 then
        K9 (x2 ||| 0) (x3 + 1) h
      else
        chk 8 x5 <|
        if (h 31 2) ≤ (h 37 (ix x5)) then
          (l_M_fitsNow_20 K9 n) x2 x3 0 (x5 + 1) h
        else
          chk 8 x5 <|
          bnd (f_M_isHidden (h 37 (ix x5)) h) fun r7 h7 =>
          if r7 = 0 then
            chk 8 x5 <|
            bnd (f_M_lays (h7 37 (ix x5)) x3 (h7 31 5) h7) fun _ h9 =>
            chk 8 x5 <|
            if (h9 31 10) ≤ (h9 38 (ix x5)) then
              (l_M_fitsNow_20 K9 n) x2 x3 0 (x5 + 1) h9
            else
              chk 8 x5 <|
              chk 11 (h9 38 (ix x5)) <|
              chk 8 x5 <|
              if (h9 35 (ix (h9 38 (ix x5)))) = (h9 39 (ix x5)) then
                (l_M_fitsNow_20 K9 n) x2 x3 1 (x5 + 1) h9
              else
                (l_M_fitsNow_20 K9 n) x2 x3 0 (x5 + 1) h9
          else
            (l_M_fitsNow_20 K9 n) x2 x3 0 (x5 + 1) h7
def l_M_fitsNow_9 : Nat → Int32 → Int32 → Hp → Option (Int32 × Hp)
  | 0, _, _, _ => none
  | n + 1, x2, x3, h =>
    if 4 ≤ x3 then
      some (x2, h)
    else
      l_M_fitsNow_20 (l_M_fitsNow_9 n) FUEL x2 x3 1 0 h
def f_M_fitsNow (h : Hp) : Option (Int32 × Hp) :=
  bnd (f_M_faultNow h) fun r1 h1 =>
  l_M_fitsNow_9 FUEL 0 0 h1
def f_M_fits (h : Hp) : Option (Int32 × Hp) :=
  bnd (f_M_fitsNow h) fun r1 h1 =>
  some (r1, h1)
def l_M_areAlike_5 : Nat → Int32 → Int32 → Int32 → Int32 → Hp → Option (Int32 × Hp)
  | 0, _, _, _, _, _ => none
  | n + 1, x1, x2, x3, x4, h =>
    chk 44 (11 * x1) <|
    if (h 40 (ix (11 * x1))) < x4 then
      zret x3 h
    else
      if x3 = 0 then
        (l_M_areAlike_5 n) x1 x2 0 (x4 + 1) h
      else
        chk 44 ((11 * x1) + x4) <|
        chk 44 ((11 * x2) + x4) <|
        if (h 40 (ix ((11 * x1) + x4))) = (h 40 (ix ((11 * x2) + x4))) then
          (l_M_areAlike_5 n) x1 x2 1 (x4 + 1) h
        else
          (l_M_areAlike_5 n) x1 x2 0 (x4 + 1) h
def f_M_areAlike (x1 : Int32) (x2 : Int32) (h : Hp) : Option (Int32 × Hp) :=
  l_M_areAlike_5 FUEL x1 x2 1 0 h
def l_M_unlikeFrom_87 (K5 : Int32 → Int32 → Int32 → Int32 → Hp → Option (Int32 × Hp)) : Nat → Int32 → Int32 → Int32 → Int32 → Int32 → Int32 → Hp → Option (Int32 × Hp)
  | 0, _, _, _, _, _, _, _ => none
  | n + 1, x1, x2, x3, x4, x5, x6, h =>
    if x4 ≤ x6 then
      if x5 = 0 then
        K5 x1 x2 (x3 + 0) (x4 + 1) h
      else
        K5 x1 x2 (x3 + 1) (x4 + 1) h
    else
      if x5 = 0 then
        K5 x1 x2 (x3 + 0) (x4 + 1) h
      else
        bnd (f_M_isIn x2 x6 h) fun r8 h8 =>
        if r8 = 0 then
          (l_M_unlikeFrom_87 K5 n) x1 x2 x3 x4 1 (x6 + 1) h8
        else
          bnd (f_M_areAlike x4 x6 h8) fun r10 h10 =>
          if r10 = 0 then
            (l_M_unlikeFrom_87 K5 n) x1 x2 x3 x4 1 (x6 + 1) h10
          else
            (l_M_unlikeFrom_87 K5 n) x1 x2 x3 x4 0 (x6 + 1) h10
def l_M_unlikeFrom_39 (K5 : Int32 → Int32 → Int32 → Int32 → Hp → Option (Int32 × Hp)) : Nat → Int32 → Int32 → Int32 → Int32 → Int32 → Hp → Option (Int32 × Hp)
  | 0, _, _, _, _, _, _ => none
  | n + 1, x1, x2, x3, x4, x5, h =>
    if (h 31 10) ≤ x5 then
      bnd (f_M_isIn x2 x4 h) fun r4 h4 =>
      l_M_unlikeFrom_87 K5 FUEL x1 x2 x3 x4 r4 0 h4
    else
      chk 11 x5 <|
      chk 44 (((11 * x4) + 1) + x5) <|
      (l_M_unlikeFrom_39 K5 n) x1 x2 x3 x4 (x5 + 1) (hset h 40 (ix (((11 * x4) + 1) + x5)) (h 35 (ix x5)))
def l_M_unlikeFrom_5 : Nat → Int32 → Int32 → Int32 → Int32 → Hp → Option (Int32 × Hp)
  | 0, _, _, _, _, _ => none
  | n + 1, x1, x2, x3, x4, h =>
    if 4 ≤ x4 then
      some (x3, h)
    else
      bnd (f_M_lays x1 x4 (h 31 5) h) fun _ h2 =>
      chk 44 (11 * x4) <|
      l_M_unlikeFrom_39 (l_M_unlikeFrom_5 n) FUEL x1 x2 x3 x4 0 (hset h2 40 (ix (11 * x4)) (h2 31 10))
def f_M_unlikeFrom (x1 : Int32) (x2 : Int32) (h : Hp) : Option (Int32 × Hp) :=
  l_M_unlikeFrom_5 FUEL x1 x2 0 0 h
def l_M_tellsNow_12 : Nat → Int32 → Int32 → Int32 → Int32 → Hp → Option (Int32 × Hp)
  | 0, _, _, _, _, _ => none
  | n + 1, x1, x2, x3, x4, h =>
    if (h 31 2) ≤ x4 then
      some (x2, h)
    else
      bnd (f_M_isHidden x4 h) fun r3 h3 =>
      if r3 = 0 then
        bnd (f_M_unlikeFrom x4 x1 h3) fun r5 h5 =>
        if r5 ≤ x3 then
          (l_M_tellsNow_12 n) x1 x2 x3 (x4 + 1) h5
        else
          (l_M_tellsNow_12 n) x1 x4 r5 (x4 + 1) h5
      else
        if (-1) ≤ x3 then
          (l_M_tellsNow_12 n) x1 x2 x3 (x4 + 1) h3
        else
          (l_M_tellsNow_12 n) x1 x4 (-1) (x4 + 1) h3
def f_M_tellsNow (h : Hp) : Option (Int32 × Hp) :=
  bnd (f_M_fitsNow h) fun r1 h1 =>
  l_M_tellsNow_12 FUEL r1 (-1) (-1) 0 h1
def f_M_tells (h : Hp) : Option (Int32 × Hp) :=
  bnd (f_M_tellsNow h) fun r1 h1 =>
  some (r1, h1)
def l_M_fliesOf_85 (K30 : Int32 → Int32 → Int32 → Int32 → Hp → Option (Int32 × Hp)) : Nat → Int32 → Int32 → Int32 → Int32 → Int32 → Int32 → Int32 → Int32 → Hp → Option (Int32 × Hp)
  | 0, _, _, _, _, _, _, _, _, _ => none
  | n + 1, x4, x5, x6, x7, x8, x9, x10, x11, h =>
    if (h 31 10) ≤ x11 then
      if x10 = 0 then
        K30 x4 x5 (x6 + 0) (x7 + 1) h
      else
        K30 x4 x5 (x6 + 1) (x7 + 1) h
    else
      if x10 = 0 then
        chk 11 x11 <|
        chk 11 (h 35 (ix x11)) <|
        bnd (f_M_apart x8 (h 33 (ix (h 35 (ix x11)))) h) fun r8 h8 =>
        chk 11 x11 <|
        chk 11 (h8 35 (ix x11)) <|
        bnd (f_M_apart x9 (h8 34 (ix (h8 35 (ix x11)))) h8) fun r9 h9 =>
        if (h9 31 8) < (r8 + r9) then
          (l_M_fliesOf_85 K30 n) x4 x5 x6 x7 x8 x9 0 (x11 + 1) h9
        else
          (l_M_fliesOf_85 K30 n) x4 x5 x6 x7 x8 x9 1 (x11 + 1) h9
      else
        (l_M_fliesOf_85 K30 n) x4 x5 x6 x7 x8 x9 1 (x11 + 1) h
def l_M_fliesOf_30 : Nat → Int32 → Int32 → Int32 → Int32 → Hp → Option (Int32 × Hp)
  | 0, _, _, _, _, _ => none
  | n + 1, x4, x5, x6, x7, h =>
    if x4 ≤ x7 then
      some (x6, h)
    else
      l_M_fliesOf_85 (l_M_fliesOf_30 n) FUEL x4 ((1103515245 * ((1103515245 * x5) + 12345)) + 12345) x6 x7 (((Int32.toUInt32 ((1103515245 * x5) + 12345) >>> (Int32.toUInt32 16 &&& Int32.toUInt32 31)).toInt32) - ((Int32.toUInt32 ((1103515245 * x5) + 12345) >>> (Int32.toUInt32 16 &&& Int32.toUInt32 31)).toInt32) / 10 * 10) (((Int32.toUInt32 ((1103515245 * ((1103515245 * x5) + 12345)) + 12345) >>> (Int32.toUInt32 16 &&& Int32.toUInt32 31)).toInt32) - ((Int32.toUInt32 ((1103515245 * ((1103515245 * x5) + 12345)) + 12345) >>> (Int32.toUInt32 16 &&& Int32.toUInt32 31)).toInt32) / 10 * 10) 0 0 h
def f_M_fliesOf (x1 : Int32) (x2 : Int32) (x3 : Int32) (x4 : Int32) (h : Hp) : Option (Int32 × Hp) :=
  bnd (f_M_isHidden x1 h) fun r1 h1 =>
  if r1 = 0 then
    bnd (f_M_lays x1 x2 (h1 31 5) h1) fun _ h3 =>
    l_M_fliesOf_30 FUEL x4 x3 0 0 h3
  else
    some ((-3), h1)
def f_M_flies (x1 : Int32) (x2 : Int32) (x3 : Int32) (x4 : Int32) (h : Hp) : Option (Int32 × Hp) :=
  bnd (f_M_isWeb x1 x2 h) fun r1 h1 =>
  if r1 = 0 then
    some ((-2), h1)
  else
    bnd (f_M_in x4 0 99 h1) fun r3 h3 =>
    if r3 = 0 then
      some ((-2), h3)
    else
      bnd (f_M_fliesOf x1 x2 x3 x4 h3) fun r5 h5 =>
      some (r5, h5)
def l_M_dewOf_24 : Nat → Int32 → Int32 → Hp → Option (Int32 × Hp)
  | 0, _, _, _ => none
  | n + 1, x3, x4, h =>
    if (h 31 10) ≤ (x4 + 1) then
      some ((-1), h)
    else
      chk 4 x3 <|
      if (h 43 (ix x3)) ≤ x4 then
        some ((-1), h)
      else
        chk 192 ((48 * x3) + x4) <|
        chk 11 x4 <|
        chk 11 (x4 + 1) <|
        bnd (f_M_farOf (h 35 (ix x4)) (h 35 (ix (x4 + 1))) h) fun r6 h6 =>
        if (h 44 (ix ((48 * x3) + x4))) ≤ r6 then
          (l_M_dewOf_24 n) x3 (x4 + 1) h6
        else
          some (x4, h6)
def f_M_dewOf (x1 : Int32) (x2 : Int32) (x3 : Int32) (h : Hp) : Option (Int32 × Hp) :=
  bnd (f_M_isHidden x1 h) fun r1 h1 =>
  if r1 = 0 then
    bnd (f_M_lays x1 x2 (h1 31 5) h1) fun _ h3 =>
    l_M_dewOf_24 FUEL x3 0 h3
  else
    some ((-3), h1)
def f_M_dew (x1 : Int32) (x2 : Int32) (x3 : Int32) (h : Hp) : Option (Int32 × Hp) :=
  bnd (f_M_isWeb x1 x2 h) fun r1 h1 =>
  if r1 = 0 then
    some ((-2), h1)
  else
    bnd (f_M_isSheet x3 h1) fun r3 h3 =>
    if r3 = 0 then
      some ((-2), h3)
    else
      chk 4 x3 <|
      if (h3 41 (ix x3)) = 0 then
        bnd (f_M_meets 1 h3) fun r6 h6 =>
        some (r6, h6)
      else
        bnd (f_M_dewOf x1 x2 x3 h3) fun r7 h7 =>
        some (r7, h7)
def l_M_sheet_59 : Nat → Int32 → Int32 → Int32 → Hp → Option (Int32 × Hp)
  | 0, _, _, _, _ => none
  | n + 1, x1, x3, x4, h =>
    if 48 ≤ x4 then
      some (x3, h)
    else
      chk 192 ((48 * x1) + x4) <|
      (l_M_sheet_59 n) x1 x3 (x4 + 1) (hset h 44 (ix ((48 * x1) + x4)) 0)
def f_M_sheet (x1 : Int32) (x2 : Int32) (x3 : Int32) (h : Hp) : Option (Int32 × Hp) :=
  bnd (f_M_isSheet x1 h) fun r1 h1 =>
  if r1 = 0 then
    some ((-2), h1)
  else
    bnd (f_M_in x2 0 2 h1) fun r3 h3 =>
    if r3 = 0 then
      some ((-2), h3)
    else
      if x3 ≤ 48 then
        if 0 ≤ x3 then
          chk 4 x1 <|
          chk 4 x1 <|
          chk 4 x1 <|
          l_M_sheet_59 FUEL x1 x3 0 (hset (hset (hset h3 41 (ix x1) 1) 42 (ix x1) x2) 43 (ix x1) x3)
        else
          bnd (f_M_meets 5 h3) fun r8 h8 =>
          some (r8, h8)
      else
        some ((-2), h3)
def f_M_lose (x1 : Int32) (h : Hp) : Option (Int32 × Hp) :=
  bnd (f_M_isSheet x1 h) fun r1 h1 =>
  if r1 = 0 then
    some ((-2), h1)
  else
    chk 4 x1 <|
    if (h1 41 (ix x1)) = 0 then
      bnd (f_M_meets 1 h1) fun r4 h4 =>
      some (r4, h4)
    else
      chk 4 x1 <|
      chk 4 x1 <|
      some ((hset h1 41 (ix x1) 0) 43 (ix x1), hset h1 41 (ix x1) 0)
def f_M_lacks (x1 : Int32) (x2 : Int32) (x3 : Int32) (h : Hp) : Option (Int32 × Hp) :=
  chk 4 x1 <|
  if (h 41 (ix x1)) = 0 then
    some (1, h)
  else
    chk 4 x1 <|
    if (h 42 (ix x1)) = x2 then
      chk 4 x1 <|
      bnd (f_M_in x3 0 ((h 43 (ix x1)) - 1) h) fun r3 h3 =>
      if r3 = 0 then
        some (2, h3)
      else
        some (0, h3)
    else
      some (3, h)
def f_M_keep (x1 : Int32) (x2 : Int32) (x3 : Int32) (h : Hp) : Option (Unit × Hp) :=
  chk 4 x1 <|
  if (h 42 (ix x1)) = 0 then
    chk 192 ((48 * x1) + x2) <|
    some ((), hset h 44 (ix ((48 * x1) + x2)) ((Int32.toInt8 x3).toInt32))
  else
    chk 4 x1 <|
    if (h 42 (ix x1)) = 1 then
      chk 192 ((48 * x1) + x2) <|
      some ((), hset h 44 (ix ((48 * x1) + x2)) ((Int32.toInt16 x3).toInt32))
    else
      chk 192 ((48 * x1) + x2) <|
      some ((), hset h 44 (ix ((48 * x1) + x2)) x3)
def f_M_put (x1 : Int32) (x2 : Int32) (x3 : Int32) (x4 : Int32) (h : Hp) : Option (Int32 × Hp) :=
  bnd (f_M_isSheet x1 h) fun r1 h1 =>
  if r1 = 0 then
    some ((-2), h1)
  else
    bnd (f_M_in x2 0 2 h1) fun r3 h3 =>
    if r3 = 0 then
      some ((-2), h3)
    else
      bnd (f_M_lacks x1 x2 x3 h3) fun r5 h5 =>
      if r5 ≤ 0 then
        bnd (f_M_keep x1 x3 x4 h5) fun _ h7 =>
        some (1, h7)
      else
        bnd (f_M_meets r5 h5) fun r8 h8 =>
        some (r8, h8)
def f_M_get (x1 : Int32) (x2 : Int32) (x3 : Int32) (h : Hp) : Option (Int32 × Hp) :=
  bnd (f_M_isSheet x1 h) fun r1 h1 =>
  if r1 = 0 then
    some ((-2147483648), h1)
  else
    bnd (f_M_in x2 0 2 h1) fun r3 h3 =>
    if r3 = 0 then
      some ((-2147483648), h3)
    else
      bnd (f_M_lacks x1 x2 x3 h3) fun r5 h5 =>
      if r5 ≤ 0 then
        chk 192 ((48 * x1) + x3) <|
        some (h5 44 (ix ((48 * x1) + x3)), h5)
      else
        some ((-2147483648), hset h5 31 24 r5)
def l_M_copy_157 : Nat → Int32 → Int32 → Int32 → Int32 → Hp → Option (Int32 × Hp)
  | 0, _, _, _, _, _ => none
  | n + 1, x3, x4, x5, x6, h =>
    if x5 ≤ x6 then
      some (1, h)
    else
      chk 48 x6 <|
      chk 192 (((48 * x3) + x4) + x6) <|
      (l_M_copy_157 n) x3 x4 x5 (x6 + 1) (hset h 44 (ix (((48 * x3) + x4) + x6)) (h 45 (ix x6)))
def l_M_copy_120 : Nat → Int32 → Int32 → Int32 → Int32 → Int32 → Int32 → Hp → Option (Int32 × Hp)
  | 0, _, _, _, _, _, _, _ => none
  | n + 1, x1, x2, x3, x4, x5, x6, h =>
    if x5 ≤ x6 then
      l_M_copy_157 FUEL x3 x4 x5 0 h
    else
      chk 192 (((48 * x1) + x2) + x6) <|
      chk 48 x6 <|
      (l_M_copy_120 n) x1 x2 x3 x4 x5 (x6 + 1) (hset h 45 (ix x6) (h 44 (ix (((48 * x1) + x2) + x6))))
def f_M_copy (x1 : Int32) (x2 : Int32) (x3 : Int32) (x4 : Int32) (x5 : Int32) (h : Hp) : Option (Int32 × Hp) :=
  bnd (f_M_isSheet x1 h) fun r1 h1 =>
  if r1 = 0 then
    some ((-2), h1)
  else
    bnd (f_M_isSheet x3 h1) fun r3 h3 =>
    if r3 = 0 then
      some ((-2), h3)
    else
      chk 4 x1 <|
      if (h3 41 (ix x1)) = 0 then
        bnd (f_M_meets 1 h3) fun r6 h6 =>
        some (r6, h6)
      else
        chk 4 x3 <|
        if (h3 41 (ix x3)) = 0 then
          bnd (f_M_meets 1 h3) fun r8 h8 =>
          some (r8, h8)
        else
          chk 4 x1 <|
          chk 4 x3 <|
          if (h3 42 (ix x1)) = (h3 42 (ix x3)) then
            if x2 < 0 then
              bnd (f_M_meets 2 h3) fun r11 h11 =>
              some (r11, h11)
            else
              if x4 < 0 then
                bnd (f_M_meets 2 h3) fun r13 h13 =>
                some (r13, h13)
              else
                if x5 < 0 then
                  bnd (f_M_meets 2 h3) fun r15 h15 =>
                  some (r15, h15)
                else
                  chk 4 x1 <|
                  if 0 < (lg_cmp ((Int32.toInt64 x2) + (Int32.toInt64 x5)) (Int32.toInt64 (h3 43 (ix x1)))) then
                    bnd (f_M_meets 2 h3) fun r17 h17 =>
                    some (r17, h17)
                  else
                    chk 4 x3 <|
                    if (lg_cmp ((Int32.toInt64 x4) + (Int32.toInt64 x5)) (Int32.toInt64 (h3 43 (ix x3)))) ≤ 0 then
                      l_M_copy_120 FUEL x1 x2 x3 x4 x5 0 h3
                    else
                      bnd (f_M_meets 2 h3) fun r21 h21 =>
                      some (r21, h21)
          else
            bnd (f_M_meets 4 h3) fun r22 h22 =>
            some (r22, h22)
def l_M_write_58 : Nat → Int32 → Int32 → Hp → Option (Int32 × Hp)
  | 0, _, _, _ => none
  | n + 1, x3, x4, h =>
    chk 4 x3 <|
    if (h 43 (ix x3)) ≤ x4 then
      some (x4, h)
    else
      if (h 31 10) ≤ x4 then
        some (x4, h)
      else
        chk 11 x4 <|
        bnd (f_M_keep x3 x4 (h 35 (ix x4)) h) fun _ h12 =>
        (l_M_write_58 n) x3 (x4 + 1) h12
def f_M_write (x1 : Int32) (x2 : Int32) (x3 : Int32) (h : Hp) : Option (Int32 × Hp) :=
  bnd (f_M_isWeb x1 x2 h) fun r1 h1 =>
  if r1 = 0 then
    some ((-2), h1)
  else
    bnd (f_M_isSheet x3 h1) fun r3 h3 =>
    if r3 = 0 then
      some ((-2), h3)
    else
      chk 4 x3 <|
      if (h3 41 (ix x3)) = 0 then
        bnd (f_M_meets 1 h3) fun r6 h6 =>
        some (r6, h6)
      else
        bnd (f_M_isHidden x1 h3) fun r7 h7 =>
        if r7 = 0 then
          bnd (f_M_lays x1 x2 (h7 31 5) h7) fun _ h9 =>
          l_M_write_58 FUEL x3 0 h9
        else
          some ((-3), h7)
def l_M_sumOf_43 (K10 : Int32 → Int32 → Int32 → Hp → Option (Int32 × Hp)) : Nat → Int32 → Int32 → Int32 → Int32 → Hp → Option (Int32 × Hp)
  | 0, _, _, _, _, _ => none
  | n + 1, x1, x3, x4, x5, h =>
    if x4 ≤ x5 then
      K10 x1 x3 (x4 + 1) h
    else
      if x1 = 7 then
        bnd (f_M_farOf x4 x5 h) fun r7 h7 =>
        (l_M_sumOf_43 K10 n) x1 (x3 + r7) x4 (x5 + 1) h7
      else
        K10 x1 x3 (x4 + 1) h
def l_M_sumOf_10 : Nat → Int32 → Int32 → Int32 → Hp → Option (Int32 × Hp)
  | 0, _, _, _, _ => none
  | n + 1, x1, x3, x4, h =>
    if (h 31 2) ≤ x4 then
      if x1 = 0 then
        some (h 31 2, h)
      else
        some (x3, h)
    else
      if x1 = 2 then
        l_M_sumOf_43 (l_M_sumOf_10 n) FUEL x1 (x3 + (((h 31 5) >>> (x4 &&& 31)) &&& 1)) x4 0 h
      else
        l_M_sumOf_43 (l_M_sumOf_10 n) FUEL x1 (x3 + 0) x4 0 h
def f_M_sumOf (x1 : Int32) (h : Hp) : Option (Int32 × Hp) :=
  bnd (f_M_faultNow h) fun r1 h1 =>
  l_M_sumOf_10 FUEL x1 0 0 h1
def f_M_count (x1 : Int32) (h : Hp) : Option (Int32 × Hp) :=
  if x1 = 0 then
    bnd (f_M_sumOf x1 h) fun r2 h2 =>
    some (r2, h2)
  else
    if x1 = 1 then
      some (h 31 1, h)
    else
      if x1 = 2 then
        bnd (f_M_sumOf x1 h) fun r5 h5 =>
        some (r5, h5)
      else
        if x1 = 3 then
          some (h 31 6, h)
        else
          if x1 = 4 then
            some (h 31 7, h)
          else
            if x1 = 5 then
              some (h 31 8, h)
            else
              if x1 = 6 then
                some (h 31 14, h)
              else
                if x1 = 7 then
                  bnd (f_M_sumOf x1 h) fun r11 h11 =>
                  some (r11, h11)
                else
                  if x1 = 8 then
                    some (h 31 24, h)
                  else
                    some ((-2), h)
def l_M_digest_263 : Nat → Int64 → Int32 → Hp → Option (Int64 × Hp)
  | 0, _, _, _ => none
  | n + 1, l1, x3, h =>
    if 3 ≤ x3 then
      bnd (f_M_more 0 0 5 5 h) fun r8 h8 =>
      bnd (f_M_fitsNow h8) fun r9 h9 =>
      bnd (f_M_tellsNow h9) fun r10 h10 =>
      some ((31 * ((31 * ((31 * l1) + (Int32.toInt64 r8))) + (Int32.toInt64 r9))) + (Int32.toInt64 r10), h10)
    else
      bnd (f_M_two 0 0 1 1 x3 h) fun r11 h11 =>
      (l_M_digest_263 n) ((31 * l1) + (Int32.toInt64 r11)) (x3 + 1) h11
def l_M_digest_205 : Nat → Int64 → Int32 → Hp → Option (Int64 × Hp)
  | 0, _, _, _ => none
  | n + 1, l1, x3, h =>
    if 4 ≤ x3 then
      bnd (f_M_last 0 0 1 0 h) fun r5 h5 =>
      bnd (f_M_last 0 0 1 1 h5) fun r6 h6 =>
      l_M_digest_263 FUEL ((31 * ((31 * l1) + (Int32.toInt64 r5))) + (Int32.toInt64 r6)) 0 h6
    else
      bnd (f_M_beginOf x3 h) fun r12 h12 =>
      (l_M_digest_205 n) ((31 * l1) + (Int32.toInt64 r12)) (x3 + 1) h12
def l_M_digest_65 (K45 : Int64 → Int32 → Hp → Option (Int64 × Hp)) (K56 : Int64 → Int32 → Int32 → Hp → Option (Int64 × Hp)) : Nat → Int64 → Int32 → Int32 → Int32 → Hp → Option (Int64 × Hp)
  | 0, _, _, _, _, _ => none
  | n + 1, l1, x3, x4, x5, h =>
    if 3 ≤ x5 then
      bnd (f_M_crossesOf x3 x4 h) fun r15 h15 =>
      bnd (f_M_turnedOf x3 x4 h15) fun r16 h16 =>
      bnd (f_M_webOf x3 x4 1 h16) fun r17 h17 =>
      bnd (f_M_hangsOf x3 x4 0 h17) fun r18 h18 =>
      bnd (f_M_pieces x3 x4 1 h18) fun r19 h19 =>
      bnd (f_M_fliesOf x3 x4 7 9 h19) fun r20 h20 =>
      K56 ((31 * ((31 * ((31 * ((31 * ((31 * ((31 * l1) + (Int32.toInt64 r15))) + (Int32.toInt64 r16))) + (Int32.toInt64 r17))) + (Int32.toInt64 r18))) + (Int32.toInt64 r19))) + (Int32.toInt64 r20)) x3 (x4 + 1) h20
    else
      bnd (f_M_lengthOf x3 x4 x5 h) fun r21 h21 =>
      (l_M_digest_65 K45 K56 n) ((31 * l1) + (Int32.toInt64 r21)) x3 x4 (x5 + 1) h21
def l_M_digest_56 (K45 : Int64 → Int32 → Hp → Option (Int64 × Hp)) : Nat → Int64 → Int32 → Int32 → Hp → Option (Int64 × Hp)
  | 0, _, _, _, _ => none
  | n + 1, l1, x3, x4, h =>
    if 4 ≤ x4 then
      K45 l1 (x3 + 1) h
    else
      l_M_digest_65 K45 (l_M_digest_56 K45 n) FUEL l1 x3 x4 0 h
def l_M_digest_45 : Nat → Int64 → Int32 → Hp → Option (Int64 × Hp)
  | 0, _, _, _ => none
  | n + 1, l1, x3, h =>
    if (h 31 2) ≤ x3 then
      l_M_digest_205 FUEL l1 0 h
    else
      l_M_digest_56 (l_M_digest_45 n) FUEL l1 x3 0 h
def l_M_digest_6 : Nat → Int64 → Int32 → Hp → Option (Int64 × Hp)
  | 0, _, _, _ => none
  | n + 1, l1, x3, h =>
    if 8 ≤ x3 then
      bnd (f_M_faultNow h) fun r2 h2 =>
      l_M_digest_45 FUEL ((31 * l1) + (Int32.toInt64 r2)) 0 h2
    else
      bnd (f_M_count x3 h) fun r22 h22 =>
      (l_M_digest_6 n) ((31 * l1) + (Int32.toInt64 r22)) (x3 + 1) h22
def f_M_digest (h : Hp) : Option (Int64 × Hp) :=
  l_M_digest_6 FUEL 17 0 h
end
section
/-- lay answers the spider that it was given -/
theorem lay_ret_l : ∀ (n : Nat) (a1 a2 : Nat) (x4 x6 x7 : Int32) (h : Hp) (r : Nat) (h1 : Hp), l_C_lay_31 n a1 a2 x4 x6 x7 h = some (r, h1) → r = a1 := by
  intro n
  induction n with
  | zero => intro a1 a2 x4 x6 x7 h r h1 e; cases e
  | succ n ih =>
    intro a1 a2 x4 x6 x7 h r h1 e
    rw [l_C_lay_31] at e
    split at e
    · cases e; rfl
    · obtain ⟨_, _, _, e⟩ := bnd_inv e
      obtain ⟨_, _, _, e⟩ := bnd_inv e
      split at e
      · cases e; rfl
      · obtain ⟨_, _, _, e⟩ := bnd_inv e
        obtain ⟨_, _, _, e⟩ := bnd_inv e
        obtain ⟨_, _, _, e⟩ := bnd_inv e
        split at e
        · cases e; rfl
        · exact ih _ _ _ _ _ _ _ _ e
theorem lay_ret {a1 a2 : Nat} {x3 x4 x5 : Int32} {h h1 : Hp} {r : Nat} (e : f_C_lay a1 a2 x3 x4 x5 h = some (r, h1)) : r = a1 := by
  unfold f_C_lay at e
  obtain ⟨_, _, _, e⟩ := bnd_inv e
  obtain ⟨_, _, _, e⟩ := bnd_inv e
  exact lay_ret_l _ _ _ _ _ _ _ _ _ e
theorem lay_isO {a1 a2 : Nat} {x3 x4 x5 : Int32} {h h1 : Hp} {r : Nat} (ha : isO 3 a1) (e : f_C_lay a1 a2 x3 x4 x5 h = some (r, h1)) : isO 3 r := by
  rw [lay_ret e]; exact ha
end
section
theorem d_Tx_append_0 : decode m_Tx_append.2.1 0 = .ok (.aload_n 0, 1) := by decide +kernel
theorem d_Tx_append_1 : decode m_Tx_append.2.1 1 = .ok (.getfield 15, 3) := by decide +kernel
theorem d_Tx_append_4 : decode m_Tx_append.2.1 4 = .ok (.bipush 40, 2) := by decide +kernel
theorem d_Tx_append_6 : decode m_Tx_append.2.1 6 = .ok (.if_icmp .ge 23, 3) := by decide +kernel
theorem d_Tx_append_9 : decode m_Tx_append.2.1 9 = .ok (.aload_n 0, 1) := by decide +kernel
theorem d_Tx_append_10 : decode m_Tx_append.2.1 10 = .ok (.getfield 9, 3) := by decide +kernel
theorem d_Tx_append_13 : decode m_Tx_append.2.1 13 = .ok (.aload_n 0, 1) := by decide +kernel
theorem d_Tx_append_14 : decode m_Tx_append.2.1 14 = .ok (.getfield 15, 3) := by decide +kernel
theorem d_Tx_append_17 : decode m_Tx_append.2.1 17 = .ok (.iload_n 1, 1) := by decide +kernel
theorem d_Tx_append_18 : decode m_Tx_append.2.1 18 = .ok (.iastore, 1) := by decide +kernel
theorem d_Tx_append_19 : decode m_Tx_append.2.1 19 = .ok (.aload_n 0, 1) := by decide +kernel
theorem d_Tx_append_20 : decode m_Tx_append.2.1 20 = .ok (.dup, 1) := by decide +kernel
theorem d_Tx_append_21 : decode m_Tx_append.2.1 21 = .ok (.getfield 15, 3) := by decide +kernel
theorem d_Tx_append_24 : decode m_Tx_append.2.1 24 = .ok (.iconst 1, 1) := by decide +kernel
theorem d_Tx_append_25 : decode m_Tx_append.2.1 25 = .ok (.iadd, 1) := by decide +kernel
theorem d_Tx_append_26 : decode m_Tx_append.2.1 26 = .ok (.putfield 15, 3) := by decide +kernel
theorem d_Tx_append_29 : decode m_Tx_append.2.1 29 = .ok (.return_, 1) := by decide +kernel
set_option maxHeartbeats 4000000 in
set_option maxRecDepth 20000 in
theorem c_Tx_append (G : Gt) (a0 : Nat) (x1 : Int32) (ha0 : isO 4 a0) (h : Hp) : Cn G m_Tx_append [.ref (ad G a0), .int x1] h κv (f_Tx_append a0 x1 h) := by
  refine entryV (by decide) (Nat.le_of_ble_eq_true rfl) rfl ?_
  show V G m_Tx_append 0 [(0, .ref (ad G a0)), (1, .int x1)] [] h κv _
  unfold f_Tx_append
  refine v_aload_n 0 d_Tx_append_0 rfl rfl ?_
  refine v_geti fl_Tx_15 ha0 rfl d_Tx_append_1 ?_
  refine v_bipush 40 d_Tx_append_4 rfl ?_
  refine v_icmp_ge 29 d_Tx_append_6 (by decide) (fun c1 => ?_) (fun c1 => ?_)
  · exact v_vret rfl d_Tx_append_29
  · refine v_aload_n 0 d_Tx_append_9 rfl rfl ?_
    refine v_getr (a0 + 1) fl_Tx_9 ha0 rfl rfl d_Tx_append_10 ?_
    refine v_aload_n 0 d_Tx_append_13 rfl rfl ?_
    refine v_geti fl_Tx_15 ha0 rfl d_Tx_append_14 ?_
    refine v_iload_n 1 d_Tx_append_17 rfl rfl ?_
    refine v_iast (txA ha0) d_Tx_append_18 ?_
    refine v_aload_n 0 d_Tx_append_19 rfl rfl ?_
    refine v_dup d_Tx_append_20 rfl ?_
    refine v_geti fl_Tx_15 ha0 rfl d_Tx_append_21 ?_
    refine v_iconst 1 d_Tx_append_24 rfl ?_
    refine v_iadd d_Tx_append_25 ?_
    refine v_puti fl_Tx_15 ft_4_1 rfl rfl ha0 rfl d_Tx_append_26 ?_
    exact v_vret rfl d_Tx_append_29
theorem d_Fr_isTaken_0 : decode m_Fr_isTaken.2.1 0 = .ok (.iconst 0, 1) := by decide +kernel
theorem d_Fr_isTaken_1 : decode m_Fr_isTaken.2.1 1 = .ok (.istore_n 3, 1) := by decide +kernel
theorem d_Fr_isTaken_2 : decode m_Fr_isTaken.2.1 2 = .ok (.iload_n 3, 1) := by decide +kernel
theorem d_Fr_isTaken_3 : decode m_Fr_isTaken.2.1 3 = .ok (.aload_n 0, 1) := by decide +kernel
theorem d_Fr_isTaken_4 : decode m_Fr_isTaken.2.1 4 = .ok (.getfield 18, 3) := by decide +kernel
theorem d_Fr_isTaken_7 : decode m_Fr_isTaken.2.1 7 = .ok (.if_icmp .ge 31, 3) := by decide +kernel
theorem d_Fr_isTaken_10 : decode m_Fr_isTaken.2.1 10 = .ok (.aload_n 0, 1) := by decide +kernel
theorem d_Fr_isTaken_11 : decode m_Fr_isTaken.2.1 11 = .ok (.getfield 9, 3) := by decide +kernel
theorem d_Fr_isTaken_14 : decode m_Fr_isTaken.2.1 14 = .ok (.iload_n 3, 1) := by decide +kernel
theorem d_Fr_isTaken_15 : decode m_Fr_isTaken.2.1 15 = .ok (.iaload, 1) := by decide +kernel
theorem d_Fr_isTaken_16 : decode m_Fr_isTaken.2.1 16 = .ok (.iload_n 1, 1) := by decide +kernel
theorem d_Fr_isTaken_17 : decode m_Fr_isTaken.2.1 17 = .ok (.if_icmp .ne 15, 3) := by decide +kernel
theorem d_Fr_isTaken_20 : decode m_Fr_isTaken.2.1 20 = .ok (.aload_n 0, 1) := by decide +kernel
theorem d_Fr_isTaken_21 : decode m_Fr_isTaken.2.1 21 = .ok (.getfield 15, 3) := by decide +kernel
theorem d_Fr_isTaken_24 : decode m_Fr_isTaken.2.1 24 = .ok (.iload_n 3, 1) := by decide +kernel
theorem d_Fr_isTaken_25 : decode m_Fr_isTaken.2.1 25 = .ok (.iaload, 1) := by decide +kernel
theorem d_Fr_isTaken_26 : decode m_Fr_isTaken.2.1 26 = .ok (.iload_n 2, 1) := by decide +kernel
theorem d_Fr_isTaken_27 : decode m_Fr_isTaken.2.1 27 = .ok (.if_icmp .ne 5, 3) := by decide +kernel
theorem d_Fr_isTaken_30 : decode m_Fr_isTaken.2.1 30 = .ok (.iconst 1, 1) := by decide +kernel
theorem d_Fr_isTaken_31 : decode m_Fr_isTaken.2.1 31 = .ok (.ireturn, 1) := by decide +kernel
theorem d_Fr_isTaken_32 : decode m_Fr_isTaken.2.1 32 = .ok (.iinc 3 1, 3) := by decide +kernel
theorem d_Fr_isTaken_35 : decode m_Fr_isTaken.2.1 35 = .ok (.goto (-33), 3) := by decide +kernel
theorem d_Fr_isTaken_38 : decode m_Fr_isTaken.2.1 38 = .ok (.iconst 0, 1) := by decide +kernel
theorem d_Fr_isTaken_39 : decode m_Fr_isTaken.2.1 39 = .ok (.ireturn, 1) := by decide +kernel
set_option maxHeartbeats 4000000 in
set_option maxRecDepth 20000 in
theorem Vl_Fr_isTaken_2 (G : Gt) : ∀ (n : Nat) (a0 : Nat) (x1 : Int32) (x2 : Int32) (x3 : Int32) (ha0 : isO 0 a0) (h : Hp), V G m_Fr_isTaken 2 [(0, .ref (ad G a0)), (1, .int x1), (2, .int x2), (3, .int x3)] [] h κi (l_Fr_isTaken_2 n a0 x1 x2 x3 h) := by
  intro n
  induction n with
  | zero => intros; exact v_none
  | succ n ih =>
    intro a0 x1 x2 x3 ha0 h
    rw [l_Fr_isTaken_2]
    refine v_iload_n 3 d_Fr_isTaken_2 rfl rfl ?_
    refine v_aload_n 0 d_Fr_isTaken_3 rfl rfl ?_
    refine v_geti fl_Fr_18 ha0 rfl d_Fr_isTaken_4 ?_
    refine v_icmp_ge 38 d_Fr_isTaken_7 (by decide) (fun c1 => ?_) (fun c1 => ?_)
    · refine v_iconst 0 d_Fr_isTaken_38 rfl ?_
      exact v_zretL rfl rfl d_Fr_isTaken_39
    · refine v_aload_n 0 d_Fr_isTaken_10 rfl rfl ?_
      refine v_getr (a0 + 1) fl_Fr_9 ha0 rfl rfl d_Fr_isTaken_11 ?_
      refine v_iload_n 3 d_Fr_isTaken_14 rfl rfl ?_
      refine v_iald ((frA ha0).1) d_Fr_isTaken_15 ?_
      refine v_iload_n 1 d_Fr_isTaken_16 rfl rfl ?_
      refine v_icmp_ne 32 d_Fr_isTaken_17 (by decide) (fun c2 => ?_) (fun c2 => ?_)
      · refine v_aload_n 0 d_Fr_isTaken_20 rfl rfl ?_
        refine v_getr (a0 + 2) fl_Fr_15 ha0 rfl rfl d_Fr_isTaken_21 ?_
        refine v_iload_n 3 d_Fr_isTaken_24 rfl rfl ?_
        refine v_iald ((frA ha0).2) d_Fr_isTaken_25 ?_
        refine v_iload_n 2 d_Fr_isTaken_26 rfl rfl ?_
        refine v_icmp_ne 32 d_Fr_isTaken_27 (by decide) (fun c3 => ?_) (fun c3 => ?_)
        · refine v_iconst 1 d_Fr_isTaken_30 rfl ?_
          exact v_zretL rfl rfl d_Fr_isTaken_31
        · refine v_iinc (x3 + 1) 3 [(3, .int (x3 + 1)), (0, .ref (ad G a0)), (1, .int x1), (2, .int x2)] d_Fr_isTaken_32 rfl rfl (by decide) rfl ?_
          refine v_goto 2 d_Fr_isTaken_35 (by decide) ?_
          exact v_sub [1, 2, 3, 0] rfl (ih a0 x1 x2 (x3 + 1) ha0 h)
      · refine v_iinc (x3 + 1) 3 [(3, .int (x3 + 1)), (0, .ref (ad G a0)), (1, .int x1), (2, .int x2)] d_Fr_isTaken_32 rfl rfl (by decide) rfl ?_
        refine v_goto 2 d_Fr_isTaken_35 (by decide) ?_
        exact v_sub [1, 2, 3, 0] rfl (ih a0 x1 x2 (x3 + 1) ha0 h)
set_option maxHeartbeats 4000000 in
set_option maxRecDepth 20000 in
theorem c_Fr_isTaken (G : Gt) (a0 : Nat) (x1 : Int32) (x2 : Int32) (ha0 : isO 0 a0) (h : Hp) : Cn G m_Fr_isTaken [.ref (ad G a0), .int x1, .int x2] h κi (f_Fr_isTaken a0 x1 x2 h) := by
  refine entryV (by decide) (Nat.le_of_ble_eq_true rfl) rfl ?_
  show V G m_Fr_isTaken 0 [(0, .ref (ad G a0)), (1, .int x1), (2, .int x2)] [] h κi _
  unfold f_Fr_isTaken
  refine v_iconst 0 d_Fr_isTaken_0 rfl ?_
  refine v_istore_n [(3, .int 0), (0, .ref (ad G a0)), (1, .int x1), (2, .int x2)] d_Fr_isTaken_1 rfl (by decide) rfl ?_
  exact v_sub [1, 2, 3, 0] rfl (Vl_Fr_isTaken_2 G FUEL a0 x1 x2 0 ha0 h)
theorem d_Tx_goesOn_0 : decode m_Tx_goesOn.2.1 0 = .ok (.aload_n 0, 1) := by decide +kernel
theorem d_Tx_goesOn_1 : decode m_Tx_goesOn.2.1 1 = .ok (.getfield 9, 3) := by decide +kernel
theorem d_Tx_goesOn_4 : decode m_Tx_goesOn.2.1 4 = .ok (.iload_n 2, 1) := by decide +kernel
theorem d_Tx_goesOn_5 : decode m_Tx_goesOn.2.1 5 = .ok (.iaload, 1) := by decide +kernel
theorem d_Tx_goesOn_6 : decode m_Tx_goesOn.2.1 6 = .ok (.istore_n 3, 1) := by decide +kernel
theorem d_Tx_goesOn_7 : decode m_Tx_goesOn.2.1 7 = .ok (.iload_n 2, 1) := by decide +kernel
theorem d_Tx_goesOn_8 : decode m_Tx_goesOn.2.1 8 = .ok (.iconst 3, 1) := by decide +kernel
theorem d_Tx_goesOn_9 : decode m_Tx_goesOn.2.1 9 = .ok (.irem, 1) := by decide +kernel
theorem d_Tx_goesOn_10 : decode m_Tx_goesOn.2.1 10 = .ok (.iconst 2, 1) := by decide +kernel
theorem d_Tx_goesOn_11 : decode m_Tx_goesOn.2.1 11 = .ok (.if_icmp .ne 15, 3) := by decide +kernel
theorem d_Tx_goesOn_14 : decode m_Tx_goesOn.2.1 14 = .ok (.iload_n 3, 1) := by decide +kernel
theorem d_Tx_goesOn_15 : decode m_Tx_goesOn.2.1 15 = .ok (.bipush 59, 2) := by decide +kernel
theorem d_Tx_goesOn_17 : decode m_Tx_goesOn.2.1 17 = .ok (.if_icmp .ne 7, 3) := by decide +kernel
theorem d_Tx_goesOn_20 : decode m_Tx_goesOn.2.1 20 = .ok (.iconst 1, 1) := by decide +kernel
theorem d_Tx_goesOn_21 : decode m_Tx_goesOn.2.1 21 = .ok (.goto 4, 3) := by decide +kernel
theorem d_Tx_goesOn_24 : decode m_Tx_goesOn.2.1 24 = .ok (.iconst 0, 1) := by decide +kernel
theorem d_Tx_goesOn_25 : decode m_Tx_goesOn.2.1 25 = .ok (.ireturn, 1) := by decide +kernel
theorem d_Tx_goesOn_26 : decode m_Tx_goesOn.2.1 26 = .ok (.iload_n 3, 1) := by decide +kernel
theorem d_Tx_goesOn_27 : decode m_Tx_goesOn.2.1 27 = .ok (.bipush 48, 2) := by decide +kernel
theorem d_Tx_goesOn_29 : decode m_Tx_goesOn.2.1 29 = .ok (.if_icmp .lt 18, 3) := by decide +kernel
theorem d_Tx_goesOn_32 : decode m_Tx_goesOn.2.1 32 = .ok (.iload_n 3, 1) := by decide +kernel
theorem d_Tx_goesOn_33 : decode m_Tx_goesOn.2.1 33 = .ok (.bipush 57, 2) := by decide +kernel
theorem d_Tx_goesOn_35 : decode m_Tx_goesOn.2.1 35 = .ok (.if_icmp .gt 12, 3) := by decide +kernel
theorem d_Tx_goesOn_38 : decode m_Tx_goesOn.2.1 38 = .ok (.aload_n 1, 1) := by decide +kernel
theorem d_Tx_goesOn_39 : decode m_Tx_goesOn.2.1 39 = .ok (.getfield 19, 3) := by decide +kernel
theorem d_Tx_goesOn_42 : decode m_Tx_goesOn.2.1 42 = .ok (.bipush 10, 2) := by decide +kernel
theorem d_Tx_goesOn_44 : decode m_Tx_goesOn.2.1 44 = .ok (.if_icmp .lt 5, 3) := by decide +kernel
theorem d_Tx_goesOn_47 : decode m_Tx_goesOn.2.1 47 = .ok (.iconst 0, 1) := by decide +kernel
theorem d_Tx_goesOn_48 : decode m_Tx_goesOn.2.1 48 = .ok (.ireturn, 1) := by decide +kernel
theorem d_Tx_goesOn_49 : decode m_Tx_goesOn.2.1 49 = .ok (.iload_n 2, 1) := by decide +kernel
theorem d_Tx_goesOn_50 : decode m_Tx_goesOn.2.1 50 = .ok (.iconst 3, 1) := by decide +kernel
theorem d_Tx_goesOn_51 : decode m_Tx_goesOn.2.1 51 = .ok (.irem, 1) := by decide +kernel
theorem d_Tx_goesOn_52 : decode m_Tx_goesOn.2.1 52 = .ok (.ifCond .eq 25, 3) := by decide +kernel
theorem d_Tx_goesOn_55 : decode m_Tx_goesOn.2.1 55 = .ok (.aload_n 1, 1) := by decide +kernel
theorem d_Tx_goesOn_56 : decode m_Tx_goesOn.2.1 56 = .ok (.aload_n 0, 1) := by decide +kernel
theorem d_Tx_goesOn_57 : decode m_Tx_goesOn.2.1 57 = .ok (.getfield 9, 3) := by decide +kernel
theorem d_Tx_goesOn_60 : decode m_Tx_goesOn.2.1 60 = .ok (.iload_n 2, 1) := by decide +kernel
theorem d_Tx_goesOn_61 : decode m_Tx_goesOn.2.1 61 = .ok (.iconst 1, 1) := by decide +kernel
theorem d_Tx_goesOn_62 : decode m_Tx_goesOn.2.1 62 = .ok (.isub, 1) := by decide +kernel
theorem d_Tx_goesOn_63 : decode m_Tx_goesOn.2.1 63 = .ok (.iaload, 1) := by decide +kernel
theorem d_Tx_goesOn_64 : decode m_Tx_goesOn.2.1 64 = .ok (.bipush 48, 2) := by decide +kernel
theorem d_Tx_goesOn_66 : decode m_Tx_goesOn.2.1 66 = .ok (.isub, 1) := by decide +kernel
theorem d_Tx_goesOn_67 : decode m_Tx_goesOn.2.1 67 = .ok (.iload_n 3, 1) := by decide +kernel
theorem d_Tx_goesOn_68 : decode m_Tx_goesOn.2.1 68 = .ok (.bipush 48, 2) := by decide +kernel
theorem d_Tx_goesOn_70 : decode m_Tx_goesOn.2.1 70 = .ok (.isub, 1) := by decide +kernel
theorem d_Tx_goesOn_71 : decode m_Tx_goesOn.2.1 71 = .ok (.invokevirtual 30, 3) := by decide +kernel
theorem d_Tx_goesOn_74 : decode m_Tx_goesOn.2.1 74 = .ok (.ifCond .ne 7, 3) := by decide +kernel
theorem d_Tx_goesOn_77 : decode m_Tx_goesOn.2.1 77 = .ok (.iconst 1, 1) := by decide +kernel
theorem d_Tx_goesOn_78 : decode m_Tx_goesOn.2.1 78 = .ok (.goto 4, 3) := by decide +kernel
theorem d_Tx_goesOn_81 : decode m_Tx_goesOn.2.1 81 = .ok (.iconst 0, 1) := by decide +kernel
theorem d_Tx_goesOn_82 : decode m_Tx_goesOn.2.1 82 = .ok (.ireturn, 1) := by decide +kernel
set_option maxHeartbeats 4000000 in
set_option maxRecDepth 20000 in
theorem c_Tx_goesOn (G : Gt) (a0 : Nat) (a1 : Nat) (x2 : Int32) (ha0 : isO 4 a0) (ha1 : isO 0 a1) (h : Hp) : Cn G m_Tx_goesOn [.ref (ad G a0), .ref (ad G a1), .int x2] h κi (f_Tx_goesOn a0 a1 x2 h) := by
  refine entryV (by decide) (Nat.le_of_ble_eq_true rfl) rfl ?_
  show V G m_Tx_goesOn 0 [(0, .ref (ad G a0)), (1, .ref (ad G a1)), (2, .int x2)] [] h κi _
  unfold f_Tx_goesOn
  refine v_aload_n 0 d_Tx_goesOn_0 rfl rfl ?_
  refine v_getr (a0 + 1) fl_Tx_9 ha0 rfl rfl d_Tx_goesOn_1 ?_
  refine v_iload_n 2 d_Tx_goesOn_4 rfl rfl ?_
  refine v_iald (txA ha0) d_Tx_goesOn_5 ?_
  refine v_istore_n [(3, .int (h (a0 + 1) (ix x2))), (0, .ref (ad G a0)), (1, .ref (ad G a1)), (2, .int x2)] d_Tx_goesOn_6 rfl (by decide) rfl ?_
  refine v_iload_n 3 d_Tx_goesOn_7 rfl rfl ?_
  refine v_iconst 3 d_Tx_goesOn_8 rfl ?_
  refine v_irem (by decide) d_Tx_goesOn_9 ?_
  refine v_iconst 2 d_Tx_goesOn_10 rfl ?_
  refine v_icmp_ne 26 d_Tx_goesOn_11 (by decide) (fun c1 => ?_) (fun c1 => ?_)
  · refine v_iload_n 0 d_Tx_goesOn_14 rfl rfl ?_
    refine v_bipush 59 d_Tx_goesOn_15 rfl ?_
    refine v_icmp_ne 24 d_Tx_goesOn_17 (by decide) (fun c2 => ?_) (fun c2 => ?_)
    · refine v_iconst 1 d_Tx_goesOn_20 rfl ?_
      refine v_goto 25 d_Tx_goesOn_21 (by decide) ?_
      exact v_zretL rfl rfl d_Tx_goesOn_25
    · refine v_iconst 0 d_Tx_goesOn_24 rfl ?_
      exact v_zretL rfl rfl d_Tx_goesOn_25
  · refine v_iload_n 0 d_Tx_goesOn_26 rfl rfl ?_
    refine v_bipush 48 d_Tx_goesOn_27 rfl ?_
    refine v_icmp_lt 47 d_Tx_goesOn_29 (by decide) (fun c3 => ?_) (fun c3 => ?_)
    · refine v_iconst 0 d_Tx_goesOn_47 rfl ?_
      exact v_zretL rfl rfl d_Tx_goesOn_48
    · refine v_iload_n 0 d_Tx_goesOn_32 rfl rfl ?_
      refine v_bipush 57 d_Tx_goesOn_33 rfl ?_
      refine v_icmp_gt 47 d_Tx_goesOn_35 (by decide) (fun c4 => ?_) (fun c4 => ?_)
      · refine v_iconst 0 d_Tx_goesOn_47 rfl ?_
        exact v_zretL rfl rfl d_Tx_goesOn_48
      · refine v_aload_n 2 d_Tx_goesOn_38 rfl rfl ?_
        refine v_geti fl_Tx_19 ha1 rfl d_Tx_goesOn_39 ?_
        refine v_bipush 10 d_Tx_goesOn_42 rfl ?_
        refine v_icmp_lt 49 d_Tx_goesOn_44 (by decide) (fun c5 => ?_) (fun c5 => ?_)
        · refine v_iload_n 3 d_Tx_goesOn_49 rfl rfl ?_
          refine v_iconst 3 d_Tx_goesOn_50 rfl ?_
          refine v_irem (by decide) d_Tx_goesOn_51 ?_
          refine v_if_eq 77 d_Tx_goesOn_52 (by decide) (fun c6 => ?_) (fun c6 => ?_)
          · refine v_iconst 1 d_Tx_goesOn_77 rfl ?_
            refine v_goto 82 d_Tx_goesOn_78 (by decide) ?_
            exact v_zretL rfl rfl d_Tx_goesOn_82
          · refine v_aload_n 2 d_Tx_goesOn_55 rfl rfl ?_
            refine v_aload_n 1 d_Tx_goesOn_56 rfl rfl ?_
            refine v_getr (a0 + 1) fl_Tx_9 ha0 rfl rfl d_Tx_goesOn_57 ?_
            refine v_iload_n 3 d_Tx_goesOn_60 rfl rfl ?_
            refine v_iconst 1 d_Tx_goesOn_61 rfl ?_
            refine v_isub d_Tx_goesOn_62 ?_
            refine v_iald (txA ha0) d_Tx_goesOn_63 ?_
            refine v_bipush 48 d_Tx_goesOn_64 rfl ?_
            refine v_isub d_Tx_goesOn_66 ?_
            refine v_iload_n 0 d_Tx_goesOn_67 rfl rfl ?_
            refine v_bipush 48 d_Tx_goesOn_68 rfl ?_
            refine v_isub d_Tx_goesOn_70 ?_
            refine v_callVi (As := [.int ((h (a0 + 1) (ix (x2 - 1))) - 48), .int ((h (a0 + 1) (ix x2)) - 48)]) (rest := []) (c_Fr_isTaken G a1 ((h (a0 + 1) (ix (x2 - 1))) - 48) ((h (a0 + 1) (ix x2)) - 48) ha1 h) co_Tx_30 io_Fr_isTaken ha1 ⟨by decide, by decide⟩ rfl rfl (Nat.le_of_ble_eq_true rfl) d_Tx_goesOn_71 (fun r7 h7 _ => ?_)
            refine v_if_ne 81 d_Tx_goesOn_74 (by decide) (fun c8 => ?_) (fun c8 => ?_)
            · refine v_iconst 1 d_Tx_goesOn_77 rfl ?_
              refine v_goto 82 d_Tx_goesOn_78 (by decide) ?_
              exact v_zretL rfl rfl d_Tx_goesOn_82
            · refine v_iconst 0 d_Tx_goesOn_81 rfl ?_
              exact v_zretL rfl rfl d_Tx_goesOn_82
        · refine v_iconst 0 d_Tx_goesOn_47 rfl ?_
          exact v_zretL rfl rfl d_Tx_goesOn_48
theorem d_Fr_add_0 : decode m_Fr_add.2.1 0 = .ok (.aload_n 0, 1) := by decide +kernel
theorem d_Fr_add_1 : decode m_Fr_add.2.1 1 = .ok (.getfield 18, 3) := by decide +kernel
theorem d_Fr_add_4 : decode m_Fr_add.2.1 4 = .ok (.bipush 10, 2) := by decide +kernel
theorem d_Fr_add_6 : decode m_Fr_add.2.1 6 = .ok (.if_icmp .ge 33, 3) := by decide +kernel
theorem d_Fr_add_9 : decode m_Fr_add.2.1 9 = .ok (.aload_n 0, 1) := by decide +kernel
theorem d_Fr_add_10 : decode m_Fr_add.2.1 10 = .ok (.getfield 9, 3) := by decide +kernel
theorem d_Fr_add_13 : decode m_Fr_add.2.1 13 = .ok (.aload_n 0, 1) := by decide +kernel
theorem d_Fr_add_14 : decode m_Fr_add.2.1 14 = .ok (.getfield 18, 3) := by decide +kernel
theorem d_Fr_add_17 : decode m_Fr_add.2.1 17 = .ok (.iload_n 1, 1) := by decide +kernel
theorem d_Fr_add_18 : decode m_Fr_add.2.1 18 = .ok (.iastore, 1) := by decide +kernel
theorem d_Fr_add_19 : decode m_Fr_add.2.1 19 = .ok (.aload_n 0, 1) := by decide +kernel
theorem d_Fr_add_20 : decode m_Fr_add.2.1 20 = .ok (.getfield 15, 3) := by decide +kernel
theorem d_Fr_add_23 : decode m_Fr_add.2.1 23 = .ok (.aload_n 0, 1) := by decide +kernel
theorem d_Fr_add_24 : decode m_Fr_add.2.1 24 = .ok (.getfield 18, 3) := by decide +kernel
theorem d_Fr_add_27 : decode m_Fr_add.2.1 27 = .ok (.iload_n 2, 1) := by decide +kernel
theorem d_Fr_add_28 : decode m_Fr_add.2.1 28 = .ok (.iastore, 1) := by decide +kernel
theorem d_Fr_add_29 : decode m_Fr_add.2.1 29 = .ok (.aload_n 0, 1) := by decide +kernel
theorem d_Fr_add_30 : decode m_Fr_add.2.1 30 = .ok (.dup, 1) := by decide +kernel
theorem d_Fr_add_31 : decode m_Fr_add.2.1 31 = .ok (.getfield 18, 3) := by decide +kernel
theorem d_Fr_add_34 : decode m_Fr_add.2.1 34 = .ok (.iconst 1, 1) := by decide +kernel
theorem d_Fr_add_35 : decode m_Fr_add.2.1 35 = .ok (.iadd, 1) := by decide +kernel
theorem d_Fr_add_36 : decode m_Fr_add.2.1 36 = .ok (.putfield 18, 3) := by decide +kernel
theorem d_Fr_add_39 : decode m_Fr_add.2.1 39 = .ok (.return_, 1) := by decide +kernel
set_option maxHeartbeats 4000000 in
set_option maxRecDepth 20000 in
theorem c_Fr_add (G : Gt) (a0 : Nat) (x1 : Int32) (x2 : Int32) (ha0 : isO 0 a0) (h : Hp) : Cn G m_Fr_add [.ref (ad G a0), .int x1, .int x2] h κv (f_Fr_add a0 x1 x2 h) := by
  refine entryV (by decide) (Nat.le_of_ble_eq_true rfl) rfl ?_
  show V G m_Fr_add 0 [(0, .ref (ad G a0)), (1, .int x1), (2, .int x2)] [] h κv _
  unfold f_Fr_add
  refine v_aload_n 0 d_Fr_add_0 rfl rfl ?_
  refine v_geti fl_Fr_18 ha0 rfl d_Fr_add_1 ?_
  refine v_bipush 10 d_Fr_add_4 rfl ?_
  refine v_icmp_ge 39 d_Fr_add_6 (by decide) (fun c1 => ?_) (fun c1 => ?_)
  · exact v_vret rfl d_Fr_add_39
  · refine v_aload_n 0 d_Fr_add_9 rfl rfl ?_
    refine v_getr (a0 + 1) fl_Fr_9 ha0 rfl rfl d_Fr_add_10 ?_
    refine v_aload_n 0 d_Fr_add_13 rfl rfl ?_
    refine v_geti fl_Fr_18 ha0 rfl d_Fr_add_14 ?_
    refine v_iload_n 1 d_Fr_add_17 rfl rfl ?_
    refine v_iast ((frA ha0).1) d_Fr_add_18 ?_
    refine v_aload_n 0 d_Fr_add_19 rfl rfl ?_
    refine v_getr (a0 + 2) fl_Fr_15 ha0 rfl rfl d_Fr_add_20 ?_
    refine v_aload_n 0 d_Fr_add_23 rfl rfl ?_
    refine v_geti fl_Fr_18 ha0 rfl d_Fr_add_24 ?_
    refine v_iload_n 2 d_Fr_add_27 rfl rfl ?_
    refine v_iast ((frA ha0).2) d_Fr_add_28 ?_
    refine v_aload_n 0 d_Fr_add_29 rfl rfl ?_
    refine v_dup d_Fr_add_30 rfl ?_
    refine v_geti fl_Fr_18 ha0 rfl d_Fr_add_31 ?_
    refine v_iconst 1 d_Fr_add_34 rfl ?_
    refine v_iadd d_Fr_add_35 ?_
    refine v_puti fl_Fr_18 ft_0_2 rfl rfl ha0 rfl d_Fr_add_36 ?_
    exact v_vret rfl d_Fr_add_39
theorem d_Tx_pegsTo_0 : decode m_Tx_pegsTo.2.1 0 = .ok (.aload_n 1, 1) := by decide +kernel
theorem d_Tx_pegsTo_1 : decode m_Tx_pegsTo.2.1 1 = .ok (.iconst 0, 1) := by decide +kernel
theorem d_Tx_pegsTo_2 : decode m_Tx_pegsTo.2.1 2 = .ok (.putfield 19, 3) := by decide +kernel
theorem d_Tx_pegsTo_5 : decode m_Tx_pegsTo.2.1 5 = .ok (.iconst 0, 1) := by decide +kernel
theorem d_Tx_pegsTo_6 : decode m_Tx_pegsTo.2.1 6 = .ok (.istore_n 2, 1) := by decide +kernel
theorem d_Tx_pegsTo_7 : decode m_Tx_pegsTo.2.1 7 = .ok (.iload_n 2, 1) := by decide +kernel
theorem d_Tx_pegsTo_8 : decode m_Tx_pegsTo.2.1 8 = .ok (.aload_n 0, 1) := by decide +kernel
theorem d_Tx_pegsTo_9 : decode m_Tx_pegsTo.2.1 9 = .ok (.getfield 15, 3) := by decide +kernel
theorem d_Tx_pegsTo_12 : decode m_Tx_pegsTo.2.1 12 = .ok (.if_icmp .ge 49, 3) := by decide +kernel
theorem d_Tx_pegsTo_15 : decode m_Tx_pegsTo.2.1 15 = .ok (.aload_n 0, 1) := by decide +kernel
theorem d_Tx_pegsTo_16 : decode m_Tx_pegsTo.2.1 16 = .ok (.aload_n 1, 1) := by decide +kernel
theorem d_Tx_pegsTo_17 : decode m_Tx_pegsTo.2.1 17 = .ok (.iload_n 2, 1) := by decide +kernel
theorem d_Tx_pegsTo_18 : decode m_Tx_pegsTo.2.1 18 = .ok (.invokevirtual 22, 3) := by decide +kernel
theorem d_Tx_pegsTo_21 : decode m_Tx_pegsTo.2.1 21 = .ok (.ifCond .eq 40, 3) := by decide +kernel
theorem d_Tx_pegsTo_24 : decode m_Tx_pegsTo.2.1 24 = .ok (.iload_n 2, 1) := by decide +kernel
theorem d_Tx_pegsTo_25 : decode m_Tx_pegsTo.2.1 25 = .ok (.iconst 3, 1) := by decide +kernel
theorem d_Tx_pegsTo_26 : decode m_Tx_pegsTo.2.1 26 = .ok (.irem, 1) := by decide +kernel
theorem d_Tx_pegsTo_27 : decode m_Tx_pegsTo.2.1 27 = .ok (.iconst 1, 1) := by decide +kernel
theorem d_Tx_pegsTo_28 : decode m_Tx_pegsTo.2.1 28 = .ok (.if_icmp .ne 27, 3) := by decide +kernel
theorem d_Tx_pegsTo_31 : decode m_Tx_pegsTo.2.1 31 = .ok (.aload_n 1, 1) := by decide +kernel
theorem d_Tx_pegsTo_32 : decode m_Tx_pegsTo.2.1 32 = .ok (.aload_n 0, 1) := by decide +kernel
theorem d_Tx_pegsTo_33 : decode m_Tx_pegsTo.2.1 33 = .ok (.getfield 9, 3) := by decide +kernel
theorem d_Tx_pegsTo_36 : decode m_Tx_pegsTo.2.1 36 = .ok (.iload_n 2, 1) := by decide +kernel
theorem d_Tx_pegsTo_37 : decode m_Tx_pegsTo.2.1 37 = .ok (.iconst 1, 1) := by decide +kernel
theorem d_Tx_pegsTo_38 : decode m_Tx_pegsTo.2.1 38 = .ok (.isub, 1) := by decide +kernel
theorem d_Tx_pegsTo_39 : decode m_Tx_pegsTo.2.1 39 = .ok (.iaload, 1) := by decide +kernel
theorem d_Tx_pegsTo_40 : decode m_Tx_pegsTo.2.1 40 = .ok (.bipush 48, 2) := by decide +kernel
theorem d_Tx_pegsTo_42 : decode m_Tx_pegsTo.2.1 42 = .ok (.isub, 1) := by decide +kernel
theorem d_Tx_pegsTo_43 : decode m_Tx_pegsTo.2.1 43 = .ok (.aload_n 0, 1) := by decide +kernel
theorem d_Tx_pegsTo_44 : decode m_Tx_pegsTo.2.1 44 = .ok (.getfield 9, 3) := by decide +kernel
theorem d_Tx_pegsTo_47 : decode m_Tx_pegsTo.2.1 47 = .ok (.iload_n 2, 1) := by decide +kernel
theorem d_Tx_pegsTo_48 : decode m_Tx_pegsTo.2.1 48 = .ok (.iaload, 1) := by decide +kernel
theorem d_Tx_pegsTo_49 : decode m_Tx_pegsTo.2.1 49 = .ok (.bipush 48, 2) := by decide +kernel
theorem d_Tx_pegsTo_51 : decode m_Tx_pegsTo.2.1 51 = .ok (.isub, 1) := by decide +kernel
theorem d_Tx_pegsTo_52 : decode m_Tx_pegsTo.2.1 52 = .ok (.invokevirtual 26, 3) := by decide +kernel
theorem d_Tx_pegsTo_55 : decode m_Tx_pegsTo.2.1 55 = .ok (.iinc 2 1, 3) := by decide +kernel
theorem d_Tx_pegsTo_58 : decode m_Tx_pegsTo.2.1 58 = .ok (.goto (-51), 3) := by decide +kernel
theorem d_Tx_pegsTo_61 : decode m_Tx_pegsTo.2.1 61 = .ok (.iload_n 2, 1) := by decide +kernel
theorem d_Tx_pegsTo_62 : decode m_Tx_pegsTo.2.1 62 = .ok (.aload_n 0, 1) := by decide +kernel
theorem d_Tx_pegsTo_63 : decode m_Tx_pegsTo.2.1 63 = .ok (.getfield 15, 3) := by decide +kernel
theorem d_Tx_pegsTo_66 : decode m_Tx_pegsTo.2.1 66 = .ok (.if_icmp .ne 22, 3) := by decide +kernel
theorem d_Tx_pegsTo_69 : decode m_Tx_pegsTo.2.1 69 = .ok (.aload_n 0, 1) := by decide +kernel
theorem d_Tx_pegsTo_70 : decode m_Tx_pegsTo.2.1 70 = .ok (.getfield 15, 3) := by decide +kernel
theorem d_Tx_pegsTo_73 : decode m_Tx_pegsTo.2.1 73 = .ok (.ifCond .eq 13, 3) := by decide +kernel
theorem d_Tx_pegsTo_76 : decode m_Tx_pegsTo.2.1 76 = .ok (.aload_n 0, 1) := by decide +kernel
theorem d_Tx_pegsTo_77 : decode m_Tx_pegsTo.2.1 77 = .ok (.getfield 15, 3) := by decide +kernel
theorem d_Tx_pegsTo_80 : decode m_Tx_pegsTo.2.1 80 = .ok (.iconst 3, 1) := by decide +kernel
theorem d_Tx_pegsTo_81 : decode m_Tx_pegsTo.2.1 81 = .ok (.irem, 1) := by decide +kernel
theorem d_Tx_pegsTo_82 : decode m_Tx_pegsTo.2.1 82 = .ok (.iconst 2, 1) := by decide +kernel
theorem d_Tx_pegsTo_83 : decode m_Tx_pegsTo.2.1 83 = .ok (.if_icmp .ne 5, 3) := by decide +kernel
theorem d_Tx_pegsTo_86 : decode m_Tx_pegsTo.2.1 86 = .ok (.iconst (-1), 1) := by decide +kernel
theorem d_Tx_pegsTo_87 : decode m_Tx_pegsTo.2.1 87 = .ok (.ireturn, 1) := by decide +kernel
theorem d_Tx_pegsTo_88 : decode m_Tx_pegsTo.2.1 88 = .ok (.aload_n 1, 1) := by decide +kernel
theorem d_Tx_pegsTo_89 : decode m_Tx_pegsTo.2.1 89 = .ok (.iconst 0, 1) := by decide +kernel
theorem d_Tx_pegsTo_90 : decode m_Tx_pegsTo.2.1 90 = .ok (.putfield 19, 3) := by decide +kernel
theorem d_Tx_pegsTo_93 : decode m_Tx_pegsTo.2.1 93 = .ok (.iload_n 2, 1) := by decide +kernel
theorem d_Tx_pegsTo_94 : decode m_Tx_pegsTo.2.1 94 = .ok (.ireturn, 1) := by decide +kernel
set_option maxHeartbeats 4000000 in
set_option maxRecDepth 20000 in
theorem Vl_Tx_pegsTo_7 (G : Gt) : ∀ (n : Nat) (a0 : Nat) (a1 : Nat) (x2 : Int32) (ha0 : isO 4 a0) (ha1 : isO 0 a1) (h : Hp), V G m_Tx_pegsTo 7 [(0, .ref (ad G a0)), (1, .ref (ad G a1)), (2, .int x2)] [] h κi (l_Tx_pegsTo_7 n a0 a1 x2 h) := by
  intro n
  induction n with
  | zero => intros; exact v_none
  | succ n ih =>
    intro a0 a1 x2 ha0 ha1 h
    rw [l_Tx_pegsTo_7]
    refine v_iload_n 2 d_Tx_pegsTo_7 rfl rfl ?_
    refine v_aload_n 0 d_Tx_pegsTo_8 rfl rfl ?_
    refine v_geti fl_Tx_15 ha0 rfl d_Tx_pegsTo_9 ?_
    refine v_icmp_ge 61 d_Tx_pegsTo_12 (by decide) (fun c1 => ?_) (fun c1 => ?_)
    · refine v_iload_n 2 d_Tx_pegsTo_61 rfl rfl ?_
      refine v_aload_n 0 d_Tx_pegsTo_62 rfl rfl ?_
      refine v_geti fl_Tx_15 ha0 rfl d_Tx_pegsTo_63 ?_
      refine v_icmp_ne 88 d_Tx_pegsTo_66 (by decide) (fun c2 => ?_) (fun c2 => ?_)
      · refine v_aload_n 0 d_Tx_pegsTo_69 rfl rfl ?_
        refine v_geti fl_Tx_15 ha0 rfl d_Tx_pegsTo_70 ?_
        refine v_if_eq 86 d_Tx_pegsTo_73 (by decide) (fun c3 => ?_) (fun c3 => ?_)
        · refine v_iconst (-1) d_Tx_pegsTo_86 rfl ?_
          exact v_iret rfl d_Tx_pegsTo_87
        · refine v_aload_n 0 d_Tx_pegsTo_76 rfl rfl ?_
          refine v_geti fl_Tx_15 ha0 rfl d_Tx_pegsTo_77 ?_
          refine v_iconst 3 d_Tx_pegsTo_80 rfl ?_
          refine v_irem (by decide) d_Tx_pegsTo_81 ?_
          refine v_iconst 2 d_Tx_pegsTo_82 rfl ?_
          refine v_icmp_ne 88 d_Tx_pegsTo_83 (by decide) (fun c4 => ?_) (fun c4 => ?_)
          · refine v_iconst (-1) d_Tx_pegsTo_86 rfl ?_
            exact v_iret rfl d_Tx_pegsTo_87
          · refine v_aload_n 1 d_Tx_pegsTo_88 rfl rfl ?_
            refine v_iconst 0 d_Tx_pegsTo_89 rfl ?_
            refine v_puti fl_Tx_19 ft_0_2 rfl rfl ha1 rfl d_Tx_pegsTo_90 ?_
            refine v_iload_n 2 d_Tx_pegsTo_93 rfl rfl ?_
            exact v_iret rfl d_Tx_pegsTo_94
      · refine v_aload_n 1 d_Tx_pegsTo_88 rfl rfl ?_
        refine v_iconst 0 d_Tx_pegsTo_89 rfl ?_
        refine v_puti fl_Tx_19 ft_0_2 rfl rfl ha1 rfl d_Tx_pegsTo_90 ?_
        refine v_iload_n 2 d_Tx_pegsTo_93 rfl rfl ?_
        exact v_iret rfl d_Tx_pegsTo_94
    · refine v_aload_n 0 d_Tx_pegsTo_15 rfl rfl ?_
      refine v_aload_n 1 d_Tx_pegsTo_16 rfl rfl ?_
      refine v_iload_n 2 d_Tx_pegsTo_17 rfl rfl ?_
      refine v_callVi (As := [.ref (ad G a1), .int x2]) (rest := []) (c_Tx_goesOn G a0 a1 x2 ha0 ha1 h) co_Tx_22 io_Tx_goesOn ha0 ⟨by decide, by decide⟩ rfl rfl (Nat.le_of_ble_eq_true rfl) d_Tx_pegsTo_18 (fun r5 h5 _ => ?_)
      refine v_if_eq 61 d_Tx_pegsTo_21 (by decide) (fun c6 => ?_) (fun c6 => ?_)
      · refine v_iload_n 2 d_Tx_pegsTo_61 rfl rfl ?_
        refine v_aload_n 0 d_Tx_pegsTo_62 rfl rfl ?_
        refine v_geti fl_Tx_15 ha0 rfl d_Tx_pegsTo_63 ?_
        refine v_icmp_ne 88 d_Tx_pegsTo_66 (by decide) (fun c7 => ?_) (fun c7 => ?_)
        · refine v_aload_n 0 d_Tx_pegsTo_69 rfl rfl ?_
          refine v_geti fl_Tx_15 ha0 rfl d_Tx_pegsTo_70 ?_
          refine v_if_eq 86 d_Tx_pegsTo_73 (by decide) (fun c8 => ?_) (fun c8 => ?_)
          · refine v_iconst (-1) d_Tx_pegsTo_86 rfl ?_
            exact v_iret rfl d_Tx_pegsTo_87
          · refine v_aload_n 0 d_Tx_pegsTo_76 rfl rfl ?_
            refine v_geti fl_Tx_15 ha0 rfl d_Tx_pegsTo_77 ?_
            refine v_iconst 3 d_Tx_pegsTo_80 rfl ?_
            refine v_irem (by decide) d_Tx_pegsTo_81 ?_
            refine v_iconst 2 d_Tx_pegsTo_82 rfl ?_
            refine v_icmp_ne 88 d_Tx_pegsTo_83 (by decide) (fun c9 => ?_) (fun c9 => ?_)
            · refine v_iconst (-1) d_Tx_pegsTo_86 rfl ?_
              exact v_iret rfl d_Tx_pegsTo_87
            · refine v_aload_n 1 d_Tx_pegsTo_88 rfl rfl ?_
              refine v_iconst 0 d_Tx_pegsTo_89 rfl ?_
              refine v_puti fl_Tx_19 ft_0_2 rfl rfl ha1 rfl d_Tx_pegsTo_90 ?_
              refine v_iload_n 2 d_Tx_pegsTo_93 rfl rfl ?_
              exact v_iret rfl d_Tx_pegsTo_94
        · refine v_aload_n 1 d_Tx_pegsTo_88 rfl rfl ?_
          refine v_iconst 0 d_Tx_pegsTo_89 rfl ?_
          refine v_puti fl_Tx_19 ft_0_2 rfl rfl ha1 rfl d_Tx_pegsTo_90 ?_
          refine v_iload_n 2 d_Tx_pegsTo_93 rfl rfl ?_
          exact v_iret rfl d_Tx_pegsTo_94
      · refine v_iload_n 2 d_Tx_pegsTo_24 rfl rfl ?_
        refine v_iconst 3 d_Tx_pegsTo_25 rfl ?_
        refine v_irem (by decide) d_Tx_pegsTo_26 ?_
        refine v_iconst 1 d_Tx_pegsTo_27 rfl ?_
        refine v_icmp_ne 55 d_Tx_pegsTo_28 (by decide) (fun c10 => ?_) (fun c10 => ?_)
        · refine v_aload_n 1 d_Tx_pegsTo_31 rfl rfl ?_
          refine v_aload_n 0 d_Tx_pegsTo_32 rfl rfl ?_
          refine v_getr (a0 + 1) fl_Tx_9 ha0 rfl rfl d_Tx_pegsTo_33 ?_
          refine v_iload_n 2 d_Tx_pegsTo_36 rfl rfl ?_
          refine v_iconst 1 d_Tx_pegsTo_37 rfl ?_
          refine v_isub d_Tx_pegsTo_38 ?_
          refine v_iald (txA ha0) d_Tx_pegsTo_39 ?_
          refine v_bipush 48 d_Tx_pegsTo_40 rfl ?_
          refine v_isub d_Tx_pegsTo_42 ?_
          refine v_aload_n 0 d_Tx_pegsTo_43 rfl rfl ?_
          refine v_getr (a0 + 1) fl_Tx_9 ha0 rfl rfl d_Tx_pegsTo_44 ?_
          refine v_iload_n 2 d_Tx_pegsTo_47 rfl rfl ?_
          refine v_iald (txA ha0) d_Tx_pegsTo_48 ?_
          refine v_bipush 48 d_Tx_pegsTo_49 rfl ?_
          refine v_isub d_Tx_pegsTo_51 ?_
          refine v_callVv (As := [.int ((h5 (a0 + 1) (ix (x2 - 1))) - 48), .int ((h5 (a0 + 1) (ix x2)) - 48)]) (rest := []) (c_Fr_add G a1 ((h5 (a0 + 1) (ix (x2 - 1))) - 48) ((h5 (a0 + 1) (ix x2)) - 48) ha1 h5) co_Tx_26 io_Fr_add ha1 ⟨by decide, by decide⟩ rfl rfl (Nat.le_of_ble_eq_true rfl) d_Tx_pegsTo_52 (fun _ h11 _ => ?_)
          refine v_iinc (x2 + 1) 2 [(2, .int (x2 + 1)), (0, .ref (ad G a0)), (1, .ref (ad G a1))] d_Tx_pegsTo_55 rfl rfl (by decide) rfl ?_
          refine v_goto 7 d_Tx_pegsTo_58 (by decide) ?_
          exact v_sub [1, 2, 0] rfl (ih a0 a1 (x2 + 1) ha0 ha1 h11)
        · refine v_iinc (x2 + 1) 2 [(2, .int (x2 + 1)), (0, .ref (ad G a0)), (1, .ref (ad G a1))] d_Tx_pegsTo_55 rfl rfl (by decide) rfl ?_
          refine v_goto 7 d_Tx_pegsTo_58 (by decide) ?_
          exact v_sub [1, 2, 0] rfl (ih a0 a1 (x2 + 1) ha0 ha1 h5)
set_option maxHeartbeats 4000000 in
set_option maxRecDepth 20000 in
theorem c_Tx_pegsTo (G : Gt) (a0 : Nat) (a1 : Nat) (ha0 : isO 4 a0) (ha1 : isO 0 a1) (h : Hp) : Cn G m_Tx_pegsTo [.ref (ad G a0), .ref (ad G a1)] h κi (f_Tx_pegsTo a0 a1 h) := by
  refine entryV (by decide) (Nat.le_of_ble_eq_true rfl) rfl ?_
  show V G m_Tx_pegsTo 0 [(0, .ref (ad G a0)), (1, .ref (ad G a1))] [] h κi _
  unfold f_Tx_pegsTo
  refine v_aload_n 1 d_Tx_pegsTo_0 rfl rfl ?_
  refine v_iconst 0 d_Tx_pegsTo_1 rfl ?_
  refine v_puti fl_Tx_19 ft_0_2 rfl rfl ha1 rfl d_Tx_pegsTo_2 ?_
  refine v_iconst 0 d_Tx_pegsTo_5 rfl ?_
  refine v_istore_n [(2, .int 0), (0, .ref (ad G a0)), (1, .ref (ad G a1))] d_Tx_pegsTo_6 rfl (by decide) rfl ?_
  exact v_sub [1, 2, 0] rfl (Vl_Tx_pegsTo_7 G FUEL a0 a1 0 ha0 ha1 (hset h a1 2 0))
theorem d_C_type_0 : decode m_C_type.2.1 0 = .ok (.iload_n 1, 1) := by decide +kernel
theorem d_C_type_1 : decode m_C_type.2.1 1 = .ok (.ifCond .lt 10, 3) := by decide +kernel
theorem d_C_type_4 : decode m_C_type.2.1 4 = .ok (.iload_n 1, 1) := by decide +kernel
theorem d_C_type_5 : decode m_C_type.2.1 5 = .ok (.sipush 255, 3) := by decide +kernel
theorem d_C_type_8 : decode m_C_type.2.1 8 = .ok (.if_icmp .le 6, 3) := by decide +kernel
theorem d_C_type_11 : decode m_C_type.2.1 11 = .ok (.bipush (-2), 2) := by decide +kernel
theorem d_C_type_13 : decode m_C_type.2.1 13 = .ok (.ireturn, 1) := by decide +kernel
theorem d_C_type_14 : decode m_C_type.2.1 14 = .ok (.aload_n 0, 1) := by decide +kernel
theorem d_C_type_15 : decode m_C_type.2.1 15 = .ok (.getfield 10, 3) := by decide +kernel
theorem d_C_type_18 : decode m_C_type.2.1 18 = .ok (.getfield 66, 3) := by decide +kernel
theorem d_C_type_21 : decode m_C_type.2.1 21 = .ok (.bipush 40, 2) := by decide +kernel
theorem d_C_type_23 : decode m_C_type.2.1 23 = .ok (.if_icmp .lt 6, 3) := by decide +kernel
theorem d_C_type_26 : decode m_C_type.2.1 26 = .ok (.bipush (-4), 2) := by decide +kernel
theorem d_C_type_28 : decode m_C_type.2.1 28 = .ok (.ireturn, 1) := by decide +kernel
theorem d_C_type_29 : decode m_C_type.2.1 29 = .ok (.aload_n 0, 1) := by decide +kernel
theorem d_C_type_30 : decode m_C_type.2.1 30 = .ok (.getfield 10, 3) := by decide +kernel
theorem d_C_type_33 : decode m_C_type.2.1 33 = .ok (.iload_n 1, 1) := by decide +kernel
theorem d_C_type_34 : decode m_C_type.2.1 34 = .ok (.invokevirtual 69, 3) := by decide +kernel
theorem d_C_type_37 : decode m_C_type.2.1 37 = .ok (.aload_n 0, 1) := by decide +kernel
theorem d_C_type_38 : decode m_C_type.2.1 38 = .ok (.aload_n 0, 1) := by decide +kernel
theorem d_C_type_39 : decode m_C_type.2.1 39 = .ok (.getfield 10, 3) := by decide +kernel
theorem d_C_type_42 : decode m_C_type.2.1 42 = .ok (.aload_n 0, 1) := by decide +kernel
theorem d_C_type_43 : decode m_C_type.2.1 43 = .ok (.getfield 19, 3) := by decide +kernel
theorem d_C_type_46 : decode m_C_type.2.1 46 = .ok (.invokevirtual 73, 3) := by decide +kernel
theorem d_C_type_49 : decode m_C_type.2.1 49 = .ok (.putfield 45, 3) := by decide +kernel
theorem d_C_type_52 : decode m_C_type.2.1 52 = .ok (.aload_n 0, 1) := by decide +kernel
theorem d_C_type_53 : decode m_C_type.2.1 53 = .ok (.getfield 10, 3) := by decide +kernel
theorem d_C_type_56 : decode m_C_type.2.1 56 = .ok (.getfield 66, 3) := by decide +kernel
theorem d_C_type_59 : decode m_C_type.2.1 59 = .ok (.ireturn, 1) := by decide +kernel
set_option maxHeartbeats 4000000 in
set_option maxRecDepth 20000 in
theorem c_C_type (G : Gt) (x1 : Int32) (h : Hp) : Cn G m_C_type [.ref (ad G 0), .int x1] h κi (f_C_type x1 h) := by
  refine entryV (by decide) (Nat.le_of_ble_eq_true rfl) rfl ?_
  show V G m_C_type 0 [(0, .ref (ad G 0)), (1, .int x1)] [] h κi _
  unfold f_C_type
  refine v_iload_n 1 d_C_type_0 rfl rfl ?_
  refine v_if_lt 11 d_C_type_1 (by decide) (fun c1 => ?_) (fun c1 => ?_)
  · refine v_bipush (-2) d_C_type_11 rfl ?_
    exact v_iret rfl d_C_type_13
  · refine v_iload_n 1 d_C_type_4 rfl rfl ?_
    refine v_sipush 255 d_C_type_5 rfl ?_
    refine v_icmp_le 14 d_C_type_8 (by decide) (fun c2 => ?_) (fun c2 => ?_)
    · refine v_aload_n 0 d_C_type_14 rfl rfl ?_
      refine v_getr 1 fl_C_10 o_0 rfl rfl d_C_type_15 ?_
      refine v_geti fl_C_66 o_1 rfl d_C_type_18 ?_
      refine v_bipush 40 d_C_type_21 rfl ?_
      refine v_icmp_lt 29 d_C_type_23 (by decide) (fun c3 => ?_) (fun c3 => ?_)
      · refine v_aload_n 0 d_C_type_29 rfl rfl ?_
        refine v_getr 1 fl_C_10 o_0 rfl rfl d_C_type_30 ?_
        refine v_iload_n 1 d_C_type_33 rfl rfl ?_
        refine v_callVv (As := [.int x1]) (rest := []) (c_Tx_append G 1 x1 o_1 h) co_C_69 io_Tx_append o_1 ⟨by decide, by decide⟩ rfl rfl (Nat.le_of_ble_eq_true rfl) d_C_type_34 (fun _ h4 _ => ?_)
        refine v_aload_n 0 d_C_type_37 rfl rfl ?_
        refine v_aload_n 0 d_C_type_38 rfl rfl ?_
        refine v_getr 1 fl_C_10 o_0 rfl rfl d_C_type_39 ?_
        refine v_aload_n 0 d_C_type_42 rfl rfl ?_
        refine v_getr 3 fl_C_19 o_0 rfl rfl d_C_type_43 ?_
        refine v_callVi (As := [.ref (ad G 3)]) (rest := [.ref (ad G 0)]) (c_Tx_pegsTo G 1 3 o_1 o_3 h4) co_C_73 io_Tx_pegsTo o_1 ⟨by decide, by decide⟩ rfl rfl (Nat.le_of_ble_eq_true rfl) d_C_type_46 (fun r5 h5 _ => ?_)
        refine v_puti fl_C_45 ft_5_6 rfl rfl o_0 rfl d_C_type_49 ?_
        refine v_aload_n 0 d_C_type_52 rfl rfl ?_
        refine v_getr 1 fl_C_10 o_0 rfl rfl d_C_type_53 ?_
        refine v_geti fl_C_66 o_1 rfl d_C_type_56 ?_
        exact v_iret rfl d_C_type_59
      · refine v_bipush (-4) d_C_type_26 rfl ?_
        exact v_iret rfl d_C_type_28
    · refine v_bipush (-2) d_C_type_11 rfl ?_
      exact v_iret rfl d_C_type_13
theorem d_Tx_shorten_0 : decode m_Tx_shorten.2.1 0 = .ok (.iload_n 1, 1) := by decide +kernel
theorem d_Tx_shorten_1 : decode m_Tx_shorten.2.1 1 = .ok (.ifCond .lt 16, 3) := by decide +kernel
theorem d_Tx_shorten_4 : decode m_Tx_shorten.2.1 4 = .ok (.iload_n 1, 1) := by decide +kernel
theorem d_Tx_shorten_5 : decode m_Tx_shorten.2.1 5 = .ok (.aload_n 0, 1) := by decide +kernel
theorem d_Tx_shorten_6 : decode m_Tx_shorten.2.1 6 = .ok (.getfield 15, 3) := by decide +kernel
theorem d_Tx_shorten_9 : decode m_Tx_shorten.2.1 9 = .ok (.if_icmp .ge 8, 3) := by decide +kernel
theorem d_Tx_shorten_12 : decode m_Tx_shorten.2.1 12 = .ok (.aload_n 0, 1) := by decide +kernel
theorem d_Tx_shorten_13 : decode m_Tx_shorten.2.1 13 = .ok (.iload_n 1, 1) := by decide +kernel
theorem d_Tx_shorten_14 : decode m_Tx_shorten.2.1 14 = .ok (.putfield 15, 3) := by decide +kernel
theorem d_Tx_shorten_17 : decode m_Tx_shorten.2.1 17 = .ok (.return_, 1) := by decide +kernel
set_option maxHeartbeats 4000000 in
set_option maxRecDepth 20000 in
theorem c_Tx_shorten (G : Gt) (a0 : Nat) (x1 : Int32) (ha0 : isO 4 a0) (h : Hp) : Cn G m_Tx_shorten [.ref (ad G a0), .int x1] h κv (f_Tx_shorten a0 x1 h) := by
  refine entryV (by decide) (Nat.le_of_ble_eq_true rfl) rfl ?_
  show V G m_Tx_shorten 0 [(0, .ref (ad G a0)), (1, .int x1)] [] h κv _
  unfold f_Tx_shorten
  refine v_iload_n 1 d_Tx_shorten_0 rfl rfl ?_
  refine v_if_lt 17 d_Tx_shorten_1 (by decide) (fun c1 => ?_) (fun c1 => ?_)
  · exact v_vret rfl d_Tx_shorten_17
  · refine v_iload_n 1 d_Tx_shorten_4 rfl rfl ?_
    refine v_aload_n 0 d_Tx_shorten_5 rfl rfl ?_
    refine v_geti fl_Tx_15 ha0 rfl d_Tx_shorten_6 ?_
    refine v_icmp_ge 17 d_Tx_shorten_9 (by decide) (fun c2 => ?_) (fun c2 => ?_)
    · exact v_vret rfl d_Tx_shorten_17
    · refine v_aload_n 0 d_Tx_shorten_12 rfl rfl ?_
      refine v_iload_n 1 d_Tx_shorten_13 rfl rfl ?_
      refine v_puti fl_Tx_15 ft_4_1 rfl rfl ha0 rfl d_Tx_shorten_14 ?_
      exact v_vret rfl d_Tx_shorten_17
theorem d_C_wipe_0 : decode m_C_wipe.2.1 0 = .ok (.aload_n 0, 1) := by decide +kernel
theorem d_C_wipe_1 : decode m_C_wipe.2.1 1 = .ok (.getfield 10, 3) := by decide +kernel
theorem d_C_wipe_4 : decode m_C_wipe.2.1 4 = .ok (.getfield 66, 3) := by decide +kernel
theorem d_C_wipe_7 : decode m_C_wipe.2.1 7 = .ok (.istore_n 1, 1) := by decide +kernel
theorem d_C_wipe_8 : decode m_C_wipe.2.1 8 = .ok (.aload_n 0, 1) := by decide +kernel
theorem d_C_wipe_9 : decode m_C_wipe.2.1 9 = .ok (.getfield 10, 3) := by decide +kernel
theorem d_C_wipe_12 : decode m_C_wipe.2.1 12 = .ok (.iconst 0, 1) := by decide +kernel
theorem d_C_wipe_13 : decode m_C_wipe.2.1 13 = .ok (.invokevirtual 77, 3) := by decide +kernel
theorem d_C_wipe_16 : decode m_C_wipe.2.1 16 = .ok (.aload_n 0, 1) := by decide +kernel
theorem d_C_wipe_17 : decode m_C_wipe.2.1 17 = .ok (.aload_n 0, 1) := by decide +kernel
theorem d_C_wipe_18 : decode m_C_wipe.2.1 18 = .ok (.getfield 10, 3) := by decide +kernel
theorem d_C_wipe_21 : decode m_C_wipe.2.1 21 = .ok (.aload_n 0, 1) := by decide +kernel
theorem d_C_wipe_22 : decode m_C_wipe.2.1 22 = .ok (.getfield 19, 3) := by decide +kernel
theorem d_C_wipe_25 : decode m_C_wipe.2.1 25 = .ok (.invokevirtual 73, 3) := by decide +kernel
theorem d_C_wipe_28 : decode m_C_wipe.2.1 28 = .ok (.putfield 45, 3) := by decide +kernel
theorem d_C_wipe_31 : decode m_C_wipe.2.1 31 = .ok (.iload_n 1, 1) := by decide +kernel
theorem d_C_wipe_32 : decode m_C_wipe.2.1 32 = .ok (.ireturn, 1) := by decide +kernel
set_option maxHeartbeats 4000000 in
set_option maxRecDepth 20000 in
theorem c_C_wipe (G : Gt) (h : Hp) : Cn G m_C_wipe [.ref (ad G 0)] h κi (f_C_wipe h) := by
  refine entryV (by decide) (Nat.le_of_ble_eq_true rfl) rfl ?_
  show V G m_C_wipe 0 [(0, .ref (ad G 0))] [] h κi _
  unfold f_C_wipe
  refine v_aload_n 0 d_C_wipe_0 rfl rfl ?_
  refine v_getr 1 fl_C_10 o_0 rfl rfl d_C_wipe_1 ?_
  refine v_geti fl_C_66 o_1 rfl d_C_wipe_4 ?_
  refine v_istore_n [(1, .int (h 1 1)), (0, .ref (ad G 0))] d_C_wipe_7 rfl (by decide) rfl ?_
  refine v_aload_n 1 d_C_wipe_8 rfl rfl ?_
  refine v_getr 1 fl_C_10 o_0 rfl rfl d_C_wipe_9 ?_
  refine v_iconst 0 d_C_wipe_12 rfl ?_
  refine v_callVv (As := [.int 0]) (rest := []) (c_Tx_shorten G 1 0 o_1 h) co_C_77 io_Tx_shorten o_1 ⟨by decide, by decide⟩ rfl rfl (Nat.le_of_ble_eq_true rfl) d_C_wipe_13 (fun _ h1 _ => ?_)
  refine v_aload_n 1 d_C_wipe_16 rfl rfl ?_
  refine v_aload_n 1 d_C_wipe_17 rfl rfl ?_
  refine v_getr 1 fl_C_10 o_0 rfl rfl d_C_wipe_18 ?_
  refine v_aload_n 1 d_C_wipe_21 rfl rfl ?_
  refine v_getr 3 fl_C_19 o_0 rfl rfl d_C_wipe_22 ?_
  refine v_callVi (As := [.ref (ad G 3)]) (rest := [.ref (ad G 0)]) (c_Tx_pegsTo G 1 3 o_1 o_3 h1) co_C_73 io_Tx_pegsTo o_1 ⟨by decide, by decide⟩ rfl rfl (Nat.le_of_ble_eq_true rfl) d_C_wipe_25 (fun r2 h2 _ => ?_)
  refine v_puti fl_C_45 ft_5_6 rfl rfl o_0 rfl d_C_wipe_28 ?_
  refine v_iload_n 0 d_C_wipe_31 rfl rfl ?_
  exact v_iret rfl d_C_wipe_32
theorem d_C_undo_0 : decode m_C_undo.2.1 0 = .ok (.aload_n 0, 1) := by decide +kernel
theorem d_C_undo_1 : decode m_C_undo.2.1 1 = .ok (.getfield 10, 3) := by decide +kernel
theorem d_C_undo_4 : decode m_C_undo.2.1 4 = .ok (.getfield 66, 3) := by decide +kernel
theorem d_C_undo_7 : decode m_C_undo.2.1 7 = .ok (.ifCond .gt 6, 3) := by decide +kernel
theorem d_C_undo_10 : decode m_C_undo.2.1 10 = .ok (.bipush (-3), 2) := by decide +kernel
theorem d_C_undo_12 : decode m_C_undo.2.1 12 = .ok (.ireturn, 1) := by decide +kernel
theorem d_C_undo_13 : decode m_C_undo.2.1 13 = .ok (.aload_n 0, 1) := by decide +kernel
theorem d_C_undo_14 : decode m_C_undo.2.1 14 = .ok (.getfield 10, 3) := by decide +kernel
theorem d_C_undo_17 : decode m_C_undo.2.1 17 = .ok (.aload_n 0, 1) := by decide +kernel
theorem d_C_undo_18 : decode m_C_undo.2.1 18 = .ok (.getfield 10, 3) := by decide +kernel
theorem d_C_undo_21 : decode m_C_undo.2.1 21 = .ok (.getfield 66, 3) := by decide +kernel
theorem d_C_undo_24 : decode m_C_undo.2.1 24 = .ok (.iconst 1, 1) := by decide +kernel
theorem d_C_undo_25 : decode m_C_undo.2.1 25 = .ok (.isub, 1) := by decide +kernel
theorem d_C_undo_26 : decode m_C_undo.2.1 26 = .ok (.invokevirtual 77, 3) := by decide +kernel
theorem d_C_undo_29 : decode m_C_undo.2.1 29 = .ok (.aload_n 0, 1) := by decide +kernel
theorem d_C_undo_30 : decode m_C_undo.2.1 30 = .ok (.aload_n 0, 1) := by decide +kernel
theorem d_C_undo_31 : decode m_C_undo.2.1 31 = .ok (.getfield 10, 3) := by decide +kernel
theorem d_C_undo_34 : decode m_C_undo.2.1 34 = .ok (.aload_n 0, 1) := by decide +kernel
theorem d_C_undo_35 : decode m_C_undo.2.1 35 = .ok (.getfield 19, 3) := by decide +kernel
theorem d_C_undo_38 : decode m_C_undo.2.1 38 = .ok (.invokevirtual 73, 3) := by decide +kernel
theorem d_C_undo_41 : decode m_C_undo.2.1 41 = .ok (.putfield 45, 3) := by decide +kernel
theorem d_C_undo_44 : decode m_C_undo.2.1 44 = .ok (.aload_n 0, 1) := by decide +kernel
theorem d_C_undo_45 : decode m_C_undo.2.1 45 = .ok (.getfield 10, 3) := by decide +kernel
theorem d_C_undo_48 : decode m_C_undo.2.1 48 = .ok (.getfield 66, 3) := by decide +kernel
theorem d_C_undo_51 : decode m_C_undo.2.1 51 = .ok (.ireturn, 1) := by decide +kernel
set_option maxHeartbeats 4000000 in
set_option maxRecDepth 20000 in
theorem c_C_undo (G : Gt) (h : Hp) : Cn G m_C_undo [.ref (ad G 0)] h κi (f_C_undo h) := by
  refine entryV (by decide) (Nat.le_of_ble_eq_true rfl) rfl ?_
  show V G m_C_undo 0 [(0, .ref (ad G 0))] [] h κi _
  unfold f_C_undo
  refine v_aload_n 0 d_C_undo_0 rfl rfl ?_
  refine v_getr 1 fl_C_10 o_0 rfl rfl d_C_undo_1 ?_
  refine v_geti fl_C_66 o_1 rfl d_C_undo_4 ?_
  refine v_if_gt 13 d_C_undo_7 (by decide) (fun c1 => ?_) (fun c1 => ?_)
  · refine v_aload_n 0 d_C_undo_13 rfl rfl ?_
    refine v_getr 1 fl_C_10 o_0 rfl rfl d_C_undo_14 ?_
    refine v_aload_n 0 d_C_undo_17 rfl rfl ?_
    refine v_getr 1 fl_C_10 o_0 rfl rfl d_C_undo_18 ?_
    refine v_geti fl_C_66 o_1 rfl d_C_undo_21 ?_
    refine v_iconst 1 d_C_undo_24 rfl ?_
    refine v_isub d_C_undo_25 ?_
    refine v_callVv (As := [.int ((h 1 1) - 1)]) (rest := []) (c_Tx_shorten G 1 ((h 1 1) - 1) o_1 h) co_C_77 io_Tx_shorten o_1 ⟨by decide, by decide⟩ rfl rfl (Nat.le_of_ble_eq_true rfl) d_C_undo_26 (fun _ h2 _ => ?_)
    refine v_aload_n 0 d_C_undo_29 rfl rfl ?_
    refine v_aload_n 0 d_C_undo_30 rfl rfl ?_
    refine v_getr 1 fl_C_10 o_0 rfl rfl d_C_undo_31 ?_
    refine v_aload_n 0 d_C_undo_34 rfl rfl ?_
    refine v_getr 3 fl_C_19 o_0 rfl rfl d_C_undo_35 ?_
    refine v_callVi (As := [.ref (ad G 3)]) (rest := [.ref (ad G 0)]) (c_Tx_pegsTo G 1 3 o_1 o_3 h2) co_C_73 io_Tx_pegsTo o_1 ⟨by decide, by decide⟩ rfl rfl (Nat.le_of_ble_eq_true rfl) d_C_undo_38 (fun r3 h3 _ => ?_)
    refine v_puti fl_C_45 ft_5_6 rfl rfl o_0 rfl d_C_undo_41 ?_
    refine v_aload_n 0 d_C_undo_44 rfl rfl ?_
    refine v_getr 1 fl_C_10 o_0 rfl rfl d_C_undo_45 ?_
    refine v_geti fl_C_66 o_1 rfl d_C_undo_48 ?_
    exact v_iret rfl d_C_undo_51
  · refine v_bipush (-3) d_C_undo_10 rfl ?_
    exact v_iret rfl d_C_undo_12
theorem d_C_fault_0 : decode m_C_fault.2.1 0 = .ok (.aload_n 0, 1) := by decide +kernel
theorem d_C_fault_1 : decode m_C_fault.2.1 1 = .ok (.getfield 45, 3) := by decide +kernel
theorem d_C_fault_4 : decode m_C_fault.2.1 4 = .ok (.ireturn, 1) := by decide +kernel
set_option maxHeartbeats 4000000 in
set_option maxRecDepth 20000 in
theorem c_C_fault (G : Gt) (h : Hp) : Cn G m_C_fault [.ref (ad G 0)] h κi (f_C_fault h) := by
  refine entryV (by decide) (Nat.le_of_ble_eq_true rfl) rfl ?_
  show V G m_C_fault 0 [(0, .ref (ad G 0))] [] h κi _
  unfold f_C_fault
  refine v_aload_n 0 d_C_fault_0 rfl rfl ?_
  refine v_geti fl_C_45 o_0 rfl d_C_fault_1 ?_
  exact v_iret rfl d_C_fault_4
theorem d_Fr_has_0 : decode m_Fr_has.2.1 0 = .ok (.iload_n 1, 1) := by decide +kernel
theorem d_Fr_has_1 : decode m_Fr_has.2.1 1 = .ok (.ifCond .lt 15, 3) := by decide +kernel
theorem d_Fr_has_4 : decode m_Fr_has.2.1 4 = .ok (.iload_n 1, 1) := by decide +kernel
theorem d_Fr_has_5 : decode m_Fr_has.2.1 5 = .ok (.aload_n 0, 1) := by decide +kernel
theorem d_Fr_has_6 : decode m_Fr_has.2.1 6 = .ok (.getfield 18, 3) := by decide +kernel
theorem d_Fr_has_9 : decode m_Fr_has.2.1 9 = .ok (.if_icmp .ge 7, 3) := by decide +kernel
theorem d_Fr_has_12 : decode m_Fr_has.2.1 12 = .ok (.iconst 1, 1) := by decide +kernel
theorem d_Fr_has_13 : decode m_Fr_has.2.1 13 = .ok (.goto 4, 3) := by decide +kernel
theorem d_Fr_has_16 : decode m_Fr_has.2.1 16 = .ok (.iconst 0, 1) := by decide +kernel
theorem d_Fr_has_17 : decode m_Fr_has.2.1 17 = .ok (.ireturn, 1) := by decide +kernel
set_option maxHeartbeats 4000000 in
set_option maxRecDepth 20000 in
theorem c_Fr_has (G : Gt) (a0 : Nat) (x1 : Int32) (ha0 : isO 0 a0) (h : Hp) : Cn G m_Fr_has [.ref (ad G a0), .int x1] h κi (f_Fr_has a0 x1 h) := by
  refine entryV (by decide) (Nat.le_of_ble_eq_true rfl) rfl ?_
  show V G m_Fr_has 0 [(0, .ref (ad G a0)), (1, .int x1)] [] h κi _
  unfold f_Fr_has
  refine v_iload_n 1 d_Fr_has_0 rfl rfl ?_
  refine v_if_lt 16 d_Fr_has_1 (by decide) (fun c1 => ?_) (fun c1 => ?_)
  · refine v_iconst 0 d_Fr_has_16 rfl ?_
    exact v_zretL rfl rfl d_Fr_has_17
  · refine v_iload_n 1 d_Fr_has_4 rfl rfl ?_
    refine v_aload_n 0 d_Fr_has_5 rfl rfl ?_
    refine v_geti fl_Fr_18 ha0 rfl d_Fr_has_6 ?_
    refine v_icmp_ge 16 d_Fr_has_9 (by decide) (fun c2 => ?_) (fun c2 => ?_)
    · refine v_iconst 0 d_Fr_has_16 rfl ?_
      exact v_zretL rfl rfl d_Fr_has_17
    · refine v_iconst 1 d_Fr_has_12 rfl ?_
      refine v_goto 17 d_Fr_has_13 (by decide) ?_
      exact v_zretL rfl rfl d_Fr_has_17
theorem d_C_isHidden_0 : decode m_C_isHidden.2.1 0 = .ok (.aload_n 0, 1) := by decide +kernel
theorem d_C_isHidden_1 : decode m_C_isHidden.2.1 1 = .ok (.getfield 49, 3) := by decide +kernel
theorem d_C_isHidden_4 : decode m_C_isHidden.2.1 4 = .ok (.iload_n 1, 1) := by decide +kernel
theorem d_C_isHidden_5 : decode m_C_isHidden.2.1 5 = .ok (.ishr, 1) := by decide +kernel
theorem d_C_isHidden_6 : decode m_C_isHidden.2.1 6 = .ok (.iconst 1, 1) := by decide +kernel
theorem d_C_isHidden_7 : decode m_C_isHidden.2.1 7 = .ok (.iand, 1) := by decide +kernel
theorem d_C_isHidden_8 : decode m_C_isHidden.2.1 8 = .ok (.iconst 1, 1) := by decide +kernel
theorem d_C_isHidden_9 : decode m_C_isHidden.2.1 9 = .ok (.if_icmp .ne 7, 3) := by decide +kernel
theorem d_C_isHidden_12 : decode m_C_isHidden.2.1 12 = .ok (.iconst 1, 1) := by decide +kernel
theorem d_C_isHidden_13 : decode m_C_isHidden.2.1 13 = .ok (.goto 4, 3) := by decide +kernel
theorem d_C_isHidden_16 : decode m_C_isHidden.2.1 16 = .ok (.iconst 0, 1) := by decide +kernel
theorem d_C_isHidden_17 : decode m_C_isHidden.2.1 17 = .ok (.ireturn, 1) := by decide +kernel
set_option maxHeartbeats 4000000 in
set_option maxRecDepth 20000 in
theorem c_C_isHidden (G : Gt) (x1 : Int32) (h : Hp) : Cn G m_C_isHidden [.ref (ad G 0), .int x1] h κi (f_C_isHidden x1 h) := by
  refine entryV (by decide) (Nat.le_of_ble_eq_true rfl) rfl ?_
  show V G m_C_isHidden 0 [(0, .ref (ad G 0)), (1, .int x1)] [] h κi _
  unfold f_C_isHidden
  refine v_aload_n 0 d_C_isHidden_0 rfl rfl ?_
  refine v_geti fl_C_49 o_0 rfl d_C_isHidden_1 ?_
  refine v_iload_n 1 d_C_isHidden_4 rfl rfl ?_
  refine v_ishr d_C_isHidden_5 ?_
  refine v_iconst 1 d_C_isHidden_6 rfl ?_
  refine v_iand d_C_isHidden_7 ?_
  refine v_iconst 1 d_C_isHidden_8 rfl ?_
  refine v_icmp_ne 16 d_C_isHidden_9 (by decide) (fun c1 => ?_) (fun c1 => ?_)
  · refine v_iconst 1 d_C_isHidden_12 rfl ?_
    refine v_goto 17 d_C_isHidden_13 (by decide) ?_
    exact v_zretL rfl rfl d_C_isHidden_17
  · refine v_iconst 0 d_C_isHidden_16 rfl ?_
    exact v_zretL rfl rfl d_C_isHidden_17
theorem d_C_peg_0 : decode m_C_peg.2.1 0 = .ok (.aload_n 0, 1) := by decide +kernel
theorem d_C_peg_1 : decode m_C_peg.2.1 1 = .ok (.getfield 19, 3) := by decide +kernel
theorem d_C_peg_4 : decode m_C_peg.2.1 4 = .ok (.iload_n 1, 1) := by decide +kernel
theorem d_C_peg_5 : decode m_C_peg.2.1 5 = .ok (.invokevirtual 80, 3) := by decide +kernel
theorem d_C_peg_8 : decode m_C_peg.2.1 8 = .ok (.ifCond .ne 6, 3) := by decide +kernel
theorem d_C_peg_11 : decode m_C_peg.2.1 11 = .ok (.bipush (-2), 2) := by decide +kernel
theorem d_C_peg_13 : decode m_C_peg.2.1 13 = .ok (.ireturn, 1) := by decide +kernel
theorem d_C_peg_14 : decode m_C_peg.2.1 14 = .ok (.iload_n 2, 1) := by decide +kernel
theorem d_C_peg_15 : decode m_C_peg.2.1 15 = .ok (.tableswitch 59 0 2 #[25, 35, 45], 25) := by decide +kernel
theorem d_C_peg_40 : decode m_C_peg.2.1 40 = .ok (.aload_n 0, 1) := by decide +kernel
theorem d_C_peg_41 : decode m_C_peg.2.1 41 = .ok (.getfield 19, 3) := by decide +kernel
theorem d_C_peg_44 : decode m_C_peg.2.1 44 = .ok (.getfield 84, 3) := by decide +kernel
theorem d_C_peg_47 : decode m_C_peg.2.1 47 = .ok (.iload_n 1, 1) := by decide +kernel
theorem d_C_peg_48 : decode m_C_peg.2.1 48 = .ok (.iaload, 1) := by decide +kernel
theorem d_C_peg_49 : decode m_C_peg.2.1 49 = .ok (.ireturn, 1) := by decide +kernel
theorem d_C_peg_50 : decode m_C_peg.2.1 50 = .ok (.aload_n 0, 1) := by decide +kernel
theorem d_C_peg_51 : decode m_C_peg.2.1 51 = .ok (.getfield 19, 3) := by decide +kernel
theorem d_C_peg_54 : decode m_C_peg.2.1 54 = .ok (.getfield 88, 3) := by decide +kernel
theorem d_C_peg_57 : decode m_C_peg.2.1 57 = .ok (.iload_n 1, 1) := by decide +kernel
theorem d_C_peg_58 : decode m_C_peg.2.1 58 = .ok (.iaload, 1) := by decide +kernel
theorem d_C_peg_59 : decode m_C_peg.2.1 59 = .ok (.ireturn, 1) := by decide +kernel
theorem d_C_peg_60 : decode m_C_peg.2.1 60 = .ok (.aload_n 0, 1) := by decide +kernel
theorem d_C_peg_61 : decode m_C_peg.2.1 61 = .ok (.iload_n 1, 1) := by decide +kernel
theorem d_C_peg_62 : decode m_C_peg.2.1 62 = .ok (.invokevirtual 91, 3) := by decide +kernel
theorem d_C_peg_65 : decode m_C_peg.2.1 65 = .ok (.ifCond .eq 7, 3) := by decide +kernel
theorem d_C_peg_68 : decode m_C_peg.2.1 68 = .ok (.iconst 1, 1) := by decide +kernel
theorem d_C_peg_69 : decode m_C_peg.2.1 69 = .ok (.goto 4, 3) := by decide +kernel
theorem d_C_peg_72 : decode m_C_peg.2.1 72 = .ok (.iconst 0, 1) := by decide +kernel
theorem d_C_peg_73 : decode m_C_peg.2.1 73 = .ok (.ireturn, 1) := by decide +kernel
theorem d_C_peg_74 : decode m_C_peg.2.1 74 = .ok (.bipush (-2), 2) := by decide +kernel
theorem d_C_peg_76 : decode m_C_peg.2.1 76 = .ok (.ireturn, 1) := by decide +kernel
set_option maxHeartbeats 4000000 in
set_option maxRecDepth 20000 in
theorem c_C_peg (G : Gt) (x1 : Int32) (x2 : Int32) (h : Hp) : Cn G m_C_peg [.ref (ad G 0), .int x1, .int x2] h κi (f_C_peg x1 x2 h) := by
  refine entryV (by decide) (Nat.le_of_ble_eq_true rfl) rfl ?_
  show V G m_C_peg 0 [(0, .ref (ad G 0)), (1, .int x1), (2, .int x2)] [] h κi _
  unfold f_C_peg
  refine v_aload_n 0 d_C_peg_0 rfl rfl ?_
  refine v_getr 3 fl_C_19 o_0 rfl rfl d_C_peg_1 ?_
  refine v_iload_n 1 d_C_peg_4 rfl rfl ?_
  refine v_callVi (As := [.int x1]) (rest := []) (c_Fr_has G 3 x1 o_3 h) co_C_80 io_Fr_has o_3 ⟨by decide, by decide⟩ rfl rfl (Nat.le_of_ble_eq_true rfl) d_C_peg_5 (fun r1 h1 _ => ?_)
  refine v_if_ne 14 d_C_peg_8 (by decide) (fun c2 => ?_) (fun c2 => ?_)
  · refine v_bipush (-2) d_C_peg_11 rfl ?_
    exact v_iret rfl d_C_peg_13
  · refine v_iload_n 2 d_C_peg_14 rfl rfl ?_
    refine v_ite (fun c3 => ?_) (fun c3 => ?_)
    · refine v_tabIn (off := 25) 40 d_C_peg_15 (by rw [c3]; decide) (by rw [c3]; decide) (by rw [c3]; rfl) (by decide) ?_
      refine v_aload_n 0 d_C_peg_40 rfl rfl ?_
      refine v_getr 3 fl_C_19 o_0 rfl rfl d_C_peg_41 ?_
      refine v_getr 4 fl_C_84 o_3 rfl rfl d_C_peg_44 ?_
      refine v_iload_n 1 d_C_peg_47 rfl rfl ?_
      refine v_iald ar_4 d_C_peg_48 ?_
      exact v_iret rfl d_C_peg_49
    · refine v_ite (fun c4 => ?_) (fun c4 => ?_)
      · refine v_tabIn (off := 35) 50 d_C_peg_15 (by rw [c4]; decide) (by rw [c4]; decide) (by rw [c4]; rfl) (by decide) ?_
        refine v_aload_n 0 d_C_peg_50 rfl rfl ?_
        refine v_getr 3 fl_C_19 o_0 rfl rfl d_C_peg_51 ?_
        refine v_getr 5 fl_C_88 o_3 rfl rfl d_C_peg_54 ?_
        refine v_iload_n 1 d_C_peg_57 rfl rfl ?_
        refine v_iald ar_5 d_C_peg_58 ?_
        exact v_iret rfl d_C_peg_59
      · refine v_ite (fun c5 => ?_) (fun c5 => ?_)
        · refine v_tabIn (off := 45) 60 d_C_peg_15 (by rw [c5]; decide) (by rw [c5]; decide) (by rw [c5]; rfl) (by decide) ?_
          refine v_aload_n 0 d_C_peg_60 rfl rfl ?_
          refine v_iload_n 1 d_C_peg_61 rfl rfl ?_
          refine v_callVi (As := [.int x1]) (rest := []) (c_C_isHidden G x1 h1) co_C_91 io_C_isHidden o_0 ⟨by decide, by decide⟩ rfl rfl (Nat.le_of_ble_eq_true rfl) d_C_peg_62 (fun r6 h6 _ => ?_)
          refine v_if_eq 72 d_C_peg_65 (by decide) (fun c7 => ?_) (fun c7 => ?_)
          · refine v_iconst 0 d_C_peg_72 rfl ?_
            exact v_iret rfl d_C_peg_73
          · refine v_iconst 1 d_C_peg_68 rfl ?_
            refine v_goto 73 d_C_peg_69 (by decide) ?_
            exact v_iret rfl d_C_peg_73
        · refine v_tabOut 74 d_C_peg_15 (by have q0 := lv_neT (a := 0) c3 rfl; have q1 := lv_neT (a := 1) c4 rfl; have q2 := lv_neT (a := 2) c5 rfl; omega) (by decide) ?_
          refine v_bipush (-2) d_C_peg_74 rfl ?_
          exact v_iret rfl d_C_peg_76
theorem d_C_setHidden_0 : decode m_C_setHidden.2.1 0 = .ok (.aload_n 0, 1) := by decide +kernel
theorem d_C_setHidden_1 : decode m_C_setHidden.2.1 1 = .ok (.aload_n 0, 1) := by decide +kernel
theorem d_C_setHidden_2 : decode m_C_setHidden.2.1 2 = .ok (.getfield 49, 3) := by decide +kernel
theorem d_C_setHidden_5 : decode m_C_setHidden.2.1 5 = .ok (.iconst 1, 1) := by decide +kernel
theorem d_C_setHidden_6 : decode m_C_setHidden.2.1 6 = .ok (.iload_n 1, 1) := by decide +kernel
theorem d_C_setHidden_7 : decode m_C_setHidden.2.1 7 = .ok (.ishl, 1) := by decide +kernel
theorem d_C_setHidden_8 : decode m_C_setHidden.2.1 8 = .ok (.iconst (-1), 1) := by decide +kernel
theorem d_C_setHidden_9 : decode m_C_setHidden.2.1 9 = .ok (.ixor, 1) := by decide +kernel
theorem d_C_setHidden_10 : decode m_C_setHidden.2.1 10 = .ok (.iand, 1) := by decide +kernel
theorem d_C_setHidden_11 : decode m_C_setHidden.2.1 11 = .ok (.iload_n 2, 1) := by decide +kernel
theorem d_C_setHidden_12 : decode m_C_setHidden.2.1 12 = .ok (.iload_n 1, 1) := by decide +kernel
theorem d_C_setHidden_13 : decode m_C_setHidden.2.1 13 = .ok (.ishl, 1) := by decide +kernel
theorem d_C_setHidden_14 : decode m_C_setHidden.2.1 14 = .ok (.ior, 1) := by decide +kernel
theorem d_C_setHidden_15 : decode m_C_setHidden.2.1 15 = .ok (.putfield 49, 3) := by decide +kernel
theorem d_C_setHidden_18 : decode m_C_setHidden.2.1 18 = .ok (.return_, 1) := by decide +kernel
set_option maxHeartbeats 4000000 in
set_option maxRecDepth 20000 in
theorem c_C_setHidden (G : Gt) (x1 : Int32) (x2 : Int32) (h : Hp) : Cn G m_C_setHidden [.ref (ad G 0), .int x1, .int x2] h κv (f_C_setHidden x1 x2 h) := by
  refine entryV (by decide) (Nat.le_of_ble_eq_true rfl) rfl ?_
  show V G m_C_setHidden 0 [(0, .ref (ad G 0)), (1, .int x1), (2, .int x2)] [] h κv _
  unfold f_C_setHidden
  refine v_aload_n 0 d_C_setHidden_0 rfl rfl ?_
  refine v_aload_n 0 d_C_setHidden_1 rfl rfl ?_
  refine v_geti fl_C_49 o_0 rfl d_C_setHidden_2 ?_
  refine v_iconst 1 d_C_setHidden_5 rfl ?_
  refine v_iload_n 1 d_C_setHidden_6 rfl rfl ?_
  refine v_ishl d_C_setHidden_7 ?_
  refine v_iconst (-1) d_C_setHidden_8 rfl ?_
  refine v_ixor d_C_setHidden_9 ?_
  refine v_iand d_C_setHidden_10 ?_
  refine v_iload_n 2 d_C_setHidden_11 rfl rfl ?_
  refine v_iload_n 1 d_C_setHidden_12 rfl rfl ?_
  refine v_ishl d_C_setHidden_13 ?_
  refine v_ior d_C_setHidden_14 ?_
  refine v_puti fl_C_49 ft_5_7 rfl rfl o_0 rfl d_C_setHidden_15 ?_
  exact v_vret rfl d_C_setHidden_18
theorem d_C_hide_0 : decode m_C_hide.2.1 0 = .ok (.iload_n 1, 1) := by decide +kernel
theorem d_C_hide_1 : decode m_C_hide.2.1 1 = .ok (.ifCond .lt 18, 3) := by decide +kernel
theorem d_C_hide_4 : decode m_C_hide.2.1 4 = .ok (.iload_n 1, 1) := by decide +kernel
theorem d_C_hide_5 : decode m_C_hide.2.1 5 = .ok (.bipush 10, 2) := by decide +kernel
theorem d_C_hide_7 : decode m_C_hide.2.1 7 = .ok (.if_icmp .ge 12, 3) := by decide +kernel
theorem d_C_hide_10 : decode m_C_hide.2.1 10 = .ok (.iload_n 2, 1) := by decide +kernel
theorem d_C_hide_11 : decode m_C_hide.2.1 11 = .ok (.ifCond .lt 8, 3) := by decide +kernel
theorem d_C_hide_14 : decode m_C_hide.2.1 14 = .ok (.iload_n 2, 1) := by decide +kernel
theorem d_C_hide_15 : decode m_C_hide.2.1 15 = .ok (.iconst 1, 1) := by decide +kernel
theorem d_C_hide_16 : decode m_C_hide.2.1 16 = .ok (.if_icmp .le 6, 3) := by decide +kernel
theorem d_C_hide_19 : decode m_C_hide.2.1 19 = .ok (.bipush (-2), 2) := by decide +kernel
theorem d_C_hide_21 : decode m_C_hide.2.1 21 = .ok (.ireturn, 1) := by decide +kernel
theorem d_C_hide_22 : decode m_C_hide.2.1 22 = .ok (.aload_n 0, 1) := by decide +kernel
theorem d_C_hide_23 : decode m_C_hide.2.1 23 = .ok (.iload_n 1, 1) := by decide +kernel
theorem d_C_hide_24 : decode m_C_hide.2.1 24 = .ok (.invokevirtual 91, 3) := by decide +kernel
theorem d_C_hide_27 : decode m_C_hide.2.1 27 = .ok (.ifCond .eq 7, 3) := by decide +kernel
theorem d_C_hide_30 : decode m_C_hide.2.1 30 = .ok (.iconst 1, 1) := by decide +kernel
theorem d_C_hide_31 : decode m_C_hide.2.1 31 = .ok (.goto 4, 3) := by decide +kernel
theorem d_C_hide_34 : decode m_C_hide.2.1 34 = .ok (.iconst 0, 1) := by decide +kernel
theorem d_C_hide_35 : decode m_C_hide.2.1 35 = .ok (.istore_n 3, 1) := by decide +kernel
theorem d_C_hide_36 : decode m_C_hide.2.1 36 = .ok (.aload_n 0, 1) := by decide +kernel
theorem d_C_hide_37 : decode m_C_hide.2.1 37 = .ok (.iload_n 1, 1) := by decide +kernel
theorem d_C_hide_38 : decode m_C_hide.2.1 38 = .ok (.iload_n 2, 1) := by decide +kernel
theorem d_C_hide_39 : decode m_C_hide.2.1 39 = .ok (.invokevirtual 94, 3) := by decide +kernel
theorem d_C_hide_42 : decode m_C_hide.2.1 42 = .ok (.iload_n 3, 1) := by decide +kernel
theorem d_C_hide_43 : decode m_C_hide.2.1 43 = .ok (.ireturn, 1) := by decide +kernel
set_option maxHeartbeats 4000000 in
set_option maxRecDepth 20000 in
theorem c_C_hide (G : Gt) (x1 : Int32) (x2 : Int32) (h : Hp) : Cn G m_C_hide [.ref (ad G 0), .int x1, .int x2] h κi (f_C_hide x1 x2 h) := by
  refine entryV (by decide) (Nat.le_of_ble_eq_true rfl) rfl ?_
  show V G m_C_hide 0 [(0, .ref (ad G 0)), (1, .int x1), (2, .int x2)] [] h κi _
  unfold f_C_hide
  refine v_iload_n 1 d_C_hide_0 rfl rfl ?_
  refine v_if_lt 19 d_C_hide_1 (by decide) (fun c1 => ?_) (fun c1 => ?_)
  · refine v_bipush (-2) d_C_hide_19 rfl ?_
    exact v_iret rfl d_C_hide_21
  · refine v_iload_n 1 d_C_hide_4 rfl rfl ?_
    refine v_bipush 10 d_C_hide_5 rfl ?_
    refine v_icmp_ge 19 d_C_hide_7 (by decide) (fun c2 => ?_) (fun c2 => ?_)
    · refine v_bipush (-2) d_C_hide_19 rfl ?_
      exact v_iret rfl d_C_hide_21
    · refine v_iload_n 2 d_C_hide_10 rfl rfl ?_
      refine v_if_lt 19 d_C_hide_11 (by decide) (fun c3 => ?_) (fun c3 => ?_)
      · refine v_bipush (-2) d_C_hide_19 rfl ?_
        exact v_iret rfl d_C_hide_21
      · refine v_iload_n 2 d_C_hide_14 rfl rfl ?_
        refine v_iconst 1 d_C_hide_15 rfl ?_
        refine v_icmp_le 22 d_C_hide_16 (by decide) (fun c4 => ?_) (fun c4 => ?_)
        · refine v_aload_n 0 d_C_hide_22 rfl rfl ?_
          refine v_iload_n 1 d_C_hide_23 rfl rfl ?_
          refine v_callVi (As := [.int x1]) (rest := []) (c_C_isHidden G x1 h) co_C_91 io_C_isHidden o_0 ⟨by decide, by decide⟩ rfl rfl (Nat.le_of_ble_eq_true rfl) d_C_hide_24 (fun r5 h5 _ => ?_)
          refine v_if_eq 34 d_C_hide_27 (by decide) (fun c6 => ?_) (fun c6 => ?_)
          · refine v_iconst 0 d_C_hide_34 rfl ?_
            refine v_istore_n [(3, .int 0), (0, .ref (ad G 0)), (1, .int x1), (2, .int x2)] d_C_hide_35 rfl (by decide) rfl ?_
            refine v_aload_n 1 d_C_hide_36 rfl rfl ?_
            refine v_iload_n 2 d_C_hide_37 rfl rfl ?_
            refine v_iload_n 3 d_C_hide_38 rfl rfl ?_
            refine v_callVv (As := [.int x1, .int x2]) (rest := []) (c_C_setHidden G x1 x2 h5) co_C_94 io_C_setHidden o_0 ⟨by decide, by decide⟩ rfl rfl (Nat.le_of_ble_eq_true rfl) d_C_hide_39 (fun _ h7 _ => ?_)
            refine v_iload_n 0 d_C_hide_42 rfl rfl ?_
            exact v_iret rfl d_C_hide_43
          · refine v_iconst 1 d_C_hide_30 rfl ?_
            refine v_goto 35 d_C_hide_31 (by decide) ?_
            refine v_istore_n [(3, .int 1), (0, .ref (ad G 0)), (1, .int x1), (2, .int x2)] d_C_hide_35 rfl (by decide) rfl ?_
            refine v_aload_n 1 d_C_hide_36 rfl rfl ?_
            refine v_iload_n 2 d_C_hide_37 rfl rfl ?_
            refine v_iload_n 3 d_C_hide_38 rfl rfl ?_
            refine v_callVv (As := [.int x1, .int x2]) (rest := []) (c_C_setHidden G x1 x2 h5) co_C_94 io_C_setHidden o_0 ⟨by decide, by decide⟩ rfl rfl (Nat.le_of_ble_eq_true rfl) d_C_hide_39 (fun _ h8 _ => ?_)
            refine v_iload_n 0 d_C_hide_42 rfl rfl ?_
            exact v_iret rfl d_C_hide_43
        · refine v_bipush (-2) d_C_hide_19 rfl ?_
          exact v_iret rfl d_C_hide_21
theorem d_C_set_0 : decode m_C_set.2.1 0 = .ok (.iload_n 2, 1) := by decide +kernel
theorem d_C_set_1 : decode m_C_set.2.1 1 = .ok (.ifCond .ge 6, 3) := by decide +kernel
theorem d_C_set_4 : decode m_C_set.2.1 4 = .ok (.bipush (-2), 2) := by decide +kernel
theorem d_C_set_6 : decode m_C_set.2.1 6 = .ok (.ireturn, 1) := by decide +kernel
theorem d_C_set_7 : decode m_C_set.2.1 7 = .ok (.bipush (-2), 2) := by decide +kernel
theorem d_C_set_9 : decode m_C_set.2.1 9 = .ok (.istore_n 3, 1) := by decide +kernel
theorem d_C_set_10 : decode m_C_set.2.1 10 = .ok (.iload_n 1, 1) := by decide +kernel
theorem d_C_set_11 : decode m_C_set.2.1 11 = .ok (.ifCond .ne 23, 3) := by decide +kernel
theorem d_C_set_14 : decode m_C_set.2.1 14 = .ok (.iload_n 2, 1) := by decide +kernel
theorem d_C_set_15 : decode m_C_set.2.1 15 = .ok (.sipush 200, 3) := by decide +kernel
theorem d_C_set_18 : decode m_C_set.2.1 18 = .ok (.if_icmp .gt 16, 3) := by decide +kernel
theorem d_C_set_21 : decode m_C_set.2.1 21 = .ok (.aload_n 0, 1) := by decide +kernel
theorem d_C_set_22 : decode m_C_set.2.1 22 = .ok (.getfield 52, 3) := by decide +kernel
theorem d_C_set_25 : decode m_C_set.2.1 25 = .ok (.istore_n 3, 1) := by decide +kernel
theorem d_C_set_26 : decode m_C_set.2.1 26 = .ok (.aload_n 0, 1) := by decide +kernel
theorem d_C_set_27 : decode m_C_set.2.1 27 = .ok (.iload_n 2, 1) := by decide +kernel
theorem d_C_set_28 : decode m_C_set.2.1 28 = .ok (.putfield 52, 3) := by decide +kernel
theorem d_C_set_31 : decode m_C_set.2.1 31 = .ok (.goto 48, 3) := by decide +kernel
theorem d_C_set_34 : decode m_C_set.2.1 34 = .ok (.iload_n 1, 1) := by decide +kernel
theorem d_C_set_35 : decode m_C_set.2.1 35 = .ok (.iconst 1, 1) := by decide +kernel
theorem d_C_set_36 : decode m_C_set.2.1 36 = .ok (.if_icmp .ne 22, 3) := by decide +kernel
theorem d_C_set_39 : decode m_C_set.2.1 39 = .ok (.iload_n 2, 1) := by decide +kernel
theorem d_C_set_40 : decode m_C_set.2.1 40 = .ok (.bipush 9, 2) := by decide +kernel
theorem d_C_set_42 : decode m_C_set.2.1 42 = .ok (.if_icmp .gt 16, 3) := by decide +kernel
theorem d_C_set_45 : decode m_C_set.2.1 45 = .ok (.aload_n 0, 1) := by decide +kernel
theorem d_C_set_46 : decode m_C_set.2.1 46 = .ok (.getfield 55, 3) := by decide +kernel
theorem d_C_set_49 : decode m_C_set.2.1 49 = .ok (.istore_n 3, 1) := by decide +kernel
theorem d_C_set_50 : decode m_C_set.2.1 50 = .ok (.aload_n 0, 1) := by decide +kernel
theorem d_C_set_51 : decode m_C_set.2.1 51 = .ok (.iload_n 2, 1) := by decide +kernel
theorem d_C_set_52 : decode m_C_set.2.1 52 = .ok (.putfield 55, 3) := by decide +kernel
theorem d_C_set_55 : decode m_C_set.2.1 55 = .ok (.goto 24, 3) := by decide +kernel
theorem d_C_set_58 : decode m_C_set.2.1 58 = .ok (.iload_n 1, 1) := by decide +kernel
theorem d_C_set_59 : decode m_C_set.2.1 59 = .ok (.iconst 2, 1) := by decide +kernel
theorem d_C_set_60 : decode m_C_set.2.1 60 = .ok (.if_icmp .ne 19, 3) := by decide +kernel
theorem d_C_set_63 : decode m_C_set.2.1 63 = .ok (.iload_n 2, 1) := by decide +kernel
theorem d_C_set_64 : decode m_C_set.2.1 64 = .ok (.bipush 9, 2) := by decide +kernel
theorem d_C_set_66 : decode m_C_set.2.1 66 = .ok (.if_icmp .gt 13, 3) := by decide +kernel
theorem d_C_set_69 : decode m_C_set.2.1 69 = .ok (.aload_n 0, 1) := by decide +kernel
theorem d_C_set_70 : decode m_C_set.2.1 70 = .ok (.getfield 58, 3) := by decide +kernel
theorem d_C_set_73 : decode m_C_set.2.1 73 = .ok (.istore_n 3, 1) := by decide +kernel
theorem d_C_set_74 : decode m_C_set.2.1 74 = .ok (.aload_n 0, 1) := by decide +kernel
theorem d_C_set_75 : decode m_C_set.2.1 75 = .ok (.iload_n 2, 1) := by decide +kernel
theorem d_C_set_76 : decode m_C_set.2.1 76 = .ok (.putfield 58, 3) := by decide +kernel
theorem d_C_set_79 : decode m_C_set.2.1 79 = .ok (.iload_n 3, 1) := by decide +kernel
theorem d_C_set_80 : decode m_C_set.2.1 80 = .ok (.ireturn, 1) := by decide +kernel
set_option maxHeartbeats 4000000 in
set_option maxRecDepth 20000 in
theorem c_C_set (G : Gt) (x1 : Int32) (x2 : Int32) (h : Hp) : Cn G m_C_set [.ref (ad G 0), .int x1, .int x2] h κi (f_C_set x1 x2 h) := by
  refine entryV (by decide) (Nat.le_of_ble_eq_true rfl) rfl ?_
  show V G m_C_set 0 [(0, .ref (ad G 0)), (1, .int x1), (2, .int x2)] [] h κi _
  unfold f_C_set
  refine v_iload_n 2 d_C_set_0 rfl rfl ?_
  refine v_if_ge 7 d_C_set_1 (by decide) (fun c1 => ?_) (fun c1 => ?_)
  · refine v_bipush (-2) d_C_set_7 rfl ?_
    refine v_istore_n [(3, .int (-2)), (0, .ref (ad G 0)), (1, .int x1), (2, .int x2)] d_C_set_9 rfl (by decide) rfl ?_
    refine v_iload_n 2 d_C_set_10 rfl rfl ?_
    refine v_if_ne 34 d_C_set_11 (by decide) (fun c2 => ?_) (fun c2 => ?_)
    · refine v_iload_n 3 d_C_set_14 rfl rfl ?_
      refine v_sipush 200 d_C_set_15 rfl ?_
      refine v_icmp_gt 34 d_C_set_18 (by decide) (fun c3 => ?_) (fun c3 => ?_)
      · refine v_iload_n 2 d_C_set_34 rfl rfl ?_
        refine v_iconst 1 d_C_set_35 rfl ?_
        refine v_icmp_ne 58 d_C_set_36 (by decide) (fun c4 => ?_) (fun c4 => ?_)
        · refine v_iload_n 3 d_C_set_39 rfl rfl ?_
          refine v_bipush 9 d_C_set_40 rfl ?_
          refine v_icmp_gt 58 d_C_set_42 (by decide) (fun c5 => ?_) (fun c5 => ?_)
          · refine v_iload_n 2 d_C_set_58 rfl rfl ?_
            refine v_iconst 2 d_C_set_59 rfl ?_
            refine v_icmp_ne 79 d_C_set_60 (by decide) (fun c6 => ?_) (fun c6 => ?_)
            · refine v_iload_n 3 d_C_set_63 rfl rfl ?_
              refine v_bipush 9 d_C_set_64 rfl ?_
              refine v_icmp_gt_t 79 d_C_set_66 (by decide) c5 ?_
              refine v_iload_n 0 d_C_set_79 rfl rfl ?_
              exact v_iret rfl d_C_set_80
            · refine v_iload_n 0 d_C_set_79 rfl rfl ?_
              exact v_iret rfl d_C_set_80
          · refine v_aload_n 1 d_C_set_45 rfl rfl ?_
            refine v_geti fl_C_55 o_0 rfl d_C_set_46 ?_
            refine v_istore_n [(3, .int (h 0 9)), (0, .ref (ad G 0)), (1, .int x1), (2, .int x2)] d_C_set_49 rfl (by decide) rfl ?_
            refine v_aload_n 1 d_C_set_50 rfl rfl ?_
            refine v_iload_n 3 d_C_set_51 rfl rfl ?_
            refine v_puti fl_C_55 ft_5_9 rfl rfl o_0 rfl d_C_set_52 ?_
            refine v_goto 79 d_C_set_55 (by decide) ?_
            refine v_iload_n 0 d_C_set_79 rfl rfl ?_
            exact v_iret rfl d_C_set_80
        · refine v_iload_n 2 d_C_set_58 rfl rfl ?_
          refine v_iconst 2 d_C_set_59 rfl ?_
          refine v_icmp_ne 79 d_C_set_60 (by decide) (fun c7 => ?_) (fun c7 => ?_)
          · refine v_iload_n 3 d_C_set_63 rfl rfl ?_
            refine v_bipush 9 d_C_set_64 rfl ?_
            refine v_icmp_gt 79 d_C_set_66 (by decide) (fun c8 => ?_) (fun c8 => ?_)
            · refine v_iload_n 0 d_C_set_79 rfl rfl ?_
              exact v_iret rfl d_C_set_80
            · refine v_aload_n 1 d_C_set_69 rfl rfl ?_
              refine v_geti fl_C_58 o_0 rfl d_C_set_70 ?_
              refine v_istore_n [(3, .int (h 0 10)), (0, .ref (ad G 0)), (1, .int x1), (2, .int x2)] d_C_set_73 rfl (by decide) rfl ?_
              refine v_aload_n 1 d_C_set_74 rfl rfl ?_
              refine v_iload_n 3 d_C_set_75 rfl rfl ?_
              refine v_puti fl_C_58 ft_5_10 rfl rfl o_0 rfl d_C_set_76 ?_
              refine v_iload_n 0 d_C_set_79 rfl rfl ?_
              exact v_iret rfl d_C_set_80
          · refine v_iload_n 0 d_C_set_79 rfl rfl ?_
            exact v_iret rfl d_C_set_80
      · refine v_aload_n 1 d_C_set_21 rfl rfl ?_
        refine v_geti fl_C_52 o_0 rfl d_C_set_22 ?_
        refine v_istore_n [(3, .int (h 0 8)), (0, .ref (ad G 0)), (1, .int x1), (2, .int x2)] d_C_set_25 rfl (by decide) rfl ?_
        refine v_aload_n 1 d_C_set_26 rfl rfl ?_
        refine v_iload_n 3 d_C_set_27 rfl rfl ?_
        refine v_puti fl_C_52 ft_5_8 rfl rfl o_0 rfl d_C_set_28 ?_
        refine v_goto 79 d_C_set_31 (by decide) ?_
        refine v_iload_n 0 d_C_set_79 rfl rfl ?_
        exact v_iret rfl d_C_set_80
    · refine v_iload_n 2 d_C_set_34 rfl rfl ?_
      refine v_iconst 1 d_C_set_35 rfl ?_
      refine v_icmp_ne 58 d_C_set_36 (by decide) (fun c9 => ?_) (fun c9 => ?_)
      · refine v_iload_n 3 d_C_set_39 rfl rfl ?_
        refine v_bipush 9 d_C_set_40 rfl ?_
        refine v_icmp_gt 58 d_C_set_42 (by decide) (fun c10 => ?_) (fun c10 => ?_)
        · refine v_iload_n 2 d_C_set_58 rfl rfl ?_
          refine v_iconst 2 d_C_set_59 rfl ?_
          refine v_icmp_ne 79 d_C_set_60 (by decide) (fun c11 => ?_) (fun c11 => ?_)
          · refine v_iload_n 3 d_C_set_63 rfl rfl ?_
            refine v_bipush 9 d_C_set_64 rfl ?_
            refine v_icmp_gt_t 79 d_C_set_66 (by decide) c10 ?_
            refine v_iload_n 0 d_C_set_79 rfl rfl ?_
            exact v_iret rfl d_C_set_80
          · refine v_iload_n 0 d_C_set_79 rfl rfl ?_
            exact v_iret rfl d_C_set_80
        · refine v_aload_n 1 d_C_set_45 rfl rfl ?_
          refine v_geti fl_C_55 o_0 rfl d_C_set_46 ?_
          refine v_istore_n [(3, .int (h 0 9)), (0, .ref (ad G 0)), (1, .int x1), (2, .int x2)] d_C_set_49 rfl (by decide) rfl ?_
          refine v_aload_n 1 d_C_set_50 rfl rfl ?_
          refine v_iload_n 3 d_C_set_51 rfl rfl ?_
          refine v_puti fl_C_55 ft_5_9 rfl rfl o_0 rfl d_C_set_52 ?_
          refine v_goto 79 d_C_set_55 (by decide) ?_
          refine v_iload_n 0 d_C_set_79 rfl rfl ?_
          exact v_iret rfl d_C_set_80
      · refine v_iload_n 2 d_C_set_58 rfl rfl ?_
        refine v_iconst 2 d_C_set_59 rfl ?_
        refine v_icmp_ne 79 d_C_set_60 (by decide) (fun c12 => ?_) (fun c12 => ?_)
        · refine v_iload_n 3 d_C_set_63 rfl rfl ?_
          refine v_bipush 9 d_C_set_64 rfl ?_
          refine v_icmp_gt 79 d_C_set_66 (by decide) (fun c13 => ?_) (fun c13 => ?_)
          · refine v_iload_n 0 d_C_set_79 rfl rfl ?_
            exact v_iret rfl d_C_set_80
          · refine v_aload_n 1 d_C_set_69 rfl rfl ?_
            refine v_geti fl_C_58 o_0 rfl d_C_set_70 ?_
            refine v_istore_n [(3, .int (h 0 10)), (0, .ref (ad G 0)), (1, .int x1), (2, .int x2)] d_C_set_73 rfl (by decide) rfl ?_
            refine v_aload_n 1 d_C_set_74 rfl rfl ?_
            refine v_iload_n 3 d_C_set_75 rfl rfl ?_
            refine v_puti fl_C_58 ft_5_10 rfl rfl o_0 rfl d_C_set_76 ?_
            refine v_iload_n 0 d_C_set_79 rfl rfl ?_
            exact v_iret rfl d_C_set_80
        · refine v_iload_n 0 d_C_set_79 rfl rfl ?_
          exact v_iret rfl d_C_set_80
  · refine v_bipush (-2) d_C_set_4 rfl ?_
    exact v_iret rfl d_C_set_6
theorem d_C_isSheet_0 : decode m_C_isSheet.2.1 0 = .ok (.iload_n 0, 1) := by decide +kernel
theorem d_C_isSheet_1 : decode m_C_isSheet.2.1 1 = .ok (.ifCond .lt 12, 3) := by decide +kernel
theorem d_C_isSheet_4 : decode m_C_isSheet.2.1 4 = .ok (.iload_n 0, 1) := by decide +kernel
theorem d_C_isSheet_5 : decode m_C_isSheet.2.1 5 = .ok (.iconst 4, 1) := by decide +kernel
theorem d_C_isSheet_6 : decode m_C_isSheet.2.1 6 = .ok (.if_icmp .ge 7, 3) := by decide +kernel
theorem d_C_isSheet_9 : decode m_C_isSheet.2.1 9 = .ok (.iconst 1, 1) := by decide +kernel
theorem d_C_isSheet_10 : decode m_C_isSheet.2.1 10 = .ok (.goto 4, 3) := by decide +kernel
theorem d_C_isSheet_13 : decode m_C_isSheet.2.1 13 = .ok (.iconst 0, 1) := by decide +kernel
theorem d_C_isSheet_14 : decode m_C_isSheet.2.1 14 = .ok (.ireturn, 1) := by decide +kernel
set_option maxHeartbeats 4000000 in
set_option maxRecDepth 20000 in
theorem c_C_isSheet (G : Gt) (x0 : Int32) (h : Hp) : Cn G m_C_isSheet [.int x0] h κi (f_C_isSheet x0 h) := by
  refine entryV (by decide) (Nat.le_of_ble_eq_true rfl) rfl ?_
  show V G m_C_isSheet 0 [(0, .int x0)] [] h κi _
  unfold f_C_isSheet
  refine v_iload_n 0 d_C_isSheet_0 rfl rfl ?_
  refine v_if_lt 13 d_C_isSheet_1 (by decide) (fun c1 => ?_) (fun c1 => ?_)
  · refine v_iconst 0 d_C_isSheet_13 rfl ?_
    exact v_zretL rfl rfl d_C_isSheet_14
  · refine v_iload_n 0 d_C_isSheet_4 rfl rfl ?_
    refine v_iconst 4 d_C_isSheet_5 rfl ?_
    refine v_icmp_ge 13 d_C_isSheet_6 (by decide) (fun c2 => ?_) (fun c2 => ?_)
    · refine v_iconst 0 d_C_isSheet_13 rfl ?_
      exact v_zretL rfl rfl d_C_isSheet_14
    · refine v_iconst 1 d_C_isSheet_9 rfl ?_
      refine v_goto 14 d_C_isSheet_10 (by decide) ?_
      exact v_zretL rfl rfl d_C_isSheet_14
theorem d_C_found_0 : decode m_C_found.2.1 0 = .ok (.aload_n 0, 1) := by decide +kernel
theorem d_C_found_1 : decode m_C_found.2.1 1 = .ok (.iload_n 1, 1) := by decide +kernel
theorem d_C_found_2 : decode m_C_found.2.1 2 = .ok (.putfield 61, 3) := by decide +kernel
theorem d_C_found_5 : decode m_C_found.2.1 5 = .ok (.bipush (-10), 2) := by decide +kernel
theorem d_C_found_7 : decode m_C_found.2.1 7 = .ok (.iload_n 1, 1) := by decide +kernel
theorem d_C_found_8 : decode m_C_found.2.1 8 = .ok (.isub, 1) := by decide +kernel
theorem d_C_found_9 : decode m_C_found.2.1 9 = .ok (.ireturn, 1) := by decide +kernel
set_option maxHeartbeats 4000000 in
set_option maxRecDepth 20000 in
theorem c_C_found (G : Gt) (x1 : Int32) (h : Hp) : Cn G m_C_found [.ref (ad G 0), .int x1] h κi (f_C_found x1 h) := by
  refine entryV (by decide) (Nat.le_of_ble_eq_true rfl) rfl ?_
  show V G m_C_found 0 [(0, .ref (ad G 0)), (1, .int x1)] [] h κi _
  unfold f_C_found
  refine v_aload_n 0 d_C_found_0 rfl rfl ?_
  refine v_iload_n 1 d_C_found_1 rfl rfl ?_
  refine v_puti fl_C_61 ft_5_11 rfl rfl o_0 rfl d_C_found_2 ?_
  refine v_bipush (-10) d_C_found_5 rfl ?_
  refine v_iload_n 1 d_C_found_7 rfl rfl ?_
  refine v_isub d_C_found_8 ?_
  exact v_iret rfl d_C_found_9
theorem d_Ma_min_0 : decode m_Ma_min.2.1 0 = .ok (.iload_n 0, 1) := by decide +kernel
theorem d_Ma_min_1 : decode m_Ma_min.2.1 1 = .ok (.iload_n 1, 1) := by decide +kernel
theorem d_Ma_min_2 : decode m_Ma_min.2.1 2 = .ok (.if_icmp .gt 7, 3) := by decide +kernel
theorem d_Ma_min_5 : decode m_Ma_min.2.1 5 = .ok (.iload_n 0, 1) := by decide +kernel
theorem d_Ma_min_6 : decode m_Ma_min.2.1 6 = .ok (.goto 4, 3) := by decide +kernel
theorem d_Ma_min_9 : decode m_Ma_min.2.1 9 = .ok (.iload_n 1, 1) := by decide +kernel
theorem d_Ma_min_10 : decode m_Ma_min.2.1 10 = .ok (.ireturn, 1) := by decide +kernel
set_option maxHeartbeats 4000000 in
set_option maxRecDepth 20000 in
theorem c_Ma_min (G : Gt) (x0 : Int32) (x1 : Int32) (h : Hp) : Cn G m_Ma_min [.int x0, .int x1] h κi (f_Ma_min x0 x1 h) := by
  refine entryV (by decide) (Nat.le_of_ble_eq_true rfl) rfl ?_
  show V G m_Ma_min 0 [(0, .int x0), (1, .int x1)] [] h κi _
  unfold f_Ma_min
  refine v_iload_n 0 d_Ma_min_0 rfl rfl ?_
  refine v_iload_n 1 d_Ma_min_1 rfl rfl ?_
  refine v_icmp_gt 9 d_Ma_min_2 (by decide) (fun c1 => ?_) (fun c1 => ?_)
  · refine v_iload_n 1 d_Ma_min_9 rfl rfl ?_
    exact v_iret rfl d_Ma_min_10
  · refine v_iload_n 0 d_Ma_min_5 rfl rfl ?_
    refine v_goto 10 d_Ma_min_6 (by decide) ?_
    exact v_iret rfl d_Ma_min_10
theorem d_C_read_0 : decode m_C_read.2.1 0 = .ok (.iload_n 1, 1) := by decide +kernel
theorem d_C_read_1 : decode m_C_read.2.1 1 = .ok (.invokestatic 98, 3) := by decide +kernel
theorem d_C_read_4 : decode m_C_read.2.1 4 = .ok (.ifCond .ne 6, 3) := by decide +kernel
theorem d_C_read_7 : decode m_C_read.2.1 7 = .ok (.bipush (-2), 2) := by decide +kernel
theorem d_C_read_9 : decode m_C_read.2.1 9 = .ok (.ireturn, 1) := by decide +kernel
theorem d_C_read_10 : decode m_C_read.2.1 10 = .ok (.aload_n 0, 1) := by decide +kernel
theorem d_C_read_11 : decode m_C_read.2.1 11 = .ok (.getfield 41, 3) := by decide +kernel
theorem d_C_read_14 : decode m_C_read.2.1 14 = .ok (.iload_n 1, 1) := by decide +kernel
theorem d_C_read_15 : decode m_C_read.2.1 15 = .ok (.aaload, 1) := by decide +kernel
theorem d_C_read_16 : decode m_C_read.2.1 16 = .ok (.astore_n 2, 1) := by decide +kernel
theorem d_C_read_17 : decode m_C_read.2.1 17 = .ok (.aload_n 2, 1) := by decide +kernel
theorem d_C_read_18 : decode m_C_read.2.1 18 = .ok (.getfield 101, 3) := by decide +kernel
theorem d_C_read_21 : decode m_C_read.2.1 21 = .ok (.ifCond .eq 9, 3) := by decide +kernel
theorem d_C_read_24 : decode m_C_read.2.1 24 = .ok (.aload_n 0, 1) := by decide +kernel
theorem d_C_read_25 : decode m_C_read.2.1 25 = .ok (.iconst 1, 1) := by decide +kernel
theorem d_C_read_26 : decode m_C_read.2.1 26 = .ok (.invokevirtual 105, 3) := by decide +kernel
theorem d_C_read_29 : decode m_C_read.2.1 29 = .ok (.ireturn, 1) := by decide +kernel
theorem d_C_read_30 : decode m_C_read.2.1 30 = .ok (.aload_n 2, 1) := by decide +kernel
theorem d_C_read_31 : decode m_C_read.2.1 31 = .ok (.getfield 109, 3) := by decide +kernel
theorem d_C_read_34 : decode m_C_read.2.1 34 = .ok (.bipush 10, 2) := by decide +kernel
theorem d_C_read_36 : decode m_C_read.2.1 36 = .ok (.invokestatic 110, 3) := by decide +kernel
theorem d_C_read_39 : decode m_C_read.2.1 39 = .ok (.istore_n 3, 1) := by decide +kernel
theorem d_C_read_40 : decode m_C_read.2.1 40 = .ok (.iconst 0, 1) := by decide +kernel
theorem d_C_read_41 : decode m_C_read.2.1 41 = .ok (.istore 4, 2) := by decide +kernel
theorem d_C_read_43 : decode m_C_read.2.1 43 = .ok (.iload 4, 2) := by decide +kernel
theorem d_C_read_45 : decode m_C_read.2.1 45 = .ok (.iload_n 3, 1) := by decide +kernel
theorem d_C_read_46 : decode m_C_read.2.1 46 = .ok (.if_icmp .ge 40, 3) := by decide +kernel
theorem d_C_read_49 : decode m_C_read.2.1 49 = .ok (.aload_n 2, 1) := by decide +kernel
theorem d_C_read_50 : decode m_C_read.2.1 50 = .ok (.getfield 116, 3) := by decide +kernel
theorem d_C_read_53 : decode m_C_read.2.1 53 = .ok (.iload 4, 2) := by decide +kernel
theorem d_C_read_55 : decode m_C_read.2.1 55 = .ok (.iaload, 1) := by decide +kernel
theorem d_C_read_56 : decode m_C_read.2.1 56 = .ok (.istore 5, 2) := by decide +kernel
theorem d_C_read_58 : decode m_C_read.2.1 58 = .ok (.iload 5, 2) := by decide +kernel
theorem d_C_read_60 : decode m_C_read.2.1 60 = .ok (.ifCond .eq 12, 3) := by decide +kernel
theorem d_C_read_63 : decode m_C_read.2.1 63 = .ok (.iload 5, 2) := by decide +kernel
theorem d_C_read_65 : decode m_C_read.2.1 65 = .ok (.iconst 1, 1) := by decide +kernel
theorem d_C_read_66 : decode m_C_read.2.1 66 = .ok (.if_icmp .eq 6, 3) := by decide +kernel
theorem d_C_read_69 : decode m_C_read.2.1 69 = .ok (.iload 4, 2) := by decide +kernel
theorem d_C_read_71 : decode m_C_read.2.1 71 = .ok (.ireturn, 1) := by decide +kernel
theorem d_C_read_72 : decode m_C_read.2.1 72 = .ok (.aload_n 0, 1) := by decide +kernel
theorem d_C_read_73 : decode m_C_read.2.1 73 = .ok (.iload 4, 2) := by decide +kernel
theorem d_C_read_75 : decode m_C_read.2.1 75 = .ok (.iload 5, 2) := by decide +kernel
theorem d_C_read_77 : decode m_C_read.2.1 77 = .ok (.invokevirtual 94, 3) := by decide +kernel
theorem d_C_read_80 : decode m_C_read.2.1 80 = .ok (.iinc 4 1, 3) := by decide +kernel
theorem d_C_read_83 : decode m_C_read.2.1 83 = .ok (.goto (-40), 3) := by decide +kernel
theorem d_C_read_86 : decode m_C_read.2.1 86 = .ok (.iload_n 3, 1) := by decide +kernel
theorem d_C_read_87 : decode m_C_read.2.1 87 = .ok (.ireturn, 1) := by decide +kernel
set_option maxHeartbeats 4000000 in
set_option maxRecDepth 20000 in
theorem Vl_C_read_43 (G : Gt) : ∀ (n : Nat) (a2 : Nat) (x3 : Int32) (x4 : Int32) (ha2 : isO 2 a2) (h : Hp), V G m_C_read 43 [(0, .ref (ad G 0)), (2, .ref (ad G a2)), (3, .int x3), (4, .int x4)] [] h κi (l_C_read_43 n a2 x3 x4 h) := by
  intro n
  induction n with
  | zero => intros; exact v_none
  | succ n ih =>
    intro a2 x3 x4 ha2 h
    rw [l_C_read_43]
    refine v_iload 3 d_C_read_43 rfl ?_
    refine v_iload_n 2 d_C_read_45 rfl rfl ?_
    refine v_icmp_ge 86 d_C_read_46 (by decide) (fun c6 => ?_) (fun c6 => ?_)
    · refine v_iload_n 2 d_C_read_86 rfl rfl ?_
      exact v_iret rfl d_C_read_87
    · refine v_aload_n 1 d_C_read_49 rfl rfl ?_
      refine v_getr (a2 + 1) fl_C_116 ha2 rfl rfl d_C_read_50 ?_
      refine v_iload 3 d_C_read_53 rfl ?_
      refine v_iald (shA ha2) d_C_read_55 ?_
      refine v_istore [(5, .int (h (a2 + 1) (ix x4))), (0, .ref (ad G 0)), (2, .ref (ad G a2)), (3, .int x3), (4, .int x4)] d_C_read_56 (by decide) rfl ?_
      refine v_iload 0 d_C_read_58 rfl ?_
      refine v_if_eq 72 d_C_read_60 (by decide) (fun c7 => ?_) (fun c7 => ?_)
      · refine v_aload_n 1 d_C_read_72 rfl rfl ?_
        refine v_iload 4 d_C_read_73 rfl ?_
        refine v_iload 0 d_C_read_75 rfl ?_
        refine v_callVv (As := [.int x4, .int (h (a2 + 1) (ix x4))]) (rest := []) (c_C_setHidden G x4 (h (a2 + 1) (ix x4)) h) co_C_94 io_C_setHidden o_0 ⟨by decide, by decide⟩ rfl rfl (Nat.le_of_ble_eq_true rfl) d_C_read_77 (fun _ h8 _ => ?_)
        refine v_iinc (x4 + 1) 4 [(4, .int (x4 + 1)), (5, .int (h (a2 + 1) (ix x4))), (0, .ref (ad G 0)), (2, .ref (ad G a2)), (3, .int x3)] d_C_read_80 rfl rfl (by decide) rfl ?_
        refine v_goto 43 d_C_read_83 (by decide) ?_
        exact v_sub [2, 3, 4, 0] rfl (ih a2 x3 (x4 + 1) ha2 h8)
      · refine v_iload 0 d_C_read_63 rfl ?_
        refine v_iconst 1 d_C_read_65 rfl ?_
        refine v_icmp_eq 72 d_C_read_66 (by decide) (fun c9 => ?_) (fun c9 => ?_)
        · refine v_aload_n 1 d_C_read_72 rfl rfl ?_
          refine v_iload 4 d_C_read_73 rfl ?_
          refine v_iload 0 d_C_read_75 rfl ?_
          refine v_callVv (As := [.int x4, .int (h (a2 + 1) (ix x4))]) (rest := []) (c_C_setHidden G x4 (h (a2 + 1) (ix x4)) h) co_C_94 io_C_setHidden o_0 ⟨by decide, by decide⟩ rfl rfl (Nat.le_of_ble_eq_true rfl) d_C_read_77 (fun _ h10 _ => ?_)
          refine v_iinc (x4 + 1) 4 [(4, .int (x4 + 1)), (5, .int (h (a2 + 1) (ix x4))), (0, .ref (ad G 0)), (2, .ref (ad G a2)), (3, .int x3)] d_C_read_80 rfl rfl (by decide) rfl ?_
          refine v_goto 43 d_C_read_83 (by decide) ?_
          exact v_sub [2, 3, 4, 0] rfl (ih a2 x3 (x4 + 1) ha2 h10)
        · refine v_iload 4 d_C_read_69 rfl ?_
          exact v_iret rfl d_C_read_71
set_option maxHeartbeats 4000000 in
set_option maxRecDepth 20000 in
theorem c_C_read (G : Gt) (x1 : Int32) (h : Hp) : Cn G m_C_read [.ref (ad G 0), .int x1] h κi (f_C_read x1 h) := by
  refine entryV (by decide) (Nat.le_of_ble_eq_true rfl) rfl ?_
  show V G m_C_read 0 [(0, .ref (ad G 0)), (1, .int x1)] [] h κi _
  unfold f_C_read
  refine v_iload_n 1 d_C_read_0 rfl rfl ?_
  refine v_callSi (As := [.int x1]) (rest := []) (c_C_isSheet G x1 h) co_C_98 so_C_isSheet ⟨by decide, by decide⟩ rfl rfl (Nat.le_of_ble_eq_true rfl) d_C_read_1 (fun r1 h1 _ => ?_)
  refine v_if_ne 10 d_C_read_4 (by decide) (fun c2 => ?_) (fun c2 => ?_)
  · refine v_bipush (-2) d_C_read_7 rfl ?_
    exact v_iret rfl d_C_read_9
  · refine v_aload_n 0 d_C_read_10 rfl rfl ?_
    refine v_getr 14 fl_C_41 o_0 rfl rfl d_C_read_11 ?_
    refine v_iload_n 1 d_C_read_14 rfl rfl ?_
    refine v_aald3 (23 + 2 * ix x1) rfl ar_14 d_C_read_15 (fun b3 => ?_)
    refine v_astore_n [(2, .ref (ad G (23 + 2 * ix x1))), (0, .ref (ad G 0)), (1, .int x1)] d_C_read_16 rfl (by decide) rfl ?_
    refine v_aload_n 0 d_C_read_17 rfl rfl ?_
    refine v_geti fl_C_101 (sh_o b3) rfl d_C_read_18 ?_
    refine v_if_eq 30 d_C_read_21 (by decide) (fun c4 => ?_) (fun c4 => ?_)
    · refine v_aload_n 0 d_C_read_30 rfl rfl ?_
      refine v_geti fl_C_109 (sh_o b3) rfl d_C_read_31 ?_
      refine v_bipush 10 d_C_read_34 rfl ?_
      refine v_callSi (As := [.int (h1 (23 + 2 * ix x1) 3), .int 10]) (rest := []) (c_Ma_min G (h1 (23 + 2 * ix x1) 3) 10 h1) co_C_110 so_Ma_min ⟨by decide, by decide⟩ rfl rfl (Nat.le_of_ble_eq_true rfl) d_C_read_36 (fun r5 h5 _ => ?_)
      refine v_istore_n [(3, .int r5), (2, .ref (ad G (23 + 2 * ix x1))), (0, .ref (ad G 0)), (1, .int x1)] d_C_read_39 rfl (by decide) rfl ?_
      refine v_iconst 0 d_C_read_40 rfl ?_
      refine v_istore [(4, .int 0), (3, .int r5), (2, .ref (ad G (23 + 2 * ix x1))), (0, .ref (ad G 0)), (1, .int x1)] d_C_read_41 (by decide) rfl ?_
      exact v_sub [3, 2, 1, 0] rfl (Vl_C_read_43 G FUEL (23 + 2 * ix x1) r5 0 (sh_o b3) h5)
    · refine v_aload_n 1 d_C_read_24 rfl rfl ?_
      refine v_iconst 1 d_C_read_25 rfl ?_
      refine v_callVi (As := [.int 1]) (rest := []) (c_C_found G 1 h1) co_C_105 io_C_found o_0 ⟨by decide, by decide⟩ rfl rfl (Nat.le_of_ble_eq_true rfl) d_C_read_26 (fun r11 h11 _ => ?_)
      exact v_iret rfl d_C_read_29
theorem d_Ma_abs_0 : decode m_Ma_abs.2.1 0 = .ok (.iload_n 0, 1) := by decide +kernel
theorem d_Ma_abs_1 : decode m_Ma_abs.2.1 1 = .ok (.ifCond .ge 8, 3) := by decide +kernel
theorem d_Ma_abs_4 : decode m_Ma_abs.2.1 4 = .ok (.iload_n 0, 1) := by decide +kernel
theorem d_Ma_abs_5 : decode m_Ma_abs.2.1 5 = .ok (.ineg, 1) := by decide +kernel
theorem d_Ma_abs_6 : decode m_Ma_abs.2.1 6 = .ok (.goto 4, 3) := by decide +kernel
theorem d_Ma_abs_9 : decode m_Ma_abs.2.1 9 = .ok (.iload_n 0, 1) := by decide +kernel
theorem d_Ma_abs_10 : decode m_Ma_abs.2.1 10 = .ok (.ireturn, 1) := by decide +kernel
set_option maxHeartbeats 4000000 in
set_option maxRecDepth 20000 in
theorem c_Ma_abs (G : Gt) (x0 : Int32) (h : Hp) : Cn G m_Ma_abs [.int x0] h κi (f_Ma_abs x0 h) := by
  refine entryV (by decide) (Nat.le_of_ble_eq_true rfl) rfl ?_
  show V G m_Ma_abs 0 [(0, .int x0)] [] h κi _
  unfold f_Ma_abs
  refine v_iload_n 0 d_Ma_abs_0 rfl rfl ?_
  refine v_if_ge 9 d_Ma_abs_1 (by decide) (fun c1 => ?_) (fun c1 => ?_)
  · refine v_iload_n 0 d_Ma_abs_9 rfl rfl ?_
    exact v_iret rfl d_Ma_abs_10
  · refine v_iload_n 0 d_Ma_abs_4 rfl rfl ?_
    refine v_ineg d_Ma_abs_5 ?_
    refine v_goto 10 d_Ma_abs_6 (by decide) ?_
    exact v_iret rfl d_Ma_abs_10
theorem d_Fr_apart_0 : decode m_Fr_apart.2.1 0 = .ok (.aload_n 0, 1) := by decide +kernel
theorem d_Fr_apart_1 : decode m_Fr_apart.2.1 1 = .ok (.getfield 9, 3) := by decide +kernel
theorem d_Fr_apart_4 : decode m_Fr_apart.2.1 4 = .ok (.iload_n 1, 1) := by decide +kernel
theorem d_Fr_apart_5 : decode m_Fr_apart.2.1 5 = .ok (.iaload, 1) := by decide +kernel
theorem d_Fr_apart_6 : decode m_Fr_apart.2.1 6 = .ok (.aload_n 0, 1) := by decide +kernel
theorem d_Fr_apart_7 : decode m_Fr_apart.2.1 7 = .ok (.getfield 9, 3) := by decide +kernel
theorem d_Fr_apart_10 : decode m_Fr_apart.2.1 10 = .ok (.iload_n 2, 1) := by decide +kernel
theorem d_Fr_apart_11 : decode m_Fr_apart.2.1 11 = .ok (.iaload, 1) := by decide +kernel
theorem d_Fr_apart_12 : decode m_Fr_apart.2.1 12 = .ok (.isub, 1) := by decide +kernel
theorem d_Fr_apart_13 : decode m_Fr_apart.2.1 13 = .ok (.invokestatic 26, 3) := by decide +kernel
theorem d_Fr_apart_16 : decode m_Fr_apart.2.1 16 = .ok (.aload_n 0, 1) := by decide +kernel
theorem d_Fr_apart_17 : decode m_Fr_apart.2.1 17 = .ok (.getfield 15, 3) := by decide +kernel
theorem d_Fr_apart_20 : decode m_Fr_apart.2.1 20 = .ok (.iload_n 1, 1) := by decide +kernel
theorem d_Fr_apart_21 : decode m_Fr_apart.2.1 21 = .ok (.iaload, 1) := by decide +kernel
theorem d_Fr_apart_22 : decode m_Fr_apart.2.1 22 = .ok (.aload_n 0, 1) := by decide +kernel
theorem d_Fr_apart_23 : decode m_Fr_apart.2.1 23 = .ok (.getfield 15, 3) := by decide +kernel
theorem d_Fr_apart_26 : decode m_Fr_apart.2.1 26 = .ok (.iload_n 2, 1) := by decide +kernel
theorem d_Fr_apart_27 : decode m_Fr_apart.2.1 27 = .ok (.iaload, 1) := by decide +kernel
theorem d_Fr_apart_28 : decode m_Fr_apart.2.1 28 = .ok (.isub, 1) := by decide +kernel
theorem d_Fr_apart_29 : decode m_Fr_apart.2.1 29 = .ok (.invokestatic 26, 3) := by decide +kernel
theorem d_Fr_apart_32 : decode m_Fr_apart.2.1 32 = .ok (.iadd, 1) := by decide +kernel
theorem d_Fr_apart_33 : decode m_Fr_apart.2.1 33 = .ok (.ireturn, 1) := by decide +kernel
set_option maxHeartbeats 4000000 in
set_option maxRecDepth 20000 in
theorem c_Fr_apart (G : Gt) (a0 : Nat) (x1 : Int32) (x2 : Int32) (ha0 : isO 0 a0) (h : Hp) : Cn G m_Fr_apart [.ref (ad G a0), .int x1, .int x2] h κi (f_Fr_apart a0 x1 x2 h) := by
  refine entryV (by decide) (Nat.le_of_ble_eq_true rfl) rfl ?_
  show V G m_Fr_apart 0 [(0, .ref (ad G a0)), (1, .int x1), (2, .int x2)] [] h κi _
  unfold f_Fr_apart
  refine v_aload_n 0 d_Fr_apart_0 rfl rfl ?_
  refine v_getr (a0 + 1) fl_Fr_9 ha0 rfl rfl d_Fr_apart_1 ?_
  refine v_iload_n 1 d_Fr_apart_4 rfl rfl ?_
  refine v_iald ((frA ha0).1) d_Fr_apart_5 ?_
  refine v_aload_n 0 d_Fr_apart_6 rfl rfl ?_
  refine v_getr (a0 + 1) fl_Fr_9 ha0 rfl rfl d_Fr_apart_7 ?_
  refine v_iload_n 2 d_Fr_apart_10 rfl rfl ?_
  refine v_iald ((frA ha0).1) d_Fr_apart_11 ?_
  refine v_isub d_Fr_apart_12 ?_
  refine v_callSi (As := [.int ((h (a0 + 1) (ix x1)) - (h (a0 + 1) (ix x2)))]) (rest := []) (c_Ma_abs G ((h (a0 + 1) (ix x1)) - (h (a0 + 1) (ix x2))) h) co_Fr_26 so_Ma_abs ⟨by decide, by decide⟩ rfl rfl (Nat.le_of_ble_eq_true rfl) d_Fr_apart_13 (fun r1 h1 _ => ?_)
  refine v_aload_n 0 d_Fr_apart_16 rfl rfl ?_
  refine v_getr (a0 + 2) fl_Fr_15 ha0 rfl rfl d_Fr_apart_17 ?_
  refine v_iload_n 1 d_Fr_apart_20 rfl rfl ?_
  refine v_iald ((frA ha0).2) d_Fr_apart_21 ?_
  refine v_aload_n 0 d_Fr_apart_22 rfl rfl ?_
  refine v_getr (a0 + 2) fl_Fr_15 ha0 rfl rfl d_Fr_apart_23 ?_
  refine v_iload_n 2 d_Fr_apart_26 rfl rfl ?_
  refine v_iald ((frA ha0).2) d_Fr_apart_27 ?_
  refine v_isub d_Fr_apart_28 ?_
  refine v_callSi (As := [.int ((h1 (a0 + 2) (ix x1)) - (h1 (a0 + 2) (ix x2)))]) (rest := [.int r1]) (c_Ma_abs G ((h1 (a0 + 2) (ix x1)) - (h1 (a0 + 2) (ix x2))) h1) co_Fr_26 so_Ma_abs ⟨by decide, by decide⟩ rfl rfl (Nat.le_of_ble_eq_true rfl) d_Fr_apart_29 (fun r2 h2 _ => ?_)
  refine v_iadd d_Fr_apart_32 ?_
  exact v_iret rfl d_Fr_apart_33
theorem d_C_far_0 : decode m_C_far.2.1 0 = .ok (.aload_n 0, 1) := by decide +kernel
theorem d_C_far_1 : decode m_C_far.2.1 1 = .ok (.getfield 19, 3) := by decide +kernel
theorem d_C_far_4 : decode m_C_far.2.1 4 = .ok (.iload_n 1, 1) := by decide +kernel
theorem d_C_far_5 : decode m_C_far.2.1 5 = .ok (.invokevirtual 80, 3) := by decide +kernel
theorem d_C_far_8 : decode m_C_far.2.1 8 = .ok (.ifCond .eq 14, 3) := by decide +kernel
theorem d_C_far_11 : decode m_C_far.2.1 11 = .ok (.aload_n 0, 1) := by decide +kernel
theorem d_C_far_12 : decode m_C_far.2.1 12 = .ok (.getfield 19, 3) := by decide +kernel
theorem d_C_far_15 : decode m_C_far.2.1 15 = .ok (.iload_n 2, 1) := by decide +kernel
theorem d_C_far_16 : decode m_C_far.2.1 16 = .ok (.invokevirtual 80, 3) := by decide +kernel
theorem d_C_far_19 : decode m_C_far.2.1 19 = .ok (.ifCond .ne 6, 3) := by decide +kernel
theorem d_C_far_22 : decode m_C_far.2.1 22 = .ok (.bipush (-2), 2) := by decide +kernel
theorem d_C_far_24 : decode m_C_far.2.1 24 = .ok (.ireturn, 1) := by decide +kernel
theorem d_C_far_25 : decode m_C_far.2.1 25 = .ok (.aload_n 0, 1) := by decide +kernel
theorem d_C_far_26 : decode m_C_far.2.1 26 = .ok (.getfield 19, 3) := by decide +kernel
theorem d_C_far_29 : decode m_C_far.2.1 29 = .ok (.iload_n 1, 1) := by decide +kernel
theorem d_C_far_30 : decode m_C_far.2.1 30 = .ok (.iload_n 2, 1) := by decide +kernel
theorem d_C_far_31 : decode m_C_far.2.1 31 = .ok (.invokevirtual 119, 3) := by decide +kernel
theorem d_C_far_34 : decode m_C_far.2.1 34 = .ok (.ireturn, 1) := by decide +kernel
set_option maxHeartbeats 4000000 in
set_option maxRecDepth 20000 in
theorem c_C_far (G : Gt) (x1 : Int32) (x2 : Int32) (h : Hp) : Cn G m_C_far [.ref (ad G 0), .int x1, .int x2] h κi (f_C_far x1 x2 h) := by
  refine entryV (by decide) (Nat.le_of_ble_eq_true rfl) rfl ?_
  show V G m_C_far 0 [(0, .ref (ad G 0)), (1, .int x1), (2, .int x2)] [] h κi _
  unfold f_C_far
  refine v_aload_n 0 d_C_far_0 rfl rfl ?_
  refine v_getr 3 fl_C_19 o_0 rfl rfl d_C_far_1 ?_
  refine v_iload_n 1 d_C_far_4 rfl rfl ?_
  refine v_callVi (As := [.int x1]) (rest := []) (c_Fr_has G 3 x1 o_3 h) co_C_80 io_Fr_has o_3 ⟨by decide, by decide⟩ rfl rfl (Nat.le_of_ble_eq_true rfl) d_C_far_5 (fun r1 h1 _ => ?_)
  refine v_if_eq 22 d_C_far_8 (by decide) (fun c2 => ?_) (fun c2 => ?_)
  · refine v_bipush (-2) d_C_far_22 rfl ?_
    exact v_iret rfl d_C_far_24
  · refine v_aload_n 0 d_C_far_11 rfl rfl ?_
    refine v_getr 3 fl_C_19 o_0 rfl rfl d_C_far_12 ?_
    refine v_iload_n 2 d_C_far_15 rfl rfl ?_
    refine v_callVi (As := [.int x2]) (rest := []) (c_Fr_has G 3 x2 o_3 h1) co_C_80 io_Fr_has o_3 ⟨by decide, by decide⟩ rfl rfl (Nat.le_of_ble_eq_true rfl) d_C_far_16 (fun r3 h3 _ => ?_)
    refine v_if_ne 25 d_C_far_19 (by decide) (fun c4 => ?_) (fun c4 => ?_)
    · refine v_bipush (-2) d_C_far_22 rfl ?_
      exact v_iret rfl d_C_far_24
    · refine v_aload_n 0 d_C_far_25 rfl rfl ?_
      refine v_getr 3 fl_C_19 o_0 rfl rfl d_C_far_26 ?_
      refine v_iload_n 1 d_C_far_29 rfl rfl ?_
      refine v_iload_n 2 d_C_far_30 rfl rfl ?_
      refine v_callVi (As := [.int x1, .int x2]) (rest := []) (c_Fr_apart G 3 x1 x2 o_3 h3) co_C_119 io_Fr_apart o_3 ⟨by decide, by decide⟩ rfl rfl (Nat.le_of_ble_eq_true rfl) d_C_far_31 (fun r5 h5 _ => ?_)
      exact v_iret rfl d_C_far_34
theorem d_C_isLaw_0 : decode m_C_isLaw.2.1 0 = .ok (.iload_n 0, 1) := by decide +kernel
theorem d_C_isLaw_1 : decode m_C_isLaw.2.1 1 = .ok (.ifCond .lt 12, 3) := by decide +kernel
theorem d_C_isLaw_4 : decode m_C_isLaw.2.1 4 = .ok (.iload_n 0, 1) := by decide +kernel
theorem d_C_isLaw_5 : decode m_C_isLaw.2.1 5 = .ok (.iconst 4, 1) := by decide +kernel
theorem d_C_isLaw_6 : decode m_C_isLaw.2.1 6 = .ok (.if_icmp .ge 7, 3) := by decide +kernel
theorem d_C_isLaw_9 : decode m_C_isLaw.2.1 9 = .ok (.iconst 1, 1) := by decide +kernel
theorem d_C_isLaw_10 : decode m_C_isLaw.2.1 10 = .ok (.goto 4, 3) := by decide +kernel
theorem d_C_isLaw_13 : decode m_C_isLaw.2.1 13 = .ok (.iconst 0, 1) := by decide +kernel
theorem d_C_isLaw_14 : decode m_C_isLaw.2.1 14 = .ok (.ireturn, 1) := by decide +kernel
set_option maxHeartbeats 4000000 in
set_option maxRecDepth 20000 in
theorem c_C_isLaw (G : Gt) (x0 : Int32) (h : Hp) : Cn G m_C_isLaw [.int x0] h κi (f_C_isLaw x0 h) := by
  refine entryV (by decide) (Nat.le_of_ble_eq_true rfl) rfl ?_
  show V G m_C_isLaw 0 [(0, .int x0)] [] h κi _
  unfold f_C_isLaw
  refine v_iload_n 0 d_C_isLaw_0 rfl rfl ?_
  refine v_if_lt 13 d_C_isLaw_1 (by decide) (fun c1 => ?_) (fun c1 => ?_)
  · refine v_iconst 0 d_C_isLaw_13 rfl ?_
    exact v_zretL rfl rfl d_C_isLaw_14
  · refine v_iload_n 0 d_C_isLaw_4 rfl rfl ?_
    refine v_iconst 4 d_C_isLaw_5 rfl ?_
    refine v_icmp_ge 13 d_C_isLaw_6 (by decide) (fun c2 => ?_) (fun c2 => ?_)
    · refine v_iconst 0 d_C_isLaw_13 rfl ?_
      exact v_zretL rfl rfl d_C_isLaw_14
    · refine v_iconst 1 d_C_isLaw_9 rfl ?_
      refine v_goto 14 d_C_isLaw_10 (by decide) ?_
      exact v_zretL rfl rfl d_C_isLaw_14
theorem d_C_canBeTold_0 : decode m_C_canBeTold.2.1 0 = .ok (.aload_n 0, 1) := by decide +kernel
theorem d_C_canBeTold_1 : decode m_C_canBeTold.2.1 1 = .ok (.getfield 19, 3) := by decide +kernel
theorem d_C_canBeTold_4 : decode m_C_canBeTold.2.1 4 = .ok (.iload_n 1, 1) := by decide +kernel
theorem d_C_canBeTold_5 : decode m_C_canBeTold.2.1 5 = .ok (.invokevirtual 80, 3) := by decide +kernel
theorem d_C_canBeTold_8 : decode m_C_canBeTold.2.1 8 = .ok (.ifCond .eq 14, 3) := by decide +kernel
theorem d_C_canBeTold_11 : decode m_C_canBeTold.2.1 11 = .ok (.iload_n 2, 1) := by decide +kernel
theorem d_C_canBeTold_12 : decode m_C_canBeTold.2.1 12 = .ok (.invokestatic 169, 3) := by decide +kernel
theorem d_C_canBeTold_15 : decode m_C_canBeTold.2.1 15 = .ok (.ifCond .eq 7, 3) := by decide +kernel
theorem d_C_canBeTold_18 : decode m_C_canBeTold.2.1 18 = .ok (.iconst 1, 1) := by decide +kernel
theorem d_C_canBeTold_19 : decode m_C_canBeTold.2.1 19 = .ok (.goto 4, 3) := by decide +kernel
theorem d_C_canBeTold_22 : decode m_C_canBeTold.2.1 22 = .ok (.iconst 0, 1) := by decide +kernel
theorem d_C_canBeTold_23 : decode m_C_canBeTold.2.1 23 = .ok (.ireturn, 1) := by decide +kernel
set_option maxHeartbeats 4000000 in
set_option maxRecDepth 20000 in
theorem c_C_canBeTold (G : Gt) (x1 : Int32) (x2 : Int32) (h : Hp) : Cn G m_C_canBeTold [.ref (ad G 0), .int x1, .int x2] h κi (f_C_canBeTold x1 x2 h) := by
  refine entryV (by decide) (Nat.le_of_ble_eq_true rfl) rfl ?_
  show V G m_C_canBeTold 0 [(0, .ref (ad G 0)), (1, .int x1), (2, .int x2)] [] h κi _
  unfold f_C_canBeTold
  refine v_aload_n 0 d_C_canBeTold_0 rfl rfl ?_
  refine v_getr 3 fl_C_19 o_0 rfl rfl d_C_canBeTold_1 ?_
  refine v_iload_n 1 d_C_canBeTold_4 rfl rfl ?_
  refine v_callVi (As := [.int x1]) (rest := []) (c_Fr_has G 3 x1 o_3 h) co_C_80 io_Fr_has o_3 ⟨by decide, by decide⟩ rfl rfl (Nat.le_of_ble_eq_true rfl) d_C_canBeTold_5 (fun r1 h1 _ => ?_)
  refine v_if_eq 22 d_C_canBeTold_8 (by decide) (fun c2 => ?_) (fun c2 => ?_)
  · refine v_iconst 0 d_C_canBeTold_22 rfl ?_
    exact v_zretL rfl rfl d_C_canBeTold_23
  · refine v_iload_n 2 d_C_canBeTold_11 rfl rfl ?_
    refine v_callSi (As := [.int x2]) (rest := []) (c_C_isLaw G x2 h1) co_C_169 so_C_isLaw ⟨by decide, by decide⟩ rfl rfl (Nat.le_of_ble_eq_true rfl) d_C_canBeTold_12 (fun r3 h3 _ => ?_)
    refine v_if_eq 22 d_C_canBeTold_15 (by decide) (fun c4 => ?_) (fun c4 => ?_)
    · refine v_iconst 0 d_C_canBeTold_22 rfl ?_
      exact v_zretL rfl rfl d_C_canBeTold_23
    · refine v_iconst 1 d_C_canBeTold_18 rfl ?_
      refine v_goto 23 d_C_canBeTold_19 (by decide) ?_
      exact v_zretL rfl rfl d_C_canBeTold_23
theorem d_Sp_startAt_0 : decode m_Sp_startAt.2.1 0 = .ok (.aload_n 0, 1) := by decide +kernel
theorem d_Sp_startAt_1 : decode m_Sp_startAt.2.1 1 = .ok (.getfield 9, 3) := by decide +kernel
theorem d_Sp_startAt_4 : decode m_Sp_startAt.2.1 4 = .ok (.iconst 0, 1) := by decide +kernel
theorem d_Sp_startAt_5 : decode m_Sp_startAt.2.1 5 = .ok (.iload_n 1, 1) := by decide +kernel
theorem d_Sp_startAt_6 : decode m_Sp_startAt.2.1 6 = .ok (.iastore, 1) := by decide +kernel
theorem d_Sp_startAt_7 : decode m_Sp_startAt.2.1 7 = .ok (.aload_n 0, 1) := by decide +kernel
theorem d_Sp_startAt_8 : decode m_Sp_startAt.2.1 8 = .ok (.iconst 1, 1) := by decide +kernel
theorem d_Sp_startAt_9 : decode m_Sp_startAt.2.1 9 = .ok (.putfield 15, 3) := by decide +kernel
theorem d_Sp_startAt_12 : decode m_Sp_startAt.2.1 12 = .ok (.aload_n 0, 1) := by decide +kernel
theorem d_Sp_startAt_13 : decode m_Sp_startAt.2.1 13 = .ok (.iload_n 2, 1) := by decide +kernel
theorem d_Sp_startAt_14 : decode m_Sp_startAt.2.1 14 = .ok (.putfield 19, 3) := by decide +kernel
theorem d_Sp_startAt_17 : decode m_Sp_startAt.2.1 17 = .ok (.aload_n 0, 1) := by decide +kernel
theorem d_Sp_startAt_18 : decode m_Sp_startAt.2.1 18 = .ok (.iconst 0, 1) := by decide +kernel
theorem d_Sp_startAt_19 : decode m_Sp_startAt.2.1 19 = .ok (.putfield 22, 3) := by decide +kernel
theorem d_Sp_startAt_22 : decode m_Sp_startAt.2.1 22 = .ok (.aload_n 0, 1) := by decide +kernel
theorem d_Sp_startAt_23 : decode m_Sp_startAt.2.1 23 = .ok (.iload_n 3, 1) := by decide +kernel
theorem d_Sp_startAt_24 : decode m_Sp_startAt.2.1 24 = .ok (.putfield 25, 3) := by decide +kernel
theorem d_Sp_startAt_27 : decode m_Sp_startAt.2.1 27 = .ok (.return_, 1) := by decide +kernel
set_option maxHeartbeats 4000000 in
set_option maxRecDepth 20000 in
theorem c_Sp_startAt (G : Gt) (a0 : Nat) (x1 : Int32) (x2 : Int32) (x3 : Int32) (ha0 : isO 3 a0) (h : Hp) : Cn G m_Sp_startAt [.ref (ad G a0), .int x1, .int x2, .int x3] h κv (f_Sp_startAt a0 x1 x2 x3 h) := by
  refine entryV (by decide) (Nat.le_of_ble_eq_true rfl) rfl ?_
  show V G m_Sp_startAt 0 [(0, .ref (ad G a0)), (1, .int x1), (2, .int x2), (3, .int x3)] [] h κv _
  unfold f_Sp_startAt
  refine v_aload_n 0 d_Sp_startAt_0 rfl rfl ?_
  refine v_getr (a0 + 1) fl_Sp_9 ha0 rfl rfl d_Sp_startAt_1 ?_
  refine v_iconst 0 d_Sp_startAt_4 rfl ?_
  refine v_iload_n 1 d_Sp_startAt_5 rfl rfl ?_
  refine v_iast (spA ha0) d_Sp_startAt_6 ?_
  refine v_aload_n 0 d_Sp_startAt_7 rfl rfl ?_
  refine v_iconst 1 d_Sp_startAt_8 rfl ?_
  refine v_puti fl_Sp_15 ft_3_1 rfl rfl ha0 rfl d_Sp_startAt_9 ?_
  refine v_aload_n 0 d_Sp_startAt_12 rfl rfl ?_
  refine v_iload_n 2 d_Sp_startAt_13 rfl rfl ?_
  refine v_puti fl_Sp_19 ft_3_2 rfl rfl ha0 rfl d_Sp_startAt_14 ?_
  refine v_aload_n 0 d_Sp_startAt_17 rfl rfl ?_
  refine v_iconst 0 d_Sp_startAt_18 rfl ?_
  refine v_puti fl_Sp_22 ft_3_3 rfl rfl ha0 rfl d_Sp_startAt_19 ?_
  refine v_aload_n 0 d_Sp_startAt_22 rfl rfl ?_
  refine v_iload_n 3 d_Sp_startAt_23 rfl rfl ?_
  refine v_puti fl_Sp_25 ft_3_4 rfl rfl ha0 rfl d_Sp_startAt_24 ?_
  exact v_vret rfl d_Sp_startAt_27
theorem d_Fr_all_0 : decode m_Fr_all.2.1 0 = .ok (.iconst 1, 1) := by decide +kernel
theorem d_Fr_all_1 : decode m_Fr_all.2.1 1 = .ok (.aload_n 0, 1) := by decide +kernel
theorem d_Fr_all_2 : decode m_Fr_all.2.1 2 = .ok (.getfield 18, 3) := by decide +kernel
theorem d_Fr_all_5 : decode m_Fr_all.2.1 5 = .ok (.ishl, 1) := by decide +kernel
theorem d_Fr_all_6 : decode m_Fr_all.2.1 6 = .ok (.iconst 1, 1) := by decide +kernel
theorem d_Fr_all_7 : decode m_Fr_all.2.1 7 = .ok (.isub, 1) := by decide +kernel
theorem d_Fr_all_8 : decode m_Fr_all.2.1 8 = .ok (.ireturn, 1) := by decide +kernel
set_option maxHeartbeats 4000000 in
set_option maxRecDepth 20000 in
theorem c_Fr_all (G : Gt) (a0 : Nat) (ha0 : isO 0 a0) (h : Hp) : Cn G m_Fr_all [.ref (ad G a0)] h κi (f_Fr_all a0 h) := by
  refine entryV (by decide) (Nat.le_of_ble_eq_true rfl) rfl ?_
  show V G m_Fr_all 0 [(0, .ref (ad G a0))] [] h κi _
  unfold f_Fr_all
  refine v_iconst 1 d_Fr_all_0 rfl ?_
  refine v_aload_n 0 d_Fr_all_1 rfl rfl ?_
  refine v_geti fl_Fr_18 ha0 rfl d_Fr_all_2 ?_
  refine v_ishl d_Fr_all_5 ?_
  refine v_iconst 1 d_Fr_all_6 rfl ?_
  refine v_isub d_Fr_all_7 ?_
  exact v_iret rfl d_Fr_all_8
theorem d_Sp_here_0 : decode m_Sp_here.2.1 0 = .ok (.aload_n 0, 1) := by decide +kernel
theorem d_Sp_here_1 : decode m_Sp_here.2.1 1 = .ok (.getfield 15, 3) := by decide +kernel
theorem d_Sp_here_4 : decode m_Sp_here.2.1 4 = .ok (.ifCond .le 17, 3) := by decide +kernel
theorem d_Sp_here_7 : decode m_Sp_here.2.1 7 = .ok (.aload_n 0, 1) := by decide +kernel
theorem d_Sp_here_8 : decode m_Sp_here.2.1 8 = .ok (.getfield 9, 3) := by decide +kernel
theorem d_Sp_here_11 : decode m_Sp_here.2.1 11 = .ok (.aload_n 0, 1) := by decide +kernel
theorem d_Sp_here_12 : decode m_Sp_here.2.1 12 = .ok (.getfield 15, 3) := by decide +kernel
theorem d_Sp_here_15 : decode m_Sp_here.2.1 15 = .ok (.iconst 1, 1) := by decide +kernel
theorem d_Sp_here_16 : decode m_Sp_here.2.1 16 = .ok (.isub, 1) := by decide +kernel
theorem d_Sp_here_17 : decode m_Sp_here.2.1 17 = .ok (.iaload, 1) := by decide +kernel
theorem d_Sp_here_18 : decode m_Sp_here.2.1 18 = .ok (.goto 4, 3) := by decide +kernel
theorem d_Sp_here_21 : decode m_Sp_here.2.1 21 = .ok (.iconst 0, 1) := by decide +kernel
theorem d_Sp_here_22 : decode m_Sp_here.2.1 22 = .ok (.ireturn, 1) := by decide +kernel
set_option maxHeartbeats 4000000 in
set_option maxRecDepth 20000 in
theorem c_Sp_here (G : Gt) (a0 : Nat) (ha0 : isO 3 a0) (h : Hp) : Cn G m_Sp_here [.ref (ad G a0)] h κi (f_Sp_here a0 h) := by
  refine entryV (by decide) (Nat.le_of_ble_eq_true rfl) rfl ?_
  show V G m_Sp_here 0 [(0, .ref (ad G a0))] [] h κi _
  unfold f_Sp_here
  refine v_aload_n 0 d_Sp_here_0 rfl rfl ?_
  refine v_geti fl_Sp_15 ha0 rfl d_Sp_here_1 ?_
  refine v_if_le 21 d_Sp_here_4 (by decide) (fun c1 => ?_) (fun c1 => ?_)
  · refine v_iconst 0 d_Sp_here_21 rfl ?_
    exact v_iret rfl d_Sp_here_22
  · refine v_aload_n 0 d_Sp_here_7 rfl rfl ?_
    refine v_getr (a0 + 1) fl_Sp_9 ha0 rfl rfl d_Sp_here_8 ?_
    refine v_aload_n 0 d_Sp_here_11 rfl rfl ?_
    refine v_geti fl_Sp_15 ha0 rfl d_Sp_here_12 ?_
    refine v_iconst 1 d_Sp_here_15 rfl ?_
    refine v_isub d_Sp_here_16 ?_
    refine v_iald (spA ha0) d_Sp_here_17 ?_
    refine v_goto 22 d_Sp_here_18 (by decide) ?_
    exact v_iret rfl d_Sp_here_22
theorem d_Fr_behindByNumbers_0 : decode m_Fr_behindByNumbers.2.1 0 = .ok (.iload_n 1, 1) := by decide +kernel
theorem d_Fr_behindByNumbers_1 : decode m_Fr_behindByNumbers.2.1 1 = .ok (.iload_n 0, 1) := by decide +kernel
theorem d_Fr_behindByNumbers_2 : decode m_Fr_behindByNumbers.2.1 2 = .ok (.if_icmp .le 9, 3) := by decide +kernel
theorem d_Fr_behindByNumbers_5 : decode m_Fr_behindByNumbers.2.1 5 = .ok (.iload_n 1, 1) := by decide +kernel
theorem d_Fr_behindByNumbers_6 : decode m_Fr_behindByNumbers.2.1 6 = .ok (.iload_n 0, 1) := by decide +kernel
theorem d_Fr_behindByNumbers_7 : decode m_Fr_behindByNumbers.2.1 7 = .ok (.isub, 1) := by decide +kernel
theorem d_Fr_behindByNumbers_8 : decode m_Fr_behindByNumbers.2.1 8 = .ok (.goto 9, 3) := by decide +kernel
theorem d_Fr_behindByNumbers_11 : decode m_Fr_behindByNumbers.2.1 11 = .ok (.iload_n 1, 1) := by decide +kernel
theorem d_Fr_behindByNumbers_12 : decode m_Fr_behindByNumbers.2.1 12 = .ok (.iload_n 0, 1) := by decide +kernel
theorem d_Fr_behindByNumbers_13 : decode m_Fr_behindByNumbers.2.1 13 = .ok (.isub, 1) := by decide +kernel
theorem d_Fr_behindByNumbers_14 : decode m_Fr_behindByNumbers.2.1 14 = .ok (.bipush 10, 2) := by decide +kernel
theorem d_Fr_behindByNumbers_16 : decode m_Fr_behindByNumbers.2.1 16 = .ok (.iadd, 1) := by decide +kernel
theorem d_Fr_behindByNumbers_17 : decode m_Fr_behindByNumbers.2.1 17 = .ok (.ireturn, 1) := by decide +kernel
set_option maxHeartbeats 4000000 in
set_option maxRecDepth 20000 in
theorem c_Fr_behindByNumbers (G : Gt) (x0 : Int32) (x1 : Int32) (h : Hp) : Cn G m_Fr_behindByNumbers [.int x0, .int x1] h κi (f_Fr_behindByNumbers x0 x1 h) := by
  refine entryV (by decide) (Nat.le_of_ble_eq_true rfl) rfl ?_
  show V G m_Fr_behindByNumbers 0 [(0, .int x0), (1, .int x1)] [] h κi _
  unfold f_Fr_behindByNumbers
  refine v_iload_n 1 d_Fr_behindByNumbers_0 rfl rfl ?_
  refine v_iload_n 0 d_Fr_behindByNumbers_1 rfl rfl ?_
  refine v_icmp_le 11 d_Fr_behindByNumbers_2 (by decide) (fun c1 => ?_) (fun c1 => ?_)
  · refine v_iload_n 1 d_Fr_behindByNumbers_11 rfl rfl ?_
    refine v_iload_n 0 d_Fr_behindByNumbers_12 rfl rfl ?_
    refine v_isub d_Fr_behindByNumbers_13 ?_
    refine v_bipush 10 d_Fr_behindByNumbers_14 rfl ?_
    refine v_iadd d_Fr_behindByNumbers_16 ?_
    exact v_iret rfl d_Fr_behindByNumbers_17
  · refine v_iload_n 1 d_Fr_behindByNumbers_5 rfl rfl ?_
    refine v_iload_n 0 d_Fr_behindByNumbers_6 rfl rfl ?_
    refine v_isub d_Fr_behindByNumbers_7 ?_
    refine v_goto 17 d_Fr_behindByNumbers_8 (by decide) ?_
    exact v_iret rfl d_Fr_behindByNumbers_17
theorem d_Fr_behindByRows_0 : decode m_Fr_behindByRows.2.1 0 = .ok (.aload_n 0, 1) := by decide +kernel
theorem d_Fr_behindByRows_1 : decode m_Fr_behindByRows.2.1 1 = .ok (.getfield 15, 3) := by decide +kernel
theorem d_Fr_behindByRows_4 : decode m_Fr_behindByRows.2.1 4 = .ok (.iload_n 2, 1) := by decide +kernel
theorem d_Fr_behindByRows_5 : decode m_Fr_behindByRows.2.1 5 = .ok (.iaload, 1) := by decide +kernel
theorem d_Fr_behindByRows_6 : decode m_Fr_behindByRows.2.1 6 = .ok (.aload_n 0, 1) := by decide +kernel
theorem d_Fr_behindByRows_7 : decode m_Fr_behindByRows.2.1 7 = .ok (.getfield 15, 3) := by decide +kernel
theorem d_Fr_behindByRows_10 : decode m_Fr_behindByRows.2.1 10 = .ok (.iload_n 1, 1) := by decide +kernel
theorem d_Fr_behindByRows_11 : decode m_Fr_behindByRows.2.1 11 = .ok (.iaload, 1) := by decide +kernel
theorem d_Fr_behindByRows_12 : decode m_Fr_behindByRows.2.1 12 = .ok (.isub, 1) := by decide +kernel
theorem d_Fr_behindByRows_13 : decode m_Fr_behindByRows.2.1 13 = .ok (.bipush 10, 2) := by decide +kernel
theorem d_Fr_behindByRows_15 : decode m_Fr_behindByRows.2.1 15 = .ok (.imul, 1) := by decide +kernel
theorem d_Fr_behindByRows_16 : decode m_Fr_behindByRows.2.1 16 = .ok (.aload_n 0, 1) := by decide +kernel
theorem d_Fr_behindByRows_17 : decode m_Fr_behindByRows.2.1 17 = .ok (.getfield 9, 3) := by decide +kernel
theorem d_Fr_behindByRows_20 : decode m_Fr_behindByRows.2.1 20 = .ok (.iload_n 2, 1) := by decide +kernel
theorem d_Fr_behindByRows_21 : decode m_Fr_behindByRows.2.1 21 = .ok (.iaload, 1) := by decide +kernel
theorem d_Fr_behindByRows_22 : decode m_Fr_behindByRows.2.1 22 = .ok (.iadd, 1) := by decide +kernel
theorem d_Fr_behindByRows_23 : decode m_Fr_behindByRows.2.1 23 = .ok (.aload_n 0, 1) := by decide +kernel
theorem d_Fr_behindByRows_24 : decode m_Fr_behindByRows.2.1 24 = .ok (.getfield 9, 3) := by decide +kernel
theorem d_Fr_behindByRows_27 : decode m_Fr_behindByRows.2.1 27 = .ok (.iload_n 1, 1) := by decide +kernel
theorem d_Fr_behindByRows_28 : decode m_Fr_behindByRows.2.1 28 = .ok (.iaload, 1) := by decide +kernel
theorem d_Fr_behindByRows_29 : decode m_Fr_behindByRows.2.1 29 = .ok (.isub, 1) := by decide +kernel
theorem d_Fr_behindByRows_30 : decode m_Fr_behindByRows.2.1 30 = .ok (.istore_n 3, 1) := by decide +kernel
theorem d_Fr_behindByRows_31 : decode m_Fr_behindByRows.2.1 31 = .ok (.iload_n 3, 1) := by decide +kernel
theorem d_Fr_behindByRows_32 : decode m_Fr_behindByRows.2.1 32 = .ok (.ifCond .le 7, 3) := by decide +kernel
theorem d_Fr_behindByRows_35 : decode m_Fr_behindByRows.2.1 35 = .ok (.iload_n 3, 1) := by decide +kernel
theorem d_Fr_behindByRows_36 : decode m_Fr_behindByRows.2.1 36 = .ok (.goto 7, 3) := by decide +kernel
theorem d_Fr_behindByRows_39 : decode m_Fr_behindByRows.2.1 39 = .ok (.iload_n 3, 1) := by decide +kernel
theorem d_Fr_behindByRows_40 : decode m_Fr_behindByRows.2.1 40 = .ok (.bipush 100, 2) := by decide +kernel
theorem d_Fr_behindByRows_42 : decode m_Fr_behindByRows.2.1 42 = .ok (.iadd, 1) := by decide +kernel
theorem d_Fr_behindByRows_43 : decode m_Fr_behindByRows.2.1 43 = .ok (.ireturn, 1) := by decide +kernel
set_option maxHeartbeats 4000000 in
set_option maxRecDepth 20000 in
theorem c_Fr_behindByRows (G : Gt) (a0 : Nat) (x1 : Int32) (x2 : Int32) (ha0 : isO 0 a0) (h : Hp) : Cn G m_Fr_behindByRows [.ref (ad G a0), .int x1, .int x2] h κi (f_Fr_behindByRows a0 x1 x2 h) := by
  refine entryV (by decide) (Nat.le_of_ble_eq_true rfl) rfl ?_
  show V G m_Fr_behindByRows 0 [(0, .ref (ad G a0)), (1, .int x1), (2, .int x2)] [] h κi _
  unfold f_Fr_behindByRows
  refine v_aload_n 0 d_Fr_behindByRows_0 rfl rfl ?_
  refine v_getr (a0 + 2) fl_Fr_15 ha0 rfl rfl d_Fr_behindByRows_1 ?_
  refine v_iload_n 2 d_Fr_behindByRows_4 rfl rfl ?_
  refine v_iald ((frA ha0).2) d_Fr_behindByRows_5 ?_
  refine v_aload_n 0 d_Fr_behindByRows_6 rfl rfl ?_
  refine v_getr (a0 + 2) fl_Fr_15 ha0 rfl rfl d_Fr_behindByRows_7 ?_
  refine v_iload_n 1 d_Fr_behindByRows_10 rfl rfl ?_
  refine v_iald ((frA ha0).2) d_Fr_behindByRows_11 ?_
  refine v_isub d_Fr_behindByRows_12 ?_
  refine v_bipush 10 d_Fr_behindByRows_13 rfl ?_
  refine v_imul d_Fr_behindByRows_15 ?_
  refine v_aload_n 0 d_Fr_behindByRows_16 rfl rfl ?_
  refine v_getr (a0 + 1) fl_Fr_9 ha0 rfl rfl d_Fr_behindByRows_17 ?_
  refine v_iload_n 2 d_Fr_behindByRows_20 rfl rfl ?_
  refine v_iald ((frA ha0).1) d_Fr_behindByRows_21 ?_
  refine v_iadd d_Fr_behindByRows_22 ?_
  refine v_aload_n 0 d_Fr_behindByRows_23 rfl rfl ?_
  refine v_getr (a0 + 1) fl_Fr_9 ha0 rfl rfl d_Fr_behindByRows_24 ?_
  refine v_iload_n 1 d_Fr_behindByRows_27 rfl rfl ?_
  refine v_iald ((frA ha0).1) d_Fr_behindByRows_28 ?_
  refine v_isub d_Fr_behindByRows_29 ?_
  refine v_istore_n [(3, .int (((((h (a0 + 2) (ix x2)) - (h (a0 + 2) (ix x1))) * 10) + (h (a0 + 1) (ix x2))) - (h (a0 + 1) (ix x1)))), (0, .ref (ad G a0)), (1, .int x1), (2, .int x2)] d_Fr_behindByRows_30 rfl (by decide) rfl ?_
  refine v_iload_n 0 d_Fr_behindByRows_31 rfl rfl ?_
  refine v_if_le 39 d_Fr_behindByRows_32 (by decide) (fun c1 => ?_) (fun c1 => ?_)
  · refine v_iload_n 0 d_Fr_behindByRows_39 rfl rfl ?_
    refine v_bipush 100 d_Fr_behindByRows_40 rfl ?_
    refine v_iadd d_Fr_behindByRows_42 ?_
    exact v_iret rfl d_Fr_behindByRows_43
  · refine v_iload_n 0 d_Fr_behindByRows_35 rfl rfl ?_
    refine v_goto 43 d_Fr_behindByRows_36 (by decide) ?_
    exact v_iret rfl d_Fr_behindByRows_43
theorem d_Fr_choose_0 : decode m_Fr_choose.2.1 0 = .ok (.iconst (-1), 1) := by decide +kernel
theorem d_Fr_choose_1 : decode m_Fr_choose.2.1 1 = .ok (.istore 4, 2) := by decide +kernel
theorem d_Fr_choose_3 : decode m_Fr_choose.2.1 3 = .ok (.iconst 0, 1) := by decide +kernel
theorem d_Fr_choose_4 : decode m_Fr_choose.2.1 4 = .ok (.istore 5, 2) := by decide +kernel
theorem d_Fr_choose_6 : decode m_Fr_choose.2.1 6 = .ok (.iconst 0, 1) := by decide +kernel
theorem d_Fr_choose_7 : decode m_Fr_choose.2.1 7 = .ok (.istore 6, 2) := by decide +kernel
theorem d_Fr_choose_9 : decode m_Fr_choose.2.1 9 = .ok (.iload 6, 2) := by decide +kernel
theorem d_Fr_choose_11 : decode m_Fr_choose.2.1 11 = .ok (.aload_n 0, 1) := by decide +kernel
theorem d_Fr_choose_12 : decode m_Fr_choose.2.1 12 = .ok (.getfield 18, 3) := by decide +kernel
theorem d_Fr_choose_15 : decode m_Fr_choose.2.1 15 = .ok (.if_icmp .ge 95, 3) := by decide +kernel
theorem d_Fr_choose_18 : decode m_Fr_choose.2.1 18 = .ok (.iload_n 3, 1) := by decide +kernel
theorem d_Fr_choose_19 : decode m_Fr_choose.2.1 19 = .ok (.iload 6, 2) := by decide +kernel
theorem d_Fr_choose_21 : decode m_Fr_choose.2.1 21 = .ok (.ishr, 1) := by decide +kernel
theorem d_Fr_choose_22 : decode m_Fr_choose.2.1 22 = .ok (.iconst 1, 1) := by decide +kernel
theorem d_Fr_choose_23 : decode m_Fr_choose.2.1 23 = .ok (.iand, 1) := by decide +kernel
theorem d_Fr_choose_24 : decode m_Fr_choose.2.1 24 = .ok (.ifCond .ne 6, 3) := by decide +kernel
theorem d_Fr_choose_27 : decode m_Fr_choose.2.1 27 = .ok (.goto 77, 3) := by decide +kernel
theorem d_Fr_choose_30 : decode m_Fr_choose.2.1 30 = .ok (.iload_n 1, 1) := by decide +kernel
theorem d_Fr_choose_31 : decode m_Fr_choose.2.1 31 = .ok (.ifCond .ne 13, 3) := by decide +kernel
theorem d_Fr_choose_34 : decode m_Fr_choose.2.1 34 = .ok (.aload_n 0, 1) := by decide +kernel
theorem d_Fr_choose_35 : decode m_Fr_choose.2.1 35 = .ok (.iload_n 2, 1) := by decide +kernel
theorem d_Fr_choose_36 : decode m_Fr_choose.2.1 36 = .ok (.iload 6, 2) := by decide +kernel
theorem d_Fr_choose_38 : decode m_Fr_choose.2.1 38 = .ok (.invokevirtual 32, 3) := by decide +kernel
theorem d_Fr_choose_41 : decode m_Fr_choose.2.1 41 = .ok (.goto 40, 3) := by decide +kernel
theorem d_Fr_choose_44 : decode m_Fr_choose.2.1 44 = .ok (.iload_n 1, 1) := by decide +kernel
theorem d_Fr_choose_45 : decode m_Fr_choose.2.1 45 = .ok (.iconst 1, 1) := by decide +kernel
theorem d_Fr_choose_46 : decode m_Fr_choose.2.1 46 = .ok (.if_icmp .ne 14, 3) := by decide +kernel
theorem d_Fr_choose_49 : decode m_Fr_choose.2.1 49 = .ok (.aload_n 0, 1) := by decide +kernel
theorem d_Fr_choose_50 : decode m_Fr_choose.2.1 50 = .ok (.iload_n 2, 1) := by decide +kernel
theorem d_Fr_choose_51 : decode m_Fr_choose.2.1 51 = .ok (.iload 6, 2) := by decide +kernel
theorem d_Fr_choose_53 : decode m_Fr_choose.2.1 53 = .ok (.invokevirtual 32, 3) := by decide +kernel
theorem d_Fr_choose_56 : decode m_Fr_choose.2.1 56 = .ok (.ineg, 1) := by decide +kernel
theorem d_Fr_choose_57 : decode m_Fr_choose.2.1 57 = .ok (.goto 24, 3) := by decide +kernel
theorem d_Fr_choose_60 : decode m_Fr_choose.2.1 60 = .ok (.iload_n 1, 1) := by decide +kernel
theorem d_Fr_choose_61 : decode m_Fr_choose.2.1 61 = .ok (.iconst 2, 1) := by decide +kernel
theorem d_Fr_choose_62 : decode m_Fr_choose.2.1 62 = .ok (.if_icmp .ne 12, 3) := by decide +kernel
theorem d_Fr_choose_65 : decode m_Fr_choose.2.1 65 = .ok (.iload_n 2, 1) := by decide +kernel
theorem d_Fr_choose_66 : decode m_Fr_choose.2.1 66 = .ok (.iload 6, 2) := by decide +kernel
theorem d_Fr_choose_68 : decode m_Fr_choose.2.1 68 = .ok (.invokestatic 36, 3) := by decide +kernel
theorem d_Fr_choose_71 : decode m_Fr_choose.2.1 71 = .ok (.goto 10, 3) := by decide +kernel
theorem d_Fr_choose_74 : decode m_Fr_choose.2.1 74 = .ok (.aload_n 0, 1) := by decide +kernel
theorem d_Fr_choose_75 : decode m_Fr_choose.2.1 75 = .ok (.iload_n 2, 1) := by decide +kernel
theorem d_Fr_choose_76 : decode m_Fr_choose.2.1 76 = .ok (.iload 6, 2) := by decide +kernel
theorem d_Fr_choose_78 : decode m_Fr_choose.2.1 78 = .ok (.invokevirtual 39, 3) := by decide +kernel
theorem d_Fr_choose_81 : decode m_Fr_choose.2.1 81 = .ok (.istore 7, 2) := by decide +kernel
theorem d_Fr_choose_83 : decode m_Fr_choose.2.1 83 = .ok (.iload 4, 2) := by decide +kernel
theorem d_Fr_choose_85 : decode m_Fr_choose.2.1 85 = .ok (.iconst (-1), 1) := by decide +kernel
theorem d_Fr_choose_86 : decode m_Fr_choose.2.1 86 = .ok (.if_icmp .eq 10, 3) := by decide +kernel
theorem d_Fr_choose_89 : decode m_Fr_choose.2.1 89 = .ok (.iload 7, 2) := by decide +kernel
theorem d_Fr_choose_91 : decode m_Fr_choose.2.1 91 = .ok (.iload 5, 2) := by decide +kernel
theorem d_Fr_choose_93 : decode m_Fr_choose.2.1 93 = .ok (.if_icmp .ge 11, 3) := by decide +kernel
theorem d_Fr_choose_96 : decode m_Fr_choose.2.1 96 = .ok (.iload 6, 2) := by decide +kernel
theorem d_Fr_choose_98 : decode m_Fr_choose.2.1 98 = .ok (.istore 4, 2) := by decide +kernel
theorem d_Fr_choose_100 : decode m_Fr_choose.2.1 100 = .ok (.iload 7, 2) := by decide +kernel
theorem d_Fr_choose_102 : decode m_Fr_choose.2.1 102 = .ok (.istore 5, 2) := by decide +kernel
theorem d_Fr_choose_104 : decode m_Fr_choose.2.1 104 = .ok (.iinc 6 1, 3) := by decide +kernel
theorem d_Fr_choose_107 : decode m_Fr_choose.2.1 107 = .ok (.goto (-98), 3) := by decide +kernel
theorem d_Fr_choose_110 : decode m_Fr_choose.2.1 110 = .ok (.iload 4, 2) := by decide +kernel
theorem d_Fr_choose_112 : decode m_Fr_choose.2.1 112 = .ok (.ireturn, 1) := by decide +kernel
set_option maxHeartbeats 4000000 in
set_option maxRecDepth 20000 in
theorem Vl_Fr_choose_9 (G : Gt) : ∀ (n : Nat) (a0 : Nat) (x1 : Int32) (x2 : Int32) (x3 : Int32) (x4 : Int32) (x5 : Int32) (x6 : Int32) (ha0 : isO 0 a0) (h : Hp), V G m_Fr_choose 9 [(0, .ref (ad G a0)), (1, .int x1), (2, .int x2), (3, .int x3), (4, .int x4), (5, .int x5), (6, .int x6)] [] h κi (l_Fr_choose_9 n a0 x1 x2 x3 x4 x5 x6 h) := by
  intro n
  induction n with
  | zero => intros; exact v_none
  | succ n ih =>
    intro a0 x1 x2 x3 x4 x5 x6 ha0 h
    rw [l_Fr_choose_9]
    refine v_iload 6 d_Fr_choose_9 rfl ?_
    refine v_aload_n 0 d_Fr_choose_11 rfl rfl ?_
    refine v_geti fl_Fr_18 ha0 rfl d_Fr_choose_12 ?_
    refine v_icmp_ge 110 d_Fr_choose_15 (by decide) (fun c1 => ?_) (fun c1 => ?_)
    · refine v_iload 4 d_Fr_choose_110 rfl ?_
      exact v_iret rfl d_Fr_choose_112
    · refine v_iload_n 3 d_Fr_choose_18 rfl rfl ?_
      refine v_iload 6 d_Fr_choose_19 rfl ?_
      refine v_ishr d_Fr_choose_21 ?_
      refine v_iconst 1 d_Fr_choose_22 rfl ?_
      refine v_iand d_Fr_choose_23 ?_
      refine v_if_ne 30 d_Fr_choose_24 (by decide) (fun c2 => ?_) (fun c2 => ?_)
      · refine v_goto 104 d_Fr_choose_27 (by decide) ?_
        refine v_iinc (x6 + 1) 6 [(6, .int (x6 + 1)), (0, .ref (ad G a0)), (1, .int x1), (2, .int x2), (3, .int x3), (4, .int x4), (5, .int x5)] d_Fr_choose_104 rfl rfl (by decide) rfl ?_
        refine v_goto 9 d_Fr_choose_107 (by decide) ?_
        exact v_sub [1, 2, 3, 4, 5, 6, 0] rfl (ih a0 x1 x2 x3 x4 x5 (x6 + 1) ha0 h)
      · refine v_iload_n 1 d_Fr_choose_30 rfl rfl ?_
        refine v_if_ne 44 d_Fr_choose_31 (by decide) (fun c3 => ?_) (fun c3 => ?_)
        · refine v_aload_n 0 d_Fr_choose_34 rfl rfl ?_
          refine v_iload_n 2 d_Fr_choose_35 rfl rfl ?_
          refine v_iload 6 d_Fr_choose_36 rfl ?_
          refine v_callVi (As := [.int x2, .int x6]) (rest := []) (c_Fr_apart G a0 x2 x6 ha0 h) co_Fr_32 io_Fr_apart ha0 ⟨by decide, by decide⟩ rfl rfl (Nat.le_of_ble_eq_true rfl) d_Fr_choose_38 (fun r4 h4 _ => ?_)
          refine v_goto 81 d_Fr_choose_41 (by decide) ?_
          refine v_istore [(7, .int r4), (0, .ref (ad G a0)), (1, .int x1), (2, .int x2), (3, .int x3), (4, .int x4), (5, .int x5), (6, .int x6)] d_Fr_choose_81 (by decide) rfl ?_
          refine v_iload 5 d_Fr_choose_83 rfl ?_
          refine v_iconst (-1) d_Fr_choose_85 rfl ?_
          refine v_icmp_eq 96 d_Fr_choose_86 (by decide) (fun c5 => ?_) (fun c5 => ?_)
          · refine v_iload 7 d_Fr_choose_96 rfl ?_
            refine v_istore [(4, .int x6), (7, .int r4), (0, .ref (ad G a0)), (1, .int x1), (2, .int x2), (3, .int x3), (5, .int x5), (6, .int x6)] d_Fr_choose_98 (by decide) rfl ?_
            refine v_iload 1 d_Fr_choose_100 rfl ?_
            refine v_istore [(5, .int r4), (4, .int x6), (7, .int r4), (0, .ref (ad G a0)), (1, .int x1), (2, .int x2), (3, .int x3), (6, .int x6)] d_Fr_choose_102 (by decide) rfl ?_
            refine v_iinc (x6 + 1) 7 [(6, .int (x6 + 1)), (5, .int r4), (4, .int x6), (7, .int r4), (0, .ref (ad G a0)), (1, .int x1), (2, .int x2), (3, .int x3)] d_Fr_choose_104 rfl rfl (by decide) rfl ?_
            refine v_goto 9 d_Fr_choose_107 (by decide) ?_
            exact v_sub [4, 5, 6, 7, 2, 1, 0] rfl (ih a0 x1 x2 x3 x6 r4 (x6 + 1) ha0 h4)
          · refine v_iload 0 d_Fr_choose_89 rfl ?_
            refine v_iload 6 d_Fr_choose_91 rfl ?_
            refine v_icmp_ge 104 d_Fr_choose_93 (by decide) (fun c6 => ?_) (fun c6 => ?_)
            · refine v_iinc (x6 + 1) 7 [(6, .int (x6 + 1)), (7, .int r4), (0, .ref (ad G a0)), (1, .int x1), (2, .int x2), (3, .int x3), (4, .int x4), (5, .int x5)] d_Fr_choose_104 rfl rfl (by decide) rfl ?_
              refine v_goto 9 d_Fr_choose_107 (by decide) ?_
              exact v_sub [2, 3, 4, 5, 6, 7, 0] rfl (ih a0 x1 x2 x3 x4 x5 (x6 + 1) ha0 h4)
            · refine v_iload 7 d_Fr_choose_96 rfl ?_
              refine v_istore [(4, .int x6), (7, .int r4), (0, .ref (ad G a0)), (1, .int x1), (2, .int x2), (3, .int x3), (5, .int x5), (6, .int x6)] d_Fr_choose_98 (by decide) rfl ?_
              refine v_iload 1 d_Fr_choose_100 rfl ?_
              refine v_istore [(5, .int r4), (4, .int x6), (7, .int r4), (0, .ref (ad G a0)), (1, .int x1), (2, .int x2), (3, .int x3), (6, .int x6)] d_Fr_choose_102 (by decide) rfl ?_
              refine v_iinc (x6 + 1) 7 [(6, .int (x6 + 1)), (5, .int r4), (4, .int x6), (7, .int r4), (0, .ref (ad G a0)), (1, .int x1), (2, .int x2), (3, .int x3)] d_Fr_choose_104 rfl rfl (by decide) rfl ?_
              refine v_goto 9 d_Fr_choose_107 (by decide) ?_
              exact v_sub [4, 5, 6, 7, 2, 1, 0] rfl (ih a0 x1 x2 x3 x6 r4 (x6 + 1) ha0 h4)
        · refine v_iload_n 1 d_Fr_choose_44 rfl rfl ?_
          refine v_iconst 1 d_Fr_choose_45 rfl ?_
          refine v_icmp_ne 60 d_Fr_choose_46 (by decide) (fun c7 => ?_) (fun c7 => ?_)
          · refine v_aload_n 0 d_Fr_choose_49 rfl rfl ?_
            refine v_iload_n 2 d_Fr_choose_50 rfl rfl ?_
            refine v_iload 6 d_Fr_choose_51 rfl ?_
            refine v_callVi (As := [.int x2, .int x6]) (rest := []) (c_Fr_apart G a0 x2 x6 ha0 h) co_Fr_32 io_Fr_apart ha0 ⟨by decide, by decide⟩ rfl rfl (Nat.le_of_ble_eq_true rfl) d_Fr_choose_53 (fun r8 h8 _ => ?_)
            refine v_ineg d_Fr_choose_56 ?_
            refine v_goto 81 d_Fr_choose_57 (by decide) ?_
            refine v_istore [(7, .int (-r8)), (0, .ref (ad G a0)), (1, .int x1), (2, .int x2), (3, .int x3), (4, .int x4), (5, .int x5), (6, .int x6)] d_Fr_choose_81 (by decide) rfl ?_
            refine v_iload 5 d_Fr_choose_83 rfl ?_
            refine v_iconst (-1) d_Fr_choose_85 rfl ?_
            refine v_icmp_eq 96 d_Fr_choose_86 (by decide) (fun c9 => ?_) (fun c9 => ?_)
            · refine v_iload 7 d_Fr_choose_96 rfl ?_
              refine v_istore [(4, .int x6), (7, .int (-r8)), (0, .ref (ad G a0)), (1, .int x1), (2, .int x2), (3, .int x3), (5, .int x5), (6, .int x6)] d_Fr_choose_98 (by decide) rfl ?_
              refine v_iload 1 d_Fr_choose_100 rfl ?_
              refine v_istore [(5, .int (-r8)), (4, .int x6), (7, .int (-r8)), (0, .ref (ad G a0)), (1, .int x1), (2, .int x2), (3, .int x3), (6, .int x6)] d_Fr_choose_102 (by decide) rfl ?_
              refine v_iinc (x6 + 1) 7 [(6, .int (x6 + 1)), (5, .int (-r8)), (4, .int x6), (7, .int (-r8)), (0, .ref (ad G a0)), (1, .int x1), (2, .int x2), (3, .int x3)] d_Fr_choose_104 rfl rfl (by decide) rfl ?_
              refine v_goto 9 d_Fr_choose_107 (by decide) ?_
              exact v_sub [4, 5, 6, 7, 2, 1, 0] rfl (ih a0 x1 x2 x3 x6 (-r8) (x6 + 1) ha0 h8)
            · refine v_iload 0 d_Fr_choose_89 rfl ?_
              refine v_iload 6 d_Fr_choose_91 rfl ?_
              refine v_icmp_ge 104 d_Fr_choose_93 (by decide) (fun c10 => ?_) (fun c10 => ?_)
              · refine v_iinc (x6 + 1) 7 [(6, .int (x6 + 1)), (7, .int (-r8)), (0, .ref (ad G a0)), (1, .int x1), (2, .int x2), (3, .int x3), (4, .int x4), (5, .int x5)] d_Fr_choose_104 rfl rfl (by decide) rfl ?_
                refine v_goto 9 d_Fr_choose_107 (by decide) ?_
                exact v_sub [2, 3, 4, 5, 6, 7, 0] rfl (ih a0 x1 x2 x3 x4 x5 (x6 + 1) ha0 h8)
              · refine v_iload 7 d_Fr_choose_96 rfl ?_
                refine v_istore [(4, .int x6), (7, .int (-r8)), (0, .ref (ad G a0)), (1, .int x1), (2, .int x2), (3, .int x3), (5, .int x5), (6, .int x6)] d_Fr_choose_98 (by decide) rfl ?_
                refine v_iload 1 d_Fr_choose_100 rfl ?_
                refine v_istore [(5, .int (-r8)), (4, .int x6), (7, .int (-r8)), (0, .ref (ad G a0)), (1, .int x1), (2, .int x2), (3, .int x3), (6, .int x6)] d_Fr_choose_102 (by decide) rfl ?_
                refine v_iinc (x6 + 1) 7 [(6, .int (x6 + 1)), (5, .int (-r8)), (4, .int x6), (7, .int (-r8)), (0, .ref (ad G a0)), (1, .int x1), (2, .int x2), (3, .int x3)] d_Fr_choose_104 rfl rfl (by decide) rfl ?_
                refine v_goto 9 d_Fr_choose_107 (by decide) ?_
                exact v_sub [4, 5, 6, 7, 2, 1, 0] rfl (ih a0 x1 x2 x3 x6 (-r8) (x6 + 1) ha0 h8)
          · refine v_iload_n 1 d_Fr_choose_60 rfl rfl ?_
            refine v_iconst 2 d_Fr_choose_61 rfl ?_
            refine v_icmp_ne 74 d_Fr_choose_62 (by decide) (fun c11 => ?_) (fun c11 => ?_)
            · refine v_iload_n 2 d_Fr_choose_65 rfl rfl ?_
              refine v_iload 6 d_Fr_choose_66 rfl ?_
              refine v_callSi (As := [.int x2, .int x6]) (rest := []) (c_Fr_behindByNumbers G x2 x6 h) co_Fr_36 so_Fr_behindByNumbers ⟨by decide, by decide⟩ rfl rfl (Nat.le_of_ble_eq_true rfl) d_Fr_choose_68 (fun r12 h12 _ => ?_)
              refine v_goto 81 d_Fr_choose_71 (by decide) ?_
              refine v_istore [(7, .int r12), (0, .ref (ad G a0)), (1, .int x1), (2, .int x2), (3, .int x3), (4, .int x4), (5, .int x5), (6, .int x6)] d_Fr_choose_81 (by decide) rfl ?_
              refine v_iload 5 d_Fr_choose_83 rfl ?_
              refine v_iconst (-1) d_Fr_choose_85 rfl ?_
              refine v_icmp_eq 96 d_Fr_choose_86 (by decide) (fun c13 => ?_) (fun c13 => ?_)
              · refine v_iload 7 d_Fr_choose_96 rfl ?_
                refine v_istore [(4, .int x6), (7, .int r12), (0, .ref (ad G a0)), (1, .int x1), (2, .int x2), (3, .int x3), (5, .int x5), (6, .int x6)] d_Fr_choose_98 (by decide) rfl ?_
                refine v_iload 1 d_Fr_choose_100 rfl ?_
                refine v_istore [(5, .int r12), (4, .int x6), (7, .int r12), (0, .ref (ad G a0)), (1, .int x1), (2, .int x2), (3, .int x3), (6, .int x6)] d_Fr_choose_102 (by decide) rfl ?_
                refine v_iinc (x6 + 1) 7 [(6, .int (x6 + 1)), (5, .int r12), (4, .int x6), (7, .int r12), (0, .ref (ad G a0)), (1, .int x1), (2, .int x2), (3, .int x3)] d_Fr_choose_104 rfl rfl (by decide) rfl ?_
                refine v_goto 9 d_Fr_choose_107 (by decide) ?_
                exact v_sub [4, 5, 6, 7, 2, 1, 0] rfl (ih a0 x1 x2 x3 x6 r12 (x6 + 1) ha0 h12)
              · refine v_iload 0 d_Fr_choose_89 rfl ?_
                refine v_iload 6 d_Fr_choose_91 rfl ?_
                refine v_icmp_ge 104 d_Fr_choose_93 (by decide) (fun c14 => ?_) (fun c14 => ?_)
                · refine v_iinc (x6 + 1) 7 [(6, .int (x6 + 1)), (7, .int r12), (0, .ref (ad G a0)), (1, .int x1), (2, .int x2), (3, .int x3), (4, .int x4), (5, .int x5)] d_Fr_choose_104 rfl rfl (by decide) rfl ?_
                  refine v_goto 9 d_Fr_choose_107 (by decide) ?_
                  exact v_sub [2, 3, 4, 5, 6, 7, 0] rfl (ih a0 x1 x2 x3 x4 x5 (x6 + 1) ha0 h12)
                · refine v_iload 7 d_Fr_choose_96 rfl ?_
                  refine v_istore [(4, .int x6), (7, .int r12), (0, .ref (ad G a0)), (1, .int x1), (2, .int x2), (3, .int x3), (5, .int x5), (6, .int x6)] d_Fr_choose_98 (by decide) rfl ?_
                  refine v_iload 1 d_Fr_choose_100 rfl ?_
                  refine v_istore [(5, .int r12), (4, .int x6), (7, .int r12), (0, .ref (ad G a0)), (1, .int x1), (2, .int x2), (3, .int x3), (6, .int x6)] d_Fr_choose_102 (by decide) rfl ?_
                  refine v_iinc (x6 + 1) 7 [(6, .int (x6 + 1)), (5, .int r12), (4, .int x6), (7, .int r12), (0, .ref (ad G a0)), (1, .int x1), (2, .int x2), (3, .int x3)] d_Fr_choose_104 rfl rfl (by decide) rfl ?_
                  refine v_goto 9 d_Fr_choose_107 (by decide) ?_
                  exact v_sub [4, 5, 6, 7, 2, 1, 0] rfl (ih a0 x1 x2 x3 x6 r12 (x6 + 1) ha0 h12)
            · refine v_aload_n 0 d_Fr_choose_74 rfl rfl ?_
              refine v_iload_n 2 d_Fr_choose_75 rfl rfl ?_
              refine v_iload 6 d_Fr_choose_76 rfl ?_
              refine v_callVi (As := [.int x2, .int x6]) (rest := []) (c_Fr_behindByRows G a0 x2 x6 ha0 h) co_Fr_39 io_Fr_behindByRows ha0 ⟨by decide, by decide⟩ rfl rfl (Nat.le_of_ble_eq_true rfl) d_Fr_choose_78 (fun r15 h15 _ => ?_)
              refine v_istore [(7, .int r15), (0, .ref (ad G a0)), (1, .int x1), (2, .int x2), (3, .int x3), (4, .int x4), (5, .int x5), (6, .int x6)] d_Fr_choose_81 (by decide) rfl ?_
              refine v_iload 5 d_Fr_choose_83 rfl ?_
              refine v_iconst (-1) d_Fr_choose_85 rfl ?_
              refine v_icmp_eq 96 d_Fr_choose_86 (by decide) (fun c16 => ?_) (fun c16 => ?_)
              · refine v_iload 7 d_Fr_choose_96 rfl ?_
                refine v_istore [(4, .int x6), (7, .int r15), (0, .ref (ad G a0)), (1, .int x1), (2, .int x2), (3, .int x3), (5, .int x5), (6, .int x6)] d_Fr_choose_98 (by decide) rfl ?_
                refine v_iload 1 d_Fr_choose_100 rfl ?_
                refine v_istore [(5, .int r15), (4, .int x6), (7, .int r15), (0, .ref (ad G a0)), (1, .int x1), (2, .int x2), (3, .int x3), (6, .int x6)] d_Fr_choose_102 (by decide) rfl ?_
                refine v_iinc (x6 + 1) 7 [(6, .int (x6 + 1)), (5, .int r15), (4, .int x6), (7, .int r15), (0, .ref (ad G a0)), (1, .int x1), (2, .int x2), (3, .int x3)] d_Fr_choose_104 rfl rfl (by decide) rfl ?_
                refine v_goto 9 d_Fr_choose_107 (by decide) ?_
                exact v_sub [4, 5, 6, 7, 2, 1, 0] rfl (ih a0 x1 x2 x3 x6 r15 (x6 + 1) ha0 h15)
              · refine v_iload 0 d_Fr_choose_89 rfl ?_
                refine v_iload 6 d_Fr_choose_91 rfl ?_
                refine v_icmp_ge 104 d_Fr_choose_93 (by decide) (fun c17 => ?_) (fun c17 => ?_)
                · refine v_iinc (x6 + 1) 7 [(6, .int (x6 + 1)), (7, .int r15), (0, .ref (ad G a0)), (1, .int x1), (2, .int x2), (3, .int x3), (4, .int x4), (5, .int x5)] d_Fr_choose_104 rfl rfl (by decide) rfl ?_
                  refine v_goto 9 d_Fr_choose_107 (by decide) ?_
                  exact v_sub [2, 3, 4, 5, 6, 7, 0] rfl (ih a0 x1 x2 x3 x4 x5 (x6 + 1) ha0 h15)
                · refine v_iload 7 d_Fr_choose_96 rfl ?_
                  refine v_istore [(4, .int x6), (7, .int r15), (0, .ref (ad G a0)), (1, .int x1), (2, .int x2), (3, .int x3), (5, .int x5), (6, .int x6)] d_Fr_choose_98 (by decide) rfl ?_
                  refine v_iload 1 d_Fr_choose_100 rfl ?_
                  refine v_istore [(5, .int r15), (4, .int x6), (7, .int r15), (0, .ref (ad G a0)), (1, .int x1), (2, .int x2), (3, .int x3), (6, .int x6)] d_Fr_choose_102 (by decide) rfl ?_
                  refine v_iinc (x6 + 1) 7 [(6, .int (x6 + 1)), (5, .int r15), (4, .int x6), (7, .int r15), (0, .ref (ad G a0)), (1, .int x1), (2, .int x2), (3, .int x3)] d_Fr_choose_104 rfl rfl (by decide) rfl ?_
                  refine v_goto 9 d_Fr_choose_107 (by decide) ?_
                  exact v_sub [4, 5, 6, 7, 2, 1, 0] rfl (ih a0 x1 x2 x3 x6 r15 (x6 + 1) ha0 h15)
set_option maxHeartbeats 4000000 in
set_option maxRecDepth 20000 in
theorem c_Fr_choose (G : Gt) (a0 : Nat) (x1 : Int32) (x2 : Int32) (x3 : Int32) (ha0 : isO 0 a0) (h : Hp) : Cn G m_Fr_choose [.ref (ad G a0), .int x1, .int x2, .int x3] h κi (f_Fr_choose a0 x1 x2 x3 h) := by
  refine entryV (by decide) (Nat.le_of_ble_eq_true rfl) rfl ?_
  show V G m_Fr_choose 0 [(0, .ref (ad G a0)), (1, .int x1), (2, .int x2), (3, .int x3)] [] h κi _
  unfold f_Fr_choose
  refine v_iconst (-1) d_Fr_choose_0 rfl ?_
  refine v_istore [(4, .int (-1)), (0, .ref (ad G a0)), (1, .int x1), (2, .int x2), (3, .int x3)] d_Fr_choose_1 (by decide) rfl ?_
  refine v_iconst 0 d_Fr_choose_3 rfl ?_
  refine v_istore [(5, .int 0), (4, .int (-1)), (0, .ref (ad G a0)), (1, .int x1), (2, .int x2), (3, .int x3)] d_Fr_choose_4 (by decide) rfl ?_
  refine v_iconst 0 d_Fr_choose_6 rfl ?_
  refine v_istore [(6, .int 0), (5, .int 0), (4, .int (-1)), (0, .ref (ad G a0)), (1, .int x1), (2, .int x2), (3, .int x3)] d_Fr_choose_7 (by decide) rfl ?_
  exact v_sub [3, 4, 5, 6, 2, 1, 0] rfl (Vl_Fr_choose_9 G FUEL a0 x1 x2 x3 (-1) 0 0 ha0 h)
theorem d_Sp_goOn_0 : decode m_Sp_goOn.2.1 0 = .ok (.aload_n 0, 1) := by decide +kernel
theorem d_Sp_goOn_1 : decode m_Sp_goOn.2.1 1 = .ok (.getfield 15, 3) := by decide +kernel
theorem d_Sp_goOn_4 : decode m_Sp_goOn.2.1 4 = .ok (.bipush 10, 2) := by decide +kernel
theorem d_Sp_goOn_6 : decode m_Sp_goOn.2.1 6 = .ok (.if_icmp .ge 13, 3) := by decide +kernel
theorem d_Sp_goOn_9 : decode m_Sp_goOn.2.1 9 = .ok (.iload_n 2, 1) := by decide +kernel
theorem d_Sp_goOn_10 : decode m_Sp_goOn.2.1 10 = .ok (.iload_n 3, 1) := by decide +kernel
theorem d_Sp_goOn_11 : decode m_Sp_goOn.2.1 11 = .ok (.iadd, 1) := by decide +kernel
theorem d_Sp_goOn_12 : decode m_Sp_goOn.2.1 12 = .ok (.aload_n 0, 1) := by decide +kernel
theorem d_Sp_goOn_13 : decode m_Sp_goOn.2.1 13 = .ok (.getfield 25, 3) := by decide +kernel
theorem d_Sp_goOn_16 : decode m_Sp_goOn.2.1 16 = .ok (.if_icmp .le 5, 3) := by decide +kernel
theorem d_Sp_goOn_19 : decode m_Sp_goOn.2.1 19 = .ok (.iconst 0, 1) := by decide +kernel
theorem d_Sp_goOn_20 : decode m_Sp_goOn.2.1 20 = .ok (.ireturn, 1) := by decide +kernel
theorem d_Sp_goOn_21 : decode m_Sp_goOn.2.1 21 = .ok (.aload_n 0, 1) := by decide +kernel
theorem d_Sp_goOn_22 : decode m_Sp_goOn.2.1 22 = .ok (.getfield 9, 3) := by decide +kernel
theorem d_Sp_goOn_25 : decode m_Sp_goOn.2.1 25 = .ok (.aload_n 0, 1) := by decide +kernel
theorem d_Sp_goOn_26 : decode m_Sp_goOn.2.1 26 = .ok (.getfield 15, 3) := by decide +kernel
theorem d_Sp_goOn_29 : decode m_Sp_goOn.2.1 29 = .ok (.iload_n 1, 1) := by decide +kernel
theorem d_Sp_goOn_30 : decode m_Sp_goOn.2.1 30 = .ok (.iastore, 1) := by decide +kernel
theorem d_Sp_goOn_31 : decode m_Sp_goOn.2.1 31 = .ok (.aload_n 0, 1) := by decide +kernel
theorem d_Sp_goOn_32 : decode m_Sp_goOn.2.1 32 = .ok (.dup, 1) := by decide +kernel
theorem d_Sp_goOn_33 : decode m_Sp_goOn.2.1 33 = .ok (.getfield 15, 3) := by decide +kernel
theorem d_Sp_goOn_36 : decode m_Sp_goOn.2.1 36 = .ok (.iconst 1, 1) := by decide +kernel
theorem d_Sp_goOn_37 : decode m_Sp_goOn.2.1 37 = .ok (.iadd, 1) := by decide +kernel
theorem d_Sp_goOn_38 : decode m_Sp_goOn.2.1 38 = .ok (.putfield 15, 3) := by decide +kernel
theorem d_Sp_goOn_41 : decode m_Sp_goOn.2.1 41 = .ok (.aload_n 0, 1) := by decide +kernel
theorem d_Sp_goOn_42 : decode m_Sp_goOn.2.1 42 = .ok (.dup, 1) := by decide +kernel
theorem d_Sp_goOn_43 : decode m_Sp_goOn.2.1 43 = .ok (.getfield 22, 3) := by decide +kernel
theorem d_Sp_goOn_46 : decode m_Sp_goOn.2.1 46 = .ok (.iload_n 2, 1) := by decide +kernel
theorem d_Sp_goOn_47 : decode m_Sp_goOn.2.1 47 = .ok (.iadd, 1) := by decide +kernel
theorem d_Sp_goOn_48 : decode m_Sp_goOn.2.1 48 = .ok (.putfield 22, 3) := by decide +kernel
theorem d_Sp_goOn_51 : decode m_Sp_goOn.2.1 51 = .ok (.aload_n 0, 1) := by decide +kernel
theorem d_Sp_goOn_52 : decode m_Sp_goOn.2.1 52 = .ok (.dup, 1) := by decide +kernel
theorem d_Sp_goOn_53 : decode m_Sp_goOn.2.1 53 = .ok (.getfield 25, 3) := by decide +kernel
theorem d_Sp_goOn_56 : decode m_Sp_goOn.2.1 56 = .ok (.iload_n 2, 1) := by decide +kernel
theorem d_Sp_goOn_57 : decode m_Sp_goOn.2.1 57 = .ok (.iload_n 3, 1) := by decide +kernel
theorem d_Sp_goOn_58 : decode m_Sp_goOn.2.1 58 = .ok (.iadd, 1) := by decide +kernel
theorem d_Sp_goOn_59 : decode m_Sp_goOn.2.1 59 = .ok (.isub, 1) := by decide +kernel
theorem d_Sp_goOn_60 : decode m_Sp_goOn.2.1 60 = .ok (.putfield 25, 3) := by decide +kernel
theorem d_Sp_goOn_63 : decode m_Sp_goOn.2.1 63 = .ok (.iconst 1, 1) := by decide +kernel
theorem d_Sp_goOn_64 : decode m_Sp_goOn.2.1 64 = .ok (.ireturn, 1) := by decide +kernel
set_option maxHeartbeats 4000000 in
set_option maxRecDepth 20000 in
theorem c_Sp_goOn (G : Gt) (a0 : Nat) (x1 : Int32) (x2 : Int32) (x3 : Int32) (ha0 : isO 3 a0) (h : Hp) : Cn G m_Sp_goOn [.ref (ad G a0), .int x1, .int x2, .int x3] h κi (f_Sp_goOn a0 x1 x2 x3 h) := by
  refine entryV (by decide) (Nat.le_of_ble_eq_true rfl) rfl ?_
  show V G m_Sp_goOn 0 [(0, .ref (ad G a0)), (1, .int x1), (2, .int x2), (3, .int x3)] [] h κi _
  unfold f_Sp_goOn
  refine v_aload_n 0 d_Sp_goOn_0 rfl rfl ?_
  refine v_geti fl_Sp_15 ha0 rfl d_Sp_goOn_1 ?_
  refine v_bipush 10 d_Sp_goOn_4 rfl ?_
  refine v_icmp_ge 19 d_Sp_goOn_6 (by decide) (fun c1 => ?_) (fun c1 => ?_)
  · refine v_iconst 0 d_Sp_goOn_19 rfl ?_
    exact v_zretL rfl rfl d_Sp_goOn_20
  · refine v_iload_n 2 d_Sp_goOn_9 rfl rfl ?_
    refine v_iload_n 3 d_Sp_goOn_10 rfl rfl ?_
    refine v_iadd d_Sp_goOn_11 ?_
    refine v_aload_n 0 d_Sp_goOn_12 rfl rfl ?_
    refine v_geti fl_Sp_25 ha0 rfl d_Sp_goOn_13 ?_
    refine v_icmp_le 21 d_Sp_goOn_16 (by decide) (fun c2 => ?_) (fun c2 => ?_)
    · refine v_aload_n 0 d_Sp_goOn_21 rfl rfl ?_
      refine v_getr (a0 + 1) fl_Sp_9 ha0 rfl rfl d_Sp_goOn_22 ?_
      refine v_aload_n 0 d_Sp_goOn_25 rfl rfl ?_
      refine v_geti fl_Sp_15 ha0 rfl d_Sp_goOn_26 ?_
      refine v_iload_n 1 d_Sp_goOn_29 rfl rfl ?_
      refine v_iast (spA ha0) d_Sp_goOn_30 ?_
      refine v_aload_n 0 d_Sp_goOn_31 rfl rfl ?_
      refine v_dup d_Sp_goOn_32 rfl ?_
      refine v_geti fl_Sp_15 ha0 rfl d_Sp_goOn_33 ?_
      refine v_iconst 1 d_Sp_goOn_36 rfl ?_
      refine v_iadd d_Sp_goOn_37 ?_
      refine v_puti fl_Sp_15 ft_3_1 rfl rfl ha0 rfl d_Sp_goOn_38 ?_
      refine v_aload_n 0 d_Sp_goOn_41 rfl rfl ?_
      refine v_dup d_Sp_goOn_42 rfl ?_
      refine v_geti fl_Sp_22 ha0 rfl d_Sp_goOn_43 ?_
      refine v_iload_n 2 d_Sp_goOn_46 rfl rfl ?_
      refine v_iadd d_Sp_goOn_47 ?_
      refine v_puti fl_Sp_22 ft_3_3 rfl rfl ha0 rfl d_Sp_goOn_48 ?_
      refine v_aload_n 0 d_Sp_goOn_51 rfl rfl ?_
      refine v_dup d_Sp_goOn_52 rfl ?_
      refine v_geti fl_Sp_25 ha0 rfl d_Sp_goOn_53 ?_
      refine v_iload_n 2 d_Sp_goOn_56 rfl rfl ?_
      refine v_iload_n 3 d_Sp_goOn_57 rfl rfl ?_
      refine v_iadd d_Sp_goOn_58 ?_
      refine v_isub d_Sp_goOn_59 ?_
      refine v_puti fl_Sp_25 ft_3_4 rfl rfl ha0 rfl d_Sp_goOn_60 ?_
      refine v_iconst 1 d_Sp_goOn_63 rfl ?_
      exact v_zretL rfl rfl d_Sp_goOn_64
    · refine v_iconst 0 d_Sp_goOn_19 rfl ?_
      exact v_zretL rfl rfl d_Sp_goOn_20
theorem d_C_lay_0 : decode m_C_lay.2.1 0 = .ok (.aload_n 1, 1) := by decide +kernel
theorem d_C_lay_1 : decode m_C_lay.2.1 1 = .ok (.iload_n 3, 1) := by decide +kernel
theorem d_C_lay_2 : decode m_C_lay.2.1 2 = .ok (.iload 4, 2) := by decide +kernel
theorem d_C_lay_4 : decode m_C_lay.2.1 4 = .ok (.aload_n 0, 1) := by decide +kernel
theorem d_C_lay_5 : decode m_C_lay.2.1 5 = .ok (.getfield 52, 3) := by decide +kernel
theorem d_C_lay_8 : decode m_C_lay.2.1 8 = .ok (.invokevirtual 181, 3) := by decide +kernel
theorem d_C_lay_11 : decode m_C_lay.2.1 11 = .ok (.aload_n 2, 1) := by decide +kernel
theorem d_C_lay_12 : decode m_C_lay.2.1 12 = .ok (.invokevirtual 237, 3) := by decide +kernel
theorem d_C_lay_15 : decode m_C_lay.2.1 15 = .ok (.iload 5, 2) := by decide +kernel
theorem d_C_lay_17 : decode m_C_lay.2.1 17 = .ok (.iconst (-1), 1) := by decide +kernel
theorem d_C_lay_18 : decode m_C_lay.2.1 18 = .ok (.ixor, 1) := by decide +kernel
theorem d_C_lay_19 : decode m_C_lay.2.1 19 = .ok (.iand, 1) := by decide +kernel
theorem d_C_lay_20 : decode m_C_lay.2.1 20 = .ok (.iconst 1, 1) := by decide +kernel
theorem d_C_lay_21 : decode m_C_lay.2.1 21 = .ok (.iload_n 3, 1) := by decide +kernel
theorem d_C_lay_22 : decode m_C_lay.2.1 22 = .ok (.ishl, 1) := by decide +kernel
theorem d_C_lay_23 : decode m_C_lay.2.1 23 = .ok (.iconst (-1), 1) := by decide +kernel
theorem d_C_lay_24 : decode m_C_lay.2.1 24 = .ok (.ixor, 1) := by decide +kernel
theorem d_C_lay_25 : decode m_C_lay.2.1 25 = .ok (.iand, 1) := by decide +kernel
theorem d_C_lay_26 : decode m_C_lay.2.1 26 = .ok (.istore 6, 2) := by decide +kernel
theorem d_C_lay_28 : decode m_C_lay.2.1 28 = .ok (.iconst 1, 1) := by decide +kernel
theorem d_C_lay_29 : decode m_C_lay.2.1 29 = .ok (.istore 7, 2) := by decide +kernel
theorem d_C_lay_31 : decode m_C_lay.2.1 31 = .ok (.iload 7, 2) := by decide +kernel
theorem d_C_lay_33 : decode m_C_lay.2.1 33 = .ok (.aload_n 2, 1) := by decide +kernel
theorem d_C_lay_34 : decode m_C_lay.2.1 34 = .ok (.getfield 159, 3) := by decide +kernel
theorem d_C_lay_37 : decode m_C_lay.2.1 37 = .ok (.if_icmp .ge 66, 3) := by decide +kernel
theorem d_C_lay_40 : decode m_C_lay.2.1 40 = .ok (.aload_n 2, 1) := by decide +kernel
theorem d_C_lay_41 : decode m_C_lay.2.1 41 = .ok (.iload 4, 2) := by decide +kernel
theorem d_C_lay_43 : decode m_C_lay.2.1 43 = .ok (.aload_n 1, 1) := by decide +kernel
theorem d_C_lay_44 : decode m_C_lay.2.1 44 = .ok (.invokevirtual 295, 3) := by decide +kernel
theorem d_C_lay_47 : decode m_C_lay.2.1 47 = .ok (.iload 6, 2) := by decide +kernel
theorem d_C_lay_49 : decode m_C_lay.2.1 49 = .ok (.invokevirtual 298, 3) := by decide +kernel
theorem d_C_lay_52 : decode m_C_lay.2.1 52 = .ok (.istore 8, 2) := by decide +kernel
theorem d_C_lay_54 : decode m_C_lay.2.1 54 = .ok (.iload 8, 2) := by decide +kernel
theorem d_C_lay_56 : decode m_C_lay.2.1 56 = .ok (.iconst (-1), 1) := by decide +kernel
theorem d_C_lay_57 : decode m_C_lay.2.1 57 = .ok (.if_icmp .eq 46, 3) := by decide +kernel
theorem d_C_lay_60 : decode m_C_lay.2.1 60 = .ok (.aload_n 1, 1) := by decide +kernel
theorem d_C_lay_61 : decode m_C_lay.2.1 61 = .ok (.iload 8, 2) := by decide +kernel
theorem d_C_lay_63 : decode m_C_lay.2.1 63 = .ok (.aload_n 2, 1) := by decide +kernel
theorem d_C_lay_64 : decode m_C_lay.2.1 64 = .ok (.aload_n 1, 1) := by decide +kernel
theorem d_C_lay_65 : decode m_C_lay.2.1 65 = .ok (.invokevirtual 295, 3) := by decide +kernel
theorem d_C_lay_68 : decode m_C_lay.2.1 68 = .ok (.iload 8, 2) := by decide +kernel
theorem d_C_lay_70 : decode m_C_lay.2.1 70 = .ok (.invokevirtual 119, 3) := by decide +kernel
theorem d_C_lay_73 : decode m_C_lay.2.1 73 = .ok (.aload_n 0, 1) := by decide +kernel
theorem d_C_lay_74 : decode m_C_lay.2.1 74 = .ok (.getfield 55, 3) := by decide +kernel
theorem d_C_lay_77 : decode m_C_lay.2.1 77 = .ok (.invokevirtual 301, 3) := by decide +kernel
theorem d_C_lay_80 : decode m_C_lay.2.1 80 = .ok (.ifCond .ne 6, 3) := by decide +kernel
theorem d_C_lay_83 : decode m_C_lay.2.1 83 = .ok (.goto 20, 3) := by decide +kernel
theorem d_C_lay_86 : decode m_C_lay.2.1 86 = .ok (.iload 6, 2) := by decide +kernel
theorem d_C_lay_88 : decode m_C_lay.2.1 88 = .ok (.iconst 1, 1) := by decide +kernel
theorem d_C_lay_89 : decode m_C_lay.2.1 89 = .ok (.iload 8, 2) := by decide +kernel
theorem d_C_lay_91 : decode m_C_lay.2.1 91 = .ok (.ishl, 1) := by decide +kernel
theorem d_C_lay_92 : decode m_C_lay.2.1 92 = .ok (.iconst (-1), 1) := by decide +kernel
theorem d_C_lay_93 : decode m_C_lay.2.1 93 = .ok (.ixor, 1) := by decide +kernel
theorem d_C_lay_94 : decode m_C_lay.2.1 94 = .ok (.iand, 1) := by decide +kernel
theorem d_C_lay_95 : decode m_C_lay.2.1 95 = .ok (.istore 6, 2) := by decide +kernel
theorem d_C_lay_97 : decode m_C_lay.2.1 97 = .ok (.iinc 7 1, 3) := by decide +kernel
theorem d_C_lay_100 : decode m_C_lay.2.1 100 = .ok (.goto (-69), 3) := by decide +kernel
theorem d_C_lay_103 : decode m_C_lay.2.1 103 = .ok (.aload_n 1, 1) := by decide +kernel
theorem d_C_lay_104 : decode m_C_lay.2.1 104 = .ok (.areturn, 1) := by decide +kernel
set_option maxHeartbeats 4000000 in
set_option maxRecDepth 20000 in
theorem Vl_C_lay_31 (G : Gt) : ∀ (n : Nat) (a1 : Nat) (a2 : Nat) (x4 : Int32) (x6 : Int32) (x7 : Int32) (ha1 : isO 3 a1) (ha2 : isO 0 a2) (h : Hp), V G m_C_lay 31 [(0, .ref (ad G 0)), (1, .ref (ad G a1)), (2, .ref (ad G a2)), (4, .int x4), (6, .int x6), (7, .int x7)] [] h (κr G) (l_C_lay_31 n a1 a2 x4 x6 x7 h) := by
  intro n
  induction n with
  | zero => intros; exact v_none
  | succ n ih =>
    intro a1 a2 x4 x6 x7 ha1 ha2 h
    rw [l_C_lay_31]
    refine v_iload 5 d_C_lay_31 rfl ?_
    refine v_aload_n 2 d_C_lay_33 rfl rfl ?_
    refine v_geti fl_C_159 ha2 rfl d_C_lay_34 ?_
    refine v_icmp_ge 103 d_C_lay_37 (by decide) (fun c3 => ?_) (fun c3 => ?_)
    · refine v_aload_n 1 d_C_lay_103 rfl rfl ?_
      exact v_aret rfl d_C_lay_104
    · refine v_aload_n 2 d_C_lay_40 rfl rfl ?_
      refine v_iload 3 d_C_lay_41 rfl ?_
      refine v_aload_n 1 d_C_lay_43 rfl rfl ?_
      refine v_callVi (As := []) (rest := [.int x4, .ref (ad G a2)]) (c_Sp_here G a1 ha1 h) co_C_295 io_Sp_here ha1 ⟨by decide, by decide⟩ rfl rfl (Nat.le_of_ble_eq_true rfl) d_C_lay_44 (fun r4 h4 _ => ?_)
      refine v_iload 4 d_C_lay_47 rfl ?_
      refine v_callVi (As := [.int x4, .int r4, .int x6]) (rest := []) (c_Fr_choose G a2 x4 r4 x6 ha2 h4) co_C_298 io_Fr_choose ha2 ⟨by decide, by decide⟩ rfl rfl (Nat.le_of_ble_eq_true rfl) d_C_lay_49 (fun r5 h5 _ => ?_)
      refine v_istore [(8, .int r5), (0, .ref (ad G 0)), (1, .ref (ad G a1)), (2, .ref (ad G a2)), (4, .int x4), (6, .int x6), (7, .int x7)] d_C_lay_52 (by decide) rfl ?_
      refine v_iload 0 d_C_lay_54 rfl ?_
      refine v_iconst (-1) d_C_lay_56 rfl ?_
      refine v_icmp_eq 103 d_C_lay_57 (by decide) (fun c6 => ?_) (fun c6 => ?_)
      · refine v_aload_n 2 d_C_lay_103 rfl rfl ?_
        exact v_aret rfl d_C_lay_104
      · refine v_aload_n 2 d_C_lay_60 rfl rfl ?_
        refine v_iload 0 d_C_lay_61 rfl ?_
        refine v_aload_n 3 d_C_lay_63 rfl rfl ?_
        refine v_aload_n 2 d_C_lay_64 rfl rfl ?_
        refine v_callVi (As := []) (rest := [.ref (ad G a2), .int r5, .ref (ad G a1)]) (c_Sp_here G a1 ha1 h5) co_C_295 io_Sp_here ha1 ⟨by decide, by decide⟩ rfl rfl (Nat.le_of_ble_eq_true rfl) d_C_lay_65 (fun r7 h7 _ => ?_)
        refine v_iload 0 d_C_lay_68 rfl ?_
        refine v_callVi (As := [.int r7, .int r5]) (rest := [.int r5, .ref (ad G a1)]) (c_Fr_apart G a2 r7 r5 ha2 h7) co_C_119 io_Fr_apart ha2 ⟨by decide, by decide⟩ rfl rfl (Nat.le_of_ble_eq_true rfl) d_C_lay_70 (fun r8 h8 _ => ?_)
        refine v_aload_n 1 d_C_lay_73 rfl rfl ?_
        refine v_geti fl_C_55 o_0 rfl d_C_lay_74 ?_
        refine v_callVi (As := [.int r5, .int r8, .int (h8 0 9)]) (rest := []) (c_Sp_goOn G a1 r5 r8 (h8 0 9) ha1 h8) co_C_301 io_Sp_goOn ha1 ⟨by decide, by decide⟩ rfl rfl (Nat.le_of_ble_eq_true rfl) d_C_lay_77 (fun r9 h9 _ => ?_)
        refine v_if_ne 86 d_C_lay_80 (by decide) (fun c10 => ?_) (fun c10 => ?_)
        · refine v_goto 103 d_C_lay_83 (by decide) ?_
          refine v_aload_n 2 d_C_lay_103 rfl rfl ?_
          exact v_aret rfl d_C_lay_104
        · refine v_iload 5 d_C_lay_86 rfl ?_
          refine v_iconst 1 d_C_lay_88 rfl ?_
          refine v_iload 0 d_C_lay_89 rfl ?_
          refine v_ishl d_C_lay_91 ?_
          refine v_iconst (-1) d_C_lay_92 rfl ?_
          refine v_ixor d_C_lay_93 ?_
          refine v_iand d_C_lay_94 ?_
          refine v_istore [(6, .int (x6 &&& (((1 : Int32) <<< (r5 &&& 31)) ^^^ (-1)))), (8, .int r5), (0, .ref (ad G 0)), (1, .ref (ad G a1)), (2, .ref (ad G a2)), (4, .int x4), (7, .int x7)] d_C_lay_95 (by decide) rfl ?_
          refine v_iinc (x7 + 1) 6 [(7, .int (x7 + 1)), (6, .int (x6 &&& (((1 : Int32) <<< (r5 &&& 31)) ^^^ (-1)))), (8, .int r5), (0, .ref (ad G 0)), (1, .ref (ad G a1)), (2, .ref (ad G a2)), (4, .int x4)] d_C_lay_97 rfl rfl (by decide) rfl ?_
          refine v_goto 31 d_C_lay_100 (by decide) ?_
          exact v_sub [3, 4, 5, 6, 1, 0] rfl (ih a1 a2 x4 (x6 &&& (((1 : Int32) <<< (r5 &&& 31)) ^^^ (-1))) (x7 + 1) ha1 ha2 h9)
set_option maxHeartbeats 4000000 in
set_option maxRecDepth 20000 in
theorem c_C_lay (G : Gt) (a1 : Nat) (a2 : Nat) (x3 : Int32) (x4 : Int32) (x5 : Int32) (ha1 : isO 3 a1) (ha2 : isO 0 a2) (h : Hp) : Cn G m_C_lay [.ref (ad G 0), .ref (ad G a1), .ref (ad G a2), .int x3, .int x4, .int x5] h (κr G) (f_C_lay a1 a2 x3 x4 x5 h) := by
  refine entryV (by decide) (Nat.le_of_ble_eq_true rfl) rfl ?_
  show V G m_C_lay 0 [(0, .ref (ad G 0)), (1, .ref (ad G a1)), (2, .ref (ad G a2)), (3, .int x3), (4, .int x4), (5, .int x5)] [] h (κr G) _
  unfold f_C_lay
  refine v_aload_n 1 d_C_lay_0 rfl rfl ?_
  refine v_iload_n 3 d_C_lay_1 rfl rfl ?_
  refine v_iload 4 d_C_lay_2 rfl ?_
  refine v_aload_n 0 d_C_lay_4 rfl rfl ?_
  refine v_geti fl_C_52 o_0 rfl d_C_lay_5 ?_
  refine v_callVv (As := [.int x3, .int x4, .int (h 0 8)]) (rest := []) (c_Sp_startAt G a1 x3 x4 (h 0 8) ha1 h) co_C_181 io_Sp_startAt ha1 ⟨by decide, by decide⟩ rfl rfl (Nat.le_of_ble_eq_true rfl) d_C_lay_8 (fun _ h1 _ => ?_)
  refine v_aload_n 2 d_C_lay_11 rfl rfl ?_
  refine v_callVi (As := []) (rest := []) (c_Fr_all G a2 ha2 h1) co_C_237 io_Fr_all ha2 ⟨by decide, by decide⟩ rfl rfl (Nat.le_of_ble_eq_true rfl) d_C_lay_12 (fun r2 h2 _ => ?_)
  refine v_iload 5 d_C_lay_15 rfl ?_
  refine v_iconst (-1) d_C_lay_17 rfl ?_
  refine v_ixor d_C_lay_18 ?_
  refine v_iand d_C_lay_19 ?_
  refine v_iconst 1 d_C_lay_20 rfl ?_
  refine v_iload_n 3 d_C_lay_21 rfl rfl ?_
  refine v_ishl d_C_lay_22 ?_
  refine v_iconst (-1) d_C_lay_23 rfl ?_
  refine v_ixor d_C_lay_24 ?_
  refine v_iand d_C_lay_25 ?_
  refine v_istore [(6, .int ((r2 &&& (x5 ^^^ (-1))) &&& (((1 : Int32) <<< (x3 &&& 31)) ^^^ (-1)))), (0, .ref (ad G 0)), (1, .ref (ad G a1)), (2, .ref (ad G a2)), (3, .int x3), (4, .int x4), (5, .int x5)] d_C_lay_26 (by decide) rfl ?_
  refine v_iconst 1 d_C_lay_28 rfl ?_
  refine v_istore [(7, .int 1), (6, .int ((r2 &&& (x5 ^^^ (-1))) &&& (((1 : Int32) <<< (x3 &&& 31)) ^^^ (-1)))), (0, .ref (ad G 0)), (1, .ref (ad G a1)), (2, .ref (ad G a2)), (3, .int x3), (4, .int x4), (5, .int x5)] d_C_lay_29 (by decide) rfl ?_
  exact v_sub [2, 3, 4, 6, 1, 0] rfl (Vl_C_lay_31 G FUEL a1 a2 x4 ((r2 &&& (x5 ^^^ (-1))) &&& (((1 : Int32) <<< (x3 &&& 31)) ^^^ (-1))) 1 ha1 ha2 h2)
theorem d_C_web_0 : decode m_C_web.2.1 0 = .ok (.aload_n 0, 1) := by decide +kernel
theorem d_C_web_1 : decode m_C_web.2.1 1 = .ok (.iload_n 1, 1) := by decide +kernel
theorem d_C_web_2 : decode m_C_web.2.1 2 = .ok (.iload_n 2, 1) := by decide +kernel
theorem d_C_web_3 : decode m_C_web.2.1 3 = .ok (.invokevirtual 122, 3) := by decide +kernel
theorem d_C_web_6 : decode m_C_web.2.1 6 = .ok (.ifCond .eq 13, 3) := by decide +kernel
theorem d_C_web_9 : decode m_C_web.2.1 9 = .ok (.iload_n 3, 1) := by decide +kernel
theorem d_C_web_10 : decode m_C_web.2.1 10 = .ok (.ifCond .lt 9, 3) := by decide +kernel
theorem d_C_web_13 : decode m_C_web.2.1 13 = .ok (.iload_n 3, 1) := by decide +kernel
theorem d_C_web_14 : decode m_C_web.2.1 14 = .ok (.bipush 10, 2) := by decide +kernel
theorem d_C_web_16 : decode m_C_web.2.1 16 = .ok (.if_icmp .lt 6, 3) := by decide +kernel
theorem d_C_web_19 : decode m_C_web.2.1 19 = .ok (.bipush (-2), 2) := by decide +kernel
theorem d_C_web_21 : decode m_C_web.2.1 21 = .ok (.ireturn, 1) := by decide +kernel
theorem d_C_web_22 : decode m_C_web.2.1 22 = .ok (.aload_n 0, 1) := by decide +kernel
theorem d_C_web_23 : decode m_C_web.2.1 23 = .ok (.iload_n 1, 1) := by decide +kernel
theorem d_C_web_24 : decode m_C_web.2.1 24 = .ok (.invokevirtual 91, 3) := by decide +kernel
theorem d_C_web_27 : decode m_C_web.2.1 27 = .ok (.ifCond .eq 6, 3) := by decide +kernel
theorem d_C_web_30 : decode m_C_web.2.1 30 = .ok (.bipush (-3), 2) := by decide +kernel
theorem d_C_web_32 : decode m_C_web.2.1 32 = .ok (.ireturn, 1) := by decide +kernel
theorem d_C_web_33 : decode m_C_web.2.1 33 = .ok (.aload_n 0, 1) := by decide +kernel
theorem d_C_web_34 : decode m_C_web.2.1 34 = .ok (.aload_n 0, 1) := by decide +kernel
theorem d_C_web_35 : decode m_C_web.2.1 35 = .ok (.getfield 28, 3) := by decide +kernel
theorem d_C_web_38 : decode m_C_web.2.1 38 = .ok (.iconst 0, 1) := by decide +kernel
theorem d_C_web_39 : decode m_C_web.2.1 39 = .ok (.aaload, 1) := by decide +kernel
theorem d_C_web_40 : decode m_C_web.2.1 40 = .ok (.aload_n 0, 1) := by decide +kernel
theorem d_C_web_41 : decode m_C_web.2.1 41 = .ok (.getfield 19, 3) := by decide +kernel
theorem d_C_web_44 : decode m_C_web.2.1 44 = .ok (.iload_n 1, 1) := by decide +kernel
theorem d_C_web_45 : decode m_C_web.2.1 45 = .ok (.iload_n 2, 1) := by decide +kernel
theorem d_C_web_46 : decode m_C_web.2.1 46 = .ok (.aload_n 0, 1) := by decide +kernel
theorem d_C_web_47 : decode m_C_web.2.1 47 = .ok (.getfield 49, 3) := by decide +kernel
theorem d_C_web_50 : decode m_C_web.2.1 50 = .ok (.invokevirtual 126, 3) := by decide +kernel
theorem d_C_web_53 : decode m_C_web.2.1 53 = .ok (.astore 4, 2) := by decide +kernel
theorem d_C_web_55 : decode m_C_web.2.1 55 = .ok (.iload_n 3, 1) := by decide +kernel
theorem d_C_web_56 : decode m_C_web.2.1 56 = .ok (.aload 4, 2) := by decide +kernel
theorem d_C_web_58 : decode m_C_web.2.1 58 = .ok (.getfield 130, 3) := by decide +kernel
theorem d_C_web_61 : decode m_C_web.2.1 61 = .ok (.if_icmp .ge 13, 3) := by decide +kernel
theorem d_C_web_64 : decode m_C_web.2.1 64 = .ok (.aload 4, 2) := by decide +kernel
theorem d_C_web_66 : decode m_C_web.2.1 66 = .ok (.getfield 131, 3) := by decide +kernel
theorem d_C_web_69 : decode m_C_web.2.1 69 = .ok (.iload_n 3, 1) := by decide +kernel
theorem d_C_web_70 : decode m_C_web.2.1 70 = .ok (.iaload, 1) := by decide +kernel
theorem d_C_web_71 : decode m_C_web.2.1 71 = .ok (.goto 4, 3) := by decide +kernel
theorem d_C_web_74 : decode m_C_web.2.1 74 = .ok (.iconst (-1), 1) := by decide +kernel
theorem d_C_web_75 : decode m_C_web.2.1 75 = .ok (.ireturn, 1) := by decide +kernel
set_option maxHeartbeats 4000000 in
set_option maxRecDepth 20000 in
theorem c_C_web (G : Gt) (x1 : Int32) (x2 : Int32) (x3 : Int32) (h : Hp) : Cn G m_C_web [.ref (ad G 0), .int x1, .int x2, .int x3] h κi (f_C_web x1 x2 x3 h) := by
  refine entryV (by decide) (Nat.le_of_ble_eq_true rfl) rfl ?_
  show V G m_C_web 0 [(0, .ref (ad G 0)), (1, .int x1), (2, .int x2), (3, .int x3)] [] h κi _
  unfold f_C_web
  refine v_aload_n 0 d_C_web_0 rfl rfl ?_
  refine v_iload_n 1 d_C_web_1 rfl rfl ?_
  refine v_iload_n 2 d_C_web_2 rfl rfl ?_
  refine v_callVi (As := [.int x1, .int x2]) (rest := []) (c_C_canBeTold G x1 x2 h) co_C_122 io_C_canBeTold o_0 ⟨by decide, by decide⟩ rfl rfl (Nat.le_of_ble_eq_true rfl) d_C_web_3 (fun r1 h1 _ => ?_)
  refine v_if_eq 19 d_C_web_6 (by decide) (fun c2 => ?_) (fun c2 => ?_)
  · refine v_bipush (-2) d_C_web_19 rfl ?_
    exact v_iret rfl d_C_web_21
  · refine v_iload_n 3 d_C_web_9 rfl rfl ?_
    refine v_if_lt 19 d_C_web_10 (by decide) (fun c3 => ?_) (fun c3 => ?_)
    · refine v_bipush (-2) d_C_web_19 rfl ?_
      exact v_iret rfl d_C_web_21
    · refine v_iload_n 3 d_C_web_13 rfl rfl ?_
      refine v_bipush 10 d_C_web_14 rfl ?_
      refine v_icmp_lt 22 d_C_web_16 (by decide) (fun c4 => ?_) (fun c4 => ?_)
      · refine v_aload_n 0 d_C_web_22 rfl rfl ?_
        refine v_iload_n 1 d_C_web_23 rfl rfl ?_
        refine v_callVi (As := [.int x1]) (rest := []) (c_C_isHidden G x1 h1) co_C_91 io_C_isHidden o_0 ⟨by decide, by decide⟩ rfl rfl (Nat.le_of_ble_eq_true rfl) d_C_web_24 (fun r5 h5 _ => ?_)
        refine v_if_eq 33 d_C_web_27 (by decide) (fun c6 => ?_) (fun c6 => ?_)
        · refine v_aload_n 0 d_C_web_33 rfl rfl ?_
          refine v_aload_n 0 d_C_web_34 rfl rfl ?_
          refine v_getr 9 fl_C_28 o_0 rfl rfl d_C_web_35 ?_
          refine v_iconst 0 d_C_web_38 rfl ?_
          refine v_aald2 15 rfl ar_9 d_C_web_39 (fun b7 => ?_)
          refine v_aload_n 0 d_C_web_40 rfl rfl ?_
          refine v_getr 3 fl_C_19 o_0 rfl rfl d_C_web_41 ?_
          refine v_iload_n 1 d_C_web_44 rfl rfl ?_
          refine v_iload_n 2 d_C_web_45 rfl rfl ?_
          refine v_aload_n 0 d_C_web_46 rfl rfl ?_
          refine v_geti fl_C_49 o_0 rfl d_C_web_47 ?_
          refine v_callVr (As := [.ref (ad G 15), .ref (ad G 3), .int x1, .int x2, .int (h5 0 7)]) (rest := []) (c_C_lay G 15 3 x1 x2 (h5 0 7) o_15 o_3 h5) co_C_126 io_C_lay o_0 ⟨by decide, by decide⟩ rfl rfl (Nat.le_of_ble_eq_true rfl) d_C_web_50 (fun r8 h8 z8 => ?_)
          have e8 := lay_isO o_15 z8
          refine v_astore [(4, .ref (ad G r8)), (0, .ref (ad G 0)), (1, .int x1), (2, .int x2), (3, .int x3)] d_C_web_53 (by decide) rfl ?_
          refine v_iload_n 4 d_C_web_55 rfl rfl ?_
          refine v_aload 0 d_C_web_56 rfl ?_
          refine v_geti fl_C_130 e8 rfl d_C_web_58 ?_
          refine v_icmp_ge 74 d_C_web_61 (by decide) (fun c9 => ?_) (fun c9 => ?_)
          · refine v_iconst (-1) d_C_web_74 rfl ?_
            exact v_iret rfl d_C_web_75
          · refine v_aload 0 d_C_web_64 rfl ?_
            refine v_getr (r8 + 1) fl_C_131 e8 rfl rfl d_C_web_66 ?_
            refine v_iload_n 4 d_C_web_69 rfl rfl ?_
            refine v_iald (spA e8) d_C_web_70 ?_
            refine v_goto 75 d_C_web_71 (by decide) ?_
            exact v_iret rfl d_C_web_75
        · refine v_bipush (-3) d_C_web_30 rfl ?_
          exact v_iret rfl d_C_web_32
      · refine v_bipush (-2) d_C_web_19 rfl ?_
        exact v_iret rfl d_C_web_21
theorem d_C_length_0 : decode m_C_length.2.1 0 = .ok (.aload_n 0, 1) := by decide +kernel
theorem d_C_length_1 : decode m_C_length.2.1 1 = .ok (.iload_n 1, 1) := by decide +kernel
theorem d_C_length_2 : decode m_C_length.2.1 2 = .ok (.iload_n 2, 1) := by decide +kernel
theorem d_C_length_3 : decode m_C_length.2.1 3 = .ok (.invokevirtual 122, 3) := by decide +kernel
theorem d_C_length_6 : decode m_C_length.2.1 6 = .ok (.ifCond .eq 12, 3) := by decide +kernel
theorem d_C_length_9 : decode m_C_length.2.1 9 = .ok (.iload_n 3, 1) := by decide +kernel
theorem d_C_length_10 : decode m_C_length.2.1 10 = .ok (.ifCond .lt 8, 3) := by decide +kernel
theorem d_C_length_13 : decode m_C_length.2.1 13 = .ok (.iload_n 3, 1) := by decide +kernel
theorem d_C_length_14 : decode m_C_length.2.1 14 = .ok (.iconst 2, 1) := by decide +kernel
theorem d_C_length_15 : decode m_C_length.2.1 15 = .ok (.if_icmp .le 6, 3) := by decide +kernel
theorem d_C_length_18 : decode m_C_length.2.1 18 = .ok (.bipush (-2), 2) := by decide +kernel
theorem d_C_length_20 : decode m_C_length.2.1 20 = .ok (.ireturn, 1) := by decide +kernel
theorem d_C_length_21 : decode m_C_length.2.1 21 = .ok (.aload_n 0, 1) := by decide +kernel
theorem d_C_length_22 : decode m_C_length.2.1 22 = .ok (.iload_n 1, 1) := by decide +kernel
theorem d_C_length_23 : decode m_C_length.2.1 23 = .ok (.invokevirtual 91, 3) := by decide +kernel
theorem d_C_length_26 : decode m_C_length.2.1 26 = .ok (.ifCond .eq 6, 3) := by decide +kernel
theorem d_C_length_29 : decode m_C_length.2.1 29 = .ok (.bipush (-3), 2) := by decide +kernel
theorem d_C_length_31 : decode m_C_length.2.1 31 = .ok (.ireturn, 1) := by decide +kernel
theorem d_C_length_32 : decode m_C_length.2.1 32 = .ok (.aload_n 0, 1) := by decide +kernel
theorem d_C_length_33 : decode m_C_length.2.1 33 = .ok (.aload_n 0, 1) := by decide +kernel
theorem d_C_length_34 : decode m_C_length.2.1 34 = .ok (.getfield 28, 3) := by decide +kernel
theorem d_C_length_37 : decode m_C_length.2.1 37 = .ok (.iconst 0, 1) := by decide +kernel
theorem d_C_length_38 : decode m_C_length.2.1 38 = .ok (.aaload, 1) := by decide +kernel
theorem d_C_length_39 : decode m_C_length.2.1 39 = .ok (.aload_n 0, 1) := by decide +kernel
theorem d_C_length_40 : decode m_C_length.2.1 40 = .ok (.getfield 19, 3) := by decide +kernel
theorem d_C_length_43 : decode m_C_length.2.1 43 = .ok (.iload_n 1, 1) := by decide +kernel
theorem d_C_length_44 : decode m_C_length.2.1 44 = .ok (.iload_n 2, 1) := by decide +kernel
theorem d_C_length_45 : decode m_C_length.2.1 45 = .ok (.aload_n 0, 1) := by decide +kernel
theorem d_C_length_46 : decode m_C_length.2.1 46 = .ok (.getfield 49, 3) := by decide +kernel
theorem d_C_length_49 : decode m_C_length.2.1 49 = .ok (.invokevirtual 126, 3) := by decide +kernel
theorem d_C_length_52 : decode m_C_length.2.1 52 = .ok (.astore 4, 2) := by decide +kernel
theorem d_C_length_54 : decode m_C_length.2.1 54 = .ok (.iload_n 3, 1) := by decide +kernel
theorem d_C_length_55 : decode m_C_length.2.1 55 = .ok (.lookupswitch 37 #[(0, 25), (1, 31)], 25) := by decide +kernel
theorem d_C_length_80 : decode m_C_length.2.1 80 = .ok (.aload 4, 2) := by decide +kernel
theorem d_C_length_82 : decode m_C_length.2.1 82 = .ok (.getfield 134, 3) := by decide +kernel
theorem d_C_length_85 : decode m_C_length.2.1 85 = .ok (.ireturn, 1) := by decide +kernel
theorem d_C_length_86 : decode m_C_length.2.1 86 = .ok (.aload 4, 2) := by decide +kernel
theorem d_C_length_88 : decode m_C_length.2.1 88 = .ok (.getfield 130, 3) := by decide +kernel
theorem d_C_length_91 : decode m_C_length.2.1 91 = .ok (.ireturn, 1) := by decide +kernel
theorem d_C_length_92 : decode m_C_length.2.1 92 = .ok (.aload 4, 2) := by decide +kernel
theorem d_C_length_94 : decode m_C_length.2.1 94 = .ok (.getfield 137, 3) := by decide +kernel
theorem d_C_length_97 : decode m_C_length.2.1 97 = .ok (.ireturn, 1) := by decide +kernel
set_option maxHeartbeats 4000000 in
set_option maxRecDepth 20000 in
theorem c_C_length (G : Gt) (x1 : Int32) (x2 : Int32) (x3 : Int32) (h : Hp) : Cn G m_C_length [.ref (ad G 0), .int x1, .int x2, .int x3] h κi (f_C_length x1 x2 x3 h) := by
  refine entryV (by decide) (Nat.le_of_ble_eq_true rfl) rfl ?_
  show V G m_C_length 0 [(0, .ref (ad G 0)), (1, .int x1), (2, .int x2), (3, .int x3)] [] h κi _
  unfold f_C_length
  refine v_aload_n 0 d_C_length_0 rfl rfl ?_
  refine v_iload_n 1 d_C_length_1 rfl rfl ?_
  refine v_iload_n 2 d_C_length_2 rfl rfl ?_
  refine v_callVi (As := [.int x1, .int x2]) (rest := []) (c_C_canBeTold G x1 x2 h) co_C_122 io_C_canBeTold o_0 ⟨by decide, by decide⟩ rfl rfl (Nat.le_of_ble_eq_true rfl) d_C_length_3 (fun r1 h1 _ => ?_)
  refine v_if_eq 18 d_C_length_6 (by decide) (fun c2 => ?_) (fun c2 => ?_)
  · refine v_bipush (-2) d_C_length_18 rfl ?_
    exact v_iret rfl d_C_length_20
  · refine v_iload_n 3 d_C_length_9 rfl rfl ?_
    refine v_if_lt 18 d_C_length_10 (by decide) (fun c3 => ?_) (fun c3 => ?_)
    · refine v_bipush (-2) d_C_length_18 rfl ?_
      exact v_iret rfl d_C_length_20
    · refine v_iload_n 3 d_C_length_13 rfl rfl ?_
      refine v_iconst 2 d_C_length_14 rfl ?_
      refine v_icmp_le 21 d_C_length_15 (by decide) (fun c4 => ?_) (fun c4 => ?_)
      · refine v_aload_n 0 d_C_length_21 rfl rfl ?_
        refine v_iload_n 1 d_C_length_22 rfl rfl ?_
        refine v_callVi (As := [.int x1]) (rest := []) (c_C_isHidden G x1 h1) co_C_91 io_C_isHidden o_0 ⟨by decide, by decide⟩ rfl rfl (Nat.le_of_ble_eq_true rfl) d_C_length_23 (fun r5 h5 _ => ?_)
        refine v_if_eq 32 d_C_length_26 (by decide) (fun c6 => ?_) (fun c6 => ?_)
        · refine v_aload_n 0 d_C_length_32 rfl rfl ?_
          refine v_aload_n 0 d_C_length_33 rfl rfl ?_
          refine v_getr 9 fl_C_28 o_0 rfl rfl d_C_length_34 ?_
          refine v_iconst 0 d_C_length_37 rfl ?_
          refine v_aald2 15 rfl ar_9 d_C_length_38 (fun b7 => ?_)
          refine v_aload_n 0 d_C_length_39 rfl rfl ?_
          refine v_getr 3 fl_C_19 o_0 rfl rfl d_C_length_40 ?_
          refine v_iload_n 1 d_C_length_43 rfl rfl ?_
          refine v_iload_n 2 d_C_length_44 rfl rfl ?_
          refine v_aload_n 0 d_C_length_45 rfl rfl ?_
          refine v_geti fl_C_49 o_0 rfl d_C_length_46 ?_
          refine v_callVr (As := [.ref (ad G 15), .ref (ad G 3), .int x1, .int x2, .int (h5 0 7)]) (rest := []) (c_C_lay G 15 3 x1 x2 (h5 0 7) o_15 o_3 h5) co_C_126 io_C_lay o_0 ⟨by decide, by decide⟩ rfl rfl (Nat.le_of_ble_eq_true rfl) d_C_length_49 (fun r8 h8 z8 => ?_)
          have e8 := lay_isO o_15 z8
          refine v_astore [(4, .ref (ad G r8)), (0, .ref (ad G 0)), (1, .int x1), (2, .int x2), (3, .int x3)] d_C_length_52 (by decide) rfl ?_
          refine v_iload_n 4 d_C_length_54 rfl rfl ?_
          refine v_ite (fun c9 => ?_) (fun c9 => ?_)
          · refine v_lookup (off := 25) 80 d_C_length_55 rfl (by rw [c9]; rfl) (by decide) ?_
            refine v_aload 0 d_C_length_80 rfl ?_
            refine v_geti fl_C_134 e8 rfl d_C_length_82 ?_
            exact v_iret rfl d_C_length_85
          · refine v_ite (fun c10 => ?_) (fun c10 => ?_)
            · refine v_lookup (off := 31) 86 d_C_length_55 rfl (by rw [c10]; rfl) (by decide) ?_
              refine v_aload 0 d_C_length_86 rfl ?_
              refine v_geti fl_C_130 e8 rfl d_C_length_88 ?_
              exact v_iret rfl d_C_length_91
            · refine v_lookup (off := 37) 92 d_C_length_55 rfl (by rw [lv_osw c9 rfl, lv_osw c10 rfl]; rfl) (by decide) ?_
              refine v_aload 0 d_C_length_92 rfl ?_
              refine v_geti fl_C_137 e8 rfl d_C_length_94 ?_
              exact v_iret rfl d_C_length_97
        · refine v_bipush (-3) d_C_length_29 rfl ?_
          exact v_iret rfl d_C_length_31
      · refine v_bipush (-2) d_C_length_18 rfl ?_
        exact v_iret rfl d_C_length_20
theorem d_Ma_max_0 : decode m_Ma_max.2.1 0 = .ok (.iload_n 0, 1) := by decide +kernel
theorem d_Ma_max_1 : decode m_Ma_max.2.1 1 = .ok (.iload_n 1, 1) := by decide +kernel
theorem d_Ma_max_2 : decode m_Ma_max.2.1 2 = .ok (.if_icmp .lt 7, 3) := by decide +kernel
theorem d_Ma_max_5 : decode m_Ma_max.2.1 5 = .ok (.iload_n 0, 1) := by decide +kernel
theorem d_Ma_max_6 : decode m_Ma_max.2.1 6 = .ok (.goto 4, 3) := by decide +kernel
theorem d_Ma_max_9 : decode m_Ma_max.2.1 9 = .ok (.iload_n 1, 1) := by decide +kernel
theorem d_Ma_max_10 : decode m_Ma_max.2.1 10 = .ok (.ireturn, 1) := by decide +kernel
set_option maxHeartbeats 4000000 in
set_option maxRecDepth 20000 in
theorem c_Ma_max (G : Gt) (x0 : Int32) (x1 : Int32) (h : Hp) : Cn G m_Ma_max [.int x0, .int x1] h κi (f_Ma_max x0 x1 h) := by
  refine entryV (by decide) (Nat.le_of_ble_eq_true rfl) rfl ?_
  show V G m_Ma_max 0 [(0, .int x0), (1, .int x1)] [] h κi _
  unfold f_Ma_max
  refine v_iload_n 0 d_Ma_max_0 rfl rfl ?_
  refine v_iload_n 1 d_Ma_max_1 rfl rfl ?_
  refine v_icmp_lt 9 d_Ma_max_2 (by decide) (fun c1 => ?_) (fun c1 => ?_)
  · refine v_iload_n 1 d_Ma_max_9 rfl rfl ?_
    exact v_iret rfl d_Ma_max_10
  · refine v_iload_n 0 d_Ma_max_5 rfl rfl ?_
    refine v_goto 10 d_Ma_max_6 (by decide) ?_
    exact v_iret rfl d_Ma_max_10
theorem d_Fr_overlap_0 : decode m_Fr_overlap.2.1 0 = .ok (.iload_n 0, 1) := by decide +kernel
theorem d_Fr_overlap_1 : decode m_Fr_overlap.2.1 1 = .ok (.iload_n 1, 1) := by decide +kernel
theorem d_Fr_overlap_2 : decode m_Fr_overlap.2.1 2 = .ok (.invokestatic 50, 3) := by decide +kernel
theorem d_Fr_overlap_5 : decode m_Fr_overlap.2.1 5 = .ok (.iload_n 2, 1) := by decide +kernel
theorem d_Fr_overlap_6 : decode m_Fr_overlap.2.1 6 = .ok (.iload_n 3, 1) := by decide +kernel
theorem d_Fr_overlap_7 : decode m_Fr_overlap.2.1 7 = .ok (.invokestatic 53, 3) := by decide +kernel
theorem d_Fr_overlap_10 : decode m_Fr_overlap.2.1 10 = .ok (.if_icmp .lt 20, 3) := by decide +kernel
theorem d_Fr_overlap_13 : decode m_Fr_overlap.2.1 13 = .ok (.iload_n 2, 1) := by decide +kernel
theorem d_Fr_overlap_14 : decode m_Fr_overlap.2.1 14 = .ok (.iload_n 3, 1) := by decide +kernel
theorem d_Fr_overlap_15 : decode m_Fr_overlap.2.1 15 = .ok (.invokestatic 50, 3) := by decide +kernel
theorem d_Fr_overlap_18 : decode m_Fr_overlap.2.1 18 = .ok (.iload_n 0, 1) := by decide +kernel
theorem d_Fr_overlap_19 : decode m_Fr_overlap.2.1 19 = .ok (.iload_n 1, 1) := by decide +kernel
theorem d_Fr_overlap_20 : decode m_Fr_overlap.2.1 20 = .ok (.invokestatic 53, 3) := by decide +kernel
theorem d_Fr_overlap_23 : decode m_Fr_overlap.2.1 23 = .ok (.if_icmp .lt 7, 3) := by decide +kernel
theorem d_Fr_overlap_26 : decode m_Fr_overlap.2.1 26 = .ok (.iconst 1, 1) := by decide +kernel
theorem d_Fr_overlap_27 : decode m_Fr_overlap.2.1 27 = .ok (.goto 4, 3) := by decide +kernel
theorem d_Fr_overlap_30 : decode m_Fr_overlap.2.1 30 = .ok (.iconst 0, 1) := by decide +kernel
theorem d_Fr_overlap_31 : decode m_Fr_overlap.2.1 31 = .ok (.ireturn, 1) := by decide +kernel
set_option maxHeartbeats 4000000 in
set_option maxRecDepth 20000 in
theorem c_Fr_overlap (G : Gt) (x0 : Int32) (x1 : Int32) (x2 : Int32) (x3 : Int32) (h : Hp) : Cn G m_Fr_overlap [.int x0, .int x1, .int x2, .int x3] h κi (f_Fr_overlap x0 x1 x2 x3 h) := by
  refine entryV (by decide) (Nat.le_of_ble_eq_true rfl) rfl ?_
  show V G m_Fr_overlap 0 [(0, .int x0), (1, .int x1), (2, .int x2), (3, .int x3)] [] h κi _
  unfold f_Fr_overlap
  refine v_iload_n 0 d_Fr_overlap_0 rfl rfl ?_
  refine v_iload_n 1 d_Fr_overlap_1 rfl rfl ?_
  refine v_callSi (As := [.int x0, .int x1]) (rest := []) (c_Ma_max G x0 x1 h) co_Fr_50 so_Ma_max ⟨by decide, by decide⟩ rfl rfl (Nat.le_of_ble_eq_true rfl) d_Fr_overlap_2 (fun r1 h1 _ => ?_)
  refine v_iload_n 2 d_Fr_overlap_5 rfl rfl ?_
  refine v_iload_n 3 d_Fr_overlap_6 rfl rfl ?_
  refine v_callSi (As := [.int x2, .int x3]) (rest := [.int r1]) (c_Ma_min G x2 x3 h1) co_Fr_53 so_Ma_min ⟨by decide, by decide⟩ rfl rfl (Nat.le_of_ble_eq_true rfl) d_Fr_overlap_7 (fun r2 h2 _ => ?_)
  refine v_icmp_lt 30 d_Fr_overlap_10 (by decide) (fun c3 => ?_) (fun c3 => ?_)
  · refine v_iconst 0 d_Fr_overlap_30 rfl ?_
    exact v_zretL rfl rfl d_Fr_overlap_31
  · refine v_iload_n 2 d_Fr_overlap_13 rfl rfl ?_
    refine v_iload_n 3 d_Fr_overlap_14 rfl rfl ?_
    refine v_callSi (As := [.int x2, .int x3]) (rest := []) (c_Ma_max G x2 x3 h2) co_Fr_50 so_Ma_max ⟨by decide, by decide⟩ rfl rfl (Nat.le_of_ble_eq_true rfl) d_Fr_overlap_15 (fun r4 h4 _ => ?_)
    refine v_iload_n 0 d_Fr_overlap_18 rfl rfl ?_
    refine v_iload_n 1 d_Fr_overlap_19 rfl rfl ?_
    refine v_callSi (As := [.int x0, .int x1]) (rest := [.int r4]) (c_Ma_min G x0 x1 h4) co_Fr_53 so_Ma_min ⟨by decide, by decide⟩ rfl rfl (Nat.le_of_ble_eq_true rfl) d_Fr_overlap_20 (fun r5 h5 _ => ?_)
    refine v_icmp_lt 30 d_Fr_overlap_23 (by decide) (fun c6 => ?_) (fun c6 => ?_)
    · refine v_iconst 0 d_Fr_overlap_30 rfl ?_
      exact v_zretL rfl rfl d_Fr_overlap_31
    · refine v_iconst 1 d_Fr_overlap_26 rfl ?_
      refine v_goto 31 d_Fr_overlap_27 (by decide) ?_
      exact v_zretL rfl rfl d_Fr_overlap_31
theorem d_Fr_side_0 : decode m_Fr_side.2.1 0 = .ok (.aload_n 0, 1) := by decide +kernel
theorem d_Fr_side_1 : decode m_Fr_side.2.1 1 = .ok (.getfield 9, 3) := by decide +kernel
theorem d_Fr_side_4 : decode m_Fr_side.2.1 4 = .ok (.iload_n 2, 1) := by decide +kernel
theorem d_Fr_side_5 : decode m_Fr_side.2.1 5 = .ok (.iaload, 1) := by decide +kernel
theorem d_Fr_side_6 : decode m_Fr_side.2.1 6 = .ok (.aload_n 0, 1) := by decide +kernel
theorem d_Fr_side_7 : decode m_Fr_side.2.1 7 = .ok (.getfield 9, 3) := by decide +kernel
theorem d_Fr_side_10 : decode m_Fr_side.2.1 10 = .ok (.iload_n 1, 1) := by decide +kernel
theorem d_Fr_side_11 : decode m_Fr_side.2.1 11 = .ok (.iaload, 1) := by decide +kernel
theorem d_Fr_side_12 : decode m_Fr_side.2.1 12 = .ok (.isub, 1) := by decide +kernel
theorem d_Fr_side_13 : decode m_Fr_side.2.1 13 = .ok (.aload_n 0, 1) := by decide +kernel
theorem d_Fr_side_14 : decode m_Fr_side.2.1 14 = .ok (.getfield 15, 3) := by decide +kernel
theorem d_Fr_side_17 : decode m_Fr_side.2.1 17 = .ok (.iload_n 3, 1) := by decide +kernel
theorem d_Fr_side_18 : decode m_Fr_side.2.1 18 = .ok (.iaload, 1) := by decide +kernel
theorem d_Fr_side_19 : decode m_Fr_side.2.1 19 = .ok (.aload_n 0, 1) := by decide +kernel
theorem d_Fr_side_20 : decode m_Fr_side.2.1 20 = .ok (.getfield 15, 3) := by decide +kernel
theorem d_Fr_side_23 : decode m_Fr_side.2.1 23 = .ok (.iload_n 1, 1) := by decide +kernel
theorem d_Fr_side_24 : decode m_Fr_side.2.1 24 = .ok (.iaload, 1) := by decide +kernel
theorem d_Fr_side_25 : decode m_Fr_side.2.1 25 = .ok (.isub, 1) := by decide +kernel
theorem d_Fr_side_26 : decode m_Fr_side.2.1 26 = .ok (.imul, 1) := by decide +kernel
theorem d_Fr_side_27 : decode m_Fr_side.2.1 27 = .ok (.aload_n 0, 1) := by decide +kernel
theorem d_Fr_side_28 : decode m_Fr_side.2.1 28 = .ok (.getfield 15, 3) := by decide +kernel
theorem d_Fr_side_31 : decode m_Fr_side.2.1 31 = .ok (.iload_n 2, 1) := by decide +kernel
theorem d_Fr_side_32 : decode m_Fr_side.2.1 32 = .ok (.iaload, 1) := by decide +kernel
theorem d_Fr_side_33 : decode m_Fr_side.2.1 33 = .ok (.aload_n 0, 1) := by decide +kernel
theorem d_Fr_side_34 : decode m_Fr_side.2.1 34 = .ok (.getfield 15, 3) := by decide +kernel
theorem d_Fr_side_37 : decode m_Fr_side.2.1 37 = .ok (.iload_n 1, 1) := by decide +kernel
theorem d_Fr_side_38 : decode m_Fr_side.2.1 38 = .ok (.iaload, 1) := by decide +kernel
theorem d_Fr_side_39 : decode m_Fr_side.2.1 39 = .ok (.isub, 1) := by decide +kernel
theorem d_Fr_side_40 : decode m_Fr_side.2.1 40 = .ok (.aload_n 0, 1) := by decide +kernel
theorem d_Fr_side_41 : decode m_Fr_side.2.1 41 = .ok (.getfield 9, 3) := by decide +kernel
theorem d_Fr_side_44 : decode m_Fr_side.2.1 44 = .ok (.iload_n 3, 1) := by decide +kernel
theorem d_Fr_side_45 : decode m_Fr_side.2.1 45 = .ok (.iaload, 1) := by decide +kernel
theorem d_Fr_side_46 : decode m_Fr_side.2.1 46 = .ok (.aload_n 0, 1) := by decide +kernel
theorem d_Fr_side_47 : decode m_Fr_side.2.1 47 = .ok (.getfield 9, 3) := by decide +kernel
theorem d_Fr_side_50 : decode m_Fr_side.2.1 50 = .ok (.iload_n 1, 1) := by decide +kernel
theorem d_Fr_side_51 : decode m_Fr_side.2.1 51 = .ok (.iaload, 1) := by decide +kernel
theorem d_Fr_side_52 : decode m_Fr_side.2.1 52 = .ok (.isub, 1) := by decide +kernel
theorem d_Fr_side_53 : decode m_Fr_side.2.1 53 = .ok (.imul, 1) := by decide +kernel
theorem d_Fr_side_54 : decode m_Fr_side.2.1 54 = .ok (.isub, 1) := by decide +kernel
theorem d_Fr_side_55 : decode m_Fr_side.2.1 55 = .ok (.ireturn, 1) := by decide +kernel
set_option maxHeartbeats 4000000 in
set_option maxRecDepth 20000 in
theorem c_Fr_side (G : Gt) (a0 : Nat) (x1 : Int32) (x2 : Int32) (x3 : Int32) (ha0 : isO 0 a0) (h : Hp) : Cn G m_Fr_side [.ref (ad G a0), .int x1, .int x2, .int x3] h κi (f_Fr_side a0 x1 x2 x3 h) := by
  refine entryV (by decide) (Nat.le_of_ble_eq_true rfl) rfl ?_
  show V G m_Fr_side 0 [(0, .ref (ad G a0)), (1, .int x1), (2, .int x2), (3, .int x3)] [] h κi _
  unfold f_Fr_side
  refine v_aload_n 0 d_Fr_side_0 rfl rfl ?_
  refine v_getr (a0 + 1) fl_Fr_9 ha0 rfl rfl d_Fr_side_1 ?_
  refine v_iload_n 2 d_Fr_side_4 rfl rfl ?_
  refine v_iald ((frA ha0).1) d_Fr_side_5 ?_
  refine v_aload_n 0 d_Fr_side_6 rfl rfl ?_
  refine v_getr (a0 + 1) fl_Fr_9 ha0 rfl rfl d_Fr_side_7 ?_
  refine v_iload_n 1 d_Fr_side_10 rfl rfl ?_
  refine v_iald ((frA ha0).1) d_Fr_side_11 ?_
  refine v_isub d_Fr_side_12 ?_
  refine v_aload_n 0 d_Fr_side_13 rfl rfl ?_
  refine v_getr (a0 + 2) fl_Fr_15 ha0 rfl rfl d_Fr_side_14 ?_
  refine v_iload_n 3 d_Fr_side_17 rfl rfl ?_
  refine v_iald ((frA ha0).2) d_Fr_side_18 ?_
  refine v_aload_n 0 d_Fr_side_19 rfl rfl ?_
  refine v_getr (a0 + 2) fl_Fr_15 ha0 rfl rfl d_Fr_side_20 ?_
  refine v_iload_n 1 d_Fr_side_23 rfl rfl ?_
  refine v_iald ((frA ha0).2) d_Fr_side_24 ?_
  refine v_isub d_Fr_side_25 ?_
  refine v_imul d_Fr_side_26 ?_
  refine v_aload_n 0 d_Fr_side_27 rfl rfl ?_
  refine v_getr (a0 + 2) fl_Fr_15 ha0 rfl rfl d_Fr_side_28 ?_
  refine v_iload_n 2 d_Fr_side_31 rfl rfl ?_
  refine v_iald ((frA ha0).2) d_Fr_side_32 ?_
  refine v_aload_n 0 d_Fr_side_33 rfl rfl ?_
  refine v_getr (a0 + 2) fl_Fr_15 ha0 rfl rfl d_Fr_side_34 ?_
  refine v_iload_n 1 d_Fr_side_37 rfl rfl ?_
  refine v_iald ((frA ha0).2) d_Fr_side_38 ?_
  refine v_isub d_Fr_side_39 ?_
  refine v_aload_n 0 d_Fr_side_40 rfl rfl ?_
  refine v_getr (a0 + 1) fl_Fr_9 ha0 rfl rfl d_Fr_side_41 ?_
  refine v_iload_n 3 d_Fr_side_44 rfl rfl ?_
  refine v_iald ((frA ha0).1) d_Fr_side_45 ?_
  refine v_aload_n 0 d_Fr_side_46 rfl rfl ?_
  refine v_getr (a0 + 1) fl_Fr_9 ha0 rfl rfl d_Fr_side_47 ?_
  refine v_iload_n 1 d_Fr_side_50 rfl rfl ?_
  refine v_iald ((frA ha0).1) d_Fr_side_51 ?_
  refine v_isub d_Fr_side_52 ?_
  refine v_imul d_Fr_side_53 ?_
  refine v_isub d_Fr_side_54 ?_
  exact v_iret rfl d_Fr_side_55
theorem d_Fr_meet_0 : decode m_Fr_meet.2.1 0 = .ok (.aload_n 0, 1) := by decide +kernel
theorem d_Fr_meet_1 : decode m_Fr_meet.2.1 1 = .ok (.getfield 9, 3) := by decide +kernel
theorem d_Fr_meet_4 : decode m_Fr_meet.2.1 4 = .ok (.iload_n 1, 1) := by decide +kernel
theorem d_Fr_meet_5 : decode m_Fr_meet.2.1 5 = .ok (.iaload, 1) := by decide +kernel
theorem d_Fr_meet_6 : decode m_Fr_meet.2.1 6 = .ok (.aload_n 0, 1) := by decide +kernel
theorem d_Fr_meet_7 : decode m_Fr_meet.2.1 7 = .ok (.getfield 9, 3) := by decide +kernel
theorem d_Fr_meet_10 : decode m_Fr_meet.2.1 10 = .ok (.iload_n 2, 1) := by decide +kernel
theorem d_Fr_meet_11 : decode m_Fr_meet.2.1 11 = .ok (.iaload, 1) := by decide +kernel
theorem d_Fr_meet_12 : decode m_Fr_meet.2.1 12 = .ok (.aload_n 0, 1) := by decide +kernel
theorem d_Fr_meet_13 : decode m_Fr_meet.2.1 13 = .ok (.getfield 9, 3) := by decide +kernel
theorem d_Fr_meet_16 : decode m_Fr_meet.2.1 16 = .ok (.iload_n 3, 1) := by decide +kernel
theorem d_Fr_meet_17 : decode m_Fr_meet.2.1 17 = .ok (.iaload, 1) := by decide +kernel
theorem d_Fr_meet_18 : decode m_Fr_meet.2.1 18 = .ok (.aload_n 0, 1) := by decide +kernel
theorem d_Fr_meet_19 : decode m_Fr_meet.2.1 19 = .ok (.getfield 9, 3) := by decide +kernel
theorem d_Fr_meet_22 : decode m_Fr_meet.2.1 22 = .ok (.iload 4, 2) := by decide +kernel
theorem d_Fr_meet_24 : decode m_Fr_meet.2.1 24 = .ok (.iaload, 1) := by decide +kernel
theorem d_Fr_meet_25 : decode m_Fr_meet.2.1 25 = .ok (.invokestatic 42, 3) := by decide +kernel
theorem d_Fr_meet_28 : decode m_Fr_meet.2.1 28 = .ok (.ifCond .eq 77, 3) := by decide +kernel
theorem d_Fr_meet_31 : decode m_Fr_meet.2.1 31 = .ok (.aload_n 0, 1) := by decide +kernel
theorem d_Fr_meet_32 : decode m_Fr_meet.2.1 32 = .ok (.getfield 15, 3) := by decide +kernel
theorem d_Fr_meet_35 : decode m_Fr_meet.2.1 35 = .ok (.iload_n 1, 1) := by decide +kernel
theorem d_Fr_meet_36 : decode m_Fr_meet.2.1 36 = .ok (.iaload, 1) := by decide +kernel
theorem d_Fr_meet_37 : decode m_Fr_meet.2.1 37 = .ok (.aload_n 0, 1) := by decide +kernel
theorem d_Fr_meet_38 : decode m_Fr_meet.2.1 38 = .ok (.getfield 15, 3) := by decide +kernel
theorem d_Fr_meet_41 : decode m_Fr_meet.2.1 41 = .ok (.iload_n 2, 1) := by decide +kernel
theorem d_Fr_meet_42 : decode m_Fr_meet.2.1 42 = .ok (.iaload, 1) := by decide +kernel
theorem d_Fr_meet_43 : decode m_Fr_meet.2.1 43 = .ok (.aload_n 0, 1) := by decide +kernel
theorem d_Fr_meet_44 : decode m_Fr_meet.2.1 44 = .ok (.getfield 15, 3) := by decide +kernel
theorem d_Fr_meet_47 : decode m_Fr_meet.2.1 47 = .ok (.iload_n 3, 1) := by decide +kernel
theorem d_Fr_meet_48 : decode m_Fr_meet.2.1 48 = .ok (.iaload, 1) := by decide +kernel
theorem d_Fr_meet_49 : decode m_Fr_meet.2.1 49 = .ok (.aload_n 0, 1) := by decide +kernel
theorem d_Fr_meet_50 : decode m_Fr_meet.2.1 50 = .ok (.getfield 15, 3) := by decide +kernel
theorem d_Fr_meet_53 : decode m_Fr_meet.2.1 53 = .ok (.iload 4, 2) := by decide +kernel
theorem d_Fr_meet_55 : decode m_Fr_meet.2.1 55 = .ok (.iaload, 1) := by decide +kernel
theorem d_Fr_meet_56 : decode m_Fr_meet.2.1 56 = .ok (.invokestatic 42, 3) := by decide +kernel
theorem d_Fr_meet_59 : decode m_Fr_meet.2.1 59 = .ok (.ifCond .eq 46, 3) := by decide +kernel
theorem d_Fr_meet_62 : decode m_Fr_meet.2.1 62 = .ok (.aload_n 0, 1) := by decide +kernel
theorem d_Fr_meet_63 : decode m_Fr_meet.2.1 63 = .ok (.iload_n 1, 1) := by decide +kernel
theorem d_Fr_meet_64 : decode m_Fr_meet.2.1 64 = .ok (.iload_n 2, 1) := by decide +kernel
theorem d_Fr_meet_65 : decode m_Fr_meet.2.1 65 = .ok (.iload_n 3, 1) := by decide +kernel
theorem d_Fr_meet_66 : decode m_Fr_meet.2.1 66 = .ok (.invokevirtual 46, 3) := by decide +kernel
theorem d_Fr_meet_69 : decode m_Fr_meet.2.1 69 = .ok (.aload_n 0, 1) := by decide +kernel
theorem d_Fr_meet_70 : decode m_Fr_meet.2.1 70 = .ok (.iload_n 1, 1) := by decide +kernel
theorem d_Fr_meet_71 : decode m_Fr_meet.2.1 71 = .ok (.iload_n 2, 1) := by decide +kernel
theorem d_Fr_meet_72 : decode m_Fr_meet.2.1 72 = .ok (.iload 4, 2) := by decide +kernel
theorem d_Fr_meet_74 : decode m_Fr_meet.2.1 74 = .ok (.invokevirtual 46, 3) := by decide +kernel
theorem d_Fr_meet_77 : decode m_Fr_meet.2.1 77 = .ok (.imul, 1) := by decide +kernel
theorem d_Fr_meet_78 : decode m_Fr_meet.2.1 78 = .ok (.ifCond .gt 27, 3) := by decide +kernel
theorem d_Fr_meet_81 : decode m_Fr_meet.2.1 81 = .ok (.aload_n 0, 1) := by decide +kernel
theorem d_Fr_meet_82 : decode m_Fr_meet.2.1 82 = .ok (.iload_n 3, 1) := by decide +kernel
theorem d_Fr_meet_83 : decode m_Fr_meet.2.1 83 = .ok (.iload 4, 2) := by decide +kernel
theorem d_Fr_meet_85 : decode m_Fr_meet.2.1 85 = .ok (.iload_n 1, 1) := by decide +kernel
theorem d_Fr_meet_86 : decode m_Fr_meet.2.1 86 = .ok (.invokevirtual 46, 3) := by decide +kernel
theorem d_Fr_meet_89 : decode m_Fr_meet.2.1 89 = .ok (.aload_n 0, 1) := by decide +kernel
theorem d_Fr_meet_90 : decode m_Fr_meet.2.1 90 = .ok (.iload_n 3, 1) := by decide +kernel
theorem d_Fr_meet_91 : decode m_Fr_meet.2.1 91 = .ok (.iload 4, 2) := by decide +kernel
theorem d_Fr_meet_93 : decode m_Fr_meet.2.1 93 = .ok (.iload_n 2, 1) := by decide +kernel
theorem d_Fr_meet_94 : decode m_Fr_meet.2.1 94 = .ok (.invokevirtual 46, 3) := by decide +kernel
theorem d_Fr_meet_97 : decode m_Fr_meet.2.1 97 = .ok (.imul, 1) := by decide +kernel
theorem d_Fr_meet_98 : decode m_Fr_meet.2.1 98 = .ok (.ifCond .gt 7, 3) := by decide +kernel
theorem d_Fr_meet_101 : decode m_Fr_meet.2.1 101 = .ok (.iconst 1, 1) := by decide +kernel
theorem d_Fr_meet_102 : decode m_Fr_meet.2.1 102 = .ok (.goto 4, 3) := by decide +kernel
theorem d_Fr_meet_105 : decode m_Fr_meet.2.1 105 = .ok (.iconst 0, 1) := by decide +kernel
theorem d_Fr_meet_106 : decode m_Fr_meet.2.1 106 = .ok (.ireturn, 1) := by decide +kernel
set_option maxHeartbeats 4000000 in
set_option maxRecDepth 20000 in
theorem c_Fr_meet (G : Gt) (a0 : Nat) (x1 : Int32) (x2 : Int32) (x3 : Int32) (x4 : Int32) (ha0 : isO 0 a0) (h : Hp) : Cn G m_Fr_meet [.ref (ad G a0), .int x1, .int x2, .int x3, .int x4] h κi (f_Fr_meet a0 x1 x2 x3 x4 h) := by
  refine entryV (by decide) (Nat.le_of_ble_eq_true rfl) rfl ?_
  show V G m_Fr_meet 0 [(0, .ref (ad G a0)), (1, .int x1), (2, .int x2), (3, .int x3), (4, .int x4)] [] h κi _
  unfold f_Fr_meet
  refine v_aload_n 0 d_Fr_meet_0 rfl rfl ?_
  refine v_getr (a0 + 1) fl_Fr_9 ha0 rfl rfl d_Fr_meet_1 ?_
  refine v_iload_n 1 d_Fr_meet_4 rfl rfl ?_
  refine v_iald ((frA ha0).1) d_Fr_meet_5 ?_
  refine v_aload_n 0 d_Fr_meet_6 rfl rfl ?_
  refine v_getr (a0 + 1) fl_Fr_9 ha0 rfl rfl d_Fr_meet_7 ?_
  refine v_iload_n 2 d_Fr_meet_10 rfl rfl ?_
  refine v_iald ((frA ha0).1) d_Fr_meet_11 ?_
  refine v_aload_n 0 d_Fr_meet_12 rfl rfl ?_
  refine v_getr (a0 + 1) fl_Fr_9 ha0 rfl rfl d_Fr_meet_13 ?_
  refine v_iload_n 3 d_Fr_meet_16 rfl rfl ?_
  refine v_iald ((frA ha0).1) d_Fr_meet_17 ?_
  refine v_aload_n 0 d_Fr_meet_18 rfl rfl ?_
  refine v_getr (a0 + 1) fl_Fr_9 ha0 rfl rfl d_Fr_meet_19 ?_
  refine v_iload 4 d_Fr_meet_22 rfl ?_
  refine v_iald ((frA ha0).1) d_Fr_meet_24 ?_
  refine v_callSi (As := [.int (h (a0 + 1) (ix x1)), .int (h (a0 + 1) (ix x2)), .int (h (a0 + 1) (ix x3)), .int (h (a0 + 1) (ix x4))]) (rest := []) (c_Fr_overlap G (h (a0 + 1) (ix x1)) (h (a0 + 1) (ix x2)) (h (a0 + 1) (ix x3)) (h (a0 + 1) (ix x4)) h) co_Fr_42 so_Fr_overlap ⟨by decide, by decide⟩ rfl rfl (Nat.le_of_ble_eq_true rfl) d_Fr_meet_25 (fun r1 h1 _ => ?_)
  refine v_if_eq 105 d_Fr_meet_28 (by decide) (fun c2 => ?_) (fun c2 => ?_)
  · refine v_iconst 0 d_Fr_meet_105 rfl ?_
    exact v_zretL rfl rfl d_Fr_meet_106
  · refine v_aload_n 0 d_Fr_meet_31 rfl rfl ?_
    refine v_getr (a0 + 2) fl_Fr_15 ha0 rfl rfl d_Fr_meet_32 ?_
    refine v_iload_n 1 d_Fr_meet_35 rfl rfl ?_
    refine v_iald ((frA ha0).2) d_Fr_meet_36 ?_
    refine v_aload_n 0 d_Fr_meet_37 rfl rfl ?_
    refine v_getr (a0 + 2) fl_Fr_15 ha0 rfl rfl d_Fr_meet_38 ?_
    refine v_iload_n 2 d_Fr_meet_41 rfl rfl ?_
    refine v_iald ((frA ha0).2) d_Fr_meet_42 ?_
    refine v_aload_n 0 d_Fr_meet_43 rfl rfl ?_
    refine v_getr (a0 + 2) fl_Fr_15 ha0 rfl rfl d_Fr_meet_44 ?_
    refine v_iload_n 3 d_Fr_meet_47 rfl rfl ?_
    refine v_iald ((frA ha0).2) d_Fr_meet_48 ?_
    refine v_aload_n 0 d_Fr_meet_49 rfl rfl ?_
    refine v_getr (a0 + 2) fl_Fr_15 ha0 rfl rfl d_Fr_meet_50 ?_
    refine v_iload 4 d_Fr_meet_53 rfl ?_
    refine v_iald ((frA ha0).2) d_Fr_meet_55 ?_
    refine v_callSi (As := [.int (h1 (a0 + 2) (ix x1)), .int (h1 (a0 + 2) (ix x2)), .int (h1 (a0 + 2) (ix x3)), .int (h1 (a0 + 2) (ix x4))]) (rest := []) (c_Fr_overlap G (h1 (a0 + 2) (ix x1)) (h1 (a0 + 2) (ix x2)) (h1 (a0 + 2) (ix x3)) (h1 (a0 + 2) (ix x4)) h1) co_Fr_42 so_Fr_overlap ⟨by decide, by decide⟩ rfl rfl (Nat.le_of_ble_eq_true rfl) d_Fr_meet_56 (fun r3 h3 _ => ?_)
    refine v_if_eq 105 d_Fr_meet_59 (by decide) (fun c4 => ?_) (fun c4 => ?_)
    · refine v_iconst 0 d_Fr_meet_105 rfl ?_
      exact v_zretL rfl rfl d_Fr_meet_106
    · refine v_aload_n 0 d_Fr_meet_62 rfl rfl ?_
      refine v_iload_n 1 d_Fr_meet_63 rfl rfl ?_
      refine v_iload_n 2 d_Fr_meet_64 rfl rfl ?_
      refine v_iload_n 3 d_Fr_meet_65 rfl rfl ?_
      refine v_callVi (As := [.int x1, .int x2, .int x3]) (rest := []) (c_Fr_side G a0 x1 x2 x3 ha0 h3) co_Fr_46 io_Fr_side ha0 ⟨by decide, by decide⟩ rfl rfl (Nat.le_of_ble_eq_true rfl) d_Fr_meet_66 (fun r5 h5 _ => ?_)
      refine v_aload_n 0 d_Fr_meet_69 rfl rfl ?_
      refine v_iload_n 1 d_Fr_meet_70 rfl rfl ?_
      refine v_iload_n 2 d_Fr_meet_71 rfl rfl ?_
      refine v_iload 4 d_Fr_meet_72 rfl ?_
      refine v_callVi (As := [.int x1, .int x2, .int x4]) (rest := [.int r5]) (c_Fr_side G a0 x1 x2 x4 ha0 h5) co_Fr_46 io_Fr_side ha0 ⟨by decide, by decide⟩ rfl rfl (Nat.le_of_ble_eq_true rfl) d_Fr_meet_74 (fun r6 h6 _ => ?_)
      refine v_imul d_Fr_meet_77 ?_
      refine v_if_gt 105 d_Fr_meet_78 (by decide) (fun c7 => ?_) (fun c7 => ?_)
      · refine v_iconst 0 d_Fr_meet_105 rfl ?_
        exact v_zretL rfl rfl d_Fr_meet_106
      · refine v_aload_n 0 d_Fr_meet_81 rfl rfl ?_
        refine v_iload_n 3 d_Fr_meet_82 rfl rfl ?_
        refine v_iload 4 d_Fr_meet_83 rfl ?_
        refine v_iload_n 1 d_Fr_meet_85 rfl rfl ?_
        refine v_callVi (As := [.int x3, .int x4, .int x1]) (rest := []) (c_Fr_side G a0 x3 x4 x1 ha0 h6) co_Fr_46 io_Fr_side ha0 ⟨by decide, by decide⟩ rfl rfl (Nat.le_of_ble_eq_true rfl) d_Fr_meet_86 (fun r8 h8 _ => ?_)
        refine v_aload_n 0 d_Fr_meet_89 rfl rfl ?_
        refine v_iload_n 3 d_Fr_meet_90 rfl rfl ?_
        refine v_iload 4 d_Fr_meet_91 rfl ?_
        refine v_iload_n 2 d_Fr_meet_93 rfl rfl ?_
        refine v_callVi (As := [.int x3, .int x4, .int x2]) (rest := [.int r8]) (c_Fr_side G a0 x3 x4 x2 ha0 h8) co_Fr_46 io_Fr_side ha0 ⟨by decide, by decide⟩ rfl rfl (Nat.le_of_ble_eq_true rfl) d_Fr_meet_94 (fun r9 h9 _ => ?_)
        refine v_imul d_Fr_meet_97 ?_
        refine v_if_gt 105 d_Fr_meet_98 (by decide) (fun c10 => ?_) (fun c10 => ?_)
        · refine v_iconst 0 d_Fr_meet_105 rfl ?_
          exact v_zretL rfl rfl d_Fr_meet_106
        · refine v_iconst 1 d_Fr_meet_101 rfl ?_
          refine v_goto 106 d_Fr_meet_102 (by decide) ?_
          exact v_zretL rfl rfl d_Fr_meet_106
theorem d_C_crosses_0 : decode m_C_crosses.2.1 0 = .ok (.aload_n 0, 1) := by decide +kernel
theorem d_C_crosses_1 : decode m_C_crosses.2.1 1 = .ok (.iload_n 1, 1) := by decide +kernel
theorem d_C_crosses_2 : decode m_C_crosses.2.1 2 = .ok (.iload_n 2, 1) := by decide +kernel
theorem d_C_crosses_3 : decode m_C_crosses.2.1 3 = .ok (.invokevirtual 122, 3) := by decide +kernel
theorem d_C_crosses_6 : decode m_C_crosses.2.1 6 = .ok (.ifCond .ne 6, 3) := by decide +kernel
theorem d_C_crosses_9 : decode m_C_crosses.2.1 9 = .ok (.bipush (-2), 2) := by decide +kernel
theorem d_C_crosses_11 : decode m_C_crosses.2.1 11 = .ok (.ireturn, 1) := by decide +kernel
theorem d_C_crosses_12 : decode m_C_crosses.2.1 12 = .ok (.aload_n 0, 1) := by decide +kernel
theorem d_C_crosses_13 : decode m_C_crosses.2.1 13 = .ok (.iload_n 1, 1) := by decide +kernel
theorem d_C_crosses_14 : decode m_C_crosses.2.1 14 = .ok (.invokevirtual 91, 3) := by decide +kernel
theorem d_C_crosses_17 : decode m_C_crosses.2.1 17 = .ok (.ifCond .eq 6, 3) := by decide +kernel
theorem d_C_crosses_20 : decode m_C_crosses.2.1 20 = .ok (.bipush (-3), 2) := by decide +kernel
theorem d_C_crosses_22 : decode m_C_crosses.2.1 22 = .ok (.ireturn, 1) := by decide +kernel
theorem d_C_crosses_23 : decode m_C_crosses.2.1 23 = .ok (.aload_n 0, 1) := by decide +kernel
theorem d_C_crosses_24 : decode m_C_crosses.2.1 24 = .ok (.aload_n 0, 1) := by decide +kernel
theorem d_C_crosses_25 : decode m_C_crosses.2.1 25 = .ok (.getfield 28, 3) := by decide +kernel
theorem d_C_crosses_28 : decode m_C_crosses.2.1 28 = .ok (.iconst 0, 1) := by decide +kernel
theorem d_C_crosses_29 : decode m_C_crosses.2.1 29 = .ok (.aaload, 1) := by decide +kernel
theorem d_C_crosses_30 : decode m_C_crosses.2.1 30 = .ok (.aload_n 0, 1) := by decide +kernel
theorem d_C_crosses_31 : decode m_C_crosses.2.1 31 = .ok (.getfield 19, 3) := by decide +kernel
theorem d_C_crosses_34 : decode m_C_crosses.2.1 34 = .ok (.iload_n 1, 1) := by decide +kernel
theorem d_C_crosses_35 : decode m_C_crosses.2.1 35 = .ok (.iload_n 2, 1) := by decide +kernel
theorem d_C_crosses_36 : decode m_C_crosses.2.1 36 = .ok (.aload_n 0, 1) := by decide +kernel
theorem d_C_crosses_37 : decode m_C_crosses.2.1 37 = .ok (.getfield 49, 3) := by decide +kernel
theorem d_C_crosses_40 : decode m_C_crosses.2.1 40 = .ok (.invokevirtual 126, 3) := by decide +kernel
theorem d_C_crosses_43 : decode m_C_crosses.2.1 43 = .ok (.astore_n 3, 1) := by decide +kernel
theorem d_C_crosses_44 : decode m_C_crosses.2.1 44 = .ok (.iconst 0, 1) := by decide +kernel
theorem d_C_crosses_45 : decode m_C_crosses.2.1 45 = .ok (.istore 4, 2) := by decide +kernel
theorem d_C_crosses_47 : decode m_C_crosses.2.1 47 = .ok (.iconst 0, 1) := by decide +kernel
theorem d_C_crosses_48 : decode m_C_crosses.2.1 48 = .ok (.istore 5, 2) := by decide +kernel
theorem d_C_crosses_50 : decode m_C_crosses.2.1 50 = .ok (.iload 5, 2) := by decide +kernel
theorem d_C_crosses_52 : decode m_C_crosses.2.1 52 = .ok (.iconst 1, 1) := by decide +kernel
theorem d_C_crosses_53 : decode m_C_crosses.2.1 53 = .ok (.iadd, 1) := by decide +kernel
theorem d_C_crosses_54 : decode m_C_crosses.2.1 54 = .ok (.aload_n 3, 1) := by decide +kernel
theorem d_C_crosses_55 : decode m_C_crosses.2.1 55 = .ok (.getfield 130, 3) := by decide +kernel
theorem d_C_crosses_58 : decode m_C_crosses.2.1 58 = .ok (.if_icmp .ge 77, 3) := by decide +kernel
theorem d_C_crosses_61 : decode m_C_crosses.2.1 61 = .ok (.iload 5, 2) := by decide +kernel
theorem d_C_crosses_63 : decode m_C_crosses.2.1 63 = .ok (.iconst 2, 1) := by decide +kernel
theorem d_C_crosses_64 : decode m_C_crosses.2.1 64 = .ok (.iadd, 1) := by decide +kernel
theorem d_C_crosses_65 : decode m_C_crosses.2.1 65 = .ok (.istore 6, 2) := by decide +kernel
theorem d_C_crosses_67 : decode m_C_crosses.2.1 67 = .ok (.iload 6, 2) := by decide +kernel
theorem d_C_crosses_69 : decode m_C_crosses.2.1 69 = .ok (.iconst 1, 1) := by decide +kernel
theorem d_C_crosses_70 : decode m_C_crosses.2.1 70 = .ok (.iadd, 1) := by decide +kernel
theorem d_C_crosses_71 : decode m_C_crosses.2.1 71 = .ok (.aload_n 3, 1) := by decide +kernel
theorem d_C_crosses_72 : decode m_C_crosses.2.1 72 = .ok (.getfield 130, 3) := by decide +kernel
theorem d_C_crosses_75 : decode m_C_crosses.2.1 75 = .ok (.if_icmp .ge 54, 3) := by decide +kernel
theorem d_C_crosses_78 : decode m_C_crosses.2.1 78 = .ok (.aload_n 0, 1) := by decide +kernel
theorem d_C_crosses_79 : decode m_C_crosses.2.1 79 = .ok (.getfield 19, 3) := by decide +kernel
theorem d_C_crosses_82 : decode m_C_crosses.2.1 82 = .ok (.aload_n 3, 1) := by decide +kernel
theorem d_C_crosses_83 : decode m_C_crosses.2.1 83 = .ok (.getfield 131, 3) := by decide +kernel
theorem d_C_crosses_86 : decode m_C_crosses.2.1 86 = .ok (.iload 5, 2) := by decide +kernel
theorem d_C_crosses_88 : decode m_C_crosses.2.1 88 = .ok (.iaload, 1) := by decide +kernel
theorem d_C_crosses_89 : decode m_C_crosses.2.1 89 = .ok (.aload_n 3, 1) := by decide +kernel
theorem d_C_crosses_90 : decode m_C_crosses.2.1 90 = .ok (.getfield 131, 3) := by decide +kernel
theorem d_C_crosses_93 : decode m_C_crosses.2.1 93 = .ok (.iload 5, 2) := by decide +kernel
theorem d_C_crosses_95 : decode m_C_crosses.2.1 95 = .ok (.iconst 1, 1) := by decide +kernel
theorem d_C_crosses_96 : decode m_C_crosses.2.1 96 = .ok (.iadd, 1) := by decide +kernel
theorem d_C_crosses_97 : decode m_C_crosses.2.1 97 = .ok (.iaload, 1) := by decide +kernel
theorem d_C_crosses_98 : decode m_C_crosses.2.1 98 = .ok (.aload_n 3, 1) := by decide +kernel
theorem d_C_crosses_99 : decode m_C_crosses.2.1 99 = .ok (.getfield 131, 3) := by decide +kernel
theorem d_C_crosses_102 : decode m_C_crosses.2.1 102 = .ok (.iload 6, 2) := by decide +kernel
theorem d_C_crosses_104 : decode m_C_crosses.2.1 104 = .ok (.iaload, 1) := by decide +kernel
theorem d_C_crosses_105 : decode m_C_crosses.2.1 105 = .ok (.aload_n 3, 1) := by decide +kernel
theorem d_C_crosses_106 : decode m_C_crosses.2.1 106 = .ok (.getfield 131, 3) := by decide +kernel
theorem d_C_crosses_109 : decode m_C_crosses.2.1 109 = .ok (.iload 6, 2) := by decide +kernel
theorem d_C_crosses_111 : decode m_C_crosses.2.1 111 = .ok (.iconst 1, 1) := by decide +kernel
theorem d_C_crosses_112 : decode m_C_crosses.2.1 112 = .ok (.iadd, 1) := by decide +kernel
theorem d_C_crosses_113 : decode m_C_crosses.2.1 113 = .ok (.iaload, 1) := by decide +kernel
theorem d_C_crosses_114 : decode m_C_crosses.2.1 114 = .ok (.invokevirtual 140, 3) := by decide +kernel
theorem d_C_crosses_117 : decode m_C_crosses.2.1 117 = .ok (.ifCond .eq 6, 3) := by decide +kernel
theorem d_C_crosses_120 : decode m_C_crosses.2.1 120 = .ok (.iinc 4 1, 3) := by decide +kernel
theorem d_C_crosses_123 : decode m_C_crosses.2.1 123 = .ok (.iinc 6 1, 3) := by decide +kernel
theorem d_C_crosses_126 : decode m_C_crosses.2.1 126 = .ok (.goto (-59), 3) := by decide +kernel
theorem d_C_crosses_129 : decode m_C_crosses.2.1 129 = .ok (.iinc 5 1, 3) := by decide +kernel
theorem d_C_crosses_132 : decode m_C_crosses.2.1 132 = .ok (.goto (-82), 3) := by decide +kernel
theorem d_C_crosses_135 : decode m_C_crosses.2.1 135 = .ok (.iload 4, 2) := by decide +kernel
theorem d_C_crosses_137 : decode m_C_crosses.2.1 137 = .ok (.ireturn, 1) := by decide +kernel
set_option maxHeartbeats 4000000 in
set_option maxRecDepth 20000 in
theorem Vl_C_crosses_67 (G : Gt) (K50 : Nat → Int32 → Int32 → Hp → Option (Int32 × Hp)) (hK50 : ∀ (a3 : Nat) (x4 : Int32) (x5 : Int32) (ha3 : isO 3 a3) (h : Hp), V G m_C_crosses 50 [(0, .ref (ad G 0)), (3, .ref (ad G a3)), (4, .int x4), (5, .int x5)] [] h κi (K50 a3 x4 x5 h)) : ∀ (n : Nat) (a3 : Nat) (x4 : Int32) (x5 : Int32) (x6 : Int32) (ha3 : isO 3 a3) (h : Hp), V G m_C_crosses 67 [(0, .ref (ad G 0)), (3, .ref (ad G a3)), (4, .int x4), (5, .int x5), (6, .int x6)] [] h κi (l_C_crosses_67 K50 n a3 x4 x5 x6 h) := by
  intro n
  induction n with
  | zero => intros; exact v_none
  | succ n ih =>
    intro a3 x4 x5 x6 ha3 h
    rw [l_C_crosses_67]
    refine v_iload 4 d_C_crosses_67 rfl ?_
    refine v_iconst 1 d_C_crosses_69 rfl ?_
    refine v_iadd d_C_crosses_70 ?_
    refine v_aload_n 1 d_C_crosses_71 rfl rfl ?_
    refine v_geti fl_C_130 ha3 rfl d_C_crosses_72 ?_
    refine v_icmp_ge 129 d_C_crosses_75 (by decide) (fun c8 => ?_) (fun c8 => ?_)
    · refine v_iinc (x5 + 1) 3 [(5, .int (x5 + 1)), (0, .ref (ad G 0)), (3, .ref (ad G a3)), (4, .int x4), (6, .int x6)] d_C_crosses_129 rfl rfl (by decide) rfl ?_
      refine v_goto 50 d_C_crosses_132 (by decide) ?_
      exact v_sub [1, 2, 3, 0] rfl (hK50 a3 x4 (x5 + 1) ha3 h)
    · refine v_aload_n 0 d_C_crosses_78 rfl rfl ?_
      refine v_getr 3 fl_C_19 o_0 rfl rfl d_C_crosses_79 ?_
      refine v_aload_n 1 d_C_crosses_82 rfl rfl ?_
      refine v_getr (a3 + 1) fl_C_131 ha3 rfl rfl d_C_crosses_83 ?_
      refine v_iload 3 d_C_crosses_86 rfl ?_
      refine v_iald (spA ha3) d_C_crosses_88 ?_
      refine v_aload_n 1 d_C_crosses_89 rfl rfl ?_
      refine v_getr (a3 + 1) fl_C_131 ha3 rfl rfl d_C_crosses_90 ?_
      refine v_iload 3 d_C_crosses_93 rfl ?_
      refine v_iconst 1 d_C_crosses_95 rfl ?_
      refine v_iadd d_C_crosses_96 ?_
      refine v_iald (spA ha3) d_C_crosses_97 ?_
      refine v_aload_n 1 d_C_crosses_98 rfl rfl ?_
      refine v_getr (a3 + 1) fl_C_131 ha3 rfl rfl d_C_crosses_99 ?_
      refine v_iload 4 d_C_crosses_102 rfl ?_
      refine v_iald (spA ha3) d_C_crosses_104 ?_
      refine v_aload_n 1 d_C_crosses_105 rfl rfl ?_
      refine v_getr (a3 + 1) fl_C_131 ha3 rfl rfl d_C_crosses_106 ?_
      refine v_iload 4 d_C_crosses_109 rfl ?_
      refine v_iconst 1 d_C_crosses_111 rfl ?_
      refine v_iadd d_C_crosses_112 ?_
      refine v_iald (spA ha3) d_C_crosses_113 ?_
      refine v_callVi (As := [.int (h (a3 + 1) (ix x5)), .int (h (a3 + 1) (ix (x5 + 1))), .int (h (a3 + 1) (ix x6)), .int (h (a3 + 1) (ix (x6 + 1)))]) (rest := []) (c_Fr_meet G 3 (h (a3 + 1) (ix x5)) (h (a3 + 1) (ix (x5 + 1))) (h (a3 + 1) (ix x6)) (h (a3 + 1) (ix (x6 + 1))) o_3 h) co_C_140 io_Fr_meet o_3 ⟨by decide, by decide⟩ rfl rfl (Nat.le_of_ble_eq_true rfl) d_C_crosses_114 (fun r9 h9 _ => ?_)
      refine v_if_eq 123 d_C_crosses_117 (by decide) (fun c10 => ?_) (fun c10 => ?_)
      · refine v_iinc (x6 + 1) 4 [(6, .int (x6 + 1)), (0, .ref (ad G 0)), (3, .ref (ad G a3)), (4, .int x4), (5, .int x5)] d_C_crosses_123 rfl rfl (by decide) rfl ?_
        refine v_goto 67 d_C_crosses_126 (by decide) ?_
        exact v_sub [1, 2, 3, 4, 0] rfl (ih a3 x4 x5 (x6 + 1) ha3 h9)
      · refine v_iinc (x4 + 1) 2 [(4, .int (x4 + 1)), (0, .ref (ad G 0)), (3, .ref (ad G a3)), (5, .int x5), (6, .int x6)] d_C_crosses_120 rfl rfl (by decide) rfl ?_
        refine v_iinc (x6 + 1) 4 [(6, .int (x6 + 1)), (4, .int (x4 + 1)), (0, .ref (ad G 0)), (3, .ref (ad G a3)), (5, .int x5)] d_C_crosses_123 rfl rfl (by decide) rfl ?_
        refine v_goto 67 d_C_crosses_126 (by decide) ?_
        exact v_sub [2, 3, 1, 4, 0] rfl (ih a3 (x4 + 1) x5 (x6 + 1) ha3 h9)
set_option maxHeartbeats 4000000 in
set_option maxRecDepth 20000 in
theorem Vl_C_crosses_50 (G : Gt) : ∀ (n : Nat) (a3 : Nat) (x4 : Int32) (x5 : Int32) (ha3 : isO 3 a3) (h : Hp), V G m_C_crosses 50 [(0, .ref (ad G 0)), (3, .ref (ad G a3)), (4, .int x4), (5, .int x5)] [] h κi (l_C_crosses_50 n a3 x4 x5 h) := by
  intro n
  induction n with
  | zero => intros; exact v_none
  | succ n ih =>
    intro a3 x4 x5 ha3 h
    rw [l_C_crosses_50]
    refine v_iload 3 d_C_crosses_50 rfl ?_
    refine v_iconst 1 d_C_crosses_52 rfl ?_
    refine v_iadd d_C_crosses_53 ?_
    refine v_aload_n 1 d_C_crosses_54 rfl rfl ?_
    refine v_geti fl_C_130 ha3 rfl d_C_crosses_55 ?_
    refine v_icmp_ge 135 d_C_crosses_58 (by decide) (fun c7 => ?_) (fun c7 => ?_)
    · refine v_iload 2 d_C_crosses_135 rfl ?_
      exact v_iret rfl d_C_crosses_137
    · refine v_iload 3 d_C_crosses_61 rfl ?_
      refine v_iconst 2 d_C_crosses_63 rfl ?_
      refine v_iadd d_C_crosses_64 ?_
      refine v_istore [(6, .int (x5 + 2)), (0, .ref (ad G 0)), (3, .ref (ad G a3)), (4, .int x4), (5, .int x5)] d_C_crosses_65 (by decide) rfl ?_
      exact v_sub [1, 2, 3, 4, 0] rfl (Vl_C_crosses_67 G (l_C_crosses_50 n) ih FUEL a3 x4 x5 (x5 + 2) ha3 h)
set_option maxHeartbeats 4000000 in
set_option maxRecDepth 20000 in
theorem c_C_crosses (G : Gt) (x1 : Int32) (x2 : Int32) (h : Hp) : Cn G m_C_crosses [.ref (ad G 0), .int x1, .int x2] h κi (f_C_crosses x1 x2 h) := by
  refine entryV (by decide) (Nat.le_of_ble_eq_true rfl) rfl ?_
  show V G m_C_crosses 0 [(0, .ref (ad G 0)), (1, .int x1), (2, .int x2)] [] h κi _
  unfold f_C_crosses
  refine v_aload_n 0 d_C_crosses_0 rfl rfl ?_
  refine v_iload_n 1 d_C_crosses_1 rfl rfl ?_
  refine v_iload_n 2 d_C_crosses_2 rfl rfl ?_
  refine v_callVi (As := [.int x1, .int x2]) (rest := []) (c_C_canBeTold G x1 x2 h) co_C_122 io_C_canBeTold o_0 ⟨by decide, by decide⟩ rfl rfl (Nat.le_of_ble_eq_true rfl) d_C_crosses_3 (fun r1 h1 _ => ?_)
  refine v_if_ne 12 d_C_crosses_6 (by decide) (fun c2 => ?_) (fun c2 => ?_)
  · refine v_bipush (-2) d_C_crosses_9 rfl ?_
    exact v_iret rfl d_C_crosses_11
  · refine v_aload_n 0 d_C_crosses_12 rfl rfl ?_
    refine v_iload_n 1 d_C_crosses_13 rfl rfl ?_
    refine v_callVi (As := [.int x1]) (rest := []) (c_C_isHidden G x1 h1) co_C_91 io_C_isHidden o_0 ⟨by decide, by decide⟩ rfl rfl (Nat.le_of_ble_eq_true rfl) d_C_crosses_14 (fun r3 h3 _ => ?_)
    refine v_if_eq 23 d_C_crosses_17 (by decide) (fun c4 => ?_) (fun c4 => ?_)
    · refine v_aload_n 0 d_C_crosses_23 rfl rfl ?_
      refine v_aload_n 0 d_C_crosses_24 rfl rfl ?_
      refine v_getr 9 fl_C_28 o_0 rfl rfl d_C_crosses_25 ?_
      refine v_iconst 0 d_C_crosses_28 rfl ?_
      refine v_aald2 15 rfl ar_9 d_C_crosses_29 (fun b5 => ?_)
      refine v_aload_n 0 d_C_crosses_30 rfl rfl ?_
      refine v_getr 3 fl_C_19 o_0 rfl rfl d_C_crosses_31 ?_
      refine v_iload_n 1 d_C_crosses_34 rfl rfl ?_
      refine v_iload_n 2 d_C_crosses_35 rfl rfl ?_
      refine v_aload_n 0 d_C_crosses_36 rfl rfl ?_
      refine v_geti fl_C_49 o_0 rfl d_C_crosses_37 ?_
      refine v_callVr (As := [.ref (ad G 15), .ref (ad G 3), .int x1, .int x2, .int (h3 0 7)]) (rest := []) (c_C_lay G 15 3 x1 x2 (h3 0 7) o_15 o_3 h3) co_C_126 io_C_lay o_0 ⟨by decide, by decide⟩ rfl rfl (Nat.le_of_ble_eq_true rfl) d_C_crosses_40 (fun r6 h6 z6 => ?_)
      have e6 := lay_isO o_15 z6
      refine v_astore_n [(3, .ref (ad G r6)), (0, .ref (ad G 0)), (1, .int x1), (2, .int x2)] d_C_crosses_43 rfl (by decide) rfl ?_
      refine v_iconst 0 d_C_crosses_44 rfl ?_
      refine v_istore [(4, .int 0), (3, .ref (ad G r6)), (0, .ref (ad G 0)), (1, .int x1), (2, .int x2)] d_C_crosses_45 (by decide) rfl ?_
      refine v_iconst 0 d_C_crosses_47 rfl ?_
      refine v_istore [(5, .int 0), (4, .int 0), (3, .ref (ad G r6)), (0, .ref (ad G 0)), (1, .int x1), (2, .int x2)] d_C_crosses_48 (by decide) rfl ?_
      exact v_sub [3, 2, 1, 0] rfl (Vl_C_crosses_50 G FUEL r6 0 0 e6 h6)
    · refine v_bipush (-3) d_C_crosses_20 rfl ?_
      exact v_iret rfl d_C_crosses_22
theorem d_Sp_placeOf_0 : decode m_Sp_placeOf.2.1 0 = .ok (.iconst 0, 1) := by decide +kernel
theorem d_Sp_placeOf_1 : decode m_Sp_placeOf.2.1 1 = .ok (.istore_n 2, 1) := by decide +kernel
theorem d_Sp_placeOf_2 : decode m_Sp_placeOf.2.1 2 = .ok (.iload_n 2, 1) := by decide +kernel
theorem d_Sp_placeOf_3 : decode m_Sp_placeOf.2.1 3 = .ok (.aload_n 0, 1) := by decide +kernel
theorem d_Sp_placeOf_4 : decode m_Sp_placeOf.2.1 4 = .ok (.getfield 15, 3) := by decide +kernel
theorem d_Sp_placeOf_7 : decode m_Sp_placeOf.2.1 7 = .ok (.if_icmp .ge 21, 3) := by decide +kernel
theorem d_Sp_placeOf_10 : decode m_Sp_placeOf.2.1 10 = .ok (.aload_n 0, 1) := by decide +kernel
theorem d_Sp_placeOf_11 : decode m_Sp_placeOf.2.1 11 = .ok (.getfield 9, 3) := by decide +kernel
theorem d_Sp_placeOf_14 : decode m_Sp_placeOf.2.1 14 = .ok (.iload_n 2, 1) := by decide +kernel
theorem d_Sp_placeOf_15 : decode m_Sp_placeOf.2.1 15 = .ok (.iaload, 1) := by decide +kernel
theorem d_Sp_placeOf_16 : decode m_Sp_placeOf.2.1 16 = .ok (.iload_n 1, 1) := by decide +kernel
theorem d_Sp_placeOf_17 : decode m_Sp_placeOf.2.1 17 = .ok (.if_icmp .ne 5, 3) := by decide +kernel
theorem d_Sp_placeOf_20 : decode m_Sp_placeOf.2.1 20 = .ok (.iload_n 2, 1) := by decide +kernel
theorem d_Sp_placeOf_21 : decode m_Sp_placeOf.2.1 21 = .ok (.ireturn, 1) := by decide +kernel
theorem d_Sp_placeOf_22 : decode m_Sp_placeOf.2.1 22 = .ok (.iinc 2 1, 3) := by decide +kernel
theorem d_Sp_placeOf_25 : decode m_Sp_placeOf.2.1 25 = .ok (.goto (-23), 3) := by decide +kernel
theorem d_Sp_placeOf_28 : decode m_Sp_placeOf.2.1 28 = .ok (.iconst (-1), 1) := by decide +kernel
theorem d_Sp_placeOf_29 : decode m_Sp_placeOf.2.1 29 = .ok (.ireturn, 1) := by decide +kernel
set_option maxHeartbeats 4000000 in
set_option maxRecDepth 20000 in
theorem Vl_Sp_placeOf_2 (G : Gt) : ∀ (n : Nat) (a0 : Nat) (x1 : Int32) (x2 : Int32) (ha0 : isO 3 a0) (h : Hp), V G m_Sp_placeOf 2 [(0, .ref (ad G a0)), (1, .int x1), (2, .int x2)] [] h κi (l_Sp_placeOf_2 n a0 x1 x2 h) := by
  intro n
  induction n with
  | zero => intros; exact v_none
  | succ n ih =>
    intro a0 x1 x2 ha0 h
    rw [l_Sp_placeOf_2]
    refine v_iload_n 2 d_Sp_placeOf_2 rfl rfl ?_
    refine v_aload_n 0 d_Sp_placeOf_3 rfl rfl ?_
    refine v_geti fl_Sp_15 ha0 rfl d_Sp_placeOf_4 ?_
    refine v_icmp_ge 28 d_Sp_placeOf_7 (by decide) (fun c1 => ?_) (fun c1 => ?_)
    · refine v_iconst (-1) d_Sp_placeOf_28 rfl ?_
      exact v_iret rfl d_Sp_placeOf_29
    · refine v_aload_n 0 d_Sp_placeOf_10 rfl rfl ?_
      refine v_getr (a0 + 1) fl_Sp_9 ha0 rfl rfl d_Sp_placeOf_11 ?_
      refine v_iload_n 2 d_Sp_placeOf_14 rfl rfl ?_
      refine v_iald (spA ha0) d_Sp_placeOf_15 ?_
      refine v_iload_n 1 d_Sp_placeOf_16 rfl rfl ?_
      refine v_icmp_ne 22 d_Sp_placeOf_17 (by decide) (fun c2 => ?_) (fun c2 => ?_)
      · refine v_iload_n 2 d_Sp_placeOf_20 rfl rfl ?_
        exact v_iret rfl d_Sp_placeOf_21
      · refine v_iinc (x2 + 1) 2 [(2, .int (x2 + 1)), (0, .ref (ad G a0)), (1, .int x1)] d_Sp_placeOf_22 rfl rfl (by decide) rfl ?_
        refine v_goto 2 d_Sp_placeOf_25 (by decide) ?_
        exact v_sub [1, 2, 0] rfl (ih a0 x1 (x2 + 1) ha0 h)
set_option maxHeartbeats 4000000 in
set_option maxRecDepth 20000 in
theorem c_Sp_placeOf (G : Gt) (a0 : Nat) (x1 : Int32) (ha0 : isO 3 a0) (h : Hp) : Cn G m_Sp_placeOf [.ref (ad G a0), .int x1] h κi (f_Sp_placeOf a0 x1 h) := by
  refine entryV (by decide) (Nat.le_of_ble_eq_true rfl) rfl ?_
  show V G m_Sp_placeOf 0 [(0, .ref (ad G a0)), (1, .int x1)] [] h κi _
  unfold f_Sp_placeOf
  refine v_iconst 0 d_Sp_placeOf_0 rfl ?_
  refine v_istore_n [(2, .int 0), (0, .ref (ad G a0)), (1, .int x1)] d_Sp_placeOf_1 rfl (by decide) rfl ?_
  exact v_sub [1, 2, 0] rfl (Vl_Sp_placeOf_2 G FUEL a0 x1 0 ha0 h)
theorem d_C_neighbours_0 : decode m_C_neighbours.2.1 0 = .ok (.aload_n 0, 1) := by decide +kernel
theorem d_C_neighbours_1 : decode m_C_neighbours.2.1 1 = .ok (.iload_n 1, 1) := by decide +kernel
theorem d_C_neighbours_2 : decode m_C_neighbours.2.1 2 = .ok (.invokevirtual 148, 3) := by decide +kernel
theorem d_C_neighbours_5 : decode m_C_neighbours.2.1 5 = .ok (.istore_n 2, 1) := by decide +kernel
theorem d_C_neighbours_6 : decode m_C_neighbours.2.1 6 = .ok (.iload_n 2, 1) := by decide +kernel
theorem d_C_neighbours_7 : decode m_C_neighbours.2.1 7 = .ok (.iconst (-1), 1) := by decide +kernel
theorem d_C_neighbours_8 : decode m_C_neighbours.2.1 8 = .ok (.if_icmp .ne 5, 3) := by decide +kernel
theorem d_C_neighbours_11 : decode m_C_neighbours.2.1 11 = .ok (.iconst 0, 1) := by decide +kernel
theorem d_C_neighbours_12 : decode m_C_neighbours.2.1 12 = .ok (.ireturn, 1) := by decide +kernel
theorem d_C_neighbours_13 : decode m_C_neighbours.2.1 13 = .ok (.iload_n 2, 1) := by decide +kernel
theorem d_C_neighbours_14 : decode m_C_neighbours.2.1 14 = .ok (.ifCond .le 7, 3) := by decide +kernel
theorem d_C_neighbours_17 : decode m_C_neighbours.2.1 17 = .ok (.iconst 1, 1) := by decide +kernel
theorem d_C_neighbours_18 : decode m_C_neighbours.2.1 18 = .ok (.goto 4, 3) := by decide +kernel
theorem d_C_neighbours_21 : decode m_C_neighbours.2.1 21 = .ok (.iconst 0, 1) := by decide +kernel
theorem d_C_neighbours_22 : decode m_C_neighbours.2.1 22 = .ok (.iload_n 2, 1) := by decide +kernel
theorem d_C_neighbours_23 : decode m_C_neighbours.2.1 23 = .ok (.iconst 1, 1) := by decide +kernel
theorem d_C_neighbours_24 : decode m_C_neighbours.2.1 24 = .ok (.iadd, 1) := by decide +kernel
theorem d_C_neighbours_25 : decode m_C_neighbours.2.1 25 = .ok (.aload_n 0, 1) := by decide +kernel
theorem d_C_neighbours_26 : decode m_C_neighbours.2.1 26 = .ok (.getfield 130, 3) := by decide +kernel
theorem d_C_neighbours_29 : decode m_C_neighbours.2.1 29 = .ok (.if_icmp .ge 7, 3) := by decide +kernel
theorem d_C_neighbours_32 : decode m_C_neighbours.2.1 32 = .ok (.iconst 1, 1) := by decide +kernel
theorem d_C_neighbours_33 : decode m_C_neighbours.2.1 33 = .ok (.goto 4, 3) := by decide +kernel
theorem d_C_neighbours_36 : decode m_C_neighbours.2.1 36 = .ok (.iconst 0, 1) := by decide +kernel
theorem d_C_neighbours_37 : decode m_C_neighbours.2.1 37 = .ok (.iadd, 1) := by decide +kernel
theorem d_C_neighbours_38 : decode m_C_neighbours.2.1 38 = .ok (.ireturn, 1) := by decide +kernel
set_option maxHeartbeats 4000000 in
set_option maxRecDepth 20000 in
theorem c_C_neighbours (G : Gt) (a0 : Nat) (x1 : Int32) (ha0 : isO 3 a0) (h : Hp) : Cn G m_C_neighbours [.ref (ad G a0), .int x1] h κi (f_C_neighbours a0 x1 h) := by
  refine entryV (by decide) (Nat.le_of_ble_eq_true rfl) rfl ?_
  show V G m_C_neighbours 0 [(0, .ref (ad G a0)), (1, .int x1)] [] h κi _
  unfold f_C_neighbours
  refine v_aload_n 0 d_C_neighbours_0 rfl rfl ?_
  refine v_iload_n 1 d_C_neighbours_1 rfl rfl ?_
  refine v_callVi (As := [.int x1]) (rest := []) (c_Sp_placeOf G a0 x1 ha0 h) co_C_148 io_Sp_placeOf ha0 ⟨by decide, by decide⟩ rfl rfl (Nat.le_of_ble_eq_true rfl) d_C_neighbours_2 (fun r1 h1 _ => ?_)
  refine v_istore_n [(2, .int r1), (0, .ref (ad G a0)), (1, .int x1)] d_C_neighbours_5 rfl (by decide) rfl ?_
  refine v_iload_n 0 d_C_neighbours_6 rfl rfl ?_
  refine v_iconst (-1) d_C_neighbours_7 rfl ?_
  refine v_icmp_ne 13 d_C_neighbours_8 (by decide) (fun c2 => ?_) (fun c2 => ?_)
  · refine v_iconst 0 d_C_neighbours_11 rfl ?_
    exact v_iret rfl d_C_neighbours_12
  · refine v_iload_n 0 d_C_neighbours_13 rfl rfl ?_
    refine v_if_le 21 d_C_neighbours_14 (by decide) (fun c3 => ?_) (fun c3 => ?_)
    · refine v_iconst 0 d_C_neighbours_21 rfl ?_
      refine v_iload_n 0 d_C_neighbours_22 rfl rfl ?_
      refine v_iconst 1 d_C_neighbours_23 rfl ?_
      refine v_iadd d_C_neighbours_24 ?_
      refine v_aload_n 1 d_C_neighbours_25 rfl rfl ?_
      refine v_geti fl_C_130 ha0 rfl d_C_neighbours_26 ?_
      refine v_icmp_ge 36 d_C_neighbours_29 (by decide) (fun c4 => ?_) (fun c4 => ?_)
      · refine v_iconst 0 d_C_neighbours_36 rfl ?_
        refine v_iadd d_C_neighbours_37 ?_
        exact v_iret rfl d_C_neighbours_38
      · refine v_iconst 1 d_C_neighbours_32 rfl ?_
        refine v_goto 37 d_C_neighbours_33 (by decide) ?_
        refine v_iadd d_C_neighbours_37 ?_
        exact v_iret rfl d_C_neighbours_38
    · refine v_iconst 1 d_C_neighbours_17 rfl ?_
      refine v_goto 22 d_C_neighbours_18 (by decide) ?_
      refine v_iload_n 0 d_C_neighbours_22 rfl rfl ?_
      refine v_iconst 1 d_C_neighbours_23 rfl ?_
      refine v_iadd d_C_neighbours_24 ?_
      refine v_aload_n 1 d_C_neighbours_25 rfl rfl ?_
      refine v_geti fl_C_130 ha0 rfl d_C_neighbours_26 ?_
      refine v_icmp_ge 36 d_C_neighbours_29 (by decide) (fun c5 => ?_) (fun c5 => ?_)
      · refine v_iconst 0 d_C_neighbours_36 rfl ?_
        refine v_iadd d_C_neighbours_37 ?_
        exact v_iret rfl d_C_neighbours_38
      · refine v_iconst 1 d_C_neighbours_32 rfl ?_
        refine v_goto 37 d_C_neighbours_33 (by decide) ?_
        refine v_iadd d_C_neighbours_37 ?_
        exact v_iret rfl d_C_neighbours_38
theorem d_C_hangs_0 : decode m_C_hangs.2.1 0 = .ok (.aload_n 0, 1) := by decide +kernel
theorem d_C_hangs_1 : decode m_C_hangs.2.1 1 = .ok (.iload_n 1, 1) := by decide +kernel
theorem d_C_hangs_2 : decode m_C_hangs.2.1 2 = .ok (.iload_n 2, 1) := by decide +kernel
theorem d_C_hangs_3 : decode m_C_hangs.2.1 3 = .ok (.invokevirtual 122, 3) := by decide +kernel
theorem d_C_hangs_6 : decode m_C_hangs.2.1 6 = .ok (.ifCond .eq 14, 3) := by decide +kernel
theorem d_C_hangs_9 : decode m_C_hangs.2.1 9 = .ok (.aload_n 0, 1) := by decide +kernel
theorem d_C_hangs_10 : decode m_C_hangs.2.1 10 = .ok (.getfield 19, 3) := by decide +kernel
theorem d_C_hangs_13 : decode m_C_hangs.2.1 13 = .ok (.iload_n 3, 1) := by decide +kernel
theorem d_C_hangs_14 : decode m_C_hangs.2.1 14 = .ok (.invokevirtual 80, 3) := by decide +kernel
theorem d_C_hangs_17 : decode m_C_hangs.2.1 17 = .ok (.ifCond .ne 6, 3) := by decide +kernel
theorem d_C_hangs_20 : decode m_C_hangs.2.1 20 = .ok (.bipush (-2), 2) := by decide +kernel
theorem d_C_hangs_22 : decode m_C_hangs.2.1 22 = .ok (.ireturn, 1) := by decide +kernel
theorem d_C_hangs_23 : decode m_C_hangs.2.1 23 = .ok (.aload_n 0, 1) := by decide +kernel
theorem d_C_hangs_24 : decode m_C_hangs.2.1 24 = .ok (.iload_n 1, 1) := by decide +kernel
theorem d_C_hangs_25 : decode m_C_hangs.2.1 25 = .ok (.invokevirtual 91, 3) := by decide +kernel
theorem d_C_hangs_28 : decode m_C_hangs.2.1 28 = .ok (.ifCond .eq 6, 3) := by decide +kernel
theorem d_C_hangs_31 : decode m_C_hangs.2.1 31 = .ok (.bipush (-3), 2) := by decide +kernel
theorem d_C_hangs_33 : decode m_C_hangs.2.1 33 = .ok (.ireturn, 1) := by decide +kernel
theorem d_C_hangs_34 : decode m_C_hangs.2.1 34 = .ok (.aload_n 0, 1) := by decide +kernel
theorem d_C_hangs_35 : decode m_C_hangs.2.1 35 = .ok (.aload_n 0, 1) := by decide +kernel
theorem d_C_hangs_36 : decode m_C_hangs.2.1 36 = .ok (.getfield 28, 3) := by decide +kernel
theorem d_C_hangs_39 : decode m_C_hangs.2.1 39 = .ok (.iconst 0, 1) := by decide +kernel
theorem d_C_hangs_40 : decode m_C_hangs.2.1 40 = .ok (.aaload, 1) := by decide +kernel
theorem d_C_hangs_41 : decode m_C_hangs.2.1 41 = .ok (.aload_n 0, 1) := by decide +kernel
theorem d_C_hangs_42 : decode m_C_hangs.2.1 42 = .ok (.getfield 19, 3) := by decide +kernel
theorem d_C_hangs_45 : decode m_C_hangs.2.1 45 = .ok (.iload_n 1, 1) := by decide +kernel
theorem d_C_hangs_46 : decode m_C_hangs.2.1 46 = .ok (.iload_n 2, 1) := by decide +kernel
theorem d_C_hangs_47 : decode m_C_hangs.2.1 47 = .ok (.aload_n 0, 1) := by decide +kernel
theorem d_C_hangs_48 : decode m_C_hangs.2.1 48 = .ok (.getfield 49, 3) := by decide +kernel
theorem d_C_hangs_51 : decode m_C_hangs.2.1 51 = .ok (.invokevirtual 126, 3) := by decide +kernel
theorem d_C_hangs_54 : decode m_C_hangs.2.1 54 = .ok (.iload_n 3, 1) := by decide +kernel
theorem d_C_hangs_55 : decode m_C_hangs.2.1 55 = .ok (.invokestatic 144, 3) := by decide +kernel
theorem d_C_hangs_58 : decode m_C_hangs.2.1 58 = .ok (.ireturn, 1) := by decide +kernel
set_option maxHeartbeats 4000000 in
set_option maxRecDepth 20000 in
theorem c_C_hangs (G : Gt) (x1 : Int32) (x2 : Int32) (x3 : Int32) (h : Hp) : Cn G m_C_hangs [.ref (ad G 0), .int x1, .int x2, .int x3] h κi (f_C_hangs x1 x2 x3 h) := by
  refine entryV (by decide) (Nat.le_of_ble_eq_true rfl) rfl ?_
  show V G m_C_hangs 0 [(0, .ref (ad G 0)), (1, .int x1), (2, .int x2), (3, .int x3)] [] h κi _
  unfold f_C_hangs
  refine v_aload_n 0 d_C_hangs_0 rfl rfl ?_
  refine v_iload_n 1 d_C_hangs_1 rfl rfl ?_
  refine v_iload_n 2 d_C_hangs_2 rfl rfl ?_
  refine v_callVi (As := [.int x1, .int x2]) (rest := []) (c_C_canBeTold G x1 x2 h) co_C_122 io_C_canBeTold o_0 ⟨by decide, by decide⟩ rfl rfl (Nat.le_of_ble_eq_true rfl) d_C_hangs_3 (fun r1 h1 _ => ?_)
  refine v_if_eq 20 d_C_hangs_6 (by decide) (fun c2 => ?_) (fun c2 => ?_)
  · refine v_bipush (-2) d_C_hangs_20 rfl ?_
    exact v_iret rfl d_C_hangs_22
  · refine v_aload_n 0 d_C_hangs_9 rfl rfl ?_
    refine v_getr 3 fl_C_19 o_0 rfl rfl d_C_hangs_10 ?_
    refine v_iload_n 3 d_C_hangs_13 rfl rfl ?_
    refine v_callVi (As := [.int x3]) (rest := []) (c_Fr_has G 3 x3 o_3 h1) co_C_80 io_Fr_has o_3 ⟨by decide, by decide⟩ rfl rfl (Nat.le_of_ble_eq_true rfl) d_C_hangs_14 (fun r3 h3 _ => ?_)
    refine v_if_ne 23 d_C_hangs_17 (by decide) (fun c4 => ?_) (fun c4 => ?_)
    · refine v_bipush (-2) d_C_hangs_20 rfl ?_
      exact v_iret rfl d_C_hangs_22
    · refine v_aload_n 0 d_C_hangs_23 rfl rfl ?_
      refine v_iload_n 1 d_C_hangs_24 rfl rfl ?_
      refine v_callVi (As := [.int x1]) (rest := []) (c_C_isHidden G x1 h3) co_C_91 io_C_isHidden o_0 ⟨by decide, by decide⟩ rfl rfl (Nat.le_of_ble_eq_true rfl) d_C_hangs_25 (fun r5 h5 _ => ?_)
      refine v_if_eq 34 d_C_hangs_28 (by decide) (fun c6 => ?_) (fun c6 => ?_)
      · refine v_aload_n 0 d_C_hangs_34 rfl rfl ?_
        refine v_aload_n 0 d_C_hangs_35 rfl rfl ?_
        refine v_getr 9 fl_C_28 o_0 rfl rfl d_C_hangs_36 ?_
        refine v_iconst 0 d_C_hangs_39 rfl ?_
        refine v_aald2 15 rfl ar_9 d_C_hangs_40 (fun b7 => ?_)
        refine v_aload_n 0 d_C_hangs_41 rfl rfl ?_
        refine v_getr 3 fl_C_19 o_0 rfl rfl d_C_hangs_42 ?_
        refine v_iload_n 1 d_C_hangs_45 rfl rfl ?_
        refine v_iload_n 2 d_C_hangs_46 rfl rfl ?_
        refine v_aload_n 0 d_C_hangs_47 rfl rfl ?_
        refine v_geti fl_C_49 o_0 rfl d_C_hangs_48 ?_
        refine v_callVr (As := [.ref (ad G 15), .ref (ad G 3), .int x1, .int x2, .int (h5 0 7)]) (rest := []) (c_C_lay G 15 3 x1 x2 (h5 0 7) o_15 o_3 h5) co_C_126 io_C_lay o_0 ⟨by decide, by decide⟩ rfl rfl (Nat.le_of_ble_eq_true rfl) d_C_hangs_51 (fun r8 h8 z8 => ?_)
        have e8 := lay_isO o_15 z8
        refine v_iload_n 3 d_C_hangs_54 rfl rfl ?_
        refine v_callSi (As := [.ref (ad G r8), .int x3]) (rest := []) (c_C_neighbours G r8 x3 e8 h8) co_C_144 so_C_neighbours ⟨by decide, by decide⟩ rfl rfl (Nat.le_of_ble_eq_true rfl) d_C_hangs_55 (fun r9 h9 _ => ?_)
        exact v_iret rfl d_C_hangs_58
      · refine v_bipush (-3) d_C_hangs_31 rfl ?_
        exact v_iret rfl d_C_hangs_33
theorem d_C_pieces_0 : decode m_C_pieces.2.1 0 = .ok (.aload_n 0, 1) := by decide +kernel
theorem d_C_pieces_1 : decode m_C_pieces.2.1 1 = .ok (.iload_n 1, 1) := by decide +kernel
theorem d_C_pieces_2 : decode m_C_pieces.2.1 2 = .ok (.iload_n 2, 1) := by decide +kernel
theorem d_C_pieces_3 : decode m_C_pieces.2.1 3 = .ok (.invokevirtual 122, 3) := by decide +kernel
theorem d_C_pieces_6 : decode m_C_pieces.2.1 6 = .ok (.ifCond .eq 14, 3) := by decide +kernel
theorem d_C_pieces_9 : decode m_C_pieces.2.1 9 = .ok (.aload_n 0, 1) := by decide +kernel
theorem d_C_pieces_10 : decode m_C_pieces.2.1 10 = .ok (.getfield 19, 3) := by decide +kernel
theorem d_C_pieces_13 : decode m_C_pieces.2.1 13 = .ok (.iload_n 3, 1) := by decide +kernel
theorem d_C_pieces_14 : decode m_C_pieces.2.1 14 = .ok (.invokevirtual 80, 3) := by decide +kernel
theorem d_C_pieces_17 : decode m_C_pieces.2.1 17 = .ok (.ifCond .ne 6, 3) := by decide +kernel
theorem d_C_pieces_20 : decode m_C_pieces.2.1 20 = .ok (.bipush (-2), 2) := by decide +kernel
theorem d_C_pieces_22 : decode m_C_pieces.2.1 22 = .ok (.ireturn, 1) := by decide +kernel
theorem d_C_pieces_23 : decode m_C_pieces.2.1 23 = .ok (.aload_n 0, 1) := by decide +kernel
theorem d_C_pieces_24 : decode m_C_pieces.2.1 24 = .ok (.iload_n 1, 1) := by decide +kernel
theorem d_C_pieces_25 : decode m_C_pieces.2.1 25 = .ok (.invokevirtual 91, 3) := by decide +kernel
theorem d_C_pieces_28 : decode m_C_pieces.2.1 28 = .ok (.ifCond .eq 6, 3) := by decide +kernel
theorem d_C_pieces_31 : decode m_C_pieces.2.1 31 = .ok (.bipush (-3), 2) := by decide +kernel
theorem d_C_pieces_33 : decode m_C_pieces.2.1 33 = .ok (.ireturn, 1) := by decide +kernel
theorem d_C_pieces_34 : decode m_C_pieces.2.1 34 = .ok (.aload_n 0, 1) := by decide +kernel
theorem d_C_pieces_35 : decode m_C_pieces.2.1 35 = .ok (.aload_n 0, 1) := by decide +kernel
theorem d_C_pieces_36 : decode m_C_pieces.2.1 36 = .ok (.getfield 28, 3) := by decide +kernel
theorem d_C_pieces_39 : decode m_C_pieces.2.1 39 = .ok (.iconst 0, 1) := by decide +kernel
theorem d_C_pieces_40 : decode m_C_pieces.2.1 40 = .ok (.aaload, 1) := by decide +kernel
theorem d_C_pieces_41 : decode m_C_pieces.2.1 41 = .ok (.aload_n 0, 1) := by decide +kernel
theorem d_C_pieces_42 : decode m_C_pieces.2.1 42 = .ok (.getfield 19, 3) := by decide +kernel
theorem d_C_pieces_45 : decode m_C_pieces.2.1 45 = .ok (.iload_n 1, 1) := by decide +kernel
theorem d_C_pieces_46 : decode m_C_pieces.2.1 46 = .ok (.iload_n 2, 1) := by decide +kernel
theorem d_C_pieces_47 : decode m_C_pieces.2.1 47 = .ok (.aload_n 0, 1) := by decide +kernel
theorem d_C_pieces_48 : decode m_C_pieces.2.1 48 = .ok (.getfield 49, 3) := by decide +kernel
theorem d_C_pieces_51 : decode m_C_pieces.2.1 51 = .ok (.invokevirtual 126, 3) := by decide +kernel
theorem d_C_pieces_54 : decode m_C_pieces.2.1 54 = .ok (.astore 4, 2) := by decide +kernel
theorem d_C_pieces_56 : decode m_C_pieces.2.1 56 = .ok (.aload 4, 2) := by decide +kernel
theorem d_C_pieces_58 : decode m_C_pieces.2.1 58 = .ok (.iload_n 3, 1) := by decide +kernel
theorem d_C_pieces_59 : decode m_C_pieces.2.1 59 = .ok (.invokevirtual 148, 3) := by decide +kernel
theorem d_C_pieces_62 : decode m_C_pieces.2.1 62 = .ok (.iconst (-1), 1) := by decide +kernel
theorem d_C_pieces_63 : decode m_C_pieces.2.1 63 = .ok (.if_icmp .ne 7, 3) := by decide +kernel
theorem d_C_pieces_66 : decode m_C_pieces.2.1 66 = .ok (.iconst 1, 1) := by decide +kernel
theorem d_C_pieces_67 : decode m_C_pieces.2.1 67 = .ok (.goto 9, 3) := by decide +kernel
theorem d_C_pieces_70 : decode m_C_pieces.2.1 70 = .ok (.aload 4, 2) := by decide +kernel
theorem d_C_pieces_72 : decode m_C_pieces.2.1 72 = .ok (.iload_n 3, 1) := by decide +kernel
theorem d_C_pieces_73 : decode m_C_pieces.2.1 73 = .ok (.invokestatic 144, 3) := by decide +kernel
theorem d_C_pieces_76 : decode m_C_pieces.2.1 76 = .ok (.ireturn, 1) := by decide +kernel
set_option maxHeartbeats 4000000 in
set_option maxRecDepth 20000 in
theorem c_C_pieces (G : Gt) (x1 : Int32) (x2 : Int32) (x3 : Int32) (h : Hp) : Cn G m_C_pieces [.ref (ad G 0), .int x1, .int x2, .int x3] h κi (f_C_pieces x1 x2 x3 h) := by
  refine entryV (by decide) (Nat.le_of_ble_eq_true rfl) rfl ?_
  show V G m_C_pieces 0 [(0, .ref (ad G 0)), (1, .int x1), (2, .int x2), (3, .int x3)] [] h κi _
  unfold f_C_pieces
  refine v_aload_n 0 d_C_pieces_0 rfl rfl ?_
  refine v_iload_n 1 d_C_pieces_1 rfl rfl ?_
  refine v_iload_n 2 d_C_pieces_2 rfl rfl ?_
  refine v_callVi (As := [.int x1, .int x2]) (rest := []) (c_C_canBeTold G x1 x2 h) co_C_122 io_C_canBeTold o_0 ⟨by decide, by decide⟩ rfl rfl (Nat.le_of_ble_eq_true rfl) d_C_pieces_3 (fun r1 h1 _ => ?_)
  refine v_if_eq 20 d_C_pieces_6 (by decide) (fun c2 => ?_) (fun c2 => ?_)
  · refine v_bipush (-2) d_C_pieces_20 rfl ?_
    exact v_iret rfl d_C_pieces_22
  · refine v_aload_n 0 d_C_pieces_9 rfl rfl ?_
    refine v_getr 3 fl_C_19 o_0 rfl rfl d_C_pieces_10 ?_
    refine v_iload_n 3 d_C_pieces_13 rfl rfl ?_
    refine v_callVi (As := [.int x3]) (rest := []) (c_Fr_has G 3 x3 o_3 h1) co_C_80 io_Fr_has o_3 ⟨by decide, by decide⟩ rfl rfl (Nat.le_of_ble_eq_true rfl) d_C_pieces_14 (fun r3 h3 _ => ?_)
    refine v_if_ne 23 d_C_pieces_17 (by decide) (fun c4 => ?_) (fun c4 => ?_)
    · refine v_bipush (-2) d_C_pieces_20 rfl ?_
      exact v_iret rfl d_C_pieces_22
    · refine v_aload_n 0 d_C_pieces_23 rfl rfl ?_
      refine v_iload_n 1 d_C_pieces_24 rfl rfl ?_
      refine v_callVi (As := [.int x1]) (rest := []) (c_C_isHidden G x1 h3) co_C_91 io_C_isHidden o_0 ⟨by decide, by decide⟩ rfl rfl (Nat.le_of_ble_eq_true rfl) d_C_pieces_25 (fun r5 h5 _ => ?_)
      refine v_if_eq 34 d_C_pieces_28 (by decide) (fun c6 => ?_) (fun c6 => ?_)
      · refine v_aload_n 0 d_C_pieces_34 rfl rfl ?_
        refine v_aload_n 0 d_C_pieces_35 rfl rfl ?_
        refine v_getr 9 fl_C_28 o_0 rfl rfl d_C_pieces_36 ?_
        refine v_iconst 0 d_C_pieces_39 rfl ?_
        refine v_aald2 15 rfl ar_9 d_C_pieces_40 (fun b7 => ?_)
        refine v_aload_n 0 d_C_pieces_41 rfl rfl ?_
        refine v_getr 3 fl_C_19 o_0 rfl rfl d_C_pieces_42 ?_
        refine v_iload_n 1 d_C_pieces_45 rfl rfl ?_
        refine v_iload_n 2 d_C_pieces_46 rfl rfl ?_
        refine v_aload_n 0 d_C_pieces_47 rfl rfl ?_
        refine v_geti fl_C_49 o_0 rfl d_C_pieces_48 ?_
        refine v_callVr (As := [.ref (ad G 15), .ref (ad G 3), .int x1, .int x2, .int (h5 0 7)]) (rest := []) (c_C_lay G 15 3 x1 x2 (h5 0 7) o_15 o_3 h5) co_C_126 io_C_lay o_0 ⟨by decide, by decide⟩ rfl rfl (Nat.le_of_ble_eq_true rfl) d_C_pieces_51 (fun r8 h8 z8 => ?_)
        have e8 := lay_isO o_15 z8
        refine v_astore [(4, .ref (ad G r8)), (0, .ref (ad G 0)), (1, .int x1), (2, .int x2), (3, .int x3)] d_C_pieces_54 (by decide) rfl ?_
        refine v_aload 0 d_C_pieces_56 rfl ?_
        refine v_iload_n 4 d_C_pieces_58 rfl rfl ?_
        refine v_callVi (As := [.int x3]) (rest := []) (c_Sp_placeOf G r8 x3 e8 h8) co_C_148 io_Sp_placeOf e8 ⟨by decide, by decide⟩ rfl rfl (Nat.le_of_ble_eq_true rfl) d_C_pieces_59 (fun r9 h9 _ => ?_)
        refine v_iconst (-1) d_C_pieces_62 rfl ?_
        refine v_icmp_ne 70 d_C_pieces_63 (by decide) (fun c10 => ?_) (fun c10 => ?_)
        · refine v_iconst 1 d_C_pieces_66 rfl ?_
          refine v_goto 76 d_C_pieces_67 (by decide) ?_
          exact v_iret rfl d_C_pieces_76
        · refine v_aload 0 d_C_pieces_70 rfl ?_
          refine v_iload_n 4 d_C_pieces_72 rfl rfl ?_
          refine v_callSi (As := [.ref (ad G r8), .int x3]) (rest := []) (c_C_neighbours G r8 x3 e8 h9) co_C_144 so_C_neighbours ⟨by decide, by decide⟩ rfl rfl (Nat.le_of_ble_eq_true rfl) d_C_pieces_73 (fun r11 h11 _ => ?_)
          exact v_iret rfl d_C_pieces_76
      · refine v_bipush (-3) d_C_pieces_31 rfl ?_
        exact v_iret rfl d_C_pieces_33
end
section
theorem i_vc : Claimed_1_1 ∧ Claimed_1_2 := sorry
end
