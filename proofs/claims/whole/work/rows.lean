section
-- ===== PART A: goes FIRST, ahead of the names: the tables' words, and 'selects' of the private methods out of them =====
/-- a private method of a class that the tables say can be made, by its rows of tables_1 -/
def lw_okq (q : MethodName × Nat) : Prop := (q.1.cls ≠ "java/lang/invoke/MethodHandle" ∧ q.1.cls ≠ "java/lang/invoke/VarHandle") ∧ Cond.instantiable q.1.cls q.2 ∈ tables_1 ∧ Cond.privateMethod q.1 ∈ tables_1 ∧ Cond.instanceMethod q.1 ∈ tables_1
theorem lw_p0 : lw_okq (⟨"CrystalCuts$Planes", "becomeBox", "()V"⟩, 5) := ⟨⟨by decide +kernel, by decide +kernel⟩, List.mem_of_getElem? (i := 22) (by decide +kernel), List.mem_of_getElem? (i := 229) (by decide +kernel), List.mem_of_getElem? (i := 230) (by decide +kernel)⟩
theorem lw_p1 : lw_okq (⟨"CrystalCuts$Planes", "put", "(IIII)V"⟩, 5) := ⟨⟨by decide +kernel, by decide +kernel⟩, List.mem_of_getElem? (i := 22) (by decide +kernel), List.mem_of_getElem? (i := 233) (by decide +kernel), List.mem_of_getElem? (i := 234) (by decide +kernel)⟩
theorem lw_p2 : lw_okq (⟨"CrystalCuts", "refuseBad", "(I)I"⟩, 16) := ⟨⟨by decide +kernel, by decide +kernel⟩, List.mem_of_getElem? (i := 14) (by decide +kernel), List.mem_of_getElem? (i := 299) (by decide +kernel), List.mem_of_getElem? (i := 300) (by decide +kernel)⟩
theorem lw_p3 : lw_okq (⟨"CrystalCuts", "refuseFull", "()I"⟩, 16) := ⟨⟨by decide +kernel, by decide +kernel⟩, List.mem_of_getElem? (i := 14) (by decide +kernel), List.mem_of_getElem? (i := 303) (by decide +kernel), List.mem_of_getElem? (i := 304) (by decide +kernel)⟩
theorem lw_p4 : lw_okq (⟨"CrystalCuts", "leaveState", "()V"⟩, 16) := ⟨⟨by decide +kernel, by decide +kernel⟩, List.mem_of_getElem? (i := 14) (by decide +kernel), List.mem_of_getElem? (i := 307) (by decide +kernel), List.mem_of_getElem? (i := 308) (by decide +kernel)⟩
theorem lw_p5 : lw_okq (⟨"CrystalCuts$States", "keep", "(LCrystalCuts$Planes;)V"⟩, 3) := ⟨⟨by decide +kernel, by decide +kernel⟩, List.mem_of_getElem? (i := 61) (by decide +kernel), List.mem_of_getElem? (i := 311) (by decide +kernel), List.mem_of_getElem? (i := 312) (by decide +kernel)⟩
theorem lw_p6 : lw_okq (⟨"CrystalCuts$Planes", "copyFrom", "(LCrystalCuts$Planes;)V"⟩, 5) := ⟨⟨by decide +kernel, by decide +kernel⟩, List.mem_of_getElem? (i := 22) (by decide +kernel), List.mem_of_getElem? (i := 315) (by decide +kernel), List.mem_of_getElem? (i := 316) (by decide +kernel)⟩
theorem lw_p7 : lw_okq (⟨"CrystalCuts", "forgetCrystal", "()V"⟩, 16) := ⟨⟨by decide +kernel, by decide +kernel⟩, List.mem_of_getElem? (i := 14) (by decide +kernel), List.mem_of_getElem? (i := 325) (by decide +kernel), List.mem_of_getElem? (i := 326) (by decide +kernel)⟩
theorem lw_p8 : lw_okq (⟨"CrystalCuts$Family", "gather", "(IIII)V"⟩, 3) := ⟨⟨by decide +kernel, by decide +kernel⟩, List.mem_of_getElem? (i := 170) (by decide +kernel), List.mem_of_getElem? (i := 337) (by decide +kernel), List.mem_of_getElem? (i := 338) (by decide +kernel)⟩
theorem lw_p9 : lw_okq (⟨"CrystalCuts$Family", "note", "(III)V"⟩, 3) := ⟨⟨by decide +kernel, by decide +kernel⟩, List.mem_of_getElem? (i := 170) (by decide +kernel), List.mem_of_getElem? (i := 344) (by decide +kernel), List.mem_of_getElem? (i := 345) (by decide +kernel)⟩
theorem lw_p10 : lw_okq (⟨"CrystalCuts$Family", "noteTurned", "(II)V"⟩, 3) := ⟨⟨by decide +kernel, by decide +kernel⟩, List.mem_of_getElem? (i := 170) (by decide +kernel), List.mem_of_getElem? (i := 348) (by decide +kernel), List.mem_of_getElem? (i := 349) (by decide +kernel)⟩
theorem lw_p11 : lw_okq (⟨"CrystalCuts$Family", "putInOrder", "()V"⟩, 3) := ⟨⟨by decide +kernel, by decide +kernel⟩, List.mem_of_getElem? (i := 170) (by decide +kernel), List.mem_of_getElem? (i := 359) (by decide +kernel), List.mem_of_getElem? (i := 360) (by decide +kernel)⟩
theorem lw_p12 : lw_okq (⟨"CrystalCuts$Planes", "putFamily", "(LCrystalCuts$Family;I)V"⟩, 5) := ⟨⟨by decide +kernel, by decide +kernel⟩, List.mem_of_getElem? (i := 22) (by decide +kernel), List.mem_of_getElem? (i := 363) (by decide +kernel), List.mem_of_getElem? (i := 364) (by decide +kernel)⟩
theorem lw_p13 : lw_okq (⟨"CrystalCuts", "isPlane", "(I)Z"⟩, 16) := ⟨⟨by decide +kernel, by decide +kernel⟩, List.mem_of_getElem? (i := 14) (by decide +kernel), List.mem_of_getElem? (i := 371) (by decide +kernel), List.mem_of_getElem? (i := 372) (by decide +kernel)⟩
theorem lw_p14 : lw_okq (⟨"CrystalCuts$Planes", "takeOut", "(I)V"⟩, 5) := ⟨⟨by decide +kernel, by decide +kernel⟩, List.mem_of_getElem? (i := 22) (by decide +kernel), List.mem_of_getElem? (i := 379) (by decide +kernel), List.mem_of_getElem? (i := 380) (by decide +kernel)⟩
theorem lw_p15 : lw_okq (⟨"CrystalCuts", "putDrawn", "(J)V"⟩, 16) := ⟨⟨by decide +kernel, by decide +kernel⟩, List.mem_of_getElem? (i := 14) (by decide +kernel), List.mem_of_getElem? (i := 395) (by decide +kernel), List.mem_of_getElem? (i := 396) (by decide +kernel)⟩
def lw_privs_1 : List (MethodName × Nat) := [(⟨"CrystalCuts$Planes", "becomeBox", "()V"⟩, 5), (⟨"CrystalCuts$Planes", "put", "(IIII)V"⟩, 5), (⟨"CrystalCuts", "refuseBad", "(I)I"⟩, 16), (⟨"CrystalCuts", "refuseFull", "()I"⟩, 16), (⟨"CrystalCuts", "leaveState", "()V"⟩, 16), (⟨"CrystalCuts$States", "keep", "(LCrystalCuts$Planes;)V"⟩, 3), (⟨"CrystalCuts$Planes", "copyFrom", "(LCrystalCuts$Planes;)V"⟩, 5), (⟨"CrystalCuts", "forgetCrystal", "()V"⟩, 16), (⟨"CrystalCuts$Family", "gather", "(IIII)V"⟩, 3), (⟨"CrystalCuts$Family", "note", "(III)V"⟩, 3), (⟨"CrystalCuts$Family", "noteTurned", "(II)V"⟩, 3), (⟨"CrystalCuts$Family", "putInOrder", "()V"⟩, 3), (⟨"CrystalCuts$Planes", "putFamily", "(LCrystalCuts$Family;I)V"⟩, 5), (⟨"CrystalCuts", "isPlane", "(I)Z"⟩, 16), (⟨"CrystalCuts$Planes", "takeOut", "(I)V"⟩, 5), (⟨"CrystalCuts", "putDrawn", "(J)V"⟩, 16)]
theorem lw_r1 : ∀ q ∈ lw_privs_1, lw_okq q := List.forall_mem_cons.mpr ⟨lw_p0, List.forall_mem_cons.mpr ⟨lw_p1, List.forall_mem_cons.mpr ⟨lw_p2, List.forall_mem_cons.mpr ⟨lw_p3, List.forall_mem_cons.mpr ⟨lw_p4, List.forall_mem_cons.mpr ⟨lw_p5, List.forall_mem_cons.mpr ⟨lw_p6, List.forall_mem_cons.mpr ⟨lw_p7, List.forall_mem_cons.mpr ⟨lw_p8, List.forall_mem_cons.mpr ⟨lw_p9, List.forall_mem_cons.mpr ⟨lw_p10, List.forall_mem_cons.mpr ⟨lw_p11, List.forall_mem_cons.mpr ⟨lw_p12, List.forall_mem_cons.mpr ⟨lw_p13, List.forall_mem_cons.mpr ⟨lw_p14, List.forall_mem_cons.mpr ⟨lw_p15, fun _ h => absurd h List.not_mem_nil⟩⟩⟩⟩⟩⟩⟩⟩⟩⟩⟩⟩⟩⟩⟩⟩
theorem lw_p16 : lw_okq (⟨"CrystalCuts", "crystal", "()LCrystalCuts$Solid;"⟩, 16) := ⟨⟨by decide +kernel, by decide +kernel⟩, List.mem_of_getElem? (i := 14) (by decide +kernel), List.mem_of_getElem? (i := 405) (by decide +kernel), List.mem_of_getElem? (i := 406) (by decide +kernel)⟩
theorem lw_p17 : lw_okq (⟨"CrystalCuts$Solid", "cut", "(LCrystalCuts$Planes;I)V"⟩, 9) := ⟨⟨by decide +kernel, by decide +kernel⟩, List.mem_of_getElem? (i := 81) (by decide +kernel), List.mem_of_getElem? (i := 409) (by decide +kernel), List.mem_of_getElem? (i := 410) (by decide +kernel)⟩
theorem lw_p18 : lw_okq (⟨"CrystalCuts$Line", "lay", "(LCrystalCuts$Planes;II)Z"⟩, 11) := ⟨⟨by decide +kernel, by decide +kernel⟩, List.mem_of_getElem? (i := 87) (by decide +kernel), List.mem_of_getElem? (i := 413) (by decide +kernel), List.mem_of_getElem? (i := 414) (by decide +kernel)⟩
theorem lw_p19 : lw_okq (⟨"CrystalCuts$Line", "isLeftBy", "(LCrystalCuts$Planes;I)Z"⟩, 11) := ⟨⟨by decide +kernel, by decide +kernel⟩, List.mem_of_getElem? (i := 87) (by decide +kernel), List.mem_of_getElem? (i := 417) (by decide +kernel), List.mem_of_getElem? (i := 418) (by decide +kernel)⟩
theorem lw_p20 : lw_okq (⟨"CrystalCuts$Line", "isLeftBehind", "(LCrystalCuts$Planes;I)Z"⟩, 11) := ⟨⟨by decide +kernel, by decide +kernel⟩, List.mem_of_getElem? (i := 87) (by decide +kernel), List.mem_of_getElem? (i := 421) (by decide +kernel), List.mem_of_getElem? (i := 422) (by decide +kernel)⟩
theorem lw_p21 : lw_okq (⟨"CrystalCuts$Solid", "keepPoint", "(II)V"⟩, 9) := ⟨⟨by decide +kernel, by decide +kernel⟩, List.mem_of_getElem? (i := 81) (by decide +kernel), List.mem_of_getElem? (i := 425) (by decide +kernel), List.mem_of_getElem? (i := 426) (by decide +kernel)⟩
theorem lw_p22 : lw_okq (⟨"CrystalCuts$Solid", "placeOf", "(IIII)I"⟩, 9) := ⟨⟨by decide +kernel, by decide +kernel⟩, List.mem_of_getElem? (i := 81) (by decide +kernel), List.mem_of_getElem? (i := 435) (by decide +kernel), List.mem_of_getElem? (i := 436) (by decide +kernel)⟩
theorem lw_p23 : lw_okq (⟨"CrystalCuts$Solid", "order", "(IIIII)I"⟩, 9) := ⟨⟨by decide +kernel, by decide +kernel⟩, List.mem_of_getElem? (i := 81) (by decide +kernel), List.mem_of_getElem? (i := 439) (by decide +kernel), List.mem_of_getElem? (i := 440) (by decide +kernel)⟩
theorem lw_p24 : lw_okq (⟨"CrystalCuts$Solid", "putCorner", "(IIIII)V"⟩, 9) := ⟨⟨by decide +kernel, by decide +kernel⟩, List.mem_of_getElem? (i := 81) (by decide +kernel), List.mem_of_getElem? (i := 443) (by decide +kernel), List.mem_of_getElem? (i := 444) (by decide +kernel)⟩
theorem lw_p25 : lw_okq (⟨"CrystalCuts$Solid", "look", "(LCrystalCuts$Planes;)V"⟩, 9) := ⟨⟨by decide +kernel, by decide +kernel⟩, List.mem_of_getElem? (i := 81) (by decide +kernel), List.mem_of_getElem? (i := 447) (by decide +kernel), List.mem_of_getElem? (i := 448) (by decide +kernel)⟩
theorem lw_p26 : lw_okq (⟨"CrystalCuts$Solid", "markCornersOn", "(LCrystalCuts$Planes;I)I"⟩, 9) := ⟨⟨by decide +kernel, by decide +kernel⟩, List.mem_of_getElem? (i := 81) (by decide +kernel), List.mem_of_getElem? (i := 454) (by decide +kernel), List.mem_of_getElem? (i := 455) (by decide +kernel)⟩
theorem lw_p27 : lw_okq (⟨"CrystalCuts$Solid", "along", "(IIII)I"⟩, 9) := ⟨⟨by decide +kernel, by decide +kernel⟩, List.mem_of_getElem? (i := 81) (by decide +kernel), List.mem_of_getElem? (i := 458) (by decide +kernel), List.mem_of_getElem? (i := 459) (by decide +kernel)⟩
theorem lw_p28 : lw_okq (⟨"CrystalCuts$Planes", "hasEarlierTwin", "(I)Z"⟩, 5) := ⟨⟨by decide +kernel, by decide +kernel⟩, List.mem_of_getElem? (i := 22) (by decide +kernel), List.mem_of_getElem? (i := 462) (by decide +kernel), List.mem_of_getElem? (i := 463) (by decide +kernel)⟩
theorem lw_p29 : lw_okq (⟨"CrystalCuts$Planes", "areSame", "(II)Z"⟩, 5) := ⟨⟨by decide +kernel, by decide +kernel⟩, List.mem_of_getElem? (i := 22) (by decide +kernel), List.mem_of_getElem? (i := 466) (by decide +kernel), List.mem_of_getElem? (i := 467) (by decide +kernel)⟩
theorem lw_p30 : lw_okq (⟨"CrystalCuts", "ofPlane", "(II)I"⟩, 16) := ⟨⟨by decide +kernel, by decide +kernel⟩, List.mem_of_getElem? (i := 14) (by decide +kernel), List.mem_of_getElem? (i := 474) (by decide +kernel), List.mem_of_getElem? (i := 475) (by decide +kernel)⟩
theorem lw_p31 : lw_okq (⟨"CrystalCuts$Solid", "isShown", "(I)Z"⟩, 9) := ⟨⟨by decide +kernel, by decide +kernel⟩, List.mem_of_getElem? (i := 81) (by decide +kernel), List.mem_of_getElem? (i := 478) (by decide +kernel), List.mem_of_getElem? (i := 479) (by decide +kernel)⟩
def lw_privs_2 : List (MethodName × Nat) := [(⟨"CrystalCuts", "crystal", "()LCrystalCuts$Solid;"⟩, 16), (⟨"CrystalCuts$Solid", "cut", "(LCrystalCuts$Planes;I)V"⟩, 9), (⟨"CrystalCuts$Line", "lay", "(LCrystalCuts$Planes;II)Z"⟩, 11), (⟨"CrystalCuts$Line", "isLeftBy", "(LCrystalCuts$Planes;I)Z"⟩, 11), (⟨"CrystalCuts$Line", "isLeftBehind", "(LCrystalCuts$Planes;I)Z"⟩, 11), (⟨"CrystalCuts$Solid", "keepPoint", "(II)V"⟩, 9), (⟨"CrystalCuts$Solid", "placeOf", "(IIII)I"⟩, 9), (⟨"CrystalCuts$Solid", "order", "(IIIII)I"⟩, 9), (⟨"CrystalCuts$Solid", "putCorner", "(IIIII)V"⟩, 9), (⟨"CrystalCuts$Solid", "look", "(LCrystalCuts$Planes;)V"⟩, 9), (⟨"CrystalCuts$Solid", "markCornersOn", "(LCrystalCuts$Planes;I)I"⟩, 9), (⟨"CrystalCuts$Solid", "along", "(IIII)I"⟩, 9), (⟨"CrystalCuts$Planes", "hasEarlierTwin", "(I)Z"⟩, 5), (⟨"CrystalCuts$Planes", "areSame", "(II)Z"⟩, 5), (⟨"CrystalCuts", "ofPlane", "(II)I"⟩, 16), (⟨"CrystalCuts$Solid", "isShown", "(I)Z"⟩, 9)]
theorem lw_r2 : ∀ q ∈ lw_privs_2, lw_okq q := List.forall_mem_cons.mpr ⟨lw_p16, List.forall_mem_cons.mpr ⟨lw_p17, List.forall_mem_cons.mpr ⟨lw_p18, List.forall_mem_cons.mpr ⟨lw_p19, List.forall_mem_cons.mpr ⟨lw_p20, List.forall_mem_cons.mpr ⟨lw_p21, List.forall_mem_cons.mpr ⟨lw_p22, List.forall_mem_cons.mpr ⟨lw_p23, List.forall_mem_cons.mpr ⟨lw_p24, List.forall_mem_cons.mpr ⟨lw_p25, List.forall_mem_cons.mpr ⟨lw_p26, List.forall_mem_cons.mpr ⟨lw_p27, List.forall_mem_cons.mpr ⟨lw_p28, List.forall_mem_cons.mpr ⟨lw_p29, List.forall_mem_cons.mpr ⟨lw_p30, List.forall_mem_cons.mpr ⟨lw_p31, fun _ h => absurd h List.not_mem_nil⟩⟩⟩⟩⟩⟩⟩⟩⟩⟩⟩⟩⟩⟩⟩⟩
theorem lw_p32 : lw_okq (⟨"CrystalCuts$Solid", "edgesOn", "(I)I"⟩, 9) := ⟨⟨by decide +kernel, by decide +kernel⟩, List.mem_of_getElem? (i := 81) (by decide +kernel), List.mem_of_getElem? (i := 482) (by decide +kernel), List.mem_of_getElem? (i := 483) (by decide +kernel)⟩
theorem lw_p33 : lw_okq (⟨"CrystalCuts$Solid", "showing", "()I"⟩, 9) := ⟨⟨by decide +kernel, by decide +kernel⟩, List.mem_of_getElem? (i := 81) (by decide +kernel), List.mem_of_getElem? (i := 495) (by decide +kernel), List.mem_of_getElem? (i := 496) (by decide +kernel)⟩
theorem lw_p34 : lw_okq (⟨"CrystalCuts$Solid", "edges", "()I"⟩, 9) := ⟨⟨by decide +kernel, by decide +kernel⟩, List.mem_of_getElem? (i := 81) (by decide +kernel), List.mem_of_getElem? (i := 505) (by decide +kernel), List.mem_of_getElem? (i := 506) (by decide +kernel)⟩
theorem lw_p35 : lw_okq (⟨"CrystalCuts$Solid", "mostCornersOnPlane", "(I)I"⟩, 9) := ⟨⟨by decide +kernel, by decide +kernel⟩, List.mem_of_getElem? (i := 81) (by decide +kernel), List.mem_of_getElem? (i := 510) (by decide +kernel), List.mem_of_getElem? (i := 511) (by decide +kernel)⟩
theorem lw_p36 : lw_okq (⟨"CrystalCuts$Solid", "mostPlanesOnCorner", "()I"⟩, 9) := ⟨⟨by decide +kernel, by decide +kernel⟩, List.mem_of_getElem? (i := 81) (by decide +kernel), List.mem_of_getElem? (i := 517) (by decide +kernel), List.mem_of_getElem? (i := 518) (by decide +kernel)⟩
theorem lw_p37 : lw_okq (⟨"CrystalCuts", "refuseNo", "()I"⟩, 16) := ⟨⟨by decide +kernel, by decide +kernel⟩, List.mem_of_getElem? (i := 14) (by decide +kernel), List.mem_of_getElem? (i := 525) (by decide +kernel), List.mem_of_getElem? (i := 526) (by decide +kernel)⟩
theorem lw_p38 : lw_okq (⟨"CrystalCuts$Solid", "coordinate", "(II)I"⟩, 9) := ⟨⟨by decide +kernel, by decide +kernel⟩, List.mem_of_getElem? (i := 81) (by decide +kernel), List.mem_of_getElem? (i := 529) (by decide +kernel), List.mem_of_getElem? (i := 530) (by decide +kernel)⟩
theorem lw_p39 : lw_okq (⟨"CrystalCuts", "setFraction", "(II)V"⟩, 16) := ⟨⟨by decide +kernel, by decide +kernel⟩, List.mem_of_getElem? (i := 14) (by decide +kernel), List.mem_of_getElem? (i := 533) (by decide +kernel), List.mem_of_getElem? (i := 534) (by decide +kernel)⟩
theorem lw_p40 : lw_okq (⟨"CrystalCuts$Solid", "cornersOnBoth", "(II)I"⟩, 9) := ⟨⟨by decide +kernel, by decide +kernel⟩, List.mem_of_getElem? (i := 81) (by decide +kernel), List.mem_of_getElem? (i := 552) (by decide +kernel), List.mem_of_getElem? (i := 553) (by decide +kernel)⟩
theorem lw_p41 : lw_okq (⟨"CrystalCuts$Planes", "wayBetween", "(III)I"⟩, 5) := ⟨⟨by decide +kernel, by decide +kernel⟩, List.mem_of_getElem? (i := 22) (by decide +kernel), List.mem_of_getElem? (i := 556) (by decide +kernel), List.mem_of_getElem? (i := 557) (by decide +kernel)⟩
theorem lw_p42 : lw_okq (⟨"CrystalCuts$Solid", "farthest", "(III)I"⟩, 9) := ⟨⟨by decide +kernel, by decide +kernel⟩, List.mem_of_getElem? (i := 81) (by decide +kernel), List.mem_of_getElem? (i := 565) (by decide +kernel), List.mem_of_getElem? (i := 566) (by decide +kernel)⟩
theorem lw_p43 : lw_okq (⟨"CrystalCuts$Solid", "cornersAt", "(IIII)I"⟩, 9) := ⟨⟨by decide +kernel, by decide +kernel⟩, List.mem_of_getElem? (i := 81) (by decide +kernel), List.mem_of_getElem? (i := 570) (by decide +kernel), List.mem_of_getElem? (i := 571) (by decide +kernel)⟩
theorem lw_p44 : lw_okq (⟨"CrystalCuts$Solid", "isKeptBy", "(I)Z"⟩, 9) := ⟨⟨by decide +kernel, by decide +kernel⟩, List.mem_of_getElem? (i := 81) (by decide +kernel), List.mem_of_getElem? (i := 578) (by decide +kernel), List.mem_of_getElem? (i := 579) (by decide +kernel)⟩
theorem lw_p45 : lw_okq (⟨"CrystalCuts", "findSpare", "()V"⟩, 16) := ⟨⟨by decide +kernel, by decide +kernel⟩, List.mem_of_getElem? (i := 14) (by decide +kernel), List.mem_of_getElem? (i := 602) (by decide +kernel), List.mem_of_getElem? (i := 603) (by decide +kernel)⟩
theorem lw_p46 : lw_okq (⟨"CrystalCuts", "cornersWithout", "(ILCrystalCuts$Solid;)I"⟩, 16) := ⟨⟨by decide +kernel, by decide +kernel⟩, List.mem_of_getElem? (i := 14) (by decide +kernel), List.mem_of_getElem? (i := 606) (by decide +kernel), List.mem_of_getElem? (i := 607) (by decide +kernel)⟩
theorem lw_p47 : lw_okq (⟨"CrystalCuts$Reader", "readAll", "(LCrystalCuts$Planes;LCrystalCuts$Family;)Z"⟩, 9) := ⟨⟨by decide +kernel, by decide +kernel⟩, List.mem_of_getElem? (i := 192) (by decide +kernel), List.mem_of_getElem? (i := 623) (by decide +kernel), List.mem_of_getElem? (i := 624) (by decide +kernel)⟩
def lw_privs_3 : List (MethodName × Nat) := [(⟨"CrystalCuts$Solid", "edgesOn", "(I)I"⟩, 9), (⟨"CrystalCuts$Solid", "showing", "()I"⟩, 9), (⟨"CrystalCuts$Solid", "edges", "()I"⟩, 9), (⟨"CrystalCuts$Solid", "mostCornersOnPlane", "(I)I"⟩, 9), (⟨"CrystalCuts$Solid", "mostPlanesOnCorner", "()I"⟩, 9), (⟨"CrystalCuts", "refuseNo", "()I"⟩, 16), (⟨"CrystalCuts$Solid", "coordinate", "(II)I"⟩, 9), (⟨"CrystalCuts", "setFraction", "(II)V"⟩, 16), (⟨"CrystalCuts$Solid", "cornersOnBoth", "(II)I"⟩, 9), (⟨"CrystalCuts$Planes", "wayBetween", "(III)I"⟩, 5), (⟨"CrystalCuts$Solid", "farthest", "(III)I"⟩, 9), (⟨"CrystalCuts$Solid", "cornersAt", "(IIII)I"⟩, 9), (⟨"CrystalCuts$Solid", "isKeptBy", "(I)Z"⟩, 9), (⟨"CrystalCuts", "findSpare", "()V"⟩, 16), (⟨"CrystalCuts", "cornersWithout", "(ILCrystalCuts$Solid;)I"⟩, 16), (⟨"CrystalCuts$Reader", "readAll", "(LCrystalCuts$Planes;LCrystalCuts$Family;)Z"⟩, 9)]
theorem lw_r3 : ∀ q ∈ lw_privs_3, lw_okq q := List.forall_mem_cons.mpr ⟨lw_p32, List.forall_mem_cons.mpr ⟨lw_p33, List.forall_mem_cons.mpr ⟨lw_p34, List.forall_mem_cons.mpr ⟨lw_p35, List.forall_mem_cons.mpr ⟨lw_p36, List.forall_mem_cons.mpr ⟨lw_p37, List.forall_mem_cons.mpr ⟨lw_p38, List.forall_mem_cons.mpr ⟨lw_p39, List.forall_mem_cons.mpr ⟨lw_p40, List.forall_mem_cons.mpr ⟨lw_p41, List.forall_mem_cons.mpr ⟨lw_p42, List.forall_mem_cons.mpr ⟨lw_p43, List.forall_mem_cons.mpr ⟨lw_p44, List.forall_mem_cons.mpr ⟨lw_p45, List.forall_mem_cons.mpr ⟨lw_p46, List.forall_mem_cons.mpr ⟨lw_p47, fun _ h => absurd h List.not_mem_nil⟩⟩⟩⟩⟩⟩⟩⟩⟩⟩⟩⟩⟩⟩⟩⟩
theorem lw_p48 : lw_okq (⟨"CrystalCuts$Reader", "readOne", "(LCrystalCuts$Planes;LCrystalCuts$Family;)Z"⟩, 9) := ⟨⟨by decide +kernel, by decide +kernel⟩, List.mem_of_getElem? (i := 192) (by decide +kernel), List.mem_of_getElem? (i := 627) (by decide +kernel), List.mem_of_getElem? (i := 628) (by decide +kernel)⟩
theorem lw_p49 : lw_okq (⟨"CrystalCuts$Reader", "isColonAhead", "()Z"⟩, 9) := ⟨⟨by decide +kernel, by decide +kernel⟩, List.mem_of_getElem? (i := 192) (by decide +kernel), List.mem_of_getElem? (i := 631) (by decide +kernel), List.mem_of_getElem? (i := 632) (by decide +kernel)⟩
theorem lw_p50 : lw_okq (⟨"CrystalCuts$Reader", "readTurns", "()Z"⟩, 9) := ⟨⟨by decide +kernel, by decide +kernel⟩, List.mem_of_getElem? (i := 192) (by decide +kernel), List.mem_of_getElem? (i := 635) (by decide +kernel), List.mem_of_getElem? (i := 636) (by decide +kernel)⟩
theorem lw_p51 : lw_okq (⟨"CrystalCuts$Reader", "look", "()I"⟩, 9) := ⟨⟨by decide +kernel, by decide +kernel⟩, List.mem_of_getElem? (i := 192) (by decide +kernel), List.mem_of_getElem? (i := 639) (by decide +kernel), List.mem_of_getElem? (i := 640) (by decide +kernel)⟩
theorem lw_p52 : lw_okq (⟨"CrystalCuts$Reader", "readSign", "()Z"⟩, 9) := ⟨⟨by decide +kernel, by decide +kernel⟩, List.mem_of_getElem? (i := 192) (by decide +kernel), List.mem_of_getElem? (i := 643) (by decide +kernel), List.mem_of_getElem? (i := 644) (by decide +kernel)⟩
theorem lw_p53 : lw_okq (⟨"CrystalCuts$Reader", "readFigure", "()Z"⟩, 9) := ⟨⟨by decide +kernel, by decide +kernel⟩, List.mem_of_getElem? (i := 192) (by decide +kernel), List.mem_of_getElem? (i := 647) (by decide +kernel), List.mem_of_getElem? (i := 648) (by decide +kernel)⟩
theorem lw_p54 : lw_okq (⟨"CrystalCuts$Reader", "readOff", "()Z"⟩, 9) := ⟨⟨by decide +kernel, by decide +kernel⟩, List.mem_of_getElem? (i := 192) (by decide +kernel), List.mem_of_getElem? (i := 652) (by decide +kernel), List.mem_of_getElem? (i := 653) (by decide +kernel)⟩
theorem lw_p55 : lw_okq (⟨"CrystalCuts$Reader", "endOne", "(LCrystalCuts$Planes;LCrystalCuts$Family;)Z"⟩, 9) := ⟨⟨by decide +kernel, by decide +kernel⟩, List.mem_of_getElem? (i := 192) (by decide +kernel), List.mem_of_getElem? (i := 657) (by decide +kernel), List.mem_of_getElem? (i := 658) (by decide +kernel)⟩
theorem lw_p56 : lw_okq (⟨"CrystalCuts$States", "takeBack", "(LCrystalCuts$Planes;)V"⟩, 3) := ⟨⟨by decide +kernel, by decide +kernel⟩, List.mem_of_getElem? (i := 61) (by decide +kernel), List.mem_of_getElem? (i := 667) (by decide +kernel), List.mem_of_getElem? (i := 668) (by decide +kernel)⟩
theorem lw_p57 : lw_okq (⟨"CrystalCuts", "howMany", "(I)I"⟩, 16) := ⟨⟨by decide +kernel, by decide +kernel⟩, List.mem_of_getElem? (i := 14) (by decide +kernel), List.mem_of_getElem? (i := 675) (by decide +kernel), List.mem_of_getElem? (i := 676) (by decide +kernel)⟩
theorem lw_p58 : lw_okq (⟨"CrystalCuts$Solid", "addCornersTo", "(J)J"⟩, 9) := ⟨⟨by decide +kernel, by decide +kernel⟩, List.mem_of_getElem? (i := 81) (by decide +kernel), List.mem_of_getElem? (i := 684) (by decide +kernel), List.mem_of_getElem? (i := 685) (by decide +kernel)⟩
theorem lw_p59 : lw_okq (⟨"CrystalCutsModel", "refuses", "(I)I"⟩, 16) := ⟨⟨by decide +kernel, by decide +kernel⟩, List.mem_of_getElem? (i := 690) (by decide +kernel), List.mem_of_getElem? (i := 756) (by decide +kernel), List.mem_of_getElem? (i := 757) (by decide +kernel)⟩
theorem lw_p60 : lw_okq (⟨"CrystalCutsModel", "aside", "()V"⟩, 16) := ⟨⟨by decide +kernel, by decide +kernel⟩, List.mem_of_getElem? (i := 690) (by decide +kernel), List.mem_of_getElem? (i := 760) (by decide +kernel), List.mem_of_getElem? (i := 761) (by decide +kernel)⟩
theorem lw_p61 : lw_okq (⟨"CrystalCutsModel", "keeps", "()V"⟩, 16) := ⟨⟨by decide +kernel, by decide +kernel⟩, List.mem_of_getElem? (i := 690) (by decide +kernel), List.mem_of_getElem? (i := 764) (by decide +kernel), List.mem_of_getElem? (i := 765) (by decide +kernel)⟩
theorem lw_p62 : lw_okq (⟨"CrystalCutsModel", "comes", "(IIII)V"⟩, 16) := ⟨⟨by decide +kernel, by decide +kernel⟩, List.mem_of_getElem? (i := 690) (by decide +kernel), List.mem_of_getElem? (i := 768) (by decide +kernel), List.mem_of_getElem? (i := 769) (by decide +kernel)⟩
theorem lw_p63 : lw_okq (⟨"CrystalCutsModel", "laysFamily", "(IIII)I"⟩, 16) := ⟨⟨by decide +kernel, by decide +kernel⟩, List.mem_of_getElem? (i := 690) (by decide +kernel), List.mem_of_getElem? (i := 776) (by decide +kernel), List.mem_of_getElem? (i := 777) (by decide +kernel)⟩
def lw_privs_4 : List (MethodName × Nat) := [(⟨"CrystalCuts$Reader", "readOne", "(LCrystalCuts$Planes;LCrystalCuts$Family;)Z"⟩, 9), (⟨"CrystalCuts$Reader", "isColonAhead", "()Z"⟩, 9), (⟨"CrystalCuts$Reader", "readTurns", "()Z"⟩, 9), (⟨"CrystalCuts$Reader", "look", "()I"⟩, 9), (⟨"CrystalCuts$Reader", "readSign", "()Z"⟩, 9), (⟨"CrystalCuts$Reader", "readFigure", "()Z"⟩, 9), (⟨"CrystalCuts$Reader", "readOff", "()Z"⟩, 9), (⟨"CrystalCuts$Reader", "endOne", "(LCrystalCuts$Planes;LCrystalCuts$Family;)Z"⟩, 9), (⟨"CrystalCuts$States", "takeBack", "(LCrystalCuts$Planes;)V"⟩, 3), (⟨"CrystalCuts", "howMany", "(I)I"⟩, 16), (⟨"CrystalCuts$Solid", "addCornersTo", "(J)J"⟩, 9), (⟨"CrystalCutsModel", "refuses", "(I)I"⟩, 16), (⟨"CrystalCutsModel", "aside", "()V"⟩, 16), (⟨"CrystalCutsModel", "keeps", "()V"⟩, 16), (⟨"CrystalCutsModel", "comes", "(IIII)V"⟩, 16), (⟨"CrystalCutsModel", "laysFamily", "(IIII)I"⟩, 16)]
theorem lw_r4 : ∀ q ∈ lw_privs_4, lw_okq q := List.forall_mem_cons.mpr ⟨lw_p48, List.forall_mem_cons.mpr ⟨lw_p49, List.forall_mem_cons.mpr ⟨lw_p50, List.forall_mem_cons.mpr ⟨lw_p51, List.forall_mem_cons.mpr ⟨lw_p52, List.forall_mem_cons.mpr ⟨lw_p53, List.forall_mem_cons.mpr ⟨lw_p54, List.forall_mem_cons.mpr ⟨lw_p55, List.forall_mem_cons.mpr ⟨lw_p56, List.forall_mem_cons.mpr ⟨lw_p57, List.forall_mem_cons.mpr ⟨lw_p58, List.forall_mem_cons.mpr ⟨lw_p59, List.forall_mem_cons.mpr ⟨lw_p60, List.forall_mem_cons.mpr ⟨lw_p61, List.forall_mem_cons.mpr ⟨lw_p62, List.forall_mem_cons.mpr ⟨lw_p63, fun _ h => absurd h List.not_mem_nil⟩⟩⟩⟩⟩⟩⟩⟩⟩⟩⟩⟩⟩⟩⟩⟩
theorem lw_p64 : lw_okq (⟨"CrystalCutsModel", "turns", "(IIII)V"⟩, 16) := ⟨⟨by decide +kernel, by decide +kernel⟩, List.mem_of_getElem? (i := 690) (by decide +kernel), List.mem_of_getElem? (i := 780) (by decide +kernel), List.mem_of_getElem? (i := 781) (by decide +kernel)⟩
theorem lw_p65 : lw_okq (⟨"CrystalCutsModel", "familyComes", "(I)V"⟩, 16) := ⟨⟨by decide +kernel, by decide +kernel⟩, List.mem_of_getElem? (i := 690) (by decide +kernel), List.mem_of_getElem? (i := 784) (by decide +kernel), List.mem_of_getElem? (i := 785) (by decide +kernel)⟩
theorem lw_p66 : lw_okq (⟨"CrystalCutsModel", "isPlane", "(I)Z"⟩, 16) := ⟨⟨by decide +kernel, by decide +kernel⟩, List.mem_of_getElem? (i := 690) (by decide +kernel), List.mem_of_getElem? (i := 792) (by decide +kernel), List.mem_of_getElem? (i := 793) (by decide +kernel)⟩
theorem lw_p67 : lw_okq (⟨"CrystalCutsModel", "get", "(II)I"⟩, 16) := ⟨⟨by decide +kernel, by decide +kernel⟩, List.mem_of_getElem? (i := 690) (by decide +kernel), List.mem_of_getElem? (i := 796) (by decide +kernel), List.mem_of_getElem? (i := 797) (by decide +kernel)⟩
theorem lw_p68 : lw_okq (⟨"CrystalCutsModel", "goes", "(I)V"⟩, 16) := ⟨⟨by decide +kernel, by decide +kernel⟩, List.mem_of_getElem? (i := 690) (by decide +kernel), List.mem_of_getElem? (i := 804) (by decide +kernel), List.mem_of_getElem? (i := 805) (by decide +kernel)⟩
theorem lw_p69 : lw_okq (⟨"CrystalCutsModel", "lays", "()V"⟩, 16) := ⟨⟨by decide +kernel, by decide +kernel⟩, List.mem_of_getElem? (i := 690) (by decide +kernel), List.mem_of_getElem? (i := 826) (by decide +kernel), List.mem_of_getElem? (i := 827) (by decide +kernel)⟩
theorem lw_p70 : lw_okq (⟨"CrystalCutsModel", "determinant", "(IIII)I"⟩, 16) := ⟨⟨by decide +kernel, by decide +kernel⟩, List.mem_of_getElem? (i := 690) (by decide +kernel), List.mem_of_getElem? (i := 830) (by decide +kernel), List.mem_of_getElem? (i := 831) (by decide +kernel)⟩
theorem lw_p71 : lw_okq (⟨"CrystalCutsModel", "meeting", "(IIII)V"⟩, 16) := ⟨⟨by decide +kernel, by decide +kernel⟩, List.mem_of_getElem? (i := 690) (by decide +kernel), List.mem_of_getElem? (i := 834) (by decide +kernel), List.mem_of_getElem? (i := 835) (by decide +kernel)⟩
theorem lw_p72 : lw_okq (⟨"CrystalCutsModel", "far", "(IIII)I"⟩, 16) := ⟨⟨by decide +kernel, by decide +kernel⟩, List.mem_of_getElem? (i := 690) (by decide +kernel), List.mem_of_getElem? (i := 841) (by decide +kernel), List.mem_of_getElem? (i := 842) (by decide +kernel)⟩
theorem lw_p73 : lw_okq (⟨"CrystalCutsModel", "isCorner", "(IIII)Z"⟩, 16) := ⟨⟨by decide +kernel, by decide +kernel⟩, List.mem_of_getElem? (i := 690) (by decide +kernel), List.mem_of_getElem? (i := 845) (by decide +kernel), List.mem_of_getElem? (i := 846) (by decide +kernel)⟩
theorem lw_p74 : lw_okq (⟨"CrystalCutsModel", "isAhead", "(IIIII)Z"⟩, 16) := ⟨⟨by decide +kernel, by decide +kernel⟩, List.mem_of_getElem? (i := 690) (by decide +kernel), List.mem_of_getElem? (i := 849) (by decide +kernel), List.mem_of_getElem? (i := 850) (by decide +kernel)⟩
theorem lw_p75 : lw_okq (⟨"CrystalCutsModel", "cornersOn", "(I)I"⟩, 16) := ⟨⟨by decide +kernel, by decide +kernel⟩, List.mem_of_getElem? (i := 690) (by decide +kernel), List.mem_of_getElem? (i := 853) (by decide +kernel), List.mem_of_getElem? (i := 854) (by decide +kernel)⟩
theorem lw_p76 : lw_okq (⟨"CrystalCutsModel", "isOn", "(II)Z"⟩, 16) := ⟨⟨by decide +kernel, by decide +kernel⟩, List.mem_of_getElem? (i := 690) (by decide +kernel), List.mem_of_getElem? (i := 857) (by decide +kernel), List.mem_of_getElem? (i := 858) (by decide +kernel)⟩
theorem lw_p77 : lw_okq (⟨"CrystalCutsModel", "isSame", "(II)Z"⟩, 16) := ⟨⟨by decide +kernel, by decide +kernel⟩, List.mem_of_getElem? (i := 690) (by decide +kernel), List.mem_of_getElem? (i := 861) (by decide +kernel), List.mem_of_getElem? (i := 862) (by decide +kernel)⟩
theorem lw_p78 : lw_okq (⟨"CrystalCutsModel", "bad", "(I)I"⟩, 16) := ⟨⟨by decide +kernel, by decide +kernel⟩, List.mem_of_getElem? (i := 690) (by decide +kernel), List.mem_of_getElem? (i := 869) (by decide +kernel), List.mem_of_getElem? (i := 870) (by decide +kernel)⟩
theorem lw_p79 : lw_okq (⟨"CrystalCutsModel", "edgesOf", "(I)I"⟩, 16) := ⟨⟨by decide +kernel, by decide +kernel⟩, List.mem_of_getElem? (i := 690) (by decide +kernel), List.mem_of_getElem? (i := 873) (by decide +kernel), List.mem_of_getElem? (i := 874) (by decide +kernel)⟩
def lw_privs_5 : List (MethodName × Nat) := [(⟨"CrystalCutsModel", "turns", "(IIII)V"⟩, 16), (⟨"CrystalCutsModel", "familyComes", "(I)V"⟩, 16), (⟨"CrystalCutsModel", "isPlane", "(I)Z"⟩, 16), (⟨"CrystalCutsModel", "get", "(II)I"⟩, 16), (⟨"CrystalCutsModel", "goes", "(I)V"⟩, 16), (⟨"CrystalCutsModel", "lays", "()V"⟩, 16), (⟨"CrystalCutsModel", "determinant", "(IIII)I"⟩, 16), (⟨"CrystalCutsModel", "meeting", "(IIII)V"⟩, 16), (⟨"CrystalCutsModel", "far", "(IIII)I"⟩, 16), (⟨"CrystalCutsModel", "isCorner", "(IIII)Z"⟩, 16), (⟨"CrystalCutsModel", "isAhead", "(IIIII)Z"⟩, 16), (⟨"CrystalCutsModel", "cornersOn", "(I)I"⟩, 16), (⟨"CrystalCutsModel", "isOn", "(II)Z"⟩, 16), (⟨"CrystalCutsModel", "isSame", "(II)Z"⟩, 16), (⟨"CrystalCutsModel", "bad", "(I)I"⟩, 16), (⟨"CrystalCutsModel", "edgesOf", "(I)I"⟩, 16)]
theorem lw_r5 : ∀ q ∈ lw_privs_5, lw_okq q := List.forall_mem_cons.mpr ⟨lw_p64, List.forall_mem_cons.mpr ⟨lw_p65, List.forall_mem_cons.mpr ⟨lw_p66, List.forall_mem_cons.mpr ⟨lw_p67, List.forall_mem_cons.mpr ⟨lw_p68, List.forall_mem_cons.mpr ⟨lw_p69, List.forall_mem_cons.mpr ⟨lw_p70, List.forall_mem_cons.mpr ⟨lw_p71, List.forall_mem_cons.mpr ⟨lw_p72, List.forall_mem_cons.mpr ⟨lw_p73, List.forall_mem_cons.mpr ⟨lw_p74, List.forall_mem_cons.mpr ⟨lw_p75, List.forall_mem_cons.mpr ⟨lw_p76, List.forall_mem_cons.mpr ⟨lw_p77, List.forall_mem_cons.mpr ⟨lw_p78, List.forall_mem_cons.mpr ⟨lw_p79, fun _ h => absurd h List.not_mem_nil⟩⟩⟩⟩⟩⟩⟩⟩⟩⟩⟩⟩⟩⟩⟩⟩
theorem lw_p80 : lw_okq (⟨"CrystalCutsModel", "isEdge", "(II)Z"⟩, 16) := ⟨⟨by decide +kernel, by decide +kernel⟩, List.mem_of_getElem? (i := 690) (by decide +kernel), List.mem_of_getElem? (i := 877) (by decide +kernel), List.mem_of_getElem? (i := 878) (by decide +kernel)⟩
theorem lw_p81 : lw_okq (⟨"CrystalCutsModel", "cornersOnBoth", "(II)I"⟩, 16) := ⟨⟨by decide +kernel, by decide +kernel⟩, List.mem_of_getElem? (i := 690) (by decide +kernel), List.mem_of_getElem? (i := 881) (by decide +kernel), List.mem_of_getElem? (i := 882) (by decide +kernel)⟩
theorem lw_p82 : lw_okq (⟨"CrystalCutsModel", "showing", "()I"⟩, 16) := ⟨⟨by decide +kernel, by decide +kernel⟩, List.mem_of_getElem? (i := 690) (by decide +kernel), List.mem_of_getElem? (i := 893) (by decide +kernel), List.mem_of_getElem? (i := 894) (by decide +kernel)⟩
theorem lw_p83 : lw_okq (⟨"CrystalCutsModel", "edges", "()I"⟩, 16) := ⟨⟨by decide +kernel, by decide +kernel⟩, List.mem_of_getElem? (i := 690) (by decide +kernel), List.mem_of_getElem? (i := 897) (by decide +kernel), List.mem_of_getElem? (i := 898) (by decide +kernel)⟩
theorem lw_p84 : lw_okq (⟨"CrystalCutsModel", "mostOn", "()I"⟩, 16) := ⟨⟨by decide +kernel, by decide +kernel⟩, List.mem_of_getElem? (i := 690) (by decide +kernel), List.mem_of_getElem? (i := 901) (by decide +kernel), List.mem_of_getElem? (i := 902) (by decide +kernel)⟩
theorem lw_p85 : lw_okq (⟨"CrystalCutsModel", "mostAt", "()I"⟩, 16) := ⟨⟨by decide +kernel, by decide +kernel⟩, List.mem_of_getElem? (i := 690) (by decide +kernel), List.mem_of_getElem? (i := 905) (by decide +kernel), List.mem_of_getElem? (i := 906) (by decide +kernel)⟩
theorem lw_p86 : lw_okq (⟨"CrystalCutsModel", "fraction", "(II)V"⟩, 16) := ⟨⟨by decide +kernel, by decide +kernel⟩, List.mem_of_getElem? (i := 690) (by decide +kernel), List.mem_of_getElem? (i := 913) (by decide +kernel), List.mem_of_getElem? (i := 914) (by decide +kernel)⟩
theorem lw_p87 : lw_okq (⟨"CrystalCutsModel", "farthest", "(III)I"⟩, 16) := ⟨⟨by decide +kernel, by decide +kernel⟩, List.mem_of_getElem? (i := 690) (by decide +kernel), List.mem_of_getElem? (i := 934) (by decide +kernel), List.mem_of_getElem? (i := 935) (by decide +kernel)⟩
theorem lw_p88 : lw_okq (⟨"CrystalCutsModel", "farOf", "(IIII)I"⟩, 16) := ⟨⟨by decide +kernel, by decide +kernel⟩, List.mem_of_getElem? (i := 690) (by decide +kernel), List.mem_of_getElem? (i := 938) (by decide +kernel), List.mem_of_getElem? (i := 939) (by decide +kernel)⟩
theorem lw_p89 : lw_okq (⟨"CrystalCutsModel", "isStaying", "(I)Z"⟩, 16) := ⟨⟨by decide +kernel, by decide +kernel⟩, List.mem_of_getElem? (i := 690) (by decide +kernel), List.mem_of_getElem? (i := 946) (by decide +kernel), List.mem_of_getElem? (i := 947) (by decide +kernel)⟩
theorem lw_p90 : lw_okq (⟨"CrystalCutsModel", "restores", "()V"⟩, 16) := ⟨⟨by decide +kernel, by decide +kernel⟩, List.mem_of_getElem? (i := 690) (by decide +kernel), List.mem_of_getElem? (i := 962) (by decide +kernel), List.mem_of_getElem? (i := 963) (by decide +kernel)⟩
theorem lw_p91 : lw_okq (⟨"CrystalCutsModel", "skips", "()V"⟩, 16) := ⟨⟨by decide +kernel, by decide +kernel⟩, List.mem_of_getElem? (i := 690) (by decide +kernel), List.mem_of_getElem? (i := 978) (by decide +kernel), List.mem_of_getElem? (i := 979) (by decide +kernel)⟩
theorem lw_p92 : lw_okq (⟨"CrystalCutsModel", "byteAt", "(I)I"⟩, 16) := ⟨⟨by decide +kernel, by decide +kernel⟩, List.mem_of_getElem? (i := 690) (by decide +kernel), List.mem_of_getElem? (i := 982) (by decide +kernel), List.mem_of_getElem? (i := 983) (by decide +kernel)⟩
theorem lw_p93 : lw_okq (⟨"CrystalCutsModel", "sentence", "()Z"⟩, 16) := ⟨⟨by decide +kernel, by decide +kernel⟩, List.mem_of_getElem? (i := 690) (by decide +kernel), List.mem_of_getElem? (i := 986) (by decide +kernel), List.mem_of_getElem? (i := 987) (by decide +kernel)⟩
theorem lw_p94 : lw_okq (⟨"CrystalCutsModel", "isFamily", "()Z"⟩, 16) := ⟨⟨by decide +kernel, by decide +kernel⟩, List.mem_of_getElem? (i := 690) (by decide +kernel), List.mem_of_getElem? (i := 990) (by decide +kernel), List.mem_of_getElem? (i := 991) (by decide +kernel)⟩
theorem lw_p95 : lw_okq (⟨"CrystalCutsModel", "readsTurns", "()I"⟩, 16) := ⟨⟨by decide +kernel, by decide +kernel⟩, List.mem_of_getElem? (i := 690) (by decide +kernel), List.mem_of_getElem? (i := 994) (by decide +kernel), List.mem_of_getElem? (i := 995) (by decide +kernel)⟩
def lw_privs_6 : List (MethodName × Nat) := [(⟨"CrystalCutsModel", "isEdge", "(II)Z"⟩, 16), (⟨"CrystalCutsModel", "cornersOnBoth", "(II)I"⟩, 16), (⟨"CrystalCutsModel", "showing", "()I"⟩, 16), (⟨"CrystalCutsModel", "edges", "()I"⟩, 16), (⟨"CrystalCutsModel", "mostOn", "()I"⟩, 16), (⟨"CrystalCutsModel", "mostAt", "()I"⟩, 16), (⟨"CrystalCutsModel", "fraction", "(II)V"⟩, 16), (⟨"CrystalCutsModel", "farthest", "(III)I"⟩, 16), (⟨"CrystalCutsModel", "farOf", "(IIII)I"⟩, 16), (⟨"CrystalCutsModel", "isStaying", "(I)Z"⟩, 16), (⟨"CrystalCutsModel", "restores", "()V"⟩, 16), (⟨"CrystalCutsModel", "skips", "()V"⟩, 16), (⟨"CrystalCutsModel", "byteAt", "(I)I"⟩, 16), (⟨"CrystalCutsModel", "sentence", "()Z"⟩, 16), (⟨"CrystalCutsModel", "isFamily", "()Z"⟩, 16), (⟨"CrystalCutsModel", "readsTurns", "()I"⟩, 16)]
theorem lw_r6 : ∀ q ∈ lw_privs_6, lw_okq q := List.forall_mem_cons.mpr ⟨lw_p80, List.forall_mem_cons.mpr ⟨lw_p81, List.forall_mem_cons.mpr ⟨lw_p82, List.forall_mem_cons.mpr ⟨lw_p83, List.forall_mem_cons.mpr ⟨lw_p84, List.forall_mem_cons.mpr ⟨lw_p85, List.forall_mem_cons.mpr ⟨lw_p86, List.forall_mem_cons.mpr ⟨lw_p87, List.forall_mem_cons.mpr ⟨lw_p88, List.forall_mem_cons.mpr ⟨lw_p89, List.forall_mem_cons.mpr ⟨lw_p90, List.forall_mem_cons.mpr ⟨lw_p91, List.forall_mem_cons.mpr ⟨lw_p92, List.forall_mem_cons.mpr ⟨lw_p93, List.forall_mem_cons.mpr ⟨lw_p94, List.forall_mem_cons.mpr ⟨lw_p95, fun _ h => absurd h List.not_mem_nil⟩⟩⟩⟩⟩⟩⟩⟩⟩⟩⟩⟩⟩⟩⟩⟩
theorem lw_p96 : lw_okq (⟨"CrystalCutsModel", "readsSign", "()Z"⟩, 16) := ⟨⟨by decide +kernel, by decide +kernel⟩, List.mem_of_getElem? (i := 690) (by decide +kernel), List.mem_of_getElem? (i := 998) (by decide +kernel), List.mem_of_getElem? (i := 999) (by decide +kernel)⟩
theorem lw_p97 : lw_okq (⟨"CrystalCutsModel", "readsOff", "()I"⟩, 16) := ⟨⟨by decide +kernel, by decide +kernel⟩, List.mem_of_getElem? (i := 690) (by decide +kernel), List.mem_of_getElem? (i := 1002) (by decide +kernel), List.mem_of_getElem? (i := 1003) (by decide +kernel)⟩
theorem lw_p98 : lw_okq (⟨"CrystalCutsModel", "toldOf", "(I)I"⟩, 16) := ⟨⟨by decide +kernel, by decide +kernel⟩, List.mem_of_getElem? (i := 690) (by decide +kernel), List.mem_of_getElem? (i := 1014) (by decide +kernel), List.mem_of_getElem? (i := 1015) (by decide +kernel)⟩
def lw_privs_7 : List (MethodName × Nat) := [(⟨"CrystalCutsModel", "readsSign", "()Z"⟩, 16), (⟨"CrystalCutsModel", "readsOff", "()I"⟩, 16), (⟨"CrystalCutsModel", "toldOf", "(I)I"⟩, 16)]
theorem lw_r7 : ∀ q ∈ lw_privs_7, lw_okq q := List.forall_mem_cons.mpr ⟨lw_p96, List.forall_mem_cons.mpr ⟨lw_p97, List.forall_mem_cons.mpr ⟨lw_p98, fun _ h => absurd h List.not_mem_nil⟩⟩⟩
def lw_privs : List (MethodName × Nat) := lw_privs_1 ++ (lw_privs_2 ++ (lw_privs_3 ++ (lw_privs_4 ++ (lw_privs_5 ++ (lw_privs_6 ++ (lw_privs_7))))))
def lw_tbl : List Cond := k2_sels lw_privs ++ tables_1
theorem lw_privs_ok : ∀ q ∈ lw_privs, lw_okq q := by
  show ∀ q ∈ lw_privs_1 ++ (lw_privs_2 ++ (lw_privs_3 ++ (lw_privs_4 ++ (lw_privs_5 ++ (lw_privs_6 ++ (lw_privs_7)))))), lw_okq q
  exact List.forall_mem_append.mpr ⟨lw_r1, List.forall_mem_append.mpr ⟨lw_r2, List.forall_mem_append.mpr ⟨lw_r3, List.forall_mem_append.mpr ⟨lw_r4, List.forall_mem_append.mpr ⟨lw_r5, List.forall_mem_append.mpr ⟨lw_r6, lw_r7⟩⟩⟩⟩⟩⟩
end
section
def RX0 : String := "CrystalCuts$Family"
def TX0 : u_T := fun k => match k with
  | 0 => ("CrystalCuts$Family", "known", "[B", true)
  | 1 => ("CrystalCuts$Family", "codes", "[I", true)
  | _ => ("CrystalCuts$Family", "count", "I", false)
def tyX0 : Nat → FieldType := fun k => match k with
  | 0 => .array .byte
  | 1 => .array .int
  | _ => .int
abbrev wsX00 : List Cond := u_ws RX0 TX0 3
theorem nmX0 : ∀ a, a < 3 → ∀ b, b < 3 → a ≠ b → (TX0 a).2.1 ≠ (TX0 b).2.1 := by decide +kernel
theorem tyX0_ok : ∀ k, k < 3 → parseFieldDescriptor (TX0 k).2.2.1 = some (tyX0 k) := by decide +kernel
abbrev cX0_init : ByteArray := prog_2_method_1_code
def yX0_init : MethodName := ⟨RX0, "<init>", "()V"⟩
abbrev cX0_gather : ByteArray := prog_2_method_2_code
def yX0_gather : MethodName := ⟨RX0, "gather", "(IIII)V"⟩
abbrev cX0_noteTurned : ByteArray := prog_2_method_3_code
def yX0_noteTurned : MethodName := ⟨RX0, "noteTurned", "(II)V"⟩
abbrev cX0_note : ByteArray := prog_2_method_4_code
def yX0_note : MethodName := ⟨RX0, "note", "(III)V"⟩
abbrev cX0_putInOrder : ByteArray := prog_2_method_5_code
def yX0_putInOrder : MethodName := ⟨RX0, "putInOrder", "()V"⟩
def RX1 : String := "CrystalCuts$Line"
def TX1 : u_T := fun k => match k with
  | 0 => ("CrystalCuts$Line", "wayX", "I", false)
  | 1 => ("CrystalCuts$Line", "wayY", "I", false)
  | 2 => ("CrystalCuts$Line", "wayZ", "I", false)
  | 3 => ("CrystalCuts$Line", "baseX", "I", false)
  | 4 => ("CrystalCuts$Line", "baseY", "I", false)
  | 5 => ("CrystalCuts$Line", "baseZ", "I", false)
  | 6 => ("CrystalCuts$Line", "scale", "I", false)
  | 7 => ("CrystalCuts$Line", "lowAbove", "I", false)
  | 8 => ("CrystalCuts$Line", "lowBelow", "I", false)
  | 9 => ("CrystalCuts$Line", "highAbove", "I", false)
  | _ => ("CrystalCuts$Line", "highBelow", "I", false)
def tyX1 : Nat → FieldType := fun k => match k with
  | 0 => .int
  | 1 => .int
  | 2 => .int
  | 3 => .int
  | 4 => .int
  | 5 => .int
  | 6 => .int
  | 7 => .int
  | 8 => .int
  | 9 => .int
  | _ => .int
abbrev wsX10 : List Cond := u_ws RX1 TX1 11
theorem nmX1 : ∀ a, a < 11 → ∀ b, b < 11 → a ≠ b → (TX1 a).2.1 ≠ (TX1 b).2.1 := by decide +kernel
theorem tyX1_ok : ∀ k, k < 11 → parseFieldDescriptor (TX1 k).2.2.1 = some (tyX1 k) := by decide +kernel
abbrev cX1_init : ByteArray := prog_3_method_1_code
def yX1_init : MethodName := ⟨RX1, "<init>", "()V"⟩
abbrev cX1_lay : ByteArray := prog_3_method_2_code
def yX1_lay : MethodName := ⟨RX1, "lay", "(LCrystalCuts$Planes;II)Z"⟩
abbrev cX1_isLeftBy : ByteArray := prog_3_method_3_code
def yX1_isLeftBy : MethodName := ⟨RX1, "isLeftBy", "(LCrystalCuts$Planes;I)Z"⟩
abbrev cX1_isLeftBehind : ByteArray := prog_3_method_4_code
def yX1_isLeftBehind : MethodName := ⟨RX1, "isLeftBehind", "(LCrystalCuts$Planes;I)Z"⟩
def RX2 : String := "CrystalCuts$Planes"
def TX2 : u_T := fun k => match k with
  | 0 => ("CrystalCuts$Planes", "h", "[I", true)
  | 1 => ("CrystalCuts$Planes", "k", "[I", true)
  | 2 => ("CrystalCuts$Planes", "l", "[I", true)
  | 3 => ("CrystalCuts$Planes", "off", "[I", true)
  | _ => ("CrystalCuts$Planes", "count", "I", false)
def tyX2 : Nat → FieldType := fun k => match k with
  | 0 => .array .int
  | 1 => .array .int
  | 2 => .array .int
  | 3 => .array .int
  | _ => .int
abbrev wsX20 : List Cond := u_ws RX2 TX2 5
theorem nmX2 : ∀ a, a < 5 → ∀ b, b < 5 → a ≠ b → (TX2 a).2.1 ≠ (TX2 b).2.1 := by decide +kernel
theorem tyX2_ok : ∀ k, k < 5 → parseFieldDescriptor (TX2 k).2.2.1 = some (tyX2 k) := by decide +kernel
abbrev cX2_init : ByteArray := prog_4_method_1_code
def yX2_init : MethodName := ⟨RX2, "<init>", "()V"⟩
abbrev cX2_becomeBox : ByteArray := prog_4_method_2_code
def yX2_becomeBox : MethodName := ⟨RX2, "becomeBox", "()V"⟩
abbrev cX2_put : ByteArray := prog_4_method_3_code
def yX2_put : MethodName := ⟨RX2, "put", "(IIII)V"⟩
abbrev cX2_putFamily : ByteArray := prog_4_method_4_code
def yX2_putFamily : MethodName := ⟨RX2, "putFamily", "(LCrystalCuts$Family;I)V"⟩
abbrev cX2_takeOut : ByteArray := prog_4_method_5_code
def yX2_takeOut : MethodName := ⟨RX2, "takeOut", "(I)V"⟩
abbrev cX2_copyFrom : ByteArray := prog_4_method_6_code
def yX2_copyFrom : MethodName := ⟨RX2, "copyFrom", "(LCrystalCuts$Planes;)V"⟩
abbrev cX2_areSame : ByteArray := prog_4_method_7_code
def yX2_areSame : MethodName := ⟨RX2, "areSame", "(II)Z"⟩
abbrev cX2_hasEarlierTwin : ByteArray := prog_4_method_8_code
def yX2_hasEarlierTwin : MethodName := ⟨RX2, "hasEarlierTwin", "(I)Z"⟩
abbrev cX2_wayBetween : ByteArray := prog_4_method_9_code
def yX2_wayBetween : MethodName := ⟨RX2, "wayBetween", "(III)I"⟩
def RX3 : String := "CrystalCuts$Reader"
def TX3 : u_T := fun k => match k with
  | 0 => ("CrystalCuts$Reader", "bytes", "[B", true)
  | 1 => ("CrystalCuts$Reader", "length", "I", false)
  | 2 => ("CrystalCuts$Reader", "at", "I", false)
  | 3 => ("CrystalCuts$Reader", "turns", "I", false)
  | 4 => ("CrystalCuts$Reader", "h", "I", false)
  | 5 => ("CrystalCuts$Reader", "k", "I", false)
  | 6 => ("CrystalCuts$Reader", "l", "I", false)
  | 7 => ("CrystalCuts$Reader", "away", "I", false)
  | _ => ("CrystalCuts$Reader", "figure", "I", false)
def tyX3 : Nat → FieldType := fun k => match k with
  | 0 => .array .byte
  | 1 => .int
  | 2 => .int
  | 3 => .int
  | 4 => .int
  | 5 => .int
  | 6 => .int
  | 7 => .int
  | _ => .int
abbrev wsX30 : List Cond := u_ws RX3 TX3 9
theorem nmX3 : ∀ a, a < 9 → ∀ b, b < 9 → a ≠ b → (TX3 a).2.1 ≠ (TX3 b).2.1 := by decide +kernel
theorem tyX3_ok : ∀ k, k < 9 → parseFieldDescriptor (TX3 k).2.2.1 = some (tyX3 k) := by decide +kernel
abbrev cX3_init : ByteArray := prog_5_method_1_code
def yX3_init : MethodName := ⟨RX3, "<init>", "()V"⟩
abbrev cX3_readAll : ByteArray := prog_5_method_2_code
def yX3_readAll : MethodName := ⟨RX3, "readAll", "(LCrystalCuts$Planes;LCrystalCuts$Family;)Z"⟩
abbrev cX3_readOne : ByteArray := prog_5_method_3_code
def yX3_readOne : MethodName := ⟨RX3, "readOne", "(LCrystalCuts$Planes;LCrystalCuts$Family;)Z"⟩
abbrev cX3_isColonAhead : ByteArray := prog_5_method_4_code
def yX3_isColonAhead : MethodName := ⟨RX3, "isColonAhead", "()Z"⟩
abbrev cX3_look : ByteArray := prog_5_method_5_code
def yX3_look : MethodName := ⟨RX3, "look", "()I"⟩
abbrev cX3_readTurns : ByteArray := prog_5_method_6_code
def yX3_readTurns : MethodName := ⟨RX3, "readTurns", "()Z"⟩
abbrev cX3_readSign : ByteArray := prog_5_method_7_code
def yX3_readSign : MethodName := ⟨RX3, "readSign", "()Z"⟩
abbrev cX3_readFigure : ByteArray := prog_5_method_8_code
def yX3_readFigure : MethodName := ⟨RX3, "readFigure", "()Z"⟩
abbrev cX3_readOff : ByteArray := prog_5_method_9_code
def yX3_readOff : MethodName := ⟨RX3, "readOff", "()Z"⟩
abbrev cX3_endOne : ByteArray := prog_5_method_10_code
def yX3_endOne : MethodName := ⟨RX3, "endOne", "(LCrystalCuts$Planes;LCrystalCuts$Family;)Z"⟩
def RX4 : String := "CrystalCuts$Solid"
def TX4 : u_T := fun k => match k with
  | 0 => ("CrystalCuts$Solid", "x", "[I", true)
  | 1 => ("CrystalCuts$Solid", "y", "[I", true)
  | 2 => ("CrystalCuts$Solid", "z", "[I", true)
  | 3 => ("CrystalCuts$Solid", "d", "[I", true)
  | 4 => ("CrystalCuts$Solid", "on", "[I", true)
  | 5 => ("CrystalCuts$Solid", "cornersOn", "[I", true)
  | 6 => ("CrystalCuts$Solid", "line", "LCrystalCuts$Line;", true)
  | 7 => ("CrystalCuts$Solid", "corners", "I", false)
  | _ => ("CrystalCuts$Solid", "shown", "I", false)
def tyX4 : Nat → FieldType := fun k => match k with
  | 0 => .array .int
  | 1 => .array .int
  | 2 => .array .int
  | 3 => .array .int
  | 4 => .array .int
  | 5 => .array .int
  | 6 => .object "CrystalCuts$Line"
  | 7 => .int
  | _ => .int
abbrev wsX40 : List Cond := u_ws RX4 TX4 9
theorem nmX4 : ∀ a, a < 9 → ∀ b, b < 9 → a ≠ b → (TX4 a).2.1 ≠ (TX4 b).2.1 := by decide +kernel
theorem tyX4_ok : ∀ k, k < 9 → parseFieldDescriptor (TX4 k).2.2.1 = some (tyX4 k) := by decide +kernel
abbrev cX4_init : ByteArray := prog_6_method_1_code
def yX4_init : MethodName := ⟨RX4, "<init>", "()V"⟩
abbrev cX4_cut : ByteArray := prog_6_method_2_code
def yX4_cut : MethodName := ⟨RX4, "cut", "(LCrystalCuts$Planes;I)V"⟩
abbrev cX4_keepPoint : ByteArray := prog_6_method_3_code
def yX4_keepPoint : MethodName := ⟨RX4, "keepPoint", "(II)V"⟩
abbrev cX4_putCorner : ByteArray := prog_6_method_4_code
def yX4_putCorner : MethodName := ⟨RX4, "putCorner", "(IIIII)V"⟩
abbrev cX4_placeOf : ByteArray := prog_6_method_5_code
def yX4_placeOf : MethodName := ⟨RX4, "placeOf", "(IIII)I"⟩
abbrev cX4_order : ByteArray := prog_6_method_6_code
def yX4_order : MethodName := ⟨RX4, "order", "(IIIII)I"⟩
abbrev cX4_look : ByteArray := prog_6_method_7_code
def yX4_look : MethodName := ⟨RX4, "look", "(LCrystalCuts$Planes;)V"⟩
abbrev cX4_markCornersOn : ByteArray := prog_6_method_8_code
def yX4_markCornersOn : MethodName := ⟨RX4, "markCornersOn", "(LCrystalCuts$Planes;I)I"⟩
abbrev cX4_along : ByteArray := prog_6_method_9_code
def yX4_along : MethodName := ⟨RX4, "along", "(IIII)I"⟩
abbrev cX4_coordinate : ByteArray := prog_6_method_10_code
def yX4_coordinate : MethodName := ⟨RX4, "coordinate", "(II)I"⟩
abbrev cX4_isShown : ByteArray := prog_6_method_11_code
def yX4_isShown : MethodName := ⟨RX4, "isShown", "(I)Z"⟩
abbrev cX4_showing : ByteArray := prog_6_method_12_code
def yX4_showing : MethodName := ⟨RX4, "showing", "()I"⟩
abbrev cX4_edges : ByteArray := prog_6_method_13_code
def yX4_edges : MethodName := ⟨RX4, "edges", "()I"⟩
abbrev cX4_edgesOn : ByteArray := prog_6_method_14_code
def yX4_edgesOn : MethodName := ⟨RX4, "edgesOn", "(I)I"⟩
abbrev cX4_mostCornersOnPlane : ByteArray := prog_6_method_15_code
def yX4_mostCornersOnPlane : MethodName := ⟨RX4, "mostCornersOnPlane", "(I)I"⟩
abbrev cX4_mostPlanesOnCorner : ByteArray := prog_6_method_16_code
def yX4_mostPlanesOnCorner : MethodName := ⟨RX4, "mostPlanesOnCorner", "()I"⟩
abbrev cX4_cornersOnBoth : ByteArray := prog_6_method_17_code
def yX4_cornersOnBoth : MethodName := ⟨RX4, "cornersOnBoth", "(II)I"⟩
abbrev cX4_farthest : ByteArray := prog_6_method_18_code
def yX4_farthest : MethodName := ⟨RX4, "farthest", "(III)I"⟩
abbrev cX4_cornersAt : ByteArray := prog_6_method_19_code
def yX4_cornersAt : MethodName := ⟨RX4, "cornersAt", "(IIII)I"⟩
abbrev cX4_isKeptBy : ByteArray := prog_6_method_20_code
def yX4_isKeptBy : MethodName := ⟨RX4, "isKeptBy", "(I)Z"⟩
abbrev cX4_addCornersTo : ByteArray := prog_6_method_21_code
def yX4_addCornersTo : MethodName := ⟨RX4, "addCornersTo", "(J)J"⟩
def RX5 : String := "CrystalCuts$States"
def TX5 : u_T := fun k => match k with
  | 0 => ("CrystalCuts$States", "ring", "[LCrystalCuts$Planes;", true)
  | 1 => ("CrystalCuts$States", "newest", "I", false)
  | _ => ("CrystalCuts$States", "count", "I", false)
def tyX5 : Nat → FieldType := fun k => match k with
  | 0 => .array (.object "CrystalCuts$Planes")
  | 1 => .int
  | _ => .int
abbrev wsX50 : List Cond := u_ws RX5 TX5 3
theorem nmX5 : ∀ a, a < 3 → ∀ b, b < 3 → a ≠ b → (TX5 a).2.1 ≠ (TX5 b).2.1 := by decide +kernel
theorem tyX5_ok : ∀ k, k < 3 → parseFieldDescriptor (TX5 k).2.2.1 = some (tyX5 k) := by decide +kernel
abbrev cX5_init : ByteArray := prog_7_method_1_code
def yX5_init : MethodName := ⟨RX5, "<init>", "()V"⟩
abbrev cX5_keep : ByteArray := prog_7_method_2_code
def yX5_keep : MethodName := ⟨RX5, "keep", "(LCrystalCuts$Planes;)V"⟩
abbrev cX5_takeBack : ByteArray := prog_7_method_3_code
def yX5_takeBack : MethodName := ⟨RX5, "takeBack", "(LCrystalCuts$Planes;)V"⟩
def RX6 : String := "CrystalCuts"
def TX6 : u_T := fun k => match k with
  | 0 => ("CrystalCuts", "planes", "LCrystalCuts$Planes;", true)
  | 1 => ("CrystalCuts", "coming", "LCrystalCuts$Planes;", true)
  | 2 => ("CrystalCuts", "states", "LCrystalCuts$States;", true)
  | 3 => ("CrystalCuts", "solid", "LCrystalCuts$Solid;", true)
  | 4 => ("CrystalCuts", "trial", "LCrystalCuts$Solid;", true)
  | 5 => ("CrystalCuts", "signs", "LCrystalCuts$Family;", true)
  | 6 => ("CrystalCuts", "text", "LCrystalCuts$Reader;", true)
  | 7 => ("CrystalCuts", "solidKnown", "Z", false)
  | 8 => ("CrystalCuts", "spareKnown", "Z", false)
  | 9 => ("CrystalCuts", "sparePlane", "I", false)
  | 10 => ("CrystalCuts", "spareCorners", "I", false)
  | 11 => ("CrystalCuts", "above", "I", false)
  | 12 => ("CrystalCuts", "below", "I", false)
  | 13 => ("CrystalCuts", "bads", "I", false)
  | 14 => ("CrystalCuts", "nos", "I", false)
  | _ => ("CrystalCuts", "fulls", "I", false)
def tyX6 : Nat → FieldType := fun k => match k with
  | 0 => .object "CrystalCuts$Planes"
  | 1 => .object "CrystalCuts$Planes"
  | 2 => .object "CrystalCuts$States"
  | 3 => .object "CrystalCuts$Solid"
  | 4 => .object "CrystalCuts$Solid"
  | 5 => .object "CrystalCuts$Family"
  | 6 => .object "CrystalCuts$Reader"
  | 7 => .boolean
  | 8 => .boolean
  | 9 => .int
  | 10 => .int
  | 11 => .int
  | 12 => .int
  | 13 => .int
  | 14 => .int
  | _ => .int
abbrev wsX60 : List Cond := u_ws RX6 TX6 16
theorem nmX6 : ∀ a, a < 16 → ∀ b, b < 16 → a ≠ b → (TX6 a).2.1 ≠ (TX6 b).2.1 := by decide +kernel
theorem tyX6_ok : ∀ k, k < 16 → parseFieldDescriptor (TX6 k).2.2.1 = some (tyX6 k) := by decide +kernel
abbrev cX6_init : ByteArray := prog_1_method_1_code
def yX6_init : MethodName := ⟨RX6, "<init>", "()V"⟩
abbrev cX6_plane : ByteArray := prog_1_method_2_code
def yX6_plane : MethodName := ⟨RX6, "plane", "(IIII)I"⟩
abbrev cX6_family : ByteArray := prog_1_method_3_code
def yX6_family : MethodName := ⟨RX6, "family", "(IIIII)I"⟩
abbrev cX6_off : ByteArray := prog_1_method_4_code
def yX6_off : MethodName := ⟨RX6, "off", "(II)I"⟩
abbrev cX6_drop : ByteArray := prog_1_method_5_code
def yX6_drop : MethodName := ⟨RX6, "drop", "(I)I"⟩
abbrev cX6_anew : ByteArray := prog_1_method_6_code
def yX6_anew : MethodName := ⟨RX6, "anew", "()I"⟩
abbrev cX6_draw : ByteArray := prog_1_method_7_code
def yX6_draw : MethodName := ⟨RX6, "draw", "(II)I"⟩
abbrev cX6_of : ByteArray := prog_1_method_8_code
def yX6_of : MethodName := ⟨RX6, "of", "(II)I"⟩
abbrev cX6_member : ByteArray := prog_1_method_9_code
def yX6_member : MethodName := ⟨RX6, "member", "(IIIII)I"⟩
abbrev cX6_all : ByteArray := prog_1_method_10_code
def yX6_all : MethodName := ⟨RX6, "all", "(I)I"⟩
abbrev cX6_corner : ByteArray := prog_1_method_11_code
def yX6_corner : MethodName := ⟨RX6, "corner", "(II)I"⟩
abbrev cX6_meets : ByteArray := prog_1_method_12_code
def yX6_meets : MethodName := ⟨RX6, "meets", "(II)I"⟩
abbrev cX6_part : ByteArray := prog_1_method_13_code
def yX6_part : MethodName := ⟨RX6, "part", "(I)J"⟩
abbrev cX6_edge : ByteArray := prog_1_method_14_code
def yX6_edge : MethodName := ⟨RX6, "edge", "(III)I"⟩
abbrev cX6_reach : ByteArray := prog_1_method_15_code
def yX6_reach : MethodName := ⟨RX6, "reach", "(III)I"⟩
abbrev cX6_stays : ByteArray := prog_1_method_16_code
def yX6_stays : MethodName := ⟨RX6, "stays", "(I)I"⟩
abbrev cX6_symmetry : ByteArray := prog_1_method_17_code
def yX6_symmetry : MethodName := ⟨RX6, "symmetry", "()I"⟩
abbrev cX6_hides : ByteArray := prog_1_method_18_code
def yX6_hides : MethodName := ⟨RX6, "hides", "(IIII)I"⟩
abbrev cX6_spare : ByteArray := prog_1_method_19_code
def yX6_spare : MethodName := ⟨RX6, "spare", "(I)I"⟩
abbrev cX6_type : ByteArray := prog_1_method_20_code
def yX6_type : MethodName := ⟨RX6, "type", "(I)I"⟩
abbrev cX6_clear : ByteArray := prog_1_method_21_code
def yX6_clear : MethodName := ⟨RX6, "clear", "()I"⟩
abbrev cX6_reads : ByteArray := prog_1_method_22_code
def yX6_reads : MethodName := ⟨RX6, "reads", "()I"⟩
abbrev cX6_back : ByteArray := prog_1_method_23_code
def yX6_back : MethodName := ⟨RX6, "back", "()I"⟩
abbrev cX6_told : ByteArray := prog_1_method_24_code
def yX6_told : MethodName := ⟨RX6, "told", "(I)I"⟩
abbrev cX6_digest : ByteArray := prog_1_method_25_code
def yX6_digest : MethodName := ⟨RX6, "digest", "()J"⟩
abbrev cX6_isSign : ByteArray := prog_1_method_26_code
def yX6_isSign : MethodName := ⟨RX6, "isSign", "(III)Z"⟩
abbrev cX6_isSignNumber : ByteArray := prog_1_method_27_code
def yX6_isSignNumber : MethodName := ⟨RX6, "isSignNumber", "(I)Z"⟩
abbrev cX6_isOff : ByteArray := prog_1_method_28_code
def yX6_isOff : MethodName := ⟨RX6, "isOff", "(I)Z"⟩
abbrev cX6_isTurnSet : ByteArray := prog_1_method_29_code
def yX6_isTurnSet : MethodName := ⟨RX6, "isTurnSet", "(I)Z"⟩
abbrev cX6_isPlane : ByteArray := prog_1_method_30_code
def yX6_isPlane : MethodName := ⟨RX6, "isPlane", "(I)Z"⟩
abbrev cX6_refuseBad : ByteArray := prog_1_method_31_code
def yX6_refuseBad : MethodName := ⟨RX6, "refuseBad", "(I)I"⟩
abbrev cX6_refuseNo : ByteArray := prog_1_method_32_code
def yX6_refuseNo : MethodName := ⟨RX6, "refuseNo", "()I"⟩
abbrev cX6_refuseFull : ByteArray := prog_1_method_33_code
def yX6_refuseFull : MethodName := ⟨RX6, "refuseFull", "()I"⟩
abbrev cX6_leaveState : ByteArray := prog_1_method_34_code
def yX6_leaveState : MethodName := ⟨RX6, "leaveState", "()V"⟩
abbrev cX6_forgetCrystal : ByteArray := prog_1_method_35_code
def yX6_forgetCrystal : MethodName := ⟨RX6, "forgetCrystal", "()V"⟩
abbrev cX6_crystal : ByteArray := prog_1_method_36_code
def yX6_crystal : MethodName := ⟨RX6, "crystal", "()LCrystalCuts$Solid;"⟩
abbrev cX6_putDrawn : ByteArray := prog_1_method_37_code
def yX6_putDrawn : MethodName := ⟨RX6, "putDrawn", "(J)V"⟩
abbrev cX6_ofPlane : ByteArray := prog_1_method_38_code
def yX6_ofPlane : MethodName := ⟨RX6, "ofPlane", "(II)I"⟩
abbrev cX6_howMany : ByteArray := prog_1_method_39_code
def yX6_howMany : MethodName := ⟨RX6, "howMany", "(I)I"⟩
abbrev cX6_setFraction : ByteArray := prog_1_method_40_code
def yX6_setFraction : MethodName := ⟨RX6, "setFraction", "(II)V"⟩
abbrev cX6_leastBeyond : ByteArray := prog_1_method_41_code
def yX6_leastBeyond : MethodName := ⟨RX6, "leastBeyond", "(II)I"⟩
abbrev cX6_offsWithin : ByteArray := prog_1_method_42_code
def yX6_offsWithin : MethodName := ⟨RX6, "offsWithin", "(II)I"⟩
abbrev cX6_findSpare : ByteArray := prog_1_method_43_code
def yX6_findSpare : MethodName := ⟨RX6, "findSpare", "()V"⟩
abbrev cX6_cornersWithout : ByteArray := prog_1_method_44_code
def yX6_cornersWithout : MethodName := ⟨RX6, "cornersWithout", "(ILCrystalCuts$Solid;)I"⟩
abbrev cX6_turned : ByteArray := prog_1_method_45_code
def yX6_turned : MethodName := ⟨RX6, "turned", "(IIIII)I"⟩
abbrev cX6_commonDivisor : ByteArray := prog_1_method_46_code
def yX6_commonDivisor : MethodName := ⟨RX6, "commonDivisor", "(II)I"⟩
def RX7 : String := "CrystalCutsModel"
def TX7 : u_T := fun k => match k with
  | 0 => ("CrystalCutsModel", "s", "[I", true)
  | 1 => ("CrystalCutsModel", "past", "[I", true)
  | 2 => ("CrystalCutsModel", "known", "I", false)
  | 3 => ("CrystalCutsModel", "kept", "[I", true)
  | 4 => ("CrystalCutsModel", "refused", "[I", true)
  | 5 => ("CrystalCutsModel", "text", "[I", true)
  | 6 => ("CrystalCutsModel", "typed", "I", false)
  | 7 => ("CrystalCutsModel", "at", "I", false)
  | 8 => ("CrystalCutsModel", "above", "J", false)
  | 9 => ("CrystalCutsModel", "below", "J", false)
  | 10 => ("CrystalCutsModel", "corners", "[I", true)
  | 11 => ("CrystalCutsModel", "many", "I", false)
  | 12 => ("CrystalCutsModel", "shows", "[Z", true)
  | 13 => ("CrystalCutsModel", "family", "[Z", true)
  | 14 => ("CrystalCutsModel", "sign", "[I", true)
  | _ => ("CrystalCutsModel", "turned", "[I", true)
def tyX7 : Nat → FieldType := fun k => match k with
  | 0 => .array .int
  | 1 => .array .int
  | 2 => .int
  | 3 => .array .int
  | 4 => .array .int
  | 5 => .array .int
  | 6 => .int
  | 7 => .int
  | 8 => .long
  | 9 => .long
  | 10 => .array .int
  | 11 => .int
  | 12 => .array .boolean
  | 13 => .array .boolean
  | 14 => .array .int
  | _ => .array .int
abbrev wsX70 : List Cond := u_ws RX7 TX7 16
theorem nmX7 : ∀ a, a < 16 → ∀ b, b < 16 → a ≠ b → (TX7 a).2.1 ≠ (TX7 b).2.1 := by decide +kernel
theorem tyX7_ok : ∀ k, k < 16 → parseFieldDescriptor (TX7 k).2.2.1 = some (tyX7 k) := by decide +kernel
abbrev cX7_init : ByteArray := prog_9_method_1_code
def yX7_init : MethodName := ⟨RX7, "<init>", "()V"⟩
abbrev cX7_in : ByteArray := prog_9_method_3_code
def yX7_in : MethodName := ⟨RX7, "in", "(III)Z"⟩
abbrev cX7_refuses : ByteArray := prog_9_method_4_code
def yX7_refuses : MethodName := ⟨RX7, "refuses", "(I)I"⟩
abbrev cX7_bad : ByteArray := prog_9_method_5_code
def yX7_bad : MethodName := ⟨RX7, "bad", "(I)I"⟩
abbrev cX7_isPlane : ByteArray := prog_9_method_6_code
def yX7_isPlane : MethodName := ⟨RX7, "isPlane", "(I)Z"⟩
abbrev cX7_isSign : ByteArray := prog_9_method_7_code
def yX7_isSign : MethodName := ⟨RX7, "isSign", "(III)Z"⟩
abbrev cX7_get : ByteArray := prog_9_method_8_code
def yX7_get : MethodName := ⟨RX7, "get", "(II)I"⟩
abbrev cX7_aside : ByteArray := prog_9_method_9_code
def yX7_aside : MethodName := ⟨RX7, "aside", "()V"⟩
abbrev cX7_restores : ByteArray := prog_9_method_10_code
def yX7_restores : MethodName := ⟨RX7, "restores", "()V"⟩
abbrev cX7_keeps : ByteArray := prog_9_method_11_code
def yX7_keeps : MethodName := ⟨RX7, "keeps", "()V"⟩
abbrev cX7_comes : ByteArray := prog_9_method_12_code
def yX7_comes : MethodName := ⟨RX7, "comes", "(IIII)V"⟩
abbrev cX7_plane : ByteArray := prog_9_method_13_code
def yX7_plane : MethodName := ⟨RX7, "plane", "(IIII)I"⟩
abbrev cX7_turns : ByteArray := prog_9_method_14_code
def yX7_turns : MethodName := ⟨RX7, "turns", "(IIII)V"⟩
abbrev cX7_laysFamily : ByteArray := prog_9_method_15_code
def yX7_laysFamily : MethodName := ⟨RX7, "laysFamily", "(IIII)I"⟩
abbrev cX7_familyComes : ByteArray := prog_9_method_16_code
def yX7_familyComes : MethodName := ⟨RX7, "familyComes", "(I)V"⟩
abbrev cX7_family : ByteArray := prog_9_method_17_code
def yX7_family : MethodName := ⟨RX7, "family", "(IIIII)I"⟩
abbrev cX7_off : ByteArray := prog_9_method_18_code
def yX7_off : MethodName := ⟨RX7, "off", "(II)I"⟩
abbrev cX7_goes : ByteArray := prog_9_method_19_code
def yX7_goes : MethodName := ⟨RX7, "goes", "(I)V"⟩
abbrev cX7_drop : ByteArray := prog_9_method_20_code
def yX7_drop : MethodName := ⟨RX7, "drop", "(I)I"⟩
abbrev cX7_anew : ByteArray := prog_9_method_21_code
def yX7_anew : MethodName := ⟨RX7, "anew", "()I"⟩
abbrev cX7_draw : ByteArray := prog_9_method_22_code
def yX7_draw : MethodName := ⟨RX7, "draw", "(II)I"⟩
abbrev cX7_common : ByteArray := prog_9_method_23_code
def yX7_common : MethodName := ⟨RX7, "common", "(II)I"⟩
abbrev cX7_determinant : ByteArray := prog_9_method_24_code
def yX7_determinant : MethodName := ⟨RX7, "determinant", "(IIII)I"⟩
abbrev cX7_far : ByteArray := prog_9_method_25_code
def yX7_far : MethodName := ⟨RX7, "far", "(IIII)I"⟩
abbrev cX7_isCorner : ByteArray := prog_9_method_26_code
def yX7_isCorner : MethodName := ⟨RX7, "isCorner", "(IIII)Z"⟩
abbrev cX7_isAhead : ByteArray := prog_9_method_27_code
def yX7_isAhead : MethodName := ⟨RX7, "isAhead", "(IIIII)Z"⟩
abbrev cX7_meeting : ByteArray := prog_9_method_28_code
def yX7_meeting : MethodName := ⟨RX7, "meeting", "(IIII)V"⟩
abbrev cX7_isOn : ByteArray := prog_9_method_29_code
def yX7_isOn : MethodName := ⟨RX7, "isOn", "(II)Z"⟩
abbrev cX7_cornersOn : ByteArray := prog_9_method_30_code
def yX7_cornersOn : MethodName := ⟨RX7, "cornersOn", "(I)I"⟩
abbrev cX7_cornersOnBoth : ByteArray := prog_9_method_31_code
def yX7_cornersOnBoth : MethodName := ⟨RX7, "cornersOnBoth", "(II)I"⟩
abbrev cX7_isSame : ByteArray := prog_9_method_32_code
def yX7_isSame : MethodName := ⟨RX7, "isSame", "(II)Z"⟩
abbrev cX7_lays : ByteArray := prog_9_method_33_code
def yX7_lays : MethodName := ⟨RX7, "lays", "()V"⟩
abbrev cX7_isEdge : ByteArray := prog_9_method_34_code
def yX7_isEdge : MethodName := ⟨RX7, "isEdge", "(II)Z"⟩
abbrev cX7_edgesOf : ByteArray := prog_9_method_35_code
def yX7_edgesOf : MethodName := ⟨RX7, "edgesOf", "(I)I"⟩
abbrev cX7_of : ByteArray := prog_9_method_36_code
def yX7_of : MethodName := ⟨RX7, "of", "(II)I"⟩
abbrev cX7_member : ByteArray := prog_9_method_37_code
def yX7_member : MethodName := ⟨RX7, "member", "(IIIII)I"⟩
abbrev cX7_showing : ByteArray := prog_9_method_38_code
def yX7_showing : MethodName := ⟨RX7, "showing", "()I"⟩
abbrev cX7_edges : ByteArray := prog_9_method_39_code
def yX7_edges : MethodName := ⟨RX7, "edges", "()I"⟩
abbrev cX7_mostOn : ByteArray := prog_9_method_40_code
def yX7_mostOn : MethodName := ⟨RX7, "mostOn", "()I"⟩
abbrev cX7_mostAt : ByteArray := prog_9_method_41_code
def yX7_mostAt : MethodName := ⟨RX7, "mostAt", "()I"⟩
abbrev cX7_all : ByteArray := prog_9_method_42_code
def yX7_all : MethodName := ⟨RX7, "all", "(I)I"⟩
abbrev cX7_fraction : ByteArray := prog_9_method_43_code
def yX7_fraction : MethodName := ⟨RX7, "fraction", "(II)V"⟩
abbrev cX7_corner : ByteArray := prog_9_method_44_code
def yX7_corner : MethodName := ⟨RX7, "corner", "(II)I"⟩
abbrev cX7_meets : ByteArray := prog_9_method_45_code
def yX7_meets : MethodName := ⟨RX7, "meets", "(II)I"⟩
abbrev cX7_part : ByteArray := prog_9_method_46_code
def yX7_part : MethodName := ⟨RX7, "part", "(I)J"⟩
abbrev cX7_edge : ByteArray := prog_9_method_47_code
def yX7_edge : MethodName := ⟨RX7, "edge", "(III)I"⟩
abbrev cX7_farthest : ByteArray := prog_9_method_48_code
def yX7_farthest : MethodName := ⟨RX7, "farthest", "(III)I"⟩
abbrev cX7_farOf : ByteArray := prog_9_method_49_code
def yX7_farOf : MethodName := ⟨RX7, "farOf", "(IIII)I"⟩
abbrev cX7_reach : ByteArray := prog_9_method_50_code
def yX7_reach : MethodName := ⟨RX7, "reach", "(III)I"⟩
abbrev cX7_isStaying : ByteArray := prog_9_method_51_code
def yX7_isStaying : MethodName := ⟨RX7, "isStaying", "(I)Z"⟩
abbrev cX7_stays : ByteArray := prog_9_method_52_code
def yX7_stays : MethodName := ⟨RX7, "stays", "(I)I"⟩
abbrev cX7_symmetry : ByteArray := prog_9_method_53_code
def yX7_symmetry : MethodName := ⟨RX7, "symmetry", "()I"⟩
abbrev cX7_hides : ByteArray := prog_9_method_54_code
def yX7_hides : MethodName := ⟨RX7, "hides", "(IIII)I"⟩
abbrev cX7_spare : ByteArray := prog_9_method_55_code
def yX7_spare : MethodName := ⟨RX7, "spare", "(I)I"⟩
abbrev cX7_type : ByteArray := prog_9_method_56_code
def yX7_type : MethodName := ⟨RX7, "type", "(I)I"⟩
abbrev cX7_clear : ByteArray := prog_9_method_57_code
def yX7_clear : MethodName := ⟨RX7, "clear", "()I"⟩
abbrev cX7_byteAt : ByteArray := prog_9_method_58_code
def yX7_byteAt : MethodName := ⟨RX7, "byteAt", "(I)I"⟩
abbrev cX7_skips : ByteArray := prog_9_method_59_code
def yX7_skips : MethodName := ⟨RX7, "skips", "()V"⟩
abbrev cX7_isFamily : ByteArray := prog_9_method_60_code
def yX7_isFamily : MethodName := ⟨RX7, "isFamily", "()Z"⟩
abbrev cX7_readsTurns : ByteArray := prog_9_method_61_code
def yX7_readsTurns : MethodName := ⟨RX7, "readsTurns", "()I"⟩
abbrev cX7_readsSign : ByteArray := prog_9_method_62_code
def yX7_readsSign : MethodName := ⟨RX7, "readsSign", "()Z"⟩
abbrev cX7_readsOff : ByteArray := prog_9_method_63_code
def yX7_readsOff : MethodName := ⟨RX7, "readsOff", "()I"⟩
abbrev cX7_sentence : ByteArray := prog_9_method_64_code
def yX7_sentence : MethodName := ⟨RX7, "sentence", "()Z"⟩
abbrev cX7_reads : ByteArray := prog_9_method_65_code
def yX7_reads : MethodName := ⟨RX7, "reads", "()I"⟩
abbrev cX7_back : ByteArray := prog_9_method_66_code
def yX7_back : MethodName := ⟨RX7, "back", "()I"⟩
abbrev cX7_toldOf : ByteArray := prog_9_method_67_code
def yX7_toldOf : MethodName := ⟨RX7, "toldOf", "(I)I"⟩
abbrev cX7_told : ByteArray := prog_9_method_68_code
def yX7_told : MethodName := ⟨RX7, "told", "(I)I"⟩
abbrev cX7_digest : ByteArray := prog_9_method_69_code
def yX7_digest : MethodName := ⟨RX7, "digest", "()J"⟩
def RJ6 : String := "java/lang/Integer"
def TJ6 : u_T := fun k => match k with
  | _ => ("", "", "", false)
def tyJ6 : Nat → FieldType := fun k => match k with
  | _ => .int
abbrev wsJ60 : List Cond := u_ws RJ6 TJ6 0
theorem nmJ6 : ∀ a, a < 0 → ∀ b, b < 0 → a ≠ b → (TJ6 a).2.1 ≠ (TJ6 b).2.1 := by decide +kernel
theorem tyJ6_ok : ∀ k, k < 0 → parseFieldDescriptor (TJ6 k).2.2.1 = some (tyJ6 k) := by decide +kernel
abbrev cJ6_bitCount_0f7a4 : ByteArray := prog_10_method_49_code
def yJ6_bitCount_0f7a4 : MethodName := ⟨RJ6, "bitCount", "(I)I"⟩
def RJ9 : String := "java/lang/Math"
def TJ9 : u_T := fun k => match k with
  | _ => ("", "", "", false)
def tyJ9 : Nat → FieldType := fun k => match k with
  | _ => .int
abbrev wsJ90 : List Cond := u_ws RJ9 TJ9 0
theorem nmJ9 : ∀ a, a < 0 → ∀ b, b < 0 → a ≠ b → (TJ9 a).2.1 ≠ (TJ9 b).2.1 := by decide +kernel
theorem tyJ9_ok : ∀ k, k < 0 → parseFieldDescriptor (TJ9 k).2.2.1 = some (tyJ9 k) := by decide +kernel
abbrev cJ9_abs_0f7a4 : ByteArray := prog_11_method_59_code
def yJ9_abs_0f7a4 : MethodName := ⟨RJ9, "abs", "(I)I"⟩
abbrev cJ9_max_7cf53 : ByteArray := prog_11_method_65_code
def yJ9_max_7cf53 : MethodName := ⟨RJ9, "max", "(II)I"⟩
abbrev cJ9_min_7cf53 : ByteArray := prog_11_method_69_code
def yJ9_min_7cf53 : MethodName := ⟨RJ9, "min", "(II)I"⟩
def RJ10 : String := "java/lang/System"
def TJ10 : u_T := fun k => match k with
  | _ => ("", "", "", false)
def tyJ10 : Nat → FieldType := fun k => match k with
  | _ => .int
abbrev wsJ100 : List Cond := u_ws RJ10 TJ10 0
theorem nmJ10 : ∀ a, a < 0 → ∀ b, b < 0 → a ≠ b → (TJ10 a).2.1 ≠ (TJ10 b).2.1 := by decide +kernel
theorem tyJ10_ok : ∀ k, k < 0 → parseFieldDescriptor (TJ10 k).2.2.1 = some (tyJ10 k) := by decide +kernel
def RJ7 : String := "java/util/Arrays"
def TJ7 : u_T := fun k => match k with
  | _ => ("", "", "", false)
def tyJ7 : Nat → FieldType := fun k => match k with
  | _ => .int
abbrev wsJ70 : List Cond := u_ws RJ7 TJ7 0
theorem nmJ7 : ∀ a, a < 0 → ∀ b, b < 0 → a ≠ b → (TJ7 a).2.1 ≠ (TJ7 b).2.1 := by decide +kernel
theorem tyJ7_ok : ∀ k, k < 0 → parseFieldDescriptor (TJ7 k).2.2.1 = some (tyJ7 k) := by decide +kernel
abbrev cJ7_fill_53178 : ByteArray := prog_13_method_103_code
def yJ7_fill_53178 : MethodName := ⟨RJ7, "fill", "([II)V"⟩
abbrev cJ7_fill_031fb : ByteArray := prog_13_method_109_code
def yJ7_fill_031fb : MethodName := ⟨RJ7, "fill", "([BB)V"⟩
def RL : String := "CrystalCutsLaw"
abbrev cL_law : ByteArray := code
def yL_law : MethodName := ⟨RL, "law", "([I)Z"⟩
abbrev vwCl : List vw_C := [(RX0, TX0, 3), (RX1, TX1, 11), (RX2, TX2, 5), (RX3, TX3, 9), (RX4, TX4, 9), (RX5, TX5, 3), (RX6, TX6, 16), (RX7, TX7, 16)]
end
section
theorem dX0_init_0 : decode cX0_init 0 = .ok (.aload_n 0, 1) := by decide +kernel
theorem dX0_init_1 : decode cX0_init 1 = .ok (.invokespecial 3, 3) := by decide +kernel
theorem dX0_init_4 : decode cX0_init 4 = .ok (.aload_n 0, 1) := by decide +kernel
theorem dX0_init_5 : decode cX0_init 5 = .ok (.sipush 667, 3) := by decide +kernel
theorem dX0_init_8 : decode cX0_init 8 = .ok (.newarray .byte, 2) := by decide +kernel
theorem dX0_init_10 : decode cX0_init 10 = .ok (.putfield 9, 3) := by decide +kernel
theorem dX0_init_13 : decode cX0_init 13 = .ok (.aload_n 0, 1) := by decide +kernel
theorem dX0_init_14 : decode cX0_init 14 = .ok (.bipush 48, 2) := by decide +kernel
theorem dX0_init_16 : decode cX0_init 16 = .ok (.newarray .int, 2) := by decide +kernel
theorem dX0_init_18 : decode cX0_init 18 = .ok (.putfield 15, 3) := by decide +kernel
theorem dX0_init_21 : decode cX0_init 21 = .ok (.return_, 1) := by decide +kernel
theorem dX0_gather_0 : decode cX0_gather 0 = .ok (.aload_n 0, 1) := by decide +kernel
theorem dX0_gather_1 : decode cX0_gather 1 = .ok (.getfield 9, 3) := by decide +kernel
theorem dX0_gather_4 : decode cX0_gather 4 = .ok (.iconst 0, 1) := by decide +kernel
theorem dX0_gather_5 : decode cX0_gather 5 = .ok (.invokestatic 19, 3) := by decide +kernel
theorem dX0_gather_8 : decode cX0_gather 8 = .ok (.aload_n 0, 1) := by decide +kernel
theorem dX0_gather_9 : decode cX0_gather 9 = .ok (.iconst 0, 1) := by decide +kernel
theorem dX0_gather_10 : decode cX0_gather 10 = .ok (.putfield 25, 3) := by decide +kernel
theorem dX0_gather_13 : decode cX0_gather 13 = .ok (.aload_n 0, 1) := by decide +kernel
theorem dX0_gather_14 : decode cX0_gather 14 = .ok (.iload_n 2, 1) := by decide +kernel
theorem dX0_gather_15 : decode cX0_gather 15 = .ok (.iload_n 3, 1) := by decide +kernel
theorem dX0_gather_16 : decode cX0_gather 16 = .ok (.iload 4, 2) := by decide +kernel
theorem dX0_gather_18 : decode cX0_gather 18 = .ok (.invokevirtual 29, 3) := by decide +kernel
theorem dX0_gather_21 : decode cX0_gather 21 = .ok (.iconst 0, 1) := by decide +kernel
theorem dX0_gather_22 : decode cX0_gather 22 = .ok (.istore 5, 2) := by decide +kernel
theorem dX0_gather_24 : decode cX0_gather 24 = .ok (.iload 5, 2) := by decide +kernel
theorem dX0_gather_26 : decode cX0_gather 26 = .ok (.aload_n 0, 1) := by decide +kernel
theorem dX0_gather_27 : decode cX0_gather 27 = .ok (.getfield 25, 3) := by decide +kernel
theorem dX0_gather_30 : decode cX0_gather 30 = .ok (.if_icmp .ge 28, 3) := by decide +kernel
theorem dX0_gather_33 : decode cX0_gather 33 = .ok (.iload 5, 2) := by decide +kernel
theorem dX0_gather_35 : decode cX0_gather 35 = .ok (.bipush 48, 2) := by decide +kernel
theorem dX0_gather_37 : decode cX0_gather 37 = .ok (.if_icmp .ge 21, 3) := by decide +kernel
theorem dX0_gather_40 : decode cX0_gather 40 = .ok (.aload_n 0, 1) := by decide +kernel
theorem dX0_gather_41 : decode cX0_gather 41 = .ok (.iload_n 1, 1) := by decide +kernel
theorem dX0_gather_42 : decode cX0_gather 42 = .ok (.aload_n 0, 1) := by decide +kernel
theorem dX0_gather_43 : decode cX0_gather 43 = .ok (.getfield 15, 3) := by decide +kernel
theorem dX0_gather_46 : decode cX0_gather 46 = .ok (.iload 5, 2) := by decide +kernel
theorem dX0_gather_48 : decode cX0_gather 48 = .ok (.iaload, 1) := by decide +kernel
theorem dX0_gather_49 : decode cX0_gather 49 = .ok (.invokevirtual 33, 3) := by decide +kernel
theorem dX0_gather_52 : decode cX0_gather 52 = .ok (.iinc 5 1, 3) := by decide +kernel
theorem dX0_gather_55 : decode cX0_gather 55 = .ok (.goto (-31), 3) := by decide +kernel
theorem dX0_gather_58 : decode cX0_gather 58 = .ok (.aload_n 0, 1) := by decide +kernel
theorem dX0_gather_59 : decode cX0_gather 59 = .ok (.invokevirtual 37, 3) := by decide +kernel
theorem dX0_gather_62 : decode cX0_gather 62 = .ok (.return_, 1) := by decide +kernel
theorem dX0_noteTurned_0 : decode cX0_noteTurned 0 = .ok (.iload_n 2, 1) := by decide +kernel
theorem dX0_noteTurned_1 : decode cX0_noteTurned 1 = .ok (.bipush 100, 2) := by decide +kernel
theorem dX0_noteTurned_3 : decode cX0_noteTurned 3 = .ok (.idiv, 1) := by decide +kernel
theorem dX0_noteTurned_4 : decode cX0_noteTurned 4 = .ok (.iconst 3, 1) := by decide +kernel
theorem dX0_noteTurned_5 : decode cX0_noteTurned 5 = .ok (.isub, 1) := by decide +kernel
theorem dX0_noteTurned_6 : decode cX0_noteTurned 6 = .ok (.istore_n 3, 1) := by decide +kernel
theorem dX0_noteTurned_7 : decode cX0_noteTurned 7 = .ok (.iload_n 2, 1) := by decide +kernel
theorem dX0_noteTurned_8 : decode cX0_noteTurned 8 = .ok (.bipush 10, 2) := by decide +kernel
theorem dX0_noteTurned_10 : decode cX0_noteTurned 10 = .ok (.idiv, 1) := by decide +kernel
theorem dX0_noteTurned_11 : decode cX0_noteTurned 11 = .ok (.bipush 10, 2) := by decide +kernel
theorem dX0_noteTurned_13 : decode cX0_noteTurned 13 = .ok (.irem, 1) := by decide +kernel
theorem dX0_noteTurned_14 : decode cX0_noteTurned 14 = .ok (.iconst 3, 1) := by decide +kernel
theorem dX0_noteTurned_15 : decode cX0_noteTurned 15 = .ok (.isub, 1) := by decide +kernel
theorem dX0_noteTurned_16 : decode cX0_noteTurned 16 = .ok (.istore 4, 2) := by decide +kernel
theorem dX0_noteTurned_18 : decode cX0_noteTurned 18 = .ok (.iload_n 2, 1) := by decide +kernel
theorem dX0_noteTurned_19 : decode cX0_noteTurned 19 = .ok (.bipush 10, 2) := by decide +kernel
theorem dX0_noteTurned_21 : decode cX0_noteTurned 21 = .ok (.irem, 1) := by decide +kernel
theorem dX0_noteTurned_22 : decode cX0_noteTurned 22 = .ok (.iconst 3, 1) := by decide +kernel
theorem dX0_noteTurned_23 : decode cX0_noteTurned 23 = .ok (.isub, 1) := by decide +kernel
theorem dX0_noteTurned_24 : decode cX0_noteTurned 24 = .ok (.istore 5, 2) := by decide +kernel
theorem dX0_noteTurned_26 : decode cX0_noteTurned 26 = .ok (.iconst 0, 1) := by decide +kernel
theorem dX0_noteTurned_27 : decode cX0_noteTurned 27 = .ok (.istore 6, 2) := by decide +kernel
theorem dX0_noteTurned_29 : decode cX0_noteTurned 29 = .ok (.iload 6, 2) := by decide +kernel
theorem dX0_noteTurned_31 : decode cX0_noteTurned 31 = .ok (.bipush 6, 2) := by decide +kernel
theorem dX0_noteTurned_33 : decode cX0_noteTurned 33 = .ok (.if_icmp .ge 56, 3) := by decide +kernel
theorem dX0_noteTurned_36 : decode cX0_noteTurned 36 = .ok (.iload_n 1, 1) := by decide +kernel
theorem dX0_noteTurned_37 : decode cX0_noteTurned 37 = .ok (.iload 6, 2) := by decide +kernel
theorem dX0_noteTurned_39 : decode cX0_noteTurned 39 = .ok (.ishr, 1) := by decide +kernel
theorem dX0_noteTurned_40 : decode cX0_noteTurned 40 = .ok (.iconst 1, 1) := by decide +kernel
theorem dX0_noteTurned_41 : decode cX0_noteTurned 41 = .ok (.iand, 1) := by decide +kernel
theorem dX0_noteTurned_42 : decode cX0_noteTurned 42 = .ok (.iconst 1, 1) := by decide +kernel
theorem dX0_noteTurned_43 : decode cX0_noteTurned 43 = .ok (.if_icmp .ne 40, 3) := by decide +kernel
theorem dX0_noteTurned_46 : decode cX0_noteTurned 46 = .ok (.aload_n 0, 1) := by decide +kernel
theorem dX0_noteTurned_47 : decode cX0_noteTurned 47 = .ok (.iload 6, 2) := by decide +kernel
theorem dX0_noteTurned_49 : decode cX0_noteTurned 49 = .ok (.iconst 0, 1) := by decide +kernel
theorem dX0_noteTurned_50 : decode cX0_noteTurned 50 = .ok (.iload_n 3, 1) := by decide +kernel
theorem dX0_noteTurned_51 : decode cX0_noteTurned 51 = .ok (.iload 4, 2) := by decide +kernel
theorem dX0_noteTurned_53 : decode cX0_noteTurned 53 = .ok (.iload 5, 2) := by decide +kernel
theorem dX0_noteTurned_55 : decode cX0_noteTurned 55 = .ok (.invokestatic 40, 3) := by decide +kernel
theorem dX0_noteTurned_58 : decode cX0_noteTurned 58 = .ok (.iload 6, 2) := by decide +kernel
theorem dX0_noteTurned_60 : decode cX0_noteTurned 60 = .ok (.iconst 1, 1) := by decide +kernel
theorem dX0_noteTurned_61 : decode cX0_noteTurned 61 = .ok (.iload_n 3, 1) := by decide +kernel
theorem dX0_noteTurned_62 : decode cX0_noteTurned 62 = .ok (.iload 4, 2) := by decide +kernel
theorem dX0_noteTurned_64 : decode cX0_noteTurned 64 = .ok (.iload 5, 2) := by decide +kernel
theorem dX0_noteTurned_66 : decode cX0_noteTurned 66 = .ok (.invokestatic 40, 3) := by decide +kernel
theorem dX0_noteTurned_69 : decode cX0_noteTurned 69 = .ok (.iload 6, 2) := by decide +kernel
theorem dX0_noteTurned_71 : decode cX0_noteTurned 71 = .ok (.iconst 2, 1) := by decide +kernel
theorem dX0_noteTurned_72 : decode cX0_noteTurned 72 = .ok (.iload_n 3, 1) := by decide +kernel
theorem dX0_noteTurned_73 : decode cX0_noteTurned 73 = .ok (.iload 4, 2) := by decide +kernel
theorem dX0_noteTurned_75 : decode cX0_noteTurned 75 = .ok (.iload 5, 2) := by decide +kernel
theorem dX0_noteTurned_77 : decode cX0_noteTurned 77 = .ok (.invokestatic 40, 3) := by decide +kernel
theorem dX0_noteTurned_80 : decode cX0_noteTurned 80 = .ok (.invokevirtual 29, 3) := by decide +kernel
theorem dX0_noteTurned_83 : decode cX0_noteTurned 83 = .ok (.iinc 6 1, 3) := by decide +kernel
theorem dX0_noteTurned_86 : decode cX0_noteTurned 86 = .ok (.goto (-57), 3) := by decide +kernel
theorem dX0_noteTurned_89 : decode cX0_noteTurned 89 = .ok (.return_, 1) := by decide +kernel
theorem dX0_note_0 : decode cX0_note 0 = .ok (.bipush 100, 2) := by decide +kernel
theorem dX0_note_2 : decode cX0_note 2 = .ok (.iload_n 1, 1) := by decide +kernel
theorem dX0_note_3 : decode cX0_note 3 = .ok (.iconst 3, 1) := by decide +kernel
theorem dX0_note_4 : decode cX0_note 4 = .ok (.iadd, 1) := by decide +kernel
theorem dX0_note_5 : decode cX0_note 5 = .ok (.imul, 1) := by decide +kernel
theorem dX0_note_6 : decode cX0_note 6 = .ok (.bipush 10, 2) := by decide +kernel
theorem dX0_note_8 : decode cX0_note 8 = .ok (.iload_n 2, 1) := by decide +kernel
theorem dX0_note_9 : decode cX0_note 9 = .ok (.iconst 3, 1) := by decide +kernel
theorem dX0_note_10 : decode cX0_note 10 = .ok (.iadd, 1) := by decide +kernel
theorem dX0_note_11 : decode cX0_note 11 = .ok (.imul, 1) := by decide +kernel
theorem dX0_note_12 : decode cX0_note 12 = .ok (.iadd, 1) := by decide +kernel
theorem dX0_note_13 : decode cX0_note 13 = .ok (.iload_n 3, 1) := by decide +kernel
theorem dX0_note_14 : decode cX0_note 14 = .ok (.iadd, 1) := by decide +kernel
theorem dX0_note_15 : decode cX0_note 15 = .ok (.iconst 3, 1) := by decide +kernel
theorem dX0_note_16 : decode cX0_note 16 = .ok (.iadd, 1) := by decide +kernel
theorem dX0_note_17 : decode cX0_note 17 = .ok (.istore 4, 2) := by decide +kernel
theorem dX0_note_19 : decode cX0_note 19 = .ok (.iload 4, 2) := by decide +kernel
theorem dX0_note_21 : decode cX0_note 21 = .ok (.ifCond .lt 59, 3) := by decide +kernel
theorem dX0_note_24 : decode cX0_note 24 = .ok (.iload 4, 2) := by decide +kernel
theorem dX0_note_26 : decode cX0_note 26 = .ok (.sipush 667, 3) := by decide +kernel
theorem dX0_note_29 : decode cX0_note 29 = .ok (.if_icmp .ge 51, 3) := by decide +kernel
theorem dX0_note_32 : decode cX0_note 32 = .ok (.aload_n 0, 1) := by decide +kernel
theorem dX0_note_33 : decode cX0_note 33 = .ok (.getfield 9, 3) := by decide +kernel
theorem dX0_note_36 : decode cX0_note 36 = .ok (.iload 4, 2) := by decide +kernel
theorem dX0_note_38 : decode cX0_note 38 = .ok (.baload, 1) := by decide +kernel
theorem dX0_note_39 : decode cX0_note 39 = .ok (.ifCond .ne 41, 3) := by decide +kernel
theorem dX0_note_42 : decode cX0_note 42 = .ok (.aload_n 0, 1) := by decide +kernel
theorem dX0_note_43 : decode cX0_note 43 = .ok (.getfield 25, 3) := by decide +kernel
theorem dX0_note_46 : decode cX0_note 46 = .ok (.bipush 48, 2) := by decide +kernel
theorem dX0_note_48 : decode cX0_note 48 = .ok (.if_icmp .ge 32, 3) := by decide +kernel
theorem dX0_note_51 : decode cX0_note 51 = .ok (.aload_n 0, 1) := by decide +kernel
theorem dX0_note_52 : decode cX0_note 52 = .ok (.getfield 9, 3) := by decide +kernel
theorem dX0_note_55 : decode cX0_note 55 = .ok (.iload 4, 2) := by decide +kernel
theorem dX0_note_57 : decode cX0_note 57 = .ok (.iconst 1, 1) := by decide +kernel
theorem dX0_note_58 : decode cX0_note 58 = .ok (.bastore, 1) := by decide +kernel
theorem dX0_note_59 : decode cX0_note 59 = .ok (.aload_n 0, 1) := by decide +kernel
theorem dX0_note_60 : decode cX0_note 60 = .ok (.getfield 15, 3) := by decide +kernel
theorem dX0_note_63 : decode cX0_note 63 = .ok (.aload_n 0, 1) := by decide +kernel
theorem dX0_note_64 : decode cX0_note 64 = .ok (.getfield 25, 3) := by decide +kernel
theorem dX0_note_67 : decode cX0_note 67 = .ok (.iload 4, 2) := by decide +kernel
theorem dX0_note_69 : decode cX0_note 69 = .ok (.iastore, 1) := by decide +kernel
theorem dX0_note_70 : decode cX0_note 70 = .ok (.aload_n 0, 1) := by decide +kernel
theorem dX0_note_71 : decode cX0_note 71 = .ok (.dup, 1) := by decide +kernel
theorem dX0_note_72 : decode cX0_note 72 = .ok (.getfield 25, 3) := by decide +kernel
theorem dX0_note_75 : decode cX0_note 75 = .ok (.iconst 1, 1) := by decide +kernel
theorem dX0_note_76 : decode cX0_note 76 = .ok (.iadd, 1) := by decide +kernel
theorem dX0_note_77 : decode cX0_note 77 = .ok (.putfield 25, 3) := by decide +kernel
theorem dX0_note_80 : decode cX0_note 80 = .ok (.return_, 1) := by decide +kernel
theorem dX0_putInOrder_0 : decode cX0_putInOrder 0 = .ok (.iconst 0, 1) := by decide +kernel
theorem dX0_putInOrder_1 : decode cX0_putInOrder 1 = .ok (.istore_n 1, 1) := by decide +kernel
theorem dX0_putInOrder_2 : decode cX0_putInOrder 2 = .ok (.iconst 0, 1) := by decide +kernel
theorem dX0_putInOrder_3 : decode cX0_putInOrder 3 = .ok (.istore_n 2, 1) := by decide +kernel
theorem dX0_putInOrder_4 : decode cX0_putInOrder 4 = .ok (.iload_n 2, 1) := by decide +kernel
theorem dX0_putInOrder_5 : decode cX0_putInOrder 5 = .ok (.sipush 667, 3) := by decide +kernel
theorem dX0_putInOrder_8 : decode cX0_putInOrder 8 = .ok (.if_icmp .ge 36, 3) := by decide +kernel
theorem dX0_putInOrder_11 : decode cX0_putInOrder 11 = .ok (.iload_n 1, 1) := by decide +kernel
theorem dX0_putInOrder_12 : decode cX0_putInOrder 12 = .ok (.aload_n 0, 1) := by decide +kernel
theorem dX0_putInOrder_13 : decode cX0_putInOrder 13 = .ok (.getfield 25, 3) := by decide +kernel
theorem dX0_putInOrder_16 : decode cX0_putInOrder 16 = .ok (.if_icmp .ge 28, 3) := by decide +kernel
theorem dX0_putInOrder_19 : decode cX0_putInOrder 19 = .ok (.aload_n 0, 1) := by decide +kernel
theorem dX0_putInOrder_20 : decode cX0_putInOrder 20 = .ok (.getfield 9, 3) := by decide +kernel
theorem dX0_putInOrder_23 : decode cX0_putInOrder 23 = .ok (.iload_n 2, 1) := by decide +kernel
theorem dX0_putInOrder_24 : decode cX0_putInOrder 24 = .ok (.baload, 1) := by decide +kernel
theorem dX0_putInOrder_25 : decode cX0_putInOrder 25 = .ok (.ifCond .eq 13, 3) := by decide +kernel
theorem dX0_putInOrder_28 : decode cX0_putInOrder 28 = .ok (.aload_n 0, 1) := by decide +kernel
theorem dX0_putInOrder_29 : decode cX0_putInOrder 29 = .ok (.getfield 15, 3) := by decide +kernel
theorem dX0_putInOrder_32 : decode cX0_putInOrder 32 = .ok (.iload_n 1, 1) := by decide +kernel
theorem dX0_putInOrder_33 : decode cX0_putInOrder 33 = .ok (.iload_n 2, 1) := by decide +kernel
theorem dX0_putInOrder_34 : decode cX0_putInOrder 34 = .ok (.iastore, 1) := by decide +kernel
theorem dX0_putInOrder_35 : decode cX0_putInOrder 35 = .ok (.iinc 1 1, 3) := by decide +kernel
theorem dX0_putInOrder_38 : decode cX0_putInOrder 38 = .ok (.iinc 2 1, 3) := by decide +kernel
theorem dX0_putInOrder_41 : decode cX0_putInOrder 41 = .ok (.goto (-37), 3) := by decide +kernel
theorem dX0_putInOrder_44 : decode cX0_putInOrder 44 = .ok (.return_, 1) := by decide +kernel
theorem dX1_init_0 : decode cX1_init 0 = .ok (.aload_n 0, 1) := by decide +kernel
theorem dX1_init_1 : decode cX1_init 1 = .ok (.invokespecial 1, 3) := by decide +kernel
theorem dX1_init_4 : decode cX1_init 4 = .ok (.return_, 1) := by decide +kernel
theorem dX1_lay_0 : decode cX1_lay 0 = .ok (.aload_n 1, 1) := by decide +kernel
theorem dX1_lay_1 : decode cX1_lay 1 = .ok (.getfield 7, 3) := by decide +kernel
theorem dX1_lay_4 : decode cX1_lay 4 = .ok (.iload_n 2, 1) := by decide +kernel
theorem dX1_lay_5 : decode cX1_lay 5 = .ok (.iaload, 1) := by decide +kernel
theorem dX1_lay_6 : decode cX1_lay 6 = .ok (.istore 4, 2) := by decide +kernel
theorem dX1_lay_8 : decode cX1_lay 8 = .ok (.aload_n 1, 1) := by decide +kernel
theorem dX1_lay_9 : decode cX1_lay 9 = .ok (.getfield 13, 3) := by decide +kernel
theorem dX1_lay_12 : decode cX1_lay 12 = .ok (.iload_n 2, 1) := by decide +kernel
theorem dX1_lay_13 : decode cX1_lay 13 = .ok (.iaload, 1) := by decide +kernel
theorem dX1_lay_14 : decode cX1_lay 14 = .ok (.istore 5, 2) := by decide +kernel
theorem dX1_lay_16 : decode cX1_lay 16 = .ok (.aload_n 1, 1) := by decide +kernel
theorem dX1_lay_17 : decode cX1_lay 17 = .ok (.getfield 16, 3) := by decide +kernel
theorem dX1_lay_20 : decode cX1_lay 20 = .ok (.iload_n 2, 1) := by decide +kernel
theorem dX1_lay_21 : decode cX1_lay 21 = .ok (.iaload, 1) := by decide +kernel
theorem dX1_lay_22 : decode cX1_lay 22 = .ok (.istore 6, 2) := by decide +kernel
theorem dX1_lay_24 : decode cX1_lay 24 = .ok (.aload_n 1, 1) := by decide +kernel
theorem dX1_lay_25 : decode cX1_lay 25 = .ok (.getfield 19, 3) := by decide +kernel
theorem dX1_lay_28 : decode cX1_lay 28 = .ok (.iload_n 2, 1) := by decide +kernel
theorem dX1_lay_29 : decode cX1_lay 29 = .ok (.iaload, 1) := by decide +kernel
theorem dX1_lay_30 : decode cX1_lay 30 = .ok (.istore 7, 2) := by decide +kernel
theorem dX1_lay_32 : decode cX1_lay 32 = .ok (.aload_n 1, 1) := by decide +kernel
theorem dX1_lay_33 : decode cX1_lay 33 = .ok (.getfield 7, 3) := by decide +kernel
theorem dX1_lay_36 : decode cX1_lay 36 = .ok (.iload_n 3, 1) := by decide +kernel
theorem dX1_lay_37 : decode cX1_lay 37 = .ok (.iaload, 1) := by decide +kernel
theorem dX1_lay_38 : decode cX1_lay 38 = .ok (.istore 8, 2) := by decide +kernel
theorem dX1_lay_40 : decode cX1_lay 40 = .ok (.aload_n 1, 1) := by decide +kernel
theorem dX1_lay_41 : decode cX1_lay 41 = .ok (.getfield 13, 3) := by decide +kernel
theorem dX1_lay_44 : decode cX1_lay 44 = .ok (.iload_n 3, 1) := by decide +kernel
theorem dX1_lay_45 : decode cX1_lay 45 = .ok (.iaload, 1) := by decide +kernel
theorem dX1_lay_46 : decode cX1_lay 46 = .ok (.istore 9, 2) := by decide +kernel
theorem dX1_lay_48 : decode cX1_lay 48 = .ok (.aload_n 1, 1) := by decide +kernel
theorem dX1_lay_49 : decode cX1_lay 49 = .ok (.getfield 16, 3) := by decide +kernel
theorem dX1_lay_52 : decode cX1_lay 52 = .ok (.iload_n 3, 1) := by decide +kernel
theorem dX1_lay_53 : decode cX1_lay 53 = .ok (.iaload, 1) := by decide +kernel
theorem dX1_lay_54 : decode cX1_lay 54 = .ok (.istore 10, 2) := by decide +kernel
theorem dX1_lay_56 : decode cX1_lay 56 = .ok (.aload_n 1, 1) := by decide +kernel
theorem dX1_lay_57 : decode cX1_lay 57 = .ok (.getfield 19, 3) := by decide +kernel
theorem dX1_lay_60 : decode cX1_lay 60 = .ok (.iload_n 3, 1) := by decide +kernel
theorem dX1_lay_61 : decode cX1_lay 61 = .ok (.iaload, 1) := by decide +kernel
theorem dX1_lay_62 : decode cX1_lay 62 = .ok (.istore 11, 2) := by decide +kernel
theorem dX1_lay_64 : decode cX1_lay 64 = .ok (.aload_n 0, 1) := by decide +kernel
theorem dX1_lay_65 : decode cX1_lay 65 = .ok (.iload 5, 2) := by decide +kernel
theorem dX1_lay_67 : decode cX1_lay 67 = .ok (.iload 10, 2) := by decide +kernel
theorem dX1_lay_69 : decode cX1_lay 69 = .ok (.imul, 1) := by decide +kernel
theorem dX1_lay_70 : decode cX1_lay 70 = .ok (.iload 6, 2) := by decide +kernel
theorem dX1_lay_72 : decode cX1_lay 72 = .ok (.iload 9, 2) := by decide +kernel
theorem dX1_lay_74 : decode cX1_lay 74 = .ok (.imul, 1) := by decide +kernel
theorem dX1_lay_75 : decode cX1_lay 75 = .ok (.isub, 1) := by decide +kernel
theorem dX1_lay_76 : decode cX1_lay 76 = .ok (.putfield 22, 3) := by decide +kernel
theorem dX1_lay_79 : decode cX1_lay 79 = .ok (.aload_n 0, 1) := by decide +kernel
theorem dX1_lay_80 : decode cX1_lay 80 = .ok (.iload 6, 2) := by decide +kernel
theorem dX1_lay_82 : decode cX1_lay 82 = .ok (.iload 8, 2) := by decide +kernel
theorem dX1_lay_84 : decode cX1_lay 84 = .ok (.imul, 1) := by decide +kernel
theorem dX1_lay_85 : decode cX1_lay 85 = .ok (.iload 4, 2) := by decide +kernel
theorem dX1_lay_87 : decode cX1_lay 87 = .ok (.iload 10, 2) := by decide +kernel
theorem dX1_lay_89 : decode cX1_lay 89 = .ok (.imul, 1) := by decide +kernel
theorem dX1_lay_90 : decode cX1_lay 90 = .ok (.isub, 1) := by decide +kernel
theorem dX1_lay_91 : decode cX1_lay 91 = .ok (.putfield 28, 3) := by decide +kernel
theorem dX1_lay_94 : decode cX1_lay 94 = .ok (.aload_n 0, 1) := by decide +kernel
theorem dX1_lay_95 : decode cX1_lay 95 = .ok (.iload 4, 2) := by decide +kernel
theorem dX1_lay_97 : decode cX1_lay 97 = .ok (.iload 9, 2) := by decide +kernel
theorem dX1_lay_99 : decode cX1_lay 99 = .ok (.imul, 1) := by decide +kernel
theorem dX1_lay_100 : decode cX1_lay 100 = .ok (.iload 5, 2) := by decide +kernel
theorem dX1_lay_102 : decode cX1_lay 102 = .ok (.iload 8, 2) := by decide +kernel
theorem dX1_lay_104 : decode cX1_lay 104 = .ok (.imul, 1) := by decide +kernel
theorem dX1_lay_105 : decode cX1_lay 105 = .ok (.isub, 1) := by decide +kernel
theorem dX1_lay_106 : decode cX1_lay 106 = .ok (.putfield 31, 3) := by decide +kernel
theorem dX1_lay_109 : decode cX1_lay 109 = .ok (.aload_n 0, 1) := by decide +kernel
theorem dX1_lay_110 : decode cX1_lay 110 = .ok (.aload_n 0, 1) := by decide +kernel
theorem dX1_lay_111 : decode cX1_lay 111 = .ok (.getfield 22, 3) := by decide +kernel
theorem dX1_lay_114 : decode cX1_lay 114 = .ok (.aload_n 0, 1) := by decide +kernel
theorem dX1_lay_115 : decode cX1_lay 115 = .ok (.getfield 22, 3) := by decide +kernel
theorem dX1_lay_118 : decode cX1_lay 118 = .ok (.imul, 1) := by decide +kernel
theorem dX1_lay_119 : decode cX1_lay 119 = .ok (.aload_n 0, 1) := by decide +kernel
theorem dX1_lay_120 : decode cX1_lay 120 = .ok (.getfield 28, 3) := by decide +kernel
theorem dX1_lay_123 : decode cX1_lay 123 = .ok (.aload_n 0, 1) := by decide +kernel
theorem dX1_lay_124 : decode cX1_lay 124 = .ok (.getfield 28, 3) := by decide +kernel
theorem dX1_lay_127 : decode cX1_lay 127 = .ok (.imul, 1) := by decide +kernel
theorem dX1_lay_128 : decode cX1_lay 128 = .ok (.iadd, 1) := by decide +kernel
theorem dX1_lay_129 : decode cX1_lay 129 = .ok (.aload_n 0, 1) := by decide +kernel
theorem dX1_lay_130 : decode cX1_lay 130 = .ok (.getfield 31, 3) := by decide +kernel
theorem dX1_lay_133 : decode cX1_lay 133 = .ok (.aload_n 0, 1) := by decide +kernel
theorem dX1_lay_134 : decode cX1_lay 134 = .ok (.getfield 31, 3) := by decide +kernel
theorem dX1_lay_137 : decode cX1_lay 137 = .ok (.imul, 1) := by decide +kernel
theorem dX1_lay_138 : decode cX1_lay 138 = .ok (.iadd, 1) := by decide +kernel
theorem dX1_lay_139 : decode cX1_lay 139 = .ok (.putfield 34, 3) := by decide +kernel
theorem dX1_lay_142 : decode cX1_lay 142 = .ok (.aload_n 0, 1) := by decide +kernel
theorem dX1_lay_143 : decode cX1_lay 143 = .ok (.getfield 34, 3) := by decide +kernel
theorem dX1_lay_146 : decode cX1_lay 146 = .ok (.ifCond .ne 5, 3) := by decide +kernel
theorem dX1_lay_149 : decode cX1_lay 149 = .ok (.iconst 0, 1) := by decide +kernel
theorem dX1_lay_150 : decode cX1_lay 150 = .ok (.ireturn, 1) := by decide +kernel
theorem dX1_lay_151 : decode cX1_lay 151 = .ok (.aload_n 0, 1) := by decide +kernel
theorem dX1_lay_152 : decode cX1_lay 152 = .ok (.iload 7, 2) := by decide +kernel
theorem dX1_lay_154 : decode cX1_lay 154 = .ok (.iload 9, 2) := by decide +kernel
theorem dX1_lay_156 : decode cX1_lay 156 = .ok (.aload_n 0, 1) := by decide +kernel
theorem dX1_lay_157 : decode cX1_lay 157 = .ok (.getfield 31, 3) := by decide +kernel
theorem dX1_lay_160 : decode cX1_lay 160 = .ok (.imul, 1) := by decide +kernel
theorem dX1_lay_161 : decode cX1_lay 161 = .ok (.iload 10, 2) := by decide +kernel
theorem dX1_lay_163 : decode cX1_lay 163 = .ok (.aload_n 0, 1) := by decide +kernel
theorem dX1_lay_164 : decode cX1_lay 164 = .ok (.getfield 28, 3) := by decide +kernel
theorem dX1_lay_167 : decode cX1_lay 167 = .ok (.imul, 1) := by decide +kernel
theorem dX1_lay_168 : decode cX1_lay 168 = .ok (.isub, 1) := by decide +kernel
theorem dX1_lay_169 : decode cX1_lay 169 = .ok (.imul, 1) := by decide +kernel
theorem dX1_lay_170 : decode cX1_lay 170 = .ok (.iload 11, 2) := by decide +kernel
theorem dX1_lay_172 : decode cX1_lay 172 = .ok (.aload_n 0, 1) := by decide +kernel
theorem dX1_lay_173 : decode cX1_lay 173 = .ok (.getfield 28, 3) := by decide +kernel
theorem dX1_lay_176 : decode cX1_lay 176 = .ok (.iload 6, 2) := by decide +kernel
theorem dX1_lay_178 : decode cX1_lay 178 = .ok (.imul, 1) := by decide +kernel
theorem dX1_lay_179 : decode cX1_lay 179 = .ok (.aload_n 0, 1) := by decide +kernel
theorem dX1_lay_180 : decode cX1_lay 180 = .ok (.getfield 31, 3) := by decide +kernel
theorem dX1_lay_183 : decode cX1_lay 183 = .ok (.iload 5, 2) := by decide +kernel
theorem dX1_lay_185 : decode cX1_lay 185 = .ok (.imul, 1) := by decide +kernel
theorem dX1_lay_186 : decode cX1_lay 186 = .ok (.isub, 1) := by decide +kernel
theorem dX1_lay_187 : decode cX1_lay 187 = .ok (.imul, 1) := by decide +kernel
theorem dX1_lay_188 : decode cX1_lay 188 = .ok (.iadd, 1) := by decide +kernel
theorem dX1_lay_189 : decode cX1_lay 189 = .ok (.putfield 37, 3) := by decide +kernel
theorem dX1_lay_192 : decode cX1_lay 192 = .ok (.aload_n 0, 1) := by decide +kernel
theorem dX1_lay_193 : decode cX1_lay 193 = .ok (.iload 7, 2) := by decide +kernel
theorem dX1_lay_195 : decode cX1_lay 195 = .ok (.iload 10, 2) := by decide +kernel
theorem dX1_lay_197 : decode cX1_lay 197 = .ok (.aload_n 0, 1) := by decide +kernel
theorem dX1_lay_198 : decode cX1_lay 198 = .ok (.getfield 22, 3) := by decide +kernel
theorem dX1_lay_201 : decode cX1_lay 201 = .ok (.imul, 1) := by decide +kernel
theorem dX1_lay_202 : decode cX1_lay 202 = .ok (.iload 8, 2) := by decide +kernel
theorem dX1_lay_204 : decode cX1_lay 204 = .ok (.aload_n 0, 1) := by decide +kernel
theorem dX1_lay_205 : decode cX1_lay 205 = .ok (.getfield 31, 3) := by decide +kernel
theorem dX1_lay_208 : decode cX1_lay 208 = .ok (.imul, 1) := by decide +kernel
theorem dX1_lay_209 : decode cX1_lay 209 = .ok (.isub, 1) := by decide +kernel
theorem dX1_lay_210 : decode cX1_lay 210 = .ok (.imul, 1) := by decide +kernel
theorem dX1_lay_211 : decode cX1_lay 211 = .ok (.iload 11, 2) := by decide +kernel
theorem dX1_lay_213 : decode cX1_lay 213 = .ok (.aload_n 0, 1) := by decide +kernel
theorem dX1_lay_214 : decode cX1_lay 214 = .ok (.getfield 31, 3) := by decide +kernel
theorem dX1_lay_217 : decode cX1_lay 217 = .ok (.iload 4, 2) := by decide +kernel
theorem dX1_lay_219 : decode cX1_lay 219 = .ok (.imul, 1) := by decide +kernel
theorem dX1_lay_220 : decode cX1_lay 220 = .ok (.aload_n 0, 1) := by decide +kernel
theorem dX1_lay_221 : decode cX1_lay 221 = .ok (.getfield 22, 3) := by decide +kernel
theorem dX1_lay_224 : decode cX1_lay 224 = .ok (.iload 6, 2) := by decide +kernel
theorem dX1_lay_226 : decode cX1_lay 226 = .ok (.imul, 1) := by decide +kernel
theorem dX1_lay_227 : decode cX1_lay 227 = .ok (.isub, 1) := by decide +kernel
theorem dX1_lay_228 : decode cX1_lay 228 = .ok (.imul, 1) := by decide +kernel
theorem dX1_lay_229 : decode cX1_lay 229 = .ok (.iadd, 1) := by decide +kernel
theorem dX1_lay_230 : decode cX1_lay 230 = .ok (.putfield 40, 3) := by decide +kernel
theorem dX1_lay_233 : decode cX1_lay 233 = .ok (.aload_n 0, 1) := by decide +kernel
theorem dX1_lay_234 : decode cX1_lay 234 = .ok (.iload 7, 2) := by decide +kernel
theorem dX1_lay_236 : decode cX1_lay 236 = .ok (.iload 8, 2) := by decide +kernel
theorem dX1_lay_238 : decode cX1_lay 238 = .ok (.aload_n 0, 1) := by decide +kernel
theorem dX1_lay_239 : decode cX1_lay 239 = .ok (.getfield 28, 3) := by decide +kernel
theorem dX1_lay_242 : decode cX1_lay 242 = .ok (.imul, 1) := by decide +kernel
theorem dX1_lay_243 : decode cX1_lay 243 = .ok (.iload 9, 2) := by decide +kernel
theorem dX1_lay_245 : decode cX1_lay 245 = .ok (.aload_n 0, 1) := by decide +kernel
theorem dX1_lay_246 : decode cX1_lay 246 = .ok (.getfield 22, 3) := by decide +kernel
theorem dX1_lay_249 : decode cX1_lay 249 = .ok (.imul, 1) := by decide +kernel
theorem dX1_lay_250 : decode cX1_lay 250 = .ok (.isub, 1) := by decide +kernel
theorem dX1_lay_251 : decode cX1_lay 251 = .ok (.imul, 1) := by decide +kernel
theorem dX1_lay_252 : decode cX1_lay 252 = .ok (.iload 11, 2) := by decide +kernel
theorem dX1_lay_254 : decode cX1_lay 254 = .ok (.aload_n 0, 1) := by decide +kernel
theorem dX1_lay_255 : decode cX1_lay 255 = .ok (.getfield 22, 3) := by decide +kernel
theorem dX1_lay_258 : decode cX1_lay 258 = .ok (.iload 5, 2) := by decide +kernel
theorem dX1_lay_260 : decode cX1_lay 260 = .ok (.imul, 1) := by decide +kernel
theorem dX1_lay_261 : decode cX1_lay 261 = .ok (.aload_n 0, 1) := by decide +kernel
theorem dX1_lay_262 : decode cX1_lay 262 = .ok (.getfield 28, 3) := by decide +kernel
theorem dX1_lay_265 : decode cX1_lay 265 = .ok (.iload 4, 2) := by decide +kernel
theorem dX1_lay_267 : decode cX1_lay 267 = .ok (.imul, 1) := by decide +kernel
theorem dX1_lay_268 : decode cX1_lay 268 = .ok (.isub, 1) := by decide +kernel
theorem dX1_lay_269 : decode cX1_lay 269 = .ok (.imul, 1) := by decide +kernel
theorem dX1_lay_270 : decode cX1_lay 270 = .ok (.iadd, 1) := by decide +kernel
theorem dX1_lay_271 : decode cX1_lay 271 = .ok (.putfield 43, 3) := by decide +kernel
theorem dX1_lay_274 : decode cX1_lay 274 = .ok (.aload_n 0, 1) := by decide +kernel
theorem dX1_lay_275 : decode cX1_lay 275 = .ok (.iconst (-1), 1) := by decide +kernel
theorem dX1_lay_276 : decode cX1_lay 276 = .ok (.putfield 46, 3) := by decide +kernel
theorem dX1_lay_279 : decode cX1_lay 279 = .ok (.aload_n 0, 1) := by decide +kernel
theorem dX1_lay_280 : decode cX1_lay 280 = .ok (.iconst 0, 1) := by decide +kernel
theorem dX1_lay_281 : decode cX1_lay 281 = .ok (.putfield 49, 3) := by decide +kernel
theorem dX1_lay_284 : decode cX1_lay 284 = .ok (.aload_n 0, 1) := by decide +kernel
theorem dX1_lay_285 : decode cX1_lay 285 = .ok (.iconst 1, 1) := by decide +kernel
theorem dX1_lay_286 : decode cX1_lay 286 = .ok (.putfield 52, 3) := by decide +kernel
theorem dX1_lay_289 : decode cX1_lay 289 = .ok (.aload_n 0, 1) := by decide +kernel
theorem dX1_lay_290 : decode cX1_lay 290 = .ok (.iconst 0, 1) := by decide +kernel
theorem dX1_lay_291 : decode cX1_lay 291 = .ok (.putfield 55, 3) := by decide +kernel
theorem dX1_lay_294 : decode cX1_lay 294 = .ok (.iconst 1, 1) := by decide +kernel
theorem dX1_lay_295 : decode cX1_lay 295 = .ok (.ireturn, 1) := by decide +kernel
theorem dX1_isLeftBy_0 : decode cX1_isLeftBy 0 = .ok (.iconst 0, 1) := by decide +kernel
theorem dX1_isLeftBy_1 : decode cX1_isLeftBy 1 = .ok (.istore_n 3, 1) := by decide +kernel
theorem dX1_isLeftBy_2 : decode cX1_isLeftBy 2 = .ok (.iload_n 3, 1) := by decide +kernel
theorem dX1_isLeftBy_3 : decode cX1_isLeftBy 3 = .ok (.aload_n 1, 1) := by decide +kernel
theorem dX1_isLeftBy_4 : decode cX1_isLeftBy 4 = .ok (.getfield 58, 3) := by decide +kernel
theorem dX1_isLeftBy_7 : decode cX1_isLeftBy 7 = .ok (.if_icmp .ge 25, 3) := by decide +kernel
theorem dX1_isLeftBy_10 : decode cX1_isLeftBy 10 = .ok (.iload_n 3, 1) := by decide +kernel
theorem dX1_isLeftBy_11 : decode cX1_isLeftBy 11 = .ok (.iload_n 2, 1) := by decide +kernel
theorem dX1_isLeftBy_12 : decode cX1_isLeftBy 12 = .ok (.if_icmp .eq 14, 3) := by decide +kernel
theorem dX1_isLeftBy_15 : decode cX1_isLeftBy 15 = .ok (.aload_n 0, 1) := by decide +kernel
theorem dX1_isLeftBy_16 : decode cX1_isLeftBy 16 = .ok (.aload_n 1, 1) := by decide +kernel
theorem dX1_isLeftBy_17 : decode cX1_isLeftBy 17 = .ok (.iload_n 3, 1) := by decide +kernel
theorem dX1_isLeftBy_18 : decode cX1_isLeftBy 18 = .ok (.invokevirtual 61, 3) := by decide +kernel
theorem dX1_isLeftBy_21 : decode cX1_isLeftBy 21 = .ok (.ifCond .ne 5, 3) := by decide +kernel
theorem dX1_isLeftBy_24 : decode cX1_isLeftBy 24 = .ok (.iconst 0, 1) := by decide +kernel
theorem dX1_isLeftBy_25 : decode cX1_isLeftBy 25 = .ok (.ireturn, 1) := by decide +kernel
theorem dX1_isLeftBy_26 : decode cX1_isLeftBy 26 = .ok (.iinc 3 1, 3) := by decide +kernel
theorem dX1_isLeftBy_29 : decode cX1_isLeftBy 29 = .ok (.goto (-27), 3) := by decide +kernel
theorem dX1_isLeftBy_32 : decode cX1_isLeftBy 32 = .ok (.iconst 1, 1) := by decide +kernel
theorem dX1_isLeftBy_33 : decode cX1_isLeftBy 33 = .ok (.ireturn, 1) := by decide +kernel
theorem dX1_isLeftBehind_0 : decode cX1_isLeftBehind 0 = .ok (.aload_n 1, 1) := by decide +kernel
theorem dX1_isLeftBehind_1 : decode cX1_isLeftBehind 1 = .ok (.getfield 7, 3) := by decide +kernel
theorem dX1_isLeftBehind_4 : decode cX1_isLeftBehind 4 = .ok (.iload_n 2, 1) := by decide +kernel
theorem dX1_isLeftBehind_5 : decode cX1_isLeftBehind 5 = .ok (.iaload, 1) := by decide +kernel
theorem dX1_isLeftBehind_6 : decode cX1_isLeftBehind 6 = .ok (.aload_n 0, 1) := by decide +kernel
theorem dX1_isLeftBehind_7 : decode cX1_isLeftBehind 7 = .ok (.getfield 22, 3) := by decide +kernel
theorem dX1_isLeftBehind_10 : decode cX1_isLeftBehind 10 = .ok (.imul, 1) := by decide +kernel
theorem dX1_isLeftBehind_11 : decode cX1_isLeftBehind 11 = .ok (.aload_n 1, 1) := by decide +kernel
theorem dX1_isLeftBehind_12 : decode cX1_isLeftBehind 12 = .ok (.getfield 13, 3) := by decide +kernel
theorem dX1_isLeftBehind_15 : decode cX1_isLeftBehind 15 = .ok (.iload_n 2, 1) := by decide +kernel
theorem dX1_isLeftBehind_16 : decode cX1_isLeftBehind 16 = .ok (.iaload, 1) := by decide +kernel
theorem dX1_isLeftBehind_17 : decode cX1_isLeftBehind 17 = .ok (.aload_n 0, 1) := by decide +kernel
theorem dX1_isLeftBehind_18 : decode cX1_isLeftBehind 18 = .ok (.getfield 28, 3) := by decide +kernel
theorem dX1_isLeftBehind_21 : decode cX1_isLeftBehind 21 = .ok (.imul, 1) := by decide +kernel
theorem dX1_isLeftBehind_22 : decode cX1_isLeftBehind 22 = .ok (.iadd, 1) := by decide +kernel
theorem dX1_isLeftBehind_23 : decode cX1_isLeftBehind 23 = .ok (.aload_n 1, 1) := by decide +kernel
theorem dX1_isLeftBehind_24 : decode cX1_isLeftBehind 24 = .ok (.getfield 16, 3) := by decide +kernel
theorem dX1_isLeftBehind_27 : decode cX1_isLeftBehind 27 = .ok (.iload_n 2, 1) := by decide +kernel
theorem dX1_isLeftBehind_28 : decode cX1_isLeftBehind 28 = .ok (.iaload, 1) := by decide +kernel
theorem dX1_isLeftBehind_29 : decode cX1_isLeftBehind 29 = .ok (.aload_n 0, 1) := by decide +kernel
theorem dX1_isLeftBehind_30 : decode cX1_isLeftBehind 30 = .ok (.getfield 31, 3) := by decide +kernel
theorem dX1_isLeftBehind_33 : decode cX1_isLeftBehind 33 = .ok (.imul, 1) := by decide +kernel
theorem dX1_isLeftBehind_34 : decode cX1_isLeftBehind 34 = .ok (.iadd, 1) := by decide +kernel
theorem dX1_isLeftBehind_35 : decode cX1_isLeftBehind 35 = .ok (.istore_n 3, 1) := by decide +kernel
theorem dX1_isLeftBehind_36 : decode cX1_isLeftBehind 36 = .ok (.aload_n 1, 1) := by decide +kernel
theorem dX1_isLeftBehind_37 : decode cX1_isLeftBehind 37 = .ok (.getfield 19, 3) := by decide +kernel
theorem dX1_isLeftBehind_40 : decode cX1_isLeftBehind 40 = .ok (.iload_n 2, 1) := by decide +kernel
theorem dX1_isLeftBehind_41 : decode cX1_isLeftBehind 41 = .ok (.iaload, 1) := by decide +kernel
theorem dX1_isLeftBehind_42 : decode cX1_isLeftBehind 42 = .ok (.aload_n 0, 1) := by decide +kernel
theorem dX1_isLeftBehind_43 : decode cX1_isLeftBehind 43 = .ok (.getfield 34, 3) := by decide +kernel
theorem dX1_isLeftBehind_46 : decode cX1_isLeftBehind 46 = .ok (.imul, 1) := by decide +kernel
theorem dX1_isLeftBehind_47 : decode cX1_isLeftBehind 47 = .ok (.aload_n 1, 1) := by decide +kernel
theorem dX1_isLeftBehind_48 : decode cX1_isLeftBehind 48 = .ok (.getfield 7, 3) := by decide +kernel
theorem dX1_isLeftBehind_51 : decode cX1_isLeftBehind 51 = .ok (.iload_n 2, 1) := by decide +kernel
theorem dX1_isLeftBehind_52 : decode cX1_isLeftBehind 52 = .ok (.iaload, 1) := by decide +kernel
theorem dX1_isLeftBehind_53 : decode cX1_isLeftBehind 53 = .ok (.aload_n 0, 1) := by decide +kernel
theorem dX1_isLeftBehind_54 : decode cX1_isLeftBehind 54 = .ok (.getfield 37, 3) := by decide +kernel
theorem dX1_isLeftBehind_57 : decode cX1_isLeftBehind 57 = .ok (.imul, 1) := by decide +kernel
theorem dX1_isLeftBehind_58 : decode cX1_isLeftBehind 58 = .ok (.isub, 1) := by decide +kernel
theorem dX1_isLeftBehind_59 : decode cX1_isLeftBehind 59 = .ok (.aload_n 1, 1) := by decide +kernel
theorem dX1_isLeftBehind_60 : decode cX1_isLeftBehind 60 = .ok (.getfield 13, 3) := by decide +kernel
theorem dX1_isLeftBehind_63 : decode cX1_isLeftBehind 63 = .ok (.iload_n 2, 1) := by decide +kernel
theorem dX1_isLeftBehind_64 : decode cX1_isLeftBehind 64 = .ok (.iaload, 1) := by decide +kernel
theorem dX1_isLeftBehind_65 : decode cX1_isLeftBehind 65 = .ok (.aload_n 0, 1) := by decide +kernel
theorem dX1_isLeftBehind_66 : decode cX1_isLeftBehind 66 = .ok (.getfield 40, 3) := by decide +kernel
theorem dX1_isLeftBehind_69 : decode cX1_isLeftBehind 69 = .ok (.imul, 1) := by decide +kernel
theorem dX1_isLeftBehind_70 : decode cX1_isLeftBehind 70 = .ok (.isub, 1) := by decide +kernel
theorem dX1_isLeftBehind_71 : decode cX1_isLeftBehind 71 = .ok (.aload_n 1, 1) := by decide +kernel
theorem dX1_isLeftBehind_72 : decode cX1_isLeftBehind 72 = .ok (.getfield 16, 3) := by decide +kernel
theorem dX1_isLeftBehind_75 : decode cX1_isLeftBehind 75 = .ok (.iload_n 2, 1) := by decide +kernel
theorem dX1_isLeftBehind_76 : decode cX1_isLeftBehind 76 = .ok (.iaload, 1) := by decide +kernel
theorem dX1_isLeftBehind_77 : decode cX1_isLeftBehind 77 = .ok (.aload_n 0, 1) := by decide +kernel
theorem dX1_isLeftBehind_78 : decode cX1_isLeftBehind 78 = .ok (.getfield 43, 3) := by decide +kernel
theorem dX1_isLeftBehind_81 : decode cX1_isLeftBehind 81 = .ok (.imul, 1) := by decide +kernel
theorem dX1_isLeftBehind_82 : decode cX1_isLeftBehind 82 = .ok (.isub, 1) := by decide +kernel
theorem dX1_isLeftBehind_83 : decode cX1_isLeftBehind 83 = .ok (.istore 4, 2) := by decide +kernel
theorem dX1_isLeftBehind_85 : decode cX1_isLeftBehind 85 = .ok (.iload_n 3, 1) := by decide +kernel
theorem dX1_isLeftBehind_86 : decode cX1_isLeftBehind 86 = .ok (.ifCond .ne 14, 3) := by decide +kernel
theorem dX1_isLeftBehind_89 : decode cX1_isLeftBehind 89 = .ok (.iload 4, 2) := by decide +kernel
theorem dX1_isLeftBehind_91 : decode cX1_isLeftBehind 91 = .ok (.ifCond .lt 7, 3) := by decide +kernel
theorem dX1_isLeftBehind_94 : decode cX1_isLeftBehind 94 = .ok (.iconst 1, 1) := by decide +kernel
theorem dX1_isLeftBehind_95 : decode cX1_isLeftBehind 95 = .ok (.goto 4, 3) := by decide +kernel
theorem dX1_isLeftBehind_98 : decode cX1_isLeftBehind 98 = .ok (.iconst 0, 1) := by decide +kernel
theorem dX1_isLeftBehind_99 : decode cX1_isLeftBehind 99 = .ok (.ireturn, 1) := by decide +kernel
theorem dX1_isLeftBehind_100 : decode cX1_isLeftBehind 100 = .ok (.iload_n 3, 1) := by decide +kernel
theorem dX1_isLeftBehind_101 : decode cX1_isLeftBehind 101 = .ok (.ifCond .le 30, 3) := by decide +kernel
theorem dX1_isLeftBehind_104 : decode cX1_isLeftBehind 104 = .ok (.iload 4, 2) := by decide +kernel
theorem dX1_isLeftBehind_106 : decode cX1_isLeftBehind 106 = .ok (.aload_n 0, 1) := by decide +kernel
theorem dX1_isLeftBehind_107 : decode cX1_isLeftBehind 107 = .ok (.getfield 55, 3) := by decide +kernel
theorem dX1_isLeftBehind_110 : decode cX1_isLeftBehind 110 = .ok (.imul, 1) := by decide +kernel
theorem dX1_isLeftBehind_111 : decode cX1_isLeftBehind 111 = .ok (.aload_n 0, 1) := by decide +kernel
theorem dX1_isLeftBehind_112 : decode cX1_isLeftBehind 112 = .ok (.getfield 52, 3) := by decide +kernel
theorem dX1_isLeftBehind_115 : decode cX1_isLeftBehind 115 = .ok (.iload_n 3, 1) := by decide +kernel
theorem dX1_isLeftBehind_116 : decode cX1_isLeftBehind 116 = .ok (.imul, 1) := by decide +kernel
theorem dX1_isLeftBehind_117 : decode cX1_isLeftBehind 117 = .ok (.if_icmp .ge 14, 3) := by decide +kernel
theorem dX1_isLeftBehind_120 : decode cX1_isLeftBehind 120 = .ok (.aload_n 0, 1) := by decide +kernel
theorem dX1_isLeftBehind_121 : decode cX1_isLeftBehind 121 = .ok (.iload 4, 2) := by decide +kernel
theorem dX1_isLeftBehind_123 : decode cX1_isLeftBehind 123 = .ok (.putfield 52, 3) := by decide +kernel
theorem dX1_isLeftBehind_126 : decode cX1_isLeftBehind 126 = .ok (.aload_n 0, 1) := by decide +kernel
theorem dX1_isLeftBehind_127 : decode cX1_isLeftBehind 127 = .ok (.iload_n 3, 1) := by decide +kernel
theorem dX1_isLeftBehind_128 : decode cX1_isLeftBehind 128 = .ok (.putfield 55, 3) := by decide +kernel
theorem dX1_isLeftBehind_131 : decode cX1_isLeftBehind 131 = .ok (.iload_n 3, 1) := by decide +kernel
theorem dX1_isLeftBehind_132 : decode cX1_isLeftBehind 132 = .ok (.ifCond .ge 32, 3) := by decide +kernel
theorem dX1_isLeftBehind_135 : decode cX1_isLeftBehind 135 = .ok (.aload_n 0, 1) := by decide +kernel
theorem dX1_isLeftBehind_136 : decode cX1_isLeftBehind 136 = .ok (.getfield 46, 3) := by decide +kernel
theorem dX1_isLeftBehind_139 : decode cX1_isLeftBehind 139 = .ok (.iload_n 3, 1) := by decide +kernel
theorem dX1_isLeftBehind_140 : decode cX1_isLeftBehind 140 = .ok (.imul, 1) := by decide +kernel
theorem dX1_isLeftBehind_141 : decode cX1_isLeftBehind 141 = .ok (.iload 4, 2) := by decide +kernel
theorem dX1_isLeftBehind_143 : decode cX1_isLeftBehind 143 = .ok (.aload_n 0, 1) := by decide +kernel
theorem dX1_isLeftBehind_144 : decode cX1_isLeftBehind 144 = .ok (.getfield 49, 3) := by decide +kernel
theorem dX1_isLeftBehind_147 : decode cX1_isLeftBehind 147 = .ok (.imul, 1) := by decide +kernel
theorem dX1_isLeftBehind_148 : decode cX1_isLeftBehind 148 = .ok (.if_icmp .le 16, 3) := by decide +kernel
theorem dX1_isLeftBehind_151 : decode cX1_isLeftBehind 151 = .ok (.aload_n 0, 1) := by decide +kernel
theorem dX1_isLeftBehind_152 : decode cX1_isLeftBehind 152 = .ok (.iload 4, 2) := by decide +kernel
theorem dX1_isLeftBehind_154 : decode cX1_isLeftBehind 154 = .ok (.ineg, 1) := by decide +kernel
theorem dX1_isLeftBehind_155 : decode cX1_isLeftBehind 155 = .ok (.putfield 46, 3) := by decide +kernel
theorem dX1_isLeftBehind_158 : decode cX1_isLeftBehind 158 = .ok (.aload_n 0, 1) := by decide +kernel
theorem dX1_isLeftBehind_159 : decode cX1_isLeftBehind 159 = .ok (.iload_n 3, 1) := by decide +kernel
theorem dX1_isLeftBehind_160 : decode cX1_isLeftBehind 160 = .ok (.ineg, 1) := by decide +kernel
theorem dX1_isLeftBehind_161 : decode cX1_isLeftBehind 161 = .ok (.putfield 49, 3) := by decide +kernel
theorem dX1_isLeftBehind_164 : decode cX1_isLeftBehind 164 = .ok (.aload_n 0, 1) := by decide +kernel
theorem dX1_isLeftBehind_165 : decode cX1_isLeftBehind 165 = .ok (.getfield 46, 3) := by decide +kernel
theorem dX1_isLeftBehind_168 : decode cX1_isLeftBehind 168 = .ok (.aload_n 0, 1) := by decide +kernel
theorem dX1_isLeftBehind_169 : decode cX1_isLeftBehind 169 = .ok (.getfield 55, 3) := by decide +kernel
theorem dX1_isLeftBehind_172 : decode cX1_isLeftBehind 172 = .ok (.imul, 1) := by decide +kernel
theorem dX1_isLeftBehind_173 : decode cX1_isLeftBehind 173 = .ok (.aload_n 0, 1) := by decide +kernel
theorem dX1_isLeftBehind_174 : decode cX1_isLeftBehind 174 = .ok (.getfield 52, 3) := by decide +kernel
theorem dX1_isLeftBehind_177 : decode cX1_isLeftBehind 177 = .ok (.aload_n 0, 1) := by decide +kernel
theorem dX1_isLeftBehind_178 : decode cX1_isLeftBehind 178 = .ok (.getfield 49, 3) := by decide +kernel
theorem dX1_isLeftBehind_181 : decode cX1_isLeftBehind 181 = .ok (.imul, 1) := by decide +kernel
theorem dX1_isLeftBehind_182 : decode cX1_isLeftBehind 182 = .ok (.if_icmp .gt 7, 3) := by decide +kernel
theorem dX1_isLeftBehind_185 : decode cX1_isLeftBehind 185 = .ok (.iconst 1, 1) := by decide +kernel
theorem dX1_isLeftBehind_186 : decode cX1_isLeftBehind 186 = .ok (.goto 4, 3) := by decide +kernel
theorem dX1_isLeftBehind_189 : decode cX1_isLeftBehind 189 = .ok (.iconst 0, 1) := by decide +kernel
theorem dX1_isLeftBehind_190 : decode cX1_isLeftBehind 190 = .ok (.ireturn, 1) := by decide +kernel
theorem dX2_init_0 : decode cX2_init 0 = .ok (.aload_n 0, 1) := by decide +kernel
theorem dX2_init_1 : decode cX2_init 1 = .ok (.invokespecial 3, 3) := by decide +kernel
theorem dX2_init_4 : decode cX2_init 4 = .ok (.aload_n 0, 1) := by decide +kernel
theorem dX2_init_5 : decode cX2_init 5 = .ok (.bipush 32, 2) := by decide +kernel
theorem dX2_init_7 : decode cX2_init 7 = .ok (.newarray .int, 2) := by decide +kernel
theorem dX2_init_9 : decode cX2_init 9 = .ok (.putfield 9, 3) := by decide +kernel
theorem dX2_init_12 : decode cX2_init 12 = .ok (.aload_n 0, 1) := by decide +kernel
theorem dX2_init_13 : decode cX2_init 13 = .ok (.bipush 32, 2) := by decide +kernel
theorem dX2_init_15 : decode cX2_init 15 = .ok (.newarray .int, 2) := by decide +kernel
theorem dX2_init_17 : decode cX2_init 17 = .ok (.putfield 15, 3) := by decide +kernel
theorem dX2_init_20 : decode cX2_init 20 = .ok (.aload_n 0, 1) := by decide +kernel
theorem dX2_init_21 : decode cX2_init 21 = .ok (.bipush 32, 2) := by decide +kernel
theorem dX2_init_23 : decode cX2_init 23 = .ok (.newarray .int, 2) := by decide +kernel
theorem dX2_init_25 : decode cX2_init 25 = .ok (.putfield 18, 3) := by decide +kernel
theorem dX2_init_28 : decode cX2_init 28 = .ok (.aload_n 0, 1) := by decide +kernel
theorem dX2_init_29 : decode cX2_init 29 = .ok (.bipush 32, 2) := by decide +kernel
theorem dX2_init_31 : decode cX2_init 31 = .ok (.newarray .int, 2) := by decide +kernel
theorem dX2_init_33 : decode cX2_init 33 = .ok (.putfield 21, 3) := by decide +kernel
theorem dX2_init_36 : decode cX2_init 36 = .ok (.return_, 1) := by decide +kernel
theorem dX2_becomeBox_0 : decode cX2_becomeBox 0 = .ok (.aload_n 0, 1) := by decide +kernel
theorem dX2_becomeBox_1 : decode cX2_becomeBox 1 = .ok (.iconst 0, 1) := by decide +kernel
theorem dX2_becomeBox_2 : decode cX2_becomeBox 2 = .ok (.putfield 24, 3) := by decide +kernel
theorem dX2_becomeBox_5 : decode cX2_becomeBox 5 = .ok (.aload_n 0, 1) := by decide +kernel
theorem dX2_becomeBox_6 : decode cX2_becomeBox 6 = .ok (.iconst 1, 1) := by decide +kernel
theorem dX2_becomeBox_7 : decode cX2_becomeBox 7 = .ok (.iconst 0, 1) := by decide +kernel
theorem dX2_becomeBox_8 : decode cX2_becomeBox 8 = .ok (.iconst 0, 1) := by decide +kernel
theorem dX2_becomeBox_9 : decode cX2_becomeBox 9 = .ok (.bipush 20, 2) := by decide +kernel
theorem dX2_becomeBox_11 : decode cX2_becomeBox 11 = .ok (.invokevirtual 28, 3) := by decide +kernel
theorem dX2_becomeBox_14 : decode cX2_becomeBox 14 = .ok (.aload_n 0, 1) := by decide +kernel
theorem dX2_becomeBox_15 : decode cX2_becomeBox 15 = .ok (.iconst (-1), 1) := by decide +kernel
theorem dX2_becomeBox_16 : decode cX2_becomeBox 16 = .ok (.iconst 0, 1) := by decide +kernel
theorem dX2_becomeBox_17 : decode cX2_becomeBox 17 = .ok (.iconst 0, 1) := by decide +kernel
theorem dX2_becomeBox_18 : decode cX2_becomeBox 18 = .ok (.bipush 20, 2) := by decide +kernel
theorem dX2_becomeBox_20 : decode cX2_becomeBox 20 = .ok (.invokevirtual 28, 3) := by decide +kernel
theorem dX2_becomeBox_23 : decode cX2_becomeBox 23 = .ok (.aload_n 0, 1) := by decide +kernel
theorem dX2_becomeBox_24 : decode cX2_becomeBox 24 = .ok (.iconst 0, 1) := by decide +kernel
theorem dX2_becomeBox_25 : decode cX2_becomeBox 25 = .ok (.iconst 1, 1) := by decide +kernel
theorem dX2_becomeBox_26 : decode cX2_becomeBox 26 = .ok (.iconst 0, 1) := by decide +kernel
theorem dX2_becomeBox_27 : decode cX2_becomeBox 27 = .ok (.bipush 20, 2) := by decide +kernel
theorem dX2_becomeBox_29 : decode cX2_becomeBox 29 = .ok (.invokevirtual 28, 3) := by decide +kernel
theorem dX2_becomeBox_32 : decode cX2_becomeBox 32 = .ok (.aload_n 0, 1) := by decide +kernel
theorem dX2_becomeBox_33 : decode cX2_becomeBox 33 = .ok (.iconst 0, 1) := by decide +kernel
theorem dX2_becomeBox_34 : decode cX2_becomeBox 34 = .ok (.iconst (-1), 1) := by decide +kernel
theorem dX2_becomeBox_35 : decode cX2_becomeBox 35 = .ok (.iconst 0, 1) := by decide +kernel
theorem dX2_becomeBox_36 : decode cX2_becomeBox 36 = .ok (.bipush 20, 2) := by decide +kernel
theorem dX2_becomeBox_38 : decode cX2_becomeBox 38 = .ok (.invokevirtual 28, 3) := by decide +kernel
theorem dX2_becomeBox_41 : decode cX2_becomeBox 41 = .ok (.aload_n 0, 1) := by decide +kernel
theorem dX2_becomeBox_42 : decode cX2_becomeBox 42 = .ok (.iconst 0, 1) := by decide +kernel
theorem dX2_becomeBox_43 : decode cX2_becomeBox 43 = .ok (.iconst 0, 1) := by decide +kernel
theorem dX2_becomeBox_44 : decode cX2_becomeBox 44 = .ok (.iconst 1, 1) := by decide +kernel
theorem dX2_becomeBox_45 : decode cX2_becomeBox 45 = .ok (.bipush 20, 2) := by decide +kernel
theorem dX2_becomeBox_47 : decode cX2_becomeBox 47 = .ok (.invokevirtual 28, 3) := by decide +kernel
theorem dX2_becomeBox_50 : decode cX2_becomeBox 50 = .ok (.aload_n 0, 1) := by decide +kernel
theorem dX2_becomeBox_51 : decode cX2_becomeBox 51 = .ok (.iconst 0, 1) := by decide +kernel
theorem dX2_becomeBox_52 : decode cX2_becomeBox 52 = .ok (.iconst 0, 1) := by decide +kernel
theorem dX2_becomeBox_53 : decode cX2_becomeBox 53 = .ok (.iconst (-1), 1) := by decide +kernel
theorem dX2_becomeBox_54 : decode cX2_becomeBox 54 = .ok (.bipush 20, 2) := by decide +kernel
theorem dX2_becomeBox_56 : decode cX2_becomeBox 56 = .ok (.invokevirtual 28, 3) := by decide +kernel
theorem dX2_becomeBox_59 : decode cX2_becomeBox 59 = .ok (.return_, 1) := by decide +kernel
theorem dX2_put_0 : decode cX2_put 0 = .ok (.aload_n 0, 1) := by decide +kernel
theorem dX2_put_1 : decode cX2_put 1 = .ok (.getfield 24, 3) := by decide +kernel
theorem dX2_put_4 : decode cX2_put 4 = .ok (.bipush 32, 2) := by decide +kernel
theorem dX2_put_6 : decode cX2_put 6 = .ok (.if_icmp .ge 54, 3) := by decide +kernel
theorem dX2_put_9 : decode cX2_put 9 = .ok (.aload_n 0, 1) := by decide +kernel
theorem dX2_put_10 : decode cX2_put 10 = .ok (.getfield 9, 3) := by decide +kernel
theorem dX2_put_13 : decode cX2_put 13 = .ok (.aload_n 0, 1) := by decide +kernel
theorem dX2_put_14 : decode cX2_put 14 = .ok (.getfield 24, 3) := by decide +kernel
theorem dX2_put_17 : decode cX2_put 17 = .ok (.iload_n 1, 1) := by decide +kernel
theorem dX2_put_18 : decode cX2_put 18 = .ok (.iastore, 1) := by decide +kernel
theorem dX2_put_19 : decode cX2_put 19 = .ok (.aload_n 0, 1) := by decide +kernel
theorem dX2_put_20 : decode cX2_put 20 = .ok (.getfield 15, 3) := by decide +kernel
theorem dX2_put_23 : decode cX2_put 23 = .ok (.aload_n 0, 1) := by decide +kernel
theorem dX2_put_24 : decode cX2_put 24 = .ok (.getfield 24, 3) := by decide +kernel
theorem dX2_put_27 : decode cX2_put 27 = .ok (.iload_n 2, 1) := by decide +kernel
theorem dX2_put_28 : decode cX2_put 28 = .ok (.iastore, 1) := by decide +kernel
theorem dX2_put_29 : decode cX2_put 29 = .ok (.aload_n 0, 1) := by decide +kernel
theorem dX2_put_30 : decode cX2_put 30 = .ok (.getfield 18, 3) := by decide +kernel
theorem dX2_put_33 : decode cX2_put 33 = .ok (.aload_n 0, 1) := by decide +kernel
theorem dX2_put_34 : decode cX2_put 34 = .ok (.getfield 24, 3) := by decide +kernel
theorem dX2_put_37 : decode cX2_put 37 = .ok (.iload_n 3, 1) := by decide +kernel
theorem dX2_put_38 : decode cX2_put 38 = .ok (.iastore, 1) := by decide +kernel
theorem dX2_put_39 : decode cX2_put 39 = .ok (.aload_n 0, 1) := by decide +kernel
theorem dX2_put_40 : decode cX2_put 40 = .ok (.getfield 21, 3) := by decide +kernel
theorem dX2_put_43 : decode cX2_put 43 = .ok (.aload_n 0, 1) := by decide +kernel
theorem dX2_put_44 : decode cX2_put 44 = .ok (.getfield 24, 3) := by decide +kernel
theorem dX2_put_47 : decode cX2_put 47 = .ok (.iload 4, 2) := by decide +kernel
theorem dX2_put_49 : decode cX2_put 49 = .ok (.iastore, 1) := by decide +kernel
theorem dX2_put_50 : decode cX2_put 50 = .ok (.aload_n 0, 1) := by decide +kernel
theorem dX2_put_51 : decode cX2_put 51 = .ok (.dup, 1) := by decide +kernel
theorem dX2_put_52 : decode cX2_put 52 = .ok (.getfield 24, 3) := by decide +kernel
theorem dX2_put_55 : decode cX2_put 55 = .ok (.iconst 1, 1) := by decide +kernel
theorem dX2_put_56 : decode cX2_put 56 = .ok (.iadd, 1) := by decide +kernel
theorem dX2_put_57 : decode cX2_put 57 = .ok (.putfield 24, 3) := by decide +kernel
theorem dX2_put_60 : decode cX2_put 60 = .ok (.return_, 1) := by decide +kernel
theorem dX2_putFamily_0 : decode cX2_putFamily 0 = .ok (.iconst 0, 1) := by decide +kernel
theorem dX2_putFamily_1 : decode cX2_putFamily 1 = .ok (.istore_n 3, 1) := by decide +kernel
theorem dX2_putFamily_2 : decode cX2_putFamily 2 = .ok (.iload_n 3, 1) := by decide +kernel
theorem dX2_putFamily_3 : decode cX2_putFamily 3 = .ok (.aload_n 1, 1) := by decide +kernel
theorem dX2_putFamily_4 : decode cX2_putFamily 4 = .ok (.getfield 32, 3) := by decide +kernel
theorem dX2_putFamily_7 : decode cX2_putFamily 7 = .ok (.if_icmp .ge 46, 3) := by decide +kernel
theorem dX2_putFamily_10 : decode cX2_putFamily 10 = .ok (.aload_n 1, 1) := by decide +kernel
theorem dX2_putFamily_11 : decode cX2_putFamily 11 = .ok (.getfield 35, 3) := by decide +kernel
theorem dX2_putFamily_14 : decode cX2_putFamily 14 = .ok (.iload_n 3, 1) := by decide +kernel
theorem dX2_putFamily_15 : decode cX2_putFamily 15 = .ok (.iaload, 1) := by decide +kernel
theorem dX2_putFamily_16 : decode cX2_putFamily 16 = .ok (.istore 4, 2) := by decide +kernel
theorem dX2_putFamily_18 : decode cX2_putFamily 18 = .ok (.aload_n 0, 1) := by decide +kernel
theorem dX2_putFamily_19 : decode cX2_putFamily 19 = .ok (.iload 4, 2) := by decide +kernel
theorem dX2_putFamily_21 : decode cX2_putFamily 21 = .ok (.bipush 100, 2) := by decide +kernel
theorem dX2_putFamily_23 : decode cX2_putFamily 23 = .ok (.idiv, 1) := by decide +kernel
theorem dX2_putFamily_24 : decode cX2_putFamily 24 = .ok (.iconst 3, 1) := by decide +kernel
theorem dX2_putFamily_25 : decode cX2_putFamily 25 = .ok (.isub, 1) := by decide +kernel
theorem dX2_putFamily_26 : decode cX2_putFamily 26 = .ok (.iload 4, 2) := by decide +kernel
theorem dX2_putFamily_28 : decode cX2_putFamily 28 = .ok (.bipush 10, 2) := by decide +kernel
theorem dX2_putFamily_30 : decode cX2_putFamily 30 = .ok (.idiv, 1) := by decide +kernel
theorem dX2_putFamily_31 : decode cX2_putFamily 31 = .ok (.bipush 10, 2) := by decide +kernel
theorem dX2_putFamily_33 : decode cX2_putFamily 33 = .ok (.irem, 1) := by decide +kernel
theorem dX2_putFamily_34 : decode cX2_putFamily 34 = .ok (.iconst 3, 1) := by decide +kernel
theorem dX2_putFamily_35 : decode cX2_putFamily 35 = .ok (.isub, 1) := by decide +kernel
theorem dX2_putFamily_36 : decode cX2_putFamily 36 = .ok (.iload 4, 2) := by decide +kernel
theorem dX2_putFamily_38 : decode cX2_putFamily 38 = .ok (.bipush 10, 2) := by decide +kernel
theorem dX2_putFamily_40 : decode cX2_putFamily 40 = .ok (.irem, 1) := by decide +kernel
theorem dX2_putFamily_41 : decode cX2_putFamily 41 = .ok (.iconst 3, 1) := by decide +kernel
theorem dX2_putFamily_42 : decode cX2_putFamily 42 = .ok (.isub, 1) := by decide +kernel
theorem dX2_putFamily_43 : decode cX2_putFamily 43 = .ok (.iload_n 2, 1) := by decide +kernel
theorem dX2_putFamily_44 : decode cX2_putFamily 44 = .ok (.invokevirtual 28, 3) := by decide +kernel
theorem dX2_putFamily_47 : decode cX2_putFamily 47 = .ok (.iinc 3 1, 3) := by decide +kernel
theorem dX2_putFamily_50 : decode cX2_putFamily 50 = .ok (.goto (-48), 3) := by decide +kernel
theorem dX2_putFamily_53 : decode cX2_putFamily 53 = .ok (.return_, 1) := by decide +kernel
theorem dX2_takeOut_0 : decode cX2_takeOut 0 = .ok (.iload_n 1, 1) := by decide +kernel
theorem dX2_takeOut_1 : decode cX2_takeOut 1 = .ok (.istore_n 2, 1) := by decide +kernel
theorem dX2_takeOut_2 : decode cX2_takeOut 2 = .ok (.iload_n 2, 1) := by decide +kernel
theorem dX2_takeOut_3 : decode cX2_takeOut 3 = .ok (.iconst 1, 1) := by decide +kernel
theorem dX2_takeOut_4 : decode cX2_takeOut 4 = .ok (.iadd, 1) := by decide +kernel
theorem dX2_takeOut_5 : decode cX2_takeOut 5 = .ok (.aload_n 0, 1) := by decide +kernel
theorem dX2_takeOut_6 : decode cX2_takeOut 6 = .ok (.getfield 24, 3) := by decide +kernel
theorem dX2_takeOut_9 : decode cX2_takeOut 9 = .ok (.if_icmp .ge 65, 3) := by decide +kernel
theorem dX2_takeOut_12 : decode cX2_takeOut 12 = .ok (.aload_n 0, 1) := by decide +kernel
theorem dX2_takeOut_13 : decode cX2_takeOut 13 = .ok (.getfield 9, 3) := by decide +kernel
theorem dX2_takeOut_16 : decode cX2_takeOut 16 = .ok (.iload_n 2, 1) := by decide +kernel
theorem dX2_takeOut_17 : decode cX2_takeOut 17 = .ok (.aload_n 0, 1) := by decide +kernel
theorem dX2_takeOut_18 : decode cX2_takeOut 18 = .ok (.getfield 9, 3) := by decide +kernel
theorem dX2_takeOut_21 : decode cX2_takeOut 21 = .ok (.iload_n 2, 1) := by decide +kernel
theorem dX2_takeOut_22 : decode cX2_takeOut 22 = .ok (.iconst 1, 1) := by decide +kernel
theorem dX2_takeOut_23 : decode cX2_takeOut 23 = .ok (.iadd, 1) := by decide +kernel
theorem dX2_takeOut_24 : decode cX2_takeOut 24 = .ok (.iaload, 1) := by decide +kernel
theorem dX2_takeOut_25 : decode cX2_takeOut 25 = .ok (.iastore, 1) := by decide +kernel
theorem dX2_takeOut_26 : decode cX2_takeOut 26 = .ok (.aload_n 0, 1) := by decide +kernel
theorem dX2_takeOut_27 : decode cX2_takeOut 27 = .ok (.getfield 15, 3) := by decide +kernel
theorem dX2_takeOut_30 : decode cX2_takeOut 30 = .ok (.iload_n 2, 1) := by decide +kernel
theorem dX2_takeOut_31 : decode cX2_takeOut 31 = .ok (.aload_n 0, 1) := by decide +kernel
theorem dX2_takeOut_32 : decode cX2_takeOut 32 = .ok (.getfield 15, 3) := by decide +kernel
theorem dX2_takeOut_35 : decode cX2_takeOut 35 = .ok (.iload_n 2, 1) := by decide +kernel
theorem dX2_takeOut_36 : decode cX2_takeOut 36 = .ok (.iconst 1, 1) := by decide +kernel
theorem dX2_takeOut_37 : decode cX2_takeOut 37 = .ok (.iadd, 1) := by decide +kernel
theorem dX2_takeOut_38 : decode cX2_takeOut 38 = .ok (.iaload, 1) := by decide +kernel
theorem dX2_takeOut_39 : decode cX2_takeOut 39 = .ok (.iastore, 1) := by decide +kernel
theorem dX2_takeOut_40 : decode cX2_takeOut 40 = .ok (.aload_n 0, 1) := by decide +kernel
theorem dX2_takeOut_41 : decode cX2_takeOut 41 = .ok (.getfield 18, 3) := by decide +kernel
theorem dX2_takeOut_44 : decode cX2_takeOut 44 = .ok (.iload_n 2, 1) := by decide +kernel
theorem dX2_takeOut_45 : decode cX2_takeOut 45 = .ok (.aload_n 0, 1) := by decide +kernel
theorem dX2_takeOut_46 : decode cX2_takeOut 46 = .ok (.getfield 18, 3) := by decide +kernel
theorem dX2_takeOut_49 : decode cX2_takeOut 49 = .ok (.iload_n 2, 1) := by decide +kernel
theorem dX2_takeOut_50 : decode cX2_takeOut 50 = .ok (.iconst 1, 1) := by decide +kernel
theorem dX2_takeOut_51 : decode cX2_takeOut 51 = .ok (.iadd, 1) := by decide +kernel
theorem dX2_takeOut_52 : decode cX2_takeOut 52 = .ok (.iaload, 1) := by decide +kernel
theorem dX2_takeOut_53 : decode cX2_takeOut 53 = .ok (.iastore, 1) := by decide +kernel
theorem dX2_takeOut_54 : decode cX2_takeOut 54 = .ok (.aload_n 0, 1) := by decide +kernel
theorem dX2_takeOut_55 : decode cX2_takeOut 55 = .ok (.getfield 21, 3) := by decide +kernel
theorem dX2_takeOut_58 : decode cX2_takeOut 58 = .ok (.iload_n 2, 1) := by decide +kernel
theorem dX2_takeOut_59 : decode cX2_takeOut 59 = .ok (.aload_n 0, 1) := by decide +kernel
theorem dX2_takeOut_60 : decode cX2_takeOut 60 = .ok (.getfield 21, 3) := by decide +kernel
theorem dX2_takeOut_63 : decode cX2_takeOut 63 = .ok (.iload_n 2, 1) := by decide +kernel
theorem dX2_takeOut_64 : decode cX2_takeOut 64 = .ok (.iconst 1, 1) := by decide +kernel
theorem dX2_takeOut_65 : decode cX2_takeOut 65 = .ok (.iadd, 1) := by decide +kernel
theorem dX2_takeOut_66 : decode cX2_takeOut 66 = .ok (.iaload, 1) := by decide +kernel
theorem dX2_takeOut_67 : decode cX2_takeOut 67 = .ok (.iastore, 1) := by decide +kernel
theorem dX2_takeOut_68 : decode cX2_takeOut 68 = .ok (.iinc 2 1, 3) := by decide +kernel
theorem dX2_takeOut_71 : decode cX2_takeOut 71 = .ok (.goto (-69), 3) := by decide +kernel
theorem dX2_takeOut_74 : decode cX2_takeOut 74 = .ok (.aload_n 0, 1) := by decide +kernel
theorem dX2_takeOut_75 : decode cX2_takeOut 75 = .ok (.dup, 1) := by decide +kernel
theorem dX2_takeOut_76 : decode cX2_takeOut 76 = .ok (.getfield 24, 3) := by decide +kernel
theorem dX2_takeOut_79 : decode cX2_takeOut 79 = .ok (.iconst 1, 1) := by decide +kernel
theorem dX2_takeOut_80 : decode cX2_takeOut 80 = .ok (.isub, 1) := by decide +kernel
theorem dX2_takeOut_81 : decode cX2_takeOut 81 = .ok (.putfield 24, 3) := by decide +kernel
theorem dX2_takeOut_84 : decode cX2_takeOut 84 = .ok (.return_, 1) := by decide +kernel
theorem dX2_copyFrom_0 : decode cX2_copyFrom 0 = .ok (.aload_n 1, 1) := by decide +kernel
theorem dX2_copyFrom_1 : decode cX2_copyFrom 1 = .ok (.ifnonnull 4, 3) := by decide +kernel
theorem dX2_copyFrom_4 : decode cX2_copyFrom 4 = .ok (.return_, 1) := by decide +kernel
theorem dX2_copyFrom_5 : decode cX2_copyFrom 5 = .ok (.aload_n 0, 1) := by decide +kernel
theorem dX2_copyFrom_6 : decode cX2_copyFrom 6 = .ok (.aload_n 1, 1) := by decide +kernel
theorem dX2_copyFrom_7 : decode cX2_copyFrom 7 = .ok (.getfield 24, 3) := by decide +kernel
theorem dX2_copyFrom_10 : decode cX2_copyFrom 10 = .ok (.putfield 24, 3) := by decide +kernel
theorem dX2_copyFrom_13 : decode cX2_copyFrom 13 = .ok (.aload_n 1, 1) := by decide +kernel
theorem dX2_copyFrom_14 : decode cX2_copyFrom 14 = .ok (.getfield 9, 3) := by decide +kernel
theorem dX2_copyFrom_17 : decode cX2_copyFrom 17 = .ok (.iconst 0, 1) := by decide +kernel
theorem dX2_copyFrom_18 : decode cX2_copyFrom 18 = .ok (.aload_n 0, 1) := by decide +kernel
theorem dX2_copyFrom_19 : decode cX2_copyFrom 19 = .ok (.getfield 9, 3) := by decide +kernel
theorem dX2_copyFrom_22 : decode cX2_copyFrom 22 = .ok (.iconst 0, 1) := by decide +kernel
theorem dX2_copyFrom_23 : decode cX2_copyFrom 23 = .ok (.aload_n 0, 1) := by decide +kernel
theorem dX2_copyFrom_24 : decode cX2_copyFrom 24 = .ok (.getfield 24, 3) := by decide +kernel
theorem dX2_copyFrom_27 : decode cX2_copyFrom 27 = .ok (.invokestatic 38, 3) := by decide +kernel
theorem dX2_copyFrom_30 : decode cX2_copyFrom 30 = .ok (.aload_n 1, 1) := by decide +kernel
theorem dX2_copyFrom_31 : decode cX2_copyFrom 31 = .ok (.getfield 15, 3) := by decide +kernel
theorem dX2_copyFrom_34 : decode cX2_copyFrom 34 = .ok (.iconst 0, 1) := by decide +kernel
theorem dX2_copyFrom_35 : decode cX2_copyFrom 35 = .ok (.aload_n 0, 1) := by decide +kernel
theorem dX2_copyFrom_36 : decode cX2_copyFrom 36 = .ok (.getfield 15, 3) := by decide +kernel
theorem dX2_copyFrom_39 : decode cX2_copyFrom 39 = .ok (.iconst 0, 1) := by decide +kernel
theorem dX2_copyFrom_40 : decode cX2_copyFrom 40 = .ok (.aload_n 0, 1) := by decide +kernel
theorem dX2_copyFrom_41 : decode cX2_copyFrom 41 = .ok (.getfield 24, 3) := by decide +kernel
theorem dX2_copyFrom_44 : decode cX2_copyFrom 44 = .ok (.invokestatic 38, 3) := by decide +kernel
theorem dX2_copyFrom_47 : decode cX2_copyFrom 47 = .ok (.aload_n 1, 1) := by decide +kernel
theorem dX2_copyFrom_48 : decode cX2_copyFrom 48 = .ok (.getfield 18, 3) := by decide +kernel
theorem dX2_copyFrom_51 : decode cX2_copyFrom 51 = .ok (.iconst 0, 1) := by decide +kernel
theorem dX2_copyFrom_52 : decode cX2_copyFrom 52 = .ok (.aload_n 0, 1) := by decide +kernel
theorem dX2_copyFrom_53 : decode cX2_copyFrom 53 = .ok (.getfield 18, 3) := by decide +kernel
theorem dX2_copyFrom_56 : decode cX2_copyFrom 56 = .ok (.iconst 0, 1) := by decide +kernel
theorem dX2_copyFrom_57 : decode cX2_copyFrom 57 = .ok (.aload_n 0, 1) := by decide +kernel
theorem dX2_copyFrom_58 : decode cX2_copyFrom 58 = .ok (.getfield 24, 3) := by decide +kernel
theorem dX2_copyFrom_61 : decode cX2_copyFrom 61 = .ok (.invokestatic 38, 3) := by decide +kernel
theorem dX2_copyFrom_64 : decode cX2_copyFrom 64 = .ok (.aload_n 1, 1) := by decide +kernel
theorem dX2_copyFrom_65 : decode cX2_copyFrom 65 = .ok (.getfield 21, 3) := by decide +kernel
theorem dX2_copyFrom_68 : decode cX2_copyFrom 68 = .ok (.iconst 0, 1) := by decide +kernel
theorem dX2_copyFrom_69 : decode cX2_copyFrom 69 = .ok (.aload_n 0, 1) := by decide +kernel
theorem dX2_copyFrom_70 : decode cX2_copyFrom 70 = .ok (.getfield 21, 3) := by decide +kernel
theorem dX2_copyFrom_73 : decode cX2_copyFrom 73 = .ok (.iconst 0, 1) := by decide +kernel
theorem dX2_copyFrom_74 : decode cX2_copyFrom 74 = .ok (.aload_n 0, 1) := by decide +kernel
theorem dX2_copyFrom_75 : decode cX2_copyFrom 75 = .ok (.getfield 24, 3) := by decide +kernel
theorem dX2_copyFrom_78 : decode cX2_copyFrom 78 = .ok (.invokestatic 38, 3) := by decide +kernel
theorem dX2_copyFrom_81 : decode cX2_copyFrom 81 = .ok (.return_, 1) := by decide +kernel
theorem dX2_areSame_0 : decode cX2_areSame 0 = .ok (.aload_n 0, 1) := by decide +kernel
theorem dX2_areSame_1 : decode cX2_areSame 1 = .ok (.getfield 9, 3) := by decide +kernel
theorem dX2_areSame_4 : decode cX2_areSame 4 = .ok (.iload_n 1, 1) := by decide +kernel
theorem dX2_areSame_5 : decode cX2_areSame 5 = .ok (.iaload, 1) := by decide +kernel
theorem dX2_areSame_6 : decode cX2_areSame 6 = .ok (.aload_n 0, 1) := by decide +kernel
theorem dX2_areSame_7 : decode cX2_areSame 7 = .ok (.getfield 21, 3) := by decide +kernel
theorem dX2_areSame_10 : decode cX2_areSame 10 = .ok (.iload_n 2, 1) := by decide +kernel
theorem dX2_areSame_11 : decode cX2_areSame 11 = .ok (.iaload, 1) := by decide +kernel
theorem dX2_areSame_12 : decode cX2_areSame 12 = .ok (.imul, 1) := by decide +kernel
theorem dX2_areSame_13 : decode cX2_areSame 13 = .ok (.aload_n 0, 1) := by decide +kernel
theorem dX2_areSame_14 : decode cX2_areSame 14 = .ok (.getfield 9, 3) := by decide +kernel
theorem dX2_areSame_17 : decode cX2_areSame 17 = .ok (.iload_n 2, 1) := by decide +kernel
theorem dX2_areSame_18 : decode cX2_areSame 18 = .ok (.iaload, 1) := by decide +kernel
theorem dX2_areSame_19 : decode cX2_areSame 19 = .ok (.aload_n 0, 1) := by decide +kernel
theorem dX2_areSame_20 : decode cX2_areSame 20 = .ok (.getfield 21, 3) := by decide +kernel
theorem dX2_areSame_23 : decode cX2_areSame 23 = .ok (.iload_n 1, 1) := by decide +kernel
theorem dX2_areSame_24 : decode cX2_areSame 24 = .ok (.iaload, 1) := by decide +kernel
theorem dX2_areSame_25 : decode cX2_areSame 25 = .ok (.imul, 1) := by decide +kernel
theorem dX2_areSame_26 : decode cX2_areSame 26 = .ok (.if_icmp .ne 65, 3) := by decide +kernel
theorem dX2_areSame_29 : decode cX2_areSame 29 = .ok (.aload_n 0, 1) := by decide +kernel
theorem dX2_areSame_30 : decode cX2_areSame 30 = .ok (.getfield 15, 3) := by decide +kernel
theorem dX2_areSame_33 : decode cX2_areSame 33 = .ok (.iload_n 1, 1) := by decide +kernel
theorem dX2_areSame_34 : decode cX2_areSame 34 = .ok (.iaload, 1) := by decide +kernel
theorem dX2_areSame_35 : decode cX2_areSame 35 = .ok (.aload_n 0, 1) := by decide +kernel
theorem dX2_areSame_36 : decode cX2_areSame 36 = .ok (.getfield 21, 3) := by decide +kernel
theorem dX2_areSame_39 : decode cX2_areSame 39 = .ok (.iload_n 2, 1) := by decide +kernel
theorem dX2_areSame_40 : decode cX2_areSame 40 = .ok (.iaload, 1) := by decide +kernel
theorem dX2_areSame_41 : decode cX2_areSame 41 = .ok (.imul, 1) := by decide +kernel
theorem dX2_areSame_42 : decode cX2_areSame 42 = .ok (.aload_n 0, 1) := by decide +kernel
theorem dX2_areSame_43 : decode cX2_areSame 43 = .ok (.getfield 15, 3) := by decide +kernel
theorem dX2_areSame_46 : decode cX2_areSame 46 = .ok (.iload_n 2, 1) := by decide +kernel
theorem dX2_areSame_47 : decode cX2_areSame 47 = .ok (.iaload, 1) := by decide +kernel
theorem dX2_areSame_48 : decode cX2_areSame 48 = .ok (.aload_n 0, 1) := by decide +kernel
theorem dX2_areSame_49 : decode cX2_areSame 49 = .ok (.getfield 21, 3) := by decide +kernel
theorem dX2_areSame_52 : decode cX2_areSame 52 = .ok (.iload_n 1, 1) := by decide +kernel
theorem dX2_areSame_53 : decode cX2_areSame 53 = .ok (.iaload, 1) := by decide +kernel
theorem dX2_areSame_54 : decode cX2_areSame 54 = .ok (.imul, 1) := by decide +kernel
theorem dX2_areSame_55 : decode cX2_areSame 55 = .ok (.if_icmp .ne 36, 3) := by decide +kernel
theorem dX2_areSame_58 : decode cX2_areSame 58 = .ok (.aload_n 0, 1) := by decide +kernel
theorem dX2_areSame_59 : decode cX2_areSame 59 = .ok (.getfield 18, 3) := by decide +kernel
theorem dX2_areSame_62 : decode cX2_areSame 62 = .ok (.iload_n 1, 1) := by decide +kernel
theorem dX2_areSame_63 : decode cX2_areSame 63 = .ok (.iaload, 1) := by decide +kernel
theorem dX2_areSame_64 : decode cX2_areSame 64 = .ok (.aload_n 0, 1) := by decide +kernel
theorem dX2_areSame_65 : decode cX2_areSame 65 = .ok (.getfield 21, 3) := by decide +kernel
theorem dX2_areSame_68 : decode cX2_areSame 68 = .ok (.iload_n 2, 1) := by decide +kernel
theorem dX2_areSame_69 : decode cX2_areSame 69 = .ok (.iaload, 1) := by decide +kernel
theorem dX2_areSame_70 : decode cX2_areSame 70 = .ok (.imul, 1) := by decide +kernel
theorem dX2_areSame_71 : decode cX2_areSame 71 = .ok (.aload_n 0, 1) := by decide +kernel
theorem dX2_areSame_72 : decode cX2_areSame 72 = .ok (.getfield 18, 3) := by decide +kernel
theorem dX2_areSame_75 : decode cX2_areSame 75 = .ok (.iload_n 2, 1) := by decide +kernel
theorem dX2_areSame_76 : decode cX2_areSame 76 = .ok (.iaload, 1) := by decide +kernel
theorem dX2_areSame_77 : decode cX2_areSame 77 = .ok (.aload_n 0, 1) := by decide +kernel
theorem dX2_areSame_78 : decode cX2_areSame 78 = .ok (.getfield 21, 3) := by decide +kernel
theorem dX2_areSame_81 : decode cX2_areSame 81 = .ok (.iload_n 1, 1) := by decide +kernel
theorem dX2_areSame_82 : decode cX2_areSame 82 = .ok (.iaload, 1) := by decide +kernel
theorem dX2_areSame_83 : decode cX2_areSame 83 = .ok (.imul, 1) := by decide +kernel
theorem dX2_areSame_84 : decode cX2_areSame 84 = .ok (.if_icmp .ne 7, 3) := by decide +kernel
theorem dX2_areSame_87 : decode cX2_areSame 87 = .ok (.iconst 1, 1) := by decide +kernel
theorem dX2_areSame_88 : decode cX2_areSame 88 = .ok (.goto 4, 3) := by decide +kernel
theorem dX2_areSame_91 : decode cX2_areSame 91 = .ok (.iconst 0, 1) := by decide +kernel
theorem dX2_areSame_92 : decode cX2_areSame 92 = .ok (.ireturn, 1) := by decide +kernel
theorem dX2_hasEarlierTwin_0 : decode cX2_hasEarlierTwin 0 = .ok (.iconst 0, 1) := by decide +kernel
theorem dX2_hasEarlierTwin_1 : decode cX2_hasEarlierTwin 1 = .ok (.istore_n 2, 1) := by decide +kernel
theorem dX2_hasEarlierTwin_2 : decode cX2_hasEarlierTwin 2 = .ok (.iload_n 2, 1) := by decide +kernel
theorem dX2_hasEarlierTwin_3 : decode cX2_hasEarlierTwin 3 = .ok (.iload_n 1, 1) := by decide +kernel
theorem dX2_hasEarlierTwin_4 : decode cX2_hasEarlierTwin 4 = .ok (.if_icmp .ge 20, 3) := by decide +kernel
theorem dX2_hasEarlierTwin_7 : decode cX2_hasEarlierTwin 7 = .ok (.aload_n 0, 1) := by decide +kernel
theorem dX2_hasEarlierTwin_8 : decode cX2_hasEarlierTwin 8 = .ok (.iload_n 2, 1) := by decide +kernel
theorem dX2_hasEarlierTwin_9 : decode cX2_hasEarlierTwin 9 = .ok (.iload_n 1, 1) := by decide +kernel
theorem dX2_hasEarlierTwin_10 : decode cX2_hasEarlierTwin 10 = .ok (.invokevirtual 44, 3) := by decide +kernel
theorem dX2_hasEarlierTwin_13 : decode cX2_hasEarlierTwin 13 = .ok (.ifCond .eq 5, 3) := by decide +kernel
theorem dX2_hasEarlierTwin_16 : decode cX2_hasEarlierTwin 16 = .ok (.iconst 1, 1) := by decide +kernel
theorem dX2_hasEarlierTwin_17 : decode cX2_hasEarlierTwin 17 = .ok (.ireturn, 1) := by decide +kernel
theorem dX2_hasEarlierTwin_18 : decode cX2_hasEarlierTwin 18 = .ok (.iinc 2 1, 3) := by decide +kernel
theorem dX2_hasEarlierTwin_21 : decode cX2_hasEarlierTwin 21 = .ok (.goto (-19), 3) := by decide +kernel
theorem dX2_hasEarlierTwin_24 : decode cX2_hasEarlierTwin 24 = .ok (.iconst 0, 1) := by decide +kernel
theorem dX2_hasEarlierTwin_25 : decode cX2_hasEarlierTwin 25 = .ok (.ireturn, 1) := by decide +kernel
theorem dX2_wayBetween_0 : decode cX2_wayBetween 0 = .ok (.aload_n 0, 1) := by decide +kernel
theorem dX2_wayBetween_1 : decode cX2_wayBetween 1 = .ok (.getfield 15, 3) := by decide +kernel
theorem dX2_wayBetween_4 : decode cX2_wayBetween 4 = .ok (.iload_n 1, 1) := by decide +kernel
theorem dX2_wayBetween_5 : decode cX2_wayBetween 5 = .ok (.iaload, 1) := by decide +kernel
theorem dX2_wayBetween_6 : decode cX2_wayBetween 6 = .ok (.aload_n 0, 1) := by decide +kernel
theorem dX2_wayBetween_7 : decode cX2_wayBetween 7 = .ok (.getfield 18, 3) := by decide +kernel
theorem dX2_wayBetween_10 : decode cX2_wayBetween 10 = .ok (.iload_n 2, 1) := by decide +kernel
theorem dX2_wayBetween_11 : decode cX2_wayBetween 11 = .ok (.iaload, 1) := by decide +kernel
theorem dX2_wayBetween_12 : decode cX2_wayBetween 12 = .ok (.imul, 1) := by decide +kernel
theorem dX2_wayBetween_13 : decode cX2_wayBetween 13 = .ok (.aload_n 0, 1) := by decide +kernel
theorem dX2_wayBetween_14 : decode cX2_wayBetween 14 = .ok (.getfield 18, 3) := by decide +kernel
theorem dX2_wayBetween_17 : decode cX2_wayBetween 17 = .ok (.iload_n 1, 1) := by decide +kernel
theorem dX2_wayBetween_18 : decode cX2_wayBetween 18 = .ok (.iaload, 1) := by decide +kernel
theorem dX2_wayBetween_19 : decode cX2_wayBetween 19 = .ok (.aload_n 0, 1) := by decide +kernel
theorem dX2_wayBetween_20 : decode cX2_wayBetween 20 = .ok (.getfield 15, 3) := by decide +kernel
theorem dX2_wayBetween_23 : decode cX2_wayBetween 23 = .ok (.iload_n 2, 1) := by decide +kernel
theorem dX2_wayBetween_24 : decode cX2_wayBetween 24 = .ok (.iaload, 1) := by decide +kernel
theorem dX2_wayBetween_25 : decode cX2_wayBetween 25 = .ok (.imul, 1) := by decide +kernel
theorem dX2_wayBetween_26 : decode cX2_wayBetween 26 = .ok (.isub, 1) := by decide +kernel
theorem dX2_wayBetween_27 : decode cX2_wayBetween 27 = .ok (.istore 4, 2) := by decide +kernel
theorem dX2_wayBetween_29 : decode cX2_wayBetween 29 = .ok (.aload_n 0, 1) := by decide +kernel
theorem dX2_wayBetween_30 : decode cX2_wayBetween 30 = .ok (.getfield 18, 3) := by decide +kernel
theorem dX2_wayBetween_33 : decode cX2_wayBetween 33 = .ok (.iload_n 1, 1) := by decide +kernel
theorem dX2_wayBetween_34 : decode cX2_wayBetween 34 = .ok (.iaload, 1) := by decide +kernel
theorem dX2_wayBetween_35 : decode cX2_wayBetween 35 = .ok (.aload_n 0, 1) := by decide +kernel
theorem dX2_wayBetween_36 : decode cX2_wayBetween 36 = .ok (.getfield 9, 3) := by decide +kernel
theorem dX2_wayBetween_39 : decode cX2_wayBetween 39 = .ok (.iload_n 2, 1) := by decide +kernel
theorem dX2_wayBetween_40 : decode cX2_wayBetween 40 = .ok (.iaload, 1) := by decide +kernel
theorem dX2_wayBetween_41 : decode cX2_wayBetween 41 = .ok (.imul, 1) := by decide +kernel
theorem dX2_wayBetween_42 : decode cX2_wayBetween 42 = .ok (.aload_n 0, 1) := by decide +kernel
theorem dX2_wayBetween_43 : decode cX2_wayBetween 43 = .ok (.getfield 9, 3) := by decide +kernel
theorem dX2_wayBetween_46 : decode cX2_wayBetween 46 = .ok (.iload_n 1, 1) := by decide +kernel
theorem dX2_wayBetween_47 : decode cX2_wayBetween 47 = .ok (.iaload, 1) := by decide +kernel
theorem dX2_wayBetween_48 : decode cX2_wayBetween 48 = .ok (.aload_n 0, 1) := by decide +kernel
theorem dX2_wayBetween_49 : decode cX2_wayBetween 49 = .ok (.getfield 18, 3) := by decide +kernel
theorem dX2_wayBetween_52 : decode cX2_wayBetween 52 = .ok (.iload_n 2, 1) := by decide +kernel
theorem dX2_wayBetween_53 : decode cX2_wayBetween 53 = .ok (.iaload, 1) := by decide +kernel
theorem dX2_wayBetween_54 : decode cX2_wayBetween 54 = .ok (.imul, 1) := by decide +kernel
theorem dX2_wayBetween_55 : decode cX2_wayBetween 55 = .ok (.isub, 1) := by decide +kernel
theorem dX2_wayBetween_56 : decode cX2_wayBetween 56 = .ok (.istore 5, 2) := by decide +kernel
theorem dX2_wayBetween_58 : decode cX2_wayBetween 58 = .ok (.aload_n 0, 1) := by decide +kernel
theorem dX2_wayBetween_59 : decode cX2_wayBetween 59 = .ok (.getfield 9, 3) := by decide +kernel
theorem dX2_wayBetween_62 : decode cX2_wayBetween 62 = .ok (.iload_n 1, 1) := by decide +kernel
theorem dX2_wayBetween_63 : decode cX2_wayBetween 63 = .ok (.iaload, 1) := by decide +kernel
theorem dX2_wayBetween_64 : decode cX2_wayBetween 64 = .ok (.aload_n 0, 1) := by decide +kernel
theorem dX2_wayBetween_65 : decode cX2_wayBetween 65 = .ok (.getfield 15, 3) := by decide +kernel
theorem dX2_wayBetween_68 : decode cX2_wayBetween 68 = .ok (.iload_n 2, 1) := by decide +kernel
theorem dX2_wayBetween_69 : decode cX2_wayBetween 69 = .ok (.iaload, 1) := by decide +kernel
theorem dX2_wayBetween_70 : decode cX2_wayBetween 70 = .ok (.imul, 1) := by decide +kernel
theorem dX2_wayBetween_71 : decode cX2_wayBetween 71 = .ok (.aload_n 0, 1) := by decide +kernel
theorem dX2_wayBetween_72 : decode cX2_wayBetween 72 = .ok (.getfield 15, 3) := by decide +kernel
theorem dX2_wayBetween_75 : decode cX2_wayBetween 75 = .ok (.iload_n 1, 1) := by decide +kernel
theorem dX2_wayBetween_76 : decode cX2_wayBetween 76 = .ok (.iaload, 1) := by decide +kernel
theorem dX2_wayBetween_77 : decode cX2_wayBetween 77 = .ok (.aload_n 0, 1) := by decide +kernel
theorem dX2_wayBetween_78 : decode cX2_wayBetween 78 = .ok (.getfield 9, 3) := by decide +kernel
theorem dX2_wayBetween_81 : decode cX2_wayBetween 81 = .ok (.iload_n 2, 1) := by decide +kernel
theorem dX2_wayBetween_82 : decode cX2_wayBetween 82 = .ok (.iaload, 1) := by decide +kernel
theorem dX2_wayBetween_83 : decode cX2_wayBetween 83 = .ok (.imul, 1) := by decide +kernel
theorem dX2_wayBetween_84 : decode cX2_wayBetween 84 = .ok (.isub, 1) := by decide +kernel
theorem dX2_wayBetween_85 : decode cX2_wayBetween 85 = .ok (.istore 6, 2) := by decide +kernel
theorem dX2_wayBetween_87 : decode cX2_wayBetween 87 = .ok (.iload 4, 2) := by decide +kernel
theorem dX2_wayBetween_89 : decode cX2_wayBetween 89 = .ok (.iload 5, 2) := by decide +kernel
theorem dX2_wayBetween_91 : decode cX2_wayBetween 91 = .ok (.invokestatic 48, 3) := by decide +kernel
theorem dX2_wayBetween_94 : decode cX2_wayBetween 94 = .ok (.iload 6, 2) := by decide +kernel
theorem dX2_wayBetween_96 : decode cX2_wayBetween 96 = .ok (.invokestatic 48, 3) := by decide +kernel
theorem dX2_wayBetween_99 : decode cX2_wayBetween 99 = .ok (.istore 7, 2) := by decide +kernel
theorem dX2_wayBetween_101 : decode cX2_wayBetween 101 = .ok (.iload 7, 2) := by decide +kernel
theorem dX2_wayBetween_103 : decode cX2_wayBetween 103 = .ok (.ifCond .gt 5, 3) := by decide +kernel
theorem dX2_wayBetween_106 : decode cX2_wayBetween 106 = .ok (.iconst 0, 1) := by decide +kernel
theorem dX2_wayBetween_107 : decode cX2_wayBetween 107 = .ok (.ireturn, 1) := by decide +kernel
theorem dX2_wayBetween_108 : decode cX2_wayBetween 108 = .ok (.iload 4, 2) := by decide +kernel
theorem dX2_wayBetween_110 : decode cX2_wayBetween 110 = .ok (.ifCond .eq 8, 3) := by decide +kernel
theorem dX2_wayBetween_113 : decode cX2_wayBetween 113 = .ok (.iload 4, 2) := by decide +kernel
theorem dX2_wayBetween_115 : decode cX2_wayBetween 115 = .ok (.goto 15, 3) := by decide +kernel
theorem dX2_wayBetween_118 : decode cX2_wayBetween 118 = .ok (.iload 5, 2) := by decide +kernel
theorem dX2_wayBetween_120 : decode cX2_wayBetween 120 = .ok (.ifCond .eq 8, 3) := by decide +kernel
theorem dX2_wayBetween_123 : decode cX2_wayBetween 123 = .ok (.iload 5, 2) := by decide +kernel
theorem dX2_wayBetween_125 : decode cX2_wayBetween 125 = .ok (.goto 5, 3) := by decide +kernel
theorem dX2_wayBetween_128 : decode cX2_wayBetween 128 = .ok (.iload 6, 2) := by decide +kernel
theorem dX2_wayBetween_130 : decode cX2_wayBetween 130 = .ok (.istore 8, 2) := by decide +kernel
theorem dX2_wayBetween_132 : decode cX2_wayBetween 132 = .ok (.iload 8, 2) := by decide +kernel
theorem dX2_wayBetween_134 : decode cX2_wayBetween 134 = .ok (.ifCond .le 8, 3) := by decide +kernel
theorem dX2_wayBetween_137 : decode cX2_wayBetween 137 = .ok (.iload 7, 2) := by decide +kernel
theorem dX2_wayBetween_139 : decode cX2_wayBetween 139 = .ok (.goto 6, 3) := by decide +kernel
theorem dX2_wayBetween_142 : decode cX2_wayBetween 142 = .ok (.iload 7, 2) := by decide +kernel
theorem dX2_wayBetween_144 : decode cX2_wayBetween 144 = .ok (.ineg, 1) := by decide +kernel
theorem dX2_wayBetween_145 : decode cX2_wayBetween 145 = .ok (.istore 9, 2) := by decide +kernel
theorem dX2_wayBetween_147 : decode cX2_wayBetween 147 = .ok (.iload_n 3, 1) := by decide +kernel
theorem dX2_wayBetween_148 : decode cX2_wayBetween 148 = .ok (.ifCond .ne 8, 3) := by decide +kernel
theorem dX2_wayBetween_151 : decode cX2_wayBetween 151 = .ok (.iload 4, 2) := by decide +kernel
theorem dX2_wayBetween_153 : decode cX2_wayBetween 153 = .ok (.goto 15, 3) := by decide +kernel
theorem dX2_wayBetween_156 : decode cX2_wayBetween 156 = .ok (.iload_n 3, 1) := by decide +kernel
theorem dX2_wayBetween_157 : decode cX2_wayBetween 157 = .ok (.iconst 1, 1) := by decide +kernel
theorem dX2_wayBetween_158 : decode cX2_wayBetween 158 = .ok (.if_icmp .ne 8, 3) := by decide +kernel
theorem dX2_wayBetween_161 : decode cX2_wayBetween 161 = .ok (.iload 5, 2) := by decide +kernel
theorem dX2_wayBetween_163 : decode cX2_wayBetween 163 = .ok (.goto 5, 3) := by decide +kernel
theorem dX2_wayBetween_166 : decode cX2_wayBetween 166 = .ok (.iload 6, 2) := by decide +kernel
theorem dX2_wayBetween_168 : decode cX2_wayBetween 168 = .ok (.iload 9, 2) := by decide +kernel
theorem dX2_wayBetween_170 : decode cX2_wayBetween 170 = .ok (.idiv, 1) := by decide +kernel
theorem dX2_wayBetween_171 : decode cX2_wayBetween 171 = .ok (.ireturn, 1) := by decide +kernel
theorem dX3_init_0 : decode cX3_init 0 = .ok (.aload_n 0, 1) := by decide +kernel
theorem dX3_init_1 : decode cX3_init 1 = .ok (.invokespecial 3, 3) := by decide +kernel
theorem dX3_init_4 : decode cX3_init 4 = .ok (.aload_n 0, 1) := by decide +kernel
theorem dX3_init_5 : decode cX3_init 5 = .ok (.bipush 120, 2) := by decide +kernel
end
section
theorem dX3_init_7 : decode cX3_init 7 = .ok (.newarray .byte, 2) := by decide +kernel
theorem dX3_init_9 : decode cX3_init 9 = .ok (.putfield 9, 3) := by decide +kernel
theorem dX3_init_12 : decode cX3_init 12 = .ok (.return_, 1) := by decide +kernel
theorem dX3_readAll_0 : decode cX3_readAll 0 = .ok (.aload_n 0, 1) := by decide +kernel
theorem dX3_readAll_1 : decode cX3_readAll 1 = .ok (.iconst 0, 1) := by decide +kernel
theorem dX3_readAll_2 : decode cX3_readAll 2 = .ok (.putfield 15, 3) := by decide +kernel
theorem dX3_readAll_5 : decode cX3_readAll 5 = .ok (.iconst 0, 1) := by decide +kernel
theorem dX3_readAll_6 : decode cX3_readAll 6 = .ok (.istore_n 3, 1) := by decide +kernel
theorem dX3_readAll_7 : decode cX3_readAll 7 = .ok (.iload_n 3, 1) := by decide +kernel
theorem dX3_readAll_8 : decode cX3_readAll 8 = .ok (.bipush 120, 2) := by decide +kernel
theorem dX3_readAll_10 : decode cX3_readAll 10 = .ok (.if_icmp .ge 30, 3) := by decide +kernel
theorem dX3_readAll_13 : decode cX3_readAll 13 = .ok (.aload_n 0, 1) := by decide +kernel
theorem dX3_readAll_14 : decode cX3_readAll 14 = .ok (.aload_n 1, 1) := by decide +kernel
theorem dX3_readAll_15 : decode cX3_readAll 15 = .ok (.aload_n 2, 1) := by decide +kernel
theorem dX3_readAll_16 : decode cX3_readAll 16 = .ok (.invokevirtual 19, 3) := by decide +kernel
theorem dX3_readAll_19 : decode cX3_readAll 19 = .ok (.ifCond .ne 5, 3) := by decide +kernel
theorem dX3_readAll_22 : decode cX3_readAll 22 = .ok (.iconst 0, 1) := by decide +kernel
theorem dX3_readAll_23 : decode cX3_readAll 23 = .ok (.ireturn, 1) := by decide +kernel
theorem dX3_readAll_24 : decode cX3_readAll 24 = .ok (.aload_n 0, 1) := by decide +kernel
theorem dX3_readAll_25 : decode cX3_readAll 25 = .ok (.invokevirtual 23, 3) := by decide +kernel
theorem dX3_readAll_28 : decode cX3_readAll 28 = .ok (.iconst (-1), 1) := by decide +kernel
theorem dX3_readAll_29 : decode cX3_readAll 29 = .ok (.if_icmp .ne 5, 3) := by decide +kernel
theorem dX3_readAll_32 : decode cX3_readAll 32 = .ok (.iconst 1, 1) := by decide +kernel
theorem dX3_readAll_33 : decode cX3_readAll 33 = .ok (.ireturn, 1) := by decide +kernel
theorem dX3_readAll_34 : decode cX3_readAll 34 = .ok (.iinc 3 1, 3) := by decide +kernel
theorem dX3_readAll_37 : decode cX3_readAll 37 = .ok (.goto (-30), 3) := by decide +kernel
theorem dX3_readAll_40 : decode cX3_readAll 40 = .ok (.iconst 0, 1) := by decide +kernel
theorem dX3_readAll_41 : decode cX3_readAll 41 = .ok (.ireturn, 1) := by decide +kernel
theorem dX3_readOne_0 : decode cX3_readOne 0 = .ok (.aload_n 0, 1) := by decide +kernel
theorem dX3_readOne_1 : decode cX3_readOne 1 = .ok (.iconst 0, 1) := by decide +kernel
theorem dX3_readOne_2 : decode cX3_readOne 2 = .ok (.putfield 27, 3) := by decide +kernel
theorem dX3_readOne_5 : decode cX3_readOne 5 = .ok (.aload_n 0, 1) := by decide +kernel
theorem dX3_readOne_6 : decode cX3_readOne 6 = .ok (.invokevirtual 30, 3) := by decide +kernel
theorem dX3_readOne_9 : decode cX3_readOne 9 = .ok (.ifCond .eq 12, 3) := by decide +kernel
theorem dX3_readOne_12 : decode cX3_readOne 12 = .ok (.aload_n 0, 1) := by decide +kernel
theorem dX3_readOne_13 : decode cX3_readOne 13 = .ok (.invokevirtual 34, 3) := by decide +kernel
theorem dX3_readOne_16 : decode cX3_readOne 16 = .ok (.ifCond .ne 5, 3) := by decide +kernel
theorem dX3_readOne_19 : decode cX3_readOne 19 = .ok (.iconst 0, 1) := by decide +kernel
theorem dX3_readOne_20 : decode cX3_readOne 20 = .ok (.ireturn, 1) := by decide +kernel
theorem dX3_readOne_21 : decode cX3_readOne 21 = .ok (.aload_n 0, 1) := by decide +kernel
theorem dX3_readOne_22 : decode cX3_readOne 22 = .ok (.invokevirtual 37, 3) := by decide +kernel
theorem dX3_readOne_25 : decode cX3_readOne 25 = .ok (.ifCond .eq 23, 3) := by decide +kernel
theorem dX3_readOne_28 : decode cX3_readOne 28 = .ok (.aload_n 0, 1) := by decide +kernel
theorem dX3_readOne_29 : decode cX3_readOne 29 = .ok (.invokevirtual 40, 3) := by decide +kernel
theorem dX3_readOne_32 : decode cX3_readOne 32 = .ok (.ifCond .eq 16, 3) := by decide +kernel
theorem dX3_readOne_35 : decode cX3_readOne 35 = .ok (.aload_n 0, 1) := by decide +kernel
theorem dX3_readOne_36 : decode cX3_readOne 36 = .ok (.aload_n 1, 1) := by decide +kernel
theorem dX3_readOne_37 : decode cX3_readOne 37 = .ok (.aload_n 2, 1) := by decide +kernel
theorem dX3_readOne_38 : decode cX3_readOne 38 = .ok (.invokevirtual 43, 3) := by decide +kernel
theorem dX3_readOne_41 : decode cX3_readOne 41 = .ok (.ifCond .eq 7, 3) := by decide +kernel
theorem dX3_readOne_44 : decode cX3_readOne 44 = .ok (.iconst 1, 1) := by decide +kernel
theorem dX3_readOne_45 : decode cX3_readOne 45 = .ok (.goto 4, 3) := by decide +kernel
theorem dX3_readOne_48 : decode cX3_readOne 48 = .ok (.iconst 0, 1) := by decide +kernel
theorem dX3_readOne_49 : decode cX3_readOne 49 = .ok (.ireturn, 1) := by decide +kernel
theorem dX3_isColonAhead_0 : decode cX3_isColonAhead 0 = .ok (.aload_n 0, 1) := by decide +kernel
theorem dX3_isColonAhead_1 : decode cX3_isColonAhead 1 = .ok (.getfield 15, 3) := by decide +kernel
theorem dX3_isColonAhead_4 : decode cX3_isColonAhead 4 = .ok (.istore_n 1, 1) := by decide +kernel
theorem dX3_isColonAhead_5 : decode cX3_isColonAhead 5 = .ok (.iload_n 1, 1) := by decide +kernel
theorem dX3_isColonAhead_6 : decode cX3_isColonAhead 6 = .ok (.aload_n 0, 1) := by decide +kernel
theorem dX3_isColonAhead_7 : decode cX3_isColonAhead 7 = .ok (.getfield 46, 3) := by decide +kernel
theorem dX3_isColonAhead_10 : decode cX3_isColonAhead 10 = .ok (.if_icmp .ge 33, 3) := by decide +kernel
theorem dX3_isColonAhead_13 : decode cX3_isColonAhead 13 = .ok (.aload_n 0, 1) := by decide +kernel
theorem dX3_isColonAhead_14 : decode cX3_isColonAhead 14 = .ok (.getfield 9, 3) := by decide +kernel
theorem dX3_isColonAhead_17 : decode cX3_isColonAhead 17 = .ok (.iload_n 1, 1) := by decide +kernel
theorem dX3_isColonAhead_18 : decode cX3_isColonAhead 18 = .ok (.baload, 1) := by decide +kernel
theorem dX3_isColonAhead_19 : decode cX3_isColonAhead 19 = .ok (.bipush 59, 2) := by decide +kernel
theorem dX3_isColonAhead_21 : decode cX3_isColonAhead 21 = .ok (.if_icmp .eq 22, 3) := by decide +kernel
theorem dX3_isColonAhead_24 : decode cX3_isColonAhead 24 = .ok (.aload_n 0, 1) := by decide +kernel
theorem dX3_isColonAhead_25 : decode cX3_isColonAhead 25 = .ok (.getfield 9, 3) := by decide +kernel
theorem dX3_isColonAhead_28 : decode cX3_isColonAhead 28 = .ok (.iload_n 1, 1) := by decide +kernel
theorem dX3_isColonAhead_29 : decode cX3_isColonAhead 29 = .ok (.baload, 1) := by decide +kernel
theorem dX3_isColonAhead_30 : decode cX3_isColonAhead 30 = .ok (.bipush 58, 2) := by decide +kernel
theorem dX3_isColonAhead_32 : decode cX3_isColonAhead 32 = .ok (.if_icmp .ne 5, 3) := by decide +kernel
theorem dX3_isColonAhead_35 : decode cX3_isColonAhead 35 = .ok (.iconst 1, 1) := by decide +kernel
theorem dX3_isColonAhead_36 : decode cX3_isColonAhead 36 = .ok (.ireturn, 1) := by decide +kernel
theorem dX3_isColonAhead_37 : decode cX3_isColonAhead 37 = .ok (.iinc 1 1, 3) := by decide +kernel
theorem dX3_isColonAhead_40 : decode cX3_isColonAhead 40 = .ok (.goto (-35), 3) := by decide +kernel
theorem dX3_isColonAhead_43 : decode cX3_isColonAhead 43 = .ok (.iconst 0, 1) := by decide +kernel
theorem dX3_isColonAhead_44 : decode cX3_isColonAhead 44 = .ok (.ireturn, 1) := by decide +kernel
theorem dX3_look_0 : decode cX3_look 0 = .ok (.aload_n 0, 1) := by decide +kernel
theorem dX3_look_1 : decode cX3_look 1 = .ok (.getfield 15, 3) := by decide +kernel
theorem dX3_look_4 : decode cX3_look 4 = .ok (.aload_n 0, 1) := by decide +kernel
theorem dX3_look_5 : decode cX3_look 5 = .ok (.getfield 46, 3) := by decide +kernel
theorem dX3_look_8 : decode cX3_look 8 = .ok (.if_icmp .ge 30, 3) := by decide +kernel
theorem dX3_look_11 : decode cX3_look 11 = .ok (.aload_n 0, 1) := by decide +kernel
theorem dX3_look_12 : decode cX3_look 12 = .ok (.getfield 9, 3) := by decide +kernel
theorem dX3_look_15 : decode cX3_look 15 = .ok (.aload_n 0, 1) := by decide +kernel
theorem dX3_look_16 : decode cX3_look 16 = .ok (.getfield 15, 3) := by decide +kernel
theorem dX3_look_19 : decode cX3_look 19 = .ok (.baload, 1) := by decide +kernel
theorem dX3_look_20 : decode cX3_look 20 = .ok (.bipush 32, 2) := by decide +kernel
theorem dX3_look_22 : decode cX3_look 22 = .ok (.if_icmp .ne 16, 3) := by decide +kernel
theorem dX3_look_25 : decode cX3_look 25 = .ok (.aload_n 0, 1) := by decide +kernel
theorem dX3_look_26 : decode cX3_look 26 = .ok (.dup, 1) := by decide +kernel
theorem dX3_look_27 : decode cX3_look 27 = .ok (.getfield 15, 3) := by decide +kernel
theorem dX3_look_30 : decode cX3_look 30 = .ok (.iconst 1, 1) := by decide +kernel
theorem dX3_look_31 : decode cX3_look 31 = .ok (.iadd, 1) := by decide +kernel
theorem dX3_look_32 : decode cX3_look 32 = .ok (.putfield 15, 3) := by decide +kernel
theorem dX3_look_35 : decode cX3_look 35 = .ok (.goto (-35), 3) := by decide +kernel
theorem dX3_look_38 : decode cX3_look 38 = .ok (.aload_n 0, 1) := by decide +kernel
theorem dX3_look_39 : decode cX3_look 39 = .ok (.getfield 15, 3) := by decide +kernel
theorem dX3_look_42 : decode cX3_look 42 = .ok (.aload_n 0, 1) := by decide +kernel
theorem dX3_look_43 : decode cX3_look 43 = .ok (.getfield 46, 3) := by decide +kernel
theorem dX3_look_46 : decode cX3_look 46 = .ok (.if_icmp .ge 15, 3) := by decide +kernel
theorem dX3_look_49 : decode cX3_look 49 = .ok (.aload_n 0, 1) := by decide +kernel
theorem dX3_look_50 : decode cX3_look 50 = .ok (.getfield 9, 3) := by decide +kernel
theorem dX3_look_53 : decode cX3_look 53 = .ok (.aload_n 0, 1) := by decide +kernel
theorem dX3_look_54 : decode cX3_look 54 = .ok (.getfield 15, 3) := by decide +kernel
theorem dX3_look_57 : decode cX3_look 57 = .ok (.baload, 1) := by decide +kernel
theorem dX3_look_58 : decode cX3_look 58 = .ok (.goto 4, 3) := by decide +kernel
theorem dX3_look_61 : decode cX3_look 61 = .ok (.iconst (-1), 1) := by decide +kernel
theorem dX3_look_62 : decode cX3_look 62 = .ok (.ireturn, 1) := by decide +kernel
theorem dX3_readTurns_0 : decode cX3_readTurns 0 = .ok (.iconst 0, 1) := by decide +kernel
theorem dX3_readTurns_1 : decode cX3_readTurns 1 = .ok (.istore_n 1, 1) := by decide +kernel
theorem dX3_readTurns_2 : decode cX3_readTurns 2 = .ok (.iload_n 1, 1) := by decide +kernel
theorem dX3_readTurns_3 : decode cX3_readTurns 3 = .ok (.bipush 120, 2) := by decide +kernel
theorem dX3_readTurns_5 : decode cX3_readTurns 5 = .ok (.if_icmp .ge 78, 3) := by decide +kernel
theorem dX3_readTurns_8 : decode cX3_readTurns 8 = .ok (.aload_n 0, 1) := by decide +kernel
theorem dX3_readTurns_9 : decode cX3_readTurns 9 = .ok (.invokevirtual 23, 3) := by decide +kernel
theorem dX3_readTurns_12 : decode cX3_readTurns 12 = .ok (.istore_n 2, 1) := by decide +kernel
theorem dX3_readTurns_13 : decode cX3_readTurns 13 = .ok (.iload_n 2, 1) := by decide +kernel
theorem dX3_readTurns_14 : decode cX3_readTurns 14 = .ok (.bipush 58, 2) := by decide +kernel
theorem dX3_readTurns_16 : decode cX3_readTurns 16 = .ok (.if_icmp .ne 22, 3) := by decide +kernel
theorem dX3_readTurns_19 : decode cX3_readTurns 19 = .ok (.aload_n 0, 1) := by decide +kernel
theorem dX3_readTurns_20 : decode cX3_readTurns 20 = .ok (.getfield 27, 3) := by decide +kernel
theorem dX3_readTurns_23 : decode cX3_readTurns 23 = .ok (.ifCond .eq 15, 3) := by decide +kernel
theorem dX3_readTurns_26 : decode cX3_readTurns 26 = .ok (.aload_n 0, 1) := by decide +kernel
theorem dX3_readTurns_27 : decode cX3_readTurns 27 = .ok (.dup, 1) := by decide +kernel
theorem dX3_readTurns_28 : decode cX3_readTurns 28 = .ok (.getfield 15, 3) := by decide +kernel
theorem dX3_readTurns_31 : decode cX3_readTurns 31 = .ok (.iconst 1, 1) := by decide +kernel
theorem dX3_readTurns_32 : decode cX3_readTurns 32 = .ok (.iadd, 1) := by decide +kernel
theorem dX3_readTurns_33 : decode cX3_readTurns 33 = .ok (.putfield 15, 3) := by decide +kernel
theorem dX3_readTurns_36 : decode cX3_readTurns 36 = .ok (.iconst 1, 1) := by decide +kernel
theorem dX3_readTurns_37 : decode cX3_readTurns 37 = .ok (.ireturn, 1) := by decide +kernel
theorem dX3_readTurns_38 : decode cX3_readTurns 38 = .ok (.iload_n 2, 1) := by decide +kernel
theorem dX3_readTurns_39 : decode cX3_readTurns 39 = .ok (.bipush 48, 2) := by decide +kernel
theorem dX3_readTurns_41 : decode cX3_readTurns 41 = .ok (.if_icmp .lt 9, 3) := by decide +kernel
theorem dX3_readTurns_44 : decode cX3_readTurns 44 = .ok (.iload_n 2, 1) := by decide +kernel
theorem dX3_readTurns_45 : decode cX3_readTurns 45 = .ok (.bipush 53, 2) := by decide +kernel
theorem dX3_readTurns_47 : decode cX3_readTurns 47 = .ok (.if_icmp .le 5, 3) := by decide +kernel
theorem dX3_readTurns_50 : decode cX3_readTurns 50 = .ok (.iconst 0, 1) := by decide +kernel
theorem dX3_readTurns_51 : decode cX3_readTurns 51 = .ok (.ireturn, 1) := by decide +kernel
theorem dX3_readTurns_52 : decode cX3_readTurns 52 = .ok (.aload_n 0, 1) := by decide +kernel
theorem dX3_readTurns_53 : decode cX3_readTurns 53 = .ok (.dup, 1) := by decide +kernel
theorem dX3_readTurns_54 : decode cX3_readTurns 54 = .ok (.getfield 27, 3) := by decide +kernel
theorem dX3_readTurns_57 : decode cX3_readTurns 57 = .ok (.iconst 1, 1) := by decide +kernel
theorem dX3_readTurns_58 : decode cX3_readTurns 58 = .ok (.iload_n 2, 1) := by decide +kernel
theorem dX3_readTurns_59 : decode cX3_readTurns 59 = .ok (.bipush 48, 2) := by decide +kernel
theorem dX3_readTurns_61 : decode cX3_readTurns 61 = .ok (.isub, 1) := by decide +kernel
theorem dX3_readTurns_62 : decode cX3_readTurns 62 = .ok (.ishl, 1) := by decide +kernel
theorem dX3_readTurns_63 : decode cX3_readTurns 63 = .ok (.ior, 1) := by decide +kernel
theorem dX3_readTurns_64 : decode cX3_readTurns 64 = .ok (.putfield 27, 3) := by decide +kernel
theorem dX3_readTurns_67 : decode cX3_readTurns 67 = .ok (.aload_n 0, 1) := by decide +kernel
theorem dX3_readTurns_68 : decode cX3_readTurns 68 = .ok (.dup, 1) := by decide +kernel
theorem dX3_readTurns_69 : decode cX3_readTurns 69 = .ok (.getfield 15, 3) := by decide +kernel
theorem dX3_readTurns_72 : decode cX3_readTurns 72 = .ok (.iconst 1, 1) := by decide +kernel
theorem dX3_readTurns_73 : decode cX3_readTurns 73 = .ok (.iadd, 1) := by decide +kernel
theorem dX3_readTurns_74 : decode cX3_readTurns 74 = .ok (.putfield 15, 3) := by decide +kernel
theorem dX3_readTurns_77 : decode cX3_readTurns 77 = .ok (.iinc 1 1, 3) := by decide +kernel
theorem dX3_readTurns_80 : decode cX3_readTurns 80 = .ok (.goto (-78), 3) := by decide +kernel
theorem dX3_readTurns_83 : decode cX3_readTurns 83 = .ok (.iconst 0, 1) := by decide +kernel
theorem dX3_readTurns_84 : decode cX3_readTurns 84 = .ok (.ireturn, 1) := by decide +kernel
theorem dX3_readSign_0 : decode cX3_readSign 0 = .ok (.aload_n 0, 1) := by decide +kernel
theorem dX3_readSign_1 : decode cX3_readSign 1 = .ok (.invokevirtual 49, 3) := by decide +kernel
theorem dX3_readSign_4 : decode cX3_readSign 4 = .ok (.ifCond .ne 5, 3) := by decide +kernel
theorem dX3_readSign_7 : decode cX3_readSign 7 = .ok (.iconst 0, 1) := by decide +kernel
theorem dX3_readSign_8 : decode cX3_readSign 8 = .ok (.ireturn, 1) := by decide +kernel
theorem dX3_readSign_9 : decode cX3_readSign 9 = .ok (.aload_n 0, 1) := by decide +kernel
theorem dX3_readSign_10 : decode cX3_readSign 10 = .ok (.aload_n 0, 1) := by decide +kernel
theorem dX3_readSign_11 : decode cX3_readSign 11 = .ok (.getfield 52, 3) := by decide +kernel
theorem dX3_readSign_14 : decode cX3_readSign 14 = .ok (.putfield 55, 3) := by decide +kernel
theorem dX3_readSign_17 : decode cX3_readSign 17 = .ok (.aload_n 0, 1) := by decide +kernel
theorem dX3_readSign_18 : decode cX3_readSign 18 = .ok (.invokevirtual 49, 3) := by decide +kernel
theorem dX3_readSign_21 : decode cX3_readSign 21 = .ok (.ifCond .ne 5, 3) := by decide +kernel
theorem dX3_readSign_24 : decode cX3_readSign 24 = .ok (.iconst 0, 1) := by decide +kernel
theorem dX3_readSign_25 : decode cX3_readSign 25 = .ok (.ireturn, 1) := by decide +kernel
theorem dX3_readSign_26 : decode cX3_readSign 26 = .ok (.aload_n 0, 1) := by decide +kernel
theorem dX3_readSign_27 : decode cX3_readSign 27 = .ok (.aload_n 0, 1) := by decide +kernel
theorem dX3_readSign_28 : decode cX3_readSign 28 = .ok (.getfield 52, 3) := by decide +kernel
theorem dX3_readSign_31 : decode cX3_readSign 31 = .ok (.putfield 58, 3) := by decide +kernel
theorem dX3_readSign_34 : decode cX3_readSign 34 = .ok (.aload_n 0, 1) := by decide +kernel
theorem dX3_readSign_35 : decode cX3_readSign 35 = .ok (.invokevirtual 49, 3) := by decide +kernel
theorem dX3_readSign_38 : decode cX3_readSign 38 = .ok (.ifCond .ne 5, 3) := by decide +kernel
theorem dX3_readSign_41 : decode cX3_readSign 41 = .ok (.iconst 0, 1) := by decide +kernel
theorem dX3_readSign_42 : decode cX3_readSign 42 = .ok (.ireturn, 1) := by decide +kernel
theorem dX3_readSign_43 : decode cX3_readSign 43 = .ok (.aload_n 0, 1) := by decide +kernel
theorem dX3_readSign_44 : decode cX3_readSign 44 = .ok (.aload_n 0, 1) := by decide +kernel
theorem dX3_readSign_45 : decode cX3_readSign 45 = .ok (.getfield 52, 3) := by decide +kernel
theorem dX3_readSign_48 : decode cX3_readSign 48 = .ok (.putfield 61, 3) := by decide +kernel
theorem dX3_readSign_51 : decode cX3_readSign 51 = .ok (.aload_n 0, 1) := by decide +kernel
theorem dX3_readSign_52 : decode cX3_readSign 52 = .ok (.invokevirtual 23, 3) := by decide +kernel
theorem dX3_readSign_55 : decode cX3_readSign 55 = .ok (.bipush 47, 2) := by decide +kernel
theorem dX3_readSign_57 : decode cX3_readSign 57 = .ok (.if_icmp .ne 21, 3) := by decide +kernel
theorem dX3_readSign_60 : decode cX3_readSign 60 = .ok (.aload_n 0, 1) := by decide +kernel
theorem dX3_readSign_61 : decode cX3_readSign 61 = .ok (.getfield 55, 3) := by decide +kernel
theorem dX3_readSign_64 : decode cX3_readSign 64 = .ok (.aload_n 0, 1) := by decide +kernel
theorem dX3_readSign_65 : decode cX3_readSign 65 = .ok (.getfield 58, 3) := by decide +kernel
theorem dX3_readSign_68 : decode cX3_readSign 68 = .ok (.aload_n 0, 1) := by decide +kernel
theorem dX3_readSign_69 : decode cX3_readSign 69 = .ok (.getfield 61, 3) := by decide +kernel
theorem dX3_readSign_72 : decode cX3_readSign 72 = .ok (.invokestatic 64, 3) := by decide +kernel
theorem dX3_readSign_75 : decode cX3_readSign 75 = .ok (.ifCond .ne 5, 3) := by decide +kernel
theorem dX3_readSign_78 : decode cX3_readSign 78 = .ok (.iconst 0, 1) := by decide +kernel
theorem dX3_readSign_79 : decode cX3_readSign 79 = .ok (.ireturn, 1) := by decide +kernel
theorem dX3_readSign_80 : decode cX3_readSign 80 = .ok (.aload_n 0, 1) := by decide +kernel
theorem dX3_readSign_81 : decode cX3_readSign 81 = .ok (.dup, 1) := by decide +kernel
theorem dX3_readSign_82 : decode cX3_readSign 82 = .ok (.getfield 15, 3) := by decide +kernel
theorem dX3_readSign_85 : decode cX3_readSign 85 = .ok (.iconst 1, 1) := by decide +kernel
theorem dX3_readSign_86 : decode cX3_readSign 86 = .ok (.iadd, 1) := by decide +kernel
theorem dX3_readSign_87 : decode cX3_readSign 87 = .ok (.putfield 15, 3) := by decide +kernel
theorem dX3_readSign_90 : decode cX3_readSign 90 = .ok (.iconst 1, 1) := by decide +kernel
theorem dX3_readSign_91 : decode cX3_readSign 91 = .ok (.ireturn, 1) := by decide +kernel
theorem dX3_readFigure_0 : decode cX3_readFigure 0 = .ok (.aload_n 0, 1) := by decide +kernel
theorem dX3_readFigure_1 : decode cX3_readFigure 1 = .ok (.invokevirtual 23, 3) := by decide +kernel
theorem dX3_readFigure_4 : decode cX3_readFigure 4 = .ok (.istore_n 1, 1) := by decide +kernel
theorem dX3_readFigure_5 : decode cX3_readFigure 5 = .ok (.iload_n 1, 1) := by decide +kernel
theorem dX3_readFigure_6 : decode cX3_readFigure 6 = .ok (.bipush 45, 2) := by decide +kernel
theorem dX3_readFigure_8 : decode cX3_readFigure 8 = .ok (.if_icmp .ne 7, 3) := by decide +kernel
theorem dX3_readFigure_11 : decode cX3_readFigure 11 = .ok (.iconst 1, 1) := by decide +kernel
theorem dX3_readFigure_12 : decode cX3_readFigure 12 = .ok (.goto 4, 3) := by decide +kernel
theorem dX3_readFigure_15 : decode cX3_readFigure 15 = .ok (.iconst 0, 1) := by decide +kernel
theorem dX3_readFigure_16 : decode cX3_readFigure 16 = .ok (.istore_n 2, 1) := by decide +kernel
theorem dX3_readFigure_17 : decode cX3_readFigure 17 = .ok (.iload_n 2, 1) := by decide +kernel
theorem dX3_readFigure_18 : decode cX3_readFigure 18 = .ok (.ifCond .eq 18, 3) := by decide +kernel
theorem dX3_readFigure_21 : decode cX3_readFigure 21 = .ok (.aload_n 0, 1) := by decide +kernel
theorem dX3_readFigure_22 : decode cX3_readFigure 22 = .ok (.dup, 1) := by decide +kernel
theorem dX3_readFigure_23 : decode cX3_readFigure 23 = .ok (.getfield 15, 3) := by decide +kernel
theorem dX3_readFigure_26 : decode cX3_readFigure 26 = .ok (.iconst 1, 1) := by decide +kernel
theorem dX3_readFigure_27 : decode cX3_readFigure 27 = .ok (.iadd, 1) := by decide +kernel
theorem dX3_readFigure_28 : decode cX3_readFigure 28 = .ok (.putfield 15, 3) := by decide +kernel
theorem dX3_readFigure_31 : decode cX3_readFigure 31 = .ok (.aload_n 0, 1) := by decide +kernel
theorem dX3_readFigure_32 : decode cX3_readFigure 32 = .ok (.invokevirtual 23, 3) := by decide +kernel
theorem dX3_readFigure_35 : decode cX3_readFigure 35 = .ok (.istore_n 1, 1) := by decide +kernel
theorem dX3_readFigure_36 : decode cX3_readFigure 36 = .ok (.iload_n 1, 1) := by decide +kernel
theorem dX3_readFigure_37 : decode cX3_readFigure 37 = .ok (.bipush 48, 2) := by decide +kernel
theorem dX3_readFigure_39 : decode cX3_readFigure 39 = .ok (.if_icmp .lt 9, 3) := by decide +kernel
theorem dX3_readFigure_42 : decode cX3_readFigure 42 = .ok (.iload_n 1, 1) := by decide +kernel
theorem dX3_readFigure_43 : decode cX3_readFigure 43 = .ok (.bipush 51, 2) := by decide +kernel
theorem dX3_readFigure_45 : decode cX3_readFigure 45 = .ok (.if_icmp .le 5, 3) := by decide +kernel
theorem dX3_readFigure_48 : decode cX3_readFigure 48 = .ok (.iconst 0, 1) := by decide +kernel
theorem dX3_readFigure_49 : decode cX3_readFigure 49 = .ok (.ireturn, 1) := by decide +kernel
theorem dX3_readFigure_50 : decode cX3_readFigure 50 = .ok (.aload_n 0, 1) := by decide +kernel
theorem dX3_readFigure_51 : decode cX3_readFigure 51 = .ok (.iload_n 2, 1) := by decide +kernel
theorem dX3_readFigure_52 : decode cX3_readFigure 52 = .ok (.ifCond .eq 10, 3) := by decide +kernel
theorem dX3_readFigure_55 : decode cX3_readFigure 55 = .ok (.bipush 48, 2) := by decide +kernel
theorem dX3_readFigure_57 : decode cX3_readFigure 57 = .ok (.iload_n 1, 1) := by decide +kernel
theorem dX3_readFigure_58 : decode cX3_readFigure 58 = .ok (.isub, 1) := by decide +kernel
theorem dX3_readFigure_59 : decode cX3_readFigure 59 = .ok (.goto 7, 3) := by decide +kernel
theorem dX3_readFigure_62 : decode cX3_readFigure 62 = .ok (.iload_n 1, 1) := by decide +kernel
theorem dX3_readFigure_63 : decode cX3_readFigure 63 = .ok (.bipush 48, 2) := by decide +kernel
theorem dX3_readFigure_65 : decode cX3_readFigure 65 = .ok (.isub, 1) := by decide +kernel
theorem dX3_readFigure_66 : decode cX3_readFigure 66 = .ok (.putfield 52, 3) := by decide +kernel
theorem dX3_readFigure_69 : decode cX3_readFigure 69 = .ok (.aload_n 0, 1) := by decide +kernel
theorem dX3_readFigure_70 : decode cX3_readFigure 70 = .ok (.dup, 1) := by decide +kernel
theorem dX3_readFigure_71 : decode cX3_readFigure 71 = .ok (.getfield 15, 3) := by decide +kernel
theorem dX3_readFigure_74 : decode cX3_readFigure 74 = .ok (.iconst 1, 1) := by decide +kernel
theorem dX3_readFigure_75 : decode cX3_readFigure 75 = .ok (.iadd, 1) := by decide +kernel
theorem dX3_readFigure_76 : decode cX3_readFigure 76 = .ok (.putfield 15, 3) := by decide +kernel
theorem dX3_readFigure_79 : decode cX3_readFigure 79 = .ok (.iconst 1, 1) := by decide +kernel
theorem dX3_readFigure_80 : decode cX3_readFigure 80 = .ok (.ireturn, 1) := by decide +kernel
theorem dX3_readOff_0 : decode cX3_readOff 0 = .ok (.aload_n 0, 1) := by decide +kernel
theorem dX3_readOff_1 : decode cX3_readOff 1 = .ok (.invokevirtual 23, 3) := by decide +kernel
theorem dX3_readOff_4 : decode cX3_readOff 4 = .ok (.pop, 1) := by decide +kernel
theorem dX3_readOff_5 : decode cX3_readOff 5 = .ok (.aload_n 0, 1) := by decide +kernel
theorem dX3_readOff_6 : decode cX3_readOff 6 = .ok (.getfield 15, 3) := by decide +kernel
theorem dX3_readOff_9 : decode cX3_readOff 9 = .ok (.istore_n 1, 1) := by decide +kernel
theorem dX3_readOff_10 : decode cX3_readOff 10 = .ok (.aload_n 0, 1) := by decide +kernel
theorem dX3_readOff_11 : decode cX3_readOff 11 = .ok (.iconst 0, 1) := by decide +kernel
theorem dX3_readOff_12 : decode cX3_readOff 12 = .ok (.putfield 68, 3) := by decide +kernel
theorem dX3_readOff_15 : decode cX3_readOff 15 = .ok (.aload_n 0, 1) := by decide +kernel
theorem dX3_readOff_16 : decode cX3_readOff 16 = .ok (.getfield 15, 3) := by decide +kernel
theorem dX3_readOff_19 : decode cX3_readOff 19 = .ok (.aload_n 0, 1) := by decide +kernel
theorem dX3_readOff_20 : decode cX3_readOff 20 = .ok (.getfield 46, 3) := by decide +kernel
theorem dX3_readOff_23 : decode cX3_readOff 23 = .ok (.if_icmp .ge 82, 3) := by decide +kernel
theorem dX3_readOff_26 : decode cX3_readOff 26 = .ok (.aload_n 0, 1) := by decide +kernel
theorem dX3_readOff_27 : decode cX3_readOff 27 = .ok (.getfield 9, 3) := by decide +kernel
theorem dX3_readOff_30 : decode cX3_readOff 30 = .ok (.aload_n 0, 1) := by decide +kernel
theorem dX3_readOff_31 : decode cX3_readOff 31 = .ok (.getfield 15, 3) := by decide +kernel
theorem dX3_readOff_34 : decode cX3_readOff 34 = .ok (.baload, 1) := by decide +kernel
theorem dX3_readOff_35 : decode cX3_readOff 35 = .ok (.bipush 48, 2) := by decide +kernel
theorem dX3_readOff_37 : decode cX3_readOff 37 = .ok (.if_icmp .lt 68, 3) := by decide +kernel
theorem dX3_readOff_40 : decode cX3_readOff 40 = .ok (.aload_n 0, 1) := by decide +kernel
theorem dX3_readOff_41 : decode cX3_readOff 41 = .ok (.getfield 9, 3) := by decide +kernel
theorem dX3_readOff_44 : decode cX3_readOff 44 = .ok (.aload_n 0, 1) := by decide +kernel
theorem dX3_readOff_45 : decode cX3_readOff 45 = .ok (.getfield 15, 3) := by decide +kernel
theorem dX3_readOff_48 : decode cX3_readOff 48 = .ok (.baload, 1) := by decide +kernel
theorem dX3_readOff_49 : decode cX3_readOff 49 = .ok (.bipush 57, 2) := by decide +kernel
theorem dX3_readOff_51 : decode cX3_readOff 51 = .ok (.if_icmp .gt 54, 3) := by decide +kernel
theorem dX3_readOff_54 : decode cX3_readOff 54 = .ok (.aload_n 0, 1) := by decide +kernel
theorem dX3_readOff_55 : decode cX3_readOff 55 = .ok (.aload_n 0, 1) := by decide +kernel
theorem dX3_readOff_56 : decode cX3_readOff 56 = .ok (.getfield 15, 3) := by decide +kernel
theorem dX3_readOff_59 : decode cX3_readOff 59 = .ok (.iload_n 1, 1) := by decide +kernel
theorem dX3_readOff_60 : decode cX3_readOff 60 = .ok (.isub, 1) := by decide +kernel
theorem dX3_readOff_61 : decode cX3_readOff 61 = .ok (.iconst 2, 1) := by decide +kernel
theorem dX3_readOff_62 : decode cX3_readOff 62 = .ok (.if_icmp .ge 26, 3) := by decide +kernel
theorem dX3_readOff_65 : decode cX3_readOff 65 = .ok (.bipush 10, 2) := by decide +kernel
theorem dX3_readOff_67 : decode cX3_readOff 67 = .ok (.aload_n 0, 1) := by decide +kernel
theorem dX3_readOff_68 : decode cX3_readOff 68 = .ok (.getfield 68, 3) := by decide +kernel
theorem dX3_readOff_71 : decode cX3_readOff 71 = .ok (.imul, 1) := by decide +kernel
theorem dX3_readOff_72 : decode cX3_readOff 72 = .ok (.aload_n 0, 1) := by decide +kernel
theorem dX3_readOff_73 : decode cX3_readOff 73 = .ok (.getfield 9, 3) := by decide +kernel
theorem dX3_readOff_76 : decode cX3_readOff 76 = .ok (.aload_n 0, 1) := by decide +kernel
theorem dX3_readOff_77 : decode cX3_readOff 77 = .ok (.getfield 15, 3) := by decide +kernel
theorem dX3_readOff_80 : decode cX3_readOff 80 = .ok (.baload, 1) := by decide +kernel
theorem dX3_readOff_81 : decode cX3_readOff 81 = .ok (.iadd, 1) := by decide +kernel
theorem dX3_readOff_82 : decode cX3_readOff 82 = .ok (.bipush 48, 2) := by decide +kernel
theorem dX3_readOff_84 : decode cX3_readOff 84 = .ok (.isub, 1) := by decide +kernel
theorem dX3_readOff_85 : decode cX3_readOff 85 = .ok (.goto 4, 3) := by decide +kernel
theorem dX3_readOff_88 : decode cX3_readOff 88 = .ok (.iconst 0, 1) := by decide +kernel
theorem dX3_readOff_89 : decode cX3_readOff 89 = .ok (.putfield 68, 3) := by decide +kernel
theorem dX3_readOff_92 : decode cX3_readOff 92 = .ok (.aload_n 0, 1) := by decide +kernel
theorem dX3_readOff_93 : decode cX3_readOff 93 = .ok (.dup, 1) := by decide +kernel
theorem dX3_readOff_94 : decode cX3_readOff 94 = .ok (.getfield 15, 3) := by decide +kernel
theorem dX3_readOff_97 : decode cX3_readOff 97 = .ok (.iconst 1, 1) := by decide +kernel
theorem dX3_readOff_98 : decode cX3_readOff 98 = .ok (.iadd, 1) := by decide +kernel
theorem dX3_readOff_99 : decode cX3_readOff 99 = .ok (.putfield 15, 3) := by decide +kernel
theorem dX3_readOff_102 : decode cX3_readOff 102 = .ok (.goto (-87), 3) := by decide +kernel
theorem dX3_readOff_105 : decode cX3_readOff 105 = .ok (.aload_n 0, 1) := by decide +kernel
theorem dX3_readOff_106 : decode cX3_readOff 106 = .ok (.getfield 15, 3) := by decide +kernel
theorem dX3_readOff_109 : decode cX3_readOff 109 = .ok (.iload_n 1, 1) := by decide +kernel
theorem dX3_readOff_110 : decode cX3_readOff 110 = .ok (.isub, 1) := by decide +kernel
theorem dX3_readOff_111 : decode cX3_readOff 111 = .ok (.iconst 2, 1) := by decide +kernel
theorem dX3_readOff_112 : decode cX3_readOff 112 = .ok (.if_icmp .gt 13, 3) := by decide +kernel
theorem dX3_readOff_115 : decode cX3_readOff 115 = .ok (.aload_n 0, 1) := by decide +kernel
theorem dX3_readOff_116 : decode cX3_readOff 116 = .ok (.getfield 68, 3) := by decide +kernel
theorem dX3_readOff_119 : decode cX3_readOff 119 = .ok (.invokestatic 71, 3) := by decide +kernel
theorem dX3_readOff_122 : decode cX3_readOff 122 = .ok (.ifCond .ne 10, 3) := by decide +kernel
theorem dX3_readOff_125 : decode cX3_readOff 125 = .ok (.aload_n 0, 1) := by decide +kernel
theorem dX3_readOff_126 : decode cX3_readOff 126 = .ok (.iload_n 1, 1) := by decide +kernel
theorem dX3_readOff_127 : decode cX3_readOff 127 = .ok (.putfield 15, 3) := by decide +kernel
theorem dX3_readOff_130 : decode cX3_readOff 130 = .ok (.iconst 0, 1) := by decide +kernel
theorem dX3_readOff_131 : decode cX3_readOff 131 = .ok (.ireturn, 1) := by decide +kernel
theorem dX3_readOff_132 : decode cX3_readOff 132 = .ok (.iconst 1, 1) := by decide +kernel
theorem dX3_readOff_133 : decode cX3_readOff 133 = .ok (.ireturn, 1) := by decide +kernel
theorem dX3_endOne_0 : decode cX3_endOne 0 = .ok (.aload_n 0, 1) := by decide +kernel
theorem dX3_endOne_1 : decode cX3_endOne 1 = .ok (.invokevirtual 23, 3) := by decide +kernel
theorem dX3_endOne_4 : decode cX3_endOne 4 = .ok (.bipush 59, 2) := by decide +kernel
theorem dX3_endOne_6 : decode cX3_endOne 6 = .ok (.if_icmp .eq 5, 3) := by decide +kernel
theorem dX3_endOne_9 : decode cX3_endOne 9 = .ok (.iconst 0, 1) := by decide +kernel
theorem dX3_endOne_10 : decode cX3_endOne 10 = .ok (.ireturn, 1) := by decide +kernel
theorem dX3_endOne_11 : decode cX3_endOne 11 = .ok (.aload_n 2, 1) := by decide +kernel
theorem dX3_endOne_12 : decode cX3_endOne 12 = .ok (.aload_n 0, 1) := by decide +kernel
theorem dX3_endOne_13 : decode cX3_endOne 13 = .ok (.getfield 27, 3) := by decide +kernel
theorem dX3_endOne_16 : decode cX3_endOne 16 = .ok (.aload_n 0, 1) := by decide +kernel
theorem dX3_endOne_17 : decode cX3_endOne 17 = .ok (.getfield 55, 3) := by decide +kernel
theorem dX3_endOne_20 : decode cX3_endOne 20 = .ok (.aload_n 0, 1) := by decide +kernel
theorem dX3_endOne_21 : decode cX3_endOne 21 = .ok (.getfield 58, 3) := by decide +kernel
theorem dX3_endOne_24 : decode cX3_endOne 24 = .ok (.aload_n 0, 1) := by decide +kernel
theorem dX3_endOne_25 : decode cX3_endOne 25 = .ok (.getfield 61, 3) := by decide +kernel
theorem dX3_endOne_28 : decode cX3_endOne 28 = .ok (.invokevirtual 75, 3) := by decide +kernel
theorem dX3_endOne_31 : decode cX3_endOne 31 = .ok (.aload_n 1, 1) := by decide +kernel
theorem dX3_endOne_32 : decode cX3_endOne 32 = .ok (.getfield 81, 3) := by decide +kernel
theorem dX3_endOne_35 : decode cX3_endOne 35 = .ok (.aload_n 2, 1) := by decide +kernel
theorem dX3_endOne_36 : decode cX3_endOne 36 = .ok (.getfield 86, 3) := by decide +kernel
theorem dX3_endOne_39 : decode cX3_endOne 39 = .ok (.iadd, 1) := by decide +kernel
theorem dX3_endOne_40 : decode cX3_endOne 40 = .ok (.bipush 32, 2) := by decide +kernel
theorem dX3_endOne_42 : decode cX3_endOne 42 = .ok (.if_icmp .le 5, 3) := by decide +kernel
theorem dX3_endOne_45 : decode cX3_endOne 45 = .ok (.iconst 0, 1) := by decide +kernel
theorem dX3_endOne_46 : decode cX3_endOne 46 = .ok (.ireturn, 1) := by decide +kernel
theorem dX3_endOne_47 : decode cX3_endOne 47 = .ok (.aload_n 1, 1) := by decide +kernel
theorem dX3_endOne_48 : decode cX3_endOne 48 = .ok (.aload_n 2, 1) := by decide +kernel
theorem dX3_endOne_49 : decode cX3_endOne 49 = .ok (.aload_n 0, 1) := by decide +kernel
theorem dX3_endOne_50 : decode cX3_endOne 50 = .ok (.getfield 68, 3) := by decide +kernel
theorem dX3_endOne_53 : decode cX3_endOne 53 = .ok (.invokevirtual 87, 3) := by decide +kernel
theorem dX3_endOne_56 : decode cX3_endOne 56 = .ok (.aload_n 0, 1) := by decide +kernel
theorem dX3_endOne_57 : decode cX3_endOne 57 = .ok (.dup, 1) := by decide +kernel
theorem dX3_endOne_58 : decode cX3_endOne 58 = .ok (.getfield 15, 3) := by decide +kernel
theorem dX3_endOne_61 : decode cX3_endOne 61 = .ok (.iconst 1, 1) := by decide +kernel
theorem dX3_endOne_62 : decode cX3_endOne 62 = .ok (.iadd, 1) := by decide +kernel
theorem dX3_endOne_63 : decode cX3_endOne 63 = .ok (.putfield 15, 3) := by decide +kernel
theorem dX3_endOne_66 : decode cX3_endOne 66 = .ok (.iconst 1, 1) := by decide +kernel
theorem dX3_endOne_67 : decode cX3_endOne 67 = .ok (.ireturn, 1) := by decide +kernel
theorem dX4_init_0 : decode cX4_init 0 = .ok (.aload_n 0, 1) := by decide +kernel
theorem dX4_init_1 : decode cX4_init 1 = .ok (.invokespecial 3, 3) := by decide +kernel
theorem dX4_init_4 : decode cX4_init 4 = .ok (.aload_n 0, 1) := by decide +kernel
theorem dX4_init_5 : decode cX4_init 5 = .ok (.bipush 60, 2) := by decide +kernel
theorem dX4_init_7 : decode cX4_init 7 = .ok (.newarray .int, 2) := by decide +kernel
theorem dX4_init_9 : decode cX4_init 9 = .ok (.putfield 9, 3) := by decide +kernel
theorem dX4_init_12 : decode cX4_init 12 = .ok (.aload_n 0, 1) := by decide +kernel
theorem dX4_init_13 : decode cX4_init 13 = .ok (.bipush 60, 2) := by decide +kernel
theorem dX4_init_15 : decode cX4_init 15 = .ok (.newarray .int, 2) := by decide +kernel
theorem dX4_init_17 : decode cX4_init 17 = .ok (.putfield 15, 3) := by decide +kernel
theorem dX4_init_20 : decode cX4_init 20 = .ok (.aload_n 0, 1) := by decide +kernel
theorem dX4_init_21 : decode cX4_init 21 = .ok (.bipush 60, 2) := by decide +kernel
theorem dX4_init_23 : decode cX4_init 23 = .ok (.newarray .int, 2) := by decide +kernel
theorem dX4_init_25 : decode cX4_init 25 = .ok (.putfield 18, 3) := by decide +kernel
theorem dX4_init_28 : decode cX4_init 28 = .ok (.aload_n 0, 1) := by decide +kernel
theorem dX4_init_29 : decode cX4_init 29 = .ok (.bipush 60, 2) := by decide +kernel
theorem dX4_init_31 : decode cX4_init 31 = .ok (.newarray .int, 2) := by decide +kernel
theorem dX4_init_33 : decode cX4_init 33 = .ok (.putfield 21, 3) := by decide +kernel
theorem dX4_init_36 : decode cX4_init 36 = .ok (.aload_n 0, 1) := by decide +kernel
theorem dX4_init_37 : decode cX4_init 37 = .ok (.bipush 60, 2) := by decide +kernel
theorem dX4_init_39 : decode cX4_init 39 = .ok (.newarray .int, 2) := by decide +kernel
theorem dX4_init_41 : decode cX4_init 41 = .ok (.putfield 24, 3) := by decide +kernel
theorem dX4_init_44 : decode cX4_init 44 = .ok (.aload_n 0, 1) := by decide +kernel
theorem dX4_init_45 : decode cX4_init 45 = .ok (.bipush 32, 2) := by decide +kernel
theorem dX4_init_47 : decode cX4_init 47 = .ok (.newarray .int, 2) := by decide +kernel
theorem dX4_init_49 : decode cX4_init 49 = .ok (.putfield 27, 3) := by decide +kernel
theorem dX4_init_52 : decode cX4_init 52 = .ok (.aload_n 0, 1) := by decide +kernel
theorem dX4_init_53 : decode cX4_init 53 = .ok (.new 30, 3) := by decide +kernel
theorem dX4_init_56 : decode cX4_init 56 = .ok (.dup, 1) := by decide +kernel
theorem dX4_init_57 : decode cX4_init 57 = .ok (.invokespecial 32, 3) := by decide +kernel
theorem dX4_init_60 : decode cX4_init 60 = .ok (.putfield 33, 3) := by decide +kernel
theorem dX4_init_63 : decode cX4_init 63 = .ok (.return_, 1) := by decide +kernel
theorem dX4_cut_0 : decode cX4_cut 0 = .ok (.aload_n 0, 1) := by decide +kernel
theorem dX4_cut_1 : decode cX4_cut 1 = .ok (.iconst 0, 1) := by decide +kernel
theorem dX4_cut_2 : decode cX4_cut 2 = .ok (.putfield 37, 3) := by decide +kernel
theorem dX4_cut_5 : decode cX4_cut 5 = .ok (.iconst 0, 1) := by decide +kernel
theorem dX4_cut_6 : decode cX4_cut 6 = .ok (.istore_n 3, 1) := by decide +kernel
theorem dX4_cut_7 : decode cX4_cut 7 = .ok (.iload_n 3, 1) := by decide +kernel
theorem dX4_cut_8 : decode cX4_cut 8 = .ok (.aload_n 1, 1) := by decide +kernel
theorem dX4_cut_9 : decode cX4_cut 9 = .ok (.getfield 41, 3) := by decide +kernel
theorem dX4_cut_12 : decode cX4_cut 12 = .ok (.if_icmp .ge 102, 3) := by decide +kernel
theorem dX4_cut_15 : decode cX4_cut 15 = .ok (.iload_n 3, 1) := by decide +kernel
theorem dX4_cut_16 : decode cX4_cut 16 = .ok (.iconst 1, 1) := by decide +kernel
theorem dX4_cut_17 : decode cX4_cut 17 = .ok (.iadd, 1) := by decide +kernel
theorem dX4_cut_18 : decode cX4_cut 18 = .ok (.istore 4, 2) := by decide +kernel
theorem dX4_cut_20 : decode cX4_cut 20 = .ok (.iload 4, 2) := by decide +kernel
theorem dX4_cut_22 : decode cX4_cut 22 = .ok (.aload_n 1, 1) := by decide +kernel
theorem dX4_cut_23 : decode cX4_cut 23 = .ok (.getfield 41, 3) := by decide +kernel
theorem dX4_cut_26 : decode cX4_cut 26 = .ok (.if_icmp .ge 82, 3) := by decide +kernel
theorem dX4_cut_29 : decode cX4_cut 29 = .ok (.iload_n 3, 1) := by decide +kernel
theorem dX4_cut_30 : decode cX4_cut 30 = .ok (.iload_n 2, 1) := by decide +kernel
theorem dX4_cut_31 : decode cX4_cut 31 = .ok (.if_icmp .eq 71, 3) := by decide +kernel
theorem dX4_cut_34 : decode cX4_cut 34 = .ok (.iload 4, 2) := by decide +kernel
theorem dX4_cut_36 : decode cX4_cut 36 = .ok (.iload_n 2, 1) := by decide +kernel
theorem dX4_cut_37 : decode cX4_cut 37 = .ok (.if_icmp .eq 65, 3) := by decide +kernel
theorem dX4_cut_40 : decode cX4_cut 40 = .ok (.aload_n 0, 1) := by decide +kernel
theorem dX4_cut_41 : decode cX4_cut 41 = .ok (.getfield 33, 3) := by decide +kernel
theorem dX4_cut_44 : decode cX4_cut 44 = .ok (.aload_n 1, 1) := by decide +kernel
theorem dX4_cut_45 : decode cX4_cut 45 = .ok (.iload_n 3, 1) := by decide +kernel
theorem dX4_cut_46 : decode cX4_cut 46 = .ok (.iload 4, 2) := by decide +kernel
theorem dX4_cut_48 : decode cX4_cut 48 = .ok (.invokevirtual 46, 3) := by decide +kernel
theorem dX4_cut_51 : decode cX4_cut 51 = .ok (.ifCond .eq 51, 3) := by decide +kernel
theorem dX4_cut_54 : decode cX4_cut 54 = .ok (.aload_n 0, 1) := by decide +kernel
theorem dX4_cut_55 : decode cX4_cut 55 = .ok (.getfield 33, 3) := by decide +kernel
theorem dX4_cut_58 : decode cX4_cut 58 = .ok (.aload_n 1, 1) := by decide +kernel
theorem dX4_cut_59 : decode cX4_cut 59 = .ok (.iload_n 2, 1) := by decide +kernel
theorem dX4_cut_60 : decode cX4_cut 60 = .ok (.invokevirtual 50, 3) := by decide +kernel
theorem dX4_cut_63 : decode cX4_cut 63 = .ok (.ifCond .eq 39, 3) := by decide +kernel
theorem dX4_cut_66 : decode cX4_cut 66 = .ok (.aload_n 0, 1) := by decide +kernel
theorem dX4_cut_67 : decode cX4_cut 67 = .ok (.aload_n 0, 1) := by decide +kernel
theorem dX4_cut_68 : decode cX4_cut 68 = .ok (.getfield 33, 3) := by decide +kernel
theorem dX4_cut_71 : decode cX4_cut 71 = .ok (.getfield 54, 3) := by decide +kernel
theorem dX4_cut_74 : decode cX4_cut 74 = .ok (.aload_n 0, 1) := by decide +kernel
theorem dX4_cut_75 : decode cX4_cut 75 = .ok (.getfield 33, 3) := by decide +kernel
theorem dX4_cut_78 : decode cX4_cut 78 = .ok (.getfield 57, 3) := by decide +kernel
theorem dX4_cut_81 : decode cX4_cut 81 = .ok (.invokevirtual 60, 3) := by decide +kernel
theorem dX4_cut_84 : decode cX4_cut 84 = .ok (.aload_n 0, 1) := by decide +kernel
theorem dX4_cut_85 : decode cX4_cut 85 = .ok (.aload_n 0, 1) := by decide +kernel
theorem dX4_cut_86 : decode cX4_cut 86 = .ok (.getfield 33, 3) := by decide +kernel
theorem dX4_cut_89 : decode cX4_cut 89 = .ok (.getfield 64, 3) := by decide +kernel
theorem dX4_cut_92 : decode cX4_cut 92 = .ok (.aload_n 0, 1) := by decide +kernel
theorem dX4_cut_93 : decode cX4_cut 93 = .ok (.getfield 33, 3) := by decide +kernel
theorem dX4_cut_96 : decode cX4_cut 96 = .ok (.getfield 67, 3) := by decide +kernel
theorem dX4_cut_99 : decode cX4_cut 99 = .ok (.invokevirtual 60, 3) := by decide +kernel
theorem dX4_cut_102 : decode cX4_cut 102 = .ok (.iinc 4 1, 3) := by decide +kernel
theorem dX4_cut_105 : decode cX4_cut 105 = .ok (.goto (-85), 3) := by decide +kernel
theorem dX4_cut_108 : decode cX4_cut 108 = .ok (.iinc 3 1, 3) := by decide +kernel
theorem dX4_cut_111 : decode cX4_cut 111 = .ok (.goto (-104), 3) := by decide +kernel
theorem dX4_cut_114 : decode cX4_cut 114 = .ok (.return_, 1) := by decide +kernel
theorem dX4_keepPoint_0 : decode cX4_keepPoint 0 = .ok (.aload_n 0, 1) := by decide +kernel
theorem dX4_keepPoint_1 : decode cX4_keepPoint 1 = .ok (.getfield 33, 3) := by decide +kernel
theorem dX4_keepPoint_4 : decode cX4_keepPoint 4 = .ok (.getfield 70, 3) := by decide +kernel
theorem dX4_keepPoint_7 : decode cX4_keepPoint 7 = .ok (.iload_n 2, 1) := by decide +kernel
theorem dX4_keepPoint_8 : decode cX4_keepPoint 8 = .ok (.imul, 1) := by decide +kernel
theorem dX4_keepPoint_9 : decode cX4_keepPoint 9 = .ok (.aload_n 0, 1) := by decide +kernel
theorem dX4_keepPoint_10 : decode cX4_keepPoint 10 = .ok (.getfield 33, 3) := by decide +kernel
theorem dX4_keepPoint_13 : decode cX4_keepPoint 13 = .ok (.getfield 73, 3) := by decide +kernel
theorem dX4_keepPoint_16 : decode cX4_keepPoint 16 = .ok (.iload_n 1, 1) := by decide +kernel
theorem dX4_keepPoint_17 : decode cX4_keepPoint 17 = .ok (.imul, 1) := by decide +kernel
theorem dX4_keepPoint_18 : decode cX4_keepPoint 18 = .ok (.iadd, 1) := by decide +kernel
theorem dX4_keepPoint_19 : decode cX4_keepPoint 19 = .ok (.istore_n 3, 1) := by decide +kernel
theorem dX4_keepPoint_20 : decode cX4_keepPoint 20 = .ok (.aload_n 0, 1) := by decide +kernel
theorem dX4_keepPoint_21 : decode cX4_keepPoint 21 = .ok (.getfield 33, 3) := by decide +kernel
theorem dX4_keepPoint_24 : decode cX4_keepPoint 24 = .ok (.getfield 76, 3) := by decide +kernel
theorem dX4_keepPoint_27 : decode cX4_keepPoint 27 = .ok (.iload_n 2, 1) := by decide +kernel
theorem dX4_keepPoint_28 : decode cX4_keepPoint 28 = .ok (.imul, 1) := by decide +kernel
theorem dX4_keepPoint_29 : decode cX4_keepPoint 29 = .ok (.aload_n 0, 1) := by decide +kernel
theorem dX4_keepPoint_30 : decode cX4_keepPoint 30 = .ok (.getfield 33, 3) := by decide +kernel
theorem dX4_keepPoint_33 : decode cX4_keepPoint 33 = .ok (.getfield 79, 3) := by decide +kernel
theorem dX4_keepPoint_36 : decode cX4_keepPoint 36 = .ok (.iload_n 1, 1) := by decide +kernel
theorem dX4_keepPoint_37 : decode cX4_keepPoint 37 = .ok (.imul, 1) := by decide +kernel
theorem dX4_keepPoint_38 : decode cX4_keepPoint 38 = .ok (.iadd, 1) := by decide +kernel
theorem dX4_keepPoint_39 : decode cX4_keepPoint 39 = .ok (.istore 4, 2) := by decide +kernel
theorem dX4_keepPoint_41 : decode cX4_keepPoint 41 = .ok (.aload_n 0, 1) := by decide +kernel
theorem dX4_keepPoint_42 : decode cX4_keepPoint 42 = .ok (.getfield 33, 3) := by decide +kernel
theorem dX4_keepPoint_45 : decode cX4_keepPoint 45 = .ok (.getfield 82, 3) := by decide +kernel
theorem dX4_keepPoint_48 : decode cX4_keepPoint 48 = .ok (.iload_n 2, 1) := by decide +kernel
theorem dX4_keepPoint_49 : decode cX4_keepPoint 49 = .ok (.imul, 1) := by decide +kernel
theorem dX4_keepPoint_50 : decode cX4_keepPoint 50 = .ok (.aload_n 0, 1) := by decide +kernel
theorem dX4_keepPoint_51 : decode cX4_keepPoint 51 = .ok (.getfield 33, 3) := by decide +kernel
theorem dX4_keepPoint_54 : decode cX4_keepPoint 54 = .ok (.getfield 85, 3) := by decide +kernel
theorem dX4_keepPoint_57 : decode cX4_keepPoint 57 = .ok (.iload_n 1, 1) := by decide +kernel
theorem dX4_keepPoint_58 : decode cX4_keepPoint 58 = .ok (.imul, 1) := by decide +kernel
theorem dX4_keepPoint_59 : decode cX4_keepPoint 59 = .ok (.iadd, 1) := by decide +kernel
theorem dX4_keepPoint_60 : decode cX4_keepPoint 60 = .ok (.istore 5, 2) := by decide +kernel
theorem dX4_keepPoint_62 : decode cX4_keepPoint 62 = .ok (.aload_n 0, 1) := by decide +kernel
theorem dX4_keepPoint_63 : decode cX4_keepPoint 63 = .ok (.getfield 33, 3) := by decide +kernel
theorem dX4_keepPoint_66 : decode cX4_keepPoint 66 = .ok (.getfield 88, 3) := by decide +kernel
theorem dX4_keepPoint_69 : decode cX4_keepPoint 69 = .ok (.iload_n 2, 1) := by decide +kernel
theorem dX4_keepPoint_70 : decode cX4_keepPoint 70 = .ok (.imul, 1) := by decide +kernel
theorem dX4_keepPoint_71 : decode cX4_keepPoint 71 = .ok (.istore 6, 2) := by decide +kernel
theorem dX4_keepPoint_73 : decode cX4_keepPoint 73 = .ok (.iload_n 3, 1) := by decide +kernel
theorem dX4_keepPoint_74 : decode cX4_keepPoint 74 = .ok (.iload 4, 2) := by decide +kernel
theorem dX4_keepPoint_76 : decode cX4_keepPoint 76 = .ok (.invokestatic 91, 3) := by decide +kernel
theorem dX4_keepPoint_79 : decode cX4_keepPoint 79 = .ok (.iload 5, 2) := by decide +kernel
theorem dX4_keepPoint_81 : decode cX4_keepPoint 81 = .ok (.iload 6, 2) := by decide +kernel
theorem dX4_keepPoint_83 : decode cX4_keepPoint 83 = .ok (.invokestatic 91, 3) := by decide +kernel
theorem dX4_keepPoint_86 : decode cX4_keepPoint 86 = .ok (.invokestatic 91, 3) := by decide +kernel
theorem dX4_keepPoint_89 : decode cX4_keepPoint 89 = .ok (.istore 7, 2) := by decide +kernel
theorem dX4_keepPoint_91 : decode cX4_keepPoint 91 = .ok (.iload 6, 2) := by decide +kernel
theorem dX4_keepPoint_93 : decode cX4_keepPoint 93 = .ok (.ifCond .le 8, 3) := by decide +kernel
theorem dX4_keepPoint_96 : decode cX4_keepPoint 96 = .ok (.iload 7, 2) := by decide +kernel
theorem dX4_keepPoint_98 : decode cX4_keepPoint 98 = .ok (.ifCond .gt 4, 3) := by decide +kernel
theorem dX4_keepPoint_101 : decode cX4_keepPoint 101 = .ok (.return_, 1) := by decide +kernel
theorem dX4_keepPoint_102 : decode cX4_keepPoint 102 = .ok (.iload_n 3, 1) := by decide +kernel
theorem dX4_keepPoint_103 : decode cX4_keepPoint 103 = .ok (.iload 7, 2) := by decide +kernel
theorem dX4_keepPoint_105 : decode cX4_keepPoint 105 = .ok (.idiv, 1) := by decide +kernel
theorem dX4_keepPoint_106 : decode cX4_keepPoint 106 = .ok (.istore_n 3, 1) := by decide +kernel
theorem dX4_keepPoint_107 : decode cX4_keepPoint 107 = .ok (.iload 4, 2) := by decide +kernel
theorem dX4_keepPoint_109 : decode cX4_keepPoint 109 = .ok (.iload 7, 2) := by decide +kernel
theorem dX4_keepPoint_111 : decode cX4_keepPoint 111 = .ok (.idiv, 1) := by decide +kernel
theorem dX4_keepPoint_112 : decode cX4_keepPoint 112 = .ok (.istore 4, 2) := by decide +kernel
theorem dX4_keepPoint_114 : decode cX4_keepPoint 114 = .ok (.iload 5, 2) := by decide +kernel
theorem dX4_keepPoint_116 : decode cX4_keepPoint 116 = .ok (.iload 7, 2) := by decide +kernel
theorem dX4_keepPoint_118 : decode cX4_keepPoint 118 = .ok (.idiv, 1) := by decide +kernel
theorem dX4_keepPoint_119 : decode cX4_keepPoint 119 = .ok (.istore 5, 2) := by decide +kernel
theorem dX4_keepPoint_121 : decode cX4_keepPoint 121 = .ok (.iload 6, 2) := by decide +kernel
theorem dX4_keepPoint_123 : decode cX4_keepPoint 123 = .ok (.iload 7, 2) := by decide +kernel
theorem dX4_keepPoint_125 : decode cX4_keepPoint 125 = .ok (.idiv, 1) := by decide +kernel
theorem dX4_keepPoint_126 : decode cX4_keepPoint 126 = .ok (.istore 6, 2) := by decide +kernel
theorem dX4_keepPoint_128 : decode cX4_keepPoint 128 = .ok (.aload_n 0, 1) := by decide +kernel
theorem dX4_keepPoint_129 : decode cX4_keepPoint 129 = .ok (.iload_n 3, 1) := by decide +kernel
theorem dX4_keepPoint_130 : decode cX4_keepPoint 130 = .ok (.iload 4, 2) := by decide +kernel
theorem dX4_keepPoint_132 : decode cX4_keepPoint 132 = .ok (.iload 5, 2) := by decide +kernel
theorem dX4_keepPoint_134 : decode cX4_keepPoint 134 = .ok (.iload 6, 2) := by decide +kernel
theorem dX4_keepPoint_136 : decode cX4_keepPoint 136 = .ok (.invokevirtual 95, 3) := by decide +kernel
theorem dX4_keepPoint_139 : decode cX4_keepPoint 139 = .ok (.istore 8, 2) := by decide +kernel
theorem dX4_keepPoint_141 : decode cX4_keepPoint 141 = .ok (.iload 8, 2) := by decide +kernel
theorem dX4_keepPoint_143 : decode cX4_keepPoint 143 = .ok (.aload_n 0, 1) := by decide +kernel
theorem dX4_keepPoint_144 : decode cX4_keepPoint 144 = .ok (.getfield 37, 3) := by decide +kernel
theorem dX4_keepPoint_147 : decode cX4_keepPoint 147 = .ok (.if_icmp .ge 19, 3) := by decide +kernel
theorem dX4_keepPoint_150 : decode cX4_keepPoint 150 = .ok (.aload_n 0, 1) := by decide +kernel
theorem dX4_keepPoint_151 : decode cX4_keepPoint 151 = .ok (.iload 8, 2) := by decide +kernel
theorem dX4_keepPoint_153 : decode cX4_keepPoint 153 = .ok (.iload_n 3, 1) := by decide +kernel
theorem dX4_keepPoint_154 : decode cX4_keepPoint 154 = .ok (.iload 4, 2) := by decide +kernel
theorem dX4_keepPoint_156 : decode cX4_keepPoint 156 = .ok (.iload 5, 2) := by decide +kernel
theorem dX4_keepPoint_158 : decode cX4_keepPoint 158 = .ok (.iload 6, 2) := by decide +kernel
theorem dX4_keepPoint_160 : decode cX4_keepPoint 160 = .ok (.invokevirtual 99, 3) := by decide +kernel
theorem dX4_keepPoint_163 : decode cX4_keepPoint 163 = .ok (.ifCond .eq 16, 3) := by decide +kernel
theorem dX4_keepPoint_166 : decode cX4_keepPoint 166 = .ok (.aload_n 0, 1) := by decide +kernel
theorem dX4_keepPoint_167 : decode cX4_keepPoint 167 = .ok (.iload 8, 2) := by decide +kernel
theorem dX4_keepPoint_169 : decode cX4_keepPoint 169 = .ok (.iload_n 3, 1) := by decide +kernel
theorem dX4_keepPoint_170 : decode cX4_keepPoint 170 = .ok (.iload 4, 2) := by decide +kernel
theorem dX4_keepPoint_172 : decode cX4_keepPoint 172 = .ok (.iload 5, 2) := by decide +kernel
theorem dX4_keepPoint_174 : decode cX4_keepPoint 174 = .ok (.iload 6, 2) := by decide +kernel
theorem dX4_keepPoint_176 : decode cX4_keepPoint 176 = .ok (.invokevirtual 103, 3) := by decide +kernel
theorem dX4_keepPoint_179 : decode cX4_keepPoint 179 = .ok (.return_, 1) := by decide +kernel
theorem dX4_putCorner_0 : decode cX4_putCorner 0 = .ok (.aload_n 0, 1) := by decide +kernel
theorem dX4_putCorner_1 : decode cX4_putCorner 1 = .ok (.getfield 37, 3) := by decide +kernel
theorem dX4_putCorner_4 : decode cX4_putCorner 4 = .ok (.bipush 60, 2) := by decide +kernel
theorem dX4_putCorner_6 : decode cX4_putCorner 6 = .ok (.if_icmp .lt 4, 3) := by decide +kernel
theorem dX4_putCorner_9 : decode cX4_putCorner 9 = .ok (.return_, 1) := by decide +kernel
theorem dX4_putCorner_10 : decode cX4_putCorner 10 = .ok (.aload_n 0, 1) := by decide +kernel
theorem dX4_putCorner_11 : decode cX4_putCorner 11 = .ok (.getfield 37, 3) := by decide +kernel
theorem dX4_putCorner_14 : decode cX4_putCorner 14 = .ok (.istore 6, 2) := by decide +kernel
theorem dX4_putCorner_16 : decode cX4_putCorner 16 = .ok (.iload 6, 2) := by decide +kernel
theorem dX4_putCorner_18 : decode cX4_putCorner 18 = .ok (.iload_n 1, 1) := by decide +kernel
theorem dX4_putCorner_19 : decode cX4_putCorner 19 = .ok (.if_icmp .le 73, 3) := by decide +kernel
theorem dX4_putCorner_22 : decode cX4_putCorner 22 = .ok (.aload_n 0, 1) := by decide +kernel
theorem dX4_putCorner_23 : decode cX4_putCorner 23 = .ok (.getfield 9, 3) := by decide +kernel
theorem dX4_putCorner_26 : decode cX4_putCorner 26 = .ok (.iload 6, 2) := by decide +kernel
theorem dX4_putCorner_28 : decode cX4_putCorner 28 = .ok (.aload_n 0, 1) := by decide +kernel
theorem dX4_putCorner_29 : decode cX4_putCorner 29 = .ok (.getfield 9, 3) := by decide +kernel
theorem dX4_putCorner_32 : decode cX4_putCorner 32 = .ok (.iload 6, 2) := by decide +kernel
theorem dX4_putCorner_34 : decode cX4_putCorner 34 = .ok (.iconst 1, 1) := by decide +kernel
theorem dX4_putCorner_35 : decode cX4_putCorner 35 = .ok (.isub, 1) := by decide +kernel
theorem dX4_putCorner_36 : decode cX4_putCorner 36 = .ok (.iaload, 1) := by decide +kernel
theorem dX4_putCorner_37 : decode cX4_putCorner 37 = .ok (.iastore, 1) := by decide +kernel
theorem dX4_putCorner_38 : decode cX4_putCorner 38 = .ok (.aload_n 0, 1) := by decide +kernel
theorem dX4_putCorner_39 : decode cX4_putCorner 39 = .ok (.getfield 15, 3) := by decide +kernel
theorem dX4_putCorner_42 : decode cX4_putCorner 42 = .ok (.iload 6, 2) := by decide +kernel
theorem dX4_putCorner_44 : decode cX4_putCorner 44 = .ok (.aload_n 0, 1) := by decide +kernel
theorem dX4_putCorner_45 : decode cX4_putCorner 45 = .ok (.getfield 15, 3) := by decide +kernel
theorem dX4_putCorner_48 : decode cX4_putCorner 48 = .ok (.iload 6, 2) := by decide +kernel
theorem dX4_putCorner_50 : decode cX4_putCorner 50 = .ok (.iconst 1, 1) := by decide +kernel
theorem dX4_putCorner_51 : decode cX4_putCorner 51 = .ok (.isub, 1) := by decide +kernel
theorem dX4_putCorner_52 : decode cX4_putCorner 52 = .ok (.iaload, 1) := by decide +kernel
theorem dX4_putCorner_53 : decode cX4_putCorner 53 = .ok (.iastore, 1) := by decide +kernel
theorem dX4_putCorner_54 : decode cX4_putCorner 54 = .ok (.aload_n 0, 1) := by decide +kernel
theorem dX4_putCorner_55 : decode cX4_putCorner 55 = .ok (.getfield 18, 3) := by decide +kernel
theorem dX4_putCorner_58 : decode cX4_putCorner 58 = .ok (.iload 6, 2) := by decide +kernel
theorem dX4_putCorner_60 : decode cX4_putCorner 60 = .ok (.aload_n 0, 1) := by decide +kernel
theorem dX4_putCorner_61 : decode cX4_putCorner 61 = .ok (.getfield 18, 3) := by decide +kernel
theorem dX4_putCorner_64 : decode cX4_putCorner 64 = .ok (.iload 6, 2) := by decide +kernel
theorem dX4_putCorner_66 : decode cX4_putCorner 66 = .ok (.iconst 1, 1) := by decide +kernel
theorem dX4_putCorner_67 : decode cX4_putCorner 67 = .ok (.isub, 1) := by decide +kernel
theorem dX4_putCorner_68 : decode cX4_putCorner 68 = .ok (.iaload, 1) := by decide +kernel
theorem dX4_putCorner_69 : decode cX4_putCorner 69 = .ok (.iastore, 1) := by decide +kernel
theorem dX4_putCorner_70 : decode cX4_putCorner 70 = .ok (.aload_n 0, 1) := by decide +kernel
theorem dX4_putCorner_71 : decode cX4_putCorner 71 = .ok (.getfield 21, 3) := by decide +kernel
theorem dX4_putCorner_74 : decode cX4_putCorner 74 = .ok (.iload 6, 2) := by decide +kernel
theorem dX4_putCorner_76 : decode cX4_putCorner 76 = .ok (.aload_n 0, 1) := by decide +kernel
theorem dX4_putCorner_77 : decode cX4_putCorner 77 = .ok (.getfield 21, 3) := by decide +kernel
theorem dX4_putCorner_80 : decode cX4_putCorner 80 = .ok (.iload 6, 2) := by decide +kernel
theorem dX4_putCorner_82 : decode cX4_putCorner 82 = .ok (.iconst 1, 1) := by decide +kernel
theorem dX4_putCorner_83 : decode cX4_putCorner 83 = .ok (.isub, 1) := by decide +kernel
theorem dX4_putCorner_84 : decode cX4_putCorner 84 = .ok (.iaload, 1) := by decide +kernel
theorem dX4_putCorner_85 : decode cX4_putCorner 85 = .ok (.iastore, 1) := by decide +kernel
theorem dX4_putCorner_86 : decode cX4_putCorner 86 = .ok (.iinc 6 (-1), 3) := by decide +kernel
theorem dX4_putCorner_89 : decode cX4_putCorner 89 = .ok (.goto (-73), 3) := by decide +kernel
theorem dX4_putCorner_92 : decode cX4_putCorner 92 = .ok (.aload_n 0, 1) := by decide +kernel
theorem dX4_putCorner_93 : decode cX4_putCorner 93 = .ok (.getfield 9, 3) := by decide +kernel
theorem dX4_putCorner_96 : decode cX4_putCorner 96 = .ok (.iload_n 1, 1) := by decide +kernel
theorem dX4_putCorner_97 : decode cX4_putCorner 97 = .ok (.iload_n 2, 1) := by decide +kernel
theorem dX4_putCorner_98 : decode cX4_putCorner 98 = .ok (.iastore, 1) := by decide +kernel
theorem dX4_putCorner_99 : decode cX4_putCorner 99 = .ok (.aload_n 0, 1) := by decide +kernel
theorem dX4_putCorner_100 : decode cX4_putCorner 100 = .ok (.getfield 15, 3) := by decide +kernel
theorem dX4_putCorner_103 : decode cX4_putCorner 103 = .ok (.iload_n 1, 1) := by decide +kernel
theorem dX4_putCorner_104 : decode cX4_putCorner 104 = .ok (.iload_n 3, 1) := by decide +kernel
theorem dX4_putCorner_105 : decode cX4_putCorner 105 = .ok (.iastore, 1) := by decide +kernel
theorem dX4_putCorner_106 : decode cX4_putCorner 106 = .ok (.aload_n 0, 1) := by decide +kernel
theorem dX4_putCorner_107 : decode cX4_putCorner 107 = .ok (.getfield 18, 3) := by decide +kernel
theorem dX4_putCorner_110 : decode cX4_putCorner 110 = .ok (.iload_n 1, 1) := by decide +kernel
theorem dX4_putCorner_111 : decode cX4_putCorner 111 = .ok (.iload 4, 2) := by decide +kernel
theorem dX4_putCorner_113 : decode cX4_putCorner 113 = .ok (.iastore, 1) := by decide +kernel
theorem dX4_putCorner_114 : decode cX4_putCorner 114 = .ok (.aload_n 0, 1) := by decide +kernel
theorem dX4_putCorner_115 : decode cX4_putCorner 115 = .ok (.getfield 21, 3) := by decide +kernel
theorem dX4_putCorner_118 : decode cX4_putCorner 118 = .ok (.iload_n 1, 1) := by decide +kernel
theorem dX4_putCorner_119 : decode cX4_putCorner 119 = .ok (.iload 5, 2) := by decide +kernel
theorem dX4_putCorner_121 : decode cX4_putCorner 121 = .ok (.iastore, 1) := by decide +kernel
theorem dX4_putCorner_122 : decode cX4_putCorner 122 = .ok (.aload_n 0, 1) := by decide +kernel
theorem dX4_putCorner_123 : decode cX4_putCorner 123 = .ok (.dup, 1) := by decide +kernel
theorem dX4_putCorner_124 : decode cX4_putCorner 124 = .ok (.getfield 37, 3) := by decide +kernel
theorem dX4_putCorner_127 : decode cX4_putCorner 127 = .ok (.iconst 1, 1) := by decide +kernel
theorem dX4_putCorner_128 : decode cX4_putCorner 128 = .ok (.iadd, 1) := by decide +kernel
theorem dX4_putCorner_129 : decode cX4_putCorner 129 = .ok (.putfield 37, 3) := by decide +kernel
theorem dX4_putCorner_132 : decode cX4_putCorner 132 = .ok (.return_, 1) := by decide +kernel
theorem dX4_placeOf_0 : decode cX4_placeOf 0 = .ok (.iconst 0, 1) := by decide +kernel
theorem dX4_placeOf_1 : decode cX4_placeOf 1 = .ok (.istore 5, 2) := by decide +kernel
theorem dX4_placeOf_3 : decode cX4_placeOf 3 = .ok (.aload_n 0, 1) := by decide +kernel
theorem dX4_placeOf_4 : decode cX4_placeOf 4 = .ok (.getfield 37, 3) := by decide +kernel
theorem dX4_placeOf_7 : decode cX4_placeOf 7 = .ok (.istore 6, 2) := by decide +kernel
theorem dX4_placeOf_9 : decode cX4_placeOf 9 = .ok (.iconst 0, 1) := by decide +kernel
theorem dX4_placeOf_10 : decode cX4_placeOf 10 = .ok (.istore 7, 2) := by decide +kernel
theorem dX4_placeOf_12 : decode cX4_placeOf 12 = .ok (.iload 7, 2) := by decide +kernel
theorem dX4_placeOf_14 : decode cX4_placeOf 14 = .ok (.bipush 60, 2) := by decide +kernel
theorem dX4_placeOf_16 : decode cX4_placeOf 16 = .ok (.if_icmp .ge 52, 3) := by decide +kernel
theorem dX4_placeOf_19 : decode cX4_placeOf 19 = .ok (.iload 5, 2) := by decide +kernel
theorem dX4_placeOf_21 : decode cX4_placeOf 21 = .ok (.iload 6, 2) := by decide +kernel
theorem dX4_placeOf_23 : decode cX4_placeOf 23 = .ok (.if_icmp .ge 45, 3) := by decide +kernel
theorem dX4_placeOf_26 : decode cX4_placeOf 26 = .ok (.iload 5, 2) := by decide +kernel
theorem dX4_placeOf_28 : decode cX4_placeOf 28 = .ok (.iload 6, 2) := by decide +kernel
theorem dX4_placeOf_30 : decode cX4_placeOf 30 = .ok (.iadd, 1) := by decide +kernel
theorem dX4_placeOf_31 : decode cX4_placeOf 31 = .ok (.iconst 2, 1) := by decide +kernel
theorem dX4_placeOf_32 : decode cX4_placeOf 32 = .ok (.idiv, 1) := by decide +kernel
theorem dX4_placeOf_33 : decode cX4_placeOf 33 = .ok (.istore 8, 2) := by decide +kernel
theorem dX4_placeOf_35 : decode cX4_placeOf 35 = .ok (.aload_n 0, 1) := by decide +kernel
theorem dX4_placeOf_36 : decode cX4_placeOf 36 = .ok (.iload 8, 2) := by decide +kernel
theorem dX4_placeOf_38 : decode cX4_placeOf 38 = .ok (.iload_n 1, 1) := by decide +kernel
theorem dX4_placeOf_39 : decode cX4_placeOf 39 = .ok (.iload_n 2, 1) := by decide +kernel
theorem dX4_placeOf_40 : decode cX4_placeOf 40 = .ok (.iload_n 3, 1) := by decide +kernel
theorem dX4_placeOf_41 : decode cX4_placeOf 41 = .ok (.iload 4, 2) := by decide +kernel
theorem dX4_placeOf_43 : decode cX4_placeOf 43 = .ok (.invokevirtual 99, 3) := by decide +kernel
theorem dX4_placeOf_46 : decode cX4_placeOf 46 = .ok (.ifCond .ge 12, 3) := by decide +kernel
theorem dX4_placeOf_49 : decode cX4_placeOf 49 = .ok (.iload 8, 2) := by decide +kernel
theorem dX4_placeOf_51 : decode cX4_placeOf 51 = .ok (.iconst 1, 1) := by decide +kernel
theorem dX4_placeOf_52 : decode cX4_placeOf 52 = .ok (.iadd, 1) := by decide +kernel
theorem dX4_placeOf_53 : decode cX4_placeOf 53 = .ok (.istore 5, 2) := by decide +kernel
theorem dX4_placeOf_55 : decode cX4_placeOf 55 = .ok (.goto 7, 3) := by decide +kernel
theorem dX4_placeOf_58 : decode cX4_placeOf 58 = .ok (.iload 8, 2) := by decide +kernel
theorem dX4_placeOf_60 : decode cX4_placeOf 60 = .ok (.istore 6, 2) := by decide +kernel
theorem dX4_placeOf_62 : decode cX4_placeOf 62 = .ok (.iinc 7 1, 3) := by decide +kernel
theorem dX4_placeOf_65 : decode cX4_placeOf 65 = .ok (.goto (-53), 3) := by decide +kernel
theorem dX4_placeOf_68 : decode cX4_placeOf 68 = .ok (.iload 5, 2) := by decide +kernel
theorem dX4_placeOf_70 : decode cX4_placeOf 70 = .ok (.ireturn, 1) := by decide +kernel
theorem dX4_order_0 : decode cX4_order 0 = .ok (.aload_n 0, 1) := by decide +kernel
theorem dX4_order_1 : decode cX4_order 1 = .ok (.getfield 9, 3) := by decide +kernel
theorem dX4_order_4 : decode cX4_order 4 = .ok (.iload_n 1, 1) := by decide +kernel
theorem dX4_order_5 : decode cX4_order 5 = .ok (.iaload, 1) := by decide +kernel
theorem dX4_order_6 : decode cX4_order 6 = .ok (.iload 5, 2) := by decide +kernel
theorem dX4_order_8 : decode cX4_order 8 = .ok (.imul, 1) := by decide +kernel
theorem dX4_order_9 : decode cX4_order 9 = .ok (.iload_n 2, 1) := by decide +kernel
theorem dX4_order_10 : decode cX4_order 10 = .ok (.aload_n 0, 1) := by decide +kernel
theorem dX4_order_11 : decode cX4_order 11 = .ok (.getfield 21, 3) := by decide +kernel
theorem dX4_order_14 : decode cX4_order 14 = .ok (.iload_n 1, 1) := by decide +kernel
theorem dX4_order_15 : decode cX4_order 15 = .ok (.iaload, 1) := by decide +kernel
theorem dX4_order_16 : decode cX4_order 16 = .ok (.imul, 1) := by decide +kernel
theorem dX4_order_17 : decode cX4_order 17 = .ok (.isub, 1) := by decide +kernel
theorem dX4_order_18 : decode cX4_order 18 = .ok (.istore 6, 2) := by decide +kernel
theorem dX4_order_20 : decode cX4_order 20 = .ok (.aload_n 0, 1) := by decide +kernel
theorem dX4_order_21 : decode cX4_order 21 = .ok (.getfield 15, 3) := by decide +kernel
theorem dX4_order_24 : decode cX4_order 24 = .ok (.iload_n 1, 1) := by decide +kernel
theorem dX4_order_25 : decode cX4_order 25 = .ok (.iaload, 1) := by decide +kernel
theorem dX4_order_26 : decode cX4_order 26 = .ok (.iload 5, 2) := by decide +kernel
theorem dX4_order_28 : decode cX4_order 28 = .ok (.imul, 1) := by decide +kernel
theorem dX4_order_29 : decode cX4_order 29 = .ok (.iload_n 3, 1) := by decide +kernel
theorem dX4_order_30 : decode cX4_order 30 = .ok (.aload_n 0, 1) := by decide +kernel
theorem dX4_order_31 : decode cX4_order 31 = .ok (.getfield 21, 3) := by decide +kernel
theorem dX4_order_34 : decode cX4_order 34 = .ok (.iload_n 1, 1) := by decide +kernel
theorem dX4_order_35 : decode cX4_order 35 = .ok (.iaload, 1) := by decide +kernel
theorem dX4_order_36 : decode cX4_order 36 = .ok (.imul, 1) := by decide +kernel
theorem dX4_order_37 : decode cX4_order 37 = .ok (.isub, 1) := by decide +kernel
theorem dX4_order_38 : decode cX4_order 38 = .ok (.istore 7, 2) := by decide +kernel
theorem dX4_order_40 : decode cX4_order 40 = .ok (.aload_n 0, 1) := by decide +kernel
theorem dX4_order_41 : decode cX4_order 41 = .ok (.getfield 18, 3) := by decide +kernel
theorem dX4_order_44 : decode cX4_order 44 = .ok (.iload_n 1, 1) := by decide +kernel
theorem dX4_order_45 : decode cX4_order 45 = .ok (.iaload, 1) := by decide +kernel
theorem dX4_order_46 : decode cX4_order 46 = .ok (.iload 5, 2) := by decide +kernel
theorem dX4_order_48 : decode cX4_order 48 = .ok (.imul, 1) := by decide +kernel
theorem dX4_order_49 : decode cX4_order 49 = .ok (.iload 4, 2) := by decide +kernel
theorem dX4_order_51 : decode cX4_order 51 = .ok (.aload_n 0, 1) := by decide +kernel
theorem dX4_order_52 : decode cX4_order 52 = .ok (.getfield 21, 3) := by decide +kernel
theorem dX4_order_55 : decode cX4_order 55 = .ok (.iload_n 1, 1) := by decide +kernel
theorem dX4_order_56 : decode cX4_order 56 = .ok (.iaload, 1) := by decide +kernel
theorem dX4_order_57 : decode cX4_order 57 = .ok (.imul, 1) := by decide +kernel
theorem dX4_order_58 : decode cX4_order 58 = .ok (.isub, 1) := by decide +kernel
theorem dX4_order_59 : decode cX4_order 59 = .ok (.istore 8, 2) := by decide +kernel
theorem dX4_order_61 : decode cX4_order 61 = .ok (.iload 6, 2) := by decide +kernel
theorem dX4_order_63 : decode cX4_order 63 = .ok (.ifCond .eq 8, 3) := by decide +kernel
theorem dX4_order_66 : decode cX4_order 66 = .ok (.iload 6, 2) := by decide +kernel
theorem dX4_order_68 : decode cX4_order 68 = .ok (.goto 15, 3) := by decide +kernel
theorem dX4_order_71 : decode cX4_order 71 = .ok (.iload 7, 2) := by decide +kernel
theorem dX4_order_73 : decode cX4_order 73 = .ok (.ifCond .eq 8, 3) := by decide +kernel
theorem dX4_order_76 : decode cX4_order 76 = .ok (.iload 7, 2) := by decide +kernel
theorem dX4_order_78 : decode cX4_order 78 = .ok (.goto 5, 3) := by decide +kernel
theorem dX4_order_81 : decode cX4_order 81 = .ok (.iload 8, 2) := by decide +kernel
theorem dX4_order_83 : decode cX4_order 83 = .ok (.ireturn, 1) := by decide +kernel
theorem dX4_look_0 : decode cX4_look 0 = .ok (.aload_n 0, 1) := by decide +kernel
theorem dX4_look_1 : decode cX4_look 1 = .ok (.getfield 24, 3) := by decide +kernel
theorem dX4_look_4 : decode cX4_look 4 = .ok (.iconst 0, 1) := by decide +kernel
theorem dX4_look_5 : decode cX4_look 5 = .ok (.invokestatic 107, 3) := by decide +kernel
theorem dX4_look_8 : decode cX4_look 8 = .ok (.aload_n 0, 1) := by decide +kernel
theorem dX4_look_9 : decode cX4_look 9 = .ok (.iconst 0, 1) := by decide +kernel
theorem dX4_look_10 : decode cX4_look 10 = .ok (.putfield 113, 3) := by decide +kernel
theorem dX4_look_13 : decode cX4_look 13 = .ok (.iconst 0, 1) := by decide +kernel
theorem dX4_look_14 : decode cX4_look 14 = .ok (.istore_n 2, 1) := by decide +kernel
theorem dX4_look_15 : decode cX4_look 15 = .ok (.iload_n 2, 1) := by decide +kernel
theorem dX4_look_16 : decode cX4_look 16 = .ok (.aload_n 1, 1) := by decide +kernel
theorem dX4_look_17 : decode cX4_look 17 = .ok (.getfield 41, 3) := by decide +kernel
theorem dX4_look_20 : decode cX4_look 20 = .ok (.if_icmp .ge 51, 3) := by decide +kernel
theorem dX4_look_23 : decode cX4_look 23 = .ok (.aload_n 0, 1) := by decide +kernel
theorem dX4_look_24 : decode cX4_look 24 = .ok (.getfield 27, 3) := by decide +kernel
theorem dX4_look_27 : decode cX4_look 27 = .ok (.iload_n 2, 1) := by decide +kernel
theorem dX4_look_28 : decode cX4_look 28 = .ok (.aload_n 0, 1) := by decide +kernel
theorem dX4_look_29 : decode cX4_look 29 = .ok (.aload_n 1, 1) := by decide +kernel
theorem dX4_look_30 : decode cX4_look 30 = .ok (.iload_n 2, 1) := by decide +kernel
theorem dX4_look_31 : decode cX4_look 31 = .ok (.invokevirtual 116, 3) := by decide +kernel
theorem dX4_look_34 : decode cX4_look 34 = .ok (.iastore, 1) := by decide +kernel
theorem dX4_look_35 : decode cX4_look 35 = .ok (.aload_n 0, 1) := by decide +kernel
theorem dX4_look_36 : decode cX4_look 36 = .ok (.getfield 27, 3) := by decide +kernel
theorem dX4_look_39 : decode cX4_look 39 = .ok (.iload_n 2, 1) := by decide +kernel
theorem dX4_look_40 : decode cX4_look 40 = .ok (.iaload, 1) := by decide +kernel
theorem dX4_look_41 : decode cX4_look 41 = .ok (.iconst 3, 1) := by decide +kernel
theorem dX4_look_42 : decode cX4_look 42 = .ok (.if_icmp .lt 23, 3) := by decide +kernel
theorem dX4_look_45 : decode cX4_look 45 = .ok (.aload_n 1, 1) := by decide +kernel
theorem dX4_look_46 : decode cX4_look 46 = .ok (.iload_n 2, 1) := by decide +kernel
theorem dX4_look_47 : decode cX4_look 47 = .ok (.invokevirtual 120, 3) := by decide +kernel
theorem dX4_look_50 : decode cX4_look 50 = .ok (.ifCond .ne 15, 3) := by decide +kernel
theorem dX4_look_53 : decode cX4_look 53 = .ok (.aload_n 0, 1) := by decide +kernel
theorem dX4_look_54 : decode cX4_look 54 = .ok (.dup, 1) := by decide +kernel
theorem dX4_look_55 : decode cX4_look 55 = .ok (.getfield 113, 3) := by decide +kernel
theorem dX4_look_58 : decode cX4_look 58 = .ok (.iconst 1, 1) := by decide +kernel
theorem dX4_look_59 : decode cX4_look 59 = .ok (.iload_n 2, 1) := by decide +kernel
theorem dX4_look_60 : decode cX4_look 60 = .ok (.ishl, 1) := by decide +kernel
theorem dX4_look_61 : decode cX4_look 61 = .ok (.ior, 1) := by decide +kernel
theorem dX4_look_62 : decode cX4_look 62 = .ok (.putfield 113, 3) := by decide +kernel
theorem dX4_look_65 : decode cX4_look 65 = .ok (.iinc 2 1, 3) := by decide +kernel
theorem dX4_look_68 : decode cX4_look 68 = .ok (.goto (-53), 3) := by decide +kernel
theorem dX4_look_71 : decode cX4_look 71 = .ok (.return_, 1) := by decide +kernel
theorem dX4_markCornersOn_0 : decode cX4_markCornersOn 0 = .ok (.iconst 0, 1) := by decide +kernel
theorem dX4_markCornersOn_1 : decode cX4_markCornersOn 1 = .ok (.istore_n 3, 1) := by decide +kernel
theorem dX4_markCornersOn_2 : decode cX4_markCornersOn 2 = .ok (.iconst 0, 1) := by decide +kernel
theorem dX4_markCornersOn_3 : decode cX4_markCornersOn 3 = .ok (.istore 4, 2) := by decide +kernel
theorem dX4_markCornersOn_5 : decode cX4_markCornersOn 5 = .ok (.iload 4, 2) := by decide +kernel
theorem dX4_markCornersOn_7 : decode cX4_markCornersOn 7 = .ok (.aload_n 0, 1) := by decide +kernel
theorem dX4_markCornersOn_8 : decode cX4_markCornersOn 8 = .ok (.getfield 37, 3) := by decide +kernel
theorem dX4_markCornersOn_11 : decode cX4_markCornersOn 11 = .ok (.if_icmp .ge 66, 3) := by decide +kernel
theorem dX4_markCornersOn_14 : decode cX4_markCornersOn 14 = .ok (.aload_n 0, 1) := by decide +kernel
theorem dX4_markCornersOn_15 : decode cX4_markCornersOn 15 = .ok (.iload 4, 2) := by decide +kernel
theorem dX4_markCornersOn_17 : decode cX4_markCornersOn 17 = .ok (.aload_n 1, 1) := by decide +kernel
theorem dX4_markCornersOn_18 : decode cX4_markCornersOn 18 = .ok (.getfield 124, 3) := by decide +kernel
theorem dX4_markCornersOn_21 : decode cX4_markCornersOn 21 = .ok (.iload_n 2, 1) := by decide +kernel
theorem dX4_markCornersOn_22 : decode cX4_markCornersOn 22 = .ok (.iaload, 1) := by decide +kernel
theorem dX4_markCornersOn_23 : decode cX4_markCornersOn 23 = .ok (.aload_n 1, 1) := by decide +kernel
theorem dX4_markCornersOn_24 : decode cX4_markCornersOn 24 = .ok (.getfield 127, 3) := by decide +kernel
theorem dX4_markCornersOn_27 : decode cX4_markCornersOn 27 = .ok (.iload_n 2, 1) := by decide +kernel
theorem dX4_markCornersOn_28 : decode cX4_markCornersOn 28 = .ok (.iaload, 1) := by decide +kernel
theorem dX4_markCornersOn_29 : decode cX4_markCornersOn 29 = .ok (.aload_n 1, 1) := by decide +kernel
theorem dX4_markCornersOn_30 : decode cX4_markCornersOn 30 = .ok (.getfield 130, 3) := by decide +kernel
theorem dX4_markCornersOn_33 : decode cX4_markCornersOn 33 = .ok (.iload_n 2, 1) := by decide +kernel
theorem dX4_markCornersOn_34 : decode cX4_markCornersOn 34 = .ok (.iaload, 1) := by decide +kernel
theorem dX4_markCornersOn_35 : decode cX4_markCornersOn 35 = .ok (.invokevirtual 133, 3) := by decide +kernel
theorem dX4_markCornersOn_38 : decode cX4_markCornersOn 38 = .ok (.aload_n 1, 1) := by decide +kernel
theorem dX4_markCornersOn_39 : decode cX4_markCornersOn 39 = .ok (.getfield 136, 3) := by decide +kernel
theorem dX4_markCornersOn_42 : decode cX4_markCornersOn 42 = .ok (.iload_n 2, 1) := by decide +kernel
theorem dX4_markCornersOn_43 : decode cX4_markCornersOn 43 = .ok (.iaload, 1) := by decide +kernel
theorem dX4_markCornersOn_44 : decode cX4_markCornersOn 44 = .ok (.aload_n 0, 1) := by decide +kernel
theorem dX4_markCornersOn_45 : decode cX4_markCornersOn 45 = .ok (.getfield 21, 3) := by decide +kernel
theorem dX4_markCornersOn_48 : decode cX4_markCornersOn 48 = .ok (.iload 4, 2) := by decide +kernel
theorem dX4_markCornersOn_50 : decode cX4_markCornersOn 50 = .ok (.iaload, 1) := by decide +kernel
theorem dX4_markCornersOn_51 : decode cX4_markCornersOn 51 = .ok (.imul, 1) := by decide +kernel
theorem dX4_markCornersOn_52 : decode cX4_markCornersOn 52 = .ok (.if_icmp .ne 19, 3) := by decide +kernel
theorem dX4_markCornersOn_55 : decode cX4_markCornersOn 55 = .ok (.aload_n 0, 1) := by decide +kernel
theorem dX4_markCornersOn_56 : decode cX4_markCornersOn 56 = .ok (.getfield 24, 3) := by decide +kernel
theorem dX4_markCornersOn_59 : decode cX4_markCornersOn 59 = .ok (.iload 4, 2) := by decide +kernel
theorem dX4_markCornersOn_61 : decode cX4_markCornersOn 61 = .ok (.dup2, 1) := by decide +kernel
theorem dX4_markCornersOn_62 : decode cX4_markCornersOn 62 = .ok (.iaload, 1) := by decide +kernel
theorem dX4_markCornersOn_63 : decode cX4_markCornersOn 63 = .ok (.iconst 1, 1) := by decide +kernel
theorem dX4_markCornersOn_64 : decode cX4_markCornersOn 64 = .ok (.iload_n 2, 1) := by decide +kernel
theorem dX4_markCornersOn_65 : decode cX4_markCornersOn 65 = .ok (.ishl, 1) := by decide +kernel
theorem dX4_markCornersOn_66 : decode cX4_markCornersOn 66 = .ok (.ior, 1) := by decide +kernel
theorem dX4_markCornersOn_67 : decode cX4_markCornersOn 67 = .ok (.iastore, 1) := by decide +kernel
theorem dX4_markCornersOn_68 : decode cX4_markCornersOn 68 = .ok (.iinc 3 1, 3) := by decide +kernel
theorem dX4_markCornersOn_71 : decode cX4_markCornersOn 71 = .ok (.iinc 4 1, 3) := by decide +kernel
theorem dX4_markCornersOn_74 : decode cX4_markCornersOn 74 = .ok (.goto (-69), 3) := by decide +kernel
theorem dX4_markCornersOn_77 : decode cX4_markCornersOn 77 = .ok (.iload_n 3, 1) := by decide +kernel
theorem dX4_markCornersOn_78 : decode cX4_markCornersOn 78 = .ok (.ireturn, 1) := by decide +kernel
theorem dX4_along_0 : decode cX4_along 0 = .ok (.iload_n 2, 1) := by decide +kernel
theorem dX4_along_1 : decode cX4_along 1 = .ok (.aload_n 0, 1) := by decide +kernel
theorem dX4_along_2 : decode cX4_along 2 = .ok (.getfield 9, 3) := by decide +kernel
theorem dX4_along_5 : decode cX4_along 5 = .ok (.iload_n 1, 1) := by decide +kernel
theorem dX4_along_6 : decode cX4_along 6 = .ok (.iaload, 1) := by decide +kernel
theorem dX4_along_7 : decode cX4_along 7 = .ok (.imul, 1) := by decide +kernel
theorem dX4_along_8 : decode cX4_along 8 = .ok (.iload_n 3, 1) := by decide +kernel
theorem dX4_along_9 : decode cX4_along 9 = .ok (.aload_n 0, 1) := by decide +kernel
theorem dX4_along_10 : decode cX4_along 10 = .ok (.getfield 15, 3) := by decide +kernel
theorem dX4_along_13 : decode cX4_along 13 = .ok (.iload_n 1, 1) := by decide +kernel
theorem dX4_along_14 : decode cX4_along 14 = .ok (.iaload, 1) := by decide +kernel
theorem dX4_along_15 : decode cX4_along 15 = .ok (.imul, 1) := by decide +kernel
theorem dX4_along_16 : decode cX4_along 16 = .ok (.iadd, 1) := by decide +kernel
theorem dX4_along_17 : decode cX4_along 17 = .ok (.iload 4, 2) := by decide +kernel
theorem dX4_along_19 : decode cX4_along 19 = .ok (.aload_n 0, 1) := by decide +kernel
theorem dX4_along_20 : decode cX4_along 20 = .ok (.getfield 18, 3) := by decide +kernel
theorem dX4_along_23 : decode cX4_along 23 = .ok (.iload_n 1, 1) := by decide +kernel
theorem dX4_along_24 : decode cX4_along 24 = .ok (.iaload, 1) := by decide +kernel
theorem dX4_along_25 : decode cX4_along 25 = .ok (.imul, 1) := by decide +kernel
theorem dX4_along_26 : decode cX4_along 26 = .ok (.iadd, 1) := by decide +kernel
theorem dX4_along_27 : decode cX4_along 27 = .ok (.ireturn, 1) := by decide +kernel
theorem dX4_coordinate_0 : decode cX4_coordinate 0 = .ok (.iload_n 2, 1) := by decide +kernel
theorem dX4_coordinate_1 : decode cX4_coordinate 1 = .ok (.ifCond .ne 12, 3) := by decide +kernel
theorem dX4_coordinate_4 : decode cX4_coordinate 4 = .ok (.aload_n 0, 1) := by decide +kernel
theorem dX4_coordinate_5 : decode cX4_coordinate 5 = .ok (.getfield 9, 3) := by decide +kernel
theorem dX4_coordinate_8 : decode cX4_coordinate 8 = .ok (.iload_n 1, 1) := by decide +kernel
theorem dX4_coordinate_9 : decode cX4_coordinate 9 = .ok (.iaload, 1) := by decide +kernel
theorem dX4_coordinate_10 : decode cX4_coordinate 10 = .ok (.goto 23, 3) := by decide +kernel
theorem dX4_coordinate_13 : decode cX4_coordinate 13 = .ok (.iload_n 2, 1) := by decide +kernel
theorem dX4_coordinate_14 : decode cX4_coordinate 14 = .ok (.iconst 1, 1) := by decide +kernel
theorem dX4_coordinate_15 : decode cX4_coordinate 15 = .ok (.if_icmp .ne 12, 3) := by decide +kernel
theorem dX4_coordinate_18 : decode cX4_coordinate 18 = .ok (.aload_n 0, 1) := by decide +kernel
theorem dX4_coordinate_19 : decode cX4_coordinate 19 = .ok (.getfield 15, 3) := by decide +kernel
theorem dX4_coordinate_22 : decode cX4_coordinate 22 = .ok (.iload_n 1, 1) := by decide +kernel
theorem dX4_coordinate_23 : decode cX4_coordinate 23 = .ok (.iaload, 1) := by decide +kernel
theorem dX4_coordinate_24 : decode cX4_coordinate 24 = .ok (.goto 9, 3) := by decide +kernel
theorem dX4_coordinate_27 : decode cX4_coordinate 27 = .ok (.aload_n 0, 1) := by decide +kernel
theorem dX4_coordinate_28 : decode cX4_coordinate 28 = .ok (.getfield 18, 3) := by decide +kernel
theorem dX4_coordinate_31 : decode cX4_coordinate 31 = .ok (.iload_n 1, 1) := by decide +kernel
theorem dX4_coordinate_32 : decode cX4_coordinate 32 = .ok (.iaload, 1) := by decide +kernel
theorem dX4_coordinate_33 : decode cX4_coordinate 33 = .ok (.ireturn, 1) := by decide +kernel
theorem dX4_isShown_0 : decode cX4_isShown 0 = .ok (.aload_n 0, 1) := by decide +kernel
theorem dX4_isShown_1 : decode cX4_isShown 1 = .ok (.getfield 113, 3) := by decide +kernel
theorem dX4_isShown_4 : decode cX4_isShown 4 = .ok (.iload_n 1, 1) := by decide +kernel
theorem dX4_isShown_5 : decode cX4_isShown 5 = .ok (.iushr, 1) := by decide +kernel
theorem dX4_isShown_6 : decode cX4_isShown 6 = .ok (.iconst 1, 1) := by decide +kernel
theorem dX4_isShown_7 : decode cX4_isShown 7 = .ok (.iand, 1) := by decide +kernel
theorem dX4_isShown_8 : decode cX4_isShown 8 = .ok (.iconst 1, 1) := by decide +kernel
theorem dX4_isShown_9 : decode cX4_isShown 9 = .ok (.if_icmp .ne 7, 3) := by decide +kernel
theorem dX4_isShown_12 : decode cX4_isShown 12 = .ok (.iconst 1, 1) := by decide +kernel
theorem dX4_isShown_13 : decode cX4_isShown 13 = .ok (.goto 4, 3) := by decide +kernel
theorem dX4_isShown_16 : decode cX4_isShown 16 = .ok (.iconst 0, 1) := by decide +kernel
theorem dX4_isShown_17 : decode cX4_isShown 17 = .ok (.ireturn, 1) := by decide +kernel
theorem dX4_showing_0 : decode cX4_showing 0 = .ok (.aload_n 0, 1) := by decide +kernel
theorem dX4_showing_1 : decode cX4_showing 1 = .ok (.getfield 113, 3) := by decide +kernel
theorem dX4_showing_4 : decode cX4_showing 4 = .ok (.invokestatic 139, 3) := by decide +kernel
theorem dX4_showing_7 : decode cX4_showing 7 = .ok (.ireturn, 1) := by decide +kernel
theorem dX4_edges_0 : decode cX4_edges 0 = .ok (.aload_n 0, 1) := by decide +kernel
theorem dX4_edges_1 : decode cX4_edges 1 = .ok (.getfield 37, 3) := by decide +kernel
theorem dX4_edges_4 : decode cX4_edges 4 = .ok (.aload_n 0, 1) := by decide +kernel
theorem dX4_edges_5 : decode cX4_edges 5 = .ok (.invokevirtual 145, 3) := by decide +kernel
theorem dX4_edges_8 : decode cX4_edges 8 = .ok (.iadd, 1) := by decide +kernel
theorem dX4_edges_9 : decode cX4_edges 9 = .ok (.iconst 2, 1) := by decide +kernel
theorem dX4_edges_10 : decode cX4_edges 10 = .ok (.isub, 1) := by decide +kernel
theorem dX4_edges_11 : decode cX4_edges 11 = .ok (.ireturn, 1) := by decide +kernel
theorem dX4_edgesOn_0 : decode cX4_edgesOn 0 = .ok (.aload_n 0, 1) := by decide +kernel
theorem dX4_edgesOn_1 : decode cX4_edgesOn 1 = .ok (.iload_n 1, 1) := by decide +kernel
theorem dX4_edgesOn_2 : decode cX4_edgesOn 2 = .ok (.invokevirtual 149, 3) := by decide +kernel
theorem dX4_edgesOn_5 : decode cX4_edgesOn 5 = .ok (.ifCond .eq 12, 3) := by decide +kernel
theorem dX4_edgesOn_8 : decode cX4_edgesOn 8 = .ok (.aload_n 0, 1) := by decide +kernel
theorem dX4_edgesOn_9 : decode cX4_edgesOn 9 = .ok (.getfield 27, 3) := by decide +kernel
theorem dX4_edgesOn_12 : decode cX4_edgesOn 12 = .ok (.iload_n 1, 1) := by decide +kernel
theorem dX4_edgesOn_13 : decode cX4_edgesOn 13 = .ok (.iaload, 1) := by decide +kernel
theorem dX4_edgesOn_14 : decode cX4_edgesOn 14 = .ok (.goto 4, 3) := by decide +kernel
theorem dX4_edgesOn_17 : decode cX4_edgesOn 17 = .ok (.iconst 0, 1) := by decide +kernel
theorem dX4_edgesOn_18 : decode cX4_edgesOn 18 = .ok (.ireturn, 1) := by decide +kernel
theorem dX4_mostCornersOnPlane_0 : decode cX4_mostCornersOnPlane 0 = .ok (.iconst 0, 1) := by decide +kernel
theorem dX4_mostCornersOnPlane_1 : decode cX4_mostCornersOnPlane 1 = .ok (.istore_n 2, 1) := by decide +kernel
theorem dX4_mostCornersOnPlane_2 : decode cX4_mostCornersOnPlane 2 = .ok (.iconst 0, 1) := by decide +kernel
theorem dX4_mostCornersOnPlane_3 : decode cX4_mostCornersOnPlane 3 = .ok (.istore_n 3, 1) := by decide +kernel
theorem dX4_mostCornersOnPlane_4 : decode cX4_mostCornersOnPlane 4 = .ok (.iload_n 3, 1) := by decide +kernel
theorem dX4_mostCornersOnPlane_5 : decode cX4_mostCornersOnPlane 5 = .ok (.iload_n 1, 1) := by decide +kernel
theorem dX4_mostCornersOnPlane_6 : decode cX4_mostCornersOnPlane 6 = .ok (.if_icmp .ge 28, 3) := by decide +kernel
end
section
theorem dX4_mostCornersOnPlane_9 : decode cX4_mostCornersOnPlane 9 = .ok (.aload_n 0, 1) := by decide +kernel
theorem dX4_mostCornersOnPlane_10 : decode cX4_mostCornersOnPlane 10 = .ok (.iload_n 3, 1) := by decide +kernel
theorem dX4_mostCornersOnPlane_11 : decode cX4_mostCornersOnPlane 11 = .ok (.invokevirtual 149, 3) := by decide +kernel
theorem dX4_mostCornersOnPlane_14 : decode cX4_mostCornersOnPlane 14 = .ok (.ifCond .eq 14, 3) := by decide +kernel
theorem dX4_mostCornersOnPlane_17 : decode cX4_mostCornersOnPlane 17 = .ok (.iload_n 2, 1) := by decide +kernel
theorem dX4_mostCornersOnPlane_18 : decode cX4_mostCornersOnPlane 18 = .ok (.aload_n 0, 1) := by decide +kernel
theorem dX4_mostCornersOnPlane_19 : decode cX4_mostCornersOnPlane 19 = .ok (.getfield 27, 3) := by decide +kernel
theorem dX4_mostCornersOnPlane_22 : decode cX4_mostCornersOnPlane 22 = .ok (.iload_n 3, 1) := by decide +kernel
theorem dX4_mostCornersOnPlane_23 : decode cX4_mostCornersOnPlane 23 = .ok (.iaload, 1) := by decide +kernel
theorem dX4_mostCornersOnPlane_24 : decode cX4_mostCornersOnPlane 24 = .ok (.invokestatic 152, 3) := by decide +kernel
theorem dX4_mostCornersOnPlane_27 : decode cX4_mostCornersOnPlane 27 = .ok (.istore_n 2, 1) := by decide +kernel
theorem dX4_mostCornersOnPlane_28 : decode cX4_mostCornersOnPlane 28 = .ok (.iinc 3 1, 3) := by decide +kernel
theorem dX4_mostCornersOnPlane_31 : decode cX4_mostCornersOnPlane 31 = .ok (.goto (-27), 3) := by decide +kernel
theorem dX4_mostCornersOnPlane_34 : decode cX4_mostCornersOnPlane 34 = .ok (.iload_n 2, 1) := by decide +kernel
theorem dX4_mostCornersOnPlane_35 : decode cX4_mostCornersOnPlane 35 = .ok (.ireturn, 1) := by decide +kernel
theorem dX4_mostPlanesOnCorner_0 : decode cX4_mostPlanesOnCorner 0 = .ok (.iconst 0, 1) := by decide +kernel
theorem dX4_mostPlanesOnCorner_1 : decode cX4_mostPlanesOnCorner 1 = .ok (.istore_n 1, 1) := by decide +kernel
theorem dX4_mostPlanesOnCorner_2 : decode cX4_mostPlanesOnCorner 2 = .ok (.iconst 0, 1) := by decide +kernel
theorem dX4_mostPlanesOnCorner_3 : decode cX4_mostPlanesOnCorner 3 = .ok (.istore_n 2, 1) := by decide +kernel
theorem dX4_mostPlanesOnCorner_4 : decode cX4_mostPlanesOnCorner 4 = .ok (.iload_n 2, 1) := by decide +kernel
theorem dX4_mostPlanesOnCorner_5 : decode cX4_mostPlanesOnCorner 5 = .ok (.aload_n 0, 1) := by decide +kernel
theorem dX4_mostPlanesOnCorner_6 : decode cX4_mostPlanesOnCorner 6 = .ok (.getfield 37, 3) := by decide +kernel
theorem dX4_mostPlanesOnCorner_9 : decode cX4_mostPlanesOnCorner 9 = .ok (.if_icmp .ge 28, 3) := by decide +kernel
theorem dX4_mostPlanesOnCorner_12 : decode cX4_mostPlanesOnCorner 12 = .ok (.iload_n 1, 1) := by decide +kernel
theorem dX4_mostPlanesOnCorner_13 : decode cX4_mostPlanesOnCorner 13 = .ok (.aload_n 0, 1) := by decide +kernel
theorem dX4_mostPlanesOnCorner_14 : decode cX4_mostPlanesOnCorner 14 = .ok (.getfield 24, 3) := by decide +kernel
theorem dX4_mostPlanesOnCorner_17 : decode cX4_mostPlanesOnCorner 17 = .ok (.iload_n 2, 1) := by decide +kernel
theorem dX4_mostPlanesOnCorner_18 : decode cX4_mostPlanesOnCorner 18 = .ok (.iaload, 1) := by decide +kernel
theorem dX4_mostPlanesOnCorner_19 : decode cX4_mostPlanesOnCorner 19 = .ok (.aload_n 0, 1) := by decide +kernel
theorem dX4_mostPlanesOnCorner_20 : decode cX4_mostPlanesOnCorner 20 = .ok (.getfield 113, 3) := by decide +kernel
theorem dX4_mostPlanesOnCorner_23 : decode cX4_mostPlanesOnCorner 23 = .ok (.iand, 1) := by decide +kernel
theorem dX4_mostPlanesOnCorner_24 : decode cX4_mostPlanesOnCorner 24 = .ok (.invokestatic 139, 3) := by decide +kernel
theorem dX4_mostPlanesOnCorner_27 : decode cX4_mostPlanesOnCorner 27 = .ok (.invokestatic 152, 3) := by decide +kernel
theorem dX4_mostPlanesOnCorner_30 : decode cX4_mostPlanesOnCorner 30 = .ok (.istore_n 1, 1) := by decide +kernel
theorem dX4_mostPlanesOnCorner_31 : decode cX4_mostPlanesOnCorner 31 = .ok (.iinc 2 1, 3) := by decide +kernel
theorem dX4_mostPlanesOnCorner_34 : decode cX4_mostPlanesOnCorner 34 = .ok (.goto (-30), 3) := by decide +kernel
theorem dX4_mostPlanesOnCorner_37 : decode cX4_mostPlanesOnCorner 37 = .ok (.iload_n 1, 1) := by decide +kernel
theorem dX4_mostPlanesOnCorner_38 : decode cX4_mostPlanesOnCorner 38 = .ok (.ireturn, 1) := by decide +kernel
theorem dX4_cornersOnBoth_0 : decode cX4_cornersOnBoth 0 = .ok (.iconst 1, 1) := by decide +kernel
theorem dX4_cornersOnBoth_1 : decode cX4_cornersOnBoth 1 = .ok (.iload_n 1, 1) := by decide +kernel
theorem dX4_cornersOnBoth_2 : decode cX4_cornersOnBoth 2 = .ok (.ishl, 1) := by decide +kernel
theorem dX4_cornersOnBoth_3 : decode cX4_cornersOnBoth 3 = .ok (.iconst 1, 1) := by decide +kernel
theorem dX4_cornersOnBoth_4 : decode cX4_cornersOnBoth 4 = .ok (.iload_n 2, 1) := by decide +kernel
theorem dX4_cornersOnBoth_5 : decode cX4_cornersOnBoth 5 = .ok (.ishl, 1) := by decide +kernel
theorem dX4_cornersOnBoth_6 : decode cX4_cornersOnBoth 6 = .ok (.ior, 1) := by decide +kernel
theorem dX4_cornersOnBoth_7 : decode cX4_cornersOnBoth 7 = .ok (.istore_n 3, 1) := by decide +kernel
theorem dX4_cornersOnBoth_8 : decode cX4_cornersOnBoth 8 = .ok (.iconst 0, 1) := by decide +kernel
theorem dX4_cornersOnBoth_9 : decode cX4_cornersOnBoth 9 = .ok (.istore 4, 2) := by decide +kernel
theorem dX4_cornersOnBoth_11 : decode cX4_cornersOnBoth 11 = .ok (.iconst 0, 1) := by decide +kernel
theorem dX4_cornersOnBoth_12 : decode cX4_cornersOnBoth 12 = .ok (.istore 5, 2) := by decide +kernel
theorem dX4_cornersOnBoth_14 : decode cX4_cornersOnBoth 14 = .ok (.iload 5, 2) := by decide +kernel
theorem dX4_cornersOnBoth_16 : decode cX4_cornersOnBoth 16 = .ok (.aload_n 0, 1) := by decide +kernel
theorem dX4_cornersOnBoth_17 : decode cX4_cornersOnBoth 17 = .ok (.getfield 37, 3) := by decide +kernel
theorem dX4_cornersOnBoth_20 : decode cX4_cornersOnBoth 20 = .ok (.if_icmp .ge 25, 3) := by decide +kernel
theorem dX4_cornersOnBoth_23 : decode cX4_cornersOnBoth 23 = .ok (.aload_n 0, 1) := by decide +kernel
theorem dX4_cornersOnBoth_24 : decode cX4_cornersOnBoth 24 = .ok (.getfield 24, 3) := by decide +kernel
theorem dX4_cornersOnBoth_27 : decode cX4_cornersOnBoth 27 = .ok (.iload 5, 2) := by decide +kernel
theorem dX4_cornersOnBoth_29 : decode cX4_cornersOnBoth 29 = .ok (.iaload, 1) := by decide +kernel
theorem dX4_cornersOnBoth_30 : decode cX4_cornersOnBoth 30 = .ok (.iload_n 3, 1) := by decide +kernel
theorem dX4_cornersOnBoth_31 : decode cX4_cornersOnBoth 31 = .ok (.iand, 1) := by decide +kernel
theorem dX4_cornersOnBoth_32 : decode cX4_cornersOnBoth 32 = .ok (.iload_n 3, 1) := by decide +kernel
theorem dX4_cornersOnBoth_33 : decode cX4_cornersOnBoth 33 = .ok (.if_icmp .ne 6, 3) := by decide +kernel
theorem dX4_cornersOnBoth_36 : decode cX4_cornersOnBoth 36 = .ok (.iinc 4 1, 3) := by decide +kernel
theorem dX4_cornersOnBoth_39 : decode cX4_cornersOnBoth 39 = .ok (.iinc 5 1, 3) := by decide +kernel
theorem dX4_cornersOnBoth_42 : decode cX4_cornersOnBoth 42 = .ok (.goto (-28), 3) := by decide +kernel
theorem dX4_cornersOnBoth_45 : decode cX4_cornersOnBoth 45 = .ok (.iload 4, 2) := by decide +kernel
theorem dX4_cornersOnBoth_47 : decode cX4_cornersOnBoth 47 = .ok (.ireturn, 1) := by decide +kernel
theorem dX4_farthest_0 : decode cX4_farthest 0 = .ok (.iconst 0, 1) := by decide +kernel
theorem dX4_farthest_1 : decode cX4_farthest 1 = .ok (.istore 4, 2) := by decide +kernel
theorem dX4_farthest_3 : decode cX4_farthest 3 = .ok (.iconst 1, 1) := by decide +kernel
theorem dX4_farthest_4 : decode cX4_farthest 4 = .ok (.istore 5, 2) := by decide +kernel
theorem dX4_farthest_6 : decode cX4_farthest 6 = .ok (.iload 5, 2) := by decide +kernel
theorem dX4_farthest_8 : decode cX4_farthest 8 = .ok (.aload_n 0, 1) := by decide +kernel
theorem dX4_farthest_9 : decode cX4_farthest 9 = .ok (.getfield 37, 3) := by decide +kernel
theorem dX4_farthest_12 : decode cX4_farthest 12 = .ok (.if_icmp .ge 50, 3) := by decide +kernel
theorem dX4_farthest_15 : decode cX4_farthest 15 = .ok (.aload_n 0, 1) := by decide +kernel
theorem dX4_farthest_16 : decode cX4_farthest 16 = .ok (.iload 5, 2) := by decide +kernel
theorem dX4_farthest_18 : decode cX4_farthest 18 = .ok (.iload_n 1, 1) := by decide +kernel
theorem dX4_farthest_19 : decode cX4_farthest 19 = .ok (.iload_n 2, 1) := by decide +kernel
theorem dX4_farthest_20 : decode cX4_farthest 20 = .ok (.iload_n 3, 1) := by decide +kernel
theorem dX4_farthest_21 : decode cX4_farthest 21 = .ok (.invokevirtual 133, 3) := by decide +kernel
theorem dX4_farthest_24 : decode cX4_farthest 24 = .ok (.aload_n 0, 1) := by decide +kernel
theorem dX4_farthest_25 : decode cX4_farthest 25 = .ok (.getfield 21, 3) := by decide +kernel
theorem dX4_farthest_28 : decode cX4_farthest 28 = .ok (.iload 4, 2) := by decide +kernel
theorem dX4_farthest_30 : decode cX4_farthest 30 = .ok (.iaload, 1) := by decide +kernel
theorem dX4_farthest_31 : decode cX4_farthest 31 = .ok (.imul, 1) := by decide +kernel
theorem dX4_farthest_32 : decode cX4_farthest 32 = .ok (.aload_n 0, 1) := by decide +kernel
theorem dX4_farthest_33 : decode cX4_farthest 33 = .ok (.iload 4, 2) := by decide +kernel
theorem dX4_farthest_35 : decode cX4_farthest 35 = .ok (.iload_n 1, 1) := by decide +kernel
theorem dX4_farthest_36 : decode cX4_farthest 36 = .ok (.iload_n 2, 1) := by decide +kernel
theorem dX4_farthest_37 : decode cX4_farthest 37 = .ok (.iload_n 3, 1) := by decide +kernel
theorem dX4_farthest_38 : decode cX4_farthest 38 = .ok (.invokevirtual 133, 3) := by decide +kernel
theorem dX4_farthest_41 : decode cX4_farthest 41 = .ok (.aload_n 0, 1) := by decide +kernel
theorem dX4_farthest_42 : decode cX4_farthest 42 = .ok (.getfield 21, 3) := by decide +kernel
theorem dX4_farthest_45 : decode cX4_farthest 45 = .ok (.iload 5, 2) := by decide +kernel
theorem dX4_farthest_47 : decode cX4_farthest 47 = .ok (.iaload, 1) := by decide +kernel
theorem dX4_farthest_48 : decode cX4_farthest 48 = .ok (.imul, 1) := by decide +kernel
theorem dX4_farthest_49 : decode cX4_farthest 49 = .ok (.if_icmp .le 7, 3) := by decide +kernel
theorem dX4_farthest_52 : decode cX4_farthest 52 = .ok (.iload 5, 2) := by decide +kernel
theorem dX4_farthest_54 : decode cX4_farthest 54 = .ok (.istore 4, 2) := by decide +kernel
theorem dX4_farthest_56 : decode cX4_farthest 56 = .ok (.iinc 5 1, 3) := by decide +kernel
theorem dX4_farthest_59 : decode cX4_farthest 59 = .ok (.goto (-53), 3) := by decide +kernel
theorem dX4_farthest_62 : decode cX4_farthest 62 = .ok (.iload 4, 2) := by decide +kernel
theorem dX4_farthest_64 : decode cX4_farthest 64 = .ok (.ireturn, 1) := by decide +kernel
theorem dX4_cornersAt_0 : decode cX4_cornersAt 0 = .ok (.aload_n 0, 1) := by decide +kernel
theorem dX4_cornersAt_1 : decode cX4_cornersAt 1 = .ok (.iload 4, 2) := by decide +kernel
theorem dX4_cornersAt_3 : decode cX4_cornersAt 3 = .ok (.iload_n 1, 1) := by decide +kernel
theorem dX4_cornersAt_4 : decode cX4_cornersAt 4 = .ok (.iload_n 2, 1) := by decide +kernel
theorem dX4_cornersAt_5 : decode cX4_cornersAt 5 = .ok (.iload_n 3, 1) := by decide +kernel
theorem dX4_cornersAt_6 : decode cX4_cornersAt 6 = .ok (.invokevirtual 133, 3) := by decide +kernel
theorem dX4_cornersAt_9 : decode cX4_cornersAt 9 = .ok (.istore 5, 2) := by decide +kernel
theorem dX4_cornersAt_11 : decode cX4_cornersAt 11 = .ok (.iconst 0, 1) := by decide +kernel
theorem dX4_cornersAt_12 : decode cX4_cornersAt 12 = .ok (.istore 6, 2) := by decide +kernel
theorem dX4_cornersAt_14 : decode cX4_cornersAt 14 = .ok (.iconst 0, 1) := by decide +kernel
theorem dX4_cornersAt_15 : decode cX4_cornersAt 15 = .ok (.istore 7, 2) := by decide +kernel
theorem dX4_cornersAt_17 : decode cX4_cornersAt 17 = .ok (.iload 7, 2) := by decide +kernel
theorem dX4_cornersAt_19 : decode cX4_cornersAt 19 = .ok (.aload_n 0, 1) := by decide +kernel
theorem dX4_cornersAt_20 : decode cX4_cornersAt 20 = .ok (.getfield 37, 3) := by decide +kernel
theorem dX4_cornersAt_23 : decode cX4_cornersAt 23 = .ok (.if_icmp .ge 42, 3) := by decide +kernel
theorem dX4_cornersAt_26 : decode cX4_cornersAt 26 = .ok (.aload_n 0, 1) := by decide +kernel
theorem dX4_cornersAt_27 : decode cX4_cornersAt 27 = .ok (.iload 7, 2) := by decide +kernel
theorem dX4_cornersAt_29 : decode cX4_cornersAt 29 = .ok (.iload_n 1, 1) := by decide +kernel
theorem dX4_cornersAt_30 : decode cX4_cornersAt 30 = .ok (.iload_n 2, 1) := by decide +kernel
theorem dX4_cornersAt_31 : decode cX4_cornersAt 31 = .ok (.iload_n 3, 1) := by decide +kernel
theorem dX4_cornersAt_32 : decode cX4_cornersAt 32 = .ok (.invokevirtual 133, 3) := by decide +kernel
theorem dX4_cornersAt_35 : decode cX4_cornersAt 35 = .ok (.aload_n 0, 1) := by decide +kernel
theorem dX4_cornersAt_36 : decode cX4_cornersAt 36 = .ok (.getfield 21, 3) := by decide +kernel
theorem dX4_cornersAt_39 : decode cX4_cornersAt 39 = .ok (.iload 4, 2) := by decide +kernel
theorem dX4_cornersAt_41 : decode cX4_cornersAt 41 = .ok (.iaload, 1) := by decide +kernel
theorem dX4_cornersAt_42 : decode cX4_cornersAt 42 = .ok (.imul, 1) := by decide +kernel
theorem dX4_cornersAt_43 : decode cX4_cornersAt 43 = .ok (.iload 5, 2) := by decide +kernel
theorem dX4_cornersAt_45 : decode cX4_cornersAt 45 = .ok (.aload_n 0, 1) := by decide +kernel
theorem dX4_cornersAt_46 : decode cX4_cornersAt 46 = .ok (.getfield 21, 3) := by decide +kernel
theorem dX4_cornersAt_49 : decode cX4_cornersAt 49 = .ok (.iload 7, 2) := by decide +kernel
theorem dX4_cornersAt_51 : decode cX4_cornersAt 51 = .ok (.iaload, 1) := by decide +kernel
theorem dX4_cornersAt_52 : decode cX4_cornersAt 52 = .ok (.imul, 1) := by decide +kernel
theorem dX4_cornersAt_53 : decode cX4_cornersAt 53 = .ok (.if_icmp .ne 6, 3) := by decide +kernel
theorem dX4_cornersAt_56 : decode cX4_cornersAt 56 = .ok (.iinc 6 1, 3) := by decide +kernel
theorem dX4_cornersAt_59 : decode cX4_cornersAt 59 = .ok (.iinc 7 1, 3) := by decide +kernel
theorem dX4_cornersAt_62 : decode cX4_cornersAt 62 = .ok (.goto (-45), 3) := by decide +kernel
theorem dX4_cornersAt_65 : decode cX4_cornersAt 65 = .ok (.iload 6, 2) := by decide +kernel
theorem dX4_cornersAt_67 : decode cX4_cornersAt 67 = .ok (.ireturn, 1) := by decide +kernel
theorem dX4_isKeptBy_0 : decode cX4_isKeptBy 0 = .ok (.iconst 0, 1) := by decide +kernel
theorem dX4_isKeptBy_1 : decode cX4_isKeptBy 1 = .ok (.istore_n 2, 1) := by decide +kernel
theorem dX4_isKeptBy_2 : decode cX4_isKeptBy 2 = .ok (.iload_n 2, 1) := by decide +kernel
theorem dX4_isKeptBy_3 : decode cX4_isKeptBy 3 = .ok (.aload_n 0, 1) := by decide +kernel
theorem dX4_isKeptBy_4 : decode cX4_isKeptBy 4 = .ok (.getfield 37, 3) := by decide +kernel
theorem dX4_isKeptBy_7 : decode cX4_isKeptBy 7 = .ok (.if_icmp .ge 131, 3) := by decide +kernel
theorem dX4_isKeptBy_10 : decode cX4_isKeptBy 10 = .ok (.iload_n 1, 1) := by decide +kernel
theorem dX4_isKeptBy_11 : decode cX4_isKeptBy 11 = .ok (.iconst 0, 1) := by decide +kernel
theorem dX4_isKeptBy_12 : decode cX4_isKeptBy 12 = .ok (.aload_n 0, 1) := by decide +kernel
theorem dX4_isKeptBy_13 : decode cX4_isKeptBy 13 = .ok (.getfield 9, 3) := by decide +kernel
theorem dX4_isKeptBy_16 : decode cX4_isKeptBy 16 = .ok (.iload_n 2, 1) := by decide +kernel
theorem dX4_isKeptBy_17 : decode cX4_isKeptBy 17 = .ok (.iaload, 1) := by decide +kernel
theorem dX4_isKeptBy_18 : decode cX4_isKeptBy 18 = .ok (.aload_n 0, 1) := by decide +kernel
theorem dX4_isKeptBy_19 : decode cX4_isKeptBy 19 = .ok (.getfield 15, 3) := by decide +kernel
theorem dX4_isKeptBy_22 : decode cX4_isKeptBy 22 = .ok (.iload_n 2, 1) := by decide +kernel
theorem dX4_isKeptBy_23 : decode cX4_isKeptBy 23 = .ok (.iaload, 1) := by decide +kernel
theorem dX4_isKeptBy_24 : decode cX4_isKeptBy 24 = .ok (.aload_n 0, 1) := by decide +kernel
theorem dX4_isKeptBy_25 : decode cX4_isKeptBy 25 = .ok (.getfield 18, 3) := by decide +kernel
theorem dX4_isKeptBy_28 : decode cX4_isKeptBy 28 = .ok (.iload_n 2, 1) := by decide +kernel
theorem dX4_isKeptBy_29 : decode cX4_isKeptBy 29 = .ok (.iaload, 1) := by decide +kernel
theorem dX4_isKeptBy_30 : decode cX4_isKeptBy 30 = .ok (.invokestatic 157, 3) := by decide +kernel
theorem dX4_isKeptBy_33 : decode cX4_isKeptBy 33 = .ok (.istore_n 3, 1) := by decide +kernel
theorem dX4_isKeptBy_34 : decode cX4_isKeptBy 34 = .ok (.iload_n 1, 1) := by decide +kernel
theorem dX4_isKeptBy_35 : decode cX4_isKeptBy 35 = .ok (.iconst 1, 1) := by decide +kernel
theorem dX4_isKeptBy_36 : decode cX4_isKeptBy 36 = .ok (.aload_n 0, 1) := by decide +kernel
theorem dX4_isKeptBy_37 : decode cX4_isKeptBy 37 = .ok (.getfield 9, 3) := by decide +kernel
theorem dX4_isKeptBy_40 : decode cX4_isKeptBy 40 = .ok (.iload_n 2, 1) := by decide +kernel
theorem dX4_isKeptBy_41 : decode cX4_isKeptBy 41 = .ok (.iaload, 1) := by decide +kernel
theorem dX4_isKeptBy_42 : decode cX4_isKeptBy 42 = .ok (.aload_n 0, 1) := by decide +kernel
theorem dX4_isKeptBy_43 : decode cX4_isKeptBy 43 = .ok (.getfield 15, 3) := by decide +kernel
theorem dX4_isKeptBy_46 : decode cX4_isKeptBy 46 = .ok (.iload_n 2, 1) := by decide +kernel
theorem dX4_isKeptBy_47 : decode cX4_isKeptBy 47 = .ok (.iaload, 1) := by decide +kernel
theorem dX4_isKeptBy_48 : decode cX4_isKeptBy 48 = .ok (.aload_n 0, 1) := by decide +kernel
theorem dX4_isKeptBy_49 : decode cX4_isKeptBy 49 = .ok (.getfield 18, 3) := by decide +kernel
theorem dX4_isKeptBy_52 : decode cX4_isKeptBy 52 = .ok (.iload_n 2, 1) := by decide +kernel
theorem dX4_isKeptBy_53 : decode cX4_isKeptBy 53 = .ok (.iaload, 1) := by decide +kernel
theorem dX4_isKeptBy_54 : decode cX4_isKeptBy 54 = .ok (.invokestatic 157, 3) := by decide +kernel
theorem dX4_isKeptBy_57 : decode cX4_isKeptBy 57 = .ok (.istore 4, 2) := by decide +kernel
theorem dX4_isKeptBy_59 : decode cX4_isKeptBy 59 = .ok (.iload_n 1, 1) := by decide +kernel
theorem dX4_isKeptBy_60 : decode cX4_isKeptBy 60 = .ok (.iconst 2, 1) := by decide +kernel
theorem dX4_isKeptBy_61 : decode cX4_isKeptBy 61 = .ok (.aload_n 0, 1) := by decide +kernel
theorem dX4_isKeptBy_62 : decode cX4_isKeptBy 62 = .ok (.getfield 9, 3) := by decide +kernel
theorem dX4_isKeptBy_65 : decode cX4_isKeptBy 65 = .ok (.iload_n 2, 1) := by decide +kernel
theorem dX4_isKeptBy_66 : decode cX4_isKeptBy 66 = .ok (.iaload, 1) := by decide +kernel
theorem dX4_isKeptBy_67 : decode cX4_isKeptBy 67 = .ok (.aload_n 0, 1) := by decide +kernel
theorem dX4_isKeptBy_68 : decode cX4_isKeptBy 68 = .ok (.getfield 15, 3) := by decide +kernel
theorem dX4_isKeptBy_71 : decode cX4_isKeptBy 71 = .ok (.iload_n 2, 1) := by decide +kernel
theorem dX4_isKeptBy_72 : decode cX4_isKeptBy 72 = .ok (.iaload, 1) := by decide +kernel
theorem dX4_isKeptBy_73 : decode cX4_isKeptBy 73 = .ok (.aload_n 0, 1) := by decide +kernel
theorem dX4_isKeptBy_74 : decode cX4_isKeptBy 74 = .ok (.getfield 18, 3) := by decide +kernel
theorem dX4_isKeptBy_77 : decode cX4_isKeptBy 77 = .ok (.iload_n 2, 1) := by decide +kernel
theorem dX4_isKeptBy_78 : decode cX4_isKeptBy 78 = .ok (.iaload, 1) := by decide +kernel
theorem dX4_isKeptBy_79 : decode cX4_isKeptBy 79 = .ok (.invokestatic 157, 3) := by decide +kernel
theorem dX4_isKeptBy_82 : decode cX4_isKeptBy 82 = .ok (.istore 5, 2) := by decide +kernel
theorem dX4_isKeptBy_84 : decode cX4_isKeptBy 84 = .ok (.aload_n 0, 1) := by decide +kernel
theorem dX4_isKeptBy_85 : decode cX4_isKeptBy 85 = .ok (.iload_n 3, 1) := by decide +kernel
theorem dX4_isKeptBy_86 : decode cX4_isKeptBy 86 = .ok (.iload 4, 2) := by decide +kernel
theorem dX4_isKeptBy_88 : decode cX4_isKeptBy 88 = .ok (.iload 5, 2) := by decide +kernel
theorem dX4_isKeptBy_90 : decode cX4_isKeptBy 90 = .ok (.aload_n 0, 1) := by decide +kernel
theorem dX4_isKeptBy_91 : decode cX4_isKeptBy 91 = .ok (.getfield 21, 3) := by decide +kernel
theorem dX4_isKeptBy_94 : decode cX4_isKeptBy 94 = .ok (.iload_n 2, 1) := by decide +kernel
theorem dX4_isKeptBy_95 : decode cX4_isKeptBy 95 = .ok (.iaload, 1) := by decide +kernel
theorem dX4_isKeptBy_96 : decode cX4_isKeptBy 96 = .ok (.invokevirtual 95, 3) := by decide +kernel
theorem dX4_isKeptBy_99 : decode cX4_isKeptBy 99 = .ok (.istore 6, 2) := by decide +kernel
theorem dX4_isKeptBy_101 : decode cX4_isKeptBy 101 = .ok (.iload 6, 2) := by decide +kernel
theorem dX4_isKeptBy_103 : decode cX4_isKeptBy 103 = .ok (.aload_n 0, 1) := by decide +kernel
theorem dX4_isKeptBy_104 : decode cX4_isKeptBy 104 = .ok (.getfield 37, 3) := by decide +kernel
theorem dX4_isKeptBy_107 : decode cX4_isKeptBy 107 = .ok (.if_icmp .ge 23, 3) := by decide +kernel
theorem dX4_isKeptBy_110 : decode cX4_isKeptBy 110 = .ok (.aload_n 0, 1) := by decide +kernel
theorem dX4_isKeptBy_111 : decode cX4_isKeptBy 111 = .ok (.iload 6, 2) := by decide +kernel
theorem dX4_isKeptBy_113 : decode cX4_isKeptBy 113 = .ok (.iload_n 3, 1) := by decide +kernel
theorem dX4_isKeptBy_114 : decode cX4_isKeptBy 114 = .ok (.iload 4, 2) := by decide +kernel
theorem dX4_isKeptBy_116 : decode cX4_isKeptBy 116 = .ok (.iload 5, 2) := by decide +kernel
theorem dX4_isKeptBy_118 : decode cX4_isKeptBy 118 = .ok (.aload_n 0, 1) := by decide +kernel
theorem dX4_isKeptBy_119 : decode cX4_isKeptBy 119 = .ok (.getfield 21, 3) := by decide +kernel
theorem dX4_isKeptBy_122 : decode cX4_isKeptBy 122 = .ok (.iload_n 2, 1) := by decide +kernel
theorem dX4_isKeptBy_123 : decode cX4_isKeptBy 123 = .ok (.iaload, 1) := by decide +kernel
theorem dX4_isKeptBy_124 : decode cX4_isKeptBy 124 = .ok (.invokevirtual 99, 3) := by decide +kernel
theorem dX4_isKeptBy_127 : decode cX4_isKeptBy 127 = .ok (.ifCond .eq 5, 3) := by decide +kernel
theorem dX4_isKeptBy_130 : decode cX4_isKeptBy 130 = .ok (.iconst 0, 1) := by decide +kernel
theorem dX4_isKeptBy_131 : decode cX4_isKeptBy 131 = .ok (.ireturn, 1) := by decide +kernel
theorem dX4_isKeptBy_132 : decode cX4_isKeptBy 132 = .ok (.iinc 2 1, 3) := by decide +kernel
theorem dX4_isKeptBy_135 : decode cX4_isKeptBy 135 = .ok (.goto (-133), 3) := by decide +kernel
theorem dX4_isKeptBy_138 : decode cX4_isKeptBy 138 = .ok (.iconst 1, 1) := by decide +kernel
theorem dX4_isKeptBy_139 : decode cX4_isKeptBy 139 = .ok (.ireturn, 1) := by decide +kernel
theorem dX4_addCornersTo_0 : decode cX4_addCornersTo 0 = .ok (.lload_n 1, 1) := by decide +kernel
theorem dX4_addCornersTo_1 : decode cX4_addCornersTo 1 = .ok (.lstore_n 3, 1) := by decide +kernel
theorem dX4_addCornersTo_2 : decode cX4_addCornersTo 2 = .ok (.iconst 0, 1) := by decide +kernel
theorem dX4_addCornersTo_3 : decode cX4_addCornersTo 3 = .ok (.istore 5, 2) := by decide +kernel
theorem dX4_addCornersTo_5 : decode cX4_addCornersTo 5 = .ok (.iload 5, 2) := by decide +kernel
theorem dX4_addCornersTo_7 : decode cX4_addCornersTo 7 = .ok (.aload_n 0, 1) := by decide +kernel
theorem dX4_addCornersTo_8 : decode cX4_addCornersTo 8 = .ok (.getfield 37, 3) := by decide +kernel
theorem dX4_addCornersTo_11 : decode cX4_addCornersTo 11 = .ok (.if_icmp .ge 83, 3) := by decide +kernel
theorem dX4_addCornersTo_14 : decode cX4_addCornersTo 14 = .ok (.iconst 0, 1) := by decide +kernel
theorem dX4_addCornersTo_15 : decode cX4_addCornersTo 15 = .ok (.istore 6, 2) := by decide +kernel
theorem dX4_addCornersTo_17 : decode cX4_addCornersTo 17 = .ok (.iload 6, 2) := by decide +kernel
theorem dX4_addCornersTo_19 : decode cX4_addCornersTo 19 = .ok (.iconst 3, 1) := by decide +kernel
theorem dX4_addCornersTo_20 : decode cX4_addCornersTo 20 = .ok (.if_icmp .ge 68, 3) := by decide +kernel
theorem dX4_addCornersTo_23 : decode cX4_addCornersTo 23 = .ok (.aload_n 0, 1) := by decide +kernel
theorem dX4_addCornersTo_24 : decode cX4_addCornersTo 24 = .ok (.iload 5, 2) := by decide +kernel
theorem dX4_addCornersTo_26 : decode cX4_addCornersTo 26 = .ok (.iload 6, 2) := by decide +kernel
theorem dX4_addCornersTo_28 : decode cX4_addCornersTo 28 = .ok (.invokevirtual 160, 3) := by decide +kernel
theorem dX4_addCornersTo_31 : decode cX4_addCornersTo 31 = .ok (.istore 7, 2) := by decide +kernel
theorem dX4_addCornersTo_33 : decode cX4_addCornersTo 33 = .ok (.iconst 1, 1) := by decide +kernel
theorem dX4_addCornersTo_34 : decode cX4_addCornersTo 34 = .ok (.iload 7, 2) := by decide +kernel
theorem dX4_addCornersTo_36 : decode cX4_addCornersTo 36 = .ok (.aload_n 0, 1) := by decide +kernel
theorem dX4_addCornersTo_37 : decode cX4_addCornersTo 37 = .ok (.getfield 21, 3) := by decide +kernel
theorem dX4_addCornersTo_40 : decode cX4_addCornersTo 40 = .ok (.iload 5, 2) := by decide +kernel
theorem dX4_addCornersTo_42 : decode cX4_addCornersTo 42 = .ok (.iaload, 1) := by decide +kernel
theorem dX4_addCornersTo_43 : decode cX4_addCornersTo 43 = .ok (.invokestatic 91, 3) := by decide +kernel
theorem dX4_addCornersTo_46 : decode cX4_addCornersTo 46 = .ok (.invokestatic 152, 3) := by decide +kernel
theorem dX4_addCornersTo_49 : decode cX4_addCornersTo 49 = .ok (.istore 8, 2) := by decide +kernel
theorem dX4_addCornersTo_51 : decode cX4_addCornersTo 51 = .ok (.ldc2_w 163, 3) := by decide +kernel
theorem dX4_addCornersTo_54 : decode cX4_addCornersTo 54 = .ok (.lload_n 3, 1) := by decide +kernel
theorem dX4_addCornersTo_55 : decode cX4_addCornersTo 55 = .ok (.lmul, 1) := by decide +kernel
theorem dX4_addCornersTo_56 : decode cX4_addCornersTo 56 = .ok (.iload 7, 2) := by decide +kernel
theorem dX4_addCornersTo_58 : decode cX4_addCornersTo 58 = .ok (.iload 8, 2) := by decide +kernel
theorem dX4_addCornersTo_60 : decode cX4_addCornersTo 60 = .ok (.idiv, 1) := by decide +kernel
theorem dX4_addCornersTo_61 : decode cX4_addCornersTo 61 = .ok (.i2l, 1) := by decide +kernel
theorem dX4_addCornersTo_62 : decode cX4_addCornersTo 62 = .ok (.ladd, 1) := by decide +kernel
theorem dX4_addCornersTo_63 : decode cX4_addCornersTo 63 = .ok (.lstore_n 3, 1) := by decide +kernel
theorem dX4_addCornersTo_64 : decode cX4_addCornersTo 64 = .ok (.ldc2_w 163, 3) := by decide +kernel
theorem dX4_addCornersTo_67 : decode cX4_addCornersTo 67 = .ok (.lload_n 3, 1) := by decide +kernel
theorem dX4_addCornersTo_68 : decode cX4_addCornersTo 68 = .ok (.lmul, 1) := by decide +kernel
theorem dX4_addCornersTo_69 : decode cX4_addCornersTo 69 = .ok (.aload_n 0, 1) := by decide +kernel
theorem dX4_addCornersTo_70 : decode cX4_addCornersTo 70 = .ok (.getfield 21, 3) := by decide +kernel
theorem dX4_addCornersTo_73 : decode cX4_addCornersTo 73 = .ok (.iload 5, 2) := by decide +kernel
theorem dX4_addCornersTo_75 : decode cX4_addCornersTo 75 = .ok (.iaload, 1) := by decide +kernel
theorem dX4_addCornersTo_76 : decode cX4_addCornersTo 76 = .ok (.iload 8, 2) := by decide +kernel
theorem dX4_addCornersTo_78 : decode cX4_addCornersTo 78 = .ok (.idiv, 1) := by decide +kernel
theorem dX4_addCornersTo_79 : decode cX4_addCornersTo 79 = .ok (.i2l, 1) := by decide +kernel
theorem dX4_addCornersTo_80 : decode cX4_addCornersTo 80 = .ok (.ladd, 1) := by decide +kernel
theorem dX4_addCornersTo_81 : decode cX4_addCornersTo 81 = .ok (.lstore_n 3, 1) := by decide +kernel
theorem dX4_addCornersTo_82 : decode cX4_addCornersTo 82 = .ok (.iinc 6 1, 3) := by decide +kernel
theorem dX4_addCornersTo_85 : decode cX4_addCornersTo 85 = .ok (.goto (-68), 3) := by decide +kernel
theorem dX4_addCornersTo_88 : decode cX4_addCornersTo 88 = .ok (.iinc 5 1, 3) := by decide +kernel
theorem dX4_addCornersTo_91 : decode cX4_addCornersTo 91 = .ok (.goto (-86), 3) := by decide +kernel
theorem dX4_addCornersTo_94 : decode cX4_addCornersTo 94 = .ok (.lload_n 3, 1) := by decide +kernel
theorem dX4_addCornersTo_95 : decode cX4_addCornersTo 95 = .ok (.lreturn, 1) := by decide +kernel
theorem dX5_init_0 : decode cX5_init 0 = .ok (.aload_n 0, 1) := by decide +kernel
theorem dX5_init_1 : decode cX5_init 1 = .ok (.invokespecial 3, 3) := by decide +kernel
theorem dX5_init_4 : decode cX5_init 4 = .ok (.aload_n 0, 1) := by decide +kernel
theorem dX5_init_5 : decode cX5_init 5 = .ok (.iconst 5, 1) := by decide +kernel
theorem dX5_init_6 : decode cX5_init 6 = .ok (.anewarray 9, 3) := by decide +kernel
theorem dX5_init_9 : decode cX5_init 9 = .ok (.putfield 11, 3) := by decide +kernel
theorem dX5_init_12 : decode cX5_init 12 = .ok (.iconst 0, 1) := by decide +kernel
theorem dX5_init_13 : decode cX5_init 13 = .ok (.istore_n 1, 1) := by decide +kernel
theorem dX5_init_14 : decode cX5_init 14 = .ok (.iload_n 1, 1) := by decide +kernel
theorem dX5_init_15 : decode cX5_init 15 = .ok (.iconst 5, 1) := by decide +kernel
theorem dX5_init_16 : decode cX5_init 16 = .ok (.if_icmp .ge 22, 3) := by decide +kernel
theorem dX5_init_19 : decode cX5_init 19 = .ok (.aload_n 0, 1) := by decide +kernel
theorem dX5_init_20 : decode cX5_init 20 = .ok (.getfield 11, 3) := by decide +kernel
theorem dX5_init_23 : decode cX5_init 23 = .ok (.iload_n 1, 1) := by decide +kernel
theorem dX5_init_24 : decode cX5_init 24 = .ok (.new 9, 3) := by decide +kernel
theorem dX5_init_27 : decode cX5_init 27 = .ok (.dup, 1) := by decide +kernel
theorem dX5_init_28 : decode cX5_init 28 = .ok (.invokespecial 17, 3) := by decide +kernel
theorem dX5_init_31 : decode cX5_init 31 = .ok (.aastore, 1) := by decide +kernel
theorem dX5_init_32 : decode cX5_init 32 = .ok (.iinc 1 1, 3) := by decide +kernel
theorem dX5_init_35 : decode cX5_init 35 = .ok (.goto (-21), 3) := by decide +kernel
theorem dX5_init_38 : decode cX5_init 38 = .ok (.return_, 1) := by decide +kernel
theorem dX5_keep_0 : decode cX5_keep 0 = .ok (.aload_n 0, 1) := by decide +kernel
theorem dX5_keep_1 : decode cX5_keep 1 = .ok (.aload_n 0, 1) := by decide +kernel
theorem dX5_keep_2 : decode cX5_keep 2 = .ok (.getfield 18, 3) := by decide +kernel
theorem dX5_keep_5 : decode cX5_keep 5 = .ok (.iconst 1, 1) := by decide +kernel
theorem dX5_keep_6 : decode cX5_keep 6 = .ok (.iadd, 1) := by decide +kernel
theorem dX5_keep_7 : decode cX5_keep 7 = .ok (.iconst 5, 1) := by decide +kernel
theorem dX5_keep_8 : decode cX5_keep 8 = .ok (.irem, 1) := by decide +kernel
theorem dX5_keep_9 : decode cX5_keep 9 = .ok (.putfield 18, 3) := by decide +kernel
theorem dX5_keep_12 : decode cX5_keep 12 = .ok (.aload_n 0, 1) := by decide +kernel
theorem dX5_keep_13 : decode cX5_keep 13 = .ok (.getfield 11, 3) := by decide +kernel
theorem dX5_keep_16 : decode cX5_keep 16 = .ok (.aload_n 0, 1) := by decide +kernel
theorem dX5_keep_17 : decode cX5_keep 17 = .ok (.getfield 18, 3) := by decide +kernel
theorem dX5_keep_20 : decode cX5_keep 20 = .ok (.aaload, 1) := by decide +kernel
theorem dX5_keep_21 : decode cX5_keep 21 = .ok (.astore_n 2, 1) := by decide +kernel
theorem dX5_keep_22 : decode cX5_keep 22 = .ok (.aload_n 2, 1) := by decide +kernel
theorem dX5_keep_23 : decode cX5_keep 23 = .ok (.ifnull 8, 3) := by decide +kernel
theorem dX5_keep_26 : decode cX5_keep 26 = .ok (.aload_n 2, 1) := by decide +kernel
theorem dX5_keep_27 : decode cX5_keep 27 = .ok (.aload_n 1, 1) := by decide +kernel
theorem dX5_keep_28 : decode cX5_keep 28 = .ok (.invokevirtual 22, 3) := by decide +kernel
theorem dX5_keep_31 : decode cX5_keep 31 = .ok (.aload_n 0, 1) := by decide +kernel
theorem dX5_keep_32 : decode cX5_keep 32 = .ok (.iconst 5, 1) := by decide +kernel
theorem dX5_keep_33 : decode cX5_keep 33 = .ok (.aload_n 0, 1) := by decide +kernel
theorem dX5_keep_34 : decode cX5_keep 34 = .ok (.getfield 26, 3) := by decide +kernel
theorem dX5_keep_37 : decode cX5_keep 37 = .ok (.iconst 1, 1) := by decide +kernel
theorem dX5_keep_38 : decode cX5_keep 38 = .ok (.iadd, 1) := by decide +kernel
theorem dX5_keep_39 : decode cX5_keep 39 = .ok (.invokestatic 29, 3) := by decide +kernel
theorem dX5_keep_42 : decode cX5_keep 42 = .ok (.putfield 26, 3) := by decide +kernel
theorem dX5_keep_45 : decode cX5_keep 45 = .ok (.return_, 1) := by decide +kernel
theorem dX5_takeBack_0 : decode cX5_takeBack 0 = .ok (.aload_n 1, 1) := by decide +kernel
theorem dX5_takeBack_1 : decode cX5_takeBack 1 = .ok (.aload_n 0, 1) := by decide +kernel
theorem dX5_takeBack_2 : decode cX5_takeBack 2 = .ok (.getfield 11, 3) := by decide +kernel
theorem dX5_takeBack_5 : decode cX5_takeBack 5 = .ok (.aload_n 0, 1) := by decide +kernel
theorem dX5_takeBack_6 : decode cX5_takeBack 6 = .ok (.getfield 18, 3) := by decide +kernel
theorem dX5_takeBack_9 : decode cX5_takeBack 9 = .ok (.aaload, 1) := by decide +kernel
theorem dX5_takeBack_10 : decode cX5_takeBack 10 = .ok (.invokevirtual 22, 3) := by decide +kernel
theorem dX5_takeBack_13 : decode cX5_takeBack 13 = .ok (.aload_n 0, 1) := by decide +kernel
theorem dX5_takeBack_14 : decode cX5_takeBack 14 = .ok (.aload_n 0, 1) := by decide +kernel
theorem dX5_takeBack_15 : decode cX5_takeBack 15 = .ok (.getfield 18, 3) := by decide +kernel
theorem dX5_takeBack_18 : decode cX5_takeBack 18 = .ok (.iconst 5, 1) := by decide +kernel
theorem dX5_takeBack_19 : decode cX5_takeBack 19 = .ok (.iadd, 1) := by decide +kernel
theorem dX5_takeBack_20 : decode cX5_takeBack 20 = .ok (.iconst 1, 1) := by decide +kernel
theorem dX5_takeBack_21 : decode cX5_takeBack 21 = .ok (.isub, 1) := by decide +kernel
theorem dX5_takeBack_22 : decode cX5_takeBack 22 = .ok (.iconst 5, 1) := by decide +kernel
theorem dX5_takeBack_23 : decode cX5_takeBack 23 = .ok (.irem, 1) := by decide +kernel
theorem dX5_takeBack_24 : decode cX5_takeBack 24 = .ok (.putfield 18, 3) := by decide +kernel
theorem dX5_takeBack_27 : decode cX5_takeBack 27 = .ok (.aload_n 0, 1) := by decide +kernel
theorem dX5_takeBack_28 : decode cX5_takeBack 28 = .ok (.dup, 1) := by decide +kernel
theorem dX5_takeBack_29 : decode cX5_takeBack 29 = .ok (.getfield 26, 3) := by decide +kernel
theorem dX5_takeBack_32 : decode cX5_takeBack 32 = .ok (.iconst 1, 1) := by decide +kernel
theorem dX5_takeBack_33 : decode cX5_takeBack 33 = .ok (.isub, 1) := by decide +kernel
theorem dX5_takeBack_34 : decode cX5_takeBack 34 = .ok (.putfield 26, 3) := by decide +kernel
theorem dX5_takeBack_37 : decode cX5_takeBack 37 = .ok (.return_, 1) := by decide +kernel
theorem dX6_init_0 : decode cX6_init 0 = .ok (.aload_n 0, 1) := by decide +kernel
theorem dX6_init_1 : decode cX6_init 1 = .ok (.invokespecial 3, 3) := by decide +kernel
theorem dX6_init_4 : decode cX6_init 4 = .ok (.aload_n 0, 1) := by decide +kernel
theorem dX6_init_5 : decode cX6_init 5 = .ok (.new 9, 3) := by decide +kernel
theorem dX6_init_8 : decode cX6_init 8 = .ok (.dup, 1) := by decide +kernel
theorem dX6_init_9 : decode cX6_init 9 = .ok (.invokespecial 11, 3) := by decide +kernel
theorem dX6_init_12 : decode cX6_init 12 = .ok (.putfield 12, 3) := by decide +kernel
theorem dX6_init_15 : decode cX6_init 15 = .ok (.aload_n 0, 1) := by decide +kernel
theorem dX6_init_16 : decode cX6_init 16 = .ok (.new 9, 3) := by decide +kernel
theorem dX6_init_19 : decode cX6_init 19 = .ok (.dup, 1) := by decide +kernel
theorem dX6_init_20 : decode cX6_init 20 = .ok (.invokespecial 11, 3) := by decide +kernel
theorem dX6_init_23 : decode cX6_init 23 = .ok (.putfield 16, 3) := by decide +kernel
theorem dX6_init_26 : decode cX6_init 26 = .ok (.aload_n 0, 1) := by decide +kernel
theorem dX6_init_27 : decode cX6_init 27 = .ok (.new 19, 3) := by decide +kernel
theorem dX6_init_30 : decode cX6_init 30 = .ok (.dup, 1) := by decide +kernel
theorem dX6_init_31 : decode cX6_init 31 = .ok (.invokespecial 21, 3) := by decide +kernel
theorem dX6_init_34 : decode cX6_init 34 = .ok (.putfield 22, 3) := by decide +kernel
theorem dX6_init_37 : decode cX6_init 37 = .ok (.aload_n 0, 1) := by decide +kernel
theorem dX6_init_38 : decode cX6_init 38 = .ok (.new 26, 3) := by decide +kernel
theorem dX6_init_41 : decode cX6_init 41 = .ok (.dup, 1) := by decide +kernel
theorem dX6_init_42 : decode cX6_init 42 = .ok (.invokespecial 28, 3) := by decide +kernel
theorem dX6_init_45 : decode cX6_init 45 = .ok (.putfield 29, 3) := by decide +kernel
theorem dX6_init_48 : decode cX6_init 48 = .ok (.aload_n 0, 1) := by decide +kernel
theorem dX6_init_49 : decode cX6_init 49 = .ok (.new 26, 3) := by decide +kernel
theorem dX6_init_52 : decode cX6_init 52 = .ok (.dup, 1) := by decide +kernel
theorem dX6_init_53 : decode cX6_init 53 = .ok (.invokespecial 28, 3) := by decide +kernel
theorem dX6_init_56 : decode cX6_init 56 = .ok (.putfield 33, 3) := by decide +kernel
theorem dX6_init_59 : decode cX6_init 59 = .ok (.aload_n 0, 1) := by decide +kernel
theorem dX6_init_60 : decode cX6_init 60 = .ok (.new 36, 3) := by decide +kernel
theorem dX6_init_63 : decode cX6_init 63 = .ok (.dup, 1) := by decide +kernel
theorem dX6_init_64 : decode cX6_init 64 = .ok (.invokespecial 38, 3) := by decide +kernel
theorem dX6_init_67 : decode cX6_init 67 = .ok (.putfield 39, 3) := by decide +kernel
theorem dX6_init_70 : decode cX6_init 70 = .ok (.aload_n 0, 1) := by decide +kernel
theorem dX6_init_71 : decode cX6_init 71 = .ok (.new 43, 3) := by decide +kernel
theorem dX6_init_74 : decode cX6_init 74 = .ok (.dup, 1) := by decide +kernel
theorem dX6_init_75 : decode cX6_init 75 = .ok (.invokespecial 45, 3) := by decide +kernel
theorem dX6_init_78 : decode cX6_init 78 = .ok (.putfield 46, 3) := by decide +kernel
theorem dX6_init_81 : decode cX6_init 81 = .ok (.aload_n 0, 1) := by decide +kernel
theorem dX6_init_82 : decode cX6_init 82 = .ok (.getfield 12, 3) := by decide +kernel
theorem dX6_init_85 : decode cX6_init 85 = .ok (.invokevirtual 50, 3) := by decide +kernel
theorem dX6_init_88 : decode cX6_init 88 = .ok (.aload_n 0, 1) := by decide +kernel
theorem dX6_init_89 : decode cX6_init 89 = .ok (.iconst 1, 1) := by decide +kernel
theorem dX6_init_90 : decode cX6_init 90 = .ok (.putfield 53, 3) := by decide +kernel
theorem dX6_init_93 : decode cX6_init 93 = .ok (.return_, 1) := by decide +kernel
theorem dX6_plane_0 : decode cX6_plane 0 = .ok (.iload_n 1, 1) := by decide +kernel
theorem dX6_plane_1 : decode cX6_plane 1 = .ok (.iload_n 2, 1) := by decide +kernel
theorem dX6_plane_2 : decode cX6_plane 2 = .ok (.iload_n 3, 1) := by decide +kernel
theorem dX6_plane_3 : decode cX6_plane 3 = .ok (.invokestatic 57, 3) := by decide +kernel
theorem dX6_plane_6 : decode cX6_plane 6 = .ok (.ifCond .eq 11, 3) := by decide +kernel
theorem dX6_plane_9 : decode cX6_plane 9 = .ok (.iload 4, 2) := by decide +kernel
theorem dX6_plane_11 : decode cX6_plane 11 = .ok (.invokestatic 61, 3) := by decide +kernel
theorem dX6_plane_14 : decode cX6_plane 14 = .ok (.ifCond .ne 10, 3) := by decide +kernel
theorem dX6_plane_17 : decode cX6_plane 17 = .ok (.aload_n 0, 1) := by decide +kernel
theorem dX6_plane_18 : decode cX6_plane 18 = .ok (.bipush (-2), 2) := by decide +kernel
theorem dX6_plane_20 : decode cX6_plane 20 = .ok (.invokevirtual 65, 3) := by decide +kernel
theorem dX6_plane_23 : decode cX6_plane 23 = .ok (.ireturn, 1) := by decide +kernel
theorem dX6_plane_24 : decode cX6_plane 24 = .ok (.aload_n 0, 1) := by decide +kernel
theorem dX6_plane_25 : decode cX6_plane 25 = .ok (.getfield 12, 3) := by decide +kernel
theorem dX6_plane_28 : decode cX6_plane 28 = .ok (.getfield 69, 3) := by decide +kernel
theorem dX6_plane_31 : decode cX6_plane 31 = .ok (.bipush 32, 2) := by decide +kernel
theorem dX6_plane_33 : decode cX6_plane 33 = .ok (.if_icmp .lt 8, 3) := by decide +kernel
theorem dX6_plane_36 : decode cX6_plane 36 = .ok (.aload_n 0, 1) := by decide +kernel
theorem dX6_plane_37 : decode cX6_plane 37 = .ok (.invokevirtual 72, 3) := by decide +kernel
theorem dX6_plane_40 : decode cX6_plane 40 = .ok (.ireturn, 1) := by decide +kernel
theorem dX6_plane_41 : decode cX6_plane 41 = .ok (.aload_n 0, 1) := by decide +kernel
theorem dX6_plane_42 : decode cX6_plane 42 = .ok (.invokevirtual 76, 3) := by decide +kernel
theorem dX6_plane_45 : decode cX6_plane 45 = .ok (.aload_n 0, 1) := by decide +kernel
theorem dX6_plane_46 : decode cX6_plane 46 = .ok (.getfield 12, 3) := by decide +kernel
theorem dX6_plane_49 : decode cX6_plane 49 = .ok (.iload_n 1, 1) := by decide +kernel
theorem dX6_plane_50 : decode cX6_plane 50 = .ok (.iload_n 2, 1) := by decide +kernel
theorem dX6_plane_51 : decode cX6_plane 51 = .ok (.iload_n 3, 1) := by decide +kernel
theorem dX6_plane_52 : decode cX6_plane 52 = .ok (.iload 4, 2) := by decide +kernel
theorem dX6_plane_54 : decode cX6_plane 54 = .ok (.invokevirtual 79, 3) := by decide +kernel
theorem dX6_plane_57 : decode cX6_plane 57 = .ok (.aload_n 0, 1) := by decide +kernel
theorem dX6_plane_58 : decode cX6_plane 58 = .ok (.getfield 12, 3) := by decide +kernel
theorem dX6_plane_61 : decode cX6_plane 61 = .ok (.getfield 69, 3) := by decide +kernel
theorem dX6_plane_64 : decode cX6_plane 64 = .ok (.iconst 1, 1) := by decide +kernel
theorem dX6_plane_65 : decode cX6_plane 65 = .ok (.isub, 1) := by decide +kernel
theorem dX6_plane_66 : decode cX6_plane 66 = .ok (.ireturn, 1) := by decide +kernel
theorem dX6_family_0 : decode cX6_family 0 = .ok (.iload_n 1, 1) := by decide +kernel
theorem dX6_family_1 : decode cX6_family 1 = .ok (.invokestatic 83, 3) := by decide +kernel
theorem dX6_family_4 : decode cX6_family 4 = .ok (.ifCond .eq 21, 3) := by decide +kernel
theorem dX6_family_7 : decode cX6_family 7 = .ok (.iload_n 2, 1) := by decide +kernel
theorem dX6_family_8 : decode cX6_family 8 = .ok (.iload_n 3, 1) := by decide +kernel
theorem dX6_family_9 : decode cX6_family 9 = .ok (.iload 4, 2) := by decide +kernel
theorem dX6_family_11 : decode cX6_family 11 = .ok (.invokestatic 57, 3) := by decide +kernel
theorem dX6_family_14 : decode cX6_family 14 = .ok (.ifCond .eq 11, 3) := by decide +kernel
theorem dX6_family_17 : decode cX6_family 17 = .ok (.iload 5, 2) := by decide +kernel
theorem dX6_family_19 : decode cX6_family 19 = .ok (.invokestatic 61, 3) := by decide +kernel
theorem dX6_family_22 : decode cX6_family 22 = .ok (.ifCond .ne 10, 3) := by decide +kernel
theorem dX6_family_25 : decode cX6_family 25 = .ok (.aload_n 0, 1) := by decide +kernel
theorem dX6_family_26 : decode cX6_family 26 = .ok (.bipush (-2), 2) := by decide +kernel
theorem dX6_family_28 : decode cX6_family 28 = .ok (.invokevirtual 65, 3) := by decide +kernel
theorem dX6_family_31 : decode cX6_family 31 = .ok (.ireturn, 1) := by decide +kernel
theorem dX6_family_32 : decode cX6_family 32 = .ok (.aload_n 0, 1) := by decide +kernel
theorem dX6_family_33 : decode cX6_family 33 = .ok (.getfield 39, 3) := by decide +kernel
theorem dX6_family_36 : decode cX6_family 36 = .ok (.iload_n 1, 1) := by decide +kernel
theorem dX6_family_37 : decode cX6_family 37 = .ok (.iload_n 2, 1) := by decide +kernel
theorem dX6_family_38 : decode cX6_family 38 = .ok (.iload_n 3, 1) := by decide +kernel
theorem dX6_family_39 : decode cX6_family 39 = .ok (.iload 4, 2) := by decide +kernel
theorem dX6_family_41 : decode cX6_family 41 = .ok (.invokevirtual 86, 3) := by decide +kernel
theorem dX6_family_44 : decode cX6_family 44 = .ok (.aload_n 0, 1) := by decide +kernel
theorem dX6_family_45 : decode cX6_family 45 = .ok (.getfield 12, 3) := by decide +kernel
theorem dX6_family_48 : decode cX6_family 48 = .ok (.getfield 69, 3) := by decide +kernel
theorem dX6_family_51 : decode cX6_family 51 = .ok (.aload_n 0, 1) := by decide +kernel
theorem dX6_family_52 : decode cX6_family 52 = .ok (.getfield 39, 3) := by decide +kernel
theorem dX6_family_55 : decode cX6_family 55 = .ok (.getfield 89, 3) := by decide +kernel
theorem dX6_family_58 : decode cX6_family 58 = .ok (.iadd, 1) := by decide +kernel
theorem dX6_family_59 : decode cX6_family 59 = .ok (.bipush 32, 2) := by decide +kernel
theorem dX6_family_61 : decode cX6_family 61 = .ok (.if_icmp .le 8, 3) := by decide +kernel
theorem dX6_family_64 : decode cX6_family 64 = .ok (.aload_n 0, 1) := by decide +kernel
theorem dX6_family_65 : decode cX6_family 65 = .ok (.invokevirtual 72, 3) := by decide +kernel
theorem dX6_family_68 : decode cX6_family 68 = .ok (.ireturn, 1) := by decide +kernel
theorem dX6_family_69 : decode cX6_family 69 = .ok (.aload_n 0, 1) := by decide +kernel
theorem dX6_family_70 : decode cX6_family 70 = .ok (.invokevirtual 76, 3) := by decide +kernel
theorem dX6_family_73 : decode cX6_family 73 = .ok (.aload_n 0, 1) := by decide +kernel
theorem dX6_family_74 : decode cX6_family 74 = .ok (.getfield 12, 3) := by decide +kernel
theorem dX6_family_77 : decode cX6_family 77 = .ok (.aload_n 0, 1) := by decide +kernel
theorem dX6_family_78 : decode cX6_family 78 = .ok (.getfield 39, 3) := by decide +kernel
theorem dX6_family_81 : decode cX6_family 81 = .ok (.iload 5, 2) := by decide +kernel
theorem dX6_family_83 : decode cX6_family 83 = .ok (.invokevirtual 90, 3) := by decide +kernel
theorem dX6_family_86 : decode cX6_family 86 = .ok (.aload_n 0, 1) := by decide +kernel
theorem dX6_family_87 : decode cX6_family 87 = .ok (.getfield 39, 3) := by decide +kernel
theorem dX6_family_90 : decode cX6_family 90 = .ok (.getfield 89, 3) := by decide +kernel
theorem dX6_family_93 : decode cX6_family 93 = .ok (.ireturn, 1) := by decide +kernel
theorem dX6_off_0 : decode cX6_off 0 = .ok (.aload_n 0, 1) := by decide +kernel
theorem dX6_off_1 : decode cX6_off 1 = .ok (.iload_n 1, 1) := by decide +kernel
theorem dX6_off_2 : decode cX6_off 2 = .ok (.invokevirtual 94, 3) := by decide +kernel
theorem dX6_off_5 : decode cX6_off 5 = .ok (.ifCond .eq 10, 3) := by decide +kernel
theorem dX6_off_8 : decode cX6_off 8 = .ok (.iload_n 2, 1) := by decide +kernel
theorem dX6_off_9 : decode cX6_off 9 = .ok (.invokestatic 61, 3) := by decide +kernel
theorem dX6_off_12 : decode cX6_off 12 = .ok (.ifCond .ne 10, 3) := by decide +kernel
theorem dX6_off_15 : decode cX6_off 15 = .ok (.aload_n 0, 1) := by decide +kernel
theorem dX6_off_16 : decode cX6_off 16 = .ok (.bipush (-2), 2) := by decide +kernel
theorem dX6_off_18 : decode cX6_off 18 = .ok (.invokevirtual 65, 3) := by decide +kernel
theorem dX6_off_21 : decode cX6_off 21 = .ok (.ireturn, 1) := by decide +kernel
theorem dX6_off_22 : decode cX6_off 22 = .ok (.aload_n 0, 1) := by decide +kernel
theorem dX6_off_23 : decode cX6_off 23 = .ok (.invokevirtual 76, 3) := by decide +kernel
theorem dX6_off_26 : decode cX6_off 26 = .ok (.aload_n 0, 1) := by decide +kernel
theorem dX6_off_27 : decode cX6_off 27 = .ok (.getfield 12, 3) := by decide +kernel
theorem dX6_off_30 : decode cX6_off 30 = .ok (.getfield 97, 3) := by decide +kernel
theorem dX6_off_33 : decode cX6_off 33 = .ok (.iload_n 1, 1) := by decide +kernel
theorem dX6_off_34 : decode cX6_off 34 = .ok (.iaload, 1) := by decide +kernel
theorem dX6_off_35 : decode cX6_off 35 = .ok (.istore_n 3, 1) := by decide +kernel
theorem dX6_off_36 : decode cX6_off 36 = .ok (.aload_n 0, 1) := by decide +kernel
theorem dX6_off_37 : decode cX6_off 37 = .ok (.getfield 12, 3) := by decide +kernel
theorem dX6_off_40 : decode cX6_off 40 = .ok (.getfield 97, 3) := by decide +kernel
theorem dX6_off_43 : decode cX6_off 43 = .ok (.iload_n 1, 1) := by decide +kernel
theorem dX6_off_44 : decode cX6_off 44 = .ok (.iload_n 2, 1) := by decide +kernel
theorem dX6_off_45 : decode cX6_off 45 = .ok (.iastore, 1) := by decide +kernel
theorem dX6_off_46 : decode cX6_off 46 = .ok (.iload_n 3, 1) := by decide +kernel
theorem dX6_off_47 : decode cX6_off 47 = .ok (.ireturn, 1) := by decide +kernel
theorem dX6_drop_0 : decode cX6_drop 0 = .ok (.aload_n 0, 1) := by decide +kernel
theorem dX6_drop_1 : decode cX6_drop 1 = .ok (.iload_n 1, 1) := by decide +kernel
theorem dX6_drop_2 : decode cX6_drop 2 = .ok (.invokevirtual 94, 3) := by decide +kernel
theorem dX6_drop_5 : decode cX6_drop 5 = .ok (.ifCond .eq 9, 3) := by decide +kernel
theorem dX6_drop_8 : decode cX6_drop 8 = .ok (.iload_n 1, 1) := by decide +kernel
theorem dX6_drop_9 : decode cX6_drop 9 = .ok (.bipush 6, 2) := by decide +kernel
theorem dX6_drop_11 : decode cX6_drop 11 = .ok (.if_icmp .ge 10, 3) := by decide +kernel
theorem dX6_drop_14 : decode cX6_drop 14 = .ok (.aload_n 0, 1) := by decide +kernel
theorem dX6_drop_15 : decode cX6_drop 15 = .ok (.bipush (-2), 2) := by decide +kernel
theorem dX6_drop_17 : decode cX6_drop 17 = .ok (.invokevirtual 65, 3) := by decide +kernel
theorem dX6_drop_20 : decode cX6_drop 20 = .ok (.ireturn, 1) := by decide +kernel
theorem dX6_drop_21 : decode cX6_drop 21 = .ok (.aload_n 0, 1) := by decide +kernel
theorem dX6_drop_22 : decode cX6_drop 22 = .ok (.invokevirtual 76, 3) := by decide +kernel
theorem dX6_drop_25 : decode cX6_drop 25 = .ok (.aload_n 0, 1) := by decide +kernel
theorem dX6_drop_26 : decode cX6_drop 26 = .ok (.getfield 12, 3) := by decide +kernel
theorem dX6_drop_29 : decode cX6_drop 29 = .ok (.iload_n 1, 1) := by decide +kernel
theorem dX6_drop_30 : decode cX6_drop 30 = .ok (.invokevirtual 101, 3) := by decide +kernel
theorem dX6_drop_33 : decode cX6_drop 33 = .ok (.aload_n 0, 1) := by decide +kernel
theorem dX6_drop_34 : decode cX6_drop 34 = .ok (.getfield 12, 3) := by decide +kernel
theorem dX6_drop_37 : decode cX6_drop 37 = .ok (.getfield 69, 3) := by decide +kernel
theorem dX6_drop_40 : decode cX6_drop 40 = .ok (.ireturn, 1) := by decide +kernel
theorem dX6_anew_0 : decode cX6_anew 0 = .ok (.aload_n 0, 1) := by decide +kernel
theorem dX6_anew_1 : decode cX6_anew 1 = .ok (.getfield 12, 3) := by decide +kernel
theorem dX6_anew_4 : decode cX6_anew 4 = .ok (.getfield 69, 3) := by decide +kernel
theorem dX6_anew_7 : decode cX6_anew 7 = .ok (.istore_n 1, 1) := by decide +kernel
theorem dX6_anew_8 : decode cX6_anew 8 = .ok (.aload_n 0, 1) := by decide +kernel
theorem dX6_anew_9 : decode cX6_anew 9 = .ok (.invokevirtual 76, 3) := by decide +kernel
theorem dX6_anew_12 : decode cX6_anew 12 = .ok (.aload_n 0, 1) := by decide +kernel
theorem dX6_anew_13 : decode cX6_anew 13 = .ok (.getfield 12, 3) := by decide +kernel
theorem dX6_anew_16 : decode cX6_anew 16 = .ok (.invokevirtual 50, 3) := by decide +kernel
theorem dX6_anew_19 : decode cX6_anew 19 = .ok (.iload_n 1, 1) := by decide +kernel
theorem dX6_anew_20 : decode cX6_anew 20 = .ok (.ireturn, 1) := by decide +kernel
theorem dX6_draw_0 : decode cX6_draw 0 = .ok (.iload_n 1, 1) := by decide +kernel
theorem dX6_draw_1 : decode cX6_draw 1 = .ok (.ifCond .lt 20, 3) := by decide +kernel
theorem dX6_draw_4 : decode cX6_draw 4 = .ok (.iload_n 1, 1) := by decide +kernel
theorem dX6_draw_5 : decode cX6_draw 5 = .ok (.ldc 105, 2) := by decide +kernel
theorem dX6_draw_7 : decode cX6_draw 7 = .ok (.if_icmp .gt 14, 3) := by decide +kernel
theorem dX6_draw_10 : decode cX6_draw 10 = .ok (.iload_n 2, 1) := by decide +kernel
theorem dX6_draw_11 : decode cX6_draw 11 = .ok (.iconst 1, 1) := by decide +kernel
theorem dX6_draw_12 : decode cX6_draw 12 = .ok (.if_icmp .lt 9, 3) := by decide +kernel
theorem dX6_draw_15 : decode cX6_draw 15 = .ok (.iload_n 2, 1) := by decide +kernel
theorem dX6_draw_16 : decode cX6_draw 16 = .ok (.bipush 26, 2) := by decide +kernel
theorem dX6_draw_18 : decode cX6_draw 18 = .ok (.if_icmp .le 10, 3) := by decide +kernel
theorem dX6_draw_21 : decode cX6_draw 21 = .ok (.aload_n 0, 1) := by decide +kernel
theorem dX6_draw_22 : decode cX6_draw 22 = .ok (.bipush (-2), 2) := by decide +kernel
theorem dX6_draw_24 : decode cX6_draw 24 = .ok (.invokevirtual 65, 3) := by decide +kernel
theorem dX6_draw_27 : decode cX6_draw 27 = .ok (.ireturn, 1) := by decide +kernel
theorem dX6_draw_28 : decode cX6_draw 28 = .ok (.aload_n 0, 1) := by decide +kernel
theorem dX6_draw_29 : decode cX6_draw 29 = .ok (.invokevirtual 76, 3) := by decide +kernel
theorem dX6_draw_32 : decode cX6_draw 32 = .ok (.aload_n 0, 1) := by decide +kernel
theorem dX6_draw_33 : decode cX6_draw 33 = .ok (.getfield 12, 3) := by decide +kernel
theorem dX6_draw_36 : decode cX6_draw 36 = .ok (.bipush 6, 2) := by decide +kernel
theorem dX6_draw_38 : decode cX6_draw 38 = .ok (.putfield 69, 3) := by decide +kernel
theorem dX6_draw_41 : decode cX6_draw 41 = .ok (.iload_n 1, 1) := by decide +kernel
theorem dX6_draw_42 : decode cX6_draw 42 = .ok (.i2l, 1) := by decide +kernel
theorem dX6_draw_43 : decode cX6_draw 43 = .ok (.lstore_n 3, 1) := by decide +kernel
theorem dX6_draw_44 : decode cX6_draw 44 = .ok (.iconst 0, 1) := by decide +kernel
theorem dX6_draw_45 : decode cX6_draw 45 = .ok (.istore 5, 2) := by decide +kernel
theorem dX6_draw_47 : decode cX6_draw 47 = .ok (.iload 5, 2) := by decide +kernel
theorem dX6_draw_49 : decode cX6_draw 49 = .ok (.iload_n 2, 1) := by decide +kernel
theorem dX6_draw_50 : decode cX6_draw 50 = .ok (.if_icmp .ge 28, 3) := by decide +kernel
theorem dX6_draw_53 : decode cX6_draw 53 = .ok (.lload_n 3, 1) := by decide +kernel
theorem dX6_draw_54 : decode cX6_draw 54 = .ok (.ldc2_w 106, 3) := by decide +kernel
theorem dX6_draw_57 : decode cX6_draw 57 = .ok (.lmul, 1) := by decide +kernel
theorem dX6_draw_58 : decode cX6_draw 58 = .ok (.ldc2_w 108, 3) := by decide +kernel
theorem dX6_draw_61 : decode cX6_draw 61 = .ok (.ladd, 1) := by decide +kernel
theorem dX6_draw_62 : decode cX6_draw 62 = .ok (.ldc2_w 110, 3) := by decide +kernel
theorem dX6_draw_65 : decode cX6_draw 65 = .ok (.lrem, 1) := by decide +kernel
theorem dX6_draw_66 : decode cX6_draw 66 = .ok (.lstore_n 3, 1) := by decide +kernel
theorem dX6_draw_67 : decode cX6_draw 67 = .ok (.aload_n 0, 1) := by decide +kernel
theorem dX6_draw_68 : decode cX6_draw 68 = .ok (.lload_n 3, 1) := by decide +kernel
theorem dX6_draw_69 : decode cX6_draw 69 = .ok (.invokevirtual 112, 3) := by decide +kernel
theorem dX6_draw_72 : decode cX6_draw 72 = .ok (.iinc 5 1, 3) := by decide +kernel
theorem dX6_draw_75 : decode cX6_draw 75 = .ok (.goto (-28), 3) := by decide +kernel
theorem dX6_draw_78 : decode cX6_draw 78 = .ok (.aload_n 0, 1) := by decide +kernel
theorem dX6_draw_79 : decode cX6_draw 79 = .ok (.invokevirtual 116, 3) := by decide +kernel
theorem dX6_draw_82 : decode cX6_draw 82 = .ok (.getfield 120, 3) := by decide +kernel
theorem dX6_draw_85 : decode cX6_draw 85 = .ok (.ireturn, 1) := by decide +kernel
theorem dX6_of_0 : decode cX6_of 0 = .ok (.aload_n 0, 1) := by decide +kernel
theorem dX6_of_1 : decode cX6_of 1 = .ok (.iload_n 1, 1) := by decide +kernel
theorem dX6_of_2 : decode cX6_of 2 = .ok (.invokevirtual 94, 3) := by decide +kernel
theorem dX6_of_5 : decode cX6_of 5 = .ok (.ifCond .eq 13, 3) := by decide +kernel
theorem dX6_of_8 : decode cX6_of 8 = .ok (.iload_n 2, 1) := by decide +kernel
theorem dX6_of_9 : decode cX6_of 9 = .ok (.ifCond .lt 9, 3) := by decide +kernel
theorem dX6_of_12 : decode cX6_of 12 = .ok (.iload_n 2, 1) := by decide +kernel
theorem dX6_of_13 : decode cX6_of 13 = .ok (.bipush 6, 2) := by decide +kernel
theorem dX6_of_15 : decode cX6_of 15 = .ok (.if_icmp .le 10, 3) := by decide +kernel
theorem dX6_of_18 : decode cX6_of 18 = .ok (.aload_n 0, 1) := by decide +kernel
theorem dX6_of_19 : decode cX6_of 19 = .ok (.bipush (-100), 2) := by decide +kernel
theorem dX6_of_21 : decode cX6_of 21 = .ok (.invokevirtual 65, 3) := by decide +kernel
theorem dX6_of_24 : decode cX6_of 24 = .ok (.ireturn, 1) := by decide +kernel
theorem dX6_of_25 : decode cX6_of 25 = .ok (.aload_n 0, 1) := by decide +kernel
theorem dX6_of_26 : decode cX6_of 26 = .ok (.iload_n 1, 1) := by decide +kernel
theorem dX6_of_27 : decode cX6_of 27 = .ok (.iload_n 2, 1) := by decide +kernel
theorem dX6_of_28 : decode cX6_of 28 = .ok (.invokevirtual 123, 3) := by decide +kernel
theorem dX6_of_31 : decode cX6_of 31 = .ok (.ireturn, 1) := by decide +kernel
theorem dX6_member_0 : decode cX6_member 0 = .ok (.iload_n 1, 1) := by decide +kernel
theorem dX6_member_1 : decode cX6_member 1 = .ok (.invokestatic 83, 3) := by decide +kernel
theorem dX6_member_4 : decode cX6_member 4 = .ok (.ifCond .eq 19, 3) := by decide +kernel
theorem dX6_member_7 : decode cX6_member 7 = .ok (.iload_n 2, 1) := by decide +kernel
theorem dX6_member_8 : decode cX6_member 8 = .ok (.iload_n 3, 1) := by decide +kernel
theorem dX6_member_9 : decode cX6_member 9 = .ok (.iload 4, 2) := by decide +kernel
theorem dX6_member_11 : decode cX6_member 11 = .ok (.invokestatic 57, 3) := by decide +kernel
theorem dX6_member_14 : decode cX6_member 14 = .ok (.ifCond .eq 9, 3) := by decide +kernel
theorem dX6_member_17 : decode cX6_member 17 = .ok (.iload 5, 2) := by decide +kernel
theorem dX6_member_19 : decode cX6_member 19 = .ok (.iconst (-1), 1) := by decide +kernel
theorem dX6_member_20 : decode cX6_member 20 = .ok (.if_icmp .ge 10, 3) := by decide +kernel
theorem dX6_member_23 : decode cX6_member 23 = .ok (.aload_n 0, 1) := by decide +kernel
theorem dX6_member_24 : decode cX6_member 24 = .ok (.bipush (-10), 2) := by decide +kernel
theorem dX6_member_26 : decode cX6_member 26 = .ok (.invokevirtual 65, 3) := by decide +kernel
theorem dX6_member_29 : decode cX6_member 29 = .ok (.ireturn, 1) := by decide +kernel
theorem dX6_member_30 : decode cX6_member 30 = .ok (.aload_n 0, 1) := by decide +kernel
theorem dX6_member_31 : decode cX6_member 31 = .ok (.getfield 39, 3) := by decide +kernel
theorem dX6_member_34 : decode cX6_member 34 = .ok (.iload_n 1, 1) := by decide +kernel
theorem dX6_member_35 : decode cX6_member 35 = .ok (.iload_n 2, 1) := by decide +kernel
theorem dX6_member_36 : decode cX6_member 36 = .ok (.iload_n 3, 1) := by decide +kernel
theorem dX6_member_37 : decode cX6_member 37 = .ok (.iload 4, 2) := by decide +kernel
theorem dX6_member_39 : decode cX6_member 39 = .ok (.invokevirtual 86, 3) := by decide +kernel
theorem dX6_member_42 : decode cX6_member 42 = .ok (.iload 5, 2) := by decide +kernel
theorem dX6_member_44 : decode cX6_member 44 = .ok (.iconst (-1), 1) := by decide +kernel
theorem dX6_member_45 : decode cX6_member 45 = .ok (.if_icmp .ne 11, 3) := by decide +kernel
theorem dX6_member_48 : decode cX6_member 48 = .ok (.aload_n 0, 1) := by decide +kernel
theorem dX6_member_49 : decode cX6_member 49 = .ok (.getfield 39, 3) := by decide +kernel
theorem dX6_member_52 : decode cX6_member 52 = .ok (.getfield 89, 3) := by decide +kernel
theorem dX6_member_55 : decode cX6_member 55 = .ok (.ireturn, 1) := by decide +kernel
theorem dX6_member_56 : decode cX6_member 56 = .ok (.iload 5, 2) := by decide +kernel
theorem dX6_member_58 : decode cX6_member 58 = .ok (.aload_n 0, 1) := by decide +kernel
theorem dX6_member_59 : decode cX6_member 59 = .ok (.getfield 39, 3) := by decide +kernel
theorem dX6_member_62 : decode cX6_member 62 = .ok (.getfield 89, 3) := by decide +kernel
theorem dX6_member_65 : decode cX6_member 65 = .ok (.if_icmp .ge 16, 3) := by decide +kernel
theorem dX6_member_68 : decode cX6_member 68 = .ok (.aload_n 0, 1) := by decide +kernel
theorem dX6_member_69 : decode cX6_member 69 = .ok (.getfield 39, 3) := by decide +kernel
theorem dX6_member_72 : decode cX6_member 72 = .ok (.getfield 127, 3) := by decide +kernel
theorem dX6_member_75 : decode cX6_member 75 = .ok (.iload 5, 2) := by decide +kernel
theorem dX6_member_77 : decode cX6_member 77 = .ok (.iaload, 1) := by decide +kernel
theorem dX6_member_78 : decode cX6_member 78 = .ok (.goto 5, 3) := by decide +kernel
theorem dX6_member_81 : decode cX6_member 81 = .ok (.bipush (-5), 2) := by decide +kernel
theorem dX6_member_83 : decode cX6_member 83 = .ok (.ireturn, 1) := by decide +kernel
theorem dX6_all_0 : decode cX6_all 0 = .ok (.iload_n 1, 1) := by decide +kernel
theorem dX6_all_1 : decode cX6_all 1 = .ok (.tableswitch 114 0 6 #[43, 51, 59, 75, 83, 91, 106], 43) := by decide +kernel
theorem dX6_all_44 : decode cX6_all 44 = .ok (.aload_n 0, 1) := by decide +kernel
theorem dX6_all_45 : decode cX6_all 45 = .ok (.getfield 12, 3) := by decide +kernel
theorem dX6_all_48 : decode cX6_all 48 = .ok (.getfield 69, 3) := by decide +kernel
theorem dX6_all_51 : decode cX6_all 51 = .ok (.ireturn, 1) := by decide +kernel
theorem dX6_all_52 : decode cX6_all 52 = .ok (.aload_n 0, 1) := by decide +kernel
theorem dX6_all_53 : decode cX6_all 53 = .ok (.invokevirtual 116, 3) := by decide +kernel
theorem dX6_all_56 : decode cX6_all 56 = .ok (.invokevirtual 130, 3) := by decide +kernel
theorem dX6_all_59 : decode cX6_all 59 = .ok (.ireturn, 1) := by decide +kernel
theorem dX6_all_60 : decode cX6_all 60 = .ok (.aload_n 0, 1) := by decide +kernel
theorem dX6_all_61 : decode cX6_all 61 = .ok (.getfield 12, 3) := by decide +kernel
theorem dX6_all_64 : decode cX6_all 64 = .ok (.getfield 69, 3) := by decide +kernel
theorem dX6_all_67 : decode cX6_all 67 = .ok (.aload_n 0, 1) := by decide +kernel
theorem dX6_all_68 : decode cX6_all 68 = .ok (.invokevirtual 116, 3) := by decide +kernel
theorem dX6_all_71 : decode cX6_all 71 = .ok (.invokevirtual 130, 3) := by decide +kernel
theorem dX6_all_74 : decode cX6_all 74 = .ok (.isub, 1) := by decide +kernel
theorem dX6_all_75 : decode cX6_all 75 = .ok (.ireturn, 1) := by decide +kernel
theorem dX6_all_76 : decode cX6_all 76 = .ok (.aload_n 0, 1) := by decide +kernel
theorem dX6_all_77 : decode cX6_all 77 = .ok (.invokevirtual 116, 3) := by decide +kernel
theorem dX6_all_80 : decode cX6_all 80 = .ok (.getfield 120, 3) := by decide +kernel
theorem dX6_all_83 : decode cX6_all 83 = .ok (.ireturn, 1) := by decide +kernel
theorem dX6_all_84 : decode cX6_all 84 = .ok (.aload_n 0, 1) := by decide +kernel
theorem dX6_all_85 : decode cX6_all 85 = .ok (.invokevirtual 116, 3) := by decide +kernel
theorem dX6_all_88 : decode cX6_all 88 = .ok (.invokevirtual 133, 3) := by decide +kernel
theorem dX6_all_91 : decode cX6_all 91 = .ok (.ireturn, 1) := by decide +kernel
theorem dX6_all_92 : decode cX6_all 92 = .ok (.aload_n 0, 1) := by decide +kernel
theorem dX6_all_93 : decode cX6_all 93 = .ok (.invokevirtual 116, 3) := by decide +kernel
theorem dX6_all_96 : decode cX6_all 96 = .ok (.aload_n 0, 1) := by decide +kernel
theorem dX6_all_97 : decode cX6_all 97 = .ok (.getfield 12, 3) := by decide +kernel
theorem dX6_all_100 : decode cX6_all 100 = .ok (.getfield 69, 3) := by decide +kernel
theorem dX6_all_103 : decode cX6_all 103 = .ok (.invokevirtual 136, 3) := by decide +kernel
theorem dX6_all_106 : decode cX6_all 106 = .ok (.ireturn, 1) := by decide +kernel
theorem dX6_all_107 : decode cX6_all 107 = .ok (.aload_n 0, 1) := by decide +kernel
theorem dX6_all_108 : decode cX6_all 108 = .ok (.invokevirtual 116, 3) := by decide +kernel
theorem dX6_all_111 : decode cX6_all 111 = .ok (.invokevirtual 139, 3) := by decide +kernel
theorem dX6_all_114 : decode cX6_all 114 = .ok (.ireturn, 1) := by decide +kernel
theorem dX6_all_115 : decode cX6_all 115 = .ok (.aload_n 0, 1) := by decide +kernel
theorem dX6_all_116 : decode cX6_all 116 = .ok (.bipush (-2), 2) := by decide +kernel
theorem dX6_all_118 : decode cX6_all 118 = .ok (.invokevirtual 65, 3) := by decide +kernel
theorem dX6_all_121 : decode cX6_all 121 = .ok (.ireturn, 1) := by decide +kernel
theorem dX6_corner_0 : decode cX6_corner 0 = .ok (.iload_n 1, 1) := by decide +kernel
theorem dX6_corner_1 : decode cX6_corner 1 = .ok (.ifCond .lt 12, 3) := by decide +kernel
theorem dX6_corner_4 : decode cX6_corner 4 = .ok (.iload_n 2, 1) := by decide +kernel
theorem dX6_corner_5 : decode cX6_corner 5 = .ok (.ifCond .lt 8, 3) := by decide +kernel
theorem dX6_corner_8 : decode cX6_corner 8 = .ok (.iload_n 2, 1) := by decide +kernel
theorem dX6_corner_9 : decode cX6_corner 9 = .ok (.iconst 2, 1) := by decide +kernel
theorem dX6_corner_10 : decode cX6_corner 10 = .ok (.if_icmp .le 10, 3) := by decide +kernel
theorem dX6_corner_13 : decode cX6_corner 13 = .ok (.aload_n 0, 1) := by decide +kernel
theorem dX6_corner_14 : decode cX6_corner 14 = .ok (.bipush (-2), 2) := by decide +kernel
theorem dX6_corner_16 : decode cX6_corner 16 = .ok (.invokevirtual 65, 3) := by decide +kernel
theorem dX6_corner_19 : decode cX6_corner 19 = .ok (.ireturn, 1) := by decide +kernel
theorem dX6_corner_20 : decode cX6_corner 20 = .ok (.aload_n 0, 1) := by decide +kernel
theorem dX6_corner_21 : decode cX6_corner 21 = .ok (.invokevirtual 116, 3) := by decide +kernel
theorem dX6_corner_24 : decode cX6_corner 24 = .ok (.astore_n 3, 1) := by decide +kernel
theorem dX6_corner_25 : decode cX6_corner 25 = .ok (.iload_n 1, 1) := by decide +kernel
theorem dX6_corner_26 : decode cX6_corner 26 = .ok (.aload_n 3, 1) := by decide +kernel
theorem dX6_corner_27 : decode cX6_corner 27 = .ok (.getfield 120, 3) := by decide +kernel
theorem dX6_corner_30 : decode cX6_corner 30 = .ok (.if_icmp .lt 8, 3) := by decide +kernel
theorem dX6_corner_33 : decode cX6_corner 33 = .ok (.aload_n 0, 1) := by decide +kernel
theorem dX6_corner_34 : decode cX6_corner 34 = .ok (.invokevirtual 142, 3) := by decide +kernel
theorem dX6_corner_37 : decode cX6_corner 37 = .ok (.ireturn, 1) := by decide +kernel
theorem dX6_corner_38 : decode cX6_corner 38 = .ok (.aload_n 0, 1) := by decide +kernel
theorem dX6_corner_39 : decode cX6_corner 39 = .ok (.aload_n 3, 1) := by decide +kernel
theorem dX6_corner_40 : decode cX6_corner 40 = .ok (.iload_n 1, 1) := by decide +kernel
theorem dX6_corner_41 : decode cX6_corner 41 = .ok (.iload_n 2, 1) := by decide +kernel
theorem dX6_corner_42 : decode cX6_corner 42 = .ok (.invokevirtual 145, 3) := by decide +kernel
theorem dX6_corner_45 : decode cX6_corner 45 = .ok (.aload_n 3, 1) := by decide +kernel
theorem dX6_corner_46 : decode cX6_corner 46 = .ok (.getfield 148, 3) := by decide +kernel
theorem dX6_corner_49 : decode cX6_corner 49 = .ok (.iload_n 1, 1) := by decide +kernel
theorem dX6_corner_50 : decode cX6_corner 50 = .ok (.iaload, 1) := by decide +kernel
theorem dX6_corner_51 : decode cX6_corner 51 = .ok (.invokevirtual 151, 3) := by decide +kernel
theorem dX6_corner_54 : decode cX6_corner 54 = .ok (.iconst 1, 1) := by decide +kernel
theorem dX6_corner_55 : decode cX6_corner 55 = .ok (.ireturn, 1) := by decide +kernel
theorem dX6_meets_0 : decode cX6_meets 0 = .ok (.iload_n 1, 1) := by decide +kernel
theorem dX6_meets_1 : decode cX6_meets 1 = .ok (.ifCond .lt 12, 3) := by decide +kernel
theorem dX6_meets_4 : decode cX6_meets 4 = .ok (.iload_n 2, 1) := by decide +kernel
theorem dX6_meets_5 : decode cX6_meets 5 = .ok (.ifCond .lt 8, 3) := by decide +kernel
theorem dX6_meets_8 : decode cX6_meets 8 = .ok (.iload_n 2, 1) := by decide +kernel
theorem dX6_meets_9 : decode cX6_meets 9 = .ok (.iconst 1, 1) := by decide +kernel
theorem dX6_meets_10 : decode cX6_meets 10 = .ok (.if_icmp .le 10, 3) := by decide +kernel
theorem dX6_meets_13 : decode cX6_meets 13 = .ok (.aload_n 0, 1) := by decide +kernel
theorem dX6_meets_14 : decode cX6_meets 14 = .ok (.bipush (-2), 2) := by decide +kernel
theorem dX6_meets_16 : decode cX6_meets 16 = .ok (.invokevirtual 65, 3) := by decide +kernel
theorem dX6_meets_19 : decode cX6_meets 19 = .ok (.ireturn, 1) := by decide +kernel
theorem dX6_meets_20 : decode cX6_meets 20 = .ok (.aload_n 0, 1) := by decide +kernel
theorem dX6_meets_21 : decode cX6_meets 21 = .ok (.invokevirtual 116, 3) := by decide +kernel
theorem dX6_meets_24 : decode cX6_meets 24 = .ok (.astore_n 3, 1) := by decide +kernel
theorem dX6_meets_25 : decode cX6_meets 25 = .ok (.iload_n 1, 1) := by decide +kernel
theorem dX6_meets_26 : decode cX6_meets 26 = .ok (.aload_n 3, 1) := by decide +kernel
theorem dX6_meets_27 : decode cX6_meets 27 = .ok (.getfield 120, 3) := by decide +kernel
theorem dX6_meets_30 : decode cX6_meets 30 = .ok (.if_icmp .lt 5, 3) := by decide +kernel
theorem dX6_meets_33 : decode cX6_meets 33 = .ok (.iconst (-1), 1) := by decide +kernel
theorem dX6_meets_34 : decode cX6_meets 34 = .ok (.ireturn, 1) := by decide +kernel
theorem dX6_meets_35 : decode cX6_meets 35 = .ok (.iload_n 2, 1) := by decide +kernel
theorem dX6_meets_36 : decode cX6_meets 36 = .ok (.ifCond .ne 15, 3) := by decide +kernel
theorem dX6_meets_39 : decode cX6_meets 39 = .ok (.aload_n 3, 1) := by decide +kernel
theorem dX6_meets_40 : decode cX6_meets 40 = .ok (.getfield 155, 3) := by decide +kernel
theorem dX6_meets_43 : decode cX6_meets 43 = .ok (.iload_n 1, 1) := by decide +kernel
theorem dX6_meets_44 : decode cX6_meets 44 = .ok (.iaload, 1) := by decide +kernel
theorem dX6_meets_45 : decode cX6_meets 45 = .ok (.invokestatic 158, 3) := by decide +kernel
theorem dX6_meets_48 : decode cX6_meets 48 = .ok (.goto 9, 3) := by decide +kernel
theorem dX6_meets_51 : decode cX6_meets 51 = .ok (.aload_n 3, 1) := by decide +kernel
theorem dX6_meets_52 : decode cX6_meets 52 = .ok (.getfield 155, 3) := by decide +kernel
theorem dX6_meets_55 : decode cX6_meets 55 = .ok (.iload_n 1, 1) := by decide +kernel
theorem dX6_meets_56 : decode cX6_meets 56 = .ok (.iaload, 1) := by decide +kernel
theorem dX6_meets_57 : decode cX6_meets 57 = .ok (.ireturn, 1) := by decide +kernel
theorem dX6_part_0 : decode cX6_part 0 = .ok (.iload_n 1, 1) := by decide +kernel
theorem dX6_part_1 : decode cX6_part 1 = .ok (.ifCond .lt 8, 3) := by decide +kernel
theorem dX6_part_4 : decode cX6_part 4 = .ok (.iload_n 1, 1) := by decide +kernel
theorem dX6_part_5 : decode cX6_part 5 = .ok (.iconst 1, 1) := by decide +kernel
theorem dX6_part_6 : decode cX6_part 6 = .ok (.if_icmp .le 14, 3) := by decide +kernel
theorem dX6_part_9 : decode cX6_part 9 = .ok (.aload_n 0, 1) := by decide +kernel
theorem dX6_part_10 : decode cX6_part 10 = .ok (.bipush (-2), 2) := by decide +kernel
theorem dX6_part_12 : decode cX6_part 12 = .ok (.invokevirtual 65, 3) := by decide +kernel
theorem dX6_part_15 : decode cX6_part 15 = .ok (.pop, 1) := by decide +kernel
theorem dX6_part_16 : decode cX6_part 16 = .ok (.ldc2_w 163, 3) := by decide +kernel
theorem dX6_part_19 : decode cX6_part 19 = .ok (.lreturn, 1) := by decide +kernel
theorem dX6_part_20 : decode cX6_part 20 = .ok (.iload_n 1, 1) := by decide +kernel
theorem dX6_part_21 : decode cX6_part 21 = .ok (.ifCond .ne 11, 3) := by decide +kernel
theorem dX6_part_24 : decode cX6_part 24 = .ok (.aload_n 0, 1) := by decide +kernel
theorem dX6_part_25 : decode cX6_part 25 = .ok (.getfield 165, 3) := by decide +kernel
theorem dX6_part_28 : decode cX6_part 28 = .ok (.i2l, 1) := by decide +kernel
theorem dX6_part_29 : decode cX6_part 29 = .ok (.goto 8, 3) := by decide +kernel
theorem dX6_part_32 : decode cX6_part 32 = .ok (.aload_n 0, 1) := by decide +kernel
theorem dX6_part_33 : decode cX6_part 33 = .ok (.getfield 53, 3) := by decide +kernel
theorem dX6_part_36 : decode cX6_part 36 = .ok (.i2l, 1) := by decide +kernel
theorem dX6_part_37 : decode cX6_part 37 = .ok (.lreturn, 1) := by decide +kernel
theorem dX6_edge_0 : decode cX6_edge 0 = .ok (.aload_n 0, 1) := by decide +kernel
theorem dX6_edge_1 : decode cX6_edge 1 = .ok (.iload_n 1, 1) := by decide +kernel
theorem dX6_edge_2 : decode cX6_edge 2 = .ok (.invokevirtual 94, 3) := by decide +kernel
theorem dX6_edge_5 : decode cX6_edge 5 = .ok (.ifCond .eq 25, 3) := by decide +kernel
theorem dX6_edge_8 : decode cX6_edge 8 = .ok (.aload_n 0, 1) := by decide +kernel
theorem dX6_edge_9 : decode cX6_edge 9 = .ok (.iload_n 2, 1) := by decide +kernel
theorem dX6_edge_10 : decode cX6_edge 10 = .ok (.invokevirtual 94, 3) := by decide +kernel
theorem dX6_edge_13 : decode cX6_edge 13 = .ok (.ifCond .eq 17, 3) := by decide +kernel
theorem dX6_edge_16 : decode cX6_edge 16 = .ok (.iload_n 1, 1) := by decide +kernel
theorem dX6_edge_17 : decode cX6_edge 17 = .ok (.iload_n 2, 1) := by decide +kernel
theorem dX6_edge_18 : decode cX6_edge 18 = .ok (.if_icmp .eq 12, 3) := by decide +kernel
theorem dX6_edge_21 : decode cX6_edge 21 = .ok (.iload_n 3, 1) := by decide +kernel
theorem dX6_edge_22 : decode cX6_edge 22 = .ok (.ifCond .lt 8, 3) := by decide +kernel
theorem dX6_edge_25 : decode cX6_edge 25 = .ok (.iload_n 3, 1) := by decide +kernel
theorem dX6_edge_26 : decode cX6_edge 26 = .ok (.iconst 4, 1) := by decide +kernel
theorem dX6_edge_27 : decode cX6_edge 27 = .ok (.if_icmp .le 10, 3) := by decide +kernel
theorem dX6_edge_30 : decode cX6_edge 30 = .ok (.aload_n 0, 1) := by decide +kernel
theorem dX6_edge_31 : decode cX6_edge 31 = .ok (.bipush (-100), 2) := by decide +kernel
theorem dX6_edge_33 : decode cX6_edge 33 = .ok (.invokevirtual 65, 3) := by decide +kernel
theorem dX6_edge_36 : decode cX6_edge 36 = .ok (.ireturn, 1) := by decide +kernel
theorem dX6_edge_37 : decode cX6_edge 37 = .ok (.aload_n 0, 1) := by decide +kernel
theorem dX6_edge_38 : decode cX6_edge 38 = .ok (.invokevirtual 116, 3) := by decide +kernel
theorem dX6_edge_41 : decode cX6_edge 41 = .ok (.astore 4, 2) := by decide +kernel
theorem dX6_edge_43 : decode cX6_edge 43 = .ok (.aload 4, 2) := by decide +kernel
theorem dX6_edge_45 : decode cX6_edge 45 = .ok (.iload_n 1, 1) := by decide +kernel
theorem dX6_edge_46 : decode cX6_edge 46 = .ok (.iload_n 2, 1) := by decide +kernel
theorem dX6_edge_47 : decode cX6_edge 47 = .ok (.invokevirtual 168, 3) := by decide +kernel
theorem dX6_edge_50 : decode cX6_edge 50 = .ok (.istore 5, 2) := by decide +kernel
theorem dX6_edge_52 : decode cX6_edge 52 = .ok (.iload_n 3, 1) := by decide +kernel
theorem dX6_edge_53 : decode cX6_edge 53 = .ok (.iconst 4, 1) := by decide +kernel
theorem dX6_edge_54 : decode cX6_edge 54 = .ok (.if_icmp .ne 6, 3) := by decide +kernel
theorem dX6_edge_57 : decode cX6_edge 57 = .ok (.iload 5, 2) := by decide +kernel
theorem dX6_edge_59 : decode cX6_edge 59 = .ok (.ireturn, 1) := by decide +kernel
theorem dX6_edge_60 : decode cX6_edge 60 = .ok (.iload 5, 2) := by decide +kernel
theorem dX6_edge_62 : decode cX6_edge 62 = .ok (.iconst 2, 1) := by decide +kernel
theorem dX6_edge_63 : decode cX6_edge 63 = .ok (.if_icmp .lt 21, 3) := by decide +kernel
theorem dX6_edge_66 : decode cX6_edge 66 = .ok (.aload 4, 2) := by decide +kernel
theorem dX6_edge_68 : decode cX6_edge 68 = .ok (.iload_n 1, 1) := by decide +kernel
theorem dX6_edge_69 : decode cX6_edge 69 = .ok (.invokevirtual 171, 3) := by decide +kernel
theorem dX6_edge_72 : decode cX6_edge 72 = .ok (.ifCond .eq 12, 3) := by decide +kernel
theorem dX6_edge_75 : decode cX6_edge 75 = .ok (.aload 4, 2) := by decide +kernel
theorem dX6_edge_77 : decode cX6_edge 77 = .ok (.iload_n 2, 1) := by decide +kernel
theorem dX6_edge_78 : decode cX6_edge 78 = .ok (.invokevirtual 171, 3) := by decide +kernel
theorem dX6_edge_81 : decode cX6_edge 81 = .ok (.ifCond .ne 5, 3) := by decide +kernel
theorem dX6_edge_84 : decode cX6_edge 84 = .ok (.iconst 0, 1) := by decide +kernel
theorem dX6_edge_85 : decode cX6_edge 85 = .ok (.ireturn, 1) := by decide +kernel
theorem dX6_edge_86 : decode cX6_edge 86 = .ok (.iload_n 3, 1) := by decide +kernel
theorem dX6_edge_87 : decode cX6_edge 87 = .ok (.ifCond .ne 7, 3) := by decide +kernel
theorem dX6_edge_90 : decode cX6_edge 90 = .ok (.iconst 1, 1) := by decide +kernel
theorem dX6_edge_91 : decode cX6_edge 91 = .ok (.goto 15, 3) := by decide +kernel
theorem dX6_edge_94 : decode cX6_edge 94 = .ok (.aload_n 0, 1) := by decide +kernel
theorem dX6_edge_95 : decode cX6_edge 95 = .ok (.getfield 12, 3) := by decide +kernel
theorem dX6_edge_98 : decode cX6_edge 98 = .ok (.iload_n 1, 1) := by decide +kernel
theorem dX6_edge_99 : decode cX6_edge 99 = .ok (.iload_n 2, 1) := by decide +kernel
theorem dX6_edge_100 : decode cX6_edge 100 = .ok (.iload_n 3, 1) := by decide +kernel
theorem dX6_edge_101 : decode cX6_edge 101 = .ok (.iconst 1, 1) := by decide +kernel
theorem dX6_edge_102 : decode cX6_edge 102 = .ok (.isub, 1) := by decide +kernel
theorem dX6_edge_103 : decode cX6_edge 103 = .ok (.invokevirtual 174, 3) := by decide +kernel
theorem dX6_edge_106 : decode cX6_edge 106 = .ok (.ireturn, 1) := by decide +kernel
theorem dX6_reach_0 : decode cX6_reach 0 = .ok (.iload_n 1, 1) := by decide +kernel
theorem dX6_reach_1 : decode cX6_reach 1 = .ok (.iload_n 2, 1) := by decide +kernel
theorem dX6_reach_2 : decode cX6_reach 2 = .ok (.iload_n 3, 1) := by decide +kernel
theorem dX6_reach_3 : decode cX6_reach 3 = .ok (.invokestatic 57, 3) := by decide +kernel
theorem dX6_reach_6 : decode cX6_reach 6 = .ok (.ifCond .ne 10, 3) := by decide +kernel
theorem dX6_reach_9 : decode cX6_reach 9 = .ok (.aload_n 0, 1) := by decide +kernel
theorem dX6_reach_10 : decode cX6_reach 10 = .ok (.bipush (-2), 2) := by decide +kernel
theorem dX6_reach_12 : decode cX6_reach 12 = .ok (.invokevirtual 65, 3) := by decide +kernel
theorem dX6_reach_15 : decode cX6_reach 15 = .ok (.ireturn, 1) := by decide +kernel
theorem dX6_reach_16 : decode cX6_reach 16 = .ok (.aload_n 0, 1) := by decide +kernel
theorem dX6_reach_17 : decode cX6_reach 17 = .ok (.invokevirtual 116, 3) := by decide +kernel
theorem dX6_reach_20 : decode cX6_reach 20 = .ok (.astore 4, 2) := by decide +kernel
theorem dX6_reach_22 : decode cX6_reach 22 = .ok (.aload 4, 2) := by decide +kernel
theorem dX6_reach_24 : decode cX6_reach 24 = .ok (.iload_n 1, 1) := by decide +kernel
theorem dX6_reach_25 : decode cX6_reach 25 = .ok (.iload_n 2, 1) := by decide +kernel
theorem dX6_reach_26 : decode cX6_reach 26 = .ok (.iload_n 3, 1) := by decide +kernel
theorem dX6_reach_27 : decode cX6_reach 27 = .ok (.invokevirtual 178, 3) := by decide +kernel
theorem dX6_reach_30 : decode cX6_reach 30 = .ok (.istore 5, 2) := by decide +kernel
theorem dX6_reach_32 : decode cX6_reach 32 = .ok (.aload 4, 2) := by decide +kernel
theorem dX6_reach_34 : decode cX6_reach 34 = .ok (.iload 5, 2) := by decide +kernel
theorem dX6_reach_36 : decode cX6_reach 36 = .ok (.iload_n 1, 1) := by decide +kernel
theorem dX6_reach_37 : decode cX6_reach 37 = .ok (.iload_n 2, 1) := by decide +kernel
theorem dX6_reach_38 : decode cX6_reach 38 = .ok (.iload_n 3, 1) := by decide +kernel
theorem dX6_reach_39 : decode cX6_reach 39 = .ok (.invokevirtual 181, 3) := by decide +kernel
theorem dX6_reach_42 : decode cX6_reach 42 = .ok (.istore 6, 2) := by decide +kernel
theorem dX6_reach_44 : decode cX6_reach 44 = .ok (.aload_n 0, 1) := by decide +kernel
theorem dX6_reach_45 : decode cX6_reach 45 = .ok (.iload 6, 2) := by decide +kernel
theorem dX6_reach_47 : decode cX6_reach 47 = .ok (.aload 4, 2) := by decide +kernel
theorem dX6_reach_49 : decode cX6_reach 49 = .ok (.getfield 148, 3) := by decide +kernel
theorem dX6_reach_52 : decode cX6_reach 52 = .ok (.iload 5, 2) := by decide +kernel
theorem dX6_reach_54 : decode cX6_reach 54 = .ok (.iaload, 1) := by decide +kernel
theorem dX6_reach_55 : decode cX6_reach 55 = .ok (.invokevirtual 151, 3) := by decide +kernel
theorem dX6_reach_58 : decode cX6_reach 58 = .ok (.aload 4, 2) := by decide +kernel
theorem dX6_reach_60 : decode cX6_reach 60 = .ok (.iload_n 1, 1) := by decide +kernel
theorem dX6_reach_61 : decode cX6_reach 61 = .ok (.iload_n 2, 1) := by decide +kernel
theorem dX6_reach_62 : decode cX6_reach 62 = .ok (.iload_n 3, 1) := by decide +kernel
theorem dX6_reach_63 : decode cX6_reach 63 = .ok (.iload 5, 2) := by decide +kernel
theorem dX6_reach_65 : decode cX6_reach 65 = .ok (.invokevirtual 185, 3) := by decide +kernel
theorem dX6_reach_68 : decode cX6_reach 68 = .ok (.ireturn, 1) := by decide +kernel
theorem dX6_stays_0 : decode cX6_stays 0 = .ok (.iload_n 1, 1) := by decide +kernel
theorem dX6_stays_1 : decode cX6_stays 1 = .ok (.ifCond .lt 9, 3) := by decide +kernel
theorem dX6_stays_4 : decode cX6_stays 4 = .ok (.iload_n 1, 1) := by decide +kernel
theorem dX6_stays_5 : decode cX6_stays 5 = .ok (.bipush 6, 2) := by decide +kernel
theorem dX6_stays_7 : decode cX6_stays 7 = .ok (.if_icmp .lt 10, 3) := by decide +kernel
theorem dX6_stays_10 : decode cX6_stays 10 = .ok (.aload_n 0, 1) := by decide +kernel
theorem dX6_stays_11 : decode cX6_stays 11 = .ok (.bipush (-2), 2) := by decide +kernel
theorem dX6_stays_13 : decode cX6_stays 13 = .ok (.invokevirtual 65, 3) := by decide +kernel
theorem dX6_stays_16 : decode cX6_stays 16 = .ok (.ireturn, 1) := by decide +kernel
theorem dX6_stays_17 : decode cX6_stays 17 = .ok (.aload_n 0, 1) := by decide +kernel
theorem dX6_stays_18 : decode cX6_stays 18 = .ok (.invokevirtual 116, 3) := by decide +kernel
theorem dX6_stays_21 : decode cX6_stays 21 = .ok (.iload_n 1, 1) := by decide +kernel
theorem dX6_stays_22 : decode cX6_stays 22 = .ok (.invokevirtual 188, 3) := by decide +kernel
theorem dX6_stays_25 : decode cX6_stays 25 = .ok (.ifCond .eq 7, 3) := by decide +kernel
theorem dX6_stays_28 : decode cX6_stays 28 = .ok (.iconst 1, 1) := by decide +kernel
theorem dX6_stays_29 : decode cX6_stays 29 = .ok (.goto 4, 3) := by decide +kernel
theorem dX6_stays_32 : decode cX6_stays 32 = .ok (.iconst 0, 1) := by decide +kernel
theorem dX6_stays_33 : decode cX6_stays 33 = .ok (.ireturn, 1) := by decide +kernel
theorem dX6_symmetry_0 : decode cX6_symmetry 0 = .ok (.aload_n 0, 1) := by decide +kernel
theorem dX6_symmetry_1 : decode cX6_symmetry 1 = .ok (.invokevirtual 116, 3) := by decide +kernel
theorem dX6_symmetry_4 : decode cX6_symmetry 4 = .ok (.astore_n 1, 1) := by decide +kernel
theorem dX6_symmetry_5 : decode cX6_symmetry 5 = .ok (.iconst 0, 1) := by decide +kernel
theorem dX6_symmetry_6 : decode cX6_symmetry 6 = .ok (.istore_n 2, 1) := by decide +kernel
theorem dX6_symmetry_7 : decode cX6_symmetry 7 = .ok (.iconst 0, 1) := by decide +kernel
theorem dX6_symmetry_8 : decode cX6_symmetry 8 = .ok (.istore_n 3, 1) := by decide +kernel
theorem dX6_symmetry_9 : decode cX6_symmetry 9 = .ok (.iload_n 3, 1) := by decide +kernel
theorem dX6_symmetry_10 : decode cX6_symmetry 10 = .ok (.bipush 6, 2) := by decide +kernel
theorem dX6_symmetry_12 : decode cX6_symmetry 12 = .ok (.if_icmp .ge 23, 3) := by decide +kernel
theorem dX6_symmetry_15 : decode cX6_symmetry 15 = .ok (.aload_n 1, 1) := by decide +kernel
theorem dX6_symmetry_16 : decode cX6_symmetry 16 = .ok (.iload_n 3, 1) := by decide +kernel
end
section
theorem dX6_symmetry_17 : decode cX6_symmetry 17 = .ok (.invokevirtual 188, 3) := by decide +kernel
theorem dX6_symmetry_20 : decode cX6_symmetry 20 = .ok (.ifCond .eq 9, 3) := by decide +kernel
theorem dX6_symmetry_23 : decode cX6_symmetry 23 = .ok (.iload_n 2, 1) := by decide +kernel
theorem dX6_symmetry_24 : decode cX6_symmetry 24 = .ok (.iconst 1, 1) := by decide +kernel
theorem dX6_symmetry_25 : decode cX6_symmetry 25 = .ok (.iload_n 3, 1) := by decide +kernel
theorem dX6_symmetry_26 : decode cX6_symmetry 26 = .ok (.ishl, 1) := by decide +kernel
theorem dX6_symmetry_27 : decode cX6_symmetry 27 = .ok (.ior, 1) := by decide +kernel
theorem dX6_symmetry_28 : decode cX6_symmetry 28 = .ok (.istore_n 2, 1) := by decide +kernel
theorem dX6_symmetry_29 : decode cX6_symmetry 29 = .ok (.iinc 3 1, 3) := by decide +kernel
theorem dX6_symmetry_32 : decode cX6_symmetry 32 = .ok (.goto (-23), 3) := by decide +kernel
theorem dX6_symmetry_35 : decode cX6_symmetry 35 = .ok (.iload_n 2, 1) := by decide +kernel
theorem dX6_symmetry_36 : decode cX6_symmetry 36 = .ok (.ireturn, 1) := by decide +kernel
theorem dX6_hides_0 : decode cX6_hides 0 = .ok (.iload_n 1, 1) := by decide +kernel
theorem dX6_hides_1 : decode cX6_hides 1 = .ok (.iload_n 2, 1) := by decide +kernel
theorem dX6_hides_2 : decode cX6_hides 2 = .ok (.iload_n 3, 1) := by decide +kernel
theorem dX6_hides_3 : decode cX6_hides 3 = .ok (.invokestatic 57, 3) := by decide +kernel
theorem dX6_hides_6 : decode cX6_hides 6 = .ok (.ifCond .eq 14, 3) := by decide +kernel
theorem dX6_hides_9 : decode cX6_hides 9 = .ok (.iload 4, 2) := by decide +kernel
theorem dX6_hides_11 : decode cX6_hides 11 = .ok (.ifCond .lt 9, 3) := by decide +kernel
theorem dX6_hides_14 : decode cX6_hides 14 = .ok (.iload 4, 2) := by decide +kernel
theorem dX6_hides_16 : decode cX6_hides 16 = .ok (.iconst 1, 1) := by decide +kernel
theorem dX6_hides_17 : decode cX6_hides 17 = .ok (.if_icmp .le 10, 3) := by decide +kernel
theorem dX6_hides_20 : decode cX6_hides 20 = .ok (.aload_n 0, 1) := by decide +kernel
theorem dX6_hides_21 : decode cX6_hides 21 = .ok (.bipush (-2), 2) := by decide +kernel
theorem dX6_hides_23 : decode cX6_hides 23 = .ok (.invokevirtual 65, 3) := by decide +kernel
theorem dX6_hides_26 : decode cX6_hides 26 = .ok (.ireturn, 1) := by decide +kernel
theorem dX6_hides_27 : decode cX6_hides 27 = .ok (.aload_n 0, 1) := by decide +kernel
theorem dX6_hides_28 : decode cX6_hides 28 = .ok (.getfield 12, 3) := by decide +kernel
theorem dX6_hides_31 : decode cX6_hides 31 = .ok (.getfield 69, 3) := by decide +kernel
theorem dX6_hides_34 : decode cX6_hides 34 = .ok (.bipush 32, 2) := by decide +kernel
theorem dX6_hides_36 : decode cX6_hides 36 = .ok (.if_icmp .lt 8, 3) := by decide +kernel
theorem dX6_hides_39 : decode cX6_hides 39 = .ok (.aload_n 0, 1) := by decide +kernel
theorem dX6_hides_40 : decode cX6_hides 40 = .ok (.invokevirtual 72, 3) := by decide +kernel
theorem dX6_hides_43 : decode cX6_hides 43 = .ok (.ireturn, 1) := by decide +kernel
theorem dX6_hides_44 : decode cX6_hides 44 = .ok (.aload_n 0, 1) := by decide +kernel
theorem dX6_hides_45 : decode cX6_hides 45 = .ok (.invokevirtual 116, 3) := by decide +kernel
theorem dX6_hides_48 : decode cX6_hides 48 = .ok (.astore 5, 2) := by decide +kernel
theorem dX6_hides_50 : decode cX6_hides 50 = .ok (.aload 5, 2) := by decide +kernel
theorem dX6_hides_52 : decode cX6_hides 52 = .ok (.iload_n 1, 1) := by decide +kernel
theorem dX6_hides_53 : decode cX6_hides 53 = .ok (.iload_n 2, 1) := by decide +kernel
theorem dX6_hides_54 : decode cX6_hides 54 = .ok (.iload_n 3, 1) := by decide +kernel
theorem dX6_hides_55 : decode cX6_hides 55 = .ok (.invokevirtual 178, 3) := by decide +kernel
theorem dX6_hides_58 : decode cX6_hides 58 = .ok (.istore 6, 2) := by decide +kernel
theorem dX6_hides_60 : decode cX6_hides 60 = .ok (.aload 5, 2) := by decide +kernel
theorem dX6_hides_62 : decode cX6_hides 62 = .ok (.iload 6, 2) := by decide +kernel
theorem dX6_hides_64 : decode cX6_hides 64 = .ok (.iload_n 1, 1) := by decide +kernel
theorem dX6_hides_65 : decode cX6_hides 65 = .ok (.iload_n 2, 1) := by decide +kernel
theorem dX6_hides_66 : decode cX6_hides 66 = .ok (.iload_n 3, 1) := by decide +kernel
theorem dX6_hides_67 : decode cX6_hides 67 = .ok (.invokevirtual 181, 3) := by decide +kernel
theorem dX6_hides_70 : decode cX6_hides 70 = .ok (.istore 7, 2) := by decide +kernel
theorem dX6_hides_72 : decode cX6_hides 72 = .ok (.iload 4, 2) := by decide +kernel
theorem dX6_hides_74 : decode cX6_hides 74 = .ok (.ifCond .ne 19, 3) := by decide +kernel
theorem dX6_hides_77 : decode cX6_hides 77 = .ok (.iload 7, 2) := by decide +kernel
theorem dX6_hides_79 : decode cX6_hides 79 = .ok (.aload 5, 2) := by decide +kernel
theorem dX6_hides_81 : decode cX6_hides 81 = .ok (.getfield 148, 3) := by decide +kernel
theorem dX6_hides_84 : decode cX6_hides 84 = .ok (.iload 6, 2) := by decide +kernel
theorem dX6_hides_86 : decode cX6_hides 86 = .ok (.iaload, 1) := by decide +kernel
theorem dX6_hides_87 : decode cX6_hides 87 = .ok (.invokestatic 191, 3) := by decide +kernel
theorem dX6_hides_90 : decode cX6_hides 90 = .ok (.goto 16, 3) := by decide +kernel
theorem dX6_hides_93 : decode cX6_hides 93 = .ok (.iload 7, 2) := by decide +kernel
theorem dX6_hides_95 : decode cX6_hides 95 = .ok (.aload 5, 2) := by decide +kernel
theorem dX6_hides_97 : decode cX6_hides 97 = .ok (.getfield 148, 3) := by decide +kernel
theorem dX6_hides_100 : decode cX6_hides 100 = .ok (.iload 6, 2) := by decide +kernel
theorem dX6_hides_102 : decode cX6_hides 102 = .ok (.iaload, 1) := by decide +kernel
theorem dX6_hides_103 : decode cX6_hides 103 = .ok (.invokestatic 194, 3) := by decide +kernel
theorem dX6_hides_106 : decode cX6_hides 106 = .ok (.ireturn, 1) := by decide +kernel
theorem dX6_spare_0 : decode cX6_spare 0 = .ok (.iload_n 1, 1) := by decide +kernel
theorem dX6_spare_1 : decode cX6_spare 1 = .ok (.ifCond .lt 8, 3) := by decide +kernel
theorem dX6_spare_4 : decode cX6_spare 4 = .ok (.iload_n 1, 1) := by decide +kernel
theorem dX6_spare_5 : decode cX6_spare 5 = .ok (.iconst 1, 1) := by decide +kernel
theorem dX6_spare_6 : decode cX6_spare 6 = .ok (.if_icmp .le 10, 3) := by decide +kernel
theorem dX6_spare_9 : decode cX6_spare 9 = .ok (.aload_n 0, 1) := by decide +kernel
theorem dX6_spare_10 : decode cX6_spare 10 = .ok (.bipush (-2), 2) := by decide +kernel
theorem dX6_spare_12 : decode cX6_spare 12 = .ok (.invokevirtual 65, 3) := by decide +kernel
theorem dX6_spare_15 : decode cX6_spare 15 = .ok (.ireturn, 1) := by decide +kernel
theorem dX6_spare_16 : decode cX6_spare 16 = .ok (.aload_n 0, 1) := by decide +kernel
theorem dX6_spare_17 : decode cX6_spare 17 = .ok (.getfield 12, 3) := by decide +kernel
theorem dX6_spare_20 : decode cX6_spare 20 = .ok (.getfield 69, 3) := by decide +kernel
theorem dX6_spare_23 : decode cX6_spare 23 = .ok (.bipush 6, 2) := by decide +kernel
theorem dX6_spare_25 : decode cX6_spare 25 = .ok (.if_icmp .gt 8, 3) := by decide +kernel
theorem dX6_spare_28 : decode cX6_spare 28 = .ok (.aload_n 0, 1) := by decide +kernel
theorem dX6_spare_29 : decode cX6_spare 29 = .ok (.invokevirtual 142, 3) := by decide +kernel
theorem dX6_spare_32 : decode cX6_spare 32 = .ok (.ireturn, 1) := by decide +kernel
theorem dX6_spare_33 : decode cX6_spare 33 = .ok (.aload_n 0, 1) := by decide +kernel
theorem dX6_spare_34 : decode cX6_spare 34 = .ok (.getfield 197, 3) := by decide +kernel
theorem dX6_spare_37 : decode cX6_spare 37 = .ok (.ifCond .ne 7, 3) := by decide +kernel
theorem dX6_spare_40 : decode cX6_spare 40 = .ok (.aload_n 0, 1) := by decide +kernel
theorem dX6_spare_41 : decode cX6_spare 41 = .ok (.invokevirtual 201, 3) := by decide +kernel
theorem dX6_spare_44 : decode cX6_spare 44 = .ok (.iload_n 1, 1) := by decide +kernel
theorem dX6_spare_45 : decode cX6_spare 45 = .ok (.ifCond .ne 10, 3) := by decide +kernel
theorem dX6_spare_48 : decode cX6_spare 48 = .ok (.aload_n 0, 1) := by decide +kernel
theorem dX6_spare_49 : decode cX6_spare 49 = .ok (.getfield 204, 3) := by decide +kernel
theorem dX6_spare_52 : decode cX6_spare 52 = .ok (.goto 7, 3) := by decide +kernel
theorem dX6_spare_55 : decode cX6_spare 55 = .ok (.aload_n 0, 1) := by decide +kernel
theorem dX6_spare_56 : decode cX6_spare 56 = .ok (.getfield 207, 3) := by decide +kernel
theorem dX6_spare_59 : decode cX6_spare 59 = .ok (.ireturn, 1) := by decide +kernel
theorem dX6_type_0 : decode cX6_type 0 = .ok (.iload_n 1, 1) := by decide +kernel
theorem dX6_type_1 : decode cX6_type 1 = .ok (.ifCond .lt 9, 3) := by decide +kernel
theorem dX6_type_4 : decode cX6_type 4 = .ok (.iload_n 1, 1) := by decide +kernel
theorem dX6_type_5 : decode cX6_type 5 = .ok (.bipush 127, 2) := by decide +kernel
theorem dX6_type_7 : decode cX6_type 7 = .ok (.if_icmp .le 10, 3) := by decide +kernel
theorem dX6_type_10 : decode cX6_type 10 = .ok (.aload_n 0, 1) := by decide +kernel
theorem dX6_type_11 : decode cX6_type 11 = .ok (.bipush (-2), 2) := by decide +kernel
theorem dX6_type_13 : decode cX6_type 13 = .ok (.invokevirtual 65, 3) := by decide +kernel
theorem dX6_type_16 : decode cX6_type 16 = .ok (.ireturn, 1) := by decide +kernel
theorem dX6_type_17 : decode cX6_type 17 = .ok (.aload_n 0, 1) := by decide +kernel
theorem dX6_type_18 : decode cX6_type 18 = .ok (.getfield 46, 3) := by decide +kernel
theorem dX6_type_21 : decode cX6_type 21 = .ok (.getfield 210, 3) := by decide +kernel
theorem dX6_type_24 : decode cX6_type 24 = .ok (.bipush 120, 2) := by decide +kernel
theorem dX6_type_26 : decode cX6_type 26 = .ok (.if_icmp .lt 8, 3) := by decide +kernel
theorem dX6_type_29 : decode cX6_type 29 = .ok (.aload_n 0, 1) := by decide +kernel
theorem dX6_type_30 : decode cX6_type 30 = .ok (.invokevirtual 72, 3) := by decide +kernel
theorem dX6_type_33 : decode cX6_type 33 = .ok (.ireturn, 1) := by decide +kernel
theorem dX6_type_34 : decode cX6_type 34 = .ok (.aload_n 0, 1) := by decide +kernel
theorem dX6_type_35 : decode cX6_type 35 = .ok (.getfield 46, 3) := by decide +kernel
theorem dX6_type_38 : decode cX6_type 38 = .ok (.getfield 213, 3) := by decide +kernel
theorem dX6_type_41 : decode cX6_type 41 = .ok (.aload_n 0, 1) := by decide +kernel
theorem dX6_type_42 : decode cX6_type 42 = .ok (.getfield 46, 3) := by decide +kernel
theorem dX6_type_45 : decode cX6_type 45 = .ok (.getfield 210, 3) := by decide +kernel
theorem dX6_type_48 : decode cX6_type 48 = .ok (.iload_n 1, 1) := by decide +kernel
theorem dX6_type_49 : decode cX6_type 49 = .ok (.i2b, 1) := by decide +kernel
theorem dX6_type_50 : decode cX6_type 50 = .ok (.bastore, 1) := by decide +kernel
theorem dX6_type_51 : decode cX6_type 51 = .ok (.aload_n 0, 1) := by decide +kernel
theorem dX6_type_52 : decode cX6_type 52 = .ok (.getfield 46, 3) := by decide +kernel
theorem dX6_type_55 : decode cX6_type 55 = .ok (.dup, 1) := by decide +kernel
theorem dX6_type_56 : decode cX6_type 56 = .ok (.getfield 210, 3) := by decide +kernel
theorem dX6_type_59 : decode cX6_type 59 = .ok (.iconst 1, 1) := by decide +kernel
theorem dX6_type_60 : decode cX6_type 60 = .ok (.iadd, 1) := by decide +kernel
theorem dX6_type_61 : decode cX6_type 61 = .ok (.putfield 210, 3) := by decide +kernel
theorem dX6_type_64 : decode cX6_type 64 = .ok (.aload_n 0, 1) := by decide +kernel
theorem dX6_type_65 : decode cX6_type 65 = .ok (.getfield 46, 3) := by decide +kernel
theorem dX6_type_68 : decode cX6_type 68 = .ok (.getfield 210, 3) := by decide +kernel
theorem dX6_type_71 : decode cX6_type 71 = .ok (.ireturn, 1) := by decide +kernel
theorem dX6_clear_0 : decode cX6_clear 0 = .ok (.aload_n 0, 1) := by decide +kernel
theorem dX6_clear_1 : decode cX6_clear 1 = .ok (.getfield 46, 3) := by decide +kernel
theorem dX6_clear_4 : decode cX6_clear 4 = .ok (.getfield 210, 3) := by decide +kernel
theorem dX6_clear_7 : decode cX6_clear 7 = .ok (.istore_n 1, 1) := by decide +kernel
theorem dX6_clear_8 : decode cX6_clear 8 = .ok (.aload_n 0, 1) := by decide +kernel
theorem dX6_clear_9 : decode cX6_clear 9 = .ok (.getfield 46, 3) := by decide +kernel
theorem dX6_clear_12 : decode cX6_clear 12 = .ok (.iconst 0, 1) := by decide +kernel
theorem dX6_clear_13 : decode cX6_clear 13 = .ok (.putfield 210, 3) := by decide +kernel
theorem dX6_clear_16 : decode cX6_clear 16 = .ok (.iload_n 1, 1) := by decide +kernel
theorem dX6_clear_17 : decode cX6_clear 17 = .ok (.ireturn, 1) := by decide +kernel
theorem dX6_reads_0 : decode cX6_reads 0 = .ok (.aload_n 0, 1) := by decide +kernel
theorem dX6_reads_1 : decode cX6_reads 1 = .ok (.getfield 16, 3) := by decide +kernel
theorem dX6_reads_4 : decode cX6_reads 4 = .ok (.aload_n 0, 1) := by decide +kernel
theorem dX6_reads_5 : decode cX6_reads 5 = .ok (.getfield 12, 3) := by decide +kernel
theorem dX6_reads_8 : decode cX6_reads 8 = .ok (.invokevirtual 217, 3) := by decide +kernel
theorem dX6_reads_11 : decode cX6_reads 11 = .ok (.aload_n 0, 1) := by decide +kernel
theorem dX6_reads_12 : decode cX6_reads 12 = .ok (.getfield 46, 3) := by decide +kernel
theorem dX6_reads_15 : decode cX6_reads 15 = .ok (.aload_n 0, 1) := by decide +kernel
theorem dX6_reads_16 : decode cX6_reads 16 = .ok (.getfield 16, 3) := by decide +kernel
theorem dX6_reads_19 : decode cX6_reads 19 = .ok (.aload_n 0, 1) := by decide +kernel
theorem dX6_reads_20 : decode cX6_reads 20 = .ok (.getfield 39, 3) := by decide +kernel
theorem dX6_reads_23 : decode cX6_reads 23 = .ok (.invokevirtual 221, 3) := by decide +kernel
theorem dX6_reads_26 : decode cX6_reads 26 = .ok (.ifCond .ne 14, 3) := by decide +kernel
theorem dX6_reads_29 : decode cX6_reads 29 = .ok (.bipush (-10), 2) := by decide +kernel
theorem dX6_reads_31 : decode cX6_reads 31 = .ok (.aload_n 0, 1) := by decide +kernel
theorem dX6_reads_32 : decode cX6_reads 32 = .ok (.getfield 46, 3) := by decide +kernel
theorem dX6_reads_35 : decode cX6_reads 35 = .ok (.getfield 225, 3) := by decide +kernel
theorem dX6_reads_38 : decode cX6_reads 38 = .ok (.isub, 1) := by decide +kernel
theorem dX6_reads_39 : decode cX6_reads 39 = .ok (.ireturn, 1) := by decide +kernel
theorem dX6_reads_40 : decode cX6_reads 40 = .ok (.aload_n 0, 1) := by decide +kernel
theorem dX6_reads_41 : decode cX6_reads 41 = .ok (.getfield 16, 3) := by decide +kernel
theorem dX6_reads_44 : decode cX6_reads 44 = .ok (.getfield 69, 3) := by decide +kernel
theorem dX6_reads_47 : decode cX6_reads 47 = .ok (.aload_n 0, 1) := by decide +kernel
theorem dX6_reads_48 : decode cX6_reads 48 = .ok (.getfield 12, 3) := by decide +kernel
theorem dX6_reads_51 : decode cX6_reads 51 = .ok (.getfield 69, 3) := by decide +kernel
theorem dX6_reads_54 : decode cX6_reads 54 = .ok (.isub, 1) := by decide +kernel
theorem dX6_reads_55 : decode cX6_reads 55 = .ok (.istore_n 1, 1) := by decide +kernel
theorem dX6_reads_56 : decode cX6_reads 56 = .ok (.aload_n 0, 1) := by decide +kernel
theorem dX6_reads_57 : decode cX6_reads 57 = .ok (.invokevirtual 76, 3) := by decide +kernel
theorem dX6_reads_60 : decode cX6_reads 60 = .ok (.aload_n 0, 1) := by decide +kernel
theorem dX6_reads_61 : decode cX6_reads 61 = .ok (.getfield 12, 3) := by decide +kernel
theorem dX6_reads_64 : decode cX6_reads 64 = .ok (.aload_n 0, 1) := by decide +kernel
theorem dX6_reads_65 : decode cX6_reads 65 = .ok (.getfield 16, 3) := by decide +kernel
theorem dX6_reads_68 : decode cX6_reads 68 = .ok (.invokevirtual 217, 3) := by decide +kernel
theorem dX6_reads_71 : decode cX6_reads 71 = .ok (.iload_n 1, 1) := by decide +kernel
theorem dX6_reads_72 : decode cX6_reads 72 = .ok (.ireturn, 1) := by decide +kernel
theorem dX6_back_0 : decode cX6_back 0 = .ok (.aload_n 0, 1) := by decide +kernel
theorem dX6_back_1 : decode cX6_back 1 = .ok (.getfield 22, 3) := by decide +kernel
theorem dX6_back_4 : decode cX6_back 4 = .ok (.getfield 228, 3) := by decide +kernel
theorem dX6_back_7 : decode cX6_back 7 = .ok (.ifCond .gt 8, 3) := by decide +kernel
theorem dX6_back_10 : decode cX6_back 10 = .ok (.aload_n 0, 1) := by decide +kernel
theorem dX6_back_11 : decode cX6_back 11 = .ok (.invokevirtual 142, 3) := by decide +kernel
theorem dX6_back_14 : decode cX6_back 14 = .ok (.ireturn, 1) := by decide +kernel
theorem dX6_back_15 : decode cX6_back 15 = .ok (.aload_n 0, 1) := by decide +kernel
theorem dX6_back_16 : decode cX6_back 16 = .ok (.getfield 22, 3) := by decide +kernel
theorem dX6_back_19 : decode cX6_back 19 = .ok (.aload_n 0, 1) := by decide +kernel
theorem dX6_back_20 : decode cX6_back 20 = .ok (.getfield 12, 3) := by decide +kernel
theorem dX6_back_23 : decode cX6_back 23 = .ok (.invokevirtual 229, 3) := by decide +kernel
theorem dX6_back_26 : decode cX6_back 26 = .ok (.aload_n 0, 1) := by decide +kernel
theorem dX6_back_27 : decode cX6_back 27 = .ok (.invokevirtual 232, 3) := by decide +kernel
theorem dX6_back_30 : decode cX6_back 30 = .ok (.aload_n 0, 1) := by decide +kernel
theorem dX6_back_31 : decode cX6_back 31 = .ok (.getfield 22, 3) := by decide +kernel
theorem dX6_back_34 : decode cX6_back 34 = .ok (.getfield 228, 3) := by decide +kernel
theorem dX6_back_37 : decode cX6_back 37 = .ok (.ireturn, 1) := by decide +kernel
theorem dX6_told_0 : decode cX6_told 0 = .ok (.iload_n 1, 1) := by decide +kernel
theorem dX6_told_1 : decode cX6_told 1 = .ok (.ifCond .lt 8, 3) := by decide +kernel
theorem dX6_told_4 : decode cX6_told 4 = .ok (.iload_n 1, 1) := by decide +kernel
theorem dX6_told_5 : decode cX6_told 5 = .ok (.iconst 5, 1) := by decide +kernel
theorem dX6_told_6 : decode cX6_told 6 = .ok (.if_icmp .le 10, 3) := by decide +kernel
theorem dX6_told_9 : decode cX6_told 9 = .ok (.aload_n 0, 1) := by decide +kernel
theorem dX6_told_10 : decode cX6_told 10 = .ok (.bipush (-2), 2) := by decide +kernel
theorem dX6_told_12 : decode cX6_told 12 = .ok (.invokevirtual 65, 3) := by decide +kernel
theorem dX6_told_15 : decode cX6_told 15 = .ok (.ireturn, 1) := by decide +kernel
theorem dX6_told_16 : decode cX6_told 16 = .ok (.aload_n 0, 1) := by decide +kernel
theorem dX6_told_17 : decode cX6_told 17 = .ok (.iload_n 1, 1) := by decide +kernel
theorem dX6_told_18 : decode cX6_told 18 = .ok (.invokevirtual 235, 3) := by decide +kernel
theorem dX6_told_21 : decode cX6_told 21 = .ok (.ireturn, 1) := by decide +kernel
theorem dX6_digest_0 : decode cX6_digest 0 = .ok (.aload_n 0, 1) := by decide +kernel
theorem dX6_digest_1 : decode cX6_digest 1 = .ok (.invokevirtual 116, 3) := by decide +kernel
theorem dX6_digest_4 : decode cX6_digest 4 = .ok (.astore_n 1, 1) := by decide +kernel
theorem dX6_digest_5 : decode cX6_digest 5 = .ok (.ldc2_w 238, 3) := by decide +kernel
theorem dX6_digest_8 : decode cX6_digest 8 = .ok (.lstore_n 2, 1) := by decide +kernel
theorem dX6_digest_9 : decode cX6_digest 9 = .ok (.iconst 0, 1) := by decide +kernel
theorem dX6_digest_10 : decode cX6_digest 10 = .ok (.istore 4, 2) := by decide +kernel
theorem dX6_digest_12 : decode cX6_digest 12 = .ok (.iload 4, 2) := by decide +kernel
theorem dX6_digest_14 : decode cX6_digest 14 = .ok (.iconst 5, 1) := by decide +kernel
theorem dX6_digest_15 : decode cX6_digest 15 = .ok (.if_icmp .gt 23, 3) := by decide +kernel
theorem dX6_digest_18 : decode cX6_digest 18 = .ok (.ldc2_w 240, 3) := by decide +kernel
theorem dX6_digest_21 : decode cX6_digest 21 = .ok (.lload_n 2, 1) := by decide +kernel
theorem dX6_digest_22 : decode cX6_digest 22 = .ok (.lmul, 1) := by decide +kernel
theorem dX6_digest_23 : decode cX6_digest 23 = .ok (.aload_n 0, 1) := by decide +kernel
theorem dX6_digest_24 : decode cX6_digest 24 = .ok (.iload 4, 2) := by decide +kernel
theorem dX6_digest_26 : decode cX6_digest 26 = .ok (.invokevirtual 235, 3) := by decide +kernel
theorem dX6_digest_29 : decode cX6_digest 29 = .ok (.i2l, 1) := by decide +kernel
theorem dX6_digest_30 : decode cX6_digest 30 = .ok (.ladd, 1) := by decide +kernel
theorem dX6_digest_31 : decode cX6_digest 31 = .ok (.lstore_n 2, 1) := by decide +kernel
theorem dX6_digest_32 : decode cX6_digest 32 = .ok (.iinc 4 1, 3) := by decide +kernel
theorem dX6_digest_35 : decode cX6_digest 35 = .ok (.goto (-23), 3) := by decide +kernel
theorem dX6_digest_38 : decode cX6_digest 38 = .ok (.iconst 0, 1) := by decide +kernel
theorem dX6_digest_39 : decode cX6_digest 39 = .ok (.istore 4, 2) := by decide +kernel
theorem dX6_digest_41 : decode cX6_digest 41 = .ok (.iload 4, 2) := by decide +kernel
theorem dX6_digest_43 : decode cX6_digest 43 = .ok (.aload_n 0, 1) := by decide +kernel
theorem dX6_digest_44 : decode cX6_digest 44 = .ok (.getfield 12, 3) := by decide +kernel
theorem dX6_digest_47 : decode cX6_digest 47 = .ok (.getfield 69, 3) := by decide +kernel
theorem dX6_digest_50 : decode cX6_digest 50 = .ok (.if_icmp .ge 40, 3) := by decide +kernel
theorem dX6_digest_53 : decode cX6_digest 53 = .ok (.iconst 0, 1) := by decide +kernel
theorem dX6_digest_54 : decode cX6_digest 54 = .ok (.istore 5, 2) := by decide +kernel
theorem dX6_digest_56 : decode cX6_digest 56 = .ok (.iload 5, 2) := by decide +kernel
theorem dX6_digest_58 : decode cX6_digest 58 = .ok (.iconst 4, 1) := by decide +kernel
theorem dX6_digest_59 : decode cX6_digest 59 = .ok (.if_icmp .gt 25, 3) := by decide +kernel
theorem dX6_digest_62 : decode cX6_digest 62 = .ok (.ldc2_w 240, 3) := by decide +kernel
theorem dX6_digest_65 : decode cX6_digest 65 = .ok (.lload_n 2, 1) := by decide +kernel
theorem dX6_digest_66 : decode cX6_digest 66 = .ok (.lmul, 1) := by decide +kernel
theorem dX6_digest_67 : decode cX6_digest 67 = .ok (.aload_n 0, 1) := by decide +kernel
theorem dX6_digest_68 : decode cX6_digest 68 = .ok (.iload 4, 2) := by decide +kernel
theorem dX6_digest_70 : decode cX6_digest 70 = .ok (.iload 5, 2) := by decide +kernel
theorem dX6_digest_72 : decode cX6_digest 72 = .ok (.invokevirtual 123, 3) := by decide +kernel
theorem dX6_digest_75 : decode cX6_digest 75 = .ok (.i2l, 1) := by decide +kernel
theorem dX6_digest_76 : decode cX6_digest 76 = .ok (.ladd, 1) := by decide +kernel
theorem dX6_digest_77 : decode cX6_digest 77 = .ok (.lstore_n 2, 1) := by decide +kernel
theorem dX6_digest_78 : decode cX6_digest 78 = .ok (.iinc 5 1, 3) := by decide +kernel
theorem dX6_digest_81 : decode cX6_digest 81 = .ok (.goto (-25), 3) := by decide +kernel
theorem dX6_digest_84 : decode cX6_digest 84 = .ok (.iinc 4 1, 3) := by decide +kernel
theorem dX6_digest_87 : decode cX6_digest 87 = .ok (.goto (-46), 3) := by decide +kernel
theorem dX6_digest_90 : decode cX6_digest 90 = .ok (.ldc2_w 240, 3) := by decide +kernel
theorem dX6_digest_93 : decode cX6_digest 93 = .ok (.lload_n 2, 1) := by decide +kernel
theorem dX6_digest_94 : decode cX6_digest 94 = .ok (.lmul, 1) := by decide +kernel
theorem dX6_digest_95 : decode cX6_digest 95 = .ok (.aload_n 1, 1) := by decide +kernel
theorem dX6_digest_96 : decode cX6_digest 96 = .ok (.invokevirtual 130, 3) := by decide +kernel
theorem dX6_digest_99 : decode cX6_digest 99 = .ok (.i2l, 1) := by decide +kernel
theorem dX6_digest_100 : decode cX6_digest 100 = .ok (.ladd, 1) := by decide +kernel
theorem dX6_digest_101 : decode cX6_digest 101 = .ok (.lstore_n 2, 1) := by decide +kernel
theorem dX6_digest_102 : decode cX6_digest 102 = .ok (.ldc2_w 240, 3) := by decide +kernel
theorem dX6_digest_105 : decode cX6_digest 105 = .ok (.lload_n 2, 1) := by decide +kernel
theorem dX6_digest_106 : decode cX6_digest 106 = .ok (.lmul, 1) := by decide +kernel
theorem dX6_digest_107 : decode cX6_digest 107 = .ok (.aload_n 1, 1) := by decide +kernel
theorem dX6_digest_108 : decode cX6_digest 108 = .ok (.getfield 120, 3) := by decide +kernel
theorem dX6_digest_111 : decode cX6_digest 111 = .ok (.i2l, 1) := by decide +kernel
theorem dX6_digest_112 : decode cX6_digest 112 = .ok (.ladd, 1) := by decide +kernel
theorem dX6_digest_113 : decode cX6_digest 113 = .ok (.lstore_n 2, 1) := by decide +kernel
theorem dX6_digest_114 : decode cX6_digest 114 = .ok (.ldc2_w 240, 3) := by decide +kernel
theorem dX6_digest_117 : decode cX6_digest 117 = .ok (.lload_n 2, 1) := by decide +kernel
theorem dX6_digest_118 : decode cX6_digest 118 = .ok (.lmul, 1) := by decide +kernel
theorem dX6_digest_119 : decode cX6_digest 119 = .ok (.aload_n 1, 1) := by decide +kernel
theorem dX6_digest_120 : decode cX6_digest 120 = .ok (.invokevirtual 133, 3) := by decide +kernel
theorem dX6_digest_123 : decode cX6_digest 123 = .ok (.i2l, 1) := by decide +kernel
theorem dX6_digest_124 : decode cX6_digest 124 = .ok (.ladd, 1) := by decide +kernel
theorem dX6_digest_125 : decode cX6_digest 125 = .ok (.lstore_n 2, 1) := by decide +kernel
theorem dX6_digest_126 : decode cX6_digest 126 = .ok (.ldc2_w 240, 3) := by decide +kernel
theorem dX6_digest_129 : decode cX6_digest 129 = .ok (.lload_n 2, 1) := by decide +kernel
theorem dX6_digest_130 : decode cX6_digest 130 = .ok (.lmul, 1) := by decide +kernel
theorem dX6_digest_131 : decode cX6_digest 131 = .ok (.aload_n 0, 1) := by decide +kernel
theorem dX6_digest_132 : decode cX6_digest 132 = .ok (.getfield 165, 3) := by decide +kernel
theorem dX6_digest_135 : decode cX6_digest 135 = .ok (.i2l, 1) := by decide +kernel
theorem dX6_digest_136 : decode cX6_digest 136 = .ok (.ladd, 1) := by decide +kernel
theorem dX6_digest_137 : decode cX6_digest 137 = .ok (.lstore_n 2, 1) := by decide +kernel
theorem dX6_digest_138 : decode cX6_digest 138 = .ok (.ldc2_w 240, 3) := by decide +kernel
theorem dX6_digest_141 : decode cX6_digest 141 = .ok (.lload_n 2, 1) := by decide +kernel
theorem dX6_digest_142 : decode cX6_digest 142 = .ok (.lmul, 1) := by decide +kernel
theorem dX6_digest_143 : decode cX6_digest 143 = .ok (.aload_n 0, 1) := by decide +kernel
theorem dX6_digest_144 : decode cX6_digest 144 = .ok (.getfield 53, 3) := by decide +kernel
theorem dX6_digest_147 : decode cX6_digest 147 = .ok (.i2l, 1) := by decide +kernel
theorem dX6_digest_148 : decode cX6_digest 148 = .ok (.ladd, 1) := by decide +kernel
theorem dX6_digest_149 : decode cX6_digest 149 = .ok (.lstore_n 2, 1) := by decide +kernel
theorem dX6_digest_150 : decode cX6_digest 150 = .ok (.aload_n 1, 1) := by decide +kernel
theorem dX6_digest_151 : decode cX6_digest 151 = .ok (.lload_n 2, 1) := by decide +kernel
theorem dX6_digest_152 : decode cX6_digest 152 = .ok (.invokevirtual 242, 3) := by decide +kernel
theorem dX6_digest_155 : decode cX6_digest 155 = .ok (.lreturn, 1) := by decide +kernel
theorem dX6_isSign_0 : decode cX6_isSign 0 = .ok (.iload_n 0, 1) := by decide +kernel
theorem dX6_isSign_1 : decode cX6_isSign 1 = .ok (.invokestatic 246, 3) := by decide +kernel
theorem dX6_isSign_4 : decode cX6_isSign 4 = .ok (.ifCond .eq 33, 3) := by decide +kernel
theorem dX6_isSign_7 : decode cX6_isSign 7 = .ok (.iload_n 1, 1) := by decide +kernel
theorem dX6_isSign_8 : decode cX6_isSign 8 = .ok (.invokestatic 246, 3) := by decide +kernel
theorem dX6_isSign_11 : decode cX6_isSign 11 = .ok (.ifCond .eq 26, 3) := by decide +kernel
theorem dX6_isSign_14 : decode cX6_isSign 14 = .ok (.iload_n 2, 1) := by decide +kernel
theorem dX6_isSign_15 : decode cX6_isSign 15 = .ok (.invokestatic 246, 3) := by decide +kernel
theorem dX6_isSign_18 : decode cX6_isSign 18 = .ok (.ifCond .eq 19, 3) := by decide +kernel
theorem dX6_isSign_21 : decode cX6_isSign 21 = .ok (.iload_n 0, 1) := by decide +kernel
theorem dX6_isSign_22 : decode cX6_isSign 22 = .ok (.ifCond .ne 11, 3) := by decide +kernel
theorem dX6_isSign_25 : decode cX6_isSign 25 = .ok (.iload_n 1, 1) := by decide +kernel
theorem dX6_isSign_26 : decode cX6_isSign 26 = .ok (.ifCond .ne 7, 3) := by decide +kernel
theorem dX6_isSign_29 : decode cX6_isSign 29 = .ok (.iload_n 2, 1) := by decide +kernel
theorem dX6_isSign_30 : decode cX6_isSign 30 = .ok (.ifCond .eq 7, 3) := by decide +kernel
theorem dX6_isSign_33 : decode cX6_isSign 33 = .ok (.iconst 1, 1) := by decide +kernel
theorem dX6_isSign_34 : decode cX6_isSign 34 = .ok (.goto 4, 3) := by decide +kernel
theorem dX6_isSign_37 : decode cX6_isSign 37 = .ok (.iconst 0, 1) := by decide +kernel
theorem dX6_isSign_38 : decode cX6_isSign 38 = .ok (.ireturn, 1) := by decide +kernel
theorem dX6_isSignNumber_0 : decode cX6_isSignNumber 0 = .ok (.iload_n 0, 1) := by decide +kernel
theorem dX6_isSignNumber_1 : decode cX6_isSignNumber 1 = .ok (.bipush (-3), 2) := by decide +kernel
theorem dX6_isSignNumber_3 : decode cX6_isSignNumber 3 = .ok (.if_icmp .lt 12, 3) := by decide +kernel
theorem dX6_isSignNumber_6 : decode cX6_isSignNumber 6 = .ok (.iload_n 0, 1) := by decide +kernel
theorem dX6_isSignNumber_7 : decode cX6_isSignNumber 7 = .ok (.iconst 3, 1) := by decide +kernel
theorem dX6_isSignNumber_8 : decode cX6_isSignNumber 8 = .ok (.if_icmp .gt 7, 3) := by decide +kernel
theorem dX6_isSignNumber_11 : decode cX6_isSignNumber 11 = .ok (.iconst 1, 1) := by decide +kernel
theorem dX6_isSignNumber_12 : decode cX6_isSignNumber 12 = .ok (.goto 4, 3) := by decide +kernel
theorem dX6_isSignNumber_15 : decode cX6_isSignNumber 15 = .ok (.iconst 0, 1) := by decide +kernel
theorem dX6_isSignNumber_16 : decode cX6_isSignNumber 16 = .ok (.ireturn, 1) := by decide +kernel
theorem dX6_isOff_0 : decode cX6_isOff 0 = .ok (.iload_n 0, 1) := by decide +kernel
theorem dX6_isOff_1 : decode cX6_isOff 1 = .ok (.iconst 1, 1) := by decide +kernel
theorem dX6_isOff_2 : decode cX6_isOff 2 = .ok (.if_icmp .lt 13, 3) := by decide +kernel
theorem dX6_isOff_5 : decode cX6_isOff 5 = .ok (.iload_n 0, 1) := by decide +kernel
theorem dX6_isOff_6 : decode cX6_isOff 6 = .ok (.bipush 60, 2) := by decide +kernel
theorem dX6_isOff_8 : decode cX6_isOff 8 = .ok (.if_icmp .gt 7, 3) := by decide +kernel
theorem dX6_isOff_11 : decode cX6_isOff 11 = .ok (.iconst 1, 1) := by decide +kernel
theorem dX6_isOff_12 : decode cX6_isOff 12 = .ok (.goto 4, 3) := by decide +kernel
theorem dX6_isOff_15 : decode cX6_isOff 15 = .ok (.iconst 0, 1) := by decide +kernel
theorem dX6_isOff_16 : decode cX6_isOff 16 = .ok (.ireturn, 1) := by decide +kernel
theorem dX6_isTurnSet_0 : decode cX6_isTurnSet 0 = .ok (.iload_n 0, 1) := by decide +kernel
theorem dX6_isTurnSet_1 : decode cX6_isTurnSet 1 = .ok (.ifCond .lt 13, 3) := by decide +kernel
theorem dX6_isTurnSet_4 : decode cX6_isTurnSet 4 = .ok (.iload_n 0, 1) := by decide +kernel
theorem dX6_isTurnSet_5 : decode cX6_isTurnSet 5 = .ok (.bipush 63, 2) := by decide +kernel
theorem dX6_isTurnSet_7 : decode cX6_isTurnSet 7 = .ok (.if_icmp .gt 7, 3) := by decide +kernel
theorem dX6_isTurnSet_10 : decode cX6_isTurnSet 10 = .ok (.iconst 1, 1) := by decide +kernel
theorem dX6_isTurnSet_11 : decode cX6_isTurnSet 11 = .ok (.goto 4, 3) := by decide +kernel
theorem dX6_isTurnSet_14 : decode cX6_isTurnSet 14 = .ok (.iconst 0, 1) := by decide +kernel
theorem dX6_isTurnSet_15 : decode cX6_isTurnSet 15 = .ok (.ireturn, 1) := by decide +kernel
theorem dX6_isPlane_0 : decode cX6_isPlane 0 = .ok (.iload_n 1, 1) := by decide +kernel
theorem dX6_isPlane_1 : decode cX6_isPlane 1 = .ok (.ifCond .lt 18, 3) := by decide +kernel
theorem dX6_isPlane_4 : decode cX6_isPlane 4 = .ok (.iload_n 1, 1) := by decide +kernel
theorem dX6_isPlane_5 : decode cX6_isPlane 5 = .ok (.aload_n 0, 1) := by decide +kernel
theorem dX6_isPlane_6 : decode cX6_isPlane 6 = .ok (.getfield 12, 3) := by decide +kernel
theorem dX6_isPlane_9 : decode cX6_isPlane 9 = .ok (.getfield 69, 3) := by decide +kernel
theorem dX6_isPlane_12 : decode cX6_isPlane 12 = .ok (.if_icmp .ge 7, 3) := by decide +kernel
theorem dX6_isPlane_15 : decode cX6_isPlane 15 = .ok (.iconst 1, 1) := by decide +kernel
theorem dX6_isPlane_16 : decode cX6_isPlane 16 = .ok (.goto 4, 3) := by decide +kernel
theorem dX6_isPlane_19 : decode cX6_isPlane 19 = .ok (.iconst 0, 1) := by decide +kernel
theorem dX6_isPlane_20 : decode cX6_isPlane 20 = .ok (.ireturn, 1) := by decide +kernel
theorem dX6_refuseBad_0 : decode cX6_refuseBad 0 = .ok (.aload_n 0, 1) := by decide +kernel
theorem dX6_refuseBad_1 : decode cX6_refuseBad 1 = .ok (.dup, 1) := by decide +kernel
theorem dX6_refuseBad_2 : decode cX6_refuseBad 2 = .ok (.getfield 249, 3) := by decide +kernel
theorem dX6_refuseBad_5 : decode cX6_refuseBad 5 = .ok (.iconst 1, 1) := by decide +kernel
theorem dX6_refuseBad_6 : decode cX6_refuseBad 6 = .ok (.iadd, 1) := by decide +kernel
theorem dX6_refuseBad_7 : decode cX6_refuseBad 7 = .ok (.putfield 249, 3) := by decide +kernel
theorem dX6_refuseBad_10 : decode cX6_refuseBad 10 = .ok (.iload_n 1, 1) := by decide +kernel
theorem dX6_refuseBad_11 : decode cX6_refuseBad 11 = .ok (.ireturn, 1) := by decide +kernel
theorem dX6_refuseNo_0 : decode cX6_refuseNo 0 = .ok (.aload_n 0, 1) := by decide +kernel
theorem dX6_refuseNo_1 : decode cX6_refuseNo 1 = .ok (.dup, 1) := by decide +kernel
theorem dX6_refuseNo_2 : decode cX6_refuseNo 2 = .ok (.getfield 252, 3) := by decide +kernel
theorem dX6_refuseNo_5 : decode cX6_refuseNo 5 = .ok (.iconst 1, 1) := by decide +kernel
theorem dX6_refuseNo_6 : decode cX6_refuseNo 6 = .ok (.iadd, 1) := by decide +kernel
theorem dX6_refuseNo_7 : decode cX6_refuseNo 7 = .ok (.putfield 252, 3) := by decide +kernel
theorem dX6_refuseNo_10 : decode cX6_refuseNo 10 = .ok (.bipush (-3), 2) := by decide +kernel
theorem dX6_refuseNo_12 : decode cX6_refuseNo 12 = .ok (.ireturn, 1) := by decide +kernel
theorem dX6_refuseFull_0 : decode cX6_refuseFull 0 = .ok (.aload_n 0, 1) := by decide +kernel
theorem dX6_refuseFull_1 : decode cX6_refuseFull 1 = .ok (.dup, 1) := by decide +kernel
theorem dX6_refuseFull_2 : decode cX6_refuseFull 2 = .ok (.getfield 255, 3) := by decide +kernel
theorem dX6_refuseFull_5 : decode cX6_refuseFull 5 = .ok (.iconst 1, 1) := by decide +kernel
theorem dX6_refuseFull_6 : decode cX6_refuseFull 6 = .ok (.iadd, 1) := by decide +kernel
theorem dX6_refuseFull_7 : decode cX6_refuseFull 7 = .ok (.putfield 255, 3) := by decide +kernel
theorem dX6_refuseFull_10 : decode cX6_refuseFull 10 = .ok (.bipush (-4), 2) := by decide +kernel
theorem dX6_refuseFull_12 : decode cX6_refuseFull 12 = .ok (.ireturn, 1) := by decide +kernel
theorem dX6_leaveState_0 : decode cX6_leaveState 0 = .ok (.aload_n 0, 1) := by decide +kernel
theorem dX6_leaveState_1 : decode cX6_leaveState 1 = .ok (.getfield 22, 3) := by decide +kernel
theorem dX6_leaveState_4 : decode cX6_leaveState 4 = .ok (.aload_n 0, 1) := by decide +kernel
theorem dX6_leaveState_5 : decode cX6_leaveState 5 = .ok (.getfield 12, 3) := by decide +kernel
theorem dX6_leaveState_8 : decode cX6_leaveState 8 = .ok (.invokevirtual 258, 3) := by decide +kernel
theorem dX6_leaveState_11 : decode cX6_leaveState 11 = .ok (.aload_n 0, 1) := by decide +kernel
theorem dX6_leaveState_12 : decode cX6_leaveState 12 = .ok (.invokevirtual 232, 3) := by decide +kernel
theorem dX6_leaveState_15 : decode cX6_leaveState 15 = .ok (.return_, 1) := by decide +kernel
theorem dX6_forgetCrystal_0 : decode cX6_forgetCrystal 0 = .ok (.aload_n 0, 1) := by decide +kernel
theorem dX6_forgetCrystal_1 : decode cX6_forgetCrystal 1 = .ok (.iconst 0, 1) := by decide +kernel
theorem dX6_forgetCrystal_2 : decode cX6_forgetCrystal 2 = .ok (.putfield 261, 3) := by decide +kernel
theorem dX6_forgetCrystal_5 : decode cX6_forgetCrystal 5 = .ok (.aload_n 0, 1) := by decide +kernel
theorem dX6_forgetCrystal_6 : decode cX6_forgetCrystal 6 = .ok (.iconst 0, 1) := by decide +kernel
theorem dX6_forgetCrystal_7 : decode cX6_forgetCrystal 7 = .ok (.putfield 197, 3) := by decide +kernel
theorem dX6_forgetCrystal_10 : decode cX6_forgetCrystal 10 = .ok (.return_, 1) := by decide +kernel
theorem dX6_crystal_0 : decode cX6_crystal 0 = .ok (.aload_n 0, 1) := by decide +kernel
theorem dX6_crystal_1 : decode cX6_crystal 1 = .ok (.getfield 261, 3) := by decide +kernel
theorem dX6_crystal_4 : decode cX6_crystal 4 = .ok (.ifCond .ne 31, 3) := by decide +kernel
theorem dX6_crystal_7 : decode cX6_crystal 7 = .ok (.aload_n 0, 1) := by decide +kernel
theorem dX6_crystal_8 : decode cX6_crystal 8 = .ok (.getfield 29, 3) := by decide +kernel
theorem dX6_crystal_11 : decode cX6_crystal 11 = .ok (.aload_n 0, 1) := by decide +kernel
theorem dX6_crystal_12 : decode cX6_crystal 12 = .ok (.getfield 12, 3) := by decide +kernel
theorem dX6_crystal_15 : decode cX6_crystal 15 = .ok (.iconst (-1), 1) := by decide +kernel
theorem dX6_crystal_16 : decode cX6_crystal 16 = .ok (.invokevirtual 264, 3) := by decide +kernel
theorem dX6_crystal_19 : decode cX6_crystal 19 = .ok (.aload_n 0, 1) := by decide +kernel
theorem dX6_crystal_20 : decode cX6_crystal 20 = .ok (.getfield 29, 3) := by decide +kernel
theorem dX6_crystal_23 : decode cX6_crystal 23 = .ok (.aload_n 0, 1) := by decide +kernel
theorem dX6_crystal_24 : decode cX6_crystal 24 = .ok (.getfield 12, 3) := by decide +kernel
theorem dX6_crystal_27 : decode cX6_crystal 27 = .ok (.invokevirtual 268, 3) := by decide +kernel
theorem dX6_crystal_30 : decode cX6_crystal 30 = .ok (.aload_n 0, 1) := by decide +kernel
theorem dX6_crystal_31 : decode cX6_crystal 31 = .ok (.iconst 1, 1) := by decide +kernel
theorem dX6_crystal_32 : decode cX6_crystal 32 = .ok (.putfield 261, 3) := by decide +kernel
theorem dX6_crystal_35 : decode cX6_crystal 35 = .ok (.aload_n 0, 1) := by decide +kernel
theorem dX6_crystal_36 : decode cX6_crystal 36 = .ok (.getfield 29, 3) := by decide +kernel
theorem dX6_crystal_39 : decode cX6_crystal 39 = .ok (.areturn, 1) := by decide +kernel
theorem dX6_putDrawn_0 : decode cX6_putDrawn 0 = .ok (.lload_n 1, 1) := by decide +kernel
theorem dX6_putDrawn_1 : decode cX6_putDrawn 1 = .ok (.ldc2_w 271, 3) := by decide +kernel
theorem dX6_putDrawn_4 : decode cX6_putDrawn 4 = .ok (.ldiv, 1) := by decide +kernel
theorem dX6_putDrawn_5 : decode cX6_putDrawn 5 = .ok (.ldc2_w 273, 3) := by decide +kernel
theorem dX6_putDrawn_8 : decode cX6_putDrawn 8 = .ok (.lrem, 1) := by decide +kernel
theorem dX6_putDrawn_9 : decode cX6_putDrawn 9 = .ok (.l2i, 1) := by decide +kernel
theorem dX6_putDrawn_10 : decode cX6_putDrawn 10 = .ok (.iconst 3, 1) := by decide +kernel
theorem dX6_putDrawn_11 : decode cX6_putDrawn 11 = .ok (.isub, 1) := by decide +kernel
theorem dX6_putDrawn_12 : decode cX6_putDrawn 12 = .ok (.istore_n 3, 1) := by decide +kernel
theorem dX6_putDrawn_13 : decode cX6_putDrawn 13 = .ok (.lload_n 1, 1) := by decide +kernel
theorem dX6_putDrawn_14 : decode cX6_putDrawn 14 = .ok (.ldc2_w 275, 3) := by decide +kernel
theorem dX6_putDrawn_17 : decode cX6_putDrawn 17 = .ok (.ldiv, 1) := by decide +kernel
theorem dX6_putDrawn_18 : decode cX6_putDrawn 18 = .ok (.ldc2_w 273, 3) := by decide +kernel
theorem dX6_putDrawn_21 : decode cX6_putDrawn 21 = .ok (.lrem, 1) := by decide +kernel
theorem dX6_putDrawn_22 : decode cX6_putDrawn 22 = .ok (.l2i, 1) := by decide +kernel
theorem dX6_putDrawn_23 : decode cX6_putDrawn 23 = .ok (.iconst 3, 1) := by decide +kernel
theorem dX6_putDrawn_24 : decode cX6_putDrawn 24 = .ok (.isub, 1) := by decide +kernel
theorem dX6_putDrawn_25 : decode cX6_putDrawn 25 = .ok (.istore 4, 2) := by decide +kernel
theorem dX6_putDrawn_27 : decode cX6_putDrawn 27 = .ok (.lload_n 1, 1) := by decide +kernel
theorem dX6_putDrawn_28 : decode cX6_putDrawn 28 = .ok (.ldc2_w 277, 3) := by decide +kernel
theorem dX6_putDrawn_31 : decode cX6_putDrawn 31 = .ok (.ldiv, 1) := by decide +kernel
theorem dX6_putDrawn_32 : decode cX6_putDrawn 32 = .ok (.ldc2_w 273, 3) := by decide +kernel
theorem dX6_putDrawn_35 : decode cX6_putDrawn 35 = .ok (.lrem, 1) := by decide +kernel
theorem dX6_putDrawn_36 : decode cX6_putDrawn 36 = .ok (.l2i, 1) := by decide +kernel
theorem dX6_putDrawn_37 : decode cX6_putDrawn 37 = .ok (.iconst 3, 1) := by decide +kernel
theorem dX6_putDrawn_38 : decode cX6_putDrawn 38 = .ok (.isub, 1) := by decide +kernel
theorem dX6_putDrawn_39 : decode cX6_putDrawn 39 = .ok (.istore 5, 2) := by decide +kernel
theorem dX6_putDrawn_41 : decode cX6_putDrawn 41 = .ok (.iload_n 3, 1) := by decide +kernel
theorem dX6_putDrawn_42 : decode cX6_putDrawn 42 = .ok (.ifCond .ne 15, 3) := by decide +kernel
theorem dX6_putDrawn_45 : decode cX6_putDrawn 45 = .ok (.iload 4, 2) := by decide +kernel
theorem dX6_putDrawn_47 : decode cX6_putDrawn 47 = .ok (.ifCond .ne 10, 3) := by decide +kernel
theorem dX6_putDrawn_50 : decode cX6_putDrawn 50 = .ok (.iload 5, 2) := by decide +kernel
theorem dX6_putDrawn_52 : decode cX6_putDrawn 52 = .ok (.ifCond .ne 5, 3) := by decide +kernel
theorem dX6_putDrawn_55 : decode cX6_putDrawn 55 = .ok (.iconst 1, 1) := by decide +kernel
theorem dX6_putDrawn_56 : decode cX6_putDrawn 56 = .ok (.istore_n 3, 1) := by decide +kernel
theorem dX6_putDrawn_57 : decode cX6_putDrawn 57 = .ok (.aload_n 0, 1) := by decide +kernel
theorem dX6_putDrawn_58 : decode cX6_putDrawn 58 = .ok (.getfield 12, 3) := by decide +kernel
theorem dX6_putDrawn_61 : decode cX6_putDrawn 61 = .ok (.iload_n 3, 1) := by decide +kernel
theorem dX6_putDrawn_62 : decode cX6_putDrawn 62 = .ok (.iload 4, 2) := by decide +kernel
theorem dX6_putDrawn_64 : decode cX6_putDrawn 64 = .ok (.iload 5, 2) := by decide +kernel
theorem dX6_putDrawn_66 : decode cX6_putDrawn 66 = .ok (.bipush 10, 2) := by decide +kernel
theorem dX6_putDrawn_68 : decode cX6_putDrawn 68 = .ok (.lload_n 1, 1) := by decide +kernel
theorem dX6_putDrawn_69 : decode cX6_putDrawn 69 = .ok (.ldc2_w 279, 3) := by decide +kernel
theorem dX6_putDrawn_72 : decode cX6_putDrawn 72 = .ok (.ldiv, 1) := by decide +kernel
theorem dX6_putDrawn_73 : decode cX6_putDrawn 73 = .ok (.ldc2_w 240, 3) := by decide +kernel
theorem dX6_putDrawn_76 : decode cX6_putDrawn 76 = .ok (.lrem, 1) := by decide +kernel
theorem dX6_putDrawn_77 : decode cX6_putDrawn 77 = .ok (.l2i, 1) := by decide +kernel
theorem dX6_putDrawn_78 : decode cX6_putDrawn 78 = .ok (.iadd, 1) := by decide +kernel
theorem dX6_putDrawn_79 : decode cX6_putDrawn 79 = .ok (.invokevirtual 79, 3) := by decide +kernel
theorem dX6_putDrawn_82 : decode cX6_putDrawn 82 = .ok (.return_, 1) := by decide +kernel
theorem dX6_ofPlane_0 : decode cX6_ofPlane 0 = .ok (.iload_n 2, 1) := by decide +kernel
theorem dX6_ofPlane_1 : decode cX6_ofPlane 1 = .ok (.tableswitch 106 0 5 #[39, 49, 59, 69, 79, 96], 39) := by decide +kernel
theorem dX6_ofPlane_40 : decode cX6_ofPlane 40 = .ok (.aload_n 0, 1) := by decide +kernel
theorem dX6_ofPlane_41 : decode cX6_ofPlane 41 = .ok (.getfield 12, 3) := by decide +kernel
theorem dX6_ofPlane_44 : decode cX6_ofPlane 44 = .ok (.getfield 281, 3) := by decide +kernel
theorem dX6_ofPlane_47 : decode cX6_ofPlane 47 = .ok (.iload_n 1, 1) := by decide +kernel
theorem dX6_ofPlane_48 : decode cX6_ofPlane 48 = .ok (.iaload, 1) := by decide +kernel
theorem dX6_ofPlane_49 : decode cX6_ofPlane 49 = .ok (.ireturn, 1) := by decide +kernel
theorem dX6_ofPlane_50 : decode cX6_ofPlane 50 = .ok (.aload_n 0, 1) := by decide +kernel
theorem dX6_ofPlane_51 : decode cX6_ofPlane 51 = .ok (.getfield 12, 3) := by decide +kernel
theorem dX6_ofPlane_54 : decode cX6_ofPlane 54 = .ok (.getfield 284, 3) := by decide +kernel
theorem dX6_ofPlane_57 : decode cX6_ofPlane 57 = .ok (.iload_n 1, 1) := by decide +kernel
theorem dX6_ofPlane_58 : decode cX6_ofPlane 58 = .ok (.iaload, 1) := by decide +kernel
theorem dX6_ofPlane_59 : decode cX6_ofPlane 59 = .ok (.ireturn, 1) := by decide +kernel
theorem dX6_ofPlane_60 : decode cX6_ofPlane 60 = .ok (.aload_n 0, 1) := by decide +kernel
theorem dX6_ofPlane_61 : decode cX6_ofPlane 61 = .ok (.getfield 12, 3) := by decide +kernel
theorem dX6_ofPlane_64 : decode cX6_ofPlane 64 = .ok (.getfield 287, 3) := by decide +kernel
theorem dX6_ofPlane_67 : decode cX6_ofPlane 67 = .ok (.iload_n 1, 1) := by decide +kernel
theorem dX6_ofPlane_68 : decode cX6_ofPlane 68 = .ok (.iaload, 1) := by decide +kernel
theorem dX6_ofPlane_69 : decode cX6_ofPlane 69 = .ok (.ireturn, 1) := by decide +kernel
theorem dX6_ofPlane_70 : decode cX6_ofPlane 70 = .ok (.aload_n 0, 1) := by decide +kernel
theorem dX6_ofPlane_71 : decode cX6_ofPlane 71 = .ok (.getfield 12, 3) := by decide +kernel
theorem dX6_ofPlane_74 : decode cX6_ofPlane 74 = .ok (.getfield 97, 3) := by decide +kernel
theorem dX6_ofPlane_77 : decode cX6_ofPlane 77 = .ok (.iload_n 1, 1) := by decide +kernel
theorem dX6_ofPlane_78 : decode cX6_ofPlane 78 = .ok (.iaload, 1) := by decide +kernel
theorem dX6_ofPlane_79 : decode cX6_ofPlane 79 = .ok (.ireturn, 1) := by decide +kernel
theorem dX6_ofPlane_80 : decode cX6_ofPlane 80 = .ok (.aload_n 0, 1) := by decide +kernel
theorem dX6_ofPlane_81 : decode cX6_ofPlane 81 = .ok (.invokevirtual 116, 3) := by decide +kernel
theorem dX6_ofPlane_84 : decode cX6_ofPlane 84 = .ok (.iload_n 1, 1) := by decide +kernel
theorem dX6_ofPlane_85 : decode cX6_ofPlane 85 = .ok (.invokevirtual 171, 3) := by decide +kernel
theorem dX6_ofPlane_88 : decode cX6_ofPlane 88 = .ok (.ifCond .eq 7, 3) := by decide +kernel
theorem dX6_ofPlane_91 : decode cX6_ofPlane 91 = .ok (.iconst 1, 1) := by decide +kernel
theorem dX6_ofPlane_92 : decode cX6_ofPlane 92 = .ok (.goto 4, 3) := by decide +kernel
theorem dX6_ofPlane_95 : decode cX6_ofPlane 95 = .ok (.iconst 0, 1) := by decide +kernel
theorem dX6_ofPlane_96 : decode cX6_ofPlane 96 = .ok (.ireturn, 1) := by decide +kernel
theorem dX6_ofPlane_97 : decode cX6_ofPlane 97 = .ok (.aload_n 0, 1) := by decide +kernel
theorem dX6_ofPlane_98 : decode cX6_ofPlane 98 = .ok (.invokevirtual 116, 3) := by decide +kernel
theorem dX6_ofPlane_101 : decode cX6_ofPlane 101 = .ok (.getfield 290, 3) := by decide +kernel
theorem dX6_ofPlane_104 : decode cX6_ofPlane 104 = .ok (.iload_n 1, 1) := by decide +kernel
theorem dX6_ofPlane_105 : decode cX6_ofPlane 105 = .ok (.iaload, 1) := by decide +kernel
theorem dX6_ofPlane_106 : decode cX6_ofPlane 106 = .ok (.ireturn, 1) := by decide +kernel
theorem dX6_ofPlane_107 : decode cX6_ofPlane 107 = .ok (.aload_n 0, 1) := by decide +kernel
theorem dX6_ofPlane_108 : decode cX6_ofPlane 108 = .ok (.invokevirtual 116, 3) := by decide +kernel
theorem dX6_ofPlane_111 : decode cX6_ofPlane 111 = .ok (.iload_n 1, 1) := by decide +kernel
theorem dX6_ofPlane_112 : decode cX6_ofPlane 112 = .ok (.invokevirtual 293, 3) := by decide +kernel
theorem dX6_ofPlane_115 : decode cX6_ofPlane 115 = .ok (.ireturn, 1) := by decide +kernel
theorem dX6_howMany_0 : decode cX6_howMany 0 = .ok (.iload_n 1, 1) := by decide +kernel
theorem dX6_howMany_1 : decode cX6_howMany 1 = .ok (.tableswitch 66 0 4 #[35, 40, 45, 50, 58], 35) := by decide +kernel
theorem dX6_howMany_36 : decode cX6_howMany 36 = .ok (.aload_n 0, 1) := by decide +kernel
theorem dX6_howMany_37 : decode cX6_howMany 37 = .ok (.getfield 249, 3) := by decide +kernel
theorem dX6_howMany_40 : decode cX6_howMany 40 = .ok (.ireturn, 1) := by decide +kernel
theorem dX6_howMany_41 : decode cX6_howMany 41 = .ok (.aload_n 0, 1) := by decide +kernel
theorem dX6_howMany_42 : decode cX6_howMany 42 = .ok (.getfield 252, 3) := by decide +kernel
theorem dX6_howMany_45 : decode cX6_howMany 45 = .ok (.ireturn, 1) := by decide +kernel
theorem dX6_howMany_46 : decode cX6_howMany 46 = .ok (.aload_n 0, 1) := by decide +kernel
theorem dX6_howMany_47 : decode cX6_howMany 47 = .ok (.getfield 255, 3) := by decide +kernel
theorem dX6_howMany_50 : decode cX6_howMany 50 = .ok (.ireturn, 1) := by decide +kernel
theorem dX6_howMany_51 : decode cX6_howMany 51 = .ok (.aload_n 0, 1) := by decide +kernel
theorem dX6_howMany_52 : decode cX6_howMany 52 = .ok (.getfield 46, 3) := by decide +kernel
theorem dX6_howMany_55 : decode cX6_howMany 55 = .ok (.getfield 210, 3) := by decide +kernel
theorem dX6_howMany_58 : decode cX6_howMany 58 = .ok (.ireturn, 1) := by decide +kernel
theorem dX6_howMany_59 : decode cX6_howMany 59 = .ok (.aload_n 0, 1) := by decide +kernel
theorem dX6_howMany_60 : decode cX6_howMany 60 = .ok (.getfield 12, 3) := by decide +kernel
theorem dX6_howMany_63 : decode cX6_howMany 63 = .ok (.getfield 69, 3) := by decide +kernel
theorem dX6_howMany_66 : decode cX6_howMany 66 = .ok (.ireturn, 1) := by decide +kernel
theorem dX6_howMany_67 : decode cX6_howMany 67 = .ok (.aload_n 0, 1) := by decide +kernel
theorem dX6_howMany_68 : decode cX6_howMany 68 = .ok (.getfield 22, 3) := by decide +kernel
theorem dX6_howMany_71 : decode cX6_howMany 71 = .ok (.getfield 228, 3) := by decide +kernel
theorem dX6_howMany_74 : decode cX6_howMany 74 = .ok (.ireturn, 1) := by decide +kernel
theorem dX6_setFraction_0 : decode cX6_setFraction 0 = .ok (.iload_n 1, 1) := by decide +kernel
theorem dX6_setFraction_1 : decode cX6_setFraction 1 = .ok (.iload_n 2, 1) := by decide +kernel
theorem dX6_setFraction_2 : decode cX6_setFraction 2 = .ok (.invokestatic 296, 3) := by decide +kernel
theorem dX6_setFraction_5 : decode cX6_setFraction 5 = .ok (.istore_n 3, 1) := by decide +kernel
theorem dX6_setFraction_6 : decode cX6_setFraction 6 = .ok (.iload_n 3, 1) := by decide +kernel
theorem dX6_setFraction_7 : decode cX6_setFraction 7 = .ok (.ifCond .le 17, 3) := by decide +kernel
theorem dX6_setFraction_10 : decode cX6_setFraction 10 = .ok (.aload_n 0, 1) := by decide +kernel
theorem dX6_setFraction_11 : decode cX6_setFraction 11 = .ok (.iload_n 1, 1) := by decide +kernel
theorem dX6_setFraction_12 : decode cX6_setFraction 12 = .ok (.iload_n 3, 1) := by decide +kernel
theorem dX6_setFraction_13 : decode cX6_setFraction 13 = .ok (.idiv, 1) := by decide +kernel
theorem dX6_setFraction_14 : decode cX6_setFraction 14 = .ok (.putfield 165, 3) := by decide +kernel
theorem dX6_setFraction_17 : decode cX6_setFraction 17 = .ok (.aload_n 0, 1) := by decide +kernel
theorem dX6_setFraction_18 : decode cX6_setFraction 18 = .ok (.iload_n 2, 1) := by decide +kernel
theorem dX6_setFraction_19 : decode cX6_setFraction 19 = .ok (.iload_n 3, 1) := by decide +kernel
theorem dX6_setFraction_20 : decode cX6_setFraction 20 = .ok (.idiv, 1) := by decide +kernel
theorem dX6_setFraction_21 : decode cX6_setFraction 21 = .ok (.putfield 53, 3) := by decide +kernel
theorem dX6_setFraction_24 : decode cX6_setFraction 24 = .ok (.return_, 1) := by decide +kernel
theorem dX6_leastBeyond_0 : decode cX6_leastBeyond 0 = .ok (.iload_n 1, 1) := by decide +kernel
theorem dX6_leastBeyond_1 : decode cX6_leastBeyond 1 = .ok (.ifCond .le 11, 3) := by decide +kernel
theorem dX6_leastBeyond_4 : decode cX6_leastBeyond 4 = .ok (.iload_n 0, 1) := by decide +kernel
theorem dX6_leastBeyond_5 : decode cX6_leastBeyond 5 = .ok (.iload_n 1, 1) := by decide +kernel
theorem dX6_leastBeyond_6 : decode cX6_leastBeyond 6 = .ok (.idiv, 1) := by decide +kernel
theorem dX6_leastBeyond_7 : decode cX6_leastBeyond 7 = .ok (.iconst 1, 1) := by decide +kernel
theorem dX6_leastBeyond_8 : decode cX6_leastBeyond 8 = .ok (.iadd, 1) := by decide +kernel
theorem dX6_leastBeyond_9 : decode cX6_leastBeyond 9 = .ok (.goto 5, 3) := by decide +kernel
theorem dX6_leastBeyond_12 : decode cX6_leastBeyond 12 = .ok (.bipush 61, 2) := by decide +kernel
theorem dX6_leastBeyond_14 : decode cX6_leastBeyond 14 = .ok (.istore_n 2, 1) := by decide +kernel
theorem dX6_leastBeyond_15 : decode cX6_leastBeyond 15 = .ok (.iload_n 2, 1) := by decide +kernel
theorem dX6_leastBeyond_16 : decode cX6_leastBeyond 16 = .ok (.bipush 60, 2) := by decide +kernel
theorem dX6_leastBeyond_18 : decode cX6_leastBeyond 18 = .ok (.if_icmp .gt 7, 3) := by decide +kernel
theorem dX6_leastBeyond_21 : decode cX6_leastBeyond 21 = .ok (.iload_n 2, 1) := by decide +kernel
theorem dX6_leastBeyond_22 : decode cX6_leastBeyond 22 = .ok (.goto 4, 3) := by decide +kernel
theorem dX6_leastBeyond_25 : decode cX6_leastBeyond 25 = .ok (.iconst (-1), 1) := by decide +kernel
theorem dX6_leastBeyond_26 : decode cX6_leastBeyond 26 = .ok (.ireturn, 1) := by decide +kernel
theorem dX6_offsWithin_0 : decode cX6_offsWithin 0 = .ok (.iload_n 1, 1) := by decide +kernel
theorem dX6_offsWithin_1 : decode cX6_offsWithin 1 = .ok (.ifCond .le 16, 3) := by decide +kernel
theorem dX6_offsWithin_4 : decode cX6_offsWithin 4 = .ok (.bipush 60, 2) := by decide +kernel
theorem dX6_offsWithin_6 : decode cX6_offsWithin 6 = .ok (.iload_n 0, 1) := by decide +kernel
theorem dX6_offsWithin_7 : decode cX6_offsWithin 7 = .ok (.iconst 1, 1) := by decide +kernel
theorem dX6_offsWithin_8 : decode cX6_offsWithin 8 = .ok (.isub, 1) := by decide +kernel
theorem dX6_offsWithin_9 : decode cX6_offsWithin 9 = .ok (.iload_n 1, 1) := by decide +kernel
theorem dX6_offsWithin_10 : decode cX6_offsWithin 10 = .ok (.idiv, 1) := by decide +kernel
theorem dX6_offsWithin_11 : decode cX6_offsWithin 11 = .ok (.invokestatic 299, 3) := by decide +kernel
theorem dX6_offsWithin_14 : decode cX6_offsWithin 14 = .ok (.goto 4, 3) := by decide +kernel
theorem dX6_offsWithin_17 : decode cX6_offsWithin 17 = .ok (.iconst 0, 1) := by decide +kernel
theorem dX6_offsWithin_18 : decode cX6_offsWithin 18 = .ok (.ireturn, 1) := by decide +kernel
theorem dX6_findSpare_0 : decode cX6_findSpare 0 = .ok (.aload_n 0, 1) := by decide +kernel
theorem dX6_findSpare_1 : decode cX6_findSpare 1 = .ok (.invokevirtual 116, 3) := by decide +kernel
theorem dX6_findSpare_4 : decode cX6_findSpare 4 = .ok (.astore_n 1, 1) := by decide +kernel
theorem dX6_findSpare_5 : decode cX6_findSpare 5 = .ok (.aload_n 0, 1) := by decide +kernel
theorem dX6_findSpare_6 : decode cX6_findSpare 6 = .ok (.iconst (-1), 1) := by decide +kernel
theorem dX6_findSpare_7 : decode cX6_findSpare 7 = .ok (.putfield 204, 3) := by decide +kernel
theorem dX6_findSpare_10 : decode cX6_findSpare 10 = .ok (.aload_n 0, 1) := by decide +kernel
theorem dX6_findSpare_11 : decode cX6_findSpare 11 = .ok (.iconst (-1), 1) := by decide +kernel
theorem dX6_findSpare_12 : decode cX6_findSpare 12 = .ok (.putfield 207, 3) := by decide +kernel
theorem dX6_findSpare_15 : decode cX6_findSpare 15 = .ok (.bipush 6, 2) := by decide +kernel
theorem dX6_findSpare_17 : decode cX6_findSpare 17 = .ok (.istore_n 2, 1) := by decide +kernel
theorem dX6_findSpare_18 : decode cX6_findSpare 18 = .ok (.iload_n 2, 1) := by decide +kernel
theorem dX6_findSpare_19 : decode cX6_findSpare 19 = .ok (.aload_n 0, 1) := by decide +kernel
theorem dX6_findSpare_20 : decode cX6_findSpare 20 = .ok (.getfield 12, 3) := by decide +kernel
theorem dX6_findSpare_23 : decode cX6_findSpare 23 = .ok (.getfield 69, 3) := by decide +kernel
theorem dX6_findSpare_26 : decode cX6_findSpare 26 = .ok (.if_icmp .ge 34, 3) := by decide +kernel
theorem dX6_findSpare_29 : decode cX6_findSpare 29 = .ok (.aload_n 0, 1) := by decide +kernel
theorem dX6_findSpare_30 : decode cX6_findSpare 30 = .ok (.iload_n 2, 1) := by decide +kernel
theorem dX6_findSpare_31 : decode cX6_findSpare 31 = .ok (.aload_n 1, 1) := by decide +kernel
theorem dX6_findSpare_32 : decode cX6_findSpare 32 = .ok (.invokevirtual 304, 3) := by decide +kernel
theorem dX6_findSpare_35 : decode cX6_findSpare 35 = .ok (.istore_n 3, 1) := by decide +kernel
theorem dX6_findSpare_36 : decode cX6_findSpare 36 = .ok (.iload_n 3, 1) := by decide +kernel
theorem dX6_findSpare_37 : decode cX6_findSpare 37 = .ok (.aload_n 0, 1) := by decide +kernel
theorem dX6_findSpare_38 : decode cX6_findSpare 38 = .ok (.getfield 207, 3) := by decide +kernel
theorem dX6_findSpare_41 : decode cX6_findSpare 41 = .ok (.if_icmp .le 13, 3) := by decide +kernel
theorem dX6_findSpare_44 : decode cX6_findSpare 44 = .ok (.aload_n 0, 1) := by decide +kernel
theorem dX6_findSpare_45 : decode cX6_findSpare 45 = .ok (.iload_n 3, 1) := by decide +kernel
theorem dX6_findSpare_46 : decode cX6_findSpare 46 = .ok (.putfield 207, 3) := by decide +kernel
theorem dX6_findSpare_49 : decode cX6_findSpare 49 = .ok (.aload_n 0, 1) := by decide +kernel
theorem dX6_findSpare_50 : decode cX6_findSpare 50 = .ok (.iload_n 2, 1) := by decide +kernel
theorem dX6_findSpare_51 : decode cX6_findSpare 51 = .ok (.putfield 204, 3) := by decide +kernel
theorem dX6_findSpare_54 : decode cX6_findSpare 54 = .ok (.iinc 2 1, 3) := by decide +kernel
theorem dX6_findSpare_57 : decode cX6_findSpare 57 = .ok (.goto (-39), 3) := by decide +kernel
theorem dX6_findSpare_60 : decode cX6_findSpare 60 = .ok (.aload_n 0, 1) := by decide +kernel
theorem dX6_findSpare_61 : decode cX6_findSpare 61 = .ok (.iconst 1, 1) := by decide +kernel
theorem dX6_findSpare_62 : decode cX6_findSpare 62 = .ok (.putfield 197, 3) := by decide +kernel
theorem dX6_findSpare_65 : decode cX6_findSpare 65 = .ok (.return_, 1) := by decide +kernel
theorem dX6_cornersWithout_0 : decode cX6_cornersWithout 0 = .ok (.aload_n 2, 1) := by decide +kernel
theorem dX6_cornersWithout_1 : decode cX6_cornersWithout 1 = .ok (.iload_n 1, 1) := by decide +kernel
theorem dX6_cornersWithout_2 : decode cX6_cornersWithout 2 = .ok (.invokevirtual 171, 3) := by decide +kernel
theorem dX6_cornersWithout_5 : decode cX6_cornersWithout 5 = .ok (.ifCond .ne 8, 3) := by decide +kernel
theorem dX6_cornersWithout_8 : decode cX6_cornersWithout 8 = .ok (.aload_n 2, 1) := by decide +kernel
theorem dX6_cornersWithout_9 : decode cX6_cornersWithout 9 = .ok (.getfield 120, 3) := by decide +kernel
theorem dX6_cornersWithout_12 : decode cX6_cornersWithout 12 = .ok (.ireturn, 1) := by decide +kernel
theorem dX6_cornersWithout_13 : decode cX6_cornersWithout 13 = .ok (.aload_n 0, 1) := by decide +kernel
theorem dX6_cornersWithout_14 : decode cX6_cornersWithout 14 = .ok (.getfield 33, 3) := by decide +kernel
theorem dX6_cornersWithout_17 : decode cX6_cornersWithout 17 = .ok (.aload_n 0, 1) := by decide +kernel
theorem dX6_cornersWithout_18 : decode cX6_cornersWithout 18 = .ok (.getfield 12, 3) := by decide +kernel
theorem dX6_cornersWithout_21 : decode cX6_cornersWithout 21 = .ok (.iload_n 1, 1) := by decide +kernel
theorem dX6_cornersWithout_22 : decode cX6_cornersWithout 22 = .ok (.invokevirtual 264, 3) := by decide +kernel
theorem dX6_cornersWithout_25 : decode cX6_cornersWithout 25 = .ok (.aload_n 0, 1) := by decide +kernel
theorem dX6_cornersWithout_26 : decode cX6_cornersWithout 26 = .ok (.getfield 33, 3) := by decide +kernel
theorem dX6_cornersWithout_29 : decode cX6_cornersWithout 29 = .ok (.getfield 120, 3) := by decide +kernel
theorem dX6_cornersWithout_32 : decode cX6_cornersWithout 32 = .ok (.ireturn, 1) := by decide +kernel
theorem dX6_turned_0 : decode cX6_turned 0 = .ok (.iconst 3, 1) := by decide +kernel
theorem dX6_turned_1 : decode cX6_turned 1 = .ok (.iload_n 0, 1) := by decide +kernel
theorem dX6_turned_2 : decode cX6_turned 2 = .ok (.imul, 1) := by decide +kernel
theorem dX6_turned_3 : decode cX6_turned 3 = .ok (.iload_n 1, 1) := by decide +kernel
theorem dX6_turned_4 : decode cX6_turned 4 = .ok (.iadd, 1) := by decide +kernel
theorem dX6_turned_5 : decode cX6_turned 5 = .ok (.istore 5, 2) := by decide +kernel
theorem dX6_turned_7 : decode cX6_turned 7 = .ok (.iload 5, 2) := by decide +kernel
theorem dX6_turned_9 : decode cX6_turned 9 = .ok (.ifCond .lt 12, 3) := by decide +kernel
theorem dX6_turned_12 : decode cX6_turned 12 = .ok (.iload 5, 2) := by decide +kernel
theorem dX6_turned_14 : decode cX6_turned 14 = .ok (.getstatic 308, 3) := by decide +kernel
theorem dX6_turned_17 : decode cX6_turned 17 = .ok (.arraylength, 1) := by decide +kernel
theorem dX6_turned_18 : decode cX6_turned 18 = .ok (.if_icmp .lt 5, 3) := by decide +kernel
theorem dX6_turned_21 : decode cX6_turned 21 = .ok (.iconst 0, 1) := by decide +kernel
theorem dX6_turned_22 : decode cX6_turned 22 = .ok (.ireturn, 1) := by decide +kernel
theorem dX6_turned_23 : decode cX6_turned 23 = .ok (.getstatic 308, 3) := by decide +kernel
theorem dX6_turned_26 : decode cX6_turned 26 = .ok (.iload 5, 2) := by decide +kernel
theorem dX6_turned_28 : decode cX6_turned 28 = .ok (.iaload, 1) := by decide +kernel
theorem dX6_turned_29 : decode cX6_turned 29 = .ok (.istore 6, 2) := by decide +kernel
theorem dX6_turned_31 : decode cX6_turned 31 = .ok (.iload 6, 2) := by decide +kernel
theorem dX6_turned_33 : decode cX6_turned 33 = .ok (.ifCond .ne 7, 3) := by decide +kernel
theorem dX6_turned_36 : decode cX6_turned 36 = .ok (.iload_n 2, 1) := by decide +kernel
theorem dX6_turned_37 : decode cX6_turned 37 = .ok (.goto 15, 3) := by decide +kernel
theorem dX6_turned_40 : decode cX6_turned 40 = .ok (.iload 6, 2) := by decide +kernel
theorem dX6_turned_42 : decode cX6_turned 42 = .ok (.iconst 1, 1) := by decide +kernel
theorem dX6_turned_43 : decode cX6_turned 43 = .ok (.if_icmp .ne 7, 3) := by decide +kernel
theorem dX6_turned_46 : decode cX6_turned 46 = .ok (.iload_n 3, 1) := by decide +kernel
theorem dX6_turned_47 : decode cX6_turned 47 = .ok (.goto 5, 3) := by decide +kernel
theorem dX6_turned_50 : decode cX6_turned 50 = .ok (.iload 4, 2) := by decide +kernel
theorem dX6_turned_52 : decode cX6_turned 52 = .ok (.istore 7, 2) := by decide +kernel
theorem dX6_turned_54 : decode cX6_turned 54 = .ok (.getstatic 311, 3) := by decide +kernel
theorem dX6_turned_57 : decode cX6_turned 57 = .ok (.iload 5, 2) := by decide +kernel
theorem dX6_turned_59 : decode cX6_turned 59 = .ok (.iaload, 1) := by decide +kernel
theorem dX6_turned_60 : decode cX6_turned 60 = .ok (.iload 7, 2) := by decide +kernel
theorem dX6_turned_62 : decode cX6_turned 62 = .ok (.imul, 1) := by decide +kernel
theorem dX6_turned_63 : decode cX6_turned 63 = .ok (.ireturn, 1) := by decide +kernel
theorem dX6_commonDivisor_0 : decode cX6_commonDivisor 0 = .ok (.iload_n 0, 1) := by decide +kernel
theorem dX6_commonDivisor_1 : decode cX6_commonDivisor 1 = .ok (.invokestatic 314, 3) := by decide +kernel
theorem dX6_commonDivisor_4 : decode cX6_commonDivisor 4 = .ok (.istore_n 2, 1) := by decide +kernel
theorem dX6_commonDivisor_5 : decode cX6_commonDivisor 5 = .ok (.iload_n 1, 1) := by decide +kernel
theorem dX6_commonDivisor_6 : decode cX6_commonDivisor 6 = .ok (.invokestatic 314, 3) := by decide +kernel
theorem dX6_commonDivisor_9 : decode cX6_commonDivisor 9 = .ok (.istore_n 3, 1) := by decide +kernel
theorem dX6_commonDivisor_10 : decode cX6_commonDivisor 10 = .ok (.iconst 0, 1) := by decide +kernel
theorem dX6_commonDivisor_11 : decode cX6_commonDivisor 11 = .ok (.istore 4, 2) := by decide +kernel
theorem dX6_commonDivisor_13 : decode cX6_commonDivisor 13 = .ok (.iload 4, 2) := by decide +kernel
theorem dX6_commonDivisor_15 : decode cX6_commonDivisor 15 = .ok (.bipush 64, 2) := by decide +kernel
theorem dX6_commonDivisor_17 : decode cX6_commonDivisor 17 = .ok (.if_icmp .ge 23, 3) := by decide +kernel
theorem dX6_commonDivisor_20 : decode cX6_commonDivisor 20 = .ok (.iload_n 3, 1) := by decide +kernel
theorem dX6_commonDivisor_21 : decode cX6_commonDivisor 21 = .ok (.ifCond .eq 19, 3) := by decide +kernel
theorem dX6_commonDivisor_24 : decode cX6_commonDivisor 24 = .ok (.iload_n 2, 1) := by decide +kernel
theorem dX6_commonDivisor_25 : decode cX6_commonDivisor 25 = .ok (.iload_n 3, 1) := by decide +kernel
theorem dX6_commonDivisor_26 : decode cX6_commonDivisor 26 = .ok (.irem, 1) := by decide +kernel
theorem dX6_commonDivisor_27 : decode cX6_commonDivisor 27 = .ok (.istore 5, 2) := by decide +kernel
theorem dX6_commonDivisor_29 : decode cX6_commonDivisor 29 = .ok (.iload_n 3, 1) := by decide +kernel
theorem dX6_commonDivisor_30 : decode cX6_commonDivisor 30 = .ok (.istore_n 2, 1) := by decide +kernel
theorem dX6_commonDivisor_31 : decode cX6_commonDivisor 31 = .ok (.iload 5, 2) := by decide +kernel
theorem dX6_commonDivisor_33 : decode cX6_commonDivisor 33 = .ok (.istore_n 3, 1) := by decide +kernel
theorem dX6_commonDivisor_34 : decode cX6_commonDivisor 34 = .ok (.iinc 4 1, 3) := by decide +kernel
theorem dX6_commonDivisor_37 : decode cX6_commonDivisor 37 = .ok (.goto (-24), 3) := by decide +kernel
theorem dX6_commonDivisor_40 : decode cX6_commonDivisor 40 = .ok (.iload_n 2, 1) := by decide +kernel
theorem dX6_commonDivisor_41 : decode cX6_commonDivisor 41 = .ok (.ireturn, 1) := by decide +kernel
theorem dX7_init_0 : decode cX7_init 0 = .ok (.aload_n 0, 1) := by decide +kernel
theorem dX7_init_1 : decode cX7_init 1 = .ok (.invokespecial 1, 3) := by decide +kernel
theorem dX7_init_4 : decode cX7_init 4 = .ok (.aload_n 0, 1) := by decide +kernel
theorem dX7_init_5 : decode cX7_init 5 = .ok (.sipush 129, 3) := by decide +kernel
theorem dX7_init_8 : decode cX7_init 8 = .ok (.newarray .int, 2) := by decide +kernel
theorem dX7_init_10 : decode cX7_init 10 = .ok (.putfield 7, 3) := by decide +kernel
theorem dX7_init_13 : decode cX7_init 13 = .ok (.aload_n 0, 1) := by decide +kernel
theorem dX7_init_14 : decode cX7_init 14 = .ok (.sipush 645, 3) := by decide +kernel
theorem dX7_init_17 : decode cX7_init 17 = .ok (.newarray .int, 2) := by decide +kernel
theorem dX7_init_19 : decode cX7_init 19 = .ok (.putfield 13, 3) := by decide +kernel
theorem dX7_init_22 : decode cX7_init 22 = .ok (.aload_n 0, 1) := by decide +kernel
theorem dX7_init_23 : decode cX7_init 23 = .ok (.sipush 129, 3) := by decide +kernel
theorem dX7_init_26 : decode cX7_init 26 = .ok (.newarray .int, 2) := by decide +kernel
theorem dX7_init_28 : decode cX7_init 28 = .ok (.putfield 16, 3) := by decide +kernel
theorem dX7_init_31 : decode cX7_init 31 = .ok (.aload_n 0, 1) := by decide +kernel
theorem dX7_init_32 : decode cX7_init 32 = .ok (.iconst 3, 1) := by decide +kernel
theorem dX7_init_33 : decode cX7_init 33 = .ok (.newarray .int, 2) := by decide +kernel
theorem dX7_init_35 : decode cX7_init 35 = .ok (.putfield 19, 3) := by decide +kernel
theorem dX7_init_38 : decode cX7_init 38 = .ok (.aload_n 0, 1) := by decide +kernel
theorem dX7_init_39 : decode cX7_init 39 = .ok (.bipush 120, 2) := by decide +kernel
theorem dX7_init_41 : decode cX7_init 41 = .ok (.newarray .int, 2) := by decide +kernel
theorem dX7_init_43 : decode cX7_init 43 = .ok (.putfield 22, 3) := by decide +kernel
theorem dX7_init_46 : decode cX7_init 46 = .ok (.aload_n 0, 1) := by decide +kernel
theorem dX7_init_47 : decode cX7_init 47 = .ok (.lconst 1, 1) := by decide +kernel
theorem dX7_init_48 : decode cX7_init 48 = .ok (.putfield 25, 3) := by decide +kernel
theorem dX7_init_51 : decode cX7_init 51 = .ok (.aload_n 0, 1) := by decide +kernel
theorem dX7_init_52 : decode cX7_init 52 = .ok (.sipush 320, 3) := by decide +kernel
theorem dX7_init_55 : decode cX7_init 55 = .ok (.newarray .int, 2) := by decide +kernel
theorem dX7_init_57 : decode cX7_init 57 = .ok (.putfield 29, 3) := by decide +kernel
theorem dX7_init_60 : decode cX7_init 60 = .ok (.aload_n 0, 1) := by decide +kernel
theorem dX7_init_61 : decode cX7_init 61 = .ok (.bipush 32, 2) := by decide +kernel
theorem dX7_init_63 : decode cX7_init 63 = .ok (.newarray .boolean, 2) := by decide +kernel
theorem dX7_init_65 : decode cX7_init 65 = .ok (.putfield 32, 3) := by decide +kernel
theorem dX7_init_68 : decode cX7_init 68 = .ok (.aload_n 0, 1) := by decide +kernel
theorem dX7_init_69 : decode cX7_init 69 = .ok (.sipush 343, 3) := by decide +kernel
theorem dX7_init_72 : decode cX7_init 72 = .ok (.newarray .boolean, 2) := by decide +kernel
theorem dX7_init_74 : decode cX7_init 74 = .ok (.putfield 36, 3) := by decide +kernel
theorem dX7_init_77 : decode cX7_init 77 = .ok (.aload_n 0, 1) := by decide +kernel
theorem dX7_init_78 : decode cX7_init 78 = .ok (.iconst 3, 1) := by decide +kernel
theorem dX7_init_79 : decode cX7_init 79 = .ok (.newarray .int, 2) := by decide +kernel
theorem dX7_init_81 : decode cX7_init 81 = .ok (.putfield 39, 3) := by decide +kernel
theorem dX7_init_84 : decode cX7_init 84 = .ok (.aload_n 0, 1) := by decide +kernel
theorem dX7_init_85 : decode cX7_init 85 = .ok (.iconst 3, 1) := by decide +kernel
theorem dX7_init_86 : decode cX7_init 86 = .ok (.newarray .int, 2) := by decide +kernel
theorem dX7_init_88 : decode cX7_init 88 = .ok (.putfield 42, 3) := by decide +kernel
theorem dX7_init_91 : decode cX7_init 91 = .ok (.aload_n 0, 1) := by decide +kernel
theorem dX7_init_92 : decode cX7_init 92 = .ok (.getfield 7, 3) := by decide +kernel
theorem dX7_init_95 : decode cX7_init 95 = .ok (.iconst 0, 1) := by decide +kernel
theorem dX7_init_96 : decode cX7_init 96 = .ok (.bipush 6, 2) := by decide +kernel
theorem dX7_init_98 : decode cX7_init 98 = .ok (.iastore, 1) := by decide +kernel
theorem dX7_init_99 : decode cX7_init 99 = .ok (.iconst 0, 1) := by decide +kernel
theorem dX7_init_100 : decode cX7_init 100 = .ok (.istore_n 1, 1) := by decide +kernel
theorem dX7_init_101 : decode cX7_init 101 = .ok (.iload_n 1, 1) := by decide +kernel
theorem dX7_init_102 : decode cX7_init 102 = .ok (.bipush 6, 2) := by decide +kernel
theorem dX7_init_104 : decode cX7_init 104 = .ok (.if_icmp .ge 68, 3) := by decide +kernel
theorem dX7_init_107 : decode cX7_init 107 = .ok (.iconst 0, 1) := by decide +kernel
theorem dX7_init_108 : decode cX7_init 108 = .ok (.istore_n 2, 1) := by decide +kernel
theorem dX7_init_109 : decode cX7_init 109 = .ok (.iload_n 2, 1) := by decide +kernel
theorem dX7_init_110 : decode cX7_init 110 = .ok (.iconst 3, 1) := by decide +kernel
theorem dX7_init_111 : decode cX7_init 111 = .ok (.if_icmp .ge 43, 3) := by decide +kernel
theorem dX7_init_114 : decode cX7_init 114 = .ok (.aload_n 0, 1) := by decide +kernel
theorem dX7_init_115 : decode cX7_init 115 = .ok (.getfield 7, 3) := by decide +kernel
theorem dX7_init_118 : decode cX7_init 118 = .ok (.iconst 1, 1) := by decide +kernel
theorem dX7_init_119 : decode cX7_init 119 = .ok (.iconst 4, 1) := by decide +kernel
theorem dX7_init_120 : decode cX7_init 120 = .ok (.iload_n 1, 1) := by decide +kernel
theorem dX7_init_121 : decode cX7_init 121 = .ok (.imul, 1) := by decide +kernel
theorem dX7_init_122 : decode cX7_init 122 = .ok (.iadd, 1) := by decide +kernel
theorem dX7_init_123 : decode cX7_init 123 = .ok (.iload_n 2, 1) := by decide +kernel
theorem dX7_init_124 : decode cX7_init 124 = .ok (.iadd, 1) := by decide +kernel
theorem dX7_init_125 : decode cX7_init 125 = .ok (.iload_n 1, 1) := by decide +kernel
theorem dX7_init_126 : decode cX7_init 126 = .ok (.iconst 2, 1) := by decide +kernel
theorem dX7_init_127 : decode cX7_init 127 = .ok (.idiv, 1) := by decide +kernel
theorem dX7_init_128 : decode cX7_init 128 = .ok (.iload_n 2, 1) := by decide +kernel
theorem dX7_init_129 : decode cX7_init 129 = .ok (.if_icmp .ne 17, 3) := by decide +kernel
theorem dX7_init_132 : decode cX7_init 132 = .ok (.iload_n 1, 1) := by decide +kernel
theorem dX7_init_133 : decode cX7_init 133 = .ok (.iconst 2, 1) := by decide +kernel
theorem dX7_init_134 : decode cX7_init 134 = .ok (.irem, 1) := by decide +kernel
theorem dX7_init_135 : decode cX7_init 135 = .ok (.ifCond .ne 7, 3) := by decide +kernel
theorem dX7_init_138 : decode cX7_init 138 = .ok (.iconst 1, 1) := by decide +kernel
theorem dX7_init_139 : decode cX7_init 139 = .ok (.goto 8, 3) := by decide +kernel
theorem dX7_init_142 : decode cX7_init 142 = .ok (.iconst (-1), 1) := by decide +kernel
theorem dX7_init_143 : decode cX7_init 143 = .ok (.goto 4, 3) := by decide +kernel
theorem dX7_init_146 : decode cX7_init 146 = .ok (.iconst 0, 1) := by decide +kernel
theorem dX7_init_147 : decode cX7_init 147 = .ok (.iastore, 1) := by decide +kernel
theorem dX7_init_148 : decode cX7_init 148 = .ok (.iinc 2 1, 3) := by decide +kernel
theorem dX7_init_151 : decode cX7_init 151 = .ok (.goto (-42), 3) := by decide +kernel
theorem dX7_init_154 : decode cX7_init 154 = .ok (.aload_n 0, 1) := by decide +kernel
theorem dX7_init_155 : decode cX7_init 155 = .ok (.getfield 7, 3) := by decide +kernel
theorem dX7_init_158 : decode cX7_init 158 = .ok (.iconst 4, 1) := by decide +kernel
theorem dX7_init_159 : decode cX7_init 159 = .ok (.iconst 4, 1) := by decide +kernel
theorem dX7_init_160 : decode cX7_init 160 = .ok (.iload_n 1, 1) := by decide +kernel
theorem dX7_init_161 : decode cX7_init 161 = .ok (.imul, 1) := by decide +kernel
theorem dX7_init_162 : decode cX7_init 162 = .ok (.iadd, 1) := by decide +kernel
theorem dX7_init_163 : decode cX7_init 163 = .ok (.bipush 20, 2) := by decide +kernel
theorem dX7_init_165 : decode cX7_init 165 = .ok (.iastore, 1) := by decide +kernel
theorem dX7_init_166 : decode cX7_init 166 = .ok (.iinc 1 1, 3) := by decide +kernel
theorem dX7_init_169 : decode cX7_init 169 = .ok (.goto (-68), 3) := by decide +kernel
theorem dX7_init_172 : decode cX7_init 172 = .ok (.return_, 1) := by decide +kernel
theorem dX7_in_0 : decode cX7_in 0 = .ok (.iload_n 0, 1) := by decide +kernel
theorem dX7_in_1 : decode cX7_in 1 = .ok (.iload_n 1, 1) := by decide +kernel
theorem dX7_in_2 : decode cX7_in 2 = .ok (.if_icmp .lt 12, 3) := by decide +kernel
theorem dX7_in_5 : decode cX7_in 5 = .ok (.iload_n 0, 1) := by decide +kernel
theorem dX7_in_6 : decode cX7_in 6 = .ok (.iload_n 2, 1) := by decide +kernel
theorem dX7_in_7 : decode cX7_in 7 = .ok (.if_icmp .gt 7, 3) := by decide +kernel
theorem dX7_in_10 : decode cX7_in 10 = .ok (.iconst 1, 1) := by decide +kernel
theorem dX7_in_11 : decode cX7_in 11 = .ok (.goto 4, 3) := by decide +kernel
theorem dX7_in_14 : decode cX7_in 14 = .ok (.iconst 0, 1) := by decide +kernel
theorem dX7_in_15 : decode cX7_in 15 = .ok (.ireturn, 1) := by decide +kernel
theorem dX7_refuses_0 : decode cX7_refuses 0 = .ok (.aload_n 0, 1) := by decide +kernel
theorem dX7_refuses_1 : decode cX7_refuses 1 = .ok (.getfield 19, 3) := by decide +kernel
theorem dX7_refuses_4 : decode cX7_refuses 4 = .ok (.bipush (-2), 2) := by decide +kernel
theorem dX7_refuses_6 : decode cX7_refuses 6 = .ok (.iload_n 1, 1) := by decide +kernel
theorem dX7_refuses_7 : decode cX7_refuses 7 = .ok (.isub, 1) := by decide +kernel
theorem dX7_refuses_8 : decode cX7_refuses 8 = .ok (.dup2, 1) := by decide +kernel
theorem dX7_refuses_9 : decode cX7_refuses 9 = .ok (.iaload, 1) := by decide +kernel
theorem dX7_refuses_10 : decode cX7_refuses 10 = .ok (.iconst 1, 1) := by decide +kernel
theorem dX7_refuses_11 : decode cX7_refuses 11 = .ok (.iadd, 1) := by decide +kernel
theorem dX7_refuses_12 : decode cX7_refuses 12 = .ok (.iastore, 1) := by decide +kernel
theorem dX7_refuses_13 : decode cX7_refuses 13 = .ok (.iload_n 1, 1) := by decide +kernel
theorem dX7_refuses_14 : decode cX7_refuses 14 = .ok (.ireturn, 1) := by decide +kernel
theorem dX7_bad_0 : decode cX7_bad 0 = .ok (.aload_n 0, 1) := by decide +kernel
theorem dX7_bad_1 : decode cX7_bad 1 = .ok (.getfield 19, 3) := by decide +kernel
theorem dX7_bad_4 : decode cX7_bad 4 = .ok (.iconst 0, 1) := by decide +kernel
theorem dX7_bad_5 : decode cX7_bad 5 = .ok (.dup2, 1) := by decide +kernel
theorem dX7_bad_6 : decode cX7_bad 6 = .ok (.iaload, 1) := by decide +kernel
theorem dX7_bad_7 : decode cX7_bad 7 = .ok (.iconst 1, 1) := by decide +kernel
theorem dX7_bad_8 : decode cX7_bad 8 = .ok (.iadd, 1) := by decide +kernel
theorem dX7_bad_9 : decode cX7_bad 9 = .ok (.iastore, 1) := by decide +kernel
theorem dX7_bad_10 : decode cX7_bad 10 = .ok (.iload_n 1, 1) := by decide +kernel
theorem dX7_bad_11 : decode cX7_bad 11 = .ok (.ireturn, 1) := by decide +kernel
theorem dX7_isPlane_0 : decode cX7_isPlane 0 = .ok (.iload_n 1, 1) := by decide +kernel
theorem dX7_isPlane_1 : decode cX7_isPlane 1 = .ok (.iconst 0, 1) := by decide +kernel
theorem dX7_isPlane_2 : decode cX7_isPlane 2 = .ok (.aload_n 0, 1) := by decide +kernel
theorem dX7_isPlane_3 : decode cX7_isPlane 3 = .ok (.getfield 7, 3) := by decide +kernel
theorem dX7_isPlane_6 : decode cX7_isPlane 6 = .ok (.iconst 0, 1) := by decide +kernel
theorem dX7_isPlane_7 : decode cX7_isPlane 7 = .ok (.iaload, 1) := by decide +kernel
theorem dX7_isPlane_8 : decode cX7_isPlane 8 = .ok (.iconst 1, 1) := by decide +kernel
theorem dX7_isPlane_9 : decode cX7_isPlane 9 = .ok (.isub, 1) := by decide +kernel
theorem dX7_isPlane_10 : decode cX7_isPlane 10 = .ok (.invokestatic 45, 3) := by decide +kernel
theorem dX7_isPlane_13 : decode cX7_isPlane 13 = .ok (.ireturn, 1) := by decide +kernel
theorem dX7_isSign_0 : decode cX7_isSign 0 = .ok (.iload_n 0, 1) := by decide +kernel
theorem dX7_isSign_1 : decode cX7_isSign 1 = .ok (.bipush (-3), 2) := by decide +kernel
theorem dX7_isSign_3 : decode cX7_isSign 3 = .ok (.iconst 3, 1) := by decide +kernel
theorem dX7_isSign_4 : decode cX7_isSign 4 = .ok (.invokestatic 45, 3) := by decide +kernel
theorem dX7_isSign_7 : decode cX7_isSign 7 = .ok (.ifCond .eq 39, 3) := by decide +kernel
theorem dX7_isSign_10 : decode cX7_isSign 10 = .ok (.iload_n 1, 1) := by decide +kernel
theorem dX7_isSign_11 : decode cX7_isSign 11 = .ok (.bipush (-3), 2) := by decide +kernel
theorem dX7_isSign_13 : decode cX7_isSign 13 = .ok (.iconst 3, 1) := by decide +kernel
theorem dX7_isSign_14 : decode cX7_isSign 14 = .ok (.invokestatic 45, 3) := by decide +kernel
theorem dX7_isSign_17 : decode cX7_isSign 17 = .ok (.ifCond .eq 29, 3) := by decide +kernel
theorem dX7_isSign_20 : decode cX7_isSign 20 = .ok (.iload_n 2, 1) := by decide +kernel
theorem dX7_isSign_21 : decode cX7_isSign 21 = .ok (.bipush (-3), 2) := by decide +kernel
theorem dX7_isSign_23 : decode cX7_isSign 23 = .ok (.iconst 3, 1) := by decide +kernel
theorem dX7_isSign_24 : decode cX7_isSign 24 = .ok (.invokestatic 45, 3) := by decide +kernel
theorem dX7_isSign_27 : decode cX7_isSign 27 = .ok (.ifCond .eq 19, 3) := by decide +kernel
theorem dX7_isSign_30 : decode cX7_isSign 30 = .ok (.iload_n 0, 1) := by decide +kernel
theorem dX7_isSign_31 : decode cX7_isSign 31 = .ok (.ifCond .ne 11, 3) := by decide +kernel
theorem dX7_isSign_34 : decode cX7_isSign 34 = .ok (.iload_n 1, 1) := by decide +kernel
theorem dX7_isSign_35 : decode cX7_isSign 35 = .ok (.ifCond .ne 7, 3) := by decide +kernel
theorem dX7_isSign_38 : decode cX7_isSign 38 = .ok (.iload_n 2, 1) := by decide +kernel
theorem dX7_isSign_39 : decode cX7_isSign 39 = .ok (.ifCond .eq 7, 3) := by decide +kernel
theorem dX7_isSign_42 : decode cX7_isSign 42 = .ok (.iconst 1, 1) := by decide +kernel
theorem dX7_isSign_43 : decode cX7_isSign 43 = .ok (.goto 4, 3) := by decide +kernel
theorem dX7_isSign_46 : decode cX7_isSign 46 = .ok (.iconst 0, 1) := by decide +kernel
theorem dX7_isSign_47 : decode cX7_isSign 47 = .ok (.ireturn, 1) := by decide +kernel
theorem dX7_get_0 : decode cX7_get 0 = .ok (.aload_n 0, 1) := by decide +kernel
theorem dX7_get_1 : decode cX7_get 1 = .ok (.getfield 7, 3) := by decide +kernel
theorem dX7_get_4 : decode cX7_get 4 = .ok (.iconst 1, 1) := by decide +kernel
theorem dX7_get_5 : decode cX7_get 5 = .ok (.iconst 4, 1) := by decide +kernel
theorem dX7_get_6 : decode cX7_get 6 = .ok (.iload_n 1, 1) := by decide +kernel
theorem dX7_get_7 : decode cX7_get 7 = .ok (.imul, 1) := by decide +kernel
theorem dX7_get_8 : decode cX7_get 8 = .ok (.iadd, 1) := by decide +kernel
theorem dX7_get_9 : decode cX7_get 9 = .ok (.iload_n 2, 1) := by decide +kernel
theorem dX7_get_10 : decode cX7_get 10 = .ok (.iadd, 1) := by decide +kernel
theorem dX7_get_11 : decode cX7_get 11 = .ok (.iaload, 1) := by decide +kernel
theorem dX7_get_12 : decode cX7_get 12 = .ok (.ireturn, 1) := by decide +kernel
theorem dX7_aside_0 : decode cX7_aside 0 = .ok (.iconst 0, 1) := by decide +kernel
theorem dX7_aside_1 : decode cX7_aside 1 = .ok (.istore_n 1, 1) := by decide +kernel
theorem dX7_aside_2 : decode cX7_aside 2 = .ok (.iload_n 1, 1) := by decide +kernel
theorem dX7_aside_3 : decode cX7_aside 3 = .ok (.sipush 129, 3) := by decide +kernel
theorem dX7_aside_6 : decode cX7_aside 6 = .ok (.if_icmp .ge 21, 3) := by decide +kernel
theorem dX7_aside_9 : decode cX7_aside 9 = .ok (.aload_n 0, 1) := by decide +kernel
theorem dX7_aside_10 : decode cX7_aside 10 = .ok (.getfield 16, 3) := by decide +kernel
theorem dX7_aside_13 : decode cX7_aside 13 = .ok (.iload_n 1, 1) := by decide +kernel
theorem dX7_aside_14 : decode cX7_aside 14 = .ok (.aload_n 0, 1) := by decide +kernel
theorem dX7_aside_15 : decode cX7_aside 15 = .ok (.getfield 7, 3) := by decide +kernel
theorem dX7_aside_18 : decode cX7_aside 18 = .ok (.iload_n 1, 1) := by decide +kernel
theorem dX7_aside_19 : decode cX7_aside 19 = .ok (.iaload, 1) := by decide +kernel
theorem dX7_aside_20 : decode cX7_aside 20 = .ok (.iastore, 1) := by decide +kernel
theorem dX7_aside_21 : decode cX7_aside 21 = .ok (.iinc 1 1, 3) := by decide +kernel
theorem dX7_aside_24 : decode cX7_aside 24 = .ok (.goto (-22), 3) := by decide +kernel
theorem dX7_aside_27 : decode cX7_aside 27 = .ok (.return_, 1) := by decide +kernel
theorem dX7_restores_0 : decode cX7_restores 0 = .ok (.iconst 0, 1) := by decide +kernel
theorem dX7_restores_1 : decode cX7_restores 1 = .ok (.istore_n 1, 1) := by decide +kernel
theorem dX7_restores_2 : decode cX7_restores 2 = .ok (.iload_n 1, 1) := by decide +kernel
theorem dX7_restores_3 : decode cX7_restores 3 = .ok (.sipush 129, 3) := by decide +kernel
theorem dX7_restores_6 : decode cX7_restores 6 = .ok (.if_icmp .ge 21, 3) := by decide +kernel
theorem dX7_restores_9 : decode cX7_restores 9 = .ok (.aload_n 0, 1) := by decide +kernel
theorem dX7_restores_10 : decode cX7_restores 10 = .ok (.getfield 7, 3) := by decide +kernel
theorem dX7_restores_13 : decode cX7_restores 13 = .ok (.iload_n 1, 1) := by decide +kernel
theorem dX7_restores_14 : decode cX7_restores 14 = .ok (.aload_n 0, 1) := by decide +kernel
theorem dX7_restores_15 : decode cX7_restores 15 = .ok (.getfield 16, 3) := by decide +kernel
end
section
theorem dX7_restores_18 : decode cX7_restores 18 = .ok (.iload_n 1, 1) := by decide +kernel
theorem dX7_restores_19 : decode cX7_restores 19 = .ok (.iaload, 1) := by decide +kernel
theorem dX7_restores_20 : decode cX7_restores 20 = .ok (.iastore, 1) := by decide +kernel
theorem dX7_restores_21 : decode cX7_restores 21 = .ok (.iinc 1 1, 3) := by decide +kernel
theorem dX7_restores_24 : decode cX7_restores 24 = .ok (.goto (-22), 3) := by decide +kernel
theorem dX7_restores_27 : decode cX7_restores 27 = .ok (.return_, 1) := by decide +kernel
theorem dX7_keeps_0 : decode cX7_keeps 0 = .ok (.aload_n 0, 1) := by decide +kernel
theorem dX7_keeps_1 : decode cX7_keeps 1 = .ok (.getfield 49, 3) := by decide +kernel
theorem dX7_keeps_4 : decode cX7_keeps 4 = .ok (.iconst 5, 1) := by decide +kernel
theorem dX7_keeps_5 : decode cX7_keeps 5 = .ok (.if_icmp .ne 44, 3) := by decide +kernel
theorem dX7_keeps_8 : decode cX7_keeps 8 = .ok (.iconst 0, 1) := by decide +kernel
theorem dX7_keeps_9 : decode cX7_keeps 9 = .ok (.istore_n 1, 1) := by decide +kernel
theorem dX7_keeps_10 : decode cX7_keeps 10 = .ok (.iload_n 1, 1) := by decide +kernel
theorem dX7_keeps_11 : decode cX7_keeps 11 = .ok (.sipush 516, 3) := by decide +kernel
theorem dX7_keeps_14 : decode cX7_keeps 14 = .ok (.if_icmp .ge 25, 3) := by decide +kernel
theorem dX7_keeps_17 : decode cX7_keeps 17 = .ok (.aload_n 0, 1) := by decide +kernel
theorem dX7_keeps_18 : decode cX7_keeps 18 = .ok (.getfield 13, 3) := by decide +kernel
theorem dX7_keeps_21 : decode cX7_keeps 21 = .ok (.iload_n 1, 1) := by decide +kernel
theorem dX7_keeps_22 : decode cX7_keeps 22 = .ok (.aload_n 0, 1) := by decide +kernel
theorem dX7_keeps_23 : decode cX7_keeps 23 = .ok (.getfield 13, 3) := by decide +kernel
theorem dX7_keeps_26 : decode cX7_keeps 26 = .ok (.iload_n 1, 1) := by decide +kernel
theorem dX7_keeps_27 : decode cX7_keeps 27 = .ok (.sipush 129, 3) := by decide +kernel
theorem dX7_keeps_30 : decode cX7_keeps 30 = .ok (.iadd, 1) := by decide +kernel
theorem dX7_keeps_31 : decode cX7_keeps 31 = .ok (.iaload, 1) := by decide +kernel
theorem dX7_keeps_32 : decode cX7_keeps 32 = .ok (.iastore, 1) := by decide +kernel
theorem dX7_keeps_33 : decode cX7_keeps 33 = .ok (.iinc 1 1, 3) := by decide +kernel
theorem dX7_keeps_36 : decode cX7_keeps 36 = .ok (.goto (-26), 3) := by decide +kernel
theorem dX7_keeps_39 : decode cX7_keeps 39 = .ok (.aload_n 0, 1) := by decide +kernel
theorem dX7_keeps_40 : decode cX7_keeps 40 = .ok (.dup, 1) := by decide +kernel
theorem dX7_keeps_41 : decode cX7_keeps 41 = .ok (.getfield 49, 3) := by decide +kernel
theorem dX7_keeps_44 : decode cX7_keeps 44 = .ok (.iconst 1, 1) := by decide +kernel
theorem dX7_keeps_45 : decode cX7_keeps 45 = .ok (.isub, 1) := by decide +kernel
theorem dX7_keeps_46 : decode cX7_keeps 46 = .ok (.putfield 49, 3) := by decide +kernel
theorem dX7_keeps_49 : decode cX7_keeps 49 = .ok (.iconst 0, 1) := by decide +kernel
theorem dX7_keeps_50 : decode cX7_keeps 50 = .ok (.istore_n 1, 1) := by decide +kernel
theorem dX7_keeps_51 : decode cX7_keeps 51 = .ok (.iload_n 1, 1) := by decide +kernel
theorem dX7_keeps_52 : decode cX7_keeps 52 = .ok (.sipush 129, 3) := by decide +kernel
theorem dX7_keeps_55 : decode cX7_keeps 55 = .ok (.if_icmp .ge 30, 3) := by decide +kernel
theorem dX7_keeps_58 : decode cX7_keeps 58 = .ok (.aload_n 0, 1) := by decide +kernel
theorem dX7_keeps_59 : decode cX7_keeps 59 = .ok (.getfield 13, 3) := by decide +kernel
theorem dX7_keeps_62 : decode cX7_keeps 62 = .ok (.sipush 129, 3) := by decide +kernel
theorem dX7_keeps_65 : decode cX7_keeps 65 = .ok (.aload_n 0, 1) := by decide +kernel
theorem dX7_keeps_66 : decode cX7_keeps 66 = .ok (.getfield 49, 3) := by decide +kernel
theorem dX7_keeps_69 : decode cX7_keeps 69 = .ok (.imul, 1) := by decide +kernel
theorem dX7_keeps_70 : decode cX7_keeps 70 = .ok (.iload_n 1, 1) := by decide +kernel
theorem dX7_keeps_71 : decode cX7_keeps 71 = .ok (.iadd, 1) := by decide +kernel
theorem dX7_keeps_72 : decode cX7_keeps 72 = .ok (.aload_n 0, 1) := by decide +kernel
theorem dX7_keeps_73 : decode cX7_keeps 73 = .ok (.getfield 16, 3) := by decide +kernel
theorem dX7_keeps_76 : decode cX7_keeps 76 = .ok (.iload_n 1, 1) := by decide +kernel
theorem dX7_keeps_77 : decode cX7_keeps 77 = .ok (.iaload, 1) := by decide +kernel
theorem dX7_keeps_78 : decode cX7_keeps 78 = .ok (.iastore, 1) := by decide +kernel
theorem dX7_keeps_79 : decode cX7_keeps 79 = .ok (.iinc 1 1, 3) := by decide +kernel
theorem dX7_keeps_82 : decode cX7_keeps 82 = .ok (.goto (-31), 3) := by decide +kernel
theorem dX7_keeps_85 : decode cX7_keeps 85 = .ok (.aload_n 0, 1) := by decide +kernel
theorem dX7_keeps_86 : decode cX7_keeps 86 = .ok (.dup, 1) := by decide +kernel
theorem dX7_keeps_87 : decode cX7_keeps 87 = .ok (.getfield 49, 3) := by decide +kernel
theorem dX7_keeps_90 : decode cX7_keeps 90 = .ok (.iconst 1, 1) := by decide +kernel
theorem dX7_keeps_91 : decode cX7_keeps 91 = .ok (.iadd, 1) := by decide +kernel
theorem dX7_keeps_92 : decode cX7_keeps 92 = .ok (.putfield 49, 3) := by decide +kernel
theorem dX7_keeps_95 : decode cX7_keeps 95 = .ok (.return_, 1) := by decide +kernel
theorem dX7_comes_0 : decode cX7_comes 0 = .ok (.iconst 1, 1) := by decide +kernel
theorem dX7_comes_1 : decode cX7_comes 1 = .ok (.iconst 4, 1) := by decide +kernel
theorem dX7_comes_2 : decode cX7_comes 2 = .ok (.aload_n 0, 1) := by decide +kernel
theorem dX7_comes_3 : decode cX7_comes 3 = .ok (.getfield 7, 3) := by decide +kernel
theorem dX7_comes_6 : decode cX7_comes 6 = .ok (.iconst 0, 1) := by decide +kernel
theorem dX7_comes_7 : decode cX7_comes 7 = .ok (.iaload, 1) := by decide +kernel
theorem dX7_comes_8 : decode cX7_comes 8 = .ok (.imul, 1) := by decide +kernel
theorem dX7_comes_9 : decode cX7_comes 9 = .ok (.iadd, 1) := by decide +kernel
theorem dX7_comes_10 : decode cX7_comes 10 = .ok (.istore 5, 2) := by decide +kernel
theorem dX7_comes_12 : decode cX7_comes 12 = .ok (.aload_n 0, 1) := by decide +kernel
theorem dX7_comes_13 : decode cX7_comes 13 = .ok (.getfield 7, 3) := by decide +kernel
theorem dX7_comes_16 : decode cX7_comes 16 = .ok (.iload 5, 2) := by decide +kernel
theorem dX7_comes_18 : decode cX7_comes 18 = .ok (.iload_n 1, 1) := by decide +kernel
theorem dX7_comes_19 : decode cX7_comes 19 = .ok (.iastore, 1) := by decide +kernel
theorem dX7_comes_20 : decode cX7_comes 20 = .ok (.aload_n 0, 1) := by decide +kernel
theorem dX7_comes_21 : decode cX7_comes 21 = .ok (.getfield 7, 3) := by decide +kernel
theorem dX7_comes_24 : decode cX7_comes 24 = .ok (.iload 5, 2) := by decide +kernel
theorem dX7_comes_26 : decode cX7_comes 26 = .ok (.iconst 1, 1) := by decide +kernel
theorem dX7_comes_27 : decode cX7_comes 27 = .ok (.iadd, 1) := by decide +kernel
theorem dX7_comes_28 : decode cX7_comes 28 = .ok (.iload_n 2, 1) := by decide +kernel
theorem dX7_comes_29 : decode cX7_comes 29 = .ok (.iastore, 1) := by decide +kernel
theorem dX7_comes_30 : decode cX7_comes 30 = .ok (.aload_n 0, 1) := by decide +kernel
theorem dX7_comes_31 : decode cX7_comes 31 = .ok (.getfield 7, 3) := by decide +kernel
theorem dX7_comes_34 : decode cX7_comes 34 = .ok (.iload 5, 2) := by decide +kernel
theorem dX7_comes_36 : decode cX7_comes 36 = .ok (.iconst 2, 1) := by decide +kernel
theorem dX7_comes_37 : decode cX7_comes 37 = .ok (.iadd, 1) := by decide +kernel
theorem dX7_comes_38 : decode cX7_comes 38 = .ok (.iload_n 3, 1) := by decide +kernel
theorem dX7_comes_39 : decode cX7_comes 39 = .ok (.iastore, 1) := by decide +kernel
theorem dX7_comes_40 : decode cX7_comes 40 = .ok (.aload_n 0, 1) := by decide +kernel
theorem dX7_comes_41 : decode cX7_comes 41 = .ok (.getfield 7, 3) := by decide +kernel
theorem dX7_comes_44 : decode cX7_comes 44 = .ok (.iload 5, 2) := by decide +kernel
theorem dX7_comes_46 : decode cX7_comes 46 = .ok (.iconst 3, 1) := by decide +kernel
theorem dX7_comes_47 : decode cX7_comes 47 = .ok (.iadd, 1) := by decide +kernel
theorem dX7_comes_48 : decode cX7_comes 48 = .ok (.iload 4, 2) := by decide +kernel
theorem dX7_comes_50 : decode cX7_comes 50 = .ok (.iastore, 1) := by decide +kernel
theorem dX7_comes_51 : decode cX7_comes 51 = .ok (.aload_n 0, 1) := by decide +kernel
theorem dX7_comes_52 : decode cX7_comes 52 = .ok (.getfield 7, 3) := by decide +kernel
theorem dX7_comes_55 : decode cX7_comes 55 = .ok (.iconst 0, 1) := by decide +kernel
theorem dX7_comes_56 : decode cX7_comes 56 = .ok (.dup2, 1) := by decide +kernel
theorem dX7_comes_57 : decode cX7_comes 57 = .ok (.iaload, 1) := by decide +kernel
theorem dX7_comes_58 : decode cX7_comes 58 = .ok (.iconst 1, 1) := by decide +kernel
theorem dX7_comes_59 : decode cX7_comes 59 = .ok (.iadd, 1) := by decide +kernel
theorem dX7_comes_60 : decode cX7_comes 60 = .ok (.iastore, 1) := by decide +kernel
theorem dX7_comes_61 : decode cX7_comes 61 = .ok (.return_, 1) := by decide +kernel
theorem dX7_plane_0 : decode cX7_plane 0 = .ok (.iload_n 1, 1) := by decide +kernel
theorem dX7_plane_1 : decode cX7_plane 1 = .ok (.iload_n 2, 1) := by decide +kernel
theorem dX7_plane_2 : decode cX7_plane 2 = .ok (.iload_n 3, 1) := by decide +kernel
theorem dX7_plane_3 : decode cX7_plane 3 = .ok (.invokestatic 53, 3) := by decide +kernel
theorem dX7_plane_6 : decode cX7_plane 6 = .ok (.ifCond .eq 14, 3) := by decide +kernel
theorem dX7_plane_9 : decode cX7_plane 9 = .ok (.iload 4, 2) := by decide +kernel
theorem dX7_plane_11 : decode cX7_plane 11 = .ok (.iconst 1, 1) := by decide +kernel
theorem dX7_plane_12 : decode cX7_plane 12 = .ok (.bipush 60, 2) := by decide +kernel
theorem dX7_plane_14 : decode cX7_plane 14 = .ok (.invokestatic 45, 3) := by decide +kernel
theorem dX7_plane_17 : decode cX7_plane 17 = .ok (.ifCond .ne 10, 3) := by decide +kernel
theorem dX7_plane_20 : decode cX7_plane 20 = .ok (.aload_n 0, 1) := by decide +kernel
theorem dX7_plane_21 : decode cX7_plane 21 = .ok (.bipush (-2), 2) := by decide +kernel
theorem dX7_plane_23 : decode cX7_plane 23 = .ok (.invokevirtual 56, 3) := by decide +kernel
theorem dX7_plane_26 : decode cX7_plane 26 = .ok (.ireturn, 1) := by decide +kernel
theorem dX7_plane_27 : decode cX7_plane 27 = .ok (.aload_n 0, 1) := by decide +kernel
theorem dX7_plane_28 : decode cX7_plane 28 = .ok (.getfield 7, 3) := by decide +kernel
theorem dX7_plane_31 : decode cX7_plane 31 = .ok (.iconst 0, 1) := by decide +kernel
theorem dX7_plane_32 : decode cX7_plane 32 = .ok (.iaload, 1) := by decide +kernel
theorem dX7_plane_33 : decode cX7_plane 33 = .ok (.bipush 32, 2) := by decide +kernel
theorem dX7_plane_35 : decode cX7_plane 35 = .ok (.if_icmp .ne 10, 3) := by decide +kernel
theorem dX7_plane_38 : decode cX7_plane 38 = .ok (.aload_n 0, 1) := by decide +kernel
theorem dX7_plane_39 : decode cX7_plane 39 = .ok (.bipush (-4), 2) := by decide +kernel
theorem dX7_plane_41 : decode cX7_plane 41 = .ok (.invokevirtual 56, 3) := by decide +kernel
theorem dX7_plane_44 : decode cX7_plane 44 = .ok (.ireturn, 1) := by decide +kernel
theorem dX7_plane_45 : decode cX7_plane 45 = .ok (.aload_n 0, 1) := by decide +kernel
theorem dX7_plane_46 : decode cX7_plane 46 = .ok (.invokevirtual 60, 3) := by decide +kernel
theorem dX7_plane_49 : decode cX7_plane 49 = .ok (.aload_n 0, 1) := by decide +kernel
theorem dX7_plane_50 : decode cX7_plane 50 = .ok (.invokevirtual 63, 3) := by decide +kernel
theorem dX7_plane_53 : decode cX7_plane 53 = .ok (.aload_n 0, 1) := by decide +kernel
theorem dX7_plane_54 : decode cX7_plane 54 = .ok (.iload_n 1, 1) := by decide +kernel
theorem dX7_plane_55 : decode cX7_plane 55 = .ok (.iload_n 2, 1) := by decide +kernel
theorem dX7_plane_56 : decode cX7_plane 56 = .ok (.iload_n 3, 1) := by decide +kernel
theorem dX7_plane_57 : decode cX7_plane 57 = .ok (.iload 4, 2) := by decide +kernel
theorem dX7_plane_59 : decode cX7_plane 59 = .ok (.invokevirtual 66, 3) := by decide +kernel
theorem dX7_plane_62 : decode cX7_plane 62 = .ok (.aload_n 0, 1) := by decide +kernel
theorem dX7_plane_63 : decode cX7_plane 63 = .ok (.getfield 7, 3) := by decide +kernel
theorem dX7_plane_66 : decode cX7_plane 66 = .ok (.iconst 0, 1) := by decide +kernel
theorem dX7_plane_67 : decode cX7_plane 67 = .ok (.iaload, 1) := by decide +kernel
theorem dX7_plane_68 : decode cX7_plane 68 = .ok (.iconst 1, 1) := by decide +kernel
theorem dX7_plane_69 : decode cX7_plane 69 = .ok (.isub, 1) := by decide +kernel
theorem dX7_plane_70 : decode cX7_plane 70 = .ok (.ireturn, 1) := by decide +kernel
theorem dX7_turns_0 : decode cX7_turns 0 = .ok (.aload_n 0, 1) := by decide +kernel
theorem dX7_turns_1 : decode cX7_turns 1 = .ok (.getfield 42, 3) := by decide +kernel
theorem dX7_turns_4 : decode cX7_turns 4 = .ok (.iconst 0, 1) := by decide +kernel
theorem dX7_turns_5 : decode cX7_turns 5 = .ok (.iload_n 1, 1) := by decide +kernel
theorem dX7_turns_6 : decode cX7_turns 6 = .ok (.iconst 3, 1) := by decide +kernel
theorem dX7_turns_7 : decode cX7_turns 7 = .ok (.if_icmp .ge 8, 3) := by decide +kernel
theorem dX7_turns_10 : decode cX7_turns 10 = .ok (.iload_n 2, 1) := by decide +kernel
theorem dX7_turns_11 : decode cX7_turns 11 = .ok (.ineg, 1) := by decide +kernel
theorem dX7_turns_12 : decode cX7_turns 12 = .ok (.goto 24, 3) := by decide +kernel
theorem dX7_turns_15 : decode cX7_turns 15 = .ok (.iload_n 1, 1) := by decide +kernel
theorem dX7_turns_16 : decode cX7_turns 16 = .ok (.iconst 3, 1) := by decide +kernel
theorem dX7_turns_17 : decode cX7_turns 17 = .ok (.if_icmp .ne 8, 3) := by decide +kernel
theorem dX7_turns_20 : decode cX7_turns 20 = .ok (.iload_n 3, 1) := by decide +kernel
theorem dX7_turns_21 : decode cX7_turns 21 = .ok (.ineg, 1) := by decide +kernel
theorem dX7_turns_22 : decode cX7_turns 22 = .ok (.goto 14, 3) := by decide +kernel
theorem dX7_turns_25 : decode cX7_turns 25 = .ok (.iload_n 1, 1) := by decide +kernel
theorem dX7_turns_26 : decode cX7_turns 26 = .ok (.iconst 4, 1) := by decide +kernel
theorem dX7_turns_27 : decode cX7_turns 27 = .ok (.if_icmp .ne 8, 3) := by decide +kernel
theorem dX7_turns_30 : decode cX7_turns 30 = .ok (.iload 4, 2) := by decide +kernel
theorem dX7_turns_32 : decode cX7_turns 32 = .ok (.goto 4, 3) := by decide +kernel
theorem dX7_turns_35 : decode cX7_turns 35 = .ok (.iload_n 3, 1) := by decide +kernel
theorem dX7_turns_36 : decode cX7_turns 36 = .ok (.iastore, 1) := by decide +kernel
theorem dX7_turns_37 : decode cX7_turns 37 = .ok (.aload_n 0, 1) := by decide +kernel
theorem dX7_turns_38 : decode cX7_turns 38 = .ok (.getfield 42, 3) := by decide +kernel
theorem dX7_turns_41 : decode cX7_turns 41 = .ok (.iconst 1, 1) := by decide +kernel
theorem dX7_turns_42 : decode cX7_turns 42 = .ok (.iload_n 1, 1) := by decide +kernel
theorem dX7_turns_43 : decode cX7_turns 43 = .ok (.ifCond .eq 8, 3) := by decide +kernel
theorem dX7_turns_46 : decode cX7_turns 46 = .ok (.iload_n 1, 1) := by decide +kernel
theorem dX7_turns_47 : decode cX7_turns 47 = .ok (.iconst 2, 1) := by decide +kernel
theorem dX7_turns_48 : decode cX7_turns 48 = .ok (.if_icmp .ne 8, 3) := by decide +kernel
theorem dX7_turns_51 : decode cX7_turns 51 = .ok (.iload_n 3, 1) := by decide +kernel
theorem dX7_turns_52 : decode cX7_turns 52 = .ok (.ineg, 1) := by decide +kernel
theorem dX7_turns_53 : decode cX7_turns 53 = .ok (.goto 13, 3) := by decide +kernel
theorem dX7_turns_56 : decode cX7_turns 56 = .ok (.iload_n 1, 1) := by decide +kernel
theorem dX7_turns_57 : decode cX7_turns 57 = .ok (.iconst 1, 1) := by decide +kernel
theorem dX7_turns_58 : decode cX7_turns 58 = .ok (.if_icmp .ne 7, 3) := by decide +kernel
theorem dX7_turns_61 : decode cX7_turns 61 = .ok (.iload_n 3, 1) := by decide +kernel
theorem dX7_turns_62 : decode cX7_turns 62 = .ok (.goto 4, 3) := by decide +kernel
theorem dX7_turns_65 : decode cX7_turns 65 = .ok (.iload_n 2, 1) := by decide +kernel
theorem dX7_turns_66 : decode cX7_turns 66 = .ok (.iastore, 1) := by decide +kernel
theorem dX7_turns_67 : decode cX7_turns 67 = .ok (.aload_n 0, 1) := by decide +kernel
theorem dX7_turns_68 : decode cX7_turns 68 = .ok (.getfield 42, 3) := by decide +kernel
theorem dX7_turns_71 : decode cX7_turns 71 = .ok (.iconst 2, 1) := by decide +kernel
theorem dX7_turns_72 : decode cX7_turns 72 = .ok (.iload_n 1, 1) := by decide +kernel
theorem dX7_turns_73 : decode cX7_turns 73 = .ok (.ifCond .ne 9, 3) := by decide +kernel
theorem dX7_turns_76 : decode cX7_turns 76 = .ok (.iload 4, 2) := by decide +kernel
theorem dX7_turns_78 : decode cX7_turns 78 = .ok (.ineg, 1) := by decide +kernel
theorem dX7_turns_79 : decode cX7_turns 79 = .ok (.goto 14, 3) := by decide +kernel
theorem dX7_turns_82 : decode cX7_turns 82 = .ok (.iload_n 1, 1) := by decide +kernel
theorem dX7_turns_83 : decode cX7_turns 83 = .ok (.iconst 4, 1) := by decide +kernel
theorem dX7_turns_84 : decode cX7_turns 84 = .ok (.if_icmp .ne 7, 3) := by decide +kernel
theorem dX7_turns_87 : decode cX7_turns 87 = .ok (.iload_n 3, 1) := by decide +kernel
theorem dX7_turns_88 : decode cX7_turns 88 = .ok (.goto 5, 3) := by decide +kernel
theorem dX7_turns_91 : decode cX7_turns 91 = .ok (.iload 4, 2) := by decide +kernel
theorem dX7_turns_93 : decode cX7_turns 93 = .ok (.iastore, 1) := by decide +kernel
theorem dX7_turns_94 : decode cX7_turns 94 = .ok (.return_, 1) := by decide +kernel
theorem dX7_laysFamily_0 : decode cX7_laysFamily 0 = .ok (.iconst 0, 1) := by decide +kernel
theorem dX7_laysFamily_1 : decode cX7_laysFamily 1 = .ok (.istore 5, 2) := by decide +kernel
theorem dX7_laysFamily_3 : decode cX7_laysFamily 3 = .ok (.iload 5, 2) := by decide +kernel
theorem dX7_laysFamily_5 : decode cX7_laysFamily 5 = .ok (.sipush 343, 3) := by decide +kernel
theorem dX7_laysFamily_8 : decode cX7_laysFamily 8 = .ok (.if_icmp .ge 44, 3) := by decide +kernel
theorem dX7_laysFamily_11 : decode cX7_laysFamily 11 = .ok (.aload_n 0, 1) := by decide +kernel
theorem dX7_laysFamily_12 : decode cX7_laysFamily 12 = .ok (.getfield 36, 3) := by decide +kernel
theorem dX7_laysFamily_15 : decode cX7_laysFamily 15 = .ok (.iload 5, 2) := by decide +kernel
theorem dX7_laysFamily_17 : decode cX7_laysFamily 17 = .ok (.iload 5, 2) := by decide +kernel
theorem dX7_laysFamily_19 : decode cX7_laysFamily 19 = .ok (.bipush 49, 2) := by decide +kernel
theorem dX7_laysFamily_21 : decode cX7_laysFamily 21 = .ok (.iload_n 2, 1) := by decide +kernel
theorem dX7_laysFamily_22 : decode cX7_laysFamily 22 = .ok (.iconst 3, 1) := by decide +kernel
theorem dX7_laysFamily_23 : decode cX7_laysFamily 23 = .ok (.iadd, 1) := by decide +kernel
theorem dX7_laysFamily_24 : decode cX7_laysFamily 24 = .ok (.imul, 1) := by decide +kernel
theorem dX7_laysFamily_25 : decode cX7_laysFamily 25 = .ok (.bipush 7, 2) := by decide +kernel
theorem dX7_laysFamily_27 : decode cX7_laysFamily 27 = .ok (.iload_n 3, 1) := by decide +kernel
theorem dX7_laysFamily_28 : decode cX7_laysFamily 28 = .ok (.iconst 3, 1) := by decide +kernel
theorem dX7_laysFamily_29 : decode cX7_laysFamily 29 = .ok (.iadd, 1) := by decide +kernel
theorem dX7_laysFamily_30 : decode cX7_laysFamily 30 = .ok (.imul, 1) := by decide +kernel
theorem dX7_laysFamily_31 : decode cX7_laysFamily 31 = .ok (.iadd, 1) := by decide +kernel
theorem dX7_laysFamily_32 : decode cX7_laysFamily 32 = .ok (.iload 4, 2) := by decide +kernel
theorem dX7_laysFamily_34 : decode cX7_laysFamily 34 = .ok (.iadd, 1) := by decide +kernel
theorem dX7_laysFamily_35 : decode cX7_laysFamily 35 = .ok (.iconst 3, 1) := by decide +kernel
theorem dX7_laysFamily_36 : decode cX7_laysFamily 36 = .ok (.iadd, 1) := by decide +kernel
theorem dX7_laysFamily_37 : decode cX7_laysFamily 37 = .ok (.if_icmp .ne 7, 3) := by decide +kernel
theorem dX7_laysFamily_40 : decode cX7_laysFamily 40 = .ok (.iconst 1, 1) := by decide +kernel
theorem dX7_laysFamily_41 : decode cX7_laysFamily 41 = .ok (.goto 4, 3) := by decide +kernel
theorem dX7_laysFamily_44 : decode cX7_laysFamily 44 = .ok (.iconst 0, 1) := by decide +kernel
theorem dX7_laysFamily_45 : decode cX7_laysFamily 45 = .ok (.bastore, 1) := by decide +kernel
theorem dX7_laysFamily_46 : decode cX7_laysFamily 46 = .ok (.iinc 5 1, 3) := by decide +kernel
theorem dX7_laysFamily_49 : decode cX7_laysFamily 49 = .ok (.goto (-46), 3) := by decide +kernel
theorem dX7_laysFamily_52 : decode cX7_laysFamily 52 = .ok (.iconst 1, 1) := by decide +kernel
theorem dX7_laysFamily_53 : decode cX7_laysFamily 53 = .ok (.istore 5, 2) := by decide +kernel
theorem dX7_laysFamily_55 : decode cX7_laysFamily 55 = .ok (.iconst 1, 1) := by decide +kernel
theorem dX7_laysFamily_56 : decode cX7_laysFamily 56 = .ok (.istore 6, 2) := by decide +kernel
theorem dX7_laysFamily_58 : decode cX7_laysFamily 58 = .ok (.iload 6, 2) := by decide +kernel
theorem dX7_laysFamily_60 : decode cX7_laysFamily 60 = .ok (.ifCond .eq 150, 3) := by decide +kernel
theorem dX7_laysFamily_63 : decode cX7_laysFamily 63 = .ok (.iconst 0, 1) := by decide +kernel
theorem dX7_laysFamily_64 : decode cX7_laysFamily 64 = .ok (.istore 6, 2) := by decide +kernel
theorem dX7_laysFamily_66 : decode cX7_laysFamily 66 = .ok (.iconst 0, 1) := by decide +kernel
theorem dX7_laysFamily_67 : decode cX7_laysFamily 67 = .ok (.istore 7, 2) := by decide +kernel
theorem dX7_laysFamily_69 : decode cX7_laysFamily 69 = .ok (.iload 7, 2) := by decide +kernel
theorem dX7_laysFamily_71 : decode cX7_laysFamily 71 = .ok (.sipush 343, 3) := by decide +kernel
theorem dX7_laysFamily_74 : decode cX7_laysFamily 74 = .ok (.if_icmp .ge 133, 3) := by decide +kernel
theorem dX7_laysFamily_77 : decode cX7_laysFamily 77 = .ok (.iconst 0, 1) := by decide +kernel
theorem dX7_laysFamily_78 : decode cX7_laysFamily 78 = .ok (.istore 8, 2) := by decide +kernel
theorem dX7_laysFamily_80 : decode cX7_laysFamily 80 = .ok (.iload 8, 2) := by decide +kernel
theorem dX7_laysFamily_82 : decode cX7_laysFamily 82 = .ok (.bipush 6, 2) := by decide +kernel
theorem dX7_laysFamily_84 : decode cX7_laysFamily 84 = .ok (.if_icmp .ge 117, 3) := by decide +kernel
theorem dX7_laysFamily_87 : decode cX7_laysFamily 87 = .ok (.aload_n 0, 1) := by decide +kernel
theorem dX7_laysFamily_88 : decode cX7_laysFamily 88 = .ok (.getfield 36, 3) := by decide +kernel
theorem dX7_laysFamily_91 : decode cX7_laysFamily 91 = .ok (.iload 7, 2) := by decide +kernel
theorem dX7_laysFamily_93 : decode cX7_laysFamily 93 = .ok (.baload, 1) := by decide +kernel
theorem dX7_laysFamily_94 : decode cX7_laysFamily 94 = .ok (.ifCond .eq 107, 3) := by decide +kernel
theorem dX7_laysFamily_97 : decode cX7_laysFamily 97 = .ok (.aload_n 0, 1) := by decide +kernel
theorem dX7_laysFamily_98 : decode cX7_laysFamily 98 = .ok (.iload 8, 2) := by decide +kernel
theorem dX7_laysFamily_100 : decode cX7_laysFamily 100 = .ok (.iload 7, 2) := by decide +kernel
theorem dX7_laysFamily_102 : decode cX7_laysFamily 102 = .ok (.bipush 49, 2) := by decide +kernel
theorem dX7_laysFamily_104 : decode cX7_laysFamily 104 = .ok (.idiv, 1) := by decide +kernel
theorem dX7_laysFamily_105 : decode cX7_laysFamily 105 = .ok (.iconst 3, 1) := by decide +kernel
theorem dX7_laysFamily_106 : decode cX7_laysFamily 106 = .ok (.isub, 1) := by decide +kernel
theorem dX7_laysFamily_107 : decode cX7_laysFamily 107 = .ok (.iload 7, 2) := by decide +kernel
theorem dX7_laysFamily_109 : decode cX7_laysFamily 109 = .ok (.bipush 7, 2) := by decide +kernel
theorem dX7_laysFamily_111 : decode cX7_laysFamily 111 = .ok (.idiv, 1) := by decide +kernel
theorem dX7_laysFamily_112 : decode cX7_laysFamily 112 = .ok (.bipush 7, 2) := by decide +kernel
theorem dX7_laysFamily_114 : decode cX7_laysFamily 114 = .ok (.irem, 1) := by decide +kernel
theorem dX7_laysFamily_115 : decode cX7_laysFamily 115 = .ok (.iconst 3, 1) := by decide +kernel
theorem dX7_laysFamily_116 : decode cX7_laysFamily 116 = .ok (.isub, 1) := by decide +kernel
theorem dX7_laysFamily_117 : decode cX7_laysFamily 117 = .ok (.iload 7, 2) := by decide +kernel
theorem dX7_laysFamily_119 : decode cX7_laysFamily 119 = .ok (.bipush 7, 2) := by decide +kernel
theorem dX7_laysFamily_121 : decode cX7_laysFamily 121 = .ok (.irem, 1) := by decide +kernel
theorem dX7_laysFamily_122 : decode cX7_laysFamily 122 = .ok (.iconst 3, 1) := by decide +kernel
theorem dX7_laysFamily_123 : decode cX7_laysFamily 123 = .ok (.isub, 1) := by decide +kernel
theorem dX7_laysFamily_124 : decode cX7_laysFamily 124 = .ok (.invokevirtual 70, 3) := by decide +kernel
theorem dX7_laysFamily_127 : decode cX7_laysFamily 127 = .ok (.bipush 49, 2) := by decide +kernel
theorem dX7_laysFamily_129 : decode cX7_laysFamily 129 = .ok (.aload_n 0, 1) := by decide +kernel
theorem dX7_laysFamily_130 : decode cX7_laysFamily 130 = .ok (.getfield 42, 3) := by decide +kernel
theorem dX7_laysFamily_133 : decode cX7_laysFamily 133 = .ok (.iconst 0, 1) := by decide +kernel
theorem dX7_laysFamily_134 : decode cX7_laysFamily 134 = .ok (.iaload, 1) := by decide +kernel
theorem dX7_laysFamily_135 : decode cX7_laysFamily 135 = .ok (.iconst 3, 1) := by decide +kernel
theorem dX7_laysFamily_136 : decode cX7_laysFamily 136 = .ok (.iadd, 1) := by decide +kernel
theorem dX7_laysFamily_137 : decode cX7_laysFamily 137 = .ok (.imul, 1) := by decide +kernel
theorem dX7_laysFamily_138 : decode cX7_laysFamily 138 = .ok (.bipush 7, 2) := by decide +kernel
theorem dX7_laysFamily_140 : decode cX7_laysFamily 140 = .ok (.aload_n 0, 1) := by decide +kernel
theorem dX7_laysFamily_141 : decode cX7_laysFamily 141 = .ok (.getfield 42, 3) := by decide +kernel
theorem dX7_laysFamily_144 : decode cX7_laysFamily 144 = .ok (.iconst 1, 1) := by decide +kernel
theorem dX7_laysFamily_145 : decode cX7_laysFamily 145 = .ok (.iaload, 1) := by decide +kernel
theorem dX7_laysFamily_146 : decode cX7_laysFamily 146 = .ok (.iconst 3, 1) := by decide +kernel
theorem dX7_laysFamily_147 : decode cX7_laysFamily 147 = .ok (.iadd, 1) := by decide +kernel
theorem dX7_laysFamily_148 : decode cX7_laysFamily 148 = .ok (.imul, 1) := by decide +kernel
theorem dX7_laysFamily_149 : decode cX7_laysFamily 149 = .ok (.iadd, 1) := by decide +kernel
theorem dX7_laysFamily_150 : decode cX7_laysFamily 150 = .ok (.aload_n 0, 1) := by decide +kernel
theorem dX7_laysFamily_151 : decode cX7_laysFamily 151 = .ok (.getfield 42, 3) := by decide +kernel
theorem dX7_laysFamily_154 : decode cX7_laysFamily 154 = .ok (.iconst 2, 1) := by decide +kernel
theorem dX7_laysFamily_155 : decode cX7_laysFamily 155 = .ok (.iaload, 1) := by decide +kernel
theorem dX7_laysFamily_156 : decode cX7_laysFamily 156 = .ok (.iadd, 1) := by decide +kernel
theorem dX7_laysFamily_157 : decode cX7_laysFamily 157 = .ok (.iconst 3, 1) := by decide +kernel
theorem dX7_laysFamily_158 : decode cX7_laysFamily 158 = .ok (.iadd, 1) := by decide +kernel
theorem dX7_laysFamily_159 : decode cX7_laysFamily 159 = .ok (.istore 9, 2) := by decide +kernel
theorem dX7_laysFamily_161 : decode cX7_laysFamily 161 = .ok (.iload_n 1, 1) := by decide +kernel
theorem dX7_laysFamily_162 : decode cX7_laysFamily 162 = .ok (.iload 8, 2) := by decide +kernel
theorem dX7_laysFamily_164 : decode cX7_laysFamily 164 = .ok (.ishr, 1) := by decide +kernel
theorem dX7_laysFamily_165 : decode cX7_laysFamily 165 = .ok (.iconst 1, 1) := by decide +kernel
theorem dX7_laysFamily_166 : decode cX7_laysFamily 166 = .ok (.iand, 1) := by decide +kernel
theorem dX7_laysFamily_167 : decode cX7_laysFamily 167 = .ok (.iconst 1, 1) := by decide +kernel
theorem dX7_laysFamily_168 : decode cX7_laysFamily 168 = .ok (.if_icmp .ne 27, 3) := by decide +kernel
theorem dX7_laysFamily_171 : decode cX7_laysFamily 171 = .ok (.aload_n 0, 1) := by decide +kernel
theorem dX7_laysFamily_172 : decode cX7_laysFamily 172 = .ok (.getfield 36, 3) := by decide +kernel
theorem dX7_laysFamily_175 : decode cX7_laysFamily 175 = .ok (.iload 9, 2) := by decide +kernel
theorem dX7_laysFamily_177 : decode cX7_laysFamily 177 = .ok (.baload, 1) := by decide +kernel
theorem dX7_laysFamily_178 : decode cX7_laysFamily 178 = .ok (.ifCond .ne 17, 3) := by decide +kernel
theorem dX7_laysFamily_181 : decode cX7_laysFamily 181 = .ok (.aload_n 0, 1) := by decide +kernel
theorem dX7_laysFamily_182 : decode cX7_laysFamily 182 = .ok (.getfield 36, 3) := by decide +kernel
theorem dX7_laysFamily_185 : decode cX7_laysFamily 185 = .ok (.iload 9, 2) := by decide +kernel
theorem dX7_laysFamily_187 : decode cX7_laysFamily 187 = .ok (.iconst 1, 1) := by decide +kernel
theorem dX7_laysFamily_188 : decode cX7_laysFamily 188 = .ok (.bastore, 1) := by decide +kernel
theorem dX7_laysFamily_189 : decode cX7_laysFamily 189 = .ok (.iinc 5 1, 3) := by decide +kernel
theorem dX7_laysFamily_192 : decode cX7_laysFamily 192 = .ok (.iconst 1, 1) := by decide +kernel
theorem dX7_laysFamily_193 : decode cX7_laysFamily 193 = .ok (.istore 6, 2) := by decide +kernel
theorem dX7_laysFamily_195 : decode cX7_laysFamily 195 = .ok (.iinc 8 1, 3) := by decide +kernel
theorem dX7_laysFamily_198 : decode cX7_laysFamily 198 = .ok (.goto (-118), 3) := by decide +kernel
theorem dX7_laysFamily_201 : decode cX7_laysFamily 201 = .ok (.iinc 7 1, 3) := by decide +kernel
theorem dX7_laysFamily_204 : decode cX7_laysFamily 204 = .ok (.goto (-135), 3) := by decide +kernel
theorem dX7_laysFamily_207 : decode cX7_laysFamily 207 = .ok (.goto (-149), 3) := by decide +kernel
theorem dX7_laysFamily_210 : decode cX7_laysFamily 210 = .ok (.iload 5, 2) := by decide +kernel
theorem dX7_laysFamily_212 : decode cX7_laysFamily 212 = .ok (.ireturn, 1) := by decide +kernel
theorem dX7_familyComes_0 : decode cX7_familyComes 0 = .ok (.iconst 0, 1) := by decide +kernel
theorem dX7_familyComes_1 : decode cX7_familyComes 1 = .ok (.istore_n 2, 1) := by decide +kernel
theorem dX7_familyComes_2 : decode cX7_familyComes 2 = .ok (.iload_n 2, 1) := by decide +kernel
theorem dX7_familyComes_3 : decode cX7_familyComes 3 = .ok (.sipush 343, 3) := by decide +kernel
theorem dX7_familyComes_6 : decode cX7_familyComes 6 = .ok (.if_icmp .ge 44, 3) := by decide +kernel
theorem dX7_familyComes_9 : decode cX7_familyComes 9 = .ok (.aload_n 0, 1) := by decide +kernel
theorem dX7_familyComes_10 : decode cX7_familyComes 10 = .ok (.getfield 36, 3) := by decide +kernel
theorem dX7_familyComes_13 : decode cX7_familyComes 13 = .ok (.iload_n 2, 1) := by decide +kernel
theorem dX7_familyComes_14 : decode cX7_familyComes 14 = .ok (.baload, 1) := by decide +kernel
theorem dX7_familyComes_15 : decode cX7_familyComes 15 = .ok (.ifCond .eq 29, 3) := by decide +kernel
theorem dX7_familyComes_18 : decode cX7_familyComes 18 = .ok (.aload_n 0, 1) := by decide +kernel
theorem dX7_familyComes_19 : decode cX7_familyComes 19 = .ok (.iload_n 2, 1) := by decide +kernel
theorem dX7_familyComes_20 : decode cX7_familyComes 20 = .ok (.bipush 49, 2) := by decide +kernel
theorem dX7_familyComes_22 : decode cX7_familyComes 22 = .ok (.idiv, 1) := by decide +kernel
theorem dX7_familyComes_23 : decode cX7_familyComes 23 = .ok (.iconst 3, 1) := by decide +kernel
theorem dX7_familyComes_24 : decode cX7_familyComes 24 = .ok (.isub, 1) := by decide +kernel
theorem dX7_familyComes_25 : decode cX7_familyComes 25 = .ok (.iload_n 2, 1) := by decide +kernel
theorem dX7_familyComes_26 : decode cX7_familyComes 26 = .ok (.bipush 7, 2) := by decide +kernel
theorem dX7_familyComes_28 : decode cX7_familyComes 28 = .ok (.idiv, 1) := by decide +kernel
theorem dX7_familyComes_29 : decode cX7_familyComes 29 = .ok (.bipush 7, 2) := by decide +kernel
theorem dX7_familyComes_31 : decode cX7_familyComes 31 = .ok (.irem, 1) := by decide +kernel
theorem dX7_familyComes_32 : decode cX7_familyComes 32 = .ok (.iconst 3, 1) := by decide +kernel
theorem dX7_familyComes_33 : decode cX7_familyComes 33 = .ok (.isub, 1) := by decide +kernel
theorem dX7_familyComes_34 : decode cX7_familyComes 34 = .ok (.iload_n 2, 1) := by decide +kernel
theorem dX7_familyComes_35 : decode cX7_familyComes 35 = .ok (.bipush 7, 2) := by decide +kernel
theorem dX7_familyComes_37 : decode cX7_familyComes 37 = .ok (.irem, 1) := by decide +kernel
theorem dX7_familyComes_38 : decode cX7_familyComes 38 = .ok (.iconst 3, 1) := by decide +kernel
theorem dX7_familyComes_39 : decode cX7_familyComes 39 = .ok (.isub, 1) := by decide +kernel
theorem dX7_familyComes_40 : decode cX7_familyComes 40 = .ok (.iload_n 1, 1) := by decide +kernel
theorem dX7_familyComes_41 : decode cX7_familyComes 41 = .ok (.invokevirtual 66, 3) := by decide +kernel
theorem dX7_familyComes_44 : decode cX7_familyComes 44 = .ok (.iinc 2 1, 3) := by decide +kernel
theorem dX7_familyComes_47 : decode cX7_familyComes 47 = .ok (.goto (-45), 3) := by decide +kernel
theorem dX7_familyComes_50 : decode cX7_familyComes 50 = .ok (.return_, 1) := by decide +kernel
theorem dX7_family_0 : decode cX7_family 0 = .ok (.iload_n 1, 1) := by decide +kernel
theorem dX7_family_1 : decode cX7_family 1 = .ok (.iconst 0, 1) := by decide +kernel
theorem dX7_family_2 : decode cX7_family 2 = .ok (.bipush 63, 2) := by decide +kernel
theorem dX7_family_4 : decode cX7_family 4 = .ok (.invokestatic 45, 3) := by decide +kernel
theorem dX7_family_7 : decode cX7_family 7 = .ok (.ifCond .eq 24, 3) := by decide +kernel
theorem dX7_family_10 : decode cX7_family 10 = .ok (.iload_n 2, 1) := by decide +kernel
theorem dX7_family_11 : decode cX7_family 11 = .ok (.iload_n 3, 1) := by decide +kernel
theorem dX7_family_12 : decode cX7_family 12 = .ok (.iload 4, 2) := by decide +kernel
theorem dX7_family_14 : decode cX7_family 14 = .ok (.invokestatic 53, 3) := by decide +kernel
theorem dX7_family_17 : decode cX7_family 17 = .ok (.ifCond .eq 14, 3) := by decide +kernel
theorem dX7_family_20 : decode cX7_family 20 = .ok (.iload 5, 2) := by decide +kernel
theorem dX7_family_22 : decode cX7_family 22 = .ok (.iconst 1, 1) := by decide +kernel
theorem dX7_family_23 : decode cX7_family 23 = .ok (.bipush 60, 2) := by decide +kernel
theorem dX7_family_25 : decode cX7_family 25 = .ok (.invokestatic 45, 3) := by decide +kernel
theorem dX7_family_28 : decode cX7_family 28 = .ok (.ifCond .ne 10, 3) := by decide +kernel
theorem dX7_family_31 : decode cX7_family 31 = .ok (.aload_n 0, 1) := by decide +kernel
theorem dX7_family_32 : decode cX7_family 32 = .ok (.bipush (-2), 2) := by decide +kernel
theorem dX7_family_34 : decode cX7_family 34 = .ok (.invokevirtual 56, 3) := by decide +kernel
theorem dX7_family_37 : decode cX7_family 37 = .ok (.ireturn, 1) := by decide +kernel
theorem dX7_family_38 : decode cX7_family 38 = .ok (.aload_n 0, 1) := by decide +kernel
theorem dX7_family_39 : decode cX7_family 39 = .ok (.iload_n 1, 1) := by decide +kernel
theorem dX7_family_40 : decode cX7_family 40 = .ok (.iload_n 2, 1) := by decide +kernel
theorem dX7_family_41 : decode cX7_family 41 = .ok (.iload_n 3, 1) := by decide +kernel
theorem dX7_family_42 : decode cX7_family 42 = .ok (.iload 4, 2) := by decide +kernel
theorem dX7_family_44 : decode cX7_family 44 = .ok (.invokevirtual 73, 3) := by decide +kernel
theorem dX7_family_47 : decode cX7_family 47 = .ok (.istore 6, 2) := by decide +kernel
theorem dX7_family_49 : decode cX7_family 49 = .ok (.aload_n 0, 1) := by decide +kernel
theorem dX7_family_50 : decode cX7_family 50 = .ok (.getfield 7, 3) := by decide +kernel
theorem dX7_family_53 : decode cX7_family 53 = .ok (.iconst 0, 1) := by decide +kernel
theorem dX7_family_54 : decode cX7_family 54 = .ok (.iaload, 1) := by decide +kernel
theorem dX7_family_55 : decode cX7_family 55 = .ok (.iload 6, 2) := by decide +kernel
theorem dX7_family_57 : decode cX7_family 57 = .ok (.iadd, 1) := by decide +kernel
theorem dX7_family_58 : decode cX7_family 58 = .ok (.bipush 32, 2) := by decide +kernel
theorem dX7_family_60 : decode cX7_family 60 = .ok (.if_icmp .le 10, 3) := by decide +kernel
theorem dX7_family_63 : decode cX7_family 63 = .ok (.aload_n 0, 1) := by decide +kernel
theorem dX7_family_64 : decode cX7_family 64 = .ok (.bipush (-4), 2) := by decide +kernel
theorem dX7_family_66 : decode cX7_family 66 = .ok (.invokevirtual 56, 3) := by decide +kernel
theorem dX7_family_69 : decode cX7_family 69 = .ok (.ireturn, 1) := by decide +kernel
theorem dX7_family_70 : decode cX7_family 70 = .ok (.aload_n 0, 1) := by decide +kernel
theorem dX7_family_71 : decode cX7_family 71 = .ok (.invokevirtual 60, 3) := by decide +kernel
theorem dX7_family_74 : decode cX7_family 74 = .ok (.aload_n 0, 1) := by decide +kernel
theorem dX7_family_75 : decode cX7_family 75 = .ok (.invokevirtual 63, 3) := by decide +kernel
theorem dX7_family_78 : decode cX7_family 78 = .ok (.aload_n 0, 1) := by decide +kernel
theorem dX7_family_79 : decode cX7_family 79 = .ok (.iload 5, 2) := by decide +kernel
theorem dX7_family_81 : decode cX7_family 81 = .ok (.invokevirtual 77, 3) := by decide +kernel
theorem dX7_family_84 : decode cX7_family 84 = .ok (.iload 6, 2) := by decide +kernel
theorem dX7_family_86 : decode cX7_family 86 = .ok (.ireturn, 1) := by decide +kernel
theorem dX7_off_0 : decode cX7_off 0 = .ok (.aload_n 0, 1) := by decide +kernel
theorem dX7_off_1 : decode cX7_off 1 = .ok (.iload_n 1, 1) := by decide +kernel
theorem dX7_off_2 : decode cX7_off 2 = .ok (.invokevirtual 81, 3) := by decide +kernel
theorem dX7_off_5 : decode cX7_off 5 = .ok (.ifCond .eq 13, 3) := by decide +kernel
theorem dX7_off_8 : decode cX7_off 8 = .ok (.iload_n 2, 1) := by decide +kernel
theorem dX7_off_9 : decode cX7_off 9 = .ok (.iconst 1, 1) := by decide +kernel
theorem dX7_off_10 : decode cX7_off 10 = .ok (.bipush 60, 2) := by decide +kernel
theorem dX7_off_12 : decode cX7_off 12 = .ok (.invokestatic 45, 3) := by decide +kernel
theorem dX7_off_15 : decode cX7_off 15 = .ok (.ifCond .ne 10, 3) := by decide +kernel
theorem dX7_off_18 : decode cX7_off 18 = .ok (.aload_n 0, 1) := by decide +kernel
theorem dX7_off_19 : decode cX7_off 19 = .ok (.bipush (-2), 2) := by decide +kernel
theorem dX7_off_21 : decode cX7_off 21 = .ok (.invokevirtual 56, 3) := by decide +kernel
theorem dX7_off_24 : decode cX7_off 24 = .ok (.ireturn, 1) := by decide +kernel
theorem dX7_off_25 : decode cX7_off 25 = .ok (.aload_n 0, 1) := by decide +kernel
theorem dX7_off_26 : decode cX7_off 26 = .ok (.invokevirtual 60, 3) := by decide +kernel
theorem dX7_off_29 : decode cX7_off 29 = .ok (.aload_n 0, 1) := by decide +kernel
theorem dX7_off_30 : decode cX7_off 30 = .ok (.invokevirtual 63, 3) := by decide +kernel
theorem dX7_off_33 : decode cX7_off 33 = .ok (.aload_n 0, 1) := by decide +kernel
theorem dX7_off_34 : decode cX7_off 34 = .ok (.iload_n 1, 1) := by decide +kernel
theorem dX7_off_35 : decode cX7_off 35 = .ok (.iconst 3, 1) := by decide +kernel
theorem dX7_off_36 : decode cX7_off 36 = .ok (.invokevirtual 85, 3) := by decide +kernel
theorem dX7_off_39 : decode cX7_off 39 = .ok (.istore_n 3, 1) := by decide +kernel
theorem dX7_off_40 : decode cX7_off 40 = .ok (.aload_n 0, 1) := by decide +kernel
theorem dX7_off_41 : decode cX7_off 41 = .ok (.getfield 7, 3) := by decide +kernel
theorem dX7_off_44 : decode cX7_off 44 = .ok (.iconst 4, 1) := by decide +kernel
theorem dX7_off_45 : decode cX7_off 45 = .ok (.iconst 4, 1) := by decide +kernel
theorem dX7_off_46 : decode cX7_off 46 = .ok (.iload_n 1, 1) := by decide +kernel
theorem dX7_off_47 : decode cX7_off 47 = .ok (.imul, 1) := by decide +kernel
theorem dX7_off_48 : decode cX7_off 48 = .ok (.iadd, 1) := by decide +kernel
theorem dX7_off_49 : decode cX7_off 49 = .ok (.iload_n 2, 1) := by decide +kernel
theorem dX7_off_50 : decode cX7_off 50 = .ok (.iastore, 1) := by decide +kernel
theorem dX7_off_51 : decode cX7_off 51 = .ok (.iload_n 3, 1) := by decide +kernel
theorem dX7_off_52 : decode cX7_off 52 = .ok (.ireturn, 1) := by decide +kernel
theorem dX7_goes_0 : decode cX7_goes 0 = .ok (.iconst 1, 1) := by decide +kernel
theorem dX7_goes_1 : decode cX7_goes 1 = .ok (.iconst 4, 1) := by decide +kernel
theorem dX7_goes_2 : decode cX7_goes 2 = .ok (.iload_n 1, 1) := by decide +kernel
theorem dX7_goes_3 : decode cX7_goes 3 = .ok (.imul, 1) := by decide +kernel
theorem dX7_goes_4 : decode cX7_goes 4 = .ok (.iadd, 1) := by decide +kernel
theorem dX7_goes_5 : decode cX7_goes 5 = .ok (.istore_n 2, 1) := by decide +kernel
theorem dX7_goes_6 : decode cX7_goes 6 = .ok (.iload_n 2, 1) := by decide +kernel
theorem dX7_goes_7 : decode cX7_goes 7 = .ok (.iconst 4, 1) := by decide +kernel
theorem dX7_goes_8 : decode cX7_goes 8 = .ok (.aload_n 0, 1) := by decide +kernel
theorem dX7_goes_9 : decode cX7_goes 9 = .ok (.getfield 7, 3) := by decide +kernel
theorem dX7_goes_12 : decode cX7_goes 12 = .ok (.iconst 0, 1) := by decide +kernel
theorem dX7_goes_13 : decode cX7_goes 13 = .ok (.iaload, 1) := by decide +kernel
theorem dX7_goes_14 : decode cX7_goes 14 = .ok (.imul, 1) := by decide +kernel
theorem dX7_goes_15 : decode cX7_goes 15 = .ok (.iconst 3, 1) := by decide +kernel
theorem dX7_goes_16 : decode cX7_goes 16 = .ok (.isub, 1) := by decide +kernel
theorem dX7_goes_17 : decode cX7_goes 17 = .ok (.if_icmp .ge 23, 3) := by decide +kernel
theorem dX7_goes_20 : decode cX7_goes 20 = .ok (.aload_n 0, 1) := by decide +kernel
theorem dX7_goes_21 : decode cX7_goes 21 = .ok (.getfield 7, 3) := by decide +kernel
theorem dX7_goes_24 : decode cX7_goes 24 = .ok (.iload_n 2, 1) := by decide +kernel
theorem dX7_goes_25 : decode cX7_goes 25 = .ok (.aload_n 0, 1) := by decide +kernel
theorem dX7_goes_26 : decode cX7_goes 26 = .ok (.getfield 7, 3) := by decide +kernel
theorem dX7_goes_29 : decode cX7_goes 29 = .ok (.iload_n 2, 1) := by decide +kernel
theorem dX7_goes_30 : decode cX7_goes 30 = .ok (.iconst 4, 1) := by decide +kernel
theorem dX7_goes_31 : decode cX7_goes 31 = .ok (.iadd, 1) := by decide +kernel
theorem dX7_goes_32 : decode cX7_goes 32 = .ok (.iaload, 1) := by decide +kernel
theorem dX7_goes_33 : decode cX7_goes 33 = .ok (.iastore, 1) := by decide +kernel
theorem dX7_goes_34 : decode cX7_goes 34 = .ok (.iinc 2 1, 3) := by decide +kernel
theorem dX7_goes_37 : decode cX7_goes 37 = .ok (.goto (-31), 3) := by decide +kernel
theorem dX7_goes_40 : decode cX7_goes 40 = .ok (.aload_n 0, 1) := by decide +kernel
theorem dX7_goes_41 : decode cX7_goes 41 = .ok (.getfield 7, 3) := by decide +kernel
theorem dX7_goes_44 : decode cX7_goes 44 = .ok (.iconst 0, 1) := by decide +kernel
theorem dX7_goes_45 : decode cX7_goes 45 = .ok (.dup2, 1) := by decide +kernel
theorem dX7_goes_46 : decode cX7_goes 46 = .ok (.iaload, 1) := by decide +kernel
theorem dX7_goes_47 : decode cX7_goes 47 = .ok (.iconst 1, 1) := by decide +kernel
theorem dX7_goes_48 : decode cX7_goes 48 = .ok (.isub, 1) := by decide +kernel
theorem dX7_goes_49 : decode cX7_goes 49 = .ok (.iastore, 1) := by decide +kernel
theorem dX7_goes_50 : decode cX7_goes 50 = .ok (.return_, 1) := by decide +kernel
theorem dX7_drop_0 : decode cX7_drop 0 = .ok (.aload_n 0, 1) := by decide +kernel
theorem dX7_drop_1 : decode cX7_drop 1 = .ok (.iload_n 1, 1) := by decide +kernel
theorem dX7_drop_2 : decode cX7_drop 2 = .ok (.invokevirtual 81, 3) := by decide +kernel
theorem dX7_drop_5 : decode cX7_drop 5 = .ok (.ifCond .eq 9, 3) := by decide +kernel
theorem dX7_drop_8 : decode cX7_drop 8 = .ok (.iload_n 1, 1) := by decide +kernel
theorem dX7_drop_9 : decode cX7_drop 9 = .ok (.bipush 6, 2) := by decide +kernel
theorem dX7_drop_11 : decode cX7_drop 11 = .ok (.if_icmp .ge 10, 3) := by decide +kernel
theorem dX7_drop_14 : decode cX7_drop 14 = .ok (.aload_n 0, 1) := by decide +kernel
theorem dX7_drop_15 : decode cX7_drop 15 = .ok (.bipush (-2), 2) := by decide +kernel
theorem dX7_drop_17 : decode cX7_drop 17 = .ok (.invokevirtual 56, 3) := by decide +kernel
theorem dX7_drop_20 : decode cX7_drop 20 = .ok (.ireturn, 1) := by decide +kernel
theorem dX7_drop_21 : decode cX7_drop 21 = .ok (.aload_n 0, 1) := by decide +kernel
theorem dX7_drop_22 : decode cX7_drop 22 = .ok (.invokevirtual 60, 3) := by decide +kernel
theorem dX7_drop_25 : decode cX7_drop 25 = .ok (.aload_n 0, 1) := by decide +kernel
theorem dX7_drop_26 : decode cX7_drop 26 = .ok (.invokevirtual 63, 3) := by decide +kernel
theorem dX7_drop_29 : decode cX7_drop 29 = .ok (.aload_n 0, 1) := by decide +kernel
theorem dX7_drop_30 : decode cX7_drop 30 = .ok (.iload_n 1, 1) := by decide +kernel
theorem dX7_drop_31 : decode cX7_drop 31 = .ok (.invokevirtual 89, 3) := by decide +kernel
theorem dX7_drop_34 : decode cX7_drop 34 = .ok (.aload_n 0, 1) := by decide +kernel
theorem dX7_drop_35 : decode cX7_drop 35 = .ok (.getfield 7, 3) := by decide +kernel
theorem dX7_drop_38 : decode cX7_drop 38 = .ok (.iconst 0, 1) := by decide +kernel
theorem dX7_drop_39 : decode cX7_drop 39 = .ok (.iaload, 1) := by decide +kernel
theorem dX7_drop_40 : decode cX7_drop 40 = .ok (.ireturn, 1) := by decide +kernel
theorem dX7_anew_0 : decode cX7_anew 0 = .ok (.aload_n 0, 1) := by decide +kernel
theorem dX7_anew_1 : decode cX7_anew 1 = .ok (.invokevirtual 60, 3) := by decide +kernel
theorem dX7_anew_4 : decode cX7_anew 4 = .ok (.aload_n 0, 1) := by decide +kernel
theorem dX7_anew_5 : decode cX7_anew 5 = .ok (.invokevirtual 63, 3) := by decide +kernel
theorem dX7_anew_8 : decode cX7_anew 8 = .ok (.aload_n 0, 1) := by decide +kernel
theorem dX7_anew_9 : decode cX7_anew 9 = .ok (.getfield 7, 3) := by decide +kernel
theorem dX7_anew_12 : decode cX7_anew 12 = .ok (.iconst 0, 1) := by decide +kernel
theorem dX7_anew_13 : decode cX7_anew 13 = .ok (.iaload, 1) := by decide +kernel
theorem dX7_anew_14 : decode cX7_anew 14 = .ok (.istore_n 1, 1) := by decide +kernel
theorem dX7_anew_15 : decode cX7_anew 15 = .ok (.aload_n 0, 1) := by decide +kernel
theorem dX7_anew_16 : decode cX7_anew 16 = .ok (.getfield 7, 3) := by decide +kernel
theorem dX7_anew_19 : decode cX7_anew 19 = .ok (.iconst 0, 1) := by decide +kernel
theorem dX7_anew_20 : decode cX7_anew 20 = .ok (.bipush 6, 2) := by decide +kernel
theorem dX7_anew_22 : decode cX7_anew 22 = .ok (.iastore, 1) := by decide +kernel
theorem dX7_anew_23 : decode cX7_anew 23 = .ok (.iconst 0, 1) := by decide +kernel
theorem dX7_anew_24 : decode cX7_anew 24 = .ok (.istore_n 2, 1) := by decide +kernel
theorem dX7_anew_25 : decode cX7_anew 25 = .ok (.iload_n 2, 1) := by decide +kernel
theorem dX7_anew_26 : decode cX7_anew 26 = .ok (.bipush 6, 2) := by decide +kernel
theorem dX7_anew_28 : decode cX7_anew 28 = .ok (.if_icmp .ge 21, 3) := by decide +kernel
theorem dX7_anew_31 : decode cX7_anew 31 = .ok (.aload_n 0, 1) := by decide +kernel
theorem dX7_anew_32 : decode cX7_anew 32 = .ok (.getfield 7, 3) := by decide +kernel
theorem dX7_anew_35 : decode cX7_anew 35 = .ok (.iconst 4, 1) := by decide +kernel
theorem dX7_anew_36 : decode cX7_anew 36 = .ok (.iconst 4, 1) := by decide +kernel
theorem dX7_anew_37 : decode cX7_anew 37 = .ok (.iload_n 2, 1) := by decide +kernel
theorem dX7_anew_38 : decode cX7_anew 38 = .ok (.imul, 1) := by decide +kernel
theorem dX7_anew_39 : decode cX7_anew 39 = .ok (.iadd, 1) := by decide +kernel
theorem dX7_anew_40 : decode cX7_anew 40 = .ok (.bipush 20, 2) := by decide +kernel
theorem dX7_anew_42 : decode cX7_anew 42 = .ok (.iastore, 1) := by decide +kernel
theorem dX7_anew_43 : decode cX7_anew 43 = .ok (.iinc 2 1, 3) := by decide +kernel
theorem dX7_anew_46 : decode cX7_anew 46 = .ok (.goto (-21), 3) := by decide +kernel
theorem dX7_anew_49 : decode cX7_anew 49 = .ok (.iload_n 1, 1) := by decide +kernel
theorem dX7_anew_50 : decode cX7_anew 50 = .ok (.ireturn, 1) := by decide +kernel
theorem dX7_draw_0 : decode cX7_draw 0 = .ok (.iload_n 1, 1) := by decide +kernel
theorem dX7_draw_1 : decode cX7_draw 1 = .ok (.iconst 0, 1) := by decide +kernel
theorem dX7_draw_2 : decode cX7_draw 2 = .ok (.ldc 92, 2) := by decide +kernel
theorem dX7_draw_4 : decode cX7_draw 4 = .ok (.invokestatic 45, 3) := by decide +kernel
theorem dX7_draw_7 : decode cX7_draw 7 = .ok (.ifCond .eq 13, 3) := by decide +kernel
theorem dX7_draw_10 : decode cX7_draw 10 = .ok (.iload_n 2, 1) := by decide +kernel
theorem dX7_draw_11 : decode cX7_draw 11 = .ok (.iconst 1, 1) := by decide +kernel
theorem dX7_draw_12 : decode cX7_draw 12 = .ok (.bipush 26, 2) := by decide +kernel
theorem dX7_draw_14 : decode cX7_draw 14 = .ok (.invokestatic 45, 3) := by decide +kernel
theorem dX7_draw_17 : decode cX7_draw 17 = .ok (.ifCond .ne 10, 3) := by decide +kernel
theorem dX7_draw_20 : decode cX7_draw 20 = .ok (.aload_n 0, 1) := by decide +kernel
theorem dX7_draw_21 : decode cX7_draw 21 = .ok (.bipush (-2), 2) := by decide +kernel
theorem dX7_draw_23 : decode cX7_draw 23 = .ok (.invokevirtual 56, 3) := by decide +kernel
theorem dX7_draw_26 : decode cX7_draw 26 = .ok (.ireturn, 1) := by decide +kernel
theorem dX7_draw_27 : decode cX7_draw 27 = .ok (.aload_n 0, 1) := by decide +kernel
theorem dX7_draw_28 : decode cX7_draw 28 = .ok (.invokevirtual 60, 3) := by decide +kernel
theorem dX7_draw_31 : decode cX7_draw 31 = .ok (.aload_n 0, 1) := by decide +kernel
theorem dX7_draw_32 : decode cX7_draw 32 = .ok (.invokevirtual 63, 3) := by decide +kernel
theorem dX7_draw_35 : decode cX7_draw 35 = .ok (.aload_n 0, 1) := by decide +kernel
theorem dX7_draw_36 : decode cX7_draw 36 = .ok (.getfield 7, 3) := by decide +kernel
theorem dX7_draw_39 : decode cX7_draw 39 = .ok (.iconst 0, 1) := by decide +kernel
theorem dX7_draw_40 : decode cX7_draw 40 = .ok (.bipush 6, 2) := by decide +kernel
theorem dX7_draw_42 : decode cX7_draw 42 = .ok (.iastore, 1) := by decide +kernel
theorem dX7_draw_43 : decode cX7_draw 43 = .ok (.iload_n 1, 1) := by decide +kernel
theorem dX7_draw_44 : decode cX7_draw 44 = .ok (.i2l, 1) := by decide +kernel
theorem dX7_draw_45 : decode cX7_draw 45 = .ok (.lstore_n 3, 1) := by decide +kernel
theorem dX7_draw_46 : decode cX7_draw 46 = .ok (.iconst 0, 1) := by decide +kernel
theorem dX7_draw_47 : decode cX7_draw 47 = .ok (.istore 5, 2) := by decide +kernel
theorem dX7_draw_49 : decode cX7_draw 49 = .ok (.iload 5, 2) := by decide +kernel
theorem dX7_draw_51 : decode cX7_draw 51 = .ok (.iload_n 2, 1) := by decide +kernel
theorem dX7_draw_52 : decode cX7_draw 52 = .ok (.if_icmp .ge 107, 3) := by decide +kernel
theorem dX7_draw_55 : decode cX7_draw 55 = .ok (.lload_n 3, 1) := by decide +kernel
theorem dX7_draw_56 : decode cX7_draw 56 = .ok (.ldc2_w 93, 3) := by decide +kernel
theorem dX7_draw_59 : decode cX7_draw 59 = .ok (.lmul, 1) := by decide +kernel
theorem dX7_draw_60 : decode cX7_draw 60 = .ok (.ldc2_w 95, 3) := by decide +kernel
theorem dX7_draw_63 : decode cX7_draw 63 = .ok (.ladd, 1) := by decide +kernel
theorem dX7_draw_64 : decode cX7_draw 64 = .ok (.ldc2_w 97, 3) := by decide +kernel
theorem dX7_draw_67 : decode cX7_draw 67 = .ok (.lrem, 1) := by decide +kernel
theorem dX7_draw_68 : decode cX7_draw 68 = .ok (.lstore_n 3, 1) := by decide +kernel
theorem dX7_draw_69 : decode cX7_draw 69 = .ok (.lload_n 3, 1) := by decide +kernel
theorem dX7_draw_70 : decode cX7_draw 70 = .ok (.ldc2_w 99, 3) := by decide +kernel
theorem dX7_draw_73 : decode cX7_draw 73 = .ok (.ldiv, 1) := by decide +kernel
theorem dX7_draw_74 : decode cX7_draw 74 = .ok (.ldc2_w 101, 3) := by decide +kernel
theorem dX7_draw_77 : decode cX7_draw 77 = .ok (.lrem, 1) := by decide +kernel
theorem dX7_draw_78 : decode cX7_draw 78 = .ok (.l2i, 1) := by decide +kernel
theorem dX7_draw_79 : decode cX7_draw 79 = .ok (.iconst 3, 1) := by decide +kernel
theorem dX7_draw_80 : decode cX7_draw 80 = .ok (.isub, 1) := by decide +kernel
theorem dX7_draw_81 : decode cX7_draw 81 = .ok (.istore 6, 2) := by decide +kernel
theorem dX7_draw_83 : decode cX7_draw 83 = .ok (.lload_n 3, 1) := by decide +kernel
theorem dX7_draw_84 : decode cX7_draw 84 = .ok (.ldc2_w 103, 3) := by decide +kernel
theorem dX7_draw_87 : decode cX7_draw 87 = .ok (.ldiv, 1) := by decide +kernel
theorem dX7_draw_88 : decode cX7_draw 88 = .ok (.ldc2_w 101, 3) := by decide +kernel
theorem dX7_draw_91 : decode cX7_draw 91 = .ok (.lrem, 1) := by decide +kernel
theorem dX7_draw_92 : decode cX7_draw 92 = .ok (.l2i, 1) := by decide +kernel
theorem dX7_draw_93 : decode cX7_draw 93 = .ok (.iconst 3, 1) := by decide +kernel
theorem dX7_draw_94 : decode cX7_draw 94 = .ok (.isub, 1) := by decide +kernel
theorem dX7_draw_95 : decode cX7_draw 95 = .ok (.istore 7, 2) := by decide +kernel
theorem dX7_draw_97 : decode cX7_draw 97 = .ok (.lload_n 3, 1) := by decide +kernel
theorem dX7_draw_98 : decode cX7_draw 98 = .ok (.ldc2_w 105, 3) := by decide +kernel
theorem dX7_draw_101 : decode cX7_draw 101 = .ok (.ldiv, 1) := by decide +kernel
theorem dX7_draw_102 : decode cX7_draw 102 = .ok (.ldc2_w 101, 3) := by decide +kernel
theorem dX7_draw_105 : decode cX7_draw 105 = .ok (.lrem, 1) := by decide +kernel
theorem dX7_draw_106 : decode cX7_draw 106 = .ok (.l2i, 1) := by decide +kernel
theorem dX7_draw_107 : decode cX7_draw 107 = .ok (.iconst 3, 1) := by decide +kernel
theorem dX7_draw_108 : decode cX7_draw 108 = .ok (.isub, 1) := by decide +kernel
theorem dX7_draw_109 : decode cX7_draw 109 = .ok (.istore 8, 2) := by decide +kernel
theorem dX7_draw_111 : decode cX7_draw 111 = .ok (.aload_n 0, 1) := by decide +kernel
theorem dX7_draw_112 : decode cX7_draw 112 = .ok (.iload 6, 2) := by decide +kernel
theorem dX7_draw_114 : decode cX7_draw 114 = .ok (.ifCond .ne 17, 3) := by decide +kernel
theorem dX7_draw_117 : decode cX7_draw 117 = .ok (.iload 7, 2) := by decide +kernel
theorem dX7_draw_119 : decode cX7_draw 119 = .ok (.ifCond .ne 12, 3) := by decide +kernel
theorem dX7_draw_122 : decode cX7_draw 122 = .ok (.iload 8, 2) := by decide +kernel
theorem dX7_draw_124 : decode cX7_draw 124 = .ok (.ifCond .ne 7, 3) := by decide +kernel
theorem dX7_draw_127 : decode cX7_draw 127 = .ok (.iconst 1, 1) := by decide +kernel
theorem dX7_draw_128 : decode cX7_draw 128 = .ok (.goto 5, 3) := by decide +kernel
theorem dX7_draw_131 : decode cX7_draw 131 = .ok (.iload 6, 2) := by decide +kernel
theorem dX7_draw_133 : decode cX7_draw 133 = .ok (.iload 7, 2) := by decide +kernel
theorem dX7_draw_135 : decode cX7_draw 135 = .ok (.iload 8, 2) := by decide +kernel
theorem dX7_draw_137 : decode cX7_draw 137 = .ok (.bipush 10, 2) := by decide +kernel
theorem dX7_draw_139 : decode cX7_draw 139 = .ok (.lload_n 3, 1) := by decide +kernel
theorem dX7_draw_140 : decode cX7_draw 140 = .ok (.ldc2_w 107, 3) := by decide +kernel
theorem dX7_draw_143 : decode cX7_draw 143 = .ok (.ldiv, 1) := by decide +kernel
theorem dX7_draw_144 : decode cX7_draw 144 = .ok (.ldc2_w 109, 3) := by decide +kernel
theorem dX7_draw_147 : decode cX7_draw 147 = .ok (.lrem, 1) := by decide +kernel
theorem dX7_draw_148 : decode cX7_draw 148 = .ok (.l2i, 1) := by decide +kernel
theorem dX7_draw_149 : decode cX7_draw 149 = .ok (.iadd, 1) := by decide +kernel
theorem dX7_draw_150 : decode cX7_draw 150 = .ok (.invokevirtual 66, 3) := by decide +kernel
theorem dX7_draw_153 : decode cX7_draw 153 = .ok (.iinc 5 1, 3) := by decide +kernel
theorem dX7_draw_156 : decode cX7_draw 156 = .ok (.goto (-107), 3) := by decide +kernel
theorem dX7_draw_159 : decode cX7_draw 159 = .ok (.aload_n 0, 1) := by decide +kernel
theorem dX7_draw_160 : decode cX7_draw 160 = .ok (.invokevirtual 111, 3) := by decide +kernel
theorem dX7_draw_163 : decode cX7_draw 163 = .ok (.aload_n 0, 1) := by decide +kernel
theorem dX7_draw_164 : decode cX7_draw 164 = .ok (.getfield 114, 3) := by decide +kernel
theorem dX7_draw_167 : decode cX7_draw 167 = .ok (.ireturn, 1) := by decide +kernel
theorem dX7_common_0 : decode cX7_common 0 = .ok (.iload_n 0, 1) := by decide +kernel
theorem dX7_common_1 : decode cX7_common 1 = .ok (.ifCond .ge 8, 3) := by decide +kernel
theorem dX7_common_4 : decode cX7_common 4 = .ok (.iload_n 0, 1) := by decide +kernel
theorem dX7_common_5 : decode cX7_common 5 = .ok (.ineg, 1) := by decide +kernel
theorem dX7_common_6 : decode cX7_common 6 = .ok (.goto 4, 3) := by decide +kernel
theorem dX7_common_9 : decode cX7_common 9 = .ok (.iload_n 0, 1) := by decide +kernel
theorem dX7_common_10 : decode cX7_common 10 = .ok (.istore_n 2, 1) := by decide +kernel
theorem dX7_common_11 : decode cX7_common 11 = .ok (.iload_n 1, 1) := by decide +kernel
theorem dX7_common_12 : decode cX7_common 12 = .ok (.ifCond .ge 8, 3) := by decide +kernel
theorem dX7_common_15 : decode cX7_common 15 = .ok (.iload_n 1, 1) := by decide +kernel
theorem dX7_common_16 : decode cX7_common 16 = .ok (.ineg, 1) := by decide +kernel
theorem dX7_common_17 : decode cX7_common 17 = .ok (.goto 4, 3) := by decide +kernel
theorem dX7_common_20 : decode cX7_common 20 = .ok (.iload_n 1, 1) := by decide +kernel
theorem dX7_common_21 : decode cX7_common 21 = .ok (.istore_n 3, 1) := by decide +kernel
theorem dX7_common_22 : decode cX7_common 22 = .ok (.iload_n 3, 1) := by decide +kernel
theorem dX7_common_23 : decode cX7_common 23 = .ok (.ifCond .eq 16, 3) := by decide +kernel
theorem dX7_common_26 : decode cX7_common 26 = .ok (.iload_n 2, 1) := by decide +kernel
theorem dX7_common_27 : decode cX7_common 27 = .ok (.iload_n 3, 1) := by decide +kernel
theorem dX7_common_28 : decode cX7_common 28 = .ok (.irem, 1) := by decide +kernel
theorem dX7_common_29 : decode cX7_common 29 = .ok (.istore 4, 2) := by decide +kernel
theorem dX7_common_31 : decode cX7_common 31 = .ok (.iload_n 3, 1) := by decide +kernel
theorem dX7_common_32 : decode cX7_common 32 = .ok (.istore_n 2, 1) := by decide +kernel
theorem dX7_common_33 : decode cX7_common 33 = .ok (.iload 4, 2) := by decide +kernel
theorem dX7_common_35 : decode cX7_common 35 = .ok (.istore_n 3, 1) := by decide +kernel
theorem dX7_common_36 : decode cX7_common 36 = .ok (.goto (-14), 3) := by decide +kernel
theorem dX7_common_39 : decode cX7_common 39 = .ok (.iload_n 2, 1) := by decide +kernel
theorem dX7_common_40 : decode cX7_common 40 = .ok (.ireturn, 1) := by decide +kernel
theorem dX7_determinant_0 : decode cX7_determinant 0 = .ok (.aload_n 0, 1) := by decide +kernel
theorem dX7_determinant_1 : decode cX7_determinant 1 = .ok (.getfield 7, 3) := by decide +kernel
theorem dX7_determinant_4 : decode cX7_determinant 4 = .ok (.astore 5, 2) := by decide +kernel
theorem dX7_determinant_6 : decode cX7_determinant 6 = .ok (.iconst 1, 1) := by decide +kernel
theorem dX7_determinant_7 : decode cX7_determinant 7 = .ok (.iconst 4, 1) := by decide +kernel
theorem dX7_determinant_8 : decode cX7_determinant 8 = .ok (.iload_n 1, 1) := by decide +kernel
theorem dX7_determinant_9 : decode cX7_determinant 9 = .ok (.imul, 1) := by decide +kernel
theorem dX7_determinant_10 : decode cX7_determinant 10 = .ok (.iadd, 1) := by decide +kernel
theorem dX7_determinant_11 : decode cX7_determinant 11 = .ok (.istore 6, 2) := by decide +kernel
theorem dX7_determinant_13 : decode cX7_determinant 13 = .ok (.iconst 1, 1) := by decide +kernel
theorem dX7_determinant_14 : decode cX7_determinant 14 = .ok (.iconst 4, 1) := by decide +kernel
theorem dX7_determinant_15 : decode cX7_determinant 15 = .ok (.iload_n 2, 1) := by decide +kernel
theorem dX7_determinant_16 : decode cX7_determinant 16 = .ok (.imul, 1) := by decide +kernel
theorem dX7_determinant_17 : decode cX7_determinant 17 = .ok (.iadd, 1) := by decide +kernel
theorem dX7_determinant_18 : decode cX7_determinant 18 = .ok (.istore 7, 2) := by decide +kernel
theorem dX7_determinant_20 : decode cX7_determinant 20 = .ok (.iconst 1, 1) := by decide +kernel
theorem dX7_determinant_21 : decode cX7_determinant 21 = .ok (.iconst 4, 1) := by decide +kernel
theorem dX7_determinant_22 : decode cX7_determinant 22 = .ok (.iload_n 3, 1) := by decide +kernel
theorem dX7_determinant_23 : decode cX7_determinant 23 = .ok (.imul, 1) := by decide +kernel
theorem dX7_determinant_24 : decode cX7_determinant 24 = .ok (.iadd, 1) := by decide +kernel
theorem dX7_determinant_25 : decode cX7_determinant 25 = .ok (.istore 8, 2) := by decide +kernel
theorem dX7_determinant_27 : decode cX7_determinant 27 = .ok (.iload 4, 2) := by decide +kernel
theorem dX7_determinant_29 : decode cX7_determinant 29 = .ok (.ifCond .ne 7, 3) := by decide +kernel
theorem dX7_determinant_32 : decode cX7_determinant 32 = .ok (.iconst 3, 1) := by decide +kernel
theorem dX7_determinant_33 : decode cX7_determinant 33 = .ok (.goto 4, 3) := by decide +kernel
theorem dX7_determinant_36 : decode cX7_determinant 36 = .ok (.iconst 0, 1) := by decide +kernel
theorem dX7_determinant_37 : decode cX7_determinant 37 = .ok (.istore 9, 2) := by decide +kernel
theorem dX7_determinant_39 : decode cX7_determinant 39 = .ok (.iload 4, 2) := by decide +kernel
theorem dX7_determinant_41 : decode cX7_determinant 41 = .ok (.iconst 1, 1) := by decide +kernel
theorem dX7_determinant_42 : decode cX7_determinant 42 = .ok (.if_icmp .ne 7, 3) := by decide +kernel
theorem dX7_determinant_45 : decode cX7_determinant 45 = .ok (.iconst 3, 1) := by decide +kernel
theorem dX7_determinant_46 : decode cX7_determinant 46 = .ok (.goto 4, 3) := by decide +kernel
theorem dX7_determinant_49 : decode cX7_determinant 49 = .ok (.iconst 1, 1) := by decide +kernel
theorem dX7_determinant_50 : decode cX7_determinant 50 = .ok (.istore 10, 2) := by decide +kernel
theorem dX7_determinant_52 : decode cX7_determinant 52 = .ok (.iload 4, 2) := by decide +kernel
theorem dX7_determinant_54 : decode cX7_determinant 54 = .ok (.iconst 2, 1) := by decide +kernel
theorem dX7_determinant_55 : decode cX7_determinant 55 = .ok (.if_icmp .ne 7, 3) := by decide +kernel
theorem dX7_determinant_58 : decode cX7_determinant 58 = .ok (.iconst 3, 1) := by decide +kernel
theorem dX7_determinant_59 : decode cX7_determinant 59 = .ok (.goto 4, 3) := by decide +kernel
theorem dX7_determinant_62 : decode cX7_determinant 62 = .ok (.iconst 2, 1) := by decide +kernel
theorem dX7_determinant_63 : decode cX7_determinant 63 = .ok (.istore 11, 2) := by decide +kernel
theorem dX7_determinant_65 : decode cX7_determinant 65 = .ok (.aload 5, 2) := by decide +kernel
theorem dX7_determinant_67 : decode cX7_determinant 67 = .ok (.iload 6, 2) := by decide +kernel
theorem dX7_determinant_69 : decode cX7_determinant 69 = .ok (.iload 9, 2) := by decide +kernel
theorem dX7_determinant_71 : decode cX7_determinant 71 = .ok (.iadd, 1) := by decide +kernel
theorem dX7_determinant_72 : decode cX7_determinant 72 = .ok (.iaload, 1) := by decide +kernel
theorem dX7_determinant_73 : decode cX7_determinant 73 = .ok (.aload 5, 2) := by decide +kernel
theorem dX7_determinant_75 : decode cX7_determinant 75 = .ok (.iload 7, 2) := by decide +kernel
theorem dX7_determinant_77 : decode cX7_determinant 77 = .ok (.iload 10, 2) := by decide +kernel
theorem dX7_determinant_79 : decode cX7_determinant 79 = .ok (.iadd, 1) := by decide +kernel
theorem dX7_determinant_80 : decode cX7_determinant 80 = .ok (.iaload, 1) := by decide +kernel
theorem dX7_determinant_81 : decode cX7_determinant 81 = .ok (.aload 5, 2) := by decide +kernel
theorem dX7_determinant_83 : decode cX7_determinant 83 = .ok (.iload 8, 2) := by decide +kernel
theorem dX7_determinant_85 : decode cX7_determinant 85 = .ok (.iload 11, 2) := by decide +kernel
theorem dX7_determinant_87 : decode cX7_determinant 87 = .ok (.iadd, 1) := by decide +kernel
theorem dX7_determinant_88 : decode cX7_determinant 88 = .ok (.iaload, 1) := by decide +kernel
theorem dX7_determinant_89 : decode cX7_determinant 89 = .ok (.imul, 1) := by decide +kernel
theorem dX7_determinant_90 : decode cX7_determinant 90 = .ok (.aload 5, 2) := by decide +kernel
theorem dX7_determinant_92 : decode cX7_determinant 92 = .ok (.iload 7, 2) := by decide +kernel
theorem dX7_determinant_94 : decode cX7_determinant 94 = .ok (.iload 11, 2) := by decide +kernel
theorem dX7_determinant_96 : decode cX7_determinant 96 = .ok (.iadd, 1) := by decide +kernel
theorem dX7_determinant_97 : decode cX7_determinant 97 = .ok (.iaload, 1) := by decide +kernel
theorem dX7_determinant_98 : decode cX7_determinant 98 = .ok (.aload 5, 2) := by decide +kernel
theorem dX7_determinant_100 : decode cX7_determinant 100 = .ok (.iload 8, 2) := by decide +kernel
theorem dX7_determinant_102 : decode cX7_determinant 102 = .ok (.iload 10, 2) := by decide +kernel
theorem dX7_determinant_104 : decode cX7_determinant 104 = .ok (.iadd, 1) := by decide +kernel
theorem dX7_determinant_105 : decode cX7_determinant 105 = .ok (.iaload, 1) := by decide +kernel
theorem dX7_determinant_106 : decode cX7_determinant 106 = .ok (.imul, 1) := by decide +kernel
theorem dX7_determinant_107 : decode cX7_determinant 107 = .ok (.isub, 1) := by decide +kernel
theorem dX7_determinant_108 : decode cX7_determinant 108 = .ok (.imul, 1) := by decide +kernel
theorem dX7_determinant_109 : decode cX7_determinant 109 = .ok (.aload 5, 2) := by decide +kernel
theorem dX7_determinant_111 : decode cX7_determinant 111 = .ok (.iload 6, 2) := by decide +kernel
theorem dX7_determinant_113 : decode cX7_determinant 113 = .ok (.iload 10, 2) := by decide +kernel
theorem dX7_determinant_115 : decode cX7_determinant 115 = .ok (.iadd, 1) := by decide +kernel
theorem dX7_determinant_116 : decode cX7_determinant 116 = .ok (.iaload, 1) := by decide +kernel
theorem dX7_determinant_117 : decode cX7_determinant 117 = .ok (.aload 5, 2) := by decide +kernel
theorem dX7_determinant_119 : decode cX7_determinant 119 = .ok (.iload 7, 2) := by decide +kernel
theorem dX7_determinant_121 : decode cX7_determinant 121 = .ok (.iload 9, 2) := by decide +kernel
theorem dX7_determinant_123 : decode cX7_determinant 123 = .ok (.iadd, 1) := by decide +kernel
theorem dX7_determinant_124 : decode cX7_determinant 124 = .ok (.iaload, 1) := by decide +kernel
theorem dX7_determinant_125 : decode cX7_determinant 125 = .ok (.aload 5, 2) := by decide +kernel
theorem dX7_determinant_127 : decode cX7_determinant 127 = .ok (.iload 8, 2) := by decide +kernel
theorem dX7_determinant_129 : decode cX7_determinant 129 = .ok (.iload 11, 2) := by decide +kernel
theorem dX7_determinant_131 : decode cX7_determinant 131 = .ok (.iadd, 1) := by decide +kernel
theorem dX7_determinant_132 : decode cX7_determinant 132 = .ok (.iaload, 1) := by decide +kernel
theorem dX7_determinant_133 : decode cX7_determinant 133 = .ok (.imul, 1) := by decide +kernel
theorem dX7_determinant_134 : decode cX7_determinant 134 = .ok (.aload 5, 2) := by decide +kernel
theorem dX7_determinant_136 : decode cX7_determinant 136 = .ok (.iload 7, 2) := by decide +kernel
theorem dX7_determinant_138 : decode cX7_determinant 138 = .ok (.iload 11, 2) := by decide +kernel
theorem dX7_determinant_140 : decode cX7_determinant 140 = .ok (.iadd, 1) := by decide +kernel
theorem dX7_determinant_141 : decode cX7_determinant 141 = .ok (.iaload, 1) := by decide +kernel
theorem dX7_determinant_142 : decode cX7_determinant 142 = .ok (.aload 5, 2) := by decide +kernel
theorem dX7_determinant_144 : decode cX7_determinant 144 = .ok (.iload 8, 2) := by decide +kernel
theorem dX7_determinant_146 : decode cX7_determinant 146 = .ok (.iload 9, 2) := by decide +kernel
theorem dX7_determinant_148 : decode cX7_determinant 148 = .ok (.iadd, 1) := by decide +kernel
theorem dX7_determinant_149 : decode cX7_determinant 149 = .ok (.iaload, 1) := by decide +kernel
theorem dX7_determinant_150 : decode cX7_determinant 150 = .ok (.imul, 1) := by decide +kernel
theorem dX7_determinant_151 : decode cX7_determinant 151 = .ok (.isub, 1) := by decide +kernel
theorem dX7_determinant_152 : decode cX7_determinant 152 = .ok (.imul, 1) := by decide +kernel
theorem dX7_determinant_153 : decode cX7_determinant 153 = .ok (.isub, 1) := by decide +kernel
theorem dX7_determinant_154 : decode cX7_determinant 154 = .ok (.aload 5, 2) := by decide +kernel
theorem dX7_determinant_156 : decode cX7_determinant 156 = .ok (.iload 6, 2) := by decide +kernel
theorem dX7_determinant_158 : decode cX7_determinant 158 = .ok (.iload 11, 2) := by decide +kernel
theorem dX7_determinant_160 : decode cX7_determinant 160 = .ok (.iadd, 1) := by decide +kernel
theorem dX7_determinant_161 : decode cX7_determinant 161 = .ok (.iaload, 1) := by decide +kernel
theorem dX7_determinant_162 : decode cX7_determinant 162 = .ok (.aload 5, 2) := by decide +kernel
theorem dX7_determinant_164 : decode cX7_determinant 164 = .ok (.iload 7, 2) := by decide +kernel
theorem dX7_determinant_166 : decode cX7_determinant 166 = .ok (.iload 9, 2) := by decide +kernel
theorem dX7_determinant_168 : decode cX7_determinant 168 = .ok (.iadd, 1) := by decide +kernel
theorem dX7_determinant_169 : decode cX7_determinant 169 = .ok (.iaload, 1) := by decide +kernel
theorem dX7_determinant_170 : decode cX7_determinant 170 = .ok (.aload 5, 2) := by decide +kernel
theorem dX7_determinant_172 : decode cX7_determinant 172 = .ok (.iload 8, 2) := by decide +kernel
theorem dX7_determinant_174 : decode cX7_determinant 174 = .ok (.iload 10, 2) := by decide +kernel
theorem dX7_determinant_176 : decode cX7_determinant 176 = .ok (.iadd, 1) := by decide +kernel
theorem dX7_determinant_177 : decode cX7_determinant 177 = .ok (.iaload, 1) := by decide +kernel
theorem dX7_determinant_178 : decode cX7_determinant 178 = .ok (.imul, 1) := by decide +kernel
theorem dX7_determinant_179 : decode cX7_determinant 179 = .ok (.aload 5, 2) := by decide +kernel
theorem dX7_determinant_181 : decode cX7_determinant 181 = .ok (.iload 7, 2) := by decide +kernel
theorem dX7_determinant_183 : decode cX7_determinant 183 = .ok (.iload 10, 2) := by decide +kernel
theorem dX7_determinant_185 : decode cX7_determinant 185 = .ok (.iadd, 1) := by decide +kernel
theorem dX7_determinant_186 : decode cX7_determinant 186 = .ok (.iaload, 1) := by decide +kernel
theorem dX7_determinant_187 : decode cX7_determinant 187 = .ok (.aload 5, 2) := by decide +kernel
theorem dX7_determinant_189 : decode cX7_determinant 189 = .ok (.iload 8, 2) := by decide +kernel
theorem dX7_determinant_191 : decode cX7_determinant 191 = .ok (.iload 9, 2) := by decide +kernel
theorem dX7_determinant_193 : decode cX7_determinant 193 = .ok (.iadd, 1) := by decide +kernel
theorem dX7_determinant_194 : decode cX7_determinant 194 = .ok (.iaload, 1) := by decide +kernel
theorem dX7_determinant_195 : decode cX7_determinant 195 = .ok (.imul, 1) := by decide +kernel
theorem dX7_determinant_196 : decode cX7_determinant 196 = .ok (.isub, 1) := by decide +kernel
theorem dX7_determinant_197 : decode cX7_determinant 197 = .ok (.imul, 1) := by decide +kernel
theorem dX7_determinant_198 : decode cX7_determinant 198 = .ok (.iadd, 1) := by decide +kernel
theorem dX7_determinant_199 : decode cX7_determinant 199 = .ok (.ireturn, 1) := by decide +kernel
theorem dX7_far_0 : decode cX7_far 0 = .ok (.aload_n 0, 1) := by decide +kernel
theorem dX7_far_1 : decode cX7_far 1 = .ok (.iload_n 1, 1) := by decide +kernel
theorem dX7_far_2 : decode cX7_far 2 = .ok (.iconst 0, 1) := by decide +kernel
theorem dX7_far_3 : decode cX7_far 3 = .ok (.invokevirtual 85, 3) := by decide +kernel
theorem dX7_far_6 : decode cX7_far 6 = .ok (.iload_n 2, 1) := by decide +kernel
theorem dX7_far_7 : decode cX7_far 7 = .ok (.imul, 1) := by decide +kernel
theorem dX7_far_8 : decode cX7_far 8 = .ok (.aload_n 0, 1) := by decide +kernel
theorem dX7_far_9 : decode cX7_far 9 = .ok (.iload_n 1, 1) := by decide +kernel
theorem dX7_far_10 : decode cX7_far 10 = .ok (.iconst 1, 1) := by decide +kernel
theorem dX7_far_11 : decode cX7_far 11 = .ok (.invokevirtual 85, 3) := by decide +kernel
theorem dX7_far_14 : decode cX7_far 14 = .ok (.iload_n 3, 1) := by decide +kernel
theorem dX7_far_15 : decode cX7_far 15 = .ok (.imul, 1) := by decide +kernel
theorem dX7_far_16 : decode cX7_far 16 = .ok (.iadd, 1) := by decide +kernel
theorem dX7_far_17 : decode cX7_far 17 = .ok (.aload_n 0, 1) := by decide +kernel
theorem dX7_far_18 : decode cX7_far 18 = .ok (.iload_n 1, 1) := by decide +kernel
theorem dX7_far_19 : decode cX7_far 19 = .ok (.iconst 2, 1) := by decide +kernel
theorem dX7_far_20 : decode cX7_far 20 = .ok (.invokevirtual 85, 3) := by decide +kernel
theorem dX7_far_23 : decode cX7_far 23 = .ok (.iload 4, 2) := by decide +kernel
theorem dX7_far_25 : decode cX7_far 25 = .ok (.imul, 1) := by decide +kernel
theorem dX7_far_26 : decode cX7_far 26 = .ok (.iadd, 1) := by decide +kernel
theorem dX7_far_27 : decode cX7_far 27 = .ok (.ireturn, 1) := by decide +kernel
theorem dX7_isCorner_0 : decode cX7_isCorner 0 = .ok (.iconst 0, 1) := by decide +kernel
theorem dX7_isCorner_1 : decode cX7_isCorner 1 = .ok (.istore 5, 2) := by decide +kernel
theorem dX7_isCorner_3 : decode cX7_isCorner 3 = .ok (.iload 5, 2) := by decide +kernel
theorem dX7_isCorner_5 : decode cX7_isCorner 5 = .ok (.aload_n 0, 1) := by decide +kernel
theorem dX7_isCorner_6 : decode cX7_isCorner 6 = .ok (.getfield 114, 3) := by decide +kernel
theorem dX7_isCorner_9 : decode cX7_isCorner 9 = .ok (.if_icmp .ge 70, 3) := by decide +kernel
theorem dX7_isCorner_12 : decode cX7_isCorner 12 = .ok (.aload_n 0, 1) := by decide +kernel
theorem dX7_isCorner_13 : decode cX7_isCorner 13 = .ok (.getfield 29, 3) := by decide +kernel
theorem dX7_isCorner_16 : decode cX7_isCorner 16 = .ok (.iconst 5, 1) := by decide +kernel
theorem dX7_isCorner_17 : decode cX7_isCorner 17 = .ok (.iload 5, 2) := by decide +kernel
theorem dX7_isCorner_19 : decode cX7_isCorner 19 = .ok (.imul, 1) := by decide +kernel
theorem dX7_isCorner_20 : decode cX7_isCorner 20 = .ok (.iaload, 1) := by decide +kernel
theorem dX7_isCorner_21 : decode cX7_isCorner 21 = .ok (.iload_n 1, 1) := by decide +kernel
theorem dX7_isCorner_22 : decode cX7_isCorner 22 = .ok (.if_icmp .ne 51, 3) := by decide +kernel
theorem dX7_isCorner_25 : decode cX7_isCorner 25 = .ok (.aload_n 0, 1) := by decide +kernel
theorem dX7_isCorner_26 : decode cX7_isCorner 26 = .ok (.getfield 29, 3) := by decide +kernel
theorem dX7_isCorner_29 : decode cX7_isCorner 29 = .ok (.iconst 5, 1) := by decide +kernel
theorem dX7_isCorner_30 : decode cX7_isCorner 30 = .ok (.iload 5, 2) := by decide +kernel
theorem dX7_isCorner_32 : decode cX7_isCorner 32 = .ok (.imul, 1) := by decide +kernel
theorem dX7_isCorner_33 : decode cX7_isCorner 33 = .ok (.iconst 1, 1) := by decide +kernel
theorem dX7_isCorner_34 : decode cX7_isCorner 34 = .ok (.iadd, 1) := by decide +kernel
theorem dX7_isCorner_35 : decode cX7_isCorner 35 = .ok (.iaload, 1) := by decide +kernel
theorem dX7_isCorner_36 : decode cX7_isCorner 36 = .ok (.iload_n 2, 1) := by decide +kernel
theorem dX7_isCorner_37 : decode cX7_isCorner 37 = .ok (.if_icmp .ne 36, 3) := by decide +kernel
theorem dX7_isCorner_40 : decode cX7_isCorner 40 = .ok (.aload_n 0, 1) := by decide +kernel
theorem dX7_isCorner_41 : decode cX7_isCorner 41 = .ok (.getfield 29, 3) := by decide +kernel
theorem dX7_isCorner_44 : decode cX7_isCorner 44 = .ok (.iconst 5, 1) := by decide +kernel
theorem dX7_isCorner_45 : decode cX7_isCorner 45 = .ok (.iload 5, 2) := by decide +kernel
theorem dX7_isCorner_47 : decode cX7_isCorner 47 = .ok (.imul, 1) := by decide +kernel
theorem dX7_isCorner_48 : decode cX7_isCorner 48 = .ok (.iconst 2, 1) := by decide +kernel
theorem dX7_isCorner_49 : decode cX7_isCorner 49 = .ok (.iadd, 1) := by decide +kernel
theorem dX7_isCorner_50 : decode cX7_isCorner 50 = .ok (.iaload, 1) := by decide +kernel
theorem dX7_isCorner_51 : decode cX7_isCorner 51 = .ok (.iload_n 3, 1) := by decide +kernel
theorem dX7_isCorner_52 : decode cX7_isCorner 52 = .ok (.if_icmp .ne 21, 3) := by decide +kernel
theorem dX7_isCorner_55 : decode cX7_isCorner 55 = .ok (.aload_n 0, 1) := by decide +kernel
theorem dX7_isCorner_56 : decode cX7_isCorner 56 = .ok (.getfield 29, 3) := by decide +kernel
theorem dX7_isCorner_59 : decode cX7_isCorner 59 = .ok (.iconst 5, 1) := by decide +kernel
theorem dX7_isCorner_60 : decode cX7_isCorner 60 = .ok (.iload 5, 2) := by decide +kernel
theorem dX7_isCorner_62 : decode cX7_isCorner 62 = .ok (.imul, 1) := by decide +kernel
theorem dX7_isCorner_63 : decode cX7_isCorner 63 = .ok (.iconst 3, 1) := by decide +kernel
theorem dX7_isCorner_64 : decode cX7_isCorner 64 = .ok (.iadd, 1) := by decide +kernel
theorem dX7_isCorner_65 : decode cX7_isCorner 65 = .ok (.iaload, 1) := by decide +kernel
theorem dX7_isCorner_66 : decode cX7_isCorner 66 = .ok (.iload 4, 2) := by decide +kernel
theorem dX7_isCorner_68 : decode cX7_isCorner 68 = .ok (.if_icmp .ne 5, 3) := by decide +kernel
theorem dX7_isCorner_71 : decode cX7_isCorner 71 = .ok (.iconst 1, 1) := by decide +kernel
theorem dX7_isCorner_72 : decode cX7_isCorner 72 = .ok (.ireturn, 1) := by decide +kernel
theorem dX7_isCorner_73 : decode cX7_isCorner 73 = .ok (.iinc 5 1, 3) := by decide +kernel
theorem dX7_isCorner_76 : decode cX7_isCorner 76 = .ok (.goto (-73), 3) := by decide +kernel
theorem dX7_isCorner_79 : decode cX7_isCorner 79 = .ok (.iconst 0, 1) := by decide +kernel
theorem dX7_isCorner_80 : decode cX7_isCorner 80 = .ok (.ireturn, 1) := by decide +kernel
theorem dX7_isAhead_0 : decode cX7_isAhead 0 = .ok (.iload_n 1, 1) := by decide +kernel
theorem dX7_isAhead_1 : decode cX7_isAhead 1 = .ok (.aload_n 0, 1) := by decide +kernel
theorem dX7_isAhead_2 : decode cX7_isAhead 2 = .ok (.getfield 29, 3) := by decide +kernel
theorem dX7_isAhead_5 : decode cX7_isAhead 5 = .ok (.iconst 5, 1) := by decide +kernel
theorem dX7_isAhead_6 : decode cX7_isAhead 6 = .ok (.iload 5, 2) := by decide +kernel
theorem dX7_isAhead_8 : decode cX7_isAhead 8 = .ok (.imul, 1) := by decide +kernel
theorem dX7_isAhead_9 : decode cX7_isAhead 9 = .ok (.iconst 3, 1) := by decide +kernel
theorem dX7_isAhead_10 : decode cX7_isAhead 10 = .ok (.iadd, 1) := by decide +kernel
theorem dX7_isAhead_11 : decode cX7_isAhead 11 = .ok (.iaload, 1) := by decide +kernel
theorem dX7_isAhead_12 : decode cX7_isAhead 12 = .ok (.imul, 1) := by decide +kernel
theorem dX7_isAhead_13 : decode cX7_isAhead 13 = .ok (.aload_n 0, 1) := by decide +kernel
theorem dX7_isAhead_14 : decode cX7_isAhead 14 = .ok (.getfield 29, 3) := by decide +kernel
theorem dX7_isAhead_17 : decode cX7_isAhead 17 = .ok (.iconst 5, 1) := by decide +kernel
theorem dX7_isAhead_18 : decode cX7_isAhead 18 = .ok (.iload 5, 2) := by decide +kernel
theorem dX7_isAhead_20 : decode cX7_isAhead 20 = .ok (.imul, 1) := by decide +kernel
theorem dX7_isAhead_21 : decode cX7_isAhead 21 = .ok (.iaload, 1) := by decide +kernel
theorem dX7_isAhead_22 : decode cX7_isAhead 22 = .ok (.iload 4, 2) := by decide +kernel
theorem dX7_isAhead_24 : decode cX7_isAhead 24 = .ok (.imul, 1) := by decide +kernel
theorem dX7_isAhead_25 : decode cX7_isAhead 25 = .ok (.isub, 1) := by decide +kernel
theorem dX7_isAhead_26 : decode cX7_isAhead 26 = .ok (.istore 6, 2) := by decide +kernel
theorem dX7_isAhead_28 : decode cX7_isAhead 28 = .ok (.iload_n 2, 1) := by decide +kernel
theorem dX7_isAhead_29 : decode cX7_isAhead 29 = .ok (.aload_n 0, 1) := by decide +kernel
theorem dX7_isAhead_30 : decode cX7_isAhead 30 = .ok (.getfield 29, 3) := by decide +kernel
theorem dX7_isAhead_33 : decode cX7_isAhead 33 = .ok (.iconst 5, 1) := by decide +kernel
theorem dX7_isAhead_34 : decode cX7_isAhead 34 = .ok (.iload 5, 2) := by decide +kernel
theorem dX7_isAhead_36 : decode cX7_isAhead 36 = .ok (.imul, 1) := by decide +kernel
theorem dX7_isAhead_37 : decode cX7_isAhead 37 = .ok (.iconst 3, 1) := by decide +kernel
theorem dX7_isAhead_38 : decode cX7_isAhead 38 = .ok (.iadd, 1) := by decide +kernel
theorem dX7_isAhead_39 : decode cX7_isAhead 39 = .ok (.iaload, 1) := by decide +kernel
theorem dX7_isAhead_40 : decode cX7_isAhead 40 = .ok (.imul, 1) := by decide +kernel
theorem dX7_isAhead_41 : decode cX7_isAhead 41 = .ok (.aload_n 0, 1) := by decide +kernel
theorem dX7_isAhead_42 : decode cX7_isAhead 42 = .ok (.getfield 29, 3) := by decide +kernel
theorem dX7_isAhead_45 : decode cX7_isAhead 45 = .ok (.iconst 5, 1) := by decide +kernel
theorem dX7_isAhead_46 : decode cX7_isAhead 46 = .ok (.iload 5, 2) := by decide +kernel
theorem dX7_isAhead_48 : decode cX7_isAhead 48 = .ok (.imul, 1) := by decide +kernel
theorem dX7_isAhead_49 : decode cX7_isAhead 49 = .ok (.iconst 1, 1) := by decide +kernel
theorem dX7_isAhead_50 : decode cX7_isAhead 50 = .ok (.iadd, 1) := by decide +kernel
theorem dX7_isAhead_51 : decode cX7_isAhead 51 = .ok (.iaload, 1) := by decide +kernel
theorem dX7_isAhead_52 : decode cX7_isAhead 52 = .ok (.iload 4, 2) := by decide +kernel
theorem dX7_isAhead_54 : decode cX7_isAhead 54 = .ok (.imul, 1) := by decide +kernel
theorem dX7_isAhead_55 : decode cX7_isAhead 55 = .ok (.isub, 1) := by decide +kernel
theorem dX7_isAhead_56 : decode cX7_isAhead 56 = .ok (.istore 7, 2) := by decide +kernel
theorem dX7_isAhead_58 : decode cX7_isAhead 58 = .ok (.iload_n 3, 1) := by decide +kernel
theorem dX7_isAhead_59 : decode cX7_isAhead 59 = .ok (.aload_n 0, 1) := by decide +kernel
theorem dX7_isAhead_60 : decode cX7_isAhead 60 = .ok (.getfield 29, 3) := by decide +kernel
end
section
theorem dX7_isAhead_63 : decode cX7_isAhead 63 = .ok (.iconst 5, 1) := by decide +kernel
theorem dX7_isAhead_64 : decode cX7_isAhead 64 = .ok (.iload 5, 2) := by decide +kernel
theorem dX7_isAhead_66 : decode cX7_isAhead 66 = .ok (.imul, 1) := by decide +kernel
theorem dX7_isAhead_67 : decode cX7_isAhead 67 = .ok (.iconst 3, 1) := by decide +kernel
theorem dX7_isAhead_68 : decode cX7_isAhead 68 = .ok (.iadd, 1) := by decide +kernel
theorem dX7_isAhead_69 : decode cX7_isAhead 69 = .ok (.iaload, 1) := by decide +kernel
theorem dX7_isAhead_70 : decode cX7_isAhead 70 = .ok (.imul, 1) := by decide +kernel
theorem dX7_isAhead_71 : decode cX7_isAhead 71 = .ok (.aload_n 0, 1) := by decide +kernel
theorem dX7_isAhead_72 : decode cX7_isAhead 72 = .ok (.getfield 29, 3) := by decide +kernel
theorem dX7_isAhead_75 : decode cX7_isAhead 75 = .ok (.iconst 5, 1) := by decide +kernel
theorem dX7_isAhead_76 : decode cX7_isAhead 76 = .ok (.iload 5, 2) := by decide +kernel
theorem dX7_isAhead_78 : decode cX7_isAhead 78 = .ok (.imul, 1) := by decide +kernel
theorem dX7_isAhead_79 : decode cX7_isAhead 79 = .ok (.iconst 2, 1) := by decide +kernel
theorem dX7_isAhead_80 : decode cX7_isAhead 80 = .ok (.iadd, 1) := by decide +kernel
theorem dX7_isAhead_81 : decode cX7_isAhead 81 = .ok (.iaload, 1) := by decide +kernel
theorem dX7_isAhead_82 : decode cX7_isAhead 82 = .ok (.iload 4, 2) := by decide +kernel
theorem dX7_isAhead_84 : decode cX7_isAhead 84 = .ok (.imul, 1) := by decide +kernel
theorem dX7_isAhead_85 : decode cX7_isAhead 85 = .ok (.isub, 1) := by decide +kernel
theorem dX7_isAhead_86 : decode cX7_isAhead 86 = .ok (.istore 8, 2) := by decide +kernel
theorem dX7_isAhead_88 : decode cX7_isAhead 88 = .ok (.iload 6, 2) := by decide +kernel
theorem dX7_isAhead_90 : decode cX7_isAhead 90 = .ok (.ifCond .eq 16, 3) := by decide +kernel
theorem dX7_isAhead_93 : decode cX7_isAhead 93 = .ok (.iload 6, 2) := by decide +kernel
theorem dX7_isAhead_95 : decode cX7_isAhead 95 = .ok (.ifCond .ge 7, 3) := by decide +kernel
theorem dX7_isAhead_98 : decode cX7_isAhead 98 = .ok (.iconst 1, 1) := by decide +kernel
theorem dX7_isAhead_99 : decode cX7_isAhead 99 = .ok (.goto 35, 3) := by decide +kernel
theorem dX7_isAhead_102 : decode cX7_isAhead 102 = .ok (.iconst 0, 1) := by decide +kernel
theorem dX7_isAhead_103 : decode cX7_isAhead 103 = .ok (.goto 31, 3) := by decide +kernel
theorem dX7_isAhead_106 : decode cX7_isAhead 106 = .ok (.iload 7, 2) := by decide +kernel
theorem dX7_isAhead_108 : decode cX7_isAhead 108 = .ok (.ifCond .eq 16, 3) := by decide +kernel
theorem dX7_isAhead_111 : decode cX7_isAhead 111 = .ok (.iload 7, 2) := by decide +kernel
theorem dX7_isAhead_113 : decode cX7_isAhead 113 = .ok (.ifCond .ge 7, 3) := by decide +kernel
theorem dX7_isAhead_116 : decode cX7_isAhead 116 = .ok (.iconst 1, 1) := by decide +kernel
theorem dX7_isAhead_117 : decode cX7_isAhead 117 = .ok (.goto 17, 3) := by decide +kernel
theorem dX7_isAhead_120 : decode cX7_isAhead 120 = .ok (.iconst 0, 1) := by decide +kernel
theorem dX7_isAhead_121 : decode cX7_isAhead 121 = .ok (.goto 13, 3) := by decide +kernel
theorem dX7_isAhead_124 : decode cX7_isAhead 124 = .ok (.iload 8, 2) := by decide +kernel
theorem dX7_isAhead_126 : decode cX7_isAhead 126 = .ok (.ifCond .ge 7, 3) := by decide +kernel
theorem dX7_isAhead_129 : decode cX7_isAhead 129 = .ok (.iconst 1, 1) := by decide +kernel
theorem dX7_isAhead_130 : decode cX7_isAhead 130 = .ok (.goto 4, 3) := by decide +kernel
theorem dX7_isAhead_133 : decode cX7_isAhead 133 = .ok (.iconst 0, 1) := by decide +kernel
theorem dX7_isAhead_134 : decode cX7_isAhead 134 = .ok (.ireturn, 1) := by decide +kernel
theorem dX7_meeting_0 : decode cX7_meeting 0 = .ok (.aload_n 0, 1) := by decide +kernel
theorem dX7_meeting_1 : decode cX7_meeting 1 = .ok (.iload_n 1, 1) := by decide +kernel
theorem dX7_meeting_2 : decode cX7_meeting 2 = .ok (.iload_n 2, 1) := by decide +kernel
theorem dX7_meeting_3 : decode cX7_meeting 3 = .ok (.iload_n 3, 1) := by decide +kernel
theorem dX7_meeting_4 : decode cX7_meeting 4 = .ok (.iconst 0, 1) := by decide +kernel
theorem dX7_meeting_5 : decode cX7_meeting 5 = .ok (.invokevirtual 117, 3) := by decide +kernel
theorem dX7_meeting_8 : decode cX7_meeting 8 = .ok (.istore 5, 2) := by decide +kernel
theorem dX7_meeting_10 : decode cX7_meeting 10 = .ok (.aload_n 0, 1) := by decide +kernel
theorem dX7_meeting_11 : decode cX7_meeting 11 = .ok (.iload_n 1, 1) := by decide +kernel
theorem dX7_meeting_12 : decode cX7_meeting 12 = .ok (.iload_n 2, 1) := by decide +kernel
theorem dX7_meeting_13 : decode cX7_meeting 13 = .ok (.iload_n 3, 1) := by decide +kernel
theorem dX7_meeting_14 : decode cX7_meeting 14 = .ok (.iconst 1, 1) := by decide +kernel
theorem dX7_meeting_15 : decode cX7_meeting 15 = .ok (.invokevirtual 117, 3) := by decide +kernel
theorem dX7_meeting_18 : decode cX7_meeting 18 = .ok (.istore 6, 2) := by decide +kernel
theorem dX7_meeting_20 : decode cX7_meeting 20 = .ok (.aload_n 0, 1) := by decide +kernel
theorem dX7_meeting_21 : decode cX7_meeting 21 = .ok (.iload_n 1, 1) := by decide +kernel
theorem dX7_meeting_22 : decode cX7_meeting 22 = .ok (.iload_n 2, 1) := by decide +kernel
theorem dX7_meeting_23 : decode cX7_meeting 23 = .ok (.iload_n 3, 1) := by decide +kernel
theorem dX7_meeting_24 : decode cX7_meeting 24 = .ok (.iconst 2, 1) := by decide +kernel
theorem dX7_meeting_25 : decode cX7_meeting 25 = .ok (.invokevirtual 117, 3) := by decide +kernel
theorem dX7_meeting_28 : decode cX7_meeting 28 = .ok (.istore 7, 2) := by decide +kernel
theorem dX7_meeting_30 : decode cX7_meeting 30 = .ok (.iload 5, 2) := by decide +kernel
theorem dX7_meeting_32 : decode cX7_meeting 32 = .ok (.iload 6, 2) := by decide +kernel
theorem dX7_meeting_34 : decode cX7_meeting 34 = .ok (.invokestatic 120, 3) := by decide +kernel
theorem dX7_meeting_37 : decode cX7_meeting 37 = .ok (.iload 7, 2) := by decide +kernel
theorem dX7_meeting_39 : decode cX7_meeting 39 = .ok (.iload 4, 2) := by decide +kernel
theorem dX7_meeting_41 : decode cX7_meeting 41 = .ok (.invokestatic 120, 3) := by decide +kernel
theorem dX7_meeting_44 : decode cX7_meeting 44 = .ok (.invokestatic 120, 3) := by decide +kernel
theorem dX7_meeting_47 : decode cX7_meeting 47 = .ok (.istore 8, 2) := by decide +kernel
theorem dX7_meeting_49 : decode cX7_meeting 49 = .ok (.iload 4, 2) := by decide +kernel
theorem dX7_meeting_51 : decode cX7_meeting 51 = .ok (.ifCond .ge 9, 3) := by decide +kernel
theorem dX7_meeting_54 : decode cX7_meeting 54 = .ok (.iload 8, 2) := by decide +kernel
theorem dX7_meeting_56 : decode cX7_meeting 56 = .ok (.ineg, 1) := by decide +kernel
theorem dX7_meeting_57 : decode cX7_meeting 57 = .ok (.goto 5, 3) := by decide +kernel
theorem dX7_meeting_60 : decode cX7_meeting 60 = .ok (.iload 8, 2) := by decide +kernel
theorem dX7_meeting_62 : decode cX7_meeting 62 = .ok (.istore 8, 2) := by decide +kernel
theorem dX7_meeting_64 : decode cX7_meeting 64 = .ok (.iload 5, 2) := by decide +kernel
theorem dX7_meeting_66 : decode cX7_meeting 66 = .ok (.iload 8, 2) := by decide +kernel
theorem dX7_meeting_68 : decode cX7_meeting 68 = .ok (.idiv, 1) := by decide +kernel
theorem dX7_meeting_69 : decode cX7_meeting 69 = .ok (.istore 5, 2) := by decide +kernel
theorem dX7_meeting_71 : decode cX7_meeting 71 = .ok (.iload 6, 2) := by decide +kernel
theorem dX7_meeting_73 : decode cX7_meeting 73 = .ok (.iload 8, 2) := by decide +kernel
theorem dX7_meeting_75 : decode cX7_meeting 75 = .ok (.idiv, 1) := by decide +kernel
theorem dX7_meeting_76 : decode cX7_meeting 76 = .ok (.istore 6, 2) := by decide +kernel
theorem dX7_meeting_78 : decode cX7_meeting 78 = .ok (.iload 7, 2) := by decide +kernel
theorem dX7_meeting_80 : decode cX7_meeting 80 = .ok (.iload 8, 2) := by decide +kernel
theorem dX7_meeting_82 : decode cX7_meeting 82 = .ok (.idiv, 1) := by decide +kernel
theorem dX7_meeting_83 : decode cX7_meeting 83 = .ok (.istore 7, 2) := by decide +kernel
theorem dX7_meeting_85 : decode cX7_meeting 85 = .ok (.iload 4, 2) := by decide +kernel
theorem dX7_meeting_87 : decode cX7_meeting 87 = .ok (.iload 8, 2) := by decide +kernel
theorem dX7_meeting_89 : decode cX7_meeting 89 = .ok (.idiv, 1) := by decide +kernel
theorem dX7_meeting_90 : decode cX7_meeting 90 = .ok (.istore 9, 2) := by decide +kernel
theorem dX7_meeting_92 : decode cX7_meeting 92 = .ok (.iconst 0, 1) := by decide +kernel
theorem dX7_meeting_93 : decode cX7_meeting 93 = .ok (.istore 10, 2) := by decide +kernel
theorem dX7_meeting_95 : decode cX7_meeting 95 = .ok (.iconst 0, 1) := by decide +kernel
theorem dX7_meeting_96 : decode cX7_meeting 96 = .ok (.istore 11, 2) := by decide +kernel
theorem dX7_meeting_98 : decode cX7_meeting 98 = .ok (.iload 11, 2) := by decide +kernel
theorem dX7_meeting_100 : decode cX7_meeting 100 = .ok (.aload_n 0, 1) := by decide +kernel
theorem dX7_meeting_101 : decode cX7_meeting 101 = .ok (.getfield 7, 3) := by decide +kernel
theorem dX7_meeting_104 : decode cX7_meeting 104 = .ok (.iconst 0, 1) := by decide +kernel
theorem dX7_meeting_105 : decode cX7_meeting 105 = .ok (.iaload, 1) := by decide +kernel
theorem dX7_meeting_106 : decode cX7_meeting 106 = .ok (.if_icmp .ge 58, 3) := by decide +kernel
theorem dX7_meeting_109 : decode cX7_meeting 109 = .ok (.aload_n 0, 1) := by decide +kernel
theorem dX7_meeting_110 : decode cX7_meeting 110 = .ok (.iload 11, 2) := by decide +kernel
theorem dX7_meeting_112 : decode cX7_meeting 112 = .ok (.iload 5, 2) := by decide +kernel
theorem dX7_meeting_114 : decode cX7_meeting 114 = .ok (.iload 6, 2) := by decide +kernel
theorem dX7_meeting_116 : decode cX7_meeting 116 = .ok (.iload 7, 2) := by decide +kernel
theorem dX7_meeting_118 : decode cX7_meeting 118 = .ok (.invokevirtual 123, 3) := by decide +kernel
theorem dX7_meeting_121 : decode cX7_meeting 121 = .ok (.aload_n 0, 1) := by decide +kernel
theorem dX7_meeting_122 : decode cX7_meeting 122 = .ok (.iload 11, 2) := by decide +kernel
theorem dX7_meeting_124 : decode cX7_meeting 124 = .ok (.iconst 3, 1) := by decide +kernel
theorem dX7_meeting_125 : decode cX7_meeting 125 = .ok (.invokevirtual 85, 3) := by decide +kernel
theorem dX7_meeting_128 : decode cX7_meeting 128 = .ok (.iload 9, 2) := by decide +kernel
theorem dX7_meeting_130 : decode cX7_meeting 130 = .ok (.imul, 1) := by decide +kernel
theorem dX7_meeting_131 : decode cX7_meeting 131 = .ok (.isub, 1) := by decide +kernel
theorem dX7_meeting_132 : decode cX7_meeting 132 = .ok (.istore 12, 2) := by decide +kernel
theorem dX7_meeting_134 : decode cX7_meeting 134 = .ok (.iload 12, 2) := by decide +kernel
theorem dX7_meeting_136 : decode cX7_meeting 136 = .ok (.ifCond .le 4, 3) := by decide +kernel
theorem dX7_meeting_139 : decode cX7_meeting 139 = .ok (.return_, 1) := by decide +kernel
theorem dX7_meeting_140 : decode cX7_meeting 140 = .ok (.iload 10, 2) := by decide +kernel
theorem dX7_meeting_142 : decode cX7_meeting 142 = .ok (.iload 12, 2) := by decide +kernel
theorem dX7_meeting_144 : decode cX7_meeting 144 = .ok (.ifCond .ne 10, 3) := by decide +kernel
theorem dX7_meeting_147 : decode cX7_meeting 147 = .ok (.iconst 1, 1) := by decide +kernel
theorem dX7_meeting_148 : decode cX7_meeting 148 = .ok (.iload 11, 2) := by decide +kernel
theorem dX7_meeting_150 : decode cX7_meeting 150 = .ok (.ishl, 1) := by decide +kernel
theorem dX7_meeting_151 : decode cX7_meeting 151 = .ok (.goto 4, 3) := by decide +kernel
theorem dX7_meeting_154 : decode cX7_meeting 154 = .ok (.iconst 0, 1) := by decide +kernel
theorem dX7_meeting_155 : decode cX7_meeting 155 = .ok (.ior, 1) := by decide +kernel
theorem dX7_meeting_156 : decode cX7_meeting 156 = .ok (.istore 10, 2) := by decide +kernel
theorem dX7_meeting_158 : decode cX7_meeting 158 = .ok (.iinc 11 1, 3) := by decide +kernel
theorem dX7_meeting_161 : decode cX7_meeting 161 = .ok (.goto (-63), 3) := by decide +kernel
theorem dX7_meeting_164 : decode cX7_meeting 164 = .ok (.aload_n 0, 1) := by decide +kernel
theorem dX7_meeting_165 : decode cX7_meeting 165 = .ok (.iload 5, 2) := by decide +kernel
theorem dX7_meeting_167 : decode cX7_meeting 167 = .ok (.iload 6, 2) := by decide +kernel
theorem dX7_meeting_169 : decode cX7_meeting 169 = .ok (.iload 7, 2) := by decide +kernel
theorem dX7_meeting_171 : decode cX7_meeting 171 = .ok (.iload 9, 2) := by decide +kernel
theorem dX7_meeting_173 : decode cX7_meeting 173 = .ok (.invokevirtual 126, 3) := by decide +kernel
theorem dX7_meeting_176 : decode cX7_meeting 176 = .ok (.ifCond .eq 4, 3) := by decide +kernel
theorem dX7_meeting_179 : decode cX7_meeting 179 = .ok (.return_, 1) := by decide +kernel
theorem dX7_meeting_180 : decode cX7_meeting 180 = .ok (.aload_n 0, 1) := by decide +kernel
theorem dX7_meeting_181 : decode cX7_meeting 181 = .ok (.getfield 114, 3) := by decide +kernel
theorem dX7_meeting_184 : decode cX7_meeting 184 = .ok (.istore 11, 2) := by decide +kernel
theorem dX7_meeting_186 : decode cX7_meeting 186 = .ok (.iload 11, 2) := by decide +kernel
theorem dX7_meeting_188 : decode cX7_meeting 188 = .ok (.ifCond .le 69, 3) := by decide +kernel
theorem dX7_meeting_191 : decode cX7_meeting 191 = .ok (.aload_n 0, 1) := by decide +kernel
theorem dX7_meeting_192 : decode cX7_meeting 192 = .ok (.iload 5, 2) := by decide +kernel
theorem dX7_meeting_194 : decode cX7_meeting 194 = .ok (.iload 6, 2) := by decide +kernel
theorem dX7_meeting_196 : decode cX7_meeting 196 = .ok (.iload 7, 2) := by decide +kernel
theorem dX7_meeting_198 : decode cX7_meeting 198 = .ok (.iload 9, 2) := by decide +kernel
theorem dX7_meeting_200 : decode cX7_meeting 200 = .ok (.iload 11, 2) := by decide +kernel
theorem dX7_meeting_202 : decode cX7_meeting 202 = .ok (.iconst 1, 1) := by decide +kernel
theorem dX7_meeting_203 : decode cX7_meeting 203 = .ok (.isub, 1) := by decide +kernel
theorem dX7_meeting_204 : decode cX7_meeting 204 = .ok (.invokevirtual 130, 3) := by decide +kernel
theorem dX7_meeting_207 : decode cX7_meeting 207 = .ok (.ifCond .eq 50, 3) := by decide +kernel
theorem dX7_meeting_210 : decode cX7_meeting 210 = .ok (.iconst 0, 1) := by decide +kernel
theorem dX7_meeting_211 : decode cX7_meeting 211 = .ok (.istore 12, 2) := by decide +kernel
theorem dX7_meeting_213 : decode cX7_meeting 213 = .ok (.iload 12, 2) := by decide +kernel
theorem dX7_meeting_215 : decode cX7_meeting 215 = .ok (.iconst 5, 1) := by decide +kernel
theorem dX7_meeting_216 : decode cX7_meeting 216 = .ok (.if_icmp .ge 35, 3) := by decide +kernel
theorem dX7_meeting_219 : decode cX7_meeting 219 = .ok (.aload_n 0, 1) := by decide +kernel
theorem dX7_meeting_220 : decode cX7_meeting 220 = .ok (.getfield 29, 3) := by decide +kernel
theorem dX7_meeting_223 : decode cX7_meeting 223 = .ok (.iconst 5, 1) := by decide +kernel
theorem dX7_meeting_224 : decode cX7_meeting 224 = .ok (.iload 11, 2) := by decide +kernel
theorem dX7_meeting_226 : decode cX7_meeting 226 = .ok (.imul, 1) := by decide +kernel
theorem dX7_meeting_227 : decode cX7_meeting 227 = .ok (.iload 12, 2) := by decide +kernel
theorem dX7_meeting_229 : decode cX7_meeting 229 = .ok (.iadd, 1) := by decide +kernel
theorem dX7_meeting_230 : decode cX7_meeting 230 = .ok (.aload_n 0, 1) := by decide +kernel
theorem dX7_meeting_231 : decode cX7_meeting 231 = .ok (.getfield 29, 3) := by decide +kernel
theorem dX7_meeting_234 : decode cX7_meeting 234 = .ok (.iconst 5, 1) := by decide +kernel
theorem dX7_meeting_235 : decode cX7_meeting 235 = .ok (.iload 11, 2) := by decide +kernel
theorem dX7_meeting_237 : decode cX7_meeting 237 = .ok (.imul, 1) := by decide +kernel
theorem dX7_meeting_238 : decode cX7_meeting 238 = .ok (.iconst 5, 1) := by decide +kernel
theorem dX7_meeting_239 : decode cX7_meeting 239 = .ok (.isub, 1) := by decide +kernel
theorem dX7_meeting_240 : decode cX7_meeting 240 = .ok (.iload 12, 2) := by decide +kernel
theorem dX7_meeting_242 : decode cX7_meeting 242 = .ok (.iadd, 1) := by decide +kernel
theorem dX7_meeting_243 : decode cX7_meeting 243 = .ok (.iaload, 1) := by decide +kernel
theorem dX7_meeting_244 : decode cX7_meeting 244 = .ok (.iastore, 1) := by decide +kernel
theorem dX7_meeting_245 : decode cX7_meeting 245 = .ok (.iinc 12 1, 3) := by decide +kernel
theorem dX7_meeting_248 : decode cX7_meeting 248 = .ok (.goto (-35), 3) := by decide +kernel
theorem dX7_meeting_251 : decode cX7_meeting 251 = .ok (.iinc 11 (-1), 3) := by decide +kernel
theorem dX7_meeting_254 : decode cX7_meeting 254 = .ok (.goto (-68), 3) := by decide +kernel
theorem dX7_meeting_257 : decode cX7_meeting 257 = .ok (.aload_n 0, 1) := by decide +kernel
theorem dX7_meeting_258 : decode cX7_meeting 258 = .ok (.getfield 29, 3) := by decide +kernel
theorem dX7_meeting_261 : decode cX7_meeting 261 = .ok (.iconst 5, 1) := by decide +kernel
theorem dX7_meeting_262 : decode cX7_meeting 262 = .ok (.iload 11, 2) := by decide +kernel
theorem dX7_meeting_264 : decode cX7_meeting 264 = .ok (.imul, 1) := by decide +kernel
theorem dX7_meeting_265 : decode cX7_meeting 265 = .ok (.iload 5, 2) := by decide +kernel
theorem dX7_meeting_267 : decode cX7_meeting 267 = .ok (.iastore, 1) := by decide +kernel
theorem dX7_meeting_268 : decode cX7_meeting 268 = .ok (.aload_n 0, 1) := by decide +kernel
theorem dX7_meeting_269 : decode cX7_meeting 269 = .ok (.getfield 29, 3) := by decide +kernel
theorem dX7_meeting_272 : decode cX7_meeting 272 = .ok (.iconst 5, 1) := by decide +kernel
theorem dX7_meeting_273 : decode cX7_meeting 273 = .ok (.iload 11, 2) := by decide +kernel
theorem dX7_meeting_275 : decode cX7_meeting 275 = .ok (.imul, 1) := by decide +kernel
theorem dX7_meeting_276 : decode cX7_meeting 276 = .ok (.iconst 1, 1) := by decide +kernel
theorem dX7_meeting_277 : decode cX7_meeting 277 = .ok (.iadd, 1) := by decide +kernel
theorem dX7_meeting_278 : decode cX7_meeting 278 = .ok (.iload 6, 2) := by decide +kernel
theorem dX7_meeting_280 : decode cX7_meeting 280 = .ok (.iastore, 1) := by decide +kernel
theorem dX7_meeting_281 : decode cX7_meeting 281 = .ok (.aload_n 0, 1) := by decide +kernel
theorem dX7_meeting_282 : decode cX7_meeting 282 = .ok (.getfield 29, 3) := by decide +kernel
theorem dX7_meeting_285 : decode cX7_meeting 285 = .ok (.iconst 5, 1) := by decide +kernel
theorem dX7_meeting_286 : decode cX7_meeting 286 = .ok (.iload 11, 2) := by decide +kernel
theorem dX7_meeting_288 : decode cX7_meeting 288 = .ok (.imul, 1) := by decide +kernel
theorem dX7_meeting_289 : decode cX7_meeting 289 = .ok (.iconst 2, 1) := by decide +kernel
theorem dX7_meeting_290 : decode cX7_meeting 290 = .ok (.iadd, 1) := by decide +kernel
theorem dX7_meeting_291 : decode cX7_meeting 291 = .ok (.iload 7, 2) := by decide +kernel
theorem dX7_meeting_293 : decode cX7_meeting 293 = .ok (.iastore, 1) := by decide +kernel
theorem dX7_meeting_294 : decode cX7_meeting 294 = .ok (.aload_n 0, 1) := by decide +kernel
theorem dX7_meeting_295 : decode cX7_meeting 295 = .ok (.getfield 29, 3) := by decide +kernel
theorem dX7_meeting_298 : decode cX7_meeting 298 = .ok (.iconst 5, 1) := by decide +kernel
theorem dX7_meeting_299 : decode cX7_meeting 299 = .ok (.iload 11, 2) := by decide +kernel
theorem dX7_meeting_301 : decode cX7_meeting 301 = .ok (.imul, 1) := by decide +kernel
theorem dX7_meeting_302 : decode cX7_meeting 302 = .ok (.iconst 3, 1) := by decide +kernel
theorem dX7_meeting_303 : decode cX7_meeting 303 = .ok (.iadd, 1) := by decide +kernel
theorem dX7_meeting_304 : decode cX7_meeting 304 = .ok (.iload 9, 2) := by decide +kernel
theorem dX7_meeting_306 : decode cX7_meeting 306 = .ok (.iastore, 1) := by decide +kernel
theorem dX7_meeting_307 : decode cX7_meeting 307 = .ok (.aload_n 0, 1) := by decide +kernel
theorem dX7_meeting_308 : decode cX7_meeting 308 = .ok (.getfield 29, 3) := by decide +kernel
theorem dX7_meeting_311 : decode cX7_meeting 311 = .ok (.iconst 5, 1) := by decide +kernel
theorem dX7_meeting_312 : decode cX7_meeting 312 = .ok (.iload 11, 2) := by decide +kernel
theorem dX7_meeting_314 : decode cX7_meeting 314 = .ok (.imul, 1) := by decide +kernel
theorem dX7_meeting_315 : decode cX7_meeting 315 = .ok (.iconst 4, 1) := by decide +kernel
theorem dX7_meeting_316 : decode cX7_meeting 316 = .ok (.iadd, 1) := by decide +kernel
theorem dX7_meeting_317 : decode cX7_meeting 317 = .ok (.iload 10, 2) := by decide +kernel
theorem dX7_meeting_319 : decode cX7_meeting 319 = .ok (.iastore, 1) := by decide +kernel
theorem dX7_meeting_320 : decode cX7_meeting 320 = .ok (.aload_n 0, 1) := by decide +kernel
theorem dX7_meeting_321 : decode cX7_meeting 321 = .ok (.dup, 1) := by decide +kernel
theorem dX7_meeting_322 : decode cX7_meeting 322 = .ok (.getfield 114, 3) := by decide +kernel
theorem dX7_meeting_325 : decode cX7_meeting 325 = .ok (.iconst 1, 1) := by decide +kernel
theorem dX7_meeting_326 : decode cX7_meeting 326 = .ok (.iadd, 1) := by decide +kernel
theorem dX7_meeting_327 : decode cX7_meeting 327 = .ok (.putfield 114, 3) := by decide +kernel
theorem dX7_meeting_330 : decode cX7_meeting 330 = .ok (.return_, 1) := by decide +kernel
theorem dX7_isOn_0 : decode cX7_isOn 0 = .ok (.aload_n 0, 1) := by decide +kernel
theorem dX7_isOn_1 : decode cX7_isOn 1 = .ok (.getfield 29, 3) := by decide +kernel
theorem dX7_isOn_4 : decode cX7_isOn 4 = .ok (.iconst 5, 1) := by decide +kernel
theorem dX7_isOn_5 : decode cX7_isOn 5 = .ok (.iload_n 1, 1) := by decide +kernel
theorem dX7_isOn_6 : decode cX7_isOn 6 = .ok (.imul, 1) := by decide +kernel
theorem dX7_isOn_7 : decode cX7_isOn 7 = .ok (.iconst 4, 1) := by decide +kernel
theorem dX7_isOn_8 : decode cX7_isOn 8 = .ok (.iadd, 1) := by decide +kernel
theorem dX7_isOn_9 : decode cX7_isOn 9 = .ok (.iaload, 1) := by decide +kernel
theorem dX7_isOn_10 : decode cX7_isOn 10 = .ok (.iload_n 2, 1) := by decide +kernel
theorem dX7_isOn_11 : decode cX7_isOn 11 = .ok (.ishr, 1) := by decide +kernel
theorem dX7_isOn_12 : decode cX7_isOn 12 = .ok (.iconst 1, 1) := by decide +kernel
theorem dX7_isOn_13 : decode cX7_isOn 13 = .ok (.iand, 1) := by decide +kernel
theorem dX7_isOn_14 : decode cX7_isOn 14 = .ok (.iconst 1, 1) := by decide +kernel
theorem dX7_isOn_15 : decode cX7_isOn 15 = .ok (.if_icmp .ne 7, 3) := by decide +kernel
theorem dX7_isOn_18 : decode cX7_isOn 18 = .ok (.iconst 1, 1) := by decide +kernel
theorem dX7_isOn_19 : decode cX7_isOn 19 = .ok (.goto 4, 3) := by decide +kernel
theorem dX7_isOn_22 : decode cX7_isOn 22 = .ok (.iconst 0, 1) := by decide +kernel
theorem dX7_isOn_23 : decode cX7_isOn 23 = .ok (.ireturn, 1) := by decide +kernel
theorem dX7_cornersOn_0 : decode cX7_cornersOn 0 = .ok (.iconst 0, 1) := by decide +kernel
theorem dX7_cornersOn_1 : decode cX7_cornersOn 1 = .ok (.istore_n 2, 1) := by decide +kernel
theorem dX7_cornersOn_2 : decode cX7_cornersOn 2 = .ok (.iconst 0, 1) := by decide +kernel
theorem dX7_cornersOn_3 : decode cX7_cornersOn 3 = .ok (.istore_n 3, 1) := by decide +kernel
theorem dX7_cornersOn_4 : decode cX7_cornersOn 4 = .ok (.iload_n 3, 1) := by decide +kernel
theorem dX7_cornersOn_5 : decode cX7_cornersOn 5 = .ok (.aload_n 0, 1) := by decide +kernel
theorem dX7_cornersOn_6 : decode cX7_cornersOn 6 = .ok (.getfield 114, 3) := by decide +kernel
theorem dX7_cornersOn_9 : decode cX7_cornersOn 9 = .ok (.if_icmp .ge 26, 3) := by decide +kernel
theorem dX7_cornersOn_12 : decode cX7_cornersOn 12 = .ok (.iload_n 2, 1) := by decide +kernel
theorem dX7_cornersOn_13 : decode cX7_cornersOn 13 = .ok (.aload_n 0, 1) := by decide +kernel
theorem dX7_cornersOn_14 : decode cX7_cornersOn 14 = .ok (.iload_n 3, 1) := by decide +kernel
theorem dX7_cornersOn_15 : decode cX7_cornersOn 15 = .ok (.iload_n 1, 1) := by decide +kernel
theorem dX7_cornersOn_16 : decode cX7_cornersOn 16 = .ok (.invokevirtual 134, 3) := by decide +kernel
theorem dX7_cornersOn_19 : decode cX7_cornersOn 19 = .ok (.ifCond .eq 7, 3) := by decide +kernel
theorem dX7_cornersOn_22 : decode cX7_cornersOn 22 = .ok (.iconst 1, 1) := by decide +kernel
theorem dX7_cornersOn_23 : decode cX7_cornersOn 23 = .ok (.goto 4, 3) := by decide +kernel
theorem dX7_cornersOn_26 : decode cX7_cornersOn 26 = .ok (.iconst 0, 1) := by decide +kernel
theorem dX7_cornersOn_27 : decode cX7_cornersOn 27 = .ok (.iadd, 1) := by decide +kernel
theorem dX7_cornersOn_28 : decode cX7_cornersOn 28 = .ok (.istore_n 2, 1) := by decide +kernel
theorem dX7_cornersOn_29 : decode cX7_cornersOn 29 = .ok (.iinc 3 1, 3) := by decide +kernel
theorem dX7_cornersOn_32 : decode cX7_cornersOn 32 = .ok (.goto (-28), 3) := by decide +kernel
theorem dX7_cornersOn_35 : decode cX7_cornersOn 35 = .ok (.iload_n 2, 1) := by decide +kernel
theorem dX7_cornersOn_36 : decode cX7_cornersOn 36 = .ok (.ireturn, 1) := by decide +kernel
theorem dX7_cornersOnBoth_0 : decode cX7_cornersOnBoth 0 = .ok (.iconst 0, 1) := by decide +kernel
theorem dX7_cornersOnBoth_1 : decode cX7_cornersOnBoth 1 = .ok (.istore_n 3, 1) := by decide +kernel
theorem dX7_cornersOnBoth_2 : decode cX7_cornersOnBoth 2 = .ok (.iconst 0, 1) := by decide +kernel
theorem dX7_cornersOnBoth_3 : decode cX7_cornersOnBoth 3 = .ok (.istore 4, 2) := by decide +kernel
theorem dX7_cornersOnBoth_5 : decode cX7_cornersOnBoth 5 = .ok (.iload 4, 2) := by decide +kernel
theorem dX7_cornersOnBoth_7 : decode cX7_cornersOnBoth 7 = .ok (.aload_n 0, 1) := by decide +kernel
theorem dX7_cornersOnBoth_8 : decode cX7_cornersOnBoth 8 = .ok (.getfield 114, 3) := by decide +kernel
theorem dX7_cornersOnBoth_11 : decode cX7_cornersOnBoth 11 = .ok (.if_icmp .ge 37, 3) := by decide +kernel
theorem dX7_cornersOnBoth_14 : decode cX7_cornersOnBoth 14 = .ok (.iload_n 3, 1) := by decide +kernel
theorem dX7_cornersOnBoth_15 : decode cX7_cornersOnBoth 15 = .ok (.aload_n 0, 1) := by decide +kernel
theorem dX7_cornersOnBoth_16 : decode cX7_cornersOnBoth 16 = .ok (.iload 4, 2) := by decide +kernel
theorem dX7_cornersOnBoth_18 : decode cX7_cornersOnBoth 18 = .ok (.iload_n 1, 1) := by decide +kernel
theorem dX7_cornersOnBoth_19 : decode cX7_cornersOnBoth 19 = .ok (.invokevirtual 134, 3) := by decide +kernel
theorem dX7_cornersOnBoth_22 : decode cX7_cornersOnBoth 22 = .ok (.ifCond .eq 17, 3) := by decide +kernel
theorem dX7_cornersOnBoth_25 : decode cX7_cornersOnBoth 25 = .ok (.aload_n 0, 1) := by decide +kernel
theorem dX7_cornersOnBoth_26 : decode cX7_cornersOnBoth 26 = .ok (.iload 4, 2) := by decide +kernel
theorem dX7_cornersOnBoth_28 : decode cX7_cornersOnBoth 28 = .ok (.iload_n 2, 1) := by decide +kernel
theorem dX7_cornersOnBoth_29 : decode cX7_cornersOnBoth 29 = .ok (.invokevirtual 134, 3) := by decide +kernel
theorem dX7_cornersOnBoth_32 : decode cX7_cornersOnBoth 32 = .ok (.ifCond .eq 7, 3) := by decide +kernel
theorem dX7_cornersOnBoth_35 : decode cX7_cornersOnBoth 35 = .ok (.iconst 1, 1) := by decide +kernel
theorem dX7_cornersOnBoth_36 : decode cX7_cornersOnBoth 36 = .ok (.goto 4, 3) := by decide +kernel
theorem dX7_cornersOnBoth_39 : decode cX7_cornersOnBoth 39 = .ok (.iconst 0, 1) := by decide +kernel
theorem dX7_cornersOnBoth_40 : decode cX7_cornersOnBoth 40 = .ok (.iadd, 1) := by decide +kernel
theorem dX7_cornersOnBoth_41 : decode cX7_cornersOnBoth 41 = .ok (.istore_n 3, 1) := by decide +kernel
theorem dX7_cornersOnBoth_42 : decode cX7_cornersOnBoth 42 = .ok (.iinc 4 1, 3) := by decide +kernel
theorem dX7_cornersOnBoth_45 : decode cX7_cornersOnBoth 45 = .ok (.goto (-40), 3) := by decide +kernel
theorem dX7_cornersOnBoth_48 : decode cX7_cornersOnBoth 48 = .ok (.iload_n 3, 1) := by decide +kernel
theorem dX7_cornersOnBoth_49 : decode cX7_cornersOnBoth 49 = .ok (.ireturn, 1) := by decide +kernel
theorem dX7_isSame_0 : decode cX7_isSame 0 = .ok (.iconst 1, 1) := by decide +kernel
theorem dX7_isSame_1 : decode cX7_isSame 1 = .ok (.istore_n 3, 1) := by decide +kernel
theorem dX7_isSame_2 : decode cX7_isSame 2 = .ok (.iconst 0, 1) := by decide +kernel
theorem dX7_isSame_3 : decode cX7_isSame 3 = .ok (.istore 4, 2) := by decide +kernel
theorem dX7_isSame_5 : decode cX7_isSame 5 = .ok (.iload 4, 2) := by decide +kernel
theorem dX7_isSame_7 : decode cX7_isSame 7 = .ok (.iconst 3, 1) := by decide +kernel
theorem dX7_isSame_8 : decode cX7_isSame 8 = .ok (.if_icmp .ge 50, 3) := by decide +kernel
theorem dX7_isSame_11 : decode cX7_isSame 11 = .ok (.iload_n 3, 1) := by decide +kernel
theorem dX7_isSame_12 : decode cX7_isSame 12 = .ok (.ifCond .eq 38, 3) := by decide +kernel
theorem dX7_isSame_15 : decode cX7_isSame 15 = .ok (.aload_n 0, 1) := by decide +kernel
theorem dX7_isSame_16 : decode cX7_isSame 16 = .ok (.iload_n 1, 1) := by decide +kernel
theorem dX7_isSame_17 : decode cX7_isSame 17 = .ok (.iload 4, 2) := by decide +kernel
theorem dX7_isSame_19 : decode cX7_isSame 19 = .ok (.invokevirtual 85, 3) := by decide +kernel
theorem dX7_isSame_22 : decode cX7_isSame 22 = .ok (.aload_n 0, 1) := by decide +kernel
theorem dX7_isSame_23 : decode cX7_isSame 23 = .ok (.iload_n 2, 1) := by decide +kernel
theorem dX7_isSame_24 : decode cX7_isSame 24 = .ok (.iconst 3, 1) := by decide +kernel
theorem dX7_isSame_25 : decode cX7_isSame 25 = .ok (.invokevirtual 85, 3) := by decide +kernel
theorem dX7_isSame_28 : decode cX7_isSame 28 = .ok (.imul, 1) := by decide +kernel
theorem dX7_isSame_29 : decode cX7_isSame 29 = .ok (.aload_n 0, 1) := by decide +kernel
theorem dX7_isSame_30 : decode cX7_isSame 30 = .ok (.iload_n 2, 1) := by decide +kernel
theorem dX7_isSame_31 : decode cX7_isSame 31 = .ok (.iload 4, 2) := by decide +kernel
theorem dX7_isSame_33 : decode cX7_isSame 33 = .ok (.invokevirtual 85, 3) := by decide +kernel
theorem dX7_isSame_36 : decode cX7_isSame 36 = .ok (.aload_n 0, 1) := by decide +kernel
theorem dX7_isSame_37 : decode cX7_isSame 37 = .ok (.iload_n 1, 1) := by decide +kernel
theorem dX7_isSame_38 : decode cX7_isSame 38 = .ok (.iconst 3, 1) := by decide +kernel
theorem dX7_isSame_39 : decode cX7_isSame 39 = .ok (.invokevirtual 85, 3) := by decide +kernel
theorem dX7_isSame_42 : decode cX7_isSame 42 = .ok (.imul, 1) := by decide +kernel
theorem dX7_isSame_43 : decode cX7_isSame 43 = .ok (.if_icmp .ne 7, 3) := by decide +kernel
theorem dX7_isSame_46 : decode cX7_isSame 46 = .ok (.iconst 1, 1) := by decide +kernel
theorem dX7_isSame_47 : decode cX7_isSame 47 = .ok (.goto 4, 3) := by decide +kernel
theorem dX7_isSame_50 : decode cX7_isSame 50 = .ok (.iconst 0, 1) := by decide +kernel
theorem dX7_isSame_51 : decode cX7_isSame 51 = .ok (.istore_n 3, 1) := by decide +kernel
theorem dX7_isSame_52 : decode cX7_isSame 52 = .ok (.iinc 4 1, 3) := by decide +kernel
theorem dX7_isSame_55 : decode cX7_isSame 55 = .ok (.goto (-50), 3) := by decide +kernel
theorem dX7_isSame_58 : decode cX7_isSame 58 = .ok (.iload_n 3, 1) := by decide +kernel
theorem dX7_isSame_59 : decode cX7_isSame 59 = .ok (.ireturn, 1) := by decide +kernel
theorem dX7_lays_0 : decode cX7_lays 0 = .ok (.aload_n 0, 1) := by decide +kernel
theorem dX7_lays_1 : decode cX7_lays 1 = .ok (.iconst 0, 1) := by decide +kernel
theorem dX7_lays_2 : decode cX7_lays 2 = .ok (.putfield 114, 3) := by decide +kernel
theorem dX7_lays_5 : decode cX7_lays 5 = .ok (.iconst 0, 1) := by decide +kernel
theorem dX7_lays_6 : decode cX7_lays 6 = .ok (.istore_n 1, 1) := by decide +kernel
theorem dX7_lays_7 : decode cX7_lays 7 = .ok (.iload_n 1, 1) := by decide +kernel
theorem dX7_lays_8 : decode cX7_lays 8 = .ok (.aload_n 0, 1) := by decide +kernel
theorem dX7_lays_9 : decode cX7_lays 9 = .ok (.getfield 7, 3) := by decide +kernel
theorem dX7_lays_12 : decode cX7_lays 12 = .ok (.iconst 0, 1) := by decide +kernel
theorem dX7_lays_13 : decode cX7_lays 13 = .ok (.iaload, 1) := by decide +kernel
theorem dX7_lays_14 : decode cX7_lays 14 = .ok (.if_icmp .ge 73, 3) := by decide +kernel
theorem dX7_lays_17 : decode cX7_lays 17 = .ok (.iload_n 1, 1) := by decide +kernel
theorem dX7_lays_18 : decode cX7_lays 18 = .ok (.iconst 1, 1) := by decide +kernel
theorem dX7_lays_19 : decode cX7_lays 19 = .ok (.iadd, 1) := by decide +kernel
theorem dX7_lays_20 : decode cX7_lays 20 = .ok (.istore_n 2, 1) := by decide +kernel
theorem dX7_lays_21 : decode cX7_lays 21 = .ok (.iload_n 2, 1) := by decide +kernel
theorem dX7_lays_22 : decode cX7_lays 22 = .ok (.aload_n 0, 1) := by decide +kernel
theorem dX7_lays_23 : decode cX7_lays 23 = .ok (.getfield 7, 3) := by decide +kernel
theorem dX7_lays_26 : decode cX7_lays 26 = .ok (.iconst 0, 1) := by decide +kernel
theorem dX7_lays_27 : decode cX7_lays 27 = .ok (.iaload, 1) := by decide +kernel
theorem dX7_lays_28 : decode cX7_lays 28 = .ok (.if_icmp .ge 53, 3) := by decide +kernel
theorem dX7_lays_31 : decode cX7_lays 31 = .ok (.iload_n 2, 1) := by decide +kernel
theorem dX7_lays_32 : decode cX7_lays 32 = .ok (.iconst 1, 1) := by decide +kernel
theorem dX7_lays_33 : decode cX7_lays 33 = .ok (.iadd, 1) := by decide +kernel
theorem dX7_lays_34 : decode cX7_lays 34 = .ok (.istore_n 3, 1) := by decide +kernel
theorem dX7_lays_35 : decode cX7_lays 35 = .ok (.iload_n 3, 1) := by decide +kernel
theorem dX7_lays_36 : decode cX7_lays 36 = .ok (.aload_n 0, 1) := by decide +kernel
theorem dX7_lays_37 : decode cX7_lays 37 = .ok (.getfield 7, 3) := by decide +kernel
theorem dX7_lays_40 : decode cX7_lays 40 = .ok (.iconst 0, 1) := by decide +kernel
theorem dX7_lays_41 : decode cX7_lays 41 = .ok (.iaload, 1) := by decide +kernel
theorem dX7_lays_42 : decode cX7_lays 42 = .ok (.if_icmp .ge 33, 3) := by decide +kernel
theorem dX7_lays_45 : decode cX7_lays 45 = .ok (.aload_n 0, 1) := by decide +kernel
theorem dX7_lays_46 : decode cX7_lays 46 = .ok (.iload_n 1, 1) := by decide +kernel
theorem dX7_lays_47 : decode cX7_lays 47 = .ok (.iload_n 2, 1) := by decide +kernel
theorem dX7_lays_48 : decode cX7_lays 48 = .ok (.iload_n 3, 1) := by decide +kernel
theorem dX7_lays_49 : decode cX7_lays 49 = .ok (.iconst 3, 1) := by decide +kernel
theorem dX7_lays_50 : decode cX7_lays 50 = .ok (.invokevirtual 117, 3) := by decide +kernel
theorem dX7_lays_53 : decode cX7_lays 53 = .ok (.istore 4, 2) := by decide +kernel
theorem dX7_lays_55 : decode cX7_lays 55 = .ok (.iload 4, 2) := by decide +kernel
theorem dX7_lays_57 : decode cX7_lays 57 = .ok (.ifCond .eq 12, 3) := by decide +kernel
theorem dX7_lays_60 : decode cX7_lays 60 = .ok (.aload_n 0, 1) := by decide +kernel
theorem dX7_lays_61 : decode cX7_lays 61 = .ok (.iload_n 1, 1) := by decide +kernel
theorem dX7_lays_62 : decode cX7_lays 62 = .ok (.iload_n 2, 1) := by decide +kernel
theorem dX7_lays_63 : decode cX7_lays 63 = .ok (.iload_n 3, 1) := by decide +kernel
theorem dX7_lays_64 : decode cX7_lays 64 = .ok (.iload 4, 2) := by decide +kernel
theorem dX7_lays_66 : decode cX7_lays 66 = .ok (.invokevirtual 138, 3) := by decide +kernel
theorem dX7_lays_69 : decode cX7_lays 69 = .ok (.iinc 3 1, 3) := by decide +kernel
theorem dX7_lays_72 : decode cX7_lays 72 = .ok (.goto (-37), 3) := by decide +kernel
theorem dX7_lays_75 : decode cX7_lays 75 = .ok (.iinc 2 1, 3) := by decide +kernel
theorem dX7_lays_78 : decode cX7_lays 78 = .ok (.goto (-57), 3) := by decide +kernel
theorem dX7_lays_81 : decode cX7_lays 81 = .ok (.iinc 1 1, 3) := by decide +kernel
theorem dX7_lays_84 : decode cX7_lays 84 = .ok (.goto (-77), 3) := by decide +kernel
theorem dX7_lays_87 : decode cX7_lays 87 = .ok (.iconst 0, 1) := by decide +kernel
theorem dX7_lays_88 : decode cX7_lays 88 = .ok (.istore_n 1, 1) := by decide +kernel
theorem dX7_lays_89 : decode cX7_lays 89 = .ok (.iload_n 1, 1) := by decide +kernel
theorem dX7_lays_90 : decode cX7_lays 90 = .ok (.aload_n 0, 1) := by decide +kernel
theorem dX7_lays_91 : decode cX7_lays 91 = .ok (.getfield 7, 3) := by decide +kernel
theorem dX7_lays_94 : decode cX7_lays 94 = .ok (.iconst 0, 1) := by decide +kernel
theorem dX7_lays_95 : decode cX7_lays 95 = .ok (.iaload, 1) := by decide +kernel
theorem dX7_lays_96 : decode cX7_lays 96 = .ok (.if_icmp .ge 71, 3) := by decide +kernel
theorem dX7_lays_99 : decode cX7_lays 99 = .ok (.aload_n 0, 1) := by decide +kernel
theorem dX7_lays_100 : decode cX7_lays 100 = .ok (.getfield 32, 3) := by decide +kernel
theorem dX7_lays_103 : decode cX7_lays 103 = .ok (.iload_n 1, 1) := by decide +kernel
theorem dX7_lays_104 : decode cX7_lays 104 = .ok (.aload_n 0, 1) := by decide +kernel
theorem dX7_lays_105 : decode cX7_lays 105 = .ok (.iload_n 1, 1) := by decide +kernel
theorem dX7_lays_106 : decode cX7_lays 106 = .ok (.invokevirtual 141, 3) := by decide +kernel
theorem dX7_lays_109 : decode cX7_lays 109 = .ok (.iconst 2, 1) := by decide +kernel
theorem dX7_lays_110 : decode cX7_lays 110 = .ok (.if_icmp .le 7, 3) := by decide +kernel
theorem dX7_lays_113 : decode cX7_lays 113 = .ok (.iconst 1, 1) := by decide +kernel
theorem dX7_lays_114 : decode cX7_lays 114 = .ok (.goto 4, 3) := by decide +kernel
theorem dX7_lays_117 : decode cX7_lays 117 = .ok (.iconst 0, 1) := by decide +kernel
theorem dX7_lays_118 : decode cX7_lays 118 = .ok (.bastore, 1) := by decide +kernel
theorem dX7_lays_119 : decode cX7_lays 119 = .ok (.iconst 0, 1) := by decide +kernel
theorem dX7_lays_120 : decode cX7_lays 120 = .ok (.istore_n 2, 1) := by decide +kernel
theorem dX7_lays_121 : decode cX7_lays 121 = .ok (.iload_n 2, 1) := by decide +kernel
theorem dX7_lays_122 : decode cX7_lays 122 = .ok (.iload_n 1, 1) := by decide +kernel
theorem dX7_lays_123 : decode cX7_lays 123 = .ok (.if_icmp .ge 38, 3) := by decide +kernel
theorem dX7_lays_126 : decode cX7_lays 126 = .ok (.aload_n 0, 1) := by decide +kernel
theorem dX7_lays_127 : decode cX7_lays 127 = .ok (.getfield 32, 3) := by decide +kernel
theorem dX7_lays_130 : decode cX7_lays 130 = .ok (.iload_n 1, 1) := by decide +kernel
theorem dX7_lays_131 : decode cX7_lays 131 = .ok (.aload_n 0, 1) := by decide +kernel
theorem dX7_lays_132 : decode cX7_lays 132 = .ok (.getfield 32, 3) := by decide +kernel
theorem dX7_lays_135 : decode cX7_lays 135 = .ok (.iload_n 1, 1) := by decide +kernel
theorem dX7_lays_136 : decode cX7_lays 136 = .ok (.baload, 1) := by decide +kernel
theorem dX7_lays_137 : decode cX7_lays 137 = .ok (.ifCond .eq 16, 3) := by decide +kernel
theorem dX7_lays_140 : decode cX7_lays 140 = .ok (.aload_n 0, 1) := by decide +kernel
theorem dX7_lays_141 : decode cX7_lays 141 = .ok (.iload_n 1, 1) := by decide +kernel
theorem dX7_lays_142 : decode cX7_lays 142 = .ok (.iload_n 2, 1) := by decide +kernel
theorem dX7_lays_143 : decode cX7_lays 143 = .ok (.invokevirtual 144, 3) := by decide +kernel
theorem dX7_lays_146 : decode cX7_lays 146 = .ok (.ifCond .ne 7, 3) := by decide +kernel
theorem dX7_lays_149 : decode cX7_lays 149 = .ok (.iconst 1, 1) := by decide +kernel
theorem dX7_lays_150 : decode cX7_lays 150 = .ok (.goto 4, 3) := by decide +kernel
theorem dX7_lays_153 : decode cX7_lays 153 = .ok (.iconst 0, 1) := by decide +kernel
theorem dX7_lays_154 : decode cX7_lays 154 = .ok (.bastore, 1) := by decide +kernel
theorem dX7_lays_155 : decode cX7_lays 155 = .ok (.iinc 2 1, 3) := by decide +kernel
theorem dX7_lays_158 : decode cX7_lays 158 = .ok (.goto (-37), 3) := by decide +kernel
theorem dX7_lays_161 : decode cX7_lays 161 = .ok (.iinc 1 1, 3) := by decide +kernel
theorem dX7_lays_164 : decode cX7_lays 164 = .ok (.goto (-75), 3) := by decide +kernel
theorem dX7_lays_167 : decode cX7_lays 167 = .ok (.return_, 1) := by decide +kernel
theorem dX7_isEdge_0 : decode cX7_isEdge 0 = .ok (.aload_n 0, 1) := by decide +kernel
theorem dX7_isEdge_1 : decode cX7_isEdge 1 = .ok (.getfield 32, 3) := by decide +kernel
theorem dX7_isEdge_4 : decode cX7_isEdge 4 = .ok (.iload_n 1, 1) := by decide +kernel
theorem dX7_isEdge_5 : decode cX7_isEdge 5 = .ok (.baload, 1) := by decide +kernel
theorem dX7_isEdge_6 : decode cX7_isEdge 6 = .ok (.ifCond .eq 26, 3) := by decide +kernel
theorem dX7_isEdge_9 : decode cX7_isEdge 9 = .ok (.aload_n 0, 1) := by decide +kernel
theorem dX7_isEdge_10 : decode cX7_isEdge 10 = .ok (.getfield 32, 3) := by decide +kernel
theorem dX7_isEdge_13 : decode cX7_isEdge 13 = .ok (.iload_n 2, 1) := by decide +kernel
theorem dX7_isEdge_14 : decode cX7_isEdge 14 = .ok (.baload, 1) := by decide +kernel
theorem dX7_isEdge_15 : decode cX7_isEdge 15 = .ok (.ifCond .eq 17, 3) := by decide +kernel
theorem dX7_isEdge_18 : decode cX7_isEdge 18 = .ok (.aload_n 0, 1) := by decide +kernel
theorem dX7_isEdge_19 : decode cX7_isEdge 19 = .ok (.iload_n 1, 1) := by decide +kernel
theorem dX7_isEdge_20 : decode cX7_isEdge 20 = .ok (.iload_n 2, 1) := by decide +kernel
theorem dX7_isEdge_21 : decode cX7_isEdge 21 = .ok (.invokevirtual 147, 3) := by decide +kernel
theorem dX7_isEdge_24 : decode cX7_isEdge 24 = .ok (.iconst 1, 1) := by decide +kernel
theorem dX7_isEdge_25 : decode cX7_isEdge 25 = .ok (.if_icmp .le 7, 3) := by decide +kernel
theorem dX7_isEdge_28 : decode cX7_isEdge 28 = .ok (.iconst 1, 1) := by decide +kernel
theorem dX7_isEdge_29 : decode cX7_isEdge 29 = .ok (.goto 4, 3) := by decide +kernel
theorem dX7_isEdge_32 : decode cX7_isEdge 32 = .ok (.iconst 0, 1) := by decide +kernel
theorem dX7_isEdge_33 : decode cX7_isEdge 33 = .ok (.ireturn, 1) := by decide +kernel
theorem dX7_edgesOf_0 : decode cX7_edgesOf 0 = .ok (.iconst 0, 1) := by decide +kernel
theorem dX7_edgesOf_1 : decode cX7_edgesOf 1 = .ok (.istore_n 2, 1) := by decide +kernel
theorem dX7_edgesOf_2 : decode cX7_edgesOf 2 = .ok (.iconst 0, 1) := by decide +kernel
theorem dX7_edgesOf_3 : decode cX7_edgesOf 3 = .ok (.istore_n 3, 1) := by decide +kernel
theorem dX7_edgesOf_4 : decode cX7_edgesOf 4 = .ok (.iload_n 3, 1) := by decide +kernel
theorem dX7_edgesOf_5 : decode cX7_edgesOf 5 = .ok (.aload_n 0, 1) := by decide +kernel
theorem dX7_edgesOf_6 : decode cX7_edgesOf 6 = .ok (.getfield 7, 3) := by decide +kernel
theorem dX7_edgesOf_9 : decode cX7_edgesOf 9 = .ok (.iconst 0, 1) := by decide +kernel
theorem dX7_edgesOf_10 : decode cX7_edgesOf 10 = .ok (.iaload, 1) := by decide +kernel
theorem dX7_edgesOf_11 : decode cX7_edgesOf 11 = .ok (.if_icmp .ge 31, 3) := by decide +kernel
theorem dX7_edgesOf_14 : decode cX7_edgesOf 14 = .ok (.iload_n 2, 1) := by decide +kernel
theorem dX7_edgesOf_15 : decode cX7_edgesOf 15 = .ok (.iload_n 3, 1) := by decide +kernel
theorem dX7_edgesOf_16 : decode cX7_edgesOf 16 = .ok (.iload_n 1, 1) := by decide +kernel
theorem dX7_edgesOf_17 : decode cX7_edgesOf 17 = .ok (.if_icmp .eq 16, 3) := by decide +kernel
theorem dX7_edgesOf_20 : decode cX7_edgesOf 20 = .ok (.aload_n 0, 1) := by decide +kernel
theorem dX7_edgesOf_21 : decode cX7_edgesOf 21 = .ok (.iload_n 1, 1) := by decide +kernel
theorem dX7_edgesOf_22 : decode cX7_edgesOf 22 = .ok (.iload_n 3, 1) := by decide +kernel
theorem dX7_edgesOf_23 : decode cX7_edgesOf 23 = .ok (.invokevirtual 150, 3) := by decide +kernel
theorem dX7_edgesOf_26 : decode cX7_edgesOf 26 = .ok (.ifCond .eq 7, 3) := by decide +kernel
theorem dX7_edgesOf_29 : decode cX7_edgesOf 29 = .ok (.iconst 1, 1) := by decide +kernel
theorem dX7_edgesOf_30 : decode cX7_edgesOf 30 = .ok (.goto 4, 3) := by decide +kernel
theorem dX7_edgesOf_33 : decode cX7_edgesOf 33 = .ok (.iconst 0, 1) := by decide +kernel
theorem dX7_edgesOf_34 : decode cX7_edgesOf 34 = .ok (.iadd, 1) := by decide +kernel
theorem dX7_edgesOf_35 : decode cX7_edgesOf 35 = .ok (.istore_n 2, 1) := by decide +kernel
theorem dX7_edgesOf_36 : decode cX7_edgesOf 36 = .ok (.iinc 3 1, 3) := by decide +kernel
theorem dX7_edgesOf_39 : decode cX7_edgesOf 39 = .ok (.goto (-35), 3) := by decide +kernel
theorem dX7_edgesOf_42 : decode cX7_edgesOf 42 = .ok (.iload_n 2, 1) := by decide +kernel
theorem dX7_edgesOf_43 : decode cX7_edgesOf 43 = .ok (.ireturn, 1) := by decide +kernel
theorem dX7_of_0 : decode cX7_of 0 = .ok (.aload_n 0, 1) := by decide +kernel
theorem dX7_of_1 : decode cX7_of 1 = .ok (.iload_n 1, 1) := by decide +kernel
theorem dX7_of_2 : decode cX7_of 2 = .ok (.invokevirtual 81, 3) := by decide +kernel
theorem dX7_of_5 : decode cX7_of 5 = .ok (.ifCond .eq 13, 3) := by decide +kernel
theorem dX7_of_8 : decode cX7_of 8 = .ok (.iload_n 2, 1) := by decide +kernel
theorem dX7_of_9 : decode cX7_of 9 = .ok (.iconst 0, 1) := by decide +kernel
theorem dX7_of_10 : decode cX7_of 10 = .ok (.bipush 6, 2) := by decide +kernel
theorem dX7_of_12 : decode cX7_of 12 = .ok (.invokestatic 45, 3) := by decide +kernel
theorem dX7_of_15 : decode cX7_of 15 = .ok (.ifCond .ne 10, 3) := by decide +kernel
theorem dX7_of_18 : decode cX7_of 18 = .ok (.aload_n 0, 1) := by decide +kernel
theorem dX7_of_19 : decode cX7_of 19 = .ok (.bipush (-100), 2) := by decide +kernel
theorem dX7_of_21 : decode cX7_of 21 = .ok (.invokevirtual 153, 3) := by decide +kernel
theorem dX7_of_24 : decode cX7_of 24 = .ok (.ireturn, 1) := by decide +kernel
theorem dX7_of_25 : decode cX7_of 25 = .ok (.iload_n 2, 1) := by decide +kernel
theorem dX7_of_26 : decode cX7_of 26 = .ok (.iconst 4, 1) := by decide +kernel
theorem dX7_of_27 : decode cX7_of 27 = .ok (.if_icmp .ge 10, 3) := by decide +kernel
theorem dX7_of_30 : decode cX7_of 30 = .ok (.aload_n 0, 1) := by decide +kernel
theorem dX7_of_31 : decode cX7_of 31 = .ok (.iload_n 1, 1) := by decide +kernel
theorem dX7_of_32 : decode cX7_of 32 = .ok (.iload_n 2, 1) := by decide +kernel
theorem dX7_of_33 : decode cX7_of 33 = .ok (.invokevirtual 85, 3) := by decide +kernel
theorem dX7_of_36 : decode cX7_of 36 = .ok (.ireturn, 1) := by decide +kernel
theorem dX7_of_37 : decode cX7_of 37 = .ok (.aload_n 0, 1) := by decide +kernel
theorem dX7_of_38 : decode cX7_of 38 = .ok (.invokevirtual 111, 3) := by decide +kernel
theorem dX7_of_41 : decode cX7_of 41 = .ok (.iload_n 2, 1) := by decide +kernel
theorem dX7_of_42 : decode cX7_of 42 = .ok (.iconst 4, 1) := by decide +kernel
theorem dX7_of_43 : decode cX7_of 43 = .ok (.if_icmp .ne 20, 3) := by decide +kernel
theorem dX7_of_46 : decode cX7_of 46 = .ok (.aload_n 0, 1) := by decide +kernel
theorem dX7_of_47 : decode cX7_of 47 = .ok (.getfield 32, 3) := by decide +kernel
theorem dX7_of_50 : decode cX7_of 50 = .ok (.iload_n 1, 1) := by decide +kernel
theorem dX7_of_51 : decode cX7_of 51 = .ok (.baload, 1) := by decide +kernel
theorem dX7_of_52 : decode cX7_of 52 = .ok (.ifCond .eq 7, 3) := by decide +kernel
theorem dX7_of_55 : decode cX7_of 55 = .ok (.iconst 1, 1) := by decide +kernel
theorem dX7_of_56 : decode cX7_of 56 = .ok (.goto 25, 3) := by decide +kernel
theorem dX7_of_59 : decode cX7_of 59 = .ok (.iconst 0, 1) := by decide +kernel
theorem dX7_of_60 : decode cX7_of 60 = .ok (.goto 21, 3) := by decide +kernel
theorem dX7_of_63 : decode cX7_of 63 = .ok (.iload_n 2, 1) := by decide +kernel
theorem dX7_of_64 : decode cX7_of 64 = .ok (.iconst 5, 1) := by decide +kernel
theorem dX7_of_65 : decode cX7_of 65 = .ok (.if_icmp .ne 11, 3) := by decide +kernel
theorem dX7_of_68 : decode cX7_of 68 = .ok (.aload_n 0, 1) := by decide +kernel
theorem dX7_of_69 : decode cX7_of 69 = .ok (.iload_n 1, 1) := by decide +kernel
theorem dX7_of_70 : decode cX7_of 70 = .ok (.invokevirtual 141, 3) := by decide +kernel
theorem dX7_of_73 : decode cX7_of 73 = .ok (.goto 8, 3) := by decide +kernel
theorem dX7_of_76 : decode cX7_of 76 = .ok (.aload_n 0, 1) := by decide +kernel
theorem dX7_of_77 : decode cX7_of 77 = .ok (.iload_n 1, 1) := by decide +kernel
theorem dX7_of_78 : decode cX7_of 78 = .ok (.invokevirtual 156, 3) := by decide +kernel
theorem dX7_of_81 : decode cX7_of 81 = .ok (.ireturn, 1) := by decide +kernel
theorem dX7_member_0 : decode cX7_member 0 = .ok (.iload_n 1, 1) := by decide +kernel
theorem dX7_member_1 : decode cX7_member 1 = .ok (.iconst 0, 1) := by decide +kernel
theorem dX7_member_2 : decode cX7_member 2 = .ok (.bipush 63, 2) := by decide +kernel
theorem dX7_member_4 : decode cX7_member 4 = .ok (.invokestatic 45, 3) := by decide +kernel
theorem dX7_member_7 : decode cX7_member 7 = .ok (.ifCond .eq 19, 3) := by decide +kernel
theorem dX7_member_10 : decode cX7_member 10 = .ok (.iload_n 2, 1) := by decide +kernel
theorem dX7_member_11 : decode cX7_member 11 = .ok (.iload_n 3, 1) := by decide +kernel
theorem dX7_member_12 : decode cX7_member 12 = .ok (.iload 4, 2) := by decide +kernel
theorem dX7_member_14 : decode cX7_member 14 = .ok (.invokestatic 53, 3) := by decide +kernel
theorem dX7_member_17 : decode cX7_member 17 = .ok (.ifCond .eq 9, 3) := by decide +kernel
theorem dX7_member_20 : decode cX7_member 20 = .ok (.iload 5, 2) := by decide +kernel
theorem dX7_member_22 : decode cX7_member 22 = .ok (.iconst (-1), 1) := by decide +kernel
theorem dX7_member_23 : decode cX7_member 23 = .ok (.if_icmp .ge 10, 3) := by decide +kernel
theorem dX7_member_26 : decode cX7_member 26 = .ok (.aload_n 0, 1) := by decide +kernel
theorem dX7_member_27 : decode cX7_member 27 = .ok (.bipush (-10), 2) := by decide +kernel
theorem dX7_member_29 : decode cX7_member 29 = .ok (.invokevirtual 153, 3) := by decide +kernel
theorem dX7_member_32 : decode cX7_member 32 = .ok (.ireturn, 1) := by decide +kernel
theorem dX7_member_33 : decode cX7_member 33 = .ok (.aload_n 0, 1) := by decide +kernel
theorem dX7_member_34 : decode cX7_member 34 = .ok (.iload_n 1, 1) := by decide +kernel
theorem dX7_member_35 : decode cX7_member 35 = .ok (.iload_n 2, 1) := by decide +kernel
theorem dX7_member_36 : decode cX7_member 36 = .ok (.iload_n 3, 1) := by decide +kernel
theorem dX7_member_37 : decode cX7_member 37 = .ok (.iload 4, 2) := by decide +kernel
theorem dX7_member_39 : decode cX7_member 39 = .ok (.invokevirtual 73, 3) := by decide +kernel
theorem dX7_member_42 : decode cX7_member 42 = .ok (.istore 6, 2) := by decide +kernel
theorem dX7_member_44 : decode cX7_member 44 = .ok (.iload 5, 2) := by decide +kernel
theorem dX7_member_46 : decode cX7_member 46 = .ok (.iconst (-1), 1) := by decide +kernel
theorem dX7_member_47 : decode cX7_member 47 = .ok (.if_icmp .ne 6, 3) := by decide +kernel
theorem dX7_member_50 : decode cX7_member 50 = .ok (.iload 6, 2) := by decide +kernel
theorem dX7_member_52 : decode cX7_member 52 = .ok (.ireturn, 1) := by decide +kernel
theorem dX7_member_53 : decode cX7_member 53 = .ok (.iconst 0, 1) := by decide +kernel
theorem dX7_member_54 : decode cX7_member 54 = .ok (.istore 7, 2) := by decide +kernel
theorem dX7_member_56 : decode cX7_member 56 = .ok (.iconst 0, 1) := by decide +kernel
theorem dX7_member_57 : decode cX7_member 57 = .ok (.istore 8, 2) := by decide +kernel
theorem dX7_member_59 : decode cX7_member 59 = .ok (.iload 8, 2) := by decide +kernel
theorem dX7_member_61 : decode cX7_member 61 = .ok (.sipush 343, 3) := by decide +kernel
theorem dX7_member_64 : decode cX7_member 64 = .ok (.if_icmp .ge 56, 3) := by decide +kernel
theorem dX7_member_67 : decode cX7_member 67 = .ok (.aload_n 0, 1) := by decide +kernel
theorem dX7_member_68 : decode cX7_member 68 = .ok (.getfield 36, 3) := by decide +kernel
theorem dX7_member_71 : decode cX7_member 71 = .ok (.iload 8, 2) := by decide +kernel
theorem dX7_member_73 : decode cX7_member 73 = .ok (.baload, 1) := by decide +kernel
theorem dX7_member_74 : decode cX7_member 74 = .ok (.ifCond .eq 40, 3) := by decide +kernel
theorem dX7_member_77 : decode cX7_member 77 = .ok (.iload 7, 2) := by decide +kernel
theorem dX7_member_79 : decode cX7_member 79 = .ok (.iload 5, 2) := by decide +kernel
theorem dX7_member_81 : decode cX7_member 81 = .ok (.if_icmp .ne 30, 3) := by decide +kernel
theorem dX7_member_84 : decode cX7_member 84 = .ok (.bipush 100, 2) := by decide +kernel
theorem dX7_member_86 : decode cX7_member 86 = .ok (.iload 8, 2) := by decide +kernel
theorem dX7_member_88 : decode cX7_member 88 = .ok (.bipush 49, 2) := by decide +kernel
theorem dX7_member_90 : decode cX7_member 90 = .ok (.idiv, 1) := by decide +kernel
theorem dX7_member_91 : decode cX7_member 91 = .ok (.imul, 1) := by decide +kernel
theorem dX7_member_92 : decode cX7_member 92 = .ok (.bipush 10, 2) := by decide +kernel
theorem dX7_member_94 : decode cX7_member 94 = .ok (.iload 8, 2) := by decide +kernel
theorem dX7_member_96 : decode cX7_member 96 = .ok (.bipush 7, 2) := by decide +kernel
theorem dX7_member_98 : decode cX7_member 98 = .ok (.idiv, 1) := by decide +kernel
theorem dX7_member_99 : decode cX7_member 99 = .ok (.bipush 7, 2) := by decide +kernel
theorem dX7_member_101 : decode cX7_member 101 = .ok (.irem, 1) := by decide +kernel
theorem dX7_member_102 : decode cX7_member 102 = .ok (.imul, 1) := by decide +kernel
theorem dX7_member_103 : decode cX7_member 103 = .ok (.iadd, 1) := by decide +kernel
theorem dX7_member_104 : decode cX7_member 104 = .ok (.iload 8, 2) := by decide +kernel
theorem dX7_member_106 : decode cX7_member 106 = .ok (.bipush 7, 2) := by decide +kernel
theorem dX7_member_108 : decode cX7_member 108 = .ok (.irem, 1) := by decide +kernel
theorem dX7_member_109 : decode cX7_member 109 = .ok (.iadd, 1) := by decide +kernel
theorem dX7_member_110 : decode cX7_member 110 = .ok (.ireturn, 1) := by decide +kernel
theorem dX7_member_111 : decode cX7_member 111 = .ok (.iinc 7 1, 3) := by decide +kernel
theorem dX7_member_114 : decode cX7_member 114 = .ok (.iinc 8 1, 3) := by decide +kernel
theorem dX7_member_117 : decode cX7_member 117 = .ok (.goto (-58), 3) := by decide +kernel
theorem dX7_member_120 : decode cX7_member 120 = .ok (.bipush (-5), 2) := by decide +kernel
theorem dX7_member_122 : decode cX7_member 122 = .ok (.ireturn, 1) := by decide +kernel
theorem dX7_showing_0 : decode cX7_showing 0 = .ok (.iconst 0, 1) := by decide +kernel
theorem dX7_showing_1 : decode cX7_showing 1 = .ok (.istore_n 1, 1) := by decide +kernel
theorem dX7_showing_2 : decode cX7_showing 2 = .ok (.iconst 0, 1) := by decide +kernel
theorem dX7_showing_3 : decode cX7_showing 3 = .ok (.istore_n 2, 1) := by decide +kernel
theorem dX7_showing_4 : decode cX7_showing 4 = .ok (.iload_n 2, 1) := by decide +kernel
theorem dX7_showing_5 : decode cX7_showing 5 = .ok (.aload_n 0, 1) := by decide +kernel
theorem dX7_showing_6 : decode cX7_showing 6 = .ok (.getfield 7, 3) := by decide +kernel
theorem dX7_showing_9 : decode cX7_showing 9 = .ok (.iconst 0, 1) := by decide +kernel
theorem dX7_showing_10 : decode cX7_showing 10 = .ok (.iaload, 1) := by decide +kernel
theorem dX7_showing_11 : decode cX7_showing 11 = .ok (.if_icmp .ge 26, 3) := by decide +kernel
theorem dX7_showing_14 : decode cX7_showing 14 = .ok (.iload_n 1, 1) := by decide +kernel
theorem dX7_showing_15 : decode cX7_showing 15 = .ok (.aload_n 0, 1) := by decide +kernel
theorem dX7_showing_16 : decode cX7_showing 16 = .ok (.getfield 32, 3) := by decide +kernel
theorem dX7_showing_19 : decode cX7_showing 19 = .ok (.iload_n 2, 1) := by decide +kernel
theorem dX7_showing_20 : decode cX7_showing 20 = .ok (.baload, 1) := by decide +kernel
theorem dX7_showing_21 : decode cX7_showing 21 = .ok (.ifCond .eq 7, 3) := by decide +kernel
theorem dX7_showing_24 : decode cX7_showing 24 = .ok (.iconst 1, 1) := by decide +kernel
theorem dX7_showing_25 : decode cX7_showing 25 = .ok (.goto 4, 3) := by decide +kernel
theorem dX7_showing_28 : decode cX7_showing 28 = .ok (.iconst 0, 1) := by decide +kernel
theorem dX7_showing_29 : decode cX7_showing 29 = .ok (.iadd, 1) := by decide +kernel
theorem dX7_showing_30 : decode cX7_showing 30 = .ok (.istore_n 1, 1) := by decide +kernel
theorem dX7_showing_31 : decode cX7_showing 31 = .ok (.iinc 2 1, 3) := by decide +kernel
theorem dX7_showing_34 : decode cX7_showing 34 = .ok (.goto (-30), 3) := by decide +kernel
theorem dX7_showing_37 : decode cX7_showing 37 = .ok (.iload_n 1, 1) := by decide +kernel
theorem dX7_showing_38 : decode cX7_showing 38 = .ok (.ireturn, 1) := by decide +kernel
theorem dX7_edges_0 : decode cX7_edges 0 = .ok (.iconst 0, 1) := by decide +kernel
theorem dX7_edges_1 : decode cX7_edges 1 = .ok (.istore_n 1, 1) := by decide +kernel
theorem dX7_edges_2 : decode cX7_edges 2 = .ok (.iconst 0, 1) := by decide +kernel
theorem dX7_edges_3 : decode cX7_edges 3 = .ok (.istore_n 2, 1) := by decide +kernel
theorem dX7_edges_4 : decode cX7_edges 4 = .ok (.iload_n 2, 1) := by decide +kernel
theorem dX7_edges_5 : decode cX7_edges 5 = .ok (.aload_n 0, 1) := by decide +kernel
theorem dX7_edges_6 : decode cX7_edges 6 = .ok (.getfield 7, 3) := by decide +kernel
theorem dX7_edges_9 : decode cX7_edges 9 = .ok (.iconst 0, 1) := by decide +kernel
theorem dX7_edges_10 : decode cX7_edges 10 = .ok (.iaload, 1) := by decide +kernel
theorem dX7_edges_11 : decode cX7_edges 11 = .ok (.if_icmp .ge 17, 3) := by decide +kernel
theorem dX7_edges_14 : decode cX7_edges 14 = .ok (.iload_n 1, 1) := by decide +kernel
theorem dX7_edges_15 : decode cX7_edges 15 = .ok (.aload_n 0, 1) := by decide +kernel
theorem dX7_edges_16 : decode cX7_edges 16 = .ok (.iload_n 2, 1) := by decide +kernel
theorem dX7_edges_17 : decode cX7_edges 17 = .ok (.invokevirtual 156, 3) := by decide +kernel
theorem dX7_edges_20 : decode cX7_edges 20 = .ok (.iadd, 1) := by decide +kernel
theorem dX7_edges_21 : decode cX7_edges 21 = .ok (.istore_n 1, 1) := by decide +kernel
theorem dX7_edges_22 : decode cX7_edges 22 = .ok (.iinc 2 1, 3) := by decide +kernel
theorem dX7_edges_25 : decode cX7_edges 25 = .ok (.goto (-21), 3) := by decide +kernel
theorem dX7_edges_28 : decode cX7_edges 28 = .ok (.iload_n 1, 1) := by decide +kernel
theorem dX7_edges_29 : decode cX7_edges 29 = .ok (.iconst 2, 1) := by decide +kernel
theorem dX7_edges_30 : decode cX7_edges 30 = .ok (.idiv, 1) := by decide +kernel
theorem dX7_edges_31 : decode cX7_edges 31 = .ok (.ireturn, 1) := by decide +kernel
theorem dX7_mostOn_0 : decode cX7_mostOn 0 = .ok (.iconst 0, 1) := by decide +kernel
theorem dX7_mostOn_1 : decode cX7_mostOn 1 = .ok (.istore_n 1, 1) := by decide +kernel
theorem dX7_mostOn_2 : decode cX7_mostOn 2 = .ok (.iconst 0, 1) := by decide +kernel
theorem dX7_mostOn_3 : decode cX7_mostOn 3 = .ok (.istore_n 2, 1) := by decide +kernel
theorem dX7_mostOn_4 : decode cX7_mostOn 4 = .ok (.iload_n 2, 1) := by decide +kernel
theorem dX7_mostOn_5 : decode cX7_mostOn 5 = .ok (.aload_n 0, 1) := by decide +kernel
theorem dX7_mostOn_6 : decode cX7_mostOn 6 = .ok (.getfield 7, 3) := by decide +kernel
theorem dX7_mostOn_9 : decode cX7_mostOn 9 = .ok (.iconst 0, 1) := by decide +kernel
theorem dX7_mostOn_10 : decode cX7_mostOn 10 = .ok (.iaload, 1) := by decide +kernel
theorem dX7_mostOn_11 : decode cX7_mostOn 11 = .ok (.if_icmp .ge 37, 3) := by decide +kernel
theorem dX7_mostOn_14 : decode cX7_mostOn 14 = .ok (.aload_n 0, 1) := by decide +kernel
theorem dX7_mostOn_15 : decode cX7_mostOn 15 = .ok (.getfield 32, 3) := by decide +kernel
theorem dX7_mostOn_18 : decode cX7_mostOn 18 = .ok (.iload_n 2, 1) := by decide +kernel
theorem dX7_mostOn_19 : decode cX7_mostOn 19 = .ok (.baload, 1) := by decide +kernel
theorem dX7_mostOn_20 : decode cX7_mostOn 20 = .ok (.ifCond .eq 20, 3) := by decide +kernel
theorem dX7_mostOn_23 : decode cX7_mostOn 23 = .ok (.aload_n 0, 1) := by decide +kernel
theorem dX7_mostOn_24 : decode cX7_mostOn 24 = .ok (.iload_n 2, 1) := by decide +kernel
theorem dX7_mostOn_25 : decode cX7_mostOn 25 = .ok (.invokevirtual 141, 3) := by decide +kernel
theorem dX7_mostOn_28 : decode cX7_mostOn 28 = .ok (.iload_n 1, 1) := by decide +kernel
theorem dX7_mostOn_29 : decode cX7_mostOn 29 = .ok (.if_icmp .le 11, 3) := by decide +kernel
theorem dX7_mostOn_32 : decode cX7_mostOn 32 = .ok (.aload_n 0, 1) := by decide +kernel
theorem dX7_mostOn_33 : decode cX7_mostOn 33 = .ok (.iload_n 2, 1) := by decide +kernel
theorem dX7_mostOn_34 : decode cX7_mostOn 34 = .ok (.invokevirtual 141, 3) := by decide +kernel
theorem dX7_mostOn_37 : decode cX7_mostOn 37 = .ok (.goto 4, 3) := by decide +kernel
theorem dX7_mostOn_40 : decode cX7_mostOn 40 = .ok (.iload_n 1, 1) := by decide +kernel
theorem dX7_mostOn_41 : decode cX7_mostOn 41 = .ok (.istore_n 1, 1) := by decide +kernel
theorem dX7_mostOn_42 : decode cX7_mostOn 42 = .ok (.iinc 2 1, 3) := by decide +kernel
theorem dX7_mostOn_45 : decode cX7_mostOn 45 = .ok (.goto (-41), 3) := by decide +kernel
theorem dX7_mostOn_48 : decode cX7_mostOn 48 = .ok (.iload_n 1, 1) := by decide +kernel
theorem dX7_mostOn_49 : decode cX7_mostOn 49 = .ok (.ireturn, 1) := by decide +kernel
theorem dX7_mostAt_0 : decode cX7_mostAt 0 = .ok (.iconst 0, 1) := by decide +kernel
theorem dX7_mostAt_1 : decode cX7_mostAt 1 = .ok (.istore_n 1, 1) := by decide +kernel
theorem dX7_mostAt_2 : decode cX7_mostAt 2 = .ok (.iconst 0, 1) := by decide +kernel
theorem dX7_mostAt_3 : decode cX7_mostAt 3 = .ok (.istore_n 2, 1) := by decide +kernel
theorem dX7_mostAt_4 : decode cX7_mostAt 4 = .ok (.iload_n 2, 1) := by decide +kernel
theorem dX7_mostAt_5 : decode cX7_mostAt 5 = .ok (.aload_n 0, 1) := by decide +kernel
theorem dX7_mostAt_6 : decode cX7_mostAt 6 = .ok (.getfield 114, 3) := by decide +kernel
theorem dX7_mostAt_9 : decode cX7_mostAt 9 = .ok (.if_icmp .ge 70, 3) := by decide +kernel
theorem dX7_mostAt_12 : decode cX7_mostAt 12 = .ok (.iconst 0, 1) := by decide +kernel
theorem dX7_mostAt_13 : decode cX7_mostAt 13 = .ok (.istore_n 3, 1) := by decide +kernel
theorem dX7_mostAt_14 : decode cX7_mostAt 14 = .ok (.iconst 0, 1) := by decide +kernel
theorem dX7_mostAt_15 : decode cX7_mostAt 15 = .ok (.istore 4, 2) := by decide +kernel
theorem dX7_mostAt_17 : decode cX7_mostAt 17 = .ok (.iload 4, 2) := by decide +kernel
theorem dX7_mostAt_19 : decode cX7_mostAt 19 = .ok (.aload_n 0, 1) := by decide +kernel
theorem dX7_mostAt_20 : decode cX7_mostAt 20 = .ok (.getfield 7, 3) := by decide +kernel
theorem dX7_mostAt_23 : decode cX7_mostAt 23 = .ok (.iconst 0, 1) := by decide +kernel
theorem dX7_mostAt_24 : decode cX7_mostAt 24 = .ok (.iaload, 1) := by decide +kernel
theorem dX7_mostAt_25 : decode cX7_mostAt 25 = .ok (.if_icmp .ge 37, 3) := by decide +kernel
theorem dX7_mostAt_28 : decode cX7_mostAt 28 = .ok (.iload_n 3, 1) := by decide +kernel
theorem dX7_mostAt_29 : decode cX7_mostAt 29 = .ok (.aload_n 0, 1) := by decide +kernel
theorem dX7_mostAt_30 : decode cX7_mostAt 30 = .ok (.getfield 32, 3) := by decide +kernel
theorem dX7_mostAt_33 : decode cX7_mostAt 33 = .ok (.iload 4, 2) := by decide +kernel
theorem dX7_mostAt_35 : decode cX7_mostAt 35 = .ok (.baload, 1) := by decide +kernel
theorem dX7_mostAt_36 : decode cX7_mostAt 36 = .ok (.ifCond .eq 17, 3) := by decide +kernel
theorem dX7_mostAt_39 : decode cX7_mostAt 39 = .ok (.aload_n 0, 1) := by decide +kernel
theorem dX7_mostAt_40 : decode cX7_mostAt 40 = .ok (.iload_n 2, 1) := by decide +kernel
theorem dX7_mostAt_41 : decode cX7_mostAt 41 = .ok (.iload 4, 2) := by decide +kernel
theorem dX7_mostAt_43 : decode cX7_mostAt 43 = .ok (.invokevirtual 134, 3) := by decide +kernel
theorem dX7_mostAt_46 : decode cX7_mostAt 46 = .ok (.ifCond .eq 7, 3) := by decide +kernel
theorem dX7_mostAt_49 : decode cX7_mostAt 49 = .ok (.iconst 1, 1) := by decide +kernel
theorem dX7_mostAt_50 : decode cX7_mostAt 50 = .ok (.goto 4, 3) := by decide +kernel
theorem dX7_mostAt_53 : decode cX7_mostAt 53 = .ok (.iconst 0, 1) := by decide +kernel
theorem dX7_mostAt_54 : decode cX7_mostAt 54 = .ok (.iadd, 1) := by decide +kernel
theorem dX7_mostAt_55 : decode cX7_mostAt 55 = .ok (.istore_n 3, 1) := by decide +kernel
theorem dX7_mostAt_56 : decode cX7_mostAt 56 = .ok (.iinc 4 1, 3) := by decide +kernel
theorem dX7_mostAt_59 : decode cX7_mostAt 59 = .ok (.goto (-42), 3) := by decide +kernel
theorem dX7_mostAt_62 : decode cX7_mostAt 62 = .ok (.iload_n 3, 1) := by decide +kernel
theorem dX7_mostAt_63 : decode cX7_mostAt 63 = .ok (.iload_n 1, 1) := by decide +kernel
theorem dX7_mostAt_64 : decode cX7_mostAt 64 = .ok (.if_icmp .le 7, 3) := by decide +kernel
theorem dX7_mostAt_67 : decode cX7_mostAt 67 = .ok (.iload_n 3, 1) := by decide +kernel
theorem dX7_mostAt_68 : decode cX7_mostAt 68 = .ok (.goto 4, 3) := by decide +kernel
theorem dX7_mostAt_71 : decode cX7_mostAt 71 = .ok (.iload_n 1, 1) := by decide +kernel
theorem dX7_mostAt_72 : decode cX7_mostAt 72 = .ok (.istore_n 1, 1) := by decide +kernel
theorem dX7_mostAt_73 : decode cX7_mostAt 73 = .ok (.iinc 2 1, 3) := by decide +kernel
theorem dX7_mostAt_76 : decode cX7_mostAt 76 = .ok (.goto (-72), 3) := by decide +kernel
theorem dX7_mostAt_79 : decode cX7_mostAt 79 = .ok (.iload_n 1, 1) := by decide +kernel
theorem dX7_mostAt_80 : decode cX7_mostAt 80 = .ok (.ireturn, 1) := by decide +kernel
theorem dX7_all_0 : decode cX7_all 0 = .ok (.iload_n 1, 1) := by decide +kernel
theorem dX7_all_1 : decode cX7_all 1 = .ok (.iconst 0, 1) := by decide +kernel
theorem dX7_all_2 : decode cX7_all 2 = .ok (.bipush 6, 2) := by decide +kernel
theorem dX7_all_4 : decode cX7_all 4 = .ok (.invokestatic 45, 3) := by decide +kernel
theorem dX7_all_7 : decode cX7_all 7 = .ok (.ifCond .ne 10, 3) := by decide +kernel
theorem dX7_all_10 : decode cX7_all 10 = .ok (.aload_n 0, 1) := by decide +kernel
theorem dX7_all_11 : decode cX7_all 11 = .ok (.bipush (-2), 2) := by decide +kernel
theorem dX7_all_13 : decode cX7_all 13 = .ok (.invokevirtual 56, 3) := by decide +kernel
theorem dX7_all_16 : decode cX7_all 16 = .ok (.ireturn, 1) := by decide +kernel
theorem dX7_all_17 : decode cX7_all 17 = .ok (.aload_n 0, 1) := by decide +kernel
theorem dX7_all_18 : decode cX7_all 18 = .ok (.invokevirtual 111, 3) := by decide +kernel
theorem dX7_all_21 : decode cX7_all 21 = .ok (.iload_n 1, 1) := by decide +kernel
theorem dX7_all_22 : decode cX7_all 22 = .ok (.tableswitch 77 0 5 #[38, 45, 50, 62, 67, 72], 38) := by decide +kernel
theorem dX7_all_60 : decode cX7_all 60 = .ok (.aload_n 0, 1) := by decide +kernel
theorem dX7_all_61 : decode cX7_all 61 = .ok (.getfield 7, 3) := by decide +kernel
theorem dX7_all_64 : decode cX7_all 64 = .ok (.iconst 0, 1) := by decide +kernel
theorem dX7_all_65 : decode cX7_all 65 = .ok (.iaload, 1) := by decide +kernel
theorem dX7_all_66 : decode cX7_all 66 = .ok (.ireturn, 1) := by decide +kernel
theorem dX7_all_67 : decode cX7_all 67 = .ok (.aload_n 0, 1) := by decide +kernel
theorem dX7_all_68 : decode cX7_all 68 = .ok (.invokevirtual 159, 3) := by decide +kernel
theorem dX7_all_71 : decode cX7_all 71 = .ok (.ireturn, 1) := by decide +kernel
theorem dX7_all_72 : decode cX7_all 72 = .ok (.aload_n 0, 1) := by decide +kernel
theorem dX7_all_73 : decode cX7_all 73 = .ok (.getfield 7, 3) := by decide +kernel
theorem dX7_all_76 : decode cX7_all 76 = .ok (.iconst 0, 1) := by decide +kernel
theorem dX7_all_77 : decode cX7_all 77 = .ok (.iaload, 1) := by decide +kernel
theorem dX7_all_78 : decode cX7_all 78 = .ok (.aload_n 0, 1) := by decide +kernel
theorem dX7_all_79 : decode cX7_all 79 = .ok (.invokevirtual 159, 3) := by decide +kernel
theorem dX7_all_82 : decode cX7_all 82 = .ok (.isub, 1) := by decide +kernel
theorem dX7_all_83 : decode cX7_all 83 = .ok (.ireturn, 1) := by decide +kernel
theorem dX7_all_84 : decode cX7_all 84 = .ok (.aload_n 0, 1) := by decide +kernel
theorem dX7_all_85 : decode cX7_all 85 = .ok (.getfield 114, 3) := by decide +kernel
theorem dX7_all_88 : decode cX7_all 88 = .ok (.ireturn, 1) := by decide +kernel
theorem dX7_all_89 : decode cX7_all 89 = .ok (.aload_n 0, 1) := by decide +kernel
theorem dX7_all_90 : decode cX7_all 90 = .ok (.invokevirtual 163, 3) := by decide +kernel
theorem dX7_all_93 : decode cX7_all 93 = .ok (.ireturn, 1) := by decide +kernel
theorem dX7_all_94 : decode cX7_all 94 = .ok (.aload_n 0, 1) := by decide +kernel
theorem dX7_all_95 : decode cX7_all 95 = .ok (.invokevirtual 166, 3) := by decide +kernel
theorem dX7_all_98 : decode cX7_all 98 = .ok (.ireturn, 1) := by decide +kernel
theorem dX7_all_99 : decode cX7_all 99 = .ok (.aload_n 0, 1) := by decide +kernel
theorem dX7_all_100 : decode cX7_all 100 = .ok (.invokevirtual 169, 3) := by decide +kernel
theorem dX7_all_103 : decode cX7_all 103 = .ok (.ireturn, 1) := by decide +kernel
theorem dX7_fraction_0 : decode cX7_fraction 0 = .ok (.iload_n 1, 1) := by decide +kernel
theorem dX7_fraction_1 : decode cX7_fraction 1 = .ok (.iload_n 2, 1) := by decide +kernel
theorem dX7_fraction_2 : decode cX7_fraction 2 = .ok (.invokestatic 120, 3) := by decide +kernel
theorem dX7_fraction_5 : decode cX7_fraction 5 = .ok (.istore_n 3, 1) := by decide +kernel
theorem dX7_fraction_6 : decode cX7_fraction 6 = .ok (.aload_n 0, 1) := by decide +kernel
theorem dX7_fraction_7 : decode cX7_fraction 7 = .ok (.iload_n 1, 1) := by decide +kernel
theorem dX7_fraction_8 : decode cX7_fraction 8 = .ok (.iload_n 3, 1) := by decide +kernel
theorem dX7_fraction_9 : decode cX7_fraction 9 = .ok (.idiv, 1) := by decide +kernel
theorem dX7_fraction_10 : decode cX7_fraction 10 = .ok (.i2l, 1) := by decide +kernel
theorem dX7_fraction_11 : decode cX7_fraction 11 = .ok (.putfield 172, 3) := by decide +kernel
theorem dX7_fraction_14 : decode cX7_fraction 14 = .ok (.aload_n 0, 1) := by decide +kernel
theorem dX7_fraction_15 : decode cX7_fraction 15 = .ok (.iload_n 2, 1) := by decide +kernel
theorem dX7_fraction_16 : decode cX7_fraction 16 = .ok (.iload_n 3, 1) := by decide +kernel
theorem dX7_fraction_17 : decode cX7_fraction 17 = .ok (.idiv, 1) := by decide +kernel
theorem dX7_fraction_18 : decode cX7_fraction 18 = .ok (.i2l, 1) := by decide +kernel
theorem dX7_fraction_19 : decode cX7_fraction 19 = .ok (.putfield 25, 3) := by decide +kernel
theorem dX7_fraction_22 : decode cX7_fraction 22 = .ok (.return_, 1) := by decide +kernel
theorem dX7_corner_0 : decode cX7_corner 0 = .ok (.iload_n 1, 1) := by decide +kernel
theorem dX7_corner_1 : decode cX7_corner 1 = .ok (.ifCond .lt 12, 3) := by decide +kernel
theorem dX7_corner_4 : decode cX7_corner 4 = .ok (.iload_n 2, 1) := by decide +kernel
theorem dX7_corner_5 : decode cX7_corner 5 = .ok (.iconst 0, 1) := by decide +kernel
theorem dX7_corner_6 : decode cX7_corner 6 = .ok (.iconst 2, 1) := by decide +kernel
theorem dX7_corner_7 : decode cX7_corner 7 = .ok (.invokestatic 45, 3) := by decide +kernel
theorem dX7_corner_10 : decode cX7_corner 10 = .ok (.ifCond .ne 10, 3) := by decide +kernel
theorem dX7_corner_13 : decode cX7_corner 13 = .ok (.aload_n 0, 1) := by decide +kernel
theorem dX7_corner_14 : decode cX7_corner 14 = .ok (.bipush (-2), 2) := by decide +kernel
theorem dX7_corner_16 : decode cX7_corner 16 = .ok (.invokevirtual 56, 3) := by decide +kernel
theorem dX7_corner_19 : decode cX7_corner 19 = .ok (.ireturn, 1) := by decide +kernel
theorem dX7_corner_20 : decode cX7_corner 20 = .ok (.aload_n 0, 1) := by decide +kernel
theorem dX7_corner_21 : decode cX7_corner 21 = .ok (.invokevirtual 111, 3) := by decide +kernel
theorem dX7_corner_24 : decode cX7_corner 24 = .ok (.iload_n 1, 1) := by decide +kernel
theorem dX7_corner_25 : decode cX7_corner 25 = .ok (.aload_n 0, 1) := by decide +kernel
theorem dX7_corner_26 : decode cX7_corner 26 = .ok (.getfield 114, 3) := by decide +kernel
theorem dX7_corner_29 : decode cX7_corner 29 = .ok (.if_icmp .lt 10, 3) := by decide +kernel
theorem dX7_corner_32 : decode cX7_corner 32 = .ok (.aload_n 0, 1) := by decide +kernel
theorem dX7_corner_33 : decode cX7_corner 33 = .ok (.bipush (-3), 2) := by decide +kernel
theorem dX7_corner_35 : decode cX7_corner 35 = .ok (.invokevirtual 56, 3) := by decide +kernel
theorem dX7_corner_38 : decode cX7_corner 38 = .ok (.ireturn, 1) := by decide +kernel
theorem dX7_corner_39 : decode cX7_corner 39 = .ok (.aload_n 0, 1) := by decide +kernel
theorem dX7_corner_40 : decode cX7_corner 40 = .ok (.aload_n 0, 1) := by decide +kernel
theorem dX7_corner_41 : decode cX7_corner 41 = .ok (.getfield 29, 3) := by decide +kernel
theorem dX7_corner_44 : decode cX7_corner 44 = .ok (.iconst 5, 1) := by decide +kernel
theorem dX7_corner_45 : decode cX7_corner 45 = .ok (.iload_n 1, 1) := by decide +kernel
theorem dX7_corner_46 : decode cX7_corner 46 = .ok (.imul, 1) := by decide +kernel
theorem dX7_corner_47 : decode cX7_corner 47 = .ok (.iload_n 2, 1) := by decide +kernel
theorem dX7_corner_48 : decode cX7_corner 48 = .ok (.iadd, 1) := by decide +kernel
theorem dX7_corner_49 : decode cX7_corner 49 = .ok (.iaload, 1) := by decide +kernel
theorem dX7_corner_50 : decode cX7_corner 50 = .ok (.aload_n 0, 1) := by decide +kernel
theorem dX7_corner_51 : decode cX7_corner 51 = .ok (.getfield 29, 3) := by decide +kernel
theorem dX7_corner_54 : decode cX7_corner 54 = .ok (.iconst 5, 1) := by decide +kernel
theorem dX7_corner_55 : decode cX7_corner 55 = .ok (.iload_n 1, 1) := by decide +kernel
theorem dX7_corner_56 : decode cX7_corner 56 = .ok (.imul, 1) := by decide +kernel
theorem dX7_corner_57 : decode cX7_corner 57 = .ok (.iconst 3, 1) := by decide +kernel
theorem dX7_corner_58 : decode cX7_corner 58 = .ok (.iadd, 1) := by decide +kernel
theorem dX7_corner_59 : decode cX7_corner 59 = .ok (.iaload, 1) := by decide +kernel
theorem dX7_corner_60 : decode cX7_corner 60 = .ok (.invokevirtual 175, 3) := by decide +kernel
theorem dX7_corner_63 : decode cX7_corner 63 = .ok (.iconst 1, 1) := by decide +kernel
theorem dX7_corner_64 : decode cX7_corner 64 = .ok (.ireturn, 1) := by decide +kernel
theorem dX7_meets_0 : decode cX7_meets 0 = .ok (.iload_n 1, 1) := by decide +kernel
theorem dX7_meets_1 : decode cX7_meets 1 = .ok (.ifCond .lt 12, 3) := by decide +kernel
theorem dX7_meets_4 : decode cX7_meets 4 = .ok (.iload_n 2, 1) := by decide +kernel
theorem dX7_meets_5 : decode cX7_meets 5 = .ok (.iconst 0, 1) := by decide +kernel
theorem dX7_meets_6 : decode cX7_meets 6 = .ok (.iconst 1, 1) := by decide +kernel
theorem dX7_meets_7 : decode cX7_meets 7 = .ok (.invokestatic 45, 3) := by decide +kernel
theorem dX7_meets_10 : decode cX7_meets 10 = .ok (.ifCond .ne 10, 3) := by decide +kernel
theorem dX7_meets_13 : decode cX7_meets 13 = .ok (.aload_n 0, 1) := by decide +kernel
theorem dX7_meets_14 : decode cX7_meets 14 = .ok (.bipush (-2), 2) := by decide +kernel
theorem dX7_meets_16 : decode cX7_meets 16 = .ok (.invokevirtual 56, 3) := by decide +kernel
theorem dX7_meets_19 : decode cX7_meets 19 = .ok (.ireturn, 1) := by decide +kernel
theorem dX7_meets_20 : decode cX7_meets 20 = .ok (.aload_n 0, 1) := by decide +kernel
theorem dX7_meets_21 : decode cX7_meets 21 = .ok (.invokevirtual 111, 3) := by decide +kernel
theorem dX7_meets_24 : decode cX7_meets 24 = .ok (.iload_n 1, 1) := by decide +kernel
theorem dX7_meets_25 : decode cX7_meets 25 = .ok (.aload_n 0, 1) := by decide +kernel
theorem dX7_meets_26 : decode cX7_meets 26 = .ok (.getfield 114, 3) := by decide +kernel
theorem dX7_meets_29 : decode cX7_meets 29 = .ok (.if_icmp .lt 5, 3) := by decide +kernel
theorem dX7_meets_32 : decode cX7_meets 32 = .ok (.iconst (-1), 1) := by decide +kernel
theorem dX7_meets_33 : decode cX7_meets 33 = .ok (.ireturn, 1) := by decide +kernel
theorem dX7_meets_34 : decode cX7_meets 34 = .ok (.iconst 0, 1) := by decide +kernel
theorem dX7_meets_35 : decode cX7_meets 35 = .ok (.istore_n 3, 1) := by decide +kernel
theorem dX7_meets_36 : decode cX7_meets 36 = .ok (.iconst 0, 1) := by decide +kernel
theorem dX7_meets_37 : decode cX7_meets 37 = .ok (.istore 4, 2) := by decide +kernel
theorem dX7_meets_39 : decode cX7_meets 39 = .ok (.iload 4, 2) := by decide +kernel
theorem dX7_meets_41 : decode cX7_meets 41 = .ok (.aload_n 0, 1) := by decide +kernel
theorem dX7_meets_42 : decode cX7_meets 42 = .ok (.getfield 7, 3) := by decide +kernel
theorem dX7_meets_45 : decode cX7_meets 45 = .ok (.iconst 0, 1) := by decide +kernel
theorem dX7_meets_46 : decode cX7_meets 46 = .ok (.iaload, 1) := by decide +kernel
theorem dX7_meets_47 : decode cX7_meets 47 = .ok (.if_icmp .ge 27, 3) := by decide +kernel
theorem dX7_meets_50 : decode cX7_meets 50 = .ok (.iload_n 3, 1) := by decide +kernel
theorem dX7_meets_51 : decode cX7_meets 51 = .ok (.aload_n 0, 1) := by decide +kernel
theorem dX7_meets_52 : decode cX7_meets 52 = .ok (.iload_n 1, 1) := by decide +kernel
theorem dX7_meets_53 : decode cX7_meets 53 = .ok (.iload 4, 2) := by decide +kernel
theorem dX7_meets_55 : decode cX7_meets 55 = .ok (.invokevirtual 134, 3) := by decide +kernel
theorem dX7_meets_58 : decode cX7_meets 58 = .ok (.ifCond .eq 7, 3) := by decide +kernel
theorem dX7_meets_61 : decode cX7_meets 61 = .ok (.iconst 1, 1) := by decide +kernel
theorem dX7_meets_62 : decode cX7_meets 62 = .ok (.goto 4, 3) := by decide +kernel
theorem dX7_meets_65 : decode cX7_meets 65 = .ok (.iconst 0, 1) := by decide +kernel
theorem dX7_meets_66 : decode cX7_meets 66 = .ok (.iadd, 1) := by decide +kernel
theorem dX7_meets_67 : decode cX7_meets 67 = .ok (.istore_n 3, 1) := by decide +kernel
theorem dX7_meets_68 : decode cX7_meets 68 = .ok (.iinc 4 1, 3) := by decide +kernel
theorem dX7_meets_71 : decode cX7_meets 71 = .ok (.goto (-32), 3) := by decide +kernel
theorem dX7_meets_74 : decode cX7_meets 74 = .ok (.iload_n 2, 1) := by decide +kernel
theorem dX7_meets_75 : decode cX7_meets 75 = .ok (.ifCond .ne 7, 3) := by decide +kernel
theorem dX7_meets_78 : decode cX7_meets 78 = .ok (.iload_n 3, 1) := by decide +kernel
theorem dX7_meets_79 : decode cX7_meets 79 = .ok (.goto 13, 3) := by decide +kernel
theorem dX7_meets_82 : decode cX7_meets 82 = .ok (.aload_n 0, 1) := by decide +kernel
theorem dX7_meets_83 : decode cX7_meets 83 = .ok (.getfield 29, 3) := by decide +kernel
theorem dX7_meets_86 : decode cX7_meets 86 = .ok (.iconst 5, 1) := by decide +kernel
theorem dX7_meets_87 : decode cX7_meets 87 = .ok (.iload_n 1, 1) := by decide +kernel
theorem dX7_meets_88 : decode cX7_meets 88 = .ok (.imul, 1) := by decide +kernel
theorem dX7_meets_89 : decode cX7_meets 89 = .ok (.iconst 4, 1) := by decide +kernel
theorem dX7_meets_90 : decode cX7_meets 90 = .ok (.iadd, 1) := by decide +kernel
theorem dX7_meets_91 : decode cX7_meets 91 = .ok (.iaload, 1) := by decide +kernel
theorem dX7_meets_92 : decode cX7_meets 92 = .ok (.ireturn, 1) := by decide +kernel
theorem dX7_part_0 : decode cX7_part 0 = .ok (.iload_n 1, 1) := by decide +kernel
theorem dX7_part_1 : decode cX7_part 1 = .ok (.ifCond .ne 10, 3) := by decide +kernel
theorem dX7_part_4 : decode cX7_part 4 = .ok (.aload_n 0, 1) := by decide +kernel
theorem dX7_part_5 : decode cX7_part 5 = .ok (.getfield 172, 3) := by decide +kernel
theorem dX7_part_8 : decode cX7_part 8 = .ok (.goto 22, 3) := by decide +kernel
theorem dX7_part_11 : decode cX7_part 11 = .ok (.iload_n 1, 1) := by decide +kernel
theorem dX7_part_12 : decode cX7_part 12 = .ok (.iconst 1, 1) := by decide +kernel
theorem dX7_part_13 : decode cX7_part 13 = .ok (.if_icmp .ne 10, 3) := by decide +kernel
theorem dX7_part_16 : decode cX7_part 16 = .ok (.aload_n 0, 1) := by decide +kernel
theorem dX7_part_17 : decode cX7_part 17 = .ok (.getfield 25, 3) := by decide +kernel
theorem dX7_part_20 : decode cX7_part 20 = .ok (.goto 10, 3) := by decide +kernel
theorem dX7_part_23 : decode cX7_part 23 = .ok (.aload_n 0, 1) := by decide +kernel
theorem dX7_part_24 : decode cX7_part 24 = .ok (.ldc 179, 2) := by decide +kernel
theorem dX7_part_26 : decode cX7_part 26 = .ok (.invokevirtual 153, 3) := by decide +kernel
theorem dX7_part_29 : decode cX7_part 29 = .ok (.i2l, 1) := by decide +kernel
theorem dX7_part_30 : decode cX7_part 30 = .ok (.lreturn, 1) := by decide +kernel
theorem dX7_edge_0 : decode cX7_edge 0 = .ok (.aload_n 0, 1) := by decide +kernel
theorem dX7_edge_1 : decode cX7_edge 1 = .ok (.iload_n 1, 1) := by decide +kernel
theorem dX7_edge_2 : decode cX7_edge 2 = .ok (.invokevirtual 81, 3) := by decide +kernel
theorem dX7_edge_5 : decode cX7_edge 5 = .ok (.ifCond .eq 25, 3) := by decide +kernel
theorem dX7_edge_8 : decode cX7_edge 8 = .ok (.aload_n 0, 1) := by decide +kernel
theorem dX7_edge_9 : decode cX7_edge 9 = .ok (.iload_n 2, 1) := by decide +kernel
theorem dX7_edge_10 : decode cX7_edge 10 = .ok (.invokevirtual 81, 3) := by decide +kernel
theorem dX7_edge_13 : decode cX7_edge 13 = .ok (.ifCond .eq 17, 3) := by decide +kernel
theorem dX7_edge_16 : decode cX7_edge 16 = .ok (.iload_n 1, 1) := by decide +kernel
end
section
theorem dX7_edge_17 : decode cX7_edge 17 = .ok (.iload_n 2, 1) := by decide +kernel
theorem dX7_edge_18 : decode cX7_edge 18 = .ok (.if_icmp .eq 12, 3) := by decide +kernel
theorem dX7_edge_21 : decode cX7_edge 21 = .ok (.iload_n 3, 1) := by decide +kernel
theorem dX7_edge_22 : decode cX7_edge 22 = .ok (.iconst 0, 1) := by decide +kernel
theorem dX7_edge_23 : decode cX7_edge 23 = .ok (.iconst 4, 1) := by decide +kernel
theorem dX7_edge_24 : decode cX7_edge 24 = .ok (.invokestatic 45, 3) := by decide +kernel
theorem dX7_edge_27 : decode cX7_edge 27 = .ok (.ifCond .ne 10, 3) := by decide +kernel
theorem dX7_edge_30 : decode cX7_edge 30 = .ok (.aload_n 0, 1) := by decide +kernel
theorem dX7_edge_31 : decode cX7_edge 31 = .ok (.bipush (-100), 2) := by decide +kernel
theorem dX7_edge_33 : decode cX7_edge 33 = .ok (.invokevirtual 153, 3) := by decide +kernel
theorem dX7_edge_36 : decode cX7_edge 36 = .ok (.ireturn, 1) := by decide +kernel
theorem dX7_edge_37 : decode cX7_edge 37 = .ok (.aload_n 0, 1) := by decide +kernel
theorem dX7_edge_38 : decode cX7_edge 38 = .ok (.invokevirtual 111, 3) := by decide +kernel
theorem dX7_edge_41 : decode cX7_edge 41 = .ok (.iload_n 3, 1) := by decide +kernel
theorem dX7_edge_42 : decode cX7_edge 42 = .ok (.iconst 4, 1) := by decide +kernel
theorem dX7_edge_43 : decode cX7_edge 43 = .ok (.if_icmp .ne 10, 3) := by decide +kernel
theorem dX7_edge_46 : decode cX7_edge 46 = .ok (.aload_n 0, 1) := by decide +kernel
theorem dX7_edge_47 : decode cX7_edge 47 = .ok (.iload_n 1, 1) := by decide +kernel
theorem dX7_edge_48 : decode cX7_edge 48 = .ok (.iload_n 2, 1) := by decide +kernel
theorem dX7_edge_49 : decode cX7_edge 49 = .ok (.invokevirtual 147, 3) := by decide +kernel
theorem dX7_edge_52 : decode cX7_edge 52 = .ok (.ireturn, 1) := by decide +kernel
theorem dX7_edge_53 : decode cX7_edge 53 = .ok (.iload_n 3, 1) := by decide +kernel
theorem dX7_edge_54 : decode cX7_edge 54 = .ok (.ifCond .eq 12, 3) := by decide +kernel
theorem dX7_edge_57 : decode cX7_edge 57 = .ok (.aload_n 0, 1) := by decide +kernel
theorem dX7_edge_58 : decode cX7_edge 58 = .ok (.iload_n 1, 1) := by decide +kernel
theorem dX7_edge_59 : decode cX7_edge 59 = .ok (.iload_n 2, 1) := by decide +kernel
theorem dX7_edge_60 : decode cX7_edge 60 = .ok (.invokevirtual 150, 3) := by decide +kernel
theorem dX7_edge_63 : decode cX7_edge 63 = .ok (.ifCond .ne 18, 3) := by decide +kernel
theorem dX7_edge_66 : decode cX7_edge 66 = .ok (.aload_n 0, 1) := by decide +kernel
theorem dX7_edge_67 : decode cX7_edge 67 = .ok (.iload_n 1, 1) := by decide +kernel
theorem dX7_edge_68 : decode cX7_edge 68 = .ok (.iload_n 2, 1) := by decide +kernel
theorem dX7_edge_69 : decode cX7_edge 69 = .ok (.invokevirtual 150, 3) := by decide +kernel
theorem dX7_edge_72 : decode cX7_edge 72 = .ok (.ifCond .eq 7, 3) := by decide +kernel
theorem dX7_edge_75 : decode cX7_edge 75 = .ok (.iconst 1, 1) := by decide +kernel
theorem dX7_edge_76 : decode cX7_edge 76 = .ok (.goto 4, 3) := by decide +kernel
theorem dX7_edge_79 : decode cX7_edge 79 = .ok (.iconst 0, 1) := by decide +kernel
theorem dX7_edge_80 : decode cX7_edge 80 = .ok (.ireturn, 1) := by decide +kernel
theorem dX7_edge_81 : decode cX7_edge 81 = .ok (.aload_n 0, 1) := by decide +kernel
theorem dX7_edge_82 : decode cX7_edge 82 = .ok (.iload_n 1, 1) := by decide +kernel
theorem dX7_edge_83 : decode cX7_edge 83 = .ok (.iconst 1, 1) := by decide +kernel
theorem dX7_edge_84 : decode cX7_edge 84 = .ok (.invokevirtual 85, 3) := by decide +kernel
theorem dX7_edge_87 : decode cX7_edge 87 = .ok (.aload_n 0, 1) := by decide +kernel
theorem dX7_edge_88 : decode cX7_edge 88 = .ok (.iload_n 2, 1) := by decide +kernel
theorem dX7_edge_89 : decode cX7_edge 89 = .ok (.iconst 2, 1) := by decide +kernel
theorem dX7_edge_90 : decode cX7_edge 90 = .ok (.invokevirtual 85, 3) := by decide +kernel
theorem dX7_edge_93 : decode cX7_edge 93 = .ok (.imul, 1) := by decide +kernel
theorem dX7_edge_94 : decode cX7_edge 94 = .ok (.aload_n 0, 1) := by decide +kernel
theorem dX7_edge_95 : decode cX7_edge 95 = .ok (.iload_n 1, 1) := by decide +kernel
theorem dX7_edge_96 : decode cX7_edge 96 = .ok (.iconst 2, 1) := by decide +kernel
theorem dX7_edge_97 : decode cX7_edge 97 = .ok (.invokevirtual 85, 3) := by decide +kernel
theorem dX7_edge_100 : decode cX7_edge 100 = .ok (.aload_n 0, 1) := by decide +kernel
theorem dX7_edge_101 : decode cX7_edge 101 = .ok (.iload_n 2, 1) := by decide +kernel
theorem dX7_edge_102 : decode cX7_edge 102 = .ok (.iconst 1, 1) := by decide +kernel
theorem dX7_edge_103 : decode cX7_edge 103 = .ok (.invokevirtual 85, 3) := by decide +kernel
theorem dX7_edge_106 : decode cX7_edge 106 = .ok (.imul, 1) := by decide +kernel
theorem dX7_edge_107 : decode cX7_edge 107 = .ok (.isub, 1) := by decide +kernel
theorem dX7_edge_108 : decode cX7_edge 108 = .ok (.istore 4, 2) := by decide +kernel
theorem dX7_edge_110 : decode cX7_edge 110 = .ok (.aload_n 0, 1) := by decide +kernel
theorem dX7_edge_111 : decode cX7_edge 111 = .ok (.iload_n 1, 1) := by decide +kernel
theorem dX7_edge_112 : decode cX7_edge 112 = .ok (.iconst 2, 1) := by decide +kernel
theorem dX7_edge_113 : decode cX7_edge 113 = .ok (.invokevirtual 85, 3) := by decide +kernel
theorem dX7_edge_116 : decode cX7_edge 116 = .ok (.aload_n 0, 1) := by decide +kernel
theorem dX7_edge_117 : decode cX7_edge 117 = .ok (.iload_n 2, 1) := by decide +kernel
theorem dX7_edge_118 : decode cX7_edge 118 = .ok (.iconst 0, 1) := by decide +kernel
theorem dX7_edge_119 : decode cX7_edge 119 = .ok (.invokevirtual 85, 3) := by decide +kernel
theorem dX7_edge_122 : decode cX7_edge 122 = .ok (.imul, 1) := by decide +kernel
theorem dX7_edge_123 : decode cX7_edge 123 = .ok (.aload_n 0, 1) := by decide +kernel
theorem dX7_edge_124 : decode cX7_edge 124 = .ok (.iload_n 1, 1) := by decide +kernel
theorem dX7_edge_125 : decode cX7_edge 125 = .ok (.iconst 0, 1) := by decide +kernel
theorem dX7_edge_126 : decode cX7_edge 126 = .ok (.invokevirtual 85, 3) := by decide +kernel
theorem dX7_edge_129 : decode cX7_edge 129 = .ok (.aload_n 0, 1) := by decide +kernel
theorem dX7_edge_130 : decode cX7_edge 130 = .ok (.iload_n 2, 1) := by decide +kernel
theorem dX7_edge_131 : decode cX7_edge 131 = .ok (.iconst 2, 1) := by decide +kernel
theorem dX7_edge_132 : decode cX7_edge 132 = .ok (.invokevirtual 85, 3) := by decide +kernel
theorem dX7_edge_135 : decode cX7_edge 135 = .ok (.imul, 1) := by decide +kernel
theorem dX7_edge_136 : decode cX7_edge 136 = .ok (.isub, 1) := by decide +kernel
theorem dX7_edge_137 : decode cX7_edge 137 = .ok (.istore 5, 2) := by decide +kernel
theorem dX7_edge_139 : decode cX7_edge 139 = .ok (.aload_n 0, 1) := by decide +kernel
theorem dX7_edge_140 : decode cX7_edge 140 = .ok (.iload_n 1, 1) := by decide +kernel
theorem dX7_edge_141 : decode cX7_edge 141 = .ok (.iconst 0, 1) := by decide +kernel
theorem dX7_edge_142 : decode cX7_edge 142 = .ok (.invokevirtual 85, 3) := by decide +kernel
theorem dX7_edge_145 : decode cX7_edge 145 = .ok (.aload_n 0, 1) := by decide +kernel
theorem dX7_edge_146 : decode cX7_edge 146 = .ok (.iload_n 2, 1) := by decide +kernel
theorem dX7_edge_147 : decode cX7_edge 147 = .ok (.iconst 1, 1) := by decide +kernel
theorem dX7_edge_148 : decode cX7_edge 148 = .ok (.invokevirtual 85, 3) := by decide +kernel
theorem dX7_edge_151 : decode cX7_edge 151 = .ok (.imul, 1) := by decide +kernel
theorem dX7_edge_152 : decode cX7_edge 152 = .ok (.aload_n 0, 1) := by decide +kernel
theorem dX7_edge_153 : decode cX7_edge 153 = .ok (.iload_n 1, 1) := by decide +kernel
theorem dX7_edge_154 : decode cX7_edge 154 = .ok (.iconst 1, 1) := by decide +kernel
theorem dX7_edge_155 : decode cX7_edge 155 = .ok (.invokevirtual 85, 3) := by decide +kernel
theorem dX7_edge_158 : decode cX7_edge 158 = .ok (.aload_n 0, 1) := by decide +kernel
theorem dX7_edge_159 : decode cX7_edge 159 = .ok (.iload_n 2, 1) := by decide +kernel
theorem dX7_edge_160 : decode cX7_edge 160 = .ok (.iconst 0, 1) := by decide +kernel
theorem dX7_edge_161 : decode cX7_edge 161 = .ok (.invokevirtual 85, 3) := by decide +kernel
theorem dX7_edge_164 : decode cX7_edge 164 = .ok (.imul, 1) := by decide +kernel
theorem dX7_edge_165 : decode cX7_edge 165 = .ok (.isub, 1) := by decide +kernel
theorem dX7_edge_166 : decode cX7_edge 166 = .ok (.istore 6, 2) := by decide +kernel
theorem dX7_edge_168 : decode cX7_edge 168 = .ok (.iload 4, 2) := by decide +kernel
theorem dX7_edge_170 : decode cX7_edge 170 = .ok (.iload 5, 2) := by decide +kernel
theorem dX7_edge_172 : decode cX7_edge 172 = .ok (.invokestatic 120, 3) := by decide +kernel
theorem dX7_edge_175 : decode cX7_edge 175 = .ok (.iload 6, 2) := by decide +kernel
theorem dX7_edge_177 : decode cX7_edge 177 = .ok (.invokestatic 120, 3) := by decide +kernel
theorem dX7_edge_180 : decode cX7_edge 180 = .ok (.istore 7, 2) := by decide +kernel
theorem dX7_edge_182 : decode cX7_edge 182 = .ok (.iload 4, 2) := by decide +kernel
theorem dX7_edge_184 : decode cX7_edge 184 = .ok (.ifCond .eq 8, 3) := by decide +kernel
theorem dX7_edge_187 : decode cX7_edge 187 = .ok (.iload 4, 2) := by decide +kernel
theorem dX7_edge_189 : decode cX7_edge 189 = .ok (.goto 15, 3) := by decide +kernel
theorem dX7_edge_192 : decode cX7_edge 192 = .ok (.iload 5, 2) := by decide +kernel
theorem dX7_edge_194 : decode cX7_edge 194 = .ok (.ifCond .eq 8, 3) := by decide +kernel
theorem dX7_edge_197 : decode cX7_edge 197 = .ok (.iload 5, 2) := by decide +kernel
theorem dX7_edge_199 : decode cX7_edge 199 = .ok (.goto 5, 3) := by decide +kernel
theorem dX7_edge_202 : decode cX7_edge 202 = .ok (.iload 6, 2) := by decide +kernel
theorem dX7_edge_204 : decode cX7_edge 204 = .ok (.ifCond .ge 9, 3) := by decide +kernel
theorem dX7_edge_207 : decode cX7_edge 207 = .ok (.iload 7, 2) := by decide +kernel
theorem dX7_edge_209 : decode cX7_edge 209 = .ok (.ineg, 1) := by decide +kernel
theorem dX7_edge_210 : decode cX7_edge 210 = .ok (.goto 5, 3) := by decide +kernel
theorem dX7_edge_213 : decode cX7_edge 213 = .ok (.iload 7, 2) := by decide +kernel
theorem dX7_edge_215 : decode cX7_edge 215 = .ok (.istore 7, 2) := by decide +kernel
theorem dX7_edge_217 : decode cX7_edge 217 = .ok (.iload_n 3, 1) := by decide +kernel
theorem dX7_edge_218 : decode cX7_edge 218 = .ok (.iconst 1, 1) := by decide +kernel
theorem dX7_edge_219 : decode cX7_edge 219 = .ok (.if_icmp .ne 8, 3) := by decide +kernel
theorem dX7_edge_222 : decode cX7_edge 222 = .ok (.iload 4, 2) := by decide +kernel
theorem dX7_edge_224 : decode cX7_edge 224 = .ok (.goto 15, 3) := by decide +kernel
theorem dX7_edge_227 : decode cX7_edge 227 = .ok (.iload_n 3, 1) := by decide +kernel
theorem dX7_edge_228 : decode cX7_edge 228 = .ok (.iconst 2, 1) := by decide +kernel
theorem dX7_edge_229 : decode cX7_edge 229 = .ok (.if_icmp .ne 8, 3) := by decide +kernel
theorem dX7_edge_232 : decode cX7_edge 232 = .ok (.iload 5, 2) := by decide +kernel
theorem dX7_edge_234 : decode cX7_edge 234 = .ok (.goto 5, 3) := by decide +kernel
theorem dX7_edge_237 : decode cX7_edge 237 = .ok (.iload 6, 2) := by decide +kernel
theorem dX7_edge_239 : decode cX7_edge 239 = .ok (.iload 7, 2) := by decide +kernel
theorem dX7_edge_241 : decode cX7_edge 241 = .ok (.idiv, 1) := by decide +kernel
theorem dX7_edge_242 : decode cX7_edge 242 = .ok (.ireturn, 1) := by decide +kernel
theorem dX7_farthest_0 : decode cX7_farthest 0 = .ok (.iconst 0, 1) := by decide +kernel
theorem dX7_farthest_1 : decode cX7_farthest 1 = .ok (.istore 4, 2) := by decide +kernel
theorem dX7_farthest_3 : decode cX7_farthest 3 = .ok (.iconst 1, 1) := by decide +kernel
theorem dX7_farthest_4 : decode cX7_farthest 4 = .ok (.istore 5, 2) := by decide +kernel
theorem dX7_farthest_6 : decode cX7_farthest 6 = .ok (.iload 5, 2) := by decide +kernel
theorem dX7_farthest_8 : decode cX7_farthest 8 = .ok (.aload_n 0, 1) := by decide +kernel
theorem dX7_farthest_9 : decode cX7_farthest 9 = .ok (.getfield 114, 3) := by decide +kernel
theorem dX7_farthest_12 : decode cX7_farthest 12 = .ok (.if_icmp .ge 131, 3) := by decide +kernel
theorem dX7_farthest_15 : decode cX7_farthest 15 = .ok (.iload_n 1, 1) := by decide +kernel
theorem dX7_farthest_16 : decode cX7_farthest 16 = .ok (.aload_n 0, 1) := by decide +kernel
theorem dX7_farthest_17 : decode cX7_farthest 17 = .ok (.getfield 29, 3) := by decide +kernel
theorem dX7_farthest_20 : decode cX7_farthest 20 = .ok (.iconst 5, 1) := by decide +kernel
theorem dX7_farthest_21 : decode cX7_farthest 21 = .ok (.iload 5, 2) := by decide +kernel
theorem dX7_farthest_23 : decode cX7_farthest 23 = .ok (.imul, 1) := by decide +kernel
theorem dX7_farthest_24 : decode cX7_farthest 24 = .ok (.iaload, 1) := by decide +kernel
theorem dX7_farthest_25 : decode cX7_farthest 25 = .ok (.imul, 1) := by decide +kernel
theorem dX7_farthest_26 : decode cX7_farthest 26 = .ok (.iload_n 2, 1) := by decide +kernel
theorem dX7_farthest_27 : decode cX7_farthest 27 = .ok (.aload_n 0, 1) := by decide +kernel
theorem dX7_farthest_28 : decode cX7_farthest 28 = .ok (.getfield 29, 3) := by decide +kernel
theorem dX7_farthest_31 : decode cX7_farthest 31 = .ok (.iconst 5, 1) := by decide +kernel
theorem dX7_farthest_32 : decode cX7_farthest 32 = .ok (.iload 5, 2) := by decide +kernel
theorem dX7_farthest_34 : decode cX7_farthest 34 = .ok (.imul, 1) := by decide +kernel
theorem dX7_farthest_35 : decode cX7_farthest 35 = .ok (.iconst 1, 1) := by decide +kernel
theorem dX7_farthest_36 : decode cX7_farthest 36 = .ok (.iadd, 1) := by decide +kernel
theorem dX7_farthest_37 : decode cX7_farthest 37 = .ok (.iaload, 1) := by decide +kernel
theorem dX7_farthest_38 : decode cX7_farthest 38 = .ok (.imul, 1) := by decide +kernel
theorem dX7_farthest_39 : decode cX7_farthest 39 = .ok (.iadd, 1) := by decide +kernel
theorem dX7_farthest_40 : decode cX7_farthest 40 = .ok (.iload_n 3, 1) := by decide +kernel
theorem dX7_farthest_41 : decode cX7_farthest 41 = .ok (.aload_n 0, 1) := by decide +kernel
theorem dX7_farthest_42 : decode cX7_farthest 42 = .ok (.getfield 29, 3) := by decide +kernel
theorem dX7_farthest_45 : decode cX7_farthest 45 = .ok (.iconst 5, 1) := by decide +kernel
theorem dX7_farthest_46 : decode cX7_farthest 46 = .ok (.iload 5, 2) := by decide +kernel
theorem dX7_farthest_48 : decode cX7_farthest 48 = .ok (.imul, 1) := by decide +kernel
theorem dX7_farthest_49 : decode cX7_farthest 49 = .ok (.iconst 2, 1) := by decide +kernel
theorem dX7_farthest_50 : decode cX7_farthest 50 = .ok (.iadd, 1) := by decide +kernel
theorem dX7_farthest_51 : decode cX7_farthest 51 = .ok (.iaload, 1) := by decide +kernel
theorem dX7_farthest_52 : decode cX7_farthest 52 = .ok (.imul, 1) := by decide +kernel
theorem dX7_farthest_53 : decode cX7_farthest 53 = .ok (.iadd, 1) := by decide +kernel
theorem dX7_farthest_54 : decode cX7_farthest 54 = .ok (.istore 6, 2) := by decide +kernel
theorem dX7_farthest_56 : decode cX7_farthest 56 = .ok (.iload_n 1, 1) := by decide +kernel
theorem dX7_farthest_57 : decode cX7_farthest 57 = .ok (.aload_n 0, 1) := by decide +kernel
theorem dX7_farthest_58 : decode cX7_farthest 58 = .ok (.getfield 29, 3) := by decide +kernel
theorem dX7_farthest_61 : decode cX7_farthest 61 = .ok (.iconst 5, 1) := by decide +kernel
theorem dX7_farthest_62 : decode cX7_farthest 62 = .ok (.iload 4, 2) := by decide +kernel
theorem dX7_farthest_64 : decode cX7_farthest 64 = .ok (.imul, 1) := by decide +kernel
theorem dX7_farthest_65 : decode cX7_farthest 65 = .ok (.iaload, 1) := by decide +kernel
theorem dX7_farthest_66 : decode cX7_farthest 66 = .ok (.imul, 1) := by decide +kernel
theorem dX7_farthest_67 : decode cX7_farthest 67 = .ok (.iload_n 2, 1) := by decide +kernel
theorem dX7_farthest_68 : decode cX7_farthest 68 = .ok (.aload_n 0, 1) := by decide +kernel
theorem dX7_farthest_69 : decode cX7_farthest 69 = .ok (.getfield 29, 3) := by decide +kernel
theorem dX7_farthest_72 : decode cX7_farthest 72 = .ok (.iconst 5, 1) := by decide +kernel
theorem dX7_farthest_73 : decode cX7_farthest 73 = .ok (.iload 4, 2) := by decide +kernel
theorem dX7_farthest_75 : decode cX7_farthest 75 = .ok (.imul, 1) := by decide +kernel
theorem dX7_farthest_76 : decode cX7_farthest 76 = .ok (.iconst 1, 1) := by decide +kernel
theorem dX7_farthest_77 : decode cX7_farthest 77 = .ok (.iadd, 1) := by decide +kernel
theorem dX7_farthest_78 : decode cX7_farthest 78 = .ok (.iaload, 1) := by decide +kernel
theorem dX7_farthest_79 : decode cX7_farthest 79 = .ok (.imul, 1) := by decide +kernel
theorem dX7_farthest_80 : decode cX7_farthest 80 = .ok (.iadd, 1) := by decide +kernel
theorem dX7_farthest_81 : decode cX7_farthest 81 = .ok (.iload_n 3, 1) := by decide +kernel
theorem dX7_farthest_82 : decode cX7_farthest 82 = .ok (.aload_n 0, 1) := by decide +kernel
theorem dX7_farthest_83 : decode cX7_farthest 83 = .ok (.getfield 29, 3) := by decide +kernel
theorem dX7_farthest_86 : decode cX7_farthest 86 = .ok (.iconst 5, 1) := by decide +kernel
theorem dX7_farthest_87 : decode cX7_farthest 87 = .ok (.iload 4, 2) := by decide +kernel
theorem dX7_farthest_89 : decode cX7_farthest 89 = .ok (.imul, 1) := by decide +kernel
theorem dX7_farthest_90 : decode cX7_farthest 90 = .ok (.iconst 2, 1) := by decide +kernel
theorem dX7_farthest_91 : decode cX7_farthest 91 = .ok (.iadd, 1) := by decide +kernel
theorem dX7_farthest_92 : decode cX7_farthest 92 = .ok (.iaload, 1) := by decide +kernel
theorem dX7_farthest_93 : decode cX7_farthest 93 = .ok (.imul, 1) := by decide +kernel
theorem dX7_farthest_94 : decode cX7_farthest 94 = .ok (.iadd, 1) := by decide +kernel
theorem dX7_farthest_95 : decode cX7_farthest 95 = .ok (.istore 7, 2) := by decide +kernel
theorem dX7_farthest_97 : decode cX7_farthest 97 = .ok (.iload 6, 2) := by decide +kernel
theorem dX7_farthest_99 : decode cX7_farthest 99 = .ok (.aload_n 0, 1) := by decide +kernel
theorem dX7_farthest_100 : decode cX7_farthest 100 = .ok (.getfield 29, 3) := by decide +kernel
theorem dX7_farthest_103 : decode cX7_farthest 103 = .ok (.iconst 5, 1) := by decide +kernel
theorem dX7_farthest_104 : decode cX7_farthest 104 = .ok (.iload 4, 2) := by decide +kernel
theorem dX7_farthest_106 : decode cX7_farthest 106 = .ok (.imul, 1) := by decide +kernel
theorem dX7_farthest_107 : decode cX7_farthest 107 = .ok (.iconst 3, 1) := by decide +kernel
theorem dX7_farthest_108 : decode cX7_farthest 108 = .ok (.iadd, 1) := by decide +kernel
theorem dX7_farthest_109 : decode cX7_farthest 109 = .ok (.iaload, 1) := by decide +kernel
theorem dX7_farthest_110 : decode cX7_farthest 110 = .ok (.imul, 1) := by decide +kernel
theorem dX7_farthest_111 : decode cX7_farthest 111 = .ok (.iload 7, 2) := by decide +kernel
theorem dX7_farthest_113 : decode cX7_farthest 113 = .ok (.aload_n 0, 1) := by decide +kernel
theorem dX7_farthest_114 : decode cX7_farthest 114 = .ok (.getfield 29, 3) := by decide +kernel
theorem dX7_farthest_117 : decode cX7_farthest 117 = .ok (.iconst 5, 1) := by decide +kernel
theorem dX7_farthest_118 : decode cX7_farthest 118 = .ok (.iload 5, 2) := by decide +kernel
theorem dX7_farthest_120 : decode cX7_farthest 120 = .ok (.imul, 1) := by decide +kernel
theorem dX7_farthest_121 : decode cX7_farthest 121 = .ok (.iconst 3, 1) := by decide +kernel
theorem dX7_farthest_122 : decode cX7_farthest 122 = .ok (.iadd, 1) := by decide +kernel
theorem dX7_farthest_123 : decode cX7_farthest 123 = .ok (.iaload, 1) := by decide +kernel
theorem dX7_farthest_124 : decode cX7_farthest 124 = .ok (.imul, 1) := by decide +kernel
theorem dX7_farthest_125 : decode cX7_farthest 125 = .ok (.if_icmp .le 8, 3) := by decide +kernel
theorem dX7_farthest_128 : decode cX7_farthest 128 = .ok (.iload 5, 2) := by decide +kernel
theorem dX7_farthest_130 : decode cX7_farthest 130 = .ok (.goto 5, 3) := by decide +kernel
theorem dX7_farthest_133 : decode cX7_farthest 133 = .ok (.iload 4, 2) := by decide +kernel
theorem dX7_farthest_135 : decode cX7_farthest 135 = .ok (.istore 4, 2) := by decide +kernel
theorem dX7_farthest_137 : decode cX7_farthest 137 = .ok (.iinc 5 1, 3) := by decide +kernel
theorem dX7_farthest_140 : decode cX7_farthest 140 = .ok (.goto (-134), 3) := by decide +kernel
theorem dX7_farthest_143 : decode cX7_farthest 143 = .ok (.iload 4, 2) := by decide +kernel
theorem dX7_farthest_145 : decode cX7_farthest 145 = .ok (.ireturn, 1) := by decide +kernel
theorem dX7_farOf_0 : decode cX7_farOf 0 = .ok (.iload_n 2, 1) := by decide +kernel
theorem dX7_farOf_1 : decode cX7_farOf 1 = .ok (.aload_n 0, 1) := by decide +kernel
theorem dX7_farOf_2 : decode cX7_farOf 2 = .ok (.getfield 29, 3) := by decide +kernel
theorem dX7_farOf_5 : decode cX7_farOf 5 = .ok (.iconst 5, 1) := by decide +kernel
theorem dX7_farOf_6 : decode cX7_farOf 6 = .ok (.iload_n 1, 1) := by decide +kernel
theorem dX7_farOf_7 : decode cX7_farOf 7 = .ok (.imul, 1) := by decide +kernel
theorem dX7_farOf_8 : decode cX7_farOf 8 = .ok (.iaload, 1) := by decide +kernel
theorem dX7_farOf_9 : decode cX7_farOf 9 = .ok (.imul, 1) := by decide +kernel
theorem dX7_farOf_10 : decode cX7_farOf 10 = .ok (.iload_n 3, 1) := by decide +kernel
theorem dX7_farOf_11 : decode cX7_farOf 11 = .ok (.aload_n 0, 1) := by decide +kernel
theorem dX7_farOf_12 : decode cX7_farOf 12 = .ok (.getfield 29, 3) := by decide +kernel
theorem dX7_farOf_15 : decode cX7_farOf 15 = .ok (.iconst 5, 1) := by decide +kernel
theorem dX7_farOf_16 : decode cX7_farOf 16 = .ok (.iload_n 1, 1) := by decide +kernel
theorem dX7_farOf_17 : decode cX7_farOf 17 = .ok (.imul, 1) := by decide +kernel
theorem dX7_farOf_18 : decode cX7_farOf 18 = .ok (.iconst 1, 1) := by decide +kernel
theorem dX7_farOf_19 : decode cX7_farOf 19 = .ok (.iadd, 1) := by decide +kernel
theorem dX7_farOf_20 : decode cX7_farOf 20 = .ok (.iaload, 1) := by decide +kernel
theorem dX7_farOf_21 : decode cX7_farOf 21 = .ok (.imul, 1) := by decide +kernel
theorem dX7_farOf_22 : decode cX7_farOf 22 = .ok (.iadd, 1) := by decide +kernel
theorem dX7_farOf_23 : decode cX7_farOf 23 = .ok (.iload 4, 2) := by decide +kernel
theorem dX7_farOf_25 : decode cX7_farOf 25 = .ok (.aload_n 0, 1) := by decide +kernel
theorem dX7_farOf_26 : decode cX7_farOf 26 = .ok (.getfield 29, 3) := by decide +kernel
theorem dX7_farOf_29 : decode cX7_farOf 29 = .ok (.iconst 5, 1) := by decide +kernel
theorem dX7_farOf_30 : decode cX7_farOf 30 = .ok (.iload_n 1, 1) := by decide +kernel
theorem dX7_farOf_31 : decode cX7_farOf 31 = .ok (.imul, 1) := by decide +kernel
theorem dX7_farOf_32 : decode cX7_farOf 32 = .ok (.iconst 2, 1) := by decide +kernel
theorem dX7_farOf_33 : decode cX7_farOf 33 = .ok (.iadd, 1) := by decide +kernel
theorem dX7_farOf_34 : decode cX7_farOf 34 = .ok (.iaload, 1) := by decide +kernel
theorem dX7_farOf_35 : decode cX7_farOf 35 = .ok (.imul, 1) := by decide +kernel
theorem dX7_farOf_36 : decode cX7_farOf 36 = .ok (.iadd, 1) := by decide +kernel
theorem dX7_farOf_37 : decode cX7_farOf 37 = .ok (.ireturn, 1) := by decide +kernel
theorem dX7_reach_0 : decode cX7_reach 0 = .ok (.iload_n 1, 1) := by decide +kernel
theorem dX7_reach_1 : decode cX7_reach 1 = .ok (.iload_n 2, 1) := by decide +kernel
theorem dX7_reach_2 : decode cX7_reach 2 = .ok (.iload_n 3, 1) := by decide +kernel
theorem dX7_reach_3 : decode cX7_reach 3 = .ok (.invokestatic 53, 3) := by decide +kernel
theorem dX7_reach_6 : decode cX7_reach 6 = .ok (.ifCond .ne 10, 3) := by decide +kernel
theorem dX7_reach_9 : decode cX7_reach 9 = .ok (.aload_n 0, 1) := by decide +kernel
theorem dX7_reach_10 : decode cX7_reach 10 = .ok (.bipush (-2), 2) := by decide +kernel
theorem dX7_reach_12 : decode cX7_reach 12 = .ok (.invokevirtual 56, 3) := by decide +kernel
theorem dX7_reach_15 : decode cX7_reach 15 = .ok (.ireturn, 1) := by decide +kernel
theorem dX7_reach_16 : decode cX7_reach 16 = .ok (.aload_n 0, 1) := by decide +kernel
theorem dX7_reach_17 : decode cX7_reach 17 = .ok (.invokevirtual 111, 3) := by decide +kernel
theorem dX7_reach_20 : decode cX7_reach 20 = .ok (.aload_n 0, 1) := by decide +kernel
theorem dX7_reach_21 : decode cX7_reach 21 = .ok (.iload_n 1, 1) := by decide +kernel
theorem dX7_reach_22 : decode cX7_reach 22 = .ok (.iload_n 2, 1) := by decide +kernel
theorem dX7_reach_23 : decode cX7_reach 23 = .ok (.iload_n 3, 1) := by decide +kernel
theorem dX7_reach_24 : decode cX7_reach 24 = .ok (.invokevirtual 180, 3) := by decide +kernel
theorem dX7_reach_27 : decode cX7_reach 27 = .ok (.istore 4, 2) := by decide +kernel
theorem dX7_reach_29 : decode cX7_reach 29 = .ok (.iconst 0, 1) := by decide +kernel
theorem dX7_reach_30 : decode cX7_reach 30 = .ok (.istore 5, 2) := by decide +kernel
theorem dX7_reach_32 : decode cX7_reach 32 = .ok (.iconst 0, 1) := by decide +kernel
theorem dX7_reach_33 : decode cX7_reach 33 = .ok (.istore 6, 2) := by decide +kernel
theorem dX7_reach_35 : decode cX7_reach 35 = .ok (.iload 6, 2) := by decide +kernel
theorem dX7_reach_37 : decode cX7_reach 37 = .ok (.aload_n 0, 1) := by decide +kernel
theorem dX7_reach_38 : decode cX7_reach 38 = .ok (.getfield 114, 3) := by decide +kernel
theorem dX7_reach_41 : decode cX7_reach 41 = .ok (.if_icmp .ge 64, 3) := by decide +kernel
theorem dX7_reach_44 : decode cX7_reach 44 = .ok (.iload 5, 2) := by decide +kernel
theorem dX7_reach_46 : decode cX7_reach 46 = .ok (.aload_n 0, 1) := by decide +kernel
theorem dX7_reach_47 : decode cX7_reach 47 = .ok (.iload 6, 2) := by decide +kernel
theorem dX7_reach_49 : decode cX7_reach 49 = .ok (.iload_n 1, 1) := by decide +kernel
theorem dX7_reach_50 : decode cX7_reach 50 = .ok (.iload_n 2, 1) := by decide +kernel
theorem dX7_reach_51 : decode cX7_reach 51 = .ok (.iload_n 3, 1) := by decide +kernel
theorem dX7_reach_52 : decode cX7_reach 52 = .ok (.invokevirtual 184, 3) := by decide +kernel
theorem dX7_reach_55 : decode cX7_reach 55 = .ok (.aload_n 0, 1) := by decide +kernel
theorem dX7_reach_56 : decode cX7_reach 56 = .ok (.getfield 29, 3) := by decide +kernel
theorem dX7_reach_59 : decode cX7_reach 59 = .ok (.iconst 5, 1) := by decide +kernel
theorem dX7_reach_60 : decode cX7_reach 60 = .ok (.iload 4, 2) := by decide +kernel
theorem dX7_reach_62 : decode cX7_reach 62 = .ok (.imul, 1) := by decide +kernel
theorem dX7_reach_63 : decode cX7_reach 63 = .ok (.iconst 3, 1) := by decide +kernel
theorem dX7_reach_64 : decode cX7_reach 64 = .ok (.iadd, 1) := by decide +kernel
theorem dX7_reach_65 : decode cX7_reach 65 = .ok (.iaload, 1) := by decide +kernel
theorem dX7_reach_66 : decode cX7_reach 66 = .ok (.imul, 1) := by decide +kernel
theorem dX7_reach_67 : decode cX7_reach 67 = .ok (.aload_n 0, 1) := by decide +kernel
theorem dX7_reach_68 : decode cX7_reach 68 = .ok (.iload 4, 2) := by decide +kernel
theorem dX7_reach_70 : decode cX7_reach 70 = .ok (.iload_n 1, 1) := by decide +kernel
theorem dX7_reach_71 : decode cX7_reach 71 = .ok (.iload_n 2, 1) := by decide +kernel
theorem dX7_reach_72 : decode cX7_reach 72 = .ok (.iload_n 3, 1) := by decide +kernel
theorem dX7_reach_73 : decode cX7_reach 73 = .ok (.invokevirtual 184, 3) := by decide +kernel
theorem dX7_reach_76 : decode cX7_reach 76 = .ok (.aload_n 0, 1) := by decide +kernel
theorem dX7_reach_77 : decode cX7_reach 77 = .ok (.getfield 29, 3) := by decide +kernel
theorem dX7_reach_80 : decode cX7_reach 80 = .ok (.iconst 5, 1) := by decide +kernel
theorem dX7_reach_81 : decode cX7_reach 81 = .ok (.iload 6, 2) := by decide +kernel
theorem dX7_reach_83 : decode cX7_reach 83 = .ok (.imul, 1) := by decide +kernel
theorem dX7_reach_84 : decode cX7_reach 84 = .ok (.iconst 3, 1) := by decide +kernel
theorem dX7_reach_85 : decode cX7_reach 85 = .ok (.iadd, 1) := by decide +kernel
theorem dX7_reach_86 : decode cX7_reach 86 = .ok (.iaload, 1) := by decide +kernel
theorem dX7_reach_87 : decode cX7_reach 87 = .ok (.imul, 1) := by decide +kernel
theorem dX7_reach_88 : decode cX7_reach 88 = .ok (.if_icmp .ne 7, 3) := by decide +kernel
theorem dX7_reach_91 : decode cX7_reach 91 = .ok (.iconst 1, 1) := by decide +kernel
theorem dX7_reach_92 : decode cX7_reach 92 = .ok (.goto 4, 3) := by decide +kernel
theorem dX7_reach_95 : decode cX7_reach 95 = .ok (.iconst 0, 1) := by decide +kernel
theorem dX7_reach_96 : decode cX7_reach 96 = .ok (.iadd, 1) := by decide +kernel
theorem dX7_reach_97 : decode cX7_reach 97 = .ok (.istore 5, 2) := by decide +kernel
theorem dX7_reach_99 : decode cX7_reach 99 = .ok (.iinc 6 1, 3) := by decide +kernel
theorem dX7_reach_102 : decode cX7_reach 102 = .ok (.goto (-67), 3) := by decide +kernel
theorem dX7_reach_105 : decode cX7_reach 105 = .ok (.aload_n 0, 1) := by decide +kernel
theorem dX7_reach_106 : decode cX7_reach 106 = .ok (.aload_n 0, 1) := by decide +kernel
theorem dX7_reach_107 : decode cX7_reach 107 = .ok (.iload 4, 2) := by decide +kernel
theorem dX7_reach_109 : decode cX7_reach 109 = .ok (.iload_n 1, 1) := by decide +kernel
theorem dX7_reach_110 : decode cX7_reach 110 = .ok (.iload_n 2, 1) := by decide +kernel
theorem dX7_reach_111 : decode cX7_reach 111 = .ok (.iload_n 3, 1) := by decide +kernel
theorem dX7_reach_112 : decode cX7_reach 112 = .ok (.invokevirtual 184, 3) := by decide +kernel
theorem dX7_reach_115 : decode cX7_reach 115 = .ok (.aload_n 0, 1) := by decide +kernel
theorem dX7_reach_116 : decode cX7_reach 116 = .ok (.getfield 29, 3) := by decide +kernel
theorem dX7_reach_119 : decode cX7_reach 119 = .ok (.iconst 5, 1) := by decide +kernel
theorem dX7_reach_120 : decode cX7_reach 120 = .ok (.iload 4, 2) := by decide +kernel
theorem dX7_reach_122 : decode cX7_reach 122 = .ok (.imul, 1) := by decide +kernel
theorem dX7_reach_123 : decode cX7_reach 123 = .ok (.iconst 3, 1) := by decide +kernel
theorem dX7_reach_124 : decode cX7_reach 124 = .ok (.iadd, 1) := by decide +kernel
theorem dX7_reach_125 : decode cX7_reach 125 = .ok (.iaload, 1) := by decide +kernel
theorem dX7_reach_126 : decode cX7_reach 126 = .ok (.invokevirtual 175, 3) := by decide +kernel
theorem dX7_reach_129 : decode cX7_reach 129 = .ok (.iload 5, 2) := by decide +kernel
theorem dX7_reach_131 : decode cX7_reach 131 = .ok (.ireturn, 1) := by decide +kernel
theorem dX7_isStaying_0 : decode cX7_isStaying 0 = .ok (.iconst 1, 1) := by decide +kernel
theorem dX7_isStaying_1 : decode cX7_isStaying 1 = .ok (.istore_n 2, 1) := by decide +kernel
theorem dX7_isStaying_2 : decode cX7_isStaying 2 = .ok (.iconst 0, 1) := by decide +kernel
theorem dX7_isStaying_3 : decode cX7_isStaying 3 = .ok (.istore_n 3, 1) := by decide +kernel
theorem dX7_isStaying_4 : decode cX7_isStaying 4 = .ok (.iload_n 3, 1) := by decide +kernel
theorem dX7_isStaying_5 : decode cX7_isStaying 5 = .ok (.aload_n 0, 1) := by decide +kernel
theorem dX7_isStaying_6 : decode cX7_isStaying 6 = .ok (.getfield 114, 3) := by decide +kernel
theorem dX7_isStaying_9 : decode cX7_isStaying 9 = .ok (.if_icmp .ge 87, 3) := by decide +kernel
theorem dX7_isStaying_12 : decode cX7_isStaying 12 = .ok (.aload_n 0, 1) := by decide +kernel
theorem dX7_isStaying_13 : decode cX7_isStaying 13 = .ok (.iload_n 1, 1) := by decide +kernel
theorem dX7_isStaying_14 : decode cX7_isStaying 14 = .ok (.aload_n 0, 1) := by decide +kernel
theorem dX7_isStaying_15 : decode cX7_isStaying 15 = .ok (.getfield 29, 3) := by decide +kernel
theorem dX7_isStaying_18 : decode cX7_isStaying 18 = .ok (.iconst 5, 1) := by decide +kernel
theorem dX7_isStaying_19 : decode cX7_isStaying 19 = .ok (.iload_n 3, 1) := by decide +kernel
theorem dX7_isStaying_20 : decode cX7_isStaying 20 = .ok (.imul, 1) := by decide +kernel
theorem dX7_isStaying_21 : decode cX7_isStaying 21 = .ok (.iaload, 1) := by decide +kernel
theorem dX7_isStaying_22 : decode cX7_isStaying 22 = .ok (.aload_n 0, 1) := by decide +kernel
theorem dX7_isStaying_23 : decode cX7_isStaying 23 = .ok (.getfield 29, 3) := by decide +kernel
theorem dX7_isStaying_26 : decode cX7_isStaying 26 = .ok (.iconst 5, 1) := by decide +kernel
theorem dX7_isStaying_27 : decode cX7_isStaying 27 = .ok (.iload_n 3, 1) := by decide +kernel
theorem dX7_isStaying_28 : decode cX7_isStaying 28 = .ok (.imul, 1) := by decide +kernel
theorem dX7_isStaying_29 : decode cX7_isStaying 29 = .ok (.iconst 1, 1) := by decide +kernel
theorem dX7_isStaying_30 : decode cX7_isStaying 30 = .ok (.iadd, 1) := by decide +kernel
theorem dX7_isStaying_31 : decode cX7_isStaying 31 = .ok (.iaload, 1) := by decide +kernel
theorem dX7_isStaying_32 : decode cX7_isStaying 32 = .ok (.aload_n 0, 1) := by decide +kernel
theorem dX7_isStaying_33 : decode cX7_isStaying 33 = .ok (.getfield 29, 3) := by decide +kernel
theorem dX7_isStaying_36 : decode cX7_isStaying 36 = .ok (.iconst 5, 1) := by decide +kernel
theorem dX7_isStaying_37 : decode cX7_isStaying 37 = .ok (.iload_n 3, 1) := by decide +kernel
theorem dX7_isStaying_38 : decode cX7_isStaying 38 = .ok (.imul, 1) := by decide +kernel
theorem dX7_isStaying_39 : decode cX7_isStaying 39 = .ok (.iconst 2, 1) := by decide +kernel
theorem dX7_isStaying_40 : decode cX7_isStaying 40 = .ok (.iadd, 1) := by decide +kernel
theorem dX7_isStaying_41 : decode cX7_isStaying 41 = .ok (.iaload, 1) := by decide +kernel
theorem dX7_isStaying_42 : decode cX7_isStaying 42 = .ok (.invokevirtual 70, 3) := by decide +kernel
theorem dX7_isStaying_45 : decode cX7_isStaying 45 = .ok (.iload_n 2, 1) := by decide +kernel
theorem dX7_isStaying_46 : decode cX7_isStaying 46 = .ok (.ifCond .eq 42, 3) := by decide +kernel
theorem dX7_isStaying_49 : decode cX7_isStaying 49 = .ok (.aload_n 0, 1) := by decide +kernel
theorem dX7_isStaying_50 : decode cX7_isStaying 50 = .ok (.aload_n 0, 1) := by decide +kernel
theorem dX7_isStaying_51 : decode cX7_isStaying 51 = .ok (.getfield 42, 3) := by decide +kernel
theorem dX7_isStaying_54 : decode cX7_isStaying 54 = .ok (.iconst 0, 1) := by decide +kernel
theorem dX7_isStaying_55 : decode cX7_isStaying 55 = .ok (.iaload, 1) := by decide +kernel
theorem dX7_isStaying_56 : decode cX7_isStaying 56 = .ok (.aload_n 0, 1) := by decide +kernel
theorem dX7_isStaying_57 : decode cX7_isStaying 57 = .ok (.getfield 42, 3) := by decide +kernel
theorem dX7_isStaying_60 : decode cX7_isStaying 60 = .ok (.iconst 1, 1) := by decide +kernel
theorem dX7_isStaying_61 : decode cX7_isStaying 61 = .ok (.iaload, 1) := by decide +kernel
theorem dX7_isStaying_62 : decode cX7_isStaying 62 = .ok (.aload_n 0, 1) := by decide +kernel
theorem dX7_isStaying_63 : decode cX7_isStaying 63 = .ok (.getfield 42, 3) := by decide +kernel
theorem dX7_isStaying_66 : decode cX7_isStaying 66 = .ok (.iconst 2, 1) := by decide +kernel
theorem dX7_isStaying_67 : decode cX7_isStaying 67 = .ok (.iaload, 1) := by decide +kernel
theorem dX7_isStaying_68 : decode cX7_isStaying 68 = .ok (.aload_n 0, 1) := by decide +kernel
theorem dX7_isStaying_69 : decode cX7_isStaying 69 = .ok (.getfield 29, 3) := by decide +kernel
theorem dX7_isStaying_72 : decode cX7_isStaying 72 = .ok (.iconst 5, 1) := by decide +kernel
theorem dX7_isStaying_73 : decode cX7_isStaying 73 = .ok (.iload_n 3, 1) := by decide +kernel
theorem dX7_isStaying_74 : decode cX7_isStaying 74 = .ok (.imul, 1) := by decide +kernel
theorem dX7_isStaying_75 : decode cX7_isStaying 75 = .ok (.iconst 3, 1) := by decide +kernel
theorem dX7_isStaying_76 : decode cX7_isStaying 76 = .ok (.iadd, 1) := by decide +kernel
theorem dX7_isStaying_77 : decode cX7_isStaying 77 = .ok (.iaload, 1) := by decide +kernel
theorem dX7_isStaying_78 : decode cX7_isStaying 78 = .ok (.invokevirtual 126, 3) := by decide +kernel
theorem dX7_isStaying_81 : decode cX7_isStaying 81 = .ok (.ifCond .eq 7, 3) := by decide +kernel
theorem dX7_isStaying_84 : decode cX7_isStaying 84 = .ok (.iconst 1, 1) := by decide +kernel
theorem dX7_isStaying_85 : decode cX7_isStaying 85 = .ok (.goto 4, 3) := by decide +kernel
theorem dX7_isStaying_88 : decode cX7_isStaying 88 = .ok (.iconst 0, 1) := by decide +kernel
theorem dX7_isStaying_89 : decode cX7_isStaying 89 = .ok (.istore_n 2, 1) := by decide +kernel
theorem dX7_isStaying_90 : decode cX7_isStaying 90 = .ok (.iinc 3 1, 3) := by decide +kernel
theorem dX7_isStaying_93 : decode cX7_isStaying 93 = .ok (.goto (-89), 3) := by decide +kernel
theorem dX7_isStaying_96 : decode cX7_isStaying 96 = .ok (.iload_n 2, 1) := by decide +kernel
theorem dX7_isStaying_97 : decode cX7_isStaying 97 = .ok (.ireturn, 1) := by decide +kernel
theorem dX7_stays_0 : decode cX7_stays 0 = .ok (.iload_n 1, 1) := by decide +kernel
theorem dX7_stays_1 : decode cX7_stays 1 = .ok (.iconst 0, 1) := by decide +kernel
theorem dX7_stays_2 : decode cX7_stays 2 = .ok (.iconst 5, 1) := by decide +kernel
theorem dX7_stays_3 : decode cX7_stays 3 = .ok (.invokestatic 45, 3) := by decide +kernel
theorem dX7_stays_6 : decode cX7_stays 6 = .ok (.ifCond .ne 10, 3) := by decide +kernel
theorem dX7_stays_9 : decode cX7_stays 9 = .ok (.aload_n 0, 1) := by decide +kernel
theorem dX7_stays_10 : decode cX7_stays 10 = .ok (.bipush (-2), 2) := by decide +kernel
theorem dX7_stays_12 : decode cX7_stays 12 = .ok (.invokevirtual 56, 3) := by decide +kernel
theorem dX7_stays_15 : decode cX7_stays 15 = .ok (.ireturn, 1) := by decide +kernel
theorem dX7_stays_16 : decode cX7_stays 16 = .ok (.aload_n 0, 1) := by decide +kernel
theorem dX7_stays_17 : decode cX7_stays 17 = .ok (.invokevirtual 111, 3) := by decide +kernel
theorem dX7_stays_20 : decode cX7_stays 20 = .ok (.aload_n 0, 1) := by decide +kernel
theorem dX7_stays_21 : decode cX7_stays 21 = .ok (.iload_n 1, 1) := by decide +kernel
theorem dX7_stays_22 : decode cX7_stays 22 = .ok (.invokevirtual 187, 3) := by decide +kernel
theorem dX7_stays_25 : decode cX7_stays 25 = .ok (.ifCond .eq 7, 3) := by decide +kernel
theorem dX7_stays_28 : decode cX7_stays 28 = .ok (.iconst 1, 1) := by decide +kernel
theorem dX7_stays_29 : decode cX7_stays 29 = .ok (.goto 4, 3) := by decide +kernel
theorem dX7_stays_32 : decode cX7_stays 32 = .ok (.iconst 0, 1) := by decide +kernel
theorem dX7_stays_33 : decode cX7_stays 33 = .ok (.ireturn, 1) := by decide +kernel
theorem dX7_symmetry_0 : decode cX7_symmetry 0 = .ok (.aload_n 0, 1) := by decide +kernel
theorem dX7_symmetry_1 : decode cX7_symmetry 1 = .ok (.invokevirtual 111, 3) := by decide +kernel
theorem dX7_symmetry_4 : decode cX7_symmetry 4 = .ok (.iconst 0, 1) := by decide +kernel
theorem dX7_symmetry_5 : decode cX7_symmetry 5 = .ok (.istore_n 1, 1) := by decide +kernel
theorem dX7_symmetry_6 : decode cX7_symmetry 6 = .ok (.iconst 0, 1) := by decide +kernel
theorem dX7_symmetry_7 : decode cX7_symmetry 7 = .ok (.istore_n 2, 1) := by decide +kernel
theorem dX7_symmetry_8 : decode cX7_symmetry 8 = .ok (.iload_n 2, 1) := by decide +kernel
theorem dX7_symmetry_9 : decode cX7_symmetry 9 = .ok (.bipush 6, 2) := by decide +kernel
theorem dX7_symmetry_11 : decode cX7_symmetry 11 = .ok (.if_icmp .ge 27, 3) := by decide +kernel
theorem dX7_symmetry_14 : decode cX7_symmetry 14 = .ok (.iload_n 1, 1) := by decide +kernel
theorem dX7_symmetry_15 : decode cX7_symmetry 15 = .ok (.aload_n 0, 1) := by decide +kernel
theorem dX7_symmetry_16 : decode cX7_symmetry 16 = .ok (.iload_n 2, 1) := by decide +kernel
theorem dX7_symmetry_17 : decode cX7_symmetry 17 = .ok (.invokevirtual 187, 3) := by decide +kernel
theorem dX7_symmetry_20 : decode cX7_symmetry 20 = .ok (.ifCond .eq 9, 3) := by decide +kernel
theorem dX7_symmetry_23 : decode cX7_symmetry 23 = .ok (.iconst 1, 1) := by decide +kernel
theorem dX7_symmetry_24 : decode cX7_symmetry 24 = .ok (.iload_n 2, 1) := by decide +kernel
theorem dX7_symmetry_25 : decode cX7_symmetry 25 = .ok (.ishl, 1) := by decide +kernel
theorem dX7_symmetry_26 : decode cX7_symmetry 26 = .ok (.goto 4, 3) := by decide +kernel
theorem dX7_symmetry_29 : decode cX7_symmetry 29 = .ok (.iconst 0, 1) := by decide +kernel
theorem dX7_symmetry_30 : decode cX7_symmetry 30 = .ok (.ior, 1) := by decide +kernel
theorem dX7_symmetry_31 : decode cX7_symmetry 31 = .ok (.istore_n 1, 1) := by decide +kernel
theorem dX7_symmetry_32 : decode cX7_symmetry 32 = .ok (.iinc 2 1, 3) := by decide +kernel
theorem dX7_symmetry_35 : decode cX7_symmetry 35 = .ok (.goto (-27), 3) := by decide +kernel
theorem dX7_symmetry_38 : decode cX7_symmetry 38 = .ok (.iload_n 1, 1) := by decide +kernel
theorem dX7_symmetry_39 : decode cX7_symmetry 39 = .ok (.ireturn, 1) := by decide +kernel
theorem dX7_hides_0 : decode cX7_hides 0 = .ok (.iload_n 1, 1) := by decide +kernel
theorem dX7_hides_1 : decode cX7_hides 1 = .ok (.iload_n 2, 1) := by decide +kernel
theorem dX7_hides_2 : decode cX7_hides 2 = .ok (.iload_n 3, 1) := by decide +kernel
theorem dX7_hides_3 : decode cX7_hides 3 = .ok (.invokestatic 53, 3) := by decide +kernel
theorem dX7_hides_6 : decode cX7_hides 6 = .ok (.ifCond .eq 13, 3) := by decide +kernel
theorem dX7_hides_9 : decode cX7_hides 9 = .ok (.iload 4, 2) := by decide +kernel
theorem dX7_hides_11 : decode cX7_hides 11 = .ok (.iconst 0, 1) := by decide +kernel
theorem dX7_hides_12 : decode cX7_hides 12 = .ok (.iconst 1, 1) := by decide +kernel
theorem dX7_hides_13 : decode cX7_hides 13 = .ok (.invokestatic 45, 3) := by decide +kernel
theorem dX7_hides_16 : decode cX7_hides 16 = .ok (.ifCond .ne 10, 3) := by decide +kernel
theorem dX7_hides_19 : decode cX7_hides 19 = .ok (.aload_n 0, 1) := by decide +kernel
theorem dX7_hides_20 : decode cX7_hides 20 = .ok (.bipush (-2), 2) := by decide +kernel
theorem dX7_hides_22 : decode cX7_hides 22 = .ok (.invokevirtual 56, 3) := by decide +kernel
theorem dX7_hides_25 : decode cX7_hides 25 = .ok (.ireturn, 1) := by decide +kernel
theorem dX7_hides_26 : decode cX7_hides 26 = .ok (.aload_n 0, 1) := by decide +kernel
theorem dX7_hides_27 : decode cX7_hides 27 = .ok (.getfield 7, 3) := by decide +kernel
theorem dX7_hides_30 : decode cX7_hides 30 = .ok (.iconst 0, 1) := by decide +kernel
theorem dX7_hides_31 : decode cX7_hides 31 = .ok (.iaload, 1) := by decide +kernel
theorem dX7_hides_32 : decode cX7_hides 32 = .ok (.bipush 32, 2) := by decide +kernel
theorem dX7_hides_34 : decode cX7_hides 34 = .ok (.if_icmp .ne 10, 3) := by decide +kernel
theorem dX7_hides_37 : decode cX7_hides 37 = .ok (.aload_n 0, 1) := by decide +kernel
theorem dX7_hides_38 : decode cX7_hides 38 = .ok (.bipush (-4), 2) := by decide +kernel
theorem dX7_hides_40 : decode cX7_hides 40 = .ok (.invokevirtual 56, 3) := by decide +kernel
theorem dX7_hides_43 : decode cX7_hides 43 = .ok (.ireturn, 1) := by decide +kernel
theorem dX7_hides_44 : decode cX7_hides 44 = .ok (.aload_n 0, 1) := by decide +kernel
theorem dX7_hides_45 : decode cX7_hides 45 = .ok (.invokevirtual 111, 3) := by decide +kernel
theorem dX7_hides_48 : decode cX7_hides 48 = .ok (.aload_n 0, 1) := by decide +kernel
theorem dX7_hides_49 : decode cX7_hides 49 = .ok (.iload_n 1, 1) := by decide +kernel
theorem dX7_hides_50 : decode cX7_hides 50 = .ok (.iload_n 2, 1) := by decide +kernel
theorem dX7_hides_51 : decode cX7_hides 51 = .ok (.iload_n 3, 1) := by decide +kernel
theorem dX7_hides_52 : decode cX7_hides 52 = .ok (.invokevirtual 180, 3) := by decide +kernel
theorem dX7_hides_55 : decode cX7_hides 55 = .ok (.istore 5, 2) := by decide +kernel
theorem dX7_hides_57 : decode cX7_hides 57 = .ok (.aload_n 0, 1) := by decide +kernel
theorem dX7_hides_58 : decode cX7_hides 58 = .ok (.iload 5, 2) := by decide +kernel
theorem dX7_hides_60 : decode cX7_hides 60 = .ok (.iload_n 1, 1) := by decide +kernel
theorem dX7_hides_61 : decode cX7_hides 61 = .ok (.iload_n 2, 1) := by decide +kernel
theorem dX7_hides_62 : decode cX7_hides 62 = .ok (.iload_n 3, 1) := by decide +kernel
theorem dX7_hides_63 : decode cX7_hides 63 = .ok (.invokevirtual 184, 3) := by decide +kernel
theorem dX7_hides_66 : decode cX7_hides 66 = .ok (.istore 6, 2) := by decide +kernel
theorem dX7_hides_68 : decode cX7_hides 68 = .ok (.aload_n 0, 1) := by decide +kernel
theorem dX7_hides_69 : decode cX7_hides 69 = .ok (.getfield 29, 3) := by decide +kernel
theorem dX7_hides_72 : decode cX7_hides 72 = .ok (.iconst 5, 1) := by decide +kernel
theorem dX7_hides_73 : decode cX7_hides 73 = .ok (.iload 5, 2) := by decide +kernel
theorem dX7_hides_75 : decode cX7_hides 75 = .ok (.imul, 1) := by decide +kernel
theorem dX7_hides_76 : decode cX7_hides 76 = .ok (.iconst 3, 1) := by decide +kernel
theorem dX7_hides_77 : decode cX7_hides 77 = .ok (.iadd, 1) := by decide +kernel
theorem dX7_hides_78 : decode cX7_hides 78 = .ok (.iaload, 1) := by decide +kernel
theorem dX7_hides_79 : decode cX7_hides 79 = .ok (.istore 7, 2) := by decide +kernel
theorem dX7_hides_81 : decode cX7_hides 81 = .ok (.iconst (-1), 1) := by decide +kernel
theorem dX7_hides_82 : decode cX7_hides 82 = .ok (.istore 8, 2) := by decide +kernel
theorem dX7_hides_84 : decode cX7_hides 84 = .ok (.iconst 0, 1) := by decide +kernel
theorem dX7_hides_85 : decode cX7_hides 85 = .ok (.istore 9, 2) := by decide +kernel
theorem dX7_hides_87 : decode cX7_hides 87 = .ok (.bipush 60, 2) := by decide +kernel
theorem dX7_hides_89 : decode cX7_hides 89 = .ok (.istore 10, 2) := by decide +kernel
theorem dX7_hides_91 : decode cX7_hides 91 = .ok (.iload 10, 2) := by decide +kernel
theorem dX7_hides_93 : decode cX7_hides 93 = .ok (.ifCond .le 48, 3) := by decide +kernel
theorem dX7_hides_96 : decode cX7_hides 96 = .ok (.iload 10, 2) := by decide +kernel
theorem dX7_hides_98 : decode cX7_hides 98 = .ok (.iload 7, 2) := by decide +kernel
theorem dX7_hides_100 : decode cX7_hides 100 = .ok (.imul, 1) := by decide +kernel
theorem dX7_hides_101 : decode cX7_hides 101 = .ok (.iload 6, 2) := by decide +kernel
theorem dX7_hides_103 : decode cX7_hides 103 = .ok (.if_icmp .le 8, 3) := by decide +kernel
theorem dX7_hides_106 : decode cX7_hides 106 = .ok (.iload 10, 2) := by decide +kernel
theorem dX7_hides_108 : decode cX7_hides 108 = .ok (.goto 5, 3) := by decide +kernel
theorem dX7_hides_111 : decode cX7_hides 111 = .ok (.iload 8, 2) := by decide +kernel
theorem dX7_hides_113 : decode cX7_hides 113 = .ok (.istore 8, 2) := by decide +kernel
theorem dX7_hides_115 : decode cX7_hides 115 = .ok (.iload 9, 2) := by decide +kernel
theorem dX7_hides_117 : decode cX7_hides 117 = .ok (.iload 10, 2) := by decide +kernel
theorem dX7_hides_119 : decode cX7_hides 119 = .ok (.iload 7, 2) := by decide +kernel
theorem dX7_hides_121 : decode cX7_hides 121 = .ok (.imul, 1) := by decide +kernel
theorem dX7_hides_122 : decode cX7_hides 122 = .ok (.iload 6, 2) := by decide +kernel
theorem dX7_hides_124 : decode cX7_hides 124 = .ok (.if_icmp .ge 7, 3) := by decide +kernel
theorem dX7_hides_127 : decode cX7_hides 127 = .ok (.iconst 1, 1) := by decide +kernel
theorem dX7_hides_128 : decode cX7_hides 128 = .ok (.goto 4, 3) := by decide +kernel
theorem dX7_hides_131 : decode cX7_hides 131 = .ok (.iconst 0, 1) := by decide +kernel
theorem dX7_hides_132 : decode cX7_hides 132 = .ok (.iadd, 1) := by decide +kernel
theorem dX7_hides_133 : decode cX7_hides 133 = .ok (.istore 9, 2) := by decide +kernel
theorem dX7_hides_135 : decode cX7_hides 135 = .ok (.iinc 10 (-1), 3) := by decide +kernel
theorem dX7_hides_138 : decode cX7_hides 138 = .ok (.goto (-47), 3) := by decide +kernel
theorem dX7_hides_141 : decode cX7_hides 141 = .ok (.iload 4, 2) := by decide +kernel
theorem dX7_hides_143 : decode cX7_hides 143 = .ok (.ifCond .ne 8, 3) := by decide +kernel
theorem dX7_hides_146 : decode cX7_hides 146 = .ok (.iload 8, 2) := by decide +kernel
theorem dX7_hides_148 : decode cX7_hides 148 = .ok (.goto 5, 3) := by decide +kernel
theorem dX7_hides_151 : decode cX7_hides 151 = .ok (.iload 9, 2) := by decide +kernel
theorem dX7_hides_153 : decode cX7_hides 153 = .ok (.ireturn, 1) := by decide +kernel
theorem dX7_spare_0 : decode cX7_spare 0 = .ok (.iload_n 1, 1) := by decide +kernel
theorem dX7_spare_1 : decode cX7_spare 1 = .ok (.iconst 0, 1) := by decide +kernel
theorem dX7_spare_2 : decode cX7_spare 2 = .ok (.iconst 1, 1) := by decide +kernel
theorem dX7_spare_3 : decode cX7_spare 3 = .ok (.invokestatic 45, 3) := by decide +kernel
theorem dX7_spare_6 : decode cX7_spare 6 = .ok (.ifCond .ne 10, 3) := by decide +kernel
theorem dX7_spare_9 : decode cX7_spare 9 = .ok (.aload_n 0, 1) := by decide +kernel
theorem dX7_spare_10 : decode cX7_spare 10 = .ok (.bipush (-2), 2) := by decide +kernel
theorem dX7_spare_12 : decode cX7_spare 12 = .ok (.invokevirtual 56, 3) := by decide +kernel
theorem dX7_spare_15 : decode cX7_spare 15 = .ok (.ireturn, 1) := by decide +kernel
theorem dX7_spare_16 : decode cX7_spare 16 = .ok (.aload_n 0, 1) := by decide +kernel
theorem dX7_spare_17 : decode cX7_spare 17 = .ok (.getfield 7, 3) := by decide +kernel
theorem dX7_spare_20 : decode cX7_spare 20 = .ok (.iconst 0, 1) := by decide +kernel
theorem dX7_spare_21 : decode cX7_spare 21 = .ok (.iaload, 1) := by decide +kernel
theorem dX7_spare_22 : decode cX7_spare 22 = .ok (.bipush 6, 2) := by decide +kernel
theorem dX7_spare_24 : decode cX7_spare 24 = .ok (.if_icmp .ne 10, 3) := by decide +kernel
theorem dX7_spare_27 : decode cX7_spare 27 = .ok (.aload_n 0, 1) := by decide +kernel
theorem dX7_spare_28 : decode cX7_spare 28 = .ok (.bipush (-3), 2) := by decide +kernel
theorem dX7_spare_30 : decode cX7_spare 30 = .ok (.invokevirtual 56, 3) := by decide +kernel
theorem dX7_spare_33 : decode cX7_spare 33 = .ok (.ireturn, 1) := by decide +kernel
theorem dX7_spare_34 : decode cX7_spare 34 = .ok (.aload_n 0, 1) := by decide +kernel
theorem dX7_spare_35 : decode cX7_spare 35 = .ok (.invokevirtual 60, 3) := by decide +kernel
theorem dX7_spare_38 : decode cX7_spare 38 = .ok (.iconst (-1), 1) := by decide +kernel
theorem dX7_spare_39 : decode cX7_spare 39 = .ok (.istore_n 2, 1) := by decide +kernel
theorem dX7_spare_40 : decode cX7_spare 40 = .ok (.iconst (-1), 1) := by decide +kernel
theorem dX7_spare_41 : decode cX7_spare 41 = .ok (.istore_n 3, 1) := by decide +kernel
theorem dX7_spare_42 : decode cX7_spare 42 = .ok (.bipush 6, 2) := by decide +kernel
theorem dX7_spare_44 : decode cX7_spare 44 = .ok (.istore 4, 2) := by decide +kernel
theorem dX7_spare_46 : decode cX7_spare 46 = .ok (.iload 4, 2) := by decide +kernel
theorem dX7_spare_48 : decode cX7_spare 48 = .ok (.aload_n 0, 1) := by decide +kernel
theorem dX7_spare_49 : decode cX7_spare 49 = .ok (.getfield 16, 3) := by decide +kernel
theorem dX7_spare_52 : decode cX7_spare 52 = .ok (.iconst 0, 1) := by decide +kernel
theorem dX7_spare_53 : decode cX7_spare 53 = .ok (.iaload, 1) := by decide +kernel
theorem dX7_spare_54 : decode cX7_spare 54 = .ok (.if_icmp .ge 55, 3) := by decide +kernel
theorem dX7_spare_57 : decode cX7_spare 57 = .ok (.aload_n 0, 1) := by decide +kernel
theorem dX7_spare_58 : decode cX7_spare 58 = .ok (.iload 4, 2) := by decide +kernel
theorem dX7_spare_60 : decode cX7_spare 60 = .ok (.invokevirtual 89, 3) := by decide +kernel
theorem dX7_spare_63 : decode cX7_spare 63 = .ok (.aload_n 0, 1) := by decide +kernel
theorem dX7_spare_64 : decode cX7_spare 64 = .ok (.invokevirtual 111, 3) := by decide +kernel
theorem dX7_spare_67 : decode cX7_spare 67 = .ok (.aload_n 0, 1) := by decide +kernel
theorem dX7_spare_68 : decode cX7_spare 68 = .ok (.getfield 114, 3) := by decide +kernel
theorem dX7_spare_71 : decode cX7_spare 71 = .ok (.iload_n 3, 1) := by decide +kernel
theorem dX7_spare_72 : decode cX7_spare 72 = .ok (.if_icmp .le 8, 3) := by decide +kernel
theorem dX7_spare_75 : decode cX7_spare 75 = .ok (.iload 4, 2) := by decide +kernel
theorem dX7_spare_77 : decode cX7_spare 77 = .ok (.goto 4, 3) := by decide +kernel
theorem dX7_spare_80 : decode cX7_spare 80 = .ok (.iload_n 2, 1) := by decide +kernel
theorem dX7_spare_81 : decode cX7_spare 81 = .ok (.istore_n 2, 1) := by decide +kernel
theorem dX7_spare_82 : decode cX7_spare 82 = .ok (.aload_n 0, 1) := by decide +kernel
theorem dX7_spare_83 : decode cX7_spare 83 = .ok (.getfield 114, 3) := by decide +kernel
theorem dX7_spare_86 : decode cX7_spare 86 = .ok (.iload_n 3, 1) := by decide +kernel
theorem dX7_spare_87 : decode cX7_spare 87 = .ok (.if_icmp .le 10, 3) := by decide +kernel
theorem dX7_spare_90 : decode cX7_spare 90 = .ok (.aload_n 0, 1) := by decide +kernel
theorem dX7_spare_91 : decode cX7_spare 91 = .ok (.getfield 114, 3) := by decide +kernel
theorem dX7_spare_94 : decode cX7_spare 94 = .ok (.goto 4, 3) := by decide +kernel
theorem dX7_spare_97 : decode cX7_spare 97 = .ok (.iload_n 3, 1) := by decide +kernel
theorem dX7_spare_98 : decode cX7_spare 98 = .ok (.istore_n 3, 1) := by decide +kernel
theorem dX7_spare_99 : decode cX7_spare 99 = .ok (.aload_n 0, 1) := by decide +kernel
theorem dX7_spare_100 : decode cX7_spare 100 = .ok (.invokevirtual 190, 3) := by decide +kernel
theorem dX7_spare_103 : decode cX7_spare 103 = .ok (.iinc 4 1, 3) := by decide +kernel
theorem dX7_spare_106 : decode cX7_spare 106 = .ok (.goto (-60), 3) := by decide +kernel
theorem dX7_spare_109 : decode cX7_spare 109 = .ok (.iload_n 1, 1) := by decide +kernel
theorem dX7_spare_110 : decode cX7_spare 110 = .ok (.ifCond .ne 7, 3) := by decide +kernel
theorem dX7_spare_113 : decode cX7_spare 113 = .ok (.iload_n 2, 1) := by decide +kernel
theorem dX7_spare_114 : decode cX7_spare 114 = .ok (.goto 4, 3) := by decide +kernel
theorem dX7_spare_117 : decode cX7_spare 117 = .ok (.iload_n 3, 1) := by decide +kernel
theorem dX7_spare_118 : decode cX7_spare 118 = .ok (.ireturn, 1) := by decide +kernel
theorem dX7_type_0 : decode cX7_type 0 = .ok (.iload_n 1, 1) := by decide +kernel
theorem dX7_type_1 : decode cX7_type 1 = .ok (.iconst 0, 1) := by decide +kernel
theorem dX7_type_2 : decode cX7_type 2 = .ok (.bipush 127, 2) := by decide +kernel
theorem dX7_type_4 : decode cX7_type 4 = .ok (.invokestatic 45, 3) := by decide +kernel
theorem dX7_type_7 : decode cX7_type 7 = .ok (.ifCond .ne 10, 3) := by decide +kernel
theorem dX7_type_10 : decode cX7_type 10 = .ok (.aload_n 0, 1) := by decide +kernel
theorem dX7_type_11 : decode cX7_type 11 = .ok (.bipush (-2), 2) := by decide +kernel
theorem dX7_type_13 : decode cX7_type 13 = .ok (.invokevirtual 56, 3) := by decide +kernel
theorem dX7_type_16 : decode cX7_type 16 = .ok (.ireturn, 1) := by decide +kernel
theorem dX7_type_17 : decode cX7_type 17 = .ok (.aload_n 0, 1) := by decide +kernel
theorem dX7_type_18 : decode cX7_type 18 = .ok (.getfield 193, 3) := by decide +kernel
theorem dX7_type_21 : decode cX7_type 21 = .ok (.bipush 120, 2) := by decide +kernel
theorem dX7_type_23 : decode cX7_type 23 = .ok (.if_icmp .ne 10, 3) := by decide +kernel
theorem dX7_type_26 : decode cX7_type 26 = .ok (.aload_n 0, 1) := by decide +kernel
theorem dX7_type_27 : decode cX7_type 27 = .ok (.bipush (-4), 2) := by decide +kernel
theorem dX7_type_29 : decode cX7_type 29 = .ok (.invokevirtual 56, 3) := by decide +kernel
theorem dX7_type_32 : decode cX7_type 32 = .ok (.ireturn, 1) := by decide +kernel
theorem dX7_type_33 : decode cX7_type 33 = .ok (.aload_n 0, 1) := by decide +kernel
theorem dX7_type_34 : decode cX7_type 34 = .ok (.getfield 22, 3) := by decide +kernel
theorem dX7_type_37 : decode cX7_type 37 = .ok (.aload_n 0, 1) := by decide +kernel
theorem dX7_type_38 : decode cX7_type 38 = .ok (.getfield 193, 3) := by decide +kernel
theorem dX7_type_41 : decode cX7_type 41 = .ok (.iload_n 1, 1) := by decide +kernel
theorem dX7_type_42 : decode cX7_type 42 = .ok (.iastore, 1) := by decide +kernel
theorem dX7_type_43 : decode cX7_type 43 = .ok (.aload_n 0, 1) := by decide +kernel
theorem dX7_type_44 : decode cX7_type 44 = .ok (.dup, 1) := by decide +kernel
theorem dX7_type_45 : decode cX7_type 45 = .ok (.getfield 193, 3) := by decide +kernel
theorem dX7_type_48 : decode cX7_type 48 = .ok (.iconst 1, 1) := by decide +kernel
theorem dX7_type_49 : decode cX7_type 49 = .ok (.iadd, 1) := by decide +kernel
theorem dX7_type_50 : decode cX7_type 50 = .ok (.putfield 193, 3) := by decide +kernel
theorem dX7_type_53 : decode cX7_type 53 = .ok (.aload_n 0, 1) := by decide +kernel
theorem dX7_type_54 : decode cX7_type 54 = .ok (.getfield 193, 3) := by decide +kernel
theorem dX7_type_57 : decode cX7_type 57 = .ok (.ireturn, 1) := by decide +kernel
theorem dX7_clear_0 : decode cX7_clear 0 = .ok (.aload_n 0, 1) := by decide +kernel
theorem dX7_clear_1 : decode cX7_clear 1 = .ok (.getfield 193, 3) := by decide +kernel
theorem dX7_clear_4 : decode cX7_clear 4 = .ok (.istore_n 1, 1) := by decide +kernel
theorem dX7_clear_5 : decode cX7_clear 5 = .ok (.aload_n 0, 1) := by decide +kernel
theorem dX7_clear_6 : decode cX7_clear 6 = .ok (.iconst 0, 1) := by decide +kernel
theorem dX7_clear_7 : decode cX7_clear 7 = .ok (.putfield 193, 3) := by decide +kernel
theorem dX7_clear_10 : decode cX7_clear 10 = .ok (.iload_n 1, 1) := by decide +kernel
theorem dX7_clear_11 : decode cX7_clear 11 = .ok (.ireturn, 1) := by decide +kernel
theorem dX7_byteAt_0 : decode cX7_byteAt 0 = .ok (.iload_n 1, 1) := by decide +kernel
theorem dX7_byteAt_1 : decode cX7_byteAt 1 = .ok (.aload_n 0, 1) := by decide +kernel
theorem dX7_byteAt_2 : decode cX7_byteAt 2 = .ok (.getfield 193, 3) := by decide +kernel
theorem dX7_byteAt_5 : decode cX7_byteAt 5 = .ok (.if_icmp .ge 12, 3) := by decide +kernel
theorem dX7_byteAt_8 : decode cX7_byteAt 8 = .ok (.aload_n 0, 1) := by decide +kernel
theorem dX7_byteAt_9 : decode cX7_byteAt 9 = .ok (.getfield 22, 3) := by decide +kernel
theorem dX7_byteAt_12 : decode cX7_byteAt 12 = .ok (.iload_n 1, 1) := by decide +kernel
theorem dX7_byteAt_13 : decode cX7_byteAt 13 = .ok (.iaload, 1) := by decide +kernel
theorem dX7_byteAt_14 : decode cX7_byteAt 14 = .ok (.goto 4, 3) := by decide +kernel
theorem dX7_byteAt_17 : decode cX7_byteAt 17 = .ok (.iconst (-1), 1) := by decide +kernel
theorem dX7_byteAt_18 : decode cX7_byteAt 18 = .ok (.ireturn, 1) := by decide +kernel
theorem dX7_skips_0 : decode cX7_skips 0 = .ok (.aload_n 0, 1) := by decide +kernel
theorem dX7_skips_1 : decode cX7_skips 1 = .ok (.aload_n 0, 1) := by decide +kernel
theorem dX7_skips_2 : decode cX7_skips 2 = .ok (.getfield 196, 3) := by decide +kernel
theorem dX7_skips_5 : decode cX7_skips 5 = .ok (.invokevirtual 199, 3) := by decide +kernel
theorem dX7_skips_8 : decode cX7_skips 8 = .ok (.bipush 32, 2) := by decide +kernel
theorem dX7_skips_10 : decode cX7_skips 10 = .ok (.if_icmp .ne 16, 3) := by decide +kernel
theorem dX7_skips_13 : decode cX7_skips 13 = .ok (.aload_n 0, 1) := by decide +kernel
theorem dX7_skips_14 : decode cX7_skips 14 = .ok (.dup, 1) := by decide +kernel
theorem dX7_skips_15 : decode cX7_skips 15 = .ok (.getfield 196, 3) := by decide +kernel
theorem dX7_skips_18 : decode cX7_skips 18 = .ok (.iconst 1, 1) := by decide +kernel
theorem dX7_skips_19 : decode cX7_skips 19 = .ok (.iadd, 1) := by decide +kernel
theorem dX7_skips_20 : decode cX7_skips 20 = .ok (.putfield 196, 3) := by decide +kernel
theorem dX7_skips_23 : decode cX7_skips 23 = .ok (.goto (-23), 3) := by decide +kernel
theorem dX7_skips_26 : decode cX7_skips 26 = .ok (.return_, 1) := by decide +kernel
theorem dX7_isFamily_0 : decode cX7_isFamily 0 = .ok (.aload_n 0, 1) := by decide +kernel
theorem dX7_isFamily_1 : decode cX7_isFamily 1 = .ok (.getfield 196, 3) := by decide +kernel
theorem dX7_isFamily_4 : decode cX7_isFamily 4 = .ok (.istore_n 1, 1) := by decide +kernel
theorem dX7_isFamily_5 : decode cX7_isFamily 5 = .ok (.iload_n 1, 1) := by decide +kernel
theorem dX7_isFamily_6 : decode cX7_isFamily 6 = .ok (.aload_n 0, 1) := by decide +kernel
theorem dX7_isFamily_7 : decode cX7_isFamily 7 = .ok (.getfield 193, 3) := by decide +kernel
theorem dX7_isFamily_10 : decode cX7_isFamily 10 = .ok (.if_icmp .ge 31, 3) := by decide +kernel
theorem dX7_isFamily_13 : decode cX7_isFamily 13 = .ok (.aload_n 0, 1) := by decide +kernel
theorem dX7_isFamily_14 : decode cX7_isFamily 14 = .ok (.getfield 22, 3) := by decide +kernel
theorem dX7_isFamily_17 : decode cX7_isFamily 17 = .ok (.iload_n 1, 1) := by decide +kernel
theorem dX7_isFamily_18 : decode cX7_isFamily 18 = .ok (.iaload, 1) := by decide +kernel
theorem dX7_isFamily_19 : decode cX7_isFamily 19 = .ok (.bipush 59, 2) := by decide +kernel
theorem dX7_isFamily_21 : decode cX7_isFamily 21 = .ok (.if_icmp .eq 20, 3) := by decide +kernel
theorem dX7_isFamily_24 : decode cX7_isFamily 24 = .ok (.aload_n 0, 1) := by decide +kernel
theorem dX7_isFamily_25 : decode cX7_isFamily 25 = .ok (.getfield 22, 3) := by decide +kernel
theorem dX7_isFamily_28 : decode cX7_isFamily 28 = .ok (.iload_n 1, 1) := by decide +kernel
theorem dX7_isFamily_29 : decode cX7_isFamily 29 = .ok (.iaload, 1) := by decide +kernel
theorem dX7_isFamily_30 : decode cX7_isFamily 30 = .ok (.bipush 58, 2) := by decide +kernel
theorem dX7_isFamily_32 : decode cX7_isFamily 32 = .ok (.if_icmp .eq 9, 3) := by decide +kernel
theorem dX7_isFamily_35 : decode cX7_isFamily 35 = .ok (.iinc 1 1, 3) := by decide +kernel
theorem dX7_isFamily_38 : decode cX7_isFamily 38 = .ok (.goto (-33), 3) := by decide +kernel
theorem dX7_isFamily_41 : decode cX7_isFamily 41 = .ok (.aload_n 0, 1) := by decide +kernel
theorem dX7_isFamily_42 : decode cX7_isFamily 42 = .ok (.iload_n 1, 1) := by decide +kernel
theorem dX7_isFamily_43 : decode cX7_isFamily 43 = .ok (.invokevirtual 199, 3) := by decide +kernel
theorem dX7_isFamily_46 : decode cX7_isFamily 46 = .ok (.bipush 58, 2) := by decide +kernel
theorem dX7_isFamily_48 : decode cX7_isFamily 48 = .ok (.if_icmp .ne 7, 3) := by decide +kernel
theorem dX7_isFamily_51 : decode cX7_isFamily 51 = .ok (.iconst 1, 1) := by decide +kernel
theorem dX7_isFamily_52 : decode cX7_isFamily 52 = .ok (.goto 4, 3) := by decide +kernel
theorem dX7_isFamily_55 : decode cX7_isFamily 55 = .ok (.iconst 0, 1) := by decide +kernel
theorem dX7_isFamily_56 : decode cX7_isFamily 56 = .ok (.ireturn, 1) := by decide +kernel
theorem dX7_readsTurns_0 : decode cX7_readsTurns 0 = .ok (.iconst 0, 1) := by decide +kernel
theorem dX7_readsTurns_1 : decode cX7_readsTurns 1 = .ok (.istore_n 1, 1) := by decide +kernel
theorem dX7_readsTurns_2 : decode cX7_readsTurns 2 = .ok (.aload_n 0, 1) := by decide +kernel
theorem dX7_readsTurns_3 : decode cX7_readsTurns 3 = .ok (.invokevirtual 202, 3) := by decide +kernel
theorem dX7_readsTurns_6 : decode cX7_readsTurns 6 = .ok (.aload_n 0, 1) := by decide +kernel
theorem dX7_readsTurns_7 : decode cX7_readsTurns 7 = .ok (.aload_n 0, 1) := by decide +kernel
theorem dX7_readsTurns_8 : decode cX7_readsTurns 8 = .ok (.getfield 196, 3) := by decide +kernel
theorem dX7_readsTurns_11 : decode cX7_readsTurns 11 = .ok (.invokevirtual 199, 3) := by decide +kernel
theorem dX7_readsTurns_14 : decode cX7_readsTurns 14 = .ok (.bipush 48, 2) := by decide +kernel
theorem dX7_readsTurns_16 : decode cX7_readsTurns 16 = .ok (.bipush 53, 2) := by decide +kernel
theorem dX7_readsTurns_18 : decode cX7_readsTurns 18 = .ok (.invokestatic 45, 3) := by decide +kernel
theorem dX7_readsTurns_21 : decode cX7_readsTurns 21 = .ok (.ifCond .eq 37, 3) := by decide +kernel
theorem dX7_readsTurns_24 : decode cX7_readsTurns 24 = .ok (.iload_n 1, 1) := by decide +kernel
theorem dX7_readsTurns_25 : decode cX7_readsTurns 25 = .ok (.iconst 1, 1) := by decide +kernel
theorem dX7_readsTurns_26 : decode cX7_readsTurns 26 = .ok (.aload_n 0, 1) := by decide +kernel
theorem dX7_readsTurns_27 : decode cX7_readsTurns 27 = .ok (.getfield 22, 3) := by decide +kernel
theorem dX7_readsTurns_30 : decode cX7_readsTurns 30 = .ok (.aload_n 0, 1) := by decide +kernel
theorem dX7_readsTurns_31 : decode cX7_readsTurns 31 = .ok (.getfield 196, 3) := by decide +kernel
theorem dX7_readsTurns_34 : decode cX7_readsTurns 34 = .ok (.iaload, 1) := by decide +kernel
theorem dX7_readsTurns_35 : decode cX7_readsTurns 35 = .ok (.bipush 48, 2) := by decide +kernel
theorem dX7_readsTurns_37 : decode cX7_readsTurns 37 = .ok (.isub, 1) := by decide +kernel
theorem dX7_readsTurns_38 : decode cX7_readsTurns 38 = .ok (.ishl, 1) := by decide +kernel
theorem dX7_readsTurns_39 : decode cX7_readsTurns 39 = .ok (.ior, 1) := by decide +kernel
theorem dX7_readsTurns_40 : decode cX7_readsTurns 40 = .ok (.istore_n 1, 1) := by decide +kernel
theorem dX7_readsTurns_41 : decode cX7_readsTurns 41 = .ok (.aload_n 0, 1) := by decide +kernel
theorem dX7_readsTurns_42 : decode cX7_readsTurns 42 = .ok (.dup, 1) := by decide +kernel
theorem dX7_readsTurns_43 : decode cX7_readsTurns 43 = .ok (.getfield 196, 3) := by decide +kernel
theorem dX7_readsTurns_46 : decode cX7_readsTurns 46 = .ok (.iconst 1, 1) := by decide +kernel
theorem dX7_readsTurns_47 : decode cX7_readsTurns 47 = .ok (.iadd, 1) := by decide +kernel
theorem dX7_readsTurns_48 : decode cX7_readsTurns 48 = .ok (.putfield 196, 3) := by decide +kernel
theorem dX7_readsTurns_51 : decode cX7_readsTurns 51 = .ok (.aload_n 0, 1) := by decide +kernel
theorem dX7_readsTurns_52 : decode cX7_readsTurns 52 = .ok (.invokevirtual 202, 3) := by decide +kernel
theorem dX7_readsTurns_55 : decode cX7_readsTurns 55 = .ok (.goto (-49), 3) := by decide +kernel
theorem dX7_readsTurns_58 : decode cX7_readsTurns 58 = .ok (.iload_n 1, 1) := by decide +kernel
theorem dX7_readsTurns_59 : decode cX7_readsTurns 59 = .ok (.ifCond .eq 16, 3) := by decide +kernel
theorem dX7_readsTurns_62 : decode cX7_readsTurns 62 = .ok (.aload_n 0, 1) := by decide +kernel
theorem dX7_readsTurns_63 : decode cX7_readsTurns 63 = .ok (.aload_n 0, 1) := by decide +kernel
theorem dX7_readsTurns_64 : decode cX7_readsTurns 64 = .ok (.getfield 196, 3) := by decide +kernel
theorem dX7_readsTurns_67 : decode cX7_readsTurns 67 = .ok (.invokevirtual 199, 3) := by decide +kernel
theorem dX7_readsTurns_70 : decode cX7_readsTurns 70 = .ok (.bipush 58, 2) := by decide +kernel
theorem dX7_readsTurns_72 : decode cX7_readsTurns 72 = .ok (.if_icmp .eq 5, 3) := by decide +kernel
theorem dX7_readsTurns_75 : decode cX7_readsTurns 75 = .ok (.iconst (-1), 1) := by decide +kernel
theorem dX7_readsTurns_76 : decode cX7_readsTurns 76 = .ok (.ireturn, 1) := by decide +kernel
theorem dX7_readsTurns_77 : decode cX7_readsTurns 77 = .ok (.aload_n 0, 1) := by decide +kernel
theorem dX7_readsTurns_78 : decode cX7_readsTurns 78 = .ok (.dup, 1) := by decide +kernel
theorem dX7_readsTurns_79 : decode cX7_readsTurns 79 = .ok (.getfield 196, 3) := by decide +kernel
theorem dX7_readsTurns_82 : decode cX7_readsTurns 82 = .ok (.iconst 1, 1) := by decide +kernel
theorem dX7_readsTurns_83 : decode cX7_readsTurns 83 = .ok (.iadd, 1) := by decide +kernel
theorem dX7_readsTurns_84 : decode cX7_readsTurns 84 = .ok (.putfield 196, 3) := by decide +kernel
theorem dX7_readsTurns_87 : decode cX7_readsTurns 87 = .ok (.iload_n 1, 1) := by decide +kernel
theorem dX7_readsTurns_88 : decode cX7_readsTurns 88 = .ok (.ireturn, 1) := by decide +kernel
theorem dX7_readsSign_0 : decode cX7_readsSign 0 = .ok (.iconst 0, 1) := by decide +kernel
theorem dX7_readsSign_1 : decode cX7_readsSign 1 = .ok (.istore_n 1, 1) := by decide +kernel
theorem dX7_readsSign_2 : decode cX7_readsSign 2 = .ok (.iload_n 1, 1) := by decide +kernel
theorem dX7_readsSign_3 : decode cX7_readsSign 3 = .ok (.iconst 3, 1) := by decide +kernel
theorem dX7_readsSign_4 : decode cX7_readsSign 4 = .ok (.if_icmp .ge 121, 3) := by decide +kernel
theorem dX7_readsSign_7 : decode cX7_readsSign 7 = .ok (.aload_n 0, 1) := by decide +kernel
theorem dX7_readsSign_8 : decode cX7_readsSign 8 = .ok (.invokevirtual 202, 3) := by decide +kernel
theorem dX7_readsSign_11 : decode cX7_readsSign 11 = .ok (.aload_n 0, 1) := by decide +kernel
theorem dX7_readsSign_12 : decode cX7_readsSign 12 = .ok (.aload_n 0, 1) := by decide +kernel
theorem dX7_readsSign_13 : decode cX7_readsSign 13 = .ok (.getfield 196, 3) := by decide +kernel
theorem dX7_readsSign_16 : decode cX7_readsSign 16 = .ok (.invokevirtual 199, 3) := by decide +kernel
theorem dX7_readsSign_19 : decode cX7_readsSign 19 = .ok (.bipush 45, 2) := by decide +kernel
theorem dX7_readsSign_21 : decode cX7_readsSign 21 = .ok (.if_icmp .ne 7, 3) := by decide +kernel
theorem dX7_readsSign_24 : decode cX7_readsSign 24 = .ok (.iconst 1, 1) := by decide +kernel
theorem dX7_readsSign_25 : decode cX7_readsSign 25 = .ok (.goto 4, 3) := by decide +kernel
theorem dX7_readsSign_28 : decode cX7_readsSign 28 = .ok (.iconst 0, 1) := by decide +kernel
theorem dX7_readsSign_29 : decode cX7_readsSign 29 = .ok (.istore_n 2, 1) := by decide +kernel
theorem dX7_readsSign_30 : decode cX7_readsSign 30 = .ok (.aload_n 0, 1) := by decide +kernel
theorem dX7_readsSign_31 : decode cX7_readsSign 31 = .ok (.dup, 1) := by decide +kernel
theorem dX7_readsSign_32 : decode cX7_readsSign 32 = .ok (.getfield 196, 3) := by decide +kernel
theorem dX7_readsSign_35 : decode cX7_readsSign 35 = .ok (.iload_n 2, 1) := by decide +kernel
theorem dX7_readsSign_36 : decode cX7_readsSign 36 = .ok (.ifCond .eq 7, 3) := by decide +kernel
theorem dX7_readsSign_39 : decode cX7_readsSign 39 = .ok (.iconst 1, 1) := by decide +kernel
theorem dX7_readsSign_40 : decode cX7_readsSign 40 = .ok (.goto 4, 3) := by decide +kernel
theorem dX7_readsSign_43 : decode cX7_readsSign 43 = .ok (.iconst 0, 1) := by decide +kernel
theorem dX7_readsSign_44 : decode cX7_readsSign 44 = .ok (.iadd, 1) := by decide +kernel
theorem dX7_readsSign_45 : decode cX7_readsSign 45 = .ok (.putfield 196, 3) := by decide +kernel
theorem dX7_readsSign_48 : decode cX7_readsSign 48 = .ok (.aload_n 0, 1) := by decide +kernel
theorem dX7_readsSign_49 : decode cX7_readsSign 49 = .ok (.invokevirtual 202, 3) := by decide +kernel
theorem dX7_readsSign_52 : decode cX7_readsSign 52 = .ok (.aload_n 0, 1) := by decide +kernel
theorem dX7_readsSign_53 : decode cX7_readsSign 53 = .ok (.aload_n 0, 1) := by decide +kernel
theorem dX7_readsSign_54 : decode cX7_readsSign 54 = .ok (.getfield 196, 3) := by decide +kernel
theorem dX7_readsSign_57 : decode cX7_readsSign 57 = .ok (.invokevirtual 199, 3) := by decide +kernel
theorem dX7_readsSign_60 : decode cX7_readsSign 60 = .ok (.bipush 48, 2) := by decide +kernel
theorem dX7_readsSign_62 : decode cX7_readsSign 62 = .ok (.bipush 51, 2) := by decide +kernel
theorem dX7_readsSign_64 : decode cX7_readsSign 64 = .ok (.invokestatic 45, 3) := by decide +kernel
theorem dX7_readsSign_67 : decode cX7_readsSign 67 = .ok (.ifCond .ne 5, 3) := by decide +kernel
theorem dX7_readsSign_70 : decode cX7_readsSign 70 = .ok (.iconst 0, 1) := by decide +kernel
theorem dX7_readsSign_71 : decode cX7_readsSign 71 = .ok (.ireturn, 1) := by decide +kernel
theorem dX7_readsSign_72 : decode cX7_readsSign 72 = .ok (.aload_n 0, 1) := by decide +kernel
theorem dX7_readsSign_73 : decode cX7_readsSign 73 = .ok (.getfield 39, 3) := by decide +kernel
theorem dX7_readsSign_76 : decode cX7_readsSign 76 = .ok (.iload_n 1, 1) := by decide +kernel
theorem dX7_readsSign_77 : decode cX7_readsSign 77 = .ok (.iload_n 2, 1) := by decide +kernel
theorem dX7_readsSign_78 : decode cX7_readsSign 78 = .ok (.ifCond .eq 18, 3) := by decide +kernel
theorem dX7_readsSign_81 : decode cX7_readsSign 81 = .ok (.bipush 48, 2) := by decide +kernel
theorem dX7_readsSign_83 : decode cX7_readsSign 83 = .ok (.aload_n 0, 1) := by decide +kernel
theorem dX7_readsSign_84 : decode cX7_readsSign 84 = .ok (.getfield 22, 3) := by decide +kernel
theorem dX7_readsSign_87 : decode cX7_readsSign 87 = .ok (.aload_n 0, 1) := by decide +kernel
theorem dX7_readsSign_88 : decode cX7_readsSign 88 = .ok (.getfield 196, 3) := by decide +kernel
theorem dX7_readsSign_91 : decode cX7_readsSign 91 = .ok (.iaload, 1) := by decide +kernel
theorem dX7_readsSign_92 : decode cX7_readsSign 92 = .ok (.isub, 1) := by decide +kernel
theorem dX7_readsSign_93 : decode cX7_readsSign 93 = .ok (.goto 15, 3) := by decide +kernel
theorem dX7_readsSign_96 : decode cX7_readsSign 96 = .ok (.aload_n 0, 1) := by decide +kernel
theorem dX7_readsSign_97 : decode cX7_readsSign 97 = .ok (.getfield 22, 3) := by decide +kernel
theorem dX7_readsSign_100 : decode cX7_readsSign 100 = .ok (.aload_n 0, 1) := by decide +kernel
theorem dX7_readsSign_101 : decode cX7_readsSign 101 = .ok (.getfield 196, 3) := by decide +kernel
theorem dX7_readsSign_104 : decode cX7_readsSign 104 = .ok (.iaload, 1) := by decide +kernel
theorem dX7_readsSign_105 : decode cX7_readsSign 105 = .ok (.bipush 48, 2) := by decide +kernel
theorem dX7_readsSign_107 : decode cX7_readsSign 107 = .ok (.isub, 1) := by decide +kernel
theorem dX7_readsSign_108 : decode cX7_readsSign 108 = .ok (.iastore, 1) := by decide +kernel
theorem dX7_readsSign_109 : decode cX7_readsSign 109 = .ok (.aload_n 0, 1) := by decide +kernel
theorem dX7_readsSign_110 : decode cX7_readsSign 110 = .ok (.dup, 1) := by decide +kernel
theorem dX7_readsSign_111 : decode cX7_readsSign 111 = .ok (.getfield 196, 3) := by decide +kernel
theorem dX7_readsSign_114 : decode cX7_readsSign 114 = .ok (.iconst 1, 1) := by decide +kernel
theorem dX7_readsSign_115 : decode cX7_readsSign 115 = .ok (.iadd, 1) := by decide +kernel
theorem dX7_readsSign_116 : decode cX7_readsSign 116 = .ok (.putfield 196, 3) := by decide +kernel
theorem dX7_readsSign_119 : decode cX7_readsSign 119 = .ok (.iinc 1 1, 3) := by decide +kernel
theorem dX7_readsSign_122 : decode cX7_readsSign 122 = .ok (.goto (-120), 3) := by decide +kernel
theorem dX7_readsSign_125 : decode cX7_readsSign 125 = .ok (.aload_n 0, 1) := by decide +kernel
theorem dX7_readsSign_126 : decode cX7_readsSign 126 = .ok (.invokevirtual 202, 3) := by decide +kernel
theorem dX7_readsSign_129 : decode cX7_readsSign 129 = .ok (.aload_n 0, 1) := by decide +kernel
theorem dX7_readsSign_130 : decode cX7_readsSign 130 = .ok (.aload_n 0, 1) := by decide +kernel
theorem dX7_readsSign_131 : decode cX7_readsSign 131 = .ok (.getfield 196, 3) := by decide +kernel
theorem dX7_readsSign_134 : decode cX7_readsSign 134 = .ok (.invokevirtual 199, 3) := by decide +kernel
theorem dX7_readsSign_137 : decode cX7_readsSign 137 = .ok (.bipush 47, 2) := by decide +kernel
theorem dX7_readsSign_139 : decode cX7_readsSign 139 = .ok (.if_icmp .ne 30, 3) := by decide +kernel
theorem dX7_readsSign_142 : decode cX7_readsSign 142 = .ok (.aload_n 0, 1) := by decide +kernel
theorem dX7_readsSign_143 : decode cX7_readsSign 143 = .ok (.getfield 39, 3) := by decide +kernel
theorem dX7_readsSign_146 : decode cX7_readsSign 146 = .ok (.iconst 0, 1) := by decide +kernel
theorem dX7_readsSign_147 : decode cX7_readsSign 147 = .ok (.iaload, 1) := by decide +kernel
theorem dX7_readsSign_148 : decode cX7_readsSign 148 = .ok (.ifCond .ne 23, 3) := by decide +kernel
theorem dX7_readsSign_151 : decode cX7_readsSign 151 = .ok (.aload_n 0, 1) := by decide +kernel
theorem dX7_readsSign_152 : decode cX7_readsSign 152 = .ok (.getfield 39, 3) := by decide +kernel
theorem dX7_readsSign_155 : decode cX7_readsSign 155 = .ok (.iconst 1, 1) := by decide +kernel
theorem dX7_readsSign_156 : decode cX7_readsSign 156 = .ok (.iaload, 1) := by decide +kernel
theorem dX7_readsSign_157 : decode cX7_readsSign 157 = .ok (.ifCond .ne 14, 3) := by decide +kernel
theorem dX7_readsSign_160 : decode cX7_readsSign 160 = .ok (.aload_n 0, 1) := by decide +kernel
theorem dX7_readsSign_161 : decode cX7_readsSign 161 = .ok (.getfield 39, 3) := by decide +kernel
theorem dX7_readsSign_164 : decode cX7_readsSign 164 = .ok (.iconst 2, 1) := by decide +kernel
theorem dX7_readsSign_165 : decode cX7_readsSign 165 = .ok (.iaload, 1) := by decide +kernel
theorem dX7_readsSign_166 : decode cX7_readsSign 166 = .ok (.ifCond .ne 5, 3) := by decide +kernel
theorem dX7_readsSign_169 : decode cX7_readsSign 169 = .ok (.iconst 0, 1) := by decide +kernel
theorem dX7_readsSign_170 : decode cX7_readsSign 170 = .ok (.ireturn, 1) := by decide +kernel
theorem dX7_readsSign_171 : decode cX7_readsSign 171 = .ok (.aload_n 0, 1) := by decide +kernel
theorem dX7_readsSign_172 : decode cX7_readsSign 172 = .ok (.dup, 1) := by decide +kernel
theorem dX7_readsSign_173 : decode cX7_readsSign 173 = .ok (.getfield 196, 3) := by decide +kernel
theorem dX7_readsSign_176 : decode cX7_readsSign 176 = .ok (.iconst 1, 1) := by decide +kernel
theorem dX7_readsSign_177 : decode cX7_readsSign 177 = .ok (.iadd, 1) := by decide +kernel
theorem dX7_readsSign_178 : decode cX7_readsSign 178 = .ok (.putfield 196, 3) := by decide +kernel
theorem dX7_readsSign_181 : decode cX7_readsSign 181 = .ok (.iconst 1, 1) := by decide +kernel
theorem dX7_readsSign_182 : decode cX7_readsSign 182 = .ok (.ireturn, 1) := by decide +kernel
theorem dX7_readsOff_0 : decode cX7_readsOff 0 = .ok (.aload_n 0, 1) := by decide +kernel
theorem dX7_readsOff_1 : decode cX7_readsOff 1 = .ok (.invokevirtual 202, 3) := by decide +kernel
theorem dX7_readsOff_4 : decode cX7_readsOff 4 = .ok (.iconst 0, 1) := by decide +kernel
theorem dX7_readsOff_5 : decode cX7_readsOff 5 = .ok (.istore_n 1, 1) := by decide +kernel
theorem dX7_readsOff_6 : decode cX7_readsOff 6 = .ok (.iconst 0, 1) := by decide +kernel
theorem dX7_readsOff_7 : decode cX7_readsOff 7 = .ok (.istore_n 2, 1) := by decide +kernel
theorem dX7_readsOff_8 : decode cX7_readsOff 8 = .ok (.aload_n 0, 1) := by decide +kernel
theorem dX7_readsOff_9 : decode cX7_readsOff 9 = .ok (.aload_n 0, 1) := by decide +kernel
theorem dX7_readsOff_10 : decode cX7_readsOff 10 = .ok (.getfield 196, 3) := by decide +kernel
theorem dX7_readsOff_13 : decode cX7_readsOff 13 = .ok (.iload_n 2, 1) := by decide +kernel
theorem dX7_readsOff_14 : decode cX7_readsOff 14 = .ok (.iadd, 1) := by decide +kernel
theorem dX7_readsOff_15 : decode cX7_readsOff 15 = .ok (.invokevirtual 199, 3) := by decide +kernel
theorem dX7_readsOff_18 : decode cX7_readsOff 18 = .ok (.bipush 48, 2) := by decide +kernel
theorem dX7_readsOff_20 : decode cX7_readsOff 20 = .ok (.bipush 57, 2) := by decide +kernel
theorem dX7_readsOff_22 : decode cX7_readsOff 22 = .ok (.invokestatic 45, 3) := by decide +kernel
theorem dX7_readsOff_25 : decode cX7_readsOff 25 = .ok (.ifCond .eq 38, 3) := by decide +kernel
theorem dX7_readsOff_28 : decode cX7_readsOff 28 = .ok (.iload_n 2, 1) := by decide +kernel
theorem dX7_readsOff_29 : decode cX7_readsOff 29 = .ok (.iconst 3, 1) := by decide +kernel
theorem dX7_readsOff_30 : decode cX7_readsOff 30 = .ok (.if_icmp .ge 25, 3) := by decide +kernel
theorem dX7_readsOff_33 : decode cX7_readsOff 33 = .ok (.bipush 10, 2) := by decide +kernel
theorem dX7_readsOff_35 : decode cX7_readsOff 35 = .ok (.iload_n 1, 1) := by decide +kernel
theorem dX7_readsOff_36 : decode cX7_readsOff 36 = .ok (.imul, 1) := by decide +kernel
theorem dX7_readsOff_37 : decode cX7_readsOff 37 = .ok (.aload_n 0, 1) := by decide +kernel
theorem dX7_readsOff_38 : decode cX7_readsOff 38 = .ok (.getfield 22, 3) := by decide +kernel
theorem dX7_readsOff_41 : decode cX7_readsOff 41 = .ok (.aload_n 0, 1) := by decide +kernel
theorem dX7_readsOff_42 : decode cX7_readsOff 42 = .ok (.getfield 196, 3) := by decide +kernel
theorem dX7_readsOff_45 : decode cX7_readsOff 45 = .ok (.iload_n 2, 1) := by decide +kernel
theorem dX7_readsOff_46 : decode cX7_readsOff 46 = .ok (.iadd, 1) := by decide +kernel
theorem dX7_readsOff_47 : decode cX7_readsOff 47 = .ok (.iaload, 1) := by decide +kernel
theorem dX7_readsOff_48 : decode cX7_readsOff 48 = .ok (.iadd, 1) := by decide +kernel
theorem dX7_readsOff_49 : decode cX7_readsOff 49 = .ok (.bipush 48, 2) := by decide +kernel
theorem dX7_readsOff_51 : decode cX7_readsOff 51 = .ok (.isub, 1) := by decide +kernel
theorem dX7_readsOff_52 : decode cX7_readsOff 52 = .ok (.goto 4, 3) := by decide +kernel
theorem dX7_readsOff_55 : decode cX7_readsOff 55 = .ok (.iload_n 1, 1) := by decide +kernel
theorem dX7_readsOff_56 : decode cX7_readsOff 56 = .ok (.istore_n 1, 1) := by decide +kernel
theorem dX7_readsOff_57 : decode cX7_readsOff 57 = .ok (.iinc 2 1, 3) := by decide +kernel
theorem dX7_readsOff_60 : decode cX7_readsOff 60 = .ok (.goto (-52), 3) := by decide +kernel
theorem dX7_readsOff_63 : decode cX7_readsOff 63 = .ok (.iload_n 2, 1) := by decide +kernel
theorem dX7_readsOff_64 : decode cX7_readsOff 64 = .ok (.ifCond .eq 18, 3) := by decide +kernel
theorem dX7_readsOff_67 : decode cX7_readsOff 67 = .ok (.iload_n 2, 1) := by decide +kernel
theorem dX7_readsOff_68 : decode cX7_readsOff 68 = .ok (.iconst 2, 1) := by decide +kernel
theorem dX7_readsOff_69 : decode cX7_readsOff 69 = .ok (.if_icmp .gt 13, 3) := by decide +kernel
theorem dX7_readsOff_72 : decode cX7_readsOff 72 = .ok (.iload_n 1, 1) := by decide +kernel
theorem dX7_readsOff_73 : decode cX7_readsOff 73 = .ok (.iconst 1, 1) := by decide +kernel
theorem dX7_readsOff_74 : decode cX7_readsOff 74 = .ok (.bipush 60, 2) := by decide +kernel
theorem dX7_readsOff_76 : decode cX7_readsOff 76 = .ok (.invokestatic 45, 3) := by decide +kernel
theorem dX7_readsOff_79 : decode cX7_readsOff 79 = .ok (.ifCond .ne 5, 3) := by decide +kernel
theorem dX7_readsOff_82 : decode cX7_readsOff 82 = .ok (.iconst 0, 1) := by decide +kernel
theorem dX7_readsOff_83 : decode cX7_readsOff 83 = .ok (.ireturn, 1) := by decide +kernel
theorem dX7_readsOff_84 : decode cX7_readsOff 84 = .ok (.aload_n 0, 1) := by decide +kernel
end
section
theorem dX7_readsOff_85 : decode cX7_readsOff 85 = .ok (.dup, 1) := by decide +kernel
theorem dX7_readsOff_86 : decode cX7_readsOff 86 = .ok (.getfield 196, 3) := by decide +kernel
theorem dX7_readsOff_89 : decode cX7_readsOff 89 = .ok (.iload_n 2, 1) := by decide +kernel
theorem dX7_readsOff_90 : decode cX7_readsOff 90 = .ok (.iadd, 1) := by decide +kernel
theorem dX7_readsOff_91 : decode cX7_readsOff 91 = .ok (.putfield 196, 3) := by decide +kernel
theorem dX7_readsOff_94 : decode cX7_readsOff 94 = .ok (.iload_n 1, 1) := by decide +kernel
theorem dX7_readsOff_95 : decode cX7_readsOff 95 = .ok (.ireturn, 1) := by decide +kernel
theorem dX7_sentence_0 : decode cX7_sentence 0 = .ok (.aload_n 0, 1) := by decide +kernel
theorem dX7_sentence_1 : decode cX7_sentence 1 = .ok (.invokevirtual 205, 3) := by decide +kernel
theorem dX7_sentence_4 : decode cX7_sentence 4 = .ok (.istore_n 1, 1) := by decide +kernel
theorem dX7_sentence_5 : decode cX7_sentence 5 = .ok (.iload_n 1, 1) := by decide +kernel
theorem dX7_sentence_6 : decode cX7_sentence 6 = .ok (.ifCond .eq 10, 3) := by decide +kernel
theorem dX7_sentence_9 : decode cX7_sentence 9 = .ok (.aload_n 0, 1) := by decide +kernel
theorem dX7_sentence_10 : decode cX7_sentence 10 = .ok (.invokevirtual 209, 3) := by decide +kernel
theorem dX7_sentence_13 : decode cX7_sentence 13 = .ok (.goto 4, 3) := by decide +kernel
theorem dX7_sentence_16 : decode cX7_sentence 16 = .ok (.iconst 0, 1) := by decide +kernel
theorem dX7_sentence_17 : decode cX7_sentence 17 = .ok (.istore_n 2, 1) := by decide +kernel
theorem dX7_sentence_18 : decode cX7_sentence 18 = .ok (.iload_n 2, 1) := by decide +kernel
theorem dX7_sentence_19 : decode cX7_sentence 19 = .ok (.ifCond .lt 10, 3) := by decide +kernel
theorem dX7_sentence_22 : decode cX7_sentence 22 = .ok (.aload_n 0, 1) := by decide +kernel
theorem dX7_sentence_23 : decode cX7_sentence 23 = .ok (.invokevirtual 212, 3) := by decide +kernel
theorem dX7_sentence_26 : decode cX7_sentence 26 = .ok (.ifCond .ne 5, 3) := by decide +kernel
theorem dX7_sentence_29 : decode cX7_sentence 29 = .ok (.iconst 0, 1) := by decide +kernel
theorem dX7_sentence_30 : decode cX7_sentence 30 = .ok (.ireturn, 1) := by decide +kernel
theorem dX7_sentence_31 : decode cX7_sentence 31 = .ok (.aload_n 0, 1) := by decide +kernel
theorem dX7_sentence_32 : decode cX7_sentence 32 = .ok (.invokevirtual 215, 3) := by decide +kernel
theorem dX7_sentence_35 : decode cX7_sentence 35 = .ok (.istore_n 3, 1) := by decide +kernel
theorem dX7_sentence_36 : decode cX7_sentence 36 = .ok (.iload_n 3, 1) := by decide +kernel
theorem dX7_sentence_37 : decode cX7_sentence 37 = .ok (.ifCond .ne 5, 3) := by decide +kernel
theorem dX7_sentence_40 : decode cX7_sentence 40 = .ok (.iconst 0, 1) := by decide +kernel
theorem dX7_sentence_41 : decode cX7_sentence 41 = .ok (.ireturn, 1) := by decide +kernel
theorem dX7_sentence_42 : decode cX7_sentence 42 = .ok (.aload_n 0, 1) := by decide +kernel
theorem dX7_sentence_43 : decode cX7_sentence 43 = .ok (.invokevirtual 202, 3) := by decide +kernel
theorem dX7_sentence_46 : decode cX7_sentence 46 = .ok (.aload_n 0, 1) := by decide +kernel
theorem dX7_sentence_47 : decode cX7_sentence 47 = .ok (.aload_n 0, 1) := by decide +kernel
theorem dX7_sentence_48 : decode cX7_sentence 48 = .ok (.getfield 196, 3) := by decide +kernel
theorem dX7_sentence_51 : decode cX7_sentence 51 = .ok (.invokevirtual 199, 3) := by decide +kernel
theorem dX7_sentence_54 : decode cX7_sentence 54 = .ok (.bipush 59, 2) := by decide +kernel
theorem dX7_sentence_56 : decode cX7_sentence 56 = .ok (.if_icmp .ne 38, 3) := by decide +kernel
theorem dX7_sentence_59 : decode cX7_sentence 59 = .ok (.aload_n 0, 1) := by decide +kernel
theorem dX7_sentence_60 : decode cX7_sentence 60 = .ok (.getfield 7, 3) := by decide +kernel
theorem dX7_sentence_63 : decode cX7_sentence 63 = .ok (.iconst 0, 1) := by decide +kernel
theorem dX7_sentence_64 : decode cX7_sentence 64 = .ok (.iaload, 1) := by decide +kernel
theorem dX7_sentence_65 : decode cX7_sentence 65 = .ok (.aload_n 0, 1) := by decide +kernel
theorem dX7_sentence_66 : decode cX7_sentence 66 = .ok (.iload_n 2, 1) := by decide +kernel
theorem dX7_sentence_67 : decode cX7_sentence 67 = .ok (.aload_n 0, 1) := by decide +kernel
theorem dX7_sentence_68 : decode cX7_sentence 68 = .ok (.getfield 39, 3) := by decide +kernel
theorem dX7_sentence_71 : decode cX7_sentence 71 = .ok (.iconst 0, 1) := by decide +kernel
theorem dX7_sentence_72 : decode cX7_sentence 72 = .ok (.iaload, 1) := by decide +kernel
theorem dX7_sentence_73 : decode cX7_sentence 73 = .ok (.aload_n 0, 1) := by decide +kernel
theorem dX7_sentence_74 : decode cX7_sentence 74 = .ok (.getfield 39, 3) := by decide +kernel
theorem dX7_sentence_77 : decode cX7_sentence 77 = .ok (.iconst 1, 1) := by decide +kernel
theorem dX7_sentence_78 : decode cX7_sentence 78 = .ok (.iaload, 1) := by decide +kernel
theorem dX7_sentence_79 : decode cX7_sentence 79 = .ok (.aload_n 0, 1) := by decide +kernel
theorem dX7_sentence_80 : decode cX7_sentence 80 = .ok (.getfield 39, 3) := by decide +kernel
theorem dX7_sentence_83 : decode cX7_sentence 83 = .ok (.iconst 2, 1) := by decide +kernel
theorem dX7_sentence_84 : decode cX7_sentence 84 = .ok (.iaload, 1) := by decide +kernel
theorem dX7_sentence_85 : decode cX7_sentence 85 = .ok (.invokevirtual 73, 3) := by decide +kernel
theorem dX7_sentence_88 : decode cX7_sentence 88 = .ok (.iadd, 1) := by decide +kernel
theorem dX7_sentence_89 : decode cX7_sentence 89 = .ok (.bipush 32, 2) := by decide +kernel
theorem dX7_sentence_91 : decode cX7_sentence 91 = .ok (.if_icmp .le 5, 3) := by decide +kernel
theorem dX7_sentence_94 : decode cX7_sentence 94 = .ok (.iconst 0, 1) := by decide +kernel
theorem dX7_sentence_95 : decode cX7_sentence 95 = .ok (.ireturn, 1) := by decide +kernel
theorem dX7_sentence_96 : decode cX7_sentence 96 = .ok (.aload_n 0, 1) := by decide +kernel
theorem dX7_sentence_97 : decode cX7_sentence 97 = .ok (.dup, 1) := by decide +kernel
theorem dX7_sentence_98 : decode cX7_sentence 98 = .ok (.getfield 196, 3) := by decide +kernel
theorem dX7_sentence_101 : decode cX7_sentence 101 = .ok (.iconst 1, 1) := by decide +kernel
theorem dX7_sentence_102 : decode cX7_sentence 102 = .ok (.iadd, 1) := by decide +kernel
theorem dX7_sentence_103 : decode cX7_sentence 103 = .ok (.putfield 196, 3) := by decide +kernel
theorem dX7_sentence_106 : decode cX7_sentence 106 = .ok (.aload_n 0, 1) := by decide +kernel
theorem dX7_sentence_107 : decode cX7_sentence 107 = .ok (.iload_n 3, 1) := by decide +kernel
theorem dX7_sentence_108 : decode cX7_sentence 108 = .ok (.invokevirtual 77, 3) := by decide +kernel
theorem dX7_sentence_111 : decode cX7_sentence 111 = .ok (.iconst 1, 1) := by decide +kernel
theorem dX7_sentence_112 : decode cX7_sentence 112 = .ok (.ireturn, 1) := by decide +kernel
theorem dX7_reads_0 : decode cX7_reads 0 = .ok (.aload_n 0, 1) := by decide +kernel
theorem dX7_reads_1 : decode cX7_reads 1 = .ok (.invokevirtual 60, 3) := by decide +kernel
theorem dX7_reads_4 : decode cX7_reads 4 = .ok (.iconst 0, 1) := by decide +kernel
theorem dX7_reads_5 : decode cX7_reads 5 = .ok (.istore_n 1, 1) := by decide +kernel
theorem dX7_reads_6 : decode cX7_reads 6 = .ok (.aload_n 0, 1) := by decide +kernel
theorem dX7_reads_7 : decode cX7_reads 7 = .ok (.iconst 0, 1) := by decide +kernel
theorem dX7_reads_8 : decode cX7_reads 8 = .ok (.putfield 196, 3) := by decide +kernel
theorem dX7_reads_11 : decode cX7_reads 11 = .ok (.aload_n 0, 1) := by decide +kernel
theorem dX7_reads_12 : decode cX7_reads 12 = .ok (.invokevirtual 202, 3) := by decide +kernel
theorem dX7_reads_15 : decode cX7_reads 15 = .ok (.iconst 1, 1) := by decide +kernel
theorem dX7_reads_16 : decode cX7_reads 16 = .ok (.istore_n 2, 1) := by decide +kernel
theorem dX7_reads_17 : decode cX7_reads 17 = .ok (.iload_n 2, 1) := by decide +kernel
theorem dX7_reads_18 : decode cX7_reads 18 = .ok (.ifCond .eq 33, 3) := by decide +kernel
theorem dX7_reads_21 : decode cX7_reads 21 = .ok (.aload_n 0, 1) := by decide +kernel
theorem dX7_reads_22 : decode cX7_reads 22 = .ok (.getfield 196, 3) := by decide +kernel
theorem dX7_reads_25 : decode cX7_reads 25 = .ok (.aload_n 0, 1) := by decide +kernel
theorem dX7_reads_26 : decode cX7_reads 26 = .ok (.getfield 193, 3) := by decide +kernel
theorem dX7_reads_29 : decode cX7_reads 29 = .ok (.if_icmp .lt 7, 3) := by decide +kernel
theorem dX7_reads_32 : decode cX7_reads 32 = .ok (.iload_n 1, 1) := by decide +kernel
theorem dX7_reads_33 : decode cX7_reads 33 = .ok (.ifCond .ne 18, 3) := by decide +kernel
theorem dX7_reads_36 : decode cX7_reads 36 = .ok (.aload_n 0, 1) := by decide +kernel
theorem dX7_reads_37 : decode cX7_reads 37 = .ok (.invokevirtual 218, 3) := by decide +kernel
theorem dX7_reads_40 : decode cX7_reads 40 = .ok (.istore_n 2, 1) := by decide +kernel
theorem dX7_reads_41 : decode cX7_reads 41 = .ok (.iinc 1 1, 3) := by decide +kernel
theorem dX7_reads_44 : decode cX7_reads 44 = .ok (.aload_n 0, 1) := by decide +kernel
theorem dX7_reads_45 : decode cX7_reads 45 = .ok (.invokevirtual 202, 3) := by decide +kernel
theorem dX7_reads_48 : decode cX7_reads 48 = .ok (.goto (-31), 3) := by decide +kernel
theorem dX7_reads_51 : decode cX7_reads 51 = .ok (.iload_n 2, 1) := by decide +kernel
theorem dX7_reads_52 : decode cX7_reads 52 = .ok (.ifCond .ne 15, 3) := by decide +kernel
theorem dX7_reads_55 : decode cX7_reads 55 = .ok (.aload_n 0, 1) := by decide +kernel
theorem dX7_reads_56 : decode cX7_reads 56 = .ok (.invokevirtual 190, 3) := by decide +kernel
theorem dX7_reads_59 : decode cX7_reads 59 = .ok (.bipush (-10), 2) := by decide +kernel
theorem dX7_reads_61 : decode cX7_reads 61 = .ok (.aload_n 0, 1) := by decide +kernel
theorem dX7_reads_62 : decode cX7_reads 62 = .ok (.getfield 196, 3) := by decide +kernel
theorem dX7_reads_65 : decode cX7_reads 65 = .ok (.isub, 1) := by decide +kernel
theorem dX7_reads_66 : decode cX7_reads 66 = .ok (.ireturn, 1) := by decide +kernel
theorem dX7_reads_67 : decode cX7_reads 67 = .ok (.aload_n 0, 1) := by decide +kernel
theorem dX7_reads_68 : decode cX7_reads 68 = .ok (.invokevirtual 63, 3) := by decide +kernel
theorem dX7_reads_71 : decode cX7_reads 71 = .ok (.aload_n 0, 1) := by decide +kernel
theorem dX7_reads_72 : decode cX7_reads 72 = .ok (.getfield 7, 3) := by decide +kernel
theorem dX7_reads_75 : decode cX7_reads 75 = .ok (.iconst 0, 1) := by decide +kernel
theorem dX7_reads_76 : decode cX7_reads 76 = .ok (.iaload, 1) := by decide +kernel
theorem dX7_reads_77 : decode cX7_reads 77 = .ok (.aload_n 0, 1) := by decide +kernel
theorem dX7_reads_78 : decode cX7_reads 78 = .ok (.getfield 16, 3) := by decide +kernel
theorem dX7_reads_81 : decode cX7_reads 81 = .ok (.iconst 0, 1) := by decide +kernel
theorem dX7_reads_82 : decode cX7_reads 82 = .ok (.iaload, 1) := by decide +kernel
theorem dX7_reads_83 : decode cX7_reads 83 = .ok (.isub, 1) := by decide +kernel
theorem dX7_reads_84 : decode cX7_reads 84 = .ok (.ireturn, 1) := by decide +kernel
theorem dX7_back_0 : decode cX7_back 0 = .ok (.aload_n 0, 1) := by decide +kernel
theorem dX7_back_1 : decode cX7_back 1 = .ok (.getfield 49, 3) := by decide +kernel
theorem dX7_back_4 : decode cX7_back 4 = .ok (.ifCond .ne 10, 3) := by decide +kernel
theorem dX7_back_7 : decode cX7_back 7 = .ok (.aload_n 0, 1) := by decide +kernel
theorem dX7_back_8 : decode cX7_back 8 = .ok (.bipush (-3), 2) := by decide +kernel
theorem dX7_back_10 : decode cX7_back 10 = .ok (.invokevirtual 56, 3) := by decide +kernel
theorem dX7_back_13 : decode cX7_back 13 = .ok (.ireturn, 1) := by decide +kernel
theorem dX7_back_14 : decode cX7_back 14 = .ok (.aload_n 0, 1) := by decide +kernel
theorem dX7_back_15 : decode cX7_back 15 = .ok (.dup, 1) := by decide +kernel
theorem dX7_back_16 : decode cX7_back 16 = .ok (.getfield 49, 3) := by decide +kernel
theorem dX7_back_19 : decode cX7_back 19 = .ok (.iconst 1, 1) := by decide +kernel
theorem dX7_back_20 : decode cX7_back 20 = .ok (.isub, 1) := by decide +kernel
theorem dX7_back_21 : decode cX7_back 21 = .ok (.putfield 49, 3) := by decide +kernel
theorem dX7_back_24 : decode cX7_back 24 = .ok (.iconst 0, 1) := by decide +kernel
theorem dX7_back_25 : decode cX7_back 25 = .ok (.istore_n 1, 1) := by decide +kernel
theorem dX7_back_26 : decode cX7_back 26 = .ok (.iload_n 1, 1) := by decide +kernel
theorem dX7_back_27 : decode cX7_back 27 = .ok (.sipush 129, 3) := by decide +kernel
theorem dX7_back_30 : decode cX7_back 30 = .ok (.if_icmp .ge 30, 3) := by decide +kernel
theorem dX7_back_33 : decode cX7_back 33 = .ok (.aload_n 0, 1) := by decide +kernel
theorem dX7_back_34 : decode cX7_back 34 = .ok (.getfield 7, 3) := by decide +kernel
theorem dX7_back_37 : decode cX7_back 37 = .ok (.iload_n 1, 1) := by decide +kernel
theorem dX7_back_38 : decode cX7_back 38 = .ok (.aload_n 0, 1) := by decide +kernel
theorem dX7_back_39 : decode cX7_back 39 = .ok (.getfield 13, 3) := by decide +kernel
theorem dX7_back_42 : decode cX7_back 42 = .ok (.sipush 129, 3) := by decide +kernel
theorem dX7_back_45 : decode cX7_back 45 = .ok (.aload_n 0, 1) := by decide +kernel
theorem dX7_back_46 : decode cX7_back 46 = .ok (.getfield 49, 3) := by decide +kernel
theorem dX7_back_49 : decode cX7_back 49 = .ok (.imul, 1) := by decide +kernel
theorem dX7_back_50 : decode cX7_back 50 = .ok (.iload_n 1, 1) := by decide +kernel
theorem dX7_back_51 : decode cX7_back 51 = .ok (.iadd, 1) := by decide +kernel
theorem dX7_back_52 : decode cX7_back 52 = .ok (.iaload, 1) := by decide +kernel
theorem dX7_back_53 : decode cX7_back 53 = .ok (.iastore, 1) := by decide +kernel
theorem dX7_back_54 : decode cX7_back 54 = .ok (.iinc 1 1, 3) := by decide +kernel
theorem dX7_back_57 : decode cX7_back 57 = .ok (.goto (-31), 3) := by decide +kernel
theorem dX7_back_60 : decode cX7_back 60 = .ok (.aload_n 0, 1) := by decide +kernel
theorem dX7_back_61 : decode cX7_back 61 = .ok (.getfield 49, 3) := by decide +kernel
theorem dX7_back_64 : decode cX7_back 64 = .ok (.ireturn, 1) := by decide +kernel
theorem dX7_toldOf_0 : decode cX7_toldOf 0 = .ok (.iload_n 1, 1) := by decide +kernel
theorem dX7_toldOf_1 : decode cX7_toldOf 1 = .ok (.iconst 3, 1) := by decide +kernel
theorem dX7_toldOf_2 : decode cX7_toldOf 2 = .ok (.if_icmp .ge 12, 3) := by decide +kernel
theorem dX7_toldOf_5 : decode cX7_toldOf 5 = .ok (.aload_n 0, 1) := by decide +kernel
theorem dX7_toldOf_6 : decode cX7_toldOf 6 = .ok (.getfield 19, 3) := by decide +kernel
theorem dX7_toldOf_9 : decode cX7_toldOf 9 = .ok (.iload_n 1, 1) := by decide +kernel
theorem dX7_toldOf_10 : decode cX7_toldOf 10 = .ok (.iaload, 1) := by decide +kernel
theorem dX7_toldOf_11 : decode cX7_toldOf 11 = .ok (.goto 33, 3) := by decide +kernel
theorem dX7_toldOf_14 : decode cX7_toldOf 14 = .ok (.iload_n 1, 1) := by decide +kernel
theorem dX7_toldOf_15 : decode cX7_toldOf 15 = .ok (.iconst 3, 1) := by decide +kernel
theorem dX7_toldOf_16 : decode cX7_toldOf 16 = .ok (.if_icmp .ne 10, 3) := by decide +kernel
theorem dX7_toldOf_19 : decode cX7_toldOf 19 = .ok (.aload_n 0, 1) := by decide +kernel
theorem dX7_toldOf_20 : decode cX7_toldOf 20 = .ok (.getfield 193, 3) := by decide +kernel
theorem dX7_toldOf_23 : decode cX7_toldOf 23 = .ok (.goto 21, 3) := by decide +kernel
theorem dX7_toldOf_26 : decode cX7_toldOf 26 = .ok (.iload_n 1, 1) := by decide +kernel
theorem dX7_toldOf_27 : decode cX7_toldOf 27 = .ok (.iconst 4, 1) := by decide +kernel
theorem dX7_toldOf_28 : decode cX7_toldOf 28 = .ok (.if_icmp .ne 12, 3) := by decide +kernel
theorem dX7_toldOf_31 : decode cX7_toldOf 31 = .ok (.aload_n 0, 1) := by decide +kernel
theorem dX7_toldOf_32 : decode cX7_toldOf 32 = .ok (.getfield 7, 3) := by decide +kernel
theorem dX7_toldOf_35 : decode cX7_toldOf 35 = .ok (.iconst 0, 1) := by decide +kernel
theorem dX7_toldOf_36 : decode cX7_toldOf 36 = .ok (.iaload, 1) := by decide +kernel
theorem dX7_toldOf_37 : decode cX7_toldOf 37 = .ok (.goto 7, 3) := by decide +kernel
theorem dX7_toldOf_40 : decode cX7_toldOf 40 = .ok (.aload_n 0, 1) := by decide +kernel
theorem dX7_toldOf_41 : decode cX7_toldOf 41 = .ok (.getfield 49, 3) := by decide +kernel
theorem dX7_toldOf_44 : decode cX7_toldOf 44 = .ok (.ireturn, 1) := by decide +kernel
theorem dX7_told_0 : decode cX7_told 0 = .ok (.iload_n 1, 1) := by decide +kernel
theorem dX7_told_1 : decode cX7_told 1 = .ok (.iconst 0, 1) := by decide +kernel
theorem dX7_told_2 : decode cX7_told 2 = .ok (.iconst 5, 1) := by decide +kernel
theorem dX7_told_3 : decode cX7_told 3 = .ok (.invokestatic 45, 3) := by decide +kernel
theorem dX7_told_6 : decode cX7_told 6 = .ok (.ifCond .eq 11, 3) := by decide +kernel
theorem dX7_told_9 : decode cX7_told 9 = .ok (.aload_n 0, 1) := by decide +kernel
theorem dX7_told_10 : decode cX7_told 10 = .ok (.iload_n 1, 1) := by decide +kernel
theorem dX7_told_11 : decode cX7_told 11 = .ok (.invokevirtual 221, 3) := by decide +kernel
theorem dX7_told_14 : decode cX7_told 14 = .ok (.goto 9, 3) := by decide +kernel
theorem dX7_told_17 : decode cX7_told 17 = .ok (.aload_n 0, 1) := by decide +kernel
theorem dX7_told_18 : decode cX7_told 18 = .ok (.bipush (-2), 2) := by decide +kernel
theorem dX7_told_20 : decode cX7_told 20 = .ok (.invokevirtual 56, 3) := by decide +kernel
theorem dX7_told_23 : decode cX7_told 23 = .ok (.ireturn, 1) := by decide +kernel
theorem dX7_digest_0 : decode cX7_digest 0 = .ok (.ldc2_w 224, 3) := by decide +kernel
theorem dX7_digest_3 : decode cX7_digest 3 = .ok (.lstore_n 1, 1) := by decide +kernel
theorem dX7_digest_4 : decode cX7_digest 4 = .ok (.iconst 0, 1) := by decide +kernel
theorem dX7_digest_5 : decode cX7_digest 5 = .ok (.istore_n 3, 1) := by decide +kernel
theorem dX7_digest_6 : decode cX7_digest 6 = .ok (.iload_n 3, 1) := by decide +kernel
theorem dX7_digest_7 : decode cX7_digest 7 = .ok (.bipush 6, 2) := by decide +kernel
theorem dX7_digest_9 : decode cX7_digest 9 = .ok (.if_icmp .ge 22, 3) := by decide +kernel
theorem dX7_digest_12 : decode cX7_digest 12 = .ok (.ldc2_w 109, 3) := by decide +kernel
theorem dX7_digest_15 : decode cX7_digest 15 = .ok (.lload_n 1, 1) := by decide +kernel
theorem dX7_digest_16 : decode cX7_digest 16 = .ok (.lmul, 1) := by decide +kernel
theorem dX7_digest_17 : decode cX7_digest 17 = .ok (.aload_n 0, 1) := by decide +kernel
theorem dX7_digest_18 : decode cX7_digest 18 = .ok (.iload_n 3, 1) := by decide +kernel
theorem dX7_digest_19 : decode cX7_digest 19 = .ok (.invokevirtual 221, 3) := by decide +kernel
theorem dX7_digest_22 : decode cX7_digest 22 = .ok (.i2l, 1) := by decide +kernel
theorem dX7_digest_23 : decode cX7_digest 23 = .ok (.ladd, 1) := by decide +kernel
theorem dX7_digest_24 : decode cX7_digest 24 = .ok (.lstore_n 1, 1) := by decide +kernel
theorem dX7_digest_25 : decode cX7_digest 25 = .ok (.iinc 3 1, 3) := by decide +kernel
theorem dX7_digest_28 : decode cX7_digest 28 = .ok (.goto (-22), 3) := by decide +kernel
theorem dX7_digest_31 : decode cX7_digest 31 = .ok (.aload_n 0, 1) := by decide +kernel
theorem dX7_digest_32 : decode cX7_digest 32 = .ok (.invokevirtual 111, 3) := by decide +kernel
theorem dX7_digest_35 : decode cX7_digest 35 = .ok (.iconst 0, 1) := by decide +kernel
theorem dX7_digest_36 : decode cX7_digest 36 = .ok (.istore_n 3, 1) := by decide +kernel
theorem dX7_digest_37 : decode cX7_digest 37 = .ok (.iload_n 3, 1) := by decide +kernel
theorem dX7_digest_38 : decode cX7_digest 38 = .ok (.aload_n 0, 1) := by decide +kernel
theorem dX7_digest_39 : decode cX7_digest 39 = .ok (.getfield 7, 3) := by decide +kernel
theorem dX7_digest_42 : decode cX7_digest 42 = .ok (.iconst 0, 1) := by decide +kernel
theorem dX7_digest_43 : decode cX7_digest 43 = .ok (.iaload, 1) := by decide +kernel
theorem dX7_digest_44 : decode cX7_digest 44 = .ok (.if_icmp .ge 61, 3) := by decide +kernel
theorem dX7_digest_47 : decode cX7_digest 47 = .ok (.iconst 0, 1) := by decide +kernel
theorem dX7_digest_48 : decode cX7_digest 48 = .ok (.istore 4, 2) := by decide +kernel
theorem dX7_digest_50 : decode cX7_digest 50 = .ok (.iload 4, 2) := by decide +kernel
theorem dX7_digest_52 : decode cX7_digest 52 = .ok (.iconst 4, 1) := by decide +kernel
theorem dX7_digest_53 : decode cX7_digest 53 = .ok (.if_icmp .ge 24, 3) := by decide +kernel
theorem dX7_digest_56 : decode cX7_digest 56 = .ok (.ldc2_w 109, 3) := by decide +kernel
theorem dX7_digest_59 : decode cX7_digest 59 = .ok (.lload_n 1, 1) := by decide +kernel
theorem dX7_digest_60 : decode cX7_digest 60 = .ok (.lmul, 1) := by decide +kernel
theorem dX7_digest_61 : decode cX7_digest 61 = .ok (.aload_n 0, 1) := by decide +kernel
theorem dX7_digest_62 : decode cX7_digest 62 = .ok (.iload_n 3, 1) := by decide +kernel
theorem dX7_digest_63 : decode cX7_digest 63 = .ok (.iload 4, 2) := by decide +kernel
theorem dX7_digest_65 : decode cX7_digest 65 = .ok (.invokevirtual 85, 3) := by decide +kernel
theorem dX7_digest_68 : decode cX7_digest 68 = .ok (.i2l, 1) := by decide +kernel
theorem dX7_digest_69 : decode cX7_digest 69 = .ok (.ladd, 1) := by decide +kernel
theorem dX7_digest_70 : decode cX7_digest 70 = .ok (.lstore_n 1, 1) := by decide +kernel
theorem dX7_digest_71 : decode cX7_digest 71 = .ok (.iinc 4 1, 3) := by decide +kernel
theorem dX7_digest_74 : decode cX7_digest 74 = .ok (.goto (-24), 3) := by decide +kernel
theorem dX7_digest_77 : decode cX7_digest 77 = .ok (.ldc2_w 109, 3) := by decide +kernel
theorem dX7_digest_80 : decode cX7_digest 80 = .ok (.lload_n 1, 1) := by decide +kernel
theorem dX7_digest_81 : decode cX7_digest 81 = .ok (.lmul, 1) := by decide +kernel
theorem dX7_digest_82 : decode cX7_digest 82 = .ok (.aload_n 0, 1) := by decide +kernel
theorem dX7_digest_83 : decode cX7_digest 83 = .ok (.getfield 32, 3) := by decide +kernel
theorem dX7_digest_86 : decode cX7_digest 86 = .ok (.iload_n 3, 1) := by decide +kernel
theorem dX7_digest_87 : decode cX7_digest 87 = .ok (.baload, 1) := by decide +kernel
theorem dX7_digest_88 : decode cX7_digest 88 = .ok (.ifCond .eq 7, 3) := by decide +kernel
theorem dX7_digest_91 : decode cX7_digest 91 = .ok (.iconst 1, 1) := by decide +kernel
theorem dX7_digest_92 : decode cX7_digest 92 = .ok (.goto 4, 3) := by decide +kernel
theorem dX7_digest_95 : decode cX7_digest 95 = .ok (.iconst 0, 1) := by decide +kernel
theorem dX7_digest_96 : decode cX7_digest 96 = .ok (.i2l, 1) := by decide +kernel
theorem dX7_digest_97 : decode cX7_digest 97 = .ok (.ladd, 1) := by decide +kernel
theorem dX7_digest_98 : decode cX7_digest 98 = .ok (.lstore_n 1, 1) := by decide +kernel
theorem dX7_digest_99 : decode cX7_digest 99 = .ok (.iinc 3 1, 3) := by decide +kernel
theorem dX7_digest_102 : decode cX7_digest 102 = .ok (.goto (-65), 3) := by decide +kernel
theorem dX7_digest_105 : decode cX7_digest 105 = .ok (.ldc2_w 109, 3) := by decide +kernel
theorem dX7_digest_108 : decode cX7_digest 108 = .ok (.lload_n 1, 1) := by decide +kernel
theorem dX7_digest_109 : decode cX7_digest 109 = .ok (.lmul, 1) := by decide +kernel
theorem dX7_digest_110 : decode cX7_digest 110 = .ok (.aload_n 0, 1) := by decide +kernel
theorem dX7_digest_111 : decode cX7_digest 111 = .ok (.invokevirtual 159, 3) := by decide +kernel
theorem dX7_digest_114 : decode cX7_digest 114 = .ok (.i2l, 1) := by decide +kernel
theorem dX7_digest_115 : decode cX7_digest 115 = .ok (.ladd, 1) := by decide +kernel
theorem dX7_digest_116 : decode cX7_digest 116 = .ok (.lstore_n 1, 1) := by decide +kernel
theorem dX7_digest_117 : decode cX7_digest 117 = .ok (.ldc2_w 109, 3) := by decide +kernel
theorem dX7_digest_120 : decode cX7_digest 120 = .ok (.lload_n 1, 1) := by decide +kernel
theorem dX7_digest_121 : decode cX7_digest 121 = .ok (.lmul, 1) := by decide +kernel
theorem dX7_digest_122 : decode cX7_digest 122 = .ok (.aload_n 0, 1) := by decide +kernel
theorem dX7_digest_123 : decode cX7_digest 123 = .ok (.getfield 114, 3) := by decide +kernel
theorem dX7_digest_126 : decode cX7_digest 126 = .ok (.i2l, 1) := by decide +kernel
theorem dX7_digest_127 : decode cX7_digest 127 = .ok (.ladd, 1) := by decide +kernel
theorem dX7_digest_128 : decode cX7_digest 128 = .ok (.lstore_n 1, 1) := by decide +kernel
theorem dX7_digest_129 : decode cX7_digest 129 = .ok (.ldc2_w 109, 3) := by decide +kernel
theorem dX7_digest_132 : decode cX7_digest 132 = .ok (.lload_n 1, 1) := by decide +kernel
theorem dX7_digest_133 : decode cX7_digest 133 = .ok (.lmul, 1) := by decide +kernel
theorem dX7_digest_134 : decode cX7_digest 134 = .ok (.aload_n 0, 1) := by decide +kernel
theorem dX7_digest_135 : decode cX7_digest 135 = .ok (.invokevirtual 163, 3) := by decide +kernel
theorem dX7_digest_138 : decode cX7_digest 138 = .ok (.i2l, 1) := by decide +kernel
theorem dX7_digest_139 : decode cX7_digest 139 = .ok (.ladd, 1) := by decide +kernel
theorem dX7_digest_140 : decode cX7_digest 140 = .ok (.lstore_n 1, 1) := by decide +kernel
theorem dX7_digest_141 : decode cX7_digest 141 = .ok (.ldc2_w 109, 3) := by decide +kernel
theorem dX7_digest_144 : decode cX7_digest 144 = .ok (.lload_n 1, 1) := by decide +kernel
theorem dX7_digest_145 : decode cX7_digest 145 = .ok (.lmul, 1) := by decide +kernel
theorem dX7_digest_146 : decode cX7_digest 146 = .ok (.aload_n 0, 1) := by decide +kernel
theorem dX7_digest_147 : decode cX7_digest 147 = .ok (.getfield 172, 3) := by decide +kernel
theorem dX7_digest_150 : decode cX7_digest 150 = .ok (.ladd, 1) := by decide +kernel
theorem dX7_digest_151 : decode cX7_digest 151 = .ok (.lstore_n 1, 1) := by decide +kernel
theorem dX7_digest_152 : decode cX7_digest 152 = .ok (.ldc2_w 109, 3) := by decide +kernel
theorem dX7_digest_155 : decode cX7_digest 155 = .ok (.lload_n 1, 1) := by decide +kernel
theorem dX7_digest_156 : decode cX7_digest 156 = .ok (.lmul, 1) := by decide +kernel
theorem dX7_digest_157 : decode cX7_digest 157 = .ok (.aload_n 0, 1) := by decide +kernel
theorem dX7_digest_158 : decode cX7_digest 158 = .ok (.getfield 25, 3) := by decide +kernel
theorem dX7_digest_161 : decode cX7_digest 161 = .ok (.ladd, 1) := by decide +kernel
theorem dX7_digest_162 : decode cX7_digest 162 = .ok (.lstore_n 1, 1) := by decide +kernel
theorem dX7_digest_163 : decode cX7_digest 163 = .ok (.iconst 0, 1) := by decide +kernel
theorem dX7_digest_164 : decode cX7_digest 164 = .ok (.istore_n 3, 1) := by decide +kernel
theorem dX7_digest_165 : decode cX7_digest 165 = .ok (.iload_n 3, 1) := by decide +kernel
theorem dX7_digest_166 : decode cX7_digest 166 = .ok (.aload_n 0, 1) := by decide +kernel
theorem dX7_digest_167 : decode cX7_digest 167 = .ok (.getfield 114, 3) := by decide +kernel
theorem dX7_digest_170 : decode cX7_digest 170 = .ok (.if_icmp .ge 93, 3) := by decide +kernel
theorem dX7_digest_173 : decode cX7_digest 173 = .ok (.iconst 0, 1) := by decide +kernel
theorem dX7_digest_174 : decode cX7_digest 174 = .ok (.istore 4, 2) := by decide +kernel
theorem dX7_digest_176 : decode cX7_digest 176 = .ok (.iload 4, 2) := by decide +kernel
theorem dX7_digest_178 : decode cX7_digest 178 = .ok (.iconst 3, 1) := by decide +kernel
theorem dX7_digest_179 : decode cX7_digest 179 = .ok (.if_icmp .ge 78, 3) := by decide +kernel
theorem dX7_digest_182 : decode cX7_digest 182 = .ok (.aload_n 0, 1) := by decide +kernel
theorem dX7_digest_183 : decode cX7_digest 183 = .ok (.getfield 29, 3) := by decide +kernel
theorem dX7_digest_186 : decode cX7_digest 186 = .ok (.iconst 5, 1) := by decide +kernel
theorem dX7_digest_187 : decode cX7_digest 187 = .ok (.iload_n 3, 1) := by decide +kernel
theorem dX7_digest_188 : decode cX7_digest 188 = .ok (.imul, 1) := by decide +kernel
theorem dX7_digest_189 : decode cX7_digest 189 = .ok (.iload 4, 2) := by decide +kernel
theorem dX7_digest_191 : decode cX7_digest 191 = .ok (.iadd, 1) := by decide +kernel
theorem dX7_digest_192 : decode cX7_digest 192 = .ok (.iaload, 1) := by decide +kernel
theorem dX7_digest_193 : decode cX7_digest 193 = .ok (.aload_n 0, 1) := by decide +kernel
theorem dX7_digest_194 : decode cX7_digest 194 = .ok (.getfield 29, 3) := by decide +kernel
theorem dX7_digest_197 : decode cX7_digest 197 = .ok (.iconst 5, 1) := by decide +kernel
theorem dX7_digest_198 : decode cX7_digest 198 = .ok (.iload_n 3, 1) := by decide +kernel
theorem dX7_digest_199 : decode cX7_digest 199 = .ok (.imul, 1) := by decide +kernel
theorem dX7_digest_200 : decode cX7_digest 200 = .ok (.iconst 3, 1) := by decide +kernel
theorem dX7_digest_201 : decode cX7_digest 201 = .ok (.iadd, 1) := by decide +kernel
theorem dX7_digest_202 : decode cX7_digest 202 = .ok (.iaload, 1) := by decide +kernel
theorem dX7_digest_203 : decode cX7_digest 203 = .ok (.invokestatic 120, 3) := by decide +kernel
theorem dX7_digest_206 : decode cX7_digest 206 = .ok (.istore 5, 2) := by decide +kernel
theorem dX7_digest_208 : decode cX7_digest 208 = .ok (.ldc2_w 109, 3) := by decide +kernel
theorem dX7_digest_211 : decode cX7_digest 211 = .ok (.lload_n 1, 1) := by decide +kernel
theorem dX7_digest_212 : decode cX7_digest 212 = .ok (.lmul, 1) := by decide +kernel
theorem dX7_digest_213 : decode cX7_digest 213 = .ok (.aload_n 0, 1) := by decide +kernel
theorem dX7_digest_214 : decode cX7_digest 214 = .ok (.getfield 29, 3) := by decide +kernel
theorem dX7_digest_217 : decode cX7_digest 217 = .ok (.iconst 5, 1) := by decide +kernel
theorem dX7_digest_218 : decode cX7_digest 218 = .ok (.iload_n 3, 1) := by decide +kernel
theorem dX7_digest_219 : decode cX7_digest 219 = .ok (.imul, 1) := by decide +kernel
theorem dX7_digest_220 : decode cX7_digest 220 = .ok (.iload 4, 2) := by decide +kernel
theorem dX7_digest_222 : decode cX7_digest 222 = .ok (.iadd, 1) := by decide +kernel
theorem dX7_digest_223 : decode cX7_digest 223 = .ok (.iaload, 1) := by decide +kernel
theorem dX7_digest_224 : decode cX7_digest 224 = .ok (.iload 5, 2) := by decide +kernel
theorem dX7_digest_226 : decode cX7_digest 226 = .ok (.idiv, 1) := by decide +kernel
theorem dX7_digest_227 : decode cX7_digest 227 = .ok (.i2l, 1) := by decide +kernel
theorem dX7_digest_228 : decode cX7_digest 228 = .ok (.ladd, 1) := by decide +kernel
theorem dX7_digest_229 : decode cX7_digest 229 = .ok (.lstore_n 1, 1) := by decide +kernel
theorem dX7_digest_230 : decode cX7_digest 230 = .ok (.ldc2_w 109, 3) := by decide +kernel
theorem dX7_digest_233 : decode cX7_digest 233 = .ok (.lload_n 1, 1) := by decide +kernel
theorem dX7_digest_234 : decode cX7_digest 234 = .ok (.lmul, 1) := by decide +kernel
theorem dX7_digest_235 : decode cX7_digest 235 = .ok (.aload_n 0, 1) := by decide +kernel
theorem dX7_digest_236 : decode cX7_digest 236 = .ok (.getfield 29, 3) := by decide +kernel
theorem dX7_digest_239 : decode cX7_digest 239 = .ok (.iconst 5, 1) := by decide +kernel
theorem dX7_digest_240 : decode cX7_digest 240 = .ok (.iload_n 3, 1) := by decide +kernel
theorem dX7_digest_241 : decode cX7_digest 241 = .ok (.imul, 1) := by decide +kernel
theorem dX7_digest_242 : decode cX7_digest 242 = .ok (.iconst 3, 1) := by decide +kernel
theorem dX7_digest_243 : decode cX7_digest 243 = .ok (.iadd, 1) := by decide +kernel
theorem dX7_digest_244 : decode cX7_digest 244 = .ok (.iaload, 1) := by decide +kernel
theorem dX7_digest_245 : decode cX7_digest 245 = .ok (.iload 5, 2) := by decide +kernel
theorem dX7_digest_247 : decode cX7_digest 247 = .ok (.idiv, 1) := by decide +kernel
theorem dX7_digest_248 : decode cX7_digest 248 = .ok (.i2l, 1) := by decide +kernel
theorem dX7_digest_249 : decode cX7_digest 249 = .ok (.ladd, 1) := by decide +kernel
theorem dX7_digest_250 : decode cX7_digest 250 = .ok (.lstore_n 1, 1) := by decide +kernel
theorem dX7_digest_251 : decode cX7_digest 251 = .ok (.iinc 4 1, 3) := by decide +kernel
theorem dX7_digest_254 : decode cX7_digest 254 = .ok (.goto (-78), 3) := by decide +kernel
theorem dX7_digest_257 : decode cX7_digest 257 = .ok (.iinc 3 1, 3) := by decide +kernel
theorem dX7_digest_260 : decode cX7_digest 260 = .ok (.goto (-95), 3) := by decide +kernel
theorem dX7_digest_263 : decode cX7_digest 263 = .ok (.lload_n 1, 1) := by decide +kernel
theorem dX7_digest_264 : decode cX7_digest 264 = .ok (.lreturn, 1) := by decide +kernel
theorem dJ6_bitCount_0f7a4_0 : decode cJ6_bitCount_0f7a4 0 = .ok (.iload_n 0, 1) := by decide +kernel
theorem dJ6_bitCount_0f7a4_1 : decode cJ6_bitCount_0f7a4 1 = .ok (.iload_n 0, 1) := by decide +kernel
theorem dJ6_bitCount_0f7a4_2 : decode cJ6_bitCount_0f7a4 2 = .ok (.iconst 1, 1) := by decide +kernel
theorem dJ6_bitCount_0f7a4_3 : decode cJ6_bitCount_0f7a4 3 = .ok (.iushr, 1) := by decide +kernel
theorem dJ6_bitCount_0f7a4_4 : decode cJ6_bitCount_0f7a4 4 = .ok (.ldc_w 265, 3) := by decide +kernel
theorem dJ6_bitCount_0f7a4_7 : decode cJ6_bitCount_0f7a4 7 = .ok (.iand, 1) := by decide +kernel
theorem dJ6_bitCount_0f7a4_8 : decode cJ6_bitCount_0f7a4 8 = .ok (.isub, 1) := by decide +kernel
theorem dJ6_bitCount_0f7a4_9 : decode cJ6_bitCount_0f7a4 9 = .ok (.istore_n 0, 1) := by decide +kernel
theorem dJ6_bitCount_0f7a4_10 : decode cJ6_bitCount_0f7a4 10 = .ok (.iload_n 0, 1) := by decide +kernel
theorem dJ6_bitCount_0f7a4_11 : decode cJ6_bitCount_0f7a4 11 = .ok (.ldc_w 266, 3) := by decide +kernel
theorem dJ6_bitCount_0f7a4_14 : decode cJ6_bitCount_0f7a4 14 = .ok (.iand, 1) := by decide +kernel
theorem dJ6_bitCount_0f7a4_15 : decode cJ6_bitCount_0f7a4 15 = .ok (.iload_n 0, 1) := by decide +kernel
theorem dJ6_bitCount_0f7a4_16 : decode cJ6_bitCount_0f7a4 16 = .ok (.iconst 2, 1) := by decide +kernel
theorem dJ6_bitCount_0f7a4_17 : decode cJ6_bitCount_0f7a4 17 = .ok (.iushr, 1) := by decide +kernel
theorem dJ6_bitCount_0f7a4_18 : decode cJ6_bitCount_0f7a4 18 = .ok (.ldc_w 266, 3) := by decide +kernel
theorem dJ6_bitCount_0f7a4_21 : decode cJ6_bitCount_0f7a4 21 = .ok (.iand, 1) := by decide +kernel
theorem dJ6_bitCount_0f7a4_22 : decode cJ6_bitCount_0f7a4 22 = .ok (.iadd, 1) := by decide +kernel
theorem dJ6_bitCount_0f7a4_23 : decode cJ6_bitCount_0f7a4 23 = .ok (.istore_n 0, 1) := by decide +kernel
theorem dJ6_bitCount_0f7a4_24 : decode cJ6_bitCount_0f7a4 24 = .ok (.iload_n 0, 1) := by decide +kernel
theorem dJ6_bitCount_0f7a4_25 : decode cJ6_bitCount_0f7a4 25 = .ok (.iload_n 0, 1) := by decide +kernel
theorem dJ6_bitCount_0f7a4_26 : decode cJ6_bitCount_0f7a4 26 = .ok (.iconst 4, 1) := by decide +kernel
theorem dJ6_bitCount_0f7a4_27 : decode cJ6_bitCount_0f7a4 27 = .ok (.iushr, 1) := by decide +kernel
theorem dJ6_bitCount_0f7a4_28 : decode cJ6_bitCount_0f7a4 28 = .ok (.iadd, 1) := by decide +kernel
theorem dJ6_bitCount_0f7a4_29 : decode cJ6_bitCount_0f7a4 29 = .ok (.ldc_w 267, 3) := by decide +kernel
theorem dJ6_bitCount_0f7a4_32 : decode cJ6_bitCount_0f7a4 32 = .ok (.iand, 1) := by decide +kernel
theorem dJ6_bitCount_0f7a4_33 : decode cJ6_bitCount_0f7a4 33 = .ok (.istore_n 0, 1) := by decide +kernel
theorem dJ6_bitCount_0f7a4_34 : decode cJ6_bitCount_0f7a4 34 = .ok (.iload_n 0, 1) := by decide +kernel
theorem dJ6_bitCount_0f7a4_35 : decode cJ6_bitCount_0f7a4 35 = .ok (.iload_n 0, 1) := by decide +kernel
theorem dJ6_bitCount_0f7a4_36 : decode cJ6_bitCount_0f7a4 36 = .ok (.bipush 8, 2) := by decide +kernel
theorem dJ6_bitCount_0f7a4_38 : decode cJ6_bitCount_0f7a4 38 = .ok (.iushr, 1) := by decide +kernel
theorem dJ6_bitCount_0f7a4_39 : decode cJ6_bitCount_0f7a4 39 = .ok (.iadd, 1) := by decide +kernel
theorem dJ6_bitCount_0f7a4_40 : decode cJ6_bitCount_0f7a4 40 = .ok (.istore_n 0, 1) := by decide +kernel
theorem dJ6_bitCount_0f7a4_41 : decode cJ6_bitCount_0f7a4 41 = .ok (.iload_n 0, 1) := by decide +kernel
theorem dJ6_bitCount_0f7a4_42 : decode cJ6_bitCount_0f7a4 42 = .ok (.iload_n 0, 1) := by decide +kernel
theorem dJ6_bitCount_0f7a4_43 : decode cJ6_bitCount_0f7a4 43 = .ok (.bipush 16, 2) := by decide +kernel
theorem dJ6_bitCount_0f7a4_45 : decode cJ6_bitCount_0f7a4 45 = .ok (.iushr, 1) := by decide +kernel
theorem dJ6_bitCount_0f7a4_46 : decode cJ6_bitCount_0f7a4 46 = .ok (.iadd, 1) := by decide +kernel
theorem dJ6_bitCount_0f7a4_47 : decode cJ6_bitCount_0f7a4 47 = .ok (.istore_n 0, 1) := by decide +kernel
theorem dJ6_bitCount_0f7a4_48 : decode cJ6_bitCount_0f7a4 48 = .ok (.iload_n 0, 1) := by decide +kernel
theorem dJ6_bitCount_0f7a4_49 : decode cJ6_bitCount_0f7a4 49 = .ok (.bipush 63, 2) := by decide +kernel
theorem dJ6_bitCount_0f7a4_51 : decode cJ6_bitCount_0f7a4 51 = .ok (.iand, 1) := by decide +kernel
theorem dJ6_bitCount_0f7a4_52 : decode cJ6_bitCount_0f7a4 52 = .ok (.ireturn, 1) := by decide +kernel
theorem dJ9_abs_0f7a4_0 : decode cJ9_abs_0f7a4 0 = .ok (.iload_n 0, 1) := by decide +kernel
theorem dJ9_abs_0f7a4_1 : decode cJ9_abs_0f7a4 1 = .ok (.ifCond .ge 8, 3) := by decide +kernel
theorem dJ9_abs_0f7a4_4 : decode cJ9_abs_0f7a4 4 = .ok (.iload_n 0, 1) := by decide +kernel
theorem dJ9_abs_0f7a4_5 : decode cJ9_abs_0f7a4 5 = .ok (.ineg, 1) := by decide +kernel
theorem dJ9_abs_0f7a4_6 : decode cJ9_abs_0f7a4 6 = .ok (.goto 4, 3) := by decide +kernel
theorem dJ9_abs_0f7a4_9 : decode cJ9_abs_0f7a4 9 = .ok (.iload_n 0, 1) := by decide +kernel
theorem dJ9_abs_0f7a4_10 : decode cJ9_abs_0f7a4 10 = .ok (.ireturn, 1) := by decide +kernel
theorem dJ9_max_7cf53_0 : decode cJ9_max_7cf53 0 = .ok (.iload_n 0, 1) := by decide +kernel
theorem dJ9_max_7cf53_1 : decode cJ9_max_7cf53 1 = .ok (.iload_n 1, 1) := by decide +kernel
theorem dJ9_max_7cf53_2 : decode cJ9_max_7cf53 2 = .ok (.if_icmp .lt 7, 3) := by decide +kernel
theorem dJ9_max_7cf53_5 : decode cJ9_max_7cf53 5 = .ok (.iload_n 0, 1) := by decide +kernel
theorem dJ9_max_7cf53_6 : decode cJ9_max_7cf53 6 = .ok (.goto 4, 3) := by decide +kernel
theorem dJ9_max_7cf53_9 : decode cJ9_max_7cf53 9 = .ok (.iload_n 1, 1) := by decide +kernel
theorem dJ9_max_7cf53_10 : decode cJ9_max_7cf53 10 = .ok (.ireturn, 1) := by decide +kernel
theorem dJ9_min_7cf53_0 : decode cJ9_min_7cf53 0 = .ok (.iload_n 0, 1) := by decide +kernel
theorem dJ9_min_7cf53_1 : decode cJ9_min_7cf53 1 = .ok (.iload_n 1, 1) := by decide +kernel
theorem dJ9_min_7cf53_2 : decode cJ9_min_7cf53 2 = .ok (.if_icmp .gt 7, 3) := by decide +kernel
theorem dJ9_min_7cf53_5 : decode cJ9_min_7cf53 5 = .ok (.iload_n 0, 1) := by decide +kernel
theorem dJ9_min_7cf53_6 : decode cJ9_min_7cf53 6 = .ok (.goto 4, 3) := by decide +kernel
theorem dJ9_min_7cf53_9 : decode cJ9_min_7cf53 9 = .ok (.iload_n 1, 1) := by decide +kernel
theorem dJ9_min_7cf53_10 : decode cJ9_min_7cf53 10 = .ok (.ireturn, 1) := by decide +kernel
theorem dJ7_fill_53178_0 : decode cJ7_fill_53178 0 = .ok (.iconst 0, 1) := by decide +kernel
theorem dJ7_fill_53178_1 : decode cJ7_fill_53178 1 = .ok (.istore_n 2, 1) := by decide +kernel
theorem dJ7_fill_53178_2 : decode cJ7_fill_53178 2 = .ok (.aload_n 0, 1) := by decide +kernel
theorem dJ7_fill_53178_3 : decode cJ7_fill_53178 3 = .ok (.arraylength, 1) := by decide +kernel
theorem dJ7_fill_53178_4 : decode cJ7_fill_53178 4 = .ok (.istore_n 3, 1) := by decide +kernel
theorem dJ7_fill_53178_5 : decode cJ7_fill_53178 5 = .ok (.iload_n 2, 1) := by decide +kernel
theorem dJ7_fill_53178_6 : decode cJ7_fill_53178 6 = .ok (.iload_n 3, 1) := by decide +kernel
theorem dJ7_fill_53178_7 : decode cJ7_fill_53178 7 = .ok (.if_icmp .ge 13, 3) := by decide +kernel
theorem dJ7_fill_53178_10 : decode cJ7_fill_53178 10 = .ok (.aload_n 0, 1) := by decide +kernel
theorem dJ7_fill_53178_11 : decode cJ7_fill_53178 11 = .ok (.iload_n 2, 1) := by decide +kernel
theorem dJ7_fill_53178_12 : decode cJ7_fill_53178 12 = .ok (.iload_n 1, 1) := by decide +kernel
theorem dJ7_fill_53178_13 : decode cJ7_fill_53178 13 = .ok (.iastore, 1) := by decide +kernel
theorem dJ7_fill_53178_14 : decode cJ7_fill_53178 14 = .ok (.iinc 2 1, 3) := by decide +kernel
theorem dJ7_fill_53178_17 : decode cJ7_fill_53178 17 = .ok (.goto (-12), 3) := by decide +kernel
theorem dJ7_fill_53178_20 : decode cJ7_fill_53178 20 = .ok (.return_, 1) := by decide +kernel
theorem dJ7_fill_031fb_0 : decode cJ7_fill_031fb 0 = .ok (.iconst 0, 1) := by decide +kernel
theorem dJ7_fill_031fb_1 : decode cJ7_fill_031fb 1 = .ok (.istore_n 2, 1) := by decide +kernel
theorem dJ7_fill_031fb_2 : decode cJ7_fill_031fb 2 = .ok (.aload_n 0, 1) := by decide +kernel
theorem dJ7_fill_031fb_3 : decode cJ7_fill_031fb 3 = .ok (.arraylength, 1) := by decide +kernel
theorem dJ7_fill_031fb_4 : decode cJ7_fill_031fb 4 = .ok (.istore_n 3, 1) := by decide +kernel
theorem dJ7_fill_031fb_5 : decode cJ7_fill_031fb 5 = .ok (.iload_n 2, 1) := by decide +kernel
theorem dJ7_fill_031fb_6 : decode cJ7_fill_031fb 6 = .ok (.iload_n 3, 1) := by decide +kernel
theorem dJ7_fill_031fb_7 : decode cJ7_fill_031fb 7 = .ok (.if_icmp .ge 13, 3) := by decide +kernel
theorem dJ7_fill_031fb_10 : decode cJ7_fill_031fb 10 = .ok (.aload_n 0, 1) := by decide +kernel
theorem dJ7_fill_031fb_11 : decode cJ7_fill_031fb 11 = .ok (.iload_n 2, 1) := by decide +kernel
theorem dJ7_fill_031fb_12 : decode cJ7_fill_031fb 12 = .ok (.iload_n 1, 1) := by decide +kernel
theorem dJ7_fill_031fb_13 : decode cJ7_fill_031fb 13 = .ok (.bastore, 1) := by decide +kernel
theorem dJ7_fill_031fb_14 : decode cJ7_fill_031fb 14 = .ok (.iinc 2 1, 3) := by decide +kernel
theorem dJ7_fill_031fb_17 : decode cJ7_fill_031fb 17 = .ok (.goto (-12), 3) := by decide +kernel
theorem dJ7_fill_031fb_20 : decode cJ7_fill_031fb 20 = .ok (.return_, 1) := by decide +kernel
theorem dL_law_0 : decode cL_law 0 = .ok (.new 7, 3) := by decide +kernel
theorem dL_law_3 : decode cL_law 3 = .ok (.dup, 1) := by decide +kernel
theorem dL_law_4 : decode cL_law 4 = .ok (.invokespecial 9, 3) := by decide +kernel
theorem dL_law_7 : decode cL_law 7 = .ok (.astore_n 1, 1) := by decide +kernel
theorem dL_law_8 : decode cL_law 8 = .ok (.new 10, 3) := by decide +kernel
theorem dL_law_11 : decode cL_law 11 = .ok (.dup, 1) := by decide +kernel
theorem dL_law_12 : decode cL_law 12 = .ok (.invokespecial 12, 3) := by decide +kernel
theorem dL_law_15 : decode cL_law 15 = .ok (.astore_n 2, 1) := by decide +kernel
theorem dL_law_16 : decode cL_law 16 = .ok (.iconst 0, 1) := by decide +kernel
theorem dL_law_17 : decode cL_law 17 = .ok (.istore_n 3, 1) := by decide +kernel
theorem dL_law_18 : decode cL_law 18 = .ok (.iload_n 3, 1) := by decide +kernel
theorem dL_law_19 : decode cL_law 19 = .ok (.aload_n 0, 1) := by decide +kernel
theorem dL_law_20 : decode cL_law 20 = .ok (.arraylength, 1) := by decide +kernel
theorem dL_law_21 : decode cL_law 21 = .ok (.bipush 6, 2) := by decide +kernel
theorem dL_law_23 : decode cL_law 23 = .ok (.isub, 1) := by decide +kernel
theorem dL_law_24 : decode cL_law 24 = .ok (.if_icmp .gt 850, 3) := by decide +kernel
theorem dL_law_27 : decode cL_law 27 = .ok (.aload_n 0, 1) := by decide +kernel
theorem dL_law_28 : decode cL_law 28 = .ok (.iload_n 3, 1) := by decide +kernel
theorem dL_law_29 : decode cL_law 29 = .ok (.iaload, 1) := by decide +kernel
theorem dL_law_30 : decode cL_law 30 = .ok (.bipush 31, 2) := by decide +kernel
theorem dL_law_32 : decode cL_law 32 = .ok (.iand, 1) := by decide +kernel
theorem dL_law_33 : decode cL_law 33 = .ok (.tableswitch 835 0 23 #[111, 164, 227, 260, 283, 296, 329, 362, 425, 448, 481, 514, 538, 581, 624, 647, 660, 713, 736, 759, 772, 785, 798, 821], 111) := by decide +kernel
theorem dL_law_144 : decode cL_law 144 = .ok (.aload_n 1, 1) := by decide +kernel
theorem dL_law_145 : decode cL_law 145 = .ok (.aload_n 0, 1) := by decide +kernel
theorem dL_law_146 : decode cL_law 146 = .ok (.iload_n 3, 1) := by decide +kernel
theorem dL_law_147 : decode cL_law 147 = .ok (.iconst 1, 1) := by decide +kernel
theorem dL_law_148 : decode cL_law 148 = .ok (.iadd, 1) := by decide +kernel
theorem dL_law_149 : decode cL_law 149 = .ok (.iaload, 1) := by decide +kernel
theorem dL_law_150 : decode cL_law 150 = .ok (.aload_n 0, 1) := by decide +kernel
theorem dL_law_151 : decode cL_law 151 = .ok (.iload_n 3, 1) := by decide +kernel
theorem dL_law_152 : decode cL_law 152 = .ok (.iconst 2, 1) := by decide +kernel
theorem dL_law_153 : decode cL_law 153 = .ok (.iadd, 1) := by decide +kernel
theorem dL_law_154 : decode cL_law 154 = .ok (.iaload, 1) := by decide +kernel
theorem dL_law_155 : decode cL_law 155 = .ok (.aload_n 0, 1) := by decide +kernel
theorem dL_law_156 : decode cL_law 156 = .ok (.iload_n 3, 1) := by decide +kernel
theorem dL_law_157 : decode cL_law 157 = .ok (.iconst 3, 1) := by decide +kernel
theorem dL_law_158 : decode cL_law 158 = .ok (.iadd, 1) := by decide +kernel
theorem dL_law_159 : decode cL_law 159 = .ok (.iaload, 1) := by decide +kernel
theorem dL_law_160 : decode cL_law 160 = .ok (.aload_n 0, 1) := by decide +kernel
theorem dL_law_161 : decode cL_law 161 = .ok (.iload_n 3, 1) := by decide +kernel
theorem dL_law_162 : decode cL_law 162 = .ok (.iconst 4, 1) := by decide +kernel
theorem dL_law_163 : decode cL_law 163 = .ok (.iadd, 1) := by decide +kernel
theorem dL_law_164 : decode cL_law 164 = .ok (.iaload, 1) := by decide +kernel
theorem dL_law_165 : decode cL_law 165 = .ok (.invokevirtual 13, 3) := by decide +kernel
theorem dL_law_168 : decode cL_law 168 = .ok (.aload_n 2, 1) := by decide +kernel
theorem dL_law_169 : decode cL_law 169 = .ok (.aload_n 0, 1) := by decide +kernel
theorem dL_law_170 : decode cL_law 170 = .ok (.iload_n 3, 1) := by decide +kernel
theorem dL_law_171 : decode cL_law 171 = .ok (.iconst 1, 1) := by decide +kernel
theorem dL_law_172 : decode cL_law 172 = .ok (.iadd, 1) := by decide +kernel
theorem dL_law_173 : decode cL_law 173 = .ok (.iaload, 1) := by decide +kernel
theorem dL_law_174 : decode cL_law 174 = .ok (.aload_n 0, 1) := by decide +kernel
theorem dL_law_175 : decode cL_law 175 = .ok (.iload_n 3, 1) := by decide +kernel
theorem dL_law_176 : decode cL_law 176 = .ok (.iconst 2, 1) := by decide +kernel
theorem dL_law_177 : decode cL_law 177 = .ok (.iadd, 1) := by decide +kernel
theorem dL_law_178 : decode cL_law 178 = .ok (.iaload, 1) := by decide +kernel
theorem dL_law_179 : decode cL_law 179 = .ok (.aload_n 0, 1) := by decide +kernel
theorem dL_law_180 : decode cL_law 180 = .ok (.iload_n 3, 1) := by decide +kernel
theorem dL_law_181 : decode cL_law 181 = .ok (.iconst 3, 1) := by decide +kernel
theorem dL_law_182 : decode cL_law 182 = .ok (.iadd, 1) := by decide +kernel
theorem dL_law_183 : decode cL_law 183 = .ok (.iaload, 1) := by decide +kernel
theorem dL_law_184 : decode cL_law 184 = .ok (.aload_n 0, 1) := by decide +kernel
theorem dL_law_185 : decode cL_law 185 = .ok (.iload_n 3, 1) := by decide +kernel
theorem dL_law_186 : decode cL_law 186 = .ok (.iconst 4, 1) := by decide +kernel
theorem dL_law_187 : decode cL_law 187 = .ok (.iadd, 1) := by decide +kernel
theorem dL_law_188 : decode cL_law 188 = .ok (.iaload, 1) := by decide +kernel
theorem dL_law_189 : decode cL_law 189 = .ok (.invokevirtual 17, 3) := by decide +kernel
theorem dL_law_192 : decode cL_law 192 = .ok (.if_icmp .eq 676, 3) := by decide +kernel
theorem dL_law_195 : decode cL_law 195 = .ok (.iconst 0, 1) := by decide +kernel
theorem dL_law_196 : decode cL_law 196 = .ok (.ireturn, 1) := by decide +kernel
theorem dL_law_197 : decode cL_law 197 = .ok (.aload_n 1, 1) := by decide +kernel
theorem dL_law_198 : decode cL_law 198 = .ok (.aload_n 0, 1) := by decide +kernel
theorem dL_law_199 : decode cL_law 199 = .ok (.iload_n 3, 1) := by decide +kernel
theorem dL_law_200 : decode cL_law 200 = .ok (.iconst 1, 1) := by decide +kernel
theorem dL_law_201 : decode cL_law 201 = .ok (.iadd, 1) := by decide +kernel
theorem dL_law_202 : decode cL_law 202 = .ok (.iaload, 1) := by decide +kernel
theorem dL_law_203 : decode cL_law 203 = .ok (.aload_n 0, 1) := by decide +kernel
theorem dL_law_204 : decode cL_law 204 = .ok (.iload_n 3, 1) := by decide +kernel
theorem dL_law_205 : decode cL_law 205 = .ok (.iconst 2, 1) := by decide +kernel
theorem dL_law_206 : decode cL_law 206 = .ok (.iadd, 1) := by decide +kernel
theorem dL_law_207 : decode cL_law 207 = .ok (.iaload, 1) := by decide +kernel
theorem dL_law_208 : decode cL_law 208 = .ok (.aload_n 0, 1) := by decide +kernel
theorem dL_law_209 : decode cL_law 209 = .ok (.iload_n 3, 1) := by decide +kernel
theorem dL_law_210 : decode cL_law 210 = .ok (.iconst 3, 1) := by decide +kernel
theorem dL_law_211 : decode cL_law 211 = .ok (.iadd, 1) := by decide +kernel
theorem dL_law_212 : decode cL_law 212 = .ok (.iaload, 1) := by decide +kernel
theorem dL_law_213 : decode cL_law 213 = .ok (.aload_n 0, 1) := by decide +kernel
theorem dL_law_214 : decode cL_law 214 = .ok (.iload_n 3, 1) := by decide +kernel
theorem dL_law_215 : decode cL_law 215 = .ok (.iconst 4, 1) := by decide +kernel
theorem dL_law_216 : decode cL_law 216 = .ok (.iadd, 1) := by decide +kernel
theorem dL_law_217 : decode cL_law 217 = .ok (.iaload, 1) := by decide +kernel
theorem dL_law_218 : decode cL_law 218 = .ok (.aload_n 0, 1) := by decide +kernel
theorem dL_law_219 : decode cL_law 219 = .ok (.iload_n 3, 1) := by decide +kernel
theorem dL_law_220 : decode cL_law 220 = .ok (.iconst 5, 1) := by decide +kernel
theorem dL_law_221 : decode cL_law 221 = .ok (.iadd, 1) := by decide +kernel
theorem dL_law_222 : decode cL_law 222 = .ok (.iaload, 1) := by decide +kernel
theorem dL_law_223 : decode cL_law 223 = .ok (.invokevirtual 18, 3) := by decide +kernel
theorem dL_law_226 : decode cL_law 226 = .ok (.aload_n 2, 1) := by decide +kernel
theorem dL_law_227 : decode cL_law 227 = .ok (.aload_n 0, 1) := by decide +kernel
theorem dL_law_228 : decode cL_law 228 = .ok (.iload_n 3, 1) := by decide +kernel
theorem dL_law_229 : decode cL_law 229 = .ok (.iconst 1, 1) := by decide +kernel
theorem dL_law_230 : decode cL_law 230 = .ok (.iadd, 1) := by decide +kernel
theorem dL_law_231 : decode cL_law 231 = .ok (.iaload, 1) := by decide +kernel
theorem dL_law_232 : decode cL_law 232 = .ok (.aload_n 0, 1) := by decide +kernel
theorem dL_law_233 : decode cL_law 233 = .ok (.iload_n 3, 1) := by decide +kernel
theorem dL_law_234 : decode cL_law 234 = .ok (.iconst 2, 1) := by decide +kernel
theorem dL_law_235 : decode cL_law 235 = .ok (.iadd, 1) := by decide +kernel
theorem dL_law_236 : decode cL_law 236 = .ok (.iaload, 1) := by decide +kernel
theorem dL_law_237 : decode cL_law 237 = .ok (.aload_n 0, 1) := by decide +kernel
theorem dL_law_238 : decode cL_law 238 = .ok (.iload_n 3, 1) := by decide +kernel
theorem dL_law_239 : decode cL_law 239 = .ok (.iconst 3, 1) := by decide +kernel
theorem dL_law_240 : decode cL_law 240 = .ok (.iadd, 1) := by decide +kernel
theorem dL_law_241 : decode cL_law 241 = .ok (.iaload, 1) := by decide +kernel
theorem dL_law_242 : decode cL_law 242 = .ok (.aload_n 0, 1) := by decide +kernel
theorem dL_law_243 : decode cL_law 243 = .ok (.iload_n 3, 1) := by decide +kernel
theorem dL_law_244 : decode cL_law 244 = .ok (.iconst 4, 1) := by decide +kernel
theorem dL_law_245 : decode cL_law 245 = .ok (.iadd, 1) := by decide +kernel
theorem dL_law_246 : decode cL_law 246 = .ok (.iaload, 1) := by decide +kernel
theorem dL_law_247 : decode cL_law 247 = .ok (.aload_n 0, 1) := by decide +kernel
theorem dL_law_248 : decode cL_law 248 = .ok (.iload_n 3, 1) := by decide +kernel
theorem dL_law_249 : decode cL_law 249 = .ok (.iconst 5, 1) := by decide +kernel
theorem dL_law_250 : decode cL_law 250 = .ok (.iadd, 1) := by decide +kernel
theorem dL_law_251 : decode cL_law 251 = .ok (.iaload, 1) := by decide +kernel
theorem dL_law_252 : decode cL_law 252 = .ok (.invokevirtual 22, 3) := by decide +kernel
theorem dL_law_255 : decode cL_law 255 = .ok (.if_icmp .eq 613, 3) := by decide +kernel
theorem dL_law_258 : decode cL_law 258 = .ok (.iconst 0, 1) := by decide +kernel
theorem dL_law_259 : decode cL_law 259 = .ok (.ireturn, 1) := by decide +kernel
theorem dL_law_260 : decode cL_law 260 = .ok (.aload_n 1, 1) := by decide +kernel
theorem dL_law_261 : decode cL_law 261 = .ok (.aload_n 0, 1) := by decide +kernel
theorem dL_law_262 : decode cL_law 262 = .ok (.iload_n 3, 1) := by decide +kernel
theorem dL_law_263 : decode cL_law 263 = .ok (.iconst 1, 1) := by decide +kernel
theorem dL_law_264 : decode cL_law 264 = .ok (.iadd, 1) := by decide +kernel
theorem dL_law_265 : decode cL_law 265 = .ok (.iaload, 1) := by decide +kernel
theorem dL_law_266 : decode cL_law 266 = .ok (.aload_n 0, 1) := by decide +kernel
theorem dL_law_267 : decode cL_law 267 = .ok (.iload_n 3, 1) := by decide +kernel
theorem dL_law_268 : decode cL_law 268 = .ok (.iconst 2, 1) := by decide +kernel
theorem dL_law_269 : decode cL_law 269 = .ok (.iadd, 1) := by decide +kernel
theorem dL_law_270 : decode cL_law 270 = .ok (.iaload, 1) := by decide +kernel
theorem dL_law_271 : decode cL_law 271 = .ok (.invokevirtual 23, 3) := by decide +kernel
theorem dL_law_274 : decode cL_law 274 = .ok (.aload_n 2, 1) := by decide +kernel
theorem dL_law_275 : decode cL_law 275 = .ok (.aload_n 0, 1) := by decide +kernel
theorem dL_law_276 : decode cL_law 276 = .ok (.iload_n 3, 1) := by decide +kernel
theorem dL_law_277 : decode cL_law 277 = .ok (.iconst 1, 1) := by decide +kernel
theorem dL_law_278 : decode cL_law 278 = .ok (.iadd, 1) := by decide +kernel
theorem dL_law_279 : decode cL_law 279 = .ok (.iaload, 1) := by decide +kernel
theorem dL_law_280 : decode cL_law 280 = .ok (.aload_n 0, 1) := by decide +kernel
theorem dL_law_281 : decode cL_law 281 = .ok (.iload_n 3, 1) := by decide +kernel
theorem dL_law_282 : decode cL_law 282 = .ok (.iconst 2, 1) := by decide +kernel
theorem dL_law_283 : decode cL_law 283 = .ok (.iadd, 1) := by decide +kernel
theorem dL_law_284 : decode cL_law 284 = .ok (.iaload, 1) := by decide +kernel
theorem dL_law_285 : decode cL_law 285 = .ok (.invokevirtual 27, 3) := by decide +kernel
theorem dL_law_288 : decode cL_law 288 = .ok (.if_icmp .eq 580, 3) := by decide +kernel
theorem dL_law_291 : decode cL_law 291 = .ok (.iconst 0, 1) := by decide +kernel
theorem dL_law_292 : decode cL_law 292 = .ok (.ireturn, 1) := by decide +kernel
theorem dL_law_293 : decode cL_law 293 = .ok (.aload_n 1, 1) := by decide +kernel
theorem dL_law_294 : decode cL_law 294 = .ok (.aload_n 0, 1) := by decide +kernel
theorem dL_law_295 : decode cL_law 295 = .ok (.iload_n 3, 1) := by decide +kernel
theorem dL_law_296 : decode cL_law 296 = .ok (.iconst 1, 1) := by decide +kernel
theorem dL_law_297 : decode cL_law 297 = .ok (.iadd, 1) := by decide +kernel
theorem dL_law_298 : decode cL_law 298 = .ok (.iaload, 1) := by decide +kernel
theorem dL_law_299 : decode cL_law 299 = .ok (.invokevirtual 28, 3) := by decide +kernel
theorem dL_law_302 : decode cL_law 302 = .ok (.aload_n 2, 1) := by decide +kernel
theorem dL_law_303 : decode cL_law 303 = .ok (.aload_n 0, 1) := by decide +kernel
theorem dL_law_304 : decode cL_law 304 = .ok (.iload_n 3, 1) := by decide +kernel
theorem dL_law_305 : decode cL_law 305 = .ok (.iconst 1, 1) := by decide +kernel
theorem dL_law_306 : decode cL_law 306 = .ok (.iadd, 1) := by decide +kernel
theorem dL_law_307 : decode cL_law 307 = .ok (.iaload, 1) := by decide +kernel
theorem dL_law_308 : decode cL_law 308 = .ok (.invokevirtual 32, 3) := by decide +kernel
theorem dL_law_311 : decode cL_law 311 = .ok (.if_icmp .eq 557, 3) := by decide +kernel
theorem dL_law_314 : decode cL_law 314 = .ok (.iconst 0, 1) := by decide +kernel
theorem dL_law_315 : decode cL_law 315 = .ok (.ireturn, 1) := by decide +kernel
theorem dL_law_316 : decode cL_law 316 = .ok (.aload_n 1, 1) := by decide +kernel
theorem dL_law_317 : decode cL_law 317 = .ok (.invokevirtual 33, 3) := by decide +kernel
theorem dL_law_320 : decode cL_law 320 = .ok (.aload_n 2, 1) := by decide +kernel
theorem dL_law_321 : decode cL_law 321 = .ok (.invokevirtual 37, 3) := by decide +kernel
theorem dL_law_324 : decode cL_law 324 = .ok (.if_icmp .eq 544, 3) := by decide +kernel
theorem dL_law_327 : decode cL_law 327 = .ok (.iconst 0, 1) := by decide +kernel
theorem dL_law_328 : decode cL_law 328 = .ok (.ireturn, 1) := by decide +kernel
theorem dL_law_329 : decode cL_law 329 = .ok (.aload_n 1, 1) := by decide +kernel
theorem dL_law_330 : decode cL_law 330 = .ok (.aload_n 0, 1) := by decide +kernel
theorem dL_law_331 : decode cL_law 331 = .ok (.iload_n 3, 1) := by decide +kernel
theorem dL_law_332 : decode cL_law 332 = .ok (.iconst 1, 1) := by decide +kernel
theorem dL_law_333 : decode cL_law 333 = .ok (.iadd, 1) := by decide +kernel
theorem dL_law_334 : decode cL_law 334 = .ok (.iaload, 1) := by decide +kernel
theorem dL_law_335 : decode cL_law 335 = .ok (.aload_n 0, 1) := by decide +kernel
theorem dL_law_336 : decode cL_law 336 = .ok (.iload_n 3, 1) := by decide +kernel
theorem dL_law_337 : decode cL_law 337 = .ok (.iconst 2, 1) := by decide +kernel
theorem dL_law_338 : decode cL_law 338 = .ok (.iadd, 1) := by decide +kernel
theorem dL_law_339 : decode cL_law 339 = .ok (.iaload, 1) := by decide +kernel
theorem dL_law_340 : decode cL_law 340 = .ok (.invokevirtual 38, 3) := by decide +kernel
theorem dL_law_343 : decode cL_law 343 = .ok (.aload_n 2, 1) := by decide +kernel
theorem dL_law_344 : decode cL_law 344 = .ok (.aload_n 0, 1) := by decide +kernel
theorem dL_law_345 : decode cL_law 345 = .ok (.iload_n 3, 1) := by decide +kernel
theorem dL_law_346 : decode cL_law 346 = .ok (.iconst 1, 1) := by decide +kernel
theorem dL_law_347 : decode cL_law 347 = .ok (.iadd, 1) := by decide +kernel
theorem dL_law_348 : decode cL_law 348 = .ok (.iaload, 1) := by decide +kernel
theorem dL_law_349 : decode cL_law 349 = .ok (.aload_n 0, 1) := by decide +kernel
theorem dL_law_350 : decode cL_law 350 = .ok (.iload_n 3, 1) := by decide +kernel
theorem dL_law_351 : decode cL_law 351 = .ok (.iconst 2, 1) := by decide +kernel
theorem dL_law_352 : decode cL_law 352 = .ok (.iadd, 1) := by decide +kernel
theorem dL_law_353 : decode cL_law 353 = .ok (.iaload, 1) := by decide +kernel
theorem dL_law_354 : decode cL_law 354 = .ok (.invokevirtual 41, 3) := by decide +kernel
theorem dL_law_357 : decode cL_law 357 = .ok (.if_icmp .eq 511, 3) := by decide +kernel
theorem dL_law_360 : decode cL_law 360 = .ok (.iconst 0, 1) := by decide +kernel
theorem dL_law_361 : decode cL_law 361 = .ok (.ireturn, 1) := by decide +kernel
theorem dL_law_362 : decode cL_law 362 = .ok (.aload_n 1, 1) := by decide +kernel
theorem dL_law_363 : decode cL_law 363 = .ok (.aload_n 0, 1) := by decide +kernel
theorem dL_law_364 : decode cL_law 364 = .ok (.iload_n 3, 1) := by decide +kernel
theorem dL_law_365 : decode cL_law 365 = .ok (.iconst 1, 1) := by decide +kernel
theorem dL_law_366 : decode cL_law 366 = .ok (.iadd, 1) := by decide +kernel
theorem dL_law_367 : decode cL_law 367 = .ok (.iaload, 1) := by decide +kernel
theorem dL_law_368 : decode cL_law 368 = .ok (.aload_n 0, 1) := by decide +kernel
theorem dL_law_369 : decode cL_law 369 = .ok (.iload_n 3, 1) := by decide +kernel
theorem dL_law_370 : decode cL_law 370 = .ok (.iconst 2, 1) := by decide +kernel
theorem dL_law_371 : decode cL_law 371 = .ok (.iadd, 1) := by decide +kernel
theorem dL_law_372 : decode cL_law 372 = .ok (.iaload, 1) := by decide +kernel
theorem dL_law_373 : decode cL_law 373 = .ok (.invokevirtual 42, 3) := by decide +kernel
theorem dL_law_376 : decode cL_law 376 = .ok (.aload_n 2, 1) := by decide +kernel
theorem dL_law_377 : decode cL_law 377 = .ok (.aload_n 0, 1) := by decide +kernel
theorem dL_law_378 : decode cL_law 378 = .ok (.iload_n 3, 1) := by decide +kernel
theorem dL_law_379 : decode cL_law 379 = .ok (.iconst 1, 1) := by decide +kernel
theorem dL_law_380 : decode cL_law 380 = .ok (.iadd, 1) := by decide +kernel
theorem dL_law_381 : decode cL_law 381 = .ok (.iaload, 1) := by decide +kernel
theorem dL_law_382 : decode cL_law 382 = .ok (.aload_n 0, 1) := by decide +kernel
theorem dL_law_383 : decode cL_law 383 = .ok (.iload_n 3, 1) := by decide +kernel
theorem dL_law_384 : decode cL_law 384 = .ok (.iconst 2, 1) := by decide +kernel
theorem dL_law_385 : decode cL_law 385 = .ok (.iadd, 1) := by decide +kernel
theorem dL_law_386 : decode cL_law 386 = .ok (.iaload, 1) := by decide +kernel
theorem dL_law_387 : decode cL_law 387 = .ok (.invokevirtual 45, 3) := by decide +kernel
theorem dL_law_390 : decode cL_law 390 = .ok (.if_icmp .eq 478, 3) := by decide +kernel
theorem dL_law_393 : decode cL_law 393 = .ok (.iconst 0, 1) := by decide +kernel
theorem dL_law_394 : decode cL_law 394 = .ok (.ireturn, 1) := by decide +kernel
theorem dL_law_395 : decode cL_law 395 = .ok (.aload_n 1, 1) := by decide +kernel
theorem dL_law_396 : decode cL_law 396 = .ok (.aload_n 0, 1) := by decide +kernel
theorem dL_law_397 : decode cL_law 397 = .ok (.iload_n 3, 1) := by decide +kernel
theorem dL_law_398 : decode cL_law 398 = .ok (.iconst 1, 1) := by decide +kernel
theorem dL_law_399 : decode cL_law 399 = .ok (.iadd, 1) := by decide +kernel
theorem dL_law_400 : decode cL_law 400 = .ok (.iaload, 1) := by decide +kernel
theorem dL_law_401 : decode cL_law 401 = .ok (.aload_n 0, 1) := by decide +kernel
theorem dL_law_402 : decode cL_law 402 = .ok (.iload_n 3, 1) := by decide +kernel
theorem dL_law_403 : decode cL_law 403 = .ok (.iconst 2, 1) := by decide +kernel
theorem dL_law_404 : decode cL_law 404 = .ok (.iadd, 1) := by decide +kernel
theorem dL_law_405 : decode cL_law 405 = .ok (.iaload, 1) := by decide +kernel
theorem dL_law_406 : decode cL_law 406 = .ok (.aload_n 0, 1) := by decide +kernel
theorem dL_law_407 : decode cL_law 407 = .ok (.iload_n 3, 1) := by decide +kernel
theorem dL_law_408 : decode cL_law 408 = .ok (.iconst 3, 1) := by decide +kernel
theorem dL_law_409 : decode cL_law 409 = .ok (.iadd, 1) := by decide +kernel
theorem dL_law_410 : decode cL_law 410 = .ok (.iaload, 1) := by decide +kernel
theorem dL_law_411 : decode cL_law 411 = .ok (.aload_n 0, 1) := by decide +kernel
theorem dL_law_412 : decode cL_law 412 = .ok (.iload_n 3, 1) := by decide +kernel
theorem dL_law_413 : decode cL_law 413 = .ok (.iconst 4, 1) := by decide +kernel
theorem dL_law_414 : decode cL_law 414 = .ok (.iadd, 1) := by decide +kernel
theorem dL_law_415 : decode cL_law 415 = .ok (.iaload, 1) := by decide +kernel
theorem dL_law_416 : decode cL_law 416 = .ok (.aload_n 0, 1) := by decide +kernel
theorem dL_law_417 : decode cL_law 417 = .ok (.iload_n 3, 1) := by decide +kernel
theorem dL_law_418 : decode cL_law 418 = .ok (.iconst 5, 1) := by decide +kernel
theorem dL_law_419 : decode cL_law 419 = .ok (.iadd, 1) := by decide +kernel
theorem dL_law_420 : decode cL_law 420 = .ok (.iaload, 1) := by decide +kernel
theorem dL_law_421 : decode cL_law 421 = .ok (.invokevirtual 46, 3) := by decide +kernel
theorem dL_law_424 : decode cL_law 424 = .ok (.aload_n 2, 1) := by decide +kernel
theorem dL_law_425 : decode cL_law 425 = .ok (.aload_n 0, 1) := by decide +kernel
theorem dL_law_426 : decode cL_law 426 = .ok (.iload_n 3, 1) := by decide +kernel
theorem dL_law_427 : decode cL_law 427 = .ok (.iconst 1, 1) := by decide +kernel
theorem dL_law_428 : decode cL_law 428 = .ok (.iadd, 1) := by decide +kernel
theorem dL_law_429 : decode cL_law 429 = .ok (.iaload, 1) := by decide +kernel
theorem dL_law_430 : decode cL_law 430 = .ok (.aload_n 0, 1) := by decide +kernel
theorem dL_law_431 : decode cL_law 431 = .ok (.iload_n 3, 1) := by decide +kernel
theorem dL_law_432 : decode cL_law 432 = .ok (.iconst 2, 1) := by decide +kernel
theorem dL_law_433 : decode cL_law 433 = .ok (.iadd, 1) := by decide +kernel
theorem dL_law_434 : decode cL_law 434 = .ok (.iaload, 1) := by decide +kernel
theorem dL_law_435 : decode cL_law 435 = .ok (.aload_n 0, 1) := by decide +kernel
theorem dL_law_436 : decode cL_law 436 = .ok (.iload_n 3, 1) := by decide +kernel
theorem dL_law_437 : decode cL_law 437 = .ok (.iconst 3, 1) := by decide +kernel
theorem dL_law_438 : decode cL_law 438 = .ok (.iadd, 1) := by decide +kernel
theorem dL_law_439 : decode cL_law 439 = .ok (.iaload, 1) := by decide +kernel
theorem dL_law_440 : decode cL_law 440 = .ok (.aload_n 0, 1) := by decide +kernel
theorem dL_law_441 : decode cL_law 441 = .ok (.iload_n 3, 1) := by decide +kernel
theorem dL_law_442 : decode cL_law 442 = .ok (.iconst 4, 1) := by decide +kernel
theorem dL_law_443 : decode cL_law 443 = .ok (.iadd, 1) := by decide +kernel
theorem dL_law_444 : decode cL_law 444 = .ok (.iaload, 1) := by decide +kernel
theorem dL_law_445 : decode cL_law 445 = .ok (.aload_n 0, 1) := by decide +kernel
theorem dL_law_446 : decode cL_law 446 = .ok (.iload_n 3, 1) := by decide +kernel
theorem dL_law_447 : decode cL_law 447 = .ok (.iconst 5, 1) := by decide +kernel
theorem dL_law_448 : decode cL_law 448 = .ok (.iadd, 1) := by decide +kernel
theorem dL_law_449 : decode cL_law 449 = .ok (.iaload, 1) := by decide +kernel
theorem dL_law_450 : decode cL_law 450 = .ok (.invokevirtual 49, 3) := by decide +kernel
theorem dL_law_453 : decode cL_law 453 = .ok (.if_icmp .eq 415, 3) := by decide +kernel
theorem dL_law_456 : decode cL_law 456 = .ok (.iconst 0, 1) := by decide +kernel
theorem dL_law_457 : decode cL_law 457 = .ok (.ireturn, 1) := by decide +kernel
theorem dL_law_458 : decode cL_law 458 = .ok (.aload_n 1, 1) := by decide +kernel
theorem dL_law_459 : decode cL_law 459 = .ok (.aload_n 0, 1) := by decide +kernel
theorem dL_law_460 : decode cL_law 460 = .ok (.iload_n 3, 1) := by decide +kernel
theorem dL_law_461 : decode cL_law 461 = .ok (.iconst 1, 1) := by decide +kernel
theorem dL_law_462 : decode cL_law 462 = .ok (.iadd, 1) := by decide +kernel
theorem dL_law_463 : decode cL_law 463 = .ok (.iaload, 1) := by decide +kernel
theorem dL_law_464 : decode cL_law 464 = .ok (.invokevirtual 50, 3) := by decide +kernel
theorem dL_law_467 : decode cL_law 467 = .ok (.aload_n 2, 1) := by decide +kernel
theorem dL_law_468 : decode cL_law 468 = .ok (.aload_n 0, 1) := by decide +kernel
theorem dL_law_469 : decode cL_law 469 = .ok (.iload_n 3, 1) := by decide +kernel
theorem dL_law_470 : decode cL_law 470 = .ok (.iconst 1, 1) := by decide +kernel
theorem dL_law_471 : decode cL_law 471 = .ok (.iadd, 1) := by decide +kernel
theorem dL_law_472 : decode cL_law 472 = .ok (.iaload, 1) := by decide +kernel
theorem dL_law_473 : decode cL_law 473 = .ok (.invokevirtual 53, 3) := by decide +kernel
theorem dL_law_476 : decode cL_law 476 = .ok (.if_icmp .eq 392, 3) := by decide +kernel
theorem dL_law_479 : decode cL_law 479 = .ok (.iconst 0, 1) := by decide +kernel
theorem dL_law_480 : decode cL_law 480 = .ok (.ireturn, 1) := by decide +kernel
theorem dL_law_481 : decode cL_law 481 = .ok (.aload_n 1, 1) := by decide +kernel
theorem dL_law_482 : decode cL_law 482 = .ok (.aload_n 0, 1) := by decide +kernel
theorem dL_law_483 : decode cL_law 483 = .ok (.iload_n 3, 1) := by decide +kernel
theorem dL_law_484 : decode cL_law 484 = .ok (.iconst 1, 1) := by decide +kernel
theorem dL_law_485 : decode cL_law 485 = .ok (.iadd, 1) := by decide +kernel
theorem dL_law_486 : decode cL_law 486 = .ok (.iaload, 1) := by decide +kernel
theorem dL_law_487 : decode cL_law 487 = .ok (.aload_n 0, 1) := by decide +kernel
theorem dL_law_488 : decode cL_law 488 = .ok (.iload_n 3, 1) := by decide +kernel
theorem dL_law_489 : decode cL_law 489 = .ok (.iconst 2, 1) := by decide +kernel
theorem dL_law_490 : decode cL_law 490 = .ok (.iadd, 1) := by decide +kernel
theorem dL_law_491 : decode cL_law 491 = .ok (.iaload, 1) := by decide +kernel
theorem dL_law_492 : decode cL_law 492 = .ok (.invokevirtual 54, 3) := by decide +kernel
theorem dL_law_495 : decode cL_law 495 = .ok (.aload_n 2, 1) := by decide +kernel
theorem dL_law_496 : decode cL_law 496 = .ok (.aload_n 0, 1) := by decide +kernel
theorem dL_law_497 : decode cL_law 497 = .ok (.iload_n 3, 1) := by decide +kernel
theorem dL_law_498 : decode cL_law 498 = .ok (.iconst 1, 1) := by decide +kernel
theorem dL_law_499 : decode cL_law 499 = .ok (.iadd, 1) := by decide +kernel
theorem dL_law_500 : decode cL_law 500 = .ok (.iaload, 1) := by decide +kernel
theorem dL_law_501 : decode cL_law 501 = .ok (.aload_n 0, 1) := by decide +kernel
theorem dL_law_502 : decode cL_law 502 = .ok (.iload_n 3, 1) := by decide +kernel
theorem dL_law_503 : decode cL_law 503 = .ok (.iconst 2, 1) := by decide +kernel
theorem dL_law_504 : decode cL_law 504 = .ok (.iadd, 1) := by decide +kernel
theorem dL_law_505 : decode cL_law 505 = .ok (.iaload, 1) := by decide +kernel
theorem dL_law_506 : decode cL_law 506 = .ok (.invokevirtual 57, 3) := by decide +kernel
theorem dL_law_509 : decode cL_law 509 = .ok (.if_icmp .eq 359, 3) := by decide +kernel
theorem dL_law_512 : decode cL_law 512 = .ok (.iconst 0, 1) := by decide +kernel
theorem dL_law_513 : decode cL_law 513 = .ok (.ireturn, 1) := by decide +kernel
theorem dL_law_514 : decode cL_law 514 = .ok (.aload_n 1, 1) := by decide +kernel
theorem dL_law_515 : decode cL_law 515 = .ok (.aload_n 0, 1) := by decide +kernel
theorem dL_law_516 : decode cL_law 516 = .ok (.iload_n 3, 1) := by decide +kernel
theorem dL_law_517 : decode cL_law 517 = .ok (.iconst 1, 1) := by decide +kernel
theorem dL_law_518 : decode cL_law 518 = .ok (.iadd, 1) := by decide +kernel
theorem dL_law_519 : decode cL_law 519 = .ok (.iaload, 1) := by decide +kernel
theorem dL_law_520 : decode cL_law 520 = .ok (.aload_n 0, 1) := by decide +kernel
theorem dL_law_521 : decode cL_law 521 = .ok (.iload_n 3, 1) := by decide +kernel
theorem dL_law_522 : decode cL_law 522 = .ok (.iconst 2, 1) := by decide +kernel
theorem dL_law_523 : decode cL_law 523 = .ok (.iadd, 1) := by decide +kernel
theorem dL_law_524 : decode cL_law 524 = .ok (.iaload, 1) := by decide +kernel
theorem dL_law_525 : decode cL_law 525 = .ok (.invokevirtual 58, 3) := by decide +kernel
theorem dL_law_528 : decode cL_law 528 = .ok (.aload_n 2, 1) := by decide +kernel
theorem dL_law_529 : decode cL_law 529 = .ok (.aload_n 0, 1) := by decide +kernel
theorem dL_law_530 : decode cL_law 530 = .ok (.iload_n 3, 1) := by decide +kernel
theorem dL_law_531 : decode cL_law 531 = .ok (.iconst 1, 1) := by decide +kernel
theorem dL_law_532 : decode cL_law 532 = .ok (.iadd, 1) := by decide +kernel
theorem dL_law_533 : decode cL_law 533 = .ok (.iaload, 1) := by decide +kernel
theorem dL_law_534 : decode cL_law 534 = .ok (.aload_n 0, 1) := by decide +kernel
theorem dL_law_535 : decode cL_law 535 = .ok (.iload_n 3, 1) := by decide +kernel
theorem dL_law_536 : decode cL_law 536 = .ok (.iconst 2, 1) := by decide +kernel
theorem dL_law_537 : decode cL_law 537 = .ok (.iadd, 1) := by decide +kernel
theorem dL_law_538 : decode cL_law 538 = .ok (.iaload, 1) := by decide +kernel
theorem dL_law_539 : decode cL_law 539 = .ok (.invokevirtual 61, 3) := by decide +kernel
theorem dL_law_542 : decode cL_law 542 = .ok (.if_icmp .eq 326, 3) := by decide +kernel
theorem dL_law_545 : decode cL_law 545 = .ok (.iconst 0, 1) := by decide +kernel
theorem dL_law_546 : decode cL_law 546 = .ok (.ireturn, 1) := by decide +kernel
theorem dL_law_547 : decode cL_law 547 = .ok (.aload_n 1, 1) := by decide +kernel
theorem dL_law_548 : decode cL_law 548 = .ok (.aload_n 0, 1) := by decide +kernel
theorem dL_law_549 : decode cL_law 549 = .ok (.iload_n 3, 1) := by decide +kernel
theorem dL_law_550 : decode cL_law 550 = .ok (.iconst 1, 1) := by decide +kernel
theorem dL_law_551 : decode cL_law 551 = .ok (.iadd, 1) := by decide +kernel
theorem dL_law_552 : decode cL_law 552 = .ok (.iaload, 1) := by decide +kernel
theorem dL_law_553 : decode cL_law 553 = .ok (.invokevirtual 62, 3) := by decide +kernel
theorem dL_law_556 : decode cL_law 556 = .ok (.aload_n 2, 1) := by decide +kernel
theorem dL_law_557 : decode cL_law 557 = .ok (.aload_n 0, 1) := by decide +kernel
theorem dL_law_558 : decode cL_law 558 = .ok (.iload_n 3, 1) := by decide +kernel
theorem dL_law_559 : decode cL_law 559 = .ok (.iconst 1, 1) := by decide +kernel
theorem dL_law_560 : decode cL_law 560 = .ok (.iadd, 1) := by decide +kernel
theorem dL_law_561 : decode cL_law 561 = .ok (.iaload, 1) := by decide +kernel
theorem dL_law_562 : decode cL_law 562 = .ok (.invokevirtual 66, 3) := by decide +kernel
theorem dL_law_565 : decode cL_law 565 = .ok (.lcmp, 1) := by decide +kernel
theorem dL_law_566 : decode cL_law 566 = .ok (.ifCond .eq 302, 3) := by decide +kernel
theorem dL_law_569 : decode cL_law 569 = .ok (.iconst 0, 1) := by decide +kernel
theorem dL_law_570 : decode cL_law 570 = .ok (.ireturn, 1) := by decide +kernel
theorem dL_law_571 : decode cL_law 571 = .ok (.aload_n 1, 1) := by decide +kernel
theorem dL_law_572 : decode cL_law 572 = .ok (.aload_n 0, 1) := by decide +kernel
theorem dL_law_573 : decode cL_law 573 = .ok (.iload_n 3, 1) := by decide +kernel
theorem dL_law_574 : decode cL_law 574 = .ok (.iconst 1, 1) := by decide +kernel
theorem dL_law_575 : decode cL_law 575 = .ok (.iadd, 1) := by decide +kernel
theorem dL_law_576 : decode cL_law 576 = .ok (.iaload, 1) := by decide +kernel
theorem dL_law_577 : decode cL_law 577 = .ok (.aload_n 0, 1) := by decide +kernel
theorem dL_law_578 : decode cL_law 578 = .ok (.iload_n 3, 1) := by decide +kernel
theorem dL_law_579 : decode cL_law 579 = .ok (.iconst 2, 1) := by decide +kernel
theorem dL_law_580 : decode cL_law 580 = .ok (.iadd, 1) := by decide +kernel
theorem dL_law_581 : decode cL_law 581 = .ok (.iaload, 1) := by decide +kernel
theorem dL_law_582 : decode cL_law 582 = .ok (.aload_n 0, 1) := by decide +kernel
theorem dL_law_583 : decode cL_law 583 = .ok (.iload_n 3, 1) := by decide +kernel
theorem dL_law_584 : decode cL_law 584 = .ok (.iconst 3, 1) := by decide +kernel
theorem dL_law_585 : decode cL_law 585 = .ok (.iadd, 1) := by decide +kernel
theorem dL_law_586 : decode cL_law 586 = .ok (.iaload, 1) := by decide +kernel
theorem dL_law_587 : decode cL_law 587 = .ok (.invokevirtual 67, 3) := by decide +kernel
theorem dL_law_590 : decode cL_law 590 = .ok (.aload_n 2, 1) := by decide +kernel
theorem dL_law_591 : decode cL_law 591 = .ok (.aload_n 0, 1) := by decide +kernel
theorem dL_law_592 : decode cL_law 592 = .ok (.iload_n 3, 1) := by decide +kernel
theorem dL_law_593 : decode cL_law 593 = .ok (.iconst 1, 1) := by decide +kernel
theorem dL_law_594 : decode cL_law 594 = .ok (.iadd, 1) := by decide +kernel
theorem dL_law_595 : decode cL_law 595 = .ok (.iaload, 1) := by decide +kernel
theorem dL_law_596 : decode cL_law 596 = .ok (.aload_n 0, 1) := by decide +kernel
theorem dL_law_597 : decode cL_law 597 = .ok (.iload_n 3, 1) := by decide +kernel
theorem dL_law_598 : decode cL_law 598 = .ok (.iconst 2, 1) := by decide +kernel
theorem dL_law_599 : decode cL_law 599 = .ok (.iadd, 1) := by decide +kernel
theorem dL_law_600 : decode cL_law 600 = .ok (.iaload, 1) := by decide +kernel
theorem dL_law_601 : decode cL_law 601 = .ok (.aload_n 0, 1) := by decide +kernel
theorem dL_law_602 : decode cL_law 602 = .ok (.iload_n 3, 1) := by decide +kernel
theorem dL_law_603 : decode cL_law 603 = .ok (.iconst 3, 1) := by decide +kernel
theorem dL_law_604 : decode cL_law 604 = .ok (.iadd, 1) := by decide +kernel
theorem dL_law_605 : decode cL_law 605 = .ok (.iaload, 1) := by decide +kernel
theorem dL_law_606 : decode cL_law 606 = .ok (.invokevirtual 71, 3) := by decide +kernel
theorem dL_law_609 : decode cL_law 609 = .ok (.if_icmp .eq 259, 3) := by decide +kernel
theorem dL_law_612 : decode cL_law 612 = .ok (.iconst 0, 1) := by decide +kernel
theorem dL_law_613 : decode cL_law 613 = .ok (.ireturn, 1) := by decide +kernel
theorem dL_law_614 : decode cL_law 614 = .ok (.aload_n 1, 1) := by decide +kernel
theorem dL_law_615 : decode cL_law 615 = .ok (.aload_n 0, 1) := by decide +kernel
theorem dL_law_616 : decode cL_law 616 = .ok (.iload_n 3, 1) := by decide +kernel
theorem dL_law_617 : decode cL_law 617 = .ok (.iconst 1, 1) := by decide +kernel
theorem dL_law_618 : decode cL_law 618 = .ok (.iadd, 1) := by decide +kernel
theorem dL_law_619 : decode cL_law 619 = .ok (.iaload, 1) := by decide +kernel
theorem dL_law_620 : decode cL_law 620 = .ok (.aload_n 0, 1) := by decide +kernel
theorem dL_law_621 : decode cL_law 621 = .ok (.iload_n 3, 1) := by decide +kernel
theorem dL_law_622 : decode cL_law 622 = .ok (.iconst 2, 1) := by decide +kernel
theorem dL_law_623 : decode cL_law 623 = .ok (.iadd, 1) := by decide +kernel
theorem dL_law_624 : decode cL_law 624 = .ok (.iaload, 1) := by decide +kernel
theorem dL_law_625 : decode cL_law 625 = .ok (.aload_n 0, 1) := by decide +kernel
theorem dL_law_626 : decode cL_law 626 = .ok (.iload_n 3, 1) := by decide +kernel
theorem dL_law_627 : decode cL_law 627 = .ok (.iconst 3, 1) := by decide +kernel
theorem dL_law_628 : decode cL_law 628 = .ok (.iadd, 1) := by decide +kernel
theorem dL_law_629 : decode cL_law 629 = .ok (.iaload, 1) := by decide +kernel
theorem dL_law_630 : decode cL_law 630 = .ok (.invokevirtual 72, 3) := by decide +kernel
theorem dL_law_633 : decode cL_law 633 = .ok (.aload_n 2, 1) := by decide +kernel
theorem dL_law_634 : decode cL_law 634 = .ok (.aload_n 0, 1) := by decide +kernel
theorem dL_law_635 : decode cL_law 635 = .ok (.iload_n 3, 1) := by decide +kernel
theorem dL_law_636 : decode cL_law 636 = .ok (.iconst 1, 1) := by decide +kernel
theorem dL_law_637 : decode cL_law 637 = .ok (.iadd, 1) := by decide +kernel
theorem dL_law_638 : decode cL_law 638 = .ok (.iaload, 1) := by decide +kernel
theorem dL_law_639 : decode cL_law 639 = .ok (.aload_n 0, 1) := by decide +kernel
theorem dL_law_640 : decode cL_law 640 = .ok (.iload_n 3, 1) := by decide +kernel
theorem dL_law_641 : decode cL_law 641 = .ok (.iconst 2, 1) := by decide +kernel
theorem dL_law_642 : decode cL_law 642 = .ok (.iadd, 1) := by decide +kernel
theorem dL_law_643 : decode cL_law 643 = .ok (.iaload, 1) := by decide +kernel
theorem dL_law_644 : decode cL_law 644 = .ok (.aload_n 0, 1) := by decide +kernel
theorem dL_law_645 : decode cL_law 645 = .ok (.iload_n 3, 1) := by decide +kernel
theorem dL_law_646 : decode cL_law 646 = .ok (.iconst 3, 1) := by decide +kernel
end
section
theorem dL_law_647 : decode cL_law 647 = .ok (.iadd, 1) := by decide +kernel
theorem dL_law_648 : decode cL_law 648 = .ok (.iaload, 1) := by decide +kernel
theorem dL_law_649 : decode cL_law 649 = .ok (.invokevirtual 75, 3) := by decide +kernel
theorem dL_law_652 : decode cL_law 652 = .ok (.if_icmp .eq 216, 3) := by decide +kernel
theorem dL_law_655 : decode cL_law 655 = .ok (.iconst 0, 1) := by decide +kernel
theorem dL_law_656 : decode cL_law 656 = .ok (.ireturn, 1) := by decide +kernel
theorem dL_law_657 : decode cL_law 657 = .ok (.aload_n 1, 1) := by decide +kernel
theorem dL_law_658 : decode cL_law 658 = .ok (.aload_n 0, 1) := by decide +kernel
theorem dL_law_659 : decode cL_law 659 = .ok (.iload_n 3, 1) := by decide +kernel
theorem dL_law_660 : decode cL_law 660 = .ok (.iconst 1, 1) := by decide +kernel
theorem dL_law_661 : decode cL_law 661 = .ok (.iadd, 1) := by decide +kernel
theorem dL_law_662 : decode cL_law 662 = .ok (.iaload, 1) := by decide +kernel
theorem dL_law_663 : decode cL_law 663 = .ok (.invokevirtual 76, 3) := by decide +kernel
theorem dL_law_666 : decode cL_law 666 = .ok (.aload_n 2, 1) := by decide +kernel
theorem dL_law_667 : decode cL_law 667 = .ok (.aload_n 0, 1) := by decide +kernel
theorem dL_law_668 : decode cL_law 668 = .ok (.iload_n 3, 1) := by decide +kernel
theorem dL_law_669 : decode cL_law 669 = .ok (.iconst 1, 1) := by decide +kernel
theorem dL_law_670 : decode cL_law 670 = .ok (.iadd, 1) := by decide +kernel
theorem dL_law_671 : decode cL_law 671 = .ok (.iaload, 1) := by decide +kernel
theorem dL_law_672 : decode cL_law 672 = .ok (.invokevirtual 79, 3) := by decide +kernel
theorem dL_law_675 : decode cL_law 675 = .ok (.if_icmp .eq 193, 3) := by decide +kernel
theorem dL_law_678 : decode cL_law 678 = .ok (.iconst 0, 1) := by decide +kernel
theorem dL_law_679 : decode cL_law 679 = .ok (.ireturn, 1) := by decide +kernel
theorem dL_law_680 : decode cL_law 680 = .ok (.aload_n 1, 1) := by decide +kernel
theorem dL_law_681 : decode cL_law 681 = .ok (.invokevirtual 80, 3) := by decide +kernel
theorem dL_law_684 : decode cL_law 684 = .ok (.aload_n 2, 1) := by decide +kernel
theorem dL_law_685 : decode cL_law 685 = .ok (.invokevirtual 83, 3) := by decide +kernel
theorem dL_law_688 : decode cL_law 688 = .ok (.if_icmp .eq 180, 3) := by decide +kernel
theorem dL_law_691 : decode cL_law 691 = .ok (.iconst 0, 1) := by decide +kernel
theorem dL_law_692 : decode cL_law 692 = .ok (.ireturn, 1) := by decide +kernel
theorem dL_law_693 : decode cL_law 693 = .ok (.aload_n 1, 1) := by decide +kernel
theorem dL_law_694 : decode cL_law 694 = .ok (.aload_n 0, 1) := by decide +kernel
theorem dL_law_695 : decode cL_law 695 = .ok (.iload_n 3, 1) := by decide +kernel
theorem dL_law_696 : decode cL_law 696 = .ok (.iconst 1, 1) := by decide +kernel
theorem dL_law_697 : decode cL_law 697 = .ok (.iadd, 1) := by decide +kernel
theorem dL_law_698 : decode cL_law 698 = .ok (.iaload, 1) := by decide +kernel
theorem dL_law_699 : decode cL_law 699 = .ok (.aload_n 0, 1) := by decide +kernel
theorem dL_law_700 : decode cL_law 700 = .ok (.iload_n 3, 1) := by decide +kernel
theorem dL_law_701 : decode cL_law 701 = .ok (.iconst 2, 1) := by decide +kernel
theorem dL_law_702 : decode cL_law 702 = .ok (.iadd, 1) := by decide +kernel
theorem dL_law_703 : decode cL_law 703 = .ok (.iaload, 1) := by decide +kernel
theorem dL_law_704 : decode cL_law 704 = .ok (.aload_n 0, 1) := by decide +kernel
theorem dL_law_705 : decode cL_law 705 = .ok (.iload_n 3, 1) := by decide +kernel
theorem dL_law_706 : decode cL_law 706 = .ok (.iconst 3, 1) := by decide +kernel
theorem dL_law_707 : decode cL_law 707 = .ok (.iadd, 1) := by decide +kernel
theorem dL_law_708 : decode cL_law 708 = .ok (.iaload, 1) := by decide +kernel
theorem dL_law_709 : decode cL_law 709 = .ok (.aload_n 0, 1) := by decide +kernel
theorem dL_law_710 : decode cL_law 710 = .ok (.iload_n 3, 1) := by decide +kernel
theorem dL_law_711 : decode cL_law 711 = .ok (.iconst 4, 1) := by decide +kernel
theorem dL_law_712 : decode cL_law 712 = .ok (.iadd, 1) := by decide +kernel
theorem dL_law_713 : decode cL_law 713 = .ok (.iaload, 1) := by decide +kernel
theorem dL_law_714 : decode cL_law 714 = .ok (.invokevirtual 84, 3) := by decide +kernel
theorem dL_law_717 : decode cL_law 717 = .ok (.aload_n 2, 1) := by decide +kernel
theorem dL_law_718 : decode cL_law 718 = .ok (.aload_n 0, 1) := by decide +kernel
theorem dL_law_719 : decode cL_law 719 = .ok (.iload_n 3, 1) := by decide +kernel
theorem dL_law_720 : decode cL_law 720 = .ok (.iconst 1, 1) := by decide +kernel
theorem dL_law_721 : decode cL_law 721 = .ok (.iadd, 1) := by decide +kernel
theorem dL_law_722 : decode cL_law 722 = .ok (.iaload, 1) := by decide +kernel
theorem dL_law_723 : decode cL_law 723 = .ok (.aload_n 0, 1) := by decide +kernel
theorem dL_law_724 : decode cL_law 724 = .ok (.iload_n 3, 1) := by decide +kernel
theorem dL_law_725 : decode cL_law 725 = .ok (.iconst 2, 1) := by decide +kernel
theorem dL_law_726 : decode cL_law 726 = .ok (.iadd, 1) := by decide +kernel
theorem dL_law_727 : decode cL_law 727 = .ok (.iaload, 1) := by decide +kernel
theorem dL_law_728 : decode cL_law 728 = .ok (.aload_n 0, 1) := by decide +kernel
theorem dL_law_729 : decode cL_law 729 = .ok (.iload_n 3, 1) := by decide +kernel
theorem dL_law_730 : decode cL_law 730 = .ok (.iconst 3, 1) := by decide +kernel
theorem dL_law_731 : decode cL_law 731 = .ok (.iadd, 1) := by decide +kernel
theorem dL_law_732 : decode cL_law 732 = .ok (.iaload, 1) := by decide +kernel
theorem dL_law_733 : decode cL_law 733 = .ok (.aload_n 0, 1) := by decide +kernel
theorem dL_law_734 : decode cL_law 734 = .ok (.iload_n 3, 1) := by decide +kernel
theorem dL_law_735 : decode cL_law 735 = .ok (.iconst 4, 1) := by decide +kernel
theorem dL_law_736 : decode cL_law 736 = .ok (.iadd, 1) := by decide +kernel
theorem dL_law_737 : decode cL_law 737 = .ok (.iaload, 1) := by decide +kernel
theorem dL_law_738 : decode cL_law 738 = .ok (.invokevirtual 87, 3) := by decide +kernel
theorem dL_law_741 : decode cL_law 741 = .ok (.if_icmp .eq 127, 3) := by decide +kernel
theorem dL_law_744 : decode cL_law 744 = .ok (.iconst 0, 1) := by decide +kernel
theorem dL_law_745 : decode cL_law 745 = .ok (.ireturn, 1) := by decide +kernel
theorem dL_law_746 : decode cL_law 746 = .ok (.aload_n 1, 1) := by decide +kernel
theorem dL_law_747 : decode cL_law 747 = .ok (.aload_n 0, 1) := by decide +kernel
theorem dL_law_748 : decode cL_law 748 = .ok (.iload_n 3, 1) := by decide +kernel
theorem dL_law_749 : decode cL_law 749 = .ok (.iconst 1, 1) := by decide +kernel
theorem dL_law_750 : decode cL_law 750 = .ok (.iadd, 1) := by decide +kernel
theorem dL_law_751 : decode cL_law 751 = .ok (.iaload, 1) := by decide +kernel
theorem dL_law_752 : decode cL_law 752 = .ok (.invokevirtual 88, 3) := by decide +kernel
theorem dL_law_755 : decode cL_law 755 = .ok (.aload_n 2, 1) := by decide +kernel
theorem dL_law_756 : decode cL_law 756 = .ok (.aload_n 0, 1) := by decide +kernel
theorem dL_law_757 : decode cL_law 757 = .ok (.iload_n 3, 1) := by decide +kernel
theorem dL_law_758 : decode cL_law 758 = .ok (.iconst 1, 1) := by decide +kernel
theorem dL_law_759 : decode cL_law 759 = .ok (.iadd, 1) := by decide +kernel
theorem dL_law_760 : decode cL_law 760 = .ok (.iaload, 1) := by decide +kernel
theorem dL_law_761 : decode cL_law 761 = .ok (.invokevirtual 91, 3) := by decide +kernel
theorem dL_law_764 : decode cL_law 764 = .ok (.if_icmp .eq 104, 3) := by decide +kernel
theorem dL_law_767 : decode cL_law 767 = .ok (.iconst 0, 1) := by decide +kernel
theorem dL_law_768 : decode cL_law 768 = .ok (.ireturn, 1) := by decide +kernel
theorem dL_law_769 : decode cL_law 769 = .ok (.aload_n 1, 1) := by decide +kernel
theorem dL_law_770 : decode cL_law 770 = .ok (.aload_n 0, 1) := by decide +kernel
theorem dL_law_771 : decode cL_law 771 = .ok (.iload_n 3, 1) := by decide +kernel
theorem dL_law_772 : decode cL_law 772 = .ok (.iconst 1, 1) := by decide +kernel
theorem dL_law_773 : decode cL_law 773 = .ok (.iadd, 1) := by decide +kernel
theorem dL_law_774 : decode cL_law 774 = .ok (.iaload, 1) := by decide +kernel
theorem dL_law_775 : decode cL_law 775 = .ok (.invokevirtual 92, 3) := by decide +kernel
theorem dL_law_778 : decode cL_law 778 = .ok (.aload_n 2, 1) := by decide +kernel
theorem dL_law_779 : decode cL_law 779 = .ok (.aload_n 0, 1) := by decide +kernel
theorem dL_law_780 : decode cL_law 780 = .ok (.iload_n 3, 1) := by decide +kernel
theorem dL_law_781 : decode cL_law 781 = .ok (.iconst 1, 1) := by decide +kernel
theorem dL_law_782 : decode cL_law 782 = .ok (.iadd, 1) := by decide +kernel
theorem dL_law_783 : decode cL_law 783 = .ok (.iaload, 1) := by decide +kernel
theorem dL_law_784 : decode cL_law 784 = .ok (.invokevirtual 95, 3) := by decide +kernel
theorem dL_law_787 : decode cL_law 787 = .ok (.if_icmp .eq 81, 3) := by decide +kernel
theorem dL_law_790 : decode cL_law 790 = .ok (.iconst 0, 1) := by decide +kernel
theorem dL_law_791 : decode cL_law 791 = .ok (.ireturn, 1) := by decide +kernel
theorem dL_law_792 : decode cL_law 792 = .ok (.aload_n 1, 1) := by decide +kernel
theorem dL_law_793 : decode cL_law 793 = .ok (.invokevirtual 96, 3) := by decide +kernel
theorem dL_law_796 : decode cL_law 796 = .ok (.aload_n 2, 1) := by decide +kernel
theorem dL_law_797 : decode cL_law 797 = .ok (.invokevirtual 99, 3) := by decide +kernel
theorem dL_law_800 : decode cL_law 800 = .ok (.if_icmp .eq 68, 3) := by decide +kernel
theorem dL_law_803 : decode cL_law 803 = .ok (.iconst 0, 1) := by decide +kernel
theorem dL_law_804 : decode cL_law 804 = .ok (.ireturn, 1) := by decide +kernel
theorem dL_law_805 : decode cL_law 805 = .ok (.aload_n 1, 1) := by decide +kernel
theorem dL_law_806 : decode cL_law 806 = .ok (.invokevirtual 100, 3) := by decide +kernel
theorem dL_law_809 : decode cL_law 809 = .ok (.aload_n 2, 1) := by decide +kernel
theorem dL_law_810 : decode cL_law 810 = .ok (.invokevirtual 103, 3) := by decide +kernel
theorem dL_law_813 : decode cL_law 813 = .ok (.if_icmp .eq 55, 3) := by decide +kernel
theorem dL_law_816 : decode cL_law 816 = .ok (.iconst 0, 1) := by decide +kernel
theorem dL_law_817 : decode cL_law 817 = .ok (.ireturn, 1) := by decide +kernel
theorem dL_law_818 : decode cL_law 818 = .ok (.aload_n 1, 1) := by decide +kernel
theorem dL_law_819 : decode cL_law 819 = .ok (.invokevirtual 104, 3) := by decide +kernel
theorem dL_law_822 : decode cL_law 822 = .ok (.aload_n 2, 1) := by decide +kernel
theorem dL_law_823 : decode cL_law 823 = .ok (.invokevirtual 107, 3) := by decide +kernel
theorem dL_law_826 : decode cL_law 826 = .ok (.if_icmp .eq 42, 3) := by decide +kernel
theorem dL_law_829 : decode cL_law 829 = .ok (.iconst 0, 1) := by decide +kernel
theorem dL_law_830 : decode cL_law 830 = .ok (.ireturn, 1) := by decide +kernel
theorem dL_law_831 : decode cL_law 831 = .ok (.aload_n 1, 1) := by decide +kernel
theorem dL_law_832 : decode cL_law 832 = .ok (.aload_n 0, 1) := by decide +kernel
theorem dL_law_833 : decode cL_law 833 = .ok (.iload_n 3, 1) := by decide +kernel
theorem dL_law_834 : decode cL_law 834 = .ok (.iconst 1, 1) := by decide +kernel
theorem dL_law_835 : decode cL_law 835 = .ok (.iadd, 1) := by decide +kernel
theorem dL_law_836 : decode cL_law 836 = .ok (.iaload, 1) := by decide +kernel
theorem dL_law_837 : decode cL_law 837 = .ok (.invokevirtual 108, 3) := by decide +kernel
theorem dL_law_840 : decode cL_law 840 = .ok (.aload_n 2, 1) := by decide +kernel
theorem dL_law_841 : decode cL_law 841 = .ok (.aload_n 0, 1) := by decide +kernel
theorem dL_law_842 : decode cL_law 842 = .ok (.iload_n 3, 1) := by decide +kernel
theorem dL_law_843 : decode cL_law 843 = .ok (.iconst 1, 1) := by decide +kernel
theorem dL_law_844 : decode cL_law 844 = .ok (.iadd, 1) := by decide +kernel
theorem dL_law_845 : decode cL_law 845 = .ok (.iaload, 1) := by decide +kernel
theorem dL_law_846 : decode cL_law 846 = .ok (.invokevirtual 111, 3) := by decide +kernel
theorem dL_law_849 : decode cL_law 849 = .ok (.if_icmp .eq 19, 3) := by decide +kernel
theorem dL_law_852 : decode cL_law 852 = .ok (.iconst 0, 1) := by decide +kernel
theorem dL_law_853 : decode cL_law 853 = .ok (.ireturn, 1) := by decide +kernel
theorem dL_law_854 : decode cL_law 854 = .ok (.aload_n 1, 1) := by decide +kernel
theorem dL_law_855 : decode cL_law 855 = .ok (.invokevirtual 112, 3) := by decide +kernel
theorem dL_law_858 : decode cL_law 858 = .ok (.aload_n 2, 1) := by decide +kernel
theorem dL_law_859 : decode cL_law 859 = .ok (.invokevirtual 116, 3) := by decide +kernel
theorem dL_law_862 : decode cL_law 862 = .ok (.lcmp, 1) := by decide +kernel
theorem dL_law_863 : decode cL_law 863 = .ok (.ifCond .eq 5, 3) := by decide +kernel
theorem dL_law_866 : decode cL_law 866 = .ok (.iconst 0, 1) := by decide +kernel
theorem dL_law_867 : decode cL_law 867 = .ok (.ireturn, 1) := by decide +kernel
theorem dL_law_868 : decode cL_law 868 = .ok (.iinc 3 6, 3) := by decide +kernel
theorem dL_law_871 : decode cL_law 871 = .ok (.goto (-853), 3) := by decide +kernel
theorem dL_law_874 : decode cL_law 874 = .ok (.iconst 1, 1) := by decide +kernel
theorem dL_law_875 : decode cL_law 875 = .ok (.ireturn, 1) := by decide +kernel
end
section
/-! THE WORLD: after the constructors no object is made and no reference changes. Cells have numbers 0..69 (ad: their addresses); ints of object a, field k: I (16 a + k); longs: L (16 a + k); rows: A a. -/
abbrev gS : Type := (Nat → Int32) × (Nat → Nat → Int32) × (Nat → Int64)
abbrev gR : Type := Option Value × gS
def g_shl : List (Nat × Nat) := [(6, 0),
  (2, 0), (8, 32), (8, 32), (8, 32), (8, 32),
  (2, 0), (8, 32), (8, 32), (8, 32), (8, 32),
  (5, 0), (11, 5),
  (2, 0), (8, 32), (8, 32), (8, 32), (8, 32), (2, 0), (8, 32), (8, 32), (8, 32), (8, 32), (2, 0), (8, 32), (8, 32), (8, 32), (8, 32), (2, 0), (8, 32), (8, 32), (8, 32), (8, 32), (2, 0), (8, 32), (8, 32), (8, 32), (8, 32),
  (4, 0), (8, 60), (8, 60), (8, 60), (8, 60), (8, 60), (8, 32), (1, 0),
  (4, 0), (8, 60), (8, 60), (8, 60), (8, 60), (8, 60), (8, 32), (1, 0),
  (0, 0), (9, 667), (8, 48),
  (3, 0), (9, 120),
  (7, 0), (8, 129), (8, 645), (8, 129), (8, 3), (8, 120), (8, 320), (10, 32), (10, 343), (8, 3), (8, 3)]
def g_sh (a : Nat) : Nat × Nat := g_shl.getD a (99, 0)
def g_fdl : List (List (Nat × Nat)) := [
  [(0, 1), (0, 2), (1, 0)],
  [(1, 0), (1, 0), (1, 0), (1, 0), (1, 0), (1, 0), (1, 0), (1, 0), (1, 0), (1, 0), (1, 0)],
  [(0, 1), (0, 2), (0, 3), (0, 4), (1, 0)],
  [(0, 1), (1, 0), (1, 0), (1, 0), (1, 0), (1, 0), (1, 0), (1, 0), (1, 0)],
  [(0, 1), (0, 2), (0, 3), (0, 4), (0, 5), (0, 6), (0, 7), (1, 0), (1, 0)],
  [(0, 1), (1, 0), (1, 0)],
  [(0, 1), (0, 6), (0, 11), (0, 38), (0, 46), (0, 54), (0, 57), (1, 0), (1, 0), (1, 0), (1, 0), (1, 0), (1, 0), (1, 0), (1, 0), (1, 0)],
  [(0, 1), (0, 2), (1, 0), (0, 3), (0, 4), (0, 5), (1, 0), (1, 0), (2, 0), (2, 0), (0, 6), (1, 0), (0, 7), (0, 8), (0, 9), (0, 10)]]
def g_fds (ci : Nat) : List (Nat × Nat) := g_fdl.getD ci []
def g_val (ad : Nat → Nat) (I : Nat → Int32) (L : Nat → Int64) (a k : Nat) (f : Nat × Nat) : Value := if f.1 = 0 then .ref (ad (a + f.2)) else if f.1 = 1 then .int (I (16 * a + k)) else .long (L (16 * a + k))
def g_fs (ad : Nat → Nat) (I : Nat → Int32) (L : Nat → Int64) (a ci : Nat) : List Value := (List.range (g_fds ci).length).map (fun k => g_val ad I L a k ((g_fds ci).getD k (0, 0)))
def g_row (ad : Nat → Nat) (A : Nat → Nat → Int32) (a : Nat) : (Nat → Int32) ⊕ (Nat → Int64) ⊕ (Nat → UInt32) ⊕ (Nat → UInt64) ⊕ (Nat → Option Nat) := if (g_sh a).1 = 11 then .inr (.inr (.inr (.inr (fun j => some (ad (13 + 5 * j)))))) else .inl (A a)
def g_cell (cA : Nat → ClassId) (ad : Nat → Nat) (I : Nat → Int32) (A : Nat → Nat → Int32) (L : Nat → Int64) (a : Nat) : va_E := if (g_sh a).1 < 8 then .inr ((g_sh a).1, g_fs ad I L a (g_sh a).1) else .inl (cA ((g_sh a).1 - 8), (g_sh a).2, g_row ad A a)
def gW (cA : Nat → ClassId) (ad : Nat → Nat) (I : Nat → Int32) (A : Nat → Nat → Int32) (L : Nat → Int64) : va_W := (List.range 70).map (fun a => (ad a, g_cell cA ad I A L a))
def gA (ad : Nat → Nat) : Nat → Prop := fun q => ∃ a, a < 70 ∧ q = ad a
def gTy (cA : Nat → ClassId) : List (ClassId × FieldType) := [(cA 0, .int), (cA 1, .byte), (cA 2, .boolean), (cA 3, .object RX2)]
def g_tf : List Int32 := [0, 1, 2, 0, 1, 2, 0, 1, 2, 1, 0, 2, 2, 0, 1, 1, 0, 2]
def g_ts : List Int32 := [-1, -1, -1, -1, 1, 1, -1, -1, 1, -1, 1, 1, 1, 1, 1, 1, 1, 1]
theorem gW_get (cA : Nat → ClassId) (ad : Nat → Nat) (I : Nat → Int32) (A : Nat → Nat → Int32) (L : Nat → Int64) {a : Nat} (h : a < 70) : (gW cA ad I A L)[a]? = some (ad a, g_cell cA ad I A L a) := by
  unfold gW
  rw [List.getElem?_map, List.getElem?_range h]; rfl
theorem gW_len (cA : Nat → ClassId) (ad : Nat → Nat) (I : Nat → Int32) (A : Nat → Nat → Int32) (L : Nat → Int64) : (gW cA ad I A L).length = 70 := by simp [gW]
theorem gW_lt {cA : Nat → ClassId} {ad : Nat → Nat} {I : Nat → Int32} {A : Nat → Nat → Int32} {L : Nat → Int64} {a : Nat} {q : Nat × va_E} (h : (gW cA ad I A L)[a]? = some q) : a < 70 ∧ q = (ad a, g_cell cA ad I A L a) := by
  have h1 : a < 70 := by
    have := (List.getElem?_eq_some_iff.mp h).1
    rwa [gW_len] at this
  rw [gW_get _ _ _ _ _ h1] at h
  exact ⟨h1, (Option.some.inj h).symm⟩
theorem gW_D {cA : Nat → ClassId} {ad : Nat → Nat} {I : Nat → Int32} {A : Nat → Nat → Int32} {L : Nat → Int64} (hj : ∀ a b, a < 70 → b < 70 → ad a = ad b → a = b) : va_D (gA ad) (gW cA ad I A L) := by
  refine ⟨fun i j p q hp hq h => ?_, fun k q hq => ?_⟩
  · obtain ⟨h1, rfl⟩ := gW_lt hp
    obtain ⟨h2, rfl⟩ := gW_lt hq
    exact hj i j h1 h2 h
  · obtain ⟨h1, rfl⟩ := gW_lt hq
    exact ⟨k, h1, rfl⟩
theorem gW_set {cA : Nat → ClassId} {ad : Nat → Nat} {I I' : Nat → Int32} {A A' : Nat → Nat → Int32} {L L' : Nat → Int64} {a : Nat} {e : va_E} (he : a < 70 → g_cell cA ad I' A' L' a = e) (ho : ∀ b, b < 70 → b ≠ a → g_cell cA ad I' A' L' b = g_cell cA ad I A L b) : (gW cA ad I A L).set a (ad a, e) = gW cA ad I' A' L' := by
  apply List.ext_getElem?
  intro j
  rw [List.getElem?_set]
  by_cases hj : j < 70
  · by_cases h : a = j
    · subst h
      rw [if_pos rfl, if_pos (by rw [gW_len]; exact hj), gW_get _ _ _ _ _ hj, he hj]
    · rw [if_neg h, gW_get _ _ _ _ _ hj, gW_get _ _ _ _ _ hj, ho j hj (fun q => h q.symm)]
  · have h1 : ∀ I A L, (gW cA ad I A L)[j]? = none := fun I A L => List.getElem?_eq_none (by rw [gW_len]; omega)
    by_cases h : a = j
    · subst h
      rw [if_pos rfl, if_neg (by rw [gW_len]; exact hj), h1]
    · rw [if_neg h, h1, h1]
theorem g_fds_le (ci : Nat) : (g_fds ci).length ≤ 16 := by
  by_cases h : ci < 8
  · exact (by decide : ∀ ci, ci < 8 → (g_fds ci).length ≤ 16) ci h
  · have : g_fds ci = [] := by
      unfold g_fds
      rw [List.getD_eq_getElem?_getD, List.getElem?_eq_none (by simp [g_fdl]; omega)]; rfl
    rw [this]; exact Nat.zero_le _
theorem g_fs_get (ad : Nat → Nat) (I : Nat → Int32) (L : Nat → Int64) (a ci : Nat) {k : Nat} {f : Nat × Nat} (h : (g_fds ci)[k]? = some f) : (g_fs ad I L a ci)[k]? = some (g_val ad I L a k f) := by
  unfold g_fs
  have hk := (List.getElem?_eq_some_iff.mp h).1
  rw [List.getElem?_map, List.getElem?_range hk]
  simp [List.getD_eq_getElem?_getD, h]
theorem g_fs_len (ad : Nat → Nat) (I : Nat → Int32) (L : Nat → Int64) (a ci : Nat) : (g_fs ad I L a ci).length = (g_fds ci).length := by simp [g_fs]
theorem g_fs_up {ad : Nat → Nat} {I I' : Nat → Int32} {L L' : Nat → Int64} {a ci k : Nat} {f : Nat × Nat} {v : Value} (h : (g_fds ci)[k]? = some f) (hv : g_val ad I' L' a k f = v) (hI : ∀ j, j < 16 → j ≠ k → I' (16 * a + j) = I (16 * a + j)) (hL : ∀ j, j < 16 → j ≠ k → L' (16 * a + j) = L (16 * a + j)) : g_fs ad I' L' a ci = (g_fs ad I L a ci).set k v := by
  apply List.ext_getElem?
  intro j
  rw [List.getElem?_set]
  have hk := (List.getElem?_eq_some_iff.mp h).1
  by_cases hj : j < (g_fds ci).length
  · have hfj : (g_fds ci)[j]? = some ((g_fds ci)[j]) := List.getElem?_eq_getElem hj
    by_cases e : k = j
    · subst e
      rw [if_pos rfl, if_pos (by rw [g_fs_len]; exact hk), g_fs_get ad I' L' a ci h, hv]
    · rw [if_neg e, g_fs_get ad I' L' a ci hfj, g_fs_get ad I L a ci hfj]
      have h16 := g_fds_le ci
      unfold g_val
      rw [hI j (by omega) (fun q => e q.symm), hL j (by omega) (fun q => e q.symm)]
  · have h1 : ∀ I L, (g_fs ad I L a ci)[j]? = none := fun I L => List.getElem?_eq_none (by rw [g_fs_len]; omega)
    rw [if_neg (by omega), h1, h1]
theorem g_fs_same {ad : Nat → Nat} {I I' : Nat → Int32} {L L' : Nat → Int64} {a ci : Nat} (hI : ∀ j, j < 16 → I' (16 * a + j) = I (16 * a + j)) (hL : ∀ j, j < 16 → L' (16 * a + j) = L (16 * a + j)) : g_fs ad I' L' a ci = g_fs ad I L a ci := by
  unfold g_fs
  apply List.map_congr_left
  intro k hk
  have h16 := g_fds_le ci
  have hk2 := List.mem_range.mp hk
  unfold g_val
  rw [hI k (by omega), hL k (by omega)]
/-! the words of the tables -/
def gT : List Cond := lw_tbl.filter goodWord
def g_nest : Cond → Bool
  | .fieldLinkNest .. => true
  | .methodLinkNest .. => true
  | _ => false
theorem gT_good (w : Cond) (h : w ∈ gT) : (w.onTables && w.keeps) = true ∨ ∃ ty, w = .arrayClass ty := good_of_word (List.mem_filter.mp h).2
/-! what is known of a state: the classes, the links between nest mates, the two rows of the turns (cells 70, 71) -/
def gF (dC : Nat → ClassId) (dI : Nat → Nat → Nat) (ad : Nat → Nat) (cA : Nat → ClassId) (s : State) : Prop :=
  va_K (dC, dI) vwCl (gTy cA) s ∧ (∀ w ∈ lw_tbl, g_nest w = true → va_Nw w s) ∧ (∀ a b, a < 70 → b < 70 → ad a = ad b → a = b) ∧
  (va_Z RX6 "TURN_FROM" "[I" (.ref (ad 70)) (gA ad) s s.heap ∧ va_T .int (ad 70) 18 (fun j => .int (g_tf.getD j 0)) (gA ad) s s.heap) ∧
  (va_Z RX6 "TURN_SIGN" "[I" (.ref (ad 71)) (gA ad) s s.heap ∧ va_T .int (ad 71) 18 (fun j => .int (g_ts.getD j 0)) (gA ad) s s.heap)
theorem g_nest_move {w : Cond} (hw : g_nest w = true) {s U : State} (hW : s.WarmedH U.vm) (h : va_Nw w s) : va_Nw w U := by
  cases w <;> first | exact va_Nw.warmF hW h | exact va_Nw.warmM hW h | (simp [g_nest] at hw)
theorem g_nest_on {w : Cond} (hw : g_nest w = true) : w.onTables = true := by
  cases w <;> first | rfl | (simp [g_nest] at hw)
theorem gF.moved {dC : Nat → ClassId} {dI : Nat → Nat → Nat} {ad : Nat → Nat} {cA : Nat → ClassId} {s U : State} {H : Heap} {locs : List Loc} (h : gF dC dI ad cA s) (hS : va_S (gA ad) s.heap H locs) (hU : U.heap = H) (hW : s.WarmedH U.vm) : gF dC dI ad cA U := by
  obtain ⟨h1, h2, h3, ⟨h4, h5⟩, h6, h7⟩ := h
  subst hU
  exact ⟨va_K.moved hW.alike h1, fun w a b => g_nest_move b hW (h2 w a b), h3, ⟨(h4.moved hW.alike).kept hS.2.1, (h5.moved hW.alike).kept hS.2.1⟩, (h6.moved hW.alike).kept hS.2.1, (h7.moved hW.alike).kept hS.2.1⟩
theorem gF.calling {dC : Nat → ClassId} {dI : Nat → Nat → Nat} {ad : Nat → Nat} {cA : Nat → ClassId} {U : State} (h : gF dC dI ad cA U) (g : JFrame) (mk : MethodId) (a : Array Value) : gF dC dI ad cA (U.calling g mk a) := by
  obtain ⟨h1, h2, h3, ⟨h4, h5⟩, h6, h7⟩ := h
  have e : U.vm.Alike (U.calling g mk a).vm := Vm.Alike.refl U.vm
  exact ⟨va_K.moved (u := U) (U := U.calling g mk a) e h1, fun w wa wb => va_Nw.same (u := U) (U := U.calling g mk a) (g_nest_on wb) rfl (h2 w wa wb), h3, ⟨h4.moved e, h5.moved e⟩, h6.moved e, h7.moved e⟩
/-! values, locals -/
def cv (ad : Nat → Nat) (v : Value) : Value := match v with
  | .ref a => .ref (ad a)
  | v => v
def gPr (ad : Nat → Nat) (lc : List (Option Value)) : List (Nat × Value) := (List.range lc.length).filterMap (fun i => ((lc[i]?).bind id).map (fun v => (i, cv ad v)))
theorem gPr_mem {ad : Nat → Nat} {lc : List (Option Value)} {q : Nat × Value} : q ∈ gPr ad lc ↔ ∃ v, lc[q.1]? = some (some v) ∧ q.2 = cv ad v := by
  unfold gPr
  rw [List.mem_filterMap]
  constructor
  · rintro ⟨i, hi, h⟩
    cases hx : lc[i]? with
    | none => rw [hx] at h; cases h
    | some o =>
      cases o with
      | none => rw [hx] at h; cases h
      | some v =>
        rw [hx] at h
        cases h
        exact ⟨v, hx, rfl⟩
  · rintro ⟨v, h1, h2⟩
    refine ⟨q.1, List.mem_range.mpr (List.getElem?_eq_some_iff.mp h1).1, ?_⟩
    rw [h1]
    show some (q.1, cv ad v) = some q
    rw [← h2]
theorem gPr_at {ad : Nat → Nat} {ls : Array Slot} {nL : Nat} {lc : List (Option Value)} (h : lv_has ls nL (gPr ad lc)) {i : Nat} {v : Value} (hv : lc[i]? = some (some v)) : ls[i]? = some (.val (cv ad v)) := h.2.2 (i, cv ad v) (gPr_mem.mpr ⟨v, hv, rfl⟩)
def gLe : List (Option Value) → List (Option Value) → Prop
  | [], _ => True
  | none :: t, _ :: u => gLe t u
  | some v :: t, some w :: u => v = w ∧ gLe t u
  | _, _ => False
theorem gLe_get : ∀ {a b : List (Option Value)}, gLe a b → ∀ {i : Nat} {v : Value}, a[i]? = some (some v) → b[i]? = some (some v)
  | [], _, _, i, v, h => by simp at h
  | none :: t, [], hh, i, v, h => by simp [gLe] at hh
  | some _ :: t, [], hh, i, v, h => by simp [gLe] at hh
  | some _ :: t, none :: u, hh, i, v, h => by simp [gLe] at hh
  | none :: t, x :: u, hh, i, v, h => by
    cases i with
    | zero => simp at h
    | succ i => simpa using gLe_get (a := t) (b := u) (by simpa [gLe] using hh) (by simpa using h)
  | some w :: t, some x :: u, hh, i, v, h => by
    obtain ⟨rfl, h2⟩ : w = x ∧ gLe t u := by simpa [gLe] using hh
    cases i with
    | zero => simpa using h
    | succ i => simpa using gLe_get (a := t) (b := u) h2 (by simpa using h)
theorem gPr_le {ad : Nat → Nat} {ls : Array Slot} {nL : Nat} {a b : List (Option Value)} (hh : gLe a b) (h : lv_has ls nL (gPr ad b)) : lv_has ls nL (gPr ad a) := by
  refine ⟨h.1, h.2.1, fun q hq => ?_⟩
  obtain ⟨v, h1, h2⟩ := gPr_mem.mp hq
  exact h.2.2 q (gPr_mem.mpr ⟨v, gLe_get hh h1, h2⟩)
/-- the place ahead of i holds no long that is known -/
def gok (lc : List (Option Value)) : Nat → Bool
  | 0 => true
  | i + 1 => match lc[i]? with
    | some (some (.long _)) => false
    | some (some (.double _)) => false
    | _ => true
theorem gok_cat {ad : Nat → Nat} {lc : List (Option Value)} {j : Nat} (h : gok lc (j + 1) = true) {v : Value} (hv : lc[j]? = some (some v)) : ¬ (cv ad v).category = 2 := by
  simp only [gok, hv] at h
  cases v <;> simp_all [cv, Value.category]
theorem gPr_st1 {ad : Nat → Nat} {ls' : Array Slot} {nL : Nat} {lc : List (Option Value)} {i : Nat} {v : Value} (hok : gok lc i = true) (h : lv_has ls' nL ((i, cv ad v) :: (gPr ad lc).filter (fun q => !(q.1 == i) && !(q.1 + 1 == i && q.2.category == 2)))) : lv_has ls' nL (gPr ad (lc.set i (some v))) := by
  refine ⟨h.1, h.2.1, fun q hq => ?_⟩
  obtain ⟨w, h1, h2⟩ := gPr_mem.mp hq
  rw [List.getElem?_set] at h1
  by_cases e : i = q.1
  · rw [if_pos e] at h1
    split at h1
    next => 
      cases h1
      exact h.2.2 q (by rw [show q = (i, cv ad v) from Prod.ext e.symm h2]; exact List.mem_cons_self)
    next => cases h1
  · rw [if_neg e] at h1
    refine h.2.2 q (List.mem_cons_of_mem _ (List.mem_filter.mpr ⟨gPr_mem.mpr ⟨w, h1, h2⟩, ?_⟩))
    have e1 : (q.1 == i) = false := by simpa using fun z => e z.symm
    rw [e1]
    by_cases e2 : q.1 + 1 = i
    · subst e2
      have := gok_cat (ad := ad) hok h1
      rw [h2]
      simp [this]
    · simp [e2]
theorem gPr_st2 {ad : Nat → Nat} {ls' : Array Slot} {nL : Nat} {lc : List (Option Value)} {i : Nat} {v : Value} (hok : gok lc i = true) (h : lv_has ls' nL ((i, cv ad v) :: (gPr ad lc).filter (fun q => !(q.1 == i) && (!(q.1 == i + 1) && !(q.1 + 1 == i && q.2.category == 2))))) : lv_has ls' nL (gPr ad ((lc.set i (some v)).set (i + 1) none)) := by
  refine ⟨h.1, h.2.1, fun q hq => ?_⟩
  obtain ⟨w, h1, h2⟩ := gPr_mem.mp hq
  rw [List.getElem?_set] at h1
  by_cases e0 : i + 1 = q.1
  · rw [if_pos e0] at h1
    split at h1 <;> cases h1
  rw [if_neg e0, List.getElem?_set] at h1
  by_cases e : i = q.1
  · rw [if_pos e] at h1
    split at h1
    next => 
      cases h1
      exact h.2.2 q (by rw [show q = (i, cv ad v) from Prod.ext e.symm h2]; exact List.mem_cons_self)
    next => cases h1
  · rw [if_neg e] at h1
    refine h.2.2 q (List.mem_cons_of_mem _ (List.mem_filter.mpr ⟨gPr_mem.mpr ⟨w, h1, h2⟩, ?_⟩))
    have e1 : (q.1 == i) = false := by simpa using fun z => e z.symm
    have e3 : (q.1 == i + 1) = false := by simpa using fun z => e0 z.symm
    rw [e1, e3]
    by_cases e2 : q.1 + 1 = i
    · subst e2
      have := gok_cat (ad := ad) hok h1
      rw [h2]
      simp [this]
    · simp [e2]
/-! the judgement -/
abbrev gRm (d : Nat) : Room := { frames := d, cells := 0, slots := 0, locals := 39 * d }
def gQ (dC : Nat → ClassId) (dI : Nat → Nat → Nat) (cA : Nat → ClassId) (ad : Nat → Nat) (r : gR) : Array Value → State → Outcome → State → Prop := fun _ st oc t => (oc = .returned (r.1.map (cv ad)) ∧ va_P (dC, dI) vwCl (gW cA ad r.2.1 r.2.2.1 r.2.2.2) t.heap) ∧ va_F (gA ad) st t
def gCx (own : String) (cc : ByteArray) (nL : Nat) (ret : Option FieldType) (p : Program) (s : State) (m : MethodId) (args : Array Value) (meth : Method) (c : Code) (dC : Nat → ClassId) (dI : Nat → Nat → Nat) (ad : Nat → Nat) (cA : Nat → ClassId) : Prop :=
  p.tables.exec = Jvm.exec ∧ c.code = cc ∧ meth.sig.returnType = ret ∧ c.maxLocals = nL ∧ s.vm.findClass own = some m.cls ∧ (∀ w ∈ gT, w.before args s = true) ∧ meth.locks = false ∧ gF dC dI ad cA s
def Ev (own : String) (cc : ByteArray) (nL : Nat) (ret : Option FieldType) (d : Nat) (pc : Nat) (lc : List (Option Value)) (st : List Value) (I : Nat → Int32) (A : Nat → Nat → Int32) (L : Nat → Int64) (r : gR) : Prop :=
  ∀ (p : Program) (l : Launch) (e : Env) (s : State) (m : MethodId) (args : Array Value) (below : List Frame) (meth : Method) (c : Code) (dC : Nat → ClassId) (dI : Nat → Nat → Nat) (ad : Nat → Nat) (cA : Nat → ClassId), gCx own cc nL ret p s m args meth c dC dI ad cA → ∀ (H : Heap) (locs : List Loc) (ls : Array Slot), va_P (dC, dI) vwCl (gW cA ad I A L) H → va_S (gA ad) s.heap H locs → lv_has ls nL (gPr ad lc) →
    W p l e (gRm d) s m args below meth c H locs 0 0 (MQ below (gQ dC dI cA ad r) args s 0 0 (gA ad)) (F0 m pc ls (st.map (cv ad)))

section ERules
variable {own : String} {cc : ByteArray} {nL : Nat} {ret : Option FieldType} {d : Nat} {pc : Nat} {lc : List (Option Value)} {st : List Value} {I : Nat → Int32} {A : Nat → Nat → Int32} {L : Nat → Int64} {r : gR}
theorem e_iconst {n : Int} {v : Int32} (hv : Int32.ofInt n = v) {pc' : Nat} (hd : decode cc pc = .ok (.iconst n, 1)) (hp : pc + 1 = pc') (k : Ev own cc nL ret d pc' lc (.int v :: st) I A L r) : Ev own cc nL ret d pc lc (st) I A L r := by
  subst hp
  intro p l e s m args below meth c dC dI ad cA hC H locs ls hP hS hl
  exact lv_iconst hC.1 hC.2.1 hd hv (k p l e s m args below meth c dC dI ad cA hC H locs ls hP hS hl)

theorem e_bipush {n : Int} {v : Int32} (hv : (Int8.ofInt n).toInt32 = v) {pc' : Nat} (hd : decode cc pc = .ok (.bipush n, 2)) (hp : pc + 2 = pc') (k : Ev own cc nL ret d pc' lc (.int v :: st) I A L r) : Ev own cc nL ret d pc lc (st) I A L r := by
  subst hp
  intro p l e s m args below meth c dC dI ad cA hC H locs ls hP hS hl
  exact lv_bipush hC.1 hC.2.1 hd hv (k p l e s m args below meth c dC dI ad cA hC H locs ls hP hS hl)

theorem e_sipush {n : Int} {v : Int32} (hv : (Int16.ofInt n).toInt32 = v) {pc' : Nat} (hd : decode cc pc = .ok (.sipush n, 3)) (hp : pc + 3 = pc') (k : Ev own cc nL ret d pc' lc (.int v :: st) I A L r) : Ev own cc nL ret d pc lc (st) I A L r := by
  subst hp
  intro p l e s m args below meth c dC dI ad cA hC H locs ls hP hS hl
  exact lv_sipush hC.1 hC.2.1 hd hv (k p l e s m args below meth c dC dI ad cA hC H locs ls hP hS hl)

theorem e_lconst {n : Fin 2} {v : Int64} (hv : Int64.ofNat (n : Nat) = v) {pc' : Nat} (hd : decode cc pc = .ok (.lconst n, 1)) (hp : pc + 1 = pc') (k : Ev own cc nL ret d pc' lc (.long v :: st) I A L r) : Ev own cc nL ret d pc lc (st) I A L r := by
  subst hp
  intro p l e s m args below meth c dC dI ad cA hC H locs ls hP hS hl
  exact lv_lconst hC.1 hC.2.1 hd hv (k p l e s m args below meth c dC dI ad cA hC H locs ls hP hS hl)

theorem e_iload_n {k0 : Fin 4} {i : Nat} {x : Int32} (hi : (k0 : Nat) = i) (hv : lc[i]? = some (some (.int x))) {pc' : Nat} (hd : decode cc pc = .ok (.iload_n k0, 1)) (hp : pc + 1 = pc') (k : Ev own cc nL ret d pc' lc (.int x :: st) I A L r) : Ev own cc nL ret d pc lc (st) I A L r := by
  subst hp
  intro p l e s m args below meth c dC dI ad cA hC H locs ls hP hS hl
  exact lv_iload_n hC.1 hC.2.1 hd hi (gPr_at hl hv) (k p l e s m args below meth c dC dI ad cA hC H locs ls hP hS hl)

theorem e_iload {i : Nat} {x : Int32} (hv : lc[i]? = some (some (.int x))) {pc' : Nat} (hd : decode cc pc = .ok (.iload i, 2)) (hp : pc + 2 = pc') (k : Ev own cc nL ret d pc' lc (.int x :: st) I A L r) : Ev own cc nL ret d pc lc (st) I A L r := by
  subst hp
  intro p l e s m args below meth c dC dI ad cA hC H locs ls hP hS hl
  exact lv_iload hC.1 hC.2.1 hd (gPr_at hl hv) (k p l e s m args below meth c dC dI ad cA hC H locs ls hP hS hl)

theorem e_lload_n {k0 : Fin 4} {i : Nat} {x : Int64} (hi : (k0 : Nat) = i) (hv : lc[i]? = some (some (.long x))) {pc' : Nat} (hd : decode cc pc = .ok (.lload_n k0, 1)) (hp : pc + 1 = pc') (k : Ev own cc nL ret d pc' lc (.long x :: st) I A L r) : Ev own cc nL ret d pc lc (st) I A L r := by
  subst hp
  intro p l e s m args below meth c dC dI ad cA hC H locs ls hP hS hl
  exact lv_lload_n hC.1 hC.2.1 hd hi (gPr_at hl hv) (k p l e s m args below meth c dC dI ad cA hC H locs ls hP hS hl)

theorem e_lload {i : Nat} {x : Int64} (hv : lc[i]? = some (some (.long x))) {pc' : Nat} (hd : decode cc pc = .ok (.lload i, 2)) (hp : pc + 2 = pc') (k : Ev own cc nL ret d pc' lc (.long x :: st) I A L r) : Ev own cc nL ret d pc lc (st) I A L r := by
  subst hp
  intro p l e s m args below meth c dC dI ad cA hC H locs ls hP hS hl
  exact lv_lload hC.1 hC.2.1 hd (gPr_at hl hv) (k p l e s m args below meth c dC dI ad cA hC H locs ls hP hS hl)

theorem e_aload_n {k0 : Fin 4} {i : Nat} {x : Nat} (hi : (k0 : Nat) = i) (hv : lc[i]? = some (some (.ref x))) {pc' : Nat} (hd : decode cc pc = .ok (.aload_n k0, 1)) (hp : pc + 1 = pc') (k : Ev own cc nL ret d pc' lc (.ref x :: st) I A L r) : Ev own cc nL ret d pc lc (st) I A L r := by
  subst hp
  intro p l e s m args below meth c dC dI ad cA hC H locs ls hP hS hl
  exact lv_aload_n hC.1 hC.2.1 hd hi (gPr_at hl hv) (k p l e s m args below meth c dC dI ad cA hC H locs ls hP hS hl)

theorem e_aload {i : Nat} {x : Nat} (hv : lc[i]? = some (some (.ref x))) {pc' : Nat} (hd : decode cc pc = .ok (.aload i, 2)) (hp : pc + 2 = pc') (k : Ev own cc nL ret d pc' lc (.ref x :: st) I A L r) : Ev own cc nL ret d pc lc (st) I A L r := by
  subst hp
  intro p l e s m args below meth c dC dI ad cA hC H locs ls hP hS hl
  exact lv_aload hC.1 hC.2.1 hd (gPr_at hl hv) (k p l e s m args below meth c dC dI ad cA hC H locs ls hP hS hl)

theorem e_istore_n {i : Nat} {x : Int32} {k0 : Fin 4} {pc' : Nat} {lc' : List (Option Value)} (hi : (k0 : Nat) = i) (hd : decode cc pc = .ok (.istore_n k0, 1)) (hp : pc + 1 = pc') (hn : i < nL) (hok : gok lc i = true) (hlc : (lc.set i (some (.int x))) = lc') (k : Ev own cc nL ret d pc' lc' (st) I A L r) : Ev own cc nL ret d pc lc (.int x :: st) I A L r := by
  subst hp
  intro p l e s m args below meth c dC dI ad cA hC H locs ls hP hS hl
  exact lv_istore_n hC.1 hC.2.1 hd hi hl hn rfl (fun ls hl => by
    have hl := gPr_st1 (ad := ad) (v := .int x) hok hl
    exact (k p l e s m args below meth c dC dI ad cA hC H locs ls hP hS (by rw [hlc] at hl; exact hl)))

theorem e_istore {i : Nat} {x : Int32} {pc' : Nat} {lc' : List (Option Value)} (hd : decode cc pc = .ok (.istore i, 2)) (hp : pc + 2 = pc') (hn : i < nL) (hok : gok lc i = true) (hlc : (lc.set i (some (.int x))) = lc') (k : Ev own cc nL ret d pc' lc' (st) I A L r) : Ev own cc nL ret d pc lc (.int x :: st) I A L r := by
  subst hp
  intro p l e s m args below meth c dC dI ad cA hC H locs ls hP hS hl
  exact lv_istore hC.1 hC.2.1 hd hl hn rfl (fun ls hl => by
    have hl := gPr_st1 (ad := ad) (v := .int x) hok hl
    exact (k p l e s m args below meth c dC dI ad cA hC H locs ls hP hS (by rw [hlc] at hl; exact hl)))

theorem e_lstore_n {i : Nat} {x : Int64} {k0 : Fin 4} {pc' : Nat} {lc' : List (Option Value)} (hi : (k0 : Nat) = i) (hd : decode cc pc = .ok (.lstore_n k0, 1)) (hp : pc + 1 = pc') (hn : i + 1 < nL) (hok : gok lc i = true) (hlc : ((lc.set i (some (.long x))).set (i + 1) none) = lc') (k : Ev own cc nL ret d pc' lc' (st) I A L r) : Ev own cc nL ret d pc lc (.long x :: st) I A L r := by
  subst hp
  intro p l e s m args below meth c dC dI ad cA hC H locs ls hP hS hl
  exact lv_lstore_n hC.1 hC.2.1 hd hi hl hn rfl (fun ls hl => by
    have hl := gPr_st2 (ad := ad) (v := .long x) hok hl
    exact (k p l e s m args below meth c dC dI ad cA hC H locs ls hP hS (by rw [hlc] at hl; exact hl)))

theorem e_lstore {i : Nat} {x : Int64} {pc' : Nat} {lc' : List (Option Value)} (hd : decode cc pc = .ok (.lstore i, 2)) (hp : pc + 2 = pc') (hn : i + 1 < nL) (hok : gok lc i = true) (hlc : ((lc.set i (some (.long x))).set (i + 1) none) = lc') (k : Ev own cc nL ret d pc' lc' (st) I A L r) : Ev own cc nL ret d pc lc (.long x :: st) I A L r := by
  subst hp
  intro p l e s m args below meth c dC dI ad cA hC H locs ls hP hS hl
  exact lv_lstore hC.1 hC.2.1 hd hl hn rfl (fun ls hl => by
    have hl := gPr_st2 (ad := ad) (v := .long x) hok hl
    exact (k p l e s m args below meth c dC dI ad cA hC H locs ls hP hS (by rw [hlc] at hl; exact hl)))

theorem e_astore_n {i : Nat} {x : Nat} {k0 : Fin 4} {pc' : Nat} {lc' : List (Option Value)} (hi : (k0 : Nat) = i) (hd : decode cc pc = .ok (.astore_n k0, 1)) (hp : pc + 1 = pc') (hn : i < nL) (hok : gok lc i = true) (hlc : (lc.set i (some (.ref x))) = lc') (k : Ev own cc nL ret d pc' lc' (st) I A L r) : Ev own cc nL ret d pc lc (.ref x :: st) I A L r := by
  subst hp
  intro p l e s m args below meth c dC dI ad cA hC H locs ls hP hS hl
  exact lv_astore_n hC.1 hC.2.1 hd hi hl hn rfl (fun ls hl => by
    have hl := gPr_st1 (ad := ad) (v := .ref x) hok hl
    exact (k p l e s m args below meth c dC dI ad cA hC H locs ls hP hS (by rw [hlc] at hl; exact hl)))

theorem e_astore {i : Nat} {x : Nat} {pc' : Nat} {lc' : List (Option Value)} (hd : decode cc pc = .ok (.astore i, 2)) (hp : pc + 2 = pc') (hn : i < nL) (hok : gok lc i = true) (hlc : (lc.set i (some (.ref x))) = lc') (k : Ev own cc nL ret d pc' lc' (st) I A L r) : Ev own cc nL ret d pc lc (.ref x :: st) I A L r := by
  subst hp
  intro p l e s m args below meth c dC dI ad cA hC H locs ls hP hS hl
  exact lv_astore hC.1 hC.2.1 hd hl hn rfl (fun ls hl => by
    have hl := gPr_st1 (ad := ad) (v := .ref x) hok hl
    exact (k p l e s m args below meth c dC dI ad cA hC H locs ls hP hS (by rw [hlc] at hl; exact hl)))

theorem e_iinc {i : Nat} {n : Int} {x v : Int32} {pc' : Nat} {lc' : List (Option Value)} (hd : decode cc pc = .ok (.iinc i n, 3)) (hp : pc + 3 = pc') (hv : lc[i]? = some (some (.int x))) (hw : x + Int32.ofInt n = v) (hn : i < nL) (hok : gok lc i = true) (hlc : lc.set i (some (.int v)) = lc') (k : Ev own cc nL ret d pc' lc' (st) I A L r) : Ev own cc nL ret d pc lc (st) I A L r := by
  subst hp
  intro p l e s m args below meth c dC dI ad cA hC H locs ls hP hS hl
  have hm : (i, Value.int x) ∈ gPr ad lc := gPr_mem.mpr ⟨.int x, hv, rfl⟩
  obtain ⟨kk, hkk⟩ := List.mem_iff_getElem?.mp hm
  exact lv_iinc hC.1 hC.2.1 hd hl hkk hw hn rfl (fun ls hl => by
    have hl := gPr_st1 (ad := ad) (v := .int v) hok hl
    exact (k p l e s m args below meth c dC dI ad cA hC H locs ls hP hS (by rw [hlc] at hl; exact hl)))

theorem e_iadd {x y : Int32} {pc' : Nat} (hd : decode cc pc = .ok (.iadd, 1)) (hp : pc + 1 = pc') (k : Ev own cc nL ret d pc' lc (.int (x + y) :: st) I A L r) : Ev own cc nL ret d pc lc (.int y :: .int x :: st) I A L r := by
  subst hp
  intro p l e s m args below meth c dC dI ad cA hC H locs ls hP hS hl
  exact lv_iadd hC.1 hC.2.1 hd (k p l e s m args below meth c dC dI ad cA hC H locs ls hP hS hl)

theorem e_isub {x y : Int32} {pc' : Nat} (hd : decode cc pc = .ok (.isub, 1)) (hp : pc + 1 = pc') (k : Ev own cc nL ret d pc' lc (.int (x - y) :: st) I A L r) : Ev own cc nL ret d pc lc (.int y :: .int x :: st) I A L r := by
  subst hp
  intro p l e s m args below meth c dC dI ad cA hC H locs ls hP hS hl
  exact lv_isub hC.1 hC.2.1 hd (k p l e s m args below meth c dC dI ad cA hC H locs ls hP hS hl)

theorem e_imul {x y : Int32} {pc' : Nat} (hd : decode cc pc = .ok (.imul, 1)) (hp : pc + 1 = pc') (k : Ev own cc nL ret d pc' lc (.int (x * y) :: st) I A L r) : Ev own cc nL ret d pc lc (.int y :: .int x :: st) I A L r := by
  subst hp
  intro p l e s m args below meth c dC dI ad cA hC H locs ls hP hS hl
  exact lv_imul hC.1 hC.2.1 hd (k p l e s m args below meth c dC dI ad cA hC H locs ls hP hS hl)

theorem e_iand {x y : Int32} {pc' : Nat} (hd : decode cc pc = .ok (.iand, 1)) (hp : pc + 1 = pc') (k : Ev own cc nL ret d pc' lc (.int (x &&& y) :: st) I A L r) : Ev own cc nL ret d pc lc (.int y :: .int x :: st) I A L r := by
  subst hp
  intro p l e s m args below meth c dC dI ad cA hC H locs ls hP hS hl
  exact lv_iand hC.1 hC.2.1 hd (k p l e s m args below meth c dC dI ad cA hC H locs ls hP hS hl)

theorem e_ior {x y : Int32} {pc' : Nat} (hd : decode cc pc = .ok (.ior, 1)) (hp : pc + 1 = pc') (k : Ev own cc nL ret d pc' lc (.int (x ||| y) :: st) I A L r) : Ev own cc nL ret d pc lc (.int y :: .int x :: st) I A L r := by
  subst hp
  intro p l e s m args below meth c dC dI ad cA hC H locs ls hP hS hl
  exact lv_ior hC.1 hC.2.1 hd (k p l e s m args below meth c dC dI ad cA hC H locs ls hP hS hl)

theorem e_ixor {x y : Int32} {pc' : Nat} (hd : decode cc pc = .ok (.ixor, 1)) (hp : pc + 1 = pc') (k : Ev own cc nL ret d pc' lc (.int (x ^^^ y) :: st) I A L r) : Ev own cc nL ret d pc lc (.int y :: .int x :: st) I A L r := by
  subst hp
  intro p l e s m args below meth c dC dI ad cA hC H locs ls hP hS hl
  exact lv_ixor hC.1 hC.2.1 hd (k p l e s m args below meth c dC dI ad cA hC H locs ls hP hS hl)

theorem e_ishl {x y : Int32} {pc' : Nat} (hd : decode cc pc = .ok (.ishl, 1)) (hp : pc + 1 = pc') (k : Ev own cc nL ret d pc' lc (.int (x <<< (y &&& 31)) :: st) I A L r) : Ev own cc nL ret d pc lc (.int y :: .int x :: st) I A L r := by
  subst hp
  intro p l e s m args below meth c dC dI ad cA hC H locs ls hP hS hl
  exact lv_ishl hC.1 hC.2.1 hd (k p l e s m args below meth c dC dI ad cA hC H locs ls hP hS hl)

theorem e_ishr {x y : Int32} {pc' : Nat} (hd : decode cc pc = .ok (.ishr, 1)) (hp : pc + 1 = pc') (k : Ev own cc nL ret d pc' lc (.int (x >>> (y &&& 31)) :: st) I A L r) : Ev own cc nL ret d pc lc (.int y :: .int x :: st) I A L r := by
  subst hp
  intro p l e s m args below meth c dC dI ad cA hC H locs ls hP hS hl
  exact lv_ishr hC.1 hC.2.1 hd (k p l e s m args below meth c dC dI ad cA hC H locs ls hP hS hl)

theorem e_idiv {x y : Int32} (hne : ¬ y = 0) {pc' : Nat} (hd : decode cc pc = .ok (.idiv, 1)) (hp : pc + 1 = pc') (k : Ev own cc nL ret d pc' lc (.int (x / y) :: st) I A L r) : Ev own cc nL ret d pc lc (.int y :: .int x :: st) I A L r := by
  subst hp
  intro p l e s m args below meth c dC dI ad cA hC H locs ls hP hS hl
  exact lv_idiv hC.1 hC.2.1 hd hne (k p l e s m args below meth c dC dI ad cA hC H locs ls hP hS hl)

theorem e_irem {x y : Int32} (hne : ¬ y = 0) {pc' : Nat} (hd : decode cc pc = .ok (.irem, 1)) (hp : pc + 1 = pc') (k : Ev own cc nL ret d pc' lc (.int (x - x / y * y) :: st) I A L r) : Ev own cc nL ret d pc lc (.int y :: .int x :: st) I A L r := by
  subst hp
  intro p l e s m args below meth c dC dI ad cA hC H locs ls hP hS hl
  exact lv_irem hC.1 hC.2.1 hd hne (k p l e s m args below meth c dC dI ad cA hC H locs ls hP hS hl)

theorem e_ineg {x : Int32} {pc' : Nat} (hd : decode cc pc = .ok (.ineg, 1)) (hp : pc + 1 = pc') (k : Ev own cc nL ret d pc' lc (.int (-x) :: st) I A L r) : Ev own cc nL ret d pc lc (.int x :: st) I A L r := by
  subst hp
  intro p l e s m args below meth c dC dI ad cA hC H locs ls hP hS hl
  exact lv_ineg hC.1 hC.2.1 hd (k p l e s m args below meth c dC dI ad cA hC H locs ls hP hS hl)

theorem e_iushr {x y : Int32} {pc' : Nat} (hd : decode cc pc = .ok (.iushr, 1)) (hp : pc + 1 = pc') (k : Ev own cc nL ret d pc' lc (.int ((x.toUInt32 >>> (y.toUInt32 &&& Int32.toUInt32 31)).toInt32) :: st) I A L r) : Ev own cc nL ret d pc lc (.int y :: .int x :: st) I A L r := by
  subst hp
  intro p l e s m args below meth c dC dI ad cA hC H locs ls hP hS hl
  exact lv_iushr hC.1 hC.2.1 hd rfl (k p l e s m args below meth c dC dI ad cA hC H locs ls hP hS hl)

theorem e_ladd {x y : Int64} {pc' : Nat} (hd : decode cc pc = .ok (.ladd, 1)) (hp : pc + 1 = pc') (k : Ev own cc nL ret d pc' lc (.long (x + y) :: st) I A L r) : Ev own cc nL ret d pc lc (.long y :: .long x :: st) I A L r := by
  subst hp
  intro p l e s m args below meth c dC dI ad cA hC H locs ls hP hS hl
  exact lv_ladd hC.1 hC.2.1 hd (k p l e s m args below meth c dC dI ad cA hC H locs ls hP hS hl)

theorem e_lsub {x y : Int64} {pc' : Nat} (hd : decode cc pc = .ok (.lsub, 1)) (hp : pc + 1 = pc') (k : Ev own cc nL ret d pc' lc (.long (x - y) :: st) I A L r) : Ev own cc nL ret d pc lc (.long y :: .long x :: st) I A L r := by
  subst hp
  intro p l e s m args below meth c dC dI ad cA hC H locs ls hP hS hl
  exact lv_lsub hC.1 hC.2.1 hd (k p l e s m args below meth c dC dI ad cA hC H locs ls hP hS hl)

theorem e_lmul {x y : Int64} {pc' : Nat} (hd : decode cc pc = .ok (.lmul, 1)) (hp : pc + 1 = pc') (k : Ev own cc nL ret d pc' lc (.long (x * y) :: st) I A L r) : Ev own cc nL ret d pc lc (.long y :: .long x :: st) I A L r := by
  subst hp
  intro p l e s m args below meth c dC dI ad cA hC H locs ls hP hS hl
  exact lv_lmul hC.1 hC.2.1 hd (k p l e s m args below meth c dC dI ad cA hC H locs ls hP hS hl)

theorem e_ldiv {x y : Int64} (hne : ¬ y = 0) {pc' : Nat} (hd : decode cc pc = .ok (.ldiv, 1)) (hp : pc + 1 = pc') (k : Ev own cc nL ret d pc' lc (.long (x / y) :: st) I A L r) : Ev own cc nL ret d pc lc (.long y :: .long x :: st) I A L r := by
  subst hp
  intro p l e s m args below meth c dC dI ad cA hC H locs ls hP hS hl
  exact lv_ldiv hC.1 hC.2.1 hd hne (k p l e s m args below meth c dC dI ad cA hC H locs ls hP hS hl)

theorem e_lrem {x y : Int64} (hne : ¬ y = 0) {pc' : Nat} (hd : decode cc pc = .ok (.lrem, 1)) (hp : pc + 1 = pc') (k : Ev own cc nL ret d pc' lc (.long (x - x / y * y) :: st) I A L r) : Ev own cc nL ret d pc lc (.long y :: .long x :: st) I A L r := by
  subst hp
  intro p l e s m args below meth c dC dI ad cA hC H locs ls hP hS hl
  exact lv_lrem hC.1 hC.2.1 hd hne (k p l e s m args below meth c dC dI ad cA hC H locs ls hP hS hl)

theorem e_lcmp {x y : Int64} {pc' : Nat} (hd : decode cc pc = .ok (.lcmp, 1)) (hp : pc + 1 = pc') (k : Ev own cc nL ret d pc' lc (.int (lg_cmp x y) :: st) I A L r) : Ev own cc nL ret d pc lc (.long y :: .long x :: st) I A L r := by
  subst hp
  intro p l e s m args below meth c dC dI ad cA hC H locs ls hP hS hl
  exact W.lcmp hC.1 hC.2.1 hd (k p l e s m args below meth c dC dI ad cA hC H locs ls hP hS hl)

theorem e_i2l {x : Int32} {pc' : Nat} (hd : decode cc pc = .ok (.i2l, 1)) (hp : pc + 1 = pc') (k : Ev own cc nL ret d pc' lc (.long x.toInt64 :: st) I A L r) : Ev own cc nL ret d pc lc (.int x :: st) I A L r := by
  subst hp
  intro p l e s m args below meth c dC dI ad cA hC H locs ls hP hS hl
  exact lv_i2l hC.1 hC.2.1 hd rfl (k p l e s m args below meth c dC dI ad cA hC H locs ls hP hS hl)

theorem e_l2i {x : Int64} {pc' : Nat} (hd : decode cc pc = .ok (.l2i, 1)) (hp : pc + 1 = pc') (k : Ev own cc nL ret d pc' lc (.int x.toInt32 :: st) I A L r) : Ev own cc nL ret d pc lc (.long x :: st) I A L r := by
  subst hp
  intro p l e s m args below meth c dC dI ad cA hC H locs ls hP hS hl
  exact lv_l2i hC.1 hC.2.1 hd rfl (k p l e s m args below meth c dC dI ad cA hC H locs ls hP hS hl)

theorem e_i2b {x : Int32} {pc' : Nat} (hd : decode cc pc = .ok (.i2b, 1)) (hp : pc + 1 = pc') (k : Ev own cc nL ret d pc' lc (.int x.toInt8.toInt32 :: st) I A L r) : Ev own cc nL ret d pc lc (.int x :: st) I A L r := by
  subst hp
  intro p l e s m args below meth c dC dI ad cA hC H locs ls hP hS hl
  exact lv_i2b hC.1 hC.2.1 hd rfl (k p l e s m args below meth c dC dI ad cA hC H locs ls hP hS hl)

theorem cv_cat (ad : Nat → Nat) (v : Value) : (cv ad v).category = v.category := by cases v <;> rfl
theorem e_dup {v : Value} (hv : v.category = 1) {pc' : Nat} (hd : decode cc pc = .ok (.dup, 1)) (hp : pc + 1 = pc') (k : Ev own cc nL ret d pc' lc (v :: v :: st) I A L r) : Ev own cc nL ret d pc lc (v :: st) I A L r := by
  subst hp
  intro p l e s m args below meth c dC dI ad cA hC H locs ls hP hS hl
  exact lv_dup hC.1 hC.2.1 hd ((cv_cat ad v).trans hv) (k p l e s m args below meth c dC dI ad cA hC H locs ls hP hS hl)

theorem e_pop {v : Value} (hv : v.category = 1) {pc' : Nat} (hd : decode cc pc = .ok (.pop, 1)) (hp : pc + 1 = pc') (k : Ev own cc nL ret d pc' lc (st) I A L r) : Ev own cc nL ret d pc lc (v :: st) I A L r := by
  subst hp
  intro p l e s m args below meth c dC dI ad cA hC H locs ls hP hS hl
  exact lv_pop hC.1 hC.2.1 hd ((cv_cat ad v).trans hv) (k p l e s m args below meth c dC dI ad cA hC H locs ls hP hS hl)

theorem e_dup2 {v w : Value} (hv : v.category = 1) (hw : w.category = 1) {pc' : Nat} (hd : decode cc pc = .ok (.dup2, 1)) (hp : pc + 1 = pc') (k : Ev own cc nL ret d pc' lc (v :: w :: v :: w :: st) I A L r) : Ev own cc nL ret d pc lc (v :: w :: st) I A L r := by
  subst hp
  intro p l e s m args below meth c dC dI ad cA hC H locs ls hP hS hl
  exact lv_dup2_11 hC.1 hC.2.1 hd ((cv_cat ad v).trans hv) ((cv_cat ad w).trans hw) (k p l e s m args below meth c dC dI ad cA hC H locs ls hP hS hl)

theorem e_ldc {n : Nat} {v : Int32} (hw : Cond.constant own n v ∈ gT) {pc' : Nat} (hd : decode cc pc = .ok (.ldc n, 2)) (hp : pc + 2 = pc') (k : Ev own cc nL ret d pc' lc (.int v :: st) I A L r) : Ev own cc nL ret d pc lc (st) I A L r := by
  subst hp
  intro p l e s m args below meth c dC dI ad cA hC H locs ls hP hS hl
  exact lv_ldc hC.1 hC.2.1 hC.2.2.2.2.1 (hC.2.2.2.2.2.1 _ hw) hd (k p l e s m args below meth c dC dI ad cA hC H locs ls hP hS hl)

theorem e_ldcw {n : Nat} {v : Int32} (hw : Cond.constant own n v ∈ gT) {pc' : Nat} (hd : decode cc pc = .ok (.ldc_w n, 3)) (hp : pc + 3 = pc') (k : Ev own cc nL ret d pc' lc (.int v :: st) I A L r) : Ev own cc nL ret d pc lc (st) I A L r := by
  subst hp
  intro p l e s m args below meth c dC dI ad cA hC H locs ls hP hS hl
  exact lv_ldcw hC.1 hC.2.1 hC.2.2.2.2.1 (hC.2.2.2.2.2.1 _ hw) hd (k p l e s m args below meth c dC dI ad cA hC H locs ls hP hS hl)

theorem e_ldc2 {n : Nat} {v : Int64} (hw : Cond.constantLong own n v ∈ gT) {pc' : Nat} (hd : decode cc pc = .ok (.ldc2_w n, 3)) (hp : pc + 3 = pc') (k : Ev own cc nL ret d pc' lc (.long v :: st) I A L r) : Ev own cc nL ret d pc lc (st) I A L r := by
  subst hp
  intro p l e s m args below meth c dC dI ad cA hC H locs ls hP hS hl
  exact lv_ldc2 hC.1 hC.2.1 hC.2.2.2.2.1 (hC.2.2.2.2.2.1 _ hw) hd (k p l e s m args below meth c dC dI ad cA hC H locs ls hP hS hl)

theorem e_goto {off : Int} {tgt : Nat} (hd : decode cc pc = .ok (.goto off, 3)) (ht : (pc : Int) + off = (tgt : Int)) (k : Ev own cc nL ret d tgt lc (st) I A L r) : Ev own cc nL ret d pc lc (st) I A L r := by
  intro p l e s m args below meth c dC dI ad cA hC H locs ls hP hS hl
  exact lv_goto hC.1 hC.2.1 hd ht (k p l e s m args below meth c dC dI ad cA hC H locs ls hP hS hl)
theorem e_weak {lc' : List (Option Value)} (hh : gLe lc' lc) (k : Ev own cc nL ret d pc lc' (st) I A L r) : Ev own cc nL ret d pc lc (st) I A L r := by
  intro p l e s m args below meth c dC dI ad cA hC H locs ls hP hS hl
  exact k p l e s m args below meth c dC dI ad cA hC H locs ls hP hS (gPr_le hh hl)
theorem e_ifnonnull {x : Nat} {off : Int} {tgt : Nat} (hd : decode cc pc = .ok (.ifnonnull off, 3)) (ht : (pc : Int) + off = (tgt : Int)) (k : Ev own cc nL ret d tgt lc (st) I A L r) : Ev own cc nL ret d pc lc (.ref x :: st) I A L r := by
  intro p l e s m args below meth c dC dI ad cA hC H locs ls hP hS hl
  exact lv_ifnonnull hC.1 hC.2.1 hd ht (k p l e s m args below meth c dC dI ad cA hC H locs ls hP hS hl)
theorem e_ifnull {x : Nat} {off : Int} {pc' : Nat} (hd : decode cc pc = .ok (.ifnull off, 3)) (hp : pc + 3 = pc') (k : Ev own cc nL ret d pc' lc (st) I A L r) : Ev own cc nL ret d pc lc (.ref x :: st) I A L r := by
  subst hp
  intro p l e s m args below meth c dC dI ad cA hC H locs ls hP hS hl
  exact lv_ifnull hC.1 hC.2.1 hd (k p l e s m args below meth c dC dI ad cA hC H locs ls hP hS hl)

theorem e_if_eq {τ : Type} {f g : Option τ} {t : τ} {x : Int32} {off : Int} {tgt pc' : Nat} (hd : decode cc pc = .ok (.ifCond .eq off, 3)) (ht : (pc : Int) + off = (tgt : Int)) (hp : pc + 3 = pc') (h : (if x = 0 then f else g) = some t) (kt : f = some t → Ev own cc nL ret d tgt lc (st) I A L r) (kf : g = some t → Ev own cc nL ret d pc' lc (st) I A L r) : Ev own cc nL ret d pc lc (.int x :: st) I A L r := by
  subst hp
  intro p l e s m args below meth c dC dI ad cA hC H locs ls hP hS hl
  exact lv_if_eq hC.1 hC.2.1 hd ht (fun q => by rw [if_pos q] at h; exact kt h p l e s m args below meth c dC dI ad cA hC H locs ls hP hS hl) (fun q => by rw [if_neg q] at h; exact kf h p l e s m args below meth c dC dI ad cA hC H locs ls hP hS hl)

theorem e_if_lt {τ : Type} {f g : Option τ} {t : τ} {x : Int32} {off : Int} {tgt pc' : Nat} (hd : decode cc pc = .ok (.ifCond .lt off, 3)) (ht : (pc : Int) + off = (tgt : Int)) (hp : pc + 3 = pc') (h : (if x < 0 then f else g) = some t) (kt : f = some t → Ev own cc nL ret d tgt lc (st) I A L r) (kf : g = some t → Ev own cc nL ret d pc' lc (st) I A L r) : Ev own cc nL ret d pc lc (.int x :: st) I A L r := by
  subst hp
  intro p l e s m args below meth c dC dI ad cA hC H locs ls hP hS hl
  exact lv_if_lt hC.1 hC.2.1 hd ht (fun q => by rw [if_pos q] at h; exact kt h p l e s m args below meth c dC dI ad cA hC H locs ls hP hS hl) (fun q => by rw [if_neg q] at h; exact kf h p l e s m args below meth c dC dI ad cA hC H locs ls hP hS hl)

theorem e_if_ge {τ : Type} {f g : Option τ} {t : τ} {x : Int32} {off : Int} {tgt pc' : Nat} (hd : decode cc pc = .ok (.ifCond .ge off, 3)) (ht : (pc : Int) + off = (tgt : Int)) (hp : pc + 3 = pc') (h : (if 0 ≤ x then f else g) = some t) (kt : f = some t → Ev own cc nL ret d tgt lc (st) I A L r) (kf : g = some t → Ev own cc nL ret d pc' lc (st) I A L r) : Ev own cc nL ret d pc lc (.int x :: st) I A L r := by
  subst hp
  intro p l e s m args below meth c dC dI ad cA hC H locs ls hP hS hl
  exact lv_if_ge hC.1 hC.2.1 hd ht (fun q => by rw [if_pos q] at h; exact kt h p l e s m args below meth c dC dI ad cA hC H locs ls hP hS hl) (fun q => by rw [if_neg q] at h; exact kf h p l e s m args below meth c dC dI ad cA hC H locs ls hP hS hl)

theorem e_if_gt {τ : Type} {f g : Option τ} {t : τ} {x : Int32} {off : Int} {tgt pc' : Nat} (hd : decode cc pc = .ok (.ifCond .gt off, 3)) (ht : (pc : Int) + off = (tgt : Int)) (hp : pc + 3 = pc') (h : (if 0 < x then f else g) = some t) (kt : f = some t → Ev own cc nL ret d tgt lc (st) I A L r) (kf : g = some t → Ev own cc nL ret d pc' lc (st) I A L r) : Ev own cc nL ret d pc lc (.int x :: st) I A L r := by
  subst hp
  intro p l e s m args below meth c dC dI ad cA hC H locs ls hP hS hl
  exact lv_if_gt hC.1 hC.2.1 hd ht (fun q => by rw [if_pos q] at h; exact kt h p l e s m args below meth c dC dI ad cA hC H locs ls hP hS hl) (fun q => by rw [if_neg q] at h; exact kf h p l e s m args below meth c dC dI ad cA hC H locs ls hP hS hl)

theorem e_if_le {τ : Type} {f g : Option τ} {t : τ} {x : Int32} {off : Int} {tgt pc' : Nat} (hd : decode cc pc = .ok (.ifCond .le off, 3)) (ht : (pc : Int) + off = (tgt : Int)) (hp : pc + 3 = pc') (h : (if x ≤ 0 then f else g) = some t) (kt : f = some t → Ev own cc nL ret d tgt lc (st) I A L r) (kf : g = some t → Ev own cc nL ret d pc' lc (st) I A L r) : Ev own cc nL ret d pc lc (.int x :: st) I A L r := by
  subst hp
  intro p l e s m args below meth c dC dI ad cA hC H locs ls hP hS hl
  exact lv_if_le hC.1 hC.2.1 hd ht (fun q => by rw [if_pos q] at h; exact kt h p l e s m args below meth c dC dI ad cA hC H locs ls hP hS hl) (fun q => by rw [if_neg q] at h; exact kf h p l e s m args below meth c dC dI ad cA hC H locs ls hP hS hl)

theorem e_icmp_eq {τ : Type} {f g : Option τ} {t : τ} {x y : Int32} {off : Int} {tgt pc' : Nat} (hd : decode cc pc = .ok (.if_icmp .eq off, 3)) (ht : (pc : Int) + off = (tgt : Int)) (hp : pc + 3 = pc') (h : (if x = y then f else g) = some t) (kt : f = some t → Ev own cc nL ret d tgt lc (st) I A L r) (kf : g = some t → Ev own cc nL ret d pc' lc (st) I A L r) : Ev own cc nL ret d pc lc (.int y :: .int x :: st) I A L r := by
  subst hp
  intro p l e s m args below meth c dC dI ad cA hC H locs ls hP hS hl
  exact lv_icmp_eq hC.1 hC.2.1 hd ht (fun q => by rw [if_pos q] at h; exact kt h p l e s m args below meth c dC dI ad cA hC H locs ls hP hS hl) (fun q => by rw [if_neg q] at h; exact kf h p l e s m args below meth c dC dI ad cA hC H locs ls hP hS hl)

theorem e_icmp_lt {τ : Type} {f g : Option τ} {t : τ} {x y : Int32} {off : Int} {tgt pc' : Nat} (hd : decode cc pc = .ok (.if_icmp .lt off, 3)) (ht : (pc : Int) + off = (tgt : Int)) (hp : pc + 3 = pc') (h : (if x < y then f else g) = some t) (kt : f = some t → Ev own cc nL ret d tgt lc (st) I A L r) (kf : g = some t → Ev own cc nL ret d pc' lc (st) I A L r) : Ev own cc nL ret d pc lc (.int y :: .int x :: st) I A L r := by
  subst hp
  intro p l e s m args below meth c dC dI ad cA hC H locs ls hP hS hl
  exact lv_icmp_lt hC.1 hC.2.1 hd ht (fun q => by rw [if_pos q] at h; exact kt h p l e s m args below meth c dC dI ad cA hC H locs ls hP hS hl) (fun q => by rw [if_neg q] at h; exact kf h p l e s m args below meth c dC dI ad cA hC H locs ls hP hS hl)

theorem e_icmp_ge {τ : Type} {f g : Option τ} {t : τ} {x y : Int32} {off : Int} {tgt pc' : Nat} (hd : decode cc pc = .ok (.if_icmp .ge off, 3)) (ht : (pc : Int) + off = (tgt : Int)) (hp : pc + 3 = pc') (h : (if y ≤ x then f else g) = some t) (kt : f = some t → Ev own cc nL ret d tgt lc (st) I A L r) (kf : g = some t → Ev own cc nL ret d pc' lc (st) I A L r) : Ev own cc nL ret d pc lc (.int y :: .int x :: st) I A L r := by
  subst hp
  intro p l e s m args below meth c dC dI ad cA hC H locs ls hP hS hl
  exact lv_icmp_ge hC.1 hC.2.1 hd ht (fun q => by rw [if_pos q] at h; exact kt h p l e s m args below meth c dC dI ad cA hC H locs ls hP hS hl) (fun q => by rw [if_neg q] at h; exact kf h p l e s m args below meth c dC dI ad cA hC H locs ls hP hS hl)

theorem e_icmp_gt {τ : Type} {f g : Option τ} {t : τ} {x y : Int32} {off : Int} {tgt pc' : Nat} (hd : decode cc pc = .ok (.if_icmp .gt off, 3)) (ht : (pc : Int) + off = (tgt : Int)) (hp : pc + 3 = pc') (h : (if y < x then f else g) = some t) (kt : f = some t → Ev own cc nL ret d tgt lc (st) I A L r) (kf : g = some t → Ev own cc nL ret d pc' lc (st) I A L r) : Ev own cc nL ret d pc lc (.int y :: .int x :: st) I A L r := by
  subst hp
  intro p l e s m args below meth c dC dI ad cA hC H locs ls hP hS hl
  exact lv_icmp_gt hC.1 hC.2.1 hd ht (fun q => by rw [if_pos q] at h; exact kt h p l e s m args below meth c dC dI ad cA hC H locs ls hP hS hl) (fun q => by rw [if_neg q] at h; exact kf h p l e s m args below meth c dC dI ad cA hC H locs ls hP hS hl)

theorem e_icmp_le {τ : Type} {f g : Option τ} {t : τ} {x y : Int32} {off : Int} {tgt pc' : Nat} (hd : decode cc pc = .ok (.if_icmp .le off, 3)) (ht : (pc : Int) + off = (tgt : Int)) (hp : pc + 3 = pc') (h : (if x ≤ y then f else g) = some t) (kt : f = some t → Ev own cc nL ret d tgt lc (st) I A L r) (kf : g = some t → Ev own cc nL ret d pc' lc (st) I A L r) : Ev own cc nL ret d pc lc (.int y :: .int x :: st) I A L r := by
  subst hp
  intro p l e s m args below meth c dC dI ad cA hC H locs ls hP hS hl
  exact lv_icmp_le hC.1 hC.2.1 hd ht (fun q => by rw [if_pos q] at h; exact kt h p l e s m args below meth c dC dI ad cA hC H locs ls hP hS hl) (fun q => by rw [if_neg q] at h; exact kf h p l e s m args below meth c dC dI ad cA hC H locs ls hP hS hl)

theorem e_if_ne {τ : Type} {f g : Option τ} {t : τ} {x : Int32} {off : Int} {tgt pc' : Nat} (hd : decode cc pc = .ok (.ifCond .ne off, 3)) (ht : (pc : Int) + off = (tgt : Int)) (hp : pc + 3 = pc') (h : (if x = 0 then g else f) = some t) (kt : f = some t → Ev own cc nL ret d tgt lc (st) I A L r) (kf : g = some t → Ev own cc nL ret d pc' lc (st) I A L r) : Ev own cc nL ret d pc lc (.int x :: st) I A L r := by
  subst hp
  intro p l e s m args below meth c dC dI ad cA hC H locs ls hP hS hl
  exact lv_if_ne hC.1 hC.2.1 hd ht (fun q => by rw [if_neg q] at h; exact kt h p l e s m args below meth c dC dI ad cA hC H locs ls hP hS hl) (fun q => by
    have q : x = 0 := q
    rw [if_pos q] at h; exact kf h p l e s m args below meth c dC dI ad cA hC H locs ls hP hS hl)
theorem e_icmp_ne {τ : Type} {f g : Option τ} {t : τ} {x y : Int32} {off : Int} {tgt pc' : Nat} (hd : decode cc pc = .ok (.if_icmp .ne off, 3)) (ht : (pc : Int) + off = (tgt : Int)) (hp : pc + 3 = pc') (h : (if x = y then g else f) = some t) (kt : f = some t → Ev own cc nL ret d tgt lc (st) I A L r) (kf : g = some t → Ev own cc nL ret d pc' lc (st) I A L r) : Ev own cc nL ret d pc lc (.int y :: .int x :: st) I A L r := by
  subst hp
  intro p l e s m args below meth c dC dI ad cA hC H locs ls hP hS hl
  exact lv_icmp_ne hC.1 hC.2.1 hd ht (fun q => by rw [if_neg q] at h; exact kt h p l e s m args below meth c dC dI ad cA hC H locs ls hP hS hl) (fun q => by
    have q : x = y := q
    rw [if_pos q] at h; exact kf h p l e s m args below meth c dC dI ad cA hC H locs ls hP hS hl)
/-- a switch: one case -/
theorem e_swIn {dflt lo hi : Int} {offs : Array Int} {len : Nat} {x : Int32} {off : Int} {tgt : Nat} (hd : decode cc pc = .ok (.tableswitch dflt lo hi offs, len)) (h1 : ¬ x.toInt < lo) (h2 : ¬ hi < x.toInt) (ho : offs[(x.toInt - lo).toNat]? = some off) (ht : (pc : Int) + off = (tgt : Int)) (k : Ev own cc nL ret d tgt lc (st) I A L r) : Ev own cc nL ret d pc lc (.int x :: st) I A L r := by
  intro p l e s m args below meth c dC dI ad cA hC H locs ls hP hS hl
  exact lv_tableIn hC.1 hC.2.1 hd h1 h2 ho ht (k p l e s m args below meth c dC dI ad cA hC H locs ls hP hS hl)
theorem e_swOut {dflt lo hi : Int} {offs : Array Int} {len : Nat} {x : Int32} {tgt : Nat} (hd : decode cc pc = .ok (.tableswitch dflt lo hi offs, len)) (h : x.toInt < lo ∨ hi < x.toInt) (ht : (pc : Int) + dflt = (tgt : Int)) (k : Ev own cc nL ret d tgt lc (st) I A L r) : Ev own cc nL ret d pc lc (.int x :: st) I A L r := by
  intro p l e s m args below meth c dC dI ad cA hC H locs ls hP hS hl
  exact lv_tableOut hC.1 hC.2.1 hd h ht (k p l e s m args below meth c dC dI ad cA hC H locs ls hP hS hl)
end ERules
end
section
theorem gin_r {big : List Cond} (ws : List Cond) (ps : List Nat) (hp : ws = ps.filterMap (fun i => big[i]?)) (h : ws.all goodWord = true) : ∀ w ∈ ws, w ∈ big.filter goodWord := by
  intro w hw
  have h1 := List.all_eq_true.mp h w hw
  rw [hp] at hw
  obtain ⟨i, -, hi⟩ := List.mem_filterMap.mp hw
  exact List.mem_filter.mpr ⟨List.mem_of_getElem? hi, h1⟩
theorem mw_0 : Cond.selects RX2 yX2_becomeBox yX2_becomeBox ∈ gT := List.mem_filter.mpr ⟨List.mem_of_getElem? (i := 0) (by decide +kernel), rfl⟩
theorem mw_1 : Cond.selects RX2 yX2_put yX2_put ∈ gT := List.mem_filter.mpr ⟨List.mem_of_getElem? (i := 1) (by decide +kernel), rfl⟩
theorem mw_2 : Cond.selects RX6 yX6_refuseBad yX6_refuseBad ∈ gT := List.mem_filter.mpr ⟨List.mem_of_getElem? (i := 2) (by decide +kernel), rfl⟩
theorem mw_3 : Cond.selects RX6 yX6_refuseFull yX6_refuseFull ∈ gT := List.mem_filter.mpr ⟨List.mem_of_getElem? (i := 3) (by decide +kernel), rfl⟩
theorem mw_4 : Cond.selects RX6 yX6_leaveState yX6_leaveState ∈ gT := List.mem_filter.mpr ⟨List.mem_of_getElem? (i := 4) (by decide +kernel), rfl⟩
theorem mw_5 : Cond.selects RX5 yX5_keep yX5_keep ∈ gT := List.mem_filter.mpr ⟨List.mem_of_getElem? (i := 5) (by decide +kernel), rfl⟩
theorem mw_6 : Cond.selects RX2 yX2_copyFrom yX2_copyFrom ∈ gT := List.mem_filter.mpr ⟨List.mem_of_getElem? (i := 6) (by decide +kernel), rfl⟩
theorem mw_7 : Cond.selects RX6 yX6_forgetCrystal yX6_forgetCrystal ∈ gT := List.mem_filter.mpr ⟨List.mem_of_getElem? (i := 7) (by decide +kernel), rfl⟩
theorem mw_8 : Cond.selects RX0 yX0_gather yX0_gather ∈ gT := List.mem_filter.mpr ⟨List.mem_of_getElem? (i := 8) (by decide +kernel), rfl⟩
theorem mw_9 : Cond.selects RX0 yX0_note yX0_note ∈ gT := List.mem_filter.mpr ⟨List.mem_of_getElem? (i := 9) (by decide +kernel), rfl⟩
theorem mw_10 : Cond.selects RX0 yX0_noteTurned yX0_noteTurned ∈ gT := List.mem_filter.mpr ⟨List.mem_of_getElem? (i := 10) (by decide +kernel), rfl⟩
theorem mw_11 : Cond.selects RX0 yX0_putInOrder yX0_putInOrder ∈ gT := List.mem_filter.mpr ⟨List.mem_of_getElem? (i := 11) (by decide +kernel), rfl⟩
theorem mw_12 : Cond.selects RX2 yX2_putFamily yX2_putFamily ∈ gT := List.mem_filter.mpr ⟨List.mem_of_getElem? (i := 12) (by decide +kernel), rfl⟩
theorem mw_13 : Cond.selects RX6 yX6_isPlane yX6_isPlane ∈ gT := List.mem_filter.mpr ⟨List.mem_of_getElem? (i := 13) (by decide +kernel), rfl⟩
theorem mw_14 : Cond.selects RX2 yX2_takeOut yX2_takeOut ∈ gT := List.mem_filter.mpr ⟨List.mem_of_getElem? (i := 14) (by decide +kernel), rfl⟩
theorem mw_15 : Cond.selects RX6 yX6_putDrawn yX6_putDrawn ∈ gT := List.mem_filter.mpr ⟨List.mem_of_getElem? (i := 15) (by decide +kernel), rfl⟩
theorem mw_16 : Cond.selects RX6 yX6_crystal yX6_crystal ∈ gT := List.mem_filter.mpr ⟨List.mem_of_getElem? (i := 16) (by decide +kernel), rfl⟩
theorem mw_17 : Cond.selects RX4 yX4_cut yX4_cut ∈ gT := List.mem_filter.mpr ⟨List.mem_of_getElem? (i := 17) (by decide +kernel), rfl⟩
theorem mw_18 : Cond.selects RX1 yX1_lay yX1_lay ∈ gT := List.mem_filter.mpr ⟨List.mem_of_getElem? (i := 18) (by decide +kernel), rfl⟩
theorem mw_19 : Cond.selects RX1 yX1_isLeftBy yX1_isLeftBy ∈ gT := List.mem_filter.mpr ⟨List.mem_of_getElem? (i := 19) (by decide +kernel), rfl⟩
theorem mw_20 : Cond.selects RX1 yX1_isLeftBehind yX1_isLeftBehind ∈ gT := List.mem_filter.mpr ⟨List.mem_of_getElem? (i := 20) (by decide +kernel), rfl⟩
theorem mw_21 : Cond.selects RX4 yX4_keepPoint yX4_keepPoint ∈ gT := List.mem_filter.mpr ⟨List.mem_of_getElem? (i := 21) (by decide +kernel), rfl⟩
theorem mw_22 : Cond.selects RX4 yX4_placeOf yX4_placeOf ∈ gT := List.mem_filter.mpr ⟨List.mem_of_getElem? (i := 22) (by decide +kernel), rfl⟩
theorem mw_23 : Cond.selects RX4 yX4_order yX4_order ∈ gT := List.mem_filter.mpr ⟨List.mem_of_getElem? (i := 23) (by decide +kernel), rfl⟩
theorem mw_24 : Cond.selects RX4 yX4_putCorner yX4_putCorner ∈ gT := List.mem_filter.mpr ⟨List.mem_of_getElem? (i := 24) (by decide +kernel), rfl⟩
theorem mw_25 : Cond.selects RX4 yX4_look yX4_look ∈ gT := List.mem_filter.mpr ⟨List.mem_of_getElem? (i := 25) (by decide +kernel), rfl⟩
theorem mw_26 : Cond.selects RX4 yX4_markCornersOn yX4_markCornersOn ∈ gT := List.mem_filter.mpr ⟨List.mem_of_getElem? (i := 26) (by decide +kernel), rfl⟩
theorem mw_27 : Cond.selects RX4 yX4_along yX4_along ∈ gT := List.mem_filter.mpr ⟨List.mem_of_getElem? (i := 27) (by decide +kernel), rfl⟩
theorem mw_28 : Cond.selects RX2 yX2_hasEarlierTwin yX2_hasEarlierTwin ∈ gT := List.mem_filter.mpr ⟨List.mem_of_getElem? (i := 28) (by decide +kernel), rfl⟩
theorem mw_29 : Cond.selects RX2 yX2_areSame yX2_areSame ∈ gT := List.mem_filter.mpr ⟨List.mem_of_getElem? (i := 29) (by decide +kernel), rfl⟩
theorem mw_30 : Cond.selects RX6 yX6_ofPlane yX6_ofPlane ∈ gT := List.mem_filter.mpr ⟨List.mem_of_getElem? (i := 30) (by decide +kernel), rfl⟩
theorem mw_31 : Cond.selects RX4 yX4_isShown yX4_isShown ∈ gT := List.mem_filter.mpr ⟨List.mem_of_getElem? (i := 31) (by decide +kernel), rfl⟩
theorem mw_32 : Cond.selects RX4 yX4_edgesOn yX4_edgesOn ∈ gT := List.mem_filter.mpr ⟨List.mem_of_getElem? (i := 32) (by decide +kernel), rfl⟩
theorem mw_33 : Cond.selects RX4 yX4_showing yX4_showing ∈ gT := List.mem_filter.mpr ⟨List.mem_of_getElem? (i := 33) (by decide +kernel), rfl⟩
theorem mw_34 : Cond.selects RX4 yX4_edges yX4_edges ∈ gT := List.mem_filter.mpr ⟨List.mem_of_getElem? (i := 34) (by decide +kernel), rfl⟩
theorem mw_35 : Cond.selects RX4 yX4_mostCornersOnPlane yX4_mostCornersOnPlane ∈ gT := List.mem_filter.mpr ⟨List.mem_of_getElem? (i := 35) (by decide +kernel), rfl⟩
theorem mw_36 : Cond.selects RX4 yX4_mostPlanesOnCorner yX4_mostPlanesOnCorner ∈ gT := List.mem_filter.mpr ⟨List.mem_of_getElem? (i := 36) (by decide +kernel), rfl⟩
theorem mw_37 : Cond.selects RX6 yX6_refuseNo yX6_refuseNo ∈ gT := List.mem_filter.mpr ⟨List.mem_of_getElem? (i := 37) (by decide +kernel), rfl⟩
theorem mw_38 : Cond.selects RX4 yX4_coordinate yX4_coordinate ∈ gT := List.mem_filter.mpr ⟨List.mem_of_getElem? (i := 38) (by decide +kernel), rfl⟩
theorem mw_39 : Cond.selects RX6 yX6_setFraction yX6_setFraction ∈ gT := List.mem_filter.mpr ⟨List.mem_of_getElem? (i := 39) (by decide +kernel), rfl⟩
theorem mw_40 : Cond.selects RX4 yX4_cornersOnBoth yX4_cornersOnBoth ∈ gT := List.mem_filter.mpr ⟨List.mem_of_getElem? (i := 40) (by decide +kernel), rfl⟩
theorem mw_41 : Cond.selects RX2 yX2_wayBetween yX2_wayBetween ∈ gT := List.mem_filter.mpr ⟨List.mem_of_getElem? (i := 41) (by decide +kernel), rfl⟩
theorem mw_42 : Cond.selects RX4 yX4_farthest yX4_farthest ∈ gT := List.mem_filter.mpr ⟨List.mem_of_getElem? (i := 42) (by decide +kernel), rfl⟩
theorem mw_43 : Cond.selects RX4 yX4_cornersAt yX4_cornersAt ∈ gT := List.mem_filter.mpr ⟨List.mem_of_getElem? (i := 43) (by decide +kernel), rfl⟩
theorem mw_44 : Cond.selects RX4 yX4_isKeptBy yX4_isKeptBy ∈ gT := List.mem_filter.mpr ⟨List.mem_of_getElem? (i := 44) (by decide +kernel), rfl⟩
theorem mw_45 : Cond.selects RX6 yX6_findSpare yX6_findSpare ∈ gT := List.mem_filter.mpr ⟨List.mem_of_getElem? (i := 45) (by decide +kernel), rfl⟩
theorem mw_46 : Cond.selects RX6 yX6_cornersWithout yX6_cornersWithout ∈ gT := List.mem_filter.mpr ⟨List.mem_of_getElem? (i := 46) (by decide +kernel), rfl⟩
theorem mw_47 : Cond.selects RX3 yX3_readAll yX3_readAll ∈ gT := List.mem_filter.mpr ⟨List.mem_of_getElem? (i := 47) (by decide +kernel), rfl⟩
theorem mw_48 : Cond.selects RX3 yX3_readOne yX3_readOne ∈ gT := List.mem_filter.mpr ⟨List.mem_of_getElem? (i := 48) (by decide +kernel), rfl⟩
theorem mw_49 : Cond.selects RX3 yX3_isColonAhead yX3_isColonAhead ∈ gT := List.mem_filter.mpr ⟨List.mem_of_getElem? (i := 49) (by decide +kernel), rfl⟩
theorem mw_50 : Cond.selects RX3 yX3_readTurns yX3_readTurns ∈ gT := List.mem_filter.mpr ⟨List.mem_of_getElem? (i := 50) (by decide +kernel), rfl⟩
theorem mw_51 : Cond.selects RX3 yX3_look yX3_look ∈ gT := List.mem_filter.mpr ⟨List.mem_of_getElem? (i := 51) (by decide +kernel), rfl⟩
theorem mw_52 : Cond.selects RX3 yX3_readSign yX3_readSign ∈ gT := List.mem_filter.mpr ⟨List.mem_of_getElem? (i := 52) (by decide +kernel), rfl⟩
theorem mw_53 : Cond.selects RX3 yX3_readFigure yX3_readFigure ∈ gT := List.mem_filter.mpr ⟨List.mem_of_getElem? (i := 53) (by decide +kernel), rfl⟩
theorem mw_54 : Cond.selects RX3 yX3_readOff yX3_readOff ∈ gT := List.mem_filter.mpr ⟨List.mem_of_getElem? (i := 54) (by decide +kernel), rfl⟩
theorem mw_55 : Cond.selects RX3 yX3_endOne yX3_endOne ∈ gT := List.mem_filter.mpr ⟨List.mem_of_getElem? (i := 55) (by decide +kernel), rfl⟩
theorem mw_56 : Cond.selects RX5 yX5_takeBack yX5_takeBack ∈ gT := List.mem_filter.mpr ⟨List.mem_of_getElem? (i := 56) (by decide +kernel), rfl⟩
theorem mw_57 : Cond.selects RX6 yX6_howMany yX6_howMany ∈ gT := List.mem_filter.mpr ⟨List.mem_of_getElem? (i := 57) (by decide +kernel), rfl⟩
theorem mw_58 : Cond.selects RX4 yX4_addCornersTo yX4_addCornersTo ∈ gT := List.mem_filter.mpr ⟨List.mem_of_getElem? (i := 58) (by decide +kernel), rfl⟩
theorem mw_59 : Cond.selects RX7 yX7_refuses yX7_refuses ∈ gT := List.mem_filter.mpr ⟨List.mem_of_getElem? (i := 59) (by decide +kernel), rfl⟩
theorem mw_60 : Cond.selects RX7 yX7_aside yX7_aside ∈ gT := List.mem_filter.mpr ⟨List.mem_of_getElem? (i := 60) (by decide +kernel), rfl⟩
theorem mw_61 : Cond.selects RX7 yX7_keeps yX7_keeps ∈ gT := List.mem_filter.mpr ⟨List.mem_of_getElem? (i := 61) (by decide +kernel), rfl⟩
theorem mw_62 : Cond.selects RX7 yX7_comes yX7_comes ∈ gT := List.mem_filter.mpr ⟨List.mem_of_getElem? (i := 62) (by decide +kernel), rfl⟩
theorem mw_63 : Cond.selects RX7 yX7_laysFamily yX7_laysFamily ∈ gT := List.mem_filter.mpr ⟨List.mem_of_getElem? (i := 63) (by decide +kernel), rfl⟩
theorem mw_64 : Cond.selects RX7 yX7_turns yX7_turns ∈ gT := List.mem_filter.mpr ⟨List.mem_of_getElem? (i := 64) (by decide +kernel), rfl⟩
theorem mw_65 : Cond.selects RX7 yX7_familyComes yX7_familyComes ∈ gT := List.mem_filter.mpr ⟨List.mem_of_getElem? (i := 65) (by decide +kernel), rfl⟩
theorem mw_66 : Cond.selects RX7 yX7_isPlane yX7_isPlane ∈ gT := List.mem_filter.mpr ⟨List.mem_of_getElem? (i := 66) (by decide +kernel), rfl⟩
theorem mw_67 : Cond.selects RX7 yX7_get yX7_get ∈ gT := List.mem_filter.mpr ⟨List.mem_of_getElem? (i := 67) (by decide +kernel), rfl⟩
theorem mw_68 : Cond.selects RX7 yX7_goes yX7_goes ∈ gT := List.mem_filter.mpr ⟨List.mem_of_getElem? (i := 68) (by decide +kernel), rfl⟩
theorem mw_69 : Cond.selects RX7 yX7_lays yX7_lays ∈ gT := List.mem_filter.mpr ⟨List.mem_of_getElem? (i := 69) (by decide +kernel), rfl⟩
theorem mw_70 : Cond.selects RX7 yX7_determinant yX7_determinant ∈ gT := List.mem_filter.mpr ⟨List.mem_of_getElem? (i := 70) (by decide +kernel), rfl⟩
theorem mw_71 : Cond.selects RX7 yX7_meeting yX7_meeting ∈ gT := List.mem_filter.mpr ⟨List.mem_of_getElem? (i := 71) (by decide +kernel), rfl⟩
theorem mw_72 : Cond.selects RX7 yX7_far yX7_far ∈ gT := List.mem_filter.mpr ⟨List.mem_of_getElem? (i := 72) (by decide +kernel), rfl⟩
theorem mw_73 : Cond.selects RX7 yX7_isCorner yX7_isCorner ∈ gT := List.mem_filter.mpr ⟨List.mem_of_getElem? (i := 73) (by decide +kernel), rfl⟩
theorem mw_74 : Cond.selects RX7 yX7_isAhead yX7_isAhead ∈ gT := List.mem_filter.mpr ⟨List.mem_of_getElem? (i := 74) (by decide +kernel), rfl⟩
theorem mw_75 : Cond.selects RX7 yX7_cornersOn yX7_cornersOn ∈ gT := List.mem_filter.mpr ⟨List.mem_of_getElem? (i := 75) (by decide +kernel), rfl⟩
theorem mw_76 : Cond.selects RX7 yX7_isOn yX7_isOn ∈ gT := List.mem_filter.mpr ⟨List.mem_of_getElem? (i := 76) (by decide +kernel), rfl⟩
theorem mw_77 : Cond.selects RX7 yX7_isSame yX7_isSame ∈ gT := List.mem_filter.mpr ⟨List.mem_of_getElem? (i := 77) (by decide +kernel), rfl⟩
theorem mw_78 : Cond.selects RX7 yX7_bad yX7_bad ∈ gT := List.mem_filter.mpr ⟨List.mem_of_getElem? (i := 78) (by decide +kernel), rfl⟩
theorem mw_79 : Cond.selects RX7 yX7_edgesOf yX7_edgesOf ∈ gT := List.mem_filter.mpr ⟨List.mem_of_getElem? (i := 79) (by decide +kernel), rfl⟩
theorem mw_80 : Cond.selects RX7 yX7_isEdge yX7_isEdge ∈ gT := List.mem_filter.mpr ⟨List.mem_of_getElem? (i := 80) (by decide +kernel), rfl⟩
theorem mw_81 : Cond.selects RX7 yX7_cornersOnBoth yX7_cornersOnBoth ∈ gT := List.mem_filter.mpr ⟨List.mem_of_getElem? (i := 81) (by decide +kernel), rfl⟩
theorem mw_82 : Cond.selects RX7 yX7_showing yX7_showing ∈ gT := List.mem_filter.mpr ⟨List.mem_of_getElem? (i := 82) (by decide +kernel), rfl⟩
theorem mw_83 : Cond.selects RX7 yX7_edges yX7_edges ∈ gT := List.mem_filter.mpr ⟨List.mem_of_getElem? (i := 83) (by decide +kernel), rfl⟩
theorem mw_84 : Cond.selects RX7 yX7_mostOn yX7_mostOn ∈ gT := List.mem_filter.mpr ⟨List.mem_of_getElem? (i := 84) (by decide +kernel), rfl⟩
theorem mw_85 : Cond.selects RX7 yX7_mostAt yX7_mostAt ∈ gT := List.mem_filter.mpr ⟨List.mem_of_getElem? (i := 85) (by decide +kernel), rfl⟩
theorem mw_86 : Cond.selects RX7 yX7_fraction yX7_fraction ∈ gT := List.mem_filter.mpr ⟨List.mem_of_getElem? (i := 86) (by decide +kernel), rfl⟩
theorem mw_87 : Cond.selects RX7 yX7_farthest yX7_farthest ∈ gT := List.mem_filter.mpr ⟨List.mem_of_getElem? (i := 87) (by decide +kernel), rfl⟩
theorem mw_88 : Cond.selects RX7 yX7_farOf yX7_farOf ∈ gT := List.mem_filter.mpr ⟨List.mem_of_getElem? (i := 88) (by decide +kernel), rfl⟩
theorem mw_89 : Cond.selects RX7 yX7_isStaying yX7_isStaying ∈ gT := List.mem_filter.mpr ⟨List.mem_of_getElem? (i := 89) (by decide +kernel), rfl⟩
theorem mw_90 : Cond.selects RX7 yX7_restores yX7_restores ∈ gT := List.mem_filter.mpr ⟨List.mem_of_getElem? (i := 90) (by decide +kernel), rfl⟩
theorem mw_91 : Cond.selects RX7 yX7_skips yX7_skips ∈ gT := List.mem_filter.mpr ⟨List.mem_of_getElem? (i := 91) (by decide +kernel), rfl⟩
theorem mw_92 : Cond.selects RX7 yX7_byteAt yX7_byteAt ∈ gT := List.mem_filter.mpr ⟨List.mem_of_getElem? (i := 92) (by decide +kernel), rfl⟩
theorem mw_93 : Cond.selects RX7 yX7_sentence yX7_sentence ∈ gT := List.mem_filter.mpr ⟨List.mem_of_getElem? (i := 93) (by decide +kernel), rfl⟩
theorem mw_94 : Cond.selects RX7 yX7_isFamily yX7_isFamily ∈ gT := List.mem_filter.mpr ⟨List.mem_of_getElem? (i := 94) (by decide +kernel), rfl⟩
theorem mw_95 : Cond.selects RX7 yX7_readsTurns yX7_readsTurns ∈ gT := List.mem_filter.mpr ⟨List.mem_of_getElem? (i := 95) (by decide +kernel), rfl⟩
theorem mw_96 : Cond.selects RX7 yX7_readsSign yX7_readsSign ∈ gT := List.mem_filter.mpr ⟨List.mem_of_getElem? (i := 96) (by decide +kernel), rfl⟩
theorem mw_97 : Cond.selects RX7 yX7_readsOff yX7_readsOff ∈ gT := List.mem_filter.mpr ⟨List.mem_of_getElem? (i := 97) (by decide +kernel), rfl⟩
theorem mw_98 : Cond.selects RX7 yX7_toldOf yX7_toldOf ∈ gT := List.mem_filter.mpr ⟨List.mem_of_getElem? (i := 98) (by decide +kernel), rfl⟩
theorem mw_99 : Cond.initialized RL ∈ gT := List.mem_filter.mpr ⟨List.mem_of_getElem? (i := 99) (by decide +kernel), rfl⟩
theorem mw_100 : Cond.initialized RX6 ∈ gT := List.mem_filter.mpr ⟨List.mem_of_getElem? (i := 100) (by decide +kernel), rfl⟩
theorem mw_101 : Cond.initialized RX2 ∈ gT := List.mem_filter.mpr ⟨List.mem_of_getElem? (i := 101) (by decide +kernel), rfl⟩
theorem mw_102 : Cond.initialized RX5 ∈ gT := List.mem_filter.mpr ⟨List.mem_of_getElem? (i := 102) (by decide +kernel), rfl⟩
theorem mw_103 : Cond.initialized RX4 ∈ gT := List.mem_filter.mpr ⟨List.mem_of_getElem? (i := 103) (by decide +kernel), rfl⟩
theorem mw_104 : Cond.initialized RX1 ∈ gT := List.mem_filter.mpr ⟨List.mem_of_getElem? (i := 104) (by decide +kernel), rfl⟩
theorem mw_105 : Cond.initialized RX0 ∈ gT := List.mem_filter.mpr ⟨List.mem_of_getElem? (i := 105) (by decide +kernel), rfl⟩
theorem mw_106 : Cond.initialized RX3 ∈ gT := List.mem_filter.mpr ⟨List.mem_of_getElem? (i := 106) (by decide +kernel), rfl⟩
theorem mw_107 : Cond.initialized RX7 ∈ gT := List.mem_filter.mpr ⟨List.mem_of_getElem? (i := 107) (by decide +kernel), rfl⟩
theorem mw_108 : Cond.initialized RJ10 ∈ gT := List.mem_filter.mpr ⟨List.mem_of_getElem? (i := 108) (by decide +kernel), rfl⟩
theorem mw_109 : Cond.initialized RJ9 ∈ gT := List.mem_filter.mpr ⟨List.mem_of_getElem? (i := 109) (by decide +kernel), rfl⟩
theorem mw_110 : Cond.initialized RJ7 ∈ gT := List.mem_filter.mpr ⟨List.mem_of_getElem? (i := 110) (by decide +kernel), rfl⟩
theorem mw_111 : Cond.initialized RJ6 ∈ gT := List.mem_filter.mpr ⟨List.mem_of_getElem? (i := 111) (by decide +kernel), rfl⟩
theorem mw_114 : Cond.methodLink RL 9 yX6_init ∈ gT := List.mem_filter.mpr ⟨List.mem_of_getElem? (i := 114) (by decide +kernel), rfl⟩
theorem mw_115 : Cond.instanceMethod yX6_init ∈ gT := List.mem_filter.mpr ⟨List.mem_of_getElem? (i := 115) (by decide +kernel), rfl⟩
theorem mw_116 : Cond.code yX6_init cX6_init 1 none ∈ gT := List.mem_filter.mpr ⟨List.mem_of_getElem? (i := 116) (by decide +kernel), rfl⟩
theorem mw_117 : Cond.methodLink RX6 3 objectInit ∈ gT := List.mem_filter.mpr ⟨List.mem_of_getElem? (i := 117) (by decide +kernel), rfl⟩
theorem mw_118 : Cond.instanceMethod objectInit ∈ gT := List.mem_filter.mpr ⟨List.mem_of_getElem? (i := 118) (by decide +kernel), rfl⟩
theorem mw_122 : Cond.methodLinkNest RX6 11 yX2_init RX6 ∈ lw_tbl := List.mem_of_getElem? (i := 122) (by decide +kernel)
theorem mw_123 : Cond.instanceMethod yX2_init ∈ gT := List.mem_filter.mpr ⟨List.mem_of_getElem? (i := 123) (by decide +kernel), rfl⟩
theorem mw_124 : Cond.code yX2_init cX2_init 1 none ∈ gT := List.mem_filter.mpr ⟨List.mem_of_getElem? (i := 124) (by decide +kernel), rfl⟩
theorem mw_125 : Cond.methodLink RX2 3 objectInit ∈ gT := List.mem_filter.mpr ⟨List.mem_of_getElem? (i := 125) (by decide +kernel), rfl⟩
theorem mw_126 : Cond.fieldLink RX2 9 (TX2 0).1 (TX2 0).2.1 (TX2 0).2.2.1 ∈ gT := List.mem_filter.mpr ⟨List.mem_of_getElem? (i := 126) (by decide +kernel), rfl⟩
theorem mw_127 : Cond.fieldLinkNest RX1 7 (TX2 0).1 (TX2 0).2.1 (TX2 0).2.2.1 RX6 ∈ lw_tbl := List.mem_of_getElem? (i := 127) (by decide +kernel)
theorem mw_128 : Cond.fieldLinkNest RX4 124 (TX2 0).1 (TX2 0).2.1 (TX2 0).2.2.1 RX6 ∈ lw_tbl := List.mem_of_getElem? (i := 128) (by decide +kernel)
theorem mw_129 : Cond.fieldLinkNest RX6 281 (TX2 0).1 (TX2 0).2.1 (TX2 0).2.2.1 RX6 ∈ lw_tbl := List.mem_of_getElem? (i := 129) (by decide +kernel)
theorem mw_130 : Cond.fieldLink RX2 15 (TX2 1).1 (TX2 1).2.1 (TX2 1).2.2.1 ∈ gT := List.mem_filter.mpr ⟨List.mem_of_getElem? (i := 130) (by decide +kernel), rfl⟩
theorem mw_131 : Cond.fieldLinkNest RX1 13 (TX2 1).1 (TX2 1).2.1 (TX2 1).2.2.1 RX6 ∈ lw_tbl := List.mem_of_getElem? (i := 131) (by decide +kernel)
theorem mw_132 : Cond.fieldLinkNest RX4 127 (TX2 1).1 (TX2 1).2.1 (TX2 1).2.2.1 RX6 ∈ lw_tbl := List.mem_of_getElem? (i := 132) (by decide +kernel)
theorem mw_133 : Cond.fieldLinkNest RX6 284 (TX2 1).1 (TX2 1).2.1 (TX2 1).2.2.1 RX6 ∈ lw_tbl := List.mem_of_getElem? (i := 133) (by decide +kernel)
theorem mw_134 : Cond.fieldLink RX2 18 (TX2 2).1 (TX2 2).2.1 (TX2 2).2.2.1 ∈ gT := List.mem_filter.mpr ⟨List.mem_of_getElem? (i := 134) (by decide +kernel), rfl⟩
theorem mw_135 : Cond.fieldLinkNest RX1 16 (TX2 2).1 (TX2 2).2.1 (TX2 2).2.2.1 RX6 ∈ lw_tbl := List.mem_of_getElem? (i := 135) (by decide +kernel)
theorem mw_136 : Cond.fieldLinkNest RX4 130 (TX2 2).1 (TX2 2).2.1 (TX2 2).2.2.1 RX6 ∈ lw_tbl := List.mem_of_getElem? (i := 136) (by decide +kernel)
theorem mw_137 : Cond.fieldLinkNest RX6 287 (TX2 2).1 (TX2 2).2.1 (TX2 2).2.2.1 RX6 ∈ lw_tbl := List.mem_of_getElem? (i := 137) (by decide +kernel)
theorem mw_138 : Cond.fieldLink RX2 21 (TX2 3).1 (TX2 3).2.1 (TX2 3).2.2.1 ∈ gT := List.mem_filter.mpr ⟨List.mem_of_getElem? (i := 138) (by decide +kernel), rfl⟩
theorem mw_139 : Cond.fieldLinkNest RX1 19 (TX2 3).1 (TX2 3).2.1 (TX2 3).2.2.1 RX6 ∈ lw_tbl := List.mem_of_getElem? (i := 139) (by decide +kernel)
theorem mw_140 : Cond.fieldLinkNest RX6 97 (TX2 3).1 (TX2 3).2.1 (TX2 3).2.2.1 RX6 ∈ lw_tbl := List.mem_of_getElem? (i := 140) (by decide +kernel)
theorem mw_141 : Cond.fieldLinkNest RX4 136 (TX2 3).1 (TX2 3).2.1 (TX2 3).2.2.1 RX6 ∈ lw_tbl := List.mem_of_getElem? (i := 141) (by decide +kernel)
theorem mw_142 : Cond.fieldLink RX2 24 (TX2 4).1 (TX2 4).2.1 (TX2 4).2.2.1 ∈ gT := List.mem_filter.mpr ⟨List.mem_of_getElem? (i := 142) (by decide +kernel), rfl⟩
theorem mw_143 : Cond.fieldLinkNest RX4 41 (TX2 4).1 (TX2 4).2.1 (TX2 4).2.2.1 RX6 ∈ lw_tbl := List.mem_of_getElem? (i := 143) (by decide +kernel)
theorem mw_144 : Cond.fieldLinkNest RX6 69 (TX2 4).1 (TX2 4).2.1 (TX2 4).2.2.1 RX6 ∈ lw_tbl := List.mem_of_getElem? (i := 144) (by decide +kernel)
theorem mw_145 : Cond.fieldLinkNest RX1 58 (TX2 4).1 (TX2 4).2.1 (TX2 4).2.2.1 RX6 ∈ lw_tbl := List.mem_of_getElem? (i := 145) (by decide +kernel)
theorem mw_146 : Cond.fieldLinkNest RX3 81 (TX2 4).1 (TX2 4).2.1 (TX2 4).2.2.1 RX6 ∈ lw_tbl := List.mem_of_getElem? (i := 146) (by decide +kernel)
theorem mw_161 : Cond.methodLinkNest RX6 21 yX5_init RX6 ∈ lw_tbl := List.mem_of_getElem? (i := 161) (by decide +kernel)
theorem mw_162 : Cond.instanceMethod yX5_init ∈ gT := List.mem_filter.mpr ⟨List.mem_of_getElem? (i := 162) (by decide +kernel), rfl⟩
theorem mw_163 : Cond.code yX5_init cX5_init 2 none ∈ gT := List.mem_filter.mpr ⟨List.mem_of_getElem? (i := 163) (by decide +kernel), rfl⟩
theorem mw_164 : Cond.methodLink RX5 3 objectInit ∈ gT := List.mem_filter.mpr ⟨List.mem_of_getElem? (i := 164) (by decide +kernel), rfl⟩
theorem mw_167 : Cond.methodLinkNest RX5 17 yX2_init RX6 ∈ lw_tbl := List.mem_of_getElem? (i := 167) (by decide +kernel)
theorem mw_168 : Cond.fieldLink RX5 11 (TX5 0).1 (TX5 0).2.1 (TX5 0).2.2.1 ∈ gT := List.mem_filter.mpr ⟨List.mem_of_getElem? (i := 168) (by decide +kernel), rfl⟩
theorem mw_169 : Cond.fieldLink RX5 18 (TX5 1).1 (TX5 1).2.1 (TX5 1).2.2.1 ∈ gT := List.mem_filter.mpr ⟨List.mem_of_getElem? (i := 169) (by decide +kernel), rfl⟩
theorem mw_170 : Cond.fieldLink RX5 26 (TX5 2).1 (TX5 2).2.1 (TX5 2).2.2.1 ∈ gT := List.mem_filter.mpr ⟨List.mem_of_getElem? (i := 170) (by decide +kernel), rfl⟩
theorem mw_171 : Cond.fieldLinkNest RX6 228 (TX5 2).1 (TX5 2).2.1 (TX5 2).2.2.1 RX6 ∈ lw_tbl := List.mem_of_getElem? (i := 171) (by decide +kernel)
theorem mw_181 : Cond.methodLinkNest RX6 28 yX4_init RX6 ∈ lw_tbl := List.mem_of_getElem? (i := 181) (by decide +kernel)
theorem mw_182 : Cond.instanceMethod yX4_init ∈ gT := List.mem_filter.mpr ⟨List.mem_of_getElem? (i := 182) (by decide +kernel), rfl⟩
theorem mw_183 : Cond.code yX4_init cX4_init 1 none ∈ gT := List.mem_filter.mpr ⟨List.mem_of_getElem? (i := 183) (by decide +kernel), rfl⟩
theorem mw_184 : Cond.methodLink RX4 3 objectInit ∈ gT := List.mem_filter.mpr ⟨List.mem_of_getElem? (i := 184) (by decide +kernel), rfl⟩
theorem mw_187 : Cond.methodLinkNest RX4 32 yX1_init RX6 ∈ lw_tbl := List.mem_of_getElem? (i := 187) (by decide +kernel)
theorem mw_188 : Cond.instanceMethod yX1_init ∈ gT := List.mem_filter.mpr ⟨List.mem_of_getElem? (i := 188) (by decide +kernel), rfl⟩
theorem mw_189 : Cond.code yX1_init cX1_init 1 none ∈ gT := List.mem_filter.mpr ⟨List.mem_of_getElem? (i := 189) (by decide +kernel), rfl⟩
theorem mw_190 : Cond.methodLink RX1 1 objectInit ∈ gT := List.mem_filter.mpr ⟨List.mem_of_getElem? (i := 190) (by decide +kernel), rfl⟩
theorem mw_191 : Cond.fieldLink RX1 22 (TX1 0).1 (TX1 0).2.1 (TX1 0).2.2.1 ∈ gT := List.mem_filter.mpr ⟨List.mem_of_getElem? (i := 191) (by decide +kernel), rfl⟩
theorem mw_192 : Cond.fieldLinkNest RX4 73 (TX1 0).1 (TX1 0).2.1 (TX1 0).2.2.1 RX6 ∈ lw_tbl := List.mem_of_getElem? (i := 192) (by decide +kernel)
theorem mw_193 : Cond.fieldLink RX1 28 (TX1 1).1 (TX1 1).2.1 (TX1 1).2.2.1 ∈ gT := List.mem_filter.mpr ⟨List.mem_of_getElem? (i := 193) (by decide +kernel), rfl⟩
theorem mw_194 : Cond.fieldLinkNest RX4 79 (TX1 1).1 (TX1 1).2.1 (TX1 1).2.2.1 RX6 ∈ lw_tbl := List.mem_of_getElem? (i := 194) (by decide +kernel)
theorem mw_195 : Cond.fieldLink RX1 31 (TX1 2).1 (TX1 2).2.1 (TX1 2).2.2.1 ∈ gT := List.mem_filter.mpr ⟨List.mem_of_getElem? (i := 195) (by decide +kernel), rfl⟩
theorem mw_196 : Cond.fieldLinkNest RX4 85 (TX1 2).1 (TX1 2).2.1 (TX1 2).2.2.1 RX6 ∈ lw_tbl := List.mem_of_getElem? (i := 196) (by decide +kernel)
theorem mw_197 : Cond.fieldLink RX1 37 (TX1 3).1 (TX1 3).2.1 (TX1 3).2.2.1 ∈ gT := List.mem_filter.mpr ⟨List.mem_of_getElem? (i := 197) (by decide +kernel), rfl⟩
theorem mw_198 : Cond.fieldLinkNest RX4 70 (TX1 3).1 (TX1 3).2.1 (TX1 3).2.2.1 RX6 ∈ lw_tbl := List.mem_of_getElem? (i := 198) (by decide +kernel)
theorem mw_199 : Cond.fieldLink RX1 40 (TX1 4).1 (TX1 4).2.1 (TX1 4).2.2.1 ∈ gT := List.mem_filter.mpr ⟨List.mem_of_getElem? (i := 199) (by decide +kernel), rfl⟩
theorem mw_200 : Cond.fieldLinkNest RX4 76 (TX1 4).1 (TX1 4).2.1 (TX1 4).2.2.1 RX6 ∈ lw_tbl := List.mem_of_getElem? (i := 200) (by decide +kernel)
theorem mw_201 : Cond.fieldLink RX1 43 (TX1 5).1 (TX1 5).2.1 (TX1 5).2.2.1 ∈ gT := List.mem_filter.mpr ⟨List.mem_of_getElem? (i := 201) (by decide +kernel), rfl⟩
theorem mw_202 : Cond.fieldLinkNest RX4 82 (TX1 5).1 (TX1 5).2.1 (TX1 5).2.2.1 RX6 ∈ lw_tbl := List.mem_of_getElem? (i := 202) (by decide +kernel)
theorem mw_203 : Cond.fieldLink RX1 34 (TX1 6).1 (TX1 6).2.1 (TX1 6).2.2.1 ∈ gT := List.mem_filter.mpr ⟨List.mem_of_getElem? (i := 203) (by decide +kernel), rfl⟩
theorem mw_204 : Cond.fieldLinkNest RX4 88 (TX1 6).1 (TX1 6).2.1 (TX1 6).2.2.1 RX6 ∈ lw_tbl := List.mem_of_getElem? (i := 204) (by decide +kernel)
theorem mw_205 : Cond.fieldLinkNest RX4 54 (TX1 7).1 (TX1 7).2.1 (TX1 7).2.2.1 RX6 ∈ lw_tbl := List.mem_of_getElem? (i := 205) (by decide +kernel)
theorem mw_206 : Cond.fieldLink RX1 46 (TX1 7).1 (TX1 7).2.1 (TX1 7).2.2.1 ∈ gT := List.mem_filter.mpr ⟨List.mem_of_getElem? (i := 206) (by decide +kernel), rfl⟩
theorem mw_207 : Cond.fieldLinkNest RX4 57 (TX1 8).1 (TX1 8).2.1 (TX1 8).2.2.1 RX6 ∈ lw_tbl := List.mem_of_getElem? (i := 207) (by decide +kernel)
theorem mw_208 : Cond.fieldLink RX1 49 (TX1 8).1 (TX1 8).2.1 (TX1 8).2.2.1 ∈ gT := List.mem_filter.mpr ⟨List.mem_of_getElem? (i := 208) (by decide +kernel), rfl⟩
theorem mw_209 : Cond.fieldLinkNest RX4 64 (TX1 9).1 (TX1 9).2.1 (TX1 9).2.2.1 RX6 ∈ lw_tbl := List.mem_of_getElem? (i := 209) (by decide +kernel)
theorem mw_210 : Cond.fieldLink RX1 52 (TX1 9).1 (TX1 9).2.1 (TX1 9).2.2.1 ∈ gT := List.mem_filter.mpr ⟨List.mem_of_getElem? (i := 210) (by decide +kernel), rfl⟩
theorem mw_211 : Cond.fieldLinkNest RX4 67 (TX1 10).1 (TX1 10).2.1 (TX1 10).2.2.1 RX6 ∈ lw_tbl := List.mem_of_getElem? (i := 211) (by decide +kernel)
theorem mw_212 : Cond.fieldLink RX1 55 (TX1 10).1 (TX1 10).2.1 (TX1 10).2.2.1 ∈ gT := List.mem_filter.mpr ⟨List.mem_of_getElem? (i := 212) (by decide +kernel), rfl⟩
theorem mw_236 : Cond.fieldLink RX4 9 (TX4 0).1 (TX4 0).2.1 (TX4 0).2.2.1 ∈ gT := List.mem_filter.mpr ⟨List.mem_of_getElem? (i := 236) (by decide +kernel), rfl⟩
theorem mw_237 : Cond.fieldLink RX4 15 (TX4 1).1 (TX4 1).2.1 (TX4 1).2.2.1 ∈ gT := List.mem_filter.mpr ⟨List.mem_of_getElem? (i := 237) (by decide +kernel), rfl⟩
theorem mw_238 : Cond.fieldLink RX4 18 (TX4 2).1 (TX4 2).2.1 (TX4 2).2.2.1 ∈ gT := List.mem_filter.mpr ⟨List.mem_of_getElem? (i := 238) (by decide +kernel), rfl⟩
theorem mw_239 : Cond.fieldLink RX4 21 (TX4 3).1 (TX4 3).2.1 (TX4 3).2.2.1 ∈ gT := List.mem_filter.mpr ⟨List.mem_of_getElem? (i := 239) (by decide +kernel), rfl⟩
theorem mw_240 : Cond.fieldLinkNest RX6 148 (TX4 3).1 (TX4 3).2.1 (TX4 3).2.2.1 RX6 ∈ lw_tbl := List.mem_of_getElem? (i := 240) (by decide +kernel)
theorem mw_241 : Cond.fieldLink RX4 24 (TX4 4).1 (TX4 4).2.1 (TX4 4).2.2.1 ∈ gT := List.mem_filter.mpr ⟨List.mem_of_getElem? (i := 241) (by decide +kernel), rfl⟩
theorem mw_242 : Cond.fieldLinkNest RX6 155 (TX4 4).1 (TX4 4).2.1 (TX4 4).2.2.1 RX6 ∈ lw_tbl := List.mem_of_getElem? (i := 242) (by decide +kernel)
theorem mw_243 : Cond.fieldLink RX4 27 (TX4 5).1 (TX4 5).2.1 (TX4 5).2.2.1 ∈ gT := List.mem_filter.mpr ⟨List.mem_of_getElem? (i := 243) (by decide +kernel), rfl⟩
theorem mw_244 : Cond.fieldLinkNest RX6 290 (TX4 5).1 (TX4 5).2.1 (TX4 5).2.2.1 RX6 ∈ lw_tbl := List.mem_of_getElem? (i := 244) (by decide +kernel)
theorem mw_245 : Cond.fieldLink RX4 33 (TX4 6).1 (TX4 6).2.1 (TX4 6).2.2.1 ∈ gT := List.mem_filter.mpr ⟨List.mem_of_getElem? (i := 245) (by decide +kernel), rfl⟩
theorem mw_246 : Cond.fieldLink RX4 37 (TX4 7).1 (TX4 7).2.1 (TX4 7).2.2.1 ∈ gT := List.mem_filter.mpr ⟨List.mem_of_getElem? (i := 246) (by decide +kernel), rfl⟩
theorem mw_247 : Cond.fieldLinkNest RX6 120 (TX4 7).1 (TX4 7).2.1 (TX4 7).2.2.1 RX6 ∈ lw_tbl := List.mem_of_getElem? (i := 247) (by decide +kernel)
theorem mw_248 : Cond.fieldLink RX4 113 (TX4 8).1 (TX4 8).2.1 (TX4 8).2.2.1 ∈ gT := List.mem_filter.mpr ⟨List.mem_of_getElem? (i := 248) (by decide +kernel), rfl⟩
theorem mw_270 : Cond.methodLinkNest RX6 38 yX0_init RX6 ∈ lw_tbl := List.mem_of_getElem? (i := 270) (by decide +kernel)
theorem mw_271 : Cond.instanceMethod yX0_init ∈ gT := List.mem_filter.mpr ⟨List.mem_of_getElem? (i := 271) (by decide +kernel), rfl⟩
theorem mw_272 : Cond.code yX0_init cX0_init 1 none ∈ gT := List.mem_filter.mpr ⟨List.mem_of_getElem? (i := 272) (by decide +kernel), rfl⟩
theorem mw_273 : Cond.methodLink RX0 3 objectInit ∈ gT := List.mem_filter.mpr ⟨List.mem_of_getElem? (i := 273) (by decide +kernel), rfl⟩
theorem mw_274 : Cond.fieldLink RX0 9 (TX0 0).1 (TX0 0).2.1 (TX0 0).2.2.1 ∈ gT := List.mem_filter.mpr ⟨List.mem_of_getElem? (i := 274) (by decide +kernel), rfl⟩
theorem mw_275 : Cond.fieldLink RX0 15 (TX0 1).1 (TX0 1).2.1 (TX0 1).2.2.1 ∈ gT := List.mem_filter.mpr ⟨List.mem_of_getElem? (i := 275) (by decide +kernel), rfl⟩
theorem mw_276 : Cond.fieldLinkNest RX2 35 (TX0 1).1 (TX0 1).2.1 (TX0 1).2.2.1 RX6 ∈ lw_tbl := List.mem_of_getElem? (i := 276) (by decide +kernel)
theorem mw_277 : Cond.fieldLinkNest RX6 127 (TX0 1).1 (TX0 1).2.1 (TX0 1).2.2.1 RX6 ∈ lw_tbl := List.mem_of_getElem? (i := 277) (by decide +kernel)
theorem mw_278 : Cond.fieldLink RX0 25 (TX0 2).1 (TX0 2).2.1 (TX0 2).2.2.1 ∈ gT := List.mem_filter.mpr ⟨List.mem_of_getElem? (i := 278) (by decide +kernel), rfl⟩
theorem mw_279 : Cond.fieldLinkNest RX6 89 (TX0 2).1 (TX0 2).2.1 (TX0 2).2.2.1 RX6 ∈ lw_tbl := List.mem_of_getElem? (i := 279) (by decide +kernel)
theorem mw_280 : Cond.fieldLinkNest RX2 32 (TX0 2).1 (TX0 2).2.1 (TX0 2).2.2.1 RX6 ∈ lw_tbl := List.mem_of_getElem? (i := 280) (by decide +kernel)
theorem mw_281 : Cond.fieldLinkNest RX3 86 (TX0 2).1 (TX0 2).2.1 (TX0 2).2.2.1 RX6 ∈ lw_tbl := List.mem_of_getElem? (i := 281) (by decide +kernel)
theorem mw_292 : Cond.methodLinkNest RX6 45 yX3_init RX6 ∈ lw_tbl := List.mem_of_getElem? (i := 292) (by decide +kernel)
theorem mw_293 : Cond.instanceMethod yX3_init ∈ gT := List.mem_filter.mpr ⟨List.mem_of_getElem? (i := 293) (by decide +kernel), rfl⟩
theorem mw_294 : Cond.code yX3_init cX3_init 1 none ∈ gT := List.mem_filter.mpr ⟨List.mem_of_getElem? (i := 294) (by decide +kernel), rfl⟩
theorem mw_295 : Cond.methodLink RX3 3 objectInit ∈ gT := List.mem_filter.mpr ⟨List.mem_of_getElem? (i := 295) (by decide +kernel), rfl⟩
theorem mw_296 : Cond.fieldLink RX3 9 (TX3 0).1 (TX3 0).2.1 (TX3 0).2.2.1 ∈ gT := List.mem_filter.mpr ⟨List.mem_of_getElem? (i := 296) (by decide +kernel), rfl⟩
theorem mw_297 : Cond.fieldLinkNest RX6 213 (TX3 0).1 (TX3 0).2.1 (TX3 0).2.2.1 RX6 ∈ lw_tbl := List.mem_of_getElem? (i := 297) (by decide +kernel)
theorem mw_298 : Cond.fieldLink RX3 46 (TX3 1).1 (TX3 1).2.1 (TX3 1).2.2.1 ∈ gT := List.mem_filter.mpr ⟨List.mem_of_getElem? (i := 298) (by decide +kernel), rfl⟩
theorem mw_299 : Cond.fieldLinkNest RX6 210 (TX3 1).1 (TX3 1).2.1 (TX3 1).2.2.1 RX6 ∈ lw_tbl := List.mem_of_getElem? (i := 299) (by decide +kernel)
theorem mw_300 : Cond.fieldLink RX3 15 (TX3 2).1 (TX3 2).2.1 (TX3 2).2.2.1 ∈ gT := List.mem_filter.mpr ⟨List.mem_of_getElem? (i := 300) (by decide +kernel), rfl⟩
theorem mw_301 : Cond.fieldLinkNest RX6 225 (TX3 2).1 (TX3 2).2.1 (TX3 2).2.2.1 RX6 ∈ lw_tbl := List.mem_of_getElem? (i := 301) (by decide +kernel)
theorem mw_302 : Cond.fieldLink RX3 27 (TX3 3).1 (TX3 3).2.1 (TX3 3).2.2.1 ∈ gT := List.mem_filter.mpr ⟨List.mem_of_getElem? (i := 302) (by decide +kernel), rfl⟩
theorem mw_303 : Cond.fieldLink RX3 55 (TX3 4).1 (TX3 4).2.1 (TX3 4).2.2.1 ∈ gT := List.mem_filter.mpr ⟨List.mem_of_getElem? (i := 303) (by decide +kernel), rfl⟩
theorem mw_304 : Cond.fieldLink RX3 58 (TX3 5).1 (TX3 5).2.1 (TX3 5).2.2.1 ∈ gT := List.mem_filter.mpr ⟨List.mem_of_getElem? (i := 304) (by decide +kernel), rfl⟩
theorem mw_305 : Cond.fieldLink RX3 61 (TX3 6).1 (TX3 6).2.1 (TX3 6).2.2.1 ∈ gT := List.mem_filter.mpr ⟨List.mem_of_getElem? (i := 305) (by decide +kernel), rfl⟩
theorem mw_306 : Cond.fieldLink RX3 68 (TX3 7).1 (TX3 7).2.1 (TX3 7).2.2.1 ∈ gT := List.mem_filter.mpr ⟨List.mem_of_getElem? (i := 306) (by decide +kernel), rfl⟩
theorem mw_307 : Cond.fieldLink RX3 52 (TX3 8).1 (TX3 8).2.1 (TX3 8).2.2.1 ∈ gT := List.mem_filter.mpr ⟨List.mem_of_getElem? (i := 307) (by decide +kernel), rfl⟩
theorem mw_327 : Cond.methodLinkNest RX6 50 yX2_becomeBox RX6 ∈ lw_tbl := List.mem_of_getElem? (i := 327) (by decide +kernel)
theorem mw_329 : Cond.instanceMethod yX2_becomeBox ∈ gT := List.mem_filter.mpr ⟨List.mem_of_getElem? (i := 329) (by decide +kernel), rfl⟩
theorem mw_330 : Cond.code yX2_becomeBox cX2_becomeBox 1 none ∈ gT := List.mem_filter.mpr ⟨List.mem_of_getElem? (i := 330) (by decide +kernel), rfl⟩
theorem mw_331 : Cond.methodLink RX2 28 yX2_put ∈ gT := List.mem_filter.mpr ⟨List.mem_of_getElem? (i := 331) (by decide +kernel), rfl⟩
theorem mw_333 : Cond.instanceMethod yX2_put ∈ gT := List.mem_filter.mpr ⟨List.mem_of_getElem? (i := 333) (by decide +kernel), rfl⟩
theorem mw_334 : Cond.code yX2_put cX2_put 5 none ∈ gT := List.mem_filter.mpr ⟨List.mem_of_getElem? (i := 334) (by decide +kernel), rfl⟩
theorem mw_335 : Cond.fieldLink RX6 12 (TX6 0).1 (TX6 0).2.1 (TX6 0).2.2.1 ∈ gT := List.mem_filter.mpr ⟨List.mem_of_getElem? (i := 335) (by decide +kernel), rfl⟩
theorem mw_336 : Cond.fieldLink RX6 16 (TX6 1).1 (TX6 1).2.1 (TX6 1).2.2.1 ∈ gT := List.mem_filter.mpr ⟨List.mem_of_getElem? (i := 336) (by decide +kernel), rfl⟩
theorem mw_337 : Cond.fieldLink RX6 22 (TX6 2).1 (TX6 2).2.1 (TX6 2).2.2.1 ∈ gT := List.mem_filter.mpr ⟨List.mem_of_getElem? (i := 337) (by decide +kernel), rfl⟩
theorem mw_338 : Cond.fieldLink RX6 29 (TX6 3).1 (TX6 3).2.1 (TX6 3).2.2.1 ∈ gT := List.mem_filter.mpr ⟨List.mem_of_getElem? (i := 338) (by decide +kernel), rfl⟩
theorem mw_339 : Cond.fieldLink RX6 33 (TX6 4).1 (TX6 4).2.1 (TX6 4).2.2.1 ∈ gT := List.mem_filter.mpr ⟨List.mem_of_getElem? (i := 339) (by decide +kernel), rfl⟩
theorem mw_340 : Cond.fieldLink RX6 39 (TX6 5).1 (TX6 5).2.1 (TX6 5).2.2.1 ∈ gT := List.mem_filter.mpr ⟨List.mem_of_getElem? (i := 340) (by decide +kernel), rfl⟩
theorem mw_341 : Cond.fieldLink RX6 46 (TX6 6).1 (TX6 6).2.1 (TX6 6).2.2.1 ∈ gT := List.mem_filter.mpr ⟨List.mem_of_getElem? (i := 341) (by decide +kernel), rfl⟩
theorem mw_342 : Cond.fieldLink RX6 261 (TX6 7).1 (TX6 7).2.1 (TX6 7).2.2.1 ∈ gT := List.mem_filter.mpr ⟨List.mem_of_getElem? (i := 342) (by decide +kernel), rfl⟩
theorem mw_343 : Cond.fieldLink RX6 197 (TX6 8).1 (TX6 8).2.1 (TX6 8).2.2.1 ∈ gT := List.mem_filter.mpr ⟨List.mem_of_getElem? (i := 343) (by decide +kernel), rfl⟩
theorem mw_344 : Cond.fieldLink RX6 204 (TX6 9).1 (TX6 9).2.1 (TX6 9).2.2.1 ∈ gT := List.mem_filter.mpr ⟨List.mem_of_getElem? (i := 344) (by decide +kernel), rfl⟩
theorem mw_345 : Cond.fieldLink RX6 207 (TX6 10).1 (TX6 10).2.1 (TX6 10).2.2.1 ∈ gT := List.mem_filter.mpr ⟨List.mem_of_getElem? (i := 345) (by decide +kernel), rfl⟩
theorem mw_346 : Cond.fieldLink RX6 165 (TX6 11).1 (TX6 11).2.1 (TX6 11).2.2.1 ∈ gT := List.mem_filter.mpr ⟨List.mem_of_getElem? (i := 346) (by decide +kernel), rfl⟩
theorem mw_347 : Cond.fieldLink RX6 53 (TX6 12).1 (TX6 12).2.1 (TX6 12).2.2.1 ∈ gT := List.mem_filter.mpr ⟨List.mem_of_getElem? (i := 347) (by decide +kernel), rfl⟩
theorem mw_348 : Cond.fieldLink RX6 249 (TX6 13).1 (TX6 13).2.1 (TX6 13).2.2.1 ∈ gT := List.mem_filter.mpr ⟨List.mem_of_getElem? (i := 348) (by decide +kernel), rfl⟩
theorem mw_349 : Cond.fieldLink RX6 252 (TX6 14).1 (TX6 14).2.1 (TX6 14).2.2.1 ∈ gT := List.mem_filter.mpr ⟨List.mem_of_getElem? (i := 349) (by decide +kernel), rfl⟩
theorem mw_350 : Cond.fieldLink RX6 255 (TX6 15).1 (TX6 15).2.1 (TX6 15).2.2.1 ∈ gT := List.mem_filter.mpr ⟨List.mem_of_getElem? (i := 350) (by decide +kernel), rfl⟩
theorem mw_384 : Cond.methodLink RL 13 yX6_plane ∈ gT := List.mem_filter.mpr ⟨List.mem_of_getElem? (i := 384) (by decide +kernel), rfl⟩
theorem mw_385 : Cond.instanceMethod yX6_plane ∈ gT := List.mem_filter.mpr ⟨List.mem_of_getElem? (i := 385) (by decide +kernel), rfl⟩
theorem mw_386 : Cond.selects RX6 yX6_plane yX6_plane ∈ gT := List.mem_filter.mpr ⟨List.mem_of_getElem? (i := 386) (by decide +kernel), rfl⟩
theorem mw_387 : Cond.code yX6_plane cX6_plane 5 (some .int) ∈ gT := List.mem_filter.mpr ⟨List.mem_of_getElem? (i := 387) (by decide +kernel), rfl⟩
theorem mw_388 : Cond.methodLink RX6 57 yX6_isSign ∈ gT := List.mem_filter.mpr ⟨List.mem_of_getElem? (i := 388) (by decide +kernel), rfl⟩
theorem mw_389 : Cond.static yX6_isSign ∈ gT := List.mem_filter.mpr ⟨List.mem_of_getElem? (i := 389) (by decide +kernel), rfl⟩
theorem mw_390 : Cond.code yX6_isSign cX6_isSign 3 (some .boolean) ∈ gT := List.mem_filter.mpr ⟨List.mem_of_getElem? (i := 390) (by decide +kernel), rfl⟩
theorem mw_391 : Cond.methodLink RX6 246 yX6_isSignNumber ∈ gT := List.mem_filter.mpr ⟨List.mem_of_getElem? (i := 391) (by decide +kernel), rfl⟩
theorem mw_392 : Cond.static yX6_isSignNumber ∈ gT := List.mem_filter.mpr ⟨List.mem_of_getElem? (i := 392) (by decide +kernel), rfl⟩
theorem mw_393 : Cond.code yX6_isSignNumber cX6_isSignNumber 1 (some .boolean) ∈ gT := List.mem_filter.mpr ⟨List.mem_of_getElem? (i := 393) (by decide +kernel), rfl⟩
theorem mw_394 : Cond.methodLink RX6 61 yX6_isOff ∈ gT := List.mem_filter.mpr ⟨List.mem_of_getElem? (i := 394) (by decide +kernel), rfl⟩
theorem mw_395 : Cond.static yX6_isOff ∈ gT := List.mem_filter.mpr ⟨List.mem_of_getElem? (i := 395) (by decide +kernel), rfl⟩
theorem mw_396 : Cond.code yX6_isOff cX6_isOff 1 (some .boolean) ∈ gT := List.mem_filter.mpr ⟨List.mem_of_getElem? (i := 396) (by decide +kernel), rfl⟩
theorem mw_397 : Cond.methodLink RX6 65 yX6_refuseBad ∈ gT := List.mem_filter.mpr ⟨List.mem_of_getElem? (i := 397) (by decide +kernel), rfl⟩
theorem mw_399 : Cond.instanceMethod yX6_refuseBad ∈ gT := List.mem_filter.mpr ⟨List.mem_of_getElem? (i := 399) (by decide +kernel), rfl⟩
theorem mw_400 : Cond.code yX6_refuseBad cX6_refuseBad 2 (some .int) ∈ gT := List.mem_filter.mpr ⟨List.mem_of_getElem? (i := 400) (by decide +kernel), rfl⟩
theorem mw_401 : Cond.methodLink RX6 72 yX6_refuseFull ∈ gT := List.mem_filter.mpr ⟨List.mem_of_getElem? (i := 401) (by decide +kernel), rfl⟩
theorem mw_403 : Cond.instanceMethod yX6_refuseFull ∈ gT := List.mem_filter.mpr ⟨List.mem_of_getElem? (i := 403) (by decide +kernel), rfl⟩
theorem mw_404 : Cond.code yX6_refuseFull cX6_refuseFull 1 (some .int) ∈ gT := List.mem_filter.mpr ⟨List.mem_of_getElem? (i := 404) (by decide +kernel), rfl⟩
theorem mw_405 : Cond.methodLink RX6 76 yX6_leaveState ∈ gT := List.mem_filter.mpr ⟨List.mem_of_getElem? (i := 405) (by decide +kernel), rfl⟩
theorem mw_407 : Cond.instanceMethod yX6_leaveState ∈ gT := List.mem_filter.mpr ⟨List.mem_of_getElem? (i := 407) (by decide +kernel), rfl⟩
theorem mw_408 : Cond.code yX6_leaveState cX6_leaveState 1 none ∈ gT := List.mem_filter.mpr ⟨List.mem_of_getElem? (i := 408) (by decide +kernel), rfl⟩
theorem mw_409 : Cond.methodLinkNest RX6 258 yX5_keep RX6 ∈ lw_tbl := List.mem_of_getElem? (i := 409) (by decide +kernel)
theorem mw_411 : Cond.instanceMethod yX5_keep ∈ gT := List.mem_filter.mpr ⟨List.mem_of_getElem? (i := 411) (by decide +kernel), rfl⟩
theorem mw_412 : Cond.code yX5_keep cX5_keep 3 none ∈ gT := List.mem_filter.mpr ⟨List.mem_of_getElem? (i := 412) (by decide +kernel), rfl⟩
theorem mw_413 : Cond.methodLinkNest RX5 22 yX2_copyFrom RX6 ∈ lw_tbl := List.mem_of_getElem? (i := 413) (by decide +kernel)
theorem mw_415 : Cond.instanceMethod yX2_copyFrom ∈ gT := List.mem_filter.mpr ⟨List.mem_of_getElem? (i := 415) (by decide +kernel), rfl⟩
theorem mw_416 : Cond.code yX2_copyFrom cX2_copyFrom 2 none ∈ gT := List.mem_filter.mpr ⟨List.mem_of_getElem? (i := 416) (by decide +kernel), rfl⟩
theorem mw_417 : Cond.methodLink RX2 38 arraycopyName ∈ gT := List.mem_filter.mpr ⟨List.mem_of_getElem? (i := 417) (by decide +kernel), rfl⟩
theorem mw_418 : Cond.static arraycopyName ∈ gT := List.mem_filter.mpr ⟨List.mem_of_getElem? (i := 418) (by decide +kernel), rfl⟩
theorem mw_419 : Cond.native arraycopyName ∈ gT := List.mem_filter.mpr ⟨List.mem_of_getElem? (i := 419) (by decide +kernel), rfl⟩
theorem mw_420 : Cond.methodLink RX5 29 Lib.Math.min.name ∈ gT := List.mem_filter.mpr ⟨List.mem_of_getElem? (i := 420) (by decide +kernel), rfl⟩
theorem mw_421 : Cond.static Lib.Math.min.name ∈ gT := List.mem_filter.mpr ⟨List.mem_of_getElem? (i := 421) (by decide +kernel), rfl⟩
theorem mw_422 : Cond.code Lib.Math.min.name Lib.Math.min.code 2 (some .int) ∈ gT := List.mem_filter.mpr ⟨List.mem_of_getElem? (i := 422) (by decide +kernel), rfl⟩
theorem mw_423 : Cond.methodLink RX6 232 yX6_forgetCrystal ∈ gT := List.mem_filter.mpr ⟨List.mem_of_getElem? (i := 423) (by decide +kernel), rfl⟩
theorem mw_425 : Cond.instanceMethod yX6_forgetCrystal ∈ gT := List.mem_filter.mpr ⟨List.mem_of_getElem? (i := 425) (by decide +kernel), rfl⟩
theorem mw_426 : Cond.code yX6_forgetCrystal cX6_forgetCrystal 1 none ∈ gT := List.mem_filter.mpr ⟨List.mem_of_getElem? (i := 426) (by decide +kernel), rfl⟩
theorem mw_427 : Cond.methodLinkNest RX6 79 yX2_put RX6 ∈ lw_tbl := List.mem_of_getElem? (i := 427) (by decide +kernel)
theorem mw_428 : Cond.methodLink RL 18 yX6_family ∈ gT := List.mem_filter.mpr ⟨List.mem_of_getElem? (i := 428) (by decide +kernel), rfl⟩
theorem mw_429 : Cond.instanceMethod yX6_family ∈ gT := List.mem_filter.mpr ⟨List.mem_of_getElem? (i := 429) (by decide +kernel), rfl⟩
theorem mw_430 : Cond.selects RX6 yX6_family yX6_family ∈ gT := List.mem_filter.mpr ⟨List.mem_of_getElem? (i := 430) (by decide +kernel), rfl⟩
theorem mw_431 : Cond.code yX6_family cX6_family 6 (some .int) ∈ gT := List.mem_filter.mpr ⟨List.mem_of_getElem? (i := 431) (by decide +kernel), rfl⟩
theorem mw_432 : Cond.methodLink RX6 83 yX6_isTurnSet ∈ gT := List.mem_filter.mpr ⟨List.mem_of_getElem? (i := 432) (by decide +kernel), rfl⟩
theorem mw_433 : Cond.static yX6_isTurnSet ∈ gT := List.mem_filter.mpr ⟨List.mem_of_getElem? (i := 433) (by decide +kernel), rfl⟩
theorem mw_434 : Cond.code yX6_isTurnSet cX6_isTurnSet 1 (some .boolean) ∈ gT := List.mem_filter.mpr ⟨List.mem_of_getElem? (i := 434) (by decide +kernel), rfl⟩
theorem mw_435 : Cond.methodLinkNest RX6 86 yX0_gather RX6 ∈ lw_tbl := List.mem_of_getElem? (i := 435) (by decide +kernel)
theorem mw_437 : Cond.instanceMethod yX0_gather ∈ gT := List.mem_filter.mpr ⟨List.mem_of_getElem? (i := 437) (by decide +kernel), rfl⟩
theorem mw_438 : Cond.code yX0_gather cX0_gather 6 none ∈ gT := List.mem_filter.mpr ⟨List.mem_of_getElem? (i := 438) (by decide +kernel), rfl⟩
theorem mw_439 : Cond.methodLink RX0 19 yJ7_fill_031fb ∈ gT := List.mem_filter.mpr ⟨List.mem_of_getElem? (i := 439) (by decide +kernel), rfl⟩
theorem mw_440 : Cond.static yJ7_fill_031fb ∈ gT := List.mem_filter.mpr ⟨List.mem_of_getElem? (i := 440) (by decide +kernel), rfl⟩
theorem mw_441 : Cond.code yJ7_fill_031fb cJ7_fill_031fb 4 none ∈ gT := List.mem_filter.mpr ⟨List.mem_of_getElem? (i := 441) (by decide +kernel), rfl⟩
theorem mw_442 : Cond.methodLink RX0 29 yX0_note ∈ gT := List.mem_filter.mpr ⟨List.mem_of_getElem? (i := 442) (by decide +kernel), rfl⟩
theorem mw_444 : Cond.instanceMethod yX0_note ∈ gT := List.mem_filter.mpr ⟨List.mem_of_getElem? (i := 444) (by decide +kernel), rfl⟩
theorem mw_445 : Cond.code yX0_note cX0_note 5 none ∈ gT := List.mem_filter.mpr ⟨List.mem_of_getElem? (i := 445) (by decide +kernel), rfl⟩
theorem mw_446 : Cond.methodLink RX0 33 yX0_noteTurned ∈ gT := List.mem_filter.mpr ⟨List.mem_of_getElem? (i := 446) (by decide +kernel), rfl⟩
theorem mw_448 : Cond.instanceMethod yX0_noteTurned ∈ gT := List.mem_filter.mpr ⟨List.mem_of_getElem? (i := 448) (by decide +kernel), rfl⟩
theorem mw_449 : Cond.code yX0_noteTurned cX0_noteTurned 7 none ∈ gT := List.mem_filter.mpr ⟨List.mem_of_getElem? (i := 449) (by decide +kernel), rfl⟩
theorem mw_450 : Cond.methodLinkNest RX0 40 yX6_turned RX6 ∈ lw_tbl := List.mem_of_getElem? (i := 450) (by decide +kernel)
theorem mw_451 : Cond.static yX6_turned ∈ gT := List.mem_filter.mpr ⟨List.mem_of_getElem? (i := 451) (by decide +kernel), rfl⟩
theorem mw_452 : Cond.code yX6_turned cX6_turned 8 (some .int) ∈ gT := List.mem_filter.mpr ⟨List.mem_of_getElem? (i := 452) (by decide +kernel), rfl⟩
theorem mw_453 : Cond.fieldLink RX6 308 RX6 "TURN_FROM" "[I" ∈ gT := List.mem_filter.mpr ⟨List.mem_of_getElem? (i := 453) (by decide +kernel), rfl⟩
theorem mw_455 : Cond.fieldLink RX6 311 RX6 "TURN_SIGN" "[I" ∈ gT := List.mem_filter.mpr ⟨List.mem_of_getElem? (i := 455) (by decide +kernel), rfl⟩
theorem mw_457 : Cond.methodLink RX0 37 yX0_putInOrder ∈ gT := List.mem_filter.mpr ⟨List.mem_of_getElem? (i := 457) (by decide +kernel), rfl⟩
theorem mw_459 : Cond.instanceMethod yX0_putInOrder ∈ gT := List.mem_filter.mpr ⟨List.mem_of_getElem? (i := 459) (by decide +kernel), rfl⟩
theorem mw_460 : Cond.code yX0_putInOrder cX0_putInOrder 3 none ∈ gT := List.mem_filter.mpr ⟨List.mem_of_getElem? (i := 460) (by decide +kernel), rfl⟩
theorem mw_461 : Cond.methodLinkNest RX6 90 yX2_putFamily RX6 ∈ lw_tbl := List.mem_of_getElem? (i := 461) (by decide +kernel)
theorem mw_463 : Cond.instanceMethod yX2_putFamily ∈ gT := List.mem_filter.mpr ⟨List.mem_of_getElem? (i := 463) (by decide +kernel), rfl⟩
theorem mw_464 : Cond.code yX2_putFamily cX2_putFamily 5 none ∈ gT := List.mem_filter.mpr ⟨List.mem_of_getElem? (i := 464) (by decide +kernel), rfl⟩
theorem mw_465 : Cond.methodLink RL 23 yX6_off ∈ gT := List.mem_filter.mpr ⟨List.mem_of_getElem? (i := 465) (by decide +kernel), rfl⟩
theorem mw_466 : Cond.instanceMethod yX6_off ∈ gT := List.mem_filter.mpr ⟨List.mem_of_getElem? (i := 466) (by decide +kernel), rfl⟩
theorem mw_467 : Cond.selects RX6 yX6_off yX6_off ∈ gT := List.mem_filter.mpr ⟨List.mem_of_getElem? (i := 467) (by decide +kernel), rfl⟩
theorem mw_468 : Cond.code yX6_off cX6_off 4 (some .int) ∈ gT := List.mem_filter.mpr ⟨List.mem_of_getElem? (i := 468) (by decide +kernel), rfl⟩
theorem mw_469 : Cond.methodLink RX6 94 yX6_isPlane ∈ gT := List.mem_filter.mpr ⟨List.mem_of_getElem? (i := 469) (by decide +kernel), rfl⟩
theorem mw_471 : Cond.instanceMethod yX6_isPlane ∈ gT := List.mem_filter.mpr ⟨List.mem_of_getElem? (i := 471) (by decide +kernel), rfl⟩
theorem mw_472 : Cond.code yX6_isPlane cX6_isPlane 2 (some .boolean) ∈ gT := List.mem_filter.mpr ⟨List.mem_of_getElem? (i := 472) (by decide +kernel), rfl⟩
theorem mw_473 : Cond.methodLink RL 28 yX6_drop ∈ gT := List.mem_filter.mpr ⟨List.mem_of_getElem? (i := 473) (by decide +kernel), rfl⟩
theorem mw_474 : Cond.instanceMethod yX6_drop ∈ gT := List.mem_filter.mpr ⟨List.mem_of_getElem? (i := 474) (by decide +kernel), rfl⟩
theorem mw_475 : Cond.selects RX6 yX6_drop yX6_drop ∈ gT := List.mem_filter.mpr ⟨List.mem_of_getElem? (i := 475) (by decide +kernel), rfl⟩
theorem mw_476 : Cond.code yX6_drop cX6_drop 2 (some .int) ∈ gT := List.mem_filter.mpr ⟨List.mem_of_getElem? (i := 476) (by decide +kernel), rfl⟩
theorem mw_477 : Cond.methodLinkNest RX6 101 yX2_takeOut RX6 ∈ lw_tbl := List.mem_of_getElem? (i := 477) (by decide +kernel)
theorem mw_479 : Cond.instanceMethod yX2_takeOut ∈ gT := List.mem_filter.mpr ⟨List.mem_of_getElem? (i := 479) (by decide +kernel), rfl⟩
theorem mw_480 : Cond.code yX2_takeOut cX2_takeOut 3 none ∈ gT := List.mem_filter.mpr ⟨List.mem_of_getElem? (i := 480) (by decide +kernel), rfl⟩
theorem mw_481 : Cond.methodLink RL 33 yX6_anew ∈ gT := List.mem_filter.mpr ⟨List.mem_of_getElem? (i := 481) (by decide +kernel), rfl⟩
theorem mw_482 : Cond.instanceMethod yX6_anew ∈ gT := List.mem_filter.mpr ⟨List.mem_of_getElem? (i := 482) (by decide +kernel), rfl⟩
theorem mw_483 : Cond.selects RX6 yX6_anew yX6_anew ∈ gT := List.mem_filter.mpr ⟨List.mem_of_getElem? (i := 483) (by decide +kernel), rfl⟩
theorem mw_484 : Cond.code yX6_anew cX6_anew 2 (some .int) ∈ gT := List.mem_filter.mpr ⟨List.mem_of_getElem? (i := 484) (by decide +kernel), rfl⟩
theorem mw_485 : Cond.methodLink RL 38 yX6_draw ∈ gT := List.mem_filter.mpr ⟨List.mem_of_getElem? (i := 485) (by decide +kernel), rfl⟩
theorem mw_486 : Cond.instanceMethod yX6_draw ∈ gT := List.mem_filter.mpr ⟨List.mem_of_getElem? (i := 486) (by decide +kernel), rfl⟩
theorem mw_487 : Cond.selects RX6 yX6_draw yX6_draw ∈ gT := List.mem_filter.mpr ⟨List.mem_of_getElem? (i := 487) (by decide +kernel), rfl⟩
theorem mw_488 : Cond.code yX6_draw cX6_draw 6 (some .int) ∈ gT := List.mem_filter.mpr ⟨List.mem_of_getElem? (i := 488) (by decide +kernel), rfl⟩
theorem mw_489 : Cond.constant RX6 105 (999999) ∈ gT := List.mem_filter.mpr ⟨List.mem_of_getElem? (i := 489) (by decide +kernel), rfl⟩
theorem mw_490 : Cond.constantLong RX6 106 (1103515245) ∈ gT := List.mem_filter.mpr ⟨List.mem_of_getElem? (i := 490) (by decide +kernel), rfl⟩
theorem mw_491 : Cond.constantLong RX6 108 (12345) ∈ gT := List.mem_filter.mpr ⟨List.mem_of_getElem? (i := 491) (by decide +kernel), rfl⟩
theorem mw_492 : Cond.constantLong RX6 110 (2147483648) ∈ gT := List.mem_filter.mpr ⟨List.mem_of_getElem? (i := 492) (by decide +kernel), rfl⟩
theorem mw_493 : Cond.methodLink RX6 112 yX6_putDrawn ∈ gT := List.mem_filter.mpr ⟨List.mem_of_getElem? (i := 493) (by decide +kernel), rfl⟩
theorem mw_495 : Cond.instanceMethod yX6_putDrawn ∈ gT := List.mem_filter.mpr ⟨List.mem_of_getElem? (i := 495) (by decide +kernel), rfl⟩
theorem mw_496 : Cond.code yX6_putDrawn cX6_putDrawn 6 none ∈ gT := List.mem_filter.mpr ⟨List.mem_of_getElem? (i := 496) (by decide +kernel), rfl⟩
theorem mw_497 : Cond.constantLong RX6 271 (65536) ∈ gT := List.mem_filter.mpr ⟨List.mem_of_getElem? (i := 497) (by decide +kernel), rfl⟩
theorem mw_498 : Cond.constantLong RX6 273 (7) ∈ gT := List.mem_filter.mpr ⟨List.mem_of_getElem? (i := 498) (by decide +kernel), rfl⟩
theorem mw_499 : Cond.constantLong RX6 275 (1024) ∈ gT := List.mem_filter.mpr ⟨List.mem_of_getElem? (i := 499) (by decide +kernel), rfl⟩
theorem mw_500 : Cond.constantLong RX6 277 (32768) ∈ gT := List.mem_filter.mpr ⟨List.mem_of_getElem? (i := 500) (by decide +kernel), rfl⟩
theorem mw_501 : Cond.constantLong RX6 279 (512) ∈ gT := List.mem_filter.mpr ⟨List.mem_of_getElem? (i := 501) (by decide +kernel), rfl⟩
theorem mw_502 : Cond.constantLong RX6 240 (31) ∈ gT := List.mem_filter.mpr ⟨List.mem_of_getElem? (i := 502) (by decide +kernel), rfl⟩
theorem mw_503 : Cond.methodLink RX6 116 yX6_crystal ∈ gT := List.mem_filter.mpr ⟨List.mem_of_getElem? (i := 503) (by decide +kernel), rfl⟩
theorem mw_505 : Cond.instanceMethod yX6_crystal ∈ gT := List.mem_filter.mpr ⟨List.mem_of_getElem? (i := 505) (by decide +kernel), rfl⟩
theorem mw_506 : Cond.code yX6_crystal cX6_crystal 1 (some (.object "CrystalCuts$Solid")) ∈ gT := List.mem_filter.mpr ⟨List.mem_of_getElem? (i := 506) (by decide +kernel), rfl⟩
theorem mw_507 : Cond.methodLinkNest RX6 264 yX4_cut RX6 ∈ lw_tbl := List.mem_of_getElem? (i := 507) (by decide +kernel)
theorem mw_509 : Cond.instanceMethod yX4_cut ∈ gT := List.mem_filter.mpr ⟨List.mem_of_getElem? (i := 509) (by decide +kernel), rfl⟩
theorem mw_510 : Cond.code yX4_cut cX4_cut 5 none ∈ gT := List.mem_filter.mpr ⟨List.mem_of_getElem? (i := 510) (by decide +kernel), rfl⟩
theorem mw_511 : Cond.methodLinkNest RX4 46 yX1_lay RX6 ∈ lw_tbl := List.mem_of_getElem? (i := 511) (by decide +kernel)
theorem mw_513 : Cond.instanceMethod yX1_lay ∈ gT := List.mem_filter.mpr ⟨List.mem_of_getElem? (i := 513) (by decide +kernel), rfl⟩
theorem mw_514 : Cond.code yX1_lay cX1_lay 12 (some .boolean) ∈ gT := List.mem_filter.mpr ⟨List.mem_of_getElem? (i := 514) (by decide +kernel), rfl⟩
theorem mw_515 : Cond.methodLinkNest RX4 50 yX1_isLeftBy RX6 ∈ lw_tbl := List.mem_of_getElem? (i := 515) (by decide +kernel)
theorem mw_517 : Cond.instanceMethod yX1_isLeftBy ∈ gT := List.mem_filter.mpr ⟨List.mem_of_getElem? (i := 517) (by decide +kernel), rfl⟩
theorem mw_518 : Cond.code yX1_isLeftBy cX1_isLeftBy 4 (some .boolean) ∈ gT := List.mem_filter.mpr ⟨List.mem_of_getElem? (i := 518) (by decide +kernel), rfl⟩
theorem mw_519 : Cond.methodLink RX1 61 yX1_isLeftBehind ∈ gT := List.mem_filter.mpr ⟨List.mem_of_getElem? (i := 519) (by decide +kernel), rfl⟩
theorem mw_521 : Cond.instanceMethod yX1_isLeftBehind ∈ gT := List.mem_filter.mpr ⟨List.mem_of_getElem? (i := 521) (by decide +kernel), rfl⟩
theorem mw_522 : Cond.code yX1_isLeftBehind cX1_isLeftBehind 5 (some .boolean) ∈ gT := List.mem_filter.mpr ⟨List.mem_of_getElem? (i := 522) (by decide +kernel), rfl⟩
theorem mw_523 : Cond.methodLink RX4 60 yX4_keepPoint ∈ gT := List.mem_filter.mpr ⟨List.mem_of_getElem? (i := 523) (by decide +kernel), rfl⟩
theorem mw_525 : Cond.instanceMethod yX4_keepPoint ∈ gT := List.mem_filter.mpr ⟨List.mem_of_getElem? (i := 525) (by decide +kernel), rfl⟩
theorem mw_526 : Cond.code yX4_keepPoint cX4_keepPoint 9 none ∈ gT := List.mem_filter.mpr ⟨List.mem_of_getElem? (i := 526) (by decide +kernel), rfl⟩
theorem mw_527 : Cond.methodLinkNest RX4 91 yX6_commonDivisor RX6 ∈ lw_tbl := List.mem_of_getElem? (i := 527) (by decide +kernel)
theorem mw_528 : Cond.static yX6_commonDivisor ∈ gT := List.mem_filter.mpr ⟨List.mem_of_getElem? (i := 528) (by decide +kernel), rfl⟩
theorem mw_529 : Cond.code yX6_commonDivisor cX6_commonDivisor 6 (some .int) ∈ gT := List.mem_filter.mpr ⟨List.mem_of_getElem? (i := 529) (by decide +kernel), rfl⟩
theorem mw_530 : Cond.methodLink RX6 314 Lib.Math.abs.name ∈ gT := List.mem_filter.mpr ⟨List.mem_of_getElem? (i := 530) (by decide +kernel), rfl⟩
theorem mw_531 : Cond.static Lib.Math.abs.name ∈ gT := List.mem_filter.mpr ⟨List.mem_of_getElem? (i := 531) (by decide +kernel), rfl⟩
theorem mw_532 : Cond.code Lib.Math.abs.name Lib.Math.abs.code 1 (some .int) ∈ gT := List.mem_filter.mpr ⟨List.mem_of_getElem? (i := 532) (by decide +kernel), rfl⟩
theorem mw_533 : Cond.methodLink RX4 95 yX4_placeOf ∈ gT := List.mem_filter.mpr ⟨List.mem_of_getElem? (i := 533) (by decide +kernel), rfl⟩
theorem mw_535 : Cond.instanceMethod yX4_placeOf ∈ gT := List.mem_filter.mpr ⟨List.mem_of_getElem? (i := 535) (by decide +kernel), rfl⟩
theorem mw_536 : Cond.code yX4_placeOf cX4_placeOf 9 (some .int) ∈ gT := List.mem_filter.mpr ⟨List.mem_of_getElem? (i := 536) (by decide +kernel), rfl⟩
theorem mw_537 : Cond.methodLink RX4 99 yX4_order ∈ gT := List.mem_filter.mpr ⟨List.mem_of_getElem? (i := 537) (by decide +kernel), rfl⟩
theorem mw_539 : Cond.instanceMethod yX4_order ∈ gT := List.mem_filter.mpr ⟨List.mem_of_getElem? (i := 539) (by decide +kernel), rfl⟩
theorem mw_540 : Cond.code yX4_order cX4_order 9 (some .int) ∈ gT := List.mem_filter.mpr ⟨List.mem_of_getElem? (i := 540) (by decide +kernel), rfl⟩
theorem mw_541 : Cond.methodLink RX4 103 yX4_putCorner ∈ gT := List.mem_filter.mpr ⟨List.mem_of_getElem? (i := 541) (by decide +kernel), rfl⟩
theorem mw_543 : Cond.instanceMethod yX4_putCorner ∈ gT := List.mem_filter.mpr ⟨List.mem_of_getElem? (i := 543) (by decide +kernel), rfl⟩
theorem mw_544 : Cond.code yX4_putCorner cX4_putCorner 7 none ∈ gT := List.mem_filter.mpr ⟨List.mem_of_getElem? (i := 544) (by decide +kernel), rfl⟩
theorem mw_545 : Cond.methodLinkNest RX6 268 yX4_look RX6 ∈ lw_tbl := List.mem_of_getElem? (i := 545) (by decide +kernel)
theorem mw_547 : Cond.instanceMethod yX4_look ∈ gT := List.mem_filter.mpr ⟨List.mem_of_getElem? (i := 547) (by decide +kernel), rfl⟩
theorem mw_548 : Cond.code yX4_look cX4_look 3 none ∈ gT := List.mem_filter.mpr ⟨List.mem_of_getElem? (i := 548) (by decide +kernel), rfl⟩
theorem mw_549 : Cond.methodLink RX4 107 yJ7_fill_53178 ∈ gT := List.mem_filter.mpr ⟨List.mem_of_getElem? (i := 549) (by decide +kernel), rfl⟩
theorem mw_550 : Cond.static yJ7_fill_53178 ∈ gT := List.mem_filter.mpr ⟨List.mem_of_getElem? (i := 550) (by decide +kernel), rfl⟩
theorem mw_551 : Cond.code yJ7_fill_53178 cJ7_fill_53178 4 none ∈ gT := List.mem_filter.mpr ⟨List.mem_of_getElem? (i := 551) (by decide +kernel), rfl⟩
theorem mw_552 : Cond.methodLink RX4 116 yX4_markCornersOn ∈ gT := List.mem_filter.mpr ⟨List.mem_of_getElem? (i := 552) (by decide +kernel), rfl⟩
theorem mw_554 : Cond.instanceMethod yX4_markCornersOn ∈ gT := List.mem_filter.mpr ⟨List.mem_of_getElem? (i := 554) (by decide +kernel), rfl⟩
theorem mw_555 : Cond.code yX4_markCornersOn cX4_markCornersOn 5 (some .int) ∈ gT := List.mem_filter.mpr ⟨List.mem_of_getElem? (i := 555) (by decide +kernel), rfl⟩
theorem mw_556 : Cond.methodLink RX4 133 yX4_along ∈ gT := List.mem_filter.mpr ⟨List.mem_of_getElem? (i := 556) (by decide +kernel), rfl⟩
theorem mw_558 : Cond.instanceMethod yX4_along ∈ gT := List.mem_filter.mpr ⟨List.mem_of_getElem? (i := 558) (by decide +kernel), rfl⟩
theorem mw_559 : Cond.code yX4_along cX4_along 5 (some .int) ∈ gT := List.mem_filter.mpr ⟨List.mem_of_getElem? (i := 559) (by decide +kernel), rfl⟩
theorem mw_560 : Cond.methodLinkNest RX4 120 yX2_hasEarlierTwin RX6 ∈ lw_tbl := List.mem_of_getElem? (i := 560) (by decide +kernel)
theorem mw_562 : Cond.instanceMethod yX2_hasEarlierTwin ∈ gT := List.mem_filter.mpr ⟨List.mem_of_getElem? (i := 562) (by decide +kernel), rfl⟩
theorem mw_563 : Cond.code yX2_hasEarlierTwin cX2_hasEarlierTwin 3 (some .boolean) ∈ gT := List.mem_filter.mpr ⟨List.mem_of_getElem? (i := 563) (by decide +kernel), rfl⟩
theorem mw_564 : Cond.methodLink RX2 44 yX2_areSame ∈ gT := List.mem_filter.mpr ⟨List.mem_of_getElem? (i := 564) (by decide +kernel), rfl⟩
theorem mw_566 : Cond.instanceMethod yX2_areSame ∈ gT := List.mem_filter.mpr ⟨List.mem_of_getElem? (i := 566) (by decide +kernel), rfl⟩
theorem mw_567 : Cond.code yX2_areSame cX2_areSame 3 (some .boolean) ∈ gT := List.mem_filter.mpr ⟨List.mem_of_getElem? (i := 567) (by decide +kernel), rfl⟩
theorem mw_568 : Cond.methodLink RL 42 yX6_of ∈ gT := List.mem_filter.mpr ⟨List.mem_of_getElem? (i := 568) (by decide +kernel), rfl⟩
theorem mw_569 : Cond.instanceMethod yX6_of ∈ gT := List.mem_filter.mpr ⟨List.mem_of_getElem? (i := 569) (by decide +kernel), rfl⟩
theorem mw_570 : Cond.selects RX6 yX6_of yX6_of ∈ gT := List.mem_filter.mpr ⟨List.mem_of_getElem? (i := 570) (by decide +kernel), rfl⟩
theorem mw_571 : Cond.code yX6_of cX6_of 3 (some .int) ∈ gT := List.mem_filter.mpr ⟨List.mem_of_getElem? (i := 571) (by decide +kernel), rfl⟩
theorem mw_572 : Cond.methodLink RX6 123 yX6_ofPlane ∈ gT := List.mem_filter.mpr ⟨List.mem_of_getElem? (i := 572) (by decide +kernel), rfl⟩
theorem mw_574 : Cond.instanceMethod yX6_ofPlane ∈ gT := List.mem_filter.mpr ⟨List.mem_of_getElem? (i := 574) (by decide +kernel), rfl⟩
theorem mw_575 : Cond.code yX6_ofPlane cX6_ofPlane 3 (some .int) ∈ gT := List.mem_filter.mpr ⟨List.mem_of_getElem? (i := 575) (by decide +kernel), rfl⟩
theorem mw_576 : Cond.methodLinkNest RX6 171 yX4_isShown RX6 ∈ lw_tbl := List.mem_of_getElem? (i := 576) (by decide +kernel)
theorem mw_578 : Cond.instanceMethod yX4_isShown ∈ gT := List.mem_filter.mpr ⟨List.mem_of_getElem? (i := 578) (by decide +kernel), rfl⟩
theorem mw_579 : Cond.code yX4_isShown cX4_isShown 2 (some .boolean) ∈ gT := List.mem_filter.mpr ⟨List.mem_of_getElem? (i := 579) (by decide +kernel), rfl⟩
theorem mw_580 : Cond.methodLinkNest RX6 293 yX4_edgesOn RX6 ∈ lw_tbl := List.mem_of_getElem? (i := 580) (by decide +kernel)
theorem mw_582 : Cond.instanceMethod yX4_edgesOn ∈ gT := List.mem_filter.mpr ⟨List.mem_of_getElem? (i := 582) (by decide +kernel), rfl⟩
theorem mw_583 : Cond.code yX4_edgesOn cX4_edgesOn 2 (some .int) ∈ gT := List.mem_filter.mpr ⟨List.mem_of_getElem? (i := 583) (by decide +kernel), rfl⟩
theorem mw_584 : Cond.methodLink RX4 149 yX4_isShown ∈ gT := List.mem_filter.mpr ⟨List.mem_of_getElem? (i := 584) (by decide +kernel), rfl⟩
theorem mw_585 : Cond.methodLink RL 46 yX6_member ∈ gT := List.mem_filter.mpr ⟨List.mem_of_getElem? (i := 585) (by decide +kernel), rfl⟩
theorem mw_586 : Cond.instanceMethod yX6_member ∈ gT := List.mem_filter.mpr ⟨List.mem_of_getElem? (i := 586) (by decide +kernel), rfl⟩
theorem mw_587 : Cond.selects RX6 yX6_member yX6_member ∈ gT := List.mem_filter.mpr ⟨List.mem_of_getElem? (i := 587) (by decide +kernel), rfl⟩
theorem mw_588 : Cond.code yX6_member cX6_member 6 (some .int) ∈ gT := List.mem_filter.mpr ⟨List.mem_of_getElem? (i := 588) (by decide +kernel), rfl⟩
theorem mw_589 : Cond.methodLink RL 50 yX6_all ∈ gT := List.mem_filter.mpr ⟨List.mem_of_getElem? (i := 589) (by decide +kernel), rfl⟩
theorem mw_590 : Cond.instanceMethod yX6_all ∈ gT := List.mem_filter.mpr ⟨List.mem_of_getElem? (i := 590) (by decide +kernel), rfl⟩
theorem mw_591 : Cond.selects RX6 yX6_all yX6_all ∈ gT := List.mem_filter.mpr ⟨List.mem_of_getElem? (i := 591) (by decide +kernel), rfl⟩
theorem mw_592 : Cond.code yX6_all cX6_all 2 (some .int) ∈ gT := List.mem_filter.mpr ⟨List.mem_of_getElem? (i := 592) (by decide +kernel), rfl⟩
theorem mw_593 : Cond.methodLinkNest RX6 130 yX4_showing RX6 ∈ lw_tbl := List.mem_of_getElem? (i := 593) (by decide +kernel)
theorem mw_595 : Cond.instanceMethod yX4_showing ∈ gT := List.mem_filter.mpr ⟨List.mem_of_getElem? (i := 595) (by decide +kernel), rfl⟩
theorem mw_596 : Cond.code yX4_showing cX4_showing 1 (some .int) ∈ gT := List.mem_filter.mpr ⟨List.mem_of_getElem? (i := 596) (by decide +kernel), rfl⟩
theorem mw_597 : Cond.methodLink RX4 139 yJ6_bitCount_0f7a4 ∈ gT := List.mem_filter.mpr ⟨List.mem_of_getElem? (i := 597) (by decide +kernel), rfl⟩
theorem mw_598 : Cond.static yJ6_bitCount_0f7a4 ∈ gT := List.mem_filter.mpr ⟨List.mem_of_getElem? (i := 598) (by decide +kernel), rfl⟩
theorem mw_599 : Cond.code yJ6_bitCount_0f7a4 cJ6_bitCount_0f7a4 1 (some .int) ∈ gT := List.mem_filter.mpr ⟨List.mem_of_getElem? (i := 599) (by decide +kernel), rfl⟩
theorem mw_600 : Cond.constant RJ6 265 (1431655765) ∈ gT := List.mem_filter.mpr ⟨List.mem_of_getElem? (i := 600) (by decide +kernel), rfl⟩
theorem mw_601 : Cond.constant RJ6 266 (858993459) ∈ gT := List.mem_filter.mpr ⟨List.mem_of_getElem? (i := 601) (by decide +kernel), rfl⟩
theorem mw_602 : Cond.constant RJ6 267 (252645135) ∈ gT := List.mem_filter.mpr ⟨List.mem_of_getElem? (i := 602) (by decide +kernel), rfl⟩
theorem mw_603 : Cond.methodLinkNest RX6 133 yX4_edges RX6 ∈ lw_tbl := List.mem_of_getElem? (i := 603) (by decide +kernel)
theorem mw_605 : Cond.instanceMethod yX4_edges ∈ gT := List.mem_filter.mpr ⟨List.mem_of_getElem? (i := 605) (by decide +kernel), rfl⟩
theorem mw_606 : Cond.code yX4_edges cX4_edges 1 (some .int) ∈ gT := List.mem_filter.mpr ⟨List.mem_of_getElem? (i := 606) (by decide +kernel), rfl⟩
theorem mw_607 : Cond.methodLink RX4 145 yX4_showing ∈ gT := List.mem_filter.mpr ⟨List.mem_of_getElem? (i := 607) (by decide +kernel), rfl⟩
theorem mw_608 : Cond.methodLinkNest RX6 136 yX4_mostCornersOnPlane RX6 ∈ lw_tbl := List.mem_of_getElem? (i := 608) (by decide +kernel)
theorem mw_610 : Cond.instanceMethod yX4_mostCornersOnPlane ∈ gT := List.mem_filter.mpr ⟨List.mem_of_getElem? (i := 610) (by decide +kernel), rfl⟩
theorem mw_611 : Cond.code yX4_mostCornersOnPlane cX4_mostCornersOnPlane 4 (some .int) ∈ gT := List.mem_filter.mpr ⟨List.mem_of_getElem? (i := 611) (by decide +kernel), rfl⟩
theorem mw_612 : Cond.methodLink RX4 152 Lib.Math.max.name ∈ gT := List.mem_filter.mpr ⟨List.mem_of_getElem? (i := 612) (by decide +kernel), rfl⟩
theorem mw_613 : Cond.static Lib.Math.max.name ∈ gT := List.mem_filter.mpr ⟨List.mem_of_getElem? (i := 613) (by decide +kernel), rfl⟩
theorem mw_614 : Cond.code Lib.Math.max.name Lib.Math.max.code 2 (some .int) ∈ gT := List.mem_filter.mpr ⟨List.mem_of_getElem? (i := 614) (by decide +kernel), rfl⟩
theorem mw_615 : Cond.methodLinkNest RX6 139 yX4_mostPlanesOnCorner RX6 ∈ lw_tbl := List.mem_of_getElem? (i := 615) (by decide +kernel)
theorem mw_617 : Cond.instanceMethod yX4_mostPlanesOnCorner ∈ gT := List.mem_filter.mpr ⟨List.mem_of_getElem? (i := 617) (by decide +kernel), rfl⟩
theorem mw_618 : Cond.code yX4_mostPlanesOnCorner cX4_mostPlanesOnCorner 3 (some .int) ∈ gT := List.mem_filter.mpr ⟨List.mem_of_getElem? (i := 618) (by decide +kernel), rfl⟩
theorem mw_619 : Cond.methodLink RL 54 yX6_corner ∈ gT := List.mem_filter.mpr ⟨List.mem_of_getElem? (i := 619) (by decide +kernel), rfl⟩
theorem mw_620 : Cond.instanceMethod yX6_corner ∈ gT := List.mem_filter.mpr ⟨List.mem_of_getElem? (i := 620) (by decide +kernel), rfl⟩
theorem mw_621 : Cond.selects RX6 yX6_corner yX6_corner ∈ gT := List.mem_filter.mpr ⟨List.mem_of_getElem? (i := 621) (by decide +kernel), rfl⟩
theorem mw_622 : Cond.code yX6_corner cX6_corner 4 (some .int) ∈ gT := List.mem_filter.mpr ⟨List.mem_of_getElem? (i := 622) (by decide +kernel), rfl⟩
theorem mw_623 : Cond.methodLink RX6 142 yX6_refuseNo ∈ gT := List.mem_filter.mpr ⟨List.mem_of_getElem? (i := 623) (by decide +kernel), rfl⟩
theorem mw_625 : Cond.instanceMethod yX6_refuseNo ∈ gT := List.mem_filter.mpr ⟨List.mem_of_getElem? (i := 625) (by decide +kernel), rfl⟩
theorem mw_626 : Cond.code yX6_refuseNo cX6_refuseNo 1 (some .int) ∈ gT := List.mem_filter.mpr ⟨List.mem_of_getElem? (i := 626) (by decide +kernel), rfl⟩
theorem mw_627 : Cond.methodLinkNest RX6 145 yX4_coordinate RX6 ∈ lw_tbl := List.mem_of_getElem? (i := 627) (by decide +kernel)
theorem mw_629 : Cond.instanceMethod yX4_coordinate ∈ gT := List.mem_filter.mpr ⟨List.mem_of_getElem? (i := 629) (by decide +kernel), rfl⟩
theorem mw_630 : Cond.code yX4_coordinate cX4_coordinate 3 (some .int) ∈ gT := List.mem_filter.mpr ⟨List.mem_of_getElem? (i := 630) (by decide +kernel), rfl⟩
theorem mw_631 : Cond.methodLink RX6 151 yX6_setFraction ∈ gT := List.mem_filter.mpr ⟨List.mem_of_getElem? (i := 631) (by decide +kernel), rfl⟩
theorem mw_633 : Cond.instanceMethod yX6_setFraction ∈ gT := List.mem_filter.mpr ⟨List.mem_of_getElem? (i := 633) (by decide +kernel), rfl⟩
theorem mw_634 : Cond.code yX6_setFraction cX6_setFraction 4 none ∈ gT := List.mem_filter.mpr ⟨List.mem_of_getElem? (i := 634) (by decide +kernel), rfl⟩
theorem mw_635 : Cond.methodLink RX6 296 yX6_commonDivisor ∈ gT := List.mem_filter.mpr ⟨List.mem_of_getElem? (i := 635) (by decide +kernel), rfl⟩
theorem mw_636 : Cond.methodLink RL 58 yX6_meets ∈ gT := List.mem_filter.mpr ⟨List.mem_of_getElem? (i := 636) (by decide +kernel), rfl⟩
theorem mw_637 : Cond.instanceMethod yX6_meets ∈ gT := List.mem_filter.mpr ⟨List.mem_of_getElem? (i := 637) (by decide +kernel), rfl⟩
theorem mw_638 : Cond.selects RX6 yX6_meets yX6_meets ∈ gT := List.mem_filter.mpr ⟨List.mem_of_getElem? (i := 638) (by decide +kernel), rfl⟩
theorem mw_639 : Cond.code yX6_meets cX6_meets 4 (some .int) ∈ gT := List.mem_filter.mpr ⟨List.mem_of_getElem? (i := 639) (by decide +kernel), rfl⟩
theorem mw_640 : Cond.methodLink RX6 158 yJ6_bitCount_0f7a4 ∈ gT := List.mem_filter.mpr ⟨List.mem_of_getElem? (i := 640) (by decide +kernel), rfl⟩
theorem mw_641 : Cond.methodLink RL 62 yX6_part ∈ gT := List.mem_filter.mpr ⟨List.mem_of_getElem? (i := 641) (by decide +kernel), rfl⟩
theorem mw_642 : Cond.instanceMethod yX6_part ∈ gT := List.mem_filter.mpr ⟨List.mem_of_getElem? (i := 642) (by decide +kernel), rfl⟩
theorem mw_643 : Cond.selects RX6 yX6_part yX6_part ∈ gT := List.mem_filter.mpr ⟨List.mem_of_getElem? (i := 643) (by decide +kernel), rfl⟩
theorem mw_644 : Cond.code yX6_part cX6_part 2 (some .long) ∈ gT := List.mem_filter.mpr ⟨List.mem_of_getElem? (i := 644) (by decide +kernel), rfl⟩
theorem mw_645 : Cond.constantLong RX6 163 (-1000000) ∈ gT := List.mem_filter.mpr ⟨List.mem_of_getElem? (i := 645) (by decide +kernel), rfl⟩
theorem mw_646 : Cond.methodLink RL 67 yX6_edge ∈ gT := List.mem_filter.mpr ⟨List.mem_of_getElem? (i := 646) (by decide +kernel), rfl⟩
theorem mw_647 : Cond.instanceMethod yX6_edge ∈ gT := List.mem_filter.mpr ⟨List.mem_of_getElem? (i := 647) (by decide +kernel), rfl⟩
theorem mw_648 : Cond.selects RX6 yX6_edge yX6_edge ∈ gT := List.mem_filter.mpr ⟨List.mem_of_getElem? (i := 648) (by decide +kernel), rfl⟩
theorem mw_649 : Cond.code yX6_edge cX6_edge 6 (some .int) ∈ gT := List.mem_filter.mpr ⟨List.mem_of_getElem? (i := 649) (by decide +kernel), rfl⟩
theorem mw_650 : Cond.methodLinkNest RX6 168 yX4_cornersOnBoth RX6 ∈ lw_tbl := List.mem_of_getElem? (i := 650) (by decide +kernel)
theorem mw_652 : Cond.instanceMethod yX4_cornersOnBoth ∈ gT := List.mem_filter.mpr ⟨List.mem_of_getElem? (i := 652) (by decide +kernel), rfl⟩
theorem mw_653 : Cond.code yX4_cornersOnBoth cX4_cornersOnBoth 6 (some .int) ∈ gT := List.mem_filter.mpr ⟨List.mem_of_getElem? (i := 653) (by decide +kernel), rfl⟩
theorem mw_654 : Cond.methodLinkNest RX6 174 yX2_wayBetween RX6 ∈ lw_tbl := List.mem_of_getElem? (i := 654) (by decide +kernel)
theorem mw_656 : Cond.instanceMethod yX2_wayBetween ∈ gT := List.mem_filter.mpr ⟨List.mem_of_getElem? (i := 656) (by decide +kernel), rfl⟩
theorem mw_657 : Cond.code yX2_wayBetween cX2_wayBetween 10 (some .int) ∈ gT := List.mem_filter.mpr ⟨List.mem_of_getElem? (i := 657) (by decide +kernel), rfl⟩
theorem mw_658 : Cond.methodLinkNest RX2 48 yX6_commonDivisor RX6 ∈ lw_tbl := List.mem_of_getElem? (i := 658) (by decide +kernel)
theorem mw_659 : Cond.methodLink RL 72 yX6_reach ∈ gT := List.mem_filter.mpr ⟨List.mem_of_getElem? (i := 659) (by decide +kernel), rfl⟩
theorem mw_660 : Cond.instanceMethod yX6_reach ∈ gT := List.mem_filter.mpr ⟨List.mem_of_getElem? (i := 660) (by decide +kernel), rfl⟩
theorem mw_661 : Cond.selects RX6 yX6_reach yX6_reach ∈ gT := List.mem_filter.mpr ⟨List.mem_of_getElem? (i := 661) (by decide +kernel), rfl⟩
theorem mw_662 : Cond.code yX6_reach cX6_reach 7 (some .int) ∈ gT := List.mem_filter.mpr ⟨List.mem_of_getElem? (i := 662) (by decide +kernel), rfl⟩
theorem mw_663 : Cond.methodLinkNest RX6 178 yX4_farthest RX6 ∈ lw_tbl := List.mem_of_getElem? (i := 663) (by decide +kernel)
theorem mw_665 : Cond.instanceMethod yX4_farthest ∈ gT := List.mem_filter.mpr ⟨List.mem_of_getElem? (i := 665) (by decide +kernel), rfl⟩
theorem mw_666 : Cond.code yX4_farthest cX4_farthest 6 (some .int) ∈ gT := List.mem_filter.mpr ⟨List.mem_of_getElem? (i := 666) (by decide +kernel), rfl⟩
theorem mw_667 : Cond.methodLinkNest RX6 181 yX4_along RX6 ∈ lw_tbl := List.mem_of_getElem? (i := 667) (by decide +kernel)
theorem mw_668 : Cond.methodLinkNest RX6 185 yX4_cornersAt RX6 ∈ lw_tbl := List.mem_of_getElem? (i := 668) (by decide +kernel)
theorem mw_670 : Cond.instanceMethod yX4_cornersAt ∈ gT := List.mem_filter.mpr ⟨List.mem_of_getElem? (i := 670) (by decide +kernel), rfl⟩
theorem mw_671 : Cond.code yX4_cornersAt cX4_cornersAt 8 (some .int) ∈ gT := List.mem_filter.mpr ⟨List.mem_of_getElem? (i := 671) (by decide +kernel), rfl⟩
theorem mw_672 : Cond.methodLink RL 76 yX6_stays ∈ gT := List.mem_filter.mpr ⟨List.mem_of_getElem? (i := 672) (by decide +kernel), rfl⟩
theorem mw_673 : Cond.instanceMethod yX6_stays ∈ gT := List.mem_filter.mpr ⟨List.mem_of_getElem? (i := 673) (by decide +kernel), rfl⟩
theorem mw_674 : Cond.selects RX6 yX6_stays yX6_stays ∈ gT := List.mem_filter.mpr ⟨List.mem_of_getElem? (i := 674) (by decide +kernel), rfl⟩
theorem mw_675 : Cond.code yX6_stays cX6_stays 2 (some .int) ∈ gT := List.mem_filter.mpr ⟨List.mem_of_getElem? (i := 675) (by decide +kernel), rfl⟩
theorem mw_676 : Cond.methodLinkNest RX6 188 yX4_isKeptBy RX6 ∈ lw_tbl := List.mem_of_getElem? (i := 676) (by decide +kernel)
theorem mw_678 : Cond.instanceMethod yX4_isKeptBy ∈ gT := List.mem_filter.mpr ⟨List.mem_of_getElem? (i := 678) (by decide +kernel), rfl⟩
theorem mw_679 : Cond.code yX4_isKeptBy cX4_isKeptBy 7 (some .boolean) ∈ gT := List.mem_filter.mpr ⟨List.mem_of_getElem? (i := 679) (by decide +kernel), rfl⟩
theorem mw_680 : Cond.methodLinkNest RX4 157 yX6_turned RX6 ∈ lw_tbl := List.mem_of_getElem? (i := 680) (by decide +kernel)
theorem mw_681 : Cond.methodLink RL 80 yX6_symmetry ∈ gT := List.mem_filter.mpr ⟨List.mem_of_getElem? (i := 681) (by decide +kernel), rfl⟩
theorem mw_682 : Cond.instanceMethod yX6_symmetry ∈ gT := List.mem_filter.mpr ⟨List.mem_of_getElem? (i := 682) (by decide +kernel), rfl⟩
theorem mw_683 : Cond.selects RX6 yX6_symmetry yX6_symmetry ∈ gT := List.mem_filter.mpr ⟨List.mem_of_getElem? (i := 683) (by decide +kernel), rfl⟩
theorem mw_684 : Cond.code yX6_symmetry cX6_symmetry 4 (some .int) ∈ gT := List.mem_filter.mpr ⟨List.mem_of_getElem? (i := 684) (by decide +kernel), rfl⟩
theorem mw_685 : Cond.methodLink RL 84 yX6_hides ∈ gT := List.mem_filter.mpr ⟨List.mem_of_getElem? (i := 685) (by decide +kernel), rfl⟩
theorem mw_686 : Cond.instanceMethod yX6_hides ∈ gT := List.mem_filter.mpr ⟨List.mem_of_getElem? (i := 686) (by decide +kernel), rfl⟩
theorem mw_687 : Cond.selects RX6 yX6_hides yX6_hides ∈ gT := List.mem_filter.mpr ⟨List.mem_of_getElem? (i := 687) (by decide +kernel), rfl⟩
theorem mw_688 : Cond.code yX6_hides cX6_hides 8 (some .int) ∈ gT := List.mem_filter.mpr ⟨List.mem_of_getElem? (i := 688) (by decide +kernel), rfl⟩
theorem mw_689 : Cond.methodLink RX6 191 yX6_leastBeyond ∈ gT := List.mem_filter.mpr ⟨List.mem_of_getElem? (i := 689) (by decide +kernel), rfl⟩
theorem mw_690 : Cond.static yX6_leastBeyond ∈ gT := List.mem_filter.mpr ⟨List.mem_of_getElem? (i := 690) (by decide +kernel), rfl⟩
theorem mw_691 : Cond.code yX6_leastBeyond cX6_leastBeyond 3 (some .int) ∈ gT := List.mem_filter.mpr ⟨List.mem_of_getElem? (i := 691) (by decide +kernel), rfl⟩
theorem mw_692 : Cond.methodLink RX6 194 yX6_offsWithin ∈ gT := List.mem_filter.mpr ⟨List.mem_of_getElem? (i := 692) (by decide +kernel), rfl⟩
theorem mw_693 : Cond.static yX6_offsWithin ∈ gT := List.mem_filter.mpr ⟨List.mem_of_getElem? (i := 693) (by decide +kernel), rfl⟩
theorem mw_694 : Cond.code yX6_offsWithin cX6_offsWithin 2 (some .int) ∈ gT := List.mem_filter.mpr ⟨List.mem_of_getElem? (i := 694) (by decide +kernel), rfl⟩
theorem mw_695 : Cond.methodLink RX6 299 Lib.Math.min.name ∈ gT := List.mem_filter.mpr ⟨List.mem_of_getElem? (i := 695) (by decide +kernel), rfl⟩
theorem mw_696 : Cond.methodLink RL 88 yX6_spare ∈ gT := List.mem_filter.mpr ⟨List.mem_of_getElem? (i := 696) (by decide +kernel), rfl⟩
theorem mw_697 : Cond.instanceMethod yX6_spare ∈ gT := List.mem_filter.mpr ⟨List.mem_of_getElem? (i := 697) (by decide +kernel), rfl⟩
theorem mw_698 : Cond.selects RX6 yX6_spare yX6_spare ∈ gT := List.mem_filter.mpr ⟨List.mem_of_getElem? (i := 698) (by decide +kernel), rfl⟩
theorem mw_699 : Cond.code yX6_spare cX6_spare 2 (some .int) ∈ gT := List.mem_filter.mpr ⟨List.mem_of_getElem? (i := 699) (by decide +kernel), rfl⟩
theorem mw_700 : Cond.methodLink RX6 201 yX6_findSpare ∈ gT := List.mem_filter.mpr ⟨List.mem_of_getElem? (i := 700) (by decide +kernel), rfl⟩
theorem mw_702 : Cond.instanceMethod yX6_findSpare ∈ gT := List.mem_filter.mpr ⟨List.mem_of_getElem? (i := 702) (by decide +kernel), rfl⟩
theorem mw_703 : Cond.code yX6_findSpare cX6_findSpare 4 none ∈ gT := List.mem_filter.mpr ⟨List.mem_of_getElem? (i := 703) (by decide +kernel), rfl⟩
theorem mw_704 : Cond.methodLink RX6 304 yX6_cornersWithout ∈ gT := List.mem_filter.mpr ⟨List.mem_of_getElem? (i := 704) (by decide +kernel), rfl⟩
theorem mw_706 : Cond.instanceMethod yX6_cornersWithout ∈ gT := List.mem_filter.mpr ⟨List.mem_of_getElem? (i := 706) (by decide +kernel), rfl⟩
theorem mw_707 : Cond.code yX6_cornersWithout cX6_cornersWithout 3 (some .int) ∈ gT := List.mem_filter.mpr ⟨List.mem_of_getElem? (i := 707) (by decide +kernel), rfl⟩
theorem mw_708 : Cond.methodLink RL 92 yX6_type ∈ gT := List.mem_filter.mpr ⟨List.mem_of_getElem? (i := 708) (by decide +kernel), rfl⟩
theorem mw_709 : Cond.instanceMethod yX6_type ∈ gT := List.mem_filter.mpr ⟨List.mem_of_getElem? (i := 709) (by decide +kernel), rfl⟩
theorem mw_710 : Cond.selects RX6 yX6_type yX6_type ∈ gT := List.mem_filter.mpr ⟨List.mem_of_getElem? (i := 710) (by decide +kernel), rfl⟩
theorem mw_711 : Cond.code yX6_type cX6_type 2 (some .int) ∈ gT := List.mem_filter.mpr ⟨List.mem_of_getElem? (i := 711) (by decide +kernel), rfl⟩
theorem mw_712 : Cond.methodLink RL 96 yX6_clear ∈ gT := List.mem_filter.mpr ⟨List.mem_of_getElem? (i := 712) (by decide +kernel), rfl⟩
theorem mw_713 : Cond.instanceMethod yX6_clear ∈ gT := List.mem_filter.mpr ⟨List.mem_of_getElem? (i := 713) (by decide +kernel), rfl⟩
theorem mw_714 : Cond.selects RX6 yX6_clear yX6_clear ∈ gT := List.mem_filter.mpr ⟨List.mem_of_getElem? (i := 714) (by decide +kernel), rfl⟩
theorem mw_715 : Cond.code yX6_clear cX6_clear 2 (some .int) ∈ gT := List.mem_filter.mpr ⟨List.mem_of_getElem? (i := 715) (by decide +kernel), rfl⟩
theorem mw_716 : Cond.methodLink RL 100 yX6_reads ∈ gT := List.mem_filter.mpr ⟨List.mem_of_getElem? (i := 716) (by decide +kernel), rfl⟩
theorem mw_717 : Cond.instanceMethod yX6_reads ∈ gT := List.mem_filter.mpr ⟨List.mem_of_getElem? (i := 717) (by decide +kernel), rfl⟩
theorem mw_718 : Cond.selects RX6 yX6_reads yX6_reads ∈ gT := List.mem_filter.mpr ⟨List.mem_of_getElem? (i := 718) (by decide +kernel), rfl⟩
theorem mw_719 : Cond.code yX6_reads cX6_reads 2 (some .int) ∈ gT := List.mem_filter.mpr ⟨List.mem_of_getElem? (i := 719) (by decide +kernel), rfl⟩
theorem mw_720 : Cond.methodLinkNest RX6 217 yX2_copyFrom RX6 ∈ lw_tbl := List.mem_of_getElem? (i := 720) (by decide +kernel)
theorem mw_721 : Cond.methodLinkNest RX6 221 yX3_readAll RX6 ∈ lw_tbl := List.mem_of_getElem? (i := 721) (by decide +kernel)
theorem mw_723 : Cond.instanceMethod yX3_readAll ∈ gT := List.mem_filter.mpr ⟨List.mem_of_getElem? (i := 723) (by decide +kernel), rfl⟩
theorem mw_724 : Cond.code yX3_readAll cX3_readAll 4 (some .boolean) ∈ gT := List.mem_filter.mpr ⟨List.mem_of_getElem? (i := 724) (by decide +kernel), rfl⟩
theorem mw_725 : Cond.methodLink RX3 19 yX3_readOne ∈ gT := List.mem_filter.mpr ⟨List.mem_of_getElem? (i := 725) (by decide +kernel), rfl⟩
theorem mw_727 : Cond.instanceMethod yX3_readOne ∈ gT := List.mem_filter.mpr ⟨List.mem_of_getElem? (i := 727) (by decide +kernel), rfl⟩
theorem mw_728 : Cond.code yX3_readOne cX3_readOne 3 (some .boolean) ∈ gT := List.mem_filter.mpr ⟨List.mem_of_getElem? (i := 728) (by decide +kernel), rfl⟩
theorem mw_729 : Cond.methodLink RX3 30 yX3_isColonAhead ∈ gT := List.mem_filter.mpr ⟨List.mem_of_getElem? (i := 729) (by decide +kernel), rfl⟩
theorem mw_731 : Cond.instanceMethod yX3_isColonAhead ∈ gT := List.mem_filter.mpr ⟨List.mem_of_getElem? (i := 731) (by decide +kernel), rfl⟩
theorem mw_732 : Cond.code yX3_isColonAhead cX3_isColonAhead 2 (some .boolean) ∈ gT := List.mem_filter.mpr ⟨List.mem_of_getElem? (i := 732) (by decide +kernel), rfl⟩
theorem mw_733 : Cond.methodLink RX3 34 yX3_readTurns ∈ gT := List.mem_filter.mpr ⟨List.mem_of_getElem? (i := 733) (by decide +kernel), rfl⟩
theorem mw_735 : Cond.instanceMethod yX3_readTurns ∈ gT := List.mem_filter.mpr ⟨List.mem_of_getElem? (i := 735) (by decide +kernel), rfl⟩
theorem mw_736 : Cond.code yX3_readTurns cX3_readTurns 3 (some .boolean) ∈ gT := List.mem_filter.mpr ⟨List.mem_of_getElem? (i := 736) (by decide +kernel), rfl⟩
theorem mw_737 : Cond.methodLink RX3 23 yX3_look ∈ gT := List.mem_filter.mpr ⟨List.mem_of_getElem? (i := 737) (by decide +kernel), rfl⟩
theorem mw_739 : Cond.instanceMethod yX3_look ∈ gT := List.mem_filter.mpr ⟨List.mem_of_getElem? (i := 739) (by decide +kernel), rfl⟩
theorem mw_740 : Cond.code yX3_look cX3_look 1 (some .int) ∈ gT := List.mem_filter.mpr ⟨List.mem_of_getElem? (i := 740) (by decide +kernel), rfl⟩
theorem mw_741 : Cond.methodLink RX3 37 yX3_readSign ∈ gT := List.mem_filter.mpr ⟨List.mem_of_getElem? (i := 741) (by decide +kernel), rfl⟩
theorem mw_743 : Cond.instanceMethod yX3_readSign ∈ gT := List.mem_filter.mpr ⟨List.mem_of_getElem? (i := 743) (by decide +kernel), rfl⟩
theorem mw_744 : Cond.code yX3_readSign cX3_readSign 1 (some .boolean) ∈ gT := List.mem_filter.mpr ⟨List.mem_of_getElem? (i := 744) (by decide +kernel), rfl⟩
theorem mw_745 : Cond.methodLink RX3 49 yX3_readFigure ∈ gT := List.mem_filter.mpr ⟨List.mem_of_getElem? (i := 745) (by decide +kernel), rfl⟩
theorem mw_747 : Cond.instanceMethod yX3_readFigure ∈ gT := List.mem_filter.mpr ⟨List.mem_of_getElem? (i := 747) (by decide +kernel), rfl⟩
theorem mw_748 : Cond.code yX3_readFigure cX3_readFigure 3 (some .boolean) ∈ gT := List.mem_filter.mpr ⟨List.mem_of_getElem? (i := 748) (by decide +kernel), rfl⟩
theorem mw_749 : Cond.methodLinkNest RX3 64 yX6_isSign RX6 ∈ lw_tbl := List.mem_of_getElem? (i := 749) (by decide +kernel)
theorem mw_750 : Cond.methodLink RX3 40 yX3_readOff ∈ gT := List.mem_filter.mpr ⟨List.mem_of_getElem? (i := 750) (by decide +kernel), rfl⟩
theorem mw_752 : Cond.instanceMethod yX3_readOff ∈ gT := List.mem_filter.mpr ⟨List.mem_of_getElem? (i := 752) (by decide +kernel), rfl⟩
theorem mw_753 : Cond.code yX3_readOff cX3_readOff 2 (some .boolean) ∈ gT := List.mem_filter.mpr ⟨List.mem_of_getElem? (i := 753) (by decide +kernel), rfl⟩
theorem mw_754 : Cond.methodLinkNest RX3 71 yX6_isOff RX6 ∈ lw_tbl := List.mem_of_getElem? (i := 754) (by decide +kernel)
theorem mw_755 : Cond.methodLink RX3 43 yX3_endOne ∈ gT := List.mem_filter.mpr ⟨List.mem_of_getElem? (i := 755) (by decide +kernel), rfl⟩
theorem mw_757 : Cond.instanceMethod yX3_endOne ∈ gT := List.mem_filter.mpr ⟨List.mem_of_getElem? (i := 757) (by decide +kernel), rfl⟩
theorem mw_758 : Cond.code yX3_endOne cX3_endOne 3 (some .boolean) ∈ gT := List.mem_filter.mpr ⟨List.mem_of_getElem? (i := 758) (by decide +kernel), rfl⟩
theorem mw_759 : Cond.methodLinkNest RX3 75 yX0_gather RX6 ∈ lw_tbl := List.mem_of_getElem? (i := 759) (by decide +kernel)
theorem mw_760 : Cond.methodLinkNest RX3 87 yX2_putFamily RX6 ∈ lw_tbl := List.mem_of_getElem? (i := 760) (by decide +kernel)
theorem mw_761 : Cond.methodLink RL 104 yX6_back ∈ gT := List.mem_filter.mpr ⟨List.mem_of_getElem? (i := 761) (by decide +kernel), rfl⟩
theorem mw_762 : Cond.instanceMethod yX6_back ∈ gT := List.mem_filter.mpr ⟨List.mem_of_getElem? (i := 762) (by decide +kernel), rfl⟩
theorem mw_763 : Cond.selects RX6 yX6_back yX6_back ∈ gT := List.mem_filter.mpr ⟨List.mem_of_getElem? (i := 763) (by decide +kernel), rfl⟩
theorem mw_764 : Cond.code yX6_back cX6_back 1 (some .int) ∈ gT := List.mem_filter.mpr ⟨List.mem_of_getElem? (i := 764) (by decide +kernel), rfl⟩
theorem mw_765 : Cond.methodLinkNest RX6 229 yX5_takeBack RX6 ∈ lw_tbl := List.mem_of_getElem? (i := 765) (by decide +kernel)
theorem mw_767 : Cond.instanceMethod yX5_takeBack ∈ gT := List.mem_filter.mpr ⟨List.mem_of_getElem? (i := 767) (by decide +kernel), rfl⟩
theorem mw_768 : Cond.code yX5_takeBack cX5_takeBack 2 none ∈ gT := List.mem_filter.mpr ⟨List.mem_of_getElem? (i := 768) (by decide +kernel), rfl⟩
theorem mw_769 : Cond.methodLink RL 108 yX6_told ∈ gT := List.mem_filter.mpr ⟨List.mem_of_getElem? (i := 769) (by decide +kernel), rfl⟩
theorem mw_770 : Cond.instanceMethod yX6_told ∈ gT := List.mem_filter.mpr ⟨List.mem_of_getElem? (i := 770) (by decide +kernel), rfl⟩
theorem mw_771 : Cond.selects RX6 yX6_told yX6_told ∈ gT := List.mem_filter.mpr ⟨List.mem_of_getElem? (i := 771) (by decide +kernel), rfl⟩
theorem mw_772 : Cond.code yX6_told cX6_told 2 (some .int) ∈ gT := List.mem_filter.mpr ⟨List.mem_of_getElem? (i := 772) (by decide +kernel), rfl⟩
theorem mw_773 : Cond.methodLink RX6 235 yX6_howMany ∈ gT := List.mem_filter.mpr ⟨List.mem_of_getElem? (i := 773) (by decide +kernel), rfl⟩
theorem mw_775 : Cond.instanceMethod yX6_howMany ∈ gT := List.mem_filter.mpr ⟨List.mem_of_getElem? (i := 775) (by decide +kernel), rfl⟩
theorem mw_776 : Cond.code yX6_howMany cX6_howMany 2 (some .int) ∈ gT := List.mem_filter.mpr ⟨List.mem_of_getElem? (i := 776) (by decide +kernel), rfl⟩
theorem mw_777 : Cond.methodLink RL 112 yX6_digest ∈ gT := List.mem_filter.mpr ⟨List.mem_of_getElem? (i := 777) (by decide +kernel), rfl⟩
theorem mw_778 : Cond.instanceMethod yX6_digest ∈ gT := List.mem_filter.mpr ⟨List.mem_of_getElem? (i := 778) (by decide +kernel), rfl⟩
theorem mw_779 : Cond.selects RX6 yX6_digest yX6_digest ∈ gT := List.mem_filter.mpr ⟨List.mem_of_getElem? (i := 779) (by decide +kernel), rfl⟩
theorem mw_780 : Cond.code yX6_digest cX6_digest 6 (some .long) ∈ gT := List.mem_filter.mpr ⟨List.mem_of_getElem? (i := 780) (by decide +kernel), rfl⟩
theorem mw_781 : Cond.constantLong RX6 238 (2179) ∈ gT := List.mem_filter.mpr ⟨List.mem_of_getElem? (i := 781) (by decide +kernel), rfl⟩
theorem mw_782 : Cond.methodLinkNest RX6 242 yX4_addCornersTo RX6 ∈ lw_tbl := List.mem_of_getElem? (i := 782) (by decide +kernel)
theorem mw_784 : Cond.instanceMethod yX4_addCornersTo ∈ gT := List.mem_filter.mpr ⟨List.mem_of_getElem? (i := 784) (by decide +kernel), rfl⟩
theorem mw_785 : Cond.code yX4_addCornersTo cX4_addCornersTo 9 (some .long) ∈ gT := List.mem_filter.mpr ⟨List.mem_of_getElem? (i := 785) (by decide +kernel), rfl⟩
theorem mw_786 : Cond.methodLink RX4 160 yX4_coordinate ∈ gT := List.mem_filter.mpr ⟨List.mem_of_getElem? (i := 786) (by decide +kernel), rfl⟩
theorem mw_787 : Cond.constantLong RX4 163 (31) ∈ gT := List.mem_filter.mpr ⟨List.mem_of_getElem? (i := 787) (by decide +kernel), rfl⟩
theorem mw_790 : Cond.methodLink RL 12 yX7_init ∈ gT := List.mem_filter.mpr ⟨List.mem_of_getElem? (i := 790) (by decide +kernel), rfl⟩
theorem mw_791 : Cond.instanceMethod yX7_init ∈ gT := List.mem_filter.mpr ⟨List.mem_of_getElem? (i := 791) (by decide +kernel), rfl⟩
theorem mw_792 : Cond.code yX7_init cX7_init 3 none ∈ gT := List.mem_filter.mpr ⟨List.mem_of_getElem? (i := 792) (by decide +kernel), rfl⟩
theorem mw_793 : Cond.methodLink RX7 1 objectInit ∈ gT := List.mem_filter.mpr ⟨List.mem_of_getElem? (i := 793) (by decide +kernel), rfl⟩
theorem mw_794 : Cond.fieldLink RX7 7 (TX7 0).1 (TX7 0).2.1 (TX7 0).2.2.1 ∈ gT := List.mem_filter.mpr ⟨List.mem_of_getElem? (i := 794) (by decide +kernel), rfl⟩
theorem mw_795 : Cond.fieldLink RX7 13 (TX7 1).1 (TX7 1).2.1 (TX7 1).2.2.1 ∈ gT := List.mem_filter.mpr ⟨List.mem_of_getElem? (i := 795) (by decide +kernel), rfl⟩
theorem mw_796 : Cond.fieldLink RX7 49 (TX7 2).1 (TX7 2).2.1 (TX7 2).2.2.1 ∈ gT := List.mem_filter.mpr ⟨List.mem_of_getElem? (i := 796) (by decide +kernel), rfl⟩
theorem mw_797 : Cond.fieldLink RX7 16 (TX7 3).1 (TX7 3).2.1 (TX7 3).2.2.1 ∈ gT := List.mem_filter.mpr ⟨List.mem_of_getElem? (i := 797) (by decide +kernel), rfl⟩
theorem mw_798 : Cond.fieldLink RX7 19 (TX7 4).1 (TX7 4).2.1 (TX7 4).2.2.1 ∈ gT := List.mem_filter.mpr ⟨List.mem_of_getElem? (i := 798) (by decide +kernel), rfl⟩
theorem mw_799 : Cond.fieldLink RX7 22 (TX7 5).1 (TX7 5).2.1 (TX7 5).2.2.1 ∈ gT := List.mem_filter.mpr ⟨List.mem_of_getElem? (i := 799) (by decide +kernel), rfl⟩
theorem mw_800 : Cond.fieldLink RX7 193 (TX7 6).1 (TX7 6).2.1 (TX7 6).2.2.1 ∈ gT := List.mem_filter.mpr ⟨List.mem_of_getElem? (i := 800) (by decide +kernel), rfl⟩
theorem mw_801 : Cond.fieldLink RX7 196 (TX7 7).1 (TX7 7).2.1 (TX7 7).2.2.1 ∈ gT := List.mem_filter.mpr ⟨List.mem_of_getElem? (i := 801) (by decide +kernel), rfl⟩
theorem mw_802 : Cond.fieldLink RX7 172 (TX7 8).1 (TX7 8).2.1 (TX7 8).2.2.1 ∈ gT := List.mem_filter.mpr ⟨List.mem_of_getElem? (i := 802) (by decide +kernel), rfl⟩
theorem mw_803 : Cond.fieldLink RX7 25 (TX7 9).1 (TX7 9).2.1 (TX7 9).2.2.1 ∈ gT := List.mem_filter.mpr ⟨List.mem_of_getElem? (i := 803) (by decide +kernel), rfl⟩
theorem mw_804 : Cond.fieldLink RX7 29 (TX7 10).1 (TX7 10).2.1 (TX7 10).2.2.1 ∈ gT := List.mem_filter.mpr ⟨List.mem_of_getElem? (i := 804) (by decide +kernel), rfl⟩
theorem mw_805 : Cond.fieldLink RX7 114 (TX7 11).1 (TX7 11).2.1 (TX7 11).2.2.1 ∈ gT := List.mem_filter.mpr ⟨List.mem_of_getElem? (i := 805) (by decide +kernel), rfl⟩
theorem mw_806 : Cond.fieldLink RX7 32 (TX7 12).1 (TX7 12).2.1 (TX7 12).2.2.1 ∈ gT := List.mem_filter.mpr ⟨List.mem_of_getElem? (i := 806) (by decide +kernel), rfl⟩
theorem mw_807 : Cond.fieldLink RX7 36 (TX7 13).1 (TX7 13).2.1 (TX7 13).2.2.1 ∈ gT := List.mem_filter.mpr ⟨List.mem_of_getElem? (i := 807) (by decide +kernel), rfl⟩
theorem mw_808 : Cond.fieldLink RX7 39 (TX7 14).1 (TX7 14).2.1 (TX7 14).2.2.1 ∈ gT := List.mem_filter.mpr ⟨List.mem_of_getElem? (i := 808) (by decide +kernel), rfl⟩
theorem mw_809 : Cond.fieldLink RX7 42 (TX7 15).1 (TX7 15).2.1 (TX7 15).2.2.1 ∈ gT := List.mem_filter.mpr ⟨List.mem_of_getElem? (i := 809) (by decide +kernel), rfl⟩
theorem mw_844 : Cond.methodLink RL 17 yX7_plane ∈ gT := List.mem_filter.mpr ⟨List.mem_of_getElem? (i := 844) (by decide +kernel), rfl⟩
theorem mw_845 : Cond.instanceMethod yX7_plane ∈ gT := List.mem_filter.mpr ⟨List.mem_of_getElem? (i := 845) (by decide +kernel), rfl⟩
theorem mw_846 : Cond.selects RX7 yX7_plane yX7_plane ∈ gT := List.mem_filter.mpr ⟨List.mem_of_getElem? (i := 846) (by decide +kernel), rfl⟩
theorem mw_847 : Cond.code yX7_plane cX7_plane 5 (some .int) ∈ gT := List.mem_filter.mpr ⟨List.mem_of_getElem? (i := 847) (by decide +kernel), rfl⟩
theorem mw_848 : Cond.methodLink RX7 53 yX7_isSign ∈ gT := List.mem_filter.mpr ⟨List.mem_of_getElem? (i := 848) (by decide +kernel), rfl⟩
theorem mw_849 : Cond.static yX7_isSign ∈ gT := List.mem_filter.mpr ⟨List.mem_of_getElem? (i := 849) (by decide +kernel), rfl⟩
theorem mw_850 : Cond.code yX7_isSign cX7_isSign 3 (some .boolean) ∈ gT := List.mem_filter.mpr ⟨List.mem_of_getElem? (i := 850) (by decide +kernel), rfl⟩
theorem mw_851 : Cond.methodLink RX7 45 yX7_in ∈ gT := List.mem_filter.mpr ⟨List.mem_of_getElem? (i := 851) (by decide +kernel), rfl⟩
theorem mw_852 : Cond.static yX7_in ∈ gT := List.mem_filter.mpr ⟨List.mem_of_getElem? (i := 852) (by decide +kernel), rfl⟩
theorem mw_853 : Cond.code yX7_in cX7_in 3 (some .boolean) ∈ gT := List.mem_filter.mpr ⟨List.mem_of_getElem? (i := 853) (by decide +kernel), rfl⟩
theorem mw_854 : Cond.methodLink RX7 56 yX7_refuses ∈ gT := List.mem_filter.mpr ⟨List.mem_of_getElem? (i := 854) (by decide +kernel), rfl⟩
theorem mw_856 : Cond.instanceMethod yX7_refuses ∈ gT := List.mem_filter.mpr ⟨List.mem_of_getElem? (i := 856) (by decide +kernel), rfl⟩
theorem mw_857 : Cond.code yX7_refuses cX7_refuses 2 (some .int) ∈ gT := List.mem_filter.mpr ⟨List.mem_of_getElem? (i := 857) (by decide +kernel), rfl⟩
theorem mw_858 : Cond.methodLink RX7 60 yX7_aside ∈ gT := List.mem_filter.mpr ⟨List.mem_of_getElem? (i := 858) (by decide +kernel), rfl⟩
theorem mw_860 : Cond.instanceMethod yX7_aside ∈ gT := List.mem_filter.mpr ⟨List.mem_of_getElem? (i := 860) (by decide +kernel), rfl⟩
theorem mw_861 : Cond.code yX7_aside cX7_aside 2 none ∈ gT := List.mem_filter.mpr ⟨List.mem_of_getElem? (i := 861) (by decide +kernel), rfl⟩
theorem mw_862 : Cond.methodLink RX7 63 yX7_keeps ∈ gT := List.mem_filter.mpr ⟨List.mem_of_getElem? (i := 862) (by decide +kernel), rfl⟩
theorem mw_864 : Cond.instanceMethod yX7_keeps ∈ gT := List.mem_filter.mpr ⟨List.mem_of_getElem? (i := 864) (by decide +kernel), rfl⟩
theorem mw_865 : Cond.code yX7_keeps cX7_keeps 2 none ∈ gT := List.mem_filter.mpr ⟨List.mem_of_getElem? (i := 865) (by decide +kernel), rfl⟩
theorem mw_866 : Cond.methodLink RX7 66 yX7_comes ∈ gT := List.mem_filter.mpr ⟨List.mem_of_getElem? (i := 866) (by decide +kernel), rfl⟩
theorem mw_868 : Cond.instanceMethod yX7_comes ∈ gT := List.mem_filter.mpr ⟨List.mem_of_getElem? (i := 868) (by decide +kernel), rfl⟩
theorem mw_869 : Cond.code yX7_comes cX7_comes 6 none ∈ gT := List.mem_filter.mpr ⟨List.mem_of_getElem? (i := 869) (by decide +kernel), rfl⟩
theorem mw_870 : Cond.methodLink RL 22 yX7_family ∈ gT := List.mem_filter.mpr ⟨List.mem_of_getElem? (i := 870) (by decide +kernel), rfl⟩
theorem mw_871 : Cond.instanceMethod yX7_family ∈ gT := List.mem_filter.mpr ⟨List.mem_of_getElem? (i := 871) (by decide +kernel), rfl⟩
theorem mw_872 : Cond.selects RX7 yX7_family yX7_family ∈ gT := List.mem_filter.mpr ⟨List.mem_of_getElem? (i := 872) (by decide +kernel), rfl⟩
theorem mw_873 : Cond.code yX7_family cX7_family 7 (some .int) ∈ gT := List.mem_filter.mpr ⟨List.mem_of_getElem? (i := 873) (by decide +kernel), rfl⟩
theorem mw_874 : Cond.methodLink RX7 73 yX7_laysFamily ∈ gT := List.mem_filter.mpr ⟨List.mem_of_getElem? (i := 874) (by decide +kernel), rfl⟩
theorem mw_876 : Cond.instanceMethod yX7_laysFamily ∈ gT := List.mem_filter.mpr ⟨List.mem_of_getElem? (i := 876) (by decide +kernel), rfl⟩
theorem mw_877 : Cond.code yX7_laysFamily cX7_laysFamily 10 (some .int) ∈ gT := List.mem_filter.mpr ⟨List.mem_of_getElem? (i := 877) (by decide +kernel), rfl⟩
theorem mw_878 : Cond.methodLink RX7 70 yX7_turns ∈ gT := List.mem_filter.mpr ⟨List.mem_of_getElem? (i := 878) (by decide +kernel), rfl⟩
theorem mw_880 : Cond.instanceMethod yX7_turns ∈ gT := List.mem_filter.mpr ⟨List.mem_of_getElem? (i := 880) (by decide +kernel), rfl⟩
theorem mw_881 : Cond.code yX7_turns cX7_turns 5 none ∈ gT := List.mem_filter.mpr ⟨List.mem_of_getElem? (i := 881) (by decide +kernel), rfl⟩
theorem mw_882 : Cond.methodLink RX7 77 yX7_familyComes ∈ gT := List.mem_filter.mpr ⟨List.mem_of_getElem? (i := 882) (by decide +kernel), rfl⟩
theorem mw_884 : Cond.instanceMethod yX7_familyComes ∈ gT := List.mem_filter.mpr ⟨List.mem_of_getElem? (i := 884) (by decide +kernel), rfl⟩
theorem mw_885 : Cond.code yX7_familyComes cX7_familyComes 3 none ∈ gT := List.mem_filter.mpr ⟨List.mem_of_getElem? (i := 885) (by decide +kernel), rfl⟩
theorem mw_886 : Cond.methodLink RL 27 yX7_off ∈ gT := List.mem_filter.mpr ⟨List.mem_of_getElem? (i := 886) (by decide +kernel), rfl⟩
theorem mw_887 : Cond.instanceMethod yX7_off ∈ gT := List.mem_filter.mpr ⟨List.mem_of_getElem? (i := 887) (by decide +kernel), rfl⟩
theorem mw_888 : Cond.selects RX7 yX7_off yX7_off ∈ gT := List.mem_filter.mpr ⟨List.mem_of_getElem? (i := 888) (by decide +kernel), rfl⟩
theorem mw_889 : Cond.code yX7_off cX7_off 4 (some .int) ∈ gT := List.mem_filter.mpr ⟨List.mem_of_getElem? (i := 889) (by decide +kernel), rfl⟩
theorem mw_890 : Cond.methodLink RX7 81 yX7_isPlane ∈ gT := List.mem_filter.mpr ⟨List.mem_of_getElem? (i := 890) (by decide +kernel), rfl⟩
theorem mw_892 : Cond.instanceMethod yX7_isPlane ∈ gT := List.mem_filter.mpr ⟨List.mem_of_getElem? (i := 892) (by decide +kernel), rfl⟩
theorem mw_893 : Cond.code yX7_isPlane cX7_isPlane 2 (some .boolean) ∈ gT := List.mem_filter.mpr ⟨List.mem_of_getElem? (i := 893) (by decide +kernel), rfl⟩
theorem mw_894 : Cond.methodLink RX7 85 yX7_get ∈ gT := List.mem_filter.mpr ⟨List.mem_of_getElem? (i := 894) (by decide +kernel), rfl⟩
theorem mw_896 : Cond.instanceMethod yX7_get ∈ gT := List.mem_filter.mpr ⟨List.mem_of_getElem? (i := 896) (by decide +kernel), rfl⟩
theorem mw_897 : Cond.code yX7_get cX7_get 3 (some .int) ∈ gT := List.mem_filter.mpr ⟨List.mem_of_getElem? (i := 897) (by decide +kernel), rfl⟩
theorem mw_898 : Cond.methodLink RL 32 yX7_drop ∈ gT := List.mem_filter.mpr ⟨List.mem_of_getElem? (i := 898) (by decide +kernel), rfl⟩
theorem mw_899 : Cond.instanceMethod yX7_drop ∈ gT := List.mem_filter.mpr ⟨List.mem_of_getElem? (i := 899) (by decide +kernel), rfl⟩
theorem mw_900 : Cond.selects RX7 yX7_drop yX7_drop ∈ gT := List.mem_filter.mpr ⟨List.mem_of_getElem? (i := 900) (by decide +kernel), rfl⟩
theorem mw_901 : Cond.code yX7_drop cX7_drop 2 (some .int) ∈ gT := List.mem_filter.mpr ⟨List.mem_of_getElem? (i := 901) (by decide +kernel), rfl⟩
theorem mw_902 : Cond.methodLink RX7 89 yX7_goes ∈ gT := List.mem_filter.mpr ⟨List.mem_of_getElem? (i := 902) (by decide +kernel), rfl⟩
theorem mw_904 : Cond.instanceMethod yX7_goes ∈ gT := List.mem_filter.mpr ⟨List.mem_of_getElem? (i := 904) (by decide +kernel), rfl⟩
theorem mw_905 : Cond.code yX7_goes cX7_goes 3 none ∈ gT := List.mem_filter.mpr ⟨List.mem_of_getElem? (i := 905) (by decide +kernel), rfl⟩
theorem mw_906 : Cond.methodLink RL 37 yX7_anew ∈ gT := List.mem_filter.mpr ⟨List.mem_of_getElem? (i := 906) (by decide +kernel), rfl⟩
theorem mw_907 : Cond.instanceMethod yX7_anew ∈ gT := List.mem_filter.mpr ⟨List.mem_of_getElem? (i := 907) (by decide +kernel), rfl⟩
theorem mw_908 : Cond.selects RX7 yX7_anew yX7_anew ∈ gT := List.mem_filter.mpr ⟨List.mem_of_getElem? (i := 908) (by decide +kernel), rfl⟩
theorem mw_909 : Cond.code yX7_anew cX7_anew 3 (some .int) ∈ gT := List.mem_filter.mpr ⟨List.mem_of_getElem? (i := 909) (by decide +kernel), rfl⟩
theorem mw_910 : Cond.methodLink RL 41 yX7_draw ∈ gT := List.mem_filter.mpr ⟨List.mem_of_getElem? (i := 910) (by decide +kernel), rfl⟩
theorem mw_911 : Cond.instanceMethod yX7_draw ∈ gT := List.mem_filter.mpr ⟨List.mem_of_getElem? (i := 911) (by decide +kernel), rfl⟩
theorem mw_912 : Cond.selects RX7 yX7_draw yX7_draw ∈ gT := List.mem_filter.mpr ⟨List.mem_of_getElem? (i := 912) (by decide +kernel), rfl⟩
theorem mw_913 : Cond.code yX7_draw cX7_draw 9 (some .int) ∈ gT := List.mem_filter.mpr ⟨List.mem_of_getElem? (i := 913) (by decide +kernel), rfl⟩
theorem mw_914 : Cond.constant RX7 92 (999999) ∈ gT := List.mem_filter.mpr ⟨List.mem_of_getElem? (i := 914) (by decide +kernel), rfl⟩
theorem mw_915 : Cond.constantLong RX7 93 (1103515245) ∈ gT := List.mem_filter.mpr ⟨List.mem_of_getElem? (i := 915) (by decide +kernel), rfl⟩
theorem mw_916 : Cond.constantLong RX7 95 (12345) ∈ gT := List.mem_filter.mpr ⟨List.mem_of_getElem? (i := 916) (by decide +kernel), rfl⟩
theorem mw_917 : Cond.constantLong RX7 97 (2147483648) ∈ gT := List.mem_filter.mpr ⟨List.mem_of_getElem? (i := 917) (by decide +kernel), rfl⟩
theorem mw_918 : Cond.constantLong RX7 99 (65536) ∈ gT := List.mem_filter.mpr ⟨List.mem_of_getElem? (i := 918) (by decide +kernel), rfl⟩
theorem mw_919 : Cond.constantLong RX7 101 (7) ∈ gT := List.mem_filter.mpr ⟨List.mem_of_getElem? (i := 919) (by decide +kernel), rfl⟩
theorem mw_920 : Cond.constantLong RX7 103 (1024) ∈ gT := List.mem_filter.mpr ⟨List.mem_of_getElem? (i := 920) (by decide +kernel), rfl⟩
theorem mw_921 : Cond.constantLong RX7 105 (32768) ∈ gT := List.mem_filter.mpr ⟨List.mem_of_getElem? (i := 921) (by decide +kernel), rfl⟩
theorem mw_922 : Cond.constantLong RX7 107 (512) ∈ gT := List.mem_filter.mpr ⟨List.mem_of_getElem? (i := 922) (by decide +kernel), rfl⟩
theorem mw_923 : Cond.constantLong RX7 109 (31) ∈ gT := List.mem_filter.mpr ⟨List.mem_of_getElem? (i := 923) (by decide +kernel), rfl⟩
theorem mw_924 : Cond.methodLink RX7 111 yX7_lays ∈ gT := List.mem_filter.mpr ⟨List.mem_of_getElem? (i := 924) (by decide +kernel), rfl⟩
theorem mw_926 : Cond.instanceMethod yX7_lays ∈ gT := List.mem_filter.mpr ⟨List.mem_of_getElem? (i := 926) (by decide +kernel), rfl⟩
theorem mw_927 : Cond.code yX7_lays cX7_lays 5 none ∈ gT := List.mem_filter.mpr ⟨List.mem_of_getElem? (i := 927) (by decide +kernel), rfl⟩
theorem mw_928 : Cond.methodLink RX7 117 yX7_determinant ∈ gT := List.mem_filter.mpr ⟨List.mem_of_getElem? (i := 928) (by decide +kernel), rfl⟩
theorem mw_930 : Cond.instanceMethod yX7_determinant ∈ gT := List.mem_filter.mpr ⟨List.mem_of_getElem? (i := 930) (by decide +kernel), rfl⟩
theorem mw_931 : Cond.code yX7_determinant cX7_determinant 12 (some .int) ∈ gT := List.mem_filter.mpr ⟨List.mem_of_getElem? (i := 931) (by decide +kernel), rfl⟩
theorem mw_932 : Cond.methodLink RX7 138 yX7_meeting ∈ gT := List.mem_filter.mpr ⟨List.mem_of_getElem? (i := 932) (by decide +kernel), rfl⟩
theorem mw_934 : Cond.instanceMethod yX7_meeting ∈ gT := List.mem_filter.mpr ⟨List.mem_of_getElem? (i := 934) (by decide +kernel), rfl⟩
theorem mw_935 : Cond.code yX7_meeting cX7_meeting 13 none ∈ gT := List.mem_filter.mpr ⟨List.mem_of_getElem? (i := 935) (by decide +kernel), rfl⟩
theorem mw_936 : Cond.methodLink RX7 120 yX7_common ∈ gT := List.mem_filter.mpr ⟨List.mem_of_getElem? (i := 936) (by decide +kernel), rfl⟩
theorem mw_937 : Cond.static yX7_common ∈ gT := List.mem_filter.mpr ⟨List.mem_of_getElem? (i := 937) (by decide +kernel), rfl⟩
theorem mw_938 : Cond.code yX7_common cX7_common 5 (some .int) ∈ gT := List.mem_filter.mpr ⟨List.mem_of_getElem? (i := 938) (by decide +kernel), rfl⟩
theorem mw_939 : Cond.methodLink RX7 123 yX7_far ∈ gT := List.mem_filter.mpr ⟨List.mem_of_getElem? (i := 939) (by decide +kernel), rfl⟩
theorem mw_941 : Cond.instanceMethod yX7_far ∈ gT := List.mem_filter.mpr ⟨List.mem_of_getElem? (i := 941) (by decide +kernel), rfl⟩
theorem mw_942 : Cond.code yX7_far cX7_far 5 (some .int) ∈ gT := List.mem_filter.mpr ⟨List.mem_of_getElem? (i := 942) (by decide +kernel), rfl⟩
theorem mw_943 : Cond.methodLink RX7 126 yX7_isCorner ∈ gT := List.mem_filter.mpr ⟨List.mem_of_getElem? (i := 943) (by decide +kernel), rfl⟩
theorem mw_945 : Cond.instanceMethod yX7_isCorner ∈ gT := List.mem_filter.mpr ⟨List.mem_of_getElem? (i := 945) (by decide +kernel), rfl⟩
theorem mw_946 : Cond.code yX7_isCorner cX7_isCorner 6 (some .boolean) ∈ gT := List.mem_filter.mpr ⟨List.mem_of_getElem? (i := 946) (by decide +kernel), rfl⟩
theorem mw_947 : Cond.methodLink RX7 130 yX7_isAhead ∈ gT := List.mem_filter.mpr ⟨List.mem_of_getElem? (i := 947) (by decide +kernel), rfl⟩
theorem mw_949 : Cond.instanceMethod yX7_isAhead ∈ gT := List.mem_filter.mpr ⟨List.mem_of_getElem? (i := 949) (by decide +kernel), rfl⟩
theorem mw_950 : Cond.code yX7_isAhead cX7_isAhead 9 (some .boolean) ∈ gT := List.mem_filter.mpr ⟨List.mem_of_getElem? (i := 950) (by decide +kernel), rfl⟩
theorem mw_951 : Cond.methodLink RX7 141 yX7_cornersOn ∈ gT := List.mem_filter.mpr ⟨List.mem_of_getElem? (i := 951) (by decide +kernel), rfl⟩
theorem mw_953 : Cond.instanceMethod yX7_cornersOn ∈ gT := List.mem_filter.mpr ⟨List.mem_of_getElem? (i := 953) (by decide +kernel), rfl⟩
theorem mw_954 : Cond.code yX7_cornersOn cX7_cornersOn 4 (some .int) ∈ gT := List.mem_filter.mpr ⟨List.mem_of_getElem? (i := 954) (by decide +kernel), rfl⟩
theorem mw_955 : Cond.methodLink RX7 134 yX7_isOn ∈ gT := List.mem_filter.mpr ⟨List.mem_of_getElem? (i := 955) (by decide +kernel), rfl⟩
theorem mw_957 : Cond.instanceMethod yX7_isOn ∈ gT := List.mem_filter.mpr ⟨List.mem_of_getElem? (i := 957) (by decide +kernel), rfl⟩
theorem mw_958 : Cond.code yX7_isOn cX7_isOn 3 (some .boolean) ∈ gT := List.mem_filter.mpr ⟨List.mem_of_getElem? (i := 958) (by decide +kernel), rfl⟩
theorem mw_959 : Cond.methodLink RX7 144 yX7_isSame ∈ gT := List.mem_filter.mpr ⟨List.mem_of_getElem? (i := 959) (by decide +kernel), rfl⟩
theorem mw_961 : Cond.instanceMethod yX7_isSame ∈ gT := List.mem_filter.mpr ⟨List.mem_of_getElem? (i := 961) (by decide +kernel), rfl⟩
theorem mw_962 : Cond.code yX7_isSame cX7_isSame 5 (some .boolean) ∈ gT := List.mem_filter.mpr ⟨List.mem_of_getElem? (i := 962) (by decide +kernel), rfl⟩
theorem mw_963 : Cond.methodLink RL 45 yX7_of ∈ gT := List.mem_filter.mpr ⟨List.mem_of_getElem? (i := 963) (by decide +kernel), rfl⟩
theorem mw_964 : Cond.instanceMethod yX7_of ∈ gT := List.mem_filter.mpr ⟨List.mem_of_getElem? (i := 964) (by decide +kernel), rfl⟩
theorem mw_965 : Cond.selects RX7 yX7_of yX7_of ∈ gT := List.mem_filter.mpr ⟨List.mem_of_getElem? (i := 965) (by decide +kernel), rfl⟩
theorem mw_966 : Cond.code yX7_of cX7_of 3 (some .int) ∈ gT := List.mem_filter.mpr ⟨List.mem_of_getElem? (i := 966) (by decide +kernel), rfl⟩
theorem mw_967 : Cond.methodLink RX7 153 yX7_bad ∈ gT := List.mem_filter.mpr ⟨List.mem_of_getElem? (i := 967) (by decide +kernel), rfl⟩
theorem mw_969 : Cond.instanceMethod yX7_bad ∈ gT := List.mem_filter.mpr ⟨List.mem_of_getElem? (i := 969) (by decide +kernel), rfl⟩
theorem mw_970 : Cond.code yX7_bad cX7_bad 2 (some .int) ∈ gT := List.mem_filter.mpr ⟨List.mem_of_getElem? (i := 970) (by decide +kernel), rfl⟩
theorem mw_971 : Cond.methodLink RX7 156 yX7_edgesOf ∈ gT := List.mem_filter.mpr ⟨List.mem_of_getElem? (i := 971) (by decide +kernel), rfl⟩
theorem mw_973 : Cond.instanceMethod yX7_edgesOf ∈ gT := List.mem_filter.mpr ⟨List.mem_of_getElem? (i := 973) (by decide +kernel), rfl⟩
theorem mw_974 : Cond.code yX7_edgesOf cX7_edgesOf 4 (some .int) ∈ gT := List.mem_filter.mpr ⟨List.mem_of_getElem? (i := 974) (by decide +kernel), rfl⟩
theorem mw_975 : Cond.methodLink RX7 150 yX7_isEdge ∈ gT := List.mem_filter.mpr ⟨List.mem_of_getElem? (i := 975) (by decide +kernel), rfl⟩
theorem mw_977 : Cond.instanceMethod yX7_isEdge ∈ gT := List.mem_filter.mpr ⟨List.mem_of_getElem? (i := 977) (by decide +kernel), rfl⟩
theorem mw_978 : Cond.code yX7_isEdge cX7_isEdge 3 (some .boolean) ∈ gT := List.mem_filter.mpr ⟨List.mem_of_getElem? (i := 978) (by decide +kernel), rfl⟩
theorem mw_979 : Cond.methodLink RX7 147 yX7_cornersOnBoth ∈ gT := List.mem_filter.mpr ⟨List.mem_of_getElem? (i := 979) (by decide +kernel), rfl⟩
theorem mw_981 : Cond.instanceMethod yX7_cornersOnBoth ∈ gT := List.mem_filter.mpr ⟨List.mem_of_getElem? (i := 981) (by decide +kernel), rfl⟩
theorem mw_982 : Cond.code yX7_cornersOnBoth cX7_cornersOnBoth 5 (some .int) ∈ gT := List.mem_filter.mpr ⟨List.mem_of_getElem? (i := 982) (by decide +kernel), rfl⟩
theorem mw_983 : Cond.methodLink RL 49 yX7_member ∈ gT := List.mem_filter.mpr ⟨List.mem_of_getElem? (i := 983) (by decide +kernel), rfl⟩
theorem mw_984 : Cond.instanceMethod yX7_member ∈ gT := List.mem_filter.mpr ⟨List.mem_of_getElem? (i := 984) (by decide +kernel), rfl⟩
theorem mw_985 : Cond.selects RX7 yX7_member yX7_member ∈ gT := List.mem_filter.mpr ⟨List.mem_of_getElem? (i := 985) (by decide +kernel), rfl⟩
theorem mw_986 : Cond.code yX7_member cX7_member 9 (some .int) ∈ gT := List.mem_filter.mpr ⟨List.mem_of_getElem? (i := 986) (by decide +kernel), rfl⟩
theorem mw_987 : Cond.methodLink RL 53 yX7_all ∈ gT := List.mem_filter.mpr ⟨List.mem_of_getElem? (i := 987) (by decide +kernel), rfl⟩
theorem mw_988 : Cond.instanceMethod yX7_all ∈ gT := List.mem_filter.mpr ⟨List.mem_of_getElem? (i := 988) (by decide +kernel), rfl⟩
theorem mw_989 : Cond.selects RX7 yX7_all yX7_all ∈ gT := List.mem_filter.mpr ⟨List.mem_of_getElem? (i := 989) (by decide +kernel), rfl⟩
theorem mw_990 : Cond.code yX7_all cX7_all 2 (some .int) ∈ gT := List.mem_filter.mpr ⟨List.mem_of_getElem? (i := 990) (by decide +kernel), rfl⟩
theorem mw_991 : Cond.methodLink RX7 159 yX7_showing ∈ gT := List.mem_filter.mpr ⟨List.mem_of_getElem? (i := 991) (by decide +kernel), rfl⟩
theorem mw_993 : Cond.instanceMethod yX7_showing ∈ gT := List.mem_filter.mpr ⟨List.mem_of_getElem? (i := 993) (by decide +kernel), rfl⟩
theorem mw_994 : Cond.code yX7_showing cX7_showing 3 (some .int) ∈ gT := List.mem_filter.mpr ⟨List.mem_of_getElem? (i := 994) (by decide +kernel), rfl⟩
theorem mw_995 : Cond.methodLink RX7 163 yX7_edges ∈ gT := List.mem_filter.mpr ⟨List.mem_of_getElem? (i := 995) (by decide +kernel), rfl⟩
theorem mw_997 : Cond.instanceMethod yX7_edges ∈ gT := List.mem_filter.mpr ⟨List.mem_of_getElem? (i := 997) (by decide +kernel), rfl⟩
theorem mw_998 : Cond.code yX7_edges cX7_edges 3 (some .int) ∈ gT := List.mem_filter.mpr ⟨List.mem_of_getElem? (i := 998) (by decide +kernel), rfl⟩
theorem mw_999 : Cond.methodLink RX7 166 yX7_mostOn ∈ gT := List.mem_filter.mpr ⟨List.mem_of_getElem? (i := 999) (by decide +kernel), rfl⟩
theorem mw_1001 : Cond.instanceMethod yX7_mostOn ∈ gT := List.mem_filter.mpr ⟨List.mem_of_getElem? (i := 1001) (by decide +kernel), rfl⟩
theorem mw_1002 : Cond.code yX7_mostOn cX7_mostOn 3 (some .int) ∈ gT := List.mem_filter.mpr ⟨List.mem_of_getElem? (i := 1002) (by decide +kernel), rfl⟩
theorem mw_1003 : Cond.methodLink RX7 169 yX7_mostAt ∈ gT := List.mem_filter.mpr ⟨List.mem_of_getElem? (i := 1003) (by decide +kernel), rfl⟩
theorem mw_1005 : Cond.instanceMethod yX7_mostAt ∈ gT := List.mem_filter.mpr ⟨List.mem_of_getElem? (i := 1005) (by decide +kernel), rfl⟩
theorem mw_1006 : Cond.code yX7_mostAt cX7_mostAt 5 (some .int) ∈ gT := List.mem_filter.mpr ⟨List.mem_of_getElem? (i := 1006) (by decide +kernel), rfl⟩
theorem mw_1007 : Cond.methodLink RL 57 yX7_corner ∈ gT := List.mem_filter.mpr ⟨List.mem_of_getElem? (i := 1007) (by decide +kernel), rfl⟩
theorem mw_1008 : Cond.instanceMethod yX7_corner ∈ gT := List.mem_filter.mpr ⟨List.mem_of_getElem? (i := 1008) (by decide +kernel), rfl⟩
theorem mw_1009 : Cond.selects RX7 yX7_corner yX7_corner ∈ gT := List.mem_filter.mpr ⟨List.mem_of_getElem? (i := 1009) (by decide +kernel), rfl⟩
theorem mw_1010 : Cond.code yX7_corner cX7_corner 3 (some .int) ∈ gT := List.mem_filter.mpr ⟨List.mem_of_getElem? (i := 1010) (by decide +kernel), rfl⟩
theorem mw_1011 : Cond.methodLink RX7 175 yX7_fraction ∈ gT := List.mem_filter.mpr ⟨List.mem_of_getElem? (i := 1011) (by decide +kernel), rfl⟩
theorem mw_1013 : Cond.instanceMethod yX7_fraction ∈ gT := List.mem_filter.mpr ⟨List.mem_of_getElem? (i := 1013) (by decide +kernel), rfl⟩
theorem mw_1014 : Cond.code yX7_fraction cX7_fraction 4 none ∈ gT := List.mem_filter.mpr ⟨List.mem_of_getElem? (i := 1014) (by decide +kernel), rfl⟩
theorem mw_1015 : Cond.methodLink RL 61 yX7_meets ∈ gT := List.mem_filter.mpr ⟨List.mem_of_getElem? (i := 1015) (by decide +kernel), rfl⟩
theorem mw_1016 : Cond.instanceMethod yX7_meets ∈ gT := List.mem_filter.mpr ⟨List.mem_of_getElem? (i := 1016) (by decide +kernel), rfl⟩
theorem mw_1017 : Cond.selects RX7 yX7_meets yX7_meets ∈ gT := List.mem_filter.mpr ⟨List.mem_of_getElem? (i := 1017) (by decide +kernel), rfl⟩
theorem mw_1018 : Cond.code yX7_meets cX7_meets 5 (some .int) ∈ gT := List.mem_filter.mpr ⟨List.mem_of_getElem? (i := 1018) (by decide +kernel), rfl⟩
theorem mw_1019 : Cond.methodLink RL 66 yX7_part ∈ gT := List.mem_filter.mpr ⟨List.mem_of_getElem? (i := 1019) (by decide +kernel), rfl⟩
theorem mw_1020 : Cond.instanceMethod yX7_part ∈ gT := List.mem_filter.mpr ⟨List.mem_of_getElem? (i := 1020) (by decide +kernel), rfl⟩
theorem mw_1021 : Cond.selects RX7 yX7_part yX7_part ∈ gT := List.mem_filter.mpr ⟨List.mem_of_getElem? (i := 1021) (by decide +kernel), rfl⟩
theorem mw_1022 : Cond.code yX7_part cX7_part 2 (some .long) ∈ gT := List.mem_filter.mpr ⟨List.mem_of_getElem? (i := 1022) (by decide +kernel), rfl⟩
theorem mw_1023 : Cond.constant RX7 179 (-1000000) ∈ gT := List.mem_filter.mpr ⟨List.mem_of_getElem? (i := 1023) (by decide +kernel), rfl⟩
theorem mw_1024 : Cond.methodLink RL 71 yX7_edge ∈ gT := List.mem_filter.mpr ⟨List.mem_of_getElem? (i := 1024) (by decide +kernel), rfl⟩
theorem mw_1025 : Cond.instanceMethod yX7_edge ∈ gT := List.mem_filter.mpr ⟨List.mem_of_getElem? (i := 1025) (by decide +kernel), rfl⟩
theorem mw_1026 : Cond.selects RX7 yX7_edge yX7_edge ∈ gT := List.mem_filter.mpr ⟨List.mem_of_getElem? (i := 1026) (by decide +kernel), rfl⟩
theorem mw_1027 : Cond.code yX7_edge cX7_edge 8 (some .int) ∈ gT := List.mem_filter.mpr ⟨List.mem_of_getElem? (i := 1027) (by decide +kernel), rfl⟩
theorem mw_1028 : Cond.methodLink RL 75 yX7_reach ∈ gT := List.mem_filter.mpr ⟨List.mem_of_getElem? (i := 1028) (by decide +kernel), rfl⟩
theorem mw_1029 : Cond.instanceMethod yX7_reach ∈ gT := List.mem_filter.mpr ⟨List.mem_of_getElem? (i := 1029) (by decide +kernel), rfl⟩
theorem mw_1030 : Cond.selects RX7 yX7_reach yX7_reach ∈ gT := List.mem_filter.mpr ⟨List.mem_of_getElem? (i := 1030) (by decide +kernel), rfl⟩
theorem mw_1031 : Cond.code yX7_reach cX7_reach 7 (some .int) ∈ gT := List.mem_filter.mpr ⟨List.mem_of_getElem? (i := 1031) (by decide +kernel), rfl⟩
theorem mw_1032 : Cond.methodLink RX7 180 yX7_farthest ∈ gT := List.mem_filter.mpr ⟨List.mem_of_getElem? (i := 1032) (by decide +kernel), rfl⟩
theorem mw_1034 : Cond.instanceMethod yX7_farthest ∈ gT := List.mem_filter.mpr ⟨List.mem_of_getElem? (i := 1034) (by decide +kernel), rfl⟩
theorem mw_1035 : Cond.code yX7_farthest cX7_farthest 8 (some .int) ∈ gT := List.mem_filter.mpr ⟨List.mem_of_getElem? (i := 1035) (by decide +kernel), rfl⟩
theorem mw_1036 : Cond.methodLink RX7 184 yX7_farOf ∈ gT := List.mem_filter.mpr ⟨List.mem_of_getElem? (i := 1036) (by decide +kernel), rfl⟩
theorem mw_1038 : Cond.instanceMethod yX7_farOf ∈ gT := List.mem_filter.mpr ⟨List.mem_of_getElem? (i := 1038) (by decide +kernel), rfl⟩
theorem mw_1039 : Cond.code yX7_farOf cX7_farOf 5 (some .int) ∈ gT := List.mem_filter.mpr ⟨List.mem_of_getElem? (i := 1039) (by decide +kernel), rfl⟩
theorem mw_1040 : Cond.methodLink RL 79 yX7_stays ∈ gT := List.mem_filter.mpr ⟨List.mem_of_getElem? (i := 1040) (by decide +kernel), rfl⟩
theorem mw_1041 : Cond.instanceMethod yX7_stays ∈ gT := List.mem_filter.mpr ⟨List.mem_of_getElem? (i := 1041) (by decide +kernel), rfl⟩
theorem mw_1042 : Cond.selects RX7 yX7_stays yX7_stays ∈ gT := List.mem_filter.mpr ⟨List.mem_of_getElem? (i := 1042) (by decide +kernel), rfl⟩
theorem mw_1043 : Cond.code yX7_stays cX7_stays 2 (some .int) ∈ gT := List.mem_filter.mpr ⟨List.mem_of_getElem? (i := 1043) (by decide +kernel), rfl⟩
theorem mw_1044 : Cond.methodLink RX7 187 yX7_isStaying ∈ gT := List.mem_filter.mpr ⟨List.mem_of_getElem? (i := 1044) (by decide +kernel), rfl⟩
theorem mw_1046 : Cond.instanceMethod yX7_isStaying ∈ gT := List.mem_filter.mpr ⟨List.mem_of_getElem? (i := 1046) (by decide +kernel), rfl⟩
theorem mw_1047 : Cond.code yX7_isStaying cX7_isStaying 4 (some .boolean) ∈ gT := List.mem_filter.mpr ⟨List.mem_of_getElem? (i := 1047) (by decide +kernel), rfl⟩
theorem mw_1048 : Cond.methodLink RL 83 yX7_symmetry ∈ gT := List.mem_filter.mpr ⟨List.mem_of_getElem? (i := 1048) (by decide +kernel), rfl⟩
theorem mw_1049 : Cond.instanceMethod yX7_symmetry ∈ gT := List.mem_filter.mpr ⟨List.mem_of_getElem? (i := 1049) (by decide +kernel), rfl⟩
theorem mw_1050 : Cond.selects RX7 yX7_symmetry yX7_symmetry ∈ gT := List.mem_filter.mpr ⟨List.mem_of_getElem? (i := 1050) (by decide +kernel), rfl⟩
theorem mw_1051 : Cond.code yX7_symmetry cX7_symmetry 3 (some .int) ∈ gT := List.mem_filter.mpr ⟨List.mem_of_getElem? (i := 1051) (by decide +kernel), rfl⟩
theorem mw_1052 : Cond.methodLink RL 87 yX7_hides ∈ gT := List.mem_filter.mpr ⟨List.mem_of_getElem? (i := 1052) (by decide +kernel), rfl⟩
theorem mw_1053 : Cond.instanceMethod yX7_hides ∈ gT := List.mem_filter.mpr ⟨List.mem_of_getElem? (i := 1053) (by decide +kernel), rfl⟩
theorem mw_1054 : Cond.selects RX7 yX7_hides yX7_hides ∈ gT := List.mem_filter.mpr ⟨List.mem_of_getElem? (i := 1054) (by decide +kernel), rfl⟩
theorem mw_1055 : Cond.code yX7_hides cX7_hides 11 (some .int) ∈ gT := List.mem_filter.mpr ⟨List.mem_of_getElem? (i := 1055) (by decide +kernel), rfl⟩
theorem mw_1056 : Cond.methodLink RL 91 yX7_spare ∈ gT := List.mem_filter.mpr ⟨List.mem_of_getElem? (i := 1056) (by decide +kernel), rfl⟩
theorem mw_1057 : Cond.instanceMethod yX7_spare ∈ gT := List.mem_filter.mpr ⟨List.mem_of_getElem? (i := 1057) (by decide +kernel), rfl⟩
theorem mw_1058 : Cond.selects RX7 yX7_spare yX7_spare ∈ gT := List.mem_filter.mpr ⟨List.mem_of_getElem? (i := 1058) (by decide +kernel), rfl⟩
theorem mw_1059 : Cond.code yX7_spare cX7_spare 5 (some .int) ∈ gT := List.mem_filter.mpr ⟨List.mem_of_getElem? (i := 1059) (by decide +kernel), rfl⟩
theorem mw_1060 : Cond.methodLink RX7 190 yX7_restores ∈ gT := List.mem_filter.mpr ⟨List.mem_of_getElem? (i := 1060) (by decide +kernel), rfl⟩
theorem mw_1062 : Cond.instanceMethod yX7_restores ∈ gT := List.mem_filter.mpr ⟨List.mem_of_getElem? (i := 1062) (by decide +kernel), rfl⟩
theorem mw_1063 : Cond.code yX7_restores cX7_restores 2 none ∈ gT := List.mem_filter.mpr ⟨List.mem_of_getElem? (i := 1063) (by decide +kernel), rfl⟩
theorem mw_1064 : Cond.methodLink RL 95 yX7_type ∈ gT := List.mem_filter.mpr ⟨List.mem_of_getElem? (i := 1064) (by decide +kernel), rfl⟩
theorem mw_1065 : Cond.instanceMethod yX7_type ∈ gT := List.mem_filter.mpr ⟨List.mem_of_getElem? (i := 1065) (by decide +kernel), rfl⟩
theorem mw_1066 : Cond.selects RX7 yX7_type yX7_type ∈ gT := List.mem_filter.mpr ⟨List.mem_of_getElem? (i := 1066) (by decide +kernel), rfl⟩
theorem mw_1067 : Cond.code yX7_type cX7_type 2 (some .int) ∈ gT := List.mem_filter.mpr ⟨List.mem_of_getElem? (i := 1067) (by decide +kernel), rfl⟩
theorem mw_1068 : Cond.methodLink RL 99 yX7_clear ∈ gT := List.mem_filter.mpr ⟨List.mem_of_getElem? (i := 1068) (by decide +kernel), rfl⟩
theorem mw_1069 : Cond.instanceMethod yX7_clear ∈ gT := List.mem_filter.mpr ⟨List.mem_of_getElem? (i := 1069) (by decide +kernel), rfl⟩
theorem mw_1070 : Cond.selects RX7 yX7_clear yX7_clear ∈ gT := List.mem_filter.mpr ⟨List.mem_of_getElem? (i := 1070) (by decide +kernel), rfl⟩
theorem mw_1071 : Cond.code yX7_clear cX7_clear 2 (some .int) ∈ gT := List.mem_filter.mpr ⟨List.mem_of_getElem? (i := 1071) (by decide +kernel), rfl⟩
theorem mw_1072 : Cond.methodLink RL 103 yX7_reads ∈ gT := List.mem_filter.mpr ⟨List.mem_of_getElem? (i := 1072) (by decide +kernel), rfl⟩
theorem mw_1073 : Cond.instanceMethod yX7_reads ∈ gT := List.mem_filter.mpr ⟨List.mem_of_getElem? (i := 1073) (by decide +kernel), rfl⟩
theorem mw_1074 : Cond.selects RX7 yX7_reads yX7_reads ∈ gT := List.mem_filter.mpr ⟨List.mem_of_getElem? (i := 1074) (by decide +kernel), rfl⟩
theorem mw_1075 : Cond.code yX7_reads cX7_reads 3 (some .int) ∈ gT := List.mem_filter.mpr ⟨List.mem_of_getElem? (i := 1075) (by decide +kernel), rfl⟩
theorem mw_1076 : Cond.methodLink RX7 202 yX7_skips ∈ gT := List.mem_filter.mpr ⟨List.mem_of_getElem? (i := 1076) (by decide +kernel), rfl⟩
theorem mw_1078 : Cond.instanceMethod yX7_skips ∈ gT := List.mem_filter.mpr ⟨List.mem_of_getElem? (i := 1078) (by decide +kernel), rfl⟩
theorem mw_1079 : Cond.code yX7_skips cX7_skips 1 none ∈ gT := List.mem_filter.mpr ⟨List.mem_of_getElem? (i := 1079) (by decide +kernel), rfl⟩
theorem mw_1080 : Cond.methodLink RX7 199 yX7_byteAt ∈ gT := List.mem_filter.mpr ⟨List.mem_of_getElem? (i := 1080) (by decide +kernel), rfl⟩
theorem mw_1082 : Cond.instanceMethod yX7_byteAt ∈ gT := List.mem_filter.mpr ⟨List.mem_of_getElem? (i := 1082) (by decide +kernel), rfl⟩
theorem mw_1083 : Cond.code yX7_byteAt cX7_byteAt 2 (some .int) ∈ gT := List.mem_filter.mpr ⟨List.mem_of_getElem? (i := 1083) (by decide +kernel), rfl⟩
theorem mw_1084 : Cond.methodLink RX7 218 yX7_sentence ∈ gT := List.mem_filter.mpr ⟨List.mem_of_getElem? (i := 1084) (by decide +kernel), rfl⟩
theorem mw_1086 : Cond.instanceMethod yX7_sentence ∈ gT := List.mem_filter.mpr ⟨List.mem_of_getElem? (i := 1086) (by decide +kernel), rfl⟩
theorem mw_1087 : Cond.code yX7_sentence cX7_sentence 4 (some .boolean) ∈ gT := List.mem_filter.mpr ⟨List.mem_of_getElem? (i := 1087) (by decide +kernel), rfl⟩
theorem mw_1088 : Cond.methodLink RX7 205 yX7_isFamily ∈ gT := List.mem_filter.mpr ⟨List.mem_of_getElem? (i := 1088) (by decide +kernel), rfl⟩
theorem mw_1090 : Cond.instanceMethod yX7_isFamily ∈ gT := List.mem_filter.mpr ⟨List.mem_of_getElem? (i := 1090) (by decide +kernel), rfl⟩
theorem mw_1091 : Cond.code yX7_isFamily cX7_isFamily 2 (some .boolean) ∈ gT := List.mem_filter.mpr ⟨List.mem_of_getElem? (i := 1091) (by decide +kernel), rfl⟩
theorem mw_1092 : Cond.methodLink RX7 209 yX7_readsTurns ∈ gT := List.mem_filter.mpr ⟨List.mem_of_getElem? (i := 1092) (by decide +kernel), rfl⟩
theorem mw_1094 : Cond.instanceMethod yX7_readsTurns ∈ gT := List.mem_filter.mpr ⟨List.mem_of_getElem? (i := 1094) (by decide +kernel), rfl⟩
theorem mw_1095 : Cond.code yX7_readsTurns cX7_readsTurns 2 (some .int) ∈ gT := List.mem_filter.mpr ⟨List.mem_of_getElem? (i := 1095) (by decide +kernel), rfl⟩
theorem mw_1096 : Cond.methodLink RX7 212 yX7_readsSign ∈ gT := List.mem_filter.mpr ⟨List.mem_of_getElem? (i := 1096) (by decide +kernel), rfl⟩
theorem mw_1098 : Cond.instanceMethod yX7_readsSign ∈ gT := List.mem_filter.mpr ⟨List.mem_of_getElem? (i := 1098) (by decide +kernel), rfl⟩
theorem mw_1099 : Cond.code yX7_readsSign cX7_readsSign 3 (some .boolean) ∈ gT := List.mem_filter.mpr ⟨List.mem_of_getElem? (i := 1099) (by decide +kernel), rfl⟩
theorem mw_1100 : Cond.methodLink RX7 215 yX7_readsOff ∈ gT := List.mem_filter.mpr ⟨List.mem_of_getElem? (i := 1100) (by decide +kernel), rfl⟩
theorem mw_1102 : Cond.instanceMethod yX7_readsOff ∈ gT := List.mem_filter.mpr ⟨List.mem_of_getElem? (i := 1102) (by decide +kernel), rfl⟩
theorem mw_1103 : Cond.code yX7_readsOff cX7_readsOff 3 (some .int) ∈ gT := List.mem_filter.mpr ⟨List.mem_of_getElem? (i := 1103) (by decide +kernel), rfl⟩
theorem mw_1104 : Cond.methodLink RL 107 yX7_back ∈ gT := List.mem_filter.mpr ⟨List.mem_of_getElem? (i := 1104) (by decide +kernel), rfl⟩
theorem mw_1105 : Cond.instanceMethod yX7_back ∈ gT := List.mem_filter.mpr ⟨List.mem_of_getElem? (i := 1105) (by decide +kernel), rfl⟩
theorem mw_1106 : Cond.selects RX7 yX7_back yX7_back ∈ gT := List.mem_filter.mpr ⟨List.mem_of_getElem? (i := 1106) (by decide +kernel), rfl⟩
theorem mw_1107 : Cond.code yX7_back cX7_back 2 (some .int) ∈ gT := List.mem_filter.mpr ⟨List.mem_of_getElem? (i := 1107) (by decide +kernel), rfl⟩
theorem mw_1108 : Cond.methodLink RL 111 yX7_told ∈ gT := List.mem_filter.mpr ⟨List.mem_of_getElem? (i := 1108) (by decide +kernel), rfl⟩
theorem mw_1109 : Cond.instanceMethod yX7_told ∈ gT := List.mem_filter.mpr ⟨List.mem_of_getElem? (i := 1109) (by decide +kernel), rfl⟩
theorem mw_1110 : Cond.selects RX7 yX7_told yX7_told ∈ gT := List.mem_filter.mpr ⟨List.mem_of_getElem? (i := 1110) (by decide +kernel), rfl⟩
theorem mw_1111 : Cond.code yX7_told cX7_told 2 (some .int) ∈ gT := List.mem_filter.mpr ⟨List.mem_of_getElem? (i := 1111) (by decide +kernel), rfl⟩
theorem mw_1112 : Cond.methodLink RX7 221 yX7_toldOf ∈ gT := List.mem_filter.mpr ⟨List.mem_of_getElem? (i := 1112) (by decide +kernel), rfl⟩
theorem mw_1114 : Cond.instanceMethod yX7_toldOf ∈ gT := List.mem_filter.mpr ⟨List.mem_of_getElem? (i := 1114) (by decide +kernel), rfl⟩
theorem mw_1115 : Cond.code yX7_toldOf cX7_toldOf 2 (some .int) ∈ gT := List.mem_filter.mpr ⟨List.mem_of_getElem? (i := 1115) (by decide +kernel), rfl⟩
theorem mw_1116 : Cond.methodLink RL 116 yX7_digest ∈ gT := List.mem_filter.mpr ⟨List.mem_of_getElem? (i := 1116) (by decide +kernel), rfl⟩
theorem mw_1117 : Cond.instanceMethod yX7_digest ∈ gT := List.mem_filter.mpr ⟨List.mem_of_getElem? (i := 1117) (by decide +kernel), rfl⟩
theorem mw_1118 : Cond.selects RX7 yX7_digest yX7_digest ∈ gT := List.mem_filter.mpr ⟨List.mem_of_getElem? (i := 1118) (by decide +kernel), rfl⟩
theorem mw_1119 : Cond.code yX7_digest cX7_digest 6 (some .long) ∈ gT := List.mem_filter.mpr ⟨List.mem_of_getElem? (i := 1119) (by decide +kernel), rfl⟩
theorem mw_1120 : Cond.constantLong RX7 224 (2179) ∈ gT := List.mem_filter.mpr ⟨List.mem_of_getElem? (i := 1120) (by decide +kernel), rfl⟩
theorem gin_X0 : ∀ w ∈ u_ws RX0 TX0 3, w ∈ gT := gin_r _ [282, 284, 286] (by decide +kernel) (by decide +kernel)
theorem gin_X1 : ∀ w ∈ u_ws RX1 TX1 11, w ∈ gT := gin_r _ [213, 215, 217, 219, 221, 223, 225, 227, 229, 231, 233] (by decide +kernel) (by decide +kernel)
theorem gin_X2 : ∀ w ∈ u_ws RX2 TX2 5, w ∈ gT := gin_r _ [147, 149, 151, 153, 155] (by decide +kernel) (by decide +kernel)
theorem gin_X3 : ∀ w ∈ u_ws RX3 TX3 9, w ∈ gT := gin_r _ [308, 310, 312, 314, 316, 318, 320, 322, 324] (by decide +kernel) (by decide +kernel)
theorem gin_X4 : ∀ w ∈ u_ws RX4 TX4 9, w ∈ gT := gin_r _ [249, 251, 253, 255, 257, 259, 261, 263, 265] (by decide +kernel) (by decide +kernel)
theorem gin_X5 : ∀ w ∈ u_ws RX5 TX5 3, w ∈ gT := gin_r _ [172, 174, 176] (by decide +kernel) (by decide +kernel)
theorem gin_X6 : ∀ w ∈ u_ws RX6 TX6 16, w ∈ gT := gin_r _ [351, 353, 355, 357, 359, 361, 363, 365, 367, 369, 371, 373, 375, 377, 379, 381] (by decide +kernel) (by decide +kernel)
theorem gin_X7 : ∀ w ∈ u_ws RX7 TX7 16, w ∈ gT := gin_r _ [810, 812, 814, 816, 818, 820, 822, 824, 826, 828, 830, 832, 834, 836, 838, 840] (by decide +kernel) (by decide +kernel)
end
section
def g_cl (ci : Nat) : vw_C := vwCl.getD ci (RX0, TX0, 3)
theorem g_cl_at {ci : Nat} (h : ci < 8) : vwCl[ci]? = some (g_cl ci) := by
  unfold g_cl
  rw [List.getD_eq_getElem?_getD, List.getElem?_eq_getElem (show ci < vwCl.length from h)]; rfl
theorem g_cin {ci : Nat} (h : ci < 8) : ∀ w ∈ u_ws (g_cl ci).1 (g_cl ci).2.1 (g_cl ci).2.2, w ∈ gT := by
  rcases (show ci = 0 ∨ ci = 1 ∨ ci = 2 ∨ ci = 3 ∨ ci = 4 ∨ ci = 5 ∨ ci = 6 ∨ ci = 7 by omega) with rfl | rfl | rfl | rfl | rfl | rfl | rfl | rfl
  · exact gin_X0
  · exact gin_X1
  · exact gin_X2
  · exact gin_X3
  · exact gin_X4
  · exact gin_X5
  · exact gin_X6
  · exact gin_X7
theorem g_cty {ci : Nat} (h : ci < 8) : ∃ ty0 : Nat → FieldType, (∀ k, k < (g_cl ci).2.2 → parseFieldDescriptor ((g_cl ci).2.1 k).2.2.1 = some (ty0 k)) ∧ ∀ a, a < (g_cl ci).2.2 → ∀ b, b < (g_cl ci).2.2 → a ≠ b → ((g_cl ci).2.1 a).2.1 ≠ ((g_cl ci).2.1 b).2.1 := by
  rcases (show ci = 0 ∨ ci = 1 ∨ ci = 2 ∨ ci = 3 ∨ ci = 4 ∨ ci = 5 ∨ ci = 6 ∨ ci = 7 by omega) with rfl | rfl | rfl | rfl | rfl | rfl | rfl | rfl
  · exact ⟨tyX0, tyX0_ok, nmX0⟩
  · exact ⟨tyX1, tyX1_ok, nmX1⟩
  · exact ⟨tyX2, tyX2_ok, nmX2⟩
  · exact ⟨tyX3, tyX3_ok, nmX3⟩
  · exact ⟨tyX4, tyX4_ok, nmX4⟩
  · exact ⟨tyX5, tyX5_ok, nmX5⟩
  · exact ⟨tyX6, tyX6_ok, nmX6⟩
  · exact ⟨tyX7, tyX7_ok, nmX7⟩
theorem g_cn {ci : Nat} (h : ci < 8) : (g_fds ci).length = (g_cl ci).2.2 := by
  rcases (show ci = 0 ∨ ci = 1 ∨ ci = 2 ∨ ci = 3 ∨ ci = 4 ∨ ci = 5 ∨ ci = 6 ∨ ci = 7 by omega) with rfl | rfl | rfl | rfl | rfl | rfl | rfl | rfl <;> rfl
theorem g_obj {cA : Nat → ClassId} {ad : Nat → Nat} {I : Nat → Int32} {A : Nat → Nat → Int32} {L : Nat → Int64} {a ci : Nat} (hsh : g_sh a = (ci, 0)) (hci : ci < 8) : g_cell cA ad I A L a = .inr (ci, g_fs ad I L a ci) := by
  unfold g_cell
  rw [hsh]
  exact if_pos hci
theorem g_arr {cA : Nat → ClassId} {ad : Nat → Nat} {I : Nat → Int32} {A : Nat → Nat → Int32} {L : Nat → Int64} {a t n : Nat} (hsh : g_sh a = (8 + t, n)) : g_cell cA ad I A L a = .inl (cA t, n, g_row ad A a) := by
  unfold g_cell
  rw [hsh]
  rw [if_neg (by show ¬ 8 + t < 8; omega)]
  show (Sum.inl (cA (8 + t - 8), n, g_row ad A a) : va_E) = _
  rw [show 8 + t - 8 = t by omega]
theorem g_rowI {ad : Nat → Nat} {A : Nat → Nat → Int32} {a t n : Nat} (hsh : g_sh a = (8 + t, n)) (ht : t < 3) : g_row ad A a = .inl (A a) := by
  unfold g_row
  rw [hsh]
  exact if_neg (by show ¬ 8 + t = 11; omega)
theorem g_a70 {a x : Nat} {y : Nat} (hsh : g_sh a = (x, y)) (hx : x < 99) : a < 70 := by
  rcases Nat.lt_or_ge a 70 with h | h
  · exact h
  · exfalso
    have : g_sh a = (99, 0) := by
      unfold g_sh
      rw [List.getD_eq_getElem?_getD, List.getElem?_eq_none (by exact h)]; rfl
    rw [this] at hsh
    cases hsh
    omega
theorem va_up_same {α : Type} (f : Nat → α) (k : Nat) (v : α) : va_up f k v k = v := if_pos rfl
theorem va_up_other {α : Type} (f : Nat → α) {k j : Nat} (v : α) (h : j ≠ k) : va_up f k v j = f j := if_neg h
theorem g_setI {cA : Nat → ClassId} {ad : Nat → Nat} {I : Nat → Int32} {A : Nat → Nat → Int32} {L : Nat → Int64} {a ci k : Nat} (hsh : g_sh a = (ci, 0)) (hci : ci < 8) (hf : (g_fds ci)[k]? = some (1, 0)) (v : Int32) : (gW cA ad I A L).set a (ad a, .inr (ci, (g_fs ad I L a ci).set k (.int v))) = gW cA ad (va_up I (16 * a + k) v) A L := by
  have hk16 : k < 16 := by
    have h1 := (List.getElem?_eq_some_iff.mp hf).1
    have h2 := g_fds_le ci
    omega
  refine gW_set (fun _ => ?_) (fun b hb hne => ?_)
  · rw [g_obj hsh hci, g_fs_up (I := I) (L := L) (v := .int v) hf (by simp [g_val, va_up_same]) (fun j _ h => va_up_other _ _ (by omega)) (fun _ _ _ => rfl)]
  · unfold g_cell
    rw [g_fs_same (I := I) (L := L) (fun j hj => va_up_other _ _ (by omega)) (fun _ _ => rfl)]
theorem g_setL {cA : Nat → ClassId} {ad : Nat → Nat} {I : Nat → Int32} {A : Nat → Nat → Int32} {L : Nat → Int64} {a ci k : Nat} (hsh : g_sh a = (ci, 0)) (hci : ci < 8) (hf : (g_fds ci)[k]? = some (2, 0)) (v : Int64) : (gW cA ad I A L).set a (ad a, .inr (ci, (g_fs ad I L a ci).set k (.long v))) = gW cA ad I A (va_up L (16 * a + k) v) := by
  have hk16 : k < 16 := by
    have h1 := (List.getElem?_eq_some_iff.mp hf).1
    have h2 := g_fds_le ci
    omega
  refine gW_set (fun _ => ?_) (fun b hb hne => ?_)
  · rw [g_obj hsh hci, g_fs_up (I := I) (L := L) (v := .long v) hf (by simp [g_val, va_up_same]) (fun _ _ _ => rfl) (fun j _ h => va_up_other _ _ (by omega))]
  · unfold g_cell
    rw [g_fs_same (I := I) (L := L) (fun _ _ => rfl) (fun j hj => va_up_other _ _ (by omega))]
theorem g_setA {cA : Nat → ClassId} {ad : Nat → Nat} {I : Nat → Int32} {A : Nat → Nat → Int32} {L : Nat → Int64} {a t n : Nat} (hsh : g_sh a = (8 + t, n)) (ht : t < 3) (f : Nat → Int32) : (gW cA ad I A L).set a (ad a, .inl (cA t, n, .inl f)) = gW cA ad I (va_up A a f) L := by
  refine gW_set (fun _ => ?_) (fun b hb hne => ?_)
  · rw [g_arr hsh, g_rowI hsh ht, va_up_same]
  · unfold g_cell g_row
    rw [va_up_other _ _ hne]
theorem gC_D {own : String} {cc : ByteArray} {nL : Nat} {ret : Option FieldType} {p : Program} {s : State} {m : MethodId} {args : Array Value} {meth : Method} {c : Code} {dC : Nat → ClassId} {dI : Nat → Nat → Nat} {ad : Nat → Nat} {cA : Nat → ClassId} (hC : gCx own cc nL ret p s m args meth c dC dI ad cA) (I : Nat → Int32) (A : Nat → Nat → Int32) (L : Nat → Int64) : va_D (gA ad) (gW cA ad I A L) := gW_D hC.2.2.2.2.2.2.2.2.2.1
/-! checks of the machine: outside them the road is not walked -/
def g_ck {τ : Type} (i : Int32) (n : Nat) (f : Option τ) : Option τ := if 0 ≤ i ∧ i.toNatClampNeg < n then f else none
def g_dv {τ : Type} (y : Int32) (f : Option τ) : Option τ := if y = 0 then none else f
def g_dl {τ : Type} (y : Int64) (f : Option τ) : Option τ := if y = 0 then none else f
def g_cp {τ : Type} (sp dp n : Int32) (n0 n1 : Nat) (f : Option τ) : Option τ := if (0 ≤ sp ∧ 0 ≤ dp ∧ 0 ≤ n) ∧ sp.toNatClampNeg + n.toNatClampNeg ≤ n0 ∧ dp.toNatClampNeg + n.toNatClampNeg ≤ n1 then f else none
def g_z {τ : Type} (v : Int32) (f : Option τ) : Option τ := if v = 0 ∨ v = 1 then f else none
def g_lt {α τ : Type} (x : α) (f : α → Option τ) : Option τ := f x
theorem g_ck_e {τ : Type} {i : Int32} {n : Nat} {f : Option τ} {t : τ} (h : g_ck i n f = some t) : vp_in i n ∧ f = some t := by
  unfold g_ck at h
  split at h
  next q => exact ⟨fun z => by rcases z with z | z
                               · exact absurd q.1 (Int32.not_le.mpr z)
                               · omega, h⟩
  next => cases h
theorem g_dv_e {τ : Type} {y : Int32} {f : Option τ} {t : τ} (h : g_dv y f = some t) : ¬ y = 0 ∧ f = some t := by
  unfold g_dv at h
  split at h
  next => cases h
  next q => exact ⟨q, h⟩
theorem g_dl_e {τ : Type} {y : Int64} {f : Option τ} {t : τ} (h : g_dl y f = some t) : ¬ y = 0 ∧ f = some t := by
  unfold g_dl at h
  split at h
  next => cases h
  next q => exact ⟨q, h⟩
theorem g_z_e {τ : Type} {v : Int32} {f : Option τ} {t : τ} (h : g_z v f = some t) : (v = 0 ∨ v = 1) ∧ f = some t := by
  unfold g_z at h
  split at h
  next q => exact ⟨q, h⟩
  next => cases h
theorem g_bd_e {α τ : Type} {F : Option α} {g : α → Option τ} {t : τ} (h : F.bind g = some t) : ∃ x, F = some x ∧ g x = some t := Option.bind_eq_some_iff.mp h
def g_b1 {τ : Type} (F : Option gS) (g : (Nat → Int32) → (Nat → Nat → Int32) → (Nat → Int64) → Option τ) : Option τ := F.bind (fun s => g s.1 s.2.1 s.2.2)
def g_b2 {α τ : Type} (F : Option (α × gS)) (g : α → (Nat → Int32) → (Nat → Nat → Int32) → (Nat → Int64) → Option τ) : Option τ := F.bind (fun s => g s.1 s.2.1 s.2.2.1 s.2.2.2)
theorem g_b1_e {τ : Type} {F : Option gS} {g : (Nat → Int32) → (Nat → Nat → Int32) → (Nat → Int64) → Option τ} {t : τ} (h : g_b1 F g = some t) : ∃ I A L, F = some (I, A, L) ∧ g I A L = some t := by
  obtain ⟨⟨I, A, L⟩, h1, h2⟩ := g_bd_e h
  exact ⟨I, A, L, h1, h2⟩
theorem g_b2_e {α τ : Type} {F : Option (α × gS)} {g : α → (Nat → Int32) → (Nat → Nat → Int32) → (Nat → Int64) → Option τ} {t : τ} (h : g_b2 F g = some t) : ∃ x I A L, F = some (x, I, A, L) ∧ g x I A L = some t := by
  obtain ⟨⟨x, I, A, L⟩, h1, h2⟩ := g_bd_e h
  exact ⟨x, I, A, L, h1, h2⟩
section EMem
variable {own : String} {cc : ByteArray} {nL : Nat} {ret : Option FieldType} {d : Nat} {pc : Nat} {lc : List (Option Value)} {st : List Value} {I : Nat → Int32} {A : Nat → Nat → Int32} {L : Nat → Int64} {r : gR}
theorem e_getI {a ci k0 n idx : Nat} {pc' : Nat} (hd : decode cc pc = .ok (.getfield idx, 3)) (hp : pc + 3 = pc') (hsh : g_sh a = (ci, 0)) (hci : ci < 8) (hf : (g_fds ci)[k0]? = some (1, 0)) (hlink : Cond.fieldLink own idx ((g_cl ci).2.1 k0).1 ((g_cl ci).2.1 k0).2.1 ((g_cl ci).2.1 k0).2.2.1 ∈ gT) (hn : 16 * a + k0 = n) (k : Ev own cc nL ret d pc' lc (.int (I n) :: st) I A L r) : Ev own cc nL ret d pc lc (.ref a :: st) I A L r := by
  subst hp; subst hn
  intro p l e s m args below meth c dC dI ad cA hC H locs ls hP hS hl
  have hk : k0 < (g_cl ci).2.2 := by rw [← g_cn hci]; exact (List.getElem?_eq_some_iff.mp hf).1
  refine va_get (D := (dC, dI)) (C := (g_cl ci).1) (T := (g_cl ci).2.1) (N := (g_cl ci).2.2) hC.1 hC.2.1 hC.2.2.2.2.2.1 (g_cin hci) hC.2.2.2.2.1 hC.2.2.2.2.2.2.2.1 hP a (by rw [gW_get _ _ _ _ _ (g_a70 hsh (by omega)), g_obj hsh hci]) (g_cl_at hci) k0 hk (hC.2.2.2.2.2.1 _ hlink) (fun _ h9 => h9) (g_fs_get ad I L a ci hf) hd ?_
  exact (k p l e s m args below meth c dC dI ad cA hC H locs ls hP hS hl)
theorem e_getL {a ci k0 n idx : Nat} {pc' : Nat} (hd : decode cc pc = .ok (.getfield idx, 3)) (hp : pc + 3 = pc') (hsh : g_sh a = (ci, 0)) (hci : ci < 8) (hf : (g_fds ci)[k0]? = some (2, 0)) (hlink : Cond.fieldLink own idx ((g_cl ci).2.1 k0).1 ((g_cl ci).2.1 k0).2.1 ((g_cl ci).2.1 k0).2.2.1 ∈ gT) (hn : 16 * a + k0 = n) (k : Ev own cc nL ret d pc' lc (.long (L n) :: st) I A L r) : Ev own cc nL ret d pc lc (.ref a :: st) I A L r := by
  subst hp; subst hn
  intro p l e s m args below meth c dC dI ad cA hC H locs ls hP hS hl
  have hk : k0 < (g_cl ci).2.2 := by rw [← g_cn hci]; exact (List.getElem?_eq_some_iff.mp hf).1
  refine va_get (D := (dC, dI)) (C := (g_cl ci).1) (T := (g_cl ci).2.1) (N := (g_cl ci).2.2) hC.1 hC.2.1 hC.2.2.2.2.2.1 (g_cin hci) hC.2.2.2.2.1 hC.2.2.2.2.2.2.2.1 hP a (by rw [gW_get _ _ _ _ _ (g_a70 hsh (by omega)), g_obj hsh hci]) (g_cl_at hci) k0 hk (hC.2.2.2.2.2.1 _ hlink) (fun _ h9 => h9) (g_fs_get ad I L a ci hf) hd ?_
  exact (k p l e s m args below meth c dC dI ad cA hC H locs ls hP hS hl)
theorem e_getR {a ci k0 off b idx : Nat} {pc' : Nat} (hd : decode cc pc = .ok (.getfield idx, 3)) (hp : pc + 3 = pc') (hsh : g_sh a = (ci, 0)) (hci : ci < 8) (hf : (g_fds ci)[k0]? = some (0, off)) (hlink : Cond.fieldLink own idx ((g_cl ci).2.1 k0).1 ((g_cl ci).2.1 k0).2.1 ((g_cl ci).2.1 k0).2.2.1 ∈ gT) (hn : a + off = b) (k : Ev own cc nL ret d pc' lc (.ref b :: st) I A L r) : Ev own cc nL ret d pc lc (.ref a :: st) I A L r := by
  subst hp; subst hn
  intro p l e s m args below meth c dC dI ad cA hC H locs ls hP hS hl
  have hk : k0 < (g_cl ci).2.2 := by rw [← g_cn hci]; exact (List.getElem?_eq_some_iff.mp hf).1
  refine va_get (D := (dC, dI)) (C := (g_cl ci).1) (T := (g_cl ci).2.1) (N := (g_cl ci).2.2) hC.1 hC.2.1 hC.2.2.2.2.2.1 (g_cin hci) hC.2.2.2.2.1 hC.2.2.2.2.2.2.2.1 hP a (by rw [gW_get _ _ _ _ _ (g_a70 hsh (by omega)), g_obj hsh hci]) (g_cl_at hci) k0 hk (hC.2.2.2.2.2.1 _ hlink) (fun _ h9 => h9) (g_fs_get ad I L a ci hf) hd ?_
  exact (k p l e s m args below meth c dC dI ad cA hC H locs ls hP hS hl)
theorem e_putI {a ci k0 n idx : Nat} {v : Int32} {ty : FieldType} {pc' : Nat} (hd : decode cc pc = .ok (.putfield idx, 3)) (hp : pc + 3 = pc') (hsh : g_sh a = (ci, 0)) (hci : ci < 8) (hf : (g_fds ci)[k0]? = some (1, 0)) (hlink : Cond.fieldLink own idx ((g_cl ci).2.1 k0).1 ((g_cl ci).2.1 k0).2.1 ((g_cl ci).2.1 k0).2.2.1 ∈ gT) (hn : 16 * a + k0 = n) (hfin : ((g_cl ci).2.1 k0).2.2.2 = false) (hty : parseFieldDescriptor ((g_cl ci).2.1 k0).2.2.1 = some ty) (hnar : narrow ty (.int v) = .int v) (hfit : fits ty (.int v) = true) (k : Ev own cc nL ret d pc' lc (st) (va_up I n v) A L r) : Ev own cc nL ret d pc lc (.int v :: .ref a :: st) I A L r := by
  subst hp; subst hn
  intro p l e s m args below meth c dC dI ad cA hC H locs ls hP hS hl
  have hk : k0 < (g_cl ci).2.2 := by rw [← g_cn hci]; exact (List.getElem?_eq_some_iff.mp hf).1
  obtain ⟨ty0, ht1, ht2⟩ := g_cty hci
  refine va_put (D := (dC, dI)) (A := gA ad) (H0 := s.heap) (ty := ty) (C := (g_cl ci).1) (T := (g_cl ci).2.1) (N := (g_cl ci).2.2) hC.1 hC.2.1 hC.2.2.2.2.2.1 (g_cin hci) ty0 ht1 ht2 hC.2.2.2.2.1 hC.2.2.2.2.2.2.2.1 hP (gC_D hC I A L) hS a (by rw [gW_get _ _ _ _ _ (g_a70 hsh (by omega)), g_obj hsh hci]) (g_cl_at hci) k0 hk (hC.2.2.2.2.2.1 _ hlink) (fun _ h9 => h9) hfin hty hnar hfit (by rw [g_fs_len]; exact (List.getElem?_eq_some_iff.mp hf).1) hd (fun H locs hP hD hS => ?_)
  have hP : va_P (dC, dI) vwCl ((gW cA ad I A L).set a (ad a, .inr (ci, (g_fs ad I L a ci).set k0 (.int v)))) H := hP
  rw [g_setI hsh hci hf] at hP
  exact (k p l e s m args below meth c dC dI ad cA hC H locs ls hP hS hl)
theorem e_putL {a ci k0 n idx : Nat} {v : Int64} {ty : FieldType} {pc' : Nat} (hd : decode cc pc = .ok (.putfield idx, 3)) (hp : pc + 3 = pc') (hsh : g_sh a = (ci, 0)) (hci : ci < 8) (hf : (g_fds ci)[k0]? = some (2, 0)) (hlink : Cond.fieldLink own idx ((g_cl ci).2.1 k0).1 ((g_cl ci).2.1 k0).2.1 ((g_cl ci).2.1 k0).2.2.1 ∈ gT) (hn : 16 * a + k0 = n) (hfin : ((g_cl ci).2.1 k0).2.2.2 = false) (hty : parseFieldDescriptor ((g_cl ci).2.1 k0).2.2.1 = some ty) (hnar : narrow ty (.long v) = .long v) (hfit : fits ty (.long v) = true) (k : Ev own cc nL ret d pc' lc (st) I A (va_up L n v) r) : Ev own cc nL ret d pc lc (.long v :: .ref a :: st) I A L r := by
  subst hp; subst hn
  intro p l e s m args below meth c dC dI ad cA hC H locs ls hP hS hl
  have hk : k0 < (g_cl ci).2.2 := by rw [← g_cn hci]; exact (List.getElem?_eq_some_iff.mp hf).1
  obtain ⟨ty0, ht1, ht2⟩ := g_cty hci
  refine va_put (D := (dC, dI)) (A := gA ad) (H0 := s.heap) (ty := ty) (C := (g_cl ci).1) (T := (g_cl ci).2.1) (N := (g_cl ci).2.2) hC.1 hC.2.1 hC.2.2.2.2.2.1 (g_cin hci) ty0 ht1 ht2 hC.2.2.2.2.1 hC.2.2.2.2.2.2.2.1 hP (gC_D hC I A L) hS a (by rw [gW_get _ _ _ _ _ (g_a70 hsh (by omega)), g_obj hsh hci]) (g_cl_at hci) k0 hk (hC.2.2.2.2.2.1 _ hlink) (fun _ h9 => h9) hfin hty hnar hfit (by rw [g_fs_len]; exact (List.getElem?_eq_some_iff.mp hf).1) hd (fun H locs hP hD hS => ?_)
  have hP : va_P (dC, dI) vwCl ((gW cA ad I A L).set a (ad a, .inr (ci, (g_fs ad I L a ci).set k0 (.long v)))) H := hP
  rw [g_setL hsh hci hf] at hP
  exact (k p l e s m args below meth c dC dI ad cA hC H locs ls hP hS hl)
theorem e_getIN {host : String} {a ci k0 n idx : Nat} {pc' : Nat} (hd : decode cc pc = .ok (.getfield idx, 3)) (hp : pc + 3 = pc') (hsh : g_sh a = (ci, 0)) (hci : ci < 8) (hf : (g_fds ci)[k0]? = some (1, 0)) (hlink : Cond.fieldLinkNest own idx ((g_cl ci).2.1 k0).1 ((g_cl ci).2.1 k0).2.1 ((g_cl ci).2.1 k0).2.2.1 host ∈ lw_tbl) (hn : 16 * a + k0 = n) (k : Ev own cc nL ret d pc' lc (.int (I n) :: st) I A L r) : Ev own cc nL ret d pc lc (.ref a :: st) I A L r := by
  subst hp; subst hn
  intro p l e s m args below meth c dC dI ad cA hC H locs ls hP hS hl
  have hk : k0 < (g_cl ci).2.2 := by rw [← g_cn hci]; exact (List.getElem?_eq_some_iff.mp hf).1
  refine va_getN (D := (dC, dI)) (C := (g_cl ci).1) (T := (g_cl ci).2.1) (N := (g_cl ci).2.2) hC.1 hC.2.1 hC.2.2.2.2.2.1 (g_cin hci) hC.2.2.2.2.1 hC.2.2.2.2.2.2.2.1 hP a (by rw [gW_get _ _ _ _ _ (g_a70 hsh (by omega)), g_obj hsh hci]) (g_cl_at hci) k0 hk (va_Nw.use rfl (hC.2.2.2.2.2.2.2.2.1 _ hlink rfl)) (fun _ h9 => h9) (g_fs_get ad I L a ci hf) hd ?_
  exact (k p l e s m args below meth c dC dI ad cA hC H locs ls hP hS hl)
theorem e_getLN {host : String} {a ci k0 n idx : Nat} {pc' : Nat} (hd : decode cc pc = .ok (.getfield idx, 3)) (hp : pc + 3 = pc') (hsh : g_sh a = (ci, 0)) (hci : ci < 8) (hf : (g_fds ci)[k0]? = some (2, 0)) (hlink : Cond.fieldLinkNest own idx ((g_cl ci).2.1 k0).1 ((g_cl ci).2.1 k0).2.1 ((g_cl ci).2.1 k0).2.2.1 host ∈ lw_tbl) (hn : 16 * a + k0 = n) (k : Ev own cc nL ret d pc' lc (.long (L n) :: st) I A L r) : Ev own cc nL ret d pc lc (.ref a :: st) I A L r := by
  subst hp; subst hn
  intro p l e s m args below meth c dC dI ad cA hC H locs ls hP hS hl
  have hk : k0 < (g_cl ci).2.2 := by rw [← g_cn hci]; exact (List.getElem?_eq_some_iff.mp hf).1
  refine va_getN (D := (dC, dI)) (C := (g_cl ci).1) (T := (g_cl ci).2.1) (N := (g_cl ci).2.2) hC.1 hC.2.1 hC.2.2.2.2.2.1 (g_cin hci) hC.2.2.2.2.1 hC.2.2.2.2.2.2.2.1 hP a (by rw [gW_get _ _ _ _ _ (g_a70 hsh (by omega)), g_obj hsh hci]) (g_cl_at hci) k0 hk (va_Nw.use rfl (hC.2.2.2.2.2.2.2.2.1 _ hlink rfl)) (fun _ h9 => h9) (g_fs_get ad I L a ci hf) hd ?_
  exact (k p l e s m args below meth c dC dI ad cA hC H locs ls hP hS hl)
theorem e_getRN {host : String} {a ci k0 off b idx : Nat} {pc' : Nat} (hd : decode cc pc = .ok (.getfield idx, 3)) (hp : pc + 3 = pc') (hsh : g_sh a = (ci, 0)) (hci : ci < 8) (hf : (g_fds ci)[k0]? = some (0, off)) (hlink : Cond.fieldLinkNest own idx ((g_cl ci).2.1 k0).1 ((g_cl ci).2.1 k0).2.1 ((g_cl ci).2.1 k0).2.2.1 host ∈ lw_tbl) (hn : a + off = b) (k : Ev own cc nL ret d pc' lc (.ref b :: st) I A L r) : Ev own cc nL ret d pc lc (.ref a :: st) I A L r := by
  subst hp; subst hn
  intro p l e s m args below meth c dC dI ad cA hC H locs ls hP hS hl
  have hk : k0 < (g_cl ci).2.2 := by rw [← g_cn hci]; exact (List.getElem?_eq_some_iff.mp hf).1
  refine va_getN (D := (dC, dI)) (C := (g_cl ci).1) (T := (g_cl ci).2.1) (N := (g_cl ci).2.2) hC.1 hC.2.1 hC.2.2.2.2.2.1 (g_cin hci) hC.2.2.2.2.1 hC.2.2.2.2.2.2.2.1 hP a (by rw [gW_get _ _ _ _ _ (g_a70 hsh (by omega)), g_obj hsh hci]) (g_cl_at hci) k0 hk (va_Nw.use rfl (hC.2.2.2.2.2.2.2.2.1 _ hlink rfl)) (fun _ h9 => h9) (g_fs_get ad I L a ci hf) hd ?_
  exact (k p l e s m args below meth c dC dI ad cA hC H locs ls hP hS hl)
theorem e_putIN {host : String} {a ci k0 n idx : Nat} {v : Int32} {ty : FieldType} {pc' : Nat} (hd : decode cc pc = .ok (.putfield idx, 3)) (hp : pc + 3 = pc') (hsh : g_sh a = (ci, 0)) (hci : ci < 8) (hf : (g_fds ci)[k0]? = some (1, 0)) (hlink : Cond.fieldLinkNest own idx ((g_cl ci).2.1 k0).1 ((g_cl ci).2.1 k0).2.1 ((g_cl ci).2.1 k0).2.2.1 host ∈ lw_tbl) (hn : 16 * a + k0 = n) (hfin : ((g_cl ci).2.1 k0).2.2.2 = false) (hty : parseFieldDescriptor ((g_cl ci).2.1 k0).2.2.1 = some ty) (hnar : narrow ty (.int v) = .int v) (hfit : fits ty (.int v) = true) (k : Ev own cc nL ret d pc' lc (st) (va_up I n v) A L r) : Ev own cc nL ret d pc lc (.int v :: .ref a :: st) I A L r := by
  subst hp; subst hn
  intro p l e s m args below meth c dC dI ad cA hC H locs ls hP hS hl
  have hk : k0 < (g_cl ci).2.2 := by rw [← g_cn hci]; exact (List.getElem?_eq_some_iff.mp hf).1
  obtain ⟨ty0, ht1, ht2⟩ := g_cty hci
  refine va_putN (D := (dC, dI)) (A := gA ad) (H0 := s.heap) (ty := ty) (C := (g_cl ci).1) (T := (g_cl ci).2.1) (N := (g_cl ci).2.2) hC.1 hC.2.1 hC.2.2.2.2.2.1 (g_cin hci) ty0 ht1 ht2 hC.2.2.2.2.1 hC.2.2.2.2.2.2.2.1 hP (gC_D hC I A L) hS a (by rw [gW_get _ _ _ _ _ (g_a70 hsh (by omega)), g_obj hsh hci]) (g_cl_at hci) k0 hk (va_Nw.use rfl (hC.2.2.2.2.2.2.2.2.1 _ hlink rfl)) (fun _ h9 => h9) hfin hty hnar hfit (by rw [g_fs_len]; exact (List.getElem?_eq_some_iff.mp hf).1) hd (fun H locs hP hD hS => ?_)
  have hP : va_P (dC, dI) vwCl ((gW cA ad I A L).set a (ad a, .inr (ci, (g_fs ad I L a ci).set k0 (.int v)))) H := hP
  rw [g_setI hsh hci hf] at hP
  exact (k p l e s m args below meth c dC dI ad cA hC H locs ls hP hS hl)
theorem e_putLN {host : String} {a ci k0 n idx : Nat} {v : Int64} {ty : FieldType} {pc' : Nat} (hd : decode cc pc = .ok (.putfield idx, 3)) (hp : pc + 3 = pc') (hsh : g_sh a = (ci, 0)) (hci : ci < 8) (hf : (g_fds ci)[k0]? = some (2, 0)) (hlink : Cond.fieldLinkNest own idx ((g_cl ci).2.1 k0).1 ((g_cl ci).2.1 k0).2.1 ((g_cl ci).2.1 k0).2.2.1 host ∈ lw_tbl) (hn : 16 * a + k0 = n) (hfin : ((g_cl ci).2.1 k0).2.2.2 = false) (hty : parseFieldDescriptor ((g_cl ci).2.1 k0).2.2.1 = some ty) (hnar : narrow ty (.long v) = .long v) (hfit : fits ty (.long v) = true) (k : Ev own cc nL ret d pc' lc (st) I A (va_up L n v) r) : Ev own cc nL ret d pc lc (.long v :: .ref a :: st) I A L r := by
  subst hp; subst hn
  intro p l e s m args below meth c dC dI ad cA hC H locs ls hP hS hl
  have hk : k0 < (g_cl ci).2.2 := by rw [← g_cn hci]; exact (List.getElem?_eq_some_iff.mp hf).1
  obtain ⟨ty0, ht1, ht2⟩ := g_cty hci
  refine va_putN (D := (dC, dI)) (A := gA ad) (H0 := s.heap) (ty := ty) (C := (g_cl ci).1) (T := (g_cl ci).2.1) (N := (g_cl ci).2.2) hC.1 hC.2.1 hC.2.2.2.2.2.1 (g_cin hci) ty0 ht1 ht2 hC.2.2.2.2.1 hC.2.2.2.2.2.2.2.1 hP (gC_D hC I A L) hS a (by rw [gW_get _ _ _ _ _ (g_a70 hsh (by omega)), g_obj hsh hci]) (g_cl_at hci) k0 hk (va_Nw.use rfl (hC.2.2.2.2.2.2.2.2.1 _ hlink rfl)) (fun _ h9 => h9) hfin hty hnar hfit (by rw [g_fs_len]; exact (List.getElem?_eq_some_iff.mp hf).1) hd (fun H locs hP hD hS => ?_)
  have hP : va_P (dC, dI) vwCl ((gW cA ad I A L).set a (ad a, .inr (ci, (g_fs ad I L a ci).set k0 (.long v)))) H := hP
  rw [g_setL hsh hci hf] at hP
  exact (k p l e s m args below meth c dC dI ad cA hC H locs ls hP hS hl)
theorem e_iald {τ : Type} {f : Option τ} {t : τ} {a n : Nat} {i : Int32} {pc' : Nat} (hd : decode cc pc = .ok (.iaload, 1)) (hp : pc + 1 = pc') (hsh : g_sh a = (8 + 0, n)) (h : g_ck i n f = some t) (k : f = some t → Ev own cc nL ret d pc' lc (.int (A a i.toNatClampNeg) :: st) I A L r) : Ev own cc nL ret d pc lc (.int i :: .ref a :: st) I A L r := by
  subst hp
  obtain ⟨hin, hf⟩ := g_ck_e h
  have k := k hf
  intro p l e s m args below meth c dC dI ad cA hC H locs ls hP hS hl
  refine va_iald (D := (dC, dI)) (f := A a) hC.1 hC.2.1 hC.2.2.2.2.2.2.2.1 hP a 0 (by rw [gW_get _ _ _ _ _ (g_a70 hsh (by omega)), g_arr hsh, g_rowI hsh (by omega)]) rfl hin hd ?_
  exact (k p l e s m args below meth c dC dI ad cA hC H locs ls hP hS hl)
theorem e_iast {τ : Type} {f : Option τ} {t : τ} {a n : Nat} {i x : Int32} {pc' : Nat} (hd : decode cc pc = .ok (.iastore, 1)) (hp : pc + 1 = pc') (hsh : g_sh a = (8 + 0, n)) (h : g_ck i n f = some t) (k : f = some t → Ev own cc nL ret d pc' lc (st) I (va_up A a (upd (A a) i.toNatClampNeg x)) L r) : Ev own cc nL ret d pc lc (.int x :: .int i :: .ref a :: st) I A L r := by
  subst hp
  obtain ⟨hin, hf⟩ := g_ck_e h
  have k := k hf
  intro p l e s m args below meth c dC dI ad cA hC H locs ls hP hS hl
  refine va_iast (D := (dC, dI)) (A := gA ad) (H0 := s.heap) (f := A a) hC.1 hC.2.1 hC.2.2.2.2.2.2.2.1 hP (gC_D hC I A L) hS a 0 (by rw [gW_get _ _ _ _ _ (g_a70 hsh (by omega)), g_arr hsh, g_rowI hsh (by omega)]) rfl hin hd (fun H locs hP hD hS => ?_)
  rw [g_setA hsh (by omega)] at hP
  exact (k p l e s m args below meth c dC dI ad cA hC H locs ls hP hS hl)
theorem e_ilen {a n : Nat} {v : Int32} {pc' : Nat} (hd : decode cc pc = .ok (.arraylength, 1)) (hp : pc + 1 = pc') (hsh : g_sh a = (8 + 0, n)) (hv : Int32.ofNat n = v) (k : Ev own cc nL ret d pc' lc (.int v :: st) I A L r) : Ev own cc nL ret d pc lc (.ref a :: st) I A L r := by
  subst hp
  intro p l e s m args below meth c dC dI ad cA hC H locs ls hP hS hl
  refine va_alen (D := (dC, dI)) hC.1 hC.2.1 hC.2.2.2.2.2.2.2.1 hP a 0 (by rw [gW_get _ _ _ _ _ (g_a70 hsh (by omega)), g_arr hsh]) (ty := .int) rfl hv hd ?_
  exact (k p l e s m args below meth c dC dI ad cA hC H locs ls hP hS hl)
theorem e_bald {τ : Type} {f : Option τ} {t : τ} {a n : Nat} {i : Int32} {pc' : Nat} (hd : decode cc pc = .ok (.baload, 1)) (hp : pc + 1 = pc') (hsh : g_sh a = (8 + 1, n)) (h : g_ck i n f = some t) (k : f = some t → Ev own cc nL ret d pc' lc (.int (A a i.toNatClampNeg) :: st) I A L r) : Ev own cc nL ret d pc lc (.int i :: .ref a :: st) I A L r := by
  subst hp
  obtain ⟨hin, hf⟩ := g_ck_e h
  have k := k hf
  intro p l e s m args below meth c dC dI ad cA hC H locs ls hP hS hl
  refine va_bald (D := (dC, dI)) (f := A a) hC.1 hC.2.1 hC.2.2.2.2.2.2.2.1 hP a 1 (by rw [gW_get _ _ _ _ _ (g_a70 hsh (by omega)), g_arr hsh, g_rowI hsh (by omega)]) rfl hin hd ?_
  exact (k p l e s m args below meth c dC dI ad cA hC H locs ls hP hS hl)
theorem e_bast {τ : Type} {f : Option τ} {t : τ} {a n : Nat} {i x : Int32} {pc' : Nat} (hd : decode cc pc = .ok (.bastore, 1)) (hp : pc + 1 = pc') (hsh : g_sh a = (8 + 1, n)) (h : g_ck i n f = some t) (k : f = some t → Ev own cc nL ret d pc' lc (st) I (va_up A a (upd (A a) i.toNatClampNeg (vp_nar .byte x))) L r) : Ev own cc nL ret d pc lc (.int x :: .int i :: .ref a :: st) I A L r := by
  subst hp
  obtain ⟨hin, hf⟩ := g_ck_e h
  have k := k hf
  intro p l e s m args below meth c dC dI ad cA hC H locs ls hP hS hl
  refine va_bast (D := (dC, dI)) (A := gA ad) (H0 := s.heap) (f := A a) hC.1 hC.2.1 hC.2.2.2.2.2.2.2.1 hP (gC_D hC I A L) hS a 1 (by rw [gW_get _ _ _ _ _ (g_a70 hsh (by omega)), g_arr hsh, g_rowI hsh (by omega)]) rfl hin hd (fun H locs hP hD hS => ?_)
  rw [g_setA hsh (by omega)] at hP
  exact (k p l e s m args below meth c dC dI ad cA hC H locs ls hP hS hl)
theorem e_blen {a n : Nat} {v : Int32} {pc' : Nat} (hd : decode cc pc = .ok (.arraylength, 1)) (hp : pc + 1 = pc') (hsh : g_sh a = (8 + 1, n)) (hv : Int32.ofNat n = v) (k : Ev own cc nL ret d pc' lc (.int v :: st) I A L r) : Ev own cc nL ret d pc lc (.ref a :: st) I A L r := by
  subst hp
  intro p l e s m args below meth c dC dI ad cA hC H locs ls hP hS hl
  refine va_alen (D := (dC, dI)) hC.1 hC.2.1 hC.2.2.2.2.2.2.2.1 hP a 1 (by rw [gW_get _ _ _ _ _ (g_a70 hsh (by omega)), g_arr hsh]) (ty := .byte) rfl hv hd ?_
  exact (k p l e s m args below meth c dC dI ad cA hC H locs ls hP hS hl)
theorem e_zald {τ : Type} {f : Option τ} {t : τ} {a n : Nat} {i : Int32} {pc' : Nat} (hd : decode cc pc = .ok (.baload, 1)) (hp : pc + 1 = pc') (hsh : g_sh a = (8 + 2, n)) (h : g_ck i n f = some t) (k : f = some t → Ev own cc nL ret d pc' lc (.int (A a i.toNatClampNeg) :: st) I A L r) : Ev own cc nL ret d pc lc (.int i :: .ref a :: st) I A L r := by
  subst hp
  obtain ⟨hin, hf⟩ := g_ck_e h
  have k := k hf
  intro p l e s m args below meth c dC dI ad cA hC H locs ls hP hS hl
  refine va_zald (D := (dC, dI)) (f := A a) hC.1 hC.2.1 hC.2.2.2.2.2.2.2.1 hP a 2 (by rw [gW_get _ _ _ _ _ (g_a70 hsh (by omega)), g_arr hsh, g_rowI hsh (by omega)]) rfl hin hd ?_
  exact (k p l e s m args below meth c dC dI ad cA hC H locs ls hP hS hl)
theorem e_zast {τ : Type} {f : Option τ} {t : τ} {a n : Nat} {i x : Int32} {pc' : Nat} (hd : decode cc pc = .ok (.bastore, 1)) (hp : pc + 1 = pc') (hsh : g_sh a = (8 + 2, n)) (h : g_ck i n f = some t) (k : f = some t → Ev own cc nL ret d pc' lc (st) I (va_up A a (upd (A a) i.toNatClampNeg (vp_nar .boolean x))) L r) : Ev own cc nL ret d pc lc (.int x :: .int i :: .ref a :: st) I A L r := by
  subst hp
  obtain ⟨hin, hf⟩ := g_ck_e h
  have k := k hf
  intro p l e s m args below meth c dC dI ad cA hC H locs ls hP hS hl
  refine va_zast (D := (dC, dI)) (A := gA ad) (H0 := s.heap) (f := A a) hC.1 hC.2.1 hC.2.2.2.2.2.2.2.1 hP (gC_D hC I A L) hS a 2 (by rw [gW_get _ _ _ _ _ (g_a70 hsh (by omega)), g_arr hsh, g_rowI hsh (by omega)]) rfl hin hd (fun H locs hP hD hS => ?_)
  rw [g_setA hsh (by omega)] at hP
  exact (k p l e s m args below meth c dC dI ad cA hC H locs ls hP hS hl)
theorem e_zlen {a n : Nat} {v : Int32} {pc' : Nat} (hd : decode cc pc = .ok (.arraylength, 1)) (hp : pc + 1 = pc') (hsh : g_sh a = (8 + 2, n)) (hv : Int32.ofNat n = v) (k : Ev own cc nL ret d pc' lc (.int v :: st) I A L r) : Ev own cc nL ret d pc lc (.ref a :: st) I A L r := by
  subst hp
  intro p l e s m args below meth c dC dI ad cA hC H locs ls hP hS hl
  refine va_alen (D := (dC, dI)) hC.1 hC.2.1 hC.2.2.2.2.2.2.2.1 hP a 2 (by rw [gW_get _ _ _ _ _ (g_a70 hsh (by omega)), g_arr hsh]) (ty := .boolean) rfl hv hd ?_
  exact (k p l e s m args below meth c dC dI ad cA hC H locs ls hP hS hl)
/-- the ring of States: five rows of planes, cells 13, 18, .. 33 -/
theorem e_ring {τ : Type} {f : Option τ} {t : τ} {i : Int32} {pc' : Nat} (hd : decode cc pc = .ok (.aaload, 1)) (hp : pc + 1 = pc') (h : g_ck i 5 f = some t) (k : f = some t → i.toNatClampNeg < 5 → Ev own cc nL ret d pc' lc (.ref (13 + 5 * i.toNatClampNeg) :: st) I A L r) : Ev own cc nL ret d pc lc (.int i :: .ref 12 :: st) I A L r := by
  subst hp
  obtain ⟨hin, hf⟩ := g_ck_e h
  have k := k hf (Nat.not_le.mp fun q => hin (Or.inr q))
  intro p l e s m args below meth c dC dI ad cA hC H locs ls hP hS hl
  refine va_aldq (D := (dC, dI)) (C := RX2) (f := fun j => some (ad (13 + 5 * j))) hC.1 hC.2.1 hC.2.2.2.2.2.2.2.1 hP 12 3 (by rw [gW_get _ _ _ _ _ (by omega), g_arr (t := 3) (n := 5) rfl]; rfl) rfl hin hd ?_
  exact (k p l e s m args below meth c dC dI ad cA hC H locs ls hP hS hl)
theorem e_getsF {idx : Nat} {pc' : Nat} (hd : decode cc pc = .ok (.getstatic idx, 3)) (hp : pc + 3 = pc') (hlink : Cond.fieldLink own idx RX6 "TURN_FROM" "[I" ∈ gT) (k : Ev own cc nL ret d pc' lc (.ref 70 :: st) I A L r) : Ev own cc nL ret d pc lc (st) I A L r := by
  subst hp
  intro p l e s m args below meth c dC dI ad cA hC H locs ls hP hS hl
  exact va_gets hC.1 hC.2.1 hC.2.2.2.2.2.2.2.2.2.2.1.1 hS hC.2.2.2.2.1 (hC.2.2.2.2.2.1 _ hlink) (fun _ h => h) hd (k p l e s m args below meth c dC dI ad cA hC H locs ls hP hS hl)
theorem e_getsS {idx : Nat} {pc' : Nat} (hd : decode cc pc = .ok (.getstatic idx, 3)) (hp : pc + 3 = pc') (hlink : Cond.fieldLink own idx RX6 "TURN_SIGN" "[I" ∈ gT) (k : Ev own cc nL ret d pc' lc (.ref 71 :: st) I A L r) : Ev own cc nL ret d pc lc (st) I A L r := by
  subst hp
  intro p l e s m args below meth c dC dI ad cA hC H locs ls hP hS hl
  exact va_gets hC.1 hC.2.1 hC.2.2.2.2.2.2.2.2.2.2.2.1 hS hC.2.2.2.2.1 (hC.2.2.2.2.2.1 _ hlink) (fun _ h => h) hd (k p l e s m args below meth c dC dI ad cA hC H locs ls hP hS hl)
theorem e_tlen {pc' : Nat} (hd : decode cc pc = .ok (.arraylength, 1)) (hp : pc + 1 = pc') (k : Ev own cc nL ret d pc' lc (.int 18 :: st) I A L r) : Ev own cc nL ret d pc lc (.ref 70 :: st) I A L r := by
  subst hp
  intro p l e s m args below meth c dC dI ad cA hC H locs ls hP hS hl
  exact va_tlen hC.1 hC.2.1 hC.2.2.2.2.2.2.2.2.2.2.1.2 hS rfl hd (k p l e s m args below meth c dC dI ad cA hC H locs ls hP hS hl)
theorem e_tfld {τ : Type} {f : Option τ} {t : τ} {i : Int32} {pc' : Nat} (hd : decode cc pc = .ok (.iaload, 1)) (hp : pc + 1 = pc') (h : g_ck i 18 f = some t) (k : f = some t → Ev own cc nL ret d pc' lc (.int (g_tf.getD i.toNatClampNeg 0) :: st) I A L r) : Ev own cc nL ret d pc lc (.int i :: .ref 70 :: st) I A L r := by
  subst hp
  obtain ⟨hin, hf⟩ := g_ck_e h
  have k := k hf
  intro p l e s m args below meth c dC dI ad cA hC H locs ls hP hS hl
  exact va_ti hC.1 hC.2.1 hC.2.2.2.2.2.2.2.2.2.2.1.2 hS hin rfl hd (k p l e s m args below meth c dC dI ad cA hC H locs ls hP hS hl)
theorem e_tsld {τ : Type} {f : Option τ} {t : τ} {i : Int32} {pc' : Nat} (hd : decode cc pc = .ok (.iaload, 1)) (hp : pc + 1 = pc') (h : g_ck i 18 f = some t) (k : f = some t → Ev own cc nL ret d pc' lc (.int (g_ts.getD i.toNatClampNeg 0) :: st) I A L r) : Ev own cc nL ret d pc lc (.int i :: .ref 71 :: st) I A L r := by
  subst hp
  obtain ⟨hin, hf⟩ := g_ck_e h
  have k := k hf
  intro p l e s m args below meth c dC dI ad cA hC H locs ls hP hS hl
  exact va_ti hC.1 hC.2.1 hC.2.2.2.2.2.2.2.2.2.2.2.2 hS hin rfl hd (k p l e s m args below meth c dC dI ad cA hC H locs ls hP hS hl)

theorem e_mmax {x y : Int32} {idx : Nat} {pc' : Nat} (hd : decode cc pc = .ok (.invokestatic idx, 3)) (hp : pc + 3 = pc') (hlink : Cond.methodLink own idx Lib.Math.max.name ∈ gT) (hw1 : Cond.static Lib.Math.max.name ∈ gT) (hw2 : Cond.initialized RJ9 ∈ gT) (hw3 : Cond.code Lib.Math.max.name Lib.Math.max.code 2 (some .int) ∈ gT) (hdd : 1 ≤ d) (hst : (st.map fun v => v.category).sum ≤ 8) (k : Ev own cc nL ret d pc' lc (.int (if x < y then y else x) :: st) I A L r) : Ev own cc nL ret d pc lc (.int y :: .int x :: st) I A L r := by
  subst hp
  intro p l e s m args below meth c dC dI ad cA hC H locs ls hP hS hl
  have hst' : ((st.map (cv ad)).map fun v => v.category).sum ≤ 8 := by
    rw [List.map_map]
    rw [show ((fun v : Value => v.category) ∘ cv ad) = (fun v : Value => v.category) from funext (fun v => cv_cat ad v)]
    exact hst
  exact va_mmax hC.1 hC.2.1 (hC.2.2.2.1.trans hl.1.symm) hC.2.2.2.2.1 (hC.2.2.2.2.2.1 _ hlink) (hC.2.2.2.2.2.1 _ hw1) (hC.2.2.2.2.2.1 _ hw2) (hC.2.2.2.2.2.1 _ hw3) hdd (by show _ + 13 ≤ 39 * d; omega) (Nat.zero_le _) (Nat.zero_le _) hd (k p l e s m args below meth c dC dI ad cA hC H locs ls hP hS hl)
theorem e_mmin {x y : Int32} {idx : Nat} {pc' : Nat} (hd : decode cc pc = .ok (.invokestatic idx, 3)) (hp : pc + 3 = pc') (hlink : Cond.methodLink own idx Lib.Math.min.name ∈ gT) (hw1 : Cond.static Lib.Math.min.name ∈ gT) (hw2 : Cond.initialized RJ9 ∈ gT) (hw3 : Cond.code Lib.Math.min.name Lib.Math.min.code 2 (some .int) ∈ gT) (hdd : 1 ≤ d) (hst : (st.map fun v => v.category).sum ≤ 8) (k : Ev own cc nL ret d pc' lc (.int (if y < x then y else x) :: st) I A L r) : Ev own cc nL ret d pc lc (.int y :: .int x :: st) I A L r := by
  subst hp
  intro p l e s m args below meth c dC dI ad cA hC H locs ls hP hS hl
  have hst' : ((st.map (cv ad)).map fun v => v.category).sum ≤ 8 := by
    rw [List.map_map]
    rw [show ((fun v : Value => v.category) ∘ cv ad) = (fun v : Value => v.category) from funext (fun v => cv_cat ad v)]
    exact hst
  exact va_mmin hC.1 hC.2.1 (hC.2.2.2.1.trans hl.1.symm) hC.2.2.2.2.1 (hC.2.2.2.2.2.1 _ hlink) (hC.2.2.2.2.2.1 _ hw1) (hC.2.2.2.2.2.1 _ hw2) (hC.2.2.2.2.2.1 _ hw3) hdd (by show _ + 13 ≤ 39 * d; omega) (Nat.zero_le _) (Nat.zero_le _) hd (k p l e s m args below meth c dC dI ad cA hC H locs ls hP hS hl)
theorem e_mabs {x : Int32} {idx : Nat} {pc' : Nat} (hd : decode cc pc = .ok (.invokestatic idx, 3)) (hp : pc + 3 = pc') (hlink : Cond.methodLink own idx Lib.Math.abs.name ∈ gT) (hw1 : Cond.static Lib.Math.abs.name ∈ gT) (hw2 : Cond.initialized RJ9 ∈ gT) (hw3 : Cond.code Lib.Math.abs.name Lib.Math.abs.code 1 (some .int) ∈ gT) (hdd : 1 ≤ d) (hst : (st.map fun v => v.category).sum ≤ 8) (k : Ev own cc nL ret d pc' lc (.int (if 0 ≤ x then x else 0 - x) :: st) I A L r) : Ev own cc nL ret d pc lc (.int x :: st) I A L r := by
  subst hp
  intro p l e s m args below meth c dC dI ad cA hC H locs ls hP hS hl
  have hst' : ((st.map (cv ad)).map fun v => v.category).sum ≤ 8 := by
    rw [List.map_map]
    rw [show ((fun v : Value => v.category) ∘ cv ad) = (fun v : Value => v.category) from funext (fun v => cv_cat ad v)]
    exact hst
  exact va_mabs hC.1 hC.2.1 (hC.2.2.2.1.trans hl.1.symm) hC.2.2.2.2.1 (hC.2.2.2.2.2.1 _ hlink) (hC.2.2.2.2.2.1 _ hw1) (hC.2.2.2.2.2.1 _ hw2) (hC.2.2.2.2.2.1 _ hw3) hdd (by show _ + 13 ≤ 39 * d; omega) (Nat.zero_le _) (Nat.zero_le _) hd (k p l e s m args below meth c dC dI ad cA hC H locs ls hP hS hl)
theorem g_cp_e {τ : Type} {sp dp n : Int32} {n0 n1 : Nat} {f : Option τ} {t : τ} (h : g_cp sp dp n n0 n1 f = some t) : (¬ sp < 0 ∧ ¬ dp < 0 ∧ ¬ n < 0 ∧ sp.toNatClampNeg + n.toNatClampNeg ≤ n0 ∧ dp.toNatClampNeg + n.toNatClampNeg ≤ n1) ∧ f = some t := by
  unfold g_cp at h
  split at h
  next q => exact ⟨⟨Int32.not_lt.mpr q.1.1, Int32.not_lt.mpr q.1.2.1, Int32.not_lt.mpr q.1.2.2, q.2.1, q.2.2⟩, h⟩
  next => cases h
theorem e_copy {τ : Type} {f : Option τ} {t : τ} {a0 a n0 n1 idx : Nat} {sp dp n : Int32} {pc' : Nat} (hd : decode cc pc = .ok (.invokestatic idx, 3)) (hp : pc + 3 = pc') (hlink : Cond.methodLink own idx arraycopyName ∈ gT) (hw1 : Cond.native arraycopyName ∈ gT) (hw2 : Cond.static arraycopyName ∈ gT) (hw3 : Cond.initialized RJ10 ∈ gT) (hdd : 1 ≤ d) (hst : (st.map fun v => v.category).sum ≤ 8) (hs0 : g_sh a0 = (8 + 0, n0)) (hs1 : g_sh a = (8 + 0, n1)) (h : g_cp sp dp n n0 n1 f = some t) (k : f = some t → Ev own cc nL ret d pc' lc (st) I (va_up A a (va_cpy (A a0) (A a) sp.toNatClampNeg dp.toNatClampNeg n.toNatClampNeg)) L r) : Ev own cc nL ret d pc lc (.int n :: .int dp :: .ref a :: .int sp :: .ref a0 :: st) I A L r := by
  subst hp
  obtain ⟨⟨q1, q2, q3, q4, q5⟩, hf⟩ := g_cp_e h
  have k := k hf
  intro p l e s m args below meth c dC dI ad cA hC H locs ls hP hS hl
  have hst' : ((st.map (cv ad)).map fun v => v.category).sum ≤ 8 := by
    rw [List.map_map]
    rw [show ((fun v : Value => v.category) ∘ cv ad) = (fun v : Value => v.category) from funext (fun v => cv_cat ad v)]
    exact hst
  refine va_copyi (D := (dC, dI)) (A := gA ad) (H0 := s.heap) (f := A a0) (g := A a) hC.1 hC.2.1 (hC.2.2.2.1.trans hl.1.symm) hC.2.2.2.2.1 (hC.2.2.2.2.2.1 _ hlink) (hC.2.2.2.2.2.1 _ hw1) (hC.2.2.2.2.2.1 _ hw2) (hC.2.2.2.2.2.1 _ hw3) hC.2.2.2.2.2.2.2.1 hP (gC_D hC I A L) hS a0 a 0 0 (by rw [gW_get _ _ _ _ _ (g_a70 hs0 (by omega)), g_arr hs0, g_rowI hs0 (by omega)]) (by rw [gW_get _ _ _ _ _ (g_a70 hs1 (by omega)), g_arr hs1, g_rowI hs1 (by omega)]) (ty := .int) rfl rfl rfl q1 q2 q3 q4 q5 (fun _ _ => rfl) hdd (by show _ + (nativeFrameWords "java/lang/System" "arraycopy" 5 + 11) ≤ 39 * d; rw [show nativeFrameWords "java/lang/System" "arraycopy" 5 = 7 from by decide +kernel]; omega) hd (fun H locs hP hD hS => ?_)
  rw [g_setA hs1 (by omega)] at hP
  exact (k p l e s m args below meth c dC dI ad cA hC H locs ls hP hS hl)
end EMem
/-! returns -/
section ERet
variable {own : String} {cc : ByteArray} {nL : Nat} {d : Nat} {pc : Nat} {lc : List (Option Value)} {I : Nat → Int32} {A : Nat → Nat → Int32} {L : Nat → Int64}
theorem e_iret {x : Int32} (hd : decode cc pc = .ok (.ireturn, 1)) : Ev own cc nL (some .int) d pc lc [.int x] I A L (some (.int x), (I, A, L)) := by
  intro p l e s m args below meth c dC dI ad cA hC H locs ls hP hS hl
  exact W.iret (v := x) hC.1 hC.2.1 hC.2.2.1 (fun t ht hW => ⟨⟨rfl, by rw [ht]; exact hP⟩, hS.F ht⟩) hS.2.2 hd hC.2.2.2.2.2.2.1
theorem e_zret {x : Int32} (hd : decode cc pc = .ok (.ireturn, 1)) (hx : x = 0 ∨ x = 1) : Ev own cc nL (some .boolean) d pc lc [.int x] I A L (some (.int x), (I, A, L)) := by
  intro p l e s m args below meth c dC dI ad cA hC H locs ls hP hS hl
  exact W.zret (v := x) (ty := .boolean) hC.1 hC.2.1 hC.2.2.1 (by rcases hx with rfl | rfl <;> rfl) (fun t ht hW => ⟨⟨rfl, by rw [ht]; exact hP⟩, hS.F ht⟩) hS.2.2 hd hC.2.2.2.2.2.2.1
theorem e_lret {x : Int64} (hd : decode cc pc = .ok (.lreturn, 1)) : Ev own cc nL (some .long) d pc lc [.long x] I A L (some (.long x), (I, A, L)) := by
  intro p l e s m args below meth c dC dI ad cA hC H locs ls hP hS hl
  exact W.lret (v := x) hC.1 hC.2.1 hC.2.2.1 (fun t ht hW => ⟨⟨rfl, by rw [ht]; exact hP⟩, hS.F ht⟩) hS.2.2 hd hC.2.2.2.2.2.2.1
theorem e_vret (hd : decode cc pc = .ok (.return_, 1)) : Ev own cc nL none d pc lc [] I A L (none, (I, A, L)) := by
  intro p l e s m args below meth c dC dI ad cA hC H locs ls hP hS hl
  exact W.vret hC.1 hC.2.1 hC.2.2.1 (fun t ht hW => ⟨⟨rfl, by rw [ht]; exact hP⟩, hS.F ht⟩) hS.2.2 hd hC.2.2.2.2.2.2.1
theorem e_aret {a : Nat} {n : String} (hd : decode cc pc = .ok (.areturn, 1)) : Ev own cc nL (some (.object n)) d pc lc [.ref a] I A L (some (.ref a), (I, A, L)) := by
  intro p l e s m args below meth c dC dI ad cA hC H locs ls hP hS hl
  exact W.aret (v := .ref (ad a)) hC.1 hC.2.1 hC.2.2.1 (Or.inl ⟨n, rfl⟩) (Or.inr ⟨_, rfl⟩) (fun t ht hW => ⟨⟨rfl, by rw [ht]; exact hP⟩, hS.F ht⟩) hS.2.2 hd hC.2.2.2.2.2.2.1
end ERet
/-! contracts and calls -/
def gPc (dC : Nat → ClassId) (dI : Nat → Nat → Nat) (ad : Nat → Nat) (cA : Nat → ClassId) (av : List Value) (I : Nat → Int32) (A : Nat → Nat → Int32) (L : Nat → Int64) : Array Value → State → Prop := va_Pc (av.map (cv ad)) (fun U => gF dC dI ad cA U ∧ va_P (dC, dI) vwCl (gW cA ad I A L) U.heap)
def GM (y : MethodName) (cc : ByteArray) (nL : Nat) (ret : Option FieldType) (d : Nat) (av : List Value) (I : Nat → Int32) (A : Nat → Nat → Int32) (L : Nat → Int64) (r : gR) : Prop := ∀ (l : Launch) (dC : Nat → ClassId) (dI : Nat → Nat → Nat) (ad : Nat → Nat) (cA : Nat → ClassId), Met l y (Cond.code y cc nL ret :: gT) (gRm d) (gPc dC dI ad cA av I A L) (gQ dC dI cA ad r) 0 0 (gA ad)
def g_ent : List Value → List (Option Value)
  | [] => []
  | v :: vs => if v.category = 2 then some v :: none :: g_ent vs else some v :: g_ent vs
theorem g_ent_mem (ad : Nat → Nat) : ∀ (av : List Value) (o i : Nat) (v : Value), (g_ent av)[i]? = some (some v) → (o + i, cv ad v) ∈ lv_args o (av.map (cv ad))
  | [], o, i, v, h => by simp [g_ent] at h
  | w :: vs, o, i, v, h => by
    show (o + i, cv ad v) ∈ (o, cv ad w) :: lv_args (if (cv ad w).category = 2 then o + 2 else o + 1) (vs.map (cv ad))
    rw [cv_cat]
    by_cases hc : w.category = 2
    · rw [if_pos hc]
      simp only [g_ent, if_pos hc] at h
      match i, h with
      | 0, h => cases h; exact List.mem_cons_self
      | 1, h => cases h
      | i + 2, h =>
        have := g_ent_mem ad vs (o + 2) i v (by simpa using h)
        rw [show o + (i + 2) = o + 2 + i by omega]
        exact List.mem_cons_of_mem _ this
    · rw [if_neg hc]
      simp only [g_ent, if_neg hc] at h
      match i, h with
      | 0, h => cases h; exact List.mem_cons_self
      | i + 1, h =>
        have := g_ent_mem ad vs (o + 1) i v (by simpa using h)
        rw [show o + (i + 1) = o + 1 + i by omega]
        exact List.mem_cons_of_mem _ this
theorem gm_of {y : MethodName} {cc : ByteArray} {nL n : Nat} {ret : Option FieldType} {d : Nat} {av : List Value} {lc : List (Option Value)} {I : Nat → Int32} {A : Nat → Nat → Int32} {L : Nat → Int64} {r : gR} (hy : Jvm.plainName y.cls = true) (hlc : g_ent av ++ List.replicate n none = lc) (hlen : ∀ ad, (lg_sl (av.map (cv ad))).length ≤ nL) (k : Ev y.cls cc nL ret d 0 lc [] I A L r) : GM y cc nL ret d av I A L r := by
  intro l dC dI ad cA
  refine Met.ofW (cc := cc) (maxL := nL) (ret := ret) hy rfl ?_
  intro p e s m args below meth c s₁ B hml hv
  obtain ⟨rfl, hF, hP⟩ := hv
  have hts := atoms_spec (ws := Cond.code y cc nL ret :: gT) B.pre
  have hl := lv_entry (av.map (cv ad)) (n := nL) (hlen ad)
  rw [lg_entry_eq]
  exact k p l e s m _ below meth c dC dI ad cA ⟨B.exec, B.bytes, B.returns, hml, findClass_of_methodNamed B.named, fun w hw => hts w (List.mem_cons_of_mem _ hw), B.notSynchronized, hF⟩ s.heap [] _ hP va_S.rf ⟨hl.1, hl.2.1, fun q hq => by
    obtain ⟨v, h1, h2⟩ := gPr_mem.mp hq
    rw [← hlc, List.getElem?_append] at h1
    split at h1
    next => exact hl.2.2 q (by rw [show q = (0 + q.1, cv ad v) from Prod.ext (by simp) h2]; exact g_ent_mem ad av 0 q.1 v h1)
    next =>
      have := List.eq_of_mem_replicate (List.mem_of_getElem? h1)
      cases this⟩
def g_mth (y : MethodName) (cy : ByteArray) (ny : Nat) (ry : Option FieldType) (n : Nat) : Prop := Cond.initialized y.cls ∈ gT ∧ Cond.code y cy ny ry ∈ gT ∧ (y.cls ≠ "java/lang/invoke/MethodHandle" ∧ y.cls ≠ "java/lang/invoke/VarHandle" ∧ (parseMethodDescriptor y.desc).map (fun d => d.parameters.length) = some n) ∧ ny ≤ 20
def g_mv (y : MethodName) (cy : ByteArray) (ny : Nat) (ry : Option FieldType) (n : Nat) : Prop := g_mth y cy ny ry n ∧ Cond.instanceMethod y ∈ gT ∧ Cond.selects y.cls y y ∈ gT
def g_ms (y : MethodName) (cy : ByteArray) (ny : Nat) (ry : Option FieldType) (n : Nat) : Prop := g_mth y cy ny ry n ∧ Cond.static y ∈ gT
theorem g_good {y : MethodName} {cy : ByteArray} {ny : Nat} {ry : Option FieldType} (h : Cond.code y cy ny ry ∈ gT) : GoodIn gT (Cond.code y cy ny ry :: gT) := by
  intro w hw
  rcases List.mem_cons.mp hw with rfl | hw
  · exact ⟨h, gT_good _ h⟩
  · exact ⟨hw, gT_good _ hw⟩
theorem gPc_blind {dC : Nat → ClassId} {dI : Nat → Nat → Nat} {ad : Nat → Nat} {cA : Nat → ClassId} {av : List Value} {I : Nat → Int32} {A : Nat → Nat → Int32} {L : Nat → Int64} : FrameBlind (gPc dC dI ad cA av I A L) := by
  intro a U g mk h
  exact ⟨h.1, h.2.1.calling g mk a, h.2.2⟩
section ECall
variable {own : String} {cc : ByteArray} {nL : Nat} {ret : Option FieldType} {d : Nat} {pc : Nat} {lc : List (Option Value)} {st : List Value} {I : Nat → Int32} {A : Nat → Nat → Int32} {L : Nat → Int64} {r : gR}
variable {y : MethodName} {cy : ByteArray} {ny dy n idx : Nat} {ry : Option FieldType} {As S : List Value} {v : Option Value} {I' : Nat → Int32} {A' : Nat → Nat → Int32} {L' : Nat → Int64} {pc' : Nat}
/-- behind a call -/
theorem e_run (k : Ev own cc nL ret d pc' lc (v.toList ++ st) I' A' L' r) {p : Program} {l : Launch} {e : Env} {s : State} {m : MethodId} {args : Array Value} {below : List Frame} {meth : Method} {c : Code} {dC : Nat → ClassId} {dI : Nat → Nat → Nat} {ad : Nat → Nat} {cA : Nat → ClassId} (hC : gCx own cc nL ret p s m args meth c dC dI ad cA) {H : Heap} {locs : List Loc} {ls : Array Slot} (hS : va_S (gA ad) s.heap H locs) (hl : lv_has ls nL (gPr ad lc)) {st0 : List Value} {av : Array Value} (hp : pc + 3 = pc')
    (hr : va_Run p l e (gRm d) s m args below meth c H locs 0 0 0 0 (F0 m pc ls st0) (st.map (cv ad)) (gQ dC dI cA ad (v, (I', A', L')) av) (gA ad)) : W p l e (gRm d) s m args below meth c H locs 0 0 (MQ below (gQ dC dI cA ad r) args s 0 0 (gA ad)) (F0 m pc ls st0) := by
  subst hp
  intro T hT X
  obtain ⟨w, st₀, t, T', LL, h0, X', hL, e1, e2, ⟨⟨hv, hP⟩, hz, hk⟩, stp⟩ := hr T hT X
  have hw : w = v.map (cv ad) := by
    have := Outcome.returned.inj hv
    exact this
  subst hw
  rw [h0] at hz hk
  have hS' : va_S (gA ad) s.heap T'.heap (locs ++ LL) := ⟨Nat.le_trans hS.1 (by rw [e1]; exact hz), fun q h1 h2 => by rw [e1, hk q (Nat.lt_of_lt_of_le h1 hS.1) h2]; exact hS.2.1 q h1 h2, fun q hq => by
      rcases List.mem_append.mp hq with h | h
      · exact hS.2.2 q h
      · exact hL q h⟩
  obtain ⟨t2, a1, b1⟩ := k p l e s m args below meth c dC dI ad cA hC T'.heap (locs ++ LL) ls (by rw [e1]; exact hP) hS' hl T' rfl X'
  refine ⟨t2, stp t2 ?_, b1⟩
  have e9 : (v.toList ++ st).map (cv ad) = (v.map (cv ad)).toList ++ st.map (cv ad) := by
    rw [List.map_append]
    cases v <;> rfl
  rw [e9] at a1
  exact a1
theorem e_st8 {ad : Nat → Nat} (hst : (st.map fun v => v.category).sum ≤ 8) : ((st.map (cv ad)).map fun v => v.category).sum ≤ 8 := by
  rw [List.map_map]
  rw [show ((fun v : Value => v.category) ∘ cv ad) = (fun v : Value => v.category) from funext (fun v => cv_cat ad v)]
  exact hst
/-- an instance method of the same class -/
theorem e_callV {a ci : Nat} (hd : decode cc pc = .ok (.invokevirtual idx, 3)) (hp : pc + 3 = pc') (hlink : Cond.methodLink own idx y ∈ gT) (hm : g_mv y cy ny ry n) (hn : As.length = n) (hdd : dy + 1 ≤ d) (hst : (st.map fun v => v.category).sum ≤ 8) (hsh : g_sh a = (ci, 0)) (hci : ci < 8) (hcl : (g_cl ci).1 = y.cls)
    (hM : GM y cy ny ry dy (.ref a :: As) I A L (v, (I', A', L'))) (hSt : S = As.reverse ++ .ref a :: st) (k : Ev own cc nL ret d pc' lc (v.toList ++ st) I' A' L' r) : Ev own cc nL ret d pc lc (S) I A L r := by
  subst hSt
  intro p l e s m args below meth c dC dI ad cA hC H locs ls hP hS hl
  obtain ⟨⟨w1, w2, w3, w4⟩, w5, w6⟩ := hm
  have hts := hC.2.2.2.2.2.1
  refine e_run k hC hS hl hp ?_ (av := (Value.ref (ad a) :: As.map (cv ad)).toArray)
  refine va_runV (C := y.cls) (b := ad a) (As := As.map (cv ad)) (rest := st.map (cv ad)) ⟨hC.1, hC.2.1, hC.2.2.2.1, hC.2.2.2.2.1, hts⟩ (hM l dC dI ad cA) ⟨callB_of n hts (g_good w2) rfl rfl rfl (hts _ w1) (hts _ hlink) w3 ⟨hdd, by show 8 + (ny + 11) + 39 * dy ≤ 39 * d; omega⟩, hts _ w5, hts _ w6⟩ ⟨gPc_blind, ?_, fun U hU hW => ⟨rfl, hC.2.2.2.2.2.2.2.moved hS hU hW, by rw [hU]; exact hP⟩⟩ rfl (by rw [List.length_map]; exact hn) hl.1 (by simp [List.map_append, List.map_reverse, cv]) (lv_room (e_st8 hst)) hd ⟨Nat.le_refl 0, Nat.le_refl 0⟩
  rw [← hcl]
  exact va_recv hC.2.2.2.2.2.2.2.1 hP (g_cl_at hci) (q0 := a) (by rw [gW_get _ _ _ _ _ (g_a70 hsh (by omega)), g_obj hsh hci])
theorem e_callVN {host : String} {a ci : Nat} (hd : decode cc pc = .ok (.invokevirtual idx, 3)) (hp : pc + 3 = pc') (hlink : Cond.methodLinkNest own idx y host ∈ lw_tbl) (hm : g_mv y cy ny ry n) (hn : As.length = n) (hdd : dy + 1 ≤ d) (hst : (st.map fun v => v.category).sum ≤ 8) (hsh : g_sh a = (ci, 0)) (hci : ci < 8) (hcl : (g_cl ci).1 = y.cls)
    (hM : GM y cy ny ry dy (.ref a :: As) I A L (v, (I', A', L'))) (hSt : S = As.reverse ++ .ref a :: st) (k : Ev own cc nL ret d pc' lc (v.toList ++ st) I' A' L' r) : Ev own cc nL ret d pc lc (S) I A L r := by
  subst hSt
  intro p l e s m args below meth c dC dI ad cA hC H locs ls hP hS hl
  obtain ⟨⟨w1, w2, w3, w4⟩, w5, w6⟩ := hm
  have hts := hC.2.2.2.2.2.1
  refine e_run k hC hS hl hp ?_ (av := (Value.ref (ad a) :: As.map (cv ad)).toArray)
  refine va_runVN (C := y.cls) (b := ad a) (As := As.map (cv ad)) (rest := st.map (cv ad)) ⟨hC.1, hC.2.1, hC.2.2.2.1, hC.2.2.2.2.1, hts⟩ (hM l dC dI ad cA) ⟨va_cnB n hts (g_good w2) rfl rfl rfl (hC.2.2.2.2.2.2.2.2.1 _ hlink rfl) (hts _ w1) w3 ⟨hdd, by show 8 + (ny + 11) + 39 * dy ≤ 39 * d; omega⟩, hts _ w5, hts _ w6⟩ ⟨gPc_blind, ?_, fun U hU hW => ⟨rfl, hC.2.2.2.2.2.2.2.moved hS hU hW, by rw [hU]; exact hP⟩⟩ rfl (by rw [List.length_map]; exact hn) hl.1 (by simp [List.map_append, List.map_reverse, cv]) (lv_room (e_st8 hst)) hd ⟨Nat.le_refl 0, Nat.le_refl 0⟩
  rw [← hcl]
  exact va_recv hC.2.2.2.2.2.2.2.1 hP (g_cl_at hci) (q0 := a) (by rw [gW_get _ _ _ _ _ (g_a70 hsh (by omega)), g_obj hsh hci])
theorem e_callS (hd : decode cc pc = .ok (.invokestatic idx, 3)) (hp : pc + 3 = pc') (hlink : Cond.methodLink own idx y ∈ gT) (hm : g_ms y cy ny ry n) (hn : As.length = n) (hdd : dy + 1 ≤ d) (hst : (st.map fun v => v.category).sum ≤ 8)
    (hM : GM y cy ny ry dy As I A L (v, (I', A', L'))) (hSt : S = As.reverse ++ st) (k : Ev own cc nL ret d pc' lc (v.toList ++ st) I' A' L' r) : Ev own cc nL ret d pc lc (S) I A L r := by
  subst hSt
  intro p l e s m args below meth c dC dI ad cA hC H locs ls hP hS hl
  obtain ⟨⟨w1, w2, w3, w4⟩, w5⟩ := hm
  have hts := hC.2.2.2.2.2.1
  refine e_run k hC hS hl hp ?_ (av := (As.map (cv ad)).toArray)
  exact va_runS (As := As.map (cv ad)) (rest := st.map (cv ad)) ⟨hC.1, hC.2.1, hC.2.2.2.1, hC.2.2.2.2.1, hts⟩ (hM l dC dI ad cA) ⟨callB_of n hts (g_good w2) rfl rfl rfl (hts _ w1) (hts _ hlink) w3 ⟨hdd, by show 8 + (ny + 11) + 39 * dy ≤ 39 * d; omega⟩, hts _ w5⟩ ⟨gPc_blind, fun U hU hW => ⟨rfl, hC.2.2.2.2.2.2.2.moved hS hU hW, by rw [hU]; exact hP⟩⟩ rfl (by rw [List.length_map]; exact hn) hl.1 (by simp [List.map_append, List.map_reverse]) (lv_room (e_st8 hst)) hd ⟨Nat.le_refl 0, Nat.le_refl 0⟩
theorem e_callSN {host : String} (hd : decode cc pc = .ok (.invokestatic idx, 3)) (hp : pc + 3 = pc') (hlink : Cond.methodLinkNest own idx y host ∈ lw_tbl) (hm : g_ms y cy ny ry n) (hn : As.length = n) (hdd : dy + 1 ≤ d) (hst : (st.map fun v => v.category).sum ≤ 8)
    (hM : GM y cy ny ry dy As I A L (v, (I', A', L'))) (hSt : S = As.reverse ++ st) (k : Ev own cc nL ret d pc' lc (v.toList ++ st) I' A' L' r) : Ev own cc nL ret d pc lc (S) I A L r := by
  subst hSt
  intro p l e s m args below meth c dC dI ad cA hC H locs ls hP hS hl
  obtain ⟨⟨w1, w2, w3, w4⟩, w5⟩ := hm
  have hts := hC.2.2.2.2.2.1
  refine e_run k hC hS hl hp ?_ (av := (As.map (cv ad)).toArray)
  exact va_runSN (As := As.map (cv ad)) (rest := st.map (cv ad)) ⟨hC.1, hC.2.1, hC.2.2.2.1, hC.2.2.2.2.1, hts⟩ (hM l dC dI ad cA) ⟨va_cnB n hts (g_good w2) rfl rfl rfl (hC.2.2.2.2.2.2.2.2.1 _ hlink rfl) (hts _ w1) w3 ⟨hdd, by show 8 + (ny + 11) + 39 * dy ≤ 39 * d; omega⟩, hts _ w5, trivial⟩ ⟨gPc_blind, fun U hU hW => ⟨rfl, hC.2.2.2.2.2.2.2.moved hS hU hW, by rw [hU]; exact hP⟩⟩ rfl (by rw [List.length_map]; exact hn) hl.1 (by simp [List.map_append, List.map_reverse]) (lv_room (e_st8 hst)) hd ⟨Nat.le_refl 0, Nat.le_refl 0⟩
end ECall
end
section
theorem zz_end : True := trivial
end
