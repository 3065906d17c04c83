section
-- ===== PART A: goes FIRST, ahead of the names: the tables' words, and 'selects' of the private methods out of them =====
/-- a private method of a class that the tables say can be made, by its rows of tables_1 -/
def lw_okq (q : MethodName × Nat) : Prop := (q.1.cls ≠ "java/lang/invoke/MethodHandle" ∧ q.1.cls ≠ "java/lang/invoke/VarHandle") ∧ Cond.instantiable q.1.cls q.2 ∈ tables_1 ∧ Cond.privateMethod q.1 ∈ tables_1 ∧ Cond.instanceMethod q.1 ∈ tables_1
theorem lw_p0 : lw_okq (⟨"CapabilityVats", "make", "(IILCapabilityVats$Thing;)LCapabilityVats$Thing;"⟩, 8) := ⟨⟨by decide +kernel, by decide +kernel⟩, List.mem_of_getElem? (i := 8) (by decide +kernel), List.mem_of_getElem? (i := 85) (by decide +kernel), List.mem_of_getElem? (i := 86) (by decide +kernel)⟩
theorem lw_p1 : lw_okq (⟨"CapabilityVats", "cellAt", "(I)LCapabilityVats$Thing;"⟩, 8) := ⟨⟨by decide +kernel, by decide +kernel⟩, List.mem_of_getElem? (i := 8) (by decide +kernel), List.mem_of_getElem? (i := 143) (by decide +kernel), List.mem_of_getElem? (i := 144) (by decide +kernel)⟩
theorem lw_p2 : lw_okq (⟨"CapabilityVats", "thingAt", "(I)LCapabilityVats$Thing;"⟩, 8) := ⟨⟨by decide +kernel, by decide +kernel⟩, List.mem_of_getElem? (i := 8) (by decide +kernel), List.mem_of_getElem? (i := 147) (by decide +kernel), List.mem_of_getElem? (i := 148) (by decide +kernel)⟩
theorem lw_p3 : lw_okq (⟨"CapabilityVats", "routeAll", "()V"⟩, 8) := ⟨⟨by decide +kernel, by decide +kernel⟩, List.mem_of_getElem? (i := 8) (by decide +kernel), List.mem_of_getElem? (i := 224) (by decide +kernel), List.mem_of_getElem? (i := 225) (by decide +kernel)⟩
theorem lw_p4 : lw_okq (⟨"CapabilityVats", "route", "(LCapabilityVats$Message;)V"⟩, 8) := ⟨⟨by decide +kernel, by decide +kernel⟩, List.mem_of_getElem? (i := 8) (by decide +kernel), List.mem_of_getElem? (i := 232) (by decide +kernel), List.mem_of_getElem? (i := 233) (by decide +kernel)⟩
theorem lw_p5 : lw_okq (⟨"CapabilityVats", "thingOf", "(LCapabilityVats$Reference;)LCapabilityVats$Thing;"⟩, 8) := ⟨⟨by decide +kernel, by decide +kernel⟩, List.mem_of_getElem? (i := 8) (by decide +kernel), List.mem_of_getElem? (i := 236) (by decide +kernel), List.mem_of_getElem? (i := 237) (by decide +kernel)⟩
theorem lw_p6 : lw_okq (⟨"CapabilityVats", "countsAs", "(LCapabilityVats$Reference;)LCapabilityVats$Reference;"⟩, 8) := ⟨⟨by decide +kernel, by decide +kernel⟩, List.mem_of_getElem? (i := 8) (by decide +kernel), List.mem_of_getElem? (i := 240) (by decide +kernel), List.mem_of_getElem? (i := 241) (by decide +kernel)⟩
theorem lw_p7 : lw_okq (⟨"CapabilityVats", "messageAt", "(I)LCapabilityVats$Message;"⟩, 8) := ⟨⟨by decide +kernel, by decide +kernel⟩, List.mem_of_getElem? (i := 8) (by decide +kernel), List.mem_of_getElem? (i := 244) (by decide +kernel), List.mem_of_getElem? (i := 245) (by decide +kernel)⟩
theorem lw_p8 : lw_okq (⟨"CapabilityVats", "awaitedBy", "(LCapabilityVats$Reference;)LCapabilityVats$Message;"⟩, 8) := ⟨⟨by decide +kernel, by decide +kernel⟩, List.mem_of_getElem? (i := 8) (by decide +kernel), List.mem_of_getElem? (i := 248) (by decide +kernel), List.mem_of_getElem? (i := 249) (by decide +kernel)⟩
theorem lw_p9 : lw_okq (⟨"CapabilityVats", "settle", "(LCapabilityVats$Message;LCapabilityVats$Reference;)V"⟩, 8) := ⟨⟨by decide +kernel, by decide +kernel⟩, List.mem_of_getElem? (i := 8) (by decide +kernel), List.mem_of_getElem? (i := 252) (by decide +kernel), List.mem_of_getElem? (i := 253) (by decide +kernel)⟩
theorem lw_p10 : lw_okq (⟨"CapabilityVats", "brokenIfNothing", "(LCapabilityVats$Reference;)LCapabilityVats$Reference;"⟩, 8) := ⟨⟨by decide +kernel, by decide +kernel⟩, List.mem_of_getElem? (i := 8) (by decide +kernel), List.mem_of_getElem? (i := 256) (by decide +kernel), List.mem_of_getElem? (i := 257) (by decide +kernel)⟩
theorem lw_p11 : lw_okq (⟨"CapabilityVats", "relay", "(LCapabilityVats$Thing;LCapabilityVats$Message;)V"⟩, 8) := ⟨⟨by decide +kernel, by decide +kernel⟩, List.mem_of_getElem? (i := 8) (by decide +kernel), List.mem_of_getElem? (i := 277) (by decide +kernel), List.mem_of_getElem? (i := 278) (by decide +kernel)⟩
theorem lw_p12 : lw_okq (⟨"CapabilityVats", "wrap", "(LCapabilityVats$Reference;LCapabilityVats$Thing;Z)LCapabilityVats$Reference;"⟩, 8) := ⟨⟨by decide +kernel, by decide +kernel⟩, List.mem_of_getElem? (i := 8) (by decide +kernel), List.mem_of_getElem? (i := 281) (by decide +kernel), List.mem_of_getElem? (i := 282) (by decide +kernel)⟩
theorem lw_p13 : lw_okq (⟨"CapabilityVats", "thingOfKind", "(ILCapabilityVats$Reference;)LCapabilityVats$Thing;"⟩, 8) := ⟨⟨by decide +kernel, by decide +kernel⟩, List.mem_of_getElem? (i := 8) (by decide +kernel), List.mem_of_getElem? (i := 285) (by decide +kernel), List.mem_of_getElem? (i := 286) (by decide +kernel)⟩
theorem lw_p14 : lw_okq (⟨"CapabilityVats", "findWrapper", "(LCapabilityVats$Reference;LCapabilityVats$Thing;Z)LCapabilityVats$Thing;"⟩, 8) := ⟨⟨by decide +kernel, by decide +kernel⟩, List.mem_of_getElem? (i := 8) (by decide +kernel), List.mem_of_getElem? (i := 289) (by decide +kernel), List.mem_of_getElem? (i := 290) (by decide +kernel)⟩
theorem lw_p15 : lw_okq (⟨"CapabilityVats", "makeWrapper", "(LCapabilityVats$Reference;LCapabilityVats$Thing;Z)LCapabilityVats$Thing;"⟩, 8) := ⟨⟨by decide +kernel, by decide +kernel⟩, List.mem_of_getElem? (i := 8) (by decide +kernel), List.mem_of_getElem? (i := 297) (by decide +kernel), List.mem_of_getElem? (i := 298) (by decide +kernel)⟩
def lw_privs_1 : List (MethodName × Nat) := [(⟨"CapabilityVats", "make", "(IILCapabilityVats$Thing;)LCapabilityVats$Thing;"⟩, 8), (⟨"CapabilityVats", "cellAt", "(I)LCapabilityVats$Thing;"⟩, 8), (⟨"CapabilityVats", "thingAt", "(I)LCapabilityVats$Thing;"⟩, 8), (⟨"CapabilityVats", "routeAll", "()V"⟩, 8), (⟨"CapabilityVats", "route", "(LCapabilityVats$Message;)V"⟩, 8), (⟨"CapabilityVats", "thingOf", "(LCapabilityVats$Reference;)LCapabilityVats$Thing;"⟩, 8), (⟨"CapabilityVats", "countsAs", "(LCapabilityVats$Reference;)LCapabilityVats$Reference;"⟩, 8), (⟨"CapabilityVats", "messageAt", "(I)LCapabilityVats$Message;"⟩, 8), (⟨"CapabilityVats", "awaitedBy", "(LCapabilityVats$Reference;)LCapabilityVats$Message;"⟩, 8), (⟨"CapabilityVats", "settle", "(LCapabilityVats$Message;LCapabilityVats$Reference;)V"⟩, 8), (⟨"CapabilityVats", "brokenIfNothing", "(LCapabilityVats$Reference;)LCapabilityVats$Reference;"⟩, 8), (⟨"CapabilityVats", "relay", "(LCapabilityVats$Thing;LCapabilityVats$Message;)V"⟩, 8), (⟨"CapabilityVats", "wrap", "(LCapabilityVats$Reference;LCapabilityVats$Thing;Z)LCapabilityVats$Reference;"⟩, 8), (⟨"CapabilityVats", "thingOfKind", "(ILCapabilityVats$Reference;)LCapabilityVats$Thing;"⟩, 8), (⟨"CapabilityVats", "findWrapper", "(LCapabilityVats$Reference;LCapabilityVats$Thing;Z)LCapabilityVats$Thing;"⟩, 8), (⟨"CapabilityVats", "makeWrapper", "(LCapabilityVats$Reference;LCapabilityVats$Thing;Z)LCapabilityVats$Thing;"⟩, 8)]
theorem lw_r1 : ∀ q ∈ lw_privs_1, lw_okq q := List.forall_mem_cons.mpr ⟨lw_p0, List.forall_mem_cons.mpr ⟨lw_p1, List.forall_mem_cons.mpr ⟨lw_p2, List.forall_mem_cons.mpr ⟨lw_p3, List.forall_mem_cons.mpr ⟨lw_p4, List.forall_mem_cons.mpr ⟨lw_p5, List.forall_mem_cons.mpr ⟨lw_p6, List.forall_mem_cons.mpr ⟨lw_p7, List.forall_mem_cons.mpr ⟨lw_p8, List.forall_mem_cons.mpr ⟨lw_p9, List.forall_mem_cons.mpr ⟨lw_p10, List.forall_mem_cons.mpr ⟨lw_p11, List.forall_mem_cons.mpr ⟨lw_p12, List.forall_mem_cons.mpr ⟨lw_p13, List.forall_mem_cons.mpr ⟨lw_p14, List.forall_mem_cons.mpr ⟨lw_p15, fun _ h => absurd h List.not_mem_nil⟩⟩⟩⟩⟩⟩⟩⟩⟩⟩⟩⟩⟩⟩⟩⟩
theorem lw_p16 : lw_okq (⟨"CapabilityVats", "referenceTo", "(LCapabilityVats$Thing;)LCapabilityVats$Reference;"⟩, 8) := ⟨⟨by decide +kernel, by decide +kernel⟩, List.mem_of_getElem? (i := 8) (by decide +kernel), List.mem_of_getElem? (i := 301) (by decide +kernel), List.mem_of_getElem? (i := 302) (by decide +kernel)⟩
theorem lw_p17 : lw_okq (⟨"CapabilityVats", "answer", "(LCapabilityVats$Thing;LCapabilityVats$Message;)LCapabilityVats$Reference;"⟩, 8) := ⟨⟨by decide +kernel, by decide +kernel⟩, List.mem_of_getElem? (i := 8) (by decide +kernel), List.mem_of_getElem? (i := 309) (by decide +kernel), List.mem_of_getElem? (i := 310) (by decide +kernel)⟩
theorem lw_p18 : lw_okq (⟨"CapabilityVats", "answerOfCell", "(LCapabilityVats$Thing;ILCapabilityVats$Reference;)LCapabilityVats$Reference;"⟩, 8) := ⟨⟨by decide +kernel, by decide +kernel⟩, List.mem_of_getElem? (i := 8) (by decide +kernel), List.mem_of_getElem? (i := 313) (by decide +kernel), List.mem_of_getElem? (i := 314) (by decide +kernel)⟩
theorem lw_p19 : lw_okq (⟨"CapabilityVats", "makeGate", "(LCapabilityVats$Thing;LCapabilityVats$Reference;)LCapabilityVats$Reference;"⟩, 8) := ⟨⟨by decide +kernel, by decide +kernel⟩, List.mem_of_getElem? (i := 8) (by decide +kernel), List.mem_of_getElem? (i := 317) (by decide +kernel), List.mem_of_getElem? (i := 318) (by decide +kernel)⟩
theorem lw_p20 : lw_okq (⟨"CapabilityVats", "answerOfRevocable", "(LCapabilityVats$Thing;I)LCapabilityVats$Reference;"⟩, 8) := ⟨⟨by decide +kernel, by decide +kernel⟩, List.mem_of_getElem? (i := 8) (by decide +kernel), List.mem_of_getElem? (i := 321) (by decide +kernel), List.mem_of_getElem? (i := 322) (by decide +kernel)⟩
theorem lw_p21 : lw_okq (⟨"CapabilityVats", "answerOfBrand", "(LCapabilityVats$Thing;I)LCapabilityVats$Reference;"⟩, 8) := ⟨⟨by decide +kernel, by decide +kernel⟩, List.mem_of_getElem? (i := 8) (by decide +kernel), List.mem_of_getElem? (i := 328) (by decide +kernel), List.mem_of_getElem? (i := 329) (by decide +kernel)⟩
theorem lw_p22 : lw_okq (⟨"CapabilityVats", "makeBox", "(LCapabilityVats$Thing;LCapabilityVats$Reference;)LCapabilityVats$Reference;"⟩, 8) := ⟨⟨by decide +kernel, by decide +kernel⟩, List.mem_of_getElem? (i := 8) (by decide +kernel), List.mem_of_getElem? (i := 332) (by decide +kernel), List.mem_of_getElem? (i := 333) (by decide +kernel)⟩
theorem lw_p23 : lw_okq (⟨"CapabilityVats", "unseal", "(LCapabilityVats$Thing;LCapabilityVats$Reference;)LCapabilityVats$Reference;"⟩, 8) := ⟨⟨by decide +kernel, by decide +kernel⟩, List.mem_of_getElem? (i := 8) (by decide +kernel), List.mem_of_getElem? (i := 336) (by decide +kernel), List.mem_of_getElem? (i := 337) (by decide +kernel)⟩
theorem lw_p24 : lw_okq (⟨"CapabilityVats", "makeMoney", "(LCapabilityVats$Thing;LCapabilityVats$Reference;)LCapabilityVats$Reference;"⟩, 8) := ⟨⟨by decide +kernel, by decide +kernel⟩, List.mem_of_getElem? (i := 8) (by decide +kernel), List.mem_of_getElem? (i := 340) (by decide +kernel), List.mem_of_getElem? (i := 341) (by decide +kernel)⟩
theorem lw_p25 : lw_okq (⟨"CapabilityVats", "isNumberUpTo", "(ILCapabilityVats$Reference;)Z"⟩, 8) := ⟨⟨by decide +kernel, by decide +kernel⟩, List.mem_of_getElem? (i := 8) (by decide +kernel), List.mem_of_getElem? (i := 345) (by decide +kernel), List.mem_of_getElem? (i := 346) (by decide +kernel)⟩
theorem lw_p26 : lw_okq (⟨"CapabilityVats", "answerOfPurse", "(LCapabilityVats$Thing;ILCapabilityVats$Reference;)LCapabilityVats$Reference;"⟩, 8) := ⟨⟨by decide +kernel, by decide +kernel⟩, List.mem_of_getElem? (i := 8) (by decide +kernel), List.mem_of_getElem? (i := 349) (by decide +kernel), List.mem_of_getElem? (i := 350) (by decide +kernel)⟩
theorem lw_p27 : lw_okq (⟨"CapabilityVats", "deposit", "(LCapabilityVats$Thing;LCapabilityVats$Reference;)LCapabilityVats$Reference;"⟩, 8) := ⟨⟨by decide +kernel, by decide +kernel⟩, List.mem_of_getElem? (i := 8) (by decide +kernel), List.mem_of_getElem? (i := 353) (by decide +kernel), List.mem_of_getElem? (i := 354) (by decide +kernel)⟩
theorem lw_p28 : lw_okq (⟨"CapabilityVats", "split", "(LCapabilityVats$Thing;LCapabilityVats$Reference;)LCapabilityVats$Reference;"⟩, 8) := ⟨⟨by decide +kernel, by decide +kernel⟩, List.mem_of_getElem? (i := 8) (by decide +kernel), List.mem_of_getElem? (i := 357) (by decide +kernel), List.mem_of_getElem? (i := 358) (by decide +kernel)⟩
theorem lw_p29 : lw_okq (⟨"CapabilityVats", "wrapAsNoted", "(LCapabilityVats$Reference;LCapabilityVats$Message;)LCapabilityVats$Reference;"⟩, 8) := ⟨⟨by decide +kernel, by decide +kernel⟩, List.mem_of_getElem? (i := 8) (by decide +kernel), List.mem_of_getElem? (i := 361) (by decide +kernel), List.mem_of_getElem? (i := 362) (by decide +kernel)⟩
theorem lw_p30 : lw_okq (⟨"CapabilityVats", "heldAt", "(II)LCapabilityVats$Reference;"⟩, 8) := ⟨⟨by decide +kernel, by decide +kernel⟩, List.mem_of_getElem? (i := 8) (by decide +kernel), List.mem_of_getElem? (i := 381) (by decide +kernel), List.mem_of_getElem? (i := 382) (by decide +kernel)⟩
theorem lw_p31 : lw_okq (⟨"CapabilityVatsModel", "make", "(III)I"⟩, 29) := ⟨⟨by decide +kernel, by decide +kernel⟩, List.mem_of_getElem? (i := 439) (by decide +kernel), List.mem_of_getElem? (i := 542) (by decide +kernel), List.mem_of_getElem? (i := 543) (by decide +kernel)⟩
def lw_privs_2 : List (MethodName × Nat) := [(⟨"CapabilityVats", "referenceTo", "(LCapabilityVats$Thing;)LCapabilityVats$Reference;"⟩, 8), (⟨"CapabilityVats", "answer", "(LCapabilityVats$Thing;LCapabilityVats$Message;)LCapabilityVats$Reference;"⟩, 8), (⟨"CapabilityVats", "answerOfCell", "(LCapabilityVats$Thing;ILCapabilityVats$Reference;)LCapabilityVats$Reference;"⟩, 8), (⟨"CapabilityVats", "makeGate", "(LCapabilityVats$Thing;LCapabilityVats$Reference;)LCapabilityVats$Reference;"⟩, 8), (⟨"CapabilityVats", "answerOfRevocable", "(LCapabilityVats$Thing;I)LCapabilityVats$Reference;"⟩, 8), (⟨"CapabilityVats", "answerOfBrand", "(LCapabilityVats$Thing;I)LCapabilityVats$Reference;"⟩, 8), (⟨"CapabilityVats", "makeBox", "(LCapabilityVats$Thing;LCapabilityVats$Reference;)LCapabilityVats$Reference;"⟩, 8), (⟨"CapabilityVats", "unseal", "(LCapabilityVats$Thing;LCapabilityVats$Reference;)LCapabilityVats$Reference;"⟩, 8), (⟨"CapabilityVats", "makeMoney", "(LCapabilityVats$Thing;LCapabilityVats$Reference;)LCapabilityVats$Reference;"⟩, 8), (⟨"CapabilityVats", "isNumberUpTo", "(ILCapabilityVats$Reference;)Z"⟩, 8), (⟨"CapabilityVats", "answerOfPurse", "(LCapabilityVats$Thing;ILCapabilityVats$Reference;)LCapabilityVats$Reference;"⟩, 8), (⟨"CapabilityVats", "deposit", "(LCapabilityVats$Thing;LCapabilityVats$Reference;)LCapabilityVats$Reference;"⟩, 8), (⟨"CapabilityVats", "split", "(LCapabilityVats$Thing;LCapabilityVats$Reference;)LCapabilityVats$Reference;"⟩, 8), (⟨"CapabilityVats", "wrapAsNoted", "(LCapabilityVats$Reference;LCapabilityVats$Message;)LCapabilityVats$Reference;"⟩, 8), (⟨"CapabilityVats", "heldAt", "(II)LCapabilityVats$Reference;"⟩, 8), (⟨"CapabilityVatsModel", "make", "(III)I"⟩, 29)]
theorem lw_r2 : ∀ q ∈ lw_privs_2, lw_okq q := List.forall_mem_cons.mpr ⟨lw_p16, List.forall_mem_cons.mpr ⟨lw_p17, List.forall_mem_cons.mpr ⟨lw_p18, List.forall_mem_cons.mpr ⟨lw_p19, List.forall_mem_cons.mpr ⟨lw_p20, List.forall_mem_cons.mpr ⟨lw_p21, List.forall_mem_cons.mpr ⟨lw_p22, List.forall_mem_cons.mpr ⟨lw_p23, List.forall_mem_cons.mpr ⟨lw_p24, List.forall_mem_cons.mpr ⟨lw_p25, List.forall_mem_cons.mpr ⟨lw_p26, List.forall_mem_cons.mpr ⟨lw_p27, List.forall_mem_cons.mpr ⟨lw_p28, List.forall_mem_cons.mpr ⟨lw_p29, List.forall_mem_cons.mpr ⟨lw_p30, List.forall_mem_cons.mpr ⟨lw_p31, fun _ h => absurd h List.not_mem_nil⟩⟩⟩⟩⟩⟩⟩⟩⟩⟩⟩⟩⟩⟩⟩⟩
theorem lw_p32 : lw_okq (⟨"CapabilityVatsModel", "isSlot", "(II)Z"⟩, 29) := ⟨⟨by decide +kernel, by decide +kernel⟩, List.mem_of_getElem? (i := 439) (by decide +kernel), List.mem_of_getElem? (i := 550) (by decide +kernel), List.mem_of_getElem? (i := 551) (by decide +kernel)⟩
theorem lw_p33 : lw_okq (⟨"CapabilityVatsModel", "route", "(I)V"⟩, 29) := ⟨⟨by decide +kernel, by decide +kernel⟩, List.mem_of_getElem? (i := 439) (by decide +kernel), List.mem_of_getElem? (i := 562) (by decide +kernel), List.mem_of_getElem? (i := 563) (by decide +kernel)⟩
theorem lw_p34 : lw_okq (⟨"CapabilityVatsModel", "direct", "(I)V"⟩, 29) := ⟨⟨by decide +kernel, by decide +kernel⟩, List.mem_of_getElem? (i := 439) (by decide +kernel), List.mem_of_getElem? (i := 566) (by decide +kernel), List.mem_of_getElem? (i := 567) (by decide +kernel)⟩
theorem lw_p35 : lw_okq (⟨"CapabilityVatsModel", "look", "(II)V"⟩, 29) := ⟨⟨by decide +kernel, by decide +kernel⟩, List.mem_of_getElem? (i := 439) (by decide +kernel), List.mem_of_getElem? (i := 570) (by decide +kernel), List.mem_of_getElem? (i := 571) (by decide +kernel)⟩
theorem lw_p36 : lw_okq (⟨"CapabilityVatsModel", "hold", "(II)V"⟩, 29) := ⟨⟨by decide +kernel, by decide +kernel⟩, List.mem_of_getElem? (i := 439) (by decide +kernel), List.mem_of_getElem? (i := 574) (by decide +kernel), List.mem_of_getElem? (i := 575) (by decide +kernel)⟩
theorem lw_p37 : lw_okq (⟨"CapabilityVatsModel", "stand", "(III)V"⟩, 29) := ⟨⟨by decide +kernel, by decide +kernel⟩, List.mem_of_getElem? (i := 439) (by decide +kernel), List.mem_of_getElem? (i := 578) (by decide +kernel), List.mem_of_getElem? (i := 579) (by decide +kernel)⟩
theorem lw_p38 : lw_okq (⟨"CapabilityVatsModel", "broken", "()V"⟩, 29) := ⟨⟨by decide +kernel, by decide +kernel⟩, List.mem_of_getElem? (i := 439) (by decide +kernel), List.mem_of_getElem? (i := 582) (by decide +kernel), List.mem_of_getElem? (i := 583) (by decide +kernel)⟩
theorem lw_p39 : lw_okq (⟨"CapabilityVatsModel", "settle", "(I)V"⟩, 29) := ⟨⟨by decide +kernel, by decide +kernel⟩, List.mem_of_getElem? (i := 439) (by decide +kernel), List.mem_of_getElem? (i := 586) (by decide +kernel), List.mem_of_getElem? (i := 587) (by decide +kernel)⟩
theorem lw_p40 : lw_okq (⟨"CapabilityVatsModel", "released", "()I"⟩, 29) := ⟨⟨by decide +kernel, by decide +kernel⟩, List.mem_of_getElem? (i := 439) (by decide +kernel), List.mem_of_getElem? (i := 590) (by decide +kernel), List.mem_of_getElem? (i := 591) (by decide +kernel)⟩
theorem lw_p41 : lw_okq (⟨"CapabilityVatsModel", "nth", "(III)I"⟩, 29) := ⟨⟨by decide +kernel, by decide +kernel⟩, List.mem_of_getElem? (i := 439) (by decide +kernel), List.mem_of_getElem? (i := 598) (by decide +kernel), List.mem_of_getElem? (i := 599) (by decide +kernel)⟩
theorem lw_p42 : lw_okq (⟨"CapabilityVatsModel", "answers", "(II)Z"⟩, 29) := ⟨⟨by decide +kernel, by decide +kernel⟩, List.mem_of_getElem? (i := 439) (by decide +kernel), List.mem_of_getElem? (i := 602) (by decide +kernel), List.mem_of_getElem? (i := 603) (by decide +kernel)⟩
theorem lw_p43 : lw_okq (⟨"CapabilityVatsModel", "relays", "(II)Z"⟩, 29) := ⟨⟨by decide +kernel, by decide +kernel⟩, List.mem_of_getElem? (i := 439) (by decide +kernel), List.mem_of_getElem? (i := 606) (by decide +kernel), List.mem_of_getElem? (i := 607) (by decide +kernel)⟩
theorem lw_p44 : lw_okq (⟨"CapabilityVatsModel", "wrap", "(II)Z"⟩, 29) := ⟨⟨by decide +kernel, by decide +kernel⟩, List.mem_of_getElem? (i := 439) (by decide +kernel), List.mem_of_getElem? (i := 610) (by decide +kernel), List.mem_of_getElem? (i := 611) (by decide +kernel)⟩
theorem lw_p45 : lw_okq (⟨"CapabilityVatsModel", "fresh", "(III)V"⟩, 29) := ⟨⟨by decide +kernel, by decide +kernel⟩, List.mem_of_getElem? (i := 439) (by decide +kernel), List.mem_of_getElem? (i := 614) (by decide +kernel), List.mem_of_getElem? (i := 615) (by decide +kernel)⟩
theorem lw_p46 : lw_okq (⟨"CapabilityVatsModel", "ofCell", "(III)V"⟩, 29) := ⟨⟨by decide +kernel, by decide +kernel⟩, List.mem_of_getElem? (i := 439) (by decide +kernel), List.mem_of_getElem? (i := 618) (by decide +kernel), List.mem_of_getElem? (i := 619) (by decide +kernel)⟩
theorem lw_p47 : lw_okq (⟨"CapabilityVatsModel", "ofGuard", "(II)V"⟩, 29) := ⟨⟨by decide +kernel, by decide +kernel⟩, List.mem_of_getElem? (i := 439) (by decide +kernel), List.mem_of_getElem? (i := 622) (by decide +kernel), List.mem_of_getElem? (i := 623) (by decide +kernel)⟩
def lw_privs_3 : List (MethodName × Nat) := [(⟨"CapabilityVatsModel", "isSlot", "(II)Z"⟩, 29), (⟨"CapabilityVatsModel", "route", "(I)V"⟩, 29), (⟨"CapabilityVatsModel", "direct", "(I)V"⟩, 29), (⟨"CapabilityVatsModel", "look", "(II)V"⟩, 29), (⟨"CapabilityVatsModel", "hold", "(II)V"⟩, 29), (⟨"CapabilityVatsModel", "stand", "(III)V"⟩, 29), (⟨"CapabilityVatsModel", "broken", "()V"⟩, 29), (⟨"CapabilityVatsModel", "settle", "(I)V"⟩, 29), (⟨"CapabilityVatsModel", "released", "()I"⟩, 29), (⟨"CapabilityVatsModel", "nth", "(III)I"⟩, 29), (⟨"CapabilityVatsModel", "answers", "(II)Z"⟩, 29), (⟨"CapabilityVatsModel", "relays", "(II)Z"⟩, 29), (⟨"CapabilityVatsModel", "wrap", "(II)Z"⟩, 29), (⟨"CapabilityVatsModel", "fresh", "(III)V"⟩, 29), (⟨"CapabilityVatsModel", "ofCell", "(III)V"⟩, 29), (⟨"CapabilityVatsModel", "ofGuard", "(II)V"⟩, 29)]
theorem lw_r3 : ∀ q ∈ lw_privs_3, lw_okq q := List.forall_mem_cons.mpr ⟨lw_p32, List.forall_mem_cons.mpr ⟨lw_p33, List.forall_mem_cons.mpr ⟨lw_p34, List.forall_mem_cons.mpr ⟨lw_p35, List.forall_mem_cons.mpr ⟨lw_p36, List.forall_mem_cons.mpr ⟨lw_p37, List.forall_mem_cons.mpr ⟨lw_p38, List.forall_mem_cons.mpr ⟨lw_p39, List.forall_mem_cons.mpr ⟨lw_p40, List.forall_mem_cons.mpr ⟨lw_p41, List.forall_mem_cons.mpr ⟨lw_p42, List.forall_mem_cons.mpr ⟨lw_p43, List.forall_mem_cons.mpr ⟨lw_p44, List.forall_mem_cons.mpr ⟨lw_p45, List.forall_mem_cons.mpr ⟨lw_p46, List.forall_mem_cons.mpr ⟨lw_p47, fun _ h => absurd h List.not_mem_nil⟩⟩⟩⟩⟩⟩⟩⟩⟩⟩⟩⟩⟩⟩⟩⟩
theorem lw_p48 : lw_okq (⟨"CapabilityVatsModel", "ofSealer", "(II)V"⟩, 29) := ⟨⟨by decide +kernel, by decide +kernel⟩, List.mem_of_getElem? (i := 439) (by decide +kernel), List.mem_of_getElem? (i := 626) (by decide +kernel), List.mem_of_getElem? (i := 627) (by decide +kernel)⟩
theorem lw_p49 : lw_okq (⟨"CapabilityVatsModel", "ofUnsealer", "(I)V"⟩, 29) := ⟨⟨by decide +kernel, by decide +kernel⟩, List.mem_of_getElem? (i := 439) (by decide +kernel), List.mem_of_getElem? (i := 630) (by decide +kernel), List.mem_of_getElem? (i := 631) (by decide +kernel)⟩
theorem lw_p50 : lw_okq (⟨"CapabilityVatsModel", "isObject", "(I)Z"⟩, 29) := ⟨⟨by decide +kernel, by decide +kernel⟩, List.mem_of_getElem? (i := 439) (by decide +kernel), List.mem_of_getElem? (i := 634) (by decide +kernel), List.mem_of_getElem? (i := 635) (by decide +kernel)⟩
theorem lw_p51 : lw_okq (⟨"CapabilityVatsModel", "ofMint", "(I)V"⟩, 29) := ⟨⟨by decide +kernel, by decide +kernel⟩, List.mem_of_getElem? (i := 439) (by decide +kernel), List.mem_of_getElem? (i := 638) (by decide +kernel), List.mem_of_getElem? (i := 639) (by decide +kernel)⟩
theorem lw_p52 : lw_okq (⟨"CapabilityVatsModel", "ofPurse", "(II)V"⟩, 29) := ⟨⟨by decide +kernel, by decide +kernel⟩, List.mem_of_getElem? (i := 439) (by decide +kernel), List.mem_of_getElem? (i := 643) (by decide +kernel), List.mem_of_getElem? (i := 644) (by decide +kernel)⟩
theorem lw_p53 : lw_okq (⟨"CapabilityVatsModel", "asNoted", "(I)V"⟩, 29) := ⟨⟨by decide +kernel, by decide +kernel⟩, List.mem_of_getElem? (i := 439) (by decide +kernel), List.mem_of_getElem? (i := 647) (by decide +kernel), List.mem_of_getElem? (i := 648) (by decide +kernel)⟩
theorem lw_p54 : lw_okq (⟨"CapabilityVatsModel", "seen", "(II)Z"⟩, 29) := ⟨⟨by decide +kernel, by decide +kernel⟩, List.mem_of_getElem? (i := 439) (by decide +kernel), List.mem_of_getElem? (i := 667) (by decide +kernel), List.mem_of_getElem? (i := 668) (by decide +kernel)⟩
theorem lw_p55 : lw_okq (⟨"CapabilityVatsModel", "count", "(II)I"⟩, 29) := ⟨⟨by decide +kernel, by decide +kernel⟩, List.mem_of_getElem? (i := 439) (by decide +kernel), List.mem_of_getElem? (i := 699) (by decide +kernel), List.mem_of_getElem? (i := 700) (by decide +kernel)⟩
def lw_privs_4 : List (MethodName × Nat) := [(⟨"CapabilityVatsModel", "ofSealer", "(II)V"⟩, 29), (⟨"CapabilityVatsModel", "ofUnsealer", "(I)V"⟩, 29), (⟨"CapabilityVatsModel", "isObject", "(I)Z"⟩, 29), (⟨"CapabilityVatsModel", "ofMint", "(I)V"⟩, 29), (⟨"CapabilityVatsModel", "ofPurse", "(II)V"⟩, 29), (⟨"CapabilityVatsModel", "asNoted", "(I)V"⟩, 29), (⟨"CapabilityVatsModel", "seen", "(II)Z"⟩, 29), (⟨"CapabilityVatsModel", "count", "(II)I"⟩, 29)]
theorem lw_r4 : ∀ q ∈ lw_privs_4, lw_okq q := List.forall_mem_cons.mpr ⟨lw_p48, List.forall_mem_cons.mpr ⟨lw_p49, List.forall_mem_cons.mpr ⟨lw_p50, List.forall_mem_cons.mpr ⟨lw_p51, List.forall_mem_cons.mpr ⟨lw_p52, List.forall_mem_cons.mpr ⟨lw_p53, List.forall_mem_cons.mpr ⟨lw_p54, List.forall_mem_cons.mpr ⟨lw_p55, fun _ h => absurd h List.not_mem_nil⟩⟩⟩⟩⟩⟩⟩⟩
def lw_privs : List (MethodName × Nat) := lw_privs_1 ++ (lw_privs_2 ++ (lw_privs_3 ++ (lw_privs_4)))
def lw_tbl : List Cond := k2_sels lw_privs ++ tables_1
theorem lw_privs_ok : ∀ q ∈ lw_privs, lw_okq q := by
  show ∀ q ∈ lw_privs_1 ++ (lw_privs_2 ++ (lw_privs_3 ++ (lw_privs_4))), lw_okq q
  exact List.forall_mem_append.mpr ⟨lw_r1, List.forall_mem_append.mpr ⟨lw_r2, List.forall_mem_append.mpr ⟨lw_r3, lw_r4⟩⟩⟩
end
section
/-! Names, by program (wip/whole/gen.py) out of the claim's listing. -/
def R_V : String := "CapabilityVats"
def R_R : String := "CapabilityVats$Reference"
def R_H : String := "CapabilityVats$Thing"
def R_M : String := "CapabilityVats$Message"
def R_L : String := "CapabilityVats$Line"
def R_D : String := "CapabilityVatsModel"
def R_W : String := "CapabilityVatsLaw"
def F_V : u_T := fun k => match k with
  | 0 => ("CapabilityVats", "nothing", "LCapabilityVats$Reference;", true)
  | 1 => ("CapabilityVats", "broken", "LCapabilityVats$Reference;", true)
  | 2 => ("CapabilityVats", "things", "[LCapabilityVats$Thing;", true)
  | 3 => ("CapabilityVats", "thingCount", "I", false)
  | 4 => ("CapabilityVats", "sent", "[LCapabilityVats$Message;", true)
  | 5 => ("CapabilityVats", "sentCount", "I", false)
  | 6 => ("CapabilityVats", "queues", "[LCapabilityVats$Line;", true)
  | _ => ("CapabilityVats", "unrouted", "LCapabilityVats$Line;", true)
def t_V : Nat → FieldType := fun k => match k with
  | 0 => (.object "CapabilityVats$Reference")
  | 1 => (.object "CapabilityVats$Reference")
  | 2 => (.array (.object "CapabilityVats$Thing"))
  | 3 => .int
  | 4 => (.array (.object "CapabilityVats$Message"))
  | 5 => .int
  | 6 => (.array (.object "CapabilityVats$Line"))
  | _ => (.object "CapabilityVats$Line")
theorem n_V : ∀ a, a < 8 → ∀ b, b < 8 → a ≠ b → (F_V a).2.1 ≠ (F_V b).2.1 := by decide +kernel
theorem t_V_ok : ∀ k, k < 8 → parseFieldDescriptor (F_V k).2.2.1 = some (t_V k) := by decide +kernel
def F_R : u_T := fun k => match k with
  | 0 => ("CapabilityVats$Reference", "sort", "I", true)
  | _ => ("CapabilityVats$Reference", "index", "I", true)
def t_R : Nat → FieldType := fun k => match k with
  | 0 => .int
  | _ => .int
theorem n_R : ∀ a, a < 2 → ∀ b, b < 2 → a ≠ b → (F_R a).2.1 ≠ (F_R b).2.1 := by decide +kernel
theorem t_R_ok : ∀ k, k < 2 → parseFieldDescriptor (F_R k).2.2.1 = some (t_R k) := by decide +kernel
def F_H : u_T := fun k => match k with
  | 0 => ("CapabilityVats$Thing", "number", "I", true)
  | 1 => ("CapabilityVats$Thing", "kind", "I", true)
  | 2 => ("CapabilityVats$Thing", "home", "I", true)
  | 3 => ("CapabilityVats$Thing", "owner", "LCapabilityVats$Thing;", true)
  | 4 => ("CapabilityVats$Thing", "self", "LCapabilityVats$Reference;", true)
  | 5 => ("CapabilityVats$Thing", "slots", "[LCapabilityVats$Reference;", true)
  | 6 => ("CapabilityVats$Thing", "held", "LCapabilityVats$Reference;", false)
  | 7 => ("CapabilityVats$Thing", "facet", "LCapabilityVats$Thing;", false)
  | 8 => ("CapabilityVats$Thing", "revoked", "Z", false)
  | 9 => ("CapabilityVats$Thing", "inward", "Z", false)
  | _ => ("CapabilityVats$Thing", "balance", "I", false)
def t_H : Nat → FieldType := fun k => match k with
  | 0 => .int
  | 1 => .int
  | 2 => .int
  | 3 => (.object "CapabilityVats$Thing")
  | 4 => (.object "CapabilityVats$Reference")
  | 5 => (.array (.object "CapabilityVats$Reference"))
  | 6 => (.object "CapabilityVats$Reference")
  | 7 => (.object "CapabilityVats$Thing")
  | 8 => .boolean
  | 9 => .boolean
  | _ => .int
theorem n_H : ∀ a, a < 11 → ∀ b, b < 11 → a ≠ b → (F_H a).2.1 ≠ (F_H b).2.1 := by decide +kernel
theorem t_H_ok : ∀ k, k < 11 → parseFieldDescriptor (F_H k).2.2.1 = some (t_H k) := by decide +kernel
def F_M : u_T := fun k => match k with
  | 0 => ("CapabilityVats$Message", "number", "I", true)
  | 1 => ("CapabilityVats$Message", "verb", "I", true)
  | 2 => ("CapabilityVats$Message", "promise", "LCapabilityVats$Reference;", true)
  | 3 => ("CapabilityVats$Message", "waiters", "LCapabilityVats$Line;", true)
  | 4 => ("CapabilityVats$Message", "target", "LCapabilityVats$Reference;", false)
  | 5 => ("CapabilityVats$Message", "argument", "LCapabilityVats$Reference;", false)
  | 6 => ("CapabilityVats$Message", "answer", "LCapabilityVats$Reference;", false)
  | 7 => ("CapabilityVats$Message", "place", "I", false)
  | 8 => ("CapabilityVats$Message", "behind", "LCapabilityVats$Message;", false)
  | 9 => ("CapabilityVats$Message", "passed", "[LCapabilityVats$Thing;", true)
  | _ => ("CapabilityVats$Message", "noteCount", "I", false)
def t_M : Nat → FieldType := fun k => match k with
  | 0 => .int
  | 1 => .int
  | 2 => (.object "CapabilityVats$Reference")
  | 3 => (.object "CapabilityVats$Line")
  | 4 => (.object "CapabilityVats$Reference")
  | 5 => (.object "CapabilityVats$Reference")
  | 6 => (.object "CapabilityVats$Reference")
  | 7 => .int
  | 8 => (.object "CapabilityVats$Message")
  | 9 => (.array (.object "CapabilityVats$Thing"))
  | _ => .int
theorem n_M : ∀ a, a < 11 → ∀ b, b < 11 → a ≠ b → (F_M a).2.1 ≠ (F_M b).2.1 := by decide +kernel
theorem t_M_ok : ∀ k, k < 11 → parseFieldDescriptor (F_M k).2.2.1 = some (t_M k) := by decide +kernel
def F_L : u_T := fun k => match k with
  | 0 => ("CapabilityVats$Line", "first", "LCapabilityVats$Message;", false)
  | 1 => ("CapabilityVats$Line", "last", "LCapabilityVats$Message;", false)
  | _ => ("CapabilityVats$Line", "length", "I", false)
def t_L : Nat → FieldType := fun k => match k with
  | 0 => (.object "CapabilityVats$Message")
  | 1 => (.object "CapabilityVats$Message")
  | _ => .int
theorem n_L : ∀ a, a < 3 → ∀ b, b < 3 → a ≠ b → (F_L a).2.1 ≠ (F_L b).2.1 := by decide +kernel
theorem t_L_ok : ∀ k, k < 3 → parseFieldDescriptor (F_L k).2.2.1 = some (t_L k) := by decide +kernel
def F_D : u_T := fun k => match k with
  | 0 => ("CapabilityVatsModel", "objects", "I", false)
  | 1 => ("CapabilityVatsModel", "kind", "[I", true)
  | 2 => ("CapabilityVatsModel", "home", "[I", true)
  | 3 => ("CapabilityVatsModel", "link", "[I", true)
  | 4 => ("CapabilityVatsModel", "balance", "[I", true)
  | 5 => ("CapabilityVatsModel", "inward", "[I", true)
  | 6 => ("CapabilityVatsModel", "revoked", "[Z", true)
  | 7 => ("CapabilityVatsModel", "ownSort", "[I", true)
  | 8 => ("CapabilityVatsModel", "own", "[I", true)
  | 9 => ("CapabilityVatsModel", "slotSort", "[I", true)
  | 10 => ("CapabilityVatsModel", "slot", "[I", true)
  | 11 => ("CapabilityVatsModel", "messages", "I", false)
  | 12 => ("CapabilityVatsModel", "place", "[I", true)
  | 13 => ("CapabilityVatsModel", "where", "[I", true)
  | 14 => ("CapabilityVatsModel", "stamp", "[I", true)
  | 15 => ("CapabilityVatsModel", "stamps", "I", false)
  | 16 => ("CapabilityVatsModel", "targetSort", "[I", true)
  | 17 => ("CapabilityVatsModel", "target", "[I", true)
  | 18 => ("CapabilityVatsModel", "verb", "[I", true)
  | 19 => ("CapabilityVatsModel", "argumentSort", "[I", true)
  | 20 => ("CapabilityVatsModel", "argument", "[I", true)
  | 21 => ("CapabilityVatsModel", "resolved", "[Z", true)
  | 22 => ("CapabilityVatsModel", "endSort", "[I", true)
  | 23 => ("CapabilityVatsModel", "end", "[I", true)
  | 24 => ("CapabilityVatsModel", "notes", "[I", true)
  | 25 => ("CapabilityVatsModel", "noted", "[I", true)
  | 26 => ("CapabilityVatsModel", "notedInward", "[I", true)
  | 27 => ("CapabilityVatsModel", "sort", "I", false)
  | _ => ("CapabilityVatsModel", "ref", "I", false)
def t_D : Nat → FieldType := fun k => match k with
  | 0 => .int
  | 1 => (.array .int)
  | 2 => (.array .int)
  | 3 => (.array .int)
  | 4 => (.array .int)
  | 5 => (.array .int)
  | 6 => (.array .boolean)
  | 7 => (.array .int)
  | 8 => (.array .int)
  | 9 => (.array .int)
  | 10 => (.array .int)
  | 11 => .int
  | 12 => (.array .int)
  | 13 => (.array .int)
  | 14 => (.array .int)
  | 15 => .int
  | 16 => (.array .int)
  | 17 => (.array .int)
  | 18 => (.array .int)
  | 19 => (.array .int)
  | 20 => (.array .int)
  | 21 => (.array .boolean)
  | 22 => (.array .int)
  | 23 => (.array .int)
  | 24 => (.array .int)
  | 25 => (.array .int)
  | 26 => (.array .int)
  | 27 => .int
  | _ => .int
theorem n_D : ∀ a, a < 29 → ∀ b, b < 29 → a ≠ b → (F_D a).2.1 ≠ (F_D b).2.1 := by decide +kernel
theorem t_D_ok : ∀ k, k < 29 → parseFieldDescriptor (F_D k).2.2.1 = some (t_D k) := by decide +kernel
abbrev cls : List vw_C := [(R_V, F_V, 8), (R_R, F_R, 2), (R_H, F_H, 11), (R_M, F_M, 11), (R_L, F_L, 3), (R_D, F_D, 29)]
abbrev kV : Nat := 0
abbrev kR : Nat := 1
abbrev kT : Nat := 2
abbrev kM : Nat := 3
abbrev kL : Nat := 4
abbrev kD : Nat := 5
abbrev aR : Nat := 0
abbrev aT : Nat := 1
abbrev aM : Nat := 2
abbrev aL : Nat := 3
abbrev aI : Nat := 4
abbrev aZ : Nat := 5
abbrev c_V_init : ByteArray := prog_1_method_1_code
def y_V_init : MethodName := ⟨R_V, "<init>", "()V"⟩
abbrev c_V_cell : ByteArray := prog_1_method_2_code
def y_V_cell : MethodName := ⟨R_V, "cell", "(I)I"⟩
abbrev c_V_number : ByteArray := prog_1_method_3_code
def y_V_number : MethodName := ⟨R_V, "number", "(III)Z"⟩
abbrev c_V_introduce : ByteArray := prog_1_method_4_code
def y_V_introduce : MethodName := ⟨R_V, "introduce", "(III)Z"⟩
abbrev c_V_send : ByteArray := prog_1_method_5_code
def y_V_send : MethodName := ⟨R_V, "send", "(IIIII)I"⟩
abbrev c_V_turn : ByteArray := prog_1_method_6_code
def y_V_turn : MethodName := ⟨R_V, "turn", "(I)I"⟩
abbrev c_V_objects : ByteArray := prog_1_method_7_code
def y_V_objects : MethodName := ⟨R_V, "objects", "()I"⟩
abbrev c_V_kind : ByteArray := prog_1_method_8_code
def y_V_kind : MethodName := ⟨R_V, "kind", "(I)I"⟩
abbrev c_V_home : ByteArray := prog_1_method_9_code
def y_V_home : MethodName := ⟨R_V, "home", "(I)I"⟩
abbrev c_V_what : ByteArray := prog_1_method_10_code
def y_V_what : MethodName := ⟨R_V, "what", "(II)I"⟩
abbrev c_V_which : ByteArray := prog_1_method_11_code
def y_V_which : MethodName := ⟨R_V, "which", "(II)I"⟩
abbrev c_V_detail : ByteArray := prog_1_method_12_code
def y_V_detail : MethodName := ⟨R_V, "detail", "(II)I"⟩
abbrev c_V_messages : ByteArray := prog_1_method_13_code
def y_V_messages : MethodName := ⟨R_V, "messages", "()I"⟩
abbrev c_V_place : ByteArray := prog_1_method_14_code
def y_V_place : MethodName := ⟨R_V, "place", "(I)I"⟩
abbrev c_V_result : ByteArray := prog_1_method_15_code
def y_V_result : MethodName := ⟨R_V, "result", "(I)I"⟩
abbrev c_V_value : ByteArray := prog_1_method_16_code
def y_V_value : MethodName := ⟨R_V, "value", "(I)I"⟩
abbrev c_V_queued : ByteArray := prog_1_method_17_code
def y_V_queued : MethodName := ⟨R_V, "queued", "(I)I"⟩
abbrev c_V_next : ByteArray := prog_1_method_18_code
def y_V_next : MethodName := ⟨R_V, "next", "(II)I"⟩
abbrev c_V_waiting : ByteArray := prog_1_method_19_code
def y_V_waiting : MethodName := ⟨R_V, "waiting", "(I)I"⟩
abbrev c_V_notes : ByteArray := prog_1_method_20_code
def y_V_notes : MethodName := ⟨R_V, "notes", "(I)I"⟩
abbrev c_V_isVat : ByteArray := prog_1_method_21_code
def y_V_isVat : MethodName := ⟨R_V, "isVat", "(I)Z"⟩
abbrev c_V_isSlot : ByteArray := prog_1_method_22_code
def y_V_isSlot : MethodName := ⟨R_V, "isSlot", "(I)Z"⟩
abbrev c_V_isSlotOrNone : ByteArray := prog_1_method_23_code
def y_V_isSlotOrNone : MethodName := ⟨R_V, "isSlotOrNone", "(I)Z"⟩
abbrev c_V_thingAt : ByteArray := prog_1_method_24_code
def y_V_thingAt : MethodName := ⟨R_V, "thingAt", "(I)LCapabilityVats$Thing;"⟩
abbrev c_V_cellAt : ByteArray := prog_1_method_25_code
def y_V_cellAt : MethodName := ⟨R_V, "cellAt", "(I)LCapabilityVats$Thing;"⟩
abbrev c_V_messageAt : ByteArray := prog_1_method_26_code
def y_V_messageAt : MethodName := ⟨R_V, "messageAt", "(I)LCapabilityVats$Message;"⟩
abbrev c_V_heldAt : ByteArray := prog_1_method_27_code
def y_V_heldAt : MethodName := ⟨R_V, "heldAt", "(II)LCapabilityVats$Reference;"⟩
abbrev c_V_firstDetail : ByteArray := prog_1_method_28_code
def y_V_firstDetail : MethodName := ⟨R_V, "firstDetail", "(LCapabilityVats$Thing;)I"⟩
abbrev c_V_secondDetail : ByteArray := prog_1_method_29_code
def y_V_secondDetail : MethodName := ⟨R_V, "secondDetail", "(LCapabilityVats$Thing;)I"⟩
abbrev c_V_countsAs : ByteArray := prog_1_method_30_code
def y_V_countsAs : MethodName := ⟨R_V, "countsAs", "(LCapabilityVats$Reference;)LCapabilityVats$Reference;"⟩
abbrev c_V_thingOf : ByteArray := prog_1_method_31_code
def y_V_thingOf : MethodName := ⟨R_V, "thingOf", "(LCapabilityVats$Reference;)LCapabilityVats$Thing;"⟩
abbrev c_V_awaitedBy : ByteArray := prog_1_method_32_code
def y_V_awaitedBy : MethodName := ⟨R_V, "awaitedBy", "(LCapabilityVats$Reference;)LCapabilityVats$Message;"⟩
abbrev c_V_thingOfKind : ByteArray := prog_1_method_33_code
def y_V_thingOfKind : MethodName := ⟨R_V, "thingOfKind", "(ILCapabilityVats$Reference;)LCapabilityVats$Thing;"⟩
abbrev c_V_isNumberUpTo : ByteArray := prog_1_method_34_code
def y_V_isNumberUpTo : MethodName := ⟨R_V, "isNumberUpTo", "(ILCapabilityVats$Reference;)Z"⟩
abbrev c_V_numeral : ByteArray := prog_1_method_35_code
def y_V_numeral : MethodName := ⟨R_V, "numeral", "(I)LCapabilityVats$Reference;"⟩
abbrev c_V_truth : ByteArray := prog_1_method_36_code
def y_V_truth : MethodName := ⟨R_V, "truth", "(Z)LCapabilityVats$Reference;"⟩
abbrev c_V_brokenIfNothing : ByteArray := prog_1_method_37_code
def y_V_brokenIfNothing : MethodName := ⟨R_V, "brokenIfNothing", "(LCapabilityVats$Reference;)LCapabilityVats$Reference;"⟩
abbrev c_V_referenceTo : ByteArray := prog_1_method_38_code
def y_V_referenceTo : MethodName := ⟨R_V, "referenceTo", "(LCapabilityVats$Thing;)LCapabilityVats$Reference;"⟩
abbrev c_V_settle : ByteArray := prog_1_method_39_code
def y_V_settle : MethodName := ⟨R_V, "settle", "(LCapabilityVats$Message;LCapabilityVats$Reference;)V"⟩
abbrev c_V_routeAll : ByteArray := prog_1_method_40_code
def y_V_routeAll : MethodName := ⟨R_V, "routeAll", "()V"⟩
abbrev c_V_route : ByteArray := prog_1_method_41_code
def y_V_route : MethodName := ⟨R_V, "route", "(LCapabilityVats$Message;)V"⟩
abbrev c_V_relays : ByteArray := prog_1_method_42_code
def y_V_relays : MethodName := ⟨R_V, "relays", "(LCapabilityVats$Thing;LCapabilityVats$Message;)Z"⟩
abbrev c_V_relay : ByteArray := prog_1_method_43_code
def y_V_relay : MethodName := ⟨R_V, "relay", "(LCapabilityVats$Thing;LCapabilityVats$Message;)V"⟩
abbrev c_V_wrapAsNoted : ByteArray := prog_1_method_44_code
def y_V_wrapAsNoted : MethodName := ⟨R_V, "wrapAsNoted", "(LCapabilityVats$Reference;LCapabilityVats$Message;)LCapabilityVats$Reference;"⟩
abbrev c_V_wrap : ByteArray := prog_1_method_45_code
def y_V_wrap : MethodName := ⟨R_V, "wrap", "(LCapabilityVats$Reference;LCapabilityVats$Thing;Z)LCapabilityVats$Reference;"⟩
abbrev c_V_findWrapper : ByteArray := prog_1_method_46_code
def y_V_findWrapper : MethodName := ⟨R_V, "findWrapper", "(LCapabilityVats$Reference;LCapabilityVats$Thing;Z)LCapabilityVats$Thing;"⟩
abbrev c_V_makeWrapper : ByteArray := prog_1_method_47_code
def y_V_makeWrapper : MethodName := ⟨R_V, "makeWrapper", "(LCapabilityVats$Reference;LCapabilityVats$Thing;Z)LCapabilityVats$Thing;"⟩
abbrev c_V_answer : ByteArray := prog_1_method_48_code
def y_V_answer : MethodName := ⟨R_V, "answer", "(LCapabilityVats$Thing;LCapabilityVats$Message;)LCapabilityVats$Reference;"⟩
abbrev c_V_answerOfCell : ByteArray := prog_1_method_49_code
def y_V_answerOfCell : MethodName := ⟨R_V, "answerOfCell", "(LCapabilityVats$Thing;ILCapabilityVats$Reference;)LCapabilityVats$Reference;"⟩
abbrev c_V_answerOfRevocable : ByteArray := prog_1_method_50_code
def y_V_answerOfRevocable : MethodName := ⟨R_V, "answerOfRevocable", "(LCapabilityVats$Thing;I)LCapabilityVats$Reference;"⟩
abbrev c_V_answerOfBrand : ByteArray := prog_1_method_51_code
def y_V_answerOfBrand : MethodName := ⟨R_V, "answerOfBrand", "(LCapabilityVats$Thing;I)LCapabilityVats$Reference;"⟩
abbrev c_V_answerOfPurse : ByteArray := prog_1_method_52_code
def y_V_answerOfPurse : MethodName := ⟨R_V, "answerOfPurse", "(LCapabilityVats$Thing;ILCapabilityVats$Reference;)LCapabilityVats$Reference;"⟩
abbrev c_V_deposit : ByteArray := prog_1_method_53_code
def y_V_deposit : MethodName := ⟨R_V, "deposit", "(LCapabilityVats$Thing;LCapabilityVats$Reference;)LCapabilityVats$Reference;"⟩
abbrev c_V_split : ByteArray := prog_1_method_54_code
def y_V_split : MethodName := ⟨R_V, "split", "(LCapabilityVats$Thing;LCapabilityVats$Reference;)LCapabilityVats$Reference;"⟩
abbrev c_V_unseal : ByteArray := prog_1_method_55_code
def y_V_unseal : MethodName := ⟨R_V, "unseal", "(LCapabilityVats$Thing;LCapabilityVats$Reference;)LCapabilityVats$Reference;"⟩
abbrev c_V_make : ByteArray := prog_1_method_56_code
def y_V_make : MethodName := ⟨R_V, "make", "(IILCapabilityVats$Thing;)LCapabilityVats$Thing;"⟩
abbrev c_V_makeGate : ByteArray := prog_1_method_57_code
def y_V_makeGate : MethodName := ⟨R_V, "makeGate", "(LCapabilityVats$Thing;LCapabilityVats$Reference;)LCapabilityVats$Reference;"⟩
abbrev c_V_makeBox : ByteArray := prog_1_method_58_code
def y_V_makeBox : MethodName := ⟨R_V, "makeBox", "(LCapabilityVats$Thing;LCapabilityVats$Reference;)LCapabilityVats$Reference;"⟩
abbrev c_V_makeMoney : ByteArray := prog_1_method_59_code
def y_V_makeMoney : MethodName := ⟨R_V, "makeMoney", "(LCapabilityVats$Thing;LCapabilityVats$Reference;)LCapabilityVats$Reference;"⟩
abbrev c_D_init : ByteArray := prog_7_method_1_code
def y_D_init : MethodName := ⟨R_D, "<init>", "()V"⟩
abbrev c_D_out : ByteArray := prog_7_method_2_code
def y_D_out : MethodName := ⟨R_D, "out", "(II)Z"⟩
abbrev c_D_hold : ByteArray := prog_7_method_3_code
def y_D_hold : MethodName := ⟨R_D, "hold", "(II)V"⟩
abbrev c_D_look : ByteArray := prog_7_method_4_code
def y_D_look : MethodName := ⟨R_D, "look", "(II)V"⟩
abbrev c_D_broken : ByteArray := prog_7_method_5_code
def y_D_broken : MethodName := ⟨R_D, "broken", "()V"⟩
abbrev c_D_isObject : ByteArray := prog_7_method_6_code
def y_D_isObject : MethodName := ⟨R_D, "isObject", "(I)Z"⟩
abbrev c_D_make : ByteArray := prog_7_method_7_code
def y_D_make : MethodName := ⟨R_D, "make", "(III)I"⟩
abbrev c_D_fresh : ByteArray := prog_7_method_8_code
def y_D_fresh : MethodName := ⟨R_D, "fresh", "(III)V"⟩
abbrev c_D_stand : ByteArray := prog_7_method_9_code
def y_D_stand : MethodName := ⟨R_D, "stand", "(III)V"⟩
abbrev c_D_nth : ByteArray := prog_7_method_10_code
def y_D_nth : MethodName := ⟨R_D, "nth", "(III)I"⟩
abbrev c_D_count : ByteArray := prog_7_method_11_code
def y_D_count : MethodName := ⟨R_D, "count", "(II)I"⟩
abbrev c_D_route : ByteArray := prog_7_method_12_code
def y_D_route : MethodName := ⟨R_D, "route", "(I)V"⟩
abbrev c_D_direct : ByteArray := prog_7_method_13_code
def y_D_direct : MethodName := ⟨R_D, "direct", "(I)V"⟩
abbrev c_D_released : ByteArray := prog_7_method_14_code
def y_D_released : MethodName := ⟨R_D, "released", "()I"⟩
abbrev c_D_settle : ByteArray := prog_7_method_15_code
def y_D_settle : MethodName := ⟨R_D, "settle", "(I)V"⟩
abbrev c_D_isSlot : ByteArray := prog_7_method_16_code
def y_D_isSlot : MethodName := ⟨R_D, "isSlot", "(II)Z"⟩
abbrev c_D_cell : ByteArray := prog_7_method_17_code
def y_D_cell : MethodName := ⟨R_D, "cell", "(I)I"⟩
abbrev c_D_number : ByteArray := prog_7_method_18_code
def y_D_number : MethodName := ⟨R_D, "number", "(III)Z"⟩
abbrev c_D_introduce : ByteArray := prog_7_method_19_code
def y_D_introduce : MethodName := ⟨R_D, "introduce", "(III)Z"⟩
abbrev c_D_send : ByteArray := prog_7_method_20_code
def y_D_send : MethodName := ⟨R_D, "send", "(IIIII)I"⟩
abbrev c_D_turn : ByteArray := prog_7_method_21_code
def y_D_turn : MethodName := ⟨R_D, "turn", "(I)I"⟩
abbrev c_D_answers : ByteArray := prog_7_method_22_code
def y_D_answers : MethodName := ⟨R_D, "answers", "(II)Z"⟩
abbrev c_D_ofCell : ByteArray := prog_7_method_23_code
def y_D_ofCell : MethodName := ⟨R_D, "ofCell", "(III)V"⟩
abbrev c_D_ofGuard : ByteArray := prog_7_method_24_code
def y_D_ofGuard : MethodName := ⟨R_D, "ofGuard", "(II)V"⟩
abbrev c_D_ofSealer : ByteArray := prog_7_method_25_code
def y_D_ofSealer : MethodName := ⟨R_D, "ofSealer", "(II)V"⟩
abbrev c_D_ofUnsealer : ByteArray := prog_7_method_26_code
def y_D_ofUnsealer : MethodName := ⟨R_D, "ofUnsealer", "(I)V"⟩
abbrev c_D_ofMint : ByteArray := prog_7_method_27_code
def y_D_ofMint : MethodName := ⟨R_D, "ofMint", "(I)V"⟩
abbrev c_D_ofPurse : ByteArray := prog_7_method_28_code
def y_D_ofPurse : MethodName := ⟨R_D, "ofPurse", "(II)V"⟩
abbrev c_D_relays : ByteArray := prog_7_method_29_code
def y_D_relays : MethodName := ⟨R_D, "relays", "(II)Z"⟩
abbrev c_D_wrap : ByteArray := prog_7_method_30_code
def y_D_wrap : MethodName := ⟨R_D, "wrap", "(II)Z"⟩
abbrev c_D_asNoted : ByteArray := prog_7_method_31_code
def y_D_asNoted : MethodName := ⟨R_D, "asNoted", "(I)V"⟩
abbrev c_D_objects : ByteArray := prog_7_method_32_code
def y_D_objects : MethodName := ⟨R_D, "objects", "()I"⟩
abbrev c_D_kind : ByteArray := prog_7_method_33_code
def y_D_kind : MethodName := ⟨R_D, "kind", "(I)I"⟩
abbrev c_D_home : ByteArray := prog_7_method_34_code
def y_D_home : MethodName := ⟨R_D, "home", "(I)I"⟩
abbrev c_D_seen : ByteArray := prog_7_method_35_code
def y_D_seen : MethodName := ⟨R_D, "seen", "(II)Z"⟩
abbrev c_D_what : ByteArray := prog_7_method_36_code
def y_D_what : MethodName := ⟨R_D, "what", "(II)I"⟩
abbrev c_D_which : ByteArray := prog_7_method_37_code
def y_D_which : MethodName := ⟨R_D, "which", "(II)I"⟩
abbrev c_D_detail : ByteArray := prog_7_method_38_code
def y_D_detail : MethodName := ⟨R_D, "detail", "(II)I"⟩
abbrev c_D_messages : ByteArray := prog_7_method_39_code
def y_D_messages : MethodName := ⟨R_D, "messages", "()I"⟩
abbrev c_D_place : ByteArray := prog_7_method_40_code
def y_D_place : MethodName := ⟨R_D, "place", "(I)I"⟩
abbrev c_D_result : ByteArray := prog_7_method_41_code
def y_D_result : MethodName := ⟨R_D, "result", "(I)I"⟩
abbrev c_D_value : ByteArray := prog_7_method_42_code
def y_D_value : MethodName := ⟨R_D, "value", "(I)I"⟩
abbrev c_D_queued : ByteArray := prog_7_method_43_code
def y_D_queued : MethodName := ⟨R_D, "queued", "(I)I"⟩
abbrev c_D_next : ByteArray := prog_7_method_44_code
def y_D_next : MethodName := ⟨R_D, "next", "(II)I"⟩
abbrev c_D_waiting : ByteArray := prog_7_method_45_code
def y_D_waiting : MethodName := ⟨R_D, "waiting", "(I)I"⟩
abbrev c_D_notes : ByteArray := prog_7_method_46_code
def y_D_notes : MethodName := ⟨R_D, "notes", "(I)I"⟩
abbrev c_L_init : ByteArray := prog_2_method_1_code
def y_L_init : MethodName := ⟨R_L, "<init>", "()V"⟩
abbrev c_L_join : ByteArray := prog_2_method_2_code
def y_L_join : MethodName := ⟨R_L, "join", "(LCapabilityVats$Message;)V"⟩
abbrev c_L_take : ByteArray := prog_2_method_3_code
def y_L_take : MethodName := ⟨R_L, "take", "()LCapabilityVats$Message;"⟩
abbrev c_L_takeOver : ByteArray := prog_2_method_4_code
def y_L_takeOver : MethodName := ⟨R_L, "takeOver", "(LCapabilityVats$Line;)V"⟩
abbrev c_L_withBefore : ByteArray := prog_2_method_5_code
def y_L_withBefore : MethodName := ⟨R_L, "withBefore", "(I)LCapabilityVats$Message;"⟩
abbrev c_M_init : ByteArray := prog_3_method_1_code
def y_M_init : MethodName := ⟨R_M, "<init>", "(ILCapabilityVats$Reference;ILCapabilityVats$Reference;)V"⟩
abbrev c_M_noteDown : ByteArray := prog_3_method_2_code
def y_M_noteDown : MethodName := ⟨R_M, "noteDown", "(LCapabilityVats$Thing;)V"⟩
abbrev c_R_init : ByteArray := prog_4_method_1_code
def y_R_init : MethodName := ⟨R_R, "<init>", "(II)V"⟩
abbrev c_R_isSame : ByteArray := prog_4_method_2_code
def y_R_isSame : MethodName := ⟨R_R, "isSame", "(LCapabilityVats$Reference;)Z"⟩
abbrev c_H_init : ByteArray := prog_5_method_1_code
def y_H_init : MethodName := ⟨R_H, "<init>", "(IIILCapabilityVats$Thing;LCapabilityVats$Reference;)V"⟩
abbrev c_H_holdsOne : ByteArray := prog_5_method_2_code
def y_H_holdsOne : MethodName := ⟨R_H, "holdsOne", "()Z"⟩
abbrev c_H_isCutOff : ByteArray := prog_5_method_3_code
def y_H_isCutOff : MethodName := ⟨R_H, "isCutOff", "()Z"⟩
/-- the words that all contracts stand on -/
def Wall : List Jvm.Cond := lw_tbl.filter goodWord
theorem wall_good : GoodIn Wall Wall := fun w h => ⟨h, good_of_word (List.mem_filter.mp h).2⟩
theorem in_wall {w : Jvm.Cond} (h : w ∈ tables_1) (g : goodWord w = true) : w ∈ Wall := List.mem_filter.mpr ⟨List.mem_append_right _ h, g⟩
abbrev fw_N1 : Jvm.Cond := .methodLinkNest "CapabilityVats" 46 ⟨"CapabilityVats$Line", "<init>", "()V"⟩ "CapabilityVats"
abbrev fw_N2 : Jvm.Cond := .methodLinkNest "CapabilityVats$Message" 11 ⟨"CapabilityVats$Line", "<init>", "()V"⟩ "CapabilityVats"
abbrev fw_AL : List String := [R_R, R_H, R_M, R_L]
theorem lay_V : ∀ w ∈ u_ws R_V F_V 8, w ∈ Wall := by
  intro w hw
  obtain ⟨k, hk, rfl⟩ := List.mem_map.mp hw
  have hk : k < 8 := List.mem_range.mp hk
  have key : ∀ k, k < 8 → u_lay R_V F_V k ∈ tables_1 ∧ goodWord (u_lay R_V F_V k) = true := by decide +kernel
  exact in_wall (key k hk).1 (key k hk).2
theorem lay_R : ∀ w ∈ u_ws R_R F_R 2, w ∈ Wall := by
  intro w hw
  obtain ⟨k, hk, rfl⟩ := List.mem_map.mp hw
  have hk : k < 2 := List.mem_range.mp hk
  have key : ∀ k, k < 2 → u_lay R_R F_R k ∈ tables_1 ∧ goodWord (u_lay R_R F_R k) = true := by decide +kernel
  exact in_wall (key k hk).1 (key k hk).2
theorem lay_H : ∀ w ∈ u_ws R_H F_H 11, w ∈ Wall := by
  intro w hw
  obtain ⟨k, hk, rfl⟩ := List.mem_map.mp hw
  have hk : k < 11 := List.mem_range.mp hk
  have key : ∀ k, k < 11 → u_lay R_H F_H k ∈ tables_1 ∧ goodWord (u_lay R_H F_H k) = true := by decide +kernel
  exact in_wall (key k hk).1 (key k hk).2
theorem lay_M : ∀ w ∈ u_ws R_M F_M 11, w ∈ Wall := by
  intro w hw
  obtain ⟨k, hk, rfl⟩ := List.mem_map.mp hw
  have hk : k < 11 := List.mem_range.mp hk
  have key : ∀ k, k < 11 → u_lay R_M F_M k ∈ tables_1 ∧ goodWord (u_lay R_M F_M k) = true := by decide +kernel
  exact in_wall (key k hk).1 (key k hk).2
theorem lay_L : ∀ w ∈ u_ws R_L F_L 3, w ∈ Wall := by
  intro w hw
  obtain ⟨k, hk, rfl⟩ := List.mem_map.mp hw
  have hk : k < 3 := List.mem_range.mp hk
  have key : ∀ k, k < 3 → u_lay R_L F_L k ∈ tables_1 ∧ goodWord (u_lay R_L F_L k) = true := by decide +kernel
  exact in_wall (key k hk).1 (key k hk).2
theorem lay_D : ∀ w ∈ u_ws R_D F_D 29, w ∈ Wall := by
  intro w hw
  obtain ⟨k, hk, rfl⟩ := List.mem_map.mp hw
  have hk : k < 29 := List.mem_range.mp hk
  have key : ∀ k, k < 29 → u_lay R_D F_D k ∈ tables_1 ∧ goodWord (u_lay R_D F_D k) = true := by decide +kernel
  exact in_wall (key k hk).1 (key k hk).2
end
section
set_option maxRecDepth 20000 in
theorem wc_V_init : Jvm.Cond.code y_V_init c_V_init 2 (Option.none : Option Jvm.ClassFile.FieldType) ∈ Wall := in_wall (List.mem_of_getElem? (i := 11) rfl) rfl
set_option maxRecDepth 20000 in
theorem wc_V_cell : Jvm.Cond.code y_V_cell c_V_cell 3 (Option.some Jvm.ClassFile.FieldType.int) ∈ Wall := in_wall (List.mem_of_getElem? (i := 80) rfl) rfl
set_option maxRecDepth 20000 in
theorem wc_V_number : Jvm.Cond.code y_V_number c_V_number 5 (Option.some Jvm.ClassFile.FieldType.boolean) ∈ Wall := in_wall (List.mem_of_getElem? (i := 141) rfl) rfl
set_option maxRecDepth 20000 in
theorem wc_V_introduce : Jvm.Cond.code y_V_introduce c_V_introduce 6 (Option.some Jvm.ClassFile.FieldType.boolean) ∈ Wall := in_wall (List.mem_of_getElem? (i := 159) rfl) rfl
set_option maxRecDepth 20000 in
theorem wc_V_send : Jvm.Cond.code y_V_send c_V_send 9 (Option.some Jvm.ClassFile.FieldType.int) ∈ Wall := in_wall (List.mem_of_getElem? (i := 163) rfl) rfl
set_option maxRecDepth 20000 in
theorem wc_V_turn : Jvm.Cond.code y_V_turn c_V_turn 4 (Option.some Jvm.ClassFile.FieldType.int) ∈ Wall := in_wall (List.mem_of_getElem? (i := 268) rfl) rfl
set_option maxRecDepth 20000 in
theorem wc_V_objects : Jvm.Cond.code y_V_objects c_V_objects 1 (Option.some Jvm.ClassFile.FieldType.int) ∈ Wall := in_wall (List.mem_of_getElem? (i := 367) rfl) rfl
set_option maxRecDepth 20000 in
theorem wc_V_kind : Jvm.Cond.code y_V_kind c_V_kind 3 (Option.some Jvm.ClassFile.FieldType.int) ∈ Wall := in_wall (List.mem_of_getElem? (i := 371) rfl) rfl
set_option maxRecDepth 20000 in
theorem wc_V_home : Jvm.Cond.code y_V_home c_V_home 3 (Option.some Jvm.ClassFile.FieldType.int) ∈ Wall := in_wall (List.mem_of_getElem? (i := 375) rfl) rfl
set_option maxRecDepth 20000 in
theorem wc_V_what : Jvm.Cond.code y_V_what c_V_what 4 (Option.some Jvm.ClassFile.FieldType.int) ∈ Wall := in_wall (List.mem_of_getElem? (i := 379) rfl) rfl
set_option maxRecDepth 20000 in
theorem wc_V_which : Jvm.Cond.code y_V_which c_V_which 4 (Option.some Jvm.ClassFile.FieldType.int) ∈ Wall := in_wall (List.mem_of_getElem? (i := 391) rfl) rfl
set_option maxRecDepth 20000 in
theorem wc_V_detail : Jvm.Cond.code y_V_detail c_V_detail 4 (Option.some Jvm.ClassFile.FieldType.int) ∈ Wall := in_wall (List.mem_of_getElem? (i := 395) rfl) rfl
set_option maxRecDepth 20000 in
theorem wc_V_messages : Jvm.Cond.code y_V_messages c_V_messages 1 (Option.some Jvm.ClassFile.FieldType.int) ∈ Wall := in_wall (List.mem_of_getElem? (i := 405) rfl) rfl
set_option maxRecDepth 20000 in
theorem wc_V_place : Jvm.Cond.code y_V_place c_V_place 3 (Option.some Jvm.ClassFile.FieldType.int) ∈ Wall := in_wall (List.mem_of_getElem? (i := 409) rfl) rfl
set_option maxRecDepth 20000 in
theorem wc_V_result : Jvm.Cond.code y_V_result c_V_result 3 (Option.some Jvm.ClassFile.FieldType.int) ∈ Wall := in_wall (List.mem_of_getElem? (i := 413) rfl) rfl
set_option maxRecDepth 20000 in
theorem wc_V_value : Jvm.Cond.code y_V_value c_V_value 3 (Option.some Jvm.ClassFile.FieldType.int) ∈ Wall := in_wall (List.mem_of_getElem? (i := 417) rfl) rfl
set_option maxRecDepth 20000 in
theorem wc_V_queued : Jvm.Cond.code y_V_queued c_V_queued 2 (Option.some Jvm.ClassFile.FieldType.int) ∈ Wall := in_wall (List.mem_of_getElem? (i := 421) rfl) rfl
set_option maxRecDepth 20000 in
theorem wc_V_next : Jvm.Cond.code y_V_next c_V_next 4 (Option.some Jvm.ClassFile.FieldType.int) ∈ Wall := in_wall (List.mem_of_getElem? (i := 425) rfl) rfl
set_option maxRecDepth 20000 in
theorem wc_V_waiting : Jvm.Cond.code y_V_waiting c_V_waiting 3 (Option.some Jvm.ClassFile.FieldType.int) ∈ Wall := in_wall (List.mem_of_getElem? (i := 433) rfl) rfl
set_option maxRecDepth 20000 in
theorem wc_V_notes : Jvm.Cond.code y_V_notes c_V_notes 3 (Option.some Jvm.ClassFile.FieldType.int) ∈ Wall := in_wall (List.mem_of_getElem? (i := 437) rfl) rfl
set_option maxRecDepth 20000 in
theorem wc_V_isVat : Jvm.Cond.code y_V_isVat c_V_isVat 1 (Option.some Jvm.ClassFile.FieldType.boolean) ∈ Wall := in_wall (List.mem_of_getElem? (i := 83) rfl) rfl
set_option maxRecDepth 20000 in
theorem wc_V_isSlot : Jvm.Cond.code y_V_isSlot c_V_isSlot 1 (Option.some Jvm.ClassFile.FieldType.boolean) ∈ Wall := in_wall (List.mem_of_getElem? (i := 152) rfl) rfl
set_option maxRecDepth 20000 in
theorem wc_V_isSlotOrNone : Jvm.Cond.code y_V_isSlotOrNone c_V_isSlotOrNone 1 (Option.some Jvm.ClassFile.FieldType.boolean) ∈ Wall := in_wall (List.mem_of_getElem? (i := 166) rfl) rfl
set_option maxRecDepth 20000 in
theorem wc_V_thingAt : Jvm.Cond.code y_V_thingAt c_V_thingAt 2 (Option.some (Jvm.ClassFile.FieldType.object "CapabilityVats$Thing")) ∈ Wall := in_wall (List.mem_of_getElem? (i := 149) rfl) rfl
set_option maxRecDepth 20000 in
theorem wc_V_cellAt : Jvm.Cond.code y_V_cellAt c_V_cellAt 3 (Option.some (Jvm.ClassFile.FieldType.object "CapabilityVats$Thing")) ∈ Wall := in_wall (List.mem_of_getElem? (i := 145) rfl) rfl
set_option maxRecDepth 20000 in
theorem wc_V_messageAt : Jvm.Cond.code y_V_messageAt c_V_messageAt 2 (Option.some (Jvm.ClassFile.FieldType.object "CapabilityVats$Message")) ∈ Wall := in_wall (List.mem_of_getElem? (i := 246) rfl) rfl
set_option maxRecDepth 20000 in
theorem wc_V_heldAt : Jvm.Cond.code y_V_heldAt c_V_heldAt 4 (Option.some (Jvm.ClassFile.FieldType.object "CapabilityVats$Reference")) ∈ Wall := in_wall (List.mem_of_getElem? (i := 383) rfl) rfl
set_option maxRecDepth 20000 in
theorem wc_V_firstDetail : Jvm.Cond.code y_V_firstDetail c_V_firstDetail 1 (Option.some Jvm.ClassFile.FieldType.int) ∈ Wall := in_wall (List.mem_of_getElem? (i := 398) rfl) rfl
set_option maxRecDepth 20000 in
theorem wc_V_secondDetail : Jvm.Cond.code y_V_secondDetail c_V_secondDetail 1 (Option.some Jvm.ClassFile.FieldType.int) ∈ Wall := in_wall (List.mem_of_getElem? (i := 401) rfl) rfl
set_option maxRecDepth 20000 in
theorem wc_V_countsAs : Jvm.Cond.code y_V_countsAs c_V_countsAs 5 (Option.some (Jvm.ClassFile.FieldType.object "CapabilityVats$Reference")) ∈ Wall := in_wall (List.mem_of_getElem? (i := 242) rfl) rfl
set_option maxRecDepth 20000 in
theorem wc_V_thingOf : Jvm.Cond.code y_V_thingOf c_V_thingOf 3 (Option.some (Jvm.ClassFile.FieldType.object "CapabilityVats$Thing")) ∈ Wall := in_wall (List.mem_of_getElem? (i := 238) rfl) rfl
set_option maxRecDepth 20000 in
theorem wc_V_awaitedBy : Jvm.Cond.code y_V_awaitedBy c_V_awaitedBy 3 (Option.some (Jvm.ClassFile.FieldType.object "CapabilityVats$Message")) ∈ Wall := in_wall (List.mem_of_getElem? (i := 250) rfl) rfl
set_option maxRecDepth 20000 in
theorem wc_V_thingOfKind : Jvm.Cond.code y_V_thingOfKind c_V_thingOfKind 4 (Option.some (Jvm.ClassFile.FieldType.object "CapabilityVats$Thing")) ∈ Wall := in_wall (List.mem_of_getElem? (i := 287) rfl) rfl
set_option maxRecDepth 20000 in
theorem wc_V_isNumberUpTo : Jvm.Cond.code y_V_isNumberUpTo c_V_isNumberUpTo 4 (Option.some Jvm.ClassFile.FieldType.boolean) ∈ Wall := in_wall (List.mem_of_getElem? (i := 347) rfl) rfl
set_option maxRecDepth 20000 in
theorem wc_V_numeral : Jvm.Cond.code y_V_numeral c_V_numeral 1 (Option.some (Jvm.ClassFile.FieldType.object "CapabilityVats$Reference")) ∈ Wall := in_wall (List.mem_of_getElem? (i := 155) rfl) rfl
set_option maxRecDepth 20000 in
theorem wc_V_truth : Jvm.Cond.code y_V_truth c_V_truth 1 (Option.some (Jvm.ClassFile.FieldType.object "CapabilityVats$Reference")) ∈ Wall := in_wall (List.mem_of_getElem? (i := 326) rfl) rfl
set_option maxRecDepth 20000 in
theorem wc_V_brokenIfNothing : Jvm.Cond.code y_V_brokenIfNothing c_V_brokenIfNothing 2 (Option.some (Jvm.ClassFile.FieldType.object "CapabilityVats$Reference")) ∈ Wall := in_wall (List.mem_of_getElem? (i := 258) rfl) rfl
set_option maxRecDepth 20000 in
theorem wc_V_referenceTo : Jvm.Cond.code y_V_referenceTo c_V_referenceTo 2 (Option.some (Jvm.ClassFile.FieldType.object "CapabilityVats$Reference")) ∈ Wall := in_wall (List.mem_of_getElem? (i := 303) rfl) rfl
set_option maxRecDepth 20000 in
theorem wc_V_settle : Jvm.Cond.code y_V_settle c_V_settle 3 (Option.none : Option Jvm.ClassFile.FieldType) ∈ Wall := in_wall (List.mem_of_getElem? (i := 254) rfl) rfl
set_option maxRecDepth 20000 in
theorem wc_V_routeAll : Jvm.Cond.code y_V_routeAll c_V_routeAll 3 (Option.none : Option Jvm.ClassFile.FieldType) ∈ Wall := in_wall (List.mem_of_getElem? (i := 226) rfl) rfl
set_option maxRecDepth 20000 in
theorem wc_V_route : Jvm.Cond.code y_V_route c_V_route 4 (Option.none : Option Jvm.ClassFile.FieldType) ∈ Wall := in_wall (List.mem_of_getElem? (i := 234) rfl) rfl
set_option maxRecDepth 20000 in
theorem wc_V_relays : Jvm.Cond.code y_V_relays c_V_relays 2 (Option.some Jvm.ClassFile.FieldType.boolean) ∈ Wall := in_wall (List.mem_of_getElem? (i := 271) rfl) rfl
set_option maxRecDepth 20000 in
theorem wc_V_relay : Jvm.Cond.code y_V_relay c_V_relay 3 (Option.none : Option Jvm.ClassFile.FieldType) ∈ Wall := in_wall (List.mem_of_getElem? (i := 279) rfl) rfl
set_option maxRecDepth 20000 in
theorem wc_V_wrapAsNoted : Jvm.Cond.code y_V_wrapAsNoted c_V_wrapAsNoted 7 (Option.some (Jvm.ClassFile.FieldType.object "CapabilityVats$Reference")) ∈ Wall := in_wall (List.mem_of_getElem? (i := 363) rfl) rfl
set_option maxRecDepth 20000 in
theorem wc_V_wrap : Jvm.Cond.code y_V_wrap c_V_wrap 7 (Option.some (Jvm.ClassFile.FieldType.object "CapabilityVats$Reference")) ∈ Wall := in_wall (List.mem_of_getElem? (i := 283) rfl) rfl
set_option maxRecDepth 20000 in
theorem wc_V_findWrapper : Jvm.Cond.code y_V_findWrapper c_V_findWrapper 7 (Option.some (Jvm.ClassFile.FieldType.object "CapabilityVats$Thing")) ∈ Wall := in_wall (List.mem_of_getElem? (i := 291) rfl) rfl
set_option maxRecDepth 20000 in
theorem wc_V_makeWrapper : Jvm.Cond.code y_V_makeWrapper c_V_makeWrapper 5 (Option.some (Jvm.ClassFile.FieldType.object "CapabilityVats$Thing")) ∈ Wall := in_wall (List.mem_of_getElem? (i := 299) rfl) rfl
set_option maxRecDepth 20000 in
theorem wc_V_answer : Jvm.Cond.code y_V_answer c_V_answer 5 (Option.some (Jvm.ClassFile.FieldType.object "CapabilityVats$Reference")) ∈ Wall := in_wall (List.mem_of_getElem? (i := 311) rfl) rfl
set_option maxRecDepth 20000 in
theorem wc_V_answerOfCell : Jvm.Cond.code y_V_answerOfCell c_V_answerOfCell 4 (Option.some (Jvm.ClassFile.FieldType.object "CapabilityVats$Reference")) ∈ Wall := in_wall (List.mem_of_getElem? (i := 315) rfl) rfl
set_option maxRecDepth 20000 in
theorem wc_V_answerOfRevocable : Jvm.Cond.code y_V_answerOfRevocable c_V_answerOfRevocable 3 (Option.some (Jvm.ClassFile.FieldType.object "CapabilityVats$Reference")) ∈ Wall := in_wall (List.mem_of_getElem? (i := 323) rfl) rfl
set_option maxRecDepth 20000 in
theorem wc_V_answerOfBrand : Jvm.Cond.code y_V_answerOfBrand c_V_answerOfBrand 3 (Option.some (Jvm.ClassFile.FieldType.object "CapabilityVats$Reference")) ∈ Wall := in_wall (List.mem_of_getElem? (i := 330) rfl) rfl
set_option maxRecDepth 20000 in
theorem wc_V_answerOfPurse : Jvm.Cond.code y_V_answerOfPurse c_V_answerOfPurse 4 (Option.some (Jvm.ClassFile.FieldType.object "CapabilityVats$Reference")) ∈ Wall := in_wall (List.mem_of_getElem? (i := 351) rfl) rfl
set_option maxRecDepth 20000 in
theorem wc_V_deposit : Jvm.Cond.code y_V_deposit c_V_deposit 5 (Option.some (Jvm.ClassFile.FieldType.object "CapabilityVats$Reference")) ∈ Wall := in_wall (List.mem_of_getElem? (i := 355) rfl) rfl
set_option maxRecDepth 20000 in
theorem wc_V_split : Jvm.Cond.code y_V_split c_V_split 4 (Option.some (Jvm.ClassFile.FieldType.object "CapabilityVats$Reference")) ∈ Wall := in_wall (List.mem_of_getElem? (i := 359) rfl) rfl
set_option maxRecDepth 20000 in
theorem wc_V_unseal : Jvm.Cond.code y_V_unseal c_V_unseal 4 (Option.some (Jvm.ClassFile.FieldType.object "CapabilityVats$Reference")) ∈ Wall := in_wall (List.mem_of_getElem? (i := 338) rfl) rfl
set_option maxRecDepth 20000 in
theorem wc_V_make : Jvm.Cond.code y_V_make c_V_make 5 (Option.some (Jvm.ClassFile.FieldType.object "CapabilityVats$Thing")) ∈ Wall := in_wall (List.mem_of_getElem? (i := 87) rfl) rfl
set_option maxRecDepth 20000 in
theorem wc_V_makeGate : Jvm.Cond.code y_V_makeGate c_V_makeGate 5 (Option.some (Jvm.ClassFile.FieldType.object "CapabilityVats$Reference")) ∈ Wall := in_wall (List.mem_of_getElem? (i := 319) rfl) rfl
set_option maxRecDepth 20000 in
theorem wc_V_makeBox : Jvm.Cond.code y_V_makeBox c_V_makeBox 4 (Option.some (Jvm.ClassFile.FieldType.object "CapabilityVats$Reference")) ∈ Wall := in_wall (List.mem_of_getElem? (i := 334) rfl) rfl
set_option maxRecDepth 20000 in
theorem wc_V_makeMoney : Jvm.Cond.code y_V_makeMoney c_V_makeMoney 4 (Option.some (Jvm.ClassFile.FieldType.object "CapabilityVats$Reference")) ∈ Wall := in_wall (List.mem_of_getElem? (i := 342) rfl) rfl
set_option maxRecDepth 20000 in
theorem wc_D_init : Jvm.Cond.code y_D_init c_D_init 1 (Option.none : Option Jvm.ClassFile.FieldType) ∈ Wall := in_wall (List.mem_of_getElem? (i := 442) rfl) rfl
set_option maxRecDepth 20000 in
theorem wc_D_out : Jvm.Cond.code y_D_out c_D_out 2 (Option.some Jvm.ClassFile.FieldType.boolean) ∈ Wall := in_wall (List.mem_of_getElem? (i := 540) rfl) rfl
set_option maxRecDepth 20000 in
theorem wc_D_hold : Jvm.Cond.code y_D_hold c_D_hold 3 (Option.none : Option Jvm.ClassFile.FieldType) ∈ Wall := in_wall (List.mem_of_getElem? (i := 576) rfl) rfl
set_option maxRecDepth 20000 in
theorem wc_D_look : Jvm.Cond.code y_D_look c_D_look 3 (Option.none : Option Jvm.ClassFile.FieldType) ∈ Wall := in_wall (List.mem_of_getElem? (i := 572) rfl) rfl
set_option maxRecDepth 20000 in
theorem wc_D_broken : Jvm.Cond.code y_D_broken c_D_broken 1 (Option.none : Option Jvm.ClassFile.FieldType) ∈ Wall := in_wall (List.mem_of_getElem? (i := 584) rfl) rfl
set_option maxRecDepth 20000 in
theorem wc_D_isObject : Jvm.Cond.code y_D_isObject c_D_isObject 2 (Option.some Jvm.ClassFile.FieldType.boolean) ∈ Wall := in_wall (List.mem_of_getElem? (i := 636) rfl) rfl
set_option maxRecDepth 20000 in
theorem wc_D_make : Jvm.Cond.code y_D_make c_D_make 6 (Option.some Jvm.ClassFile.FieldType.int) ∈ Wall := in_wall (List.mem_of_getElem? (i := 544) rfl) rfl
set_option maxRecDepth 20000 in
theorem wc_D_fresh : Jvm.Cond.code y_D_fresh c_D_fresh 4 (Option.none : Option Jvm.ClassFile.FieldType) ∈ Wall := in_wall (List.mem_of_getElem? (i := 616) rfl) rfl
set_option maxRecDepth 20000 in
theorem wc_D_stand : Jvm.Cond.code y_D_stand c_D_stand 4 (Option.none : Option Jvm.ClassFile.FieldType) ∈ Wall := in_wall (List.mem_of_getElem? (i := 580) rfl) rfl
set_option maxRecDepth 20000 in
theorem wc_D_nth : Jvm.Cond.code y_D_nth c_D_nth 9 (Option.some Jvm.ClassFile.FieldType.int) ∈ Wall := in_wall (List.mem_of_getElem? (i := 600) rfl) rfl
set_option maxRecDepth 20000 in
theorem wc_D_count : Jvm.Cond.code y_D_count c_D_count 5 (Option.some Jvm.ClassFile.FieldType.int) ∈ Wall := in_wall (List.mem_of_getElem? (i := 701) rfl) rfl
set_option maxRecDepth 20000 in
theorem wc_D_route : Jvm.Cond.code y_D_route c_D_route 3 (Option.none : Option Jvm.ClassFile.FieldType) ∈ Wall := in_wall (List.mem_of_getElem? (i := 564) rfl) rfl
set_option maxRecDepth 20000 in
theorem wc_D_direct : Jvm.Cond.code y_D_direct c_D_direct 2 (Option.none : Option Jvm.ClassFile.FieldType) ∈ Wall := in_wall (List.mem_of_getElem? (i := 568) rfl) rfl
set_option maxRecDepth 20000 in
theorem wc_D_released : Jvm.Cond.code y_D_released c_D_released 4 (Option.some Jvm.ClassFile.FieldType.int) ∈ Wall := in_wall (List.mem_of_getElem? (i := 592) rfl) rfl
set_option maxRecDepth 20000 in
theorem wc_D_settle : Jvm.Cond.code y_D_settle c_D_settle 5 (Option.none : Option Jvm.ClassFile.FieldType) ∈ Wall := in_wall (List.mem_of_getElem? (i := 588) rfl) rfl
set_option maxRecDepth 20000 in
theorem wc_D_isSlot : Jvm.Cond.code y_D_isSlot c_D_isSlot 3 (Option.some Jvm.ClassFile.FieldType.boolean) ∈ Wall := in_wall (List.mem_of_getElem? (i := 552) rfl) rfl
set_option maxRecDepth 20000 in
theorem wc_D_cell : Jvm.Cond.code y_D_cell c_D_cell 2 (Option.some Jvm.ClassFile.FieldType.int) ∈ Wall := in_wall (List.mem_of_getElem? (i := 537) rfl) rfl
set_option maxRecDepth 20000 in
theorem wc_D_number : Jvm.Cond.code y_D_number c_D_number 4 (Option.some Jvm.ClassFile.FieldType.boolean) ∈ Wall := in_wall (List.mem_of_getElem? (i := 548) rfl) rfl
set_option maxRecDepth 20000 in
theorem wc_D_introduce : Jvm.Cond.code y_D_introduce c_D_introduce 4 (Option.some Jvm.ClassFile.FieldType.boolean) ∈ Wall := in_wall (List.mem_of_getElem? (i := 556) rfl) rfl
set_option maxRecDepth 20000 in
theorem wc_D_send : Jvm.Cond.code y_D_send c_D_send 7 (Option.some Jvm.ClassFile.FieldType.int) ∈ Wall := in_wall (List.mem_of_getElem? (i := 560) rfl) rfl
set_option maxRecDepth 20000 in
theorem wc_D_turn : Jvm.Cond.code y_D_turn c_D_turn 4 (Option.some Jvm.ClassFile.FieldType.int) ∈ Wall := in_wall (List.mem_of_getElem? (i := 596) rfl) rfl
set_option maxRecDepth 20000 in
theorem wc_D_answers : Jvm.Cond.code y_D_answers c_D_answers 5 (Option.some Jvm.ClassFile.FieldType.boolean) ∈ Wall := in_wall (List.mem_of_getElem? (i := 604) rfl) rfl
set_option maxRecDepth 20000 in
theorem wc_D_ofCell : Jvm.Cond.code y_D_ofCell c_D_ofCell 7 (Option.none : Option Jvm.ClassFile.FieldType) ∈ Wall := in_wall (List.mem_of_getElem? (i := 620) rfl) rfl
set_option maxRecDepth 20000 in
theorem wc_D_ofGuard : Jvm.Cond.code y_D_ofGuard c_D_ofGuard 3 (Option.none : Option Jvm.ClassFile.FieldType) ∈ Wall := in_wall (List.mem_of_getElem? (i := 624) rfl) rfl
set_option maxRecDepth 20000 in
theorem wc_D_ofSealer : Jvm.Cond.code y_D_ofSealer c_D_ofSealer 3 (Option.none : Option Jvm.ClassFile.FieldType) ∈ Wall := in_wall (List.mem_of_getElem? (i := 628) rfl) rfl
set_option maxRecDepth 20000 in
theorem wc_D_ofUnsealer : Jvm.Cond.code y_D_ofUnsealer c_D_ofUnsealer 3 (Option.none : Option Jvm.ClassFile.FieldType) ∈ Wall := in_wall (List.mem_of_getElem? (i := 632) rfl) rfl
set_option maxRecDepth 20000 in
theorem wc_D_ofMint : Jvm.Cond.code y_D_ofMint c_D_ofMint 3 (Option.none : Option Jvm.ClassFile.FieldType) ∈ Wall := in_wall (List.mem_of_getElem? (i := 640) rfl) rfl
set_option maxRecDepth 20000 in
theorem wc_D_ofPurse : Jvm.Cond.code y_D_ofPurse c_D_ofPurse 6 (Option.none : Option Jvm.ClassFile.FieldType) ∈ Wall := in_wall (List.mem_of_getElem? (i := 645) rfl) rfl
set_option maxRecDepth 20000 in
theorem wc_D_relays : Jvm.Cond.code y_D_relays c_D_relays 5 (Option.some Jvm.ClassFile.FieldType.boolean) ∈ Wall := in_wall (List.mem_of_getElem? (i := 608) rfl) rfl
set_option maxRecDepth 20000 in
theorem wc_D_wrap : Jvm.Cond.code y_D_wrap c_D_wrap 6 (Option.some Jvm.ClassFile.FieldType.boolean) ∈ Wall := in_wall (List.mem_of_getElem? (i := 612) rfl) rfl
set_option maxRecDepth 20000 in
theorem wc_D_asNoted : Jvm.Cond.code y_D_asNoted c_D_asNoted 6 (Option.none : Option Jvm.ClassFile.FieldType) ∈ Wall := in_wall (List.mem_of_getElem? (i := 649) rfl) rfl
set_option maxRecDepth 20000 in
theorem wc_D_objects : Jvm.Cond.code y_D_objects c_D_objects 1 (Option.some Jvm.ClassFile.FieldType.int) ∈ Wall := in_wall (List.mem_of_getElem? (i := 653) rfl) rfl
set_option maxRecDepth 20000 in
theorem wc_D_kind : Jvm.Cond.code y_D_kind c_D_kind 2 (Option.some Jvm.ClassFile.FieldType.int) ∈ Wall := in_wall (List.mem_of_getElem? (i := 657) rfl) rfl
set_option maxRecDepth 20000 in
theorem wc_D_home : Jvm.Cond.code y_D_home c_D_home 2 (Option.some Jvm.ClassFile.FieldType.int) ∈ Wall := in_wall (List.mem_of_getElem? (i := 661) rfl) rfl
set_option maxRecDepth 20000 in
theorem wc_D_seen : Jvm.Cond.code y_D_seen c_D_seen 4 (Option.some Jvm.ClassFile.FieldType.boolean) ∈ Wall := in_wall (List.mem_of_getElem? (i := 669) rfl) rfl
set_option maxRecDepth 20000 in
theorem wc_D_what : Jvm.Cond.code y_D_what c_D_what 3 (Option.some Jvm.ClassFile.FieldType.int) ∈ Wall := in_wall (List.mem_of_getElem? (i := 665) rfl) rfl
set_option maxRecDepth 20000 in
theorem wc_D_which : Jvm.Cond.code y_D_which c_D_which 3 (Option.some Jvm.ClassFile.FieldType.int) ∈ Wall := in_wall (List.mem_of_getElem? (i := 673) rfl) rfl
set_option maxRecDepth 20000 in
theorem wc_D_detail : Jvm.Cond.code y_D_detail c_D_detail 4 (Option.some Jvm.ClassFile.FieldType.int) ∈ Wall := in_wall (List.mem_of_getElem? (i := 677) rfl) rfl
set_option maxRecDepth 20000 in
theorem wc_D_messages : Jvm.Cond.code y_D_messages c_D_messages 1 (Option.some Jvm.ClassFile.FieldType.int) ∈ Wall := in_wall (List.mem_of_getElem? (i := 681) rfl) rfl
set_option maxRecDepth 20000 in
theorem wc_D_place : Jvm.Cond.code y_D_place c_D_place 2 (Option.some Jvm.ClassFile.FieldType.int) ∈ Wall := in_wall (List.mem_of_getElem? (i := 685) rfl) rfl
set_option maxRecDepth 20000 in
theorem wc_D_result : Jvm.Cond.code y_D_result c_D_result 2 (Option.some Jvm.ClassFile.FieldType.int) ∈ Wall := in_wall (List.mem_of_getElem? (i := 689) rfl) rfl
set_option maxRecDepth 20000 in
theorem wc_D_value : Jvm.Cond.code y_D_value c_D_value 2 (Option.some Jvm.ClassFile.FieldType.int) ∈ Wall := in_wall (List.mem_of_getElem? (i := 693) rfl) rfl
set_option maxRecDepth 20000 in
theorem wc_D_queued : Jvm.Cond.code y_D_queued c_D_queued 2 (Option.some Jvm.ClassFile.FieldType.int) ∈ Wall := in_wall (List.mem_of_getElem? (i := 697) rfl) rfl
set_option maxRecDepth 20000 in
theorem wc_D_next : Jvm.Cond.code y_D_next c_D_next 4 (Option.some Jvm.ClassFile.FieldType.int) ∈ Wall := in_wall (List.mem_of_getElem? (i := 705) rfl) rfl
set_option maxRecDepth 20000 in
theorem wc_D_waiting : Jvm.Cond.code y_D_waiting c_D_waiting 2 (Option.some Jvm.ClassFile.FieldType.int) ∈ Wall := in_wall (List.mem_of_getElem? (i := 709) rfl) rfl
set_option maxRecDepth 20000 in
theorem wc_D_notes : Jvm.Cond.code y_D_notes c_D_notes 2 (Option.some Jvm.ClassFile.FieldType.int) ∈ Wall := in_wall (List.mem_of_getElem? (i := 713) rfl) rfl
set_option maxRecDepth 20000 in
theorem wc_L_init : Jvm.Cond.code y_L_init c_L_init 1 (Option.none : Option Jvm.ClassFile.FieldType) ∈ Wall := in_wall (List.mem_of_getElem? (i := 39) rfl) rfl
set_option maxRecDepth 20000 in
theorem wc_L_join : Jvm.Cond.code y_L_join c_L_join 2 (Option.none : Option Jvm.ClassFile.FieldType) ∈ Wall := in_wall (List.mem_of_getElem? (i := 222) rfl) rfl
set_option maxRecDepth 20000 in
theorem wc_L_take : Jvm.Cond.code y_L_take c_L_take 2 (Option.some (Jvm.ClassFile.FieldType.object "CapabilityVats$Message")) ∈ Wall := in_wall (List.mem_of_getElem? (i := 230) rfl) rfl
set_option maxRecDepth 20000 in
theorem wc_L_takeOver : Jvm.Cond.code y_L_takeOver c_L_takeOver 4 (Option.none : Option Jvm.ClassFile.FieldType) ∈ Wall := in_wall (List.mem_of_getElem? (i := 262) rfl) rfl
set_option maxRecDepth 20000 in
theorem wc_L_withBefore : Jvm.Cond.code y_L_withBefore c_L_withBefore 4 (Option.some (Jvm.ClassFile.FieldType.object "CapabilityVats$Message")) ∈ Wall := in_wall (List.mem_of_getElem? (i := 429) rfl) rfl
set_option maxRecDepth 20000 in
theorem wc_M_init : Jvm.Cond.code y_M_init c_M_init 5 (Option.none : Option Jvm.ClassFile.FieldType) ∈ Wall := in_wall (List.mem_of_getElem? (i := 170) rfl) rfl
set_option maxRecDepth 20000 in
theorem wc_M_noteDown : Jvm.Cond.code y_M_noteDown c_M_noteDown 2 (Option.none : Option Jvm.ClassFile.FieldType) ∈ Wall := in_wall (List.mem_of_getElem? (i := 307) rfl) rfl
set_option maxRecDepth 20000 in
theorem wc_R_init : Jvm.Cond.code y_R_init c_R_init 3 (Option.none : Option Jvm.ClassFile.FieldType) ∈ Wall := in_wall (List.mem_of_getElem? (i := 19) rfl) rfl
set_option maxRecDepth 20000 in
theorem wc_R_isSame : Jvm.Cond.code y_R_isSame c_R_isSame 2 (Option.some Jvm.ClassFile.FieldType.boolean) ∈ Wall := in_wall (List.mem_of_getElem? (i := 295) rfl) rfl
set_option maxRecDepth 20000 in
theorem wc_H_init : Jvm.Cond.code y_H_init c_H_init 7 (Option.none : Option Jvm.ClassFile.FieldType) ∈ Wall := in_wall (List.mem_of_getElem? (i := 91) rfl) rfl
set_option maxRecDepth 20000 in
theorem wc_H_holdsOne : Jvm.Cond.code y_H_holdsOne c_H_holdsOne 1 (Option.some Jvm.ClassFile.FieldType.boolean) ∈ Wall := in_wall (List.mem_of_getElem? (i := 387) rfl) rfl
set_option maxRecDepth 20000 in
theorem wc_H_isCutOff : Jvm.Cond.code y_H_isCutOff c_H_isCutOff 1 (Option.some Jvm.ClassFile.FieldType.boolean) ∈ Wall := in_wall (List.mem_of_getElem? (i := 275) rfl) rfl
set_option maxRecDepth 20000 in
theorem wm_V_O_init : Jvm.Cond.methodLink R_V 1 objectInit ∈ Wall := in_wall (List.mem_of_getElem? (i := 12) (by decide +kernel)) rfl
set_option maxRecDepth 20000 in
theorem wk_V_R : Jvm.Cond.classLink R_V 7 R_R ∈ Wall := in_wall (List.mem_of_getElem? (i := 15) (by decide +kernel)) rfl
set_option maxRecDepth 20000 in
theorem wm_V_R_init : Jvm.Cond.methodLink R_V 11 y_R_init ∈ Wall := in_wall (List.mem_of_getElem? (i := 17) (by decide +kernel)) rfl
set_option maxRecDepth 20000 in
theorem wf_V_V_nothing : Jvm.Cond.fieldLink R_V 14 "CapabilityVats" "nothing" "LCapabilityVats$Reference;" ∈ Wall := in_wall (List.mem_of_getElem? (i := 52) (by decide +kernel)) rfl
set_option maxRecDepth 20000 in
theorem wf_V_V_broken : Jvm.Cond.fieldLink R_V 18 "CapabilityVats" "broken" "LCapabilityVats$Reference;" ∈ Wall := in_wall (List.mem_of_getElem? (i := 53) (by decide +kernel)) rfl
set_option maxRecDepth 20000 in
theorem wk_V_H : Jvm.Cond.classLink R_V 21 R_H ∈ Wall := in_wall (List.mem_of_getElem? (i := 30) (by decide +kernel)) rfl
set_option maxRecDepth 20000 in
theorem wf_V_V_things : Jvm.Cond.fieldLink R_V 23 "CapabilityVats" "things" "[LCapabilityVats$Thing;" ∈ Wall := in_wall (List.mem_of_getElem? (i := 54) (by decide +kernel)) rfl
set_option maxRecDepth 20000 in
theorem wf_V_V_thingCount : Jvm.Cond.fieldLink R_V 27 "CapabilityVats" "thingCount" "I" ∈ Wall := in_wall (List.mem_of_getElem? (i := 55) (by decide +kernel)) rfl
set_option maxRecDepth 20000 in
theorem wk_V_M : Jvm.Cond.classLink R_V 31 R_M ∈ Wall := in_wall (List.mem_of_getElem? (i := 32) (by decide +kernel)) rfl
set_option maxRecDepth 20000 in
theorem wf_V_V_sent : Jvm.Cond.fieldLink R_V 33 "CapabilityVats" "sent" "[LCapabilityVats$Message;" ∈ Wall := in_wall (List.mem_of_getElem? (i := 56) (by decide +kernel)) rfl
set_option maxRecDepth 20000 in
theorem wf_V_V_sentCount : Jvm.Cond.fieldLink R_V 37 "CapabilityVats" "sentCount" "I" ∈ Wall := in_wall (List.mem_of_getElem? (i := 57) (by decide +kernel)) rfl
set_option maxRecDepth 20000 in
theorem wk_V_L : Jvm.Cond.classLink R_V 40 R_L ∈ Wall := in_wall (List.mem_of_getElem? (i := 34) (by decide +kernel)) rfl
set_option maxRecDepth 20000 in
theorem wf_V_V_queues : Jvm.Cond.fieldLink R_V 42 "CapabilityVats" "queues" "[LCapabilityVats$Line;" ∈ Wall := in_wall (List.mem_of_getElem? (i := 58) (by decide +kernel)) rfl
set_option maxRecDepth 20000 in
theorem wf_V_V_unrouted : Jvm.Cond.fieldLink R_V 47 "CapabilityVats" "unrouted" "LCapabilityVats$Line;" ∈ Wall := in_wall (List.mem_of_getElem? (i := 59) (by decide +kernel)) rfl
set_option maxRecDepth 20000 in
theorem wm_V_V_isVat : Jvm.Cond.methodLink R_V 51 y_V_isVat ∈ Wall := in_wall (List.mem_of_getElem? (i := 81) (by decide +kernel)) rfl
set_option maxRecDepth 20000 in
theorem wm_V_V_make : Jvm.Cond.methodLink R_V 55 y_V_make ∈ Wall := in_wall (List.mem_of_getElem? (i := 84) (by decide +kernel)) rfl
set_option maxRecDepth 20000 in
theorem wf_V_H_number : Jvm.Cond.fieldLink R_V 59 "CapabilityVats$Thing" "number" "I" ∈ Wall := in_wall (List.mem_of_getElem? (i := 97) (by decide +kernel)) rfl
set_option maxRecDepth 20000 in
theorem wm_V_V_cellAt : Jvm.Cond.methodLink R_V 62 y_V_cellAt ∈ Wall := in_wall (List.mem_of_getElem? (i := 142) (by decide +kernel)) rfl
set_option maxRecDepth 20000 in
theorem wm_V_V_isSlot : Jvm.Cond.methodLink R_V 66 y_V_isSlot ∈ Wall := in_wall (List.mem_of_getElem? (i := 150) (by decide +kernel)) rfl
set_option maxRecDepth 20000 in
theorem wf_V_H_slots : Jvm.Cond.fieldLink R_V 69 "CapabilityVats$Thing" "slots" "[LCapabilityVats$Reference;" ∈ Wall := in_wall (List.mem_of_getElem? (i := 107) (by decide +kernel)) rfl
set_option maxRecDepth 20000 in
theorem wm_V_V_numeral : Jvm.Cond.methodLink R_V 73 y_V_numeral ∈ Wall := in_wall (List.mem_of_getElem? (i := 153) (by decide +kernel)) rfl
set_option maxRecDepth 20000 in
theorem wm_V_V_thingAt : Jvm.Cond.methodLink R_V 77 y_V_thingAt ∈ Wall := in_wall (List.mem_of_getElem? (i := 146) (by decide +kernel)) rfl
set_option maxRecDepth 20000 in
theorem wf_V_H_self : Jvm.Cond.fieldLink R_V 80 "CapabilityVats$Thing" "self" "LCapabilityVats$Reference;" ∈ Wall := in_wall (List.mem_of_getElem? (i := 105) (by decide +kernel)) rfl
set_option maxRecDepth 20000 in
theorem wm_V_V_isSlotOrNone : Jvm.Cond.methodLink R_V 83 y_V_isSlotOrNone ∈ Wall := in_wall (List.mem_of_getElem? (i := 164) (by decide +kernel)) rfl
set_option maxRecDepth 20000 in
theorem wm_V_M_init : Jvm.Cond.methodLink R_V 86 y_M_init ∈ Wall := in_wall (List.mem_of_getElem? (i := 168) (by decide +kernel)) rfl
set_option maxRecDepth 20000 in
theorem wf_V_M_promise : Jvm.Cond.fieldLink R_V 89 "CapabilityVats$Message" "promise" "LCapabilityVats$Reference;" ∈ Wall := in_wall (List.mem_of_getElem? (i := 182) (by decide +kernel)) rfl
set_option maxRecDepth 20000 in
theorem wm_V_L_join : Jvm.Cond.methodLink R_V 92 y_L_join ∈ Wall := in_wall (List.mem_of_getElem? (i := 219) (by decide +kernel)) rfl
set_option maxRecDepth 20000 in
theorem wm_V_V_routeAll : Jvm.Cond.methodLink R_V 96 y_V_routeAll ∈ Wall := in_wall (List.mem_of_getElem? (i := 223) (by decide +kernel)) rfl
set_option maxRecDepth 20000 in
theorem wf_V_M_number : Jvm.Cond.fieldLink R_V 99 "CapabilityVats$Message" "number" "I" ∈ Wall := in_wall (List.mem_of_getElem? (i := 178) (by decide +kernel)) rfl
set_option maxRecDepth 20000 in
theorem wm_V_L_take : Jvm.Cond.methodLink R_V 100 y_L_take ∈ Wall := in_wall (List.mem_of_getElem? (i := 227) (by decide +kernel)) rfl
set_option maxRecDepth 20000 in
theorem wf_V_M_target : Jvm.Cond.fieldLink R_V 104 "CapabilityVats$Message" "target" "LCapabilityVats$Reference;" ∈ Wall := in_wall (List.mem_of_getElem? (i := 186) (by decide +kernel)) rfl
set_option maxRecDepth 20000 in
theorem wm_V_V_thingOf : Jvm.Cond.methodLink R_V 107 y_V_thingOf ∈ Wall := in_wall (List.mem_of_getElem? (i := 235) (by decide +kernel)) rfl
set_option maxRecDepth 20000 in
theorem wm_V_V_relays : Jvm.Cond.methodLink R_V 111 y_V_relays ∈ Wall := in_wall (List.mem_of_getElem? (i := 269) (by decide +kernel)) rfl
set_option maxRecDepth 20000 in
theorem wm_V_V_relay : Jvm.Cond.methodLink R_V 115 y_V_relay ∈ Wall := in_wall (List.mem_of_getElem? (i := 276) (by decide +kernel)) rfl
set_option maxRecDepth 20000 in
theorem wm_V_V_answer : Jvm.Cond.methodLink R_V 119 y_V_answer ∈ Wall := in_wall (List.mem_of_getElem? (i := 308) (by decide +kernel)) rfl
set_option maxRecDepth 20000 in
theorem wm_V_V_wrapAsNoted : Jvm.Cond.methodLink R_V 123 y_V_wrapAsNoted ∈ Wall := in_wall (List.mem_of_getElem? (i := 360) (by decide +kernel)) rfl
set_option maxRecDepth 20000 in
theorem wm_V_V_settle : Jvm.Cond.methodLink R_V 127 y_V_settle ∈ Wall := in_wall (List.mem_of_getElem? (i := 251) (by decide +kernel)) rfl
set_option maxRecDepth 20000 in
theorem wf_V_H_kind : Jvm.Cond.fieldLink R_V 131 "CapabilityVats$Thing" "kind" "I" ∈ Wall := in_wall (List.mem_of_getElem? (i := 99) (by decide +kernel)) rfl
set_option maxRecDepth 20000 in
theorem wf_V_H_home : Jvm.Cond.fieldLink R_V 134 "CapabilityVats$Thing" "home" "I" ∈ Wall := in_wall (List.mem_of_getElem? (i := 101) (by decide +kernel)) rfl
set_option maxRecDepth 20000 in
theorem wm_V_V_heldAt : Jvm.Cond.methodLink R_V 137 y_V_heldAt ∈ Wall := in_wall (List.mem_of_getElem? (i := 380) (by decide +kernel)) rfl
set_option maxRecDepth 20000 in
theorem wf_V_R_sort : Jvm.Cond.fieldLink R_V 141 "CapabilityVats$Reference" "sort" "I" ∈ Wall := in_wall (List.mem_of_getElem? (i := 22) (by decide +kernel)) rfl
set_option maxRecDepth 20000 in
theorem wf_V_R_index : Jvm.Cond.fieldLink R_V 144 "CapabilityVats$Reference" "index" "I" ∈ Wall := in_wall (List.mem_of_getElem? (i := 24) (by decide +kernel)) rfl
set_option maxRecDepth 20000 in
theorem wm_V_V_firstDetail : Jvm.Cond.methodLink R_V 147 y_V_firstDetail ∈ Wall := in_wall (List.mem_of_getElem? (i := 396) (by decide +kernel)) rfl
set_option maxRecDepth 20000 in
theorem wm_V_V_secondDetail : Jvm.Cond.methodLink R_V 151 y_V_secondDetail ∈ Wall := in_wall (List.mem_of_getElem? (i := 399) (by decide +kernel)) rfl
set_option maxRecDepth 20000 in
theorem wm_V_V_messageAt : Jvm.Cond.methodLink R_V 154 y_V_messageAt ∈ Wall := in_wall (List.mem_of_getElem? (i := 243) (by decide +kernel)) rfl
set_option maxRecDepth 20000 in
theorem wf_V_M_place : Jvm.Cond.fieldLink R_V 158 "CapabilityVats$Message" "place" "I" ∈ Wall := in_wall (List.mem_of_getElem? (i := 190) (by decide +kernel)) rfl
set_option maxRecDepth 20000 in
theorem wm_V_V_countsAs : Jvm.Cond.methodLink R_V 161 y_V_countsAs ∈ Wall := in_wall (List.mem_of_getElem? (i := 239) (by decide +kernel)) rfl
set_option maxRecDepth 20000 in
theorem wf_V_L_length : Jvm.Cond.fieldLink R_V 165 "CapabilityVats$Line" "length" "I" ∈ Wall := in_wall (List.mem_of_getElem? (i := 44) (by decide +kernel)) rfl
set_option maxRecDepth 20000 in
theorem wm_V_L_withBefore : Jvm.Cond.methodLink R_V 168 y_L_withBefore ∈ Wall := in_wall (List.mem_of_getElem? (i := 426) (by decide +kernel)) rfl
set_option maxRecDepth 20000 in
theorem wf_V_M_waiters : Jvm.Cond.fieldLink R_V 171 "CapabilityVats$Message" "waiters" "LCapabilityVats$Line;" ∈ Wall := in_wall (List.mem_of_getElem? (i := 184) (by decide +kernel)) rfl
set_option maxRecDepth 20000 in
theorem wf_V_M_noteCount : Jvm.Cond.fieldLink R_V 174 "CapabilityVats$Message" "noteCount" "I" ∈ Wall := in_wall (List.mem_of_getElem? (i := 195) (by decide +kernel)) rfl
set_option maxRecDepth 20000 in
theorem wm_V_H_holdsOne : Jvm.Cond.methodLink R_V 177 y_H_holdsOne ∈ Wall := in_wall (List.mem_of_getElem? (i := 384) (by decide +kernel)) rfl
set_option maxRecDepth 20000 in
theorem wf_V_H_held : Jvm.Cond.fieldLink R_V 181 "CapabilityVats$Thing" "held" "LCapabilityVats$Reference;" ∈ Wall := in_wall (List.mem_of_getElem? (i := 109) (by decide +kernel)) rfl
set_option maxRecDepth 20000 in
theorem wf_V_H_revoked : Jvm.Cond.fieldLink R_V 184 "CapabilityVats$Thing" "revoked" "Z" ∈ Wall := in_wall (List.mem_of_getElem? (i := 112) (by decide +kernel)) rfl
set_option maxRecDepth 20000 in
theorem wf_V_H_balance : Jvm.Cond.fieldLink R_V 188 "CapabilityVats$Thing" "balance" "I" ∈ Wall := in_wall (List.mem_of_getElem? (i := 114) (by decide +kernel)) rfl
set_option maxRecDepth 20000 in
theorem wf_V_H_owner : Jvm.Cond.fieldLink R_V 191 "CapabilityVats$Thing" "owner" "LCapabilityVats$Thing;" ∈ Wall := in_wall (List.mem_of_getElem? (i := 103) (by decide +kernel)) rfl
set_option maxRecDepth 20000 in
theorem wf_V_H_facet : Jvm.Cond.fieldLink R_V 195 "CapabilityVats$Thing" "facet" "LCapabilityVats$Thing;" ∈ Wall := in_wall (List.mem_of_getElem? (i := 110) (by decide +kernel)) rfl
set_option maxRecDepth 20000 in
theorem wf_V_H_inward : Jvm.Cond.fieldLink R_V 198 "CapabilityVats$Thing" "inward" "Z" ∈ Wall := in_wall (List.mem_of_getElem? (i := 113) (by decide +kernel)) rfl
set_option maxRecDepth 20000 in
theorem wf_V_M_answer : Jvm.Cond.fieldLink R_V 201 "CapabilityVats$Message" "answer" "LCapabilityVats$Reference;" ∈ Wall := in_wall (List.mem_of_getElem? (i := 189) (by decide +kernel)) rfl
set_option maxRecDepth 20000 in
theorem wm_V_V_awaitedBy : Jvm.Cond.methodLink R_V 203 y_V_awaitedBy ∈ Wall := in_wall (List.mem_of_getElem? (i := 247) (by decide +kernel)) rfl
set_option maxRecDepth 20000 in
theorem wm_V_V_brokenIfNothing : Jvm.Cond.methodLink R_V 207 y_V_brokenIfNothing ∈ Wall := in_wall (List.mem_of_getElem? (i := 255) (by decide +kernel)) rfl
set_option maxRecDepth 20000 in
theorem wm_V_L_takeOver : Jvm.Cond.methodLink R_V 210 y_L_takeOver ∈ Wall := in_wall (List.mem_of_getElem? (i := 259) (by decide +kernel)) rfl
set_option maxRecDepth 20000 in
theorem wm_V_V_route : Jvm.Cond.methodLink R_V 214 y_V_route ∈ Wall := in_wall (List.mem_of_getElem? (i := 231) (by decide +kernel)) rfl
set_option maxRecDepth 20000 in
theorem wm_V_H_isCutOff : Jvm.Cond.methodLink R_V 217 y_H_isCutOff ∈ Wall := in_wall (List.mem_of_getElem? (i := 272) (by decide +kernel)) rfl
set_option maxRecDepth 20000 in
theorem wf_V_M_argument : Jvm.Cond.fieldLink R_V 220 "CapabilityVats$Message" "argument" "LCapabilityVats$Reference;" ∈ Wall := in_wall (List.mem_of_getElem? (i := 188) (by decide +kernel)) rfl
set_option maxRecDepth 20000 in
theorem wm_V_V_wrap : Jvm.Cond.methodLink R_V 223 y_V_wrap ∈ Wall := in_wall (List.mem_of_getElem? (i := 280) (by decide +kernel)) rfl
set_option maxRecDepth 20000 in
theorem wm_V_M_noteDown : Jvm.Cond.methodLink R_V 227 y_M_noteDown ∈ Wall := in_wall (List.mem_of_getElem? (i := 304) (by decide +kernel)) rfl
set_option maxRecDepth 20000 in
theorem wf_V_M_passed : Jvm.Cond.fieldLink R_V 231 "CapabilityVats$Message" "passed" "[LCapabilityVats$Thing;" ∈ Wall := in_wall (List.mem_of_getElem? (i := 193) (by decide +kernel)) rfl
set_option maxRecDepth 20000 in
theorem wm_V_V_thingOfKind : Jvm.Cond.methodLink R_V 234 y_V_thingOfKind ∈ Wall := in_wall (List.mem_of_getElem? (i := 284) (by decide +kernel)) rfl
set_option maxRecDepth 20000 in
theorem wm_V_V_findWrapper : Jvm.Cond.methodLink R_V 238 y_V_findWrapper ∈ Wall := in_wall (List.mem_of_getElem? (i := 288) (by decide +kernel)) rfl
set_option maxRecDepth 20000 in
theorem wm_V_V_makeWrapper : Jvm.Cond.methodLink R_V 242 y_V_makeWrapper ∈ Wall := in_wall (List.mem_of_getElem? (i := 296) (by decide +kernel)) rfl
set_option maxRecDepth 20000 in
theorem wm_V_V_referenceTo : Jvm.Cond.methodLink R_V 245 y_V_referenceTo ∈ Wall := in_wall (List.mem_of_getElem? (i := 300) (by decide +kernel)) rfl
set_option maxRecDepth 20000 in
theorem wm_V_R_isSame : Jvm.Cond.methodLink R_V 249 y_R_isSame ∈ Wall := in_wall (List.mem_of_getElem? (i := 292) (by decide +kernel)) rfl
set_option maxRecDepth 20000 in
theorem wf_V_M_verb : Jvm.Cond.fieldLink R_V 253 "CapabilityVats$Message" "verb" "I" ∈ Wall := in_wall (List.mem_of_getElem? (i := 180) (by decide +kernel)) rfl
set_option maxRecDepth 20000 in
theorem wm_V_V_answerOfCell : Jvm.Cond.methodLink R_V 256 y_V_answerOfCell ∈ Wall := in_wall (List.mem_of_getElem? (i := 312) (by decide +kernel)) rfl
set_option maxRecDepth 20000 in
theorem wm_V_V_answerOfRevocable : Jvm.Cond.methodLink R_V 260 y_V_answerOfRevocable ∈ Wall := in_wall (List.mem_of_getElem? (i := 320) (by decide +kernel)) rfl
set_option maxRecDepth 20000 in
theorem wm_V_V_answerOfBrand : Jvm.Cond.methodLink R_V 264 y_V_answerOfBrand ∈ Wall := in_wall (List.mem_of_getElem? (i := 327) (by decide +kernel)) rfl
set_option maxRecDepth 20000 in
theorem wm_V_V_makeBox : Jvm.Cond.methodLink R_V 267 y_V_makeBox ∈ Wall := in_wall (List.mem_of_getElem? (i := 331) (by decide +kernel)) rfl
set_option maxRecDepth 20000 in
theorem wm_V_V_unseal : Jvm.Cond.methodLink R_V 271 y_V_unseal ∈ Wall := in_wall (List.mem_of_getElem? (i := 335) (by decide +kernel)) rfl
set_option maxRecDepth 20000 in
theorem wm_V_V_makeMoney : Jvm.Cond.methodLink R_V 274 y_V_makeMoney ∈ Wall := in_wall (List.mem_of_getElem? (i := 339) (by decide +kernel)) rfl
set_option maxRecDepth 20000 in
theorem wm_V_V_answerOfPurse : Jvm.Cond.methodLink R_V 277 y_V_answerOfPurse ∈ Wall := in_wall (List.mem_of_getElem? (i := 348) (by decide +kernel)) rfl
set_option maxRecDepth 20000 in
theorem wm_V_V_makeGate : Jvm.Cond.methodLink R_V 280 y_V_makeGate ∈ Wall := in_wall (List.mem_of_getElem? (i := 316) (by decide +kernel)) rfl
set_option maxRecDepth 20000 in
theorem wm_V_V_truth : Jvm.Cond.methodLink R_V 283 y_V_truth ∈ Wall := in_wall (List.mem_of_getElem? (i := 324) (by decide +kernel)) rfl
set_option maxRecDepth 20000 in
theorem wm_V_V_deposit : Jvm.Cond.methodLink R_V 287 y_V_deposit ∈ Wall := in_wall (List.mem_of_getElem? (i := 352) (by decide +kernel)) rfl
set_option maxRecDepth 20000 in
theorem wm_V_V_split : Jvm.Cond.methodLink R_V 290 y_V_split ∈ Wall := in_wall (List.mem_of_getElem? (i := 356) (by decide +kernel)) rfl
set_option maxRecDepth 20000 in
theorem wm_V_V_isNumberUpTo : Jvm.Cond.methodLink R_V 293 y_V_isNumberUpTo ∈ Wall := in_wall (List.mem_of_getElem? (i := 344) (by decide +kernel)) rfl
set_option maxRecDepth 20000 in
theorem wm_V_H_init : Jvm.Cond.methodLink R_V 297 y_H_init ∈ Wall := in_wall (List.mem_of_getElem? (i := 89) (by decide +kernel)) rfl
set_option maxRecDepth 20000 in
theorem wm_D_O_init : Jvm.Cond.methodLink R_D 1 objectInit ∈ Wall := in_wall (List.mem_of_getElem? (i := 443) (by decide +kernel)) rfl
set_option maxRecDepth 20000 in
theorem wf_D_D_kind : Jvm.Cond.fieldLink R_D 7 "CapabilityVatsModel" "kind" "[I" ∈ Wall := in_wall (List.mem_of_getElem? (i := 445) (by decide +kernel)) rfl
set_option maxRecDepth 20000 in
theorem wf_D_D_home : Jvm.Cond.fieldLink R_D 13 "CapabilityVatsModel" "home" "[I" ∈ Wall := in_wall (List.mem_of_getElem? (i := 446) (by decide +kernel)) rfl
set_option maxRecDepth 20000 in
theorem wf_D_D_link : Jvm.Cond.fieldLink R_D 16 "CapabilityVatsModel" "link" "[I" ∈ Wall := in_wall (List.mem_of_getElem? (i := 447) (by decide +kernel)) rfl
set_option maxRecDepth 20000 in
theorem wf_D_D_balance : Jvm.Cond.fieldLink R_D 19 "CapabilityVatsModel" "balance" "[I" ∈ Wall := in_wall (List.mem_of_getElem? (i := 448) (by decide +kernel)) rfl
set_option maxRecDepth 20000 in
theorem wf_D_D_inward : Jvm.Cond.fieldLink R_D 22 "CapabilityVatsModel" "inward" "[I" ∈ Wall := in_wall (List.mem_of_getElem? (i := 449) (by decide +kernel)) rfl
set_option maxRecDepth 20000 in
theorem wf_D_D_revoked : Jvm.Cond.fieldLink R_D 25 "CapabilityVatsModel" "revoked" "[Z" ∈ Wall := in_wall (List.mem_of_getElem? (i := 450) (by decide +kernel)) rfl
set_option maxRecDepth 20000 in
theorem wf_D_D_ownSort : Jvm.Cond.fieldLink R_D 29 "CapabilityVatsModel" "ownSort" "[I" ∈ Wall := in_wall (List.mem_of_getElem? (i := 451) (by decide +kernel)) rfl
set_option maxRecDepth 20000 in
theorem wf_D_D_own : Jvm.Cond.fieldLink R_D 32 "CapabilityVatsModel" "own" "[I" ∈ Wall := in_wall (List.mem_of_getElem? (i := 452) (by decide +kernel)) rfl
set_option maxRecDepth 20000 in
theorem wf_D_D_slotSort : Jvm.Cond.fieldLink R_D 35 "CapabilityVatsModel" "slotSort" "[I" ∈ Wall := in_wall (List.mem_of_getElem? (i := 453) (by decide +kernel)) rfl
set_option maxRecDepth 20000 in
theorem wf_D_D_slot : Jvm.Cond.fieldLink R_D 38 "CapabilityVatsModel" "slot" "[I" ∈ Wall := in_wall (List.mem_of_getElem? (i := 454) (by decide +kernel)) rfl
set_option maxRecDepth 20000 in
theorem wf_D_D_place : Jvm.Cond.fieldLink R_D 41 "CapabilityVatsModel" "place" "[I" ∈ Wall := in_wall (List.mem_of_getElem? (i := 456) (by decide +kernel)) rfl
set_option maxRecDepth 20000 in
theorem wf_D_D_where : Jvm.Cond.fieldLink R_D 44 "CapabilityVatsModel" "where" "[I" ∈ Wall := in_wall (List.mem_of_getElem? (i := 457) (by decide +kernel)) rfl
set_option maxRecDepth 20000 in
theorem wf_D_D_stamp : Jvm.Cond.fieldLink R_D 47 "CapabilityVatsModel" "stamp" "[I" ∈ Wall := in_wall (List.mem_of_getElem? (i := 458) (by decide +kernel)) rfl
set_option maxRecDepth 20000 in
theorem wf_D_D_targetSort : Jvm.Cond.fieldLink R_D 50 "CapabilityVatsModel" "targetSort" "[I" ∈ Wall := in_wall (List.mem_of_getElem? (i := 460) (by decide +kernel)) rfl
set_option maxRecDepth 20000 in
theorem wf_D_D_target : Jvm.Cond.fieldLink R_D 53 "CapabilityVatsModel" "target" "[I" ∈ Wall := in_wall (List.mem_of_getElem? (i := 461) (by decide +kernel)) rfl
set_option maxRecDepth 20000 in
theorem wf_D_D_verb : Jvm.Cond.fieldLink R_D 56 "CapabilityVatsModel" "verb" "[I" ∈ Wall := in_wall (List.mem_of_getElem? (i := 462) (by decide +kernel)) rfl
set_option maxRecDepth 20000 in
theorem wf_D_D_argumentSort : Jvm.Cond.fieldLink R_D 59 "CapabilityVatsModel" "argumentSort" "[I" ∈ Wall := in_wall (List.mem_of_getElem? (i := 463) (by decide +kernel)) rfl
set_option maxRecDepth 20000 in
theorem wf_D_D_argument : Jvm.Cond.fieldLink R_D 62 "CapabilityVatsModel" "argument" "[I" ∈ Wall := in_wall (List.mem_of_getElem? (i := 464) (by decide +kernel)) rfl
set_option maxRecDepth 20000 in
theorem wf_D_D_resolved : Jvm.Cond.fieldLink R_D 65 "CapabilityVatsModel" "resolved" "[Z" ∈ Wall := in_wall (List.mem_of_getElem? (i := 465) (by decide +kernel)) rfl
set_option maxRecDepth 20000 in
theorem wf_D_D_endSort : Jvm.Cond.fieldLink R_D 68 "CapabilityVatsModel" "endSort" "[I" ∈ Wall := in_wall (List.mem_of_getElem? (i := 466) (by decide +kernel)) rfl
set_option maxRecDepth 20000 in
theorem wf_D_D_end : Jvm.Cond.fieldLink R_D 71 "CapabilityVatsModel" "end" "[I" ∈ Wall := in_wall (List.mem_of_getElem? (i := 467) (by decide +kernel)) rfl
set_option maxRecDepth 20000 in
theorem wf_D_D_notes : Jvm.Cond.fieldLink R_D 74 "CapabilityVatsModel" "notes" "[I" ∈ Wall := in_wall (List.mem_of_getElem? (i := 468) (by decide +kernel)) rfl
set_option maxRecDepth 20000 in
theorem wf_D_D_noted : Jvm.Cond.fieldLink R_D 77 "CapabilityVatsModel" "noted" "[I" ∈ Wall := in_wall (List.mem_of_getElem? (i := 469) (by decide +kernel)) rfl
set_option maxRecDepth 20000 in
theorem wf_D_D_notedInward : Jvm.Cond.fieldLink R_D 80 "CapabilityVatsModel" "notedInward" "[I" ∈ Wall := in_wall (List.mem_of_getElem? (i := 470) (by decide +kernel)) rfl
set_option maxRecDepth 20000 in
theorem wf_D_D_sort : Jvm.Cond.fieldLink R_D 83 "CapabilityVatsModel" "sort" "I" ∈ Wall := in_wall (List.mem_of_getElem? (i := 471) (by decide +kernel)) rfl
set_option maxRecDepth 20000 in
theorem wf_D_D_ref : Jvm.Cond.fieldLink R_D 87 "CapabilityVatsModel" "ref" "I" ∈ Wall := in_wall (List.mem_of_getElem? (i := 472) (by decide +kernel)) rfl
set_option maxRecDepth 20000 in
theorem wm_D_D_hold : Jvm.Cond.methodLink R_D 90 y_D_hold ∈ Wall := in_wall (List.mem_of_getElem? (i := 573) (by decide +kernel)) rfl
set_option maxRecDepth 20000 in
theorem wf_D_D_objects : Jvm.Cond.fieldLink R_D 94 "CapabilityVatsModel" "objects" "I" ∈ Wall := in_wall (List.mem_of_getElem? (i := 444) (by decide +kernel)) rfl
set_option maxRecDepth 20000 in
theorem wm_D_D_broken : Jvm.Cond.methodLink R_D 97 y_D_broken ∈ Wall := in_wall (List.mem_of_getElem? (i := 581) (by decide +kernel)) rfl
set_option maxRecDepth 20000 in
theorem wm_D_D_make : Jvm.Cond.methodLink R_D 100 y_D_make ∈ Wall := in_wall (List.mem_of_getElem? (i := 541) (by decide +kernel)) rfl
set_option maxRecDepth 20000 in
theorem wf_D_D_stamps : Jvm.Cond.fieldLink R_D 104 "CapabilityVatsModel" "stamps" "I" ∈ Wall := in_wall (List.mem_of_getElem? (i := 459) (by decide +kernel)) rfl
set_option maxRecDepth 20000 in
theorem wf_D_D_messages : Jvm.Cond.fieldLink R_D 107 "CapabilityVatsModel" "messages" "I" ∈ Wall := in_wall (List.mem_of_getElem? (i := 455) (by decide +kernel)) rfl
set_option maxRecDepth 20000 in
theorem wm_D_D_direct : Jvm.Cond.methodLink R_D 110 y_D_direct ∈ Wall := in_wall (List.mem_of_getElem? (i := 565) (by decide +kernel)) rfl
set_option maxRecDepth 20000 in
theorem wm_D_D_released : Jvm.Cond.methodLink R_D 114 y_D_released ∈ Wall := in_wall (List.mem_of_getElem? (i := 589) (by decide +kernel)) rfl
set_option maxRecDepth 20000 in
theorem wm_D_D_look : Jvm.Cond.methodLink R_D 118 y_D_look ∈ Wall := in_wall (List.mem_of_getElem? (i := 569) (by decide +kernel)) rfl
set_option maxRecDepth 20000 in
theorem wm_D_D_stand : Jvm.Cond.methodLink R_D 121 y_D_stand ∈ Wall := in_wall (List.mem_of_getElem? (i := 577) (by decide +kernel)) rfl
set_option maxRecDepth 20000 in
theorem wm_D_D_settle : Jvm.Cond.methodLink R_D 125 y_D_settle ∈ Wall := in_wall (List.mem_of_getElem? (i := 585) (by decide +kernel)) rfl
set_option maxRecDepth 20000 in
theorem wm_D_D_out : Jvm.Cond.methodLink R_D 128 y_D_out ∈ Wall := in_wall (List.mem_of_getElem? (i := 538) (by decide +kernel)) rfl
set_option maxRecDepth 20000 in
theorem wm_D_D_isSlot : Jvm.Cond.methodLink R_D 132 y_D_isSlot ∈ Wall := in_wall (List.mem_of_getElem? (i := 549) (by decide +kernel)) rfl
set_option maxRecDepth 20000 in
theorem wm_D_D_route : Jvm.Cond.methodLink R_D 135 y_D_route ∈ Wall := in_wall (List.mem_of_getElem? (i := 561) (by decide +kernel)) rfl
set_option maxRecDepth 20000 in
theorem wm_D_D_nth : Jvm.Cond.methodLink R_D 138 y_D_nth ∈ Wall := in_wall (List.mem_of_getElem? (i := 597) (by decide +kernel)) rfl
set_option maxRecDepth 20000 in
theorem wm_D_D_answers : Jvm.Cond.methodLink R_D 141 y_D_answers ∈ Wall := in_wall (List.mem_of_getElem? (i := 601) (by decide +kernel)) rfl
set_option maxRecDepth 20000 in
theorem wm_D_D_asNoted : Jvm.Cond.methodLink R_D 144 y_D_asNoted ∈ Wall := in_wall (List.mem_of_getElem? (i := 646) (by decide +kernel)) rfl
set_option maxRecDepth 20000 in
theorem wm_D_D_relays : Jvm.Cond.methodLink R_D 147 y_D_relays ∈ Wall := in_wall (List.mem_of_getElem? (i := 605) (by decide +kernel)) rfl
set_option maxRecDepth 20000 in
theorem wm_D_D_ofCell : Jvm.Cond.methodLink R_D 150 y_D_ofCell ∈ Wall := in_wall (List.mem_of_getElem? (i := 617) (by decide +kernel)) rfl
set_option maxRecDepth 20000 in
theorem wm_D_D_ofGuard : Jvm.Cond.methodLink R_D 153 y_D_ofGuard ∈ Wall := in_wall (List.mem_of_getElem? (i := 621) (by decide +kernel)) rfl
set_option maxRecDepth 20000 in
theorem wm_D_D_fresh : Jvm.Cond.methodLink R_D 156 y_D_fresh ∈ Wall := in_wall (List.mem_of_getElem? (i := 613) (by decide +kernel)) rfl
set_option maxRecDepth 20000 in
theorem wm_D_D_ofSealer : Jvm.Cond.methodLink R_D 159 y_D_ofSealer ∈ Wall := in_wall (List.mem_of_getElem? (i := 625) (by decide +kernel)) rfl
set_option maxRecDepth 20000 in
theorem wm_D_D_ofUnsealer : Jvm.Cond.methodLink R_D 162 y_D_ofUnsealer ∈ Wall := in_wall (List.mem_of_getElem? (i := 629) (by decide +kernel)) rfl
set_option maxRecDepth 20000 in
theorem wm_D_D_ofMint : Jvm.Cond.methodLink R_D 165 y_D_ofMint ∈ Wall := in_wall (List.mem_of_getElem? (i := 637) (by decide +kernel)) rfl
set_option maxRecDepth 20000 in
theorem wm_D_D_ofPurse : Jvm.Cond.methodLink R_D 168 y_D_ofPurse ∈ Wall := in_wall (List.mem_of_getElem? (i := 642) (by decide +kernel)) rfl
set_option maxRecDepth 20000 in
theorem wm_D_D_wrap : Jvm.Cond.methodLink R_D 171 y_D_wrap ∈ Wall := in_wall (List.mem_of_getElem? (i := 609) (by decide +kernel)) rfl
set_option maxRecDepth 20000 in
theorem wm_D_D_isObject : Jvm.Cond.methodLink R_D 174 y_D_isObject ∈ Wall := in_wall (List.mem_of_getElem? (i := 633) (by decide +kernel)) rfl
set_option maxRecDepth 20000 in
theorem wm_D_D_seen : Jvm.Cond.methodLink R_D 179 y_D_seen ∈ Wall := in_wall (List.mem_of_getElem? (i := 666) (by decide +kernel)) rfl
set_option maxRecDepth 20000 in
theorem wm_D_D_count : Jvm.Cond.methodLink R_D 182 y_D_count ∈ Wall := in_wall (List.mem_of_getElem? (i := 698) (by decide +kernel)) rfl
set_option maxRecDepth 20000 in
theorem wm_L_O_init : Jvm.Cond.methodLink R_L 1 objectInit ∈ Wall := in_wall (List.mem_of_getElem? (i := 40) (by decide +kernel)) rfl
set_option maxRecDepth 20000 in
theorem wf_L_M_behind : Jvm.Cond.fieldLink R_L 7 "CapabilityVats$Message" "behind" "LCapabilityVats$Message;" ∈ Wall := in_wall (List.mem_of_getElem? (i := 191) (by decide +kernel)) rfl
set_option maxRecDepth 20000 in
theorem wf_L_L_last : Jvm.Cond.fieldLink R_L 13 "CapabilityVats$Line" "last" "LCapabilityVats$Message;" ∈ Wall := in_wall (List.mem_of_getElem? (i := 42) (by decide +kernel)) rfl
set_option maxRecDepth 20000 in
theorem wf_L_L_first : Jvm.Cond.fieldLink R_L 18 "CapabilityVats$Line" "first" "LCapabilityVats$Message;" ∈ Wall := in_wall (List.mem_of_getElem? (i := 41) (by decide +kernel)) rfl
set_option maxRecDepth 20000 in
theorem wf_L_L_length : Jvm.Cond.fieldLink R_L 21 "CapabilityVats$Line" "length" "I" ∈ Wall := in_wall (List.mem_of_getElem? (i := 43) (by decide +kernel)) rfl
set_option maxRecDepth 20000 in
theorem wm_L_L_take : Jvm.Cond.methodLink R_L 25 y_L_take ∈ Wall := in_wall (List.mem_of_getElem? (i := 263) (by decide +kernel)) rfl
set_option maxRecDepth 20000 in
theorem wm_L_L_join : Jvm.Cond.methodLink R_L 29 y_L_join ∈ Wall := in_wall (List.mem_of_getElem? (i := 264) (by decide +kernel)) rfl
set_option maxRecDepth 20000 in
theorem wm_M_O_init : Jvm.Cond.methodLink R_M 3 objectInit ∈ Wall := in_wall (List.mem_of_getElem? (i := 171) (by decide +kernel)) rfl
set_option maxRecDepth 20000 in
theorem wk_M_L : Jvm.Cond.classLink R_M 9 R_L ∈ Wall := in_wall (List.mem_of_getElem? (i := 172) (by decide +kernel)) rfl
set_option maxRecDepth 20000 in
theorem wf_M_M_waiters : Jvm.Cond.fieldLink R_M 12 "CapabilityVats$Message" "waiters" "LCapabilityVats$Line;" ∈ Wall := in_wall (List.mem_of_getElem? (i := 183) (by decide +kernel)) rfl
set_option maxRecDepth 20000 in
theorem wk_M_H : Jvm.Cond.classLink R_M 18 R_H ∈ Wall := in_wall (List.mem_of_getElem? (i := 174) (by decide +kernel)) rfl
set_option maxRecDepth 20000 in
theorem wf_M_M_passed : Jvm.Cond.fieldLink R_M 20 "CapabilityVats$Message" "passed" "[LCapabilityVats$Thing;" ∈ Wall := in_wall (List.mem_of_getElem? (i := 192) (by decide +kernel)) rfl
set_option maxRecDepth 20000 in
theorem wf_M_M_number : Jvm.Cond.fieldLink R_M 24 "CapabilityVats$Message" "number" "I" ∈ Wall := in_wall (List.mem_of_getElem? (i := 177) (by decide +kernel)) rfl
set_option maxRecDepth 20000 in
theorem wf_M_M_target : Jvm.Cond.fieldLink R_M 28 "CapabilityVats$Message" "target" "LCapabilityVats$Reference;" ∈ Wall := in_wall (List.mem_of_getElem? (i := 185) (by decide +kernel)) rfl
set_option maxRecDepth 20000 in
theorem wf_M_M_verb : Jvm.Cond.fieldLink R_M 32 "CapabilityVats$Message" "verb" "I" ∈ Wall := in_wall (List.mem_of_getElem? (i := 179) (by decide +kernel)) rfl
set_option maxRecDepth 20000 in
theorem wf_M_M_argument : Jvm.Cond.fieldLink R_M 35 "CapabilityVats$Message" "argument" "LCapabilityVats$Reference;" ∈ Wall := in_wall (List.mem_of_getElem? (i := 187) (by decide +kernel)) rfl
set_option maxRecDepth 20000 in
theorem wk_M_R : Jvm.Cond.classLink R_M 38 R_R ∈ Wall := in_wall (List.mem_of_getElem? (i := 175) (by decide +kernel)) rfl
set_option maxRecDepth 20000 in
theorem wm_M_R_init : Jvm.Cond.methodLink R_M 40 y_R_init ∈ Wall := in_wall (List.mem_of_getElem? (i := 176) (by decide +kernel)) rfl
set_option maxRecDepth 20000 in
theorem wf_M_M_promise : Jvm.Cond.fieldLink R_M 43 "CapabilityVats$Message" "promise" "LCapabilityVats$Reference;" ∈ Wall := in_wall (List.mem_of_getElem? (i := 181) (by decide +kernel)) rfl
set_option maxRecDepth 20000 in
theorem wf_M_M_noteCount : Jvm.Cond.fieldLink R_M 46 "CapabilityVats$Message" "noteCount" "I" ∈ Wall := in_wall (List.mem_of_getElem? (i := 194) (by decide +kernel)) rfl
set_option maxRecDepth 20000 in
theorem wm_R_O_init : Jvm.Cond.methodLink R_R 1 objectInit ∈ Wall := in_wall (List.mem_of_getElem? (i := 20) (by decide +kernel)) rfl
set_option maxRecDepth 20000 in
theorem wf_R_R_sort : Jvm.Cond.fieldLink R_R 7 "CapabilityVats$Reference" "sort" "I" ∈ Wall := in_wall (List.mem_of_getElem? (i := 21) (by decide +kernel)) rfl
set_option maxRecDepth 20000 in
theorem wf_R_R_index : Jvm.Cond.fieldLink R_R 13 "CapabilityVats$Reference" "index" "I" ∈ Wall := in_wall (List.mem_of_getElem? (i := 23) (by decide +kernel)) rfl
set_option maxRecDepth 20000 in
theorem wm_H_O_init : Jvm.Cond.methodLink R_H 3 objectInit ∈ Wall := in_wall (List.mem_of_getElem? (i := 92) (by decide +kernel)) rfl
set_option maxRecDepth 20000 in
theorem wk_H_R : Jvm.Cond.classLink R_H 9 R_R ∈ Wall := in_wall (List.mem_of_getElem? (i := 93) (by decide +kernel)) rfl
set_option maxRecDepth 20000 in
theorem wf_H_H_slots : Jvm.Cond.fieldLink R_H 11 "CapabilityVats$Thing" "slots" "[LCapabilityVats$Reference;" ∈ Wall := in_wall (List.mem_of_getElem? (i := 106) (by decide +kernel)) rfl
set_option maxRecDepth 20000 in
theorem wf_H_H_number : Jvm.Cond.fieldLink R_H 17 "CapabilityVats$Thing" "number" "I" ∈ Wall := in_wall (List.mem_of_getElem? (i := 96) (by decide +kernel)) rfl
set_option maxRecDepth 20000 in
theorem wf_H_H_kind : Jvm.Cond.fieldLink R_H 21 "CapabilityVats$Thing" "kind" "I" ∈ Wall := in_wall (List.mem_of_getElem? (i := 98) (by decide +kernel)) rfl
set_option maxRecDepth 20000 in
theorem wf_H_H_home : Jvm.Cond.fieldLink R_H 24 "CapabilityVats$Thing" "home" "I" ∈ Wall := in_wall (List.mem_of_getElem? (i := 100) (by decide +kernel)) rfl
set_option maxRecDepth 20000 in
theorem wf_H_H_owner : Jvm.Cond.fieldLink R_H 27 "CapabilityVats$Thing" "owner" "LCapabilityVats$Thing;" ∈ Wall := in_wall (List.mem_of_getElem? (i := 102) (by decide +kernel)) rfl
set_option maxRecDepth 20000 in
theorem wm_H_R_init : Jvm.Cond.methodLink R_H 31 y_R_init ∈ Wall := in_wall (List.mem_of_getElem? (i := 95) (by decide +kernel)) rfl
set_option maxRecDepth 20000 in
theorem wf_H_H_self : Jvm.Cond.fieldLink R_H 34 "CapabilityVats$Thing" "self" "LCapabilityVats$Reference;" ∈ Wall := in_wall (List.mem_of_getElem? (i := 104) (by decide +kernel)) rfl
set_option maxRecDepth 20000 in
theorem wf_H_H_held : Jvm.Cond.fieldLink R_H 38 "CapabilityVats$Thing" "held" "LCapabilityVats$Reference;" ∈ Wall := in_wall (List.mem_of_getElem? (i := 108) (by decide +kernel)) rfl
set_option maxRecDepth 20000 in
theorem wf_H_H_revoked : Jvm.Cond.fieldLink R_H 41 "CapabilityVats$Thing" "revoked" "Z" ∈ Wall := in_wall (List.mem_of_getElem? (i := 111) (by decide +kernel)) rfl
set_option maxRecDepth 20000 in
theorem wk_W_V : Jvm.Cond.classLink R_W 7 R_V ∈ Wall := in_wall (List.mem_of_getElem? (i := 7) (by decide +kernel)) rfl
set_option maxRecDepth 20000 in
theorem wm_W_V_init : Jvm.Cond.methodLink R_W 9 y_V_init ∈ Wall := in_wall (List.mem_of_getElem? (i := 9) (by decide +kernel)) rfl
set_option maxRecDepth 20000 in
theorem wk_W_D : Jvm.Cond.classLink R_W 10 R_D ∈ Wall := in_wall (List.mem_of_getElem? (i := 438) (by decide +kernel)) rfl
set_option maxRecDepth 20000 in
theorem wm_W_D_init : Jvm.Cond.methodLink R_W 12 y_D_init ∈ Wall := in_wall (List.mem_of_getElem? (i := 440) (by decide +kernel)) rfl
set_option maxRecDepth 20000 in
theorem wm_W_V_cell : Jvm.Cond.methodLink R_W 13 y_V_cell ∈ Wall := in_wall (List.mem_of_getElem? (i := 77) (by decide +kernel)) rfl
set_option maxRecDepth 20000 in
theorem wm_W_D_cell : Jvm.Cond.methodLink R_W 17 y_D_cell ∈ Wall := in_wall (List.mem_of_getElem? (i := 534) (by decide +kernel)) rfl
set_option maxRecDepth 20000 in
theorem wm_W_V_number : Jvm.Cond.methodLink R_W 18 y_V_number ∈ Wall := in_wall (List.mem_of_getElem? (i := 138) (by decide +kernel)) rfl
set_option maxRecDepth 20000 in
theorem wm_W_D_number : Jvm.Cond.methodLink R_W 22 y_D_number ∈ Wall := in_wall (List.mem_of_getElem? (i := 545) (by decide +kernel)) rfl
set_option maxRecDepth 20000 in
theorem wm_W_V_introduce : Jvm.Cond.methodLink R_W 23 y_V_introduce ∈ Wall := in_wall (List.mem_of_getElem? (i := 156) (by decide +kernel)) rfl
set_option maxRecDepth 20000 in
theorem wm_W_D_introduce : Jvm.Cond.methodLink R_W 26 y_D_introduce ∈ Wall := in_wall (List.mem_of_getElem? (i := 553) (by decide +kernel)) rfl
set_option maxRecDepth 20000 in
theorem wm_W_V_send : Jvm.Cond.methodLink R_W 27 y_V_send ∈ Wall := in_wall (List.mem_of_getElem? (i := 160) (by decide +kernel)) rfl
set_option maxRecDepth 20000 in
theorem wm_W_D_send : Jvm.Cond.methodLink R_W 31 y_D_send ∈ Wall := in_wall (List.mem_of_getElem? (i := 557) (by decide +kernel)) rfl
set_option maxRecDepth 20000 in
theorem wm_W_V_turn : Jvm.Cond.methodLink R_W 32 y_V_turn ∈ Wall := in_wall (List.mem_of_getElem? (i := 265) (by decide +kernel)) rfl
set_option maxRecDepth 20000 in
theorem wm_W_D_turn : Jvm.Cond.methodLink R_W 35 y_D_turn ∈ Wall := in_wall (List.mem_of_getElem? (i := 593) (by decide +kernel)) rfl
set_option maxRecDepth 20000 in
theorem wm_W_V_objects : Jvm.Cond.methodLink R_W 36 y_V_objects ∈ Wall := in_wall (List.mem_of_getElem? (i := 364) (by decide +kernel)) rfl
set_option maxRecDepth 20000 in
theorem wm_W_D_objects : Jvm.Cond.methodLink R_W 40 y_D_objects ∈ Wall := in_wall (List.mem_of_getElem? (i := 650) (by decide +kernel)) rfl
set_option maxRecDepth 20000 in
theorem wm_W_V_kind : Jvm.Cond.methodLink R_W 41 y_V_kind ∈ Wall := in_wall (List.mem_of_getElem? (i := 368) (by decide +kernel)) rfl
set_option maxRecDepth 20000 in
theorem wm_W_D_kind : Jvm.Cond.methodLink R_W 44 y_D_kind ∈ Wall := in_wall (List.mem_of_getElem? (i := 654) (by decide +kernel)) rfl
set_option maxRecDepth 20000 in
theorem wm_W_V_home : Jvm.Cond.methodLink R_W 45 y_V_home ∈ Wall := in_wall (List.mem_of_getElem? (i := 372) (by decide +kernel)) rfl
set_option maxRecDepth 20000 in
theorem wm_W_D_home : Jvm.Cond.methodLink R_W 48 y_D_home ∈ Wall := in_wall (List.mem_of_getElem? (i := 658) (by decide +kernel)) rfl
set_option maxRecDepth 20000 in
theorem wm_W_V_what : Jvm.Cond.methodLink R_W 49 y_V_what ∈ Wall := in_wall (List.mem_of_getElem? (i := 376) (by decide +kernel)) rfl
set_option maxRecDepth 20000 in
theorem wm_W_D_what : Jvm.Cond.methodLink R_W 53 y_D_what ∈ Wall := in_wall (List.mem_of_getElem? (i := 662) (by decide +kernel)) rfl
set_option maxRecDepth 20000 in
theorem wm_W_V_which : Jvm.Cond.methodLink R_W 54 y_V_which ∈ Wall := in_wall (List.mem_of_getElem? (i := 388) (by decide +kernel)) rfl
set_option maxRecDepth 20000 in
theorem wm_W_D_which : Jvm.Cond.methodLink R_W 57 y_D_which ∈ Wall := in_wall (List.mem_of_getElem? (i := 670) (by decide +kernel)) rfl
set_option maxRecDepth 20000 in
theorem wm_W_V_detail : Jvm.Cond.methodLink R_W 58 y_V_detail ∈ Wall := in_wall (List.mem_of_getElem? (i := 392) (by decide +kernel)) rfl
set_option maxRecDepth 20000 in
theorem wm_W_D_detail : Jvm.Cond.methodLink R_W 61 y_D_detail ∈ Wall := in_wall (List.mem_of_getElem? (i := 674) (by decide +kernel)) rfl
set_option maxRecDepth 20000 in
theorem wm_W_V_messages : Jvm.Cond.methodLink R_W 62 y_V_messages ∈ Wall := in_wall (List.mem_of_getElem? (i := 402) (by decide +kernel)) rfl
set_option maxRecDepth 20000 in
theorem wm_W_D_messages : Jvm.Cond.methodLink R_W 65 y_D_messages ∈ Wall := in_wall (List.mem_of_getElem? (i := 678) (by decide +kernel)) rfl
set_option maxRecDepth 20000 in
theorem wm_W_V_place : Jvm.Cond.methodLink R_W 66 y_V_place ∈ Wall := in_wall (List.mem_of_getElem? (i := 406) (by decide +kernel)) rfl
set_option maxRecDepth 20000 in
theorem wm_W_D_place : Jvm.Cond.methodLink R_W 69 y_D_place ∈ Wall := in_wall (List.mem_of_getElem? (i := 682) (by decide +kernel)) rfl
set_option maxRecDepth 20000 in
theorem wm_W_V_result : Jvm.Cond.methodLink R_W 70 y_V_result ∈ Wall := in_wall (List.mem_of_getElem? (i := 410) (by decide +kernel)) rfl
set_option maxRecDepth 20000 in
theorem wm_W_D_result : Jvm.Cond.methodLink R_W 73 y_D_result ∈ Wall := in_wall (List.mem_of_getElem? (i := 686) (by decide +kernel)) rfl
set_option maxRecDepth 20000 in
theorem wm_W_V_value : Jvm.Cond.methodLink R_W 74 y_V_value ∈ Wall := in_wall (List.mem_of_getElem? (i := 414) (by decide +kernel)) rfl
set_option maxRecDepth 20000 in
theorem wm_W_D_value : Jvm.Cond.methodLink R_W 77 y_D_value ∈ Wall := in_wall (List.mem_of_getElem? (i := 690) (by decide +kernel)) rfl
set_option maxRecDepth 20000 in
theorem wm_W_V_queued : Jvm.Cond.methodLink R_W 78 y_V_queued ∈ Wall := in_wall (List.mem_of_getElem? (i := 418) (by decide +kernel)) rfl
set_option maxRecDepth 20000 in
theorem wm_W_D_queued : Jvm.Cond.methodLink R_W 81 y_D_queued ∈ Wall := in_wall (List.mem_of_getElem? (i := 694) (by decide +kernel)) rfl
set_option maxRecDepth 20000 in
theorem wm_W_V_next : Jvm.Cond.methodLink R_W 82 y_V_next ∈ Wall := in_wall (List.mem_of_getElem? (i := 422) (by decide +kernel)) rfl
set_option maxRecDepth 20000 in
theorem wm_W_D_next : Jvm.Cond.methodLink R_W 85 y_D_next ∈ Wall := in_wall (List.mem_of_getElem? (i := 702) (by decide +kernel)) rfl
set_option maxRecDepth 20000 in
theorem wm_W_V_waiting : Jvm.Cond.methodLink R_W 86 y_V_waiting ∈ Wall := in_wall (List.mem_of_getElem? (i := 430) (by decide +kernel)) rfl
set_option maxRecDepth 20000 in
theorem wm_W_D_waiting : Jvm.Cond.methodLink R_W 89 y_D_waiting ∈ Wall := in_wall (List.mem_of_getElem? (i := 706) (by decide +kernel)) rfl
set_option maxRecDepth 20000 in
theorem wm_W_V_notes : Jvm.Cond.methodLink R_W 90 y_V_notes ∈ Wall := in_wall (List.mem_of_getElem? (i := 434) (by decide +kernel)) rfl
set_option maxRecDepth 20000 in
theorem wm_W_D_notes : Jvm.Cond.methodLink R_W 93 y_D_notes ∈ Wall := in_wall (List.mem_of_getElem? (i := 710) (by decide +kernel)) rfl
set_option maxRecDepth 20000 in
theorem wi_V_init : Jvm.Cond.instanceMethod y_V_init ∈ Wall := in_wall (List.mem_of_getElem? (i := 10) (by decide +kernel)) rfl
set_option maxRecDepth 20000 in
theorem wi_V_cell : Jvm.Cond.instanceMethod y_V_cell ∈ Wall := in_wall (List.mem_of_getElem? (i := 78) (by decide +kernel)) rfl
set_option maxRecDepth 20000 in
theorem ws_V_cell : Jvm.Cond.selects R_V y_V_cell y_V_cell ∈ Wall := in_wall (List.mem_of_getElem? (i := 79) (by decide +kernel)) rfl
set_option maxRecDepth 20000 in
theorem wi_V_number : Jvm.Cond.instanceMethod y_V_number ∈ Wall := in_wall (List.mem_of_getElem? (i := 139) (by decide +kernel)) rfl
set_option maxRecDepth 20000 in
theorem ws_V_number : Jvm.Cond.selects R_V y_V_number y_V_number ∈ Wall := in_wall (List.mem_of_getElem? (i := 140) (by decide +kernel)) rfl
set_option maxRecDepth 20000 in
theorem wi_V_introduce : Jvm.Cond.instanceMethod y_V_introduce ∈ Wall := in_wall (List.mem_of_getElem? (i := 157) (by decide +kernel)) rfl
set_option maxRecDepth 20000 in
theorem ws_V_introduce : Jvm.Cond.selects R_V y_V_introduce y_V_introduce ∈ Wall := in_wall (List.mem_of_getElem? (i := 158) (by decide +kernel)) rfl
set_option maxRecDepth 20000 in
theorem wi_V_send : Jvm.Cond.instanceMethod y_V_send ∈ Wall := in_wall (List.mem_of_getElem? (i := 161) (by decide +kernel)) rfl
set_option maxRecDepth 20000 in
theorem ws_V_send : Jvm.Cond.selects R_V y_V_send y_V_send ∈ Wall := in_wall (List.mem_of_getElem? (i := 162) (by decide +kernel)) rfl
set_option maxRecDepth 20000 in
theorem wi_V_turn : Jvm.Cond.instanceMethod y_V_turn ∈ Wall := in_wall (List.mem_of_getElem? (i := 266) (by decide +kernel)) rfl
set_option maxRecDepth 20000 in
theorem ws_V_turn : Jvm.Cond.selects R_V y_V_turn y_V_turn ∈ Wall := in_wall (List.mem_of_getElem? (i := 267) (by decide +kernel)) rfl
set_option maxRecDepth 20000 in
theorem wi_V_objects : Jvm.Cond.instanceMethod y_V_objects ∈ Wall := in_wall (List.mem_of_getElem? (i := 365) (by decide +kernel)) rfl
set_option maxRecDepth 20000 in
theorem ws_V_objects : Jvm.Cond.selects R_V y_V_objects y_V_objects ∈ Wall := in_wall (List.mem_of_getElem? (i := 366) (by decide +kernel)) rfl
set_option maxRecDepth 20000 in
theorem wi_V_kind : Jvm.Cond.instanceMethod y_V_kind ∈ Wall := in_wall (List.mem_of_getElem? (i := 369) (by decide +kernel)) rfl
set_option maxRecDepth 20000 in
theorem ws_V_kind : Jvm.Cond.selects R_V y_V_kind y_V_kind ∈ Wall := in_wall (List.mem_of_getElem? (i := 370) (by decide +kernel)) rfl
set_option maxRecDepth 20000 in
theorem wi_V_home : Jvm.Cond.instanceMethod y_V_home ∈ Wall := in_wall (List.mem_of_getElem? (i := 373) (by decide +kernel)) rfl
set_option maxRecDepth 20000 in
theorem ws_V_home : Jvm.Cond.selects R_V y_V_home y_V_home ∈ Wall := in_wall (List.mem_of_getElem? (i := 374) (by decide +kernel)) rfl
set_option maxRecDepth 20000 in
theorem wi_V_what : Jvm.Cond.instanceMethod y_V_what ∈ Wall := in_wall (List.mem_of_getElem? (i := 377) (by decide +kernel)) rfl
set_option maxRecDepth 20000 in
theorem ws_V_what : Jvm.Cond.selects R_V y_V_what y_V_what ∈ Wall := in_wall (List.mem_of_getElem? (i := 378) (by decide +kernel)) rfl
set_option maxRecDepth 20000 in
theorem wi_V_which : Jvm.Cond.instanceMethod y_V_which ∈ Wall := in_wall (List.mem_of_getElem? (i := 389) (by decide +kernel)) rfl
set_option maxRecDepth 20000 in
theorem ws_V_which : Jvm.Cond.selects R_V y_V_which y_V_which ∈ Wall := in_wall (List.mem_of_getElem? (i := 390) (by decide +kernel)) rfl
set_option maxRecDepth 20000 in
theorem wi_V_detail : Jvm.Cond.instanceMethod y_V_detail ∈ Wall := in_wall (List.mem_of_getElem? (i := 393) (by decide +kernel)) rfl
set_option maxRecDepth 20000 in
theorem ws_V_detail : Jvm.Cond.selects R_V y_V_detail y_V_detail ∈ Wall := in_wall (List.mem_of_getElem? (i := 394) (by decide +kernel)) rfl
set_option maxRecDepth 20000 in
theorem wi_V_messages : Jvm.Cond.instanceMethod y_V_messages ∈ Wall := in_wall (List.mem_of_getElem? (i := 403) (by decide +kernel)) rfl
set_option maxRecDepth 20000 in
theorem ws_V_messages : Jvm.Cond.selects R_V y_V_messages y_V_messages ∈ Wall := in_wall (List.mem_of_getElem? (i := 404) (by decide +kernel)) rfl
set_option maxRecDepth 20000 in
theorem wi_V_place : Jvm.Cond.instanceMethod y_V_place ∈ Wall := in_wall (List.mem_of_getElem? (i := 407) (by decide +kernel)) rfl
set_option maxRecDepth 20000 in
theorem ws_V_place : Jvm.Cond.selects R_V y_V_place y_V_place ∈ Wall := in_wall (List.mem_of_getElem? (i := 408) (by decide +kernel)) rfl
set_option maxRecDepth 20000 in
theorem wi_V_result : Jvm.Cond.instanceMethod y_V_result ∈ Wall := in_wall (List.mem_of_getElem? (i := 411) (by decide +kernel)) rfl
set_option maxRecDepth 20000 in
theorem ws_V_result : Jvm.Cond.selects R_V y_V_result y_V_result ∈ Wall := in_wall (List.mem_of_getElem? (i := 412) (by decide +kernel)) rfl
set_option maxRecDepth 20000 in
theorem wi_V_value : Jvm.Cond.instanceMethod y_V_value ∈ Wall := in_wall (List.mem_of_getElem? (i := 415) (by decide +kernel)) rfl
set_option maxRecDepth 20000 in
theorem ws_V_value : Jvm.Cond.selects R_V y_V_value y_V_value ∈ Wall := in_wall (List.mem_of_getElem? (i := 416) (by decide +kernel)) rfl
set_option maxRecDepth 20000 in
theorem wi_V_queued : Jvm.Cond.instanceMethod y_V_queued ∈ Wall := in_wall (List.mem_of_getElem? (i := 419) (by decide +kernel)) rfl
set_option maxRecDepth 20000 in
theorem ws_V_queued : Jvm.Cond.selects R_V y_V_queued y_V_queued ∈ Wall := in_wall (List.mem_of_getElem? (i := 420) (by decide +kernel)) rfl
set_option maxRecDepth 20000 in
theorem wi_V_next : Jvm.Cond.instanceMethod y_V_next ∈ Wall := in_wall (List.mem_of_getElem? (i := 423) (by decide +kernel)) rfl
set_option maxRecDepth 20000 in
theorem ws_V_next : Jvm.Cond.selects R_V y_V_next y_V_next ∈ Wall := in_wall (List.mem_of_getElem? (i := 424) (by decide +kernel)) rfl
set_option maxRecDepth 20000 in
theorem wi_V_waiting : Jvm.Cond.instanceMethod y_V_waiting ∈ Wall := in_wall (List.mem_of_getElem? (i := 431) (by decide +kernel)) rfl
set_option maxRecDepth 20000 in
theorem ws_V_waiting : Jvm.Cond.selects R_V y_V_waiting y_V_waiting ∈ Wall := in_wall (List.mem_of_getElem? (i := 432) (by decide +kernel)) rfl
set_option maxRecDepth 20000 in
theorem wi_V_notes : Jvm.Cond.instanceMethod y_V_notes ∈ Wall := in_wall (List.mem_of_getElem? (i := 435) (by decide +kernel)) rfl
set_option maxRecDepth 20000 in
theorem ws_V_notes : Jvm.Cond.selects R_V y_V_notes y_V_notes ∈ Wall := in_wall (List.mem_of_getElem? (i := 436) (by decide +kernel)) rfl
set_option maxRecDepth 20000 in
theorem wt_V_isVat : Jvm.Cond.static y_V_isVat ∈ Wall := in_wall (List.mem_of_getElem? (i := 82) (by decide +kernel)) rfl
set_option maxRecDepth 20000 in
theorem wt_V_isSlot : Jvm.Cond.static y_V_isSlot ∈ Wall := in_wall (List.mem_of_getElem? (i := 151) (by decide +kernel)) rfl
set_option maxRecDepth 20000 in
theorem wt_V_isSlotOrNone : Jvm.Cond.static y_V_isSlotOrNone ∈ Wall := in_wall (List.mem_of_getElem? (i := 165) (by decide +kernel)) rfl
set_option maxRecDepth 20000 in
theorem wi_V_thingAt : Jvm.Cond.instanceMethod y_V_thingAt ∈ Wall := in_wall (List.mem_of_getElem? (i := 148) (by decide +kernel)) rfl
theorem ws_V_thingAt : Jvm.Cond.selects R_V y_V_thingAt y_V_thingAt ∈ Wall := List.mem_filter.mpr ⟨List.mem_append_left _ (by decide +kernel), rfl⟩
set_option maxRecDepth 20000 in
theorem wi_V_cellAt : Jvm.Cond.instanceMethod y_V_cellAt ∈ Wall := in_wall (List.mem_of_getElem? (i := 144) (by decide +kernel)) rfl
theorem ws_V_cellAt : Jvm.Cond.selects R_V y_V_cellAt y_V_cellAt ∈ Wall := List.mem_filter.mpr ⟨List.mem_append_left _ (by decide +kernel), rfl⟩
set_option maxRecDepth 20000 in
theorem wi_V_messageAt : Jvm.Cond.instanceMethod y_V_messageAt ∈ Wall := in_wall (List.mem_of_getElem? (i := 245) (by decide +kernel)) rfl
theorem ws_V_messageAt : Jvm.Cond.selects R_V y_V_messageAt y_V_messageAt ∈ Wall := List.mem_filter.mpr ⟨List.mem_append_left _ (by decide +kernel), rfl⟩
set_option maxRecDepth 20000 in
theorem wi_V_heldAt : Jvm.Cond.instanceMethod y_V_heldAt ∈ Wall := in_wall (List.mem_of_getElem? (i := 382) (by decide +kernel)) rfl
theorem ws_V_heldAt : Jvm.Cond.selects R_V y_V_heldAt y_V_heldAt ∈ Wall := List.mem_filter.mpr ⟨List.mem_append_left _ (by decide +kernel), rfl⟩
set_option maxRecDepth 20000 in
theorem wt_V_firstDetail : Jvm.Cond.static y_V_firstDetail ∈ Wall := in_wall (List.mem_of_getElem? (i := 397) (by decide +kernel)) rfl
set_option maxRecDepth 20000 in
theorem wt_V_secondDetail : Jvm.Cond.static y_V_secondDetail ∈ Wall := in_wall (List.mem_of_getElem? (i := 400) (by decide +kernel)) rfl
set_option maxRecDepth 20000 in
theorem wi_V_countsAs : Jvm.Cond.instanceMethod y_V_countsAs ∈ Wall := in_wall (List.mem_of_getElem? (i := 241) (by decide +kernel)) rfl
theorem ws_V_countsAs : Jvm.Cond.selects R_V y_V_countsAs y_V_countsAs ∈ Wall := List.mem_filter.mpr ⟨List.mem_append_left _ (by decide +kernel), rfl⟩
set_option maxRecDepth 20000 in
theorem wi_V_thingOf : Jvm.Cond.instanceMethod y_V_thingOf ∈ Wall := in_wall (List.mem_of_getElem? (i := 237) (by decide +kernel)) rfl
theorem ws_V_thingOf : Jvm.Cond.selects R_V y_V_thingOf y_V_thingOf ∈ Wall := List.mem_filter.mpr ⟨List.mem_append_left _ (by decide +kernel), rfl⟩
set_option maxRecDepth 20000 in
theorem wi_V_awaitedBy : Jvm.Cond.instanceMethod y_V_awaitedBy ∈ Wall := in_wall (List.mem_of_getElem? (i := 249) (by decide +kernel)) rfl
theorem ws_V_awaitedBy : Jvm.Cond.selects R_V y_V_awaitedBy y_V_awaitedBy ∈ Wall := List.mem_filter.mpr ⟨List.mem_append_left _ (by decide +kernel), rfl⟩
set_option maxRecDepth 20000 in
theorem wi_V_thingOfKind : Jvm.Cond.instanceMethod y_V_thingOfKind ∈ Wall := in_wall (List.mem_of_getElem? (i := 286) (by decide +kernel)) rfl
theorem ws_V_thingOfKind : Jvm.Cond.selects R_V y_V_thingOfKind y_V_thingOfKind ∈ Wall := List.mem_filter.mpr ⟨List.mem_append_left _ (by decide +kernel), rfl⟩
set_option maxRecDepth 20000 in
theorem wi_V_isNumberUpTo : Jvm.Cond.instanceMethod y_V_isNumberUpTo ∈ Wall := in_wall (List.mem_of_getElem? (i := 346) (by decide +kernel)) rfl
theorem ws_V_isNumberUpTo : Jvm.Cond.selects R_V y_V_isNumberUpTo y_V_isNumberUpTo ∈ Wall := List.mem_filter.mpr ⟨List.mem_append_left _ (by decide +kernel), rfl⟩
set_option maxRecDepth 20000 in
theorem wt_V_numeral : Jvm.Cond.static y_V_numeral ∈ Wall := in_wall (List.mem_of_getElem? (i := 154) (by decide +kernel)) rfl
set_option maxRecDepth 20000 in
theorem wt_V_truth : Jvm.Cond.static y_V_truth ∈ Wall := in_wall (List.mem_of_getElem? (i := 325) (by decide +kernel)) rfl
set_option maxRecDepth 20000 in
theorem wi_V_brokenIfNothing : Jvm.Cond.instanceMethod y_V_brokenIfNothing ∈ Wall := in_wall (List.mem_of_getElem? (i := 257) (by decide +kernel)) rfl
theorem ws_V_brokenIfNothing : Jvm.Cond.selects R_V y_V_brokenIfNothing y_V_brokenIfNothing ∈ Wall := List.mem_filter.mpr ⟨List.mem_append_left _ (by decide +kernel), rfl⟩
set_option maxRecDepth 20000 in
theorem wi_V_referenceTo : Jvm.Cond.instanceMethod y_V_referenceTo ∈ Wall := in_wall (List.mem_of_getElem? (i := 302) (by decide +kernel)) rfl
theorem ws_V_referenceTo : Jvm.Cond.selects R_V y_V_referenceTo y_V_referenceTo ∈ Wall := List.mem_filter.mpr ⟨List.mem_append_left _ (by decide +kernel), rfl⟩
set_option maxRecDepth 20000 in
theorem wi_V_settle : Jvm.Cond.instanceMethod y_V_settle ∈ Wall := in_wall (List.mem_of_getElem? (i := 253) (by decide +kernel)) rfl
theorem ws_V_settle : Jvm.Cond.selects R_V y_V_settle y_V_settle ∈ Wall := List.mem_filter.mpr ⟨List.mem_append_left _ (by decide +kernel), rfl⟩
set_option maxRecDepth 20000 in
theorem wi_V_routeAll : Jvm.Cond.instanceMethod y_V_routeAll ∈ Wall := in_wall (List.mem_of_getElem? (i := 225) (by decide +kernel)) rfl
theorem ws_V_routeAll : Jvm.Cond.selects R_V y_V_routeAll y_V_routeAll ∈ Wall := List.mem_filter.mpr ⟨List.mem_append_left _ (by decide +kernel), rfl⟩
set_option maxRecDepth 20000 in
theorem wi_V_route : Jvm.Cond.instanceMethod y_V_route ∈ Wall := in_wall (List.mem_of_getElem? (i := 233) (by decide +kernel)) rfl
theorem ws_V_route : Jvm.Cond.selects R_V y_V_route y_V_route ∈ Wall := List.mem_filter.mpr ⟨List.mem_append_left _ (by decide +kernel), rfl⟩
set_option maxRecDepth 20000 in
theorem wt_V_relays : Jvm.Cond.static y_V_relays ∈ Wall := in_wall (List.mem_of_getElem? (i := 270) (by decide +kernel)) rfl
set_option maxRecDepth 20000 in
theorem wi_V_relay : Jvm.Cond.instanceMethod y_V_relay ∈ Wall := in_wall (List.mem_of_getElem? (i := 278) (by decide +kernel)) rfl
theorem ws_V_relay : Jvm.Cond.selects R_V y_V_relay y_V_relay ∈ Wall := List.mem_filter.mpr ⟨List.mem_append_left _ (by decide +kernel), rfl⟩
set_option maxRecDepth 20000 in
theorem wi_V_wrapAsNoted : Jvm.Cond.instanceMethod y_V_wrapAsNoted ∈ Wall := in_wall (List.mem_of_getElem? (i := 362) (by decide +kernel)) rfl
theorem ws_V_wrapAsNoted : Jvm.Cond.selects R_V y_V_wrapAsNoted y_V_wrapAsNoted ∈ Wall := List.mem_filter.mpr ⟨List.mem_append_left _ (by decide +kernel), rfl⟩
set_option maxRecDepth 20000 in
theorem wi_V_wrap : Jvm.Cond.instanceMethod y_V_wrap ∈ Wall := in_wall (List.mem_of_getElem? (i := 282) (by decide +kernel)) rfl
theorem ws_V_wrap : Jvm.Cond.selects R_V y_V_wrap y_V_wrap ∈ Wall := List.mem_filter.mpr ⟨List.mem_append_left _ (by decide +kernel), rfl⟩
set_option maxRecDepth 20000 in
theorem wi_V_findWrapper : Jvm.Cond.instanceMethod y_V_findWrapper ∈ Wall := in_wall (List.mem_of_getElem? (i := 290) (by decide +kernel)) rfl
theorem ws_V_findWrapper : Jvm.Cond.selects R_V y_V_findWrapper y_V_findWrapper ∈ Wall := List.mem_filter.mpr ⟨List.mem_append_left _ (by decide +kernel), rfl⟩
set_option maxRecDepth 20000 in
theorem wi_V_makeWrapper : Jvm.Cond.instanceMethod y_V_makeWrapper ∈ Wall := in_wall (List.mem_of_getElem? (i := 298) (by decide +kernel)) rfl
theorem ws_V_makeWrapper : Jvm.Cond.selects R_V y_V_makeWrapper y_V_makeWrapper ∈ Wall := List.mem_filter.mpr ⟨List.mem_append_left _ (by decide +kernel), rfl⟩
set_option maxRecDepth 20000 in
theorem wi_V_answer : Jvm.Cond.instanceMethod y_V_answer ∈ Wall := in_wall (List.mem_of_getElem? (i := 310) (by decide +kernel)) rfl
theorem ws_V_answer : Jvm.Cond.selects R_V y_V_answer y_V_answer ∈ Wall := List.mem_filter.mpr ⟨List.mem_append_left _ (by decide +kernel), rfl⟩
set_option maxRecDepth 20000 in
theorem wi_V_answerOfCell : Jvm.Cond.instanceMethod y_V_answerOfCell ∈ Wall := in_wall (List.mem_of_getElem? (i := 314) (by decide +kernel)) rfl
theorem ws_V_answerOfCell : Jvm.Cond.selects R_V y_V_answerOfCell y_V_answerOfCell ∈ Wall := List.mem_filter.mpr ⟨List.mem_append_left _ (by decide +kernel), rfl⟩
set_option maxRecDepth 20000 in
theorem wi_V_answerOfRevocable : Jvm.Cond.instanceMethod y_V_answerOfRevocable ∈ Wall := in_wall (List.mem_of_getElem? (i := 322) (by decide +kernel)) rfl
theorem ws_V_answerOfRevocable : Jvm.Cond.selects R_V y_V_answerOfRevocable y_V_answerOfRevocable ∈ Wall := List.mem_filter.mpr ⟨List.mem_append_left _ (by decide +kernel), rfl⟩
set_option maxRecDepth 20000 in
theorem wi_V_answerOfBrand : Jvm.Cond.instanceMethod y_V_answerOfBrand ∈ Wall := in_wall (List.mem_of_getElem? (i := 329) (by decide +kernel)) rfl
theorem ws_V_answerOfBrand : Jvm.Cond.selects R_V y_V_answerOfBrand y_V_answerOfBrand ∈ Wall := List.mem_filter.mpr ⟨List.mem_append_left _ (by decide +kernel), rfl⟩
set_option maxRecDepth 20000 in
theorem wi_V_answerOfPurse : Jvm.Cond.instanceMethod y_V_answerOfPurse ∈ Wall := in_wall (List.mem_of_getElem? (i := 350) (by decide +kernel)) rfl
theorem ws_V_answerOfPurse : Jvm.Cond.selects R_V y_V_answerOfPurse y_V_answerOfPurse ∈ Wall := List.mem_filter.mpr ⟨List.mem_append_left _ (by decide +kernel), rfl⟩
set_option maxRecDepth 20000 in
theorem wi_V_deposit : Jvm.Cond.instanceMethod y_V_deposit ∈ Wall := in_wall (List.mem_of_getElem? (i := 354) (by decide +kernel)) rfl
theorem ws_V_deposit : Jvm.Cond.selects R_V y_V_deposit y_V_deposit ∈ Wall := List.mem_filter.mpr ⟨List.mem_append_left _ (by decide +kernel), rfl⟩
set_option maxRecDepth 20000 in
theorem wi_V_split : Jvm.Cond.instanceMethod y_V_split ∈ Wall := in_wall (List.mem_of_getElem? (i := 358) (by decide +kernel)) rfl
theorem ws_V_split : Jvm.Cond.selects R_V y_V_split y_V_split ∈ Wall := List.mem_filter.mpr ⟨List.mem_append_left _ (by decide +kernel), rfl⟩
set_option maxRecDepth 20000 in
theorem wi_V_unseal : Jvm.Cond.instanceMethod y_V_unseal ∈ Wall := in_wall (List.mem_of_getElem? (i := 337) (by decide +kernel)) rfl
theorem ws_V_unseal : Jvm.Cond.selects R_V y_V_unseal y_V_unseal ∈ Wall := List.mem_filter.mpr ⟨List.mem_append_left _ (by decide +kernel), rfl⟩
set_option maxRecDepth 20000 in
theorem wi_V_make : Jvm.Cond.instanceMethod y_V_make ∈ Wall := in_wall (List.mem_of_getElem? (i := 86) (by decide +kernel)) rfl
theorem ws_V_make : Jvm.Cond.selects R_V y_V_make y_V_make ∈ Wall := List.mem_filter.mpr ⟨List.mem_append_left _ (by decide +kernel), rfl⟩
set_option maxRecDepth 20000 in
theorem wi_V_makeGate : Jvm.Cond.instanceMethod y_V_makeGate ∈ Wall := in_wall (List.mem_of_getElem? (i := 318) (by decide +kernel)) rfl
theorem ws_V_makeGate : Jvm.Cond.selects R_V y_V_makeGate y_V_makeGate ∈ Wall := List.mem_filter.mpr ⟨List.mem_append_left _ (by decide +kernel), rfl⟩
set_option maxRecDepth 20000 in
theorem wi_V_makeBox : Jvm.Cond.instanceMethod y_V_makeBox ∈ Wall := in_wall (List.mem_of_getElem? (i := 333) (by decide +kernel)) rfl
theorem ws_V_makeBox : Jvm.Cond.selects R_V y_V_makeBox y_V_makeBox ∈ Wall := List.mem_filter.mpr ⟨List.mem_append_left _ (by decide +kernel), rfl⟩
set_option maxRecDepth 20000 in
theorem wi_V_makeMoney : Jvm.Cond.instanceMethod y_V_makeMoney ∈ Wall := in_wall (List.mem_of_getElem? (i := 341) (by decide +kernel)) rfl
theorem ws_V_makeMoney : Jvm.Cond.selects R_V y_V_makeMoney y_V_makeMoney ∈ Wall := List.mem_filter.mpr ⟨List.mem_append_left _ (by decide +kernel), rfl⟩
set_option maxRecDepth 20000 in
theorem wi_D_init : Jvm.Cond.instanceMethod y_D_init ∈ Wall := in_wall (List.mem_of_getElem? (i := 441) (by decide +kernel)) rfl
set_option maxRecDepth 20000 in
theorem wt_D_out : Jvm.Cond.static y_D_out ∈ Wall := in_wall (List.mem_of_getElem? (i := 539) (by decide +kernel)) rfl
set_option maxRecDepth 20000 in
theorem wi_D_hold : Jvm.Cond.instanceMethod y_D_hold ∈ Wall := in_wall (List.mem_of_getElem? (i := 575) (by decide +kernel)) rfl
theorem ws_D_hold : Jvm.Cond.selects R_D y_D_hold y_D_hold ∈ Wall := List.mem_filter.mpr ⟨List.mem_append_left _ (by decide +kernel), rfl⟩
set_option maxRecDepth 20000 in
theorem wi_D_look : Jvm.Cond.instanceMethod y_D_look ∈ Wall := in_wall (List.mem_of_getElem? (i := 571) (by decide +kernel)) rfl
theorem ws_D_look : Jvm.Cond.selects R_D y_D_look y_D_look ∈ Wall := List.mem_filter.mpr ⟨List.mem_append_left _ (by decide +kernel), rfl⟩
set_option maxRecDepth 20000 in
theorem wi_D_broken : Jvm.Cond.instanceMethod y_D_broken ∈ Wall := in_wall (List.mem_of_getElem? (i := 583) (by decide +kernel)) rfl
theorem ws_D_broken : Jvm.Cond.selects R_D y_D_broken y_D_broken ∈ Wall := List.mem_filter.mpr ⟨List.mem_append_left _ (by decide +kernel), rfl⟩
set_option maxRecDepth 20000 in
theorem wi_D_isObject : Jvm.Cond.instanceMethod y_D_isObject ∈ Wall := in_wall (List.mem_of_getElem? (i := 635) (by decide +kernel)) rfl
theorem ws_D_isObject : Jvm.Cond.selects R_D y_D_isObject y_D_isObject ∈ Wall := List.mem_filter.mpr ⟨List.mem_append_left _ (by decide +kernel), rfl⟩
set_option maxRecDepth 20000 in
theorem wi_D_make : Jvm.Cond.instanceMethod y_D_make ∈ Wall := in_wall (List.mem_of_getElem? (i := 543) (by decide +kernel)) rfl
theorem ws_D_make : Jvm.Cond.selects R_D y_D_make y_D_make ∈ Wall := List.mem_filter.mpr ⟨List.mem_append_left _ (by decide +kernel), rfl⟩
set_option maxRecDepth 20000 in
theorem wi_D_fresh : Jvm.Cond.instanceMethod y_D_fresh ∈ Wall := in_wall (List.mem_of_getElem? (i := 615) (by decide +kernel)) rfl
theorem ws_D_fresh : Jvm.Cond.selects R_D y_D_fresh y_D_fresh ∈ Wall := List.mem_filter.mpr ⟨List.mem_append_left _ (by decide +kernel), rfl⟩
set_option maxRecDepth 20000 in
theorem wi_D_stand : Jvm.Cond.instanceMethod y_D_stand ∈ Wall := in_wall (List.mem_of_getElem? (i := 579) (by decide +kernel)) rfl
theorem ws_D_stand : Jvm.Cond.selects R_D y_D_stand y_D_stand ∈ Wall := List.mem_filter.mpr ⟨List.mem_append_left _ (by decide +kernel), rfl⟩
set_option maxRecDepth 20000 in
theorem wi_D_nth : Jvm.Cond.instanceMethod y_D_nth ∈ Wall := in_wall (List.mem_of_getElem? (i := 599) (by decide +kernel)) rfl
theorem ws_D_nth : Jvm.Cond.selects R_D y_D_nth y_D_nth ∈ Wall := List.mem_filter.mpr ⟨List.mem_append_left _ (by decide +kernel), rfl⟩
set_option maxRecDepth 20000 in
theorem wi_D_count : Jvm.Cond.instanceMethod y_D_count ∈ Wall := in_wall (List.mem_of_getElem? (i := 700) (by decide +kernel)) rfl
theorem ws_D_count : Jvm.Cond.selects R_D y_D_count y_D_count ∈ Wall := List.mem_filter.mpr ⟨List.mem_append_left _ (by decide +kernel), rfl⟩
set_option maxRecDepth 20000 in
theorem wi_D_route : Jvm.Cond.instanceMethod y_D_route ∈ Wall := in_wall (List.mem_of_getElem? (i := 563) (by decide +kernel)) rfl
theorem ws_D_route : Jvm.Cond.selects R_D y_D_route y_D_route ∈ Wall := List.mem_filter.mpr ⟨List.mem_append_left _ (by decide +kernel), rfl⟩
set_option maxRecDepth 20000 in
theorem wi_D_direct : Jvm.Cond.instanceMethod y_D_direct ∈ Wall := in_wall (List.mem_of_getElem? (i := 567) (by decide +kernel)) rfl
theorem ws_D_direct : Jvm.Cond.selects R_D y_D_direct y_D_direct ∈ Wall := List.mem_filter.mpr ⟨List.mem_append_left _ (by decide +kernel), rfl⟩
set_option maxRecDepth 20000 in
theorem wi_D_released : Jvm.Cond.instanceMethod y_D_released ∈ Wall := in_wall (List.mem_of_getElem? (i := 591) (by decide +kernel)) rfl
theorem ws_D_released : Jvm.Cond.selects R_D y_D_released y_D_released ∈ Wall := List.mem_filter.mpr ⟨List.mem_append_left _ (by decide +kernel), rfl⟩
set_option maxRecDepth 20000 in
theorem wi_D_settle : Jvm.Cond.instanceMethod y_D_settle ∈ Wall := in_wall (List.mem_of_getElem? (i := 587) (by decide +kernel)) rfl
theorem ws_D_settle : Jvm.Cond.selects R_D y_D_settle y_D_settle ∈ Wall := List.mem_filter.mpr ⟨List.mem_append_left _ (by decide +kernel), rfl⟩
set_option maxRecDepth 20000 in
theorem wi_D_isSlot : Jvm.Cond.instanceMethod y_D_isSlot ∈ Wall := in_wall (List.mem_of_getElem? (i := 551) (by decide +kernel)) rfl
theorem ws_D_isSlot : Jvm.Cond.selects R_D y_D_isSlot y_D_isSlot ∈ Wall := List.mem_filter.mpr ⟨List.mem_append_left _ (by decide +kernel), rfl⟩
set_option maxRecDepth 20000 in
theorem wi_D_cell : Jvm.Cond.instanceMethod y_D_cell ∈ Wall := in_wall (List.mem_of_getElem? (i := 535) (by decide +kernel)) rfl
set_option maxRecDepth 20000 in
theorem ws_D_cell : Jvm.Cond.selects R_D y_D_cell y_D_cell ∈ Wall := in_wall (List.mem_of_getElem? (i := 536) (by decide +kernel)) rfl
set_option maxRecDepth 20000 in
theorem wi_D_number : Jvm.Cond.instanceMethod y_D_number ∈ Wall := in_wall (List.mem_of_getElem? (i := 546) (by decide +kernel)) rfl
set_option maxRecDepth 20000 in
theorem ws_D_number : Jvm.Cond.selects R_D y_D_number y_D_number ∈ Wall := in_wall (List.mem_of_getElem? (i := 547) (by decide +kernel)) rfl
set_option maxRecDepth 20000 in
theorem wi_D_introduce : Jvm.Cond.instanceMethod y_D_introduce ∈ Wall := in_wall (List.mem_of_getElem? (i := 554) (by decide +kernel)) rfl
set_option maxRecDepth 20000 in
theorem ws_D_introduce : Jvm.Cond.selects R_D y_D_introduce y_D_introduce ∈ Wall := in_wall (List.mem_of_getElem? (i := 555) (by decide +kernel)) rfl
set_option maxRecDepth 20000 in
theorem wi_D_send : Jvm.Cond.instanceMethod y_D_send ∈ Wall := in_wall (List.mem_of_getElem? (i := 558) (by decide +kernel)) rfl
set_option maxRecDepth 20000 in
theorem ws_D_send : Jvm.Cond.selects R_D y_D_send y_D_send ∈ Wall := in_wall (List.mem_of_getElem? (i := 559) (by decide +kernel)) rfl
set_option maxRecDepth 20000 in
theorem wi_D_turn : Jvm.Cond.instanceMethod y_D_turn ∈ Wall := in_wall (List.mem_of_getElem? (i := 594) (by decide +kernel)) rfl
set_option maxRecDepth 20000 in
theorem ws_D_turn : Jvm.Cond.selects R_D y_D_turn y_D_turn ∈ Wall := in_wall (List.mem_of_getElem? (i := 595) (by decide +kernel)) rfl
set_option maxRecDepth 20000 in
theorem wi_D_answers : Jvm.Cond.instanceMethod y_D_answers ∈ Wall := in_wall (List.mem_of_getElem? (i := 603) (by decide +kernel)) rfl
theorem ws_D_answers : Jvm.Cond.selects R_D y_D_answers y_D_answers ∈ Wall := List.mem_filter.mpr ⟨List.mem_append_left _ (by decide +kernel), rfl⟩
set_option maxRecDepth 20000 in
theorem wi_D_ofCell : Jvm.Cond.instanceMethod y_D_ofCell ∈ Wall := in_wall (List.mem_of_getElem? (i := 619) (by decide +kernel)) rfl
theorem ws_D_ofCell : Jvm.Cond.selects R_D y_D_ofCell y_D_ofCell ∈ Wall := List.mem_filter.mpr ⟨List.mem_append_left _ (by decide +kernel), rfl⟩
set_option maxRecDepth 20000 in
theorem wi_D_ofGuard : Jvm.Cond.instanceMethod y_D_ofGuard ∈ Wall := in_wall (List.mem_of_getElem? (i := 623) (by decide +kernel)) rfl
theorem ws_D_ofGuard : Jvm.Cond.selects R_D y_D_ofGuard y_D_ofGuard ∈ Wall := List.mem_filter.mpr ⟨List.mem_append_left _ (by decide +kernel), rfl⟩
set_option maxRecDepth 20000 in
theorem wi_D_ofSealer : Jvm.Cond.instanceMethod y_D_ofSealer ∈ Wall := in_wall (List.mem_of_getElem? (i := 627) (by decide +kernel)) rfl
theorem ws_D_ofSealer : Jvm.Cond.selects R_D y_D_ofSealer y_D_ofSealer ∈ Wall := List.mem_filter.mpr ⟨List.mem_append_left _ (by decide +kernel), rfl⟩
set_option maxRecDepth 20000 in
theorem wi_D_ofUnsealer : Jvm.Cond.instanceMethod y_D_ofUnsealer ∈ Wall := in_wall (List.mem_of_getElem? (i := 631) (by decide +kernel)) rfl
theorem ws_D_ofUnsealer : Jvm.Cond.selects R_D y_D_ofUnsealer y_D_ofUnsealer ∈ Wall := List.mem_filter.mpr ⟨List.mem_append_left _ (by decide +kernel), rfl⟩
set_option maxRecDepth 20000 in
theorem wi_D_ofMint : Jvm.Cond.instanceMethod y_D_ofMint ∈ Wall := in_wall (List.mem_of_getElem? (i := 639) (by decide +kernel)) rfl
theorem ws_D_ofMint : Jvm.Cond.selects R_D y_D_ofMint y_D_ofMint ∈ Wall := List.mem_filter.mpr ⟨List.mem_append_left _ (by decide +kernel), rfl⟩
set_option maxRecDepth 20000 in
theorem wi_D_ofPurse : Jvm.Cond.instanceMethod y_D_ofPurse ∈ Wall := in_wall (List.mem_of_getElem? (i := 644) (by decide +kernel)) rfl
theorem ws_D_ofPurse : Jvm.Cond.selects R_D y_D_ofPurse y_D_ofPurse ∈ Wall := List.mem_filter.mpr ⟨List.mem_append_left _ (by decide +kernel), rfl⟩
set_option maxRecDepth 20000 in
theorem wi_D_relays : Jvm.Cond.instanceMethod y_D_relays ∈ Wall := in_wall (List.mem_of_getElem? (i := 607) (by decide +kernel)) rfl
theorem ws_D_relays : Jvm.Cond.selects R_D y_D_relays y_D_relays ∈ Wall := List.mem_filter.mpr ⟨List.mem_append_left _ (by decide +kernel), rfl⟩
set_option maxRecDepth 20000 in
theorem wi_D_wrap : Jvm.Cond.instanceMethod y_D_wrap ∈ Wall := in_wall (List.mem_of_getElem? (i := 611) (by decide +kernel)) rfl
theorem ws_D_wrap : Jvm.Cond.selects R_D y_D_wrap y_D_wrap ∈ Wall := List.mem_filter.mpr ⟨List.mem_append_left _ (by decide +kernel), rfl⟩
set_option maxRecDepth 20000 in
theorem wi_D_asNoted : Jvm.Cond.instanceMethod y_D_asNoted ∈ Wall := in_wall (List.mem_of_getElem? (i := 648) (by decide +kernel)) rfl
theorem ws_D_asNoted : Jvm.Cond.selects R_D y_D_asNoted y_D_asNoted ∈ Wall := List.mem_filter.mpr ⟨List.mem_append_left _ (by decide +kernel), rfl⟩
set_option maxRecDepth 20000 in
theorem wi_D_objects : Jvm.Cond.instanceMethod y_D_objects ∈ Wall := in_wall (List.mem_of_getElem? (i := 651) (by decide +kernel)) rfl
set_option maxRecDepth 20000 in
theorem ws_D_objects : Jvm.Cond.selects R_D y_D_objects y_D_objects ∈ Wall := in_wall (List.mem_of_getElem? (i := 652) (by decide +kernel)) rfl
set_option maxRecDepth 20000 in
theorem wi_D_kind : Jvm.Cond.instanceMethod y_D_kind ∈ Wall := in_wall (List.mem_of_getElem? (i := 655) (by decide +kernel)) rfl
set_option maxRecDepth 20000 in
theorem ws_D_kind : Jvm.Cond.selects R_D y_D_kind y_D_kind ∈ Wall := in_wall (List.mem_of_getElem? (i := 656) (by decide +kernel)) rfl
set_option maxRecDepth 20000 in
theorem wi_D_home : Jvm.Cond.instanceMethod y_D_home ∈ Wall := in_wall (List.mem_of_getElem? (i := 659) (by decide +kernel)) rfl
set_option maxRecDepth 20000 in
theorem ws_D_home : Jvm.Cond.selects R_D y_D_home y_D_home ∈ Wall := in_wall (List.mem_of_getElem? (i := 660) (by decide +kernel)) rfl
set_option maxRecDepth 20000 in
theorem wi_D_seen : Jvm.Cond.instanceMethod y_D_seen ∈ Wall := in_wall (List.mem_of_getElem? (i := 668) (by decide +kernel)) rfl
theorem ws_D_seen : Jvm.Cond.selects R_D y_D_seen y_D_seen ∈ Wall := List.mem_filter.mpr ⟨List.mem_append_left _ (by decide +kernel), rfl⟩
set_option maxRecDepth 20000 in
theorem wi_D_what : Jvm.Cond.instanceMethod y_D_what ∈ Wall := in_wall (List.mem_of_getElem? (i := 663) (by decide +kernel)) rfl
set_option maxRecDepth 20000 in
theorem ws_D_what : Jvm.Cond.selects R_D y_D_what y_D_what ∈ Wall := in_wall (List.mem_of_getElem? (i := 664) (by decide +kernel)) rfl
set_option maxRecDepth 20000 in
theorem wi_D_which : Jvm.Cond.instanceMethod y_D_which ∈ Wall := in_wall (List.mem_of_getElem? (i := 671) (by decide +kernel)) rfl
set_option maxRecDepth 20000 in
theorem ws_D_which : Jvm.Cond.selects R_D y_D_which y_D_which ∈ Wall := in_wall (List.mem_of_getElem? (i := 672) (by decide +kernel)) rfl
set_option maxRecDepth 20000 in
theorem wi_D_detail : Jvm.Cond.instanceMethod y_D_detail ∈ Wall := in_wall (List.mem_of_getElem? (i := 675) (by decide +kernel)) rfl
set_option maxRecDepth 20000 in
theorem ws_D_detail : Jvm.Cond.selects R_D y_D_detail y_D_detail ∈ Wall := in_wall (List.mem_of_getElem? (i := 676) (by decide +kernel)) rfl
set_option maxRecDepth 20000 in
theorem wi_D_messages : Jvm.Cond.instanceMethod y_D_messages ∈ Wall := in_wall (List.mem_of_getElem? (i := 679) (by decide +kernel)) rfl
set_option maxRecDepth 20000 in
theorem ws_D_messages : Jvm.Cond.selects R_D y_D_messages y_D_messages ∈ Wall := in_wall (List.mem_of_getElem? (i := 680) (by decide +kernel)) rfl
set_option maxRecDepth 20000 in
theorem wi_D_place : Jvm.Cond.instanceMethod y_D_place ∈ Wall := in_wall (List.mem_of_getElem? (i := 683) (by decide +kernel)) rfl
set_option maxRecDepth 20000 in
theorem ws_D_place : Jvm.Cond.selects R_D y_D_place y_D_place ∈ Wall := in_wall (List.mem_of_getElem? (i := 684) (by decide +kernel)) rfl
set_option maxRecDepth 20000 in
theorem wi_D_result : Jvm.Cond.instanceMethod y_D_result ∈ Wall := in_wall (List.mem_of_getElem? (i := 687) (by decide +kernel)) rfl
set_option maxRecDepth 20000 in
theorem ws_D_result : Jvm.Cond.selects R_D y_D_result y_D_result ∈ Wall := in_wall (List.mem_of_getElem? (i := 688) (by decide +kernel)) rfl
set_option maxRecDepth 20000 in
theorem wi_D_value : Jvm.Cond.instanceMethod y_D_value ∈ Wall := in_wall (List.mem_of_getElem? (i := 691) (by decide +kernel)) rfl
set_option maxRecDepth 20000 in
theorem ws_D_value : Jvm.Cond.selects R_D y_D_value y_D_value ∈ Wall := in_wall (List.mem_of_getElem? (i := 692) (by decide +kernel)) rfl
set_option maxRecDepth 20000 in
theorem wi_D_queued : Jvm.Cond.instanceMethod y_D_queued ∈ Wall := in_wall (List.mem_of_getElem? (i := 695) (by decide +kernel)) rfl
set_option maxRecDepth 20000 in
theorem ws_D_queued : Jvm.Cond.selects R_D y_D_queued y_D_queued ∈ Wall := in_wall (List.mem_of_getElem? (i := 696) (by decide +kernel)) rfl
set_option maxRecDepth 20000 in
theorem wi_D_next : Jvm.Cond.instanceMethod y_D_next ∈ Wall := in_wall (List.mem_of_getElem? (i := 703) (by decide +kernel)) rfl
set_option maxRecDepth 20000 in
theorem ws_D_next : Jvm.Cond.selects R_D y_D_next y_D_next ∈ Wall := in_wall (List.mem_of_getElem? (i := 704) (by decide +kernel)) rfl
set_option maxRecDepth 20000 in
theorem wi_D_waiting : Jvm.Cond.instanceMethod y_D_waiting ∈ Wall := in_wall (List.mem_of_getElem? (i := 707) (by decide +kernel)) rfl
set_option maxRecDepth 20000 in
theorem ws_D_waiting : Jvm.Cond.selects R_D y_D_waiting y_D_waiting ∈ Wall := in_wall (List.mem_of_getElem? (i := 708) (by decide +kernel)) rfl
set_option maxRecDepth 20000 in
theorem wi_D_notes : Jvm.Cond.instanceMethod y_D_notes ∈ Wall := in_wall (List.mem_of_getElem? (i := 711) (by decide +kernel)) rfl
set_option maxRecDepth 20000 in
theorem ws_D_notes : Jvm.Cond.selects R_D y_D_notes y_D_notes ∈ Wall := in_wall (List.mem_of_getElem? (i := 712) (by decide +kernel)) rfl
set_option maxRecDepth 20000 in
theorem wi_L_init : Jvm.Cond.instanceMethod y_L_init ∈ Wall := in_wall (List.mem_of_getElem? (i := 38) (by decide +kernel)) rfl
set_option maxRecDepth 20000 in
theorem wi_L_join : Jvm.Cond.instanceMethod y_L_join ∈ Wall := in_wall (List.mem_of_getElem? (i := 220) (by decide +kernel)) rfl
set_option maxRecDepth 20000 in
theorem ws_L_join : Jvm.Cond.selects R_L y_L_join y_L_join ∈ Wall := in_wall (List.mem_of_getElem? (i := 221) (by decide +kernel)) rfl
set_option maxRecDepth 20000 in
theorem wi_L_take : Jvm.Cond.instanceMethod y_L_take ∈ Wall := in_wall (List.mem_of_getElem? (i := 228) (by decide +kernel)) rfl
set_option maxRecDepth 20000 in
theorem ws_L_take : Jvm.Cond.selects R_L y_L_take y_L_take ∈ Wall := in_wall (List.mem_of_getElem? (i := 229) (by decide +kernel)) rfl
set_option maxRecDepth 20000 in
theorem wi_L_takeOver : Jvm.Cond.instanceMethod y_L_takeOver ∈ Wall := in_wall (List.mem_of_getElem? (i := 260) (by decide +kernel)) rfl
set_option maxRecDepth 20000 in
theorem ws_L_takeOver : Jvm.Cond.selects R_L y_L_takeOver y_L_takeOver ∈ Wall := in_wall (List.mem_of_getElem? (i := 261) (by decide +kernel)) rfl
set_option maxRecDepth 20000 in
theorem wi_L_withBefore : Jvm.Cond.instanceMethod y_L_withBefore ∈ Wall := in_wall (List.mem_of_getElem? (i := 427) (by decide +kernel)) rfl
set_option maxRecDepth 20000 in
theorem ws_L_withBefore : Jvm.Cond.selects R_L y_L_withBefore y_L_withBefore ∈ Wall := in_wall (List.mem_of_getElem? (i := 428) (by decide +kernel)) rfl
set_option maxRecDepth 20000 in
theorem wi_M_init : Jvm.Cond.instanceMethod y_M_init ∈ Wall := in_wall (List.mem_of_getElem? (i := 169) (by decide +kernel)) rfl
set_option maxRecDepth 20000 in
theorem wi_M_noteDown : Jvm.Cond.instanceMethod y_M_noteDown ∈ Wall := in_wall (List.mem_of_getElem? (i := 305) (by decide +kernel)) rfl
set_option maxRecDepth 20000 in
theorem ws_M_noteDown : Jvm.Cond.selects R_M y_M_noteDown y_M_noteDown ∈ Wall := in_wall (List.mem_of_getElem? (i := 306) (by decide +kernel)) rfl
set_option maxRecDepth 20000 in
theorem wi_R_init : Jvm.Cond.instanceMethod y_R_init ∈ Wall := in_wall (List.mem_of_getElem? (i := 18) (by decide +kernel)) rfl
set_option maxRecDepth 20000 in
theorem wi_R_isSame : Jvm.Cond.instanceMethod y_R_isSame ∈ Wall := in_wall (List.mem_of_getElem? (i := 293) (by decide +kernel)) rfl
set_option maxRecDepth 20000 in
theorem ws_R_isSame : Jvm.Cond.selects R_R y_R_isSame y_R_isSame ∈ Wall := in_wall (List.mem_of_getElem? (i := 294) (by decide +kernel)) rfl
set_option maxRecDepth 20000 in
theorem wi_H_init : Jvm.Cond.instanceMethod y_H_init ∈ Wall := in_wall (List.mem_of_getElem? (i := 90) (by decide +kernel)) rfl
set_option maxRecDepth 20000 in
theorem wi_H_holdsOne : Jvm.Cond.instanceMethod y_H_holdsOne ∈ Wall := in_wall (List.mem_of_getElem? (i := 385) (by decide +kernel)) rfl
set_option maxRecDepth 20000 in
theorem ws_H_holdsOne : Jvm.Cond.selects R_H y_H_holdsOne y_H_holdsOne ∈ Wall := in_wall (List.mem_of_getElem? (i := 386) (by decide +kernel)) rfl
set_option maxRecDepth 20000 in
theorem wi_H_isCutOff : Jvm.Cond.instanceMethod y_H_isCutOff ∈ Wall := in_wall (List.mem_of_getElem? (i := 273) (by decide +kernel)) rfl
set_option maxRecDepth 20000 in
theorem ws_H_isCutOff : Jvm.Cond.selects R_H y_H_isCutOff y_H_isCutOff ∈ Wall := in_wall (List.mem_of_getElem? (i := 274) (by decide +kernel)) rfl
set_option maxRecDepth 20000 in
theorem wi_O_init : Jvm.Cond.instanceMethod objectInit ∈ Wall := in_wall (List.mem_of_getElem? (i := 13) (by decide +kernel)) rfl
set_option maxRecDepth 20000 in
theorem wc_O_init : Jvm.Cond.code objectInit ⟨#[0xb1]⟩ 1 none ∈ Wall := in_wall (List.mem_of_getElem? (i := 14) rfl) rfl
set_option maxRecDepth 20000 in
theorem wn_V : Jvm.Cond.initialized R_V ∈ Wall := in_wall (List.mem_of_getElem? (i := 1) (by decide +kernel)) rfl
set_option maxRecDepth 20000 in
theorem wn_R : Jvm.Cond.initialized R_R ∈ Wall := in_wall (List.mem_of_getElem? (i := 2) (by decide +kernel)) rfl
set_option maxRecDepth 20000 in
theorem wn_H : Jvm.Cond.initialized R_H ∈ Wall := in_wall (List.mem_of_getElem? (i := 5) (by decide +kernel)) rfl
set_option maxRecDepth 20000 in
theorem wn_M : Jvm.Cond.initialized R_M ∈ Wall := in_wall (List.mem_of_getElem? (i := 6) (by decide +kernel)) rfl
set_option maxRecDepth 20000 in
theorem wn_L : Jvm.Cond.initialized R_L ∈ Wall := in_wall (List.mem_of_getElem? (i := 3) (by decide +kernel)) rfl
set_option maxRecDepth 20000 in
theorem wn_D : Jvm.Cond.initialized R_D ∈ Wall := in_wall (List.mem_of_getElem? (i := 4) (by decide +kernel)) rfl
set_option maxRecDepth 20000 in
theorem wn_W : Jvm.Cond.initialized R_W ∈ Wall := in_wall (List.mem_of_getElem? (i := 0) (by decide +kernel)) rfl
set_option maxRecDepth 20000 in
theorem wb_V : Jvm.Cond.instantiable R_V 8 ∈ Wall := in_wall (List.mem_of_getElem? (i := 8) (by decide +kernel)) rfl
set_option maxRecDepth 20000 in
theorem wb_R : Jvm.Cond.instantiable R_R 2 ∈ Wall := in_wall (List.mem_of_getElem? (i := 16) (by decide +kernel)) rfl
set_option maxRecDepth 20000 in
theorem wb_H : Jvm.Cond.instantiable R_H 11 ∈ Wall := in_wall (List.mem_of_getElem? (i := 88) (by decide +kernel)) rfl
set_option maxRecDepth 20000 in
theorem wb_M : Jvm.Cond.instantiable R_M 11 ∈ Wall := in_wall (List.mem_of_getElem? (i := 167) (by decide +kernel)) rfl
set_option maxRecDepth 20000 in
theorem wb_L : Jvm.Cond.instantiable R_L 3 ∈ Wall := in_wall (List.mem_of_getElem? (i := 36) (by decide +kernel)) rfl
set_option maxRecDepth 20000 in
theorem wb_D : Jvm.Cond.instantiable R_D 29 ∈ Wall := in_wall (List.mem_of_getElem? (i := 439) (by decide +kernel)) rfl
set_option maxRecDepth 20000 in
theorem wa_int : Jvm.Cond.arrayClass .int ∈ Wall := in_wall (List.mem_of_getElem? (i := 532) (by decide +kernel)) rfl
set_option maxRecDepth 20000 in
theorem wa_bool : Jvm.Cond.arrayClass .boolean ∈ Wall := in_wall (List.mem_of_getElem? (i := 533) (by decide +kernel)) rfl
set_option maxRecDepth 20000 in
theorem wv_V_300 : Jvm.Cond.constant R_V 300 1000000 ∈ Wall := in_wall (List.mem_of_getElem? (i := 343) (by decide +kernel)) rfl
set_option maxRecDepth 20000 in
theorem wv_D_178 : Jvm.Cond.constant R_D 178 1000001 ∈ Wall := in_wall (List.mem_of_getElem? (i := 641) (by decide +kernel)) rfl
end
section
/-! The layer of functional worlds: a value is an int or a nullable reference; a world is a partial map from addresses to cells; a call hands the whole world over. -/
abbrev fw_V : Type := Int32 ⊕ Option Nat
def fw_v : fw_V → Value
  | .inl x => .int x
  | .inr r => va_rf r
abbrev fw_E : Type := (Nat × Nat × ((Nat → Int32) ⊕ (Nat → Option Nat))) ⊕ (Nat × List fw_V)
abbrev fw_W : Type := Nat → Option fw_E
abbrev fw_T : Type := va_G × List vw_C × List (ClassId × FieldType)
def fw_c (T : fw_T) (t : Nat) : ClassId := ((T.2.2[t]?).map Prod.fst).getD 0
def fw_e (T : fw_T) : fw_E → va_E
  | .inl (t, n, .inl f) => .inl (fw_c T t, n, .inl f)
  | .inl (t, n, .inr f) => .inl (fw_c T t, n, .inr (.inr (.inr (.inr f))))
  | .inr (ci, fs) => .inr (ci, fs.map fw_v)
def fw_P (T : fw_T) (w : fw_W) (H : Heap) : Prop := ∀ (a : Nat) (e : fw_E), w a = some e → va_at T.1 T.2.1 (a, fw_e T e) H
def fw_D (A : Nat → Prop) (w : fw_W) : Prop := ∀ (a : Nat) (e : fw_E), w a = some e → A a
def fw_A (w : fw_W) (sz : Nat) : Nat → Prop := fun q => (∃ e, w q = some e) ∨ sz ≤ q
def fw_K (T : fw_T) (U : State) : Prop := va_K T.1 T.2.1 T.2.2 U ∧ va_Nw fw_N1 U ∧ va_Nw fw_N2 U ∧ ∀ C, C ∈ fw_AL → va_AO C U
theorem fw_K.moved {T : fw_T} {s U : State} (hW : s.WarmedH U.vm) (h : fw_K T s) : fw_K T U := ⟨va_K.moved hW.alike h.1, va_Nw.warmM hW h.2.1, va_Nw.warmM hW h.2.2.1, fun C hC => (h.2.2.2 C hC).moved hW.alike⟩
theorem fw_K.same {T : fw_T} {s U : State} (hvm : s.vm = U.vm) (h : fw_K T s) : fw_K T U := ⟨va_K.moved (by rw [hvm]; exact Vm.Alike.refl _) h.1, va_Nw.same rfl hvm h.2.1, va_Nw.same rfl hvm h.2.2.1, fun C hC => (h.2.2.2 C hC).moved (by rw [hvm]; exact Vm.Alike.refl _)⟩
def fw_Pc (T : fw_T) (av : List fw_V) (w : fw_W) (sz : Nat) : Array Value → State → Prop := va_Pc (av.map fw_v) (fun U => U.heap.size = sz ∧ fw_P T w U.heap ∧ fw_K T U)
def fw_Qc (T : fw_T) (w : fw_W) (sz : Nat) (post : Option fw_V → fw_W → Prop) : Array Value → State → Outcome → State → Prop := fun _ st oc t =>
  (∃ (r : Option fw_V) (w' : fw_W), oc = .returned (r.map fw_v) ∧ post r w' ∧ fw_P T w' t.heap ∧ fw_K T t ∧ fw_D (fw_A w sz) w') ∧ va_F (fw_A w sz) st t
def Ct (l : Launch) (T : fw_T) (y : MethodName) (ws : List Jvm.Cond) (rm : Room) (av : List fw_V) (w : fw_W) (post : Option fw_V → fw_W → Prop) : Prop :=
  ∀ sz : Nat, Met l y ws rm (fw_Pc T av w sz) (fw_Qc T w sz post) rm.cells rm.slots (fw_A w sz)
/-- an instruction of a method's table: place, instruction, length, the next place, the place it jumps to, its number -/
abbrev fw_I : Type := Nat × Instr × Nat × Nat × Nat × Int32
/-- a method: code, locals, words, its class, room, answer's type, table, name -/
abbrev fw_G : Type := ByteArray × Nat × List Jvm.Cond × String × Room × Option FieldType × List fw_I × MethodName
abbrev gC (G : fw_G) : ByteArray := G.1
abbrev gL (G : fw_G) : Nat := G.2.1
abbrev gW (G : fw_G) : List Jvm.Cond := G.2.2.1
abbrev gO (G : fw_G) : String := G.2.2.2.1
abbrev gR (G : fw_G) : Room := G.2.2.2.2.1
abbrev gA (G : fw_G) : Option FieldType := G.2.2.2.2.2.1
abbrev gT (G : fw_G) : List fw_I := G.2.2.2.2.2.2.1
abbrev gY (G : fw_G) : MethodName := G.2.2.2.2.2.2.2
/-- a run of it: the machine's own, and the world at its start -/
abbrev fw_X : Type := Program × Launch × Env × State × MethodId × Array Value × List Frame × Method × Code × fw_W × (State → Prop)
abbrev xP (X : fw_X) : Program := X.1
abbrev xL (X : fw_X) : Launch := X.2.1
abbrev xE (X : fw_X) : Env := X.2.2.1
abbrev xS (X : fw_X) : State := X.2.2.2.1
abbrev xM (X : fw_X) : MethodId := X.2.2.2.2.1
abbrev xA (X : fw_X) : Array Value := X.2.2.2.2.2.1
abbrev xB (X : fw_X) : List Frame := X.2.2.2.2.2.2.1
abbrev xT (X : fw_X) : Method := X.2.2.2.2.2.2.2.1
abbrev xC (X : fw_X) : Code := X.2.2.2.2.2.2.2.2.1
abbrev xW (X : fw_X) : fw_W := X.2.2.2.2.2.2.2.2.2.1
abbrev xQ (X : fw_X) : State → Prop := X.2.2.2.2.2.2.2.2.2.2
/-- what it may change -/
def xF (X : fw_X) : Nat → Prop := fw_A (xW X) (xS X).heap.size
def fw_len (i : Instr) (n : Nat) : Nat := match i with
  | .iconst _ => 1
  | .bipush _ => 2
  | .sipush _ => 3
  | .ldc _ => 2
  | .ldc_w _ => 3
  | .dup2 => 1
  | .baload => 1
  | .bastore => 1
  | .aconst_null => 1
  | .iload _ => 2
  | .iload_n _ => 1
  | .aload _ => 2
  | .aload_n _ => 1
  | .istore _ => 2
  | .istore_n _ => 1
  | .astore _ => 2
  | .astore_n _ => 1
  | .iinc _ _ => 3
  | .iadd => 1
  | .isub => 1
  | .imul => 1
  | .iand => 1
  | .dup => 1
  | .dup_x1 => 1
  | .pop => 1
  | .getfield _ => 3
  | .putfield _ => 3
  | .new _ => 3
  | .newarray _ => 2
  | .anewarray _ => 3
  | .arraylength => 1
  | .iaload => 1
  | .iastore => 1
  | .aaload => 1
  | .aastore => 1
  | .goto _ => 3
  | .ifCond _ _ => 3
  | .if_icmp _ _ => 3
  | .if_acmp _ _ => 3
  | .ifnull _ => 3
  | .ifnonnull _ => 3
  | .invokevirtual _ => 3
  | .invokestatic _ => 3
  | .invokespecial _ => 3
  | .ireturn => 1
  | .areturn => 1
  | .return_ => 1
  | _ => n
def fw_ix (Ts : List Jvm.Cond) (own : String) (pc tg : Nat) (v : Int32) (i : Instr) : Bool := match i with
  | .iconst z => decide (Int32.ofInt z = v)
  | .bipush z => decide ((Int8.ofInt z).toInt32 = v)
  | .sipush z => decide ((Int16.ofInt z).toInt32 = v)
  | .iinc _ z => decide (Int32.ofInt z = v)
  | .ldc i => decide (Jvm.Cond.constant own i v ∈ Ts)
  | .ldc_w i => decide (Jvm.Cond.constant own i v ∈ Ts)
  | .goto o => decide ((pc : Int) + o = (tg : Int))
  | .ifCond _ o => decide ((pc : Int) + o = (tg : Int))
  | .if_icmp _ o => decide ((pc : Int) + o = (tg : Int))
  | .if_acmp _ o => decide ((pc : Int) + o = (tg : Int))
  | .ifnull o => decide ((pc : Int) + o = (tg : Int))
  | .ifnonnull o => decide ((pc : Int) + o = (tg : Int))
  | _ => true
def fw_iok (cc : ByteArray) (Ts : List Jvm.Cond) (own : String) (q : fw_I) : Bool :=
  decide (decode cc q.1 = .ok (q.2.1, q.2.2.1)) && (decide (q.2.2.2.1 = q.1 + q.2.2.1) && (decide (q.2.2.1 = fw_len q.2.1 q.2.2.1) && fw_ix Ts own q.1 q.2.2.2.2.1 q.2.2.2.2.2 q.2.1))
def fw_tok (cc : ByteArray) (Ts : List Jvm.Cond) (own : String) : List fw_I → Bool
  | [] => true
  | [q] => fw_iok cc Ts own q
  | q :: q2 :: r => fw_iok cc Ts own q && (decide (q.2.2.2.1 = q2.1) && fw_tok cc Ts own (q2 :: r))
def fw_ok (T : fw_T) (G : fw_G) (X : fw_X) : Prop :=
  CallFix (xP X) (xM X) (xC X) (gC G) (gL G) (xS X) (xA X) (gW G) (gO G) ∧ fw_K T (xS X) ∧ (xT X).sig.returnType = gA G ∧ (xT X).locks = false ∧ fw_tok (gC G) (gW G) (gO G) (gT G) = true ∧ (xT X).name = (gY G).name
/-- the locals hold L -/
def fw_l (ls : Array Slot) (nL : Nat) (L : List (Option fw_V)) : Prop := ∃ l : List (Nat × Value), lv_has ls nL l ∧ L.length = nL ∧ ∀ (i : Nat) (v : fw_V), L[i]? = some (some v) → (i, fw_v v) ∈ l
/-- a method's own end: it answers with post -/
def fw_ends (T : fw_T) (G : fw_G) (X : fw_X) (post : Option fw_V → fw_W → Prop) : Prop := xQ X = MQ (xB X) (fw_Qc T (xW X) (xS X).heap.size post) (xA X) (xS X) (gR G).cells (gR G).slots (xF X)
/-- from here it comes to its end -/
def J (T : fw_T) (G : fw_G) (X : fw_X) (pc : Nat) (L : List (Option fw_V)) (S : List fw_V) (w : fw_W) (k n : Nat) : Prop :=
  ∀ (H : Heap) (locs : List Loc) (ls : Array Slot), fw_l ls (gL G) L → fw_P T w H → fw_D (xF X) w → va_S (xF X) (xS X).heap H locs →
    W (xP X) (xL X) (xE X) (gR G) (xS X) (xM X) (xA X) (xB X) (xT X) (xC X) H locs k n (xQ X)
      (F0 (xM X) pc ls (S.map fw_v))
def fw_from : List fw_I → Nat → List fw_I
  | [], _ => []
  | q :: r, pc => bif q.1 == pc then q :: r else fw_from r pc
def fw_force {α : Type} : List (Option fw_V) → (List (Option fw_V) → α) → α
  | [], k => k []
  | x :: r, k => fw_force r (fun r' => k (x :: r'))
theorem fw_force_eq {α : Type} : ∀ (L : List (Option fw_V)) (k : List (Option fw_V) → α), fw_force L k = k L
  | [], _ => rfl
  | _ :: r, _ => fw_force_eq r _
/-- a silent instruction -/
def fw_st (i : Instr) (v : Int32) (L : List (Option fw_V)) (S : List fw_V) : Option (List (Option fw_V) × List fw_V) :=
  match i with
  | .iconst _ => some (L, .inl v :: S)
  | .bipush _ => some (L, .inl v :: S)
  | .sipush _ => some (L, .inl v :: S)
  | .ldc _ => some (L, .inl v :: S)
  | .ldc_w _ => some (L, .inl v :: S)
  | .aconst_null => some (L, .inr none :: S)
  | .iload k => match L[k]? with
    | some (some (.inl x)) => some (L, .inl x :: S)
    | _ => none
  | .iload_n k => match L[k.val]? with
    | some (some (.inl x)) => some (L, .inl x :: S)
    | _ => none
  | .aload k => match L[k]? with
    | some (some (.inr x)) => some (L, .inr x :: S)
    | _ => none
  | .aload_n k => match L[k.val]? with
    | some (some (.inr x)) => some (L, .inr x :: S)
    | _ => none
  | .istore k => match S with
    | .inl x :: S => match L[k]? with
      | some _ => fw_force (L.set k (some (.inl x))) (fun L' => some (L', S))
      | none => none
    | _ => none
  | .istore_n k => match S with
    | .inl x :: S => match L[k.val]? with
      | some _ => fw_force (L.set k.val (some (.inl x))) (fun L' => some (L', S))
      | none => none
    | _ => none
  | .astore k => match S with
    | .inr x :: S => match L[k]? with
      | some _ => fw_force (L.set k (some (.inr x))) (fun L' => some (L', S))
      | none => none
    | _ => none
  | .astore_n k => match S with
    | .inr x :: S => match L[k.val]? with
      | some _ => fw_force (L.set k.val (some (.inr x))) (fun L' => some (L', S))
      | none => none
    | _ => none
  | .iinc k _ => match L[k]? with
    | some (some (.inl x)) => fw_force (L.set k (some (.inl (x + v)))) (fun L' => some (L', S))
    | _ => none
  | .iadd => match S with
    | .inl y :: .inl x :: S => some (L, .inl (x + y) :: S)
    | _ => none
  | .isub => match S with
    | .inl y :: .inl x :: S => some (L, .inl (x - y) :: S)
    | _ => none
  | .imul => match S with
    | .inl y :: .inl x :: S => some (L, .inl (x * y) :: S)
    | _ => none
  | .iand => match S with
    | .inl y :: .inl x :: S => some (L, .inl (x &&& y) :: S)
    | _ => none
  | .dup => match S with
    | x :: S => some (L, x :: x :: S)
    | _ => none
  | .dup_x1 => match S with
    | x :: y :: S => some (L, x :: y :: x :: S)
    | _ => none
  | .dup2 => match S with
    | x :: y :: S => some (L, x :: y :: x :: y :: S)
    | _ => none
  | .pop => match S with
    | _ :: S => some (L, S)
    | _ => none
  | _ => none
/-- runs the silent instructions, up to the first that isn't -/
def fw_go : List fw_I → List (Option fw_V) → List fw_V → Option (fw_I × List (Option fw_V) × List fw_V)
  | [], _, _ => none
  | (pc, i, len, nx, tg, v) :: r, L, S => match fw_st i v L S with
    | some (L', S') => fw_go r L' S'
    | none => some ((pc, i, len, nx, tg, v), L, S)
theorem fw_cat (v : fw_V) : (fw_v v).category = 1 := by
  rcases v with x | r
  · rfl
  · cases r <;> rfl
theorem fw_store {ls : Array Slot} {nL : Nat} {L : List (Option fw_V)} (hl : fw_l ls nL L) (i : Nat) (v : fw_V) : ∃ l : List (Nat × Value), lv_has ls nL l ∧ (∀ ls' : Array Slot, lv_has ls' nL ((i, fw_v v) :: l.filter (fun q => !(q.1 == i) && !(q.1 + 1 == i && q.2.category == 2))) → fw_l ls' nL (L.set i (some v))) ∧ ∀ (j : Nat) (u : fw_V), L[j]? = some (some u) → (j, fw_v u) ∈ l := by
  obtain ⟨l, h1, h2, h3⟩ := hl
  refine ⟨l, h1, fun ls' h' => ⟨_, h', by rw [List.length_set]; exact h2, fun j u hj => ?_⟩, h3⟩
  by_cases hji : j = i
  · subst hji
    have hlt : j < L.length := by
      have := (List.getElem?_eq_some_iff.mp hj).1
      rwa [List.length_set] at this
    rw [List.getElem?_set_self hlt] at hj
    cases hj
    exact List.mem_cons_self
  · rw [List.getElem?_set_ne (Ne.symm hji)] at hj
    refine List.mem_cons_of_mem _ (List.mem_filter.mpr ⟨h3 j u hj, ?_⟩)
    simp [hji, fw_cat]
theorem fw_load {ls : Array Slot} {nL : Nat} {L : List (Option fw_V)} (hl : fw_l ls nL L) {i : Nat} {v : fw_V} (h : L[i]? = some (some v)) : ls[i]? = some (.val (fw_v v)) := by
  obtain ⟨l, h1, h2, h3⟩ := hl
  exact h1.2.2 _ (h3 i v h)
theorem fw_lt {ls : Array Slot} {nL : Nat} {L : List (Option fw_V)} (hl : fw_l ls nL L) {i : Nat} (h : i < L.length) : i < nL := by
  obtain ⟨l, h1, h2, h3⟩ := hl
  omega
end
section
section FWST
variable {T : fw_T} {G : fw_G} {X : fw_X} {w : fw_W} {k n : Nat}
theorem fw_iok_spec {cc : ByteArray} {Ts : List Jvm.Cond} {own : String} {pc len nx tg : Nat} {i : Instr} {v : Int32} (h : fw_iok cc Ts own (pc, i, len, nx, tg, v) = true) : decode cc pc = .ok (i, len) ∧ nx = pc + len ∧ len = fw_len i len ∧ fw_ix Ts own pc tg v i = true := by
  simp only [fw_iok, Bool.and_eq_true, decide_eq_true_eq] at h
  exact h
set_option maxHeartbeats 4000000 in
theorem fw_st_ok (C : fw_ok T G X) {pc len nx tg : Nat} {i : Instr} {v : Int32} (hq : fw_iok (gC G) (gW G) (gO G) (pc, i, len, nx, tg, v) = true) {L L' : List (Option fw_V)} {S S' : List fw_V} (h : fw_st i v L S = some (L', S')) (kk : J T G X nx L' S' w k n) : J T G X pc L S w k n := by
  obtain ⟨hd, hn, hlen, hx2⟩ := fw_iok_spec hq
  obtain ⟨⟨hx, hb, hml, ho, hts⟩, hK, -⟩ := C
  subst hn
  intro H locs ls hl hP hD hS
  cases i
  case iconst z =>
    simp only [fw_len] at hlen; subst hlen
    simp only [fw_st, Option.some.injEq, Prod.mk.injEq] at h
    obtain ⟨rfl, rfl⟩ := h
    exact lv_iconst hx hb hd (of_decide_eq_true hx2) (kk H locs ls hl hP hD hS)
  case bipush z =>
    simp only [fw_len] at hlen; subst hlen
    simp only [fw_st, Option.some.injEq, Prod.mk.injEq] at h
    obtain ⟨rfl, rfl⟩ := h
    exact lv_bipush hx hb hd (of_decide_eq_true hx2) (kk H locs ls hl hP hD hS)
  case sipush z =>
    simp only [fw_len] at hlen; subst hlen
    simp only [fw_st, Option.some.injEq, Prod.mk.injEq] at h
    obtain ⟨rfl, rfl⟩ := h
    exact lv_sipush hx hb hd (of_decide_eq_true hx2) (kk H locs ls hl hP hD hS)
  case ldc z =>
    simp only [fw_len] at hlen; subst hlen
    simp only [fw_st, Option.some.injEq, Prod.mk.injEq] at h
    obtain ⟨rfl, rfl⟩ := h
    exact lv_ldc hx hb ho (hts _ (of_decide_eq_true hx2)) hd (kk H locs ls hl hP hD hS)
  case ldc_w z =>
    simp only [fw_len] at hlen; subst hlen
    simp only [fw_st, Option.some.injEq, Prod.mk.injEq] at h
    obtain ⟨rfl, rfl⟩ := h
    exact lv_ldcw hx hb ho (hts _ (of_decide_eq_true hx2)) hd (kk H locs ls hl hP hD hS)
  case dup2 =>
    simp only [fw_len] at hlen; subst hlen
    simp only [fw_st] at h
    split at h
    · simp only [Option.some.injEq, Prod.mk.injEq] at h
      obtain ⟨rfl, rfl⟩ := h
      exact lv_dup2_11 hx hb hd (fw_cat _) (fw_cat _) (kk H locs ls hl hP hD hS)
    · cases h
  case aconst_null =>
    simp only [fw_len] at hlen; subst hlen
    simp only [fw_st, Option.some.injEq, Prod.mk.injEq] at h
    obtain ⟨rfl, rfl⟩ := h
    exact lv_null hx hb hd (kk H locs ls hl hP hD hS)
  case iload j =>
    simp only [fw_len] at hlen; subst hlen
    simp only [fw_st] at h
    split at h
    · rename_i x hj
      simp only [Option.some.injEq, Prod.mk.injEq] at h
      obtain ⟨rfl, rfl⟩ := h
      exact lv_iload hx hb hd (fw_load hl hj) (kk H locs ls hl hP hD hS)
    · cases h
  case iload_n j =>
    simp only [fw_len] at hlen; subst hlen
    simp only [fw_st] at h
    split at h
    · rename_i x hj
      simp only [Option.some.injEq, Prod.mk.injEq] at h
      obtain ⟨rfl, rfl⟩ := h
      exact lv_iload_n hx hb hd rfl (fw_load hl hj) (kk H locs ls hl hP hD hS)
    · cases h
  case aload j =>
    simp only [fw_len] at hlen; subst hlen
    simp only [fw_st] at h
    split at h
    · rename_i x hj
      simp only [Option.some.injEq, Prod.mk.injEq] at h
      obtain ⟨rfl, rfl⟩ := h
      cases x with
      | none => exact lv_aloadN hx hb hd (fw_load hl hj) (kk H locs ls hl hP hD hS)
      | some x => exact lv_aload hx hb hd (fw_load hl hj) (kk H locs ls hl hP hD hS)
    · cases h
  case aload_n j =>
    simp only [fw_len] at hlen; subst hlen
    simp only [fw_st] at h
    split at h
    · rename_i x hj
      simp only [Option.some.injEq, Prod.mk.injEq] at h
      obtain ⟨rfl, rfl⟩ := h
      cases x with
      | none => exact lv_aload_nN hx hb hd rfl (fw_load hl hj) (kk H locs ls hl hP hD hS)
      | some x => exact lv_aload_n hx hb hd rfl (fw_load hl hj) (kk H locs ls hl hP hD hS)
    · cases h
  case istore j =>
    simp only [fw_len] at hlen; subst hlen
    cases S with
    | nil => simp only [fw_st] at h; cases h
    | cons s0 S =>
      cases s0 with
      | inr r => simp only [fw_st] at h; cases h
      | inl x =>
        simp only [fw_st, fw_force_eq] at h
        cases hj : L[j]? with
        | none => rw [hj] at h; cases h
        | some o =>
          rw [hj] at h
          simp only [Option.some.injEq, Prod.mk.injEq] at h
          obtain ⟨rfl, rfl⟩ := h
          obtain ⟨l, h1, h2, h3⟩ := fw_store hl j (.inl x)
          exact lv_istore hx hb hd h1 (fw_lt hl (List.getElem?_eq_some_iff.mp hj).1) rfl (fun ls' h' => kk H locs ls' (h2 ls' h') hP hD hS)
  case istore_n j =>
    simp only [fw_len] at hlen; subst hlen
    cases S with
    | nil => simp only [fw_st] at h; cases h
    | cons s0 S =>
      cases s0 with
      | inr r => simp only [fw_st] at h; cases h
      | inl x =>
        simp only [fw_st, fw_force_eq] at h
        cases hj : L[j.val]? with
        | none => rw [hj] at h; cases h
        | some o =>
          rw [hj] at h
          simp only [Option.some.injEq, Prod.mk.injEq] at h
          obtain ⟨rfl, rfl⟩ := h
          obtain ⟨l, h1, h2, h3⟩ := fw_store hl j.val (.inl x)
          exact lv_istore_n hx hb hd rfl h1 (fw_lt hl (List.getElem?_eq_some_iff.mp hj).1) rfl (fun ls' h' => kk H locs ls' (h2 ls' h') hP hD hS)
  case astore j =>
    simp only [fw_len] at hlen; subst hlen
    cases S with
    | nil => simp only [fw_st] at h; cases h
    | cons s0 S =>
      cases s0 with
      | inl r => simp only [fw_st] at h; cases h
      | inr x =>
        simp only [fw_st, fw_force_eq] at h
        cases hj : L[j]? with
        | none => rw [hj] at h; cases h
        | some o =>
          rw [hj] at h
          simp only [Option.some.injEq, Prod.mk.injEq] at h
          obtain ⟨rfl, rfl⟩ := h
          obtain ⟨l, h1, h2, h3⟩ := fw_store hl j (.inr x)
          cases x with
          | none => exact lv_astoreN hx hb hd h1 (fw_lt hl (List.getElem?_eq_some_iff.mp hj).1) rfl (fun ls' h' => kk H locs ls' (h2 ls' h') hP hD hS)
          | some x => exact lv_astore hx hb hd h1 (fw_lt hl (List.getElem?_eq_some_iff.mp hj).1) rfl (fun ls' h' => kk H locs ls' (h2 ls' h') hP hD hS)
  case astore_n j =>
    simp only [fw_len] at hlen; subst hlen
    cases S with
    | nil => simp only [fw_st] at h; cases h
    | cons s0 S =>
      cases s0 with
      | inl r => simp only [fw_st] at h; cases h
      | inr x =>
        simp only [fw_st, fw_force_eq] at h
        cases hj : L[j.val]? with
        | none => rw [hj] at h; cases h
        | some o =>
          rw [hj] at h
          simp only [Option.some.injEq, Prod.mk.injEq] at h
          obtain ⟨rfl, rfl⟩ := h
          obtain ⟨l, h1, h2, h3⟩ := fw_store hl j.val (.inr x)
          cases x with
          | none => exact lv_astore_nN hx hb hd rfl h1 (fw_lt hl (List.getElem?_eq_some_iff.mp hj).1) rfl (fun ls' h' => kk H locs ls' (h2 ls' h') hP hD hS)
          | some x => exact lv_astore_n hx hb hd rfl h1 (fw_lt hl (List.getElem?_eq_some_iff.mp hj).1) rfl (fun ls' h' => kk H locs ls' (h2 ls' h') hP hD hS)
  case iinc j z =>
    simp only [fw_len] at hlen; subst hlen
    simp only [fw_st, fw_force_eq] at h
    split at h
    · rename_i x hj
      simp only [Option.some.injEq, Prod.mk.injEq] at h
      obtain ⟨rfl, rfl⟩ := h
      have hv : Int32.ofInt z = v := of_decide_eq_true hx2
      obtain ⟨l, h1, h2, h3⟩ := fw_store hl j (.inl (x + v))
      obtain ⟨kq, hkq⟩ := List.getElem?_of_mem (h3 j _ hj)
      exact lv_iinc (k := kq) hx hb hd h1 hkq (by rw [hv]) (fw_lt hl (List.getElem?_eq_some_iff.mp hj).1) rfl (fun ls' h' => kk H locs ls' (h2 ls' h') hP hD hS)
    · cases h
  case iadd =>
    simp only [fw_len] at hlen; subst hlen
    simp only [fw_st] at h
    split at h
    · simp only [Option.some.injEq, Prod.mk.injEq] at h
      obtain ⟨rfl, rfl⟩ := h
      exact lv_iadd hx hb hd (kk H locs ls hl hP hD hS)
    · cases h
  case isub =>
    simp only [fw_len] at hlen; subst hlen
    simp only [fw_st] at h
    split at h
    · simp only [Option.some.injEq, Prod.mk.injEq] at h
      obtain ⟨rfl, rfl⟩ := h
      exact lv_isub hx hb hd (kk H locs ls hl hP hD hS)
    · cases h
  case imul =>
    simp only [fw_len] at hlen; subst hlen
    simp only [fw_st] at h
    split at h
    · simp only [Option.some.injEq, Prod.mk.injEq] at h
      obtain ⟨rfl, rfl⟩ := h
      exact lv_imul hx hb hd (kk H locs ls hl hP hD hS)
    · cases h
  case iand =>
    simp only [fw_len] at hlen; subst hlen
    simp only [fw_st] at h
    split at h
    · simp only [Option.some.injEq, Prod.mk.injEq] at h
      obtain ⟨rfl, rfl⟩ := h
      exact lv_iand hx hb hd (kk H locs ls hl hP hD hS)
    · cases h
  case dup =>
    simp only [fw_len] at hlen; subst hlen
    simp only [fw_st] at h
    split at h
    · simp only [Option.some.injEq, Prod.mk.injEq] at h
      obtain ⟨rfl, rfl⟩ := h
      exact lv_dup hx hb hd (fw_cat _) (kk H locs ls hl hP hD hS)
    · cases h
  case dup_x1 =>
    simp only [fw_len] at hlen; subst hlen
    simp only [fw_st] at h
    split at h
    · simp only [Option.some.injEq, Prod.mk.injEq] at h
      obtain ⟨rfl, rfl⟩ := h
      exact lv_dup_x1 hx hb hd (fw_cat _) (fw_cat _) (kk H locs ls hl hP hD hS)
    · cases h
  case pop =>
    simp only [fw_len] at hlen; subst hlen
    simp only [fw_st] at h
    split at h
    · simp only [Option.some.injEq, Prod.mk.injEq] at h
      obtain ⟨rfl, rfl⟩ := h
      exact lv_pop hx hb hd (fw_cat _) (kk H locs ls hl hP hD hS)
    · cases h
  all_goals (simp only [fw_st] at h; cases h)
end FWST
end
section
section FWR
variable {T : fw_T} {G : fw_G} {X : fw_X} {w : fw_W} {k n : Nat}
theorem fw_tok_head {cc : ByteArray} {Ts : List Jvm.Cond} {own : String} {q : fw_I} {r : List fw_I} (h : fw_tok cc Ts own (q :: r) = true) : fw_iok cc Ts own q = true := by
  cases r with
  | nil => exact h
  | cons q2 r =>
    simp only [fw_tok, Bool.and_eq_true] at h
    exact h.1
theorem fw_tok_tail {cc : ByteArray} {Ts : List Jvm.Cond} {own : String} {q : fw_I} {r : List fw_I} (h : fw_tok cc Ts own (q :: r) = true) : fw_tok cc Ts own r = true := by
  cases r with
  | nil => rfl
  | cons q2 r =>
    simp only [fw_tok, Bool.and_eq_true] at h
    exact h.2.2
theorem fw_tok_next {cc : ByteArray} {Ts : List Jvm.Cond} {own : String} {q q2 : fw_I} {r : List fw_I} (h : fw_tok cc Ts own (q :: q2 :: r) = true) : q.2.2.2.1 = q2.1 := by
  simp only [fw_tok, Bool.and_eq_true, decide_eq_true_eq] at h
  exact h.2.1
theorem fw_from_tok {cc : ByteArray} {Ts : List Jvm.Cond} {own : String} : ∀ (t : List fw_I) (pc : Nat), fw_tok cc Ts own t = true → fw_tok cc Ts own (fw_from t pc) = true
  | [], _, h => h
  | q :: r, pc, h => by
    unfold fw_from
    cases hq : q.1 == pc with
    | true => exact h
    | false => exact fw_from_tok r pc (fw_tok_tail h)
theorem fw_from_head : ∀ (t : List fw_I) (pc : Nat) (q : fw_I) (r : List fw_I), fw_from t pc = q :: r → q.1 = pc
  | [], _, _, _, h => by cases h
  | q0 :: r0, pc, q, r, h => by
    unfold fw_from at h
    cases hq : q0.1 == pc with
    | true => rw [hq] at h; cases h; exact eq_of_beq hq
    | false => rw [hq] at h; exact fw_from_head r0 pc q r h
theorem fw_go_ok (C : fw_ok T G X) : ∀ (t : List fw_I) (q0 : fw_I) (L : List (Option fw_V)) (S : List fw_V) (q : fw_I) (L' : List (Option fw_V)) (S' : List fw_V), fw_tok (gC G) (gW G) (gO G) (q0 :: t) = true → fw_go (q0 :: t) L S = some (q, L', S') →
    fw_iok (gC G) (gW G) (gO G) q = true ∧ (J T G X q.1 L' S' w k n → J T G X q0.1 L S w k n)
  | t, (pc, i, len, nx, tg, v), L, S, q, L', S', ht, h => by
    unfold fw_go at h
    cases hs : fw_st i v L S with
    | none =>
      rw [hs] at h
      cases h
      exact ⟨fw_tok_head ht, id⟩
    | some z =>
      obtain ⟨L1, S1⟩ := z
      rw [hs] at h
      cases t with
      | nil => cases h
      | cons q1 t =>
        obtain ⟨h1, h2⟩ := fw_go_ok C t q1 L1 S1 q L' S' (fw_tok_tail ht) h
        refine ⟨h1, fun kk => ?_⟩
        have hn := fw_tok_next ht
        exact fw_st_ok C (fw_tok_head ht) hs (by rw [show nx = q1.1 from hn]; exact h2 kk)
/-- runs the silent instructions -/
theorem fw_run (C : fw_ok T G X) {pc pc' len nx tg : Nat} {i : Instr} {v : Int32} {L L' : List (Option fw_V)} {S S' : List fw_V} (h : fw_go (fw_from (gT G) pc) L S = some ((pc', i, len, nx, tg, v), L', S')) :
    (decode (gC G) pc' = .ok (i, len) ∧ nx = pc' + len ∧ len = fw_len i len ∧ fw_ix (gW G) (gO G) pc' tg v i = true) ∧ (J T G X pc' L' S' w k n → J T G X pc L S w k n) := by
  have ht := fw_from_tok (gT G) pc C.2.2.2.2.1
  cases hf : fw_from (gT G) pc with
  | nil => rw [hf] at h; cases h
  | cons q r =>
    rw [hf] at h ht
    obtain ⟨h1, h2⟩ := fw_go_ok (w := w) (k := k) (n := n) C r q L S _ L' S' ht h
    have hq := fw_from_head _ _ _ _ hf
    subst hq
    exact ⟨fw_iok_spec h1, h2⟩
/-- a field: the class ci of the world's classes has it at place kf -/
def fw_fl (T : fw_T) (G : fw_G) (idx ci kf : Nat) : Prop := ∃ (C : String) (Tb : u_T) (N : Nat), T.2.1[ci]? = some (C, Tb, N) ∧ kf < N ∧ (∀ w ∈ u_ws C Tb N, w ∈ gW G) ∧ Jvm.Cond.fieldLink (gO G) idx (Tb kf).1 (Tb kf).2.1 (Tb kf).2.2.1 ∈ gW G
theorem j_get (C : fw_ok T G X) {pc pc' len nx tg idx ci kf a : Nat} {v : Int32} {L L' : List (Option fw_V)} {S S' : List fw_V} {fs : List fw_V} {u : fw_V} (h : fw_go (fw_from (gT G) pc) L S = some ((pc', .getfield idx, len, nx, tg, v), L', .inr (some a) :: S')) (hf : fw_fl T G idx ci kf) (hw : w a = some (.inr (ci, fs))) (hv : fs[kf]? = some u)
    (kk : J T G X nx L' (u :: S') w k n) : J T G X pc L S w k n := by
  obtain ⟨⟨hd, hn, hlen, -⟩, hrun⟩ := fw_run (w := w) (k := k) (n := n) C h
  refine hrun ?_
  obtain ⟨⟨hx, hb, hml, ho, hts⟩, ⟨hK, -⟩, -⟩ := C
  simp only [fw_len] at hlen; subst hlen; subst hn
  obtain ⟨Cn, Tb, N, hc, hk, hin, hlink⟩ := hf
  intro H locs ls hl hP hD hS
  have hP1 : va_P T.1 T.2.1 [(a, .inr (ci, fs.map fw_v))] H := fun j q hj => by
    cases j with
    | zero => cases hj; exact hP a _ hw
    | succ j => cases hj
  exact va_get hx hb hts hin ho hK hP1 0 rfl hc kf hk (hts _ hlink) (fun _ h => h) (v := fw_v u) (by rw [List.getElem?_map, hv]; rfl) hd (kk H locs ls hl hP hD hS)
/-- a field that may be written -/
def fw_fp (T : fw_T) (G : fw_G) (idx ci kf : Nat) (ty : FieldType) (fin : Bool) : Prop := ∃ (C : String) (Tb : u_T) (N : Nat) (ty0 : Nat → FieldType), T.2.1[ci]? = some (C, Tb, N) ∧ kf < N ∧ (∀ w ∈ u_ws C Tb N, w ∈ gW G) ∧ Jvm.Cond.fieldLink (gO G) idx (Tb kf).1 (Tb kf).2.1 (Tb kf).2.2.1 ∈ gW G ∧ (∀ k, k < N → parseFieldDescriptor (Tb k).2.2.1 = some (ty0 k)) ∧ (∀ a, a < N → ∀ b, b < N → a ≠ b → (Tb a).2.1 ≠ (Tb b).2.1) ∧ (Tb kf).2.2.2 = fin ∧ ty0 kf = ty ∧ (fin = true → (gY G).name = "<init>" ∧ (Tb kf).1 = gO G)
def fw_fit (ty : FieldType) (u : fw_V) : Prop := narrow ty (fw_v u) = fw_v u ∧ fits ty (fw_v u) = true
theorem fit_i (x : Int32) : fw_fit .int (.inl x) := ⟨rfl, rfl⟩
theorem fit_z0 : fw_fit .boolean (.inl 0) := ⟨by decide, by decide⟩
theorem fit_z1 : fw_fit .boolean (.inl 1) := ⟨by decide, by decide⟩
theorem fit_o (C : String) (r : Option Nat) : fw_fit (.object C) (.inr r) := by cases r <;> exact ⟨rfl, rfl⟩
theorem fit_a (t : FieldType) (r : Option Nat) : fw_fit (.array t) (.inr r) := by cases r <;> exact ⟨rfl, rfl⟩
theorem fw_P.up {w : fw_W} {H H1 : Heap} {a : Nat} {e : fw_E} (hP : fw_P T w H) (he : va_at T.1 T.2.1 (a, fw_e T e) H1) (oq : ∀ q : Nat, q ≠ a → q < H.size → H1[q]? = H[q]?) : fw_P T (va_up w a (some e)) H1 := by
  intro b e' hb
  by_cases hba : b = a
  · subst hba
    rw [va_up_self] at hb
    cases hb
    exact he
  · rw [va_up_ne _ _ hba] at hb
    exact (hP b e' hb).kept (oq b hba (hP b e' hb).lt)
theorem fw_D.up {A : Nat → Prop} {w : fw_W} {a : Nat} {e : fw_E} (hD : fw_D A w) (ha : A a) : fw_D A (va_up w a (some e)) := by
  intro b e' hb
  by_cases hba : b = a
  · subst hba; exact ha
  · rw [va_up_ne _ _ hba] at hb
    exact hD b e' hb
theorem fw_set_map (fs : List fw_V) (kf : Nat) (u : fw_V) : (fs.set kf u).map fw_v = (fs.map fw_v).set kf (fw_v u) := List.map_set
theorem j_put (C : fw_ok T G X) {pc pc' len nx tg idx ci kf a : Nat} {v : Int32} {L L' : List (Option fw_V)} {S S' : List fw_V} {fs : List fw_V} {u : fw_V} {ty : FieldType} {fin : Bool} (h : fw_go (fw_from (gT G) pc) L S = some ((pc', .putfield idx, len, nx, tg, v), L', u :: .inr (some a) :: S')) (hf : fw_fp T G idx ci kf ty fin) (hw : w a = some (.inr (ci, fs))) (hv : kf < fs.length) (hfit : fw_fit ty u)
    (kk : J T G X nx L' S' (va_up w a (some (.inr (ci, fs.set kf u)))) k n) : J T G X pc L S w k n := by
  obtain ⟨⟨hd, hn, hlen, -⟩, hrun⟩ := fw_run (w := w) (k := k) (n := n) C h
  refine hrun ?_
  obtain ⟨⟨hx, hb, hml, ho, hts⟩, ⟨hK, -⟩, -, -, -, hnm0⟩ := C
  simp only [fw_len] at hlen; subst hlen; subst hn
  obtain ⟨Cn, Tb, N, ty0, hc, hk, hin, hlink, hty, hnm, hfin, hty1, hini⟩ := hf
  intro H locs ls hl hP hD hS
  have hap := va_apart (own := gO G) hts hin ty0 hty hnm hK hc
  obtain ⟨r, h1, cell, q1, q2, q3, q4⟩ := hP a _ hw
  have hr : r = (Cn, Tb, N) := Option.some.inj (h1.symm.trans hc)
  subst hr
  obtain ⟨hSl, hfc, kC, hkC, hkind⟩ := hK.1 ci _ hc
  obtain ⟨cf, kf', fi, f, hi, hsl⟩ := hSl kf hk
  have hlay := hts _ (hin _ (u_in_lay hk))
  have hst := (u_facts hfc hkC (u_lays hts hin hk) hi).1
  have hd1 : parseFieldDescriptor (Tb kf).2.2.1 = some ty := by rw [hty kf hk, hty1]
  have key : ∀ (H1 : Heap), H1[a]? = some (cell.setSlot f.slot (fw_v u)) → H1.size = H.size → (∀ q : Nat, q ≠ a → H1[q]? = H[q]?) → W (xP X) (xL X) (xE X) (gR G) (xS X) (xM X) (xA X) (xB X) (xT X) (xC X) H1 (locs ++ [⟨a, f.slot⟩]) k n (xQ X) (F0 (xM X) (pc' + 3) ls (S'.map fw_v)) := by
    intro H1 e1 e2 e3
    rw [hsl] at e1
    refine kk H1 _ ls hl (hP.up ?_ (fun q hq _ => e3 q hq)) (hD.up (hD a _ hw)) (hS.put e2 e3 (hD a _ hw))
    refine ⟨_, hc, t_OB.to (V := updV (vp_V (fs.map fw_v)) kf (fw_v u)) ⟨_, e1, q2, q3, t_set q4 hap hk (fw_v u)⟩ (fun j _ => ?_)⟩
    show _ = vp_V ((fs.set kf u).map fw_v) j
    rw [fw_set_map]
    exact vp_updV_set (by rw [List.length_map]; exact hv) (fw_v u) j
  unfold u_lay at hlay
  cases fin with
  | false =>
    rw [if_neg (by rw [hfin]; decide)] at hlay
    have h6 := u_store hfc hkC hkind hlay hi hd1 hfit.1 hfit.2
    exact W.putK hx hb (f := f) ⟨ho, hts _ hlink, ⟨_, _, _, hi⟩, hst⟩ (by rw [q2]; exact h6) q1 q3 (by rw [hsl]; exact k2_hasslot (q4 kf hk)) rfl rfl hd key
  | true =>
    rw [if_pos hfin] at hlay
    obtain ⟨hin1, hdecl⟩ := hini rfl
    have hcf : (xM X).cls = cf := by
      obtain ⟨_, _, c', _, _, _, -, -, hf', -, -, -, hown2, -⟩ := Cond.laysFinal_spec hlay
      have e1 : c' = cf := by have := hi.symm.trans hf'; simp at this; exact this.1.symm
      rw [hdecl] at hown2
      rw [← e1]; exact Option.some.inj (ho.symm.trans hown2)
    have h6 := u_fits hfc hkC hkind (Or.inr hlay) hi hd1 hfit.1 hfit.2
    exact W.putFinK hx hb ho (hts _ hlink) hi hst hcf (hnm0.trans hin1) (by rw [q2]; exact h6) q1 q3 (by rw [hsl]; exact k2_hasslot (q4 kf hk)) rfl rfl hd key
/-- an object of class ci that can be made here -/
def fw_nw (T : fw_T) (G : fw_G) (idx ci N : Nat) (fs : List fw_V) : Prop := ∃ (C : String) (Tb : u_T) (ty : Nat → FieldType), T.2.1[ci]? = some (C, Tb, N) ∧ (∀ w ∈ u_ws C Tb N, w ∈ gW G) ∧ (∀ k, k < N → parseFieldDescriptor (Tb k).2.2.1 = some (ty k)) ∧ Jvm.Cond.classLink (gO G) idx C ∈ gW G ∧ Jvm.Cond.instantiable C N ∈ gW G ∧ Jvm.Cond.initialized C ∈ gW G ∧ (∀ j, j < N → defaultValue (ty j) = vp_V (fs.map fw_v) j)
theorem xF_new {H : Heap} {locs : List Loc} (hS : va_S (xF X) (xS X).heap H locs) : xF X H.size := Or.inr hS.1
theorem fw_none {H : Heap} (hP : fw_P T w H) : w H.size = none := by
  cases h : w H.size with
  | none => rfl
  | some e => exact absurd (hP _ e h).lt (Nat.lt_irrefl _)
theorem j_new (C : fw_ok T G X) {pc pc' len nx tg idx ci N : Nat} {v : Int32} {L L' : List (Option fw_V)} {S S' : List fw_V} {fs : List fw_V} (h : fw_go (fw_from (gT G) pc) L S = some ((pc', .new idx, len, nx, tg, v), L', S')) (hf : fw_nw T G idx ci N fs) (hcl : k + 1 ≤ (gR G).cells) (hsl : n + N ≤ (gR G).slots)
    (kk : ∀ q : Nat, w q = none → J T G X nx L' (.inr (some q) :: S') (va_up w q (some (.inr (ci, fs)))) (k + 1) (n + N)) : J T G X pc L S w k n := by
  obtain ⟨⟨hd, hn, hlen, -⟩, hrun⟩ := fw_run (w := w) (k := k) (n := n) C h
  refine hrun ?_
  obtain ⟨⟨hx, hb, hml, ho, hts⟩, ⟨hK, -⟩, -⟩ := C
  simp only [fw_len] at hlen; subst hlen; subst hn
  obtain ⟨Cn, Tb, ty, hc, hin, hty, hcln, hinst, hini, hfs⟩ := hf
  intro H locs ls hl hP hD hS
  have hKn := hK.1 ci _ hc
  refine W.newcK hx hb ho (hts _ hcln) (hts _ hinst) (hts _ hini) rfl hd hcl hsl hKn.2.1 rfl fun H1 kC hkC e1 z1 o1 => ?_
  exact kk H.size (fw_none hP) H1 locs ls hl (hP.up ⟨_, hc, (u_born ty hts hin hKn hkC e1 hty).to hfs⟩ (fun q _ hq => o1 q hq)) (hD.up (xF_new hS)) ⟨Nat.le_trans hS.1 (by omega), fun x h1 h2 => (o1 x (Nat.lt_of_lt_of_le h1 hS.1)).trans (hS.2.1 x h1 h2), hS.2.2⟩
end FWR
end
section
section FWR2
variable {T : fw_T} {G : fw_G} {X : fw_X} {w : fw_W} {k n : Nat}
/-- the array type t of the world's is of class C -/
def fw_ar (T : fw_T) (t : Nat) (ty : FieldType) : Prop := (T.2.2[t]?).map Prod.snd = some ty
theorem fw_ar_at {t : Nat} {ty : FieldType} (h : fw_ar T t ty) : T.2.2[t]? = some (fw_c T t, ty) := by
  unfold fw_ar at h
  unfold fw_c
  cases hq : T.2.2[t]? with
  | none => rw [hq] at h; cases h
  | some q =>
    rw [hq] at h
    obtain ⟨c, ty'⟩ := q
    cases h
    rfl
theorem fw_P.one {a : Nat} {e : fw_E} {H : Heap} (hP : fw_P T w H) (hw : w a = some e) : va_P T.1 T.2.1 [(a, fw_e T e)] H := fun j q hj => by
  cases j with
  | zero => cases hj; exact hP a _ hw
  | succ j => cases hj
theorem j_aald (C : fw_ok T G X) {pc pc' len nx tg t N a : Nat} {v i : Int32} {Cn : String} {f : Nat → Option Nat} {L L' : List (Option fw_V)} {S S' : List fw_V} (h : fw_go (fw_from (gT G) pc) L S = some ((pc', .aaload, len, nx, tg, v), L', .inl i :: .inr (some a) :: S')) (hw : w a = some (.inl (t, N, .inr f))) (ht : fw_ar T t (.object Cn)) (hin : vp_in i N)
    (kk : J T G X nx L' (.inr (f i.toNatClampNeg) :: S') w k n) : J T G X pc L S w k n := by
  obtain ⟨⟨hd, hn, hlen, -⟩, hrun⟩ := fw_run (w := w) (k := k) (n := n) C h
  refine hrun ?_
  obtain ⟨⟨hx, hb, hml, ho, hts⟩, ⟨hK, -⟩, -⟩ := C
  simp only [fw_len] at hlen; subst hlen; subst hn
  intro H locs ls hl hP hD hS
  exact va_aldq hx hb hK (hP.one hw) 0 t rfl (fw_ar_at ht) hin hd (kk H locs ls hl hP hD hS)
theorem j_iald (C : fw_ok T G X) {pc pc' len nx tg t N a : Nat} {v i : Int32} {f : Nat → Int32} {L L' : List (Option fw_V)} {S S' : List fw_V} (h : fw_go (fw_from (gT G) pc) L S = some ((pc', .iaload, len, nx, tg, v), L', .inl i :: .inr (some a) :: S')) (hw : w a = some (.inl (t, N, .inl f))) (ht : fw_ar T t .int) (hin : vp_in i N)
    (kk : J T G X nx L' (.inl (f i.toNatClampNeg) :: S') w k n) : J T G X pc L S w k n := by
  obtain ⟨⟨hd, hn, hlen, -⟩, hrun⟩ := fw_run (w := w) (k := k) (n := n) C h
  refine hrun ?_
  obtain ⟨⟨hx, hb, hml, ho, hts⟩, ⟨hK, -⟩, -⟩ := C
  simp only [fw_len] at hlen; subst hlen; subst hn
  intro H locs ls hl hP hD hS
  exact va_iald hx hb hK (hP.one hw) 0 t rfl (fw_ar_at ht) hin hd (kk H locs ls hl hP hD hS)
theorem j_iast (C : fw_ok T G X) {pc pc' len nx tg t N a : Nat} {v i x : Int32} {f : Nat → Int32} {L L' : List (Option fw_V)} {S S' : List fw_V} (h : fw_go (fw_from (gT G) pc) L S = some ((pc', .iastore, len, nx, tg, v), L', .inl x :: .inl i :: .inr (some a) :: S')) (hw : w a = some (.inl (t, N, .inl f))) (ht : fw_ar T t .int) (hin : vp_in i N)
    (kk : J T G X nx L' S' (va_up w a (some (.inl (t, N, .inl (va_up f i.toNatClampNeg x))))) k n) : J T G X pc L S w k n := by
  obtain ⟨⟨hd, hn, hlen, -⟩, hrun⟩ := fw_run (w := w) (k := k) (n := n) C h
  refine hrun ?_
  obtain ⟨⟨hx, hb, hml, ho, hts⟩, ⟨hK, -⟩, -⟩ := C
  simp only [fw_len] at hlen; subst hlen; subst hn
  intro H locs ls hl hP hD hS
  refine W.iast hx hb (hP a _ hw) ((hK.2 t _ (fw_ar_at ht)).1 N (fun j => .int (f j))) (fun q => by cases q) (by show ¬ (i < 0 ∨ (arrV _ _ _).slots.size ≤ _); rw [arrV_size]; exact hin) rfl rfl hd fun H1 e z oq => ?_
  refine kk H1 _ ls hl (hP.up ?_ (fun q hq _ => oq q hq)) (hD.up (hD a _ hw)) (hS.put z oq (hD a _ hw))
  show H1[a]? = some (vp_cell _ _)
  rw [e]
  dsimp only
  rw [vp_cell_i, vp_cell_i, arrV_store]
  congr 2
  funext q
  by_cases hq : q = i.toNatClampNeg
  · subst hq
    simp [updV, va_up]
  · simp [updV, va_up, hq]
/-- what may be put into an array of class C: nothing, or an object of the world's class ci, which is C -/
def fw_put (T : fw_T) (w : fw_W) (Cn : String) (r : Option Nat) : Prop := r = none ∨ ∃ (b ci N : Nat) (Tb : u_T) (fs : List fw_V), r = some b ∧ w b = some (.inr (ci, fs)) ∧ T.2.1[ci]? = some (Cn, Tb, N)
theorem j_aast (C : fw_ok T G X) {pc pc' len nx tg t N a : Nat} {v i : Int32} {r : Option Nat} {Cn : String} {f : Nat → Option Nat} {L L' : List (Option fw_V)} {S S' : List fw_V} (h : fw_go (fw_from (gT G) pc) L S = some ((pc', .aastore, len, nx, tg, v), L', .inr r :: .inl i :: .inr (some a) :: S')) (hw : w a = some (.inl (t, N, .inr f))) (ht : fw_ar T t (.object Cn)) (hin : vp_in i N) (hr : fw_put T w Cn r)
    (kk : J T G X nx L' S' (va_up w a (some (.inl (t, N, .inr (va_up f i.toNatClampNeg r))))) k n) : J T G X pc L S w k n := by
  obtain ⟨⟨hd, hn, hlen, -⟩, hrun⟩ := fw_run (w := w) (k := k) (n := n) C h
  refine hrun ?_
  obtain ⟨⟨hx, hb, hml, ho, hts⟩, ⟨hK, -⟩, -⟩ := C
  simp only [fw_len] at hlen; subst hlen; subst hn
  intro H locs ls hl hP hD hS
  have hlt : i.toNatClampNeg < N := Nat.not_le.mp fun q => hin (Or.inr q)
  have h0 : ¬ i < 0 := fun q => hin (Or.inl q)
  have key : ∀ (r : Option Nat) (H1 : Heap), H1[a]? = some ((vp_cell (fw_c T t) (N, .inr (.inr (.inr (.inr f))))).setSlot i.toNatClampNeg (va_rf r)) → va_at T.1 T.2.1 (a, fw_e T (.inl (t, N, .inr (va_up f i.toNatClampNeg r)))) H1 := by
    intro r H1 e
    show H1[a]? = some (vp_cell _ _)
    rw [e]
    dsimp only
    rw [vp_cell_q, vp_cell_q, arrV_store]
    congr 2
    funext q
    by_cases hq : q = i.toNatClampNeg
    · subst hq
      simp [updV, va_up]
    · simp [updV, va_up, hq]
  rcases hr with rfl | ⟨b, ci, N2, Tb, fs, rfl, hwb, hc⟩
  · refine va_WaastN (C := Cn) hx hb (hP a _ hw) ((hK.2 t _ (fw_ar_at ht)).1 N (fun j => va_rf (f j))) (fun h => by cases h) (by show ¬ (i < 0 ∨ (arrV _ _ _).slots.size ≤ _); rw [arrV_size]; exact hin) rfl rfl hd fun H1 e z oq => ?_
    exact kk H1 _ ls hl (hP.up (key none H1 e) (fun q hq _ => oq q hq)) (hD.up (hD a _ hw)) (hS.put z oq (hD a _ hw))
  · obtain ⟨r', hr', cellV, g1, g2, g3, -⟩ := hP b _ hwb
    have hcls := (hK.1 ci _ hc).2
    obtain ⟨kA, comp, k1, k2, k3, -⟩ := (hK.2 t _ (fw_ar_at ht)).2
    have hcomp : comp = T.1.1 ci := Option.some.inj (k3.symm.trans hcls.1)
    subst hcomp
    obtain ⟨kC, hkC, -⟩ := hcls.2
    refine W.aast hx hb (hP a _ hw) (fun q h => by cases h) (fun h => by cases h) k1 k2 rfl hkC ⟨h0, by show _ < (arrV _ _ _).slots.size; rw [arrV_size]; exact hlt⟩ g1 (fun q h => by rw [g3] at h; cases h) (by rw [g2]; exact hkC) (by rw [g2]; exact va_assign hcls) rfl rfl hd fun H1 e z oq => ?_
    exact kk H1 _ ls hl (hP.up (key (some b) H1 e) (fun q hq _ => oq q hq)) (hD.up (hD a _ hw)) (hS.put z oq (hD a _ hw))
theorem j_alen (C : fw_ok T G X) {pc pc' len nx tg t a N : Nat} {v : Int32} {f : (Nat → Int32) ⊕ (Nat → Option Nat)} {ty : FieldType} {L L' : List (Option fw_V)} {S S' : List fw_V} (h : fw_go (fw_from (gT G) pc) L S = some ((pc', .arraylength, len, nx, tg, v), L', .inr (some a) :: S')) (hw : w a = some (.inl (t, N, f))) (ht : fw_ar T t ty)
    (kk : J T G X nx L' (.inl (Int32.ofNat N) :: S') w k n) : J T G X pc L S w k n := by
  obtain ⟨⟨hd, hn, hlen, -⟩, hrun⟩ := fw_run (w := w) (k := k) (n := n) C h
  refine hrun ?_
  obtain ⟨⟨hx, hb, hml, ho, hts⟩, ⟨hK, -⟩, -⟩ := C
  simp only [fw_len] at hlen; subst hlen; subst hn
  intro H locs ls hl hP hD hS
  rcases f with f | f
  · exact va_alen hx hb hK (hP.one hw) 0 t (x := (N, .inl f)) rfl (fw_ar_at ht) rfl hd (kk H locs ls hl hP hD hS)
  · exact va_alen hx hb hK (hP.one hw) 0 t (x := (N, .inr (.inr (.inr (.inr f))))) rfl (fw_ar_at ht) rfl hd (kk H locs ls hl hP hD hS)
theorem j_newq (C : fw_ok T G X) {pc pc' len nx tg idx t N : Nat} {v x : Int32} {Cn : String} {L L' : List (Option fw_V)} {S S' : List fw_V} (h : fw_go (fw_from (gT G) pc) L S = some ((pc', .anewarray idx, len, nx, tg, v), L', .inl x :: S')) (ht : fw_ar T t (.object Cn)) (hw1 : Jvm.Cond.classLink (gO G) idx Cn ∈ gW G) (hw2 : Cn ∈ fw_AL) (hx0 : ¬ x < 0) (hxN : x.toNatClampNeg = N) (hby : N * 4 ≤ 536870912) (hcl : k + 1 ≤ (gR G).cells) (hsl : n + N ≤ (gR G).slots)
    (kk : ∀ q : Nat, w q = none → J T G X nx L' (.inr (some q) :: S') (va_up w q (some (.inl (t, N, .inr (fun _ => none))))) (k + 1) (n + N)) : J T G X pc L S w k n := by
  obtain ⟨⟨hd, hn, hlen, -⟩, hrun⟩ := fw_run (w := w) (k := k) (n := n) C h
  refine hrun ?_
  obtain ⟨⟨hx, hb, hml, ho, hts⟩, ⟨hK, -, -, hAO⟩, -⟩ := C
  simp only [fw_len] at hlen; subst hlen; subst hn; subst hxN
  intro H locs ls hl hP hD hS
  refine W.anew hx hb ho (hts _ hw1) (va_AO.use (hAO Cn hw2)) rfl hd rfl hx0 hby hcl hsl fun cA kA comp f1 f2 f3 f4 => ?_
  generalize hH1 : H.push ({ cls := cA, slots := Array.replicate x.toNatClampNeg .null, vm := .none } : Cell) = H1
  have z1 : H1.size = H.size + 1 := by rw [← hH1, Array.size_push]
  have e1 : H1[H.size]? = some (arrV cA x.toNatClampNeg (fun _ => .null)) := by rw [← hH1, Array.getElem?_push_size, ← arrV_new]
  have o1 : ∀ q : Nat, q < H.size → H1[q]? = H[q]? := fun q hq => by rw [← hH1, Array.getElem?_push, if_neg (Nat.ne_of_lt hq)]
  have hcA : cA = fw_c T t := by
    obtain ⟨_, _, _, _, _, k4⟩ := (hK.2 t _ (fw_ar_at ht)).2
    exact Option.some.inj (f1.symm.trans k4)
  refine kk H.size (fw_none hP) H1 locs ls hl (hP.up ?_ (fun q _ hq => o1 q hq)) (hD.up (xF_new hS)) ⟨Nat.le_trans hS.1 (by omega), fun q h1 h2 => (o1 q (Nat.lt_of_lt_of_le h1 hS.1)).trans (hS.2.1 q h1 h2), hS.2.2⟩
  show H1[H.size]? = some (vp_cell _ _)
  rw [e1, hcA]
  rfl
theorem j_newi (C : fw_ok T G X) {pc pc' len nx tg t N : Nat} {v x : Int32} {L L' : List (Option fw_V)} {S S' : List fw_V} (h : fw_go (fw_from (gT G) pc) L S = some ((pc', .newarray .int, len, nx, tg, v), L', .inl x :: S')) (ht : fw_ar T t .int) (hw1 : Jvm.Cond.arrayClass .int ∈ gW G) (hx0 : ¬ x < 0) (hxN : x.toNatClampNeg = N) (hby : N * 4 ≤ 536870912) (hcl : k + 1 ≤ (gR G).cells) (hsl : n + N ≤ (gR G).slots)
    (kk : ∀ q : Nat, w q = none → J T G X nx L' (.inr (some q) :: S') (va_up w q (some (.inl (t, N, .inl (fun _ => 0))))) (k + 1) (n + N)) : J T G X pc L S w k n := by
  obtain ⟨⟨hd, hn, hlen, -⟩, hrun⟩ := fw_run (w := w) (k := k) (n := n) C h
  refine hrun ?_
  obtain ⟨⟨hx, hb, hml, ho, hts⟩, ⟨hK, -⟩, -⟩ := C
  simp only [fw_len] at hlen; subst hlen; subst hn; subst hxN
  intro H locs ls hl hP hD hS
  refine va_newaK hx hb (atype := .int) (hts _ hw1) rfl hd rfl hx0 rfl hby hcl hsl rfl fun H1 cA e1 z1 o1 hAr hNm => ?_
  have hcA : cA = fw_c T t := by
    have k4 := (hK.2 t _ (fw_ar_at ht)).2
    exact Option.some.inj (hNm.symm.trans k4)
  refine kk H.size (fw_none hP) H1 locs ls hl (hP.up ?_ (fun q _ hq => o1 q hq)) (hD.up (xF_new hS)) ⟨Nat.le_trans hS.1 (by omega), fun q h1 h2 => (o1 q (Nat.lt_of_lt_of_le h1 hS.1)).trans (hS.2.1 q h1 h2), hS.2.2⟩
  show H1[H.size]? = some (vp_cell _ _)
  rw [e1, hcA]
  rfl
def fw_cmp (c : Jvm.ClassFile.Cond) (x y : Int32) : Prop := match c with
  | .eq => x = y
  | .ne => ¬ x = y
  | .lt => x < y
  | .ge => y ≤ x
  | .gt => y < x
  | .le => x ≤ y
theorem j_if (C : fw_ok T G X) {pc pc' len nx tg : Nat} {v x : Int32} {cd : Jvm.ClassFile.Cond} {o : Int} {L L' : List (Option fw_V)} {S S' : List fw_V} (h : fw_go (fw_from (gT G) pc) L S = some ((pc', .ifCond cd o, len, nx, tg, v), L', .inl x :: S'))
    (kt : fw_cmp cd x 0 → J T G X tg L' S' w k n) (kf : ¬ fw_cmp cd x 0 → J T G X nx L' S' w k n) : J T G X pc L S w k n := by
  obtain ⟨⟨hd, hn, hlen, htg⟩, hrun⟩ := fw_run (w := w) (k := k) (n := n) C h
  refine hrun ?_
  obtain ⟨⟨hx, hb, hml, ho, hts⟩, ⟨hK, -⟩, -⟩ := C
  simp only [fw_len] at hlen; subst hlen; subst hn
  have htg2 : (pc' : Int) + o = (tg : Int) := of_decide_eq_true htg
  intro H locs ls hl hP hD hS
  cases cd
  · exact lv_if_eq hx hb hd htg2 (fun q => kt q H locs ls hl hP hD hS) (fun q => kf q H locs ls hl hP hD hS)
  · exact lv_if_ne hx hb hd htg2 (fun q => kt q H locs ls hl hP hD hS) (fun q => kf (fun z => z q) H locs ls hl hP hD hS)
  · exact lv_if_lt hx hb hd htg2 (fun q => kt q H locs ls hl hP hD hS) (fun q => kf q H locs ls hl hP hD hS)
  · exact lv_if_ge hx hb hd htg2 (fun q => kt q H locs ls hl hP hD hS) (fun q => kf q H locs ls hl hP hD hS)
  · exact lv_if_gt hx hb hd htg2 (fun q => kt q H locs ls hl hP hD hS) (fun q => kf q H locs ls hl hP hD hS)
  · exact lv_if_le hx hb hd htg2 (fun q => kt q H locs ls hl hP hD hS) (fun q => kf q H locs ls hl hP hD hS)
theorem j_icmp (C : fw_ok T G X) {pc pc' len nx tg : Nat} {v x y : Int32} {cd : Jvm.ClassFile.Cond} {o : Int} {L L' : List (Option fw_V)} {S S' : List fw_V} (h : fw_go (fw_from (gT G) pc) L S = some ((pc', .if_icmp cd o, len, nx, tg, v), L', .inl y :: .inl x :: S'))
    (kt : fw_cmp cd x y → J T G X tg L' S' w k n) (kf : ¬ fw_cmp cd x y → J T G X nx L' S' w k n) : J T G X pc L S w k n := by
  obtain ⟨⟨hd, hn, hlen, htg⟩, hrun⟩ := fw_run (w := w) (k := k) (n := n) C h
  refine hrun ?_
  obtain ⟨⟨hx, hb, hml, ho, hts⟩, ⟨hK, -⟩, -⟩ := C
  simp only [fw_len] at hlen; subst hlen; subst hn
  have htg2 : (pc' : Int) + o = (tg : Int) := of_decide_eq_true htg
  intro H locs ls hl hP hD hS
  cases cd
  · exact lv_icmp_eq hx hb hd htg2 (fun q => kt q H locs ls hl hP hD hS) (fun q => kf q H locs ls hl hP hD hS)
  · exact lv_icmp_ne hx hb hd htg2 (fun q => kt q H locs ls hl hP hD hS) (fun q => kf (fun z => z q) H locs ls hl hP hD hS)
  · exact lv_icmp_lt hx hb hd htg2 (fun q => kt q H locs ls hl hP hD hS) (fun q => kf q H locs ls hl hP hD hS)
  · exact lv_icmp_ge hx hb hd htg2 (fun q => kt q H locs ls hl hP hD hS) (fun q => kf q H locs ls hl hP hD hS)
  · exact lv_icmp_gt hx hb hd htg2 (fun q => kt q H locs ls hl hP hD hS) (fun q => kf q H locs ls hl hP hD hS)
  · exact lv_icmp_le hx hb hd htg2 (fun q => kt q H locs ls hl hP hD hS) (fun q => kf q H locs ls hl hP hD hS)
def fw_acmp (c : Jvm.ClassFile.ACond) (x y : Option Nat) : Prop := match c with
  | .eq => x = y
  | .ne => ¬ x = y
theorem j_acmp (C : fw_ok T G X) {pc pc' len nx tg : Nat} {v : Int32} {x y : Option Nat} {cd : Jvm.ClassFile.ACond} {o : Int} {L L' : List (Option fw_V)} {S S' : List fw_V} (h : fw_go (fw_from (gT G) pc) L S = some ((pc', .if_acmp cd o, len, nx, tg, v), L', .inr y :: .inr x :: S'))
    (kt : fw_acmp cd x y → J T G X tg L' S' w k n) (kf : ¬ fw_acmp cd x y → J T G X nx L' S' w k n) : J T G X pc L S w k n := by
  obtain ⟨⟨hd, hn, hlen, htg⟩, hrun⟩ := fw_run (w := w) (k := k) (n := n) C h
  refine hrun ?_
  obtain ⟨⟨hx, hb, hml, ho, hts⟩, ⟨hK, -⟩, -⟩ := C
  simp only [fw_len] at hlen; subst hlen; subst hn
  have htg2 : (pc' : Int) + o = (tg : Int) := of_decide_eq_true htg
  intro H locs ls hl hP hD hS
  cases cd
  · exact lv_acmp_eq hx hb hd htg2 (fun q => kt q H locs ls hl hP hD hS) (fun q => kf q H locs ls hl hP hD hS)
  · exact lv_acmp_ne hx hb hd htg2 (fun q => kt q H locs ls hl hP hD hS) (fun q => kf (fun z => z q) H locs ls hl hP hD hS)
theorem j_ifnull (C : fw_ok T G X) {pc pc' len nx tg : Nat} {v : Int32} {x : Option Nat} {o : Int} {L L' : List (Option fw_V)} {S S' : List fw_V} (h : fw_go (fw_from (gT G) pc) L S = some ((pc', .ifnull o, len, nx, tg, v), L', .inr x :: S'))
    (kt : x = none → J T G X tg L' S' w k n) (kf : ∀ a, x = some a → J T G X nx L' S' w k n) : J T G X pc L S w k n := by
  obtain ⟨⟨hd, hn, hlen, htg⟩, hrun⟩ := fw_run (w := w) (k := k) (n := n) C h
  refine hrun ?_
  obtain ⟨⟨hx, hb, hml, ho, hts⟩, ⟨hK, -⟩, -⟩ := C
  simp only [fw_len] at hlen; subst hlen; subst hn
  have htg2 : (pc' : Int) + o = (tg : Int) := of_decide_eq_true htg
  intro H locs ls hl hP hD hS
  cases x with
  | none => exact lv_ifnullN hx hb hd htg2 (kt rfl H locs ls hl hP hD hS)
  | some a => exact lv_ifnull hx hb hd (kf a rfl H locs ls hl hP hD hS)
theorem j_ifnn (C : fw_ok T G X) {pc pc' len nx tg : Nat} {v : Int32} {x : Option Nat} {o : Int} {L L' : List (Option fw_V)} {S S' : List fw_V} (h : fw_go (fw_from (gT G) pc) L S = some ((pc', .ifnonnull o, len, nx, tg, v), L', .inr x :: S'))
    (kt : ∀ a, x = some a → J T G X tg L' S' w k n) (kf : x = none → J T G X nx L' S' w k n) : J T G X pc L S w k n := by
  obtain ⟨⟨hd, hn, hlen, htg⟩, hrun⟩ := fw_run (w := w) (k := k) (n := n) C h
  refine hrun ?_
  obtain ⟨⟨hx, hb, hml, ho, hts⟩, ⟨hK, -⟩, -⟩ := C
  simp only [fw_len] at hlen; subst hlen; subst hn
  have htg2 : (pc' : Int) + o = (tg : Int) := of_decide_eq_true htg
  intro H locs ls hl hP hD hS
  cases x with
  | none => exact lv_ifnonnullN hx hb hd (kf rfl H locs ls hl hP hD hS)
  | some a => exact lv_ifnonnull hx hb hd htg2 (kt a rfl H locs ls hl hP hD hS)
theorem j_goto (C : fw_ok T G X) {pc pc' len nx tg : Nat} {v : Int32} {o : Int} {L L' : List (Option fw_V)} {S S' : List fw_V} (h : fw_go (fw_from (gT G) pc) L S = some ((pc', .goto o, len, nx, tg, v), L', S'))
    (kt : J T G X tg L' S' w k n) : J T G X pc L S w k n := by
  obtain ⟨⟨hd, hn, hlen, htg⟩, hrun⟩ := fw_run (w := w) (k := k) (n := n) C h
  refine hrun ?_
  obtain ⟨⟨hx, hb, hml, ho, hts⟩, ⟨hK, -⟩, -⟩ := C
  simp only [fw_len] at hlen; subst hlen; subst hn
  have htg2 : (pc' : Int) + o = (tg : Int) := of_decide_eq_true htg
  intro H locs ls hl hP hD hS
  exact lv_goto hx hb hd htg2 (kt H locs ls hl hP hD hS)
/-- a table switch at a known number -/
theorem j_tsw (C : fw_ok T G X) {pc pc' len nx tg tgt : Nat} {v x : Int32} {d lo hi o : Int} {os : Array Int} {L L' : List (Option fw_V)} {S S' : List fw_V} (h : fw_go (fw_from (gT G) pc) L S = some ((pc', .tableswitch d lo hi os, len, nx, tg, v), L', .inl x :: S')) (h1 : ¬ x.toInt < lo) (h2 : ¬ hi < x.toInt) (ho : os[(x.toInt - lo).toNat]? = some o) (ht : (pc' : Int) + o = (tgt : Int))
    (kt : J T G X tgt L' S' w k n) : J T G X pc L S w k n := by
  obtain ⟨⟨hd, hn, hlen, -⟩, hrun⟩ := fw_run (w := w) (k := k) (n := n) C h
  refine hrun ?_
  obtain ⟨⟨hx, hb, hml, -, hts⟩, ⟨hK, -⟩, -⟩ := C
  intro H locs ls hl hP hD hS
  exact lv_tableIn hx hb hd h1 h2 ho ht (kt H locs ls hl hP hD hS)
theorem j_tsd (C : fw_ok T G X) {pc pc' len nx tg tgt : Nat} {v x : Int32} {d lo hi : Int} {os : Array Int} {L L' : List (Option fw_V)} {S S' : List fw_V} (h : fw_go (fw_from (gT G) pc) L S = some ((pc', .tableswitch d lo hi os, len, nx, tg, v), L', .inl x :: S')) (h1 : x.toInt < lo ∨ hi < x.toInt) (ht : (pc' : Int) + d = (tgt : Int))
    (kt : J T G X tgt L' S' w k n) : J T G X pc L S w k n := by
  obtain ⟨⟨hd, hn, hlen, -⟩, hrun⟩ := fw_run (w := w) (k := k) (n := n) C h
  refine hrun ?_
  obtain ⟨⟨hx, hb, hml, -, hts⟩, ⟨hK, -⟩, -⟩ := C
  intro H locs ls hl hP hD hS
  exact lv_tableOut hx hb hd h1 ht (kt H locs ls hl hP hD hS)
theorem j_lsw (C : fw_ok T G X) {pc pc' len nx tg tgt : Nat} {v x : Int32} {d o : Int} {ps : Array (Int × Int)} {L L' : List (Option fw_V)} {S S' : List fw_V} (h : fw_go (fw_from (gT G) pc) L S = some ((pc', .lookupswitch d ps, len, nx, tg, v), L', .inl x :: S')) (hp : (ps.toList.zip (ps.toList.drop 1)).all (fun (a, next) => a.1 < next.1) = true) (ho : Op.lookupswitch.offset ps.toList d x.toInt = o) (ht : (pc' : Int) + o = (tgt : Int))
    (kt : J T G X tgt L' S' w k n) : J T G X pc L S w k n := by
  obtain ⟨⟨hd, hn, hlen, -⟩, hrun⟩ := fw_run (w := w) (k := k) (n := n) C h
  refine hrun ?_
  obtain ⟨⟨hx, hb, hml, -, hts⟩, ⟨hK, -⟩, -⟩ := C
  intro H locs ls hl hP hD hS
  exact lv_lookup hx hb hd hp ho ht (kt H locs ls hl hP hD hS)
/-- more may be counted -/
theorem j_wide {pc k2 n2 : Nat} {L : List (Option fw_V)} {S : List fw_V} (h1 : k ≤ k2) (h2 : n ≤ n2) (kk : J T G X pc L S w k2 n2) : J T G X pc L S w k n :=
  fun H locs ls hl hP hD hS => W.widen h1 h2 (kk H locs ls hl hP hD hS)
theorem fw_end {post : Option fw_V → fw_W → Prop} {H : Heap} {locs : List Loc} {t : State} (r : Option fw_V) (hq : post r w) (hK : fw_K T (xS X)) (hP : fw_P T w H) (hD : fw_D (xF X) w) (hS : va_S (xF X) (xS X).heap H locs) (ht : t.heap = H) (hW : (xS X).WarmedH t.vm) : fw_Qc T (xW X) (xS X).heap.size post (xA X) (xS X) (.returned (r.map fw_v)) t :=
  ⟨⟨r, w, rfl, hq, by rw [ht]; exact hP, fw_K.moved hW hK, hD⟩, hS.F ht⟩
theorem j_iret {post : Option fw_V → fw_W → Prop} (C : fw_ok T G X) (E : fw_ends T G X post) {pc pc' len nx tg : Nat} {v x : Int32} {L L' : List (Option fw_V)} {S : List fw_V} (h : fw_go (fw_from (gT G) pc) L S = some ((pc', .ireturn, len, nx, tg, v), L', [.inl x])) (hr : gA G = some .int ∨ (gA G = some .boolean ∧ (x = 0 ∨ x = 1))) (h1 : k ≤ (gR G).cells) (h2 : n ≤ (gR G).slots) (hq : post (some (.inl x)) w) : J T G X pc L S w k n := by
  obtain ⟨⟨hd, hn, hlen, -⟩, hrun⟩ := fw_run (w := w) (k := k) (n := n) C h
  refine hrun (j_wide h1 h2 ?_)
  obtain ⟨⟨hx, hb, hml, ho, hts⟩, hK, hret, hlocks, -⟩ := C
  simp only [fw_len] at hlen; subst hlen; subst hn
  intro H locs ls hl hP hD hS
  rw [show xQ X = _ from E]
  rcases hr with hr | ⟨hr, h01⟩
  · exact W.iret hx hb (hret.trans hr) (fun t ht hW => fw_end (some (.inl x)) hq hK hP hD hS ht hW) hS.2.2 hd hlocks
  · exact W.zret hx hb (hret.trans hr) (by rcases h01 with rfl | rfl <;> decide) (fun t ht hW => fw_end (some (.inl x)) hq hK hP hD hS ht hW) hS.2.2 hd hlocks
theorem j_aret {post : Option fw_V → fw_W → Prop} (C : fw_ok T G X) (E : fw_ends T G X post) {pc pc' len nx tg : Nat} {v : Int32} {x : Option Nat} {Cn : String} {L L' : List (Option fw_V)} {S : List fw_V} (h : fw_go (fw_from (gT G) pc) L S = some ((pc', .areturn, len, nx, tg, v), L', [.inr x])) (hr : gA G = some (.object Cn)) (h1 : k ≤ (gR G).cells) (h2 : n ≤ (gR G).slots) (hq : post (some (.inr x)) w) : J T G X pc L S w k n := by
  obtain ⟨⟨hd, hn, hlen, -⟩, hrun⟩ := fw_run (w := w) (k := k) (n := n) C h
  refine hrun (j_wide h1 h2 ?_)
  obtain ⟨⟨hx, hb, hml, ho, hts⟩, hK, hret, hlocks, -⟩ := C
  simp only [fw_len] at hlen; subst hlen; subst hn
  intro H locs ls hl hP hD hS
  rw [show xQ X = _ from E]
  exact W.aret (v := va_rf x) hx hb (hret.trans hr) (Or.inl ⟨_, rfl⟩) (va_rf_or x) (fun t ht hW => fw_end (some (.inr x)) hq hK hP hD hS ht hW) hS.2.2 hd hlocks
theorem j_vret {post : Option fw_V → fw_W → Prop} (C : fw_ok T G X) (E : fw_ends T G X post) {pc pc' len nx tg : Nat} {v : Int32} {L L' : List (Option fw_V)} {S : List fw_V} (h : fw_go (fw_from (gT G) pc) L S = some ((pc', .return_, len, nx, tg, v), L', [])) (hr : gA G = none) (h1 : k ≤ (gR G).cells) (h2 : n ≤ (gR G).slots) (hq : post none w) : J T G X pc L S w k n := by
  obtain ⟨⟨hd, hn, hlen, -⟩, hrun⟩ := fw_run (w := w) (k := k) (n := n) C h
  refine hrun (j_wide h1 h2 ?_)
  obtain ⟨⟨hx, hb, hml, ho, hts⟩, hK, hret, hlocks, -⟩ := C
  simp only [fw_len] at hlen; subst hlen; subst hn
  intro H locs ls hl hP hD hS
  rw [show xQ X = _ from E]
  exact W.vret hx hb (hret.trans hr) (fun t ht hW => fw_end none hq hK hP hD hS ht hW) hS.2.2 hd hlocks
/-- Object's constructor -/
theorem j_obj (C : fw_ok T G X) {pc pc' len nx tg idx a : Nat} {v : Int32} {L L' : List (Option fw_V)} {S S' : List fw_V} (h : fw_go (fw_from (gT G) pc) L S = some ((pc', .invokespecial idx, len, nx, tg, v), L', .inr (some a) :: S')) (hw1 : Jvm.Cond.methodLink (gO G) idx objectInit ∈ gW G) (hw2 : Jvm.Cond.instanceMethod objectInit ∈ gW G) (hw3 : Jvm.Cond.code objectInit ⟨#[0xb1]⟩ 1 none ∈ gW G) (hfr : 1 ≤ (gR G).frames) (hlo : S'.length + 12 ≤ (gR G).locals)
    (kk : J T G X nx L' S' w k n) : J T G X pc L S w k n := by
  obtain ⟨⟨hd, hn, hlen, -⟩, hrun⟩ := fw_run (w := w) (k := k) (n := n) C h
  refine hrun ?_
  obtain ⟨⟨hx, hb, hml, ho, hts⟩, ⟨hK, -⟩, -⟩ := C
  simp only [fw_len] at hlen; subst hlen; subst hn
  intro H locs ls hl hP hD hS
  have hsum : ∀ (S : List fw_V), ((S.map fw_v).map fun v => v.category).sum = S.length := by
    intro S
    induction S with
    | nil => rfl
    | cons v S ih => simp only [List.map_cons, List.sum_cons, List.length_cons, ih, fw_cat]; omega
  obtain ⟨l0, hl1, hl2, hl3⟩ := hl
  refine W.objInit hx hb ho (hts _ hw1) (hts _ hw2) (hts _ hw3) rfl (by rw [hml]; exact hl1.1) rfl hd hfr ?_ (kk H locs ls ⟨l0, hl1, hl2, hl3⟩ hP hD hS)
  rw [hsum]
  show 2 * (F0 (xM X) pc' ls _).monitorRoom + _ + 12 ≤ _
  have : (F0 (xM X) pc' ls ((Sum.inr (some a) :: S').map fw_v)).monitorRoom = 0 := rfl
  omega
end FWR2
end
section
section FWC
variable {T : fw_T} {G : fw_G} {X : fw_X} {w : fw_W} {k n : Nat}
theorem fw_blind {av : List fw_V} {sz : Nat} : FrameBlind (fw_Pc T av w sz) := fun a U g mk q => by
  obtain ⟨q0, q1, qP, qK⟩ := q
  exact ⟨q0, q1, qP, fw_K.same (U := U.calling g mk a) rfl qK⟩
theorem fw_pre {av : List fw_V} {s U : State} {H : Heap} (hP : fw_P T w H) (hK : fw_K T s) (hU : U.heap = H) (hW : s.WarmedH U.vm) : fw_Pc T av w H.size (av.map fw_v).toArray U :=
  ⟨rfl, by rw [hU], by rw [hU]; exact hP, fw_K.moved hW hK⟩
theorem fw_after {p : Program} {l : Launch} {e : Env} {R : Room} {s : State} {m : MethodId} {args : Array Value} {below : List Frame} {meth : Method} {c : Code} {H : Heap} {locs : List Loc} {cells slots mc ms pc : Nat} {Q : State → Prop} {ls : Array Slot} {st0 rest : List Value} {A0 : Nat → Prop} {H0 : Heap} {a : Array Value} {post2 : Option fw_V → fw_W → Prop}
    (hr : va_Run p l e R s m args below meth c H locs cells slots mc ms (F0 m pc ls st0) rest (fw_Qc T w H.size post2 a) (fw_A w H.size)) (hD : fw_D A0 w) (hS : va_S A0 H0 H locs) (hA : ∀ q, H0.size ≤ q → A0 q)
    (kk : ∀ (r : Option fw_V) (w' : fw_W) (H1 : Heap) (locs1 : List Loc), post2 r w' → fw_P T w' H1 → fw_D A0 w' → va_S A0 H0 H1 locs1 → W p l e R s m args below meth c H1 locs1 (cells + mc) (slots + ms) Q (F0 m (pc + 3) ls ((r.map fw_v).toList ++ rest))) : W p l e R s m args below meth c H locs cells slots Q (F0 m pc ls st0) := by
  intro T0 hT X0
  obtain ⟨v, st₀, t, T', L, h0, X', hL, e1, e2, ⟨⟨r, w', hv, hp, hP', hK', hD'⟩, hz, hk⟩, st⟩ := hr T0 hT X0
  cases hv
  rw [h0] at hz hk
  have hin : ∀ q, fw_A w H.size q → A0 q := fun q h => by
    rcases h with ⟨e, h⟩ | h
    · exact hD q e h
    · exact hA q (Nat.le_trans hS.1 h)
  obtain ⟨t2, a1, b1⟩ := kk r w' T'.heap (locs ++ L) hp (by rw [e1]; exact hP') (fun q e h => hin q (hD' q e h))
    ⟨Nat.le_trans hS.1 (by rw [e1]; exact hz), fun q h1 h2 => by rw [e1, hk q (Nat.lt_of_lt_of_le h1 hS.1) (fun z => h2 (hin q z))]; exact hS.2.1 q h1 h2, fun q hq => by
      rcases List.mem_append.mp hq with h | h
      · exact hS.2.2 q h
      · exact hin _ (hL q h)⟩ T' rfl X'
  exact ⟨t2, st t2 a1, b1⟩
theorem fw_back (r : Option fw_V) (S : List fw_V) : (r.toList ++ S).map fw_v = (r.map fw_v).toList ++ S.map fw_v := by cases r <;> rfl
theorem fw_sum : ∀ (S : List fw_V), ((S.map fw_v).map fun v => v.category).sum = S.length
  | [] => rfl
  | v :: S => by simp only [List.map_cons, List.sum_cons, List.length_cons, fw_sum S, fw_cat]; omega
def fw_cV (G : fw_G) (idx : Nat) (y : MethodName) (bytes : ByteArray) (maxL : Nat) (ret : Option FieldType) (ws : List Jvm.Cond) (rm : Room) (nA : Nat) : Prop := ∀ (s : State) (args : Array Value), (∀ w ∈ gW G, w.before args s = true) → CallW (gR G) s args (gO G) y.cls idx y bytes maxL ret ws rm rm.cells rm.slots nA
def fw_cS (G : fw_G) (idx : Nat) (y : MethodName) (bytes : ByteArray) (maxL : Nat) (ret : Option FieldType) (ws : List Jvm.Cond) (rm : Room) (nA : Nat) : Prop := ∀ (s : State) (args : Array Value), (∀ w ∈ gW G, w.before args s = true) → CallB (gR G) s args (gO G) idx y bytes maxL ret ws rm rm.cells rm.slots nA ∧ (Cond.static y).before args s = true
def fw_cI (G : fw_G) (idx : Nat) (y : MethodName) (bytes : ByteArray) (maxL : Nat) (ws : List Jvm.Cond) (rm : Room) (nA : Nat) : Prop := ∀ (s : State) (args : Array Value), (∀ w ∈ gW G, w.before args s = true) → CallB (gR G) s args (gO G) idx y bytes maxL none ws rm rm.cells rm.slots nA ∧ y.name = "<init>" ∧ (Cond.instanceMethod y).before args s = true
theorem j_callV (C : fw_ok T G X) {pc pc' len nx tg idx nA maxL b ci N : Nat} {v : Int32} {L L' : List (Option fw_V)} {S S1 S' As : List fw_V} {y : MethodName} {bytes : ByteArray} {ret : Option FieldType} {ws : List Jvm.Cond} {rm : Room} {post2 : Option fw_V → fw_W → Prop} {Tb : u_T} {fs : List fw_V}
    (h : fw_go (fw_from (gT G) pc) L S = some ((pc', .invokevirtual idx, len, nx, tg, v), L', S1)) (hc : fw_cV G idx y bytes maxL ret ws rm nA) (hM : Ct (xL X) T y ws rm (.inr (some b) :: As) w post2) (hS1 : S1 = As.reverse ++ .inr (some b) :: S') (hn : As.length = nA) (hw : w b = some (.inr (ci, fs))) (hci : T.2.1[ci]? = some (y.cls, Tb, N)) (hst : S'.length ≤ 8) (h1 : k + rm.cells ≤ (gR G).cells) (h2 : n + rm.slots ≤ (gR G).slots)
    (kk : ∀ (r : Option fw_V) (w' : fw_W), post2 r w' → J T G X nx L' (r.toList ++ S') w' (k + rm.cells) (n + rm.slots)) : J T G X pc L S w k n := by
  obtain ⟨⟨hd, hnx, hlen, -⟩, hrun⟩ := fw_run (w := w) (k := k) (n := n) C h
  refine hrun ?_
  obtain ⟨S0, hK, -⟩ := C
  obtain ⟨hx, hb, hml, ho, hts⟩ := S0
  simp only [fw_len] at hlen; subst hlen; subst hnx; subst hS1
  intro H locs ls hl hP hD hS
  obtain ⟨l0, hl1, hl2, hl3⟩ := hl
  obtain ⟨r', g0, cell, g1, g2, g3, -⟩ := hP b _ hw
  have hr' : r' = (y.cls, Tb, N) := Option.some.inj (g0.symm.trans hci)
  subst hr'
  have hfc := (hK.1.1 ci _ hci).2.1
  refine fw_after (va_runV (As := As.map fw_v) (rest := S'.map fw_v) (b := b) ⟨hx, hb, hml, ho, hts⟩ (hM H.size) (hc _ _ hts) ⟨fw_blind, ⟨cell, g1, by rw [g3]; rfl, by rw [g2]; exact hfc⟩, fun U hU hW => fw_pre (av := .inr (some b) :: As) hP hK hU hW⟩ rfl (by rw [List.length_map]; exact hn) hl1.1 ?_ (lv_room (by rw [fw_sum]; exact hst)) hd ⟨h1, h2⟩) hD hS (fun q hq => Or.inr hq) (fun r w' H1 locs1 hp hP1 hD1 hS1 => ?_)
  · show (As.reverse ++ .inr (some b) :: S').map fw_v = _
    rw [List.map_append, List.map_reverse]
    rfl
  · rw [← fw_back]
    exact kk r w' hp H1 locs1 ls ⟨l0, hl1, hl2, hl3⟩ hP1 hD1 hS1
theorem j_callS (C : fw_ok T G X) {pc pc' len nx tg idx nA maxL : Nat} {v : Int32} {L L' : List (Option fw_V)} {S S1 S' As : List fw_V} {y : MethodName} {bytes : ByteArray} {ret : Option FieldType} {ws : List Jvm.Cond} {rm : Room} {post2 : Option fw_V → fw_W → Prop}
    (h : fw_go (fw_from (gT G) pc) L S = some ((pc', .invokestatic idx, len, nx, tg, v), L', S1)) (hc : fw_cS G idx y bytes maxL ret ws rm nA) (hM : Ct (xL X) T y ws rm As w post2) (hS1 : S1 = As.reverse ++ S') (hn : As.length = nA) (hst : S'.length ≤ 8) (h1 : k + rm.cells ≤ (gR G).cells) (h2 : n + rm.slots ≤ (gR G).slots)
    (kk : ∀ (r : Option fw_V) (w' : fw_W), post2 r w' → J T G X nx L' (r.toList ++ S') w' (k + rm.cells) (n + rm.slots)) : J T G X pc L S w k n := by
  obtain ⟨⟨hd, hnx, hlen, -⟩, hrun⟩ := fw_run (w := w) (k := k) (n := n) C h
  refine hrun ?_
  obtain ⟨S0, hK, -⟩ := C
  obtain ⟨hx, hb, hml, ho, hts⟩ := S0
  simp only [fw_len] at hlen; subst hlen; subst hnx; subst hS1
  intro H locs ls hl hP hD hS
  obtain ⟨l0, hl1, hl2, hl3⟩ := hl
  refine fw_after (va_runS (As := As.map fw_v) (rest := S'.map fw_v) ⟨hx, hb, hml, ho, hts⟩ (hM H.size) (hc _ _ hts) ⟨fw_blind, fun U hU hW => fw_pre (av := As) hP hK hU hW⟩ rfl (by rw [List.length_map]; exact hn) hl1.1 ?_ (lv_room (by rw [fw_sum]; exact hst)) hd ⟨h1, h2⟩) hD hS (fun q hq => Or.inr hq) (fun r w' H1 locs1 hp hP1 hD1 hS1 => ?_)
  · show (As.reverse ++ S').map fw_v = _
    rw [List.map_append, List.map_reverse]
  · rw [← fw_back]
    exact kk r w' hp H1 locs1 ls ⟨l0, hl1, hl2, hl3⟩ hP1 hD1 hS1
theorem j_callI (C : fw_ok T G X) {pc pc' len nx tg idx nA maxL b : Nat} {v : Int32} {L L' : List (Option fw_V)} {S S1 S' As : List fw_V} {y : MethodName} {bytes : ByteArray} {ws : List Jvm.Cond} {rm : Room} {post2 : Option fw_V → fw_W → Prop}
    (h : fw_go (fw_from (gT G) pc) L S = some ((pc', .invokespecial idx, len, nx, tg, v), L', S1)) (hc : fw_cI G idx y bytes maxL ws rm nA) (hM : Ct (xL X) T y ws rm (.inr (some b) :: As) w post2) (hS1 : S1 = As.reverse ++ .inr (some b) :: S') (hn : As.length = nA) (hst : S'.length ≤ 8) (h1 : k + rm.cells ≤ (gR G).cells) (h2 : n + rm.slots ≤ (gR G).slots)
    (kk : ∀ (r : Option fw_V) (w' : fw_W), post2 r w' → J T G X nx L' (r.toList ++ S') w' (k + rm.cells) (n + rm.slots)) : J T G X pc L S w k n := by
  obtain ⟨⟨hd, hnx, hlen, -⟩, hrun⟩ := fw_run (w := w) (k := k) (n := n) C h
  refine hrun ?_
  obtain ⟨S0, hK, -⟩ := C
  obtain ⟨hx, hb, hml, ho, hts⟩ := S0
  simp only [fw_len] at hlen; subst hlen; subst hnx; subst hS1
  intro H locs ls hl hP hD hS
  obtain ⟨l0, hl1, hl2, hl3⟩ := hl
  refine fw_after (va_runI (As := As.map fw_v) (rest := S'.map fw_v) (b := b) ⟨hx, hb, hml, ho, hts⟩ (hM H.size) (hc _ _ hts) ⟨fw_blind, fun U hU hW => fw_pre (av := .inr (some b) :: As) hP hK hU hW⟩ rfl (by rw [List.length_map]; exact hn) hl1.1 ?_ (lv_room (by rw [fw_sum]; exact hst)) hd ⟨h1, h2⟩) hD hS (fun q hq => Or.inr hq) (fun r w' H1 locs1 hp hP1 hD1 hS1 => ?_)
  · show (As.reverse ++ .inr (some b) :: S').map fw_v = _
    rw [List.map_append, List.map_reverse]
    rfl
  · rw [← fw_back]
    exact kk r w' hp H1 locs1 ls ⟨l0, hl1, hl2, hl3⟩ hP1 hD1 hS1
theorem fw_args_mem : ∀ (av : List fw_V) (j i : Nat) (v : fw_V), av[i]? = some v → (j + i, fw_v v) ∈ lv_args j (av.map fw_v)
  | [], _, i, v, h => by simp at h
  | a :: av, j, 0, v, h => by
    simp only [List.getElem?_cons_zero, Option.some.injEq] at h
    subst h
    exact List.mem_cons_self
  | a :: av, j, i + 1, v, h => by
    rw [List.getElem?_cons_succ] at h
    simp only [List.map_cons, lv_args, fw_cat]
    refine List.mem_cons_of_mem _ ?_
    have := fw_args_mem av (j + 1) i v h
    rw [show j + (i + 1) = j + 1 + i by omega]
    simpa using this
theorem fw_sl_len : ∀ (av : List fw_V), (lg_sl (av.map fw_v)).length = av.length
  | [] => rfl
  | a :: av => by
    have h := fw_sl_len av
    simp only [lg_sl, List.map_cons, List.flatMap_cons, List.length_append, List.length_cons] at h ⊢
    rw [h]
    have hc := fw_cat a
    simp [hc]
    omega
/-- a contract by its walk -/
theorem ct_of {post : Option fw_V → fw_W → Prop} {l : Launch} {y : MethodName} {ws ws' : List Jvm.Cond} {rm : Room} {av : List fw_V} (cc : ByteArray) (nL : Nat) (own : String) (ret : Option FieldType) (tab : List fw_I) (hG : G = (cc, nL, ws, own, rm, ret, tab, y)) (hy : plainName y.cls = true) (hws : ws = Jvm.Cond.code y cc nL ret :: ws') (hown : y.cls = own) (htab : fw_tok cc ws own tab = true) {L : List (Option fw_V)} (hL : L = av.map some ++ List.replicate (nL - av.length) none) (hlen : av.length ≤ nL)
    (kk : ∀ X : fw_X, xL X = l → fw_ok T G X → fw_ends T G X post → J T G X 0 L [] w 0 0) : Ct l T y ws rm av w post := by
  intro sz
  subst hG
  refine Met.ofW (cc := cc) (maxL := nL) (ret := ret) hy hws ?_
  intro p e s m args below meth c s₁ B hml hv
  obtain ⟨rfl, hsz, hP, hK⟩ := hv
  subst hsz
  have hl := lv_entry (av.map fw_v) (n := nL) (by rw [fw_sl_len]; exact hlen)
  rw [lg_entry_eq]
  generalize (lg_sl (av.map fw_v) ++ List.replicate (nL - (lg_sl (av.map fw_v)).length) Slot.unset).toArray = ls at hl ⊢
  have hts := atoms_spec (ws := ws) B.pre
  have hfc : s.vm.findClass own = some m.cls := by rw [← hown]; exact findClass_of_methodNamed B.named
  refine kk (p, l, e, s, m, (av.map fw_v).toArray, below, meth, c, w, MQ below (fw_Qc T w s.heap.size post) (av.map fw_v).toArray s rm.cells rm.slots (fw_A w s.heap.size)) rfl ⟨⟨B.exec, B.bytes, hml, hfc, hts⟩, hK, B.returns, B.notSynchronized, htab, (name_of_methodNamed B.named B.method).1⟩ (by rfl) s.heap [] ls ⟨_, hl, ?_, ?_⟩ hP (fun a e h => Or.inl ⟨e, h⟩) va_S.rf
  · rw [hL, List.length_append, List.length_map, List.length_replicate]
    show _ = nL
    omega
  · intro i v hi
    rw [hL] at hi
    have := fw_args_mem av 0 i v (by
      by_cases h : i < av.length
      · rw [List.getElem?_append_left (by rw [List.length_map]; exact h), List.getElem?_map] at hi
        cases hq : av[i]? with
        | none => rw [hq] at hi; cases hi
        | some u => rw [hq] at hi; cases hi; rfl
      · rw [List.getElem?_append_right (by rw [List.length_map]; omega), List.getElem?_replicate] at hi
        split at hi <;> cases hi)
    rwa [Nat.zero_add] at this
end FWC
end
section
section FWL
variable {T : fw_T} {G : fw_G} {X : fw_X} {w : fw_W} {k n : Nat}
/-- the script -/
theorem j_sld (C : fw_ok T G X) {pc pc' len nx tg b N : Nat} {v i : Int32} {xs : Nat → Int32} {L L' : List (Option fw_V)} {S S' : List fw_V} (hX : va_X b N xs (xS X) (xS X).heap) (hbl : b < (xS X).heap.size) (hbA : ¬ xF X b) (h : fw_go (fw_from (gT G) pc) L S = some ((pc', .iaload, len, nx, tg, v), L', .inl i :: .inr (some b) :: S')) (hin : vp_in i N)
    (kk : J T G X nx L' (.inl (xs i.toNatClampNeg) :: S') w k n) : J T G X pc L S w k n := by
  obtain ⟨⟨hd, hn, hlen, -⟩, hrun⟩ := fw_run (w := w) (k := k) (n := n) C h
  refine hrun ?_
  obtain ⟨⟨hx, hb, hml, ho, hts⟩, ⟨hK, -⟩, -⟩ := C
  simp only [fw_len] at hlen; subst hlen; subst hn
  intro H locs ls hl hP hD hS
  exact va_sld hx hb hX hbl hbA hS hin hd (kk H locs ls hl hP hD hS)
theorem j_slen (C : fw_ok T G X) {pc pc' len nx tg b N : Nat} {v : Int32} {xs : Nat → Int32} {L L' : List (Option fw_V)} {S S' : List fw_V} (hX : va_X b N xs (xS X) (xS X).heap) (hbl : b < (xS X).heap.size) (hbA : ¬ xF X b) (h : fw_go (fw_from (gT G) pc) L S = some ((pc', .arraylength, len, nx, tg, v), L', .inr (some b) :: S'))
    (kk : J T G X nx L' (.inl (Int32.ofNat N) :: S') w k n) : J T G X pc L S w k n := by
  obtain ⟨⟨hd, hn, hlen, -⟩, hrun⟩ := fw_run (w := w) (k := k) (n := n) C h
  refine hrun ?_
  obtain ⟨⟨hx, hb, hml, ho, hts⟩, ⟨hK, -⟩, -⟩ := C
  simp only [fw_len] at hlen; subst hlen; subst hn
  intro H locs ls hl hP hD hS
  exact va_slen hx hb hX hbl hbA hS hd (kk H locs ls hl hP hD hS)
/-- two worlds side by side -/
def fw_un (w1 w2 : fw_W) : fw_W := fun a => match w1 a with
  | some e => some e
  | none => w2 a
def fw_dj (w1 w2 : fw_W) : Prop := ∀ a, w1 a = none ∨ w2 a = none
theorem fw_un_l {w1 w2 : fw_W} {a : Nat} {e : fw_E} (h : w1 a = some e) : fw_un w1 w2 a = some e := by simp [fw_un, h]
theorem fw_un_comm {w1 w2 : fw_W} (h : fw_dj w1 w2) : fw_un w1 w2 = fw_un w2 w1 := by
  funext a
  rcases h a with h | h
  · simp only [fw_un, h]; cases w2 a <;> rfl
  · simp only [fw_un, h]; cases w1 a <;> rfl
theorem fw_dj.symm {w1 w2 : fw_W} (h : fw_dj w1 w2) : fw_dj w2 w1 := fun a => (h a).symm
theorem fw_un_or {w1 w2 : fw_W} {a : Nat} {e : fw_E} (h : fw_un w1 w2 a = some e) : w1 a = some e ∨ (w1 a = none ∧ w2 a = some e) := by
  unfold fw_un at h
  cases h1 : w1 a with
  | some x => rw [h1] at h; exact Or.inl h
  | none => rw [h1] at h; exact Or.inr ⟨rfl, h⟩
theorem fw_afterU {w1 w2 : fw_W} {p : Program} {l : Launch} {e : Env} {R : Room} {s : State} {m : MethodId} {args : Array Value} {below : List Frame} {meth : Method} {c : Code} {H : Heap} {locs : List Loc} {cells slots mc ms pc : Nat} {Q : State → Prop} {ls : Array Slot} {st0 rest : List Value} {A0 : Nat → Prop} {H0 : Heap} {a : Array Value} {post2 : Option fw_V → fw_W → Prop}
    (hr : va_Run p l e R s m args below meth c H locs cells slots mc ms (F0 m pc ls st0) rest (fw_Qc T w1 H.size post2 a) (fw_A w1 H.size)) (hP : fw_P T (fw_un w1 w2) H) (hdj : fw_dj w1 w2) (hD : fw_D A0 (fw_un w1 w2)) (hS : va_S A0 H0 H locs) (hA : ∀ q, H0.size ≤ q → A0 q)
    (kk : ∀ (r : Option fw_V) (w' : fw_W) (H1 : Heap) (locs1 : List Loc), post2 r w' → fw_dj w' w2 → fw_P T (fw_un w' w2) H1 → fw_D A0 (fw_un w' w2) → va_S A0 H0 H1 locs1 → W p l e R s m args below meth c H1 locs1 (cells + mc) (slots + ms) Q (F0 m (pc + 3) ls ((r.map fw_v).toList ++ rest))) : W p l e R s m args below meth c H locs cells slots Q (F0 m pc ls st0) := by
  intro T0 hT X0
  obtain ⟨v, st₀, t, T', L, h0, X', hL, e1, e2, ⟨⟨r, w', hv, hp, hP', hK', hD'⟩, hz, hk⟩, st⟩ := hr T0 hT X0
  cases hv
  rw [h0] at hz hk
  have hin : ∀ q, fw_A w1 H.size q → A0 q := fun q h => by
    rcases h with ⟨e, h⟩ | h
    · exact hD q e (fw_un_l h)
    · exact hA q (Nat.le_trans hS.1 h)
  have h2 : ∀ q e, w2 q = some e → w1 q = none ∧ fw_un w1 w2 q = some e := fun q e h => by
    rcases hdj q with h1 | h1
    · exact ⟨h1, by simp only [fw_un, h1]; exact h⟩
    · rw [h1] at h; cases h
  have hnA : ∀ q e, w2 q = some e → q < H.size ∧ ¬ fw_A w1 H.size q := fun q e h => by
    obtain ⟨h3, h4⟩ := h2 q e h
    have hlt := (hP q e h4).lt
    refine ⟨hlt, fun z => ?_⟩
    rcases z with ⟨e', z⟩ | z
    · rw [h3] at z; cases z
    · exact absurd hlt (Nat.not_lt.mpr z)
  have hdj' : fw_dj w' w2 := fun q => by
    cases hw : w2 q with
    | none => exact Or.inr rfl
    | some e =>
      left
      cases hw' : w' q with
      | none => rfl
      | some e' => exact absurd (hD' q e' hw') (hnA q e hw).2
  obtain ⟨t2, a1, b1⟩ := kk r w' T'.heap (locs ++ L) hp hdj' (fun q e h => by
      rcases fw_un_or h with h | ⟨-, h⟩
      · rw [e1]; exact hP' q e h
      · refine (hP q e (h2 q e h).2).kept ?_
        show T'.heap[q]? = H[q]?
        rw [e1]
        exact hk q (hnA q e h).1 (hnA q e h).2) (fun q e h => by
      rcases fw_un_or h with h | ⟨-, h⟩
      · exact hin q (hD' q e h)
      · exact hD q e (h2 q e h).2)
    ⟨Nat.le_trans hS.1 (by rw [e1]; exact hz), fun q h1 h2 => by rw [e1, hk q (Nat.lt_of_lt_of_le h1 hS.1) (fun z => h2 (hin q z))]; exact hS.2.1 q h1 h2, fun q hq => by
      rcases List.mem_append.mp hq with h | h
      · exact hS.2.2 q h
      · exact hin _ (hL q h)⟩ T' rfl X'
  exact ⟨t2, st t2 a1, b1⟩
theorem j_callU (C : fw_ok T G X) {w1 w2 : fw_W} {pc pc' len nx tg idx nA maxL b ci N : Nat} {v : Int32} {L L' : List (Option fw_V)} {S S1 S' As : List fw_V} {y : MethodName} {bytes : ByteArray} {ret : Option FieldType} {ws : List Jvm.Cond} {rm : Room} {post2 : Option fw_V → fw_W → Prop} {Tb : u_T} {fs : List fw_V}
    (h : fw_go (fw_from (gT G) pc) L S = some ((pc', .invokevirtual idx, len, nx, tg, v), L', S1)) (hc : fw_cV G idx y bytes maxL ret ws rm nA) (hdj : fw_dj w1 w2) (hM : Ct (xL X) T y ws rm (.inr (some b) :: As) w1 post2) (hS1 : S1 = As.reverse ++ .inr (some b) :: S') (hn : As.length = nA) (hw : w1 b = some (.inr (ci, fs))) (hci : T.2.1[ci]? = some (y.cls, Tb, N)) (hst : S'.length ≤ 8) (h1 : k + rm.cells ≤ (gR G).cells) (h2 : n + rm.slots ≤ (gR G).slots)
    (kk : ∀ (r : Option fw_V) (w' : fw_W), post2 r w' → fw_dj w' w2 → J T G X nx L' (r.toList ++ S') (fw_un w' w2) (k + rm.cells) (n + rm.slots)) : J T G X pc L S (fw_un w1 w2) k n := by
  obtain ⟨⟨hd, hnx, hlen, -⟩, hrun⟩ := fw_run (w := fw_un w1 w2) (k := k) (n := n) C h
  refine hrun ?_
  obtain ⟨S0, hK, -⟩ := C
  obtain ⟨hx, hb, hml, ho, hts⟩ := S0
  simp only [fw_len] at hlen; subst hlen; subst hnx; subst hS1
  intro H locs ls hl hP hD hS
  obtain ⟨l0, hl1, hl2, hl3⟩ := hl
  have hPw : fw_P T w1 H := fun q e h => hP q e (fw_un_l h)
  obtain ⟨r', g0, cell, g1, g2, g3, -⟩ := hPw b _ hw
  have hr' : r' = (y.cls, Tb, N) := Option.some.inj (g0.symm.trans hci)
  subst hr'
  have hfc := (hK.1.1 ci _ hci).2.1
  refine fw_afterU (va_runV (As := As.map fw_v) (rest := S'.map fw_v) (b := b) ⟨hx, hb, hml, ho, hts⟩ (hM H.size) (hc _ _ hts) ⟨fw_blind, ⟨cell, g1, by rw [g3]; rfl, by rw [g2]; exact hfc⟩, fun U hU hW => fw_pre (av := .inr (some b) :: As) hPw hK hU hW⟩ rfl (by rw [List.length_map]; exact hn) hl1.1 ?_ (lv_room (by rw [fw_sum]; exact hst)) hd ⟨h1, h2⟩) hP hdj hD hS (fun q hq => Or.inr hq) (fun r w' H1 locs1 hp hdj' hP1 hD1 hS1 => ?_)
  · show (As.reverse ++ .inr (some b) :: S').map fw_v = _
    rw [List.map_append, List.map_reverse]
    rfl
  · rw [← fw_back]
    exact kk r w' hp hdj' H1 locs1 ls ⟨l0, hl1, hl2, hl3⟩ hP1 hD1 hS1
end FWL
end
section
/-! What a method's proof stands on: the tables T, the words in its list; by program (wip/whole/gen.py). -/
def TOK (T : fw_T) : Prop := T.2.1 = cls ∧ fw_ar T aR (.object R_R) ∧ fw_ar T aT (.object R_H) ∧ fw_ar T aM (.object R_M) ∧ fw_ar T aL (.object R_L) ∧ fw_ar T aI .int ∧ fw_ar T aZ .boolean
def HV (T : fw_T) (G : fw_G) (own : String) : Prop := gO G = own ∧ TOK T ∧ ∀ x, x ∈ Wall → x ∈ gW G
theorem good_sub {G : fw_G} {ws : List Jvm.Cond} (hW : ∀ x, x ∈ Wall → x ∈ gW G) (h : ∀ w, w ∈ ws → w ∈ Wall) : GoodIn (gW G) ws := fun w hw => ⟨hW w (h w hw), good_of_word (List.mem_filter.mp (h w hw)).2⟩
theorem in_cons {c : Jvm.Cond} (h : c ∈ Wall) : ∀ w, w ∈ c :: Wall → w ∈ Wall := fun w hw => by
  rcases List.mem_cons.mp hw with e | e
  · rw [e]; exact h
  · exact e
theorem gv_of {own C : String} {idx n : Nat} {y : MethodName} {cc : ByteArray} {ret : Option FieldType} (h1 : Jvm.Cond.methodLink own idx y ∈ Wall) (h2 : Jvm.Cond.instanceMethod y ∈ Wall) (h3 : Jvm.Cond.selects C y y ∈ Wall) (h4 : Jvm.Cond.initialized C ∈ Wall) (h5 : Jvm.Cond.code y cc n ret ∈ Wall) : ∀ w, w ∈ wsV own idx C y (Jvm.Cond.code y cc n ret :: Wall) → w ∈ Wall := fun w hw => by
  rcases List.mem_append.mp hw with e | e
  · simp only [List.mem_cons, List.not_mem_nil, or_false] at e
    rcases e with e | e | e | e <;> rw [e] <;> assumption
  · exact in_cons h5 w e
theorem gs_of {own : String} {idx n : Nat} {y : MethodName} {cc : ByteArray} {ret : Option FieldType} (h1 : Jvm.Cond.methodLink own idx y ∈ Wall) (h2 : Jvm.Cond.static y ∈ Wall) (h4 : Jvm.Cond.initialized own ∈ Wall) (h5 : Jvm.Cond.code y cc n ret ∈ Wall) : ∀ w, w ∈ wsS own idx y (Jvm.Cond.code y cc n ret :: Wall) → w ∈ Wall := fun w hw => by
  rcases List.mem_append.mp hw with e | e
  · simp only [List.mem_cons, List.not_mem_nil, or_false] at e
    rcases e with e | e | e <;> rw [e] <;> assumption
  · exact in_cons h5 w e

theorem fp_V_V_nothing {T : fw_T} {G : fw_G} (h : HV T G R_V) (hi : (gY G).name = "<init>") : fw_fp T G 14 kV 0 (.object "CapabilityVats$Reference") true := ⟨R_V, F_V, 8, t_V, by rw [h.2.1.1]; rfl, by decide, fun w hw => h.2.2 w (lay_V w hw), by rw [h.1]; exact h.2.2 _ wf_V_V_nothing, t_V_ok, n_V, rfl, rfl, fun _ => ⟨hi, by rw [h.1]; rfl⟩⟩
theorem fp_V_V_broken {T : fw_T} {G : fw_G} (h : HV T G R_V) (hi : (gY G).name = "<init>") : fw_fp T G 18 kV 1 (.object "CapabilityVats$Reference") true := ⟨R_V, F_V, 8, t_V, by rw [h.2.1.1]; rfl, by decide, fun w hw => h.2.2 w (lay_V w hw), by rw [h.1]; exact h.2.2 _ wf_V_V_broken, t_V_ok, n_V, rfl, rfl, fun _ => ⟨hi, by rw [h.1]; rfl⟩⟩
theorem fp_V_V_things {T : fw_T} {G : fw_G} (h : HV T G R_V) (hi : (gY G).name = "<init>") : fw_fp T G 23 kV 2 (.array (.object "CapabilityVats$Thing")) true := ⟨R_V, F_V, 8, t_V, by rw [h.2.1.1]; rfl, by decide, fun w hw => h.2.2 w (lay_V w hw), by rw [h.1]; exact h.2.2 _ wf_V_V_things, t_V_ok, n_V, rfl, rfl, fun _ => ⟨hi, by rw [h.1]; rfl⟩⟩
theorem fp_V_V_thingCount {T : fw_T} {G : fw_G} (h : HV T G R_V) : fw_fp T G 27 kV 3 .int false := ⟨R_V, F_V, 8, t_V, by rw [h.2.1.1]; rfl, by decide, fun w hw => h.2.2 w (lay_V w hw), by rw [h.1]; exact h.2.2 _ wf_V_V_thingCount, t_V_ok, n_V, rfl, rfl, fun q => by cases q⟩
theorem fp_V_V_sent {T : fw_T} {G : fw_G} (h : HV T G R_V) (hi : (gY G).name = "<init>") : fw_fp T G 33 kV 4 (.array (.object "CapabilityVats$Message")) true := ⟨R_V, F_V, 8, t_V, by rw [h.2.1.1]; rfl, by decide, fun w hw => h.2.2 w (lay_V w hw), by rw [h.1]; exact h.2.2 _ wf_V_V_sent, t_V_ok, n_V, rfl, rfl, fun _ => ⟨hi, by rw [h.1]; rfl⟩⟩
theorem fp_V_V_sentCount {T : fw_T} {G : fw_G} (h : HV T G R_V) : fw_fp T G 37 kV 5 .int false := ⟨R_V, F_V, 8, t_V, by rw [h.2.1.1]; rfl, by decide, fun w hw => h.2.2 w (lay_V w hw), by rw [h.1]; exact h.2.2 _ wf_V_V_sentCount, t_V_ok, n_V, rfl, rfl, fun q => by cases q⟩
theorem fp_V_V_queues {T : fw_T} {G : fw_G} (h : HV T G R_V) (hi : (gY G).name = "<init>") : fw_fp T G 42 kV 6 (.array (.object "CapabilityVats$Line")) true := ⟨R_V, F_V, 8, t_V, by rw [h.2.1.1]; rfl, by decide, fun w hw => h.2.2 w (lay_V w hw), by rw [h.1]; exact h.2.2 _ wf_V_V_queues, t_V_ok, n_V, rfl, rfl, fun _ => ⟨hi, by rw [h.1]; rfl⟩⟩
theorem fp_V_V_unrouted {T : fw_T} {G : fw_G} (h : HV T G R_V) (hi : (gY G).name = "<init>") : fw_fp T G 47 kV 7 (.object "CapabilityVats$Line") true := ⟨R_V, F_V, 8, t_V, by rw [h.2.1.1]; rfl, by decide, fun w hw => h.2.2 w (lay_V w hw), by rw [h.1]; exact h.2.2 _ wf_V_V_unrouted, t_V_ok, n_V, rfl, rfl, fun _ => ⟨hi, by rw [h.1]; rfl⟩⟩
theorem fg_V_V_queues {T : fw_T} {G : fw_G} (h : HV T G R_V) : fw_fl T G 42 kV 6 := ⟨R_V, F_V, 8, by rw [h.2.1.1]; rfl, by decide, fun w hw => h.2.2 w (lay_V w hw), by rw [h.1]; exact h.2.2 _ wf_V_V_queues⟩
theorem fg_V_H_number {T : fw_T} {G : fw_G} (h : HV T G R_V) : fw_fl T G 59 kT 0 := ⟨R_H, F_H, 11, by rw [h.2.1.1]; rfl, by decide, fun w hw => h.2.2 w (lay_H w hw), by rw [h.1]; exact h.2.2 _ wf_V_H_number⟩
theorem fg_V_H_slots {T : fw_T} {G : fw_G} (h : HV T G R_V) : fw_fl T G 69 kT 5 := ⟨R_H, F_H, 11, by rw [h.2.1.1]; rfl, by decide, fun w hw => h.2.2 w (lay_H w hw), by rw [h.1]; exact h.2.2 _ wf_V_H_slots⟩
theorem fg_V_H_self {T : fw_T} {G : fw_G} (h : HV T G R_V) : fw_fl T G 80 kT 4 := ⟨R_H, F_H, 11, by rw [h.2.1.1]; rfl, by decide, fun w hw => h.2.2 w (lay_H w hw), by rw [h.1]; exact h.2.2 _ wf_V_H_self⟩
theorem fg_V_V_sentCount {T : fw_T} {G : fw_G} (h : HV T G R_V) : fw_fl T G 37 kV 5 := ⟨R_V, F_V, 8, by rw [h.2.1.1]; rfl, by decide, fun w hw => h.2.2 w (lay_V w hw), by rw [h.1]; exact h.2.2 _ wf_V_V_sentCount⟩
theorem fg_V_V_nothing {T : fw_T} {G : fw_G} (h : HV T G R_V) : fw_fl T G 14 kV 0 := ⟨R_V, F_V, 8, by rw [h.2.1.1]; rfl, by decide, fun w hw => h.2.2 w (lay_V w hw), by rw [h.1]; exact h.2.2 _ wf_V_V_nothing⟩
theorem fg_V_V_sent {T : fw_T} {G : fw_G} (h : HV T G R_V) : fw_fl T G 33 kV 4 := ⟨R_V, F_V, 8, by rw [h.2.1.1]; rfl, by decide, fun w hw => h.2.2 w (lay_V w hw), by rw [h.1]; exact h.2.2 _ wf_V_V_sent⟩
theorem fg_V_M_promise {T : fw_T} {G : fw_G} (h : HV T G R_V) : fw_fl T G 89 kM 2 := ⟨R_M, F_M, 11, by rw [h.2.1.1]; rfl, by decide, fun w hw => h.2.2 w (lay_M w hw), by rw [h.1]; exact h.2.2 _ wf_V_M_promise⟩
theorem fg_V_V_unrouted {T : fw_T} {G : fw_G} (h : HV T G R_V) : fw_fl T G 47 kV 7 := ⟨R_V, F_V, 8, by rw [h.2.1.1]; rfl, by decide, fun w hw => h.2.2 w (lay_V w hw), by rw [h.1]; exact h.2.2 _ wf_V_V_unrouted⟩
theorem fg_V_M_number {T : fw_T} {G : fw_G} (h : HV T G R_V) : fw_fl T G 99 kM 0 := ⟨R_M, F_M, 11, by rw [h.2.1.1]; rfl, by decide, fun w hw => h.2.2 w (lay_M w hw), by rw [h.1]; exact h.2.2 _ wf_V_M_number⟩
theorem fg_V_M_target {T : fw_T} {G : fw_G} (h : HV T G R_V) : fw_fl T G 104 kM 4 := ⟨R_M, F_M, 11, by rw [h.2.1.1]; rfl, by decide, fun w hw => h.2.2 w (lay_M w hw), by rw [h.1]; exact h.2.2 _ wf_V_M_target⟩
theorem fg_V_V_thingCount {T : fw_T} {G : fw_G} (h : HV T G R_V) : fw_fl T G 27 kV 3 := ⟨R_V, F_V, 8, by rw [h.2.1.1]; rfl, by decide, fun w hw => h.2.2 w (lay_V w hw), by rw [h.1]; exact h.2.2 _ wf_V_V_thingCount⟩
theorem fg_V_H_kind {T : fw_T} {G : fw_G} (h : HV T G R_V) : fw_fl T G 131 kT 1 := ⟨R_H, F_H, 11, by rw [h.2.1.1]; rfl, by decide, fun w hw => h.2.2 w (lay_H w hw), by rw [h.1]; exact h.2.2 _ wf_V_H_kind⟩
theorem fg_V_H_home {T : fw_T} {G : fw_G} (h : HV T G R_V) : fw_fl T G 134 kT 2 := ⟨R_H, F_H, 11, by rw [h.2.1.1]; rfl, by decide, fun w hw => h.2.2 w (lay_H w hw), by rw [h.1]; exact h.2.2 _ wf_V_H_home⟩
theorem fg_V_R_sort {T : fw_T} {G : fw_G} (h : HV T G R_V) : fw_fl T G 141 kR 0 := ⟨R_R, F_R, 2, by rw [h.2.1.1]; rfl, by decide, fun w hw => h.2.2 w (lay_R w hw), by rw [h.1]; exact h.2.2 _ wf_V_R_sort⟩
theorem fg_V_R_index {T : fw_T} {G : fw_G} (h : HV T G R_V) : fw_fl T G 144 kR 1 := ⟨R_R, F_R, 2, by rw [h.2.1.1]; rfl, by decide, fun w hw => h.2.2 w (lay_R w hw), by rw [h.1]; exact h.2.2 _ wf_V_R_index⟩
theorem fg_V_M_place {T : fw_T} {G : fw_G} (h : HV T G R_V) : fw_fl T G 158 kM 7 := ⟨R_M, F_M, 11, by rw [h.2.1.1]; rfl, by decide, fun w hw => h.2.2 w (lay_M w hw), by rw [h.1]; exact h.2.2 _ wf_V_M_place⟩
theorem fg_V_L_length {T : fw_T} {G : fw_G} (h : HV T G R_V) : fw_fl T G 165 kL 2 := ⟨R_L, F_L, 3, by rw [h.2.1.1]; rfl, by decide, fun w hw => h.2.2 w (lay_L w hw), by rw [h.1]; exact h.2.2 _ wf_V_L_length⟩
theorem fg_V_M_waiters {T : fw_T} {G : fw_G} (h : HV T G R_V) : fw_fl T G 171 kM 3 := ⟨R_M, F_M, 11, by rw [h.2.1.1]; rfl, by decide, fun w hw => h.2.2 w (lay_M w hw), by rw [h.1]; exact h.2.2 _ wf_V_M_waiters⟩
theorem fg_V_M_noteCount {T : fw_T} {G : fw_G} (h : HV T G R_V) : fw_fl T G 174 kM 10 := ⟨R_M, F_M, 11, by rw [h.2.1.1]; rfl, by decide, fun w hw => h.2.2 w (lay_M w hw), by rw [h.1]; exact h.2.2 _ wf_V_M_noteCount⟩
theorem fg_V_V_things {T : fw_T} {G : fw_G} (h : HV T G R_V) : fw_fl T G 23 kV 2 := ⟨R_V, F_V, 8, by rw [h.2.1.1]; rfl, by decide, fun w hw => h.2.2 w (lay_V w hw), by rw [h.1]; exact h.2.2 _ wf_V_V_things⟩
theorem fg_V_H_held {T : fw_T} {G : fw_G} (h : HV T G R_V) : fw_fl T G 181 kT 6 := ⟨R_H, F_H, 11, by rw [h.2.1.1]; rfl, by decide, fun w hw => h.2.2 w (lay_H w hw), by rw [h.1]; exact h.2.2 _ wf_V_H_held⟩
theorem fg_V_H_revoked {T : fw_T} {G : fw_G} (h : HV T G R_V) : fw_fl T G 184 kT 8 := ⟨R_H, F_H, 11, by rw [h.2.1.1]; rfl, by decide, fun w hw => h.2.2 w (lay_H w hw), by rw [h.1]; exact h.2.2 _ wf_V_H_revoked⟩
theorem fg_V_H_balance {T : fw_T} {G : fw_G} (h : HV T G R_V) : fw_fl T G 188 kT 10 := ⟨R_H, F_H, 11, by rw [h.2.1.1]; rfl, by decide, fun w hw => h.2.2 w (lay_H w hw), by rw [h.1]; exact h.2.2 _ wf_V_H_balance⟩
theorem fg_V_H_owner {T : fw_T} {G : fw_G} (h : HV T G R_V) : fw_fl T G 191 kT 3 := ⟨R_H, F_H, 11, by rw [h.2.1.1]; rfl, by decide, fun w hw => h.2.2 w (lay_H w hw), by rw [h.1]; exact h.2.2 _ wf_V_H_owner⟩
theorem fg_V_H_facet {T : fw_T} {G : fw_G} (h : HV T G R_V) : fw_fl T G 195 kT 7 := ⟨R_H, F_H, 11, by rw [h.2.1.1]; rfl, by decide, fun w hw => h.2.2 w (lay_H w hw), by rw [h.1]; exact h.2.2 _ wf_V_H_facet⟩
theorem fg_V_H_inward {T : fw_T} {G : fw_G} (h : HV T G R_V) : fw_fl T G 198 kT 9 := ⟨R_H, F_H, 11, by rw [h.2.1.1]; rfl, by decide, fun w hw => h.2.2 w (lay_H w hw), by rw [h.1]; exact h.2.2 _ wf_V_H_inward⟩
theorem fg_V_M_answer {T : fw_T} {G : fw_G} (h : HV T G R_V) : fw_fl T G 201 kM 6 := ⟨R_M, F_M, 11, by rw [h.2.1.1]; rfl, by decide, fun w hw => h.2.2 w (lay_M w hw), by rw [h.1]; exact h.2.2 _ wf_V_M_answer⟩
theorem fg_V_V_broken {T : fw_T} {G : fw_G} (h : HV T G R_V) : fw_fl T G 18 kV 1 := ⟨R_V, F_V, 8, by rw [h.2.1.1]; rfl, by decide, fun w hw => h.2.2 w (lay_V w hw), by rw [h.1]; exact h.2.2 _ wf_V_V_broken⟩
theorem fp_V_M_answer {T : fw_T} {G : fw_G} (h : HV T G R_V) : fw_fp T G 201 kM 6 (.object "CapabilityVats$Reference") false := ⟨R_M, F_M, 11, t_M, by rw [h.2.1.1]; rfl, by decide, fun w hw => h.2.2 w (lay_M w hw), by rw [h.1]; exact h.2.2 _ wf_V_M_answer, t_M_ok, n_M, rfl, rfl, fun q => by cases q⟩
theorem fp_V_M_place {T : fw_T} {G : fw_G} (h : HV T G R_V) : fw_fp T G 158 kM 7 .int false := ⟨R_M, F_M, 11, t_M, by rw [h.2.1.1]; rfl, by decide, fun w hw => h.2.2 w (lay_M w hw), by rw [h.1]; exact h.2.2 _ wf_V_M_place, t_M_ok, n_M, rfl, rfl, fun q => by cases q⟩
theorem fg_V_M_argument {T : fw_T} {G : fw_G} (h : HV T G R_V) : fw_fl T G 220 kM 5 := ⟨R_M, F_M, 11, by rw [h.2.1.1]; rfl, by decide, fun w hw => h.2.2 w (lay_M w hw), by rw [h.1]; exact h.2.2 _ wf_V_M_argument⟩
theorem fp_V_M_argument {T : fw_T} {G : fw_G} (h : HV T G R_V) : fw_fp T G 220 kM 5 (.object "CapabilityVats$Reference") false := ⟨R_M, F_M, 11, t_M, by rw [h.2.1.1]; rfl, by decide, fun w hw => h.2.2 w (lay_M w hw), by rw [h.1]; exact h.2.2 _ wf_V_M_argument, t_M_ok, n_M, rfl, rfl, fun q => by cases q⟩
theorem fp_V_M_target {T : fw_T} {G : fw_G} (h : HV T G R_V) : fw_fp T G 104 kM 4 (.object "CapabilityVats$Reference") false := ⟨R_M, F_M, 11, t_M, by rw [h.2.1.1]; rfl, by decide, fun w hw => h.2.2 w (lay_M w hw), by rw [h.1]; exact h.2.2 _ wf_V_M_target, t_M_ok, n_M, rfl, rfl, fun q => by cases q⟩
theorem fg_V_M_passed {T : fw_T} {G : fw_G} (h : HV T G R_V) : fw_fl T G 231 kM 9 := ⟨R_M, F_M, 11, by rw [h.2.1.1]; rfl, by decide, fun w hw => h.2.2 w (lay_M w hw), by rw [h.1]; exact h.2.2 _ wf_V_M_passed⟩
theorem fp_V_H_held {T : fw_T} {G : fw_G} (h : HV T G R_V) : fw_fp T G 181 kT 6 (.object "CapabilityVats$Reference") false := ⟨R_H, F_H, 11, t_H, by rw [h.2.1.1]; rfl, by decide, fun w hw => h.2.2 w (lay_H w hw), by rw [h.1]; exact h.2.2 _ wf_V_H_held, t_H_ok, n_H, rfl, rfl, fun q => by cases q⟩
theorem fp_V_H_inward {T : fw_T} {G : fw_G} (h : HV T G R_V) : fw_fp T G 198 kT 9 .boolean false := ⟨R_H, F_H, 11, t_H, by rw [h.2.1.1]; rfl, by decide, fun w hw => h.2.2 w (lay_H w hw), by rw [h.1]; exact h.2.2 _ wf_V_H_inward, t_H_ok, n_H, rfl, rfl, fun q => by cases q⟩
theorem fg_V_M_verb {T : fw_T} {G : fw_G} (h : HV T G R_V) : fw_fl T G 253 kM 1 := ⟨R_M, F_M, 11, by rw [h.2.1.1]; rfl, by decide, fun w hw => h.2.2 w (lay_M w hw), by rw [h.1]; exact h.2.2 _ wf_V_M_verb⟩
theorem fp_V_H_revoked {T : fw_T} {G : fw_G} (h : HV T G R_V) : fw_fp T G 184 kT 8 .boolean false := ⟨R_H, F_H, 11, t_H, by rw [h.2.1.1]; rfl, by decide, fun w hw => h.2.2 w (lay_H w hw), by rw [h.1]; exact h.2.2 _ wf_V_H_revoked, t_H_ok, n_H, rfl, rfl, fun q => by cases q⟩
theorem fp_V_H_balance {T : fw_T} {G : fw_G} (h : HV T G R_V) : fw_fp T G 188 kT 10 .int false := ⟨R_H, F_H, 11, t_H, by rw [h.2.1.1]; rfl, by decide, fun w hw => h.2.2 w (lay_H w hw), by rw [h.1]; exact h.2.2 _ wf_V_H_balance, t_H_ok, n_H, rfl, rfl, fun q => by cases q⟩
theorem fp_V_H_facet {T : fw_T} {G : fw_G} (h : HV T G R_V) : fw_fp T G 195 kT 7 (.object "CapabilityVats$Thing") false := ⟨R_H, F_H, 11, t_H, by rw [h.2.1.1]; rfl, by decide, fun w hw => h.2.2 w (lay_H w hw), by rw [h.1]; exact h.2.2 _ wf_V_H_facet, t_H_ok, n_H, rfl, rfl, fun q => by cases q⟩
theorem fp_D_D_kind {T : fw_T} {G : fw_G} (h : HV T G R_D) (hi : (gY G).name = "<init>") : fw_fp T G 7 kD 1 (.array .int) true := ⟨R_D, F_D, 29, t_D, by rw [h.2.1.1]; rfl, by decide, fun w hw => h.2.2 w (lay_D w hw), by rw [h.1]; exact h.2.2 _ wf_D_D_kind, t_D_ok, n_D, rfl, rfl, fun _ => ⟨hi, by rw [h.1]; rfl⟩⟩
theorem fp_D_D_home {T : fw_T} {G : fw_G} (h : HV T G R_D) (hi : (gY G).name = "<init>") : fw_fp T G 13 kD 2 (.array .int) true := ⟨R_D, F_D, 29, t_D, by rw [h.2.1.1]; rfl, by decide, fun w hw => h.2.2 w (lay_D w hw), by rw [h.1]; exact h.2.2 _ wf_D_D_home, t_D_ok, n_D, rfl, rfl, fun _ => ⟨hi, by rw [h.1]; rfl⟩⟩
theorem fp_D_D_link {T : fw_T} {G : fw_G} (h : HV T G R_D) (hi : (gY G).name = "<init>") : fw_fp T G 16 kD 3 (.array .int) true := ⟨R_D, F_D, 29, t_D, by rw [h.2.1.1]; rfl, by decide, fun w hw => h.2.2 w (lay_D w hw), by rw [h.1]; exact h.2.2 _ wf_D_D_link, t_D_ok, n_D, rfl, rfl, fun _ => ⟨hi, by rw [h.1]; rfl⟩⟩
theorem fp_D_D_balance {T : fw_T} {G : fw_G} (h : HV T G R_D) (hi : (gY G).name = "<init>") : fw_fp T G 19 kD 4 (.array .int) true := ⟨R_D, F_D, 29, t_D, by rw [h.2.1.1]; rfl, by decide, fun w hw => h.2.2 w (lay_D w hw), by rw [h.1]; exact h.2.2 _ wf_D_D_balance, t_D_ok, n_D, rfl, rfl, fun _ => ⟨hi, by rw [h.1]; rfl⟩⟩
theorem fp_D_D_inward {T : fw_T} {G : fw_G} (h : HV T G R_D) (hi : (gY G).name = "<init>") : fw_fp T G 22 kD 5 (.array .int) true := ⟨R_D, F_D, 29, t_D, by rw [h.2.1.1]; rfl, by decide, fun w hw => h.2.2 w (lay_D w hw), by rw [h.1]; exact h.2.2 _ wf_D_D_inward, t_D_ok, n_D, rfl, rfl, fun _ => ⟨hi, by rw [h.1]; rfl⟩⟩
theorem fp_D_D_revoked {T : fw_T} {G : fw_G} (h : HV T G R_D) (hi : (gY G).name = "<init>") : fw_fp T G 25 kD 6 (.array .boolean) true := ⟨R_D, F_D, 29, t_D, by rw [h.2.1.1]; rfl, by decide, fun w hw => h.2.2 w (lay_D w hw), by rw [h.1]; exact h.2.2 _ wf_D_D_revoked, t_D_ok, n_D, rfl, rfl, fun _ => ⟨hi, by rw [h.1]; rfl⟩⟩
theorem fp_D_D_ownSort {T : fw_T} {G : fw_G} (h : HV T G R_D) (hi : (gY G).name = "<init>") : fw_fp T G 29 kD 7 (.array .int) true := ⟨R_D, F_D, 29, t_D, by rw [h.2.1.1]; rfl, by decide, fun w hw => h.2.2 w (lay_D w hw), by rw [h.1]; exact h.2.2 _ wf_D_D_ownSort, t_D_ok, n_D, rfl, rfl, fun _ => ⟨hi, by rw [h.1]; rfl⟩⟩
theorem fp_D_D_own {T : fw_T} {G : fw_G} (h : HV T G R_D) (hi : (gY G).name = "<init>") : fw_fp T G 32 kD 8 (.array .int) true := ⟨R_D, F_D, 29, t_D, by rw [h.2.1.1]; rfl, by decide, fun w hw => h.2.2 w (lay_D w hw), by rw [h.1]; exact h.2.2 _ wf_D_D_own, t_D_ok, n_D, rfl, rfl, fun _ => ⟨hi, by rw [h.1]; rfl⟩⟩
theorem fp_D_D_slotSort {T : fw_T} {G : fw_G} (h : HV T G R_D) (hi : (gY G).name = "<init>") : fw_fp T G 35 kD 9 (.array .int) true := ⟨R_D, F_D, 29, t_D, by rw [h.2.1.1]; rfl, by decide, fun w hw => h.2.2 w (lay_D w hw), by rw [h.1]; exact h.2.2 _ wf_D_D_slotSort, t_D_ok, n_D, rfl, rfl, fun _ => ⟨hi, by rw [h.1]; rfl⟩⟩
theorem fp_D_D_slot {T : fw_T} {G : fw_G} (h : HV T G R_D) (hi : (gY G).name = "<init>") : fw_fp T G 38 kD 10 (.array .int) true := ⟨R_D, F_D, 29, t_D, by rw [h.2.1.1]; rfl, by decide, fun w hw => h.2.2 w (lay_D w hw), by rw [h.1]; exact h.2.2 _ wf_D_D_slot, t_D_ok, n_D, rfl, rfl, fun _ => ⟨hi, by rw [h.1]; rfl⟩⟩
theorem fp_D_D_place {T : fw_T} {G : fw_G} (h : HV T G R_D) (hi : (gY G).name = "<init>") : fw_fp T G 41 kD 12 (.array .int) true := ⟨R_D, F_D, 29, t_D, by rw [h.2.1.1]; rfl, by decide, fun w hw => h.2.2 w (lay_D w hw), by rw [h.1]; exact h.2.2 _ wf_D_D_place, t_D_ok, n_D, rfl, rfl, fun _ => ⟨hi, by rw [h.1]; rfl⟩⟩
theorem fp_D_D_where {T : fw_T} {G : fw_G} (h : HV T G R_D) (hi : (gY G).name = "<init>") : fw_fp T G 44 kD 13 (.array .int) true := ⟨R_D, F_D, 29, t_D, by rw [h.2.1.1]; rfl, by decide, fun w hw => h.2.2 w (lay_D w hw), by rw [h.1]; exact h.2.2 _ wf_D_D_where, t_D_ok, n_D, rfl, rfl, fun _ => ⟨hi, by rw [h.1]; rfl⟩⟩
theorem fp_D_D_stamp {T : fw_T} {G : fw_G} (h : HV T G R_D) (hi : (gY G).name = "<init>") : fw_fp T G 47 kD 14 (.array .int) true := ⟨R_D, F_D, 29, t_D, by rw [h.2.1.1]; rfl, by decide, fun w hw => h.2.2 w (lay_D w hw), by rw [h.1]; exact h.2.2 _ wf_D_D_stamp, t_D_ok, n_D, rfl, rfl, fun _ => ⟨hi, by rw [h.1]; rfl⟩⟩
theorem fp_D_D_targetSort {T : fw_T} {G : fw_G} (h : HV T G R_D) (hi : (gY G).name = "<init>") : fw_fp T G 50 kD 16 (.array .int) true := ⟨R_D, F_D, 29, t_D, by rw [h.2.1.1]; rfl, by decide, fun w hw => h.2.2 w (lay_D w hw), by rw [h.1]; exact h.2.2 _ wf_D_D_targetSort, t_D_ok, n_D, rfl, rfl, fun _ => ⟨hi, by rw [h.1]; rfl⟩⟩
theorem fp_D_D_target {T : fw_T} {G : fw_G} (h : HV T G R_D) (hi : (gY G).name = "<init>") : fw_fp T G 53 kD 17 (.array .int) true := ⟨R_D, F_D, 29, t_D, by rw [h.2.1.1]; rfl, by decide, fun w hw => h.2.2 w (lay_D w hw), by rw [h.1]; exact h.2.2 _ wf_D_D_target, t_D_ok, n_D, rfl, rfl, fun _ => ⟨hi, by rw [h.1]; rfl⟩⟩
theorem fp_D_D_verb {T : fw_T} {G : fw_G} (h : HV T G R_D) (hi : (gY G).name = "<init>") : fw_fp T G 56 kD 18 (.array .int) true := ⟨R_D, F_D, 29, t_D, by rw [h.2.1.1]; rfl, by decide, fun w hw => h.2.2 w (lay_D w hw), by rw [h.1]; exact h.2.2 _ wf_D_D_verb, t_D_ok, n_D, rfl, rfl, fun _ => ⟨hi, by rw [h.1]; rfl⟩⟩
theorem fp_D_D_argumentSort {T : fw_T} {G : fw_G} (h : HV T G R_D) (hi : (gY G).name = "<init>") : fw_fp T G 59 kD 19 (.array .int) true := ⟨R_D, F_D, 29, t_D, by rw [h.2.1.1]; rfl, by decide, fun w hw => h.2.2 w (lay_D w hw), by rw [h.1]; exact h.2.2 _ wf_D_D_argumentSort, t_D_ok, n_D, rfl, rfl, fun _ => ⟨hi, by rw [h.1]; rfl⟩⟩
theorem fp_D_D_argument {T : fw_T} {G : fw_G} (h : HV T G R_D) (hi : (gY G).name = "<init>") : fw_fp T G 62 kD 20 (.array .int) true := ⟨R_D, F_D, 29, t_D, by rw [h.2.1.1]; rfl, by decide, fun w hw => h.2.2 w (lay_D w hw), by rw [h.1]; exact h.2.2 _ wf_D_D_argument, t_D_ok, n_D, rfl, rfl, fun _ => ⟨hi, by rw [h.1]; rfl⟩⟩
theorem fp_D_D_resolved {T : fw_T} {G : fw_G} (h : HV T G R_D) (hi : (gY G).name = "<init>") : fw_fp T G 65 kD 21 (.array .boolean) true := ⟨R_D, F_D, 29, t_D, by rw [h.2.1.1]; rfl, by decide, fun w hw => h.2.2 w (lay_D w hw), by rw [h.1]; exact h.2.2 _ wf_D_D_resolved, t_D_ok, n_D, rfl, rfl, fun _ => ⟨hi, by rw [h.1]; rfl⟩⟩
theorem fp_D_D_endSort {T : fw_T} {G : fw_G} (h : HV T G R_D) (hi : (gY G).name = "<init>") : fw_fp T G 68 kD 22 (.array .int) true := ⟨R_D, F_D, 29, t_D, by rw [h.2.1.1]; rfl, by decide, fun w hw => h.2.2 w (lay_D w hw), by rw [h.1]; exact h.2.2 _ wf_D_D_endSort, t_D_ok, n_D, rfl, rfl, fun _ => ⟨hi, by rw [h.1]; rfl⟩⟩
theorem fp_D_D_end {T : fw_T} {G : fw_G} (h : HV T G R_D) (hi : (gY G).name = "<init>") : fw_fp T G 71 kD 23 (.array .int) true := ⟨R_D, F_D, 29, t_D, by rw [h.2.1.1]; rfl, by decide, fun w hw => h.2.2 w (lay_D w hw), by rw [h.1]; exact h.2.2 _ wf_D_D_end, t_D_ok, n_D, rfl, rfl, fun _ => ⟨hi, by rw [h.1]; rfl⟩⟩
theorem fp_D_D_notes {T : fw_T} {G : fw_G} (h : HV T G R_D) (hi : (gY G).name = "<init>") : fw_fp T G 74 kD 24 (.array .int) true := ⟨R_D, F_D, 29, t_D, by rw [h.2.1.1]; rfl, by decide, fun w hw => h.2.2 w (lay_D w hw), by rw [h.1]; exact h.2.2 _ wf_D_D_notes, t_D_ok, n_D, rfl, rfl, fun _ => ⟨hi, by rw [h.1]; rfl⟩⟩
theorem fp_D_D_noted {T : fw_T} {G : fw_G} (h : HV T G R_D) (hi : (gY G).name = "<init>") : fw_fp T G 77 kD 25 (.array .int) true := ⟨R_D, F_D, 29, t_D, by rw [h.2.1.1]; rfl, by decide, fun w hw => h.2.2 w (lay_D w hw), by rw [h.1]; exact h.2.2 _ wf_D_D_noted, t_D_ok, n_D, rfl, rfl, fun _ => ⟨hi, by rw [h.1]; rfl⟩⟩
theorem fp_D_D_notedInward {T : fw_T} {G : fw_G} (h : HV T G R_D) (hi : (gY G).name = "<init>") : fw_fp T G 80 kD 26 (.array .int) true := ⟨R_D, F_D, 29, t_D, by rw [h.2.1.1]; rfl, by decide, fun w hw => h.2.2 w (lay_D w hw), by rw [h.1]; exact h.2.2 _ wf_D_D_notedInward, t_D_ok, n_D, rfl, rfl, fun _ => ⟨hi, by rw [h.1]; rfl⟩⟩
theorem fp_D_D_sort {T : fw_T} {G : fw_G} (h : HV T G R_D) : fw_fp T G 83 kD 27 .int false := ⟨R_D, F_D, 29, t_D, by rw [h.2.1.1]; rfl, by decide, fun w hw => h.2.2 w (lay_D w hw), by rw [h.1]; exact h.2.2 _ wf_D_D_sort, t_D_ok, n_D, rfl, rfl, fun q => by cases q⟩
theorem fp_D_D_ref {T : fw_T} {G : fw_G} (h : HV T G R_D) : fw_fp T G 87 kD 28 .int false := ⟨R_D, F_D, 29, t_D, by rw [h.2.1.1]; rfl, by decide, fun w hw => h.2.2 w (lay_D w hw), by rw [h.1]; exact h.2.2 _ wf_D_D_ref, t_D_ok, n_D, rfl, rfl, fun q => by cases q⟩
theorem fg_D_D_sort {T : fw_T} {G : fw_G} (h : HV T G R_D) : fw_fl T G 83 kD 27 := ⟨R_D, F_D, 29, by rw [h.2.1.1]; rfl, by decide, fun w hw => h.2.2 w (lay_D w hw), by rw [h.1]; exact h.2.2 _ wf_D_D_sort⟩
theorem fg_D_D_resolved {T : fw_T} {G : fw_G} (h : HV T G R_D) : fw_fl T G 65 kD 21 := ⟨R_D, F_D, 29, by rw [h.2.1.1]; rfl, by decide, fun w hw => h.2.2 w (lay_D w hw), by rw [h.1]; exact h.2.2 _ wf_D_D_resolved⟩
theorem fg_D_D_ref {T : fw_T} {G : fw_G} (h : HV T G R_D) : fw_fl T G 87 kD 28 := ⟨R_D, F_D, 29, by rw [h.2.1.1]; rfl, by decide, fun w hw => h.2.2 w (lay_D w hw), by rw [h.1]; exact h.2.2 _ wf_D_D_ref⟩
theorem fg_D_D_endSort {T : fw_T} {G : fw_G} (h : HV T G R_D) : fw_fl T G 68 kD 22 := ⟨R_D, F_D, 29, by rw [h.2.1.1]; rfl, by decide, fun w hw => h.2.2 w (lay_D w hw), by rw [h.1]; exact h.2.2 _ wf_D_D_endSort⟩
theorem fg_D_D_end {T : fw_T} {G : fw_G} (h : HV T G R_D) : fw_fl T G 71 kD 23 := ⟨R_D, F_D, 29, by rw [h.2.1.1]; rfl, by decide, fun w hw => h.2.2 w (lay_D w hw), by rw [h.1]; exact h.2.2 _ wf_D_D_end⟩
theorem fg_D_D_kind {T : fw_T} {G : fw_G} (h : HV T G R_D) : fw_fl T G 7 kD 1 := ⟨R_D, F_D, 29, by rw [h.2.1.1]; rfl, by decide, fun w hw => h.2.2 w (lay_D w hw), by rw [h.1]; exact h.2.2 _ wf_D_D_kind⟩
theorem fg_D_D_objects {T : fw_T} {G : fw_G} (h : HV T G R_D) : fw_fl T G 94 kD 0 := ⟨R_D, F_D, 29, by rw [h.2.1.1]; rfl, by decide, fun w hw => h.2.2 w (lay_D w hw), by rw [h.1]; exact h.2.2 _ wf_D_D_objects⟩
theorem fg_D_D_home {T : fw_T} {G : fw_G} (h : HV T G R_D) : fw_fl T G 13 kD 2 := ⟨R_D, F_D, 29, by rw [h.2.1.1]; rfl, by decide, fun w hw => h.2.2 w (lay_D w hw), by rw [h.1]; exact h.2.2 _ wf_D_D_home⟩
theorem fg_D_D_link {T : fw_T} {G : fw_G} (h : HV T G R_D) : fw_fl T G 16 kD 3 := ⟨R_D, F_D, 29, by rw [h.2.1.1]; rfl, by decide, fun w hw => h.2.2 w (lay_D w hw), by rw [h.1]; exact h.2.2 _ wf_D_D_link⟩
theorem fg_D_D_balance {T : fw_T} {G : fw_G} (h : HV T G R_D) : fw_fl T G 19 kD 4 := ⟨R_D, F_D, 29, by rw [h.2.1.1]; rfl, by decide, fun w hw => h.2.2 w (lay_D w hw), by rw [h.1]; exact h.2.2 _ wf_D_D_balance⟩
theorem fg_D_D_inward {T : fw_T} {G : fw_G} (h : HV T G R_D) : fw_fl T G 22 kD 5 := ⟨R_D, F_D, 29, by rw [h.2.1.1]; rfl, by decide, fun w hw => h.2.2 w (lay_D w hw), by rw [h.1]; exact h.2.2 _ wf_D_D_inward⟩
theorem fg_D_D_revoked {T : fw_T} {G : fw_G} (h : HV T G R_D) : fw_fl T G 25 kD 6 := ⟨R_D, F_D, 29, by rw [h.2.1.1]; rfl, by decide, fun w hw => h.2.2 w (lay_D w hw), by rw [h.1]; exact h.2.2 _ wf_D_D_revoked⟩
theorem fg_D_D_ownSort {T : fw_T} {G : fw_G} (h : HV T G R_D) : fw_fl T G 29 kD 7 := ⟨R_D, F_D, 29, by rw [h.2.1.1]; rfl, by decide, fun w hw => h.2.2 w (lay_D w hw), by rw [h.1]; exact h.2.2 _ wf_D_D_ownSort⟩
theorem fg_D_D_own {T : fw_T} {G : fw_G} (h : HV T G R_D) : fw_fl T G 32 kD 8 := ⟨R_D, F_D, 29, by rw [h.2.1.1]; rfl, by decide, fun w hw => h.2.2 w (lay_D w hw), by rw [h.1]; exact h.2.2 _ wf_D_D_own⟩
theorem fg_D_D_slotSort {T : fw_T} {G : fw_G} (h : HV T G R_D) : fw_fl T G 35 kD 9 := ⟨R_D, F_D, 29, by rw [h.2.1.1]; rfl, by decide, fun w hw => h.2.2 w (lay_D w hw), by rw [h.1]; exact h.2.2 _ wf_D_D_slotSort⟩
theorem fp_D_D_objects {T : fw_T} {G : fw_G} (h : HV T G R_D) : fw_fp T G 94 kD 0 .int false := ⟨R_D, F_D, 29, t_D, by rw [h.2.1.1]; rfl, by decide, fun w hw => h.2.2 w (lay_D w hw), by rw [h.1]; exact h.2.2 _ wf_D_D_objects, t_D_ok, n_D, rfl, rfl, fun q => by cases q⟩
theorem fg_D_D_place {T : fw_T} {G : fw_G} (h : HV T G R_D) : fw_fl T G 41 kD 12 := ⟨R_D, F_D, 29, by rw [h.2.1.1]; rfl, by decide, fun w hw => h.2.2 w (lay_D w hw), by rw [h.1]; exact h.2.2 _ wf_D_D_place⟩
theorem fg_D_D_where {T : fw_T} {G : fw_G} (h : HV T G R_D) : fw_fl T G 44 kD 13 := ⟨R_D, F_D, 29, by rw [h.2.1.1]; rfl, by decide, fun w hw => h.2.2 w (lay_D w hw), by rw [h.1]; exact h.2.2 _ wf_D_D_where⟩
theorem fg_D_D_stamps {T : fw_T} {G : fw_G} (h : HV T G R_D) : fw_fl T G 104 kD 15 := ⟨R_D, F_D, 29, by rw [h.2.1.1]; rfl, by decide, fun w hw => h.2.2 w (lay_D w hw), by rw [h.1]; exact h.2.2 _ wf_D_D_stamps⟩
theorem fp_D_D_stamps {T : fw_T} {G : fw_G} (h : HV T G R_D) : fw_fp T G 104 kD 15 .int false := ⟨R_D, F_D, 29, t_D, by rw [h.2.1.1]; rfl, by decide, fun w hw => h.2.2 w (lay_D w hw), by rw [h.1]; exact h.2.2 _ wf_D_D_stamps, t_D_ok, n_D, rfl, rfl, fun q => by cases q⟩
theorem fg_D_D_stamp {T : fw_T} {G : fw_G} (h : HV T G R_D) : fw_fl T G 47 kD 14 := ⟨R_D, F_D, 29, by rw [h.2.1.1]; rfl, by decide, fun w hw => h.2.2 w (lay_D w hw), by rw [h.1]; exact h.2.2 _ wf_D_D_stamp⟩
theorem fg_D_D_messages {T : fw_T} {G : fw_G} (h : HV T G R_D) : fw_fl T G 107 kD 11 := ⟨R_D, F_D, 29, by rw [h.2.1.1]; rfl, by decide, fun w hw => h.2.2 w (lay_D w hw), by rw [h.1]; exact h.2.2 _ wf_D_D_messages⟩
theorem fg_D_D_targetSort {T : fw_T} {G : fw_G} (h : HV T G R_D) : fw_fl T G 50 kD 16 := ⟨R_D, F_D, 29, by rw [h.2.1.1]; rfl, by decide, fun w hw => h.2.2 w (lay_D w hw), by rw [h.1]; exact h.2.2 _ wf_D_D_targetSort⟩
theorem fg_D_D_target {T : fw_T} {G : fw_G} (h : HV T G R_D) : fw_fl T G 53 kD 17 := ⟨R_D, F_D, 29, by rw [h.2.1.1]; rfl, by decide, fun w hw => h.2.2 w (lay_D w hw), by rw [h.1]; exact h.2.2 _ wf_D_D_target⟩
theorem fg_D_D_slot {T : fw_T} {G : fw_G} (h : HV T G R_D) : fw_fl T G 38 kD 10 := ⟨R_D, F_D, 29, by rw [h.2.1.1]; rfl, by decide, fun w hw => h.2.2 w (lay_D w hw), by rw [h.1]; exact h.2.2 _ wf_D_D_slot⟩
theorem fp_D_D_messages {T : fw_T} {G : fw_G} (h : HV T G R_D) : fw_fp T G 107 kD 11 .int false := ⟨R_D, F_D, 29, t_D, by rw [h.2.1.1]; rfl, by decide, fun w hw => h.2.2 w (lay_D w hw), by rw [h.1]; exact h.2.2 _ wf_D_D_messages, t_D_ok, n_D, rfl, rfl, fun q => by cases q⟩
theorem fg_D_D_verb {T : fw_T} {G : fw_G} (h : HV T G R_D) : fw_fl T G 56 kD 18 := ⟨R_D, F_D, 29, by rw [h.2.1.1]; rfl, by decide, fun w hw => h.2.2 w (lay_D w hw), by rw [h.1]; exact h.2.2 _ wf_D_D_verb⟩
theorem fg_D_D_argumentSort {T : fw_T} {G : fw_G} (h : HV T G R_D) : fw_fl T G 59 kD 19 := ⟨R_D, F_D, 29, by rw [h.2.1.1]; rfl, by decide, fun w hw => h.2.2 w (lay_D w hw), by rw [h.1]; exact h.2.2 _ wf_D_D_argumentSort⟩
theorem fg_D_D_argument {T : fw_T} {G : fw_G} (h : HV T G R_D) : fw_fl T G 62 kD 20 := ⟨R_D, F_D, 29, by rw [h.2.1.1]; rfl, by decide, fun w hw => h.2.2 w (lay_D w hw), by rw [h.1]; exact h.2.2 _ wf_D_D_argument⟩
theorem fg_D_D_notes {T : fw_T} {G : fw_G} (h : HV T G R_D) : fw_fl T G 74 kD 24 := ⟨R_D, F_D, 29, by rw [h.2.1.1]; rfl, by decide, fun w hw => h.2.2 w (lay_D w hw), by rw [h.1]; exact h.2.2 _ wf_D_D_notes⟩
theorem fg_D_D_noted {T : fw_T} {G : fw_G} (h : HV T G R_D) : fw_fl T G 77 kD 25 := ⟨R_D, F_D, 29, by rw [h.2.1.1]; rfl, by decide, fun w hw => h.2.2 w (lay_D w hw), by rw [h.1]; exact h.2.2 _ wf_D_D_noted⟩
theorem fg_D_D_notedInward {T : fw_T} {G : fw_G} (h : HV T G R_D) : fw_fl T G 80 kD 26 := ⟨R_D, F_D, 29, by rw [h.2.1.1]; rfl, by decide, fun w hw => h.2.2 w (lay_D w hw), by rw [h.1]; exact h.2.2 _ wf_D_D_notedInward⟩
theorem fp_L_M_behind {T : fw_T} {G : fw_G} (h : HV T G R_L) : fw_fp T G 7 kM 8 (.object "CapabilityVats$Message") false := ⟨R_M, F_M, 11, t_M, by rw [h.2.1.1]; rfl, by decide, fun w hw => h.2.2 w (lay_M w hw), by rw [h.1]; exact h.2.2 _ wf_L_M_behind, t_M_ok, n_M, rfl, rfl, fun q => by cases q⟩
theorem fg_L_L_last {T : fw_T} {G : fw_G} (h : HV T G R_L) : fw_fl T G 13 kL 1 := ⟨R_L, F_L, 3, by rw [h.2.1.1]; rfl, by decide, fun w hw => h.2.2 w (lay_L w hw), by rw [h.1]; exact h.2.2 _ wf_L_L_last⟩
theorem fp_L_L_first {T : fw_T} {G : fw_G} (h : HV T G R_L) : fw_fp T G 18 kL 0 (.object "CapabilityVats$Message") false := ⟨R_L, F_L, 3, t_L, by rw [h.2.1.1]; rfl, by decide, fun w hw => h.2.2 w (lay_L w hw), by rw [h.1]; exact h.2.2 _ wf_L_L_first, t_L_ok, n_L, rfl, rfl, fun q => by cases q⟩
theorem fp_L_L_last {T : fw_T} {G : fw_G} (h : HV T G R_L) : fw_fp T G 13 kL 1 (.object "CapabilityVats$Message") false := ⟨R_L, F_L, 3, t_L, by rw [h.2.1.1]; rfl, by decide, fun w hw => h.2.2 w (lay_L w hw), by rw [h.1]; exact h.2.2 _ wf_L_L_last, t_L_ok, n_L, rfl, rfl, fun q => by cases q⟩
theorem fg_L_L_length {T : fw_T} {G : fw_G} (h : HV T G R_L) : fw_fl T G 21 kL 2 := ⟨R_L, F_L, 3, by rw [h.2.1.1]; rfl, by decide, fun w hw => h.2.2 w (lay_L w hw), by rw [h.1]; exact h.2.2 _ wf_L_L_length⟩
theorem fp_L_L_length {T : fw_T} {G : fw_G} (h : HV T G R_L) : fw_fp T G 21 kL 2 .int false := ⟨R_L, F_L, 3, t_L, by rw [h.2.1.1]; rfl, by decide, fun w hw => h.2.2 w (lay_L w hw), by rw [h.1]; exact h.2.2 _ wf_L_L_length, t_L_ok, n_L, rfl, rfl, fun q => by cases q⟩
theorem fg_L_L_first {T : fw_T} {G : fw_G} (h : HV T G R_L) : fw_fl T G 18 kL 0 := ⟨R_L, F_L, 3, by rw [h.2.1.1]; rfl, by decide, fun w hw => h.2.2 w (lay_L w hw), by rw [h.1]; exact h.2.2 _ wf_L_L_first⟩
theorem fg_L_M_behind {T : fw_T} {G : fw_G} (h : HV T G R_L) : fw_fl T G 7 kM 8 := ⟨R_M, F_M, 11, by rw [h.2.1.1]; rfl, by decide, fun w hw => h.2.2 w (lay_M w hw), by rw [h.1]; exact h.2.2 _ wf_L_M_behind⟩
theorem fp_M_M_waiters {T : fw_T} {G : fw_G} (h : HV T G R_M) (hi : (gY G).name = "<init>") : fw_fp T G 12 kM 3 (.object "CapabilityVats$Line") true := ⟨R_M, F_M, 11, t_M, by rw [h.2.1.1]; rfl, by decide, fun w hw => h.2.2 w (lay_M w hw), by rw [h.1]; exact h.2.2 _ wf_M_M_waiters, t_M_ok, n_M, rfl, rfl, fun _ => ⟨hi, by rw [h.1]; rfl⟩⟩
theorem fp_M_M_passed {T : fw_T} {G : fw_G} (h : HV T G R_M) (hi : (gY G).name = "<init>") : fw_fp T G 20 kM 9 (.array (.object "CapabilityVats$Thing")) true := ⟨R_M, F_M, 11, t_M, by rw [h.2.1.1]; rfl, by decide, fun w hw => h.2.2 w (lay_M w hw), by rw [h.1]; exact h.2.2 _ wf_M_M_passed, t_M_ok, n_M, rfl, rfl, fun _ => ⟨hi, by rw [h.1]; rfl⟩⟩
theorem fp_M_M_number {T : fw_T} {G : fw_G} (h : HV T G R_M) (hi : (gY G).name = "<init>") : fw_fp T G 24 kM 0 .int true := ⟨R_M, F_M, 11, t_M, by rw [h.2.1.1]; rfl, by decide, fun w hw => h.2.2 w (lay_M w hw), by rw [h.1]; exact h.2.2 _ wf_M_M_number, t_M_ok, n_M, rfl, rfl, fun _ => ⟨hi, by rw [h.1]; rfl⟩⟩
theorem fp_M_M_target {T : fw_T} {G : fw_G} (h : HV T G R_M) : fw_fp T G 28 kM 4 (.object "CapabilityVats$Reference") false := ⟨R_M, F_M, 11, t_M, by rw [h.2.1.1]; rfl, by decide, fun w hw => h.2.2 w (lay_M w hw), by rw [h.1]; exact h.2.2 _ wf_M_M_target, t_M_ok, n_M, rfl, rfl, fun q => by cases q⟩
theorem fp_M_M_verb {T : fw_T} {G : fw_G} (h : HV T G R_M) (hi : (gY G).name = "<init>") : fw_fp T G 32 kM 1 .int true := ⟨R_M, F_M, 11, t_M, by rw [h.2.1.1]; rfl, by decide, fun w hw => h.2.2 w (lay_M w hw), by rw [h.1]; exact h.2.2 _ wf_M_M_verb, t_M_ok, n_M, rfl, rfl, fun _ => ⟨hi, by rw [h.1]; rfl⟩⟩
theorem fp_M_M_argument {T : fw_T} {G : fw_G} (h : HV T G R_M) : fw_fp T G 35 kM 5 (.object "CapabilityVats$Reference") false := ⟨R_M, F_M, 11, t_M, by rw [h.2.1.1]; rfl, by decide, fun w hw => h.2.2 w (lay_M w hw), by rw [h.1]; exact h.2.2 _ wf_M_M_argument, t_M_ok, n_M, rfl, rfl, fun q => by cases q⟩
theorem fp_M_M_promise {T : fw_T} {G : fw_G} (h : HV T G R_M) (hi : (gY G).name = "<init>") : fw_fp T G 43 kM 2 (.object "CapabilityVats$Reference") true := ⟨R_M, F_M, 11, t_M, by rw [h.2.1.1]; rfl, by decide, fun w hw => h.2.2 w (lay_M w hw), by rw [h.1]; exact h.2.2 _ wf_M_M_promise, t_M_ok, n_M, rfl, rfl, fun _ => ⟨hi, by rw [h.1]; rfl⟩⟩
theorem fg_M_M_noteCount {T : fw_T} {G : fw_G} (h : HV T G R_M) : fw_fl T G 46 kM 10 := ⟨R_M, F_M, 11, by rw [h.2.1.1]; rfl, by decide, fun w hw => h.2.2 w (lay_M w hw), by rw [h.1]; exact h.2.2 _ wf_M_M_noteCount⟩
theorem fg_M_M_passed {T : fw_T} {G : fw_G} (h : HV T G R_M) : fw_fl T G 20 kM 9 := ⟨R_M, F_M, 11, by rw [h.2.1.1]; rfl, by decide, fun w hw => h.2.2 w (lay_M w hw), by rw [h.1]; exact h.2.2 _ wf_M_M_passed⟩
theorem fp_M_M_noteCount {T : fw_T} {G : fw_G} (h : HV T G R_M) : fw_fp T G 46 kM 10 .int false := ⟨R_M, F_M, 11, t_M, by rw [h.2.1.1]; rfl, by decide, fun w hw => h.2.2 w (lay_M w hw), by rw [h.1]; exact h.2.2 _ wf_M_M_noteCount, t_M_ok, n_M, rfl, rfl, fun q => by cases q⟩
theorem fp_R_R_sort {T : fw_T} {G : fw_G} (h : HV T G R_R) (hi : (gY G).name = "<init>") : fw_fp T G 7 kR 0 .int true := ⟨R_R, F_R, 2, t_R, by rw [h.2.1.1]; rfl, by decide, fun w hw => h.2.2 w (lay_R w hw), by rw [h.1]; exact h.2.2 _ wf_R_R_sort, t_R_ok, n_R, rfl, rfl, fun _ => ⟨hi, by rw [h.1]; rfl⟩⟩
theorem fp_R_R_index {T : fw_T} {G : fw_G} (h : HV T G R_R) (hi : (gY G).name = "<init>") : fw_fp T G 13 kR 1 .int true := ⟨R_R, F_R, 2, t_R, by rw [h.2.1.1]; rfl, by decide, fun w hw => h.2.2 w (lay_R w hw), by rw [h.1]; exact h.2.2 _ wf_R_R_index, t_R_ok, n_R, rfl, rfl, fun _ => ⟨hi, by rw [h.1]; rfl⟩⟩
theorem fg_R_R_sort {T : fw_T} {G : fw_G} (h : HV T G R_R) : fw_fl T G 7 kR 0 := ⟨R_R, F_R, 2, by rw [h.2.1.1]; rfl, by decide, fun w hw => h.2.2 w (lay_R w hw), by rw [h.1]; exact h.2.2 _ wf_R_R_sort⟩
theorem fg_R_R_index {T : fw_T} {G : fw_G} (h : HV T G R_R) : fw_fl T G 13 kR 1 := ⟨R_R, F_R, 2, by rw [h.2.1.1]; rfl, by decide, fun w hw => h.2.2 w (lay_R w hw), by rw [h.1]; exact h.2.2 _ wf_R_R_index⟩
theorem fp_H_H_slots {T : fw_T} {G : fw_G} (h : HV T G R_H) (hi : (gY G).name = "<init>") : fw_fp T G 11 kT 5 (.array (.object "CapabilityVats$Reference")) true := ⟨R_H, F_H, 11, t_H, by rw [h.2.1.1]; rfl, by decide, fun w hw => h.2.2 w (lay_H w hw), by rw [h.1]; exact h.2.2 _ wf_H_H_slots, t_H_ok, n_H, rfl, rfl, fun _ => ⟨hi, by rw [h.1]; rfl⟩⟩
theorem fp_H_H_number {T : fw_T} {G : fw_G} (h : HV T G R_H) (hi : (gY G).name = "<init>") : fw_fp T G 17 kT 0 .int true := ⟨R_H, F_H, 11, t_H, by rw [h.2.1.1]; rfl, by decide, fun w hw => h.2.2 w (lay_H w hw), by rw [h.1]; exact h.2.2 _ wf_H_H_number, t_H_ok, n_H, rfl, rfl, fun _ => ⟨hi, by rw [h.1]; rfl⟩⟩
theorem fp_H_H_kind {T : fw_T} {G : fw_G} (h : HV T G R_H) (hi : (gY G).name = "<init>") : fw_fp T G 21 kT 1 .int true := ⟨R_H, F_H, 11, t_H, by rw [h.2.1.1]; rfl, by decide, fun w hw => h.2.2 w (lay_H w hw), by rw [h.1]; exact h.2.2 _ wf_H_H_kind, t_H_ok, n_H, rfl, rfl, fun _ => ⟨hi, by rw [h.1]; rfl⟩⟩
theorem fp_H_H_home {T : fw_T} {G : fw_G} (h : HV T G R_H) (hi : (gY G).name = "<init>") : fw_fp T G 24 kT 2 .int true := ⟨R_H, F_H, 11, t_H, by rw [h.2.1.1]; rfl, by decide, fun w hw => h.2.2 w (lay_H w hw), by rw [h.1]; exact h.2.2 _ wf_H_H_home, t_H_ok, n_H, rfl, rfl, fun _ => ⟨hi, by rw [h.1]; rfl⟩⟩
theorem fp_H_H_owner {T : fw_T} {G : fw_G} (h : HV T G R_H) (hi : (gY G).name = "<init>") : fw_fp T G 27 kT 3 (.object "CapabilityVats$Thing") true := ⟨R_H, F_H, 11, t_H, by rw [h.2.1.1]; rfl, by decide, fun w hw => h.2.2 w (lay_H w hw), by rw [h.1]; exact h.2.2 _ wf_H_H_owner, t_H_ok, n_H, rfl, rfl, fun _ => ⟨hi, by rw [h.1]; rfl⟩⟩
theorem fp_H_H_self {T : fw_T} {G : fw_G} (h : HV T G R_H) (hi : (gY G).name = "<init>") : fw_fp T G 34 kT 4 (.object "CapabilityVats$Reference") true := ⟨R_H, F_H, 11, t_H, by rw [h.2.1.1]; rfl, by decide, fun w hw => h.2.2 w (lay_H w hw), by rw [h.1]; exact h.2.2 _ wf_H_H_self, t_H_ok, n_H, rfl, rfl, fun _ => ⟨hi, by rw [h.1]; rfl⟩⟩
theorem fp_H_H_held {T : fw_T} {G : fw_G} (h : HV T G R_H) : fw_fp T G 38 kT 6 (.object "CapabilityVats$Reference") false := ⟨R_H, F_H, 11, t_H, by rw [h.2.1.1]; rfl, by decide, fun w hw => h.2.2 w (lay_H w hw), by rw [h.1]; exact h.2.2 _ wf_H_H_held, t_H_ok, n_H, rfl, rfl, fun q => by cases q⟩
theorem fg_H_H_slots {T : fw_T} {G : fw_G} (h : HV T G R_H) : fw_fl T G 11 kT 5 := ⟨R_H, F_H, 11, by rw [h.2.1.1]; rfl, by decide, fun w hw => h.2.2 w (lay_H w hw), by rw [h.1]; exact h.2.2 _ wf_H_H_slots⟩
theorem fg_H_H_kind {T : fw_T} {G : fw_G} (h : HV T G R_H) : fw_fl T G 21 kT 1 := ⟨R_H, F_H, 11, by rw [h.2.1.1]; rfl, by decide, fun w hw => h.2.2 w (lay_H w hw), by rw [h.1]; exact h.2.2 _ wf_H_H_kind⟩
theorem fg_H_H_owner {T : fw_T} {G : fw_G} (h : HV T G R_H) : fw_fl T G 27 kT 3 := ⟨R_H, F_H, 11, by rw [h.2.1.1]; rfl, by decide, fun w hw => h.2.2 w (lay_H w hw), by rw [h.1]; exact h.2.2 _ wf_H_H_owner⟩
theorem fg_H_H_revoked {T : fw_T} {G : fw_G} (h : HV T G R_H) : fw_fl T G 41 kT 8 := ⟨R_H, F_H, 11, by rw [h.2.1.1]; rfl, by decide, fun w hw => h.2.2 w (lay_H w hw), by rw [h.1]; exact h.2.2 _ wf_H_H_revoked⟩
abbrev nw_V : List fw_V := [.inr none, .inr none, .inr none, .inl 0, .inr none, .inl 0, .inr none, .inr none]
abbrev nw_R : List fw_V := [.inl 0, .inl 0]
abbrev nw_H : List fw_V := [.inl 0, .inl 0, .inl 0, .inr none, .inr none, .inr none, .inr none, .inr none, .inl 0, .inl 0, .inl 0]
abbrev nw_M : List fw_V := [.inl 0, .inl 0, .inr none, .inr none, .inr none, .inr none, .inr none, .inl 0, .inr none, .inr none, .inl 0]
abbrev nw_L : List fw_V := [.inr none, .inr none, .inl 0]
abbrev nw_D : List fw_V := [.inl 0, .inr none, .inr none, .inr none, .inr none, .inr none, .inr none, .inr none, .inr none, .inr none, .inr none, .inl 0, .inr none, .inr none, .inr none, .inl 0, .inr none, .inr none, .inr none, .inr none, .inr none, .inr none, .inr none, .inr none, .inr none, .inr none, .inr none, .inl 0, .inl 0]
theorem fn_H_R {T : fw_T} {G : fw_G} (h : HV T G R_H) : fw_nw T G 9 kR 2 nw_R := ⟨R_R, F_R, t_R, by rw [h.2.1.1]; rfl, fun w hw => h.2.2 w (lay_R w hw), t_R_ok, by rw [h.1]; exact h.2.2 _ wk_H_R, h.2.2 _ wb_R, h.2.2 _ wn_R, by decide +kernel⟩
theorem fn_M_H {T : fw_T} {G : fw_G} (h : HV T G R_M) : fw_nw T G 18 kT 11 nw_H := ⟨R_H, F_H, t_H, by rw [h.2.1.1]; rfl, fun w hw => h.2.2 w (lay_H w hw), t_H_ok, by rw [h.1]; exact h.2.2 _ wk_M_H, h.2.2 _ wb_H, h.2.2 _ wn_H, by decide +kernel⟩
theorem fn_M_L {T : fw_T} {G : fw_G} (h : HV T G R_M) : fw_nw T G 9 kL 3 nw_L := ⟨R_L, F_L, t_L, by rw [h.2.1.1]; rfl, fun w hw => h.2.2 w (lay_L w hw), t_L_ok, by rw [h.1]; exact h.2.2 _ wk_M_L, h.2.2 _ wb_L, h.2.2 _ wn_L, by decide +kernel⟩
theorem fn_M_R {T : fw_T} {G : fw_G} (h : HV T G R_M) : fw_nw T G 38 kR 2 nw_R := ⟨R_R, F_R, t_R, by rw [h.2.1.1]; rfl, fun w hw => h.2.2 w (lay_R w hw), t_R_ok, by rw [h.1]; exact h.2.2 _ wk_M_R, h.2.2 _ wb_R, h.2.2 _ wn_R, by decide +kernel⟩
theorem fn_V_H {T : fw_T} {G : fw_G} (h : HV T G R_V) : fw_nw T G 21 kT 11 nw_H := ⟨R_H, F_H, t_H, by rw [h.2.1.1]; rfl, fun w hw => h.2.2 w (lay_H w hw), t_H_ok, by rw [h.1]; exact h.2.2 _ wk_V_H, h.2.2 _ wb_H, h.2.2 _ wn_H, by decide +kernel⟩
theorem fn_V_L {T : fw_T} {G : fw_G} (h : HV T G R_V) : fw_nw T G 40 kL 3 nw_L := ⟨R_L, F_L, t_L, by rw [h.2.1.1]; rfl, fun w hw => h.2.2 w (lay_L w hw), t_L_ok, by rw [h.1]; exact h.2.2 _ wk_V_L, h.2.2 _ wb_L, h.2.2 _ wn_L, by decide +kernel⟩
theorem fn_V_M {T : fw_T} {G : fw_G} (h : HV T G R_V) : fw_nw T G 31 kM 11 nw_M := ⟨R_M, F_M, t_M, by rw [h.2.1.1]; rfl, fun w hw => h.2.2 w (lay_M w hw), t_M_ok, by rw [h.1]; exact h.2.2 _ wk_V_M, h.2.2 _ wb_M, h.2.2 _ wn_M, by decide +kernel⟩
theorem fn_V_R {T : fw_T} {G : fw_G} (h : HV T G R_V) : fw_nw T G 7 kR 2 nw_R := ⟨R_R, F_R, t_R, by rw [h.2.1.1]; rfl, fun w hw => h.2.2 w (lay_R w hw), t_R_ok, by rw [h.1]; exact h.2.2 _ wk_V_R, h.2.2 _ wb_R, h.2.2 _ wn_R, by decide +kernel⟩
theorem fn_W_D {T : fw_T} {G : fw_G} (h : HV T G R_W) : fw_nw T G 10 kD 29 nw_D := ⟨R_D, F_D, t_D, by rw [h.2.1.1]; rfl, fun w hw => h.2.2 w (lay_D w hw), t_D_ok, by rw [h.1]; exact h.2.2 _ wk_W_D, h.2.2 _ wb_D, h.2.2 _ wn_D, by decide +kernel⟩
theorem fn_W_V {T : fw_T} {G : fw_G} (h : HV T G R_W) : fw_nw T G 7 kV 8 nw_V := ⟨R_V, F_V, t_V, by rw [h.2.1.1]; rfl, fun w hw => h.2.2 w (lay_V w hw), t_V_ok, by rw [h.1]; exact h.2.2 _ wk_W_V, h.2.2 _ wb_V, h.2.2 _ wn_V, by decide +kernel⟩
def W_V_init : List Jvm.Cond := Jvm.Cond.code y_V_init c_V_init 2 (Option.none : Option Jvm.ClassFile.FieldType) :: Wall
def rm_V_init : Room := { frames := 2, cells := 9, slots := 259, locals := 42 }
def W_V_cell : List Jvm.Cond := Jvm.Cond.code y_V_cell c_V_cell 3 (Option.some Jvm.ClassFile.FieldType.int) :: Wall
def rm_V_cell : Room := { frames := 4, cells := 3, slots := 17, locals := 92 }
def W_V_number : List Jvm.Cond := Jvm.Cond.code y_V_number c_V_number 5 (Option.some Jvm.ClassFile.FieldType.boolean) :: Wall
def rm_V_number : Room := { frames := 3, cells := 1, slots := 2, locals := 63 }
def W_V_introduce : List Jvm.Cond := Jvm.Cond.code y_V_introduce c_V_introduce 6 (Option.some Jvm.ClassFile.FieldType.boolean) :: Wall
def rm_V_introduce : Room := { frames := 3, cells := 0, slots := 0, locals := 63 }
def W_V_send : List Jvm.Cond := Jvm.Cond.code y_V_send c_V_send 9 (Option.some Jvm.ClassFile.FieldType.int) :: Wall
def rm_V_send : Room := { frames := 7, cells := 4, slots := 24, locals := 154 }
def W_V_turn : List Jvm.Cond := Jvm.Cond.code y_V_turn c_V_turn 4 (Option.some Jvm.ClassFile.FieldType.int) :: Wall
def rm_V_turn : Room := { frames := 8, cells := 30, slots := 170, locals := 181 }
def W_V_objects : List Jvm.Cond := Jvm.Cond.code y_V_objects c_V_objects 1 (Option.some Jvm.ClassFile.FieldType.int) :: Wall
def rm_V_objects : Room := { frames := 1, cells := 0, slots := 0, locals := 20 }
def W_V_kind : List Jvm.Cond := Jvm.Cond.code y_V_kind c_V_kind 3 (Option.some Jvm.ClassFile.FieldType.int) :: Wall
def rm_V_kind : Room := { frames := 2, cells := 0, slots := 0, locals := 41 }
def W_V_home : List Jvm.Cond := Jvm.Cond.code y_V_home c_V_home 3 (Option.some Jvm.ClassFile.FieldType.int) :: Wall
def rm_V_home : Room := { frames := 2, cells := 0, slots := 0, locals := 41 }
def W_V_what : List Jvm.Cond := Jvm.Cond.code y_V_what c_V_what 4 (Option.some Jvm.ClassFile.FieldType.int) :: Wall
def rm_V_what : Room := { frames := 4, cells := 0, slots := 0, locals := 88 }
def W_V_which : List Jvm.Cond := Jvm.Cond.code y_V_which c_V_which 4 (Option.some Jvm.ClassFile.FieldType.int) :: Wall
def rm_V_which : Room := { frames := 4, cells := 0, slots := 0, locals := 88 }
def W_V_detail : List Jvm.Cond := Jvm.Cond.code y_V_detail c_V_detail 4 (Option.some Jvm.ClassFile.FieldType.int) :: Wall
def rm_V_detail : Room := { frames := 2, cells := 0, slots := 0, locals := 41 }
def W_V_messages : List Jvm.Cond := Jvm.Cond.code y_V_messages c_V_messages 1 (Option.some Jvm.ClassFile.FieldType.int) :: Wall
def rm_V_messages : Room := { frames := 1, cells := 0, slots := 0, locals := 20 }
def W_V_place : List Jvm.Cond := Jvm.Cond.code y_V_place c_V_place 3 (Option.some Jvm.ClassFile.FieldType.int) :: Wall
def rm_V_place : Room := { frames := 2, cells := 0, slots := 0, locals := 41 }
def W_V_result : List Jvm.Cond := Jvm.Cond.code y_V_result c_V_result 3 (Option.some Jvm.ClassFile.FieldType.int) :: Wall
def rm_V_result : Room := { frames := 3, cells := 0, slots := 0, locals := 65 }
def W_V_value : List Jvm.Cond := Jvm.Cond.code y_V_value c_V_value 3 (Option.some Jvm.ClassFile.FieldType.int) :: Wall
def rm_V_value : Room := { frames := 3, cells := 0, slots := 0, locals := 65 }
def W_V_queued : List Jvm.Cond := Jvm.Cond.code y_V_queued c_V_queued 2 (Option.some Jvm.ClassFile.FieldType.int) :: Wall
def rm_V_queued : Room := { frames := 2, cells := 0, slots := 0, locals := 40 }
def W_V_next : List Jvm.Cond := Jvm.Cond.code y_V_next c_V_next 4 (Option.some Jvm.ClassFile.FieldType.int) :: Wall
def rm_V_next : Room := { frames := 2, cells := 0, slots := 0, locals := 43 }
def W_V_waiting : List Jvm.Cond := Jvm.Cond.code y_V_waiting c_V_waiting 3 (Option.some Jvm.ClassFile.FieldType.int) :: Wall
def rm_V_waiting : Room := { frames := 2, cells := 0, slots := 0, locals := 41 }
def W_V_notes : List Jvm.Cond := Jvm.Cond.code y_V_notes c_V_notes 3 (Option.some Jvm.ClassFile.FieldType.int) :: Wall
def rm_V_notes : Room := { frames := 2, cells := 0, slots := 0, locals := 41 }
def W_V_isVat : List Jvm.Cond := Jvm.Cond.code y_V_isVat c_V_isVat 1 (Option.some Jvm.ClassFile.FieldType.boolean) :: Wall
def rm_V_isVat : Room := { frames := 1, cells := 0, slots := 0, locals := 20 }
def W_V_isSlot : List Jvm.Cond := Jvm.Cond.code y_V_isSlot c_V_isSlot 1 (Option.some Jvm.ClassFile.FieldType.boolean) :: Wall
def rm_V_isSlot : Room := { frames := 1, cells := 0, slots := 0, locals := 20 }
def W_V_isSlotOrNone : List Jvm.Cond := Jvm.Cond.code y_V_isSlotOrNone c_V_isSlotOrNone 1 (Option.some Jvm.ClassFile.FieldType.boolean) :: Wall
def rm_V_isSlotOrNone : Room := { frames := 2, cells := 0, slots := 0, locals := 40 }
def W_V_thingAt : List Jvm.Cond := Jvm.Cond.code y_V_thingAt c_V_thingAt 2 (Option.some (Jvm.ClassFile.FieldType.object "CapabilityVats$Thing")) :: Wall
def rm_V_thingAt : Room := { frames := 1, cells := 0, slots := 0, locals := 20 }
def W_V_cellAt : List Jvm.Cond := Jvm.Cond.code y_V_cellAt c_V_cellAt 3 (Option.some (Jvm.ClassFile.FieldType.object "CapabilityVats$Thing")) :: Wall
def rm_V_cellAt : Room := { frames := 2, cells := 0, slots := 0, locals := 41 }
def W_V_messageAt : List Jvm.Cond := Jvm.Cond.code y_V_messageAt c_V_messageAt 2 (Option.some (Jvm.ClassFile.FieldType.object "CapabilityVats$Message")) :: Wall
def rm_V_messageAt : Room := { frames := 1, cells := 0, slots := 0, locals := 20 }
def W_V_heldAt : List Jvm.Cond := Jvm.Cond.code y_V_heldAt c_V_heldAt 4 (Option.some (Jvm.ClassFile.FieldType.object "CapabilityVats$Reference")) :: Wall
def rm_V_heldAt : Room := { frames := 3, cells := 0, slots := 0, locals := 65 }
def W_V_firstDetail : List Jvm.Cond := Jvm.Cond.code y_V_firstDetail c_V_firstDetail 1 (Option.some Jvm.ClassFile.FieldType.int) :: Wall
def rm_V_firstDetail : Room := { frames := 1, cells := 0, slots := 0, locals := 20 }
def W_V_secondDetail : List Jvm.Cond := Jvm.Cond.code y_V_secondDetail c_V_secondDetail 1 (Option.some Jvm.ClassFile.FieldType.int) :: Wall
def rm_V_secondDetail : Room := { frames := 1, cells := 0, slots := 0, locals := 20 }
def W_V_countsAs : List Jvm.Cond := Jvm.Cond.code y_V_countsAs c_V_countsAs 5 (Option.some (Jvm.ClassFile.FieldType.object "CapabilityVats$Reference")) :: Wall
def rm_V_countsAs : Room := { frames := 2, cells := 0, slots := 0, locals := 41 }
def W_V_thingOf : List Jvm.Cond := Jvm.Cond.code y_V_thingOf c_V_thingOf 3 (Option.some (Jvm.ClassFile.FieldType.object "CapabilityVats$Thing")) :: Wall
def rm_V_thingOf : Room := { frames := 3, cells := 0, slots := 0, locals := 65 }
def W_V_awaitedBy : List Jvm.Cond := Jvm.Cond.code y_V_awaitedBy c_V_awaitedBy 3 (Option.some (Jvm.ClassFile.FieldType.object "CapabilityVats$Message")) :: Wall
def rm_V_awaitedBy : Room := { frames := 3, cells := 0, slots := 0, locals := 65 }
def W_V_thingOfKind : List Jvm.Cond := Jvm.Cond.code y_V_thingOfKind c_V_thingOfKind 4 (Option.some (Jvm.ClassFile.FieldType.object "CapabilityVats$Thing")) :: Wall
def rm_V_thingOfKind : Room := { frames := 4, cells := 0, slots := 0, locals := 87 }
def W_V_isNumberUpTo : List Jvm.Cond := Jvm.Cond.code y_V_isNumberUpTo c_V_isNumberUpTo 4 (Option.some Jvm.ClassFile.FieldType.boolean) :: Wall
def rm_V_isNumberUpTo : Room := { frames := 3, cells := 0, slots := 0, locals := 65 }
def W_V_numeral : List Jvm.Cond := Jvm.Cond.code y_V_numeral c_V_numeral 1 (Option.some (Jvm.ClassFile.FieldType.object "CapabilityVats$Reference")) :: Wall
def rm_V_numeral : Room := { frames := 2, cells := 1, slots := 2, locals := 42 }
def W_V_truth : List Jvm.Cond := Jvm.Cond.code y_V_truth c_V_truth 1 (Option.some (Jvm.ClassFile.FieldType.object "CapabilityVats$Reference")) :: Wall
def rm_V_truth : Room := { frames := 3, cells := 1, slots := 2, locals := 62 }
def W_V_brokenIfNothing : List Jvm.Cond := Jvm.Cond.code y_V_brokenIfNothing c_V_brokenIfNothing 2 (Option.some (Jvm.ClassFile.FieldType.object "CapabilityVats$Reference")) :: Wall
def rm_V_brokenIfNothing : Room := { frames := 1, cells := 0, slots := 0, locals := 20 }
def W_V_referenceTo : List Jvm.Cond := Jvm.Cond.code y_V_referenceTo c_V_referenceTo 2 (Option.some (Jvm.ClassFile.FieldType.object "CapabilityVats$Reference")) :: Wall
def rm_V_referenceTo : Room := { frames := 1, cells := 0, slots := 0, locals := 20 }
def W_V_settle : List Jvm.Cond := Jvm.Cond.code y_V_settle c_V_settle 3 (Option.none : Option Jvm.ClassFile.FieldType) :: Wall
def rm_V_settle : Room := { frames := 4, cells := 0, slots := 0, locals := 87 }
def W_V_routeAll : List Jvm.Cond := Jvm.Cond.code y_V_routeAll c_V_routeAll 3 (Option.none : Option Jvm.ClassFile.FieldType) :: Wall
def rm_V_routeAll : Room := { frames := 6, cells := 0, slots := 0, locals := 132 }
def W_V_route : List Jvm.Cond := Jvm.Cond.code y_V_route c_V_route 4 (Option.none : Option Jvm.ClassFile.FieldType) :: Wall
def rm_V_route : Room := { frames := 5, cells := 0, slots := 0, locals := 109 }
def W_V_relays : List Jvm.Cond := Jvm.Cond.code y_V_relays c_V_relays 2 (Option.some Jvm.ClassFile.FieldType.boolean) :: Wall
def rm_V_relays : Room := { frames := 2, cells := 0, slots := 0, locals := 40 }
def W_V_relay : List Jvm.Cond := Jvm.Cond.code y_V_relay c_V_relay 3 (Option.none : Option Jvm.ClassFile.FieldType) :: Wall
def rm_V_relay : Room := { frames := 6, cells := 3, slots := 17, locals := 142 }
def W_V_wrapAsNoted : List Jvm.Cond := Jvm.Cond.code y_V_wrapAsNoted c_V_wrapAsNoted 7 (Option.some (Jvm.ClassFile.FieldType.object "CapabilityVats$Reference")) :: Wall
def rm_V_wrapAsNoted : Room := { frames := 6, cells := 24, slots := 136, locals := 142 }
def W_V_wrap : List Jvm.Cond := Jvm.Cond.code y_V_wrap c_V_wrap 7 (Option.some (Jvm.ClassFile.FieldType.object "CapabilityVats$Reference")) :: Wall
def rm_V_wrap : Room := { frames := 5, cells := 3, slots := 17, locals := 116 }
def W_V_findWrapper : List Jvm.Cond := Jvm.Cond.code y_V_findWrapper c_V_findWrapper 7 (Option.some (Jvm.ClassFile.FieldType.object "CapabilityVats$Thing")) :: Wall
def rm_V_findWrapper : Room := { frames := 3, cells := 0, slots := 0, locals := 65 }
def W_V_makeWrapper : List Jvm.Cond := Jvm.Cond.code y_V_makeWrapper c_V_makeWrapper 5 (Option.some (Jvm.ClassFile.FieldType.object "CapabilityVats$Thing")) :: Wall
def rm_V_makeWrapper : Room := { frames := 4, cells := 3, slots := 17, locals := 92 }
def W_V_answer : List Jvm.Cond := Jvm.Cond.code y_V_answer c_V_answer 5 (Option.some (Jvm.ClassFile.FieldType.object "CapabilityVats$Reference")) :: Wall
def rm_V_answer : Room := { frames := 7, cells := 6, slots := 34, locals := 157 }
def W_V_answerOfCell : List Jvm.Cond := Jvm.Cond.code y_V_answerOfCell c_V_answerOfCell 4 (Option.some (Jvm.ClassFile.FieldType.object "CapabilityVats$Reference")) :: Wall
def rm_V_answerOfCell : Room := { frames := 5, cells := 6, slots := 34, locals := 116 }
def W_V_answerOfRevocable : List Jvm.Cond := Jvm.Cond.code y_V_answerOfRevocable c_V_answerOfRevocable 3 (Option.some (Jvm.ClassFile.FieldType.object "CapabilityVats$Reference")) :: Wall
def rm_V_answerOfRevocable : Room := { frames := 4, cells := 1, slots := 2, locals := 82 }
def W_V_answerOfBrand : List Jvm.Cond := Jvm.Cond.code y_V_answerOfBrand c_V_answerOfBrand 3 (Option.some (Jvm.ClassFile.FieldType.object "CapabilityVats$Reference")) :: Wall
def rm_V_answerOfBrand : Room := { frames := 4, cells := 3, slots := 17, locals := 92 }
def W_V_answerOfPurse : List Jvm.Cond := Jvm.Cond.code y_V_answerOfPurse c_V_answerOfPurse 4 (Option.some (Jvm.ClassFile.FieldType.object "CapabilityVats$Reference")) :: Wall
def rm_V_answerOfPurse : Room := { frames := 6, cells := 3, slots := 17, locals := 134 }
def W_V_deposit : List Jvm.Cond := Jvm.Cond.code y_V_deposit c_V_deposit 5 (Option.some (Jvm.ClassFile.FieldType.object "CapabilityVats$Reference")) :: Wall
def rm_V_deposit : Room := { frames := 5, cells := 1, slots := 2, locals := 110 }
def W_V_split : List Jvm.Cond := Jvm.Cond.code y_V_split c_V_split 4 (Option.some (Jvm.ClassFile.FieldType.object "CapabilityVats$Reference")) :: Wall
def rm_V_split : Room := { frames := 4, cells := 3, slots := 17, locals := 92 }
def W_V_unseal : List Jvm.Cond := Jvm.Cond.code y_V_unseal c_V_unseal 4 (Option.some (Jvm.ClassFile.FieldType.object "CapabilityVats$Reference")) :: Wall
def rm_V_unseal : Room := { frames := 5, cells := 0, slots := 0, locals := 110 }
def W_V_make : List Jvm.Cond := Jvm.Cond.code y_V_make c_V_make 5 (Option.some (Jvm.ClassFile.FieldType.object "CapabilityVats$Thing")) :: Wall
def rm_V_make : Room := { frames := 3, cells := 3, slots := 17, locals := 68 }
def W_V_makeGate : List Jvm.Cond := Jvm.Cond.code y_V_makeGate c_V_makeGate 5 (Option.some (Jvm.ClassFile.FieldType.object "CapabilityVats$Reference")) :: Wall
def rm_V_makeGate : Room := { frames := 4, cells := 6, slots := 34, locals := 92 }
def W_V_makeBox : List Jvm.Cond := Jvm.Cond.code y_V_makeBox c_V_makeBox 4 (Option.some (Jvm.ClassFile.FieldType.object "CapabilityVats$Reference")) :: Wall
def rm_V_makeBox : Room := { frames := 4, cells := 3, slots := 17, locals := 92 }
def W_V_makeMoney : List Jvm.Cond := Jvm.Cond.code y_V_makeMoney c_V_makeMoney 4 (Option.some (Jvm.ClassFile.FieldType.object "CapabilityVats$Reference")) :: Wall
def rm_V_makeMoney : Room := { frames := 4, cells := 3, slots := 17, locals := 92 }
def W_D_init : List Jvm.Cond := Jvm.Cond.code y_D_init c_D_init 1 (Option.none : Option Jvm.ClassFile.FieldType) :: Wall
def rm_D_init : Room := { frames := 1, cells := 24, slots := 6240, locals := 20 }
def W_D_out : List Jvm.Cond := Jvm.Cond.code y_D_out c_D_out 2 (Option.some Jvm.ClassFile.FieldType.boolean) :: Wall
def rm_D_out : Room := { frames := 1, cells := 0, slots := 0, locals := 20 }
def W_D_hold : List Jvm.Cond := Jvm.Cond.code y_D_hold c_D_hold 3 (Option.none : Option Jvm.ClassFile.FieldType) :: Wall
def rm_D_hold : Room := { frames := 1, cells := 0, slots := 0, locals := 20 }
def W_D_look : List Jvm.Cond := Jvm.Cond.code y_D_look c_D_look 3 (Option.none : Option Jvm.ClassFile.FieldType) :: Wall
def rm_D_look : Room := { frames := 2, cells := 0, slots := 0, locals := 42 }
def W_D_broken : List Jvm.Cond := Jvm.Cond.code y_D_broken c_D_broken 1 (Option.none : Option Jvm.ClassFile.FieldType) :: Wall
def rm_D_broken : Room := { frames := 2, cells := 0, slots := 0, locals := 42 }
def W_D_isObject : List Jvm.Cond := Jvm.Cond.code y_D_isObject c_D_isObject 2 (Option.some Jvm.ClassFile.FieldType.boolean) :: Wall
def rm_D_isObject : Room := { frames := 1, cells := 0, slots := 0, locals := 20 }
def W_D_make : List Jvm.Cond := Jvm.Cond.code y_D_make c_D_make 6 (Option.some Jvm.ClassFile.FieldType.int) :: Wall
def rm_D_make : Room := { frames := 1, cells := 0, slots := 0, locals := 20 }
def W_D_fresh : List Jvm.Cond := Jvm.Cond.code y_D_fresh c_D_fresh 4 (Option.none : Option Jvm.ClassFile.FieldType) :: Wall
def rm_D_fresh : Room := { frames := 3, cells := 0, slots := 0, locals := 62 }
def W_D_stand : List Jvm.Cond := Jvm.Cond.code y_D_stand c_D_stand 4 (Option.none : Option Jvm.ClassFile.FieldType) :: Wall
def rm_D_stand : Room := { frames := 1, cells := 0, slots := 0, locals := 20 }
def W_D_nth : List Jvm.Cond := Jvm.Cond.code y_D_nth c_D_nth 9 (Option.some Jvm.ClassFile.FieldType.int) :: Wall
def rm_D_nth : Room := { frames := 1, cells := 0, slots := 0, locals := 20 }
def W_D_count : List Jvm.Cond := Jvm.Cond.code y_D_count c_D_count 5 (Option.some Jvm.ClassFile.FieldType.int) :: Wall
def rm_D_count : Room := { frames := 1, cells := 0, slots := 0, locals := 20 }
def W_D_route : List Jvm.Cond := Jvm.Cond.code y_D_route c_D_route 3 (Option.none : Option Jvm.ClassFile.FieldType) :: Wall
def rm_D_route : Room := { frames := 5, cells := 0, slots := 0, locals := 109 }
def W_D_direct : List Jvm.Cond := Jvm.Cond.code y_D_direct c_D_direct 2 (Option.none : Option Jvm.ClassFile.FieldType) :: Wall
def rm_D_direct : Room := { frames := 4, cells := 0, slots := 0, locals := 88 }
def W_D_released : List Jvm.Cond := Jvm.Cond.code y_D_released c_D_released 4 (Option.some Jvm.ClassFile.FieldType.int) :: Wall
def rm_D_released : Room := { frames := 1, cells := 0, slots := 0, locals := 20 }
def W_D_settle : List Jvm.Cond := Jvm.Cond.code y_D_settle c_D_settle 5 (Option.none : Option Jvm.ClassFile.FieldType) :: Wall
def rm_D_settle : Room := { frames := 3, cells := 0, slots := 0, locals := 64 }
def W_D_isSlot : List Jvm.Cond := Jvm.Cond.code y_D_isSlot c_D_isSlot 3 (Option.some Jvm.ClassFile.FieldType.boolean) :: Wall
def rm_D_isSlot : Room := { frames := 2, cells := 0, slots := 0, locals := 41 }
def W_D_cell : List Jvm.Cond := Jvm.Cond.code y_D_cell c_D_cell 2 (Option.some Jvm.ClassFile.FieldType.int) :: Wall
def rm_D_cell : Room := { frames := 2, cells := 0, slots := 0, locals := 45 }
def W_D_number : List Jvm.Cond := Jvm.Cond.code y_D_number c_D_number 4 (Option.some Jvm.ClassFile.FieldType.boolean) :: Wall
def rm_D_number : Room := { frames := 3, cells := 0, slots := 0, locals := 63 }
def W_D_introduce : List Jvm.Cond := Jvm.Cond.code y_D_introduce c_D_introduce 4 (Option.some Jvm.ClassFile.FieldType.boolean) :: Wall
def rm_D_introduce : Room := { frames := 3, cells := 0, slots := 0, locals := 63 }
def W_D_send : List Jvm.Cond := Jvm.Cond.code y_D_send c_D_send 7 (Option.some Jvm.ClassFile.FieldType.int) :: Wall
def rm_D_send : Room := { frames := 6, cells := 0, slots := 0, locals := 131 }
def W_D_turn : List Jvm.Cond := Jvm.Cond.code y_D_turn c_D_turn 4 (Option.some Jvm.ClassFile.FieldType.int) :: Wall
def rm_D_turn : Room := { frames := 7, cells := 0, slots := 0, locals := 158 }
def W_D_answers : List Jvm.Cond := Jvm.Cond.code y_D_answers c_D_answers 5 (Option.some Jvm.ClassFile.FieldType.boolean) :: Wall
def rm_D_answers : Room := { frames := 6, cells := 0, slots := 0, locals := 134 }
def W_D_ofCell : List Jvm.Cond := Jvm.Cond.code y_D_ofCell c_D_ofCell 7 (Option.none : Option Jvm.ClassFile.FieldType) :: Wall
def rm_D_ofCell : Room := { frames := 4, cells := 0, slots := 0, locals := 85 }
def W_D_ofGuard : List Jvm.Cond := Jvm.Cond.code y_D_ofGuard c_D_ofGuard 3 (Option.none : Option Jvm.ClassFile.FieldType) :: Wall
def rm_D_ofGuard : Room := { frames := 5, cells := 0, slots := 0, locals := 110 }
def W_D_ofSealer : List Jvm.Cond := Jvm.Cond.code y_D_ofSealer c_D_ofSealer 3 (Option.none : Option Jvm.ClassFile.FieldType) :: Wall
def rm_D_ofSealer : Room := { frames := 4, cells := 0, slots := 0, locals := 85 }
def W_D_ofUnsealer : List Jvm.Cond := Jvm.Cond.code y_D_ofUnsealer c_D_ofUnsealer 3 (Option.none : Option Jvm.ClassFile.FieldType) :: Wall
def rm_D_ofUnsealer : Room := { frames := 3, cells := 0, slots := 0, locals := 62 }
def W_D_ofMint : List Jvm.Cond := Jvm.Cond.code y_D_ofMint c_D_ofMint 3 (Option.none : Option Jvm.ClassFile.FieldType) :: Wall
def rm_D_ofMint : Room := { frames := 4, cells := 0, slots := 0, locals := 85 }
def W_D_ofPurse : List Jvm.Cond := Jvm.Cond.code y_D_ofPurse c_D_ofPurse 6 (Option.none : Option Jvm.ClassFile.FieldType) :: Wall
def rm_D_ofPurse : Room := { frames := 4, cells := 0, slots := 0, locals := 85 }
def W_D_relays : List Jvm.Cond := Jvm.Cond.code y_D_relays c_D_relays 5 (Option.some Jvm.ClassFile.FieldType.boolean) :: Wall
def rm_D_relays : Room := { frames := 5, cells := 0, slots := 0, locals := 110 }
def W_D_wrap : List Jvm.Cond := Jvm.Cond.code y_D_wrap c_D_wrap 6 (Option.some Jvm.ClassFile.FieldType.boolean) :: Wall
def rm_D_wrap : Room := { frames := 4, cells := 0, slots := 0, locals := 85 }
def W_D_asNoted : List Jvm.Cond := Jvm.Cond.code y_D_asNoted c_D_asNoted 6 (Option.none : Option Jvm.ClassFile.FieldType) :: Wall
def rm_D_asNoted : Room := { frames := 5, cells := 0, slots := 0, locals := 110 }
def W_D_objects : List Jvm.Cond := Jvm.Cond.code y_D_objects c_D_objects 1 (Option.some Jvm.ClassFile.FieldType.int) :: Wall
def rm_D_objects : Room := { frames := 1, cells := 0, slots := 0, locals := 20 }
def W_D_kind : List Jvm.Cond := Jvm.Cond.code y_D_kind c_D_kind 2 (Option.some Jvm.ClassFile.FieldType.int) :: Wall
def rm_D_kind : Room := { frames := 2, cells := 0, slots := 0, locals := 41 }
def W_D_home : List Jvm.Cond := Jvm.Cond.code y_D_home c_D_home 2 (Option.some Jvm.ClassFile.FieldType.int) :: Wall
def rm_D_home : Room := { frames := 2, cells := 0, slots := 0, locals := 41 }
def W_D_seen : List Jvm.Cond := Jvm.Cond.code y_D_seen c_D_seen 4 (Option.some Jvm.ClassFile.FieldType.boolean) :: Wall
def rm_D_seen : Room := { frames := 3, cells := 0, slots := 0, locals := 64 }
def W_D_what : List Jvm.Cond := Jvm.Cond.code y_D_what c_D_what 3 (Option.some Jvm.ClassFile.FieldType.int) :: Wall
def rm_D_what : Room := { frames := 4, cells := 0, slots := 0, locals := 87 }
def W_D_which : List Jvm.Cond := Jvm.Cond.code y_D_which c_D_which 3 (Option.some Jvm.ClassFile.FieldType.int) :: Wall
def rm_D_which : Room := { frames := 4, cells := 0, slots := 0, locals := 87 }
def W_D_detail : List Jvm.Cond := Jvm.Cond.code y_D_detail c_D_detail 4 (Option.some Jvm.ClassFile.FieldType.int) :: Wall
def rm_D_detail : Room := { frames := 2, cells := 0, slots := 0, locals := 41 }
def W_D_messages : List Jvm.Cond := Jvm.Cond.code y_D_messages c_D_messages 1 (Option.some Jvm.ClassFile.FieldType.int) :: Wall
def rm_D_messages : Room := { frames := 1, cells := 0, slots := 0, locals := 20 }
def W_D_place : List Jvm.Cond := Jvm.Cond.code y_D_place c_D_place 2 (Option.some Jvm.ClassFile.FieldType.int) :: Wall
def rm_D_place : Room := { frames := 2, cells := 0, slots := 0, locals := 41 }
def W_D_result : List Jvm.Cond := Jvm.Cond.code y_D_result c_D_result 2 (Option.some Jvm.ClassFile.FieldType.int) :: Wall
def rm_D_result : Room := { frames := 3, cells := 0, slots := 0, locals := 64 }
def W_D_value : List Jvm.Cond := Jvm.Cond.code y_D_value c_D_value 2 (Option.some Jvm.ClassFile.FieldType.int) :: Wall
def rm_D_value : Room := { frames := 3, cells := 0, slots := 0, locals := 64 }
def W_D_queued : List Jvm.Cond := Jvm.Cond.code y_D_queued c_D_queued 2 (Option.some Jvm.ClassFile.FieldType.int) :: Wall
def rm_D_queued : Room := { frames := 2, cells := 0, slots := 0, locals := 44 }
def W_D_next : List Jvm.Cond := Jvm.Cond.code y_D_next c_D_next 4 (Option.some Jvm.ClassFile.FieldType.int) :: Wall
def rm_D_next : Room := { frames := 2, cells := 0, slots := 0, locals := 48 }
def W_D_waiting : List Jvm.Cond := Jvm.Cond.code y_D_waiting c_D_waiting 2 (Option.some Jvm.ClassFile.FieldType.int) :: Wall
def rm_D_waiting : Room := { frames := 2, cells := 0, slots := 0, locals := 44 }
def W_D_notes : List Jvm.Cond := Jvm.Cond.code y_D_notes c_D_notes 2 (Option.some Jvm.ClassFile.FieldType.int) :: Wall
def rm_D_notes : Room := { frames := 2, cells := 0, slots := 0, locals := 41 }
def W_L_init : List Jvm.Cond := Jvm.Cond.code y_L_init c_L_init 1 (Option.none : Option Jvm.ClassFile.FieldType) :: Wall
def rm_L_init : Room := { frames := 1, cells := 0, slots := 0, locals := 20 }
def W_L_join : List Jvm.Cond := Jvm.Cond.code y_L_join c_L_join 2 (Option.none : Option Jvm.ClassFile.FieldType) :: Wall
def rm_L_join : Room := { frames := 1, cells := 0, slots := 0, locals := 20 }
def W_L_take : List Jvm.Cond := Jvm.Cond.code y_L_take c_L_take 2 (Option.some (Jvm.ClassFile.FieldType.object "CapabilityVats$Message")) :: Wall
def rm_L_take : Room := { frames := 1, cells := 0, slots := 0, locals := 20 }
def W_L_takeOver : List Jvm.Cond := Jvm.Cond.code y_L_takeOver c_L_takeOver 4 (Option.none : Option Jvm.ClassFile.FieldType) :: Wall
def rm_L_takeOver : Room := { frames := 2, cells := 0, slots := 0, locals := 41 }
def W_L_withBefore : List Jvm.Cond := Jvm.Cond.code y_L_withBefore c_L_withBefore 4 (Option.some (Jvm.ClassFile.FieldType.object "CapabilityVats$Message")) :: Wall
def rm_L_withBefore : Room := { frames := 1, cells := 0, slots := 0, locals := 20 }
def W_M_init : List Jvm.Cond := Jvm.Cond.code y_M_init c_M_init 5 (Option.none : Option Jvm.ClassFile.FieldType) :: Wall
def rm_M_init : Room := { frames := 2, cells := 3, slots := 13, locals := 42 }
def W_M_noteDown : List Jvm.Cond := Jvm.Cond.code y_M_noteDown c_M_noteDown 2 (Option.none : Option Jvm.ClassFile.FieldType) :: Wall
def rm_M_noteDown : Room := { frames := 1, cells := 0, slots := 0, locals := 20 }
def W_R_init : List Jvm.Cond := Jvm.Cond.code y_R_init c_R_init 3 (Option.none : Option Jvm.ClassFile.FieldType) :: Wall
def rm_R_init : Room := { frames := 1, cells := 0, slots := 0, locals := 20 }
def W_R_isSame : List Jvm.Cond := Jvm.Cond.code y_R_isSame c_R_isSame 2 (Option.some Jvm.ClassFile.FieldType.boolean) :: Wall
def rm_R_isSame : Room := { frames := 1, cells := 0, slots := 0, locals := 20 }
def W_H_init : List Jvm.Cond := Jvm.Cond.code y_H_init c_H_init 7 (Option.none : Option Jvm.ClassFile.FieldType) :: Wall
def rm_H_init : Room := { frames := 2, cells := 2, slots := 6, locals := 42 }
def W_H_holdsOne : List Jvm.Cond := Jvm.Cond.code y_H_holdsOne c_H_holdsOne 1 (Option.some Jvm.ClassFile.FieldType.boolean) :: Wall
def rm_H_holdsOne : Room := { frames := 1, cells := 0, slots := 0, locals := 20 }
def W_H_isCutOff : List Jvm.Cond := Jvm.Cond.code y_H_isCutOff c_H_isCutOff 1 (Option.some Jvm.ClassFile.FieldType.boolean) :: Wall
def rm_H_isCutOff : Room := { frames := 1, cells := 0, slots := 0, locals := 20 }
theorem fc_V_R_init {T : fw_T} {G : fw_G} (h : HV T G R_V) (hR : rm_R_init.frames + 1 ≤ (gR G).frames ∧ 8 + (3 + 11) + rm_R_init.locals ≤ (gR G).locals) : fw_cI G 11 y_R_init c_R_init 3 W_R_init rm_R_init 2 := fun s args hts => by rw [h.1]; exact cwI 2 hts (good_sub h.2.2 (in_cons wc_R_init)) rfl rfl rfl (hts _ (h.2.2 _ wn_R)) (hts _ (h.2.2 _ wm_V_R_init)) (hts _ (h.2.2 _ wi_R_init)) rfl (by decide +kernel) hR
theorem fc_V_V_isVat {T : fw_T} {G : fw_G} (h : HV T G R_V) (hR : rm_V_isVat.frames + 1 ≤ (gR G).frames ∧ 8 + (1 + 11) + rm_V_isVat.locals ≤ (gR G).locals) : fw_cS G 51 y_V_isVat c_V_isVat 1 (Option.some Jvm.ClassFile.FieldType.boolean) W_V_isVat rm_V_isVat 1 := fun s args hts => by rw [h.1]; exact cwS 1 hts (good_sub h.2.2 (gs_of wm_V_V_isVat wt_V_isVat wn_V wc_V_isVat)) rfl rfl rfl (by decide +kernel) hR
theorem fc_V_V_make {T : fw_T} {G : fw_G} (h : HV T G R_V) (hR : rm_V_make.frames + 1 ≤ (gR G).frames ∧ 8 + (5 + 11) + rm_V_make.locals ≤ (gR G).locals) : fw_cV G 55 y_V_make c_V_make 5 (Option.some (Jvm.ClassFile.FieldType.object "CapabilityVats$Thing")) W_V_make rm_V_make 3 := fun s args hts => by rw [h.1]; exact cwV 3 hts (good_sub h.2.2 (gv_of wm_V_V_make wi_V_make ws_V_make wn_V wc_V_make)) rfl rfl rfl (by decide +kernel) hR
theorem fc_V_V_cellAt {T : fw_T} {G : fw_G} (h : HV T G R_V) (hR : rm_V_cellAt.frames + 1 ≤ (gR G).frames ∧ 8 + (3 + 11) + rm_V_cellAt.locals ≤ (gR G).locals) : fw_cV G 62 y_V_cellAt c_V_cellAt 3 (Option.some (Jvm.ClassFile.FieldType.object "CapabilityVats$Thing")) W_V_cellAt rm_V_cellAt 1 := fun s args hts => by rw [h.1]; exact cwV 1 hts (good_sub h.2.2 (gv_of wm_V_V_cellAt wi_V_cellAt ws_V_cellAt wn_V wc_V_cellAt)) rfl rfl rfl (by decide +kernel) hR
theorem fc_V_V_isSlot {T : fw_T} {G : fw_G} (h : HV T G R_V) (hR : rm_V_isSlot.frames + 1 ≤ (gR G).frames ∧ 8 + (1 + 11) + rm_V_isSlot.locals ≤ (gR G).locals) : fw_cS G 66 y_V_isSlot c_V_isSlot 1 (Option.some Jvm.ClassFile.FieldType.boolean) W_V_isSlot rm_V_isSlot 1 := fun s args hts => by rw [h.1]; exact cwS 1 hts (good_sub h.2.2 (gs_of wm_V_V_isSlot wt_V_isSlot wn_V wc_V_isSlot)) rfl rfl rfl (by decide +kernel) hR
theorem fc_V_V_numeral {T : fw_T} {G : fw_G} (h : HV T G R_V) (hR : rm_V_numeral.frames + 1 ≤ (gR G).frames ∧ 8 + (1 + 11) + rm_V_numeral.locals ≤ (gR G).locals) : fw_cS G 73 y_V_numeral c_V_numeral 1 (Option.some (Jvm.ClassFile.FieldType.object "CapabilityVats$Reference")) W_V_numeral rm_V_numeral 1 := fun s args hts => by rw [h.1]; exact cwS 1 hts (good_sub h.2.2 (gs_of wm_V_V_numeral wt_V_numeral wn_V wc_V_numeral)) rfl rfl rfl (by decide +kernel) hR
theorem fc_V_V_thingAt {T : fw_T} {G : fw_G} (h : HV T G R_V) (hR : rm_V_thingAt.frames + 1 ≤ (gR G).frames ∧ 8 + (2 + 11) + rm_V_thingAt.locals ≤ (gR G).locals) : fw_cV G 77 y_V_thingAt c_V_thingAt 2 (Option.some (Jvm.ClassFile.FieldType.object "CapabilityVats$Thing")) W_V_thingAt rm_V_thingAt 1 := fun s args hts => by rw [h.1]; exact cwV 1 hts (good_sub h.2.2 (gv_of wm_V_V_thingAt wi_V_thingAt ws_V_thingAt wn_V wc_V_thingAt)) rfl rfl rfl (by decide +kernel) hR
theorem fc_V_V_isSlotOrNone {T : fw_T} {G : fw_G} (h : HV T G R_V) (hR : rm_V_isSlotOrNone.frames + 1 ≤ (gR G).frames ∧ 8 + (1 + 11) + rm_V_isSlotOrNone.locals ≤ (gR G).locals) : fw_cS G 83 y_V_isSlotOrNone c_V_isSlotOrNone 1 (Option.some Jvm.ClassFile.FieldType.boolean) W_V_isSlotOrNone rm_V_isSlotOrNone 1 := fun s args hts => by rw [h.1]; exact cwS 1 hts (good_sub h.2.2 (gs_of wm_V_V_isSlotOrNone wt_V_isSlotOrNone wn_V wc_V_isSlotOrNone)) rfl rfl rfl (by decide +kernel) hR
theorem fc_V_M_init {T : fw_T} {G : fw_G} (h : HV T G R_V) (hR : rm_M_init.frames + 1 ≤ (gR G).frames ∧ 8 + (5 + 11) + rm_M_init.locals ≤ (gR G).locals) : fw_cI G 86 y_M_init c_M_init 5 W_M_init rm_M_init 4 := fun s args hts => by rw [h.1]; exact cwI 4 hts (good_sub h.2.2 (in_cons wc_M_init)) rfl rfl rfl (hts _ (h.2.2 _ wn_M)) (hts _ (h.2.2 _ wm_V_M_init)) (hts _ (h.2.2 _ wi_M_init)) rfl (by decide +kernel) hR
theorem fc_V_L_join {T : fw_T} {G : fw_G} (h : HV T G R_V) (hR : rm_L_join.frames + 1 ≤ (gR G).frames ∧ 8 + (2 + 11) + rm_L_join.locals ≤ (gR G).locals) : fw_cV G 92 y_L_join c_L_join 2 (Option.none : Option Jvm.ClassFile.FieldType) W_L_join rm_L_join 1 := fun s args hts => by rw [h.1]; exact cwV 1 hts (good_sub h.2.2 (gv_of wm_V_L_join wi_L_join ws_L_join wn_L wc_L_join)) rfl rfl rfl (by decide +kernel) hR
theorem fc_V_V_routeAll {T : fw_T} {G : fw_G} (h : HV T G R_V) (hR : rm_V_routeAll.frames + 1 ≤ (gR G).frames ∧ 8 + (3 + 11) + rm_V_routeAll.locals ≤ (gR G).locals) : fw_cV G 96 y_V_routeAll c_V_routeAll 3 (Option.none : Option Jvm.ClassFile.FieldType) W_V_routeAll rm_V_routeAll 0 := fun s args hts => by rw [h.1]; exact cwV 0 hts (good_sub h.2.2 (gv_of wm_V_V_routeAll wi_V_routeAll ws_V_routeAll wn_V wc_V_routeAll)) rfl rfl rfl (by decide +kernel) hR
theorem fc_V_L_take {T : fw_T} {G : fw_G} (h : HV T G R_V) (hR : rm_L_take.frames + 1 ≤ (gR G).frames ∧ 8 + (2 + 11) + rm_L_take.locals ≤ (gR G).locals) : fw_cV G 100 y_L_take c_L_take 2 (Option.some (Jvm.ClassFile.FieldType.object "CapabilityVats$Message")) W_L_take rm_L_take 0 := fun s args hts => by rw [h.1]; exact cwV 0 hts (good_sub h.2.2 (gv_of wm_V_L_take wi_L_take ws_L_take wn_L wc_L_take)) rfl rfl rfl (by decide +kernel) hR
theorem fc_V_V_thingOf {T : fw_T} {G : fw_G} (h : HV T G R_V) (hR : rm_V_thingOf.frames + 1 ≤ (gR G).frames ∧ 8 + (3 + 11) + rm_V_thingOf.locals ≤ (gR G).locals) : fw_cV G 107 y_V_thingOf c_V_thingOf 3 (Option.some (Jvm.ClassFile.FieldType.object "CapabilityVats$Thing")) W_V_thingOf rm_V_thingOf 1 := fun s args hts => by rw [h.1]; exact cwV 1 hts (good_sub h.2.2 (gv_of wm_V_V_thingOf wi_V_thingOf ws_V_thingOf wn_V wc_V_thingOf)) rfl rfl rfl (by decide +kernel) hR
theorem fc_V_V_relays {T : fw_T} {G : fw_G} (h : HV T G R_V) (hR : rm_V_relays.frames + 1 ≤ (gR G).frames ∧ 8 + (2 + 11) + rm_V_relays.locals ≤ (gR G).locals) : fw_cS G 111 y_V_relays c_V_relays 2 (Option.some Jvm.ClassFile.FieldType.boolean) W_V_relays rm_V_relays 2 := fun s args hts => by rw [h.1]; exact cwS 2 hts (good_sub h.2.2 (gs_of wm_V_V_relays wt_V_relays wn_V wc_V_relays)) rfl rfl rfl (by decide +kernel) hR
theorem fc_V_V_relay {T : fw_T} {G : fw_G} (h : HV T G R_V) (hR : rm_V_relay.frames + 1 ≤ (gR G).frames ∧ 8 + (3 + 11) + rm_V_relay.locals ≤ (gR G).locals) : fw_cV G 115 y_V_relay c_V_relay 3 (Option.none : Option Jvm.ClassFile.FieldType) W_V_relay rm_V_relay 2 := fun s args hts => by rw [h.1]; exact cwV 2 hts (good_sub h.2.2 (gv_of wm_V_V_relay wi_V_relay ws_V_relay wn_V wc_V_relay)) rfl rfl rfl (by decide +kernel) hR
theorem fc_V_V_answer {T : fw_T} {G : fw_G} (h : HV T G R_V) (hR : rm_V_answer.frames + 1 ≤ (gR G).frames ∧ 8 + (5 + 11) + rm_V_answer.locals ≤ (gR G).locals) : fw_cV G 119 y_V_answer c_V_answer 5 (Option.some (Jvm.ClassFile.FieldType.object "CapabilityVats$Reference")) W_V_answer rm_V_answer 2 := fun s args hts => by rw [h.1]; exact cwV 2 hts (good_sub h.2.2 (gv_of wm_V_V_answer wi_V_answer ws_V_answer wn_V wc_V_answer)) rfl rfl rfl (by decide +kernel) hR
theorem fc_V_V_wrapAsNoted {T : fw_T} {G : fw_G} (h : HV T G R_V) (hR : rm_V_wrapAsNoted.frames + 1 ≤ (gR G).frames ∧ 8 + (7 + 11) + rm_V_wrapAsNoted.locals ≤ (gR G).locals) : fw_cV G 123 y_V_wrapAsNoted c_V_wrapAsNoted 7 (Option.some (Jvm.ClassFile.FieldType.object "CapabilityVats$Reference")) W_V_wrapAsNoted rm_V_wrapAsNoted 2 := fun s args hts => by rw [h.1]; exact cwV 2 hts (good_sub h.2.2 (gv_of wm_V_V_wrapAsNoted wi_V_wrapAsNoted ws_V_wrapAsNoted wn_V wc_V_wrapAsNoted)) rfl rfl rfl (by decide +kernel) hR
theorem fc_V_V_settle {T : fw_T} {G : fw_G} (h : HV T G R_V) (hR : rm_V_settle.frames + 1 ≤ (gR G).frames ∧ 8 + (3 + 11) + rm_V_settle.locals ≤ (gR G).locals) : fw_cV G 127 y_V_settle c_V_settle 3 (Option.none : Option Jvm.ClassFile.FieldType) W_V_settle rm_V_settle 2 := fun s args hts => by rw [h.1]; exact cwV 2 hts (good_sub h.2.2 (gv_of wm_V_V_settle wi_V_settle ws_V_settle wn_V wc_V_settle)) rfl rfl rfl (by decide +kernel) hR
theorem fc_V_V_heldAt {T : fw_T} {G : fw_G} (h : HV T G R_V) (hR : rm_V_heldAt.frames + 1 ≤ (gR G).frames ∧ 8 + (4 + 11) + rm_V_heldAt.locals ≤ (gR G).locals) : fw_cV G 137 y_V_heldAt c_V_heldAt 4 (Option.some (Jvm.ClassFile.FieldType.object "CapabilityVats$Reference")) W_V_heldAt rm_V_heldAt 2 := fun s args hts => by rw [h.1]; exact cwV 2 hts (good_sub h.2.2 (gv_of wm_V_V_heldAt wi_V_heldAt ws_V_heldAt wn_V wc_V_heldAt)) rfl rfl rfl (by decide +kernel) hR
theorem fc_V_V_firstDetail {T : fw_T} {G : fw_G} (h : HV T G R_V) (hR : rm_V_firstDetail.frames + 1 ≤ (gR G).frames ∧ 8 + (1 + 11) + rm_V_firstDetail.locals ≤ (gR G).locals) : fw_cS G 147 y_V_firstDetail c_V_firstDetail 1 (Option.some Jvm.ClassFile.FieldType.int) W_V_firstDetail rm_V_firstDetail 1 := fun s args hts => by rw [h.1]; exact cwS 1 hts (good_sub h.2.2 (gs_of wm_V_V_firstDetail wt_V_firstDetail wn_V wc_V_firstDetail)) rfl rfl rfl (by decide +kernel) hR
theorem fc_V_V_secondDetail {T : fw_T} {G : fw_G} (h : HV T G R_V) (hR : rm_V_secondDetail.frames + 1 ≤ (gR G).frames ∧ 8 + (1 + 11) + rm_V_secondDetail.locals ≤ (gR G).locals) : fw_cS G 151 y_V_secondDetail c_V_secondDetail 1 (Option.some Jvm.ClassFile.FieldType.int) W_V_secondDetail rm_V_secondDetail 1 := fun s args hts => by rw [h.1]; exact cwS 1 hts (good_sub h.2.2 (gs_of wm_V_V_secondDetail wt_V_secondDetail wn_V wc_V_secondDetail)) rfl rfl rfl (by decide +kernel) hR
theorem fc_V_V_messageAt {T : fw_T} {G : fw_G} (h : HV T G R_V) (hR : rm_V_messageAt.frames + 1 ≤ (gR G).frames ∧ 8 + (2 + 11) + rm_V_messageAt.locals ≤ (gR G).locals) : fw_cV G 154 y_V_messageAt c_V_messageAt 2 (Option.some (Jvm.ClassFile.FieldType.object "CapabilityVats$Message")) W_V_messageAt rm_V_messageAt 1 := fun s args hts => by rw [h.1]; exact cwV 1 hts (good_sub h.2.2 (gv_of wm_V_V_messageAt wi_V_messageAt ws_V_messageAt wn_V wc_V_messageAt)) rfl rfl rfl (by decide +kernel) hR
theorem fc_V_V_countsAs {T : fw_T} {G : fw_G} (h : HV T G R_V) (hR : rm_V_countsAs.frames + 1 ≤ (gR G).frames ∧ 8 + (5 + 11) + rm_V_countsAs.locals ≤ (gR G).locals) : fw_cV G 161 y_V_countsAs c_V_countsAs 5 (Option.some (Jvm.ClassFile.FieldType.object "CapabilityVats$Reference")) W_V_countsAs rm_V_countsAs 1 := fun s args hts => by rw [h.1]; exact cwV 1 hts (good_sub h.2.2 (gv_of wm_V_V_countsAs wi_V_countsAs ws_V_countsAs wn_V wc_V_countsAs)) rfl rfl rfl (by decide +kernel) hR
theorem fc_V_L_withBefore {T : fw_T} {G : fw_G} (h : HV T G R_V) (hR : rm_L_withBefore.frames + 1 ≤ (gR G).frames ∧ 8 + (4 + 11) + rm_L_withBefore.locals ≤ (gR G).locals) : fw_cV G 168 y_L_withBefore c_L_withBefore 4 (Option.some (Jvm.ClassFile.FieldType.object "CapabilityVats$Message")) W_L_withBefore rm_L_withBefore 1 := fun s args hts => by rw [h.1]; exact cwV 1 hts (good_sub h.2.2 (gv_of wm_V_L_withBefore wi_L_withBefore ws_L_withBefore wn_L wc_L_withBefore)) rfl rfl rfl (by decide +kernel) hR
theorem fc_V_H_holdsOne {T : fw_T} {G : fw_G} (h : HV T G R_V) (hR : rm_H_holdsOne.frames + 1 ≤ (gR G).frames ∧ 8 + (1 + 11) + rm_H_holdsOne.locals ≤ (gR G).locals) : fw_cV G 177 y_H_holdsOne c_H_holdsOne 1 (Option.some Jvm.ClassFile.FieldType.boolean) W_H_holdsOne rm_H_holdsOne 0 := fun s args hts => by rw [h.1]; exact cwV 0 hts (good_sub h.2.2 (gv_of wm_V_H_holdsOne wi_H_holdsOne ws_H_holdsOne wn_H wc_H_holdsOne)) rfl rfl rfl (by decide +kernel) hR
theorem fc_V_V_awaitedBy {T : fw_T} {G : fw_G} (h : HV T G R_V) (hR : rm_V_awaitedBy.frames + 1 ≤ (gR G).frames ∧ 8 + (3 + 11) + rm_V_awaitedBy.locals ≤ (gR G).locals) : fw_cV G 203 y_V_awaitedBy c_V_awaitedBy 3 (Option.some (Jvm.ClassFile.FieldType.object "CapabilityVats$Message")) W_V_awaitedBy rm_V_awaitedBy 1 := fun s args hts => by rw [h.1]; exact cwV 1 hts (good_sub h.2.2 (gv_of wm_V_V_awaitedBy wi_V_awaitedBy ws_V_awaitedBy wn_V wc_V_awaitedBy)) rfl rfl rfl (by decide +kernel) hR
theorem fc_V_V_brokenIfNothing {T : fw_T} {G : fw_G} (h : HV T G R_V) (hR : rm_V_brokenIfNothing.frames + 1 ≤ (gR G).frames ∧ 8 + (2 + 11) + rm_V_brokenIfNothing.locals ≤ (gR G).locals) : fw_cV G 207 y_V_brokenIfNothing c_V_brokenIfNothing 2 (Option.some (Jvm.ClassFile.FieldType.object "CapabilityVats$Reference")) W_V_brokenIfNothing rm_V_brokenIfNothing 1 := fun s args hts => by rw [h.1]; exact cwV 1 hts (good_sub h.2.2 (gv_of wm_V_V_brokenIfNothing wi_V_brokenIfNothing ws_V_brokenIfNothing wn_V wc_V_brokenIfNothing)) rfl rfl rfl (by decide +kernel) hR
theorem fc_V_L_takeOver {T : fw_T} {G : fw_G} (h : HV T G R_V) (hR : rm_L_takeOver.frames + 1 ≤ (gR G).frames ∧ 8 + (4 + 11) + rm_L_takeOver.locals ≤ (gR G).locals) : fw_cV G 210 y_L_takeOver c_L_takeOver 4 (Option.none : Option Jvm.ClassFile.FieldType) W_L_takeOver rm_L_takeOver 1 := fun s args hts => by rw [h.1]; exact cwV 1 hts (good_sub h.2.2 (gv_of wm_V_L_takeOver wi_L_takeOver ws_L_takeOver wn_L wc_L_takeOver)) rfl rfl rfl (by decide +kernel) hR
theorem fc_V_V_route {T : fw_T} {G : fw_G} (h : HV T G R_V) (hR : rm_V_route.frames + 1 ≤ (gR G).frames ∧ 8 + (4 + 11) + rm_V_route.locals ≤ (gR G).locals) : fw_cV G 214 y_V_route c_V_route 4 (Option.none : Option Jvm.ClassFile.FieldType) W_V_route rm_V_route 1 := fun s args hts => by rw [h.1]; exact cwV 1 hts (good_sub h.2.2 (gv_of wm_V_V_route wi_V_route ws_V_route wn_V wc_V_route)) rfl rfl rfl (by decide +kernel) hR
theorem fc_V_H_isCutOff {T : fw_T} {G : fw_G} (h : HV T G R_V) (hR : rm_H_isCutOff.frames + 1 ≤ (gR G).frames ∧ 8 + (1 + 11) + rm_H_isCutOff.locals ≤ (gR G).locals) : fw_cV G 217 y_H_isCutOff c_H_isCutOff 1 (Option.some Jvm.ClassFile.FieldType.boolean) W_H_isCutOff rm_H_isCutOff 0 := fun s args hts => by rw [h.1]; exact cwV 0 hts (good_sub h.2.2 (gv_of wm_V_H_isCutOff wi_H_isCutOff ws_H_isCutOff wn_H wc_H_isCutOff)) rfl rfl rfl (by decide +kernel) hR
theorem fc_V_V_wrap {T : fw_T} {G : fw_G} (h : HV T G R_V) (hR : rm_V_wrap.frames + 1 ≤ (gR G).frames ∧ 8 + (7 + 11) + rm_V_wrap.locals ≤ (gR G).locals) : fw_cV G 223 y_V_wrap c_V_wrap 7 (Option.some (Jvm.ClassFile.FieldType.object "CapabilityVats$Reference")) W_V_wrap rm_V_wrap 3 := fun s args hts => by rw [h.1]; exact cwV 3 hts (good_sub h.2.2 (gv_of wm_V_V_wrap wi_V_wrap ws_V_wrap wn_V wc_V_wrap)) rfl rfl rfl (by decide +kernel) hR
theorem fc_V_M_noteDown {T : fw_T} {G : fw_G} (h : HV T G R_V) (hR : rm_M_noteDown.frames + 1 ≤ (gR G).frames ∧ 8 + (2 + 11) + rm_M_noteDown.locals ≤ (gR G).locals) : fw_cV G 227 y_M_noteDown c_M_noteDown 2 (Option.none : Option Jvm.ClassFile.FieldType) W_M_noteDown rm_M_noteDown 1 := fun s args hts => by rw [h.1]; exact cwV 1 hts (good_sub h.2.2 (gv_of wm_V_M_noteDown wi_M_noteDown ws_M_noteDown wn_M wc_M_noteDown)) rfl rfl rfl (by decide +kernel) hR
theorem fc_V_V_thingOfKind {T : fw_T} {G : fw_G} (h : HV T G R_V) (hR : rm_V_thingOfKind.frames + 1 ≤ (gR G).frames ∧ 8 + (4 + 11) + rm_V_thingOfKind.locals ≤ (gR G).locals) : fw_cV G 234 y_V_thingOfKind c_V_thingOfKind 4 (Option.some (Jvm.ClassFile.FieldType.object "CapabilityVats$Thing")) W_V_thingOfKind rm_V_thingOfKind 2 := fun s args hts => by rw [h.1]; exact cwV 2 hts (good_sub h.2.2 (gv_of wm_V_V_thingOfKind wi_V_thingOfKind ws_V_thingOfKind wn_V wc_V_thingOfKind)) rfl rfl rfl (by decide +kernel) hR
theorem fc_V_V_findWrapper {T : fw_T} {G : fw_G} (h : HV T G R_V) (hR : rm_V_findWrapper.frames + 1 ≤ (gR G).frames ∧ 8 + (7 + 11) + rm_V_findWrapper.locals ≤ (gR G).locals) : fw_cV G 238 y_V_findWrapper c_V_findWrapper 7 (Option.some (Jvm.ClassFile.FieldType.object "CapabilityVats$Thing")) W_V_findWrapper rm_V_findWrapper 3 := fun s args hts => by rw [h.1]; exact cwV 3 hts (good_sub h.2.2 (gv_of wm_V_V_findWrapper wi_V_findWrapper ws_V_findWrapper wn_V wc_V_findWrapper)) rfl rfl rfl (by decide +kernel) hR
theorem fc_V_V_makeWrapper {T : fw_T} {G : fw_G} (h : HV T G R_V) (hR : rm_V_makeWrapper.frames + 1 ≤ (gR G).frames ∧ 8 + (5 + 11) + rm_V_makeWrapper.locals ≤ (gR G).locals) : fw_cV G 242 y_V_makeWrapper c_V_makeWrapper 5 (Option.some (Jvm.ClassFile.FieldType.object "CapabilityVats$Thing")) W_V_makeWrapper rm_V_makeWrapper 3 := fun s args hts => by rw [h.1]; exact cwV 3 hts (good_sub h.2.2 (gv_of wm_V_V_makeWrapper wi_V_makeWrapper ws_V_makeWrapper wn_V wc_V_makeWrapper)) rfl rfl rfl (by decide +kernel) hR
theorem fc_V_V_referenceTo {T : fw_T} {G : fw_G} (h : HV T G R_V) (hR : rm_V_referenceTo.frames + 1 ≤ (gR G).frames ∧ 8 + (2 + 11) + rm_V_referenceTo.locals ≤ (gR G).locals) : fw_cV G 245 y_V_referenceTo c_V_referenceTo 2 (Option.some (Jvm.ClassFile.FieldType.object "CapabilityVats$Reference")) W_V_referenceTo rm_V_referenceTo 1 := fun s args hts => by rw [h.1]; exact cwV 1 hts (good_sub h.2.2 (gv_of wm_V_V_referenceTo wi_V_referenceTo ws_V_referenceTo wn_V wc_V_referenceTo)) rfl rfl rfl (by decide +kernel) hR
theorem fc_V_R_isSame {T : fw_T} {G : fw_G} (h : HV T G R_V) (hR : rm_R_isSame.frames + 1 ≤ (gR G).frames ∧ 8 + (2 + 11) + rm_R_isSame.locals ≤ (gR G).locals) : fw_cV G 249 y_R_isSame c_R_isSame 2 (Option.some Jvm.ClassFile.FieldType.boolean) W_R_isSame rm_R_isSame 1 := fun s args hts => by rw [h.1]; exact cwV 1 hts (good_sub h.2.2 (gv_of wm_V_R_isSame wi_R_isSame ws_R_isSame wn_R wc_R_isSame)) rfl rfl rfl (by decide +kernel) hR
theorem fc_V_V_answerOfCell {T : fw_T} {G : fw_G} (h : HV T G R_V) (hR : rm_V_answerOfCell.frames + 1 ≤ (gR G).frames ∧ 8 + (4 + 11) + rm_V_answerOfCell.locals ≤ (gR G).locals) : fw_cV G 256 y_V_answerOfCell c_V_answerOfCell 4 (Option.some (Jvm.ClassFile.FieldType.object "CapabilityVats$Reference")) W_V_answerOfCell rm_V_answerOfCell 3 := fun s args hts => by rw [h.1]; exact cwV 3 hts (good_sub h.2.2 (gv_of wm_V_V_answerOfCell wi_V_answerOfCell ws_V_answerOfCell wn_V wc_V_answerOfCell)) rfl rfl rfl (by decide +kernel) hR
theorem fc_V_V_answerOfRevocable {T : fw_T} {G : fw_G} (h : HV T G R_V) (hR : rm_V_answerOfRevocable.frames + 1 ≤ (gR G).frames ∧ 8 + (3 + 11) + rm_V_answerOfRevocable.locals ≤ (gR G).locals) : fw_cV G 260 y_V_answerOfRevocable c_V_answerOfRevocable 3 (Option.some (Jvm.ClassFile.FieldType.object "CapabilityVats$Reference")) W_V_answerOfRevocable rm_V_answerOfRevocable 2 := fun s args hts => by rw [h.1]; exact cwV 2 hts (good_sub h.2.2 (gv_of wm_V_V_answerOfRevocable wi_V_answerOfRevocable ws_V_answerOfRevocable wn_V wc_V_answerOfRevocable)) rfl rfl rfl (by decide +kernel) hR
theorem fc_V_V_answerOfBrand {T : fw_T} {G : fw_G} (h : HV T G R_V) (hR : rm_V_answerOfBrand.frames + 1 ≤ (gR G).frames ∧ 8 + (3 + 11) + rm_V_answerOfBrand.locals ≤ (gR G).locals) : fw_cV G 264 y_V_answerOfBrand c_V_answerOfBrand 3 (Option.some (Jvm.ClassFile.FieldType.object "CapabilityVats$Reference")) W_V_answerOfBrand rm_V_answerOfBrand 2 := fun s args hts => by rw [h.1]; exact cwV 2 hts (good_sub h.2.2 (gv_of wm_V_V_answerOfBrand wi_V_answerOfBrand ws_V_answerOfBrand wn_V wc_V_answerOfBrand)) rfl rfl rfl (by decide +kernel) hR
theorem fc_V_V_makeBox {T : fw_T} {G : fw_G} (h : HV T G R_V) (hR : rm_V_makeBox.frames + 1 ≤ (gR G).frames ∧ 8 + (4 + 11) + rm_V_makeBox.locals ≤ (gR G).locals) : fw_cV G 267 y_V_makeBox c_V_makeBox 4 (Option.some (Jvm.ClassFile.FieldType.object "CapabilityVats$Reference")) W_V_makeBox rm_V_makeBox 2 := fun s args hts => by rw [h.1]; exact cwV 2 hts (good_sub h.2.2 (gv_of wm_V_V_makeBox wi_V_makeBox ws_V_makeBox wn_V wc_V_makeBox)) rfl rfl rfl (by decide +kernel) hR
theorem fc_V_V_unseal {T : fw_T} {G : fw_G} (h : HV T G R_V) (hR : rm_V_unseal.frames + 1 ≤ (gR G).frames ∧ 8 + (4 + 11) + rm_V_unseal.locals ≤ (gR G).locals) : fw_cV G 271 y_V_unseal c_V_unseal 4 (Option.some (Jvm.ClassFile.FieldType.object "CapabilityVats$Reference")) W_V_unseal rm_V_unseal 2 := fun s args hts => by rw [h.1]; exact cwV 2 hts (good_sub h.2.2 (gv_of wm_V_V_unseal wi_V_unseal ws_V_unseal wn_V wc_V_unseal)) rfl rfl rfl (by decide +kernel) hR
theorem fc_V_V_makeMoney {T : fw_T} {G : fw_G} (h : HV T G R_V) (hR : rm_V_makeMoney.frames + 1 ≤ (gR G).frames ∧ 8 + (4 + 11) + rm_V_makeMoney.locals ≤ (gR G).locals) : fw_cV G 274 y_V_makeMoney c_V_makeMoney 4 (Option.some (Jvm.ClassFile.FieldType.object "CapabilityVats$Reference")) W_V_makeMoney rm_V_makeMoney 2 := fun s args hts => by rw [h.1]; exact cwV 2 hts (good_sub h.2.2 (gv_of wm_V_V_makeMoney wi_V_makeMoney ws_V_makeMoney wn_V wc_V_makeMoney)) rfl rfl rfl (by decide +kernel) hR
theorem fc_V_V_answerOfPurse {T : fw_T} {G : fw_G} (h : HV T G R_V) (hR : rm_V_answerOfPurse.frames + 1 ≤ (gR G).frames ∧ 8 + (4 + 11) + rm_V_answerOfPurse.locals ≤ (gR G).locals) : fw_cV G 277 y_V_answerOfPurse c_V_answerOfPurse 4 (Option.some (Jvm.ClassFile.FieldType.object "CapabilityVats$Reference")) W_V_answerOfPurse rm_V_answerOfPurse 3 := fun s args hts => by rw [h.1]; exact cwV 3 hts (good_sub h.2.2 (gv_of wm_V_V_answerOfPurse wi_V_answerOfPurse ws_V_answerOfPurse wn_V wc_V_answerOfPurse)) rfl rfl rfl (by decide +kernel) hR
theorem fc_V_V_makeGate {T : fw_T} {G : fw_G} (h : HV T G R_V) (hR : rm_V_makeGate.frames + 1 ≤ (gR G).frames ∧ 8 + (5 + 11) + rm_V_makeGate.locals ≤ (gR G).locals) : fw_cV G 280 y_V_makeGate c_V_makeGate 5 (Option.some (Jvm.ClassFile.FieldType.object "CapabilityVats$Reference")) W_V_makeGate rm_V_makeGate 2 := fun s args hts => by rw [h.1]; exact cwV 2 hts (good_sub h.2.2 (gv_of wm_V_V_makeGate wi_V_makeGate ws_V_makeGate wn_V wc_V_makeGate)) rfl rfl rfl (by decide +kernel) hR
theorem fc_V_V_truth {T : fw_T} {G : fw_G} (h : HV T G R_V) (hR : rm_V_truth.frames + 1 ≤ (gR G).frames ∧ 8 + (1 + 11) + rm_V_truth.locals ≤ (gR G).locals) : fw_cS G 283 y_V_truth c_V_truth 1 (Option.some (Jvm.ClassFile.FieldType.object "CapabilityVats$Reference")) W_V_truth rm_V_truth 1 := fun s args hts => by rw [h.1]; exact cwS 1 hts (good_sub h.2.2 (gs_of wm_V_V_truth wt_V_truth wn_V wc_V_truth)) rfl rfl rfl (by decide +kernel) hR
theorem fc_V_V_deposit {T : fw_T} {G : fw_G} (h : HV T G R_V) (hR : rm_V_deposit.frames + 1 ≤ (gR G).frames ∧ 8 + (5 + 11) + rm_V_deposit.locals ≤ (gR G).locals) : fw_cV G 287 y_V_deposit c_V_deposit 5 (Option.some (Jvm.ClassFile.FieldType.object "CapabilityVats$Reference")) W_V_deposit rm_V_deposit 2 := fun s args hts => by rw [h.1]; exact cwV 2 hts (good_sub h.2.2 (gv_of wm_V_V_deposit wi_V_deposit ws_V_deposit wn_V wc_V_deposit)) rfl rfl rfl (by decide +kernel) hR
theorem fc_V_V_split {T : fw_T} {G : fw_G} (h : HV T G R_V) (hR : rm_V_split.frames + 1 ≤ (gR G).frames ∧ 8 + (4 + 11) + rm_V_split.locals ≤ (gR G).locals) : fw_cV G 290 y_V_split c_V_split 4 (Option.some (Jvm.ClassFile.FieldType.object "CapabilityVats$Reference")) W_V_split rm_V_split 2 := fun s args hts => by rw [h.1]; exact cwV 2 hts (good_sub h.2.2 (gv_of wm_V_V_split wi_V_split ws_V_split wn_V wc_V_split)) rfl rfl rfl (by decide +kernel) hR
theorem fc_V_V_isNumberUpTo {T : fw_T} {G : fw_G} (h : HV T G R_V) (hR : rm_V_isNumberUpTo.frames + 1 ≤ (gR G).frames ∧ 8 + (4 + 11) + rm_V_isNumberUpTo.locals ≤ (gR G).locals) : fw_cV G 293 y_V_isNumberUpTo c_V_isNumberUpTo 4 (Option.some Jvm.ClassFile.FieldType.boolean) W_V_isNumberUpTo rm_V_isNumberUpTo 2 := fun s args hts => by rw [h.1]; exact cwV 2 hts (good_sub h.2.2 (gv_of wm_V_V_isNumberUpTo wi_V_isNumberUpTo ws_V_isNumberUpTo wn_V wc_V_isNumberUpTo)) rfl rfl rfl (by decide +kernel) hR
theorem fc_V_H_init {T : fw_T} {G : fw_G} (h : HV T G R_V) (hR : rm_H_init.frames + 1 ≤ (gR G).frames ∧ 8 + (7 + 11) + rm_H_init.locals ≤ (gR G).locals) : fw_cI G 297 y_H_init c_H_init 7 W_H_init rm_H_init 5 := fun s args hts => by rw [h.1]; exact cwI 5 hts (good_sub h.2.2 (in_cons wc_H_init)) rfl rfl rfl (hts _ (h.2.2 _ wn_H)) (hts _ (h.2.2 _ wm_V_H_init)) (hts _ (h.2.2 _ wi_H_init)) rfl (by decide +kernel) hR
theorem fc_D_D_hold {T : fw_T} {G : fw_G} (h : HV T G R_D) (hR : rm_D_hold.frames + 1 ≤ (gR G).frames ∧ 8 + (3 + 11) + rm_D_hold.locals ≤ (gR G).locals) : fw_cV G 90 y_D_hold c_D_hold 3 (Option.none : Option Jvm.ClassFile.FieldType) W_D_hold rm_D_hold 2 := fun s args hts => by rw [h.1]; exact cwV 2 hts (good_sub h.2.2 (gv_of wm_D_D_hold wi_D_hold ws_D_hold wn_D wc_D_hold)) rfl rfl rfl (by decide +kernel) hR
theorem fc_D_D_broken {T : fw_T} {G : fw_G} (h : HV T G R_D) (hR : rm_D_broken.frames + 1 ≤ (gR G).frames ∧ 8 + (1 + 11) + rm_D_broken.locals ≤ (gR G).locals) : fw_cV G 97 y_D_broken c_D_broken 1 (Option.none : Option Jvm.ClassFile.FieldType) W_D_broken rm_D_broken 0 := fun s args hts => by rw [h.1]; exact cwV 0 hts (good_sub h.2.2 (gv_of wm_D_D_broken wi_D_broken ws_D_broken wn_D wc_D_broken)) rfl rfl rfl (by decide +kernel) hR
theorem fc_D_D_make {T : fw_T} {G : fw_G} (h : HV T G R_D) (hR : rm_D_make.frames + 1 ≤ (gR G).frames ∧ 8 + (6 + 11) + rm_D_make.locals ≤ (gR G).locals) : fw_cV G 100 y_D_make c_D_make 6 (Option.some Jvm.ClassFile.FieldType.int) W_D_make rm_D_make 3 := fun s args hts => by rw [h.1]; exact cwV 3 hts (good_sub h.2.2 (gv_of wm_D_D_make wi_D_make ws_D_make wn_D wc_D_make)) rfl rfl rfl (by decide +kernel) hR
theorem fc_D_D_direct {T : fw_T} {G : fw_G} (h : HV T G R_D) (hR : rm_D_direct.frames + 1 ≤ (gR G).frames ∧ 8 + (2 + 11) + rm_D_direct.locals ≤ (gR G).locals) : fw_cV G 110 y_D_direct c_D_direct 2 (Option.none : Option Jvm.ClassFile.FieldType) W_D_direct rm_D_direct 1 := fun s args hts => by rw [h.1]; exact cwV 1 hts (good_sub h.2.2 (gv_of wm_D_D_direct wi_D_direct ws_D_direct wn_D wc_D_direct)) rfl rfl rfl (by decide +kernel) hR
theorem fc_D_D_released {T : fw_T} {G : fw_G} (h : HV T G R_D) (hR : rm_D_released.frames + 1 ≤ (gR G).frames ∧ 8 + (4 + 11) + rm_D_released.locals ≤ (gR G).locals) : fw_cV G 114 y_D_released c_D_released 4 (Option.some Jvm.ClassFile.FieldType.int) W_D_released rm_D_released 0 := fun s args hts => by rw [h.1]; exact cwV 0 hts (good_sub h.2.2 (gv_of wm_D_D_released wi_D_released ws_D_released wn_D wc_D_released)) rfl rfl rfl (by decide +kernel) hR
theorem fc_D_D_look {T : fw_T} {G : fw_G} (h : HV T G R_D) (hR : rm_D_look.frames + 1 ≤ (gR G).frames ∧ 8 + (3 + 11) + rm_D_look.locals ≤ (gR G).locals) : fw_cV G 118 y_D_look c_D_look 3 (Option.none : Option Jvm.ClassFile.FieldType) W_D_look rm_D_look 2 := fun s args hts => by rw [h.1]; exact cwV 2 hts (good_sub h.2.2 (gv_of wm_D_D_look wi_D_look ws_D_look wn_D wc_D_look)) rfl rfl rfl (by decide +kernel) hR
theorem fc_D_D_stand {T : fw_T} {G : fw_G} (h : HV T G R_D) (hR : rm_D_stand.frames + 1 ≤ (gR G).frames ∧ 8 + (4 + 11) + rm_D_stand.locals ≤ (gR G).locals) : fw_cV G 121 y_D_stand c_D_stand 4 (Option.none : Option Jvm.ClassFile.FieldType) W_D_stand rm_D_stand 3 := fun s args hts => by rw [h.1]; exact cwV 3 hts (good_sub h.2.2 (gv_of wm_D_D_stand wi_D_stand ws_D_stand wn_D wc_D_stand)) rfl rfl rfl (by decide +kernel) hR
theorem fc_D_D_settle {T : fw_T} {G : fw_G} (h : HV T G R_D) (hR : rm_D_settle.frames + 1 ≤ (gR G).frames ∧ 8 + (5 + 11) + rm_D_settle.locals ≤ (gR G).locals) : fw_cV G 125 y_D_settle c_D_settle 5 (Option.none : Option Jvm.ClassFile.FieldType) W_D_settle rm_D_settle 1 := fun s args hts => by rw [h.1]; exact cwV 1 hts (good_sub h.2.2 (gv_of wm_D_D_settle wi_D_settle ws_D_settle wn_D wc_D_settle)) rfl rfl rfl (by decide +kernel) hR
theorem fc_D_D_out {T : fw_T} {G : fw_G} (h : HV T G R_D) (hR : rm_D_out.frames + 1 ≤ (gR G).frames ∧ 8 + (2 + 11) + rm_D_out.locals ≤ (gR G).locals) : fw_cS G 128 y_D_out c_D_out 2 (Option.some Jvm.ClassFile.FieldType.boolean) W_D_out rm_D_out 2 := fun s args hts => by rw [h.1]; exact cwS 2 hts (good_sub h.2.2 (gs_of wm_D_D_out wt_D_out wn_D wc_D_out)) rfl rfl rfl (by decide +kernel) hR
theorem fc_D_D_isSlot {T : fw_T} {G : fw_G} (h : HV T G R_D) (hR : rm_D_isSlot.frames + 1 ≤ (gR G).frames ∧ 8 + (3 + 11) + rm_D_isSlot.locals ≤ (gR G).locals) : fw_cV G 132 y_D_isSlot c_D_isSlot 3 (Option.some Jvm.ClassFile.FieldType.boolean) W_D_isSlot rm_D_isSlot 2 := fun s args hts => by rw [h.1]; exact cwV 2 hts (good_sub h.2.2 (gv_of wm_D_D_isSlot wi_D_isSlot ws_D_isSlot wn_D wc_D_isSlot)) rfl rfl rfl (by decide +kernel) hR
theorem fc_D_D_route {T : fw_T} {G : fw_G} (h : HV T G R_D) (hR : rm_D_route.frames + 1 ≤ (gR G).frames ∧ 8 + (3 + 11) + rm_D_route.locals ≤ (gR G).locals) : fw_cV G 135 y_D_route c_D_route 3 (Option.none : Option Jvm.ClassFile.FieldType) W_D_route rm_D_route 1 := fun s args hts => by rw [h.1]; exact cwV 1 hts (good_sub h.2.2 (gv_of wm_D_D_route wi_D_route ws_D_route wn_D wc_D_route)) rfl rfl rfl (by decide +kernel) hR
theorem fc_D_D_nth {T : fw_T} {G : fw_G} (h : HV T G R_D) (hR : rm_D_nth.frames + 1 ≤ (gR G).frames ∧ 8 + (9 + 11) + rm_D_nth.locals ≤ (gR G).locals) : fw_cV G 138 y_D_nth c_D_nth 9 (Option.some Jvm.ClassFile.FieldType.int) W_D_nth rm_D_nth 3 := fun s args hts => by rw [h.1]; exact cwV 3 hts (good_sub h.2.2 (gv_of wm_D_D_nth wi_D_nth ws_D_nth wn_D wc_D_nth)) rfl rfl rfl (by decide +kernel) hR
theorem fc_D_D_answers {T : fw_T} {G : fw_G} (h : HV T G R_D) (hR : rm_D_answers.frames + 1 ≤ (gR G).frames ∧ 8 + (5 + 11) + rm_D_answers.locals ≤ (gR G).locals) : fw_cV G 141 y_D_answers c_D_answers 5 (Option.some Jvm.ClassFile.FieldType.boolean) W_D_answers rm_D_answers 2 := fun s args hts => by rw [h.1]; exact cwV 2 hts (good_sub h.2.2 (gv_of wm_D_D_answers wi_D_answers ws_D_answers wn_D wc_D_answers)) rfl rfl rfl (by decide +kernel) hR
theorem fc_D_D_asNoted {T : fw_T} {G : fw_G} (h : HV T G R_D) (hR : rm_D_asNoted.frames + 1 ≤ (gR G).frames ∧ 8 + (6 + 11) + rm_D_asNoted.locals ≤ (gR G).locals) : fw_cV G 144 y_D_asNoted c_D_asNoted 6 (Option.none : Option Jvm.ClassFile.FieldType) W_D_asNoted rm_D_asNoted 1 := fun s args hts => by rw [h.1]; exact cwV 1 hts (good_sub h.2.2 (gv_of wm_D_D_asNoted wi_D_asNoted ws_D_asNoted wn_D wc_D_asNoted)) rfl rfl rfl (by decide +kernel) hR
theorem fc_D_D_relays {T : fw_T} {G : fw_G} (h : HV T G R_D) (hR : rm_D_relays.frames + 1 ≤ (gR G).frames ∧ 8 + (5 + 11) + rm_D_relays.locals ≤ (gR G).locals) : fw_cV G 147 y_D_relays c_D_relays 5 (Option.some Jvm.ClassFile.FieldType.boolean) W_D_relays rm_D_relays 2 := fun s args hts => by rw [h.1]; exact cwV 2 hts (good_sub h.2.2 (gv_of wm_D_D_relays wi_D_relays ws_D_relays wn_D wc_D_relays)) rfl rfl rfl (by decide +kernel) hR
theorem fc_D_D_ofCell {T : fw_T} {G : fw_G} (h : HV T G R_D) (hR : rm_D_ofCell.frames + 1 ≤ (gR G).frames ∧ 8 + (7 + 11) + rm_D_ofCell.locals ≤ (gR G).locals) : fw_cV G 150 y_D_ofCell c_D_ofCell 7 (Option.none : Option Jvm.ClassFile.FieldType) W_D_ofCell rm_D_ofCell 3 := fun s args hts => by rw [h.1]; exact cwV 3 hts (good_sub h.2.2 (gv_of wm_D_D_ofCell wi_D_ofCell ws_D_ofCell wn_D wc_D_ofCell)) rfl rfl rfl (by decide +kernel) hR
theorem fc_D_D_ofGuard {T : fw_T} {G : fw_G} (h : HV T G R_D) (hR : rm_D_ofGuard.frames + 1 ≤ (gR G).frames ∧ 8 + (3 + 11) + rm_D_ofGuard.locals ≤ (gR G).locals) : fw_cV G 153 y_D_ofGuard c_D_ofGuard 3 (Option.none : Option Jvm.ClassFile.FieldType) W_D_ofGuard rm_D_ofGuard 2 := fun s args hts => by rw [h.1]; exact cwV 2 hts (good_sub h.2.2 (gv_of wm_D_D_ofGuard wi_D_ofGuard ws_D_ofGuard wn_D wc_D_ofGuard)) rfl rfl rfl (by decide +kernel) hR
theorem fc_D_D_fresh {T : fw_T} {G : fw_G} (h : HV T G R_D) (hR : rm_D_fresh.frames + 1 ≤ (gR G).frames ∧ 8 + (4 + 11) + rm_D_fresh.locals ≤ (gR G).locals) : fw_cV G 156 y_D_fresh c_D_fresh 4 (Option.none : Option Jvm.ClassFile.FieldType) W_D_fresh rm_D_fresh 3 := fun s args hts => by rw [h.1]; exact cwV 3 hts (good_sub h.2.2 (gv_of wm_D_D_fresh wi_D_fresh ws_D_fresh wn_D wc_D_fresh)) rfl rfl rfl (by decide +kernel) hR
theorem fc_D_D_ofSealer {T : fw_T} {G : fw_G} (h : HV T G R_D) (hR : rm_D_ofSealer.frames + 1 ≤ (gR G).frames ∧ 8 + (3 + 11) + rm_D_ofSealer.locals ≤ (gR G).locals) : fw_cV G 159 y_D_ofSealer c_D_ofSealer 3 (Option.none : Option Jvm.ClassFile.FieldType) W_D_ofSealer rm_D_ofSealer 2 := fun s args hts => by rw [h.1]; exact cwV 2 hts (good_sub h.2.2 (gv_of wm_D_D_ofSealer wi_D_ofSealer ws_D_ofSealer wn_D wc_D_ofSealer)) rfl rfl rfl (by decide +kernel) hR
theorem fc_D_D_ofUnsealer {T : fw_T} {G : fw_G} (h : HV T G R_D) (hR : rm_D_ofUnsealer.frames + 1 ≤ (gR G).frames ∧ 8 + (3 + 11) + rm_D_ofUnsealer.locals ≤ (gR G).locals) : fw_cV G 162 y_D_ofUnsealer c_D_ofUnsealer 3 (Option.none : Option Jvm.ClassFile.FieldType) W_D_ofUnsealer rm_D_ofUnsealer 1 := fun s args hts => by rw [h.1]; exact cwV 1 hts (good_sub h.2.2 (gv_of wm_D_D_ofUnsealer wi_D_ofUnsealer ws_D_ofUnsealer wn_D wc_D_ofUnsealer)) rfl rfl rfl (by decide +kernel) hR
theorem fc_D_D_ofMint {T : fw_T} {G : fw_G} (h : HV T G R_D) (hR : rm_D_ofMint.frames + 1 ≤ (gR G).frames ∧ 8 + (3 + 11) + rm_D_ofMint.locals ≤ (gR G).locals) : fw_cV G 165 y_D_ofMint c_D_ofMint 3 (Option.none : Option Jvm.ClassFile.FieldType) W_D_ofMint rm_D_ofMint 1 := fun s args hts => by rw [h.1]; exact cwV 1 hts (good_sub h.2.2 (gv_of wm_D_D_ofMint wi_D_ofMint ws_D_ofMint wn_D wc_D_ofMint)) rfl rfl rfl (by decide +kernel) hR
theorem fc_D_D_ofPurse {T : fw_T} {G : fw_G} (h : HV T G R_D) (hR : rm_D_ofPurse.frames + 1 ≤ (gR G).frames ∧ 8 + (6 + 11) + rm_D_ofPurse.locals ≤ (gR G).locals) : fw_cV G 168 y_D_ofPurse c_D_ofPurse 6 (Option.none : Option Jvm.ClassFile.FieldType) W_D_ofPurse rm_D_ofPurse 2 := fun s args hts => by rw [h.1]; exact cwV 2 hts (good_sub h.2.2 (gv_of wm_D_D_ofPurse wi_D_ofPurse ws_D_ofPurse wn_D wc_D_ofPurse)) rfl rfl rfl (by decide +kernel) hR
theorem fc_D_D_wrap {T : fw_T} {G : fw_G} (h : HV T G R_D) (hR : rm_D_wrap.frames + 1 ≤ (gR G).frames ∧ 8 + (6 + 11) + rm_D_wrap.locals ≤ (gR G).locals) : fw_cV G 171 y_D_wrap c_D_wrap 6 (Option.some Jvm.ClassFile.FieldType.boolean) W_D_wrap rm_D_wrap 2 := fun s args hts => by rw [h.1]; exact cwV 2 hts (good_sub h.2.2 (gv_of wm_D_D_wrap wi_D_wrap ws_D_wrap wn_D wc_D_wrap)) rfl rfl rfl (by decide +kernel) hR
theorem fc_D_D_isObject {T : fw_T} {G : fw_G} (h : HV T G R_D) (hR : rm_D_isObject.frames + 1 ≤ (gR G).frames ∧ 8 + (2 + 11) + rm_D_isObject.locals ≤ (gR G).locals) : fw_cV G 174 y_D_isObject c_D_isObject 2 (Option.some Jvm.ClassFile.FieldType.boolean) W_D_isObject rm_D_isObject 1 := fun s args hts => by rw [h.1]; exact cwV 1 hts (good_sub h.2.2 (gv_of wm_D_D_isObject wi_D_isObject ws_D_isObject wn_D wc_D_isObject)) rfl rfl rfl (by decide +kernel) hR
theorem fc_D_D_seen {T : fw_T} {G : fw_G} (h : HV T G R_D) (hR : rm_D_seen.frames + 1 ≤ (gR G).frames ∧ 8 + (4 + 11) + rm_D_seen.locals ≤ (gR G).locals) : fw_cV G 179 y_D_seen c_D_seen 4 (Option.some Jvm.ClassFile.FieldType.boolean) W_D_seen rm_D_seen 2 := fun s args hts => by rw [h.1]; exact cwV 2 hts (good_sub h.2.2 (gv_of wm_D_D_seen wi_D_seen ws_D_seen wn_D wc_D_seen)) rfl rfl rfl (by decide +kernel) hR
theorem fc_D_D_count {T : fw_T} {G : fw_G} (h : HV T G R_D) (hR : rm_D_count.frames + 1 ≤ (gR G).frames ∧ 8 + (5 + 11) + rm_D_count.locals ≤ (gR G).locals) : fw_cV G 182 y_D_count c_D_count 5 (Option.some Jvm.ClassFile.FieldType.int) W_D_count rm_D_count 2 := fun s args hts => by rw [h.1]; exact cwV 2 hts (good_sub h.2.2 (gv_of wm_D_D_count wi_D_count ws_D_count wn_D wc_D_count)) rfl rfl rfl (by decide +kernel) hR
theorem fc_L_L_take {T : fw_T} {G : fw_G} (h : HV T G R_L) (hR : rm_L_take.frames + 1 ≤ (gR G).frames ∧ 8 + (2 + 11) + rm_L_take.locals ≤ (gR G).locals) : fw_cV G 25 y_L_take c_L_take 2 (Option.some (Jvm.ClassFile.FieldType.object "CapabilityVats$Message")) W_L_take rm_L_take 0 := fun s args hts => by rw [h.1]; exact cwV 0 hts (good_sub h.2.2 (gv_of wm_L_L_take wi_L_take ws_L_take wn_L wc_L_take)) rfl rfl rfl (by decide +kernel) hR
theorem fc_L_L_join {T : fw_T} {G : fw_G} (h : HV T G R_L) (hR : rm_L_join.frames + 1 ≤ (gR G).frames ∧ 8 + (2 + 11) + rm_L_join.locals ≤ (gR G).locals) : fw_cV G 29 y_L_join c_L_join 2 (Option.none : Option Jvm.ClassFile.FieldType) W_L_join rm_L_join 1 := fun s args hts => by rw [h.1]; exact cwV 1 hts (good_sub h.2.2 (gv_of wm_L_L_join wi_L_join ws_L_join wn_L wc_L_join)) rfl rfl rfl (by decide +kernel) hR
theorem fc_M_R_init {T : fw_T} {G : fw_G} (h : HV T G R_M) (hR : rm_R_init.frames + 1 ≤ (gR G).frames ∧ 8 + (3 + 11) + rm_R_init.locals ≤ (gR G).locals) : fw_cI G 40 y_R_init c_R_init 3 W_R_init rm_R_init 2 := fun s args hts => by rw [h.1]; exact cwI 2 hts (good_sub h.2.2 (in_cons wc_R_init)) rfl rfl rfl (hts _ (h.2.2 _ wn_R)) (hts _ (h.2.2 _ wm_M_R_init)) (hts _ (h.2.2 _ wi_R_init)) rfl (by decide +kernel) hR
theorem fc_H_R_init {T : fw_T} {G : fw_G} (h : HV T G R_H) (hR : rm_R_init.frames + 1 ≤ (gR G).frames ∧ 8 + (3 + 11) + rm_R_init.locals ≤ (gR G).locals) : fw_cI G 31 y_R_init c_R_init 3 W_R_init rm_R_init 2 := fun s args hts => by rw [h.1]; exact cwI 2 hts (good_sub h.2.2 (in_cons wc_R_init)) rfl rfl rfl (hts _ (h.2.2 _ wn_R)) (hts _ (h.2.2 _ wm_H_R_init)) (hts _ (h.2.2 _ wi_R_init)) rfl (by decide +kernel) hR
theorem fc_W_V_init {T : fw_T} {G : fw_G} (h : HV T G R_W) (hR : rm_V_init.frames + 1 ≤ (gR G).frames ∧ 8 + (2 + 11) + rm_V_init.locals ≤ (gR G).locals) : fw_cI G 9 y_V_init c_V_init 2 W_V_init rm_V_init 0 := fun s args hts => by rw [h.1]; exact cwI 0 hts (good_sub h.2.2 (in_cons wc_V_init)) rfl rfl rfl (hts _ (h.2.2 _ wn_V)) (hts _ (h.2.2 _ wm_W_V_init)) (hts _ (h.2.2 _ wi_V_init)) rfl (by decide +kernel) hR
theorem fc_W_D_init {T : fw_T} {G : fw_G} (h : HV T G R_W) (hR : rm_D_init.frames + 1 ≤ (gR G).frames ∧ 8 + (1 + 11) + rm_D_init.locals ≤ (gR G).locals) : fw_cI G 12 y_D_init c_D_init 1 W_D_init rm_D_init 0 := fun s args hts => by rw [h.1]; exact cwI 0 hts (good_sub h.2.2 (in_cons wc_D_init)) rfl rfl rfl (hts _ (h.2.2 _ wn_D)) (hts _ (h.2.2 _ wm_W_D_init)) (hts _ (h.2.2 _ wi_D_init)) rfl (by decide +kernel) hR
theorem fc_W_V_cell {T : fw_T} {G : fw_G} (h : HV T G R_W) (hR : rm_V_cell.frames + 1 ≤ (gR G).frames ∧ 8 + (3 + 11) + rm_V_cell.locals ≤ (gR G).locals) : fw_cV G 13 y_V_cell c_V_cell 3 (Option.some Jvm.ClassFile.FieldType.int) W_V_cell rm_V_cell 1 := fun s args hts => by rw [h.1]; exact cwV 1 hts (good_sub h.2.2 (gv_of wm_W_V_cell wi_V_cell ws_V_cell wn_V wc_V_cell)) rfl rfl rfl (by decide +kernel) hR
theorem fc_W_D_cell {T : fw_T} {G : fw_G} (h : HV T G R_W) (hR : rm_D_cell.frames + 1 ≤ (gR G).frames ∧ 8 + (2 + 11) + rm_D_cell.locals ≤ (gR G).locals) : fw_cV G 17 y_D_cell c_D_cell 2 (Option.some Jvm.ClassFile.FieldType.int) W_D_cell rm_D_cell 1 := fun s args hts => by rw [h.1]; exact cwV 1 hts (good_sub h.2.2 (gv_of wm_W_D_cell wi_D_cell ws_D_cell wn_D wc_D_cell)) rfl rfl rfl (by decide +kernel) hR
theorem fc_W_V_number {T : fw_T} {G : fw_G} (h : HV T G R_W) (hR : rm_V_number.frames + 1 ≤ (gR G).frames ∧ 8 + (5 + 11) + rm_V_number.locals ≤ (gR G).locals) : fw_cV G 18 y_V_number c_V_number 5 (Option.some Jvm.ClassFile.FieldType.boolean) W_V_number rm_V_number 3 := fun s args hts => by rw [h.1]; exact cwV 3 hts (good_sub h.2.2 (gv_of wm_W_V_number wi_V_number ws_V_number wn_V wc_V_number)) rfl rfl rfl (by decide +kernel) hR
theorem fc_W_D_number {T : fw_T} {G : fw_G} (h : HV T G R_W) (hR : rm_D_number.frames + 1 ≤ (gR G).frames ∧ 8 + (4 + 11) + rm_D_number.locals ≤ (gR G).locals) : fw_cV G 22 y_D_number c_D_number 4 (Option.some Jvm.ClassFile.FieldType.boolean) W_D_number rm_D_number 3 := fun s args hts => by rw [h.1]; exact cwV 3 hts (good_sub h.2.2 (gv_of wm_W_D_number wi_D_number ws_D_number wn_D wc_D_number)) rfl rfl rfl (by decide +kernel) hR
theorem fc_W_V_introduce {T : fw_T} {G : fw_G} (h : HV T G R_W) (hR : rm_V_introduce.frames + 1 ≤ (gR G).frames ∧ 8 + (6 + 11) + rm_V_introduce.locals ≤ (gR G).locals) : fw_cV G 23 y_V_introduce c_V_introduce 6 (Option.some Jvm.ClassFile.FieldType.boolean) W_V_introduce rm_V_introduce 3 := fun s args hts => by rw [h.1]; exact cwV 3 hts (good_sub h.2.2 (gv_of wm_W_V_introduce wi_V_introduce ws_V_introduce wn_V wc_V_introduce)) rfl rfl rfl (by decide +kernel) hR
theorem fc_W_D_introduce {T : fw_T} {G : fw_G} (h : HV T G R_W) (hR : rm_D_introduce.frames + 1 ≤ (gR G).frames ∧ 8 + (4 + 11) + rm_D_introduce.locals ≤ (gR G).locals) : fw_cV G 26 y_D_introduce c_D_introduce 4 (Option.some Jvm.ClassFile.FieldType.boolean) W_D_introduce rm_D_introduce 3 := fun s args hts => by rw [h.1]; exact cwV 3 hts (good_sub h.2.2 (gv_of wm_W_D_introduce wi_D_introduce ws_D_introduce wn_D wc_D_introduce)) rfl rfl rfl (by decide +kernel) hR
theorem fc_W_V_send {T : fw_T} {G : fw_G} (h : HV T G R_W) (hR : rm_V_send.frames + 1 ≤ (gR G).frames ∧ 8 + (9 + 11) + rm_V_send.locals ≤ (gR G).locals) : fw_cV G 27 y_V_send c_V_send 9 (Option.some Jvm.ClassFile.FieldType.int) W_V_send rm_V_send 5 := fun s args hts => by rw [h.1]; exact cwV 5 hts (good_sub h.2.2 (gv_of wm_W_V_send wi_V_send ws_V_send wn_V wc_V_send)) rfl rfl rfl (by decide +kernel) hR
theorem fc_W_D_send {T : fw_T} {G : fw_G} (h : HV T G R_W) (hR : rm_D_send.frames + 1 ≤ (gR G).frames ∧ 8 + (7 + 11) + rm_D_send.locals ≤ (gR G).locals) : fw_cV G 31 y_D_send c_D_send 7 (Option.some Jvm.ClassFile.FieldType.int) W_D_send rm_D_send 5 := fun s args hts => by rw [h.1]; exact cwV 5 hts (good_sub h.2.2 (gv_of wm_W_D_send wi_D_send ws_D_send wn_D wc_D_send)) rfl rfl rfl (by decide +kernel) hR
theorem fc_W_V_turn {T : fw_T} {G : fw_G} (h : HV T G R_W) (hR : rm_V_turn.frames + 1 ≤ (gR G).frames ∧ 8 + (4 + 11) + rm_V_turn.locals ≤ (gR G).locals) : fw_cV G 32 y_V_turn c_V_turn 4 (Option.some Jvm.ClassFile.FieldType.int) W_V_turn rm_V_turn 1 := fun s args hts => by rw [h.1]; exact cwV 1 hts (good_sub h.2.2 (gv_of wm_W_V_turn wi_V_turn ws_V_turn wn_V wc_V_turn)) rfl rfl rfl (by decide +kernel) hR
theorem fc_W_D_turn {T : fw_T} {G : fw_G} (h : HV T G R_W) (hR : rm_D_turn.frames + 1 ≤ (gR G).frames ∧ 8 + (4 + 11) + rm_D_turn.locals ≤ (gR G).locals) : fw_cV G 35 y_D_turn c_D_turn 4 (Option.some Jvm.ClassFile.FieldType.int) W_D_turn rm_D_turn 1 := fun s args hts => by rw [h.1]; exact cwV 1 hts (good_sub h.2.2 (gv_of wm_W_D_turn wi_D_turn ws_D_turn wn_D wc_D_turn)) rfl rfl rfl (by decide +kernel) hR
theorem fc_W_V_objects {T : fw_T} {G : fw_G} (h : HV T G R_W) (hR : rm_V_objects.frames + 1 ≤ (gR G).frames ∧ 8 + (1 + 11) + rm_V_objects.locals ≤ (gR G).locals) : fw_cV G 36 y_V_objects c_V_objects 1 (Option.some Jvm.ClassFile.FieldType.int) W_V_objects rm_V_objects 0 := fun s args hts => by rw [h.1]; exact cwV 0 hts (good_sub h.2.2 (gv_of wm_W_V_objects wi_V_objects ws_V_objects wn_V wc_V_objects)) rfl rfl rfl (by decide +kernel) hR
theorem fc_W_D_objects {T : fw_T} {G : fw_G} (h : HV T G R_W) (hR : rm_D_objects.frames + 1 ≤ (gR G).frames ∧ 8 + (1 + 11) + rm_D_objects.locals ≤ (gR G).locals) : fw_cV G 40 y_D_objects c_D_objects 1 (Option.some Jvm.ClassFile.FieldType.int) W_D_objects rm_D_objects 0 := fun s args hts => by rw [h.1]; exact cwV 0 hts (good_sub h.2.2 (gv_of wm_W_D_objects wi_D_objects ws_D_objects wn_D wc_D_objects)) rfl rfl rfl (by decide +kernel) hR
theorem fc_W_V_kind {T : fw_T} {G : fw_G} (h : HV T G R_W) (hR : rm_V_kind.frames + 1 ≤ (gR G).frames ∧ 8 + (3 + 11) + rm_V_kind.locals ≤ (gR G).locals) : fw_cV G 41 y_V_kind c_V_kind 3 (Option.some Jvm.ClassFile.FieldType.int) W_V_kind rm_V_kind 1 := fun s args hts => by rw [h.1]; exact cwV 1 hts (good_sub h.2.2 (gv_of wm_W_V_kind wi_V_kind ws_V_kind wn_V wc_V_kind)) rfl rfl rfl (by decide +kernel) hR
theorem fc_W_D_kind {T : fw_T} {G : fw_G} (h : HV T G R_W) (hR : rm_D_kind.frames + 1 ≤ (gR G).frames ∧ 8 + (2 + 11) + rm_D_kind.locals ≤ (gR G).locals) : fw_cV G 44 y_D_kind c_D_kind 2 (Option.some Jvm.ClassFile.FieldType.int) W_D_kind rm_D_kind 1 := fun s args hts => by rw [h.1]; exact cwV 1 hts (good_sub h.2.2 (gv_of wm_W_D_kind wi_D_kind ws_D_kind wn_D wc_D_kind)) rfl rfl rfl (by decide +kernel) hR
theorem fc_W_V_home {T : fw_T} {G : fw_G} (h : HV T G R_W) (hR : rm_V_home.frames + 1 ≤ (gR G).frames ∧ 8 + (3 + 11) + rm_V_home.locals ≤ (gR G).locals) : fw_cV G 45 y_V_home c_V_home 3 (Option.some Jvm.ClassFile.FieldType.int) W_V_home rm_V_home 1 := fun s args hts => by rw [h.1]; exact cwV 1 hts (good_sub h.2.2 (gv_of wm_W_V_home wi_V_home ws_V_home wn_V wc_V_home)) rfl rfl rfl (by decide +kernel) hR
theorem fc_W_D_home {T : fw_T} {G : fw_G} (h : HV T G R_W) (hR : rm_D_home.frames + 1 ≤ (gR G).frames ∧ 8 + (2 + 11) + rm_D_home.locals ≤ (gR G).locals) : fw_cV G 48 y_D_home c_D_home 2 (Option.some Jvm.ClassFile.FieldType.int) W_D_home rm_D_home 1 := fun s args hts => by rw [h.1]; exact cwV 1 hts (good_sub h.2.2 (gv_of wm_W_D_home wi_D_home ws_D_home wn_D wc_D_home)) rfl rfl rfl (by decide +kernel) hR
theorem fc_W_V_what {T : fw_T} {G : fw_G} (h : HV T G R_W) (hR : rm_V_what.frames + 1 ≤ (gR G).frames ∧ 8 + (4 + 11) + rm_V_what.locals ≤ (gR G).locals) : fw_cV G 49 y_V_what c_V_what 4 (Option.some Jvm.ClassFile.FieldType.int) W_V_what rm_V_what 2 := fun s args hts => by rw [h.1]; exact cwV 2 hts (good_sub h.2.2 (gv_of wm_W_V_what wi_V_what ws_V_what wn_V wc_V_what)) rfl rfl rfl (by decide +kernel) hR
theorem fc_W_D_what {T : fw_T} {G : fw_G} (h : HV T G R_W) (hR : rm_D_what.frames + 1 ≤ (gR G).frames ∧ 8 + (3 + 11) + rm_D_what.locals ≤ (gR G).locals) : fw_cV G 53 y_D_what c_D_what 3 (Option.some Jvm.ClassFile.FieldType.int) W_D_what rm_D_what 2 := fun s args hts => by rw [h.1]; exact cwV 2 hts (good_sub h.2.2 (gv_of wm_W_D_what wi_D_what ws_D_what wn_D wc_D_what)) rfl rfl rfl (by decide +kernel) hR
theorem fc_W_V_which {T : fw_T} {G : fw_G} (h : HV T G R_W) (hR : rm_V_which.frames + 1 ≤ (gR G).frames ∧ 8 + (4 + 11) + rm_V_which.locals ≤ (gR G).locals) : fw_cV G 54 y_V_which c_V_which 4 (Option.some Jvm.ClassFile.FieldType.int) W_V_which rm_V_which 2 := fun s args hts => by rw [h.1]; exact cwV 2 hts (good_sub h.2.2 (gv_of wm_W_V_which wi_V_which ws_V_which wn_V wc_V_which)) rfl rfl rfl (by decide +kernel) hR
theorem fc_W_D_which {T : fw_T} {G : fw_G} (h : HV T G R_W) (hR : rm_D_which.frames + 1 ≤ (gR G).frames ∧ 8 + (3 + 11) + rm_D_which.locals ≤ (gR G).locals) : fw_cV G 57 y_D_which c_D_which 3 (Option.some Jvm.ClassFile.FieldType.int) W_D_which rm_D_which 2 := fun s args hts => by rw [h.1]; exact cwV 2 hts (good_sub h.2.2 (gv_of wm_W_D_which wi_D_which ws_D_which wn_D wc_D_which)) rfl rfl rfl (by decide +kernel) hR
theorem fc_W_V_detail {T : fw_T} {G : fw_G} (h : HV T G R_W) (hR : rm_V_detail.frames + 1 ≤ (gR G).frames ∧ 8 + (4 + 11) + rm_V_detail.locals ≤ (gR G).locals) : fw_cV G 58 y_V_detail c_V_detail 4 (Option.some Jvm.ClassFile.FieldType.int) W_V_detail rm_V_detail 2 := fun s args hts => by rw [h.1]; exact cwV 2 hts (good_sub h.2.2 (gv_of wm_W_V_detail wi_V_detail ws_V_detail wn_V wc_V_detail)) rfl rfl rfl (by decide +kernel) hR
theorem fc_W_D_detail {T : fw_T} {G : fw_G} (h : HV T G R_W) (hR : rm_D_detail.frames + 1 ≤ (gR G).frames ∧ 8 + (4 + 11) + rm_D_detail.locals ≤ (gR G).locals) : fw_cV G 61 y_D_detail c_D_detail 4 (Option.some Jvm.ClassFile.FieldType.int) W_D_detail rm_D_detail 2 := fun s args hts => by rw [h.1]; exact cwV 2 hts (good_sub h.2.2 (gv_of wm_W_D_detail wi_D_detail ws_D_detail wn_D wc_D_detail)) rfl rfl rfl (by decide +kernel) hR
theorem fc_W_V_messages {T : fw_T} {G : fw_G} (h : HV T G R_W) (hR : rm_V_messages.frames + 1 ≤ (gR G).frames ∧ 8 + (1 + 11) + rm_V_messages.locals ≤ (gR G).locals) : fw_cV G 62 y_V_messages c_V_messages 1 (Option.some Jvm.ClassFile.FieldType.int) W_V_messages rm_V_messages 0 := fun s args hts => by rw [h.1]; exact cwV 0 hts (good_sub h.2.2 (gv_of wm_W_V_messages wi_V_messages ws_V_messages wn_V wc_V_messages)) rfl rfl rfl (by decide +kernel) hR
theorem fc_W_D_messages {T : fw_T} {G : fw_G} (h : HV T G R_W) (hR : rm_D_messages.frames + 1 ≤ (gR G).frames ∧ 8 + (1 + 11) + rm_D_messages.locals ≤ (gR G).locals) : fw_cV G 65 y_D_messages c_D_messages 1 (Option.some Jvm.ClassFile.FieldType.int) W_D_messages rm_D_messages 0 := fun s args hts => by rw [h.1]; exact cwV 0 hts (good_sub h.2.2 (gv_of wm_W_D_messages wi_D_messages ws_D_messages wn_D wc_D_messages)) rfl rfl rfl (by decide +kernel) hR
theorem fc_W_V_place {T : fw_T} {G : fw_G} (h : HV T G R_W) (hR : rm_V_place.frames + 1 ≤ (gR G).frames ∧ 8 + (3 + 11) + rm_V_place.locals ≤ (gR G).locals) : fw_cV G 66 y_V_place c_V_place 3 (Option.some Jvm.ClassFile.FieldType.int) W_V_place rm_V_place 1 := fun s args hts => by rw [h.1]; exact cwV 1 hts (good_sub h.2.2 (gv_of wm_W_V_place wi_V_place ws_V_place wn_V wc_V_place)) rfl rfl rfl (by decide +kernel) hR
theorem fc_W_D_place {T : fw_T} {G : fw_G} (h : HV T G R_W) (hR : rm_D_place.frames + 1 ≤ (gR G).frames ∧ 8 + (2 + 11) + rm_D_place.locals ≤ (gR G).locals) : fw_cV G 69 y_D_place c_D_place 2 (Option.some Jvm.ClassFile.FieldType.int) W_D_place rm_D_place 1 := fun s args hts => by rw [h.1]; exact cwV 1 hts (good_sub h.2.2 (gv_of wm_W_D_place wi_D_place ws_D_place wn_D wc_D_place)) rfl rfl rfl (by decide +kernel) hR
theorem fc_W_V_result {T : fw_T} {G : fw_G} (h : HV T G R_W) (hR : rm_V_result.frames + 1 ≤ (gR G).frames ∧ 8 + (3 + 11) + rm_V_result.locals ≤ (gR G).locals) : fw_cV G 70 y_V_result c_V_result 3 (Option.some Jvm.ClassFile.FieldType.int) W_V_result rm_V_result 1 := fun s args hts => by rw [h.1]; exact cwV 1 hts (good_sub h.2.2 (gv_of wm_W_V_result wi_V_result ws_V_result wn_V wc_V_result)) rfl rfl rfl (by decide +kernel) hR
theorem fc_W_D_result {T : fw_T} {G : fw_G} (h : HV T G R_W) (hR : rm_D_result.frames + 1 ≤ (gR G).frames ∧ 8 + (2 + 11) + rm_D_result.locals ≤ (gR G).locals) : fw_cV G 73 y_D_result c_D_result 2 (Option.some Jvm.ClassFile.FieldType.int) W_D_result rm_D_result 1 := fun s args hts => by rw [h.1]; exact cwV 1 hts (good_sub h.2.2 (gv_of wm_W_D_result wi_D_result ws_D_result wn_D wc_D_result)) rfl rfl rfl (by decide +kernel) hR
theorem fc_W_V_value {T : fw_T} {G : fw_G} (h : HV T G R_W) (hR : rm_V_value.frames + 1 ≤ (gR G).frames ∧ 8 + (3 + 11) + rm_V_value.locals ≤ (gR G).locals) : fw_cV G 74 y_V_value c_V_value 3 (Option.some Jvm.ClassFile.FieldType.int) W_V_value rm_V_value 1 := fun s args hts => by rw [h.1]; exact cwV 1 hts (good_sub h.2.2 (gv_of wm_W_V_value wi_V_value ws_V_value wn_V wc_V_value)) rfl rfl rfl (by decide +kernel) hR
theorem fc_W_D_value {T : fw_T} {G : fw_G} (h : HV T G R_W) (hR : rm_D_value.frames + 1 ≤ (gR G).frames ∧ 8 + (2 + 11) + rm_D_value.locals ≤ (gR G).locals) : fw_cV G 77 y_D_value c_D_value 2 (Option.some Jvm.ClassFile.FieldType.int) W_D_value rm_D_value 1 := fun s args hts => by rw [h.1]; exact cwV 1 hts (good_sub h.2.2 (gv_of wm_W_D_value wi_D_value ws_D_value wn_D wc_D_value)) rfl rfl rfl (by decide +kernel) hR
theorem fc_W_V_queued {T : fw_T} {G : fw_G} (h : HV T G R_W) (hR : rm_V_queued.frames + 1 ≤ (gR G).frames ∧ 8 + (2 + 11) + rm_V_queued.locals ≤ (gR G).locals) : fw_cV G 78 y_V_queued c_V_queued 2 (Option.some Jvm.ClassFile.FieldType.int) W_V_queued rm_V_queued 1 := fun s args hts => by rw [h.1]; exact cwV 1 hts (good_sub h.2.2 (gv_of wm_W_V_queued wi_V_queued ws_V_queued wn_V wc_V_queued)) rfl rfl rfl (by decide +kernel) hR
theorem fc_W_D_queued {T : fw_T} {G : fw_G} (h : HV T G R_W) (hR : rm_D_queued.frames + 1 ≤ (gR G).frames ∧ 8 + (2 + 11) + rm_D_queued.locals ≤ (gR G).locals) : fw_cV G 81 y_D_queued c_D_queued 2 (Option.some Jvm.ClassFile.FieldType.int) W_D_queued rm_D_queued 1 := fun s args hts => by rw [h.1]; exact cwV 1 hts (good_sub h.2.2 (gv_of wm_W_D_queued wi_D_queued ws_D_queued wn_D wc_D_queued)) rfl rfl rfl (by decide +kernel) hR
theorem fc_W_V_next {T : fw_T} {G : fw_G} (h : HV T G R_W) (hR : rm_V_next.frames + 1 ≤ (gR G).frames ∧ 8 + (4 + 11) + rm_V_next.locals ≤ (gR G).locals) : fw_cV G 82 y_V_next c_V_next 4 (Option.some Jvm.ClassFile.FieldType.int) W_V_next rm_V_next 2 := fun s args hts => by rw [h.1]; exact cwV 2 hts (good_sub h.2.2 (gv_of wm_W_V_next wi_V_next ws_V_next wn_V wc_V_next)) rfl rfl rfl (by decide +kernel) hR
theorem fc_W_D_next {T : fw_T} {G : fw_G} (h : HV T G R_W) (hR : rm_D_next.frames + 1 ≤ (gR G).frames ∧ 8 + (4 + 11) + rm_D_next.locals ≤ (gR G).locals) : fw_cV G 85 y_D_next c_D_next 4 (Option.some Jvm.ClassFile.FieldType.int) W_D_next rm_D_next 2 := fun s args hts => by rw [h.1]; exact cwV 2 hts (good_sub h.2.2 (gv_of wm_W_D_next wi_D_next ws_D_next wn_D wc_D_next)) rfl rfl rfl (by decide +kernel) hR
theorem fc_W_V_waiting {T : fw_T} {G : fw_G} (h : HV T G R_W) (hR : rm_V_waiting.frames + 1 ≤ (gR G).frames ∧ 8 + (3 + 11) + rm_V_waiting.locals ≤ (gR G).locals) : fw_cV G 86 y_V_waiting c_V_waiting 3 (Option.some Jvm.ClassFile.FieldType.int) W_V_waiting rm_V_waiting 1 := fun s args hts => by rw [h.1]; exact cwV 1 hts (good_sub h.2.2 (gv_of wm_W_V_waiting wi_V_waiting ws_V_waiting wn_V wc_V_waiting)) rfl rfl rfl (by decide +kernel) hR
theorem fc_W_D_waiting {T : fw_T} {G : fw_G} (h : HV T G R_W) (hR : rm_D_waiting.frames + 1 ≤ (gR G).frames ∧ 8 + (2 + 11) + rm_D_waiting.locals ≤ (gR G).locals) : fw_cV G 89 y_D_waiting c_D_waiting 2 (Option.some Jvm.ClassFile.FieldType.int) W_D_waiting rm_D_waiting 1 := fun s args hts => by rw [h.1]; exact cwV 1 hts (good_sub h.2.2 (gv_of wm_W_D_waiting wi_D_waiting ws_D_waiting wn_D wc_D_waiting)) rfl rfl rfl (by decide +kernel) hR
theorem fc_W_V_notes {T : fw_T} {G : fw_G} (h : HV T G R_W) (hR : rm_V_notes.frames + 1 ≤ (gR G).frames ∧ 8 + (3 + 11) + rm_V_notes.locals ≤ (gR G).locals) : fw_cV G 90 y_V_notes c_V_notes 3 (Option.some Jvm.ClassFile.FieldType.int) W_V_notes rm_V_notes 1 := fun s args hts => by rw [h.1]; exact cwV 1 hts (good_sub h.2.2 (gv_of wm_W_V_notes wi_V_notes ws_V_notes wn_V wc_V_notes)) rfl rfl rfl (by decide +kernel) hR
theorem fc_W_D_notes {T : fw_T} {G : fw_G} (h : HV T G R_W) (hR : rm_D_notes.frames + 1 ≤ (gR G).frames ∧ 8 + (2 + 11) + rm_D_notes.locals ≤ (gR G).locals) : fw_cV G 93 y_D_notes c_D_notes 2 (Option.some Jvm.ClassFile.FieldType.int) W_D_notes rm_D_notes 1 := fun s args hts => by rw [h.1]; exact cwV 1 hts (good_sub h.2.2 (gv_of wm_W_D_notes wi_D_notes ws_D_notes wn_D wc_D_notes)) rfl rfl rfl (by decide +kernel) hR
end
section
def tab_L_init : List fw_I := [(0, .aload_n 0, 1, 1, 0, 0), (1, .invokespecial 1, 3, 4, 0, 0), (4, .return_, 1, 5, 0, 0)]
def G_L_init : fw_G := (c_L_init, 1, W_L_init, R_L, rm_L_init, (Option.none : Option Jvm.ClassFile.FieldType), tab_L_init, y_L_init)
theorem tok_L_init : fw_tok c_L_init W_L_init R_L tab_L_init = true := by decide +kernel
theorem hv_L_init {T : fw_T} (h : TOK T) : HV T G_L_init R_L := ⟨rfl, h, fun x hx => List.mem_cons_of_mem _ hx⟩
theorem ct_L_init {T : fw_T} {l : Launch} {w : fw_W} {av : List fw_V} {post : Option fw_V → fw_W → Prop} {L : List (Option fw_V)} (hL : L = av.map some ++ List.replicate (1 - av.length) none) (hlen : av.length ≤ 1) (kk : ∀ X : fw_X, xL X = l → fw_ok T G_L_init X → fw_ends T G_L_init X post → J T G_L_init X 0 L [] w 0 0) : Ct l T y_L_init W_L_init rm_L_init av w post := ct_of (G := G_L_init) c_L_init 1 R_L (Option.none : Option Jvm.ClassFile.FieldType) tab_L_init rfl (by decide +kernel) rfl rfl tok_L_init hL hlen kk
def tab_L_join : List fw_I := [(0, .aload_n 1, 1, 1, 0, 0), (1, .aconst_null, 1, 2, 0, 0), (2, .putfield 7, 3, 5, 0, 0), (5, .aload_n 0, 1, 6, 0, 0), (6, .getfield 13, 3, 9, 0, 0), (9, .ifnonnull 11, 3, 12, 20, 0), (12, .aload_n 0, 1, 13, 0, 0), (13, .aload_n 1, 1, 14, 0, 0), (14, .putfield 18, 3, 17, 0, 0), (17, .goto 11, 3, 20, 28, 0), (20, .aload_n 0, 1, 21, 0, 0), (21, .getfield 13, 3, 24, 0, 0), (24, .aload_n 1, 1, 25, 0, 0), (25, .putfield 7, 3, 28, 0, 0), (28, .aload_n 0, 1, 29, 0, 0), (29, .aload_n 1, 1, 30, 0, 0), (30, .putfield 13, 3, 33, 0, 0), (33, .aload_n 0, 1, 34, 0, 0), (34, .dup, 1, 35, 0, 0), (35, .getfield 21, 3, 38, 0, 0), (38, .iconst 1, 1, 39, 0, 1), (39, .iadd, 1, 40, 0, 0), (40, .putfield 21, 3, 43, 0, 0), (43, .return_, 1, 44, 0, 0)]
def G_L_join : fw_G := (c_L_join, 2, W_L_join, R_L, rm_L_join, (Option.none : Option Jvm.ClassFile.FieldType), tab_L_join, y_L_join)
theorem tok_L_join : fw_tok c_L_join W_L_join R_L tab_L_join = true := by decide +kernel
theorem hv_L_join {T : fw_T} (h : TOK T) : HV T G_L_join R_L := ⟨rfl, h, fun x hx => List.mem_cons_of_mem _ hx⟩
theorem ct_L_join {T : fw_T} {l : Launch} {w : fw_W} {av : List fw_V} {post : Option fw_V → fw_W → Prop} {L : List (Option fw_V)} (hL : L = av.map some ++ List.replicate (2 - av.length) none) (hlen : av.length ≤ 2) (kk : ∀ X : fw_X, xL X = l → fw_ok T G_L_join X → fw_ends T G_L_join X post → J T G_L_join X 0 L [] w 0 0) : Ct l T y_L_join W_L_join rm_L_join av w post := ct_of (G := G_L_join) c_L_join 2 R_L (Option.none : Option Jvm.ClassFile.FieldType) tab_L_join rfl (by decide +kernel) rfl rfl tok_L_join hL hlen kk
def tab_L_take : List fw_I := [(0, .aload_n 0, 1, 1, 0, 0), (1, .getfield 18, 3, 4, 0, 0), (4, .astore_n 1, 1, 5, 0, 0), (5, .aload_n 1, 1, 6, 0, 0), (6, .ifnonnull 5, 3, 9, 11, 0), (9, .aconst_null, 1, 10, 0, 0), (10, .areturn, 1, 11, 0, 0), (11, .aload_n 0, 1, 12, 0, 0), (12, .aload_n 1, 1, 13, 0, 0), (13, .getfield 7, 3, 16, 0, 0), (16, .putfield 18, 3, 19, 0, 0), (19, .aload_n 0, 1, 20, 0, 0), (20, .getfield 18, 3, 23, 0, 0), (23, .ifnonnull 8, 3, 26, 31, 0), (26, .aload_n 0, 1, 27, 0, 0), (27, .aconst_null, 1, 28, 0, 0), (28, .putfield 13, 3, 31, 0, 0), (31, .aload_n 0, 1, 32, 0, 0), (32, .dup, 1, 33, 0, 0), (33, .getfield 21, 3, 36, 0, 0), (36, .iconst 1, 1, 37, 0, 1), (37, .isub, 1, 38, 0, 0), (38, .putfield 21, 3, 41, 0, 0), (41, .aload_n 1, 1, 42, 0, 0), (42, .areturn, 1, 43, 0, 0)]
def G_L_take : fw_G := (c_L_take, 2, W_L_take, R_L, rm_L_take, (Option.some (Jvm.ClassFile.FieldType.object "CapabilityVats$Message")), tab_L_take, y_L_take)
theorem tok_L_take : fw_tok c_L_take W_L_take R_L tab_L_take = true := by decide +kernel
theorem hv_L_take {T : fw_T} (h : TOK T) : HV T G_L_take R_L := ⟨rfl, h, fun x hx => List.mem_cons_of_mem _ hx⟩
theorem ct_L_take {T : fw_T} {l : Launch} {w : fw_W} {av : List fw_V} {post : Option fw_V → fw_W → Prop} {L : List (Option fw_V)} (hL : L = av.map some ++ List.replicate (2 - av.length) none) (hlen : av.length ≤ 2) (kk : ∀ X : fw_X, xL X = l → fw_ok T G_L_take X → fw_ends T G_L_take X post → J T G_L_take X 0 L [] w 0 0) : Ct l T y_L_take W_L_take rm_L_take av w post := ct_of (G := G_L_take) c_L_take 2 R_L (Option.some (Jvm.ClassFile.FieldType.object "CapabilityVats$Message")) tab_L_take rfl (by decide +kernel) rfl rfl tok_L_take hL hlen kk
def tab_L_takeOver : List fw_I := [(0, .aload_n 1, 1, 1, 0, 0), (1, .getfield 21, 3, 4, 0, 0), (4, .istore_n 2, 1, 5, 0, 0), (5, .iload_n 2, 1, 6, 0, 0), (6, .ifCond .le 23, 3, 9, 29, 0), (9, .aload_n 1, 1, 10, 0, 0), (10, .invokevirtual 25, 3, 13, 0, 0), (13, .astore_n 3, 1, 14, 0, 0), (14, .aload_n 3, 1, 15, 0, 0), (15, .ifnull 8, 3, 18, 23, 0), (18, .aload_n 0, 1, 19, 0, 0), (19, .aload_n 3, 1, 20, 0, 0), (20, .invokevirtual 29, 3, 23, 0, 0), (23, .iinc 2 (-1), 3, 26, 0, (-1)), (26, .goto (-21), 3, 29, 5, 0), (29, .return_, 1, 30, 0, 0)]
def G_L_takeOver : fw_G := (c_L_takeOver, 4, W_L_takeOver, R_L, rm_L_takeOver, (Option.none : Option Jvm.ClassFile.FieldType), tab_L_takeOver, y_L_takeOver)
theorem tok_L_takeOver : fw_tok c_L_takeOver W_L_takeOver R_L tab_L_takeOver = true := by decide +kernel
theorem hv_L_takeOver {T : fw_T} (h : TOK T) : HV T G_L_takeOver R_L := ⟨rfl, h, fun x hx => List.mem_cons_of_mem _ hx⟩
theorem ct_L_takeOver {T : fw_T} {l : Launch} {w : fw_W} {av : List fw_V} {post : Option fw_V → fw_W → Prop} {L : List (Option fw_V)} (hL : L = av.map some ++ List.replicate (4 - av.length) none) (hlen : av.length ≤ 4) (kk : ∀ X : fw_X, xL X = l → fw_ok T G_L_takeOver X → fw_ends T G_L_takeOver X post → J T G_L_takeOver X 0 L [] w 0 0) : Ct l T y_L_takeOver W_L_takeOver rm_L_takeOver av w post := ct_of (G := G_L_takeOver) c_L_takeOver 4 R_L (Option.none : Option Jvm.ClassFile.FieldType) tab_L_takeOver rfl (by decide +kernel) rfl rfl tok_L_takeOver hL hlen kk
def tab_L_withBefore : List fw_I := [(0, .iload_n 1, 1, 1, 0, 0), (1, .ifCond .lt 11, 3, 4, 12, 0), (4, .iload_n 1, 1, 5, 0, 0), (5, .aload_n 0, 1, 6, 0, 0), (6, .getfield 21, 3, 9, 0, 0), (9, .if_icmp .lt 5, 3, 12, 14, 0), (12, .aconst_null, 1, 13, 0, 0), (13, .areturn, 1, 14, 0, 0), (14, .aload_n 0, 1, 15, 0, 0), (15, .getfield 18, 3, 18, 0, 0), (18, .astore_n 2, 1, 19, 0, 0), (19, .iconst 0, 1, 20, 0, 0), (20, .istore_n 3, 1, 21, 0, 0), (21, .iload_n 3, 1, 22, 0, 0), (22, .iload_n 1, 1, 23, 0, 0), (23, .if_icmp .ge 18, 3, 26, 41, 0), (26, .aload_n 2, 1, 27, 0, 0), (27, .ifnull 14, 3, 30, 41, 0), (30, .aload_n 2, 1, 31, 0, 0), (31, .getfield 7, 3, 34, 0, 0), (34, .astore_n 2, 1, 35, 0, 0), (35, .iinc 3 1, 3, 38, 0, 1), (38, .goto (-17), 3, 41, 21, 0), (41, .aload_n 2, 1, 42, 0, 0), (42, .areturn, 1, 43, 0, 0)]
def G_L_withBefore : fw_G := (c_L_withBefore, 4, W_L_withBefore, R_L, rm_L_withBefore, (Option.some (Jvm.ClassFile.FieldType.object "CapabilityVats$Message")), tab_L_withBefore, y_L_withBefore)
theorem tok_L_withBefore : fw_tok c_L_withBefore W_L_withBefore R_L tab_L_withBefore = true := by decide +kernel
theorem hv_L_withBefore {T : fw_T} (h : TOK T) : HV T G_L_withBefore R_L := ⟨rfl, h, fun x hx => List.mem_cons_of_mem _ hx⟩
theorem ct_L_withBefore {T : fw_T} {l : Launch} {w : fw_W} {av : List fw_V} {post : Option fw_V → fw_W → Prop} {L : List (Option fw_V)} (hL : L = av.map some ++ List.replicate (4 - av.length) none) (hlen : av.length ≤ 4) (kk : ∀ X : fw_X, xL X = l → fw_ok T G_L_withBefore X → fw_ends T G_L_withBefore X post → J T G_L_withBefore X 0 L [] w 0 0) : Ct l T y_L_withBefore W_L_withBefore rm_L_withBefore av w post := ct_of (G := G_L_withBefore) c_L_withBefore 4 R_L (Option.some (Jvm.ClassFile.FieldType.object "CapabilityVats$Message")) tab_L_withBefore rfl (by decide +kernel) rfl rfl tok_L_withBefore hL hlen kk
def tab_M_init : List fw_I := [(0, .aload_n 0, 1, 1, 0, 0), (1, .invokespecial 3, 3, 4, 0, 0), (4, .aload_n 0, 1, 5, 0, 0), (5, .new 9, 3, 8, 0, 0), (8, .dup, 1, 9, 0, 0), (9, .invokespecial 11, 3, 12, 0, 0), (12, .putfield 12, 3, 15, 0, 0), (15, .aload_n 0, 1, 16, 0, 0), (16, .bipush 8, 2, 18, 0, 8), (18, .anewarray 18, 3, 21, 0, 0), (21, .putfield 20, 3, 24, 0, 0), (24, .aload_n 0, 1, 25, 0, 0), (25, .iload_n 1, 1, 26, 0, 0), (26, .putfield 24, 3, 29, 0, 0), (29, .aload_n 0, 1, 30, 0, 0), (30, .aload_n 2, 1, 31, 0, 0), (31, .putfield 28, 3, 34, 0, 0), (34, .aload_n 0, 1, 35, 0, 0), (35, .iload_n 3, 1, 36, 0, 0), (36, .putfield 32, 3, 39, 0, 0), (39, .aload_n 0, 1, 40, 0, 0), (40, .aload 4, 2, 42, 0, 0), (42, .putfield 35, 3, 45, 0, 0), (45, .aload_n 0, 1, 46, 0, 0), (46, .new 38, 3, 49, 0, 0), (49, .dup, 1, 50, 0, 0), (50, .iconst 3, 1, 51, 0, 3), (51, .iload_n 1, 1, 52, 0, 0), (52, .invokespecial 40, 3, 55, 0, 0), (55, .putfield 43, 3, 58, 0, 0), (58, .return_, 1, 59, 0, 0)]
def G_M_init : fw_G := (c_M_init, 5, W_M_init, R_M, rm_M_init, (Option.none : Option Jvm.ClassFile.FieldType), tab_M_init, y_M_init)
theorem tok_M_init : fw_tok c_M_init W_M_init R_M tab_M_init = true := by decide +kernel
theorem hv_M_init {T : fw_T} (h : TOK T) : HV T G_M_init R_M := ⟨rfl, h, fun x hx => List.mem_cons_of_mem _ hx⟩
theorem ct_M_init {T : fw_T} {l : Launch} {w : fw_W} {av : List fw_V} {post : Option fw_V → fw_W → Prop} {L : List (Option fw_V)} (hL : L = av.map some ++ List.replicate (5 - av.length) none) (hlen : av.length ≤ 5) (kk : ∀ X : fw_X, xL X = l → fw_ok T G_M_init X → fw_ends T G_M_init X post → J T G_M_init X 0 L [] w 0 0) : Ct l T y_M_init W_M_init rm_M_init av w post := ct_of (G := G_M_init) c_M_init 5 R_M (Option.none : Option Jvm.ClassFile.FieldType) tab_M_init rfl (by decide +kernel) rfl rfl tok_M_init hL hlen kk
def tab_M_noteDown : List fw_I := [(0, .aload_n 0, 1, 1, 0, 0), (1, .getfield 46, 3, 4, 0, 0), (4, .bipush 8, 2, 6, 0, 8), (6, .if_icmp .ge 23, 3, 9, 29, 0), (9, .aload_n 0, 1, 10, 0, 0), (10, .getfield 20, 3, 13, 0, 0), (13, .aload_n 0, 1, 14, 0, 0), (14, .getfield 46, 3, 17, 0, 0), (17, .aload_n 1, 1, 18, 0, 0), (18, .aastore, 1, 19, 0, 0), (19, .aload_n 0, 1, 20, 0, 0), (20, .dup, 1, 21, 0, 0), (21, .getfield 46, 3, 24, 0, 0), (24, .iconst 1, 1, 25, 0, 1), (25, .iadd, 1, 26, 0, 0), (26, .putfield 46, 3, 29, 0, 0), (29, .return_, 1, 30, 0, 0)]
def G_M_noteDown : fw_G := (c_M_noteDown, 2, W_M_noteDown, R_M, rm_M_noteDown, (Option.none : Option Jvm.ClassFile.FieldType), tab_M_noteDown, y_M_noteDown)
theorem tok_M_noteDown : fw_tok c_M_noteDown W_M_noteDown R_M tab_M_noteDown = true := by decide +kernel
theorem hv_M_noteDown {T : fw_T} (h : TOK T) : HV T G_M_noteDown R_M := ⟨rfl, h, fun x hx => List.mem_cons_of_mem _ hx⟩
theorem ct_M_noteDown {T : fw_T} {l : Launch} {w : fw_W} {av : List fw_V} {post : Option fw_V → fw_W → Prop} {L : List (Option fw_V)} (hL : L = av.map some ++ List.replicate (2 - av.length) none) (hlen : av.length ≤ 2) (kk : ∀ X : fw_X, xL X = l → fw_ok T G_M_noteDown X → fw_ends T G_M_noteDown X post → J T G_M_noteDown X 0 L [] w 0 0) : Ct l T y_M_noteDown W_M_noteDown rm_M_noteDown av w post := ct_of (G := G_M_noteDown) c_M_noteDown 2 R_M (Option.none : Option Jvm.ClassFile.FieldType) tab_M_noteDown rfl (by decide +kernel) rfl rfl tok_M_noteDown hL hlen kk
def tab_R_init : List fw_I := [(0, .aload_n 0, 1, 1, 0, 0), (1, .invokespecial 1, 3, 4, 0, 0), (4, .aload_n 0, 1, 5, 0, 0), (5, .iload_n 1, 1, 6, 0, 0), (6, .putfield 7, 3, 9, 0, 0), (9, .aload_n 0, 1, 10, 0, 0), (10, .iload_n 2, 1, 11, 0, 0), (11, .putfield 13, 3, 14, 0, 0), (14, .return_, 1, 15, 0, 0)]
def G_R_init : fw_G := (c_R_init, 3, W_R_init, R_R, rm_R_init, (Option.none : Option Jvm.ClassFile.FieldType), tab_R_init, y_R_init)
theorem tok_R_init : fw_tok c_R_init W_R_init R_R tab_R_init = true := by decide +kernel
theorem hv_R_init {T : fw_T} (h : TOK T) : HV T G_R_init R_R := ⟨rfl, h, fun x hx => List.mem_cons_of_mem _ hx⟩
theorem ct_R_init {T : fw_T} {l : Launch} {w : fw_W} {av : List fw_V} {post : Option fw_V → fw_W → Prop} {L : List (Option fw_V)} (hL : L = av.map some ++ List.replicate (3 - av.length) none) (hlen : av.length ≤ 3) (kk : ∀ X : fw_X, xL X = l → fw_ok T G_R_init X → fw_ends T G_R_init X post → J T G_R_init X 0 L [] w 0 0) : Ct l T y_R_init W_R_init rm_R_init av w post := ct_of (G := G_R_init) c_R_init 3 R_R (Option.none : Option Jvm.ClassFile.FieldType) tab_R_init rfl (by decide +kernel) rfl rfl tok_R_init hL hlen kk
def tab_R_isSame : List fw_I := [(0, .aload_n 0, 1, 1, 0, 0), (1, .getfield 7, 3, 4, 0, 0), (4, .aload_n 1, 1, 5, 0, 0), (5, .getfield 7, 3, 8, 0, 0), (8, .if_icmp .ne 18, 3, 11, 26, 0), (11, .aload_n 0, 1, 12, 0, 0), (12, .getfield 13, 3, 15, 0, 0), (15, .aload_n 1, 1, 16, 0, 0), (16, .getfield 13, 3, 19, 0, 0), (19, .if_icmp .ne 7, 3, 22, 26, 0), (22, .iconst 1, 1, 23, 0, 1), (23, .goto 4, 3, 26, 27, 0), (26, .iconst 0, 1, 27, 0, 0), (27, .ireturn, 1, 28, 0, 0)]
def G_R_isSame : fw_G := (c_R_isSame, 2, W_R_isSame, R_R, rm_R_isSame, (Option.some Jvm.ClassFile.FieldType.boolean), tab_R_isSame, y_R_isSame)
theorem tok_R_isSame : fw_tok c_R_isSame W_R_isSame R_R tab_R_isSame = true := by decide +kernel
theorem hv_R_isSame {T : fw_T} (h : TOK T) : HV T G_R_isSame R_R := ⟨rfl, h, fun x hx => List.mem_cons_of_mem _ hx⟩
theorem ct_R_isSame {T : fw_T} {l : Launch} {w : fw_W} {av : List fw_V} {post : Option fw_V → fw_W → Prop} {L : List (Option fw_V)} (hL : L = av.map some ++ List.replicate (2 - av.length) none) (hlen : av.length ≤ 2) (kk : ∀ X : fw_X, xL X = l → fw_ok T G_R_isSame X → fw_ends T G_R_isSame X post → J T G_R_isSame X 0 L [] w 0 0) : Ct l T y_R_isSame W_R_isSame rm_R_isSame av w post := ct_of (G := G_R_isSame) c_R_isSame 2 R_R (Option.some Jvm.ClassFile.FieldType.boolean) tab_R_isSame rfl (by decide +kernel) rfl rfl tok_R_isSame hL hlen kk
def tab_H_init : List fw_I := [(0, .aload_n 0, 1, 1, 0, 0), (1, .invokespecial 3, 3, 4, 0, 0), (4, .aload_n 0, 1, 5, 0, 0), (5, .iconst 4, 1, 6, 0, 4), (6, .anewarray 9, 3, 9, 0, 0), (9, .putfield 11, 3, 12, 0, 0), (12, .aload_n 0, 1, 13, 0, 0), (13, .iload_n 1, 1, 14, 0, 0), (14, .putfield 17, 3, 17, 0, 0), (17, .aload_n 0, 1, 18, 0, 0), (18, .iload_n 2, 1, 19, 0, 0), (19, .putfield 21, 3, 22, 0, 0), (22, .aload_n 0, 1, 23, 0, 0), (23, .iload_n 3, 1, 24, 0, 0), (24, .putfield 24, 3, 27, 0, 0), (27, .aload_n 0, 1, 28, 0, 0), (28, .aload 4, 2, 30, 0, 0), (30, .putfield 27, 3, 33, 0, 0), (33, .aload_n 0, 1, 34, 0, 0), (34, .new 9, 3, 37, 0, 0), (37, .dup, 1, 38, 0, 0), (38, .iconst 2, 1, 39, 0, 2), (39, .iload_n 1, 1, 40, 0, 0), (40, .invokespecial 31, 3, 43, 0, 0), (43, .putfield 34, 3, 46, 0, 0), (46, .aload_n 0, 1, 47, 0, 0), (47, .aload 5, 2, 49, 0, 0), (49, .putfield 38, 3, 52, 0, 0), (52, .iconst 0, 1, 53, 0, 0), (53, .istore 6, 2, 55, 0, 0), (55, .iload 6, 2, 57, 0, 0), (57, .iconst 4, 1, 58, 0, 4), (58, .if_icmp .ge 18, 3, 61, 76, 0), (61, .aload_n 0, 1, 62, 0, 0), (62, .getfield 11, 3, 65, 0, 0), (65, .iload 6, 2, 67, 0, 0), (67, .aload 5, 2, 69, 0, 0), (69, .aastore, 1, 70, 0, 0), (70, .iinc 6 1, 3, 73, 0, 1), (73, .goto (-18), 3, 76, 55, 0), (76, .return_, 1, 77, 0, 0)]
def G_H_init : fw_G := (c_H_init, 7, W_H_init, R_H, rm_H_init, (Option.none : Option Jvm.ClassFile.FieldType), tab_H_init, y_H_init)
theorem tok_H_init : fw_tok c_H_init W_H_init R_H tab_H_init = true := by decide +kernel
theorem hv_H_init {T : fw_T} (h : TOK T) : HV T G_H_init R_H := ⟨rfl, h, fun x hx => List.mem_cons_of_mem _ hx⟩
theorem ct_H_init {T : fw_T} {l : Launch} {w : fw_W} {av : List fw_V} {post : Option fw_V → fw_W → Prop} {L : List (Option fw_V)} (hL : L = av.map some ++ List.replicate (7 - av.length) none) (hlen : av.length ≤ 7) (kk : ∀ X : fw_X, xL X = l → fw_ok T G_H_init X → fw_ends T G_H_init X post → J T G_H_init X 0 L [] w 0 0) : Ct l T y_H_init W_H_init rm_H_init av w post := ct_of (G := G_H_init) c_H_init 7 R_H (Option.none : Option Jvm.ClassFile.FieldType) tab_H_init rfl (by decide +kernel) rfl rfl tok_H_init hL hlen kk
def tab_H_holdsOne : List fw_I := [(0, .aload_n 0, 1, 1, 0, 0), (1, .getfield 21, 3, 4, 0, 0), (4, .iconst 2, 1, 5, 0, 2), (5, .if_icmp .eq 21, 3, 8, 26, 0), (8, .aload_n 0, 1, 9, 0, 0), (9, .getfield 21, 3, 12, 0, 0), (12, .bipush 6, 2, 14, 0, 6), (14, .if_icmp .eq 12, 3, 17, 26, 0), (17, .aload_n 0, 1, 18, 0, 0), (18, .getfield 21, 3, 21, 0, 0), (21, .bipush 10, 2, 23, 0, 10), (23, .if_icmp .ne 7, 3, 26, 30, 0), (26, .iconst 1, 1, 27, 0, 1), (27, .goto 4, 3, 30, 31, 0), (30, .iconst 0, 1, 31, 0, 0), (31, .ireturn, 1, 32, 0, 0)]
def G_H_holdsOne : fw_G := (c_H_holdsOne, 1, W_H_holdsOne, R_H, rm_H_holdsOne, (Option.some Jvm.ClassFile.FieldType.boolean), tab_H_holdsOne, y_H_holdsOne)
theorem tok_H_holdsOne : fw_tok c_H_holdsOne W_H_holdsOne R_H tab_H_holdsOne = true := by decide +kernel
theorem hv_H_holdsOne {T : fw_T} (h : TOK T) : HV T G_H_holdsOne R_H := ⟨rfl, h, fun x hx => List.mem_cons_of_mem _ hx⟩
theorem ct_H_holdsOne {T : fw_T} {l : Launch} {w : fw_W} {av : List fw_V} {post : Option fw_V → fw_W → Prop} {L : List (Option fw_V)} (hL : L = av.map some ++ List.replicate (1 - av.length) none) (hlen : av.length ≤ 1) (kk : ∀ X : fw_X, xL X = l → fw_ok T G_H_holdsOne X → fw_ends T G_H_holdsOne X post → J T G_H_holdsOne X 0 L [] w 0 0) : Ct l T y_H_holdsOne W_H_holdsOne rm_H_holdsOne av w post := ct_of (G := G_H_holdsOne) c_H_holdsOne 1 R_H (Option.some Jvm.ClassFile.FieldType.boolean) tab_H_holdsOne rfl (by decide +kernel) rfl rfl tok_H_holdsOne hL hlen kk
def tab_H_isCutOff : List fw_I := [(0, .aload_n 0, 1, 1, 0, 0), (1, .getfield 27, 3, 4, 0, 0), (4, .ifnull 13, 3, 7, 17, 0), (7, .aload_n 0, 1, 8, 0, 0), (8, .getfield 27, 3, 11, 0, 0), (11, .getfield 41, 3, 14, 0, 0), (14, .ifCond .eq 7, 3, 17, 21, 0), (17, .iconst 1, 1, 18, 0, 1), (18, .goto 4, 3, 21, 22, 0), (21, .iconst 0, 1, 22, 0, 0), (22, .ireturn, 1, 23, 0, 0)]
def G_H_isCutOff : fw_G := (c_H_isCutOff, 1, W_H_isCutOff, R_H, rm_H_isCutOff, (Option.some Jvm.ClassFile.FieldType.boolean), tab_H_isCutOff, y_H_isCutOff)
theorem tok_H_isCutOff : fw_tok c_H_isCutOff W_H_isCutOff R_H tab_H_isCutOff = true := by decide +kernel
theorem hv_H_isCutOff {T : fw_T} (h : TOK T) : HV T G_H_isCutOff R_H := ⟨rfl, h, fun x hx => List.mem_cons_of_mem _ hx⟩
theorem ct_H_isCutOff {T : fw_T} {l : Launch} {w : fw_W} {av : List fw_V} {post : Option fw_V → fw_W → Prop} {L : List (Option fw_V)} (hL : L = av.map some ++ List.replicate (1 - av.length) none) (hlen : av.length ≤ 1) (kk : ∀ X : fw_X, xL X = l → fw_ok T G_H_isCutOff X → fw_ends T G_H_isCutOff X post → J T G_H_isCutOff X 0 L [] w 0 0) : Ct l T y_H_isCutOff W_H_isCutOff rm_H_isCutOff av w post := ct_of (G := G_H_isCutOff) c_H_isCutOff 1 R_H (Option.some Jvm.ClassFile.FieldType.boolean) tab_H_isCutOff rfl (by decide +kernel) rfl rfl tok_H_isCutOff hL hlen kk
end
section
def tab_V_init : List fw_I := [(0, .aload_n 0, 1, 1, 0, 0), (1, .invokespecial 1, 3, 4, 0, 0), (4, .aload_n 0, 1, 5, 0, 0), (5, .new 7, 3, 8, 0, 0), (8, .dup, 1, 9, 0, 0), (9, .iconst 0, 1, 10, 0, 0), (10, .iconst 0, 1, 11, 0, 0), (11, .invokespecial 11, 3, 14, 0, 0), (14, .putfield 14, 3, 17, 0, 0), (17, .aload_n 0, 1, 18, 0, 0), (18, .new 7, 3, 21, 0, 0), (21, .dup, 1, 22, 0, 0), (22, .iconst 4, 1, 23, 0, 4), (23, .iconst 0, 1, 24, 0, 0), (24, .invokespecial 11, 3, 27, 0, 0), (27, .putfield 18, 3, 30, 0, 0), (30, .aload_n 0, 1, 31, 0, 0), (31, .bipush 40, 2, 33, 0, 40), (33, .anewarray 21, 3, 36, 0, 0), (36, .putfield 23, 3, 39, 0, 0), (39, .aload_n 0, 1, 40, 0, 0), (40, .iconst 0, 1, 41, 0, 0), (41, .putfield 27, 3, 44, 0, 0), (44, .aload_n 0, 1, 45, 0, 0), (45, .sipush 200, 3, 48, 0, 200), (48, .anewarray 31, 3, 51, 0, 0), (51, .putfield 33, 3, 54, 0, 0), (54, .aload_n 0, 1, 55, 0, 0), (55, .iconst 0, 1, 56, 0, 0), (56, .putfield 37, 3, 59, 0, 0), (59, .aload_n 0, 1, 60, 0, 0), (60, .iconst 3, 1, 61, 0, 3), (61, .anewarray 40, 3, 64, 0, 0), (64, .putfield 42, 3, 67, 0, 0), (67, .aload_n 0, 1, 68, 0, 0), (68, .new 40, 3, 71, 0, 0), (71, .dup, 1, 72, 0, 0), (72, .invokespecial 46, 3, 75, 0, 0), (75, .putfield 47, 3, 78, 0, 0), (78, .iconst 0, 1, 79, 0, 0), (79, .istore_n 1, 1, 80, 0, 0), (80, .iload_n 1, 1, 81, 0, 0), (81, .iconst 3, 1, 82, 0, 3), (82, .if_icmp .ge 22, 3, 85, 104, 0), (85, .aload_n 0, 1, 86, 0, 0), (86, .getfield 42, 3, 89, 0, 0), (89, .iload_n 1, 1, 90, 0, 0), (90, .new 40, 3, 93, 0, 0), (93, .dup, 1, 94, 0, 0), (94, .invokespecial 46, 3, 97, 0, 0), (97, .aastore, 1, 98, 0, 0), (98, .iinc 1 1, 3, 101, 0, 1), (101, .goto (-21), 3, 104, 80, 0), (104, .return_, 1, 105, 0, 0)]
def G_V_init : fw_G := (c_V_init, 2, W_V_init, R_V, rm_V_init, (Option.none : Option Jvm.ClassFile.FieldType), tab_V_init, y_V_init)
theorem tok_V_init : fw_tok c_V_init W_V_init R_V tab_V_init = true := by decide +kernel
theorem hv_V_init {T : fw_T} (h : TOK T) : HV T G_V_init R_V := ⟨rfl, h, fun x hx => List.mem_cons_of_mem _ hx⟩
theorem ct_V_init {T : fw_T} {l : Launch} {w : fw_W} {av : List fw_V} {post : Option fw_V → fw_W → Prop} {L : List (Option fw_V)} (hL : L = av.map some ++ List.replicate (2 - av.length) none) (hlen : av.length ≤ 2) (kk : ∀ X : fw_X, xL X = l → fw_ok T G_V_init X → fw_ends T G_V_init X post → J T G_V_init X 0 L [] w 0 0) : Ct l T y_V_init W_V_init rm_V_init av w post := ct_of (G := G_V_init) c_V_init 2 R_V (Option.none : Option Jvm.ClassFile.FieldType) tab_V_init rfl (by decide +kernel) rfl rfl tok_V_init hL hlen kk
def tab_V_cell : List fw_I := [(0, .iload_n 1, 1, 1, 0, 0), (1, .invokestatic 51, 3, 4, 0, 0), (4, .ifCond .ne 5, 3, 7, 9, 0), (7, .iconst (-1), 1, 8, 0, (-1)), (8, .ireturn, 1, 9, 0, 0), (9, .aload_n 0, 1, 10, 0, 0), (10, .iconst 0, 1, 11, 0, 0), (11, .iload_n 1, 1, 12, 0, 0), (12, .aconst_null, 1, 13, 0, 0), (13, .invokevirtual 55, 3, 16, 0, 0), (16, .astore_n 2, 1, 17, 0, 0), (17, .aload_n 2, 1, 18, 0, 0), (18, .ifnonnull 8, 3, 21, 26, 0), (21, .bipush (-2), 2, 23, 0, (-2)), (23, .goto 7, 3, 26, 30, 0), (26, .aload_n 2, 1, 27, 0, 0), (27, .getfield 59, 3, 30, 0, 0), (30, .ireturn, 1, 31, 0, 0)]
def G_V_cell : fw_G := (c_V_cell, 3, W_V_cell, R_V, rm_V_cell, (Option.some Jvm.ClassFile.FieldType.int), tab_V_cell, y_V_cell)
theorem tok_V_cell : fw_tok c_V_cell W_V_cell R_V tab_V_cell = true := by decide +kernel
theorem hv_V_cell {T : fw_T} (h : TOK T) : HV T G_V_cell R_V := ⟨rfl, h, fun x hx => List.mem_cons_of_mem _ hx⟩
theorem ct_V_cell {T : fw_T} {l : Launch} {w : fw_W} {av : List fw_V} {post : Option fw_V → fw_W → Prop} {L : List (Option fw_V)} (hL : L = av.map some ++ List.replicate (3 - av.length) none) (hlen : av.length ≤ 3) (kk : ∀ X : fw_X, xL X = l → fw_ok T G_V_cell X → fw_ends T G_V_cell X post → J T G_V_cell X 0 L [] w 0 0) : Ct l T y_V_cell W_V_cell rm_V_cell av w post := ct_of (G := G_V_cell) c_V_cell 3 R_V (Option.some Jvm.ClassFile.FieldType.int) tab_V_cell rfl (by decide +kernel) rfl rfl tok_V_cell hL hlen kk
def tab_V_number : List fw_I := [(0, .aload_n 0, 1, 1, 0, 0), (1, .iload_n 1, 1, 2, 0, 0), (2, .invokevirtual 62, 3, 5, 0, 0), (5, .astore 4, 2, 7, 0, 0), (7, .aload 4, 2, 9, 0, 0), (9, .ifnull 10, 3, 12, 19, 0), (12, .iload_n 2, 1, 13, 0, 0), (13, .invokestatic 66, 3, 16, 0, 0), (16, .ifCond .ne 5, 3, 19, 21, 0), (19, .iconst 0, 1, 20, 0, 0), (20, .ireturn, 1, 21, 0, 0), (21, .aload 4, 2, 23, 0, 0), (23, .getfield 69, 3, 26, 0, 0), (26, .iload_n 2, 1, 27, 0, 0), (27, .iload_n 3, 1, 28, 0, 0), (28, .invokestatic 73, 3, 31, 0, 0), (31, .aastore, 1, 32, 0, 0), (32, .iconst 1, 1, 33, 0, 1), (33, .ireturn, 1, 34, 0, 0)]
def G_V_number : fw_G := (c_V_number, 5, W_V_number, R_V, rm_V_number, (Option.some Jvm.ClassFile.FieldType.boolean), tab_V_number, y_V_number)
theorem tok_V_number : fw_tok c_V_number W_V_number R_V tab_V_number = true := by decide +kernel
theorem hv_V_number {T : fw_T} (h : TOK T) : HV T G_V_number R_V := ⟨rfl, h, fun x hx => List.mem_cons_of_mem _ hx⟩
theorem ct_V_number {T : fw_T} {l : Launch} {w : fw_W} {av : List fw_V} {post : Option fw_V → fw_W → Prop} {L : List (Option fw_V)} (hL : L = av.map some ++ List.replicate (5 - av.length) none) (hlen : av.length ≤ 5) (kk : ∀ X : fw_X, xL X = l → fw_ok T G_V_number X → fw_ends T G_V_number X post → J T G_V_number X 0 L [] w 0 0) : Ct l T y_V_number W_V_number rm_V_number av w post := ct_of (G := G_V_number) c_V_number 5 R_V (Option.some Jvm.ClassFile.FieldType.boolean) tab_V_number rfl (by decide +kernel) rfl rfl tok_V_number hL hlen kk
def tab_V_introduce : List fw_I := [(0, .aload_n 0, 1, 1, 0, 0), (1, .iload_n 1, 1, 2, 0, 0), (2, .invokevirtual 62, 3, 5, 0, 0), (5, .astore 4, 2, 7, 0, 0), (7, .aload_n 0, 1, 8, 0, 0), (8, .iload_n 3, 1, 9, 0, 0), (9, .invokevirtual 77, 3, 12, 0, 0), (12, .astore 5, 2, 14, 0, 0), (14, .aload 4, 2, 16, 0, 0), (16, .ifnull 15, 3, 19, 31, 0), (19, .aload 5, 2, 21, 0, 0), (21, .ifnull 10, 3, 24, 31, 0), (24, .iload_n 2, 1, 25, 0, 0), (25, .invokestatic 66, 3, 28, 0, 0), (28, .ifCond .ne 5, 3, 31, 33, 0), (31, .iconst 0, 1, 32, 0, 0), (32, .ireturn, 1, 33, 0, 0), (33, .aload 4, 2, 35, 0, 0), (35, .getfield 69, 3, 38, 0, 0), (38, .iload_n 2, 1, 39, 0, 0), (39, .aload 5, 2, 41, 0, 0), (41, .getfield 80, 3, 44, 0, 0), (44, .aastore, 1, 45, 0, 0), (45, .iconst 1, 1, 46, 0, 1), (46, .ireturn, 1, 47, 0, 0)]
def G_V_introduce : fw_G := (c_V_introduce, 6, W_V_introduce, R_V, rm_V_introduce, (Option.some Jvm.ClassFile.FieldType.boolean), tab_V_introduce, y_V_introduce)
theorem tok_V_introduce : fw_tok c_V_introduce W_V_introduce R_V tab_V_introduce = true := by decide +kernel
theorem hv_V_introduce {T : fw_T} (h : TOK T) : HV T G_V_introduce R_V := ⟨rfl, h, fun x hx => List.mem_cons_of_mem _ hx⟩
theorem ct_V_introduce {T : fw_T} {l : Launch} {w : fw_W} {av : List fw_V} {post : Option fw_V → fw_W → Prop} {L : List (Option fw_V)} (hL : L = av.map some ++ List.replicate (6 - av.length) none) (hlen : av.length ≤ 6) (kk : ∀ X : fw_X, xL X = l → fw_ok T G_V_introduce X → fw_ends T G_V_introduce X post → J T G_V_introduce X 0 L [] w 0 0) : Ct l T y_V_introduce W_V_introduce rm_V_introduce av w post := ct_of (G := G_V_introduce) c_V_introduce 6 R_V (Option.some Jvm.ClassFile.FieldType.boolean) tab_V_introduce rfl (by decide +kernel) rfl rfl tok_V_introduce hL hlen kk
def tab_V_send : List fw_I := [(0, .aload_n 0, 1, 1, 0, 0), (1, .iload_n 1, 1, 2, 0, 0), (2, .invokevirtual 62, 3, 5, 0, 0), (5, .astore 6, 2, 7, 0, 0), (7, .aload 6, 2, 9, 0, 0), (9, .ifnull 20, 3, 12, 29, 0), (12, .iload_n 2, 1, 13, 0, 0), (13, .invokestatic 66, 3, 16, 0, 0), (16, .ifCond .eq 13, 3, 19, 29, 0), (19, .iload_n 3, 1, 20, 0, 0), (20, .ifCond .lt 9, 3, 23, 29, 0), (23, .iload_n 3, 1, 24, 0, 0), (24, .bipush 16, 2, 26, 0, 16), (26, .if_icmp .lt 5, 3, 29, 31, 0), (29, .iconst (-1), 1, 30, 0, (-1)), (30, .ireturn, 1, 31, 0, 0), (31, .iload 4, 2, 33, 0, 0), (33, .invokestatic 83, 3, 36, 0, 0), (36, .ifCond .eq 11, 3, 39, 47, 0), (39, .iload 5, 2, 41, 0, 0), (41, .invokestatic 83, 3, 44, 0, 0), (44, .ifCond .ne 5, 3, 47, 49, 0), (47, .iconst (-1), 1, 48, 0, (-1)), (48, .ireturn, 1, 49, 0, 0), (49, .aload_n 0, 1, 50, 0, 0), (50, .getfield 37, 3, 53, 0, 0), (53, .sipush 200, 3, 56, 0, 200), (56, .if_icmp .lt 6, 3, 59, 62, 0), (59, .bipush (-2), 2, 61, 0, (-2)), (61, .ireturn, 1, 62, 0, 0), (62, .iload 4, 2, 64, 0, 0), (64, .iconst (-1), 1, 65, 0, (-1)), (65, .if_icmp .ne 10, 3, 68, 75, 0), (68, .aload_n 0, 1, 69, 0, 0), (69, .getfield 14, 3, 72, 0, 0), (72, .goto 11, 3, 75, 83, 0), (75, .aload 6, 2, 77, 0, 0), (77, .getfield 69, 3, 80, 0, 0), (80, .iload 4, 2, 82, 0, 0), (82, .aaload, 1, 83, 0, 0), (83, .astore 7, 2, 85, 0, 0), (85, .new 31, 3, 88, 0, 0), (88, .dup, 1, 89, 0, 0), (89, .aload_n 0, 1, 90, 0, 0), (90, .getfield 37, 3, 93, 0, 0), (93, .aload 6, 2, 95, 0, 0), (95, .getfield 69, 3, 98, 0, 0), (98, .iload_n 2, 1, 99, 0, 0), (99, .aaload, 1, 100, 0, 0), (100, .iload_n 3, 1, 101, 0, 0), (101, .aload 7, 2, 103, 0, 0), (103, .invokespecial 86, 3, 106, 0, 0), (106, .astore 8, 2, 108, 0, 0), (108, .aload_n 0, 1, 109, 0, 0), (109, .getfield 33, 3, 112, 0, 0), (112, .aload_n 0, 1, 113, 0, 0), (113, .getfield 37, 3, 116, 0, 0), (116, .aload 8, 2, 118, 0, 0), (118, .aastore, 1, 119, 0, 0), (119, .aload_n 0, 1, 120, 0, 0), (120, .dup, 1, 121, 0, 0), (121, .getfield 37, 3, 124, 0, 0), (124, .iconst 1, 1, 125, 0, 1), (125, .iadd, 1, 126, 0, 0), (126, .putfield 37, 3, 129, 0, 0), (129, .iload 5, 2, 131, 0, 0), (131, .iconst (-1), 1, 132, 0, (-1)), (132, .if_icmp .eq 16, 3, 135, 148, 0), (135, .aload 6, 2, 137, 0, 0), (137, .getfield 69, 3, 140, 0, 0), (140, .iload 5, 2, 142, 0, 0), (142, .aload 8, 2, 144, 0, 0), (144, .getfield 89, 3, 147, 0, 0), (147, .aastore, 1, 148, 0, 0), (148, .aload_n 0, 1, 149, 0, 0), (149, .getfield 47, 3, 152, 0, 0), (152, .aload 8, 2, 154, 0, 0), (154, .invokevirtual 92, 3, 157, 0, 0), (157, .aload_n 0, 1, 158, 0, 0), (158, .invokevirtual 96, 3, 161, 0, 0), (161, .aload 8, 2, 163, 0, 0), (163, .getfield 99, 3, 166, 0, 0), (166, .ireturn, 1, 167, 0, 0)]
def G_V_send : fw_G := (c_V_send, 9, W_V_send, R_V, rm_V_send, (Option.some Jvm.ClassFile.FieldType.int), tab_V_send, y_V_send)
theorem tok_V_send : fw_tok c_V_send W_V_send R_V tab_V_send = true := by decide +kernel
theorem hv_V_send {T : fw_T} (h : TOK T) : HV T G_V_send R_V := ⟨rfl, h, fun x hx => List.mem_cons_of_mem _ hx⟩
theorem ct_V_send {T : fw_T} {l : Launch} {w : fw_W} {av : List fw_V} {post : Option fw_V → fw_W → Prop} {L : List (Option fw_V)} (hL : L = av.map some ++ List.replicate (9 - av.length) none) (hlen : av.length ≤ 9) (kk : ∀ X : fw_X, xL X = l → fw_ok T G_V_send X → fw_ends T G_V_send X post → J T G_V_send X 0 L [] w 0 0) : Ct l T y_V_send W_V_send rm_V_send av w post := ct_of (G := G_V_send) c_V_send 9 R_V (Option.some Jvm.ClassFile.FieldType.int) tab_V_send rfl (by decide +kernel) rfl rfl tok_V_send hL hlen kk
def tab_V_turn : List fw_I := [(0, .iload_n 1, 1, 1, 0, 0), (1, .invokestatic 51, 3, 4, 0, 0), (4, .ifCond .ne 5, 3, 7, 9, 0), (7, .iconst (-1), 1, 8, 0, (-1)), (8, .ireturn, 1, 9, 0, 0), (9, .aload_n 0, 1, 10, 0, 0), (10, .getfield 42, 3, 13, 0, 0), (13, .iload_n 1, 1, 14, 0, 0), (14, .aaload, 1, 15, 0, 0), (15, .invokevirtual 100, 3, 18, 0, 0), (18, .astore_n 2, 1, 19, 0, 0), (19, .aload_n 2, 1, 20, 0, 0), (20, .ifnonnull 6, 3, 23, 26, 0), (23, .bipush (-3), 2, 25, 0, (-3)), (25, .ireturn, 1, 26, 0, 0), (26, .aload_n 0, 1, 27, 0, 0), (27, .aload_n 2, 1, 28, 0, 0), (28, .getfield 104, 3, 31, 0, 0), (31, .invokevirtual 107, 3, 34, 0, 0), (34, .astore_n 3, 1, 35, 0, 0), (35, .aload_n 3, 1, 36, 0, 0), (36, .ifnull 20, 3, 39, 56, 0), (39, .aload_n 3, 1, 40, 0, 0), (40, .aload_n 2, 1, 41, 0, 0), (41, .invokestatic 111, 3, 44, 0, 0), (44, .ifCond .eq 12, 3, 47, 56, 0), (47, .aload_n 0, 1, 48, 0, 0), (48, .aload_n 3, 1, 49, 0, 0), (49, .aload_n 2, 1, 50, 0, 0), (50, .invokevirtual 115, 3, 53, 0, 0), (53, .goto 19, 3, 56, 72, 0), (56, .aload_n 0, 1, 57, 0, 0), (57, .aload_n 2, 1, 58, 0, 0), (58, .aload_n 0, 1, 59, 0, 0), (59, .aload_n 0, 1, 60, 0, 0), (60, .aload_n 3, 1, 61, 0, 0), (61, .aload_n 2, 1, 62, 0, 0), (62, .invokevirtual 119, 3, 65, 0, 0), (65, .aload_n 2, 1, 66, 0, 0), (66, .invokevirtual 123, 3, 69, 0, 0), (69, .invokevirtual 127, 3, 72, 0, 0), (72, .aload_n 0, 1, 73, 0, 0), (73, .invokevirtual 96, 3, 76, 0, 0), (76, .aload_n 2, 1, 77, 0, 0), (77, .getfield 99, 3, 80, 0, 0), (80, .ireturn, 1, 81, 0, 0)]
def G_V_turn : fw_G := (c_V_turn, 4, W_V_turn, R_V, rm_V_turn, (Option.some Jvm.ClassFile.FieldType.int), tab_V_turn, y_V_turn)
theorem tok_V_turn : fw_tok c_V_turn W_V_turn R_V tab_V_turn = true := by decide +kernel
theorem hv_V_turn {T : fw_T} (h : TOK T) : HV T G_V_turn R_V := ⟨rfl, h, fun x hx => List.mem_cons_of_mem _ hx⟩
theorem ct_V_turn {T : fw_T} {l : Launch} {w : fw_W} {av : List fw_V} {post : Option fw_V → fw_W → Prop} {L : List (Option fw_V)} (hL : L = av.map some ++ List.replicate (4 - av.length) none) (hlen : av.length ≤ 4) (kk : ∀ X : fw_X, xL X = l → fw_ok T G_V_turn X → fw_ends T G_V_turn X post → J T G_V_turn X 0 L [] w 0 0) : Ct l T y_V_turn W_V_turn rm_V_turn av w post := ct_of (G := G_V_turn) c_V_turn 4 R_V (Option.some Jvm.ClassFile.FieldType.int) tab_V_turn rfl (by decide +kernel) rfl rfl tok_V_turn hL hlen kk
def tab_V_objects : List fw_I := [(0, .aload_n 0, 1, 1, 0, 0), (1, .getfield 27, 3, 4, 0, 0), (4, .ireturn, 1, 5, 0, 0)]
def G_V_objects : fw_G := (c_V_objects, 1, W_V_objects, R_V, rm_V_objects, (Option.some Jvm.ClassFile.FieldType.int), tab_V_objects, y_V_objects)
theorem tok_V_objects : fw_tok c_V_objects W_V_objects R_V tab_V_objects = true := by decide +kernel
theorem hv_V_objects {T : fw_T} (h : TOK T) : HV T G_V_objects R_V := ⟨rfl, h, fun x hx => List.mem_cons_of_mem _ hx⟩
theorem ct_V_objects {T : fw_T} {l : Launch} {w : fw_W} {av : List fw_V} {post : Option fw_V → fw_W → Prop} {L : List (Option fw_V)} (hL : L = av.map some ++ List.replicate (1 - av.length) none) (hlen : av.length ≤ 1) (kk : ∀ X : fw_X, xL X = l → fw_ok T G_V_objects X → fw_ends T G_V_objects X post → J T G_V_objects X 0 L [] w 0 0) : Ct l T y_V_objects W_V_objects rm_V_objects av w post := ct_of (G := G_V_objects) c_V_objects 1 R_V (Option.some Jvm.ClassFile.FieldType.int) tab_V_objects rfl (by decide +kernel) rfl rfl tok_V_objects hL hlen kk
def tab_V_kind : List fw_I := [(0, .aload_n 0, 1, 1, 0, 0), (1, .iload_n 1, 1, 2, 0, 0), (2, .invokevirtual 77, 3, 5, 0, 0), (5, .astore_n 2, 1, 6, 0, 0), (6, .aload_n 2, 1, 7, 0, 0), (7, .ifnonnull 7, 3, 10, 14, 0), (10, .iconst (-1), 1, 11, 0, (-1)), (11, .goto 7, 3, 14, 18, 0), (14, .aload_n 2, 1, 15, 0, 0), (15, .getfield 131, 3, 18, 0, 0), (18, .ireturn, 1, 19, 0, 0)]
def G_V_kind : fw_G := (c_V_kind, 3, W_V_kind, R_V, rm_V_kind, (Option.some Jvm.ClassFile.FieldType.int), tab_V_kind, y_V_kind)
theorem tok_V_kind : fw_tok c_V_kind W_V_kind R_V tab_V_kind = true := by decide +kernel
theorem hv_V_kind {T : fw_T} (h : TOK T) : HV T G_V_kind R_V := ⟨rfl, h, fun x hx => List.mem_cons_of_mem _ hx⟩
theorem ct_V_kind {T : fw_T} {l : Launch} {w : fw_W} {av : List fw_V} {post : Option fw_V → fw_W → Prop} {L : List (Option fw_V)} (hL : L = av.map some ++ List.replicate (3 - av.length) none) (hlen : av.length ≤ 3) (kk : ∀ X : fw_X, xL X = l → fw_ok T G_V_kind X → fw_ends T G_V_kind X post → J T G_V_kind X 0 L [] w 0 0) : Ct l T y_V_kind W_V_kind rm_V_kind av w post := ct_of (G := G_V_kind) c_V_kind 3 R_V (Option.some Jvm.ClassFile.FieldType.int) tab_V_kind rfl (by decide +kernel) rfl rfl tok_V_kind hL hlen kk
def tab_V_home : List fw_I := [(0, .aload_n 0, 1, 1, 0, 0), (1, .iload_n 1, 1, 2, 0, 0), (2, .invokevirtual 77, 3, 5, 0, 0), (5, .astore_n 2, 1, 6, 0, 0), (6, .aload_n 2, 1, 7, 0, 0), (7, .ifnonnull 7, 3, 10, 14, 0), (10, .iconst (-1), 1, 11, 0, (-1)), (11, .goto 7, 3, 14, 18, 0), (14, .aload_n 2, 1, 15, 0, 0), (15, .getfield 134, 3, 18, 0, 0), (18, .ireturn, 1, 19, 0, 0)]
def G_V_home : fw_G := (c_V_home, 3, W_V_home, R_V, rm_V_home, (Option.some Jvm.ClassFile.FieldType.int), tab_V_home, y_V_home)
theorem tok_V_home : fw_tok c_V_home W_V_home R_V tab_V_home = true := by decide +kernel
theorem hv_V_home {T : fw_T} (h : TOK T) : HV T G_V_home R_V := ⟨rfl, h, fun x hx => List.mem_cons_of_mem _ hx⟩
theorem ct_V_home {T : fw_T} {l : Launch} {w : fw_W} {av : List fw_V} {post : Option fw_V → fw_W → Prop} {L : List (Option fw_V)} (hL : L = av.map some ++ List.replicate (3 - av.length) none) (hlen : av.length ≤ 3) (kk : ∀ X : fw_X, xL X = l → fw_ok T G_V_home X → fw_ends T G_V_home X post → J T G_V_home X 0 L [] w 0 0) : Ct l T y_V_home W_V_home rm_V_home av w post := ct_of (G := G_V_home) c_V_home 3 R_V (Option.some Jvm.ClassFile.FieldType.int) tab_V_home rfl (by decide +kernel) rfl rfl tok_V_home hL hlen kk
def tab_V_what : List fw_I := [(0, .aload_n 0, 1, 1, 0, 0), (1, .iload_n 1, 1, 2, 0, 0), (2, .iload_n 2, 1, 3, 0, 0), (3, .invokevirtual 137, 3, 6, 0, 0), (6, .astore_n 3, 1, 7, 0, 0), (7, .aload_n 3, 1, 8, 0, 0), (8, .ifnonnull 7, 3, 11, 15, 0), (11, .iconst (-1), 1, 12, 0, (-1)), (12, .goto 7, 3, 15, 19, 0), (15, .aload_n 3, 1, 16, 0, 0), (16, .getfield 141, 3, 19, 0, 0), (19, .ireturn, 1, 20, 0, 0)]
def G_V_what : fw_G := (c_V_what, 4, W_V_what, R_V, rm_V_what, (Option.some Jvm.ClassFile.FieldType.int), tab_V_what, y_V_what)
theorem tok_V_what : fw_tok c_V_what W_V_what R_V tab_V_what = true := by decide +kernel
theorem hv_V_what {T : fw_T} (h : TOK T) : HV T G_V_what R_V := ⟨rfl, h, fun x hx => List.mem_cons_of_mem _ hx⟩
theorem ct_V_what {T : fw_T} {l : Launch} {w : fw_W} {av : List fw_V} {post : Option fw_V → fw_W → Prop} {L : List (Option fw_V)} (hL : L = av.map some ++ List.replicate (4 - av.length) none) (hlen : av.length ≤ 4) (kk : ∀ X : fw_X, xL X = l → fw_ok T G_V_what X → fw_ends T G_V_what X post → J T G_V_what X 0 L [] w 0 0) : Ct l T y_V_what W_V_what rm_V_what av w post := ct_of (G := G_V_what) c_V_what 4 R_V (Option.some Jvm.ClassFile.FieldType.int) tab_V_what rfl (by decide +kernel) rfl rfl tok_V_what hL hlen kk
def tab_V_which : List fw_I := [(0, .aload_n 0, 1, 1, 0, 0), (1, .iload_n 1, 1, 2, 0, 0), (2, .iload_n 2, 1, 3, 0, 0), (3, .invokevirtual 137, 3, 6, 0, 0), (6, .astore_n 3, 1, 7, 0, 0), (7, .aload_n 3, 1, 8, 0, 0), (8, .ifnonnull 7, 3, 11, 15, 0), (11, .iconst 0, 1, 12, 0, 0), (12, .goto 7, 3, 15, 19, 0), (15, .aload_n 3, 1, 16, 0, 0), (16, .getfield 144, 3, 19, 0, 0), (19, .ireturn, 1, 20, 0, 0)]
def G_V_which : fw_G := (c_V_which, 4, W_V_which, R_V, rm_V_which, (Option.some Jvm.ClassFile.FieldType.int), tab_V_which, y_V_which)
theorem tok_V_which : fw_tok c_V_which W_V_which R_V tab_V_which = true := by decide +kernel
theorem hv_V_which {T : fw_T} (h : TOK T) : HV T G_V_which R_V := ⟨rfl, h, fun x hx => List.mem_cons_of_mem _ hx⟩
theorem ct_V_which {T : fw_T} {l : Launch} {w : fw_W} {av : List fw_V} {post : Option fw_V → fw_W → Prop} {L : List (Option fw_V)} (hL : L = av.map some ++ List.replicate (4 - av.length) none) (hlen : av.length ≤ 4) (kk : ∀ X : fw_X, xL X = l → fw_ok T G_V_which X → fw_ends T G_V_which X post → J T G_V_which X 0 L [] w 0 0) : Ct l T y_V_which W_V_which rm_V_which av w post := ct_of (G := G_V_which) c_V_which 4 R_V (Option.some Jvm.ClassFile.FieldType.int) tab_V_which rfl (by decide +kernel) rfl rfl tok_V_which hL hlen kk
def tab_V_detail : List fw_I := [(0, .aload_n 0, 1, 1, 0, 0), (1, .iload_n 1, 1, 2, 0, 0), (2, .invokevirtual 77, 3, 5, 0, 0), (5, .astore_n 3, 1, 6, 0, 0), (6, .aload_n 3, 1, 7, 0, 0), (7, .ifnull 12, 3, 10, 19, 0), (10, .iload_n 2, 1, 11, 0, 0), (11, .ifCond .lt 8, 3, 14, 19, 0), (14, .iload_n 2, 1, 15, 0, 0), (15, .iconst 1, 1, 16, 0, 1), (16, .if_icmp .le 5, 3, 19, 21, 0), (19, .iconst (-1), 1, 20, 0, (-1)), (20, .ireturn, 1, 21, 0, 0), (21, .iload_n 2, 1, 22, 0, 0), (22, .ifCond .ne 10, 3, 25, 32, 0), (25, .aload_n 3, 1, 26, 0, 0), (26, .invokestatic 147, 3, 29, 0, 0), (29, .goto 7, 3, 32, 36, 0), (32, .aload_n 3, 1, 33, 0, 0), (33, .invokestatic 151, 3, 36, 0, 0), (36, .ireturn, 1, 37, 0, 0)]
def G_V_detail : fw_G := (c_V_detail, 4, W_V_detail, R_V, rm_V_detail, (Option.some Jvm.ClassFile.FieldType.int), tab_V_detail, y_V_detail)
theorem tok_V_detail : fw_tok c_V_detail W_V_detail R_V tab_V_detail = true := by decide +kernel
theorem hv_V_detail {T : fw_T} (h : TOK T) : HV T G_V_detail R_V := ⟨rfl, h, fun x hx => List.mem_cons_of_mem _ hx⟩
theorem ct_V_detail {T : fw_T} {l : Launch} {w : fw_W} {av : List fw_V} {post : Option fw_V → fw_W → Prop} {L : List (Option fw_V)} (hL : L = av.map some ++ List.replicate (4 - av.length) none) (hlen : av.length ≤ 4) (kk : ∀ X : fw_X, xL X = l → fw_ok T G_V_detail X → fw_ends T G_V_detail X post → J T G_V_detail X 0 L [] w 0 0) : Ct l T y_V_detail W_V_detail rm_V_detail av w post := ct_of (G := G_V_detail) c_V_detail 4 R_V (Option.some Jvm.ClassFile.FieldType.int) tab_V_detail rfl (by decide +kernel) rfl rfl tok_V_detail hL hlen kk
def tab_V_messages : List fw_I := [(0, .aload_n 0, 1, 1, 0, 0), (1, .getfield 37, 3, 4, 0, 0), (4, .ireturn, 1, 5, 0, 0)]
def G_V_messages : fw_G := (c_V_messages, 1, W_V_messages, R_V, rm_V_messages, (Option.some Jvm.ClassFile.FieldType.int), tab_V_messages, y_V_messages)
theorem tok_V_messages : fw_tok c_V_messages W_V_messages R_V tab_V_messages = true := by decide +kernel
theorem hv_V_messages {T : fw_T} (h : TOK T) : HV T G_V_messages R_V := ⟨rfl, h, fun x hx => List.mem_cons_of_mem _ hx⟩
theorem ct_V_messages {T : fw_T} {l : Launch} {w : fw_W} {av : List fw_V} {post : Option fw_V → fw_W → Prop} {L : List (Option fw_V)} (hL : L = av.map some ++ List.replicate (1 - av.length) none) (hlen : av.length ≤ 1) (kk : ∀ X : fw_X, xL X = l → fw_ok T G_V_messages X → fw_ends T G_V_messages X post → J T G_V_messages X 0 L [] w 0 0) : Ct l T y_V_messages W_V_messages rm_V_messages av w post := ct_of (G := G_V_messages) c_V_messages 1 R_V (Option.some Jvm.ClassFile.FieldType.int) tab_V_messages rfl (by decide +kernel) rfl rfl tok_V_messages hL hlen kk
def tab_V_place : List fw_I := [(0, .aload_n 0, 1, 1, 0, 0), (1, .iload_n 1, 1, 2, 0, 0), (2, .invokevirtual 154, 3, 5, 0, 0), (5, .astore_n 2, 1, 6, 0, 0), (6, .aload_n 2, 1, 7, 0, 0), (7, .ifnonnull 7, 3, 10, 14, 0), (10, .iconst (-1), 1, 11, 0, (-1)), (11, .goto 7, 3, 14, 18, 0), (14, .aload_n 2, 1, 15, 0, 0), (15, .getfield 158, 3, 18, 0, 0), (18, .ireturn, 1, 19, 0, 0)]
def G_V_place : fw_G := (c_V_place, 3, W_V_place, R_V, rm_V_place, (Option.some Jvm.ClassFile.FieldType.int), tab_V_place, y_V_place)
theorem tok_V_place : fw_tok c_V_place W_V_place R_V tab_V_place = true := by decide +kernel
theorem hv_V_place {T : fw_T} (h : TOK T) : HV T G_V_place R_V := ⟨rfl, h, fun x hx => List.mem_cons_of_mem _ hx⟩
theorem ct_V_place {T : fw_T} {l : Launch} {w : fw_W} {av : List fw_V} {post : Option fw_V → fw_W → Prop} {L : List (Option fw_V)} (hL : L = av.map some ++ List.replicate (3 - av.length) none) (hlen : av.length ≤ 3) (kk : ∀ X : fw_X, xL X = l → fw_ok T G_V_place X → fw_ends T G_V_place X post → J T G_V_place X 0 L [] w 0 0) : Ct l T y_V_place W_V_place rm_V_place av w post := ct_of (G := G_V_place) c_V_place 3 R_V (Option.some Jvm.ClassFile.FieldType.int) tab_V_place rfl (by decide +kernel) rfl rfl tok_V_place hL hlen kk
def tab_V_result : List fw_I := [(0, .aload_n 0, 1, 1, 0, 0), (1, .iload_n 1, 1, 2, 0, 0), (2, .invokevirtual 154, 3, 5, 0, 0), (5, .astore_n 2, 1, 6, 0, 0), (6, .aload_n 2, 1, 7, 0, 0), (7, .ifnonnull 7, 3, 10, 14, 0), (10, .iconst (-1), 1, 11, 0, (-1)), (11, .goto 14, 3, 14, 25, 0), (14, .aload_n 0, 1, 15, 0, 0), (15, .aload_n 2, 1, 16, 0, 0), (16, .getfield 89, 3, 19, 0, 0), (19, .invokevirtual 161, 3, 22, 0, 0), (22, .getfield 141, 3, 25, 0, 0), (25, .ireturn, 1, 26, 0, 0)]
def G_V_result : fw_G := (c_V_result, 3, W_V_result, R_V, rm_V_result, (Option.some Jvm.ClassFile.FieldType.int), tab_V_result, y_V_result)
theorem tok_V_result : fw_tok c_V_result W_V_result R_V tab_V_result = true := by decide +kernel
theorem hv_V_result {T : fw_T} (h : TOK T) : HV T G_V_result R_V := ⟨rfl, h, fun x hx => List.mem_cons_of_mem _ hx⟩
theorem ct_V_result {T : fw_T} {l : Launch} {w : fw_W} {av : List fw_V} {post : Option fw_V → fw_W → Prop} {L : List (Option fw_V)} (hL : L = av.map some ++ List.replicate (3 - av.length) none) (hlen : av.length ≤ 3) (kk : ∀ X : fw_X, xL X = l → fw_ok T G_V_result X → fw_ends T G_V_result X post → J T G_V_result X 0 L [] w 0 0) : Ct l T y_V_result W_V_result rm_V_result av w post := ct_of (G := G_V_result) c_V_result 3 R_V (Option.some Jvm.ClassFile.FieldType.int) tab_V_result rfl (by decide +kernel) rfl rfl tok_V_result hL hlen kk
def tab_V_value : List fw_I := [(0, .aload_n 0, 1, 1, 0, 0), (1, .iload_n 1, 1, 2, 0, 0), (2, .invokevirtual 154, 3, 5, 0, 0), (5, .astore_n 2, 1, 6, 0, 0), (6, .aload_n 2, 1, 7, 0, 0), (7, .ifnonnull 7, 3, 10, 14, 0), (10, .iconst 0, 1, 11, 0, 0), (11, .goto 14, 3, 14, 25, 0), (14, .aload_n 0, 1, 15, 0, 0), (15, .aload_n 2, 1, 16, 0, 0), (16, .getfield 89, 3, 19, 0, 0), (19, .invokevirtual 161, 3, 22, 0, 0), (22, .getfield 144, 3, 25, 0, 0), (25, .ireturn, 1, 26, 0, 0)]
def G_V_value : fw_G := (c_V_value, 3, W_V_value, R_V, rm_V_value, (Option.some Jvm.ClassFile.FieldType.int), tab_V_value, y_V_value)
theorem tok_V_value : fw_tok c_V_value W_V_value R_V tab_V_value = true := by decide +kernel
theorem hv_V_value {T : fw_T} (h : TOK T) : HV T G_V_value R_V := ⟨rfl, h, fun x hx => List.mem_cons_of_mem _ hx⟩
theorem ct_V_value {T : fw_T} {l : Launch} {w : fw_W} {av : List fw_V} {post : Option fw_V → fw_W → Prop} {L : List (Option fw_V)} (hL : L = av.map some ++ List.replicate (3 - av.length) none) (hlen : av.length ≤ 3) (kk : ∀ X : fw_X, xL X = l → fw_ok T G_V_value X → fw_ends T G_V_value X post → J T G_V_value X 0 L [] w 0 0) : Ct l T y_V_value W_V_value rm_V_value av w post := ct_of (G := G_V_value) c_V_value 3 R_V (Option.some Jvm.ClassFile.FieldType.int) tab_V_value rfl (by decide +kernel) rfl rfl tok_V_value hL hlen kk
def tab_V_queued : List fw_I := [(0, .iload_n 1, 1, 1, 0, 0), (1, .invokestatic 51, 3, 4, 0, 0), (4, .ifCond .eq 15, 3, 7, 19, 0), (7, .aload_n 0, 1, 8, 0, 0), (8, .getfield 42, 3, 11, 0, 0), (11, .iload_n 1, 1, 12, 0, 0), (12, .aaload, 1, 13, 0, 0), (13, .getfield 165, 3, 16, 0, 0), (16, .goto 4, 3, 19, 20, 0), (19, .iconst (-1), 1, 20, 0, (-1)), (20, .ireturn, 1, 21, 0, 0)]
def G_V_queued : fw_G := (c_V_queued, 2, W_V_queued, R_V, rm_V_queued, (Option.some Jvm.ClassFile.FieldType.int), tab_V_queued, y_V_queued)
theorem tok_V_queued : fw_tok c_V_queued W_V_queued R_V tab_V_queued = true := by decide +kernel
theorem hv_V_queued {T : fw_T} (h : TOK T) : HV T G_V_queued R_V := ⟨rfl, h, fun x hx => List.mem_cons_of_mem _ hx⟩
theorem ct_V_queued {T : fw_T} {l : Launch} {w : fw_W} {av : List fw_V} {post : Option fw_V → fw_W → Prop} {L : List (Option fw_V)} (hL : L = av.map some ++ List.replicate (2 - av.length) none) (hlen : av.length ≤ 2) (kk : ∀ X : fw_X, xL X = l → fw_ok T G_V_queued X → fw_ends T G_V_queued X post → J T G_V_queued X 0 L [] w 0 0) : Ct l T y_V_queued W_V_queued rm_V_queued av w post := ct_of (G := G_V_queued) c_V_queued 2 R_V (Option.some Jvm.ClassFile.FieldType.int) tab_V_queued rfl (by decide +kernel) rfl rfl tok_V_queued hL hlen kk
def tab_V_next : List fw_I := [(0, .iload_n 1, 1, 1, 0, 0), (1, .invokestatic 51, 3, 4, 0, 0), (4, .ifCond .ne 6, 3, 7, 10, 0), (7, .bipush (-3), 2, 9, 0, (-3)), (9, .ireturn, 1, 10, 0, 0), (10, .aload_n 0, 1, 11, 0, 0), (11, .getfield 42, 3, 14, 0, 0), (14, .iload_n 1, 1, 15, 0, 0), (15, .aaload, 1, 16, 0, 0), (16, .iload_n 2, 1, 17, 0, 0), (17, .invokevirtual 168, 3, 20, 0, 0), (20, .astore_n 3, 1, 21, 0, 0), (21, .aload_n 3, 1, 22, 0, 0), (22, .ifnonnull 8, 3, 25, 30, 0), (25, .bipush (-3), 2, 27, 0, (-3)), (27, .goto 7, 3, 30, 34, 0), (30, .aload_n 3, 1, 31, 0, 0), (31, .getfield 99, 3, 34, 0, 0), (34, .ireturn, 1, 35, 0, 0)]
def G_V_next : fw_G := (c_V_next, 4, W_V_next, R_V, rm_V_next, (Option.some Jvm.ClassFile.FieldType.int), tab_V_next, y_V_next)
theorem tok_V_next : fw_tok c_V_next W_V_next R_V tab_V_next = true := by decide +kernel
theorem hv_V_next {T : fw_T} (h : TOK T) : HV T G_V_next R_V := ⟨rfl, h, fun x hx => List.mem_cons_of_mem _ hx⟩
theorem ct_V_next {T : fw_T} {l : Launch} {w : fw_W} {av : List fw_V} {post : Option fw_V → fw_W → Prop} {L : List (Option fw_V)} (hL : L = av.map some ++ List.replicate (4 - av.length) none) (hlen : av.length ≤ 4) (kk : ∀ X : fw_X, xL X = l → fw_ok T G_V_next X → fw_ends T G_V_next X post → J T G_V_next X 0 L [] w 0 0) : Ct l T y_V_next W_V_next rm_V_next av w post := ct_of (G := G_V_next) c_V_next 4 R_V (Option.some Jvm.ClassFile.FieldType.int) tab_V_next rfl (by decide +kernel) rfl rfl tok_V_next hL hlen kk
def tab_V_waiting : List fw_I := [(0, .aload_n 0, 1, 1, 0, 0), (1, .iload_n 1, 1, 2, 0, 0), (2, .invokevirtual 154, 3, 5, 0, 0), (5, .astore_n 2, 1, 6, 0, 0), (6, .aload_n 2, 1, 7, 0, 0), (7, .ifnonnull 7, 3, 10, 14, 0), (10, .iconst (-1), 1, 11, 0, (-1)), (11, .goto 10, 3, 14, 21, 0), (14, .aload_n 2, 1, 15, 0, 0), (15, .getfield 171, 3, 18, 0, 0), (18, .getfield 165, 3, 21, 0, 0), (21, .ireturn, 1, 22, 0, 0)]
def G_V_waiting : fw_G := (c_V_waiting, 3, W_V_waiting, R_V, rm_V_waiting, (Option.some Jvm.ClassFile.FieldType.int), tab_V_waiting, y_V_waiting)
theorem tok_V_waiting : fw_tok c_V_waiting W_V_waiting R_V tab_V_waiting = true := by decide +kernel
theorem hv_V_waiting {T : fw_T} (h : TOK T) : HV T G_V_waiting R_V := ⟨rfl, h, fun x hx => List.mem_cons_of_mem _ hx⟩
theorem ct_V_waiting {T : fw_T} {l : Launch} {w : fw_W} {av : List fw_V} {post : Option fw_V → fw_W → Prop} {L : List (Option fw_V)} (hL : L = av.map some ++ List.replicate (3 - av.length) none) (hlen : av.length ≤ 3) (kk : ∀ X : fw_X, xL X = l → fw_ok T G_V_waiting X → fw_ends T G_V_waiting X post → J T G_V_waiting X 0 L [] w 0 0) : Ct l T y_V_waiting W_V_waiting rm_V_waiting av w post := ct_of (G := G_V_waiting) c_V_waiting 3 R_V (Option.some Jvm.ClassFile.FieldType.int) tab_V_waiting rfl (by decide +kernel) rfl rfl tok_V_waiting hL hlen kk
def tab_V_notes : List fw_I := [(0, .aload_n 0, 1, 1, 0, 0), (1, .iload_n 1, 1, 2, 0, 0), (2, .invokevirtual 154, 3, 5, 0, 0), (5, .astore_n 2, 1, 6, 0, 0), (6, .aload_n 2, 1, 7, 0, 0), (7, .ifnonnull 7, 3, 10, 14, 0), (10, .iconst (-1), 1, 11, 0, (-1)), (11, .goto 7, 3, 14, 18, 0), (14, .aload_n 2, 1, 15, 0, 0), (15, .getfield 174, 3, 18, 0, 0), (18, .ireturn, 1, 19, 0, 0)]
def G_V_notes : fw_G := (c_V_notes, 3, W_V_notes, R_V, rm_V_notes, (Option.some Jvm.ClassFile.FieldType.int), tab_V_notes, y_V_notes)
theorem tok_V_notes : fw_tok c_V_notes W_V_notes R_V tab_V_notes = true := by decide +kernel
theorem hv_V_notes {T : fw_T} (h : TOK T) : HV T G_V_notes R_V := ⟨rfl, h, fun x hx => List.mem_cons_of_mem _ hx⟩
theorem ct_V_notes {T : fw_T} {l : Launch} {w : fw_W} {av : List fw_V} {post : Option fw_V → fw_W → Prop} {L : List (Option fw_V)} (hL : L = av.map some ++ List.replicate (3 - av.length) none) (hlen : av.length ≤ 3) (kk : ∀ X : fw_X, xL X = l → fw_ok T G_V_notes X → fw_ends T G_V_notes X post → J T G_V_notes X 0 L [] w 0 0) : Ct l T y_V_notes W_V_notes rm_V_notes av w post := ct_of (G := G_V_notes) c_V_notes 3 R_V (Option.some Jvm.ClassFile.FieldType.int) tab_V_notes rfl (by decide +kernel) rfl rfl tok_V_notes hL hlen kk
def tab_V_isVat : List fw_I := [(0, .iload_n 0, 1, 1, 0, 0), (1, .ifCond .lt 12, 3, 4, 13, 0), (4, .iload_n 0, 1, 5, 0, 0), (5, .iconst 3, 1, 6, 0, 3), (6, .if_icmp .ge 7, 3, 9, 13, 0), (9, .iconst 1, 1, 10, 0, 1), (10, .goto 4, 3, 13, 14, 0), (13, .iconst 0, 1, 14, 0, 0), (14, .ireturn, 1, 15, 0, 0)]
def G_V_isVat : fw_G := (c_V_isVat, 1, W_V_isVat, R_V, rm_V_isVat, (Option.some Jvm.ClassFile.FieldType.boolean), tab_V_isVat, y_V_isVat)
theorem tok_V_isVat : fw_tok c_V_isVat W_V_isVat R_V tab_V_isVat = true := by decide +kernel
theorem hv_V_isVat {T : fw_T} (h : TOK T) : HV T G_V_isVat R_V := ⟨rfl, h, fun x hx => List.mem_cons_of_mem _ hx⟩
theorem ct_V_isVat {T : fw_T} {l : Launch} {w : fw_W} {av : List fw_V} {post : Option fw_V → fw_W → Prop} {L : List (Option fw_V)} (hL : L = av.map some ++ List.replicate (1 - av.length) none) (hlen : av.length ≤ 1) (kk : ∀ X : fw_X, xL X = l → fw_ok T G_V_isVat X → fw_ends T G_V_isVat X post → J T G_V_isVat X 0 L [] w 0 0) : Ct l T y_V_isVat W_V_isVat rm_V_isVat av w post := ct_of (G := G_V_isVat) c_V_isVat 1 R_V (Option.some Jvm.ClassFile.FieldType.boolean) tab_V_isVat rfl (by decide +kernel) rfl rfl tok_V_isVat hL hlen kk
def tab_V_isSlot : List fw_I := [(0, .iload_n 0, 1, 1, 0, 0), (1, .ifCond .lt 12, 3, 4, 13, 0), (4, .iload_n 0, 1, 5, 0, 0), (5, .iconst 4, 1, 6, 0, 4), (6, .if_icmp .ge 7, 3, 9, 13, 0), (9, .iconst 1, 1, 10, 0, 1), (10, .goto 4, 3, 13, 14, 0), (13, .iconst 0, 1, 14, 0, 0), (14, .ireturn, 1, 15, 0, 0)]
def G_V_isSlot : fw_G := (c_V_isSlot, 1, W_V_isSlot, R_V, rm_V_isSlot, (Option.some Jvm.ClassFile.FieldType.boolean), tab_V_isSlot, y_V_isSlot)
theorem tok_V_isSlot : fw_tok c_V_isSlot W_V_isSlot R_V tab_V_isSlot = true := by decide +kernel
theorem hv_V_isSlot {T : fw_T} (h : TOK T) : HV T G_V_isSlot R_V := ⟨rfl, h, fun x hx => List.mem_cons_of_mem _ hx⟩
theorem ct_V_isSlot {T : fw_T} {l : Launch} {w : fw_W} {av : List fw_V} {post : Option fw_V → fw_W → Prop} {L : List (Option fw_V)} (hL : L = av.map some ++ List.replicate (1 - av.length) none) (hlen : av.length ≤ 1) (kk : ∀ X : fw_X, xL X = l → fw_ok T G_V_isSlot X → fw_ends T G_V_isSlot X post → J T G_V_isSlot X 0 L [] w 0 0) : Ct l T y_V_isSlot W_V_isSlot rm_V_isSlot av w post := ct_of (G := G_V_isSlot) c_V_isSlot 1 R_V (Option.some Jvm.ClassFile.FieldType.boolean) tab_V_isSlot rfl (by decide +kernel) rfl rfl tok_V_isSlot hL hlen kk
def tab_V_isSlotOrNone : List fw_I := [(0, .iload_n 0, 1, 1, 0, 0), (1, .iconst (-1), 1, 2, 0, (-1)), (2, .if_icmp .eq 10, 3, 5, 12, 0), (5, .iload_n 0, 1, 6, 0, 0), (6, .invokestatic 66, 3, 9, 0, 0), (9, .ifCond .eq 7, 3, 12, 16, 0), (12, .iconst 1, 1, 13, 0, 1), (13, .goto 4, 3, 16, 17, 0), (16, .iconst 0, 1, 17, 0, 0), (17, .ireturn, 1, 18, 0, 0)]
def G_V_isSlotOrNone : fw_G := (c_V_isSlotOrNone, 1, W_V_isSlotOrNone, R_V, rm_V_isSlotOrNone, (Option.some Jvm.ClassFile.FieldType.boolean), tab_V_isSlotOrNone, y_V_isSlotOrNone)
theorem tok_V_isSlotOrNone : fw_tok c_V_isSlotOrNone W_V_isSlotOrNone R_V tab_V_isSlotOrNone = true := by decide +kernel
theorem hv_V_isSlotOrNone {T : fw_T} (h : TOK T) : HV T G_V_isSlotOrNone R_V := ⟨rfl, h, fun x hx => List.mem_cons_of_mem _ hx⟩
theorem ct_V_isSlotOrNone {T : fw_T} {l : Launch} {w : fw_W} {av : List fw_V} {post : Option fw_V → fw_W → Prop} {L : List (Option fw_V)} (hL : L = av.map some ++ List.replicate (1 - av.length) none) (hlen : av.length ≤ 1) (kk : ∀ X : fw_X, xL X = l → fw_ok T G_V_isSlotOrNone X → fw_ends T G_V_isSlotOrNone X post → J T G_V_isSlotOrNone X 0 L [] w 0 0) : Ct l T y_V_isSlotOrNone W_V_isSlotOrNone rm_V_isSlotOrNone av w post := ct_of (G := G_V_isSlotOrNone) c_V_isSlotOrNone 1 R_V (Option.some Jvm.ClassFile.FieldType.boolean) tab_V_isSlotOrNone rfl (by decide +kernel) rfl rfl tok_V_isSlotOrNone hL hlen kk
def tab_V_thingAt : List fw_I := [(0, .iload_n 1, 1, 1, 0, 0), (1, .ifCond .lt 20, 3, 4, 21, 0), (4, .iload_n 1, 1, 5, 0, 0), (5, .aload_n 0, 1, 6, 0, 0), (6, .getfield 27, 3, 9, 0, 0), (9, .if_icmp .ge 12, 3, 12, 21, 0), (12, .aload_n 0, 1, 13, 0, 0), (13, .getfield 23, 3, 16, 0, 0), (16, .iload_n 1, 1, 17, 0, 0), (17, .aaload, 1, 18, 0, 0), (18, .goto 4, 3, 21, 22, 0), (21, .aconst_null, 1, 22, 0, 0), (22, .areturn, 1, 23, 0, 0)]
def G_V_thingAt : fw_G := (c_V_thingAt, 2, W_V_thingAt, R_V, rm_V_thingAt, (Option.some (Jvm.ClassFile.FieldType.object "CapabilityVats$Thing")), tab_V_thingAt, y_V_thingAt)
theorem tok_V_thingAt : fw_tok c_V_thingAt W_V_thingAt R_V tab_V_thingAt = true := by decide +kernel
theorem hv_V_thingAt {T : fw_T} (h : TOK T) : HV T G_V_thingAt R_V := ⟨rfl, h, fun x hx => List.mem_cons_of_mem _ hx⟩
theorem ct_V_thingAt {T : fw_T} {l : Launch} {w : fw_W} {av : List fw_V} {post : Option fw_V → fw_W → Prop} {L : List (Option fw_V)} (hL : L = av.map some ++ List.replicate (2 - av.length) none) (hlen : av.length ≤ 2) (kk : ∀ X : fw_X, xL X = l → fw_ok T G_V_thingAt X → fw_ends T G_V_thingAt X post → J T G_V_thingAt X 0 L [] w 0 0) : Ct l T y_V_thingAt W_V_thingAt rm_V_thingAt av w post := ct_of (G := G_V_thingAt) c_V_thingAt 2 R_V (Option.some (Jvm.ClassFile.FieldType.object "CapabilityVats$Thing")) tab_V_thingAt rfl (by decide +kernel) rfl rfl tok_V_thingAt hL hlen kk
def tab_V_cellAt : List fw_I := [(0, .aload_n 0, 1, 1, 0, 0), (1, .iload_n 1, 1, 2, 0, 0), (2, .invokevirtual 77, 3, 5, 0, 0), (5, .astore_n 2, 1, 6, 0, 0), (6, .aload_n 2, 1, 7, 0, 0), (7, .ifnull 14, 3, 10, 21, 0), (10, .aload_n 2, 1, 11, 0, 0), (11, .getfield 131, 3, 14, 0, 0), (14, .ifCond .ne 7, 3, 17, 21, 0), (17, .aload_n 2, 1, 18, 0, 0), (18, .goto 4, 3, 21, 22, 0), (21, .aconst_null, 1, 22, 0, 0), (22, .areturn, 1, 23, 0, 0)]
def G_V_cellAt : fw_G := (c_V_cellAt, 3, W_V_cellAt, R_V, rm_V_cellAt, (Option.some (Jvm.ClassFile.FieldType.object "CapabilityVats$Thing")), tab_V_cellAt, y_V_cellAt)
theorem tok_V_cellAt : fw_tok c_V_cellAt W_V_cellAt R_V tab_V_cellAt = true := by decide +kernel
theorem hv_V_cellAt {T : fw_T} (h : TOK T) : HV T G_V_cellAt R_V := ⟨rfl, h, fun x hx => List.mem_cons_of_mem _ hx⟩
theorem ct_V_cellAt {T : fw_T} {l : Launch} {w : fw_W} {av : List fw_V} {post : Option fw_V → fw_W → Prop} {L : List (Option fw_V)} (hL : L = av.map some ++ List.replicate (3 - av.length) none) (hlen : av.length ≤ 3) (kk : ∀ X : fw_X, xL X = l → fw_ok T G_V_cellAt X → fw_ends T G_V_cellAt X post → J T G_V_cellAt X 0 L [] w 0 0) : Ct l T y_V_cellAt W_V_cellAt rm_V_cellAt av w post := ct_of (G := G_V_cellAt) c_V_cellAt 3 R_V (Option.some (Jvm.ClassFile.FieldType.object "CapabilityVats$Thing")) tab_V_cellAt rfl (by decide +kernel) rfl rfl tok_V_cellAt hL hlen kk
def tab_V_messageAt : List fw_I := [(0, .iload_n 1, 1, 1, 0, 0), (1, .ifCond .lt 20, 3, 4, 21, 0), (4, .iload_n 1, 1, 5, 0, 0), (5, .aload_n 0, 1, 6, 0, 0), (6, .getfield 37, 3, 9, 0, 0), (9, .if_icmp .ge 12, 3, 12, 21, 0), (12, .aload_n 0, 1, 13, 0, 0), (13, .getfield 33, 3, 16, 0, 0), (16, .iload_n 1, 1, 17, 0, 0), (17, .aaload, 1, 18, 0, 0), (18, .goto 4, 3, 21, 22, 0), (21, .aconst_null, 1, 22, 0, 0), (22, .areturn, 1, 23, 0, 0)]
def G_V_messageAt : fw_G := (c_V_messageAt, 2, W_V_messageAt, R_V, rm_V_messageAt, (Option.some (Jvm.ClassFile.FieldType.object "CapabilityVats$Message")), tab_V_messageAt, y_V_messageAt)
theorem tok_V_messageAt : fw_tok c_V_messageAt W_V_messageAt R_V tab_V_messageAt = true := by decide +kernel
theorem hv_V_messageAt {T : fw_T} (h : TOK T) : HV T G_V_messageAt R_V := ⟨rfl, h, fun x hx => List.mem_cons_of_mem _ hx⟩
theorem ct_V_messageAt {T : fw_T} {l : Launch} {w : fw_W} {av : List fw_V} {post : Option fw_V → fw_W → Prop} {L : List (Option fw_V)} (hL : L = av.map some ++ List.replicate (2 - av.length) none) (hlen : av.length ≤ 2) (kk : ∀ X : fw_X, xL X = l → fw_ok T G_V_messageAt X → fw_ends T G_V_messageAt X post → J T G_V_messageAt X 0 L [] w 0 0) : Ct l T y_V_messageAt W_V_messageAt rm_V_messageAt av w post := ct_of (G := G_V_messageAt) c_V_messageAt 2 R_V (Option.some (Jvm.ClassFile.FieldType.object "CapabilityVats$Message")) tab_V_messageAt rfl (by decide +kernel) rfl rfl tok_V_messageAt hL hlen kk
def tab_V_heldAt : List fw_I := [(0, .aload_n 0, 1, 1, 0, 0), (1, .iload_n 1, 1, 2, 0, 0), (2, .invokevirtual 77, 3, 5, 0, 0), (5, .astore_n 3, 1, 6, 0, 0), (6, .aload_n 3, 1, 7, 0, 0), (7, .ifnonnull 5, 3, 10, 12, 0), (10, .aconst_null, 1, 11, 0, 0), (11, .areturn, 1, 12, 0, 0), (12, .aload_n 3, 1, 13, 0, 0), (13, .getfield 131, 3, 16, 0, 0), (16, .ifCond .ne 25, 3, 19, 41, 0), (19, .iload_n 2, 1, 20, 0, 0), (20, .invokestatic 66, 3, 23, 0, 0), (23, .ifCond .eq 16, 3, 26, 39, 0), (26, .aload_n 0, 1, 27, 0, 0), (27, .aload_n 3, 1, 28, 0, 0), (28, .getfield 69, 3, 31, 0, 0), (31, .iload_n 2, 1, 32, 0, 0), (32, .aaload, 1, 33, 0, 0), (33, .invokevirtual 161, 3, 36, 0, 0), (36, .goto 4, 3, 39, 40, 0), (39, .aconst_null, 1, 40, 0, 0), (40, .areturn, 1, 41, 0, 0), (41, .iload_n 2, 1, 42, 0, 0), (42, .iconst 4, 1, 43, 0, 4), (43, .if_icmp .ne 21, 3, 46, 64, 0), (46, .aload_n 3, 1, 47, 0, 0), (47, .invokevirtual 177, 3, 50, 0, 0), (50, .ifCond .eq 14, 3, 53, 64, 0), (53, .aload_n 0, 1, 54, 0, 0), (54, .aload_n 3, 1, 55, 0, 0), (55, .getfield 181, 3, 58, 0, 0), (58, .invokevirtual 161, 3, 61, 0, 0), (61, .goto 4, 3, 64, 65, 0), (64, .aconst_null, 1, 65, 0, 0), (65, .areturn, 1, 66, 0, 0)]
def G_V_heldAt : fw_G := (c_V_heldAt, 4, W_V_heldAt, R_V, rm_V_heldAt, (Option.some (Jvm.ClassFile.FieldType.object "CapabilityVats$Reference")), tab_V_heldAt, y_V_heldAt)
theorem tok_V_heldAt : fw_tok c_V_heldAt W_V_heldAt R_V tab_V_heldAt = true := by decide +kernel
theorem hv_V_heldAt {T : fw_T} (h : TOK T) : HV T G_V_heldAt R_V := ⟨rfl, h, fun x hx => List.mem_cons_of_mem _ hx⟩
theorem ct_V_heldAt {T : fw_T} {l : Launch} {w : fw_W} {av : List fw_V} {post : Option fw_V → fw_W → Prop} {L : List (Option fw_V)} (hL : L = av.map some ++ List.replicate (4 - av.length) none) (hlen : av.length ≤ 4) (kk : ∀ X : fw_X, xL X = l → fw_ok T G_V_heldAt X → fw_ends T G_V_heldAt X post → J T G_V_heldAt X 0 L [] w 0 0) : Ct l T y_V_heldAt W_V_heldAt rm_V_heldAt av w post := ct_of (G := G_V_heldAt) c_V_heldAt 4 R_V (Option.some (Jvm.ClassFile.FieldType.object "CapabilityVats$Reference")) tab_V_heldAt rfl (by decide +kernel) rfl rfl tok_V_heldAt hL hlen kk
def tab_V_firstDetail : List fw_I := [(0, .aload_n 0, 1, 1, 0, 0), (1, .getfield 131, 3, 4, 0, 0), (4, .lookupswitch 54 #[(1, 36), (8, 49), (9, 36)], 36, 40, 0, 0), (40, .aload_n 0, 1, 41, 0, 0), (41, .getfield 184, 3, 44, 0, 0), (44, .ifCond .eq 7, 3, 47, 51, 0), (47, .iconst 1, 1, 48, 0, 1), (48, .goto 4, 3, 51, 52, 0), (51, .iconst 0, 1, 52, 0, 0), (52, .ireturn, 1, 53, 0, 0), (53, .aload_n 0, 1, 54, 0, 0), (54, .getfield 188, 3, 57, 0, 0), (57, .ireturn, 1, 58, 0, 0), (58, .aload_n 0, 1, 59, 0, 0), (59, .getfield 191, 3, 62, 0, 0), (62, .ifnonnull 7, 3, 65, 69, 0), (65, .iconst 0, 1, 66, 0, 0), (66, .goto 10, 3, 69, 76, 0), (69, .aload_n 0, 1, 70, 0, 0), (70, .getfield 191, 3, 73, 0, 0), (73, .getfield 59, 3, 76, 0, 0), (76, .ireturn, 1, 77, 0, 0)]
def G_V_firstDetail : fw_G := (c_V_firstDetail, 1, W_V_firstDetail, R_V, rm_V_firstDetail, (Option.some Jvm.ClassFile.FieldType.int), tab_V_firstDetail, y_V_firstDetail)
theorem tok_V_firstDetail : fw_tok c_V_firstDetail W_V_firstDetail R_V tab_V_firstDetail = true := by decide +kernel
theorem hv_V_firstDetail {T : fw_T} (h : TOK T) : HV T G_V_firstDetail R_V := ⟨rfl, h, fun x hx => List.mem_cons_of_mem _ hx⟩
theorem ct_V_firstDetail {T : fw_T} {l : Launch} {w : fw_W} {av : List fw_V} {post : Option fw_V → fw_W → Prop} {L : List (Option fw_V)} (hL : L = av.map some ++ List.replicate (1 - av.length) none) (hlen : av.length ≤ 1) (kk : ∀ X : fw_X, xL X = l → fw_ok T G_V_firstDetail X → fw_ends T G_V_firstDetail X post → J T G_V_firstDetail X 0 L [] w 0 0) : Ct l T y_V_firstDetail W_V_firstDetail rm_V_firstDetail av w post := ct_of (G := G_V_firstDetail) c_V_firstDetail 1 R_V (Option.some Jvm.ClassFile.FieldType.int) tab_V_firstDetail rfl (by decide +kernel) rfl rfl tok_V_firstDetail hL hlen kk
def tab_V_secondDetail : List fw_I := [(0, .aload_n 0, 1, 1, 0, 0), (1, .getfield 131, 3, 4, 0, 0), (4, .lookupswitch 87 #[(1, 36), (8, 55), (10, 74)], 36, 40, 0, 0), (40, .aload_n 0, 1, 41, 0, 0), (41, .getfield 195, 3, 44, 0, 0), (44, .ifnonnull 7, 3, 47, 51, 0), (47, .iconst 0, 1, 48, 0, 0), (48, .goto 10, 3, 51, 58, 0), (51, .aload_n 0, 1, 52, 0, 0), (52, .getfield 195, 3, 55, 0, 0), (55, .getfield 59, 3, 58, 0, 0), (58, .ireturn, 1, 59, 0, 0), (59, .aload_n 0, 1, 60, 0, 0), (60, .getfield 191, 3, 63, 0, 0), (63, .ifnonnull 7, 3, 66, 70, 0), (66, .iconst 0, 1, 67, 0, 0), (67, .goto 10, 3, 70, 77, 0), (70, .aload_n 0, 1, 71, 0, 0), (71, .getfield 191, 3, 74, 0, 0), (74, .getfield 59, 3, 77, 0, 0), (77, .ireturn, 1, 78, 0, 0), (78, .aload_n 0, 1, 79, 0, 0), (79, .getfield 198, 3, 82, 0, 0), (82, .ifCond .eq 7, 3, 85, 89, 0), (85, .iconst 1, 1, 86, 0, 1), (86, .goto 4, 3, 89, 90, 0), (89, .iconst 0, 1, 90, 0, 0), (90, .ireturn, 1, 91, 0, 0), (91, .iconst 0, 1, 92, 0, 0), (92, .ireturn, 1, 93, 0, 0)]
def G_V_secondDetail : fw_G := (c_V_secondDetail, 1, W_V_secondDetail, R_V, rm_V_secondDetail, (Option.some Jvm.ClassFile.FieldType.int), tab_V_secondDetail, y_V_secondDetail)
theorem tok_V_secondDetail : fw_tok c_V_secondDetail W_V_secondDetail R_V tab_V_secondDetail = true := by decide +kernel
theorem hv_V_secondDetail {T : fw_T} (h : TOK T) : HV T G_V_secondDetail R_V := ⟨rfl, h, fun x hx => List.mem_cons_of_mem _ hx⟩
theorem ct_V_secondDetail {T : fw_T} {l : Launch} {w : fw_W} {av : List fw_V} {post : Option fw_V → fw_W → Prop} {L : List (Option fw_V)} (hL : L = av.map some ++ List.replicate (1 - av.length) none) (hlen : av.length ≤ 1) (kk : ∀ X : fw_X, xL X = l → fw_ok T G_V_secondDetail X → fw_ends T G_V_secondDetail X post → J T G_V_secondDetail X 0 L [] w 0 0) : Ct l T y_V_secondDetail W_V_secondDetail rm_V_secondDetail av w post := ct_of (G := G_V_secondDetail) c_V_secondDetail 1 R_V (Option.some Jvm.ClassFile.FieldType.int) tab_V_secondDetail rfl (by decide +kernel) rfl rfl tok_V_secondDetail hL hlen kk
def tab_V_countsAs : List fw_I := [(0, .aload_n 1, 1, 1, 0, 0), (1, .astore_n 2, 1, 2, 0, 0), (2, .iconst 0, 1, 3, 0, 0), (3, .istore_n 3, 1, 4, 0, 0), (4, .iload_n 3, 1, 5, 0, 0), (5, .sipush 200, 3, 8, 0, 200), (8, .if_icmp .ge 48, 3, 11, 56, 0), (11, .aload_n 2, 1, 12, 0, 0), (12, .getfield 141, 3, 15, 0, 0), (15, .iconst 3, 1, 16, 0, 3), (16, .if_icmp .ne 40, 3, 19, 56, 0), (19, .aload_n 0, 1, 20, 0, 0), (20, .aload_n 2, 1, 21, 0, 0), (21, .getfield 144, 3, 24, 0, 0), (24, .invokevirtual 154, 3, 27, 0, 0), (27, .astore 4, 2, 29, 0, 0), (29, .aload 4, 2, 31, 0, 0), (31, .ifnull 11, 3, 34, 42, 0), (34, .aload 4, 2, 36, 0, 0), (36, .getfield 201, 3, 39, 0, 0), (39, .ifnonnull 5, 3, 42, 44, 0), (42, .aload_n 2, 1, 43, 0, 0), (43, .areturn, 1, 44, 0, 0), (44, .aload 4, 2, 46, 0, 0), (46, .getfield 201, 3, 49, 0, 0), (49, .astore_n 2, 1, 50, 0, 0), (50, .iinc 3 1, 3, 53, 0, 1), (53, .goto (-49), 3, 56, 4, 0), (56, .aload_n 2, 1, 57, 0, 0), (57, .areturn, 1, 58, 0, 0)]
def G_V_countsAs : fw_G := (c_V_countsAs, 5, W_V_countsAs, R_V, rm_V_countsAs, (Option.some (Jvm.ClassFile.FieldType.object "CapabilityVats$Reference")), tab_V_countsAs, y_V_countsAs)
theorem tok_V_countsAs : fw_tok c_V_countsAs W_V_countsAs R_V tab_V_countsAs = true := by decide +kernel
theorem hv_V_countsAs {T : fw_T} (h : TOK T) : HV T G_V_countsAs R_V := ⟨rfl, h, fun x hx => List.mem_cons_of_mem _ hx⟩
theorem ct_V_countsAs {T : fw_T} {l : Launch} {w : fw_W} {av : List fw_V} {post : Option fw_V → fw_W → Prop} {L : List (Option fw_V)} (hL : L = av.map some ++ List.replicate (5 - av.length) none) (hlen : av.length ≤ 5) (kk : ∀ X : fw_X, xL X = l → fw_ok T G_V_countsAs X → fw_ends T G_V_countsAs X post → J T G_V_countsAs X 0 L [] w 0 0) : Ct l T y_V_countsAs W_V_countsAs rm_V_countsAs av w post := ct_of (G := G_V_countsAs) c_V_countsAs 5 R_V (Option.some (Jvm.ClassFile.FieldType.object "CapabilityVats$Reference")) tab_V_countsAs rfl (by decide +kernel) rfl rfl tok_V_countsAs hL hlen kk
def tab_V_thingOf : List fw_I := [(0, .aload_n 0, 1, 1, 0, 0), (1, .aload_n 1, 1, 2, 0, 0), (2, .invokevirtual 161, 3, 5, 0, 0), (5, .astore_n 2, 1, 6, 0, 0), (6, .aload_n 2, 1, 7, 0, 0), (7, .getfield 141, 3, 10, 0, 0), (10, .iconst 2, 1, 11, 0, 2), (11, .if_icmp .ne 14, 3, 14, 25, 0), (14, .aload_n 0, 1, 15, 0, 0), (15, .aload_n 2, 1, 16, 0, 0), (16, .getfield 144, 3, 19, 0, 0), (19, .invokevirtual 77, 3, 22, 0, 0), (22, .goto 4, 3, 25, 26, 0), (25, .aconst_null, 1, 26, 0, 0), (26, .areturn, 1, 27, 0, 0)]
def G_V_thingOf : fw_G := (c_V_thingOf, 3, W_V_thingOf, R_V, rm_V_thingOf, (Option.some (Jvm.ClassFile.FieldType.object "CapabilityVats$Thing")), tab_V_thingOf, y_V_thingOf)
theorem tok_V_thingOf : fw_tok c_V_thingOf W_V_thingOf R_V tab_V_thingOf = true := by decide +kernel
theorem hv_V_thingOf {T : fw_T} (h : TOK T) : HV T G_V_thingOf R_V := ⟨rfl, h, fun x hx => List.mem_cons_of_mem _ hx⟩
theorem ct_V_thingOf {T : fw_T} {l : Launch} {w : fw_W} {av : List fw_V} {post : Option fw_V → fw_W → Prop} {L : List (Option fw_V)} (hL : L = av.map some ++ List.replicate (3 - av.length) none) (hlen : av.length ≤ 3) (kk : ∀ X : fw_X, xL X = l → fw_ok T G_V_thingOf X → fw_ends T G_V_thingOf X post → J T G_V_thingOf X 0 L [] w 0 0) : Ct l T y_V_thingOf W_V_thingOf rm_V_thingOf av w post := ct_of (G := G_V_thingOf) c_V_thingOf 3 R_V (Option.some (Jvm.ClassFile.FieldType.object "CapabilityVats$Thing")) tab_V_thingOf rfl (by decide +kernel) rfl rfl tok_V_thingOf hL hlen kk
def tab_V_awaitedBy : List fw_I := [(0, .aload_n 0, 1, 1, 0, 0), (1, .aload_n 1, 1, 2, 0, 0), (2, .invokevirtual 161, 3, 5, 0, 0), (5, .astore_n 2, 1, 6, 0, 0), (6, .aload_n 2, 1, 7, 0, 0), (7, .getfield 141, 3, 10, 0, 0), (10, .iconst 3, 1, 11, 0, 3), (11, .if_icmp .ne 14, 3, 14, 25, 0), (14, .aload_n 0, 1, 15, 0, 0), (15, .aload_n 2, 1, 16, 0, 0), (16, .getfield 144, 3, 19, 0, 0), (19, .invokevirtual 154, 3, 22, 0, 0), (22, .goto 4, 3, 25, 26, 0), (25, .aconst_null, 1, 26, 0, 0), (26, .areturn, 1, 27, 0, 0)]
def G_V_awaitedBy : fw_G := (c_V_awaitedBy, 3, W_V_awaitedBy, R_V, rm_V_awaitedBy, (Option.some (Jvm.ClassFile.FieldType.object "CapabilityVats$Message")), tab_V_awaitedBy, y_V_awaitedBy)
theorem tok_V_awaitedBy : fw_tok c_V_awaitedBy W_V_awaitedBy R_V tab_V_awaitedBy = true := by decide +kernel
theorem hv_V_awaitedBy {T : fw_T} (h : TOK T) : HV T G_V_awaitedBy R_V := ⟨rfl, h, fun x hx => List.mem_cons_of_mem _ hx⟩
theorem ct_V_awaitedBy {T : fw_T} {l : Launch} {w : fw_W} {av : List fw_V} {post : Option fw_V → fw_W → Prop} {L : List (Option fw_V)} (hL : L = av.map some ++ List.replicate (3 - av.length) none) (hlen : av.length ≤ 3) (kk : ∀ X : fw_X, xL X = l → fw_ok T G_V_awaitedBy X → fw_ends T G_V_awaitedBy X post → J T G_V_awaitedBy X 0 L [] w 0 0) : Ct l T y_V_awaitedBy W_V_awaitedBy rm_V_awaitedBy av w post := ct_of (G := G_V_awaitedBy) c_V_awaitedBy 3 R_V (Option.some (Jvm.ClassFile.FieldType.object "CapabilityVats$Message")) tab_V_awaitedBy rfl (by decide +kernel) rfl rfl tok_V_awaitedBy hL hlen kk
def tab_V_thingOfKind : List fw_I := [(0, .aload_n 0, 1, 1, 0, 0), (1, .aload_n 2, 1, 2, 0, 0), (2, .invokevirtual 107, 3, 5, 0, 0), (5, .astore_n 3, 1, 6, 0, 0), (6, .aload_n 3, 1, 7, 0, 0), (7, .ifnull 15, 3, 10, 22, 0), (10, .aload_n 3, 1, 11, 0, 0), (11, .getfield 131, 3, 14, 0, 0), (14, .iload_n 1, 1, 15, 0, 0), (15, .if_icmp .ne 7, 3, 18, 22, 0), (18, .aload_n 3, 1, 19, 0, 0), (19, .goto 4, 3, 22, 23, 0), (22, .aconst_null, 1, 23, 0, 0), (23, .areturn, 1, 24, 0, 0)]
def G_V_thingOfKind : fw_G := (c_V_thingOfKind, 4, W_V_thingOfKind, R_V, rm_V_thingOfKind, (Option.some (Jvm.ClassFile.FieldType.object "CapabilityVats$Thing")), tab_V_thingOfKind, y_V_thingOfKind)
theorem tok_V_thingOfKind : fw_tok c_V_thingOfKind W_V_thingOfKind R_V tab_V_thingOfKind = true := by decide +kernel
theorem hv_V_thingOfKind {T : fw_T} (h : TOK T) : HV T G_V_thingOfKind R_V := ⟨rfl, h, fun x hx => List.mem_cons_of_mem _ hx⟩
theorem ct_V_thingOfKind {T : fw_T} {l : Launch} {w : fw_W} {av : List fw_V} {post : Option fw_V → fw_W → Prop} {L : List (Option fw_V)} (hL : L = av.map some ++ List.replicate (4 - av.length) none) (hlen : av.length ≤ 4) (kk : ∀ X : fw_X, xL X = l → fw_ok T G_V_thingOfKind X → fw_ends T G_V_thingOfKind X post → J T G_V_thingOfKind X 0 L [] w 0 0) : Ct l T y_V_thingOfKind W_V_thingOfKind rm_V_thingOfKind av w post := ct_of (G := G_V_thingOfKind) c_V_thingOfKind 4 R_V (Option.some (Jvm.ClassFile.FieldType.object "CapabilityVats$Thing")) tab_V_thingOfKind rfl (by decide +kernel) rfl rfl tok_V_thingOfKind hL hlen kk
def tab_V_isNumberUpTo : List fw_I := [(0, .aload_n 0, 1, 1, 0, 0), (1, .aload_n 2, 1, 2, 0, 0), (2, .invokevirtual 161, 3, 5, 0, 0), (5, .astore_n 3, 1, 6, 0, 0), (6, .aload_n 3, 1, 7, 0, 0), (7, .getfield 141, 3, 10, 0, 0), (10, .iconst 1, 1, 11, 0, 1), (11, .if_icmp .ne 22, 3, 14, 33, 0), (14, .aload_n 3, 1, 15, 0, 0), (15, .getfield 144, 3, 18, 0, 0), (18, .ifCond .lt 15, 3, 21, 33, 0), (21, .aload_n 3, 1, 22, 0, 0), (22, .getfield 144, 3, 25, 0, 0), (25, .iload_n 1, 1, 26, 0, 0), (26, .if_icmp .gt 7, 3, 29, 33, 0), (29, .iconst 1, 1, 30, 0, 1), (30, .goto 4, 3, 33, 34, 0), (33, .iconst 0, 1, 34, 0, 0), (34, .ireturn, 1, 35, 0, 0)]
def G_V_isNumberUpTo : fw_G := (c_V_isNumberUpTo, 4, W_V_isNumberUpTo, R_V, rm_V_isNumberUpTo, (Option.some Jvm.ClassFile.FieldType.boolean), tab_V_isNumberUpTo, y_V_isNumberUpTo)
theorem tok_V_isNumberUpTo : fw_tok c_V_isNumberUpTo W_V_isNumberUpTo R_V tab_V_isNumberUpTo = true := by decide +kernel
theorem hv_V_isNumberUpTo {T : fw_T} (h : TOK T) : HV T G_V_isNumberUpTo R_V := ⟨rfl, h, fun x hx => List.mem_cons_of_mem _ hx⟩
theorem ct_V_isNumberUpTo {T : fw_T} {l : Launch} {w : fw_W} {av : List fw_V} {post : Option fw_V → fw_W → Prop} {L : List (Option fw_V)} (hL : L = av.map some ++ List.replicate (4 - av.length) none) (hlen : av.length ≤ 4) (kk : ∀ X : fw_X, xL X = l → fw_ok T G_V_isNumberUpTo X → fw_ends T G_V_isNumberUpTo X post → J T G_V_isNumberUpTo X 0 L [] w 0 0) : Ct l T y_V_isNumberUpTo W_V_isNumberUpTo rm_V_isNumberUpTo av w post := ct_of (G := G_V_isNumberUpTo) c_V_isNumberUpTo 4 R_V (Option.some Jvm.ClassFile.FieldType.boolean) tab_V_isNumberUpTo rfl (by decide +kernel) rfl rfl tok_V_isNumberUpTo hL hlen kk
def tab_V_numeral : List fw_I := [(0, .new 7, 3, 3, 0, 0), (3, .dup, 1, 4, 0, 0), (4, .iconst 1, 1, 5, 0, 1), (5, .iload_n 0, 1, 6, 0, 0), (6, .invokespecial 11, 3, 9, 0, 0), (9, .areturn, 1, 10, 0, 0)]
def G_V_numeral : fw_G := (c_V_numeral, 1, W_V_numeral, R_V, rm_V_numeral, (Option.some (Jvm.ClassFile.FieldType.object "CapabilityVats$Reference")), tab_V_numeral, y_V_numeral)
theorem tok_V_numeral : fw_tok c_V_numeral W_V_numeral R_V tab_V_numeral = true := by decide +kernel
theorem hv_V_numeral {T : fw_T} (h : TOK T) : HV T G_V_numeral R_V := ⟨rfl, h, fun x hx => List.mem_cons_of_mem _ hx⟩
theorem ct_V_numeral {T : fw_T} {l : Launch} {w : fw_W} {av : List fw_V} {post : Option fw_V → fw_W → Prop} {L : List (Option fw_V)} (hL : L = av.map some ++ List.replicate (1 - av.length) none) (hlen : av.length ≤ 1) (kk : ∀ X : fw_X, xL X = l → fw_ok T G_V_numeral X → fw_ends T G_V_numeral X post → J T G_V_numeral X 0 L [] w 0 0) : Ct l T y_V_numeral W_V_numeral rm_V_numeral av w post := ct_of (G := G_V_numeral) c_V_numeral 1 R_V (Option.some (Jvm.ClassFile.FieldType.object "CapabilityVats$Reference")) tab_V_numeral rfl (by decide +kernel) rfl rfl tok_V_numeral hL hlen kk
def tab_V_truth : List fw_I := [(0, .iload_n 0, 1, 1, 0, 0), (1, .ifCond .eq 7, 3, 4, 8, 0), (4, .iconst 1, 1, 5, 0, 1), (5, .goto 4, 3, 8, 9, 0), (8, .iconst 0, 1, 9, 0, 0), (9, .invokestatic 73, 3, 12, 0, 0), (12, .areturn, 1, 13, 0, 0)]
def G_V_truth : fw_G := (c_V_truth, 1, W_V_truth, R_V, rm_V_truth, (Option.some (Jvm.ClassFile.FieldType.object "CapabilityVats$Reference")), tab_V_truth, y_V_truth)
theorem tok_V_truth : fw_tok c_V_truth W_V_truth R_V tab_V_truth = true := by decide +kernel
theorem hv_V_truth {T : fw_T} (h : TOK T) : HV T G_V_truth R_V := ⟨rfl, h, fun x hx => List.mem_cons_of_mem _ hx⟩
theorem ct_V_truth {T : fw_T} {l : Launch} {w : fw_W} {av : List fw_V} {post : Option fw_V → fw_W → Prop} {L : List (Option fw_V)} (hL : L = av.map some ++ List.replicate (1 - av.length) none) (hlen : av.length ≤ 1) (kk : ∀ X : fw_X, xL X = l → fw_ok T G_V_truth X → fw_ends T G_V_truth X post → J T G_V_truth X 0 L [] w 0 0) : Ct l T y_V_truth W_V_truth rm_V_truth av w post := ct_of (G := G_V_truth) c_V_truth 1 R_V (Option.some (Jvm.ClassFile.FieldType.object "CapabilityVats$Reference")) tab_V_truth rfl (by decide +kernel) rfl rfl tok_V_truth hL hlen kk
def tab_V_brokenIfNothing : List fw_I := [(0, .aload_n 1, 1, 1, 0, 0), (1, .getfield 141, 3, 4, 0, 0), (4, .ifCond .ne 10, 3, 7, 14, 0), (7, .aload_n 0, 1, 8, 0, 0), (8, .getfield 18, 3, 11, 0, 0), (11, .goto 4, 3, 14, 15, 0), (14, .aload_n 1, 1, 15, 0, 0), (15, .areturn, 1, 16, 0, 0)]
def G_V_brokenIfNothing : fw_G := (c_V_brokenIfNothing, 2, W_V_brokenIfNothing, R_V, rm_V_brokenIfNothing, (Option.some (Jvm.ClassFile.FieldType.object "CapabilityVats$Reference")), tab_V_brokenIfNothing, y_V_brokenIfNothing)
theorem tok_V_brokenIfNothing : fw_tok c_V_brokenIfNothing W_V_brokenIfNothing R_V tab_V_brokenIfNothing = true := by decide +kernel
theorem hv_V_brokenIfNothing {T : fw_T} (h : TOK T) : HV T G_V_brokenIfNothing R_V := ⟨rfl, h, fun x hx => List.mem_cons_of_mem _ hx⟩
theorem ct_V_brokenIfNothing {T : fw_T} {l : Launch} {w : fw_W} {av : List fw_V} {post : Option fw_V → fw_W → Prop} {L : List (Option fw_V)} (hL : L = av.map some ++ List.replicate (2 - av.length) none) (hlen : av.length ≤ 2) (kk : ∀ X : fw_X, xL X = l → fw_ok T G_V_brokenIfNothing X → fw_ends T G_V_brokenIfNothing X post → J T G_V_brokenIfNothing X 0 L [] w 0 0) : Ct l T y_V_brokenIfNothing W_V_brokenIfNothing rm_V_brokenIfNothing av w post := ct_of (G := G_V_brokenIfNothing) c_V_brokenIfNothing 2 R_V (Option.some (Jvm.ClassFile.FieldType.object "CapabilityVats$Reference")) tab_V_brokenIfNothing rfl (by decide +kernel) rfl rfl tok_V_brokenIfNothing hL hlen kk
def tab_V_referenceTo : List fw_I := [(0, .aload_n 1, 1, 1, 0, 0), (1, .ifnonnull 10, 3, 4, 11, 0), (4, .aload_n 0, 1, 5, 0, 0), (5, .getfield 18, 3, 8, 0, 0), (8, .goto 7, 3, 11, 15, 0), (11, .aload_n 1, 1, 12, 0, 0), (12, .getfield 80, 3, 15, 0, 0), (15, .areturn, 1, 16, 0, 0)]
def G_V_referenceTo : fw_G := (c_V_referenceTo, 2, W_V_referenceTo, R_V, rm_V_referenceTo, (Option.some (Jvm.ClassFile.FieldType.object "CapabilityVats$Reference")), tab_V_referenceTo, y_V_referenceTo)
theorem tok_V_referenceTo : fw_tok c_V_referenceTo W_V_referenceTo R_V tab_V_referenceTo = true := by decide +kernel
theorem hv_V_referenceTo {T : fw_T} (h : TOK T) : HV T G_V_referenceTo R_V := ⟨rfl, h, fun x hx => List.mem_cons_of_mem _ hx⟩
theorem ct_V_referenceTo {T : fw_T} {l : Launch} {w : fw_W} {av : List fw_V} {post : Option fw_V → fw_W → Prop} {L : List (Option fw_V)} (hL : L = av.map some ++ List.replicate (2 - av.length) none) (hlen : av.length ≤ 2) (kk : ∀ X : fw_X, xL X = l → fw_ok T G_V_referenceTo X → fw_ends T G_V_referenceTo X post → J T G_V_referenceTo X 0 L [] w 0 0) : Ct l T y_V_referenceTo W_V_referenceTo rm_V_referenceTo av w post := ct_of (G := G_V_referenceTo) c_V_referenceTo 2 R_V (Option.some (Jvm.ClassFile.FieldType.object "CapabilityVats$Reference")) tab_V_referenceTo rfl (by decide +kernel) rfl rfl tok_V_referenceTo hL hlen kk
def tab_V_settle : List fw_I := [(0, .aload_n 1, 1, 1, 0, 0), (1, .aload_n 0, 1, 2, 0, 0), (2, .aload_n 2, 1, 3, 0, 0), (3, .invokevirtual 203, 3, 6, 0, 0), (6, .aload_n 1, 1, 7, 0, 0), (7, .if_acmp .ne 10, 3, 10, 17, 0), (10, .aload_n 0, 1, 11, 0, 0), (11, .getfield 18, 3, 14, 0, 0), (14, .goto 8, 3, 17, 22, 0), (17, .aload_n 0, 1, 18, 0, 0), (18, .aload_n 2, 1, 19, 0, 0), (19, .invokevirtual 207, 3, 22, 0, 0), (22, .putfield 201, 3, 25, 0, 0), (25, .aload_n 1, 1, 26, 0, 0), (26, .iconst 0, 1, 27, 0, 0), (27, .putfield 158, 3, 30, 0, 0), (30, .aload_n 0, 1, 31, 0, 0), (31, .getfield 47, 3, 34, 0, 0), (34, .aload_n 1, 1, 35, 0, 0), (35, .getfield 171, 3, 38, 0, 0), (38, .invokevirtual 210, 3, 41, 0, 0), (41, .return_, 1, 42, 0, 0)]
def G_V_settle : fw_G := (c_V_settle, 3, W_V_settle, R_V, rm_V_settle, (Option.none : Option Jvm.ClassFile.FieldType), tab_V_settle, y_V_settle)
theorem tok_V_settle : fw_tok c_V_settle W_V_settle R_V tab_V_settle = true := by decide +kernel
theorem hv_V_settle {T : fw_T} (h : TOK T) : HV T G_V_settle R_V := ⟨rfl, h, fun x hx => List.mem_cons_of_mem _ hx⟩
theorem ct_V_settle {T : fw_T} {l : Launch} {w : fw_W} {av : List fw_V} {post : Option fw_V → fw_W → Prop} {L : List (Option fw_V)} (hL : L = av.map some ++ List.replicate (3 - av.length) none) (hlen : av.length ≤ 3) (kk : ∀ X : fw_X, xL X = l → fw_ok T G_V_settle X → fw_ends T G_V_settle X post → J T G_V_settle X 0 L [] w 0 0) : Ct l T y_V_settle W_V_settle rm_V_settle av w post := ct_of (G := G_V_settle) c_V_settle 3 R_V (Option.none : Option Jvm.ClassFile.FieldType) tab_V_settle rfl (by decide +kernel) rfl rfl tok_V_settle hL hlen kk
def tab_V_routeAll : List fw_I := [(0, .iconst 0, 1, 1, 0, 0), (1, .istore_n 1, 1, 2, 0, 0), (2, .iload_n 1, 1, 3, 0, 0), (3, .sipush 200, 3, 6, 0, 200), (6, .if_icmp .ge 27, 3, 9, 33, 0), (9, .aload_n 0, 1, 10, 0, 0), (10, .getfield 47, 3, 13, 0, 0), (13, .invokevirtual 100, 3, 16, 0, 0), (16, .astore_n 2, 1, 17, 0, 0), (17, .aload_n 2, 1, 18, 0, 0), (18, .ifnonnull 4, 3, 21, 22, 0), (21, .return_, 1, 22, 0, 0), (22, .aload_n 0, 1, 23, 0, 0), (23, .aload_n 2, 1, 24, 0, 0), (24, .invokevirtual 214, 3, 27, 0, 0), (27, .iinc 1 1, 3, 30, 0, 1), (30, .goto (-28), 3, 33, 2, 0), (33, .return_, 1, 34, 0, 0)]
def G_V_routeAll : fw_G := (c_V_routeAll, 3, W_V_routeAll, R_V, rm_V_routeAll, (Option.none : Option Jvm.ClassFile.FieldType), tab_V_routeAll, y_V_routeAll)
theorem tok_V_routeAll : fw_tok c_V_routeAll W_V_routeAll R_V tab_V_routeAll = true := by decide +kernel
theorem hv_V_routeAll {T : fw_T} (h : TOK T) : HV T G_V_routeAll R_V := ⟨rfl, h, fun x hx => List.mem_cons_of_mem _ hx⟩
theorem ct_V_routeAll {T : fw_T} {l : Launch} {w : fw_W} {av : List fw_V} {post : Option fw_V → fw_W → Prop} {L : List (Option fw_V)} (hL : L = av.map some ++ List.replicate (3 - av.length) none) (hlen : av.length ≤ 3) (kk : ∀ X : fw_X, xL X = l → fw_ok T G_V_routeAll X → fw_ends T G_V_routeAll X post → J T G_V_routeAll X 0 L [] w 0 0) : Ct l T y_V_routeAll W_V_routeAll rm_V_routeAll av w post := ct_of (G := G_V_routeAll) c_V_routeAll 3 R_V (Option.none : Option Jvm.ClassFile.FieldType) tab_V_routeAll rfl (by decide +kernel) rfl rfl tok_V_routeAll hL hlen kk
def tab_V_route : List fw_I := [(0, .aload_n 0, 1, 1, 0, 0), (1, .aload_n 1, 1, 2, 0, 0), (2, .getfield 104, 3, 5, 0, 0), (5, .invokevirtual 107, 3, 8, 0, 0), (8, .astore_n 2, 1, 9, 0, 0), (9, .aload_n 0, 1, 10, 0, 0), (10, .aload_n 1, 1, 11, 0, 0), (11, .getfield 104, 3, 14, 0, 0), (14, .invokevirtual 203, 3, 17, 0, 0), (17, .astore_n 3, 1, 18, 0, 0), (18, .aload_n 2, 1, 19, 0, 0), (19, .ifnull 24, 3, 22, 43, 0), (22, .aload_n 1, 1, 23, 0, 0), (23, .iconst 1, 1, 24, 0, 1), (24, .putfield 158, 3, 27, 0, 0), (27, .aload_n 0, 1, 28, 0, 0), (28, .getfield 42, 3, 31, 0, 0), (31, .aload_n 2, 1, 32, 0, 0), (32, .getfield 134, 3, 35, 0, 0), (35, .aaload, 1, 36, 0, 0), (36, .aload_n 1, 1, 37, 0, 0), (37, .invokevirtual 92, 3, 40, 0, 0), (40, .goto 32, 3, 43, 72, 0), (43, .aload_n 3, 1, 44, 0, 0), (44, .ifnull 19, 3, 47, 63, 0), (47, .aload_n 1, 1, 48, 0, 0), (48, .iconst 2, 1, 49, 0, 2), (49, .putfield 158, 3, 52, 0, 0), (52, .aload_n 3, 1, 53, 0, 0), (53, .getfield 171, 3, 56, 0, 0), (56, .aload_n 1, 1, 57, 0, 0), (57, .invokevirtual 92, 3, 60, 0, 0), (60, .goto 12, 3, 63, 72, 0), (63, .aload_n 0, 1, 64, 0, 0), (64, .aload_n 1, 1, 65, 0, 0), (65, .aload_n 0, 1, 66, 0, 0), (66, .getfield 18, 3, 69, 0, 0), (69, .invokevirtual 127, 3, 72, 0, 0), (72, .return_, 1, 73, 0, 0)]
def G_V_route : fw_G := (c_V_route, 4, W_V_route, R_V, rm_V_route, (Option.none : Option Jvm.ClassFile.FieldType), tab_V_route, y_V_route)
theorem tok_V_route : fw_tok c_V_route W_V_route R_V tab_V_route = true := by decide +kernel
theorem hv_V_route {T : fw_T} (h : TOK T) : HV T G_V_route R_V := ⟨rfl, h, fun x hx => List.mem_cons_of_mem _ hx⟩
theorem ct_V_route {T : fw_T} {l : Launch} {w : fw_W} {av : List fw_V} {post : Option fw_V → fw_W → Prop} {L : List (Option fw_V)} (hL : L = av.map some ++ List.replicate (4 - av.length) none) (hlen : av.length ≤ 4) (kk : ∀ X : fw_X, xL X = l → fw_ok T G_V_route X → fw_ends T G_V_route X post → J T G_V_route X 0 L [] w 0 0) : Ct l T y_V_route W_V_route rm_V_route av w post := ct_of (G := G_V_route) c_V_route 4 R_V (Option.none : Option Jvm.ClassFile.FieldType) tab_V_route rfl (by decide +kernel) rfl rfl tok_V_route hL hlen kk
def tab_V_relays : List fw_I := [(0, .aload_n 0, 1, 1, 0, 0), (1, .invokevirtual 217, 3, 4, 0, 0), (4, .ifCond .eq 5, 3, 7, 9, 0), (7, .iconst 0, 1, 8, 0, 0), (8, .ireturn, 1, 9, 0, 0), (9, .aload_n 0, 1, 10, 0, 0), (10, .getfield 131, 3, 13, 0, 0), (13, .iconst 2, 1, 14, 0, 2), (14, .if_icmp .eq 21, 3, 17, 35, 0), (17, .aload_n 0, 1, 18, 0, 0), (18, .getfield 131, 3, 21, 0, 0), (21, .bipush 10, 2, 23, 0, 10), (23, .if_icmp .ne 16, 3, 26, 39, 0), (26, .aload_n 1, 1, 27, 0, 0), (27, .getfield 174, 3, 30, 0, 0), (30, .bipush 8, 2, 32, 0, 8), (32, .if_icmp .ge 7, 3, 35, 39, 0), (35, .iconst 1, 1, 36, 0, 1), (36, .goto 4, 3, 39, 40, 0), (39, .iconst 0, 1, 40, 0, 0), (40, .ireturn, 1, 41, 0, 0)]
def G_V_relays : fw_G := (c_V_relays, 2, W_V_relays, R_V, rm_V_relays, (Option.some Jvm.ClassFile.FieldType.boolean), tab_V_relays, y_V_relays)
theorem tok_V_relays : fw_tok c_V_relays W_V_relays R_V tab_V_relays = true := by decide +kernel
theorem hv_V_relays {T : fw_T} (h : TOK T) : HV T G_V_relays R_V := ⟨rfl, h, fun x hx => List.mem_cons_of_mem _ hx⟩
theorem ct_V_relays {T : fw_T} {l : Launch} {w : fw_W} {av : List fw_V} {post : Option fw_V → fw_W → Prop} {L : List (Option fw_V)} (hL : L = av.map some ++ List.replicate (2 - av.length) none) (hlen : av.length ≤ 2) (kk : ∀ X : fw_X, xL X = l → fw_ok T G_V_relays X → fw_ends T G_V_relays X post → J T G_V_relays X 0 L [] w 0 0) : Ct l T y_V_relays W_V_relays rm_V_relays av w post := ct_of (G := G_V_relays) c_V_relays 2 R_V (Option.some Jvm.ClassFile.FieldType.boolean) tab_V_relays rfl (by decide +kernel) rfl rfl tok_V_relays hL hlen kk
def tab_V_relay : List fw_I := [(0, .aload_n 1, 1, 1, 0, 0), (1, .getfield 131, 3, 4, 0, 0), (4, .bipush 10, 2, 6, 0, 10), (6, .if_icmp .ne 36, 3, 9, 42, 0), (9, .aload_n 2, 1, 10, 0, 0), (10, .aload_n 0, 1, 11, 0, 0), (11, .aload_n 2, 1, 12, 0, 0), (12, .getfield 220, 3, 15, 0, 0), (15, .aload_n 1, 1, 16, 0, 0), (16, .getfield 191, 3, 19, 0, 0), (19, .aload_n 1, 1, 20, 0, 0), (20, .getfield 198, 3, 23, 0, 0), (23, .ifCond .ne 7, 3, 26, 30, 0), (26, .iconst 1, 1, 27, 0, 1), (27, .goto 4, 3, 30, 31, 0), (30, .iconst 0, 1, 31, 0, 0), (31, .invokevirtual 223, 3, 34, 0, 0), (34, .putfield 220, 3, 37, 0, 0), (37, .aload_n 2, 1, 38, 0, 0), (38, .aload_n 1, 1, 39, 0, 0), (39, .invokevirtual 227, 3, 42, 0, 0), (42, .aload_n 2, 1, 43, 0, 0), (43, .aload_n 1, 1, 44, 0, 0), (44, .getfield 181, 3, 47, 0, 0), (47, .putfield 104, 3, 50, 0, 0), (50, .aload_n 0, 1, 51, 0, 0), (51, .getfield 47, 3, 54, 0, 0), (54, .aload_n 2, 1, 55, 0, 0), (55, .invokevirtual 92, 3, 58, 0, 0), (58, .return_, 1, 59, 0, 0)]
def G_V_relay : fw_G := (c_V_relay, 3, W_V_relay, R_V, rm_V_relay, (Option.none : Option Jvm.ClassFile.FieldType), tab_V_relay, y_V_relay)
theorem tok_V_relay : fw_tok c_V_relay W_V_relay R_V tab_V_relay = true := by decide +kernel
theorem hv_V_relay {T : fw_T} (h : TOK T) : HV T G_V_relay R_V := ⟨rfl, h, fun x hx => List.mem_cons_of_mem _ hx⟩
theorem ct_V_relay {T : fw_T} {l : Launch} {w : fw_W} {av : List fw_V} {post : Option fw_V → fw_W → Prop} {L : List (Option fw_V)} (hL : L = av.map some ++ List.replicate (3 - av.length) none) (hlen : av.length ≤ 3) (kk : ∀ X : fw_X, xL X = l → fw_ok T G_V_relay X → fw_ends T G_V_relay X post → J T G_V_relay X 0 L [] w 0 0) : Ct l T y_V_relay W_V_relay rm_V_relay av w post := ct_of (G := G_V_relay) c_V_relay 3 R_V (Option.none : Option Jvm.ClassFile.FieldType) tab_V_relay rfl (by decide +kernel) rfl rfl tok_V_relay hL hlen kk
def tab_V_wrapAsNoted : List fw_I := [(0, .aload_n 1, 1, 1, 0, 0), (1, .astore_n 3, 1, 2, 0, 0), (2, .aload_n 2, 1, 3, 0, 0), (3, .getfield 174, 3, 6, 0, 0), (6, .iconst 1, 1, 7, 0, 1), (7, .isub, 1, 8, 0, 0), (8, .istore 4, 2, 10, 0, 0), (10, .iload 4, 2, 12, 0, 0), (12, .ifCond .lt 66, 3, 15, 78, 0), (15, .aload_n 2, 1, 16, 0, 0), (16, .getfield 231, 3, 19, 0, 0), (19, .iload 4, 2, 21, 0, 0), (21, .aaload, 1, 22, 0, 0), (22, .astore 5, 2, 24, 0, 0), (24, .aload 5, 2, 26, 0, 0), (26, .ifnull 11, 3, 29, 37, 0), (29, .aload 5, 2, 31, 0, 0), (31, .invokevirtual 217, 3, 34, 0, 0), (34, .ifCond .eq 7, 3, 37, 41, 0), (37, .iconst 1, 1, 38, 0, 1), (38, .goto 4, 3, 41, 42, 0), (41, .iconst 0, 1, 42, 0, 0), (42, .istore 6, 2, 44, 0, 0), (44, .iload 6, 2, 46, 0, 0), (46, .ifCond .eq 10, 3, 49, 56, 0), (49, .aload_n 0, 1, 50, 0, 0), (50, .getfield 18, 3, 53, 0, 0), (53, .goto 18, 3, 56, 71, 0), (56, .aload_n 0, 1, 57, 0, 0), (57, .aload_n 3, 1, 58, 0, 0), (58, .aload 5, 2, 60, 0, 0), (60, .getfield 191, 3, 63, 0, 0), (63, .aload 5, 2, 65, 0, 0), (65, .getfield 198, 3, 68, 0, 0), (68, .invokevirtual 223, 3, 71, 0, 0), (71, .astore_n 3, 1, 72, 0, 0), (72, .iinc 4 (-1), 3, 75, 0, (-1)), (75, .goto (-65), 3, 78, 10, 0), (78, .aload_n 3, 1, 79, 0, 0), (79, .areturn, 1, 80, 0, 0)]
def G_V_wrapAsNoted : fw_G := (c_V_wrapAsNoted, 7, W_V_wrapAsNoted, R_V, rm_V_wrapAsNoted, (Option.some (Jvm.ClassFile.FieldType.object "CapabilityVats$Reference")), tab_V_wrapAsNoted, y_V_wrapAsNoted)
theorem tok_V_wrapAsNoted : fw_tok c_V_wrapAsNoted W_V_wrapAsNoted R_V tab_V_wrapAsNoted = true := by decide +kernel
theorem hv_V_wrapAsNoted {T : fw_T} (h : TOK T) : HV T G_V_wrapAsNoted R_V := ⟨rfl, h, fun x hx => List.mem_cons_of_mem _ hx⟩
theorem ct_V_wrapAsNoted {T : fw_T} {l : Launch} {w : fw_W} {av : List fw_V} {post : Option fw_V → fw_W → Prop} {L : List (Option fw_V)} (hL : L = av.map some ++ List.replicate (7 - av.length) none) (hlen : av.length ≤ 7) (kk : ∀ X : fw_X, xL X = l → fw_ok T G_V_wrapAsNoted X → fw_ends T G_V_wrapAsNoted X post → J T G_V_wrapAsNoted X 0 L [] w 0 0) : Ct l T y_V_wrapAsNoted W_V_wrapAsNoted rm_V_wrapAsNoted av w post := ct_of (G := G_V_wrapAsNoted) c_V_wrapAsNoted 7 R_V (Option.some (Jvm.ClassFile.FieldType.object "CapabilityVats$Reference")) tab_V_wrapAsNoted rfl (by decide +kernel) rfl rfl tok_V_wrapAsNoted hL hlen kk
def tab_V_wrap : List fw_I := [(0, .aload_n 0, 1, 1, 0, 0), (1, .aload_n 1, 1, 2, 0, 0), (2, .invokevirtual 161, 3, 5, 0, 0), (5, .astore 4, 2, 7, 0, 0), (7, .aload 4, 2, 9, 0, 0), (9, .getfield 141, 3, 12, 0, 0), (12, .iconst 2, 1, 13, 0, 2), (13, .if_icmp .eq 15, 3, 16, 28, 0), (16, .aload 4, 2, 18, 0, 0), (18, .getfield 141, 3, 21, 0, 0), (21, .iconst 3, 1, 22, 0, 3), (22, .if_icmp .eq 6, 3, 25, 28, 0), (25, .aload 4, 2, 27, 0, 0), (27, .areturn, 1, 28, 0, 0), (28, .aload_n 0, 1, 29, 0, 0), (29, .bipush 10, 2, 31, 0, 10), (31, .aload 4, 2, 33, 0, 0), (33, .invokevirtual 234, 3, 36, 0, 0), (36, .astore 5, 2, 38, 0, 0), (38, .aload 5, 2, 40, 0, 0), (40, .ifnull 32, 3, 43, 72, 0), (43, .aload 5, 2, 45, 0, 0), (45, .getfield 191, 3, 48, 0, 0), (48, .aload_n 2, 1, 49, 0, 0), (49, .if_acmp .ne 23, 3, 52, 72, 0), (52, .aload 5, 2, 54, 0, 0), (54, .getfield 198, 3, 57, 0, 0), (57, .iload_n 3, 1, 58, 0, 0), (58, .if_icmp .ne 8, 3, 61, 66, 0), (61, .aload 4, 2, 63, 0, 0), (63, .goto 8, 3, 66, 71, 0), (66, .aload 5, 2, 68, 0, 0), (68, .getfield 181, 3, 71, 0, 0), (71, .areturn, 1, 72, 0, 0), (72, .aload_n 0, 1, 73, 0, 0), (73, .aload 4, 2, 75, 0, 0), (75, .aload_n 2, 1, 76, 0, 0), (76, .iload_n 3, 1, 77, 0, 0), (77, .invokevirtual 238, 3, 80, 0, 0), (80, .astore 6, 2, 82, 0, 0), (82, .aload_n 0, 1, 83, 0, 0), (83, .aload 6, 2, 85, 0, 0), (85, .ifnonnull 14, 3, 88, 99, 0), (88, .aload_n 0, 1, 89, 0, 0), (89, .aload 4, 2, 91, 0, 0), (91, .aload_n 2, 1, 92, 0, 0), (92, .iload_n 3, 1, 93, 0, 0), (93, .invokevirtual 242, 3, 96, 0, 0), (96, .goto 5, 3, 99, 101, 0), (99, .aload 6, 2, 101, 0, 0), (101, .invokevirtual 245, 3, 104, 0, 0), (104, .areturn, 1, 105, 0, 0)]
def G_V_wrap : fw_G := (c_V_wrap, 7, W_V_wrap, R_V, rm_V_wrap, (Option.some (Jvm.ClassFile.FieldType.object "CapabilityVats$Reference")), tab_V_wrap, y_V_wrap)
theorem tok_V_wrap : fw_tok c_V_wrap W_V_wrap R_V tab_V_wrap = true := by decide +kernel
theorem hv_V_wrap {T : fw_T} (h : TOK T) : HV T G_V_wrap R_V := ⟨rfl, h, fun x hx => List.mem_cons_of_mem _ hx⟩
theorem ct_V_wrap {T : fw_T} {l : Launch} {w : fw_W} {av : List fw_V} {post : Option fw_V → fw_W → Prop} {L : List (Option fw_V)} (hL : L = av.map some ++ List.replicate (7 - av.length) none) (hlen : av.length ≤ 7) (kk : ∀ X : fw_X, xL X = l → fw_ok T G_V_wrap X → fw_ends T G_V_wrap X post → J T G_V_wrap X 0 L [] w 0 0) : Ct l T y_V_wrap W_V_wrap rm_V_wrap av w post := ct_of (G := G_V_wrap) c_V_wrap 7 R_V (Option.some (Jvm.ClassFile.FieldType.object "CapabilityVats$Reference")) tab_V_wrap rfl (by decide +kernel) rfl rfl tok_V_wrap hL hlen kk
def tab_V_findWrapper : List fw_I := [(0, .iconst 0, 1, 1, 0, 0), (1, .istore 4, 2, 3, 0, 0), (3, .iload 4, 2, 5, 0, 0), (5, .aload_n 0, 1, 6, 0, 0), (6, .getfield 27, 3, 9, 0, 0), (9, .if_icmp .ge 81, 3, 12, 90, 0), (12, .aload_n 0, 1, 13, 0, 0), (13, .iload 4, 2, 15, 0, 0), (15, .invokevirtual 77, 3, 18, 0, 0), (18, .astore 5, 2, 20, 0, 0), (20, .aload 5, 2, 22, 0, 0), (22, .ifnull 26, 3, 25, 48, 0), (25, .aload 5, 2, 27, 0, 0), (27, .getfield 131, 3, 30, 0, 0), (30, .bipush 10, 2, 32, 0, 10), (32, .if_icmp .ne 16, 3, 35, 48, 0), (35, .aload 5, 2, 37, 0, 0), (37, .getfield 191, 3, 40, 0, 0), (40, .aload_n 2, 1, 41, 0, 0), (41, .if_acmp .ne 7, 3, 44, 48, 0), (44, .iconst 1, 1, 45, 0, 1), (45, .goto 4, 3, 48, 49, 0), (48, .iconst 0, 1, 49, 0, 0), (49, .istore 6, 2, 51, 0, 0), (51, .iload 6, 2, 53, 0, 0), (53, .ifCond .eq 31, 3, 56, 84, 0), (56, .aload 5, 2, 58, 0, 0), (58, .getfield 198, 3, 61, 0, 0), (61, .iload_n 3, 1, 62, 0, 0), (62, .if_icmp .ne 22, 3, 65, 84, 0), (65, .aload_n 0, 1, 66, 0, 0), (66, .aload 5, 2, 68, 0, 0), (68, .getfield 181, 3, 71, 0, 0), (71, .invokevirtual 161, 3, 74, 0, 0), (74, .aload_n 1, 1, 75, 0, 0), (75, .invokevirtual 249, 3, 78, 0, 0), (78, .ifCond .eq 6, 3, 81, 84, 0), (81, .aload 5, 2, 83, 0, 0), (83, .areturn, 1, 84, 0, 0), (84, .iinc 4 1, 3, 87, 0, 1), (87, .goto (-84), 3, 90, 3, 0), (90, .aconst_null, 1, 91, 0, 0), (91, .areturn, 1, 92, 0, 0)]
def G_V_findWrapper : fw_G := (c_V_findWrapper, 7, W_V_findWrapper, R_V, rm_V_findWrapper, (Option.some (Jvm.ClassFile.FieldType.object "CapabilityVats$Thing")), tab_V_findWrapper, y_V_findWrapper)
theorem tok_V_findWrapper : fw_tok c_V_findWrapper W_V_findWrapper R_V tab_V_findWrapper = true := by decide +kernel
theorem hv_V_findWrapper {T : fw_T} (h : TOK T) : HV T G_V_findWrapper R_V := ⟨rfl, h, fun x hx => List.mem_cons_of_mem _ hx⟩
theorem ct_V_findWrapper {T : fw_T} {l : Launch} {w : fw_W} {av : List fw_V} {post : Option fw_V → fw_W → Prop} {L : List (Option fw_V)} (hL : L = av.map some ++ List.replicate (7 - av.length) none) (hlen : av.length ≤ 7) (kk : ∀ X : fw_X, xL X = l → fw_ok T G_V_findWrapper X → fw_ends T G_V_findWrapper X post → J T G_V_findWrapper X 0 L [] w 0 0) : Ct l T y_V_findWrapper W_V_findWrapper rm_V_findWrapper av w post := ct_of (G := G_V_findWrapper) c_V_findWrapper 7 R_V (Option.some (Jvm.ClassFile.FieldType.object "CapabilityVats$Thing")) tab_V_findWrapper rfl (by decide +kernel) rfl rfl tok_V_findWrapper hL hlen kk
def tab_V_makeWrapper : List fw_I := [(0, .aload_n 0, 1, 1, 0, 0), (1, .bipush 10, 2, 3, 0, 10), (3, .aload_n 2, 1, 4, 0, 0), (4, .getfield 134, 3, 7, 0, 0), (7, .aload_n 2, 1, 8, 0, 0), (8, .invokevirtual 55, 3, 11, 0, 0), (11, .astore 4, 2, 13, 0, 0), (13, .aload 4, 2, 15, 0, 0), (15, .ifnull 15, 3, 18, 30, 0), (18, .aload 4, 2, 20, 0, 0), (20, .aload_n 1, 1, 21, 0, 0), (21, .putfield 181, 3, 24, 0, 0), (24, .aload 4, 2, 26, 0, 0), (26, .iload_n 3, 1, 27, 0, 0), (27, .putfield 198, 3, 30, 0, 0), (30, .aload 4, 2, 32, 0, 0), (32, .areturn, 1, 33, 0, 0)]
def G_V_makeWrapper : fw_G := (c_V_makeWrapper, 5, W_V_makeWrapper, R_V, rm_V_makeWrapper, (Option.some (Jvm.ClassFile.FieldType.object "CapabilityVats$Thing")), tab_V_makeWrapper, y_V_makeWrapper)
theorem tok_V_makeWrapper : fw_tok c_V_makeWrapper W_V_makeWrapper R_V tab_V_makeWrapper = true := by decide +kernel
theorem hv_V_makeWrapper {T : fw_T} (h : TOK T) : HV T G_V_makeWrapper R_V := ⟨rfl, h, fun x hx => List.mem_cons_of_mem _ hx⟩
theorem ct_V_makeWrapper {T : fw_T} {l : Launch} {w : fw_W} {av : List fw_V} {post : Option fw_V → fw_W → Prop} {L : List (Option fw_V)} (hL : L = av.map some ++ List.replicate (5 - av.length) none) (hlen : av.length ≤ 5) (kk : ∀ X : fw_X, xL X = l → fw_ok T G_V_makeWrapper X → fw_ends T G_V_makeWrapper X post → J T G_V_makeWrapper X 0 L [] w 0 0) : Ct l T y_V_makeWrapper W_V_makeWrapper rm_V_makeWrapper av w post := ct_of (G := G_V_makeWrapper) c_V_makeWrapper 5 R_V (Option.some (Jvm.ClassFile.FieldType.object "CapabilityVats$Thing")) tab_V_makeWrapper rfl (by decide +kernel) rfl rfl tok_V_makeWrapper hL hlen kk
def tab_V_answer : List fw_I := [(0, .aload_n 1, 1, 1, 0, 0), (1, .ifnonnull 8, 3, 4, 9, 0), (4, .aload_n 0, 1, 5, 0, 0), (5, .getfield 18, 3, 8, 0, 0), (8, .areturn, 1, 9, 0, 0), (9, .aload_n 2, 1, 10, 0, 0), (10, .getfield 253, 3, 13, 0, 0), (13, .istore_n 3, 1, 14, 0, 0), (14, .aload_n 2, 1, 15, 0, 0), (15, .getfield 220, 3, 18, 0, 0), (18, .astore 4, 2, 20, 0, 0), (20, .aload_n 1, 1, 21, 0, 0), (21, .getfield 131, 3, 24, 0, 0), (24, .tableswitch 182 0 9 #[56, 65, 182, 87, 94, 113, 182, 132, 151, 160], 56, 80, 0, 0), (80, .aload_n 0, 1, 81, 0, 0), (81, .aload_n 1, 1, 82, 0, 0), (82, .iload_n 3, 1, 83, 0, 0), (83, .aload 4, 2, 85, 0, 0), (85, .invokevirtual 256, 3, 88, 0, 0), (88, .areturn, 1, 89, 0, 0), (89, .iload_n 3, 1, 90, 0, 0), (90, .ifCond .ne 14, 3, 93, 104, 0), (93, .aload_n 0, 1, 94, 0, 0), (94, .aload_n 1, 1, 95, 0, 0), (95, .getfield 195, 3, 98, 0, 0), (98, .invokevirtual 245, 3, 101, 0, 0), (101, .goto 9, 3, 104, 110, 0), (104, .aload_n 0, 1, 105, 0, 0), (105, .aload_n 1, 1, 106, 0, 0), (106, .iload_n 3, 1, 107, 0, 0), (107, .invokevirtual 260, 3, 110, 0, 0), (110, .areturn, 1, 111, 0, 0), (111, .aload_n 0, 1, 112, 0, 0), (112, .aload_n 1, 1, 113, 0, 0), (113, .iload_n 3, 1, 114, 0, 0), (114, .invokevirtual 264, 3, 117, 0, 0), (117, .areturn, 1, 118, 0, 0), (118, .iload_n 3, 1, 119, 0, 0), (119, .ifCond .ne 13, 3, 122, 132, 0), (122, .aload_n 0, 1, 123, 0, 0), (123, .aload_n 1, 1, 124, 0, 0), (124, .aload 4, 2, 126, 0, 0), (126, .invokevirtual 267, 3, 129, 0, 0), (129, .goto 7, 3, 132, 136, 0), (132, .aload_n 0, 1, 133, 0, 0), (133, .getfield 18, 3, 136, 0, 0), (136, .areturn, 1, 137, 0, 0), (137, .iload_n 3, 1, 138, 0, 0), (138, .ifCond .ne 13, 3, 141, 151, 0), (141, .aload_n 0, 1, 142, 0, 0), (142, .aload_n 1, 1, 143, 0, 0), (143, .aload 4, 2, 145, 0, 0), (145, .invokevirtual 271, 3, 148, 0, 0), (148, .goto 7, 3, 151, 155, 0), (151, .aload_n 0, 1, 152, 0, 0), (152, .getfield 18, 3, 155, 0, 0), (155, .areturn, 1, 156, 0, 0), (156, .iload_n 3, 1, 157, 0, 0), (157, .ifCond .ne 13, 3, 160, 170, 0), (160, .aload_n 0, 1, 161, 0, 0), (161, .aload_n 1, 1, 162, 0, 0), (162, .aload 4, 2, 164, 0, 0), (164, .invokevirtual 274, 3, 167, 0, 0), (167, .goto 7, 3, 170, 174, 0), (170, .aload_n 0, 1, 171, 0, 0), (171, .getfield 18, 3, 174, 0, 0), (174, .areturn, 1, 175, 0, 0), (175, .aload_n 0, 1, 176, 0, 0), (176, .aload_n 1, 1, 177, 0, 0), (177, .iload_n 3, 1, 178, 0, 0), (178, .aload 4, 2, 180, 0, 0), (180, .invokevirtual 277, 3, 183, 0, 0), (183, .areturn, 1, 184, 0, 0), (184, .iload_n 3, 1, 185, 0, 0), (185, .ifCond .ne 14, 3, 188, 199, 0), (188, .aload_n 0, 1, 189, 0, 0), (189, .aload 4, 2, 191, 0, 0), (191, .aload_n 1, 1, 192, 0, 0), (192, .iconst 0, 1, 193, 0, 0), (193, .invokevirtual 223, 3, 196, 0, 0), (196, .goto 9, 3, 199, 205, 0), (199, .aload_n 0, 1, 200, 0, 0), (200, .aload_n 1, 1, 201, 0, 0), (201, .iload_n 3, 1, 202, 0, 0), (202, .invokevirtual 260, 3, 205, 0, 0), (205, .areturn, 1, 206, 0, 0), (206, .aload_n 0, 1, 207, 0, 0), (207, .getfield 18, 3, 210, 0, 0), (210, .areturn, 1, 211, 0, 0)]
def G_V_answer : fw_G := (c_V_answer, 5, W_V_answer, R_V, rm_V_answer, (Option.some (Jvm.ClassFile.FieldType.object "CapabilityVats$Reference")), tab_V_answer, y_V_answer)
theorem tok_V_answer : fw_tok c_V_answer W_V_answer R_V tab_V_answer = true := by decide +kernel
theorem hv_V_answer {T : fw_T} (h : TOK T) : HV T G_V_answer R_V := ⟨rfl, h, fun x hx => List.mem_cons_of_mem _ hx⟩
theorem ct_V_answer {T : fw_T} {l : Launch} {w : fw_W} {av : List fw_V} {post : Option fw_V → fw_W → Prop} {L : List (Option fw_V)} (hL : L = av.map some ++ List.replicate (5 - av.length) none) (hlen : av.length ≤ 5) (kk : ∀ X : fw_X, xL X = l → fw_ok T G_V_answer X → fw_ends T G_V_answer X post → J T G_V_answer X 0 L [] w 0 0) : Ct l T y_V_answer W_V_answer rm_V_answer av w post := ct_of (G := G_V_answer) c_V_answer 5 R_V (Option.some (Jvm.ClassFile.FieldType.object "CapabilityVats$Reference")) tab_V_answer rfl (by decide +kernel) rfl rfl tok_V_answer hL hlen kk
def tab_V_answerOfCell : List fw_I := [(0, .iload_n 2, 1, 1, 0, 0), (1, .invokestatic 66, 3, 4, 0, 0), (4, .ifCond .eq 14, 3, 7, 18, 0), (7, .aload_n 0, 1, 8, 0, 0), (8, .aload_n 1, 1, 9, 0, 0), (9, .getfield 69, 3, 12, 0, 0), (12, .iload_n 2, 1, 13, 0, 0), (13, .aaload, 1, 14, 0, 0), (14, .invokevirtual 207, 3, 17, 0, 0), (17, .areturn, 1, 18, 0, 0), (18, .iload_n 2, 1, 19, 0, 0), (19, .iconst 4, 1, 20, 0, 4), (20, .isub, 1, 21, 0, 0), (21, .invokestatic 66, 3, 24, 0, 0), (24, .ifCond .eq 17, 3, 27, 41, 0), (27, .aload_n 1, 1, 28, 0, 0), (28, .getfield 69, 3, 31, 0, 0), (31, .iload_n 2, 1, 32, 0, 0), (32, .iconst 4, 1, 33, 0, 4), (33, .isub, 1, 34, 0, 0), (34, .aload_n 3, 1, 35, 0, 0), (35, .aastore, 1, 36, 0, 0), (36, .iconst 0, 1, 37, 0, 0), (37, .invokestatic 73, 3, 40, 0, 0), (40, .areturn, 1, 41, 0, 0), (41, .iload_n 2, 1, 42, 0, 0), (42, .tableswitch 103 8 12 #[34, 49, 56, 71, 87], 34, 76, 0, 0), (76, .aload_n 0, 1, 77, 0, 0), (77, .aload_n 0, 1, 78, 0, 0), (78, .iconst 0, 1, 79, 0, 0), (79, .aload_n 1, 1, 80, 0, 0), (80, .getfield 134, 3, 83, 0, 0), (83, .aconst_null, 1, 84, 0, 0), (84, .invokevirtual 55, 3, 87, 0, 0), (87, .invokevirtual 245, 3, 90, 0, 0), (90, .areturn, 1, 91, 0, 0), (91, .aload_n 0, 1, 92, 0, 0), (92, .aload_n 1, 1, 93, 0, 0), (93, .aload_n 3, 1, 94, 0, 0), (94, .invokevirtual 280, 3, 97, 0, 0), (97, .areturn, 1, 98, 0, 0), (98, .aload_n 0, 1, 99, 0, 0), (99, .aload_n 0, 1, 100, 0, 0), (100, .iconst 3, 1, 101, 0, 3), (101, .aload_n 1, 1, 102, 0, 0), (102, .getfield 134, 3, 105, 0, 0), (105, .aconst_null, 1, 106, 0, 0), (106, .invokevirtual 55, 3, 109, 0, 0), (109, .invokevirtual 245, 3, 112, 0, 0), (112, .areturn, 1, 113, 0, 0), (113, .aload_n 0, 1, 114, 0, 0), (114, .aload_n 0, 1, 115, 0, 0), (115, .bipush 7, 2, 117, 0, 7), (117, .aload_n 1, 1, 118, 0, 0), (118, .getfield 134, 3, 121, 0, 0), (121, .aconst_null, 1, 122, 0, 0), (122, .invokevirtual 55, 3, 125, 0, 0), (125, .invokevirtual 245, 3, 128, 0, 0), (128, .areturn, 1, 129, 0, 0), (129, .aload_n 0, 1, 130, 0, 0), (130, .aload_n 0, 1, 131, 0, 0), (131, .bipush 9, 2, 133, 0, 9), (133, .aload_n 1, 1, 134, 0, 0), (134, .getfield 134, 3, 137, 0, 0), (137, .aconst_null, 1, 138, 0, 0), (138, .invokevirtual 55, 3, 141, 0, 0), (141, .invokevirtual 245, 3, 144, 0, 0), (144, .areturn, 1, 145, 0, 0), (145, .aload_n 0, 1, 146, 0, 0), (146, .getfield 18, 3, 149, 0, 0), (149, .areturn, 1, 150, 0, 0)]
def G_V_answerOfCell : fw_G := (c_V_answerOfCell, 4, W_V_answerOfCell, R_V, rm_V_answerOfCell, (Option.some (Jvm.ClassFile.FieldType.object "CapabilityVats$Reference")), tab_V_answerOfCell, y_V_answerOfCell)
theorem tok_V_answerOfCell : fw_tok c_V_answerOfCell W_V_answerOfCell R_V tab_V_answerOfCell = true := by decide +kernel
theorem hv_V_answerOfCell {T : fw_T} (h : TOK T) : HV T G_V_answerOfCell R_V := ⟨rfl, h, fun x hx => List.mem_cons_of_mem _ hx⟩
theorem ct_V_answerOfCell {T : fw_T} {l : Launch} {w : fw_W} {av : List fw_V} {post : Option fw_V → fw_W → Prop} {L : List (Option fw_V)} (hL : L = av.map some ++ List.replicate (4 - av.length) none) (hlen : av.length ≤ 4) (kk : ∀ X : fw_X, xL X = l → fw_ok T G_V_answerOfCell X → fw_ends T G_V_answerOfCell X post → J T G_V_answerOfCell X 0 L [] w 0 0) : Ct l T y_V_answerOfCell W_V_answerOfCell rm_V_answerOfCell av w post := ct_of (G := G_V_answerOfCell) c_V_answerOfCell 4 R_V (Option.some (Jvm.ClassFile.FieldType.object "CapabilityVats$Reference")) tab_V_answerOfCell rfl (by decide +kernel) rfl rfl tok_V_answerOfCell hL hlen kk
def tab_V_answerOfRevocable : List fw_I := [(0, .iload_n 2, 1, 1, 0, 0), (1, .lookupswitch 45 #[(1, 27), (2, 37)], 27, 28, 0, 0), (28, .aload_n 1, 1, 29, 0, 0), (29, .iconst 1, 1, 30, 0, 1), (30, .putfield 184, 3, 33, 0, 0), (33, .iconst 0, 1, 34, 0, 0), (34, .invokestatic 73, 3, 37, 0, 0), (37, .areturn, 1, 38, 0, 0), (38, .aload_n 1, 1, 39, 0, 0), (39, .getfield 184, 3, 42, 0, 0), (42, .invokestatic 283, 3, 45, 0, 0), (45, .areturn, 1, 46, 0, 0), (46, .aload_n 0, 1, 47, 0, 0), (47, .getfield 18, 3, 50, 0, 0), (50, .areturn, 1, 51, 0, 0)]
def G_V_answerOfRevocable : fw_G := (c_V_answerOfRevocable, 3, W_V_answerOfRevocable, R_V, rm_V_answerOfRevocable, (Option.some (Jvm.ClassFile.FieldType.object "CapabilityVats$Reference")), tab_V_answerOfRevocable, y_V_answerOfRevocable)
theorem tok_V_answerOfRevocable : fw_tok c_V_answerOfRevocable W_V_answerOfRevocable R_V tab_V_answerOfRevocable = true := by decide +kernel
theorem hv_V_answerOfRevocable {T : fw_T} (h : TOK T) : HV T G_V_answerOfRevocable R_V := ⟨rfl, h, fun x hx => List.mem_cons_of_mem _ hx⟩
theorem ct_V_answerOfRevocable {T : fw_T} {l : Launch} {w : fw_W} {av : List fw_V} {post : Option fw_V → fw_W → Prop} {L : List (Option fw_V)} (hL : L = av.map some ++ List.replicate (3 - av.length) none) (hlen : av.length ≤ 3) (kk : ∀ X : fw_X, xL X = l → fw_ok T G_V_answerOfRevocable X → fw_ends T G_V_answerOfRevocable X post → J T G_V_answerOfRevocable X 0 L [] w 0 0) : Ct l T y_V_answerOfRevocable W_V_answerOfRevocable rm_V_answerOfRevocable av w post := ct_of (G := G_V_answerOfRevocable) c_V_answerOfRevocable 3 R_V (Option.some (Jvm.ClassFile.FieldType.object "CapabilityVats$Reference")) tab_V_answerOfRevocable rfl (by decide +kernel) rfl rfl tok_V_answerOfRevocable hL hlen kk
def tab_V_answerOfBrand : List fw_I := [(0, .iload_n 2, 1, 1, 0, 0), (1, .lookupswitch 57 #[(0, 27), (1, 42)], 27, 28, 0, 0), (28, .aload_n 0, 1, 29, 0, 0), (29, .aload_n 0, 1, 30, 0, 0), (30, .iconst 4, 1, 31, 0, 4), (31, .aload_n 1, 1, 32, 0, 0), (32, .getfield 134, 3, 35, 0, 0), (35, .aload_n 1, 1, 36, 0, 0), (36, .invokevirtual 55, 3, 39, 0, 0), (39, .invokevirtual 245, 3, 42, 0, 0), (42, .areturn, 1, 43, 0, 0), (43, .aload_n 0, 1, 44, 0, 0), (44, .aload_n 0, 1, 45, 0, 0), (45, .iconst 5, 1, 46, 0, 5), (46, .aload_n 1, 1, 47, 0, 0), (47, .getfield 134, 3, 50, 0, 0), (50, .aload_n 1, 1, 51, 0, 0), (51, .invokevirtual 55, 3, 54, 0, 0), (54, .invokevirtual 245, 3, 57, 0, 0), (57, .areturn, 1, 58, 0, 0), (58, .aload_n 0, 1, 59, 0, 0), (59, .getfield 18, 3, 62, 0, 0), (62, .areturn, 1, 63, 0, 0)]
def G_V_answerOfBrand : fw_G := (c_V_answerOfBrand, 3, W_V_answerOfBrand, R_V, rm_V_answerOfBrand, (Option.some (Jvm.ClassFile.FieldType.object "CapabilityVats$Reference")), tab_V_answerOfBrand, y_V_answerOfBrand)
theorem tok_V_answerOfBrand : fw_tok c_V_answerOfBrand W_V_answerOfBrand R_V tab_V_answerOfBrand = true := by decide +kernel
theorem hv_V_answerOfBrand {T : fw_T} (h : TOK T) : HV T G_V_answerOfBrand R_V := ⟨rfl, h, fun x hx => List.mem_cons_of_mem _ hx⟩
theorem ct_V_answerOfBrand {T : fw_T} {l : Launch} {w : fw_W} {av : List fw_V} {post : Option fw_V → fw_W → Prop} {L : List (Option fw_V)} (hL : L = av.map some ++ List.replicate (3 - av.length) none) (hlen : av.length ≤ 3) (kk : ∀ X : fw_X, xL X = l → fw_ok T G_V_answerOfBrand X → fw_ends T G_V_answerOfBrand X post → J T G_V_answerOfBrand X 0 L [] w 0 0) : Ct l T y_V_answerOfBrand W_V_answerOfBrand rm_V_answerOfBrand av w post := ct_of (G := G_V_answerOfBrand) c_V_answerOfBrand 3 R_V (Option.some (Jvm.ClassFile.FieldType.object "CapabilityVats$Reference")) tab_V_answerOfBrand rfl (by decide +kernel) rfl rfl tok_V_answerOfBrand hL hlen kk
def tab_V_answerOfPurse : List fw_I := [(0, .iload_n 2, 1, 1, 0, 0), (1, .tableswitch 72 0 3 #[31, 39, 58, 65], 31, 32, 0, 0), (32, .aload_n 1, 1, 33, 0, 0), (33, .getfield 188, 3, 36, 0, 0), (36, .invokestatic 73, 3, 39, 0, 0), (39, .areturn, 1, 40, 0, 0), (40, .aload_n 0, 1, 41, 0, 0), (41, .aload_n 0, 1, 42, 0, 0), (42, .bipush 8, 2, 44, 0, 8), (44, .aload_n 1, 1, 45, 0, 0), (45, .getfield 134, 3, 48, 0, 0), (48, .aload_n 1, 1, 49, 0, 0), (49, .getfield 191, 3, 52, 0, 0), (52, .invokevirtual 55, 3, 55, 0, 0), (55, .invokevirtual 245, 3, 58, 0, 0), (58, .areturn, 1, 59, 0, 0), (59, .aload_n 0, 1, 60, 0, 0), (60, .aload_n 1, 1, 61, 0, 0), (61, .aload_n 3, 1, 62, 0, 0), (62, .invokevirtual 287, 3, 65, 0, 0), (65, .areturn, 1, 66, 0, 0), (66, .aload_n 0, 1, 67, 0, 0), (67, .aload_n 1, 1, 68, 0, 0), (68, .aload_n 3, 1, 69, 0, 0), (69, .invokevirtual 290, 3, 72, 0, 0), (72, .areturn, 1, 73, 0, 0), (73, .aload_n 0, 1, 74, 0, 0), (74, .getfield 18, 3, 77, 0, 0), (77, .areturn, 1, 78, 0, 0)]
def G_V_answerOfPurse : fw_G := (c_V_answerOfPurse, 4, W_V_answerOfPurse, R_V, rm_V_answerOfPurse, (Option.some (Jvm.ClassFile.FieldType.object "CapabilityVats$Reference")), tab_V_answerOfPurse, y_V_answerOfPurse)
theorem tok_V_answerOfPurse : fw_tok c_V_answerOfPurse W_V_answerOfPurse R_V tab_V_answerOfPurse = true := by decide +kernel
theorem hv_V_answerOfPurse {T : fw_T} (h : TOK T) : HV T G_V_answerOfPurse R_V := ⟨rfl, h, fun x hx => List.mem_cons_of_mem _ hx⟩
theorem ct_V_answerOfPurse {T : fw_T} {l : Launch} {w : fw_W} {av : List fw_V} {post : Option fw_V → fw_W → Prop} {L : List (Option fw_V)} (hL : L = av.map some ++ List.replicate (4 - av.length) none) (hlen : av.length ≤ 4) (kk : ∀ X : fw_X, xL X = l → fw_ok T G_V_answerOfPurse X → fw_ends T G_V_answerOfPurse X post → J T G_V_answerOfPurse X 0 L [] w 0 0) : Ct l T y_V_answerOfPurse W_V_answerOfPurse rm_V_answerOfPurse av w post := ct_of (G := G_V_answerOfPurse) c_V_answerOfPurse 4 R_V (Option.some (Jvm.ClassFile.FieldType.object "CapabilityVats$Reference")) tab_V_answerOfPurse rfl (by decide +kernel) rfl rfl tok_V_answerOfPurse hL hlen kk
def tab_V_deposit : List fw_I := [(0, .aload_n 0, 1, 1, 0, 0), (1, .bipush 8, 2, 3, 0, 8), (3, .aload_n 2, 1, 4, 0, 0), (4, .invokevirtual 234, 3, 7, 0, 0), (7, .astore_n 3, 1, 8, 0, 0), (8, .aload_n 3, 1, 9, 0, 0), (9, .ifnull 19, 3, 12, 28, 0), (12, .aload_n 3, 1, 13, 0, 0), (13, .aload_n 1, 1, 14, 0, 0), (14, .if_acmp .eq 14, 3, 17, 28, 0), (17, .aload_n 3, 1, 18, 0, 0), (18, .getfield 191, 3, 21, 0, 0), (21, .aload_n 1, 1, 22, 0, 0), (22, .getfield 191, 3, 25, 0, 0), (25, .if_acmp .eq 8, 3, 28, 33, 0), (28, .aload_n 0, 1, 29, 0, 0), (29, .getfield 18, 3, 32, 0, 0), (32, .areturn, 1, 33, 0, 0), (33, .aload_n 3, 1, 34, 0, 0), (34, .getfield 188, 3, 37, 0, 0), (37, .istore 4, 2, 39, 0, 0), (39, .aload_n 3, 1, 40, 0, 0), (40, .iconst 0, 1, 41, 0, 0), (41, .putfield 188, 3, 44, 0, 0), (44, .aload_n 1, 1, 45, 0, 0), (45, .dup, 1, 46, 0, 0), (46, .getfield 188, 3, 49, 0, 0), (49, .iload 4, 2, 51, 0, 0), (51, .iadd, 1, 52, 0, 0), (52, .putfield 188, 3, 55, 0, 0), (55, .iload 4, 2, 57, 0, 0), (57, .invokestatic 73, 3, 60, 0, 0), (60, .areturn, 1, 61, 0, 0)]
def G_V_deposit : fw_G := (c_V_deposit, 5, W_V_deposit, R_V, rm_V_deposit, (Option.some (Jvm.ClassFile.FieldType.object "CapabilityVats$Reference")), tab_V_deposit, y_V_deposit)
theorem tok_V_deposit : fw_tok c_V_deposit W_V_deposit R_V tab_V_deposit = true := by decide +kernel
theorem hv_V_deposit {T : fw_T} (h : TOK T) : HV T G_V_deposit R_V := ⟨rfl, h, fun x hx => List.mem_cons_of_mem _ hx⟩
theorem ct_V_deposit {T : fw_T} {l : Launch} {w : fw_W} {av : List fw_V} {post : Option fw_V → fw_W → Prop} {L : List (Option fw_V)} (hL : L = av.map some ++ List.replicate (5 - av.length) none) (hlen : av.length ≤ 5) (kk : ∀ X : fw_X, xL X = l → fw_ok T G_V_deposit X → fw_ends T G_V_deposit X post → J T G_V_deposit X 0 L [] w 0 0) : Ct l T y_V_deposit W_V_deposit rm_V_deposit av w post := ct_of (G := G_V_deposit) c_V_deposit 5 R_V (Option.some (Jvm.ClassFile.FieldType.object "CapabilityVats$Reference")) tab_V_deposit rfl (by decide +kernel) rfl rfl tok_V_deposit hL hlen kk
def tab_V_split : List fw_I := [(0, .aload_n 0, 1, 1, 0, 0), (1, .aload_n 1, 1, 2, 0, 0), (2, .getfield 188, 3, 5, 0, 0), (5, .aload_n 2, 1, 6, 0, 0), (6, .invokevirtual 293, 3, 9, 0, 0), (9, .ifCond .ne 8, 3, 12, 17, 0), (12, .aload_n 0, 1, 13, 0, 0), (13, .getfield 18, 3, 16, 0, 0), (16, .areturn, 1, 17, 0, 0), (17, .aload_n 0, 1, 18, 0, 0), (18, .bipush 8, 2, 20, 0, 8), (20, .aload_n 1, 1, 21, 0, 0), (21, .getfield 134, 3, 24, 0, 0), (24, .aload_n 1, 1, 25, 0, 0), (25, .getfield 191, 3, 28, 0, 0), (28, .invokevirtual 55, 3, 31, 0, 0), (31, .astore_n 3, 1, 32, 0, 0), (32, .aload_n 3, 1, 33, 0, 0), (33, .ifnull 28, 3, 36, 61, 0), (36, .aload_n 3, 1, 37, 0, 0), (37, .aload_n 0, 1, 38, 0, 0), (38, .aload_n 2, 1, 39, 0, 0), (39, .invokevirtual 161, 3, 42, 0, 0), (42, .getfield 144, 3, 45, 0, 0), (45, .putfield 188, 3, 48, 0, 0), (48, .aload_n 1, 1, 49, 0, 0), (49, .dup, 1, 50, 0, 0), (50, .getfield 188, 3, 53, 0, 0), (53, .aload_n 3, 1, 54, 0, 0), (54, .getfield 188, 3, 57, 0, 0), (57, .isub, 1, 58, 0, 0), (58, .putfield 188, 3, 61, 0, 0), (61, .aload_n 0, 1, 62, 0, 0), (62, .aload_n 3, 1, 63, 0, 0), (63, .invokevirtual 245, 3, 66, 0, 0), (66, .areturn, 1, 67, 0, 0)]
def G_V_split : fw_G := (c_V_split, 4, W_V_split, R_V, rm_V_split, (Option.some (Jvm.ClassFile.FieldType.object "CapabilityVats$Reference")), tab_V_split, y_V_split)
theorem tok_V_split : fw_tok c_V_split W_V_split R_V tab_V_split = true := by decide +kernel
theorem hv_V_split {T : fw_T} (h : TOK T) : HV T G_V_split R_V := ⟨rfl, h, fun x hx => List.mem_cons_of_mem _ hx⟩
theorem ct_V_split {T : fw_T} {l : Launch} {w : fw_W} {av : List fw_V} {post : Option fw_V → fw_W → Prop} {L : List (Option fw_V)} (hL : L = av.map some ++ List.replicate (4 - av.length) none) (hlen : av.length ≤ 4) (kk : ∀ X : fw_X, xL X = l → fw_ok T G_V_split X → fw_ends T G_V_split X post → J T G_V_split X 0 L [] w 0 0) : Ct l T y_V_split W_V_split rm_V_split av w post := ct_of (G := G_V_split) c_V_split 4 R_V (Option.some (Jvm.ClassFile.FieldType.object "CapabilityVats$Reference")) tab_V_split rfl (by decide +kernel) rfl rfl tok_V_split hL hlen kk
def tab_V_unseal : List fw_I := [(0, .aload_n 0, 1, 1, 0, 0), (1, .bipush 6, 2, 3, 0, 6), (3, .aload_n 2, 1, 4, 0, 0), (4, .invokevirtual 234, 3, 7, 0, 0), (7, .astore_n 3, 1, 8, 0, 0), (8, .aload_n 3, 1, 9, 0, 0), (9, .ifnull 14, 3, 12, 23, 0), (12, .aload_n 3, 1, 13, 0, 0), (13, .getfield 191, 3, 16, 0, 0), (16, .aload_n 1, 1, 17, 0, 0), (17, .getfield 191, 3, 20, 0, 0), (20, .if_acmp .eq 8, 3, 23, 28, 0), (23, .aload_n 0, 1, 24, 0, 0), (24, .getfield 18, 3, 27, 0, 0), (27, .areturn, 1, 28, 0, 0), (28, .aload_n 0, 1, 29, 0, 0), (29, .aload_n 3, 1, 30, 0, 0), (30, .getfield 181, 3, 33, 0, 0), (33, .invokevirtual 207, 3, 36, 0, 0), (36, .areturn, 1, 37, 0, 0)]
def G_V_unseal : fw_G := (c_V_unseal, 4, W_V_unseal, R_V, rm_V_unseal, (Option.some (Jvm.ClassFile.FieldType.object "CapabilityVats$Reference")), tab_V_unseal, y_V_unseal)
theorem tok_V_unseal : fw_tok c_V_unseal W_V_unseal R_V tab_V_unseal = true := by decide +kernel
theorem hv_V_unseal {T : fw_T} (h : TOK T) : HV T G_V_unseal R_V := ⟨rfl, h, fun x hx => List.mem_cons_of_mem _ hx⟩
theorem ct_V_unseal {T : fw_T} {l : Launch} {w : fw_W} {av : List fw_V} {post : Option fw_V → fw_W → Prop} {L : List (Option fw_V)} (hL : L = av.map some ++ List.replicate (4 - av.length) none) (hlen : av.length ≤ 4) (kk : ∀ X : fw_X, xL X = l → fw_ok T G_V_unseal X → fw_ends T G_V_unseal X post → J T G_V_unseal X 0 L [] w 0 0) : Ct l T y_V_unseal W_V_unseal rm_V_unseal av w post := ct_of (G := G_V_unseal) c_V_unseal 4 R_V (Option.some (Jvm.ClassFile.FieldType.object "CapabilityVats$Reference")) tab_V_unseal rfl (by decide +kernel) rfl rfl tok_V_unseal hL hlen kk
def tab_V_make : List fw_I := [(0, .aload_n 0, 1, 1, 0, 0), (1, .getfield 27, 3, 4, 0, 0), (4, .bipush 40, 2, 6, 0, 40), (6, .if_icmp .lt 5, 3, 9, 11, 0), (9, .aconst_null, 1, 10, 0, 0), (10, .areturn, 1, 11, 0, 0), (11, .new 21, 3, 14, 0, 0), (14, .dup, 1, 15, 0, 0), (15, .aload_n 0, 1, 16, 0, 0), (16, .getfield 27, 3, 19, 0, 0), (19, .iload_n 1, 1, 20, 0, 0), (20, .iload_n 2, 1, 21, 0, 0), (21, .aload_n 3, 1, 22, 0, 0), (22, .aload_n 0, 1, 23, 0, 0), (23, .getfield 14, 3, 26, 0, 0), (26, .invokespecial 297, 3, 29, 0, 0), (29, .astore 4, 2, 31, 0, 0), (31, .aload_n 0, 1, 32, 0, 0), (32, .getfield 23, 3, 35, 0, 0), (35, .aload_n 0, 1, 36, 0, 0), (36, .getfield 27, 3, 39, 0, 0), (39, .aload 4, 2, 41, 0, 0), (41, .aastore, 1, 42, 0, 0), (42, .aload_n 0, 1, 43, 0, 0), (43, .dup, 1, 44, 0, 0), (44, .getfield 27, 3, 47, 0, 0), (47, .iconst 1, 1, 48, 0, 1), (48, .iadd, 1, 49, 0, 0), (49, .putfield 27, 3, 52, 0, 0), (52, .aload 4, 2, 54, 0, 0), (54, .areturn, 1, 55, 0, 0)]
def G_V_make : fw_G := (c_V_make, 5, W_V_make, R_V, rm_V_make, (Option.some (Jvm.ClassFile.FieldType.object "CapabilityVats$Thing")), tab_V_make, y_V_make)
theorem tok_V_make : fw_tok c_V_make W_V_make R_V tab_V_make = true := by decide +kernel
theorem hv_V_make {T : fw_T} (h : TOK T) : HV T G_V_make R_V := ⟨rfl, h, fun x hx => List.mem_cons_of_mem _ hx⟩
theorem ct_V_make {T : fw_T} {l : Launch} {w : fw_W} {av : List fw_V} {post : Option fw_V → fw_W → Prop} {L : List (Option fw_V)} (hL : L = av.map some ++ List.replicate (5 - av.length) none) (hlen : av.length ≤ 5) (kk : ∀ X : fw_X, xL X = l → fw_ok T G_V_make X → fw_ends T G_V_make X post → J T G_V_make X 0 L [] w 0 0) : Ct l T y_V_make W_V_make rm_V_make av w post := ct_of (G := G_V_make) c_V_make 5 R_V (Option.some (Jvm.ClassFile.FieldType.object "CapabilityVats$Thing")) tab_V_make rfl (by decide +kernel) rfl rfl tok_V_make hL hlen kk
def tab_V_makeGate : List fw_I := [(0, .aload_n 0, 1, 1, 0, 0), (1, .getfield 27, 3, 4, 0, 0), (4, .iconst 2, 1, 5, 0, 2), (5, .iadd, 1, 6, 0, 0), (6, .bipush 40, 2, 8, 0, 40), (8, .if_icmp .le 8, 3, 11, 16, 0), (11, .aload_n 0, 1, 12, 0, 0), (12, .getfield 18, 3, 15, 0, 0), (15, .areturn, 1, 16, 0, 0), (16, .aload_n 0, 1, 17, 0, 0), (17, .iconst 1, 1, 18, 0, 1), (18, .aload_n 1, 1, 19, 0, 0), (19, .getfield 134, 3, 22, 0, 0), (22, .aconst_null, 1, 23, 0, 0), (23, .invokevirtual 55, 3, 26, 0, 0), (26, .astore_n 3, 1, 27, 0, 0), (27, .aload_n 0, 1, 28, 0, 0), (28, .iconst 2, 1, 29, 0, 2), (29, .aload_n 1, 1, 30, 0, 0), (30, .getfield 134, 3, 33, 0, 0), (33, .aload_n 3, 1, 34, 0, 0), (34, .invokevirtual 55, 3, 37, 0, 0), (37, .astore 4, 2, 39, 0, 0), (39, .aload_n 3, 1, 40, 0, 0), (40, .ifnull 8, 3, 43, 48, 0), (43, .aload 4, 2, 45, 0, 0), (45, .ifnonnull 8, 3, 48, 53, 0), (48, .aload_n 0, 1, 49, 0, 0), (49, .getfield 18, 3, 52, 0, 0), (52, .areturn, 1, 53, 0, 0), (53, .aload 4, 2, 55, 0, 0), (55, .aload_n 2, 1, 56, 0, 0), (56, .putfield 181, 3, 59, 0, 0), (59, .aload_n 3, 1, 60, 0, 0), (60, .aload 4, 2, 62, 0, 0), (62, .putfield 195, 3, 65, 0, 0), (65, .aload_n 3, 1, 66, 0, 0), (66, .getfield 80, 3, 69, 0, 0), (69, .areturn, 1, 70, 0, 0)]
def G_V_makeGate : fw_G := (c_V_makeGate, 5, W_V_makeGate, R_V, rm_V_makeGate, (Option.some (Jvm.ClassFile.FieldType.object "CapabilityVats$Reference")), tab_V_makeGate, y_V_makeGate)
theorem tok_V_makeGate : fw_tok c_V_makeGate W_V_makeGate R_V tab_V_makeGate = true := by decide +kernel
theorem hv_V_makeGate {T : fw_T} (h : TOK T) : HV T G_V_makeGate R_V := ⟨rfl, h, fun x hx => List.mem_cons_of_mem _ hx⟩
theorem ct_V_makeGate {T : fw_T} {l : Launch} {w : fw_W} {av : List fw_V} {post : Option fw_V → fw_W → Prop} {L : List (Option fw_V)} (hL : L = av.map some ++ List.replicate (5 - av.length) none) (hlen : av.length ≤ 5) (kk : ∀ X : fw_X, xL X = l → fw_ok T G_V_makeGate X → fw_ends T G_V_makeGate X post → J T G_V_makeGate X 0 L [] w 0 0) : Ct l T y_V_makeGate W_V_makeGate rm_V_makeGate av w post := ct_of (G := G_V_makeGate) c_V_makeGate 5 R_V (Option.some (Jvm.ClassFile.FieldType.object "CapabilityVats$Reference")) tab_V_makeGate rfl (by decide +kernel) rfl rfl tok_V_makeGate hL hlen kk
def tab_V_makeBox : List fw_I := [(0, .aload_n 0, 1, 1, 0, 0), (1, .bipush 6, 2, 3, 0, 6), (3, .aload_n 1, 1, 4, 0, 0), (4, .getfield 134, 3, 7, 0, 0), (7, .aload_n 1, 1, 8, 0, 0), (8, .getfield 191, 3, 11, 0, 0), (11, .invokevirtual 55, 3, 14, 0, 0), (14, .astore_n 3, 1, 15, 0, 0), (15, .aload_n 3, 1, 16, 0, 0), (16, .ifnull 8, 3, 19, 24, 0), (19, .aload_n 3, 1, 20, 0, 0), (20, .aload_n 2, 1, 21, 0, 0), (21, .putfield 181, 3, 24, 0, 0), (24, .aload_n 0, 1, 25, 0, 0), (25, .aload_n 3, 1, 26, 0, 0), (26, .invokevirtual 245, 3, 29, 0, 0), (29, .areturn, 1, 30, 0, 0)]
def G_V_makeBox : fw_G := (c_V_makeBox, 4, W_V_makeBox, R_V, rm_V_makeBox, (Option.some (Jvm.ClassFile.FieldType.object "CapabilityVats$Reference")), tab_V_makeBox, y_V_makeBox)
theorem tok_V_makeBox : fw_tok c_V_makeBox W_V_makeBox R_V tab_V_makeBox = true := by decide +kernel
theorem hv_V_makeBox {T : fw_T} (h : TOK T) : HV T G_V_makeBox R_V := ⟨rfl, h, fun x hx => List.mem_cons_of_mem _ hx⟩
theorem ct_V_makeBox {T : fw_T} {l : Launch} {w : fw_W} {av : List fw_V} {post : Option fw_V → fw_W → Prop} {L : List (Option fw_V)} (hL : L = av.map some ++ List.replicate (4 - av.length) none) (hlen : av.length ≤ 4) (kk : ∀ X : fw_X, xL X = l → fw_ok T G_V_makeBox X → fw_ends T G_V_makeBox X post → J T G_V_makeBox X 0 L [] w 0 0) : Ct l T y_V_makeBox W_V_makeBox rm_V_makeBox av w post := ct_of (G := G_V_makeBox) c_V_makeBox 4 R_V (Option.some (Jvm.ClassFile.FieldType.object "CapabilityVats$Reference")) tab_V_makeBox rfl (by decide +kernel) rfl rfl tok_V_makeBox hL hlen kk
def tab_V_makeMoney : List fw_I := [(0, .aload_n 0, 1, 1, 0, 0), (1, .ldc_w 300, 3, 4, 0, 1000000), (4, .aload_n 2, 1, 5, 0, 0), (5, .invokevirtual 293, 3, 8, 0, 0), (8, .ifCond .ne 8, 3, 11, 16, 0), (11, .aload_n 0, 1, 12, 0, 0), (12, .getfield 18, 3, 15, 0, 0), (15, .areturn, 1, 16, 0, 0), (16, .aload_n 0, 1, 17, 0, 0), (17, .bipush 8, 2, 19, 0, 8), (19, .aload_n 1, 1, 20, 0, 0), (20, .getfield 134, 3, 23, 0, 0), (23, .aload_n 1, 1, 24, 0, 0), (24, .invokevirtual 55, 3, 27, 0, 0), (27, .astore_n 3, 1, 28, 0, 0), (28, .aload_n 3, 1, 29, 0, 0), (29, .ifnull 15, 3, 32, 44, 0), (32, .aload_n 3, 1, 33, 0, 0), (33, .aload_n 0, 1, 34, 0, 0), (34, .aload_n 2, 1, 35, 0, 0), (35, .invokevirtual 161, 3, 38, 0, 0), (38, .getfield 144, 3, 41, 0, 0), (41, .putfield 188, 3, 44, 0, 0), (44, .aload_n 0, 1, 45, 0, 0), (45, .aload_n 3, 1, 46, 0, 0), (46, .invokevirtual 245, 3, 49, 0, 0), (49, .areturn, 1, 50, 0, 0)]
def G_V_makeMoney : fw_G := (c_V_makeMoney, 4, W_V_makeMoney, R_V, rm_V_makeMoney, (Option.some (Jvm.ClassFile.FieldType.object "CapabilityVats$Reference")), tab_V_makeMoney, y_V_makeMoney)
theorem tok_V_makeMoney : fw_tok c_V_makeMoney W_V_makeMoney R_V tab_V_makeMoney = true := by decide +kernel
theorem hv_V_makeMoney {T : fw_T} (h : TOK T) : HV T G_V_makeMoney R_V := ⟨rfl, h, fun x hx => List.mem_cons_of_mem _ hx⟩
theorem ct_V_makeMoney {T : fw_T} {l : Launch} {w : fw_W} {av : List fw_V} {post : Option fw_V → fw_W → Prop} {L : List (Option fw_V)} (hL : L = av.map some ++ List.replicate (4 - av.length) none) (hlen : av.length ≤ 4) (kk : ∀ X : fw_X, xL X = l → fw_ok T G_V_makeMoney X → fw_ends T G_V_makeMoney X post → J T G_V_makeMoney X 0 L [] w 0 0) : Ct l T y_V_makeMoney W_V_makeMoney rm_V_makeMoney av w post := ct_of (G := G_V_makeMoney) c_V_makeMoney 4 R_V (Option.some (Jvm.ClassFile.FieldType.object "CapabilityVats$Reference")) tab_V_makeMoney rfl (by decide +kernel) rfl rfl tok_V_makeMoney hL hlen kk
end
section
def tab_D_init : List fw_I := [(0, .aload_n 0, 1, 1, 0, 0), (1, .invokespecial 1, 3, 4, 0, 0), (4, .aload_n 0, 1, 5, 0, 0), (5, .bipush 40, 2, 7, 0, 40), (7, .newarray .int, 2, 9, 0, 0), (9, .putfield 7, 3, 12, 0, 0), (12, .aload_n 0, 1, 13, 0, 0), (13, .bipush 40, 2, 15, 0, 40), (15, .newarray .int, 2, 17, 0, 0), (17, .putfield 13, 3, 20, 0, 0), (20, .aload_n 0, 1, 21, 0, 0), (21, .bipush 40, 2, 23, 0, 40), (23, .newarray .int, 2, 25, 0, 0), (25, .putfield 16, 3, 28, 0, 0), (28, .aload_n 0, 1, 29, 0, 0), (29, .bipush 40, 2, 31, 0, 40), (31, .newarray .int, 2, 33, 0, 0), (33, .putfield 19, 3, 36, 0, 0), (36, .aload_n 0, 1, 37, 0, 0), (37, .bipush 40, 2, 39, 0, 40), (39, .newarray .int, 2, 41, 0, 0), (41, .putfield 22, 3, 44, 0, 0), (44, .aload_n 0, 1, 45, 0, 0), (45, .bipush 40, 2, 47, 0, 40), (47, .newarray .boolean, 2, 49, 0, 0), (49, .putfield 25, 3, 52, 0, 0), (52, .aload_n 0, 1, 53, 0, 0), (53, .bipush 40, 2, 55, 0, 40), (55, .newarray .int, 2, 57, 0, 0), (57, .putfield 29, 3, 60, 0, 0), (60, .aload_n 0, 1, 61, 0, 0), (61, .bipush 40, 2, 63, 0, 40), (63, .newarray .int, 2, 65, 0, 0), (65, .putfield 32, 3, 68, 0, 0), (68, .aload_n 0, 1, 69, 0, 0), (69, .sipush 160, 3, 72, 0, 160), (72, .newarray .int, 2, 74, 0, 0), (74, .putfield 35, 3, 77, 0, 0), (77, .aload_n 0, 1, 78, 0, 0), (78, .sipush 160, 3, 81, 0, 160), (81, .newarray .int, 2, 83, 0, 0), (83, .putfield 38, 3, 86, 0, 0), (86, .aload_n 0, 1, 87, 0, 0), (87, .sipush 200, 3, 90, 0, 200), (90, .newarray .int, 2, 92, 0, 0), (92, .putfield 41, 3, 95, 0, 0), (95, .aload_n 0, 1, 96, 0, 0), (96, .sipush 200, 3, 99, 0, 200), (99, .newarray .int, 2, 101, 0, 0), (101, .putfield 44, 3, 104, 0, 0), (104, .aload_n 0, 1, 105, 0, 0), (105, .sipush 200, 3, 108, 0, 200), (108, .newarray .int, 2, 110, 0, 0), (110, .putfield 47, 3, 113, 0, 0), (113, .aload_n 0, 1, 114, 0, 0), (114, .sipush 200, 3, 117, 0, 200), (117, .newarray .int, 2, 119, 0, 0), (119, .putfield 50, 3, 122, 0, 0), (122, .aload_n 0, 1, 123, 0, 0), (123, .sipush 200, 3, 126, 0, 200), (126, .newarray .int, 2, 128, 0, 0), (128, .putfield 53, 3, 131, 0, 0), (131, .aload_n 0, 1, 132, 0, 0), (132, .sipush 200, 3, 135, 0, 200), (135, .newarray .int, 2, 137, 0, 0), (137, .putfield 56, 3, 140, 0, 0), (140, .aload_n 0, 1, 141, 0, 0), (141, .sipush 200, 3, 144, 0, 200), (144, .newarray .int, 2, 146, 0, 0), (146, .putfield 59, 3, 149, 0, 0), (149, .aload_n 0, 1, 150, 0, 0), (150, .sipush 200, 3, 153, 0, 200), (153, .newarray .int, 2, 155, 0, 0), (155, .putfield 62, 3, 158, 0, 0), (158, .aload_n 0, 1, 159, 0, 0), (159, .sipush 200, 3, 162, 0, 200), (162, .newarray .boolean, 2, 164, 0, 0), (164, .putfield 65, 3, 167, 0, 0), (167, .aload_n 0, 1, 168, 0, 0), (168, .sipush 200, 3, 171, 0, 200), (171, .newarray .int, 2, 173, 0, 0), (173, .putfield 68, 3, 176, 0, 0), (176, .aload_n 0, 1, 177, 0, 0), (177, .sipush 200, 3, 180, 0, 200), (180, .newarray .int, 2, 182, 0, 0), (182, .putfield 71, 3, 185, 0, 0), (185, .aload_n 0, 1, 186, 0, 0), (186, .sipush 200, 3, 189, 0, 200), (189, .newarray .int, 2, 191, 0, 0), (191, .putfield 74, 3, 194, 0, 0), (194, .aload_n 0, 1, 195, 0, 0), (195, .sipush 1600, 3, 198, 0, 1600), (198, .newarray .int, 2, 200, 0, 0), (200, .putfield 77, 3, 203, 0, 0), (203, .aload_n 0, 1, 204, 0, 0), (204, .sipush 1600, 3, 207, 0, 1600), (207, .newarray .int, 2, 209, 0, 0), (209, .putfield 80, 3, 212, 0, 0), (212, .return_, 1, 213, 0, 0)]
def G_D_init : fw_G := (c_D_init, 1, W_D_init, R_D, rm_D_init, (Option.none : Option Jvm.ClassFile.FieldType), tab_D_init, y_D_init)
theorem tok_D_init : fw_tok c_D_init W_D_init R_D tab_D_init = true := by decide +kernel
theorem hv_D_init {T : fw_T} (h : TOK T) : HV T G_D_init R_D := ⟨rfl, h, fun x hx => List.mem_cons_of_mem _ hx⟩
theorem ct_D_init {T : fw_T} {l : Launch} {w : fw_W} {av : List fw_V} {post : Option fw_V → fw_W → Prop} {L : List (Option fw_V)} (hL : L = av.map some ++ List.replicate (1 - av.length) none) (hlen : av.length ≤ 1) (kk : ∀ X : fw_X, xL X = l → fw_ok T G_D_init X → fw_ends T G_D_init X post → J T G_D_init X 0 L [] w 0 0) : Ct l T y_D_init W_D_init rm_D_init av w post := ct_of (G := G_D_init) c_D_init 1 R_D (Option.none : Option Jvm.ClassFile.FieldType) tab_D_init rfl (by decide +kernel) rfl rfl tok_D_init hL hlen kk
def tab_D_out : List fw_I := [(0, .iload_n 0, 1, 1, 0, 0), (1, .ifCond .lt 8, 3, 4, 9, 0), (4, .iload_n 0, 1, 5, 0, 0), (5, .iload_n 1, 1, 6, 0, 0), (6, .if_icmp .lt 7, 3, 9, 13, 0), (9, .iconst 1, 1, 10, 0, 1), (10, .goto 4, 3, 13, 14, 0), (13, .iconst 0, 1, 14, 0, 0), (14, .ireturn, 1, 15, 0, 0)]
def G_D_out : fw_G := (c_D_out, 2, W_D_out, R_D, rm_D_out, (Option.some Jvm.ClassFile.FieldType.boolean), tab_D_out, y_D_out)
theorem tok_D_out : fw_tok c_D_out W_D_out R_D tab_D_out = true := by decide +kernel
theorem hv_D_out {T : fw_T} (h : TOK T) : HV T G_D_out R_D := ⟨rfl, h, fun x hx => List.mem_cons_of_mem _ hx⟩
theorem ct_D_out {T : fw_T} {l : Launch} {w : fw_W} {av : List fw_V} {post : Option fw_V → fw_W → Prop} {L : List (Option fw_V)} (hL : L = av.map some ++ List.replicate (2 - av.length) none) (hlen : av.length ≤ 2) (kk : ∀ X : fw_X, xL X = l → fw_ok T G_D_out X → fw_ends T G_D_out X post → J T G_D_out X 0 L [] w 0 0) : Ct l T y_D_out W_D_out rm_D_out av w post := ct_of (G := G_D_out) c_D_out 2 R_D (Option.some Jvm.ClassFile.FieldType.boolean) tab_D_out rfl (by decide +kernel) rfl rfl tok_D_out hL hlen kk
def tab_D_hold : List fw_I := [(0, .aload_n 0, 1, 1, 0, 0), (1, .iload_n 1, 1, 2, 0, 0), (2, .putfield 83, 3, 5, 0, 0), (5, .aload_n 0, 1, 6, 0, 0), (6, .iload_n 2, 1, 7, 0, 0), (7, .putfield 87, 3, 10, 0, 0), (10, .return_, 1, 11, 0, 0)]
def G_D_hold : fw_G := (c_D_hold, 3, W_D_hold, R_D, rm_D_hold, (Option.none : Option Jvm.ClassFile.FieldType), tab_D_hold, y_D_hold)
theorem tok_D_hold : fw_tok c_D_hold W_D_hold R_D tab_D_hold = true := by decide +kernel
theorem hv_D_hold {T : fw_T} (h : TOK T) : HV T G_D_hold R_D := ⟨rfl, h, fun x hx => List.mem_cons_of_mem _ hx⟩
theorem ct_D_hold {T : fw_T} {l : Launch} {w : fw_W} {av : List fw_V} {post : Option fw_V → fw_W → Prop} {L : List (Option fw_V)} (hL : L = av.map some ++ List.replicate (3 - av.length) none) (hlen : av.length ≤ 3) (kk : ∀ X : fw_X, xL X = l → fw_ok T G_D_hold X → fw_ends T G_D_hold X post → J T G_D_hold X 0 L [] w 0 0) : Ct l T y_D_hold W_D_hold rm_D_hold av w post := ct_of (G := G_D_hold) c_D_hold 3 R_D (Option.none : Option Jvm.ClassFile.FieldType) tab_D_hold rfl (by decide +kernel) rfl rfl tok_D_hold hL hlen kk
def tab_D_look : List fw_I := [(0, .aload_n 0, 1, 1, 0, 0), (1, .iload_n 1, 1, 2, 0, 0), (2, .iload_n 2, 1, 3, 0, 0), (3, .invokevirtual 90, 3, 6, 0, 0), (6, .aload_n 0, 1, 7, 0, 0), (7, .getfield 83, 3, 10, 0, 0), (10, .iconst 3, 1, 11, 0, 3), (11, .if_icmp .ne 40, 3, 14, 51, 0), (14, .aload_n 0, 1, 15, 0, 0), (15, .getfield 65, 3, 18, 0, 0), (18, .aload_n 0, 1, 19, 0, 0), (19, .getfield 87, 3, 22, 0, 0), (22, .baload, 1, 23, 0, 0), (23, .ifCond .eq 28, 3, 26, 51, 0), (26, .aload_n 0, 1, 27, 0, 0), (27, .aload_n 0, 1, 28, 0, 0), (28, .getfield 68, 3, 31, 0, 0), (31, .aload_n 0, 1, 32, 0, 0), (32, .getfield 87, 3, 35, 0, 0), (35, .iaload, 1, 36, 0, 0), (36, .aload_n 0, 1, 37, 0, 0), (37, .getfield 71, 3, 40, 0, 0), (40, .aload_n 0, 1, 41, 0, 0), (41, .getfield 87, 3, 44, 0, 0), (44, .iaload, 1, 45, 0, 0), (45, .invokevirtual 90, 3, 48, 0, 0), (48, .goto (-42), 3, 51, 6, 0), (51, .return_, 1, 52, 0, 0)]
def G_D_look : fw_G := (c_D_look, 3, W_D_look, R_D, rm_D_look, (Option.none : Option Jvm.ClassFile.FieldType), tab_D_look, y_D_look)
theorem tok_D_look : fw_tok c_D_look W_D_look R_D tab_D_look = true := by decide +kernel
theorem hv_D_look {T : fw_T} (h : TOK T) : HV T G_D_look R_D := ⟨rfl, h, fun x hx => List.mem_cons_of_mem _ hx⟩
theorem ct_D_look {T : fw_T} {l : Launch} {w : fw_W} {av : List fw_V} {post : Option fw_V → fw_W → Prop} {L : List (Option fw_V)} (hL : L = av.map some ++ List.replicate (3 - av.length) none) (hlen : av.length ≤ 3) (kk : ∀ X : fw_X, xL X = l → fw_ok T G_D_look X → fw_ends T G_D_look X post → J T G_D_look X 0 L [] w 0 0) : Ct l T y_D_look W_D_look rm_D_look av w post := ct_of (G := G_D_look) c_D_look 3 R_D (Option.none : Option Jvm.ClassFile.FieldType) tab_D_look rfl (by decide +kernel) rfl rfl tok_D_look hL hlen kk
def tab_D_broken : List fw_I := [(0, .aload_n 0, 1, 1, 0, 0), (1, .iconst 4, 1, 2, 0, 4), (2, .iconst 0, 1, 3, 0, 0), (3, .invokevirtual 90, 3, 6, 0, 0), (6, .return_, 1, 7, 0, 0)]
def G_D_broken : fw_G := (c_D_broken, 1, W_D_broken, R_D, rm_D_broken, (Option.none : Option Jvm.ClassFile.FieldType), tab_D_broken, y_D_broken)
theorem tok_D_broken : fw_tok c_D_broken W_D_broken R_D tab_D_broken = true := by decide +kernel
theorem hv_D_broken {T : fw_T} (h : TOK T) : HV T G_D_broken R_D := ⟨rfl, h, fun x hx => List.mem_cons_of_mem _ hx⟩
theorem ct_D_broken {T : fw_T} {l : Launch} {w : fw_W} {av : List fw_V} {post : Option fw_V → fw_W → Prop} {L : List (Option fw_V)} (hL : L = av.map some ++ List.replicate (1 - av.length) none) (hlen : av.length ≤ 1) (kk : ∀ X : fw_X, xL X = l → fw_ok T G_D_broken X → fw_ends T G_D_broken X post → J T G_D_broken X 0 L [] w 0 0) : Ct l T y_D_broken W_D_broken rm_D_broken av w post := ct_of (G := G_D_broken) c_D_broken 1 R_D (Option.none : Option Jvm.ClassFile.FieldType) tab_D_broken rfl (by decide +kernel) rfl rfl tok_D_broken hL hlen kk
def tab_D_isObject : List fw_I := [(0, .aload_n 0, 1, 1, 0, 0), (1, .getfield 83, 3, 4, 0, 0), (4, .iconst 2, 1, 5, 0, 2), (5, .if_icmp .ne 20, 3, 8, 25, 0), (8, .aload_n 0, 1, 9, 0, 0), (9, .getfield 7, 3, 12, 0, 0), (12, .aload_n 0, 1, 13, 0, 0), (13, .getfield 87, 3, 16, 0, 0), (16, .iaload, 1, 17, 0, 0), (17, .iload_n 1, 1, 18, 0, 0), (18, .if_icmp .ne 7, 3, 21, 25, 0), (21, .iconst 1, 1, 22, 0, 1), (22, .goto 4, 3, 25, 26, 0), (25, .iconst 0, 1, 26, 0, 0), (26, .ireturn, 1, 27, 0, 0)]
def G_D_isObject : fw_G := (c_D_isObject, 2, W_D_isObject, R_D, rm_D_isObject, (Option.some Jvm.ClassFile.FieldType.boolean), tab_D_isObject, y_D_isObject)
theorem tok_D_isObject : fw_tok c_D_isObject W_D_isObject R_D tab_D_isObject = true := by decide +kernel
theorem hv_D_isObject {T : fw_T} (h : TOK T) : HV T G_D_isObject R_D := ⟨rfl, h, fun x hx => List.mem_cons_of_mem _ hx⟩
theorem ct_D_isObject {T : fw_T} {l : Launch} {w : fw_W} {av : List fw_V} {post : Option fw_V → fw_W → Prop} {L : List (Option fw_V)} (hL : L = av.map some ++ List.replicate (2 - av.length) none) (hlen : av.length ≤ 2) (kk : ∀ X : fw_X, xL X = l → fw_ok T G_D_isObject X → fw_ends T G_D_isObject X post → J T G_D_isObject X 0 L [] w 0 0) : Ct l T y_D_isObject W_D_isObject rm_D_isObject av w post := ct_of (G := G_D_isObject) c_D_isObject 2 R_D (Option.some Jvm.ClassFile.FieldType.boolean) tab_D_isObject rfl (by decide +kernel) rfl rfl tok_D_isObject hL hlen kk
def tab_D_make : List fw_I := [(0, .aload_n 0, 1, 1, 0, 0), (1, .getfield 94, 3, 4, 0, 0), (4, .istore 4, 2, 6, 0, 0), (6, .aload_n 0, 1, 7, 0, 0), (7, .getfield 7, 3, 10, 0, 0), (10, .iload 4, 2, 12, 0, 0), (12, .iload_n 1, 1, 13, 0, 0), (13, .iastore, 1, 14, 0, 0), (14, .aload_n 0, 1, 15, 0, 0), (15, .getfield 13, 3, 18, 0, 0), (18, .iload 4, 2, 20, 0, 0), (20, .iload_n 2, 1, 21, 0, 0), (21, .iastore, 1, 22, 0, 0), (22, .aload_n 0, 1, 23, 0, 0), (23, .getfield 16, 3, 26, 0, 0), (26, .iload 4, 2, 28, 0, 0), (28, .iload_n 3, 1, 29, 0, 0), (29, .iastore, 1, 30, 0, 0), (30, .aload_n 0, 1, 31, 0, 0), (31, .getfield 19, 3, 34, 0, 0), (34, .iload 4, 2, 36, 0, 0), (36, .iconst 0, 1, 37, 0, 0), (37, .iastore, 1, 38, 0, 0), (38, .aload_n 0, 1, 39, 0, 0), (39, .getfield 22, 3, 42, 0, 0), (42, .iload 4, 2, 44, 0, 0), (44, .iconst 0, 1, 45, 0, 0), (45, .iastore, 1, 46, 0, 0), (46, .aload_n 0, 1, 47, 0, 0), (47, .getfield 25, 3, 50, 0, 0), (50, .iload 4, 2, 52, 0, 0), (52, .iconst 0, 1, 53, 0, 0), (53, .bastore, 1, 54, 0, 0), (54, .aload_n 0, 1, 55, 0, 0), (55, .getfield 29, 3, 58, 0, 0), (58, .iload 4, 2, 60, 0, 0), (60, .iconst 0, 1, 61, 0, 0), (61, .iastore, 1, 62, 0, 0), (62, .aload_n 0, 1, 63, 0, 0), (63, .getfield 32, 3, 66, 0, 0), (66, .iload 4, 2, 68, 0, 0), (68, .iconst 0, 1, 69, 0, 0), (69, .iastore, 1, 70, 0, 0), (70, .iconst 0, 1, 71, 0, 0), (71, .istore 5, 2, 73, 0, 0), (73, .iload 5, 2, 75, 0, 0), (75, .iconst 4, 1, 76, 0, 4), (76, .if_icmp .ge 22, 3, 79, 98, 0), (79, .aload_n 0, 1, 80, 0, 0), (80, .getfield 35, 3, 83, 0, 0), (83, .iconst 4, 1, 84, 0, 4), (84, .iload 4, 2, 86, 0, 0), (86, .imul, 1, 87, 0, 0), (87, .iload 5, 2, 89, 0, 0), (89, .iadd, 1, 90, 0, 0), (90, .iconst 0, 1, 91, 0, 0), (91, .iastore, 1, 92, 0, 0), (92, .iinc 5 1, 3, 95, 0, 1), (95, .goto (-22), 3, 98, 73, 0), (98, .aload_n 0, 1, 99, 0, 0), (99, .dup, 1, 100, 0, 0), (100, .getfield 94, 3, 103, 0, 0), (103, .iconst 1, 1, 104, 0, 1), (104, .iadd, 1, 105, 0, 0), (105, .putfield 94, 3, 108, 0, 0), (108, .iload 4, 2, 110, 0, 0), (110, .ireturn, 1, 111, 0, 0)]
def G_D_make : fw_G := (c_D_make, 6, W_D_make, R_D, rm_D_make, (Option.some Jvm.ClassFile.FieldType.int), tab_D_make, y_D_make)
theorem tok_D_make : fw_tok c_D_make W_D_make R_D tab_D_make = true := by decide +kernel
theorem hv_D_make {T : fw_T} (h : TOK T) : HV T G_D_make R_D := ⟨rfl, h, fun x hx => List.mem_cons_of_mem _ hx⟩
theorem ct_D_make {T : fw_T} {l : Launch} {w : fw_W} {av : List fw_V} {post : Option fw_V → fw_W → Prop} {L : List (Option fw_V)} (hL : L = av.map some ++ List.replicate (6 - av.length) none) (hlen : av.length ≤ 6) (kk : ∀ X : fw_X, xL X = l → fw_ok T G_D_make X → fw_ends T G_D_make X post → J T G_D_make X 0 L [] w 0 0) : Ct l T y_D_make W_D_make rm_D_make av w post := ct_of (G := G_D_make) c_D_make 6 R_D (Option.some Jvm.ClassFile.FieldType.int) tab_D_make rfl (by decide +kernel) rfl rfl tok_D_make hL hlen kk
def tab_D_fresh : List fw_I := [(0, .aload_n 0, 1, 1, 0, 0), (1, .getfield 94, 3, 4, 0, 0), (4, .bipush 40, 2, 6, 0, 40), (6, .if_icmp .ne 10, 3, 9, 16, 0), (9, .aload_n 0, 1, 10, 0, 0), (10, .invokevirtual 97, 3, 13, 0, 0), (13, .goto 15, 3, 16, 28, 0), (16, .aload_n 0, 1, 17, 0, 0), (17, .iconst 2, 1, 18, 0, 2), (18, .aload_n 0, 1, 19, 0, 0), (19, .iload_n 1, 1, 20, 0, 0), (20, .iload_n 2, 1, 21, 0, 0), (21, .iload_n 3, 1, 22, 0, 0), (22, .invokevirtual 100, 3, 25, 0, 0), (25, .invokevirtual 90, 3, 28, 0, 0), (28, .return_, 1, 29, 0, 0)]
def G_D_fresh : fw_G := (c_D_fresh, 4, W_D_fresh, R_D, rm_D_fresh, (Option.none : Option Jvm.ClassFile.FieldType), tab_D_fresh, y_D_fresh)
theorem tok_D_fresh : fw_tok c_D_fresh W_D_fresh R_D tab_D_fresh = true := by decide +kernel
theorem hv_D_fresh {T : fw_T} (h : TOK T) : HV T G_D_fresh R_D := ⟨rfl, h, fun x hx => List.mem_cons_of_mem _ hx⟩
theorem ct_D_fresh {T : fw_T} {l : Launch} {w : fw_W} {av : List fw_V} {post : Option fw_V → fw_W → Prop} {L : List (Option fw_V)} (hL : L = av.map some ++ List.replicate (4 - av.length) none) (hlen : av.length ≤ 4) (kk : ∀ X : fw_X, xL X = l → fw_ok T G_D_fresh X → fw_ends T G_D_fresh X post → J T G_D_fresh X 0 L [] w 0 0) : Ct l T y_D_fresh W_D_fresh rm_D_fresh av w post := ct_of (G := G_D_fresh) c_D_fresh 4 R_D (Option.none : Option Jvm.ClassFile.FieldType) tab_D_fresh rfl (by decide +kernel) rfl rfl tok_D_fresh hL hlen kk
def tab_D_stand : List fw_I := [(0, .aload_n 0, 1, 1, 0, 0), (1, .getfield 41, 3, 4, 0, 0), (4, .iload_n 1, 1, 5, 0, 0), (5, .iload_n 2, 1, 6, 0, 0), (6, .iastore, 1, 7, 0, 0), (7, .aload_n 0, 1, 8, 0, 0), (8, .getfield 44, 3, 11, 0, 0), (11, .iload_n 1, 1, 12, 0, 0), (12, .iload_n 3, 1, 13, 0, 0), (13, .iastore, 1, 14, 0, 0), (14, .aload_n 0, 1, 15, 0, 0), (15, .dup, 1, 16, 0, 0), (16, .getfield 104, 3, 19, 0, 0), (19, .iconst 1, 1, 20, 0, 1), (20, .iadd, 1, 21, 0, 0), (21, .putfield 104, 3, 24, 0, 0), (24, .aload_n 0, 1, 25, 0, 0), (25, .getfield 47, 3, 28, 0, 0), (28, .iload_n 1, 1, 29, 0, 0), (29, .aload_n 0, 1, 30, 0, 0), (30, .getfield 104, 3, 33, 0, 0), (33, .iastore, 1, 34, 0, 0), (34, .return_, 1, 35, 0, 0)]
def G_D_stand : fw_G := (c_D_stand, 4, W_D_stand, R_D, rm_D_stand, (Option.none : Option Jvm.ClassFile.FieldType), tab_D_stand, y_D_stand)
theorem tok_D_stand : fw_tok c_D_stand W_D_stand R_D tab_D_stand = true := by decide +kernel
theorem hv_D_stand {T : fw_T} (h : TOK T) : HV T G_D_stand R_D := ⟨rfl, h, fun x hx => List.mem_cons_of_mem _ hx⟩
theorem ct_D_stand {T : fw_T} {l : Launch} {w : fw_W} {av : List fw_V} {post : Option fw_V → fw_W → Prop} {L : List (Option fw_V)} (hL : L = av.map some ++ List.replicate (4 - av.length) none) (hlen : av.length ≤ 4) (kk : ∀ X : fw_X, xL X = l → fw_ok T G_D_stand X → fw_ends T G_D_stand X post → J T G_D_stand X 0 L [] w 0 0) : Ct l T y_D_stand W_D_stand rm_D_stand av w post := ct_of (G := G_D_stand) c_D_stand 4 R_D (Option.none : Option Jvm.ClassFile.FieldType) tab_D_stand rfl (by decide +kernel) rfl rfl tok_D_stand hL hlen kk
def tab_D_nth : List fw_I := [(0, .iconst (-1), 1, 1, 0, (-1)), (1, .istore 4, 2, 3, 0, 0), (3, .iconst (-1), 1, 4, 0, (-1)), (4, .istore 5, 2, 6, 0, 0), (6, .iconst 0, 1, 7, 0, 0), (7, .istore 6, 2, 9, 0, 0), (9, .iload 6, 2, 11, 0, 0), (11, .iload_n 3, 1, 12, 0, 0), (12, .if_icmp .gt 123, 3, 15, 135, 0), (15, .iconst (-1), 1, 16, 0, (-1)), (16, .istore 5, 2, 18, 0, 0), (18, .iconst 0, 1, 19, 0, 0), (19, .istore 7, 2, 21, 0, 0), (21, .iload 7, 2, 23, 0, 0), (23, .aload_n 0, 1, 24, 0, 0), (24, .getfield 107, 3, 27, 0, 0), (27, .if_icmp .ge 86, 3, 30, 113, 0), (30, .aload_n 0, 1, 31, 0, 0), (31, .getfield 41, 3, 34, 0, 0), (34, .iload 7, 2, 36, 0, 0), (36, .iaload, 1, 37, 0, 0), (37, .iload_n 1, 1, 38, 0, 0), (38, .if_icmp .ne 30, 3, 41, 68, 0), (41, .aload_n 0, 1, 42, 0, 0), (42, .getfield 44, 3, 45, 0, 0), (45, .iload 7, 2, 47, 0, 0), (47, .iaload, 1, 48, 0, 0), (48, .iload_n 2, 1, 49, 0, 0), (49, .if_icmp .ne 19, 3, 52, 68, 0), (52, .aload_n 0, 1, 53, 0, 0), (53, .getfield 47, 3, 56, 0, 0), (56, .iload 7, 2, 58, 0, 0), (58, .iaload, 1, 59, 0, 0), (59, .iload 4, 2, 61, 0, 0), (61, .if_icmp .le 7, 3, 64, 68, 0), (64, .iconst 1, 1, 65, 0, 1), (65, .goto 4, 3, 68, 69, 0), (68, .iconst 0, 1, 69, 0, 0), (69, .istore 8, 2, 71, 0, 0), (71, .iload 8, 2, 73, 0, 0), (73, .ifCond .eq 30, 3, 76, 103, 0), (76, .iload 5, 2, 78, 0, 0), (78, .ifCond .lt 20, 3, 81, 98, 0), (81, .aload_n 0, 1, 82, 0, 0), (82, .getfield 47, 3, 85, 0, 0), (85, .iload 7, 2, 87, 0, 0), (87, .iaload, 1, 88, 0, 0), (88, .aload_n 0, 1, 89, 0, 0), (89, .getfield 47, 3, 92, 0, 0), (92, .iload 5, 2, 94, 0, 0), (94, .iaload, 1, 95, 0, 0), (95, .if_icmp .ge 8, 3, 98, 103, 0), (98, .iload 7, 2, 100, 0, 0), (100, .goto 5, 3, 103, 105, 0), (103, .iload 5, 2, 105, 0, 0), (105, .istore 5, 2, 107, 0, 0), (107, .iinc 7 1, 3, 110, 0, 1), (110, .goto (-89), 3, 113, 21, 0), (113, .iload 5, 2, 115, 0, 0), (115, .ifCond .ge 5, 3, 118, 120, 0), (118, .iconst (-1), 1, 119, 0, (-1)), (119, .ireturn, 1, 120, 0, 0), (120, .aload_n 0, 1, 121, 0, 0), (121, .getfield 47, 3, 124, 0, 0), (124, .iload 5, 2, 126, 0, 0), (126, .iaload, 1, 127, 0, 0), (127, .istore 4, 2, 129, 0, 0), (129, .iinc 6 1, 3, 132, 0, 1), (132, .goto (-123), 3, 135, 9, 0), (135, .iload 5, 2, 137, 0, 0), (137, .ireturn, 1, 138, 0, 0)]
def G_D_nth : fw_G := (c_D_nth, 9, W_D_nth, R_D, rm_D_nth, (Option.some Jvm.ClassFile.FieldType.int), tab_D_nth, y_D_nth)
theorem tok_D_nth : fw_tok c_D_nth W_D_nth R_D tab_D_nth = true := by decide +kernel
theorem hv_D_nth {T : fw_T} (h : TOK T) : HV T G_D_nth R_D := ⟨rfl, h, fun x hx => List.mem_cons_of_mem _ hx⟩
theorem ct_D_nth {T : fw_T} {l : Launch} {w : fw_W} {av : List fw_V} {post : Option fw_V → fw_W → Prop} {L : List (Option fw_V)} (hL : L = av.map some ++ List.replicate (9 - av.length) none) (hlen : av.length ≤ 9) (kk : ∀ X : fw_X, xL X = l → fw_ok T G_D_nth X → fw_ends T G_D_nth X post → J T G_D_nth X 0 L [] w 0 0) : Ct l T y_D_nth W_D_nth rm_D_nth av w post := ct_of (G := G_D_nth) c_D_nth 9 R_D (Option.some Jvm.ClassFile.FieldType.int) tab_D_nth rfl (by decide +kernel) rfl rfl tok_D_nth hL hlen kk
def tab_D_count : List fw_I := [(0, .iconst 0, 1, 1, 0, 0), (1, .istore_n 3, 1, 2, 0, 0), (2, .iconst 0, 1, 3, 0, 0), (3, .istore 4, 2, 5, 0, 0), (5, .iload 4, 2, 7, 0, 0), (7, .aload_n 0, 1, 8, 0, 0), (8, .getfield 107, 3, 11, 0, 0), (11, .if_icmp .ge 39, 3, 14, 50, 0), (14, .aload_n 0, 1, 15, 0, 0), (15, .getfield 41, 3, 18, 0, 0), (18, .iload 4, 2, 20, 0, 0), (20, .iaload, 1, 21, 0, 0), (21, .iload_n 1, 1, 22, 0, 0), (22, .if_icmp .ne 20, 3, 25, 42, 0), (25, .aload_n 0, 1, 26, 0, 0), (26, .getfield 44, 3, 29, 0, 0), (29, .iload 4, 2, 31, 0, 0), (31, .iaload, 1, 32, 0, 0), (32, .iload_n 2, 1, 33, 0, 0), (33, .if_icmp .ne 9, 3, 36, 42, 0), (36, .iload_n 3, 1, 37, 0, 0), (37, .iconst 1, 1, 38, 0, 1), (38, .iadd, 1, 39, 0, 0), (39, .goto 4, 3, 42, 43, 0), (42, .iload_n 3, 1, 43, 0, 0), (43, .istore_n 3, 1, 44, 0, 0), (44, .iinc 4 1, 3, 47, 0, 1), (47, .goto (-42), 3, 50, 5, 0), (50, .iload_n 3, 1, 51, 0, 0), (51, .ireturn, 1, 52, 0, 0)]
def G_D_count : fw_G := (c_D_count, 5, W_D_count, R_D, rm_D_count, (Option.some Jvm.ClassFile.FieldType.int), tab_D_count, y_D_count)
theorem tok_D_count : fw_tok c_D_count W_D_count R_D tab_D_count = true := by decide +kernel
theorem hv_D_count {T : fw_T} (h : TOK T) : HV T G_D_count R_D := ⟨rfl, h, fun x hx => List.mem_cons_of_mem _ hx⟩
theorem ct_D_count {T : fw_T} {l : Launch} {w : fw_W} {av : List fw_V} {post : Option fw_V → fw_W → Prop} {L : List (Option fw_V)} (hL : L = av.map some ++ List.replicate (5 - av.length) none) (hlen : av.length ≤ 5) (kk : ∀ X : fw_X, xL X = l → fw_ok T G_D_count X → fw_ends T G_D_count X post → J T G_D_count X 0 L [] w 0 0) : Ct l T y_D_count W_D_count rm_D_count av w post := ct_of (G := G_D_count) c_D_count 5 R_D (Option.some Jvm.ClassFile.FieldType.int) tab_D_count rfl (by decide +kernel) rfl rfl tok_D_count hL hlen kk
def tab_D_route : List fw_I := [(0, .aload_n 0, 1, 1, 0, 0), (1, .iload_n 1, 1, 2, 0, 0), (2, .invokevirtual 110, 3, 5, 0, 0), (5, .aload_n 0, 1, 6, 0, 0), (6, .invokevirtual 114, 3, 9, 0, 0), (9, .istore_n 2, 1, 10, 0, 0), (10, .iload_n 2, 1, 11, 0, 0), (11, .ifCond .lt 16, 3, 14, 27, 0), (14, .aload_n 0, 1, 15, 0, 0), (15, .iload_n 2, 1, 16, 0, 0), (16, .invokevirtual 110, 3, 19, 0, 0), (19, .aload_n 0, 1, 20, 0, 0), (20, .invokevirtual 114, 3, 23, 0, 0), (23, .istore_n 2, 1, 24, 0, 0), (24, .goto (-14), 3, 27, 10, 0), (27, .return_, 1, 28, 0, 0)]
def G_D_route : fw_G := (c_D_route, 3, W_D_route, R_D, rm_D_route, (Option.none : Option Jvm.ClassFile.FieldType), tab_D_route, y_D_route)
theorem tok_D_route : fw_tok c_D_route W_D_route R_D tab_D_route = true := by decide +kernel
theorem hv_D_route {T : fw_T} (h : TOK T) : HV T G_D_route R_D := ⟨rfl, h, fun x hx => List.mem_cons_of_mem _ hx⟩
theorem ct_D_route {T : fw_T} {l : Launch} {w : fw_W} {av : List fw_V} {post : Option fw_V → fw_W → Prop} {L : List (Option fw_V)} (hL : L = av.map some ++ List.replicate (3 - av.length) none) (hlen : av.length ≤ 3) (kk : ∀ X : fw_X, xL X = l → fw_ok T G_D_route X → fw_ends T G_D_route X post → J T G_D_route X 0 L [] w 0 0) : Ct l T y_D_route W_D_route rm_D_route av w post := ct_of (G := G_D_route) c_D_route 3 R_D (Option.none : Option Jvm.ClassFile.FieldType) tab_D_route rfl (by decide +kernel) rfl rfl tok_D_route hL hlen kk
def tab_D_direct : List fw_I := [(0, .aload_n 0, 1, 1, 0, 0), (1, .aload_n 0, 1, 2, 0, 0), (2, .getfield 50, 3, 5, 0, 0), (5, .iload_n 1, 1, 6, 0, 0), (6, .iaload, 1, 7, 0, 0), (7, .aload_n 0, 1, 8, 0, 0), (8, .getfield 53, 3, 11, 0, 0), (11, .iload_n 1, 1, 12, 0, 0), (12, .iaload, 1, 13, 0, 0), (13, .invokevirtual 118, 3, 16, 0, 0), (16, .aload_n 0, 1, 17, 0, 0), (17, .getfield 83, 3, 20, 0, 0), (20, .iconst 2, 1, 21, 0, 2), (21, .if_icmp .ne 21, 3, 24, 42, 0), (24, .aload_n 0, 1, 25, 0, 0), (25, .iload_n 1, 1, 26, 0, 0), (26, .iconst 1, 1, 27, 0, 1), (27, .aload_n 0, 1, 28, 0, 0), (28, .getfield 13, 3, 31, 0, 0), (31, .aload_n 0, 1, 32, 0, 0), (32, .getfield 87, 3, 35, 0, 0), (35, .iaload, 1, 36, 0, 0), (36, .invokevirtual 121, 3, 39, 0, 0), (39, .goto 33, 3, 42, 72, 0), (42, .aload_n 0, 1, 43, 0, 0), (43, .getfield 83, 3, 46, 0, 0), (46, .iconst 3, 1, 47, 0, 3), (47, .if_icmp .ne 16, 3, 50, 63, 0), (50, .aload_n 0, 1, 51, 0, 0), (51, .iload_n 1, 1, 52, 0, 0), (52, .iconst 2, 1, 53, 0, 2), (53, .aload_n 0, 1, 54, 0, 0), (54, .getfield 87, 3, 57, 0, 0), (57, .invokevirtual 121, 3, 60, 0, 0), (60, .goto 12, 3, 63, 72, 0), (63, .aload_n 0, 1, 64, 0, 0), (64, .invokevirtual 97, 3, 67, 0, 0), (67, .aload_n 0, 1, 68, 0, 0), (68, .iload_n 1, 1, 69, 0, 0), (69, .invokevirtual 125, 3, 72, 0, 0), (72, .return_, 1, 73, 0, 0)]
def G_D_direct : fw_G := (c_D_direct, 2, W_D_direct, R_D, rm_D_direct, (Option.none : Option Jvm.ClassFile.FieldType), tab_D_direct, y_D_direct)
theorem tok_D_direct : fw_tok c_D_direct W_D_direct R_D tab_D_direct = true := by decide +kernel
theorem hv_D_direct {T : fw_T} (h : TOK T) : HV T G_D_direct R_D := ⟨rfl, h, fun x hx => List.mem_cons_of_mem _ hx⟩
theorem ct_D_direct {T : fw_T} {l : Launch} {w : fw_W} {av : List fw_V} {post : Option fw_V → fw_W → Prop} {L : List (Option fw_V)} (hL : L = av.map some ++ List.replicate (2 - av.length) none) (hlen : av.length ≤ 2) (kk : ∀ X : fw_X, xL X = l → fw_ok T G_D_direct X → fw_ends T G_D_direct X post → J T G_D_direct X 0 L [] w 0 0) : Ct l T y_D_direct W_D_direct rm_D_direct av w post := ct_of (G := G_D_direct) c_D_direct 2 R_D (Option.none : Option Jvm.ClassFile.FieldType) tab_D_direct rfl (by decide +kernel) rfl rfl tok_D_direct hL hlen kk
def tab_D_released : List fw_I := [(0, .iconst (-1), 1, 1, 0, (-1)), (1, .istore_n 1, 1, 2, 0, 0), (2, .iconst 0, 1, 3, 0, 0), (3, .istore_n 2, 1, 4, 0, 0), (4, .iload_n 2, 1, 5, 0, 0), (5, .aload_n 0, 1, 6, 0, 0), (6, .getfield 107, 3, 9, 0, 0), (9, .if_icmp .ge 68, 3, 12, 77, 0), (12, .aload_n 0, 1, 13, 0, 0), (13, .getfield 41, 3, 16, 0, 0), (16, .iload_n 2, 1, 17, 0, 0), (17, .iaload, 1, 18, 0, 0), (18, .iconst 2, 1, 19, 0, 2), (19, .if_icmp .ne 21, 3, 22, 40, 0), (22, .aload_n 0, 1, 23, 0, 0), (23, .getfield 65, 3, 26, 0, 0), (26, .aload_n 0, 1, 27, 0, 0), (27, .getfield 44, 3, 30, 0, 0), (30, .iload_n 2, 1, 31, 0, 0), (31, .iaload, 1, 32, 0, 0), (32, .baload, 1, 33, 0, 0), (33, .ifCond .eq 7, 3, 36, 40, 0), (36, .iconst 1, 1, 37, 0, 1), (37, .goto 4, 3, 40, 41, 0), (40, .iconst 0, 1, 41, 0, 0), (41, .istore_n 3, 1, 42, 0, 0), (42, .iload_n 3, 1, 43, 0, 0), (43, .ifCond .eq 26, 3, 46, 69, 0), (46, .iload_n 1, 1, 47, 0, 0), (47, .ifCond .lt 18, 3, 50, 65, 0), (50, .aload_n 0, 1, 51, 0, 0), (51, .getfield 47, 3, 54, 0, 0), (54, .iload_n 2, 1, 55, 0, 0), (55, .iaload, 1, 56, 0, 0), (56, .aload_n 0, 1, 57, 0, 0), (57, .getfield 47, 3, 60, 0, 0), (60, .iload_n 1, 1, 61, 0, 0), (61, .iaload, 1, 62, 0, 0), (62, .if_icmp .ge 7, 3, 65, 69, 0), (65, .iload_n 2, 1, 66, 0, 0), (66, .goto 4, 3, 69, 70, 0), (69, .iload_n 1, 1, 70, 0, 0), (70, .istore_n 1, 1, 71, 0, 0), (71, .iinc 2 1, 3, 74, 0, 1), (74, .goto (-70), 3, 77, 4, 0), (77, .iload_n 1, 1, 78, 0, 0), (78, .ireturn, 1, 79, 0, 0)]
def G_D_released : fw_G := (c_D_released, 4, W_D_released, R_D, rm_D_released, (Option.some Jvm.ClassFile.FieldType.int), tab_D_released, y_D_released)
theorem tok_D_released : fw_tok c_D_released W_D_released R_D tab_D_released = true := by decide +kernel
theorem hv_D_released {T : fw_T} (h : TOK T) : HV T G_D_released R_D := ⟨rfl, h, fun x hx => List.mem_cons_of_mem _ hx⟩
theorem ct_D_released {T : fw_T} {l : Launch} {w : fw_W} {av : List fw_V} {post : Option fw_V → fw_W → Prop} {L : List (Option fw_V)} (hL : L = av.map some ++ List.replicate (4 - av.length) none) (hlen : av.length ≤ 4) (kk : ∀ X : fw_X, xL X = l → fw_ok T G_D_released X → fw_ends T G_D_released X post → J T G_D_released X 0 L [] w 0 0) : Ct l T y_D_released W_D_released rm_D_released av w post := ct_of (G := G_D_released) c_D_released 4 R_D (Option.some Jvm.ClassFile.FieldType.int) tab_D_released rfl (by decide +kernel) rfl rfl tok_D_released hL hlen kk
def tab_D_settle : List fw_I := [(0, .aload_n 0, 1, 1, 0, 0), (1, .getfield 83, 3, 4, 0, 0), (4, .istore_n 2, 1, 5, 0, 0), (5, .aload_n 0, 1, 6, 0, 0), (6, .getfield 87, 3, 9, 0, 0), (9, .istore_n 3, 1, 10, 0, 0), (10, .aload_n 0, 1, 11, 0, 0), (11, .iload_n 2, 1, 12, 0, 0), (12, .iload_n 3, 1, 13, 0, 0), (13, .invokevirtual 118, 3, 16, 0, 0), (16, .aload_n 0, 1, 17, 0, 0), (17, .getfield 83, 3, 20, 0, 0), (20, .ifCond .eq 19, 3, 23, 39, 0), (23, .aload_n 0, 1, 24, 0, 0), (24, .getfield 83, 3, 27, 0, 0), (27, .iconst 3, 1, 28, 0, 3), (28, .if_icmp .ne 15, 3, 31, 43, 0), (31, .aload_n 0, 1, 32, 0, 0), (32, .getfield 87, 3, 35, 0, 0), (35, .iload_n 1, 1, 36, 0, 0), (36, .if_icmp .ne 7, 3, 39, 43, 0), (39, .iconst 1, 1, 40, 0, 1), (40, .goto 4, 3, 43, 44, 0), (43, .iconst 0, 1, 44, 0, 0), (44, .istore 4, 2, 46, 0, 0), (46, .aload_n 0, 1, 47, 0, 0), (47, .getfield 65, 3, 50, 0, 0), (50, .iload_n 1, 1, 51, 0, 0), (51, .iconst 1, 1, 52, 0, 1), (52, .bastore, 1, 53, 0, 0), (53, .aload_n 0, 1, 54, 0, 0), (54, .getfield 68, 3, 57, 0, 0), (57, .iload_n 1, 1, 58, 0, 0), (58, .iload 4, 2, 60, 0, 0), (60, .ifCond .eq 7, 3, 63, 67, 0), (63, .iconst 4, 1, 64, 0, 4), (64, .goto 4, 3, 67, 68, 0), (67, .iload_n 2, 1, 68, 0, 0), (68, .iastore, 1, 69, 0, 0), (69, .aload_n 0, 1, 70, 0, 0), (70, .getfield 71, 3, 73, 0, 0), (73, .iload_n 1, 1, 74, 0, 0), (74, .iload 4, 2, 76, 0, 0), (76, .ifCond .eq 7, 3, 79, 83, 0), (79, .iconst 0, 1, 80, 0, 0), (80, .goto 4, 3, 83, 84, 0), (83, .iload_n 3, 1, 84, 0, 0), (84, .iastore, 1, 85, 0, 0), (85, .aload_n 0, 1, 86, 0, 0), (86, .getfield 41, 3, 89, 0, 0), (89, .iload_n 1, 1, 90, 0, 0), (90, .iconst 0, 1, 91, 0, 0), (91, .iastore, 1, 92, 0, 0), (92, .return_, 1, 93, 0, 0)]
def G_D_settle : fw_G := (c_D_settle, 5, W_D_settle, R_D, rm_D_settle, (Option.none : Option Jvm.ClassFile.FieldType), tab_D_settle, y_D_settle)
theorem tok_D_settle : fw_tok c_D_settle W_D_settle R_D tab_D_settle = true := by decide +kernel
theorem hv_D_settle {T : fw_T} (h : TOK T) : HV T G_D_settle R_D := ⟨rfl, h, fun x hx => List.mem_cons_of_mem _ hx⟩
theorem ct_D_settle {T : fw_T} {l : Launch} {w : fw_W} {av : List fw_V} {post : Option fw_V → fw_W → Prop} {L : List (Option fw_V)} (hL : L = av.map some ++ List.replicate (5 - av.length) none) (hlen : av.length ≤ 5) (kk : ∀ X : fw_X, xL X = l → fw_ok T G_D_settle X → fw_ends T G_D_settle X post → J T G_D_settle X 0 L [] w 0 0) : Ct l T y_D_settle W_D_settle rm_D_settle av w post := ct_of (G := G_D_settle) c_D_settle 5 R_D (Option.none : Option Jvm.ClassFile.FieldType) tab_D_settle rfl (by decide +kernel) rfl rfl tok_D_settle hL hlen kk
def tab_D_isSlot : List fw_I := [(0, .iload_n 1, 1, 1, 0, 0), (1, .aload_n 0, 1, 2, 0, 0), (2, .getfield 94, 3, 5, 0, 0), (5, .invokestatic 128, 3, 8, 0, 0), (8, .ifCond .ne 24, 3, 11, 32, 0), (11, .aload_n 0, 1, 12, 0, 0), (12, .getfield 7, 3, 15, 0, 0), (15, .iload_n 1, 1, 16, 0, 0), (16, .iaload, 1, 17, 0, 0), (17, .ifCond .ne 15, 3, 20, 32, 0), (20, .iload_n 2, 1, 21, 0, 0), (21, .iconst 4, 1, 22, 0, 4), (22, .invokestatic 128, 3, 25, 0, 0), (25, .ifCond .ne 7, 3, 28, 32, 0), (28, .iconst 1, 1, 29, 0, 1), (29, .goto 4, 3, 32, 33, 0), (32, .iconst 0, 1, 33, 0, 0), (33, .ireturn, 1, 34, 0, 0)]
def G_D_isSlot : fw_G := (c_D_isSlot, 3, W_D_isSlot, R_D, rm_D_isSlot, (Option.some Jvm.ClassFile.FieldType.boolean), tab_D_isSlot, y_D_isSlot)
theorem tok_D_isSlot : fw_tok c_D_isSlot W_D_isSlot R_D tab_D_isSlot = true := by decide +kernel
theorem hv_D_isSlot {T : fw_T} (h : TOK T) : HV T G_D_isSlot R_D := ⟨rfl, h, fun x hx => List.mem_cons_of_mem _ hx⟩
theorem ct_D_isSlot {T : fw_T} {l : Launch} {w : fw_W} {av : List fw_V} {post : Option fw_V → fw_W → Prop} {L : List (Option fw_V)} (hL : L = av.map some ++ List.replicate (3 - av.length) none) (hlen : av.length ≤ 3) (kk : ∀ X : fw_X, xL X = l → fw_ok T G_D_isSlot X → fw_ends T G_D_isSlot X post → J T G_D_isSlot X 0 L [] w 0 0) : Ct l T y_D_isSlot W_D_isSlot rm_D_isSlot av w post := ct_of (G := G_D_isSlot) c_D_isSlot 3 R_D (Option.some Jvm.ClassFile.FieldType.boolean) tab_D_isSlot rfl (by decide +kernel) rfl rfl tok_D_isSlot hL hlen kk
def tab_D_cell : List fw_I := [(0, .iload_n 1, 1, 1, 0, 0), (1, .iconst 3, 1, 2, 0, 3), (2, .invokestatic 128, 3, 5, 0, 0), (5, .ifCond .eq 5, 3, 8, 10, 0), (8, .iconst (-1), 1, 9, 0, (-1)), (9, .ireturn, 1, 10, 0, 0), (10, .aload_n 0, 1, 11, 0, 0), (11, .getfield 94, 3, 14, 0, 0), (14, .bipush 40, 2, 16, 0, 40), (16, .if_icmp .ne 8, 3, 19, 24, 0), (19, .bipush (-2), 2, 21, 0, (-2)), (21, .goto 10, 3, 24, 31, 0), (24, .aload_n 0, 1, 25, 0, 0), (25, .iconst 0, 1, 26, 0, 0), (26, .iload_n 1, 1, 27, 0, 0), (27, .iconst 0, 1, 28, 0, 0), (28, .invokevirtual 100, 3, 31, 0, 0), (31, .ireturn, 1, 32, 0, 0)]
def G_D_cell : fw_G := (c_D_cell, 2, W_D_cell, R_D, rm_D_cell, (Option.some Jvm.ClassFile.FieldType.int), tab_D_cell, y_D_cell)
theorem tok_D_cell : fw_tok c_D_cell W_D_cell R_D tab_D_cell = true := by decide +kernel
theorem hv_D_cell {T : fw_T} (h : TOK T) : HV T G_D_cell R_D := ⟨rfl, h, fun x hx => List.mem_cons_of_mem _ hx⟩
theorem ct_D_cell {T : fw_T} {l : Launch} {w : fw_W} {av : List fw_V} {post : Option fw_V → fw_W → Prop} {L : List (Option fw_V)} (hL : L = av.map some ++ List.replicate (2 - av.length) none) (hlen : av.length ≤ 2) (kk : ∀ X : fw_X, xL X = l → fw_ok T G_D_cell X → fw_ends T G_D_cell X post → J T G_D_cell X 0 L [] w 0 0) : Ct l T y_D_cell W_D_cell rm_D_cell av w post := ct_of (G := G_D_cell) c_D_cell 2 R_D (Option.some Jvm.ClassFile.FieldType.int) tab_D_cell rfl (by decide +kernel) rfl rfl tok_D_cell hL hlen kk
def tab_D_number : List fw_I := [(0, .aload_n 0, 1, 1, 0, 0), (1, .iload_n 1, 1, 2, 0, 0), (2, .iload_n 2, 1, 3, 0, 0), (3, .invokevirtual 132, 3, 6, 0, 0), (6, .ifCond .ne 5, 3, 9, 11, 0), (9, .iconst 0, 1, 10, 0, 0), (10, .ireturn, 1, 11, 0, 0), (11, .aload_n 0, 1, 12, 0, 0), (12, .getfield 35, 3, 15, 0, 0), (15, .iconst 4, 1, 16, 0, 4), (16, .iload_n 1, 1, 17, 0, 0), (17, .imul, 1, 18, 0, 0), (18, .iload_n 2, 1, 19, 0, 0), (19, .iadd, 1, 20, 0, 0), (20, .iconst 1, 1, 21, 0, 1), (21, .iastore, 1, 22, 0, 0), (22, .aload_n 0, 1, 23, 0, 0), (23, .getfield 38, 3, 26, 0, 0), (26, .iconst 4, 1, 27, 0, 4), (27, .iload_n 1, 1, 28, 0, 0), (28, .imul, 1, 29, 0, 0), (29, .iload_n 2, 1, 30, 0, 0), (30, .iadd, 1, 31, 0, 0), (31, .iload_n 3, 1, 32, 0, 0), (32, .iastore, 1, 33, 0, 0), (33, .iconst 1, 1, 34, 0, 1), (34, .ireturn, 1, 35, 0, 0)]
def G_D_number : fw_G := (c_D_number, 4, W_D_number, R_D, rm_D_number, (Option.some Jvm.ClassFile.FieldType.boolean), tab_D_number, y_D_number)
theorem tok_D_number : fw_tok c_D_number W_D_number R_D tab_D_number = true := by decide +kernel
theorem hv_D_number {T : fw_T} (h : TOK T) : HV T G_D_number R_D := ⟨rfl, h, fun x hx => List.mem_cons_of_mem _ hx⟩
theorem ct_D_number {T : fw_T} {l : Launch} {w : fw_W} {av : List fw_V} {post : Option fw_V → fw_W → Prop} {L : List (Option fw_V)} (hL : L = av.map some ++ List.replicate (4 - av.length) none) (hlen : av.length ≤ 4) (kk : ∀ X : fw_X, xL X = l → fw_ok T G_D_number X → fw_ends T G_D_number X post → J T G_D_number X 0 L [] w 0 0) : Ct l T y_D_number W_D_number rm_D_number av w post := ct_of (G := G_D_number) c_D_number 4 R_D (Option.some Jvm.ClassFile.FieldType.boolean) tab_D_number rfl (by decide +kernel) rfl rfl tok_D_number hL hlen kk
def tab_D_introduce : List fw_I := [(0, .aload_n 0, 1, 1, 0, 0), (1, .iload_n 1, 1, 2, 0, 0), (2, .iload_n 2, 1, 3, 0, 0), (3, .invokevirtual 132, 3, 6, 0, 0), (6, .ifCond .eq 14, 3, 9, 20, 0), (9, .iload_n 3, 1, 10, 0, 0), (10, .aload_n 0, 1, 11, 0, 0), (11, .getfield 94, 3, 14, 0, 0), (14, .invokestatic 128, 3, 17, 0, 0), (17, .ifCond .eq 5, 3, 20, 22, 0), (20, .iconst 0, 1, 21, 0, 0), (21, .ireturn, 1, 22, 0, 0), (22, .aload_n 0, 1, 23, 0, 0), (23, .getfield 35, 3, 26, 0, 0), (26, .iconst 4, 1, 27, 0, 4), (27, .iload_n 1, 1, 28, 0, 0), (28, .imul, 1, 29, 0, 0), (29, .iload_n 2, 1, 30, 0, 0), (30, .iadd, 1, 31, 0, 0), (31, .iconst 2, 1, 32, 0, 2), (32, .iastore, 1, 33, 0, 0), (33, .aload_n 0, 1, 34, 0, 0), (34, .getfield 38, 3, 37, 0, 0), (37, .iconst 4, 1, 38, 0, 4), (38, .iload_n 1, 1, 39, 0, 0), (39, .imul, 1, 40, 0, 0), (40, .iload_n 2, 1, 41, 0, 0), (41, .iadd, 1, 42, 0, 0), (42, .iload_n 3, 1, 43, 0, 0), (43, .iastore, 1, 44, 0, 0), (44, .iconst 1, 1, 45, 0, 1), (45, .ireturn, 1, 46, 0, 0)]
def G_D_introduce : fw_G := (c_D_introduce, 4, W_D_introduce, R_D, rm_D_introduce, (Option.some Jvm.ClassFile.FieldType.boolean), tab_D_introduce, y_D_introduce)
theorem tok_D_introduce : fw_tok c_D_introduce W_D_introduce R_D tab_D_introduce = true := by decide +kernel
theorem hv_D_introduce {T : fw_T} (h : TOK T) : HV T G_D_introduce R_D := ⟨rfl, h, fun x hx => List.mem_cons_of_mem _ hx⟩
theorem ct_D_introduce {T : fw_T} {l : Launch} {w : fw_W} {av : List fw_V} {post : Option fw_V → fw_W → Prop} {L : List (Option fw_V)} (hL : L = av.map some ++ List.replicate (4 - av.length) none) (hlen : av.length ≤ 4) (kk : ∀ X : fw_X, xL X = l → fw_ok T G_D_introduce X → fw_ends T G_D_introduce X post → J T G_D_introduce X 0 L [] w 0 0) : Ct l T y_D_introduce W_D_introduce rm_D_introduce av w post := ct_of (G := G_D_introduce) c_D_introduce 4 R_D (Option.some Jvm.ClassFile.FieldType.boolean) tab_D_introduce rfl (by decide +kernel) rfl rfl tok_D_introduce hL hlen kk
def tab_D_send : List fw_I := [(0, .aload_n 0, 1, 1, 0, 0), (1, .iload_n 1, 1, 2, 0, 0), (2, .iload_n 2, 1, 3, 0, 0), (3, .invokevirtual 132, 3, 6, 0, 0), (6, .ifCond .eq 42, 3, 9, 48, 0), (9, .iload_n 3, 1, 10, 0, 0), (10, .bipush 16, 2, 12, 0, 16), (12, .invokestatic 128, 3, 15, 0, 0), (15, .ifCond .ne 33, 3, 18, 48, 0), (18, .iload 4, 2, 20, 0, 0), (20, .iconst 4, 1, 21, 0, 4), (21, .invokestatic 128, 3, 24, 0, 0), (24, .ifCond .eq 9, 3, 27, 33, 0), (27, .iload 4, 2, 29, 0, 0), (29, .iconst (-1), 1, 30, 0, (-1)), (30, .if_icmp .ne 18, 3, 33, 48, 0), (33, .iload 5, 2, 35, 0, 0), (35, .iconst 4, 1, 36, 0, 4), (36, .invokestatic 128, 3, 39, 0, 0), (39, .ifCond .eq 11, 3, 42, 50, 0), (42, .iload 5, 2, 44, 0, 0), (44, .iconst (-1), 1, 45, 0, (-1)), (45, .if_icmp .eq 5, 3, 48, 50, 0), (48, .iconst (-1), 1, 49, 0, (-1)), (49, .ireturn, 1, 50, 0, 0), (50, .aload_n 0, 1, 51, 0, 0), (51, .getfield 107, 3, 54, 0, 0), (54, .sipush 200, 3, 57, 0, 200), (57, .if_icmp .ne 6, 3, 60, 63, 0), (60, .bipush (-2), 2, 62, 0, (-2)), (62, .ireturn, 1, 63, 0, 0), (63, .aload_n 0, 1, 64, 0, 0), (64, .getfield 107, 3, 67, 0, 0), (67, .istore 6, 2, 69, 0, 0), (69, .aload_n 0, 1, 70, 0, 0), (70, .dup, 1, 71, 0, 0), (71, .getfield 107, 3, 74, 0, 0), (74, .iconst 1, 1, 75, 0, 1), (75, .iadd, 1, 76, 0, 0), (76, .putfield 107, 3, 79, 0, 0), (79, .aload_n 0, 1, 80, 0, 0), (80, .getfield 50, 3, 83, 0, 0), (83, .iload 6, 2, 85, 0, 0), (85, .aload_n 0, 1, 86, 0, 0), (86, .getfield 35, 3, 89, 0, 0), (89, .iconst 4, 1, 90, 0, 4), (90, .iload_n 1, 1, 91, 0, 0), (91, .imul, 1, 92, 0, 0), (92, .iload_n 2, 1, 93, 0, 0), (93, .iadd, 1, 94, 0, 0), (94, .iaload, 1, 95, 0, 0), (95, .iastore, 1, 96, 0, 0), (96, .aload_n 0, 1, 97, 0, 0), (97, .getfield 53, 3, 100, 0, 0), (100, .iload 6, 2, 102, 0, 0), (102, .aload_n 0, 1, 103, 0, 0), (103, .getfield 38, 3, 106, 0, 0), (106, .iconst 4, 1, 107, 0, 4), (107, .iload_n 1, 1, 108, 0, 0), (108, .imul, 1, 109, 0, 0), (109, .iload_n 2, 1, 110, 0, 0), (110, .iadd, 1, 111, 0, 0), (111, .iaload, 1, 112, 0, 0), (112, .iastore, 1, 113, 0, 0), (113, .aload_n 0, 1, 114, 0, 0), (114, .getfield 56, 3, 117, 0, 0), (117, .iload 6, 2, 119, 0, 0), (119, .iload_n 3, 1, 120, 0, 0), (120, .iastore, 1, 121, 0, 0), (121, .aload_n 0, 1, 122, 0, 0), (122, .getfield 59, 3, 125, 0, 0), (125, .iload 6, 2, 127, 0, 0), (127, .iload 4, 2, 129, 0, 0), (129, .ifCond .ge 7, 3, 132, 136, 0), (132, .iconst 0, 1, 133, 0, 0), (133, .goto 14, 3, 136, 147, 0), (136, .aload_n 0, 1, 137, 0, 0), (137, .getfield 35, 3, 140, 0, 0), (140, .iconst 4, 1, 141, 0, 4), (141, .iload_n 1, 1, 142, 0, 0), (142, .imul, 1, 143, 0, 0), (143, .iload 4, 2, 145, 0, 0), (145, .iadd, 1, 146, 0, 0), (146, .iaload, 1, 147, 0, 0), (147, .iastore, 1, 148, 0, 0), (148, .aload_n 0, 1, 149, 0, 0), (149, .getfield 62, 3, 152, 0, 0), (152, .iload 6, 2, 154, 0, 0), (154, .iload 4, 2, 156, 0, 0), (156, .ifCond .ge 7, 3, 159, 163, 0), (159, .iconst 0, 1, 160, 0, 0), (160, .goto 14, 3, 163, 174, 0), (163, .aload_n 0, 1, 164, 0, 0), (164, .getfield 38, 3, 167, 0, 0), (167, .iconst 4, 1, 168, 0, 4), (168, .iload_n 1, 1, 169, 0, 0), (169, .imul, 1, 170, 0, 0), (170, .iload 4, 2, 172, 0, 0), (172, .iadd, 1, 173, 0, 0), (173, .iaload, 1, 174, 0, 0), (174, .iastore, 1, 175, 0, 0), (175, .aload_n 0, 1, 176, 0, 0), (176, .getfield 65, 3, 179, 0, 0), (179, .iload 6, 2, 181, 0, 0), (181, .iconst 0, 1, 182, 0, 0), (182, .bastore, 1, 183, 0, 0), (183, .aload_n 0, 1, 184, 0, 0), (184, .getfield 74, 3, 187, 0, 0), (187, .iload 6, 2, 189, 0, 0), (189, .iconst 0, 1, 190, 0, 0), (190, .iastore, 1, 191, 0, 0), (191, .iload 5, 2, 193, 0, 0), (193, .ifCond .lt 28, 3, 196, 221, 0), (196, .aload_n 0, 1, 197, 0, 0), (197, .getfield 35, 3, 200, 0, 0), (200, .iconst 4, 1, 201, 0, 4), (201, .iload_n 1, 1, 202, 0, 0), (202, .imul, 1, 203, 0, 0), (203, .iload 5, 2, 205, 0, 0), (205, .iadd, 1, 206, 0, 0), (206, .iconst 3, 1, 207, 0, 3), (207, .iastore, 1, 208, 0, 0), (208, .aload_n 0, 1, 209, 0, 0), (209, .getfield 38, 3, 212, 0, 0), (212, .iconst 4, 1, 213, 0, 4), (213, .iload_n 1, 1, 214, 0, 0), (214, .imul, 1, 215, 0, 0), (215, .iload 5, 2, 217, 0, 0), (217, .iadd, 1, 218, 0, 0), (218, .iload 6, 2, 220, 0, 0), (220, .iastore, 1, 221, 0, 0), (221, .aload_n 0, 1, 222, 0, 0), (222, .iload 6, 2, 224, 0, 0), (224, .invokevirtual 135, 3, 227, 0, 0), (227, .iload 6, 2, 229, 0, 0), (229, .ireturn, 1, 230, 0, 0)]
def G_D_send : fw_G := (c_D_send, 7, W_D_send, R_D, rm_D_send, (Option.some Jvm.ClassFile.FieldType.int), tab_D_send, y_D_send)
theorem tok_D_send : fw_tok c_D_send W_D_send R_D tab_D_send = true := by decide +kernel
theorem hv_D_send {T : fw_T} (h : TOK T) : HV T G_D_send R_D := ⟨rfl, h, fun x hx => List.mem_cons_of_mem _ hx⟩
theorem ct_D_send {T : fw_T} {l : Launch} {w : fw_W} {av : List fw_V} {post : Option fw_V → fw_W → Prop} {L : List (Option fw_V)} (hL : L = av.map some ++ List.replicate (7 - av.length) none) (hlen : av.length ≤ 7) (kk : ∀ X : fw_X, xL X = l → fw_ok T G_D_send X → fw_ends T G_D_send X post → J T G_D_send X 0 L [] w 0 0) : Ct l T y_D_send W_D_send rm_D_send av w post := ct_of (G := G_D_send) c_D_send 7 R_D (Option.some Jvm.ClassFile.FieldType.int) tab_D_send rfl (by decide +kernel) rfl rfl tok_D_send hL hlen kk
def tab_D_turn : List fw_I := [(0, .iload_n 1, 1, 1, 0, 0), (1, .iconst 3, 1, 2, 0, 3), (2, .invokestatic 128, 3, 5, 0, 0), (5, .ifCond .eq 5, 3, 8, 10, 0), (8, .iconst (-1), 1, 9, 0, (-1)), (9, .ireturn, 1, 10, 0, 0), (10, .aload_n 0, 1, 11, 0, 0), (11, .iconst 1, 1, 12, 0, 1), (12, .iload_n 1, 1, 13, 0, 0), (13, .iconst 0, 1, 14, 0, 0), (14, .invokevirtual 138, 3, 17, 0, 0), (17, .istore_n 2, 1, 18, 0, 0), (18, .iload_n 2, 1, 19, 0, 0), (19, .ifCond .ge 6, 3, 22, 25, 0), (22, .bipush (-3), 2, 24, 0, (-3)), (24, .ireturn, 1, 25, 0, 0), (25, .aload_n 0, 1, 26, 0, 0), (26, .aload_n 0, 1, 27, 0, 0), (27, .getfield 50, 3, 30, 0, 0), (30, .iload_n 2, 1, 31, 0, 0), (31, .iaload, 1, 32, 0, 0), (32, .aload_n 0, 1, 33, 0, 0), (33, .getfield 53, 3, 36, 0, 0), (36, .iload_n 2, 1, 37, 0, 0), (37, .iaload, 1, 38, 0, 0), (38, .invokevirtual 118, 3, 41, 0, 0), (41, .aload_n 0, 1, 42, 0, 0), (42, .iload_n 2, 1, 43, 0, 0), (43, .aload_n 0, 1, 44, 0, 0), (44, .getfield 87, 3, 47, 0, 0), (47, .invokevirtual 141, 3, 50, 0, 0), (50, .ifCond .eq 38, 3, 53, 88, 0), (53, .aload_n 0, 1, 54, 0, 0), (54, .iload_n 2, 1, 55, 0, 0), (55, .invokevirtual 144, 3, 58, 0, 0), (58, .aload_n 0, 1, 59, 0, 0), (59, .iload_n 2, 1, 60, 0, 0), (60, .invokevirtual 125, 3, 63, 0, 0), (63, .aload_n 0, 1, 64, 0, 0), (64, .invokevirtual 114, 3, 67, 0, 0), (67, .istore_n 3, 1, 68, 0, 0), (68, .iload_n 3, 1, 69, 0, 0), (69, .ifCond .lt 16, 3, 72, 85, 0), (72, .aload_n 0, 1, 73, 0, 0), (73, .iload_n 3, 1, 74, 0, 0), (74, .invokevirtual 110, 3, 77, 0, 0), (77, .aload_n 0, 1, 78, 0, 0), (78, .invokevirtual 114, 3, 81, 0, 0), (81, .istore_n 3, 1, 82, 0, 0), (82, .goto (-14), 3, 85, 68, 0), (85, .goto 8, 3, 88, 93, 0), (88, .aload_n 0, 1, 89, 0, 0), (89, .iload_n 2, 1, 90, 0, 0), (90, .invokevirtual 135, 3, 93, 0, 0), (93, .iload_n 2, 1, 94, 0, 0), (94, .ireturn, 1, 95, 0, 0)]
def G_D_turn : fw_G := (c_D_turn, 4, W_D_turn, R_D, rm_D_turn, (Option.some Jvm.ClassFile.FieldType.int), tab_D_turn, y_D_turn)
theorem tok_D_turn : fw_tok c_D_turn W_D_turn R_D tab_D_turn = true := by decide +kernel
theorem hv_D_turn {T : fw_T} (h : TOK T) : HV T G_D_turn R_D := ⟨rfl, h, fun x hx => List.mem_cons_of_mem _ hx⟩
theorem ct_D_turn {T : fw_T} {l : Launch} {w : fw_W} {av : List fw_V} {post : Option fw_V → fw_W → Prop} {L : List (Option fw_V)} (hL : L = av.map some ++ List.replicate (4 - av.length) none) (hlen : av.length ≤ 4) (kk : ∀ X : fw_X, xL X = l → fw_ok T G_D_turn X → fw_ends T G_D_turn X post → J T G_D_turn X 0 L [] w 0 0) : Ct l T y_D_turn W_D_turn rm_D_turn av w post := ct_of (G := G_D_turn) c_D_turn 4 R_D (Option.some Jvm.ClassFile.FieldType.int) tab_D_turn rfl (by decide +kernel) rfl rfl tok_D_turn hL hlen kk
def tab_D_answers : List fw_I := [(0, .aload_n 0, 1, 1, 0, 0), (1, .getfield 56, 3, 4, 0, 0), (4, .iload_n 1, 1, 5, 0, 0), (5, .iaload, 1, 6, 0, 0), (6, .istore_n 3, 1, 7, 0, 0), (7, .aload_n 0, 1, 8, 0, 0), (8, .getfield 7, 3, 11, 0, 0), (11, .iload_n 2, 1, 12, 0, 0), (12, .iaload, 1, 13, 0, 0), (13, .istore 4, 2, 15, 0, 0), (15, .iload 4, 2, 17, 0, 0), (17, .iconst 2, 1, 18, 0, 2), (18, .if_icmp .eq 10, 3, 21, 28, 0), (21, .iload 4, 2, 23, 0, 0), (23, .bipush 10, 2, 25, 0, 10), (25, .if_icmp .ne 18, 3, 28, 43, 0), (28, .aload_n 0, 1, 29, 0, 0), (29, .iload_n 1, 1, 30, 0, 0), (30, .iload_n 2, 1, 31, 0, 0), (31, .invokevirtual 147, 3, 34, 0, 0), (34, .ifCond .ne 7, 3, 37, 41, 0), (37, .iconst 1, 1, 38, 0, 1), (38, .goto 4, 3, 41, 42, 0), (41, .iconst 0, 1, 42, 0, 0), (42, .ireturn, 1, 43, 0, 0), (43, .aload_n 0, 1, 44, 0, 0), (44, .aload_n 0, 1, 45, 0, 0), (45, .getfield 59, 3, 48, 0, 0), (48, .iload_n 1, 1, 49, 0, 0), (49, .iaload, 1, 50, 0, 0), (50, .aload_n 0, 1, 51, 0, 0), (51, .getfield 62, 3, 54, 0, 0), (54, .iload_n 1, 1, 55, 0, 0), (55, .iaload, 1, 56, 0, 0), (56, .invokevirtual 118, 3, 59, 0, 0), (59, .iload 4, 2, 61, 0, 0), (61, .ifCond .ne 13, 3, 64, 74, 0), (64, .aload_n 0, 1, 65, 0, 0), (65, .iload_n 1, 1, 66, 0, 0), (66, .iload_n 2, 1, 67, 0, 0), (67, .iload_n 3, 1, 68, 0, 0), (68, .invokevirtual 150, 3, 71, 0, 0), (71, .goto 135, 3, 74, 206, 0), (74, .iload 4, 2, 76, 0, 0), (76, .iconst 1, 1, 77, 0, 1), (77, .if_icmp .eq 10, 3, 80, 87, 0), (80, .iload 4, 2, 82, 0, 0), (82, .bipush 9, 2, 84, 0, 9), (84, .if_icmp .ne 12, 3, 87, 96, 0), (87, .aload_n 0, 1, 88, 0, 0), (88, .iload_n 2, 1, 89, 0, 0), (89, .iload_n 3, 1, 90, 0, 0), (90, .invokevirtual 153, 3, 93, 0, 0), (93, .goto 113, 3, 96, 206, 0), (96, .iload 4, 2, 98, 0, 0), (98, .iconst 3, 1, 99, 0, 3), (99, .if_icmp .ne 31, 3, 102, 130, 0), (102, .iload_n 3, 1, 103, 0, 0), (103, .iconst 2, 1, 104, 0, 2), (104, .if_icmp .ge 26, 3, 107, 130, 0), (107, .aload_n 0, 1, 108, 0, 0), (108, .iload_n 3, 1, 109, 0, 0), (109, .ifCond .ne 7, 3, 112, 116, 0), (112, .iconst 4, 1, 113, 0, 4), (113, .goto 4, 3, 116, 117, 0), (116, .iconst 5, 1, 117, 0, 5), (117, .aload_n 0, 1, 118, 0, 0), (118, .getfield 13, 3, 121, 0, 0), (121, .iload_n 2, 1, 122, 0, 0), (122, .iaload, 1, 123, 0, 0), (123, .iload_n 2, 1, 124, 0, 0), (124, .invokevirtual 156, 3, 127, 0, 0), (127, .goto 79, 3, 130, 206, 0), (130, .iload 4, 2, 132, 0, 0), (132, .iconst 4, 1, 133, 0, 4), (133, .if_icmp .ne 16, 3, 136, 149, 0), (136, .iload_n 3, 1, 137, 0, 0), (137, .ifCond .ne 12, 3, 140, 149, 0), (140, .aload_n 0, 1, 141, 0, 0), (141, .iload_n 1, 1, 142, 0, 0), (142, .iload_n 2, 1, 143, 0, 0), (143, .invokevirtual 159, 3, 146, 0, 0), (146, .goto 60, 3, 149, 206, 0), (149, .iload 4, 2, 151, 0, 0), (151, .iconst 5, 1, 152, 0, 5), (152, .if_icmp .ne 15, 3, 155, 167, 0), (155, .iload_n 3, 1, 156, 0, 0), (156, .ifCond .ne 11, 3, 159, 167, 0), (159, .aload_n 0, 1, 160, 0, 0), (160, .iload_n 2, 1, 161, 0, 0), (161, .invokevirtual 162, 3, 164, 0, 0), (164, .goto 42, 3, 167, 206, 0), (167, .iload 4, 2, 169, 0, 0), (169, .bipush 7, 2, 171, 0, 7), (171, .if_icmp .ne 15, 3, 174, 186, 0), (174, .iload_n 3, 1, 175, 0, 0), (175, .ifCond .ne 11, 3, 178, 186, 0), (178, .aload_n 0, 1, 179, 0, 0), (179, .iload_n 2, 1, 180, 0, 0), (180, .invokevirtual 165, 3, 183, 0, 0), (183, .goto 23, 3, 186, 206, 0), (186, .iload 4, 2, 188, 0, 0), (188, .bipush 8, 2, 190, 0, 8), (190, .if_icmp .ne 12, 3, 193, 202, 0), (193, .aload_n 0, 1, 194, 0, 0), (194, .iload_n 2, 1, 195, 0, 0), (195, .iload_n 3, 1, 196, 0, 0), (196, .invokevirtual 168, 3, 199, 0, 0), (199, .goto 7, 3, 202, 206, 0), (202, .aload_n 0, 1, 203, 0, 0), (203, .invokevirtual 97, 3, 206, 0, 0), (206, .iconst 1, 1, 207, 0, 1), (207, .ireturn, 1, 208, 0, 0)]
def G_D_answers : fw_G := (c_D_answers, 5, W_D_answers, R_D, rm_D_answers, (Option.some Jvm.ClassFile.FieldType.boolean), tab_D_answers, y_D_answers)
theorem tok_D_answers : fw_tok c_D_answers W_D_answers R_D tab_D_answers = true := by decide +kernel
theorem hv_D_answers {T : fw_T} (h : TOK T) : HV T G_D_answers R_D := ⟨rfl, h, fun x hx => List.mem_cons_of_mem _ hx⟩
theorem ct_D_answers {T : fw_T} {l : Launch} {w : fw_W} {av : List fw_V} {post : Option fw_V → fw_W → Prop} {L : List (Option fw_V)} (hL : L = av.map some ++ List.replicate (5 - av.length) none) (hlen : av.length ≤ 5) (kk : ∀ X : fw_X, xL X = l → fw_ok T G_D_answers X → fw_ends T G_D_answers X post → J T G_D_answers X 0 L [] w 0 0) : Ct l T y_D_answers W_D_answers rm_D_answers av w post := ct_of (G := G_D_answers) c_D_answers 5 R_D (Option.some Jvm.ClassFile.FieldType.boolean) tab_D_answers rfl (by decide +kernel) rfl rfl tok_D_answers hL hlen kk
def tab_D_ofCell : List fw_I := [(0, .aload_n 0, 1, 1, 0, 0), (1, .getfield 13, 3, 4, 0, 0), (4, .iload_n 2, 1, 5, 0, 0), (5, .iaload, 1, 6, 0, 0), (6, .istore 4, 2, 8, 0, 0), (8, .iload_n 3, 1, 9, 0, 0), (9, .iconst 4, 1, 10, 0, 4), (10, .if_icmp .ge 68, 3, 13, 78, 0), (13, .aload_n 0, 1, 14, 0, 0), (14, .aload_n 0, 1, 15, 0, 0), (15, .getfield 35, 3, 18, 0, 0), (18, .iconst 4, 1, 19, 0, 4), (19, .iload_n 2, 1, 20, 0, 0), (20, .imul, 1, 21, 0, 0), (21, .iload_n 3, 1, 22, 0, 0), (22, .iadd, 1, 23, 0, 0), (23, .iaload, 1, 24, 0, 0), (24, .aload_n 0, 1, 25, 0, 0), (25, .getfield 38, 3, 28, 0, 0), (28, .iconst 4, 1, 29, 0, 4), (29, .iload_n 2, 1, 30, 0, 0), (30, .imul, 1, 31, 0, 0), (31, .iload_n 3, 1, 32, 0, 0), (32, .iadd, 1, 33, 0, 0), (33, .iaload, 1, 34, 0, 0), (34, .invokevirtual 118, 3, 37, 0, 0), (37, .aload_n 0, 1, 38, 0, 0), (38, .getfield 83, 3, 41, 0, 0), (41, .ifCond .ne 10, 3, 44, 51, 0), (44, .aload_n 0, 1, 45, 0, 0), (45, .invokevirtual 97, 3, 48, 0, 0), (48, .goto 218, 3, 51, 266, 0), (51, .aload_n 0, 1, 52, 0, 0), (52, .aload_n 0, 1, 53, 0, 0), (53, .getfield 35, 3, 56, 0, 0), (56, .iconst 4, 1, 57, 0, 4), (57, .iload_n 2, 1, 58, 0, 0), (58, .imul, 1, 59, 0, 0), (59, .iload_n 3, 1, 60, 0, 0), (60, .iadd, 1, 61, 0, 0), (61, .iaload, 1, 62, 0, 0), (62, .aload_n 0, 1, 63, 0, 0), (63, .getfield 38, 3, 66, 0, 0), (66, .iconst 4, 1, 67, 0, 4), (67, .iload_n 2, 1, 68, 0, 0), (68, .imul, 1, 69, 0, 0), (69, .iload_n 3, 1, 70, 0, 0), (70, .iadd, 1, 71, 0, 0), (71, .iaload, 1, 72, 0, 0), (72, .invokevirtual 90, 3, 75, 0, 0), (75, .goto 191, 3, 78, 266, 0), (78, .iload_n 3, 1, 79, 0, 0), (79, .bipush 8, 2, 81, 0, 8), (81, .if_icmp .ge 48, 3, 84, 129, 0), (84, .aload_n 0, 1, 85, 0, 0), (85, .getfield 35, 3, 88, 0, 0), (88, .iconst 4, 1, 89, 0, 4), (89, .iload_n 2, 1, 90, 0, 0), (90, .imul, 1, 91, 0, 0), (91, .iload_n 3, 1, 92, 0, 0), (92, .iadd, 1, 93, 0, 0), (93, .iconst 4, 1, 94, 0, 4), (94, .isub, 1, 95, 0, 0), (95, .aload_n 0, 1, 96, 0, 0), (96, .getfield 59, 3, 99, 0, 0), (99, .iload_n 1, 1, 100, 0, 0), (100, .iaload, 1, 101, 0, 0), (101, .iastore, 1, 102, 0, 0), (102, .aload_n 0, 1, 103, 0, 0), (103, .getfield 38, 3, 106, 0, 0), (106, .iconst 4, 1, 107, 0, 4), (107, .iload_n 2, 1, 108, 0, 0), (108, .imul, 1, 109, 0, 0), (109, .iload_n 3, 1, 110, 0, 0), (110, .iadd, 1, 111, 0, 0), (111, .iconst 4, 1, 112, 0, 4), (112, .isub, 1, 113, 0, 0), (113, .aload_n 0, 1, 114, 0, 0), (114, .getfield 62, 3, 117, 0, 0), (117, .iload_n 1, 1, 118, 0, 0), (118, .iaload, 1, 119, 0, 0), (119, .iastore, 1, 120, 0, 0), (120, .aload_n 0, 1, 121, 0, 0), (121, .iconst 1, 1, 122, 0, 1), (122, .iconst 0, 1, 123, 0, 0), (123, .invokevirtual 90, 3, 126, 0, 0), (126, .goto 140, 3, 129, 266, 0), (129, .iload_n 3, 1, 130, 0, 0), (130, .bipush 9, 2, 132, 0, 9), (132, .if_icmp .ne 81, 3, 135, 213, 0), (135, .aload_n 0, 1, 136, 0, 0), (136, .getfield 94, 3, 139, 0, 0), (139, .bipush 38, 2, 141, 0, 38), (141, .if_icmp .le 10, 3, 144, 151, 0), (144, .aload_n 0, 1, 145, 0, 0), (145, .invokevirtual 97, 3, 148, 0, 0), (148, .goto 118, 3, 151, 266, 0), (151, .aload_n 0, 1, 152, 0, 0), (152, .iconst 1, 1, 153, 0, 1), (153, .iload 4, 2, 155, 0, 0), (155, .aload_n 0, 1, 156, 0, 0), (156, .getfield 94, 3, 159, 0, 0), (159, .iconst 1, 1, 160, 0, 1), (160, .iadd, 1, 161, 0, 0), (161, .invokevirtual 100, 3, 164, 0, 0), (164, .istore 5, 2, 166, 0, 0), (166, .aload_n 0, 1, 167, 0, 0), (167, .iconst 2, 1, 168, 0, 2), (168, .iload 4, 2, 170, 0, 0), (170, .iload 5, 2, 172, 0, 0), (172, .invokevirtual 100, 3, 175, 0, 0), (175, .istore 6, 2, 177, 0, 0), (177, .aload_n 0, 1, 178, 0, 0), (178, .getfield 29, 3, 181, 0, 0), (181, .iload 6, 2, 183, 0, 0), (183, .aload_n 0, 1, 184, 0, 0), (184, .getfield 59, 3, 187, 0, 0), (187, .iload_n 1, 1, 188, 0, 0), (188, .iaload, 1, 189, 0, 0), (189, .iastore, 1, 190, 0, 0), (190, .aload_n 0, 1, 191, 0, 0), (191, .getfield 32, 3, 194, 0, 0), (194, .iload 6, 2, 196, 0, 0), (196, .aload_n 0, 1, 197, 0, 0), (197, .getfield 62, 3, 200, 0, 0), (200, .iload_n 1, 1, 201, 0, 0), (201, .iaload, 1, 202, 0, 0), (202, .iastore, 1, 203, 0, 0), (203, .aload_n 0, 1, 204, 0, 0), (204, .iconst 2, 1, 205, 0, 2), (205, .iload 5, 2, 207, 0, 0), (207, .invokevirtual 90, 3, 210, 0, 0), (210, .goto 56, 3, 213, 266, 0), (213, .iload_n 3, 1, 214, 0, 0), (214, .bipush 13, 2, 216, 0, 13), (216, .if_icmp .ge 46, 3, 219, 262, 0), (219, .aload_n 0, 1, 220, 0, 0), (220, .iload_n 3, 1, 221, 0, 0), (221, .bipush 8, 2, 223, 0, 8), (223, .if_icmp .ne 7, 3, 226, 230, 0), (226, .iconst 0, 1, 227, 0, 0), (227, .goto 26, 3, 230, 253, 0), (230, .iload_n 3, 1, 231, 0, 0), (231, .bipush 10, 2, 233, 0, 10), (233, .if_icmp .ne 7, 3, 236, 240, 0), (236, .iconst 3, 1, 237, 0, 3), (237, .goto 16, 3, 240, 253, 0), (240, .iload_n 3, 1, 241, 0, 0), (241, .bipush 11, 2, 243, 0, 11), (243, .if_icmp .ne 8, 3, 246, 251, 0), (246, .bipush 7, 2, 248, 0, 7), (248, .goto 5, 3, 251, 253, 0), (251, .bipush 9, 2, 253, 0, 9), (253, .iload 4, 2, 255, 0, 0), (255, .iconst 0, 1, 256, 0, 0), (256, .invokevirtual 156, 3, 259, 0, 0), (259, .goto 7, 3, 262, 266, 0), (262, .aload_n 0, 1, 263, 0, 0), (263, .invokevirtual 97, 3, 266, 0, 0), (266, .return_, 1, 267, 0, 0)]
def G_D_ofCell : fw_G := (c_D_ofCell, 7, W_D_ofCell, R_D, rm_D_ofCell, (Option.none : Option Jvm.ClassFile.FieldType), tab_D_ofCell, y_D_ofCell)
theorem tok_D_ofCell : fw_tok c_D_ofCell W_D_ofCell R_D tab_D_ofCell = true := by decide +kernel
theorem hv_D_ofCell {T : fw_T} (h : TOK T) : HV T G_D_ofCell R_D := ⟨rfl, h, fun x hx => List.mem_cons_of_mem _ hx⟩
theorem ct_D_ofCell {T : fw_T} {l : Launch} {w : fw_W} {av : List fw_V} {post : Option fw_V → fw_W → Prop} {L : List (Option fw_V)} (hL : L = av.map some ++ List.replicate (7 - av.length) none) (hlen : av.length ≤ 7) (kk : ∀ X : fw_X, xL X = l → fw_ok T G_D_ofCell X → fw_ends T G_D_ofCell X post → J T G_D_ofCell X 0 L [] w 0 0) : Ct l T y_D_ofCell W_D_ofCell rm_D_ofCell av w post := ct_of (G := G_D_ofCell) c_D_ofCell 7 R_D (Option.none : Option Jvm.ClassFile.FieldType) tab_D_ofCell rfl (by decide +kernel) rfl rfl tok_D_ofCell hL hlen kk
def tab_D_ofGuard : List fw_I := [(0, .iload_n 2, 1, 1, 0, 0), (1, .ifCond .ne 27, 3, 4, 28, 0), (4, .aload_n 0, 1, 5, 0, 0), (5, .getfield 7, 3, 8, 0, 0), (8, .iload_n 1, 1, 9, 0, 0), (9, .iaload, 1, 10, 0, 0), (10, .iconst 1, 1, 11, 0, 1), (11, .if_icmp .ne 17, 3, 14, 28, 0), (14, .aload_n 0, 1, 15, 0, 0), (15, .iconst 2, 1, 16, 0, 2), (16, .aload_n 0, 1, 17, 0, 0), (17, .getfield 16, 3, 20, 0, 0), (20, .iload_n 1, 1, 21, 0, 0), (21, .iaload, 1, 22, 0, 0), (22, .invokevirtual 90, 3, 25, 0, 0), (25, .goto 29, 3, 28, 54, 0), (28, .iload_n 2, 1, 29, 0, 0), (29, .ifCond .ne 13, 3, 32, 42, 0), (32, .aload_n 0, 1, 33, 0, 0), (33, .iload_n 1, 1, 34, 0, 0), (34, .iconst 0, 1, 35, 0, 0), (35, .invokevirtual 171, 3, 38, 0, 0), (38, .pop, 1, 39, 0, 0), (39, .goto 15, 3, 42, 54, 0), (42, .iload_n 2, 1, 43, 0, 0), (43, .iconst 1, 1, 44, 0, 1), (44, .if_icmp .ne 10, 3, 47, 54, 0), (47, .aload_n 0, 1, 48, 0, 0), (48, .getfield 25, 3, 51, 0, 0), (51, .iload_n 1, 1, 52, 0, 0), (52, .iconst 1, 1, 53, 0, 1), (53, .bastore, 1, 54, 0, 0), (54, .iload_n 2, 1, 55, 0, 0), (55, .iconst 1, 1, 56, 0, 1), (56, .if_icmp .ne 9, 3, 59, 65, 0), (59, .aload_n 0, 1, 60, 0, 0), (60, .iconst 1, 1, 61, 0, 1), (61, .iconst 0, 1, 62, 0, 0), (62, .invokevirtual 90, 3, 65, 0, 0), (65, .iload_n 2, 1, 66, 0, 0), (66, .iconst 2, 1, 67, 0, 2), (67, .if_icmp .ne 22, 3, 70, 89, 0), (70, .aload_n 0, 1, 71, 0, 0), (71, .iconst 1, 1, 72, 0, 1), (72, .aload_n 0, 1, 73, 0, 0), (73, .getfield 25, 3, 76, 0, 0), (76, .iload_n 1, 1, 77, 0, 0), (77, .baload, 1, 78, 0, 0), (78, .ifCond .eq 7, 3, 81, 85, 0), (81, .iconst 1, 1, 82, 0, 1), (82, .goto 4, 3, 85, 86, 0), (85, .iconst 0, 1, 86, 0, 0), (86, .invokevirtual 90, 3, 89, 0, 0), (89, .iload_n 2, 1, 90, 0, 0), (90, .iconst 2, 1, 91, 0, 2), (91, .if_icmp .le 7, 3, 94, 98, 0), (94, .aload_n 0, 1, 95, 0, 0), (95, .invokevirtual 97, 3, 98, 0, 0), (98, .return_, 1, 99, 0, 0)]
def G_D_ofGuard : fw_G := (c_D_ofGuard, 3, W_D_ofGuard, R_D, rm_D_ofGuard, (Option.none : Option Jvm.ClassFile.FieldType), tab_D_ofGuard, y_D_ofGuard)
theorem tok_D_ofGuard : fw_tok c_D_ofGuard W_D_ofGuard R_D tab_D_ofGuard = true := by decide +kernel
theorem hv_D_ofGuard {T : fw_T} (h : TOK T) : HV T G_D_ofGuard R_D := ⟨rfl, h, fun x hx => List.mem_cons_of_mem _ hx⟩
theorem ct_D_ofGuard {T : fw_T} {l : Launch} {w : fw_W} {av : List fw_V} {post : Option fw_V → fw_W → Prop} {L : List (Option fw_V)} (hL : L = av.map some ++ List.replicate (3 - av.length) none) (hlen : av.length ≤ 3) (kk : ∀ X : fw_X, xL X = l → fw_ok T G_D_ofGuard X → fw_ends T G_D_ofGuard X post → J T G_D_ofGuard X 0 L [] w 0 0) : Ct l T y_D_ofGuard W_D_ofGuard rm_D_ofGuard av w post := ct_of (G := G_D_ofGuard) c_D_ofGuard 3 R_D (Option.none : Option Jvm.ClassFile.FieldType) tab_D_ofGuard rfl (by decide +kernel) rfl rfl tok_D_ofGuard hL hlen kk
def tab_D_ofSealer : List fw_I := [(0, .aload_n 0, 1, 1, 0, 0), (1, .bipush 6, 2, 3, 0, 6), (3, .aload_n 0, 1, 4, 0, 0), (4, .getfield 13, 3, 7, 0, 0), (7, .iload_n 2, 1, 8, 0, 0), (8, .iaload, 1, 9, 0, 0), (9, .aload_n 0, 1, 10, 0, 0), (10, .getfield 16, 3, 13, 0, 0), (13, .iload_n 2, 1, 14, 0, 0), (14, .iaload, 1, 15, 0, 0), (15, .invokevirtual 156, 3, 18, 0, 0), (18, .aload_n 0, 1, 19, 0, 0), (19, .getfield 83, 3, 22, 0, 0), (22, .iconst 2, 1, 23, 0, 2), (23, .if_icmp .ne 33, 3, 26, 56, 0), (26, .aload_n 0, 1, 27, 0, 0), (27, .getfield 29, 3, 30, 0, 0), (30, .aload_n 0, 1, 31, 0, 0), (31, .getfield 87, 3, 34, 0, 0), (34, .aload_n 0, 1, 35, 0, 0), (35, .getfield 59, 3, 38, 0, 0), (38, .iload_n 1, 1, 39, 0, 0), (39, .iaload, 1, 40, 0, 0), (40, .iastore, 1, 41, 0, 0), (41, .aload_n 0, 1, 42, 0, 0), (42, .getfield 32, 3, 45, 0, 0), (45, .aload_n 0, 1, 46, 0, 0), (46, .getfield 87, 3, 49, 0, 0), (49, .aload_n 0, 1, 50, 0, 0), (50, .getfield 62, 3, 53, 0, 0), (53, .iload_n 1, 1, 54, 0, 0), (54, .iaload, 1, 55, 0, 0), (55, .iastore, 1, 56, 0, 0), (56, .return_, 1, 57, 0, 0)]
def G_D_ofSealer : fw_G := (c_D_ofSealer, 3, W_D_ofSealer, R_D, rm_D_ofSealer, (Option.none : Option Jvm.ClassFile.FieldType), tab_D_ofSealer, y_D_ofSealer)
theorem tok_D_ofSealer : fw_tok c_D_ofSealer W_D_ofSealer R_D tab_D_ofSealer = true := by decide +kernel
theorem hv_D_ofSealer {T : fw_T} (h : TOK T) : HV T G_D_ofSealer R_D := ⟨rfl, h, fun x hx => List.mem_cons_of_mem _ hx⟩
theorem ct_D_ofSealer {T : fw_T} {l : Launch} {w : fw_W} {av : List fw_V} {post : Option fw_V → fw_W → Prop} {L : List (Option fw_V)} (hL : L = av.map some ++ List.replicate (3 - av.length) none) (hlen : av.length ≤ 3) (kk : ∀ X : fw_X, xL X = l → fw_ok T G_D_ofSealer X → fw_ends T G_D_ofSealer X post → J T G_D_ofSealer X 0 L [] w 0 0) : Ct l T y_D_ofSealer W_D_ofSealer rm_D_ofSealer av w post := ct_of (G := G_D_ofSealer) c_D_ofSealer 3 R_D (Option.none : Option Jvm.ClassFile.FieldType) tab_D_ofSealer rfl (by decide +kernel) rfl rfl tok_D_ofSealer hL hlen kk
def tab_D_ofUnsealer : List fw_I := [(0, .aload_n 0, 1, 1, 0, 0), (1, .bipush 6, 2, 3, 0, 6), (3, .invokevirtual 174, 3, 6, 0, 0), (6, .ifCond .eq 25, 3, 9, 31, 0), (9, .aload_n 0, 1, 10, 0, 0), (10, .getfield 16, 3, 13, 0, 0), (13, .aload_n 0, 1, 14, 0, 0), (14, .getfield 87, 3, 17, 0, 0), (17, .iaload, 1, 18, 0, 0), (18, .aload_n 0, 1, 19, 0, 0), (19, .getfield 16, 3, 22, 0, 0), (22, .iload_n 1, 1, 23, 0, 0), (23, .iaload, 1, 24, 0, 0), (24, .if_icmp .ne 7, 3, 27, 31, 0), (27, .iconst 1, 1, 28, 0, 1), (28, .goto 4, 3, 31, 32, 0), (31, .iconst 0, 1, 32, 0, 0), (32, .istore_n 2, 1, 33, 0, 0), (33, .iload_n 2, 1, 34, 0, 0), (34, .ifCond .eq 28, 3, 37, 62, 0), (37, .aload_n 0, 1, 38, 0, 0), (38, .aload_n 0, 1, 39, 0, 0), (39, .getfield 29, 3, 42, 0, 0), (42, .aload_n 0, 1, 43, 0, 0), (43, .getfield 87, 3, 46, 0, 0), (46, .iaload, 1, 47, 0, 0), (47, .aload_n 0, 1, 48, 0, 0), (48, .getfield 32, 3, 51, 0, 0), (51, .aload_n 0, 1, 52, 0, 0), (52, .getfield 87, 3, 55, 0, 0), (55, .iaload, 1, 56, 0, 0), (56, .invokevirtual 90, 3, 59, 0, 0), (59, .goto 7, 3, 62, 66, 0), (62, .aload_n 0, 1, 63, 0, 0), (63, .invokevirtual 97, 3, 66, 0, 0), (66, .return_, 1, 67, 0, 0)]
def G_D_ofUnsealer : fw_G := (c_D_ofUnsealer, 3, W_D_ofUnsealer, R_D, rm_D_ofUnsealer, (Option.none : Option Jvm.ClassFile.FieldType), tab_D_ofUnsealer, y_D_ofUnsealer)
theorem tok_D_ofUnsealer : fw_tok c_D_ofUnsealer W_D_ofUnsealer R_D tab_D_ofUnsealer = true := by decide +kernel
theorem hv_D_ofUnsealer {T : fw_T} (h : TOK T) : HV T G_D_ofUnsealer R_D := ⟨rfl, h, fun x hx => List.mem_cons_of_mem _ hx⟩
theorem ct_D_ofUnsealer {T : fw_T} {l : Launch} {w : fw_W} {av : List fw_V} {post : Option fw_V → fw_W → Prop} {L : List (Option fw_V)} (hL : L = av.map some ++ List.replicate (3 - av.length) none) (hlen : av.length ≤ 3) (kk : ∀ X : fw_X, xL X = l → fw_ok T G_D_ofUnsealer X → fw_ends T G_D_ofUnsealer X post → J T G_D_ofUnsealer X 0 L [] w 0 0) : Ct l T y_D_ofUnsealer W_D_ofUnsealer rm_D_ofUnsealer av w post := ct_of (G := G_D_ofUnsealer) c_D_ofUnsealer 3 R_D (Option.none : Option Jvm.ClassFile.FieldType) tab_D_ofUnsealer rfl (by decide +kernel) rfl rfl tok_D_ofUnsealer hL hlen kk
def tab_D_ofMint : List fw_I := [(0, .aload_n 0, 1, 1, 0, 0), (1, .getfield 87, 3, 4, 0, 0), (4, .istore_n 2, 1, 5, 0, 0), (5, .aload_n 0, 1, 6, 0, 0), (6, .getfield 83, 3, 9, 0, 0), (9, .iconst 1, 1, 10, 0, 1), (10, .if_icmp .ne 12, 3, 13, 22, 0), (13, .iload_n 2, 1, 14, 0, 0), (14, .ldc 178, 2, 16, 0, 1000001), (16, .invokestatic 128, 3, 19, 0, 0), (19, .ifCond .eq 8, 3, 22, 27, 0), (22, .aload_n 0, 1, 23, 0, 0), (23, .invokevirtual 97, 3, 26, 0, 0), (26, .return_, 1, 27, 0, 0), (27, .aload_n 0, 1, 28, 0, 0), (28, .bipush 8, 2, 30, 0, 8), (30, .aload_n 0, 1, 31, 0, 0), (31, .getfield 13, 3, 34, 0, 0), (34, .iload_n 1, 1, 35, 0, 0), (35, .iaload, 1, 36, 0, 0), (36, .iload_n 1, 1, 37, 0, 0), (37, .invokevirtual 156, 3, 40, 0, 0), (40, .aload_n 0, 1, 41, 0, 0), (41, .getfield 83, 3, 44, 0, 0), (44, .iconst 2, 1, 45, 0, 2), (45, .if_icmp .ne 13, 3, 48, 58, 0), (48, .aload_n 0, 1, 49, 0, 0), (49, .getfield 19, 3, 52, 0, 0), (52, .aload_n 0, 1, 53, 0, 0), (53, .getfield 87, 3, 56, 0, 0), (56, .iload_n 2, 1, 57, 0, 0), (57, .iastore, 1, 58, 0, 0), (58, .return_, 1, 59, 0, 0)]
def G_D_ofMint : fw_G := (c_D_ofMint, 3, W_D_ofMint, R_D, rm_D_ofMint, (Option.none : Option Jvm.ClassFile.FieldType), tab_D_ofMint, y_D_ofMint)
theorem tok_D_ofMint : fw_tok c_D_ofMint W_D_ofMint R_D tab_D_ofMint = true := by decide +kernel
theorem hv_D_ofMint {T : fw_T} (h : TOK T) : HV T G_D_ofMint R_D := ⟨rfl, h, fun x hx => List.mem_cons_of_mem _ hx⟩
theorem ct_D_ofMint {T : fw_T} {l : Launch} {w : fw_W} {av : List fw_V} {post : Option fw_V → fw_W → Prop} {L : List (Option fw_V)} (hL : L = av.map some ++ List.replicate (3 - av.length) none) (hlen : av.length ≤ 3) (kk : ∀ X : fw_X, xL X = l → fw_ok T G_D_ofMint X → fw_ends T G_D_ofMint X post → J T G_D_ofMint X 0 L [] w 0 0) : Ct l T y_D_ofMint W_D_ofMint rm_D_ofMint av w post := ct_of (G := G_D_ofMint) c_D_ofMint 3 R_D (Option.none : Option Jvm.ClassFile.FieldType) tab_D_ofMint rfl (by decide +kernel) rfl rfl tok_D_ofMint hL hlen kk
def tab_D_ofPurse : List fw_I := [(0, .iload_n 2, 1, 1, 0, 0), (1, .iconst 3, 1, 2, 0, 3), (2, .if_icmp .ne 10, 3, 5, 12, 0), (5, .aload_n 0, 1, 6, 0, 0), (6, .getfield 87, 3, 9, 0, 0), (9, .goto 4, 3, 12, 13, 0), (12, .iconst 0, 1, 13, 0, 0), (13, .istore_n 3, 1, 14, 0, 0), (14, .iload_n 2, 1, 15, 0, 0), (15, .ifCond .ne 17, 3, 18, 32, 0), (18, .aload_n 0, 1, 19, 0, 0), (19, .iconst 1, 1, 20, 0, 1), (20, .aload_n 0, 1, 21, 0, 0), (21, .getfield 19, 3, 24, 0, 0), (24, .iload_n 1, 1, 25, 0, 0), (25, .iaload, 1, 26, 0, 0), (26, .invokevirtual 90, 3, 29, 0, 0), (29, .goto 180, 3, 32, 209, 0), (32, .iload_n 2, 1, 33, 0, 0), (33, .iconst 2, 1, 34, 0, 2), (34, .if_icmp .ne 86, 3, 37, 120, 0), (37, .aload_n 0, 1, 38, 0, 0), (38, .bipush 8, 2, 40, 0, 8), (40, .invokevirtual 174, 3, 43, 0, 0), (43, .ifCond .eq 77, 3, 46, 120, 0), (46, .aload_n 0, 1, 47, 0, 0), (47, .getfield 87, 3, 50, 0, 0), (50, .iload_n 1, 1, 51, 0, 0), (51, .if_icmp .eq 69, 3, 54, 120, 0), (54, .aload_n 0, 1, 55, 0, 0), (55, .getfield 16, 3, 58, 0, 0), (58, .aload_n 0, 1, 59, 0, 0), (59, .getfield 87, 3, 62, 0, 0), (62, .iaload, 1, 63, 0, 0), (63, .aload_n 0, 1, 64, 0, 0), (64, .getfield 16, 3, 67, 0, 0), (67, .iload_n 1, 1, 68, 0, 0), (68, .iaload, 1, 69, 0, 0), (69, .if_icmp .ne 51, 3, 72, 120, 0), (72, .aload_n 0, 1, 73, 0, 0), (73, .getfield 87, 3, 76, 0, 0), (76, .istore 4, 2, 78, 0, 0), (78, .aload_n 0, 1, 79, 0, 0), (79, .getfield 19, 3, 82, 0, 0), (82, .iload 4, 2, 84, 0, 0), (84, .iaload, 1, 85, 0, 0), (85, .istore 5, 2, 87, 0, 0), (87, .aload_n 0, 1, 88, 0, 0), (88, .getfield 19, 3, 91, 0, 0), (91, .iload 4, 2, 93, 0, 0), (93, .iconst 0, 1, 94, 0, 0), (94, .iastore, 1, 95, 0, 0), (95, .aload_n 0, 1, 96, 0, 0), (96, .getfield 19, 3, 99, 0, 0), (99, .iload_n 1, 1, 100, 0, 0), (100, .aload_n 0, 1, 101, 0, 0), (101, .getfield 19, 3, 104, 0, 0), (104, .iload_n 1, 1, 105, 0, 0), (105, .iaload, 1, 106, 0, 0), (106, .iload 5, 2, 108, 0, 0), (108, .iadd, 1, 109, 0, 0), (109, .iastore, 1, 110, 0, 0), (110, .aload_n 0, 1, 111, 0, 0), (111, .iconst 1, 1, 112, 0, 1), (112, .iload 5, 2, 114, 0, 0), (114, .invokevirtual 90, 3, 117, 0, 0), (117, .goto 92, 3, 120, 209, 0), (120, .iload_n 2, 1, 121, 0, 0), (121, .iconst 1, 1, 122, 0, 1), (122, .if_icmp .eq 30, 3, 125, 152, 0), (125, .iload_n 2, 1, 126, 0, 0), (126, .iconst 3, 1, 127, 0, 3), (127, .if_icmp .ne 78, 3, 130, 205, 0), (130, .aload_n 0, 1, 131, 0, 0), (131, .getfield 83, 3, 134, 0, 0), (134, .iconst 1, 1, 135, 0, 1), (135, .if_icmp .ne 70, 3, 138, 205, 0), (138, .iload_n 3, 1, 139, 0, 0), (139, .ifCond .lt 66, 3, 142, 205, 0), (142, .iload_n 3, 1, 143, 0, 0), (143, .aload_n 0, 1, 144, 0, 0), (144, .getfield 19, 3, 147, 0, 0), (147, .iload_n 1, 1, 148, 0, 0), (148, .iaload, 1, 149, 0, 0), (149, .if_icmp .gt 56, 3, 152, 205, 0), (152, .aload_n 0, 1, 153, 0, 0), (153, .bipush 8, 2, 155, 0, 8), (155, .aload_n 0, 1, 156, 0, 0), (156, .getfield 13, 3, 159, 0, 0), (159, .iload_n 1, 1, 160, 0, 0), (160, .iaload, 1, 161, 0, 0), (161, .aload_n 0, 1, 162, 0, 0), (162, .getfield 16, 3, 165, 0, 0), (165, .iload_n 1, 1, 166, 0, 0), (166, .iaload, 1, 167, 0, 0), (167, .invokevirtual 156, 3, 170, 0, 0), (170, .aload_n 0, 1, 171, 0, 0), (171, .getfield 83, 3, 174, 0, 0), (174, .iconst 2, 1, 175, 0, 2), (175, .if_icmp .ne 34, 3, 178, 209, 0), (178, .aload_n 0, 1, 179, 0, 0), (179, .getfield 19, 3, 182, 0, 0), (182, .aload_n 0, 1, 183, 0, 0), (183, .getfield 87, 3, 186, 0, 0), (186, .iload_n 3, 1, 187, 0, 0), (187, .iastore, 1, 188, 0, 0), (188, .aload_n 0, 1, 189, 0, 0), (189, .getfield 19, 3, 192, 0, 0), (192, .iload_n 1, 1, 193, 0, 0), (193, .aload_n 0, 1, 194, 0, 0), (194, .getfield 19, 3, 197, 0, 0), (197, .iload_n 1, 1, 198, 0, 0), (198, .iaload, 1, 199, 0, 0), (199, .iload_n 3, 1, 200, 0, 0), (200, .isub, 1, 201, 0, 0), (201, .iastore, 1, 202, 0, 0), (202, .goto 7, 3, 205, 209, 0), (205, .aload_n 0, 1, 206, 0, 0), (206, .invokevirtual 97, 3, 209, 0, 0), (209, .return_, 1, 210, 0, 0)]
def G_D_ofPurse : fw_G := (c_D_ofPurse, 6, W_D_ofPurse, R_D, rm_D_ofPurse, (Option.none : Option Jvm.ClassFile.FieldType), tab_D_ofPurse, y_D_ofPurse)
theorem tok_D_ofPurse : fw_tok c_D_ofPurse W_D_ofPurse R_D tab_D_ofPurse = true := by decide +kernel
theorem hv_D_ofPurse {T : fw_T} (h : TOK T) : HV T G_D_ofPurse R_D := ⟨rfl, h, fun x hx => List.mem_cons_of_mem _ hx⟩
theorem ct_D_ofPurse {T : fw_T} {l : Launch} {w : fw_W} {av : List fw_V} {post : Option fw_V → fw_W → Prop} {L : List (Option fw_V)} (hL : L = av.map some ++ List.replicate (6 - av.length) none) (hlen : av.length ≤ 6) (kk : ∀ X : fw_X, xL X = l → fw_ok T G_D_ofPurse X → fw_ends T G_D_ofPurse X post → J T G_D_ofPurse X 0 L [] w 0 0) : Ct l T y_D_ofPurse W_D_ofPurse rm_D_ofPurse av w post := ct_of (G := G_D_ofPurse) c_D_ofPurse 6 R_D (Option.none : Option Jvm.ClassFile.FieldType) tab_D_ofPurse rfl (by decide +kernel) rfl rfl tok_D_ofPurse hL hlen kk
def tab_D_relays : List fw_I := [(0, .aload_n 0, 1, 1, 0, 0), (1, .getfield 25, 3, 4, 0, 0), (4, .aload_n 0, 1, 5, 0, 0), (5, .getfield 16, 3, 8, 0, 0), (8, .iload_n 2, 1, 9, 0, 0), (9, .iaload, 1, 10, 0, 0), (10, .baload, 1, 11, 0, 0), (11, .ifCond .ne 25, 3, 14, 36, 0), (14, .aload_n 0, 1, 15, 0, 0), (15, .getfield 7, 3, 18, 0, 0), (18, .iload_n 2, 1, 19, 0, 0), (19, .iaload, 1, 20, 0, 0), (20, .bipush 10, 2, 22, 0, 10), (22, .if_icmp .ne 20, 3, 25, 42, 0), (25, .aload_n 0, 1, 26, 0, 0), (26, .getfield 74, 3, 29, 0, 0), (29, .iload_n 1, 1, 30, 0, 0), (30, .iaload, 1, 31, 0, 0), (31, .bipush 8, 2, 33, 0, 8), (33, .if_icmp .ne 9, 3, 36, 42, 0), (36, .aload_n 0, 1, 37, 0, 0), (37, .invokevirtual 97, 3, 40, 0, 0), (40, .iconst 0, 1, 41, 0, 0), (41, .ireturn, 1, 42, 0, 0), (42, .aload_n 0, 1, 43, 0, 0), (43, .getfield 7, 3, 46, 0, 0), (46, .iload_n 2, 1, 47, 0, 0), (47, .iaload, 1, 48, 0, 0), (48, .bipush 10, 2, 50, 0, 10), (50, .if_icmp .ne 135, 3, 53, 185, 0), (53, .aload_n 0, 1, 54, 0, 0), (54, .aload_n 0, 1, 55, 0, 0), (55, .getfield 59, 3, 58, 0, 0), (58, .iload_n 1, 1, 59, 0, 0), (59, .iaload, 1, 60, 0, 0), (60, .aload_n 0, 1, 61, 0, 0), (61, .getfield 62, 3, 64, 0, 0), (64, .iload_n 1, 1, 65, 0, 0), (65, .iaload, 1, 66, 0, 0), (66, .invokevirtual 118, 3, 69, 0, 0), (69, .aload_n 0, 1, 70, 0, 0), (70, .getfield 59, 3, 73, 0, 0), (73, .iload_n 1, 1, 74, 0, 0), (74, .iaload, 1, 75, 0, 0), (75, .istore_n 3, 1, 76, 0, 0), (76, .aload_n 0, 1, 77, 0, 0), (77, .getfield 62, 3, 80, 0, 0), (80, .iload_n 1, 1, 81, 0, 0), (81, .iaload, 1, 82, 0, 0), (82, .istore 4, 2, 84, 0, 0), (84, .aload_n 0, 1, 85, 0, 0), (85, .aload_n 0, 1, 86, 0, 0), (86, .getfield 16, 3, 89, 0, 0), (89, .iload_n 2, 1, 90, 0, 0), (90, .iaload, 1, 91, 0, 0), (91, .iconst 1, 1, 92, 0, 1), (92, .aload_n 0, 1, 93, 0, 0), (93, .getfield 22, 3, 96, 0, 0), (96, .iload_n 2, 1, 97, 0, 0), (97, .iaload, 1, 98, 0, 0), (98, .isub, 1, 99, 0, 0), (99, .invokevirtual 171, 3, 102, 0, 0), (102, .ifCond .eq 14, 3, 105, 116, 0), (105, .aload_n 0, 1, 106, 0, 0), (106, .getfield 83, 3, 109, 0, 0), (109, .istore_n 3, 1, 110, 0, 0), (110, .aload_n 0, 1, 111, 0, 0), (111, .getfield 87, 3, 114, 0, 0), (114, .istore 4, 2, 116, 0, 0), (116, .aload_n 0, 1, 117, 0, 0), (117, .getfield 59, 3, 120, 0, 0), (120, .iload_n 1, 1, 121, 0, 0), (121, .iload_n 3, 1, 122, 0, 0), (122, .iastore, 1, 123, 0, 0), (123, .aload_n 0, 1, 124, 0, 0), (124, .getfield 62, 3, 127, 0, 0), (127, .iload_n 1, 1, 128, 0, 0), (128, .iload 4, 2, 130, 0, 0), (130, .iastore, 1, 131, 0, 0), (131, .aload_n 0, 1, 132, 0, 0), (132, .getfield 77, 3, 135, 0, 0), (135, .bipush 8, 2, 137, 0, 8), (137, .iload_n 1, 1, 138, 0, 0), (138, .imul, 1, 139, 0, 0), (139, .aload_n 0, 1, 140, 0, 0), (140, .getfield 74, 3, 143, 0, 0), (143, .iload_n 1, 1, 144, 0, 0), (144, .iaload, 1, 145, 0, 0), (145, .iadd, 1, 146, 0, 0), (146, .aload_n 0, 1, 147, 0, 0), (147, .getfield 16, 3, 150, 0, 0), (150, .iload_n 2, 1, 151, 0, 0), (151, .iaload, 1, 152, 0, 0), (152, .iastore, 1, 153, 0, 0), (153, .aload_n 0, 1, 154, 0, 0), (154, .getfield 80, 3, 157, 0, 0), (157, .bipush 8, 2, 159, 0, 8), (159, .iload_n 1, 1, 160, 0, 0), (160, .imul, 1, 161, 0, 0), (161, .aload_n 0, 1, 162, 0, 0), (162, .getfield 74, 3, 165, 0, 0), (165, .iload_n 1, 1, 166, 0, 0), (166, .iaload, 1, 167, 0, 0), (167, .iadd, 1, 168, 0, 0), (168, .aload_n 0, 1, 169, 0, 0), (169, .getfield 22, 3, 172, 0, 0), (172, .iload_n 2, 1, 173, 0, 0), (173, .iaload, 1, 174, 0, 0), (174, .iastore, 1, 175, 0, 0), (175, .aload_n 0, 1, 176, 0, 0), (176, .getfield 74, 3, 179, 0, 0), (179, .iload_n 1, 1, 180, 0, 0), (180, .dup2, 1, 181, 0, 0), (181, .iaload, 1, 182, 0, 0), (182, .iconst 1, 1, 183, 0, 1), (183, .iadd, 1, 184, 0, 0), (184, .iastore, 1, 185, 0, 0), (185, .aload_n 0, 1, 186, 0, 0), (186, .getfield 50, 3, 189, 0, 0), (189, .iload_n 1, 1, 190, 0, 0), (190, .aload_n 0, 1, 191, 0, 0), (191, .getfield 29, 3, 194, 0, 0), (194, .iload_n 2, 1, 195, 0, 0), (195, .iaload, 1, 196, 0, 0), (196, .iastore, 1, 197, 0, 0), (197, .aload_n 0, 1, 198, 0, 0), (198, .getfield 53, 3, 201, 0, 0), (201, .iload_n 1, 1, 202, 0, 0), (202, .aload_n 0, 1, 203, 0, 0), (203, .getfield 32, 3, 206, 0, 0), (206, .iload_n 2, 1, 207, 0, 0), (207, .iaload, 1, 208, 0, 0), (208, .iastore, 1, 209, 0, 0), (209, .iconst 1, 1, 210, 0, 1), (210, .ireturn, 1, 211, 0, 0)]
def G_D_relays : fw_G := (c_D_relays, 5, W_D_relays, R_D, rm_D_relays, (Option.some Jvm.ClassFile.FieldType.boolean), tab_D_relays, y_D_relays)
theorem tok_D_relays : fw_tok c_D_relays W_D_relays R_D tab_D_relays = true := by decide +kernel
theorem hv_D_relays {T : fw_T} (h : TOK T) : HV T G_D_relays R_D := ⟨rfl, h, fun x hx => List.mem_cons_of_mem _ hx⟩
theorem ct_D_relays {T : fw_T} {l : Launch} {w : fw_W} {av : List fw_V} {post : Option fw_V → fw_W → Prop} {L : List (Option fw_V)} (hL : L = av.map some ++ List.replicate (5 - av.length) none) (hlen : av.length ≤ 5) (kk : ∀ X : fw_X, xL X = l → fw_ok T G_D_relays X → fw_ends T G_D_relays X post → J T G_D_relays X 0 L [] w 0 0) : Ct l T y_D_relays W_D_relays rm_D_relays av w post := ct_of (G := G_D_relays) c_D_relays 5 R_D (Option.some Jvm.ClassFile.FieldType.boolean) tab_D_relays rfl (by decide +kernel) rfl rfl tok_D_relays hL hlen kk
def tab_D_wrap : List fw_I := [(0, .aload_n 0, 1, 1, 0, 0), (1, .getfield 83, 3, 4, 0, 0), (4, .istore_n 3, 1, 5, 0, 0), (5, .aload_n 0, 1, 6, 0, 0), (6, .getfield 87, 3, 9, 0, 0), (9, .istore 4, 2, 11, 0, 0), (11, .iload_n 3, 1, 12, 0, 0), (12, .iconst 2, 1, 13, 0, 2), (13, .if_icmp .eq 10, 3, 16, 23, 0), (16, .iload_n 3, 1, 17, 0, 0), (17, .iconst 3, 1, 18, 0, 3), (18, .if_icmp .eq 5, 3, 21, 23, 0), (21, .iconst 0, 1, 22, 0, 0), (22, .ireturn, 1, 23, 0, 0), (23, .iload_n 3, 1, 24, 0, 0), (24, .iconst 2, 1, 25, 0, 2), (25, .if_icmp .ne 59, 3, 28, 84, 0), (28, .aload_n 0, 1, 29, 0, 0), (29, .getfield 7, 3, 32, 0, 0), (32, .iload 4, 2, 34, 0, 0), (34, .iaload, 1, 35, 0, 0), (35, .bipush 10, 2, 37, 0, 10), (37, .if_icmp .ne 47, 3, 40, 84, 0), (40, .aload_n 0, 1, 41, 0, 0), (41, .getfield 16, 3, 44, 0, 0), (44, .iload 4, 2, 46, 0, 0), (46, .iaload, 1, 47, 0, 0), (47, .iload_n 1, 1, 48, 0, 0), (48, .if_icmp .ne 36, 3, 51, 84, 0), (51, .aload_n 0, 1, 52, 0, 0), (52, .getfield 22, 3, 55, 0, 0), (55, .iload 4, 2, 57, 0, 0), (57, .iaload, 1, 58, 0, 0), (58, .iload_n 2, 1, 59, 0, 0), (59, .if_icmp .ne 5, 3, 62, 64, 0), (62, .iconst 0, 1, 63, 0, 0), (63, .ireturn, 1, 64, 0, 0), (64, .aload_n 0, 1, 65, 0, 0), (65, .aload_n 0, 1, 66, 0, 0), (66, .getfield 29, 3, 69, 0, 0), (69, .iload 4, 2, 71, 0, 0), (71, .iaload, 1, 72, 0, 0), (72, .aload_n 0, 1, 73, 0, 0), (73, .getfield 32, 3, 76, 0, 0), (76, .iload 4, 2, 78, 0, 0), (78, .iaload, 1, 79, 0, 0), (79, .invokevirtual 90, 3, 82, 0, 0), (82, .iconst 1, 1, 83, 0, 1), (83, .ireturn, 1, 84, 0, 0), (84, .iconst 0, 1, 85, 0, 0), (85, .istore 5, 2, 87, 0, 0), (87, .iload 5, 2, 89, 0, 0), (89, .aload_n 0, 1, 90, 0, 0), (90, .getfield 94, 3, 93, 0, 0), (93, .if_icmp .ge 87, 3, 96, 180, 0), (96, .aload_n 0, 1, 97, 0, 0), (97, .getfield 7, 3, 100, 0, 0), (100, .iload 5, 2, 102, 0, 0), (102, .iaload, 1, 103, 0, 0), (103, .bipush 10, 2, 105, 0, 10), (105, .if_icmp .ne 69, 3, 108, 174, 0), (108, .aload_n 0, 1, 109, 0, 0), (109, .getfield 16, 3, 112, 0, 0), (112, .iload 5, 2, 114, 0, 0), (114, .iaload, 1, 115, 0, 0), (115, .iload_n 1, 1, 116, 0, 0), (116, .if_icmp .ne 58, 3, 119, 174, 0), (119, .aload_n 0, 1, 120, 0, 0), (120, .getfield 22, 3, 123, 0, 0), (123, .iload 5, 2, 125, 0, 0), (125, .iaload, 1, 126, 0, 0), (126, .iload_n 2, 1, 127, 0, 0), (127, .if_icmp .ne 47, 3, 130, 174, 0), (130, .aload_n 0, 1, 131, 0, 0), (131, .aload_n 0, 1, 132, 0, 0), (132, .getfield 29, 3, 135, 0, 0), (135, .iload 5, 2, 137, 0, 0), (137, .iaload, 1, 138, 0, 0), (138, .aload_n 0, 1, 139, 0, 0), (139, .getfield 32, 3, 142, 0, 0), (142, .iload 5, 2, 144, 0, 0), (144, .iaload, 1, 145, 0, 0), (145, .invokevirtual 118, 3, 148, 0, 0), (148, .aload_n 0, 1, 149, 0, 0), (149, .getfield 83, 3, 152, 0, 0), (152, .iload_n 3, 1, 153, 0, 0), (153, .if_icmp .ne 21, 3, 156, 174, 0), (156, .aload_n 0, 1, 157, 0, 0), (157, .getfield 87, 3, 160, 0, 0), (160, .iload 4, 2, 162, 0, 0), (162, .if_icmp .ne 12, 3, 165, 174, 0), (165, .aload_n 0, 1, 166, 0, 0), (166, .iconst 2, 1, 167, 0, 2), (167, .iload 5, 2, 169, 0, 0), (169, .invokevirtual 90, 3, 172, 0, 0), (172, .iconst 1, 1, 173, 0, 1), (173, .ireturn, 1, 174, 0, 0), (174, .iinc 5 1, 3, 177, 0, 1), (177, .goto (-90), 3, 180, 87, 0), (180, .aload_n 0, 1, 181, 0, 0), (181, .bipush 10, 2, 183, 0, 10), (183, .aload_n 0, 1, 184, 0, 0), (184, .getfield 13, 3, 187, 0, 0), (187, .iload_n 1, 1, 188, 0, 0), (188, .iaload, 1, 189, 0, 0), (189, .iload_n 1, 1, 190, 0, 0), (190, .invokevirtual 156, 3, 193, 0, 0), (193, .aload_n 0, 1, 194, 0, 0), (194, .getfield 83, 3, 197, 0, 0), (197, .iconst 2, 1, 198, 0, 2), (198, .if_icmp .ne 34, 3, 201, 232, 0), (201, .aload_n 0, 1, 202, 0, 0), (202, .getfield 22, 3, 205, 0, 0), (205, .aload_n 0, 1, 206, 0, 0), (206, .getfield 87, 3, 209, 0, 0), (209, .iload_n 2, 1, 210, 0, 0), (210, .iastore, 1, 211, 0, 0), (211, .aload_n 0, 1, 212, 0, 0), (212, .getfield 29, 3, 215, 0, 0), (215, .aload_n 0, 1, 216, 0, 0), (216, .getfield 87, 3, 219, 0, 0), (219, .iload_n 3, 1, 220, 0, 0), (220, .iastore, 1, 221, 0, 0), (221, .aload_n 0, 1, 222, 0, 0), (222, .getfield 32, 3, 225, 0, 0), (225, .aload_n 0, 1, 226, 0, 0), (226, .getfield 87, 3, 229, 0, 0), (229, .iload 4, 2, 231, 0, 0), (231, .iastore, 1, 232, 0, 0), (232, .iconst 1, 1, 233, 0, 1), (233, .ireturn, 1, 234, 0, 0)]
def G_D_wrap : fw_G := (c_D_wrap, 6, W_D_wrap, R_D, rm_D_wrap, (Option.some Jvm.ClassFile.FieldType.boolean), tab_D_wrap, y_D_wrap)
theorem tok_D_wrap : fw_tok c_D_wrap W_D_wrap R_D tab_D_wrap = true := by decide +kernel
theorem hv_D_wrap {T : fw_T} (h : TOK T) : HV T G_D_wrap R_D := ⟨rfl, h, fun x hx => List.mem_cons_of_mem _ hx⟩
theorem ct_D_wrap {T : fw_T} {l : Launch} {w : fw_W} {av : List fw_V} {post : Option fw_V → fw_W → Prop} {L : List (Option fw_V)} (hL : L = av.map some ++ List.replicate (6 - av.length) none) (hlen : av.length ≤ 6) (kk : ∀ X : fw_X, xL X = l → fw_ok T G_D_wrap X → fw_ends T G_D_wrap X post → J T G_D_wrap X 0 L [] w 0 0) : Ct l T y_D_wrap W_D_wrap rm_D_wrap av w post := ct_of (G := G_D_wrap) c_D_wrap 6 R_D (Option.some Jvm.ClassFile.FieldType.boolean) tab_D_wrap rfl (by decide +kernel) rfl rfl tok_D_wrap hL hlen kk
def tab_D_asNoted : List fw_I := [(0, .aload_n 0, 1, 1, 0, 0), (1, .getfield 74, 3, 4, 0, 0), (4, .iload_n 1, 1, 5, 0, 0), (5, .iaload, 1, 6, 0, 0), (6, .iconst 1, 1, 7, 0, 1), (7, .isub, 1, 8, 0, 0), (8, .istore_n 2, 1, 9, 0, 0), (9, .iload_n 2, 1, 10, 0, 0), (10, .ifCond .lt 84, 3, 13, 94, 0), (13, .aload_n 0, 1, 14, 0, 0), (14, .getfield 77, 3, 17, 0, 0), (17, .bipush 8, 2, 19, 0, 8), (19, .iload_n 1, 1, 20, 0, 0), (20, .imul, 1, 21, 0, 0), (21, .iload_n 2, 1, 22, 0, 0), (22, .iadd, 1, 23, 0, 0), (23, .iaload, 1, 24, 0, 0), (24, .istore_n 3, 1, 25, 0, 0), (25, .aload_n 0, 1, 26, 0, 0), (26, .getfield 83, 3, 29, 0, 0), (29, .istore 4, 2, 31, 0, 0), (31, .aload_n 0, 1, 32, 0, 0), (32, .getfield 87, 3, 35, 0, 0), (35, .istore 5, 2, 37, 0, 0), (37, .aload_n 0, 1, 38, 0, 0), (38, .iload 4, 2, 40, 0, 0), (40, .iload 5, 2, 42, 0, 0), (42, .invokevirtual 118, 3, 45, 0, 0), (45, .aload_n 0, 1, 46, 0, 0), (46, .getfield 25, 3, 49, 0, 0), (49, .iload_n 3, 1, 50, 0, 0), (50, .baload, 1, 51, 0, 0), (51, .ifCond .eq 10, 3, 54, 61, 0), (54, .aload_n 0, 1, 55, 0, 0), (55, .invokevirtual 97, 3, 58, 0, 0), (58, .goto 30, 3, 61, 88, 0), (61, .aload_n 0, 1, 62, 0, 0), (62, .iload_n 3, 1, 63, 0, 0), (63, .aload_n 0, 1, 64, 0, 0), (64, .getfield 80, 3, 67, 0, 0), (67, .bipush 8, 2, 69, 0, 8), (69, .iload_n 1, 1, 70, 0, 0), (70, .imul, 1, 71, 0, 0), (71, .iload_n 2, 1, 72, 0, 0), (72, .iadd, 1, 73, 0, 0), (73, .iaload, 1, 74, 0, 0), (74, .invokevirtual 171, 3, 77, 0, 0), (77, .ifCond .ne 11, 3, 80, 88, 0), (80, .aload_n 0, 1, 81, 0, 0), (81, .iload 4, 2, 83, 0, 0), (83, .iload 5, 2, 85, 0, 0), (85, .invokevirtual 90, 3, 88, 0, 0), (88, .iinc 2 (-1), 3, 91, 0, (-1)), (91, .goto (-82), 3, 94, 9, 0), (94, .return_, 1, 95, 0, 0)]
def G_D_asNoted : fw_G := (c_D_asNoted, 6, W_D_asNoted, R_D, rm_D_asNoted, (Option.none : Option Jvm.ClassFile.FieldType), tab_D_asNoted, y_D_asNoted)
theorem tok_D_asNoted : fw_tok c_D_asNoted W_D_asNoted R_D tab_D_asNoted = true := by decide +kernel
theorem hv_D_asNoted {T : fw_T} (h : TOK T) : HV T G_D_asNoted R_D := ⟨rfl, h, fun x hx => List.mem_cons_of_mem _ hx⟩
theorem ct_D_asNoted {T : fw_T} {l : Launch} {w : fw_W} {av : List fw_V} {post : Option fw_V → fw_W → Prop} {L : List (Option fw_V)} (hL : L = av.map some ++ List.replicate (6 - av.length) none) (hlen : av.length ≤ 6) (kk : ∀ X : fw_X, xL X = l → fw_ok T G_D_asNoted X → fw_ends T G_D_asNoted X post → J T G_D_asNoted X 0 L [] w 0 0) : Ct l T y_D_asNoted W_D_asNoted rm_D_asNoted av w post := ct_of (G := G_D_asNoted) c_D_asNoted 6 R_D (Option.none : Option Jvm.ClassFile.FieldType) tab_D_asNoted rfl (by decide +kernel) rfl rfl tok_D_asNoted hL hlen kk
def tab_D_objects : List fw_I := [(0, .aload_n 0, 1, 1, 0, 0), (1, .getfield 94, 3, 4, 0, 0), (4, .ireturn, 1, 5, 0, 0)]
def G_D_objects : fw_G := (c_D_objects, 1, W_D_objects, R_D, rm_D_objects, (Option.some Jvm.ClassFile.FieldType.int), tab_D_objects, y_D_objects)
theorem tok_D_objects : fw_tok c_D_objects W_D_objects R_D tab_D_objects = true := by decide +kernel
theorem hv_D_objects {T : fw_T} (h : TOK T) : HV T G_D_objects R_D := ⟨rfl, h, fun x hx => List.mem_cons_of_mem _ hx⟩
theorem ct_D_objects {T : fw_T} {l : Launch} {w : fw_W} {av : List fw_V} {post : Option fw_V → fw_W → Prop} {L : List (Option fw_V)} (hL : L = av.map some ++ List.replicate (1 - av.length) none) (hlen : av.length ≤ 1) (kk : ∀ X : fw_X, xL X = l → fw_ok T G_D_objects X → fw_ends T G_D_objects X post → J T G_D_objects X 0 L [] w 0 0) : Ct l T y_D_objects W_D_objects rm_D_objects av w post := ct_of (G := G_D_objects) c_D_objects 1 R_D (Option.some Jvm.ClassFile.FieldType.int) tab_D_objects rfl (by decide +kernel) rfl rfl tok_D_objects hL hlen kk
def tab_D_kind : List fw_I := [(0, .iload_n 1, 1, 1, 0, 0), (1, .aload_n 0, 1, 2, 0, 0), (2, .getfield 94, 3, 5, 0, 0), (5, .invokestatic 128, 3, 8, 0, 0), (8, .ifCond .eq 7, 3, 11, 15, 0), (11, .iconst (-1), 1, 12, 0, (-1)), (12, .goto 9, 3, 15, 21, 0), (15, .aload_n 0, 1, 16, 0, 0), (16, .getfield 7, 3, 19, 0, 0), (19, .iload_n 1, 1, 20, 0, 0), (20, .iaload, 1, 21, 0, 0), (21, .ireturn, 1, 22, 0, 0)]
def G_D_kind : fw_G := (c_D_kind, 2, W_D_kind, R_D, rm_D_kind, (Option.some Jvm.ClassFile.FieldType.int), tab_D_kind, y_D_kind)
theorem tok_D_kind : fw_tok c_D_kind W_D_kind R_D tab_D_kind = true := by decide +kernel
theorem hv_D_kind {T : fw_T} (h : TOK T) : HV T G_D_kind R_D := ⟨rfl, h, fun x hx => List.mem_cons_of_mem _ hx⟩
theorem ct_D_kind {T : fw_T} {l : Launch} {w : fw_W} {av : List fw_V} {post : Option fw_V → fw_W → Prop} {L : List (Option fw_V)} (hL : L = av.map some ++ List.replicate (2 - av.length) none) (hlen : av.length ≤ 2) (kk : ∀ X : fw_X, xL X = l → fw_ok T G_D_kind X → fw_ends T G_D_kind X post → J T G_D_kind X 0 L [] w 0 0) : Ct l T y_D_kind W_D_kind rm_D_kind av w post := ct_of (G := G_D_kind) c_D_kind 2 R_D (Option.some Jvm.ClassFile.FieldType.int) tab_D_kind rfl (by decide +kernel) rfl rfl tok_D_kind hL hlen kk
def tab_D_home : List fw_I := [(0, .iload_n 1, 1, 1, 0, 0), (1, .aload_n 0, 1, 2, 0, 0), (2, .getfield 94, 3, 5, 0, 0), (5, .invokestatic 128, 3, 8, 0, 0), (8, .ifCond .eq 7, 3, 11, 15, 0), (11, .iconst (-1), 1, 12, 0, (-1)), (12, .goto 9, 3, 15, 21, 0), (15, .aload_n 0, 1, 16, 0, 0), (16, .getfield 13, 3, 19, 0, 0), (19, .iload_n 1, 1, 20, 0, 0), (20, .iaload, 1, 21, 0, 0), (21, .ireturn, 1, 22, 0, 0)]
def G_D_home : fw_G := (c_D_home, 2, W_D_home, R_D, rm_D_home, (Option.some Jvm.ClassFile.FieldType.int), tab_D_home, y_D_home)
theorem tok_D_home : fw_tok c_D_home W_D_home R_D tab_D_home = true := by decide +kernel
theorem hv_D_home {T : fw_T} (h : TOK T) : HV T G_D_home R_D := ⟨rfl, h, fun x hx => List.mem_cons_of_mem _ hx⟩
theorem ct_D_home {T : fw_T} {l : Launch} {w : fw_W} {av : List fw_V} {post : Option fw_V → fw_W → Prop} {L : List (Option fw_V)} (hL : L = av.map some ++ List.replicate (2 - av.length) none) (hlen : av.length ≤ 2) (kk : ∀ X : fw_X, xL X = l → fw_ok T G_D_home X → fw_ends T G_D_home X post → J T G_D_home X 0 L [] w 0 0) : Ct l T y_D_home W_D_home rm_D_home av w post := ct_of (G := G_D_home) c_D_home 2 R_D (Option.some Jvm.ClassFile.FieldType.int) tab_D_home rfl (by decide +kernel) rfl rfl tok_D_home hL hlen kk
def tab_D_seen : List fw_I := [(0, .iload_n 1, 1, 1, 0, 0), (1, .aload_n 0, 1, 2, 0, 0), (2, .getfield 94, 3, 5, 0, 0), (5, .invokestatic 128, 3, 8, 0, 0), (8, .ifCond .eq 5, 3, 11, 13, 0), (11, .iconst 0, 1, 12, 0, 0), (12, .ireturn, 1, 13, 0, 0), (13, .aload_n 0, 1, 14, 0, 0), (14, .getfield 7, 3, 17, 0, 0), (17, .iload_n 1, 1, 18, 0, 0), (18, .iaload, 1, 19, 0, 0), (19, .istore_n 3, 1, 20, 0, 0), (20, .iload_n 3, 1, 21, 0, 0), (21, .ifCond .ne 14, 3, 24, 35, 0), (24, .iload_n 2, 1, 25, 0, 0), (25, .iconst 4, 1, 26, 0, 4), (26, .invokestatic 128, 3, 29, 0, 0), (29, .ifCond .eq 30, 3, 32, 59, 0), (32, .goto 25, 3, 35, 57, 0), (35, .iload_n 2, 1, 36, 0, 0), (36, .iconst 4, 1, 37, 0, 4), (37, .if_icmp .ne 20, 3, 40, 57, 0), (40, .iload_n 3, 1, 41, 0, 0), (41, .iconst 2, 1, 42, 0, 2), (42, .if_icmp .eq 17, 3, 45, 59, 0), (45, .iload_n 3, 1, 46, 0, 0), (46, .bipush 10, 2, 48, 0, 10), (48, .if_icmp .eq 11, 3, 51, 59, 0), (51, .iload_n 3, 1, 52, 0, 0), (52, .bipush 6, 2, 54, 0, 6), (54, .if_icmp .eq 5, 3, 57, 59, 0), (57, .iconst 0, 1, 58, 0, 0), (58, .ireturn, 1, 59, 0, 0), (59, .iload_n 3, 1, 60, 0, 0), (60, .ifCond .ne 30, 3, 63, 90, 0), (63, .aload_n 0, 1, 64, 0, 0), (64, .aload_n 0, 1, 65, 0, 0), (65, .getfield 35, 3, 68, 0, 0), (68, .iconst 4, 1, 69, 0, 4), (69, .iload_n 1, 1, 70, 0, 0), (70, .imul, 1, 71, 0, 0), (71, .iload_n 2, 1, 72, 0, 0), (72, .iadd, 1, 73, 0, 0), (73, .iaload, 1, 74, 0, 0), (74, .aload_n 0, 1, 75, 0, 0), (75, .getfield 38, 3, 78, 0, 0), (78, .iconst 4, 1, 79, 0, 4), (79, .iload_n 1, 1, 80, 0, 0), (80, .imul, 1, 81, 0, 0), (81, .iload_n 2, 1, 82, 0, 0), (82, .iadd, 1, 83, 0, 0), (83, .iaload, 1, 84, 0, 0), (84, .invokevirtual 118, 3, 87, 0, 0), (87, .goto 19, 3, 90, 106, 0), (90, .aload_n 0, 1, 91, 0, 0), (91, .aload_n 0, 1, 92, 0, 0), (92, .getfield 29, 3, 95, 0, 0), (95, .iload_n 1, 1, 96, 0, 0), (96, .iaload, 1, 97, 0, 0), (97, .aload_n 0, 1, 98, 0, 0), (98, .getfield 32, 3, 101, 0, 0), (101, .iload_n 1, 1, 102, 0, 0), (102, .iaload, 1, 103, 0, 0), (103, .invokevirtual 118, 3, 106, 0, 0), (106, .iconst 1, 1, 107, 0, 1), (107, .ireturn, 1, 108, 0, 0)]
def G_D_seen : fw_G := (c_D_seen, 4, W_D_seen, R_D, rm_D_seen, (Option.some Jvm.ClassFile.FieldType.boolean), tab_D_seen, y_D_seen)
theorem tok_D_seen : fw_tok c_D_seen W_D_seen R_D tab_D_seen = true := by decide +kernel
theorem hv_D_seen {T : fw_T} (h : TOK T) : HV T G_D_seen R_D := ⟨rfl, h, fun x hx => List.mem_cons_of_mem _ hx⟩
theorem ct_D_seen {T : fw_T} {l : Launch} {w : fw_W} {av : List fw_V} {post : Option fw_V → fw_W → Prop} {L : List (Option fw_V)} (hL : L = av.map some ++ List.replicate (4 - av.length) none) (hlen : av.length ≤ 4) (kk : ∀ X : fw_X, xL X = l → fw_ok T G_D_seen X → fw_ends T G_D_seen X post → J T G_D_seen X 0 L [] w 0 0) : Ct l T y_D_seen W_D_seen rm_D_seen av w post := ct_of (G := G_D_seen) c_D_seen 4 R_D (Option.some Jvm.ClassFile.FieldType.boolean) tab_D_seen rfl (by decide +kernel) rfl rfl tok_D_seen hL hlen kk
def tab_D_what : List fw_I := [(0, .aload_n 0, 1, 1, 0, 0), (1, .iload_n 1, 1, 2, 0, 0), (2, .iload_n 2, 1, 3, 0, 0), (3, .invokevirtual 179, 3, 6, 0, 0), (6, .ifCond .eq 10, 3, 9, 16, 0), (9, .aload_n 0, 1, 10, 0, 0), (10, .getfield 83, 3, 13, 0, 0), (13, .goto 4, 3, 16, 17, 0), (16, .iconst (-1), 1, 17, 0, (-1)), (17, .ireturn, 1, 18, 0, 0)]
def G_D_what : fw_G := (c_D_what, 3, W_D_what, R_D, rm_D_what, (Option.some Jvm.ClassFile.FieldType.int), tab_D_what, y_D_what)
theorem tok_D_what : fw_tok c_D_what W_D_what R_D tab_D_what = true := by decide +kernel
theorem hv_D_what {T : fw_T} (h : TOK T) : HV T G_D_what R_D := ⟨rfl, h, fun x hx => List.mem_cons_of_mem _ hx⟩
theorem ct_D_what {T : fw_T} {l : Launch} {w : fw_W} {av : List fw_V} {post : Option fw_V → fw_W → Prop} {L : List (Option fw_V)} (hL : L = av.map some ++ List.replicate (3 - av.length) none) (hlen : av.length ≤ 3) (kk : ∀ X : fw_X, xL X = l → fw_ok T G_D_what X → fw_ends T G_D_what X post → J T G_D_what X 0 L [] w 0 0) : Ct l T y_D_what W_D_what rm_D_what av w post := ct_of (G := G_D_what) c_D_what 3 R_D (Option.some Jvm.ClassFile.FieldType.int) tab_D_what rfl (by decide +kernel) rfl rfl tok_D_what hL hlen kk
def tab_D_which : List fw_I := [(0, .aload_n 0, 1, 1, 0, 0), (1, .iload_n 1, 1, 2, 0, 0), (2, .iload_n 2, 1, 3, 0, 0), (3, .invokevirtual 179, 3, 6, 0, 0), (6, .ifCond .eq 25, 3, 9, 31, 0), (9, .aload_n 0, 1, 10, 0, 0), (10, .getfield 83, 3, 13, 0, 0), (13, .ifCond .eq 18, 3, 16, 31, 0), (16, .aload_n 0, 1, 17, 0, 0), (17, .getfield 83, 3, 20, 0, 0), (20, .iconst 4, 1, 21, 0, 4), (21, .if_icmp .eq 10, 3, 24, 31, 0), (24, .aload_n 0, 1, 25, 0, 0), (25, .getfield 87, 3, 28, 0, 0), (28, .goto 4, 3, 31, 32, 0), (31, .iconst 0, 1, 32, 0, 0), (32, .ireturn, 1, 33, 0, 0)]
def G_D_which : fw_G := (c_D_which, 3, W_D_which, R_D, rm_D_which, (Option.some Jvm.ClassFile.FieldType.int), tab_D_which, y_D_which)
theorem tok_D_which : fw_tok c_D_which W_D_which R_D tab_D_which = true := by decide +kernel
theorem hv_D_which {T : fw_T} (h : TOK T) : HV T G_D_which R_D := ⟨rfl, h, fun x hx => List.mem_cons_of_mem _ hx⟩
theorem ct_D_which {T : fw_T} {l : Launch} {w : fw_W} {av : List fw_V} {post : Option fw_V → fw_W → Prop} {L : List (Option fw_V)} (hL : L = av.map some ++ List.replicate (3 - av.length) none) (hlen : av.length ≤ 3) (kk : ∀ X : fw_X, xL X = l → fw_ok T G_D_which X → fw_ends T G_D_which X post → J T G_D_which X 0 L [] w 0 0) : Ct l T y_D_which W_D_which rm_D_which av w post := ct_of (G := G_D_which) c_D_which 3 R_D (Option.some Jvm.ClassFile.FieldType.int) tab_D_which rfl (by decide +kernel) rfl rfl tok_D_which hL hlen kk
def tab_D_detail : List fw_I := [(0, .iload_n 1, 1, 1, 0, 0), (1, .aload_n 0, 1, 2, 0, 0), (2, .getfield 94, 3, 5, 0, 0), (5, .invokestatic 128, 3, 8, 0, 0), (8, .ifCond .ne 11, 3, 11, 19, 0), (11, .iload_n 2, 1, 12, 0, 0), (12, .iconst 2, 1, 13, 0, 2), (13, .invokestatic 128, 3, 16, 0, 0), (16, .ifCond .eq 5, 3, 19, 21, 0), (19, .iconst (-1), 1, 20, 0, (-1)), (20, .ireturn, 1, 21, 0, 0), (21, .aload_n 0, 1, 22, 0, 0), (22, .getfield 7, 3, 25, 0, 0), (25, .iload_n 1, 1, 26, 0, 0), (26, .iaload, 1, 27, 0, 0), (27, .istore_n 3, 1, 28, 0, 0), (28, .iload_n 3, 1, 29, 0, 0), (29, .iconst 1, 1, 30, 0, 1), (30, .if_icmp .eq 9, 3, 33, 39, 0), (33, .iload_n 3, 1, 34, 0, 0), (34, .bipush 9, 2, 36, 0, 9), (36, .if_icmp .ne 40, 3, 39, 76, 0), (39, .iload_n 2, 1, 40, 0, 0), (40, .ifCond .ne 20, 3, 43, 60, 0), (43, .aload_n 0, 1, 44, 0, 0), (44, .getfield 25, 3, 47, 0, 0), (47, .iload_n 1, 1, 48, 0, 0), (48, .baload, 1, 49, 0, 0), (49, .ifCond .eq 7, 3, 52, 56, 0), (52, .iconst 1, 1, 53, 0, 1), (53, .goto 22, 3, 56, 75, 0), (56, .iconst 0, 1, 57, 0, 0), (57, .goto 18, 3, 60, 75, 0), (60, .iload_n 3, 1, 61, 0, 0), (61, .iconst 1, 1, 62, 0, 1), (62, .if_icmp .ne 12, 3, 65, 74, 0), (65, .aload_n 0, 1, 66, 0, 0), (66, .getfield 16, 3, 69, 0, 0), (69, .iload_n 1, 1, 70, 0, 0), (70, .iaload, 1, 71, 0, 0), (71, .goto 4, 3, 74, 75, 0), (74, .iconst 0, 1, 75, 0, 0), (75, .ireturn, 1, 76, 0, 0), (76, .iload_n 3, 1, 77, 0, 0), (77, .bipush 8, 2, 79, 0, 8), (79, .if_icmp .ne 23, 3, 82, 102, 0), (82, .iload_n 2, 1, 83, 0, 0), (83, .ifCond .ne 12, 3, 86, 95, 0), (86, .aload_n 0, 1, 87, 0, 0), (87, .getfield 19, 3, 90, 0, 0), (90, .iload_n 1, 1, 91, 0, 0), (91, .iaload, 1, 92, 0, 0), (92, .goto 9, 3, 95, 101, 0), (95, .aload_n 0, 1, 96, 0, 0), (96, .getfield 16, 3, 99, 0, 0), (99, .iload_n 1, 1, 100, 0, 0), (100, .iaload, 1, 101, 0, 0), (101, .ireturn, 1, 102, 0, 0), (102, .iload_n 3, 1, 103, 0, 0), (103, .bipush 10, 2, 105, 0, 10), (105, .if_icmp .ne 15, 3, 108, 120, 0), (108, .iload_n 2, 1, 109, 0, 0), (109, .iconst 1, 1, 110, 0, 1), (110, .if_icmp .ne 10, 3, 113, 120, 0), (113, .aload_n 0, 1, 114, 0, 0), (114, .getfield 22, 3, 117, 0, 0), (117, .iload_n 1, 1, 118, 0, 0), (118, .iaload, 1, 119, 0, 0), (119, .ireturn, 1, 120, 0, 0), (120, .iload_n 2, 1, 121, 0, 0), (121, .ifCond .ne 39, 3, 124, 160, 0), (124, .iload_n 3, 1, 125, 0, 0), (125, .iconst 2, 1, 126, 0, 2), (126, .if_icmp .eq 25, 3, 129, 151, 0), (129, .iload_n 3, 1, 130, 0, 0), (130, .iconst 4, 1, 131, 0, 4), (131, .if_icmp .eq 20, 3, 134, 151, 0), (134, .iload_n 3, 1, 135, 0, 0), (135, .iconst 5, 1, 136, 0, 5), (136, .if_icmp .eq 15, 3, 139, 151, 0), (139, .iload_n 3, 1, 140, 0, 0), (140, .bipush 6, 2, 142, 0, 6), (142, .if_icmp .eq 9, 3, 145, 151, 0), (145, .iload_n 3, 1, 146, 0, 0), (146, .bipush 10, 2, 148, 0, 10), (148, .if_icmp .ne 12, 3, 151, 160, 0), (151, .aload_n 0, 1, 152, 0, 0), (152, .getfield 16, 3, 155, 0, 0), (155, .iload_n 1, 1, 156, 0, 0), (156, .iaload, 1, 157, 0, 0), (157, .goto 4, 3, 160, 161, 0), (160, .iconst 0, 1, 161, 0, 0), (161, .ireturn, 1, 162, 0, 0)]
def G_D_detail : fw_G := (c_D_detail, 4, W_D_detail, R_D, rm_D_detail, (Option.some Jvm.ClassFile.FieldType.int), tab_D_detail, y_D_detail)
theorem tok_D_detail : fw_tok c_D_detail W_D_detail R_D tab_D_detail = true := by decide +kernel
theorem hv_D_detail {T : fw_T} (h : TOK T) : HV T G_D_detail R_D := ⟨rfl, h, fun x hx => List.mem_cons_of_mem _ hx⟩
theorem ct_D_detail {T : fw_T} {l : Launch} {w : fw_W} {av : List fw_V} {post : Option fw_V → fw_W → Prop} {L : List (Option fw_V)} (hL : L = av.map some ++ List.replicate (4 - av.length) none) (hlen : av.length ≤ 4) (kk : ∀ X : fw_X, xL X = l → fw_ok T G_D_detail X → fw_ends T G_D_detail X post → J T G_D_detail X 0 L [] w 0 0) : Ct l T y_D_detail W_D_detail rm_D_detail av w post := ct_of (G := G_D_detail) c_D_detail 4 R_D (Option.some Jvm.ClassFile.FieldType.int) tab_D_detail rfl (by decide +kernel) rfl rfl tok_D_detail hL hlen kk
def tab_D_messages : List fw_I := [(0, .aload_n 0, 1, 1, 0, 0), (1, .getfield 107, 3, 4, 0, 0), (4, .ireturn, 1, 5, 0, 0)]
def G_D_messages : fw_G := (c_D_messages, 1, W_D_messages, R_D, rm_D_messages, (Option.some Jvm.ClassFile.FieldType.int), tab_D_messages, y_D_messages)
theorem tok_D_messages : fw_tok c_D_messages W_D_messages R_D tab_D_messages = true := by decide +kernel
theorem hv_D_messages {T : fw_T} (h : TOK T) : HV T G_D_messages R_D := ⟨rfl, h, fun x hx => List.mem_cons_of_mem _ hx⟩
theorem ct_D_messages {T : fw_T} {l : Launch} {w : fw_W} {av : List fw_V} {post : Option fw_V → fw_W → Prop} {L : List (Option fw_V)} (hL : L = av.map some ++ List.replicate (1 - av.length) none) (hlen : av.length ≤ 1) (kk : ∀ X : fw_X, xL X = l → fw_ok T G_D_messages X → fw_ends T G_D_messages X post → J T G_D_messages X 0 L [] w 0 0) : Ct l T y_D_messages W_D_messages rm_D_messages av w post := ct_of (G := G_D_messages) c_D_messages 1 R_D (Option.some Jvm.ClassFile.FieldType.int) tab_D_messages rfl (by decide +kernel) rfl rfl tok_D_messages hL hlen kk
def tab_D_place : List fw_I := [(0, .iload_n 1, 1, 1, 0, 0), (1, .aload_n 0, 1, 2, 0, 0), (2, .getfield 107, 3, 5, 0, 0), (5, .invokestatic 128, 3, 8, 0, 0), (8, .ifCond .eq 7, 3, 11, 15, 0), (11, .iconst (-1), 1, 12, 0, (-1)), (12, .goto 9, 3, 15, 21, 0), (15, .aload_n 0, 1, 16, 0, 0), (16, .getfield 41, 3, 19, 0, 0), (19, .iload_n 1, 1, 20, 0, 0), (20, .iaload, 1, 21, 0, 0), (21, .ireturn, 1, 22, 0, 0)]
def G_D_place : fw_G := (c_D_place, 2, W_D_place, R_D, rm_D_place, (Option.some Jvm.ClassFile.FieldType.int), tab_D_place, y_D_place)
theorem tok_D_place : fw_tok c_D_place W_D_place R_D tab_D_place = true := by decide +kernel
theorem hv_D_place {T : fw_T} (h : TOK T) : HV T G_D_place R_D := ⟨rfl, h, fun x hx => List.mem_cons_of_mem _ hx⟩
theorem ct_D_place {T : fw_T} {l : Launch} {w : fw_W} {av : List fw_V} {post : Option fw_V → fw_W → Prop} {L : List (Option fw_V)} (hL : L = av.map some ++ List.replicate (2 - av.length) none) (hlen : av.length ≤ 2) (kk : ∀ X : fw_X, xL X = l → fw_ok T G_D_place X → fw_ends T G_D_place X post → J T G_D_place X 0 L [] w 0 0) : Ct l T y_D_place W_D_place rm_D_place av w post := ct_of (G := G_D_place) c_D_place 2 R_D (Option.some Jvm.ClassFile.FieldType.int) tab_D_place rfl (by decide +kernel) rfl rfl tok_D_place hL hlen kk
def tab_D_result : List fw_I := [(0, .iload_n 1, 1, 1, 0, 0), (1, .aload_n 0, 1, 2, 0, 0), (2, .getfield 107, 3, 5, 0, 0), (5, .invokestatic 128, 3, 8, 0, 0), (8, .ifCond .eq 5, 3, 11, 13, 0), (11, .iconst (-1), 1, 12, 0, (-1)), (12, .ireturn, 1, 13, 0, 0), (13, .aload_n 0, 1, 14, 0, 0), (14, .iconst 3, 1, 15, 0, 3), (15, .iload_n 1, 1, 16, 0, 0), (16, .invokevirtual 118, 3, 19, 0, 0), (19, .aload_n 0, 1, 20, 0, 0), (20, .getfield 83, 3, 23, 0, 0), (23, .ireturn, 1, 24, 0, 0)]
def G_D_result : fw_G := (c_D_result, 2, W_D_result, R_D, rm_D_result, (Option.some Jvm.ClassFile.FieldType.int), tab_D_result, y_D_result)
theorem tok_D_result : fw_tok c_D_result W_D_result R_D tab_D_result = true := by decide +kernel
theorem hv_D_result {T : fw_T} (h : TOK T) : HV T G_D_result R_D := ⟨rfl, h, fun x hx => List.mem_cons_of_mem _ hx⟩
theorem ct_D_result {T : fw_T} {l : Launch} {w : fw_W} {av : List fw_V} {post : Option fw_V → fw_W → Prop} {L : List (Option fw_V)} (hL : L = av.map some ++ List.replicate (2 - av.length) none) (hlen : av.length ≤ 2) (kk : ∀ X : fw_X, xL X = l → fw_ok T G_D_result X → fw_ends T G_D_result X post → J T G_D_result X 0 L [] w 0 0) : Ct l T y_D_result W_D_result rm_D_result av w post := ct_of (G := G_D_result) c_D_result 2 R_D (Option.some Jvm.ClassFile.FieldType.int) tab_D_result rfl (by decide +kernel) rfl rfl tok_D_result hL hlen kk
def tab_D_value : List fw_I := [(0, .iload_n 1, 1, 1, 0, 0), (1, .aload_n 0, 1, 2, 0, 0), (2, .getfield 107, 3, 5, 0, 0), (5, .invokestatic 128, 3, 8, 0, 0), (8, .ifCond .eq 5, 3, 11, 13, 0), (11, .iconst 0, 1, 12, 0, 0), (12, .ireturn, 1, 13, 0, 0), (13, .aload_n 0, 1, 14, 0, 0), (14, .iconst 3, 1, 15, 0, 3), (15, .iload_n 1, 1, 16, 0, 0), (16, .invokevirtual 118, 3, 19, 0, 0), (19, .aload_n 0, 1, 20, 0, 0), (20, .getfield 83, 3, 23, 0, 0), (23, .iconst 4, 1, 24, 0, 4), (24, .if_icmp .ne 7, 3, 27, 31, 0), (27, .iconst 0, 1, 28, 0, 0), (28, .goto 7, 3, 31, 35, 0), (31, .aload_n 0, 1, 32, 0, 0), (32, .getfield 87, 3, 35, 0, 0), (35, .ireturn, 1, 36, 0, 0)]
def G_D_value : fw_G := (c_D_value, 2, W_D_value, R_D, rm_D_value, (Option.some Jvm.ClassFile.FieldType.int), tab_D_value, y_D_value)
theorem tok_D_value : fw_tok c_D_value W_D_value R_D tab_D_value = true := by decide +kernel
theorem hv_D_value {T : fw_T} (h : TOK T) : HV T G_D_value R_D := ⟨rfl, h, fun x hx => List.mem_cons_of_mem _ hx⟩
theorem ct_D_value {T : fw_T} {l : Launch} {w : fw_W} {av : List fw_V} {post : Option fw_V → fw_W → Prop} {L : List (Option fw_V)} (hL : L = av.map some ++ List.replicate (2 - av.length) none) (hlen : av.length ≤ 2) (kk : ∀ X : fw_X, xL X = l → fw_ok T G_D_value X → fw_ends T G_D_value X post → J T G_D_value X 0 L [] w 0 0) : Ct l T y_D_value W_D_value rm_D_value av w post := ct_of (G := G_D_value) c_D_value 2 R_D (Option.some Jvm.ClassFile.FieldType.int) tab_D_value rfl (by decide +kernel) rfl rfl tok_D_value hL hlen kk
def tab_D_queued : List fw_I := [(0, .iload_n 1, 1, 1, 0, 0), (1, .iconst 3, 1, 2, 0, 3), (2, .invokestatic 128, 3, 5, 0, 0), (5, .ifCond .eq 7, 3, 8, 12, 0), (8, .iconst (-1), 1, 9, 0, (-1)), (9, .goto 9, 3, 12, 18, 0), (12, .aload_n 0, 1, 13, 0, 0), (13, .iconst 1, 1, 14, 0, 1), (14, .iload_n 1, 1, 15, 0, 0), (15, .invokevirtual 182, 3, 18, 0, 0), (18, .ireturn, 1, 19, 0, 0)]
def G_D_queued : fw_G := (c_D_queued, 2, W_D_queued, R_D, rm_D_queued, (Option.some Jvm.ClassFile.FieldType.int), tab_D_queued, y_D_queued)
theorem tok_D_queued : fw_tok c_D_queued W_D_queued R_D tab_D_queued = true := by decide +kernel
theorem hv_D_queued {T : fw_T} (h : TOK T) : HV T G_D_queued R_D := ⟨rfl, h, fun x hx => List.mem_cons_of_mem _ hx⟩
theorem ct_D_queued {T : fw_T} {l : Launch} {w : fw_W} {av : List fw_V} {post : Option fw_V → fw_W → Prop} {L : List (Option fw_V)} (hL : L = av.map some ++ List.replicate (2 - av.length) none) (hlen : av.length ≤ 2) (kk : ∀ X : fw_X, xL X = l → fw_ok T G_D_queued X → fw_ends T G_D_queued X post → J T G_D_queued X 0 L [] w 0 0) : Ct l T y_D_queued W_D_queued rm_D_queued av w post := ct_of (G := G_D_queued) c_D_queued 2 R_D (Option.some Jvm.ClassFile.FieldType.int) tab_D_queued rfl (by decide +kernel) rfl rfl tok_D_queued hL hlen kk
def tab_D_next : List fw_I := [(0, .iload_n 1, 1, 1, 0, 0), (1, .iconst 3, 1, 2, 0, 3), (2, .invokestatic 128, 3, 5, 0, 0), (5, .ifCond .ne 13, 3, 8, 18, 0), (8, .iload_n 2, 1, 9, 0, 0), (9, .sipush 200, 3, 12, 0, 200), (12, .invokestatic 128, 3, 15, 0, 0), (15, .ifCond .eq 7, 3, 18, 22, 0), (18, .iconst (-1), 1, 19, 0, (-1)), (19, .goto 10, 3, 22, 29, 0), (22, .aload_n 0, 1, 23, 0, 0), (23, .iconst 1, 1, 24, 0, 1), (24, .iload_n 1, 1, 25, 0, 0), (25, .iload_n 2, 1, 26, 0, 0), (26, .invokevirtual 138, 3, 29, 0, 0), (29, .istore_n 3, 1, 30, 0, 0), (30, .iload_n 3, 1, 31, 0, 0), (31, .ifCond .ge 8, 3, 34, 39, 0), (34, .bipush (-3), 2, 36, 0, (-3)), (36, .goto 4, 3, 39, 40, 0), (39, .iload_n 3, 1, 40, 0, 0), (40, .ireturn, 1, 41, 0, 0)]
def G_D_next : fw_G := (c_D_next, 4, W_D_next, R_D, rm_D_next, (Option.some Jvm.ClassFile.FieldType.int), tab_D_next, y_D_next)
theorem tok_D_next : fw_tok c_D_next W_D_next R_D tab_D_next = true := by decide +kernel
theorem hv_D_next {T : fw_T} (h : TOK T) : HV T G_D_next R_D := ⟨rfl, h, fun x hx => List.mem_cons_of_mem _ hx⟩
theorem ct_D_next {T : fw_T} {l : Launch} {w : fw_W} {av : List fw_V} {post : Option fw_V → fw_W → Prop} {L : List (Option fw_V)} (hL : L = av.map some ++ List.replicate (4 - av.length) none) (hlen : av.length ≤ 4) (kk : ∀ X : fw_X, xL X = l → fw_ok T G_D_next X → fw_ends T G_D_next X post → J T G_D_next X 0 L [] w 0 0) : Ct l T y_D_next W_D_next rm_D_next av w post := ct_of (G := G_D_next) c_D_next 4 R_D (Option.some Jvm.ClassFile.FieldType.int) tab_D_next rfl (by decide +kernel) rfl rfl tok_D_next hL hlen kk
def tab_D_waiting : List fw_I := [(0, .iload_n 1, 1, 1, 0, 0), (1, .aload_n 0, 1, 2, 0, 0), (2, .getfield 107, 3, 5, 0, 0), (5, .invokestatic 128, 3, 8, 0, 0), (8, .ifCond .eq 7, 3, 11, 15, 0), (11, .iconst (-1), 1, 12, 0, (-1)), (12, .goto 9, 3, 15, 21, 0), (15, .aload_n 0, 1, 16, 0, 0), (16, .iconst 2, 1, 17, 0, 2), (17, .iload_n 1, 1, 18, 0, 0), (18, .invokevirtual 182, 3, 21, 0, 0), (21, .ireturn, 1, 22, 0, 0)]
def G_D_waiting : fw_G := (c_D_waiting, 2, W_D_waiting, R_D, rm_D_waiting, (Option.some Jvm.ClassFile.FieldType.int), tab_D_waiting, y_D_waiting)
theorem tok_D_waiting : fw_tok c_D_waiting W_D_waiting R_D tab_D_waiting = true := by decide +kernel
theorem hv_D_waiting {T : fw_T} (h : TOK T) : HV T G_D_waiting R_D := ⟨rfl, h, fun x hx => List.mem_cons_of_mem _ hx⟩
theorem ct_D_waiting {T : fw_T} {l : Launch} {w : fw_W} {av : List fw_V} {post : Option fw_V → fw_W → Prop} {L : List (Option fw_V)} (hL : L = av.map some ++ List.replicate (2 - av.length) none) (hlen : av.length ≤ 2) (kk : ∀ X : fw_X, xL X = l → fw_ok T G_D_waiting X → fw_ends T G_D_waiting X post → J T G_D_waiting X 0 L [] w 0 0) : Ct l T y_D_waiting W_D_waiting rm_D_waiting av w post := ct_of (G := G_D_waiting) c_D_waiting 2 R_D (Option.some Jvm.ClassFile.FieldType.int) tab_D_waiting rfl (by decide +kernel) rfl rfl tok_D_waiting hL hlen kk
def tab_D_notes : List fw_I := [(0, .iload_n 1, 1, 1, 0, 0), (1, .aload_n 0, 1, 2, 0, 0), (2, .getfield 107, 3, 5, 0, 0), (5, .invokestatic 128, 3, 8, 0, 0), (8, .ifCond .eq 7, 3, 11, 15, 0), (11, .iconst (-1), 1, 12, 0, (-1)), (12, .goto 9, 3, 15, 21, 0), (15, .aload_n 0, 1, 16, 0, 0), (16, .getfield 74, 3, 19, 0, 0), (19, .iload_n 1, 1, 20, 0, 0), (20, .iaload, 1, 21, 0, 0), (21, .ireturn, 1, 22, 0, 0)]
def G_D_notes : fw_G := (c_D_notes, 2, W_D_notes, R_D, rm_D_notes, (Option.some Jvm.ClassFile.FieldType.int), tab_D_notes, y_D_notes)
theorem tok_D_notes : fw_tok c_D_notes W_D_notes R_D tab_D_notes = true := by decide +kernel
theorem hv_D_notes {T : fw_T} (h : TOK T) : HV T G_D_notes R_D := ⟨rfl, h, fun x hx => List.mem_cons_of_mem _ hx⟩
theorem ct_D_notes {T : fw_T} {l : Launch} {w : fw_W} {av : List fw_V} {post : Option fw_V → fw_W → Prop} {L : List (Option fw_V)} (hL : L = av.map some ++ List.replicate (2 - av.length) none) (hlen : av.length ≤ 2) (kk : ∀ X : fw_X, xL X = l → fw_ok T G_D_notes X → fw_ends T G_D_notes X post → J T G_D_notes X 0 L [] w 0 0) : Ct l T y_D_notes W_D_notes rm_D_notes av w post := ct_of (G := G_D_notes) c_D_notes 2 R_D (Option.some Jvm.ClassFile.FieldType.int) tab_D_notes rfl (by decide +kernel) rfl rfl tok_D_notes hL hlen kk
end
section
/-! The class's objects, by their numbers: a reference is (sort, index); things, messages and lines are records; the heap holds them at the addresses that a configuration c names. -/
abbrev Rf : Type := Int32 × Int32
abbrev rN : Rf := (0, 0)
abbrev rB : Rf := (4, 0)
/-- a thing: kind, home, owner, slots, held, facet, revoked, inward, balance -/
abbrev Th : Type := Int32 × Int32 × Option Nat × (Nat → Rf) × Rf × Option Nat × Int32 × Int32 × Int32
abbrev tK (t : Th) : Int32 := t.1
abbrev tH (t : Th) : Int32 := t.2.1
abbrev tO (t : Th) : Option Nat := t.2.2.1
abbrev tS (t : Th) : Nat → Rf := t.2.2.2.1
abbrev tD (t : Th) : Rf := t.2.2.2.2.1
abbrev tF (t : Th) : Option Nat := t.2.2.2.2.2.1
abbrev tV (t : Th) : Int32 := t.2.2.2.2.2.2.1
abbrev tI (t : Th) : Int32 := t.2.2.2.2.2.2.2.1
abbrev tB (t : Th) : Int32 := t.2.2.2.2.2.2.2.2
/-- a message: verb, target, argument, answer, place, notes -/
abbrev Ms : Type := Int32 × Rf × Rf × Option Rf × Int32 × List Nat
abbrev mV (m : Ms) : Int32 := m.1
abbrev mT (m : Ms) : Rf := m.2.1
abbrev mA (m : Ms) : Rf := m.2.2.1
abbrev mN (m : Ms) : Option Rf := m.2.2.2.1
abbrev mP (m : Ms) : Int32 := m.2.2.2.2.1
abbrev mW (m : Ms) : List Nat := m.2.2.2.2.2
/-- a line: first, last, length -/
abbrev Lf : Type := Option Nat × Option Nat × Int32
/-- the addresses: (the object, nothing, broken, things, sent, queues), things, their slots, messages, their passed, lines (0, 1, 2 the queues; 3 the unrouted; 4 + j those that wait at j) -/
abbrev Cfg : Type := (Nat × Nat × Nat × Nat × Nat × Nat) × (Nat → Nat) × (Nat → Nat) × (Nat → Nat) × (Nat → Nat) × (Nat → Nat)
abbrev cO (c : Cfg) : Nat := c.1.1
abbrev cN (c : Cfg) : Nat := c.1.2.1
abbrev cB (c : Cfg) : Nat := c.1.2.2.1
abbrev cTA (c : Cfg) : Nat := c.1.2.2.2.1
abbrev cMA (c : Cfg) : Nat := c.1.2.2.2.2.1
abbrev cQA (c : Cfg) : Nat := c.1.2.2.2.2.2
abbrev cT (c : Cfg) : Nat → Nat := c.2.1
abbrev cS (c : Cfg) : Nat → Nat := c.2.2.1
abbrev cM (c : Cfg) : Nat → Nat := c.2.2.2.1
abbrev cP (c : Cfg) : Nat → Nat := c.2.2.2.2.1
abbrev cL (c : Cfg) : Nat → Nat := c.2.2.2.2.2
def IsR (w : fw_W) (a : Nat) (r : Rf) : Prop := w a = some (.inr (kR, [.inl r.1, .inl r.2]))
def cellT (c : Cfg) (i : Nat) (t : Th) (sf hd : Nat) : fw_E := .inr (kT, [.inl (nI i), .inl (tK t), .inl (tH t), .inr ((tO t).map (cT c)), .inr (some sf), .inr (some (cS c i)), .inr (some hd), .inr ((tF t).map (cT c)), .inl (tV t), .inl (tI t), .inl (tB t)])
def okT (n : Nat) (t : Th) : Prop := (∀ o, tO t = some o → o < n) ∧ (∀ o, tF t = some o → o < n)
def okM (n k : Nat) (m : Ms) (b : Option Nat) : Prop := (∀ x, x ∈ mW m → x < n) ∧ (∀ x, b = some x → x < k) ∧ (mW m).length ≤ 8
def okL (k : Nat) (l : Lf) : Prop := (∀ b, l.1 = some b → b < k) ∧ (∀ b, l.2.1 = some b → b < k)
def ThOK (w : fw_W) (c : Cfg) (n i : Nat) (t : Th) : Prop := okT n t ∧ ∃ (sf hd : Nat) (f : Nat → Option Nat), w (cT c i) = some (cellT c i t sf hd) ∧ IsR w sf (2, nI i) ∧ IsR w hd (tD t) ∧ w (cS c i) = some (.inl (aR, 4, .inr f)) ∧ ∀ q, q < 4 → ∃ r, f q = some r ∧ IsR w r (tS t q)
def isA (w : fw_W) (a : Option Nat) (r : Option Rf) : Prop := (a = none ∧ r = none) ∨ ∃ x y, a = some x ∧ r = some y ∧ IsR w x y
def cellM (c : Cfg) (j : Nat) (m : Ms) (b : Option Nat) (pr tg ar : Nat) (an : Option Nat) : fw_E := .inr (kM, [.inl (nI j), .inl (mV m), .inr (some pr), .inr (some (cL c (4 + j))), .inr (some tg), .inr (some ar), .inr an, .inl (mP m), .inr (b.map (cM c)), .inr (some (cP c j)), .inl (nI (mW m).length)])
def cellP (c : Cfg) (m : Ms) : fw_E := .inl (aT, 8, .inr (fun q => ((mW m)[q]?).map (cT c)))
def MsOK (w : fw_W) (c : Cfg) (n k j : Nat) (m : Ms) (b : Option Nat) : Prop := okM n k m b ∧ ∃ (pr tg ar : Nat) (an : Option Nat), w (cM c j) = some (cellM c j m b pr tg ar an) ∧ IsR w pr (3, nI j) ∧ IsR w tg (mT m) ∧ IsR w ar (mA m) ∧ isA w an (mN m) ∧ w (cP c j) = some (cellP c m)
def cellL (c : Cfg) (l : Lf) : fw_E := .inr (kL, [.inr (l.1.map (cM c)), .inr (l.2.1.map (cM c)), .inl l.2.2])
def cellO (c : Cfg) (n k : Nat) : fw_E := .inr (kV, [.inr (some (cN c)), .inr (some (cB c)), .inr (some (cTA c)), .inl (nI n), .inr (some (cMA c)), .inl (nI k), .inr (some (cQA c)), .inr (some (cL c 3))])
def cellTA (c : Cfg) (n : Nat) : fw_E := .inl (aT, 40, .inr (fun i => if i < n then some (cT c i) else none))
def cellMA (c : Cfg) (k : Nat) : fw_E := .inl (aM, 200, .inr (fun j => if j < k then some (cM c j) else none))
def RepK (w : fw_W) (c : Cfg) (n : Nat) (th : Nat → Th) (k : Nat) (ms : Nat → Ms) (bh : Nat → Option Nat) (lf : Nat → Lf) : Prop :=
  w (cO c) = some (cellO c n k) ∧ IsR w (cN c) rN ∧ IsR w (cB c) rB ∧ w (cTA c) = some (cellTA c n) ∧ w (cMA c) = some (cellMA c k) ∧
  (∃ f : Nat → Option Nat, w (cQA c) = some (.inl (aL, 3, .inr f)) ∧ ∀ v, v < 3 → f v = some (cL c v)) ∧
  (∀ i, i < n → ThOK w c n i (th i)) ∧ (∀ j, j < k → MsOK w c n k j (ms j) (bh j)) ∧ (∀ i, i < 4 + k → w (cL c i) = some (cellL c (lf i)) ∧ okL k (lf i)) ∧
  (∀ i j, i < n → j < n → cS c i = cS c j → i = j) ∧ (∀ i j, i < k → j < k → cP c i = cP c j → i = j) ∧ (∀ i j, i < 4 + k → j < 4 + k → cL c i = cL c j → i = j) ∧ n ≤ 40 ∧ k ≤ 200
theorem up_ne {w : fw_W} {a b : Nat} {e x : fw_E} {y : Option fw_E} (ha : w a = some e) (hb : w b = some x) (hne : x ≠ e) : va_up w a y b = some x := by
  rw [va_up_ne _ _ (fun q => hne (by subst q; exact Option.some.inj (hb.symm.trans ha)))]
  exact hb
theorem IsR.up {w : fw_W} {a b : Nat} {r : Rf} {e : fw_E} {y : Option fw_E} (h : IsR w b r) (ha : w a = some e) (hne : ∀ l, e ≠ .inr (kR, l)) : IsR (va_up w a y) b r := up_ne ha h (fun q => hne _ q.symm)
theorem isA.up {w : fw_W} {a : Nat} {o : Option Nat} {r : Option Rf} {e : fw_E} {y : Option fw_E} (h : isA w o r) (ha : w a = some e) (hne : ∀ l, e ≠ .inr (kR, l)) : isA (va_up w a y) o r := by
  rcases h with h | ⟨x, z, h1, h2, h3⟩
  · exact Or.inl h
  · exact Or.inr ⟨x, z, h1, h2, h3.up ha hne⟩
section REPK
variable {w : fw_W} {c : Cfg} {n k : Nat} {th : Nat → Th} {ms : Nat → Ms} {bh : Nat → Option Nat} {lf : Nat → Lf}
theorem RepK.n40 (R : RepK w c n th k ms bh lf) : n ≤ 40 := R.2.2.2.2.2.2.2.2.2.2.2.2.1
theorem RepK.k200 (R : RepK w c n th k ms bh lf) : k ≤ 200 := R.2.2.2.2.2.2.2.2.2.2.2.2.2
theorem RepK.aT (R : RepK w c n th k ms bh lf) {i : Nat} (h : i < n) : ThOK w c n i (th i) := R.2.2.2.2.2.2.1 i h
theorem RepK.aM (R : RepK w c n th k ms bh lf) {j : Nat} (h : j < k) : MsOK w c n k j (ms j) (bh j) := R.2.2.2.2.2.2.2.1 j h
theorem RepK.aL (R : RepK w c n th k ms bh lf) {i : Nat} (h : i < 4 + k) : w (cL c i) = some (cellL c (lf i)) ∧ okL k (lf i) := R.2.2.2.2.2.2.2.2.1 i h
theorem RepK.tinj (R : RepK w c n th k ms bh lf) {i j : Nat} (hi : i < n) (hj : j < n) (h : cT c i = cT c j) : i = j := by
  obtain ⟨-, sf, hd, f, h1, -⟩ := R.aT hi
  obtain ⟨-, sf', hd', f', h2, -⟩ := R.aT hj
  rw [h, h2] at h1
  have h3 := Option.some.inj h1
  simp only [cellT, Sum.inr.injEq, Prod.mk.injEq, List.cons.injEq, Sum.inl.injEq] at h3
  have h40 := R.n40
  exact ((nI_eq (by omega) (by omega)).mp h3.2.1).symm
theorem RepK.minj (R : RepK w c n th k ms bh lf) {i j : Nat} (hi : i < k) (hj : j < k) (h : cM c i = cM c j) : i = j := by
  obtain ⟨-, _, _, _, _, h1, -⟩ := R.aM hi
  obtain ⟨-, _, _, _, _, h2, -⟩ := R.aM hj
  rw [h, h2] at h1
  have h3 := Option.some.inj h1
  simp only [cellM, Sum.inr.injEq, Prod.mk.injEq, List.cons.injEq, Sum.inl.injEq] at h3
  have h40 := R.k200
  exact ((nI_eq (by omega) (by omega)).mp h3.2.1).symm
/-- a thing's own fields are written -/
theorem RepK.setT (R : RepK w c n th k ms bh lf) {i : Nat} (hi : i < n) {t : Th} {sf hd : Nat} (h0 : okT n t) (h1 : IsR w sf (2, nI i)) (h2 : IsR w hd (tD t)) (h3 : tS t = tS (th i)) : RepK (va_up w (cT c i) (some (cellT c i t sf hd))) c n (va_up th i t) k ms bh lf := by
  obtain ⟨-, sf0, hd0, f0, e0, e1, e2, e3, e4⟩ := R.aT hi
  have nR : ∀ l, cellT c i (th i) sf0 hd0 ≠ .inr (kR, l) := fun l h => by simp [cellT, kT, kR] at h
  obtain ⟨r1, r2, r3, r4, r5, ⟨f, r6, r6'⟩, r7, r8, r9, r10, r11, r12, r13, r14⟩ := R
  refine ⟨up_ne e0 r1 (by simp [cellO, cellT, kV, kT]), r2.up e0 nR, r3.up e0 nR, up_ne e0 r4 (by simp [cellTA, cellT]), up_ne e0 r5 (by simp [cellMA, cellT]), ⟨f, up_ne e0 r6 (by simp [cellT]), r6'⟩, ?_, ?_, fun j hj => ⟨up_ne e0 (r9 j hj).1 (by simp [cellL, cellT, kL, kT]), (r9 j hj).2⟩, r10, r11, r12, r13, r14⟩
  · intro j hj
    by_cases hji : j = i
    · subst hji
      refine ⟨by rw [va_up_self]; exact h0, sf, hd, f0, ?_, h1.up e0 nR, ?_, up_ne e0 e3 (by simp [cellT]), ?_⟩
      · rw [va_up_self, va_up_self]
      · rw [va_up_self]; exact h2.up e0 nR
      · intro q hq
        rw [va_up_self, h3]
        obtain ⟨r, a1, a2⟩ := e4 q hq
        exact ⟨r, a1, a2.up e0 nR⟩
    · obtain ⟨gk, sf1, hd1, f1, g0, g1, g2, g3, g4⟩ := r7 j hj
      rw [va_up_ne _ _ hji]
      refine ⟨gk, sf1, hd1, f1, ?_, g1.up e0 nR, g2.up e0 nR, up_ne e0 g3 (by simp [cellT]), fun q hq => ?_⟩
      · refine up_ne e0 g0 (fun q => hji ?_)
        simp only [cellT, Sum.inr.injEq, Prod.mk.injEq, List.cons.injEq, Sum.inl.injEq] at q
        exact (nI_eq (by omega) (by omega)).mp q.2.1
      · obtain ⟨r, a1, a2⟩ := g4 q hq
        exact ⟨r, a1, a2.up e0 nR⟩
  · intro j hj
    obtain ⟨gk, pr, tg, ar, an, g0, g1, g2, g3, g4, g5⟩ := r8 j hj
    exact ⟨gk, pr, tg, ar, an, up_ne e0 g0 (by simp [cellM, cellT, kM, kT]), g1.up e0 nR, g2.up e0 nR, g3.up e0 nR, g4.up e0 nR, up_ne e0 g5 (by simp [cellP, cellT])⟩
end REPK
end
section
section REPK2
variable {w : fw_W} {c : Cfg} {n k : Nat} {th : Nat → Th} {ms : Nat → Ms} {bh : Nat → Option Nat} {lf : Nat → Lf}
abbrev tSet (t : Th) (s : Nat → Rf) : Th := (t.1, t.2.1, t.2.2.1, s, t.2.2.2.2)
/-- a slot is written -/
theorem RepK.setS (R : RepK w c n th k ms bh lf) {i : Nat} (hi : i < n) {f : Nat → Option Nat} (hf : w (cS c i) = some (.inl (aR, 4, .inr f))) {q r : Nat} {v : Rf} (hr : IsR w r v) : RepK (va_up w (cS c i) (some (.inl (aR, 4, .inr (va_up f q (some r)))))) c n (va_up th i (tSet (th i) (va_up (tS (th i)) q v))) k ms bh lf := by
  obtain ⟨ek, sf0, hd0, f0, e0, e1, e2, e3, e4⟩ := R.aT hi
  have hff : f0 = f := by
    have := Option.some.inj (e3.symm.trans hf)
    simp only [Sum.inl.injEq, Prod.mk.injEq, Sum.inr.injEq] at this
    exact this.2.2
  subst hff
  have nR : ∀ l, (Sum.inl (aR, 4, .inr f0) : fw_E) ≠ .inr (kR, l) := fun l h => by cases h
  obtain ⟨r1, r2, r3, r4, r5, ⟨f', r6, r6'⟩, r7, r8, r9, r10, r11, r12, r13, r14⟩ := R
  refine ⟨up_ne hf r1 (by simp [cellO]), r2.up hf nR, r3.up hf nR, up_ne hf r4 (by simp [cellTA, aR, aT]), up_ne hf r5 (by simp [cellMA, aR, aM]), ⟨f', up_ne hf r6 (by simp [aR, aL]), r6'⟩, ?_, ?_, fun j hj => ⟨up_ne hf (r9 j hj).1 (by simp [cellL]), (r9 j hj).2⟩, r10, r11, r12, r13, r14⟩
  · intro j hj
    by_cases hji : j = i
    · subst hji
      rw [va_up_self]
      refine ⟨ek, sf0, hd0, va_up f0 q (some r), up_ne hf e0 (by simp [cellT]), e1.up hf nR, e2.up hf nR, by rw [va_up_self], fun p hp => ?_⟩
      by_cases hpq : p = q
      · subst hpq
        refine ⟨r, va_up_self _ _ _, ?_⟩
        show IsR _ r (va_up (tS (th j)) p v p)
        rw [va_up_self]
        exact hr.up hf nR
      · obtain ⟨r', a1, a2⟩ := e4 p hp
        refine ⟨r', by rw [va_up_ne _ _ hpq]; exact a1, ?_⟩
        show IsR _ r' (va_up (tS (th j)) q v p)
        rw [va_up_ne _ _ hpq]
        exact a2.up hf nR
    · obtain ⟨gk, sf1, hd1, f1, g0, g1, g2, g3, g4⟩ := r7 j hj
      rw [va_up_ne _ _ hji]
      refine ⟨gk, sf1, hd1, f1, up_ne hf g0 (by simp [cellT]), g1.up hf nR, g2.up hf nR, ?_, fun q hq => ?_⟩
      · rw [va_up_ne _ _ (fun h => hji (r10 j i hj hi h))]; exact g3
      · obtain ⟨r, a1, a2⟩ := g4 q hq
        exact ⟨r, a1, a2.up hf nR⟩
  · intro j hj
    obtain ⟨gk, pr, tg, ar, an, g0, g1, g2, g3, g4, g5⟩ := r8 j hj
    exact ⟨gk, pr, tg, ar, an, up_ne hf g0 (by simp [cellM]), g1.up hf nR, g2.up hf nR, g3.up hf nR, g4.up hf nR, up_ne hf g5 (by simp [cellP, aR, aT])⟩
/-- a message's own fields are written -/
theorem RepK.setM (R : RepK w c n th k ms bh lf) {i : Nat} (hi : i < k) {m : Ms} {pr tg ar : Nat} {an : Option Nat} {b : Option Nat} (h0 : okM n k m b) (h1 : IsR w pr (3, nI i)) (h2 : IsR w tg (mT m)) (h3 : IsR w ar (mA m)) (h4 : isA w an (mN m)) (h5 : mW m = mW (ms i)) : RepK (va_up w (cM c i) (some (cellM c i m b pr tg ar an))) c n th k (va_up ms i m) (va_up bh i b) lf := by
  obtain ⟨ek, pr0, tg0, ar0, an0, e0, e1, e2, e3, e4, e5⟩ := R.aM hi
  have nR : ∀ l, cellM c i (ms i) (bh i) pr0 tg0 ar0 an0 ≠ .inr (kR, l) := fun l h => by simp [cellM, kM, kR] at h
  obtain ⟨r1, r2, r3, r4, r5, ⟨f, r6, r6'⟩, r7, r8, r9, r10, r11, r12, r13, r14⟩ := R
  refine ⟨up_ne e0 r1 (by simp [cellO, cellM, kV, kM]), r2.up e0 nR, r3.up e0 nR, up_ne e0 r4 (by simp [cellTA, cellM]), up_ne e0 r5 (by simp [cellMA, cellM]), ⟨f, up_ne e0 r6 (by simp [cellM]), r6'⟩, ?_, ?_, fun j hj => ⟨up_ne e0 (r9 j hj).1 (by simp [cellL, cellM, kL, kM]), (r9 j hj).2⟩, r10, r11, r12, r13, r14⟩
  · intro j hj
    obtain ⟨gk, sf1, hd1, f1, g0, g1, g2, g3, g4⟩ := r7 j hj
    refine ⟨gk, sf1, hd1, f1, up_ne e0 g0 (by simp [cellT, cellM, kT, kM]), g1.up e0 nR, g2.up e0 nR, up_ne e0 g3 (by simp [cellM]), fun q hq => ?_⟩
    obtain ⟨r, a1, a2⟩ := g4 q hq
    exact ⟨r, a1, a2.up e0 nR⟩
  · intro j hj
    by_cases hji : j = i
    · subst hji
      rw [va_up_self, va_up_self]
      refine ⟨h0, pr, tg, ar, an, by rw [va_up_self], h1.up e0 nR, h2.up e0 nR, h3.up e0 nR, h4.up e0 nR, ?_⟩
      have : cellP c m = cellP c (ms j) := by simp only [cellP, h5]
      rw [this]
      exact up_ne e0 e5 (by simp [cellP, cellM])
    · obtain ⟨gk, pr1, tg1, ar1, an1, g0, g1, g2, g3, g4, g5⟩ := r8 j hj
      rw [va_up_ne _ _ hji, va_up_ne _ _ hji]
      refine ⟨gk, pr1, tg1, ar1, an1, ?_, g1.up e0 nR, g2.up e0 nR, g3.up e0 nR, g4.up e0 nR, up_ne e0 g5 (by simp [cellP, cellM])⟩
      refine up_ne e0 g0 (fun q => hji ?_)
      simp only [cellM, Sum.inr.injEq, Prod.mk.injEq, List.cons.injEq, Sum.inl.injEq] at q
      exact (nI_eq (by omega) (by omega)).mp q.2.1
/-- a line's fields are written -/
theorem RepK.setL (R : RepK w c n th k ms bh lf) {i : Nat} (hi : i < 4 + k) (l : Lf) (hl : okL k l) : RepK (va_up w (cL c i) (some (cellL c l))) c n th k ms bh (va_up lf i l) := by
  have e0 := (R.aL hi).1
  have nR : ∀ l, cellL c (lf i) ≠ .inr (kR, l) := fun l h => by simp [cellL, kL, kR] at h
  obtain ⟨r1, r2, r3, r4, r5, ⟨f, r6, r6'⟩, r7, r8, r9, r10, r11, r12, r13, r14⟩ := R
  refine ⟨up_ne e0 r1 (by simp [cellO, cellL, kV, kL]), r2.up e0 nR, r3.up e0 nR, up_ne e0 r4 (by simp [cellTA, cellL]), up_ne e0 r5 (by simp [cellMA, cellL]), ⟨f, up_ne e0 r6 (by simp [cellL]), r6'⟩, ?_, ?_, fun j hj => ?_, r10, r11, r12, r13, r14⟩
  · intro j hj
    obtain ⟨gk, sf1, hd1, f1, g0, g1, g2, g3, g4⟩ := r7 j hj
    refine ⟨gk, sf1, hd1, f1, up_ne e0 g0 (by simp [cellT, cellL, kT, kL]), g1.up e0 nR, g2.up e0 nR, up_ne e0 g3 (by simp [cellL]), fun q hq => ?_⟩
    obtain ⟨r, a1, a2⟩ := g4 q hq
    exact ⟨r, a1, a2.up e0 nR⟩
  · intro j hj
    obtain ⟨gk, pr1, tg1, ar1, an1, g0, g1, g2, g3, g4, g5⟩ := r8 j hj
    exact ⟨gk, pr1, tg1, ar1, an1, up_ne e0 g0 (by simp [cellM, cellL, kM, kL]), g1.up e0 nR, g2.up e0 nR, g3.up e0 nR, g4.up e0 nR, up_ne e0 g5 (by simp [cellP, cellL])⟩
  · by_cases hji : j = i
    · subst hji
      rw [va_up_self, va_up_self]
      exact ⟨rfl, hl⟩
    · rw [va_up_ne _ _ hji, va_up_ne _ _ (fun h => hji (r12 j i hj hi h))]
      exact r9 j hj
/-- a new reference -/
theorem IsR.new {b q : Nat} {r : Rf} {e : fw_E} (h : IsR w b r) (hq : w q = none) : IsR (va_up w q (some e)) b r := by
  unfold IsR at h ⊢
  rw [va_up_ne _ _ (fun z => by subst z; rw [hq] at h; cases h)]
  exact h
theorem up_new {b q : Nat} {x e : fw_E} (h : w b = some x) (hq : w q = none) : va_up w q (some e) b = some x := by
  rw [va_up_ne _ _ (fun z => by subst z; rw [hq] at h; cases h)]
  exact h
/-- cells that are nobody's come -/
theorem RepK.mono (R : RepK w c n th k ms bh lf) {w' : fw_W} (hm : ∀ a e, w a = some e → w' a = some e) : RepK w' c n th k ms bh lf := by
  have hR : ∀ {b r}, IsR w b r → IsR w' b r := fun h => hm _ _ h
  obtain ⟨r1, r2, r3, r4, r5, ⟨f, r6, r6'⟩, r7, r8, r9, r10, r11, r12, r13, r14⟩ := R
  refine ⟨hm _ _ r1, hR r2, hR r3, hm _ _ r4, hm _ _ r5, ⟨f, hm _ _ r6, r6'⟩, ?_, ?_, fun j hj => ⟨hm _ _ (r9 j hj).1, (r9 j hj).2⟩, r10, r11, r12, r13, r14⟩
  · intro j hj
    obtain ⟨gk, sf1, hd1, f1, g0, g1, g2, g3, g4⟩ := r7 j hj
    refine ⟨gk, sf1, hd1, f1, hm _ _ g0, hR g1, hR g2, hm _ _ g3, fun p hp => ?_⟩
    obtain ⟨r, a1, a2⟩ := g4 p hp
    exact ⟨r, a1, hR a2⟩
  · intro j hj
    obtain ⟨gk, pr1, tg1, ar1, an1, g0, g1, g2, g3, g4, g5⟩ := r8 j hj
    refine ⟨gk, pr1, tg1, ar1, an1, hm _ _ g0, hR g1, hR g2, hR g3, ?_, hm _ _ g5⟩
    rcases g4 with h | ⟨x, z, h1, h2, h3⟩
    · exact Or.inl h
    · exact Or.inr ⟨x, z, h1, h2, hR h3⟩
theorem RepK.grow (R : RepK w c n th k ms bh lf) {q : Nat} {e : fw_E} (hq : w q = none) : RepK (va_up w q (some e)) c n th k ms bh lf := R.mono (fun _ _ h => up_new h hq)
end REPK2
end
section
section REPK3
variable {w : fw_W} {c c' : Cfg} {n k : Nat} {th : Nat → Th} {ms : Nat → Ms} {bh : Nat → Option Nat} {lf : Nat → Lf}
/-- c' names what c names, and perhaps more -/
def Cext (n k : Nat) (c c' : Cfg) : Prop := c'.1 = c.1 ∧ (∀ i, i < n → cT c' i = cT c i ∧ cS c' i = cS c i) ∧ (∀ j, j < k → cM c' j = cM c j ∧ cP c' j = cP c j) ∧ ∀ i, i < 4 + k → cL c' i = cL c i
theorem Cext.rf : Cext n k c c := ⟨rfl, fun _ _ => ⟨rfl, rfl⟩, fun _ _ => ⟨rfl, rfl⟩, fun _ _ => rfl⟩
theorem Cext.tr {c'' : Cfg} {n' k' : Nat} (h : Cext n k c c') (h' : Cext n' k' c' c'') (hn : n ≤ n') (hk : k ≤ k') : Cext n k c c'' := by
  obtain ⟨a1, a2, a3, a4⟩ := h
  obtain ⟨b1, b2, b3, b4⟩ := h'
  refine ⟨b1.trans a1, fun i hi => ?_, fun j hj => ?_, fun i hi => (b4 i (by omega)).trans (a4 i hi)⟩
  · exact ⟨(b2 i (by omega)).1.trans (a2 i hi).1, (b2 i (by omega)).2.trans (a2 i hi).2⟩
  · exact ⟨(b3 j (by omega)).1.trans (a3 j hj).1, (b3 j (by omega)).2.trans (a3 j hj).2⟩
theorem map_ext {o : Option Nat} {f g : Nat → Nat} (h : ∀ x, o = some x → f x = g x) : o.map f = o.map g := by
  cases o with
  | none => rfl
  | some x => exact congrArg some (h x rfl)
theorem cellT_ext (h : Cext n k c c') {i : Nat} (hi : i < n) {t : Th} (ht : okT n t) (sf hd : Nat) : cellT c' i t sf hd = cellT c i t sf hd := by
  unfold cellT
  rw [map_ext (fun x hx => (h.2.1 x (ht.1 x hx)).1), map_ext (fun x hx => (h.2.1 x (ht.2 x hx)).1), (h.2.1 i hi).2]
theorem cellM_ext (h : Cext n k c c') {j : Nat} (hj : j < k) {m : Ms} {b : Option Nat} (hm : okM n k m b) (pr tg ar : Nat) (an : Option Nat) : cellM c' j m b pr tg ar an = cellM c j m b pr tg ar an := by
  unfold cellM
  rw [map_ext (fun x hx => (h.2.2.1 x (hm.2.1 x hx)).1), (h.2.2.1 j hj).2, h.2.2.2 (4 + j) (by omega)]
theorem cellP_ext (h : Cext n k c c') {m : Ms} {b : Option Nat} (hm : okM n k m b) : cellP c' m = cellP c m := by
  unfold cellP
  congr 4
  funext q
  exact map_ext (fun x hx => (h.2.1 x (hm.1 x (List.mem_of_getElem? hx))).1)
theorem cellL_ext (h : Cext n k c c') {l : Lf} (hl : okL k l) : cellL c' l = cellL c l := by
  unfold cellL
  rw [map_ext (fun x hx => (h.2.2.1 x (hl.1 x hx)).1), map_ext (fun x hx => (h.2.2.1 x (hl.2 x hx)).1)]
theorem cellO_ext (h : Cext n k c c') (a b : Nat) : cellO c' a b = cellO c a b := by
  unfold cellO cN cB cTA cMA cQA
  rw [h.1, h.2.2.2 3 (by omega)]
theorem cellTA_ext (h : Cext n k c c') : cellTA c' n = cellTA c n := by
  unfold cellTA
  congr 4
  funext i
  by_cases hi : i < n
  · rw [if_pos hi, if_pos hi, (h.2.1 i hi).1]
  · rw [if_neg hi, if_neg hi]
theorem cellMA_ext (h : Cext n k c c') : cellMA c' k = cellMA c k := by
  unfold cellMA
  congr 4
  funext i
  by_cases hi : i < k
  · rw [if_pos hi, if_pos hi, (h.2.2.1 i hi).1]
  · rw [if_neg hi, if_neg hi]
/-- the same heap, under a configuration that names more -/
theorem RepK.recfg (R : RepK w c n th k ms bh lf) (h : Cext n k c c') : RepK w c' n th k ms bh lf := by
  obtain ⟨r1, r2, r3, r4, r5, ⟨f, r6, r6'⟩, r7, r8, r9, r10, r11, r12, r13, r14⟩ := R
  have hc1 := h.1
  refine ⟨by rw [cellO_ext h]; unfold cO; rw [hc1]; exact r1, by unfold cN; rw [hc1]; exact r2, by unfold cB; rw [hc1]; exact r3, by rw [cellTA_ext h]; unfold cTA; rw [hc1]; exact r4, by rw [cellMA_ext h]; unfold cMA; rw [hc1]; exact r5, ⟨f, by unfold cQA; rw [hc1]; exact r6, fun v hv => by rw [h.2.2.2 v (by omega)]; exact r6' v hv⟩, ?_, ?_, ?_, ?_, ?_, ?_, r13, r14⟩
  · intro i hi
    obtain ⟨gk, sf1, hd1, f1, g0, g1, g2, g3, g4⟩ := r7 i hi
    refine ⟨gk, sf1, hd1, f1, ?_, g1, g2, ?_, g4⟩
    · rw [cellT_ext h hi gk, (h.2.1 i hi).1]; exact g0
    · rw [(h.2.1 i hi).2]; exact g3
  · intro j hj
    obtain ⟨gk, pr1, tg1, ar1, an1, g0, g1, g2, g3, g4, g5⟩ := r8 j hj
    refine ⟨gk, pr1, tg1, ar1, an1, ?_, g1, g2, g3, g4, ?_⟩
    · rw [cellM_ext h hj gk, (h.2.2.1 j hj).1]; exact g0
    · rw [cellP_ext h gk, (h.2.2.1 j hj).2]; exact g5
  · intro i hi
    rw [cellL_ext h (r9 i hi).2, h.2.2.2 i hi]
    exact r9 i hi
  · intro i j hi hj
    rw [(h.2.1 i hi).2, (h.2.1 j hj).2]
    exact r10 i j hi hj
  · intro i j hi hj
    rw [(h.2.2.1 i hi).2, (h.2.2.1 j hj).2]
    exact r11 i j hi hj
  · intro i j hi hj
    rw [h.2.2.2 i hi, h.2.2.2 j hj]
    exact r12 i j hi hj
/-- the configuration with one thing more -/
def cAddT (c : Cfg) (n q qs : Nat) : Cfg := (c.1, va_up (cT c) n q, va_up (cS c) n qs, c.2.2.2)
theorem cAddT_ext (q qs : Nat) : Cext n k c (cAddT c n q qs) := by
  refine ⟨rfl, fun i hi => ⟨?_, ?_⟩, fun _ _ => ⟨rfl, rfl⟩, fun _ _ => rfl⟩
  · show va_up (cT c) n q i = cT c i
    rw [va_up_ne _ _ (by omega)]
  · show va_up (cS c) n qs i = cS c i
    rw [va_up_ne _ _ (by omega)]
/-- a new thing is put at its place -/
theorem RepK.pushT (R : RepK w c n th k ms bh lf) (hn : n < 40) {q qs sf hd : Nat} {t : Th} {f : Nat → Option Nat} (hq : w q = some (cellT (cAddT c n q qs) n t sf hd)) (hok : okT n t) (hsf : IsR w sf (2, nI n)) (hhd : IsR w hd (tD t)) (hqs : w qs = some (.inl (aR, 4, .inr f))) (hsl : ∀ p, p < 4 → ∃ r, f p = some r ∧ IsR w r (tS t p)) (hnew : ∀ i, i < n → cS c i ≠ qs) :
    RepK (va_up (va_up w (cTA c) (some (cellTA (cAddT c n q qs) (n + 1)))) (cO c) (some (cellO (cAddT c n q qs) (n + 1) k))) (cAddT c n q qs) (n + 1) (va_up th n t) k ms bh lf := by
  have R := R.recfg (cAddT_ext (n := n) (k := k) (c := c) q qs)
  have hTA : cTA c = cTA (cAddT c n q qs) := rfl
  have hOA : cO c = cO (cAddT c n q qs) := rfl
  rw [hTA, hOA]
  generalize hc' : cAddT c n q qs = c' at R hq ⊢
  have hcT : cT c' n = q := by rw [← hc']; exact va_up_self _ _ _
  have hcS : cS c' n = qs := by rw [← hc']; exact va_up_self _ _ _
  have hcS2 : ∀ i, i < n → cS c' i = cS c i := fun i hi => by rw [← hc']; exact va_up_ne _ _ (by omega)
  obtain ⟨r1, r2, r3, r4, r5, ⟨f', r6, r6'⟩, r7, r8, r9, r10, r11, r12, r13, r14⟩ := R
  have nTA : ∀ l, cellTA c' n ≠ .inr (kR, l) := fun l h => by simp [cellTA] at h
  have nO : ∀ l, cellO c' n k ≠ .inr (kR, l) := fun l h => by simp [cellO, kV, kR] at h
  have o1 : va_up w (cTA c') (some (cellTA c' (n + 1))) (cO c') = some (cellO c' n k) := up_ne r4 r1 (by simp [cellTA, cellO])
  have hR : ∀ {b r}, IsR w b r → IsR (va_up (va_up w (cTA c') (some (cellTA c' (n + 1)))) (cO c') (some (cellO c' (n + 1) k))) b r := fun h => (h.up r4 nTA).up o1 nO
  have hK : ∀ {b x}, w b = some x → x ≠ cellTA c' n → x ≠ cellO c' n k → va_up (va_up w (cTA c') (some (cellTA c' (n + 1)))) (cO c') (some (cellO c' (n + 1) k)) b = some x := fun h h1 h2 => up_ne o1 (up_ne r4 h h1) h2
  refine ⟨va_up_self _ _ _, hR r2, hR r3, ?_, hK r5 (by simp [cellMA, cellTA, aM, aT]) (by simp [cellMA, cellO]), ⟨f', hK r6 (by simp [cellTA, aL, aT]) (by simp [cellO]), r6'⟩, ?_, ?_, fun j hj => ⟨hK (r9 j hj).1 (by simp [cellL, cellTA]) (by simp [cellL, cellO, kL, kV]), (r9 j hj).2⟩, ?_, r11, r12, by omega, r14⟩
  · rw [va_up_ne _ _ (fun e => by rw [e, r1] at r4; simp [cellO, cellTA] at r4), va_up_self]
  · intro i hi
    by_cases hin : i = n
    · subst hin
      rw [va_up_self]
      refine ⟨⟨fun o ho => Nat.lt_succ_of_lt (hok.1 o ho), fun o ho => Nat.lt_succ_of_lt (hok.2 o ho)⟩, sf, hd, f, ?_, hR hsf, hR hhd, ?_, fun p hp => ?_⟩
      · rw [hcT]; exact hK hq (by simp [cellT, cellTA]) (by simp [cellT, cellO, kT, kV])
      · rw [hcS]; exact hK hqs (by simp [cellTA, aR, aT]) (by simp [cellO])
      · obtain ⟨r, a1, a2⟩ := hsl p hp
        exact ⟨r, a1, hR a2⟩
    · obtain ⟨gk, sf1, hd1, f1, g0, g1, g2, g3, g4⟩ := r7 i (by omega)
      rw [va_up_ne _ _ hin]
      refine ⟨⟨fun o ho => Nat.lt_succ_of_lt (gk.1 o ho), fun o ho => Nat.lt_succ_of_lt (gk.2 o ho)⟩, sf1, hd1, f1, hK g0 (by simp [cellT, cellTA]) (by simp [cellT, cellO, kT, kV]), hR g1, hR g2, hK g3 (by simp [cellTA, aR, aT]) (by simp [cellO]), fun p hp => ?_⟩
      obtain ⟨r, a1, a2⟩ := g4 p hp
      exact ⟨r, a1, hR a2⟩
  · intro j hj
    obtain ⟨gk, pr1, tg1, ar1, an1, g0, g1, g2, g3, g4, g5⟩ := r8 j hj
    refine ⟨⟨fun x hx => Nat.lt_succ_of_lt (gk.1 x hx), gk.2⟩, pr1, tg1, ar1, an1, hK g0 (by simp [cellM, cellTA]) (by simp [cellM, cellO, kM, kV]), hR g1, hR g2, hR g3, ?_, hK g5 (by simp [cellP, cellTA]) (by simp [cellP, cellO])⟩
    rcases g4 with h | ⟨x, z, h1, h2, h3⟩
    · exact Or.inl h
    · exact Or.inr ⟨x, z, h1, h2, hR h3⟩
  · intro i j hi hj he
    by_cases h1 : i = n
    · by_cases h2 : j = n
      · omega
      · subst h1
        exfalso
        rw [hcS, hcS2 j (by omega)] at he
        exact hnew j (by omega) he.symm
    · by_cases h2 : j = n
      · subst h2
        exfalso
        rw [hcS, hcS2 i (by omega)] at he
        exact hnew i (by omega) he
      · exact r10 i j (by omega) (by omega) he
end REPK3
end
section
section REPK4
variable {w : fw_W} {c c' : Cfg} {n k : Nat} {th : Nat → Th} {ms : Nat → Ms} {bh : Nat → Option Nat} {lf : Nat → Lf}
/-- the configuration with one message more -/
def cAddM (c : Cfg) (k q qp ql : Nat) : Cfg := (c.1, c.2.1, c.2.2.1, va_up (cM c) k q, va_up (cP c) k qp, va_up (cL c) (4 + k) ql)
theorem cAddM_ext (q qp ql : Nat) : Cext n k c (cAddM c k q qp ql) := by
  refine ⟨rfl, fun _ _ => ⟨rfl, rfl⟩, fun j hj => ⟨?_, ?_⟩, fun i hi => ?_⟩
  · show va_up (cM c) k q j = cM c j
    rw [va_up_ne _ _ (by omega)]
  · show va_up (cP c) k qp j = cP c j
    rw [va_up_ne _ _ (by omega)]
  · show va_up (cL c) (4 + k) ql i = cL c i
    rw [va_up_ne _ _ (by omega)]
/-- a new message is put at its place -/
theorem RepK.pushM (R : RepK w c n th k ms bh lf) (hk : k < 200) {q qp ql pr tg ar : Nat} {an : Option Nat} {m : Ms} {b : Option Nat} {l : Lf} (hq : w q = some (cellM (cAddM c k q qp ql) k m b pr tg ar an)) (hok : okM n k m b) (hpr : IsR w pr (3, nI k)) (htg : IsR w tg (mT m)) (har : IsR w ar (mA m)) (han : isA w an (mN m)) (hqp : w qp = some (cellP c m)) (hql : w ql = some (cellL c l)) (hl : okL k l) (hnew1 : ∀ i, i < k → cP c i ≠ qp) (hnew2 : ∀ i, i < 4 + k → cL c i ≠ ql) :
    RepK (va_up (va_up w (cMA c) (some (cellMA (cAddM c k q qp ql) (k + 1)))) (cO c) (some (cellO (cAddM c k q qp ql) n (k + 1)))) (cAddM c k q qp ql) n th (k + 1) (va_up ms k m) (va_up bh k b) (va_up lf (4 + k) l) := by
  have hE := cAddM_ext (n := n) (k := k) (c := c) q qp ql
  have R := R.recfg hE
  have hqp : w qp = some (cellP (cAddM c k q qp ql) m) := hqp
  have hql : w ql = some (cellL (cAddM c k q qp ql) l) := by rw [cellL_ext hE hl]; exact hql
  have hTA : cMA c = cMA (cAddM c k q qp ql) := rfl
  have hOA : cO c = cO (cAddM c k q qp ql) := rfl
  rw [hTA, hOA]
  generalize hc' : cAddM c k q qp ql = c' at R hq hqp hql ⊢
  have hcM : cM c' k = q := by rw [← hc']; exact va_up_self _ _ _
  have hcP : cP c' k = qp := by rw [← hc']; exact va_up_self _ _ _
  have hcL : cL c' (4 + k) = ql := by rw [← hc']; exact va_up_self _ _ _
  have hcP2 : ∀ i, i < k → cP c' i = cP c i := fun i hi => by rw [← hc']; exact va_up_ne _ _ (by omega)
  have hcL2 : ∀ i, i < 4 + k → cL c' i = cL c i := fun i hi => by rw [← hc']; exact va_up_ne _ _ (by omega)
  obtain ⟨r1, r2, r3, r4, r5, ⟨f', r6, r6'⟩, r7, r8, r9, r10, r11, r12, r13, r14⟩ := R
  have nMA : ∀ l, cellMA c' k ≠ .inr (kR, l) := fun l h => by simp [cellMA] at h
  have nO : ∀ l, cellO c' n k ≠ .inr (kR, l) := fun l h => by simp [cellO, kV, kR] at h
  have o1 : va_up w (cMA c') (some (cellMA c' (k + 1))) (cO c') = some (cellO c' n k) := up_ne r5 r1 (by simp [cellMA, cellO])
  have hR : ∀ {b r}, IsR w b r → IsR (va_up (va_up w (cMA c') (some (cellMA c' (k + 1)))) (cO c') (some (cellO c' n (k + 1)))) b r := fun h => (h.up r5 nMA).up o1 nO
  have hK : ∀ {b x}, w b = some x → x ≠ cellMA c' k → x ≠ cellO c' n k → va_up (va_up w (cMA c') (some (cellMA c' (k + 1)))) (cO c') (some (cellO c' n (k + 1))) b = some x := fun h h1 h2 => up_ne o1 (up_ne r5 h h1) h2
  refine ⟨va_up_self _ _ _, hR r2, hR r3, hK r4 (by simp [cellTA, cellMA, aM, aT]) (by simp [cellTA, cellO]), ?_, ⟨f', hK r6 (by simp [cellMA, aL, aM]) (by simp [cellO]), r6'⟩, ?_, ?_, ?_, r10, ?_, ?_, r13, by omega⟩
  · rw [va_up_ne _ _ (fun e => by rw [e, r1] at r5; simp [cellO, cellMA] at r5), va_up_self]
  · intro i hi
    obtain ⟨gk, sf1, hd1, f1, g0, g1, g2, g3, g4⟩ := r7 i hi
    refine ⟨gk, sf1, hd1, f1, hK g0 (by simp [cellT, cellMA]) (by simp [cellT, cellO, kT, kV]), hR g1, hR g2, hK g3 (by simp [cellMA, aR, aM]) (by simp [cellO]), fun p hp => ?_⟩
    obtain ⟨r, a1, a2⟩ := g4 p hp
    exact ⟨r, a1, hR a2⟩
  · intro j hj
    have hA : ∀ {a r}, isA w a r → isA (va_up (va_up w (cMA c') (some (cellMA c' (k + 1)))) (cO c') (some (cellO c' n (k + 1)))) a r := fun h => by
      rcases h with h | ⟨x, z, h1, h2, h3⟩
      · exact Or.inl h
      · exact Or.inr ⟨x, z, h1, h2, hR h3⟩
    by_cases hjk : j = k
    · subst hjk
      rw [va_up_self, va_up_self]
      refine ⟨⟨hok.1, fun x hx => Nat.lt_succ_of_lt (hok.2.1 x hx), hok.2.2⟩, pr, tg, ar, an, ?_, hR hpr, hR htg, hR har, hA han, ?_⟩
      · rw [hcM]; exact hK hq (by simp [cellM, cellMA]) (by simp [cellM, cellO, kM, kV])
      · rw [hcP]; exact hK hqp (by simp [cellP, cellMA, aT, aM]) (by simp [cellP, cellO])
    · obtain ⟨gk, pr1, tg1, ar1, an1, g0, g1, g2, g3, g4, g5⟩ := r8 j (by omega)
      rw [va_up_ne _ _ hjk, va_up_ne _ _ hjk]
      exact ⟨⟨gk.1, fun x hx => Nat.lt_succ_of_lt (gk.2.1 x hx), gk.2.2⟩, pr1, tg1, ar1, an1, hK g0 (by simp [cellM, cellMA]) (by simp [cellM, cellO, kM, kV]), hR g1, hR g2, hR g3, hA g4, hK g5 (by simp [cellP, cellMA, aT, aM]) (by simp [cellP, cellO])⟩
  · intro i hi
    by_cases hik : i = 4 + k
    · subst hik
      rw [va_up_self, hcL]
      exact ⟨hK hql (by simp [cellL, cellMA]) (by simp [cellL, cellO, kL, kV]), fun x hx => Nat.lt_succ_of_lt (hl.1 x hx), fun x hx => Nat.lt_succ_of_lt (hl.2 x hx)⟩
    · rw [va_up_ne _ _ hik]
      have := r9 i (by omega)
      exact ⟨hK this.1 (by simp [cellL, cellMA]) (by simp [cellL, cellO, kL, kV]), fun x hx => Nat.lt_succ_of_lt (this.2.1 x hx), fun x hx => Nat.lt_succ_of_lt (this.2.2 x hx)⟩
  · intro i j hi hj he
    by_cases h1 : i = k
    · by_cases h2 : j = k
      · omega
      · subst h1
        exfalso
        rw [hcP, hcP2 j (by omega)] at he
        exact hnew1 j (by omega) he.symm
    · by_cases h2 : j = k
      · subst h2
        exfalso
        rw [hcP, hcP2 i (by omega)] at he
        exact hnew1 i (by omega) he
      · exact r11 i j (by omega) (by omega) he
  · intro i j hi hj he
    by_cases h1 : i = 4 + k
    · by_cases h2 : j = 4 + k
      · omega
      · subst h1
        exfalso
        rw [hcL, hcL2 j (by omega)] at he
        exact hnew2 j (by omega) he.symm
    · by_cases h2 : j = 4 + k
      · subst h2
        exfalso
        rw [hcL, hcL2 i (by omega)] at he
        exact hnew2 i (by omega) he
      · exact r12 i j (by omega) (by omega) he
end REPK4
end
section
section REPK5
variable {w : fw_W} {c : Cfg} {n k : Nat} {th : Nat → Th} {ms : Nat → Ms} {bh : Nat → Option Nat} {lf : Nat → Lf}
/-- a message's own fields and its notes are written -/
theorem RepK.setMP (R : RepK w c n th k ms bh lf) {i : Nat} (hi : i < k) {m : Ms} {pr tg ar : Nat} {an : Option Nat} {b : Option Nat} (h0 : okM n k m b) (h1 : IsR w pr (3, nI i)) (h2 : IsR w tg (mT m)) (h3 : IsR w ar (mA m)) (h4 : isA w an (mN m)) : RepK (va_up (va_up w (cP c i) (some (cellP c m))) (cM c i) (some (cellM c i m b pr tg ar an))) c n th k (va_up ms i m) (va_up bh i b) lf := by
  obtain ⟨ek, pr0, tg0, ar0, an0, e0, e1, e2, e3, e4, e5⟩ := R.aM hi
  have nR : ∀ l, cellM c i (ms i) (bh i) pr0 tg0 ar0 an0 ≠ .inr (kR, l) := fun l h => by simp [cellM, kM, kR] at h
  have nP : ∀ l, cellP c (ms i) ≠ .inr (kR, l) := fun l h => by simp [cellP] at h
  have e0' : va_up w (cP c i) (some (cellP c m)) (cM c i) = some (cellM c i (ms i) (bh i) pr0 tg0 ar0 an0) := up_ne e5 e0 (by simp [cellM, cellP])
  obtain ⟨r1, r2, r3, r4, r5, ⟨f, r6, r6'⟩, r7, r8, r9, r10, r11, r12, r13, r14⟩ := R
  have hR : ∀ {x r}, IsR w x r → IsR (va_up (va_up w (cP c i) (some (cellP c m))) (cM c i) (some (cellM c i m b pr tg ar an))) x r := fun h => (h.up e5 nP).up e0' nR
  have hA : ∀ {a r}, isA w a r → isA (va_up (va_up w (cP c i) (some (cellP c m))) (cM c i) (some (cellM c i m b pr tg ar an))) a r := fun h => by
    rcases h with h | ⟨x, z, h1, h2, h3⟩
    · exact Or.inl h
    · exact Or.inr ⟨x, z, h1, h2, hR h3⟩
  have hK : ∀ {a x}, w a = some x → x ≠ cellP c (ms i) → x ≠ cellM c i (ms i) (bh i) pr0 tg0 ar0 an0 → va_up (va_up w (cP c i) (some (cellP c m))) (cM c i) (some (cellM c i m b pr tg ar an)) a = some x := fun h h1 h2 => up_ne e0' (up_ne e5 h h1) h2
  refine ⟨hK r1 (by simp [cellO, cellP]) (by simp [cellO, cellM, kV, kM]), hR r2, hR r3, hK r4 (by simp [cellTA, cellP]) (by simp [cellTA, cellM]), hK r5 (by simp [cellMA, cellP, aM, aT]) (by simp [cellMA, cellM]), ⟨f, hK r6 (by simp [cellP, aL, aT]) (by simp [cellM]), r6'⟩, ?_, ?_, fun j hj => ⟨hK (r9 j hj).1 (by simp [cellL, cellP]) (by simp [cellL, cellM, kL, kM]), (r9 j hj).2⟩, r10, r11, r12, r13, r14⟩
  · intro j hj
    obtain ⟨gk, sf1, hd1, f1, g0, g1, g2, g3, g4⟩ := r7 j hj
    refine ⟨gk, sf1, hd1, f1, hK g0 (by simp [cellT, cellP]) (by simp [cellT, cellM, kT, kM]), hR g1, hR g2, hK g3 (by simp [cellP, aR, aT]) (by simp [cellM]), fun q hq => ?_⟩
    obtain ⟨r, a1, a2⟩ := g4 q hq
    exact ⟨r, a1, hR a2⟩
  · intro j hj
    by_cases hji : j = i
    · subst hji
      rw [va_up_self, va_up_self]
      refine ⟨h0, pr, tg, ar, an, by rw [va_up_self], hR h1, hR h2, hR h3, hA h4, ?_⟩
      rw [va_up_ne _ _ (fun e => by rw [e, e0] at e5; simp [cellM, cellP] at e5), va_up_self]
    · obtain ⟨gk, pr1, tg1, ar1, an1, g0, g1, g2, g3, g4, g5⟩ := r8 j hj
      rw [va_up_ne _ _ hji, va_up_ne _ _ hji]
      refine ⟨gk, pr1, tg1, ar1, an1, hK g0 (by simp [cellM, cellP]) (fun q => hji ?_), hR g1, hR g2, hR g3, hA g4, ?_⟩
      · simp only [cellM, Sum.inr.injEq, Prod.mk.injEq, List.cons.injEq, Sum.inl.injEq] at q
        exact (nI_eq (by omega) (by omega)).mp q.2.1
      · rw [va_up_ne _ _ (fun e => by rw [e, e0] at g5; simp [cellM, cellP] at g5), va_up_ne _ _ (fun e => hji (r11 j i hj hi e))]
        exact g5
end REPK5
end
section
section FWR3
variable {T : fw_T} {G : fw_G} {X : fw_X} {w : fw_W} {k n : Nat}
theorem nle {a b : Nat} (h : Nat.ble a b = true) : a ≤ b := Nat.le_of_ble_eq_true h
theorem nlt {a b : Nat} (h : Nat.ble (a + 1) b = true) : a < b := Nat.le_of_ble_eq_true h
theorem va_up_same {α : Type} (f : Nat → α) (i : Nat) : va_up f i (f i) = f := by
  funext j
  by_cases h : j = i
  · rw [h, va_up_self]
  · rw [va_up_ne _ _ h]
theorem va_up_eq {α : Type} {f : Nat → α} {i : Nat} {v : α} (h : f i = v) : va_up f i v = f := by rw [← h]; exact va_up_same f i
/-- silent instructions up to a place -/
def fw_to : List fw_I → Nat → List (Option fw_V) → List fw_V → Option (List (Option fw_V) × List fw_V)
  | [], _, _, _ => none
  | (pc, i, len, nx, tg, v) :: r, pc', L, S => bif pc == pc' then some (L, S) else match fw_st i v L S with
    | some (L', S') => fw_to r pc' L' S'
    | none => none
theorem fw_to_ok (C : fw_ok T G X) : ∀ (t : List fw_I) (q0 : fw_I) (pc' : Nat) (L : List (Option fw_V)) (S : List fw_V) (L' : List (Option fw_V)) (S' : List fw_V), fw_tok (gC G) (gW G) (gO G) (q0 :: t) = true → fw_to (q0 :: t) pc' L S = some (L', S') → J T G X pc' L' S' w k n → J T G X q0.1 L S w k n
  | t, (pc, i, len, nx, tg, v), pc', L, S, L', S', ht, h, kk => by
    unfold fw_to at h
    cases hb : pc == pc' with
    | true =>
      rw [hb] at h
      cases h
      rw [show pc = pc' from eq_of_beq hb]
      exact kk
    | false =>
      rw [hb] at h
      dsimp only [cond_false] at h
      cases hs : fw_st i v L S with
      | none => rw [hs] at h; cases h
      | some z =>
        obtain ⟨L1, S1⟩ := z
        rw [hs] at h
        cases t with
        | nil => cases h
        | cons q1 t =>
          have hn := fw_tok_next ht
          exact fw_st_ok C (fw_tok_head ht) hs (by rw [show nx = q1.1 from hn]; exact fw_to_ok C t q1 pc' L1 S1 L' S' (fw_tok_tail ht) h kk)
/-- goes on to the place pc' by silent instructions -/
theorem j_to (C : fw_ok T G X) {pc : Nat} (pc' : Nat) {L L' : List (Option fw_V)} {S S' : List fw_V} (h : fw_to (fw_from (gT G) pc) pc' L S = some (L', S')) (kk : J T G X pc' L' S' w k n) : J T G X pc L S w k n := by
  have ht := fw_from_tok (gT G) pc C.2.2.2.2.1
  cases hf : fw_from (gT G) pc with
  | nil => rw [hf] at h; cases h
  | cons q r =>
    rw [hf] at h ht
    have hq := fw_from_head _ _ _ _ hf
    subst hq
    exact fw_to_ok C r q pc' L S L' S' ht h kk
theorem j_putE (C : fw_ok T G X) {pc pc' len nx tg idx ci kf a : Nat} {v : Int32} {L L' : List (Option fw_V)} {S S' : List fw_V} {fs : List fw_V} {u : fw_V} {ty : FieldType} {fin : Bool} (h : fw_go (fw_from (gT G) pc) L S = some ((pc', .putfield idx, len, nx, tg, v), L', u :: .inr (some a) :: S')) (hf : fw_fp T G idx ci kf ty fin) (hw : w a = some (.inr (ci, fs))) (hv : kf < fs.length) (hfit : fw_fit ty u) (e' : fw_E) (he : (.inr (ci, fs.set kf u) : fw_E) = e')
    (kk : J T G X nx L' S' (va_up w a (some e')) k n) : J T G X pc L S w k n := by
  subst he
  exact j_put C h hf hw hv hfit kk
theorem j_aastE (C : fw_ok T G X) {pc pc' len nx tg t N a : Nat} {v i : Int32} {r : Option Nat} {Cn : String} {f : Nat → Option Nat} {L L' : List (Option fw_V)} {S S' : List fw_V} (h : fw_go (fw_from (gT G) pc) L S = some ((pc', .aastore, len, nx, tg, v), L', .inr r :: .inl i :: .inr (some a) :: S')) (hw : w a = some (.inl (t, N, .inr f))) (ht : fw_ar T t (.object Cn)) (hin : vp_in i N) (hr : fw_put T w Cn r) (e' : fw_E) (he : (.inl (t, N, .inr (va_up f i.toNatClampNeg r)) : fw_E) = e')
    (kk : J T G X nx L' S' (va_up w a (some e')) k n) : J T G X pc L S w k n := by
  subst he
  exact j_aast C h hw ht hin hr kk
/-- Line's constructor, a nest mate's -/
def fw_cN (T : fw_T) (G : fw_G) (idx : Nat) (y : MethodName) (bytes : ByteArray) (maxL : Nat) (ws : List Jvm.Cond) (rm : Room) (nA : Nat) : Prop := ∀ (s : State) (args : Array Value), (∀ w ∈ gW G, w.before args s = true) → fw_K T s → ∃ host : String, va_CN (gR G) s args (gO G) idx y host bytes maxL none ws rm rm.cells rm.slots nA ∧ y.name = "<init>" ∧ (Cond.instanceMethod y).before args s = true
theorem j_callN (C : fw_ok T G X) {pc pc' len nx tg idx nA maxL b : Nat} {v : Int32} {L L' : List (Option fw_V)} {S S1 S' As : List fw_V} {y : MethodName} {bytes : ByteArray} {ws : List Jvm.Cond} {rm : Room} {post2 : Option fw_V → fw_W → Prop}
    (h : fw_go (fw_from (gT G) pc) L S = some ((pc', .invokespecial idx, len, nx, tg, v), L', S1)) (hc : fw_cN T G idx y bytes maxL ws rm nA) (hM : Ct (xL X) T y ws rm (.inr (some b) :: As) w post2) (hS1 : S1 = As.reverse ++ .inr (some b) :: S') (hn : As.length = nA) (hst : S'.length ≤ 8) (h1 : k + rm.cells ≤ (gR G).cells) (h2 : n + rm.slots ≤ (gR G).slots)
    (kk : ∀ (r : Option fw_V) (w' : fw_W), post2 r w' → J T G X nx L' (r.toList ++ S') w' (k + rm.cells) (n + rm.slots)) : J T G X pc L S w k n := by
  obtain ⟨⟨hd, hnx, hlen, -⟩, hrun⟩ := fw_run (w := w) (k := k) (n := n) C h
  refine hrun ?_
  obtain ⟨S0, hK, -⟩ := C
  obtain ⟨hx, hb, hml, ho, hts⟩ := S0
  simp only [fw_len] at hlen; subst hlen; subst hnx; subst hS1
  intro H locs ls hl hP hD hS
  obtain ⟨l0, hl1, hl2, hl3⟩ := hl
  obtain ⟨host, hcw⟩ := hc _ _ hts hK
  refine fw_after (va_runIN (As := As.map fw_v) (rest := S'.map fw_v) (b := b) ⟨hx, hb, hml, ho, hts⟩ (hM H.size) hcw ⟨fw_blind, fun U hU hW => fw_pre (av := .inr (some b) :: As) hP hK hU hW⟩ rfl (by rw [List.length_map]; exact hn) hl1.1 ?_ (lv_room (by rw [fw_sum]; exact hst)) hd ⟨h1, h2⟩) hD hS (fun q hq => Or.inr hq) (fun r w' H1 locs1 hp hP1 hD1 hS1 => ?_)
  · show (As.reverse ++ .inr (some b) :: S').map fw_v = _
    rw [List.map_append, List.map_reverse]
    rfl
  · rw [← fw_back]
    exact kk r w' hp H1 locs1 ls ⟨l0, hl1, hl2, hl3⟩ hP1 hD1 hS1
theorem fc_V_L_init {T : fw_T} {G : fw_G} (h : HV T G R_V) (hR : rm_L_init.frames + 1 ≤ (gR G).frames ∧ 8 + (1 + 11) + rm_L_init.locals ≤ (gR G).locals) : fw_cN T G 46 y_L_init c_L_init 1 W_L_init rm_L_init 0 := fun s args hts hK => ⟨"CapabilityVats", by rw [h.1]; exact va_cnB 0 hts (good_sub h.2.2 (in_cons wc_L_init)) rfl rfl rfl hK.2.1 (hts _ (h.2.2 _ wn_L)) (by decide +kernel) hR, rfl, hts _ (h.2.2 _ wi_L_init)⟩
theorem fc_M_L_init {T : fw_T} {G : fw_G} (h : HV T G R_M) (hR : rm_L_init.frames + 1 ≤ (gR G).frames ∧ 8 + (1 + 11) + rm_L_init.locals ≤ (gR G).locals) : fw_cN T G 11 y_L_init c_L_init 1 W_L_init rm_L_init 0 := fun s args hts hK => ⟨"CapabilityVats", by rw [h.1]; exact va_cnB 0 hts (good_sub h.2.2 (in_cons wc_L_init)) rfl rfl rfl hK.2.2.1 (hts _ (h.2.2 _ wn_L)) (by decide +kernel) hR, rfl, hts _ (h.2.2 _ wi_L_init)⟩
/-- Object's constructor, by the class -/
theorem j_objV (C : fw_ok T G X) {own : String} {pc pc' len nx tg idx a : Nat} {v : Int32} {L L' : List (Option fw_V)} {S S' : List fw_V} (hV : HV T G own) (hm : Jvm.Cond.methodLink own idx objectInit ∈ Wall) (h : fw_go (fw_from (gT G) pc) L S = some ((pc', .invokespecial idx, len, nx, tg, v), L', .inr (some a) :: S')) (hfr : 1 ≤ (gR G).frames) (hlo : S'.length + 12 ≤ (gR G).locals)
    (kk : J T G X nx L' S' w k n) : J T G X pc L S w k n := j_obj C h (by rw [hV.1]; exact hV.2.2 _ hm) (hV.2.2 _ wi_O_init) (hV.2.2 _ wc_O_init) hfr hlo kk
end FWR3
end
section
section FWR4
variable {T : fw_T} {G : fw_G} {X : fw_X} {w : fw_W} {k n : Nat}
theorem j_aaldI (C : fw_ok T G X) {pc pc' len nx tg t N a : Nat} {v i : Int32} {Cn : String} {f : Nat → Option Nat} {L L' : List (Option fw_V)} {S S' : List fw_V} (h : fw_go (fw_from (gT G) pc) L S = some ((pc', .aaload, len, nx, tg, v), L', .inl i :: .inr (some a) :: S')) (hw : w a = some (.inl (t, N, .inr f))) (ht : fw_ar T t (.object Cn)) (q : Nat) (hi : i = nI q) (hq : q < N) (hN : N < 2147483648)
    (kk : J T G X nx L' (.inr (f q) :: S') w k n) : J T G X pc L S w k n := by
  subst hi
  refine j_aald C h hw ht (vp_in_nI hq (by omega)) ?_
  rw [nI_clamp (by omega)]
  exact kk
theorem j_aastI (C : fw_ok T G X) {pc pc' len nx tg t N a : Nat} {v i : Int32} {r : Option Nat} {Cn : String} {f : Nat → Option Nat} {L L' : List (Option fw_V)} {S S' : List fw_V} (h : fw_go (fw_from (gT G) pc) L S = some ((pc', .aastore, len, nx, tg, v), L', .inr r :: .inl i :: .inr (some a) :: S')) (hw : w a = some (.inl (t, N, .inr f))) (ht : fw_ar T t (.object Cn)) (q : Nat) (hi : i = nI q) (hq : q < N) (hN : N < 2147483648) (hr : fw_put T w Cn r)
    (kk : J T G X nx L' S' (va_up w a (some (.inl (t, N, .inr (va_up f q r))))) k n) : J T G X pc L S w k n := by
  subst hi
  refine j_aast C h hw ht (vp_in_nI hq (by omega)) hr ?_
  rw [nI_clamp (by omega)]
  exact kk
theorem j_ialdI (C : fw_ok T G X) {pc pc' len nx tg t N a : Nat} {v i : Int32} {f : Nat → Int32} {L L' : List (Option fw_V)} {S S' : List fw_V} (h : fw_go (fw_from (gT G) pc) L S = some ((pc', .iaload, len, nx, tg, v), L', .inl i :: .inr (some a) :: S')) (hw : w a = some (.inl (t, N, .inl f))) (ht : fw_ar T t .int) (q : Nat) (hi : i = nI q) (hq : q < N) (hN : N < 2147483648)
    (kk : J T G X nx L' (.inl (f q) :: S') w k n) : J T G X pc L S w k n := by
  subst hi
  refine j_iald C h hw ht (vp_in_nI hq (by omega)) ?_
  rw [nI_clamp (by omega)]
  exact kk
theorem j_iastI (C : fw_ok T G X) {pc pc' len nx tg t N a : Nat} {v i x : Int32} {f : Nat → Int32} {L L' : List (Option fw_V)} {S S' : List fw_V} (h : fw_go (fw_from (gT G) pc) L S = some ((pc', .iastore, len, nx, tg, v), L', .inl x :: .inl i :: .inr (some a) :: S')) (hw : w a = some (.inl (t, N, .inl f))) (ht : fw_ar T t .int) (q : Nat) (hi : i = nI q) (hq : q < N) (hN : N < 2147483648)
    (kk : J T G X nx L' S' (va_up w a (some (.inl (t, N, .inl (va_up f q x))))) k n) : J T G X pc L S w k n := by
  subst hi
  refine j_iast C h hw ht (vp_in_nI hq (by omega)) ?_
  rw [nI_clamp (by omega)]
  exact kk
def fw_cb (c : Jvm.ClassFile.Cond) (x y : Int32) : Bool := match c with
  | .eq => decide (x = y)
  | .ne => !decide (x = y)
  | .lt => decide (x < y)
  | .ge => decide (y ≤ x)
  | .gt => decide (y < x)
  | .le => decide (x ≤ y)
theorem fw_cb_iff {c : Jvm.ClassFile.Cond} {x y : Int32} : fw_cb c x y = true ↔ fw_cmp c x y := by cases c <;> simp [fw_cb, fw_cmp]
theorem j_icmpT (C : fw_ok T G X) {pc pc' len nx tg : Nat} {v x y : Int32} {cd : Jvm.ClassFile.Cond} {o : Int} {L L' : List (Option fw_V)} {S S' : List fw_V} (h : fw_go (fw_from (gT G) pc) L S = some ((pc', .if_icmp cd o, len, nx, tg, v), L', .inl y :: .inl x :: S')) (hb : fw_cb cd x y = true) (kt : J T G X tg L' S' w k n) : J T G X pc L S w k n := j_icmp C h (fun _ => kt) (fun q => absurd (fw_cb_iff.mp hb) q)
theorem j_icmpF (C : fw_ok T G X) {pc pc' len nx tg : Nat} {v x y : Int32} {cd : Jvm.ClassFile.Cond} {o : Int} {L L' : List (Option fw_V)} {S S' : List fw_V} (h : fw_go (fw_from (gT G) pc) L S = some ((pc', .if_icmp cd o, len, nx, tg, v), L', .inl y :: .inl x :: S')) (hb : fw_cb cd x y = false) (kf : J T G X nx L' S' w k n) : J T G X pc L S w k n := j_icmp C h (fun q => by rw [fw_cb_iff.mpr q] at hb; cases hb) (fun _ => kf)
theorem j_ifT (C : fw_ok T G X) {pc pc' len nx tg : Nat} {v x : Int32} {cd : Jvm.ClassFile.Cond} {o : Int} {L L' : List (Option fw_V)} {S S' : List fw_V} (h : fw_go (fw_from (gT G) pc) L S = some ((pc', .ifCond cd o, len, nx, tg, v), L', .inl x :: S')) (hb : fw_cb cd x 0 = true) (kt : J T G X tg L' S' w k n) : J T G X pc L S w k n := j_if C h (fun _ => kt) (fun q => absurd (fw_cb_iff.mp hb) q)
theorem j_ifF (C : fw_ok T G X) {pc pc' len nx tg : Nat} {v x : Int32} {cd : Jvm.ClassFile.Cond} {o : Int} {L L' : List (Option fw_V)} {S S' : List fw_V} (h : fw_go (fw_from (gT G) pc) L S = some ((pc', .ifCond cd o, len, nx, tg, v), L', .inl x :: S')) (hb : fw_cb cd x 0 = false) (kf : J T G X nx L' S' w k n) : J T G X pc L S w k n := j_if C h (fun q => by rw [fw_cb_iff.mpr q] at hb; cases hb) (fun _ => kf)
theorem put_ref {T : fw_T} (hT : TOK T) {w : fw_W} {b : Nat} {r : Rf} (h : IsR w b r) : fw_put T w R_R (some b) := Or.inr ⟨b, kR, 2, F_R, _, rfl, h, by rw [hT.1]; rfl⟩
theorem put_obj {T : fw_T} (hT : TOK T) {w : fw_W} {b ci N : Nat} {s : String} {Tb : u_T} {fs : List fw_V} (h : w b = some (.inr (ci, fs))) (hc : cls[ci]? = some (s, Tb, N)) : fw_put T w s (some b) := Or.inr ⟨b, ci, N, Tb, _, rfl, h, by rw [hT.1]; exact hc⟩
end FWR4
end
section
/-! Chains of promises: what a reference counts as. -/
theorem ch_pig : ∀ (n : Nat) (g : Nat → Nat), (∀ i, i ≤ n → g i < n) → ∃ i j, i < j ∧ j ≤ n ∧ g i = g j
  | 0, g, h => absurd (h 0 (Nat.le_refl _)) (Nat.not_lt_zero _)
  | n + 1, g, h => by
    by_cases hx : ∃ i, i ≤ n ∧ g i = g (n + 1)
    · obtain ⟨i, h1, h2⟩ := hx
      exact ⟨i, n + 1, by omega, Nat.le_refl _, h2⟩
    · have hx' : ∀ i, i ≤ n → g i ≠ g (n + 1) := fun i hi he => hx ⟨i, hi, he⟩
      have hv := h (n + 1) (Nat.le_refl _)
      obtain ⟨i, j, h1, h2, h3⟩ := ch_pig n (fun i => if g i = n then g (n + 1) else g i) (fun i hi => by
        have hi1 := h i (by omega)
        have hi2 := hx' i hi
        show (if g i = n then g (n + 1) else g i) < n
        by_cases hn : g i = n
        · rw [if_pos hn]; omega
        · rw [if_neg hn]; omega)
      refine ⟨i, j, h1, by omega, ?_⟩
      have hi2 := hx' i (by omega)
      have hj2 := hx' j h2
      have h3 : (if g i = n then g (n + 1) else g i) = (if g j = n then g (n + 1) else g j) := h3
      by_cases a : g i = n
      · by_cases b : g j = n
        · omega
        · rw [if_pos a, if_neg b] at h3; exact absurd h3.symm hj2
      · by_cases b : g j = n
        · rw [if_neg a, if_pos b] at h3; exact absurd h3 hi2
        · rw [if_neg a, if_neg b] at h3; exact h3
def ch_it {α : Type} (nx : α → Option α) : Nat → α → α
  | 0, r => r
  | f + 1, r => match nx r with
    | none => r
    | some a => ch_it nx f a
theorem ch_it_stop {α : Type} {nx : α → Option α} : ∀ (f : Nat) {r : α}, nx r = none → ch_it nx f r = r
  | 0, _, _ => rfl
  | f + 1, r, h => by simp only [ch_it, h]
theorem ch_it_add {α : Type} {nx : α → Option α} : ∀ (f g : Nat) (r : α), ch_it nx (f + g) r = ch_it nx g (ch_it nx f r)
  | 0, g, r => by rw [Nat.zero_add]; rfl
  | f + 1, g, r => by
    rw [show f + 1 + g = (f + g) + 1 by omega]
    cases h : nx r with
    | none => simp only [ch_it, h]; exact (ch_it_stop g h).symm
    | some a => simp only [ch_it, h]; exact ch_it_add f g a
/-- it ends somewhere -/
def ch_fin {α : Type} (nx : α → Option α) (r : α) : Prop := ∃ f, nx (ch_it nx f r) = none
/-- then it ends within as many steps as there are numbers -/
theorem ch_bound {α : Type} {nx : α → Option α} {N : Nat} (num : α → Nat) (hnum : ∀ r a, nx r = some a → num r < N) (hinj : ∀ r a r' a', nx r = some a → nx r' = some a' → num r = num r' → r = r') {r : α} (hf : ch_fin nx r) : nx (ch_it nx N r) = none := by
  cases hN : nx (ch_it nx N r) with
  | none => rfl
  | some a0 =>
    exfalso
    have hall : ∀ i, i ≤ N → ∃ a, nx (ch_it nx i r) = some a := by
      intro i hi
      cases h : nx (ch_it nx i r) with
      | some a => exact ⟨a, rfl⟩
      | none =>
        have := ch_it_add (nx := nx) i (N - i) r
        rw [show i + (N - i) = N by omega, ch_it_stop _ h] at this
        rw [this, h] at hN
        cases hN
    obtain ⟨i, j, h1, h2, h3⟩ := ch_pig N (fun i => num (ch_it nx i r)) (fun i hi => by
      obtain ⟨a, ha⟩ := hall i hi
      exact hnum _ a ha)
    obtain ⟨a, ha⟩ := hall i (by omega)
    obtain ⟨b, hb⟩ := hall j h2
    have heq : ch_it nx i r = ch_it nx j r := hinj _ a _ b ha hb h3
    have hper : ∀ m, ch_it nx (i + m * (j - i)) r = ch_it nx i r := by
      intro m
      induction m with
      | zero => rw [Nat.zero_mul, Nat.add_zero]
      | succ m ih =>
        rw [show i + (m + 1) * (j - i) = (i + m * (j - i)) + (j - i) by rw [Nat.succ_mul]; omega, ch_it_add, ih, ← ch_it_add, show i + (j - i) = j by omega, heq]
    obtain ⟨f, hf⟩ := hf
    have h4 : f ≤ i + f * (j - i) := by
      have : f * 1 ≤ f * (j - i) := Nat.mul_le_mul_left f (by omega)
      omega
    have h5 := ch_it_add (nx := nx) f (i + f * (j - i) - f) r
    rw [show f + (i + f * (j - i) - f) = i + f * (j - i) by omega, hper, ch_it_stop _ hf] at h5
    rw [← h5, ha] at hf
    cases hf
/-- an end is an end, whatever the number of steps -/
theorem ch_same {α : Type} {nx : α → Option α} {f g : Nat} {r : α} (hf : nx (ch_it nx f r) = none) (hg : nx (ch_it nx g r) = none) : ch_it nx f r = ch_it nx g r := by
  rcases Nat.le_total f g with h | h
  · have := ch_it_add (nx := nx) f (g - f) r
    rw [show f + (g - f) = g by omega, ch_it_stop _ hf] at this
    exact this.symm
  · have := ch_it_add (nx := nx) g (f - g) r
    rw [show g + (f - g) = f by omega, ch_it_stop _ hg] at this
    exact this
end
section
/-! Lines: a line's fields and the links behind its messages, as the list of its messages says. -/
theorem nd_inj {l : List Nat} (hd : l.Nodup) {i j : Nat} (hi : i < l.length) (hj : j < l.length) (h : l[i] = l[j]) : i = j := by
  have hp := List.pairwise_iff_getElem.mp hd
  rcases Nat.lt_trichotomy i j with q | q | q
  · exact absurd h (hp i j hi hj q)
  · exact q
  · exact absurd h.symm (hp j i hj hi q)
def lnOK (bh : Nat → Option Nat) (l : List Nat) (x : Lf) : Prop := x = (l.head?, l.getLast?, nI l.length) ∧ ∀ (i y : Nat), l[i]? = some y → bh y = l[i + 1]?
theorem ln_nil (bh : Nat → Option Nat) : lnOK bh [] (none, none, 0) := ⟨rfl, fun i y h => by simp at h⟩
theorem ln_other {bh bh' : Nat → Option Nat} {l : List Nat} {x : Lf} (h : lnOK bh l x) (he : ∀ y, y ∈ l → bh' y = bh y) : lnOK bh' l x := ⟨h.1, fun i y hy => by rw [he y (List.mem_of_getElem? hy)]; exact h.2 i y hy⟩
theorem ln_join0 {bh : Nat → Option Nat} {m : Nat} (h : bh m = none) : lnOK bh [m] (some m, some m, 1) := by
  refine ⟨rfl, fun i y hy => ?_⟩
  cases i with
  | zero => simp at hy; subst hy; simpa using h
  | succ i => simp at hy
theorem ln_join {bh : Nat → Option Nat} {l : List Nat} {x : Lf} {m z : Nat} (h : lnOK bh l x) (hd : l.Nodup) (hm : m ∉ l) (hz : l.getLast? = some z) : lnOK (va_up (va_up bh m none) z (some m)) (l ++ [m]) (l.head?, some m, x.2.2 + 1) := by
  have hzl : z ∈ l := List.mem_of_getLast? hz
  have hne : l ≠ [] := fun q => by subst q; cases hzl
  have hlen : 0 < l.length := List.length_pos_iff.mpr hne
  have hzi : l[l.length - 1]? = some z := by rw [← List.getLast?_eq_getElem?]; exact hz
  refine ⟨?_, fun i y hy => ?_⟩
  · rw [h.1]
    simp only [List.getLast?_append, List.length_append, List.length_cons, List.length_nil, Prod.mk.injEq]
    refine ⟨?_, by simp, ?_⟩
    · cases l with
      | nil => exact absurd rfl hne
      | cons a l => rfl
    · exact (nI_1 _)
  · by_cases hi : i < l.length
    · rw [List.getElem?_append_left hi] at hy
      have hym : y ≠ m := fun q => hm (q ▸ List.mem_of_getElem? hy)
      by_cases hyz : y = z
      · subst hyz
        have hii : i = l.length - 1 := by
          have h1 := (List.getElem?_eq_some_iff.mp hy)
          have h2 := (List.getElem?_eq_some_iff.mp hzi)
          obtain ⟨a1, b1⟩ := h1
          obtain ⟨a2, b2⟩ := h2
          exact nd_inj hd a1 a2 (b1.trans b2.symm)
        rw [va_up_self, List.getElem?_append_right (by omega), show i + 1 - l.length = 0 by omega]
        rfl
      · rw [va_up_ne _ _ hyz, va_up_ne _ _ hym, h.2 i y hy]
        have hi2 : i + 1 < l.length := by
          rcases Nat.lt_or_ge (i + 1) l.length with q | q
          · exact q
          · exfalso
            have : i = l.length - 1 := by omega
            rw [this, hzi] at hy
            exact hyz (Option.some.inj hy).symm
        rw [List.getElem?_append_left hi2]
    · rw [List.getElem?_append_right (by omega)] at hy
      have hi0 : i - l.length = 0 := by
        have := (List.getElem?_eq_some_iff.mp hy).1
        simp at this
        omega
      rw [hi0] at hy
      have hym : m = y := by simpa using hy
      subst hym
      have hmz : m ≠ z := fun q => hm (q ▸ hzl)
      rw [va_up_ne _ _ hmz, va_up_self, List.getElem?_append_right (by omega)]
      have : i + 1 - l.length = 1 := by omega
      rw [this]
      rfl
theorem ln_take {bh : Nat → Option Nat} {m : Nat} {r : List Nat} {x : Lf} (h : lnOK bh (m :: r) x) : bh m = r.head? ∧ x.1 = some m ∧ x.2.2 = nI (r.length + 1) ∧ lnOK bh r (r.head?, (if r = [] then none else x.2.1), x.2.2 - 1) := by
  have h0 := h.2 0 m rfl
  have hm : bh m = r.head? := by
    rw [h0]
    cases r <;> rfl
  refine ⟨hm, by rw [h.1]; rfl, by rw [h.1]; rfl, ?_, fun i y hy => ?_⟩
  · rw [h.1]
    have e3 : nI (r.length + 1) - 1 = nI r.length := nI_pred _
    cases r with
    | nil => exact congrArg (fun q => ((none : Option Nat), (none : Option Nat), q)) e3
    | cons a r =>
      rw [if_neg (by simp)]
      exact congrArg (fun q => (some a, (a :: r).getLast?, q)) e3
  · have := h.2 (i + 1) y (by simpa using hy)
    simpa using this
theorem ln_len {l : List Nat} {k : Nat} (hd : l.Nodup) (hk : ∀ x, x ∈ l → x < k) : l.length ≤ k := by
  rcases Nat.lt_or_ge k l.length with h | h
  · exfalso
    obtain ⟨i, j, h1, h2, h3⟩ := ch_pig k (fun i => l.getD i 0) (fun i hi => by
      have hil : i < l.length := by omega
      show l.getD i 0 < k
      rw [List.getD_eq_getElem?_getD, List.getElem?_eq_getElem hil]
      exact hk _ (List.getElem_mem hil))
    have hil : i < l.length := by omega
    have hjl : j < l.length := by omega
    have h3 : l.getD i 0 = l.getD j 0 := h3
    rw [List.getD_eq_getElem?_getD, List.getD_eq_getElem?_getD, List.getElem?_eq_getElem hil, List.getElem?_eq_getElem hjl] at h3
    have := nd_inj hd hil hjl (show l[i] = l[j] from h3)
    omega
  · exact h
end
section
/-! The heap, with lines as lists. -/
def LnW (k : Nat) (ln : Nat → List Nat) : Prop := (∀ i, (ln i).Nodup) ∧ (∀ i x, x ∈ ln i → x < k) ∧ (∀ i j x, x ∈ ln i → x ∈ ln j → i = j) ∧ ∀ i, 4 + k ≤ i → ln i = []
def RepL (w : fw_W) (c : Cfg) (n : Nat) (th : Nat → Th) (k : Nat) (ms : Nat → Ms) (ln : Nat → List Nat) : Prop :=
  ∃ (bh : Nat → Option Nat) (lf : Nat → Lf), RepK w c n th k ms bh lf ∧ (∀ i, i < 4 + k → lnOK bh (ln i) (lf i)) ∧ LnW k ln
theorem LnW.join {k : Nat} {ln : Nat → List Nat} (h : LnW k ln) {i m : Nat} (hi : i < 4 + k) (hm : m < k) (hn : ∀ j, m ∉ ln j) : LnW k (va_up ln i (ln i ++ [m])) := by
  obtain ⟨h1, h2, h3, h4⟩ := h
  have key : ∀ j x, x ∈ va_up ln i (ln i ++ [m]) j → x ∈ ln j ∨ (j = i ∧ x = m) := by
    intro j x hx
    by_cases hj : j = i
    · subst hj
      rw [va_up_self] at hx
      rcases List.mem_append.mp hx with q | q
      · exact Or.inl q
      · exact Or.inr ⟨rfl, by simpa using q⟩
    · rw [va_up_ne _ _ hj] at hx
      exact Or.inl hx
  refine ⟨fun j => ?_, fun j x hx => ?_, fun j j' x hx hx' => ?_, fun j hj => ?_⟩
  · by_cases hj : j = i
    · subst hj
      rw [va_up_self, List.nodup_append]
      refine ⟨h1 j, by simp, fun a ha b hb => ?_⟩
      have : b = m := by simpa using hb
      subst this
      exact fun e => hn j (e ▸ ha)
    · rw [va_up_ne _ _ hj]; exact h1 j
  · rcases key j x hx with q | ⟨-, q⟩
    · exact h2 j x q
    · omega
  · rcases key j x hx with q | ⟨q1, q2⟩ <;> rcases key j' x hx' with r | ⟨r1, r2⟩
    · exact h3 j j' x q r
    · subst r2; exact absurd q (hn j)
    · subst q2; exact absurd r (hn j')
    · omega
  · rw [va_up_ne _ _ (by omega)]; exact h4 j hj
theorem LnW.take {k : Nat} {ln : Nat → List Nat} (h : LnW k ln) {i m : Nat} {r : List Nat} (hl : ln i = m :: r) : LnW k (va_up ln i r) ∧ ∀ j, m ∉ va_up ln i r j := by
  obtain ⟨h1, h2, h3, h4⟩ := h
  have hi := h1 i
  rw [hl, List.nodup_cons] at hi
  have key : ∀ j x, x ∈ va_up ln i r j → x ∈ ln j := by
    intro j x hx
    by_cases hj : j = i
    · subst hj
      rw [va_up_self] at hx
      rw [hl]; exact List.mem_cons_of_mem _ hx
    · rw [va_up_ne _ _ hj] at hx
      exact hx
  refine ⟨⟨fun j => ?_, fun j x hx => h2 j x (key j x hx), fun j j' x hx hx' => h3 j j' x (key j x hx) (key j' x hx'), fun j hj => ?_⟩, fun j hx => ?_⟩
  · by_cases hj : j = i
    · subst hj
      rw [va_up_self]; exact hi.2
    · rw [va_up_ne _ _ hj]; exact h1 j
  · have hji : j ≠ i := fun e => by subst e; rw [h4 j hj] at hl; cases hl
    rw [va_up_ne _ _ hji]; exact h4 j hj
  · by_cases hj : j = i
    · subst hj
      rw [va_up_self] at hx
      exact hi.1 hx
    · rw [va_up_ne _ _ hj] at hx
      exact hj (h3 j i m hx (by rw [hl]; exact List.mem_cons_self))
/-- joining, of the pure parts -/
theorem ln_join_all {k : Nat} {ln : Nat → List Nat} {bh : Nat → Option Nat} {lf : Nat → Lf} (hl : ∀ i, i < 4 + k → lnOK bh (ln i) (lf i)) (hw : LnW k ln) {i m z : Nat} (hi : i < 4 + k) (hn : ∀ j, m ∉ ln j) (hz : (ln i).getLast? = some z) :
    ∀ j, j < 4 + k → lnOK (va_up (va_up bh m none) z (some m)) (va_up ln i (ln i ++ [m]) j) (va_up lf i ((ln i).head?, some m, (lf i).2.2 + 1) j) := by
  intro j hj
  by_cases hji : j = i
  · subst hji
    rw [va_up_self, va_up_self]
    exact ln_join (hl j hj) (hw.1 j) (hn j) hz
  · rw [va_up_ne _ _ hji, va_up_ne _ _ hji]
    refine ln_other (hl j hj) (fun y hy => ?_)
    have h1 : y ≠ z := fun e => hji (hw.2.2.1 j i y hy (e ▸ List.mem_of_getLast? hz))
    have h2 : y ≠ m := fun e => hn j (e ▸ hy)
    rw [va_up_ne _ _ h1, va_up_ne _ _ h2]
theorem ln_join_nil {k : Nat} {ln : Nat → List Nat} {bh : Nat → Option Nat} {lf : Nat → Lf} (hl : ∀ i, i < 4 + k → lnOK bh (ln i) (lf i)) {i m : Nat} (hn : ∀ j, m ∉ ln j) (hz : ln i = []) :
    ∀ j, j < 4 + k → lnOK (va_up bh m none) (va_up ln i (ln i ++ [m]) j) (va_up lf i (some m, some m, 1) j) := by
  intro j hj
  by_cases hji : j = i
  · subst hji
    rw [va_up_self, va_up_self, hz]
    exact ln_join0 (va_up_self _ _ _)
  · rw [va_up_ne _ _ hji, va_up_ne _ _ hji]
    refine ln_other (hl j hj) (fun y hy => ?_)
    have h2 : y ≠ m := fun e => hn j (e ▸ hy)
    rw [va_up_ne _ _ h2]
theorem okM.b {n k : Nat} {m : Ms} {b b' : Option Nat} (h : okM n k m b) (hb : ∀ x, b' = some x → x < k) : okM n k m b' := ⟨h.1, hb, h.2.2⟩
set_option maxHeartbeats 1000000 in
/-- join: the message goes to the line's end -/
theorem m_L_join (l : Launch) {T : fw_T} (hT : TOK T) {w : fw_W} {c : Cfg} {n k : Nat} {th : Nat → Th} {ms : Nat → Ms} {ln : Nat → List Nat} (R : RepL w c n th k ms ln) {i m : Nat} (hi : i < 4 + k) (hm : m < k) (hn : ∀ j, m ∉ ln j) :
    Ct l T y_L_join W_L_join rm_L_join [.inr (some (cL c i)), .inr (some (cM c m))] w (fun r w' => r = none ∧ RepL w' c n th k ms (va_up ln i (ln i ++ [m]))) := by
  refine ct_L_join rfl (nle rfl) ?_
  intro X hl C E
  have V := hv_L_join hT
  obtain ⟨bh, lf, R, hL, hW⟩ := R
  obtain ⟨ek, pr, tg, ar, an, e0, e1, e2, e3, e4, e5⟩ := R.aM hm
  have R1 := R.setM hm (m := ms m) (b := none) (ek.b (fun x h => by cases h)) e1 e2 e3 e4 rfl
  rw [va_up_same] at R1
  refine j_putE C rfl (fp_L_M_behind V) e0 (nlt rfl) (fit_o _ _) (cellM c m (ms m) none pr tg ar an) rfl ?_
  have g0 := (R1.aL hi).1
  have hx := (hL i hi).1
  cases hz : (ln i).getLast? with
  | none =>
    have hnil : ln i = [] := List.getLast?_eq_none_iff.mp hz
    have hx0 : lf i = (none, none, 0) := by rw [hx, hnil]; rfl
    rw [hx0] at g0
    refine j_get C rfl (fg_L_L_last V) g0 rfl ?_
    refine j_ifnn C rfl (fun a ha => by cases ha) (fun _ => ?_)
    refine j_putE C rfl (fp_L_L_first V) g0 (nlt rfl) (fit_o _ _) (cellL c (some m, none, 0)) rfl ?_
    refine j_goto C rfl ?_
    refine j_putE C rfl (fp_L_L_last V) (va_up_self _ _ _) (nlt rfl) (fit_o _ _) (cellL c (some m, some m, 0)) rfl ?_
    refine j_get C rfl (fg_L_L_length V) (va_up_self _ _ _) rfl ?_
    refine j_putE C rfl (fp_L_L_length V) (va_up_self _ _ _) (nlt rfl) (fit_i _) (cellL c (some m, some m, 1)) rfl ?_
    rw [bx_uu, bx_uu]
    refine j_vret C E rfl rfl (by decide) (by decide) ⟨rfl, _, _, R1.setL hi (some m, some m, 1) ⟨fun x h => by cases h; exact hm, fun x h => by cases h; exact hm⟩, ln_join_nil hL hn hnil, hW.join hi hm hn⟩
  | some z =>
    have hzm : z ∈ ln i := List.mem_of_getLast? hz
    have hzk : z < k := hW.2.1 i z hzm
    have hzne : z ≠ m := fun e => hn i (e ▸ hzm)
    have hx0 : lf i = ((ln i).head?, some z, (lf i).2.2) := by rw [hx, hz]
    rw [hx0] at g0
    refine j_get C rfl (fg_L_L_last V) g0 rfl ?_
    refine j_ifnn C rfl (fun a ha => ?_) (fun h0 => by cases h0)
    refine j_get C rfl (fg_L_L_last V) g0 rfl ?_
    obtain ⟨fk, pr', tg', ar', an', f0, f1, f2, f3, f4, f5⟩ := R1.aM hzk
    have R2 := R1.setM hzk (m := ms z) (b := some m) (fk.b (fun x h => by cases h; exact hm)) f1 f2 f3 f4 rfl
    rw [va_up_same] at R2
    refine j_putE C rfl (fp_L_M_behind V) f0 (nlt rfl) (fit_o _ _) (cellM c z (ms z) (some m) pr' tg' ar' an') rfl ?_
    have g1 := (R2.aL hi).1
    rw [hx0] at g1
    refine j_putE C rfl (fp_L_L_last V) g1 (nlt rfl) (fit_o _ _) (cellL c ((ln i).head?, some m, (lf i).2.2)) rfl ?_
    refine j_get C rfl (fg_L_L_length V) (va_up_self _ _ _) rfl ?_
    refine j_putE C rfl (fp_L_L_length V) (va_up_self _ _ _) (nlt rfl) (fit_i _) (cellL c ((ln i).head?, some m, (lf i).2.2 + 1)) rfl ?_
    rw [bx_uu]
    refine j_vret C E rfl rfl (by decide) (by decide) ⟨rfl, _, _, R2.setL hi ((ln i).head?, some m, (lf i).2.2 + 1) ⟨fun x h => hW.2.1 i x (List.mem_of_head? h), fun x h => by cases h; exact hm⟩, ln_join_all hL hW hi hn hz, hW.join hi hm hn⟩
end
section
/-! Line: take, takeOver, withBefore, its constructor. -/
theorem ln_take_all {k : Nat} {ln : Nat → List Nat} {bh : Nat → Option Nat} {lf : Nat → Lf} (hl : ∀ i, i < 4 + k → lnOK bh (ln i) (lf i)) {i m : Nat} {r : List Nat} (hi : i < 4 + k) (hm : ln i = m :: r) :
    ∀ j, j < 4 + k → lnOK bh (va_up ln i r j) (va_up lf i (r.head?, (if r = [] then none else (lf i).2.1), (lf i).2.2 - 1) j) := by
  intro j hj
  by_cases hji : j = i
  · subst hji
    rw [va_up_self, va_up_self]
    have := hl j hj
    rw [hm] at this
    exact (ln_take this).2.2.2
  · rw [va_up_ne _ _ hji, va_up_ne _ _ hji]
    exact hl j hj
theorem m_L_init (l : Launch) {T : fw_T} (hT : TOK T) {w : fw_W} {b : Nat} : Ct l T y_L_init W_L_init rm_L_init [.inr (some b)] w (fun r w' => r = none ∧ w' = w) := by
  refine ct_L_init rfl (nle rfl) ?_
  intro X hl C E
  refine j_objV C (hv_L_init hT) wm_L_O_init rfl (by decide) (by decide) ?_
  exact j_vret C E rfl rfl (by decide) (by decide) ⟨rfl, rfl⟩
section LNS
variable {T : fw_T} {w : fw_W} {c : Cfg} {n k : Nat} {th : Nat → Th} {ms : Nat → Ms} {ln : Nat → List Nat}
theorem m_L_take0 (l : Launch) (hT : TOK T) (R : RepL w c n th k ms ln) {i : Nat} (hi : i < 4 + k) (he : ln i = []) : Ct l T y_L_take W_L_take rm_L_take [.inr (some (cL c i))] w (fun r w' => r = some (.inr none) ∧ w' = w) := by
  refine ct_L_take rfl (nle rfl) ?_
  intro X hl C E
  have V := hv_L_take hT
  obtain ⟨bh, lf, R, hL, hW⟩ := R
  have g0 := (R.aL hi).1
  have hx := (hL i hi).1
  rw [hx, he] at g0
  refine j_get C rfl (fg_L_L_first V) g0 rfl ?_
  refine j_ifnn C rfl (fun a ha => by cases ha) (fun _ => ?_)
  exact j_aret C E rfl rfl (by decide) (by decide) ⟨rfl, rfl⟩
set_option maxHeartbeats 1000000 in
theorem m_L_take (l : Launch) (hT : TOK T) (R : RepL w c n th k ms ln) {i m : Nat} {r : List Nat} (hi : i < 4 + k) (he : ln i = m :: r) : Ct l T y_L_take W_L_take rm_L_take [.inr (some (cL c i))] w (fun v w' => v = some (.inr (some (cM c m))) ∧ RepL w' c n th k ms (va_up ln i r)) := by
  refine ct_L_take rfl (nle rfl) ?_
  intro X hl C E
  have V := hv_L_take hT
  obtain ⟨bh, lf, R, hL, hW⟩ := R
  have g0 := (R.aL hi).1
  have hxl := hL i hi
  rw [he] at hxl
  obtain ⟨t1, t2, t3, t4⟩ := ln_take hxl
  have hmk : m < k := hW.2.1 i m (by rw [he]; exact List.mem_cons_self)
  have hlf : lf i = (some m, (lf i).2.1, (lf i).2.2) := by rw [← t2]
  rw [hlf] at g0
  refine j_get C rfl (fg_L_L_first V) g0 rfl ?_
  refine j_ifnn C rfl (fun a ha => ?_) (fun h0 => by cases h0)
  obtain ⟨ek, pr, tg, ar, an, e0, e1, e2, e3, e4, e5⟩ := R.aM hmk
  rw [t1] at e0
  refine j_get C rfl (fg_L_M_behind V) e0 rfl ?_
  refine j_putE C rfl (fp_L_L_first V) g0 (nlt rfl) (fit_o _ _) (cellL c (r.head?, (lf i).2.1, (lf i).2.2)) rfl ?_
  refine j_get C rfl (fg_L_L_first V) (va_up_self _ _ _) rfl ?_
  have hok : ∀ q, okL k (r.head?, (if r = [] then none else (lf i).2.1), q) := fun q => by
    refine ⟨fun x hx => hW.2.1 i x (by rw [he]; exact List.mem_cons_of_mem _ (List.mem_of_head? hx)), fun x hx => ?_⟩
    by_cases hr : r = []
    · rw [if_pos hr] at hx; cases hx
    · rw [if_neg hr] at hx
      exact (R.aL hi).2.2 x hx
  cases r with
  | nil =>
    refine j_ifnn C rfl (fun a ha => by cases ha) (fun _ => ?_)
    refine j_putE C rfl (fp_L_L_last V) (va_up_self _ _ _) (nlt rfl) (fit_o _ _) (cellL c (none, none, (lf i).2.2)) rfl ?_
    refine j_get C rfl (fg_L_L_length V) (va_up_self _ _ _) rfl ?_
    refine j_putE C rfl (fp_L_L_length V) (va_up_self _ _ _) (nlt rfl) (fit_i _) (cellL c (none, none, (lf i).2.2 - 1)) rfl ?_
    rw [bx_uu, bx_uu]
    have h1 := ln_take_all hL hi he
    have h2 := hok ((lf i).2.2 - 1)
    exact j_aret C E rfl rfl (by decide) (by decide) ⟨rfl, _, _, R.setL hi (none, none, (lf i).2.2 - 1) h2, h1, (hW.take he).1⟩
  | cons a r' =>
    refine j_ifnn C rfl (fun a0 ha => ?_) (fun h0 => by cases h0)
    refine j_get C rfl (fg_L_L_length V) (va_up_self _ _ _) rfl ?_
    refine j_putE C rfl (fp_L_L_length V) (va_up_self _ _ _) (nlt rfl) (fit_i _) (cellL c (some a, (lf i).2.1, (lf i).2.2 - 1)) rfl ?_
    rw [bx_uu]
    have h1 := ln_take_all hL hi he
    have h2 := hok ((lf i).2.2 - 1)
    rw [if_neg (by simp)] at h1 h2
    exact j_aret C E rfl rfl (by decide) (by decide) ⟨rfl, _, _, R.setL hi (some a, (lf i).2.1, (lf i).2.2 - 1) h2, h1, (hW.take he).1⟩
end LNS
end
section
/-! Reference, and the small methods of Thing and Message. -/
section SML
variable {T : fw_T} {w : fw_W} {c : Cfg} {n k : Nat} {th : Nat → Th} {ms : Nat → Ms} {ln : Nat → List Nat}
theorem m_R_init (l : Launch) (hT : TOK T) {b : Nat} {s x : Int32} (hw : w b = some (.inr (kR, nw_R))) : Ct l T y_R_init W_R_init rm_R_init [.inr (some b), .inl s, .inl x] w (fun r w' => r = none ∧ w' = va_up w b (some (.inr (kR, [.inl s, .inl x])))) := by
  refine ct_R_init rfl (nle rfl) ?_
  intro X hl C E
  have V := hv_R_init hT
  refine j_objV C V wm_R_O_init rfl (by decide) (by decide) ?_
  refine j_putE C rfl (fp_R_R_sort V rfl) hw (nlt rfl) (fit_i _) (.inr (kR, [.inl s, .inl 0])) rfl ?_
  refine j_putE C rfl (fp_R_R_index V rfl) (va_up_self _ _ _) (nlt rfl) (fit_i _) (.inr (kR, [.inl s, .inl x])) rfl ?_
  rw [bx_uu]
  exact j_vret C E rfl rfl (by decide) (by decide) ⟨rfl, rfl⟩
theorem m_R_isSame (l : Launch) (hT : TOK T) {a b : Nat} {r s : Rf} (ha : IsR w a r) (hb : IsR w b s) : Ct l T y_R_isSame W_R_isSame rm_R_isSame [.inr (some a), .inr (some b)] w (fun v w' => w' = w ∧ v = some (.inl (if r = s then 1 else 0))) := by
  refine ct_R_isSame rfl (nle rfl) ?_
  intro X hl C E
  have V := hv_R_isSame hT
  have key : ∀ v : Int32, (v = 0 ∨ v = 1) → v = (if r = s then 1 else 0) → J T G_R_isSame X 27 [some (.inr (some a)), some (.inr (some b))] [.inl v] w 0 0 := fun v h1 h2 => by
    subst h2
    exact j_iret C E rfl (Or.inr ⟨rfl, h1⟩) (by decide) (by decide) ⟨rfl, rfl⟩
  refine j_get C rfl (fg_R_R_sort V) ha rfl ?_
  refine j_get C rfl (fg_R_R_sort V) hb rfl ?_
  refine j_icmp C rfl (fun h => ?_) (fun h => ?_)
  · refine j_to C 27 rfl ?_
    exact key 0 (Or.inl rfl) (by rw [if_neg (fun e => h (by rw [e]))])
  · refine j_get C rfl (fg_R_R_index V) ha rfl ?_
    refine j_get C rfl (fg_R_R_index V) hb rfl ?_
    refine j_icmp C rfl (fun h' => ?_) (fun h' => ?_)
    · refine j_to C 27 rfl ?_
      exact key 0 (Or.inl rfl) (by rw [if_neg (fun e => h' (by rw [e]))])
    · refine j_goto C rfl ?_
      exact key 1 (Or.inr rfl) (by rw [if_pos (Prod.ext (Classical.not_not.mp h) (Classical.not_not.mp h'))])
theorem m_H_isCutOff (l : Launch) (hT : TOK T) (R : RepL w c n th k ms ln) {i : Nat} (hi : i < n) (hz : ∀ j, j < n → tV (th j) = 0 ∨ tV (th j) = 1) : Ct l T y_H_isCutOff W_H_isCutOff rm_H_isCutOff [.inr (some (cT c i))] w (fun v w' => w' = w ∧ v = some (.inl (match tO (th i) with | none => 1 | some o => tV (th o)))) := by
  refine ct_H_isCutOff rfl (nle rfl) ?_
  intro X hl C E
  have V := hv_H_isCutOff hT
  obtain ⟨bh, lf, R, hL, hW⟩ := R
  obtain ⟨ek, sf, hd, f, e0, -⟩ := R.aT hi
  refine j_get C rfl (fg_H_H_owner V) e0 rfl ?_
  cases ho : tO (th i) with
  | none =>
    refine j_ifnull C rfl (fun _ => ?_) (fun a ha => by cases ha)
    refine j_goto C rfl ?_
    exact j_iret C E rfl (Or.inr ⟨rfl, Or.inr rfl⟩) (by decide) (by decide) ⟨rfl, by rw [ho]⟩
  | some o =>
    have hon : o < n := ek.1 o ho
    refine j_ifnull C rfl (fun h => by cases h) (fun a ha => ?_)
    unfold cellT at e0
    rw [ho] at e0
    refine j_get C rfl (fg_H_H_owner V) e0 rfl ?_
    obtain ⟨ek', sf', hd', f', e0', -⟩ := R.aT hon
    refine j_get C rfl (fg_H_H_revoked V) e0' rfl ?_
    refine j_if C rfl (fun h => ?_) (fun h => ?_)
    · refine j_to C 22 rfl ?_
      exact j_iret C E rfl (Or.inr ⟨rfl, Or.inl rfl⟩) (by decide) (by decide) ⟨rfl, by rw [ho]; exact congrArg (fun q => some (Sum.inl q)) (show tV (th o) = 0 from h).symm⟩
    · refine j_goto C rfl ?_
      refine j_iret C E rfl (Or.inr ⟨rfl, Or.inr rfl⟩) (by decide) (by decide) ⟨rfl, ?_⟩
      rcases hz o hon with q | q
      · exact absurd q h
      · rw [ho]; exact congrArg (fun q => some (Sum.inl q)) q.symm
end SML
end
section
/-! The constructors of Message and Thing. -/
section CTR
variable {T : fw_T} {w : fw_W}
theorem ne_new {a b : Nat} {e : fw_E} (ha : w a = some e) (hb : w b = none) : a ≠ b := fun q => by subst q; rw [ha] at hb; cases hb
set_option maxHeartbeats 2000000 in
theorem m_M_init (l : Launch) (hT : TOK T) {b tg ar : Nat} {x v : Int32} (hw : w b = some (.inr (kM, nw_M))) :
    Ct l T y_M_init W_M_init rm_M_init [.inr (some b), .inl x, .inr (some tg), .inl v, .inr (some ar)] w (fun r w' => r = none ∧ ∃ ql qp pr : Nat, w ql = none ∧ w qp = none ∧ (∀ a e, a ≠ b → w a = some e → w' a = some e) ∧ w' b = some (.inr (kM, [.inl x, .inl v, .inr (some pr), .inr (some ql), .inr (some tg), .inr (some ar), .inr none, .inl 0, .inr none, .inr (some qp), .inl 0])) ∧ w' ql = some (.inr (kL, nw_L)) ∧ w' qp = some (.inl (aT, 8, .inr (fun _ => none))) ∧ IsR w' pr (3, x)) := by
  refine ct_M_init rfl (nle rfl) ?_
  intro X hl C E
  have V := hv_M_init hT
  refine j_objV C V wm_M_O_init rfl (by decide) (by decide) ?_
  refine j_new C rfl (fn_M_L V) (by decide) (by decide) (fun ql hql => ?_)
  refine j_callN C rfl (fc_M_L_init V (by decide)) (m_L_init _ hT) rfl rfl (nle rfl) (by decide) (by decide) ?_
  rintro r w' ⟨rfl, rfl⟩
  have b1 := up_new (e := .inr (kL, nw_L)) hw hql
  have l1 : va_up w ql (some (.inr (kL, nw_L))) ql = some (.inr (kL, nw_L)) := va_up_self _ _ _
  have m1 : ∀ a e, w a = some e → va_up w ql (some (.inr (kL, nw_L))) a = some e := fun a e h => up_new h hql
  generalize va_up w ql (some (.inr (kL, nw_L))) = w1 at b1 l1 m1 ⊢
  refine j_putE C rfl (fp_M_M_waiters V rfl) b1 (nlt rfl) (fit_o _ _) (.inr (kM, [.inl 0, .inl 0, .inr none, .inr (some ql), .inr none, .inr none, .inr none, .inl 0, .inr none, .inr none, .inl 0])) rfl ?_
  have hbq : b ≠ ql := ne_new hw hql
  generalize he1 : (Sum.inr (kM, [.inl 0, .inl 0, .inr none, .inr (some ql), .inr none, .inr none, .inr none, .inl 0, .inr none, .inr none, .inl 0]) : fw_E) = e1
  have b2 : va_up w1 b (some e1) b = some e1 := va_up_self _ _ _
  have l2 : va_up w1 b (some e1) ql = some (.inr (kL, nw_L)) := by rw [va_up_ne _ _ hbq.symm]; exact l1
  have m2 : ∀ a e, a ≠ b → w a = some e → va_up w1 b (some e1) a = some e := fun a e hab h => by rw [va_up_ne _ _ hab]; exact m1 a e h
  generalize va_up w1 b (some e1) = w2 at b2 l2 m2 ⊢
  refine j_newq (N := 8) C rfl hT.2.2.1 (by rw [V.1]; exact V.2.2 _ wk_M_H) (by decide) (by decide) (by decide) (by decide) (by decide) (by decide) (fun qp hqp => ?_)
  have hbp : b ≠ qp := ne_new b2 hqp
  have hlp : ql ≠ qp := ne_new l2 hqp
  have b3 := up_new (e := .inl (aT, 8, .inr (fun _ => none))) b2 hqp
  have l3 := up_new (e := .inl (aT, 8, .inr (fun _ => none))) l2 hqp
  have p3 : va_up w2 qp (some (.inl (aT, 8, .inr (fun _ => none)))) qp = some (.inl (aT, 8, .inr (fun _ => none))) := va_up_self _ _ _
  have hwqp : w qp = none := by
    cases h : w qp with
    | none => rfl
    | some e => rw [m2 qp e hbp.symm h] at hqp; cases hqp
  have m3 : ∀ a e, a ≠ b → w a = some e → va_up w2 qp (some (.inl (aT, 8, .inr (fun _ => none)))) a = some e := fun a e hab h => up_new (m2 a e hab h) hqp
  generalize va_up w2 qp (some (.inl (aT, 8, .inr (fun _ => none)))) = w3 at b3 l3 p3 m3 ⊢
  subst he1
  refine j_putE C rfl (fp_M_M_passed V rfl) b3 (nlt rfl) (fit_a _ _) (.inr (kM, [.inl 0, .inl 0, .inr none, .inr (some ql), .inr none, .inr none, .inr none, .inl 0, .inr none, .inr (some qp), .inl 0])) rfl ?_
  refine j_putE C rfl (fp_M_M_number V rfl) (va_up_self _ _ _) (nlt rfl) (fit_i _) (.inr (kM, [.inl x, .inl 0, .inr none, .inr (some ql), .inr none, .inr none, .inr none, .inl 0, .inr none, .inr (some qp), .inl 0])) rfl ?_
  refine j_putE C rfl (fp_M_M_target V) (va_up_self _ _ _) (nlt rfl) (fit_o _ _) (.inr (kM, [.inl x, .inl 0, .inr none, .inr (some ql), .inr (some tg), .inr none, .inr none, .inl 0, .inr none, .inr (some qp), .inl 0])) rfl ?_
  refine j_putE C rfl (fp_M_M_verb V rfl) (va_up_self _ _ _) (nlt rfl) (fit_i _) (.inr (kM, [.inl x, .inl v, .inr none, .inr (some ql), .inr (some tg), .inr none, .inr none, .inl 0, .inr none, .inr (some qp), .inl 0])) rfl ?_
  refine j_putE C rfl (fp_M_M_argument V) (va_up_self _ _ _) (nlt rfl) (fit_o _ _) (.inr (kM, [.inl x, .inl v, .inr none, .inr (some ql), .inr (some tg), .inr (some ar), .inr none, .inl 0, .inr none, .inr (some qp), .inl 0])) rfl ?_
  rw [bx_uu, bx_uu, bx_uu, bx_uu]
  generalize he4 : (Sum.inr (kM, [.inl x, .inl v, .inr none, .inr (some ql), .inr (some tg), .inr (some ar), .inr none, .inl 0, .inr none, .inr (some qp), .inl 0]) : fw_E) = e4
  have b4 : va_up w3 b (some e4) b = some e4 := va_up_self _ _ _
  have l4 : va_up w3 b (some e4) ql = some (.inr (kL, nw_L)) := by rw [va_up_ne _ _ hbq.symm]; exact l3
  have p4 : va_up w3 b (some e4) qp = some (.inl (aT, 8, .inr (fun _ => none))) := by rw [va_up_ne _ _ hbp.symm]; exact p3
  have m4 : ∀ a e, a ≠ b → w a = some e → va_up w3 b (some e4) a = some e := fun a e hab h => by rw [va_up_ne _ _ hab]; exact m3 a e hab h
  generalize va_up w3 b (some e4) = w4 at b4 l4 p4 m4 ⊢
  refine j_new C rfl (fn_M_R V) (by decide) (by decide) (fun pr hpr => ?_)
  refine j_callI C rfl (fc_M_R_init V (by decide)) (m_R_init _ hT (s := 3) (x := x) (va_up_self _ _ _)) rfl rfl (nle rfl) (by decide) (by decide) ?_
  rintro r w' ⟨rfl, rfl⟩
  rw [bx_uu]
  have b5 := up_new (e := .inr (kR, [.inl 3, .inl x])) b4 hpr
  have l5 := up_new (e := .inr (kR, [.inl 3, .inl x])) l4 hpr
  have p5 := up_new (e := .inr (kR, [.inl 3, .inl x])) p4 hpr
  have r5 : va_up w4 pr (some (.inr (kR, [.inl 3, .inl x]))) pr = some (.inr (kR, [.inl 3, .inl x])) := va_up_self _ _ _
  have m5 : ∀ a e, a ≠ b → w a = some e → va_up w4 pr (some (.inr (kR, [.inl 3, .inl x]))) a = some e := fun a e hab h => up_new (m4 a e hab h) hpr
  have hbr : b ≠ pr := ne_new b4 hpr
  generalize va_up w4 pr (some (.inr (kR, [.inl 3, .inl x]))) = w5 at b5 l5 p5 r5 m5 ⊢
  subst he4
  refine j_putE C rfl (fp_M_M_promise V rfl) b5 (nlt rfl) (fit_o _ _) (.inr (kM, [.inl x, .inl v, .inr (some pr), .inr (some ql), .inr (some tg), .inr (some ar), .inr none, .inl 0, .inr none, .inr (some qp), .inl 0])) rfl ?_
  refine j_vret C E rfl rfl (by decide) (by decide) ⟨rfl, ql, qp, pr, hql, hwqp, fun a e hab h => ?_, va_up_self _ _ _, ?_, ?_, ?_⟩
  · rw [va_up_ne _ _ hab]; exact m5 a e hab h
  · rw [va_up_ne _ _ hbq.symm]; exact l5
  · rw [va_up_ne _ _ hbp.symm]; exact p5
  · unfold IsR; rw [va_up_ne _ _ hbr.symm]; exact r5
end CTR
end
section
section CTRH
variable {T : fw_T} {w : fw_W}
set_option maxHeartbeats 2000000 in
theorem m_H_init (l : Launch) (hT : TOK T) {b ct : Nat} {ow : Option Nat} {x kd hm : Int32} {vr : Rf} (hw : w b = some (.inr (kT, nw_H))) (hct : IsR w ct vr) :
    Ct l T y_H_init W_H_init rm_H_init [.inr (some b), .inl x, .inl kd, .inl hm, .inr ow, .inr (some ct)] w (fun r w' => r = none ∧ ∃ (qs sf : Nat) (f : Nat → Option Nat), w qs = none ∧ (∀ a e, a ≠ b → w a = some e → w' a = some e) ∧ w' b = some (.inr (kT, [.inl x, .inl kd, .inl hm, .inr ow, .inr (some sf), .inr (some qs), .inr (some ct), .inr none, .inl 0, .inl 0, .inl 0])) ∧ w' qs = some (.inl (aR, 4, .inr f)) ∧ (∀ q, q < 4 → f q = some ct) ∧ IsR w' sf (2, x)) := by
  refine ct_H_init rfl (nle rfl) ?_
  intro X hl C E
  have V := hv_H_init hT
  refine j_objV C V wm_H_O_init rfl (by decide) (by decide) ?_
  refine j_newq (N := 4) C rfl hT.2.1 (by rw [V.1]; exact V.2.2 _ wk_H_R) (by decide) (by decide) (by decide) (by decide) (by decide) (by decide) (fun qs hqs => ?_)
  have hbs : b ≠ qs := ne_new hw hqs
  have b1 := up_new (e := .inl (aR, 4, .inr (fun _ => none))) hw hqs
  have s1 : va_up w qs (some (.inl (aR, 4, .inr (fun _ => none)))) qs = some (.inl (aR, 4, .inr (fun _ => none))) := va_up_self _ _ _
  have m1 : ∀ a e, w a = some e → va_up w qs (some (.inl (aR, 4, .inr (fun _ => none)))) a = some e := fun a e h => up_new h hqs
  generalize va_up w qs (some (.inl (aR, 4, .inr (fun _ => none)))) = w1 at b1 s1 m1 ⊢
  refine j_putE C rfl (fp_H_H_slots V rfl) b1 (nlt rfl) (fit_a _ _) (.inr (kT, [.inl 0, .inl 0, .inl 0, .inr none, .inr none, .inr (some qs), .inr none, .inr none, .inl 0, .inl 0, .inl 0])) rfl ?_
  refine j_putE C rfl (fp_H_H_number V rfl) (va_up_self _ _ _) (nlt rfl) (fit_i _) (.inr (kT, [.inl x, .inl 0, .inl 0, .inr none, .inr none, .inr (some qs), .inr none, .inr none, .inl 0, .inl 0, .inl 0])) rfl ?_
  refine j_putE C rfl (fp_H_H_kind V rfl) (va_up_self _ _ _) (nlt rfl) (fit_i _) (.inr (kT, [.inl x, .inl kd, .inl 0, .inr none, .inr none, .inr (some qs), .inr none, .inr none, .inl 0, .inl 0, .inl 0])) rfl ?_
  refine j_putE C rfl (fp_H_H_home V rfl) (va_up_self _ _ _) (nlt rfl) (fit_i _) (.inr (kT, [.inl x, .inl kd, .inl hm, .inr none, .inr none, .inr (some qs), .inr none, .inr none, .inl 0, .inl 0, .inl 0])) rfl ?_
  refine j_putE C rfl (fp_H_H_owner V rfl) (va_up_self _ _ _) (nlt rfl) (fit_o _ _) (.inr (kT, [.inl x, .inl kd, .inl hm, .inr ow, .inr none, .inr (some qs), .inr none, .inr none, .inl 0, .inl 0, .inl 0])) rfl ?_
  rw [bx_uu, bx_uu, bx_uu, bx_uu]
  generalize he2 : (Sum.inr (kT, [.inl x, .inl kd, .inl hm, .inr ow, .inr none, .inr (some qs), .inr none, .inr none, .inl 0, .inl 0, .inl 0]) : fw_E) = e2
  have b2 : va_up w1 b (some e2) b = some e2 := va_up_self _ _ _
  have s2 : va_up w1 b (some e2) qs = some (.inl (aR, 4, .inr (fun _ => none))) := by rw [va_up_ne _ _ hbs.symm]; exact s1
  have m2 : ∀ a e, a ≠ b → w a = some e → va_up w1 b (some e2) a = some e := fun a e hab h => by rw [va_up_ne _ _ hab]; exact m1 a e h
  generalize va_up w1 b (some e2) = w2 at b2 s2 m2 ⊢
  refine j_new C rfl (fn_H_R V) (by decide) (by decide) (fun sf hsf => ?_)
  refine j_callI C rfl (fc_H_R_init V (by decide)) (m_R_init _ hT (s := 2) (x := x) (va_up_self _ _ _)) rfl rfl (nle rfl) (by decide) (by decide) ?_
  rintro r w' ⟨rfl, rfl⟩
  rw [bx_uu]
  have hbf : b ≠ sf := ne_new b2 hsf
  have b3 := up_new (e := .inr (kR, [.inl 2, .inl x])) b2 hsf
  have s3 := up_new (e := .inr (kR, [.inl 2, .inl x])) s2 hsf
  have r3 : va_up w2 sf (some (.inr (kR, [.inl 2, .inl x]))) sf = some (.inr (kR, [.inl 2, .inl x])) := va_up_self _ _ _
  have m3 : ∀ a e, a ≠ b → w a = some e → va_up w2 sf (some (.inr (kR, [.inl 2, .inl x]))) a = some e := fun a e hab h => up_new (m2 a e hab h) hsf
  generalize va_up w2 sf (some (.inr (kR, [.inl 2, .inl x]))) = w3 at b3 s3 r3 m3 ⊢
  subst he2
  refine j_putE C rfl (fp_H_H_self V rfl) b3 (nlt rfl) (fit_o _ _) (.inr (kT, [.inl x, .inl kd, .inl hm, .inr ow, .inr (some sf), .inr (some qs), .inr none, .inr none, .inl 0, .inl 0, .inl 0])) rfl ?_
  refine j_putE C rfl (fp_H_H_held V) (va_up_self _ _ _) (nlt rfl) (fit_o _ _) (.inr (kT, [.inl x, .inl kd, .inl hm, .inr ow, .inr (some sf), .inr (some qs), .inr (some ct), .inr none, .inl 0, .inl 0, .inl 0])) rfl ?_
  rw [bx_uu]
  generalize he4 : (Sum.inr (kT, [.inl x, .inl kd, .inl hm, .inr ow, .inr (some sf), .inr (some qs), .inr (some ct), .inr none, .inl 0, .inl 0, .inl 0]) : fw_E) = e4
  have hcb : ct ≠ b := fun q => by subst q; unfold IsR at hct; rw [hw] at hct; simp [kT, kR] at hct
  have b4 : va_up w3 b (some e4) b = some e4 := va_up_self _ _ _
  have s4 : va_up w3 b (some e4) qs = some (.inl (aR, 4, .inr (fun _ => none))) := by rw [va_up_ne _ _ hbs.symm]; exact s3
  have r4 : va_up w3 b (some e4) sf = some (.inr (kR, [.inl 2, .inl x])) := by rw [va_up_ne _ _ hbf.symm]; exact r3
  have m4 : ∀ a e, a ≠ b → w a = some e → va_up w3 b (some e4) a = some e := fun a e hab h => by rw [va_up_ne _ _ hab]; exact m3 a e hab h
  generalize va_up w3 b (some e4) = w4 at b4 s4 r4 m4 ⊢
  subst he4
  have t4 : IsR w4 ct vr := m4 ct _ hcb hct
  -- four stores
  have hsq : ∀ {a : Nat} {f : Nat → Option Nat} {W : fw_W} {e : fw_E} {y : Option fw_E}, W qs = some (.inl (aR, 4, .inr f)) → W a = some e → (∀ g, e ≠ .inl (aR, 4, .inr g)) → va_up W qs y a = some e := fun h1 h2 h3 => up_ne h1 h2 (h3 _)
  have nb : ∀ g, (Sum.inr (kT, [.inl x, .inl kd, .inl hm, .inr ow, .inr (some sf), .inr (some qs), .inr (some ct), .inr none, .inl 0, .inl 0, .inl 0]) : fw_E) ≠ .inl (aR, 4, .inr g) := fun g h => by cases h
  refine j_icmpF C rfl (by decide) ?_
  refine j_get C rfl (fg_H_H_slots V) b4 rfl ?_
  refine j_aastI C rfl s4 hT.2.1 0 (by decide) (by decide) (by decide) (put_ref hT t4) ?_
  refine j_goto C rfl ?_
  refine j_icmpF C rfl (by decide) ?_
  refine j_get C rfl (fg_H_H_slots V) (hsq s4 b4 nb) rfl ?_
  refine j_aastI C rfl (va_up_self _ _ _) hT.2.1 1 (by decide) (by decide) (by decide) (put_ref hT (t4.up s4 (fun l h => by cases h))) ?_
  rw [bx_uu]
  refine j_goto C rfl ?_
  refine j_icmpF C rfl (by decide) ?_
  refine j_get C rfl (fg_H_H_slots V) (hsq s4 b4 nb) rfl ?_
  refine j_aastI C rfl (va_up_self _ _ _) hT.2.1 2 (by decide) (by decide) (by decide) (put_ref hT (t4.up s4 (fun l h => by cases h))) ?_
  rw [bx_uu]
  refine j_goto C rfl ?_
  refine j_icmpF C rfl (by decide) ?_
  refine j_get C rfl (fg_H_H_slots V) (hsq s4 b4 nb) rfl ?_
  refine j_aastI C rfl (va_up_self _ _ _) hT.2.1 3 (by decide) (by decide) (by decide) (put_ref hT (t4.up s4 (fun l h => by cases h))) ?_
  rw [bx_uu]
  refine j_goto C rfl ?_
  refine j_icmpT C rfl (by decide) ?_
  refine j_vret C E rfl rfl (by decide) (by decide) ⟨rfl, qs, sf, _, hqs, fun a e hab h => ?_, hsq s4 b4 nb, va_up_self _ _ _, ?_, ?_⟩
  · rw [va_up_ne _ _ (ne_new h hqs)]; exact m4 a e hab h
  · intro q hq
    rcases (show q = 0 ∨ q = 1 ∨ q = 2 ∨ q = 3 by omega) with rfl | rfl | rfl | rfl <;> simp [va_up]
  · exact IsR.up (w := w4) r4 s4 (fun l h => by cases h)
end CTRH
end
section
/-! The class's state as a value, and the smallest methods of the class. -/
abbrev St : Type := Nat × (Nat → Th) × Nat × (Nat → Ms) × (Nat → List Nat)
abbrev sN (s : St) : Nat := s.1
abbrev sT (s : St) : Nat → Th := s.2.1
abbrev sK (s : St) : Nat := s.2.2.1
abbrev sM (s : St) : Nat → Ms := s.2.2.2.1
abbrev sL (s : St) : Nat → List Nat := s.2.2.2.2
def Rp (w : fw_W) (c : Cfg) (s : St) : Prop := RepL w c (sN s) (sT s) (sK s) (sM s) (sL s)
theorem Rp.mono {w w' : fw_W} {c : Cfg} {s : St} (R : Rp w c s) (hm : ∀ a e, w a = some e → w' a = some e) : Rp w' c s := by
  obtain ⟨bh, lf, R, h⟩ := R
  exact ⟨bh, lf, R.mono hm, h⟩
theorem Rp.grow {w : fw_W} {c : Cfg} {s : St} (R : Rp w c s) {q : Nat} {e : fw_E} (hq : w q = none) : Rp (va_up w q (some e)) c s := R.mono (fun _ _ h => up_new h hq)
theorem Rp.o {w : fw_W} {c : Cfg} {s : St} (R : Rp w c s) : w (cO c) = some (cellO c (sN s) (sK s)) := by
  obtain ⟨bh, lf, R, h⟩ := R
  exact R.1
theorem Rp.nothing {w : fw_W} {c : Cfg} {s : St} (R : Rp w c s) : IsR w (cN c) rN := by
  obtain ⟨bh, lf, R, h⟩ := R
  exact R.2.1
theorem Rp.broken {w : fw_W} {c : Cfg} {s : St} (R : Rp w c s) : IsR w (cB c) rB := by
  obtain ⟨bh, lf, R, h⟩ := R
  exact R.2.2.1
theorem Rp.n40 {w : fw_W} {c : Cfg} {s : St} (R : Rp w c s) : sN s ≤ 40 := by
  obtain ⟨bh, lf, R, h⟩ := R
  exact R.n40
theorem Rp.k200 {w : fw_W} {c : Cfg} {s : St} (R : Rp w c s) : sK s ≤ 200 := by
  obtain ⟨bh, lf, R, h⟩ := R
  exact R.k200
theorem Rp.aT {w : fw_W} {c : Cfg} {s : St} (R : Rp w c s) {i : Nat} (h : i < sN s) : ThOK w c (sN s) i (sT s i) := by
  obtain ⟨bh, lf, R, -⟩ := R
  exact R.aT h
theorem Rp.aM {w : fw_W} {c : Cfg} {s : St} (R : Rp w c s) {j : Nat} (h : j < sK s) : ∃ b, MsOK w c (sN s) (sK s) j (sM s j) b := by
  obtain ⟨bh, lf, R, -⟩ := R
  exact ⟨_, R.aM h⟩
/-- the index that an int is, below n -/
def ixO (n : Nat) (x : Int32) : Option Nat := if 0 ≤ x ∧ x < nI n then some x.toNatClampNeg else none
theorem ixO_some {n i : Nat} (hn : n < 2 ^ 31) (h : i < n) : ixO n (nI i) = some i := by
  unfold ixO
  rw [if_pos ⟨nI_pos' (by omega), nI_lt h hn⟩, nI_clamp (by omega)]
theorem ixO_neg {n : Nat} {x : Int32} (h : x < 0) : ixO n x = none := by
  unfold ixO
  rw [if_neg]
  rintro ⟨h1, -⟩
  rw [Int32.lt_iff_toInt_lt] at h
  rw [Int32.le_iff_toInt_le] at h1
  omega
theorem ixO_big {n : Nat} {x : Int32} (h : nI n ≤ x) : ixO n x = none := by
  unfold ixO
  rw [if_neg]
  rintro ⟨-, h1⟩
  rw [Int32.lt_iff_toInt_lt] at h1
  rw [Int32.le_iff_toInt_le] at h
  omega
theorem ixO_cases (n : Nat) (hn : n < 2 ^ 31) (x : Int32) : (x < 0 ∧ ixO n x = none) ∨ (¬ x < 0 ∧ nI n ≤ x ∧ ixO n x = none) ∨ ∃ i, i < n ∧ x = nI i ∧ ¬ x < 0 ∧ ¬ nI n ≤ x ∧ ixO n x = some i := by
  rcases pk_ix x hn with h | h | ⟨i, h1, h2⟩
  · exact Or.inl ⟨h, ixO_neg h⟩
  · by_cases h0 : x < 0
    · exact Or.inl ⟨h0, ixO_neg h0⟩
    · exact Or.inr (Or.inl ⟨h0, h, ixO_big h⟩)
  · subst h2
    exact Or.inr (Or.inr ⟨i, h1, rfl, nI_pos (by omega), nI_ge h1 hn, ixO_some hn h1⟩)
section BASE
variable {T : fw_T} {w : fw_W} {c : Cfg} {s : St}
theorem m_V_thingAt (l : Launch) (hT : TOK T) (R : Rp w c s) (x : Int32) : Ct l T y_V_thingAt W_V_thingAt rm_V_thingAt [.inr (some (cO c)), .inl x] w (fun r w' => w' = w ∧ r = some (.inr ((ixO (sN s) x).map (cT c)))) := by
  refine ct_V_thingAt rfl (nle rfl) ?_
  intro X hl C E
  have V := hv_V_thingAt hT
  have hn := R.n40
  have ho := R.o
  rcases ixO_cases (sN s) (by omega) x with ⟨h, e⟩ | ⟨h0, h, e⟩ | ⟨i, hi, rfl, h0, h, e⟩ <;> rw [e] at E
  · refine j_ifT C rfl (fw_cb_iff.mpr h) ?_
    exact j_aret C E rfl rfl (by decide) (by decide) ⟨rfl, rfl⟩
  · refine j_if C rfl (fun q => absurd q h0) (fun _ => ?_)
    refine j_get C rfl (fg_V_V_thingCount V) ho rfl ?_
    refine j_icmpT C rfl (fw_cb_iff.mpr h) ?_
    exact j_aret C E rfl rfl (by decide) (by decide) ⟨rfl, rfl⟩
  · refine j_if C rfl (fun q => absurd q h0) (fun _ => ?_)
    refine j_get C rfl (fg_V_V_thingCount V) ho rfl ?_
    refine j_icmp C rfl (fun q => absurd q h) (fun _ => ?_)
    refine j_get C rfl (fg_V_V_things V) ho rfl ?_
    have hta : w (cTA c) = some (cellTA c (sN s)) := by obtain ⟨bh, lf, R, -⟩ := R; exact R.2.2.2.1
    refine j_aaldI C rfl hta hT.2.2.1 i rfl (by omega) (by decide) ?_
    rw [if_pos hi]
    refine j_goto C rfl ?_
    exact j_aret C E rfl rfl (by decide) (by decide) ⟨rfl, rfl⟩
theorem m_V_messageAt (l : Launch) (hT : TOK T) (R : Rp w c s) (x : Int32) : Ct l T y_V_messageAt W_V_messageAt rm_V_messageAt [.inr (some (cO c)), .inl x] w (fun r w' => w' = w ∧ r = some (.inr ((ixO (sK s) x).map (cM c)))) := by
  refine ct_V_messageAt rfl (nle rfl) ?_
  intro X hl C E
  have V := hv_V_messageAt hT
  have hn := R.k200
  have ho := R.o
  rcases ixO_cases (sK s) (by omega) x with ⟨h, e⟩ | ⟨h0, h, e⟩ | ⟨i, hi, rfl, h0, h, e⟩ <;> rw [e] at E
  · refine j_ifT C rfl (fw_cb_iff.mpr h) ?_
    exact j_aret C E rfl rfl (by decide) (by decide) ⟨rfl, rfl⟩
  · refine j_if C rfl (fun q => absurd q h0) (fun _ => ?_)
    refine j_get C rfl (fg_V_V_sentCount V) ho rfl ?_
    refine j_icmpT C rfl (fw_cb_iff.mpr h) ?_
    exact j_aret C E rfl rfl (by decide) (by decide) ⟨rfl, rfl⟩
  · refine j_if C rfl (fun q => absurd q h0) (fun _ => ?_)
    refine j_get C rfl (fg_V_V_sentCount V) ho rfl ?_
    refine j_icmp C rfl (fun q => absurd q h) (fun _ => ?_)
    refine j_get C rfl (fg_V_V_sent V) ho rfl ?_
    have hta : w (cMA c) = some (cellMA c (sK s)) := by obtain ⟨bh, lf, R, -⟩ := R; exact R.2.2.2.2.1
    refine j_aaldI C rfl hta hT.2.2.2.1 i rfl (by omega) (by decide) ?_
    rw [if_pos hi]
    refine j_goto C rfl ?_
    exact j_aret C E rfl rfl (by decide) (by decide) ⟨rfl, rfl⟩
/-- a truth value as an int -/
def bI (b : Bool) : Int32 := if b = true then 1 else 0
theorem bI_01 (b : Bool) : bI b = 0 ∨ bI b = 1 := by cases b <;> simp [bI]
theorem m_V_isVat (l : Launch) (hT : TOK T) (x : Int32) : Ct l T y_V_isVat W_V_isVat rm_V_isVat [.inl x] w (fun r w' => w' = w ∧ r = some (.inl (bI (ixO 3 x).isSome))) := by
  refine ct_V_isVat rfl (nle rfl) ?_
  intro X hl C E
  rcases ixO_cases 3 (by omega) x with ⟨h, e⟩ | ⟨h0, h, e⟩ | ⟨i, hi, rfl, h0, h, e⟩ <;> rw [e] at E
  · refine j_ifT C rfl (fw_cb_iff.mpr h) ?_
    exact j_iret C E rfl (Or.inr ⟨rfl, Or.inl rfl⟩) (by decide) (by decide) ⟨rfl, rfl⟩
  · refine j_if C rfl (fun q => absurd q h0) (fun _ => ?_)
    refine j_icmpT C rfl (fw_cb_iff.mpr h) ?_
    exact j_iret C E rfl (Or.inr ⟨rfl, Or.inl rfl⟩) (by decide) (by decide) ⟨rfl, rfl⟩
  · refine j_if C rfl (fun q => absurd q h0) (fun _ => ?_)
    refine j_icmp C rfl (fun q => absurd q h) (fun _ => ?_)
    refine j_goto C rfl ?_
    exact j_iret C E rfl (Or.inr ⟨rfl, Or.inr rfl⟩) (by decide) (by decide) ⟨rfl, rfl⟩
theorem m_V_isSlot (l : Launch) (hT : TOK T) (x : Int32) : Ct l T y_V_isSlot W_V_isSlot rm_V_isSlot [.inl x] w (fun r w' => w' = w ∧ r = some (.inl (bI (ixO 4 x).isSome))) := by
  refine ct_V_isSlot rfl (nle rfl) ?_
  intro X hl C E
  rcases ixO_cases 4 (by omega) x with ⟨h, e⟩ | ⟨h0, h, e⟩ | ⟨i, hi, rfl, h0, h, e⟩ <;> rw [e] at E
  · refine j_ifT C rfl (fw_cb_iff.mpr h) ?_
    exact j_iret C E rfl (Or.inr ⟨rfl, Or.inl rfl⟩) (by decide) (by decide) ⟨rfl, rfl⟩
  · refine j_if C rfl (fun q => absurd q h0) (fun _ => ?_)
    refine j_icmpT C rfl (fw_cb_iff.mpr h) ?_
    exact j_iret C E rfl (Or.inr ⟨rfl, Or.inl rfl⟩) (by decide) (by decide) ⟨rfl, rfl⟩
  · refine j_if C rfl (fun q => absurd q h0) (fun _ => ?_)
    refine j_icmp C rfl (fun q => absurd q h) (fun _ => ?_)
    refine j_goto C rfl ?_
    exact j_iret C E rfl (Or.inr ⟨rfl, Or.inr rfl⟩) (by decide) (by decide) ⟨rfl, rfl⟩
theorem m_V_numeral (l : Launch) (hT : TOK T) (x : Int32) : Ct l T y_V_numeral W_V_numeral rm_V_numeral [.inl x] w (fun r w' => ∃ q, w q = none ∧ w' = va_up w q (some (.inr (kR, [.inl 1, .inl x]))) ∧ r = some (.inr (some q))) := by
  refine ct_V_numeral rfl (nle rfl) ?_
  intro X hl C E
  have V := hv_V_numeral hT
  refine j_new C rfl (fn_V_R V) (by decide) (by decide) (fun q hq => ?_)
  refine j_callI C rfl (fc_V_R_init V (by decide)) (m_R_init _ hT (s := 1) (x := x) (va_up_self _ _ _)) rfl rfl (nle rfl) (by decide) (by decide) ?_
  rintro r w' ⟨rfl, rfl⟩
  rw [bx_uu]
  exact j_aret C E rfl rfl (by decide) (by decide) ⟨q, hq, rfl, rfl⟩
end BASE
end
section
/-! References of the class: what they count as. -/
def nxR (k : Nat) (ms : Nat → Ms) (r : Rf) : Option Rf := if r.1 = 3 then (match ixO k r.2 with
  | some j => mN (ms j)
  | none => none) else none
/-- what a reference counts as -/
def cnt (s : St) (r : Rf) : Rf := ch_it (nxR (sK s) (sM s)) 200 r
def tOf (s : St) (r : Rf) : Option Nat := if (cnt s r).1 = 2 then ixO (sN s) (cnt s r).2 else none
def aOf (s : St) (r : Rf) : Option Nat := if (cnt s r).1 = 3 then ixO (sK s) (cnt s r).2 else none
def kOf (s : St) (kd : Int32) (r : Rf) : Option Nat := match tOf s r with
  | some i => if tK (sT s i) = kd then some i else none
  | none => none
def bN (r : Rf) : Rf := if r.1 = 0 then rB else r
def rTo (o : Option Nat) : Rf := match o with
  | none => rB
  | some i => (2, nI i)
theorem ixO_lt {n i : Nat} {x : Int32} (hn : n < 2 ^ 31) (h : ixO n x = some i) : i < n ∧ x = nI i := by
  rcases ixO_cases n hn x with ⟨-, e⟩ | ⟨-, -, e⟩ | ⟨j, hj, rfl, -, -, e⟩
  · rw [e] at h; cases h
  · rw [e] at h; cases h
  · rw [e] at h; cases h; exact ⟨hj, rfl⟩
theorem ixO_nI {n x i : Nat} (hn : n < 2 ^ 31) (hx : x < 2 ^ 31) (h : ixO n (nI x) = some i) : i = x ∧ x < n := by
  obtain ⟨h1, h2⟩ := ixO_lt hn h
  have := (nI_eq (by omega) (by omega)).mp h2
  omega
section REFS
variable {T : fw_T} {w : fw_W} {c : Cfg} {s : St}
theorem m_V_isSlotOrNone (l : Launch) (hT : TOK T) (x : Int32) : Ct l T y_V_isSlotOrNone W_V_isSlotOrNone rm_V_isSlotOrNone [.inl x] w (fun r w' => w' = w ∧ r = some (.inl (bI (decide (x = -1) || (ixO 4 x).isSome)))) := by
  refine ct_V_isSlotOrNone rfl (nle rfl) ?_
  intro X hl C E
  have V := hv_V_isSlotOrNone hT
  by_cases hx : x = -1
  · refine j_icmp C rfl (fun _ => ?_) (fun q => absurd hx q)
    refine j_goto C rfl ?_
    exact j_iret C E rfl (Or.inr ⟨rfl, Or.inr rfl⟩) (by decide) (by decide) ⟨rfl, by rw [decide_eq_true hx]; rfl⟩
  · refine j_icmp C rfl (fun q => absurd q hx) (fun _ => ?_)
    refine j_callS C rfl (fc_V_V_isSlot V (by decide)) (m_V_isSlot _ hT x) rfl rfl (nle rfl) (by decide) (by decide) ?_
    rintro r w' ⟨rfl, rfl⟩
    cases hs : (ixO 4 x).isSome with
    | true =>
      refine j_ifF C rfl (by decide) ?_
      refine j_goto C rfl ?_
      exact j_iret C E rfl (Or.inr ⟨rfl, Or.inr rfl⟩) (by decide) (by decide) ⟨rfl, by rw [hs, Bool.or_true]; rfl⟩
    | false =>
      refine j_ifT C rfl (by decide) ?_
      exact j_iret C E rfl (Or.inr ⟨rfl, Or.inl rfl⟩) (by decide) (by decide) ⟨rfl, by rw [hs, decide_eq_false hx]; rfl⟩
theorem m_V_cellAt (l : Launch) (hT : TOK T) (R : Rp w c s) (x : Int32) : Ct l T y_V_cellAt W_V_cellAt rm_V_cellAt [.inr (some (cO c)), .inl x] w (fun r w' => w' = w ∧ r = some (.inr ((match ixO (sN s) x with | some i => if tK (sT s i) = 0 then some i else none | none => none).map (cT c)))) := by
  refine ct_V_cellAt rfl (nle rfl) ?_
  intro X hl C E
  have V := hv_V_cellAt hT
  have hn := R.n40
  refine j_callV C rfl (fc_V_V_thingAt V (by decide)) (m_V_thingAt _ hT R x) rfl rfl R.o (by rw [hT.1]; rfl) (nle rfl) (by decide) (by decide) ?_
  rintro r w' ⟨rfl, rfl⟩
  cases hx : ixO (sN s) x with
  | none =>
    rw [hx] at E
    refine j_ifnull C rfl (fun _ => ?_) (fun a ha => by cases ha)
    exact j_aret C E rfl rfl (by decide) (by decide) ⟨rfl, rfl⟩
  | some i =>
    rw [hx] at E
    obtain ⟨hi, -⟩ := ixO_lt (by omega) hx
    obtain ⟨ek, sf, hd, f, e0, -⟩ := R.aT hi
    refine j_ifnull C rfl (fun h => by cases h) (fun a ha => ?_)
    refine j_get C rfl (fg_V_H_kind V) e0 rfl ?_
    refine j_if C rfl (fun h => ?_) (fun h => ?_)
    · exact j_aret C E rfl rfl (by decide) (by decide) ⟨rfl, by dsimp only; rw [if_neg (show ¬ tK (sT s i) = 0 from h)]; rfl⟩
    · refine j_goto C rfl ?_
      exact j_aret C E rfl rfl (by decide) (by decide) ⟨rfl, by dsimp only; rw [if_pos (Classical.not_not.mp (show ¬ ¬ tK (sT s i) = 0 from h))]⟩
theorem m_V_brokenIfNothing (l : Launch) (hT : TOK T) (R : Rp w c s) {a : Nat} {r : Rf} (ha : IsR w a r) : Ct l T y_V_brokenIfNothing W_V_brokenIfNothing rm_V_brokenIfNothing [.inr (some (cO c)), .inr (some a)] w (fun v w' => w' = w ∧ ∃ b, v = some (.inr (some b)) ∧ IsR w b (bN r)) := by
  refine ct_V_brokenIfNothing rfl (nle rfl) ?_
  intro X hl C E
  have V := hv_V_brokenIfNothing hT
  refine j_get C rfl (fg_V_R_sort V) ha rfl ?_
  refine j_if C rfl (fun h => ?_) (fun h => ?_)
  · refine j_aret C E rfl rfl (by decide) (by decide) ⟨rfl, a, rfl, ?_⟩
    unfold bN; rw [if_neg (show ¬ r.1 = 0 from h)]; exact ha
  · refine j_get C rfl (fg_V_V_broken V) R.o rfl ?_
    refine j_goto C rfl ?_
    refine j_aret C E rfl rfl (by decide) (by decide) ⟨rfl, _, rfl, ?_⟩
    unfold bN; rw [if_pos (Classical.not_not.mp (show ¬ ¬ r.1 = 0 from h))]; exact R.broken
theorem m_V_referenceTo (l : Launch) (hT : TOK T) (R : Rp w c s) {o : Option Nat} (ho : ∀ i, o = some i → i < sN s) : Ct l T y_V_referenceTo W_V_referenceTo rm_V_referenceTo [.inr (some (cO c)), .inr (o.map (cT c))] w (fun v w' => w' = w ∧ ∃ b, v = some (.inr (some b)) ∧ IsR w b (rTo o)) := by
  refine ct_V_referenceTo rfl (nle rfl) ?_
  intro X hl C E
  have V := hv_V_referenceTo hT
  cases o with
  | none =>
    refine j_ifnn C rfl (fun a h => by cases h) (fun _ => ?_)
    refine j_get C rfl (fg_V_V_broken V) R.o rfl ?_
    refine j_goto C rfl ?_
    exact j_aret C E rfl rfl (by decide) (by decide) ⟨rfl, _, rfl, R.broken⟩
  | some i =>
    obtain ⟨ek, sf, hd, f, e0, e1, -⟩ := R.aT (ho i rfl)
    refine j_ifnn C rfl (fun a h => ?_) (fun h => by cases h)
    refine j_get C rfl (fg_V_H_self V) e0 rfl ?_
    exact j_aret C E rfl rfl (by decide) (by decide) ⟨rfl, sf, rfl, e1⟩
set_option maxHeartbeats 1000000 in
theorem m_V_countsAs (l : Launch) (hT : TOK T) (R : Rp w c s) {a : Nat} {r : Rf} (ha : IsR w a r) : Ct l T y_V_countsAs W_V_countsAs rm_V_countsAs [.inr (some (cO c)), .inr (some a)] w (fun v w' => w' = w ∧ ∃ b, v = some (.inr (some b)) ∧ IsR w b (cnt s r)) := by
  refine ct_V_countsAs rfl (nle rfl) ?_
  intro X hl C E
  have V := hv_V_countsAs hT
  have hk := R.k200
  have loop : ∀ (d p b : Nat) (q : Rf) (z : Option fw_V), p + d = 200 → IsR w b q → ch_it (nxR (sK s) (sM s)) d q = cnt s r → J T G_V_countsAs X 4 [some (.inr (some (cO c))), some (.inr (some a)), some (.inr (some b)), some (.inl (nI p)), z] [] w 0 0 := by
    intro d
    induction d with
    | zero =>
      intro p b q z hp hb hq
      have hp : p = 200 := by omega
      subst hp
      refine j_icmpT C rfl (by decide) ?_
      exact j_aret C E rfl rfl (by decide) (by decide) ⟨rfl, b, rfl, by rw [← hq]; exact hb⟩
    | succ d ih =>
      intro p b q z hp hb hq
      refine j_icmp C rfl (fun h => absurd h (nI_ge (show p < 200 by omega) (by decide))) (fun _ => ?_)
      refine j_get C rfl (fg_V_R_sort V) hb rfl ?_
      refine j_icmp C rfl (fun h => ?_) (fun h => ?_)
      · have hnx : nxR (sK s) (sM s) q = none := by unfold nxR; rw [if_neg (show ¬ q.1 = 3 from h)]
        rw [ch_it_stop _ hnx] at hq
        exact j_aret C E rfl rfl (by decide) (by decide) ⟨rfl, b, rfl, by rw [← hq]; exact hb⟩
      · have h3 : q.1 = 3 := Classical.not_not.mp h
        refine j_get C rfl (fg_V_R_index V) hb rfl ?_
        refine j_callV C rfl (fc_V_V_messageAt V (by decide)) (m_V_messageAt _ hT R q.2) rfl rfl R.o (by rw [hT.1]; rfl) (nle rfl) (by decide) (by decide) ?_
        rintro v w' ⟨rfl, rfl⟩
        cases hx : ixO (sK s) q.2 with
        | none =>
          have hnx : nxR (sK s) (sM s) q = none := by unfold nxR; rw [if_pos h3, hx]
          rw [ch_it_stop _ hnx] at hq
          refine j_ifnull C rfl (fun _ => ?_) (fun a ha => by cases ha)
          exact j_aret C E rfl rfl (by decide) (by decide) ⟨rfl, b, rfl, by rw [← hq]; exact hb⟩
        | some j =>
          obtain ⟨hj, -⟩ := ixO_lt (by omega) hx
          obtain ⟨bb, ek, pr, tg, ar, an, e0, e1, e2, e3, e4, e5⟩ := R.aM hj
          refine j_ifnull C rfl (fun h => by cases h) (fun a ha => ?_)
          refine j_get C rfl (fg_V_M_answer V) e0 rfl ?_
          rcases e4 with ⟨rfl, hN⟩ | ⟨x, y, rfl, hN, hxy⟩
          · have hnx : nxR (sK s) (sM s) q = none := by unfold nxR; rw [if_pos h3, hx]; exact hN
            rw [ch_it_stop _ hnx] at hq
            refine j_ifnn C rfl (fun a ha => by cases ha) (fun _ => ?_)
            exact j_aret C E rfl rfl (by decide) (by decide) ⟨rfl, b, rfl, by rw [← hq]; exact hb⟩
          · have hnx : nxR (sK s) (sM s) q = some y := by unfold nxR; rw [if_pos h3, hx]; exact hN
            refine j_ifnn C rfl (fun a ha => ?_) (fun h => by cases h)
            refine j_get C rfl (fg_V_M_answer V) e0 rfl ?_
            refine j_goto C rfl ?_
            have := ih (p + 1) x y (some (.inr (some (cM c j)))) (by omega) hxy (by simp only [ch_it, hnx] at hq; exact hq)
            rw [nI_succ] at this
            exact this
  refine j_to C 4 rfl ?_
  exact loop 200 0 a r none rfl ha rfl
theorem m_V_thingOf (l : Launch) (hT : TOK T) (R : Rp w c s) {a : Nat} {r : Rf} (ha : IsR w a r) : Ct l T y_V_thingOf W_V_thingOf rm_V_thingOf [.inr (some (cO c)), .inr (some a)] w (fun v w' => w' = w ∧ v = some (.inr ((tOf s r).map (cT c)))) := by
  refine ct_V_thingOf rfl (nle rfl) ?_
  intro X hl C E
  have V := hv_V_thingOf hT
  refine j_callV C rfl (fc_V_V_countsAs V (by decide)) (m_V_countsAs _ hT R ha) rfl rfl R.o (by rw [hT.1]; rfl) (nle rfl) (by decide) (by decide) ?_
  rintro v w' ⟨rfl, b, rfl, hb⟩
  refine j_get C rfl (fg_V_R_sort V) hb rfl ?_
  refine j_icmp C rfl (fun h => ?_) (fun h => ?_)
  · exact j_aret C E rfl rfl (by decide) (by decide) ⟨rfl, by unfold tOf; rw [if_neg (show ¬ (cnt s r).1 = 2 from h)]; rfl⟩
  · refine j_get C rfl (fg_V_R_index V) hb rfl ?_
    refine j_callV C rfl (fc_V_V_thingAt V (by decide)) (m_V_thingAt _ hT R _) rfl rfl R.o (by rw [hT.1]; rfl) (nle rfl) (by decide) (by decide) ?_
    rintro v w' ⟨rfl, rfl⟩
    refine j_goto C rfl ?_
    exact j_aret C E rfl rfl (by decide) (by decide) ⟨rfl, by unfold tOf; rw [if_pos (Classical.not_not.mp (show ¬ ¬ (cnt s r).1 = 2 from h))]⟩
theorem m_V_awaitedBy (l : Launch) (hT : TOK T) (R : Rp w c s) {a : Nat} {r : Rf} (ha : IsR w a r) : Ct l T y_V_awaitedBy W_V_awaitedBy rm_V_awaitedBy [.inr (some (cO c)), .inr (some a)] w (fun v w' => w' = w ∧ v = some (.inr ((aOf s r).map (cM c)))) := by
  refine ct_V_awaitedBy rfl (nle rfl) ?_
  intro X hl C E
  have V := hv_V_awaitedBy hT
  refine j_callV C rfl (fc_V_V_countsAs V (by decide)) (m_V_countsAs _ hT R ha) rfl rfl R.o (by rw [hT.1]; rfl) (nle rfl) (by decide) (by decide) ?_
  rintro v w' ⟨rfl, b, rfl, hb⟩
  refine j_get C rfl (fg_V_R_sort V) hb rfl ?_
  refine j_icmp C rfl (fun h => ?_) (fun h => ?_)
  · exact j_aret C E rfl rfl (by decide) (by decide) ⟨rfl, by unfold aOf; rw [if_neg (show ¬ (cnt s r).1 = 3 from h)]; rfl⟩
  · refine j_get C rfl (fg_V_R_index V) hb rfl ?_
    refine j_callV C rfl (fc_V_V_messageAt V (by decide)) (m_V_messageAt _ hT R _) rfl rfl R.o (by rw [hT.1]; rfl) (nle rfl) (by decide) (by decide) ?_
    rintro v w' ⟨rfl, rfl⟩
    refine j_goto C rfl ?_
    exact j_aret C E rfl rfl (by decide) (by decide) ⟨rfl, by unfold aOf; rw [if_pos (Classical.not_not.mp (show ¬ ¬ (cnt s r).1 = 3 from h))]⟩
theorem tOf_lt {s : St} (hn : sN s ≤ 40) {r : Rf} {i : Nat} (h : tOf s r = some i) : i < sN s := by
  unfold tOf at h
  split at h
  · exact (ixO_lt (by omega) h).1
  · cases h
theorem aOf_lt {s : St} (hn : sK s ≤ 200) {r : Rf} {i : Nat} (h : aOf s r = some i) : i < sK s := by
  unfold aOf at h
  split at h
  · exact (ixO_lt (by omega) h).1
  · cases h
theorem kOf_lt {s : St} (hn : sN s ≤ 40) {kd : Int32} {r : Rf} {i : Nat} (h : kOf s kd r = some i) : i < sN s ∧ tK (sT s i) = kd := by
  unfold kOf at h
  cases ht : tOf s r with
  | none => rw [ht] at h; cases h
  | some j =>
    rw [ht] at h
    dsimp only at h
    by_cases hk : tK (sT s j) = kd
    · rw [if_pos hk] at h; cases h; exact ⟨tOf_lt hn ht, hk⟩
    · rw [if_neg hk] at h; cases h
theorem m_V_thingOfKind (l : Launch) (hT : TOK T) (R : Rp w c s) {a : Nat} {r : Rf} (kd : Int32) (ha : IsR w a r) : Ct l T y_V_thingOfKind W_V_thingOfKind rm_V_thingOfKind [.inr (some (cO c)), .inl kd, .inr (some a)] w (fun v w' => w' = w ∧ v = some (.inr ((kOf s kd r).map (cT c)))) := by
  refine ct_V_thingOfKind rfl (nle rfl) ?_
  intro X hl C E
  have V := hv_V_thingOfKind hT
  refine j_callV C rfl (fc_V_V_thingOf V (by decide)) (m_V_thingOf _ hT R ha) rfl rfl R.o (by rw [hT.1]; rfl) (nle rfl) (by decide) (by decide) ?_
  rintro v w' ⟨rfl, rfl⟩
  unfold kOf at E
  cases ht : tOf s r with
  | none =>
    rw [ht] at E
    refine j_ifnull C rfl (fun _ => ?_) (fun a ha => by cases ha)
    exact j_aret C E rfl rfl (by decide) (by decide) ⟨rfl, rfl⟩
  | some i =>
    rw [ht] at E
    obtain ⟨ek, sf, hd, f, e0, -⟩ := R.aT (tOf_lt R.n40 ht)
    refine j_ifnull C rfl (fun h => by cases h) (fun a ha => ?_)
    refine j_get C rfl (fg_V_H_kind V) e0 rfl ?_
    refine j_icmp C rfl (fun h => ?_) (fun h => ?_)
    · exact j_aret C E rfl rfl (by decide) (by decide) ⟨rfl, by dsimp only; rw [if_neg (show ¬ tK (sT s i) = kd from h)]; rfl⟩
    · refine j_goto C rfl ?_
      exact j_aret C E rfl rfl (by decide) (by decide) ⟨rfl, by dsimp only; rw [if_pos (Classical.not_not.mp (show ¬ ¬ tK (sT s i) = kd from h))]⟩
end REFS
end
section
/-! make, and the wrappers. -/
def RM (w w' : fw_W) : Prop := ∀ a r, IsR w a r → IsR w' a r
theorem RM.rf {w : fw_W} : RM w w := fun _ _ h => h
theorem RM.tr {w w' w'' : fw_W} (h : RM w w') (h' : RM w' w'') : RM w w'' := fun a r q => h' a r (h a r q)
abbrev CX (s : St) (c c' : Cfg) : Prop := Cext (sN s) (sK s) c c'
abbrev newT (kd hm : Int32) (ow : Option Nat) : Th := (kd, hm, ow, fun _ => rN, rN, none, 0, 0, 0)
def make (s : St) (kd hm : Int32) (ow : Option Nat) : St × Option Nat := if sN s < 40 then ((sN s + 1, va_up (sT s) (sN s) (newT kd hm ow), s.2.2), some (sN s)) else (s, none)
theorem Rp.setT {w : fw_W} {c : Cfg} {s : St} (R : Rp w c s) {i : Nat} (hi : i < sN s) {t : Th} {sf hd : Nat} (h0 : okT (sN s) t) (h1 : IsR w sf (2, nI i)) (h2 : IsR w hd (tD t)) (h3 : tS t = tS (sT s i)) : Rp (va_up w (cT c i) (some (cellT c i t sf hd))) c (sN s, va_up (sT s) i t, s.2.2) := by
  obtain ⟨bh, lf, R, h⟩ := R
  exact ⟨bh, lf, R.setT hi h0 h1 h2 h3, h⟩
theorem nT_ref {c : Cfg} {i : Nat} {t : Th} {sf hd : Nat} : ∀ l, cellT c i t sf hd ≠ .inr (kR, l) := fun l h => by simp [cellT, kT, kR] at h
theorem nM_ref {c : Cfg} {j : Nat} {m : Ms} {b an : Option Nat} {pr tg ar : Nat} : ∀ l, cellM c j m b pr tg ar an ≠ .inr (kR, l) := fun l h => by simp [cellM, kM, kR] at h
theorem RM.up {w : fw_W} {a : Nat} {e : fw_E} {y : Option fw_E} (ha : w a = some e) (hne : ∀ l, e ≠ .inr (kR, l)) : RM w (va_up w a y) := fun _ _ h => h.up ha hne
theorem RM.new {w : fw_W} {q : Nat} {e : fw_E} (hq : w q = none) : RM w (va_up w q (some e)) := fun _ _ h => h.new hq
section MAKE
variable {T : fw_T} {w : fw_W} {c : Cfg} {s : St}
set_option maxHeartbeats 2000000 in
theorem m_V_make (l : Launch) (hT : TOK T) (R : Rp w c s) (kd hm : Int32) (ow : Option Nat) (how : ∀ i, ow = some i → i < sN s) : Ct l T y_V_make W_V_make rm_V_make [.inr (some (cO c)), .inl kd, .inl hm, .inr (ow.map (cT c))] w (fun v w' => ∃ c', CX s c c' ∧ v = some (.inr ((make s kd hm ow).2.map (cT c'))) ∧ Rp w' c' (make s kd hm ow).1 ∧ RM w w') := by
  refine ct_V_make rfl (nle rfl) ?_
  intro X hl C E
  have V := hv_V_make hT
  have hn := R.n40
  refine j_get C rfl (fg_V_V_thingCount V) R.o rfl ?_
  by_cases h40 : sN s < 40
  · refine j_icmpT C rfl (fw_cb_iff.mpr (show nI (sN s) < nI 40 from nI_lt h40 (by decide))) ?_
    refine j_new C rfl (fn_V_H V) (by decide) (by decide) (fun q hq => ?_)
    refine j_get C rfl (fg_V_V_thingCount V) (up_new R.o hq) rfl ?_
    refine j_get C rfl (fg_V_V_nothing V) (up_new R.o hq) rfl ?_
    refine j_callI C rfl (fc_V_H_init V (by decide)) (m_H_init _ hT (x := nI (sN s)) (kd := kd) (hm := hm) (ow := ow.map (cT c)) (va_up_self _ _ _) (R.nothing.new hq)) rfl rfl (nle rfl) (by decide) (by decide) ?_
    rintro r w1 ⟨rfl, qs, sf, f, hqs, hm1, hb, hs, hf, hsf⟩
    have hmono : ∀ a e, w a = some e → w1 a = some e := fun a e h => hm1 a e (ne_new h hq) (up_new h hq)
    have hqs0 : w qs = none := by
      cases h : w qs with
      | none => rfl
      | some e => rw [up_new h hq] at hqs; cases hqs
    obtain ⟨bh, lf, R, hL, hW⟩ := R
    have hN := R.2.1
    have RK := R.mono hmono
    refine j_get C rfl (fg_V_V_things V) RK.1 rfl ?_
    refine j_get C rfl (fg_V_V_thingCount V) RK.1 rfl ?_
    refine j_aastI C rfl RK.2.2.2.1 hT.2.2.1 (sN s) rfl h40 (by decide) (put_obj hT hb rfl) ?_
    have hcTA : (Sum.inl (aT, 40, Sum.inr (va_up (fun i => if i < sN s then some (cT c i) else none) (sN s) (some q))) : fw_E) = cellTA (cAddT c (sN s) q qs) (sN s + 1) := by
      unfold cellTA
      congr 4
      funext i
      by_cases h1 : i = sN s
      · subst h1
        rw [va_up_self, if_pos (by omega)]
        exact congrArg some (va_up_self _ _ _).symm
      · rw [va_up_ne _ _ h1]
        by_cases h2 : i < sN s
        · rw [if_pos h2, if_pos (by omega)]
          exact congrArg some (va_up_ne _ _ h1).symm
        · rw [if_neg h2, if_neg (by omega)]
    rw [hcTA]
    have o2 : va_up w1 (cTA c) (some (cellTA (cAddT c (sN s) q qs) (sN s + 1))) (cO c) = some (cellO c (sN s) (sK s)) := up_ne RK.2.2.2.1 RK.1 (by simp [cellTA, cellO])
    refine j_get C rfl (fg_V_V_thingCount V) o2 rfl ?_
    refine j_putE C rfl (fp_V_V_thingCount V) o2 (nlt rfl) (fit_i _) (cellO (cAddT c (sN s) q qs) (sN s + 1) (sK s)) (by unfold cellO; rw [← nI_1]; rfl) ?_
    have hct : cellT (cAddT c (sN s) q qs) (sN s) (newT kd hm ow) sf (cN c) = .inr (kT, [.inl (nI (sN s)), .inl kd, .inl hm, .inr (ow.map (cT c)), .inr (some sf), .inr (some qs), .inr (some (cN c)), .inr none, .inl 0, .inl 0, .inl 0]) := by
      have e1 : ow.map (cT (cAddT c (sN s) q qs)) = ow.map (cT c) := map_ext (fun x hx => va_up_ne _ _ (by have := how x hx; omega))
      have e2 : cS (cAddT c (sN s) q qs) (sN s) = qs := va_up_self _ _ _
      unfold cellT
      rw [e2, show tO (newT kd hm ow) = ow from rfl, e1]
      rfl
    have RP := RK.pushT h40 (t := newT kd hm ow) (q := q) (qs := qs) (sf := sf) (hd := cN c) (f := f) (by rw [hct]; exact hb) ⟨how, fun o h => by cases h⟩ hsf (hmono _ _ hN) hs (fun p hp => ⟨cN c, hf p hp, hmono _ _ hN⟩) (fun i hi e => by
      obtain ⟨_, _, _, _, _, _, _, g3, _⟩ := R.aT hi
      rw [e, hqs0] at g3
      cases g3)
    refine j_aret C E rfl rfl (by decide) (by decide) ⟨cAddT c (sN s) q qs, cAddT_ext q qs, ?_, ?_, ?_⟩
    · unfold make; rw [if_pos h40]; exact congrArg (fun z => some (Sum.inr (some z))) (va_up_self _ _ _).symm
    · unfold make; rw [if_pos h40]; exact ⟨bh, lf, RP, hL, hW⟩
    · exact fun a r h => ((show IsR w1 a r from hmono _ _ h).up RK.2.2.2.1 (fun l h => by simp [cellTA] at h)).up o2 (fun l h => by simp [cellO, kV, kR] at h)
  · refine j_icmp C rfl (fun h => absurd h (nI_nlt (show 40 ≤ sN s by omega) (by omega))) (fun _ => ?_)
    exact j_aret C E rfl rfl (by decide) (by decide) ⟨c, Cext.rf, by unfold make; rw [if_neg h40]; rfl, by unfold make; rw [if_neg h40]; exact R, RM.rf⟩
abbrev wrT (hm : Int32) (mb : Nat) (m : Rf) (inw : Int32) : Th := (10, hm, some mb, fun _ => rN, m, none, 0, inw, 0)
def mkW (s : St) (m : Rf) (mb : Nat) (inw : Int32) : St × Option Nat := if sN s < 40 then ((sN s + 1, va_up (sT s) (sN s) (wrT (tH (sT s mb)) mb m inw), s.2.2), some (sN s)) else (s, none)
theorem fit_z {x : Int32} (h : x = 0 ∨ x = 1) : fw_fit .boolean (.inl x) := by
  rcases h with rfl | rfl
  · exact fit_z0
  · exact fit_z1
set_option maxHeartbeats 2000000 in
theorem m_V_makeWrapper (l : Launch) (hT : TOK T) (R : Rp w c s) {a mb : Nat} {m : Rf} {inw : Int32} (ha : IsR w a m) (hmb : mb < sN s) (hz : inw = 0 ∨ inw = 1) : Ct l T y_V_makeWrapper W_V_makeWrapper rm_V_makeWrapper [.inr (some (cO c)), .inr (some a), .inr (some (cT c mb)), .inl inw] w (fun v w' => ∃ c', CX s c c' ∧ v = some (.inr ((mkW s m mb inw).2.map (cT c'))) ∧ Rp w' c' (mkW s m mb inw).1 ∧ RM w w') := by
  refine ct_V_makeWrapper rfl (nle rfl) ?_
  intro X hl C E
  have V := hv_V_makeWrapper hT
  obtain ⟨ek, sf, hd, f, e0, -⟩ := R.aT hmb
  refine j_get C rfl (fg_V_H_home V) e0 rfl ?_
  refine j_callV C rfl (fc_V_V_make V (by decide)) (m_V_make _ hT R 10 (tH (sT s mb)) (some mb) (fun i h => by cases h; exact hmb)) rfl rfl R.o (by rw [hT.1]; rfl) (nle rfl) (by decide) (by decide) ?_
  rintro v w1 ⟨c', hc, rfl, R1, hrm⟩
  unfold make at R1 ⊢
  by_cases h40 : sN s < 40
  · rw [if_pos h40] at R1 ⊢
    refine j_ifnull C rfl (fun h => by cases h) (fun _ _ => ?_)
    obtain ⟨fk, sf', hd', f', g0, g1, g2, g3, g4⟩ := R1.aT (i := sN s) (Nat.lt_succ_self _)
    have hs : sT (sN s + 1, va_up (sT s) (sN s) (newT 10 (tH (sT s mb)) (some mb)), s.2.2) (sN s) = newT 10 (tH (sT s mb)) (some mb) := va_up_self _ _ _
    rw [hs] at g0
    refine j_putE C rfl (fp_V_H_held V) g0 (nlt rfl) (fit_o _ _) (cellT c' (sN s) (10, tH (sT s mb), some mb, fun _ => rN, m, none, 0, 0, 0) sf' a) rfl ?_
    refine j_putE C rfl (fp_V_H_inward V) (va_up_self _ _ _) (nlt rfl) (fit_z hz) (cellT c' (sN s) (wrT (tH (sT s mb)) mb m inw) sf' a) rfl ?_
    rw [bx_uu]
    have R2 := R1.setT (i := sN s) (Nat.lt_succ_self _) (t := wrT (tH (sT s mb)) mb m inw) (sf := sf') (hd := a) ⟨fun o h => by cases h; exact Nat.lt_succ_of_lt hmb, fun o h => by cases h⟩ g1 (hrm a m ha) (by rw [hs])
    refine j_aret C E rfl rfl (by decide) (by decide) ⟨c', hc, ?_, ?_, hrm.tr (RM.up g0 nT_ref)⟩
    · unfold mkW; rw [if_pos h40]
    · unfold mkW; rw [if_pos h40]
      have e : va_up (sT (sN s + 1, va_up (sT s) (sN s) (newT 10 (tH (sT s mb)) (some mb)), s.2.2)) (sN s) (wrT (tH (sT s mb)) mb m inw) = va_up (sT s) (sN s) (wrT (tH (sT s mb)) mb m inw) := bx_uu _ _ _ _
      rw [e] at R2
      exact R2
  · rw [if_neg h40] at R1 ⊢
    refine j_ifnull C rfl (fun _ => ?_) (fun a ha => by cases ha)
    exact j_aret C E rfl rfl (by decide) (by decide) ⟨c', hc, by unfold mkW; rw [if_neg h40], by unfold mkW; rw [if_neg h40]; exact R1, hrm⟩
end MAKE
end
section
/-! findWrapper, wrap. -/
def isW (s : St) (m : Rf) (mb : Nat) (inw : Int32) (i : Nat) : Bool := decide (tK (sT s i) = 10 ∧ tO (sT s i) = some mb ∧ tI (sT s i) = inw ∧ cnt s (tD (sT s i)) = m)
/-- the first of n - d, .., n - 1 with P -/
def fFrom (P : Nat → Bool) (n : Nat) : Nat → Option Nat
  | 0 => none
  | d + 1 => if P (n - (d + 1)) = true then some (n - (d + 1)) else fFrom P n d
def findW (s : St) (m : Rf) (mb : Nat) (inw : Int32) : Option Nat := fFrom (isW s m mb inw) (sN s) (sN s)
theorem fFrom_lt {P : Nat → Bool} {n : Nat} : ∀ {d i : Nat}, d ≤ n → fFrom P n d = some i → i < n ∧ P i = true
  | 0, _, _, h => by cases h
  | d + 1, i, hd, h => by
    unfold fFrom at h
    by_cases hp : P (n - (d + 1)) = true
    · rw [if_pos hp] at h; cases h; exact ⟨by omega, hp⟩
    · rw [if_neg hp] at h; exact fFrom_lt (by omega) h
/-- wrapping -/
def wrapS (s : St) (r : Rf) (mb : Nat) (inw : Int32) : St × Rf :=
  if (cnt s r).1 = 2 ∨ (cnt s r).1 = 3 then
    match (match kOf s 10 (cnt s r) with | some i => if tO (sT s i) = some mb then some i else none | none => none) with
    | some i => (s, if tI (sT s i) = inw then cnt s r else tD (sT s i))
    | none => match findW s (cnt s r) mb inw with
      | some i => (s, (2, nI i))
      | none => ((mkW s (cnt s r) mb inw).1, rTo (mkW s (cnt s r) mb inw).2)
  else (s, cnt s r)
section WRAP
variable {T : fw_T} {w : fw_W} {c : Cfg} {s : St}
theorem ow_iff (R : Rp w c s) {i mb : Nat} (hi : i < sN s) (hmb : mb < sN s) : (tO (sT s i)).map (cT c) = some (cT c mb) ↔ tO (sT s i) = some mb := by
  obtain ⟨ek, -⟩ := R.aT hi
  constructor
  · intro h
    cases ho : tO (sT s i) with
    | none => rw [ho] at h; cases h
    | some o =>
      rw [ho] at h
      have h1 : cT c o = cT c mb := Option.some.inj h
      obtain ⟨bh, lf, R, -⟩ := R
      rw [R.tinj (ek.1 o ho) hmb h1]
  · intro h; rw [h]; rfl
set_option maxHeartbeats 2000000 in
theorem m_V_findWrapper (l : Launch) (hT : TOK T) (R : Rp w c s) {a mb : Nat} {m : Rf} {inw : Int32} (ha : IsR w a m) (hmb : mb < sN s) : Ct l T y_V_findWrapper W_V_findWrapper rm_V_findWrapper [.inr (some (cO c)), .inr (some a), .inr (some (cT c mb)), .inl inw] w (fun v w' => w' = w ∧ v = some (.inr ((findW s m mb inw).map (cT c)))) := by
  refine ct_V_findWrapper rfl (nle rfl) ?_
  intro X hl C E
  have V := hv_V_findWrapper hT
  have hn := R.n40
  have loop : ∀ (d p : Nat) (z5 z6 : Option fw_V), p + d = sN s → fFrom (isW s m mb inw) (sN s) d = findW s m mb inw → J T G_V_findWrapper X 3 [some (.inr (some (cO c))), some (.inr (some a)), some (.inr (some (cT c mb))), some (.inl inw), some (.inl (nI p)), z5, z6] [] w 0 0 := by
    intro d
    induction d with
    | zero =>
      intro p z5 z6 hp hq
      have hp : p = sN s := by omega
      subst hp
      refine j_get C rfl (fg_V_V_thingCount V) R.o rfl ?_
      refine j_icmpT C rfl (fw_cb_iff.mpr (nI_le (Nat.le_refl _) (by omega))) ?_
      exact j_aret C E rfl rfl (by decide) (by decide) ⟨rfl, by rw [← hq]; rfl⟩
    | succ d ih =>
      intro p z5 z6 hp hq
      have hpn : p < sN s := by omega
      have hpd : sN s - (d + 1) = p := by omega
      unfold fFrom at hq
      rw [hpd] at hq
      refine j_get C rfl (fg_V_V_thingCount V) R.o rfl ?_
      refine j_icmp C rfl (fun h => absurd h (nI_ge hpn (by omega))) (fun _ => ?_)
      refine j_callV C rfl (fc_V_V_thingAt V (by decide)) (m_V_thingAt _ hT R (nI p)) rfl rfl R.o (by rw [hT.1]; rfl) (nle rfl) (by decide) (by decide) ?_
      rintro v w' ⟨rfl, rfl⟩
      rw [ixO_some (by omega) hpn]
      obtain ⟨ek, sf, hd, f, e0, e1, e2, -⟩ := R.aT hpn
      have next : isW s m mb inw p = false → ∀ z6, J T G_V_findWrapper X 84 [some (.inr (some (cO c))), some (.inr (some a)), some (.inr (some (cT c mb))), some (.inl inw), some (.inl (nI p)), some (.inr (some (cT c p))), z6] [] w' 0 0 := fun hf z6 => by
        rw [hf, if_neg (by decide)] at hq
        refine j_goto C rfl ?_
        have := ih (p + 1) (some (.inr (some (cT c p)))) z6 (by omega) hq
        rw [nI_succ] at this
        exact this
      refine j_ifnull C rfl (fun h => by cases h) (fun _ _ => ?_)
      refine j_get C rfl (fg_V_H_kind V) e0 rfl ?_
      refine j_icmp C rfl (fun h => ?_) (fun h => ?_)
      · refine j_to C 51 rfl ?_
        refine j_ifT C rfl (by decide) ?_
        exact next (decide_eq_false (fun q => h q.1)) _
      have hk : tK (sT s p) = 10 := Classical.not_not.mp h
      refine j_get C rfl (fg_V_H_owner V) e0 rfl ?_
      refine j_acmp C rfl (fun h => ?_) (fun h => ?_)
      · refine j_to C 51 rfl ?_
        refine j_ifT C rfl (by decide) ?_
        exact next (decide_eq_false (fun q => h ((ow_iff R hpn hmb).mpr q.2.1))) _
      have ho : tO (sT s p) = some mb := (ow_iff R hpn hmb).mp (Classical.not_not.mp h)
      refine j_goto C rfl ?_
      refine j_ifF C rfl (by decide) ?_
      refine j_get C rfl (fg_V_H_inward V) e0 rfl ?_
      refine j_icmp C rfl (fun h => ?_) (fun h => ?_)
      · exact next (decide_eq_false (fun q => h q.2.2.1)) _
      have hin : tI (sT s p) = inw := Classical.not_not.mp h
      refine j_get C rfl (fg_V_H_held V) e0 rfl ?_
      refine j_callV C rfl (fc_V_V_countsAs V (by decide)) (m_V_countsAs _ hT R e2) rfl rfl R.o (by rw [hT.1]; rfl) (nle rfl) (by decide) (by decide) ?_
      rintro v w' ⟨rfl, b, rfl, hb⟩
      refine j_callV C rfl (fc_V_R_isSame V (by decide)) (m_R_isSame _ hT hb ha) rfl rfl hb (by rw [hT.1]; rfl) (nle rfl) (by decide) (by decide) ?_
      rintro v w' ⟨rfl, rfl⟩
      by_cases hs : cnt s (tD (sT s p)) = m
      · rw [if_pos hs]
        refine j_ifF C rfl (by decide) ?_
        have hW : isW s m mb inw p = true := decide_eq_true ⟨hk, ho, hin, hs⟩
        rw [if_pos hW] at hq
        exact j_aret C E rfl rfl (by decide) (by decide) ⟨rfl, by rw [← hq]⟩
      · rw [if_neg hs]
        refine j_ifT C rfl (by decide) ?_
        exact next (decide_eq_false (fun q => hs q.2.2.2)) _
  refine j_to C 3 rfl ?_
  exact loop (sN s) 0 none none (by omega) rfl
set_option maxHeartbeats 2000000 in
theorem m_V_wrap (l : Launch) (hT : TOK T) (R : Rp w c s) {a mb : Nat} {r : Rf} {inw : Int32} (ha : IsR w a r) (hmb : mb < sN s) (hz : inw = 0 ∨ inw = 1) : Ct l T y_V_wrap W_V_wrap rm_V_wrap [.inr (some (cO c)), .inr (some a), .inr (some (cT c mb)), .inl inw] w (fun v w' => ∃ c' b, CX s c c' ∧ v = some (.inr (some b)) ∧ IsR w' b (wrapS s r mb inw).2 ∧ Rp w' c' (wrapS s r mb inw).1 ∧ RM w w') := by
  refine ct_V_wrap rfl (nle rfl) ?_
  intro X hl C E
  have V := hv_V_wrap hT
  have hn := R.n40
  refine j_callV C rfl (fc_V_V_countsAs V (by decide)) (m_V_countsAs _ hT R ha) rfl rfl R.o (by rw [hT.1]; rfl) (nle rfl) (by decide) (by decide) ?_
  rintro v w' ⟨rfl, b, rfl, hb⟩
  have rest : ((cnt s r).1 = 2 ∨ (cnt s r).1 = 3) → J T G_V_wrap X 28 [some (.inr (some (cO c))), some (.inr (some a)), some (.inr (some (cT c mb))), some (.inl inw), some (.inr (some b)), none, none] [] w' 0 0 := by
    intro h23
    refine j_callV C rfl (fc_V_V_thingOfKind V (by decide)) (m_V_thingOfKind _ hT R 10 hb) rfl rfl R.o (by rw [hT.1]; rfl) (nle rfl) (by decide) (by decide) ?_
    rintro v w' ⟨rfl, rfl⟩
    have find : ∀ (z : Option Nat), (match kOf s 10 (cnt s r) with | some i => if tO (sT s i) = some mb then some i else none | none => none) = none → J T G_V_wrap X 72 [some (.inr (some (cO c))), some (.inr (some a)), some (.inr (some (cT c mb))), some (.inl inw), some (.inr (some b)), some (.inr z), none] [] w' 0 0 := by
      intro z hnone
      refine j_callV C rfl (fc_V_V_findWrapper V (by decide)) (m_V_findWrapper _ hT R (inw := inw) hb hmb) rfl rfl R.o (by rw [hT.1]; rfl) (nle rfl) (by decide) (by decide) ?_
      rintro v w' ⟨rfl, rfl⟩
      cases hf : findW s (cnt s r) mb inw with
      | some i =>
        have hi : i < sN s := (fFrom_lt (Nat.le_refl _) hf).1
        refine j_ifnn C rfl (fun _ _ => ?_) (fun h => by cases h)
        refine j_callV C rfl (fc_V_V_referenceTo V (by decide)) (m_V_referenceTo _ hT R (o := some i) (fun x h => by cases h; exact hi)) rfl rfl R.o (by rw [hT.1]; rfl) (nle rfl) (by decide) (by decide) ?_
        rintro v w' ⟨rfl, b', rfl, hb'⟩
        have e : wrapS s r mb inw = (s, (2, nI i)) := by unfold wrapS; rw [if_pos h23, hnone, hf]
        rw [e] at E
        exact j_aret C E rfl rfl (by decide) (by decide) ⟨c, b', Cext.rf, rfl, hb', R, RM.rf⟩
      | none =>
        refine j_ifnn C rfl (fun _ h => by cases h) (fun _ => ?_)
        refine j_callV C rfl (fc_V_V_makeWrapper V (by decide)) (m_V_makeWrapper _ hT R hb hmb hz) rfl rfl R.o (by rw [hT.1]; rfl) (nle rfl) (by decide) (by decide) ?_
        rintro v w1 ⟨c', hc, rfl, R1, hrm⟩
        refine j_goto C rfl ?_
        have ho : cO c = cO c' := congrArg (fun z => z.1) hc.1.symm
        have e : wrapS s r mb inw = ((mkW s (cnt s r) mb inw).1, rTo (mkW s (cnt s r) mb inw).2) := by unfold wrapS; rw [if_pos h23, hnone, hf]
        rw [e] at E
        have hlt : ∀ x, (mkW s (cnt s r) mb inw).2 = some x → x < sN (mkW s (cnt s r) mb inw).1 := by
          intro x hx
          unfold mkW at hx ⊢
          by_cases h40 : sN s < 40
          · rw [if_pos h40] at hx ⊢; cases hx; exact Nat.lt_succ_self _
          · rw [if_neg h40] at hx; cases hx
        rw [ho]
        refine j_callV C rfl (fc_V_V_referenceTo V (by decide)) (m_V_referenceTo _ hT R1 hlt) rfl rfl R1.o (by rw [hT.1]; rfl) (nle rfl) (by decide) (by decide) ?_
        rintro v w' ⟨rfl, b', rfl, hb'⟩
        exact j_aret C E rfl rfl (by decide) (by decide) ⟨c', b', hc, rfl, hb', R1, hrm⟩
    cases hk : kOf s 10 (cnt s r) with
    | none =>
      refine j_ifnull C rfl (fun _ => ?_) (fun _ h => by cases h)
      exact find none (by rw [hk])
    | some i =>
      have hi : i < sN s := (kOf_lt hn hk).1
      obtain ⟨ek, sf, hd, f, e0, e1, e2, -⟩ := R.aT hi
      refine j_ifnull C rfl (fun h => by cases h) (fun _ _ => ?_)
      refine j_get C rfl (fg_V_H_owner V) e0 rfl ?_
      refine j_acmp C rfl (fun h => ?_) (fun h => ?_)
      · exact find _ (by rw [hk]; exact if_neg (fun q => h ((ow_iff R hi hmb).mpr q)))
      have ho : tO (sT s i) = some mb := (ow_iff R hi hmb).mp (Classical.not_not.mp h)
      have e : wrapS s r mb inw = (s, if tI (sT s i) = inw then cnt s r else tD (sT s i)) := by unfold wrapS; rw [if_pos h23, hk]; dsimp only; rw [if_pos ho]
      rw [e] at E
      refine j_get C rfl (fg_V_H_inward V) e0 rfl ?_
      refine j_icmp C rfl (fun h => ?_) (fun h => ?_)
      · refine j_get C rfl (fg_V_H_held V) e0 rfl ?_
        exact j_aret C E rfl rfl (by decide) (by decide) ⟨c, hd, Cext.rf, rfl, by dsimp only; rw [if_neg (show ¬ tI (sT s i) = inw from h)]; exact e2, R, RM.rf⟩
      · refine j_goto C rfl ?_
        exact j_aret C E rfl rfl (by decide) (by decide) ⟨c, b, Cext.rf, rfl, by dsimp only; rw [if_pos (Classical.not_not.mp (show ¬ ¬ tI (sT s i) = inw from h))]; exact hb, R, RM.rf⟩
  refine j_get C rfl (fg_V_R_sort V) hb rfl ?_
  refine j_icmp C rfl (fun h => rest (Or.inl h)) (fun h => ?_)
  refine j_get C rfl (fg_V_R_sort V) hb rfl ?_
  refine j_icmp C rfl (fun h => rest (Or.inr h)) (fun h' => ?_)
  have e : wrapS s r mb inw = (s, cnt s r) := by unfold wrapS; rw [if_neg (fun q => q.elim h h')]
  rw [e] at E
  exact j_aret C E rfl rfl (by decide) (by decide) ⟨c, b, Cext.rf, rfl, hb, R, RM.rf⟩
end WRAP
end
section
/-! takeOver, settle, route, routeAll. -/
section TKO
variable {T : fw_T} {c : Cfg} {n k : Nat} {th : Nat → Th} {ms : Nat → Ms}
set_option maxHeartbeats 1000000 in
theorem m_L_takeOver (l : Launch) (hT : TOK T) {w : fw_W} {ln : Nat → List Nat} (R : RepL w c n th k ms ln) {i j : Nat} (hi : i < 4 + k) (hj : j < 4 + k) (hij : i ≠ j) : Ct l T y_L_takeOver W_L_takeOver rm_L_takeOver [.inr (some (cL c i)), .inr (some (cL c j))] w (fun r w' => r = none ∧ RepL w' c n th k ms (va_up (va_up ln i (ln i ++ ln j)) j [])) := by
  refine ct_L_takeOver rfl (nle rfl) ?_
  intro X hl C E
  have V := hv_L_takeOver hT
  have loop : ∀ (rest : List Nat) (w : fw_W) (lm : Nat → List Nat) (z : Option fw_V), RepL w c n th k ms lm → lm j = rest → va_up (va_up lm i (lm i ++ rest)) j [] = va_up (va_up ln i (ln i ++ ln j)) j [] → J T G_L_takeOver X 5 [some (.inr (some (cL c i))), some (.inr (some (cL c j))), some (.inl (nI rest.length)), z] [] w 0 0 := by
    intro rest
    induction rest with
    | nil =>
      intro w lm z R hr he
      refine j_ifT C rfl (by decide) ?_
      have e2 : va_up (va_up lm i (lm i ++ [])) j [] = lm := by
        rw [List.append_nil, va_up_same]
        exact va_up_eq hr
      rw [e2] at he
      exact j_vret C E rfl rfl (by decide) (by decide) ⟨rfl, by rw [← he]; exact R⟩
    | cons m rest ih =>
      intro w lm z R hr he
      have hLW : LnW k lm := by obtain ⟨_, _, _, _, hW⟩ := R; exact hW
      have hlen : (m :: rest).length < 2 ^ 31 := by
        have := ln_len (hLW.1 j) (fun x hx => hLW.2.1 j x hx)
        rw [hr] at this
        have hk : k ≤ 200 := by obtain ⟨_, _, R, _⟩ := R; exact R.k200
        omega
      have hmk : m < k := hLW.2.1 j m (by rw [hr]; exact List.mem_cons_self)
      have g : ∃ lf0 : Lf, w (cL c j) = some (cellL c lf0) := by obtain ⟨_, lf, R, _⟩ := R; exact ⟨_, (R.aL hj).1⟩
      obtain ⟨lf0, g⟩ := g
      refine j_if C rfl (fun h => absurd h (nI_nle (Nat.succ_pos _) hlen)) (fun _ => ?_)
      refine j_callV C rfl (fc_L_L_take V (by decide)) (m_L_take _ hT R hj hr) rfl rfl g (by rw [hT.1]; rfl) (nle rfl) (by decide) (by decide) ?_
      rintro v w1 ⟨rfl, R1⟩
      refine j_ifnull C rfl (fun h => by cases h) (fun _ _ => ?_)
      have g1 : ∃ lf0 : Lf, w1 (cL c i) = some (cellL c lf0) := by obtain ⟨_, lf, R, _⟩ := R1; exact ⟨_, (R.aL hi).1⟩
      obtain ⟨lf1, g1⟩ := g1
      refine j_callV C rfl (fc_L_L_join V (by decide)) (m_L_join _ hT R1 hi hmk (hLW.take hr).2) rfl rfl g1 (by rw [hT.1]; rfl) (nle rfl) (by decide) (by decide) ?_
      rintro v w2 ⟨rfl, R2⟩
      refine j_goto C rfl ?_
      have hli : va_up lm j rest i = lm i := va_up_ne _ _ hij
      rw [hli] at R2
      have := ih w2 _ (some (.inr (some (cM c m)))) R2 (by rw [va_up_ne _ _ hij.symm, va_up_self]) (by
        rw [← he]
        funext q
        by_cases h1 : q = j
        · subst h1; rw [va_up_self, va_up_self]
        · rw [va_up_ne _ _ h1, va_up_ne _ _ h1]
          by_cases h2 : q = i
          · subst h2; rw [va_up_self, va_up_self, va_up_self, List.append_assoc]; rfl
          · rw [va_up_ne _ _ h2, va_up_ne _ _ h2, va_up_ne _ _ h2, va_up_ne _ _ h1])
      have e : nI (m :: rest).length + -1 = nI rest.length := pk_m1 _
      rw [← e] at this
      exact this
  have g : ∃ lf : Nat → Lf, w (cL c j) = some (cellL c (lf j)) ∧ (lf j).2.2 = nI (ln j).length := by
    obtain ⟨_, lf, R, hL, _⟩ := R
    exact ⟨lf, (R.aL hj).1, by rw [(hL j hj).1]⟩
  obtain ⟨lf, g, g2⟩ := g
  refine j_get C rfl (fg_L_L_length V) g rfl ?_
  refine j_to C 5 rfl ?_
  rw [g2]
  exact loop (ln j) w ln none R rfl rfl
end TKO
/-- the message's answer and place -/
abbrev mAns (m : Ms) (a : Rf) : Ms := (mV m, mT m, mA m, some a, 0, mW m)
abbrev mPl (m : Ms) (p : Int32) : Ms := (mV m, mT m, mA m, mN m, p, mW m)
def ansS (s : St) (j : Nat) (r : Rf) : Rf := if aOf s r = some j then rB else bN r
def settleS (s : St) (j : Nat) (r : Rf) : St := (sN s, sT s, sK s, va_up (sM s) j (mAns (sM s j) (ansS s j r)), va_up (va_up (sL s) 3 (sL s 3 ++ sL s (4 + j))) (4 + j) [])
def routeS (s : St) (j : Nat) : St := match tOf s (mT (sM s j)) with
  | some i => (sN s, sT s, sK s, va_up (sM s) j (mPl (sM s j) 1), va_up (sL s) (tH (sT s i)).toNatClampNeg (sL s (tH (sT s i)).toNatClampNeg ++ [j]))
  | none => match aOf s (mT (sM s j)) with
    | some x => (sN s, sT s, sK s, va_up (sM s) j (mPl (sM s j) 2), va_up (sL s) (4 + x) (sL s (4 + x) ++ [j]))
    | none => settleS s j rB
def rAll : Nat → St → St
  | 0, s => s
  | f + 1, s => match sL s 3 with
    | [] => s
    | j :: r => rAll f (routeS (sN s, sT s, sK s, sM s, va_up (sL s) 3 r) j)
def hmOK (s : St) : Prop := ∀ i, i < sN s → ∃ h, h < 3 ∧ tH (sT s i) = nI h
section RTE
variable {T : fw_T} {w : fw_W} {c : Cfg} {s : St}
theorem aw_iff (R : Rp w c s) {j : Nat} (hj : j < sK s) {o : Option Nat} (ho : ∀ x, o = some x → x < sK s) : o.map (cM c) = some (cM c j) ↔ o = some j := by
  constructor
  · intro h
    cases o with
    | none => cases h
    | some x =>
      have h1 : cM c x = cM c j := Option.some.inj h
      obtain ⟨bh, lf, R, -⟩ := R
      rw [R.minj (ho x rfl) hj h1]
  · intro h; rw [h]; rfl
set_option maxHeartbeats 2000000 in
theorem m_V_settle (l : Launch) (hT : TOK T) (R : Rp w c s) {j a : Nat} {r : Rf} (hj : j < sK s) (ha : IsR w a r) : Ct l T y_V_settle W_V_settle rm_V_settle [.inr (some (cO c)), .inr (some (cM c j)), .inr (some a)] w (fun v w' => v = none ∧ Rp w' c (settleS s j r)) := by
  refine ct_V_settle rfl (nle rfl) ?_
  intro X hl C E
  have V := hv_V_settle hT
  have fin : ∀ b, IsR w b (ansS s j r) → J T G_V_settle X 22 [some (.inr (some (cO c))), some (.inr (some (cM c j))), some (.inr (some a))] [.inr (some b), .inr (some (cM c j))] w 0 0 := by
    intro b hb
    obtain ⟨bh, lf, RK, hL, hW⟩ := R
    obtain ⟨ek, pr, tg, ar, an, e0, e1, e2, e3, e4, e5⟩ := RK.aM hj
    refine j_putE C rfl (fp_V_M_answer V) e0 (nlt rfl) (fit_o _ _) (cellM c j (mV (sM s j), mT (sM s j), mA (sM s j), some (ansS s j r), mP (sM s j), mW (sM s j)) (bh j) pr tg ar (some b)) rfl ?_
    refine j_putE C rfl (fp_V_M_place V) (va_up_self _ _ _) (nlt rfl) (fit_i _) (cellM c j (mAns (sM s j) (ansS s j r)) (bh j) pr tg ar (some b)) rfl ?_
    rw [bx_uu]
    have R1 := RK.setM hj (m := mAns (sM s j) (ansS s j r)) (b := bh j) (an := some b) ek e1 e2 e3 (Or.inr ⟨b, _, rfl, rfl, hb⟩) rfl
    rw [va_up_same bh] at R1
    have R2 : RepL _ c (sN s) (sT s) (sK s) (va_up (sM s) j (mAns (sM s j) (ansS s j r))) (sL s) := ⟨bh, lf, R1, hL, hW⟩
    refine j_get C rfl (fg_V_V_unrouted V) R1.1 rfl ?_
    refine j_get C rfl (fg_V_M_waiters V) (va_up_self _ _ _) rfl ?_
    refine j_callV C rfl (fc_V_L_takeOver V (by decide)) (m_L_takeOver _ hT R2 (i := 3) (j := 4 + j) (by omega) (by omega) (by omega)) rfl rfl (R1.aL (i := 3) (by omega)).1 (by rw [hT.1]; rfl) (nle rfl) (by decide) (by decide) ?_
    rintro v w' ⟨rfl, R3⟩
    exact j_vret C E rfl rfl (by decide) (by decide) ⟨rfl, R3⟩
  refine j_callV C rfl (fc_V_V_awaitedBy V (by decide)) (m_V_awaitedBy _ hT R ha) rfl rfl R.o (by rw [hT.1]; rfl) (nle rfl) (by decide) (by decide) ?_
  rintro v w' ⟨rfl, rfl⟩
  refine j_acmp C rfl (fun h => ?_) (fun h => ?_)
  · have hne : ¬ aOf s r = some j := fun q => h ((aw_iff R hj (fun x hx => aOf_lt R.k200 hx)).mpr q)
    refine j_callV C rfl (fc_V_V_brokenIfNothing V (by decide)) (m_V_brokenIfNothing _ hT R ha) rfl rfl R.o (by rw [hT.1]; rfl) (nle rfl) (by decide) (by decide) ?_
    rintro v w' ⟨rfl, b, rfl, hb⟩
    exact fin b (by unfold ansS; rw [if_neg hne]; exact hb)
  · have heq : aOf s r = some j := (aw_iff R hj (fun x hx => aOf_lt R.k200 hx)).mp (Classical.not_not.mp h)
    refine j_get C rfl (fg_V_V_broken V) R.o rfl ?_
    refine j_goto C rfl ?_
    exact fin _ (by unfold ansS; rw [if_pos heq]; exact R.broken)
set_option maxHeartbeats 2000000 in
theorem m_V_route (l : Launch) (hT : TOK T) (R : Rp w c s) (hH : hmOK s) {j : Nat} (hj : j < sK s) (hn : ∀ q, j ∉ sL s q) : Ct l T y_V_route W_V_route rm_V_route [.inr (some (cO c)), .inr (some (cM c j))] w (fun v w' => v = none ∧ Rp w' c (routeS s j)) := by
  refine ct_V_route rfl (nle rfl) ?_
  intro X hl C E
  have V := hv_V_route hT
  obtain ⟨bh, lf, RK, hL, hW⟩ := id R
  obtain ⟨ek, pr, tg, ar, an, e0, e1, e2, e3, e4, e5⟩ := RK.aM hj
  refine j_get C rfl (fg_V_M_target V) e0 rfl ?_
  refine j_callV C rfl (fc_V_V_thingOf V (by decide)) (m_V_thingOf _ hT R e2) rfl rfl R.o (by rw [hT.1]; rfl) (nle rfl) (by decide) (by decide) ?_
  rintro v w' ⟨rfl, rfl⟩
  refine j_get C rfl (fg_V_M_target V) e0 rfl ?_
  refine j_callV C rfl (fc_V_V_awaitedBy V (by decide)) (m_V_awaitedBy _ hT R e2) rfl rfl R.o (by rw [hT.1]; rfl) (nle rfl) (by decide) (by decide) ?_
  rintro v w' ⟨rfl, rfl⟩
  cases ht : tOf s (mT (sM s j)) with
  | some i =>
    have hi : i < sN s := tOf_lt R.n40 ht
    obtain ⟨h, h3, hh⟩ := hH i hi
    refine j_ifnull C rfl (fun h => by cases h) (fun _ _ => ?_)
    refine j_putE C rfl (fp_V_M_place V) e0 (nlt rfl) (fit_i _) (cellM c j (mPl (sM s j) 1) (bh j) pr tg ar an) rfl ?_
    have R1 := RK.setM hj (m := mPl (sM s j) 1) (b := bh j) (an := an) ek e1 e2 e3 e4 rfl
    rw [va_up_same bh] at R1
    have R2 : RepL _ c (sN s) (sT s) (sK s) (va_up (sM s) j (mPl (sM s j) 1)) (sL s) := ⟨bh, lf, R1, hL, hW⟩
    refine j_get C rfl (fg_V_V_queues V) R1.1 rfl ?_
    obtain ⟨gk, sf, hd, f, g0, -⟩ := R1.aT hi
    refine j_get C rfl (fg_V_H_home V) g0 rfl ?_
    obtain ⟨f', q1, q2⟩ := R1.2.2.2.2.2.1
    refine j_aaldI C rfl q1 hT.2.2.2.2.1 h hh h3 (by decide) ?_
    rw [q2 h h3]
    refine j_callV C rfl (fc_V_L_join V (by decide)) (m_L_join _ hT R2 (i := h) (m := j) (by omega) hj hn) rfl rfl (R1.aL (i := h) (by omega)).1 (by rw [hT.1]; rfl) (nle rfl) (by decide) (by decide) ?_
    rintro v w' ⟨rfl, R3⟩
    refine j_goto C rfl ?_
    have hcl : (tH (sT s i)).toNatClampNeg = h := by rw [hh]; exact nI_clamp (by omega)
    exact j_vret C E rfl rfl (by decide) (by decide) ⟨rfl, by unfold routeS; rw [ht]; dsimp only; rw [hcl]; exact R3⟩
  | none =>
    refine j_ifnull C rfl (fun _ => ?_) (fun _ h => by cases h)
    cases hx : aOf s (mT (sM s j)) with
    | some x =>
      have hxk : x < sK s := aOf_lt R.k200 hx
      refine j_ifnull C rfl (fun h => by cases h) (fun _ _ => ?_)
      refine j_putE C rfl (fp_V_M_place V) e0 (nlt rfl) (fit_i _) (cellM c j (mPl (sM s j) 2) (bh j) pr tg ar an) rfl ?_
      have R1 := RK.setM hj (m := mPl (sM s j) 2) (b := bh j) (an := an) ek e1 e2 e3 e4 rfl
      rw [va_up_same bh] at R1
      have R2 : RepL _ c (sN s) (sT s) (sK s) (va_up (sM s) j (mPl (sM s j) 2)) (sL s) := ⟨bh, lf, R1, hL, hW⟩
      obtain ⟨gk, pr', tg', ar', an', g0, -⟩ := R1.aM hxk
      refine j_get C rfl (fg_V_M_waiters V) g0 rfl ?_
      refine j_callV C rfl (fc_V_L_join V (by decide)) (m_L_join _ hT R2 (i := 4 + x) (m := j) (by omega) hj hn) rfl rfl (R1.aL (i := 4 + x) (by omega)).1 (by rw [hT.1]; rfl) (nle rfl) (by decide) (by decide) ?_
      rintro v w' ⟨rfl, R3⟩
      refine j_goto C rfl ?_
      exact j_vret C E rfl rfl (by decide) (by decide) ⟨rfl, by unfold routeS; rw [ht, hx]; exact R3⟩
    | none =>
      refine j_ifnull C rfl (fun _ => ?_) (fun _ h => by cases h)
      refine j_get C rfl (fg_V_V_broken V) R.o rfl ?_
      refine j_callV C rfl (fc_V_V_settle V (by decide)) (m_V_settle _ hT R hj R.broken) rfl rfl R.o (by rw [hT.1]; rfl) (nle rfl) (by decide) (by decide) ?_
      rintro v w' ⟨rfl, R3⟩
      exact j_vret C E rfl rfl (by decide) (by decide) ⟨rfl, by unfold routeS; rw [ht, hx]; exact R3⟩
theorem routeS_st (s : St) (j : Nat) : sN (routeS s j) = sN s ∧ sT (routeS s j) = sT s ∧ sK (routeS s j) = sK s := by
  unfold routeS
  split
  · exact ⟨rfl, rfl, rfl⟩
  · split
    · exact ⟨rfl, rfl, rfl⟩
    · exact ⟨rfl, rfl, rfl⟩
theorem hmOK.of {s s' : St} (h : hmOK s) (h1 : sN s' = sN s) (h2 : sT s' = sT s) : hmOK s' := fun i hi => by rw [h2]; exact h i (by omega)
set_option maxHeartbeats 2000000 in
theorem m_V_routeAll (l : Launch) (hT : TOK T) (R : Rp w c s) (hH : hmOK s) : Ct l T y_V_routeAll W_V_routeAll rm_V_routeAll [.inr (some (cO c))] w (fun v w' => v = none ∧ Rp w' c (rAll 200 s)) := by
  refine ct_V_routeAll rfl (nle rfl) ?_
  intro X hl C E
  have V := hv_V_routeAll hT
  have loop : ∀ (d p : Nat) (w : fw_W) (s' : St) (z : Option fw_V), p + d = 200 → Rp w c s' → hmOK s' → rAll d s' = rAll 200 s → J T G_V_routeAll X 2 [some (.inr (some (cO c))), some (.inl (nI p)), z] [] w 0 0 := by
    intro d
    induction d with
    | zero =>
      intro p w s' z hp R hH hq
      have hp : p = 200 := by omega
      subst hp
      refine j_icmpT C rfl (by decide) ?_
      exact j_vret C E rfl rfl (by decide) (by decide) ⟨rfl, by rw [← hq]; exact R⟩
    | succ d ih =>
      intro p w s' z hp R hH hq
      refine j_icmp C rfl (fun h => absurd h (nI_ge (show p < 200 by omega) (by decide))) (fun _ => ?_)
      refine j_get C rfl (fg_V_V_unrouted V) R.o rfl ?_
      have g : ∃ lf0 : Lf, w (cL c 3) = some (cellL c lf0) := by obtain ⟨_, lf, R, _⟩ := R; exact ⟨_, (R.aL (i := 3) (by omega)).1⟩
      obtain ⟨lf0, g⟩ := g
      rw [show rAll (d + 1) s' = (match sL s' 3 with | [] => s' | j :: r => rAll d (routeS (sN s', sT s', sK s', sM s', va_up (sL s') 3 r) j)) from rfl] at hq
      cases hl3 : sL s' 3 with
      | nil =>
        rw [hl3] at hq
        refine j_callV C rfl (fc_V_L_take V (by decide)) (m_L_take0 _ hT R (i := 3) (by omega) hl3) rfl rfl g (by rw [hT.1]; rfl) (nle rfl) (by decide) (by decide) ?_
        rintro v w' ⟨rfl, rfl⟩
        refine j_ifnn C rfl (fun _ h => by cases h) (fun _ => ?_)
        exact j_vret C E rfl rfl (by decide) (by decide) ⟨rfl, by rw [← hq]; exact R⟩
      | cons j r =>
        rw [hl3] at hq
        have hLW : LnW (sK s') (sL s') := by obtain ⟨_, _, _, _, hW⟩ := R; exact hW
        have hjk : j < sK s' := hLW.2.1 3 j (by rw [hl3]; exact List.mem_cons_self)
        refine j_callV C rfl (fc_V_L_take V (by decide)) (m_L_take _ hT R (i := 3) (by omega) hl3) rfl rfl g (by rw [hT.1]; rfl) (nle rfl) (by decide) (by decide) ?_
        rintro v w1 ⟨rfl, R1⟩
        have R1 : Rp w1 c (sN s', sT s', sK s', sM s', va_up (sL s') 3 r) := R1
        refine j_ifnn C rfl (fun _ _ => ?_) (fun h => by cases h)
        refine j_callV C rfl (fc_V_V_route V (by decide)) (m_V_route _ hT R1 (hH.of rfl rfl) (j := j) hjk (hLW.take hl3).2) rfl rfl R1.o (by rw [hT.1]; rfl) (nle rfl) (by decide) (by decide) ?_
        rintro v w2 ⟨rfl, R2⟩
        refine j_goto C rfl ?_
        obtain ⟨h1, h2, h3⟩ := routeS_st (sN s', sT s', sK s', sM s', va_up (sL s') 3 r) j
        have := ih (p + 1) w2 _ (some (.inr (some (cM c j)))) (by omega) R2 (hH.of h1 h2) hq
        rw [nI_succ] at this
        exact this
  refine j_to C 2 rfl ?_
  exact loop 200 0 w s none rfl R hH rfl
end RTE
end
section
/-! What objects answer, by kind: the small ones. -/
abbrev upT (s : St) (i : Nat) (t : Th) : St := (sN s, va_up (sT s) i t, s.2.2)
abbrev tSetB (t : Th) (b : Int32) : Th := (tK t, tH t, tO t, tS t, tD t, tF t, tV t, tI t, b)
abbrev tSetV (t : Th) (v : Int32) : Th := (tK t, tH t, tO t, tS t, tD t, tF t, v, tI t, tB t)
def PA (w : fw_W) (c : Cfg) (s : St) (f : St × Rf) : Option fw_V → fw_W → Prop := fun v w' => ∃ c' b, CX s c c' ∧ v = some (.inr (some b)) ∧ IsR w' b f.2 ∧ Rp w' c' f.1 ∧ RM w w'
def isNumU (s : St) (most : Int32) (r : Rf) : Bool := decide ((cnt s r).1 = 1 ∧ ¬ (cnt s r).2 < 0 ∧ ¬ most < (cnt s r).2)
def mkR (s : St) (kd hm : Int32) (ow : Option Nat) : St × Rf := ((make s kd hm ow).1, rTo (make s kd hm ow).2)
def ansRev (s : St) (i : Nat) (v : Int32) : St × Rf := if v = 1 then (upT s i (tSetV (sT s i) 1), (1, 0)) else if v = 2 then (s, (1, tV (sT s i))) else (s, rB)
def ansBrand (s : St) (i : Nat) (v : Int32) : St × Rf := if v = 0 then mkR s 4 (tH (sT s i)) (some i) else if v = 1 then mkR s 5 (tH (sT s i)) (some i) else (s, rB)
def depositS (s : St) (i : Nat) (r : Rf) : St × Rf := match kOf s 8 r with
  | none => (s, rB)
  | some o => if o ≠ i ∧ tO (sT s o) = tO (sT s i) then (upT (upT s o (tSetB (sT s o) 0)) i (tSetB (sT s i) (tB (sT s i) + tB (sT s o))), (1, tB (sT s o))) else (s, rB)
def unsealS (s : St) (i : Nat) (r : Rf) : St × Rf := match kOf s 6 r with
  | none => (s, rB)
  | some o => if tO (sT s o) = tO (sT s i) then (s, bN (tD (sT s o))) else (s, rB)
theorem make_lt {s : St} {kd hm : Int32} {ow : Option Nat} : ∀ x, (make s kd hm ow).2 = some x → x < sN (make s kd hm ow).1 := by
  intro x hx
  unfold make at hx ⊢
  by_cases h40 : sN s < 40
  · rw [if_pos h40] at hx ⊢; cases hx; exact Nat.lt_succ_self _
  · rw [if_neg h40] at hx; cases hx
def rvOK (s : St) : Prop := ∀ i, i < sN s → (tV (sT s i) = 0 ∨ tV (sT s i) = 1) ∧ (tI (sT s i) = 0 ∨ tI (sT s i) = 1)
section ANS
variable {T : fw_T} {w : fw_W} {c : Cfg} {s : St}
theorem m_V_isNumberUpTo (l : Launch) (hT : TOK T) (R : Rp w c s) {a : Nat} {r : Rf} (most : Int32) (ha : IsR w a r) : Ct l T y_V_isNumberUpTo W_V_isNumberUpTo rm_V_isNumberUpTo [.inr (some (cO c)), .inl most, .inr (some a)] w (fun v w' => w' = w ∧ v = some (.inl (bI (isNumU s most r)))) := by
  refine ct_V_isNumberUpTo rfl (nle rfl) ?_
  intro X hl C E
  have V := hv_V_isNumberUpTo hT
  refine j_callV C rfl (fc_V_V_countsAs V (by decide)) (m_V_countsAs _ hT R ha) rfl rfl R.o (by rw [hT.1]; rfl) (nle rfl) (by decide) (by decide) ?_
  rintro v w' ⟨rfl, b, rfl, hb⟩
  refine j_get C rfl (fg_V_R_sort V) hb rfl ?_
  refine j_icmp C rfl (fun h => ?_) (fun h1 => ?_)
  · exact j_iret C E rfl (Or.inr ⟨rfl, Or.inl rfl⟩) (by decide) (by decide) ⟨rfl, by rw [show isNumU s most r = false from decide_eq_false (fun q => h q.1)]; rfl⟩
  refine j_get C rfl (fg_V_R_index V) hb rfl ?_
  refine j_if C rfl (fun h => ?_) (fun h2 => ?_)
  · exact j_iret C E rfl (Or.inr ⟨rfl, Or.inl rfl⟩) (by decide) (by decide) ⟨rfl, by rw [show isNumU s most r = false from decide_eq_false (fun q => q.2.1 h)]; rfl⟩
  refine j_get C rfl (fg_V_R_index V) hb rfl ?_
  refine j_icmp C rfl (fun h => ?_) (fun h3 => ?_)
  · exact j_iret C E rfl (Or.inr ⟨rfl, Or.inl rfl⟩) (by decide) (by decide) ⟨rfl, by rw [show isNumU s most r = false from decide_eq_false (fun q => q.2.2 h)]; rfl⟩
  refine j_goto C rfl ?_
  exact j_iret C E rfl (Or.inr ⟨rfl, Or.inr rfl⟩) (by decide) (by decide) ⟨rfl, by rw [show isNumU s most r = true from decide_eq_true ⟨Classical.not_not.mp h1, h2, h3⟩]; rfl⟩
theorem m_V_truth (l : Launch) (hT : TOK T) {x : Int32} (hx : x = 0 ∨ x = 1) : Ct l T y_V_truth W_V_truth rm_V_truth [.inl x] w (fun r w' => ∃ q, w q = none ∧ w' = va_up w q (some (.inr (kR, [.inl 1, .inl x]))) ∧ r = some (.inr (some q))) := by
  refine ct_V_truth rfl (nle rfl) ?_
  intro X hl C E
  have V := hv_V_truth hT
  rcases hx with rfl | rfl
  · refine j_ifT C rfl (by decide) ?_
    refine j_callS C rfl (fc_V_V_numeral V (by decide)) (m_V_numeral _ hT 0) rfl rfl (nle rfl) (by decide) (by decide) ?_
    rintro r w' ⟨q, hq, rfl, rfl⟩
    exact j_aret C E rfl rfl (by decide) (by decide) ⟨q, hq, rfl, rfl⟩
  · refine j_ifF C rfl (by decide) ?_
    refine j_goto C rfl ?_
    refine j_callS C rfl (fc_V_V_numeral V (by decide)) (m_V_numeral _ hT 1) rfl rfl (nle rfl) (by decide) (by decide) ?_
    rintro r w' ⟨q, hq, rfl, rfl⟩
    exact j_aret C E rfl rfl (by decide) (by decide) ⟨q, hq, rfl, rfl⟩
set_option maxHeartbeats 1000000 in
theorem m_V_answerOfRevocable (l : Launch) (hT : TOK T) (R : Rp w c s) (hV : rvOK s) {i : Nat} (hi : i < sN s) (v : Int32) : Ct l T y_V_answerOfRevocable W_V_answerOfRevocable rm_V_answerOfRevocable [.inr (some (cO c)), .inr (some (cT c i)), .inl v] w (PA w c s (ansRev s i v)) := by
  refine ct_V_answerOfRevocable rfl (nle rfl) ?_
  intro X hl C E
  have V := hv_V_answerOfRevocable hT
  obtain ⟨ek, sf, hd, f, e0, e1, e2, e3, e4⟩ := R.aT hi
  by_cases h1 : v = 1
  · subst h1
    refine j_lsw (tgt := 28) C rfl (by decide) (o := 27) (by decide) (by decide) ?_
    refine j_putE C rfl (fp_V_H_revoked V) e0 (nlt rfl) fit_z1 (cellT c i (tSetV (sT s i) 1) sf hd) rfl ?_
    have R1 := R.setT hi (t := tSetV (sT s i) 1) ek e1 e2 rfl
    have hrm : RM w _ := RM.up (y := some (cellT c i (tSetV (sT s i) 1) sf hd)) e0 nT_ref
    generalize va_up w (cT c i) (some (cellT c i (tSetV (sT s i) 1) sf hd)) = w1 at R1 hrm ⊢
    refine j_callS C rfl (fc_V_V_numeral V (by decide)) (m_V_numeral _ hT 0) rfl rfl (nle rfl) (by decide) (by decide) ?_
    rintro r w' ⟨q, hq, rfl, rfl⟩
    exact j_aret C E rfl rfl (by decide) (by decide) ⟨c, q, Cext.rf, rfl, va_up_self _ _ _, R1.grow hq, hrm.tr (RM.new hq)⟩
  by_cases h2 : v = 2
  · subst h2
    refine j_lsw (tgt := 38) C rfl (by decide) (o := 37) (by decide) (by decide) ?_
    refine j_get C rfl (fg_V_H_revoked V) e0 rfl ?_
    refine j_callS C rfl (fc_V_V_truth V (by decide)) (m_V_truth _ hT (hV i hi).1) rfl rfl (nle rfl) (by decide) (by decide) ?_
    rintro r w' ⟨q, hq, rfl, rfl⟩
    exact j_aret C E rfl rfl (by decide) (by decide) ⟨c, q, Cext.rf, rfl, va_up_self _ _ _, R.grow hq, RM.new hq⟩
  · refine j_lsw (tgt := 46) C rfl (by decide) (o := 45) (by show Op.lookupswitch.offset [(1, 27), (2, 37)] 45 v.toInt = 45; rw [lv_osw h1 (by decide), lv_osw h2 (by decide)]; rfl) (by decide) ?_
    refine j_get C rfl (fg_V_V_broken V) R.o rfl ?_
    exact j_aret C E rfl rfl (by decide) (by decide) ⟨c, _, Cext.rf, rfl, by unfold ansRev; rw [if_neg h1, if_neg h2]; exact R.broken, by unfold ansRev; rw [if_neg h1, if_neg h2]; exact R, RM.rf⟩
set_option maxHeartbeats 1000000 in
theorem m_V_answerOfBrand (l : Launch) (hT : TOK T) (R : Rp w c s) {i : Nat} (hi : i < sN s) (v : Int32) : Ct l T y_V_answerOfBrand W_V_answerOfBrand rm_V_answerOfBrand [.inr (some (cO c)), .inr (some (cT c i)), .inl v] w (PA w c s (ansBrand s i v)) := by
  refine ct_V_answerOfBrand rfl (nle rfl) ?_
  intro X hl C E
  have V := hv_V_answerOfBrand hT
  obtain ⟨ek, sf, hd, f, e0, -⟩ := R.aT hi
  have how : ∀ x, (some i : Option Nat) = some x → x < sN s := fun x h => by cases h; exact hi
  by_cases h1 : v = 0
  · subst h1
    refine j_lsw (tgt := 28) C rfl (by decide) (o := 27) (by decide) (by decide) ?_
    refine j_get C rfl (fg_V_H_home V) e0 rfl ?_
    refine j_callV C rfl (fc_V_V_make V (by decide)) (m_V_make _ hT R 4 (tH (sT s i)) (some i) how) rfl rfl R.o (by rw [hT.1]; rfl) (nle rfl) (by decide) (by decide) ?_
    rintro v w1 ⟨c', hc, rfl, R1, hrm⟩
    have ho : cO c = cO c' := congrArg (fun z => z.1) hc.1.symm
    rw [ho]
    refine j_callV C rfl (fc_V_V_referenceTo V (by decide)) (m_V_referenceTo _ hT R1 make_lt) rfl rfl R1.o (by rw [hT.1]; rfl) (nle rfl) (by decide) (by decide) ?_
    rintro v w' ⟨rfl, b', rfl, hb'⟩
    exact j_aret C E rfl rfl (by decide) (by decide) ⟨c', b', hc, rfl, hb', R1, hrm⟩
  by_cases h2 : v = 1
  · subst h2
    refine j_lsw (tgt := 43) C rfl (by decide) (o := 42) (by decide) (by decide) ?_
    refine j_get C rfl (fg_V_H_home V) e0 rfl ?_
    refine j_callV C rfl (fc_V_V_make V (by decide)) (m_V_make _ hT R 5 (tH (sT s i)) (some i) how) rfl rfl R.o (by rw [hT.1]; rfl) (nle rfl) (by decide) (by decide) ?_
    rintro v w1 ⟨c', hc, rfl, R1, hrm⟩
    have ho : cO c = cO c' := congrArg (fun z => z.1) hc.1.symm
    rw [ho]
    refine j_callV C rfl (fc_V_V_referenceTo V (by decide)) (m_V_referenceTo _ hT R1 make_lt) rfl rfl R1.o (by rw [hT.1]; rfl) (nle rfl) (by decide) (by decide) ?_
    rintro v w' ⟨rfl, b', rfl, hb'⟩
    exact j_aret C E rfl rfl (by decide) (by decide) ⟨c', b', hc, rfl, hb', R1, hrm⟩
  · refine j_lsw (tgt := 58) C rfl (by decide) (o := 57) (by show Op.lookupswitch.offset [(0, 27), (1, 42)] 57 v.toInt = 57; rw [lv_osw h1 (by decide), lv_osw h2 (by decide)]; rfl) (by decide) ?_
    refine j_get C rfl (fg_V_V_broken V) R.o rfl ?_
    exact j_aret C E rfl rfl (by decide) (by decide) ⟨c, _, Cext.rf, rfl, by unfold ansBrand; rw [if_neg h1, if_neg h2]; exact R.broken, by unfold ansBrand; rw [if_neg h1, if_neg h2]; exact R, RM.rf⟩
theorem own_iff (R : Rp w c s) {i o : Nat} (hi : i < sN s) (ho : o < sN s) : (tO (sT s o)).map (cT c) = (tO (sT s i)).map (cT c) ↔ tO (sT s o) = tO (sT s i) := by
  obtain ⟨ei, -⟩ := R.aT hi
  obtain ⟨eo, -⟩ := R.aT ho
  constructor
  · intro h
    cases h1 : tO (sT s o) with
    | none => cases h2 : tO (sT s i) with
      | none => rfl
      | some y => rw [h1, h2] at h; cases h
    | some x => cases h2 : tO (sT s i) with
      | none => rw [h1, h2] at h; cases h
      | some y =>
        rw [h1, h2] at h
        have h3 : cT c x = cT c y := Option.some.inj h
        obtain ⟨bh, lf, R, -⟩ := R
        rw [R.tinj (eo.1 x h1) (ei.1 y h2) h3]
  · intro h; rw [h]
theorem m_V_unseal (l : Launch) (hT : TOK T) (R : Rp w c s) {i a : Nat} {r : Rf} (hi : i < sN s) (ha : IsR w a r) : Ct l T y_V_unseal W_V_unseal rm_V_unseal [.inr (some (cO c)), .inr (some (cT c i)), .inr (some a)] w (PA w c s (unsealS s i r)) := by
  refine ct_V_unseal rfl (nle rfl) ?_
  intro X hl C E
  have V := hv_V_unseal hT
  obtain ⟨ek, sf, hd, f, e0, -⟩ := R.aT hi
  refine j_callV C rfl (fc_V_V_thingOfKind V (by decide)) (m_V_thingOfKind _ hT R 6 ha) rfl rfl R.o (by rw [hT.1]; rfl) (nle rfl) (by decide) (by decide) ?_
  rintro v w' ⟨rfl, rfl⟩
  cases hk : kOf s 6 r with
  | none =>
    refine j_ifnull C rfl (fun _ => ?_) (fun _ h => by cases h)
    refine j_get C rfl (fg_V_V_broken V) R.o rfl ?_
    exact j_aret C E rfl rfl (by decide) (by decide) ⟨c, _, Cext.rf, rfl, by unfold unsealS; rw [hk]; exact R.broken, by unfold unsealS; rw [hk]; exact R, RM.rf⟩
  | some o =>
    have ho : o < sN s := (kOf_lt R.n40 hk).1
    obtain ⟨ek', sf', hd', f', g0, g1, g2, -⟩ := R.aT ho
    refine j_ifnull C rfl (fun h => by cases h) (fun _ _ => ?_)
    refine j_get C rfl (fg_V_H_owner V) g0 rfl ?_
    refine j_get C rfl (fg_V_H_owner V) e0 rfl ?_
    refine j_acmp C rfl (fun h => ?_) (fun h => ?_)
    · have hq := (own_iff R hi ho).mp h
      refine j_get C rfl (fg_V_H_held V) g0 rfl ?_
      refine j_callV C rfl (fc_V_V_brokenIfNothing V (by decide)) (m_V_brokenIfNothing _ hT R g2) rfl rfl R.o (by rw [hT.1]; rfl) (nle rfl) (by decide) (by decide) ?_
      rintro v w' ⟨rfl, b, rfl, hb⟩
      exact j_aret C E rfl rfl (by decide) (by decide) ⟨c, b, Cext.rf, rfl, by unfold unsealS; rw [hk]; dsimp only; rw [if_pos hq]; exact hb, by unfold unsealS; rw [hk]; dsimp only; rw [if_pos hq]; exact R, RM.rf⟩
    · have hq : ¬ tO (sT s o) = tO (sT s i) := fun q => h ((own_iff R hi ho).mpr q)
      refine j_get C rfl (fg_V_V_broken V) R.o rfl ?_
      exact j_aret C E rfl rfl (by decide) (by decide) ⟨c, _, Cext.rf, rfl, by unfold unsealS; rw [hk]; dsimp only; rw [if_neg hq]; exact R.broken, by unfold unsealS; rw [hk]; dsimp only; rw [if_neg hq]; exact R, RM.rf⟩
set_option maxHeartbeats 1000000 in
theorem m_V_deposit (l : Launch) (hT : TOK T) (R : Rp w c s) {i a : Nat} {r : Rf} (hi : i < sN s) (ha : IsR w a r) : Ct l T y_V_deposit W_V_deposit rm_V_deposit [.inr (some (cO c)), .inr (some (cT c i)), .inr (some a)] w (PA w c s (depositS s i r)) := by
  refine ct_V_deposit rfl (nle rfl) ?_
  intro X hl C E
  have V := hv_V_deposit hT
  obtain ⟨ek, sf, hd, f, e0, e1, e2, -⟩ := R.aT hi
  refine j_callV C rfl (fc_V_V_thingOfKind V (by decide)) (m_V_thingOfKind _ hT R 8 ha) rfl rfl R.o (by rw [hT.1]; rfl) (nle rfl) (by decide) (by decide) ?_
  rintro v w' ⟨rfl, rfl⟩
  have bad : depositS s i r = (s, rB) → ∀ z, J T G_V_deposit X 28 [some (.inr (some (cO c))), some (.inr (some (cT c i))), some (.inr (some a)), some (.inr z), none] [] w' 0 0 := fun hb z => by
    refine j_get C rfl (fg_V_V_broken V) R.o rfl ?_
    rw [hb] at E
    exact j_aret C E rfl rfl (by decide) (by decide) ⟨c, _, Cext.rf, rfl, R.broken, R, RM.rf⟩
  cases hk : kOf s 8 r with
  | none =>
    refine j_ifnull C rfl (fun _ => ?_) (fun _ h => by cases h)
    exact bad (by unfold depositS; rw [hk]) _
  | some o =>
    have ho : o < sN s := (kOf_lt R.n40 hk).1
    obtain ⟨ek', sf', hd', f', g0, g1, g2, -⟩ := R.aT ho
    refine j_ifnull C rfl (fun h => by cases h) (fun _ _ => ?_)
    refine j_acmp C rfl (fun h => ?_) (fun h => ?_)
    · have hoi : o = i := by
        have h1 : cT c o = cT c i := Option.some.inj h
        obtain ⟨bh, lf, R, -⟩ := R
        exact R.tinj ho hi h1
      exact bad (by unfold depositS; rw [hk]; exact if_neg (fun q => q.1 hoi)) _
    have hoi : o ≠ i := fun q => h (by rw [q]; rfl)
    refine j_get C rfl (fg_V_H_owner V) g0 rfl ?_
    refine j_get C rfl (fg_V_H_owner V) e0 rfl ?_
    refine j_acmp C rfl (fun h => ?_) (fun h => ?_)
    · have hq := (own_iff R hi ho).mp h
      have hd : depositS s i r = (upT (upT s o (tSetB (sT s o) 0)) i (tSetB (sT s i) (tB (sT s i) + tB (sT s o))), (1, tB (sT s o))) := by unfold depositS; rw [hk]; exact if_pos ⟨hoi, hq⟩
      rw [hd] at E
      refine j_get C rfl (fg_V_H_balance V) g0 rfl ?_
      refine j_putE C rfl (fp_V_H_balance V) g0 (nlt rfl) (fit_i _) (cellT c o (tSetB (sT s o) 0) sf' hd') rfl ?_
      have R1 := R.setT ho (t := tSetB (sT s o) 0) ek' g1 g2 rfl
      have hrm : RM w' _ := RM.up (y := some (cellT c o (tSetB (sT s o) 0) sf' hd')) g0 nT_ref
      generalize va_up w' (cT c o) (some (cellT c o (tSetB (sT s o) 0) sf' hd')) = w1 at R1 hrm ⊢
      obtain ⟨ek2, sf2, hd2, f2, k0, k1, k2, -⟩ := R1.aT (i := i) hi
      have hsi : sT (sN s, va_up (sT s) o (tSetB (sT s o) 0), s.2.2) i = sT s i := va_up_ne _ _ hoi.symm
      rw [hsi] at k0 k2 ek2
      refine j_get C rfl (fg_V_H_balance V) k0 rfl ?_
      refine j_putE C rfl (fp_V_H_balance V) k0 (nlt rfl) (fit_i _) (cellT c i (tSetB (sT s i) (tB (sT s i) + tB (sT s o))) sf2 hd2) rfl ?_
      have R2 := R1.setT (i := i) hi (t := tSetB (sT s i) (tB (sT s i) + tB (sT s o))) ek2 k1 k2 (by rw [hsi])
      have hrm2 : RM w1 _ := RM.up (y := some (cellT c i (tSetB (sT s i) (tB (sT s i) + tB (sT s o))) sf2 hd2)) k0 nT_ref
      generalize va_up w1 (cT c i) (some (cellT c i (tSetB (sT s i) (tB (sT s i) + tB (sT s o))) sf2 hd2)) = w2 at R2 hrm2 ⊢
      refine j_callS C rfl (fc_V_V_numeral V (by decide)) (m_V_numeral _ hT _) rfl rfl (nle rfl) (by decide) (by decide) ?_
      rintro r w' ⟨q, hq, rfl, rfl⟩
      exact j_aret C E rfl rfl (by decide) (by decide) ⟨c, q, Cext.rf, rfl, va_up_self _ _ _, R2.grow hq, (hrm.tr hrm2).tr (RM.new hq)⟩
    · exact bad (by unfold depositS; rw [hk]; exact if_neg (fun q => h ((own_iff R hi ho).mpr q.2))) _
end ANS
end
section
/-! New boxes, purses, gates. -/
def boxS (s : St) (i : Nat) (r : Rf) : St × Rf := if sN s < 40 then ((sN s + 1, va_up (sT s) (sN s) (6, tH (sT s i), tO (sT s i), fun _ => rN, r, none, 0, 0, 0), s.2.2), (2, nI (sN s))) else (s, rB)
def moneyS (s : St) (i : Nat) (r : Rf) : St × Rf := if isNumU s 1000000 r = true then (if sN s < 40 then ((sN s + 1, va_up (sT s) (sN s) (8, tH (sT s i), some i, fun _ => rN, rN, none, 0, 0, (cnt s r).2), s.2.2), (2, nI (sN s))) else (s, rB)) else (s, rB)
def splitS (s : St) (i : Nat) (r : Rf) : St × Rf := if isNumU s (tB (sT s i)) r = true then (if sN s < 40 then (upT (sN s + 1, va_up (sT s) (sN s) (8, tH (sT s i), tO (sT s i), fun _ => rN, rN, none, 0, 0, (cnt s r).2), s.2.2) i (tSetB (sT s i) (tB (sT s i) - (cnt s r).2)), (2, nI (sN s))) else (s, rB)) else (s, rB)
def gateS (s : St) (i : Nat) (r : Rf) : St × Rf := if sN s + 2 ≤ 40 then ((sN s + 1 + 1, va_up (va_up (sT s) (sN s) (1, tH (sT s i), none, fun _ => rN, rN, some (sN s + 1), 0, 0, 0)) (sN s + 1) (2, tH (sT s i), some (sN s), fun _ => rN, r, none, 0, 0, 0), s.2.2), (2, nI (sN s))) else (s, rB)
section ANS2
variable {T : fw_T} {w : fw_W} {c : Cfg} {s : St}
theorem cO_eq {s : St} {c c' : Cfg} (h : CX s c c') : cO c = cO c' := congrArg (fun z => z.1) h.1.symm
set_option maxHeartbeats 1000000 in
theorem m_V_makeBox (l : Launch) (hT : TOK T) (R : Rp w c s) {i a : Nat} {r : Rf} (hi : i < sN s) (ha : IsR w a r) : Ct l T y_V_makeBox W_V_makeBox rm_V_makeBox [.inr (some (cO c)), .inr (some (cT c i)), .inr (some a)] w (PA w c s (boxS s i r)) := by
  refine ct_V_makeBox rfl (nle rfl) ?_
  intro X hl C E
  have V := hv_V_makeBox hT
  obtain ⟨ek, sf, hd, f, e0, -⟩ := R.aT hi
  refine j_get C rfl (fg_V_H_home V) e0 rfl ?_
  refine j_get C rfl (fg_V_H_owner V) e0 rfl ?_
  refine j_callV C rfl (fc_V_V_make V (by decide)) (m_V_make _ hT R 6 (tH (sT s i)) (tO (sT s i)) ek.1) rfl rfl R.o (by rw [hT.1]; rfl) (nle rfl) (by decide) (by decide) ?_
  rintro v w1 ⟨c', hc, rfl, R1, hrm⟩
  have ho := cO_eq hc
  unfold make at R1 ⊢
  by_cases h40 : sN s < 40
  · rw [if_pos h40] at R1 ⊢
    refine j_ifnull C rfl (fun h => by cases h) (fun _ _ => ?_)
    obtain ⟨fk, sf', hd', f', g0, g1, g2, -⟩ := R1.aT (i := sN s) (Nat.lt_succ_self _)
    have hs : sT (sN s + 1, va_up (sT s) (sN s) (newT 6 (tH (sT s i)) (tO (sT s i))), s.2.2) (sN s) = newT 6 (tH (sT s i)) (tO (sT s i)) := va_up_self _ _ _
    rw [hs] at g0 fk
    refine j_putE C rfl (fp_V_H_held V) g0 (nlt rfl) (fit_o _ _) (cellT c' (sN s) (6, tH (sT s i), tO (sT s i), fun _ => rN, r, none, 0, 0, 0) sf' a) rfl ?_
    have R2 := R1.setT (i := sN s) (Nat.lt_succ_self _) (t := (6, tH (sT s i), tO (sT s i), fun _ => rN, r, none, 0, 0, 0)) (sf := sf') (hd := a) fk g1 (hrm a r ha) (by rw [hs])
    have hrm2 : RM w1 _ := RM.up (y := some (cellT c' (sN s) (6, tH (sT s i), tO (sT s i), fun _ => rN, r, none, 0, 0, 0) sf' a)) g0 nT_ref
    have e : va_up (sT (sN s + 1, va_up (sT s) (sN s) (newT 6 (tH (sT s i)) (tO (sT s i))), s.2.2)) (sN s) (6, tH (sT s i), tO (sT s i), fun _ => rN, r, none, 0, 0, 0) = va_up (sT s) (sN s) (6, tH (sT s i), tO (sT s i), fun _ => rN, r, none, 0, 0, 0) := bx_uu _ _ _ _
    rw [e] at R2
    generalize va_up w1 (cT c' (sN s)) (some (cellT c' (sN s) (6, tH (sT s i), tO (sT s i), fun _ => rN, r, none, 0, 0, 0) sf' a)) = w2 at R2 hrm2 ⊢
    rw [ho]
    refine j_callV C rfl (fc_V_V_referenceTo V (by decide)) (m_V_referenceTo _ hT R2 (o := some (sN s)) (fun x h => by cases h; exact Nat.lt_succ_self _)) rfl rfl R2.o (by rw [hT.1]; rfl) (nle rfl) (by decide) (by decide) ?_
    rintro v w' ⟨rfl, b', rfl, hb'⟩
    exact j_aret C E rfl rfl (by decide) (by decide) ⟨c', b', hc, rfl, by unfold boxS; rw [if_pos h40]; exact hb', by unfold boxS; rw [if_pos h40]; exact R2, hrm.tr hrm2⟩
  · rw [if_neg h40] at R1 ⊢
    refine j_ifnull C rfl (fun _ => ?_) (fun _ h => by cases h)
    rw [ho]
    refine j_callV C rfl (fc_V_V_referenceTo V (by decide)) (m_V_referenceTo _ hT R1 (o := none) (fun x h => by cases h)) rfl rfl R1.o (by rw [hT.1]; rfl) (nle rfl) (by decide) (by decide) ?_
    rintro v w' ⟨rfl, b', rfl, hb'⟩
    exact j_aret C E rfl rfl (by decide) (by decide) ⟨c', b', hc, rfl, by unfold boxS; rw [if_neg h40]; exact hb', by unfold boxS; rw [if_neg h40]; exact R1, hrm⟩
set_option maxHeartbeats 1000000 in
theorem m_V_makeMoney (l : Launch) (hT : TOK T) (R : Rp w c s) {i a : Nat} {r : Rf} (hi : i < sN s) (ha : IsR w a r) : Ct l T y_V_makeMoney W_V_makeMoney rm_V_makeMoney [.inr (some (cO c)), .inr (some (cT c i)), .inr (some a)] w (PA w c s (moneyS s i r)) := by
  refine ct_V_makeMoney rfl (nle rfl) ?_
  intro X hl C E
  have V := hv_V_makeMoney hT
  refine j_callV C rfl (fc_V_V_isNumberUpTo V (by decide)) (m_V_isNumberUpTo _ hT R 1000000 ha) rfl rfl R.o (by rw [hT.1]; rfl) (nle rfl) (by decide) (by decide) ?_
  rintro v w' ⟨rfl, rfl⟩
  cases hnum : isNumU s 1000000 r with
  | false =>
    refine j_ifF C rfl (by decide) ?_
    refine j_get C rfl (fg_V_V_broken V) R.o rfl ?_
    exact j_aret C E rfl rfl (by decide) (by decide) ⟨c, _, Cext.rf, rfl, by unfold moneyS; rw [hnum]; exact R.broken, by unfold moneyS; rw [hnum]; exact R, RM.rf⟩
  | true =>
    refine j_ifT C rfl (by decide) ?_
    have hE : moneyS s i r = if sN s < 40 then ((sN s + 1, va_up (sT s) (sN s) (8, tH (sT s i), some i, fun _ => rN, rN, none, 0, 0, (cnt s r).2), s.2.2), (2, nI (sN s))) else (s, rB) := by unfold moneyS; rw [hnum]; rfl
    rw [hE] at E
    obtain ⟨ek, sf, hd, f, e0, -⟩ := R.aT hi
    refine j_get C rfl (fg_V_H_home V) e0 rfl ?_
    refine j_callV C rfl (fc_V_V_make V (by decide)) (m_V_make _ hT R 8 (tH (sT s i)) (some i) (fun x h => by cases h; exact hi)) rfl rfl R.o (by rw [hT.1]; rfl) (nle rfl) (by decide) (by decide) ?_
    rintro v w1 ⟨c', hc, rfl, R1, hrm⟩
    have ho := cO_eq hc
    unfold make at R1 ⊢
    by_cases h40 : sN s < 40
    · rw [if_pos h40] at R1 E ⊢
      refine j_ifnull C rfl (fun h => by cases h) (fun _ _ => ?_)
      rw [ho]
      refine j_callV C rfl (fc_V_V_countsAs V (by decide)) (m_V_countsAs _ hT R1 (hrm a r ha)) rfl rfl R1.o (by rw [hT.1]; rfl) (nle rfl) (by decide) (by decide) ?_
      rintro v w' ⟨rfl, b, rfl, hb⟩
      refine j_get C rfl (fg_V_R_index V) hb rfl ?_
      obtain ⟨fk, sf', hd', f', g0, g1, g2, -⟩ := R1.aT (i := sN s) (Nat.lt_succ_self _)
      have hs : sT (sN s + 1, va_up (sT s) (sN s) (newT 8 (tH (sT s i)) (some i)), s.2.2) (sN s) = newT 8 (tH (sT s i)) (some i) := va_up_self _ _ _
      rw [hs] at g0 fk g2
      refine j_putE C rfl (fp_V_H_balance V) g0 (nlt rfl) (fit_i _) (cellT c' (sN s) (8, tH (sT s i), some i, fun _ => rN, rN, none, 0, 0, (cnt s r).2) sf' hd') rfl ?_
      have R2 := R1.setT (i := sN s) (Nat.lt_succ_self _) (t := (8, tH (sT s i), some i, fun _ => rN, rN, none, 0, 0, (cnt s r).2)) (sf := sf') (hd := hd') fk g1 g2 (by rw [hs])
      have hrm2 : RM w' _ := RM.up (y := some (cellT c' (sN s) (8, tH (sT s i), some i, fun _ => rN, rN, none, 0, 0, (cnt s r).2) sf' hd')) g0 nT_ref
      have e : va_up (sT (sN s + 1, va_up (sT s) (sN s) (newT 8 (tH (sT s i)) (some i)), s.2.2)) (sN s) (8, tH (sT s i), some i, fun _ => rN, rN, none, 0, 0, (cnt s r).2) = va_up (sT s) (sN s) (8, tH (sT s i), some i, fun _ => rN, rN, none, 0, 0, (cnt s r).2) := bx_uu _ _ _ _
      rw [e] at R2
      generalize va_up w' (cT c' (sN s)) (some (cellT c' (sN s) (8, tH (sT s i), some i, fun _ => rN, rN, none, 0, 0, (cnt s r).2) sf' hd')) = w2 at R2 hrm2 ⊢
      refine j_callV C rfl (fc_V_V_referenceTo V (by decide)) (m_V_referenceTo _ hT R2 (o := some (sN s)) (fun x h => by cases h; exact Nat.lt_succ_self _)) rfl rfl R2.o (by rw [hT.1]; rfl) (nle rfl) (by decide) (by decide) ?_
      rintro v w' ⟨rfl, b', rfl, hb'⟩
      exact j_aret C E rfl rfl (by decide) (by decide) ⟨c', b', hc, rfl, hb', R2, hrm.tr hrm2⟩
    · rw [if_neg h40] at R1 E ⊢
      refine j_ifnull C rfl (fun _ => ?_) (fun _ h => by cases h)
      rw [ho]
      refine j_callV C rfl (fc_V_V_referenceTo V (by decide)) (m_V_referenceTo _ hT R1 (o := none) (fun x h => by cases h)) rfl rfl R1.o (by rw [hT.1]; rfl) (nle rfl) (by decide) (by decide) ?_
      rintro v w' ⟨rfl, b', rfl, hb'⟩
      exact j_aret C E rfl rfl (by decide) (by decide) ⟨c', b', hc, rfl, hb', R1, hrm⟩
set_option maxHeartbeats 1000000 in
theorem m_V_split (l : Launch) (hT : TOK T) (R : Rp w c s) {i a : Nat} {r : Rf} (hi : i < sN s) (ha : IsR w a r) : Ct l T y_V_split W_V_split rm_V_split [.inr (some (cO c)), .inr (some (cT c i)), .inr (some a)] w (PA w c s (splitS s i r)) := by
  refine ct_V_split rfl (nle rfl) ?_
  intro X hl C E
  have V := hv_V_split hT
  obtain ⟨ek, sf, hd, f, e0, -⟩ := R.aT hi
  refine j_get C rfl (fg_V_H_balance V) e0 rfl ?_
  refine j_callV C rfl (fc_V_V_isNumberUpTo V (by decide)) (m_V_isNumberUpTo _ hT R (tB (sT s i)) ha) rfl rfl R.o (by rw [hT.1]; rfl) (nle rfl) (by decide) (by decide) ?_
  rintro v w' ⟨rfl, rfl⟩
  cases hnum : isNumU s (tB (sT s i)) r with
  | false =>
    refine j_ifF C rfl (by decide) ?_
    refine j_get C rfl (fg_V_V_broken V) R.o rfl ?_
    exact j_aret C E rfl rfl (by decide) (by decide) ⟨c, _, Cext.rf, rfl, by unfold splitS; rw [hnum]; exact R.broken, by unfold splitS; rw [hnum]; exact R, RM.rf⟩
  | true =>
    refine j_ifT C rfl (by decide) ?_
    have hE : splitS s i r = if sN s < 40 then (upT (sN s + 1, va_up (sT s) (sN s) (8, tH (sT s i), tO (sT s i), fun _ => rN, rN, none, 0, 0, (cnt s r).2), s.2.2) i (tSetB (sT s i) (tB (sT s i) - (cnt s r).2)), (2, nI (sN s))) else (s, rB) := by unfold splitS; rw [hnum]; rfl
    rw [hE] at E
    refine j_get C rfl (fg_V_H_home V) e0 rfl ?_
    refine j_get C rfl (fg_V_H_owner V) e0 rfl ?_
    refine j_callV C rfl (fc_V_V_make V (by decide)) (m_V_make _ hT R 8 (tH (sT s i)) (tO (sT s i)) ek.1) rfl rfl R.o (by rw [hT.1]; rfl) (nle rfl) (by decide) (by decide) ?_
    rintro v w1 ⟨c', hc, rfl, R1, hrm⟩
    have ho := cO_eq hc
    unfold make at R1 ⊢
    by_cases h40 : sN s < 40
    · rw [if_pos h40] at R1 E ⊢
      refine j_ifnull C rfl (fun h => by cases h) (fun _ _ => ?_)
      rw [ho]
      refine j_callV C rfl (fc_V_V_countsAs V (by decide)) (m_V_countsAs _ hT R1 (hrm a r ha)) rfl rfl R1.o (by rw [hT.1]; rfl) (nle rfl) (by decide) (by decide) ?_
      rintro v w' ⟨rfl, b, rfl, hb⟩
      refine j_get C rfl (fg_V_R_index V) hb rfl ?_
      obtain ⟨fk, sf', hd', f', g0, g1, g2, -⟩ := R1.aT (i := sN s) (Nat.lt_succ_self _)
      have hs : sT (sN s + 1, va_up (sT s) (sN s) (newT 8 (tH (sT s i)) (tO (sT s i))), s.2.2) (sN s) = newT 8 (tH (sT s i)) (tO (sT s i)) := va_up_self _ _ _
      rw [hs] at g0 fk g2
      refine j_putE C rfl (fp_V_H_balance V) g0 (nlt rfl) (fit_i _) (cellT c' (sN s) (8, tH (sT s i), tO (sT s i), fun _ => rN, rN, none, 0, 0, (cnt s r).2) sf' hd') rfl ?_
      have R2 := R1.setT (i := sN s) (Nat.lt_succ_self _) (t := (8, tH (sT s i), tO (sT s i), fun _ => rN, rN, none, 0, 0, (cnt s r).2)) (sf := sf') (hd := hd') fk g1 g2 (by rw [hs])
      have hrm2 : RM w' _ := RM.up (y := some (cellT c' (sN s) (8, tH (sT s i), tO (sT s i), fun _ => rN, rN, none, 0, 0, (cnt s r).2) sf' hd')) g0 nT_ref
      have e : va_up (sT (sN s + 1, va_up (sT s) (sN s) (newT 8 (tH (sT s i)) (tO (sT s i))), s.2.2)) (sN s) (8, tH (sT s i), tO (sT s i), fun _ => rN, rN, none, 0, 0, (cnt s r).2) = va_up (sT s) (sN s) (8, tH (sT s i), tO (sT s i), fun _ => rN, rN, none, 0, 0, (cnt s r).2) := bx_uu _ _ _ _
      rw [e] at R2
      have n2 : va_up w' (cT c' (sN s)) (some (cellT c' (sN s) (8, tH (sT s i), tO (sT s i), fun _ => rN, rN, none, 0, 0, (cnt s r).2) sf' hd')) (cT c' (sN s)) = some (cellT c' (sN s) (8, tH (sT s i), tO (sT s i), fun _ => rN, rN, none, 0, 0, (cnt s r).2) sf' hd') := va_up_self _ _ _
      generalize va_up w' (cT c' (sN s)) (some (cellT c' (sN s) (8, tH (sT s i), tO (sT s i), fun _ => rN, rN, none, 0, 0, (cnt s r).2) sf' hd')) = w2 at R2 hrm2 n2 ⊢
      obtain ⟨pk, sf3, hd3, f3, p0, p1, p2, -⟩ := R2.aT (i := i) (Nat.lt_succ_of_lt hi)
      have hsi : sT (sN s + 1, va_up (sT s) (sN s) (8, tH (sT s i), tO (sT s i), fun _ => rN, rN, none, 0, 0, (cnt s r).2), s.2.2) i = sT s i := va_up_ne _ _ (Nat.ne_of_lt hi)
      have hti : cT c' i = cT c i := (hc.2.1 i hi).1
      rw [hsi] at p0 p2 pk
      have p0' := p0
      rw [hti] at p0'
      refine j_get C rfl (fg_V_H_balance V) p0' rfl ?_
      refine j_get C rfl (fg_V_H_balance V) n2 rfl ?_
      refine j_putE C rfl (fp_V_H_balance V) p0' (nlt rfl) (fit_i _) (cellT c' i (tSetB (sT s i) (tB (sT s i) - (cnt s r).2)) sf3 hd3) rfl ?_
      have R3 := R2.setT (i := i) (Nat.lt_succ_of_lt hi) (t := tSetB (sT s i) (tB (sT s i) - (cnt s r).2)) (sf := sf3) (hd := hd3) pk p1 p2 (by rw [hsi])
      have hrm3 : RM w2 _ := RM.up (y := some (cellT c' i (tSetB (sT s i) (tB (sT s i) - (cnt s r).2)) sf3 hd3)) p0 nT_ref
      rw [hti] at R3 hrm3
      generalize va_up w2 (cT c i) (some (cellT c' i (tSetB (sT s i) (tB (sT s i) - (cnt s r).2)) sf3 hd3)) = w3 at R3 hrm3 ⊢
      refine j_callV C rfl (fc_V_V_referenceTo V (by decide)) (m_V_referenceTo _ hT R3 (o := some (sN s)) (fun x h => by cases h; exact Nat.lt_succ_self _)) rfl rfl R3.o (by rw [hT.1]; rfl) (nle rfl) (by decide) (by decide) ?_
      rintro v w' ⟨rfl, b', rfl, hb'⟩
      exact j_aret C E rfl rfl (by decide) (by decide) ⟨c', b', hc, rfl, hb', R3, (hrm.tr hrm2).tr hrm3⟩
    · rw [if_neg h40] at R1 E ⊢
      refine j_ifnull C rfl (fun _ => ?_) (fun _ h => by cases h)
      rw [ho]
      refine j_callV C rfl (fc_V_V_referenceTo V (by decide)) (m_V_referenceTo _ hT R1 (o := none) (fun x h => by cases h)) rfl rfl R1.o (by rw [hT.1]; rfl) (nle rfl) (by decide) (by decide) ?_
      rintro v w' ⟨rfl, b', rfl, hb'⟩
      exact j_aret C E rfl rfl (by decide) (by decide) ⟨c', b', hc, rfl, hb', R1, hrm⟩
end ANS2
end
section
/-! Gates; cells, purses; answer. -/
section ANS3
variable {T : fw_T} {w : fw_W} {c : Cfg} {s : St}
set_option maxHeartbeats 2000000 in
theorem m_V_makeGate (l : Launch) (hT : TOK T) (R : Rp w c s) {i a : Nat} {r : Rf} (hi : i < sN s) (ha : IsR w a r) : Ct l T y_V_makeGate W_V_makeGate rm_V_makeGate [.inr (some (cO c)), .inr (some (cT c i)), .inr (some a)] w (PA w c s (gateS s i r)) := by
  refine ct_V_makeGate rfl (nle rfl) ?_
  intro X hl C E
  have V := hv_V_makeGate hT
  have hn := R.n40
  refine j_get C rfl (fg_V_V_thingCount V) R.o rfl ?_
  have hadd : nI (sN s) + 2 = nI (sN s + 2) := nI_add (sN s) 2
  by_cases h2 : sN s + 2 ≤ 40
  · have hE : gateS s i r = ((sN s + 1 + 1, va_up (va_up (sT s) (sN s) (1, tH (sT s i), none, fun _ => rN, rN, some (sN s + 1), 0, 0, 0)) (sN s + 1) (2, tH (sT s i), some (sN s), fun _ => rN, r, none, 0, 0, 0), s.2.2), (2, nI (sN s))) := by unfold gateS; rw [if_pos h2]
    rw [hE] at E
    refine j_icmpT C rfl (fw_cb_iff.mpr (show nI (sN s) + 2 ≤ nI 40 by rw [hadd]; exact nI_le h2 (by decide))) ?_
    obtain ⟨ek, sf, hd, f, e0, -⟩ := R.aT hi
    refine j_get C rfl (fg_V_H_home V) e0 rfl ?_
    refine j_callV C rfl (fc_V_V_make V (by decide)) (m_V_make _ hT R 1 (tH (sT s i)) none (fun x h => by cases h)) rfl rfl R.o (by rw [hT.1]; rfl) (nle rfl) (by decide) (by decide) ?_
    rintro v w1 ⟨c1, hc1, rfl, R1, hrm1⟩
    unfold make at R1 ⊢
    rw [if_pos (show sN s < 40 by omega)] at R1 ⊢
    have ho1 := cO_eq hc1
    have hti1 : cT c1 i = cT c i := (hc1.2.1 i hi).1
    obtain ⟨ek1, sf1, hd1, f1, e01, -⟩ := R1.aT (i := i) (Nat.lt_succ_of_lt hi)
    have hsi1 : sT (sN s + 1, va_up (sT s) (sN s) (newT 1 (tH (sT s i)) none), s.2.2) i = sT s i := va_up_ne _ _ (Nat.ne_of_lt hi)
    rw [hsi1, hti1] at e01
    refine j_get C rfl (fg_V_H_home V) e01 rfl ?_
    rw [ho1]
    refine j_callV C rfl (fc_V_V_make V (by decide)) (m_V_make _ hT R1 2 (tH (sT s i)) (some (sN s)) (fun x h => by cases h; exact Nat.lt_succ_self _)) rfl rfl R1.o (by rw [hT.1]; rfl) (nle rfl) (by decide) (by decide) ?_
    rintro v w2 ⟨c2, hc2, rfl, R2, hrm2⟩
    unfold make at R2 ⊢
    rw [if_pos (show sN (sN s + 1, va_up (sT s) (sN s) (newT 1 (tH (sT s i)) none), s.2.2) < 40 from (by show sN s + 1 < 40; omega))] at R2 ⊢
    have R2 : Rp w2 c2 (sN s + 1 + 1, va_up (va_up (sT s) (sN s) (newT 1 (tH (sT s i)) none)) (sN s + 1) (newT 2 (tH (sT s i)) (some (sN s))), s.2.2) := R2
    have htn : cT c2 (sN s) = cT c1 (sN s) := (hc2.2.1 (sN s) (Nat.lt_succ_self _)).1
    refine j_ifnull C rfl (fun h => by cases h) (fun _ _ => ?_)
    refine j_ifnn C rfl (fun _ _ => ?_) (fun h => by cases h)
    obtain ⟨fk, sf', hd', f', g0, g1, g2, -⟩ := R2.aT (i := sN s + 1) (Nat.lt_succ_self _)
    have hs2 : sT (sN s + 1 + 1, va_up (va_up (sT s) (sN s) (newT 1 (tH (sT s i)) none)) (sN s + 1) (newT 2 (tH (sT s i)) (some (sN s))), s.2.2) (sN s + 1) = newT 2 (tH (sT s i)) (some (sN s)) := va_up_self _ _ _
    rw [hs2] at g0 fk
    refine j_putE C rfl (fp_V_H_held V) g0 (nlt rfl) (fit_o _ _) (cellT c2 (sN s + 1) (2, tH (sT s i), some (sN s), fun _ => rN, r, none, 0, 0, 0) sf' a) rfl ?_
    have R3 := R2.setT (i := sN s + 1) (Nat.lt_succ_self _) (t := (2, tH (sT s i), some (sN s), fun _ => rN, r, none, 0, 0, 0)) (sf := sf') (hd := a) fk g1 (hrm2 a r (hrm1 a r ha)) (by rw [hs2])
    have hrm3 : RM w2 _ := RM.up (y := some (cellT c2 (sN s + 1) (2, tH (sT s i), some (sN s), fun _ => rN, r, none, 0, 0, 0) sf' a)) g0 nT_ref
    have e3 : va_up (sT (sN s + 1 + 1, va_up (va_up (sT s) (sN s) (newT 1 (tH (sT s i)) none)) (sN s + 1) (newT 2 (tH (sT s i)) (some (sN s))), s.2.2)) (sN s + 1) (2, tH (sT s i), some (sN s), fun _ => rN, r, none, 0, 0, 0) = va_up (va_up (sT s) (sN s) (newT 1 (tH (sT s i)) none)) (sN s + 1) (2, tH (sT s i), some (sN s), fun _ => rN, r, none, 0, 0, 0) := bx_uu _ _ _ _
    rw [e3] at R3
    generalize va_up w2 (cT c2 (sN s + 1)) (some (cellT c2 (sN s + 1) (2, tH (sT s i), some (sN s), fun _ => rN, r, none, 0, 0, 0) sf' a)) = w3 at R3 hrm3 ⊢
    obtain ⟨pk, sf3, hd3, f3, p0, p1, p2, -⟩ := R3.aT (i := sN s) (show sN s < sN s + 1 + 1 by omega)
    have hs3 : sT (sN s + 1 + 1, va_up (va_up (sT s) (sN s) (newT 1 (tH (sT s i)) none)) (sN s + 1) (2, tH (sT s i), some (sN s), fun _ => rN, r, none, 0, 0, 0), s.2.2) (sN s) = newT 1 (tH (sT s i)) none := by
      show va_up (va_up (sT s) (sN s) (newT 1 (tH (sT s i)) none)) (sN s + 1) _ (sN s) = _
      rw [va_up_ne _ _ (by omega), va_up_self]
    rw [hs3] at p0 p2
    have p0' := p0
    rw [htn] at p0'
    refine j_putE C rfl (fp_V_H_facet V) p0' (nlt rfl) (fit_o _ _) (cellT c2 (sN s) (1, tH (sT s i), none, fun _ => rN, rN, some (sN s + 1), 0, 0, 0) sf3 hd3) rfl ?_
    have R4 := R3.setT (i := sN s) (show sN s < sN s + 1 + 1 by omega) (t := (1, tH (sT s i), none, fun _ => rN, rN, some (sN s + 1), 0, 0, 0)) (sf := sf3) (hd := hd3) ⟨fun x h => (by cases h), fun x h => (by cases h; exact Nat.lt_succ_self _)⟩ p1 p2 (by rw [hs3])
    have hrm4 : RM w3 _ := RM.up (y := some (cellT c2 (sN s) (1, tH (sT s i), none, fun _ => rN, rN, some (sN s + 1), 0, 0, 0) sf3 hd3)) p0 nT_ref
    have q4 : va_up w3 (cT c2 (sN s)) (some (cellT c2 (sN s) (1, tH (sT s i), none, fun _ => rN, rN, some (sN s + 1), 0, 0, 0) sf3 hd3)) (cT c2 (sN s)) = some (cellT c2 (sN s) (1, tH (sT s i), none, fun _ => rN, rN, some (sN s + 1), 0, 0, 0) sf3 hd3) := va_up_self _ _ _
    have r4 : IsR (va_up w3 (cT c2 (sN s)) (some (cellT c2 (sN s) (1, tH (sT s i), none, fun _ => rN, rN, some (sN s + 1), 0, 0, 0) sf3 hd3))) sf3 (2, nI (sN s)) := hrm4 _ _ p1
    have e4 : va_up (sT (sN s + 1 + 1, va_up (va_up (sT s) (sN s) (newT 1 (tH (sT s i)) none)) (sN s + 1) (2, tH (sT s i), some (sN s), fun _ => rN, r, none, 0, 0, 0), s.2.2)) (sN s) (1, tH (sT s i), none, fun _ => rN, rN, some (sN s + 1), 0, 0, 0) = va_up (va_up (sT s) (sN s) (1, tH (sT s i), none, fun _ => rN, rN, some (sN s + 1), 0, 0, 0)) (sN s + 1) (2, tH (sT s i), some (sN s), fun _ => rN, r, none, 0, 0, 0) := by
      funext q
      show va_up (va_up (va_up (sT s) (sN s) _) (sN s + 1) _) (sN s) _ q = _
      by_cases h1 : q = sN s
      · subst h1; rw [va_up_self, va_up_ne _ _ (by omega), va_up_self]
      · rw [va_up_ne _ _ h1]
        by_cases h2 : q = sN s + 1
        · subst h2; rw [va_up_self, va_up_self]
        · rw [va_up_ne _ _ h2, va_up_ne _ _ h2, va_up_ne _ _ h1, va_up_ne _ _ h1]
    rw [e4] at R4
    rw [htn] at R4 hrm4 q4 r4
    generalize va_up w3 (cT c1 (sN s)) (some (cellT c2 (sN s) (1, tH (sT s i), none, fun _ => rN, rN, some (sN s + 1), 0, 0, 0) sf3 hd3)) = w4 at R4 hrm4 q4 r4 ⊢
    refine j_get C rfl (fg_V_H_self V) q4 rfl ?_
    exact j_aret C E rfl rfl (by decide) (by decide) ⟨c2, sf3, hc1.tr hc2 (Nat.le_succ _) (Nat.le_refl _), rfl, r4, R4, ((hrm1.tr hrm2).tr hrm3).tr hrm4⟩
  · refine j_icmp C rfl (fun h => absurd h (show ¬ nI (sN s) + 2 ≤ nI 40 by rw [hadd]; exact nI_ge (by omega) (by omega))) (fun _ => ?_)
    refine j_get C rfl (fg_V_V_broken V) R.o rfl ?_
    exact j_aret C E rfl rfl (by decide) (by decide) ⟨c, _, Cext.rf, rfl, by unfold gateS; rw [if_neg h2]; exact R.broken, by unfold gateS; rw [if_neg h2]; exact R, RM.rf⟩
def ansCell (s : St) (i : Nat) (v : Int32) (r : Rf) : St × Rf := match ixO 4 v with
  | some q => (s, bN (tS (sT s i) q))
  | none => match ixO 4 (v - 4) with
    | some q => (upT s i (tSet (sT s i) (va_up (tS (sT s i)) q r)), (1, 0))
    | none => if v = 8 then mkR s 0 (tH (sT s i)) none else if v = 9 then gateS s i r else if v = 10 then mkR s 3 (tH (sT s i)) none else if v = 11 then mkR s 7 (tH (sT s i)) none else if v = 12 then mkR s 9 (tH (sT s i)) none else (s, rB)
def ansPurse (s : St) (i : Nat) (v : Int32) (r : Rf) : St × Rf := if v = 0 then (s, (1, tB (sT s i))) else if v = 1 then mkR s 8 (tH (sT s i)) (tO (sT s i)) else if v = 2 then depositS s i r else if v = 3 then splitS s i r else (s, rB)
theorem Rp.setS (R : Rp w c s) {i : Nat} (hi : i < sN s) {f : Nat → Option Nat} (hf : w (cS c i) = some (.inl (aR, 4, .inr f))) {q r : Nat} {v : Rf} (hr : IsR w r v) : Rp (va_up w (cS c i) (some (.inl (aR, 4, .inr (va_up f q (some r)))))) c (upT s i (tSet (sT s i) (va_up (tS (sT s i)) q v))) := by
  obtain ⟨bh, lf, R, h⟩ := R
  exact ⟨bh, lf, R.setS hi hf hr, h⟩
theorem sw_out {v : Int32} {lo hi : Int} (h : ∀ k : Int32, lo ≤ k.toInt → k.toInt ≤ hi → v ≠ k) : v.toInt < lo ∨ hi < v.toInt := by
  by_cases h1 : v.toInt < lo
  · exact Or.inl h1
  · by_cases h2 : hi < v.toInt
    · exact Or.inr h2
    · exact absurd rfl (h v (by omega) (by omega))
theorem ne_int {v : Int32} {k : Int32} {z : Int} (hk : k.toInt = z) (h : v ≠ k) : v.toInt ≠ z := fun q => h (Int32.toInt_inj.mp (by rw [q, hk]))
set_option maxHeartbeats 2000000 in
theorem m_V_answerOfPurse (l : Launch) (hT : TOK T) (R : Rp w c s) {i a : Nat} {r : Rf} (hi : i < sN s) (v : Int32) (ha : IsR w a r) : Ct l T y_V_answerOfPurse W_V_answerOfPurse rm_V_answerOfPurse [.inr (some (cO c)), .inr (some (cT c i)), .inl v, .inr (some a)] w (PA w c s (ansPurse s i v r)) := by
  refine ct_V_answerOfPurse rfl (nle rfl) ?_
  intro X hl C E
  have V := hv_V_answerOfPurse hT
  obtain ⟨ek, sf, hd, f, e0, -⟩ := R.aT hi
  by_cases h0 : v = 0
  · subst h0
    refine j_tsw (tgt := 32) (o := 31) C rfl (by decide) (by decide) (by decide) (by decide) ?_
    refine j_get C rfl (fg_V_H_balance V) e0 rfl ?_
    refine j_callS C rfl (fc_V_V_numeral V (by decide)) (m_V_numeral _ hT _) rfl rfl (nle rfl) (by decide) (by decide) ?_
    rintro r w' ⟨q, hq, rfl, rfl⟩
    exact j_aret C E rfl rfl (by decide) (by decide) ⟨c, q, Cext.rf, rfl, va_up_self _ _ _, R.grow hq, RM.new hq⟩
  by_cases h1 : v = 1
  · subst h1
    refine j_tsw (tgt := 40) (o := 39) C rfl (by decide) (by decide) (by decide) (by decide) ?_
    refine j_get C rfl (fg_V_H_home V) e0 rfl ?_
    refine j_get C rfl (fg_V_H_owner V) e0 rfl ?_
    refine j_callV C rfl (fc_V_V_make V (by decide)) (m_V_make _ hT R 8 (tH (sT s i)) (tO (sT s i)) ek.1) rfl rfl R.o (by rw [hT.1]; rfl) (nle rfl) (by decide) (by decide) ?_
    rintro v w1 ⟨c', hc, rfl, R1, hrm⟩
    rw [cO_eq hc]
    refine j_callV C rfl (fc_V_V_referenceTo V (by decide)) (m_V_referenceTo _ hT R1 make_lt) rfl rfl R1.o (by rw [hT.1]; rfl) (nle rfl) (by decide) (by decide) ?_
    rintro v w' ⟨rfl, b', rfl, hb'⟩
    exact j_aret C E rfl rfl (by decide) (by decide) ⟨c', b', hc, rfl, hb', R1, hrm⟩
  by_cases h2 : v = 2
  · subst h2
    refine j_tsw (tgt := 59) (o := 58) C rfl (by decide) (by decide) (by decide) (by decide) ?_
    refine j_callV C rfl (fc_V_V_deposit V (by decide)) (m_V_deposit _ hT R hi ha) rfl rfl R.o (by rw [hT.1]; rfl) (nle rfl) (by decide) (by decide) ?_
    rintro v w1 ⟨c', b, hc, rfl, hb, R1, hrm⟩
    exact j_aret C E rfl rfl (by decide) (by decide) ⟨c', b, hc, rfl, hb, R1, hrm⟩
  by_cases h3 : v = 3
  · subst h3
    refine j_tsw (tgt := 66) (o := 65) C rfl (by decide) (by decide) (by decide) (by decide) ?_
    refine j_callV C rfl (fc_V_V_split V (by decide)) (m_V_split _ hT R hi ha) rfl rfl R.o (by rw [hT.1]; rfl) (nle rfl) (by decide) (by decide) ?_
    rintro v w1 ⟨c', b, hc, rfl, hb, R1, hrm⟩
    exact j_aret C E rfl rfl (by decide) (by decide) ⟨c', b, hc, rfl, hb, R1, hrm⟩
  · have hE : ansPurse s i v r = (s, rB) := by unfold ansPurse; rw [if_neg h0, if_neg h1, if_neg h2, if_neg h3]
    rw [hE] at E
    have n0 := ne_int (k := 0) (z := 0) (by decide) h0
    have n1 := ne_int (k := 1) (z := 1) (by decide) h1
    have n2 := ne_int (k := 2) (z := 2) (by decide) h2
    have n3 := ne_int (k := 3) (z := 3) (by decide) h3
    refine j_tsd (tgt := 73) C rfl (by omega) (by decide) ?_
    refine j_get C rfl (fg_V_V_broken V) R.o rfl ?_
    exact j_aret C E rfl rfl (by decide) (by decide) ⟨c, _, Cext.rf, rfl, R.broken, R, RM.rf⟩
set_option maxHeartbeats 4000000 in
theorem m_V_answerOfCell (l : Launch) (hT : TOK T) (R : Rp w c s) {i a : Nat} {r : Rf} (hi : i < sN s) (v : Int32) (ha : IsR w a r) : Ct l T y_V_answerOfCell W_V_answerOfCell rm_V_answerOfCell [.inr (some (cO c)), .inr (some (cT c i)), .inl v, .inr (some a)] w (PA w c s (ansCell s i v r)) := by
  refine ct_V_answerOfCell rfl (nle rfl) ?_
  intro X hl C E
  have V := hv_V_answerOfCell hT
  obtain ⟨ek, sf, hd, f, e0, e1, e2, e3, e4⟩ := R.aT hi
  refine j_callS C rfl (fc_V_V_isSlot V (by decide)) (m_V_isSlot _ hT v) rfl rfl (nle rfl) (by decide) (by decide) ?_
  rintro x w' ⟨rfl, rfl⟩
  cases hx : ixO 4 v with
  | some q =>
    obtain ⟨hq4, rfl⟩ := ixO_lt (by decide) hx
    refine j_ifF C rfl (show fw_cb _ (bI true) 0 = false by decide) ?_
    refine j_get C rfl (fg_V_H_slots V) e0 rfl ?_
    refine j_aaldI C rfl e3 hT.2.1 q rfl hq4 (by decide) ?_
    obtain ⟨b, hb1, hb2⟩ := e4 q hq4
    rw [hb1]
    refine j_callV C rfl (fc_V_V_brokenIfNothing V (by decide)) (m_V_brokenIfNothing _ hT R hb2) rfl rfl R.o (by rw [hT.1]; rfl) (nle rfl) (by decide) (by decide) ?_
    rintro x w' ⟨rfl, b', rfl, hb'⟩
    exact j_aret C E rfl rfl (by decide) (by decide) ⟨c, b', Cext.rf, rfl, by unfold ansCell; rw [hx]; exact hb', by unfold ansCell; rw [hx]; exact R, RM.rf⟩
  | none =>
    refine j_ifT C rfl (by decide) ?_
    refine j_callS C rfl (fc_V_V_isSlot V (by decide)) (m_V_isSlot _ hT (v - 4)) rfl rfl (nle rfl) (by decide) (by decide) ?_
    rintro x w' ⟨rfl, rfl⟩
    cases hy : ixO 4 (v - 4) with
    | some q =>
      obtain ⟨hq4, hq⟩ := ixO_lt (by decide) hy
      refine j_ifF C rfl (show fw_cb _ (bI true) 0 = false by decide) ?_
      refine j_get C rfl (fg_V_H_slots V) e0 rfl ?_
      refine j_aastI C rfl e3 hT.2.1 q hq hq4 (by decide) (put_ref hT ha) ?_
      have R1 := R.setS hi e3 (q := q) ha
      have hrm : RM w' _ := RM.up (y := some (.inl (aR, 4, .inr (va_up f q (some a))))) e3 (fun l h => by cases h)
      generalize va_up w' (cS c i) (some (.inl (aR, 4, .inr (va_up f q (some a))))) = w1 at R1 hrm ⊢
      refine j_callS C rfl (fc_V_V_numeral V (by decide)) (m_V_numeral _ hT 0) rfl rfl (nle rfl) (by decide) (by decide) ?_
      rintro x w' ⟨q', hq', rfl, rfl⟩
      exact j_aret C E rfl rfl (by decide) (by decide) ⟨c, q', Cext.rf, rfl, by unfold ansCell; rw [hx, hy]; exact va_up_self _ _ _, by unfold ansCell; rw [hx, hy]; exact R1.grow hq', hrm.tr (RM.new hq')⟩
    | none =>
      refine j_ifT C rfl (by decide) ?_
      have hE : ansCell s i v r = if v = 8 then mkR s 0 (tH (sT s i)) none else if v = 9 then gateS s i r else if v = 10 then mkR s 3 (tH (sT s i)) none else if v = 11 then mkR s 7 (tH (sT s i)) none else if v = 12 then mkR s 9 (tH (sT s i)) none else (s, rB) := by unfold ansCell; rw [hx, hy]
      rw [hE] at E
      by_cases h8 : v = 8
      · subst h8
        refine j_tsw (tgt := 76) (o := 34) C rfl (by decide) (by decide) (by decide) (by decide) ?_
        refine j_get C rfl (fg_V_H_home V) e0 rfl ?_
        refine j_callV C rfl (fc_V_V_make V (by decide)) (m_V_make _ hT R 0 (tH (sT s i)) none (fun x h => by cases h)) rfl rfl R.o (by rw [hT.1]; rfl) (nle rfl) (by decide) (by decide) ?_
        rintro v w1 ⟨c', hc, rfl, R1, hrm⟩
        rw [cO_eq hc]
        refine j_callV C rfl (fc_V_V_referenceTo V (by decide)) (m_V_referenceTo _ hT R1 make_lt) rfl rfl R1.o (by rw [hT.1]; rfl) (nle rfl) (by decide) (by decide) ?_
        rintro v w' ⟨rfl, b', rfl, hb'⟩
        exact j_aret C E rfl rfl (by decide) (by decide) ⟨c', b', hc, rfl, hb', R1, hrm⟩
      by_cases h9 : v = 9
      · subst h9
        refine j_tsw (tgt := 91) (o := 49) C rfl (by decide) (by decide) (by decide) (by decide) ?_
        refine j_callV C rfl (fc_V_V_makeGate V (by decide)) (m_V_makeGate _ hT R hi ha) rfl rfl R.o (by rw [hT.1]; rfl) (nle rfl) (by decide) (by decide) ?_
        rintro v w1 ⟨c', b, hc, rfl, hb, R1, hrm⟩
        exact j_aret C E rfl rfl (by decide) (by decide) ⟨c', b, hc, rfl, hb, R1, hrm⟩
      by_cases h10 : v = 10
      · subst h10
        refine j_tsw (tgt := 98) (o := 56) C rfl (by decide) (by decide) (by decide) (by decide) ?_
        refine j_get C rfl (fg_V_H_home V) e0 rfl ?_
        refine j_callV C rfl (fc_V_V_make V (by decide)) (m_V_make _ hT R 3 (tH (sT s i)) none (fun x h => by cases h)) rfl rfl R.o (by rw [hT.1]; rfl) (nle rfl) (by decide) (by decide) ?_
        rintro v w1 ⟨c', hc, rfl, R1, hrm⟩
        rw [cO_eq hc]
        refine j_callV C rfl (fc_V_V_referenceTo V (by decide)) (m_V_referenceTo _ hT R1 make_lt) rfl rfl R1.o (by rw [hT.1]; rfl) (nle rfl) (by decide) (by decide) ?_
        rintro v w' ⟨rfl, b', rfl, hb'⟩
        exact j_aret C E rfl rfl (by decide) (by decide) ⟨c', b', hc, rfl, hb', R1, hrm⟩
      by_cases h11 : v = 11
      · subst h11
        refine j_tsw (tgt := 113) (o := 71) C rfl (by decide) (by decide) (by decide) (by decide) ?_
        refine j_get C rfl (fg_V_H_home V) e0 rfl ?_
        refine j_callV C rfl (fc_V_V_make V (by decide)) (m_V_make _ hT R 7 (tH (sT s i)) none (fun x h => by cases h)) rfl rfl R.o (by rw [hT.1]; rfl) (nle rfl) (by decide) (by decide) ?_
        rintro v w1 ⟨c', hc, rfl, R1, hrm⟩
        rw [cO_eq hc]
        refine j_callV C rfl (fc_V_V_referenceTo V (by decide)) (m_V_referenceTo _ hT R1 make_lt) rfl rfl R1.o (by rw [hT.1]; rfl) (nle rfl) (by decide) (by decide) ?_
        rintro v w' ⟨rfl, b', rfl, hb'⟩
        exact j_aret C E rfl rfl (by decide) (by decide) ⟨c', b', hc, rfl, hb', R1, hrm⟩
      by_cases h12 : v = 12
      · subst h12
        refine j_tsw (tgt := 129) (o := 87) C rfl (by decide) (by decide) (by decide) (by decide) ?_
        refine j_get C rfl (fg_V_H_home V) e0 rfl ?_
        refine j_callV C rfl (fc_V_V_make V (by decide)) (m_V_make _ hT R 9 (tH (sT s i)) none (fun x h => by cases h)) rfl rfl R.o (by rw [hT.1]; rfl) (nle rfl) (by decide) (by decide) ?_
        rintro v w1 ⟨c', hc, rfl, R1, hrm⟩
        rw [cO_eq hc]
        refine j_callV C rfl (fc_V_V_referenceTo V (by decide)) (m_V_referenceTo _ hT R1 make_lt) rfl rfl R1.o (by rw [hT.1]; rfl) (nle rfl) (by decide) (by decide) ?_
        rintro v w' ⟨rfl, b', rfl, hb'⟩
        exact j_aret C E rfl rfl (by decide) (by decide) ⟨c', b', hc, rfl, hb', R1, hrm⟩
      · rw [if_neg h8, if_neg h9, if_neg h10, if_neg h11, if_neg h12] at E
        have n8 := ne_int (k := 8) (z := 8) (by decide) h8
        have n9 := ne_int (k := 9) (z := 9) (by decide) h9
        have n10 := ne_int (k := 10) (z := 10) (by decide) h10
        have n11 := ne_int (k := 11) (z := 11) (by decide) h11
        have n12 := ne_int (k := 12) (z := 12) (by decide) h12
        refine j_tsd (tgt := 145) C rfl (by omega) (by decide) ?_
        refine j_get C rfl (fg_V_V_broken V) R.o rfl ?_
        exact j_aret C E rfl rfl (by decide) (by decide) ⟨c, _, Cext.rf, rfl, R.broken, R, RM.rf⟩
end ANS3
end
section
/-! answer, wrapAsNoted, relays, relay. -/
def answerS (s : St) (i : Nat) (v : Int32) (r : Rf) : St × Rf :=
  if tK (sT s i) = 0 then ansCell s i v r else
  if tK (sT s i) = 1 then (if v = 0 then (s, rTo (tF (sT s i))) else ansRev s i v) else
  if tK (sT s i) = 3 then ansBrand s i v else
  if tK (sT s i) = 4 then (if v = 0 then boxS s i r else (s, rB)) else
  if tK (sT s i) = 5 then (if v = 0 then unsealS s i r else (s, rB)) else
  if tK (sT s i) = 7 then (if v = 0 then moneyS s i r else (s, rB)) else
  if tK (sT s i) = 8 then ansPurse s i v r else
  if tK (sT s i) = 9 then (if v = 0 then wrapS s r i 0 else ansRev s i v) else (s, rB)
def ansO (s : St) (o : Option Nat) (v : Int32) (r : Rf) : St × Rf := match o with
  | none => (s, rB)
  | some i => answerS s i v r
section ANSW
variable {T : fw_T} {w : fw_W} {c : Cfg} {s : St}
set_option maxHeartbeats 4000000 in
theorem m_V_answer (l : Launch) (hT : TOK T) (R : Rp w c s) (hV : rvOK s) {o : Option Nat} {j : Nat} (ho : ∀ i, o = some i → i < sN s) (hj : j < sK s) : Ct l T y_V_answer W_V_answer rm_V_answer [.inr (some (cO c)), .inr (o.map (cT c)), .inr (some (cM c j))] w (PA w c s (ansO s o (mV (sM s j)) (mA (sM s j)))) := by
  refine ct_V_answer rfl (nle rfl) ?_
  intro X hl C E
  have V := hv_V_answer hT
  cases o with
  | none =>
    refine j_ifnn C rfl (fun _ h => by cases h) (fun _ => ?_)
    refine j_get C rfl (fg_V_V_broken V) R.o rfl ?_
    exact j_aret C E rfl rfl (by decide) (by decide) ⟨c, _, Cext.rf, rfl, R.broken, R, RM.rf⟩
  | some i =>
    have hi := ho i rfl
    obtain ⟨bb, ekm, pr, tg, ar, an, m0, m1, m2, m3, -⟩ := R.aM hj
    obtain ⟨ek, sf, hd, f, e0, -⟩ := R.aT hi
    have E : fw_ends T G_V_answer X (PA w c s (answerS s i (mV (sM s j)) (mA (sM s j)))) := E
    generalize hv : mV (sM s j) = v at E
    generalize hr : mA (sM s j) = r at E m3
    have br : answerS s i v r = (s, rB) → ∀ pc, (fw_go (fw_from (gT G_V_answer) pc) [some (.inr (some (cO c))), some (.inr (some (cT c i))), some (.inr (some (cM c j))), some (.inl v), some (.inr (some ar))] [] = some ((pc + 1, .getfield 18, 3, pc + 4, 0, 0), [some (.inr (some (cO c))), some (.inr (some (cT c i))), some (.inr (some (cM c j))), some (.inl v), some (.inr (some ar))], [.inr (some (cO c))])) → (fw_go (fw_from (gT G_V_answer) (pc + 4)) [some (.inr (some (cO c))), some (.inr (some (cT c i))), some (.inr (some (cM c j))), some (.inl v), some (.inr (some ar))] [.inr (some (cB c))] = some ((pc + 4, .areturn, 1, pc + 5, 0, 0), [some (.inr (some (cO c))), some (.inr (some (cT c i))), some (.inr (some (cM c j))), some (.inl v), some (.inr (some ar))], [.inr (some (cB c))])) → J T G_V_answer X pc [some (.inr (some (cO c))), some (.inr (some (cT c i))), some (.inr (some (cM c j))), some (.inl v), some (.inr (some ar))] [] w 0 0 := fun hb pc h1 h2 => by
      refine j_get C h1 (fg_V_V_broken V) R.o rfl ?_
      rw [hb] at E
      exact j_aret C E h2 rfl (by decide) (by decide) ⟨c, _, Cext.rf, rfl, R.broken, R, RM.rf⟩
    refine j_ifnn C rfl (fun _ _ => ?_) (fun h => by cases h)
    refine j_get C rfl (fg_V_M_verb V) m0 rfl ?_
    refine j_get C rfl (fg_V_M_argument V) m0 rfl ?_
    refine j_get C rfl (fg_V_H_kind V) e0 rfl ?_
    rw [hv]
    generalize hk : tK (sT s i) = κ
    by_cases k0 : κ = 0
    · subst k0
      have hA : answerS s i v r = ansCell s i v r := by unfold answerS; rw [if_pos hk]
      rw [hA] at E
      refine j_tsw (tgt := 80) (o := 56) C rfl (by decide) (by decide) (by decide) (by decide) ?_
      refine j_callV C rfl (fc_V_V_answerOfCell V (by decide)) (m_V_answerOfCell _ hT R hi v m3) rfl rfl R.o (by rw [hT.1]; rfl) (nle rfl) (by decide) (by decide) ?_
      rintro x w1 ⟨c', b, hc, rfl, hb, R1, hrm⟩
      exact j_aret C E rfl rfl (by decide) (by decide) ⟨c', b, hc, rfl, hb, R1, hrm⟩
    by_cases k1 : κ = 1
    · subst k1
      have hA : answerS s i v r = if v = 0 then (s, rTo (tF (sT s i))) else ansRev s i v := by unfold answerS; rw [hk]; rfl
      rw [hA] at E
      refine j_tsw (tgt := 89) (o := 65) C rfl (by decide) (by decide) (by decide) (by decide) ?_
      by_cases h0 : v = 0
      · rw [if_pos h0] at E
        refine j_ifF C rfl (by rw [h0]; decide) ?_
        refine j_get C rfl (fg_V_H_facet V) e0 rfl ?_
        refine j_callV C rfl (fc_V_V_referenceTo V (by decide)) (m_V_referenceTo _ hT R ek.2) rfl rfl R.o (by rw [hT.1]; rfl) (nle rfl) (by decide) (by decide) ?_
        rintro x w' ⟨rfl, b', rfl, hb'⟩
        refine j_goto C rfl ?_
        exact j_aret C E rfl rfl (by decide) (by decide) ⟨c, b', Cext.rf, rfl, hb', R, RM.rf⟩
      · rw [if_neg h0] at E
        refine j_if C rfl (fun _ => ?_) (fun q => absurd h0 q)
        refine j_callV C rfl (fc_V_V_answerOfRevocable V (by decide)) (m_V_answerOfRevocable _ hT R hV hi v) rfl rfl R.o (by rw [hT.1]; rfl) (nle rfl) (by decide) (by decide) ?_
        rintro x w1 ⟨c', b, hc, rfl, hb, R1, hrm⟩
        exact j_aret C E rfl rfl (by decide) (by decide) ⟨c', b, hc, rfl, hb, R1, hrm⟩
    by_cases k3 : κ = 3
    · subst k3
      have hA : answerS s i v r = ansBrand s i v := by unfold answerS; rw [hk]; rfl
      rw [hA] at E
      refine j_tsw (tgt := 111) (o := 87) C rfl (by decide) (by decide) (by decide) (by decide) ?_
      refine j_callV C rfl (fc_V_V_answerOfBrand V (by decide)) (m_V_answerOfBrand _ hT R hi v) rfl rfl R.o (by rw [hT.1]; rfl) (nle rfl) (by decide) (by decide) ?_
      rintro x w1 ⟨c', b, hc, rfl, hb, R1, hrm⟩
      exact j_aret C E rfl rfl (by decide) (by decide) ⟨c', b, hc, rfl, hb, R1, hrm⟩
    by_cases k4 : κ = 4
    · subst k4
      have hA : answerS s i v r = if v = 0 then boxS s i r else (s, rB) := by unfold answerS; rw [hk]; rfl
      refine j_tsw (tgt := 118) (o := 94) C rfl (by decide) (by decide) (by decide) (by decide) ?_
      by_cases h0 : v = 0
      · rw [hA, if_pos h0] at E
        refine j_ifF C rfl (by rw [h0]; decide) ?_
        refine j_callV C rfl (fc_V_V_makeBox V (by decide)) (m_V_makeBox _ hT R hi m3) rfl rfl R.o (by rw [hT.1]; rfl) (nle rfl) (by decide) (by decide) ?_
        rintro x w1 ⟨c', b, hc, rfl, hb, R1, hrm⟩
        refine j_goto C rfl ?_
        exact j_aret C E rfl rfl (by decide) (by decide) ⟨c', b, hc, rfl, hb, R1, hrm⟩
      · refine j_if C rfl (fun _ => ?_) (fun q => absurd h0 q)
        exact br (by rw [hA, if_neg h0]) _ rfl rfl
    by_cases k5 : κ = 5
    · subst k5
      have hA : answerS s i v r = if v = 0 then unsealS s i r else (s, rB) := by unfold answerS; rw [hk]; rfl
      refine j_tsw (tgt := 137) (o := 113) C rfl (by decide) (by decide) (by decide) (by decide) ?_
      by_cases h0 : v = 0
      · rw [hA, if_pos h0] at E
        refine j_ifF C rfl (by rw [h0]; decide) ?_
        refine j_callV C rfl (fc_V_V_unseal V (by decide)) (m_V_unseal _ hT R hi m3) rfl rfl R.o (by rw [hT.1]; rfl) (nle rfl) (by decide) (by decide) ?_
        rintro x w1 ⟨c', b, hc, rfl, hb, R1, hrm⟩
        refine j_goto C rfl ?_
        exact j_aret C E rfl rfl (by decide) (by decide) ⟨c', b, hc, rfl, hb, R1, hrm⟩
      · refine j_if C rfl (fun _ => ?_) (fun q => absurd h0 q)
        exact br (by rw [hA, if_neg h0]) _ rfl rfl
    by_cases k7 : κ = 7
    · subst k7
      have hA : answerS s i v r = if v = 0 then moneyS s i r else (s, rB) := by unfold answerS; rw [hk]; rfl
      refine j_tsw (tgt := 156) (o := 132) C rfl (by decide) (by decide) (by decide) (by decide) ?_
      by_cases h0 : v = 0
      · rw [hA, if_pos h0] at E
        refine j_ifF C rfl (by rw [h0]; decide) ?_
        refine j_callV C rfl (fc_V_V_makeMoney V (by decide)) (m_V_makeMoney _ hT R hi m3) rfl rfl R.o (by rw [hT.1]; rfl) (nle rfl) (by decide) (by decide) ?_
        rintro x w1 ⟨c', b, hc, rfl, hb, R1, hrm⟩
        refine j_goto C rfl ?_
        exact j_aret C E rfl rfl (by decide) (by decide) ⟨c', b, hc, rfl, hb, R1, hrm⟩
      · refine j_if C rfl (fun _ => ?_) (fun q => absurd h0 q)
        exact br (by rw [hA, if_neg h0]) _ rfl rfl
    by_cases k8 : κ = 8
    · subst k8
      have hA : answerS s i v r = ansPurse s i v r := by unfold answerS; rw [hk]; rfl
      rw [hA] at E
      refine j_tsw (tgt := 175) (o := 151) C rfl (by decide) (by decide) (by decide) (by decide) ?_
      refine j_callV C rfl (fc_V_V_answerOfPurse V (by decide)) (m_V_answerOfPurse _ hT R hi v m3) rfl rfl R.o (by rw [hT.1]; rfl) (nle rfl) (by decide) (by decide) ?_
      rintro x w1 ⟨c', b, hc, rfl, hb, R1, hrm⟩
      exact j_aret C E rfl rfl (by decide) (by decide) ⟨c', b, hc, rfl, hb, R1, hrm⟩
    by_cases k9 : κ = 9
    · subst k9
      have hA : answerS s i v r = if v = 0 then wrapS s r i 0 else ansRev s i v := by unfold answerS; rw [hk]; rfl
      refine j_tsw (tgt := 184) (o := 160) C rfl (by decide) (by decide) (by decide) (by decide) ?_
      by_cases h0 : v = 0
      · rw [hA, if_pos h0] at E
        refine j_ifF C rfl (by rw [h0]; decide) ?_
        refine j_callV C rfl (fc_V_V_wrap V (by decide)) (m_V_wrap _ hT R m3 hi (Or.inl rfl)) rfl rfl R.o (by rw [hT.1]; rfl) (nle rfl) (by decide) (by decide) ?_
        rintro x w1 ⟨c', b, hc, rfl, hb, R1, hrm⟩
        refine j_goto C rfl ?_
        exact j_aret C E rfl rfl (by decide) (by decide) ⟨c', b, hc, rfl, hb, R1, hrm⟩
      · rw [hA, if_neg h0] at E
        refine j_if C rfl (fun _ => ?_) (fun q => absurd h0 q)
        refine j_callV C rfl (fc_V_V_answerOfRevocable V (by decide)) (m_V_answerOfRevocable _ hT R hV hi v) rfl rfl R.o (by rw [hT.1]; rfl) (nle rfl) (by decide) (by decide) ?_
        rintro x w1 ⟨c', b, hc, rfl, hb, R1, hrm⟩
        exact j_aret C E rfl rfl (by decide) (by decide) ⟨c', b, hc, rfl, hb, R1, hrm⟩
    · have hA : answerS s i v r = (s, rB) := by unfold answerS; rw [hk, if_neg k0, if_neg k1, if_neg k3, if_neg k4, if_neg k5, if_neg k7, if_neg k8, if_neg k9]
      by_cases k2 : κ = 2
      · subst k2
        refine j_tsw (tgt := 206) (o := 182) C rfl (by decide) (by decide) (by decide) (by decide) ?_
        exact br hA _ rfl rfl
      by_cases k6 : κ = 6
      · subst k6
        refine j_tsw (tgt := 206) (o := 182) C rfl (by decide) (by decide) (by decide) (by decide) ?_
        exact br hA _ rfl rfl
      have n0 := ne_int (k := 0) (z := 0) (by decide) k0
      have n1 := ne_int (k := 1) (z := 1) (by decide) k1
      have n2 := ne_int (k := 2) (z := 2) (by decide) k2
      have n3 := ne_int (k := 3) (z := 3) (by decide) k3
      have n4 := ne_int (k := 4) (z := 4) (by decide) k4
      have n5 := ne_int (k := 5) (z := 5) (by decide) k5
      have n6 := ne_int (k := 6) (z := 6) (by decide) k6
      have n7 := ne_int (k := 7) (z := 7) (by decide) k7
      have n8 := ne_int (k := 8) (z := 8) (by decide) k8
      have n9 := ne_int (k := 9) (z := 9) (by decide) k9
      refine j_tsd (tgt := 206) C rfl (by omega) (by decide) ?_
      exact br hA _ rfl rfl
end ANSW
end
section
/-! wrapAsNoted, noteDown, relays, relay. -/
def cut (s : St) (i : Nat) : Int32 := match tO (sT s i) with
  | none => 1
  | some o => tV (sT s o)
/-- one note: broken where the membrane is revoked, else wrapped -/
def noteS (s : St) (p : Nat) (r : Rf) : St × Rf := match tO (sT s p) with
  | none => (s, rB)
  | some o => if tV (sT s o) = 0 then wrapS s r o (tI (sT s p)) else (s, rB)
def wanS : List Nat → St → Rf → St × Rf
  | [], s, r => (s, r)
  | p :: ps, s, r => wanS ps (noteS s p r).1 (noteS s p r).2
theorem mkW_st {s : St} {m : Rf} {mb : Nat} {inw : Int32} : sN s ≤ sN (mkW s m mb inw).1 ∧ (∀ i, i < sN s → sT (mkW s m mb inw).1 i = sT s i) ∧ (mkW s m mb inw).1.2.2 = s.2.2 := by
  unfold mkW
  by_cases h : sN s < 40
  · rw [if_pos h]; exact ⟨Nat.le_succ _, fun i hi => va_up_ne _ _ (Nat.ne_of_lt hi), rfl⟩
  · rw [if_neg h]; exact ⟨Nat.le_refl _, fun i hi => rfl, rfl⟩
theorem wrapS_st {s : St} {r : Rf} {mb : Nat} {inw : Int32} : sN s ≤ sN (wrapS s r mb inw).1 ∧ (∀ i, i < sN s → sT (wrapS s r mb inw).1 i = sT s i) ∧ (wrapS s r mb inw).1.2.2 = s.2.2 := by
  unfold wrapS
  split
  · split
    · exact ⟨Nat.le_refl _, fun i hi => rfl, rfl⟩
    · split
      · exact ⟨Nat.le_refl _, fun i hi => rfl, rfl⟩
      · exact mkW_st
  · exact ⟨Nat.le_refl _, fun i hi => rfl, rfl⟩
theorem noteS_st {s : St} {p : Nat} {r : Rf} : sN s ≤ sN (noteS s p r).1 ∧ (∀ i, i < sN s → sT (noteS s p r).1 i = sT s i) ∧ (noteS s p r).1.2.2 = s.2.2 := by
  unfold noteS
  split
  · exact ⟨Nat.le_refl _, fun i hi => rfl, rfl⟩
  · split
    · exact wrapS_st
    · exact ⟨Nat.le_refl _, fun i hi => rfl, rfl⟩
/-- the new things of a wrapping are as things should be -/
theorem mkW_new {P : Th → Prop} {s : St} {m : Rf} {mb : Nat} {inw : Int32} (h : ∀ i, i < sN s → P (sT s i)) (hn : P (wrT (tH (sT s mb)) mb m inw)) : ∀ i, i < sN (mkW s m mb inw).1 → P (sT (mkW s m mb inw).1 i) := by
  unfold mkW
  by_cases h4 : sN s < 40
  · rw [if_pos h4]
    intro i hi
    by_cases hin : i = sN s
    · subst hin
      show P (va_up (sT s) (sN s) _ (sN s))
      rw [va_up_self]; exact hn
    · show P (va_up (sT s) (sN s) _ i)
      rw [va_up_ne _ _ hin]; exact h i (by have : i < sN s + 1 := hi; omega)
  · rw [if_neg h4]; exact h
theorem wrapS_new {P : Th → Prop} {s : St} {r : Rf} {mb : Nat} {inw : Int32} (h : ∀ i, i < sN s → P (sT s i)) (hn : ∀ m, P (wrT (tH (sT s mb)) mb m inw)) : ∀ i, i < sN (wrapS s r mb inw).1 → P (sT (wrapS s r mb inw).1 i) := by
  unfold wrapS
  split
  · split
    · exact h
    · split
      · exact h
      · exact mkW_new h (hn _)
  · exact h
theorem rvOK.wrap {s : St} (hV : rvOK s) {r : Rf} {mb : Nat} {inw : Int32} (hz : inw = 0 ∨ inw = 1) : rvOK (wrapS s r mb inw).1 := wrapS_new (P := fun t => (tV t = 0 ∨ tV t = 1) ∧ (tI t = 0 ∨ tI t = 1)) hV (fun m => ⟨Or.inl rfl, hz⟩)
theorem hmOK.wrap {s : St} (hV : hmOK s) {r : Rf} {mb : Nat} (hmb : mb < sN s) {inw : Int32} : hmOK (wrapS s r mb inw).1 := wrapS_new (P := fun t => ∃ h, h < 3 ∧ tH t = nI h) hV (fun m => hV mb hmb)
theorem rvOK.note {s : St} (hV : rvOK s) {p : Nat} (hp : p < sN s) {r : Rf} : rvOK (noteS s p r).1 := by
  unfold noteS
  split
  · exact hV
  · split
    · exact hV.wrap (hV p hp).2
    · exact hV
section RLY
variable {T : fw_T} {w : fw_W} {c : Cfg} {s : St}
theorem i_m1 (x : Int32) : x + -1 = x - 1 := (Int32.sub_eq_add_neg x 1).symm
set_option maxHeartbeats 4000000 in
theorem m_V_wrapAsNoted (l : Launch) (hT : TOK T) (R : Rp w c s) (hV : rvOK s) {a j : Nat} {r : Rf} (ha : IsR w a r) (hj : j < sK s) : Ct l T y_V_wrapAsNoted W_V_wrapAsNoted rm_V_wrapAsNoted [.inr (some (cO c)), .inr (some a), .inr (some (cM c j))] w (PA w c s (wanS (mW (sM s j)).reverse s r)) := by
  refine ct_V_wrapAsNoted rfl (nle rfl) ?_
  intro X hl C E
  have V := hv_V_wrapAsNoted hT
  obtain ⟨bb0, ⟨ekn, -, ek8⟩, -⟩ := R.aM hj
  have loop : ∀ (ps : List Nat) (w1 : fw_W) (c1 : Cfg) (s1 : St) (b : Nat) (r1 : Rf) (z5 z6 : Option fw_V), (mW (sM s j)).take ps.length = ps.reverse → ps.length ≤ (mW (sM s j)).length → Rp w1 c1 s1 → CX s c c1 → sN s ≤ sN s1 → s1.2.2 = s.2.2 → rvOK s1 → RM w w1 → IsR w1 b r1 → wanS ps s1 r1 = wanS (mW (sM s j)).reverse s r → J T G_V_wrapAsNoted X 10 [some (.inr (some (cO c))), some (.inr (some a)), some (.inr (some (cM c j))), some (.inr (some b)), some (.inl (nI ps.length - 1)), z5, z6] [] w1 ((8 - ps.length) * 3) ((8 - ps.length) * 17) := by
    intro ps
    induction ps with
    | nil =>
      intro w1 c1 s1 b r1 z5 z6 _ _ R1 hc _ _ _ hrm hb he
      refine j_ifT C rfl (by decide) ?_
      rw [← he] at E
      exact j_aret C E rfl rfl (by decide) (by decide) ⟨c1, b, hc, rfl, hb, R1, hrm⟩
    | cons p ps ih =>
      intro w1 c1 s1 b r1 z5 z6 htk hlen R1 hc hle h22 hV1 hrm hb he
      have hl8 : ps.length + 1 ≤ 8 := by rw [List.length_cons] at hlen; omega
      have hnum : nI (p :: ps).length - 1 = nI ps.length := nI_pred _
      rw [hnum]
      refine j_if C rfl (fun h => absurd h (nI_pos (by omega))) (fun _ => ?_)
      have hjk : j < sK s1 := by show j < s1.2.2.1; rw [h22]; exact hj
      have hmj : sM s1 j = sM s j := by show s1.2.2.2.1 j = _; rw [h22]
      obtain ⟨bb, ekm, pr, tg, ar, an, m0, m1, m2, m3, m4, m5⟩ := R1.aM hjk
      rw [hmj, (hc.2.2.1 j hj).1] at m0
      rw [hmj] at m5 ekm
      refine j_get C rfl (fg_V_M_passed V) m0 rfl ?_
      have hget : (mW (sM s j))[ps.length]? = some p := by
        have h1 : ((mW (sM s j)).take (ps.length + 1))[ps.length]? = some p := by
          rw [show ps.length + 1 = (p :: ps).length from rfl, htk, List.reverse_cons, List.getElem?_append_right (by rw [List.length_reverse]; exact Nat.le_refl _), List.length_reverse, Nat.sub_self]
          rfl
        rw [List.getElem?_take_of_lt (Nat.lt_succ_self _)] at h1
        exact h1
      have hpn0 : p < sN s := ekn p (List.mem_of_getElem? hget)
      have hpn : p < sN s1 := by omega
      refine j_aaldI C rfl m5 hT.2.2.1 ps.length rfl (by omega) (by decide) ?_
      rw [hget]
      refine j_ifnull C rfl (fun h => by cases h) (fun _ _ => ?_)
      obtain ⟨ek, sf, hd, f, e0, -⟩ := R1.aT hpn
      have hlc : (p :: ps).length = ps.length + 1 := rfl
      have next : ∀ (w2 : fw_W) (c2 : Cfg) (s2 : St) (b2 : Nat) (r2 : Rf) (z6 : Option fw_V) (kk nn : Nat), noteS s1 p r1 = (s2, r2) → Rp w2 c2 s2 → CX s c c2 → RM w w2 → IsR w2 b2 r2 → kk ≤ (8 - ps.length) * 3 → nn ≤ (8 - ps.length) * 17 → J T G_V_wrapAsNoted X 71 [some (.inr (some (cO c))), some (.inr (some a)), some (.inr (some (cM c j))), some (.inr (some b)), some (.inl (nI ps.length)), some (.inr (some (cT c1 p))), z6] [.inr (some b2)] w2 kk nn := by
        intro w2 c2 s2 b2 r2 z6 kk nn hq R2 hc2 hrm2 hb2 hk hn
        refine j_goto C rfl (j_wide hk hn ?_)
        have h1 : sN s1 ≤ sN s2 := by have := (noteS_st (s := s1) (p := p) (r := r1)).1; rw [hq] at this; exact this
        have h2 : s2.2.2 = s1.2.2 := by have := (noteS_st (s := s1) (p := p) (r := r1)).2.2; rw [hq] at this; exact this
        have h3 : rvOK s2 := by have := hV1.note (p := p) hpn (r := r1); rw [hq] at this; exact this
        have := ih w2 c2 s2 b2 r2 (some (.inr (some (cT c1 p)))) z6 (by
          have h4 : (mW (sM s j)).take ps.length = ((mW (sM s j)).take (p :: ps).length).take ps.length := by rw [List.take_take, hlc, Nat.min_eq_left (Nat.le_succ _)]
          rw [h4, htk, List.reverse_cons, List.take_append_of_le_length (by rw [List.length_reverse]; exact Nat.le_refl _), List.take_of_length_le (by rw [List.length_reverse]; exact Nat.le_refl _)]) (by omega) R2 hc2 (by omega) (h2.trans h22) h3 hrm2 hb2 (by rw [← he]; show _ = wanS ps (noteS s1 p r1).1 (noteS s1 p r1).2; rw [hq])
        rw [← i_m1] at this
        exact this
      refine j_callV C rfl (fc_V_H_isCutOff V (by decide)) (m_H_isCutOff _ hT R1 hpn (fun q hq => (hV1 q hq).1)) rfl rfl e0 (by rw [hT.1]; rfl) (nle rfl) (by show (8 - (p :: ps).length) * 3 + 0 ≤ 24; omega) (by show (8 - (p :: ps).length) * 17 + 0 ≤ 136; omega) ?_
      rintro v w' ⟨rfl, rfl⟩
      have brk : noteS s1 p r1 = (s1, rB) → ∀ z6 kk nn, kk ≤ (8 - ps.length) * 3 → nn ≤ (8 - ps.length) * 17 → J T G_V_wrapAsNoted X 37 [some (.inr (some (cO c))), some (.inr (some a)), some (.inr (some (cM c j))), some (.inr (some b)), some (.inl (nI ps.length)), some (.inr (some (cT c1 p))), z6] [] w' kk nn := by
        intro hq z6 kk nn hk hn
        refine j_goto C rfl ?_
        refine j_ifF C rfl (by decide) ?_
        have ho := R1.o
        rw [← cO_eq hc] at ho
        refine j_get C rfl (fg_V_V_broken V) ho rfl ?_
        refine j_goto C rfl ?_
        exact next w' c1 s1 _ rB _ kk nn hq R1 hc hrm R1.broken hk hn
      cases hto : tO (sT s1 p) with
      | none =>
        refine j_ifF C rfl (show fw_cb _ (1 : Int32) 0 = false by decide) ?_
        exact brk (by unfold noteS; rw [hto]) _ _ _ (by rw [hlc]; show (8 - (ps.length + 1)) * 3 + 0 ≤ _; omega) (by rw [hlc]; show (8 - (ps.length + 1)) * 17 + 0 ≤ _; omega)
      | some o =>
        have hon : o < sN s1 := ek.1 o hto
        rcases (hV1 o hon).1 with h0 | h1
        · refine j_ifT C rfl (by show fw_cb _ (tV (sT s1 o)) 0 = true; rw [h0]; decide) ?_
          refine j_ifT C rfl (by decide) ?_
          unfold cellT at e0
          rw [hto] at e0
          refine j_get C rfl (fg_V_H_owner V) e0 rfl ?_
          refine j_get C rfl (fg_V_H_inward V) e0 rfl ?_
          have ho := cO_eq hc
          rw [ho]
          refine j_callV C rfl (fc_V_V_wrap V (by decide)) (m_V_wrap _ hT R1 hb hon (hV1 p hpn).2) rfl rfl R1.o (by rw [hT.1]; rfl) (nle rfl) (by show (8 - (p :: ps).length) * 3 + 0 + 3 ≤ 24; rw [hlc]; omega) (by show (8 - (p :: ps).length) * 17 + 0 + 17 ≤ 136; rw [hlc]; omega) ?_
          rintro v w2 ⟨c2, b2, hc2, rfl, hb2, R2, hrm2⟩
          have hq : noteS s1 p r1 = ((wrapS s1 r1 o (tI (sT s1 p))).1, (wrapS s1 r1 o (tI (sT s1 p))).2) := by unfold noteS; rw [hto]; dsimp only; rw [if_pos h0]
          have hk3 : sK s1 = sK s := by show s1.2.2.1 = s.2.2.1; rw [h22]
          rw [← ho]
          exact next w2 c2 _ b2 _ _ _ _ hq R2 (hc.tr hc2 hle (by omega)) (hrm.tr hrm2) hb2 (by rw [hlc]; show (8 - (ps.length + 1)) * 3 + 0 + 3 ≤ _; omega) (by rw [hlc]; show (8 - (ps.length + 1)) * 17 + 0 + 17 ≤ _; omega)
        · refine j_ifF C rfl (by show fw_cb _ (tV (sT s1 o)) 0 = false; rw [h1]; decide) ?_
          exact brk (by unfold noteS; rw [hto]; dsimp only; rw [if_neg (by rw [h1]; decide)]) _ _ _ (by rw [hlc]; show (8 - (ps.length + 1)) * 3 + 0 ≤ _; omega) (by rw [hlc]; show (8 - (ps.length + 1)) * 17 + 0 ≤ _; omega)
  obtain ⟨bb, ekm, pr, tg, ar, an, m0, -⟩ := R.aM hj
  refine j_get C rfl (fg_V_M_noteCount V) m0 rfl ?_
  refine j_to C 10 rfl ?_
  have := loop (mW (sM s j)).reverse w c s a r none none (by rw [List.length_reverse, List.reverse_reverse, List.take_length]) (by rw [List.length_reverse]; exact Nat.le_refl _) R Cext.rf (Nat.le_refl _) rfl hV RM.rf ha rfl
  rw [List.length_reverse] at this
  exact j_wide (Nat.zero_le _) (Nat.zero_le _) this
end RLY
end
section
/-! noteDown, relays, relay. -/
def relaysS (s : St) (i j : Nat) : Bool := decide (cut s i = 0 ∧ (tK (sT s i) = 2 ∨ (tK (sT s i) = 10 ∧ (mW (sM s j)).length < 8)))
abbrev upM (s : St) (j : Nat) (m : Ms) : St := (sN s, sT s, sK s, va_up (sM s) j m, sL s)
abbrev upL (s : St) (i : Nat) (l : List Nat) : St := (sN s, sT s, sK s, sM s, va_up (sL s) i l)
abbrev mTg (m : Ms) (r : Rf) : Ms := (mV m, r, mA m, mN m, mP m, mW m)
abbrev mAr (m : Ms) (r : Rf) (i : Nat) : Ms := (mV m, mT m, r, mN m, mP m, mW m ++ [i])
/-- a wrapper's part of relaying: the argument wrapped the other way, the note -/
def relW (s : St) (i j : Nat) : St := match tO (sT s i) with
  | none => s
  | some o => if tK (sT s i) = 10 then upM (wrapS s (mA (sM s j)) o (1 - tI (sT s i))).1 j (mAr (sM s j) (wrapS s (mA (sM s j)) o (1 - tI (sT s i))).2 i) else s
def relayS (s : St) (i j : Nat) : St := upL (upM (relW s i j) j (mTg (sM (relW s i j) j) (tD (sT (relW s i j) i)))) 3 (sL s 3 ++ [j])
section RLY2
variable {T : fw_T} {w : fw_W} {c : Cfg} {s : St}
theorem Rp.msg (R : Rp w c s) {j : Nat} (hj : j < sK s) : ∃ (b : Option Nat) (pr tg ar : Nat) (an : Option Nat), w (cM c j) = some (cellM c j (sM s j) b pr tg ar an) ∧ IsR w tg (mT (sM s j)) ∧ IsR w ar (mA (sM s j)) ∧ isA w an (mN (sM s j)) ∧ w (cP c j) = some (cellP c (sM s j)) ∧ (∀ x, x ∈ mW (sM s j) → x < sN s) ∧ (mW (sM s j)).length ≤ 8 ∧
    (∀ (m : Ms) (tg' ar' : Nat) (an' : Option Nat), IsR w tg' (mT m) → IsR w ar' (mA m) → isA w an' (mN m) → mW m = mW (sM s j) → Rp (va_up w (cM c j) (some (cellM c j m b pr tg' ar' an'))) c (upM s j m)) ∧
    (∀ (m : Ms) (tg' ar' : Nat) (an' : Option Nat), IsR w tg' (mT m) → IsR w ar' (mA m) → isA w an' (mN m) → (∀ x, x ∈ mW m → x < sN s) → (mW m).length ≤ 8 → Rp (va_up (va_up w (cP c j) (some (cellP c m))) (cM c j) (some (cellM c j m b pr tg' ar' an'))) c (upM s j m)) := by
  obtain ⟨bh, lf, RK, hL, hW⟩ := R
  obtain ⟨ek, pr, tg, ar, an, e0, e1, e2, e3, e4, e5⟩ := RK.aM hj
  refine ⟨bh j, pr, tg, ar, an, e0, e2, e3, e4, e5, ek.1, ek.2.2, fun m tg' ar' an' h1 h2 h3 h4 => ?_, fun m tg' ar' an' h1 h2 h3 h4 h5 => ?_⟩
  · have R1 := RK.setM hj (m := m) (b := bh j) ⟨by rw [h4]; exact ek.1, ek.2.1, by rw [h4]; exact ek.2.2⟩ e1 h1 h2 h3 h4
    rw [va_up_same bh] at R1
    exact ⟨bh, lf, R1, hL, hW⟩
  · have R1 := RK.setMP hj (m := m) (b := bh j) ⟨h4, ek.2.1, h5⟩ e1 h1 h2 h3
    rw [va_up_same bh] at R1
    exact ⟨bh, lf, R1, hL, hW⟩
theorem nP_ref {c : Cfg} {m : Ms} : ∀ l, cellP c m ≠ .inr (kR, l) := fun l h => by simp [cellP] at h
set_option maxHeartbeats 1000000 in
theorem m_M_noteDown (l : Launch) (hT : TOK T) (R : Rp w c s) {i j : Nat} (hi : i < sN s) (hj : j < sK s) (h8 : (mW (sM s j)).length < 8) : Ct l T y_M_noteDown W_M_noteDown rm_M_noteDown [.inr (some (cM c j)), .inr (some (cT c i))] w (fun v w' => v = none ∧ Rp w' c (upM s j (mAr (sM s j) (mA (sM s j)) i)) ∧ RM w w') := by
  refine ct_M_noteDown rfl (nle rfl) ?_
  intro X hl C E
  have V := hv_M_noteDown hT
  obtain ⟨b, pr, tg, ar, an, m0, m2, m3, m4, m5, mk, ml, mS, mP⟩ := R.msg hj
  obtain ⟨ek, sf, hd, f, e0, -⟩ := R.aT hi
  refine j_get C rfl (fg_M_M_noteCount V) m0 rfl ?_
  refine j_icmp C rfl (fun h => absurd h (nI_ge h8 (by decide))) (fun _ => ?_)
  refine j_get C rfl (fg_M_M_passed V) m0 rfl ?_
  refine j_get C rfl (fg_M_M_noteCount V) m0 rfl ?_
  refine j_aastI C rfl m5 hT.2.2.1 (mW (sM s j)).length rfl h8 (by decide) (put_obj hT e0 rfl) ?_
  have hP : (Sum.inl (aT, 8, Sum.inr (va_up (fun q => ((mW (sM s j))[q]?).map (cT c)) (mW (sM s j)).length (some (cT c i)))) : fw_E) = cellP c (mAr (sM s j) (mA (sM s j)) i) := by
    unfold cellP
    congr 4
    funext q
    show va_up _ _ _ q = ((mW (sM s j) ++ [i])[q]?).map (cT c)
    by_cases hq : q = (mW (sM s j)).length
    · subst hq
      rw [va_up_self, List.getElem?_append_right (Nat.le_refl _), Nat.sub_self]
      rfl
    · rw [va_up_ne _ _ hq]
      by_cases hq2 : q < (mW (sM s j)).length
      · rw [List.getElem?_append_left hq2]
      · rw [List.getElem?_append_right (by omega), List.getElem?_eq_none (by omega), List.getElem?_eq_none (by simp; omega)]
  rw [hP]
  have m0' : va_up w (cP c j) (some (cellP c (mAr (sM s j) (mA (sM s j)) i))) (cM c j) = some (cellM c j (sM s j) b pr tg ar an) := up_ne m5 m0 (by simp [cellM, cellP])
  refine j_get C rfl (fg_M_M_noteCount V) m0' rfl ?_
  refine j_putE C rfl (fp_M_M_noteCount V) m0' (nlt rfl) (fit_i _) (cellM c j (mAr (sM s j) (mA (sM s j)) i) b pr tg ar an) (by
    have hlen : nI (mW (mAr (sM s j) (mA (sM s j)) i)).length = nI (mW (sM s j)).length + 1 := by
      show nI (mW (sM s j) ++ [i]).length = _
      rw [List.length_append]; exact (nI_1 _).symm
    unfold cellM
    rw [hlen]
    rfl) ?_
  refine j_vret C E rfl rfl (by decide) (by decide) ⟨rfl, mP _ tg ar an m2 m3 m4 (fun x hx => ?_) ?_, fun a r h => (h.up m5 nP_ref).up m0' nM_ref⟩
  · rcases List.mem_append.mp hx with q | q
    · exact mk x q
    · have : x = i := by simpa using q
      omega
  · show (mW (sM s j) ++ [i]).length ≤ 8
    rw [List.length_append]
    exact h8
theorem m_V_relays (l : Launch) (hT : TOK T) (R : Rp w c s) (hV : rvOK s) {i j : Nat} (hi : i < sN s) (hj : j < sK s) : Ct l T y_V_relays W_V_relays rm_V_relays [.inr (some (cT c i)), .inr (some (cM c j))] w (fun v w' => w' = w ∧ v = some (.inl (bI (relaysS s i j)))) := by
  refine ct_V_relays rfl (nle rfl) ?_
  intro X hl C E
  have V := hv_V_relays hT
  obtain ⟨ek, sf, hd, f, e0, -⟩ := R.aT hi
  obtain ⟨b, pr, tg, ar, an, m0, -, -, -, -, -, ml, -⟩ := R.msg hj
  refine j_callV C rfl (fc_V_H_isCutOff V (by decide)) (m_H_isCutOff _ hT R hi (fun q hq => (hV q hq).1)) rfl rfl e0 (by rw [hT.1]; rfl) (nle rfl) (by decide) (by decide) ?_
  rintro v w' ⟨rfl, rfl⟩
  refine j_if (x := cut s i) C rfl (fun hc => ?_) (fun hc => ?_)
  · have hc : cut s i = 0 := hc
    refine j_get C rfl (fg_V_H_kind V) e0 rfl ?_
    refine j_icmp C rfl (fun h2 => ?_) (fun h2 => ?_)
    · refine j_goto C rfl ?_
      exact j_iret C E rfl (Or.inr ⟨rfl, Or.inr rfl⟩) (by decide) (by decide) ⟨rfl, by rw [show relaysS s i j = true from decide_eq_true ⟨hc, Or.inl h2⟩]; rfl⟩
    refine j_get C rfl (fg_V_H_kind V) e0 rfl ?_
    refine j_icmp C rfl (fun h10 => ?_) (fun h10 => ?_)
    · exact j_iret C E rfl (Or.inr ⟨rfl, Or.inl rfl⟩) (by decide) (by decide) ⟨rfl, by rw [show relaysS s i j = false from decide_eq_false (fun q => q.2.elim h2 (fun z => h10 z.1))]; rfl⟩
    refine j_get C rfl (fg_V_M_noteCount V) m0 rfl ?_
    by_cases h8 : (mW (sM s j)).length < 8
    · refine j_icmp C rfl (fun h => absurd h (nI_ge h8 (by decide))) (fun _ => ?_)
      refine j_goto C rfl ?_
      exact j_iret C E rfl (Or.inr ⟨rfl, Or.inr rfl⟩) (by decide) (by decide) ⟨rfl, by rw [show relaysS s i j = true from decide_eq_true ⟨hc, Or.inr ⟨Classical.not_not.mp h10, h8⟩⟩]; rfl⟩
    · refine j_icmpT C rfl (fw_cb_iff.mpr (show nI 8 ≤ nI (mW (sM s j)).length from nI_le (by omega) (by omega))) ?_
      exact j_iret C E rfl (Or.inr ⟨rfl, Or.inl rfl⟩) (by decide) (by decide) ⟨rfl, by rw [show relaysS s i j = false from decide_eq_false (fun q => q.2.elim h2 (fun z => h8 z.2))]; rfl⟩
  · exact j_iret C E rfl (Or.inr ⟨rfl, Or.inl rfl⟩) (by decide) (by decide) ⟨rfl, by rw [show relaysS s i j = false from decide_eq_false (fun q => hc q.1)]; rfl⟩
set_option maxHeartbeats 4000000 in
theorem m_V_relay (l : Launch) (hT : TOK T) (R : Rp w c s) (hV : rvOK s) {i j o : Nat} (hi : i < sN s) (hj : j < sK s) (hto : tO (sT s i) = some o) (h8 : tK (sT s i) = 10 → (mW (sM s j)).length < 8) (hnl : ∀ q, j ∉ sL s q) : Ct l T y_V_relay W_V_relay rm_V_relay [.inr (some (cO c)), .inr (some (cT c i)), .inr (some (cM c j))] w (fun v w' => v = none ∧ ∃ c', CX s c c' ∧ Rp w' c' (relayS s i j)) := by
  refine ct_V_relay rfl (nle rfl) ?_
  intro X hl C E
  have V := hv_V_relay hT
  obtain ⟨ek, sf, hd, f, e0, -⟩ := R.aT hi
  have hon : o < sN s := ek.1 o hto
  have fin : ∀ (w1 : fw_W) (c1 : Cfg) (s1 : St) (kk nn : Nat), Rp w1 c1 s1 → CX s c c1 → sN s ≤ sN s1 → sK s1 = sK s → sL s1 = sL s → relW s i j = s1 → kk ≤ 3 → nn ≤ 17 → J T G_V_relay X 42 [some (.inr (some (cO c))), some (.inr (some (cT c i))), some (.inr (some (cM c j)))] [] w1 kk nn := by
    intro w1 c1 s1 kk nn R1 hc hle hk1 hL1 hs1 hkk hnn
    obtain ⟨ek1, sf1, hd1, f1, g0, g1, g2, -⟩ := R1.aT (i := i) (by omega)
    rw [(hc.2.1 i hi).1] at g0
    refine j_get C rfl (fg_V_H_held V) g0 rfl ?_
    obtain ⟨b, pr, tg, ar, an, m0, m2, m3, m4, m5, mk, ml, mS, -⟩ := R1.msg (j := j) (by omega)
    have m0' := m0
    rw [(hc.2.2.1 j hj).1] at m0'
    refine j_putE C rfl (fp_V_M_target V) m0' (nlt rfl) (fit_o _ _) (cellM c1 j (mTg (sM s1 j) (tD (sT s1 i))) b pr hd1 ar an) rfl ?_
    have R2 := mS (mTg (sM s1 j) (tD (sT s1 i))) hd1 ar an g2 m3 m4 rfl
    rw [(hc.2.2.1 j hj).1] at R2
    generalize va_up w1 (cM c j) (some (cellM c1 j (mTg (sM s1 j) (tD (sT s1 i))) b pr hd1 ar an)) = w2 at R2 ⊢
    have ho := R2.o
    rw [← cO_eq hc] at ho
    refine j_get C rfl (fg_V_V_unrouted V) ho rfl ?_
    have g : ∃ lf0 : Lf, w2 (cL c1 3) = some (cellL c1 lf0) := by obtain ⟨_, lf, R, _⟩ := R2; exact ⟨_, (R.aL (i := 3) (by omega)).1⟩
    obtain ⟨lf0, g⟩ := g
    rw [← (hc.2.2.1 j hj).1]
    refine j_callV C rfl (fc_V_L_join V (by decide)) (m_L_join _ hT R2 (i := 3) (m := j) (by omega) (by show j < sK s1; omega) (by show ∀ q, j ∉ sL s1 q; rw [hL1]; exact hnl)) rfl rfl g (by rw [hT.1]; rfl) (nle rfl) (by show kk + 0 ≤ 3; omega) (by show nn + 0 ≤ 17; omega) ?_
    rintro v w3 ⟨rfl, R3⟩
    refine j_vret C E rfl rfl (by show kk + 0 ≤ 3; omega) (by show nn + 0 ≤ 17; omega) ⟨rfl, c1, hc, ?_⟩
    unfold relayS
    rw [hs1, ← hL1]
    exact R3
  refine j_get C rfl (fg_V_H_kind V) e0 rfl ?_
  refine j_icmp C rfl (fun hk => ?_) (fun hk => ?_)
  · exact fin w c s 0 0 R Cext.rf (Nat.le_refl _) rfl rfl (by unfold relW; rw [hto]; dsimp only; rw [if_neg hk]) (by omega) (by omega)
  have hk : tK (sT s i) = 10 := Classical.not_not.mp hk
  obtain ⟨b, pr, tg, ar, an, m0, m2, m3, m4, m5, mk, ml, mS, -⟩ := R.msg hj
  refine j_get C rfl (fg_V_M_argument V) m0 rfl ?_
  unfold cellT at e0
  rw [hto] at e0
  refine j_get C rfl (fg_V_H_owner V) e0 rfl ?_
  refine j_get C rfl (fg_V_H_inward V) e0 rfl ?_
  have hz := (hV i hi).2
  have go : ∀ z : Int32, z = 1 - tI (sT s i) → J T G_V_relay X 31 [some (.inr (some (cO c))), some (.inr (some (cT c i))), some (.inr (some (cM c j)))] [.inl z, .inr (some (cT c o)), .inr (some ar), .inr (some (cO c)), .inr (some (cM c j))] w 0 0 := by
    intro z hzz
    refine j_callV C rfl (fc_V_V_wrap V (by decide)) (m_V_wrap _ hT R m3 hon (inw := z) (by rw [hzz]; rcases hz with h | h <;> rw [h] <;> decide)) rfl rfl R.o (by rw [hT.1]; rfl) (nle rfl) (by decide) (by decide) ?_
    rintro v w1 ⟨c1, b1, hc1, rfl, hb1, R1, hrm⟩
    subst hzz
    generalize hwx : wrapS s (mA (sM s j)) o (1 - tI (sT s i)) = x at hb1 R1
    have hst := wrapS_st (s := s) (r := mA (sM s j)) (mb := o) (inw := 1 - tI (sT s i))
    rw [hwx] at hst
    have hk1 : sK x.1 = sK s := by show x.1.2.2.1 = s.2.2.1; rw [hst.2.2]
    have hL1 : sL x.1 = sL s := by show x.1.2.2.2.2 = s.2.2.2.2; rw [hst.2.2]
    have hM1 : sM x.1 = sM s := by show x.1.2.2.2.1 = s.2.2.2.1; rw [hst.2.2]
    obtain ⟨b', pr', tg', ar', an', p0, p2, p3, p4, p5, pk, pl, pS, -⟩ := R1.msg (j := j) (by omega)
    have p0' := p0
    rw [(hc1.2.2.1 j hj).1] at p0'
    refine j_putE C rfl (fp_V_M_argument V) p0' (nlt rfl) (fit_o _ _) (cellM c1 j (mV (sM x.1 j), mT (sM x.1 j), x.2, mN (sM x.1 j), mP (sM x.1 j), mW (sM x.1 j)) b' pr' tg' b1 an') rfl ?_
    have R2 := pS (mV (sM x.1 j), mT (sM x.1 j), x.2, mN (sM x.1 j), mP (sM x.1 j), mW (sM x.1 j)) tg' b1 an' p2 hb1 p4 rfl
    rw [(hc1.2.2.1 j hj).1] at R2
    have q0 : va_up w1 (cM c j) (some (cellM c1 j (mV (sM x.1 j), mT (sM x.1 j), x.2, mN (sM x.1 j), mP (sM x.1 j), mW (sM x.1 j)) b' pr' tg' b1 an')) (cM c j) = some (cellM c1 j (mV (sM x.1 j), mT (sM x.1 j), x.2, mN (sM x.1 j), mP (sM x.1 j), mW (sM x.1 j)) b' pr' tg' b1 an') := va_up_self _ _ _
    generalize va_up w1 (cM c j) (some (cellM c1 j (mV (sM x.1 j), mT (sM x.1 j), x.2, mN (sM x.1 j), mP (sM x.1 j), mW (sM x.1 j)) b' pr' tg' b1 an')) = w2 at R2 q0 ⊢
    rw [← (hc1.2.1 i hi).1, ← (hc1.2.2.1 j hj).1] at *
    have hmj : sM (upM x.1 j (mV (sM x.1 j), mT (sM x.1 j), x.2, mN (sM x.1 j), mP (sM x.1 j), mW (sM x.1 j))) j = (mV (sM x.1 j), mT (sM x.1 j), x.2, mN (sM x.1 j), mP (sM x.1 j), mW (sM x.1 j)) := va_up_self _ _ _
    refine j_callV C rfl (fc_V_M_noteDown V (by decide)) (m_M_noteDown _ hT R2 (i := i) (j := j) (by show i < sN x.1; omega) (by show j < sK x.1; omega) (by rw [hmj]; show (mW (sM x.1 j)).length < 8; rw [hM1]; exact h8 hk)) rfl rfl q0 (by rw [hT.1]; rfl) (nle rfl) (by decide) (by decide) ?_
    rintro v w3 ⟨rfl, R3, -⟩
    rw [hmj] at R3
    have hB : upM (upM x.1 j (mV (sM x.1 j), mT (sM x.1 j), x.2, mN (sM x.1 j), mP (sM x.1 j), mW (sM x.1 j))) j (mAr (mV (sM x.1 j), mT (sM x.1 j), x.2, mN (sM x.1 j), mP (sM x.1 j), mW (sM x.1 j)) (mA (mV (sM x.1 j), mT (sM x.1 j), x.2, mN (sM x.1 j), mP (sM x.1 j), mW (sM x.1 j))) i) = upM x.1 j (mAr (sM s j) x.2 i) := by
      show (sN x.1, sT x.1, sK x.1, va_up (va_up (sM x.1) j _) j _, sL x.1) = (sN x.1, sT x.1, sK x.1, va_up (sM x.1) j _, sL x.1)
      rw [bx_uu, hM1]
    rw [hB] at R3
    exact fin w3 c1 _ _ _ R3 hc1 hst.1 hk1 hL1 (by unfold relW; rw [hto]; dsimp only; rw [if_pos hk, hwx]) (by decide) (by decide)
  refine j_if C rfl (fun h => ?_) (fun h => ?_)
  · refine j_to C 31 rfl ?_
    refine go 0 ?_
    rcases hz with q | q
    · exact absurd q h
    · rw [q]; decide
  · refine j_goto C rfl ?_
    refine go 1 ?_
    have q : tI (sT s i) = 0 := Classical.not_not.mp h
    rw [q]; decide
end RLY2
end
section
/-! The views. -/
def kindS (s : St) (x : Int32) : Int32 := match ixO (sN s) x with | none => -1 | some i => tK (sT s i)
def homeS (s : St) (x : Int32) : Int32 := match ixO (sN s) x with | none => -1 | some i => tH (sT s i)
def placeS (s : St) (x : Int32) : Int32 := match ixO (sK s) x with | none => -1 | some j => mP (sM s j)
def resultS (s : St) (x : Int32) : Int32 := match ixO (sK s) x with | none => -1 | some j => (cnt s (3, nI j)).1
def valueS (s : St) (x : Int32) : Int32 := match ixO (sK s) x with | none => 0 | some j => (cnt s (3, nI j)).2
def notesS (s : St) (x : Int32) : Int32 := match ixO (sK s) x with | none => -1 | some j => nI (mW (sM s j)).length
def waitingS (s : St) (x : Int32) : Int32 := match ixO (sK s) x with | none => -1 | some j => nI (sL s (4 + j)).length
def queuedS (s : St) (x : Int32) : Int32 := match ixO 3 x with | none => -1 | some v => nI (sL s v).length
def heldS (s : St) (x y : Int32) : Option Rf := match ixO (sN s) x with
  | none => none
  | some i => if tK (sT s i) = 0 then (match ixO 4 y with | none => none | some q => some (cnt s (tS (sT s i) q)))
    else if y = 4 ∧ (tK (sT s i) = 2 ∨ tK (sT s i) = 6 ∨ tK (sT s i) = 10) then some (cnt s (tD (sT s i))) else none
def whatS (s : St) (x y : Int32) : Int32 := match heldS s x y with | none => -1 | some r => r.1
def whichS (s : St) (x y : Int32) : Int32 := match heldS s x y with | none => 0 | some r => r.2
def oNum (o : Option Nat) : Int32 := match o with | none => 0 | some i => nI i
def d1S (s : St) (i : Nat) : Int32 := if tK (sT s i) = 1 ∨ tK (sT s i) = 9 then tV (sT s i) else if tK (sT s i) = 8 then tB (sT s i) else oNum (tO (sT s i))
def d2S (s : St) (i : Nat) : Int32 := if tK (sT s i) = 1 then oNum (tF (sT s i)) else if tK (sT s i) = 8 then oNum (tO (sT s i)) else if tK (sT s i) = 10 then tI (sT s i) else 0
def detailS (s : St) (x y : Int32) : Int32 := match ixO (sN s) x with
  | none => -1
  | some i => match ixO 2 y with
    | none => -1
    | some p => if p = 0 then d1S s i else d2S s i
def nextS (s : St) (x y : Int32) : Int32 := match ixO 3 x with
  | none => -3
  | some v => match ixO (sL s v).length y with
    | none => -3
    | some p => nI ((sL s v).getD p 0)
section VIEWS
variable {T : fw_T} {w : fw_W} {c : Cfg} {s : St}
theorem m_V_objects (l : Launch) (hT : TOK T) (R : Rp w c s) : Ct l T y_V_objects W_V_objects rm_V_objects [.inr (some (cO c))] w (fun v w' => w' = w ∧ v = some (.inl (nI (sN s)))) := by
  refine ct_V_objects rfl (nle rfl) ?_
  intro X hl C E
  refine j_get C rfl (fg_V_V_thingCount (hv_V_objects hT)) R.o rfl ?_
  exact j_iret C E rfl (Or.inl rfl) (by decide) (by decide) ⟨rfl, rfl⟩
theorem m_V_messages (l : Launch) (hT : TOK T) (R : Rp w c s) : Ct l T y_V_messages W_V_messages rm_V_messages [.inr (some (cO c))] w (fun v w' => w' = w ∧ v = some (.inl (nI (sK s)))) := by
  refine ct_V_messages rfl (nle rfl) ?_
  intro X hl C E
  refine j_get C rfl (fg_V_V_sentCount (hv_V_messages hT)) R.o rfl ?_
  exact j_iret C E rfl (Or.inl rfl) (by decide) (by decide) ⟨rfl, rfl⟩
theorem m_V_kind (l : Launch) (hT : TOK T) (R : Rp w c s) (x : Int32) : Ct l T y_V_kind W_V_kind rm_V_kind [.inr (some (cO c)), .inl x] w (fun v w' => w' = w ∧ v = some (.inl (kindS s x))) := by
  refine ct_V_kind rfl (nle rfl) ?_
  intro X hl C E
  have V := hv_V_kind hT
  have hn := R.n40
  unfold kindS at E
  refine j_callV C rfl (fc_V_V_thingAt V (by decide)) (m_V_thingAt _ hT R x) rfl rfl R.o (by rw [hT.1]; rfl) (nle rfl) (by decide) (by decide) ?_
  rintro v w' ⟨rfl, rfl⟩
  cases hx : ixO (sN s) x with
  | none =>
    rw [hx] at E
    refine j_ifnn C rfl (fun _ h => by cases h) (fun _ => ?_)
    refine j_goto C rfl ?_
    exact j_iret C E rfl (Or.inl rfl) (by decide) (by decide) ⟨rfl, rfl⟩
  | some i =>
    rw [hx] at E
    obtain ⟨ek, sf, hd, f, e0, -⟩ := R.aT (ixO_lt (by omega) hx).1
    refine j_ifnn C rfl (fun _ _ => ?_) (fun h => by cases h)
    refine j_get C rfl (fg_V_H_kind V) e0 rfl ?_
    exact j_iret C E rfl (Or.inl rfl) (by decide) (by decide) ⟨rfl, rfl⟩
theorem m_V_home (l : Launch) (hT : TOK T) (R : Rp w c s) (x : Int32) : Ct l T y_V_home W_V_home rm_V_home [.inr (some (cO c)), .inl x] w (fun v w' => w' = w ∧ v = some (.inl (homeS s x))) := by
  refine ct_V_home rfl (nle rfl) ?_
  intro X hl C E
  have V := hv_V_home hT
  have hn := R.n40
  unfold homeS at E
  refine j_callV C rfl (fc_V_V_thingAt V (by decide)) (m_V_thingAt _ hT R x) rfl rfl R.o (by rw [hT.1]; rfl) (nle rfl) (by decide) (by decide) ?_
  rintro v w' ⟨rfl, rfl⟩
  cases hx : ixO (sN s) x with
  | none =>
    rw [hx] at E
    refine j_ifnn C rfl (fun _ h => by cases h) (fun _ => ?_)
    refine j_goto C rfl ?_
    exact j_iret C E rfl (Or.inl rfl) (by decide) (by decide) ⟨rfl, rfl⟩
  | some i =>
    rw [hx] at E
    obtain ⟨ek, sf, hd, f, e0, -⟩ := R.aT (ixO_lt (by omega) hx).1
    refine j_ifnn C rfl (fun _ _ => ?_) (fun h => by cases h)
    refine j_get C rfl (fg_V_H_home V) e0 rfl ?_
    exact j_iret C E rfl (Or.inl rfl) (by decide) (by decide) ⟨rfl, rfl⟩
theorem m_V_place (l : Launch) (hT : TOK T) (R : Rp w c s) (x : Int32) : Ct l T y_V_place W_V_place rm_V_place [.inr (some (cO c)), .inl x] w (fun v w' => w' = w ∧ v = some (.inl (placeS s x))) := by
  refine ct_V_place rfl (nle rfl) ?_
  intro X hl C E
  have V := hv_V_place hT
  have hn := R.k200
  unfold placeS at E
  refine j_callV C rfl (fc_V_V_messageAt V (by decide)) (m_V_messageAt _ hT R x) rfl rfl R.o (by rw [hT.1]; rfl) (nle rfl) (by decide) (by decide) ?_
  rintro v w' ⟨rfl, rfl⟩
  cases hx : ixO (sK s) x with
  | none =>
    rw [hx] at E
    refine j_ifnn C rfl (fun _ h => by cases h) (fun _ => ?_)
    refine j_goto C rfl ?_
    exact j_iret C E rfl (Or.inl rfl) (by decide) (by decide) ⟨rfl, rfl⟩
  | some i =>
    rw [hx] at E
    obtain ⟨b, pr, tg, ar, an, m0, -⟩ := R.msg (ixO_lt (by omega) hx).1
    refine j_ifnn C rfl (fun _ _ => ?_) (fun h => by cases h)
    refine j_get C rfl (fg_V_M_place V) m0 rfl ?_
    exact j_iret C E rfl (Or.inl rfl) (by decide) (by decide) ⟨rfl, rfl⟩
theorem m_V_notes (l : Launch) (hT : TOK T) (R : Rp w c s) (x : Int32) : Ct l T y_V_notes W_V_notes rm_V_notes [.inr (some (cO c)), .inl x] w (fun v w' => w' = w ∧ v = some (.inl (notesS s x))) := by
  refine ct_V_notes rfl (nle rfl) ?_
  intro X hl C E
  have V := hv_V_notes hT
  have hn := R.k200
  unfold notesS at E
  refine j_callV C rfl (fc_V_V_messageAt V (by decide)) (m_V_messageAt _ hT R x) rfl rfl R.o (by rw [hT.1]; rfl) (nle rfl) (by decide) (by decide) ?_
  rintro v w' ⟨rfl, rfl⟩
  cases hx : ixO (sK s) x with
  | none =>
    rw [hx] at E
    refine j_ifnn C rfl (fun _ h => by cases h) (fun _ => ?_)
    refine j_goto C rfl ?_
    exact j_iret C E rfl (Or.inl rfl) (by decide) (by decide) ⟨rfl, rfl⟩
  | some i =>
    rw [hx] at E
    obtain ⟨b, pr, tg, ar, an, m0, -⟩ := R.msg (ixO_lt (by omega) hx).1
    refine j_ifnn C rfl (fun _ _ => ?_) (fun h => by cases h)
    refine j_get C rfl (fg_V_M_noteCount V) m0 rfl ?_
    exact j_iret C E rfl (Or.inl rfl) (by decide) (by decide) ⟨rfl, rfl⟩
theorem Rp.line (R : Rp w c s) {i : Nat} (hi : i < 4 + sK s) : w (cL c i) = some (cellL c ((sL s i).head?, (sL s i).getLast?, nI (sL s i).length)) := by
  obtain ⟨bh, lf, R, hL, -⟩ := R
  have := (R.aL hi).1
  rw [(hL i hi).1] at this
  exact this
theorem m_V_waiting (l : Launch) (hT : TOK T) (R : Rp w c s) (x : Int32) : Ct l T y_V_waiting W_V_waiting rm_V_waiting [.inr (some (cO c)), .inl x] w (fun v w' => w' = w ∧ v = some (.inl (waitingS s x))) := by
  refine ct_V_waiting rfl (nle rfl) ?_
  intro X hl C E
  have V := hv_V_waiting hT
  have hn := R.k200
  unfold waitingS at E
  refine j_callV C rfl (fc_V_V_messageAt V (by decide)) (m_V_messageAt _ hT R x) rfl rfl R.o (by rw [hT.1]; rfl) (nle rfl) (by decide) (by decide) ?_
  rintro v w' ⟨rfl, rfl⟩
  cases hx : ixO (sK s) x with
  | none =>
    rw [hx] at E
    refine j_ifnn C rfl (fun _ h => by cases h) (fun _ => ?_)
    refine j_goto C rfl ?_
    exact j_iret C E rfl (Or.inl rfl) (by decide) (by decide) ⟨rfl, rfl⟩
  | some i =>
    rw [hx] at E
    have hi := (ixO_lt (by omega) hx).1
    obtain ⟨b, pr, tg, ar, an, m0, -⟩ := R.msg hi
    refine j_ifnn C rfl (fun _ _ => ?_) (fun h => by cases h)
    refine j_get C rfl (fg_V_M_waiters V) m0 rfl ?_
    refine j_get C rfl (fg_V_L_length V) (R.line (i := 4 + i) (by omega)) rfl ?_
    exact j_iret C E rfl (Or.inl rfl) (by decide) (by decide) ⟨rfl, rfl⟩
theorem Rp.pr (R : Rp w c s) {j : Nat} (hj : j < sK s) : ∃ (b : Option Nat) (pr tg ar : Nat) (an : Option Nat), w (cM c j) = some (cellM c j (sM s j) b pr tg ar an) ∧ IsR w pr (3, nI j) := by
  obtain ⟨bb, ekm, pr, tg, ar, an, m0, m1, -⟩ := R.aM hj
  exact ⟨bb, pr, tg, ar, an, m0, m1⟩
theorem m_V_result (l : Launch) (hT : TOK T) (R : Rp w c s) (x : Int32) : Ct l T y_V_result W_V_result rm_V_result [.inr (some (cO c)), .inl x] w (fun v w' => w' = w ∧ v = some (.inl (resultS s x))) := by
  refine ct_V_result rfl (nle rfl) ?_
  intro X hl C E
  have V := hv_V_result hT
  have hn := R.k200
  unfold resultS at E
  refine j_callV C rfl (fc_V_V_messageAt V (by decide)) (m_V_messageAt _ hT R x) rfl rfl R.o (by rw [hT.1]; rfl) (nle rfl) (by decide) (by decide) ?_
  rintro v w' ⟨rfl, rfl⟩
  cases hx : ixO (sK s) x with
  | none =>
    rw [hx] at E
    refine j_ifnn C rfl (fun _ h => by cases h) (fun _ => ?_)
    refine j_goto C rfl ?_
    exact j_iret C E rfl (Or.inl rfl) (by decide) (by decide) ⟨rfl, rfl⟩
  | some i =>
    rw [hx] at E
    obtain ⟨b, pr, tg, ar, an, m0, m1⟩ := R.pr (ixO_lt (by omega) hx).1
    refine j_ifnn C rfl (fun _ _ => ?_) (fun h => by cases h)
    refine j_get C rfl (fg_V_M_promise V) m0 rfl ?_
    refine j_callV C rfl (fc_V_V_countsAs V (by decide)) (m_V_countsAs _ hT R m1) rfl rfl R.o (by rw [hT.1]; rfl) (nle rfl) (by decide) (by decide) ?_
    rintro v w' ⟨rfl, b', rfl, hb'⟩
    refine j_get C rfl (fg_V_R_sort V) hb' rfl ?_
    exact j_iret C E rfl (Or.inl rfl) (by decide) (by decide) ⟨rfl, rfl⟩
theorem m_V_value (l : Launch) (hT : TOK T) (R : Rp w c s) (x : Int32) : Ct l T y_V_value W_V_value rm_V_value [.inr (some (cO c)), .inl x] w (fun v w' => w' = w ∧ v = some (.inl (valueS s x))) := by
  refine ct_V_value rfl (nle rfl) ?_
  intro X hl C E
  have V := hv_V_value hT
  have hn := R.k200
  unfold valueS at E
  refine j_callV C rfl (fc_V_V_messageAt V (by decide)) (m_V_messageAt _ hT R x) rfl rfl R.o (by rw [hT.1]; rfl) (nle rfl) (by decide) (by decide) ?_
  rintro v w' ⟨rfl, rfl⟩
  cases hx : ixO (sK s) x with
  | none =>
    rw [hx] at E
    refine j_ifnn C rfl (fun _ h => by cases h) (fun _ => ?_)
    refine j_goto C rfl ?_
    exact j_iret C E rfl (Or.inl rfl) (by decide) (by decide) ⟨rfl, rfl⟩
  | some i =>
    rw [hx] at E
    obtain ⟨b, pr, tg, ar, an, m0, m1⟩ := R.pr (ixO_lt (by omega) hx).1
    refine j_ifnn C rfl (fun _ _ => ?_) (fun h => by cases h)
    refine j_get C rfl (fg_V_M_promise V) m0 rfl ?_
    refine j_callV C rfl (fc_V_V_countsAs V (by decide)) (m_V_countsAs _ hT R m1) rfl rfl R.o (by rw [hT.1]; rfl) (nle rfl) (by decide) (by decide) ?_
    rintro v w' ⟨rfl, b', rfl, hb'⟩
    refine j_get C rfl (fg_V_R_index V) hb' rfl ?_
    exact j_iret C E rfl (Or.inl rfl) (by decide) (by decide) ⟨rfl, rfl⟩
theorem Rp.q (R : Rp w c s) : ∃ f : Nat → Option Nat, w (cQA c) = some (.inl (aL, 3, .inr f)) ∧ ∀ v, v < 3 → f v = some (cL c v) := by
  obtain ⟨bh, lf, R, -⟩ := R
  exact R.2.2.2.2.2.1
theorem m_V_queued (l : Launch) (hT : TOK T) (R : Rp w c s) (x : Int32) : Ct l T y_V_queued W_V_queued rm_V_queued [.inr (some (cO c)), .inl x] w (fun v w' => w' = w ∧ v = some (.inl (queuedS s x))) := by
  refine ct_V_queued rfl (nle rfl) ?_
  intro X hl C E
  have V := hv_V_queued hT
  unfold queuedS at E
  refine j_callS C rfl (fc_V_V_isVat V (by decide)) (m_V_isVat _ hT x) rfl rfl (nle rfl) (by decide) (by decide) ?_
  rintro v w' ⟨rfl, rfl⟩
  cases hx : ixO 3 x with
  | none =>
    rw [hx] at E
    refine j_ifT C rfl (by decide) ?_
    exact j_iret C E rfl (Or.inl rfl) (by decide) (by decide) ⟨rfl, rfl⟩
  | some q =>
    rw [hx] at E
    obtain ⟨hq, rfl⟩ := ixO_lt (by decide) hx
    refine j_ifF C rfl (show fw_cb _ (bI true) 0 = false by decide) ?_
    refine j_get C rfl (fg_V_V_queues V) R.o rfl ?_
    obtain ⟨f, q1, q2⟩ := R.q
    refine j_aaldI C rfl q1 hT.2.2.2.2.1 q rfl hq (by decide) ?_
    rw [q2 q hq]
    refine j_get C rfl (fg_V_L_length V) (R.line (i := q) (by omega)) rfl ?_
    refine j_goto C rfl ?_
    exact j_iret C E rfl (Or.inl rfl) (by decide) (by decide) ⟨rfl, rfl⟩
theorem m_H_holdsOne (l : Launch) (hT : TOK T) (R : Rp w c s) {i : Nat} (hi : i < sN s) : Ct l T y_H_holdsOne W_H_holdsOne rm_H_holdsOne [.inr (some (cT c i))] w (fun v w' => w' = w ∧ v = some (.inl (bI (decide (tK (sT s i) = 2 ∨ tK (sT s i) = 6 ∨ tK (sT s i) = 10))))) := by
  refine ct_H_holdsOne rfl (nle rfl) ?_
  intro X hl C E
  have V := hv_H_holdsOne hT
  obtain ⟨ek, sf, hd, f, e0, -⟩ := R.aT hi
  have yes : (tK (sT s i) = 2 ∨ tK (sT s i) = 6 ∨ tK (sT s i) = 10) → J T G_H_holdsOne X 26 [some (.inr (some (cT c i)))] [] w 0 0 := fun h => by
    refine j_goto C rfl ?_
    exact j_iret C E rfl (Or.inr ⟨rfl, Or.inr rfl⟩) (by decide) (by decide) ⟨rfl, by rw [decide_eq_true h]; rfl⟩
  refine j_get C rfl (fg_H_H_kind V) e0 rfl ?_
  refine j_icmp C rfl (fun h => yes (Or.inl h)) (fun h2 => ?_)
  refine j_get C rfl (fg_H_H_kind V) e0 rfl ?_
  refine j_icmp C rfl (fun h => yes (Or.inr (Or.inl h))) (fun h6 => ?_)
  refine j_get C rfl (fg_H_H_kind V) e0 rfl ?_
  refine j_icmp C rfl (fun h10 => ?_) (fun h => yes (Or.inr (Or.inr (Classical.not_not.mp h))))
  exact j_iret C E rfl (Or.inr ⟨rfl, Or.inl rfl⟩) (by decide) (by decide) ⟨rfl, by rw [decide_eq_false (fun q => q.elim h2 (fun z => z.elim h6 h10))]; rfl⟩
set_option maxHeartbeats 1000000 in
theorem m_V_heldAt (l : Launch) (hT : TOK T) (R : Rp w c s) (x y : Int32) : Ct l T y_V_heldAt W_V_heldAt rm_V_heldAt [.inr (some (cO c)), .inl x, .inl y] w (fun v w' => w' = w ∧ ∃ o, v = some (.inr o) ∧ isA w o (heldS s x y)) := by
  refine ct_V_heldAt rfl (nle rfl) ?_
  intro X hl C E
  have V := hv_V_heldAt hT
  have hn := R.n40
  unfold heldS at E
  refine j_callV C rfl (fc_V_V_thingAt V (by decide)) (m_V_thingAt _ hT R x) rfl rfl R.o (by rw [hT.1]; rfl) (nle rfl) (by decide) (by decide) ?_
  rintro v w' ⟨rfl, rfl⟩
  cases hx : ixO (sN s) x with
  | none =>
    rw [hx] at E
    refine j_ifnn C rfl (fun _ h => by cases h) (fun _ => ?_)
    exact j_aret C E rfl rfl (by decide) (by decide) ⟨rfl, none, rfl, Or.inl ⟨rfl, rfl⟩⟩
  | some i =>
    rw [hx] at E
    have hi := (ixO_lt (by omega) hx).1
    obtain ⟨ek, sf, hd, f, e0, e1, e2, e3, e4⟩ := R.aT hi
    refine j_ifnn C rfl (fun _ _ => ?_) (fun h => by cases h)
    refine j_get C rfl (fg_V_H_kind V) e0 rfl ?_
    refine j_if C rfl (fun hk => ?_) (fun hk => ?_)
    · have hk : ¬ tK (sT s i) = 0 := hk
      dsimp only at E
      rw [if_neg hk] at E
      refine j_icmp C rfl (fun h4 => ?_) (fun h4 => ?_)
      · rw [if_neg (fun q => h4 q.1)] at E
        exact j_aret C E rfl rfl (by decide) (by decide) ⟨rfl, none, rfl, Or.inl ⟨rfl, rfl⟩⟩
      · have h4 : y = 4 := Classical.not_not.mp h4
        refine j_callV C rfl (fc_V_H_holdsOne V (by decide)) (m_H_holdsOne _ hT R hi) rfl rfl e0 (by rw [hT.1]; rfl) (nle rfl) (by decide) (by decide) ?_
        rintro v w' ⟨rfl, rfl⟩
        by_cases hh : tK (sT s i) = 2 ∨ tK (sT s i) = 6 ∨ tK (sT s i) = 10
        · rw [if_pos ⟨h4, hh⟩] at E
          rw [decide_eq_true hh]
          refine j_ifF C rfl (show fw_cb _ (bI true) 0 = false by decide) ?_
          refine j_get C rfl (fg_V_H_held V) e0 rfl ?_
          refine j_callV C rfl (fc_V_V_countsAs V (by decide)) (m_V_countsAs _ hT R e2) rfl rfl R.o (by rw [hT.1]; rfl) (nle rfl) (by decide) (by decide) ?_
          rintro v w' ⟨rfl, b', rfl, hb'⟩
          refine j_goto C rfl ?_
          exact j_aret C E rfl rfl (by decide) (by decide) ⟨rfl, _, rfl, Or.inr ⟨b', _, rfl, rfl, hb'⟩⟩
        · rw [if_neg (fun q => hh q.2)] at E
          rw [decide_eq_false hh]
          refine j_ifT C rfl (show fw_cb _ (bI false) 0 = true by decide) ?_
          exact j_aret C E rfl rfl (by decide) (by decide) ⟨rfl, none, rfl, Or.inl ⟨rfl, rfl⟩⟩
    · have hk : tK (sT s i) = 0 := Classical.not_not.mp hk
      dsimp only at E
      rw [if_pos hk] at E
      refine j_callS C rfl (fc_V_V_isSlot V (by decide)) (m_V_isSlot _ hT y) rfl rfl (nle rfl) (by decide) (by decide) ?_
      rintro v w' ⟨rfl, rfl⟩
      cases hy : ixO 4 y with
      | none =>
        rw [hy] at E
        refine j_ifT C rfl (by decide) ?_
        exact j_aret C E rfl rfl (by decide) (by decide) ⟨rfl, none, rfl, Or.inl ⟨rfl, rfl⟩⟩
      | some q =>
        rw [hy] at E
        obtain ⟨hq, rfl⟩ := ixO_lt (by decide) hy
        refine j_ifF C rfl (show fw_cb _ (bI true) 0 = false by decide) ?_
        refine j_get C rfl (fg_V_H_slots V) e0 rfl ?_
        refine j_aaldI C rfl e3 hT.2.1 q rfl hq (by decide) ?_
        obtain ⟨b, hb1, hb2⟩ := e4 q hq
        rw [hb1]
        refine j_callV C rfl (fc_V_V_countsAs V (by decide)) (m_V_countsAs _ hT R hb2) rfl rfl R.o (by rw [hT.1]; rfl) (nle rfl) (by decide) (by decide) ?_
        rintro v w' ⟨rfl, b', rfl, hb'⟩
        refine j_goto C rfl ?_
        exact j_aret C E rfl rfl (by decide) (by decide) ⟨rfl, _, rfl, Or.inr ⟨b', _, rfl, rfl, hb'⟩⟩
theorem m_V_what (l : Launch) (hT : TOK T) (R : Rp w c s) (x y : Int32) : Ct l T y_V_what W_V_what rm_V_what [.inr (some (cO c)), .inl x, .inl y] w (fun v w' => w' = w ∧ v = some (.inl (whatS s x y))) := by
  refine ct_V_what rfl (nle rfl) ?_
  intro X hl C E
  have V := hv_V_what hT
  unfold whatS at E
  refine j_callV C rfl (fc_V_V_heldAt V (by decide)) (m_V_heldAt _ hT R x y) rfl rfl R.o (by rw [hT.1]; rfl) (nle rfl) (by decide) (by decide) ?_
  rintro v w' ⟨rfl, o, rfl, ho⟩
  rcases ho with ⟨rfl, h⟩ | ⟨a, r, rfl, h, ha⟩ <;> rw [h] at E
  · refine j_ifnn C rfl (fun _ h => by cases h) (fun _ => ?_)
    refine j_goto C rfl ?_
    exact j_iret C E rfl (Or.inl rfl) (by decide) (by decide) ⟨rfl, rfl⟩
  · refine j_ifnn C rfl (fun _ _ => ?_) (fun h => by cases h)
    refine j_get C rfl (fg_V_R_sort V) ha rfl ?_
    exact j_iret C E rfl (Or.inl rfl) (by decide) (by decide) ⟨rfl, rfl⟩
theorem m_V_which (l : Launch) (hT : TOK T) (R : Rp w c s) (x y : Int32) : Ct l T y_V_which W_V_which rm_V_which [.inr (some (cO c)), .inl x, .inl y] w (fun v w' => w' = w ∧ v = some (.inl (whichS s x y))) := by
  refine ct_V_which rfl (nle rfl) ?_
  intro X hl C E
  have V := hv_V_which hT
  unfold whichS at E
  refine j_callV C rfl (fc_V_V_heldAt V (by decide)) (m_V_heldAt _ hT R x y) rfl rfl R.o (by rw [hT.1]; rfl) (nle rfl) (by decide) (by decide) ?_
  rintro v w' ⟨rfl, o, rfl, ho⟩
  rcases ho with ⟨rfl, h⟩ | ⟨a, r, rfl, h, ha⟩ <;> rw [h] at E
  · refine j_ifnn C rfl (fun _ h => by cases h) (fun _ => ?_)
    refine j_goto C rfl ?_
    exact j_iret C E rfl (Or.inl rfl) (by decide) (by decide) ⟨rfl, rfl⟩
  · refine j_ifnn C rfl (fun _ _ => ?_) (fun h => by cases h)
    refine j_get C rfl (fg_V_R_index V) ha rfl ?_
    exact j_iret C E rfl (Or.inl rfl) (by decide) (by decide) ⟨rfl, rfl⟩
end VIEWS
end
section
/-! detail, next; cell, number, introduce. -/
section HOST
variable {T : fw_T} {w : fw_W} {c : Cfg} {s : St}
theorem m_V_firstDetail (l : Launch) (hT : TOK T) (R : Rp w c s) (hV : rvOK s) {i : Nat} (hi : i < sN s) : Ct l T y_V_firstDetail W_V_firstDetail rm_V_firstDetail [.inr (some (cT c i))] w (fun v w' => w' = w ∧ v = some (.inl (d1S s i))) := by
  refine ct_V_firstDetail rfl (nle rfl) ?_
  intro X hl C E
  have V := hv_V_firstDetail hT
  obtain ⟨ek, sf, hd, f, e0, -⟩ := R.aT hi
  unfold d1S at E
  refine j_get C rfl (fg_V_H_kind V) e0 rfl ?_
  generalize hk : tK (sT s i) = κ at E
  have rev : (κ = 1 ∨ κ = 9) → J T G_V_firstDetail X 40 [some (.inr (some (cT c i)))] [] w 0 0 := fun h => by
    rw [if_pos h] at E
    refine j_get C rfl (fg_V_H_revoked V) e0 rfl ?_
    rcases (hV i hi).1 with q | q <;> rw [q] at E ⊢
    · refine j_ifT C rfl (by decide) ?_
      exact j_iret C E rfl (Or.inl rfl) (by decide) (by decide) ⟨rfl, rfl⟩
    · refine j_ifF C rfl (by decide) ?_
      refine j_goto C rfl ?_
      exact j_iret C E rfl (Or.inl rfl) (by decide) (by decide) ⟨rfl, rfl⟩
  by_cases h1 : κ = 1
  · subst h1
    refine j_lsw (tgt := 40) (o := 36) C rfl (by decide) (by decide) (by decide) ?_
    exact rev (Or.inl rfl)
  by_cases h8 : κ = 8
  · subst h8
    rw [if_neg (by decide), if_pos rfl] at E
    refine j_lsw (tgt := 53) (o := 49) C rfl (by decide) (by decide) (by decide) ?_
    refine j_get C rfl (fg_V_H_balance V) e0 rfl ?_
    exact j_iret C E rfl (Or.inl rfl) (by decide) (by decide) ⟨rfl, rfl⟩
  by_cases h9 : κ = 9
  · subst h9
    refine j_lsw (tgt := 40) (o := 36) C rfl (by decide) (by decide) (by decide) ?_
    exact rev (Or.inr rfl)
  · rw [if_neg (fun q => q.elim h1 h9), if_neg h8] at E
    refine j_lsw (tgt := 58) (o := 54) C rfl (by decide) (by show Op.lookupswitch.offset [(1, 36), (8, 49), (9, 36)] 54 κ.toInt = 54; rw [lv_osw h1 (by decide), lv_osw h8 (by decide), lv_osw h9 (by decide)]; rfl) (by decide) ?_
    refine j_get C rfl (fg_V_H_owner V) e0 rfl ?_
    cases hto : tO (sT s i) with
    | none =>
      rw [hto] at E
      refine j_ifnn C rfl (fun _ h => by cases h) (fun _ => ?_)
      refine j_goto C rfl ?_
      exact j_iret C E rfl (Or.inl rfl) (by decide) (by decide) ⟨rfl, rfl⟩
    | some o =>
      rw [hto] at E
      refine j_ifnn C rfl (fun _ _ => ?_) (fun h => by cases h)
      unfold cellT at e0
      rw [hto] at e0
      refine j_get C rfl (fg_V_H_owner V) e0 rfl ?_
      obtain ⟨ek', sf', hd', f', g0, -⟩ := R.aT (ek.1 o hto)
      refine j_get C rfl (fg_V_H_number V) g0 rfl ?_
      exact j_iret C E rfl (Or.inl rfl) (by decide) (by decide) ⟨rfl, rfl⟩
theorem m_V_secondDetail (l : Launch) (hT : TOK T) (R : Rp w c s) (hV : rvOK s) {i : Nat} (hi : i < sN s) : Ct l T y_V_secondDetail W_V_secondDetail rm_V_secondDetail [.inr (some (cT c i))] w (fun v w' => w' = w ∧ v = some (.inl (d2S s i))) := by
  refine ct_V_secondDetail rfl (nle rfl) ?_
  intro X hl C E
  have V := hv_V_secondDetail hT
  obtain ⟨ek, sf, hd, f, e0, -⟩ := R.aT hi
  unfold d2S at E
  refine j_get C rfl (fg_V_H_kind V) e0 rfl ?_
  generalize hk : tK (sT s i) = κ at E
  by_cases h1 : κ = 1
  · subst h1
    rw [if_pos rfl] at E
    refine j_lsw (tgt := 40) (o := 36) C rfl (by decide) (by decide) (by decide) ?_
    refine j_get C rfl (fg_V_H_facet V) e0 rfl ?_
    cases hto : tF (sT s i) with
    | none =>
      rw [hto] at E
      refine j_ifnn C rfl (fun _ h => by cases h) (fun _ => ?_)
      refine j_goto C rfl ?_
      exact j_iret C E rfl (Or.inl rfl) (by decide) (by decide) ⟨rfl, rfl⟩
    | some o =>
      rw [hto] at E
      refine j_ifnn C rfl (fun _ _ => ?_) (fun h => by cases h)
      unfold cellT at e0
      rw [hto] at e0
      refine j_get C rfl (fg_V_H_facet V) e0 rfl ?_
      obtain ⟨ek', sf', hd', f', g0, -⟩ := R.aT (ek.2 o hto)
      refine j_get C rfl (fg_V_H_number V) g0 rfl ?_
      exact j_iret C E rfl (Or.inl rfl) (by decide) (by decide) ⟨rfl, rfl⟩
  by_cases h8 : κ = 8
  · subst h8
    rw [if_neg (by decide), if_pos rfl] at E
    refine j_lsw (tgt := 59) (o := 55) C rfl (by decide) (by decide) (by decide) ?_
    refine j_get C rfl (fg_V_H_owner V) e0 rfl ?_
    cases hto : tO (sT s i) with
    | none =>
      rw [hto] at E
      refine j_ifnn C rfl (fun _ h => by cases h) (fun _ => ?_)
      refine j_goto C rfl ?_
      exact j_iret C E rfl (Or.inl rfl) (by decide) (by decide) ⟨rfl, rfl⟩
    | some o =>
      rw [hto] at E
      refine j_ifnn C rfl (fun _ _ => ?_) (fun h => by cases h)
      unfold cellT at e0
      rw [hto] at e0
      refine j_get C rfl (fg_V_H_owner V) e0 rfl ?_
      obtain ⟨ek', sf', hd', f', g0, -⟩ := R.aT (ek.1 o hto)
      refine j_get C rfl (fg_V_H_number V) g0 rfl ?_
      exact j_iret C E rfl (Or.inl rfl) (by decide) (by decide) ⟨rfl, rfl⟩
  by_cases h10 : κ = 10
  · subst h10
    rw [if_neg (by decide), if_neg (by decide), if_pos rfl] at E
    refine j_lsw (tgt := 78) (o := 74) C rfl (by decide) (by decide) (by decide) ?_
    refine j_get C rfl (fg_V_H_inward V) e0 rfl ?_
    rcases (hV i hi).2 with q | q <;> rw [q] at E ⊢
    · refine j_ifT C rfl (by decide) ?_
      exact j_iret C E rfl (Or.inl rfl) (by decide) (by decide) ⟨rfl, rfl⟩
    · refine j_ifF C rfl (by decide) ?_
      refine j_goto C rfl ?_
      exact j_iret C E rfl (Or.inl rfl) (by decide) (by decide) ⟨rfl, rfl⟩
  · rw [if_neg h1, if_neg h8, if_neg h10] at E
    refine j_lsw (tgt := 91) (o := 87) C rfl (by decide) (by show Op.lookupswitch.offset [(1, 36), (8, 55), (10, 74)] 87 κ.toInt = 87; rw [lv_osw h1 (by decide), lv_osw h8 (by decide), lv_osw h10 (by decide)]; rfl) (by decide) ?_
    exact j_iret C E rfl (Or.inl rfl) (by decide) (by decide) ⟨rfl, rfl⟩
theorem nI_inj {a b : Nat} (ha : a < 2 ^ 31) (hb : b < 2 ^ 31) (h : nI a = nI b) : a = b := (nI_eq ha hb).mp h
theorem m_V_detail (l : Launch) (hT : TOK T) (R : Rp w c s) (hV : rvOK s) (x y : Int32) : Ct l T y_V_detail W_V_detail rm_V_detail [.inr (some (cO c)), .inl x, .inl y] w (fun v w' => w' = w ∧ v = some (.inl (detailS s x y))) := by
  refine ct_V_detail rfl (nle rfl) ?_
  intro X hl C E
  have V := hv_V_detail hT
  have hn := R.n40
  unfold detailS at E
  refine j_callV C rfl (fc_V_V_thingAt V (by decide)) (m_V_thingAt _ hT R x) rfl rfl R.o (by rw [hT.1]; rfl) (nle rfl) (by decide) (by decide) ?_
  rintro v w' ⟨rfl, rfl⟩
  cases hx : ixO (sN s) x with
  | none =>
    rw [hx] at E
    refine j_ifnull C rfl (fun _ => ?_) (fun _ h => by cases h)
    exact j_iret C E rfl (Or.inl rfl) (by decide) (by decide) ⟨rfl, rfl⟩
  | some i =>
    rw [hx] at E
    have hi := (ixO_lt (by omega) hx).1
    refine j_ifnull C rfl (fun h => by cases h) (fun _ _ => ?_)
    rcases ixO_cases 2 (by decide) y with ⟨h, e⟩ | ⟨h0, h, e⟩ | ⟨p, hp, rfl, h0, h, e⟩ <;> rw [e] at E
    · refine j_ifT C rfl (fw_cb_iff.mpr h) ?_
      exact j_iret C E rfl (Or.inl rfl) (by decide) (by decide) ⟨rfl, rfl⟩
    · refine j_if C rfl (fun q => absurd q h0) (fun _ => ?_)
      refine j_icmp C rfl (fun q => ?_) (fun _ => ?_)
      · exfalso
        have q : y ≤ 1 := q
        rw [Int32.le_iff_toInt_le] at q h
        have : (nI 2).toInt = 2 := by decide
        have : (1 : Int32).toInt = 1 := by decide
        omega
      · exact j_iret C E rfl (Or.inl rfl) (by decide) (by decide) ⟨rfl, rfl⟩
    · refine j_if C rfl (fun q => absurd q h0) (fun _ => ?_)
      refine j_icmpT C rfl (fw_cb_iff.mpr (show nI p ≤ nI 1 from nI_le (by omega) (by decide))) ?_
      by_cases hp0 : p = 0
      · subst hp0
        dsimp only at E
        rw [if_pos rfl] at E
        refine j_ifF C rfl (by decide) ?_
        refine j_callS C rfl (fc_V_V_firstDetail V (by decide)) (m_V_firstDetail _ hT R hV hi) rfl rfl (nle rfl) (by decide) (by decide) ?_
        rintro v w' ⟨rfl, rfl⟩
        refine j_goto C rfl ?_
        exact j_iret C E rfl (Or.inl rfl) (by decide) (by decide) ⟨rfl, rfl⟩
      · dsimp only at E
        rw [if_neg hp0] at E
        refine j_if C rfl (fun _ => ?_) (fun q => absurd (nI_inj (a := p) (b := 0) (by omega) (by decide) (Classical.not_not.mp q)) hp0)
        refine j_callS C rfl (fc_V_V_secondDetail V (by decide)) (m_V_secondDetail _ hT R hV hi) rfl rfl (nle rfl) (by decide) (by decide) ?_
        rintro v w' ⟨rfl, rfl⟩
        exact j_iret C E rfl (Or.inl rfl) (by decide) (by decide) ⟨rfl, rfl⟩
theorem Rp.LW (R : Rp w c s) : LnW (sK s) (sL s) := by
  obtain ⟨bh, lf, R, hL, hW⟩ := R
  exact hW
theorem Rp.len (R : Rp w c s) (i : Nat) : (sL s i).length ≤ 200 := Nat.le_trans (ln_len (R.LW.1 i) (R.LW.2.1 i)) R.k200
set_option maxHeartbeats 1000000 in
theorem m_L_withBefore (l : Launch) (hT : TOK T) (R : Rp w c s) {i : Nat} (hi : i < 4 + sK s) (x : Int32) : Ct l T y_L_withBefore W_L_withBefore rm_L_withBefore [.inr (some (cL c i)), .inl x] w (fun v w' => w' = w ∧ v = some (.inr ((match ixO (sL s i).length x with | none => none | some p => (sL s i)[p]?).map (cM c)))) := by
  refine ct_L_withBefore rfl (nle rfl) ?_
  intro X hl C E
  have V := hv_L_withBefore hT
  have hlen := R.len i
  have hline := R.line hi
  rcases ixO_cases (sL s i).length (by omega) x with ⟨h, e⟩ | ⟨h0, h, e⟩ | ⟨p, hp, rfl, h0, h, e⟩ <;> rw [e] at E
  · refine j_ifT C rfl (fw_cb_iff.mpr h) ?_
    exact j_aret C E rfl rfl (by decide) (by decide) ⟨rfl, rfl⟩
  · refine j_if C rfl (fun q => absurd q h0) (fun _ => ?_)
    refine j_get C rfl (fg_L_L_length V) hline rfl ?_
    refine j_icmp C rfl (fun q => ?_) (fun _ => ?_)
    · exfalso
      have q : x < nI (sL s i).length := q
      rw [Int32.lt_iff_toInt_lt] at q
      rw [Int32.le_iff_toInt_le] at h
      omega
    · exact j_aret C E rfl rfl (by decide) (by decide) ⟨rfl, rfl⟩
  · refine j_if C rfl (fun q => absurd q h0) (fun _ => ?_)
    refine j_get C rfl (fg_L_L_length V) hline rfl ?_
    refine j_icmpT C rfl (fw_cb_iff.mpr (nI_lt hp (by omega))) ?_
    refine j_get C rfl (fg_L_L_first V) hline rfl ?_
    have loop : ∀ (d q : Nat), q + d = p → J T G_L_withBefore X 21 [some (.inr (some (cL c i))), some (.inl (nI p)), some (.inr (((sL s i)[q]?).map (cM c))), some (.inl (nI q))] [] w 0 0 := by
      intro d
      induction d with
      | zero =>
        intro q hq
        have hq : q = p := by omega
        subst hq
        refine j_icmpT C rfl (fw_cb_iff.mpr (nI_le (Nat.le_refl _) (by omega))) ?_
        exact j_aret C E rfl rfl (by decide) (by decide) ⟨rfl, rfl⟩
      | succ d ih =>
        intro q hq
        refine j_icmp C rfl (fun z => absurd z (nI_ge (show q < p by omega) (by omega))) (fun _ => ?_)
        have hqg : (sL s i)[q]? = some ((sL s i)[q]'(by omega)) := List.getElem?_eq_getElem _
        rw [hqg]
        refine j_ifnull C rfl (fun z => by cases z) (fun _ _ => ?_)
        obtain ⟨bh, lf, RK, hL, hW⟩ := id R
        have hmem : (sL s i)[q]'(by omega) < sK s := hW.2.1 i _ (List.mem_of_getElem? hqg)
        obtain ⟨ek, pr, tg, ar, an, e0, -⟩ := RK.aM hmem
        rw [(hL i hi).2 q _ hqg] at e0
        refine j_get C rfl (fg_L_M_behind V) e0 rfl ?_
        refine j_goto C rfl ?_
        have := ih (q + 1) (by omega)
        rw [nI_succ] at this
        exact this
    refine j_to C 21 rfl ?_
    have := loop p 0 (by omega)
    rw [show (sL s i)[0]? = (sL s i).head? from List.head?_eq_getElem?.symm] at this
    exact this
theorem m_V_next (l : Launch) (hT : TOK T) (R : Rp w c s) (x y : Int32) : Ct l T y_V_next W_V_next rm_V_next [.inr (some (cO c)), .inl x, .inl y] w (fun v w' => w' = w ∧ v = some (.inl (nextS s x y))) := by
  refine ct_V_next rfl (nle rfl) ?_
  intro X hl C E
  have V := hv_V_next hT
  unfold nextS at E
  refine j_callS C rfl (fc_V_V_isVat V (by decide)) (m_V_isVat _ hT x) rfl rfl (nle rfl) (by decide) (by decide) ?_
  rintro v w' ⟨rfl, rfl⟩
  cases hx : ixO 3 x with
  | none =>
    rw [hx] at E
    refine j_ifF C rfl (by decide) ?_
    exact j_iret C E rfl (Or.inl rfl) (by decide) (by decide) ⟨rfl, rfl⟩
  | some q =>
    rw [hx] at E
    dsimp only at E
    obtain ⟨hq, rfl⟩ := ixO_lt (by decide) hx
    have hlen := R.len q
    refine j_ifT C rfl (show fw_cb _ (bI true) 0 = true by decide) ?_
    refine j_get C rfl (fg_V_V_queues V) R.o rfl ?_
    obtain ⟨f, q1, q2⟩ := R.q
    refine j_aaldI C rfl q1 hT.2.2.2.2.1 q rfl hq (by decide) ?_
    rw [q2 q hq]
    refine j_callV C rfl (fc_V_L_withBefore V (by decide)) (m_L_withBefore _ hT R (i := q) (by omega) y) rfl rfl (R.line (i := q) (by omega)) (by rw [hT.1]; rfl) (nle rfl) (by decide) (by decide) ?_
    rintro v w' ⟨rfl, rfl⟩
    cases hy : ixO (sL s q).length y with
    | none =>
      rw [hy] at E
      refine j_ifnn C rfl (fun _ h => by cases h) (fun _ => ?_)
      refine j_goto C rfl ?_
      exact j_iret C E rfl (Or.inl rfl) (by decide) (by decide) ⟨rfl, rfl⟩
    | some p =>
      rw [hy] at E
      have hp := (ixO_lt (by omega) hy).1
      have hpg : (sL s q)[p]? = some ((sL s q)[p]'hp) := List.getElem?_eq_getElem _
      have hgd : (sL s q).getD p 0 = (sL s q)[p]'hp := by rw [List.getD_eq_getElem?_getD, hpg]; rfl
      dsimp only at E ⊢
      rw [hgd] at E
      rw [hpg]
      refine j_ifnn C rfl (fun _ _ => ?_) (fun h => by cases h)
      have hmem : (sL s q)[p]'hp < sK s := R.LW.2.1 q _ (List.mem_of_getElem? hpg)
      obtain ⟨b, pr, tg, ar, an, m0, -⟩ := R.msg hmem
      refine j_get C rfl (fg_V_M_number V) m0 rfl ?_
      exact j_iret C E rfl (Or.inl rfl) (by decide) (by decide) ⟨rfl, rfl⟩
end HOST
end
section
/-! cell, number, introduce; what answers keep. -/
def PI (c : Cfg) (s : St) (f : St × Int32) : Option fw_V → fw_W → Prop := fun v w' => ∃ c', CX s c c' ∧ v = some (.inl f.2) ∧ Rp w' c' f.1
def cellS (s : St) (x : Int32) : St × Int32 := match ixO 3 x with
  | none => (s, -1)
  | some _ => match (make s 0 x none).2 with
    | none => (s, -2)
    | some i => ((make s 0 x none).1, nI i)
def cIx (s : St) (x : Int32) : Option Nat := match ixO (sN s) x with | some i => if tK (sT s i) = 0 then some i else none | none => none
abbrev slotS (s : St) (i q : Nat) (r : Rf) : St := upT s i (tSet (sT s i) (va_up (tS (sT s i)) q r))
def numberS (s : St) (a b x : Int32) : St × Int32 := match cIx s a with
  | none => (s, 0)
  | some i => match ixO 4 b with
    | none => (s, 0)
    | some q => (slotS s i q (1, x), 1)
def introduceS (s : St) (a b x : Int32) : St × Int32 := match cIx s a with
  | none => (s, 0)
  | some i => match ixO (sN s) x with
    | none => (s, 0)
    | some o => match ixO 4 b with
      | none => (s, 0)
      | some q => (slotS s i q (2, nI o), 1)
theorem cIx_lt {s : St} (hn : sN s ≤ 40) {x : Int32} {i : Nat} (h : cIx s x = some i) : i < sN s := by
  unfold cIx at h
  cases hx : ixO (sN s) x with
  | none => rw [hx] at h; cases h
  | some j =>
    rw [hx] at h
    dsimp only at h
    by_cases hk : tK (sT s j) = 0
    · rw [if_pos hk] at h; cases h; exact (ixO_lt (by omega) hx).1
    · rw [if_neg hk] at h; cases h
section HOST2
variable {T : fw_T} {w : fw_W} {c : Cfg} {s : St}
theorem m_V_cellIx (l : Launch) (hT : TOK T) (R : Rp w c s) (x : Int32) : Ct l T y_V_cellAt W_V_cellAt rm_V_cellAt [.inr (some (cO c)), .inl x] w (fun r w' => w' = w ∧ r = some (.inr ((cIx s x).map (cT c)))) := m_V_cellAt l hT R x
set_option maxHeartbeats 1000000 in
theorem m_V_cell (l : Launch) (hT : TOK T) (R : Rp w c s) (x : Int32) : Ct l T y_V_cell W_V_cell rm_V_cell [.inr (some (cO c)), .inl x] w (PI c s (cellS s x)) := by
  refine ct_V_cell rfl (nle rfl) ?_
  intro X hl C E
  have V := hv_V_cell hT
  unfold cellS at E
  refine j_callS C rfl (fc_V_V_isVat V (by decide)) (m_V_isVat _ hT x) rfl rfl (nle rfl) (by decide) (by decide) ?_
  rintro v w' ⟨rfl, rfl⟩
  cases hx : ixO 3 x with
  | none =>
    rw [hx] at E
    refine j_ifF C rfl (by decide) ?_
    exact j_iret C E rfl (Or.inl rfl) (by decide) (by decide) ⟨c, Cext.rf, rfl, R⟩
  | some q =>
    rw [hx] at E
    dsimp only at E
    refine j_ifT C rfl (show fw_cb _ (bI true) 0 = true by decide) ?_
    refine j_callV C rfl (fc_V_V_make V (by decide)) (m_V_make _ hT R 0 x none (fun i h => by cases h)) rfl rfl R.o (by rw [hT.1]; rfl) (nle rfl) (by decide) (by decide) ?_
    rintro v w1 ⟨c', hc, rfl, R1, hrm⟩
    cases hm : (make s 0 x none).2 with
    | none =>
      rw [hm] at E
      have hs : (make s 0 x none).1 = s := by
        unfold make at hm ⊢
        by_cases h : sN s < 40
        · rw [if_pos h] at hm; cases hm
        · rw [if_neg h]
      rw [hs] at R1
      refine j_ifnn C rfl (fun _ h => by cases h) (fun _ => ?_)
      refine j_goto C rfl ?_
      exact j_iret C E rfl (Or.inl rfl) (by decide) (by decide) ⟨c', hc, rfl, R1⟩
    | some i =>
      rw [hm] at E
      refine j_ifnn C rfl (fun _ _ => ?_) (fun h => by cases h)
      obtain ⟨ek, sf, hd, f, e0, -⟩ := R1.aT (make_lt i hm)
      refine j_get C rfl (fg_V_H_number V) e0 rfl ?_
      exact j_iret C E rfl (Or.inl rfl) (by decide) (by decide) ⟨c', hc, rfl, R1⟩
set_option maxHeartbeats 1000000 in
theorem m_V_number (l : Launch) (hT : TOK T) (R : Rp w c s) (a b x : Int32) : Ct l T y_V_number W_V_number rm_V_number [.inr (some (cO c)), .inl a, .inl b, .inl x] w (PI c s (numberS s a b x)) := by
  refine ct_V_number rfl (nle rfl) ?_
  intro X hl C E
  have V := hv_V_number hT
  unfold numberS at E
  refine j_callV C rfl (fc_V_V_cellAt V (by decide)) (m_V_cellIx _ hT R a) rfl rfl R.o (by rw [hT.1]; rfl) (nle rfl) (by decide) (by decide) ?_
  rintro v w' ⟨rfl, rfl⟩
  cases hx : cIx s a with
  | none =>
    rw [hx] at E
    refine j_ifnull C rfl (fun _ => ?_) (fun _ h => by cases h)
    exact j_iret C E rfl (Or.inr ⟨rfl, Or.inl rfl⟩) (by decide) (by decide) ⟨c, Cext.rf, rfl, R⟩
  | some i =>
    rw [hx] at E
    dsimp only at E
    have hi := cIx_lt R.n40 hx
    obtain ⟨ek, sf, hd, f, e0, e1, e2, e3, e4⟩ := R.aT hi
    refine j_ifnull C rfl (fun h => by cases h) (fun _ _ => ?_)
    refine j_callS C rfl (fc_V_V_isSlot V (by decide)) (m_V_isSlot _ hT b) rfl rfl (nle rfl) (by decide) (by decide) ?_
    rintro v w' ⟨rfl, rfl⟩
    cases hy : ixO 4 b with
    | none =>
      rw [hy] at E
      refine j_ifF C rfl (by decide) ?_
      exact j_iret C E rfl (Or.inr ⟨rfl, Or.inl rfl⟩) (by decide) (by decide) ⟨c, Cext.rf, rfl, R⟩
    | some q =>
      rw [hy] at E
      obtain ⟨hq, rfl⟩ := ixO_lt (by decide) hy
      refine j_ifT C rfl (show fw_cb _ (bI true) 0 = true by decide) ?_
      refine j_get C rfl (fg_V_H_slots V) e0 rfl ?_
      refine j_callS C rfl (fc_V_V_numeral V (by decide)) (m_V_numeral _ hT x) rfl rfl (nle rfl) (by decide) (by decide) ?_
      rintro v w1 ⟨p, hp, rfl, rfl⟩
      have R1 := R.grow (e := .inr (kR, [.inl 1, .inl x])) hp
      have hr : IsR (va_up w' p (some (.inr (kR, [.inl 1, .inl x])))) p (1, x) := va_up_self _ _ _
      refine j_aastI C rfl (up_new e3 hp) hT.2.1 q rfl hq (by decide) (put_ref hT hr) ?_
      exact j_iret C E rfl (Or.inr ⟨rfl, Or.inr rfl⟩) (by decide) (by decide) ⟨c, Cext.rf, rfl, R1.setS hi (up_new e3 hp) hr⟩
set_option maxHeartbeats 1000000 in
theorem m_V_introduce (l : Launch) (hT : TOK T) (R : Rp w c s) (a b x : Int32) : Ct l T y_V_introduce W_V_introduce rm_V_introduce [.inr (some (cO c)), .inl a, .inl b, .inl x] w (PI c s (introduceS s a b x)) := by
  refine ct_V_introduce rfl (nle rfl) ?_
  intro X hl C E
  have V := hv_V_introduce hT
  have hn := R.n40
  unfold introduceS at E
  refine j_callV C rfl (fc_V_V_cellAt V (by decide)) (m_V_cellIx _ hT R a) rfl rfl R.o (by rw [hT.1]; rfl) (nle rfl) (by decide) (by decide) ?_
  rintro v w' ⟨rfl, rfl⟩
  refine j_callV C rfl (fc_V_V_thingAt V (by decide)) (m_V_thingAt _ hT R x) rfl rfl R.o (by rw [hT.1]; rfl) (nle rfl) (by decide) (by decide) ?_
  rintro v w' ⟨rfl, rfl⟩
  cases hx : cIx s a with
  | none =>
    rw [hx] at E
    refine j_ifnull C rfl (fun _ => ?_) (fun _ h => by cases h)
    exact j_iret C E rfl (Or.inr ⟨rfl, Or.inl rfl⟩) (by decide) (by decide) ⟨c, Cext.rf, rfl, R⟩
  | some i =>
    rw [hx] at E
    dsimp only at E
    have hi := cIx_lt R.n40 hx
    obtain ⟨ek, sf, hd, f, e0, e1, e2, e3, e4⟩ := R.aT hi
    refine j_ifnull C rfl (fun h => by cases h) (fun _ _ => ?_)
    cases hz : ixO (sN s) x with
    | none =>
      rw [hz] at E
      refine j_ifnull C rfl (fun _ => ?_) (fun _ h => by cases h)
      exact j_iret C E rfl (Or.inr ⟨rfl, Or.inl rfl⟩) (by decide) (by decide) ⟨c, Cext.rf, rfl, R⟩
    | some o =>
      rw [hz] at E
      dsimp only at E
      have ho := (ixO_lt (by omega) hz).1
      obtain ⟨ek', sf', hd', f', g0, g1, -⟩ := R.aT ho
      refine j_ifnull C rfl (fun h => by cases h) (fun _ _ => ?_)
      refine j_callS C rfl (fc_V_V_isSlot V (by decide)) (m_V_isSlot _ hT b) rfl rfl (nle rfl) (by decide) (by decide) ?_
      rintro v w' ⟨rfl, rfl⟩
      cases hy : ixO 4 b with
      | none =>
        rw [hy] at E
        refine j_ifF C rfl (by decide) ?_
        exact j_iret C E rfl (Or.inr ⟨rfl, Or.inl rfl⟩) (by decide) (by decide) ⟨c, Cext.rf, rfl, R⟩
      | some q =>
        rw [hy] at E
        obtain ⟨hq, rfl⟩ := ixO_lt (by decide) hy
        refine j_ifT C rfl (show fw_cb _ (bI true) 0 = true by decide) ?_
        refine j_get C rfl (fg_V_H_slots V) e0 rfl ?_
        refine j_get C rfl (fg_V_H_self V) g0 rfl ?_
        refine j_aastI C rfl e3 hT.2.1 q rfl hq (by decide) (put_ref hT g1) ?_
        exact j_iret C E rfl (Or.inr ⟨rfl, Or.inr rfl⟩) (by decide) (by decide) ⟨c, Cext.rf, rfl, R.setS hi e3 g1⟩
end HOST2
/-- things as they should be: their home a vat, their truth values 0 or 1 -/
def goodT (t : Th) : Prop := (tV t = 0 ∨ tV t = 1) ∧ (tI t = 0 ∨ tI t = 1) ∧ ∃ h, h < 3 ∧ tH t = nI h
def good (s : St) : Prop := ∀ i, i < sN s → goodT (sT s i)
theorem good.rv {s : St} (h : good s) : rvOK s := fun i hi => ⟨(h i hi).1, (h i hi).2.1⟩
theorem good.hm {s : St} (h : good s) : hmOK s := fun i hi => (h i hi).2.2
/-- what an answer keeps -/
def keeps (s : St) (s' : St) : Prop := s'.2.2 = s.2.2 ∧ sN s ≤ sN s' ∧ (good s → good s')
theorem keeps.rf {s : St} : keeps s s := ⟨rfl, Nat.le_refl _, id⟩
theorem keeps.tr {s s' s'' : St} (h : keeps s s') (h' : keeps s' s'') : keeps s s'' := ⟨h'.1.trans h.1, Nat.le_trans h.2.1 h'.2.1, fun g => h'.2.2 (h.2.2 g)⟩
theorem keeps.up {s : St} {i : Nat} {t : Th} (h : good s → goodT t) : keeps s (upT s i t) := ⟨rfl, Nat.le_refl _, fun g j hj => by
  show goodT (va_up (sT s) i t j)
  by_cases hji : j = i
  · rw [hji, va_up_self]; exact h g
  · rw [va_up_ne _ _ hji]; exact g j hj⟩
theorem keeps.add {s : St} {t : Th} (h : good s → goodT t) : keeps s (sN s + 1, va_up (sT s) (sN s) t, s.2.2) := ⟨rfl, Nat.le_succ _, fun g j hj => by
  show goodT (va_up (sT s) (sN s) t j)
  by_cases hji : j = sN s
  · rw [hji, va_up_self]; exact h g
  · rw [va_up_ne _ _ hji]; exact g j (by have : j < sN s + 1 := hj; omega)⟩
theorem keeps_make {s : St} {kd hm : Int32} {ow : Option Nat} (h : good s → ∃ v, v < 3 ∧ hm = nI v) : keeps s (make s kd hm ow).1 := by
  unfold make
  by_cases h4 : sN s < 40
  · rw [if_pos h4]; exact keeps.add (fun g => ⟨Or.inl rfl, Or.inl rfl, h g⟩)
  · rw [if_neg h4]; exact keeps.rf
theorem keeps.wrap {s : St} {r : Rf} {mb : Nat} {inw : Int32} (hmb : mb < sN s) (hz : good s → inw = 0 ∨ inw = 1) : keeps s (wrapS s r mb inw).1 := ⟨wrapS_st.2.2, wrapS_st.1, fun g => wrapS_new (P := goodT) g (fun m => ⟨Or.inl rfl, hz g, (g mb hmb).2.2⟩)⟩
theorem keeps.answer {s : St} {i : Nat} (hn : sN s ≤ 40) (hi : i < sN s) {v : Int32} {r : Rf} : keeps s (answerS s i v r).1 := by
  have hh : good s → ∃ v, v < 3 ∧ tH (sT s i) = nI v := fun g => (g i hi).2.2
  have hrev : keeps s (ansRev s i v).1 := by
    unfold ansRev
    split
    · exact keeps.up (fun g => ⟨Or.inr rfl, (g i hi).2.1, (g i hi).2.2⟩)
    · split <;> exact keeps.rf
  unfold answerS
  split
  · unfold ansCell
    split
    · exact keeps.rf
    · split
      · exact keeps.up (fun g => g i hi)
      · split
        · exact keeps_make hh
        · split
          · unfold gateS
            split
            · refine ⟨rfl, by show sN s ≤ sN s + 1 + 1; omega, fun g j hj => ?_⟩
              show goodT (va_up (va_up (sT s) (sN s) _) (sN s + 1) _ j)
              by_cases h1 : j = sN s + 1
              · rw [h1, va_up_self]; exact ⟨Or.inl rfl, Or.inl rfl, hh g⟩
              · rw [va_up_ne _ _ h1]
                by_cases h2 : j = sN s
                · rw [h2, va_up_self]; exact ⟨Or.inl rfl, Or.inl rfl, hh g⟩
                · rw [va_up_ne _ _ h2]; exact g j (by have : j < sN s + 1 + 1 := hj; omega)
            · exact keeps.rf
          · split
            · exact keeps_make hh
            · split
              · exact keeps_make hh
              · split
                · exact keeps_make hh
                · exact keeps.rf
  · split
    · split
      · exact keeps.rf
      · exact hrev
    · split
      · unfold ansBrand
        split
        · exact keeps_make hh
        · split
          · exact keeps_make hh
          · exact keeps.rf
      · split
        · split
          · unfold boxS
            split
            · exact keeps.add (fun g => ⟨Or.inl rfl, Or.inl rfl, hh g⟩)
            · exact keeps.rf
          · exact keeps.rf
        · split
          · split
            · unfold unsealS
              split
              · exact keeps.rf
              · split <;> exact keeps.rf
            · exact keeps.rf
          · split
            · split
              · unfold moneyS
                split
                · split
                  · exact keeps.add (fun g => ⟨Or.inl rfl, Or.inl rfl, hh g⟩)
                  · exact keeps.rf
                · exact keeps.rf
              · exact keeps.rf
            · split
              · unfold ansPurse
                split
                · exact keeps.rf
                · split
                  · exact keeps_make hh
                  · split
                    · unfold depositS
                      split
                      · exact keeps.rf
                      · split
                        · rename_i o hk _
                          have ho : o < sN s := (kOf_lt hn hk).1
                          refine ⟨rfl, Nat.le_refl _, fun g j hj => ?_⟩
                          show goodT (va_up (va_up (sT s) o _) i _ j)
                          by_cases h1 : j = i
                          · rw [h1, va_up_self]; exact g i hi
                          · rw [va_up_ne _ _ h1]
                            by_cases h2 : j = o
                            · rw [h2, va_up_self]; exact g o ho
                            · rw [va_up_ne _ _ h2]; exact g j hj
                        · exact keeps.rf
                    · split
                      · unfold splitS
                        split
                        · split
                          · exact (keeps.add (t := (8, tH (sT s i), tO (sT s i), fun _ => rN, rN, none, 0, 0, (cnt s r).2)) (fun g => ⟨Or.inl rfl, Or.inl rfl, hh g⟩)).tr ⟨rfl, Nat.le_refl _, fun g j hj => by
                              show goodT (va_up _ i _ j)
                              by_cases hji : j = i
                              · subst hji
                                rw [va_up_self]
                                have := g j hj
                                have e : sT (sN s + 1, va_up (sT s) (sN s) (8, tH (sT s j), tO (sT s j), fun _ => rN, rN, none, 0, 0, (cnt s r).2), s.2.2) j = sT s j := va_up_ne _ _ (Nat.ne_of_lt hi)
                                rw [e] at this
                                exact this
                              · rw [va_up_ne _ _ hji]; exact g j hj⟩
                          · exact keeps.rf
                        · exact keeps.rf
                      · exact keeps.rf
              · split
                · split
                  · exact keeps.wrap hi (fun _ => Or.inl rfl)
                  · exact hrev
                · exact keeps.rf
end
section
/-! turn. -/
theorem keeps_note {s : St} {p : Nat} {r : Rf} (hp : p < sN s) (ho : ∀ o, tO (sT s p) = some o → o < sN s) : keeps s (noteS s p r).1 := by
  unfold noteS
  split
  · exact keeps.rf
  · rename_i o h
    split
    · exact keeps.wrap (ho o h) (fun g => (g p hp).2.1)
    · exact keeps.rf
theorem keeps_wan : ∀ (ps : List Nat) {s : St} {r : Rf}, (∀ p, p ∈ ps → p < sN s ∧ ∀ o, tO (sT s p) = some o → o < sN s) → keeps s (wanS ps s r).1
  | [], s, r, _ => keeps.rf
  | p :: ps, s, r, h => by
    have h1 := h p List.mem_cons_self
    refine (keeps_note (r := r) h1.1 h1.2).tr (keeps_wan ps (fun q hq => ?_))
    obtain ⟨a, b⟩ := h q (List.mem_cons_of_mem _ hq)
    obtain ⟨c1, c2, -⟩ := noteS_st (s := s) (p := p) (r := r)
    exact ⟨by omega, fun o ho => by rw [c2 q a] at ho; have := b o ho; omega⟩
theorem settleS_st (s : St) (j : Nat) (r : Rf) : sN (settleS s j r) = sN s ∧ sT (settleS s j r) = sT s ∧ sK (settleS s j r) = sK s := ⟨rfl, rfl, rfl⟩
theorem rAll_st : ∀ (f : Nat) (s : St), sN (rAll f s) = sN s ∧ sT (rAll f s) = sT s ∧ sK (rAll f s) = sK s
  | 0, s => ⟨rfl, rfl, rfl⟩
  | f + 1, s => by
    rw [show rAll (f + 1) s = (match sL s 3 with | [] => s | j :: r => rAll f (routeS (sN s, sT s, sK s, sM s, va_up (sL s) 3 r) j)) from rfl]
    cases sL s 3 with
    | nil => exact ⟨rfl, rfl, rfl⟩
    | cons j r =>
      obtain ⟨a1, a2, a3⟩ := rAll_st f (routeS (sN s, sT s, sK s, sM s, va_up (sL s) 3 r) j)
      obtain ⟨b1, b2, b3⟩ := routeS_st (sN s, sT s, sK s, sM s, va_up (sL s) 3 r) j
      exact ⟨a1.trans b1, a2.trans b2, a3.trans b3⟩
theorem relW_st {s : St} {i j : Nat} (hi : i < sN s) (ho : ∀ o, tO (sT s i) = some o → o < sN s) : sN s ≤ sN (relW s i j) ∧ sK (relW s i j) = sK s ∧ (good s → good (relW s i j)) := by
  unfold relW
  split
  · exact ⟨Nat.le_refl _, rfl, id⟩
  · rename_i o h
    split
    · have k := keeps.wrap (s := s) (r := mA (sM s j)) (mb := o) (inw := 1 - tI (sT s i)) (ho o h) (fun g => by
        rcases (g i hi).2.1 with q | q <;> rw [q] <;> decide)
      refine ⟨k.2.1, ?_, fun g => k.2.2 g⟩
      show (wrapS s (mA (sM s j)) o (1 - tI (sT s i))).1.2.2.1 = s.2.2.1
      rw [k.1]
    · exact ⟨Nat.le_refl _, rfl, id⟩
def turn2 (s : St) (o : Option Nat) (j : Nat) : St := settleS (wanS (mW (sM s j)).reverse (ansO s o (mV (sM s j)) (mA (sM s j))).1 (ansO s o (mV (sM s j)) (mA (sM s j))).2).1 j (wanS (mW (sM s j)).reverse (ansO s o (mV (sM s j)) (mA (sM s j))).1 (ansO s o (mV (sM s j)) (mA (sM s j))).2).2
def turn1 (s : St) (j : Nat) : St := match tOf s (mT (sM s j)) with
  | some i => if relaysS s i j = true then relayS s i j else turn2 s (some i) j
  | none => turn2 s none j
def turnS (s : St) (x : Int32) : St × Int32 := match ixO 3 x with
  | none => (s, -1)
  | some v => match sL s v with
    | [] => (s, -3)
    | j :: r => (rAll 200 (turn1 (upL s v r) j), nI j)
section TURN
variable {T : fw_T} {w : fw_W} {c : Cfg} {s : St}
theorem keeps_ansO {s : St} {o : Option Nat} {v : Int32} {r : Rf} (hn : sN s ≤ 40) (ho : ∀ i, o = some i → i < sN s) : keeps s (ansO s o v r).1 := by
  cases o with
  | none => exact keeps.rf
  | some i => exact keeps.answer hn (ho i rfl)
theorem Rp.notes (R : Rp w c s) {j : Nat} (hj : j < sK s) : ∀ p, p ∈ mW (sM s j) → p < sN s ∧ ∀ o, tO (sT s p) = some o → o < sN s := by
  intro p hp
  obtain ⟨b, pr, tg, ar, an, m0, -, -, -, -, mk, -⟩ := R.msg hj
  have h1 := mk p hp
  obtain ⟨ek, -⟩ := R.aT h1
  exact ⟨h1, ek.1⟩
set_option maxHeartbeats 4000000 in
theorem m_V_turn (l : Launch) (hT : TOK T) (R : Rp w c s) (g : good s) (x : Int32) : Ct l T y_V_turn W_V_turn rm_V_turn [.inr (some (cO c)), .inl x] w (PI c s (turnS s x)) := by
  refine ct_V_turn rfl (nle rfl) ?_
  intro X hl C E
  have V := hv_V_turn hT
  unfold turnS at E
  refine j_callS C rfl (fc_V_V_isVat V (by decide)) (m_V_isVat _ hT x) rfl rfl (nle rfl) (by decide) (by decide) ?_
  rintro v w' ⟨rfl, rfl⟩
  cases hx : ixO 3 x with
  | none =>
    rw [hx] at E
    refine j_ifF C rfl (by decide) ?_
    exact j_iret C E rfl (Or.inl rfl) (by decide) (by decide) ⟨c, Cext.rf, rfl, R⟩
  | some v =>
    rw [hx] at E
    dsimp only at E
    obtain ⟨hv, rfl⟩ := ixO_lt (by decide) hx
    refine j_ifT C rfl (show fw_cb _ (bI true) 0 = true by decide) ?_
    refine j_get C rfl (fg_V_V_queues V) R.o rfl ?_
    obtain ⟨f, q1, q2⟩ := R.q
    refine j_aaldI C rfl q1 hT.2.2.2.2.1 v rfl hv (by decide) ?_
    rw [q2 v hv]
    cases hl : sL s v with
    | nil =>
      rw [hl] at E
      refine j_callV C rfl (fc_V_L_take V (by decide)) (m_L_take0 _ hT R (i := v) (by omega) hl) rfl rfl (R.line (i := v) (by omega)) (by rw [hT.1]; rfl) (nle rfl) (by decide) (by decide) ?_
      rintro y w' ⟨rfl, rfl⟩
      refine j_ifnn C rfl (fun _ h => by cases h) (fun _ => ?_)
      exact j_iret C E rfl (Or.inl rfl) (by decide) (by decide) ⟨c, Cext.rf, rfl, R⟩
    | cons j r =>
      rw [hl] at E
      dsimp only at E
      have hj : j < sK s := R.LW.2.1 v j (by rw [hl]; exact List.mem_cons_self)
      have hnl := (R.LW.take hl).2
      refine j_callV C rfl (fc_V_L_take V (by decide)) (m_L_take _ hT R (i := v) (by omega) hl) rfl rfl (R.line (i := v) (by omega)) (by rw [hT.1]; rfl) (nle rfl) (by decide) (by decide) ?_
      rintro y w1 ⟨rfl, R1⟩
      have R1 : Rp w1 c (upL s v r) := R1
      have g1 : good (upL s v r) := g
      generalize hs1 : upL s v r = s1 at R1 E g1
      have hj1 : j < sK s1 := by rw [← hs1]; exact hj
      have hnl1 : ∀ q, j ∉ sL s1 q := by rw [← hs1]; exact hnl
      have hc1 : ∀ c', CX s1 c c' → CX s c c' := by rw [← hs1]; exact fun _ h => h
      refine j_ifnn C rfl (fun _ _ => ?_) (fun h => by cases h)
      obtain ⟨b, pr, tg, ar, an, m0, m2, m3, m4, m5, mk, ml, mS, -⟩ := R1.msg hj1
      refine j_get C rfl (fg_V_M_target V) m0 rfl ?_
      refine j_callV C rfl (fc_V_V_thingOf V (by decide)) (m_V_thingOf _ hT R1 m2) rfl rfl R1.o (by rw [hT.1]; rfl) (nle rfl) (by decide) (by decide) ?_
      rintro y w' ⟨rfl, rfl⟩
      have fin : ∀ (w2 : fw_W) (c2 : Cfg) (s2 : St) (z : Option fw_V) (kk nn : Nat), Rp w2 c2 s2 → CX s1 c c2 → hmOK s2 → sK s2 = sK s1 → turn1 s1 j = s2 → kk ≤ 30 → nn ≤ 170 → J T G_V_turn X 72 [some (.inr (some (cO c))), some (.inl (nI v)), some (.inr (some (cM c j))), z] [] w2 kk nn := by
        intro w2 c2 s2 z kk nn R2 hc hH hk ht hkk hnn
        rw [ht] at E
        rw [cO_eq hc, ← (hc.2.2.1 j hj1).1]
        refine j_callV C rfl (fc_V_V_routeAll V (by decide)) (m_V_routeAll _ hT R2 hH) rfl rfl R2.o (by rw [hT.1]; rfl) (nle rfl) (by show kk + 0 ≤ 30; omega) (by show nn + 0 ≤ 170; omega) ?_
        rintro y w3 ⟨rfl, R3⟩
        obtain ⟨b', pr', tg', ar', an', p0, -⟩ := R3.msg (j := j) (by rw [(rAll_st 200 s2).2.2, hk]; exact hj1)
        refine j_get C rfl (fg_V_M_number V) p0 rfl ?_
        exact j_iret C E rfl (Or.inl rfl) (by show kk + 0 ≤ 30; omega) (by show nn + 0 ≤ 170; omega) ⟨c2, hc1 c2 hc, rfl, R3⟩
      have ans : ∀ (o : Option Nat), (∀ i, o = some i → i < sN s1) → turn1 s1 j = turn2 s1 o j → J T G_V_turn X 56 [some (.inr (some (cO c))), some (.inl (nI v)), some (.inr (some (cM c j))), some (.inr (o.map (cT c)))] [] w' 0 0 := by
        intro o ho ht
        refine j_callV C rfl (fc_V_V_answer V (by decide)) (m_V_answer _ hT R1 g1.rv ho hj1) rfl rfl R1.o (by rw [hT.1]; rfl) (nle rfl) (by decide) (by decide) ?_
        rintro y w2 ⟨c2, b2, hc2, rfl, hb2, R2, -⟩
        have k2 := keeps_ansO (s := s1) (o := o) (v := mV (sM s1 j)) (r := mA (sM s1 j)) R1.n40 ho
        generalize ha : ansO s1 o (mV (sM s1 j)) (mA (sM s1 j)) = a at hb2 R2 k2
        have hj2 : j < sK a.1 := by show j < a.1.2.2.1; rw [k2.1]; exact hj1
        have hM2 : sM a.1 = sM s1 := by show a.1.2.2.2.1 = _; rw [k2.1]
        rw [cO_eq hc2, ← (hc2.2.2.1 j hj1).1]
        refine j_callV C rfl (fc_V_V_wrapAsNoted V (by decide)) (m_V_wrapAsNoted _ hT R2 (k2.2.2 g1).rv hb2 hj2) rfl rfl R2.o (by rw [hT.1]; rfl) (nle rfl) (by decide) (by decide) ?_
        rintro y w3 ⟨c3, b3, hc3, rfl, hb3, R3, -⟩
        have k3 := keeps_wan (mW (sM a.1 j)).reverse (s := a.1) (r := a.2) (fun p hp => R2.notes hj2 p (List.mem_reverse.mp hp))
        have k23 := k2.tr k3
        rw [cO_eq hc3, ← (hc3.2.2.1 j hj2).1]
        have hj3 : j < sK (wanS (mW (sM a.1 j)).reverse a.1 a.2).1 := by show j < (wanS (mW (sM a.1 j)).reverse a.1 a.2).1.2.2.1; rw [k23.1]; exact hj1
        refine j_callV C rfl (fc_V_V_settle V (by decide)) (m_V_settle _ hT R3 hj3 hb3) rfl rfl R3.o (by rw [hT.1]; rfl) (nle rfl) (by decide) (by decide) ?_
        rintro y w4 ⟨rfl, R4⟩
        have hk2 : sK a.1 = sK s1 := by
          show a.1.2.2.1 = _
          rw [k2.1]
        have hc13 : CX s1 c c3 := hc2.tr hc3 k2.2.1 (by omega)
        rw [(hc3.2.2.1 j hj2).1, (hc2.2.2.1 j hj1).1, ← cO_eq hc3, ← cO_eq hc2]
        refine fin w4 c3 _ _ _ _ R4 hc13 ((k23.2.2 g1).hm.of rfl rfl) ?_ ?_ (by decide) (by decide)
        · show sK (wanS (mW (sM a.1 j)).reverse a.1 a.2).1 = sK s1
          show (wanS (mW (sM a.1 j)).reverse a.1 a.2).1.2.2.1 = _
          rw [k23.1]
        · rw [ht]
          unfold turn2
          rw [ha, hM2]
      cases ht : tOf s1 (mT (sM s1 j)) with
      | none =>
        refine j_ifnull C rfl (fun _ => ?_) (fun _ h => by cases h)
        exact ans none (fun i h => by cases h) (by unfold turn1; rw [ht])
      | some i =>
        have hi : i < sN s1 := tOf_lt R1.n40 ht
        refine j_ifnull C rfl (fun h => by cases h) (fun _ _ => ?_)
        refine j_callS C rfl (fc_V_V_relays V (by decide)) (m_V_relays _ hT R1 g1.rv hi hj1) rfl rfl (nle rfl) (by decide) (by decide) ?_
        rintro y w' ⟨rfl, rfl⟩
        cases hr : relaysS s1 i j with
        | false =>
          refine j_ifT C rfl (by decide) ?_
          exact ans (some i) (fun i' h => by cases h; exact hi) (by unfold turn1; rw [ht]; dsimp only; rw [if_neg (by rw [hr]; decide)])
        | true =>
          refine j_ifF C rfl (by decide) ?_
          obtain ⟨hcut, hkk⟩ := of_decide_eq_true hr
          obtain ⟨ek, -⟩ := R1.aT hi
          cases hto : tO (sT s1 i) with
          | none =>
            exfalso
            unfold cut at hcut
            rw [hto] at hcut
            exact absurd (show (1 : Int32) = 0 from hcut) (by decide)
          | some o =>
            refine j_callV C rfl (fc_V_V_relay V (by decide)) (m_V_relay _ hT R1 g1.rv hi hj1 hto (fun h10 => hkk.elim (fun h2 => by rw [h10] at h2; exact absurd h2 (by decide)) (fun z => z.2)) hnl1) rfl rfl R1.o (by rw [hT.1]; rfl) (nle rfl) (by decide) (by decide) ?_
            rintro y w2 ⟨rfl, c2, hc2, R2⟩
            refine j_goto C rfl ?_
            obtain ⟨r1, r2, r3⟩ := relW_st (s := s1) (i := i) (j := j) hi ek.1
            exact fin w2 c2 _ _ _ _ R2 hc2 ((r3 g1).hm.of rfl rfl) r2 (by unfold turn1; rw [ht]; dsimp only; rw [if_pos hr]) (by decide) (by decide)
end TURN
end
section
/-! send. -/
def argS (s : St) (i : Nat) (ar : Int32) : Rf := match ixO 4 ar with
  | some p => tS (sT s i) p
  | none => rN
abbrev newM (v : Int32) (t a : Rf) : Ms := (v, t, a, none, 0, [])
def send0 (s : St) (i q : Nat) (v ar : Int32) : St := (sN s, sT s, sK s + 1, va_up (sM s) (sK s) (newM v (tS (sT s i) q) (argS s i ar)), sL s)
def send1 (s : St) (i q : Nat) (v ar rs : Int32) : St := match ixO 4 rs with
  | some p => slotS (send0 s i q v ar) i p (3, nI (sK s))
  | none => send0 s i q v ar
def sOK (x : Int32) : Bool := decide (x = -1) || (ixO 4 x).isSome
def sendS (s : St) (a tg v ar rs : Int32) : St × Int32 := match cIx s a with
  | none => (s, -1)
  | some i => match ixO 4 tg with
    | none => (s, -1)
    | some q => match ixO 16 v with
      | none => (s, -1)
      | some _ => if sOK ar = true then (if sOK rs = true then (if sK s < 200 then (rAll 200 (upL (send1 s i q v ar rs) 3 (sL s 3 ++ [sK s])), nI (sK s)) else (s, -2)) else (s, -1)) else (s, -1)
section SEND
variable {T : fw_T} {w : fw_W} {c : Cfg} {s : St}
theorem send1_st {s : St} {i q : Nat} {v ar rs : Int32} : sN (send1 s i q v ar rs) = sN s ∧ sK (send1 s i q v ar rs) = sK s + 1 ∧ sL (send1 s i q v ar rs) = sL s := by
  unfold send1
  split <;> exact ⟨rfl, rfl, rfl⟩
theorem send1_good {s : St} {i q : Nat} {v ar rs : Int32} (hi : i < sN s) (g : good s) : good (send1 s i q v ar rs) := by
  unfold send1
  split
  · intro j hj
    show goodT (va_up (sT s) i _ j)
    by_cases h : j = i
    · rw [h, va_up_self]; exact g i hi
    · rw [va_up_ne _ _ h]; exact g j hj
  · exact g
set_option maxHeartbeats 4000000 in
theorem m_V_send (l : Launch) (hT : TOK T) (R : Rp w c s) (g : good s) (a tg v ar rs : Int32) : Ct l T y_V_send W_V_send rm_V_send [.inr (some (cO c)), .inl a, .inl tg, .inl v, .inl ar, .inl rs] w (PI c s (sendS s a tg v ar rs)) := by
  refine ct_V_send rfl (nle rfl) ?_
  intro X hl C E
  have V := hv_V_send hT
  have hk := R.k200
  unfold sendS at E
  refine j_callV C rfl (fc_V_V_cellAt V (by decide)) (m_V_cellIx _ hT R a) rfl rfl R.o (by rw [hT.1]; rfl) (nle rfl) (by decide) (by decide) ?_
  rintro y w' ⟨rfl, rfl⟩
  cases hx : cIx s a with
  | none =>
    rw [hx] at E
    refine j_ifnull C rfl (fun _ => ?_) (fun _ h => by cases h)
    exact j_iret C E rfl (Or.inl rfl) (by decide) (by decide) ⟨c, Cext.rf, rfl, R⟩
  | some i =>
    rw [hx] at E
    dsimp only at E
    have hi := cIx_lt R.n40 hx
    obtain ⟨ek, sf, hd, f, e0, e1, e2, e3, e4⟩ := R.aT hi
    refine j_ifnull C rfl (fun h => by cases h) (fun _ _ => ?_)
    refine j_callS C rfl (fc_V_V_isSlot V (by decide)) (m_V_isSlot _ hT tg) rfl rfl (nle rfl) (by decide) (by decide) ?_
    rintro y w' ⟨rfl, rfl⟩
    cases hq0 : ixO 4 tg with
    | none =>
      rw [hq0] at E
      refine j_ifT C rfl (by decide) ?_
      exact j_iret C E rfl (Or.inl rfl) (by decide) (by decide) ⟨c, Cext.rf, rfl, R⟩
    | some q =>
      rw [hq0] at E
      dsimp only at E
      obtain ⟨hq, rfl⟩ := ixO_lt (by decide) hq0
      refine j_ifF C rfl (show fw_cb _ (bI true) 0 = false by decide) ?_
      rcases ixO_cases 16 (by decide) v with ⟨h, e⟩ | ⟨h0, h, e⟩ | ⟨vn, hvn, rfl, h0, h, e⟩ <;> rw [e] at E
      · refine j_ifT C rfl (fw_cb_iff.mpr h) ?_
        exact j_iret C E rfl (Or.inl rfl) (by decide) (by decide) ⟨c, Cext.rf, rfl, R⟩
      · refine j_if C rfl (fun z => absurd z h0) (fun _ => ?_)
        refine j_icmp C rfl (fun z => ?_) (fun _ => ?_)
        · exfalso
          have z : v < nI 16 := z
          rw [Int32.lt_iff_toInt_lt] at z
          rw [Int32.le_iff_toInt_le] at h
          omega
        · exact j_iret C E rfl (Or.inl rfl) (by decide) (by decide) ⟨c, Cext.rf, rfl, R⟩
      refine j_if C rfl (fun z => absurd z h0) (fun _ => ?_)
      refine j_icmpT C rfl (fw_cb_iff.mpr (nI_lt hvn (by decide))) ?_
      dsimp only at E
      generalize hvv : nI vn = v at E
      refine j_callS C rfl (fc_V_V_isSlotOrNone V (by decide)) (m_V_isSlotOrNone _ hT ar) rfl rfl (nle rfl) (by decide) (by decide) ?_
      rintro y w' ⟨rfl, rfl⟩
      rw [show (decide (ar = -1) || (ixO 4 ar).isSome) = sOK ar from rfl]
      cases har : sOK ar with
      | false =>
        rw [har] at E
        refine j_ifT C rfl (by decide) ?_
        exact j_iret C E rfl (Or.inl rfl) (by decide) (by decide) ⟨c, Cext.rf, rfl, R⟩
      | true =>
      rw [har, if_pos rfl] at E
      refine j_ifF C rfl (by decide) ?_
      refine j_callS C rfl (fc_V_V_isSlotOrNone V (by decide)) (m_V_isSlotOrNone _ hT rs) rfl rfl (nle rfl) (by decide) (by decide) ?_
      rintro y w' ⟨rfl, rfl⟩
      rw [show (decide (rs = -1) || (ixO 4 rs).isSome) = sOK rs from rfl]
      cases hrs : sOK rs with
      | false =>
        rw [hrs] at E
        refine j_ifF C rfl (by decide) ?_
        exact j_iret C E rfl (Or.inl rfl) (by decide) (by decide) ⟨c, Cext.rf, rfl, R⟩
      | true =>
      rw [hrs, if_pos rfl] at E
      refine j_ifT C rfl (by decide) ?_
      refine j_get C rfl (fg_V_V_sentCount V) R.o rfl ?_
      by_cases h200 : sK s < 200
      · rw [if_pos h200] at E
        refine j_icmpT C rfl (fw_cb_iff.mpr (show nI (sK s) < nI 200 from nI_lt h200 (by decide))) ?_
        obtain ⟨tga, ht1, ht2⟩ := e4 q hq
        have after : ∀ at', IsR w' at' (argS s i ar) → J T G_V_send X 83 [some (.inr (some (cO c))), some (.inl a), some (.inl (nI q)), some (.inl v), some (.inl ar), some (.inl rs), some (.inr (some (cT c i))), none, none] [.inr (some at')] w' 0 0 := by
          intro at' hat
          refine j_new C rfl (fn_V_M V) (by decide) (by decide) (fun p hp => ?_)
          refine j_get C rfl (fg_V_V_sentCount V) (up_new R.o hp) rfl ?_
          refine j_get C rfl (fg_V_H_slots V) (up_new e0 hp) rfl ?_
          refine j_aaldI C rfl (up_new e3 hp) hT.2.1 q rfl hq (by decide) ?_
          rw [ht1]
          refine j_callI C rfl (fc_V_M_init V (by decide)) (m_M_init _ hT (b := p) (tg := tga) (ar := at') (x := nI (sK s)) (v := v) (va_up_self _ _ _)) rfl rfl (nle rfl) (by decide) (by decide) ?_
          rintro y w1 ⟨rfl, ql, qp, pr, hql, hqp, hm1, hb, hL1, hP1, hpr⟩
          have hmono : ∀ a e, w' a = some e → w1 a = some e := fun a e h => hm1 a e (ne_new h hp) (up_new h hp)
          have hql0 : w' ql = none := by
            cases h : w' ql with
            | none => rfl
            | some e => rw [up_new h hp] at hql; cases hql
          have hqp0 : w' qp = none := by
            cases h : w' qp with
            | none => rfl
            | some e => rw [up_new h hp] at hqp; cases hqp
          obtain ⟨bh, lf, R0, hL, hW⟩ := id R
          have RK := R0.mono hmono
          refine j_get C rfl (fg_V_V_sent V) RK.1 rfl ?_
          refine j_get C rfl (fg_V_V_sentCount V) RK.1 rfl ?_
          refine j_aastI C rfl RK.2.2.2.2.1 hT.2.2.2.1 (sK s) rfl h200 (by decide) (put_obj hT hb rfl) ?_
          have hcMA : (Sum.inl (aM, 200, Sum.inr (va_up (fun j => if j < sK s then some (cM c j) else none) (sK s) (some p))) : fw_E) = cellMA (cAddM c (sK s) p qp ql) (sK s + 1) := by
            unfold cellMA
            congr 4
            funext j
            by_cases h1 : j = sK s
            · subst h1
              rw [va_up_self, if_pos (by omega)]
              exact congrArg some (va_up_self _ _ _).symm
            · rw [va_up_ne _ _ h1]
              by_cases h2 : j < sK s
              · rw [if_pos h2, if_pos (by omega)]
                exact congrArg some (va_up_ne _ _ h1).symm
              · rw [if_neg h2, if_neg (by omega)]
          rw [hcMA]
          have o2 : va_up w1 (cMA c) (some (cellMA (cAddM c (sK s) p qp ql) (sK s + 1))) (cO c) = some (cellO c (sN s) (sK s)) := up_ne RK.2.2.2.2.1 RK.1 (by simp [cellMA, cellO])
          refine j_get C rfl (fg_V_V_sentCount V) o2 rfl ?_
          refine j_putE C rfl (fp_V_V_sentCount V) o2 (nlt rfl) (fit_i _) (cellO (cAddM c (sK s) p qp ql) (sN s) (sK s + 1)) (by
            unfold cellO
            rw [← nI_1, show cL (cAddM c (sK s) p qp ql) 3 = cL c 3 from va_up_ne _ _ (by omega)]
            rfl) ?_
          have hcm : cellM (cAddM c (sK s) p qp ql) (sK s) (newM v (tS (sT s i) q) (argS s i ar)) none pr tga at' none = .inr (kM, [.inl (nI (sK s)), .inl v, .inr (some pr), .inr (some ql), .inr (some tga), .inr (some at'), .inr none, .inl 0, .inr none, .inr (some qp), .inl 0]) := by
            have e1 : cL (cAddM c (sK s) p qp ql) (4 + sK s) = ql := va_up_self _ _ _
            have e2 : cP (cAddM c (sK s) p qp ql) (sK s) = qp := va_up_self _ _ _
            unfold cellM
            rw [e1, e2]
            rfl
          have RP := RK.pushM h200 (q := p) (qp := qp) (ql := ql) (pr := pr) (tg := tga) (ar := at') (an := none) (m := newM v (tS (sT s i) q) (argS s i ar)) (b := none) (l := (none, none, 0)) (by rw [hcm]; exact hb) ⟨fun x h => (by cases h), fun x h => (by cases h), Nat.zero_le _⟩ hpr (hmono _ _ ht2) (hmono _ _ hat) (Or.inl ⟨rfl, rfl⟩) (by rw [hP1]; rfl) hL1 ⟨fun x h => (by cases h), fun x h => (by cases h)⟩ (fun j hj e => by
            obtain ⟨_, _, _, _, _, _, _, _, _, _, g5⟩ := R0.aM hj
            rw [e, hqp0] at g5
            cases g5) (fun j hj e => by
            have g5 := (R0.aL hj).1
            rw [e, hql0] at g5
            cases g5)
          have hLn : ∀ j, j < 4 + (sK s + 1) → lnOK (va_up bh (sK s) none) (sL s j) (va_up lf (4 + sK s) (none, none, 0) j) := by
            intro j hj
            by_cases h1 : j = 4 + sK s
            · subst h1
              rw [va_up_self, hW.2.2.2 _ (Nat.le_refl _)]
              exact ln_nil _
            · rw [va_up_ne _ _ h1]
              refine ln_other (hL j (by omega)) (fun x hx => va_up_ne _ _ ?_)
              have := hW.2.1 j x hx
              omega
          have hWn : LnW (sK s + 1) (sL s) := ⟨hW.1, fun j x hx => Nat.lt_succ_of_lt (hW.2.1 j x hx), hW.2.2.1, fun j hj => hW.2.2.2 j (by omega)⟩
          have R1 : Rp _ (cAddM c (sK s) p qp ql) (send0 s i q v ar) := ⟨_, _, RP, hLn, hWn⟩
          have hcx : CX s c (cAddM c (sK s) p qp ql) := cAddM_ext p qp ql
          have hcp : cM (cAddM c (sK s) p qp ql) (sK s) = p := va_up_self _ _ _
          generalize hC' : cAddM c (sK s) p qp ql = c' at R1 hcx hcp ⊢
          generalize va_up (va_up w1 (cMA c) (some (cellMA c' (sK s + 1)))) (cO c) (some (cellO c' (sN s) (sK s + 1))) = w2 at R1 ⊢
          have fin : ∀ (w3 : fw_W), Rp w3 c' (send1 s i q v ar rs) → J T G_V_send X 148 [some (.inr (some (cO c))), some (.inl a), some (.inl (nI q)), some (.inl v), some (.inl ar), some (.inl rs), some (.inr (some (cT c i))), some (.inr (some at')), some (.inr (some p))] [] w3 4 24 := by
            intro w3 R3
            obtain ⟨t1, t2, t3⟩ := send1_st (s := s) (i := i) (q := q) (v := v) (ar := ar) (rs := rs)
            have ho := R3.o
            rw [← cO_eq hcx] at ho
            refine j_get C rfl (fg_V_V_unrouted V) ho rfl ?_
            rw [← hcp]
            refine j_callV C rfl (fc_V_L_join V (by decide)) (m_L_join _ hT R3 (i := 3) (m := sK s) (by omega) (by rw [t2]; omega) (by rw [t3]; exact fun z hz => absurd (hW.2.1 z _ hz) (Nat.lt_irrefl _))) rfl rfl (R3.line (i := 3) (by omega)) (by rw [hT.1]; rfl) (nle rfl) (by decide) (by decide) ?_
            rintro y w4 ⟨rfl, R4⟩
            have R4 : Rp w4 c' (upL (send1 s i q v ar rs) 3 (sL (send1 s i q v ar rs) 3 ++ [sK s])) := R4
            rw [show sL (send1 s i q v ar rs) 3 = sL s 3 from congrFun t3 3] at R4
            rw [cO_eq hcx]
            refine j_callV C rfl (fc_V_V_routeAll V (by decide)) (m_V_routeAll _ hT R4 ((send1_good hi g).hm.of rfl rfl)) rfl rfl R4.o (by rw [hT.1]; rfl) (nle rfl) (by decide) (by decide) ?_
            rintro y w5 ⟨rfl, R5⟩
            obtain ⟨b', pr', tg', ar', an', p0, -⟩ := R5.msg (j := sK s) (by rw [(rAll_st 200 _).2.2]; show sK s < sK (send1 s i q v ar rs); rw [t2]; omega)
            refine j_get C rfl (fg_V_M_number V) p0 rfl ?_
            exact j_iret C E rfl (Or.inl rfl) (by decide) (by decide) ⟨c', hcx, rfl, R5⟩
          by_cases hrm : rs = -1
          · refine j_icmp C rfl (fun _ => ?_) (fun z => absurd hrm z)
            refine fin w2 ?_
            unfold send1
            rw [hrm, show ixO 4 (-1) = none by decide]
            exact R1
          · refine j_icmp C rfl (fun z => absurd z hrm) (fun _ => ?_)
            have hsome : (ixO 4 rs).isSome = true := by
              unfold sOK at hrs
              rw [decide_eq_false hrm, Bool.false_or] at hrs
              exact hrs
            obtain ⟨pp, hpp⟩ := Option.isSome_iff_exists.mp hsome
            obtain ⟨hp4, rfl⟩ := ixO_lt (by decide) hpp
            obtain ⟨ek1, sf1, hd1, f1, g0, g1, g2, g3, g4⟩ := R1.aT (i := i) hi
            rw [(hcx.2.1 i hi).1] at g0
            refine j_get C rfl (fg_V_H_slots V) g0 rfl ?_
            obtain ⟨bb, ekm, pr1, tg1, ar1, an1, n0, n1, -⟩ := R1.aM (j := sK s) (Nat.lt_succ_self _)
            rw [hcp] at n0
            refine j_get C rfl (fg_V_M_promise V) n0 rfl ?_
            refine j_aastI C rfl g3 hT.2.1 pp rfl hp4 (by decide) (put_ref hT n1) ?_
            refine fin _ ?_
            unfold send1
            rw [hpp]
            exact R1.setS hi g3 n1
        by_cases ham : ar = -1
        · refine j_icmp C rfl (fun z => absurd ham z) (fun _ => ?_)
          refine j_get C rfl (fg_V_V_nothing V) R.o rfl ?_
          refine j_goto C rfl ?_
          refine after _ ?_
          unfold argS
          rw [ham, show ixO 4 (-1) = none by decide]
          exact R.nothing
        · refine j_icmp C rfl (fun _ => ?_) (fun z => absurd (Classical.not_not.mp z) ham)
          have hsome : (ixO 4 ar).isSome = true := by
            unfold sOK at har
            rw [decide_eq_false ham, Bool.false_or] at har
            exact har
          obtain ⟨pp, hpp⟩ := Option.isSome_iff_exists.mp hsome
          obtain ⟨hp4, rfl⟩ := ixO_lt (by decide) hpp
          refine j_get C rfl (fg_V_H_slots V) e0 rfl ?_
          refine j_aaldI C rfl e3 hT.2.1 pp rfl hp4 (by decide) ?_
          obtain ⟨b', hb1, hb2⟩ := e4 pp hp4
          rw [hb1]
          refine after b' ?_
          unfold argS
          rw [hpp]
          exact hb2
      · rw [if_neg h200] at E
        refine j_icmp C rfl (fun z => absurd z (nI_nlt (show 200 ≤ sK s by omega) (by omega))) (fun _ => ?_)
        exact j_iret C E rfl (Or.inl rfl) (by decide) (by decide) ⟨c, Cext.rf, rfl, R⟩
end SEND
end
section
/-! The constructor of the class. -/
def th0 : Nat → Th := fun _ => newT 0 0 none
def ms0 : Nat → Ms := fun _ => newM 0 rN rN
def st0 : St := (0, th0, 0, ms0, fun _ => [])
def cfg0 (b q1 q2 q3 q4 q5 : Nat) (ln : Nat → Nat) : Cfg := ((b, q1, q2, q3, q4, q5), fun _ => 0, fun _ => 0, fun _ => 0, fun _ => 0, ln)
section INIT
variable {T : fw_T} {w : fw_W}
set_option maxHeartbeats 4000000 in
theorem m_V_init (l : Launch) (hT : TOK T) {b : Nat} (hw : w b = some (.inr (kV, nw_V))) : Ct l T y_V_init W_V_init rm_V_init [.inr (some b)] w (fun v w' => v = none ∧ ∃ c, cO c = b ∧ Rp w' c st0) := by
  refine ct_V_init rfl (nle rfl) ?_
  intro X hl C E
  have V := hv_V_init hT
  refine j_objV C V wm_V_O_init rfl (by decide) (by decide) ?_
  have hb := hw
  refine j_new C rfl (fn_V_R V) (by decide) (by decide) (fun q1 hq1 => ?_)
  refine j_callI C rfl (fc_V_R_init V (by decide)) (m_R_init _ hT (s := 0) (x := 0) (va_up_self _ _ _)) rfl rfl (nle rfl) (by decide) (by decide) ?_
  rintro r w' ⟨rfl, rfl⟩
  rw [bx_uu]
  have ne_q1 : b ≠ q1 := ne_new hb hq1
  have hb := up_new (e := .inr (kR, [.inl 0, .inl 0])) hb hq1
  have h_q1 : va_up w q1 (some (.inr (kR, [.inl 0, .inl 0]))) q1 = some (.inr (kR, [.inl 0, .inl 0])) := va_up_self _ _ _
  generalize va_up w q1 (some (.inr (kR, [.inl 0, .inl 0]))) = w1 at hb h_q1 ⊢
  refine j_putE C rfl (fp_V_V_nothing V rfl) hb (nlt rfl) (fit_o _ _) (.inr (kV, [.inr (some q1), .inr none, .inr none, .inl 0, .inr none, .inl 0, .inr none, .inr none])) rfl ?_
  have h_q1 : va_up w1 b (some (.inr (kV, [.inr (some q1), .inr none, .inr none, .inl 0, .inr none, .inl 0, .inr none, .inr none]))) q1 = _ := (va_up_ne _ _ ne_q1.symm).trans h_q1
  have hb : va_up w1 b (some (.inr (kV, [.inr (some q1), .inr none, .inr none, .inl 0, .inr none, .inl 0, .inr none, .inr none]))) b = some (.inr (kV, [.inr (some q1), .inr none, .inr none, .inl 0, .inr none, .inl 0, .inr none, .inr none])) := va_up_self _ _ _
  generalize va_up w1 b (some (.inr (kV, [.inr (some q1), .inr none, .inr none, .inl 0, .inr none, .inl 0, .inr none, .inr none]))) = w2 at hb h_q1 ⊢
  refine j_new C rfl (fn_V_R V) (by decide) (by decide) (fun q2 hq2 => ?_)
  refine j_callI C rfl (fc_V_R_init V (by decide)) (m_R_init _ hT (s := 4) (x := 0) (va_up_self _ _ _)) rfl rfl (nle rfl) (by decide) (by decide) ?_
  rintro r w' ⟨rfl, rfl⟩
  rw [bx_uu]
  have ne_q2 : b ≠ q2 := ne_new hb hq2
  have ne_q1_q2 : q1 ≠ q2 := ne_new h_q1 hq2
  have hb := up_new (e := .inr (kR, [.inl 4, .inl 0])) hb hq2
  have h_q1 := up_new (e := .inr (kR, [.inl 4, .inl 0])) h_q1 hq2
  have h_q2 : va_up w2 q2 (some (.inr (kR, [.inl 4, .inl 0]))) q2 = some (.inr (kR, [.inl 4, .inl 0])) := va_up_self _ _ _
  generalize va_up w2 q2 (some (.inr (kR, [.inl 4, .inl 0]))) = w3 at hb h_q1 h_q2 ⊢
  refine j_putE C rfl (fp_V_V_broken V rfl) hb (nlt rfl) (fit_o _ _) (.inr (kV, [.inr (some q1), .inr (some q2), .inr none, .inl 0, .inr none, .inl 0, .inr none, .inr none])) rfl ?_
  have h_q1 : va_up w3 b (some (.inr (kV, [.inr (some q1), .inr (some q2), .inr none, .inl 0, .inr none, .inl 0, .inr none, .inr none]))) q1 = _ := (va_up_ne _ _ ne_q1.symm).trans h_q1
  have h_q2 : va_up w3 b (some (.inr (kV, [.inr (some q1), .inr (some q2), .inr none, .inl 0, .inr none, .inl 0, .inr none, .inr none]))) q2 = _ := (va_up_ne _ _ ne_q2.symm).trans h_q2
  have hb : va_up w3 b (some (.inr (kV, [.inr (some q1), .inr (some q2), .inr none, .inl 0, .inr none, .inl 0, .inr none, .inr none]))) b = some (.inr (kV, [.inr (some q1), .inr (some q2), .inr none, .inl 0, .inr none, .inl 0, .inr none, .inr none])) := va_up_self _ _ _
  generalize va_up w3 b (some (.inr (kV, [.inr (some q1), .inr (some q2), .inr none, .inl 0, .inr none, .inl 0, .inr none, .inr none]))) = w4 at hb h_q1 h_q2 ⊢
  refine j_newq (N := 40) C rfl hT.2.2.1 (by rw [V.1]; exact V.2.2 _ wk_V_H) (by decide) (by decide) (by decide) (by decide) (by decide) (by decide) (fun q3 hq3 => ?_)
  have ne_q3 : b ≠ q3 := ne_new hb hq3
  have ne_q1_q3 : q1 ≠ q3 := ne_new h_q1 hq3
  have ne_q2_q3 : q2 ≠ q3 := ne_new h_q2 hq3
  have hb := up_new (e := .inl (aT, 40, .inr (fun _ => none))) hb hq3
  have h_q1 := up_new (e := .inl (aT, 40, .inr (fun _ => none))) h_q1 hq3
  have h_q2 := up_new (e := .inl (aT, 40, .inr (fun _ => none))) h_q2 hq3
  have h_q3 : va_up w4 q3 (some (.inl (aT, 40, .inr (fun _ => none)))) q3 = some (.inl (aT, 40, .inr (fun _ => none))) := va_up_self _ _ _
  generalize va_up w4 q3 (some (.inl (aT, 40, .inr (fun _ => none)))) = w5 at hb h_q1 h_q2 h_q3 ⊢
  refine j_putE C rfl (fp_V_V_things V rfl) hb (nlt rfl) (fit_a _ _) (.inr (kV, [.inr (some q1), .inr (some q2), .inr (some q3), .inl 0, .inr none, .inl 0, .inr none, .inr none])) rfl ?_
  have h_q1 : va_up w5 b (some (.inr (kV, [.inr (some q1), .inr (some q2), .inr (some q3), .inl 0, .inr none, .inl 0, .inr none, .inr none]))) q1 = _ := (va_up_ne _ _ ne_q1.symm).trans h_q1
  have h_q2 : va_up w5 b (some (.inr (kV, [.inr (some q1), .inr (some q2), .inr (some q3), .inl 0, .inr none, .inl 0, .inr none, .inr none]))) q2 = _ := (va_up_ne _ _ ne_q2.symm).trans h_q2
  have h_q3 : va_up w5 b (some (.inr (kV, [.inr (some q1), .inr (some q2), .inr (some q3), .inl 0, .inr none, .inl 0, .inr none, .inr none]))) q3 = _ := (va_up_ne _ _ ne_q3.symm).trans h_q3
  have hb : va_up w5 b (some (.inr (kV, [.inr (some q1), .inr (some q2), .inr (some q3), .inl 0, .inr none, .inl 0, .inr none, .inr none]))) b = some (.inr (kV, [.inr (some q1), .inr (some q2), .inr (some q3), .inl 0, .inr none, .inl 0, .inr none, .inr none])) := va_up_self _ _ _
  generalize va_up w5 b (some (.inr (kV, [.inr (some q1), .inr (some q2), .inr (some q3), .inl 0, .inr none, .inl 0, .inr none, .inr none]))) = w6 at hb h_q1 h_q2 h_q3 ⊢
  refine j_putE C rfl (fp_V_V_thingCount V) hb (nlt rfl) (fit_i _) (.inr (kV, [.inr (some q1), .inr (some q2), .inr (some q3), .inl 0, .inr none, .inl 0, .inr none, .inr none])) rfl ?_
  have h_q1 : va_up w6 b (some (.inr (kV, [.inr (some q1), .inr (some q2), .inr (some q3), .inl 0, .inr none, .inl 0, .inr none, .inr none]))) q1 = _ := (va_up_ne _ _ ne_q1.symm).trans h_q1
  have h_q2 : va_up w6 b (some (.inr (kV, [.inr (some q1), .inr (some q2), .inr (some q3), .inl 0, .inr none, .inl 0, .inr none, .inr none]))) q2 = _ := (va_up_ne _ _ ne_q2.symm).trans h_q2
  have h_q3 : va_up w6 b (some (.inr (kV, [.inr (some q1), .inr (some q2), .inr (some q3), .inl 0, .inr none, .inl 0, .inr none, .inr none]))) q3 = _ := (va_up_ne _ _ ne_q3.symm).trans h_q3
  have hb : va_up w6 b (some (.inr (kV, [.inr (some q1), .inr (some q2), .inr (some q3), .inl 0, .inr none, .inl 0, .inr none, .inr none]))) b = some (.inr (kV, [.inr (some q1), .inr (some q2), .inr (some q3), .inl 0, .inr none, .inl 0, .inr none, .inr none])) := va_up_self _ _ _
  generalize va_up w6 b (some (.inr (kV, [.inr (some q1), .inr (some q2), .inr (some q3), .inl 0, .inr none, .inl 0, .inr none, .inr none]))) = w7 at hb h_q1 h_q2 h_q3 ⊢
  refine j_newq (N := 200) C rfl hT.2.2.2.1 (by rw [V.1]; exact V.2.2 _ wk_V_M) (by decide) (by decide) (by decide) (by decide) (by decide) (by decide) (fun q4 hq4 => ?_)
  have ne_q4 : b ≠ q4 := ne_new hb hq4
  have ne_q1_q4 : q1 ≠ q4 := ne_new h_q1 hq4
  have ne_q2_q4 : q2 ≠ q4 := ne_new h_q2 hq4
  have ne_q3_q4 : q3 ≠ q4 := ne_new h_q3 hq4
  have hb := up_new (e := .inl (aM, 200, .inr (fun _ => none))) hb hq4
  have h_q1 := up_new (e := .inl (aM, 200, .inr (fun _ => none))) h_q1 hq4
  have h_q2 := up_new (e := .inl (aM, 200, .inr (fun _ => none))) h_q2 hq4
  have h_q3 := up_new (e := .inl (aM, 200, .inr (fun _ => none))) h_q3 hq4
  have h_q4 : va_up w7 q4 (some (.inl (aM, 200, .inr (fun _ => none)))) q4 = some (.inl (aM, 200, .inr (fun _ => none))) := va_up_self _ _ _
  generalize va_up w7 q4 (some (.inl (aM, 200, .inr (fun _ => none)))) = w8 at hb h_q1 h_q2 h_q3 h_q4 ⊢
  refine j_putE C rfl (fp_V_V_sent V rfl) hb (nlt rfl) (fit_a _ _) (.inr (kV, [.inr (some q1), .inr (some q2), .inr (some q3), .inl 0, .inr (some q4), .inl 0, .inr none, .inr none])) rfl ?_
  have h_q1 : va_up w8 b (some (.inr (kV, [.inr (some q1), .inr (some q2), .inr (some q3), .inl 0, .inr (some q4), .inl 0, .inr none, .inr none]))) q1 = _ := (va_up_ne _ _ ne_q1.symm).trans h_q1
  have h_q2 : va_up w8 b (some (.inr (kV, [.inr (some q1), .inr (some q2), .inr (some q3), .inl 0, .inr (some q4), .inl 0, .inr none, .inr none]))) q2 = _ := (va_up_ne _ _ ne_q2.symm).trans h_q2
  have h_q3 : va_up w8 b (some (.inr (kV, [.inr (some q1), .inr (some q2), .inr (some q3), .inl 0, .inr (some q4), .inl 0, .inr none, .inr none]))) q3 = _ := (va_up_ne _ _ ne_q3.symm).trans h_q3
  have h_q4 : va_up w8 b (some (.inr (kV, [.inr (some q1), .inr (some q2), .inr (some q3), .inl 0, .inr (some q4), .inl 0, .inr none, .inr none]))) q4 = _ := (va_up_ne _ _ ne_q4.symm).trans h_q4
  have hb : va_up w8 b (some (.inr (kV, [.inr (some q1), .inr (some q2), .inr (some q3), .inl 0, .inr (some q4), .inl 0, .inr none, .inr none]))) b = some (.inr (kV, [.inr (some q1), .inr (some q2), .inr (some q3), .inl 0, .inr (some q4), .inl 0, .inr none, .inr none])) := va_up_self _ _ _
  generalize va_up w8 b (some (.inr (kV, [.inr (some q1), .inr (some q2), .inr (some q3), .inl 0, .inr (some q4), .inl 0, .inr none, .inr none]))) = w9 at hb h_q1 h_q2 h_q3 h_q4 ⊢
  refine j_putE C rfl (fp_V_V_sentCount V) hb (nlt rfl) (fit_i _) (.inr (kV, [.inr (some q1), .inr (some q2), .inr (some q3), .inl 0, .inr (some q4), .inl 0, .inr none, .inr none])) rfl ?_
  have h_q1 : va_up w9 b (some (.inr (kV, [.inr (some q1), .inr (some q2), .inr (some q3), .inl 0, .inr (some q4), .inl 0, .inr none, .inr none]))) q1 = _ := (va_up_ne _ _ ne_q1.symm).trans h_q1
  have h_q2 : va_up w9 b (some (.inr (kV, [.inr (some q1), .inr (some q2), .inr (some q3), .inl 0, .inr (some q4), .inl 0, .inr none, .inr none]))) q2 = _ := (va_up_ne _ _ ne_q2.symm).trans h_q2
  have h_q3 : va_up w9 b (some (.inr (kV, [.inr (some q1), .inr (some q2), .inr (some q3), .inl 0, .inr (some q4), .inl 0, .inr none, .inr none]))) q3 = _ := (va_up_ne _ _ ne_q3.symm).trans h_q3
  have h_q4 : va_up w9 b (some (.inr (kV, [.inr (some q1), .inr (some q2), .inr (some q3), .inl 0, .inr (some q4), .inl 0, .inr none, .inr none]))) q4 = _ := (va_up_ne _ _ ne_q4.symm).trans h_q4
  have hb : va_up w9 b (some (.inr (kV, [.inr (some q1), .inr (some q2), .inr (some q3), .inl 0, .inr (some q4), .inl 0, .inr none, .inr none]))) b = some (.inr (kV, [.inr (some q1), .inr (some q2), .inr (some q3), .inl 0, .inr (some q4), .inl 0, .inr none, .inr none])) := va_up_self _ _ _
  generalize va_up w9 b (some (.inr (kV, [.inr (some q1), .inr (some q2), .inr (some q3), .inl 0, .inr (some q4), .inl 0, .inr none, .inr none]))) = w10 at hb h_q1 h_q2 h_q3 h_q4 ⊢
  refine j_newq (N := 3) C rfl hT.2.2.2.2.1 (by rw [V.1]; exact V.2.2 _ wk_V_L) (by decide) (by decide) (by decide) (by decide) (by decide) (by decide) (fun q5 hq5 => ?_)
  have ne_q5 : b ≠ q5 := ne_new hb hq5
  have ne_q1_q5 : q1 ≠ q5 := ne_new h_q1 hq5
  have ne_q2_q5 : q2 ≠ q5 := ne_new h_q2 hq5
  have ne_q3_q5 : q3 ≠ q5 := ne_new h_q3 hq5
  have ne_q4_q5 : q4 ≠ q5 := ne_new h_q4 hq5
  have hb := up_new (e := .inl (aL, 3, .inr (fun _ => none))) hb hq5
  have h_q1 := up_new (e := .inl (aL, 3, .inr (fun _ => none))) h_q1 hq5
  have h_q2 := up_new (e := .inl (aL, 3, .inr (fun _ => none))) h_q2 hq5
  have h_q3 := up_new (e := .inl (aL, 3, .inr (fun _ => none))) h_q3 hq5
  have h_q4 := up_new (e := .inl (aL, 3, .inr (fun _ => none))) h_q4 hq5
  have h_q5 : va_up w10 q5 (some (.inl (aL, 3, .inr (fun _ => none)))) q5 = some (.inl (aL, 3, .inr (fun _ => none))) := va_up_self _ _ _
  generalize va_up w10 q5 (some (.inl (aL, 3, .inr (fun _ => none)))) = w11 at hb h_q1 h_q2 h_q3 h_q4 h_q5 ⊢
  refine j_putE C rfl (fp_V_V_queues V rfl) hb (nlt rfl) (fit_a _ _) (.inr (kV, [.inr (some q1), .inr (some q2), .inr (some q3), .inl 0, .inr (some q4), .inl 0, .inr (some q5), .inr none])) rfl ?_
  have h_q1 : va_up w11 b (some (.inr (kV, [.inr (some q1), .inr (some q2), .inr (some q3), .inl 0, .inr (some q4), .inl 0, .inr (some q5), .inr none]))) q1 = _ := (va_up_ne _ _ ne_q1.symm).trans h_q1
  have h_q2 : va_up w11 b (some (.inr (kV, [.inr (some q1), .inr (some q2), .inr (some q3), .inl 0, .inr (some q4), .inl 0, .inr (some q5), .inr none]))) q2 = _ := (va_up_ne _ _ ne_q2.symm).trans h_q2
  have h_q3 : va_up w11 b (some (.inr (kV, [.inr (some q1), .inr (some q2), .inr (some q3), .inl 0, .inr (some q4), .inl 0, .inr (some q5), .inr none]))) q3 = _ := (va_up_ne _ _ ne_q3.symm).trans h_q3
  have h_q4 : va_up w11 b (some (.inr (kV, [.inr (some q1), .inr (some q2), .inr (some q3), .inl 0, .inr (some q4), .inl 0, .inr (some q5), .inr none]))) q4 = _ := (va_up_ne _ _ ne_q4.symm).trans h_q4
  have h_q5 : va_up w11 b (some (.inr (kV, [.inr (some q1), .inr (some q2), .inr (some q3), .inl 0, .inr (some q4), .inl 0, .inr (some q5), .inr none]))) q5 = _ := (va_up_ne _ _ ne_q5.symm).trans h_q5
  have hb : va_up w11 b (some (.inr (kV, [.inr (some q1), .inr (some q2), .inr (some q3), .inl 0, .inr (some q4), .inl 0, .inr (some q5), .inr none]))) b = some (.inr (kV, [.inr (some q1), .inr (some q2), .inr (some q3), .inl 0, .inr (some q4), .inl 0, .inr (some q5), .inr none])) := va_up_self _ _ _
  generalize va_up w11 b (some (.inr (kV, [.inr (some q1), .inr (some q2), .inr (some q3), .inl 0, .inr (some q4), .inl 0, .inr (some q5), .inr none]))) = w12 at hb h_q1 h_q2 h_q3 h_q4 h_q5 ⊢
  refine j_new C rfl (fn_V_L V) (by decide) (by decide) (fun q6 hq6 => ?_)
  refine j_callN C rfl (fc_V_L_init V (by decide)) (m_L_init _ hT) rfl rfl (nle rfl) (by decide) (by decide) ?_
  rintro r w' ⟨rfl, hw'⟩
  subst hw'
  have ne_q6 : b ≠ q6 := ne_new hb hq6
  have ne_q1_q6 : q1 ≠ q6 := ne_new h_q1 hq6
  have ne_q2_q6 : q2 ≠ q6 := ne_new h_q2 hq6
  have ne_q3_q6 : q3 ≠ q6 := ne_new h_q3 hq6
  have ne_q4_q6 : q4 ≠ q6 := ne_new h_q4 hq6
  have ne_q5_q6 : q5 ≠ q6 := ne_new h_q5 hq6
  have hb := up_new (e := .inr (kL, nw_L)) hb hq6
  have h_q1 := up_new (e := .inr (kL, nw_L)) h_q1 hq6
  have h_q2 := up_new (e := .inr (kL, nw_L)) h_q2 hq6
  have h_q3 := up_new (e := .inr (kL, nw_L)) h_q3 hq6
  have h_q4 := up_new (e := .inr (kL, nw_L)) h_q4 hq6
  have h_q5 := up_new (e := .inr (kL, nw_L)) h_q5 hq6
  have h_q6 : va_up w12 q6 (some (.inr (kL, nw_L))) q6 = some (.inr (kL, nw_L)) := va_up_self _ _ _
  generalize va_up w12 q6 (some (.inr (kL, nw_L))) = w13 at hb h_q1 h_q2 h_q3 h_q4 h_q5 h_q6 ⊢
  refine j_putE C rfl (fp_V_V_unrouted V rfl) hb (nlt rfl) (fit_o _ _) (.inr (kV, [.inr (some q1), .inr (some q2), .inr (some q3), .inl 0, .inr (some q4), .inl 0, .inr (some q5), .inr (some q6)])) rfl ?_
  have h_q1 : va_up w13 b (some (.inr (kV, [.inr (some q1), .inr (some q2), .inr (some q3), .inl 0, .inr (some q4), .inl 0, .inr (some q5), .inr (some q6)]))) q1 = _ := (va_up_ne _ _ ne_q1.symm).trans h_q1
  have h_q2 : va_up w13 b (some (.inr (kV, [.inr (some q1), .inr (some q2), .inr (some q3), .inl 0, .inr (some q4), .inl 0, .inr (some q5), .inr (some q6)]))) q2 = _ := (va_up_ne _ _ ne_q2.symm).trans h_q2
  have h_q3 : va_up w13 b (some (.inr (kV, [.inr (some q1), .inr (some q2), .inr (some q3), .inl 0, .inr (some q4), .inl 0, .inr (some q5), .inr (some q6)]))) q3 = _ := (va_up_ne _ _ ne_q3.symm).trans h_q3
  have h_q4 : va_up w13 b (some (.inr (kV, [.inr (some q1), .inr (some q2), .inr (some q3), .inl 0, .inr (some q4), .inl 0, .inr (some q5), .inr (some q6)]))) q4 = _ := (va_up_ne _ _ ne_q4.symm).trans h_q4
  have h_q5 : va_up w13 b (some (.inr (kV, [.inr (some q1), .inr (some q2), .inr (some q3), .inl 0, .inr (some q4), .inl 0, .inr (some q5), .inr (some q6)]))) q5 = _ := (va_up_ne _ _ ne_q5.symm).trans h_q5
  have h_q6 : va_up w13 b (some (.inr (kV, [.inr (some q1), .inr (some q2), .inr (some q3), .inl 0, .inr (some q4), .inl 0, .inr (some q5), .inr (some q6)]))) q6 = _ := (va_up_ne _ _ ne_q6.symm).trans h_q6
  have hb : va_up w13 b (some (.inr (kV, [.inr (some q1), .inr (some q2), .inr (some q3), .inl 0, .inr (some q4), .inl 0, .inr (some q5), .inr (some q6)]))) b = some (.inr (kV, [.inr (some q1), .inr (some q2), .inr (some q3), .inl 0, .inr (some q4), .inl 0, .inr (some q5), .inr (some q6)])) := va_up_self _ _ _
  generalize va_up w13 b (some (.inr (kV, [.inr (some q1), .inr (some q2), .inr (some q3), .inl 0, .inr (some q4), .inl 0, .inr (some q5), .inr (some q6)]))) = w14 at hb h_q1 h_q2 h_q3 h_q4 h_q5 h_q6 ⊢
  refine j_icmpF C rfl (by decide) ?_
  refine j_get C rfl (fg_V_V_queues V) hb rfl ?_
  refine j_new C rfl (fn_V_L V) (by decide) (by decide) (fun q7 hq7 => ?_)
  refine j_callN C rfl (fc_V_L_init V (by decide)) (m_L_init _ hT) rfl rfl (nle rfl) (by decide) (by decide) ?_
  rintro r w' ⟨rfl, hw'⟩
  subst hw'
  have ne_q7 : b ≠ q7 := ne_new hb hq7
  have ne_q1_q7 : q1 ≠ q7 := ne_new h_q1 hq7
  have ne_q2_q7 : q2 ≠ q7 := ne_new h_q2 hq7
  have ne_q3_q7 : q3 ≠ q7 := ne_new h_q3 hq7
  have ne_q4_q7 : q4 ≠ q7 := ne_new h_q4 hq7
  have ne_q5_q7 : q5 ≠ q7 := ne_new h_q5 hq7
  have ne_q6_q7 : q6 ≠ q7 := ne_new h_q6 hq7
  have hb := up_new (e := .inr (kL, nw_L)) hb hq7
  have h_q1 := up_new (e := .inr (kL, nw_L)) h_q1 hq7
  have h_q2 := up_new (e := .inr (kL, nw_L)) h_q2 hq7
  have h_q3 := up_new (e := .inr (kL, nw_L)) h_q3 hq7
  have h_q4 := up_new (e := .inr (kL, nw_L)) h_q4 hq7
  have h_q5 := up_new (e := .inr (kL, nw_L)) h_q5 hq7
  have h_q6 := up_new (e := .inr (kL, nw_L)) h_q6 hq7
  have h_q7 : va_up w14 q7 (some (.inr (kL, nw_L))) q7 = some (.inr (kL, nw_L)) := va_up_self _ _ _
  generalize va_up w14 q7 (some (.inr (kL, nw_L))) = w15 at hb h_q1 h_q2 h_q3 h_q4 h_q5 h_q6 h_q7 ⊢
  refine j_aastI C rfl h_q5 hT.2.2.2.2.1 0 (by decide) (by decide) (by decide) (put_obj hT h_q7 rfl) ?_
  have hb : va_up w15 q5 (some (.inl (aL, 3, .inr (va_up (fun _ => none) 0 (some q7))))) b = _ := (va_up_ne _ _ ne_q5).trans hb
  have h_q1 : va_up w15 q5 (some (.inl (aL, 3, .inr (va_up (fun _ => none) 0 (some q7))))) q1 = _ := (va_up_ne _ _ ne_q1_q5).trans h_q1
  have h_q2 : va_up w15 q5 (some (.inl (aL, 3, .inr (va_up (fun _ => none) 0 (some q7))))) q2 = _ := (va_up_ne _ _ ne_q2_q5).trans h_q2
  have h_q3 : va_up w15 q5 (some (.inl (aL, 3, .inr (va_up (fun _ => none) 0 (some q7))))) q3 = _ := (va_up_ne _ _ ne_q3_q5).trans h_q3
  have h_q4 : va_up w15 q5 (some (.inl (aL, 3, .inr (va_up (fun _ => none) 0 (some q7))))) q4 = _ := (va_up_ne _ _ ne_q4_q5).trans h_q4
  have h_q6 : va_up w15 q5 (some (.inl (aL, 3, .inr (va_up (fun _ => none) 0 (some q7))))) q6 = _ := (va_up_ne _ _ ne_q5_q6.symm).trans h_q6
  have h_q7 : va_up w15 q5 (some (.inl (aL, 3, .inr (va_up (fun _ => none) 0 (some q7))))) q7 = _ := (va_up_ne _ _ ne_q5_q7.symm).trans h_q7
  have h_q5 : va_up w15 q5 (some (.inl (aL, 3, .inr (va_up (fun _ => none) 0 (some q7))))) q5 = some (.inl (aL, 3, .inr (va_up (fun _ => none) 0 (some q7)))) := va_up_self _ _ _
  generalize va_up w15 q5 (some (.inl (aL, 3, .inr (va_up (fun _ => none) 0 (some q7))))) = w16 at hb h_q1 h_q2 h_q3 h_q4 h_q5 h_q6 h_q7 ⊢
  refine j_goto C rfl ?_
  refine j_icmpF C rfl (by decide) ?_
  refine j_get C rfl (fg_V_V_queues V) hb rfl ?_
  refine j_new C rfl (fn_V_L V) (by decide) (by decide) (fun q8 hq8 => ?_)
  refine j_callN C rfl (fc_V_L_init V (by decide)) (m_L_init _ hT) rfl rfl (nle rfl) (by decide) (by decide) ?_
  rintro r w' ⟨rfl, hw'⟩
  subst hw'
  have ne_q8 : b ≠ q8 := ne_new hb hq8
  have ne_q1_q8 : q1 ≠ q8 := ne_new h_q1 hq8
  have ne_q2_q8 : q2 ≠ q8 := ne_new h_q2 hq8
  have ne_q3_q8 : q3 ≠ q8 := ne_new h_q3 hq8
  have ne_q4_q8 : q4 ≠ q8 := ne_new h_q4 hq8
  have ne_q5_q8 : q5 ≠ q8 := ne_new h_q5 hq8
  have ne_q6_q8 : q6 ≠ q8 := ne_new h_q6 hq8
  have ne_q7_q8 : q7 ≠ q8 := ne_new h_q7 hq8
  have hb := up_new (e := .inr (kL, nw_L)) hb hq8
  have h_q1 := up_new (e := .inr (kL, nw_L)) h_q1 hq8
  have h_q2 := up_new (e := .inr (kL, nw_L)) h_q2 hq8
  have h_q3 := up_new (e := .inr (kL, nw_L)) h_q3 hq8
  have h_q4 := up_new (e := .inr (kL, nw_L)) h_q4 hq8
  have h_q5 := up_new (e := .inr (kL, nw_L)) h_q5 hq8
  have h_q6 := up_new (e := .inr (kL, nw_L)) h_q6 hq8
  have h_q7 := up_new (e := .inr (kL, nw_L)) h_q7 hq8
  have h_q8 : va_up w16 q8 (some (.inr (kL, nw_L))) q8 = some (.inr (kL, nw_L)) := va_up_self _ _ _
  generalize va_up w16 q8 (some (.inr (kL, nw_L))) = w17 at hb h_q1 h_q2 h_q3 h_q4 h_q5 h_q6 h_q7 h_q8 ⊢
  refine j_aastI C rfl h_q5 hT.2.2.2.2.1 1 (by decide) (by decide) (by decide) (put_obj hT h_q8 rfl) ?_
  have hb : va_up w17 q5 (some (.inl (aL, 3, .inr (va_up (va_up (fun _ => none) 0 (some q7)) 1 (some q8))))) b = _ := (va_up_ne _ _ ne_q5).trans hb
  have h_q1 : va_up w17 q5 (some (.inl (aL, 3, .inr (va_up (va_up (fun _ => none) 0 (some q7)) 1 (some q8))))) q1 = _ := (va_up_ne _ _ ne_q1_q5).trans h_q1
  have h_q2 : va_up w17 q5 (some (.inl (aL, 3, .inr (va_up (va_up (fun _ => none) 0 (some q7)) 1 (some q8))))) q2 = _ := (va_up_ne _ _ ne_q2_q5).trans h_q2
  have h_q3 : va_up w17 q5 (some (.inl (aL, 3, .inr (va_up (va_up (fun _ => none) 0 (some q7)) 1 (some q8))))) q3 = _ := (va_up_ne _ _ ne_q3_q5).trans h_q3
  have h_q4 : va_up w17 q5 (some (.inl (aL, 3, .inr (va_up (va_up (fun _ => none) 0 (some q7)) 1 (some q8))))) q4 = _ := (va_up_ne _ _ ne_q4_q5).trans h_q4
  have h_q6 : va_up w17 q5 (some (.inl (aL, 3, .inr (va_up (va_up (fun _ => none) 0 (some q7)) 1 (some q8))))) q6 = _ := (va_up_ne _ _ ne_q5_q6.symm).trans h_q6
  have h_q7 : va_up w17 q5 (some (.inl (aL, 3, .inr (va_up (va_up (fun _ => none) 0 (some q7)) 1 (some q8))))) q7 = _ := (va_up_ne _ _ ne_q5_q7.symm).trans h_q7
  have h_q8 : va_up w17 q5 (some (.inl (aL, 3, .inr (va_up (va_up (fun _ => none) 0 (some q7)) 1 (some q8))))) q8 = _ := (va_up_ne _ _ ne_q5_q8.symm).trans h_q8
  have h_q5 : va_up w17 q5 (some (.inl (aL, 3, .inr (va_up (va_up (fun _ => none) 0 (some q7)) 1 (some q8))))) q5 = some (.inl (aL, 3, .inr (va_up (va_up (fun _ => none) 0 (some q7)) 1 (some q8)))) := va_up_self _ _ _
  generalize va_up w17 q5 (some (.inl (aL, 3, .inr (va_up (va_up (fun _ => none) 0 (some q7)) 1 (some q8))))) = w18 at hb h_q1 h_q2 h_q3 h_q4 h_q5 h_q6 h_q7 h_q8 ⊢
  refine j_goto C rfl ?_
  refine j_icmpF C rfl (by decide) ?_
  refine j_get C rfl (fg_V_V_queues V) hb rfl ?_
  refine j_new C rfl (fn_V_L V) (by decide) (by decide) (fun q9 hq9 => ?_)
  refine j_callN C rfl (fc_V_L_init V (by decide)) (m_L_init _ hT) rfl rfl (nle rfl) (by decide) (by decide) ?_
  rintro r w' ⟨rfl, hw'⟩
  subst hw'
  have ne_q9 : b ≠ q9 := ne_new hb hq9
  have ne_q1_q9 : q1 ≠ q9 := ne_new h_q1 hq9
  have ne_q2_q9 : q2 ≠ q9 := ne_new h_q2 hq9
  have ne_q3_q9 : q3 ≠ q9 := ne_new h_q3 hq9
  have ne_q4_q9 : q4 ≠ q9 := ne_new h_q4 hq9
  have ne_q5_q9 : q5 ≠ q9 := ne_new h_q5 hq9
  have ne_q6_q9 : q6 ≠ q9 := ne_new h_q6 hq9
  have ne_q7_q9 : q7 ≠ q9 := ne_new h_q7 hq9
  have ne_q8_q9 : q8 ≠ q9 := ne_new h_q8 hq9
  have hb := up_new (e := .inr (kL, nw_L)) hb hq9
  have h_q1 := up_new (e := .inr (kL, nw_L)) h_q1 hq9
  have h_q2 := up_new (e := .inr (kL, nw_L)) h_q2 hq9
  have h_q3 := up_new (e := .inr (kL, nw_L)) h_q3 hq9
  have h_q4 := up_new (e := .inr (kL, nw_L)) h_q4 hq9
  have h_q5 := up_new (e := .inr (kL, nw_L)) h_q5 hq9
  have h_q6 := up_new (e := .inr (kL, nw_L)) h_q6 hq9
  have h_q7 := up_new (e := .inr (kL, nw_L)) h_q7 hq9
  have h_q8 := up_new (e := .inr (kL, nw_L)) h_q8 hq9
  have h_q9 : va_up w18 q9 (some (.inr (kL, nw_L))) q9 = some (.inr (kL, nw_L)) := va_up_self _ _ _
  generalize va_up w18 q9 (some (.inr (kL, nw_L))) = w19 at hb h_q1 h_q2 h_q3 h_q4 h_q5 h_q6 h_q7 h_q8 h_q9 ⊢
  refine j_aastI C rfl h_q5 hT.2.2.2.2.1 2 (by decide) (by decide) (by decide) (put_obj hT h_q9 rfl) ?_
  have hb : va_up w19 q5 (some (.inl (aL, 3, .inr (va_up (va_up (va_up (fun _ => none) 0 (some q7)) 1 (some q8)) 2 (some q9))))) b = _ := (va_up_ne _ _ ne_q5).trans hb
  have h_q1 : va_up w19 q5 (some (.inl (aL, 3, .inr (va_up (va_up (va_up (fun _ => none) 0 (some q7)) 1 (some q8)) 2 (some q9))))) q1 = _ := (va_up_ne _ _ ne_q1_q5).trans h_q1
  have h_q2 : va_up w19 q5 (some (.inl (aL, 3, .inr (va_up (va_up (va_up (fun _ => none) 0 (some q7)) 1 (some q8)) 2 (some q9))))) q2 = _ := (va_up_ne _ _ ne_q2_q5).trans h_q2
  have h_q3 : va_up w19 q5 (some (.inl (aL, 3, .inr (va_up (va_up (va_up (fun _ => none) 0 (some q7)) 1 (some q8)) 2 (some q9))))) q3 = _ := (va_up_ne _ _ ne_q3_q5).trans h_q3
  have h_q4 : va_up w19 q5 (some (.inl (aL, 3, .inr (va_up (va_up (va_up (fun _ => none) 0 (some q7)) 1 (some q8)) 2 (some q9))))) q4 = _ := (va_up_ne _ _ ne_q4_q5).trans h_q4
  have h_q6 : va_up w19 q5 (some (.inl (aL, 3, .inr (va_up (va_up (va_up (fun _ => none) 0 (some q7)) 1 (some q8)) 2 (some q9))))) q6 = _ := (va_up_ne _ _ ne_q5_q6.symm).trans h_q6
  have h_q7 : va_up w19 q5 (some (.inl (aL, 3, .inr (va_up (va_up (va_up (fun _ => none) 0 (some q7)) 1 (some q8)) 2 (some q9))))) q7 = _ := (va_up_ne _ _ ne_q5_q7.symm).trans h_q7
  have h_q8 : va_up w19 q5 (some (.inl (aL, 3, .inr (va_up (va_up (va_up (fun _ => none) 0 (some q7)) 1 (some q8)) 2 (some q9))))) q8 = _ := (va_up_ne _ _ ne_q5_q8.symm).trans h_q8
  have h_q9 : va_up w19 q5 (some (.inl (aL, 3, .inr (va_up (va_up (va_up (fun _ => none) 0 (some q7)) 1 (some q8)) 2 (some q9))))) q9 = _ := (va_up_ne _ _ ne_q5_q9.symm).trans h_q9
  have h_q5 : va_up w19 q5 (some (.inl (aL, 3, .inr (va_up (va_up (va_up (fun _ => none) 0 (some q7)) 1 (some q8)) 2 (some q9))))) q5 = some (.inl (aL, 3, .inr (va_up (va_up (va_up (fun _ => none) 0 (some q7)) 1 (some q8)) 2 (some q9)))) := va_up_self _ _ _
  generalize va_up w19 q5 (some (.inl (aL, 3, .inr (va_up (va_up (va_up (fun _ => none) 0 (some q7)) 1 (some q8)) 2 (some q9))))) = w20 at hb h_q1 h_q2 h_q3 h_q4 h_q5 h_q6 h_q7 h_q8 h_q9 ⊢
  refine j_goto C rfl ?_
  refine j_icmpT C rfl (by decide) ?_
  refine j_vret C E rfl rfl (by decide) (by decide) ⟨rfl, cfg0 b q1 q2 q3 q4 q5 (fun i => if i = 0 then q7 else if i = 1 then q8 else if i = 2 then q9 else q6), rfl, fun _ => none, fun _ => (none, none, 0), ?_, fun i hi => ln_nil _, ⟨fun _ => List.nodup_nil, fun i x h => (by cases h), fun i j x h => (by cases h), fun _ _ => rfl⟩⟩
  refine ⟨hb, h_q1, h_q2, ?_, ?_, ⟨_, h_q5, ?_⟩, fun i hi => absurd hi (Nat.not_lt_zero _), fun i hi => absurd hi (Nat.not_lt_zero _), ?_, fun i j hi => absurd hi (Nat.not_lt_zero _), fun i j hi => absurd hi (Nat.not_lt_zero _), ?_, by decide, by decide⟩
  · exact h_q3
  · exact h_q4
  · intro v hv
    rcases (show v = 0 ∨ v = 1 ∨ v = 2 by omega) with rfl | rfl | rfl <;> rfl
  · intro i hi
    have hi : i < 4 := hi
    rcases (show i = 0 ∨ i = 1 ∨ i = 2 ∨ i = 3 by omega) with rfl | rfl | rfl | rfl
    · exact ⟨h_q7, fun x h => (by cases h), fun x h => (by cases h)⟩
    · exact ⟨h_q8, fun x h => (by cases h), fun x h => (by cases h)⟩
    · exact ⟨h_q9, fun x h => (by cases h), fun x h => (by cases h)⟩
    · exact ⟨h_q6, fun x h => (by cases h), fun x h => (by cases h)⟩
  · intro i j hi hj he
    have hi : i < 4 := hi
    have hj : j < 4 := hj
    rcases (show i = 0 ∨ i = 1 ∨ i = 2 ∨ i = 3 by omega) with rfl | rfl | rfl | rfl <;> rcases (show j = 0 ∨ j = 1 ∨ j = 2 ∨ j = 3 by omega) with rfl | rfl | rfl | rfl <;> first | rfl | (exfalso; simp [cfg0] at he; first | exact ne_q7_q8 he | exact ne_q7_q8 he.symm | exact ne_q7_q9 he | exact ne_q7_q9 he.symm | exact ne_q8_q9 he | exact ne_q8_q9 he.symm | exact ne_q6_q7 he | exact ne_q6_q7 he.symm | exact ne_q6_q8 he | exact ne_q6_q8 he.symm | exact ne_q6_q9 he | exact ne_q6_q9 he.symm)
end INIT
end
section
/-! The reference's objects: ints by the number of their field, arrays of ints by the number of theirs. -/
abbrev Md : Type := (Nat → Int32) × (Nat → Nat → Int32)
def dInt (f : Nat) : Bool := f == 0 || f == 11 || f == 15 || f == 27 || f == 28
def dZ (f : Nat) : Bool := f == 6 || f == 21
def dTy (f : Nat) : Nat := if dZ f = true then aZ else aI
def dLen (f : Nat) : Nat := if f < 9 then 40 else if f < 11 then 160 else if f < 25 then 200 else 1600
def dFs (A : Nat → Nat) (M : Nat → Int32) : List fw_V := [.inl (M 0), .inr (some (A 1)), .inr (some (A 2)), .inr (some (A 3)), .inr (some (A 4)), .inr (some (A 5)), .inr (some (A 6)), .inr (some (A 7)), .inr (some (A 8)), .inr (some (A 9)), .inr (some (A 10)), .inl (M 11), .inr (some (A 12)), .inr (some (A 13)), .inr (some (A 14)), .inl (M 15), .inr (some (A 16)), .inr (some (A 17)), .inr (some (A 18)), .inr (some (A 19)), .inr (some (A 20)), .inr (some (A 21)), .inr (some (A 22)), .inr (some (A 23)), .inr (some (A 24)), .inr (some (A 25)), .inr (some (A 26)), .inl (M 27), .inl (M 28)]
def RepD (w : fw_W) (b : Nat) (A : Nat → Nat) (M : Md) : Prop :=
  w b = some (.inr (kD, dFs A M.1)) ∧ (∀ f, f < 29 → dInt f = false → w (A f) = some (.inl (dTy f, dLen f, .inl (M.2 f)))) ∧ ∀ f f', f < 29 → f' < 29 → dInt f = false → dInt f' = false → A f = A f' → f = f'
theorem dFs_up (A : Nat → Nat) (M : Nat → Int32) {f : Nat} (hf : f < 29) (hi : dInt f = true) (x : Int32) : (dFs A M).set f (.inl x) = dFs A (va_up M f x) := by
  rcases (show f = 0 ∨ f = 11 ∨ f = 15 ∨ f = 27 ∨ f = 28 by
    simp only [dInt, Bool.or_eq_true, beq_iff_eq] at hi; omega) with rfl | rfl | rfl | rfl | rfl <;> simp [dFs, va_up]
theorem RepD.put {w : fw_W} {b : Nat} {A : Nat → Nat} {M : Md} (R : RepD w b A M) {f : Nat} (hf : f < 29) (hi : dInt f = true) (x : Int32) : RepD (va_up w b (some (.inr (kD, (dFs A M.1).set f (.inl x))))) b A (va_up M.1 f x, M.2) := by
  rw [dFs_up A M.1 hf hi]
  exact ⟨va_up_self _ _ _, fun g hg hgi => up_ne R.1 (R.2.1 g hg hgi) (fun h => by cases h), R.2.2⟩
theorem RepD.ast {w : fw_W} {b : Nat} {A : Nat → Nat} {M : Md} (R : RepD w b A M) {f : Nat} (hf : f < 29) (hi : dInt f = false) (g : Nat → Int32) : RepD (va_up w (A f) (some (.inl (dTy f, dLen f, .inl g)))) b A (M.1, va_up M.2 f g) := by
  refine ⟨up_ne (R.2.1 f hf hi) R.1 (fun h => by cases h), fun f' hf' hi' => ?_, R.2.2⟩
  by_cases h : f' = f
  · subst h
    show va_up w (A f') _ (A f') = some (.inl (dTy f', dLen f', .inl (va_up M.2 f' g f')))
    rw [va_up_self, va_up_self]
  · show va_up w (A f) _ (A f') = some (.inl (dTy f', dLen f', .inl (va_up M.2 f g f')))
    rw [va_up_ne _ _ (fun e => h (R.2.2 f' f hf' hf hi' hi e)), va_up_ne _ _ h]
    exact R.2.1 f' hf' hi'
def dPost (b : Nat) (A : Nat → Nat) (post : Option fw_V → Md → Prop) : Option fw_V → fw_W → Prop := fun v w' => ∃ M', post v M' ∧ RepD w' b A M'
def CtD (l : Launch) (T : fw_T) (y : MethodName) (ws : List Jvm.Cond) (rm : Room) (b : Nat) (A : Nat → Nat) (av : List fw_V) (M : Md) (post : Option fw_V → Md → Prop) : Prop := ∀ w, RepD w b A M → Ct l T y ws rm av w (dPost b A post)
def JD (T : fw_T) (G : fw_G) (X : fw_X) (b : Nat) (A : Nat → Nat) (pc : Nat) (L : List (Option fw_V)) (S : List fw_V) (M : Md) : Prop := ∀ w, RepD w b A M → J T G X pc L S w 0 0
section DL
variable {T : fw_T} {G : fw_G} {X : fw_X} {b : Nat} {A : Nat → Nat} {M : Md} {pc pc' len nx tg : Nat} {v : Int32} {L L' : List (Option fw_V)} {S S' : List fw_V}
theorem j_zald (C : fw_ok T G X) {w : fw_W} {k n t N a : Nat} {i : Int32} {f : Nat → Int32} (h : fw_go (fw_from (gT G) pc) L S = some ((pc', .baload, len, nx, tg, v), L', .inl i :: .inr (some a) :: S')) (hw : w a = some (.inl (t, N, .inl f))) (ht : fw_ar T t .boolean) (q : Nat) (hi : i = nI q) (hq : q < N) (hN : N < 2147483648)
    (kk : J T G X nx L' (.inl (f q) :: S') w k n) : J T G X pc L S w k n := by
  subst hi
  obtain ⟨⟨hd, hn, hlen, -⟩, hrun⟩ := fw_run (w := w) (k := k) (n := n) C h
  refine hrun ?_
  obtain ⟨⟨hx, hb, hml, ho, hts⟩, ⟨hK, -⟩, -⟩ := C
  simp only [fw_len] at hlen; subst hlen; subst hn
  intro H locs ls hl hP hD hS
  have hin : vp_in (nI q) N := vp_in_nI hq (by omega)
  refine va_zald hx hb hK (hP.one hw) 0 t rfl (fw_ar_at ht) hin hd ?_
  rw [nI_clamp (by omega)]
  exact kk H locs ls hl hP hD hS
theorem j_zast (C : fw_ok T G X) {w : fw_W} {k n t N a : Nat} {i x : Int32} {f : Nat → Int32} (h : fw_go (fw_from (gT G) pc) L S = some ((pc', .bastore, len, nx, tg, v), L', .inl x :: .inl i :: .inr (some a) :: S')) (hw : w a = some (.inl (t, N, .inl f))) (ht : fw_ar T t .boolean) (q : Nat) (hi : i = nI q) (hq : q < N) (hN : N < 2147483648) (hx01 : x = 0 ∨ x = 1)
    (kk : J T G X nx L' S' (va_up w a (some (.inl (t, N, .inl (va_up f q x))))) k n) : J T G X pc L S w k n := by
  subst hi
  obtain ⟨⟨hd, hn, hlen, -⟩, hrun⟩ := fw_run (w := w) (k := k) (n := n) C h
  refine hrun ?_
  obtain ⟨⟨hx, hb, hml, ho, hts⟩, ⟨hK, -⟩, -⟩ := C
  simp only [fw_len] at hlen; subst hlen; subst hn
  intro H locs ls hl hP hD hS
  have hin : vp_in (nI q) N := vp_in_nI hq (by omega)
  have hnar : narrow .boolean (.int x) = .int x := by rcases hx01 with rfl | rfl <;> decide
  refine W.zast hx hb (hP a _ hw) ((hK.2 t _ (fw_ar_at ht)).1 N (fun j => .int (f j))) (fun q => by cases q) (by show ¬ (nI q < 0 ∨ (arrV _ _ _).slots.size ≤ _); rw [arrV_size]; exact hin) rfl rfl hd fun H1 e z oq => ?_
  rw [hnar] at e
  refine kk H1 _ ls hl (hP.up ?_ (fun q hq _ => oq q hq)) (hD.up (hD a _ hw)) (hS.put z oq (hD a _ hw))
  show H1[a]? = some (vp_cell _ _)
  rw [e]
  dsimp only
  rw [vp_cell_i, vp_cell_i, arrV_store, nI_clamp (by omega)]
  congr 2
  funext p
  by_cases hp : p = q
  · subst hp
    simp [updV, va_up]
  · simp [updV, va_up, hp]
theorem jd_get (C : fw_ok T G X) {idx f : Nat} {u : fw_V} (h : fw_go (fw_from (gT G) pc) L S = some ((pc', .getfield idx, len, nx, tg, v), L', .inr (some b) :: S')) (hf : fw_fl T G idx kD f) (hv : (dFs A M.1)[f]? = some u) (kk : JD T G X b A nx L' (u :: S') M) : JD T G X b A pc L S M :=
  fun w R => j_get C h hf R.1 hv (kk w R)
theorem jd_put (C : fw_ok T G X) {idx f : Nat} {x : Int32} (h : fw_go (fw_from (gT G) pc) L S = some ((pc', .putfield idx, len, nx, tg, v), L', .inl x :: .inr (some b) :: S')) (hf : fw_fp T G idx kD f .int false) (hf2 : f < 29) (hi : dInt f = true) (kk : JD T G X b A nx L' S' (va_up M.1 f x, M.2)) : JD T G X b A pc L S M :=
  fun w R => j_put C h hf R.1 (by show f < (dFs A M.1).length; exact hf2) (fit_i x) (kk _ (R.put hf2 hi x))
theorem jd_ald (C : fw_ok T G X) (hT : TOK T) {f : Nat} {i : Int32} (h : fw_go (fw_from (gT G) pc) L S = some ((pc', .iaload, len, nx, tg, v), L', .inl i :: .inr (some (A f)) :: S')) (hf : f < 29) (hi : dInt f = false) (hz : dZ f = false) (q : Nat) (hq : i = nI q) (hl : q < dLen f) (kk : JD T G X b A nx L' (.inl (M.2 f q) :: S') M) : JD T G X b A pc L S M :=
  fun w R => j_ialdI C h (R.2.1 f hf hi) (by unfold dTy; rw [hz]; exact hT.2.2.2.2.2.1) q hq hl (by unfold dLen; split <;> (try split) <;> (try split) <;> decide) (kk w R)
theorem jd_ast (C : fw_ok T G X) (hT : TOK T) {f : Nat} {i x : Int32} (h : fw_go (fw_from (gT G) pc) L S = some ((pc', .iastore, len, nx, tg, v), L', .inl x :: .inl i :: .inr (some (A f)) :: S')) (hf : f < 29) (hi : dInt f = false) (hz : dZ f = false) (q : Nat) (hq : i = nI q) (hl : q < dLen f) (kk : JD T G X b A nx L' S' (M.1, va_up M.2 f (va_up (M.2 f) q x))) : JD T G X b A pc L S M :=
  fun w R => j_iastI C h (R.2.1 f hf hi) (by unfold dTy; rw [hz]; exact hT.2.2.2.2.2.1) q hq hl (by unfold dLen; split <;> (try split) <;> (try split) <;> decide) (kk _ (R.ast hf hi _))
theorem jd_zld (C : fw_ok T G X) (hT : TOK T) {f : Nat} {i : Int32} (h : fw_go (fw_from (gT G) pc) L S = some ((pc', .baload, len, nx, tg, v), L', .inl i :: .inr (some (A f)) :: S')) (hf : f < 29) (hi : dInt f = false) (hz : dZ f = true) (q : Nat) (hq : i = nI q) (hl : q < dLen f) (kk : JD T G X b A nx L' (.inl (M.2 f q) :: S') M) : JD T G X b A pc L S M :=
  fun w R => j_zald C h (R.2.1 f hf hi) (by unfold dTy; rw [hz]; exact hT.2.2.2.2.2.2) q hq hl (by unfold dLen; split <;> (try split) <;> (try split) <;> decide) (kk w R)
theorem jd_zst (C : fw_ok T G X) (hT : TOK T) {f : Nat} {i x : Int32} (h : fw_go (fw_from (gT G) pc) L S = some ((pc', .bastore, len, nx, tg, v), L', .inl x :: .inl i :: .inr (some (A f)) :: S')) (hf : f < 29) (hi : dInt f = false) (hz : dZ f = true) (q : Nat) (hq : i = nI q) (hl : q < dLen f) (hx : x = 0 ∨ x = 1) (kk : JD T G X b A nx L' S' (M.1, va_up M.2 f (va_up (M.2 f) q x))) : JD T G X b A pc L S M :=
  fun w R => j_zast C h (R.2.1 f hf hi) (by unfold dTy; rw [hz]; exact hT.2.2.2.2.2.2) q hq hl (by unfold dLen; split <;> (try split) <;> (try split) <;> decide) hx (kk _ (R.ast hf hi _))
theorem jd_if (C : fw_ok T G X) {x : Int32} {cd : Jvm.ClassFile.Cond} {o : Int} (h : fw_go (fw_from (gT G) pc) L S = some ((pc', .ifCond cd o, len, nx, tg, v), L', .inl x :: S')) (kt : fw_cmp cd x 0 → JD T G X b A tg L' S' M) (kf : ¬ fw_cmp cd x 0 → JD T G X b A nx L' S' M) : JD T G X b A pc L S M := fun w R => j_if C h (fun z => kt z w R) (fun z => kf z w R)
theorem jd_icmp (C : fw_ok T G X) {x y : Int32} {cd : Jvm.ClassFile.Cond} {o : Int} (h : fw_go (fw_from (gT G) pc) L S = some ((pc', .if_icmp cd o, len, nx, tg, v), L', .inl y :: .inl x :: S')) (kt : fw_cmp cd x y → JD T G X b A tg L' S' M) (kf : ¬ fw_cmp cd x y → JD T G X b A nx L' S' M) : JD T G X b A pc L S M := fun w R => j_icmp C h (fun z => kt z w R) (fun z => kf z w R)
theorem jd_ifT (C : fw_ok T G X) {x : Int32} {cd : Jvm.ClassFile.Cond} {o : Int} (h : fw_go (fw_from (gT G) pc) L S = some ((pc', .ifCond cd o, len, nx, tg, v), L', .inl x :: S')) (hb : fw_cb cd x 0 = true) (kt : JD T G X b A tg L' S' M) : JD T G X b A pc L S M := fun w R => j_ifT C h hb (kt w R)
theorem jd_ifF (C : fw_ok T G X) {x : Int32} {cd : Jvm.ClassFile.Cond} {o : Int} (h : fw_go (fw_from (gT G) pc) L S = some ((pc', .ifCond cd o, len, nx, tg, v), L', .inl x :: S')) (hb : fw_cb cd x 0 = false) (kf : JD T G X b A nx L' S' M) : JD T G X b A pc L S M := fun w R => j_ifF C h hb (kf w R)
theorem jd_icmpT (C : fw_ok T G X) {x y : Int32} {cd : Jvm.ClassFile.Cond} {o : Int} (h : fw_go (fw_from (gT G) pc) L S = some ((pc', .if_icmp cd o, len, nx, tg, v), L', .inl y :: .inl x :: S')) (hb : fw_cb cd x y = true) (kt : JD T G X b A tg L' S' M) : JD T G X b A pc L S M := fun w R => j_icmpT C h hb (kt w R)
theorem jd_icmpF (C : fw_ok T G X) {x y : Int32} {cd : Jvm.ClassFile.Cond} {o : Int} (h : fw_go (fw_from (gT G) pc) L S = some ((pc', .if_icmp cd o, len, nx, tg, v), L', .inl y :: .inl x :: S')) (hb : fw_cb cd x y = false) (kf : JD T G X b A nx L' S' M) : JD T G X b A pc L S M := fun w R => j_icmpF C h hb (kf w R)
theorem jd_goto (C : fw_ok T G X) {o : Int} (h : fw_go (fw_from (gT G) pc) L S = some ((pc', .goto o, len, nx, tg, v), L', S')) (kt : JD T G X b A tg L' S' M) : JD T G X b A pc L S M := fun w R => j_goto C h (kt w R)
theorem jd_to (C : fw_ok T G X) (pc' : Nat) (h : fw_to (fw_from (gT G) pc) pc' L S = some (L', S')) (kk : JD T G X b A pc' L' S' M) : JD T G X b A pc L S M := fun w R => j_to C pc' h (kk w R)
theorem jd_iret {post : Option fw_V → Md → Prop} (C : fw_ok T G X) (E : fw_ends T G X (dPost b A post)) {x : Int32} (h : fw_go (fw_from (gT G) pc) L S = some ((pc', .ireturn, len, nx, tg, v), L', [.inl x])) (hr : gA G = some .int ∨ (gA G = some .boolean ∧ (x = 0 ∨ x = 1))) (hq : post (some (.inl x)) M) : JD T G X b A pc L S M := fun w R => j_iret C E h hr (Nat.zero_le _) (Nat.zero_le _) ⟨M, hq, R⟩
theorem jd_vret {post : Option fw_V → Md → Prop} (C : fw_ok T G X) (E : fw_ends T G X (dPost b A post)) (h : fw_go (fw_from (gT G) pc) L S = some ((pc', .return_, len, nx, tg, v), L', [])) (hr : gA G = none) (hq : post none M) : JD T G X b A pc L S M := fun w R => j_vret C E h hr (Nat.zero_le _) (Nat.zero_le _) ⟨M, hq, R⟩
theorem jd_call (C : fw_ok T G X) (hT : TOK T) {idx nA maxL : Nat} {S1 As : List fw_V} {y : MethodName} {bytes : ByteArray} {ret : Option FieldType} {ws : List Jvm.Cond} {rm : Room} {post2 : Option fw_V → Md → Prop} (h : fw_go (fw_from (gT G) pc) L S = some ((pc', .invokevirtual idx, len, nx, tg, v), L', S1)) (hc : fw_cV G idx y bytes maxL ret ws rm nA) (hM : CtD (xL X) T y ws rm b A (.inr (some b) :: As) M post2) (hS1 : S1 = As.reverse ++ .inr (some b) :: S') (hn : As.length = nA) (hy : y.cls = R_D) (hst : S'.length ≤ 8) (h0 : rm.cells = 0) (h1 : rm.slots = 0)
    (kk : ∀ (r : Option fw_V) (M' : Md), post2 r M' → JD T G X b A nx L' (r.toList ++ S') M') : JD T G X b A pc L S M := fun w R => by
  refine j_callV C h hc (hM w R) hS1 hn R.1 (Tb := F_D) (N := 29) (by rw [hT.1, hy]; rfl) hst (by rw [h0]; exact Nat.zero_le _) (by rw [h1]; exact Nat.zero_le _) ?_
  rintro r w' ⟨M', hp, R'⟩
  have := kk r M' hp w' R'
  rw [h0, h1]
  exact this
theorem jd_callS (C : fw_ok T G X) {idx nA maxL : Nat} {S1 As : List fw_V} {y : MethodName} {bytes : ByteArray} {ret : Option FieldType} {ws : List Jvm.Cond} {rm : Room} {r0 : Option fw_V} (h : fw_go (fw_from (gT G) pc) L S = some ((pc', .invokestatic idx, len, nx, tg, v), L', S1)) (hc : fw_cS G idx y bytes maxL ret ws rm nA) (hM : ∀ w, Ct (xL X) T y ws rm As w (fun r w' => w' = w ∧ r = r0)) (hS1 : S1 = As.reverse ++ S') (hn : As.length = nA) (hst : S'.length ≤ 8) (h0 : rm.cells = 0) (h1 : rm.slots = 0)
    (kk : JD T G X b A nx L' (r0.toList ++ S') M) : JD T G X b A pc L S M := fun w R => by
  refine j_callS C h hc (hM w) hS1 hn hst (by rw [h0]; exact Nat.zero_le _) (by rw [h1]; exact Nat.zero_le _) ?_
  rintro r w' ⟨rfl, rfl⟩
  rw [h0, h1]
  exact kk w' R
end DL
section DS
variable {T : fw_T} {w : fw_W} {b : Nat} {A : Nat → Nat} {M : Md}
/-- out: not below the limit -/
theorem m_D_out (l : Launch) (hT : TOK T) (x : Int32) (n : Nat) (hn : n < 2 ^ 31) : ∀ w : fw_W, Ct l T y_D_out W_D_out rm_D_out [.inl x, .inl (nI n)] w (fun r w' => w' = w ∧ r = some (.inl (bI (ixO n x).isNone))) := by
  intro w
  refine ct_D_out rfl (nle rfl) ?_
  intro X hl C E
  rcases ixO_cases n hn x with ⟨h, e⟩ | ⟨h0, h, e⟩ | ⟨i, hi, rfl, h0, h, e⟩ <;> rw [e] at E
  · refine j_ifT C rfl (fw_cb_iff.mpr h) ?_
    refine j_goto C rfl ?_
    exact j_iret C E rfl (Or.inr ⟨rfl, Or.inr rfl⟩) (by decide) (by decide) ⟨rfl, rfl⟩
  · refine j_if C rfl (fun q => absurd q h0) (fun _ => ?_)
    refine j_icmp C rfl (fun q => ?_) (fun _ => ?_)
    · exfalso
      have q : x < nI n := q
      rw [Int32.lt_iff_toInt_lt] at q
      rw [Int32.le_iff_toInt_le] at h
      omega
    · refine j_goto C rfl ?_
      exact j_iret C E rfl (Or.inr ⟨rfl, Or.inr rfl⟩) (by decide) (by decide) ⟨rfl, rfl⟩
  · refine j_if C rfl (fun q => absurd q h0) (fun _ => ?_)
    refine j_icmpT C rfl (fw_cb_iff.mpr (nI_lt hi hn)) ?_
    exact j_iret C E rfl (Or.inr ⟨rfl, Or.inl rfl⟩) (by decide) (by decide) ⟨rfl, rfl⟩
abbrev mHold (M : Md) (s v : Int32) : Md := (va_up (va_up M.1 27 s) 28 v, M.2)
theorem m_D_hold (l : Launch) (hT : TOK T) (s v : Int32) : CtD l T y_D_hold W_D_hold rm_D_hold b A [.inr (some b), .inl s, .inl v] M (fun r M' => r = none ∧ M' = mHold M s v) := by
  intro w R
  refine ct_D_hold rfl (nle rfl) ?_
  intro X hl C E
  have V := hv_D_hold hT
  suffices JD T G_D_hold X b A 0 [some (.inr (some b)), some (.inl s), some (.inl v)] [] M from this w R
  refine jd_put C rfl (fp_D_D_sort V) (by decide) rfl ?_
  refine jd_put C rfl (fp_D_D_ref V) (by decide) rfl ?_
  exact jd_vret C E rfl rfl ⟨rfl, rfl⟩
theorem m_D_broken (l : Launch) (hT : TOK T) : CtD l T y_D_broken W_D_broken rm_D_broken b A [.inr (some b)] M (fun r M' => r = none ∧ M' = mHold M 4 0) := by
  intro w R
  refine ct_D_broken rfl (nle rfl) ?_
  intro X hl C E
  have V := hv_D_broken hT
  suffices JD T G_D_broken X b A 0 [some (.inr (some b))] [] M from this w R
  refine jd_call C hT rfl (fc_D_D_hold V (by decide)) (m_D_hold _ hT 4 0) rfl rfl rfl (nle rfl) rfl rfl ?_
  rintro r M' ⟨rfl, rfl⟩
  exact jd_vret C E rfl rfl ⟨rfl, rfl⟩
end DS
end
section
/-! What references count as, of both sides: a promise j counts as ph j. -/
def can (ph : Nat → Rf) (r : Rf) : Rf := if r.1 = 3 then ph r.2.toNatClampNeg else r
def vR (k : Nat) (r : Rf) : Prop := r.1 = 3 → ∃ j, j < k ∧ r.2 = nI j
def CH (k : Nat) (ph : Nat → Rf) (ans : Nat → Option Rf) : Prop :=
  (∀ j, j < k → ans j = none → ph j = (3, nI j)) ∧ (∀ j a, j < k → ans j = some a → ph j = can ph a ∧ vR k a) ∧ ∃ rk : Nat → Nat, ∀ j a, j < k → ans j = some a → a.1 = 3 → rk a.2.toNatClampNeg < rk j
theorem can_p {ph : Nat → Rf} {j : Nat} (hj : j < 2 ^ 31) : can ph (3, nI j) = ph j := by
  unfold can
  rw [if_pos rfl]
  show ph (nI j).toNatClampNeg = ph j
  rw [nI_clamp hj]
theorem can_n {ph : Nat → Rf} {r : Rf} (h : ¬ r.1 = 3) : can ph r = r := by unfold can; rw [if_neg h]
theorem vR_eq {k : Nat} {r : Rf} (hv : vR k r) (h : r.1 = 3) : ∃ j, j < k ∧ r = (3, nI j) := by
  obtain ⟨j, hj, h2⟩ := hv h
  exact ⟨j, hj, Prod.ext h h2⟩
theorem nxR_p {k : Nat} {ms : Nat → Ms} {j : Nat} (hk : k ≤ 200) (hj : j < k) : nxR k ms (3, nI j) = mN (ms j) := by
  unfold nxR
  rw [if_pos rfl]
  show (match ixO k (nI j) with | some j => mN (ms j) | none => none) = _
  rw [ixO_some (by omega) hj]
theorem ch_walk {k : Nat} {ph : Nat → Rf} {ms : Nat → Ms} (h : CH k ph (fun j => mN (ms j))) (hk : k ≤ 200) : ∃ rk : Nat → Nat, ∀ N j, j < k → rk j < N → ∃ f, nxR k ms (ch_it (nxR k ms) f (3, nI j)) = none ∧ ch_it (nxR k ms) f (3, nI j) = ph j := by
  obtain ⟨h1, h2, rk, h3⟩ := h
  refine ⟨rk, fun N => ?_⟩
  induction N with
  | zero => intro j _ h; exact absurd h (Nat.not_lt_zero _)
  | succ N ih =>
    intro j hj hr
    cases ha : mN (ms j) with
    | none => exact ⟨0, by show nxR k ms (3, nI j) = none; rw [nxR_p hk hj]; exact ha, (h1 j hj ha).symm⟩
    | some a =>
      have hnx : nxR k ms (3, nI j) = some a := by rw [nxR_p hk hj]; exact ha
      obtain ⟨e1, e2⟩ := h2 j a hj ha
      by_cases h3a : a.1 = 3
      · obtain ⟨i, hi, rfl⟩ := vR_eq e2 h3a
        have hlt := h3 j _ hj ha rfl
        have hlt : rk i < rk j := by
          have e : (nI i).toNatClampNeg = i := nI_clamp (by omega)
          rw [show ((3, nI i) : Rf).2.toNatClampNeg = i from e] at hlt
          exact hlt
        obtain ⟨f, g1, g2⟩ := ih i hi (by omega)
        refine ⟨f + 1, ?_, ?_⟩
        · simp only [ch_it, hnx]; exact g1
        · simp only [ch_it, hnx]; rw [g2, e1, can_p (by omega)]
      · have hst : nxR k ms a = none := by unfold nxR; rw [if_neg h3a]
        refine ⟨1, ?_, ?_⟩
        · simp only [ch_it, hnx]; exact hst
        · simp only [ch_it, hnx]; rw [e1, can_n h3a]
theorem nxR_lt {k : Nat} {ms : Nat → Ms} (hk : k ≤ 200) {r a : Rf} (h : nxR k ms r = some a) : ∃ j, j < k ∧ r = (3, nI j) := by
  unfold nxR at h
  by_cases h3 : r.1 = 3
  · rw [if_pos h3] at h
    cases hx : ixO k r.2 with
    | none => rw [hx] at h; cases h
    | some j =>
      obtain ⟨hj, e⟩ := ixO_lt (by omega) hx
      exact ⟨j, hj, Prod.ext h3 e⟩
  · rw [if_neg h3] at h; cases h
/-- the class's countsAs is can -/
theorem cnt_can {s : St} {ph : Nat → Rf} (h : CH (sK s) ph (fun j => mN (sM s j))) (hk : sK s ≤ 200) {r : Rf} (hv : vR (sK s) r) : cnt s r = can ph r := by
  unfold cnt
  by_cases h3 : r.1 = 3
  · obtain ⟨j, hj, rfl⟩ := vR_eq hv h3
    obtain ⟨rk, hw⟩ := ch_walk h hk
    obtain ⟨f, g1, g2⟩ := hw (rk j + 1) j hj (Nat.lt_succ_self _)
    have hb : nxR (sK s) (sM s) (ch_it (nxR (sK s) (sM s)) 200 (3, nI j)) = none := by
      refine ch_bound (N := 200) (fun r => r.2.toNatClampNeg) (fun r a hr => ?_) (fun r a r' a' hr hr' he => ?_) ⟨f, g1⟩
      · obtain ⟨i, hi, rfl⟩ := nxR_lt hk hr
        show (nI i).toNatClampNeg < 200
        rw [nI_clamp (by omega)]; omega
      · obtain ⟨i, hi, rfl⟩ := nxR_lt hk hr
        obtain ⟨i', hi', rfl⟩ := nxR_lt hk hr'
        have he : (nI i).toNatClampNeg = (nI i').toNatClampNeg := he
        rw [nI_clamp (by omega), nI_clamp (by omega)] at he
        rw [he]
    rw [ch_same hb g1, g2, can_p (by omega)]
  · rw [ch_it_stop _ (by unfold nxR; rw [if_neg h3]), can_n h3]
/-- after j has been resolved to what counts as x -/
def phS (ph : Nat → Rf) (j : Nat) (x : Rf) : Nat → Rf := fun i => if ph i = (3, nI j) then x else ph i
theorem can_phS {ph : Nat → Rf} {j k : Nat} {x r : Rf} (hk : k ≤ 200) (hj : j < k) (hx : ph j = (3, nI j)) (hv : vR k r) : can (phS ph j x) r = if can ph r = (3, nI j) then x else can ph r := by
  by_cases h3 : r.1 = 3
  · obtain ⟨i, hi, rfl⟩ := vR_eq hv h3
    rw [can_p (by omega), can_p (by omega)]
    rfl
  · rw [can_n h3, can_n h3, if_neg (fun e => h3 (by rw [e]))]
theorem CH.settle {k : Nat} {ph : Nat → Rf} {ans : Nat → Option Rf} (h : CH k ph ans) (hk : k ≤ 200) {j : Nat} {a : Rf} (hj : j < k) (hn : ans j = none) (hv : vR k a) (hc : can ph a ≠ (3, nI j)) : CH k (phS ph j (can ph a)) (va_up ans j (some a)) := by
  obtain ⟨h1, h2, rk, h3⟩ := h
  have hpj := h1 j hj hn
  have nIj : ∀ i, i < k → nI i = nI j → i = j := fun i hi e => (nI_eq (by omega) (by omega)).mp e
  refine ⟨fun i hi hi0 => ?_, fun i b hi hb => ?_, fun i => if ph i = (3, nI j) then rk i + (rk a.2.toNatClampNeg + 1) else rk i, fun i b hi hb hb3 => ?_⟩
  · have hij : i ≠ j := fun e => by subst e; rw [va_up_self] at hi0; cases hi0
    rw [va_up_ne _ _ hij] at hi0
    have := h1 i hi hi0
    unfold phS
    rw [if_neg (by rw [this]; intro e; exact hij (nIj i hi (congrArg Prod.snd e)))]
    exact this
  · by_cases hij : i = j
    · subst hij
      rw [va_up_self] at hb
      cases hb
      refine ⟨?_, hv⟩
      rw [can_phS hk hj hpj hv, if_neg hc]
      unfold phS
      rw [if_pos hpj]
    · rw [va_up_ne _ _ hij] at hb
      obtain ⟨e1, e2⟩ := h2 i b hi hb
      refine ⟨?_, e2⟩
      rw [can_phS hk hj hpj e2, ← e1]
      rfl
  · obtain ⟨i', hi', rfl⟩ : ∃ i', i' < k ∧ b = (3, nI i') := by
      by_cases hij : i = j
      · subst hij; rw [va_up_self] at hb; cases hb; exact vR_eq hv hb3
      · rw [va_up_ne _ _ hij] at hb; exact vR_eq (h2 i b hi hb).2 hb3
    have e : ((3, nI i') : Rf).2.toNatClampNeg = i' := nI_clamp (by omega)
    rw [e]
    by_cases hij : i = j
    · subst hij
      rw [va_up_self] at hb
      cases hb
      have hne : ¬ ph i' = (3, nI i) := fun q => hc (by rw [can_p (by omega)]; exact q)
      show (if ph i' = (3, nI i) then _ else rk i') < (if ph i = (3, nI i) then _ else rk i)
      rw [if_neg hne, if_pos hpj, e]
      omega
    · rw [va_up_ne _ _ hij] at hb
      have hlt := h3 i _ hi hb rfl
      rw [e] at hlt
      have hph := (h2 i _ hi hb).1
      rw [can_p (by omega)] at hph
      show (if ph i' = (3, nI j) then _ else rk i') < (if ph i = (3, nI j) then _ else rk i)
      rw [hph]
      by_cases hq : ph i' = (3, nI j)
      · rw [if_pos hq, if_pos hq]; omega
      · rw [if_neg hq, if_neg hq]; exact hlt
/-- one promise more, open -/
theorem CH.more {k : Nat} {ph : Nat → Rf} {ans : Nat → Option Rf} (h : CH k ph ans) (hk : k < 200) : CH (k + 1) (va_up ph k (3, nI k)) (va_up ans k none) := by
  obtain ⟨h1, h2, rk, h3⟩ := h
  have hcan : ∀ r, vR k r → can (va_up ph k (3, nI k)) r = can ph r := by
    intro r hv
    by_cases h3 : r.1 = 3
    · obtain ⟨i, hi, rfl⟩ := vR_eq hv h3
      rw [can_p (by omega), can_p (by omega), va_up_ne _ _ (by omega)]
    · rw [can_n h3, can_n h3]
  refine ⟨fun i hi hi0 => ?_, fun i b hi hb => ?_, rk, fun i b hi hb hb3 => ?_⟩
  · by_cases hik : i = k
    · subst hik; rw [va_up_self]
    · rw [va_up_ne _ _ hik] at hi0 ⊢; exact h1 i (by omega) hi0
  · have hik : i ≠ k := fun e => by subst e; rw [va_up_self] at hb; cases hb
    rw [va_up_ne _ _ hik] at hb ⊢
    obtain ⟨e1, e2⟩ := h2 i b (by omega) hb
    exact ⟨by rw [hcan b e2]; exact e1, fun z => by obtain ⟨q, hq, e⟩ := e2 z; exact ⟨q, by omega, e⟩⟩
  · have hik : i ≠ k := fun e => by subst e; rw [va_up_self] at hb; cases hb
    rw [va_up_ne _ _ hik] at hb
    exact h3 i b (by omega) hb hb3
end
section
/-! The reference's small methods. -/
theorem mHold2 (M : Md) (a b c d : Int32) : mHold (mHold M a b) c d = mHold M c d := by
  refine Prod.ext (funext fun i => ?_) rfl
  show va_up (va_up (va_up (va_up M.1 27 a) 28 b) 27 c) 28 d i = va_up (va_up M.1 27 c) 28 d i
  by_cases h8 : i = 28
  · subst h8; rw [va_up_self, va_up_self]
  · rw [va_up_ne _ _ h8, va_up_ne _ _ h8]
    by_cases h7 : i = 27
    · subst h7; rw [va_up_self, va_up_self]
    · rw [va_up_ne _ _ h7, va_up_ne _ _ h7, va_up_ne _ _ h8, va_up_ne _ _ h7]
def dAns (M : Md) (j : Nat) : Option Rf := if M.2 21 j = 0 then none else some (M.2 22 j, M.2 23 j)
theorem ne_of_cmp {x y : Int32} (h : x ≠ y) : fw_cb .ne x y = true := by simpa [fw_cb] using h
section DLF
variable {T : fw_T} {b : Nat} {A : Nat → Nat} {M : Md} {k : Nat} {ph : Nat → Rf}
theorem m_D_look (l : Launch) (hT : TOK T) (hc : CH k ph (dAns M)) (hk : k ≤ 200) {s v : Int32} (hv : vR k (s, v)) : CtD l T y_D_look W_D_look rm_D_look b A [.inr (some b), .inl s, .inl v] M (fun r M' => r = none ∧ M' = mHold M (can ph (s, v)).1 (can ph (s, v)).2) := by
  intro w R
  refine ct_D_look rfl (nle rfl) ?_
  intro X hl C E
  have V := hv_D_look hT
  suffices JD T G_D_look X b A 0 [some (.inr (some b)), some (.inl s), some (.inl v)] [] M from this w R
  obtain ⟨h1, h2, rk, h3⟩ := hc
  have loop : ∀ N (r : Rf), vR k r → (r.1 = 3 → rk r.2.toNatClampNeg < N) → can ph r = can ph (s, v) → JD T G_D_look X b A 6 [some (.inr (some b)), some (.inl s), some (.inl v)] [] (mHold M r.1 r.2) := by
    intro N
    induction N with
    | zero =>
      intro r hr hN he
      by_cases h : r.1 = 3
      · exact absurd (hN h) (Nat.not_lt_zero _)
      · refine jd_get C rfl (fg_D_D_sort V) (u := .inl r.1) rfl ?_
        refine jd_icmpT C rfl (fw_cb_iff.mpr h) ?_
        refine jd_vret C E rfl rfl ⟨rfl, ?_⟩
        rw [← he, can_n h]
    | succ N ih =>
      intro r hr hN he
      refine jd_get C rfl (fg_D_D_sort V) (u := .inl r.1) rfl ?_
      refine jd_icmp C rfl (fun h => ?_) (fun h => ?_)
      · have h : ¬ r.1 = 3 := h
        refine jd_vret C E rfl rfl ⟨rfl, ?_⟩
        rw [← he, can_n h]
      · have h : r.1 = 3 := Classical.not_not.mp h
        obtain ⟨j, hj, rfl⟩ := vR_eq hr h
        refine jd_get C rfl (fg_D_D_resolved V) rfl ?_
        refine jd_get C rfl (fg_D_D_ref V) (u := .inl (nI j)) rfl ?_
        refine jd_zld C hT (f := 21) rfl (by decide) rfl rfl j rfl (by show j < 200; omega) ?_
        refine jd_if C rfl (fun hz => ?_) (fun hz => ?_)
        · have hz : M.2 21 j = 0 := hz
          refine jd_vret C E rfl rfl ⟨rfl, ?_⟩
          rw [← he, can_p (by omega), h1 j hj (by unfold dAns; rw [if_pos hz])]
        · have hz : ¬ M.2 21 j = 0 := hz
          refine jd_get C rfl (fg_D_D_endSort V) rfl ?_
          refine jd_get C rfl (fg_D_D_ref V) (u := .inl (nI j)) rfl ?_
          refine jd_ald C hT (f := 22) rfl (by decide) rfl rfl j rfl (by show j < 200; omega) ?_
          refine jd_get C rfl (fg_D_D_end V) rfl ?_
          refine jd_get C rfl (fg_D_D_ref V) (u := .inl (nI j)) rfl ?_
          refine jd_ald C hT (f := 23) rfl (by decide) rfl rfl j rfl (by show j < 200; omega) ?_
          refine jd_call C hT rfl (fc_D_D_hold V (by decide)) (m_D_hold _ hT _ _) (As := [.inl (M.2 22 j), .inl (M.2 23 j)]) rfl rfl rfl (nle rfl) rfl rfl ?_
          rintro r M' ⟨rfl, rfl⟩
          rw [mHold2]
          refine jd_goto C rfl ?_
          have ha : dAns M j = some (M.2 22 j, M.2 23 j) := by unfold dAns; rw [if_neg hz]
          obtain ⟨e1, e2⟩ := h2 j _ hj ha
          refine ih (M.2 22 j, M.2 23 j) e2 (fun q => ?_) ?_
          · have := h3 j _ hj ha q
            have h4 := hN rfl
            rw [show ((3, nI j) : Rf).2.toNatClampNeg = j from nI_clamp (by omega)] at h4
            omega
          · rw [← he, can_p (by omega)]; exact e1.symm
  refine jd_call C hT rfl (fc_D_D_hold V (by decide)) (m_D_hold _ hT s v) (As := [.inl s, .inl v]) rfl rfl rfl (nle rfl) rfl rfl ?_
  rintro r M' ⟨rfl, rfl⟩
  exact loop (rk v.toNatClampNeg + 1) (s, v) hv (fun _ => Nat.lt_succ_self _) rfl
theorem m_D_isObject (l : Launch) (hT : TOK T) (kd : Int32) (hv : M.1 27 = 2 → ∃ i, i < 40 ∧ M.1 28 = nI i) : CtD l T y_D_isObject W_D_isObject rm_D_isObject b A [.inr (some b), .inl kd] M (fun r M' => r = some (.inl (bI (decide (M.1 27 = 2 ∧ M.2 1 (M.1 28).toNatClampNeg = kd)))) ∧ M' = M) := by
  intro w R
  refine ct_D_isObject rfl (nle rfl) ?_
  intro X hl C E
  have V := hv_D_isObject hT
  suffices JD T G_D_isObject X b A 0 [some (.inr (some b)), some (.inl kd)] [] M from this w R
  refine jd_get C rfl (fg_D_D_sort V) rfl ?_
  refine jd_icmp C rfl (fun h => ?_) (fun h => ?_)
  · have h : ¬ M.1 27 = 2 := h
    refine jd_iret C E rfl (Or.inr ⟨rfl, Or.inl rfl⟩) ⟨?_, rfl⟩
    rw [decide_eq_false (fun q => h q.1)]; rfl
  · have h : M.1 27 = 2 := Classical.not_not.mp h
    obtain ⟨i, hi, e⟩ := hv h
    refine jd_get C rfl (fg_D_D_kind V) rfl ?_
    refine jd_get C rfl (fg_D_D_ref V) rfl ?_
    refine jd_ald C hT (f := 1) rfl (by decide) rfl rfl i e hi ?_
    refine jd_icmp C rfl (fun h' => ?_) (fun h' => ?_)
    · have h' : ¬ M.2 1 i = kd := h'
      refine jd_iret C E rfl (Or.inr ⟨rfl, Or.inl rfl⟩) ⟨?_, rfl⟩
      rw [e, nI_clamp (by omega), decide_eq_false (fun q => h' q.2)]; rfl
    · have h' : M.2 1 i = kd := Classical.not_not.mp h'
      refine jd_goto C rfl ?_
      refine jd_iret C E rfl (Or.inr ⟨rfl, Or.inr rfl⟩) ⟨?_, rfl⟩
      rw [e, nI_clamp (by omega), decide_eq_true ⟨h, h'⟩]; rfl
/-- a new object's row -/
def mMake (M : Md) (n : Nat) (kd vat to : Int32) : Md :=
  (va_up M.1 0 (nI (n + 1)), fun f i => if f = 1 ∧ i = n then kd else if f = 2 ∧ i = n then vat else if f = 3 ∧ i = n then to else if (f = 4 ∨ f = 5 ∨ f = 6 ∨ f = 7 ∨ f = 8) ∧ i = n then 0 else if f = 9 ∧ 4 * n ≤ i ∧ i < 4 * n + 4 then 0 else M.2 f i)
theorem nI_mul4 {o i : Nat} : (4 : Int32) * nI o + nI i = nI (4 * o + i) := by
  show nI 4 * nI o + nI i = _
  rw [show nI 4 * nI o = nI (4 * o) from (Int32.ofNat_mul 4 o).symm, nI_add]
theorem m_D_make (l : Launch) (hT : TOK T) {n : Nat} (hn : M.1 0 = nI n) (h40 : n < 40) (kd vat to : Int32) : CtD l T y_D_make W_D_make rm_D_make b A [.inr (some b), .inl kd, .inl vat, .inl to] M (fun r M' => r = some (.inl (nI n)) ∧ M' = mMake M n kd vat to) := by
  intro w R
  refine ct_D_make rfl (nle rfl) ?_
  intro X hl C E
  have V := hv_D_make hT
  suffices JD T G_D_make X b A 0 [some (.inr (some b)), some (.inl kd), some (.inl vat), some (.inl to), none, none] [] M from this w R
  refine jd_get C rfl (fg_D_D_objects V) rfl ?_
  refine jd_get C rfl (fg_D_D_kind V) rfl ?_
  refine jd_ast C hT (f := 1) rfl (by decide) rfl rfl n hn h40 ?_
  refine jd_get C rfl (fg_D_D_home V) rfl ?_
  refine jd_ast C hT (f := 2) rfl (by decide) rfl rfl n hn h40 ?_
  refine jd_get C rfl (fg_D_D_link V) rfl ?_
  refine jd_ast C hT (f := 3) rfl (by decide) rfl rfl n hn h40 ?_
  refine jd_get C rfl (fg_D_D_balance V) rfl ?_
  refine jd_ast C hT (f := 4) rfl (by decide) rfl rfl n hn h40 ?_
  refine jd_get C rfl (fg_D_D_inward V) rfl ?_
  refine jd_ast C hT (f := 5) rfl (by decide) rfl rfl n hn h40 ?_
  refine jd_get C rfl (fg_D_D_revoked V) rfl ?_
  refine jd_zst C hT (f := 6) rfl (by decide) rfl rfl n hn h40 (Or.inl rfl) ?_
  refine jd_get C rfl (fg_D_D_ownSort V) rfl ?_
  refine jd_ast C hT (f := 7) rfl (by decide) rfl rfl n hn h40 ?_
  refine jd_get C rfl (fg_D_D_own V) rfl ?_
  refine jd_ast C hT (f := 8) rfl (by decide) rfl rfl n hn h40 ?_
  have loop : ∀ d i M', i + d = 4 → M'.1 = M.1 → (∀ f q, M'.2 f q = (if f = 9 then (if 4 * n ≤ q ∧ q < 4 * n + i then 0 else M.2 f q) else (mMake M n kd vat to).2 f q)) → JD T G_D_make X b A 73 [some (.inr (some b)), some (.inl kd), some (.inl vat), some (.inl to), some (.inl (M.1 0)), some (.inl (nI i))] [] M' := by
    intro d
    induction d with
    | zero =>
      intro i M' hi h1 h2
      refine jd_icmpT C rfl (fw_cb_iff.mpr (by show (4 : Int32) ≤ nI i; rw [show i = 4 by omega]; decide)) ?_
      refine jd_get C rfl (fg_D_D_objects V) rfl ?_
      refine jd_put C rfl (fp_D_D_objects V) (by decide) rfl ?_
      refine jd_iret C E rfl (Or.inl rfl) ⟨by rw [hn], ?_⟩
      refine Prod.ext ?_ (funext fun f => funext fun q => ?_)
      · show va_up M'.1 0 (M'.1 0 + 1) = va_up M.1 0 (nI (n + 1))
        rw [h1, hn, nI_1]
      · show M'.2 f q = _
        rw [h2 f q, show i = 4 by omega]
        by_cases h9 : f = 9
        · subst h9; simp [mMake]
        · rw [if_neg h9]
    | succ d ih =>
      intro i M' hi h1 h2
      refine jd_icmpF C rfl (Bool.eq_false_iff.mpr fun q => by
        have q : (4 : Int32) ≤ nI i := fw_cb_iff.mp q
        have q' : nI i < nI 4 := nI_lt (by omega) (by omega)
        rw [Int32.lt_iff_toInt_lt] at q'
        rw [Int32.le_iff_toInt_le] at q
        have : (nI 4 : Int32).toInt = (4 : Int32).toInt := rfl
        omega) ?_
      refine jd_get C rfl (fg_D_D_slotSort V) rfl ?_
      refine jd_ast C hT (f := 9) rfl (by decide) rfl rfl (4 * n + i) (by rw [hn]; exact nI_mul4) (by show 4 * n + i < 160; omega) ?_
      refine jd_goto C rfl ?_
      have hrec := ih (i + 1) (M'.1, va_up M'.2 9 (va_up (M'.2 9) (4 * n + i) 0)) (by omega) h1 (fun f q => by
        show va_up M'.2 9 (va_up (M'.2 9) (4 * n + i) 0) f q = _
        by_cases h9 : f = 9
        · subst h9
          rw [va_up_self, if_pos rfl]
          by_cases hq : q = 4 * n + i
          · subst hq; rw [va_up_self, if_pos ⟨by omega, by omega⟩]
          · rw [va_up_ne _ _ hq, h2, if_pos rfl]
            by_cases hc : 4 * n ≤ q ∧ q < 4 * n + i
            · rw [if_pos hc, if_pos ⟨by omega, by omega⟩]
            · rw [if_neg hc, if_neg (by omega)]
        · rw [va_up_ne _ _ h9, h2, if_neg h9, if_neg h9])
      rw [← nI_1] at hrec
      exact hrec
  refine jd_to C 73 rfl ?_
  refine loop 4 0 _ rfl rfl (fun f q => ?_)
  rcases (show f = 1 ∨ f = 2 ∨ f = 3 ∨ f = 4 ∨ f = 5 ∨ f = 6 ∨ f = 7 ∨ f = 8 ∨ f = 9 ∨ (f ≠ 1 ∧ f ≠ 2 ∧ f ≠ 3 ∧ f ≠ 4 ∧ f ≠ 5 ∧ f ≠ 6 ∧ f ≠ 7 ∧ f ≠ 8 ∧ f ≠ 9) by omega) with rfl | rfl | rfl | rfl | rfl | rfl | rfl | rfl | rfl | ⟨a1, a2, a3, a4, a5, a6, a7, a8, a9⟩
  all_goals first
    | (rw [if_pos rfl, if_neg (by omega)]; rfl)
    | (by_cases hq : q = n <;> simp [mMake, va_up, hq]; done)
    | simp [mMake, va_up, *]
theorem m_D_fresh (l : Launch) (hT : TOK T) {n : Nat} (hn : M.1 0 = nI n) (h40 : n ≤ 40) (kd vat to : Int32) : CtD l T y_D_fresh W_D_fresh rm_D_fresh b A [.inr (some b), .inl kd, .inl vat, .inl to] M (fun r M' => r = none ∧ M' = if n < 40 then mHold (mMake M n kd vat to) 2 (nI n) else mHold M 4 0) := by
  intro w R
  refine ct_D_fresh rfl (nle rfl) ?_
  intro X hl C E
  have V := hv_D_fresh hT
  suffices JD T G_D_fresh X b A 0 [some (.inr (some b)), some (.inl kd), some (.inl vat), some (.inl to)] [] M from this w R
  refine jd_get C rfl (fg_D_D_objects V) (u := .inl (nI n)) (by rw [← hn]; rfl) ?_
  by_cases h : n < 40
  · rw [if_pos h] at E
    refine jd_icmpT C rfl (fw_cb_iff.mpr (fun q => by have := (nI_eq (b := 40) (by omega) (by omega)).mp q; omega)) ?_
    refine jd_call C hT rfl (fc_D_D_make V (by decide)) (m_D_make _ hT hn h kd vat to) (As := [.inl kd, .inl vat, .inl to]) rfl rfl rfl (nle rfl) rfl rfl ?_
    rintro r M' ⟨rfl, rfl⟩
    refine jd_call C hT rfl (fc_D_D_hold V (by decide)) (m_D_hold _ hT 2 (nI n)) (As := [.inl 2, .inl (nI n)]) rfl rfl rfl (nle rfl) rfl rfl ?_
    rintro r M' ⟨rfl, rfl⟩
    exact jd_vret C E rfl rfl ⟨rfl, rfl⟩
  · rw [if_neg h] at E
    refine jd_icmpF C rfl (by rw [show n = 40 by omega]; decide) ?_
    refine jd_call C hT rfl (fc_D_D_broken V (by decide)) (m_D_broken _ hT) (As := []) rfl rfl rfl (nle rfl) rfl rfl ?_
    rintro r M' ⟨rfl, rfl⟩
    refine jd_goto C rfl ?_
    exact jd_vret C E rfl rfl ⟨rfl, rfl⟩
def mStand (M : Md) (m : Nat) (p x : Int32) : Md := (va_up M.1 15 (M.1 15 + 1), va_up (va_up (va_up M.2 12 (va_up (M.2 12) m p)) 13 (va_up (M.2 13) m x)) 14 (va_up (M.2 14) m (M.1 15 + 1)))
theorem m_D_stand (l : Launch) (hT : TOK T) {m : Nat} (hm : m < 200) (p x : Int32) : CtD l T y_D_stand W_D_stand rm_D_stand b A [.inr (some b), .inl (nI m), .inl p, .inl x] M (fun r M' => r = none ∧ M' = mStand M m p x) := by
  intro w R
  refine ct_D_stand rfl (nle rfl) ?_
  intro X hl C E
  have V := hv_D_stand hT
  suffices JD T G_D_stand X b A 0 [some (.inr (some b)), some (.inl (nI m)), some (.inl p), some (.inl x)] [] M from this w R
  refine jd_get C rfl (fg_D_D_place V) rfl ?_
  refine jd_ast C hT (f := 12) rfl (by decide) rfl rfl m rfl hm ?_
  refine jd_get C rfl (fg_D_D_where V) rfl ?_
  refine jd_ast C hT (f := 13) rfl (by decide) rfl rfl m rfl hm ?_
  refine jd_get C rfl (fg_D_D_stamps V) rfl ?_
  refine jd_put C rfl (fp_D_D_stamps V) (by decide) rfl ?_
  refine jd_get C rfl (fg_D_D_stamp V) rfl ?_
  refine jd_get C rfl (fg_D_D_stamps V) rfl ?_
  refine jd_ast C hT (f := 14) rfl (by decide) rfl rfl m rfl hm ?_
  exact jd_vret C E rfl rfl ⟨rfl, rfl⟩
/-- how many of the first i stand so -/
def nCount (M : Md) (p x : Int32) : Nat → Nat
  | 0 => 0
  | i + 1 => if M.2 12 i = p ∧ M.2 13 i = x then nCount M p x i + 1 else nCount M p x i
theorem m_D_count (l : Launch) (hT : TOK T) {k : Nat} (hk : M.1 11 = nI k) (h200 : k ≤ 200) (p x : Int32) : CtD l T y_D_count W_D_count rm_D_count b A [.inr (some b), .inl p, .inl x] M (fun r M' => r = some (.inl (nI (nCount M p x k))) ∧ M' = M) := by
  intro w R
  refine ct_D_count rfl (nle rfl) ?_
  intro X hl C E
  have V := hv_D_count hT
  suffices JD T G_D_count X b A 0 [some (.inr (some b)), some (.inl p), some (.inl x), none, none] [] M from this w R
  have loop : ∀ d i, i + d = k → JD T G_D_count X b A 5 [some (.inr (some b)), some (.inl p), some (.inl x), some (.inl (nI (nCount M p x i))), some (.inl (nI i))] [] M := by
    intro d
    induction d with
    | zero =>
      intro i hi
      refine jd_get C rfl (fg_D_D_messages V) (u := .inl (nI k)) (by rw [← hk]; rfl) ?_
      refine jd_icmpT C rfl (fw_cb_iff.mpr (by show nI k ≤ nI i; exact nI_le (by omega) (by omega))) ?_
      refine jd_iret C E rfl (Or.inl rfl) ⟨by rw [show i = k by omega], rfl⟩
    | succ d ih =>
      intro i hi
      refine jd_get C rfl (fg_D_D_messages V) (u := .inl (nI k)) (by rw [← hk]; rfl) ?_
      refine jd_icmpF C rfl (Bool.eq_false_iff.mpr fun q => nI_ge (a := i) (b := k) (by omega) (by omega) (fw_cb_iff.mp q)) ?_
      have hr := ih (i + 1) (by omega)
      refine jd_get C rfl (fg_D_D_place V) rfl ?_
      refine jd_ald C hT (f := 12) rfl (by decide) rfl rfl i rfl (by show i < 200; omega) ?_
      refine jd_icmp C rfl (fun h => ?_) (fun h => ?_)
      · have h : ¬ M.2 12 i = p := h
        rw [show nCount M p x (i + 1) = nCount M p x i by show (if _ then _ else _) = _; rw [if_neg (fun q => h q.1)]] at hr
        refine jd_goto C rfl ?_
        rw [← nI_1] at hr
        exact hr
      · have h : M.2 12 i = p := Classical.not_not.mp h
        refine jd_get C rfl (fg_D_D_where V) rfl ?_
        refine jd_ald C hT (f := 13) rfl (by decide) rfl rfl i rfl (by show i < 200; omega) ?_
        refine jd_icmp C rfl (fun h' => ?_) (fun h' => ?_)
        · have h' : ¬ M.2 13 i = x := h'
          rw [show nCount M p x (i + 1) = nCount M p x i by show (if _ then _ else _) = _; rw [if_neg (fun q => h' q.2)]] at hr
          refine jd_goto C rfl ?_
          rw [← nI_1] at hr
          exact hr
        · have h' : M.2 13 i = x := Classical.not_not.mp h'
          rw [show nCount M p x (i + 1) = nCount M p x i + 1 by show (if _ then _ else _) = _; rw [if_pos ⟨h, h'⟩]] at hr
          refine jd_goto C rfl ?_
          refine jd_goto C rfl ?_
          rw [← nI_1, ← nI_1] at hr
          exact hr
  refine jd_to C 5 rfl ?_
  exact loop k 0 (Nat.zero_add _)
end DLF
end
section
/-! The reference's lines: the one of lowest stamp; settle, direct. -/
def iO (o : Option Nat) : Int32 := match o with | none => -1 | some i => nI i
def mnF (P : Nat → Bool) (st : Nat → Int32) : Nat → Option Nat
  | 0 => none
  | i + 1 => if P i = true ∧ (∀ f, mnF P st i = some f → st i < st f) then some i else mnF P st i
theorem mnF_none {P : Nat → Bool} {st : Nat → Int32} : ∀ {k : Nat}, mnF P st k = none → ∀ j, j < k → P j = false
  | 0, _, j, h => absurd h (Nat.not_lt_zero _)
  | k + 1, h, j, hj => by
    unfold mnF at h
    by_cases hc : P k = true ∧ (∀ f, mnF P st k = some f → st k < st f)
    · rw [if_pos hc] at h; cases h
    · rw [if_neg hc] at h
      by_cases hjk : j = k
      · subst hjk
        cases hp : P j with
        | false => rfl
        | true => exact absurd ⟨hp, fun f hf => by rw [h] at hf; cases hf⟩ hc
      · exact mnF_none h j (by omega)
theorem mnF_some {P : Nat → Bool} {st : Nat → Int32} : ∀ {k m : Nat}, mnF P st k = some m → m < k ∧ P m = true ∧ ∀ j, j < k → P j = true → ¬ st j < st m
  | 0, _, h => by cases h
  | k + 1, m, h => by
    unfold mnF at h
    by_cases hc : P k = true ∧ (∀ f, mnF P st k = some f → st k < st f)
    · rw [if_pos hc] at h
      cases h
      refine ⟨Nat.lt_succ_self _, hc.1, fun j hj hp hlt => ?_⟩
      by_cases hjk : j = k
      · subst hjk; exact Int32.lt_irrefl hlt
      · cases hm : mnF P st k with
        | none => rw [mnF_none hm j (by omega)] at hp; cases hp
        | some f =>
          obtain ⟨_, _, h3⟩ := mnF_some hm
          have h4 := hc.2 f hm
          have h5 := h3 j (by omega) hp
          rw [Int32.lt_iff_toInt_lt] at *
          omega
    · rw [if_neg hc] at h
      obtain ⟨h1, h2, h3⟩ := mnF_some h
      refine ⟨by omega, h2, fun j hj hp hlt => ?_⟩
      by_cases hjk : j = k
      · subst hjk
        exact hc ⟨hp, fun f hf => by rw [h] at hf; cases hf; exact hlt⟩
      · exact h3 j (by omega) hp hlt
theorem mnF_line {P : Nat → Bool} {st : Nat → Int32} {k : Nat} {l : List Nat} (hm : ∀ j, j ∈ l ↔ j < k ∧ P j = true) (hp : l.Pairwise (fun a b => st a < st b)) : mnF P st k = l.head? := by
  cases l with
  | nil =>
    cases h : mnF P st k with
    | none => rfl
    | some m => obtain ⟨h1, h2, -⟩ := mnF_some h; exact absurd ((hm m).mpr ⟨h1, h2⟩) List.not_mem_nil
  | cons a t =>
    have ha := (hm a).mp List.mem_cons_self
    cases h : mnF P st k with
    | none => have := mnF_none h a ha.1; rw [ha.2] at this; cases this
    | some m =>
      obtain ⟨h1, h2, h3⟩ := mnF_some h
      have hmm := (hm m).mpr ⟨h1, h2⟩
      rcases List.mem_cons.mp hmm with rfl | ht
      · rfl
      · exact absurd ((List.pairwise_cons.mp hp).1 m ht) (h3 a ha.1 ha.2)
def relP (M : Md) (i : Nat) : Bool := decide (M.2 12 i = 2 ∧ ¬ M.2 21 (M.2 13 i).toNatClampNeg = 0)
def nthP (M : Md) (p x af : Int32) (i : Nat) : Bool := decide (M.2 12 i = p ∧ M.2 13 i = x ∧ af < M.2 14 i)
section DRT
variable {T : fw_T} {b : Nat} {A : Nat → Nat} {M : Md} {k : Nat} {ph : Nat → Rf}
theorem m_D_released (l : Launch) (hT : TOK T) (hk : M.1 11 = nI k) (h200 : k ≤ 200) (hw : ∀ i, i < k → M.2 12 i = 2 → ∃ x, x < 200 ∧ M.2 13 i = nI x) : CtD l T y_D_released W_D_released rm_D_released b A [.inr (some b)] M (fun r M' => r = some (.inl (iO (mnF (relP M) (M.2 14) k))) ∧ M' = M) := by
  intro w R
  refine ct_D_released rfl (nle rfl) ?_
  intro X hl C E
  have V := hv_D_released hT
  suffices JD T G_D_released X b A 0 [some (.inr (some b)), none, none, none] [] M from this w R
  have loop : ∀ d i z, i + d = k → JD T G_D_released X b A 4 [some (.inr (some b)), some (.inl (iO (mnF (relP M) (M.2 14) i))), some (.inl (nI i)), z] [] M := by
    intro d
    induction d with
    | zero =>
      intro i z hi
      refine jd_get C rfl (fg_D_D_messages V) (u := .inl (nI k)) (by rw [← hk]; rfl) ?_
      refine jd_icmpT C rfl (fw_cb_iff.mpr (by show nI k ≤ nI i; exact nI_le (by omega) (by omega))) ?_
      refine jd_iret C E rfl (Or.inl rfl) ⟨by rw [show i = k by omega], rfl⟩
    | succ d ih =>
      intro i z hi
      refine jd_get C rfl (fg_D_D_messages V) (u := .inl (nI k)) (by rw [← hk]; rfl) ?_
      refine jd_icmpF C rfl (Bool.eq_false_iff.mpr fun q => nI_ge (a := i) (b := k) (by omega) (by omega) (fw_cb_iff.mp q)) ?_
      have hr := fun z => ih (i + 1) z (by omega)
      have no : relP M i = false → JD T G_D_released X b A 40 [some (.inr (some b)), some (.inl (iO (mnF (relP M) (M.2 14) i))), some (.inl (nI i)), z] [] M := by
        intro hz
        refine jd_ifT C rfl rfl ?_
        refine jd_goto C rfl ?_
        have h1 := hr (some (.inl 0))
        rw [show mnF (relP M) (M.2 14) (i + 1) = mnF (relP M) (M.2 14) i by show (if _ then _ else _) = _; rw [if_neg (fun q => by rw [hz] at q; cases q.1)], ← nI_1] at h1
        exact h1
      refine jd_get C rfl (fg_D_D_place V) rfl ?_
      refine jd_ald C hT (f := 12) rfl (by decide) rfl rfl i rfl (by show i < 200; omega) ?_
      refine jd_icmp C rfl (fun h => ?_) (fun h => ?_)
      · have h : ¬ M.2 12 i = 2 := h
        exact no (by unfold relP; rw [decide_eq_false (fun q => h q.1)])
      · have h : M.2 12 i = 2 := Classical.not_not.mp h
        obtain ⟨x, hx, hwx⟩ := hw i (by omega) h
        refine jd_get C rfl (fg_D_D_resolved V) rfl ?_
        refine jd_get C rfl (fg_D_D_where V) rfl ?_
        refine jd_ald C hT (f := 13) rfl (by decide) rfl rfl i rfl (by show i < 200; omega) ?_
        refine jd_zld C hT (f := 21) rfl (by decide) rfl rfl x hwx hx ?_
        refine jd_if C rfl (fun h' => ?_) (fun h' => ?_)
        · have h' : M.2 21 x = 0 := h'
          exact no (by unfold relP; rw [hwx, nI_clamp (by omega), decide_eq_false (fun q => q.2 h')])
        · have h' : ¬ M.2 21 x = 0 := h'
          have hp : relP M i = true := by unfold relP; rw [hwx, nI_clamp (by omega), decide_eq_true ⟨h, h'⟩]
          refine jd_goto C rfl ?_
          refine jd_ifF C rfl rfl ?_
          have h1 := hr (some (.inl 1))
          cases hm : mnF (relP M) (M.2 14) i with
          | none =>
            rw [show mnF (relP M) (M.2 14) (i + 1) = some i by show (if _ then _ else _) = _; rw [if_pos ⟨hp, fun f hf => by rw [hm] at hf; cases hf⟩], ← nI_1] at h1
            refine jd_ifT C rfl rfl ?_
            refine jd_goto C rfl ?_
            refine jd_goto C rfl ?_
            exact h1
          | some f =>
            obtain ⟨hf, -, -⟩ := mnF_some hm
            refine jd_ifF C rfl (Bool.eq_false_iff.mpr fun q => nI_pos (n := f) (by omega) (fw_cb_iff.mp q)) ?_
            refine jd_get C rfl (fg_D_D_stamp V) rfl ?_
            refine jd_ald C hT (f := 14) rfl (by decide) rfl rfl i rfl (by show i < 200; omega) ?_
            refine jd_get C rfl (fg_D_D_stamp V) rfl ?_
            refine jd_ald C hT (f := 14) rfl (by decide) rfl rfl f rfl (by show f < 200; omega) ?_
            refine jd_icmp C rfl (fun q => ?_) (fun q => ?_)
            · have q : M.2 14 f ≤ M.2 14 i := q
              rw [show mnF (relP M) (M.2 14) (i + 1) = some f by show (if _ then _ else _) = _; rw [if_neg (fun z => by have := z.2 f hm; rw [Int32.lt_iff_toInt_lt] at this; rw [Int32.le_iff_toInt_le] at q; omega)]; exact hm, ← nI_1] at h1
              refine jd_goto C rfl ?_
              exact h1
            · have q : ¬ M.2 14 f ≤ M.2 14 i := q
              rw [show mnF (relP M) (M.2 14) (i + 1) = some i by show (if _ then _ else _) = _; rw [if_pos ⟨hp, fun f' hf' => by rw [hm] at hf'; cases hf'; rw [Int32.lt_iff_toInt_lt]; rw [Int32.le_iff_toInt_le] at q; omega⟩], ← nI_1] at h1
              refine jd_goto C rfl ?_
              refine jd_goto C rfl ?_
              exact h1
  refine jd_to C 4 rfl ?_
  exact loop k 0 none (Nat.zero_add _)
theorem m_D_nth (l : Launch) (hT : TOK T) (hk : M.1 11 = nI k) (h200 : k ≤ 200) {p x : Int32} {ln : List Nat} (hm : ∀ j, j ∈ ln ↔ j < k ∧ M.2 12 j = p ∧ M.2 13 j = x) (hp : ln.Pairwise (fun a b => M.2 14 a < M.2 14 b)) (h0 : ∀ j, j ∈ ln → -1 < M.2 14 j) {B : Nat} (hB : B < 200) : CtD l T y_D_nth W_D_nth rm_D_nth b A [.inr (some b), .inl p, .inl x, .inl (nI B)] M (fun r M' => r = some (.inl (iO ln[B]?)) ∧ M' = M) := by
  intro w R
  refine ct_D_nth rfl (nle rfl) ?_
  intro X hl C E
  have V := hv_D_nth hT
  suffices JD T G_D_nth X b A 0 [some (.inr (some b)), some (.inl p), some (.inl x), some (.inl (nI B)), none, none, none, none, none] [] M from this w R
  have inner : ∀ (af : Int32) (c : Nat) (d i : Nat) z, i + d = k → (∀ z, JD T G_D_nth X b A 113 [some (.inr (some b)), some (.inl p), some (.inl x), some (.inl (nI B)), some (.inl af), some (.inl (iO (mnF (nthP M p x af) (M.2 14) k))), some (.inl (nI c)), some (.inl (nI k)), z] [] M) → JD T G_D_nth X b A 21 [some (.inr (some b)), some (.inl p), some (.inl x), some (.inl (nI B)), some (.inl af), some (.inl (iO (mnF (nthP M p x af) (M.2 14) i))), some (.inl (nI c)), some (.inl (nI i)), z] [] M := by
    intro af c d
    induction d with
    | zero =>
      intro i z hi hpost
      refine jd_get C rfl (fg_D_D_messages V) (u := .inl (nI k)) (by rw [← hk]; rfl) ?_
      refine jd_icmpT C rfl (fw_cb_iff.mpr (by show nI k ≤ nI i; exact nI_le (by omega) (by omega))) ?_
      rw [show i = k by omega]
      exact hpost z
    | succ d ih =>
      intro i z hi hpost
      refine jd_get C rfl (fg_D_D_messages V) (u := .inl (nI k)) (by rw [← hk]; rfl) ?_
      refine jd_icmpF C rfl (Bool.eq_false_iff.mpr fun q => nI_ge (a := i) (b := k) (by omega) (by omega) (fw_cb_iff.mp q)) ?_
      have hr := fun z => ih (i + 1) z (by omega) hpost
      have no : nthP M p x af i = false → JD T G_D_nth X b A 68 [some (.inr (some b)), some (.inl p), some (.inl x), some (.inl (nI B)), some (.inl af), some (.inl (iO (mnF (nthP M p x af) (M.2 14) i))), some (.inl (nI c)), some (.inl (nI i)), z] [] M := by
        intro hz
        refine jd_ifT C rfl rfl ?_
        refine jd_goto C rfl ?_
        have h1 := hr (some (.inl 0))
        rw [show mnF (nthP M p x af) (M.2 14) (i + 1) = mnF (nthP M p x af) (M.2 14) i by show (if _ then _ else _) = _; rw [if_neg (fun q => by rw [hz] at q; cases q.1)], ← nI_1] at h1
        exact h1
      refine jd_get C rfl (fg_D_D_place V) rfl ?_
      refine jd_ald C hT (f := 12) rfl (by decide) rfl rfl i rfl (by show i < 200; omega) ?_
      refine jd_icmp C rfl (fun h => ?_) (fun h => ?_)
      · have h : ¬ M.2 12 i = p := h
        exact no (by unfold nthP; rw [decide_eq_false (fun q => h q.1)])
      have h : M.2 12 i = p := Classical.not_not.mp h
      refine jd_get C rfl (fg_D_D_where V) rfl ?_
      refine jd_ald C hT (f := 13) rfl (by decide) rfl rfl i rfl (by show i < 200; omega) ?_
      refine jd_icmp C rfl (fun h' => ?_) (fun h' => ?_)
      · have h' : ¬ M.2 13 i = x := h'
        exact no (by unfold nthP; rw [decide_eq_false (fun q => h' q.2.1)])
      have h' : M.2 13 i = x := Classical.not_not.mp h'
      refine jd_get C rfl (fg_D_D_stamp V) rfl ?_
      refine jd_ald C hT (f := 14) rfl (by decide) rfl rfl i rfl (by show i < 200; omega) ?_
      refine jd_icmp C rfl (fun h2 => ?_) (fun h2 => ?_)
      · have h2 : M.2 14 i ≤ af := h2
        exact no (by unfold nthP; rw [decide_eq_false (fun q => by have := q.2.2; rw [Int32.lt_iff_toInt_lt] at this; rw [Int32.le_iff_toInt_le] at h2; omega)])
      have h2 : ¬ M.2 14 i ≤ af := h2
      have hpp : nthP M p x af i = true := by unfold nthP; exact decide_eq_true ⟨h, h', by rw [Int32.lt_iff_toInt_lt]; rw [Int32.le_iff_toInt_le] at h2; omega⟩
      refine jd_goto C rfl ?_
      refine jd_ifF C rfl rfl ?_
      have h1 := hr (some (.inl 1))
      cases hmn : mnF (nthP M p x af) (M.2 14) i with
      | none =>
        rw [show mnF (nthP M p x af) (M.2 14) (i + 1) = some i by show (if _ then _ else _) = _; rw [if_pos ⟨hpp, fun f hf => by rw [hmn] at hf; cases hf⟩], ← nI_1] at h1
        refine jd_ifT C rfl rfl ?_
        refine jd_goto C rfl ?_
        refine jd_goto C rfl ?_
        exact h1
      | some f =>
        obtain ⟨hf, -, -⟩ := mnF_some hmn
        refine jd_ifF C rfl (Bool.eq_false_iff.mpr fun q => nI_pos (n := f) (by omega) (fw_cb_iff.mp q)) ?_
        refine jd_get C rfl (fg_D_D_stamp V) rfl ?_
        refine jd_ald C hT (f := 14) rfl (by decide) rfl rfl i rfl (by show i < 200; omega) ?_
        refine jd_get C rfl (fg_D_D_stamp V) rfl ?_
        refine jd_ald C hT (f := 14) rfl (by decide) rfl rfl f rfl (by show f < 200; omega) ?_
        refine jd_icmp C rfl (fun q => ?_) (fun q => ?_)
        · have q : M.2 14 f ≤ M.2 14 i := q
          rw [show mnF (nthP M p x af) (M.2 14) (i + 1) = some f by show (if _ then _ else _) = _; rw [if_neg (fun z => by have := z.2 f hmn; rw [Int32.lt_iff_toInt_lt] at this; rw [Int32.le_iff_toInt_le] at q; omega)]; exact hmn, ← nI_1] at h1
          refine jd_goto C rfl ?_
          exact h1
        · have q : ¬ M.2 14 f ≤ M.2 14 i := q
          rw [show mnF (nthP M p x af) (M.2 14) (i + 1) = some i by show (if _ then _ else _) = _; rw [if_pos ⟨hpp, fun f' hf' => by rw [hmn] at hf'; cases hf'; rw [Int32.lt_iff_toInt_lt]; rw [Int32.le_iff_toInt_le] at q; omega⟩], ← nI_1] at h1
          refine jd_goto C rfl ?_
          refine jd_goto C rfl ?_
          exact h1
  have outer : ∀ (d c : Nat) (l1 l2 : List Nat) (af : Int32) z1 z2, ln = l1 ++ l2 → l1.length = c → c + d = B + 1 → (∀ j, j ∈ l1 → ¬ af < M.2 14 j) → (∀ j, j ∈ l2 → af < M.2 14 j) → JD T G_D_nth X b A 9 [some (.inr (some b)), some (.inl p), some (.inl x), some (.inl (nI B)), some (.inl af), some (.inl (iO l1.getLast?)), some (.inl (nI c)), z1, z2] [] M := by
    intro d
    induction d with
    | zero =>
      intro c l1 l2 af z1 z2 e hc hd h1 h2
      refine jd_icmpT C rfl (fw_cb_iff.mpr (by show nI B < nI c; exact nI_lt (by omega) (by omega))) ?_
      refine jd_iret C E rfl (Or.inl rfl) ⟨?_, rfl⟩
      rw [e, List.getElem?_append_left (by omega), List.getLast?_eq_getElem?, show l1.length - 1 = B by omega]
    | succ d ih =>
      intro c l1 l2 af z1 z2 e hc hd h1 h2
      refine jd_icmpF C rfl (Bool.eq_false_iff.mpr fun q => by
        have q : nI B < nI c := fw_cb_iff.mp q
        rw [nI_ltI (by omega) (by omega)] at q; omega) ?_
      refine jd_to C 21 rfl ?_
      have hmem : ∀ j, j ∈ l2 ↔ j < k ∧ nthP M p x af j = true := by
        intro j
        constructor
        · intro hj
          have := (hm j).mp (by rw [e]; exact List.mem_append_right _ hj)
          exact ⟨this.1, by unfold nthP; exact decide_eq_true ⟨this.2.1, this.2.2, h2 j hj⟩⟩
        · rintro ⟨hj, hq⟩
          unfold nthP at hq
          obtain ⟨q1, q2, q3⟩ := of_decide_eq_true hq
          have := (hm j).mpr ⟨hj, q1, q2⟩
          rw [e] at this
          rcases List.mem_append.mp this with h | h
          · exact absurd q3 (h1 j h)
          · exact h
      rw [e] at hp
      have hp2 := (List.pairwise_append.mp hp)
      refine inner af c k 0 z2 (Nat.zero_add _) (fun z => ?_)
      rw [mnF_line hmem hp2.2.1]
      cases l2 with
      | nil =>
        refine jd_ifF C rfl rfl ?_
        refine jd_iret C E rfl (Or.inl rfl) ⟨?_, rfl⟩
        rw [e, List.append_nil, List.getElem?_eq_none (by omega)]
        rfl
      | cons a t =>
        have ha := ((hmem a).mp List.mem_cons_self).1
        refine jd_ifT C rfl (fw_cb_iff.mpr (by show (0 : Int32) ≤ nI a; exact nI_pos' (by omega))) ?_
        refine jd_get C rfl (fg_D_D_stamp V) rfl ?_
        refine jd_ald C hT (f := 14) rfl (by decide) rfl rfl a rfl (by show a < 200; omega) ?_
        refine jd_goto C rfl ?_
        have hr := ih (c + 1) (l1 ++ [a]) t (M.2 14 a) (some (.inl (nI k))) z (by rw [e, List.append_assoc]; rfl) (by simp [hc]) (by omega) (fun j hj => by
          rcases List.mem_append.mp hj with h | h
          · have := hp2.2.2 j h a List.mem_cons_self
            intro q
            rw [Int32.lt_iff_toInt_lt] at *; omega
          · rw [List.mem_singleton.mp h]; exact Int32.lt_irrefl) (List.pairwise_cons.mp hp2.2.1).1
        rw [← nI_1, List.getLast?_concat] at hr
        exact hr
  refine jd_to C 9 rfl ?_
  exact outer (B + 1) 0 [] ln (-1) none none rfl rfl (Nat.zero_add _) (fun j hj => by cases hj) h0
abbrev badC (c : Rf) (m : Nat) : Prop := c.1 = 0 ∨ (c.1 = 3 ∧ c.2 = nI m)
/-- resolves m to (s, v), which counts as c -/
def mSettle (M : Md) (m : Nat) (a c : Rf) : Md :=
  ((mHold M c.1 c.2).1, va_up (va_up (va_up (va_up M.2 21 (va_up (M.2 21) m 1)) 22 (va_up (M.2 22) m (if badC c m then 4 else a.1))) 23 (va_up (M.2 23) m (if badC c m then 0 else a.2))) 12 (va_up (M.2 12) m 0))
theorem m_D_settle (l : Launch) (hT : TOK T) (hc : CH k ph (dAns M)) (hk : k ≤ 200) {m : Nat} (hm : m < 200) {a : Rf} (h27 : M.1 27 = a.1) (h28 : M.1 28 = a.2) (hv : vR k a) : CtD l T y_D_settle W_D_settle rm_D_settle b A [.inr (some b), .inl (nI m)] M (fun r M' => r = none ∧ M' = mSettle M m a (can ph a)) := by
  intro w R
  refine ct_D_settle rfl (nle rfl) ?_
  intro X hl C E
  have V := hv_D_settle hT
  suffices JD T G_D_settle X b A 0 [some (.inr (some b)), some (.inl (nI m)), none, none, none] [] M from this w R
  refine jd_get C rfl (fg_D_D_sort V) (u := .inl a.1) (by rw [← h27]; rfl) ?_
  refine jd_get C rfl (fg_D_D_ref V) (u := .inl a.2) (by rw [← h28]; rfl) ?_
  refine jd_call C hT rfl (fc_D_D_look V (by decide)) (m_D_look _ hT hc hk (s := a.1) (v := a.2) hv) (As := [.inl a.1, .inl a.2]) rfl rfl rfl (nle rfl) rfl rfl ?_
  rintro r M' ⟨rfl, rfl⟩
  rw [show ((a.1, a.2) : Rf) = a from rfl]
  generalize hcc : can ph a = c at E
  have bad : badC c m → JD T G_D_settle X b A 39 [some (.inr (some b)), some (.inl (nI m)), some (.inl a.1), some (.inl a.2), none] [] (mHold M c.1 c.2) := by
    intro hb
    refine jd_goto C rfl ?_
    refine jd_get C rfl (fg_D_D_resolved V) rfl ?_
    refine jd_zst C hT (f := 21) rfl (by decide) rfl rfl m rfl hm (Or.inr rfl) ?_
    refine jd_get C rfl (fg_D_D_endSort V) rfl ?_
    refine jd_ifF C rfl rfl ?_
    refine jd_goto C rfl ?_
    refine jd_ast C hT (f := 22) rfl (by decide) rfl rfl m rfl hm ?_
    refine jd_get C rfl (fg_D_D_end V) rfl ?_
    refine jd_ifF C rfl rfl ?_
    refine jd_goto C rfl ?_
    refine jd_ast C hT (f := 23) rfl (by decide) rfl rfl m rfl hm ?_
    refine jd_get C rfl (fg_D_D_place V) rfl ?_
    refine jd_ast C hT (f := 12) rfl (by decide) rfl rfl m rfl hm ?_
    refine jd_vret C E rfl rfl ⟨rfl, ?_⟩
    unfold mSettle
    rw [if_pos hb, if_pos hb]
    rfl
  have good : ¬ badC c m → JD T G_D_settle X b A 43 [some (.inr (some b)), some (.inl (nI m)), some (.inl a.1), some (.inl a.2), none] [] (mHold M c.1 c.2) := by
    intro hb
    refine jd_get C rfl (fg_D_D_resolved V) rfl ?_
    refine jd_zst C hT (f := 21) rfl (by decide) rfl rfl m rfl hm (Or.inr rfl) ?_
    refine jd_get C rfl (fg_D_D_endSort V) rfl ?_
    refine jd_ifT C rfl rfl ?_
    refine jd_ast C hT (f := 22) rfl (by decide) rfl rfl m rfl hm ?_
    refine jd_get C rfl (fg_D_D_end V) rfl ?_
    refine jd_ifT C rfl rfl ?_
    refine jd_ast C hT (f := 23) rfl (by decide) rfl rfl m rfl hm ?_
    refine jd_get C rfl (fg_D_D_place V) rfl ?_
    refine jd_ast C hT (f := 12) rfl (by decide) rfl rfl m rfl hm ?_
    refine jd_vret C E rfl rfl ⟨rfl, ?_⟩
    unfold mSettle
    rw [if_neg hb, if_neg hb]
    rfl
  refine jd_get C rfl (fg_D_D_sort V) (u := .inl c.1) rfl ?_
  refine jd_if C rfl (fun h => bad (Or.inl h)) (fun h0 => ?_)
  refine jd_get C rfl (fg_D_D_sort V) (u := .inl c.1) rfl ?_
  refine jd_icmp C rfl (fun h => good (fun q => q.elim h0 (fun z => h z.1))) (fun h3 => ?_)
  refine jd_get C rfl (fg_D_D_ref V) (u := .inl c.2) rfl ?_
  exact jd_icmp C rfl (fun h => good (fun q => q.elim h0 (fun z => h z.2))) (fun h => bad (Or.inr ⟨Classical.not_not.mp h3, Classical.not_not.mp h⟩))
/-- where message m goes, its target counting as c -/
def mDir (M : Md) (m : Nat) (c : Rf) : Md :=
  if c.1 = 2 then mStand (mHold M c.1 c.2) m 1 (M.2 2 c.2.toNatClampNeg) else if c.1 = 3 then mStand (mHold M c.1 c.2) m 2 c.2 else mSettle M m rB rB
theorem m_D_direct (l : Launch) (hT : TOK T) (hc : CH k ph (dAns M)) (hk : k ≤ 200) {m : Nat} (hm : m < 200) (hv : vR k (M.2 16 m, M.2 17 m)) (ho : (can ph (M.2 16 m, M.2 17 m)).1 = 2 → ∃ i, i < 40 ∧ (can ph (M.2 16 m, M.2 17 m)).2 = nI i) : CtD l T y_D_direct W_D_direct rm_D_direct b A [.inr (some b), .inl (nI m)] M (fun r M' => r = none ∧ M' = mDir M m (can ph (M.2 16 m, M.2 17 m))) := by
  intro w R
  refine ct_D_direct rfl (nle rfl) ?_
  intro X hl C E
  have V := hv_D_direct hT
  suffices JD T G_D_direct X b A 0 [some (.inr (some b)), some (.inl (nI m))] [] M from this w R
  refine jd_get C rfl (fg_D_D_targetSort V) rfl ?_
  refine jd_ald C hT (f := 16) rfl (by decide) rfl rfl m rfl hm ?_
  refine jd_get C rfl (fg_D_D_target V) rfl ?_
  refine jd_ald C hT (f := 17) rfl (by decide) rfl rfl m rfl hm ?_
  refine jd_call C hT rfl (fc_D_D_look V (by decide)) (m_D_look _ hT hc hk hv) (As := [.inl (M.2 16 m), .inl (M.2 17 m)]) rfl rfl rfl (nle rfl) rfl rfl ?_
  rintro r M' ⟨rfl, rfl⟩
  generalize hcc : can ph (M.2 16 m, M.2 17 m) = c at E ho
  refine jd_get C rfl (fg_D_D_sort V) (u := .inl c.1) rfl ?_
  refine jd_icmp C rfl (fun h => ?_) (fun h => ?_)
  · have h : ¬ c.1 = 2 := h
    refine jd_get C rfl (fg_D_D_sort V) (u := .inl c.1) rfl ?_
    refine jd_icmp C rfl (fun h3 => ?_) (fun h3 => ?_)
    · have h3 : ¬ c.1 = 3 := h3
      refine jd_call C hT rfl (fc_D_D_broken V (by decide)) (m_D_broken _ hT) (As := []) rfl rfl rfl (nle rfl) rfl rfl ?_
      rintro r M' ⟨rfl, rfl⟩
      rw [mHold2]
      refine jd_call C hT rfl (fc_D_D_settle V (by decide)) (m_D_settle (M := mHold M 4 0) _ hT (a := rB) hc hk hm rfl rfl (fun q => by cases q)) (As := [.inl (nI m)]) rfl rfl rfl (nle rfl) rfl rfl ?_
      rintro r M' ⟨rfl, rfl⟩
      refine jd_vret C E rfl rfl ⟨rfl, ?_⟩
      unfold mDir
      rw [if_neg h, if_neg h3, can_n (r := rB) (by decide)]
      unfold mSettle
      rw [mHold2]
    · have h3 : c.1 = 3 := Classical.not_not.mp h3
      refine jd_get C rfl (fg_D_D_ref V) (u := .inl c.2) rfl ?_
      refine jd_call C hT rfl (fc_D_D_stand V (by decide)) (m_D_stand _ hT hm 2 c.2) (As := [.inl (nI m), .inl 2, .inl c.2]) rfl rfl rfl (nle rfl) rfl rfl ?_
      rintro r M' ⟨rfl, rfl⟩
      refine jd_goto C rfl ?_
      refine jd_vret C E rfl rfl ⟨rfl, ?_⟩
      unfold mDir
      rw [if_neg h, if_pos h3]
  · have h : c.1 = 2 := Classical.not_not.mp h
    obtain ⟨i, hi, e⟩ := ho h
    refine jd_get C rfl (fg_D_D_home V) rfl ?_
    refine jd_get C rfl (fg_D_D_ref V) (u := .inl c.2) rfl ?_
    refine jd_ald C hT (f := 2) rfl (by decide) rfl rfl i e hi ?_
    refine jd_call C hT rfl (fc_D_D_stand V (by decide)) (m_D_stand _ hT hm 1 (M.2 2 i)) (As := [.inl (nI m), .inl 1, .inl (M.2 2 i)]) rfl rfl rfl (nle rfl) rfl rfl ?_
    rintro r M' ⟨rfl, rfl⟩
    refine jd_goto C rfl ?_
    refine jd_vret C E rfl rfl ⟨rfl, ?_⟩
    unfold mDir
    rw [if_pos h, e, nI_clamp (by omega)]
end DRT
end
section
/-! The two states side by side: things and messages (not yet the lines). -/
def vO (n : Nat) (r : Rf) : Prop := r.1 = 2 → ∃ i, i < n ∧ r.2 = nI i
def z0 (r : Rf) : Prop := r.1 = 0 ∨ r.1 = 4 → r.2 = 0
def VV (n k : Nat) (r : Rf) : Prop := vR k r ∧ vO n r ∧ z0 r
def RR (ph : Nat → Rf) (n k : Nat) (r r' : Rf) : Prop := VV n k r ∧ vR k r' ∧ can ph r = can ph r'
def RA (ph : Nat → Rf) (n k : Nat) (r r' : Rf) : Prop := VV n k r ∧ vR k r' ∧ bN (can ph r) = bN (can ph r')
def PH (ph : Nat → Rf) (n k : Nat) : Prop := ∀ j, j < k → VV n k (ph j) ∧ (ph j).1 ≠ 0
def wfT (n : Nat) (t : Th) : Prop := (tK t = 1 ∧ tO t = none ∧ ∃ o, o < n ∧ tF t = some o) ∨ ((tK t = 2 ∨ tK t = 4 ∨ tK t = 5 ∨ tK t = 6 ∨ tK t = 8 ∨ tK t = 10) ∧ ∃ o, o < n ∧ tO t = some o) ∨ ((tK t = 0 ∨ tK t = 3 ∨ tK t = 7 ∨ tK t = 9) ∧ tO t = none)
def lk (t : Th) : Int32 := if tK t = 1 then oNum (tF t) else oNum (tO t)
def TS (ph : Nat → Rf) (n k : Nat) (t : Th) (M : Md) (i : Nat) : Prop :=
  wfT n t ∧ M.2 1 i = tK t ∧ M.2 2 i = tH t ∧ M.2 3 i = lk t ∧ M.2 4 i = tB t ∧ M.2 5 i = tI t ∧ M.2 6 i = tV t ∧ RR ph n k (tD t) (M.2 7 i, M.2 8 i) ∧ ∀ q, q < 4 → RR ph n k (tS t q) (M.2 9 (4 * i + q), M.2 10 (4 * i + q))
def MSm (ph : Nat → Rf) (n k : Nat) (th : Nat → Th) (m : Ms) (M : Md) (j : Nat) : Prop :=
  (∃ v, v < 16 ∧ mV m = nI v) ∧ M.2 18 j = mV m ∧ RR ph n k (mT m) (M.2 16 j, M.2 17 j) ∧ RR ph n k (mA m) (M.2 19 j, M.2 20 j) ∧ (mW m).length ≤ 8 ∧ M.2 24 j = nI (mW m).length ∧ ∀ x p, (mW m)[x]? = some p → p < n ∧ ∃ o, o < n ∧ tO (th p) = some o ∧ M.2 25 (8 * j + x) = nI o ∧ M.2 26 (8 * j + x) = tI (th p)
def Sm (ph : Nat → Rf) (s : St) (M : Md) : Prop := (sN s ≤ 40 ∧ sK s ≤ 200) ∧ good s ∧ CH (sK s) ph (fun j => mN (sM s j)) ∧ CH (sK s) ph (dAns M) ∧ PH ph (sN s) (sK s) ∧ (M.1 0 = nI (sN s) ∧ M.1 11 = nI (sK s)) ∧ (∀ i, i < sN s → TS ph (sN s) (sK s) (sT s i) M i) ∧ (∀ j, j < sK s → MSm ph (sN s) (sK s) (sT s) (sM s j) M j) ∧ ∀ q, 4 * sN s ≤ q → q < 160 → M.2 10 q = 0
def Fr (M M' : Md) : Prop := M'.1 15 = M.1 15 ∧ ∀ j, M'.2 12 j = M.2 12 j ∧ M'.2 13 j = M.2 13 j ∧ M'.2 14 j = M.2 14 j
theorem Fr.rf {M : Md} : Fr M M := ⟨rfl, fun _ => ⟨rfl, rfl, rfl⟩⟩
theorem Fr.tr {M M' M'' : Md} (h : Fr M M') (h' : Fr M' M'') : Fr M M'' := ⟨h'.1.trans h.1, fun j => ⟨(h'.2 j).1.trans (h.2 j).1, (h'.2 j).2.1.trans (h.2 j).2.1, (h'.2 j).2.2.trans (h.2 j).2.2⟩⟩
theorem Fr.hold {M M' : Md} {a b : Int32} (h : Fr M M') : Fr M (mHold M' a b) := h
theorem Fr.st {M M' : Md} (h : Fr M M') {f : Nat} {g : Nat → Int32} (hf : f ≠ 12 ∧ f ≠ 13 ∧ f ≠ 14) : Fr M (M'.1, va_up M'.2 f g) := ⟨h.1, fun j => by
  show va_up M'.2 f g 12 j = _ ∧ va_up M'.2 f g 13 j = _ ∧ va_up M'.2 f g 14 j = _
  rw [va_up_ne _ _ (Ne.symm hf.1), va_up_ne _ _ (Ne.symm hf.2.1), va_up_ne _ _ (Ne.symm hf.2.2)]
  exact h.2 j⟩
theorem Fr.make {M M' : Md} (h : Fr M M') {n : Nat} {a b c : Int32} : Fr M (mMake M' n a b c) := ⟨h.1, fun j => by simpa [mMake] using h.2 j⟩
section SIM
variable {ph : Nat → Rf} {n k : Nat} {s : St} {M M' : Md} {r r' : Rf} {t : Th} {i j : Nat}
theorem VV.up1 (h : VV n k r) : VV (n + 1) k r := ⟨h.1, fun q => by obtain ⟨i, hi, e⟩ := h.2.1 q; exact ⟨i, by omega, e⟩, h.2.2⟩
theorem RR.up1 (h : RR ph n k r r') : RR ph (n + 1) k r r' := ⟨h.1.up1, h.2⟩
theorem RA.up1 (h : RA ph n k r r') : RA ph (n + 1) k r r' := ⟨h.1.up1, h.2⟩
theorem RR.a (h : RR ph n k r r') : RA ph n k r r' := ⟨h.1, h.2.1, by rw [h.2.2]⟩
theorem VV.lit {a b : Int32} (h2 : a ≠ 2) (h3 : a ≠ 3) (h0 : (a = 0 ∨ a = 4) → b = 0) : VV n k (a, b) := ⟨fun q => absurd q h3, fun q => absurd q h2, h0⟩
theorem VV.brk : VV n k rB := VV.lit (by decide) (by decide) (fun _ => rfl)
theorem VV.not : VV n k rN := VV.lit (by decide) (by decide) (fun _ => rfl)
theorem VV.num (x : Int32) : VV n k (1, x) := VV.lit (by decide) (by decide) (fun q => by rcases q with q | q <;> exact absurd q (by decide))
theorem VV.obj (h : i < n) : VV n k (2, nI i) := ⟨fun q => absurd (show (2 : Int32) = 3 from q) (by decide), fun _ => ⟨i, h, rfl⟩, fun q => by rcases q with q | q <;> cases q⟩
theorem VV.pro (h : j < k) : VV n k (3, nI j) := ⟨fun _ => ⟨j, h, rfl⟩, fun q => absurd (show (3 : Int32) = 2 from q) (by decide), fun q => by rcases q with q | q <;> cases q⟩
theorem RR.same (h : VV n k r) : RR ph n k r r := ⟨h, h.1, rfl⟩
theorem VV.can (hp : PH ph n k) (hk : k ≤ 200) (h : VV n k r) : VV n k (can ph r) := by
  by_cases h3 : r.1 = 3
  · obtain ⟨j, hj, rfl⟩ := vR_eq h.1 h3
    rw [can_p (by omega)]
    exact (hp j hj).1
  · rw [can_n h3]; exact h
/-- what counts is unresolved, or no promise -/
theorem CH.opn {ans : Nat → Option Rf} (h : CH k ph ans) (hk : k ≤ 200) : ∀ j, j < k → (ph j).1 = 3 → ∃ x, x < k ∧ ans x = none ∧ ph j = (3, nI x) := by
  obtain ⟨h1, h2, rk, h3⟩ := h
  have : ∀ N j, j < k → rk j < N → (ph j).1 = 3 → ∃ x, x < k ∧ ans x = none ∧ ph j = (3, nI x) := by
    intro N
    induction N with
    | zero => intro j _ h; exact absurd h (Nat.not_lt_zero _)
    | succ N ih =>
      intro j hj hr hp
      cases ha : ans j with
      | none => exact ⟨j, hj, ha, h1 j hj ha⟩
      | some a =>
        obtain ⟨e1, e2⟩ := h2 j a hj ha
        by_cases h3a : a.1 = 3
        · obtain ⟨x, hx, rfl⟩ := vR_eq e2 h3a
          have hlt := h3 j _ hj ha rfl
          rw [show ((3, nI x) : Rf).2.toNatClampNeg = x from nI_clamp (by omega)] at hlt
          rw [can_p (by omega)] at e1
          rw [e1] at hp ⊢
          exact ih x hx (by omega) hp
        · rw [can_n h3a] at e1
          rw [e1] at hp
          exact absurd hp h3a
  exact fun j hj hp => this (rk j + 1) j hj (Nat.lt_succ_self _) hp
theorem CH.idem {ans : Nat → Option Rf} (h : CH k ph ans) (hk : k ≤ 200) {r : Rf} (hv : vR k r) : can ph (can ph r) = can ph r := by
  by_cases h3 : r.1 = 3
  · obtain ⟨j, hj, rfl⟩ := vR_eq hv h3
    rw [can_p (by omega)]
    by_cases hp : (ph j).1 = 3
    · obtain ⟨x, hx, hn, e⟩ := h.opn hk j hj hp
      rw [e, can_p (by omega), h.1 x hx hn]
    · rw [can_n hp]
  · rw [can_n h3, can_n h3]
theorem CH.none_iff {ans : Nat → Option Rf} (h : CH k ph ans) (hk : k ≤ 200) (hj : j < k) : ans j = none ↔ ph j = (3, nI j) := by
  refine ⟨h.1 j hj, fun e => ?_⟩
  obtain ⟨x, hx, hn, e'⟩ := h.opn hk j hj (by rw [e])
  rw [e] at e'
  rw [nI_inj (by omega) (by omega) (congrArg Prod.snd e')]
  exact hn
theorem Sm.n40 (S : Sm ph s M) : sN s ≤ 40 := S.1.1
theorem Sm.k200 (S : Sm ph s M) : sK s ≤ 200 := S.1.2
theorem Sm.gd (S : Sm ph s M) : good s := S.2.1
theorem Sm.c1 (S : Sm ph s M) : CH (sK s) ph (fun j => mN (sM s j)) := S.2.2.1
theorem Sm.c2 (S : Sm ph s M) : CH (sK s) ph (dAns M) := S.2.2.2.1
theorem Sm.hp (S : Sm ph s M) : PH ph (sN s) (sK s) := S.2.2.2.2.1
theorem Sm.hn (S : Sm ph s M) : M.1 0 = nI (sN s) := S.2.2.2.2.2.1.1
theorem Sm.hk (S : Sm ph s M) : M.1 11 = nI (sK s) := S.2.2.2.2.2.1.2
theorem Sm.tt (S : Sm ph s M) (h : i < sN s) : TS ph (sN s) (sK s) (sT s i) M i := S.2.2.2.2.2.2.1 i h
theorem Sm.m (S : Sm ph s M) (h : j < sK s) : MSm ph (sN s) (sK s) (sT s) (sM s j) M j := S.2.2.2.2.2.2.2.1 j h
theorem Sm.z (S : Sm ph s M) {q : Nat} (h : 4 * sN s ≤ q) (h' : q < 160) : M.2 10 q = 0 := S.2.2.2.2.2.2.2.2 q h h'
theorem Sm.cntE (S : Sm ph s M) (h : VV (sN s) (sK s) r) : cnt s r = can ph r := cnt_can S.c1 S.k200 h.1
theorem Sm.hold {a b : Int32} (S : Sm ph s M) : Sm ph s (mHold M a b) := S
theorem Sm.tOfE (S : Sm ph s M) (h : VV (sN s) (sK s) r) : tOf s r = if (can ph r).1 = 2 then some (can ph r).2.toNatClampNeg else none := by
  unfold tOf
  rw [S.cntE h]
  by_cases h2 : (can ph r).1 = 2
  · rw [if_pos h2, if_pos h2]
    obtain ⟨i, hi, e⟩ := (h.can S.hp S.k200).2.1 h2
    have := S.n40
    rw [e, ixO_some (by omega) hi, nI_clamp (by omega)]
  · rw [if_neg h2, if_neg h2]
theorem Sm.aOfE (S : Sm ph s M) (h : VV (sN s) (sK s) r) : aOf s r = if (can ph r).1 = 3 then some (can ph r).2.toNatClampNeg else none := by
  unfold aOf
  rw [S.cntE h]
  by_cases h2 : (can ph r).1 = 3
  · rw [if_pos h2, if_pos h2]
    obtain ⟨i, hi, e⟩ := (h.can S.hp S.k200).1 h2
    have := S.k200
    rw [e, ixO_some (by omega) hi, nI_clamp (by omega)]
  · rw [if_neg h2, if_neg h2]
/-- rows left as they were -/
def eqT (M M' : Md) (i : Nat) : Prop := (M'.2 1 i = M.2 1 i ∧ M'.2 2 i = M.2 2 i ∧ M'.2 3 i = M.2 3 i ∧ M'.2 4 i = M.2 4 i ∧ M'.2 5 i = M.2 5 i ∧ M'.2 6 i = M.2 6 i ∧ M'.2 7 i = M.2 7 i ∧ M'.2 8 i = M.2 8 i) ∧ ∀ q, q < 4 → M'.2 9 (4 * i + q) = M.2 9 (4 * i + q) ∧ M'.2 10 (4 * i + q) = M.2 10 (4 * i + q)
def eqM (M M' : Md) (j : Nat) : Prop := (M'.2 16 j = M.2 16 j ∧ M'.2 17 j = M.2 17 j ∧ M'.2 18 j = M.2 18 j ∧ M'.2 19 j = M.2 19 j ∧ M'.2 20 j = M.2 20 j ∧ M'.2 24 j = M.2 24 j) ∧ ∀ q, q < 8 → M'.2 25 (8 * j + q) = M.2 25 (8 * j + q) ∧ M'.2 26 (8 * j + q) = M.2 26 (8 * j + q)
def eqA (M M' : Md) (j : Nat) : Prop := M'.2 21 j = M.2 21 j ∧ M'.2 22 j = M.2 22 j ∧ M'.2 23 j = M.2 23 j
theorem eqT.rf : eqT M M i := ⟨⟨rfl, rfl, rfl, rfl, rfl, rfl, rfl, rfl⟩, fun _ _ => ⟨rfl, rfl⟩⟩
theorem eqM.rf : eqM M M j := ⟨⟨rfl, rfl, rfl, rfl, rfl, rfl⟩, fun _ _ => ⟨rfl, rfl⟩⟩
theorem va_up_at {f c i : Nat} {F : Nat → Nat → Int32} {g : Nat → Int32} (h : f = c → g i = F c i) : va_up F f g c i = F c i := by
  by_cases hc : c = f
  · subst hc; rw [va_up_self]; exact h rfl
  · rw [va_up_ne _ _ hc]
theorem eqT.st {M0 : Md} (h : eqT M0 M i) {f : Nat} {g : Nat → Int32} (hg : f ≠ 9 → f ≠ 10 → f < 11 → g i = M.2 f i) (hs : f = 9 ∨ f = 10 → ∀ q, q < 4 → g (4 * i + q) = M.2 f (4 * i + q)) : eqT M0 (M.1, va_up M.2 f g) i := by
  refine ⟨⟨?_, ?_, ?_, ?_, ?_, ?_, ?_, ?_⟩, fun q hq => ⟨?_, ?_⟩⟩
  · exact (va_up_at (fun e => by subst e; exact hg (by decide) (by decide) (by decide))).trans h.1.1
  · exact (va_up_at (fun e => by subst e; exact hg (by decide) (by decide) (by decide))).trans h.1.2.1
  · exact (va_up_at (fun e => by subst e; exact hg (by decide) (by decide) (by decide))).trans h.1.2.2.1
  · exact (va_up_at (fun e => by subst e; exact hg (by decide) (by decide) (by decide))).trans h.1.2.2.2.1
  · exact (va_up_at (fun e => by subst e; exact hg (by decide) (by decide) (by decide))).trans h.1.2.2.2.2.1
  · exact (va_up_at (fun e => by subst e; exact hg (by decide) (by decide) (by decide))).trans h.1.2.2.2.2.2.1
  · exact (va_up_at (fun e => by subst e; exact hg (by decide) (by decide) (by decide))).trans h.1.2.2.2.2.2.2.1
  · exact (va_up_at (fun e => by subst e; exact hg (by decide) (by decide) (by decide))).trans h.1.2.2.2.2.2.2.2
  · exact (va_up_at (fun e => by subst e; exact hs (Or.inl rfl) q hq)).trans (h.2 q hq).1
  · exact (va_up_at (fun e => by subst e; exact hs (Or.inr rfl) q hq)).trans (h.2 q hq).2
/-- another row written, or a field of messages -/
theorem eqT.o {M0 : Md} (h : eqT M0 M i) {f a : Nat} {x : Int32} (hf : f < 9) (ha : i ≠ a) : eqT M0 (M.1, va_up M.2 f (va_up (M.2 f) a x)) i := h.st (fun _ _ _ => va_up_ne _ _ ha) (fun q => by omega)
theorem eqT.sl {M0 : Md} (h : eqT M0 M i) {f a : Nat} {x : Int32} (hf : f = 9 ∨ f = 10) (ha : ∀ q, q < 4 → 4 * i + q ≠ a) : eqT M0 (M.1, va_up M.2 f (va_up (M.2 f) a x)) i := h.st (fun a b => by omega) (fun _ q hq => va_up_ne _ _ (ha q hq))
theorem eqT.ms {M0 : Md} (h : eqT M0 M i) {f : Nat} {g : Nat → Int32} (hf : 10 < f) : eqT M0 (M.1, va_up M.2 f g) i := h.st (fun _ _ q => by omega) (fun q => by omega)
theorem eqM.st {M0 : Md} (h : eqM M0 M j) {f : Nat} {g : Nat → Int32} (hg : 16 ≤ f → f ≤ 24 → g j = M.2 f j) (hs : f = 25 ∨ f = 26 → ∀ q, q < 8 → g (8 * j + q) = M.2 f (8 * j + q)) : eqM M0 (M.1, va_up M.2 f g) j := by
  refine ⟨⟨?_, ?_, ?_, ?_, ?_, ?_⟩, fun q hq => ⟨?_, ?_⟩⟩
  · exact (va_up_at (fun e => by subst e; exact hg (by decide) (by decide))).trans h.1.1
  · exact (va_up_at (fun e => by subst e; exact hg (by decide) (by decide))).trans h.1.2.1
  · exact (va_up_at (fun e => by subst e; exact hg (by decide) (by decide))).trans h.1.2.2.1
  · exact (va_up_at (fun e => by subst e; exact hg (by decide) (by decide))).trans h.1.2.2.2.1
  · exact (va_up_at (fun e => by subst e; exact hg (by decide) (by decide))).trans h.1.2.2.2.2.1
  · exact (va_up_at (fun e => by subst e; exact hg (by decide) (by decide))).trans h.1.2.2.2.2.2
  · exact (va_up_at (fun e => by subst e; exact hs (Or.inl rfl) q hq)).trans (h.2 q hq).1
  · exact (va_up_at (fun e => by subst e; exact hs (Or.inr rfl) q hq)).trans (h.2 q hq).2
theorem eqM.o {M0 : Md} (h : eqM M0 M j) {f a : Nat} {x : Int32} (hf : f < 25) (ha : j ≠ a) : eqM M0 (M.1, va_up M.2 f (va_up (M.2 f) a x)) j := h.st (fun _ _ => va_up_ne _ _ ha) (fun q => by omega)
theorem eqM.ts {M0 : Md} (h : eqM M0 M j) {f : Nat} {g : Nat → Int32} (hf : f < 16 ∨ (20 < f ∧ f < 24)) : eqM M0 (M.1, va_up M.2 f g) j := by
  refine ⟨⟨?_, ?_, ?_, ?_, ?_, ?_⟩, fun q hq => ⟨?_, ?_⟩⟩
  · exact (va_up_at (fun e => by omega)).trans h.1.1
  · exact (va_up_at (fun e => by omega)).trans h.1.2.1
  · exact (va_up_at (fun e => by omega)).trans h.1.2.2.1
  · exact (va_up_at (fun e => by omega)).trans h.1.2.2.2.1
  · exact (va_up_at (fun e => by omega)).trans h.1.2.2.2.2.1
  · exact (va_up_at (fun e => by omega)).trans h.1.2.2.2.2.2
  · exact (va_up_at (fun e => by omega)).trans (h.2 q hq).1
  · exact (va_up_at (fun e => by omega)).trans (h.2 q hq).2
theorem eqT.make {M0 : Md} (h : eqT M0 M i) {n : Nat} {a b c : Int32} (hi : i < n) : eqT M0 (mMake M n a b c) i := by
  have hne : ¬ i = n := by omega
  refine ⟨by simpa [mMake, hne] using h.1, fun q hq => ⟨?_, ?_⟩⟩
  · have h9 : ¬ (4 * n ≤ 4 * i + q ∧ 4 * i + q < 4 * n + 4) := by omega
    simpa [mMake, h9] using (h.2 q hq).1
  · simpa [mMake] using (h.2 q hq).2
theorem eqM.make {M0 : Md} (h : eqM M0 M j) {n : Nat} {a b c : Int32} : eqM M0 (mMake M n a b c) j := by
  refine ⟨by simpa [mMake] using h.1, fun q hq => ⟨?_, ?_⟩⟩
  · simpa [mMake] using (h.2 q hq).1
  · simpa [mMake] using (h.2 q hq).2
theorem TS.eq (h : TS ph n k t M i) (e : eqT M M' i) : TS ph n k t M' i := by
  obtain ⟨⟨e1, e2, e3, e4, e5, e6, e7, e8⟩, es⟩ := e
  obtain ⟨h0, h1, h2, h3, h4, h5, h6, h7, h8⟩ := h
  refine ⟨h0, e1.trans h1, e2.trans h2, e3.trans h3, e4.trans h4, e5.trans h5, e6.trans h6, by rw [e7, e8]; exact h7, fun q hq => ?_⟩
  rw [(es q hq).1, (es q hq).2]
  exact h8 q hq
theorem wfT.up1 (h : wfT n t) : wfT (n + 1) t := by
  rcases h with ⟨a, b, o, c, d⟩ | ⟨a, o, c, d⟩ | h
  · exact Or.inl ⟨a, b, o, by omega, d⟩
  · exact Or.inr (Or.inl ⟨a, o, by omega, d⟩)
  · exact Or.inr (Or.inr h)
theorem TS.up1 (h : TS ph n k t M i) : TS ph (n + 1) k t M i := ⟨h.1.up1, h.2.1, h.2.2.1, h.2.2.2.1, h.2.2.2.2.1, h.2.2.2.2.2.1, h.2.2.2.2.2.2.1, h.2.2.2.2.2.2.2.1.up1, fun q hq => (h.2.2.2.2.2.2.2.2 q hq).up1⟩
theorem MSm.eq {th : Nat → Th} {m : Ms} (h : MSm ph n k th m M j) (e : eqM M M' j) : MSm ph n k th m M' j := by
  obtain ⟨⟨e1, e2, e3, e4, e5, e6⟩, es⟩ := e
  obtain ⟨h0, h1, h2, h3, h4, h5, h6⟩ := h
  refine ⟨h0, e3.trans h1, by rw [e1, e2]; exact h2, by rw [e4, e5]; exact h3, h4, e6.trans h5, fun x p hp => ?_⟩
  have hx : x < 8 := by have := (List.getElem?_eq_some_iff.mp hp).1; omega
  rw [(es x hx).1, (es x hx).2]
  exact h6 x p hp
theorem MSm.th {th th' : Nat → Th} {m : Ms} (h : MSm ph n k th m M j) (e : ∀ p, p < n → tO (th' p) = tO (th p) ∧ tI (th' p) = tI (th p)) : MSm ph n k th' m M j := ⟨h.1, h.2.1, h.2.2.1, h.2.2.2.1, h.2.2.2.2.1, h.2.2.2.2.2.1, fun x p hp => by
  obtain ⟨a, o, b, c, d⟩ := h.2.2.2.2.2.2 x p hp
  exact ⟨a, o, b, by rw [(e p a).1]; exact c, by rw [(e p a).2]; exact d⟩⟩
theorem MSm.up1 {th : Nat → Th} {m : Ms} (h : MSm ph n k th m M j) : MSm ph (n + 1) k th m M j := ⟨h.1, h.2.1, h.2.2.1.up1, h.2.2.2.1.up1, h.2.2.2.2.1, h.2.2.2.2.2.1, fun x p hp => by
  obtain ⟨a, o, b, c⟩ := h.2.2.2.2.2.2 x p hp
  exact ⟨by omega, o, by omega, c⟩⟩
theorem CH.eq {a a' : Nat → Option Rf} (h : CH k ph a) (e : ∀ j, j < k → a' j = a j) : CH k ph a' :=
  ⟨fun j hj q => h.1 j hj (by rw [← e j hj]; exact q), fun j x hj q => h.2.1 j x hj (by rw [← e j hj]; exact q), by
    obtain ⟨rk, hr⟩ := h.2.2
    exact ⟨rk, fun j x hj q => hr j x hj (by rw [← e j hj]; exact q)⟩⟩
theorem dAns_eq (e : eqA M M' j) : dAns M' j = dAns M j := by unfold dAns; rw [e.1, e.2.1, e.2.2]
theorem Sm.add (S : Sm ph s M) (h40 : sN s < 40) {t : Th} (hg : goodT t) (h0 : M'.1 0 = nI (sN s + 1)) (h11 : M'.1 11 = M.1 11) (eT : ∀ i, i < sN s → eqT M M' i) (eM : ∀ j, j < sK s → eqM M M' j) (eA : ∀ j, j < sK s → eqA M M' j) (ez : ∀ q, 4 * sN s ≤ q → M'.2 10 q = M.2 10 q) (ht : TS ph (sN s + 1) (sK s) t M' (sN s)) : Sm ph (sN s + 1, va_up (sT s) (sN s) t, s.2.2) M' := by
  refine ⟨⟨h40, S.k200⟩, fun i hi => ?_, S.c1, S.c2.eq (fun j hj => dAns_eq (eA j hj)), fun j hj => ⟨(S.hp j hj).1.up1, (S.hp j hj).2⟩, ⟨h0, h11.trans S.hk⟩, fun i hi => ?_, fun j hj => ?_, fun q hq hq' => ?_⟩
  · show goodT (va_up (sT s) (sN s) t i)
    by_cases h : i = sN s
    · subst h; rw [va_up_self]; exact hg
    · rw [va_up_ne _ _ h]; exact S.gd i (by have hi : i < sN s + 1 := hi; omega)
  · show TS ph (sN s + 1) (sK s) (va_up (sT s) (sN s) t i) M' i
    by_cases h : i = sN s
    · subst h; rw [va_up_self]; exact ht
    · have hi : i < sN s := by have hi : i < sN s + 1 := hi; omega
      rw [va_up_ne _ _ h]; exact ((S.tt hi).eq (eT i hi)).up1
  · exact (((S.m hj).eq (eM j hj)).th (fun p hp => by show tO (va_up (sT s) (sN s) t p) = _ ∧ tI (va_up (sT s) (sN s) t p) = _; rw [va_up_ne _ _ (by omega)]; exact ⟨rfl, rfl⟩)).up1
  · have hq : 4 * (sN s + 1) ≤ q := hq
    rw [ez q (by omega)]
    exact S.z (by omega) hq'
theorem Sm.setT (S : Sm ph s M) (hi : i < sN s) {t : Th} (hg : goodT t) (hO : tO t = tO (sT s i)) (hI : tI t = tI (sT s i)) (h0 : M'.1 0 = M.1 0) (h11 : M'.1 11 = M.1 11) (eT : ∀ i', i' < sN s → i' ≠ i → eqT M M' i') (eM : ∀ j, j < sK s → eqM M M' j) (eA : ∀ j, j < sK s → eqA M M' j) (ez : ∀ q, 4 * sN s ≤ q → M'.2 10 q = M.2 10 q) (ht : TS ph (sN s) (sK s) t M' i) : Sm ph (upT s i t) M' := by
  refine ⟨⟨S.n40, S.k200⟩, fun i' hi' => ?_, S.c1, S.c2.eq (fun j hj => dAns_eq (eA j hj)), S.hp, ⟨h0.trans S.hn, h11.trans S.hk⟩, fun i' hi' => ?_, fun j hj => ?_, fun q hq hq' => (ez q hq).trans (S.z hq hq')⟩
  · show goodT (va_up (sT s) i t i')
    by_cases h : i' = i
    · subst h; rw [va_up_self]; exact hg
    · rw [va_up_ne _ _ h]; exact S.gd i' hi'
  · show TS ph (sN s) (sK s) (va_up (sT s) i t i') M' i'
    by_cases h : i' = i
    · subst h; rw [va_up_self]; exact ht
    · rw [va_up_ne _ _ h]; exact (S.tt hi').eq (eT i' hi' h)
  · refine ((S.m hj).eq (eM j hj)).th (fun p hp => ?_)
    show tO (va_up (sT s) i t p) = _ ∧ tI (va_up (sT s) i t p) = _
    by_cases h : p = i
    · subst h; rw [va_up_self]; exact ⟨hO, hI⟩
    · rw [va_up_ne _ _ h]; exact ⟨rfl, rfl⟩
theorem Sm.setM (S : Sm ph s M) {j : Nat} {m : Ms} (hN : mN m = mN (sM s j)) (h0 : M'.1 0 = M.1 0) (h11 : M'.1 11 = M.1 11) (eT : ∀ i, i < sN s → eqT M M' i) (eM : ∀ j', j' < sK s → j' ≠ j → eqM M M' j') (eA : ∀ j, j < sK s → eqA M M' j) (ez : ∀ q, M'.2 10 q = M.2 10 q) (ht : MSm ph (sN s) (sK s) (sT s) m M' j) : Sm ph (upM s j m) M' := by
  refine ⟨⟨S.n40, S.k200⟩, S.gd, S.c1.eq (fun j' _ => ?_), S.c2.eq (fun j hj => dAns_eq (eA j hj)), S.hp, ⟨h0.trans S.hn, h11.trans S.hk⟩, fun i hi => (S.tt hi).eq (eT i hi), fun j' hj' => ?_, fun q hq hq' => (ez q).trans (S.z hq hq')⟩
  · show mN (va_up (sM s) j m j') = mN (sM s j')
    by_cases h : j' = j
    · subst h; rw [va_up_self]; exact hN
    · rw [va_up_ne _ _ h]
  · show MSm ph (sN s) (sK s) (sT s) (va_up (sM s) j m j') M' j'
    by_cases h : j' = j
    · subst h; rw [va_up_self]; exact ht
    · rw [va_up_ne _ _ h]; exact (S.m hj').eq (eM j' hj' h)
end SIM
end
section
/-! The reference's making and wrapping, beside the other side's. -/
theorem cb_geF {a b : Nat} (h : a < b) (hb : b < 2 ^ 31) : fw_cb .ge (nI a) (nI b) = false := Bool.eq_false_iff.mpr fun q => nI_ge h hb (fw_cb_iff.mp q)
theorem cb_geT {a b : Nat} (h : b ≤ a) (ha : a < 2 ^ 31) : fw_cb .ge (nI a) (nI b) = true := fw_cb_iff.mpr (nI_le h ha)
theorem cb_neF {x : Int32} : fw_cb .ne x x = false := Bool.eq_false_iff.mpr fun q => (fw_cb_iff.mp q) rfl
theorem cb_neT {x y : Int32} (h : x ≠ y) : fw_cb .ne x y = true := fw_cb_iff.mpr h
theorem cb_eqF {x y : Int32} (h : x ≠ y) : fw_cb .eq x y = false := Bool.eq_false_iff.mpr fun q => h (fw_cb_iff.mp q)
theorem cb_eqT {x : Int32} : fw_cb .eq x x = true := fw_cb_iff.mpr rfl
theorem mk_row (M : Md) (n : Nat) (a b c : Int32) : ((mMake M n a b c).2 1 n = a ∧ (mMake M n a b c).2 2 n = b ∧ (mMake M n a b c).2 3 n = c ∧ (mMake M n a b c).2 4 n = 0 ∧ (mMake M n a b c).2 5 n = 0 ∧ (mMake M n a b c).2 6 n = 0 ∧ (mMake M n a b c).2 7 n = 0 ∧ (mMake M n a b c).2 8 n = 0) ∧ (∀ q, q < 4 → (mMake M n a b c).2 9 (4 * n + q) = 0) ∧ (∀ q, (mMake M n a b c).2 10 q = M.2 10 q) ∧ ∀ j, eqA M (mMake M n a b c) j := by
  refine ⟨by simp [mMake], fun q hq => ?_, fun q => by simp [mMake], fun j => by simp [eqA, mMake]⟩
  have : 4 * n ≤ 4 * n + q ∧ 4 * n + q < 4 * n + 4 := by omega
  simp [mMake, this]
section DWR
variable {T : fw_T} {b : Nat} {A : Nat → Nat} {M : Md} {ph : Nat → Rf} {s : St}
theorem Sm.add' (S : Sm ph s M) (h40 : sN s < 40) {t : Th} (hg : goodT t) (hw : wfT (sN s + 1) t) (hs : tS t = fun _ => rN) {M' : Md} {x1 x2 x3 : Int32} (h0 : M'.1 0 = nI (sN s + 1)) (h11 : M'.1 11 = M.1 11) (eT : ∀ i, i < sN s → eqT M M' i) (eM : ∀ j, j < sK s → eqM M M' j) (eA : ∀ j, j < sK s → eqA M M' j) (e9 : ∀ q, M'.2 9 q = (mMake M (sN s) x1 x2 x3).2 9 q) (ez : ∀ q, M'.2 10 q = M.2 10 q)
    (ht : M'.2 1 (sN s) = tK t ∧ M'.2 2 (sN s) = tH t ∧ M'.2 3 (sN s) = lk t ∧ M'.2 4 (sN s) = tB t ∧ M'.2 5 (sN s) = tI t ∧ M'.2 6 (sN s) = tV t) (hD : RR ph (sN s + 1) (sK s) (tD t) (M'.2 7 (sN s), M'.2 8 (sN s))) : Sm ph (sN s + 1, va_up (sT s) (sN s) t, s.2.2) M' := by
  refine S.add h40 hg h0 h11 eT eM eA (fun q _ => ez q) ⟨hw, ht.1, ht.2.1, ht.2.2.1, ht.2.2.2.1, ht.2.2.2.2.1, ht.2.2.2.2.2, hD, fun q hq => ?_⟩
  rw [hs, e9, ez, (mk_row M (sN s) x1 x2 x3).2.1 q hq, S.z (by omega) (by omega)]
  exact RR.same VV.not
theorem eqA.st {M0 M : Md} {j : Nat} (h : eqA M0 M j) {f : Nat} {g : Nat → Int32} (hf : f ≠ 21 ∧ f ≠ 22 ∧ f ≠ 23) : eqA M0 (M.1, va_up M.2 f g) j := by
  refine ⟨?_, ?_, ?_⟩
  · exact (va_up_at (fun e => by omega)).trans h.1
  · exact (va_up_at (fun e => by omega)).trans h.2.1
  · exact (va_up_at (fun e => by omega)).trans h.2.2
theorem eqA.rf {M : Md} {j : Nat} : eqA M M j := ⟨rfl, rfl, rfl⟩
abbrev mFr (M : Md) (n : Nat) (kd hm to : Int32) : Md := if n < 40 then mHold (mMake M n kd hm to) 2 (nI n) else mHold M 4 0
theorem Sm.fresh (S : Sm ph s M) {kd hm : Int32} {ow : Option Nat} (hh : ∃ v, v < 3 ∧ hm = nI v) (hw : wfT (sN s + 1) (newT kd hm ow)) (hk1 : kd ≠ 1) : Sm ph (mkR s kd hm ow).1 (mFr M (sN s) kd hm (oNum ow)) ∧ RR ph (sN (mkR s kd hm ow).1) (sK (mkR s kd hm ow).1) (mkR s kd hm ow).2 ((mFr M (sN s) kd hm (oNum ow)).1 27, (mFr M (sN s) kd hm (oNum ow)).1 28) ∧ Fr M (mFr M (sN s) kd hm (oNum ow)) := by
  unfold mkR make mFr
  by_cases h : sN s < 40
  · rw [if_pos h, if_pos h]
    obtain ⟨⟨r1, r2, r3, r4, r5, r6, r7, r8⟩, r9, r10, rA⟩ := mk_row M (sN s) kd hm (oNum ow)
    refine ⟨?_, RR.same (VV.obj (i := sN s) (Nat.lt_succ_self _)), Fr.rf.make.hold⟩
    refine (S.add' (M' := mMake M (sN s) kd hm (oNum ow)) h ⟨Or.inl rfl, Or.inl rfl, hh⟩ hw rfl rfl rfl (fun i hi => eqT.rf.make hi) (fun j _ => eqM.rf.make) (fun j _ => rA j) (fun _ => rfl) r10 ⟨r1, r2, ?_, r4, r5, r6⟩ ?_).hold
    · rw [r3]; unfold lk; rw [if_neg hk1]
    · rw [r7, r8]; exact RR.same VV.not
  · rw [if_neg h, if_neg h]
    exact ⟨S, RR.same VV.brk, Fr.rf⟩
theorem oNum_lk {t : Th} {o : Nat} (h1 : tK t ≠ 1) (ho : tO t = some o) : lk t = nI o := by unfold lk; rw [if_neg h1, ho]; rfl
/-- the post of a thing that answers -/
def PS (ph : Nat → Rf) (M : Md) (f : St × Rf) : Option fw_V → Md → Prop := fun v M' => v = none ∧ Sm ph f.1 M' ∧ RA ph (sN f.1) (sK f.1) f.2 (M'.1 27, M'.1 28) ∧ Fr M M'
theorem Sm.wK (S : Sm ph s M) {i : Nat} (hi : i < sN s) (h : tK (sT s i) = 2 ∨ tK (sT s i) = 4 ∨ tK (sT s i) = 5 ∨ tK (sT s i) = 6 ∨ tK (sT s i) = 8 ∨ tK (sT s i) = 10) : ∃ o, o < sN s ∧ tO (sT s i) = some o ∧ M.2 3 i = nI o := by
  have ht := S.tt hi
  rcases ht.1 with ⟨a, -⟩ | ⟨a, o, ho, e⟩ | ⟨a, -⟩
  · rw [a] at h; rcases h with h | h | h | h | h | h <;> exact absurd h (by decide)
  · refine ⟨o, ho, e, ?_⟩
    rw [ht.2.2.2.1]
    exact oNum_lk (by intro q; rw [q] at h; rcases h with h | h | h | h | h | h <;> exact absurd h (by decide)) e
  · rcases a with a | a | a | a <;> rw [a] at h <;> rcases h with h | h | h | h | h | h <;> exact absurd h (by decide)
abbrev mWr (M : Md) (n : Nat) (hm to inw a c : Int32) : Md := (let M1 := mHold (mMake M n 10 hm to) 2 (nI n); (M1.1, va_up (va_up (va_up M1.2 5 (va_up (M1.2 5) n inw)) 7 (va_up (M1.2 7) n a)) 8 (va_up (M1.2 8) n c)))
theorem Sm.mkW (S : Sm ph s M) (h : sN s < 40) {mb : Nat} (hmb : mb < sN s) {inw : Int32} (hz : inw = 0 ∨ inw = 1) {c : Rf} (hc : VV (sN s) (sK s) c) : Sm ph (sN s + 1, va_up (sT s) (sN s) (wrT (tH (sT s mb)) mb c inw), s.2.2) (mWr M (sN s) (tH (sT s mb)) (nI mb) inw c.1 c.2) ∧ Fr M (mWr M (sN s) (tH (sT s mb)) (nI mb) inw c.1 c.2) := by
  obtain ⟨⟨r1, r2, r3, r4, r5, r6, r7, r8⟩, r9, r10, rA⟩ := mk_row M (sN s) 10 (tH (sT s mb)) (nI mb)
  refine ⟨?_, ((Fr.rf.make.st (by decide)).st (by decide)).st (by decide)⟩
  refine S.add' (t := wrT (tH (sT s mb)) mb c inw) (M' := mWr M (sN s) (tH (sT s mb)) (nI mb) inw c.1 c.2) h ⟨Or.inl rfl, hz, (S.gd mb hmb).2.2⟩ (Or.inr (Or.inl ⟨Or.inr (Or.inr (Or.inr (Or.inr (Or.inr rfl)))), mb, by omega, rfl⟩)) rfl rfl rfl (fun i hi => ?_) (fun j _ => ?_) (fun j _ => ?_) (x1 := 10) (x2 := tH (sT s mb)) (x3 := nI mb) (fun _ => rfl) r10 ⟨r1, r2, r3, r4, va_up_self _ _ _, r6⟩ ?_
  · exact (((eqT.rf.make hi).o (f := 5) (by decide) (by omega)).o (f := 7) (by decide) (by omega)).o (f := 8) (by decide) (by omega)
  · exact ((eqM.rf.make.ts (f := 5) (by decide)).ts (f := 7) (by decide)).ts (f := 8) (by decide)
  · exact (((rA j).st (f := 5) (by decide)).st (f := 7) (by decide)).st (f := 8) (by decide)
  · refine ⟨hc.up1, ?_, ?_⟩
    · show vR (sK s) (va_up _ _ _ _, va_up _ _ _ _)
      rw [va_up_self, va_up_self]; exact hc.1
    · show can ph c = can ph (va_up _ _ _ _, va_up _ _ _ _)
      rw [va_up_self, va_up_self]
def fwS (s : St) (c : Rf) (mb : Nat) (inw : Int32) : St × Rf := match findW s c mb inw with
  | some i => (s, (2, nI i))
  | none => ((mkW s c mb inw).1, rTo (mkW s c mb inw).2)
def PW (ph : Nat → Rf) (M : Md) (r : Rf) (f : St × Rf) : Option fw_V → Md → Prop := fun v M' => ∃ bb : Bool, v = some (.inl (bI bb)) ∧ Sm ph f.1 M' ∧ Fr M M' ∧ VV (sN f.1) (sK f.1) f.2 ∧ (bb = true → RR ph (sN f.1) (sK f.1) f.2 (M'.1 27, M'.1 28)) ∧ (bb = false → can ph f.2 = can ph r ∧ M' = M)
theorem m_D_wrap (l : Launch) (hT : TOK T) (S : Sm ph s M) {mb : Nat} (hmb : mb < sN s) {inw : Int32} (hz : inw = 0 ∨ inw = 1) {r : Rf} (hr : VV (sN s) (sK s) r) (h27 : M.1 27 = (can ph r).1) (h28 : M.1 28 = (can ph r).2) : CtD l T y_D_wrap W_D_wrap rm_D_wrap b A [.inr (some b), .inl (nI mb), .inl inw] M (PW ph M r (wrapS s r mb inw)) := by
  intro w R
  refine ct_D_wrap rfl (nle rfl) ?_
  intro X hl C E
  have V := hv_D_wrap hT
  suffices JD T G_D_wrap X b A 0 [some (.inr (some b)), some (.inl (nI mb)), some (.inl inw), none, none, none] [] M from this w R
  have n40 := S.n40
  have k200 := S.k200
  have hcc := S.cntE hr
  have hcV := hr.can S.hp k200
  have hci := S.c1.idem k200 hr.1
  have hwr : wrapS s r mb inw = wrapS s r mb inw := rfl
  conv at hwr => rhs; unfold wrapS
  rw [hcc] at hwr
  generalize hcd : can ph r = c at *
  refine jd_get C rfl (fg_D_D_sort V) (u := .inl c.1) (by rw [← h27]; rfl) ?_
  refine jd_get C rfl (fg_D_D_ref V) (u := .inl c.2) (by rw [← h28]; rfl) ?_
  have fin0 : ∀ {b2 : Rf} {s2 : St}, s2 = s → VV (sN s) (sK s) b2 → can ph b2 = c → PW ph M r (s2, b2) (some (.inl 0)) M := by
    rintro b2 s2 rfl h1 h2
    exact ⟨false, rfl, S, Fr.rf, h1, fun q => (by cases q), fun _ => ⟨h2.trans hcd.symm, rfl⟩⟩
  by_cases hs : c.1 = 2 ∨ c.1 = 3
  case neg =>
    rw [if_neg hs] at hwr
    rw [hwr] at E
    refine jd_icmpF C rfl (cb_eqF (fun q => hs (Or.inl q))) ?_
    refine jd_icmpF C rfl (cb_eqF (fun q => hs (Or.inr q))) ?_
    exact jd_iret C E rfl (Or.inr ⟨rfl, Or.inl rfl⟩) (fin0 rfl hcV hci)
  rw [if_pos hs] at hwr
  have search : wrapS s r mb inw = fwS s c mb inw → JD T G_D_wrap X b A 84 [some (.inr (some b)), some (.inl (nI mb)), some (.inl inw), some (.inl c.1), some (.inl c.2), none] [] M := by
    intro hE
    rw [hE] at E
    have loop : ∀ d i M1, i + d = sN s → (∃ x y, M1 = mHold M x y) → fFrom (isW s c mb inw) (sN s) d = findW s c mb inw → JD T G_D_wrap X b A 87 [some (.inr (some b)), some (.inl (nI mb)), some (.inl inw), some (.inl c.1), some (.inl c.2), some (.inl (nI i))] [] M1 := by
      intro d
      induction d with
      | zero =>
        rintro i M1 hi ⟨x, y, rfl⟩ hf
        refine jd_get C rfl (fg_D_D_objects V) (u := .inl (nI (sN s))) (by rw [← S.hn]; rfl) ?_
        refine jd_icmpT C rfl (cb_geT (by omega) (by omega)) ?_
        refine jd_get C rfl (fg_D_D_home V) rfl ?_
        refine jd_ald C hT (f := 2) rfl (by decide) rfl rfl mb rfl (by show mb < 40; omega) ?_
        rw [show (mHold M x y).2 2 mb = tH (sT s mb) from (S.tt hmb).2.2.1]
        refine jd_call C hT rfl (fc_D_D_fresh V (by decide)) (m_D_fresh (M := mHold M x y) _ hT (n := sN s) S.hn n40 10 (tH (sT s mb)) (nI mb)) (As := [.inl 10, .inl (tH (sT s mb)), .inl (nI mb)]) rfl rfl rfl (nle rfl) rfl rfl ?_
        rintro v M' ⟨rfl, rfl⟩
        unfold fwS at E
        rw [← hf] at E
        rw [show fFrom (isW s c mb inw) (sN s) 0 = none from rfl] at E
        dsimp only at E
        unfold mkW at E
        by_cases h40 : sN s < 40
        · rw [if_pos h40] at E ⊢
          dsimp only at E
          refine jd_get C rfl (fg_D_D_sort V) (u := .inl 2) rfl ?_
          refine jd_icmpF C rfl cb_neF ?_
          refine jd_get C rfl (fg_D_D_inward V) rfl ?_
          refine jd_get C rfl (fg_D_D_ref V) (u := .inl (nI (sN s))) rfl ?_
          refine jd_ast C hT (f := 5) rfl (by decide) rfl rfl (sN s) rfl h40 ?_
          refine jd_get C rfl (fg_D_D_ownSort V) rfl ?_
          refine jd_get C rfl (fg_D_D_ref V) (u := .inl (nI (sN s))) rfl ?_
          refine jd_ast C hT (f := 7) rfl (by decide) rfl rfl (sN s) rfl h40 ?_
          refine jd_get C rfl (fg_D_D_own V) rfl ?_
          refine jd_get C rfl (fg_D_D_ref V) (u := .inl (nI (sN s))) rfl ?_
          refine jd_ast C hT (f := 8) rfl (by decide) rfl rfl (sN s) rfl h40 ?_
          obtain ⟨q1, q2⟩ := (S.hold (a := x) (b := y)).mkW h40 hmb hz hcV
          exact jd_iret C E rfl (Or.inr ⟨rfl, Or.inr rfl⟩) ⟨true, rfl, q1, q2, VV.obj (Nat.lt_succ_self _), fun _ => RR.same (VV.obj (i := sN s) (Nat.lt_succ_self _)), fun q => (by cases q)⟩
        · rw [if_neg h40] at E ⊢
          refine jd_get C rfl (fg_D_D_sort V) (u := .inl 4) rfl ?_
          refine jd_icmpT C rfl (by decide) ?_
          exact jd_iret C E rfl (Or.inr ⟨rfl, Or.inr rfl⟩) ⟨true, rfl, S, Fr.rf, VV.brk, fun _ => RR.same VV.brk, fun q => (by cases q)⟩
      | succ d ih =>
        rintro i M1 hi ⟨x, y, rfl⟩ hf
        have hin : i < sN s := by omega
        have ht := S.tt hin
        have hidx : sN s - (d + 1) = i := by omega
        refine jd_get C rfl (fg_D_D_objects V) (u := .inl (nI (sN s))) (by rw [← S.hn]; rfl) ?_
        refine jd_icmpF C rfl (cb_geF (by omega) (by omega)) ?_
        have nxt : ∀ M1, (∃ x y, M1 = mHold M x y) → isW s c mb inw i = false → JD T G_D_wrap X b A 174 [some (.inr (some b)), some (.inl (nI mb)), some (.inl inw), some (.inl c.1), some (.inl c.2), some (.inl (nI i))] [] M1 := by
          intro M1 hM1 hw
          refine jd_goto C rfl ?_
          have := ih (i + 1) M1 (by omega) hM1 (by
            rw [← hf]
            show _ = (if isW s c mb inw (sN s - (d + 1)) = true then _ else _)
            rw [hidx, hw]; rfl)
          rw [← nI_1] at this
          exact this
        refine jd_get C rfl (fg_D_D_kind V) rfl ?_
        refine jd_ald C hT (f := 1) rfl (by decide) rfl rfl i rfl (by show i < 40; omega) ?_
        rw [show (mHold M x y).2 1 i = tK (sT s i) from ht.2.1]
        refine jd_icmp C rfl (fun h => ?_) (fun h => ?_)
        · exact nxt _ ⟨x, y, rfl⟩ (decide_eq_false (fun q => h q.1))
        have h10 : tK (sT s i) = 10 := Classical.not_not.mp h
        obtain ⟨o, ho, eo, e3⟩ := S.wK hin (by simp [h10])
        refine jd_get C rfl (fg_D_D_link V) rfl ?_
        refine jd_ald C hT (f := 3) rfl (by decide) rfl rfl i rfl (by show i < 40; omega) ?_
        rw [show (mHold M x y).2 3 i = nI o from e3]
        refine jd_icmp C rfl (fun h => ?_) (fun h => ?_)
        · exact nxt _ ⟨x, y, rfl⟩ (decide_eq_false (fun q => h (by have := q.2.1; rw [eo] at this; cases this; rfl)))
        have hob : o = mb := nI_inj (by omega) (by omega) (Classical.not_not.mp h)
        subst hob
        refine jd_get C rfl (fg_D_D_inward V) rfl ?_
        refine jd_ald C hT (f := 5) rfl (by decide) rfl rfl i rfl (by show i < 40; omega) ?_
        rw [show (mHold M x y).2 5 i = tI (sT s i) from ht.2.2.2.2.2.1]
        refine jd_icmp C rfl (fun h => ?_) (fun h => ?_)
        · exact nxt _ ⟨x, y, rfl⟩ (decide_eq_false (fun q => h q.2.2.1))
        have hinw : tI (sT s i) = inw := Classical.not_not.mp h
        have hD := ht.2.2.2.2.2.2.2.1
        refine jd_get C rfl (fg_D_D_ownSort V) rfl ?_
        refine jd_ald C hT (f := 7) rfl (by decide) rfl rfl i rfl (by show i < 40; omega) ?_
        refine jd_get C rfl (fg_D_D_own V) rfl ?_
        refine jd_ald C hT (f := 8) rfl (by decide) rfl rfl i rfl (by show i < 40; omega) ?_
        refine jd_call C hT rfl (fc_D_D_look V (by decide)) (m_D_look (M := mHold M x y) _ hT S.c2 k200 (s := M.2 7 i) (v := M.2 8 i) hD.2.1) (As := [.inl (M.2 7 i), .inl (M.2 8 i)]) rfl rfl rfl (nle rfl) rfl rfl ?_
        rintro v M' ⟨rfl, rfl⟩
        rw [mHold2, ← hD.2.2, ← S.cntE hD.1]
        refine jd_get C rfl (fg_D_D_sort V) (u := .inl (cnt s (tD (sT s i))).1) rfl ?_
        refine jd_icmp C rfl (fun h => ?_) (fun h => ?_)
        · exact nxt _ ⟨_, _, rfl⟩ (decide_eq_false (fun q => h (by rw [q.2.2.2])))
        have hq1 : (cnt s (tD (sT s i))).1 = c.1 := Classical.not_not.mp h
        refine jd_get C rfl (fg_D_D_ref V) (u := .inl (cnt s (tD (sT s i))).2) rfl ?_
        refine jd_icmp C rfl (fun h => ?_) (fun h => ?_)
        · exact nxt _ ⟨_, _, rfl⟩ (decide_eq_false (fun q => h (by rw [q.2.2.2])))
        have hq2 : (cnt s (tD (sT s i))).2 = c.2 := Classical.not_not.mp h
        have hw : isW s c o inw i = true := decide_eq_true ⟨h10, eo, hinw, Prod.ext hq1 hq2⟩
        have hfi : findW s c o inw = some i := by
          rw [← hf]
          show (if isW s c o inw (sN s - (d + 1)) = true then _ else _) = _
          rw [hidx, hw]; rfl
        unfold fwS at E
        rw [hfi] at E
        refine jd_call C hT rfl (fc_D_D_hold V (by decide)) (m_D_hold _ hT 2 (nI i)) (As := [.inl 2, .inl (nI i)]) rfl rfl rfl (nle rfl) rfl rfl ?_
        rintro v M' ⟨rfl, rfl⟩
        rw [mHold2]
        exact jd_iret C E rfl (Or.inr ⟨rfl, Or.inr rfl⟩) ⟨true, rfl, S.hold, Fr.rf, VV.obj hin, fun _ => RR.same (VV.obj hin), fun q => (by cases q)⟩
    refine jd_to C 87 rfl ?_
    exact loop (sN s) 0 M (Nat.zero_add _) ⟨M.1 27, M.1 28, Prod.ext (funext fun q => by
      show M.1 q = va_up (va_up M.1 27 (M.1 27)) 28 (M.1 28) q
      by_cases h8 : q = 28
      · subst h8; rw [va_up_self]
      · rw [va_up_ne _ _ h8]
        by_cases h7 : q = 27
        · subst h7; rw [va_up_self]
        · rw [va_up_ne _ _ h7]) rfl⟩ rfl
  have at23 : JD T G_D_wrap X b A 23 [some (.inr (some b)), some (.inl (nI mb)), some (.inl inw), some (.inl c.1), some (.inl c.2), none] [] M := by
    by_cases h2 : c.1 = 2
    case neg =>
      refine jd_icmpT C rfl (cb_neT h2) ?_
      refine search ?_
      rw [hwr, show kOf s 10 c = none by unfold kOf tOf; rw [S.cntE hcV, hci, if_neg h2]]
      rfl
    obtain ⟨i, hi, e2⟩ := hcV.2.1 h2
    have ht := S.tt hi
    have htO : tOf s c = some i := by
      unfold tOf; rw [S.cntE hcV, hci, if_pos h2, e2]; exact ixO_some (by omega) hi
    refine jd_icmpF C rfl (by rw [h2]; decide) ?_
    refine jd_get C rfl (fg_D_D_kind V) rfl ?_
    refine jd_ald C hT (f := 1) rfl (by decide) rfl rfl i e2 (by show i < 40; omega) ?_
    rw [ht.2.1]
    refine jd_icmp C rfl (fun h => ?_) (fun h => ?_)
    · refine search ?_
      rw [hwr, show kOf s 10 c = none by unfold kOf; rw [htO]; exact if_neg h]
      rfl
    have h10 : tK (sT s i) = 10 := Classical.not_not.mp h
    have hkO : kOf s 10 c = some i := by unfold kOf; rw [htO]; exact if_pos h10
    obtain ⟨o, ho, eo, e3⟩ := S.wK hi (by simp [h10])
    refine jd_get C rfl (fg_D_D_link V) rfl ?_
    refine jd_ald C hT (f := 3) rfl (by decide) rfl rfl i e2 (by show i < 40; omega) ?_
    rw [e3]
    refine jd_icmp C rfl (fun h => ?_) (fun h => ?_)
    · refine search ?_
      rw [hwr, hkO]
      dsimp only
      rw [if_neg (fun q => h (by rw [eo] at q; cases q; rfl))]
      rfl
    have hob : o = mb := nI_inj (by omega) (by omega) (Classical.not_not.mp h)
    subst hob
    rw [hkO] at hwr
    dsimp only at hwr
    rw [if_pos eo] at hwr
    dsimp only at hwr
    rw [hwr] at E
    refine jd_get C rfl (fg_D_D_inward V) rfl ?_
    refine jd_ald C hT (f := 5) rfl (by decide) rfl rfl i e2 (by show i < 40; omega) ?_
    rw [ht.2.2.2.2.2.1]
    refine jd_icmp C rfl (fun h => ?_) (fun h => ?_)
    · rw [if_neg h] at E
      have hD := ht.2.2.2.2.2.2.2.1
      refine jd_get C rfl (fg_D_D_ownSort V) rfl ?_
      refine jd_ald C hT (f := 7) rfl (by decide) rfl rfl i e2 (by show i < 40; omega) ?_
      refine jd_get C rfl (fg_D_D_own V) rfl ?_
      refine jd_ald C hT (f := 8) rfl (by decide) rfl rfl i e2 (by show i < 40; omega) ?_
      refine jd_call C hT rfl (fc_D_D_hold V (by decide)) (m_D_hold _ hT (M.2 7 i) (M.2 8 i)) (As := [.inl (M.2 7 i), .inl (M.2 8 i)]) rfl rfl rfl (nle rfl) rfl rfl ?_
      rintro v M' ⟨rfl, rfl⟩
      exact jd_iret C E rfl (Or.inr ⟨rfl, Or.inr rfl⟩) ⟨true, rfl, S.hold, Fr.rf, hD.1, fun _ => hD, fun q => (by cases q)⟩
    · rw [if_pos (Classical.not_not.mp h)] at E
      exact jd_iret C E rfl (Or.inr ⟨rfl, Or.inl rfl⟩) (fin0 rfl hcV hci)
  refine jd_icmp C rfl (fun _ => at23) (fun h => ?_)
  refine jd_icmpT C rfl (by rw [show c.1 = 3 from hs.resolve_left h]; decide) ?_
  exact at23
end DWR
end
