section
-- ===== PART A: goes FIRST, ahead of the names: the tables' words, and 'selects' of the private methods out of them =====
/-- a private method of a class that the tables say can be made, by its rows of tables_1 -/
def lw_okq (q : MethodName × Nat) : Prop := (q.1.cls ≠ "java/lang/invoke/MethodHandle" ∧ q.1.cls ≠ "java/lang/invoke/VarHandle") ∧ Cond.instantiable q.1.cls q.2 ∈ tables_1 ∧ Cond.privateMethod q.1 ∈ tables_1 ∧ Cond.instanceMethod q.1 ∈ tables_1
theorem lw_p0 : lw_okq (⟨"CapabilityVats", "make", "(IILCapabilityVats$Thing;)LCapabilityVats$Thing;"⟩, 8) := ⟨⟨by decide +kernel, by decide +kernel⟩, List.mem_of_getElem? (i := 8) (by decide +kernel), List.mem_of_getElem? (i := 85) (by decide +kernel), List.mem_of_getElem? (i := 86) (by decide +kernel)⟩
theorem lw_p1 : lw_okq (⟨"CapabilityVats", "cellAt", "(I)LCapabilityVats$Thing;"⟩, 8) := ⟨⟨by decide +kernel, by decide +kernel⟩, List.mem_of_getElem? (i := 8) (by decide +kernel), List.mem_of_getElem? (i := 143) (by decide +kernel), List.mem_of_getElem? (i := 144) (by decide +kernel)⟩
theorem lw_p2 : lw_okq (⟨"CapabilityVats", "thingAt", "(I)LCapabilityVats$Thing;"⟩, 8) := ⟨⟨by decide +kernel, by decide +kernel⟩, List.mem_of_getElem? (i := 8) (by decide +kernel), List.mem_of_getElem? (i := 147) (by decide +kernel), List.mem_of_getElem? (i := 148) (by decide +kernel)⟩
theorem lw_p3 : lw_okq (⟨"CapabilityVats", "routeAll", "()V"⟩, 8) := ⟨⟨by decide +kernel, by decide +kernel⟩, List.mem_of_getElem? (i := 8) (by decide +kernel), List.mem_of_getElem? (i := 224) (by decide +kernel), List.mem_of_getElem? (i := 225) (by decide +kernel)⟩
theorem lw_p4 : lw_okq (⟨"CapabilityVats", "route", "(LCapabilityVats$Message;)V"⟩, 8) := ⟨⟨by decide +kernel, by decide +kernel⟩, List.mem_of_getElem? (i := 8) (by decide +kernel), List.mem_of_getElem? (i := 232) (by decide +kernel), List.mem_of_getElem? (i := 233) (by decide +kernel)⟩
theorem lw_p5 : lw_okq (⟨"CapabilityVats", "thingOf", "(LCapabilityVats$Reference;)LCapabilityVats$Thing;"⟩, 8) := ⟨⟨by decide +kernel, by decide +kernel⟩, List.mem_of_getElem? (i := 8) (by decide +kernel), List.mem_of_getElem? (i := 236) (by decide +kernel), List.mem_of_getElem? (i := 237) (by decide +kernel)⟩
theorem lw_p6 : lw_okq (⟨"CapabilityVats", "countsAs", "(LCapabilityVats$Reference;)LCapabilityVats$Reference;"⟩, 8) := ⟨⟨by decide +kernel, by decide +kernel⟩, List.mem_of_getElem? (i := 8) (by decide +kernel), List.mem_of_getElem? (i := 240) (by decide +kernel), List.mem_of_getElem? (i := 241) (by decide +kernel)⟩
theorem lw_p7 : lw_okq (⟨"CapabilityVats", "messageAt", "(I)LCapabilityVats$Message;"⟩, 8) := ⟨⟨by decide +kernel, by decide +kernel⟩, List.mem_of_getElem? (i := 8) (by decide +kernel), List.mem_of_getElem? (i := 244) (by decide +kernel), List.mem_of_getElem? (i := 245) (by decide +kernel)⟩
theorem lw_p8 : lw_okq (⟨"CapabilityVats", "awaitedBy", "(LCapabilityVats$Reference;)LCapabilityVats$Message;"⟩, 8) := ⟨⟨by decide +kernel, by decide +kernel⟩, List.mem_of_getElem? (i := 8) (by decide +kernel), List.mem_of_getElem? (i := 248) (by decide +kernel), List.mem_of_getElem? (i := 249) (by decide +kernel)⟩
theorem lw_p9 : lw_okq (⟨"CapabilityVats", "settle", "(LCapabilityVats$Message;LCapabilityVats$Reference;)V"⟩, 8) := ⟨⟨by decide +kernel, by decide +kernel⟩, List.mem_of_getElem? (i := 8) (by decide +kernel), List.mem_of_getElem? (i := 252) (by decide +kernel), List.mem_of_getElem? (i := 253) (by decide +kernel)⟩
theorem lw_p10 : lw_okq (⟨"CapabilityVats", "brokenIfNothing", "(LCapabilityVats$Reference;)LCapabilityVats$Reference;"⟩, 8) := ⟨⟨by decide +kernel, by decide +kernel⟩, List.mem_of_getElem? (i := 8) (by decide +kernel), List.mem_of_getElem? (i := 256) (by decide +kernel), List.mem_of_getElem? (i := 257) (by decide +kernel)⟩
theorem lw_p11 : lw_okq (⟨"CapabilityVats", "relay", "(LCapabilityVats$Thing;LCapabilityVats$Message;)V"⟩, 8) := ⟨⟨by decide +kernel, by decide +kernel⟩, List.mem_of_getElem? (i := 8) (by decide +kernel), List.mem_of_getElem? (i := 277) (by decide +kernel), List.mem_of_getElem? (i := 278) (by decide +kernel)⟩
theorem lw_p12 : lw_okq (⟨"CapabilityVats", "wrap", "(LCapabilityVats$Reference;LCapabilityVats$Thing;Z)LCapabilityVats$Reference;"⟩, 8) := ⟨⟨by decide +kernel, by decide +kernel⟩, List.mem_of_getElem? (i := 8) (by decide +kernel), List.mem_of_getElem? (i := 281) (by decide +kernel), List.mem_of_getElem? (i := 282) (by decide +kernel)⟩
theorem lw_p13 : lw_okq (⟨"CapabilityVats", "thingOfKind", "(ILCapabilityVats$Reference;)LCapabilityVats$Thing;"⟩, 8) := ⟨⟨by decide +kernel, by decide +kernel⟩, List.mem_of_getElem? (i := 8) (by decide +kernel), List.mem_of_getElem? (i := 285) (by decide +kernel), List.mem_of_getElem? (i := 286) (by decide +kernel)⟩
theorem lw_p14 : lw_okq (⟨"CapabilityVats", "findWrapper", "(LCapabilityVats$Reference;LCapabilityVats$Thing;Z)LCapabilityVats$Thing;"⟩, 8) := ⟨⟨by decide +kernel, by decide +kernel⟩, List.mem_of_getElem? (i := 8) (by decide +kernel), List.mem_of_getElem? (i := 289) (by decide +kernel), List.mem_of_getElem? (i := 290) (by decide +kernel)⟩
theorem lw_p15 : lw_okq (⟨"CapabilityVats", "makeWrapper", "(LCapabilityVats$Reference;LCapabilityVats$Thing;Z)LCapabilityVats$Thing;"⟩, 8) := ⟨⟨by decide +kernel, by decide +kernel⟩, List.mem_of_getElem? (i := 8) (by decide +kernel), List.mem_of_getElem? (i := 297) (by decide +kernel), List.mem_of_getElem? (i := 298) (by decide +kernel)⟩
def lw_privs_1 : List (MethodName × Nat) := [(⟨"CapabilityVats", "make", "(IILCapabilityVats$Thing;)LCapabilityVats$Thing;"⟩, 8), (⟨"CapabilityVats", "cellAt", "(I)LCapabilityVats$Thing;"⟩, 8), (⟨"CapabilityVats", "thingAt", "(I)LCapabilityVats$Thing;"⟩, 8), (⟨"CapabilityVats", "routeAll", "()V"⟩, 8), (⟨"CapabilityVats", "route", "(LCapabilityVats$Message;)V"⟩, 8), (⟨"CapabilityVats", "thingOf", "(LCapabilityVats$Reference;)LCapabilityVats$Thing;"⟩, 8), (⟨"CapabilityVats", "countsAs", "(LCapabilityVats$Reference;)LCapabilityVats$Reference;"⟩, 8), (⟨"CapabilityVats", "messageAt", "(I)LCapabilityVats$Message;"⟩, 8), (⟨"CapabilityVats", "awaitedBy", "(LCapabilityVats$Reference;)LCapabilityVats$Message;"⟩, 8), (⟨"CapabilityVats", "settle", "(LCapabilityVats$Message;LCapabilityVats$Reference;)V"⟩, 8), (⟨"CapabilityVats", "brokenIfNothing", "(LCapabilityVats$Reference;)LCapabilityVats$Reference;"⟩, 8), (⟨"CapabilityVats", "relay", "(LCapabilityVats$Thing;LCapabilityVats$Message;)V"⟩, 8), (⟨"CapabilityVats", "wrap", "(LCapabilityVats$Reference;LCapabilityVats$Thing;Z)LCapabilityVats$Reference;"⟩, 8), (⟨"CapabilityVats", "thingOfKind", "(ILCapabilityVats$Reference;)LCapabilityVats$Thing;"⟩, 8), (⟨"CapabilityVats", "findWrapper", "(LCapabilityVats$Reference;LCapabilityVats$Thing;Z)LCapabilityVats$Thing;"⟩, 8), (⟨"CapabilityVats", "makeWrapper", "(LCapabilityVats$Reference;LCapabilityVats$Thing;Z)LCapabilityVats$Thing;"⟩, 8)]
theorem lw_r1 : ∀ q ∈ lw_privs_1, lw_okq q := List.forall_mem_cons.mpr ⟨lw_p0, List.forall_mem_cons.mpr ⟨lw_p1, List.forall_mem_cons.mpr ⟨lw_p2, List.forall_mem_cons.mpr ⟨lw_p3, List.forall_mem_cons.mpr ⟨lw_p4, List.forall_mem_cons.mpr ⟨lw_p5, List.forall_mem_cons.mpr ⟨lw_p6, List.forall_mem_cons.mpr ⟨lw_p7, List.forall_mem_cons.mpr ⟨lw_p8, List.forall_mem_cons.mpr ⟨lw_p9, List.forall_mem_cons.mpr ⟨lw_p10, List.forall_mem_cons.mpr ⟨lw_p11, List.forall_mem_cons.mpr ⟨lw_p12, List.forall_mem_cons.mpr ⟨lw_p13, List.forall_mem_cons.mpr ⟨lw_p14, List.forall_mem_cons.mpr ⟨lw_p15, fun _ h => absurd h List.not_mem_nil⟩⟩⟩⟩⟩⟩⟩⟩⟩⟩⟩⟩⟩⟩⟩⟩
theorem lw_p16 : lw_okq (⟨"CapabilityVats", "referenceTo", "(LCapabilityVats$Thing;)LCapabilityVats$Reference;"⟩, 8) := ⟨⟨by decide +kernel, by decide +kernel⟩, List.mem_of_getElem? (i := 8) (by decide +kernel), List.mem_of_getElem? (i := 301) (by decide +kernel), List.mem_of_getElem? (i := 302) (by decide +kernel)⟩
theorem lw_p17 : lw_okq (⟨"CapabilityVats", "answer", "(LCapabilityVats$Thing;LCapabilityVats$Message;)LCapabilityVats$Reference;"⟩, 8) := ⟨⟨by decide +kernel, by decide +kernel⟩, List.mem_of_getElem? (i := 8) (by decide +kernel), List.mem_of_getElem? (i := 309) (by decide +kernel), List.mem_of_getElem? (i := 310) (by decide +kernel)⟩
theorem lw_p18 : lw_okq (⟨"CapabilityVats", "answerOfCell", "(LCapabilityVats$Thing;ILCapabilityVats$Reference;)LCapabilityVats$Reference;"⟩, 8) := ⟨⟨by decide +kernel, by decide +kernel⟩, List.mem_of_getElem? (i := 8) (by decide +kernel), List.mem_of_getElem? (i := 313) (by decide +kernel), List.mem_of_getElem? (i := 314) (by decide +kernel)⟩
theorem lw_p19 : lw_okq (⟨"CapabilityVats", "makeGate", "(LCapabilityVats$Thing;LCapabilityVats$Reference;)LCapabilityVats$Reference;"⟩, 8) := ⟨⟨by decide +kernel, by decide +kernel⟩, List.mem_of_getElem? (i := 8) (by decide +kernel), List.mem_of_getElem? (i := 317) (by decide +kernel), List.mem_of_getElem? (i := 318) (by decide +kernel)⟩
theorem lw_p20 : lw_okq (⟨"CapabilityVats", "answerOfRevocable", "(LCapabilityVats$Thing;I)LCapabilityVats$Reference;"⟩, 8) := ⟨⟨by decide +kernel, by decide +kernel⟩, List.mem_of_getElem? (i := 8) (by decide +kernel), List.mem_of_getElem? (i := 321) (by decide +kernel), List.mem_of_getElem? (i := 322) (by decide +kernel)⟩
theorem lw_p21 : lw_okq (⟨"CapabilityVats", "answerOfBrand", "(LCapabilityVats$Thing;I)LCapabilityVats$Reference;"⟩, 8) := ⟨⟨by decide +kernel, by decide +kernel⟩, List.mem_of_getElem? (i := 8) (by decide +kernel), List.mem_of_getElem? (i := 328) (by decide +kernel), List.mem_of_getElem? (i := 329) (by decide +kernel)⟩
theorem lw_p22 : lw_okq (⟨"CapabilityVats", "makeBox", "(LCapabilityVats$Thing;LCapabilityVats$Reference;)LCapabilityVats$Reference;"⟩, 8) := ⟨⟨by decide +kernel, by decide +kernel⟩, List.mem_of_getElem? (i := 8) (by decide +kernel), List.mem_of_getElem? (i := 332) (by decide +kernel), List.mem_of_getElem? (i := 333) (by decide +kernel)⟩
theorem lw_p23 : lw_okq (⟨"CapabilityVats", "unseal", "(LCapabilityVats$Thing;LCapabilityVats$Reference;)LCapabilityVats$Reference;"⟩, 8) := ⟨⟨by decide +kernel, by decide +kernel⟩, List.mem_of_getElem? (i := 8) (by decide +kernel), List.mem_of_getElem? (i := 336) (by decide +kernel), List.mem_of_getElem? (i := 337) (by decide +kernel)⟩
theorem lw_p24 : lw_okq (⟨"CapabilityVats", "makeMoney", "(LCapabilityVats$Thing;LCapabilityVats$Reference;)LCapabilityVats$Reference;"⟩, 8) := ⟨⟨by decide +kernel, by decide +kernel⟩, List.mem_of_getElem? (i := 8) (by decide +kernel), List.mem_of_getElem? (i := 340) (by decide +kernel), List.mem_of_getElem? (i := 341) (by decide +kernel)⟩
theorem lw_p25 : lw_okq (⟨"CapabilityVats", "isNumberUpTo", "(ILCapabilityVats$Reference;)Z"⟩, 8) := ⟨⟨by decide +kernel, by decide +kernel⟩, List.mem_of_getElem? (i := 8) (by decide +kernel), List.mem_of_getElem? (i := 345) (by decide +kernel), List.mem_of_getElem? (i := 346) (by decide +kernel)⟩
theorem lw_p26 : lw_okq (⟨"CapabilityVats", "answerOfPurse", "(LCapabilityVats$Thing;ILCapabilityVats$Reference;)LCapabilityVats$Reference;"⟩, 8) := ⟨⟨by decide +kernel, by decide +kernel⟩, List.mem_of_getElem? (i := 8) (by decide +kernel), List.mem_of_getElem? (i := 349) (by decide +kernel), List.mem_of_getElem? (i := 350) (by decide +kernel)⟩
theorem lw_p27 : lw_okq (⟨"CapabilityVats", "deposit", "(LCapabilityVats$Thing;LCapabilityVats$Reference;)LCapabilityVats$Reference;"⟩, 8) := ⟨⟨by decide +kernel, by decide +kernel⟩, List.mem_of_getElem? (i := 8) (by decide +kernel), List.mem_of_getElem? (i := 353) (by decide +kernel), List.mem_of_getElem? (i := 354) (by decide +kernel)⟩
theorem lw_p28 : lw_okq (⟨"CapabilityVats", "split", "(LCapabilityVats$Thing;LCapabilityVats$Reference;)LCapabilityVats$Reference;"⟩, 8) := ⟨⟨by decide +kernel, by decide +kernel⟩, List.mem_of_getElem? (i := 8) (by decide +kernel), List.mem_of_getElem? (i := 357) (by decide +kernel), List.mem_of_getElem? (i := 358) (by decide +kernel)⟩
theorem lw_p29 : lw_okq (⟨"CapabilityVats", "wrapAsNoted", "(LCapabilityVats$Reference;LCapabilityVats$Message;)LCapabilityVats$Reference;"⟩, 8) := ⟨⟨by decide +kernel, by decide +kernel⟩, List.mem_of_getElem? (i := 8) (by decide +kernel), List.mem_of_getElem? (i := 361) (by decide +kernel), List.mem_of_getElem? (i := 362) (by decide +kernel)⟩
theorem lw_p30 : lw_okq (⟨"CapabilityVats", "heldAt", "(II)LCapabilityVats$Reference;"⟩, 8) := ⟨⟨by decide +kernel, by decide +kernel⟩, List.mem_of_getElem? (i := 8) (by decide +kernel), List.mem_of_getElem? (i := 381) (by decide +kernel), List.mem_of_getElem? (i := 382) (by decide +kernel)⟩
theorem lw_p31 : lw_okq (⟨"CapabilityVatsModel", "make", "(III)I"⟩, 29) := ⟨⟨by decide +kernel, by decide +kernel⟩, List.mem_of_getElem? (i := 439) (by decide +kernel), List.mem_of_getElem? (i := 542) (by decide +kernel), List.mem_of_getElem? (i := 543) (by decide +kernel)⟩
def lw_privs_2 : List (MethodName × Nat) := [(⟨"CapabilityVats", "referenceTo", "(LCapabilityVats$Thing;)LCapabilityVats$Reference;"⟩, 8), (⟨"CapabilityVats", "answer", "(LCapabilityVats$Thing;LCapabilityVats$Message;)LCapabilityVats$Reference;"⟩, 8), (⟨"CapabilityVats", "answerOfCell", "(LCapabilityVats$Thing;ILCapabilityVats$Reference;)LCapabilityVats$Reference;"⟩, 8), (⟨"CapabilityVats", "makeGate", "(LCapabilityVats$Thing;LCapabilityVats$Reference;)LCapabilityVats$Reference;"⟩, 8), (⟨"CapabilityVats", "answerOfRevocable", "(LCapabilityVats$Thing;I)LCapabilityVats$Reference;"⟩, 8), (⟨"CapabilityVats", "answerOfBrand", "(LCapabilityVats$Thing;I)LCapabilityVats$Reference;"⟩, 8), (⟨"CapabilityVats", "makeBox", "(LCapabilityVats$Thing;LCapabilityVats$Reference;)LCapabilityVats$Reference;"⟩, 8), (⟨"CapabilityVats", "unseal", "(LCapabilityVats$Thing;LCapabilityVats$Reference;)LCapabilityVats$Reference;"⟩, 8), (⟨"CapabilityVats", "makeMoney", "(LCapabilityVats$Thing;LCapabilityVats$Reference;)LCapabilityVats$Reference;"⟩, 8), (⟨"CapabilityVats", "isNumberUpTo", "(ILCapabilityVats$Reference;)Z"⟩, 8), (⟨"CapabilityVats", "answerOfPurse", "(LCapabilityVats$Thing;ILCapabilityVats$Reference;)LCapabilityVats$Reference;"⟩, 8), (⟨"CapabilityVats", "deposit", "(LCapabilityVats$Thing;LCapabilityVats$Reference;)LCapabilityVats$Reference;"⟩, 8), (⟨"CapabilityVats", "split", "(LCapabilityVats$Thing;LCapabilityVats$Reference;)LCapabilityVats$Reference;"⟩, 8), (⟨"CapabilityVats", "wrapAsNoted", "(LCapabilityVats$Reference;LCapabilityVats$Message;)LCapabilityVats$Reference;"⟩, 8), (⟨"CapabilityVats", "heldAt", "(II)LCapabilityVats$Reference;"⟩, 8), (⟨"CapabilityVatsModel", "make", "(III)I"⟩, 29)]
theorem lw_r2 : ∀ q ∈ lw_privs_2, lw_okq q := List.forall_mem_cons.mpr ⟨lw_p16, List.forall_mem_cons.mpr ⟨lw_p17, List.forall_mem_cons.mpr ⟨lw_p18, List.forall_mem_cons.mpr ⟨lw_p19, List.forall_mem_cons.mpr ⟨lw_p20, List.forall_mem_cons.mpr ⟨lw_p21, List.forall_mem_cons.mpr ⟨lw_p22, List.forall_mem_cons.mpr ⟨lw_p23, List.forall_mem_cons.mpr ⟨lw_p24, List.forall_mem_cons.mpr ⟨lw_p25, List.forall_mem_cons.mpr ⟨lw_p26, List.forall_mem_cons.mpr ⟨lw_p27, List.forall_mem_cons.mpr ⟨lw_p28, List.forall_mem_cons.mpr ⟨lw_p29, List.forall_mem_cons.mpr ⟨lw_p30, List.forall_mem_cons.mpr ⟨lw_p31, fun _ h => absurd h List.not_mem_nil⟩⟩⟩⟩⟩⟩⟩⟩⟩⟩⟩⟩⟩⟩⟩⟩
theorem lw_p32 : lw_okq (⟨"CapabilityVatsModel", "isSlot", "(II)Z"⟩, 29) := ⟨⟨by decide +kernel, by decide +kernel⟩, List.mem_of_getElem? (i := 439) (by decide +kernel), List.mem_of_getElem? (i := 550) (by decide +kernel), List.mem_of_getElem? (i := 551) (by decide +kernel)⟩
theorem lw_p33 : lw_okq (⟨"CapabilityVatsModel", "route", "(I)V"⟩, 29) := ⟨⟨by decide +kernel, by decide +kernel⟩, List.mem_of_getElem? (i := 439) (by decide +kernel), List.mem_of_getElem? (i := 562) (by decide +kernel), List.mem_of_getElem? (i := 563) (by decide +kernel)⟩
theorem lw_p34 : lw_okq (⟨"CapabilityVatsModel", "direct", "(I)V"⟩, 29) := ⟨⟨by decide +kernel, by decide +kernel⟩, List.mem_of_getElem? (i := 439) (by decide +kernel), List.mem_of_getElem? (i := 566) (by decide +kernel), List.mem_of_getElem? (i := 567) (by decide +kernel)⟩
theorem lw_p35 : lw_okq (⟨"CapabilityVatsModel", "look", "(II)V"⟩, 29) := ⟨⟨by decide +kernel, by decide +kernel⟩, List.mem_of_getElem? (i := 439) (by decide +kernel), List.mem_of_getElem? (i := 570) (by decide +kernel), List.mem_of_getElem? (i := 571) (by decide +kernel)⟩
theorem lw_p36 : lw_okq (⟨"CapabilityVatsModel", "hold", "(II)V"⟩, 29) := ⟨⟨by decide +kernel, by decide +kernel⟩, List.mem_of_getElem? (i := 439) (by decide +kernel), List.mem_of_getElem? (i := 574) (by decide +kernel), List.mem_of_getElem? (i := 575) (by decide +kernel)⟩
theorem lw_p37 : lw_okq (⟨"CapabilityVatsModel", "stand", "(III)V"⟩, 29) := ⟨⟨by decide +kernel, by decide +kernel⟩, List.mem_of_getElem? (i := 439) (by decide +kernel), List.mem_of_getElem? (i := 578) (by decide +kernel), List.mem_of_getElem? (i := 579) (by decide +kernel)⟩
theorem lw_p38 : lw_okq (⟨"CapabilityVatsModel", "broken", "()V"⟩, 29) := ⟨⟨by decide +kernel, by decide +kernel⟩, List.mem_of_getElem? (i := 439) (by decide +kernel), List.mem_of_getElem? (i := 582) (by decide +kernel), List.mem_of_getElem? (i := 583) (by decide +kernel)⟩
theorem lw_p39 : lw_okq (⟨"CapabilityVatsModel", "settle", "(I)V"⟩, 29) := ⟨⟨by decide +kernel, by decide +kernel⟩, List.mem_of_getElem? (i := 439) (by decide +kernel), List.mem_of_getElem? (i := 586) (by decide +kernel), List.mem_of_getElem? (i := 587) (by decide +kernel)⟩
theorem lw_p40 : lw_okq (⟨"CapabilityVatsModel", "released", "()I"⟩, 29) := ⟨⟨by decide +kernel, by decide +kernel⟩, List.mem_of_getElem? (i := 439) (by decide +kernel), List.mem_of_getElem? (i := 590) (by decide +kernel), List.mem_of_getElem? (i := 591) (by decide +kernel)⟩
theorem lw_p41 : lw_okq (⟨"CapabilityVatsModel", "nth", "(III)I"⟩, 29) := ⟨⟨by decide +kernel, by decide +kernel⟩, List.mem_of_getElem? (i := 439) (by decide +kernel), List.mem_of_getElem? (i := 598) (by decide +kernel), List.mem_of_getElem? (i := 599) (by decide +kernel)⟩
theorem lw_p42 : lw_okq (⟨"CapabilityVatsModel", "answers", "(II)Z"⟩, 29) := ⟨⟨by decide +kernel, by decide +kernel⟩, List.mem_of_getElem? (i := 439) (by decide +kernel), List.mem_of_getElem? (i := 602) (by decide +kernel), List.mem_of_getElem? (i := 603) (by decide +kernel)⟩
theorem lw_p43 : lw_okq (⟨"CapabilityVatsModel", "relays", "(II)Z"⟩, 29) := ⟨⟨by decide +kernel, by decide +kernel⟩, List.mem_of_getElem? (i := 439) (by decide +kernel), List.mem_of_getElem? (i := 606) (by decide +kernel), List.mem_of_getElem? (i := 607) (by decide +kernel)⟩
theorem lw_p44 : lw_okq (⟨"CapabilityVatsModel", "wrap", "(II)Z"⟩, 29) := ⟨⟨by decide +kernel, by decide +kernel⟩, List.mem_of_getElem? (i := 439) (by decide +kernel), List.mem_of_getElem? (i := 610) (by decide +kernel), List.mem_of_getElem? (i := 611) (by decide +kernel)⟩
theorem lw_p45 : lw_okq (⟨"CapabilityVatsModel", "fresh", "(III)V"⟩, 29) := ⟨⟨by decide +kernel, by decide +kernel⟩, List.mem_of_getElem? (i := 439) (by decide +kernel), List.mem_of_getElem? (i := 614) (by decide +kernel), List.mem_of_getElem? (i := 615) (by decide +kernel)⟩
theorem lw_p46 : lw_okq (⟨"CapabilityVatsModel", "ofCell", "(III)V"⟩, 29) := ⟨⟨by decide +kernel, by decide +kernel⟩, List.mem_of_getElem? (i := 439) (by decide +kernel), List.mem_of_getElem? (i := 618) (by decide +kernel), List.mem_of_getElem? (i := 619) (by decide +kernel)⟩
theorem lw_p47 : lw_okq (⟨"CapabilityVatsModel", "ofGuard", "(II)V"⟩, 29) := ⟨⟨by decide +kernel, by decide +kernel⟩, List.mem_of_getElem? (i := 439) (by decide +kernel), List.mem_of_getElem? (i := 622) (by decide +kernel), List.mem_of_getElem? (i := 623) (by decide +kernel)⟩
def lw_privs_3 : List (MethodName × Nat) := [(⟨"CapabilityVatsModel", "isSlot", "(II)Z"⟩, 29), (⟨"CapabilityVatsModel", "route", "(I)V"⟩, 29), (⟨"CapabilityVatsModel", "direct", "(I)V"⟩, 29), (⟨"CapabilityVatsModel", "look", "(II)V"⟩, 29), (⟨"CapabilityVatsModel", "hold", "(II)V"⟩, 29), (⟨"CapabilityVatsModel", "stand", "(III)V"⟩, 29), (⟨"CapabilityVatsModel", "broken", "()V"⟩, 29), (⟨"CapabilityVatsModel", "settle", "(I)V"⟩, 29), (⟨"CapabilityVatsModel", "released", "()I"⟩, 29), (⟨"CapabilityVatsModel", "nth", "(III)I"⟩, 29), (⟨"CapabilityVatsModel", "answers", "(II)Z"⟩, 29), (⟨"CapabilityVatsModel", "relays", "(II)Z"⟩, 29), (⟨"CapabilityVatsModel", "wrap", "(II)Z"⟩, 29), (⟨"CapabilityVatsModel", "fresh", "(III)V"⟩, 29), (⟨"CapabilityVatsModel", "ofCell", "(III)V"⟩, 29), (⟨"CapabilityVatsModel", "ofGuard", "(II)V"⟩, 29)]
theorem lw_r3 : ∀ q ∈ lw_privs_3, lw_okq q := List.forall_mem_cons.mpr ⟨lw_p32, List.forall_mem_cons.mpr ⟨lw_p33, List.forall_mem_cons.mpr ⟨lw_p34, List.forall_mem_cons.mpr ⟨lw_p35, List.forall_mem_cons.mpr ⟨lw_p36, List.forall_mem_cons.mpr ⟨lw_p37, List.forall_mem_cons.mpr ⟨lw_p38, List.forall_mem_cons.mpr ⟨lw_p39, List.forall_mem_cons.mpr ⟨lw_p40, List.forall_mem_cons.mpr ⟨lw_p41, List.forall_mem_cons.mpr ⟨lw_p42, List.forall_mem_cons.mpr ⟨lw_p43, List.forall_mem_cons.mpr ⟨lw_p44, List.forall_mem_cons.mpr ⟨lw_p45, List.forall_mem_cons.mpr ⟨lw_p46, List.forall_mem_cons.mpr ⟨lw_p47, fun _ h => absurd h List.not_mem_nil⟩⟩⟩⟩⟩⟩⟩⟩⟩⟩⟩⟩⟩⟩⟩⟩
theorem lw_p48 : lw_okq (⟨"CapabilityVatsModel", "ofSealer", "(II)V"⟩, 29) := ⟨⟨by decide +kernel, by decide +kernel⟩, List.mem_of_getElem? (i := 439) (by decide +kernel), List.mem_of_getElem? (i := 626) (by decide +kernel), List.mem_of_getElem? (i := 627) (by decide +kernel)⟩
theorem lw_p49 : lw_okq (⟨"CapabilityVatsModel", "ofUnsealer", "(I)V"⟩, 29) := ⟨⟨by decide +kernel, by decide +kernel⟩, List.mem_of_getElem? (i := 439) (by decide +kernel), List.mem_of_getElem? (i := 630) (by decide +kernel), List.mem_of_getElem? (i := 631) (by decide +kernel)⟩
theorem lw_p50 : lw_okq (⟨"CapabilityVatsModel", "isObject", "(I)Z"⟩, 29) := ⟨⟨by decide +kernel, by decide +kernel⟩, List.mem_of_getElem? (i := 439) (by decide +kernel), List.mem_of_getElem? (i := 634) (by decide +kernel), List.mem_of_getElem? (i := 635) (by decide +kernel)⟩
theorem lw_p51 : lw_okq (⟨"CapabilityVatsModel", "ofMint", "(I)V"⟩, 29) := ⟨⟨by decide +kernel, by decide +kernel⟩, List.mem_of_getElem? (i := 439) (by decide +kernel), List.mem_of_getElem? (i := 638) (by decide +kernel), List.mem_of_getElem? (i := 639) (by decide +kernel)⟩
theorem lw_p52 : lw_okq (⟨"CapabilityVatsModel", "ofPurse", "(II)V"⟩, 29) := ⟨⟨by decide +kernel, by decide +kernel⟩, List.mem_of_getElem? (i := 439) (by decide +kernel), List.mem_of_getElem? (i := 643) (by decide +kernel), List.mem_of_getElem? (i := 644) (by decide +kernel)⟩
theorem lw_p53 : lw_okq (⟨"CapabilityVatsModel", "asNoted", "(I)V"⟩, 29) := ⟨⟨by decide +kernel, by decide +kernel⟩, List.mem_of_getElem? (i := 439) (by decide +kernel), List.mem_of_getElem? (i := 647) (by decide +kernel), List.mem_of_getElem? (i := 648) (by decide +kernel)⟩
theorem lw_p54 : lw_okq (⟨"CapabilityVatsModel", "seen", "(II)Z"⟩, 29) := ⟨⟨by decide +kernel, by decide +kernel⟩, List.mem_of_getElem? (i := 439) (by decide +kernel), List.mem_of_getElem? (i := 667) (by decide +kernel), List.mem_of_getElem? (i := 668) (by decide +kernel)⟩
theorem lw_p55 : lw_okq (⟨"CapabilityVatsModel", "count", "(II)I"⟩, 29) := ⟨⟨by decide +kernel, by decide +kernel⟩, List.mem_of_getElem? (i := 439) (by decide +kernel), List.mem_of_getElem? (i := 699) (by decide +kernel), List.mem_of_getElem? (i := 700) (by decide +kernel)⟩
def lw_privs_4 : List (MethodName × Nat) := [(⟨"CapabilityVatsModel", "ofSealer", "(II)V"⟩, 29), (⟨"CapabilityVatsModel", "ofUnsealer", "(I)V"⟩, 29), (⟨"CapabilityVatsModel", "isObject", "(I)Z"⟩, 29), (⟨"CapabilityVatsModel", "ofMint", "(I)V"⟩, 29), (⟨"CapabilityVatsModel", "ofPurse", "(II)V"⟩, 29), (⟨"CapabilityVatsModel", "asNoted", "(I)V"⟩, 29), (⟨"CapabilityVatsModel", "seen", "(II)Z"⟩, 29), (⟨"CapabilityVatsModel", "count", "(II)I"⟩, 29)]
theorem lw_r4 : ∀ q ∈ lw_privs_4, lw_okq q := List.forall_mem_cons.mpr ⟨lw_p48, List.forall_mem_cons.mpr ⟨lw_p49, List.forall_mem_cons.mpr ⟨lw_p50, List.forall_mem_cons.mpr ⟨lw_p51, List.forall_mem_cons.mpr ⟨lw_p52, List.forall_mem_cons.mpr ⟨lw_p53, List.forall_mem_cons.mpr ⟨lw_p54, List.forall_mem_cons.mpr ⟨lw_p55, fun _ h => absurd h List.not_mem_nil⟩⟩⟩⟩⟩⟩⟩⟩
def lw_privs : List (MethodName × Nat) := lw_privs_1 ++ (lw_privs_2 ++ (lw_privs_3 ++ (lw_privs_4)))
def lw_tbl : List Cond := k2_sels lw_privs ++ tables_1
theorem lw_privs_ok : ∀ q ∈ lw_privs, lw_okq q := by
  show ∀ q ∈ lw_privs_1 ++ (lw_privs_2 ++ (lw_privs_3 ++ (lw_privs_4))), lw_okq q
  exact List.forall_mem_append.mpr ⟨lw_r1, List.forall_mem_append.mpr ⟨lw_r2, List.forall_mem_append.mpr ⟨lw_r3, lw_r4⟩⟩⟩
end
section
/-! Names, by program (wip/whole/gen.py) out of the claim's listing. -/
def R_V : String := "CapabilityVats"
def R_R : String := "CapabilityVats$Reference"
def R_H : String := "CapabilityVats$Thing"
def R_M : String := "CapabilityVats$Message"
def R_L : String := "CapabilityVats$Line"
def R_D : String := "CapabilityVatsModel"
def R_W : String := "CapabilityVatsLaw"
def F_V : u_T := fun k => match k with
  | 0 => ("CapabilityVats", "nothing", "LCapabilityVats$Reference;", true)
  | 1 => ("CapabilityVats", "broken", "LCapabilityVats$Reference;", true)
  | 2 => ("CapabilityVats", "things", "[LCapabilityVats$Thing;", true)
  | 3 => ("CapabilityVats", "thingCount", "I", false)
  | 4 => ("CapabilityVats", "sent", "[LCapabilityVats$Message;", true)
  | 5 => ("CapabilityVats", "sentCount", "I", false)
  | 6 => ("CapabilityVats", "queues", "[LCapabilityVats$Line;", true)
  | _ => ("CapabilityVats", "unrouted", "LCapabilityVats$Line;", true)
def t_V : Nat → FieldType := fun k => match k with
  | 0 => (.object "CapabilityVats$Reference")
  | 1 => (.object "CapabilityVats$Reference")
  | 2 => (.array (.object "CapabilityVats$Thing"))
  | 3 => .int
  | 4 => (.array (.object "CapabilityVats$Message"))
  | 5 => .int
  | 6 => (.array (.object "CapabilityVats$Line"))
  | _ => (.object "CapabilityVats$Line")
theorem n_V : ∀ a, a < 8 → ∀ b, b < 8 → a ≠ b → (F_V a).2.1 ≠ (F_V b).2.1 := by decide +kernel
theorem t_V_ok : ∀ k, k < 8 → parseFieldDescriptor (F_V k).2.2.1 = some (t_V k) := by decide +kernel
def F_R : u_T := fun k => match k with
  | 0 => ("CapabilityVats$Reference", "sort", "I", true)
  | _ => ("CapabilityVats$Reference", "index", "I", true)
def t_R : Nat → FieldType := fun k => match k with
  | 0 => .int
  | _ => .int
theorem n_R : ∀ a, a < 2 → ∀ b, b < 2 → a ≠ b → (F_R a).2.1 ≠ (F_R b).2.1 := by decide +kernel
theorem t_R_ok : ∀ k, k < 2 → parseFieldDescriptor (F_R k).2.2.1 = some (t_R k) := by decide +kernel
def F_H : u_T := fun k => match k with
  | 0 => ("CapabilityVats$Thing", "number", "I", true)
  | 1 => ("CapabilityVats$Thing", "kind", "I", true)
  | 2 => ("CapabilityVats$Thing", "home", "I", true)
  | 3 => ("CapabilityVats$Thing", "owner", "LCapabilityVats$Thing;", true)
  | 4 => ("CapabilityVats$Thing", "self", "LCapabilityVats$Reference;", true)
  | 5 => ("CapabilityVats$Thing", "slots", "[LCapabilityVats$Reference;", true)
  | 6 => ("CapabilityVats$Thing", "held", "LCapabilityVats$Reference;", false)
  | 7 => ("CapabilityVats$Thing", "facet", "LCapabilityVats$Thing;", false)
  | 8 => ("CapabilityVats$Thing", "revoked", "Z", false)
  | 9 => ("CapabilityVats$Thing", "inward", "Z", false)
  | _ => ("CapabilityVats$Thing", "balance", "I", false)
def t_H : Nat → FieldType := fun k => match k with
  | 0 => .int
  | 1 => .int
  | 2 => .int
  | 3 => (.object "CapabilityVats$Thing")
  | 4 => (.object "CapabilityVats$Reference")
  | 5 => (.array (.object "CapabilityVats$Reference"))
  | 6 => (.object "CapabilityVats$Reference")
  | 7 => (.object "CapabilityVats$Thing")
  | 8 => .boolean
  | 9 => .boolean
  | _ => .int
theorem n_H : ∀ a, a < 11 → ∀ b, b < 11 → a ≠ b → (F_H a).2.1 ≠ (F_H b).2.1 := by decide +kernel
theorem t_H_ok : ∀ k, k < 11 → parseFieldDescriptor (F_H k).2.2.1 = some (t_H k) := by decide +kernel
def F_M : u_T := fun k => match k with
  | 0 => ("CapabilityVats$Message", "number", "I", true)
  | 1 => ("CapabilityVats$Message", "verb", "I", true)
  | 2 => ("CapabilityVats$Message", "promise", "LCapabilityVats$Reference;", true)
  | 3 => ("CapabilityVats$Message", "waiters", "LCapabilityVats$Line;", true)
  | 4 => ("CapabilityVats$Message", "target", "LCapabilityVats$Reference;", false)
  | 5 => ("CapabilityVats$Message", "argument", "LCapabilityVats$Reference;", false)
  | 6 => ("CapabilityVats$Message", "answer", "LCapabilityVats$Reference;", false)
  | 7 => ("CapabilityVats$Message", "place", "I", false)
  | 8 => ("CapabilityVats$Message", "behind", "LCapabilityVats$Message;", false)
  | 9 => ("CapabilityVats$Message", "passed", "[LCapabilityVats$Thing;", true)
  | _ => ("CapabilityVats$Message", "noteCount", "I", false)
def t_M : Nat → FieldType := fun k => match k with
  | 0 => .int
  | 1 => .int
  | 2 => (.object "CapabilityVats$Reference")
  | 3 => (.object "CapabilityVats$Line")
  | 4 => (.object "CapabilityVats$Reference")
  | 5 => (.object "CapabilityVats$Reference")
  | 6 => (.object "CapabilityVats$Reference")
  | 7 => .int
  | 8 => (.object "CapabilityVats$Message")
  | 9 => (.array (.object "CapabilityVats$Thing"))
  | _ => .int
theorem n_M : ∀ a, a < 11 → ∀ b, b < 11 → a ≠ b → (F_M a).2.1 ≠ (F_M b).2.1 := by decide +kernel
theorem t_M_ok : ∀ k, k < 11 → parseFieldDescriptor (F_M k).2.2.1 = some (t_M k) := by decide +kernel
def F_L : u_T := fun k => match k with
  | 0 => ("CapabilityVats$Line", "first", "LCapabilityVats$Message;", false)
  | 1 => ("CapabilityVats$Line", "last", "LCapabilityVats$Message;", false)
  | _ => ("CapabilityVats$Line", "length", "I", false)
def t_L : Nat → FieldType := fun k => match k with
  | 0 => (.object "CapabilityVats$Message")
  | 1 => (.object "CapabilityVats$Message")
  | _ => .int
theorem n_L : ∀ a, a < 3 → ∀ b, b < 3 → a ≠ b → (F_L a).2.1 ≠ (F_L b).2.1 := by decide +kernel
theorem t_L_ok : ∀ k, k < 3 → parseFieldDescriptor (F_L k).2.2.1 = some (t_L k) := by decide +kernel
def F_D : u_T := fun k => match k with
  | 0 => ("CapabilityVatsModel", "objects", "I", false)
  | 1 => ("CapabilityVatsModel", "kind", "[I", true)
  | 2 => ("CapabilityVatsModel", "home", "[I", true)
  | 3 => ("CapabilityVatsModel", "link", "[I", true)
  | 4 => ("CapabilityVatsModel", "balance", "[I", true)
  | 5 => ("CapabilityVatsModel", "inward", "[I", true)
  | 6 => ("CapabilityVatsModel", "revoked", "[Z", true)
  | 7 => ("CapabilityVatsModel", "ownSort", "[I", true)
  | 8 => ("CapabilityVatsModel", "own", "[I", true)
  | 9 => ("CapabilityVatsModel", "slotSort", "[I", true)
  | 10 => ("CapabilityVatsModel", "slot", "[I", true)
  | 11 => ("CapabilityVatsModel", "messages", "I", false)
  | 12 => ("CapabilityVatsModel", "place", "[I", true)
  | 13 => ("CapabilityVatsModel", "where", "[I", true)
  | 14 => ("CapabilityVatsModel", "stamp", "[I", true)
  | 15 => ("CapabilityVatsModel", "stamps", "I", false)
  | 16 => ("CapabilityVatsModel", "targetSort", "[I", true)
  | 17 => ("CapabilityVatsModel", "target", "[I", true)
  | 18 => ("CapabilityVatsModel", "verb", "[I", true)
  | 19 => ("CapabilityVatsModel", "argumentSort", "[I", true)
  | 20 => ("CapabilityVatsModel", "argument", "[I", true)
  | 21 => ("CapabilityVatsModel", "resolved", "[Z", true)
  | 22 => ("CapabilityVatsModel", "endSort", "[I", true)
  | 23 => ("CapabilityVatsModel", "end", "[I", true)
  | 24 => ("CapabilityVatsModel", "notes", "[I", true)
  | 25 => ("CapabilityVatsModel", "noted", "[I", true)
  | 26 => ("CapabilityVatsModel", "notedInward", "[I", true)
  | 27 => ("CapabilityVatsModel", "sort", "I", false)
  | _ => ("CapabilityVatsModel", "ref", "I", false)
def t_D : Nat → FieldType := fun k => match k with
  | 0 => .int
  | 1 => (.array .int)
  | 2 => (.array .int)
  | 3 => (.array .int)
  | 4 => (.array .int)
  | 5 => (.array .int)
  | 6 => (.array .boolean)
  | 7 => (.array .int)
  | 8 => (.array .int)
  | 9 => (.array .int)
  | 10 => (.array .int)
  | 11 => .int
  | 12 => (.array .int)
  | 13 => (.array .int)
  | 14 => (.array .int)
  | 15 => .int
  | 16 => (.array .int)
  | 17 => (.array .int)
  | 18 => (.array .int)
  | 19 => (.array .int)
  | 20 => (.array .int)
  | 21 => (.array .boolean)
  | 22 => (.array .int)
  | 23 => (.array .int)
  | 24 => (.array .int)
  | 25 => (.array .int)
  | 26 => (.array .int)
  | 27 => .int
  | _ => .int
theorem n_D : ∀ a, a < 29 → ∀ b, b < 29 → a ≠ b → (F_D a).2.1 ≠ (F_D b).2.1 := by decide +kernel
theorem t_D_ok : ∀ k, k < 29 → parseFieldDescriptor (F_D k).2.2.1 = some (t_D k) := by decide +kernel
abbrev cls : List vw_C := [(R_V, F_V, 8), (R_R, F_R, 2), (R_H, F_H, 11), (R_M, F_M, 11), (R_L, F_L, 3), (R_D, F_D, 29)]
abbrev kV : Nat := 0
abbrev kR : Nat := 1
abbrev kT : Nat := 2
abbrev kM : Nat := 3
abbrev kL : Nat := 4
abbrev kD : Nat := 5
abbrev aR : Nat := 0
abbrev aT : Nat := 1
abbrev aM : Nat := 2
abbrev aL : Nat := 3
abbrev aI : Nat := 4
abbrev aZ : Nat := 5
abbrev c_V_init : ByteArray := prog_1_method_1_code
def y_V_init : MethodName := ⟨R_V, "<init>", "()V"⟩
abbrev c_V_cell : ByteArray := prog_1_method_2_code
def y_V_cell : MethodName := ⟨R_V, "cell", "(I)I"⟩
abbrev c_V_number : ByteArray := prog_1_method_3_code
def y_V_number : MethodName := ⟨R_V, "number", "(III)Z"⟩
abbrev c_V_introduce : ByteArray := prog_1_method_4_code
def y_V_introduce : MethodName := ⟨R_V, "introduce", "(III)Z"⟩
abbrev c_V_send : ByteArray := prog_1_method_5_code
def y_V_send : MethodName := ⟨R_V, "send", "(IIIII)I"⟩
abbrev c_V_turn : ByteArray := prog_1_method_6_code
def y_V_turn : MethodName := ⟨R_V, "turn", "(I)I"⟩
abbrev c_V_objects : ByteArray := prog_1_method_7_code
def y_V_objects : MethodName := ⟨R_V, "objects", "()I"⟩
abbrev c_V_kind : ByteArray := prog_1_method_8_code
def y_V_kind : MethodName := ⟨R_V, "kind", "(I)I"⟩
abbrev c_V_home : ByteArray := prog_1_method_9_code
def y_V_home : MethodName := ⟨R_V, "home", "(I)I"⟩
abbrev c_V_what : ByteArray := prog_1_method_10_code
def y_V_what : MethodName := ⟨R_V, "what", "(II)I"⟩
abbrev c_V_which : ByteArray := prog_1_method_11_code
def y_V_which : MethodName := ⟨R_V, "which", "(II)I"⟩
abbrev c_V_detail : ByteArray := prog_1_method_12_code
def y_V_detail : MethodName := ⟨R_V, "detail", "(II)I"⟩
abbrev c_V_messages : ByteArray := prog_1_method_13_code
def y_V_messages : MethodName := ⟨R_V, "messages", "()I"⟩
abbrev c_V_place : ByteArray := prog_1_method_14_code
def y_V_place : MethodName := ⟨R_V, "place", "(I)I"⟩
abbrev c_V_result : ByteArray := prog_1_method_15_code
def y_V_result : MethodName := ⟨R_V, "result", "(I)I"⟩
abbrev c_V_value : ByteArray := prog_1_method_16_code
def y_V_value : MethodName := ⟨R_V, "value", "(I)I"⟩
abbrev c_V_queued : ByteArray := prog_1_method_17_code
def y_V_queued : MethodName := ⟨R_V, "queued", "(I)I"⟩
abbrev c_V_next : ByteArray := prog_1_method_18_code
def y_V_next : MethodName := ⟨R_V, "next", "(II)I"⟩
abbrev c_V_waiting : ByteArray := prog_1_method_19_code
def y_V_waiting : MethodName := ⟨R_V, "waiting", "(I)I"⟩
abbrev c_V_notes : ByteArray := prog_1_method_20_code
def y_V_notes : MethodName := ⟨R_V, "notes", "(I)I"⟩
abbrev c_V_isVat : ByteArray := prog_1_method_21_code
def y_V_isVat : MethodName := ⟨R_V, "isVat", "(I)Z"⟩
abbrev c_V_isSlot : ByteArray := prog_1_method_22_code
def y_V_isSlot : MethodName := ⟨R_V, "isSlot", "(I)Z"⟩
abbrev c_V_isSlotOrNone : ByteArray := prog_1_method_23_code
def y_V_isSlotOrNone : MethodName := ⟨R_V, "isSlotOrNone", "(I)Z"⟩
abbrev c_V_thingAt : ByteArray := prog_1_method_24_code
def y_V_thingAt : MethodName := ⟨R_V, "thingAt", "(I)LCapabilityVats$Thing;"⟩
abbrev c_V_cellAt : ByteArray := prog_1_method_25_code
def y_V_cellAt : MethodName := ⟨R_V, "cellAt", "(I)LCapabilityVats$Thing;"⟩
abbrev c_V_messageAt : ByteArray := prog_1_method_26_code
def y_V_messageAt : MethodName := ⟨R_V, "messageAt", "(I)LCapabilityVats$Message;"⟩
abbrev c_V_heldAt : ByteArray := prog_1_method_27_code
def y_V_heldAt : MethodName := ⟨R_V, "heldAt", "(II)LCapabilityVats$Reference;"⟩
abbrev c_V_firstDetail : ByteArray := prog_1_method_28_code
def y_V_firstDetail : MethodName := ⟨R_V, "firstDetail", "(LCapabilityVats$Thing;)I"⟩
abbrev c_V_secondDetail : ByteArray := prog_1_method_29_code
def y_V_secondDetail : MethodName := ⟨R_V, "secondDetail", "(LCapabilityVats$Thing;)I"⟩
abbrev c_V_countsAs : ByteArray := prog_1_method_30_code
def y_V_countsAs : MethodName := ⟨R_V, "countsAs", "(LCapabilityVats$Reference;)LCapabilityVats$Reference;"⟩
abbrev c_V_thingOf : ByteArray := prog_1_method_31_code
def y_V_thingOf : MethodName := ⟨R_V, "thingOf", "(LCapabilityVats$Reference;)LCapabilityVats$Thing;"⟩
abbrev c_V_awaitedBy : ByteArray := prog_1_method_32_code
def y_V_awaitedBy : MethodName := ⟨R_V, "awaitedBy", "(LCapabilityVats$Reference;)LCapabilityVats$Message;"⟩
abbrev c_V_thingOfKind : ByteArray := prog_1_method_33_code
def y_V_thingOfKind : MethodName := ⟨R_V, "thingOfKind", "(ILCapabilityVats$Reference;)LCapabilityVats$Thing;"⟩
abbrev c_V_isNumberUpTo : ByteArray := prog_1_method_34_code
def y_V_isNumberUpTo : MethodName := ⟨R_V, "isNumberUpTo", "(ILCapabilityVats$Reference;)Z"⟩
abbrev c_V_numeral : ByteArray := prog_1_method_35_code
def y_V_numeral : MethodName := ⟨R_V, "numeral", "(I)LCapabilityVats$Reference;"⟩
abbrev c_V_truth : ByteArray := prog_1_method_36_code
def y_V_truth : MethodName := ⟨R_V, "truth", "(Z)LCapabilityVats$Reference;"⟩
abbrev c_V_brokenIfNothing : ByteArray := prog_1_method_37_code
def y_V_brokenIfNothing : MethodName := ⟨R_V, "brokenIfNothing", "(LCapabilityVats$Reference;)LCapabilityVats$Reference;"⟩
abbrev c_V_referenceTo : ByteArray := prog_1_method_38_code
def y_V_referenceTo : MethodName := ⟨R_V, "referenceTo", "(LCapabilityVats$Thing;)LCapabilityVats$Reference;"⟩
abbrev c_V_settle : ByteArray := prog_1_method_39_code
def y_V_settle : MethodName := ⟨R_V, "settle", "(LCapabilityVats$Message;LCapabilityVats$Reference;)V"⟩
abbrev c_V_routeAll : ByteArray := prog_1_method_40_code
def y_V_routeAll : MethodName := ⟨R_V, "routeAll", "()V"⟩
abbrev c_V_route : ByteArray := prog_1_method_41_code
def y_V_route : MethodName := ⟨R_V, "route", "(LCapabilityVats$Message;)V"⟩
abbrev c_V_relays : ByteArray := prog_1_method_42_code
def y_V_relays : MethodName := ⟨R_V, "relays", "(LCapabilityVats$Thing;LCapabilityVats$Message;)Z"⟩
abbrev c_V_relay : ByteArray := prog_1_method_43_code
def y_V_relay : MethodName := ⟨R_V, "relay", "(LCapabilityVats$Thing;LCapabilityVats$Message;)V"⟩
abbrev c_V_wrapAsNoted : ByteArray := prog_1_method_44_code
def y_V_wrapAsNoted : MethodName := ⟨R_V, "wrapAsNoted", "(LCapabilityVats$Reference;LCapabilityVats$Message;)LCapabilityVats$Reference;"⟩
abbrev c_V_wrap : ByteArray := prog_1_method_45_code
def y_V_wrap : MethodName := ⟨R_V, "wrap", "(LCapabilityVats$Reference;LCapabilityVats$Thing;Z)LCapabilityVats$Reference;"⟩
abbrev c_V_findWrapper : ByteArray := prog_1_method_46_code
def y_V_findWrapper : MethodName := ⟨R_V, "findWrapper", "(LCapabilityVats$Reference;LCapabilityVats$Thing;Z)LCapabilityVats$Thing;"⟩
abbrev c_V_makeWrapper : ByteArray := prog_1_method_47_code
def y_V_makeWrapper : MethodName := ⟨R_V, "makeWrapper", "(LCapabilityVats$Reference;LCapabilityVats$Thing;Z)LCapabilityVats$Thing;"⟩
abbrev c_V_answer : ByteArray := prog_1_method_48_code
def y_V_answer : MethodName := ⟨R_V, "answer", "(LCapabilityVats$Thing;LCapabilityVats$Message;)LCapabilityVats$Reference;"⟩
abbrev c_V_answerOfCell : ByteArray := prog_1_method_49_code
def y_V_answerOfCell : MethodName := ⟨R_V, "answerOfCell", "(LCapabilityVats$Thing;ILCapabilityVats$Reference;)LCapabilityVats$Reference;"⟩
abbrev c_V_answerOfRevocable : ByteArray := prog_1_method_50_code
def y_V_answerOfRevocable : MethodName := ⟨R_V, "answerOfRevocable", "(LCapabilityVats$Thing;I)LCapabilityVats$Reference;"⟩
abbrev c_V_answerOfBrand : ByteArray := prog_1_method_51_code
def y_V_answerOfBrand : MethodName := ⟨R_V, "answerOfBrand", "(LCapabilityVats$Thing;I)LCapabilityVats$Reference;"⟩
abbrev c_V_answerOfPurse : ByteArray := prog_1_method_52_code
def y_V_answerOfPurse : MethodName := ⟨R_V, "answerOfPurse", "(LCapabilityVats$Thing;ILCapabilityVats$Reference;)LCapabilityVats$Reference;"⟩
abbrev c_V_deposit : ByteArray := prog_1_method_53_code
def y_V_deposit : MethodName := ⟨R_V, "deposit", "(LCapabilityVats$Thing;LCapabilityVats$Reference;)LCapabilityVats$Reference;"⟩
abbrev c_V_split : ByteArray := prog_1_method_54_code
def y_V_split : MethodName := ⟨R_V, "split", "(LCapabilityVats$Thing;LCapabilityVats$Reference;)LCapabilityVats$Reference;"⟩
abbrev c_V_unseal : ByteArray := prog_1_method_55_code
def y_V_unseal : MethodName := ⟨R_V, "unseal", "(LCapabilityVats$Thing;LCapabilityVats$Reference;)LCapabilityVats$Reference;"⟩
abbrev c_V_make : ByteArray := prog_1_method_56_code
def y_V_make : MethodName := ⟨R_V, "make", "(IILCapabilityVats$Thing;)LCapabilityVats$Thing;"⟩
abbrev c_V_makeGate : ByteArray := prog_1_method_57_code
def y_V_makeGate : MethodName := ⟨R_V, "makeGate", "(LCapabilityVats$Thing;LCapabilityVats$Reference;)LCapabilityVats$Reference;"⟩
abbrev c_V_makeBox : ByteArray := prog_1_method_58_code
def y_V_makeBox : MethodName := ⟨R_V, "makeBox", "(LCapabilityVats$Thing;LCapabilityVats$Reference;)LCapabilityVats$Reference;"⟩
abbrev c_V_makeMoney : ByteArray := prog_1_method_59_code
def y_V_makeMoney : MethodName := ⟨R_V, "makeMoney", "(LCapabilityVats$Thing;LCapabilityVats$Reference;)LCapabilityVats$Reference;"⟩
abbrev c_D_init : ByteArray := prog_7_method_1_code
def y_D_init : MethodName := ⟨R_D, "<init>", "()V"⟩
abbrev c_D_out : ByteArray := prog_7_method_2_code
def y_D_out : MethodName := ⟨R_D, "out", "(II)Z"⟩
abbrev c_D_hold : ByteArray := prog_7_method_3_code
def y_D_hold : MethodName := ⟨R_D, "hold", "(II)V"⟩
abbrev c_D_look : ByteArray := prog_7_method_4_code
def y_D_look : MethodName := ⟨R_D, "look", "(II)V"⟩
abbrev c_D_broken : ByteArray := prog_7_method_5_code
def y_D_broken : MethodName := ⟨R_D, "broken", "()V"⟩
abbrev c_D_isObject : ByteArray := prog_7_method_6_code
def y_D_isObject : MethodName := ⟨R_D, "isObject", "(I)Z"⟩
abbrev c_D_make : ByteArray := prog_7_method_7_code
def y_D_make : MethodName := ⟨R_D, "make", "(III)I"⟩
abbrev c_D_fresh : ByteArray := prog_7_method_8_code
def y_D_fresh : MethodName := ⟨R_D, "fresh", "(III)V"⟩
abbrev c_D_stand : ByteArray := prog_7_method_9_code
def y_D_stand : MethodName := ⟨R_D, "stand", "(III)V"⟩
abbrev c_D_nth : ByteArray := prog_7_method_10_code
def y_D_nth : MethodName := ⟨R_D, "nth", "(III)I"⟩
abbrev c_D_count : ByteArray := prog_7_method_11_code
def y_D_count : MethodName := ⟨R_D, "count", "(II)I"⟩
abbrev c_D_route : ByteArray := prog_7_method_12_code
def y_D_route : MethodName := ⟨R_D, "route", "(I)V"⟩
abbrev c_D_direct : ByteArray := prog_7_method_13_code
def y_D_direct : MethodName := ⟨R_D, "direct", "(I)V"⟩
abbrev c_D_released : ByteArray := prog_7_method_14_code
def y_D_released : MethodName := ⟨R_D, "released", "()I"⟩
abbrev c_D_settle : ByteArray := prog_7_method_15_code
def y_D_settle : MethodName := ⟨R_D, "settle", "(I)V"⟩
abbrev c_D_isSlot : ByteArray := prog_7_method_16_code
def y_D_isSlot : MethodName := ⟨R_D, "isSlot", "(II)Z"⟩
abbrev c_D_cell : ByteArray := prog_7_method_17_code
def y_D_cell : MethodName := ⟨R_D, "cell", "(I)I"⟩
abbrev c_D_number : ByteArray := prog_7_method_18_code
def y_D_number : MethodName := ⟨R_D, "number", "(III)Z"⟩
abbrev c_D_introduce : ByteArray := prog_7_method_19_code
def y_D_introduce : MethodName := ⟨R_D, "introduce", "(III)Z"⟩
abbrev c_D_send : ByteArray := prog_7_method_20_code
def y_D_send : MethodName := ⟨R_D, "send", "(IIIII)I"⟩
abbrev c_D_turn : ByteArray := prog_7_method_21_code
def y_D_turn : MethodName := ⟨R_D, "turn", "(I)I"⟩
abbrev c_D_answers : ByteArray := prog_7_method_22_code
def y_D_answers : MethodName := ⟨R_D, "answers", "(II)Z"⟩
abbrev c_D_ofCell : ByteArray := prog_7_method_23_code
def y_D_ofCell : MethodName := ⟨R_D, "ofCell", "(III)V"⟩
abbrev c_D_ofGuard : ByteArray := prog_7_method_24_code
def y_D_ofGuard : MethodName := ⟨R_D, "ofGuard", "(II)V"⟩
abbrev c_D_ofSealer : ByteArray := prog_7_method_25_code
def y_D_ofSealer : MethodName := ⟨R_D, "ofSealer", "(II)V"⟩
abbrev c_D_ofUnsealer : ByteArray := prog_7_method_26_code
def y_D_ofUnsealer : MethodName := ⟨R_D, "ofUnsealer", "(I)V"⟩
abbrev c_D_ofMint : ByteArray := prog_7_method_27_code
def y_D_ofMint : MethodName := ⟨R_D, "ofMint", "(I)V"⟩
abbrev c_D_ofPurse : ByteArray := prog_7_method_28_code
def y_D_ofPurse : MethodName := ⟨R_D, "ofPurse", "(II)V"⟩
abbrev c_D_relays : ByteArray := prog_7_method_29_code
def y_D_relays : MethodName := ⟨R_D, "relays", "(II)Z"⟩
abbrev c_D_wrap : ByteArray := prog_7_method_30_code
def y_D_wrap : MethodName := ⟨R_D, "wrap", "(II)Z"⟩
abbrev c_D_asNoted : ByteArray := prog_7_method_31_code
def y_D_asNoted : MethodName := ⟨R_D, "asNoted", "(I)V"⟩
abbrev c_D_objects : ByteArray := prog_7_method_32_code
def y_D_objects : MethodName := ⟨R_D, "objects", "()I"⟩
abbrev c_D_kind : ByteArray := prog_7_method_33_code
def y_D_kind : MethodName := ⟨R_D, "kind", "(I)I"⟩
abbrev c_D_home : ByteArray := prog_7_method_34_code
def y_D_home : MethodName := ⟨R_D, "home", "(I)I"⟩
abbrev c_D_seen : ByteArray := prog_7_method_35_code
def y_D_seen : MethodName := ⟨R_D, "seen", "(II)Z"⟩
abbrev c_D_what : ByteArray := prog_7_method_36_code
def y_D_what : MethodName := ⟨R_D, "what", "(II)I"⟩
abbrev c_D_which : ByteArray := prog_7_method_37_code
def y_D_which : MethodName := ⟨R_D, "which", "(II)I"⟩
abbrev c_D_detail : ByteArray := prog_7_method_38_code
def y_D_detail : MethodName := ⟨R_D, "detail", "(II)I"⟩
abbrev c_D_messages : ByteArray := prog_7_method_39_code
def y_D_messages : MethodName := ⟨R_D, "messages", "()I"⟩
abbrev c_D_place : ByteArray := prog_7_method_40_code
def y_D_place : MethodName := ⟨R_D, "place", "(I)I"⟩
abbrev c_D_result : ByteArray := prog_7_method_41_code
def y_D_result : MethodName := ⟨R_D, "result", "(I)I"⟩
abbrev c_D_value : ByteArray := prog_7_method_42_code
def y_D_value : MethodName := ⟨R_D, "value", "(I)I"⟩
abbrev c_D_queued : ByteArray := prog_7_method_43_code
def y_D_queued : MethodName := ⟨R_D, "queued", "(I)I"⟩
abbrev c_D_next : ByteArray := prog_7_method_44_code
def y_D_next : MethodName := ⟨R_D, "next", "(II)I"⟩
abbrev c_D_waiting : ByteArray := prog_7_method_45_code
def y_D_waiting : MethodName := ⟨R_D, "waiting", "(I)I"⟩
abbrev c_D_notes : ByteArray := prog_7_method_46_code
def y_D_notes : MethodName := ⟨R_D, "notes", "(I)I"⟩
abbrev c_L_init : ByteArray := prog_2_method_1_code
def y_L_init : MethodName := ⟨R_L, "<init>", "()V"⟩
abbrev c_L_join : ByteArray := prog_2_method_2_code
def y_L_join : MethodName := ⟨R_L, "join", "(LCapabilityVats$Message;)V"⟩
abbrev c_L_take : ByteArray := prog_2_method_3_code
def y_L_take : MethodName := ⟨R_L, "take", "()LCapabilityVats$Message;"⟩
abbrev c_L_takeOver : ByteArray := prog_2_method_4_code
def y_L_takeOver : MethodName := ⟨R_L, "takeOver", "(LCapabilityVats$Line;)V"⟩
abbrev c_L_withBefore : ByteArray := prog_2_method_5_code
def y_L_withBefore : MethodName := ⟨R_L, "withBefore", "(I)LCapabilityVats$Message;"⟩
abbrev c_M_init : ByteArray := prog_3_method_1_code
def y_M_init : MethodName := ⟨R_M, "<init>", "(ILCapabilityVats$Reference;ILCapabilityVats$Reference;)V"⟩
abbrev c_M_noteDown : ByteArray := prog_3_method_2_code
def y_M_noteDown : MethodName := ⟨R_M, "noteDown", "(LCapabilityVats$Thing;)V"⟩
abbrev c_R_init : ByteArray := prog_4_method_1_code
def y_R_init : MethodName := ⟨R_R, "<init>", "(II)V"⟩
abbrev c_R_isSame : ByteArray := prog_4_method_2_code
def y_R_isSame : MethodName := ⟨R_R, "isSame", "(LCapabilityVats$Reference;)Z"⟩
abbrev c_H_init : ByteArray := prog_5_method_1_code
def y_H_init : MethodName := ⟨R_H, "<init>", "(IIILCapabilityVats$Thing;LCapabilityVats$Reference;)V"⟩
abbrev c_H_holdsOne : ByteArray := prog_5_method_2_code
def y_H_holdsOne : MethodName := ⟨R_H, "holdsOne", "()Z"⟩
abbrev c_H_isCutOff : ByteArray := prog_5_method_3_code
def y_H_isCutOff : MethodName := ⟨R_H, "isCutOff", "()Z"⟩
/-- the words that all contracts stand on -/
def Wall : List Jvm.Cond := lw_tbl.filter goodWord
theorem wall_good : GoodIn Wall Wall := fun w h => ⟨h, good_of_word (List.mem_filter.mp h).2⟩
theorem in_wall {w : Jvm.Cond} (h : w ∈ tables_1) (g : goodWord w = true) : w ∈ Wall := List.mem_filter.mpr ⟨List.mem_append_right _ h, g⟩
abbrev fw_N1 : Jvm.Cond := .methodLinkNest "CapabilityVats" 46 ⟨"CapabilityVats$Line", "<init>", "()V"⟩ "CapabilityVats"
abbrev fw_N2 : Jvm.Cond := .methodLinkNest "CapabilityVats$Message" 11 ⟨"CapabilityVats$Line", "<init>", "()V"⟩ "CapabilityVats"
abbrev fw_AL : List String := [R_R, R_H, R_M, R_L]
theorem lay_V : ∀ w ∈ u_ws R_V F_V 8, w ∈ Wall := by
  intro w hw
  obtain ⟨k, hk, rfl⟩ := List.mem_map.mp hw
  have hk : k < 8 := List.mem_range.mp hk
  have key : ∀ k, k < 8 → u_lay R_V F_V k ∈ tables_1 ∧ goodWord (u_lay R_V F_V k) = true := by decide +kernel
  exact in_wall (key k hk).1 (key k hk).2
theorem lay_R : ∀ w ∈ u_ws R_R F_R 2, w ∈ Wall := by
  intro w hw
  obtain ⟨k, hk, rfl⟩ := List.mem_map.mp hw
  have hk : k < 2 := List.mem_range.mp hk
  have key : ∀ k, k < 2 → u_lay R_R F_R k ∈ tables_1 ∧ goodWord (u_lay R_R F_R k) = true := by decide +kernel
  exact in_wall (key k hk).1 (key k hk).2
theorem lay_H : ∀ w ∈ u_ws R_H F_H 11, w ∈ Wall := by
  intro w hw
  obtain ⟨k, hk, rfl⟩ := List.mem_map.mp hw
  have hk : k < 11 := List.mem_range.mp hk
  have key : ∀ k, k < 11 → u_lay R_H F_H k ∈ tables_1 ∧ goodWord (u_lay R_H F_H k) = true := by decide +kernel
  exact in_wall (key k hk).1 (key k hk).2
theorem lay_M : ∀ w ∈ u_ws R_M F_M 11, w ∈ Wall := by
  intro w hw
  obtain ⟨k, hk, rfl⟩ := List.mem_map.mp hw
  have hk : k < 11 := List.mem_range.mp hk
  have key : ∀ k, k < 11 → u_lay R_M F_M k ∈ tables_1 ∧ goodWord (u_lay R_M F_M k) = true := by decide +kernel
  exact in_wall (key k hk).1 (key k hk).2
theorem lay_L : ∀ w ∈ u_ws R_L F_L 3, w ∈ Wall := by
  intro w hw
  obtain ⟨k, hk, rfl⟩ := List.mem_map.mp hw
  have hk : k < 3 := List.mem_range.mp hk
  have key : ∀ k, k < 3 → u_lay R_L F_L k ∈ tables_1 ∧ goodWord (u_lay R_L F_L k) = true := by decide +kernel
  exact in_wall (key k hk).1 (key k hk).2
theorem lay_D : ∀ w ∈ u_ws R_D F_D 29, w ∈ Wall := by
  intro w hw
  obtain ⟨k, hk, rfl⟩ := List.mem_map.mp hw
  have hk : k < 29 := List.mem_range.mp hk
  have key : ∀ k, k < 29 → u_lay R_D F_D k ∈ tables_1 ∧ goodWord (u_lay R_D F_D k) = true := by decide +kernel
  exact in_wall (key k hk).1 (key k hk).2
end
section
set_option maxRecDepth 20000 in
theorem wc_V_init : Jvm.Cond.code y_V_init c_V_init 2 (Option.none : Option Jvm.ClassFile.FieldType) ∈ Wall := in_wall (List.mem_of_getElem? (i := 11) rfl) rfl
set_option maxRecDepth 20000 in
theorem wc_V_cell : Jvm.Cond.code y_V_cell c_V_cell 3 (Option.some Jvm.ClassFile.FieldType.int) ∈ Wall := in_wall (List.mem_of_getElem? (i := 80) rfl) rfl
set_option maxRecDepth 20000 in
theorem wc_V_number : Jvm.Cond.code y_V_number c_V_number 5 (Option.some Jvm.ClassFile.FieldType.boolean) ∈ Wall := in_wall (List.mem_of_getElem? (i := 141) rfl) rfl
set_option maxRecDepth 20000 in
theorem wc_V_introduce : Jvm.Cond.code y_V_introduce c_V_introduce 6 (Option.some Jvm.ClassFile.FieldType.boolean) ∈ Wall := in_wall (List.mem_of_getElem? (i := 159) rfl) rfl
set_option maxRecDepth 20000 in
theorem wc_V_send : Jvm.Cond.code y_V_send c_V_send 9 (Option.some Jvm.ClassFile.FieldType.int) ∈ Wall := in_wall (List.mem_of_getElem? (i := 163) rfl) rfl
set_option maxRecDepth 20000 in
theorem wc_V_turn : Jvm.Cond.code y_V_turn c_V_turn 4 (Option.some Jvm.ClassFile.FieldType.int) ∈ Wall := in_wall (List.mem_of_getElem? (i := 268) rfl) rfl
set_option maxRecDepth 20000 in
theorem wc_V_objects : Jvm.Cond.code y_V_objects c_V_objects 1 (Option.some Jvm.ClassFile.FieldType.int) ∈ Wall := in_wall (List.mem_of_getElem? (i := 367) rfl) rfl
set_option maxRecDepth 20000 in
theorem wc_V_kind : Jvm.Cond.code y_V_kind c_V_kind 3 (Option.some Jvm.ClassFile.FieldType.int) ∈ Wall := in_wall (List.mem_of_getElem? (i := 371) rfl) rfl
set_option maxRecDepth 20000 in
theorem wc_V_home : Jvm.Cond.code y_V_home c_V_home 3 (Option.some Jvm.ClassFile.FieldType.int) ∈ Wall := in_wall (List.mem_of_getElem? (i := 375) rfl) rfl
set_option maxRecDepth 20000 in
theorem wc_V_what : Jvm.Cond.code y_V_what c_V_what 4 (Option.some Jvm.ClassFile.FieldType.int) ∈ Wall := in_wall (List.mem_of_getElem? (i := 379) rfl) rfl
set_option maxRecDepth 20000 in
theorem wc_V_which : Jvm.Cond.code y_V_which c_V_which 4 (Option.some Jvm.ClassFile.FieldType.int) ∈ Wall := in_wall (List.mem_of_getElem? (i := 391) rfl) rfl
set_option maxRecDepth 20000 in
theorem wc_V_detail : Jvm.Cond.code y_V_detail c_V_detail 4 (Option.some Jvm.ClassFile.FieldType.int) ∈ Wall := in_wall (List.mem_of_getElem? (i := 395) rfl) rfl
set_option maxRecDepth 20000 in
theorem wc_V_messages : Jvm.Cond.code y_V_messages c_V_messages 1 (Option.some Jvm.ClassFile.FieldType.int) ∈ Wall := in_wall (List.mem_of_getElem? (i := 405) rfl) rfl
set_option maxRecDepth 20000 in
theorem wc_V_place : Jvm.Cond.code y_V_place c_V_place 3 (Option.some Jvm.ClassFile.FieldType.int) ∈ Wall := in_wall (List.mem_of_getElem? (i := 409) rfl) rfl
set_option maxRecDepth 20000 in
theorem wc_V_result : Jvm.Cond.code y_V_result c_V_result 3 (Option.some Jvm.ClassFile.FieldType.int) ∈ Wall := in_wall (List.mem_of_getElem? (i := 413) rfl) rfl
set_option maxRecDepth 20000 in
theorem wc_V_value : Jvm.Cond.code y_V_value c_V_value 3 (Option.some Jvm.ClassFile.FieldType.int) ∈ Wall := in_wall (List.mem_of_getElem? (i := 417) rfl) rfl
set_option maxRecDepth 20000 in
theorem wc_V_queued : Jvm.Cond.code y_V_queued c_V_queued 2 (Option.some Jvm.ClassFile.FieldType.int) ∈ Wall := in_wall (List.mem_of_getElem? (i := 421) rfl) rfl
set_option maxRecDepth 20000 in
theorem wc_V_next : Jvm.Cond.code y_V_next c_V_next 4 (Option.some Jvm.ClassFile.FieldType.int) ∈ Wall := in_wall (List.mem_of_getElem? (i := 425) rfl) rfl
set_option maxRecDepth 20000 in
theorem wc_V_waiting : Jvm.Cond.code y_V_waiting c_V_waiting 3 (Option.some Jvm.ClassFile.FieldType.int) ∈ Wall := in_wall (List.mem_of_getElem? (i := 433) rfl) rfl
set_option maxRecDepth 20000 in
theorem wc_V_notes : Jvm.Cond.code y_V_notes c_V_notes 3 (Option.some Jvm.ClassFile.FieldType.int) ∈ Wall := in_wall (List.mem_of_getElem? (i := 437) rfl) rfl
set_option maxRecDepth 20000 in
theorem wc_V_isVat : Jvm.Cond.code y_V_isVat c_V_isVat 1 (Option.some Jvm.ClassFile.FieldType.boolean) ∈ Wall := in_wall (List.mem_of_getElem? (i := 83) rfl) rfl
set_option maxRecDepth 20000 in
theorem wc_V_isSlot : Jvm.Cond.code y_V_isSlot c_V_isSlot 1 (Option.some Jvm.ClassFile.FieldType.boolean) ∈ Wall := in_wall (List.mem_of_getElem? (i := 152) rfl) rfl
set_option maxRecDepth 20000 in
theorem wc_V_isSlotOrNone : Jvm.Cond.code y_V_isSlotOrNone c_V_isSlotOrNone 1 (Option.some Jvm.ClassFile.FieldType.boolean) ∈ Wall := in_wall (List.mem_of_getElem? (i := 166) rfl) rfl
set_option maxRecDepth 20000 in
theorem wc_V_thingAt : Jvm.Cond.code y_V_thingAt c_V_thingAt 2 (Option.some (Jvm.ClassFile.FieldType.object "CapabilityVats$Thing")) ∈ Wall := in_wall (List.mem_of_getElem? (i := 149) rfl) rfl
set_option maxRecDepth 20000 in
theorem wc_V_cellAt : Jvm.Cond.code y_V_cellAt c_V_cellAt 3 (Option.some (Jvm.ClassFile.FieldType.object "CapabilityVats$Thing")) ∈ Wall := in_wall (List.mem_of_getElem? (i := 145) rfl) rfl
set_option maxRecDepth 20000 in
theorem wc_V_messageAt : Jvm.Cond.code y_V_messageAt c_V_messageAt 2 (Option.some (Jvm.ClassFile.FieldType.object "CapabilityVats$Message")) ∈ Wall := in_wall (List.mem_of_getElem? (i := 246) rfl) rfl
set_option maxRecDepth 20000 in
theorem wc_V_heldAt : Jvm.Cond.code y_V_heldAt c_V_heldAt 4 (Option.some (Jvm.ClassFile.FieldType.object "CapabilityVats$Reference")) ∈ Wall := in_wall (List.mem_of_getElem? (i := 383) rfl) rfl
set_option maxRecDepth 20000 in
theorem wc_V_firstDetail : Jvm.Cond.code y_V_firstDetail c_V_firstDetail 1 (Option.some Jvm.ClassFile.FieldType.int) ∈ Wall := in_wall (List.mem_of_getElem? (i := 398) rfl) rfl
set_option maxRecDepth 20000 in
theorem wc_V_secondDetail : Jvm.Cond.code y_V_secondDetail c_V_secondDetail 1 (Option.some Jvm.ClassFile.FieldType.int) ∈ Wall := in_wall (List.mem_of_getElem? (i := 401) rfl) rfl
set_option maxRecDepth 20000 in
theorem wc_V_countsAs : Jvm.Cond.code y_V_countsAs c_V_countsAs 5 (Option.some (Jvm.ClassFile.FieldType.object "CapabilityVats$Reference")) ∈ Wall := in_wall (List.mem_of_getElem? (i := 242) rfl) rfl
set_option maxRecDepth 20000 in
theorem wc_V_thingOf : Jvm.Cond.code y_V_thingOf c_V_thingOf 3 (Option.some (Jvm.ClassFile.FieldType.object "CapabilityVats$Thing")) ∈ Wall := in_wall (List.mem_of_getElem? (i := 238) rfl) rfl
set_option maxRecDepth 20000 in
theorem wc_V_awaitedBy : Jvm.Cond.code y_V_awaitedBy c_V_awaitedBy 3 (Option.some (Jvm.ClassFile.FieldType.object "CapabilityVats$Message")) ∈ Wall := in_wall (List.mem_of_getElem? (i := 250) rfl) rfl
set_option maxRecDepth 20000 in
theorem wc_V_thingOfKind : Jvm.Cond.code y_V_thingOfKind c_V_thingOfKind 4 (Option.some (Jvm.ClassFile.FieldType.object "CapabilityVats$Thing")) ∈ Wall := in_wall (List.mem_of_getElem? (i := 287) rfl) rfl
set_option maxRecDepth 20000 in
theorem wc_V_isNumberUpTo : Jvm.Cond.code y_V_isNumberUpTo c_V_isNumberUpTo 4 (Option.some Jvm.ClassFile.FieldType.boolean) ∈ Wall := in_wall (List.mem_of_getElem? (i := 347) rfl) rfl
set_option maxRecDepth 20000 in
theorem wc_V_numeral : Jvm.Cond.code y_V_numeral c_V_numeral 1 (Option.some (Jvm.ClassFile.FieldType.object "CapabilityVats$Reference")) ∈ Wall := in_wall (List.mem_of_getElem? (i := 155) rfl) rfl
set_option maxRecDepth 20000 in
theorem wc_V_truth : Jvm.Cond.code y_V_truth c_V_truth 1 (Option.some (Jvm.ClassFile.FieldType.object "CapabilityVats$Reference")) ∈ Wall := in_wall (List.mem_of_getElem? (i := 326) rfl) rfl
set_option maxRecDepth 20000 in
theorem wc_V_brokenIfNothing : Jvm.Cond.code y_V_brokenIfNothing c_V_brokenIfNothing 2 (Option.some (Jvm.ClassFile.FieldType.object "CapabilityVats$Reference")) ∈ Wall := in_wall (List.mem_of_getElem? (i := 258) rfl) rfl
set_option maxRecDepth 20000 in
theorem wc_V_referenceTo : Jvm.Cond.code y_V_referenceTo c_V_referenceTo 2 (Option.some (Jvm.ClassFile.FieldType.object "CapabilityVats$Reference")) ∈ Wall := in_wall (List.mem_of_getElem? (i := 303) rfl) rfl
set_option maxRecDepth 20000 in
theorem wc_V_settle : Jvm.Cond.code y_V_settle c_V_settle 3 (Option.none : Option Jvm.ClassFile.FieldType) ∈ Wall := in_wall (List.mem_of_getElem? (i := 254) rfl) rfl
set_option maxRecDepth 20000 in
theorem wc_V_routeAll : Jvm.Cond.code y_V_routeAll c_V_routeAll 3 (Option.none : Option Jvm.ClassFile.FieldType) ∈ Wall := in_wall (List.mem_of_getElem? (i := 226) rfl) rfl
set_option maxRecDepth 20000 in
theorem wc_V_route : Jvm.Cond.code y_V_route c_V_route 4 (Option.none : Option Jvm.ClassFile.FieldType) ∈ Wall := in_wall (List.mem_of_getElem? (i := 234) rfl) rfl
set_option maxRecDepth 20000 in
theorem wc_V_relays : Jvm.Cond.code y_V_relays c_V_relays 2 (Option.some Jvm.ClassFile.FieldType.boolean) ∈ Wall := in_wall (List.mem_of_getElem? (i := 271) rfl) rfl
set_option maxRecDepth 20000 in
theorem wc_V_relay : Jvm.Cond.code y_V_relay c_V_relay 3 (Option.none : Option Jvm.ClassFile.FieldType) ∈ Wall := in_wall (List.mem_of_getElem? (i := 279) rfl) rfl
set_option maxRecDepth 20000 in
theorem wc_V_wrapAsNoted : Jvm.Cond.code y_V_wrapAsNoted c_V_wrapAsNoted 7 (Option.some (Jvm.ClassFile.FieldType.object "CapabilityVats$Reference")) ∈ Wall := in_wall (List.mem_of_getElem? (i := 363) rfl) rfl
set_option maxRecDepth 20000 in
theorem wc_V_wrap : Jvm.Cond.code y_V_wrap c_V_wrap 7 (Option.some (Jvm.ClassFile.FieldType.object "CapabilityVats$Reference")) ∈ Wall := in_wall (List.mem_of_getElem? (i := 283) rfl) rfl
set_option maxRecDepth 20000 in
theorem wc_V_findWrapper : Jvm.Cond.code y_V_findWrapper c_V_findWrapper 7 (Option.some (Jvm.ClassFile.FieldType.object "CapabilityVats$Thing")) ∈ Wall := in_wall (List.mem_of_getElem? (i := 291) rfl) rfl
set_option maxRecDepth 20000 in
theorem wc_V_makeWrapper : Jvm.Cond.code y_V_makeWrapper c_V_makeWrapper 5 (Option.some (Jvm.ClassFile.FieldType.object "CapabilityVats$Thing")) ∈ Wall := in_wall (List.mem_of_getElem? (i := 299) rfl) rfl
set_option maxRecDepth 20000 in
theorem wc_V_answer : Jvm.Cond.code y_V_answer c_V_answer 5 (Option.some (Jvm.ClassFile.FieldType.object "CapabilityVats$Reference")) ∈ Wall := in_wall (List.mem_of_getElem? (i := 311) rfl) rfl
set_option maxRecDepth 20000 in
theorem wc_V_answerOfCell : Jvm.Cond.code y_V_answerOfCell c_V_answerOfCell 4 (Option.some (Jvm.ClassFile.FieldType.object "CapabilityVats$Reference")) ∈ Wall := in_wall (List.mem_of_getElem? (i := 315) rfl) rfl
set_option maxRecDepth 20000 in
theorem wc_V_answerOfRevocable : Jvm.Cond.code y_V_answerOfRevocable c_V_answerOfRevocable 3 (Option.some (Jvm.ClassFile.FieldType.object "CapabilityVats$Reference")) ∈ Wall := in_wall (List.mem_of_getElem? (i := 323) rfl) rfl
set_option maxRecDepth 20000 in
theorem wc_V_answerOfBrand : Jvm.Cond.code y_V_answerOfBrand c_V_answerOfBrand 3 (Option.some (Jvm.ClassFile.FieldType.object "CapabilityVats$Reference")) ∈ Wall := in_wall (List.mem_of_getElem? (i := 330) rfl) rfl
set_option maxRecDepth 20000 in
theorem wc_V_answerOfPurse : Jvm.Cond.code y_V_answerOfPurse c_V_answerOfPurse 4 (Option.some (Jvm.ClassFile.FieldType.object "CapabilityVats$Reference")) ∈ Wall := in_wall (List.mem_of_getElem? (i := 351) rfl) rfl
set_option maxRecDepth 20000 in
theorem wc_V_deposit : Jvm.Cond.code y_V_deposit c_V_deposit 5 (Option.some (Jvm.ClassFile.FieldType.object "CapabilityVats$Reference")) ∈ Wall := in_wall (List.mem_of_getElem? (i := 355) rfl) rfl
set_option maxRecDepth 20000 in
theorem wc_V_split : Jvm.Cond.code y_V_split c_V_split 4 (Option.some (Jvm.ClassFile.FieldType.object "CapabilityVats$Reference")) ∈ Wall := in_wall (List.mem_of_getElem? (i := 359) rfl) rfl
set_option maxRecDepth 20000 in
theorem wc_V_unseal : Jvm.Cond.code y_V_unseal c_V_unseal 4 (Option.some (Jvm.ClassFile.FieldType.object "CapabilityVats$Reference")) ∈ Wall := in_wall (List.mem_of_getElem? (i := 338) rfl) rfl
set_option maxRecDepth 20000 in
theorem wc_V_make : Jvm.Cond.code y_V_make c_V_make 5 (Option.some (Jvm.ClassFile.FieldType.object "CapabilityVats$Thing")) ∈ Wall := in_wall (List.mem_of_getElem? (i := 87) rfl) rfl
set_option maxRecDepth 20000 in
theorem wc_V_makeGate : Jvm.Cond.code y_V_makeGate c_V_makeGate 5 (Option.some (Jvm.ClassFile.FieldType.object "CapabilityVats$Reference")) ∈ Wall := in_wall (List.mem_of_getElem? (i := 319) rfl) rfl
set_option maxRecDepth 20000 in
theorem wc_V_makeBox : Jvm.Cond.code y_V_makeBox c_V_makeBox 4 (Option.some (Jvm.ClassFile.FieldType.object "CapabilityVats$Reference")) ∈ Wall := in_wall (List.mem_of_getElem? (i := 334) rfl) rfl
set_option maxRecDepth 20000 in
theorem wc_V_makeMoney : Jvm.Cond.code y_V_makeMoney c_V_makeMoney 4 (Option.some (Jvm.ClassFile.FieldType.object "CapabilityVats$Reference")) ∈ Wall := in_wall (List.mem_of_getElem? (i := 342) rfl) rfl
set_option maxRecDepth 20000 in
theorem wc_D_init : Jvm.Cond.code y_D_init c_D_init 1 (Option.none : Option Jvm.ClassFile.FieldType) ∈ Wall := in_wall (List.mem_of_getElem? (i := 442) rfl) rfl
set_option maxRecDepth 20000 in
theorem wc_D_out : Jvm.Cond.code y_D_out c_D_out 2 (Option.some Jvm.ClassFile.FieldType.boolean) ∈ Wall := in_wall (List.mem_of_getElem? (i := 540) rfl) rfl
set_option maxRecDepth 20000 in
theorem wc_D_hold : Jvm.Cond.code y_D_hold c_D_hold 3 (Option.none : Option Jvm.ClassFile.FieldType) ∈ Wall := in_wall (List.mem_of_getElem? (i := 576) rfl) rfl
set_option maxRecDepth 20000 in
theorem wc_D_look : Jvm.Cond.code y_D_look c_D_look 3 (Option.none : Option Jvm.ClassFile.FieldType) ∈ Wall := in_wall (List.mem_of_getElem? (i := 572) rfl) rfl
set_option maxRecDepth 20000 in
theorem wc_D_broken : Jvm.Cond.code y_D_broken c_D_broken 1 (Option.none : Option Jvm.ClassFile.FieldType) ∈ Wall := in_wall (List.mem_of_getElem? (i := 584) rfl) rfl
set_option maxRecDepth 20000 in
theorem wc_D_isObject : Jvm.Cond.code y_D_isObject c_D_isObject 2 (Option.some Jvm.ClassFile.FieldType.boolean) ∈ Wall := in_wall (List.mem_of_getElem? (i := 636) rfl) rfl
set_option maxRecDepth 20000 in
theorem wc_D_make : Jvm.Cond.code y_D_make c_D_make 6 (Option.some Jvm.ClassFile.FieldType.int) ∈ Wall := in_wall (List.mem_of_getElem? (i := 544) rfl) rfl
set_option maxRecDepth 20000 in
theorem wc_D_fresh : Jvm.Cond.code y_D_fresh c_D_fresh 4 (Option.none : Option Jvm.ClassFile.FieldType) ∈ Wall := in_wall (List.mem_of_getElem? (i := 616) rfl) rfl
set_option maxRecDepth 20000 in
theorem wc_D_stand : Jvm.Cond.code y_D_stand c_D_stand 4 (Option.none : Option Jvm.ClassFile.FieldType) ∈ Wall := in_wall (List.mem_of_getElem? (i := 580) rfl) rfl
set_option maxRecDepth 20000 in
theorem wc_D_nth : Jvm.Cond.code y_D_nth c_D_nth 9 (Option.some Jvm.ClassFile.FieldType.int) ∈ Wall := in_wall (List.mem_of_getElem? (i := 600) rfl) rfl
set_option maxRecDepth 20000 in
theorem wc_D_count : Jvm.Cond.code y_D_count c_D_count 5 (Option.some Jvm.ClassFile.FieldType.int) ∈ Wall := in_wall (List.mem_of_getElem? (i := 701) rfl) rfl
set_option maxRecDepth 20000 in
theorem wc_D_route : Jvm.Cond.code y_D_route c_D_route 3 (Option.none : Option Jvm.ClassFile.FieldType) ∈ Wall := in_wall (List.mem_of_getElem? (i := 564) rfl) rfl
set_option maxRecDepth 20000 in
theorem wc_D_direct : Jvm.Cond.code y_D_direct c_D_direct 2 (Option.none : Option Jvm.ClassFile.FieldType) ∈ Wall := in_wall (List.mem_of_getElem? (i := 568) rfl) rfl
set_option maxRecDepth 20000 in
theorem wc_D_released : Jvm.Cond.code y_D_released c_D_released 4 (Option.some Jvm.ClassFile.FieldType.int) ∈ Wall := in_wall (List.mem_of_getElem? (i := 592) rfl) rfl
set_option maxRecDepth 20000 in
theorem wc_D_settle : Jvm.Cond.code y_D_settle c_D_settle 5 (Option.none : Option Jvm.ClassFile.FieldType) ∈ Wall := in_wall (List.mem_of_getElem? (i := 588) rfl) rfl
set_option maxRecDepth 20000 in
theorem wc_D_isSlot : Jvm.Cond.code y_D_isSlot c_D_isSlot 3 (Option.some Jvm.ClassFile.FieldType.boolean) ∈ Wall := in_wall (List.mem_of_getElem? (i := 552) rfl) rfl
set_option maxRecDepth 20000 in
theorem wc_D_cell : Jvm.Cond.code y_D_cell c_D_cell 2 (Option.some Jvm.ClassFile.FieldType.int) ∈ Wall := in_wall (List.mem_of_getElem? (i := 537) rfl) rfl
set_option maxRecDepth 20000 in
theorem wc_D_number : Jvm.Cond.code y_D_number c_D_number 4 (Option.some Jvm.ClassFile.FieldType.boolean) ∈ Wall := in_wall (List.mem_of_getElem? (i := 548) rfl) rfl
set_option maxRecDepth 20000 in
theorem wc_D_introduce : Jvm.Cond.code y_D_introduce c_D_introduce 4 (Option.some Jvm.ClassFile.FieldType.boolean) ∈ Wall := in_wall (List.mem_of_getElem? (i := 556) rfl) rfl
set_option maxRecDepth 20000 in
theorem wc_D_send : Jvm.Cond.code y_D_send c_D_send 7 (Option.some Jvm.ClassFile.FieldType.int) ∈ Wall := in_wall (List.mem_of_getElem? (i := 560) rfl) rfl
set_option maxRecDepth 20000 in
theorem wc_D_turn : Jvm.Cond.code y_D_turn c_D_turn 4 (Option.some Jvm.ClassFile.FieldType.int) ∈ Wall := in_wall (List.mem_of_getElem? (i := 596) rfl) rfl
set_option maxRecDepth 20000 in
theorem wc_D_answers : Jvm.Cond.code y_D_answers c_D_answers 5 (Option.some Jvm.ClassFile.FieldType.boolean) ∈ Wall := in_wall (List.mem_of_getElem? (i := 604) rfl) rfl
set_option maxRecDepth 20000 in
theorem wc_D_ofCell : Jvm.Cond.code y_D_ofCell c_D_ofCell 7 (Option.none : Option Jvm.ClassFile.FieldType) ∈ Wall := in_wall (List.mem_of_getElem? (i := 620) rfl) rfl
set_option maxRecDepth 20000 in
theorem wc_D_ofGuard : Jvm.Cond.code y_D_ofGuard c_D_ofGuard 3 (Option.none : Option Jvm.ClassFile.FieldType) ∈ Wall := in_wall (List.mem_of_getElem? (i := 624) rfl) rfl
set_option maxRecDepth 20000 in
theorem wc_D_ofSealer : Jvm.Cond.code y_D_ofSealer c_D_ofSealer 3 (Option.none : Option Jvm.ClassFile.FieldType) ∈ Wall := in_wall (List.mem_of_getElem? (i := 628) rfl) rfl
set_option maxRecDepth 20000 in
theorem wc_D_ofUnsealer : Jvm.Cond.code y_D_ofUnsealer c_D_ofUnsealer 3 (Option.none : Option Jvm.ClassFile.FieldType) ∈ Wall := in_wall (List.mem_of_getElem? (i := 632) rfl) rfl
set_option maxRecDepth 20000 in
theorem wc_D_ofMint : Jvm.Cond.code y_D_ofMint c_D_ofMint 3 (Option.none : Option Jvm.ClassFile.FieldType) ∈ Wall := in_wall (List.mem_of_getElem? (i := 640) rfl) rfl
set_option maxRecDepth 20000 in
theorem wc_D_ofPurse : Jvm.Cond.code y_D_ofPurse c_D_ofPurse 6 (Option.none : Option Jvm.ClassFile.FieldType) ∈ Wall := in_wall (List.mem_of_getElem? (i := 645) rfl) rfl
set_option maxRecDepth 20000 in
theorem wc_D_relays : Jvm.Cond.code y_D_relays c_D_relays 5 (Option.some Jvm.ClassFile.FieldType.boolean) ∈ Wall := in_wall (List.mem_of_getElem? (i := 608) rfl) rfl
set_option maxRecDepth 20000 in
theorem wc_D_wrap : Jvm.Cond.code y_D_wrap c_D_wrap 6 (Option.some Jvm.ClassFile.FieldType.boolean) ∈ Wall := in_wall (List.mem_of_getElem? (i := 612) rfl) rfl
set_option maxRecDepth 20000 in
theorem wc_D_asNoted : Jvm.Cond.code y_D_asNoted c_D_asNoted 6 (Option.none : Option Jvm.ClassFile.FieldType) ∈ Wall := in_wall (List.mem_of_getElem? (i := 649) rfl) rfl
set_option maxRecDepth 20000 in
theorem wc_D_objects : Jvm.Cond.code y_D_objects c_D_objects 1 (Option.some Jvm.ClassFile.FieldType.int) ∈ Wall := in_wall (List.mem_of_getElem? (i := 653) rfl) rfl
set_option maxRecDepth 20000 in
theorem wc_D_kind : Jvm.Cond.code y_D_kind c_D_kind 2 (Option.some Jvm.ClassFile.FieldType.int) ∈ Wall := in_wall (List.mem_of_getElem? (i := 657) rfl) rfl
set_option maxRecDepth 20000 in
theorem wc_D_home : Jvm.Cond.code y_D_home c_D_home 2 (Option.some Jvm.ClassFile.FieldType.int) ∈ Wall := in_wall (List.mem_of_getElem? (i := 661) rfl) rfl
set_option maxRecDepth 20000 in
theorem wc_D_seen : Jvm.Cond.code y_D_seen c_D_seen 4 (Option.some Jvm.ClassFile.FieldType.boolean) ∈ Wall := in_wall (List.mem_of_getElem? (i := 669) rfl) rfl
set_option maxRecDepth 20000 in
theorem wc_D_what : Jvm.Cond.code y_D_what c_D_what 3 (Option.some Jvm.ClassFile.FieldType.int) ∈ Wall := in_wall (List.mem_of_getElem? (i := 665) rfl) rfl
set_option maxRecDepth 20000 in
theorem wc_D_which : Jvm.Cond.code y_D_which c_D_which 3 (Option.some Jvm.ClassFile.FieldType.int) ∈ Wall := in_wall (List.mem_of_getElem? (i := 673) rfl) rfl
set_option maxRecDepth 20000 in
theorem wc_D_detail : Jvm.Cond.code y_D_detail c_D_detail 4 (Option.some Jvm.ClassFile.FieldType.int) ∈ Wall := in_wall (List.mem_of_getElem? (i := 677) rfl) rfl
set_option maxRecDepth 20000 in
theorem wc_D_messages : Jvm.Cond.code y_D_messages c_D_messages 1 (Option.some Jvm.ClassFile.FieldType.int) ∈ Wall := in_wall (List.mem_of_getElem? (i := 681) rfl) rfl
set_option maxRecDepth 20000 in
theorem wc_D_place : Jvm.Cond.code y_D_place c_D_place 2 (Option.some Jvm.ClassFile.FieldType.int) ∈ Wall := in_wall (List.mem_of_getElem? (i := 685) rfl) rfl
set_option maxRecDepth 20000 in
theorem wc_D_result : Jvm.Cond.code y_D_result c_D_result 2 (Option.some Jvm.ClassFile.FieldType.int) ∈ Wall := in_wall (List.mem_of_getElem? (i := 689) rfl) rfl
set_option maxRecDepth 20000 in
theorem wc_D_value : Jvm.Cond.code y_D_value c_D_value 2 (Option.some Jvm.ClassFile.FieldType.int) ∈ Wall := in_wall (List.mem_of_getElem? (i := 693) rfl) rfl
set_option maxRecDepth 20000 in
theorem wc_D_queued : Jvm.Cond.code y_D_queued c_D_queued 2 (Option.some Jvm.ClassFile.FieldType.int) ∈ Wall := in_wall (List.mem_of_getElem? (i := 697) rfl) rfl
set_option maxRecDepth 20000 in
theorem wc_D_next : Jvm.Cond.code y_D_next c_D_next 4 (Option.some Jvm.ClassFile.FieldType.int) ∈ Wall := in_wall (List.mem_of_getElem? (i := 705) rfl) rfl
set_option maxRecDepth 20000 in
theorem wc_D_waiting : Jvm.Cond.code y_D_waiting c_D_waiting 2 (Option.some Jvm.ClassFile.FieldType.int) ∈ Wall := in_wall (List.mem_of_getElem? (i := 709) rfl) rfl
set_option maxRecDepth 20000 in
theorem wc_D_notes : Jvm.Cond.code y_D_notes c_D_notes 2 (Option.some Jvm.ClassFile.FieldType.int) ∈ Wall := in_wall (List.mem_of_getElem? (i := 713) rfl) rfl
set_option maxRecDepth 20000 in
theorem wc_L_init : Jvm.Cond.code y_L_init c_L_init 1 (Option.none : Option Jvm.ClassFile.FieldType) ∈ Wall := in_wall (List.mem_of_getElem? (i := 39) rfl) rfl
set_option maxRecDepth 20000 in
theorem wc_L_join : Jvm.Cond.code y_L_join c_L_join 2 (Option.none : Option Jvm.ClassFile.FieldType) ∈ Wall := in_wall (List.mem_of_getElem? (i := 222) rfl) rfl
set_option maxRecDepth 20000 in
theorem wc_L_take : Jvm.Cond.code y_L_take c_L_take 2 (Option.some (Jvm.ClassFile.FieldType.object "CapabilityVats$Message")) ∈ Wall := in_wall (List.mem_of_getElem? (i := 230) rfl) rfl
set_option maxRecDepth 20000 in
theorem wc_L_takeOver : Jvm.Cond.code y_L_takeOver c_L_takeOver 4 (Option.none : Option Jvm.ClassFile.FieldType) ∈ Wall := in_wall (List.mem_of_getElem? (i := 262) rfl) rfl
set_option maxRecDepth 20000 in
theorem wc_L_withBefore : Jvm.Cond.code y_L_withBefore c_L_withBefore 4 (Option.some (Jvm.ClassFile.FieldType.object "CapabilityVats$Message")) ∈ Wall := in_wall (List.mem_of_getElem? (i := 429) rfl) rfl
set_option maxRecDepth 20000 in
theorem wc_M_init : Jvm.Cond.code y_M_init c_M_init 5 (Option.none : Option Jvm.ClassFile.FieldType) ∈ Wall := in_wall (List.mem_of_getElem? (i := 170) rfl) rfl
set_option maxRecDepth 20000 in
theorem wc_M_noteDown : Jvm.Cond.code y_M_noteDown c_M_noteDown 2 (Option.none : Option Jvm.ClassFile.FieldType) ∈ Wall := in_wall (List.mem_of_getElem? (i := 307) rfl) rfl
set_option maxRecDepth 20000 in
theorem wc_R_init : Jvm.Cond.code y_R_init c_R_init 3 (Option.none : Option Jvm.ClassFile.FieldType) ∈ Wall := in_wall (List.mem_of_getElem? (i := 19) rfl) rfl
set_option maxRecDepth 20000 in
theorem wc_R_isSame : Jvm.Cond.code y_R_isSame c_R_isSame 2 (Option.some Jvm.ClassFile.FieldType.boolean) ∈ Wall := in_wall (List.mem_of_getElem? (i := 295) rfl) rfl
set_option maxRecDepth 20000 in
theorem wc_H_init : Jvm.Cond.code y_H_init c_H_init 7 (Option.none : Option Jvm.ClassFile.FieldType) ∈ Wall := in_wall (List.mem_of_getElem? (i := 91) rfl) rfl
set_option maxRecDepth 20000 in
theorem wc_H_holdsOne : Jvm.Cond.code y_H_holdsOne c_H_holdsOne 1 (Option.some Jvm.ClassFile.FieldType.boolean) ∈ Wall := in_wall (List.mem_of_getElem? (i := 387) rfl) rfl
set_option maxRecDepth 20000 in
theorem wc_H_isCutOff : Jvm.Cond.code y_H_isCutOff c_H_isCutOff 1 (Option.some Jvm.ClassFile.FieldType.boolean) ∈ Wall := in_wall (List.mem_of_getElem? (i := 275) rfl) rfl
set_option maxRecDepth 20000 in
theorem wm_V_O_init : Jvm.Cond.methodLink R_V 1 objectInit ∈ Wall := in_wall (List.mem_of_getElem? (i := 12) (by decide +kernel)) rfl
set_option maxRecDepth 20000 in
theorem wk_V_R : Jvm.Cond.classLink R_V 7 R_R ∈ Wall := in_wall (List.mem_of_getElem? (i := 15) (by decide +kernel)) rfl
set_option maxRecDepth 20000 in
theorem wm_V_R_init : Jvm.Cond.methodLink R_V 11 y_R_init ∈ Wall := in_wall (List.mem_of_getElem? (i := 17) (by decide +kernel)) rfl
set_option maxRecDepth 20000 in
theorem wf_V_V_nothing : Jvm.Cond.fieldLink R_V 14 "CapabilityVats" "nothing" "LCapabilityVats$Reference;" ∈ Wall := in_wall (List.mem_of_getElem? (i := 52) (by decide +kernel)) rfl
set_option maxRecDepth 20000 in
theorem wf_V_V_broken : Jvm.Cond.fieldLink R_V 18 "CapabilityVats" "broken" "LCapabilityVats$Reference;" ∈ Wall := in_wall (List.mem_of_getElem? (i := 53) (by decide +kernel)) rfl
set_option maxRecDepth 20000 in
theorem wk_V_H : Jvm.Cond.classLink R_V 21 R_H ∈ Wall := in_wall (List.mem_of_getElem? (i := 30) (by decide +kernel)) rfl
set_option maxRecDepth 20000 in
theorem wf_V_V_things : Jvm.Cond.fieldLink R_V 23 "CapabilityVats" "things" "[LCapabilityVats$Thing;" ∈ Wall := in_wall (List.mem_of_getElem? (i := 54) (by decide +kernel)) rfl
set_option maxRecDepth 20000 in
theorem wf_V_V_thingCount : Jvm.Cond.fieldLink R_V 27 "CapabilityVats" "thingCount" "I" ∈ Wall := in_wall (List.mem_of_getElem? (i := 55) (by decide +kernel)) rfl
set_option maxRecDepth 20000 in
theorem wk_V_M : Jvm.Cond.classLink R_V 31 R_M ∈ Wall := in_wall (List.mem_of_getElem? (i := 32) (by decide +kernel)) rfl
set_option maxRecDepth 20000 in
theorem wf_V_V_sent : Jvm.Cond.fieldLink R_V 33 "CapabilityVats" "sent" "[LCapabilityVats$Message;" ∈ Wall := in_wall (List.mem_of_getElem? (i := 56) (by decide +kernel)) rfl
set_option maxRecDepth 20000 in
theorem wf_V_V_sentCount : Jvm.Cond.fieldLink R_V 37 "CapabilityVats" "sentCount" "I" ∈ Wall := in_wall (List.mem_of_getElem? (i := 57) (by decide +kernel)) rfl
set_option maxRecDepth 20000 in
theorem wk_V_L : Jvm.Cond.classLink R_V 40 R_L ∈ Wall := in_wall (List.mem_of_getElem? (i := 34) (by decide +kernel)) rfl
set_option maxRecDepth 20000 in
theorem wf_V_V_queues : Jvm.Cond.fieldLink R_V 42 "CapabilityVats" "queues" "[LCapabilityVats$Line;" ∈ Wall := in_wall (List.mem_of_getElem? (i := 58) (by decide +kernel)) rfl
set_option maxRecDepth 20000 in
theorem wf_V_V_unrouted : Jvm.Cond.fieldLink R_V 47 "CapabilityVats" "unrouted" "LCapabilityVats$Line;" ∈ Wall := in_wall (List.mem_of_getElem? (i := 59) (by decide +kernel)) rfl
set_option maxRecDepth 20000 in
theorem wm_V_V_isVat : Jvm.Cond.methodLink R_V 51 y_V_isVat ∈ Wall := in_wall (List.mem_of_getElem? (i := 81) (by decide +kernel)) rfl
set_option maxRecDepth 20000 in
theorem wm_V_V_make : Jvm.Cond.methodLink R_V 55 y_V_make ∈ Wall := in_wall (List.mem_of_getElem? (i := 84) (by decide +kernel)) rfl
set_option maxRecDepth 20000 in
theorem wf_V_H_number : Jvm.Cond.fieldLink R_V 59 "CapabilityVats$Thing" "number" "I" ∈ Wall := in_wall (List.mem_of_getElem? (i := 97) (by decide +kernel)) rfl
set_option maxRecDepth 20000 in
theorem wm_V_V_cellAt : Jvm.Cond.methodLink R_V 62 y_V_cellAt ∈ Wall := in_wall (List.mem_of_getElem? (i := 142) (by decide +kernel)) rfl
set_option maxRecDepth 20000 in
theorem wm_V_V_isSlot : Jvm.Cond.methodLink R_V 66 y_V_isSlot ∈ Wall := in_wall (List.mem_of_getElem? (i := 150) (by decide +kernel)) rfl
set_option maxRecDepth 20000 in
theorem wf_V_H_slots : Jvm.Cond.fieldLink R_V 69 "CapabilityVats$Thing" "slots" "[LCapabilityVats$Reference;" ∈ Wall := in_wall (List.mem_of_getElem? (i := 107) (by decide +kernel)) rfl
set_option maxRecDepth 20000 in
theorem wm_V_V_numeral : Jvm.Cond.methodLink R_V 73 y_V_numeral ∈ Wall := in_wall (List.mem_of_getElem? (i := 153) (by decide +kernel)) rfl
set_option maxRecDepth 20000 in
theorem wm_V_V_thingAt : Jvm.Cond.methodLink R_V 77 y_V_thingAt ∈ Wall := in_wall (List.mem_of_getElem? (i := 146) (by decide +kernel)) rfl
set_option maxRecDepth 20000 in
theorem wf_V_H_self : Jvm.Cond.fieldLink R_V 80 "CapabilityVats$Thing" "self" "LCapabilityVats$Reference;" ∈ Wall := in_wall (List.mem_of_getElem? (i := 105) (by decide +kernel)) rfl
set_option maxRecDepth 20000 in
theorem wm_V_V_isSlotOrNone : Jvm.Cond.methodLink R_V 83 y_V_isSlotOrNone ∈ Wall := in_wall (List.mem_of_getElem? (i := 164) (by decide +kernel)) rfl
set_option maxRecDepth 20000 in
theorem wm_V_M_init : Jvm.Cond.methodLink R_V 86 y_M_init ∈ Wall := in_wall (List.mem_of_getElem? (i := 168) (by decide +kernel)) rfl
set_option maxRecDepth 20000 in
theorem wf_V_M_promise : Jvm.Cond.fieldLink R_V 89 "CapabilityVats$Message" "promise" "LCapabilityVats$Reference;" ∈ Wall := in_wall (List.mem_of_getElem? (i := 182) (by decide +kernel)) rfl
set_option maxRecDepth 20000 in
theorem wm_V_L_join : Jvm.Cond.methodLink R_V 92 y_L_join ∈ Wall := in_wall (List.mem_of_getElem? (i := 219) (by decide +kernel)) rfl
set_option maxRecDepth 20000 in
theorem wm_V_V_routeAll : Jvm.Cond.methodLink R_V 96 y_V_routeAll ∈ Wall := in_wall (List.mem_of_getElem? (i := 223) (by decide +kernel)) rfl
set_option maxRecDepth 20000 in
theorem wf_V_M_number : Jvm.Cond.fieldLink R_V 99 "CapabilityVats$Message" "number" "I" ∈ Wall := in_wall (List.mem_of_getElem? (i := 178) (by decide +kernel)) rfl
set_option maxRecDepth 20000 in
theorem wm_V_L_take : Jvm.Cond.methodLink R_V 100 y_L_take ∈ Wall := in_wall (List.mem_of_getElem? (i := 227) (by decide +kernel)) rfl
set_option maxRecDepth 20000 in
theorem wf_V_M_target : Jvm.Cond.fieldLink R_V 104 "CapabilityVats$Message" "target" "LCapabilityVats$Reference;" ∈ Wall := in_wall (List.mem_of_getElem? (i := 186) (by decide +kernel)) rfl
set_option maxRecDepth 20000 in
theorem wm_V_V_thingOf : Jvm.Cond.methodLink R_V 107 y_V_thingOf ∈ Wall := in_wall (List.mem_of_getElem? (i := 235) (by decide +kernel)) rfl
set_option maxRecDepth 20000 in
theorem wm_V_V_relays : Jvm.Cond.methodLink R_V 111 y_V_relays ∈ Wall := in_wall (List.mem_of_getElem? (i := 269) (by decide +kernel)) rfl
set_option maxRecDepth 20000 in
theorem wm_V_V_relay : Jvm.Cond.methodLink R_V 115 y_V_relay ∈ Wall := in_wall (List.mem_of_getElem? (i := 276) (by decide +kernel)) rfl
set_option maxRecDepth 20000 in
theorem wm_V_V_answer : Jvm.Cond.methodLink R_V 119 y_V_answer ∈ Wall := in_wall (List.mem_of_getElem? (i := 308) (by decide +kernel)) rfl
set_option maxRecDepth 20000 in
theorem wm_V_V_wrapAsNoted : Jvm.Cond.methodLink R_V 123 y_V_wrapAsNoted ∈ Wall := in_wall (List.mem_of_getElem? (i := 360) (by decide +kernel)) rfl
set_option maxRecDepth 20000 in
theorem wm_V_V_settle : Jvm.Cond.methodLink R_V 127 y_V_settle ∈ Wall := in_wall (List.mem_of_getElem? (i := 251) (by decide +kernel)) rfl
set_option maxRecDepth 20000 in
theorem wf_V_H_kind : Jvm.Cond.fieldLink R_V 131 "CapabilityVats$Thing" "kind" "I" ∈ Wall := in_wall (List.mem_of_getElem? (i := 99) (by decide +kernel)) rfl
set_option maxRecDepth 20000 in
theorem wf_V_H_home : Jvm.Cond.fieldLink R_V 134 "CapabilityVats$Thing" "home" "I" ∈ Wall := in_wall (List.mem_of_getElem? (i := 101) (by decide +kernel)) rfl
set_option maxRecDepth 20000 in
theorem wm_V_V_heldAt : Jvm.Cond.methodLink R_V 137 y_V_heldAt ∈ Wall := in_wall (List.mem_of_getElem? (i := 380) (by decide +kernel)) rfl
set_option maxRecDepth 20000 in
theorem wf_V_R_sort : Jvm.Cond.fieldLink R_V 141 "CapabilityVats$Reference" "sort" "I" ∈ Wall := in_wall (List.mem_of_getElem? (i := 22) (by decide +kernel)) rfl
set_option maxRecDepth 20000 in
theorem wf_V_R_index : Jvm.Cond.fieldLink R_V 144 "CapabilityVats$Reference" "index" "I" ∈ Wall := in_wall (List.mem_of_getElem? (i := 24) (by decide +kernel)) rfl
set_option maxRecDepth 20000 in
theorem wm_V_V_firstDetail : Jvm.Cond.methodLink R_V 147 y_V_firstDetail ∈ Wall := in_wall (List.mem_of_getElem? (i := 396) (by decide +kernel)) rfl
set_option maxRecDepth 20000 in
theorem wm_V_V_secondDetail : Jvm.Cond.methodLink R_V 151 y_V_secondDetail ∈ Wall := in_wall (List.mem_of_getElem? (i := 399) (by decide +kernel)) rfl
set_option maxRecDepth 20000 in
theorem wm_V_V_messageAt : Jvm.Cond.methodLink R_V 154 y_V_messageAt ∈ Wall := in_wall (List.mem_of_getElem? (i := 243) (by decide +kernel)) rfl
set_option maxRecDepth 20000 in
theorem wf_V_M_place : Jvm.Cond.fieldLink R_V 158 "CapabilityVats$Message" "place" "I" ∈ Wall := in_wall (List.mem_of_getElem? (i := 190) (by decide +kernel)) rfl
set_option maxRecDepth 20000 in
theorem wm_V_V_countsAs : Jvm.Cond.methodLink R_V 161 y_V_countsAs ∈ Wall := in_wall (List.mem_of_getElem? (i := 239) (by decide +kernel)) rfl
set_option maxRecDepth 20000 in
theorem wf_V_L_length : Jvm.Cond.fieldLink R_V 165 "CapabilityVats$Line" "length" "I" ∈ Wall := in_wall (List.mem_of_getElem? (i := 44) (by decide +kernel)) rfl
set_option maxRecDepth 20000 in
theorem wm_V_L_withBefore : Jvm.Cond.methodLink R_V 168 y_L_withBefore ∈ Wall := in_wall (List.mem_of_getElem? (i := 426) (by decide +kernel)) rfl
set_option maxRecDepth 20000 in
theorem wf_V_M_waiters : Jvm.Cond.fieldLink R_V 171 "CapabilityVats$Message" "waiters" "LCapabilityVats$Line;" ∈ Wall := in_wall (List.mem_of_getElem? (i := 184) (by decide +kernel)) rfl
set_option maxRecDepth 20000 in
theorem wf_V_M_noteCount : Jvm.Cond.fieldLink R_V 174 "CapabilityVats$Message" "noteCount" "I" ∈ Wall := in_wall (List.mem_of_getElem? (i := 195) (by decide +kernel)) rfl
set_option maxRecDepth 20000 in
theorem wm_V_H_holdsOne : Jvm.Cond.methodLink R_V 177 y_H_holdsOne ∈ Wall := in_wall (List.mem_of_getElem? (i := 384) (by decide +kernel)) rfl
set_option maxRecDepth 20000 in
theorem wf_V_H_held : Jvm.Cond.fieldLink R_V 181 "CapabilityVats$Thing" "held" "LCapabilityVats$Reference;" ∈ Wall := in_wall (List.mem_of_getElem? (i := 109) (by decide +kernel)) rfl
set_option maxRecDepth 20000 in
theorem wf_V_H_revoked : Jvm.Cond.fieldLink R_V 184 "CapabilityVats$Thing" "revoked" "Z" ∈ Wall := in_wall (List.mem_of_getElem? (i := 112) (by decide +kernel)) rfl
set_option maxRecDepth 20000 in
theorem wf_V_H_balance : Jvm.Cond.fieldLink R_V 188 "CapabilityVats$Thing" "balance" "I" ∈ Wall := in_wall (List.mem_of_getElem? (i := 114) (by decide +kernel)) rfl
set_option maxRecDepth 20000 in
theorem wf_V_H_owner : Jvm.Cond.fieldLink R_V 191 "CapabilityVats$Thing" "owner" "LCapabilityVats$Thing;" ∈ Wall := in_wall (List.mem_of_getElem? (i := 103) (by decide +kernel)) rfl
set_option maxRecDepth 20000 in
theorem wf_V_H_facet : Jvm.Cond.fieldLink R_V 195 "CapabilityVats$Thing" "facet" "LCapabilityVats$Thing;" ∈ Wall := in_wall (List.mem_of_getElem? (i := 110) (by decide +kernel)) rfl
set_option maxRecDepth 20000 in
theorem wf_V_H_inward : Jvm.Cond.fieldLink R_V 198 "CapabilityVats$Thing" "inward" "Z" ∈ Wall := in_wall (List.mem_of_getElem? (i := 113) (by decide +kernel)) rfl
set_option maxRecDepth 20000 in
theorem wf_V_M_answer : Jvm.Cond.fieldLink R_V 201 "CapabilityVats$Message" "answer" "LCapabilityVats$Reference;" ∈ Wall := in_wall (List.mem_of_getElem? (i := 189) (by decide +kernel)) rfl
set_option maxRecDepth 20000 in
theorem wm_V_V_awaitedBy : Jvm.Cond.methodLink R_V 203 y_V_awaitedBy ∈ Wall := in_wall (List.mem_of_getElem? (i := 247) (by decide +kernel)) rfl
set_option maxRecDepth 20000 in
theorem wm_V_V_brokenIfNothing : Jvm.Cond.methodLink R_V 207 y_V_brokenIfNothing ∈ Wall := in_wall (List.mem_of_getElem? (i := 255) (by decide +kernel)) rfl
set_option maxRecDepth 20000 in
theorem wm_V_L_takeOver : Jvm.Cond.methodLink R_V 210 y_L_takeOver ∈ Wall := in_wall (List.mem_of_getElem? (i := 259) (by decide +kernel)) rfl
set_option maxRecDepth 20000 in
theorem wm_V_V_route : Jvm.Cond.methodLink R_V 214 y_V_route ∈ Wall := in_wall (List.mem_of_getElem? (i := 231) (by decide +kernel)) rfl
set_option maxRecDepth 20000 in
theorem wm_V_H_isCutOff : Jvm.Cond.methodLink R_V 217 y_H_isCutOff ∈ Wall := in_wall (List.mem_of_getElem? (i := 272) (by decide +kernel)) rfl
set_option maxRecDepth 20000 in
theorem wf_V_M_argument : Jvm.Cond.fieldLink R_V 220 "CapabilityVats$Message" "argument" "LCapabilityVats$Reference;" ∈ Wall := in_wall (List.mem_of_getElem? (i := 188) (by decide +kernel)) rfl
set_option maxRecDepth 20000 in
theorem wm_V_V_wrap : Jvm.Cond.methodLink R_V 223 y_V_wrap ∈ Wall := in_wall (List.mem_of_getElem? (i := 280) (by decide +kernel)) rfl
set_option maxRecDepth 20000 in
theorem wm_V_M_noteDown : Jvm.Cond.methodLink R_V 227 y_M_noteDown ∈ Wall := in_wall (List.mem_of_getElem? (i := 304) (by decide +kernel)) rfl
set_option maxRecDepth 20000 in
theorem wf_V_M_passed : Jvm.Cond.fieldLink R_V 231 "CapabilityVats$Message" "passed" "[LCapabilityVats$Thing;" ∈ Wall := in_wall (List.mem_of_getElem? (i := 193) (by decide +kernel)) rfl
set_option maxRecDepth 20000 in
theorem wm_V_V_thingOfKind : Jvm.Cond.methodLink R_V 234 y_V_thingOfKind ∈ Wall := in_wall (List.mem_of_getElem? (i := 284) (by decide +kernel)) rfl
set_option maxRecDepth 20000 in
theorem wm_V_V_findWrapper : Jvm.Cond.methodLink R_V 238 y_V_findWrapper ∈ Wall := in_wall (List.mem_of_getElem? (i := 288) (by decide +kernel)) rfl
set_option maxRecDepth 20000 in
theorem wm_V_V_makeWrapper : Jvm.Cond.methodLink R_V 242 y_V_makeWrapper ∈ Wall := in_wall (List.mem_of_getElem? (i := 296) (by decide +kernel)) rfl
set_option maxRecDepth 20000 in
theorem wm_V_V_referenceTo : Jvm.Cond.methodLink R_V 245 y_V_referenceTo ∈ Wall := in_wall (List.mem_of_getElem? (i := 300) (by decide +kernel)) rfl
set_option maxRecDepth 20000 in
theorem wm_V_R_isSame : Jvm.Cond.methodLink R_V 249 y_R_isSame ∈ Wall := in_wall (List.mem_of_getElem? (i := 292) (by decide +kernel)) rfl
set_option maxRecDepth 20000 in
theorem wf_V_M_verb : Jvm.Cond.fieldLink R_V 253 "CapabilityVats$Message" "verb" "I" ∈ Wall := in_wall (List.mem_of_getElem? (i := 180) (by decide +kernel)) rfl
set_option maxRecDepth 20000 in
theorem wm_V_V_answerOfCell : Jvm.Cond.methodLink R_V 256 y_V_answerOfCell ∈ Wall := in_wall (List.mem_of_getElem? (i := 312) (by decide +kernel)) rfl
set_option maxRecDepth 20000 in
theorem wm_V_V_answerOfRevocable : Jvm.Cond.methodLink R_V 260 y_V_answerOfRevocable ∈ Wall := in_wall (List.mem_of_getElem? (i := 320) (by decide +kernel)) rfl
set_option maxRecDepth 20000 in
theorem wm_V_V_answerOfBrand : Jvm.Cond.methodLink R_V 264 y_V_answerOfBrand ∈ Wall := in_wall (List.mem_of_getElem? (i := 327) (by decide +kernel)) rfl
set_option maxRecDepth 20000 in
theorem wm_V_V_makeBox : Jvm.Cond.methodLink R_V 267 y_V_makeBox ∈ Wall := in_wall (List.mem_of_getElem? (i := 331) (by decide +kernel)) rfl
set_option maxRecDepth 20000 in
theorem wm_V_V_unseal : Jvm.Cond.methodLink R_V 271 y_V_unseal ∈ Wall := in_wall (List.mem_of_getElem? (i := 335) (by decide +kernel)) rfl
set_option maxRecDepth 20000 in
theorem wm_V_V_makeMoney : Jvm.Cond.methodLink R_V 274 y_V_makeMoney ∈ Wall := in_wall (List.mem_of_getElem? (i := 339) (by decide +kernel)) rfl
set_option maxRecDepth 20000 in
theorem wm_V_V_answerOfPurse : Jvm.Cond.methodLink R_V 277 y_V_answerOfPurse ∈ Wall := in_wall (List.mem_of_getElem? (i := 348) (by decide +kernel)) rfl
set_option maxRecDepth 20000 in
theorem wm_V_V_makeGate : Jvm.Cond.methodLink R_V 280 y_V_makeGate ∈ Wall := in_wall (List.mem_of_getElem? (i := 316) (by decide +kernel)) rfl
set_option maxRecDepth 20000 in
theorem wm_V_V_truth : Jvm.Cond.methodLink R_V 283 y_V_truth ∈ Wall := in_wall (List.mem_of_getElem? (i := 324) (by decide +kernel)) rfl
set_option maxRecDepth 20000 in
theorem wm_V_V_deposit : Jvm.Cond.methodLink R_V 287 y_V_deposit ∈ Wall := in_wall (List.mem_of_getElem? (i := 352) (by decide +kernel)) rfl
set_option maxRecDepth 20000 in
theorem wm_V_V_split : Jvm.Cond.methodLink R_V 290 y_V_split ∈ Wall := in_wall (List.mem_of_getElem? (i := 356) (by decide +kernel)) rfl
set_option maxRecDepth 20000 in
theorem wm_V_V_isNumberUpTo : Jvm.Cond.methodLink R_V 293 y_V_isNumberUpTo ∈ Wall := in_wall (List.mem_of_getElem? (i := 344) (by decide +kernel)) rfl
set_option maxRecDepth 20000 in
theorem wm_V_H_init : Jvm.Cond.methodLink R_V 297 y_H_init ∈ Wall := in_wall (List.mem_of_getElem? (i := 89) (by decide +kernel)) rfl
set_option maxRecDepth 20000 in
theorem wm_D_O_init : Jvm.Cond.methodLink R_D 1 objectInit ∈ Wall := in_wall (List.mem_of_getElem? (i := 443) (by decide +kernel)) rfl
set_option maxRecDepth 20000 in
theorem wf_D_D_kind : Jvm.Cond.fieldLink R_D 7 "CapabilityVatsModel" "kind" "[I" ∈ Wall := in_wall (List.mem_of_getElem? (i := 445) (by decide +kernel)) rfl
set_option maxRecDepth 20000 in
theorem wf_D_D_home : Jvm.Cond.fieldLink R_D 13 "CapabilityVatsModel" "home" "[I" ∈ Wall := in_wall (List.mem_of_getElem? (i := 446) (by decide +kernel)) rfl
set_option maxRecDepth 20000 in
theorem wf_D_D_link : Jvm.Cond.fieldLink R_D 16 "CapabilityVatsModel" "link" "[I" ∈ Wall := in_wall (List.mem_of_getElem? (i := 447) (by decide +kernel)) rfl
set_option maxRecDepth 20000 in
theorem wf_D_D_balance : Jvm.Cond.fieldLink R_D 19 "CapabilityVatsModel" "balance" "[I" ∈ Wall := in_wall (List.mem_of_getElem? (i := 448) (by decide +kernel)) rfl
set_option maxRecDepth 20000 in
theorem wf_D_D_inward : Jvm.Cond.fieldLink R_D 22 "CapabilityVatsModel" "inward" "[I" ∈ Wall := in_wall (List.mem_of_getElem? (i := 449) (by decide +kernel)) rfl
set_option maxRecDepth 20000 in
theorem wf_D_D_revoked : Jvm.Cond.fieldLink R_D 25 "CapabilityVatsModel" "revoked" "[Z" ∈ Wall := in_wall (List.mem_of_getElem? (i := 450) (by decide +kernel)) rfl
set_option maxRecDepth 20000 in
theorem wf_D_D_ownSort : Jvm.Cond.fieldLink R_D 29 "CapabilityVatsModel" "ownSort" "[I" ∈ Wall := in_wall (List.mem_of_getElem? (i := 451) (by decide +kernel)) rfl
set_option maxRecDepth 20000 in
theorem wf_D_D_own : Jvm.Cond.fieldLink R_D 32 "CapabilityVatsModel" "own" "[I" ∈ Wall := in_wall (List.mem_of_getElem? (i := 452) (by decide +kernel)) rfl
set_option maxRecDepth 20000 in
theorem wf_D_D_slotSort : Jvm.Cond.fieldLink R_D 35 "CapabilityVatsModel" "slotSort" "[I" ∈ Wall := in_wall (List.mem_of_getElem? (i := 453) (by decide +kernel)) rfl
set_option maxRecDepth 20000 in
theorem wf_D_D_slot : Jvm.Cond.fieldLink R_D 38 "CapabilityVatsModel" "slot" "[I" ∈ Wall := in_wall (List.mem_of_getElem? (i := 454) (by decide +kernel)) rfl
set_option maxRecDepth 20000 in
theorem wf_D_D_place : Jvm.Cond.fieldLink R_D 41 "CapabilityVatsModel" "place" "[I" ∈ Wall := in_wall (List.mem_of_getElem? (i := 456) (by decide +kernel)) rfl
set_option maxRecDepth 20000 in
theorem wf_D_D_where : Jvm.Cond.fieldLink R_D 44 "CapabilityVatsModel" "where" "[I" ∈ Wall := in_wall (List.mem_of_getElem? (i := 457) (by decide +kernel)) rfl
set_option maxRecDepth 20000 in
theorem wf_D_D_stamp : Jvm.Cond.fieldLink R_D 47 "CapabilityVatsModel" "stamp" "[I" ∈ Wall := in_wall (List.mem_of_getElem? (i := 458) (by decide +kernel)) rfl
set_option maxRecDepth 20000 in
theorem wf_D_D_targetSort : Jvm.Cond.fieldLink R_D 50 "CapabilityVatsModel" "targetSort" "[I" ∈ Wall := in_wall (List.mem_of_getElem? (i := 460) (by decide +kernel)) rfl
set_option maxRecDepth 20000 in
theorem wf_D_D_target : Jvm.Cond.fieldLink R_D 53 "CapabilityVatsModel" "target" "[I" ∈ Wall := in_wall (List.mem_of_getElem? (i := 461) (by decide +kernel)) rfl
set_option maxRecDepth 20000 in
theorem wf_D_D_verb : Jvm.Cond.fieldLink R_D 56 "CapabilityVatsModel" "verb" "[I" ∈ Wall := in_wall (List.mem_of_getElem? (i := 462) (by decide +kernel)) rfl
set_option maxRecDepth 20000 in
theorem wf_D_D_argumentSort : Jvm.Cond.fieldLink R_D 59 "CapabilityVatsModel" "argumentSort" "[I" ∈ Wall := in_wall (List.mem_of_getElem? (i := 463) (by decide +kernel)) rfl
set_option maxRecDepth 20000 in
theorem wf_D_D_argument : Jvm.Cond.fieldLink R_D 62 "CapabilityVatsModel" "argument" "[I" ∈ Wall := in_wall (List.mem_of_getElem? (i := 464) (by decide +kernel)) rfl
set_option maxRecDepth 20000 in
theorem wf_D_D_resolved : Jvm.Cond.fieldLink R_D 65 "CapabilityVatsModel" "resolved" "[Z" ∈ Wall := in_wall (List.mem_of_getElem? (i := 465) (by decide +kernel)) rfl
set_option maxRecDepth 20000 in
theorem wf_D_D_endSort : Jvm.Cond.fieldLink R_D 68 "CapabilityVatsModel" "endSort" "[I" ∈ Wall := in_wall (List.mem_of_getElem? (i := 466) (by decide +kernel)) rfl
set_option maxRecDepth 20000 in
theorem wf_D_D_end : Jvm.Cond.fieldLink R_D 71 "CapabilityVatsModel" "end" "[I" ∈ Wall := in_wall (List.mem_of_getElem? (i := 467) (by decide +kernel)) rfl
set_option maxRecDepth 20000 in
theorem wf_D_D_notes : Jvm.Cond.fieldLink R_D 74 "CapabilityVatsModel" "notes" "[I" ∈ Wall := in_wall (List.mem_of_getElem? (i := 468) (by decide +kernel)) rfl
set_option maxRecDepth 20000 in
theorem wf_D_D_noted : Jvm.Cond.fieldLink R_D 77 "CapabilityVatsModel" "noted" "[I" ∈ Wall := in_wall (List.mem_of_getElem? (i := 469) (by decide +kernel)) rfl
set_option maxRecDepth 20000 in
theorem wf_D_D_notedInward : Jvm.Cond.fieldLink R_D 80 "CapabilityVatsModel" "notedInward" "[I" ∈ Wall := in_wall (List.mem_of_getElem? (i := 470) (by decide +kernel)) rfl
set_option maxRecDepth 20000 in
theorem wf_D_D_sort : Jvm.Cond.fieldLink R_D 83 "CapabilityVatsModel" "sort" "I" ∈ Wall := in_wall (List.mem_of_getElem? (i := 471) (by decide +kernel)) rfl
set_option maxRecDepth 20000 in
theorem wf_D_D_ref : Jvm.Cond.fieldLink R_D 87 "CapabilityVatsModel" "ref" "I" ∈ Wall := in_wall (List.mem_of_getElem? (i := 472) (by decide +kernel)) rfl
set_option maxRecDepth 20000 in
theorem wm_D_D_hold : Jvm.Cond.methodLink R_D 90 y_D_hold ∈ Wall := in_wall (List.mem_of_getElem? (i := 573) (by decide +kernel)) rfl
set_option maxRecDepth 20000 in
theorem wf_D_D_objects : Jvm.Cond.fieldLink R_D 94 "CapabilityVatsModel" "objects" "I" ∈ Wall := in_wall (List.mem_of_getElem? (i := 444) (by decide +kernel)) rfl
set_option maxRecDepth 20000 in
theorem wm_D_D_broken : Jvm.Cond.methodLink R_D 97 y_D_broken ∈ Wall := in_wall (List.mem_of_getElem? (i := 581) (by decide +kernel)) rfl
set_option maxRecDepth 20000 in
theorem wm_D_D_make : Jvm.Cond.methodLink R_D 100 y_D_make ∈ Wall := in_wall (List.mem_of_getElem? (i := 541) (by decide +kernel)) rfl
set_option maxRecDepth 20000 in
theorem wf_D_D_stamps : Jvm.Cond.fieldLink R_D 104 "CapabilityVatsModel" "stamps" "I" ∈ Wall := in_wall (List.mem_of_getElem? (i := 459) (by decide +kernel)) rfl
set_option maxRecDepth 20000 in
theorem wf_D_D_messages : Jvm.Cond.fieldLink R_D 107 "CapabilityVatsModel" "messages" "I" ∈ Wall := in_wall (List.mem_of_getElem? (i := 455) (by decide +kernel)) rfl
set_option maxRecDepth 20000 in
theorem wm_D_D_direct : Jvm.Cond.methodLink R_D 110 y_D_direct ∈ Wall := in_wall (List.mem_of_getElem? (i := 565) (by decide +kernel)) rfl
set_option maxRecDepth 20000 in
theorem wm_D_D_released : Jvm.Cond.methodLink R_D 114 y_D_released ∈ Wall := in_wall (List.mem_of_getElem? (i := 589) (by decide +kernel)) rfl
set_option maxRecDepth 20000 in
theorem wm_D_D_look : Jvm.Cond.methodLink R_D 118 y_D_look ∈ Wall := in_wall (List.mem_of_getElem? (i := 569) (by decide +kernel)) rfl
set_option maxRecDepth 20000 in
theorem wm_D_D_stand : Jvm.Cond.methodLink R_D 121 y_D_stand ∈ Wall := in_wall (List.mem_of_getElem? (i := 577) (by decide +kernel)) rfl
set_option maxRecDepth 20000 in
theorem wm_D_D_settle : Jvm.Cond.methodLink R_D 125 y_D_settle ∈ Wall := in_wall (List.mem_of_getElem? (i := 585) (by decide +kernel)) rfl
set_option maxRecDepth 20000 in
theorem wm_D_D_out : Jvm.Cond.methodLink R_D 128 y_D_out ∈ Wall := in_wall (List.mem_of_getElem? (i := 538) (by decide +kernel)) rfl
set_option maxRecDepth 20000 in
theorem wm_D_D_isSlot : Jvm.Cond.methodLink R_D 132 y_D_isSlot ∈ Wall := in_wall (List.mem_of_getElem? (i := 549) (by decide +kernel)) rfl
set_option maxRecDepth 20000 in
theorem wm_D_D_route : Jvm.Cond.methodLink R_D 135 y_D_route ∈ Wall := in_wall (List.mem_of_getElem? (i := 561) (by decide +kernel)) rfl
set_option maxRecDepth 20000 in
theorem wm_D_D_nth : Jvm.Cond.methodLink R_D 138 y_D_nth ∈ Wall := in_wall (List.mem_of_getElem? (i := 597) (by decide +kernel)) rfl
set_option maxRecDepth 20000 in
theorem wm_D_D_answers : Jvm.Cond.methodLink R_D 141 y_D_answers ∈ Wall := in_wall (List.mem_of_getElem? (i := 601) (by decide +kernel)) rfl
set_option maxRecDepth 20000 in
theorem wm_D_D_asNoted : Jvm.Cond.methodLink R_D 144 y_D_asNoted ∈ Wall := in_wall (List.mem_of_getElem? (i := 646) (by decide +kernel)) rfl
set_option maxRecDepth 20000 in
theorem wm_D_D_relays : Jvm.Cond.methodLink R_D 147 y_D_relays ∈ Wall := in_wall (List.mem_of_getElem? (i := 605) (by decide +kernel)) rfl
set_option maxRecDepth 20000 in
theorem wm_D_D_ofCell : Jvm.Cond.methodLink R_D 150 y_D_ofCell ∈ Wall := in_wall (List.mem_of_getElem? (i := 617) (by decide +kernel)) rfl
set_option maxRecDepth 20000 in
theorem wm_D_D_ofGuard : Jvm.Cond.methodLink R_D 153 y_D_ofGuard ∈ Wall := in_wall (List.mem_of_getElem? (i := 621) (by decide +kernel)) rfl
set_option maxRecDepth 20000 in
theorem wm_D_D_fresh : Jvm.Cond.methodLink R_D 156 y_D_fresh ∈ Wall := in_wall (List.mem_of_getElem? (i := 613) (by decide +kernel)) rfl
set_option maxRecDepth 20000 in
theorem wm_D_D_ofSealer : Jvm.Cond.methodLink R_D 159 y_D_ofSealer ∈ Wall := in_wall (List.mem_of_getElem? (i := 625) (by decide +kernel)) rfl
set_option maxRecDepth 20000 in
theorem wm_D_D_ofUnsealer : Jvm.Cond.methodLink R_D 162 y_D_ofUnsealer ∈ Wall := in_wall (List.mem_of_getElem? (i := 629) (by decide +kernel)) rfl
set_option maxRecDepth 20000 in
theorem wm_D_D_ofMint : Jvm.Cond.methodLink R_D 165 y_D_ofMint ∈ Wall := in_wall (List.mem_of_getElem? (i := 637) (by decide +kernel)) rfl
set_option maxRecDepth 20000 in
theorem wm_D_D_ofPurse : Jvm.Cond.methodLink R_D 168 y_D_ofPurse ∈ Wall := in_wall (List.mem_of_getElem? (i := 642) (by decide +kernel)) rfl
set_option maxRecDepth 20000 in
theorem wm_D_D_wrap : Jvm.Cond.methodLink R_D 171 y_D_wrap ∈ Wall := in_wall (List.mem_of_getElem? (i := 609) (by decide +kernel)) rfl
set_option maxRecDepth 20000 in
theorem wm_D_D_isObject : Jvm.Cond.methodLink R_D 174 y_D_isObject ∈ Wall := in_wall (List.mem_of_getElem? (i := 633) (by decide +kernel)) rfl
set_option maxRecDepth 20000 in
theorem wm_D_D_seen : Jvm.Cond.methodLink R_D 179 y_D_seen ∈ Wall := in_wall (List.mem_of_getElem? (i := 666) (by decide +kernel)) rfl
set_option maxRecDepth 20000 in
theorem wm_D_D_count : Jvm.Cond.methodLink R_D 182 y_D_count ∈ Wall := in_wall (List.mem_of_getElem? (i := 698) (by decide +kernel)) rfl
set_option maxRecDepth 20000 in
theorem wm_L_O_init : Jvm.Cond.methodLink R_L 1 objectInit ∈ Wall := in_wall (List.mem_of_getElem? (i := 40) (by decide +kernel)) rfl
set_option maxRecDepth 20000 in
theorem wf_L_M_behind : Jvm.Cond.fieldLink R_L 7 "CapabilityVats$Message" "behind" "LCapabilityVats$Message;" ∈ Wall := in_wall (List.mem_of_getElem? (i := 191) (by decide +kernel)) rfl
set_option maxRecDepth 20000 in
theorem wf_L_L_last : Jvm.Cond.fieldLink R_L 13 "CapabilityVats$Line" "last" "LCapabilityVats$Message;" ∈ Wall := in_wall (List.mem_of_getElem? (i := 42) (by decide +kernel)) rfl
set_option maxRecDepth 20000 in
theorem wf_L_L_first : Jvm.Cond.fieldLink R_L 18 "CapabilityVats$Line" "first" "LCapabilityVats$Message;" ∈ Wall := in_wall (List.mem_of_getElem? (i := 41) (by decide +kernel)) rfl
set_option maxRecDepth 20000 in
theorem wf_L_L_length : Jvm.Cond.fieldLink R_L 21 "CapabilityVats$Line" "length" "I" ∈ Wall := in_wall (List.mem_of_getElem? (i := 43) (by decide +kernel)) rfl
set_option maxRecDepth 20000 in
theorem wm_L_L_take : Jvm.Cond.methodLink R_L 25 y_L_take ∈ Wall := in_wall (List.mem_of_getElem? (i := 263) (by decide +kernel)) rfl
set_option maxRecDepth 20000 in
theorem wm_L_L_join : Jvm.Cond.methodLink R_L 29 y_L_join ∈ Wall := in_wall (List.mem_of_getElem? (i := 264) (by decide +kernel)) rfl
set_option maxRecDepth 20000 in
theorem wm_M_O_init : Jvm.Cond.methodLink R_M 3 objectInit ∈ Wall := in_wall (List.mem_of_getElem? (i := 171) (by decide +kernel)) rfl
set_option maxRecDepth 20000 in
theorem wk_M_L : Jvm.Cond.classLink R_M 9 R_L ∈ Wall := in_wall (List.mem_of_getElem? (i := 172) (by decide +kernel)) rfl
set_option maxRecDepth 20000 in
theorem wf_M_M_waiters : Jvm.Cond.fieldLink R_M 12 "CapabilityVats$Message" "waiters" "LCapabilityVats$Line;" ∈ Wall := in_wall (List.mem_of_getElem? (i := 183) (by decide +kernel)) rfl
set_option maxRecDepth 20000 in
theorem wk_M_H : Jvm.Cond.classLink R_M 18 R_H ∈ Wall := in_wall (List.mem_of_getElem? (i := 174) (by decide +kernel)) rfl
set_option maxRecDepth 20000 in
theorem wf_M_M_passed : Jvm.Cond.fieldLink R_M 20 "CapabilityVats$Message" "passed" "[LCapabilityVats$Thing;" ∈ Wall := in_wall (List.mem_of_getElem? (i := 192) (by decide +kernel)) rfl
set_option maxRecDepth 20000 in
theorem wf_M_M_number : Jvm.Cond.fieldLink R_M 24 "CapabilityVats$Message" "number" "I" ∈ Wall := in_wall (List.mem_of_getElem? (i := 177) (by decide +kernel)) rfl
set_option maxRecDepth 20000 in
theorem wf_M_M_target : Jvm.Cond.fieldLink R_M 28 "CapabilityVats$Message" "target" "LCapabilityVats$Reference;" ∈ Wall := in_wall (List.mem_of_getElem? (i := 185) (by decide +kernel)) rfl
set_option maxRecDepth 20000 in
theorem wf_M_M_verb : Jvm.Cond.fieldLink R_M 32 "CapabilityVats$Message" "verb" "I" ∈ Wall := in_wall (List.mem_of_getElem? (i := 179) (by decide +kernel)) rfl
set_option maxRecDepth 20000 in
theorem wf_M_M_argument : Jvm.Cond.fieldLink R_M 35 "CapabilityVats$Message" "argument" "LCapabilityVats$Reference;" ∈ Wall := in_wall (List.mem_of_getElem? (i := 187) (by decide +kernel)) rfl
set_option maxRecDepth 20000 in
theorem wk_M_R : Jvm.Cond.classLink R_M 38 R_R ∈ Wall := in_wall (List.mem_of_getElem? (i := 175) (by decide +kernel)) rfl
set_option maxRecDepth 20000 in
theorem wm_M_R_init : Jvm.Cond.methodLink R_M 40 y_R_init ∈ Wall := in_wall (List.mem_of_getElem? (i := 176) (by decide +kernel)) rfl
set_option maxRecDepth 20000 in
theorem wf_M_M_promise : Jvm.Cond.fieldLink R_M 43 "CapabilityVats$Message" "promise" "LCapabilityVats$Reference;" ∈ Wall := in_wall (List.mem_of_getElem? (i := 181) (by decide +kernel)) rfl
set_option maxRecDepth 20000 in
theorem wf_M_M_noteCount : Jvm.Cond.fieldLink R_M 46 "CapabilityVats$Message" "noteCount" "I" ∈ Wall := in_wall (List.mem_of_getElem? (i := 194) (by decide +kernel)) rfl
set_option maxRecDepth 20000 in
theorem wm_R_O_init : Jvm.Cond.methodLink R_R 1 objectInit ∈ Wall := in_wall (List.mem_of_getElem? (i := 20) (by decide +kernel)) rfl
set_option maxRecDepth 20000 in
theorem wf_R_R_sort : Jvm.Cond.fieldLink R_R 7 "CapabilityVats$Reference" "sort" "I" ∈ Wall := in_wall (List.mem_of_getElem? (i := 21) (by decide +kernel)) rfl
set_option maxRecDepth 20000 in
theorem wf_R_R_index : Jvm.Cond.fieldLink R_R 13 "CapabilityVats$Reference" "index" "I" ∈ Wall := in_wall (List.mem_of_getElem? (i := 23) (by decide +kernel)) rfl
set_option maxRecDepth 20000 in
theorem wm_H_O_init : Jvm.Cond.methodLink R_H 3 objectInit ∈ Wall := in_wall (List.mem_of_getElem? (i := 92) (by decide +kernel)) rfl
set_option maxRecDepth 20000 in
theorem wk_H_R : Jvm.Cond.classLink R_H 9 R_R ∈ Wall := in_wall (List.mem_of_getElem? (i := 93) (by decide +kernel)) rfl
set_option maxRecDepth 20000 in
theorem wf_H_H_slots : Jvm.Cond.fieldLink R_H 11 "CapabilityVats$Thing" "slots" "[LCapabilityVats$Reference;" ∈ Wall := in_wall (List.mem_of_getElem? (i := 106) (by decide +kernel)) rfl
set_option maxRecDepth 20000 in
theorem wf_H_H_number : Jvm.Cond.fieldLink R_H 17 "CapabilityVats$Thing" "number" "I" ∈ Wall := in_wall (List.mem_of_getElem? (i := 96) (by decide +kernel)) rfl
set_option maxRecDepth 20000 in
theorem wf_H_H_kind : Jvm.Cond.fieldLink R_H 21 "CapabilityVats$Thing" "kind" "I" ∈ Wall := in_wall (List.mem_of_getElem? (i := 98) (by decide +kernel)) rfl
set_option maxRecDepth 20000 in
theorem wf_H_H_home : Jvm.Cond.fieldLink R_H 24 "CapabilityVats$Thing" "home" "I" ∈ Wall := in_wall (List.mem_of_getElem? (i := 100) (by decide +kernel)) rfl
set_option maxRecDepth 20000 in
theorem wf_H_H_owner : Jvm.Cond.fieldLink R_H 27 "CapabilityVats$Thing" "owner" "LCapabilityVats$Thing;" ∈ Wall := in_wall (List.mem_of_getElem? (i := 102) (by decide +kernel)) rfl
set_option maxRecDepth 20000 in
theorem wm_H_R_init : Jvm.Cond.methodLink R_H 31 y_R_init ∈ Wall := in_wall (List.mem_of_getElem? (i := 95) (by decide +kernel)) rfl
set_option maxRecDepth 20000 in
theorem wf_H_H_self : Jvm.Cond.fieldLink R_H 34 "CapabilityVats$Thing" "self" "LCapabilityVats$Reference;" ∈ Wall := in_wall (List.mem_of_getElem? (i := 104) (by decide +kernel)) rfl
set_option maxRecDepth 20000 in
theorem wf_H_H_held : Jvm.Cond.fieldLink R_H 38 "CapabilityVats$Thing" "held" "LCapabilityVats$Reference;" ∈ Wall := in_wall (List.mem_of_getElem? (i := 108) (by decide +kernel)) rfl
set_option maxRecDepth 20000 in
theorem wf_H_H_revoked : Jvm.Cond.fieldLink R_H 41 "CapabilityVats$Thing" "revoked" "Z" ∈ Wall := in_wall (List.mem_of_getElem? (i := 111) (by decide +kernel)) rfl
set_option maxRecDepth 20000 in
theorem wk_W_V : Jvm.Cond.classLink R_W 7 R_V ∈ Wall := in_wall (List.mem_of_getElem? (i := 7) (by decide +kernel)) rfl
set_option maxRecDepth 20000 in
theorem wm_W_V_init : Jvm.Cond.methodLink R_W 9 y_V_init ∈ Wall := in_wall (List.mem_of_getElem? (i := 9) (by decide +kernel)) rfl
set_option maxRecDepth 20000 in
theorem wk_W_D : Jvm.Cond.classLink R_W 10 R_D ∈ Wall := in_wall (List.mem_of_getElem? (i := 438) (by decide +kernel)) rfl
set_option maxRecDepth 20000 in
theorem wm_W_D_init : Jvm.Cond.methodLink R_W 12 y_D_init ∈ Wall := in_wall (List.mem_of_getElem? (i := 440) (by decide +kernel)) rfl
set_option maxRecDepth 20000 in
theorem wm_W_V_cell : Jvm.Cond.methodLink R_W 13 y_V_cell ∈ Wall := in_wall (List.mem_of_getElem? (i := 77) (by decide +kernel)) rfl
set_option maxRecDepth 20000 in
theorem wm_W_D_cell : Jvm.Cond.methodLink R_W 17 y_D_cell ∈ Wall := in_wall (List.mem_of_getElem? (i := 534) (by decide +kernel)) rfl
set_option maxRecDepth 20000 in
theorem wm_W_V_number : Jvm.Cond.methodLink R_W 18 y_V_number ∈ Wall := in_wall (List.mem_of_getElem? (i := 138) (by decide +kernel)) rfl
set_option maxRecDepth 20000 in
theorem wm_W_D_number : Jvm.Cond.methodLink R_W 22 y_D_number ∈ Wall := in_wall (List.mem_of_getElem? (i := 545) (by decide +kernel)) rfl
set_option maxRecDepth 20000 in
theorem wm_W_V_introduce : Jvm.Cond.methodLink R_W 23 y_V_introduce ∈ Wall := in_wall (List.mem_of_getElem? (i := 156) (by decide +kernel)) rfl
set_option maxRecDepth 20000 in
theorem wm_W_D_introduce : Jvm.Cond.methodLink R_W 26 y_D_introduce ∈ Wall := in_wall (List.mem_of_getElem? (i := 553) (by decide +kernel)) rfl
set_option maxRecDepth 20000 in
theorem wm_W_V_send : Jvm.Cond.methodLink R_W 27 y_V_send ∈ Wall := in_wall (List.mem_of_getElem? (i := 160) (by decide +kernel)) rfl
set_option maxRecDepth 20000 in
theorem wm_W_D_send : Jvm.Cond.methodLink R_W 31 y_D_send ∈ Wall := in_wall (List.mem_of_getElem? (i := 557) (by decide +kernel)) rfl
set_option maxRecDepth 20000 in
theorem wm_W_V_turn : Jvm.Cond.methodLink R_W 32 y_V_turn ∈ Wall := in_wall (List.mem_of_getElem? (i := 265) (by decide +kernel)) rfl
set_option maxRecDepth 20000 in
theorem wm_W_D_turn : Jvm.Cond.methodLink R_W 35 y_D_turn ∈ Wall := in_wall (List.mem_of_getElem? (i := 593) (by decide +kernel)) rfl
set_option maxRecDepth 20000 in
theorem wm_W_V_objects : Jvm.Cond.methodLink R_W 36 y_V_objects ∈ Wall := in_wall (List.mem_of_getElem? (i := 364) (by decide +kernel)) rfl
set_option maxRecDepth 20000 in
theorem wm_W_D_objects : Jvm.Cond.methodLink R_W 40 y_D_objects ∈ Wall := in_wall (List.mem_of_getElem? (i := 650) (by decide +kernel)) rfl
set_option maxRecDepth 20000 in
theorem wm_W_V_kind : Jvm.Cond.methodLink R_W 41 y_V_kind ∈ Wall := in_wall (List.mem_of_getElem? (i := 368) (by decide +kernel)) rfl
set_option maxRecDepth 20000 in
theorem wm_W_D_kind : Jvm.Cond.methodLink R_W 44 y_D_kind ∈ Wall := in_wall (List.mem_of_getElem? (i := 654) (by decide +kernel)) rfl
set_option maxRecDepth 20000 in
theorem wm_W_V_home : Jvm.Cond.methodLink R_W 45 y_V_home ∈ Wall := in_wall (List.mem_of_getElem? (i := 372) (by decide +kernel)) rfl
set_option maxRecDepth 20000 in
theorem wm_W_D_home : Jvm.Cond.methodLink R_W 48 y_D_home ∈ Wall := in_wall (List.mem_of_getElem? (i := 658) (by decide +kernel)) rfl
set_option maxRecDepth 20000 in
theorem wm_W_V_what : Jvm.Cond.methodLink R_W 49 y_V_what ∈ Wall := in_wall (List.mem_of_getElem? (i := 376) (by decide +kernel)) rfl
set_option maxRecDepth 20000 in
theorem wm_W_D_what : Jvm.Cond.methodLink R_W 53 y_D_what ∈ Wall := in_wall (List.mem_of_getElem? (i := 662) (by decide +kernel)) rfl
set_option maxRecDepth 20000 in
theorem wm_W_V_which : Jvm.Cond.methodLink R_W 54 y_V_which ∈ Wall := in_wall (List.mem_of_getElem? (i := 388) (by decide +kernel)) rfl
set_option maxRecDepth 20000 in
theorem wm_W_D_which : Jvm.Cond.methodLink R_W 57 y_D_which ∈ Wall := in_wall (List.mem_of_getElem? (i := 670) (by decide +kernel)) rfl
set_option maxRecDepth 20000 in
theorem wm_W_V_detail : Jvm.Cond.methodLink R_W 58 y_V_detail ∈ Wall := in_wall (List.mem_of_getElem? (i := 392) (by decide +kernel)) rfl
set_option maxRecDepth 20000 in
theorem wm_W_D_detail : Jvm.Cond.methodLink R_W 61 y_D_detail ∈ Wall := in_wall (List.mem_of_getElem? (i := 674) (by decide +kernel)) rfl
set_option maxRecDepth 20000 in
theorem wm_W_V_messages : Jvm.Cond.methodLink R_W 62 y_V_messages ∈ Wall := in_wall (List.mem_of_getElem? (i := 402) (by decide +kernel)) rfl
set_option maxRecDepth 20000 in
theorem wm_W_D_messages : Jvm.Cond.methodLink R_W 65 y_D_messages ∈ Wall := in_wall (List.mem_of_getElem? (i := 678) (by decide +kernel)) rfl
set_option maxRecDepth 20000 in
theorem wm_W_V_place : Jvm.Cond.methodLink R_W 66 y_V_place ∈ Wall := in_wall (List.mem_of_getElem? (i := 406) (by decide +kernel)) rfl
set_option maxRecDepth 20000 in
theorem wm_W_D_place : Jvm.Cond.methodLink R_W 69 y_D_place ∈ Wall := in_wall (List.mem_of_getElem? (i := 682) (by decide +kernel)) rfl
set_option maxRecDepth 20000 in
theorem wm_W_V_result : Jvm.Cond.methodLink R_W 70 y_V_result ∈ Wall := in_wall (List.mem_of_getElem? (i := 410) (by decide +kernel)) rfl
set_option maxRecDepth 20000 in
theorem wm_W_D_result : Jvm.Cond.methodLink R_W 73 y_D_result ∈ Wall := in_wall (List.mem_of_getElem? (i := 686) (by decide +kernel)) rfl
set_option maxRecDepth 20000 in
theorem wm_W_V_value : Jvm.Cond.methodLink R_W 74 y_V_value ∈ Wall := in_wall (List.mem_of_getElem? (i := 414) (by decide +kernel)) rfl
set_option maxRecDepth 20000 in
theorem wm_W_D_value : Jvm.Cond.methodLink R_W 77 y_D_value ∈ Wall := in_wall (List.mem_of_getElem? (i := 690) (by decide +kernel)) rfl
set_option maxRecDepth 20000 in
theorem wm_W_V_queued : Jvm.Cond.methodLink R_W 78 y_V_queued ∈ Wall := in_wall (List.mem_of_getElem? (i := 418) (by decide +kernel)) rfl
set_option maxRecDepth 20000 in
theorem wm_W_D_queued : Jvm.Cond.methodLink R_W 81 y_D_queued ∈ Wall := in_wall (List.mem_of_getElem? (i := 694) (by decide +kernel)) rfl
set_option maxRecDepth 20000 in
theorem wm_W_V_next : Jvm.Cond.methodLink R_W 82 y_V_next ∈ Wall := in_wall (List.mem_of_getElem? (i := 422) (by decide +kernel)) rfl
set_option maxRecDepth 20000 in
theorem wm_W_D_next : Jvm.Cond.methodLink R_W 85 y_D_next ∈ Wall := in_wall (List.mem_of_getElem? (i := 702) (by decide +kernel)) rfl
set_option maxRecDepth 20000 in
theorem wm_W_V_waiting : Jvm.Cond.methodLink R_W 86 y_V_waiting ∈ Wall := in_wall (List.mem_of_getElem? (i := 430) (by decide +kernel)) rfl
set_option maxRecDepth 20000 in
theorem wm_W_D_waiting : Jvm.Cond.methodLink R_W 89 y_D_waiting ∈ Wall := in_wall (List.mem_of_getElem? (i := 706) (by decide +kernel)) rfl
set_option maxRecDepth 20000 in
theorem wm_W_V_notes : Jvm.Cond.methodLink R_W 90 y_V_notes ∈ Wall := in_wall (List.mem_of_getElem? (i := 434) (by decide +kernel)) rfl
set_option maxRecDepth 20000 in
theorem wm_W_D_notes : Jvm.Cond.methodLink R_W 93 y_D_notes ∈ Wall := in_wall (List.mem_of_getElem? (i := 710) (by decide +kernel)) rfl
set_option maxRecDepth 20000 in
theorem wi_V_init : Jvm.Cond.instanceMethod y_V_init ∈ Wall := in_wall (List.mem_of_getElem? (i := 10) (by decide +kernel)) rfl
set_option maxRecDepth 20000 in
theorem wi_V_cell : Jvm.Cond.instanceMethod y_V_cell ∈ Wall := in_wall (List.mem_of_getElem? (i := 78) (by decide +kernel)) rfl
set_option maxRecDepth 20000 in
theorem ws_V_cell : Jvm.Cond.selects R_V y_V_cell y_V_cell ∈ Wall := in_wall (List.mem_of_getElem? (i := 79) (by decide +kernel)) rfl
set_option maxRecDepth 20000 in
theorem wi_V_number : Jvm.Cond.instanceMethod y_V_number ∈ Wall := in_wall (List.mem_of_getElem? (i := 139) (by decide +kernel)) rfl
set_option maxRecDepth 20000 in
theorem ws_V_number : Jvm.Cond.selects R_V y_V_number y_V_number ∈ Wall := in_wall (List.mem_of_getElem? (i := 140) (by decide +kernel)) rfl
set_option maxRecDepth 20000 in
theorem wi_V_introduce : Jvm.Cond.instanceMethod y_V_introduce ∈ Wall := in_wall (List.mem_of_getElem? (i := 157) (by decide +kernel)) rfl
set_option maxRecDepth 20000 in
theorem ws_V_introduce : Jvm.Cond.selects R_V y_V_introduce y_V_introduce ∈ Wall := in_wall (List.mem_of_getElem? (i := 158) (by decide +kernel)) rfl
set_option maxRecDepth 20000 in
theorem wi_V_send : Jvm.Cond.instanceMethod y_V_send ∈ Wall := in_wall (List.mem_of_getElem? (i := 161) (by decide +kernel)) rfl
set_option maxRecDepth 20000 in
theorem ws_V_send : Jvm.Cond.selects R_V y_V_send y_V_send ∈ Wall := in_wall (List.mem_of_getElem? (i := 162) (by decide +kernel)) rfl
set_option maxRecDepth 20000 in
theorem wi_V_turn : Jvm.Cond.instanceMethod y_V_turn ∈ Wall := in_wall (List.mem_of_getElem? (i := 266) (by decide +kernel)) rfl
set_option maxRecDepth 20000 in
theorem ws_V_turn : Jvm.Cond.selects R_V y_V_turn y_V_turn ∈ Wall := in_wall (List.mem_of_getElem? (i := 267) (by decide +kernel)) rfl
set_option maxRecDepth 20000 in
theorem wi_V_objects : Jvm.Cond.instanceMethod y_V_objects ∈ Wall := in_wall (List.mem_of_getElem? (i := 365) (by decide +kernel)) rfl
set_option maxRecDepth 20000 in
theorem ws_V_objects : Jvm.Cond.selects R_V y_V_objects y_V_objects ∈ Wall := in_wall (List.mem_of_getElem? (i := 366) (by decide +kernel)) rfl
set_option maxRecDepth 20000 in
theorem wi_V_kind : Jvm.Cond.instanceMethod y_V_kind ∈ Wall := in_wall (List.mem_of_getElem? (i := 369) (by decide +kernel)) rfl
set_option maxRecDepth 20000 in
theorem ws_V_kind : Jvm.Cond.selects R_V y_V_kind y_V_kind ∈ Wall := in_wall (List.mem_of_getElem? (i := 370) (by decide +kernel)) rfl
set_option maxRecDepth 20000 in
theorem wi_V_home : Jvm.Cond.instanceMethod y_V_home ∈ Wall := in_wall (List.mem_of_getElem? (i := 373) (by decide +kernel)) rfl
set_option maxRecDepth 20000 in
theorem ws_V_home : Jvm.Cond.selects R_V y_V_home y_V_home ∈ Wall := in_wall (List.mem_of_getElem? (i := 374) (by decide +kernel)) rfl
set_option maxRecDepth 20000 in
theorem wi_V_what : Jvm.Cond.instanceMethod y_V_what ∈ Wall := in_wall (List.mem_of_getElem? (i := 377) (by decide +kernel)) rfl
set_option maxRecDepth 20000 in
theorem ws_V_what : Jvm.Cond.selects R_V y_V_what y_V_what ∈ Wall := in_wall (List.mem_of_getElem? (i := 378) (by decide +kernel)) rfl
set_option maxRecDepth 20000 in
theorem wi_V_which : Jvm.Cond.instanceMethod y_V_which ∈ Wall := in_wall (List.mem_of_getElem? (i := 389) (by decide +kernel)) rfl
set_option maxRecDepth 20000 in
theorem ws_V_which : Jvm.Cond.selects R_V y_V_which y_V_which ∈ Wall := in_wall (List.mem_of_getElem? (i := 390) (by decide +kernel)) rfl
set_option maxRecDepth 20000 in
theorem wi_V_detail : Jvm.Cond.instanceMethod y_V_detail ∈ Wall := in_wall (List.mem_of_getElem? (i := 393) (by decide +kernel)) rfl
set_option maxRecDepth 20000 in
theorem ws_V_detail : Jvm.Cond.selects R_V y_V_detail y_V_detail ∈ Wall := in_wall (List.mem_of_getElem? (i := 394) (by decide +kernel)) rfl
set_option maxRecDepth 20000 in
theorem wi_V_messages : Jvm.Cond.instanceMethod y_V_messages ∈ Wall := in_wall (List.mem_of_getElem? (i := 403) (by decide +kernel)) rfl
set_option maxRecDepth 20000 in
theorem ws_V_messages : Jvm.Cond.selects R_V y_V_messages y_V_messages ∈ Wall := in_wall (List.mem_of_getElem? (i := 404) (by decide +kernel)) rfl
set_option maxRecDepth 20000 in
theorem wi_V_place : Jvm.Cond.instanceMethod y_V_place ∈ Wall := in_wall (List.mem_of_getElem? (i := 407) (by decide +kernel)) rfl
set_option maxRecDepth 20000 in
theorem ws_V_place : Jvm.Cond.selects R_V y_V_place y_V_place ∈ Wall := in_wall (List.mem_of_getElem? (i := 408) (by decide +kernel)) rfl
set_option maxRecDepth 20000 in
theorem wi_V_result : Jvm.Cond.instanceMethod y_V_result ∈ Wall := in_wall (List.mem_of_getElem? (i := 411) (by decide +kernel)) rfl
set_option maxRecDepth 20000 in
theorem ws_V_result : Jvm.Cond.selects R_V y_V_result y_V_result ∈ Wall := in_wall (List.mem_of_getElem? (i := 412) (by decide +kernel)) rfl
set_option maxRecDepth 20000 in
theorem wi_V_value : Jvm.Cond.instanceMethod y_V_value ∈ Wall := in_wall (List.mem_of_getElem? (i := 415) (by decide +kernel)) rfl
set_option maxRecDepth 20000 in
theorem ws_V_value : Jvm.Cond.selects R_V y_V_value y_V_value ∈ Wall := in_wall (List.mem_of_getElem? (i := 416) (by decide +kernel)) rfl
set_option maxRecDepth 20000 in
theorem wi_V_queued : Jvm.Cond.instanceMethod y_V_queued ∈ Wall := in_wall (List.mem_of_getElem? (i := 419) (by decide +kernel)) rfl
set_option maxRecDepth 20000 in
theorem ws_V_queued : Jvm.Cond.selects R_V y_V_queued y_V_queued ∈ Wall := in_wall (List.mem_of_getElem? (i := 420) (by decide +kernel)) rfl
set_option maxRecDepth 20000 in
theorem wi_V_next : Jvm.Cond.instanceMethod y_V_next ∈ Wall := in_wall (List.mem_of_getElem? (i := 423) (by decide +kernel)) rfl
set_option maxRecDepth 20000 in
theorem ws_V_next : Jvm.Cond.selects R_V y_V_next y_V_next ∈ Wall := in_wall (List.mem_of_getElem? (i := 424) (by decide +kernel)) rfl
set_option maxRecDepth 20000 in
theorem wi_V_waiting : Jvm.Cond.instanceMethod y_V_waiting ∈ Wall := in_wall (List.mem_of_getElem? (i := 431) (by decide +kernel)) rfl
set_option maxRecDepth 20000 in
theorem ws_V_waiting : Jvm.Cond.selects R_V y_V_waiting y_V_waiting ∈ Wall := in_wall (List.mem_of_getElem? (i := 432) (by decide +kernel)) rfl
set_option maxRecDepth 20000 in
theorem wi_V_notes : Jvm.Cond.instanceMethod y_V_notes ∈ Wall := in_wall (List.mem_of_getElem? (i := 435) (by decide +kernel)) rfl
set_option maxRecDepth 20000 in
theorem ws_V_notes : Jvm.Cond.selects R_V y_V_notes y_V_notes ∈ Wall := in_wall (List.mem_of_getElem? (i := 436) (by decide +kernel)) rfl
set_option maxRecDepth 20000 in
theorem wt_V_isVat : Jvm.Cond.static y_V_isVat ∈ Wall := in_wall (List.mem_of_getElem? (i := 82) (by decide +kernel)) rfl
set_option maxRecDepth 20000 in
theorem wt_V_isSlot : Jvm.Cond.static y_V_isSlot ∈ Wall := in_wall (List.mem_of_getElem? (i := 151) (by decide +kernel)) rfl
set_option maxRecDepth 20000 in
theorem wt_V_isSlotOrNone : Jvm.Cond.static y_V_isSlotOrNone ∈ Wall := in_wall (List.mem_of_getElem? (i := 165) (by decide +kernel)) rfl
set_option maxRecDepth 20000 in
theorem wi_V_thingAt : Jvm.Cond.instanceMethod y_V_thingAt ∈ Wall := in_wall (List.mem_of_getElem? (i := 148) (by decide +kernel)) rfl
theorem ws_V_thingAt : Jvm.Cond.selects R_V y_V_thingAt y_V_thingAt ∈ Wall := List.mem_filter.mpr ⟨List.mem_append_left _ (by decide +kernel), rfl⟩
set_option maxRecDepth 20000 in
theorem wi_V_cellAt : Jvm.Cond.instanceMethod y_V_cellAt ∈ Wall := in_wall (List.mem_of_getElem? (i := 144) (by decide +kernel)) rfl
theorem ws_V_cellAt : Jvm.Cond.selects R_V y_V_cellAt y_V_cellAt ∈ Wall := List.mem_filter.mpr ⟨List.mem_append_left _ (by decide +kernel), rfl⟩
set_option maxRecDepth 20000 in
theorem wi_V_messageAt : Jvm.Cond.instanceMethod y_V_messageAt ∈ Wall := in_wall (List.mem_of_getElem? (i := 245) (by decide +kernel)) rfl
theorem ws_V_messageAt : Jvm.Cond.selects R_V y_V_messageAt y_V_messageAt ∈ Wall := List.mem_filter.mpr ⟨List.mem_append_left _ (by decide +kernel), rfl⟩
set_option maxRecDepth 20000 in
theorem wi_V_heldAt : Jvm.Cond.instanceMethod y_V_heldAt ∈ Wall := in_wall (List.mem_of_getElem? (i := 382) (by decide +kernel)) rfl
theorem ws_V_heldAt : Jvm.Cond.selects R_V y_V_heldAt y_V_heldAt ∈ Wall := List.mem_filter.mpr ⟨List.mem_append_left _ (by decide +kernel), rfl⟩
set_option maxRecDepth 20000 in
theorem wt_V_firstDetail : Jvm.Cond.static y_V_firstDetail ∈ Wall := in_wall (List.mem_of_getElem? (i := 397) (by decide +kernel)) rfl
set_option maxRecDepth 20000 in
theorem wt_V_secondDetail : Jvm.Cond.static y_V_secondDetail ∈ Wall := in_wall (List.mem_of_getElem? (i := 400) (by decide +kernel)) rfl
set_option maxRecDepth 20000 in
theorem wi_V_countsAs : Jvm.Cond.instanceMethod y_V_countsAs ∈ Wall := in_wall (List.mem_of_getElem? (i := 241) (by decide +kernel)) rfl
theorem ws_V_countsAs : Jvm.Cond.selects R_V y_V_countsAs y_V_countsAs ∈ Wall := List.mem_filter.mpr ⟨List.mem_append_left _ (by decide +kernel), rfl⟩
set_option maxRecDepth 20000 in
theorem wi_V_thingOf : Jvm.Cond.instanceMethod y_V_thingOf ∈ Wall := in_wall (List.mem_of_getElem? (i := 237) (by decide +kernel)) rfl
theorem ws_V_thingOf : Jvm.Cond.selects R_V y_V_thingOf y_V_thingOf ∈ Wall := List.mem_filter.mpr ⟨List.mem_append_left _ (by decide +kernel), rfl⟩
set_option maxRecDepth 20000 in
theorem wi_V_awaitedBy : Jvm.Cond.instanceMethod y_V_awaitedBy ∈ Wall := in_wall (List.mem_of_getElem? (i := 249) (by decide +kernel)) rfl
theorem ws_V_awaitedBy : Jvm.Cond.selects R_V y_V_awaitedBy y_V_awaitedBy ∈ Wall := List.mem_filter.mpr ⟨List.mem_append_left _ (by decide +kernel), rfl⟩
set_option maxRecDepth 20000 in
theorem wi_V_thingOfKind : Jvm.Cond.instanceMethod y_V_thingOfKind ∈ Wall := in_wall (List.mem_of_getElem? (i := 286) (by decide +kernel)) rfl
theorem ws_V_thingOfKind : Jvm.Cond.selects R_V y_V_thingOfKind y_V_thingOfKind ∈ Wall := List.mem_filter.mpr ⟨List.mem_append_left _ (by decide +kernel), rfl⟩
set_option maxRecDepth 20000 in
theorem wi_V_isNumberUpTo : Jvm.Cond.instanceMethod y_V_isNumberUpTo ∈ Wall := in_wall (List.mem_of_getElem? (i := 346) (by decide +kernel)) rfl
theorem ws_V_isNumberUpTo : Jvm.Cond.selects R_V y_V_isNumberUpTo y_V_isNumberUpTo ∈ Wall := List.mem_filter.mpr ⟨List.mem_append_left _ (by decide +kernel), rfl⟩
set_option maxRecDepth 20000 in
theorem wt_V_numeral : Jvm.Cond.static y_V_numeral ∈ Wall := in_wall (List.mem_of_getElem? (i := 154) (by decide +kernel)) rfl
set_option maxRecDepth 20000 in
theorem wt_V_truth : Jvm.Cond.static y_V_truth ∈ Wall := in_wall (List.mem_of_getElem? (i := 325) (by decide +kernel)) rfl
set_option maxRecDepth 20000 in
theorem wi_V_brokenIfNothing : Jvm.Cond.instanceMethod y_V_brokenIfNothing ∈ Wall := in_wall (List.mem_of_getElem? (i := 257) (by decide +kernel)) rfl
theorem ws_V_brokenIfNothing : Jvm.Cond.selects R_V y_V_brokenIfNothing y_V_brokenIfNothing ∈ Wall := List.mem_filter.mpr ⟨List.mem_append_left _ (by decide +kernel), rfl⟩
set_option maxRecDepth 20000 in
theorem wi_V_referenceTo : Jvm.Cond.instanceMethod y_V_referenceTo ∈ Wall := in_wall (List.mem_of_getElem? (i := 302) (by decide +kernel)) rfl
theorem ws_V_referenceTo : Jvm.Cond.selects R_V y_V_referenceTo y_V_referenceTo ∈ Wall := List.mem_filter.mpr ⟨List.mem_append_left _ (by decide +kernel), rfl⟩
set_option maxRecDepth 20000 in
theorem wi_V_settle : Jvm.Cond.instanceMethod y_V_settle ∈ Wall := in_wall (List.mem_of_getElem? (i := 253) (by decide +kernel)) rfl
theorem ws_V_settle : Jvm.Cond.selects R_V y_V_settle y_V_settle ∈ Wall := List.mem_filter.mpr ⟨List.mem_append_left _ (by decide +kernel), rfl⟩
set_option maxRecDepth 20000 in
theorem wi_V_routeAll : Jvm.Cond.instanceMethod y_V_routeAll ∈ Wall := in_wall (List.mem_of_getElem? (i := 225) (by decide +kernel)) rfl
theorem ws_V_routeAll : Jvm.Cond.selects R_V y_V_routeAll y_V_routeAll ∈ Wall := List.mem_filter.mpr ⟨List.mem_append_left _ (by decide +kernel), rfl⟩
set_option maxRecDepth 20000 in
theorem wi_V_route : Jvm.Cond.instanceMethod y_V_route ∈ Wall := in_wall (List.mem_of_getElem? (i := 233) (by decide +kernel)) rfl
theorem ws_V_route : Jvm.Cond.selects R_V y_V_route y_V_route ∈ Wall := List.mem_filter.mpr ⟨List.mem_append_left _ (by decide +kernel), rfl⟩
set_option maxRecDepth 20000 in
theorem wt_V_relays : Jvm.Cond.static y_V_relays ∈ Wall := in_wall (List.mem_of_getElem? (i := 270) (by decide +kernel)) rfl
set_option maxRecDepth 20000 in
theorem wi_V_relay : Jvm.Cond.instanceMethod y_V_relay ∈ Wall := in_wall (List.mem_of_getElem? (i := 278) (by decide +kernel)) rfl
theorem ws_V_relay : Jvm.Cond.selects R_V y_V_relay y_V_relay ∈ Wall := List.mem_filter.mpr ⟨List.mem_append_left _ (by decide +kernel), rfl⟩
set_option maxRecDepth 20000 in
theorem wi_V_wrapAsNoted : Jvm.Cond.instanceMethod y_V_wrapAsNoted ∈ Wall := in_wall (List.mem_of_getElem? (i := 362) (by decide +kernel)) rfl
theorem ws_V_wrapAsNoted : Jvm.Cond.selects R_V y_V_wrapAsNoted y_V_wrapAsNoted ∈ Wall := List.mem_filter.mpr ⟨List.mem_append_left _ (by decide +kernel), rfl⟩
set_option maxRecDepth 20000 in
theorem wi_V_wrap : Jvm.Cond.instanceMethod y_V_wrap ∈ Wall := in_wall (List.mem_of_getElem? (i := 282) (by decide +kernel)) rfl
theorem ws_V_wrap : Jvm.Cond.selects R_V y_V_wrap y_V_wrap ∈ Wall := List.mem_filter.mpr ⟨List.mem_append_left _ (by decide +kernel), rfl⟩
set_option maxRecDepth 20000 in
theorem wi_V_findWrapper : Jvm.Cond.instanceMethod y_V_findWrapper ∈ Wall := in_wall (List.mem_of_getElem? (i := 290) (by decide +kernel)) rfl
theorem ws_V_findWrapper : Jvm.Cond.selects R_V y_V_findWrapper y_V_findWrapper ∈ Wall := List.mem_filter.mpr ⟨List.mem_append_left _ (by decide +kernel), rfl⟩
set_option maxRecDepth 20000 in
theorem wi_V_makeWrapper : Jvm.Cond.instanceMethod y_V_makeWrapper ∈ Wall := in_wall (List.mem_of_getElem? (i := 298) (by decide +kernel)) rfl
theorem ws_V_makeWrapper : Jvm.Cond.selects R_V y_V_makeWrapper y_V_makeWrapper ∈ Wall := List.mem_filter.mpr ⟨List.mem_append_left _ (by decide +kernel), rfl⟩
set_option maxRecDepth 20000 in
theorem wi_V_answer : Jvm.Cond.instanceMethod y_V_answer ∈ Wall := in_wall (List.mem_of_getElem? (i := 310) (by decide +kernel)) rfl
theorem ws_V_answer : Jvm.Cond.selects R_V y_V_answer y_V_answer ∈ Wall := List.mem_filter.mpr ⟨List.mem_append_left _ (by decide +kernel), rfl⟩
set_option maxRecDepth 20000 in
theorem wi_V_answerOfCell : Jvm.Cond.instanceMethod y_V_answerOfCell ∈ Wall := in_wall (List.mem_of_getElem? (i := 314) (by decide +kernel)) rfl
theorem ws_V_answerOfCell : Jvm.Cond.selects R_V y_V_answerOfCell y_V_answerOfCell ∈ Wall := List.mem_filter.mpr ⟨List.mem_append_left _ (by decide +kernel), rfl⟩
set_option maxRecDepth 20000 in
theorem wi_V_answerOfRevocable : Jvm.Cond.instanceMethod y_V_answerOfRevocable ∈ Wall := in_wall (List.mem_of_getElem? (i := 322) (by decide +kernel)) rfl
theorem ws_V_answerOfRevocable : Jvm.Cond.selects R_V y_V_answerOfRevocable y_V_answerOfRevocable ∈ Wall := List.mem_filter.mpr ⟨List.mem_append_left _ (by decide +kernel), rfl⟩
set_option maxRecDepth 20000 in
theorem wi_V_answerOfBrand : Jvm.Cond.instanceMethod y_V_answerOfBrand ∈ Wall := in_wall (List.mem_of_getElem? (i := 329) (by decide +kernel)) rfl
theorem ws_V_answerOfBrand : Jvm.Cond.selects R_V y_V_answerOfBrand y_V_answerOfBrand ∈ Wall := List.mem_filter.mpr ⟨List.mem_append_left _ (by decide +kernel), rfl⟩
set_option maxRecDepth 20000 in
theorem wi_V_answerOfPurse : Jvm.Cond.instanceMethod y_V_answerOfPurse ∈ Wall := in_wall (List.mem_of_getElem? (i := 350) (by decide +kernel)) rfl
theorem ws_V_answerOfPurse : Jvm.Cond.selects R_V y_V_answerOfPurse y_V_answerOfPurse ∈ Wall := List.mem_filter.mpr ⟨List.mem_append_left _ (by decide +kernel), rfl⟩
set_option maxRecDepth 20000 in
theorem wi_V_deposit : Jvm.Cond.instanceMethod y_V_deposit ∈ Wall := in_wall (List.mem_of_getElem? (i := 354) (by decide +kernel)) rfl
theorem ws_V_deposit : Jvm.Cond.selects R_V y_V_deposit y_V_deposit ∈ Wall := List.mem_filter.mpr ⟨List.mem_append_left _ (by decide +kernel), rfl⟩
set_option maxRecDepth 20000 in
theorem wi_V_split : Jvm.Cond.instanceMethod y_V_split ∈ Wall := in_wall (List.mem_of_getElem? (i := 358) (by decide +kernel)) rfl
theorem ws_V_split : Jvm.Cond.selects R_V y_V_split y_V_split ∈ Wall := List.mem_filter.mpr ⟨List.mem_append_left _ (by decide +kernel), rfl⟩
set_option maxRecDepth 20000 in
theorem wi_V_unseal : Jvm.Cond.instanceMethod y_V_unseal ∈ Wall := in_wall (List.mem_of_getElem? (i := 337) (by decide +kernel)) rfl
theorem ws_V_unseal : Jvm.Cond.selects R_V y_V_unseal y_V_unseal ∈ Wall := List.mem_filter.mpr ⟨List.mem_append_left _ (by decide +kernel), rfl⟩
set_option maxRecDepth 20000 in
theorem wi_V_make : Jvm.Cond.instanceMethod y_V_make ∈ Wall := in_wall (List.mem_of_getElem? (i := 86) (by decide +kernel)) rfl
theorem ws_V_make : Jvm.Cond.selects R_V y_V_make y_V_make ∈ Wall := List.mem_filter.mpr ⟨List.mem_append_left _ (by decide +kernel), rfl⟩
set_option maxRecDepth 20000 in
theorem wi_V_makeGate : Jvm.Cond.instanceMethod y_V_makeGate ∈ Wall := in_wall (List.mem_of_getElem? (i := 318) (by decide +kernel)) rfl
theorem ws_V_makeGate : Jvm.Cond.selects R_V y_V_makeGate y_V_makeGate ∈ Wall := List.mem_filter.mpr ⟨List.mem_append_left _ (by decide +kernel), rfl⟩
set_option maxRecDepth 20000 in
theorem wi_V_makeBox : Jvm.Cond.instanceMethod y_V_makeBox ∈ Wall := in_wall (List.mem_of_getElem? (i := 333) (by decide +kernel)) rfl
theorem ws_V_makeBox : Jvm.Cond.selects R_V y_V_makeBox y_V_makeBox ∈ Wall := List.mem_filter.mpr ⟨List.mem_append_left _ (by decide +kernel), rfl⟩
set_option maxRecDepth 20000 in
theorem wi_V_makeMoney : Jvm.Cond.instanceMethod y_V_makeMoney ∈ Wall := in_wall (List.mem_of_getElem? (i := 341) (by decide +kernel)) rfl
theorem ws_V_makeMoney : Jvm.Cond.selects R_V y_V_makeMoney y_V_makeMoney ∈ Wall := List.mem_filter.mpr ⟨List.mem_append_left _ (by decide +kernel), rfl⟩
set_option maxRecDepth 20000 in
theorem wi_D_init : Jvm.Cond.instanceMethod y_D_init ∈ Wall := in_wall (List.mem_of_getElem? (i := 441) (by decide +kernel)) rfl
set_option maxRecDepth 20000 in
theorem wt_D_out : Jvm.Cond.static y_D_out ∈ Wall := in_wall (List.mem_of_getElem? (i := 539) (by decide +kernel)) rfl
set_option maxRecDepth 20000 in
theorem wi_D_hold : Jvm.Cond.instanceMethod y_D_hold ∈ Wall := in_wall (List.mem_of_getElem? (i := 575) (by decide +kernel)) rfl
theorem ws_D_hold : Jvm.Cond.selects R_D y_D_hold y_D_hold ∈ Wall := List.mem_filter.mpr ⟨List.mem_append_left _ (by decide +kernel), rfl⟩
set_option maxRecDepth 20000 in
theorem wi_D_look : Jvm.Cond.instanceMethod y_D_look ∈ Wall := in_wall (List.mem_of_getElem? (i := 571) (by decide +kernel)) rfl
theorem ws_D_look : Jvm.Cond.selects R_D y_D_look y_D_look ∈ Wall := List.mem_filter.mpr ⟨List.mem_append_left _ (by decide +kernel), rfl⟩
set_option maxRecDepth 20000 in
theorem wi_D_broken : Jvm.Cond.instanceMethod y_D_broken ∈ Wall := in_wall (List.mem_of_getElem? (i := 583) (by decide +kernel)) rfl
theorem ws_D_broken : Jvm.Cond.selects R_D y_D_broken y_D_broken ∈ Wall := List.mem_filter.mpr ⟨List.mem_append_left _ (by decide +kernel), rfl⟩
set_option maxRecDepth 20000 in
theorem wi_D_isObject : Jvm.Cond.instanceMethod y_D_isObject ∈ Wall := in_wall (List.mem_of_getElem? (i := 635) (by decide +kernel)) rfl
theorem ws_D_isObject : Jvm.Cond.selects R_D y_D_isObject y_D_isObject ∈ Wall := List.mem_filter.mpr ⟨List.mem_append_left _ (by decide +kernel), rfl⟩
set_option maxRecDepth 20000 in
theorem wi_D_make : Jvm.Cond.instanceMethod y_D_make ∈ Wall := in_wall (List.mem_of_getElem? (i := 543) (by decide +kernel)) rfl
theorem ws_D_make : Jvm.Cond.selects R_D y_D_make y_D_make ∈ Wall := List.mem_filter.mpr ⟨List.mem_append_left _ (by decide +kernel), rfl⟩
set_option maxRecDepth 20000 in
theorem wi_D_fresh : Jvm.Cond.instanceMethod y_D_fresh ∈ Wall := in_wall (List.mem_of_getElem? (i := 615) (by decide +kernel)) rfl
theorem ws_D_fresh : Jvm.Cond.selects R_D y_D_fresh y_D_fresh ∈ Wall := List.mem_filter.mpr ⟨List.mem_append_left _ (by decide +kernel), rfl⟩
set_option maxRecDepth 20000 in
theorem wi_D_stand : Jvm.Cond.instanceMethod y_D_stand ∈ Wall := in_wall (List.mem_of_getElem? (i := 579) (by decide +kernel)) rfl
theorem ws_D_stand : Jvm.Cond.selects R_D y_D_stand y_D_stand ∈ Wall := List.mem_filter.mpr ⟨List.mem_append_left _ (by decide +kernel), rfl⟩
set_option maxRecDepth 20000 in
theorem wi_D_nth : Jvm.Cond.instanceMethod y_D_nth ∈ Wall := in_wall (List.mem_of_getElem? (i := 599) (by decide +kernel)) rfl
theorem ws_D_nth : Jvm.Cond.selects R_D y_D_nth y_D_nth ∈ Wall := List.mem_filter.mpr ⟨List.mem_append_left _ (by decide +kernel), rfl⟩
set_option maxRecDepth 20000 in
theorem wi_D_count : Jvm.Cond.instanceMethod y_D_count ∈ Wall := in_wall (List.mem_of_getElem? (i := 700) (by decide +kernel)) rfl
theorem ws_D_count : Jvm.Cond.selects R_D y_D_count y_D_count ∈ Wall := List.mem_filter.mpr ⟨List.mem_append_left _ (by decide +kernel), rfl⟩
set_option maxRecDepth 20000 in
theorem wi_D_route : Jvm.Cond.instanceMethod y_D_route ∈ Wall := in_wall (List.mem_of_getElem? (i := 563) (by decide +kernel)) rfl
theorem ws_D_route : Jvm.Cond.selects R_D y_D_route y_D_route ∈ Wall := List.mem_filter.mpr ⟨List.mem_append_left _ (by decide +kernel), rfl⟩
set_option maxRecDepth 20000 in
theorem wi_D_direct : Jvm.Cond.instanceMethod y_D_direct ∈ Wall := in_wall (List.mem_of_getElem? (i := 567) (by decide +kernel)) rfl
theorem ws_D_direct : Jvm.Cond.selects R_D y_D_direct y_D_direct ∈ Wall := List.mem_filter.mpr ⟨List.mem_append_left _ (by decide +kernel), rfl⟩
set_option maxRecDepth 20000 in
theorem wi_D_released : Jvm.Cond.instanceMethod y_D_released ∈ Wall := in_wall (List.mem_of_getElem? (i := 591) (by decide +kernel)) rfl
theorem ws_D_released : Jvm.Cond.selects R_D y_D_released y_D_released ∈ Wall := List.mem_filter.mpr ⟨List.mem_append_left _ (by decide +kernel), rfl⟩
set_option maxRecDepth 20000 in
theorem wi_D_settle : Jvm.Cond.instanceMethod y_D_settle ∈ Wall := in_wall (List.mem_of_getElem? (i := 587) (by decide +kernel)) rfl
theorem ws_D_settle : Jvm.Cond.selects R_D y_D_settle y_D_settle ∈ Wall := List.mem_filter.mpr ⟨List.mem_append_left _ (by decide +kernel), rfl⟩
set_option maxRecDepth 20000 in
theorem wi_D_isSlot : Jvm.Cond.instanceMethod y_D_isSlot ∈ Wall := in_wall (List.mem_of_getElem? (i := 551) (by decide +kernel)) rfl
theorem ws_D_isSlot : Jvm.Cond.selects R_D y_D_isSlot y_D_isSlot ∈ Wall := List.mem_filter.mpr ⟨List.mem_append_left _ (by decide +kernel), rfl⟩
set_option maxRecDepth 20000 in
theorem wi_D_cell : Jvm.Cond.instanceMethod y_D_cell ∈ Wall := in_wall (List.mem_of_getElem? (i := 535) (by decide +kernel)) rfl
set_option maxRecDepth 20000 in
theorem ws_D_cell : Jvm.Cond.selects R_D y_D_cell y_D_cell ∈ Wall := in_wall (List.mem_of_getElem? (i := 536) (by decide +kernel)) rfl
set_option maxRecDepth 20000 in
theorem wi_D_number : Jvm.Cond.instanceMethod y_D_number ∈ Wall := in_wall (List.mem_of_getElem? (i := 546) (by decide +kernel)) rfl
set_option maxRecDepth 20000 in
theorem ws_D_number : Jvm.Cond.selects R_D y_D_number y_D_number ∈ Wall := in_wall (List.mem_of_getElem? (i := 547) (by decide +kernel)) rfl
set_option maxRecDepth 20000 in
theorem wi_D_introduce : Jvm.Cond.instanceMethod y_D_introduce ∈ Wall := in_wall (List.mem_of_getElem? (i := 554) (by decide +kernel)) rfl
set_option maxRecDepth 20000 in
theorem ws_D_introduce : Jvm.Cond.selects R_D y_D_introduce y_D_introduce ∈ Wall := in_wall (List.mem_of_getElem? (i := 555) (by decide +kernel)) rfl
set_option maxRecDepth 20000 in
theorem wi_D_send : Jvm.Cond.instanceMethod y_D_send ∈ Wall := in_wall (List.mem_of_getElem? (i := 558) (by decide +kernel)) rfl
set_option maxRecDepth 20000 in
theorem ws_D_send : Jvm.Cond.selects R_D y_D_send y_D_send ∈ Wall := in_wall (List.mem_of_getElem? (i := 559) (by decide +kernel)) rfl
set_option maxRecDepth 20000 in
theorem wi_D_turn : Jvm.Cond.instanceMethod y_D_turn ∈ Wall := in_wall (List.mem_of_getElem? (i := 594) (by decide +kernel)) rfl
set_option maxRecDepth 20000 in
theorem ws_D_turn : Jvm.Cond.selects R_D y_D_turn y_D_turn ∈ Wall := in_wall (List.mem_of_getElem? (i := 595) (by decide +kernel)) rfl
set_option maxRecDepth 20000 in
theorem wi_D_answers : Jvm.Cond.instanceMethod y_D_answers ∈ Wall := in_wall (List.mem_of_getElem? (i := 603) (by decide +kernel)) rfl
theorem ws_D_answers : Jvm.Cond.selects R_D y_D_answers y_D_answers ∈ Wall := List.mem_filter.mpr ⟨List.mem_append_left _ (by decide +kernel), rfl⟩
set_option maxRecDepth 20000 in
theorem wi_D_ofCell : Jvm.Cond.instanceMethod y_D_ofCell ∈ Wall := in_wall (List.mem_of_getElem? (i := 619) (by decide +kernel)) rfl
theorem ws_D_ofCell : Jvm.Cond.selects R_D y_D_ofCell y_D_ofCell ∈ Wall := List.mem_filter.mpr ⟨List.mem_append_left _ (by decide +kernel), rfl⟩
set_option maxRecDepth 20000 in
theorem wi_D_ofGuard : Jvm.Cond.instanceMethod y_D_ofGuard ∈ Wall := in_wall (List.mem_of_getElem? (i := 623) (by decide +kernel)) rfl
theorem ws_D_ofGuard : Jvm.Cond.selects R_D y_D_ofGuard y_D_ofGuard ∈ Wall := List.mem_filter.mpr ⟨List.mem_append_left _ (by decide +kernel), rfl⟩
set_option maxRecDepth 20000 in
theorem wi_D_ofSealer : Jvm.Cond.instanceMethod y_D_ofSealer ∈ Wall := in_wall (List.mem_of_getElem? (i := 627) (by decide +kernel)) rfl
theorem ws_D_ofSealer : Jvm.Cond.selects R_D y_D_ofSealer y_D_ofSealer ∈ Wall := List.mem_filter.mpr ⟨List.mem_append_left _ (by decide +kernel), rfl⟩
set_option maxRecDepth 20000 in
theorem wi_D_ofUnsealer : Jvm.Cond.instanceMethod y_D_ofUnsealer ∈ Wall := in_wall (List.mem_of_getElem? (i := 631) (by decide +kernel)) rfl
theorem ws_D_ofUnsealer : Jvm.Cond.selects R_D y_D_ofUnsealer y_D_ofUnsealer ∈ Wall := List.mem_filter.mpr ⟨List.mem_append_left _ (by decide +kernel), rfl⟩
set_option maxRecDepth 20000 in
theorem wi_D_ofMint : Jvm.Cond.instanceMethod y_D_ofMint ∈ Wall := in_wall (List.mem_of_getElem? (i := 639) (by decide +kernel)) rfl
theorem ws_D_ofMint : Jvm.Cond.selects R_D y_D_ofMint y_D_ofMint ∈ Wall := List.mem_filter.mpr ⟨List.mem_append_left _ (by decide +kernel), rfl⟩
set_option maxRecDepth 20000 in
theorem wi_D_ofPurse : Jvm.Cond.instanceMethod y_D_ofPurse ∈ Wall := in_wall (List.mem_of_getElem? (i := 644) (by decide +kernel)) rfl
theorem ws_D_ofPurse : Jvm.Cond.selects R_D y_D_ofPurse y_D_ofPurse ∈ Wall := List.mem_filter.mpr ⟨List.mem_append_left _ (by decide +kernel), rfl⟩
set_option maxRecDepth 20000 in
theorem wi_D_relays : Jvm.Cond.instanceMethod y_D_relays ∈ Wall := in_wall (List.mem_of_getElem? (i := 607) (by decide +kernel)) rfl
theorem ws_D_relays : Jvm.Cond.selects R_D y_D_relays y_D_relays ∈ Wall := List.mem_filter.mpr ⟨List.mem_append_left _ (by decide +kernel), rfl⟩
set_option maxRecDepth 20000 in
theorem wi_D_wrap : Jvm.Cond.instanceMethod y_D_wrap ∈ Wall := in_wall (List.mem_of_getElem? (i := 611) (by decide +kernel)) rfl
theorem ws_D_wrap : Jvm.Cond.selects R_D y_D_wrap y_D_wrap ∈ Wall := List.mem_filter.mpr ⟨List.mem_append_left _ (by decide +kernel), rfl⟩
set_option maxRecDepth 20000 in
theorem wi_D_asNoted : Jvm.Cond.instanceMethod y_D_asNoted ∈ Wall := in_wall (List.mem_of_getElem? (i := 648) (by decide +kernel)) rfl
theorem ws_D_asNoted : Jvm.Cond.selects R_D y_D_asNoted y_D_asNoted ∈ Wall := List.mem_filter.mpr ⟨List.mem_append_left _ (by decide +kernel), rfl⟩
set_option maxRecDepth 20000 in
theorem wi_D_objects : Jvm.Cond.instanceMethod y_D_objects ∈ Wall := in_wall (List.mem_of_getElem? (i := 651) (by decide +kernel)) rfl
set_option maxRecDepth 20000 in
theorem ws_D_objects : Jvm.Cond.selects R_D y_D_objects y_D_objects ∈ Wall := in_wall (List.mem_of_getElem? (i := 652) (by decide +kernel)) rfl
set_option maxRecDepth 20000 in
theorem wi_D_kind : Jvm.Cond.instanceMethod y_D_kind ∈ Wall := in_wall (List.mem_of_getElem? (i := 655) (by decide +kernel)) rfl
set_option maxRecDepth 20000 in
theorem ws_D_kind : Jvm.Cond.selects R_D y_D_kind y_D_kind ∈ Wall := in_wall (List.mem_of_getElem? (i := 656) (by decide +kernel)) rfl
set_option maxRecDepth 20000 in
theorem wi_D_home : Jvm.Cond.instanceMethod y_D_home ∈ Wall := in_wall (List.mem_of_getElem? (i := 659) (by decide +kernel)) rfl
set_option maxRecDepth 20000 in
theorem ws_D_home : Jvm.Cond.selects R_D y_D_home y_D_home ∈ Wall := in_wall (List.mem_of_getElem? (i := 660) (by decide +kernel)) rfl
set_option maxRecDepth 20000 in
theorem wi_D_seen : Jvm.Cond.instanceMethod y_D_seen ∈ Wall := in_wall (List.mem_of_getElem? (i := 668) (by decide +kernel)) rfl
theorem ws_D_seen : Jvm.Cond.selects R_D y_D_seen y_D_seen ∈ Wall := List.mem_filter.mpr ⟨List.mem_append_left _ (by decide +kernel), rfl⟩
set_option maxRecDepth 20000 in
theorem wi_D_what : Jvm.Cond.instanceMethod y_D_what ∈ Wall := in_wall (List.mem_of_getElem? (i := 663) (by decide +kernel)) rfl
set_option maxRecDepth 20000 in
theorem ws_D_what : Jvm.Cond.selects R_D y_D_what y_D_what ∈ Wall := in_wall (List.mem_of_getElem? (i := 664) (by decide +kernel)) rfl
set_option maxRecDepth 20000 in
theorem wi_D_which : Jvm.Cond.instanceMethod y_D_which ∈ Wall := in_wall (List.mem_of_getElem? (i := 671) (by decide +kernel)) rfl
set_option maxRecDepth 20000 in
theorem ws_D_which : Jvm.Cond.selects R_D y_D_which y_D_which ∈ Wall := in_wall (List.mem_of_getElem? (i := 672) (by decide +kernel)) rfl
set_option maxRecDepth 20000 in
theorem wi_D_detail : Jvm.Cond.instanceMethod y_D_detail ∈ Wall := in_wall (List.mem_of_getElem? (i := 675) (by decide +kernel)) rfl
set_option maxRecDepth 20000 in
theorem ws_D_detail : Jvm.Cond.selects R_D y_D_detail y_D_detail ∈ Wall := in_wall (List.mem_of_getElem? (i := 676) (by decide +kernel)) rfl
set_option maxRecDepth 20000 in
theorem wi_D_messages : Jvm.Cond.instanceMethod y_D_messages ∈ Wall := in_wall (List.mem_of_getElem? (i := 679) (by decide +kernel)) rfl
set_option maxRecDepth 20000 in
theorem ws_D_messages : Jvm.Cond.selects R_D y_D_messages y_D_messages ∈ Wall := in_wall (List.mem_of_getElem? (i := 680) (by decide +kernel)) rfl
set_option maxRecDepth 20000 in
theorem wi_D_place : Jvm.Cond.instanceMethod y_D_place ∈ Wall := in_wall (List.mem_of_getElem? (i := 683) (by decide +kernel)) rfl
set_option maxRecDepth 20000 in
theorem ws_D_place : Jvm.Cond.selects R_D y_D_place y_D_place ∈ Wall := in_wall (List.mem_of_getElem? (i := 684) (by decide +kernel)) rfl
set_option maxRecDepth 20000 in
theorem wi_D_result : Jvm.Cond.instanceMethod y_D_result ∈ Wall := in_wall (List.mem_of_getElem? (i := 687) (by decide +kernel)) rfl
set_option maxRecDepth 20000 in
theorem ws_D_result : Jvm.Cond.selects R_D y_D_result y_D_result ∈ Wall := in_wall (List.mem_of_getElem? (i := 688) (by decide +kernel)) rfl
set_option maxRecDepth 20000 in
theorem wi_D_value : Jvm.Cond.instanceMethod y_D_value ∈ Wall := in_wall (List.mem_of_getElem? (i := 691) (by decide +kernel)) rfl
set_option maxRecDepth 20000 in
theorem ws_D_value : Jvm.Cond.selects R_D y_D_value y_D_value ∈ Wall := in_wall (List.mem_of_getElem? (i := 692) (by decide +kernel)) rfl
set_option maxRecDepth 20000 in
theorem wi_D_queued : Jvm.Cond.instanceMethod y_D_queued ∈ Wall := in_wall (List.mem_of_getElem? (i := 695) (by decide +kernel)) rfl
set_option maxRecDepth 20000 in
theorem ws_D_queued : Jvm.Cond.selects R_D y_D_queued y_D_queued ∈ Wall := in_wall (List.mem_of_getElem? (i := 696) (by decide +kernel)) rfl
set_option maxRecDepth 20000 in
theorem wi_D_next : Jvm.Cond.instanceMethod y_D_next ∈ Wall := in_wall (List.mem_of_getElem? (i := 703) (by decide +kernel)) rfl
set_option maxRecDepth 20000 in
theorem ws_D_next : Jvm.Cond.selects R_D y_D_next y_D_next ∈ Wall := in_wall (List.mem_of_getElem? (i := 704) (by decide +kernel)) rfl
set_option maxRecDepth 20000 in
theorem wi_D_waiting : Jvm.Cond.instanceMethod y_D_waiting ∈ Wall := in_wall (List.mem_of_getElem? (i := 707) (by decide +kernel)) rfl
set_option maxRecDepth 20000 in
theorem ws_D_waiting : Jvm.Cond.selects R_D y_D_waiting y_D_waiting ∈ Wall := in_wall (List.mem_of_getElem? (i := 708) (by decide +kernel)) rfl
set_option maxRecDepth 20000 in
theorem wi_D_notes : Jvm.Cond.instanceMethod y_D_notes ∈ Wall := in_wall (List.mem_of_getElem? (i := 711) (by decide +kernel)) rfl
set_option maxRecDepth 20000 in
theorem ws_D_notes : Jvm.Cond.selects R_D y_D_notes y_D_notes ∈ Wall := in_wall (List.mem_of_getElem? (i := 712) (by decide +kernel)) rfl
set_option maxRecDepth 20000 in
theorem wi_L_init : Jvm.Cond.instanceMethod y_L_init ∈ Wall := in_wall (List.mem_of_getElem? (i := 38) (by decide +kernel)) rfl
set_option maxRecDepth 20000 in
theorem wi_L_join : Jvm.Cond.instanceMethod y_L_join ∈ Wall := in_wall (List.mem_of_getElem? (i := 220) (by decide +kernel)) rfl
set_option maxRecDepth 20000 in
theorem ws_L_join : Jvm.Cond.selects R_L y_L_join y_L_join ∈ Wall := in_wall (List.mem_of_getElem? (i := 221) (by decide +kernel)) rfl
set_option maxRecDepth 20000 in
theorem wi_L_take : Jvm.Cond.instanceMethod y_L_take ∈ Wall := in_wall (List.mem_of_getElem? (i := 228) (by decide +kernel)) rfl
set_option maxRecDepth 20000 in
theorem ws_L_take : Jvm.Cond.selects R_L y_L_take y_L_take ∈ Wall := in_wall (List.mem_of_getElem? (i := 229) (by decide +kernel)) rfl
set_option maxRecDepth 20000 in
theorem wi_L_takeOver : Jvm.Cond.instanceMethod y_L_takeOver ∈ Wall := in_wall (List.mem_of_getElem? (i := 260) (by decide +kernel)) rfl
set_option maxRecDepth 20000 in
theorem ws_L_takeOver : Jvm.Cond.selects R_L y_L_takeOver y_L_takeOver ∈ Wall := in_wall (List.mem_of_getElem? (i := 261) (by decide +kernel)) rfl
set_option maxRecDepth 20000 in
theorem wi_L_withBefore : Jvm.Cond.instanceMethod y_L_withBefore ∈ Wall := in_wall (List.mem_of_getElem? (i := 427) (by decide +kernel)) rfl
set_option maxRecDepth 20000 in
theorem ws_L_withBefore : Jvm.Cond.selects R_L y_L_withBefore y_L_withBefore ∈ Wall := in_wall (List.mem_of_getElem? (i := 428) (by decide +kernel)) rfl
set_option maxRecDepth 20000 in
theorem wi_M_init : Jvm.Cond.instanceMethod y_M_init ∈ Wall := in_wall (List.mem_of_getElem? (i := 169) (by decide +kernel)) rfl
set_option maxRecDepth 20000 in
theorem wi_M_noteDown : Jvm.Cond.instanceMethod y_M_noteDown ∈ Wall := in_wall (List.mem_of_getElem? (i := 305) (by decide +kernel)) rfl
set_option maxRecDepth 20000 in
theorem ws_M_noteDown : Jvm.Cond.selects R_M y_M_noteDown y_M_noteDown ∈ Wall := in_wall (List.mem_of_getElem? (i := 306) (by decide +kernel)) rfl
set_option maxRecDepth 20000 in
theorem wi_R_init : Jvm.Cond.instanceMethod y_R_init ∈ Wall := in_wall (List.mem_of_getElem? (i := 18) (by decide +kernel)) rfl
set_option maxRecDepth 20000 in
theorem wi_R_isSame : Jvm.Cond.instanceMethod y_R_isSame ∈ Wall := in_wall (List.mem_of_getElem? (i := 293) (by decide +kernel)) rfl
set_option maxRecDepth 20000 in
theorem ws_R_isSame : Jvm.Cond.selects R_R y_R_isSame y_R_isSame ∈ Wall := in_wall (List.mem_of_getElem? (i := 294) (by decide +kernel)) rfl
set_option maxRecDepth 20000 in
theorem wi_H_init : Jvm.Cond.instanceMethod y_H_init ∈ Wall := in_wall (List.mem_of_getElem? (i := 90) (by decide +kernel)) rfl
set_option maxRecDepth 20000 in
theorem wi_H_holdsOne : Jvm.Cond.instanceMethod y_H_holdsOne ∈ Wall := in_wall (List.mem_of_getElem? (i := 385) (by decide +kernel)) rfl
set_option maxRecDepth 20000 in
theorem ws_H_holdsOne : Jvm.Cond.selects R_H y_H_holdsOne y_H_holdsOne ∈ Wall := in_wall (List.mem_of_getElem? (i := 386) (by decide +kernel)) rfl
set_option maxRecDepth 20000 in
theorem wi_H_isCutOff : Jvm.Cond.instanceMethod y_H_isCutOff ∈ Wall := in_wall (List.mem_of_getElem? (i := 273) (by decide +kernel)) rfl
set_option maxRecDepth 20000 in
theorem ws_H_isCutOff : Jvm.Cond.selects R_H y_H_isCutOff y_H_isCutOff ∈ Wall := in_wall (List.mem_of_getElem? (i := 274) (by decide +kernel)) rfl
set_option maxRecDepth 20000 in
theorem wi_O_init : Jvm.Cond.instanceMethod objectInit ∈ Wall := in_wall (List.mem_of_getElem? (i := 13) (by decide +kernel)) rfl
set_option maxRecDepth 20000 in
theorem wc_O_init : Jvm.Cond.code objectInit ⟨#[0xb1]⟩ 1 none ∈ Wall := in_wall (List.mem_of_getElem? (i := 14) rfl) rfl
set_option maxRecDepth 20000 in
theorem wn_V : Jvm.Cond.initialized R_V ∈ Wall := in_wall (List.mem_of_getElem? (i := 1) (by decide +kernel)) rfl
set_option maxRecDepth 20000 in
theorem wn_R : Jvm.Cond.initialized R_R ∈ Wall := in_wall (List.mem_of_getElem? (i := 2) (by decide +kernel)) rfl
set_option maxRecDepth 20000 in
theorem wn_H : Jvm.Cond.initialized R_H ∈ Wall := in_wall (List.mem_of_getElem? (i := 5) (by decide +kernel)) rfl
set_option maxRecDepth 20000 in
theorem wn_M : Jvm.Cond.initialized R_M ∈ Wall := in_wall (List.mem_of_getElem? (i := 6) (by decide +kernel)) rfl
set_option maxRecDepth 20000 in
theorem wn_L : Jvm.Cond.initialized R_L ∈ Wall := in_wall (List.mem_of_getElem? (i := 3) (by decide +kernel)) rfl
set_option maxRecDepth 20000 in
theorem wn_D : Jvm.Cond.initialized R_D ∈ Wall := in_wall (List.mem_of_getElem? (i := 4) (by decide +kernel)) rfl
set_option maxRecDepth 20000 in
theorem wn_W : Jvm.Cond.initialized R_W ∈ Wall := in_wall (List.mem_of_getElem? (i := 0) (by decide +kernel)) rfl
set_option maxRecDepth 20000 in
theorem wb_V : Jvm.Cond.instantiable R_V 8 ∈ Wall := in_wall (List.mem_of_getElem? (i := 8) (by decide +kernel)) rfl
set_option maxRecDepth 20000 in
theorem wb_R : Jvm.Cond.instantiable R_R 2 ∈ Wall := in_wall (List.mem_of_getElem? (i := 16) (by decide +kernel)) rfl
set_option maxRecDepth 20000 in
theorem wb_H : Jvm.Cond.instantiable R_H 11 ∈ Wall := in_wall (List.mem_of_getElem? (i := 88) (by decide +kernel)) rfl
set_option maxRecDepth 20000 in
theorem wb_M : Jvm.Cond.instantiable R_M 11 ∈ Wall := in_wall (List.mem_of_getElem? (i := 167) (by decide +kernel)) rfl
set_option maxRecDepth 20000 in
theorem wb_L : Jvm.Cond.instantiable R_L 3 ∈ Wall := in_wall (List.mem_of_getElem? (i := 36) (by decide +kernel)) rfl
set_option maxRecDepth 20000 in
theorem wb_D : Jvm.Cond.instantiable R_D 29 ∈ Wall := in_wall (List.mem_of_getElem? (i := 439) (by decide +kernel)) rfl
set_option maxRecDepth 20000 in
theorem wa_int : Jvm.Cond.arrayClass .int ∈ Wall := in_wall (List.mem_of_getElem? (i := 532) (by decide +kernel)) rfl
set_option maxRecDepth 20000 in
theorem wa_bool : Jvm.Cond.arrayClass .boolean ∈ Wall := in_wall (List.mem_of_getElem? (i := 533) (by decide +kernel)) rfl
set_option maxRecDepth 20000 in
theorem wv_V_300 : Jvm.Cond.constant R_V 300 1000000 ∈ Wall := in_wall (List.mem_of_getElem? (i := 343) (by decide +kernel)) rfl
set_option maxRecDepth 20000 in
theorem wv_D_178 : Jvm.Cond.constant R_D 178 1000001 ∈ Wall := in_wall (List.mem_of_getElem? (i := 641) (by decide +kernel)) rfl
end
section
/-! The layer of functional worlds: a value is an int or a nullable reference; a world is a partial map from addresses to cells; a call hands the whole world over. -/
abbrev fw_V : Type := Int32 ⊕ Option Nat
def fw_v : fw_V → Value
  | .inl x => .int x
  | .inr r => va_rf r
abbrev fw_E : Type := (Nat × Nat × ((Nat → Int32) ⊕ (Nat → Option Nat))) ⊕ (Nat × List fw_V)
abbrev fw_W : Type := Nat → Option fw_E
abbrev fw_T : Type := va_G × List vw_C × List (ClassId × FieldType)
def fw_c (T : fw_T) (t : Nat) : ClassId := ((T.2.2[t]?).map Prod.fst).getD 0
def fw_e (T : fw_T) : fw_E → va_E
  | .inl (t, n, .inl f) => .inl (fw_c T t, n, .inl f)
  | .inl (t, n, .inr f) => .inl (fw_c T t, n, .inr (.inr (.inr (.inr f))))
  | .inr (ci, fs) => .inr (ci, fs.map fw_v)
def fw_P (T : fw_T) (w : fw_W) (H : Heap) : Prop := ∀ (a : Nat) (e : fw_E), w a = some e → va_at T.1 T.2.1 (a, fw_e T e) H
def fw_D (A : Nat → Prop) (w : fw_W) : Prop := ∀ (a : Nat) (e : fw_E), w a = some e → A a
def fw_A (w : fw_W) (sz : Nat) : Nat → Prop := fun q => (∃ e, w q = some e) ∨ sz ≤ q
def fw_K (T : fw_T) (U : State) : Prop := va_K T.1 T.2.1 T.2.2 U ∧ va_Nw fw_N1 U ∧ va_Nw fw_N2 U ∧ ∀ C, C ∈ fw_AL → va_AO C U
theorem fw_K.moved {T : fw_T} {s U : State} (hW : s.WarmedH U.vm) (h : fw_K T s) : fw_K T U := ⟨va_K.moved hW.alike h.1, va_Nw.warmM hW h.2.1, va_Nw.warmM hW h.2.2.1, fun C hC => (h.2.2.2 C hC).moved hW.alike⟩
theorem fw_K.same {T : fw_T} {s U : State} (hvm : s.vm = U.vm) (h : fw_K T s) : fw_K T U := ⟨va_K.moved (by rw [hvm]; exact Vm.Alike.refl _) h.1, va_Nw.same rfl hvm h.2.1, va_Nw.same rfl hvm h.2.2.1, fun C hC => (h.2.2.2 C hC).moved (by rw [hvm]; exact Vm.Alike.refl _)⟩
def fw_Pc (T : fw_T) (av : List fw_V) (w : fw_W) (sz : Nat) : Array Value → State → Prop := va_Pc (av.map fw_v) (fun U => U.heap.size = sz ∧ fw_P T w U.heap ∧ fw_K T U)
def fw_Qc (T : fw_T) (w : fw_W) (sz : Nat) (post : Option fw_V → fw_W → Prop) : Array Value → State → Outcome → State → Prop := fun _ st oc t =>
  (∃ (r : Option fw_V) (w' : fw_W), oc = .returned (r.map fw_v) ∧ post r w' ∧ fw_P T w' t.heap ∧ fw_K T t ∧ fw_D (fw_A w sz) w') ∧ va_F (fw_A w sz) st t
def Ct (l : Launch) (T : fw_T) (y : MethodName) (ws : List Jvm.Cond) (rm : Room) (av : List fw_V) (w : fw_W) (post : Option fw_V → fw_W → Prop) : Prop :=
  ∀ sz : Nat, Met l y ws rm (fw_Pc T av w sz) (fw_Qc T w sz post) rm.cells rm.slots (fw_A w sz)
/-- an instruction of a method's table: place, instruction, length, the next place, the place it jumps to, its number -/
abbrev fw_I : Type := Nat × Instr × Nat × Nat × Nat × Int32
/-- a method: code, locals, words, its class, room, answer's type, table, name -/
abbrev fw_G : Type := ByteArray × Nat × List Jvm.Cond × String × Room × Option FieldType × List fw_I × MethodName
abbrev gC (G : fw_G) : ByteArray := G.1
abbrev gL (G : fw_G) : Nat := G.2.1
abbrev gW (G : fw_G) : List Jvm.Cond := G.2.2.1
abbrev gO (G : fw_G) : String := G.2.2.2.1
abbrev gR (G : fw_G) : Room := G.2.2.2.2.1
abbrev gA (G : fw_G) : Option FieldType := G.2.2.2.2.2.1
abbrev gT (G : fw_G) : List fw_I := G.2.2.2.2.2.2.1
abbrev gY (G : fw_G) : MethodName := G.2.2.2.2.2.2.2
/-- a run of it: the machine's own, and the world at its start -/
abbrev fw_X : Type := Program × Launch × Env × State × MethodId × Array Value × List Frame × Method × Code × fw_W × (State → Prop)
abbrev xP (X : fw_X) : Program := X.1
abbrev xL (X : fw_X) : Launch := X.2.1
abbrev xE (X : fw_X) : Env := X.2.2.1
abbrev xS (X : fw_X) : State := X.2.2.2.1
abbrev xM (X : fw_X) : MethodId := X.2.2.2.2.1
abbrev xA (X : fw_X) : Array Value := X.2.2.2.2.2.1
abbrev xB (X : fw_X) : List Frame := X.2.2.2.2.2.2.1
abbrev xT (X : fw_X) : Method := X.2.2.2.2.2.2.2.1
abbrev xC (X : fw_X) : Code := X.2.2.2.2.2.2.2.2.1
abbrev xW (X : fw_X) : fw_W := X.2.2.2.2.2.2.2.2.2.1
abbrev xQ (X : fw_X) : State → Prop := X.2.2.2.2.2.2.2.2.2.2
/-- what it may change -/
def xF (X : fw_X) : Nat → Prop := fw_A (xW X) (xS X).heap.size
def fw_len (i : Instr) (n : Nat) : Nat := match i with
  | .iconst _ => 1
  | .bipush _ => 2
  | .sipush _ => 3
  | .ldc _ => 2
  | .ldc_w _ => 3
  | .dup2 => 1
  | .baload => 1
  | .bastore => 1
  | .aconst_null => 1
  | .iload _ => 2
  | .iload_n _ => 1
  | .aload _ => 2
  | .aload_n _ => 1
  | .istore _ => 2
  | .istore_n _ => 1
  | .astore _ => 2
  | .astore_n _ => 1
  | .iinc _ _ => 3
  | .iadd => 1
  | .isub => 1
  | .imul => 1
  | .iand => 1
  | .dup => 1
  | .dup_x1 => 1
  | .pop => 1
  | .getfield _ => 3
  | .putfield _ => 3
  | .new _ => 3
  | .newarray _ => 2
  | .anewarray _ => 3
  | .arraylength => 1
  | .iaload => 1
  | .iastore => 1
  | .aaload => 1
  | .aastore => 1
  | .goto _ => 3
  | .ifCond _ _ => 3
  | .if_icmp _ _ => 3
  | .if_acmp _ _ => 3
  | .ifnull _ => 3
  | .ifnonnull _ => 3
  | .invokevirtual _ => 3
  | .invokestatic _ => 3
  | .invokespecial _ => 3
  | .ireturn => 1
  | .areturn => 1
  | .return_ => 1
  | _ => n
def fw_ix (Ts : List Jvm.Cond) (own : String) (pc tg : Nat) (v : Int32) (i : Instr) : Bool := match i with
  | .iconst z => decide (Int32.ofInt z = v)
  | .bipush z => decide ((Int8.ofInt z).toInt32 = v)
  | .sipush z => decide ((Int16.ofInt z).toInt32 = v)
  | .iinc _ z => decide (Int32.ofInt z = v)
  | .ldc i => decide (Jvm.Cond.constant own i v ∈ Ts)
  | .ldc_w i => decide (Jvm.Cond.constant own i v ∈ Ts)
  | .goto o => decide ((pc : Int) + o = (tg : Int))
  | .ifCond _ o => decide ((pc : Int) + o = (tg : Int))
  | .if_icmp _ o => decide ((pc : Int) + o = (tg : Int))
  | .if_acmp _ o => decide ((pc : Int) + o = (tg : Int))
  | .ifnull o => decide ((pc : Int) + o = (tg : Int))
  | .ifnonnull o => decide ((pc : Int) + o = (tg : Int))
  | _ => true
def fw_iok (cc : ByteArray) (Ts : List Jvm.Cond) (own : String) (q : fw_I) : Bool :=
  decide (decode cc q.1 = .ok (q.2.1, q.2.2.1)) && (decide (q.2.2.2.1 = q.1 + q.2.2.1) && (decide (q.2.2.1 = fw_len q.2.1 q.2.2.1) && fw_ix Ts own q.1 q.2.2.2.2.1 q.2.2.2.2.2 q.2.1))
def fw_tok (cc : ByteArray) (Ts : List Jvm.Cond) (own : String) : List fw_I → Bool
  | [] => true
  | [q] => fw_iok cc Ts own q
  | q :: q2 :: r => fw_iok cc Ts own q && (decide (q.2.2.2.1 = q2.1) && fw_tok cc Ts own (q2 :: r))
def fw_ok (T : fw_T) (G : fw_G) (X : fw_X) : Prop :=
  CallFix (xP X) (xM X) (xC X) (gC G) (gL G) (xS X) (xA X) (gW G) (gO G) ∧ fw_K T (xS X) ∧ (xT X).sig.returnType = gA G ∧ (xT X).locks = false ∧ fw_tok (gC G) (gW G) (gO G) (gT G) = true ∧ (xT X).name = (gY G).name
/-- the locals hold L -/
def fw_l (ls : Array Slot) (nL : Nat) (L : List (Option fw_V)) : Prop := ∃ l : List (Nat × Value), lv_has ls nL l ∧ L.length = nL ∧ ∀ (i : Nat) (v : fw_V), L[i]? = some (some v) → (i, fw_v v) ∈ l
/-- a method's own end: it answers with post -/
def fw_ends (T : fw_T) (G : fw_G) (X : fw_X) (post : Option fw_V → fw_W → Prop) : Prop := xQ X = MQ (xB X) (fw_Qc T (xW X) (xS X).heap.size post) (xA X) (xS X) (gR G).cells (gR G).slots (xF X)
/-- from here it comes to its end -/
def J (T : fw_T) (G : fw_G) (X : fw_X) (pc : Nat) (L : List (Option fw_V)) (S : List fw_V) (w : fw_W) (k n : Nat) : Prop :=
  ∀ (H : Heap) (locs : List Loc) (ls : Array Slot), fw_l ls (gL G) L → fw_P T w H → fw_D (xF X) w → va_S (xF X) (xS X).heap H locs →
    W (xP X) (xL X) (xE X) (gR G) (xS X) (xM X) (xA X) (xB X) (xT X) (xC X) H locs k n (xQ X)
      (F0 (xM X) pc ls (S.map fw_v))
def fw_from : List fw_I → Nat → List fw_I
  | [], _ => []
  | q :: r, pc => bif q.1 == pc then q :: r else fw_from r pc
def fw_force {α : Type} : List (Option fw_V) → (List (Option fw_V) → α) → α
  | [], k => k []
  | x :: r, k => fw_force r (fun r' => k (x :: r'))
theorem fw_force_eq {α : Type} : ∀ (L : List (Option fw_V)) (k : List (Option fw_V) → α), fw_force L k = k L
  | [], _ => rfl
  | _ :: r, _ => fw_force_eq r _
/-- a silent instruction -/
def fw_st (i : Instr) (v : Int32) (L : List (Option fw_V)) (S : List fw_V) : Option (List (Option fw_V) × List fw_V) :=
  match i with
  | .iconst _ => some (L, .inl v :: S)
  | .bipush _ => some (L, .inl v :: S)
  | .sipush _ => some (L, .inl v :: S)
  | .ldc _ => some (L, .inl v :: S)
  | .ldc_w _ => some (L, .inl v :: S)
  | .aconst_null => some (L, .inr none :: S)
  | .iload k => match L[k]? with
    | some (some (.inl x)) => some (L, .inl x :: S)
    | _ => none
  | .iload_n k => match L[k.val]? with
    | some (some (.inl x)) => some (L, .inl x :: S)
    | _ => none
  | .aload k => match L[k]? with
    | some (some (.inr x)) => some (L, .inr x :: S)
    | _ => none
  | .aload_n k => match L[k.val]? with
    | some (some (.inr x)) => some (L, .inr x :: S)
    | _ => none
  | .istore k => match S with
    | .inl x :: S => match L[k]? with
      | some _ => fw_force (L.set k (some (.inl x))) (fun L' => some (L', S))
      | none => none
    | _ => none
  | .istore_n k => match S with
    | .inl x :: S => match L[k.val]? with
      | some _ => fw_force (L.set k.val (some (.inl x))) (fun L' => some (L', S))
      | none => none
    | _ => none
  | .astore k => match S with
    | .inr x :: S => match L[k]? with
      | some _ => fw_force (L.set k (some (.inr x))) (fun L' => some (L', S))
      | none => none
    | _ => none
  | .astore_n k => match S with
    | .inr x :: S => match L[k.val]? with
      | some _ => fw_force (L.set k.val (some (.inr x))) (fun L' => some (L', S))
      | none => none
    | _ => none
  | .iinc k _ => match L[k]? with
    | some (some (.inl x)) => fw_force (L.set k (some (.inl (x + v)))) (fun L' => some (L', S))
    | _ => none
  | .iadd => match S with
    | .inl y :: .inl x :: S => some (L, .inl (x + y) :: S)
    | _ => none
  | .isub => match S with
    | .inl y :: .inl x :: S => some (L, .inl (x - y) :: S)
    | _ => none
  | .imul => match S with
    | .inl y :: .inl x :: S => some (L, .inl (x * y) :: S)
    | _ => none
  | .iand => match S with
    | .inl y :: .inl x :: S => some (L, .inl (x &&& y) :: S)
    | _ => none
  | .dup => match S with
    | x :: S => some (L, x :: x :: S)
    | _ => none
  | .dup_x1 => match S with
    | x :: y :: S => some (L, x :: y :: x :: S)
    | _ => none
  | .dup2 => match S with
    | x :: y :: S => some (L, x :: y :: x :: y :: S)
    | _ => none
  | .pop => match S with
    | _ :: S => some (L, S)
    | _ => none
  | _ => none
/-- runs the silent instructions, up to the first that isn't -/
def fw_go : List fw_I → List (Option fw_V) → List fw_V → Option (fw_I × List (Option fw_V) × List fw_V)
  | [], _, _ => none
  | q :: r, L, S => match fw_st q.2.1 q.2.2.2.2.2 L S with
    | some (L', S') => fw_go r L' S'
    | none => some (q, L, S)
theorem fw_cat (v : fw_V) : (fw_v v).category = 1 := by
  rcases v with x | r
  · rfl
  · cases r <;> rfl
theorem fw_store {ls : Array Slot} {nL : Nat} {L : List (Option fw_V)} (hl : fw_l ls nL L) (i : Nat) (v : fw_V) : ∃ l : List (Nat × Value), lv_has ls nL l ∧ (∀ ls' : Array Slot, lv_has ls' nL ((i, fw_v v) :: l.filter (fun q => !(q.1 == i) && !(q.1 + 1 == i && q.2.category == 2))) → fw_l ls' nL (L.set i (some v))) ∧ ∀ (j : Nat) (u : fw_V), L[j]? = some (some u) → (j, fw_v u) ∈ l := by
  obtain ⟨l, h1, h2, h3⟩ := hl
  refine ⟨l, h1, fun ls' h' => ⟨_, h', by rw [List.length_set]; exact h2, fun j u hj => ?_⟩, h3⟩
  by_cases hji : j = i
  · subst hji
    have hlt : j < L.length := by
      have := (List.getElem?_eq_some_iff.mp hj).1
      rwa [List.length_set] at this
    rw [List.getElem?_set_self hlt] at hj
    cases hj
    exact List.mem_cons_self
  · rw [List.getElem?_set_ne (Ne.symm hji)] at hj
    refine List.mem_cons_of_mem _ (List.mem_filter.mpr ⟨h3 j u hj, ?_⟩)
    simp [hji, fw_cat]
theorem fw_load {ls : Array Slot} {nL : Nat} {L : List (Option fw_V)} (hl : fw_l ls nL L) {i : Nat} {v : fw_V} (h : L[i]? = some (some v)) : ls[i]? = some (.val (fw_v v)) := by
  obtain ⟨l, h1, h2, h3⟩ := hl
  exact h1.2.2 _ (h3 i v h)
theorem fw_lt {ls : Array Slot} {nL : Nat} {L : List (Option fw_V)} (hl : fw_l ls nL L) {i : Nat} (h : i < L.length) : i < nL := by
  obtain ⟨l, h1, h2, h3⟩ := hl
  omega
end
section
section FWST
variable {T : fw_T} {G : fw_G} {X : fw_X} {w : fw_W} {k n : Nat}
theorem fw_iok_spec {cc : ByteArray} {Ts : List Jvm.Cond} {own : String} {pc len nx tg : Nat} {i : Instr} {v : Int32} (h : fw_iok cc Ts own (pc, i, len, nx, tg, v) = true) : decode cc pc = .ok (i, len) ∧ nx = pc + len ∧ len = fw_len i len ∧ fw_ix Ts own pc tg v i = true := by
  simp only [fw_iok, Bool.and_eq_true, decide_eq_true_eq] at h
  exact h
set_option maxHeartbeats 4000000 in
theorem fw_st_ok (C : fw_ok T G X) {pc len nx tg : Nat} {i : Instr} {v : Int32} (hq : fw_iok (gC G) (gW G) (gO G) (pc, i, len, nx, tg, v) = true) {L L' : List (Option fw_V)} {S S' : List fw_V} (h : fw_st i v L S = some (L', S')) (kk : J T G X nx L' S' w k n) : J T G X pc L S w k n := by
  obtain ⟨hd, hn, hlen, hx2⟩ := fw_iok_spec hq
  obtain ⟨⟨hx, hb, hml, ho, hts⟩, hK, -⟩ := C
  subst hn
  intro H locs ls hl hP hD hS
  cases i
  case iconst z =>
    simp only [fw_len] at hlen; subst hlen
    simp only [fw_st, Option.some.injEq, Prod.mk.injEq] at h
    obtain ⟨rfl, rfl⟩ := h
    exact lv_iconst hx hb hd (of_decide_eq_true hx2) (kk H locs ls hl hP hD hS)
  case bipush z =>
    simp only [fw_len] at hlen; subst hlen
    simp only [fw_st, Option.some.injEq, Prod.mk.injEq] at h
    obtain ⟨rfl, rfl⟩ := h
    exact lv_bipush hx hb hd (of_decide_eq_true hx2) (kk H locs ls hl hP hD hS)
  case sipush z =>
    simp only [fw_len] at hlen; subst hlen
    simp only [fw_st, Option.some.injEq, Prod.mk.injEq] at h
    obtain ⟨rfl, rfl⟩ := h
    exact lv_sipush hx hb hd (of_decide_eq_true hx2) (kk H locs ls hl hP hD hS)
  case ldc z =>
    simp only [fw_len] at hlen; subst hlen
    simp only [fw_st, Option.some.injEq, Prod.mk.injEq] at h
    obtain ⟨rfl, rfl⟩ := h
    exact lv_ldc hx hb ho (hts _ (of_decide_eq_true hx2)) hd (kk H locs ls hl hP hD hS)
  case ldc_w z =>
    simp only [fw_len] at hlen; subst hlen
    simp only [fw_st, Option.some.injEq, Prod.mk.injEq] at h
    obtain ⟨rfl, rfl⟩ := h
    exact lv_ldcw hx hb ho (hts _ (of_decide_eq_true hx2)) hd (kk H locs ls hl hP hD hS)
  case dup2 =>
    simp only [fw_len] at hlen; subst hlen
    simp only [fw_st] at h
    split at h
    · simp only [Option.some.injEq, Prod.mk.injEq] at h
      obtain ⟨rfl, rfl⟩ := h
      exact lv_dup2_11 hx hb hd (fw_cat _) (fw_cat _) (kk H locs ls hl hP hD hS)
    · cases h
  case aconst_null =>
    simp only [fw_len] at hlen; subst hlen
    simp only [fw_st, Option.some.injEq, Prod.mk.injEq] at h
    obtain ⟨rfl, rfl⟩ := h
    exact lv_null hx hb hd (kk H locs ls hl hP hD hS)
  case iload j =>
    simp only [fw_len] at hlen; subst hlen
    simp only [fw_st] at h
    split at h
    · rename_i x hj
      simp only [Option.some.injEq, Prod.mk.injEq] at h
      obtain ⟨rfl, rfl⟩ := h
      exact lv_iload hx hb hd (fw_load hl hj) (kk H locs ls hl hP hD hS)
    · cases h
  case iload_n j =>
    simp only [fw_len] at hlen; subst hlen
    simp only [fw_st] at h
    split at h
    · rename_i x hj
      simp only [Option.some.injEq, Prod.mk.injEq] at h
      obtain ⟨rfl, rfl⟩ := h
      exact lv_iload_n hx hb hd rfl (fw_load hl hj) (kk H locs ls hl hP hD hS)
    · cases h
  case aload j =>
    simp only [fw_len] at hlen; subst hlen
    simp only [fw_st] at h
    split at h
    · rename_i x hj
      simp only [Option.some.injEq, Prod.mk.injEq] at h
      obtain ⟨rfl, rfl⟩ := h
      cases x with
      | none => exact lv_aloadN hx hb hd (fw_load hl hj) (kk H locs ls hl hP hD hS)
      | some x => exact lv_aload hx hb hd (fw_load hl hj) (kk H locs ls hl hP hD hS)
    · cases h
  case aload_n j =>
    simp only [fw_len] at hlen; subst hlen
    simp only [fw_st] at h
    split at h
    · rename_i x hj
      simp only [Option.some.injEq, Prod.mk.injEq] at h
      obtain ⟨rfl, rfl⟩ := h
      cases x with
      | none => exact lv_aload_nN hx hb hd rfl (fw_load hl hj) (kk H locs ls hl hP hD hS)
      | some x => exact lv_aload_n hx hb hd rfl (fw_load hl hj) (kk H locs ls hl hP hD hS)
    · cases h
  case istore j =>
    simp only [fw_len] at hlen; subst hlen
    cases S with
    | nil => simp only [fw_st] at h; cases h
    | cons s0 S =>
      cases s0 with
      | inr r => simp only [fw_st] at h; cases h
      | inl x =>
        simp only [fw_st, fw_force_eq] at h
        cases hj : L[j]? with
        | none => rw [hj] at h; cases h
        | some o =>
          rw [hj] at h
          simp only [Option.some.injEq, Prod.mk.injEq] at h
          obtain ⟨rfl, rfl⟩ := h
          obtain ⟨l, h1, h2, h3⟩ := fw_store hl j (.inl x)
          exact lv_istore hx hb hd h1 (fw_lt hl (List.getElem?_eq_some_iff.mp hj).1) rfl (fun ls' h' => kk H locs ls' (h2 ls' h') hP hD hS)
  case istore_n j =>
    simp only [fw_len] at hlen; subst hlen
    cases S with
    | nil => simp only [fw_st] at h; cases h
    | cons s0 S =>
      cases s0 with
      | inr r => simp only [fw_st] at h; cases h
      | inl x =>
        simp only [fw_st, fw_force_eq] at h
        cases hj : L[j.val]? with
        | none => rw [hj] at h; cases h
        | some o =>
          rw [hj] at h
          simp only [Option.some.injEq, Prod.mk.injEq] at h
          obtain ⟨rfl, rfl⟩ := h
          obtain ⟨l, h1, h2, h3⟩ := fw_store hl j.val (.inl x)
          exact lv_istore_n hx hb hd rfl h1 (fw_lt hl (List.getElem?_eq_some_iff.mp hj).1) rfl (fun ls' h' => kk H locs ls' (h2 ls' h') hP hD hS)
  case astore j =>
    simp only [fw_len] at hlen; subst hlen
    cases S with
    | nil => simp only [fw_st] at h; cases h
    | cons s0 S =>
      cases s0 with
      | inl r => simp only [fw_st] at h; cases h
      | inr x =>
        simp only [fw_st, fw_force_eq] at h
        cases hj : L[j]? with
        | none => rw [hj] at h; cases h
        | some o =>
          rw [hj] at h
          simp only [Option.some.injEq, Prod.mk.injEq] at h
          obtain ⟨rfl, rfl⟩ := h
          obtain ⟨l, h1, h2, h3⟩ := fw_store hl j (.inr x)
          cases x with
          | none => exact lv_astoreN hx hb hd h1 (fw_lt hl (List.getElem?_eq_some_iff.mp hj).1) rfl (fun ls' h' => kk H locs ls' (h2 ls' h') hP hD hS)
          | some x => exact lv_astore hx hb hd h1 (fw_lt hl (List.getElem?_eq_some_iff.mp hj).1) rfl (fun ls' h' => kk H locs ls' (h2 ls' h') hP hD hS)
  case astore_n j =>
    simp only [fw_len] at hlen; subst hlen
    cases S with
    | nil => simp only [fw_st] at h; cases h
    | cons s0 S =>
      cases s0 with
      | inl r => simp only [fw_st] at h; cases h
      | inr x =>
        simp only [fw_st, fw_force_eq] at h
        cases hj : L[j.val]? with
        | none => rw [hj] at h; cases h
        | some o =>
          rw [hj] at h
          simp only [Option.some.injEq, Prod.mk.injEq] at h
          obtain ⟨rfl, rfl⟩ := h
          obtain ⟨l, h1, h2, h3⟩ := fw_store hl j.val (.inr x)
          cases x with
          | none => exact lv_astore_nN hx hb hd rfl h1 (fw_lt hl (List.getElem?_eq_some_iff.mp hj).1) rfl (fun ls' h' => kk H locs ls' (h2 ls' h') hP hD hS)
          | some x => exact lv_astore_n hx hb hd rfl h1 (fw_lt hl (List.getElem?_eq_some_iff.mp hj).1) rfl (fun ls' h' => kk H locs ls' (h2 ls' h') hP hD hS)
  case iinc j z =>
    simp only [fw_len] at hlen; subst hlen
    simp only [fw_st, fw_force_eq] at h
    split at h
    · rename_i x hj
      simp only [Option.some.injEq, Prod.mk.injEq] at h
      obtain ⟨rfl, rfl⟩ := h
      have hv : Int32.ofInt z = v := of_decide_eq_true hx2
      obtain ⟨l, h1, h2, h3⟩ := fw_store hl j (.inl (x + v))
      obtain ⟨kq, hkq⟩ := List.getElem?_of_mem (h3 j _ hj)
      exact lv_iinc (k := kq) hx hb hd h1 hkq (by rw [hv]) (fw_lt hl (List.getElem?_eq_some_iff.mp hj).1) rfl (fun ls' h' => kk H locs ls' (h2 ls' h') hP hD hS)
    · cases h
  case iadd =>
    simp only [fw_len] at hlen; subst hlen
    simp only [fw_st] at h
    split at h
    · simp only [Option.some.injEq, Prod.mk.injEq] at h
      obtain ⟨rfl, rfl⟩ := h
      exact lv_iadd hx hb hd (kk H locs ls hl hP hD hS)
    · cases h
  case isub =>
    simp only [fw_len] at hlen; subst hlen
    simp only [fw_st] at h
    split at h
    · simp only [Option.some.injEq, Prod.mk.injEq] at h
      obtain ⟨rfl, rfl⟩ := h
      exact lv_isub hx hb hd (kk H locs ls hl hP hD hS)
    · cases h
  case imul =>
    simp only [fw_len] at hlen; subst hlen
    simp only [fw_st] at h
    split at h
    · simp only [Option.some.injEq, Prod.mk.injEq] at h
      obtain ⟨rfl, rfl⟩ := h
      exact lv_imul hx hb hd (kk H locs ls hl hP hD hS)
    · cases h
  case iand =>
    simp only [fw_len] at hlen; subst hlen
    simp only [fw_st] at h
    split at h
    · simp only [Option.some.injEq, Prod.mk.injEq] at h
      obtain ⟨rfl, rfl⟩ := h
      exact lv_iand hx hb hd (kk H locs ls hl hP hD hS)
    · cases h
  case dup =>
    simp only [fw_len] at hlen; subst hlen
    simp only [fw_st] at h
    split at h
    · simp only [Option.some.injEq, Prod.mk.injEq] at h
      obtain ⟨rfl, rfl⟩ := h
      exact lv_dup hx hb hd (fw_cat _) (kk H locs ls hl hP hD hS)
    · cases h
  case dup_x1 =>
    simp only [fw_len] at hlen; subst hlen
    simp only [fw_st] at h
    split at h
    · simp only [Option.some.injEq, Prod.mk.injEq] at h
      obtain ⟨rfl, rfl⟩ := h
      exact lv_dup_x1 hx hb hd (fw_cat _) (fw_cat _) (kk H locs ls hl hP hD hS)
    · cases h
  case pop =>
    simp only [fw_len] at hlen; subst hlen
    simp only [fw_st] at h
    split at h
    · simp only [Option.some.injEq, Prod.mk.injEq] at h
      obtain ⟨rfl, rfl⟩ := h
      exact lv_pop hx hb hd (fw_cat _) (kk H locs ls hl hP hD hS)
    · cases h
  all_goals (simp only [fw_st] at h; cases h)
end FWST
end
section
section FWR
variable {T : fw_T} {G : fw_G} {X : fw_X} {w : fw_W} {k n : Nat}
theorem fw_tok_head {cc : ByteArray} {Ts : List Jvm.Cond} {own : String} {q : fw_I} {r : List fw_I} (h : fw_tok cc Ts own (q :: r) = true) : fw_iok cc Ts own q = true := by
  cases r with
  | nil => exact h
  | cons q2 r =>
    simp only [fw_tok, Bool.and_eq_true] at h
    exact h.1
theorem fw_tok_tail {cc : ByteArray} {Ts : List Jvm.Cond} {own : String} {q : fw_I} {r : List fw_I} (h : fw_tok cc Ts own (q :: r) = true) : fw_tok cc Ts own r = true := by
  cases r with
  | nil => rfl
  | cons q2 r =>
    simp only [fw_tok, Bool.and_eq_true] at h
    exact h.2.2
theorem fw_tok_next {cc : ByteArray} {Ts : List Jvm.Cond} {own : String} {q q2 : fw_I} {r : List fw_I} (h : fw_tok cc Ts own (q :: q2 :: r) = true) : q.2.2.2.1 = q2.1 := by
  simp only [fw_tok, Bool.and_eq_true, decide_eq_true_eq] at h
  exact h.2.1
theorem fw_from_tok {cc : ByteArray} {Ts : List Jvm.Cond} {own : String} : ∀ (t : List fw_I) (pc : Nat), fw_tok cc Ts own t = true → fw_tok cc Ts own (fw_from t pc) = true
  | [], _, h => h
  | q :: r, pc, h => by
    unfold fw_from
    cases hq : q.1 == pc with
    | true => exact h
    | false => exact fw_from_tok r pc (fw_tok_tail h)
theorem fw_from_head : ∀ (t : List fw_I) (pc : Nat) (q : fw_I) (r : List fw_I), fw_from t pc = q :: r → q.1 = pc
  | [], _, _, _, h => by cases h
  | q0 :: r0, pc, q, r, h => by
    unfold fw_from at h
    cases hq : q0.1 == pc with
    | true => rw [hq] at h; cases h; exact eq_of_beq hq
    | false => rw [hq] at h; exact fw_from_head r0 pc q r h
theorem fw_go_ok (C : fw_ok T G X) : ∀ (t : List fw_I) (q0 : fw_I) (L : List (Option fw_V)) (S : List fw_V) (q : fw_I) (L' : List (Option fw_V)) (S' : List fw_V), fw_tok (gC G) (gW G) (gO G) (q0 :: t) = true → fw_go (q0 :: t) L S = some (q, L', S') →
    fw_iok (gC G) (gW G) (gO G) q = true ∧ (J T G X q.1 L' S' w k n → J T G X q0.1 L S w k n)
  | t, q0, L, S, q, L', S', ht, h => by
    unfold fw_go at h
    cases hs : fw_st q0.2.1 q0.2.2.2.2.2 L S with
    | none =>
      rw [hs] at h
      cases h
      exact ⟨fw_tok_head ht, id⟩
    | some z =>
      obtain ⟨L1, S1⟩ := z
      rw [hs] at h
      cases t with
      | nil => cases h
      | cons q1 t =>
        obtain ⟨h1, h2⟩ := fw_go_ok C t q1 L1 S1 q L' S' (fw_tok_tail ht) h
        refine ⟨h1, fun kk => ?_⟩
        have hn := fw_tok_next ht
        obtain ⟨pc, i, len, nx, tg, v⟩ := q0
        exact fw_st_ok C (fw_tok_head ht) hs (by rw [show nx = q1.1 from hn]; exact h2 kk)
/-- runs the silent instructions -/
theorem fw_run (C : fw_ok T G X) {pc pc' len nx tg : Nat} {i : Instr} {v : Int32} {L L' : List (Option fw_V)} {S S' : List fw_V} (h : fw_go (fw_from (gT G) pc) L S = some ((pc', i, len, nx, tg, v), L', S')) :
    (decode (gC G) pc' = .ok (i, len) ∧ nx = pc' + len ∧ len = fw_len i len ∧ fw_ix (gW G) (gO G) pc' tg v i = true) ∧ (J T G X pc' L' S' w k n → J T G X pc L S w k n) := by
  have ht := fw_from_tok (gT G) pc C.2.2.2.2.1
  cases hf : fw_from (gT G) pc with
  | nil => rw [hf] at h; cases h
  | cons q r =>
    rw [hf] at h ht
    obtain ⟨h1, h2⟩ := fw_go_ok (w := w) (k := k) (n := n) C r q L S _ L' S' ht h
    have hq := fw_from_head _ _ _ _ hf
    subst hq
    exact ⟨fw_iok_spec h1, h2⟩
/-- a field: the class ci of the world's classes has it at place kf -/
def fw_fl (T : fw_T) (G : fw_G) (idx ci kf : Nat) : Prop := ∃ (C : String) (Tb : u_T) (N : Nat), T.2.1[ci]? = some (C, Tb, N) ∧ kf < N ∧ (∀ w ∈ u_ws C Tb N, w ∈ gW G) ∧ Jvm.Cond.fieldLink (gO G) idx (Tb kf).1 (Tb kf).2.1 (Tb kf).2.2.1 ∈ gW G
theorem j_get (C : fw_ok T G X) {pc pc' len nx tg idx ci kf a : Nat} {v : Int32} {L L' : List (Option fw_V)} {S S' : List fw_V} {fs : List fw_V} {u : fw_V} (h : fw_go (fw_from (gT G) pc) L S = some ((pc', .getfield idx, len, nx, tg, v), L', .inr (some a) :: S')) (hf : fw_fl T G idx ci kf) (hw : w a = some (.inr (ci, fs))) (hv : fs[kf]? = some u)
    (kk : J T G X nx L' (u :: S') w k n) : J T G X pc L S w k n := by
  obtain ⟨⟨hd, hn, hlen, -⟩, hrun⟩ := fw_run (w := w) (k := k) (n := n) C h
  refine hrun ?_
  obtain ⟨⟨hx, hb, hml, ho, hts⟩, ⟨hK, -⟩, -⟩ := C
  simp only [fw_len] at hlen; subst hlen; subst hn
  obtain ⟨Cn, Tb, N, hc, hk, hin, hlink⟩ := hf
  intro H locs ls hl hP hD hS
  have hP1 : va_P T.1 T.2.1 [(a, .inr (ci, fs.map fw_v))] H := fun j q hj => by
    cases j with
    | zero => cases hj; exact hP a _ hw
    | succ j => cases hj
  exact va_get hx hb hts hin ho hK hP1 0 rfl hc kf hk (hts _ hlink) (fun _ h => h) (v := fw_v u) (by rw [List.getElem?_map, hv]; rfl) hd (kk H locs ls hl hP hD hS)
/-- a field that may be written -/
def fw_fp (T : fw_T) (G : fw_G) (idx ci kf : Nat) (ty : FieldType) (fin : Bool) : Prop := ∃ (C : String) (Tb : u_T) (N : Nat) (ty0 : Nat → FieldType), T.2.1[ci]? = some (C, Tb, N) ∧ kf < N ∧ (∀ w ∈ u_ws C Tb N, w ∈ gW G) ∧ Jvm.Cond.fieldLink (gO G) idx (Tb kf).1 (Tb kf).2.1 (Tb kf).2.2.1 ∈ gW G ∧ (∀ k, k < N → parseFieldDescriptor (Tb k).2.2.1 = some (ty0 k)) ∧ (∀ a, a < N → ∀ b, b < N → a ≠ b → (Tb a).2.1 ≠ (Tb b).2.1) ∧ (Tb kf).2.2.2 = fin ∧ ty0 kf = ty ∧ (fin = true → (gY G).name = "<init>" ∧ (Tb kf).1 = gO G)
def fw_fit (ty : FieldType) (u : fw_V) : Prop := narrow ty (fw_v u) = fw_v u ∧ fits ty (fw_v u) = true
theorem fit_i (x : Int32) : fw_fit .int (.inl x) := ⟨rfl, rfl⟩
theorem fit_z0 : fw_fit .boolean (.inl 0) := ⟨by decide, by decide⟩
theorem fit_z1 : fw_fit .boolean (.inl 1) := ⟨by decide, by decide⟩
theorem fit_o (C : String) (r : Option Nat) : fw_fit (.object C) (.inr r) := by cases r <;> exact ⟨rfl, rfl⟩
theorem fit_a (t : FieldType) (r : Option Nat) : fw_fit (.array t) (.inr r) := by cases r <;> exact ⟨rfl, rfl⟩
theorem fw_P.up {w : fw_W} {H H1 : Heap} {a : Nat} {e : fw_E} (hP : fw_P T w H) (he : va_at T.1 T.2.1 (a, fw_e T e) H1) (oq : ∀ q : Nat, q ≠ a → q < H.size → H1[q]? = H[q]?) : fw_P T (va_up w a (some e)) H1 := by
  intro b e' hb
  by_cases hba : b = a
  · subst hba
    rw [va_up_self] at hb
    cases hb
    exact he
  · rw [va_up_ne _ _ hba] at hb
    exact (hP b e' hb).kept (oq b hba (hP b e' hb).lt)
theorem fw_D.up {A : Nat → Prop} {w : fw_W} {a : Nat} {e : fw_E} (hD : fw_D A w) (ha : A a) : fw_D A (va_up w a (some e)) := by
  intro b e' hb
  by_cases hba : b = a
  · subst hba; exact ha
  · rw [va_up_ne _ _ hba] at hb
    exact hD b e' hb
theorem fw_set_map (fs : List fw_V) (kf : Nat) (u : fw_V) : (fs.set kf u).map fw_v = (fs.map fw_v).set kf (fw_v u) := List.map_set
theorem j_put (C : fw_ok T G X) {pc pc' len nx tg idx ci kf a : Nat} {v : Int32} {L L' : List (Option fw_V)} {S S' : List fw_V} {fs : List fw_V} {u : fw_V} {ty : FieldType} {fin : Bool} (h : fw_go (fw_from (gT G) pc) L S = some ((pc', .putfield idx, len, nx, tg, v), L', u :: .inr (some a) :: S')) (hf : fw_fp T G idx ci kf ty fin) (hw : w a = some (.inr (ci, fs))) (hv : kf < fs.length) (hfit : fw_fit ty u)
    (kk : J T G X nx L' S' (va_up w a (some (.inr (ci, fs.set kf u)))) k n) : J T G X pc L S w k n := by
  obtain ⟨⟨hd, hn, hlen, -⟩, hrun⟩ := fw_run (w := w) (k := k) (n := n) C h
  refine hrun ?_
  obtain ⟨⟨hx, hb, hml, ho, hts⟩, ⟨hK, -⟩, -, -, -, hnm0⟩ := C
  simp only [fw_len] at hlen; subst hlen; subst hn
  obtain ⟨Cn, Tb, N, ty0, hc, hk, hin, hlink, hty, hnm, hfin, hty1, hini⟩ := hf
  intro H locs ls hl hP hD hS
  have hap := va_apart (own := gO G) hts hin ty0 hty hnm hK hc
  obtain ⟨r, h1, cell, q1, q2, q3, q4⟩ := hP a _ hw
  have hr : r = (Cn, Tb, N) := Option.some.inj (h1.symm.trans hc)
  subst hr
  obtain ⟨hSl, hfc, kC, hkC, hkind⟩ := hK.1 ci _ hc
  obtain ⟨cf, kf', fi, f, hi, hsl⟩ := hSl kf hk
  have hlay := hts _ (hin _ (u_in_lay hk))
  have hst := (u_facts hfc hkC (u_lays hts hin hk) hi).1
  have hd1 : parseFieldDescriptor (Tb kf).2.2.1 = some ty := by rw [hty kf hk, hty1]
  have key : ∀ (H1 : Heap), H1[a]? = some (cell.setSlot f.slot (fw_v u)) → H1.size = H.size → (∀ q : Nat, q ≠ a → H1[q]? = H[q]?) → W (xP X) (xL X) (xE X) (gR G) (xS X) (xM X) (xA X) (xB X) (xT X) (xC X) H1 (locs ++ [⟨a, f.slot⟩]) k n (xQ X) (F0 (xM X) (pc' + 3) ls (S'.map fw_v)) := by
    intro H1 e1 e2 e3
    rw [hsl] at e1
    refine kk H1 _ ls hl (hP.up ?_ (fun q hq _ => e3 q hq)) (hD.up (hD a _ hw)) (hS.put e2 e3 (hD a _ hw))
    refine ⟨_, hc, t_OB.to (V := updV (vp_V (fs.map fw_v)) kf (fw_v u)) ⟨_, e1, q2, q3, t_set q4 hap hk (fw_v u)⟩ (fun j _ => ?_)⟩
    show _ = vp_V ((fs.set kf u).map fw_v) j
    rw [fw_set_map]
    exact vp_updV_set (by rw [List.length_map]; exact hv) (fw_v u) j
  unfold u_lay at hlay
  cases fin with
  | false =>
    rw [if_neg (by rw [hfin]; decide)] at hlay
    have h6 := u_store hfc hkC hkind hlay hi hd1 hfit.1 hfit.2
    exact W.putK hx hb (f := f) ⟨ho, hts _ hlink, ⟨_, _, _, hi⟩, hst⟩ (by rw [q2]; exact h6) q1 q3 (by rw [hsl]; exact k2_hasslot (q4 kf hk)) rfl rfl hd key
  | true =>
    rw [if_pos hfin] at hlay
    obtain ⟨hin1, hdecl⟩ := hini rfl
    have hcf : (xM X).cls = cf := by
      obtain ⟨_, _, c', _, _, _, -, -, hf', -, -, -, hown2, -⟩ := Cond.laysFinal_spec hlay
      have e1 : c' = cf := by have := hi.symm.trans hf'; simp at this; exact this.1.symm
      rw [hdecl] at hown2
      rw [← e1]; exact Option.some.inj (ho.symm.trans hown2)
    have h6 := u_fits hfc hkC hkind (Or.inr hlay) hi hd1 hfit.1 hfit.2
    exact W.putFinK hx hb ho (hts _ hlink) hi hst hcf (hnm0.trans hin1) (by rw [q2]; exact h6) q1 q3 (by rw [hsl]; exact k2_hasslot (q4 kf hk)) rfl rfl hd key
/-- an object of class ci that can be made here -/
def fw_nw (T : fw_T) (G : fw_G) (idx ci N : Nat) (fs : List fw_V) : Prop := ∃ (C : String) (Tb : u_T) (ty : Nat → FieldType), T.2.1[ci]? = some (C, Tb, N) ∧ (∀ w ∈ u_ws C Tb N, w ∈ gW G) ∧ (∀ k, k < N → parseFieldDescriptor (Tb k).2.2.1 = some (ty k)) ∧ Jvm.Cond.classLink (gO G) idx C ∈ gW G ∧ Jvm.Cond.instantiable C N ∈ gW G ∧ Jvm.Cond.initialized C ∈ gW G ∧ (∀ j, j < N → defaultValue (ty j) = vp_V (fs.map fw_v) j)
theorem xF_new {H : Heap} {locs : List Loc} (hS : va_S (xF X) (xS X).heap H locs) : xF X H.size := Or.inr hS.1
theorem fw_none {H : Heap} (hP : fw_P T w H) : w H.size = none := by
  cases h : w H.size with
  | none => rfl
  | some e => exact absurd (hP _ e h).lt (Nat.lt_irrefl _)
theorem j_new (C : fw_ok T G X) {pc pc' len nx tg idx ci N : Nat} {v : Int32} {L L' : List (Option fw_V)} {S S' : List fw_V} {fs : List fw_V} (h : fw_go (fw_from (gT G) pc) L S = some ((pc', .new idx, len, nx, tg, v), L', S')) (hf : fw_nw T G idx ci N fs) (hcl : k + 1 ≤ (gR G).cells) (hsl : n + N ≤ (gR G).slots)
    (kk : ∀ q : Nat, w q = none → J T G X nx L' (.inr (some q) :: S') (va_up w q (some (.inr (ci, fs)))) (k + 1) (n + N)) : J T G X pc L S w k n := by
  obtain ⟨⟨hd, hn, hlen, -⟩, hrun⟩ := fw_run (w := w) (k := k) (n := n) C h
  refine hrun ?_
  obtain ⟨⟨hx, hb, hml, ho, hts⟩, ⟨hK, -⟩, -⟩ := C
  simp only [fw_len] at hlen; subst hlen; subst hn
  obtain ⟨Cn, Tb, ty, hc, hin, hty, hcln, hinst, hini, hfs⟩ := hf
  intro H locs ls hl hP hD hS
  have hKn := hK.1 ci _ hc
  refine W.newcK hx hb ho (hts _ hcln) (hts _ hinst) (hts _ hini) rfl hd hcl hsl hKn.2.1 rfl fun H1 kC hkC e1 z1 o1 => ?_
  exact kk H.size (fw_none hP) H1 locs ls hl (hP.up ⟨_, hc, (u_born ty hts hin hKn hkC e1 hty).to hfs⟩ (fun q _ hq => o1 q hq)) (hD.up (xF_new hS)) ⟨Nat.le_trans hS.1 (by omega), fun x h1 h2 => (o1 x (Nat.lt_of_lt_of_le h1 hS.1)).trans (hS.2.1 x h1 h2), hS.2.2⟩
end FWR
end
section
section FWR2
variable {T : fw_T} {G : fw_G} {X : fw_X} {w : fw_W} {k n : Nat}
/-- the array type t of the world's is of class C -/
def fw_ar (T : fw_T) (t : Nat) (ty : FieldType) : Prop := (T.2.2[t]?).map Prod.snd = some ty
theorem fw_ar_at {t : Nat} {ty : FieldType} (h : fw_ar T t ty) : T.2.2[t]? = some (fw_c T t, ty) := by
  unfold fw_ar at h
  unfold fw_c
  cases hq : T.2.2[t]? with
  | none => rw [hq] at h; cases h
  | some q =>
    rw [hq] at h
    obtain ⟨c, ty'⟩ := q
    cases h
    rfl
theorem fw_P.one {a : Nat} {e : fw_E} {H : Heap} (hP : fw_P T w H) (hw : w a = some e) : va_P T.1 T.2.1 [(a, fw_e T e)] H := fun j q hj => by
  cases j with
  | zero => cases hj; exact hP a _ hw
  | succ j => cases hj
theorem j_aald (C : fw_ok T G X) {pc pc' len nx tg t N a : Nat} {v i : Int32} {Cn : String} {f : Nat → Option Nat} {L L' : List (Option fw_V)} {S S' : List fw_V} (h : fw_go (fw_from (gT G) pc) L S = some ((pc', .aaload, len, nx, tg, v), L', .inl i :: .inr (some a) :: S')) (hw : w a = some (.inl (t, N, .inr f))) (ht : fw_ar T t (.object Cn)) (hin : vp_in i N)
    (kk : J T G X nx L' (.inr (f i.toNatClampNeg) :: S') w k n) : J T G X pc L S w k n := by
  obtain ⟨⟨hd, hn, hlen, -⟩, hrun⟩ := fw_run (w := w) (k := k) (n := n) C h
  refine hrun ?_
  obtain ⟨⟨hx, hb, hml, ho, hts⟩, ⟨hK, -⟩, -⟩ := C
  simp only [fw_len] at hlen; subst hlen; subst hn
  intro H locs ls hl hP hD hS
  exact va_aldq hx hb hK (hP.one hw) 0 t rfl (fw_ar_at ht) hin hd (kk H locs ls hl hP hD hS)
theorem j_iald (C : fw_ok T G X) {pc pc' len nx tg t N a : Nat} {v i : Int32} {f : Nat → Int32} {L L' : List (Option fw_V)} {S S' : List fw_V} (h : fw_go (fw_from (gT G) pc) L S = some ((pc', .iaload, len, nx, tg, v), L', .inl i :: .inr (some a) :: S')) (hw : w a = some (.inl (t, N, .inl f))) (ht : fw_ar T t .int) (hin : vp_in i N)
    (kk : J T G X nx L' (.inl (f i.toNatClampNeg) :: S') w k n) : J T G X pc L S w k n := by
  obtain ⟨⟨hd, hn, hlen, -⟩, hrun⟩ := fw_run (w := w) (k := k) (n := n) C h
  refine hrun ?_
  obtain ⟨⟨hx, hb, hml, ho, hts⟩, ⟨hK, -⟩, -⟩ := C
  simp only [fw_len] at hlen; subst hlen; subst hn
  intro H locs ls hl hP hD hS
  exact va_iald hx hb hK (hP.one hw) 0 t rfl (fw_ar_at ht) hin hd (kk H locs ls hl hP hD hS)
theorem j_iast (C : fw_ok T G X) {pc pc' len nx tg t N a : Nat} {v i x : Int32} {f : Nat → Int32} {L L' : List (Option fw_V)} {S S' : List fw_V} (h : fw_go (fw_from (gT G) pc) L S = some ((pc', .iastore, len, nx, tg, v), L', .inl x :: .inl i :: .inr (some a) :: S')) (hw : w a = some (.inl (t, N, .inl f))) (ht : fw_ar T t .int) (hin : vp_in i N)
    (kk : J T G X nx L' S' (va_up w a (some (.inl (t, N, .inl (va_up f i.toNatClampNeg x))))) k n) : J T G X pc L S w k n := by
  obtain ⟨⟨hd, hn, hlen, -⟩, hrun⟩ := fw_run (w := w) (k := k) (n := n) C h
  refine hrun ?_
  obtain ⟨⟨hx, hb, hml, ho, hts⟩, ⟨hK, -⟩, -⟩ := C
  simp only [fw_len] at hlen; subst hlen; subst hn
  intro H locs ls hl hP hD hS
  refine W.iast hx hb (hP a _ hw) ((hK.2 t _ (fw_ar_at ht)).1 N (fun j => .int (f j))) (fun q => by cases q) (by show ¬ (i < 0 ∨ (arrV _ _ _).slots.size ≤ _); rw [arrV_size]; exact hin) rfl rfl hd fun H1 e z oq => ?_
  refine kk H1 _ ls hl (hP.up ?_ (fun q hq _ => oq q hq)) (hD.up (hD a _ hw)) (hS.put z oq (hD a _ hw))
  show H1[a]? = some (vp_cell _ _)
  rw [e]
  dsimp only
  rw [vp_cell_i, vp_cell_i, arrV_store]
  congr 2
  funext q
  by_cases hq : q = i.toNatClampNeg
  · subst hq
    simp [updV, va_up]
  · simp [updV, va_up, hq]
/-- what may be put into an array of class C: nothing, or an object of the world's class ci, which is C -/
def fw_put (T : fw_T) (w : fw_W) (Cn : String) (r : Option Nat) : Prop := r = none ∨ ∃ (b ci N : Nat) (Tb : u_T) (fs : List fw_V), r = some b ∧ w b = some (.inr (ci, fs)) ∧ T.2.1[ci]? = some (Cn, Tb, N)
theorem j_aast (C : fw_ok T G X) {pc pc' len nx tg t N a : Nat} {v i : Int32} {r : Option Nat} {Cn : String} {f : Nat → Option Nat} {L L' : List (Option fw_V)} {S S' : List fw_V} (h : fw_go (fw_from (gT G) pc) L S = some ((pc', .aastore, len, nx, tg, v), L', .inr r :: .inl i :: .inr (some a) :: S')) (hw : w a = some (.inl (t, N, .inr f))) (ht : fw_ar T t (.object Cn)) (hin : vp_in i N) (hr : fw_put T w Cn r)
    (kk : J T G X nx L' S' (va_up w a (some (.inl (t, N, .inr (va_up f i.toNatClampNeg r))))) k n) : J T G X pc L S w k n := by
  obtain ⟨⟨hd, hn, hlen, -⟩, hrun⟩ := fw_run (w := w) (k := k) (n := n) C h
  refine hrun ?_
  obtain ⟨⟨hx, hb, hml, ho, hts⟩, ⟨hK, -⟩, -⟩ := C
  simp only [fw_len] at hlen; subst hlen; subst hn
  intro H locs ls hl hP hD hS
  have hlt : i.toNatClampNeg < N := Nat.not_le.mp fun q => hin (Or.inr q)
  have h0 : ¬ i < 0 := fun q => hin (Or.inl q)
  have key : ∀ (r : Option Nat) (H1 : Heap), H1[a]? = some ((vp_cell (fw_c T t) (N, .inr (.inr (.inr (.inr f))))).setSlot i.toNatClampNeg (va_rf r)) → va_at T.1 T.2.1 (a, fw_e T (.inl (t, N, .inr (va_up f i.toNatClampNeg r)))) H1 := by
    intro r H1 e
    show H1[a]? = some (vp_cell _ _)
    rw [e]
    dsimp only
    rw [vp_cell_q, vp_cell_q, arrV_store]
    congr 2
    funext q
    by_cases hq : q = i.toNatClampNeg
    · subst hq
      simp [updV, va_up]
    · simp [updV, va_up, hq]
  rcases hr with rfl | ⟨b, ci, N2, Tb, fs, rfl, hwb, hc⟩
  · refine va_WaastN (C := Cn) hx hb (hP a _ hw) ((hK.2 t _ (fw_ar_at ht)).1 N (fun j => va_rf (f j))) (fun h => by cases h) (by show ¬ (i < 0 ∨ (arrV _ _ _).slots.size ≤ _); rw [arrV_size]; exact hin) rfl rfl hd fun H1 e z oq => ?_
    exact kk H1 _ ls hl (hP.up (key none H1 e) (fun q hq _ => oq q hq)) (hD.up (hD a _ hw)) (hS.put z oq (hD a _ hw))
  · obtain ⟨r', hr', cellV, g1, g2, g3, -⟩ := hP b _ hwb
    have hcls := (hK.1 ci _ hc).2
    obtain ⟨kA, comp, k1, k2, k3, -⟩ := (hK.2 t _ (fw_ar_at ht)).2
    have hcomp : comp = T.1.1 ci := Option.some.inj (k3.symm.trans hcls.1)
    subst hcomp
    obtain ⟨kC, hkC, -⟩ := hcls.2
    refine W.aast hx hb (hP a _ hw) (fun q h => by cases h) (fun h => by cases h) k1 k2 rfl hkC ⟨h0, by show _ < (arrV _ _ _).slots.size; rw [arrV_size]; exact hlt⟩ g1 (fun q h => by rw [g3] at h; cases h) (by rw [g2]; exact hkC) (by rw [g2]; exact va_assign hcls) rfl rfl hd fun H1 e z oq => ?_
    exact kk H1 _ ls hl (hP.up (key (some b) H1 e) (fun q hq _ => oq q hq)) (hD.up (hD a _ hw)) (hS.put z oq (hD a _ hw))
theorem j_alen (C : fw_ok T G X) {pc pc' len nx tg t a N : Nat} {v : Int32} {f : (Nat → Int32) ⊕ (Nat → Option Nat)} {ty : FieldType} {L L' : List (Option fw_V)} {S S' : List fw_V} (h : fw_go (fw_from (gT G) pc) L S = some ((pc', .arraylength, len, nx, tg, v), L', .inr (some a) :: S')) (hw : w a = some (.inl (t, N, f))) (ht : fw_ar T t ty)
    (kk : J T G X nx L' (.inl (Int32.ofNat N) :: S') w k n) : J T G X pc L S w k n := by
  obtain ⟨⟨hd, hn, hlen, -⟩, hrun⟩ := fw_run (w := w) (k := k) (n := n) C h
  refine hrun ?_
  obtain ⟨⟨hx, hb, hml, ho, hts⟩, ⟨hK, -⟩, -⟩ := C
  simp only [fw_len] at hlen; subst hlen; subst hn
  intro H locs ls hl hP hD hS
  rcases f with f | f
  · exact va_alen hx hb hK (hP.one hw) 0 t (x := (N, .inl f)) rfl (fw_ar_at ht) rfl hd (kk H locs ls hl hP hD hS)
  · exact va_alen hx hb hK (hP.one hw) 0 t (x := (N, .inr (.inr (.inr (.inr f))))) rfl (fw_ar_at ht) rfl hd (kk H locs ls hl hP hD hS)
theorem j_newq (C : fw_ok T G X) {pc pc' len nx tg idx t N : Nat} {v x : Int32} {Cn : String} {L L' : List (Option fw_V)} {S S' : List fw_V} (h : fw_go (fw_from (gT G) pc) L S = some ((pc', .anewarray idx, len, nx, tg, v), L', .inl x :: S')) (ht : fw_ar T t (.object Cn)) (hw1 : Jvm.Cond.classLink (gO G) idx Cn ∈ gW G) (hw2 : Cn ∈ fw_AL) (hx0 : ¬ x < 0) (hxN : x.toNatClampNeg = N) (hby : N * 4 ≤ 536870912) (hcl : k + 1 ≤ (gR G).cells) (hsl : n + N ≤ (gR G).slots)
    (kk : ∀ q : Nat, w q = none → J T G X nx L' (.inr (some q) :: S') (va_up w q (some (.inl (t, N, .inr (fun _ => none))))) (k + 1) (n + N)) : J T G X pc L S w k n := by
  obtain ⟨⟨hd, hn, hlen, -⟩, hrun⟩ := fw_run (w := w) (k := k) (n := n) C h
  refine hrun ?_
  obtain ⟨⟨hx, hb, hml, ho, hts⟩, ⟨hK, -, -, hAO⟩, -⟩ := C
  simp only [fw_len] at hlen; subst hlen; subst hn; subst hxN
  intro H locs ls hl hP hD hS
  refine W.anew hx hb ho (hts _ hw1) (va_AO.use (hAO Cn hw2)) rfl hd rfl hx0 hby hcl hsl fun cA kA comp f1 f2 f3 f4 => ?_
  generalize hH1 : H.push ({ cls := cA, slots := Array.replicate x.toNatClampNeg .null, vm := .none } : Cell) = H1
  have z1 : H1.size = H.size + 1 := by rw [← hH1, Array.size_push]
  have e1 : H1[H.size]? = some (arrV cA x.toNatClampNeg (fun _ => .null)) := by rw [← hH1, Array.getElem?_push_size, ← arrV_new]
  have o1 : ∀ q : Nat, q < H.size → H1[q]? = H[q]? := fun q hq => by rw [← hH1, Array.getElem?_push, if_neg (Nat.ne_of_lt hq)]
  have hcA : cA = fw_c T t := by
    obtain ⟨_, _, _, _, _, k4⟩ := (hK.2 t _ (fw_ar_at ht)).2
    exact Option.some.inj (f1.symm.trans k4)
  refine kk H.size (fw_none hP) H1 locs ls hl (hP.up ?_ (fun q _ hq => o1 q hq)) (hD.up (xF_new hS)) ⟨Nat.le_trans hS.1 (by omega), fun q h1 h2 => (o1 q (Nat.lt_of_lt_of_le h1 hS.1)).trans (hS.2.1 q h1 h2), hS.2.2⟩
  show H1[H.size]? = some (vp_cell _ _)
  rw [e1, hcA]
  rfl
theorem j_newi (C : fw_ok T G X) {pc pc' len nx tg t N : Nat} {v x : Int32} {L L' : List (Option fw_V)} {S S' : List fw_V} (h : fw_go (fw_from (gT G) pc) L S = some ((pc', .newarray .int, len, nx, tg, v), L', .inl x :: S')) (ht : fw_ar T t .int) (hw1 : Jvm.Cond.arrayClass .int ∈ gW G) (hx0 : ¬ x < 0) (hxN : x.toNatClampNeg = N) (hby : N * 4 ≤ 536870912) (hcl : k + 1 ≤ (gR G).cells) (hsl : n + N ≤ (gR G).slots)
    (kk : ∀ q : Nat, w q = none → J T G X nx L' (.inr (some q) :: S') (va_up w q (some (.inl (t, N, .inl (fun _ => 0))))) (k + 1) (n + N)) : J T G X pc L S w k n := by
  obtain ⟨⟨hd, hn, hlen, -⟩, hrun⟩ := fw_run (w := w) (k := k) (n := n) C h
  refine hrun ?_
  obtain ⟨⟨hx, hb, hml, ho, hts⟩, ⟨hK, -⟩, -⟩ := C
  simp only [fw_len] at hlen; subst hlen; subst hn; subst hxN
  intro H locs ls hl hP hD hS
  refine va_newaK hx hb (atype := .int) (hts _ hw1) rfl hd rfl hx0 rfl hby hcl hsl rfl fun H1 cA e1 z1 o1 hAr hNm => ?_
  have hcA : cA = fw_c T t := by
    have k4 := (hK.2 t _ (fw_ar_at ht)).2
    exact Option.some.inj (hNm.symm.trans k4)
  refine kk H.size (fw_none hP) H1 locs ls hl (hP.up ?_ (fun q _ hq => o1 q hq)) (hD.up (xF_new hS)) ⟨Nat.le_trans hS.1 (by omega), fun q h1 h2 => (o1 q (Nat.lt_of_lt_of_le h1 hS.1)).trans (hS.2.1 q h1 h2), hS.2.2⟩
  show H1[H.size]? = some (vp_cell _ _)
  rw [e1, hcA]
  rfl
def fw_cmp (c : Jvm.ClassFile.Cond) (x y : Int32) : Prop := match c with
  | .eq => x = y
  | .ne => ¬ x = y
  | .lt => x < y
  | .ge => y ≤ x
  | .gt => y < x
  | .le => x ≤ y
theorem j_if (C : fw_ok T G X) {pc pc' len nx tg : Nat} {v x : Int32} {cd : Jvm.ClassFile.Cond} {o : Int} {L L' : List (Option fw_V)} {S S' : List fw_V} (h : fw_go (fw_from (gT G) pc) L S = some ((pc', .ifCond cd o, len, nx, tg, v), L', .inl x :: S'))
    (kt : fw_cmp cd x 0 → J T G X tg L' S' w k n) (kf : ¬ fw_cmp cd x 0 → J T G X nx L' S' w k n) : J T G X pc L S w k n := by
  obtain ⟨⟨hd, hn, hlen, htg⟩, hrun⟩ := fw_run (w := w) (k := k) (n := n) C h
  refine hrun ?_
  obtain ⟨⟨hx, hb, hml, ho, hts⟩, ⟨hK, -⟩, -⟩ := C
  simp only [fw_len] at hlen; subst hlen; subst hn
  have htg2 : (pc' : Int) + o = (tg : Int) := of_decide_eq_true htg
  intro H locs ls hl hP hD hS
  cases cd
  · exact lv_if_eq hx hb hd htg2 (fun q => kt q H locs ls hl hP hD hS) (fun q => kf q H locs ls hl hP hD hS)
  · exact lv_if_ne hx hb hd htg2 (fun q => kt q H locs ls hl hP hD hS) (fun q => kf (fun z => z q) H locs ls hl hP hD hS)
  · exact lv_if_lt hx hb hd htg2 (fun q => kt q H locs ls hl hP hD hS) (fun q => kf q H locs ls hl hP hD hS)
  · exact lv_if_ge hx hb hd htg2 (fun q => kt q H locs ls hl hP hD hS) (fun q => kf q H locs ls hl hP hD hS)
  · exact lv_if_gt hx hb hd htg2 (fun q => kt q H locs ls hl hP hD hS) (fun q => kf q H locs ls hl hP hD hS)
  · exact lv_if_le hx hb hd htg2 (fun q => kt q H locs ls hl hP hD hS) (fun q => kf q H locs ls hl hP hD hS)
theorem j_icmp (C : fw_ok T G X) {pc pc' len nx tg : Nat} {v x y : Int32} {cd : Jvm.ClassFile.Cond} {o : Int} {L L' : List (Option fw_V)} {S S' : List fw_V} (h : fw_go (fw_from (gT G) pc) L S = some ((pc', .if_icmp cd o, len, nx, tg, v), L', .inl y :: .inl x :: S'))
    (kt : fw_cmp cd x y → J T G X tg L' S' w k n) (kf : ¬ fw_cmp cd x y → J T G X nx L' S' w k n) : J T G X pc L S w k n := by
  obtain ⟨⟨hd, hn, hlen, htg⟩, hrun⟩ := fw_run (w := w) (k := k) (n := n) C h
  refine hrun ?_
  obtain ⟨⟨hx, hb, hml, ho, hts⟩, ⟨hK, -⟩, -⟩ := C
  simp only [fw_len] at hlen; subst hlen; subst hn
  have htg2 : (pc' : Int) + o = (tg : Int) := of_decide_eq_true htg
  intro H locs ls hl hP hD hS
  cases cd
  · exact lv_icmp_eq hx hb hd htg2 (fun q => kt q H locs ls hl hP hD hS) (fun q => kf q H locs ls hl hP hD hS)
  · exact lv_icmp_ne hx hb hd htg2 (fun q => kt q H locs ls hl hP hD hS) (fun q => kf (fun z => z q) H locs ls hl hP hD hS)
  · exact lv_icmp_lt hx hb hd htg2 (fun q => kt q H locs ls hl hP hD hS) (fun q => kf q H locs ls hl hP hD hS)
  · exact lv_icmp_ge hx hb hd htg2 (fun q => kt q H locs ls hl hP hD hS) (fun q => kf q H locs ls hl hP hD hS)
  · exact lv_icmp_gt hx hb hd htg2 (fun q => kt q H locs ls hl hP hD hS) (fun q => kf q H locs ls hl hP hD hS)
  · exact lv_icmp_le hx hb hd htg2 (fun q => kt q H locs ls hl hP hD hS) (fun q => kf q H locs ls hl hP hD hS)
def fw_acmp (c : Jvm.ClassFile.ACond) (x y : Option Nat) : Prop := match c with
  | .eq => x = y
  | .ne => ¬ x = y
theorem j_acmp (C : fw_ok T G X) {pc pc' len nx tg : Nat} {v : Int32} {x y : Option Nat} {cd : Jvm.ClassFile.ACond} {o : Int} {L L' : List (Option fw_V)} {S S' : List fw_V} (h : fw_go (fw_from (gT G) pc) L S = some ((pc', .if_acmp cd o, len, nx, tg, v), L', .inr y :: .inr x :: S'))
    (kt : fw_acmp cd x y → J T G X tg L' S' w k n) (kf : ¬ fw_acmp cd x y → J T G X nx L' S' w k n) : J T G X pc L S w k n := by
  obtain ⟨⟨hd, hn, hlen, htg⟩, hrun⟩ := fw_run (w := w) (k := k) (n := n) C h
  refine hrun ?_
  obtain ⟨⟨hx, hb, hml, ho, hts⟩, ⟨hK, -⟩, -⟩ := C
  simp only [fw_len] at hlen; subst hlen; subst hn
  have htg2 : (pc' : Int) + o = (tg : Int) := of_decide_eq_true htg
  intro H locs ls hl hP hD hS
  cases cd
  · exact lv_acmp_eq hx hb hd htg2 (fun q => kt q H locs ls hl hP hD hS) (fun q => kf q H locs ls hl hP hD hS)
  · exact lv_acmp_ne hx hb hd htg2 (fun q => kt q H locs ls hl hP hD hS) (fun q => kf (fun z => z q) H locs ls hl hP hD hS)
theorem j_ifnull (C : fw_ok T G X) {pc pc' len nx tg : Nat} {v : Int32} {x : Option Nat} {o : Int} {L L' : List (Option fw_V)} {S S' : List fw_V} (h : fw_go (fw_from (gT G) pc) L S = some ((pc', .ifnull o, len, nx, tg, v), L', .inr x :: S'))
    (kt : x = none → J T G X tg L' S' w k n) (kf : ∀ a, x = some a → J T G X nx L' S' w k n) : J T G X pc L S w k n := by
  obtain ⟨⟨hd, hn, hlen, htg⟩, hrun⟩ := fw_run (w := w) (k := k) (n := n) C h
  refine hrun ?_
  obtain ⟨⟨hx, hb, hml, ho, hts⟩, ⟨hK, -⟩, -⟩ := C
  simp only [fw_len] at hlen; subst hlen; subst hn
  have htg2 : (pc' : Int) + o = (tg : Int) := of_decide_eq_true htg
  intro H locs ls hl hP hD hS
  cases x with
  | none => exact lv_ifnullN hx hb hd htg2 (kt rfl H locs ls hl hP hD hS)
  | some a => exact lv_ifnull hx hb hd (kf a rfl H locs ls hl hP hD hS)
theorem j_ifnn (C : fw_ok T G X) {pc pc' len nx tg : Nat} {v : Int32} {x : Option Nat} {o : Int} {L L' : List (Option fw_V)} {S S' : List fw_V} (h : fw_go (fw_from (gT G) pc) L S = some ((pc', .ifnonnull o, len, nx, tg, v), L', .inr x :: S'))
    (kt : ∀ a, x = some a → J T G X tg L' S' w k n) (kf : x = none → J T G X nx L' S' w k n) : J T G X pc L S w k n := by
  obtain ⟨⟨hd, hn, hlen, htg⟩, hrun⟩ := fw_run (w := w) (k := k) (n := n) C h
  refine hrun ?_
  obtain ⟨⟨hx, hb, hml, ho, hts⟩, ⟨hK, -⟩, -⟩ := C
  simp only [fw_len] at hlen; subst hlen; subst hn
  have htg2 : (pc' : Int) + o = (tg : Int) := of_decide_eq_true htg
  intro H locs ls hl hP hD hS
  cases x with
  | none => exact lv_ifnonnullN hx hb hd (kf rfl H locs ls hl hP hD hS)
  | some a => exact lv_ifnonnull hx hb hd htg2 (kt a rfl H locs ls hl hP hD hS)
theorem j_goto (C : fw_ok T G X) {pc pc' len nx tg : Nat} {v : Int32} {o : Int} {L L' : List (Option fw_V)} {S S' : List fw_V} (h : fw_go (fw_from (gT G) pc) L S = some ((pc', .goto o, len, nx, tg, v), L', S'))
    (kt : J T G X tg L' S' w k n) : J T G X pc L S w k n := by
  obtain ⟨⟨hd, hn, hlen, htg⟩, hrun⟩ := fw_run (w := w) (k := k) (n := n) C h
  refine hrun ?_
  obtain ⟨⟨hx, hb, hml, ho, hts⟩, ⟨hK, -⟩, -⟩ := C
  simp only [fw_len] at hlen; subst hlen; subst hn
  have htg2 : (pc' : Int) + o = (tg : Int) := of_decide_eq_true htg
  intro H locs ls hl hP hD hS
  exact lv_goto hx hb hd htg2 (kt H locs ls hl hP hD hS)
/-- a table switch at a known number -/
theorem j_tsw (C : fw_ok T G X) {pc pc' len nx tg tgt : Nat} {v x : Int32} {d lo hi o : Int} {os : Array Int} {L L' : List (Option fw_V)} {S S' : List fw_V} (h : fw_go (fw_from (gT G) pc) L S = some ((pc', .tableswitch d lo hi os, len, nx, tg, v), L', .inl x :: S')) (h1 : ¬ x.toInt < lo) (h2 : ¬ hi < x.toInt) (ho : os[(x.toInt - lo).toNat]? = some o) (ht : (pc' : Int) + o = (tgt : Int))
    (kt : J T G X tgt L' S' w k n) : J T G X pc L S w k n := by
  obtain ⟨⟨hd, hn, hlen, -⟩, hrun⟩ := fw_run (w := w) (k := k) (n := n) C h
  refine hrun ?_
  obtain ⟨⟨hx, hb, hml, -, hts⟩, ⟨hK, -⟩, -⟩ := C
  intro H locs ls hl hP hD hS
  exact lv_tableIn hx hb hd h1 h2 ho ht (kt H locs ls hl hP hD hS)
theorem j_tsd (C : fw_ok T G X) {pc pc' len nx tg tgt : Nat} {v x : Int32} {d lo hi : Int} {os : Array Int} {L L' : List (Option fw_V)} {S S' : List fw_V} (h : fw_go (fw_from (gT G) pc) L S = some ((pc', .tableswitch d lo hi os, len, nx, tg, v), L', .inl x :: S')) (h1 : x.toInt < lo ∨ hi < x.toInt) (ht : (pc' : Int) + d = (tgt : Int))
    (kt : J T G X tgt L' S' w k n) : J T G X pc L S w k n := by
  obtain ⟨⟨hd, hn, hlen, -⟩, hrun⟩ := fw_run (w := w) (k := k) (n := n) C h
  refine hrun ?_
  obtain ⟨⟨hx, hb, hml, -, hts⟩, ⟨hK, -⟩, -⟩ := C
  intro H locs ls hl hP hD hS
  exact lv_tableOut hx hb hd h1 ht (kt H locs ls hl hP hD hS)
theorem j_lsw (C : fw_ok T G X) {pc pc' len nx tg tgt : Nat} {v x : Int32} {d o : Int} {ps : Array (Int × Int)} {L L' : List (Option fw_V)} {S S' : List fw_V} (h : fw_go (fw_from (gT G) pc) L S = some ((pc', .lookupswitch d ps, len, nx, tg, v), L', .inl x :: S')) (hp : (ps.toList.zip (ps.toList.drop 1)).all (fun (a, next) => a.1 < next.1) = true) (ho : Op.lookupswitch.offset ps.toList d x.toInt = o) (ht : (pc' : Int) + o = (tgt : Int))
    (kt : J T G X tgt L' S' w k n) : J T G X pc L S w k n := by
  obtain ⟨⟨hd, hn, hlen, -⟩, hrun⟩ := fw_run (w := w) (k := k) (n := n) C h
  refine hrun ?_
  obtain ⟨⟨hx, hb, hml, -, hts⟩, ⟨hK, -⟩, -⟩ := C
  intro H locs ls hl hP hD hS
  exact lv_lookup hx hb hd hp ho ht (kt H locs ls hl hP hD hS)
/-- more may be counted -/
theorem j_wide {pc k2 n2 : Nat} {L : List (Option fw_V)} {S : List fw_V} (h1 : k ≤ k2) (h2 : n ≤ n2) (kk : J T G X pc L S w k2 n2) : J T G X pc L S w k n :=
  fun H locs ls hl hP hD hS => W.widen h1 h2 (kk H locs ls hl hP hD hS)
theorem fw_end {post : Option fw_V → fw_W → Prop} {H : Heap} {locs : List Loc} {t : State} (r : Option fw_V) (hq : post r w) (hK : fw_K T (xS X)) (hP : fw_P T w H) (hD : fw_D (xF X) w) (hS : va_S (xF X) (xS X).heap H locs) (ht : t.heap = H) (hW : (xS X).WarmedH t.vm) : fw_Qc T (xW X) (xS X).heap.size post (xA X) (xS X) (.returned (r.map fw_v)) t :=
  ⟨⟨r, w, rfl, hq, by rw [ht]; exact hP, fw_K.moved hW hK, hD⟩, hS.F ht⟩
theorem j_iret {post : Option fw_V → fw_W → Prop} (C : fw_ok T G X) (E : fw_ends T G X post) {pc pc' len nx tg : Nat} {v x : Int32} {L L' : List (Option fw_V)} {S : List fw_V} (h : fw_go (fw_from (gT G) pc) L S = some ((pc', .ireturn, len, nx, tg, v), L', [.inl x])) (hr : gA G = some .int ∨ (gA G = some .boolean ∧ (x = 0 ∨ x = 1))) (h1 : k ≤ (gR G).cells) (h2 : n ≤ (gR G).slots) (hq : post (some (.inl x)) w) : J T G X pc L S w k n := by
  obtain ⟨⟨hd, hn, hlen, -⟩, hrun⟩ := fw_run (w := w) (k := k) (n := n) C h
  refine hrun (j_wide h1 h2 ?_)
  obtain ⟨⟨hx, hb, hml, ho, hts⟩, hK, hret, hlocks, -⟩ := C
  simp only [fw_len] at hlen; subst hlen; subst hn
  intro H locs ls hl hP hD hS
  rw [show xQ X = _ from E]
  rcases hr with hr | ⟨hr, h01⟩
  · exact W.iret hx hb (hret.trans hr) (fun t ht hW => fw_end (some (.inl x)) hq hK hP hD hS ht hW) hS.2.2 hd hlocks
  · exact W.zret hx hb (hret.trans hr) (by rcases h01 with rfl | rfl <;> decide) (fun t ht hW => fw_end (some (.inl x)) hq hK hP hD hS ht hW) hS.2.2 hd hlocks
theorem j_aret {post : Option fw_V → fw_W → Prop} (C : fw_ok T G X) (E : fw_ends T G X post) {pc pc' len nx tg : Nat} {v : Int32} {x : Option Nat} {Cn : String} {L L' : List (Option fw_V)} {S : List fw_V} (h : fw_go (fw_from (gT G) pc) L S = some ((pc', .areturn, len, nx, tg, v), L', [.inr x])) (hr : gA G = some (.object Cn)) (h1 : k ≤ (gR G).cells) (h2 : n ≤ (gR G).slots) (hq : post (some (.inr x)) w) : J T G X pc L S w k n := by
  obtain ⟨⟨hd, hn, hlen, -⟩, hrun⟩ := fw_run (w := w) (k := k) (n := n) C h
  refine hrun (j_wide h1 h2 ?_)
  obtain ⟨⟨hx, hb, hml, ho, hts⟩, hK, hret, hlocks, -⟩ := C
  simp only [fw_len] at hlen; subst hlen; subst hn
  intro H locs ls hl hP hD hS
  rw [show xQ X = _ from E]
  exact W.aret (v := va_rf x) hx hb (hret.trans hr) (Or.inl ⟨_, rfl⟩) (va_rf_or x) (fun t ht hW => fw_end (some (.inr x)) hq hK hP hD hS ht hW) hS.2.2 hd hlocks
theorem j_vret {post : Option fw_V → fw_W → Prop} (C : fw_ok T G X) (E : fw_ends T G X post) {pc pc' len nx tg : Nat} {v : Int32} {L L' : List (Option fw_V)} {S : List fw_V} (h : fw_go (fw_from (gT G) pc) L S = some ((pc', .return_, len, nx, tg, v), L', [])) (hr : gA G = none) (h1 : k ≤ (gR G).cells) (h2 : n ≤ (gR G).slots) (hq : post none w) : J T G X pc L S w k n := by
  obtain ⟨⟨hd, hn, hlen, -⟩, hrun⟩ := fw_run (w := w) (k := k) (n := n) C h
  refine hrun (j_wide h1 h2 ?_)
  obtain ⟨⟨hx, hb, hml, ho, hts⟩, hK, hret, hlocks, -⟩ := C
  simp only [fw_len] at hlen; subst hlen; subst hn
  intro H locs ls hl hP hD hS
  rw [show xQ X = _ from E]
  exact W.vret hx hb (hret.trans hr) (fun t ht hW => fw_end none hq hK hP hD hS ht hW) hS.2.2 hd hlocks
/-- Object's constructor -/
theorem j_obj (C : fw_ok T G X) {pc pc' len nx tg idx a : Nat} {v : Int32} {L L' : List (Option fw_V)} {S S' : List fw_V} (h : fw_go (fw_from (gT G) pc) L S = some ((pc', .invokespecial idx, len, nx, tg, v), L', .inr (some a) :: S')) (hw1 : Jvm.Cond.methodLink (gO G) idx objectInit ∈ gW G) (hw2 : Jvm.Cond.instanceMethod objectInit ∈ gW G) (hw3 : Jvm.Cond.code objectInit ⟨#[0xb1]⟩ 1 none ∈ gW G) (hfr : 1 ≤ (gR G).frames) (hlo : S'.length + 12 ≤ (gR G).locals)
    (kk : J T G X nx L' S' w k n) : J T G X pc L S w k n := by
  obtain ⟨⟨hd, hn, hlen, -⟩, hrun⟩ := fw_run (w := w) (k := k) (n := n) C h
  refine hrun ?_
  obtain ⟨⟨hx, hb, hml, ho, hts⟩, ⟨hK, -⟩, -⟩ := C
  simp only [fw_len] at hlen; subst hlen; subst hn
  intro H locs ls hl hP hD hS
  have hsum : ∀ (S : List fw_V), ((S.map fw_v).map fun v => v.category).sum = S.length := by
    intro S
    induction S with
    | nil => rfl
    | cons v S ih => simp only [List.map_cons, List.sum_cons, List.length_cons, ih, fw_cat]; omega
  obtain ⟨l0, hl1, hl2, hl3⟩ := hl
  refine W.objInit hx hb ho (hts _ hw1) (hts _ hw2) (hts _ hw3) rfl (by rw [hml]; exact hl1.1) rfl hd hfr ?_ (kk H locs ls ⟨l0, hl1, hl2, hl3⟩ hP hD hS)
  rw [hsum]
  show 2 * (F0 (xM X) pc' ls _).monitorRoom + _ + 12 ≤ _
  have : (F0 (xM X) pc' ls ((Sum.inr (some a) :: S').map fw_v)).monitorRoom = 0 := rfl
  omega
end FWR2
end
section
section FWC
variable {T : fw_T} {G : fw_G} {X : fw_X} {w : fw_W} {k n : Nat}
theorem fw_blind {av : List fw_V} {sz : Nat} : FrameBlind (fw_Pc T av w sz) := fun a U g mk q => by
  obtain ⟨q0, q1, qP, qK⟩ := q
  exact ⟨q0, q1, qP, fw_K.same (U := U.calling g mk a) rfl qK⟩
theorem fw_pre {av : List fw_V} {s U : State} {H : Heap} (hP : fw_P T w H) (hK : fw_K T s) (hU : U.heap = H) (hW : s.WarmedH U.vm) : fw_Pc T av w H.size (av.map fw_v).toArray U :=
  ⟨rfl, by rw [hU], by rw [hU]; exact hP, fw_K.moved hW hK⟩
theorem fw_after {p : Program} {l : Launch} {e : Env} {R : Room} {s : State} {m : MethodId} {args : Array Value} {below : List Frame} {meth : Method} {c : Code} {H : Heap} {locs : List Loc} {cells slots mc ms pc : Nat} {Q : State → Prop} {ls : Array Slot} {st0 rest : List Value} {A0 : Nat → Prop} {H0 : Heap} {a : Array Value} {post2 : Option fw_V → fw_W → Prop}
    (hr : va_Run p l e R s m args below meth c H locs cells slots mc ms (F0 m pc ls st0) rest (fw_Qc T w H.size post2 a) (fw_A w H.size)) (hD : fw_D A0 w) (hS : va_S A0 H0 H locs) (hA : ∀ q, H0.size ≤ q → A0 q)
    (kk : ∀ (r : Option fw_V) (w' : fw_W) (H1 : Heap) (locs1 : List Loc), post2 r w' → fw_P T w' H1 → fw_D A0 w' → va_S A0 H0 H1 locs1 → W p l e R s m args below meth c H1 locs1 (cells + mc) (slots + ms) Q (F0 m (pc + 3) ls ((r.map fw_v).toList ++ rest))) : W p l e R s m args below meth c H locs cells slots Q (F0 m pc ls st0) := by
  intro T0 hT X0
  obtain ⟨v, st₀, t, T', L, h0, X', hL, e1, e2, ⟨⟨r, w', hv, hp, hP', hK', hD'⟩, hz, hk⟩, st⟩ := hr T0 hT X0
  cases hv
  rw [h0] at hz hk
  have hin : ∀ q, fw_A w H.size q → A0 q := fun q h => by
    rcases h with ⟨e, h⟩ | h
    · exact hD q e h
    · exact hA q (Nat.le_trans hS.1 h)
  obtain ⟨t2, a1, b1⟩ := kk r w' T'.heap (locs ++ L) hp (by rw [e1]; exact hP') (fun q e h => hin q (hD' q e h))
    ⟨Nat.le_trans hS.1 (by rw [e1]; exact hz), fun q h1 h2 => by rw [e1, hk q (Nat.lt_of_lt_of_le h1 hS.1) (fun z => h2 (hin q z))]; exact hS.2.1 q h1 h2, fun q hq => by
      rcases List.mem_append.mp hq with h | h
      · exact hS.2.2 q h
      · exact hin _ (hL q h)⟩ T' rfl X'
  exact ⟨t2, st t2 a1, b1⟩
theorem fw_back (r : Option fw_V) (S : List fw_V) : (r.toList ++ S).map fw_v = (r.map fw_v).toList ++ S.map fw_v := by cases r <;> rfl
theorem fw_sum : ∀ (S : List fw_V), ((S.map fw_v).map fun v => v.category).sum = S.length
  | [] => rfl
  | v :: S => by simp only [List.map_cons, List.sum_cons, List.length_cons, fw_sum S, fw_cat]; omega
def fw_cV (G : fw_G) (idx : Nat) (y : MethodName) (bytes : ByteArray) (maxL : Nat) (ret : Option FieldType) (ws : List Jvm.Cond) (rm : Room) (nA : Nat) : Prop := ∀ (s : State) (args : Array Value), (∀ w ∈ gW G, w.before args s = true) → CallW (gR G) s args (gO G) y.cls idx y bytes maxL ret ws rm rm.cells rm.slots nA
def fw_cS (G : fw_G) (idx : Nat) (y : MethodName) (bytes : ByteArray) (maxL : Nat) (ret : Option FieldType) (ws : List Jvm.Cond) (rm : Room) (nA : Nat) : Prop := ∀ (s : State) (args : Array Value), (∀ w ∈ gW G, w.before args s = true) → CallB (gR G) s args (gO G) idx y bytes maxL ret ws rm rm.cells rm.slots nA ∧ (Cond.static y).before args s = true
def fw_cI (G : fw_G) (idx : Nat) (y : MethodName) (bytes : ByteArray) (maxL : Nat) (ws : List Jvm.Cond) (rm : Room) (nA : Nat) : Prop := ∀ (s : State) (args : Array Value), (∀ w ∈ gW G, w.before args s = true) → CallB (gR G) s args (gO G) idx y bytes maxL none ws rm rm.cells rm.slots nA ∧ y.name = "<init>" ∧ (Cond.instanceMethod y).before args s = true
theorem j_callV (C : fw_ok T G X) {pc pc' len nx tg idx nA maxL b ci N : Nat} {v : Int32} {L L' : List (Option fw_V)} {S S1 S' As : List fw_V} {y : MethodName} {bytes : ByteArray} {ret : Option FieldType} {ws : List Jvm.Cond} {rm : Room} {post2 : Option fw_V → fw_W → Prop} {Tb : u_T} {fs : List fw_V}
    (h : fw_go (fw_from (gT G) pc) L S = some ((pc', .invokevirtual idx, len, nx, tg, v), L', S1)) (hc : fw_cV G idx y bytes maxL ret ws rm nA) (hM : Ct (xL X) T y ws rm (.inr (some b) :: As) w post2) (hS1 : S1 = As.reverse ++ .inr (some b) :: S') (hn : As.length = nA) (hw : w b = some (.inr (ci, fs))) (hci : T.2.1[ci]? = some (y.cls, Tb, N)) (hst : S'.length ≤ 8) (h1 : k + rm.cells ≤ (gR G).cells) (h2 : n + rm.slots ≤ (gR G).slots)
    (kk : ∀ (r : Option fw_V) (w' : fw_W), post2 r w' → J T G X nx L' (r.toList ++ S') w' (k + rm.cells) (n + rm.slots)) : J T G X pc L S w k n := by
  obtain ⟨⟨hd, hnx, hlen, -⟩, hrun⟩ := fw_run (w := w) (k := k) (n := n) C h
  refine hrun ?_
  obtain ⟨S0, hK, -⟩ := C
  obtain ⟨hx, hb, hml, ho, hts⟩ := S0
  simp only [fw_len] at hlen; subst hlen; subst hnx; subst hS1
  intro H locs ls hl hP hD hS
  obtain ⟨l0, hl1, hl2, hl3⟩ := hl
  obtain ⟨r', g0, cell, g1, g2, g3, -⟩ := hP b _ hw
  have hr' : r' = (y.cls, Tb, N) := Option.some.inj (g0.symm.trans hci)
  subst hr'
  have hfc := (hK.1.1 ci _ hci).2.1
  refine fw_after (va_runV (As := As.map fw_v) (rest := S'.map fw_v) (b := b) ⟨hx, hb, hml, ho, hts⟩ (hM H.size) (hc _ _ hts) ⟨fw_blind, ⟨cell, g1, by rw [g3]; rfl, by rw [g2]; exact hfc⟩, fun U hU hW => fw_pre (av := .inr (some b) :: As) hP hK hU hW⟩ rfl (by rw [List.length_map]; exact hn) hl1.1 ?_ (lv_room (by rw [fw_sum]; exact hst)) hd ⟨h1, h2⟩) hD hS (fun q hq => Or.inr hq) (fun r w' H1 locs1 hp hP1 hD1 hS1 => ?_)
  · show (As.reverse ++ .inr (some b) :: S').map fw_v = _
    rw [List.map_append, List.map_reverse]
    rfl
  · rw [← fw_back]
    exact kk r w' hp H1 locs1 ls ⟨l0, hl1, hl2, hl3⟩ hP1 hD1 hS1
theorem j_callS (C : fw_ok T G X) {pc pc' len nx tg idx nA maxL : Nat} {v : Int32} {L L' : List (Option fw_V)} {S S1 S' As : List fw_V} {y : MethodName} {bytes : ByteArray} {ret : Option FieldType} {ws : List Jvm.Cond} {rm : Room} {post2 : Option fw_V → fw_W → Prop}
    (h : fw_go (fw_from (gT G) pc) L S = some ((pc', .invokestatic idx, len, nx, tg, v), L', S1)) (hc : fw_cS G idx y bytes maxL ret ws rm nA) (hM : Ct (xL X) T y ws rm As w post2) (hS1 : S1 = As.reverse ++ S') (hn : As.length = nA) (hst : S'.length ≤ 8) (h1 : k + rm.cells ≤ (gR G).cells) (h2 : n + rm.slots ≤ (gR G).slots)
    (kk : ∀ (r : Option fw_V) (w' : fw_W), post2 r w' → J T G X nx L' (r.toList ++ S') w' (k + rm.cells) (n + rm.slots)) : J T G X pc L S w k n := by
  obtain ⟨⟨hd, hnx, hlen, -⟩, hrun⟩ := fw_run (w := w) (k := k) (n := n) C h
  refine hrun ?_
  obtain ⟨S0, hK, -⟩ := C
  obtain ⟨hx, hb, hml, ho, hts⟩ := S0
  simp only [fw_len] at hlen; subst hlen; subst hnx; subst hS1
  intro H locs ls hl hP hD hS
  obtain ⟨l0, hl1, hl2, hl3⟩ := hl
  refine fw_after (va_runS (As := As.map fw_v) (rest := S'.map fw_v) ⟨hx, hb, hml, ho, hts⟩ (hM H.size) (hc _ _ hts) ⟨fw_blind, fun U hU hW => fw_pre (av := As) hP hK hU hW⟩ rfl (by rw [List.length_map]; exact hn) hl1.1 ?_ (lv_room (by rw [fw_sum]; exact hst)) hd ⟨h1, h2⟩) hD hS (fun q hq => Or.inr hq) (fun r w' H1 locs1 hp hP1 hD1 hS1 => ?_)
  · show (As.reverse ++ S').map fw_v = _
    rw [List.map_append, List.map_reverse]
  · rw [← fw_back]
    exact kk r w' hp H1 locs1 ls ⟨l0, hl1, hl2, hl3⟩ hP1 hD1 hS1
theorem j_callI (C : fw_ok T G X) {pc pc' len nx tg idx nA maxL b : Nat} {v : Int32} {L L' : List (Option fw_V)} {S S1 S' As : List fw_V} {y : MethodName} {bytes : ByteArray} {ws : List Jvm.Cond} {rm : Room} {post2 : Option fw_V → fw_W → Prop}
    (h : fw_go (fw_from (gT G) pc) L S = some ((pc', .invokespecial idx, len, nx, tg, v), L', S1)) (hc : fw_cI G idx y bytes maxL ws rm nA) (hM : Ct (xL X) T y ws rm (.inr (some b) :: As) w post2) (hS1 : S1 = As.reverse ++ .inr (some b) :: S') (hn : As.length = nA) (hst : S'.length ≤ 8) (h1 : k + rm.cells ≤ (gR G).cells) (h2 : n + rm.slots ≤ (gR G).slots)
    (kk : ∀ (r : Option fw_V) (w' : fw_W), post2 r w' → J T G X nx L' (r.toList ++ S') w' (k + rm.cells) (n + rm.slots)) : J T G X pc L S w k n := by
  obtain ⟨⟨hd, hnx, hlen, -⟩, hrun⟩ := fw_run (w := w) (k := k) (n := n) C h
  refine hrun ?_
  obtain ⟨S0, hK, -⟩ := C
  obtain ⟨hx, hb, hml, ho, hts⟩ := S0
  simp only [fw_len] at hlen; subst hlen; subst hnx; subst hS1
  intro H locs ls hl hP hD hS
  obtain ⟨l0, hl1, hl2, hl3⟩ := hl
  refine fw_after (va_runI (As := As.map fw_v) (rest := S'.map fw_v) (b := b) ⟨hx, hb, hml, ho, hts⟩ (hM H.size) (hc _ _ hts) ⟨fw_blind, fun U hU hW => fw_pre (av := .inr (some b) :: As) hP hK hU hW⟩ rfl (by rw [List.length_map]; exact hn) hl1.1 ?_ (lv_room (by rw [fw_sum]; exact hst)) hd ⟨h1, h2⟩) hD hS (fun q hq => Or.inr hq) (fun r w' H1 locs1 hp hP1 hD1 hS1 => ?_)
  · show (As.reverse ++ .inr (some b) :: S').map fw_v = _
    rw [List.map_append, List.map_reverse]
    rfl
  · rw [← fw_back]
    exact kk r w' hp H1 locs1 ls ⟨l0, hl1, hl2, hl3⟩ hP1 hD1 hS1
theorem fw_args_mem : ∀ (av : List fw_V) (j i : Nat) (v : fw_V), av[i]? = some v → (j + i, fw_v v) ∈ lv_args j (av.map fw_v)
  | [], _, i, v, h => by simp at h
  | a :: av, j, 0, v, h => by
    simp only [List.getElem?_cons_zero, Option.some.injEq] at h
    subst h
    exact List.mem_cons_self
  | a :: av, j, i + 1, v, h => by
    rw [List.getElem?_cons_succ] at h
    simp only [List.map_cons, lv_args, fw_cat]
    refine List.mem_cons_of_mem _ ?_
    have := fw_args_mem av (j + 1) i v h
    rw [show j + (i + 1) = j + 1 + i by omega]
    simpa using this
theorem fw_sl_len : ∀ (av : List fw_V), (lg_sl (av.map fw_v)).length = av.length
  | [] => rfl
  | a :: av => by
    have h := fw_sl_len av
    simp only [lg_sl, List.map_cons, List.flatMap_cons, List.length_append, List.length_cons] at h ⊢
    rw [h]
    have hc := fw_cat a
    simp [hc]
    omega
/-- a contract by its walk -/
theorem ct_of {post : Option fw_V → fw_W → Prop} {l : Launch} {y : MethodName} {ws ws' : List Jvm.Cond} {rm : Room} {av : List fw_V} (cc : ByteArray) (nL : Nat) (own : String) (ret : Option FieldType) (tab : List fw_I) (hG : G = (cc, nL, ws, own, rm, ret, tab, y)) (hy : plainName y.cls = true) (hws : ws = Jvm.Cond.code y cc nL ret :: ws') (hown : y.cls = own) (htab : fw_tok cc ws own tab = true) {L : List (Option fw_V)} (hL : L = av.map some ++ List.replicate (nL - av.length) none) (hlen : av.length ≤ nL)
    (kk : ∀ X : fw_X, xL X = l → fw_ok T G X → fw_ends T G X post → J T G X 0 L [] w 0 0) : Ct l T y ws rm av w post := by
  intro sz
  subst hG
  refine Met.ofW (cc := cc) (maxL := nL) (ret := ret) hy hws ?_
  intro p e s m args below meth c s₁ B hml hv
  obtain ⟨rfl, hsz, hP, hK⟩ := hv
  subst hsz
  have hl := lv_entry (av.map fw_v) (n := nL) (by rw [fw_sl_len]; exact hlen)
  rw [lg_entry_eq]
  generalize (lg_sl (av.map fw_v) ++ List.replicate (nL - (lg_sl (av.map fw_v)).length) Slot.unset).toArray = ls at hl ⊢
  have hts := atoms_spec (ws := ws) B.pre
  have hfc : s.vm.findClass own = some m.cls := by rw [← hown]; exact findClass_of_methodNamed B.named
  refine kk (p, l, e, s, m, (av.map fw_v).toArray, below, meth, c, w, MQ below (fw_Qc T w s.heap.size post) (av.map fw_v).toArray s rm.cells rm.slots (fw_A w s.heap.size)) rfl ⟨⟨B.exec, B.bytes, hml, hfc, hts⟩, hK, B.returns, B.notSynchronized, htab, (name_of_methodNamed B.named B.method).1⟩ (by rfl) s.heap [] ls ⟨_, hl, ?_, ?_⟩ hP (fun a e h => Or.inl ⟨e, h⟩) va_S.rf
  · rw [hL, List.length_append, List.length_map, List.length_replicate]
    show _ = nL
    omega
  · intro i v hi
    rw [hL] at hi
    have := fw_args_mem av 0 i v (by
      by_cases h : i < av.length
      · rw [List.getElem?_append_left (by rw [List.length_map]; exact h), List.getElem?_map] at hi
        cases hq : av[i]? with
        | none => rw [hq] at hi; cases hi
        | some u => rw [hq] at hi; cases hi; rfl
      · rw [List.getElem?_append_right (by rw [List.length_map]; omega), List.getElem?_replicate] at hi
        split at hi <;> cases hi)
    rwa [Nat.zero_add] at this
end FWC
end
section
section FWL
variable {T : fw_T} {G : fw_G} {X : fw_X} {w : fw_W} {k n : Nat}
/-- the script -/
theorem j_sld (C : fw_ok T G X) {pc pc' len nx tg b N : Nat} {v i : Int32} {xs : Nat → Int32} {L L' : List (Option fw_V)} {S S' : List fw_V} (hX : va_X b N xs (xS X) (xS X).heap) (hbl : b < (xS X).heap.size) (hbA : ¬ xF X b) (h : fw_go (fw_from (gT G) pc) L S = some ((pc', .iaload, len, nx, tg, v), L', .inl i :: .inr (some b) :: S')) (hin : vp_in i N)
    (kk : J T G X nx L' (.inl (xs i.toNatClampNeg) :: S') w k n) : J T G X pc L S w k n := by
  obtain ⟨⟨hd, hn, hlen, -⟩, hrun⟩ := fw_run (w := w) (k := k) (n := n) C h
  refine hrun ?_
  obtain ⟨⟨hx, hb, hml, ho, hts⟩, ⟨hK, -⟩, -⟩ := C
  simp only [fw_len] at hlen; subst hlen; subst hn
  intro H locs ls hl hP hD hS
  exact va_sld hx hb hX hbl hbA hS hin hd (kk H locs ls hl hP hD hS)
theorem j_slen (C : fw_ok T G X) {pc pc' len nx tg b N : Nat} {v : Int32} {xs : Nat → Int32} {L L' : List (Option fw_V)} {S S' : List fw_V} (hX : va_X b N xs (xS X) (xS X).heap) (hbl : b < (xS X).heap.size) (hbA : ¬ xF X b) (h : fw_go (fw_from (gT G) pc) L S = some ((pc', .arraylength, len, nx, tg, v), L', .inr (some b) :: S'))
    (kk : J T G X nx L' (.inl (Int32.ofNat N) :: S') w k n) : J T G X pc L S w k n := by
  obtain ⟨⟨hd, hn, hlen, -⟩, hrun⟩ := fw_run (w := w) (k := k) (n := n) C h
  refine hrun ?_
  obtain ⟨⟨hx, hb, hml, ho, hts⟩, ⟨hK, -⟩, -⟩ := C
  simp only [fw_len] at hlen; subst hlen; subst hn
  intro H locs ls hl hP hD hS
  exact va_slen hx hb hX hbl hbA hS hd (kk H locs ls hl hP hD hS)
/-- two worlds side by side -/
def fw_un (w1 w2 : fw_W) : fw_W := fun a => match w1 a with
  | some e => some e
  | none => w2 a
def fw_dj (w1 w2 : fw_W) : Prop := ∀ a, w1 a = none ∨ w2 a = none
theorem fw_un_l {w1 w2 : fw_W} {a : Nat} {e : fw_E} (h : w1 a = some e) : fw_un w1 w2 a = some e := by simp [fw_un, h]
theorem fw_un_comm {w1 w2 : fw_W} (h : fw_dj w1 w2) : fw_un w1 w2 = fw_un w2 w1 := by
  funext a
  rcases h a with h | h
  · simp only [fw_un, h]; cases w2 a <;> rfl
  · simp only [fw_un, h]; cases w1 a <;> rfl
theorem fw_dj.symm {w1 w2 : fw_W} (h : fw_dj w1 w2) : fw_dj w2 w1 := fun a => (h a).symm
theorem fw_un_or {w1 w2 : fw_W} {a : Nat} {e : fw_E} (h : fw_un w1 w2 a = some e) : w1 a = some e ∨ (w1 a = none ∧ w2 a = some e) := by
  unfold fw_un at h
  cases h1 : w1 a with
  | some x => rw [h1] at h; exact Or.inl h
  | none => rw [h1] at h; exact Or.inr ⟨rfl, h⟩
theorem fw_afterU {w1 w2 : fw_W} {p : Program} {l : Launch} {e : Env} {R : Room} {s : State} {m : MethodId} {args : Array Value} {below : List Frame} {meth : Method} {c : Code} {H : Heap} {locs : List Loc} {cells slots mc ms pc : Nat} {Q : State → Prop} {ls : Array Slot} {st0 rest : List Value} {A0 : Nat → Prop} {H0 : Heap} {a : Array Value} {post2 : Option fw_V → fw_W → Prop}
    (hr : va_Run p l e R s m args below meth c H locs cells slots mc ms (F0 m pc ls st0) rest (fw_Qc T w1 H.size post2 a) (fw_A w1 H.size)) (hP : fw_P T (fw_un w1 w2) H) (hdj : fw_dj w1 w2) (hD : fw_D A0 (fw_un w1 w2)) (hS : va_S A0 H0 H locs) (hA : ∀ q, H0.size ≤ q → A0 q)
    (kk : ∀ (r : Option fw_V) (w' : fw_W) (H1 : Heap) (locs1 : List Loc), post2 r w' → fw_dj w' w2 → fw_P T (fw_un w' w2) H1 → fw_D A0 (fw_un w' w2) → va_S A0 H0 H1 locs1 → W p l e R s m args below meth c H1 locs1 (cells + mc) (slots + ms) Q (F0 m (pc + 3) ls ((r.map fw_v).toList ++ rest))) : W p l e R s m args below meth c H locs cells slots Q (F0 m pc ls st0) := by
  intro T0 hT X0
  obtain ⟨v, st₀, t, T', L, h0, X', hL, e1, e2, ⟨⟨r, w', hv, hp, hP', hK', hD'⟩, hz, hk⟩, st⟩ := hr T0 hT X0
  cases hv
  rw [h0] at hz hk
  have hin : ∀ q, fw_A w1 H.size q → A0 q := fun q h => by
    rcases h with ⟨e, h⟩ | h
    · exact hD q e (fw_un_l h)
    · exact hA q (Nat.le_trans hS.1 h)
  have h2 : ∀ q e, w2 q = some e → w1 q = none ∧ fw_un w1 w2 q = some e := fun q e h => by
    rcases hdj q with h1 | h1
    · exact ⟨h1, by simp only [fw_un, h1]; exact h⟩
    · rw [h1] at h; cases h
  have hnA : ∀ q e, w2 q = some e → q < H.size ∧ ¬ fw_A w1 H.size q := fun q e h => by
    obtain ⟨h3, h4⟩ := h2 q e h
    have hlt := (hP q e h4).lt
    refine ⟨hlt, fun z => ?_⟩
    rcases z with ⟨e', z⟩ | z
    · rw [h3] at z; cases z
    · exact absurd hlt (Nat.not_lt.mpr z)
  have hdj' : fw_dj w' w2 := fun q => by
    cases hw : w2 q with
    | none => exact Or.inr rfl
    | some e =>
      left
      cases hw' : w' q with
      | none => rfl
      | some e' => exact absurd (hD' q e' hw') (hnA q e hw).2
  obtain ⟨t2, a1, b1⟩ := kk r w' T'.heap (locs ++ L) hp hdj' (fun q e h => by
      rcases fw_un_or h with h | ⟨-, h⟩
      · rw [e1]; exact hP' q e h
      · refine (hP q e (h2 q e h).2).kept ?_
        show T'.heap[q]? = H[q]?
        rw [e1]
        exact hk q (hnA q e h).1 (hnA q e h).2) (fun q e h => by
      rcases fw_un_or h with h | ⟨-, h⟩
      · exact hin q (hD' q e h)
      · exact hD q e (h2 q e h).2)
    ⟨Nat.le_trans hS.1 (by rw [e1]; exact hz), fun q h1 h2 => by rw [e1, hk q (Nat.lt_of_lt_of_le h1 hS.1) (fun z => h2 (hin q z))]; exact hS.2.1 q h1 h2, fun q hq => by
      rcases List.mem_append.mp hq with h | h
      · exact hS.2.2 q h
      · exact hin _ (hL q h)⟩ T' rfl X'
  exact ⟨t2, st t2 a1, b1⟩
theorem j_callU (C : fw_ok T G X) {w1 w2 : fw_W} {pc pc' len nx tg idx nA maxL b ci N : Nat} {v : Int32} {L L' : List (Option fw_V)} {S S1 S' As : List fw_V} {y : MethodName} {bytes : ByteArray} {ret : Option FieldType} {ws : List Jvm.Cond} {rm : Room} {post2 : Option fw_V → fw_W → Prop} {Tb : u_T} {fs : List fw_V}
    (h : fw_go (fw_from (gT G) pc) L S = some ((pc', .invokevirtual idx, len, nx, tg, v), L', S1)) (hc : fw_cV G idx y bytes maxL ret ws rm nA) (hdj : fw_dj w1 w2) (hM : Ct (xL X) T y ws rm (.inr (some b) :: As) w1 post2) (hS1 : S1 = As.reverse ++ .inr (some b) :: S') (hn : As.length = nA) (hw : w1 b = some (.inr (ci, fs))) (hci : T.2.1[ci]? = some (y.cls, Tb, N)) (hst : S'.length ≤ 8) (h1 : k + rm.cells ≤ (gR G).cells) (h2 : n + rm.slots ≤ (gR G).slots)
    (kk : ∀ (r : Option fw_V) (w' : fw_W), post2 r w' → fw_dj w' w2 → J T G X nx L' (r.toList ++ S') (fw_un w' w2) (k + rm.cells) (n + rm.slots)) : J T G X pc L S (fw_un w1 w2) k n := by
  obtain ⟨⟨hd, hnx, hlen, -⟩, hrun⟩ := fw_run (w := fw_un w1 w2) (k := k) (n := n) C h
  refine hrun ?_
  obtain ⟨S0, hK, -⟩ := C
  obtain ⟨hx, hb, hml, ho, hts⟩ := S0
  simp only [fw_len] at hlen; subst hlen; subst hnx; subst hS1
  intro H locs ls hl hP hD hS
  obtain ⟨l0, hl1, hl2, hl3⟩ := hl
  have hPw : fw_P T w1 H := fun q e h => hP q e (fw_un_l h)
  obtain ⟨r', g0, cell, g1, g2, g3, -⟩ := hPw b _ hw
  have hr' : r' = (y.cls, Tb, N) := Option.some.inj (g0.symm.trans hci)
  subst hr'
  have hfc := (hK.1.1 ci _ hci).2.1
  refine fw_afterU (va_runV (As := As.map fw_v) (rest := S'.map fw_v) (b := b) ⟨hx, hb, hml, ho, hts⟩ (hM H.size) (hc _ _ hts) ⟨fw_blind, ⟨cell, g1, by rw [g3]; rfl, by rw [g2]; exact hfc⟩, fun U hU hW => fw_pre (av := .inr (some b) :: As) hPw hK hU hW⟩ rfl (by rw [List.length_map]; exact hn) hl1.1 ?_ (lv_room (by rw [fw_sum]; exact hst)) hd ⟨h1, h2⟩) hP hdj hD hS (fun q hq => Or.inr hq) (fun r w' H1 locs1 hp hdj' hP1 hD1 hS1 => ?_)
  · show (As.reverse ++ .inr (some b) :: S').map fw_v = _
    rw [List.map_append, List.map_reverse]
    rfl
  · rw [← fw_back]
    exact kk r w' hp hdj' H1 locs1 ls ⟨l0, hl1, hl2, hl3⟩ hP1 hD1 hS1
end FWL
end
