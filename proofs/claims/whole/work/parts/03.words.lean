set_option maxRecDepth 20000 in
theorem wc_V_init : Jvm.Cond.code y_V_init c_V_init 2 (Option.none : Option Jvm.ClassFile.FieldType) ∈ Wall := in_wall (List.mem_of_getElem? (i := 11) rfl) rfl
set_option maxRecDepth 20000 in
theorem wc_V_cell : Jvm.Cond.code y_V_cell c_V_cell 3 (Option.some Jvm.ClassFile.FieldType.int) ∈ Wall := in_wall (List.mem_of_getElem? (i := 80) rfl) rfl
set_option maxRecDepth 20000 in
theorem wc_V_number : Jvm.Cond.code y_V_number c_V_number 5 (Option.some Jvm.ClassFile.FieldType.boolean) ∈ Wall := in_wall (List.mem_of_getElem? (i := 141) rfl) rfl
set_option maxRecDepth 20000 in
theorem wc_V_introduce : Jvm.Cond.code y_V_introduce c_V_introduce 6 (Option.some Jvm.ClassFile.FieldType.boolean) ∈ Wall := in_wall (List.mem_of_getElem? (i := 159) rfl) rfl
set_option maxRecDepth 20000 in
theorem wc_V_send : Jvm.Cond.code y_V_send c_V_send 9 (Option.some Jvm.ClassFile.FieldType.int) ∈ Wall := in_wall (List.mem_of_getElem? (i := 163) rfl) rfl
set_option maxRecDepth 20000 in
theorem wc_V_turn : Jvm.Cond.code y_V_turn c_V_turn 4 (Option.some Jvm.ClassFile.FieldType.int) ∈ Wall := in_wall (List.mem_of_getElem? (i := 268) rfl) rfl
set_option maxRecDepth 20000 in
theorem wc_V_objects : Jvm.Cond.code y_V_objects c_V_objects 1 (Option.some Jvm.ClassFile.FieldType.int) ∈ Wall := in_wall (List.mem_of_getElem? (i := 367) rfl) rfl
set_option maxRecDepth 20000 in
theorem wc_V_kind : Jvm.Cond.code y_V_kind c_V_kind 3 (Option.some Jvm.ClassFile.FieldType.int) ∈ Wall := in_wall (List.mem_of_getElem? (i := 371) rfl) rfl
set_option maxRecDepth 20000 in
theorem wc_V_home : Jvm.Cond.code y_V_home c_V_home 3 (Option.some Jvm.ClassFile.FieldType.int) ∈ Wall := in_wall (List.mem_of_getElem? (i := 375) rfl) rfl
set_option maxRecDepth 20000 in
theorem wc_V_what : Jvm.Cond.code y_V_what c_V_what 4 (Option.some Jvm.ClassFile.FieldType.int) ∈ Wall := in_wall (List.mem_of_getElem? (i := 379) rfl) rfl
set_option maxRecDepth 20000 in
theorem wc_V_which : Jvm.Cond.code y_V_which c_V_which 4 (Option.some Jvm.ClassFile.FieldType.int) ∈ Wall := in_wall (List.mem_of_getElem? (i := 391) rfl) rfl
set_option maxRecDepth 20000 in
theorem wc_V_detail : Jvm.Cond.code y_V_detail c_V_detail 4 (Option.some Jvm.ClassFile.FieldType.int) ∈ Wall := in_wall (List.mem_of_getElem? (i := 395) rfl) rfl
set_option maxRecDepth 20000 in
theorem wc_V_messages : Jvm.Cond.code y_V_messages c_V_messages 1 (Option.some Jvm.ClassFile.FieldType.int) ∈ Wall := in_wall (List.mem_of_getElem? (i := 405) rfl) rfl
set_option maxRecDepth 20000 in
theorem wc_V_place : Jvm.Cond.code y_V_place c_V_place 3 (Option.some Jvm.ClassFile.FieldType.int) ∈ Wall := in_wall (List.mem_of_getElem? (i := 409) rfl) rfl
set_option maxRecDepth 20000 in
theorem wc_V_result : Jvm.Cond.code y_V_result c_V_result 3 (Option.some Jvm.ClassFile.FieldType.int) ∈ Wall := in_wall (List.mem_of_getElem? (i := 413) rfl) rfl
set_option maxRecDepth 20000 in
theorem wc_V_value : Jvm.Cond.code y_V_value c_V_value 3 (Option.some Jvm.ClassFile.FieldType.int) ∈ Wall := in_wall (List.mem_of_getElem? (i := 417) rfl) rfl
set_option maxRecDepth 20000 in
theorem wc_V_queued : Jvm.Cond.code y_V_queued c_V_queued 2 (Option.some Jvm.ClassFile.FieldType.int) ∈ Wall := in_wall (List.mem_of_getElem? (i := 421) rfl) rfl
set_option maxRecDepth 20000 in
theorem wc_V_next : Jvm.Cond.code y_V_next c_V_next 4 (Option.some Jvm.ClassFile.FieldType.int) ∈ Wall := in_wall (List.mem_of_getElem? (i := 425) rfl) rfl
set_option maxRecDepth 20000 in
theorem wc_V_waiting : Jvm.Cond.code y_V_waiting c_V_waiting 3 (Option.some Jvm.ClassFile.FieldType.int) ∈ Wall := in_wall (List.mem_of_getElem? (i := 433) rfl) rfl
set_option maxRecDepth 20000 in
theorem wc_V_notes : Jvm.Cond.code y_V_notes c_V_notes 3 (Option.some Jvm.ClassFile.FieldType.int) ∈ Wall := in_wall (List.mem_of_getElem? (i := 437) rfl) rfl
set_option maxRecDepth 20000 in
theorem wc_V_isVat : Jvm.Cond.code y_V_isVat c_V_isVat 1 (Option.some Jvm.ClassFile.FieldType.boolean) ∈ Wall := in_wall (List.mem_of_getElem? (i := 83) rfl) rfl
set_option maxRecDepth 20000 in
theorem wc_V_isSlot : Jvm.Cond.code y_V_isSlot c_V_isSlot 1 (Option.some Jvm.ClassFile.FieldType.boolean) ∈ Wall := in_wall (List.mem_of_getElem? (i := 152) rfl) rfl
set_option maxRecDepth 20000 in
theorem wc_V_isSlotOrNone : Jvm.Cond.code y_V_isSlotOrNone c_V_isSlotOrNone 1 (Option.some Jvm.ClassFile.FieldType.boolean) ∈ Wall := in_wall (List.mem_of_getElem? (i := 166) rfl) rfl
set_option maxRecDepth 20000 in
theorem wc_V_thingAt : Jvm.Cond.code y_V_thingAt c_V_thingAt 2 (Option.some (Jvm.ClassFile.FieldType.object "CapabilityVats$Thing")) ∈ Wall := in_wall (List.mem_of_getElem? (i := 149) rfl) rfl
set_option maxRecDepth 20000 in
theorem wc_V_cellAt : Jvm.Cond.code y_V_cellAt c_V_cellAt 3 (Option.some (Jvm.ClassFile.FieldType.object "CapabilityVats$Thing")) ∈ Wall := in_wall (List.mem_of_getElem? (i := 145) rfl) rfl
set_option maxRecDepth 20000 in
theorem wc_V_messageAt : Jvm.Cond.code y_V_messageAt c_V_messageAt 2 (Option.some (Jvm.ClassFile.FieldType.object "CapabilityVats$Message")) ∈ Wall := in_wall (List.mem_of_getElem? (i := 246) rfl) rfl
set_option maxRecDepth 20000 in
theorem wc_V_heldAt : Jvm.Cond.code y_V_heldAt c_V_heldAt 4 (Option.some (Jvm.ClassFile.FieldType.object "CapabilityVats$Reference")) ∈ Wall := in_wall (List.mem_of_getElem? (i := 383) rfl) rfl
set_option maxRecDepth 20000 in
theorem wc_V_firstDetail : Jvm.Cond.code y_V_firstDetail c_V_firstDetail 1 (Option.some Jvm.ClassFile.FieldType.int) ∈ Wall := in_wall (List.mem_of_getElem? (i := 398) rfl) rfl
set_option maxRecDepth 20000 in
theorem wc_V_secondDetail : Jvm.Cond.code y_V_secondDetail c_V_secondDetail 1 (Option.some Jvm.ClassFile.FieldType.int) ∈ Wall := in_wall (List.mem_of_getElem? (i := 401) rfl) rfl
set_option maxRecDepth 20000 in
theorem wc_V_countsAs : Jvm.Cond.code y_V_countsAs c_V_countsAs 5 (Option.some (Jvm.ClassFile.FieldType.object "CapabilityVats$Reference")) ∈ Wall := in_wall (List.mem_of_getElem? (i := 242) rfl) rfl
set_option maxRecDepth 20000 in
theorem wc_V_thingOf : Jvm.Cond.code y_V_thingOf c_V_thingOf 3 (Option.some (Jvm.ClassFile.FieldType.object "CapabilityVats$Thing")) ∈ Wall := in_wall (List.mem_of_getElem? (i := 238) rfl) rfl
set_option maxRecDepth 20000 in
theorem wc_V_awaitedBy : Jvm.Cond.code y_V_awaitedBy c_V_awaitedBy 3 (Option.some (Jvm.ClassFile.FieldType.object "CapabilityVats$Message")) ∈ Wall := in_wall (List.mem_of_getElem? (i := 250) rfl) rfl
set_option maxRecDepth 20000 in
theorem wc_V_thingOfKind : Jvm.Cond.code y_V_thingOfKind c_V_thingOfKind 4 (Option.some (Jvm.ClassFile.FieldType.object "CapabilityVats$Thing")) ∈ Wall := in_wall (List.mem_of_getElem? (i := 287) rfl) rfl
set_option maxRecDepth 20000 in
theorem wc_V_isNumberUpTo : Jvm.Cond.code y_V_isNumberUpTo c_V_isNumberUpTo 4 (Option.some Jvm.ClassFile.FieldType.boolean) ∈ Wall := in_wall (List.mem_of_getElem? (i := 347) rfl) rfl
set_option maxRecDepth 20000 in
theorem wc_V_numeral : Jvm.Cond.code y_V_numeral c_V_numeral 1 (Option.some (Jvm.ClassFile.FieldType.object "CapabilityVats$Reference")) ∈ Wall := in_wall (List.mem_of_getElem? (i := 155) rfl) rfl
set_option maxRecDepth 20000 in
theorem wc_V_truth : Jvm.Cond.code y_V_truth c_V_truth 1 (Option.some (Jvm.ClassFile.FieldType.object "CapabilityVats$Reference")) ∈ Wall := in_wall (List.mem_of_getElem? (i := 326) rfl) rfl
set_option maxRecDepth 20000 in
theorem wc_V_brokenIfNothing : Jvm.Cond.code y_V_brokenIfNothing c_V_brokenIfNothing 2 (Option.some (Jvm.ClassFile.FieldType.object "CapabilityVats$Reference")) ∈ Wall := in_wall (List.mem_of_getElem? (i := 258) rfl) rfl
set_option maxRecDepth 20000 in
theorem wc_V_referenceTo : Jvm.Cond.code y_V_referenceTo c_V_referenceTo 2 (Option.some (Jvm.ClassFile.FieldType.object "CapabilityVats$Reference")) ∈ Wall := in_wall (List.mem_of_getElem? (i := 303) rfl) rfl
set_option maxRecDepth 20000 in
theorem wc_V_settle : Jvm.Cond.code y_V_settle c_V_settle 3 (Option.none : Option Jvm.ClassFile.FieldType) ∈ Wall := in_wall (List.mem_of_getElem? (i := 254) rfl) rfl
set_option maxRecDepth 20000 in
theorem wc_V_routeAll : Jvm.Cond.code y_V_routeAll c_V_routeAll 3 (Option.none : Option Jvm.ClassFile.FieldType) ∈ Wall := in_wall (List.mem_of_getElem? (i := 226) rfl) rfl
set_option maxRecDepth 20000 in
theorem wc_V_route : Jvm.Cond.code y_V_route c_V_route 4 (Option.none : Option Jvm.ClassFile.FieldType) ∈ Wall := in_wall (List.mem_of_getElem? (i := 234) rfl) rfl
set_option maxRecDepth 20000 in
theorem wc_V_relays : Jvm.Cond.code y_V_relays c_V_relays 2 (Option.some Jvm.ClassFile.FieldType.boolean) ∈ Wall := in_wall (List.mem_of_getElem? (i := 271) rfl) rfl
set_option maxRecDepth 20000 in
theorem wc_V_relay : Jvm.Cond.code y_V_relay c_V_relay 3 (Option.none : Option Jvm.ClassFile.FieldType) ∈ Wall := in_wall (List.mem_of_getElem? (i := 279) rfl) rfl
set_option maxRecDepth 20000 in
theorem wc_V_wrapAsNoted : Jvm.Cond.code y_V_wrapAsNoted c_V_wrapAsNoted 7 (Option.some (Jvm.ClassFile.FieldType.object "CapabilityVats$Reference")) ∈ Wall := in_wall (List.mem_of_getElem? (i := 363) rfl) rfl
set_option maxRecDepth 20000 in
theorem wc_V_wrap : Jvm.Cond.code y_V_wrap c_V_wrap 7 (Option.some (Jvm.ClassFile.FieldType.object "CapabilityVats$Reference")) ∈ Wall := in_wall (List.mem_of_getElem? (i := 283) rfl) rfl
set_option maxRecDepth 20000 in
theorem wc_V_findWrapper : Jvm.Cond.code y_V_findWrapper c_V_findWrapper 7 (Option.some (Jvm.ClassFile.FieldType.object "CapabilityVats$Thing")) ∈ Wall := in_wall (List.mem_of_getElem? (i := 291) rfl) rfl
set_option maxRecDepth 20000 in
theorem wc_V_makeWrapper : Jvm.Cond.code y_V_makeWrapper c_V_makeWrapper 5 (Option.some (Jvm.ClassFile.FieldType.object "CapabilityVats$Thing")) ∈ Wall := in_wall (List.mem_of_getElem? (i := 299) rfl) rfl
set_option maxRecDepth 20000 in
theorem wc_V_answer : Jvm.Cond.code y_V_answer c_V_answer 5 (Option.some (Jvm.ClassFile.FieldType.object "CapabilityVats$Reference")) ∈ Wall := in_wall (List.mem_of_getElem? (i := 311) rfl) rfl
set_option maxRecDepth 20000 in
theorem wc_V_answerOfCell : Jvm.Cond.code y_V_answerOfCell c_V_answerOfCell 4 (Option.some (Jvm.ClassFile.FieldType.object "CapabilityVats$Reference")) ∈ Wall := in_wall (List.mem_of_getElem? (i := 315) rfl) rfl
set_option maxRecDepth 20000 in
theorem wc_V_answerOfRevocable : Jvm.Cond.code y_V_answerOfRevocable c_V_answerOfRevocable 3 (Option.some (Jvm.ClassFile.FieldType.object "CapabilityVats$Reference")) ∈ Wall := in_wall (List.mem_of_getElem? (i := 323) rfl) rfl
set_option maxRecDepth 20000 in
theorem wc_V_answerOfBrand : Jvm.Cond.code y_V_answerOfBrand c_V_answerOfBrand 3 (Option.some (Jvm.ClassFile.FieldType.object "CapabilityVats$Reference")) ∈ Wall := in_wall (List.mem_of_getElem? (i := 330) rfl) rfl
set_option maxRecDepth 20000 in
theorem wc_V_answerOfPurse : Jvm.Cond.code y_V_answerOfPurse c_V_answerOfPurse 4 (Option.some (Jvm.ClassFile.FieldType.object "CapabilityVats$Reference")) ∈ Wall := in_wall (List.mem_of_getElem? (i := 351) rfl) rfl
set_option maxRecDepth 20000 in
theorem wc_V_deposit : Jvm.Cond.code y_V_deposit c_V_deposit 5 (Option.some (Jvm.ClassFile.FieldType.object "CapabilityVats$Reference")) ∈ Wall := in_wall (List.mem_of_getElem? (i := 355) rfl) rfl
set_option maxRecDepth 20000 in
theorem wc_V_split : Jvm.Cond.code y_V_split c_V_split 4 (Option.some (Jvm.ClassFile.FieldType.object "CapabilityVats$Reference")) ∈ Wall := in_wall (List.mem_of_getElem? (i := 359) rfl) rfl
set_option maxRecDepth 20000 in
theorem wc_V_unseal : Jvm.Cond.code y_V_unseal c_V_unseal 4 (Option.some (Jvm.ClassFile.FieldType.object "CapabilityVats$Reference")) ∈ Wall := in_wall (List.mem_of_getElem? (i := 338) rfl) rfl
set_option maxRecDepth 20000 in
theorem wc_V_make : Jvm.Cond.code y_V_make c_V_make 5 (Option.some (Jvm.ClassFile.FieldType.object "CapabilityVats$Thing")) ∈ Wall := in_wall (List.mem_of_getElem? (i := 87) rfl) rfl
set_option maxRecDepth 20000 in
theorem wc_V_makeGate : Jvm.Cond.code y_V_makeGate c_V_makeGate 5 (Option.some (Jvm.ClassFile.FieldType.object "CapabilityVats$Reference")) ∈ Wall := in_wall (List.mem_of_getElem? (i := 319) rfl) rfl
set_option maxRecDepth 20000 in
theorem wc_V_makeBox : Jvm.Cond.code y_V_makeBox c_V_makeBox 4 (Option.some (Jvm.ClassFile.FieldType.object "CapabilityVats$Reference")) ∈ Wall := in_wall (List.mem_of_getElem? (i := 334) rfl) rfl
set_option maxRecDepth 20000 in
theorem wc_V_makeMoney : Jvm.Cond.code y_V_makeMoney c_V_makeMoney 4 (Option.some (Jvm.ClassFile.FieldType.object "CapabilityVats$Reference")) ∈ Wall := in_wall (List.mem_of_getElem? (i := 342) rfl) rfl
set_option maxRecDepth 20000 in
theorem wc_D_init : Jvm.Cond.code y_D_init c_D_init 1 (Option.none : Option Jvm.ClassFile.FieldType) ∈ Wall := in_wall (List.mem_of_getElem? (i := 442) rfl) rfl
set_option maxRecDepth 20000 in
theorem wc_D_out : Jvm.Cond.code y_D_out c_D_out 2 (Option.some Jvm.ClassFile.FieldType.boolean) ∈ Wall := in_wall (List.mem_of_getElem? (i := 540) rfl) rfl
set_option maxRecDepth 20000 in
theorem wc_D_hold : Jvm.Cond.code y_D_hold c_D_hold 3 (Option.none : Option Jvm.ClassFile.FieldType) ∈ Wall := in_wall (List.mem_of_getElem? (i := 576) rfl) rfl
set_option maxRecDepth 20000 in
theorem wc_D_look : Jvm.Cond.code y_D_look c_D_look 3 (Option.none : Option Jvm.ClassFile.FieldType) ∈ Wall := in_wall (List.mem_of_getElem? (i := 572) rfl) rfl
set_option maxRecDepth 20000 in
theorem wc_D_broken : Jvm.Cond.code y_D_broken c_D_broken 1 (Option.none : Option Jvm.ClassFile.FieldType) ∈ Wall := in_wall (List.mem_of_getElem? (i := 584) rfl) rfl
set_option maxRecDepth 20000 in
theorem wc_D_isObject : Jvm.Cond.code y_D_isObject c_D_isObject 2 (Option.some Jvm.ClassFile.FieldType.boolean) ∈ Wall := in_wall (List.mem_of_getElem? (i := 636) rfl) rfl
set_option maxRecDepth 20000 in
theorem wc_D_make : Jvm.Cond.code y_D_make c_D_make 6 (Option.some Jvm.ClassFile.FieldType.int) ∈ Wall := in_wall (List.mem_of_getElem? (i := 544) rfl) rfl
set_option maxRecDepth 20000 in
theorem wc_D_fresh : Jvm.Cond.code y_D_fresh c_D_fresh 4 (Option.none : Option Jvm.ClassFile.FieldType) ∈ Wall := in_wall (List.mem_of_getElem? (i := 616) rfl) rfl
set_option maxRecDepth 20000 in
theorem wc_D_stand : Jvm.Cond.code y_D_stand c_D_stand 4 (Option.none : Option Jvm.ClassFile.FieldType) ∈ Wall := in_wall (List.mem_of_getElem? (i := 580) rfl) rfl
set_option maxRecDepth 20000 in
theorem wc_D_nth : Jvm.Cond.code y_D_nth c_D_nth 9 (Option.some Jvm.ClassFile.FieldType.int) ∈ Wall := in_wall (List.mem_of_getElem? (i := 600) rfl) rfl
set_option maxRecDepth 20000 in
theorem wc_D_count : Jvm.Cond.code y_D_count c_D_count 5 (Option.some Jvm.ClassFile.FieldType.int) ∈ Wall := in_wall (List.mem_of_getElem? (i := 701) rfl) rfl
set_option maxRecDepth 20000 in
theorem wc_D_route : Jvm.Cond.code y_D_route c_D_route 3 (Option.none : Option Jvm.ClassFile.FieldType) ∈ Wall := in_wall (List.mem_of_getElem? (i := 564) rfl) rfl
set_option maxRecDepth 20000 in
theorem wc_D_direct : Jvm.Cond.code y_D_direct c_D_direct 2 (Option.none : Option Jvm.ClassFile.FieldType) ∈ Wall := in_wall (List.mem_of_getElem? (i := 568) rfl) rfl
set_option maxRecDepth 20000 in
theorem wc_D_released : Jvm.Cond.code y_D_released c_D_released 4 (Option.some Jvm.ClassFile.FieldType.int) ∈ Wall := in_wall (List.mem_of_getElem? (i := 592) rfl) rfl
set_option maxRecDepth 20000 in
theorem wc_D_settle : Jvm.Cond.code y_D_settle c_D_settle 5 (Option.none : Option Jvm.ClassFile.FieldType) ∈ Wall := in_wall (List.mem_of_getElem? (i := 588) rfl) rfl
set_option maxRecDepth 20000 in
theorem wc_D_isSlot : Jvm.Cond.code y_D_isSlot c_D_isSlot 3 (Option.some Jvm.ClassFile.FieldType.boolean) ∈ Wall := in_wall (List.mem_of_getElem? (i := 552) rfl) rfl
set_option maxRecDepth 20000 in
theorem wc_D_cell : Jvm.Cond.code y_D_cell c_D_cell 2 (Option.some Jvm.ClassFile.FieldType.int) ∈ Wall := in_wall (List.mem_of_getElem? (i := 537) rfl) rfl
set_option maxRecDepth 20000 in
theorem wc_D_number : Jvm.Cond.code y_D_number c_D_number 4 (Option.some Jvm.ClassFile.FieldType.boolean) ∈ Wall := in_wall (List.mem_of_getElem? (i := 548) rfl) rfl
set_option maxRecDepth 20000 in
theorem wc_D_introduce : Jvm.Cond.code y_D_introduce c_D_introduce 4 (Option.some Jvm.ClassFile.FieldType.boolean) ∈ Wall := in_wall (List.mem_of_getElem? (i := 556) rfl) rfl
set_option maxRecDepth 20000 in
theorem wc_D_send : Jvm.Cond.code y_D_send c_D_send 7 (Option.some Jvm.ClassFile.FieldType.int) ∈ Wall := in_wall (List.mem_of_getElem? (i := 560) rfl) rfl
set_option maxRecDepth 20000 in
theorem wc_D_turn : Jvm.Cond.code y_D_turn c_D_turn 4 (Option.some Jvm.ClassFile.FieldType.int) ∈ Wall := in_wall (List.mem_of_getElem? (i := 596) rfl) rfl
set_option maxRecDepth 20000 in
theorem wc_D_answers : Jvm.Cond.code y_D_answers c_D_answers 5 (Option.some Jvm.ClassFile.FieldType.boolean) ∈ Wall := in_wall (List.mem_of_getElem? (i := 604) rfl) rfl
set_option maxRecDepth 20000 in
theorem wc_D_ofCell : Jvm.Cond.code y_D_ofCell c_D_ofCell 7 (Option.none : Option Jvm.ClassFile.FieldType) ∈ Wall := in_wall (List.mem_of_getElem? (i := 620) rfl) rfl
set_option maxRecDepth 20000 in
theorem wc_D_ofGuard : Jvm.Cond.code y_D_ofGuard c_D_ofGuard 3 (Option.none : Option Jvm.ClassFile.FieldType) ∈ Wall := in_wall (List.mem_of_getElem? (i := 624) rfl) rfl
set_option maxRecDepth 20000 in
theorem wc_D_ofSealer : Jvm.Cond.code y_D_ofSealer c_D_ofSealer 3 (Option.none : Option Jvm.ClassFile.FieldType) ∈ Wall := in_wall (List.mem_of_getElem? (i := 628) rfl) rfl
set_option maxRecDepth 20000 in
theorem wc_D_ofUnsealer : Jvm.Cond.code y_D_ofUnsealer c_D_ofUnsealer 3 (Option.none : Option Jvm.ClassFile.FieldType) ∈ Wall := in_wall (List.mem_of_getElem? (i := 632) rfl) rfl
set_option maxRecDepth 20000 in
theorem wc_D_ofMint : Jvm.Cond.code y_D_ofMint c_D_ofMint 3 (Option.none : Option Jvm.ClassFile.FieldType) ∈ Wall := in_wall (List.mem_of_getElem? (i := 640) rfl) rfl
set_option maxRecDepth 20000 in
theorem wc_D_ofPurse : Jvm.Cond.code y_D_ofPurse c_D_ofPurse 6 (Option.none : Option Jvm.ClassFile.FieldType) ∈ Wall := in_wall (List.mem_of_getElem? (i := 645) rfl) rfl
set_option maxRecDepth 20000 in
theorem wc_D_relays : Jvm.Cond.code y_D_relays c_D_relays 5 (Option.some Jvm.ClassFile.FieldType.boolean) ∈ Wall := in_wall (List.mem_of_getElem? (i := 608) rfl) rfl
set_option maxRecDepth 20000 in
theorem wc_D_wrap : Jvm.Cond.code y_D_wrap c_D_wrap 6 (Option.some Jvm.ClassFile.FieldType.boolean) ∈ Wall := in_wall (List.mem_of_getElem? (i := 612) rfl) rfl
set_option maxRecDepth 20000 in
theorem wc_D_asNoted : Jvm.Cond.code y_D_asNoted c_D_asNoted 6 (Option.none : Option Jvm.ClassFile.FieldType) ∈ Wall := in_wall (List.mem_of_getElem? (i := 649) rfl) rfl
set_option maxRecDepth 20000 in
theorem wc_D_objects : Jvm.Cond.code y_D_objects c_D_objects 1 (Option.some Jvm.ClassFile.FieldType.int) ∈ Wall := in_wall (List.mem_of_getElem? (i := 653) rfl) rfl
set_option maxRecDepth 20000 in
theorem wc_D_kind : Jvm.Cond.code y_D_kind c_D_kind 2 (Option.some Jvm.ClassFile.FieldType.int) ∈ Wall := in_wall (List.mem_of_getElem? (i := 657) rfl) rfl
set_option maxRecDepth 20000 in
theorem wc_D_home : Jvm.Cond.code y_D_home c_D_home 2 (Option.some Jvm.ClassFile.FieldType.int) ∈ Wall := in_wall (List.mem_of_getElem? (i := 661) rfl) rfl
set_option maxRecDepth 20000 in
theorem wc_D_seen : Jvm.Cond.code y_D_seen c_D_seen 4 (Option.some Jvm.ClassFile.FieldType.boolean) ∈ Wall := in_wall (List.mem_of_getElem? (i := 669) rfl) rfl
set_option maxRecDepth 20000 in
theorem wc_D_what : Jvm.Cond.code y_D_what c_D_what 3 (Option.some Jvm.ClassFile.FieldType.int) ∈ Wall := in_wall (List.mem_of_getElem? (i := 665) rfl) rfl
set_option maxRecDepth 20000 in
theorem wc_D_which : Jvm.Cond.code y_D_which c_D_which 3 (Option.some Jvm.ClassFile.FieldType.int) ∈ Wall := in_wall (List.mem_of_getElem? (i := 673) rfl) rfl
set_option maxRecDepth 20000 in
theorem wc_D_detail : Jvm.Cond.code y_D_detail c_D_detail 4 (Option.some Jvm.ClassFile.FieldType.int) ∈ Wall := in_wall (List.mem_of_getElem? (i := 677) rfl) rfl
set_option maxRecDepth 20000 in
theorem wc_D_messages : Jvm.Cond.code y_D_messages c_D_messages 1 (Option.some Jvm.ClassFile.FieldType.int) ∈ Wall := in_wall (List.mem_of_getElem? (i := 681) rfl) rfl
set_option maxRecDepth 20000 in
theorem wc_D_place : Jvm.Cond.code y_D_place c_D_place 2 (Option.some Jvm.ClassFile.FieldType.int) ∈ Wall := in_wall (List.mem_of_getElem? (i := 685) rfl) rfl
set_option maxRecDepth 20000 in
theorem wc_D_result : Jvm.Cond.code y_D_result c_D_result 2 (Option.some Jvm.ClassFile.FieldType.int) ∈ Wall := in_wall (List.mem_of_getElem? (i := 689) rfl) rfl
set_option maxRecDepth 20000 in
theorem wc_D_value : Jvm.Cond.code y_D_value c_D_value 2 (Option.some Jvm.ClassFile.FieldType.int) ∈ Wall := in_wall (List.mem_of_getElem? (i := 693) rfl) rfl
set_option maxRecDepth 20000 in
theorem wc_D_queued : Jvm.Cond.code y_D_queued c_D_queued 2 (Option.some Jvm.ClassFile.FieldType.int) ∈ Wall := in_wall (List.mem_of_getElem? (i := 697) rfl) rfl
set_option maxRecDepth 20000 in
theorem wc_D_next : Jvm.Cond.code y_D_next c_D_next 4 (Option.some Jvm.ClassFile.FieldType.int) ∈ Wall := in_wall (List.mem_of_getElem? (i := 705) rfl) rfl
set_option maxRecDepth 20000 in
theorem wc_D_waiting : Jvm.Cond.code y_D_waiting c_D_waiting 2 (Option.some Jvm.ClassFile.FieldType.int) ∈ Wall := in_wall (List.mem_of_getElem? (i := 709) rfl) rfl
set_option maxRecDepth 20000 in
theorem wc_D_notes : Jvm.Cond.code y_D_notes c_D_notes 2 (Option.some Jvm.ClassFile.FieldType.int) ∈ Wall := in_wall (List.mem_of_getElem? (i := 713) rfl) rfl
set_option maxRecDepth 20000 in
theorem wc_L_init : Jvm.Cond.code y_L_init c_L_init 1 (Option.none : Option Jvm.ClassFile.FieldType) ∈ Wall := in_wall (List.mem_of_getElem? (i := 39) rfl) rfl
set_option maxRecDepth 20000 in
theorem wc_L_join : Jvm.Cond.code y_L_join c_L_join 2 (Option.none : Option Jvm.ClassFile.FieldType) ∈ Wall := in_wall (List.mem_of_getElem? (i := 222) rfl) rfl
set_option maxRecDepth 20000 in
theorem wc_L_take : Jvm.Cond.code y_L_take c_L_take 2 (Option.some (Jvm.ClassFile.FieldType.object "CapabilityVats$Message")) ∈ Wall := in_wall (List.mem_of_getElem? (i := 230) rfl) rfl
set_option maxRecDepth 20000 in
theorem wc_L_takeOver : Jvm.Cond.code y_L_takeOver c_L_takeOver 4 (Option.none : Option Jvm.ClassFile.FieldType) ∈ Wall := in_wall (List.mem_of_getElem? (i := 262) rfl) rfl
set_option maxRecDepth 20000 in
theorem wc_L_withBefore : Jvm.Cond.code y_L_withBefore c_L_withBefore 4 (Option.some (Jvm.ClassFile.FieldType.object "CapabilityVats$Message")) ∈ Wall := in_wall (List.mem_of_getElem? (i := 429) rfl) rfl
set_option maxRecDepth 20000 in
theorem wc_M_init : Jvm.Cond.code y_M_init c_M_init 5 (Option.none : Option Jvm.ClassFile.FieldType) ∈ Wall := in_wall (List.mem_of_getElem? (i := 170) rfl) rfl
set_option maxRecDepth 20000 in
theorem wc_M_noteDown : Jvm.Cond.code y_M_noteDown c_M_noteDown 2 (Option.none : Option Jvm.ClassFile.FieldType) ∈ Wall := in_wall (List.mem_of_getElem? (i := 307) rfl) rfl
set_option maxRecDepth 20000 in
theorem wc_R_init : Jvm.Cond.code y_R_init c_R_init 3 (Option.none : Option Jvm.ClassFile.FieldType) ∈ Wall := in_wall (List.mem_of_getElem? (i := 19) rfl) rfl
set_option maxRecDepth 20000 in
theorem wc_R_isSame : Jvm.Cond.code y_R_isSame c_R_isSame 2 (Option.some Jvm.ClassFile.FieldType.boolean) ∈ Wall := in_wall (List.mem_of_getElem? (i := 295) rfl) rfl
set_option maxRecDepth 20000 in
theorem wc_H_init : Jvm.Cond.code y_H_init c_H_init 7 (Option.none : Option Jvm.ClassFile.FieldType) ∈ Wall := in_wall (List.mem_of_getElem? (i := 91) rfl) rfl
set_option maxRecDepth 20000 in
theorem wc_H_holdsOne : Jvm.Cond.code y_H_holdsOne c_H_holdsOne 1 (Option.some Jvm.ClassFile.FieldType.boolean) ∈ Wall := in_wall (List.mem_of_getElem? (i := 387) rfl) rfl
set_option maxRecDepth 20000 in
theorem wc_H_isCutOff : Jvm.Cond.code y_H_isCutOff c_H_isCutOff 1 (Option.some Jvm.ClassFile.FieldType.boolean) ∈ Wall := in_wall (List.mem_of_getElem? (i := 275) rfl) rfl
set_option maxRecDepth 20000 in
theorem wm_V_O_init : Jvm.Cond.methodLink R_V 1 objectInit ∈ Wall := in_wall (List.mem_of_getElem? (i := 12) (by decide +kernel)) rfl
set_option maxRecDepth 20000 in
theorem wk_V_R : Jvm.Cond.classLink R_V 7 R_R ∈ Wall := in_wall (List.mem_of_getElem? (i := 15) (by decide +kernel)) rfl
set_option maxRecDepth 20000 in
theorem wm_V_R_init : Jvm.Cond.methodLink R_V 11 y_R_init ∈ Wall := in_wall (List.mem_of_getElem? (i := 17) (by decide +kernel)) rfl
set_option maxRecDepth 20000 in
theorem wf_V_V_nothing : Jvm.Cond.fieldLink R_V 14 "CapabilityVats" "nothing" "LCapabilityVats$Reference;" ∈ Wall := in_wall (List.mem_of_getElem? (i := 52) (by decide +kernel)) rfl
set_option maxRecDepth 20000 in
theorem wf_V_V_broken : Jvm.Cond.fieldLink R_V 18 "CapabilityVats" "broken" "LCapabilityVats$Reference;" ∈ Wall := in_wall (List.mem_of_getElem? (i := 53) (by decide +kernel)) rfl
set_option maxRecDepth 20000 in
theorem wk_V_H : Jvm.Cond.classLink R_V 21 R_H ∈ Wall := in_wall (List.mem_of_getElem? (i := 30) (by decide +kernel)) rfl
set_option maxRecDepth 20000 in
theorem wf_V_V_things : Jvm.Cond.fieldLink R_V 23 "CapabilityVats" "things" "[LCapabilityVats$Thing;" ∈ Wall := in_wall (List.mem_of_getElem? (i := 54) (by decide +kernel)) rfl
set_option maxRecDepth 20000 in
theorem wf_V_V_thingCount : Jvm.Cond.fieldLink R_V 27 "CapabilityVats" "thingCount" "I" ∈ Wall := in_wall (List.mem_of_getElem? (i := 55) (by decide +kernel)) rfl
set_option maxRecDepth 20000 in
theorem wk_V_M : Jvm.Cond.classLink R_V 31 R_M ∈ Wall := in_wall (List.mem_of_getElem? (i := 32) (by decide +kernel)) rfl
set_option maxRecDepth 20000 in
theorem wf_V_V_sent : Jvm.Cond.fieldLink R_V 33 "CapabilityVats" "sent" "[LCapabilityVats$Message;" ∈ Wall := in_wall (List.mem_of_getElem? (i := 56) (by decide +kernel)) rfl
set_option maxRecDepth 20000 in
theorem wf_V_V_sentCount : Jvm.Cond.fieldLink R_V 37 "CapabilityVats" "sentCount" "I" ∈ Wall := in_wall (List.mem_of_getElem? (i := 57) (by decide +kernel)) rfl
set_option maxRecDepth 20000 in
theorem wk_V_L : Jvm.Cond.classLink R_V 40 R_L ∈ Wall := in_wall (List.mem_of_getElem? (i := 34) (by decide +kernel)) rfl
set_option maxRecDepth 20000 in
theorem wf_V_V_queues : Jvm.Cond.fieldLink R_V 42 "CapabilityVats" "queues" "[LCapabilityVats$Line;" ∈ Wall := in_wall (List.mem_of_getElem? (i := 58) (by decide +kernel)) rfl
set_option maxRecDepth 20000 in
theorem wf_V_V_unrouted : Jvm.Cond.fieldLink R_V 47 "CapabilityVats" "unrouted" "LCapabilityVats$Line;" ∈ Wall := in_wall (List.mem_of_getElem? (i := 59) (by decide +kernel)) rfl
set_option maxRecDepth 20000 in
theorem wm_V_V_isVat : Jvm.Cond.methodLink R_V 51 y_V_isVat ∈ Wall := in_wall (List.mem_of_getElem? (i := 81) (by decide +kernel)) rfl
set_option maxRecDepth 20000 in
theorem wm_V_V_make : Jvm.Cond.methodLink R_V 55 y_V_make ∈ Wall := in_wall (List.mem_of_getElem? (i := 84) (by decide +kernel)) rfl
set_option maxRecDepth 20000 in
theorem wf_V_H_number : Jvm.Cond.fieldLink R_V 59 "CapabilityVats$Thing" "number" "I" ∈ Wall := in_wall (List.mem_of_getElem? (i := 97) (by decide +kernel)) rfl
set_option maxRecDepth 20000 in
theorem wm_V_V_cellAt : Jvm.Cond.methodLink R_V 62 y_V_cellAt ∈ Wall := in_wall (List.mem_of_getElem? (i := 142) (by decide +kernel)) rfl
set_option maxRecDepth 20000 in
theorem wm_V_V_isSlot : Jvm.Cond.methodLink R_V 66 y_V_isSlot ∈ Wall := in_wall (List.mem_of_getElem? (i := 150) (by decide +kernel)) rfl
set_option maxRecDepth 20000 in
theorem wf_V_H_slots : Jvm.Cond.fieldLink R_V 69 "CapabilityVats$Thing" "slots" "[LCapabilityVats$Reference;" ∈ Wall := in_wall (List.mem_of_getElem? (i := 107) (by decide +kernel)) rfl
set_option maxRecDepth 20000 in
theorem wm_V_V_numeral : Jvm.Cond.methodLink R_V 73 y_V_numeral ∈ Wall := in_wall (List.mem_of_getElem? (i := 153) (by decide +kernel)) rfl
set_option maxRecDepth 20000 in
theorem wm_V_V_thingAt : Jvm.Cond.methodLink R_V 77 y_V_thingAt ∈ Wall := in_wall (List.mem_of_getElem? (i := 146) (by decide +kernel)) rfl
set_option maxRecDepth 20000 in
theorem wf_V_H_self : Jvm.Cond.fieldLink R_V 80 "CapabilityVats$Thing" "self" "LCapabilityVats$Reference;" ∈ Wall := in_wall (List.mem_of_getElem? (i := 105) (by decide +kernel)) rfl
set_option maxRecDepth 20000 in
theorem wm_V_V_isSlotOrNone : Jvm.Cond.methodLink R_V 83 y_V_isSlotOrNone ∈ Wall := in_wall (List.mem_of_getElem? (i := 164) (by decide +kernel)) rfl
set_option maxRecDepth 20000 in
theorem wm_V_M_init : Jvm.Cond.methodLink R_V 86 y_M_init ∈ Wall := in_wall (List.mem_of_getElem? (i := 168) (by decide +kernel)) rfl
set_option maxRecDepth 20000 in
theorem wf_V_M_promise : Jvm.Cond.fieldLink R_V 89 "CapabilityVats$Message" "promise" "LCapabilityVats$Reference;" ∈ Wall := in_wall (List.mem_of_getElem? (i := 182) (by decide +kernel)) rfl
set_option maxRecDepth 20000 in
theorem wm_V_L_join : Jvm.Cond.methodLink R_V 92 y_L_join ∈ Wall := in_wall (List.mem_of_getElem? (i := 219) (by decide +kernel)) rfl
set_option maxRecDepth 20000 in
theorem wm_V_V_routeAll : Jvm.Cond.methodLink R_V 96 y_V_routeAll ∈ Wall := in_wall (List.mem_of_getElem? (i := 223) (by decide +kernel)) rfl
set_option maxRecDepth 20000 in
theorem wf_V_M_number : Jvm.Cond.fieldLink R_V 99 "CapabilityVats$Message" "number" "I" ∈ Wall := in_wall (List.mem_of_getElem? (i := 178) (by decide +kernel)) rfl
set_option maxRecDepth 20000 in
theorem wm_V_L_take : Jvm.Cond.methodLink R_V 100 y_L_take ∈ Wall := in_wall (List.mem_of_getElem? (i := 227) (by decide +kernel)) rfl
set_option maxRecDepth 20000 in
theorem wf_V_M_target : Jvm.Cond.fieldLink R_V 104 "CapabilityVats$Message" "target" "LCapabilityVats$Reference;" ∈ Wall := in_wall (List.mem_of_getElem? (i := 186) (by decide +kernel)) rfl
set_option maxRecDepth 20000 in
theorem wm_V_V_thingOf : Jvm.Cond.methodLink R_V 107 y_V_thingOf ∈ Wall := in_wall (List.mem_of_getElem? (i := 235) (by decide +kernel)) rfl
set_option maxRecDepth 20000 in
theorem wm_V_V_relays : Jvm.Cond.methodLink R_V 111 y_V_relays ∈ Wall := in_wall (List.mem_of_getElem? (i := 269) (by decide +kernel)) rfl
set_option maxRecDepth 20000 in
theorem wm_V_V_relay : Jvm.Cond.methodLink R_V 115 y_V_relay ∈ Wall := in_wall (List.mem_of_getElem? (i := 276) (by decide +kernel)) rfl
set_option maxRecDepth 20000 in
theorem wm_V_V_answer : Jvm.Cond.methodLink R_V 119 y_V_answer ∈ Wall := in_wall (List.mem_of_getElem? (i := 308) (by decide +kernel)) rfl
set_option maxRecDepth 20000 in
theorem wm_V_V_wrapAsNoted : Jvm.Cond.methodLink R_V 123 y_V_wrapAsNoted ∈ Wall := in_wall (List.mem_of_getElem? (i := 360) (by decide +kernel)) rfl
set_option maxRecDepth 20000 in
theorem wm_V_V_settle : Jvm.Cond.methodLink R_V 127 y_V_settle ∈ Wall := in_wall (List.mem_of_getElem? (i := 251) (by decide +kernel)) rfl
set_option maxRecDepth 20000 in
theorem wf_V_H_kind : Jvm.Cond.fieldLink R_V 131 "CapabilityVats$Thing" "kind" "I" ∈ Wall := in_wall (List.mem_of_getElem? (i := 99) (by decide +kernel)) rfl
set_option maxRecDepth 20000 in
theorem wf_V_H_home : Jvm.Cond.fieldLink R_V 134 "CapabilityVats$Thing" "home" "I" ∈ Wall := in_wall (List.mem_of_getElem? (i := 101) (by decide +kernel)) rfl
set_option maxRecDepth 20000 in
theorem wm_V_V_heldAt : Jvm.Cond.methodLink R_V 137 y_V_heldAt ∈ Wall := in_wall (List.mem_of_getElem? (i := 380) (by decide +kernel)) rfl
set_option maxRecDepth 20000 in
theorem wf_V_R_sort : Jvm.Cond.fieldLink R_V 141 "CapabilityVats$Reference" "sort" "I" ∈ Wall := in_wall (List.mem_of_getElem? (i := 22) (by decide +kernel)) rfl
set_option maxRecDepth 20000 in
theorem wf_V_R_index : Jvm.Cond.fieldLink R_V 144 "CapabilityVats$Reference" "index" "I" ∈ Wall := in_wall (List.mem_of_getElem? (i := 24) (by decide +kernel)) rfl
set_option maxRecDepth 20000 in
theorem wm_V_V_firstDetail : Jvm.Cond.methodLink R_V 147 y_V_firstDetail ∈ Wall := in_wall (List.mem_of_getElem? (i := 396) (by decide +kernel)) rfl
set_option maxRecDepth 20000 in
theorem wm_V_V_secondDetail : Jvm.Cond.methodLink R_V 151 y_V_secondDetail ∈ Wall := in_wall (List.mem_of_getElem? (i := 399) (by decide +kernel)) rfl
set_option maxRecDepth 20000 in
theorem wm_V_V_messageAt : Jvm.Cond.methodLink R_V 154 y_V_messageAt ∈ Wall := in_wall (List.mem_of_getElem? (i := 243) (by decide +kernel)) rfl
set_option maxRecDepth 20000 in
theorem wf_V_M_place : Jvm.Cond.fieldLink R_V 158 "CapabilityVats$Message" "place" "I" ∈ Wall := in_wall (List.mem_of_getElem? (i := 190) (by decide +kernel)) rfl
set_option maxRecDepth 20000 in
theorem wm_V_V_countsAs : Jvm.Cond.methodLink R_V 161 y_V_countsAs ∈ Wall := in_wall (List.mem_of_getElem? (i := 239) (by decide +kernel)) rfl
set_option maxRecDepth 20000 in
theorem wf_V_L_length : Jvm.Cond.fieldLink R_V 165 "CapabilityVats$Line" "length" "I" ∈ Wall := in_wall (List.mem_of_getElem? (i := 44) (by decide +kernel)) rfl
set_option maxRecDepth 20000 in
theorem wm_V_L_withBefore : Jvm.Cond.methodLink R_V 168 y_L_withBefore ∈ Wall := in_wall (List.mem_of_getElem? (i := 426) (by decide +kernel)) rfl
set_option maxRecDepth 20000 in
theorem wf_V_M_waiters : Jvm.Cond.fieldLink R_V 171 "CapabilityVats$Message" "waiters" "LCapabilityVats$Line;" ∈ Wall := in_wall (List.mem_of_getElem? (i := 184) (by decide +kernel)) rfl
set_option maxRecDepth 20000 in
theorem wf_V_M_noteCount : Jvm.Cond.fieldLink R_V 174 "CapabilityVats$Message" "noteCount" "I" ∈ Wall := in_wall (List.mem_of_getElem? (i := 195) (by decide +kernel)) rfl
set_option maxRecDepth 20000 in
theorem wm_V_H_holdsOne : Jvm.Cond.methodLink R_V 177 y_H_holdsOne ∈ Wall := in_wall (List.mem_of_getElem? (i := 384) (by decide +kernel)) rfl
set_option maxRecDepth 20000 in
theorem wf_V_H_held : Jvm.Cond.fieldLink R_V 181 "CapabilityVats$Thing" "held" "LCapabilityVats$Reference;" ∈ Wall := in_wall (List.mem_of_getElem? (i := 109) (by decide +kernel)) rfl
set_option maxRecDepth 20000 in
theorem wf_V_H_revoked : Jvm.Cond.fieldLink R_V 184 "CapabilityVats$Thing" "revoked" "Z" ∈ Wall := in_wall (List.mem_of_getElem? (i := 112) (by decide +kernel)) rfl
set_option maxRecDepth 20000 in
theorem wf_V_H_balance : Jvm.Cond.fieldLink R_V 188 "CapabilityVats$Thing" "balance" "I" ∈ Wall := in_wall (List.mem_of_getElem? (i := 114) (by decide +kernel)) rfl
set_option maxRecDepth 20000 in
theorem wf_V_H_owner : Jvm.Cond.fieldLink R_V 191 "CapabilityVats$Thing" "owner" "LCapabilityVats$Thing;" ∈ Wall := in_wall (List.mem_of_getElem? (i := 103) (by decide +kernel)) rfl
set_option maxRecDepth 20000 in
theorem wf_V_H_facet : Jvm.Cond.fieldLink R_V 195 "CapabilityVats$Thing" "facet" "LCapabilityVats$Thing;" ∈ Wall := in_wall (List.mem_of_getElem? (i := 110) (by decide +kernel)) rfl
set_option maxRecDepth 20000 in
theorem wf_V_H_inward : Jvm.Cond.fieldLink R_V 198 "CapabilityVats$Thing" "inward" "Z" ∈ Wall := in_wall (List.mem_of_getElem? (i := 113) (by decide +kernel)) rfl
set_option maxRecDepth 20000 in
theorem wf_V_M_answer : Jvm.Cond.fieldLink R_V 201 "CapabilityVats$Message" "answer" "LCapabilityVats$Reference;" ∈ Wall := in_wall (List.mem_of_getElem? (i := 189) (by decide +kernel)) rfl
set_option maxRecDepth 20000 in
theorem wm_V_V_awaitedBy : Jvm.Cond.methodLink R_V 203 y_V_awaitedBy ∈ Wall := in_wall (List.mem_of_getElem? (i := 247) (by decide +kernel)) rfl
set_option maxRecDepth 20000 in
theorem wm_V_V_brokenIfNothing : Jvm.Cond.methodLink R_V 207 y_V_brokenIfNothing ∈ Wall := in_wall (List.mem_of_getElem? (i := 255) (by decide +kernel)) rfl
set_option maxRecDepth 20000 in
theorem wm_V_L_takeOver : Jvm.Cond.methodLink R_V 210 y_L_takeOver ∈ Wall := in_wall (List.mem_of_getElem? (i := 259) (by decide +kernel)) rfl
set_option maxRecDepth 20000 in
theorem wm_V_V_route : Jvm.Cond.methodLink R_V 214 y_V_route ∈ Wall := in_wall (List.mem_of_getElem? (i := 231) (by decide +kernel)) rfl
set_option maxRecDepth 20000 in
theorem wm_V_H_isCutOff : Jvm.Cond.methodLink R_V 217 y_H_isCutOff ∈ Wall := in_wall (List.mem_of_getElem? (i := 272) (by decide +kernel)) rfl
set_option maxRecDepth 20000 in
theorem wf_V_M_argument : Jvm.Cond.fieldLink R_V 220 "CapabilityVats$Message" "argument" "LCapabilityVats$Reference;" ∈ Wall := in_wall (List.mem_of_getElem? (i := 188) (by decide +kernel)) rfl
set_option maxRecDepth 20000 in
theorem wm_V_V_wrap : Jvm.Cond.methodLink R_V 223 y_V_wrap ∈ Wall := in_wall (List.mem_of_getElem? (i := 280) (by decide +kernel)) rfl
set_option maxRecDepth 20000 in
theorem wm_V_M_noteDown : Jvm.Cond.methodLink R_V 227 y_M_noteDown ∈ Wall := in_wall (List.mem_of_getElem? (i := 304) (by decide +kernel)) rfl
set_option maxRecDepth 20000 in
theorem wf_V_M_passed : Jvm.Cond.fieldLink R_V 231 "CapabilityVats$Message" "passed" "[LCapabilityVats$Thing;" ∈ Wall := in_wall (List.mem_of_getElem? (i := 193) (by decide +kernel)) rfl
set_option maxRecDepth 20000 in
theorem wm_V_V_thingOfKind : Jvm.Cond.methodLink R_V 234 y_V_thingOfKind ∈ Wall := in_wall (List.mem_of_getElem? (i := 284) (by decide +kernel)) rfl
set_option maxRecDepth 20000 in
theorem wm_V_V_findWrapper : Jvm.Cond.methodLink R_V 238 y_V_findWrapper ∈ Wall := in_wall (List.mem_of_getElem? (i := 288) (by decide +kernel)) rfl
set_option maxRecDepth 20000 in
theorem wm_V_V_makeWrapper : Jvm.Cond.methodLink R_V 242 y_V_makeWrapper ∈ Wall := in_wall (List.mem_of_getElem? (i := 296) (by decide +kernel)) rfl
set_option maxRecDepth 20000 in
theorem wm_V_V_referenceTo : Jvm.Cond.methodLink R_V 245 y_V_referenceTo ∈ Wall := in_wall (List.mem_of_getElem? (i := 300) (by decide +kernel)) rfl
set_option maxRecDepth 20000 in
theorem wm_V_R_isSame : Jvm.Cond.methodLink R_V 249 y_R_isSame ∈ Wall := in_wall (List.mem_of_getElem? (i := 292) (by decide +kernel)) rfl
set_option maxRecDepth 20000 in
theorem wf_V_M_verb : Jvm.Cond.fieldLink R_V 253 "CapabilityVats$Message" "verb" "I" ∈ Wall := in_wall (List.mem_of_getElem? (i := 180) (by decide +kernel)) rfl
set_option maxRecDepth 20000 in
theorem wm_V_V_answerOfCell : Jvm.Cond.methodLink R_V 256 y_V_answerOfCell ∈ Wall := in_wall (List.mem_of_getElem? (i := 312) (by decide +kernel)) rfl
set_option maxRecDepth 20000 in
theorem wm_V_V_answerOfRevocable : Jvm.Cond.methodLink R_V 260 y_V_answerOfRevocable ∈ Wall := in_wall (List.mem_of_getElem? (i := 320) (by decide +kernel)) rfl
set_option maxRecDepth 20000 in
theorem wm_V_V_answerOfBrand : Jvm.Cond.methodLink R_V 264 y_V_answerOfBrand ∈ Wall := in_wall (List.mem_of_getElem? (i := 327) (by decide +kernel)) rfl
set_option maxRecDepth 20000 in
theorem wm_V_V_makeBox : Jvm.Cond.methodLink R_V 267 y_V_makeBox ∈ Wall := in_wall (List.mem_of_getElem? (i := 331) (by decide +kernel)) rfl
set_option maxRecDepth 20000 in
theorem wm_V_V_unseal : Jvm.Cond.methodLink R_V 271 y_V_unseal ∈ Wall := in_wall (List.mem_of_getElem? (i := 335) (by decide +kernel)) rfl
set_option maxRecDepth 20000 in
theorem wm_V_V_makeMoney : Jvm.Cond.methodLink R_V 274 y_V_makeMoney ∈ Wall := in_wall (List.mem_of_getElem? (i := 339) (by decide +kernel)) rfl
set_option maxRecDepth 20000 in
theorem wm_V_V_answerOfPurse : Jvm.Cond.methodLink R_V 277 y_V_answerOfPurse ∈ Wall := in_wall (List.mem_of_getElem? (i := 348) (by decide +kernel)) rfl
set_option maxRecDepth 20000 in
theorem wm_V_V_makeGate : Jvm.Cond.methodLink R_V 280 y_V_makeGate ∈ Wall := in_wall (List.mem_of_getElem? (i := 316) (by decide +kernel)) rfl
set_option maxRecDepth 20000 in
theorem wm_V_V_truth : Jvm.Cond.methodLink R_V 283 y_V_truth ∈ Wall := in_wall (List.mem_of_getElem? (i := 324) (by decide +kernel)) rfl
set_option maxRecDepth 20000 in
theorem wm_V_V_deposit : Jvm.Cond.methodLink R_V 287 y_V_deposit ∈ Wall := in_wall (List.mem_of_getElem? (i := 352) (by decide +kernel)) rfl
set_option maxRecDepth 20000 in
theorem wm_V_V_split : Jvm.Cond.methodLink R_V 290 y_V_split ∈ Wall := in_wall (List.mem_of_getElem? (i := 356) (by decide +kernel)) rfl
set_option maxRecDepth 20000 in
theorem wm_V_V_isNumberUpTo : Jvm.Cond.methodLink R_V 293 y_V_isNumberUpTo ∈ Wall := in_wall (List.mem_of_getElem? (i := 344) (by decide +kernel)) rfl
set_option maxRecDepth 20000 in
theorem wm_V_H_init : Jvm.Cond.methodLink R_V 297 y_H_init ∈ Wall := in_wall (List.mem_of_getElem? (i := 89) (by decide +kernel)) rfl
set_option maxRecDepth 20000 in
theorem wm_D_O_init : Jvm.Cond.methodLink R_D 1 objectInit ∈ Wall := in_wall (List.mem_of_getElem? (i := 443) (by decide +kernel)) rfl
set_option maxRecDepth 20000 in
theorem wf_D_D_kind : Jvm.Cond.fieldLink R_D 7 "CapabilityVatsModel" "kind" "[I" ∈ Wall := in_wall (List.mem_of_getElem? (i := 445) (by decide +kernel)) rfl
set_option maxRecDepth 20000 in
theorem wf_D_D_home : Jvm.Cond.fieldLink R_D 13 "CapabilityVatsModel" "home" "[I" ∈ Wall := in_wall (List.mem_of_getElem? (i := 446) (by decide +kernel)) rfl
set_option maxRecDepth 20000 in
theorem wf_D_D_link : Jvm.Cond.fieldLink R_D 16 "CapabilityVatsModel" "link" "[I" ∈ Wall := in_wall (List.mem_of_getElem? (i := 447) (by decide +kernel)) rfl
set_option maxRecDepth 20000 in
theorem wf_D_D_balance : Jvm.Cond.fieldLink R_D 19 "CapabilityVatsModel" "balance" "[I" ∈ Wall := in_wall (List.mem_of_getElem? (i := 448) (by decide +kernel)) rfl
set_option maxRecDepth 20000 in
theorem wf_D_D_inward : Jvm.Cond.fieldLink R_D 22 "CapabilityVatsModel" "inward" "[I" ∈ Wall := in_wall (List.mem_of_getElem? (i := 449) (by decide +kernel)) rfl
set_option maxRecDepth 20000 in
theorem wf_D_D_revoked : Jvm.Cond.fieldLink R_D 25 "CapabilityVatsModel" "revoked" "[Z" ∈ Wall := in_wall (List.mem_of_getElem? (i := 450) (by decide +kernel)) rfl
set_option maxRecDepth 20000 in
theorem wf_D_D_ownSort : Jvm.Cond.fieldLink R_D 29 "CapabilityVatsModel" "ownSort" "[I" ∈ Wall := in_wall (List.mem_of_getElem? (i := 451) (by decide +kernel)) rfl
set_option maxRecDepth 20000 in
theorem wf_D_D_own : Jvm.Cond.fieldLink R_D 32 "CapabilityVatsModel" "own" "[I" ∈ Wall := in_wall (List.mem_of_getElem? (i := 452) (by decide +kernel)) rfl
set_option maxRecDepth 20000 in
theorem wf_D_D_slotSort : Jvm.Cond.fieldLink R_D 35 "CapabilityVatsModel" "slotSort" "[I" ∈ Wall := in_wall (List.mem_of_getElem? (i := 453) (by decide +kernel)) rfl
set_option maxRecDepth 20000 in
theorem wf_D_D_slot : Jvm.Cond.fieldLink R_D 38 "CapabilityVatsModel" "slot" "[I" ∈ Wall := in_wall (List.mem_of_getElem? (i := 454) (by decide +kernel)) rfl
set_option maxRecDepth 20000 in
theorem wf_D_D_place : Jvm.Cond.fieldLink R_D 41 "CapabilityVatsModel" "place" "[I" ∈ Wall := in_wall (List.mem_of_getElem? (i := 456) (by decide +kernel)) rfl
set_option maxRecDepth 20000 in
theorem wf_D_D_where : Jvm.Cond.fieldLink R_D 44 "CapabilityVatsModel" "where" "[I" ∈ Wall := in_wall (List.mem_of_getElem? (i := 457) (by decide +kernel)) rfl
set_option maxRecDepth 20000 in
theorem wf_D_D_stamp : Jvm.Cond.fieldLink R_D 47 "CapabilityVatsModel" "stamp" "[I" ∈ Wall := in_wall (List.mem_of_getElem? (i := 458) (by decide +kernel)) rfl
set_option maxRecDepth 20000 in
theorem wf_D_D_targetSort : Jvm.Cond.fieldLink R_D 50 "CapabilityVatsModel" "targetSort" "[I" ∈ Wall := in_wall (List.mem_of_getElem? (i := 460) (by decide +kernel)) rfl
set_option maxRecDepth 20000 in
theorem wf_D_D_target : Jvm.Cond.fieldLink R_D 53 "CapabilityVatsModel" "target" "[I" ∈ Wall := in_wall (List.mem_of_getElem? (i := 461) (by decide +kernel)) rfl
set_option maxRecDepth 20000 in
theorem wf_D_D_verb : Jvm.Cond.fieldLink R_D 56 "CapabilityVatsModel" "verb" "[I" ∈ Wall := in_wall (List.mem_of_getElem? (i := 462) (by decide +kernel)) rfl
set_option maxRecDepth 20000 in
theorem wf_D_D_argumentSort : Jvm.Cond.fieldLink R_D 59 "CapabilityVatsModel" "argumentSort" "[I" ∈ Wall := in_wall (List.mem_of_getElem? (i := 463) (by decide +kernel)) rfl
set_option maxRecDepth 20000 in
theorem wf_D_D_argument : Jvm.Cond.fieldLink R_D 62 "CapabilityVatsModel" "argument" "[I" ∈ Wall := in_wall (List.mem_of_getElem? (i := 464) (by decide +kernel)) rfl
set_option maxRecDepth 20000 in
theorem wf_D_D_resolved : Jvm.Cond.fieldLink R_D 65 "CapabilityVatsModel" "resolved" "[Z" ∈ Wall := in_wall (List.mem_of_getElem? (i := 465) (by decide +kernel)) rfl
set_option maxRecDepth 20000 in
theorem wf_D_D_endSort : Jvm.Cond.fieldLink R_D 68 "CapabilityVatsModel" "endSort" "[I" ∈ Wall := in_wall (List.mem_of_getElem? (i := 466) (by decide +kernel)) rfl
set_option maxRecDepth 20000 in
theorem wf_D_D_end : Jvm.Cond.fieldLink R_D 71 "CapabilityVatsModel" "end" "[I" ∈ Wall := in_wall (List.mem_of_getElem? (i := 467) (by decide +kernel)) rfl
set_option maxRecDepth 20000 in
theorem wf_D_D_notes : Jvm.Cond.fieldLink R_D 74 "CapabilityVatsModel" "notes" "[I" ∈ Wall := in_wall (List.mem_of_getElem? (i := 468) (by decide +kernel)) rfl
set_option maxRecDepth 20000 in
theorem wf_D_D_noted : Jvm.Cond.fieldLink R_D 77 "CapabilityVatsModel" "noted" "[I" ∈ Wall := in_wall (List.mem_of_getElem? (i := 469) (by decide +kernel)) rfl
set_option maxRecDepth 20000 in
theorem wf_D_D_notedInward : Jvm.Cond.fieldLink R_D 80 "CapabilityVatsModel" "notedInward" "[I" ∈ Wall := in_wall (List.mem_of_getElem? (i := 470) (by decide +kernel)) rfl
set_option maxRecDepth 20000 in
theorem wf_D_D_sort : Jvm.Cond.fieldLink R_D 83 "CapabilityVatsModel" "sort" "I" ∈ Wall := in_wall (List.mem_of_getElem? (i := 471) (by decide +kernel)) rfl
set_option maxRecDepth 20000 in
theorem wf_D_D_ref : Jvm.Cond.fieldLink R_D 87 "CapabilityVatsModel" "ref" "I" ∈ Wall := in_wall (List.mem_of_getElem? (i := 472) (by decide +kernel)) rfl
set_option maxRecDepth 20000 in
theorem wm_D_D_hold : Jvm.Cond.methodLink R_D 90 y_D_hold ∈ Wall := in_wall (List.mem_of_getElem? (i := 573) (by decide +kernel)) rfl
set_option maxRecDepth 20000 in
theorem wf_D_D_objects : Jvm.Cond.fieldLink R_D 94 "CapabilityVatsModel" "objects" "I" ∈ Wall := in_wall (List.mem_of_getElem? (i := 444) (by decide +kernel)) rfl
set_option maxRecDepth 20000 in
theorem wm_D_D_broken : Jvm.Cond.methodLink R_D 97 y_D_broken ∈ Wall := in_wall (List.mem_of_getElem? (i := 581) (by decide +kernel)) rfl
set_option maxRecDepth 20000 in
theorem wm_D_D_make : Jvm.Cond.methodLink R_D 100 y_D_make ∈ Wall := in_wall (List.mem_of_getElem? (i := 541) (by decide +kernel)) rfl
set_option maxRecDepth 20000 in
theorem wf_D_D_stamps : Jvm.Cond.fieldLink R_D 104 "CapabilityVatsModel" "stamps" "I" ∈ Wall := in_wall (List.mem_of_getElem? (i := 459) (by decide +kernel)) rfl
set_option maxRecDepth 20000 in
theorem wf_D_D_messages : Jvm.Cond.fieldLink R_D 107 "CapabilityVatsModel" "messages" "I" ∈ Wall := in_wall (List.mem_of_getElem? (i := 455) (by decide +kernel)) rfl
set_option maxRecDepth 20000 in
theorem wm_D_D_direct : Jvm.Cond.methodLink R_D 110 y_D_direct ∈ Wall := in_wall (List.mem_of_getElem? (i := 565) (by decide +kernel)) rfl
set_option maxRecDepth 20000 in
theorem wm_D_D_released : Jvm.Cond.methodLink R_D 114 y_D_released ∈ Wall := in_wall (List.mem_of_getElem? (i := 589) (by decide +kernel)) rfl
set_option maxRecDepth 20000 in
theorem wm_D_D_look : Jvm.Cond.methodLink R_D 118 y_D_look ∈ Wall := in_wall (List.mem_of_getElem? (i := 569) (by decide +kernel)) rfl
set_option maxRecDepth 20000 in
theorem wm_D_D_stand : Jvm.Cond.methodLink R_D 121 y_D_stand ∈ Wall := in_wall (List.mem_of_getElem? (i := 577) (by decide +kernel)) rfl
set_option maxRecDepth 20000 in
theorem wm_D_D_settle : Jvm.Cond.methodLink R_D 125 y_D_settle ∈ Wall := in_wall (List.mem_of_getElem? (i := 585) (by decide +kernel)) rfl
set_option maxRecDepth 20000 in
theorem wm_D_D_out : Jvm.Cond.methodLink R_D 128 y_D_out ∈ Wall := in_wall (List.mem_of_getElem? (i := 538) (by decide +kernel)) rfl
set_option maxRecDepth 20000 in
theorem wm_D_D_isSlot : Jvm.Cond.methodLink R_D 132 y_D_isSlot ∈ Wall := in_wall (List.mem_of_getElem? (i := 549) (by decide +kernel)) rfl
set_option maxRecDepth 20000 in
theorem wm_D_D_route : Jvm.Cond.methodLink R_D 135 y_D_route ∈ Wall := in_wall (List.mem_of_getElem? (i := 561) (by decide +kernel)) rfl
set_option maxRecDepth 20000 in
theorem wm_D_D_nth : Jvm.Cond.methodLink R_D 138 y_D_nth ∈ Wall := in_wall (List.mem_of_getElem? (i := 597) (by decide +kernel)) rfl
set_option maxRecDepth 20000 in
theorem wm_D_D_answers : Jvm.Cond.methodLink R_D 141 y_D_answers ∈ Wall := in_wall (List.mem_of_getElem? (i := 601) (by decide +kernel)) rfl
set_option maxRecDepth 20000 in
theorem wm_D_D_asNoted : Jvm.Cond.methodLink R_D 144 y_D_asNoted ∈ Wall := in_wall (List.mem_of_getElem? (i := 646) (by decide +kernel)) rfl
set_option maxRecDepth 20000 in
theorem wm_D_D_relays : Jvm.Cond.methodLink R_D 147 y_D_relays ∈ Wall := in_wall (List.mem_of_getElem? (i := 605) (by decide +kernel)) rfl
set_option maxRecDepth 20000 in
theorem wm_D_D_ofCell : Jvm.Cond.methodLink R_D 150 y_D_ofCell ∈ Wall := in_wall (List.mem_of_getElem? (i := 617) (by decide +kernel)) rfl
set_option maxRecDepth 20000 in
theorem wm_D_D_ofGuard : Jvm.Cond.methodLink R_D 153 y_D_ofGuard ∈ Wall := in_wall (List.mem_of_getElem? (i := 621) (by decide +kernel)) rfl
set_option maxRecDepth 20000 in
theorem wm_D_D_fresh : Jvm.Cond.methodLink R_D 156 y_D_fresh ∈ Wall := in_wall (List.mem_of_getElem? (i := 613) (by decide +kernel)) rfl
set_option maxRecDepth 20000 in
theorem wm_D_D_ofSealer : Jvm.Cond.methodLink R_D 159 y_D_ofSealer ∈ Wall := in_wall (List.mem_of_getElem? (i := 625) (by decide +kernel)) rfl
set_option maxRecDepth 20000 in
theorem wm_D_D_ofUnsealer : Jvm.Cond.methodLink R_D 162 y_D_ofUnsealer ∈ Wall := in_wall (List.mem_of_getElem? (i := 629) (by decide +kernel)) rfl
set_option maxRecDepth 20000 in
theorem wm_D_D_ofMint : Jvm.Cond.methodLink R_D 165 y_D_ofMint ∈ Wall := in_wall (List.mem_of_getElem? (i := 637) (by decide +kernel)) rfl
set_option maxRecDepth 20000 in
theorem wm_D_D_ofPurse : Jvm.Cond.methodLink R_D 168 y_D_ofPurse ∈ Wall := in_wall (List.mem_of_getElem? (i := 642) (by decide +kernel)) rfl
set_option maxRecDepth 20000 in
theorem wm_D_D_wrap : Jvm.Cond.methodLink R_D 171 y_D_wrap ∈ Wall := in_wall (List.mem_of_getElem? (i := 609) (by decide +kernel)) rfl
set_option maxRecDepth 20000 in
theorem wm_D_D_isObject : Jvm.Cond.methodLink R_D 174 y_D_isObject ∈ Wall := in_wall (List.mem_of_getElem? (i := 633) (by decide +kernel)) rfl
set_option maxRecDepth 20000 in
theorem wm_D_D_seen : Jvm.Cond.methodLink R_D 179 y_D_seen ∈ Wall := in_wall (List.mem_of_getElem? (i := 666) (by decide +kernel)) rfl
set_option maxRecDepth 20000 in
theorem wm_D_D_count : Jvm.Cond.methodLink R_D 182 y_D_count ∈ Wall := in_wall (List.mem_of_getElem? (i := 698) (by decide +kernel)) rfl
set_option maxRecDepth 20000 in
theorem wm_L_O_init : Jvm.Cond.methodLink R_L 1 objectInit ∈ Wall := in_wall (List.mem_of_getElem? (i := 40) (by decide +kernel)) rfl
set_option maxRecDepth 20000 in
theorem wf_L_M_behind : Jvm.Cond.fieldLink R_L 7 "CapabilityVats$Message" "behind" "LCapabilityVats$Message;" ∈ Wall := in_wall (List.mem_of_getElem? (i := 191) (by decide +kernel)) rfl
set_option maxRecDepth 20000 in
theorem wf_L_L_last : Jvm.Cond.fieldLink R_L 13 "CapabilityVats$Line" "last" "LCapabilityVats$Message;" ∈ Wall := in_wall (List.mem_of_getElem? (i := 42) (by decide +kernel)) rfl
set_option maxRecDepth 20000 in
theorem wf_L_L_first : Jvm.Cond.fieldLink R_L 18 "CapabilityVats$Line" "first" "LCapabilityVats$Message;" ∈ Wall := in_wall (List.mem_of_getElem? (i := 41) (by decide +kernel)) rfl
set_option maxRecDepth 20000 in
theorem wf_L_L_length : Jvm.Cond.fieldLink R_L 21 "CapabilityVats$Line" "length" "I" ∈ Wall := in_wall (List.mem_of_getElem? (i := 43) (by decide +kernel)) rfl
set_option maxRecDepth 20000 in
theorem wm_L_L_take : Jvm.Cond.methodLink R_L 25 y_L_take ∈ Wall := in_wall (List.mem_of_getElem? (i := 263) (by decide +kernel)) rfl
set_option maxRecDepth 20000 in
theorem wm_L_L_join : Jvm.Cond.methodLink R_L 29 y_L_join ∈ Wall := in_wall (List.mem_of_getElem? (i := 264) (by decide +kernel)) rfl
set_option maxRecDepth 20000 in
theorem wm_M_O_init : Jvm.Cond.methodLink R_M 3 objectInit ∈ Wall := in_wall (List.mem_of_getElem? (i := 171) (by decide +kernel)) rfl
set_option maxRecDepth 20000 in
theorem wk_M_L : Jvm.Cond.classLink R_M 9 R_L ∈ Wall := in_wall (List.mem_of_getElem? (i := 172) (by decide +kernel)) rfl
set_option maxRecDepth 20000 in
theorem wf_M_M_waiters : Jvm.Cond.fieldLink R_M 12 "CapabilityVats$Message" "waiters" "LCapabilityVats$Line;" ∈ Wall := in_wall (List.mem_of_getElem? (i := 183) (by decide +kernel)) rfl
set_option maxRecDepth 20000 in
theorem wk_M_H : Jvm.Cond.classLink R_M 18 R_H ∈ Wall := in_wall (List.mem_of_getElem? (i := 174) (by decide +kernel)) rfl
set_option maxRecDepth 20000 in
theorem wf_M_M_passed : Jvm.Cond.fieldLink R_M 20 "CapabilityVats$Message" "passed" "[LCapabilityVats$Thing;" ∈ Wall := in_wall (List.mem_of_getElem? (i := 192) (by decide +kernel)) rfl
set_option maxRecDepth 20000 in
theorem wf_M_M_number : Jvm.Cond.fieldLink R_M 24 "CapabilityVats$Message" "number" "I" ∈ Wall := in_wall (List.mem_of_getElem? (i := 177) (by decide +kernel)) rfl
set_option maxRecDepth 20000 in
theorem wf_M_M_target : Jvm.Cond.fieldLink R_M 28 "CapabilityVats$Message" "target" "LCapabilityVats$Reference;" ∈ Wall := in_wall (List.mem_of_getElem? (i := 185) (by decide +kernel)) rfl
set_option maxRecDepth 20000 in
theorem wf_M_M_verb : Jvm.Cond.fieldLink R_M 32 "CapabilityVats$Message" "verb" "I" ∈ Wall := in_wall (List.mem_of_getElem? (i := 179) (by decide +kernel)) rfl
set_option maxRecDepth 20000 in
theorem wf_M_M_argument : Jvm.Cond.fieldLink R_M 35 "CapabilityVats$Message" "argument" "LCapabilityVats$Reference;" ∈ Wall := in_wall (List.mem_of_getElem? (i := 187) (by decide +kernel)) rfl
set_option maxRecDepth 20000 in
theorem wk_M_R : Jvm.Cond.classLink R_M 38 R_R ∈ Wall := in_wall (List.mem_of_getElem? (i := 175) (by decide +kernel)) rfl
set_option maxRecDepth 20000 in
theorem wm_M_R_init : Jvm.Cond.methodLink R_M 40 y_R_init ∈ Wall := in_wall (List.mem_of_getElem? (i := 176) (by decide +kernel)) rfl
set_option maxRecDepth 20000 in
theorem wf_M_M_promise : Jvm.Cond.fieldLink R_M 43 "CapabilityVats$Message" "promise" "LCapabilityVats$Reference;" ∈ Wall := in_wall (List.mem_of_getElem? (i := 181) (by decide +kernel)) rfl
set_option maxRecDepth 20000 in
theorem wf_M_M_noteCount : Jvm.Cond.fieldLink R_M 46 "CapabilityVats$Message" "noteCount" "I" ∈ Wall := in_wall (List.mem_of_getElem? (i := 194) (by decide +kernel)) rfl
set_option maxRecDepth 20000 in
theorem wm_R_O_init : Jvm.Cond.methodLink R_R 1 objectInit ∈ Wall := in_wall (List.mem_of_getElem? (i := 20) (by decide +kernel)) rfl
set_option maxRecDepth 20000 in
theorem wf_R_R_sort : Jvm.Cond.fieldLink R_R 7 "CapabilityVats$Reference" "sort" "I" ∈ Wall := in_wall (List.mem_of_getElem? (i := 21) (by decide +kernel)) rfl
set_option maxRecDepth 20000 in
theorem wf_R_R_index : Jvm.Cond.fieldLink R_R 13 "CapabilityVats$Reference" "index" "I" ∈ Wall := in_wall (List.mem_of_getElem? (i := 23) (by decide +kernel)) rfl
set_option maxRecDepth 20000 in
theorem wm_H_O_init : Jvm.Cond.methodLink R_H 3 objectInit ∈ Wall := in_wall (List.mem_of_getElem? (i := 92) (by decide +kernel)) rfl
set_option maxRecDepth 20000 in
theorem wk_H_R : Jvm.Cond.classLink R_H 9 R_R ∈ Wall := in_wall (List.mem_of_getElem? (i := 93) (by decide +kernel)) rfl
set_option maxRecDepth 20000 in
theorem wf_H_H_slots : Jvm.Cond.fieldLink R_H 11 "CapabilityVats$Thing" "slots" "[LCapabilityVats$Reference;" ∈ Wall := in_wall (List.mem_of_getElem? (i := 106) (by decide +kernel)) rfl
set_option maxRecDepth 20000 in
theorem wf_H_H_number : Jvm.Cond.fieldLink R_H 17 "CapabilityVats$Thing" "number" "I" ∈ Wall := in_wall (List.mem_of_getElem? (i := 96) (by decide +kernel)) rfl
set_option maxRecDepth 20000 in
theorem wf_H_H_kind : Jvm.Cond.fieldLink R_H 21 "CapabilityVats$Thing" "kind" "I" ∈ Wall := in_wall (List.mem_of_getElem? (i := 98) (by decide +kernel)) rfl
set_option maxRecDepth 20000 in
theorem wf_H_H_home : Jvm.Cond.fieldLink R_H 24 "CapabilityVats$Thing" "home" "I" ∈ Wall := in_wall (List.mem_of_getElem? (i := 100) (by decide +kernel)) rfl
set_option maxRecDepth 20000 in
theorem wf_H_H_owner : Jvm.Cond.fieldLink R_H 27 "CapabilityVats$Thing" "owner" "LCapabilityVats$Thing;" ∈ Wall := in_wall (List.mem_of_getElem? (i := 102) (by decide +kernel)) rfl
set_option maxRecDepth 20000 in
theorem wm_H_R_init : Jvm.Cond.methodLink R_H 31 y_R_init ∈ Wall := in_wall (List.mem_of_getElem? (i := 95) (by decide +kernel)) rfl
set_option maxRecDepth 20000 in
theorem wf_H_H_self : Jvm.Cond.fieldLink R_H 34 "CapabilityVats$Thing" "self" "LCapabilityVats$Reference;" ∈ Wall := in_wall (List.mem_of_getElem? (i := 104) (by decide +kernel)) rfl
set_option maxRecDepth 20000 in
theorem wf_H_H_held : Jvm.Cond.fieldLink R_H 38 "CapabilityVats$Thing" "held" "LCapabilityVats$Reference;" ∈ Wall := in_wall (List.mem_of_getElem? (i := 108) (by decide +kernel)) rfl
set_option maxRecDepth 20000 in
theorem wf_H_H_revoked : Jvm.Cond.fieldLink R_H 41 "CapabilityVats$Thing" "revoked" "Z" ∈ Wall := in_wall (List.mem_of_getElem? (i := 111) (by decide +kernel)) rfl
set_option maxRecDepth 20000 in
theorem wk_W_V : Jvm.Cond.classLink R_W 7 R_V ∈ Wall := in_wall (List.mem_of_getElem? (i := 7) (by decide +kernel)) rfl
set_option maxRecDepth 20000 in
theorem wm_W_V_init : Jvm.Cond.methodLink R_W 9 y_V_init ∈ Wall := in_wall (List.mem_of_getElem? (i := 9) (by decide +kernel)) rfl
set_option maxRecDepth 20000 in
theorem wk_W_D : Jvm.Cond.classLink R_W 10 R_D ∈ Wall := in_wall (List.mem_of_getElem? (i := 438) (by decide +kernel)) rfl
set_option maxRecDepth 20000 in
theorem wm_W_D_init : Jvm.Cond.methodLink R_W 12 y_D_init ∈ Wall := in_wall (List.mem_of_getElem? (i := 440) (by decide +kernel)) rfl
set_option maxRecDepth 20000 in
theorem wm_W_V_cell : Jvm.Cond.methodLink R_W 13 y_V_cell ∈ Wall := in_wall (List.mem_of_getElem? (i := 77) (by decide +kernel)) rfl
set_option maxRecDepth 20000 in
theorem wm_W_D_cell : Jvm.Cond.methodLink R_W 17 y_D_cell ∈ Wall := in_wall (List.mem_of_getElem? (i := 534) (by decide +kernel)) rfl
set_option maxRecDepth 20000 in
theorem wm_W_V_number : Jvm.Cond.methodLink R_W 18 y_V_number ∈ Wall := in_wall (List.mem_of_getElem? (i := 138) (by decide +kernel)) rfl
set_option maxRecDepth 20000 in
theorem wm_W_D_number : Jvm.Cond.methodLink R_W 22 y_D_number ∈ Wall := in_wall (List.mem_of_getElem? (i := 545) (by decide +kernel)) rfl
set_option maxRecDepth 20000 in
theorem wm_W_V_introduce : Jvm.Cond.methodLink R_W 23 y_V_introduce ∈ Wall := in_wall (List.mem_of_getElem? (i := 156) (by decide +kernel)) rfl
set_option maxRecDepth 20000 in
theorem wm_W_D_introduce : Jvm.Cond.methodLink R_W 26 y_D_introduce ∈ Wall := in_wall (List.mem_of_getElem? (i := 553) (by decide +kernel)) rfl
set_option maxRecDepth 20000 in
theorem wm_W_V_send : Jvm.Cond.methodLink R_W 27 y_V_send ∈ Wall := in_wall (List.mem_of_getElem? (i := 160) (by decide +kernel)) rfl
set_option maxRecDepth 20000 in
theorem wm_W_D_send : Jvm.Cond.methodLink R_W 31 y_D_send ∈ Wall := in_wall (List.mem_of_getElem? (i := 557) (by decide +kernel)) rfl
set_option maxRecDepth 20000 in
theorem wm_W_V_turn : Jvm.Cond.methodLink R_W 32 y_V_turn ∈ Wall := in_wall (List.mem_of_getElem? (i := 265) (by decide +kernel)) rfl
set_option maxRecDepth 20000 in
theorem wm_W_D_turn : Jvm.Cond.methodLink R_W 35 y_D_turn ∈ Wall := in_wall (List.mem_of_getElem? (i := 593) (by decide +kernel)) rfl
set_option maxRecDepth 20000 in
theorem wm_W_V_objects : Jvm.Cond.methodLink R_W 36 y_V_objects ∈ Wall := in_wall (List.mem_of_getElem? (i := 364) (by decide +kernel)) rfl
set_option maxRecDepth 20000 in
theorem wm_W_D_objects : Jvm.Cond.methodLink R_W 40 y_D_objects ∈ Wall := in_wall (List.mem_of_getElem? (i := 650) (by decide +kernel)) rfl
set_option maxRecDepth 20000 in
theorem wm_W_V_kind : Jvm.Cond.methodLink R_W 41 y_V_kind ∈ Wall := in_wall (List.mem_of_getElem? (i := 368) (by decide +kernel)) rfl
set_option maxRecDepth 20000 in
theorem wm_W_D_kind : Jvm.Cond.methodLink R_W 44 y_D_kind ∈ Wall := in_wall (List.mem_of_getElem? (i := 654) (by decide +kernel)) rfl
set_option maxRecDepth 20000 in
theorem wm_W_V_home : Jvm.Cond.methodLink R_W 45 y_V_home ∈ Wall := in_wall (List.mem_of_getElem? (i := 372) (by decide +kernel)) rfl
set_option maxRecDepth 20000 in
theorem wm_W_D_home : Jvm.Cond.methodLink R_W 48 y_D_home ∈ Wall := in_wall (List.mem_of_getElem? (i := 658) (by decide +kernel)) rfl
set_option maxRecDepth 20000 in
theorem wm_W_V_what : Jvm.Cond.methodLink R_W 49 y_V_what ∈ Wall := in_wall (List.mem_of_getElem? (i := 376) (by decide +kernel)) rfl
set_option maxRecDepth 20000 in
theorem wm_W_D_what : Jvm.Cond.methodLink R_W 53 y_D_what ∈ Wall := in_wall (List.mem_of_getElem? (i := 662) (by decide +kernel)) rfl
set_option maxRecDepth 20000 in
theorem wm_W_V_which : Jvm.Cond.methodLink R_W 54 y_V_which ∈ Wall := in_wall (List.mem_of_getElem? (i := 388) (by decide +kernel)) rfl
set_option maxRecDepth 20000 in
theorem wm_W_D_which : Jvm.Cond.methodLink R_W 57 y_D_which ∈ Wall := in_wall (List.mem_of_getElem? (i := 670) (by decide +kernel)) rfl
set_option maxRecDepth 20000 in
theorem wm_W_V_detail : Jvm.Cond.methodLink R_W 58 y_V_detail ∈ Wall := in_wall (List.mem_of_getElem? (i := 392) (by decide +kernel)) rfl
set_option maxRecDepth 20000 in
theorem wm_W_D_detail : Jvm.Cond.methodLink R_W 61 y_D_detail ∈ Wall := in_wall (List.mem_of_getElem? (i := 674) (by decide +kernel)) rfl
set_option maxRecDepth 20000 in
theorem wm_W_V_messages : Jvm.Cond.methodLink R_W 62 y_V_messages ∈ Wall := in_wall (List.mem_of_getElem? (i := 402) (by decide +kernel)) rfl
set_option maxRecDepth 20000 in
theorem wm_W_D_messages : Jvm.Cond.methodLink R_W 65 y_D_messages ∈ Wall := in_wall (List.mem_of_getElem? (i := 678) (by decide +kernel)) rfl
set_option maxRecDepth 20000 in
theorem wm_W_V_place : Jvm.Cond.methodLink R_W 66 y_V_place ∈ Wall := in_wall (List.mem_of_getElem? (i := 406) (by decide +kernel)) rfl
set_option maxRecDepth 20000 in
theorem wm_W_D_place : Jvm.Cond.methodLink R_W 69 y_D_place ∈ Wall := in_wall (List.mem_of_getElem? (i := 682) (by decide +kernel)) rfl
set_option maxRecDepth 20000 in
theorem wm_W_V_result : Jvm.Cond.methodLink R_W 70 y_V_result ∈ Wall := in_wall (List.mem_of_getElem? (i := 410) (by decide +kernel)) rfl
set_option maxRecDepth 20000 in
theorem wm_W_D_result : Jvm.Cond.methodLink R_W 73 y_D_result ∈ Wall := in_wall (List.mem_of_getElem? (i := 686) (by decide +kernel)) rfl
set_option maxRecDepth 20000 in
theorem wm_W_V_value : Jvm.Cond.methodLink R_W 74 y_V_value ∈ Wall := in_wall (List.mem_of_getElem? (i := 414) (by decide +kernel)) rfl
set_option maxRecDepth 20000 in
theorem wm_W_D_value : Jvm.Cond.methodLink R_W 77 y_D_value ∈ Wall := in_wall (List.mem_of_getElem? (i := 690) (by decide +kernel)) rfl
set_option maxRecDepth 20000 in
theorem wm_W_V_queued : Jvm.Cond.methodLink R_W 78 y_V_queued ∈ Wall := in_wall (List.mem_of_getElem? (i := 418) (by decide +kernel)) rfl
set_option maxRecDepth 20000 in
theorem wm_W_D_queued : Jvm.Cond.methodLink R_W 81 y_D_queued ∈ Wall := in_wall (List.mem_of_getElem? (i := 694) (by decide +kernel)) rfl
set_option maxRecDepth 20000 in
theorem wm_W_V_next : Jvm.Cond.methodLink R_W 82 y_V_next ∈ Wall := in_wall (List.mem_of_getElem? (i := 422) (by decide +kernel)) rfl
set_option maxRecDepth 20000 in
theorem wm_W_D_next : Jvm.Cond.methodLink R_W 85 y_D_next ∈ Wall := in_wall (List.mem_of_getElem? (i := 702) (by decide +kernel)) rfl
set_option maxRecDepth 20000 in
theorem wm_W_V_waiting : Jvm.Cond.methodLink R_W 86 y_V_waiting ∈ Wall := in_wall (List.mem_of_getElem? (i := 430) (by decide +kernel)) rfl
set_option maxRecDepth 20000 in
theorem wm_W_D_waiting : Jvm.Cond.methodLink R_W 89 y_D_waiting ∈ Wall := in_wall (List.mem_of_getElem? (i := 706) (by decide +kernel)) rfl
set_option maxRecDepth 20000 in
theorem wm_W_V_notes : Jvm.Cond.methodLink R_W 90 y_V_notes ∈ Wall := in_wall (List.mem_of_getElem? (i := 434) (by decide +kernel)) rfl
set_option maxRecDepth 20000 in
theorem wm_W_D_notes : Jvm.Cond.methodLink R_W 93 y_D_notes ∈ Wall := in_wall (List.mem_of_getElem? (i := 710) (by decide +kernel)) rfl
set_option maxRecDepth 20000 in
theorem wi_V_init : Jvm.Cond.instanceMethod y_V_init ∈ Wall := in_wall (List.mem_of_getElem? (i := 10) (by decide +kernel)) rfl
set_option maxRecDepth 20000 in
theorem wi_V_cell : Jvm.Cond.instanceMethod y_V_cell ∈ Wall := in_wall (List.mem_of_getElem? (i := 78) (by decide +kernel)) rfl
set_option maxRecDepth 20000 in
theorem ws_V_cell : Jvm.Cond.selects R_V y_V_cell y_V_cell ∈ Wall := in_wall (List.mem_of_getElem? (i := 79) (by decide +kernel)) rfl
set_option maxRecDepth 20000 in
theorem wi_V_number : Jvm.Cond.instanceMethod y_V_number ∈ Wall := in_wall (List.mem_of_getElem? (i := 139) (by decide +kernel)) rfl
set_option maxRecDepth 20000 in
theorem ws_V_number : Jvm.Cond.selects R_V y_V_number y_V_number ∈ Wall := in_wall (List.mem_of_getElem? (i := 140) (by decide +kernel)) rfl
set_option maxRecDepth 20000 in
theorem wi_V_introduce : Jvm.Cond.instanceMethod y_V_introduce ∈ Wall := in_wall (List.mem_of_getElem? (i := 157) (by decide +kernel)) rfl
set_option maxRecDepth 20000 in
theorem ws_V_introduce : Jvm.Cond.selects R_V y_V_introduce y_V_introduce ∈ Wall := in_wall (List.mem_of_getElem? (i := 158) (by decide +kernel)) rfl
set_option maxRecDepth 20000 in
theorem wi_V_send : Jvm.Cond.instanceMethod y_V_send ∈ Wall := in_wall (List.mem_of_getElem? (i := 161) (by decide +kernel)) rfl
set_option maxRecDepth 20000 in
theorem ws_V_send : Jvm.Cond.selects R_V y_V_send y_V_send ∈ Wall := in_wall (List.mem_of_getElem? (i := 162) (by decide +kernel)) rfl
set_option maxRecDepth 20000 in
theorem wi_V_turn : Jvm.Cond.instanceMethod y_V_turn ∈ Wall := in_wall (List.mem_of_getElem? (i := 266) (by decide +kernel)) rfl
set_option maxRecDepth 20000 in
theorem ws_V_turn : Jvm.Cond.selects R_V y_V_turn y_V_turn ∈ Wall := in_wall (List.mem_of_getElem? (i := 267) (by decide +kernel)) rfl
set_option maxRecDepth 20000 in
theorem wi_V_objects : Jvm.Cond.instanceMethod y_V_objects ∈ Wall := in_wall (List.mem_of_getElem? (i := 365) (by decide +kernel)) rfl
set_option maxRecDepth 20000 in
theorem ws_V_objects : Jvm.Cond.selects R_V y_V_objects y_V_objects ∈ Wall := in_wall (List.mem_of_getElem? (i := 366) (by decide +kernel)) rfl
set_option maxRecDepth 20000 in
theorem wi_V_kind : Jvm.Cond.instanceMethod y_V_kind ∈ Wall := in_wall (List.mem_of_getElem? (i := 369) (by decide +kernel)) rfl
set_option maxRecDepth 20000 in
theorem ws_V_kind : Jvm.Cond.selects R_V y_V_kind y_V_kind ∈ Wall := in_wall (List.mem_of_getElem? (i := 370) (by decide +kernel)) rfl
set_option maxRecDepth 20000 in
theorem wi_V_home : Jvm.Cond.instanceMethod y_V_home ∈ Wall := in_wall (List.mem_of_getElem? (i := 373) (by decide +kernel)) rfl
set_option maxRecDepth 20000 in
theorem ws_V_home : Jvm.Cond.selects R_V y_V_home y_V_home ∈ Wall := in_wall (List.mem_of_getElem? (i := 374) (by decide +kernel)) rfl
set_option maxRecDepth 20000 in
theorem wi_V_what : Jvm.Cond.instanceMethod y_V_what ∈ Wall := in_wall (List.mem_of_getElem? (i := 377) (by decide +kernel)) rfl
set_option maxRecDepth 20000 in
theorem ws_V_what : Jvm.Cond.selects R_V y_V_what y_V_what ∈ Wall := in_wall (List.mem_of_getElem? (i := 378) (by decide +kernel)) rfl
set_option maxRecDepth 20000 in
theorem wi_V_which : Jvm.Cond.instanceMethod y_V_which ∈ Wall := in_wall (List.mem_of_getElem? (i := 389) (by decide +kernel)) rfl
set_option maxRecDepth 20000 in
theorem ws_V_which : Jvm.Cond.selects R_V y_V_which y_V_which ∈ Wall := in_wall (List.mem_of_getElem? (i := 390) (by decide +kernel)) rfl
set_option maxRecDepth 20000 in
theorem wi_V_detail : Jvm.Cond.instanceMethod y_V_detail ∈ Wall := in_wall (List.mem_of_getElem? (i := 393) (by decide +kernel)) rfl
set_option maxRecDepth 20000 in
theorem ws_V_detail : Jvm.Cond.selects R_V y_V_detail y_V_detail ∈ Wall := in_wall (List.mem_of_getElem? (i := 394) (by decide +kernel)) rfl
set_option maxRecDepth 20000 in
theorem wi_V_messages : Jvm.Cond.instanceMethod y_V_messages ∈ Wall := in_wall (List.mem_of_getElem? (i := 403) (by decide +kernel)) rfl
set_option maxRecDepth 20000 in
theorem ws_V_messages : Jvm.Cond.selects R_V y_V_messages y_V_messages ∈ Wall := in_wall (List.mem_of_getElem? (i := 404) (by decide +kernel)) rfl
set_option maxRecDepth 20000 in
theorem wi_V_place : Jvm.Cond.instanceMethod y_V_place ∈ Wall := in_wall (List.mem_of_getElem? (i := 407) (by decide +kernel)) rfl
set_option maxRecDepth 20000 in
theorem ws_V_place : Jvm.Cond.selects R_V y_V_place y_V_place ∈ Wall := in_wall (List.mem_of_getElem? (i := 408) (by decide +kernel)) rfl
set_option maxRecDepth 20000 in
theorem wi_V_result : Jvm.Cond.instanceMethod y_V_result ∈ Wall := in_wall (List.mem_of_getElem? (i := 411) (by decide +kernel)) rfl
set_option maxRecDepth 20000 in
theorem ws_V_result : Jvm.Cond.selects R_V y_V_result y_V_result ∈ Wall := in_wall (List.mem_of_getElem? (i := 412) (by decide +kernel)) rfl
set_option maxRecDepth 20000 in
theorem wi_V_value : Jvm.Cond.instanceMethod y_V_value ∈ Wall := in_wall (List.mem_of_getElem? (i := 415) (by decide +kernel)) rfl
set_option maxRecDepth 20000 in
theorem ws_V_value : Jvm.Cond.selects R_V y_V_value y_V_value ∈ Wall := in_wall (List.mem_of_getElem? (i := 416) (by decide +kernel)) rfl
set_option maxRecDepth 20000 in
theorem wi_V_queued : Jvm.Cond.instanceMethod y_V_queued ∈ Wall := in_wall (List.mem_of_getElem? (i := 419) (by decide +kernel)) rfl
set_option maxRecDepth 20000 in
theorem ws_V_queued : Jvm.Cond.selects R_V y_V_queued y_V_queued ∈ Wall := in_wall (List.mem_of_getElem? (i := 420) (by decide +kernel)) rfl
set_option maxRecDepth 20000 in
theorem wi_V_next : Jvm.Cond.instanceMethod y_V_next ∈ Wall := in_wall (List.mem_of_getElem? (i := 423) (by decide +kernel)) rfl
set_option maxRecDepth 20000 in
theorem ws_V_next : Jvm.Cond.selects R_V y_V_next y_V_next ∈ Wall := in_wall (List.mem_of_getElem? (i := 424) (by decide +kernel)) rfl
set_option maxRecDepth 20000 in
theorem wi_V_waiting : Jvm.Cond.instanceMethod y_V_waiting ∈ Wall := in_wall (List.mem_of_getElem? (i := 431) (by decide +kernel)) rfl
set_option maxRecDepth 20000 in
theorem ws_V_waiting : Jvm.Cond.selects R_V y_V_waiting y_V_waiting ∈ Wall := in_wall (List.mem_of_getElem? (i := 432) (by decide +kernel)) rfl
set_option maxRecDepth 20000 in
theorem wi_V_notes : Jvm.Cond.instanceMethod y_V_notes ∈ Wall := in_wall (List.mem_of_getElem? (i := 435) (by decide +kernel)) rfl
set_option maxRecDepth 20000 in
theorem ws_V_notes : Jvm.Cond.selects R_V y_V_notes y_V_notes ∈ Wall := in_wall (List.mem_of_getElem? (i := 436) (by decide +kernel)) rfl
set_option maxRecDepth 20000 in
theorem wt_V_isVat : Jvm.Cond.static y_V_isVat ∈ Wall := in_wall (List.mem_of_getElem? (i := 82) (by decide +kernel)) rfl
set_option maxRecDepth 20000 in
theorem wt_V_isSlot : Jvm.Cond.static y_V_isSlot ∈ Wall := in_wall (List.mem_of_getElem? (i := 151) (by decide +kernel)) rfl
set_option maxRecDepth 20000 in
theorem wt_V_isSlotOrNone : Jvm.Cond.static y_V_isSlotOrNone ∈ Wall := in_wall (List.mem_of_getElem? (i := 165) (by decide +kernel)) rfl
set_option maxRecDepth 20000 in
theorem wi_V_thingAt : Jvm.Cond.instanceMethod y_V_thingAt ∈ Wall := in_wall (List.mem_of_getElem? (i := 148) (by decide +kernel)) rfl
theorem ws_V_thingAt : Jvm.Cond.selects R_V y_V_thingAt y_V_thingAt ∈ Wall := List.mem_filter.mpr ⟨List.mem_append_left _ (by decide +kernel), rfl⟩
set_option maxRecDepth 20000 in
theorem wi_V_cellAt : Jvm.Cond.instanceMethod y_V_cellAt ∈ Wall := in_wall (List.mem_of_getElem? (i := 144) (by decide +kernel)) rfl
theorem ws_V_cellAt : Jvm.Cond.selects R_V y_V_cellAt y_V_cellAt ∈ Wall := List.mem_filter.mpr ⟨List.mem_append_left _ (by decide +kernel), rfl⟩
set_option maxRecDepth 20000 in
theorem wi_V_messageAt : Jvm.Cond.instanceMethod y_V_messageAt ∈ Wall := in_wall (List.mem_of_getElem? (i := 245) (by decide +kernel)) rfl
theorem ws_V_messageAt : Jvm.Cond.selects R_V y_V_messageAt y_V_messageAt ∈ Wall := List.mem_filter.mpr ⟨List.mem_append_left _ (by decide +kernel), rfl⟩
set_option maxRecDepth 20000 in
theorem wi_V_heldAt : Jvm.Cond.instanceMethod y_V_heldAt ∈ Wall := in_wall (List.mem_of_getElem? (i := 382) (by decide +kernel)) rfl
theorem ws_V_heldAt : Jvm.Cond.selects R_V y_V_heldAt y_V_heldAt ∈ Wall := List.mem_filter.mpr ⟨List.mem_append_left _ (by decide +kernel), rfl⟩
set_option maxRecDepth 20000 in
theorem wt_V_firstDetail : Jvm.Cond.static y_V_firstDetail ∈ Wall := in_wall (List.mem_of_getElem? (i := 397) (by decide +kernel)) rfl
set_option maxRecDepth 20000 in
theorem wt_V_secondDetail : Jvm.Cond.static y_V_secondDetail ∈ Wall := in_wall (List.mem_of_getElem? (i := 400) (by decide +kernel)) rfl
set_option maxRecDepth 20000 in
theorem wi_V_countsAs : Jvm.Cond.instanceMethod y_V_countsAs ∈ Wall := in_wall (List.mem_of_getElem? (i := 241) (by decide +kernel)) rfl
theorem ws_V_countsAs : Jvm.Cond.selects R_V y_V_countsAs y_V_countsAs ∈ Wall := List.mem_filter.mpr ⟨List.mem_append_left _ (by decide +kernel), rfl⟩
set_option maxRecDepth 20000 in
theorem wi_V_thingOf : Jvm.Cond.instanceMethod y_V_thingOf ∈ Wall := in_wall (List.mem_of_getElem? (i := 237) (by decide +kernel)) rfl
theorem ws_V_thingOf : Jvm.Cond.selects R_V y_V_thingOf y_V_thingOf ∈ Wall := List.mem_filter.mpr ⟨List.mem_append_left _ (by decide +kernel), rfl⟩
set_option maxRecDepth 20000 in
theorem wi_V_awaitedBy : Jvm.Cond.instanceMethod y_V_awaitedBy ∈ Wall := in_wall (List.mem_of_getElem? (i := 249) (by decide +kernel)) rfl
theorem ws_V_awaitedBy : Jvm.Cond.selects R_V y_V_awaitedBy y_V_awaitedBy ∈ Wall := List.mem_filter.mpr ⟨List.mem_append_left _ (by decide +kernel), rfl⟩
set_option maxRecDepth 20000 in
theorem wi_V_thingOfKind : Jvm.Cond.instanceMethod y_V_thingOfKind ∈ Wall := in_wall (List.mem_of_getElem? (i := 286) (by decide +kernel)) rfl
theorem ws_V_thingOfKind : Jvm.Cond.selects R_V y_V_thingOfKind y_V_thingOfKind ∈ Wall := List.mem_filter.mpr ⟨List.mem_append_left _ (by decide +kernel), rfl⟩
set_option maxRecDepth 20000 in
theorem wi_V_isNumberUpTo : Jvm.Cond.instanceMethod y_V_isNumberUpTo ∈ Wall := in_wall (List.mem_of_getElem? (i := 346) (by decide +kernel)) rfl
theorem ws_V_isNumberUpTo : Jvm.Cond.selects R_V y_V_isNumberUpTo y_V_isNumberUpTo ∈ Wall := List.mem_filter.mpr ⟨List.mem_append_left _ (by decide +kernel), rfl⟩
set_option maxRecDepth 20000 in
theorem wt_V_numeral : Jvm.Cond.static y_V_numeral ∈ Wall := in_wall (List.mem_of_getElem? (i := 154) (by decide +kernel)) rfl
set_option maxRecDepth 20000 in
theorem wt_V_truth : Jvm.Cond.static y_V_truth ∈ Wall := in_wall (List.mem_of_getElem? (i := 325) (by decide +kernel)) rfl
set_option maxRecDepth 20000 in
theorem wi_V_brokenIfNothing : Jvm.Cond.instanceMethod y_V_brokenIfNothing ∈ Wall := in_wall (List.mem_of_getElem? (i := 257) (by decide +kernel)) rfl
theorem ws_V_brokenIfNothing : Jvm.Cond.selects R_V y_V_brokenIfNothing y_V_brokenIfNothing ∈ Wall := List.mem_filter.mpr ⟨List.mem_append_left _ (by decide +kernel), rfl⟩
set_option maxRecDepth 20000 in
theorem wi_V_referenceTo : Jvm.Cond.instanceMethod y_V_referenceTo ∈ Wall := in_wall (List.mem_of_getElem? (i := 302) (by decide +kernel)) rfl
theorem ws_V_referenceTo : Jvm.Cond.selects R_V y_V_referenceTo y_V_referenceTo ∈ Wall := List.mem_filter.mpr ⟨List.mem_append_left _ (by decide +kernel), rfl⟩
set_option maxRecDepth 20000 in
theorem wi_V_settle : Jvm.Cond.instanceMethod y_V_settle ∈ Wall := in_wall (List.mem_of_getElem? (i := 253) (by decide +kernel)) rfl
theorem ws_V_settle : Jvm.Cond.selects R_V y_V_settle y_V_settle ∈ Wall := List.mem_filter.mpr ⟨List.mem_append_left _ (by decide +kernel), rfl⟩
set_option maxRecDepth 20000 in
theorem wi_V_routeAll : Jvm.Cond.instanceMethod y_V_routeAll ∈ Wall := in_wall (List.mem_of_getElem? (i := 225) (by decide +kernel)) rfl
theorem ws_V_routeAll : Jvm.Cond.selects R_V y_V_routeAll y_V_routeAll ∈ Wall := List.mem_filter.mpr ⟨List.mem_append_left _ (by decide +kernel), rfl⟩
set_option maxRecDepth 20000 in
theorem wi_V_route : Jvm.Cond.instanceMethod y_V_route ∈ Wall := in_wall (List.mem_of_getElem? (i := 233) (by decide +kernel)) rfl
theorem ws_V_route : Jvm.Cond.selects R_V y_V_route y_V_route ∈ Wall := List.mem_filter.mpr ⟨List.mem_append_left _ (by decide +kernel), rfl⟩
set_option maxRecDepth 20000 in
theorem wt_V_relays : Jvm.Cond.static y_V_relays ∈ Wall := in_wall (List.mem_of_getElem? (i := 270) (by decide +kernel)) rfl
set_option maxRecDepth 20000 in
theorem wi_V_relay : Jvm.Cond.instanceMethod y_V_relay ∈ Wall := in_wall (List.mem_of_getElem? (i := 278) (by decide +kernel)) rfl
theorem ws_V_relay : Jvm.Cond.selects R_V y_V_relay y_V_relay ∈ Wall := List.mem_filter.mpr ⟨List.mem_append_left _ (by decide +kernel), rfl⟩
set_option maxRecDepth 20000 in
theorem wi_V_wrapAsNoted : Jvm.Cond.instanceMethod y_V_wrapAsNoted ∈ Wall := in_wall (List.mem_of_getElem? (i := 362) (by decide +kernel)) rfl
theorem ws_V_wrapAsNoted : Jvm.Cond.selects R_V y_V_wrapAsNoted y_V_wrapAsNoted ∈ Wall := List.mem_filter.mpr ⟨List.mem_append_left _ (by decide +kernel), rfl⟩
set_option maxRecDepth 20000 in
theorem wi_V_wrap : Jvm.Cond.instanceMethod y_V_wrap ∈ Wall := in_wall (List.mem_of_getElem? (i := 282) (by decide +kernel)) rfl
theorem ws_V_wrap : Jvm.Cond.selects R_V y_V_wrap y_V_wrap ∈ Wall := List.mem_filter.mpr ⟨List.mem_append_left _ (by decide +kernel), rfl⟩
set_option maxRecDepth 20000 in
theorem wi_V_findWrapper : Jvm.Cond.instanceMethod y_V_findWrapper ∈ Wall := in_wall (List.mem_of_getElem? (i := 290) (by decide +kernel)) rfl
theorem ws_V_findWrapper : Jvm.Cond.selects R_V y_V_findWrapper y_V_findWrapper ∈ Wall := List.mem_filter.mpr ⟨List.mem_append_left _ (by decide +kernel), rfl⟩
set_option maxRecDepth 20000 in
theorem wi_V_makeWrapper : Jvm.Cond.instanceMethod y_V_makeWrapper ∈ Wall := in_wall (List.mem_of_getElem? (i := 298) (by decide +kernel)) rfl
theorem ws_V_makeWrapper : Jvm.Cond.selects R_V y_V_makeWrapper y_V_makeWrapper ∈ Wall := List.mem_filter.mpr ⟨List.mem_append_left _ (by decide +kernel), rfl⟩
set_option maxRecDepth 20000 in
theorem wi_V_answer : Jvm.Cond.instanceMethod y_V_answer ∈ Wall := in_wall (List.mem_of_getElem? (i := 310) (by decide +kernel)) rfl
theorem ws_V_answer : Jvm.Cond.selects R_V y_V_answer y_V_answer ∈ Wall := List.mem_filter.mpr ⟨List.mem_append_left _ (by decide +kernel), rfl⟩
set_option maxRecDepth 20000 in
theorem wi_V_answerOfCell : Jvm.Cond.instanceMethod y_V_answerOfCell ∈ Wall := in_wall (List.mem_of_getElem? (i := 314) (by decide +kernel)) rfl
theorem ws_V_answerOfCell : Jvm.Cond.selects R_V y_V_answerOfCell y_V_answerOfCell ∈ Wall := List.mem_filter.mpr ⟨List.mem_append_left _ (by decide +kernel), rfl⟩
set_option maxRecDepth 20000 in
theorem wi_V_answerOfRevocable : Jvm.Cond.instanceMethod y_V_answerOfRevocable ∈ Wall := in_wall (List.mem_of_getElem? (i := 322) (by decide +kernel)) rfl
theorem ws_V_answerOfRevocable : Jvm.Cond.selects R_V y_V_answerOfRevocable y_V_answerOfRevocable ∈ Wall := List.mem_filter.mpr ⟨List.mem_append_left _ (by decide +kernel), rfl⟩
set_option maxRecDepth 20000 in
theorem wi_V_answerOfBrand : Jvm.Cond.instanceMethod y_V_answerOfBrand ∈ Wall := in_wall (List.mem_of_getElem? (i := 329) (by decide +kernel)) rfl
theorem ws_V_answerOfBrand : Jvm.Cond.selects R_V y_V_answerOfBrand y_V_answerOfBrand ∈ Wall := List.mem_filter.mpr ⟨List.mem_append_left _ (by decide +kernel), rfl⟩
set_option maxRecDepth 20000 in
theorem wi_V_answerOfPurse : Jvm.Cond.instanceMethod y_V_answerOfPurse ∈ Wall := in_wall (List.mem_of_getElem? (i := 350) (by decide +kernel)) rfl
theorem ws_V_answerOfPurse : Jvm.Cond.selects R_V y_V_answerOfPurse y_V_answerOfPurse ∈ Wall := List.mem_filter.mpr ⟨List.mem_append_left _ (by decide +kernel), rfl⟩
set_option maxRecDepth 20000 in
theorem wi_V_deposit : Jvm.Cond.instanceMethod y_V_deposit ∈ Wall := in_wall (List.mem_of_getElem? (i := 354) (by decide +kernel)) rfl
theorem ws_V_deposit : Jvm.Cond.selects R_V y_V_deposit y_V_deposit ∈ Wall := List.mem_filter.mpr ⟨List.mem_append_left _ (by decide +kernel), rfl⟩
set_option maxRecDepth 20000 in
theorem wi_V_split : Jvm.Cond.instanceMethod y_V_split ∈ Wall := in_wall (List.mem_of_getElem? (i := 358) (by decide +kernel)) rfl
theorem ws_V_split : Jvm.Cond.selects R_V y_V_split y_V_split ∈ Wall := List.mem_filter.mpr ⟨List.mem_append_left _ (by decide +kernel), rfl⟩
set_option maxRecDepth 20000 in
theorem wi_V_unseal : Jvm.Cond.instanceMethod y_V_unseal ∈ Wall := in_wall (List.mem_of_getElem? (i := 337) (by decide +kernel)) rfl
theorem ws_V_unseal : Jvm.Cond.selects R_V y_V_unseal y_V_unseal ∈ Wall := List.mem_filter.mpr ⟨List.mem_append_left _ (by decide +kernel), rfl⟩
set_option maxRecDepth 20000 in
theorem wi_V_make : Jvm.Cond.instanceMethod y_V_make ∈ Wall := in_wall (List.mem_of_getElem? (i := 86) (by decide +kernel)) rfl
theorem ws_V_make : Jvm.Cond.selects R_V y_V_make y_V_make ∈ Wall := List.mem_filter.mpr ⟨List.mem_append_left _ (by decide +kernel), rfl⟩
set_option maxRecDepth 20000 in
theorem wi_V_makeGate : Jvm.Cond.instanceMethod y_V_makeGate ∈ Wall := in_wall (List.mem_of_getElem? (i := 318) (by decide +kernel)) rfl
theorem ws_V_makeGate : Jvm.Cond.selects R_V y_V_makeGate y_V_makeGate ∈ Wall := List.mem_filter.mpr ⟨List.mem_append_left _ (by decide +kernel), rfl⟩
set_option maxRecDepth 20000 in
theorem wi_V_makeBox : Jvm.Cond.instanceMethod y_V_makeBox ∈ Wall := in_wall (List.mem_of_getElem? (i := 333) (by decide +kernel)) rfl
theorem ws_V_makeBox : Jvm.Cond.selects R_V y_V_makeBox y_V_makeBox ∈ Wall := List.mem_filter.mpr ⟨List.mem_append_left _ (by decide +kernel), rfl⟩
set_option maxRecDepth 20000 in
theorem wi_V_makeMoney : Jvm.Cond.instanceMethod y_V_makeMoney ∈ Wall := in_wall (List.mem_of_getElem? (i := 341) (by decide +kernel)) rfl
theorem ws_V_makeMoney : Jvm.Cond.selects R_V y_V_makeMoney y_V_makeMoney ∈ Wall := List.mem_filter.mpr ⟨List.mem_append_left _ (by decide +kernel), rfl⟩
set_option maxRecDepth 20000 in
theorem wi_D_init : Jvm.Cond.instanceMethod y_D_init ∈ Wall := in_wall (List.mem_of_getElem? (i := 441) (by decide +kernel)) rfl
set_option maxRecDepth 20000 in
theorem wt_D_out : Jvm.Cond.static y_D_out ∈ Wall := in_wall (List.mem_of_getElem? (i := 539) (by decide +kernel)) rfl
set_option maxRecDepth 20000 in
theorem wi_D_hold : Jvm.Cond.instanceMethod y_D_hold ∈ Wall := in_wall (List.mem_of_getElem? (i := 575) (by decide +kernel)) rfl
theorem ws_D_hold : Jvm.Cond.selects R_D y_D_hold y_D_hold ∈ Wall := List.mem_filter.mpr ⟨List.mem_append_left _ (by decide +kernel), rfl⟩
set_option maxRecDepth 20000 in
theorem wi_D_look : Jvm.Cond.instanceMethod y_D_look ∈ Wall := in_wall (List.mem_of_getElem? (i := 571) (by decide +kernel)) rfl
theorem ws_D_look : Jvm.Cond.selects R_D y_D_look y_D_look ∈ Wall := List.mem_filter.mpr ⟨List.mem_append_left _ (by decide +kernel), rfl⟩
set_option maxRecDepth 20000 in
theorem wi_D_broken : Jvm.Cond.instanceMethod y_D_broken ∈ Wall := in_wall (List.mem_of_getElem? (i := 583) (by decide +kernel)) rfl
theorem ws_D_broken : Jvm.Cond.selects R_D y_D_broken y_D_broken ∈ Wall := List.mem_filter.mpr ⟨List.mem_append_left _ (by decide +kernel), rfl⟩
set_option maxRecDepth 20000 in
theorem wi_D_isObject : Jvm.Cond.instanceMethod y_D_isObject ∈ Wall := in_wall (List.mem_of_getElem? (i := 635) (by decide +kernel)) rfl
theorem ws_D_isObject : Jvm.Cond.selects R_D y_D_isObject y_D_isObject ∈ Wall := List.mem_filter.mpr ⟨List.mem_append_left _ (by decide +kernel), rfl⟩
set_option maxRecDepth 20000 in
theorem wi_D_make : Jvm.Cond.instanceMethod y_D_make ∈ Wall := in_wall (List.mem_of_getElem? (i := 543) (by decide +kernel)) rfl
theorem ws_D_make : Jvm.Cond.selects R_D y_D_make y_D_make ∈ Wall := List.mem_filter.mpr ⟨List.mem_append_left _ (by decide +kernel), rfl⟩
set_option maxRecDepth 20000 in
theorem wi_D_fresh : Jvm.Cond.instanceMethod y_D_fresh ∈ Wall := in_wall (List.mem_of_getElem? (i := 615) (by decide +kernel)) rfl
theorem ws_D_fresh : Jvm.Cond.selects R_D y_D_fresh y_D_fresh ∈ Wall := List.mem_filter.mpr ⟨List.mem_append_left _ (by decide +kernel), rfl⟩
set_option maxRecDepth 20000 in
theorem wi_D_stand : Jvm.Cond.instanceMethod y_D_stand ∈ Wall := in_wall (List.mem_of_getElem? (i := 579) (by decide +kernel)) rfl
theorem ws_D_stand : Jvm.Cond.selects R_D y_D_stand y_D_stand ∈ Wall := List.mem_filter.mpr ⟨List.mem_append_left _ (by decide +kernel), rfl⟩
set_option maxRecDepth 20000 in
theorem wi_D_nth : Jvm.Cond.instanceMethod y_D_nth ∈ Wall := in_wall (List.mem_of_getElem? (i := 599) (by decide +kernel)) rfl
theorem ws_D_nth : Jvm.Cond.selects R_D y_D_nth y_D_nth ∈ Wall := List.mem_filter.mpr ⟨List.mem_append_left _ (by decide +kernel), rfl⟩
set_option maxRecDepth 20000 in
theorem wi_D_count : Jvm.Cond.instanceMethod y_D_count ∈ Wall := in_wall (List.mem_of_getElem? (i := 700) (by decide +kernel)) rfl
theorem ws_D_count : Jvm.Cond.selects R_D y_D_count y_D_count ∈ Wall := List.mem_filter.mpr ⟨List.mem_append_left _ (by decide +kernel), rfl⟩
set_option maxRecDepth 20000 in
theorem wi_D_route : Jvm.Cond.instanceMethod y_D_route ∈ Wall := in_wall (List.mem_of_getElem? (i := 563) (by decide +kernel)) rfl
theorem ws_D_route : Jvm.Cond.selects R_D y_D_route y_D_route ∈ Wall := List.mem_filter.mpr ⟨List.mem_append_left _ (by decide +kernel), rfl⟩
set_option maxRecDepth 20000 in
theorem wi_D_direct : Jvm.Cond.instanceMethod y_D_direct ∈ Wall := in_wall (List.mem_of_getElem? (i := 567) (by decide +kernel)) rfl
theorem ws_D_direct : Jvm.Cond.selects R_D y_D_direct y_D_direct ∈ Wall := List.mem_filter.mpr ⟨List.mem_append_left _ (by decide +kernel), rfl⟩
set_option maxRecDepth 20000 in
theorem wi_D_released : Jvm.Cond.instanceMethod y_D_released ∈ Wall := in_wall (List.mem_of_getElem? (i := 591) (by decide +kernel)) rfl
theorem ws_D_released : Jvm.Cond.selects R_D y_D_released y_D_released ∈ Wall := List.mem_filter.mpr ⟨List.mem_append_left _ (by decide +kernel), rfl⟩
set_option maxRecDepth 20000 in
theorem wi_D_settle : Jvm.Cond.instanceMethod y_D_settle ∈ Wall := in_wall (List.mem_of_getElem? (i := 587) (by decide +kernel)) rfl
theorem ws_D_settle : Jvm.Cond.selects R_D y_D_settle y_D_settle ∈ Wall := List.mem_filter.mpr ⟨List.mem_append_left _ (by decide +kernel), rfl⟩
set_option maxRecDepth 20000 in
theorem wi_D_isSlot : Jvm.Cond.instanceMethod y_D_isSlot ∈ Wall := in_wall (List.mem_of_getElem? (i := 551) (by decide +kernel)) rfl
theorem ws_D_isSlot : Jvm.Cond.selects R_D y_D_isSlot y_D_isSlot ∈ Wall := List.mem_filter.mpr ⟨List.mem_append_left _ (by decide +kernel), rfl⟩
set_option maxRecDepth 20000 in
theorem wi_D_cell : Jvm.Cond.instanceMethod y_D_cell ∈ Wall := in_wall (List.mem_of_getElem? (i := 535) (by decide +kernel)) rfl
set_option maxRecDepth 20000 in
theorem ws_D_cell : Jvm.Cond.selects R_D y_D_cell y_D_cell ∈ Wall := in_wall (List.mem_of_getElem? (i := 536) (by decide +kernel)) rfl
set_option maxRecDepth 20000 in
theorem wi_D_number : Jvm.Cond.instanceMethod y_D_number ∈ Wall := in_wall (List.mem_of_getElem? (i := 546) (by decide +kernel)) rfl
set_option maxRecDepth 20000 in
theorem ws_D_number : Jvm.Cond.selects R_D y_D_number y_D_number ∈ Wall := in_wall (List.mem_of_getElem? (i := 547) (by decide +kernel)) rfl
set_option maxRecDepth 20000 in
theorem wi_D_introduce : Jvm.Cond.instanceMethod y_D_introduce ∈ Wall := in_wall (List.mem_of_getElem? (i := 554) (by decide +kernel)) rfl
set_option maxRecDepth 20000 in
theorem ws_D_introduce : Jvm.Cond.selects R_D y_D_introduce y_D_introduce ∈ Wall := in_wall (List.mem_of_getElem? (i := 555) (by decide +kernel)) rfl
set_option maxRecDepth 20000 in
theorem wi_D_send : Jvm.Cond.instanceMethod y_D_send ∈ Wall := in_wall (List.mem_of_getElem? (i := 558) (by decide +kernel)) rfl
set_option maxRecDepth 20000 in
theorem ws_D_send : Jvm.Cond.selects R_D y_D_send y_D_send ∈ Wall := in_wall (List.mem_of_getElem? (i := 559) (by decide +kernel)) rfl
set_option maxRecDepth 20000 in
theorem wi_D_turn : Jvm.Cond.instanceMethod y_D_turn ∈ Wall := in_wall (List.mem_of_getElem? (i := 594) (by decide +kernel)) rfl
set_option maxRecDepth 20000 in
theorem ws_D_turn : Jvm.Cond.selects R_D y_D_turn y_D_turn ∈ Wall := in_wall (List.mem_of_getElem? (i := 595) (by decide +kernel)) rfl
set_option maxRecDepth 20000 in
theorem wi_D_answers : Jvm.Cond.instanceMethod y_D_answers ∈ Wall := in_wall (List.mem_of_getElem? (i := 603) (by decide +kernel)) rfl
theorem ws_D_answers : Jvm.Cond.selects R_D y_D_answers y_D_answers ∈ Wall := List.mem_filter.mpr ⟨List.mem_append_left _ (by decide +kernel), rfl⟩
set_option maxRecDepth 20000 in
theorem wi_D_ofCell : Jvm.Cond.instanceMethod y_D_ofCell ∈ Wall := in_wall (List.mem_of_getElem? (i := 619) (by decide +kernel)) rfl
theorem ws_D_ofCell : Jvm.Cond.selects R_D y_D_ofCell y_D_ofCell ∈ Wall := List.mem_filter.mpr ⟨List.mem_append_left _ (by decide +kernel), rfl⟩
set_option maxRecDepth 20000 in
theorem wi_D_ofGuard : Jvm.Cond.instanceMethod y_D_ofGuard ∈ Wall := in_wall (List.mem_of_getElem? (i := 623) (by decide +kernel)) rfl
theorem ws_D_ofGuard : Jvm.Cond.selects R_D y_D_ofGuard y_D_ofGuard ∈ Wall := List.mem_filter.mpr ⟨List.mem_append_left _ (by decide +kernel), rfl⟩
set_option maxRecDepth 20000 in
theorem wi_D_ofSealer : Jvm.Cond.instanceMethod y_D_ofSealer ∈ Wall := in_wall (List.mem_of_getElem? (i := 627) (by decide +kernel)) rfl
theorem ws_D_ofSealer : Jvm.Cond.selects R_D y_D_ofSealer y_D_ofSealer ∈ Wall := List.mem_filter.mpr ⟨List.mem_append_left _ (by decide +kernel), rfl⟩
set_option maxRecDepth 20000 in
theorem wi_D_ofUnsealer : Jvm.Cond.instanceMethod y_D_ofUnsealer ∈ Wall := in_wall (List.mem_of_getElem? (i := 631) (by decide +kernel)) rfl
theorem ws_D_ofUnsealer : Jvm.Cond.selects R_D y_D_ofUnsealer y_D_ofUnsealer ∈ Wall := List.mem_filter.mpr ⟨List.mem_append_left _ (by decide +kernel), rfl⟩
set_option maxRecDepth 20000 in
theorem wi_D_ofMint : Jvm.Cond.instanceMethod y_D_ofMint ∈ Wall := in_wall (List.mem_of_getElem? (i := 639) (by decide +kernel)) rfl
theorem ws_D_ofMint : Jvm.Cond.selects R_D y_D_ofMint y_D_ofMint ∈ Wall := List.mem_filter.mpr ⟨List.mem_append_left _ (by decide +kernel), rfl⟩
set_option maxRecDepth 20000 in
theorem wi_D_ofPurse : Jvm.Cond.instanceMethod y_D_ofPurse ∈ Wall := in_wall (List.mem_of_getElem? (i := 644) (by decide +kernel)) rfl
theorem ws_D_ofPurse : Jvm.Cond.selects R_D y_D_ofPurse y_D_ofPurse ∈ Wall := List.mem_filter.mpr ⟨List.mem_append_left _ (by decide +kernel), rfl⟩
set_option maxRecDepth 20000 in
theorem wi_D_relays : Jvm.Cond.instanceMethod y_D_relays ∈ Wall := in_wall (List.mem_of_getElem? (i := 607) (by decide +kernel)) rfl
theorem ws_D_relays : Jvm.Cond.selects R_D y_D_relays y_D_relays ∈ Wall := List.mem_filter.mpr ⟨List.mem_append_left _ (by decide +kernel), rfl⟩
set_option maxRecDepth 20000 in
theorem wi_D_wrap : Jvm.Cond.instanceMethod y_D_wrap ∈ Wall := in_wall (List.mem_of_getElem? (i := 611) (by decide +kernel)) rfl
theorem ws_D_wrap : Jvm.Cond.selects R_D y_D_wrap y_D_wrap ∈ Wall := List.mem_filter.mpr ⟨List.mem_append_left _ (by decide +kernel), rfl⟩
set_option maxRecDepth 20000 in
theorem wi_D_asNoted : Jvm.Cond.instanceMethod y_D_asNoted ∈ Wall := in_wall (List.mem_of_getElem? (i := 648) (by decide +kernel)) rfl
theorem ws_D_asNoted : Jvm.Cond.selects R_D y_D_asNoted y_D_asNoted ∈ Wall := List.mem_filter.mpr ⟨List.mem_append_left _ (by decide +kernel), rfl⟩
set_option maxRecDepth 20000 in
theorem wi_D_objects : Jvm.Cond.instanceMethod y_D_objects ∈ Wall := in_wall (List.mem_of_getElem? (i := 651) (by decide +kernel)) rfl
set_option maxRecDepth 20000 in
theorem ws_D_objects : Jvm.Cond.selects R_D y_D_objects y_D_objects ∈ Wall := in_wall (List.mem_of_getElem? (i := 652) (by decide +kernel)) rfl
set_option maxRecDepth 20000 in
theorem wi_D_kind : Jvm.Cond.instanceMethod y_D_kind ∈ Wall := in_wall (List.mem_of_getElem? (i := 655) (by decide +kernel)) rfl
set_option maxRecDepth 20000 in
theorem ws_D_kind : Jvm.Cond.selects R_D y_D_kind y_D_kind ∈ Wall := in_wall (List.mem_of_getElem? (i := 656) (by decide +kernel)) rfl
set_option maxRecDepth 20000 in
theorem wi_D_home : Jvm.Cond.instanceMethod y_D_home ∈ Wall := in_wall (List.mem_of_getElem? (i := 659) (by decide +kernel)) rfl
set_option maxRecDepth 20000 in
theorem ws_D_home : Jvm.Cond.selects R_D y_D_home y_D_home ∈ Wall := in_wall (List.mem_of_getElem? (i := 660) (by decide +kernel)) rfl
set_option maxRecDepth 20000 in
theorem wi_D_seen : Jvm.Cond.instanceMethod y_D_seen ∈ Wall := in_wall (List.mem_of_getElem? (i := 668) (by decide +kernel)) rfl
theorem ws_D_seen : Jvm.Cond.selects R_D y_D_seen y_D_seen ∈ Wall := List.mem_filter.mpr ⟨List.mem_append_left _ (by decide +kernel), rfl⟩
set_option maxRecDepth 20000 in
theorem wi_D_what : Jvm.Cond.instanceMethod y_D_what ∈ Wall := in_wall (List.mem_of_getElem? (i := 663) (by decide +kernel)) rfl
set_option maxRecDepth 20000 in
theorem ws_D_what : Jvm.Cond.selects R_D y_D_what y_D_what ∈ Wall := in_wall (List.mem_of_getElem? (i := 664) (by decide +kernel)) rfl
set_option maxRecDepth 20000 in
theorem wi_D_which : Jvm.Cond.instanceMethod y_D_which ∈ Wall := in_wall (List.mem_of_getElem? (i := 671) (by decide +kernel)) rfl
set_option maxRecDepth 20000 in
theorem ws_D_which : Jvm.Cond.selects R_D y_D_which y_D_which ∈ Wall := in_wall (List.mem_of_getElem? (i := 672) (by decide +kernel)) rfl
set_option maxRecDepth 20000 in
theorem wi_D_detail : Jvm.Cond.instanceMethod y_D_detail ∈ Wall := in_wall (List.mem_of_getElem? (i := 675) (by decide +kernel)) rfl
set_option maxRecDepth 20000 in
theorem ws_D_detail : Jvm.Cond.selects R_D y_D_detail y_D_detail ∈ Wall := in_wall (List.mem_of_getElem? (i := 676) (by decide +kernel)) rfl
set_option maxRecDepth 20000 in
theorem wi_D_messages : Jvm.Cond.instanceMethod y_D_messages ∈ Wall := in_wall (List.mem_of_getElem? (i := 679) (by decide +kernel)) rfl
set_option maxRecDepth 20000 in
theorem ws_D_messages : Jvm.Cond.selects R_D y_D_messages y_D_messages ∈ Wall := in_wall (List.mem_of_getElem? (i := 680) (by decide +kernel)) rfl
set_option maxRecDepth 20000 in
theorem wi_D_place : Jvm.Cond.instanceMethod y_D_place ∈ Wall := in_wall (List.mem_of_getElem? (i := 683) (by decide +kernel)) rfl
set_option maxRecDepth 20000 in
theorem ws_D_place : Jvm.Cond.selects R_D y_D_place y_D_place ∈ Wall := in_wall (List.mem_of_getElem? (i := 684) (by decide +kernel)) rfl
set_option maxRecDepth 20000 in
theorem wi_D_result : Jvm.Cond.instanceMethod y_D_result ∈ Wall := in_wall (List.mem_of_getElem? (i := 687) (by decide +kernel)) rfl
set_option maxRecDepth 20000 in
theorem ws_D_result : Jvm.Cond.selects R_D y_D_result y_D_result ∈ Wall := in_wall (List.mem_of_getElem? (i := 688) (by decide +kernel)) rfl
set_option maxRecDepth 20000 in
theorem wi_D_value : Jvm.Cond.instanceMethod y_D_value ∈ Wall := in_wall (List.mem_of_getElem? (i := 691) (by decide +kernel)) rfl
set_option maxRecDepth 20000 in
theorem ws_D_value : Jvm.Cond.selects R_D y_D_value y_D_value ∈ Wall := in_wall (List.mem_of_getElem? (i := 692) (by decide +kernel)) rfl
set_option maxRecDepth 20000 in
theorem wi_D_queued : Jvm.Cond.instanceMethod y_D_queued ∈ Wall := in_wall (List.mem_of_getElem? (i := 695) (by decide +kernel)) rfl
set_option maxRecDepth 20000 in
theorem ws_D_queued : Jvm.Cond.selects R_D y_D_queued y_D_queued ∈ Wall := in_wall (List.mem_of_getElem? (i := 696) (by decide +kernel)) rfl
set_option maxRecDepth 20000 in
theorem wi_D_next : Jvm.Cond.instanceMethod y_D_next ∈ Wall := in_wall (List.mem_of_getElem? (i := 703) (by decide +kernel)) rfl
set_option maxRecDepth 20000 in
theorem ws_D_next : Jvm.Cond.selects R_D y_D_next y_D_next ∈ Wall := in_wall (List.mem_of_getElem? (i := 704) (by decide +kernel)) rfl
set_option maxRecDepth 20000 in
theorem wi_D_waiting : Jvm.Cond.instanceMethod y_D_waiting ∈ Wall := in_wall (List.mem_of_getElem? (i := 707) (by decide +kernel)) rfl
set_option maxRecDepth 20000 in
theorem ws_D_waiting : Jvm.Cond.selects R_D y_D_waiting y_D_waiting ∈ Wall := in_wall (List.mem_of_getElem? (i := 708) (by decide +kernel)) rfl
set_option maxRecDepth 20000 in
theorem wi_D_notes : Jvm.Cond.instanceMethod y_D_notes ∈ Wall := in_wall (List.mem_of_getElem? (i := 711) (by decide +kernel)) rfl
set_option maxRecDepth 20000 in
theorem ws_D_notes : Jvm.Cond.selects R_D y_D_notes y_D_notes ∈ Wall := in_wall (List.mem_of_getElem? (i := 712) (by decide +kernel)) rfl
set_option maxRecDepth 20000 in
theorem wi_L_init : Jvm.Cond.instanceMethod y_L_init ∈ Wall := in_wall (List.mem_of_getElem? (i := 38) (by decide +kernel)) rfl
set_option maxRecDepth 20000 in
theorem wi_L_join : Jvm.Cond.instanceMethod y_L_join ∈ Wall := in_wall (List.mem_of_getElem? (i := 220) (by decide +kernel)) rfl
set_option maxRecDepth 20000 in
theorem ws_L_join : Jvm.Cond.selects R_L y_L_join y_L_join ∈ Wall := in_wall (List.mem_of_getElem? (i := 221) (by decide +kernel)) rfl
set_option maxRecDepth 20000 in
theorem wi_L_take : Jvm.Cond.instanceMethod y_L_take ∈ Wall := in_wall (List.mem_of_getElem? (i := 228) (by decide +kernel)) rfl
set_option maxRecDepth 20000 in
theorem ws_L_take : Jvm.Cond.selects R_L y_L_take y_L_take ∈ Wall := in_wall (List.mem_of_getElem? (i := 229) (by decide +kernel)) rfl
set_option maxRecDepth 20000 in
theorem wi_L_takeOver : Jvm.Cond.instanceMethod y_L_takeOver ∈ Wall := in_wall (List.mem_of_getElem? (i := 260) (by decide +kernel)) rfl
set_option maxRecDepth 20000 in
theorem ws_L_takeOver : Jvm.Cond.selects R_L y_L_takeOver y_L_takeOver ∈ Wall := in_wall (List.mem_of_getElem? (i := 261) (by decide +kernel)) rfl
set_option maxRecDepth 20000 in
theorem wi_L_withBefore : Jvm.Cond.instanceMethod y_L_withBefore ∈ Wall := in_wall (List.mem_of_getElem? (i := 427) (by decide +kernel)) rfl
set_option maxRecDepth 20000 in
theorem ws_L_withBefore : Jvm.Cond.selects R_L y_L_withBefore y_L_withBefore ∈ Wall := in_wall (List.mem_of_getElem? (i := 428) (by decide +kernel)) rfl
set_option maxRecDepth 20000 in
theorem wi_M_init : Jvm.Cond.instanceMethod y_M_init ∈ Wall := in_wall (List.mem_of_getElem? (i := 169) (by decide +kernel)) rfl
set_option maxRecDepth 20000 in
theorem wi_M_noteDown : Jvm.Cond.instanceMethod y_M_noteDown ∈ Wall := in_wall (List.mem_of_getElem? (i := 305) (by decide +kernel)) rfl
set_option maxRecDepth 20000 in
theorem ws_M_noteDown : Jvm.Cond.selects R_M y_M_noteDown y_M_noteDown ∈ Wall := in_wall (List.mem_of_getElem? (i := 306) (by decide +kernel)) rfl
set_option maxRecDepth 20000 in
theorem wi_R_init : Jvm.Cond.instanceMethod y_R_init ∈ Wall := in_wall (List.mem_of_getElem? (i := 18) (by decide +kernel)) rfl
set_option maxRecDepth 20000 in
theorem wi_R_isSame : Jvm.Cond.instanceMethod y_R_isSame ∈ Wall := in_wall (List.mem_of_getElem? (i := 293) (by decide +kernel)) rfl
set_option maxRecDepth 20000 in
theorem ws_R_isSame : Jvm.Cond.selects R_R y_R_isSame y_R_isSame ∈ Wall := in_wall (List.mem_of_getElem? (i := 294) (by decide +kernel)) rfl
set_option maxRecDepth 20000 in
theorem wi_H_init : Jvm.Cond.instanceMethod y_H_init ∈ Wall := in_wall (List.mem_of_getElem? (i := 90) (by decide +kernel)) rfl
set_option maxRecDepth 20000 in
theorem wi_H_holdsOne : Jvm.Cond.instanceMethod y_H_holdsOne ∈ Wall := in_wall (List.mem_of_getElem? (i := 385) (by decide +kernel)) rfl
set_option maxRecDepth 20000 in
theorem ws_H_holdsOne : Jvm.Cond.selects R_H y_H_holdsOne y_H_holdsOne ∈ Wall := in_wall (List.mem_of_getElem? (i := 386) (by decide +kernel)) rfl
set_option maxRecDepth 20000 in
theorem wi_H_isCutOff : Jvm.Cond.instanceMethod y_H_isCutOff ∈ Wall := in_wall (List.mem_of_getElem? (i := 273) (by decide +kernel)) rfl
set_option maxRecDepth 20000 in
theorem ws_H_isCutOff : Jvm.Cond.selects R_H y_H_isCutOff y_H_isCutOff ∈ Wall := in_wall (List.mem_of_getElem? (i := 274) (by decide +kernel)) rfl
set_option maxRecDepth 20000 in
theorem wi_O_init : Jvm.Cond.instanceMethod objectInit ∈ Wall := in_wall (List.mem_of_getElem? (i := 13) (by decide +kernel)) rfl
set_option maxRecDepth 20000 in
theorem wc_O_init : Jvm.Cond.code objectInit ⟨#[0xb1]⟩ 1 none ∈ Wall := in_wall (List.mem_of_getElem? (i := 14) rfl) rfl
set_option maxRecDepth 20000 in
theorem wn_V : Jvm.Cond.initialized R_V ∈ Wall := in_wall (List.mem_of_getElem? (i := 1) (by decide +kernel)) rfl
set_option maxRecDepth 20000 in
theorem wn_R : Jvm.Cond.initialized R_R ∈ Wall := in_wall (List.mem_of_getElem? (i := 2) (by decide +kernel)) rfl
set_option maxRecDepth 20000 in
theorem wn_H : Jvm.Cond.initialized R_H ∈ Wall := in_wall (List.mem_of_getElem? (i := 5) (by decide +kernel)) rfl
set_option maxRecDepth 20000 in
theorem wn_M : Jvm.Cond.initialized R_M ∈ Wall := in_wall (List.mem_of_getElem? (i := 6) (by decide +kernel)) rfl
set_option maxRecDepth 20000 in
theorem wn_L : Jvm.Cond.initialized R_L ∈ Wall := in_wall (List.mem_of_getElem? (i := 3) (by decide +kernel)) rfl
set_option maxRecDepth 20000 in
theorem wn_D : Jvm.Cond.initialized R_D ∈ Wall := in_wall (List.mem_of_getElem? (i := 4) (by decide +kernel)) rfl
set_option maxRecDepth 20000 in
theorem wn_W : Jvm.Cond.initialized R_W ∈ Wall := in_wall (List.mem_of_getElem? (i := 0) (by decide +kernel)) rfl
set_option maxRecDepth 20000 in
theorem wb_V : Jvm.Cond.instantiable R_V 8 ∈ Wall := in_wall (List.mem_of_getElem? (i := 8) (by decide +kernel)) rfl
set_option maxRecDepth 20000 in
theorem wb_R : Jvm.Cond.instantiable R_R 2 ∈ Wall := in_wall (List.mem_of_getElem? (i := 16) (by decide +kernel)) rfl
set_option maxRecDepth 20000 in
theorem wb_H : Jvm.Cond.instantiable R_H 11 ∈ Wall := in_wall (List.mem_of_getElem? (i := 88) (by decide +kernel)) rfl
set_option maxRecDepth 20000 in
theorem wb_M : Jvm.Cond.instantiable R_M 11 ∈ Wall := in_wall (List.mem_of_getElem? (i := 167) (by decide +kernel)) rfl
set_option maxRecDepth 20000 in
theorem wb_L : Jvm.Cond.instantiable R_L 3 ∈ Wall := in_wall (List.mem_of_getElem? (i := 36) (by decide +kernel)) rfl
set_option maxRecDepth 20000 in
theorem wb_D : Jvm.Cond.instantiable R_D 29 ∈ Wall := in_wall (List.mem_of_getElem? (i := 439) (by decide +kernel)) rfl
set_option maxRecDepth 20000 in
theorem wa_int : Jvm.Cond.arrayClass .int ∈ Wall := in_wall (List.mem_of_getElem? (i := 532) (by decide +kernel)) rfl
set_option maxRecDepth 20000 in
theorem wa_bool : Jvm.Cond.arrayClass .boolean ∈ Wall := in_wall (List.mem_of_getElem? (i := 533) (by decide +kernel)) rfl
set_option maxRecDepth 20000 in
theorem wv_V_300 : Jvm.Cond.constant R_V 300 1000000 ∈ Wall := in_wall (List.mem_of_getElem? (i := 343) (by decide +kernel)) rfl
set_option maxRecDepth 20000 in
theorem wv_D_178 : Jvm.Cond.constant R_D 178 1000001 ∈ Wall := in_wall (List.mem_of_getElem? (i := 641) (by decide +kernel)) rfl
