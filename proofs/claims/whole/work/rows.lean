section
-- ===== PART A: goes FIRST, ahead of the names: the tables' words, and 'selects' of the private methods out of them =====
/-- a private method of a class that the tables say can be made, by its rows of tables_1 -/
def lw_okq (q : MethodName × Nat) : Prop := (q.1.cls ≠ "java/lang/invoke/MethodHandle" ∧ q.1.cls ≠ "java/lang/invoke/VarHandle") ∧ Cond.instantiable q.1.cls q.2 ∈ tables_1 ∧ Cond.privateMethod q.1 ∈ tables_1 ∧ Cond.instanceMethod q.1 ∈ tables_1
theorem lw_p0 : lw_okq (⟨"ClipHibernation$Text", "addSigns", "(Ljava/lang/String;)V"⟩, 7) := ⟨⟨by decide +kernel, by decide +kernel⟩, List.mem_of_getElem? (i := 123) (by decide +kernel), List.mem_of_getElem? (i := 200) (by decide +kernel), List.mem_of_getElem? (i := 201) (by decide +kernel)⟩
theorem lw_p1 : lw_okq (⟨"ClipHibernation$Text", "add", "(I)V"⟩, 7) := ⟨⟨by decide +kernel, by decide +kernel⟩, List.mem_of_getElem? (i := 123) (by decide +kernel), List.mem_of_getElem? (i := 252) (by decide +kernel), List.mem_of_getElem? (i := 253) (by decide +kernel)⟩
theorem lw_p2 : lw_okq (⟨"ClipHibernation$Script", "run", "()V"⟩, 11) := ⟨⟨by decide +kernel, by decide +kernel⟩, List.mem_of_getElem? (i := 115) (by decide +kernel), List.mem_of_getElem? (i := 256) (by decide +kernel), List.mem_of_getElem? (i := 257) (by decide +kernel)⟩
theorem lw_p3 : lw_okq (⟨"ClipHibernation$Script", "begin", "()V"⟩, 11) := ⟨⟨by decide +kernel, by decide +kernel⟩, List.mem_of_getElem? (i := 115) (by decide +kernel), List.mem_of_getElem? (i := 260) (by decide +kernel), List.mem_of_getElem? (i := 261) (by decide +kernel)⟩
theorem lw_p4 : lw_okq (⟨"ClipHibernation$Archive", "empty", "()V"⟩, 18) := ⟨⟨by decide +kernel, by decide +kernel⟩, List.mem_of_getElem? (i := 33) (by decide +kernel), List.mem_of_getElem? (i := 264) (by decide +kernel), List.mem_of_getElem? (i := 265) (by decide +kernel)⟩
theorem lw_p5 : lw_okq (⟨"ClipHibernation$Script", "expect", "(LClipHibernation$Token;)V"⟩, 11) := ⟨⟨by decide +kernel, by decide +kernel⟩, List.mem_of_getElem? (i := 115) (by decide +kernel), List.mem_of_getElem? (i := 270) (by decide +kernel), List.mem_of_getElem? (i := 271) (by decide +kernel)⟩
theorem lw_p6 : lw_okq (⟨"ClipHibernation$Text", "readToken", "()V"⟩, 7) := ⟨⟨by decide +kernel, by decide +kernel⟩, List.mem_of_getElem? (i := 123) (by decide +kernel), List.mem_of_getElem? (i := 274) (by decide +kernel), List.mem_of_getElem? (i := 275) (by decide +kernel)⟩
theorem lw_p7 : lw_okq (⟨"ClipHibernation$Text", "readWord", "()V"⟩, 7) := ⟨⟨by decide +kernel, by decide +kernel⟩, List.mem_of_getElem? (i := 123) (by decide +kernel), List.mem_of_getElem? (i := 278) (by decide +kernel), List.mem_of_getElem? (i := 279) (by decide +kernel)⟩
theorem lw_p8 : lw_okq (⟨"ClipHibernation$Text", "readNumber", "()V"⟩, 7) := ⟨⟨by decide +kernel, by decide +kernel⟩, List.mem_of_getElem? (i := 123) (by decide +kernel), List.mem_of_getElem? (i := 283) (by decide +kernel), List.mem_of_getElem? (i := 284) (by decide +kernel)⟩
theorem lw_p9 : lw_okq (⟨"ClipHibernation$Script", "fail", "(I)V"⟩, 11) := ⟨⟨by decide +kernel, by decide +kernel⟩, List.mem_of_getElem? (i := 115) (by decide +kernel), List.mem_of_getElem? (i := 300) (by decide +kernel), List.mem_of_getElem? (i := 301) (by decide +kernel)⟩
theorem lw_p10 : lw_okq (⟨"ClipHibernation$Text", "isWord", "(Ljava/lang/String;)Z"⟩, 7) := ⟨⟨by decide +kernel, by decide +kernel⟩, List.mem_of_getElem? (i := 123) (by decide +kernel), List.mem_of_getElem? (i := 305) (by decide +kernel), List.mem_of_getElem? (i := 306) (by decide +kernel)⟩
theorem lw_p11 : lw_okq (⟨"ClipHibernation$Script", "endRound", "()V"⟩, 11) := ⟨⟨by decide +kernel, by decide +kernel⟩, List.mem_of_getElem? (i := 115) (by decide +kernel), List.mem_of_getElem? (i := 313) (by decide +kernel), List.mem_of_getElem? (i := 314) (by decide +kernel)⟩
theorem lw_p12 : lw_okq (⟨"ClipHibernation$Script", "runCommand", "()V"⟩, 11) := ⟨⟨by decide +kernel, by decide +kernel⟩, List.mem_of_getElem? (i := 115) (by decide +kernel), List.mem_of_getElem? (i := 317) (by decide +kernel), List.mem_of_getElem? (i := 318) (by decide +kernel)⟩
theorem lw_p13 : lw_okq (⟨"ClipHibernation$Script", "presentCommand", "()LClipHibernation$Command;"⟩, 11) := ⟨⟨by decide +kernel, by decide +kernel⟩, List.mem_of_getElem? (i := 115) (by decide +kernel), List.mem_of_getElem? (i := 321) (by decide +kernel), List.mem_of_getElem? (i := 322) (by decide +kernel)⟩
theorem lw_p14 : lw_okq (⟨"ClipHibernation$Script", "beginRepeat", "()V"⟩, 11) := ⟨⟨by decide +kernel, by decide +kernel⟩, List.mem_of_getElem? (i := 115) (by decide +kernel), List.mem_of_getElem? (i := 329) (by decide +kernel), List.mem_of_getElem? (i := 330) (by decide +kernel)⟩
theorem lw_p15 : lw_okq (⟨"ClipHibernation$Script", "number", "(II)I"⟩, 11) := ⟨⟨by decide +kernel, by decide +kernel⟩, List.mem_of_getElem? (i := 115) (by decide +kernel), List.mem_of_getElem? (i := 333) (by decide +kernel), List.mem_of_getElem? (i := 334) (by decide +kernel)⟩
def lw_privs_1 : List (MethodName × Nat) := [(⟨"ClipHibernation$Text", "addSigns", "(Ljava/lang/String;)V"⟩, 7), (⟨"ClipHibernation$Text", "add", "(I)V"⟩, 7), (⟨"ClipHibernation$Script", "run", "()V"⟩, 11), (⟨"ClipHibernation$Script", "begin", "()V"⟩, 11), (⟨"ClipHibernation$Archive", "empty", "()V"⟩, 18), (⟨"ClipHibernation$Script", "expect", "(LClipHibernation$Token;)V"⟩, 11), (⟨"ClipHibernation$Text", "readToken", "()V"⟩, 7), (⟨"ClipHibernation$Text", "readWord", "()V"⟩, 7), (⟨"ClipHibernation$Text", "readNumber", "()V"⟩, 7), (⟨"ClipHibernation$Script", "fail", "(I)V"⟩, 11), (⟨"ClipHibernation$Text", "isWord", "(Ljava/lang/String;)Z"⟩, 7), (⟨"ClipHibernation$Script", "endRound", "()V"⟩, 11), (⟨"ClipHibernation$Script", "runCommand", "()V"⟩, 11), (⟨"ClipHibernation$Script", "presentCommand", "()LClipHibernation$Command;"⟩, 11), (⟨"ClipHibernation$Script", "beginRepeat", "()V"⟩, 11), (⟨"ClipHibernation$Script", "number", "(II)I"⟩, 11)]
theorem lw_r1 : ∀ q ∈ lw_privs_1, lw_okq q := List.forall_mem_cons.mpr ⟨lw_p0, List.forall_mem_cons.mpr ⟨lw_p1, List.forall_mem_cons.mpr ⟨lw_p2, List.forall_mem_cons.mpr ⟨lw_p3, List.forall_mem_cons.mpr ⟨lw_p4, List.forall_mem_cons.mpr ⟨lw_p5, List.forall_mem_cons.mpr ⟨lw_p6, List.forall_mem_cons.mpr ⟨lw_p7, List.forall_mem_cons.mpr ⟨lw_p8, List.forall_mem_cons.mpr ⟨lw_p9, List.forall_mem_cons.mpr ⟨lw_p10, List.forall_mem_cons.mpr ⟨lw_p11, List.forall_mem_cons.mpr ⟨lw_p12, List.forall_mem_cons.mpr ⟨lw_p13, List.forall_mem_cons.mpr ⟨lw_p14, List.forall_mem_cons.mpr ⟨lw_p15, fun _ h => absurd h List.not_mem_nil⟩⟩⟩⟩⟩⟩⟩⟩⟩⟩⟩⟩⟩⟩⟩⟩
theorem lw_p16 : lw_okq (⟨"ClipHibernation$Script", "readNumbers", "(LClipHibernation$Command;)V"⟩, 11) := ⟨⟨by decide +kernel, by decide +kernel⟩, List.mem_of_getElem? (i := 115) (by decide +kernel), List.mem_of_getElem? (i := 339) (by decide +kernel), List.mem_of_getElem? (i := 340) (by decide +kernel)⟩
theorem lw_p17 : lw_okq (⟨"ClipHibernation$Script", "coloursNumber", "()I"⟩, 11) := ⟨⟨by decide +kernel, by decide +kernel⟩, List.mem_of_getElem? (i := 115) (by decide +kernel), List.mem_of_getElem? (i := 351) (by decide +kernel), List.mem_of_getElem? (i := 352) (by decide +kernel)⟩
theorem lw_p18 : lw_okq (⟨"ClipHibernation$Script", "isRefused", "(LClipHibernation$Command;)Z"⟩, 11) := ⟨⟨by decide +kernel, by decide +kernel⟩, List.mem_of_getElem? (i := 115) (by decide +kernel), List.mem_of_getElem? (i := 355) (by decide +kernel), List.mem_of_getElem? (i := 356) (by decide +kernel)⟩
theorem lw_p19 : lw_okq (⟨"ClipHibernation$Archive", "hasRoomForClip", "()Z"⟩, 18) := ⟨⟨by decide +kernel, by decide +kernel⟩, List.mem_of_getElem? (i := 33) (by decide +kernel), List.mem_of_getElem? (i := 359) (by decide +kernel), List.mem_of_getElem? (i := 360) (by decide +kernel)⟩
theorem lw_p20 : lw_okq (⟨"ClipHibernation$Archive", "hasRoomForReel", "()Z"⟩, 18) := ⟨⟨by decide +kernel, by decide +kernel⟩, List.mem_of_getElem? (i := 33) (by decide +kernel), List.mem_of_getElem? (i := 363) (by decide +kernel), List.mem_of_getElem? (i := 364) (by decide +kernel)⟩
theorem lw_p21 : lw_okq (⟨"ClipHibernation$Archive", "hasRoomForScene", "()Z"⟩, 18) := ⟨⟨by decide +kernel, by decide +kernel⟩, List.mem_of_getElem? (i := 33) (by decide +kernel), List.mem_of_getElem? (i := 367) (by decide +kernel), List.mem_of_getElem? (i := 368) (by decide +kernel)⟩
theorem lw_p22 : lw_okq (⟨"ClipHibernation$Archive", "refusal", "(II)I"⟩, 18) := ⟨⟨by decide +kernel, by decide +kernel⟩, List.mem_of_getElem? (i := 33) (by decide +kernel), List.mem_of_getElem? (i := 371) (by decide +kernel), List.mem_of_getElem? (i := 372) (by decide +kernel)⟩
theorem lw_p23 : lw_okq (⟨"ClipHibernation$Archive", "passedBeds", "(II)I"⟩, 18) := ⟨⟨by decide +kernel, by decide +kernel⟩, List.mem_of_getElem? (i := 33) (by decide +kernel), List.mem_of_getElem? (i := 375) (by decide +kernel), List.mem_of_getElem? (i := 376) (by decide +kernel)⟩
theorem lw_p24 : lw_okq (⟨"ClipHibernation$Archive", "wayBed", "(III)I"⟩, 18) := ⟨⟨by decide +kernel, by decide +kernel⟩, List.mem_of_getElem? (i := 33) (by decide +kernel), List.mem_of_getElem? (i := 379) (by decide +kernel), List.mem_of_getElem? (i := 380) (by decide +kernel)⟩
theorem lw_p25 : lw_okq (⟨"ClipHibernation$Archive", "inBed", "(II)I"⟩, 18) := ⟨⟨by decide +kernel, by decide +kernel⟩, List.mem_of_getElem? (i := 33) (by decide +kernel), List.mem_of_getElem? (i := 383) (by decide +kernel), List.mem_of_getElem? (i := 384) (by decide +kernel)⟩
theorem lw_p26 : lw_okq (⟨"ClipHibernation$Archive", "mayFeed", "(II)Z"⟩, 18) := ⟨⟨by decide +kernel, by decide +kernel⟩, List.mem_of_getElem? (i := 33) (by decide +kernel), List.mem_of_getElem? (i := 387) (by decide +kernel), List.mem_of_getElem? (i := 388) (by decide +kernel)⟩
theorem lw_p27 : lw_okq (⟨"ClipHibernation$Archive", "mayStore", "(I)Z"⟩, 18) := ⟨⟨by decide +kernel, by decide +kernel⟩, List.mem_of_getElem? (i := 33) (by decide +kernel), List.mem_of_getElem? (i := 391) (by decide +kernel), List.mem_of_getElem? (i := 392) (by decide +kernel)⟩
theorem lw_p28 : lw_okq (⟨"ClipHibernation$Archive", "mayPass", "(I)Z"⟩, 18) := ⟨⟨by decide +kernel, by decide +kernel⟩, List.mem_of_getElem? (i := 33) (by decide +kernel), List.mem_of_getElem? (i := 395) (by decide +kernel), List.mem_of_getElem? (i := 396) (by decide +kernel)⟩
theorem lw_p29 : lw_okq (⟨"ClipHibernation$Script", "carryOut", "(LClipHibernation$Command;)V"⟩, 11) := ⟨⟨by decide +kernel, by decide +kernel⟩, List.mem_of_getElem? (i := 115) (by decide +kernel), List.mem_of_getElem? (i := 399) (by decide +kernel), List.mem_of_getElem? (i := 400) (by decide +kernel)⟩
theorem lw_p30 : lw_okq (⟨"ClipHibernation$Archive", "putClip", "(I)I"⟩, 18) := ⟨⟨by decide +kernel, by decide +kernel⟩, List.mem_of_getElem? (i := 33) (by decide +kernel), List.mem_of_getElem? (i := 403) (by decide +kernel), List.mem_of_getElem? (i := 404) (by decide +kernel)⟩
theorem lw_p31 : lw_okq (⟨"ClipHibernation$Archive", "renewHash", "(I)V"⟩, 18) := ⟨⟨by decide +kernel, by decide +kernel⟩, List.mem_of_getElem? (i := 33) (by decide +kernel), List.mem_of_getElem? (i := 410) (by decide +kernel), List.mem_of_getElem? (i := 411) (by decide +kernel)⟩
def lw_privs_2 : List (MethodName × Nat) := [(⟨"ClipHibernation$Script", "readNumbers", "(LClipHibernation$Command;)V"⟩, 11), (⟨"ClipHibernation$Script", "coloursNumber", "()I"⟩, 11), (⟨"ClipHibernation$Script", "isRefused", "(LClipHibernation$Command;)Z"⟩, 11), (⟨"ClipHibernation$Archive", "hasRoomForClip", "()Z"⟩, 18), (⟨"ClipHibernation$Archive", "hasRoomForReel", "()Z"⟩, 18), (⟨"ClipHibernation$Archive", "hasRoomForScene", "()Z"⟩, 18), (⟨"ClipHibernation$Archive", "refusal", "(II)I"⟩, 18), (⟨"ClipHibernation$Archive", "passedBeds", "(II)I"⟩, 18), (⟨"ClipHibernation$Archive", "wayBed", "(III)I"⟩, 18), (⟨"ClipHibernation$Archive", "inBed", "(II)I"⟩, 18), (⟨"ClipHibernation$Archive", "mayFeed", "(II)Z"⟩, 18), (⟨"ClipHibernation$Archive", "mayStore", "(I)Z"⟩, 18), (⟨"ClipHibernation$Archive", "mayPass", "(I)Z"⟩, 18), (⟨"ClipHibernation$Script", "carryOut", "(LClipHibernation$Command;)V"⟩, 11), (⟨"ClipHibernation$Archive", "putClip", "(I)I"⟩, 18), (⟨"ClipHibernation$Archive", "renewHash", "(I)V"⟩, 18)]
theorem lw_r2 : ∀ q ∈ lw_privs_2, lw_okq q := List.forall_mem_cons.mpr ⟨lw_p16, List.forall_mem_cons.mpr ⟨lw_p17, List.forall_mem_cons.mpr ⟨lw_p18, List.forall_mem_cons.mpr ⟨lw_p19, List.forall_mem_cons.mpr ⟨lw_p20, List.forall_mem_cons.mpr ⟨lw_p21, List.forall_mem_cons.mpr ⟨lw_p22, List.forall_mem_cons.mpr ⟨lw_p23, List.forall_mem_cons.mpr ⟨lw_p24, List.forall_mem_cons.mpr ⟨lw_p25, List.forall_mem_cons.mpr ⟨lw_p26, List.forall_mem_cons.mpr ⟨lw_p27, List.forall_mem_cons.mpr ⟨lw_p28, List.forall_mem_cons.mpr ⟨lw_p29, List.forall_mem_cons.mpr ⟨lw_p30, List.forall_mem_cons.mpr ⟨lw_p31, fun _ h => absurd h List.not_mem_nil⟩⟩⟩⟩⟩⟩⟩⟩⟩⟩⟩⟩⟩⟩⟩⟩
theorem lw_p32 : lw_okq (⟨"ClipHibernation$Archive", "colourAt", "(II)I"⟩, 18) := ⟨⟨by decide +kernel, by decide +kernel⟩, List.mem_of_getElem? (i := 33) (by decide +kernel), List.mem_of_getElem? (i := 414) (by decide +kernel), List.mem_of_getElem? (i := 415) (by decide +kernel)⟩
theorem lw_p33 : lw_okq (⟨"ClipHibernation$Archive", "putReel", "(I)I"⟩, 18) := ⟨⟨by decide +kernel, by decide +kernel⟩, List.mem_of_getElem? (i := 33) (by decide +kernel), List.mem_of_getElem? (i := 418) (by decide +kernel), List.mem_of_getElem? (i := 419) (by decide +kernel)⟩
theorem lw_p34 : lw_okq (⟨"ClipHibernation$Archive", "setBed", "(III)V"⟩, 18) := ⟨⟨by decide +kernel, by decide +kernel⟩, List.mem_of_getElem? (i := 33) (by decide +kernel), List.mem_of_getElem? (i := 422) (by decide +kernel), List.mem_of_getElem? (i := 423) (by decide +kernel)⟩
theorem lw_p35 : lw_okq (⟨"ClipHibernation$Archive", "putScene", "(I)I"⟩, 18) := ⟨⟨by decide +kernel, by decide +kernel⟩, List.mem_of_getElem? (i := 33) (by decide +kernel), List.mem_of_getElem? (i := 426) (by decide +kernel), List.mem_of_getElem? (i := 427) (by decide +kernel)⟩
theorem lw_p36 : lw_okq (⟨"ClipHibernation$Archive", "layDown", "(II)I"⟩, 18) := ⟨⟨by decide +kernel, by decide +kernel⟩, List.mem_of_getElem? (i := 33) (by decide +kernel), List.mem_of_getElem? (i := 430) (by decide +kernel), List.mem_of_getElem? (i := 431) (by decide +kernel)⟩
theorem lw_p37 : lw_okq (⟨"ClipHibernation$Archive", "rouse", "(I)I"⟩, 18) := ⟨⟨by decide +kernel, by decide +kernel⟩, List.mem_of_getElem? (i := 33) (by decide +kernel), List.mem_of_getElem? (i := 434) (by decide +kernel), List.mem_of_getElem? (i := 435) (by decide +kernel)⟩
theorem lw_p38 : lw_okq (⟨"ClipHibernation$Archive", "leaveBed", "(I)I"⟩, 18) := ⟨⟨by decide +kernel, by decide +kernel⟩, List.mem_of_getElem? (i := 33) (by decide +kernel), List.mem_of_getElem? (i := 438) (by decide +kernel), List.mem_of_getElem? (i := 439) (by decide +kernel)⟩
theorem lw_p39 : lw_okq (⟨"ClipHibernation$Archive", "placeOf", "(I)I"⟩, 18) := ⟨⟨by decide +kernel, by decide +kernel⟩, List.mem_of_getElem? (i := 33) (by decide +kernel), List.mem_of_getElem? (i := 442) (by decide +kernel), List.mem_of_getElem? (i := 443) (by decide +kernel)⟩
theorem lw_p40 : lw_okq (⟨"ClipHibernation$Archive", "cutScene", "(II)I"⟩, 18) := ⟨⟨by decide +kernel, by decide +kernel⟩, List.mem_of_getElem? (i := 33) (by decide +kernel), List.mem_of_getElem? (i := 446) (by decide +kernel), List.mem_of_getElem? (i := 447) (by decide +kernel)⟩
theorem lw_p41 : lw_okq (⟨"ClipHibernation$Archive", "findPattern", "(II)I"⟩, 18) := ⟨⟨by decide +kernel, by decide +kernel⟩, List.mem_of_getElem? (i := 33) (by decide +kernel), List.mem_of_getElem? (i := 450) (by decide +kernel), List.mem_of_getElem? (i := 451) (by decide +kernel)⟩
theorem lw_p42 : lw_okq (⟨"ClipHibernation$Archive", "matchesAt", "(III)Z"⟩, 18) := ⟨⟨by decide +kernel, by decide +kernel⟩, List.mem_of_getElem? (i := 33) (by decide +kernel), List.mem_of_getElem? (i := 454) (by decide +kernel), List.mem_of_getElem? (i := 455) (by decide +kernel)⟩
theorem lw_p43 : lw_okq (⟨"ClipHibernation$Archive", "airReel", "(I)I"⟩, 18) := ⟨⟨by decide +kernel, by decide +kernel⟩, List.mem_of_getElem? (i := 33) (by decide +kernel), List.mem_of_getElem? (i := 458) (by decide +kernel), List.mem_of_getElem? (i := 459) (by decide +kernel)⟩
theorem lw_p44 : lw_okq (⟨"ClipHibernation$Archive", "sleepersIn", "(I)I"⟩, 18) := ⟨⟨by decide +kernel, by decide +kernel⟩, List.mem_of_getElem? (i := 33) (by decide +kernel), List.mem_of_getElem? (i := 462) (by decide +kernel), List.mem_of_getElem? (i := 463) (by decide +kernel)⟩
theorem lw_p45 : lw_okq (⟨"ClipHibernation$Archive", "feedClip", "(II)I"⟩, 18) := ⟨⟨by decide +kernel, by decide +kernel⟩, List.mem_of_getElem? (i := 33) (by decide +kernel), List.mem_of_getElem? (i := 467) (by decide +kernel), List.mem_of_getElem? (i := 468) (by decide +kernel)⟩
theorem lw_p46 : lw_okq (⟨"ClipHibernation$Archive", "store", "(I)I"⟩, 18) := ⟨⟨by decide +kernel, by decide +kernel⟩, List.mem_of_getElem? (i := 33) (by decide +kernel), List.mem_of_getElem? (i := 471) (by decide +kernel), List.mem_of_getElem? (i := 472) (by decide +kernel)⟩
theorem lw_p47 : lw_okq (⟨"ClipHibernation$Archive", "paintClip", "(III)I"⟩, 18) := ⟨⟨by decide +kernel, by decide +kernel⟩, List.mem_of_getElem? (i := 33) (by decide +kernel), List.mem_of_getElem? (i := 475) (by decide +kernel), List.mem_of_getElem? (i := 476) (by decide +kernel)⟩
def lw_privs_3 : List (MethodName × Nat) := [(⟨"ClipHibernation$Archive", "colourAt", "(II)I"⟩, 18), (⟨"ClipHibernation$Archive", "putReel", "(I)I"⟩, 18), (⟨"ClipHibernation$Archive", "setBed", "(III)V"⟩, 18), (⟨"ClipHibernation$Archive", "putScene", "(I)I"⟩, 18), (⟨"ClipHibernation$Archive", "layDown", "(II)I"⟩, 18), (⟨"ClipHibernation$Archive", "rouse", "(I)I"⟩, 18), (⟨"ClipHibernation$Archive", "leaveBed", "(I)I"⟩, 18), (⟨"ClipHibernation$Archive", "placeOf", "(I)I"⟩, 18), (⟨"ClipHibernation$Archive", "cutScene", "(II)I"⟩, 18), (⟨"ClipHibernation$Archive", "findPattern", "(II)I"⟩, 18), (⟨"ClipHibernation$Archive", "matchesAt", "(III)Z"⟩, 18), (⟨"ClipHibernation$Archive", "airReel", "(I)I"⟩, 18), (⟨"ClipHibernation$Archive", "sleepersIn", "(I)I"⟩, 18), (⟨"ClipHibernation$Archive", "feedClip", "(II)I"⟩, 18), (⟨"ClipHibernation$Archive", "store", "(I)I"⟩, 18), (⟨"ClipHibernation$Archive", "paintClip", "(III)I"⟩, 18)]
theorem lw_r3 : ∀ q ∈ lw_privs_3, lw_okq q := List.forall_mem_cons.mpr ⟨lw_p32, List.forall_mem_cons.mpr ⟨lw_p33, List.forall_mem_cons.mpr ⟨lw_p34, List.forall_mem_cons.mpr ⟨lw_p35, List.forall_mem_cons.mpr ⟨lw_p36, List.forall_mem_cons.mpr ⟨lw_p37, List.forall_mem_cons.mpr ⟨lw_p38, List.forall_mem_cons.mpr ⟨lw_p39, List.forall_mem_cons.mpr ⟨lw_p40, List.forall_mem_cons.mpr ⟨lw_p41, List.forall_mem_cons.mpr ⟨lw_p42, List.forall_mem_cons.mpr ⟨lw_p43, List.forall_mem_cons.mpr ⟨lw_p44, List.forall_mem_cons.mpr ⟨lw_p45, List.forall_mem_cons.mpr ⟨lw_p46, List.forall_mem_cons.mpr ⟨lw_p47, fun _ h => absurd h List.not_mem_nil⟩⟩⟩⟩⟩⟩⟩⟩⟩⟩⟩⟩⟩⟩⟩⟩
theorem lw_p48 : lw_okq (⟨"ClipHibernation$Archive", "pass", "(I)I"⟩, 18) := ⟨⟨by decide +kernel, by decide +kernel⟩, List.mem_of_getElem? (i := 33) (by decide +kernel), List.mem_of_getElem? (i := 479) (by decide +kernel), List.mem_of_getElem? (i := 480) (by decide +kernel)⟩
theorem lw_p49 : lw_okq (⟨"ClipHibernation$Archive", "burn", "(I)I"⟩, 18) := ⟨⟨by decide +kernel, by decide +kernel⟩, List.mem_of_getElem? (i := 33) (by decide +kernel), List.mem_of_getElem? (i := 483) (by decide +kernel), List.mem_of_getElem? (i := 484) (by decide +kernel)⟩
theorem lw_p50 : lw_okq (⟨"ClipHibernation$Archive", "refillSprings", "()V"⟩, 18) := ⟨⟨by decide +kernel, by decide +kernel⟩, List.mem_of_getElem? (i := 33) (by decide +kernel), List.mem_of_getElem? (i := 490) (by decide +kernel), List.mem_of_getElem? (i := 491) (by decide +kernel)⟩
theorem lw_p51 : lw_okq (⟨"ClipHibernation$Archive", "copyFrom", "(LClipHibernation$Archive;)V"⟩, 18) := ⟨⟨by decide +kernel, by decide +kernel⟩, List.mem_of_getElem? (i := 33) (by decide +kernel), List.mem_of_getElem? (i := 494) (by decide +kernel), List.mem_of_getElem? (i := 495) (by decide +kernel)⟩
theorem lw_p52 : lw_okq (⟨"ClipHibernation$Text", "addFour", "(I)V"⟩, 7) := ⟨⟨by decide +kernel, by decide +kernel⟩, List.mem_of_getElem? (i := 123) (by decide +kernel), List.mem_of_getElem? (i := 536) (by decide +kernel), List.mem_of_getElem? (i := 537) (by decide +kernel)⟩
theorem lw_p53 : lw_okq (⟨"ClipHibernation", "remember", "()V"⟩, 10) := ⟨⟨by decide +kernel, by decide +kernel⟩, List.mem_of_getElem? (i := 25) (by decide +kernel), List.mem_of_getElem? (i := 544) (by decide +kernel), List.mem_of_getElem? (i := 545) (by decide +kernel)⟩
theorem lw_p54 : lw_okq (⟨"ClipHibernation$Archive", "clipsInState", "(I)I"⟩, 18) := ⟨⟨by decide +kernel, by decide +kernel⟩, List.mem_of_getElem? (i := 33) (by decide +kernel), List.mem_of_getElem? (i := 601) (by decide +kernel), List.mem_of_getElem? (i := 602) (by decide +kernel)⟩
theorem lw_p55 : lw_okq (⟨"ClipHibernation$Archive", "allFat", "()I"⟩, 18) := ⟨⟨by decide +kernel, by decide +kernel⟩, List.mem_of_getElem? (i := 33) (by decide +kernel), List.mem_of_getElem? (i := 615) (by decide +kernel), List.mem_of_getElem? (i := 616) (by decide +kernel)⟩
theorem lw_p56 : lw_okq (⟨"ClipHibernation$Archive", "faults", "()I"⟩, 18) := ⟨⟨by decide +kernel, by decide +kernel⟩, List.mem_of_getElem? (i := 33) (by decide +kernel), List.mem_of_getElem? (i := 627) (by decide +kernel), List.mem_of_getElem? (i := 628) (by decide +kernel)⟩
theorem lw_p57 : lw_okq (⟨"ClipHibernation$Archive", "bedsWith", "(I)I"⟩, 18) := ⟨⟨by decide +kernel, by decide +kernel⟩, List.mem_of_getElem? (i := 33) (by decide +kernel), List.mem_of_getElem? (i := 635) (by decide +kernel), List.mem_of_getElem? (i := 636) (by decide +kernel)⟩
theorem lw_p58 : lw_okq (⟨"ClipHibernation$Archive", "isFound", "(I)Z"⟩, 18) := ⟨⟨by decide +kernel, by decide +kernel⟩, List.mem_of_getElem? (i := 33) (by decide +kernel), List.mem_of_getElem? (i := 639) (by decide +kernel), List.mem_of_getElem? (i := 640) (by decide +kernel)⟩
theorem lw_p59 : lw_okq (⟨"ClipHibernation$Archive", "looks", "(II)I"⟩, 18) := ⟨⟨by decide +kernel, by decide +kernel⟩, List.mem_of_getElem? (i := 33) (by decide +kernel), List.mem_of_getElem? (i := 643) (by decide +kernel), List.mem_of_getElem? (i := 644) (by decide +kernel)⟩
theorem lw_p60 : lw_okq (⟨"java/lang/Throwable", "fillInStackTrace", "(I)Ljava/lang/Throwable;"⟩, 6) := ⟨⟨by decide +kernel, by decide +kernel⟩, List.mem_of_getElem? (i := 700) (by decide +kernel), List.mem_of_getElem? (i := 698) (by decide +kernel), List.mem_of_getElem? (i := 699) (by decide +kernel)⟩
theorem lw_p61 : lw_okq (⟨"ClipHibernation", "refuseIf", "(Z)V"⟩, 10) := ⟨⟨by decide +kernel, by decide +kernel⟩, List.mem_of_getElem? (i := 25) (by decide +kernel), List.mem_of_getElem? (i := 742) (by decide +kernel), List.mem_of_getElem? (i := 743) (by decide +kernel)⟩
theorem lw_p62 : lw_okq (⟨"ClipHibernation", "needRange", "(III)V"⟩, 10) := ⟨⟨by decide +kernel, by decide +kernel⟩, List.mem_of_getElem? (i := 25) (by decide +kernel), List.mem_of_getElem? (i := 770) (by decide +kernel), List.mem_of_getElem? (i := 771) (by decide +kernel)⟩
theorem lw_p63 : lw_okq (⟨"ClipHibernation", "needClip", "(I)V"⟩, 10) := ⟨⟨by decide +kernel, by decide +kernel⟩, List.mem_of_getElem? (i := 25) (by decide +kernel), List.mem_of_getElem? (i := 794) (by decide +kernel), List.mem_of_getElem? (i := 795) (by decide +kernel)⟩
def lw_privs_4 : List (MethodName × Nat) := [(⟨"ClipHibernation$Archive", "pass", "(I)I"⟩, 18), (⟨"ClipHibernation$Archive", "burn", "(I)I"⟩, 18), (⟨"ClipHibernation$Archive", "refillSprings", "()V"⟩, 18), (⟨"ClipHibernation$Archive", "copyFrom", "(LClipHibernation$Archive;)V"⟩, 18), (⟨"ClipHibernation$Text", "addFour", "(I)V"⟩, 7), (⟨"ClipHibernation", "remember", "()V"⟩, 10), (⟨"ClipHibernation$Archive", "clipsInState", "(I)I"⟩, 18), (⟨"ClipHibernation$Archive", "allFat", "()I"⟩, 18), (⟨"ClipHibernation$Archive", "faults", "()I"⟩, 18), (⟨"ClipHibernation$Archive", "bedsWith", "(I)I"⟩, 18), (⟨"ClipHibernation$Archive", "isFound", "(I)Z"⟩, 18), (⟨"ClipHibernation$Archive", "looks", "(II)I"⟩, 18), (⟨"java/lang/Throwable", "fillInStackTrace", "(I)Ljava/lang/Throwable;"⟩, 6), (⟨"ClipHibernation", "refuseIf", "(Z)V"⟩, 10), (⟨"ClipHibernation", "needRange", "(III)V"⟩, 10), (⟨"ClipHibernation", "needClip", "(I)V"⟩, 10)]
theorem lw_r4 : ∀ q ∈ lw_privs_4, lw_okq q := List.forall_mem_cons.mpr ⟨lw_p48, List.forall_mem_cons.mpr ⟨lw_p49, List.forall_mem_cons.mpr ⟨lw_p50, List.forall_mem_cons.mpr ⟨lw_p51, List.forall_mem_cons.mpr ⟨lw_p52, List.forall_mem_cons.mpr ⟨lw_p53, List.forall_mem_cons.mpr ⟨lw_p54, List.forall_mem_cons.mpr ⟨lw_p55, List.forall_mem_cons.mpr ⟨lw_p56, List.forall_mem_cons.mpr ⟨lw_p57, List.forall_mem_cons.mpr ⟨lw_p58, List.forall_mem_cons.mpr ⟨lw_p59, List.forall_mem_cons.mpr ⟨lw_p60, List.forall_mem_cons.mpr ⟨lw_p61, List.forall_mem_cons.mpr ⟨lw_p62, List.forall_mem_cons.mpr ⟨lw_p63, fun _ h => absurd h List.not_mem_nil⟩⟩⟩⟩⟩⟩⟩⟩⟩⟩⟩⟩⟩⟩⟩⟩
theorem lw_p64 : lw_okq (⟨"ClipHibernation", "needReel", "(I)V"⟩, 10) := ⟨⟨by decide +kernel, by decide +kernel⟩, List.mem_of_getElem? (i := 25) (by decide +kernel), List.mem_of_getElem? (i := 814) (by decide +kernel), List.mem_of_getElem? (i := 815) (by decide +kernel)⟩
theorem lw_p65 : lw_okq (⟨"ClipHibernation", "needScene", "(I)V"⟩, 10) := ⟨⟨by decide +kernel, by decide +kernel⟩, List.mem_of_getElem? (i := 25) (by decide +kernel), List.mem_of_getElem? (i := 836) (by decide +kernel), List.mem_of_getElem? (i := 837) (by decide +kernel)⟩
theorem lw_p66 : lw_okq (⟨"ClipHibernation", "needPattern", "(I)V"⟩, 10) := ⟨⟨by decide +kernel, by decide +kernel⟩, List.mem_of_getElem? (i := 25) (by decide +kernel), List.mem_of_getElem? (i := 841) (by decide +kernel), List.mem_of_getElem? (i := 842) (by decide +kernel)⟩
theorem lw_p67 : lw_okq (⟨"ClipHibernation$Archive", "coloursOf", "(I)I"⟩, 18) := ⟨⟨by decide +kernel, by decide +kernel⟩, List.mem_of_getElem? (i := 33) (by decide +kernel), List.mem_of_getElem? (i := 935) (by decide +kernel), List.mem_of_getElem? (i := 936) (by decide +kernel)⟩
theorem lw_p68 : lw_okq (⟨"ClipHibernation$Archive", "sharedRun", "(II)I"⟩, 18) := ⟨⟨by decide +kernel, by decide +kernel⟩, List.mem_of_getElem? (i := 33) (by decide +kernel), List.mem_of_getElem? (i := 989) (by decide +kernel), List.mem_of_getElem? (i := 990) (by decide +kernel)⟩
theorem lw_p69 : lw_okq (⟨"ClipHibernation$Archive", "runFrom", "(IIII)I"⟩, 18) := ⟨⟨by decide +kernel, by decide +kernel⟩, List.mem_of_getElem? (i := 33) (by decide +kernel), List.mem_of_getElem? (i := 993) (by decide +kernel), List.mem_of_getElem? (i := 994) (by decide +kernel)⟩
theorem lw_p70 : lw_okq (⟨"ClipHibernation$Archive", "nearestTo", "(I)I"⟩, 18) := ⟨⟨by decide +kernel, by decide +kernel⟩, List.mem_of_getElem? (i := 33) (by decide +kernel), List.mem_of_getElem? (i := 1007) (by decide +kernel), List.mem_of_getElem? (i := 1008) (by decide +kernel)⟩
theorem lw_p71 : lw_okq (⟨"ClipHibernation$Archive", "sameHash", "(I)I"⟩, 18) := ⟨⟨by decide +kernel, by decide +kernel⟩, List.mem_of_getElem? (i := 33) (by decide +kernel), List.mem_of_getElem? (i := 1019) (by decide +kernel), List.mem_of_getElem? (i := 1020) (by decide +kernel)⟩
theorem lw_p72 : lw_okq (⟨"ClipHibernation$Archive", "weeksLeft", "(I)I"⟩, 18) := ⟨⟨by decide +kernel, by decide +kernel⟩, List.mem_of_getElem? (i := 33) (by decide +kernel), List.mem_of_getElem? (i := 1030) (by decide +kernel), List.mem_of_getElem? (i := 1031) (by decide +kernel)⟩
theorem lw_p73 : lw_okq (⟨"ClipHibernation$Archive", "homeOf", "(II)I"⟩, 18) := ⟨⟨by decide +kernel, by decide +kernel⟩, List.mem_of_getElem? (i := 33) (by decide +kernel), List.mem_of_getElem? (i := 1065) (by decide +kernel), List.mem_of_getElem? (i := 1066) (by decide +kernel)⟩
theorem lw_p74 : lw_okq (⟨"ClipHibernation$Archive", "mostLooks", "(I)I"⟩, 18) := ⟨⟨by decide +kernel, by decide +kernel⟩, List.mem_of_getElem? (i := 33) (by decide +kernel), List.mem_of_getElem? (i := 1100) (by decide +kernel), List.mem_of_getElem? (i := 1101) (by decide +kernel)⟩
theorem lw_p75 : lw_okq (⟨"ClipHibernation$Archive", "allLooks", "(I)I"⟩, 18) := ⟨⟨by decide +kernel, by decide +kernel⟩, List.mem_of_getElem? (i := 33) (by decide +kernel), List.mem_of_getElem? (i := 1111) (by decide +kernel), List.mem_of_getElem? (i := 1112) (by decide +kernel)⟩
theorem lw_p76 : lw_okq (⟨"ClipHibernation$Archive", "cluster", "(I)I"⟩, 18) := ⟨⟨by decide +kernel, by decide +kernel⟩, List.mem_of_getElem? (i := 33) (by decide +kernel), List.mem_of_getElem? (i := 1122) (by decide +kernel), List.mem_of_getElem? (i := 1123) (by decide +kernel)⟩
theorem lw_p77 : lw_okq (⟨"ClipHibernation$Archive", "nearestReel", "(I)I"⟩, 18) := ⟨⟨by decide +kernel, by decide +kernel⟩, List.mem_of_getElem? (i := 33) (by decide +kernel), List.mem_of_getElem? (i := 1133) (by decide +kernel), List.mem_of_getElem? (i := 1134) (by decide +kernel)⟩
theorem lw_p78 : lw_okq (⟨"ClipHibernation$Archive", "sleepersWith", "(I)I"⟩, 18) := ⟨⟨by decide +kernel, by decide +kernel⟩, List.mem_of_getElem? (i := 33) (by decide +kernel), List.mem_of_getElem? (i := 1153) (by decide +kernel), List.mem_of_getElem? (i := 1154) (by decide +kernel)⟩
theorem lw_p79 : lw_okq (⟨"ClipHibernation$Archive", "ownPattern", "(I)I"⟩, 18) := ⟨⟨by decide +kernel, by decide +kernel⟩, List.mem_of_getElem? (i := 33) (by decide +kernel), List.mem_of_getElem? (i := 1178) (by decide +kernel), List.mem_of_getElem? (i := 1179) (by decide +kernel)⟩
def lw_privs_5 : List (MethodName × Nat) := [(⟨"ClipHibernation", "needReel", "(I)V"⟩, 10), (⟨"ClipHibernation", "needScene", "(I)V"⟩, 10), (⟨"ClipHibernation", "needPattern", "(I)V"⟩, 10), (⟨"ClipHibernation$Archive", "coloursOf", "(I)I"⟩, 18), (⟨"ClipHibernation$Archive", "sharedRun", "(II)I"⟩, 18), (⟨"ClipHibernation$Archive", "runFrom", "(IIII)I"⟩, 18), (⟨"ClipHibernation$Archive", "nearestTo", "(I)I"⟩, 18), (⟨"ClipHibernation$Archive", "sameHash", "(I)I"⟩, 18), (⟨"ClipHibernation$Archive", "weeksLeft", "(I)I"⟩, 18), (⟨"ClipHibernation$Archive", "homeOf", "(II)I"⟩, 18), (⟨"ClipHibernation$Archive", "mostLooks", "(I)I"⟩, 18), (⟨"ClipHibernation$Archive", "allLooks", "(I)I"⟩, 18), (⟨"ClipHibernation$Archive", "cluster", "(I)I"⟩, 18), (⟨"ClipHibernation$Archive", "nearestReel", "(I)I"⟩, 18), (⟨"ClipHibernation$Archive", "sleepersWith", "(I)I"⟩, 18), (⟨"ClipHibernation$Archive", "ownPattern", "(I)I"⟩, 18)]
theorem lw_r5 : ∀ q ∈ lw_privs_5, lw_okq q := List.forall_mem_cons.mpr ⟨lw_p64, List.forall_mem_cons.mpr ⟨lw_p65, List.forall_mem_cons.mpr ⟨lw_p66, List.forall_mem_cons.mpr ⟨lw_p67, List.forall_mem_cons.mpr ⟨lw_p68, List.forall_mem_cons.mpr ⟨lw_p69, List.forall_mem_cons.mpr ⟨lw_p70, List.forall_mem_cons.mpr ⟨lw_p71, List.forall_mem_cons.mpr ⟨lw_p72, List.forall_mem_cons.mpr ⟨lw_p73, List.forall_mem_cons.mpr ⟨lw_p74, List.forall_mem_cons.mpr ⟨lw_p75, List.forall_mem_cons.mpr ⟨lw_p76, List.forall_mem_cons.mpr ⟨lw_p77, List.forall_mem_cons.mpr ⟨lw_p78, List.forall_mem_cons.mpr ⟨lw_p79, fun _ h => absurd h List.not_mem_nil⟩⟩⟩⟩⟩⟩⟩⟩⟩⟩⟩⟩⟩⟩⟩⟩
theorem lw_p80 : lw_okq (⟨"ClipHibernation$Archive", "matchesAnother", "(II)Z"⟩, 18) := ⟨⟨by decide +kernel, by decide +kernel⟩, List.mem_of_getElem? (i := 33) (by decide +kernel), List.mem_of_getElem? (i := 1182) (by decide +kernel), List.mem_of_getElem? (i := 1183) (by decide +kernel)⟩
theorem lw_p81 : lw_okq (⟨"ClipHibernation", "putSign", "(I)V"⟩, 10) := ⟨⟨by decide +kernel, by decide +kernel⟩, List.mem_of_getElem? (i := 25) (by decide +kernel), List.mem_of_getElem? (i := 1193) (by decide +kernel), List.mem_of_getElem? (i := 1194) (by decide +kernel)⟩
theorem lw_p82 : lw_okq (⟨"ClipHibernation", "reportBed", "(I)V"⟩, 10) := ⟨⟨by decide +kernel, by decide +kernel⟩, List.mem_of_getElem? (i := 25) (by decide +kernel), List.mem_of_getElem? (i := 1197) (by decide +kernel), List.mem_of_getElem? (i := 1198) (by decide +kernel)⟩
theorem lw_p83 : lw_okq (⟨"ClipHibernationModel", "tell", "(Ljava/lang/String;)V"⟩, 22) := ⟨⟨by decide +kernel, by decide +kernel⟩, List.mem_of_getElem? (i := 1202) (by decide +kernel), List.mem_of_getElem? (i := 1209) (by decide +kernel), List.mem_of_getElem? (i := 1210) (by decide +kernel)⟩
theorem lw_p84 : lw_okq (⟨"ClipHibernationModel", "parses", "()Z"⟩, 22) := ⟨⟨by decide +kernel, by decide +kernel⟩, List.mem_of_getElem? (i := 1202) (by decide +kernel), List.mem_of_getElem? (i := 1216) (by decide +kernel), List.mem_of_getElem? (i := 1217) (by decide +kernel)⟩
theorem lw_p85 : lw_okq (⟨"ClipHibernationModel", "next", "()V"⟩, 22) := ⟨⟨by decide +kernel, by decide +kernel⟩, List.mem_of_getElem? (i := 1202) (by decide +kernel), List.mem_of_getElem? (i := 1220) (by decide +kernel), List.mem_of_getElem? (i := 1221) (by decide +kernel)⟩
theorem lw_p86 : lw_okq (⟨"ClipHibernationModel", "readsAll", "()Z"⟩, 22) := ⟨⟨by decide +kernel, by decide +kernel⟩, List.mem_of_getElem? (i := 1202) (by decide +kernel), List.mem_of_getElem? (i := 1227) (by decide +kernel), List.mem_of_getElem? (i := 1228) (by decide +kernel)⟩
theorem lw_p87 : lw_okq (⟨"ClipHibernationModel", "says", "(Ljava/lang/String;)Z"⟩, 22) := ⟨⟨by decide +kernel, by decide +kernel⟩, List.mem_of_getElem? (i := 1202) (by decide +kernel), List.mem_of_getElem? (i := 1232) (by decide +kernel), List.mem_of_getElem? (i := 1233) (by decide +kernel)⟩
theorem lw_p88 : lw_okq (⟨"ClipHibernationModel", "fail", "(I)Z"⟩, 22) := ⟨⟨by decide +kernel, by decide +kernel⟩, List.mem_of_getElem? (i := 1202) (by decide +kernel), List.mem_of_getElem? (i := 1236) (by decide +kernel), List.mem_of_getElem? (i := 1237) (by decide +kernel)⟩
theorem lw_p89 : lw_okq (⟨"ClipHibernationModel", "is", "(I)Z"⟩, 22) := ⟨⟨by decide +kernel, by decide +kernel⟩, List.mem_of_getElem? (i := 1202) (by decide +kernel), List.mem_of_getElem? (i := 1240) (by decide +kernel), List.mem_of_getElem? (i := 1241) (by decide +kernel)⟩
theorem lw_p90 : lw_okq (⟨"ClipHibernationModel", "readsCommand", "(I)Z"⟩, 22) := ⟨⟨by decide +kernel, by decide +kernel⟩, List.mem_of_getElem? (i := 1202) (by decide +kernel), List.mem_of_getElem? (i := 1244) (by decide +kernel), List.mem_of_getElem? (i := 1245) (by decide +kernel)⟩
theorem lw_p91 : lw_okq (⟨"ClipHibernationModel", "wordAhead", "()I"⟩, 22) := ⟨⟨by decide +kernel, by decide +kernel⟩, List.mem_of_getElem? (i := 1202) (by decide +kernel), List.mem_of_getElem? (i := 1248) (by decide +kernel), List.mem_of_getElem? (i := 1249) (by decide +kernel)⟩
theorem lw_p92 : lw_okq (⟨"ClipHibernationModel", "laterWord", "()I"⟩, 22) := ⟨⟨by decide +kernel, by decide +kernel⟩, List.mem_of_getElem? (i := 1202) (by decide +kernel), List.mem_of_getElem? (i := 1258) (by decide +kernel), List.mem_of_getElem? (i := 1259) (by decide +kernel)⟩
theorem lw_p93 : lw_okq (⟨"ClipHibernationModel", "readsRepeat", "(I)Z"⟩, 22) := ⟨⟨by decide +kernel, by decide +kernel⟩, List.mem_of_getElem? (i := 1202) (by decide +kernel), List.mem_of_getElem? (i := 1268) (by decide +kernel), List.mem_of_getElem? (i := 1269) (by decide +kernel)⟩
theorem lw_p94 : lw_okq (⟨"ClipHibernationModel", "number", "(III)Z"⟩, 22) := ⟨⟨by decide +kernel, by decide +kernel⟩, List.mem_of_getElem? (i := 1202) (by decide +kernel), List.mem_of_getElem? (i := 1272) (by decide +kernel), List.mem_of_getElem? (i := 1273) (by decide +kernel)⟩
theorem lw_p95 : lw_okq (⟨"ClipHibernationModel", "readsWord", "(I)Z"⟩, 22) := ⟨⟨by decide +kernel, by decide +kernel⟩, List.mem_of_getElem? (i := 1202) (by decide +kernel), List.mem_of_getElem? (i := 1279) (by decide +kernel), List.mem_of_getElem? (i := 1280) (by decide +kernel)⟩
def lw_privs_6 : List (MethodName × Nat) := [(⟨"ClipHibernation$Archive", "matchesAnother", "(II)Z"⟩, 18), (⟨"ClipHibernation", "putSign", "(I)V"⟩, 10), (⟨"ClipHibernation", "reportBed", "(I)V"⟩, 10), (⟨"ClipHibernationModel", "tell", "(Ljava/lang/String;)V"⟩, 22), (⟨"ClipHibernationModel", "parses", "()Z"⟩, 22), (⟨"ClipHibernationModel", "next", "()V"⟩, 22), (⟨"ClipHibernationModel", "readsAll", "()Z"⟩, 22), (⟨"ClipHibernationModel", "says", "(Ljava/lang/String;)Z"⟩, 22), (⟨"ClipHibernationModel", "fail", "(I)Z"⟩, 22), (⟨"ClipHibernationModel", "is", "(I)Z"⟩, 22), (⟨"ClipHibernationModel", "readsCommand", "(I)Z"⟩, 22), (⟨"ClipHibernationModel", "wordAhead", "()I"⟩, 22), (⟨"ClipHibernationModel", "laterWord", "()I"⟩, 22), (⟨"ClipHibernationModel", "readsRepeat", "(I)Z"⟩, 22), (⟨"ClipHibernationModel", "number", "(III)Z"⟩, 22), (⟨"ClipHibernationModel", "readsWord", "(I)Z"⟩, 22)]
theorem lw_r6 : ∀ q ∈ lw_privs_6, lw_okq q := List.forall_mem_cons.mpr ⟨lw_p80, List.forall_mem_cons.mpr ⟨lw_p81, List.forall_mem_cons.mpr ⟨lw_p82, List.forall_mem_cons.mpr ⟨lw_p83, List.forall_mem_cons.mpr ⟨lw_p84, List.forall_mem_cons.mpr ⟨lw_p85, List.forall_mem_cons.mpr ⟨lw_p86, List.forall_mem_cons.mpr ⟨lw_p87, List.forall_mem_cons.mpr ⟨lw_p88, List.forall_mem_cons.mpr ⟨lw_p89, List.forall_mem_cons.mpr ⟨lw_p90, List.forall_mem_cons.mpr ⟨lw_p91, List.forall_mem_cons.mpr ⟨lw_p92, List.forall_mem_cons.mpr ⟨lw_p93, List.forall_mem_cons.mpr ⟨lw_p94, List.forall_mem_cons.mpr ⟨lw_p95, fun _ h => absurd h List.not_mem_nil⟩⟩⟩⟩⟩⟩⟩⟩⟩⟩⟩⟩⟩⟩⟩⟩
theorem lw_p96 : lw_okq (⟨"ClipHibernationModel", "readsClip", "()Z"⟩, 22) := ⟨⟨by decide +kernel, by decide +kernel⟩, List.mem_of_getElem? (i := 1202) (by decide +kernel), List.mem_of_getElem? (i := 1283) (by decide +kernel), List.mem_of_getElem? (i := 1284) (by decide +kernel)⟩
theorem lw_p97 : lw_okq (⟨"ClipHibernationModel", "stops", "(Z)Z"⟩, 22) := ⟨⟨by decide +kernel, by decide +kernel⟩, List.mem_of_getElem? (i := 1202) (by decide +kernel), List.mem_of_getElem? (i := 1294) (by decide +kernel), List.mem_of_getElem? (i := 1295) (by decide +kernel)⟩
theorem lw_p98 : lw_okq (⟨"ClipHibernationModel", "adds", "(I)I"⟩, 22) := ⟨⟨by decide +kernel, by decide +kernel⟩, List.mem_of_getElem? (i := 1202) (by decide +kernel), List.mem_of_getElem? (i := 1298) (by decide +kernel), List.mem_of_getElem? (i := 1299) (by decide +kernel)⟩
theorem lw_p99 : lw_okq (⟨"ClipHibernationModel", "to", "(III)V"⟩, 22) := ⟨⟨by decide +kernel, by decide +kernel⟩, List.mem_of_getElem? (i := 1202) (by decide +kernel), List.mem_of_getElem? (i := 1302) (by decide +kernel), List.mem_of_getElem? (i := 1303) (by decide +kernel)⟩
theorem lw_p100 : lw_okq (⟨"ClipHibernationModel", "readsReel", "()Z"⟩, 22) := ⟨⟨by decide +kernel, by decide +kernel⟩, List.mem_of_getElem? (i := 1202) (by decide +kernel), List.mem_of_getElem? (i := 1306) (by decide +kernel), List.mem_of_getElem? (i := 1307) (by decide +kernel)⟩
theorem lw_p101 : lw_okq (⟨"ClipHibernationModel", "hangs", "(I)I"⟩, 22) := ⟨⟨by decide +kernel, by decide +kernel⟩, List.mem_of_getElem? (i := 1202) (by decide +kernel), List.mem_of_getElem? (i := 1310) (by decide +kernel), List.mem_of_getElem? (i := 1311) (by decide +kernel)⟩
theorem lw_p102 : lw_okq (⟨"ClipHibernationModel", "setBed", "(III)V"⟩, 22) := ⟨⟨by decide +kernel, by decide +kernel⟩, List.mem_of_getElem? (i := 1202) (by decide +kernel), List.mem_of_getElem? (i := 1314) (by decide +kernel), List.mem_of_getElem? (i := 1315) (by decide +kernel)⟩
theorem lw_p103 : lw_okq (⟨"ClipHibernationModel", "readsScene", "()Z"⟩, 22) := ⟨⟨by decide +kernel, by decide +kernel⟩, List.mem_of_getElem? (i := 1202) (by decide +kernel), List.mem_of_getElem? (i := 1318) (by decide +kernel), List.mem_of_getElem? (i := 1319) (by decide +kernel)⟩
theorem lw_p104 : lw_okq (⟨"ClipHibernationModel", "opens", "(I)I"⟩, 22) := ⟨⟨by decide +kernel, by decide +kernel⟩, List.mem_of_getElem? (i := 1202) (by decide +kernel), List.mem_of_getElem? (i := 1322) (by decide +kernel), List.mem_of_getElem? (i := 1323) (by decide +kernel)⟩
theorem lw_p105 : lw_okq (⟨"ClipHibernationModel", "readsSleep", "()Z"⟩, 22) := ⟨⟨by decide +kernel, by decide +kernel⟩, List.mem_of_getElem? (i := 1202) (by decide +kernel), List.mem_of_getElem? (i := 1326) (by decide +kernel), List.mem_of_getElem? (i := 1327) (by decide +kernel)⟩
theorem lw_p106 : lw_okq (⟨"ClipHibernationModel", "clipAt", "(I)Z"⟩, 22) := ⟨⟨by decide +kernel, by decide +kernel⟩, List.mem_of_getElem? (i := 1202) (by decide +kernel), List.mem_of_getElem? (i := 1330) (by decide +kernel), List.mem_of_getElem? (i := 1331) (by decide +kernel)⟩
theorem lw_p107 : lw_okq (⟨"ClipHibernationModel", "whyStaysUp", "(II)I"⟩, 22) := ⟨⟨by decide +kernel, by decide +kernel⟩, List.mem_of_getElem? (i := 1202) (by decide +kernel), List.mem_of_getElem? (i := 1334) (by decide +kernel), List.mem_of_getElem? (i := 1335) (by decide +kernel)⟩
theorem lw_p108 : lw_okq (⟨"ClipHibernationModel", "of", "(II)I"⟩, 22) := ⟨⟨by decide +kernel, by decide +kernel⟩, List.mem_of_getElem? (i := 1202) (by decide +kernel), List.mem_of_getElem? (i := 1338) (by decide +kernel), List.mem_of_getElem? (i := 1339) (by decide +kernel)⟩
theorem lw_p109 : lw_okq (⟨"ClipHibernationModel", "passedBy", "(II)I"⟩, 22) := ⟨⟨by decide +kernel, by decide +kernel⟩, List.mem_of_getElem? (i := 1202) (by decide +kernel), List.mem_of_getElem? (i := 1342) (by decide +kernel), List.mem_of_getElem? (i := 1343) (by decide +kernel)⟩
theorem lw_p110 : lw_okq (⟨"ClipHibernationModel", "beds", "(I)I"⟩, 22) := ⟨⟨by decide +kernel, by decide +kernel⟩, List.mem_of_getElem? (i := 1202) (by decide +kernel), List.mem_of_getElem? (i := 1346) (by decide +kernel), List.mem_of_getElem? (i := 1347) (by decide +kernel)⟩
theorem lw_p111 : lw_okq (⟨"ClipHibernationModel", "onWay", "(III)I"⟩, 22) := ⟨⟨by decide +kernel, by decide +kernel⟩, List.mem_of_getElem? (i := 1202) (by decide +kernel), List.mem_of_getElem? (i := 1350) (by decide +kernel), List.mem_of_getElem? (i := 1351) (by decide +kernel)⟩
def lw_privs_7 : List (MethodName × Nat) := [(⟨"ClipHibernationModel", "readsClip", "()Z"⟩, 22), (⟨"ClipHibernationModel", "stops", "(Z)Z"⟩, 22), (⟨"ClipHibernationModel", "adds", "(I)I"⟩, 22), (⟨"ClipHibernationModel", "to", "(III)V"⟩, 22), (⟨"ClipHibernationModel", "readsReel", "()Z"⟩, 22), (⟨"ClipHibernationModel", "hangs", "(I)I"⟩, 22), (⟨"ClipHibernationModel", "setBed", "(III)V"⟩, 22), (⟨"ClipHibernationModel", "readsScene", "()Z"⟩, 22), (⟨"ClipHibernationModel", "opens", "(I)I"⟩, 22), (⟨"ClipHibernationModel", "readsSleep", "()Z"⟩, 22), (⟨"ClipHibernationModel", "clipAt", "(I)Z"⟩, 22), (⟨"ClipHibernationModel", "whyStaysUp", "(II)I"⟩, 22), (⟨"ClipHibernationModel", "of", "(II)I"⟩, 22), (⟨"ClipHibernationModel", "passedBy", "(II)I"⟩, 22), (⟨"ClipHibernationModel", "beds", "(I)I"⟩, 22), (⟨"ClipHibernationModel", "onWay", "(III)I"⟩, 22)]
theorem lw_r7 : ∀ q ∈ lw_privs_7, lw_okq q := List.forall_mem_cons.mpr ⟨lw_p96, List.forall_mem_cons.mpr ⟨lw_p97, List.forall_mem_cons.mpr ⟨lw_p98, List.forall_mem_cons.mpr ⟨lw_p99, List.forall_mem_cons.mpr ⟨lw_p100, List.forall_mem_cons.mpr ⟨lw_p101, List.forall_mem_cons.mpr ⟨lw_p102, List.forall_mem_cons.mpr ⟨lw_p103, List.forall_mem_cons.mpr ⟨lw_p104, List.forall_mem_cons.mpr ⟨lw_p105, List.forall_mem_cons.mpr ⟨lw_p106, List.forall_mem_cons.mpr ⟨lw_p107, List.forall_mem_cons.mpr ⟨lw_p108, List.forall_mem_cons.mpr ⟨lw_p109, List.forall_mem_cons.mpr ⟨lw_p110, List.forall_mem_cons.mpr ⟨lw_p111, fun _ h => absurd h List.not_mem_nil⟩⟩⟩⟩⟩⟩⟩⟩⟩⟩⟩⟩⟩⟩⟩⟩
theorem lw_p112 : lw_okq (⟨"ClipHibernationModel", "homeOf", "(II)I"⟩, 22) := ⟨⟨by decide +kernel, by decide +kernel⟩, List.mem_of_getElem? (i := 1202) (by decide +kernel), List.mem_of_getElem? (i := 1354) (by decide +kernel), List.mem_of_getElem? (i := 1355) (by decide +kernel)⟩
theorem lw_p113 : lw_okq (⟨"ClipHibernationModel", "hashOf", "(I)I"⟩, 22) := ⟨⟨by decide +kernel, by decide +kernel⟩, List.mem_of_getElem? (i := 1202) (by decide +kernel), List.mem_of_getElem? (i := 1358) (by decide +kernel), List.mem_of_getElem? (i := 1359) (by decide +kernel)⟩
theorem lw_p114 : lw_okq (⟨"ClipHibernationModel", "inBed", "(II)I"⟩, 22) := ⟨⟨by decide +kernel, by decide +kernel⟩, List.mem_of_getElem? (i := 1202) (by decide +kernel), List.mem_of_getElem? (i := 1368) (by decide +kernel), List.mem_of_getElem? (i := 1369) (by decide +kernel)⟩
theorem lw_p115 : lw_okq (⟨"ClipHibernationModel", "liesDown", "(II)I"⟩, 22) := ⟨⟨by decide +kernel, by decide +kernel⟩, List.mem_of_getElem? (i := 1202) (by decide +kernel), List.mem_of_getElem? (i := 1372) (by decide +kernel), List.mem_of_getElem? (i := 1373) (by decide +kernel)⟩
theorem lw_p116 : lw_okq (⟨"ClipHibernationModel", "readsWake", "()Z"⟩, 22) := ⟨⟨by decide +kernel, by decide +kernel⟩, List.mem_of_getElem? (i := 1202) (by decide +kernel), List.mem_of_getElem? (i := 1376) (by decide +kernel), List.mem_of_getElem? (i := 1377) (by decide +kernel)⟩
theorem lw_p117 : lw_okq (⟨"ClipHibernationModel", "leaves", "(II)I"⟩, 22) := ⟨⟨by decide +kernel, by decide +kernel⟩, List.mem_of_getElem? (i := 1202) (by decide +kernel), List.mem_of_getElem? (i := 1380) (by decide +kernel), List.mem_of_getElem? (i := 1381) (by decide +kernel)⟩
theorem lw_p118 : lw_okq (⟨"ClipHibernationModel", "reelWith", "(I)I"⟩, 22) := ⟨⟨by decide +kernel, by decide +kernel⟩, List.mem_of_getElem? (i := 1202) (by decide +kernel), List.mem_of_getElem? (i := 1384) (by decide +kernel), List.mem_of_getElem? (i := 1385) (by decide +kernel)⟩
theorem lw_p119 : lw_okq (⟨"ClipHibernationModel", "bedWith", "(II)I"⟩, 22) := ⟨⟨by decide +kernel, by decide +kernel⟩, List.mem_of_getElem? (i := 1202) (by decide +kernel), List.mem_of_getElem? (i := 1388) (by decide +kernel), List.mem_of_getElem? (i := 1389) (by decide +kernel)⟩
theorem lw_p120 : lw_okq (⟨"ClipHibernationModel", "readsCut", "()Z"⟩, 22) := ⟨⟨by decide +kernel, by decide +kernel⟩, List.mem_of_getElem? (i := 1202) (by decide +kernel), List.mem_of_getElem? (i := 1392) (by decide +kernel), List.mem_of_getElem? (i := 1393) (by decide +kernel)⟩
theorem lw_p121 : lw_okq (⟨"ClipHibernationModel", "cuts", "(II)I"⟩, 22) := ⟨⟨by decide +kernel, by decide +kernel⟩, List.mem_of_getElem? (i := 1202) (by decide +kernel), List.mem_of_getElem? (i := 1396) (by decide +kernel), List.mem_of_getElem? (i := 1397) (by decide +kernel)⟩
theorem lw_p122 : lw_okq (⟨"ClipHibernationModel", "scene", "(II)I"⟩, 22) := ⟨⟨by decide +kernel, by decide +kernel⟩, List.mem_of_getElem? (i := 1202) (by decide +kernel), List.mem_of_getElem? (i := 1400) (by decide +kernel), List.mem_of_getElem? (i := 1401) (by decide +kernel)⟩
theorem lw_p123 : lw_okq (⟨"ClipHibernationModel", "matchOf", "(II)I"⟩, 22) := ⟨⟨by decide +kernel, by decide +kernel⟩, List.mem_of_getElem? (i := 1202) (by decide +kernel), List.mem_of_getElem? (i := 1404) (by decide +kernel), List.mem_of_getElem? (i := 1405) (by decide +kernel)⟩
theorem lw_p124 : lw_okq (⟨"ClipHibernationModel", "readsAir", "()Z"⟩, 22) := ⟨⟨by decide +kernel, by decide +kernel⟩, List.mem_of_getElem? (i := 1202) (by decide +kernel), List.mem_of_getElem? (i := 1411) (by decide +kernel), List.mem_of_getElem? (i := 1412) (by decide +kernel)⟩
theorem lw_p125 : lw_okq (⟨"ClipHibernationModel", "airs", "(I)I"⟩, 22) := ⟨⟨by decide +kernel, by decide +kernel⟩, List.mem_of_getElem? (i := 1202) (by decide +kernel), List.mem_of_getElem? (i := 1415) (by decide +kernel), List.mem_of_getElem? (i := 1416) (by decide +kernel)⟩
theorem lw_p126 : lw_okq (⟨"ClipHibernationModel", "sleepersIn", "(I)I"⟩, 22) := ⟨⟨by decide +kernel, by decide +kernel⟩, List.mem_of_getElem? (i := 1202) (by decide +kernel), List.mem_of_getElem? (i := 1419) (by decide +kernel), List.mem_of_getElem? (i := 1420) (by decide +kernel)⟩
theorem lw_p127 : lw_okq (⟨"ClipHibernationModel", "readsFeed", "()Z"⟩, 22) := ⟨⟨by decide +kernel, by decide +kernel⟩, List.mem_of_getElem? (i := 1202) (by decide +kernel), List.mem_of_getElem? (i := 1423) (by decide +kernel), List.mem_of_getElem? (i := 1424) (by decide +kernel)⟩
def lw_privs_8 : List (MethodName × Nat) := [(⟨"ClipHibernationModel", "homeOf", "(II)I"⟩, 22), (⟨"ClipHibernationModel", "hashOf", "(I)I"⟩, 22), (⟨"ClipHibernationModel", "inBed", "(II)I"⟩, 22), (⟨"ClipHibernationModel", "liesDown", "(II)I"⟩, 22), (⟨"ClipHibernationModel", "readsWake", "()Z"⟩, 22), (⟨"ClipHibernationModel", "leaves", "(II)I"⟩, 22), (⟨"ClipHibernationModel", "reelWith", "(I)I"⟩, 22), (⟨"ClipHibernationModel", "bedWith", "(II)I"⟩, 22), (⟨"ClipHibernationModel", "readsCut", "()Z"⟩, 22), (⟨"ClipHibernationModel", "cuts", "(II)I"⟩, 22), (⟨"ClipHibernationModel", "scene", "(II)I"⟩, 22), (⟨"ClipHibernationModel", "matchOf", "(II)I"⟩, 22), (⟨"ClipHibernationModel", "readsAir", "()Z"⟩, 22), (⟨"ClipHibernationModel", "airs", "(I)I"⟩, 22), (⟨"ClipHibernationModel", "sleepersIn", "(I)I"⟩, 22), (⟨"ClipHibernationModel", "readsFeed", "()Z"⟩, 22)]
theorem lw_r8 : ∀ q ∈ lw_privs_8, lw_okq q := List.forall_mem_cons.mpr ⟨lw_p112, List.forall_mem_cons.mpr ⟨lw_p113, List.forall_mem_cons.mpr ⟨lw_p114, List.forall_mem_cons.mpr ⟨lw_p115, List.forall_mem_cons.mpr ⟨lw_p116, List.forall_mem_cons.mpr ⟨lw_p117, List.forall_mem_cons.mpr ⟨lw_p118, List.forall_mem_cons.mpr ⟨lw_p119, List.forall_mem_cons.mpr ⟨lw_p120, List.forall_mem_cons.mpr ⟨lw_p121, List.forall_mem_cons.mpr ⟨lw_p122, List.forall_mem_cons.mpr ⟨lw_p123, List.forall_mem_cons.mpr ⟨lw_p124, List.forall_mem_cons.mpr ⟨lw_p125, List.forall_mem_cons.mpr ⟨lw_p126, List.forall_mem_cons.mpr ⟨lw_p127, fun _ h => absurd h List.not_mem_nil⟩⟩⟩⟩⟩⟩⟩⟩⟩⟩⟩⟩⟩⟩⟩⟩
theorem lw_p128 : lw_okq (⟨"ClipHibernationModel", "canFeed", "(II)Z"⟩, 22) := ⟨⟨by decide +kernel, by decide +kernel⟩, List.mem_of_getElem? (i := 1202) (by decide +kernel), List.mem_of_getElem? (i := 1427) (by decide +kernel), List.mem_of_getElem? (i := 1428) (by decide +kernel)⟩
theorem lw_p129 : lw_okq (⟨"ClipHibernationModel", "feeds", "(II)I"⟩, 22) := ⟨⟨by decide +kernel, by decide +kernel⟩, List.mem_of_getElem? (i := 1202) (by decide +kernel), List.mem_of_getElem? (i := 1431) (by decide +kernel), List.mem_of_getElem? (i := 1432) (by decide +kernel)⟩
theorem lw_p130 : lw_okq (⟨"ClipHibernationModel", "readsFood", "()Z"⟩, 22) := ⟨⟨by decide +kernel, by decide +kernel⟩, List.mem_of_getElem? (i := 1202) (by decide +kernel), List.mem_of_getElem? (i := 1435) (by decide +kernel), List.mem_of_getElem? (i := 1436) (by decide +kernel)⟩
theorem lw_p131 : lw_okq (⟨"ClipHibernationModel", "readsPaint", "()Z"⟩, 22) := ⟨⟨by decide +kernel, by decide +kernel⟩, List.mem_of_getElem? (i := 1202) (by decide +kernel), List.mem_of_getElem? (i := 1439) (by decide +kernel), List.mem_of_getElem? (i := 1440) (by decide +kernel)⟩
theorem lw_p132 : lw_okq (⟨"ClipHibernationModel", "paints", "(III)I"⟩, 22) := ⟨⟨by decide +kernel, by decide +kernel⟩, List.mem_of_getElem? (i := 1202) (by decide +kernel), List.mem_of_getElem? (i := 1443) (by decide +kernel), List.mem_of_getElem? (i := 1444) (by decide +kernel)⟩
theorem lw_p133 : lw_okq (⟨"ClipHibernationModel", "readsWeeks", "()Z"⟩, 22) := ⟨⟨by decide +kernel, by decide +kernel⟩, List.mem_of_getElem? (i := 1202) (by decide +kernel), List.mem_of_getElem? (i := 1447) (by decide +kernel), List.mem_of_getElem? (i := 1448) (by decide +kernel)⟩
theorem lw_p134 : lw_okq (⟨"ClipHibernationModel", "passes", "(I)I"⟩, 22) := ⟨⟨by decide +kernel, by decide +kernel⟩, List.mem_of_getElem? (i := 1202) (by decide +kernel), List.mem_of_getElem? (i := 1451) (by decide +kernel), List.mem_of_getElem? (i := 1452) (by decide +kernel)⟩
theorem lw_p135 : lw_okq (⟨"ClipHibernationModel", "burns", "(I)Z"⟩, 22) := ⟨⟨by decide +kernel, by decide +kernel⟩, List.mem_of_getElem? (i := 1202) (by decide +kernel), List.mem_of_getElem? (i := 1455) (by decide +kernel), List.mem_of_getElem? (i := 1456) (by decide +kernel)⟩
theorem lw_p136 : lw_okq (⟨"ClipHibernationModel", "type", "(I)V"⟩, 22) := ⟨⟨by decide +kernel, by decide +kernel⟩, List.mem_of_getElem? (i := 1202) (by decide +kernel), List.mem_of_getElem? (i := 1536) (by decide +kernel), List.mem_of_getElem? (i := 1537) (by decide +kernel)⟩
theorem lw_p137 : lw_okq (⟨"ClipHibernationModel", "throwsOne", "(Z)Z"⟩, 22) := ⟨⟨by decide +kernel, by decide +kernel⟩, List.mem_of_getElem? (i := 1202) (by decide +kernel), List.mem_of_getElem? (i := 1544) (by decide +kernel), List.mem_of_getElem? (i := 1545) (by decide +kernel)⟩
theorem lw_p138 : lw_okq (⟨"ClipHibernationModel", "begins", "()V"⟩, 22) := ⟨⟨by decide +kernel, by decide +kernel⟩, List.mem_of_getElem? (i := 1202) (by decide +kernel), List.mem_of_getElem? (i := 1552) (by decide +kernel), List.mem_of_getElem? (i := 1553) (by decide +kernel)⟩
theorem lw_p139 : lw_okq (⟨"ClipHibernationModel", "remember", "(I)I"⟩, 22) := ⟨⟨by decide +kernel, by decide +kernel⟩, List.mem_of_getElem? (i := 1202) (by decide +kernel), List.mem_of_getElem? (i := 1556) (by decide +kernel), List.mem_of_getElem? (i := 1557) (by decide +kernel)⟩
theorem lw_p140 : lw_okq (⟨"ClipHibernationModel", "throwsOne", "(ZZ)Z"⟩, 22) := ⟨⟨by decide +kernel, by decide +kernel⟩, List.mem_of_getElem? (i := 1202) (by decide +kernel), List.mem_of_getElem? (i := 1564) (by decide +kernel), List.mem_of_getElem? (i := 1565) (by decide +kernel)⟩
theorem lw_p141 : lw_okq (⟨"ClipHibernationModel", "isClip", "(I)Z"⟩, 22) := ⟨⟨by decide +kernel, by decide +kernel⟩, List.mem_of_getElem? (i := 1202) (by decide +kernel), List.mem_of_getElem? (i := 1580) (by decide +kernel), List.mem_of_getElem? (i := 1581) (by decide +kernel)⟩
theorem lw_p142 : lw_okq (⟨"ClipHibernationModel", "isReel", "(I)Z"⟩, 22) := ⟨⟨by decide +kernel, by decide +kernel⟩, List.mem_of_getElem? (i := 1202) (by decide +kernel), List.mem_of_getElem? (i := 1584) (by decide +kernel), List.mem_of_getElem? (i := 1585) (by decide +kernel)⟩
theorem lw_p143 : lw_okq (⟨"ClipHibernationModel", "isScene", "(I)Z"⟩, 22) := ⟨⟨by decide +kernel, by decide +kernel⟩, List.mem_of_getElem? (i := 1202) (by decide +kernel), List.mem_of_getElem? (i := 1596) (by decide +kernel), List.mem_of_getElem? (i := 1597) (by decide +kernel)⟩
def lw_privs_9 : List (MethodName × Nat) := [(⟨"ClipHibernationModel", "canFeed", "(II)Z"⟩, 22), (⟨"ClipHibernationModel", "feeds", "(II)I"⟩, 22), (⟨"ClipHibernationModel", "readsFood", "()Z"⟩, 22), (⟨"ClipHibernationModel", "readsPaint", "()Z"⟩, 22), (⟨"ClipHibernationModel", "paints", "(III)I"⟩, 22), (⟨"ClipHibernationModel", "readsWeeks", "()Z"⟩, 22), (⟨"ClipHibernationModel", "passes", "(I)I"⟩, 22), (⟨"ClipHibernationModel", "burns", "(I)Z"⟩, 22), (⟨"ClipHibernationModel", "type", "(I)V"⟩, 22), (⟨"ClipHibernationModel", "throwsOne", "(Z)Z"⟩, 22), (⟨"ClipHibernationModel", "begins", "()V"⟩, 22), (⟨"ClipHibernationModel", "remember", "(I)I"⟩, 22), (⟨"ClipHibernationModel", "throwsOne", "(ZZ)Z"⟩, 22), (⟨"ClipHibernationModel", "isClip", "(I)Z"⟩, 22), (⟨"ClipHibernationModel", "isReel", "(I)Z"⟩, 22), (⟨"ClipHibernationModel", "isScene", "(I)Z"⟩, 22)]
theorem lw_r9 : ∀ q ∈ lw_privs_9, lw_okq q := List.forall_mem_cons.mpr ⟨lw_p128, List.forall_mem_cons.mpr ⟨lw_p129, List.forall_mem_cons.mpr ⟨lw_p130, List.forall_mem_cons.mpr ⟨lw_p131, List.forall_mem_cons.mpr ⟨lw_p132, List.forall_mem_cons.mpr ⟨lw_p133, List.forall_mem_cons.mpr ⟨lw_p134, List.forall_mem_cons.mpr ⟨lw_p135, List.forall_mem_cons.mpr ⟨lw_p136, List.forall_mem_cons.mpr ⟨lw_p137, List.forall_mem_cons.mpr ⟨lw_p138, List.forall_mem_cons.mpr ⟨lw_p139, List.forall_mem_cons.mpr ⟨lw_p140, List.forall_mem_cons.mpr ⟨lw_p141, List.forall_mem_cons.mpr ⟨lw_p142, List.forall_mem_cons.mpr ⟨lw_p143, fun _ h => absurd h List.not_mem_nil⟩⟩⟩⟩⟩⟩⟩⟩⟩⟩⟩⟩⟩⟩⟩⟩
theorem lw_p144 : lw_okq (⟨"ClipHibernationModel", "throwsOne", "(ZZZ)Z"⟩, 22) := ⟨⟨by decide +kernel, by decide +kernel⟩, List.mem_of_getElem? (i := 1202) (by decide +kernel), List.mem_of_getElem? (i := 1611) (by decide +kernel), List.mem_of_getElem? (i := 1612) (by decide +kernel)⟩
theorem lw_p145 : lw_okq (⟨"ClipHibernationModel", "told", "(I)I"⟩, 22) := ⟨⟨by decide +kernel, by decide +kernel⟩, List.mem_of_getElem? (i := 1202) (by decide +kernel), List.mem_of_getElem? (i := 1655) (by decide +kernel), List.mem_of_getElem? (i := 1656) (by decide +kernel)⟩
theorem lw_p146 : lw_okq (⟨"ClipHibernationModel", "clipTold", "(II)I"⟩, 22) := ⟨⟨by decide +kernel, by decide +kernel⟩, List.mem_of_getElem? (i := 1202) (by decide +kernel), List.mem_of_getElem? (i := 1683) (by decide +kernel), List.mem_of_getElem? (i := 1684) (by decide +kernel)⟩
theorem lw_p147 : lw_okq (⟨"ClipHibernationModel", "run", "(II)I"⟩, 22) := ⟨⟨by decide +kernel, by decide +kernel⟩, List.mem_of_getElem? (i := 1202) (by decide +kernel), List.mem_of_getElem? (i := 1719) (by decide +kernel), List.mem_of_getElem? (i := 1720) (by decide +kernel)⟩
theorem lw_p148 : lw_okq (⟨"ClipHibernationModel", "runFrom", "(IIII)I"⟩, 22) := ⟨⟨by decide +kernel, by decide +kernel⟩, List.mem_of_getElem? (i := 1202) (by decide +kernel), List.mem_of_getElem? (i := 1723) (by decide +kernel), List.mem_of_getElem? (i := 1724) (by decide +kernel)⟩
theorem lw_p149 : lw_okq (⟨"ClipHibernationModel", "throwsPair", "(II)Z"⟩, 22) := ⟨⟨by decide +kernel, by decide +kernel⟩, List.mem_of_getElem? (i := 1202) (by decide +kernel), List.mem_of_getElem? (i := 1756) (by decide +kernel), List.mem_of_getElem? (i := 1757) (by decide +kernel)⟩
theorem lw_p150 : lw_okq (⟨"ClipHibernationModel", "looks", "(II)I"⟩, 22) := ⟨⟨by decide +kernel, by decide +kernel⟩, List.mem_of_getElem? (i := 1202) (by decide +kernel), List.mem_of_getElem? (i := 1772) (by decide +kernel), List.mem_of_getElem? (i := 1773) (by decide +kernel)⟩
theorem lw_p151 : lw_okq (⟨"ClipHibernationModel", "setAside", "()V"⟩, 22) := ⟨⟨by decide +kernel, by decide +kernel⟩, List.mem_of_getElem? (i := 1202) (by decide +kernel), List.mem_of_getElem? (i := 1784) (by decide +kernel), List.mem_of_getElem? (i := 1785) (by decide +kernel)⟩
theorem lw_p152 : lw_okq (⟨"ClipHibernationModel", "looksTogether", "(I)I"⟩, 22) := ⟨⟨by decide +kernel, by decide +kernel⟩, List.mem_of_getElem? (i := 1202) (by decide +kernel), List.mem_of_getElem? (i := 1788) (by decide +kernel), List.mem_of_getElem? (i := 1789) (by decide +kernel)⟩
theorem lw_p153 : lw_okq (⟨"ClipHibernationModel", "bringBack", "()V"⟩, 22) := ⟨⟨by decide +kernel, by decide +kernel⟩, List.mem_of_getElem? (i := 1202) (by decide +kernel), List.mem_of_getElem? (i := 1792) (by decide +kernel), List.mem_of_getElem? (i := 1793) (by decide +kernel)⟩
theorem lw_p154 : lw_okq (⟨"ClipHibernationModel", "part", "(III)I"⟩, 22) := ⟨⟨by decide +kernel, by decide +kernel⟩, List.mem_of_getElem? (i := 1202) (by decide +kernel), List.mem_of_getElem? (i := 1824) (by decide +kernel), List.mem_of_getElem? (i := 1825) (by decide +kernel)⟩
theorem lw_p155 : lw_okq (⟨"ClipHibernationModel", "isAlone", "(II)Z"⟩, 22) := ⟨⟨by decide +kernel, by decide +kernel⟩, List.mem_of_getElem? (i := 1202) (by decide +kernel), List.mem_of_getElem? (i := 1828) (by decide +kernel), List.mem_of_getElem? (i := 1829) (by decide +kernel)⟩
theorem lw_p156 : lw_okq (⟨"ClipHibernationModel", "setOf", "(I)I"⟩, 22) := ⟨⟨by decide +kernel, by decide +kernel⟩, List.mem_of_getElem? (i := 1202) (by decide +kernel), List.mem_of_getElem? (i := 1844) (by decide +kernel), List.mem_of_getElem? (i := 1845) (by decide +kernel)⟩
theorem lw_p157 : lw_okq (⟨"ClipHibernationModel", "manyOf", "(I)I"⟩, 22) := ⟨⟨by decide +kernel, by decide +kernel⟩, List.mem_of_getElem? (i := 1202) (by decide +kernel), List.mem_of_getElem? (i := 1852) (by decide +kernel), List.mem_of_getElem? (i := 1853) (by decide +kernel)⟩
theorem lw_p158 : lw_okq (⟨"ClipHibernationModel", "allFat", "()I"⟩, 22) := ⟨⟨by decide +kernel, by decide +kernel⟩, List.mem_of_getElem? (i := 1202) (by decide +kernel), List.mem_of_getElem? (i := 1856) (by decide +kernel), List.mem_of_getElem? (i := 1857) (by decide +kernel)⟩
theorem lw_p159 : lw_okq (⟨"ClipHibernationModel", "isLost", "(I)Z"⟩, 22) := ⟨⟨by decide +kernel, by decide +kernel⟩, List.mem_of_getElem? (i := 1202) (by decide +kernel), List.mem_of_getElem? (i := 1868) (by decide +kernel), List.mem_of_getElem? (i := 1869) (by decide +kernel)⟩
def lw_privs_10 : List (MethodName × Nat) := [(⟨"ClipHibernationModel", "throwsOne", "(ZZZ)Z"⟩, 22), (⟨"ClipHibernationModel", "told", "(I)I"⟩, 22), (⟨"ClipHibernationModel", "clipTold", "(II)I"⟩, 22), (⟨"ClipHibernationModel", "run", "(II)I"⟩, 22), (⟨"ClipHibernationModel", "runFrom", "(IIII)I"⟩, 22), (⟨"ClipHibernationModel", "throwsPair", "(II)Z"⟩, 22), (⟨"ClipHibernationModel", "looks", "(II)I"⟩, 22), (⟨"ClipHibernationModel", "setAside", "()V"⟩, 22), (⟨"ClipHibernationModel", "looksTogether", "(I)I"⟩, 22), (⟨"ClipHibernationModel", "bringBack", "()V"⟩, 22), (⟨"ClipHibernationModel", "part", "(III)I"⟩, 22), (⟨"ClipHibernationModel", "isAlone", "(II)Z"⟩, 22), (⟨"ClipHibernationModel", "setOf", "(I)I"⟩, 22), (⟨"ClipHibernationModel", "manyOf", "(I)I"⟩, 22), (⟨"ClipHibernationModel", "allFat", "()I"⟩, 22), (⟨"ClipHibernationModel", "isLost", "(I)Z"⟩, 22)]
theorem lw_r10 : ∀ q ∈ lw_privs_10, lw_okq q := List.forall_mem_cons.mpr ⟨lw_p144, List.forall_mem_cons.mpr ⟨lw_p145, List.forall_mem_cons.mpr ⟨lw_p146, List.forall_mem_cons.mpr ⟨lw_p147, List.forall_mem_cons.mpr ⟨lw_p148, List.forall_mem_cons.mpr ⟨lw_p149, List.forall_mem_cons.mpr ⟨lw_p150, List.forall_mem_cons.mpr ⟨lw_p151, List.forall_mem_cons.mpr ⟨lw_p152, List.forall_mem_cons.mpr ⟨lw_p153, List.forall_mem_cons.mpr ⟨lw_p154, List.forall_mem_cons.mpr ⟨lw_p155, List.forall_mem_cons.mpr ⟨lw_p156, List.forall_mem_cons.mpr ⟨lw_p157, List.forall_mem_cons.mpr ⟨lw_p158, List.forall_mem_cons.mpr ⟨lw_p159, fun _ h => absurd h List.not_mem_nil⟩⟩⟩⟩⟩⟩⟩⟩⟩⟩⟩⟩⟩⟩⟩⟩
theorem lw_p160 : lw_okq (⟨"ClipHibernationModel", "bedsWith", "(I)I"⟩, 22) := ⟨⟨by decide +kernel, by decide +kernel⟩, List.mem_of_getElem? (i := 1202) (by decide +kernel), List.mem_of_getElem? (i := 1872) (by decide +kernel), List.mem_of_getElem? (i := 1873) (by decide +kernel)⟩
theorem lw_p161 : lw_okq (⟨"ClipHibernationModel", "write", "(I)V"⟩, 22) := ⟨⟨by decide +kernel, by decide +kernel⟩, List.mem_of_getElem? (i := 1202) (by decide +kernel), List.mem_of_getElem? (i := 1880) (by decide +kernel), List.mem_of_getElem? (i := 1881) (by decide +kernel)⟩
theorem lw_p162 : lw_okq (⟨"ClipHibernationModel", "writeBed", "(I)V"⟩, 22) := ⟨⟨by decide +kernel, by decide +kernel⟩, List.mem_of_getElem? (i := 1202) (by decide +kernel), List.mem_of_getElem? (i := 1884) (by decide +kernel), List.mem_of_getElem? (i := 1885) (by decide +kernel)⟩
theorem lw_p163 : lw_okq (⟨"ClipHibernationModel", "writeNumber", "(I)V"⟩, 22) := ⟨⟨by decide +kernel, by decide +kernel⟩, List.mem_of_getElem? (i := 1202) (by decide +kernel), List.mem_of_getElem? (i := 1888) (by decide +kernel), List.mem_of_getElem? (i := 1889) (by decide +kernel)⟩
def lw_privs_11 : List (MethodName × Nat) := [(⟨"ClipHibernationModel", "bedsWith", "(I)I"⟩, 22), (⟨"ClipHibernationModel", "write", "(I)V"⟩, 22), (⟨"ClipHibernationModel", "writeBed", "(I)V"⟩, 22), (⟨"ClipHibernationModel", "writeNumber", "(I)V"⟩, 22)]
theorem lw_r11 : ∀ q ∈ lw_privs_11, lw_okq q := List.forall_mem_cons.mpr ⟨lw_p160, List.forall_mem_cons.mpr ⟨lw_p161, List.forall_mem_cons.mpr ⟨lw_p162, List.forall_mem_cons.mpr ⟨lw_p163, fun _ h => absurd h List.not_mem_nil⟩⟩⟩⟩
def lw_privs : List (MethodName × Nat) := lw_privs_1 ++ (lw_privs_2 ++ (lw_privs_3 ++ (lw_privs_4 ++ (lw_privs_5 ++ (lw_privs_6 ++ (lw_privs_7 ++ (lw_privs_8 ++ (lw_privs_9 ++ (lw_privs_10 ++ (lw_privs_11))))))))))
def lw_tbl : List Cond := k2_sels lw_privs ++ tables_1
theorem lw_privs_ok : ∀ q ∈ lw_privs, lw_okq q := by
  show ∀ q ∈ lw_privs_1 ++ (lw_privs_2 ++ (lw_privs_3 ++ (lw_privs_4 ++ (lw_privs_5 ++ (lw_privs_6 ++ (lw_privs_7 ++ (lw_privs_8 ++ (lw_privs_9 ++ (lw_privs_10 ++ (lw_privs_11)))))))))), lw_okq q
  exact List.forall_mem_append.mpr ⟨lw_r1, List.forall_mem_append.mpr ⟨lw_r2, List.forall_mem_append.mpr ⟨lw_r3, List.forall_mem_append.mpr ⟨lw_r4, List.forall_mem_append.mpr ⟨lw_r5, List.forall_mem_append.mpr ⟨lw_r6, List.forall_mem_append.mpr ⟨lw_r7, List.forall_mem_append.mpr ⟨lw_r8, List.forall_mem_append.mpr ⟨lw_r9, List.forall_mem_append.mpr ⟨lw_r10, lw_r11⟩⟩⟩⟩⟩⟩⟩⟩⟩⟩
/-- the streams that the claim lets the run draw from -/
abbrev lw_cs : List Choice := [Jvm.Choice.named "NaN.bits"]
theorem lw_bits : nanBits ∈ lw_cs := by first | decide | exact List.mem_cons_self | simp [lw_cs, nanBits]
-- ===== end of PART A; then your names; then what follows =====
end
section
/-! ===== BEGIN words of one list among another's, by their places ===== -/
theorem goodIn_r {big : List Cond} (ws : List Cond) (ps : List Nat) (hp : ws = ps.filterMap (fun i => big[i]?)) (h : ws.all goodWord = true) : GoodIn big ws := by
  intro w hw
  have h1 := List.all_eq_true.mp h w hw
  rw [hp] at hw
  obtain ⟨i, -, hi⟩ := List.mem_filterMap.mp hw
  have hm : w ∈ big := by first | exact List.mem_of_getElem? hi | exact List.getElem?_mem hi
  exact ⟨hm, good_of_word h1⟩
theorem goodIn_app {big a b : List Cond} (ha : GoodIn big a) (hb : GoodIn big b) : GoodIn big (a ++ b) := fun w h => (List.mem_append.mp h).elim (ha w) (hb w)
theorem goodIn_ca {big a b : List Cond} {c : Cond} (ha : GoodIn big (c :: a)) (hb : GoodIn big b) : GoodIn big (c :: (a ++ b)) := fun w h => (List.mem_cons.mp h).elim (fun e => ha w (List.mem_cons.mpr (Or.inl e))) (fun h => (List.mem_append.mp h).elim (fun h => ha w (List.mem_cons.mpr (Or.inr h))) (hb w))
theorem goodIn_sub {big ws : List Cond} (hm : ∀ w ∈ ws, w ∈ big) (h : ws.all goodWord = true) : GoodIn big ws := fun w hw => ⟨hm w hw, good_of_word (List.all_eq_true.mp h w hw)⟩
/-! ===== END ===== -/

/-! ===== BEGIN exceptions that leave a method, and their catching by the caller (launches without stack traces) ===== -/
section VXA
/-! The laws vx_back, vx_callV, vx_callS, vx_callSW, vx_throw0, vx_throwS follow proofs of the library, with one case more: JvmDerived/Free/Laws.lean (Back.of_free), Shelf42/LK1.lean (callV, callS), Shelf/KitTraced.lean (throwNew0V, throwNewS). -/
/-- where a method has thrown q: the class by its name, the cell, what was written, the world -/
def vx_T (XC : String → State → State → Prop) (st : State) (q : Addr) (t : State) (mc ms : Nat) (free : Addr → Prop) : Prop :=
  ∃ (E : String) (ce : Cell) (L : List Loc), XC E st t ∧ t.heap[q]? = some ce ∧ ce.vm = .none ∧ st.vm.findClass E = some ce.cls ∧ st.WarmedH t.vm ∧ st.sameButNew ({ t with vm := st.vm } : State) L mc ms ∧ ∀ z ∈ L, free z.base
def vx_Q (Qc : Array Value → State → Outcome → State → Prop) (XC : String → State → State → Prop) (mc ms : Nat) (free : Addr → Prop) : Array Value → State → Outcome → State → Prop := fun a st o t =>
  (Qc a st o t ∧ ∃ L, FrameEnd st o t L mc ms ∧ ∀ q ∈ L, free q.base) ∨ ∃ q, o = .threw q ∧ vx_T XC st q t mc ms free
/-- a callee that returns or throws -/
def vx_Met (l : Launch) (y : MethodName) (ws : List Cond) (rm : Room) (Pc : Array Value → State → Prop) (Qc : Array Value → State → Outcome → State → Prop) (XC : String → State → State → Prop) (mc ms : Nat) (free : Addr → Prop) : Prop :=
  MetFree l y (headSpec ws rm) Pc (fun _ _ _ _ _ => True) (vx_Q Qc XC mc ms free)
def vx_Post (XC : String → State → State → Prop) (mc ms : Nat) (free : Addr → Prop) : Pt → Array Value → Addr → Pt → Prop := fun A a q B =>
  ∃ (g : JFrame) (mk : MethodId) (t : State) (L : List Loc) (E : String) (ce : Cell), B.U.heap = t.heap ∧ B.U.vm = t.vm ∧ XC E (A.U.calling g mk a) t ∧ t.heap[q]? = some ce ∧ ce.vm = .none ∧ A.U.vm.findClass E = some ce.cls ∧ B.locs = A.locs ++ L ∧ (∀ z ∈ L, free z.base) ∧ B.cells = A.cells + mc ∧ B.slots = A.slots + ms
def vx_Back (l : Launch) (R : Room) (p : Program) (e : Env) (below : List Frame) (s : State) (sargs : Array Value) (y : MethodName) (len W9 : Nat)
    (Pre : Pt → Array Value → Prop) (Post : Pt → Array Value → Option Value → Pt → Prop) (PostX : Pt → Array Value → Addr → Pt → Prop) : Prop :=
  ∀ (m : MethodId) (meth : Method) (c : Code) (A : Pt) (g : JFrame) (ig : Instr) (mk : MethodId) (a : Array Value),
    Stand p l e R s m sargs below meth c A.U A.locs A.cells A.slots → g.method = m → g.locals.size = c.maxLocals → decode c.code g.pc = .ok (ig, len) →
    2 * g.monitorRoom + (g.stack.map fun v => v.category).sum ≤ W9 → A.U.methodNamed? y = some mk → Pre A a →
    (∃ (v : Option Value) (B : Pt), Stand p l e R s m sargs below meth c B.U B.locs B.cells B.slots ∧ Post A a v B ∧
      Steps p.tables e below (doInvoke e (A.U.setTop g) [] mk a).1 (B.U.setTop { g with pc := g.pc + len, stack := v.toList ++ g.stack })) ∨
    (∃ (q : Addr) (B : Pt), Stand p l e R s m sargs below meth c B.U B.locs B.cells B.slots ∧ PostX A a q B ∧
      Steps p.tables e below (doInvoke e (A.U.setTop g) [] mk a).1 ((B.U.setTop g).pushFrame (.throwing q)))
section Payer
variable {l : Launch} {R : Room} {p : Program} {e : Env} {below : List Frame} {s : State} {sargs : Array Value} {y : MethodName} {len W9 : Nat}
theorem vx_back {ws : List Cond} {rm : Room} {Pc : Array Value → State → Prop} {Qc : Array Value → State → Outcome → State → Prop} {XC : String → State → State → Prop} {mc ms : Nat} {free : Addr → Prop} {bytes : ByteArray} {maxL : Nat} {ret : Option FieldType}
    (hM : vx_Met l y ws rm Pc Qc XC mc ms free) (hblind : FrameBlind Pc) (hrc : rm.cells = mc) (hrs : rm.slots = ms)
    (hframes : rm.frames + 1 ≤ R.frames) (hlocals : W9 + (maxL + 11) + rm.locals ≤ R.locals)
    (hws : ∀ w ∈ ws, ∀ a' U, s.WarmedH U.vm → w.before a' U = true) (hcode : Cond.code y bytes maxL ret ∈ ws) (hinit : ∀ a' U, s.WarmedH U.vm → (Cond.initialized y.cls).before a' U = true) :
    vx_Back l R p e below s sargs y len W9 (PreOf R mc ms Pc) (PostOf Qc mc ms free) (vx_Post XC mc ms free) := by
  intro m meth c A g ig mk a X hg hsize hdg hW hn hp
  have h1 : (headSpec ws rm).pre.before a A.U = true := atoms_intro fun w hw => hws w hw _ _ X.warmed
  have h2 : (Cond.code y bytes maxL ret).before a A.U = true := hws _ hcode _ _ X.warmed
  have h3 : (Cond.initialized y.cls).before a A.U = true := hinit _ _ X.warmed
  have h4 : A.cells + (headSpec ws rm).room.cells ≤ R.cells := by rw [show (headSpec ws rm).room.cells = mc from hrc]; exact hp.1
  have h5 : A.slots + (headSpec ws rm).room.slots ≤ R.slots := by rw [show (headSpec ws rm).room.slots = ms from hrs]; exact hp.2.1
  have hPc : Pc a (A.U.calling g mk a) := hblind _ _ _ _ hp.2.2
  obtain ⟨U, Ls, c0, s0⟩ := A
  dsimp only [Pt.U, Pt.locs, Pt.cells, Pt.slots] at h1 h2 h3 h4 h5 X hn hPc ⊢
  obtain ⟨methY, cY, hmY, hcY, -, hlY, -, -, -, -⟩ := Cond.code_spec hn h2
  obtain ⟨kY, hkY, -⟩ := className_of_methodNamed hn
  have hinitY : kY.init = .initialized := Cond.initialized_spec (findClass_of_methodNamed hn) hkY h3
  have h : At U g.method c below := by rw [hg]; exact X.here
  have hlocals9 : W9 + (maxL + 11) + (headSpec ws rm).room.locals ≤ R.locals := hlocals
  have happ : (headSpec ws rm).appliesLoose y e.platform (U.calling g mk a) = true :=
    Spec.appliesLoose_calling (g := g) h hdg hn hkY hinitY
      (X.room_calling (g := g) (R' := (headSpec ws rm).room) hsize hmY hcY hframes (by rw [hlY]; omega) h4 h5) h1
  obtain ⟨mid, hmid⟩ := h.above
  have hfr : (U.setTop g).frames = (.java g :: mid) ++ below := by rw [State.frames_setTop' g h.top, hmid]; rfl
  obtain ⟨o, s₂, hsteps, -, hend, hq⟩ := Steps.callFree hM p X.admits X.cas X.clock (acts := []) hfr happ hPc trivial
  have hq' : vx_Q Qc XC mc ms free a (U.calling g mk a) o s₂ := hq
  rw [State.frames_setTop' g h.top] at hend
  obtain ⟨g₀, hg0⟩ := Option.isSome_iff_exists.mp h.top
  obtain ⟨r, hr⟩ := State.topJava?_eq_some.mp hg0
  have hr' : (({ U with heap := s₂.heap, slotsUsed := s₂.slotsUsed } : State).setVm s₂.vm).frames = .java g₀ :: r := hr
  rcases hq' with ⟨hqc, L, hfe, hL⟩ | ⟨q, rfl, E, ce, L, hx, hce, hcv, hcl, hW₂, hsm, hL⟩
  · obtain ⟨⟨v, rfl⟩, hW₂, e2, q2, q3, q4, q5, q6⟩ := id hfe
    have e3 : s₂ = ({ (U.calling g mk a).setFrames s₂.frames with heap := s₂.heap, slotsUsed := s₂.slotsUsed } : State).setVm s₂.vm := by
      have : s₂ = ({ s₂ with vm := (U.calling g mk a).vm } : State).setVm s₂.vm := rfl
      rw [e2] at this
      exact this
    obtain ⟨c₂, i₂, len₂, hc₂, hd₂, hf₂⟩ := hend
    have hW' : U.WarmedH s₂.vm := hW₂
    have hcc : c₂ = c := by
      have h1 : s₂.code? g.method = U.code? g.method := by
        rw [State.code?_eq, State.code?_eq, hW'.alike.method?]
      exact Option.some.inj (hc₂.symm.trans (h1.trans h.code))
    subst hcc
    have hlen : len₂ = len := by rw [hdg] at hd₂; cases hd₂; rfl
    subst hlen
    have hs₂ : s₂ = (({ U with heap := s₂.heap, slotsUsed := s₂.slotsUsed } : State).setVm s₂.vm).setTop { g with pc := g.pc + len₂, stack := v.toList ++ g.stack } := by
      refine e3.trans ?_
      rw [hf₂, State.calling_eq h.top, State.setFrames_setFrames, State.setTop_of_frames _ hr', hr]
      rfl
    have hsame : U.sameButNew ({ U with heap := s₂.heap, slotsUsed := s₂.slotsUsed } : State) L mc ms := by
      refine ⟨?_, q2, q3, q4, q5, q6⟩
      obtain ⟨t, ht, -⟩ := State.frames_cons hr
      show ({ U with heap := s₂.heap, slotsUsed := s₂.slotsUsed } : State) = { U.setFrames U.frames with heap := s₂.heap, slotsUsed := s₂.slotsUsed }
      rw [State.setFrames_self ht]
    subst hg
    refine Or.inl ⟨v, ⟨(({ U with heap := s₂.heap, slotsUsed := s₂.slotsUsed } : State).setVm s₂.vm), Ls ++ L, c0 + mc, s0 + ms⟩,
      ⟨X.admits, X.cas, X.clock, X.frames, X.room, X.hears, X.method, X.code, (X.here.setHeapUsed s₂.heap s₂.slotsUsed).setVm hW'.alike, X.tail, State.WarmedH.trans X.warmed hW', X.limits, X.bytes, X.same.trans (hsame.setVm s.vm)⟩,
      ⟨g, mk, s₂, L, rfl, rfl, hqc, rfl, hL, rfl, rfl⟩, ?_⟩
    show Steps p.tables e below _ ((({ U with heap := s₂.heap, slotsUsed := s₂.slotsUsed } : State).setVm s₂.vm).setTop { g with pc := g.pc + len₂, stack := v.toList ++ g.stack })
    rw [← hs₂]
    exact hsteps
  · obtain ⟨e2, q2, q3, q4, q5, q6⟩ := id hsm
    have e3 : s₂ = ({ (U.calling g mk a).setFrames s₂.frames with heap := s₂.heap, slotsUsed := s₂.slotsUsed } : State).setVm s₂.vm := by
      have : s₂ = ({ s₂ with vm := (U.calling g mk a).vm } : State).setVm s₂.vm := rfl
      rw [e2] at this
      exact this
    have hf₂ : s₂.frames = .throwing q :: .java g :: U.frames.tail := hend
    have hW' : U.WarmedH s₂.vm := hW₂
    have hs₂ : s₂ = ((({ U with heap := s₂.heap, slotsUsed := s₂.slotsUsed } : State).setVm s₂.vm).setTop g).pushFrame (.throwing q) := by
      refine e3.trans ?_
      rw [hf₂, State.calling_eq h.top, State.setFrames_setFrames, State.pushFrame, State.frames_setTop _ hr', State.setTop_of_frames _ hr', State.setFrames_setFrames, hr]
      rfl
    have hsame : U.sameButNew ({ U with heap := s₂.heap, slotsUsed := s₂.slotsUsed } : State) L mc ms := by
      refine ⟨?_, q2, q3, q4, q5, q6⟩
      obtain ⟨t, ht, -⟩ := State.frames_cons hr
      show ({ U with heap := s₂.heap, slotsUsed := s₂.slotsUsed } : State) = { U.setFrames U.frames with heap := s₂.heap, slotsUsed := s₂.slotsUsed }
      rw [State.setFrames_self ht]
    subst hg
    refine Or.inr ⟨q, ⟨(({ U with heap := s₂.heap, slotsUsed := s₂.slotsUsed } : State).setVm s₂.vm), Ls ++ L, c0 + mc, s0 + ms⟩,
      ⟨X.admits, X.cas, X.clock, X.frames, X.room, X.hears, X.method, X.code, (X.here.setHeapUsed s₂.heap s₂.slotsUsed).setVm hW'.alike, X.tail, State.WarmedH.trans X.warmed hW', X.limits, X.bytes, X.same.trans (hsame.setVm s.vm)⟩,
      ⟨g, mk, s₂, L, E, ce, rfl, rfl, hx, hce, hcv, hcl, rfl, hL, rfl, rfl⟩, ?_⟩
    show Steps p.tables e below _ (((({ U with heap := s₂.heap, slotsUsed := s₂.slotsUsed } : State).setVm s₂.vm).setTop g).pushFrame (.throwing q))
    rw [← hs₂]
    exact hsteps
end Payer
section Calls
variable {p : Program} {l : Launch} {e : Env} {R : Room} {s : State} {m : MethodId} {args : Array Value} {below : List Frame} {meth : Method} {c : Code} {T : State} {locs : List Loc} {cells slots : Nat}
theorem vx_callV (X : Stand p l e R s m args below meth c T locs cells slots) (hexec : p.tables.exec = Jvm.exec) {own C : String} {index : Nat} {y : MethodName} {bytes : ByteArray} {maxL : Nat} {ret : Option FieldType}
    (hown : s.vm.findClass own = some m.cls) (hlink : (Cond.methodLink own index y).before args s = true) (hinst : (Cond.instanceMethod y).before args s = true) (hsel : (Cond.selects C y y).before args s = true)
    (hcode : (Cond.code y bytes maxL ret).before args s = true) (hy : y.cls ≠ "java/lang/invoke/MethodHandle" ∧ y.cls ≠ "java/lang/invoke/VarHandle")
    {W9 : Nat} {Pre : Pt → Array Value → Prop} {Post : Pt → Array Value → Option Value → Pt → Prop} {PostX : Pt → Array Value → Addr → Pt → Prop} (hK : vx_Back l R p e below s args y 3 W9 Pre Post PostX)
    {b : Addr} {cellB : Cell} (hcell : T.heap[b]? = some cellB) (hobj : cellB.vm.isStatics = false) (hcls : s.vm.findClass C = some cellB.cls)
    {g : JFrame} (hg : g.method = m) (hsize : g.locals.size = c.maxLocals) {argsL rest : List Value} (hlen : ∀ sig, parseMethodDescriptor y.desc = some sig → argsL.length = sig.parameters.length)
    (hstack : g.stack = argsL.reverse ++ .ref b :: rest) (hW : 2 * g.monitorRoom + (rest.map fun v => v.category).sum ≤ W9) (hdg : decode c.code g.pc = .ok (.invokevirtual index, 3))
    (hpre : ∀ vm₁, s.WarmedH vm₁ → Pre ⟨T.setVm vm₁, locs, cells, slots⟩ (Value.ref b :: argsL).toArray) :
    (∃ (v : Option Value) (vm₁ : Vm) (B : Pt), s.WarmedH vm₁ ∧ Stand p l e R s m args below meth c B.U B.locs B.cells B.slots ∧ Post ⟨T.setVm vm₁, locs, cells, slots⟩ (Value.ref b :: argsL).toArray v B ∧
      ∀ target, Steps p.tables e below (B.U.setTop { g with pc := g.pc + 3, stack := v.toList ++ rest }) target → Steps p.tables e below (T.setTop g) target) ∨
    (∃ (q : Addr) (vm₁ : Vm) (B : Pt), s.WarmedH vm₁ ∧ Stand p l e R s m args below meth c B.U B.locs B.cells B.slots ∧ PostX ⟨T.setVm vm₁, locs, cells, slots⟩ (Value.ref b :: argsL).toArray q B ∧
      Steps p.tables e below (T.setTop g) ((B.U.setTop { g with stack := rest }).pushFrame (.throwing q))) := by
  obtain ⟨mk, methM, hnamed, hmethM, hstM, habM⟩ := Cond.instanceMethod_spec hinst
  obtain ⟨methM', cM, hmethM', -, -, -, -, -, -, hsigM⟩ := Cond.code_spec hnamed hcode
  cases hmethM.symm.trans hmethM'
  obtain ⟨c2, r2, m2, q1, q2, q3, q4, kP, hkP, hkPi⟩ := Cond.selects_spec hsel
  cases hcls.symm.trans q1
  cases (State.methodFound?_of_named hnamed hy).symm.trans q2
  cases hnamed.symm.trans q3
  have hselP : selectMethod e.platform s.vm cellB.cls mk = .method mk := by rw [Launch.admits_selectMethod X.admits]; exact q4
  obtain ⟨vm₁, X₁, hstep₁⟩ := X.invokevirtual hexec hown hlink hnamed hmethM hstM hkP hkPi hy (a := b) (cell := cellB) hcell
    (fun z h => by rw [h] at hobj; cases hobj) hselP hmethM habM hkP hkPi (g := g) hg (argsL := argsL) (rest := rest) (hlen _ hsigM) hstack hdg
  rcases hK m meth c ⟨T.setVm vm₁, locs, cells, slots⟩ { g with stack := rest } (.invokevirtual index) mk (Value.ref b :: argsL).toArray X₁ hg hsize hdg hW (X₁.named hnamed) (hpre vm₁ X₁.warmed) with ⟨v, B, X', hpost, hsteps⟩ | ⟨q, B, X', hpost, hsteps⟩
  · exact Or.inl ⟨v, vm₁, B, X₁.warmed, X', hpost, fun target h => hstep₁ _ fun acts => by rw [doInvoke_state]; exact hsteps.trans h⟩
  · exact Or.inr ⟨q, vm₁, B, X₁.warmed, X', hpost, hstep₁ _ fun acts => by rw [doInvoke_state]; exact hsteps⟩
theorem vx_callS (X : Stand p l e R s m args below meth c T locs cells slots) (hexec : p.tables.exec = Jvm.exec) {own : String} {index : Nat} {y : MethodName} {bytes : ByteArray} {maxL : Nat} {ret : Option FieldType}
    (hown : s.vm.findClass own = some m.cls) (hlink : (Cond.methodLink own index y).before args s = true) (hstat : (Cond.static y).before args s = true) (hinit : (Cond.initialized y.cls).before args s = true)
    (hcode : (Cond.code y bytes maxL ret).before args s = true) (hy : y.cls ≠ "java/lang/invoke/MethodHandle" ∧ y.cls ≠ "java/lang/invoke/VarHandle")
    {W9 : Nat} {Pre : Pt → Array Value → Prop} {Post : Pt → Array Value → Option Value → Pt → Prop} {PostX : Pt → Array Value → Addr → Pt → Prop} (hK : vx_Back l R p e below s args y 3 W9 Pre Post PostX)
    {g : JFrame} (hg : g.method = m) (hsize : g.locals.size = c.maxLocals) {argsL rest : List Value} (hlen : ∀ sig, parseMethodDescriptor y.desc = some sig → argsL.length = sig.parameters.length)
    (hstack : g.stack = argsL.reverse ++ rest) (hW : 2 * g.monitorRoom + (rest.map fun v => v.category).sum ≤ W9) (hdg : decode c.code g.pc = .ok (.invokestatic index, 3))
    (hpre : ∀ vm₁, s.WarmedH vm₁ → Pre ⟨T.setVm vm₁, locs, cells, slots⟩ argsL.toArray) :
    (∃ (v : Option Value) (vm₁ : Vm) (B : Pt), s.WarmedH vm₁ ∧ Stand p l e R s m args below meth c B.U B.locs B.cells B.slots ∧ Post ⟨T.setVm vm₁, locs, cells, slots⟩ argsL.toArray v B ∧
      ∀ target, Steps p.tables e below (B.U.setTop { g with pc := g.pc + 3, stack := v.toList ++ rest }) target → Steps p.tables e below (T.setTop g) target) ∨
    (∃ (q : Addr) (vm₁ : Vm) (B : Pt), s.WarmedH vm₁ ∧ Stand p l e R s m args below meth c B.U B.locs B.cells B.slots ∧ PostX ⟨T.setVm vm₁, locs, cells, slots⟩ argsL.toArray q B ∧
      Steps p.tables e below (T.setTop g) ((B.U.setTop { g with stack := rest }).pushFrame (.throwing q))) := by
  obtain ⟨mk, hnamed⟩ := Cond.code_named hcode
  obtain ⟨methM, cM, hmethM, -, -, -, -, -, -, hsigM⟩ := Cond.code_spec hnamed hcode
  have hstatic : methM.isStatic = true := Cond.static_spec hnamed hmethM hstat
  obtain ⟨kP, hkP, -⟩ := className_of_methodNamed hnamed
  have hinitP : kP.init = .initialized := Cond.initialized_spec (findClass_of_methodNamed hnamed) hkP hinit
  obtain ⟨vm₁, X₁, hstep₁⟩ := X.invokestatic hexec hown hlink hnamed hmethM hstatic hkP hinitP hy (g := g) hg (argsL := argsL) (rest := rest) (hlen _ hsigM) hstack hdg
  rcases hK m meth c ⟨T.setVm vm₁, locs, cells, slots⟩ { g with stack := rest } (.invokestatic index) mk argsL.toArray X₁ hg hsize hdg hW (X₁.named hnamed) (hpre vm₁ X₁.warmed) with ⟨v, B, X', hpost, hsteps⟩ | ⟨q, B, X', hpost, hsteps⟩
  · exact Or.inl ⟨v, vm₁, B, X₁.warmed, X', hpost, fun target h => hstep₁ _ fun acts => by rw [doInvoke_state]; exact hsteps.trans h⟩
  · exact Or.inr ⟨q, vm₁, B, X₁.warmed, X', hpost, hstep₁ _ fun acts => by rw [doInvoke_state]; exact hsteps⟩
end Calls
theorem vx_cls {s : State} {T : State} {vm₁ : Vm} {E : String} {k : ClassId} (hW : s.WarmedH vm₁) (h : (T.setVm vm₁).vm.findClass E = some k) : s.vm.findClass E = some k := by
  have h1 : vm₁.findClass E = some k := h
  rw [hW.alike.findClass] at h1
  exact h1
/-- the method's frame g, with q thrown over it -/
def vx_W (p : Program) (l : Launch) (e : Env) (R : Room) (s : State) (m : MethodId) (args : Array Value) (below : List Frame) (meth : Method) (c : Code) (H : Heap) (locs : List Loc) (cells slots : Nat) (Q : State → Prop) (g : JFrame) (q : Addr) : Prop :=
  ∀ T : State, T.heap = H → Stand p l e R s m args below meth c T locs cells slots → ∃ t, Steps p.tables e below ((T.setTop g).pushFrame (.throwing q)) t ∧ Q t
def vx_Run (p : Program) (l : Launch) (e : Env) (R : Room) (s : State) (m : MethodId) (args : Array Value) (below : List Frame) (meth : Method) (c : Code) (H : Heap) (locs : List Loc) (cells slots mc ms : Nat) (g : JFrame) (rest : List Value) (Qa : State → Outcome → State → Prop) (XC : String → State → State → Prop) (free : Addr → Prop) : Prop :=
  ∀ T : State, T.heap = H → Stand p l e R s m args below meth c T locs cells slots →
    (∃ (v : Option Value) (st₀ t T' : State) (L : List Loc), st₀.heap = H ∧ Stand p l e R s m args below meth c T' (locs ++ L) (cells + mc) (slots + ms) ∧ (∀ q ∈ L, free q.base) ∧ T'.heap = t.heap ∧ T'.vm = t.vm ∧ Qa st₀ (.returned v) t ∧
      Goes p e below T g T' { g with pc := g.pc + 3, stack := v.toList ++ rest }) ∨
    (∃ (q : Addr) (st₀ t T' : State) (L : List Loc) (E : String) (ce : Cell), st₀.heap = H ∧ Stand p l e R s m args below meth c T' (locs ++ L) (cells + mc) (slots + ms) ∧ (∀ z ∈ L, free z.base) ∧ T'.heap = t.heap ∧ T'.vm = t.vm ∧ XC E st₀ t ∧ t.heap[q]? = some ce ∧ ce.vm = .none ∧ s.vm.findClass E = some ce.cls ∧
      Steps p.tables e below (T.setTop g) ((T'.setTop { g with stack := rest }).pushFrame (.throwing q)))
def vx_X {S : Type} (px : S → Prop) (B : String → S → State → Prop) (A : Nat → Prop) : String → State → State → Prop := fun E st t => ∃ u : S, px u ∧ B E u t ∧ va_F A st t
section Runs
variable {p : Program} {l : Launch} {e : Env} {R : Room} {s : State} {m : MethodId} {args : Array Value} {below : List Frame} {meth : Method} {c : Code} {H : Heap} {locs : List Loc} {cells slots : Nat}
variable {y : MethodName} {bytes cc : ByteArray} {maxL nL mc ms n index : Nat} {ret : Option FieldType} {ws : List Cond} {rm : Room} {Pc : Array Value → State → Prop} {Qc : Array Value → State → Outcome → State → Prop} {XC : String → State → State → Prop} {free : Addr → Prop} {Ts : List Cond} {own C : String} {b : Addr} {As rest : List Value} {g : JFrame}
theorem vx_callBack (cb : CallB R s args own index y bytes maxL ret ws rm mc ms n) (hM : vx_Met l y ws rm Pc Qc XC mc ms free) (hbl : FrameBlind Pc) : vx_Back l R p e below s args y 3 8 (PreOf R mc ms Pc) (PostOf Qc mc ms free) (vx_Post XC mc ms free) := by
  obtain ⟨hrc, hrs, hfr, hlo, hws, hcw, -, hini, -⟩ := cb
  exact vx_back (bytes := bytes) (maxL := maxL) (ret := ret) hM hbl hrc hrs hfr hlo hws hcw (fun a' U hW => word_at hW (Or.inl (by first | rfl | simp [Cond.onTables, Cond.keeps, Cond.steady])) hini)
theorem vx_runV (S : CallFix p m c cc nL s args Ts own) (hM : vx_Met l y ws rm Pc Qc XC mc ms free) (cw : CallW R s args own C index y bytes maxL ret ws rm mc ms n) (hp : PreV s H C b Pc As)
    (hg : g.method = m) (hn : As.length = n) (hsize : g.locals.size = nL) (hstack : g.stack = As.reverse ++ .ref b :: rest) (hW : 2 * g.monitorRoom + (rest.map fun v => v.category).sum ≤ 8) (hdg : decode cc g.pc = .ok (.invokevirtual index, 3)) (hf : cells + mc ≤ R.cells ∧ slots + ms ≤ R.slots) :
    vx_Run p l e R s m args below meth c H locs cells slots mc ms g rest (Qc (Value.ref b :: As).toArray) XC free := by
  have hK : vx_Back l R p e below s args y 3 8 (PreOf R mc ms Pc) (PostOf Qc mc ms free) (vx_Post XC mc ms free) := vx_callBack cw.1 hM hp.1
  obtain ⟨⟨-, -, -, -, -, -, hcode, -, hy, hlen, hl⟩, hin, hse⟩ := cw
  obtain ⟨hx, hb, hml, ho, -⟩ := S
  obtain ⟨-, ⟨cellB, hcB, hoB, hclB⟩, hPc⟩ := hp
  intro T hT X
  rcases vx_callV X hx (C := C) (bytes := bytes) (maxL := maxL) (ret := ret) ho hl hin hse hcode hy hK (by rw [hT]; exact hcB) hoB hclB hg (hsize.trans hml.symm) (argsL := As) (rest := rest) (fun sig h => hn.trans (hlen sig h)) hstack hW (by rw [hb]; exact hdg)
    (fun vm₁ hW₁ => ⟨hf.1, hf.2, hPc (T.setVm vm₁) hT hW₁⟩) with ⟨v, vm₁, ⟨U', l2, c2, s2⟩, hW₁, X', ⟨g', mk, t, L, e1, e2, hq, h1, hL, h2, h3⟩, st⟩ | ⟨q, vm₁, ⟨U', l2, c2, s2⟩, hW₁, X', ⟨g', mk, t, L, E, ce, e1, e2, hq, hce, hcv, hcl, h1, hL, h2, h3⟩, st⟩
  · dsimp only [Pt.U, Pt.locs, Pt.cells, Pt.slots] at X' e1 e2 h1 h2 h3 st
    subst h1; subst h2; subst h3
    exact Or.inl ⟨v, (T.setVm vm₁).calling g' mk (Value.ref b :: As).toArray, t, U', L, hT, X', hL, e1, e2, hq, st⟩
  · dsimp only [Pt.U, Pt.locs, Pt.cells, Pt.slots] at X' e1 e2 h1 h2 h3 st hcl
    subst h1; subst h2; subst h3
    exact Or.inr ⟨q, (T.setVm vm₁).calling g' mk (Value.ref b :: As).toArray, t, U', L, E, ce, hT, X', hL, e1, e2, hq, hce, hcv, vx_cls hW₁ hcl, st⟩
theorem vx_runS (S : CallFix p m c cc nL s args Ts own) (hM : vx_Met l y ws rm Pc Qc XC mc ms free) (cw : CallB R s args own index y bytes maxL ret ws rm mc ms n ∧ (Cond.static y).before args s = true) (hp : PreS s H Pc As)
    (hg : g.method = m) (hn : As.length = n) (hsize : g.locals.size = nL) (hstack : g.stack = As.reverse ++ rest) (hW : 2 * g.monitorRoom + (rest.map fun v => v.category).sum ≤ 8) (hdg : decode cc g.pc = .ok (.invokestatic index, 3)) (hf : cells + mc ≤ R.cells ∧ slots + ms ≤ R.slots) :
    vx_Run p l e R s m args below meth c H locs cells slots mc ms g rest (Qc As.toArray) XC free := by
  have hK : vx_Back l R p e below s args y 3 8 (PreOf R mc ms Pc) (PostOf Qc mc ms free) (vx_Post XC mc ms free) := vx_callBack cw.1 hM hp.1
  obtain ⟨⟨-, -, -, -, -, -, hcode, hini, hy, hlen, hl⟩, hstt⟩ := cw
  obtain ⟨hx, hb, hml, ho, -⟩ := S
  intro T hT X
  rcases vx_callS X hx (bytes := bytes) (maxL := maxL) (ret := ret) ho hl hstt hini hcode hy hK hg (hsize.trans hml.symm) (argsL := As) (rest := rest) (fun sig h => hn.trans (hlen sig h)) hstack hW (by rw [hb]; exact hdg)
    (fun vm₁ hW₁ => ⟨hf.1, hf.2, hp.2 (T.setVm vm₁) hT hW₁⟩) with ⟨v, vm₁, ⟨U', l2, c2, s2⟩, hW₁, X', ⟨g', mk, t, L, e1, e2, hq, h1, hL, h2, h3⟩, st⟩ | ⟨q, vm₁, ⟨U', l2, c2, s2⟩, hW₁, X', ⟨g', mk, t, L, E, ce, e1, e2, hq, hce, hcv, hcl, h1, hL, h2, h3⟩, st⟩
  · dsimp only [Pt.U, Pt.locs, Pt.cells, Pt.slots] at X' e1 e2 h1 h2 h3 st
    subst h1; subst h2; subst h3
    exact Or.inl ⟨v, (T.setVm vm₁).calling g' mk As.toArray, t, U', L, hT, X', hL, e1, e2, hq, st⟩
  · dsimp only [Pt.U, Pt.locs, Pt.cells, Pt.slots] at X' e1 e2 h1 h2 h3 st hcl
    subst h1; subst h2; subst h3
    exact Or.inr ⟨q, (T.setVm vm₁).calling g' mk As.toArray, t, U', L, E, ce, hT, X', hL, e1, e2, hq, hce, hcv, vx_cls hW₁ hcl, st⟩
end Runs
section Rows
variable {p : Program} {l : Launch} {e : Env} {R : Room} {s : State} {m : MethodId} {args : Array Value} {below : List Frame} {meth : Method} {c : Code} {H : Heap} {locs : List Loc} {cells slots : Nat} {Q : State → Prop}
variable {mc ms : Nat} {free : Addr → Prop} {A0 A1 : Nat → Prop} {H0 : Heap} {a : Array Value} {pc : Nat} {ls : Array Slot} {st0 rest : List Value}
theorem vx_keep {st₀ t T' : State} {L : List Loc} (h0 : st₀.heap = H) (e1 : T'.heap = t.heap) (hS : va_S A0 H0 H locs) (hA : ∀ q, q < H.size → A1 q → A0 q) (hf : ∀ q, free q → A0 q) (hL : ∀ q ∈ L, free q.base) (hF : va_F A1 st₀ t) :
    H.size ≤ T'.heap.size ∧ (∀ q : Nat, q < H.size → ¬ A1 q → T'.heap[q]? = H[q]?) ∧ va_S A0 H0 T'.heap (locs ++ L) := by
  obtain ⟨hz, hk⟩ := hF
  rw [h0] at hz hk
  exact ⟨by rw [e1]; exact hz, fun q h1 h2 => by rw [e1]; exact hk q h1 h2,
    ⟨Nat.le_trans hS.1 (by rw [e1]; exact hz), fun q h1 h2 => by rw [e1, hk q (Nat.lt_of_lt_of_le h1 hS.1) (fun z => h2 (hA q (Nat.lt_of_lt_of_le h1 hS.1) z))]; exact hS.2.1 q h1 h2, fun q hq => by
      rcases List.mem_append.mp hq with h | h
      · exact hS.2.2 q h
      · exact hf _ (hL q h)⟩⟩
theorem vx_calli {S SX : Type} {post : Int32 → S → Prop} {px : SX → Prop} {B : S → State → Prop} {BX : String → SX → State → Prop} {AX : Nat → Prop} (hr : vx_Run p l e R s m args below meth c H locs cells slots mc ms (F0 m pc ls st0) rest (va_Qi post B A1 a) (vx_X px BX AX) free) (hS : va_S A0 H0 H locs) (hA : ∀ q, q < H.size → A1 q → A0 q) (hf : ∀ q, free q → A0 q) (hAX : ∀ q, q < H.size → AX q → A0 q)
    (kx : ∀ (E : String) (ce : Cell) (q9 : Addr) (u : SX) (t : State) (H1 : Heap) (locs1 : List Loc), t.heap = H1 → s.vm.Alike t.vm → px u → BX E u t → H.size ≤ H1.size → (∀ q : Nat, q < H.size → ¬ AX q → H1[q]? = H[q]?) → va_S A0 H0 H1 locs1 → H1[q9]? = some ce → ce.vm = .none → s.vm.findClass E = some ce.cls → vx_W p l e R s m args below meth c H1 locs1 (cells + mc) (slots + ms) Q (F0 m pc ls rest) q9)
    (kk : ∀ (r : Int32) (u : S) (t : State) (H1 : Heap) (locs1 : List Loc), t.heap = H1 → s.vm.Alike t.vm → post r u → B u t → H.size ≤ H1.size → (∀ q : Nat, q < H.size → ¬ A1 q → H1[q]? = H[q]?) → va_S A0 H0 H1 locs1 → W p l e R s m args below meth c H1 locs1 (cells + mc) (slots + ms) Q (F0 m (pc + 3) ls (.int r :: rest))) : W p l e R s m args below meth c H locs cells slots Q (F0 m pc ls st0) := by
  intro T hT X
  rcases hr T hT X with ⟨v, st₀, t, T', L, h0, X', hL, e1, e2, ⟨⟨r, u, hv, hp, hb⟩, hF⟩, st⟩ | ⟨q, st₀, t, T', L, E, ce, h0, X', hL, e1, e2, ⟨u, hp, hb, hF⟩, hce, hcv, hcl, st⟩
  · cases hv
    obtain ⟨k1, k2, k3⟩ := vx_keep h0 e1 hS hA hf hL hF
    obtain ⟨t2, a1, b1⟩ := kk r u t T'.heap (locs ++ L) e1.symm (by rw [← e2]; exact X'.warmed.alike) hp hb k1 k2 k3 T' rfl X'
    exact ⟨t2, st t2 a1, b1⟩
  · obtain ⟨k1, k2, k3⟩ := vx_keep h0 e1 hS hAX hf hL hF
    obtain ⟨t2, a1, b1⟩ := kx E ce q u t T'.heap (locs ++ L) e1.symm (by rw [← e2]; exact X'.warmed.alike) hp hb k1 k2 k3 (by rw [e1]; exact hce) hcv hcl T' rfl X'
    exact ⟨t2, st.trans a1, b1⟩
theorem vx_calll {S SX : Type} {post : Int64 → S → Prop} {px : SX → Prop} {B : S → State → Prop} {BX : String → SX → State → Prop} {AX : Nat → Prop} (hr : vx_Run p l e R s m args below meth c H locs cells slots mc ms (F0 m pc ls st0) rest (va_Ql post B A1 a) (vx_X px BX AX) free) (hS : va_S A0 H0 H locs) (hA : ∀ q, q < H.size → A1 q → A0 q) (hf : ∀ q, free q → A0 q) (hAX : ∀ q, q < H.size → AX q → A0 q)
    (kx : ∀ (E : String) (ce : Cell) (q9 : Addr) (u : SX) (t : State) (H1 : Heap) (locs1 : List Loc), t.heap = H1 → s.vm.Alike t.vm → px u → BX E u t → H.size ≤ H1.size → (∀ q : Nat, q < H.size → ¬ AX q → H1[q]? = H[q]?) → va_S A0 H0 H1 locs1 → H1[q9]? = some ce → ce.vm = .none → s.vm.findClass E = some ce.cls → vx_W p l e R s m args below meth c H1 locs1 (cells + mc) (slots + ms) Q (F0 m pc ls rest) q9)
    (kk : ∀ (r : Int64) (u : S) (t : State) (H1 : Heap) (locs1 : List Loc), t.heap = H1 → s.vm.Alike t.vm → post r u → B u t → H.size ≤ H1.size → (∀ q : Nat, q < H.size → ¬ A1 q → H1[q]? = H[q]?) → va_S A0 H0 H1 locs1 → W p l e R s m args below meth c H1 locs1 (cells + mc) (slots + ms) Q (F0 m (pc + 3) ls (.long r :: rest))) : W p l e R s m args below meth c H locs cells slots Q (F0 m pc ls st0) := by
  intro T hT X
  rcases hr T hT X with ⟨v, st₀, t, T', L, h0, X', hL, e1, e2, ⟨⟨r, u, hv, hp, hb⟩, hF⟩, st⟩ | ⟨q, st₀, t, T', L, E, ce, h0, X', hL, e1, e2, ⟨u, hp, hb, hF⟩, hce, hcv, hcl, st⟩
  · cases hv
    obtain ⟨k1, k2, k3⟩ := vx_keep h0 e1 hS hA hf hL hF
    obtain ⟨t2, a1, b1⟩ := kk r u t T'.heap (locs ++ L) e1.symm (by rw [← e2]; exact X'.warmed.alike) hp hb k1 k2 k3 T' rfl X'
    exact ⟨t2, st t2 a1, b1⟩
  · obtain ⟨k1, k2, k3⟩ := vx_keep h0 e1 hS hAX hf hL hF
    obtain ⟨t2, a1, b1⟩ := kx E ce q u t T'.heap (locs ++ L) e1.symm (by rw [← e2]; exact X'.warmed.alike) hp hb k1 k2 k3 (by rw [e1]; exact hce) hcv hcl T' rfl X'
    exact ⟨t2, st.trans a1, b1⟩
theorem vx_callf {S SX : Type} {post : UInt32 → S → Prop} {px : SX → Prop} {B : S → State → Prop} {BX : String → SX → State → Prop} {AX : Nat → Prop} (hr : vx_Run p l e R s m args below meth c H locs cells slots mc ms (F0 m pc ls st0) rest (va_Qf post B A1 a) (vx_X px BX AX) free) (hS : va_S A0 H0 H locs) (hA : ∀ q, q < H.size → A1 q → A0 q) (hf : ∀ q, free q → A0 q) (hAX : ∀ q, q < H.size → AX q → A0 q)
    (kx : ∀ (E : String) (ce : Cell) (q9 : Addr) (u : SX) (t : State) (H1 : Heap) (locs1 : List Loc), t.heap = H1 → s.vm.Alike t.vm → px u → BX E u t → H.size ≤ H1.size → (∀ q : Nat, q < H.size → ¬ AX q → H1[q]? = H[q]?) → va_S A0 H0 H1 locs1 → H1[q9]? = some ce → ce.vm = .none → s.vm.findClass E = some ce.cls → vx_W p l e R s m args below meth c H1 locs1 (cells + mc) (slots + ms) Q (F0 m pc ls rest) q9)
    (kk : ∀ (r : UInt32) (u : S) (t : State) (H1 : Heap) (locs1 : List Loc), t.heap = H1 → s.vm.Alike t.vm → post r u → B u t → H.size ≤ H1.size → (∀ q : Nat, q < H.size → ¬ A1 q → H1[q]? = H[q]?) → va_S A0 H0 H1 locs1 → W p l e R s m args below meth c H1 locs1 (cells + mc) (slots + ms) Q (F0 m (pc + 3) ls (.float r :: rest))) : W p l e R s m args below meth c H locs cells slots Q (F0 m pc ls st0) := by
  intro T hT X
  rcases hr T hT X with ⟨v, st₀, t, T', L, h0, X', hL, e1, e2, ⟨⟨r, u, hv, hp, hb⟩, hF⟩, st⟩ | ⟨q, st₀, t, T', L, E, ce, h0, X', hL, e1, e2, ⟨u, hp, hb, hF⟩, hce, hcv, hcl, st⟩
  · cases hv
    obtain ⟨k1, k2, k3⟩ := vx_keep h0 e1 hS hA hf hL hF
    obtain ⟨t2, a1, b1⟩ := kk r u t T'.heap (locs ++ L) e1.symm (by rw [← e2]; exact X'.warmed.alike) hp hb k1 k2 k3 T' rfl X'
    exact ⟨t2, st t2 a1, b1⟩
  · obtain ⟨k1, k2, k3⟩ := vx_keep h0 e1 hS hAX hf hL hF
    obtain ⟨t2, a1, b1⟩ := kx E ce q u t T'.heap (locs ++ L) e1.symm (by rw [← e2]; exact X'.warmed.alike) hp hb k1 k2 k3 (by rw [e1]; exact hce) hcv hcl T' rfl X'
    exact ⟨t2, st.trans a1, b1⟩
theorem vx_calld {S SX : Type} {post : UInt64 → S → Prop} {px : SX → Prop} {B : S → State → Prop} {BX : String → SX → State → Prop} {AX : Nat → Prop} (hr : vx_Run p l e R s m args below meth c H locs cells slots mc ms (F0 m pc ls st0) rest (va_Qd post B A1 a) (vx_X px BX AX) free) (hS : va_S A0 H0 H locs) (hA : ∀ q, q < H.size → A1 q → A0 q) (hf : ∀ q, free q → A0 q) (hAX : ∀ q, q < H.size → AX q → A0 q)
    (kx : ∀ (E : String) (ce : Cell) (q9 : Addr) (u : SX) (t : State) (H1 : Heap) (locs1 : List Loc), t.heap = H1 → s.vm.Alike t.vm → px u → BX E u t → H.size ≤ H1.size → (∀ q : Nat, q < H.size → ¬ AX q → H1[q]? = H[q]?) → va_S A0 H0 H1 locs1 → H1[q9]? = some ce → ce.vm = .none → s.vm.findClass E = some ce.cls → vx_W p l e R s m args below meth c H1 locs1 (cells + mc) (slots + ms) Q (F0 m pc ls rest) q9)
    (kk : ∀ (r : UInt64) (u : S) (t : State) (H1 : Heap) (locs1 : List Loc), t.heap = H1 → s.vm.Alike t.vm → post r u → B u t → H.size ≤ H1.size → (∀ q : Nat, q < H.size → ¬ A1 q → H1[q]? = H[q]?) → va_S A0 H0 H1 locs1 → W p l e R s m args below meth c H1 locs1 (cells + mc) (slots + ms) Q (F0 m (pc + 3) ls (.double r :: rest))) : W p l e R s m args below meth c H locs cells slots Q (F0 m pc ls st0) := by
  intro T hT X
  rcases hr T hT X with ⟨v, st₀, t, T', L, h0, X', hL, e1, e2, ⟨⟨r, u, hv, hp, hb⟩, hF⟩, st⟩ | ⟨q, st₀, t, T', L, E, ce, h0, X', hL, e1, e2, ⟨u, hp, hb, hF⟩, hce, hcv, hcl, st⟩
  · cases hv
    obtain ⟨k1, k2, k3⟩ := vx_keep h0 e1 hS hA hf hL hF
    obtain ⟨t2, a1, b1⟩ := kk r u t T'.heap (locs ++ L) e1.symm (by rw [← e2]; exact X'.warmed.alike) hp hb k1 k2 k3 T' rfl X'
    exact ⟨t2, st t2 a1, b1⟩
  · obtain ⟨k1, k2, k3⟩ := vx_keep h0 e1 hS hAX hf hL hF
    obtain ⟨t2, a1, b1⟩ := kx E ce q u t T'.heap (locs ++ L) e1.symm (by rw [← e2]; exact X'.warmed.alike) hp hb k1 k2 k3 (by rw [e1]; exact hce) hcv hcl T' rfl X'
    exact ⟨t2, st.trans a1, b1⟩
theorem vx_callv {S SX : Type} {post : S → Prop} {px : SX → Prop} {B : S → State → Prop} {BX : String → SX → State → Prop} {AX : Nat → Prop} (hr : vx_Run p l e R s m args below meth c H locs cells slots mc ms (F0 m pc ls st0) rest (va_Qv post B A1 a) (vx_X px BX AX) free) (hS : va_S A0 H0 H locs) (hA : ∀ q, q < H.size → A1 q → A0 q) (hf : ∀ q, free q → A0 q) (hAX : ∀ q, q < H.size → AX q → A0 q)
    (kx : ∀ (E : String) (ce : Cell) (q9 : Addr) (u : SX) (t : State) (H1 : Heap) (locs1 : List Loc), t.heap = H1 → s.vm.Alike t.vm → px u → BX E u t → H.size ≤ H1.size → (∀ q : Nat, q < H.size → ¬ AX q → H1[q]? = H[q]?) → va_S A0 H0 H1 locs1 → H1[q9]? = some ce → ce.vm = .none → s.vm.findClass E = some ce.cls → vx_W p l e R s m args below meth c H1 locs1 (cells + mc) (slots + ms) Q (F0 m pc ls rest) q9)
    (kk : ∀ (u : S) (t : State) (H1 : Heap) (locs1 : List Loc), t.heap = H1 → s.vm.Alike t.vm → post u → B u t → H.size ≤ H1.size → (∀ q : Nat, q < H.size → ¬ A1 q → H1[q]? = H[q]?) → va_S A0 H0 H1 locs1 → W p l e R s m args below meth c H1 locs1 (cells + mc) (slots + ms) Q (F0 m (pc + 3) ls (rest))) : W p l e R s m args below meth c H locs cells slots Q (F0 m pc ls st0) := by
  intro T hT X
  rcases hr T hT X with ⟨v, st₀, t, T', L, h0, X', hL, e1, e2, ⟨⟨u, hv, hp, hb⟩, hF⟩, st⟩ | ⟨q, st₀, t, T', L, E, ce, h0, X', hL, e1, e2, ⟨u, hp, hb, hF⟩, hce, hcv, hcl, st⟩
  · cases hv
    obtain ⟨k1, k2, k3⟩ := vx_keep h0 e1 hS hA hf hL hF
    obtain ⟨t2, a1, b1⟩ := kk u t T'.heap (locs ++ L) e1.symm (by rw [← e2]; exact X'.warmed.alike) hp hb k1 k2 k3 T' rfl X'
    exact ⟨t2, st t2 a1, b1⟩
  · obtain ⟨k1, k2, k3⟩ := vx_keep h0 e1 hS hAX hf hL hF
    obtain ⟨t2, a1, b1⟩ := kx E ce q u t T'.heap (locs ++ L) e1.symm (by rw [← e2]; exact X'.warmed.alike) hp hb k1 k2 k3 (by rw [e1]; exact hce) hcv hcl T' rfl X'
    exact ⟨t2, st.trans a1, b1⟩
/-- caught by the row x of this method's table; the rows ahead don't take it -/
theorem vx_catch {own name : String} {E : String} {ce : Cell} {q : Addr} (hown : s.vm.findClass own = some m.cls) (pre : List ExceptionTableEntry) (x : ExceptionTableEntry) (suf : List ExceptionTableEntry) (hsplit : c.exceptionTable.toList = pre ++ x :: suf)
    (hpass : ∀ z ∈ pre, covers z pc = false ∨ (z.catchType ≠ 0 ∧ ∃ nm : String, (Cond.classLink own z.catchType nm).before args s = true ∧ va_Nc E nm s)) (hx : covers x pc = true) (h0 : x.catchType ≠ 0)
    (hlink : (Cond.classLink own x.catchType name).before args s = true) (hcast : (Cond.castable E name).before args s = true) (hcell : H[q]? = some ce) (hv : ce.vm = .none) (hcl : s.vm.findClass E = some ce.cls)
    (kk : W p l e R s m args below meth c H locs cells slots Q (F0 m x.handlerPc ls [.ref q])) : vx_W p l e R s m args below meth c H locs cells slots Q (F0 m pc ls rest) q := by
  intro T hT X
  have hpl : e.platform.magicAccessors = ({} : Platform).magicAccessors := by rw [X.admits.platform]
  obtain ⟨c3, c4, hc3, hc4, hasg⟩ := Cond.castable_spec hcast
  cases Option.some.inj (hc3.symm.trans hcl)
  obtain ⟨c5, hc5, hcl5⟩ := Cond.classLink_spec hown hlink e.platform hpl
  cases Option.some.inj (hc4.symm.trans hc5)
  obtain ⟨vm', X', st⟩ := X.thenCaughtThrough q (g := F0 m pc ls rest) rfl (Steps.refl _) (by rw [hT]; exact hcell) (by rw [hv]; rfl) (by obtain ⟨k9, h9, -⟩ := Vm.findClass_spec hcl; exact ⟨k9, h9⟩) pre x suf hsplit
    (fun z hz => by
      rcases hpass z hz with h | ⟨hz0, nm, hl1, hn1⟩
      · exact Or.inl h
      · obtain ⟨c6, hc6, hcl6⟩ := Cond.classLink_spec hown hl1 e.platform hpl
        obtain ⟨a8, b8, h1, h2, h3⟩ := hn1
        cases Option.some.inj (h1.symm.trans hcl)
        cases Option.some.inj (h2.symm.trans hc6)
        exact Or.inr ⟨hz0, _, hcl6, h3⟩) hx (Or.inr ⟨h0, c4, hcl5, hasg⟩)
  obtain ⟨t, a1, b1⟩ := kk (T.setVm vm') hT X'
  exact ⟨t, st.trans a1, b1⟩
end Rows
section Ends
variable {p : Program} {l : Launch} {e : Env} {R : Room} {s : State} {m : MethodId} {args : Array Value} {below : List Frame} {meth : Method} {c : Code} {H : Heap} {locs : List Loc} {cells slots : Nat} {Q : State → Prop}
variable {mc ms : Nat} {free : Addr → Prop} {A0 A1 : Nat → Prop} {H0 : Heap} {a : Array Value} {ls : Array Slot} {st0 rest : List Value}
variable {Qc : Array Value → State → Outcome → State → Prop} {XC : String → State → State → Prop}
/-- what a body that may throw owes at its end -/
def vx_MQ (below : List Frame) (Qc : Array Value → State → Outcome → State → Prop) (XC : String → State → State → Prop) (a : Array Value) (s : State) (mc ms : Nat) (free : Addr → Prop) : State → Prop := fun t =>
  ∃ o, t.status = .running ∧ Ended t below o ∧ vx_Q Qc XC mc ms free a s o t
theorem vx_ret {g : JFrame} {mc ms : Nat} (k : W p l e R s m args below meth c H locs cells slots (MQ below Qc args s mc ms free) g) : W p l e R s m args below meth c H locs cells slots (vx_MQ below Qc XC args s mc ms free) g := by
  intro T hT X
  obtain ⟨t, a1, o, b1, b2, b3, b4⟩ := k T hT X
  exact ⟨t, a1, o, b1, b2, Or.inl ⟨b3, b4⟩⟩
/-- not caught here: it goes on to the caller -/
theorem vx_widen {g : JFrame} {q : Addr} {k n : Nat} (h1 : cells ≤ k) (h2 : slots ≤ n) (kk : vx_W p l e R s m args below meth c H locs k n Q g q) : vx_W p l e R s m args below meth c H locs cells slots Q g q := fun T hT X => kk T hT (stand_widen X h1 h2)
theorem vx_out {pc : Nat} {E : String} {ce : Cell} {q : Addr} {mc ms : Nat} (hout : ∀ x ∈ c.exceptionTable.toList, covers x pc = false) (hlocks : meth.locks = false) (hcell : H[q]? = some ce) (hv : ce.vm = .none) (hcl : s.vm.findClass E = some ce.cls)
    (hx : ∀ t : State, t.heap = H → s.vm.Alike t.vm → XC E s t) (hf : ∀ z ∈ locs, free z.base) (hc : cells ≤ mc) (hs : slots ≤ ms) :
    vx_W p l e R s m args below meth c H locs cells slots (vx_MQ below Qc XC args s mc ms free) (F0 m pc ls rest) q := by
  intro T hT X
  obtain ⟨st1, hrun, hend, hW, hsm⟩ := X.leaveThrown q (g := F0 m pc ls rest) rfl rfl rfl hout hlocks
  have hcell9 : (T.setFrames (.throwing q :: below)).heap[q]? = some ce := by
    show T.heap[q]? = some ce
    rw [hT]; exact hcell
  exact ⟨_, st1, .threw q, hrun, hend, Or.inr ⟨q, rfl, E, ce, locs, hx _ hT hW.alike, hcell9, hv, hcl, hW, hsm.mono hc hs, hf⟩⟩
theorem vx_frame {U : State} {k n : Nat} (h : s.sameButNew ({ U with vm := s.vm } : State) locs k n) : s.heap.size ≤ U.heap.size ∧ ∀ q : Nat, q < s.heap.size → (∀ z ∈ locs, z.base ≠ q) → U.heap[q]? = s.heap[q]? := by
  obtain ⟨-, h2, -, -, -, h6⟩ := h
  refine ⟨h2, fun q hq hz => ?_⟩
  obtain ⟨c9, e1, e2, e3, e4⟩ := h6 q _ (Array.getElem?_eq_getElem hq)
  have hs : c9.slots = (s.heap[q]).slots := Array.ext_getElem? fun i => e4 i fun hm => hz _ hm rfl
  have h9 : c9 = s.heap[q] := by
    rw [hs] at e2
    exact e2
  have e5 : U.heap[q]? = some c9 := e1
  rw [e5, h9, Array.getElem?_eq_getElem hq]
/-- the words of a throw but the four that speak of the heap -/
def vx_no (w : Cond) : Bool := decide (w ≠ .isRef (.static Bundle.tN "UNASSIGNED_STACK" Bundle.steD)) && decide (w ≠ .isRef (.static Bundle.tN "SUPPRESSED_SENTINEL" Bundle.listD)) && decide (w ≠ .laysStatic Bundle.tN "UNASSIGNED_STACK" Bundle.steD) && decide (w ≠ .laysStatic Bundle.tN "SUPPRESSED_SENTINEL" Bundle.listD)
def vx_at0 (own : String) (ic : Nat) (X : String) (names : List String) : List Cond := (Bundle.ownAtoms0 own ic X names).filter vx_no
def vx_atS (own : String) (ic : Nat) (X : String) (names : List String) : List Cond := (Bundle.ownAtoms own ic X names).filter vx_no
/-- a word that the tables alone decide, or a good one -/
def vx_ot (w : Cond) : Bool := w.onTables || goodWord w
theorem vx_ot_at {args a' : Array Value} {s U : State} {w : Cond} (hW : s.WarmedH U.vm) (hvm : s.vm = U.vm) (hg : vx_ot w = true) (h : w.before args s = true) : w.before a' U = true := by
  simp only [vx_ot, Bool.or_eq_true] at hg
  rcases hg with hg | hg
  · exact va_tabs hg hvm h
  · exact word_at hW (good_of_word hg) h
/-- a list's words: the good ones out of the method's own list, the others by premises of their own -/
theorem vx_hat {args : Array Value} {s : State} {L B : List Cond} (h1 : ∀ w ∈ L.filter goodWord, w.before args s = true) (h2 : ∀ w ∈ L.filter (fun w => !goodWord w), w ∈ B) (h3 : ∀ w ∈ B, w.before args s = true) : ∀ w ∈ L, w.before args s = true := by
  intro w hw
  by_cases g : goodWord w = true
  · exact h1 w (List.mem_filter.mpr ⟨hw, g⟩)
  · refine h3 w (h2 w (List.mem_filter.mpr ⟨hw, ?_⟩))
    show (!goodWord w) = true
    cases hgw : goodWord w
    · rfl
    · exact absurd hgw g
theorem vx_c {args : Array Value} {s : State} {w : Cond} {B : List Cond} (h : w.before args s = true) (t : ∀ w ∈ B, w.before args s = true) : ∀ w' ∈ w :: B, w'.before args s = true := fun w' h' => (List.mem_cons.mp h').elim (fun e => by rw [e]; exact h) (t w')
theorem vx_n {args : Array Value} {s : State} : ∀ w ∈ ([] : List Cond), w.before args s = true := fun _ h => nomatch h
theorem vx_own {args : Array Value} {s : State} {L : List Cond} (h1 : ∀ w ∈ L.filter vx_no, w.before args s = true)
    (hU : (Cond.isRef (.static Bundle.tN "UNASSIGNED_STACK" Bundle.steD)).before args s = true) (hN : (Cond.isRef (.static Bundle.tN "SUPPRESSED_SENTINEL" Bundle.listD)).before args s = true)
    (lU : (Cond.laysStatic Bundle.tN "UNASSIGNED_STACK" Bundle.steD).before args s = true) (lN : (Cond.laysStatic Bundle.tN "SUPPRESSED_SENTINEL" Bundle.listD).before args s = true) : ∀ w ∈ L, w.before args s = true := by
  intro w hw
  by_cases e1 : w = .isRef (.static Bundle.tN "UNASSIGNED_STACK" Bundle.steD)
  · rw [e1]; exact hU
  · by_cases e2 : w = .isRef (.static Bundle.tN "SUPPRESSED_SENTINEL" Bundle.listD)
    · rw [e2]; exact hN
    · by_cases e3 : w = .laysStatic Bundle.tN "UNASSIGNED_STACK" Bundle.steD
      · rw [e3]; exact lU
      · by_cases e4 : w = .laysStatic Bundle.tN "SUPPRESSED_SENTINEL" Bundle.listD
        · rw [e4]; exact lN
        · exact h1 w (List.mem_filter.mpr ⟨hw, by unfold vx_no; rw [decide_eq_true e1, decide_eq_true e2, decide_eq_true e3, decide_eq_true e4]; rfl⟩)
/-- where a static field lies, its class's statics cell in H -/
def vx_L (C n d : String) (A : Nat → Prop) (U : State) (H : Heap) : Prop := ∃ (c : ClassId) (k : Class) (i : Nat) (f : Field) (a : Nat) (cell : Cell), U.vm.findClass C = some c ∧ U.fieldFound? C n d = some (c, k, i, f) ∧ f.isStatic = true ∧ k.statics = some a ∧ H[a]? = some cell ∧ cell.vm.isStatics = true ∧ cell.cls = c ∧ f.slot < cell.slots.size ∧ k.staticTypes[f.slot]? = some f.type ∧ ¬ A a
theorem vx_L.moved {C n d : String} {A : Nat → Prop} {u U : State} {H : Heap} (hvm : u.vm.Alike U.vm) (h : vx_L C n d A u H) : vx_L C n d A U H := by
  obtain ⟨c, k, i, f, a, cell, h1, h2, h3, h4, h5, h6, h7, h8, h9, h10⟩ := h
  obtain ⟨k', hi', he⟩ := State.fieldFound?_setVm hvm h2
  exact ⟨c, k', i, f, a, cell, by rw [hvm.findClass]; exact h1, hi', h3, by rw [he]; exact h4, h5, h6, h7, h8, by rw [he]; exact h9, h10⟩
theorem vx_L.kept {C n d : String} {A : Nat → Prop} {U : State} {H H1 : Heap} (h : vx_L C n d A U H) (hq : ∀ a : Nat, a < H.size → ¬ A a → H1[a]? = H[a]?) : vx_L C n d A U H1 := by
  obtain ⟨c, k, i, f, a, cell, h1, h2, h3, h4, h5, h6, h7, h8, h9, h10⟩ := h
  exact ⟨c, k, i, f, a, cell, h1, h2, h3, h4, by rw [hq a (Array.getElem?_eq_some_iff.mp h5).1 h10]; exact h5, h6, h7, h8, h9, h10⟩
theorem vx_L.narrow {C n d : String} {A B : Nat → Prop} {U : State} {H : Heap} (h : vx_L C n d A U H) (hAB : ∀ q, B q → A q) : vx_L C n d B U H := by
  obtain ⟨c, k, i, f, a, cell, h1, h2, h3, h4, h5, h6, h7, h8, h9, h10⟩ := h
  exact ⟨c, k, i, f, a, cell, h1, h2, h3, h4, h5, h6, h7, h8, h9, fun z => h10 (hAB _ z)⟩
theorem vx_L.word {C n d : String} {A : Nat → Prop} {s : State} {args : Array Value} (h : vx_L C n d A s s.heap) : (Cond.laysStatic C n d).before args s = true := by
  obtain ⟨c, k, i, f, a, cell, h1, h2, h3, h4, h5, h6, h7, h8, h9, -⟩ := h
  show (Cond.laysStatic C n d).holds args s none s [] = true
  exact Cond.laysStatic_of h1 h2 h3 h4 h5 h6 h7 h8 h9
/-- .. and what it holds: null or some reference -/
def vx_Zq (C n d : String) (A : Nat → Prop) (U : State) (H : Heap) : Prop := va_Zq C n d A U H ∧ vx_L C n d A U H
theorem vx_Zq.moved {C n d : String} {A : Nat → Prop} {u U : State} {H : Heap} (hvm : u.vm.Alike U.vm) (h : vx_Zq C n d A u H) : vx_Zq C n d A U H := ⟨va_Zq.moved hvm h.1, vx_L.moved hvm h.2⟩
theorem vx_Zq.kept {C n d : String} {A : Nat → Prop} {U : State} {H H1 : Heap} (h : vx_Zq C n d A U H) (hq : ∀ a : Nat, a < H.size → ¬ A a → H1[a]? = H[a]?) : vx_Zq C n d A U H1 := ⟨va_Zq.kept h.1 hq, vx_L.kept h.2 hq⟩
theorem vx_Zq.narrow {C n d : String} {A B : Nat → Prop} {U : State} {H : Heap} (h : vx_Zq C n d A U H) (hAB : ∀ q, B q → A q) : vx_Zq C n d B U H := ⟨va_Zq.narrow h.1 hAB, vx_L.narrow h.2 hAB⟩
theorem vx_Zqof {args : Array Value} {s : State} {C n d : String} {A : Nat → Prop} (hl : (Cond.laysStatic C n d).before args s = true) (hini : (Cond.initialized C).before args s = true) (h : (Cond.isRef (.static C n d)).before args s = true) (hA : ∀ a : Nat, a < s.heap.size → ¬ A a) : vx_Zq C n d A s s.heap := by
  refine ⟨va_Zqof hl hini h hA, ?_⟩
  obtain ⟨c, k, i, f, a, cell, h1, h2, h3, h4, h5, h6, h7, h8, h9⟩ := Cond.laysStatic_spec hl
  exact ⟨c, k, i, f, a, cell, h1, h2, h3, h4, h5, h6, h7, h8, h9, hA a (Array.getElem?_eq_some_iff.mp h5).1⟩
theorem vx_isRef {C n d : String} {v : Value} {A : Nat → Prop} {s : State} {args : Array Value} (h : va_Z C n d v A s s.heap) (hv : v.isRef = true) : (Cond.isRef (.static C n d)).before args s = true := by
  obtain ⟨cf, kf, fi, f, a, cell, h1, h2, h3, h4, h5, h6, h7, -⟩ := h
  have he : (Term.static C n d).eval args s none [] s = some v := by
    simp [Term.eval, State.fieldNamed?, h1, h2, h4, h5, h6, h7]
  simp only [Cond.before, Cond.holds, Cond.value, he]
  cases v <;> simp_all [Value.isRef]
theorem vx_isRefq {C n d : String} {A : Nat → Prop} {s : State} {args : Array Value} (h : va_Zq C n d A s s.heap) : (Cond.isRef (.static C n d)).before args s = true := by
  rcases h with h | ⟨t, h⟩
  · exact vx_isRef h rfl
  · exact vx_isRef h rfl
/-- the same frame, seen from here: as if the method were called anew in this heap -/
theorem vx_rebase {T : State} (X : Stand p l e R s m args below meth c T locs cells slots) {R' : Room} (hf : R'.frames ≤ R.frames) (hl : R'.locals ≤ R.locals) (hc : cells + R'.cells ≤ R.cells) (hs : slots + R'.slots ≤ R.slots) :
    Stand p l e R' ((T.setVm s.vm).setFrames (.invoking m args :: below)) m args below meth c T [] 0 0 := by
  have htop : (T.setVm s.vm).topJava?.isSome := X.here.top
  have hF : ((T.setVm s.vm).setFrames (.invoking m args :: below)).frames = .invoking m args :: below := State.frames_setFrames _ (State.cur_lt_of_top htop)
  obtain ⟨g₀, hg0⟩ := Option.isSome_iff_exists.mp htop
  obtain ⟨r, hr⟩ := State.topJava?_eq_some.mp hg0
  have hl9 : e.platform.stackLimits (T.setVm s.vm).me = e.platform.stackLimits s.me := X.limits
  have hb9 : (T.setVm s.vm).me.stackBytes = s.me.stackBytes := X.bytes
  refine ⟨X.admits, X.cas, X.clock, hF, ?_, X.hears, X.method, X.code, X.here, X.tail, X.warmed, ?_, ?_, ?_⟩
  · have h := X.room
    have hU : ((T.setVm s.vm).setFrames (.invoking m args :: below)).localsInUse = s.localsInUse := by
      rw [State.localsInUse_invoking hF (meth := meth) (c := c) X.method X.code, State.localsInUse_invoking X.frames X.method X.code]
    simp only [State.hasRoom, Bool.and_eq_true, decide_eq_true_eq] at h ⊢
    obtain ⟨⟨⟨⟨h1, h2, h3, h4, h5, h6⟩, h7⟩, h8⟩, h9⟩ := h
    rw [X.frames, List.length_cons] at h2 h3
    have q1 := X.heapSize
    have q2 := X.used
    simp only [hF, hU, List.length_cons, State.stackLimits_setFrames, State.stackBytes_setFrames, hl9, hb9]
    refine ⟨⟨⟨⟨by omega, by omega, by omega, by omega, by omega, h6⟩, ?_⟩, ?_⟩, X.book⟩
    · show T.heap.size + R'.cells ≤ e.platform.maxCells
      omega
    · show T.slotsUsed + R'.slots ≤ e.platform.maxSlots
      omega
  · rw [State.stackLimits_setFrames]; rfl
  · rw [State.stackBytes_setFrames]; rfl
  · refine ⟨?_, Nat.le_refl _, Nat.le_refl _, ?_, ?_, fun a c9 h9 => ⟨c9, h9, rfl, rfl, fun _ _ => rfl⟩⟩
    · obtain ⟨t, ht, -⟩ := State.frames_cons hr
      show T.setVm s.vm = { ((T.setVm s.vm).setFrames (.invoking m args :: below)).setFrames (T.setVm s.vm).frames with heap := T.heap, slotsUsed := T.slotsUsed }
      rw [State.setFrames_setFrames, State.setFrames_self ht]
      rfl
    · show T.slotsUsed = T.slotsUsed + ((T.heap.toList.drop T.heap.size).map (·.slots.size)).sum
      rw [List.drop_eq_nil_of_le (Nat.le_of_eq Array.length_toList)]
      rfl
    · show ((T.heap.toList.drop T.heap.size).map (·.slots.size)).sum ≤ 0
      rw [List.drop_eq_nil_of_le (Nat.le_of_eq Array.length_toList)]
      exact Nat.le_refl _
/-- 'throw new E()': new; dup; invokespecial; athrow -/
theorem vx_throw0 {cc : ByteArray} {pc : Nat} (hexec : p.tables.exec = Jvm.exec) (hb : c.code = cc) (hl : l.stackTraces = false) {own cls : String} {names : List String} {ik ic mc ms : Nat} {A : Nat → Prop}
    (hown : s.vm.findClass own = some m.cls) (hcls : Bundle.fit cls = true) (hnames : ∀ n ∈ names, Bundle.fit n = true)
    (hk : (Cond.classLink own ik cls).before args s = true) (hini : (Cond.initialized cls).before args s = true) (hat : ∀ w ∈ vx_at0 own ic cls names, w.before args s = true)
    (hgood : ∀ w ∈ Cond.classLink own ik cls :: Cond.initialized cls :: vx_at0 own ic cls names, vx_ot w = true)
    (hU : vx_Zq Bundle.tN "UNASSIGNED_STACK" Bundle.steD A s s.heap) (hN : vx_Zq Bundle.tN "SUPPRESSED_SENTINEL" Bundle.listD A s s.heap) (hS : va_S A s.heap H locs) (hsize : ls.size = c.maxLocals)
    (d0 : decode cc pc = .ok (.new ik, 3)) (d3 : decode cc (pc + 3) = .ok (.dup, 1)) (d4 : decode cc (pc + 4) = .ok (.invokespecial ic, 3)) (d7 : decode cc (pc + 7) = .ok (.athrow, 1))
    (hout : ∀ x ∈ c.exceptionTable.toList, covers x (pc + 7) = false)
    (hRframes : names.length + 3 < R.frames) (hRlocals : (rest.map fun v => v.category).sum + (13 * (names.length + 1) + 42) ≤ R.locals) (hRcells : cells + 1 ≤ R.cells) (hRslots : slots + 6 ≤ R.slots) (hlocks : meth.locks = false)
    (hx : ∀ t : State, s.vm.Alike t.vm → H.size ≤ t.heap.size → (∀ q : Nat, q < H.size → t.heap[q]? = H[q]?) → XC cls s t)
    (hf : ∀ z ∈ locs, free z.base) (hc : cells + 1 ≤ mc) (hs : slots + 6 ≤ ms) :
    W p l e R s m args below meth c H locs cells slots (vx_MQ below Qc XC args s mc ms free) (F0 m pc ls rest) := by
  intro T hT X
  have htr : e.platform.stackTraces = false := (show e.platform.stackTraces = l.stackTraces by rw [X.admits.platform]).trans hl
  have Y := vx_rebase X (R' := { frames := R.frames, locals := R.locals, cells := 1, slots := 6 }) (Nat.le_refl _) (Nat.le_refl _) hRcells hRslots
  obtain ⟨s', hA⟩ : ∃ z, z = (T.setVm s.vm).setFrames (.invoking m args :: below) := ⟨_, rfl⟩
  rw [← hA] at Y
  have hvm : s'.vm = s.vm := by rw [hA]; rfl
  have hhp : s'.heap = H := by rw [hA]; exact hT
  have hW0 : s.WarmedH s'.vm := by rw [hvm]; exact State.WarmedH.refl s
  have hat' : ∀ w ∈ vx_at0 own ic cls names, w.before args s' = true := fun w hw => vx_ot_at hW0 hvm.symm (hgood w (List.mem_cons_of_mem _ (List.mem_cons_of_mem _ hw))) (hat w hw)
  have hk' : (Cond.classLink own ik cls).before args s' = true := vx_ot_at hW0 hvm.symm (hgood _ List.mem_cons_self) hk
  have hini' : (Cond.initialized cls).before args s' = true := vx_ot_at hW0 hvm.symm (hgood _ (List.mem_cons_of_mem _ List.mem_cons_self)) hini
  have hU' : vx_Zq Bundle.tN "UNASSIGNED_STACK" Bundle.steD A s' s'.heap := by rw [hhp]; exact vx_Zq.moved hW0.alike (hU.kept hS.2.1)
  have hN' : vx_Zq Bundle.tN "SUPPRESSED_SENTINEL" Bundle.listD A s' s'.heap := by rw [hhp]; exact vx_Zq.moved hW0.alike (hN.kept hS.2.1)
  have h : ∀ w ∈ Bundle.ownAtoms0 own ic cls names, w.before args s' = true := vx_own hat' (vx_isRefq hU'.1) (vx_isRefq hN'.1) hU'.2.word hN'.2.word
  have hown' : s'.vm.findClass own = some m.cls := by rw [hvm]; exact hown
  have hins : (Cond.instantiable cls 6).before args s' = true := h _ (by simp [Bundle.ownAtoms0])
  obtain ⟨vm₁, cX, kX, hfX, hkX, -, -, X₁, st1⟩ := Y.newCold hexec (own := own) (C := cls) (index := ik) (n := 6) hown' hk' hins hini'
    (g := F0 m pc ls rest) rfl (by rw [hb]; exact d0) (Nat.le_refl _) (Nat.le_refl _)
  generalize hT1 : (T.setVm vm₁).pushCell { cls := cX, slots := kX.instanceTypes.map defaultValue, vm := .none } = T1 at X₁ st1
  have hcat : (Value.ref T.heap.size).category = 1 := rfl
  have hcellA : T1.heap[T.heap.size]? = some (freshCell cX kX) := by rw [← hT1]; exact State.heap_pushCell_size _ _
  have d3' : decode c.code (pc + 3) = .ok (.dup, 1) := by rw [hb]; exact d3
  obtain ⟨U, hsteps, hrun, hend, hW, hsame, ce, hce, hO⟩ := X₁.ctorThrow0 hexec htr (own := own) (cls := cls) (names := names) (ic := ic) hown' hcls hnames h (fun x hx => nomatch hx) hfX hkX hcellA (by rw [hhp, hT]; exact Nat.le_refl _)
    (g := { method := m, pc := pc + 4, locals := ls, stack := .ref T.heap.size :: .ref T.heap.size :: rest, locked := none }) rfl hsize rfl rfl (rest := rest) rfl
    (by rw [hb]; exact d4) (by rw [hb]; exact d7) hout hRframes (by simp only [List.map_cons, List.sum_cons, hcat]; omega) hlocks
  obtain ⟨f1, f2⟩ := vx_frame hsame
  rw [hhp] at f1 f2
  have hWs : s.WarmedH U.vm := State.WarmedH.trans hW0 hW
  have hcl : s.vm.findClass cls = some ce.cls := by
    have h9 := hO.cls
    rw [hvm] at h9
    exact h9
  have hall : s.sameButNew ({ U with vm := s.vm } : State) locs mc ms := by
    subst hA
    obtain ⟨e1, e2⟩ := hsame
    rw [State.setFrames_setFrames] at e1
    have h2 : (T.setVm s.vm).sameButNew ({ U with vm := s.vm } : State) [] (0 + 1) (0 + 6) := ⟨e1, e2⟩
    have h3 := X.same.trans h2
    rw [List.append_nil] at h3
    exact h3.mono hc hs
  refine ⟨U, ?_, .threw T.heap.size, hrun, hend, Or.inr ⟨T.heap.size, rfl, cls, ce, locs, hx U hWs.alike f1 (fun q hq => f2 q hq (fun z hz => nomatch hz)), hce, hO.vm, hcl, hWs, hall, hf⟩⟩
  refine st1 _ ?_
  show Steps p.tables e below (T1.setTop { method := m, pc := pc + 3, locals := ls, stack := .ref T.heap.size :: rest, locked := none }) _
  jvm_step X₁.here [X₁.here.top, hexec, d3', Value.category]
  exact hsteps
/-- 'throw new E("text")': new; dup; ldc; invokespecial; athrow -/
theorem vx_throwS {cc : ByteArray} {pc : Nat} (hexec : p.tables.exec = Jvm.exec) (hb : c.code = cc) (hl : l.stackTraces = false) {own cls text : String} {names : List String} {ik is ic mc ms sa : Nat} {A : Nat → Prop}
    (hown : s.vm.findClass own = some m.cls) (hcls : Bundle.fit cls = true) (hnames : ∀ n ∈ names, Bundle.fit n = true)
    (hk : (Cond.classLink own ik cls).before args s = true) (hini : (Cond.initialized cls).before args s = true) (hstr : vk_R own is text sa s) (hat : ∀ w ∈ vx_atS own ic cls names, w.before args s = true)
    (hgood : ∀ w ∈ Cond.classLink own ik cls :: Cond.initialized cls :: vx_atS own ic cls names, vx_ot w = true)
    (hU : vx_Zq Bundle.tN "UNASSIGNED_STACK" Bundle.steD A s s.heap) (hN : vx_Zq Bundle.tN "SUPPRESSED_SENTINEL" Bundle.listD A s s.heap) (hS : va_S A s.heap H locs) (hsize : ls.size = c.maxLocals)
    (d0 : decode cc pc = .ok (.new ik, 3)) (d3 : decode cc (pc + 3) = .ok (.dup, 1)) (d4 : decode cc (pc + 4) = .ok (.ldc is, 2)) (d6 : decode cc (pc + 6) = .ok (.invokespecial ic, 3)) (d9 : decode cc (pc + 9) = .ok (.athrow, 1))
    (hout : ∀ x ∈ c.exceptionTable.toList, covers x (pc + 9) = false)
    (hRframes : names.length + 3 < R.frames) (hRlocals : (rest.map fun v => v.category).sum + (13 * (names.length + 1) + 43) ≤ R.locals) (hRcells : cells + 1 ≤ R.cells) (hRslots : slots + 6 ≤ R.slots) (hlocks : meth.locks = false)
    (hx : ∀ t : State, s.vm.Alike t.vm → H.size ≤ t.heap.size → (∀ q : Nat, q < H.size → t.heap[q]? = H[q]?) → XC cls s t)
    (hf : ∀ z ∈ locs, free z.base) (hc : cells + 1 ≤ mc) (hs : slots + 6 ≤ ms) :
    W p l e R s m args below meth c H locs cells slots (vx_MQ below Qc XC args s mc ms free) (F0 m pc ls rest) := by
  intro T hT X
  have htr : e.platform.stackTraces = false := (show e.platform.stackTraces = l.stackTraces by rw [X.admits.platform]).trans hl
  have Y := vx_rebase X (R' := { frames := R.frames, locals := R.locals, cells := 1, slots := 6 }) (Nat.le_refl _) (Nat.le_refl _) hRcells hRslots
  obtain ⟨s', hA⟩ : ∃ z, z = (T.setVm s.vm).setFrames (.invoking m args :: below) := ⟨_, rfl⟩
  rw [← hA] at Y
  have hvm : s'.vm = s.vm := by rw [hA]; rfl
  have hhp : s'.heap = H := by rw [hA]; exact hT
  have hW0 : s.WarmedH s'.vm := by rw [hvm]; exact State.WarmedH.refl s
  have hat' : ∀ w ∈ vx_atS own ic cls names, w.before args s' = true := fun w hw => vx_ot_at hW0 hvm.symm (hgood w (List.mem_cons_of_mem _ (List.mem_cons_of_mem _ hw))) (hat w hw)
  have hk' : (Cond.classLink own ik cls).before args s' = true := vx_ot_at hW0 hvm.symm (hgood _ List.mem_cons_self) hk
  have hini' : (Cond.initialized cls).before args s' = true := vx_ot_at hW0 hvm.symm (hgood _ (List.mem_cons_of_mem _ List.mem_cons_self)) hini
  have hU' : vx_Zq Bundle.tN "UNASSIGNED_STACK" Bundle.steD A s' s'.heap := by rw [hhp]; exact vx_Zq.moved hW0.alike (hU.kept hS.2.1)
  have hN' : vx_Zq Bundle.tN "SUPPRESSED_SENTINEL" Bundle.listD A s' s'.heap := by rw [hhp]; exact vx_Zq.moved hW0.alike (hN.kept hS.2.1)
  have h : ∀ w ∈ Bundle.ownAtoms own ic cls names, w.before args s' = true := vx_own hat' (vx_isRefq hU'.1) (vx_isRefq hN'.1) hU'.2.word hN'.2.word
  have hown' : s'.vm.findClass own = some m.cls := by rw [hvm]; exact hown
  have hins : (Cond.instantiable cls 6).before args s' = true := h _ (by simp [Bundle.ownAtoms])
  obtain ⟨vm₁, cX, kX, hfX, hkX, -, -, X₁, st1⟩ := Y.newCold hexec (own := own) (C := cls) (index := ik) (n := 6) hown' hk' hins hini'
    (g := F0 m pc ls rest) rfl (by rw [hb]; exact d0) (Nat.le_refl _) (Nat.le_refl _)
  generalize hT1 : (T.setVm vm₁).pushCell { cls := cX, slots := kX.instanceTypes.map defaultValue, vm := .none } = T1 at X₁ st1
  have hcat : (Value.ref T.heap.size).category = 1 := rfl
  have hcellA : T1.heap[T.heap.size]? = some (freshCell cX kX) := by rw [← hT1]; exact State.heap_pushCell_size _ _
  have d3' : decode c.code (pc + 3) = .ok (.dup, 1) := by rw [hb]; exact d3
  have d4' : decode c.code (pc + 4) = .ok (.ldc is, 2) := by rw [hb]; exact d4
  have hstr' : vk_R own is text sa s' := vk_R.warm hW0 hstr
  obtain ⟨U, hsteps, hrun, hend, hW, hsame, ce, hce, hO⟩ := X₁.ctorThrowS hexec htr (own := own) (cls := cls) (names := names) (ic := ic) hown' hcls hnames h (fun x hx => nomatch hx) hfX hkX hcellA (by rw [hhp, hT]; exact Nat.le_refl _) (msg := .ref sa) rfl
    (g := { method := m, pc := pc + 6, locals := ls, stack := .ref sa :: .ref T.heap.size :: .ref T.heap.size :: rest, locked := none }) rfl hsize rfl rfl (rest := rest) rfl
    (by rw [hb]; exact d6) (by rw [hb]; exact d9) hout hRframes (by simp only [List.map_cons, List.sum_cons, hcat]; omega) hlocks
  obtain ⟨f1, f2⟩ := vx_frame hsame
  rw [hhp] at f1 f2
  have hWs : s.WarmedH U.vm := State.WarmedH.trans hW0 hW
  have hcl : s.vm.findClass cls = some ce.cls := by
    have h9 := hO.cls
    rw [hvm] at h9
    exact h9
  have hall : s.sameButNew ({ U with vm := s.vm } : State) locs mc ms := by
    subst hA
    obtain ⟨e1, e2⟩ := hsame
    rw [State.setFrames_setFrames] at e1
    have h2 : (T.setVm s.vm).sameButNew ({ U with vm := s.vm } : State) [] (0 + 1) (0 + 6) := ⟨e1, e2⟩
    have h3 := X.same.trans h2
    rw [List.append_nil] at h3
    exact h3.mono hc hs
  refine ⟨U, ?_, .threw T.heap.size, hrun, hend, Or.inr ⟨T.heap.size, rfl, cls, ce, locs, hx U hWs.alike f1 (fun q hq => f2 q hq (fun z hz => nomatch hz)), hce, hO.vm, hcl, hWs, hall, hf⟩⟩
  refine st1 _ ?_
  show Steps p.tables e below (T1.setTop { method := m, pc := pc + 3, locals := ls, stack := .ref T.heap.size :: rest, locked := none }) _
  jvm_step X₁.here [X₁.here.top, hexec, d3', Value.category]
  exact X₁.ldcString hexec (own := own) (text := text) (index := is) (a := sa) hown' hstr'.1 hstr'.2
    (g := { method := m, pc := pc + 4, locals := ls, stack := .ref T.heap.size :: .ref T.heap.size :: rest, locked := none }) rfl d4' _ hsteps
/-- 'throw new E("text")', the text by a wide index -/
theorem vx_throwSW {cc : ByteArray} {pc : Nat} (hexec : p.tables.exec = Jvm.exec) (hb : c.code = cc) (hl : l.stackTraces = false) {own cls text : String} {names : List String} {ik is ic mc ms sa : Nat} {A : Nat → Prop}
    (hown : s.vm.findClass own = some m.cls) (hcls : Bundle.fit cls = true) (hnames : ∀ n ∈ names, Bundle.fit n = true)
    (hk : (Cond.classLink own ik cls).before args s = true) (hini : (Cond.initialized cls).before args s = true) (hstr : vk_R own is text sa s) (hat : ∀ w ∈ vx_atS own ic cls names, w.before args s = true)
    (hgood : ∀ w ∈ Cond.classLink own ik cls :: Cond.initialized cls :: vx_atS own ic cls names, vx_ot w = true)
    (hU : vx_Zq Bundle.tN "UNASSIGNED_STACK" Bundle.steD A s s.heap) (hN : vx_Zq Bundle.tN "SUPPRESSED_SENTINEL" Bundle.listD A s s.heap) (hS : va_S A s.heap H locs) (hsize : ls.size = c.maxLocals)
    (d0 : decode cc pc = .ok (.new ik, 3)) (d3 : decode cc (pc + 3) = .ok (.dup, 1)) (d4 : decode cc (pc + 4) = .ok (.ldc_w is, 3)) (d7 : decode cc (pc + 7) = .ok (.invokespecial ic, 3)) (d10 : decode cc (pc + 10) = .ok (.athrow, 1))
    (hout : ∀ x ∈ c.exceptionTable.toList, covers x (pc + 10) = false)
    (hRframes : names.length + 3 < R.frames) (hRlocals : (rest.map fun v => v.category).sum + (13 * (names.length + 1) + 43) ≤ R.locals) (hRcells : cells + 1 ≤ R.cells) (hRslots : slots + 6 ≤ R.slots) (hlocks : meth.locks = false)
    (hx : ∀ t : State, s.vm.Alike t.vm → H.size ≤ t.heap.size → (∀ q : Nat, q < H.size → t.heap[q]? = H[q]?) → XC cls s t)
    (hf : ∀ z ∈ locs, free z.base) (hc : cells + 1 ≤ mc) (hs : slots + 6 ≤ ms) :
    W p l e R s m args below meth c H locs cells slots (vx_MQ below Qc XC args s mc ms free) (F0 m pc ls rest) := by
  intro T hT X
  have htr : e.platform.stackTraces = false := (show e.platform.stackTraces = l.stackTraces by rw [X.admits.platform]).trans hl
  have Y := vx_rebase X (R' := { frames := R.frames, locals := R.locals, cells := 1, slots := 6 }) (Nat.le_refl _) (Nat.le_refl _) hRcells hRslots
  obtain ⟨s', hA⟩ : ∃ z, z = (T.setVm s.vm).setFrames (.invoking m args :: below) := ⟨_, rfl⟩
  rw [← hA] at Y
  have hvm : s'.vm = s.vm := by rw [hA]; rfl
  have hhp : s'.heap = H := by rw [hA]; exact hT
  have hW0 : s.WarmedH s'.vm := by rw [hvm]; exact State.WarmedH.refl s
  have hat' : ∀ w ∈ vx_atS own ic cls names, w.before args s' = true := fun w hw => vx_ot_at hW0 hvm.symm (hgood w (List.mem_cons_of_mem _ (List.mem_cons_of_mem _ hw))) (hat w hw)
  have hk' : (Cond.classLink own ik cls).before args s' = true := vx_ot_at hW0 hvm.symm (hgood _ List.mem_cons_self) hk
  have hini' : (Cond.initialized cls).before args s' = true := vx_ot_at hW0 hvm.symm (hgood _ (List.mem_cons_of_mem _ List.mem_cons_self)) hini
  have hU' : vx_Zq Bundle.tN "UNASSIGNED_STACK" Bundle.steD A s' s'.heap := by rw [hhp]; exact vx_Zq.moved hW0.alike (hU.kept hS.2.1)
  have hN' : vx_Zq Bundle.tN "SUPPRESSED_SENTINEL" Bundle.listD A s' s'.heap := by rw [hhp]; exact vx_Zq.moved hW0.alike (hN.kept hS.2.1)
  have h : ∀ w ∈ Bundle.ownAtoms own ic cls names, w.before args s' = true := vx_own hat' (vx_isRefq hU'.1) (vx_isRefq hN'.1) hU'.2.word hN'.2.word
  have hown' : s'.vm.findClass own = some m.cls := by rw [hvm]; exact hown
  have hins : (Cond.instantiable cls 6).before args s' = true := h _ (by simp [Bundle.ownAtoms])
  obtain ⟨vm₁, cX, kX, hfX, hkX, -, -, X₁, st1⟩ := Y.newCold hexec (own := own) (C := cls) (index := ik) (n := 6) hown' hk' hins hini'
    (g := F0 m pc ls rest) rfl (by rw [hb]; exact d0) (Nat.le_refl _) (Nat.le_refl _)
  generalize hT1 : (T.setVm vm₁).pushCell { cls := cX, slots := kX.instanceTypes.map defaultValue, vm := .none } = T1 at X₁ st1
  have hcat : (Value.ref T.heap.size).category = 1 := rfl
  have hcellA : T1.heap[T.heap.size]? = some (freshCell cX kX) := by rw [← hT1]; exact State.heap_pushCell_size _ _
  have d3' : decode c.code (pc + 3) = .ok (.dup, 1) := by rw [hb]; exact d3
  have d4' : decode c.code (pc + 4) = .ok (.ldc_w is, 3) := by rw [hb]; exact d4
  have hstr' : vk_R own is text sa s' := vk_R.warm hW0 hstr
  obtain ⟨U, hsteps, hrun, hend, hW, hsame, ce, hce, hO⟩ := X₁.ctorThrowS hexec htr (own := own) (cls := cls) (names := names) (ic := ic) hown' hcls hnames h (fun x hx => nomatch hx) hfX hkX hcellA (by rw [hhp, hT]; exact Nat.le_refl _) (msg := .ref sa) rfl
    (g := { method := m, pc := pc + 7, locals := ls, stack := .ref sa :: .ref T.heap.size :: .ref T.heap.size :: rest, locked := none }) rfl hsize rfl rfl (rest := rest) rfl
    (by rw [hb]; exact d7) (by rw [hb]; exact d10) hout hRframes (by simp only [List.map_cons, List.sum_cons, hcat]; omega) hlocks
  obtain ⟨f1, f2⟩ := vx_frame hsame
  rw [hhp] at f1 f2
  have hWs : s.WarmedH U.vm := State.WarmedH.trans hW0 hW
  have hcl : s.vm.findClass cls = some ce.cls := by
    have h9 := hO.cls
    rw [hvm] at h9
    exact h9
  have hall : s.sameButNew ({ U with vm := s.vm } : State) locs mc ms := by
    subst hA
    obtain ⟨e1, e2⟩ := hsame
    rw [State.setFrames_setFrames] at e1
    have h2 : (T.setVm s.vm).sameButNew ({ U with vm := s.vm } : State) [] (0 + 1) (0 + 6) := ⟨e1, e2⟩
    have h3 := X.same.trans h2
    rw [List.append_nil] at h3
    exact h3.mono hc hs
  refine ⟨U, ?_, .threw T.heap.size, hrun, hend, Or.inr ⟨T.heap.size, rfl, cls, ce, locs, hx U hWs.alike f1 (fun q hq => f2 q hq (fun z hz => nomatch hz)), hce, hO.vm, hcl, hWs, hall, hf⟩⟩
  refine st1 _ ?_
  show Steps p.tables e below (T1.setTop { method := m, pc := pc + 3, locals := ls, stack := .ref T.heap.size :: rest, locked := none }) _
  jvm_step X₁.here [X₁.here.top, hexec, d3', Value.category]
  exact X₁.ldcStringW hexec (own := own) (text := text) (index := is) (a := sa) hown' hstr'.1 hstr'.2
    (g := { method := m, pc := pc + 4, locals := ls, stack := .ref T.heap.size :: .ref T.heap.size :: rest, locked := none }) rfl d4' _ hsteps
end Ends
section Bodies
variable {l : Launch}
theorem vx_ofW {y : MethodName} {ws ws' : List Cond} {rm : Room} {Pc : Array Value → State → Prop} {Qc : Array Value → State → Outcome → State → Prop} {XC : String → State → State → Prop} {mc ms : Nat} {free : Addr → Prop} {cc : ByteArray} {maxL : Nat} {ret : Option FieldType}
    (hy : plainName y.cls = true) (hw : ws = Cond.code y cc maxL ret :: ws')
    (body : ∀ p e s m args below meth c s₁, BodyLoose p l y (headSpec ws rm) cc maxL ret e s m args below meth c s₁ → c.maxLocals = maxL → (∀ x ∈ c.exceptionTable.toList, False) → Pc args s →
      W p l e (headSpec ws rm).room s m args below meth c s.heap [] 0 0 (vx_MQ below Qc XC args s mc ms free) (entryFrame m args maxL)) : vx_Met l y ws rm Pc Qc XC mc ms free := by
  refine MetFree.of_bodyS (code := cc) (maxLocals := maxL) (ret := ret) hy ?_ ?_
  · intro args s m h hn
    obtain ⟨meth, c, h1, h2, h3, h4, h5, h6, -, -⟩ := Cond.code_spec hn (atoms_spec (ws := ws) h _ (by rw [hw]; exact List.mem_cons_self))
    exact ⟨meth, c, h1, h2, h3, h4, h5, h6⟩
  · intro p e s m args below meth c s₁ B hml hP _
    have hh0 : s₁.heap = s.heap := by rw [B.state]; rfl
    have ht : ∀ x ∈ c.exceptionTable.toList, False := by
      obtain ⟨meth9, c9, h1, h2, -, -, -, -, h7, -⟩ := Cond.code_spec B.named (atoms_spec (ws := ws) B.pre _ (by rw [hw]; exact List.mem_cons_self))
      cases Option.some.inj (h1.symm.trans B.method)
      cases Option.some.inj (h2.symm.trans (Stand.of_body B).code)
      intro x hx
      rw [Array.isEmpty_iff.mp h7] at hx
      cases hx
    obtain ⟨t, a1, o, b1, b2, b3⟩ := body p e s m args below meth c s₁ B hml ht hP s₁ hh0 (Stand.of_body B)
    exact ⟨t, o, a1, b1, b2, b3⟩
/-- the table of a body with handlers -/
theorem vx_table {p : Program} {x y : MethodName} {S : Spec} {cc bytes : ByteArray} {maxL maxL' : Nat} {ret ret' : Option FieldType} {e : Env} {s s₁ : State} {m : MethodId} {args : Array Value} {below : List Frame} {meth : Method} {c : Code} {hh : List (Nat × Nat × Nat × Nat)}
    (B : BodyLoose p l y S cc maxL ret e s m args below meth c s₁) (h : (Cond.codeWith y bytes maxL' ret' hh).before args s = true) : c.exceptionTable.toList = tableOf hh := by
  obtain ⟨m9, meth9, c9, hn9, h1, h2, -, -, h6, -⟩ := Cond.codeWith_spec h
  cases Option.some.inj (hn9.symm.trans B.named)
  cases Option.some.inj (h1.symm.trans B.method)
  cases Option.some.inj (h2.symm.trans (Stand.of_body B).code)
  rw [← h6, table_eq]
end Bodies
end VXA
/-! ===== END ===== -/
/-! ===== BEGIN a static call of a method with an exception table ===== -/
section VXS
variable {p : Program} {l : Launch} {e : Env} {R : Room} {s : State} {m : MethodId} {args : Array Value} {below : List Frame} {meth : Method} {c : Code} {T : State} {H : Heap} {locs : List Loc} {cells slots : Nat}
abbrev vx_CSW (R : Room) (s : State) (args : Array Value) (own : String) (index : Nat) (y : MethodName) (bytes : ByteArray) (maxL : Nat) (ret : Option FieldType) (hh : List (Nat × Nat × Nat × Nat)) (ws : List Cond) (rm : Room) (mc ms n : Nat) : Prop :=
  (rm.cells = mc ∧ rm.slots = ms ∧ rm.frames + 1 ≤ R.frames ∧ 8 + (maxL + 11) + rm.locals ≤ R.locals ∧ (∀ w ∈ ws, ∀ (a' : Array Value) (U : State), s.WarmedH U.vm → w.before a' U = true) ∧ Cond.codeWith y bytes maxL ret hh ∈ ws) ∧
  (Cond.codeWith y bytes maxL ret hh).before args s = true ∧ (Cond.initialized y.cls).before args s = true ∧ (y.cls ≠ "java/lang/invoke/MethodHandle" ∧ y.cls ≠ "java/lang/invoke/VarHandle") ∧
  (∀ sig, parseMethodDescriptor y.desc = some sig → n = sig.parameters.length) ∧ (Cond.methodLink own index y).before args s = true ∧ (Cond.static y).before args s = true
theorem vx_cwSW {own : String} {index maxL mc ms : Nat} {y : MethodName} {bytes : ByteArray} {ret : Option FieldType} {hh : List (Nat × Nat × Nat × Nat)} {Ts ws ws' : List Cond} {rm : Room} (n : Nat) (ht : ∀ w ∈ Ts, w.before args s = true) (hT : GoodIn Ts (va_wsS own index y ws)) (hw : ws = Cond.codeWith y bytes maxL ret hh :: ws') (hrc : rm.cells = mc) (hrs : rm.slots = ms)
    (hd : y.cls ≠ "java/lang/invoke/MethodHandle" ∧ y.cls ≠ "java/lang/invoke/VarHandle" ∧ (parseMethodDescriptor y.desc).map (fun d => d.parameters.length) = some n) (hR : rm.frames + 1 ≤ R.frames ∧ 8 + (maxL + 11) + rm.locals ≤ R.locals) :
    vx_CSW R s args own index y bytes maxL ret hh ws rm mc ms n := by
  have ok : ∀ w ∈ va_wsS own index y ws, w.before args s = true := fun w h => ht w (hT w h).1
  have hG : GoodIn Ts ws := fun w h => hT w (by unfold va_wsS; exact List.mem_append_right _ h)
  have hc : Cond.codeWith y bytes maxL ret hh ∈ ws := by rw [hw]; exact List.mem_cons_self
  refine ⟨⟨hrc, hrs, hR.1, hR.2, pay_in ht hG, hc⟩, ht _ (hG _ hc).1, ok _ (by simp [va_wsS]), ⟨hd.1, hd.2.1⟩, fun sig h => ?_, ok _ (by simp [va_wsS]), ok _ (by simp [va_wsS])⟩
  have h2 := hd.2.2
  rw [h] at h2
  exact (Option.some.inj h2).symm
theorem vx_callSW (X : Stand p l e R s m args below meth c T locs cells slots) (hexec : p.tables.exec = Jvm.exec) {own : String} {index : Nat} {y : MethodName} {bytes : ByteArray} {maxL : Nat} {ret : Option FieldType} {hh : List (Nat × Nat × Nat × Nat)}
    (hown : s.vm.findClass own = some m.cls) (hlink : (Cond.methodLink own index y).before args s = true) (hstat : (Cond.static y).before args s = true) (hinit : (Cond.initialized y.cls).before args s = true)
    (hcode : (Cond.codeWith y bytes maxL ret hh).before args s = true) (hy : y.cls ≠ "java/lang/invoke/MethodHandle" ∧ y.cls ≠ "java/lang/invoke/VarHandle")
    {W9 : Nat} {Pre : Pt → Array Value → Prop} {Post : Pt → Array Value → Option Value → Pt → Prop} (hK : Back l R p e below s args y 3 W9 Pre Post)
    {g : JFrame} (hg : g.method = m) (hsize : g.locals.size = c.maxLocals) {argsL rest : List Value} (hlen : ∀ sig, parseMethodDescriptor y.desc = some sig → argsL.length = sig.parameters.length)
    (hstack : g.stack = argsL.reverse ++ rest) (hW : 2 * g.monitorRoom + (rest.map fun v => v.category).sum ≤ W9) (hdg : decode c.code g.pc = .ok (.invokestatic index, 3))
    (hpre : ∀ vm₁, s.WarmedH vm₁ → Pre ⟨T.setVm vm₁, locs, cells, slots⟩ argsL.toArray) :
    ∃ (v : Option Value) (vm₁ : Vm) (B : Pt), s.WarmedH vm₁ ∧ Stand p l e R s m args below meth c B.U B.locs B.cells B.slots ∧ Post ⟨T.setVm vm₁, locs, cells, slots⟩ argsL.toArray v B ∧
      ∀ target, Steps p.tables e below (B.U.setTop { g with pc := g.pc + 3, stack := v.toList ++ rest }) target → Steps p.tables e below (T.setTop g) target := by
  obtain ⟨mk, methM, cM, hnamed, hmethM, -, -, -, -, -, -, hsigM⟩ := Cond.codeWith_spec hcode
  have hstatic : methM.isStatic = true := Cond.static_spec hnamed hmethM hstat
  obtain ⟨kP, hkP, -⟩ := className_of_methodNamed hnamed
  have hinitP : kP.init = .initialized := Cond.initialized_spec (findClass_of_methodNamed hnamed) hkP hinit
  obtain ⟨vm₁, X₁, hstep₁⟩ := X.invokestatic hexec hown hlink hnamed hmethM hstatic hkP hinitP hy (g := g) hg (argsL := argsL) (rest := rest) (hlen _ hsigM) hstack hdg
  obtain ⟨v, B, X', hpost, hsteps⟩ := hK m meth c ⟨T.setVm vm₁, locs, cells, slots⟩ { g with stack := rest } (.invokestatic index) mk argsL.toArray X₁ hg hsize hdg hW (X₁.named hnamed) (hpre vm₁ X₁.warmed)
  exact ⟨v, vm₁, B, X₁.warmed, X', hpost, fun target h => hstep₁ _ fun acts => by rw [doInvoke_state]; exact hsteps.trans h⟩
theorem vx_runSW {y : MethodName} {bytes cc : ByteArray} {maxL nL mc ms n index : Nat} {ret : Option FieldType} {hh : List (Nat × Nat × Nat × Nat)} {ws : List Cond} {rm : Room} {Pc : Array Value → State → Prop} {Qc : Array Value → State → Outcome → State → Prop} {free : Addr → Prop} {Ts : List Cond} {own : String} {As rest : List Value} {g : JFrame}
    (S : CallFix p m c cc nL s args Ts own) (hM : Met l y ws rm Pc Qc mc ms free) (cw : vx_CSW R s args own index y bytes maxL ret hh ws rm mc ms n) (hp : PreS s H Pc As)
    (hg : g.method = m) (hn : As.length = n) (hsize : g.locals.size = nL) (hstack : g.stack = As.reverse ++ rest) (hW : 2 * g.monitorRoom + (rest.map fun v => v.category).sum ≤ 8) (hdg : decode cc g.pc = .ok (.invokestatic index, 3)) (hf : cells + mc ≤ R.cells ∧ slots + ms ≤ R.slots) :
    va_Run p l e R s m args below meth c H locs cells slots mc ms g rest (Qc As.toArray) (free) := by
  obtain ⟨⟨hrc, hrs, hfr, hlo, hws, hcw⟩, hcode, hini, hy, hlen, hl, hstt⟩ := cw
  have hK : Back l R p e below s args y 3 8 (PreOf R mc ms Pc) (PostOf Qc mc ms free) := va_backW (hh := hh) (bytes := bytes) (maxL := maxL) (ret := ret) hM hp.1 hrc hrs hfr hlo hws hcw (fun a' U hW => word_at hW (Or.inl (by first | rfl | simp [Cond.onTables, Cond.keeps, Cond.steady])) hini)
  obtain ⟨hx, hb, hml, ho, -⟩ := S
  intro T hT X
  obtain ⟨v, vm₁, ⟨U', l2, c2, s2⟩, hW₁, X', ⟨g', mk, t, L, e1, e2, hq, h1, hL, h2, h3⟩, st⟩ := vx_callSW X hx (hh := hh) (bytes := bytes) (maxL := maxL) (ret := ret) ho hl hstt hini hcode hy hK hg (hsize.trans hml.symm) (argsL := As) (rest := rest) (fun sig h => hn.trans (hlen sig h)) hstack hW (by rw [hb]; exact hdg)
    (fun vm₁ hW₁ => ⟨hf.1, hf.2, hp.2 (T.setVm vm₁) hT hW₁⟩)
  dsimp only [Pt.U, Pt.locs, Pt.cells, Pt.slots] at X' e1 e2 h1 h2 h3 st
  subst h1; subst h2; subst h3
  exact ⟨v, (T.setVm vm₁).calling g' mk As.toArray, t, U', L, hT, X', hL, e1, e2, hq, st⟩
/-- not caught here, past rows that name other classes: it goes on to the caller -/
theorem vx_outP {p : Program} {l : Launch} {e : Env} {R : Room} {s : State} {m : MethodId} {args : Array Value} {below : List Frame} {meth : Method} {c : Code} {H : Heap} {locs : List Loc} {cells slots : Nat} {free : Addr → Prop} {ls : Array Slot} {rest : List Value} {Qc : Array Value → State → Outcome → State → Prop} {XC : String → State → State → Prop}
    {pc : Nat} {own E : String} {ce : Cell} {q : Addr} {mc ms : Nat} (hown : s.vm.findClass own = some m.cls) (hlocks : meth.locks = false)
    (hpass : ∀ z ∈ c.exceptionTable.toList, covers z pc = false ∨ (z.catchType ≠ 0 ∧ ∃ nm : String, (Cond.classLink own z.catchType nm).before args s = true ∧ va_Nc E nm s)) (hcell : H[q]? = some ce) (hv : ce.vm = .none) (hcl : s.vm.findClass E = some ce.cls)
    (hx : ∀ t : State, t.heap = H → s.vm.Alike t.vm → XC E s t) (hf : ∀ z ∈ locs, free z.base) (hc : cells ≤ mc) (hs : slots ≤ ms) :
    vx_W p l e R s m args below meth c H locs cells slots (vx_MQ below Qc XC args s mc ms free) (F0 m pc ls rest) q := by
  intro T hT X
  have hpl : e.platform.magicAccessors = ({} : Platform).magicAccessors := by rw [X.admits.platform]
  obtain ⟨vm', hW', X', st⟩ := X.outThrough hlocks q (g := F0 m pc ls rest) rfl rfl rfl (cell := ce) (by rw [hT]; exact hcell) (by rw [hv]; rfl)
    (by obtain ⟨k9, h9, -⟩ := Vm.findClass_spec hcl; exact ⟨k9, h9⟩) (fun z hz => by
      rcases hpass z hz with h | ⟨hz0, nm, hl1, hn1⟩
      · exact Or.inl h
      · obtain ⟨c6, hc6, hcl6⟩ := Cond.classLink_spec hown hl1 e.platform hpl
        obtain ⟨a8, b8, h1, h2, h3⟩ := hn1
        cases Option.some.inj (h1.symm.trans hcl)
        cases Option.some.inj (h2.symm.trans hc6)
        exact Or.inr ⟨hz0, _, hcl6, h3⟩)
  obtain ⟨g₀, hfr⟩ := X'.frames_eq
  have hcell9 : ((T.setVm vm').setFrames (.throwing q :: below)).heap[q]? = some ce := by
    show T.heap[q]? = some ce
    rw [hT]; exact hcell
  have hend : Ended ((T.setVm vm').setFrames (.throwing q :: below)) below (.threw q) := State.frames_setFrames _ (State.cur_lt_of_frames hfr)
  refine ⟨(T.setVm vm').setFrames (.throwing q :: below), ?_, .threw q, X'.here.running, hend, Or.inr ⟨q, rfl, E, ce, locs, hx _ hT (X'.ends _).1.alike, hcell9, hv, hcl, (X'.ends _).1, (X'.ends _).2.mono hc hs, hf⟩⟩
  rw [X.pushThrowing_eq]
  exact st
/-- a thing of a world lies in the heap -/
theorem vx_lt {D : va_G} {cl : List vw_C} {ws : va_W} {H1 : Heap} (h : va_P D cl ws H1) {k : Nat} {q : Nat × va_E} (hk : ws[k]? = some q) : q.1 < H1.size := (h k q hk).lt
end VXS
/-! ===== END ===== -/
/-! ===== BEGIN methods with a table of their own: called by a name, returning or throwing ===== -/
section VXH
/-! vx_backW, vx_callVX, vx_callSX, vx_callVW, vx_runVW, vx_runVX, vx_runSX, vx_ofWH follow the same proofs as their sisters above (Free/Laws.lean, Shelf42/LK1.lean); vx_outP calls Shelf42/NT130.lean (outThrough). -/
section
variable {l : Launch} {R : Room} {p : Program} {e : Env} {below : List Frame} {s : State} {sargs : Array Value} {y : MethodName} {len W9 : Nat}
theorem vx_backW {ws : List Cond} {rm : Room} {Pc : Array Value → State → Prop} {Qc : Array Value → State → Outcome → State → Prop} {XC : String → State → State → Prop} {mc ms : Nat} {free : Addr → Prop} {bytes : ByteArray} {maxL : Nat} {ret : Option FieldType} {hh : List (Nat × Nat × Nat × Nat)}
    (hM : vx_Met l y ws rm Pc Qc XC mc ms free) (hblind : FrameBlind Pc) (hrc : rm.cells = mc) (hrs : rm.slots = ms)
    (hframes : rm.frames + 1 ≤ R.frames) (hlocals : W9 + (maxL + 11) + rm.locals ≤ R.locals)
    (hws : ∀ w ∈ ws, ∀ a' U, s.WarmedH U.vm → w.before a' U = true) (hcode : Cond.codeWith y bytes maxL ret hh ∈ ws) (hinit : ∀ a' U, s.WarmedH U.vm → (Cond.initialized y.cls).before a' U = true) :
    vx_Back l R p e below s sargs y len W9 (PreOf R mc ms Pc) (PostOf Qc mc ms free) (vx_Post XC mc ms free) := by
  intro m meth c A g ig mk a X hg hsize hdg hW hn hp
  have h1 : (headSpec ws rm).pre.before a A.U = true := atoms_intro fun w hw => hws w hw _ _ X.warmed
  have h2 : (Cond.codeWith y bytes maxL ret hh).before a A.U = true := hws _ hcode _ _ X.warmed
  have h3 : (Cond.initialized y.cls).before a A.U = true := hinit _ _ X.warmed
  have h4 : A.cells + (headSpec ws rm).room.cells ≤ R.cells := by rw [show (headSpec ws rm).room.cells = mc from hrc]; exact hp.1
  have h5 : A.slots + (headSpec ws rm).room.slots ≤ R.slots := by rw [show (headSpec ws rm).room.slots = ms from hrs]; exact hp.2.1
  have hPc : Pc a (A.U.calling g mk a) := hblind _ _ _ _ hp.2.2
  obtain ⟨U, Ls, c0, s0⟩ := A
  dsimp only [Pt.U, Pt.locs, Pt.cells, Pt.slots] at h1 h2 h3 h4 h5 X hn hPc ⊢
  obtain ⟨m9, methY, cY, hn9, hmY, hcY, -, hlY, -⟩ := Cond.codeWith_spec h2
  cases Option.some.inj (hn9.symm.trans hn)
  obtain ⟨kY, hkY, -⟩ := className_of_methodNamed hn
  have hinitY : kY.init = .initialized := Cond.initialized_spec (findClass_of_methodNamed hn) hkY h3
  have h : At U g.method c below := by rw [hg]; exact X.here
  have hlocals9 : W9 + (maxL + 11) + (headSpec ws rm).room.locals ≤ R.locals := hlocals
  have happ : (headSpec ws rm).appliesLoose y e.platform (U.calling g mk a) = true :=
    Spec.appliesLoose_calling (g := g) h hdg hn hkY hinitY
      (X.room_calling (g := g) (R' := (headSpec ws rm).room) hsize hmY hcY hframes (by rw [hlY]; omega) h4 h5) h1
  obtain ⟨mid, hmid⟩ := h.above
  have hfr : (U.setTop g).frames = (.java g :: mid) ++ below := by rw [State.frames_setTop' g h.top, hmid]; rfl
  obtain ⟨o, s₂, hsteps, -, hend, hq⟩ := Steps.callFree hM p X.admits X.cas X.clock (acts := []) hfr happ hPc trivial
  have hq' : vx_Q Qc XC mc ms free a (U.calling g mk a) o s₂ := hq
  rw [State.frames_setTop' g h.top] at hend
  obtain ⟨g₀, hg0⟩ := Option.isSome_iff_exists.mp h.top
  obtain ⟨r, hr⟩ := State.topJava?_eq_some.mp hg0
  have hr' : (({ U with heap := s₂.heap, slotsUsed := s₂.slotsUsed } : State).setVm s₂.vm).frames = .java g₀ :: r := hr
  rcases hq' with ⟨hqc, L, hfe, hL⟩ | ⟨q, rfl, E, ce, L, hx, hce, hcv, hcl, hW₂, hsm, hL⟩
  · obtain ⟨⟨v, rfl⟩, hW₂, e2, q2, q3, q4, q5, q6⟩ := id hfe
    have e3 : s₂ = ({ (U.calling g mk a).setFrames s₂.frames with heap := s₂.heap, slotsUsed := s₂.slotsUsed } : State).setVm s₂.vm := by
      have : s₂ = ({ s₂ with vm := (U.calling g mk a).vm } : State).setVm s₂.vm := rfl
      rw [e2] at this
      exact this
    obtain ⟨c₂, i₂, len₂, hc₂, hd₂, hf₂⟩ := hend
    have hW' : U.WarmedH s₂.vm := hW₂
    have hcc : c₂ = c := by
      have h1 : s₂.code? g.method = U.code? g.method := by
        rw [State.code?_eq, State.code?_eq, hW'.alike.method?]
      exact Option.some.inj (hc₂.symm.trans (h1.trans h.code))
    subst hcc
    have hlen : len₂ = len := by rw [hdg] at hd₂; cases hd₂; rfl
    subst hlen
    have hs₂ : s₂ = (({ U with heap := s₂.heap, slotsUsed := s₂.slotsUsed } : State).setVm s₂.vm).setTop { g with pc := g.pc + len₂, stack := v.toList ++ g.stack } := by
      refine e3.trans ?_
      rw [hf₂, State.calling_eq h.top, State.setFrames_setFrames, State.setTop_of_frames _ hr', hr]
      rfl
    have hsame : U.sameButNew ({ U with heap := s₂.heap, slotsUsed := s₂.slotsUsed } : State) L mc ms := by
      refine ⟨?_, q2, q3, q4, q5, q6⟩
      obtain ⟨t, ht, -⟩ := State.frames_cons hr
      show ({ U with heap := s₂.heap, slotsUsed := s₂.slotsUsed } : State) = { U.setFrames U.frames with heap := s₂.heap, slotsUsed := s₂.slotsUsed }
      rw [State.setFrames_self ht]
    subst hg
    refine Or.inl ⟨v, ⟨(({ U with heap := s₂.heap, slotsUsed := s₂.slotsUsed } : State).setVm s₂.vm), Ls ++ L, c0 + mc, s0 + ms⟩,
      ⟨X.admits, X.cas, X.clock, X.frames, X.room, X.hears, X.method, X.code, (X.here.setHeapUsed s₂.heap s₂.slotsUsed).setVm hW'.alike, X.tail, State.WarmedH.trans X.warmed hW', X.limits, X.bytes, X.same.trans (hsame.setVm s.vm)⟩,
      ⟨g, mk, s₂, L, rfl, rfl, hqc, rfl, hL, rfl, rfl⟩, ?_⟩
    show Steps p.tables e below _ ((({ U with heap := s₂.heap, slotsUsed := s₂.slotsUsed } : State).setVm s₂.vm).setTop { g with pc := g.pc + len₂, stack := v.toList ++ g.stack })
    rw [← hs₂]
    exact hsteps
  · obtain ⟨e2, q2, q3, q4, q5, q6⟩ := id hsm
    have e3 : s₂ = ({ (U.calling g mk a).setFrames s₂.frames with heap := s₂.heap, slotsUsed := s₂.slotsUsed } : State).setVm s₂.vm := by
      have : s₂ = ({ s₂ with vm := (U.calling g mk a).vm } : State).setVm s₂.vm := rfl
      rw [e2] at this
      exact this
    have hf₂ : s₂.frames = .throwing q :: .java g :: U.frames.tail := hend
    have hW' : U.WarmedH s₂.vm := hW₂
    have hs₂ : s₂ = ((({ U with heap := s₂.heap, slotsUsed := s₂.slotsUsed } : State).setVm s₂.vm).setTop g).pushFrame (.throwing q) := by
      refine e3.trans ?_
      rw [hf₂, State.calling_eq h.top, State.setFrames_setFrames, State.pushFrame, State.frames_setTop _ hr', State.setTop_of_frames _ hr', State.setFrames_setFrames, hr]
      rfl
    have hsame : U.sameButNew ({ U with heap := s₂.heap, slotsUsed := s₂.slotsUsed } : State) L mc ms := by
      refine ⟨?_, q2, q3, q4, q5, q6⟩
      obtain ⟨t, ht, -⟩ := State.frames_cons hr
      show ({ U with heap := s₂.heap, slotsUsed := s₂.slotsUsed } : State) = { U.setFrames U.frames with heap := s₂.heap, slotsUsed := s₂.slotsUsed }
      rw [State.setFrames_self ht]
    subst hg
    refine Or.inr ⟨q, ⟨(({ U with heap := s₂.heap, slotsUsed := s₂.slotsUsed } : State).setVm s₂.vm), Ls ++ L, c0 + mc, s0 + ms⟩,
      ⟨X.admits, X.cas, X.clock, X.frames, X.room, X.hears, X.method, X.code, (X.here.setHeapUsed s₂.heap s₂.slotsUsed).setVm hW'.alike, X.tail, State.WarmedH.trans X.warmed hW', X.limits, X.bytes, X.same.trans (hsame.setVm s.vm)⟩,
      ⟨g, mk, s₂, L, E, ce, rfl, rfl, hx, hce, hcv, hcl, rfl, hL, rfl, rfl⟩, ?_⟩
    show Steps p.tables e below _ (((({ U with heap := s₂.heap, slotsUsed := s₂.slotsUsed } : State).setVm s₂.vm).setTop g).pushFrame (.throwing q))
    rw [← hs₂]
    exact hsteps
end
variable {p : Program} {l : Launch} {e : Env} {R : Room} {s : State} {m : MethodId} {args : Array Value} {below : List Frame} {meth : Method} {c : Code} {T : State} {H : Heap} {locs : List Loc} {cells slots : Nat}
theorem vx_callVX (X : Stand p l e R s m args below meth c T locs cells slots) (hexec : p.tables.exec = Jvm.exec) {own C : String} {index : Nat} {y : MethodName} {bytes : ByteArray} {maxL : Nat} {ret : Option FieldType} {hh : List (Nat × Nat × Nat × Nat)}
    (hown : s.vm.findClass own = some m.cls) (hlink : (Cond.methodLink own index y).before args s = true) (hinst : (Cond.instanceMethod y).before args s = true) (hsel : (Cond.selects C y y).before args s = true)
    (hcode : (Cond.codeWith y bytes maxL ret hh).before args s = true) (hy : y.cls ≠ "java/lang/invoke/MethodHandle" ∧ y.cls ≠ "java/lang/invoke/VarHandle")
    {W9 : Nat} {Pre : Pt → Array Value → Prop} {Post : Pt → Array Value → Option Value → Pt → Prop} {PostX : Pt → Array Value → Addr → Pt → Prop} (hK : vx_Back l R p e below s args y 3 W9 Pre Post PostX)
    {b : Addr} {cellB : Cell} (hcell : T.heap[b]? = some cellB) (hobj : cellB.vm.isStatics = false) (hcls : s.vm.findClass C = some cellB.cls)
    {g : JFrame} (hg : g.method = m) (hsize : g.locals.size = c.maxLocals) {argsL rest : List Value} (hlen : ∀ sig, parseMethodDescriptor y.desc = some sig → argsL.length = sig.parameters.length)
    (hstack : g.stack = argsL.reverse ++ .ref b :: rest) (hW : 2 * g.monitorRoom + (rest.map fun v => v.category).sum ≤ W9) (hdg : decode c.code g.pc = .ok (.invokevirtual index, 3))
    (hpre : ∀ vm₁, s.WarmedH vm₁ → Pre ⟨T.setVm vm₁, locs, cells, slots⟩ (Value.ref b :: argsL).toArray) :
    (∃ (v : Option Value) (vm₁ : Vm) (B : Pt), s.WarmedH vm₁ ∧ Stand p l e R s m args below meth c B.U B.locs B.cells B.slots ∧ Post ⟨T.setVm vm₁, locs, cells, slots⟩ (Value.ref b :: argsL).toArray v B ∧
      ∀ target, Steps p.tables e below (B.U.setTop { g with pc := g.pc + 3, stack := v.toList ++ rest }) target → Steps p.tables e below (T.setTop g) target) ∨
    (∃ (q : Addr) (vm₁ : Vm) (B : Pt), s.WarmedH vm₁ ∧ Stand p l e R s m args below meth c B.U B.locs B.cells B.slots ∧ PostX ⟨T.setVm vm₁, locs, cells, slots⟩ (Value.ref b :: argsL).toArray q B ∧
      Steps p.tables e below (T.setTop g) ((B.U.setTop { g with stack := rest }).pushFrame (.throwing q))) := by
  obtain ⟨mk, methM, hnamed, hmethM, hstM, habM⟩ := Cond.instanceMethod_spec hinst
  obtain ⟨m8, methM', cM, hn8, hmethM', -, -, -, -, -, -, hsigM⟩ := Cond.codeWith_spec hcode
  cases Option.some.inj (hn8.symm.trans hnamed)
  cases hmethM.symm.trans hmethM'
  obtain ⟨c2, r2, m2, q1, q2, q3, q4, kP, hkP, hkPi⟩ := Cond.selects_spec hsel
  cases hcls.symm.trans q1
  cases (State.methodFound?_of_named hnamed hy).symm.trans q2
  cases hnamed.symm.trans q3
  have hselP : selectMethod e.platform s.vm cellB.cls mk = .method mk := by rw [Launch.admits_selectMethod X.admits]; exact q4
  obtain ⟨vm₁, X₁, hstep₁⟩ := X.invokevirtual hexec hown hlink hnamed hmethM hstM hkP hkPi hy (a := b) (cell := cellB) hcell
    (fun z h => by rw [h] at hobj; cases hobj) hselP hmethM habM hkP hkPi (g := g) hg (argsL := argsL) (rest := rest) (hlen _ hsigM) hstack hdg
  rcases hK m meth c ⟨T.setVm vm₁, locs, cells, slots⟩ { g with stack := rest } (.invokevirtual index) mk (Value.ref b :: argsL).toArray X₁ hg hsize hdg hW (X₁.named hnamed) (hpre vm₁ X₁.warmed) with ⟨v, B, X', hpost, hsteps⟩ | ⟨q, B, X', hpost, hsteps⟩
  · exact Or.inl ⟨v, vm₁, B, X₁.warmed, X', hpost, fun target h => hstep₁ _ fun acts => by rw [doInvoke_state]; exact hsteps.trans h⟩
  · exact Or.inr ⟨q, vm₁, B, X₁.warmed, X', hpost, hstep₁ _ fun acts => by rw [doInvoke_state]; exact hsteps⟩
theorem vx_callSX (X : Stand p l e R s m args below meth c T locs cells slots) (hexec : p.tables.exec = Jvm.exec) {own : String} {index : Nat} {y : MethodName} {bytes : ByteArray} {maxL : Nat} {ret : Option FieldType} {hh : List (Nat × Nat × Nat × Nat)}
    (hown : s.vm.findClass own = some m.cls) (hlink : (Cond.methodLink own index y).before args s = true) (hstat : (Cond.static y).before args s = true) (hinit : (Cond.initialized y.cls).before args s = true)
    (hcode : (Cond.codeWith y bytes maxL ret hh).before args s = true) (hy : y.cls ≠ "java/lang/invoke/MethodHandle" ∧ y.cls ≠ "java/lang/invoke/VarHandle")
    {W9 : Nat} {Pre : Pt → Array Value → Prop} {Post : Pt → Array Value → Option Value → Pt → Prop} {PostX : Pt → Array Value → Addr → Pt → Prop} (hK : vx_Back l R p e below s args y 3 W9 Pre Post PostX)
    {g : JFrame} (hg : g.method = m) (hsize : g.locals.size = c.maxLocals) {argsL rest : List Value} (hlen : ∀ sig, parseMethodDescriptor y.desc = some sig → argsL.length = sig.parameters.length)
    (hstack : g.stack = argsL.reverse ++ rest) (hW : 2 * g.monitorRoom + (rest.map fun v => v.category).sum ≤ W9) (hdg : decode c.code g.pc = .ok (.invokestatic index, 3))
    (hpre : ∀ vm₁, s.WarmedH vm₁ → Pre ⟨T.setVm vm₁, locs, cells, slots⟩ argsL.toArray) :
    (∃ (v : Option Value) (vm₁ : Vm) (B : Pt), s.WarmedH vm₁ ∧ Stand p l e R s m args below meth c B.U B.locs B.cells B.slots ∧ Post ⟨T.setVm vm₁, locs, cells, slots⟩ argsL.toArray v B ∧
      ∀ target, Steps p.tables e below (B.U.setTop { g with pc := g.pc + 3, stack := v.toList ++ rest }) target → Steps p.tables e below (T.setTop g) target) ∨
    (∃ (q : Addr) (vm₁ : Vm) (B : Pt), s.WarmedH vm₁ ∧ Stand p l e R s m args below meth c B.U B.locs B.cells B.slots ∧ PostX ⟨T.setVm vm₁, locs, cells, slots⟩ argsL.toArray q B ∧
      Steps p.tables e below (T.setTop g) ((B.U.setTop { g with stack := rest }).pushFrame (.throwing q))) := by
  obtain ⟨mk, methM, cM, hnamed, hmethM, -, -, -, -, -, -, hsigM⟩ := Cond.codeWith_spec hcode
  have hstatic : methM.isStatic = true := Cond.static_spec hnamed hmethM hstat
  obtain ⟨kP, hkP, -⟩ := className_of_methodNamed hnamed
  have hinitP : kP.init = .initialized := Cond.initialized_spec (findClass_of_methodNamed hnamed) hkP hinit
  obtain ⟨vm₁, X₁, hstep₁⟩ := X.invokestatic hexec hown hlink hnamed hmethM hstatic hkP hinitP hy (g := g) hg (argsL := argsL) (rest := rest) (hlen _ hsigM) hstack hdg
  rcases hK m meth c ⟨T.setVm vm₁, locs, cells, slots⟩ { g with stack := rest } (.invokestatic index) mk argsL.toArray X₁ hg hsize hdg hW (X₁.named hnamed) (hpre vm₁ X₁.warmed) with ⟨v, B, X', hpost, hsteps⟩ | ⟨q, B, X', hpost, hsteps⟩
  · exact Or.inl ⟨v, vm₁, B, X₁.warmed, X', hpost, fun target h => hstep₁ _ fun acts => by rw [doInvoke_state]; exact hsteps.trans h⟩
  · exact Or.inr ⟨q, vm₁, B, X₁.warmed, X', hpost, hstep₁ _ fun acts => by rw [doInvoke_state]; exact hsteps⟩
theorem vx_callVW (X : Stand p l e R s m args below meth c T locs cells slots) (hexec : p.tables.exec = Jvm.exec) {own C : String} {index : Nat} {y : MethodName} {bytes : ByteArray} {maxL : Nat} {ret : Option FieldType} {hh : List (Nat × Nat × Nat × Nat)}
    (hown : s.vm.findClass own = some m.cls) (hlink : (Cond.methodLink own index y).before args s = true) (hinst : (Cond.instanceMethod y).before args s = true) (hsel : (Cond.selects C y y).before args s = true)
    (hcode : (Cond.codeWith y bytes maxL ret hh).before args s = true) (hy : y.cls ≠ "java/lang/invoke/MethodHandle" ∧ y.cls ≠ "java/lang/invoke/VarHandle")
    {W9 : Nat} {Pre : Pt → Array Value → Prop} {Post : Pt → Array Value → Option Value → Pt → Prop} (hK : Back l R p e below s args y 3 W9 Pre Post)
    {b : Addr} {cellB : Cell} (hcell : T.heap[b]? = some cellB) (hobj : cellB.vm.isStatics = false) (hcls : s.vm.findClass C = some cellB.cls)
    {g : JFrame} (hg : g.method = m) (hsize : g.locals.size = c.maxLocals) {argsL rest : List Value} (hlen : ∀ sig, parseMethodDescriptor y.desc = some sig → argsL.length = sig.parameters.length)
    (hstack : g.stack = argsL.reverse ++ .ref b :: rest) (hW : 2 * g.monitorRoom + (rest.map fun v => v.category).sum ≤ W9) (hdg : decode c.code g.pc = .ok (.invokevirtual index, 3))
    (hpre : ∀ vm₁, s.WarmedH vm₁ → Pre ⟨T.setVm vm₁, locs, cells, slots⟩ (Value.ref b :: argsL).toArray) :
    ∃ (v : Option Value) (vm₁ : Vm) (B : Pt), s.WarmedH vm₁ ∧ Stand p l e R s m args below meth c B.U B.locs B.cells B.slots ∧ Post ⟨T.setVm vm₁, locs, cells, slots⟩ (Value.ref b :: argsL).toArray v B ∧
      ∀ target, Steps p.tables e below (B.U.setTop { g with pc := g.pc + 3, stack := v.toList ++ rest }) target → Steps p.tables e below (T.setTop g) target := by
  obtain ⟨mk, methM, hnamed, hmethM, hstM, habM⟩ := Cond.instanceMethod_spec hinst
  obtain ⟨m8, methM', cM, hn8, hmethM', -, -, -, -, -, -, hsigM⟩ := Cond.codeWith_spec hcode
  cases Option.some.inj (hn8.symm.trans hnamed)
  cases hmethM.symm.trans hmethM'
  obtain ⟨c2, r2, m2, q1, q2, q3, q4, kP, hkP, hkPi⟩ := Cond.selects_spec hsel
  cases hcls.symm.trans q1
  cases (State.methodFound?_of_named hnamed hy).symm.trans q2
  cases hnamed.symm.trans q3
  have hselP : selectMethod e.platform s.vm cellB.cls mk = .method mk := by rw [Launch.admits_selectMethod X.admits]; exact q4
  obtain ⟨vm₁, X₁, hstep₁⟩ := X.invokevirtual hexec hown hlink hnamed hmethM hstM hkP hkPi hy (a := b) (cell := cellB) hcell
    (fun z h => by rw [h] at hobj; cases hobj) hselP hmethM habM hkP hkPi (g := g) hg (argsL := argsL) (rest := rest) (hlen _ hsigM) hstack hdg
  obtain ⟨v, B, X', hpost, hsteps⟩ := hK m meth c ⟨T.setVm vm₁, locs, cells, slots⟩ { g with stack := rest } (.invokevirtual index) mk (Value.ref b :: argsL).toArray X₁ hg hsize hdg hW (X₁.named hnamed) (hpre vm₁ X₁.warmed)
  exact ⟨v, vm₁, B, X₁.warmed, X', hpost, fun target h => hstep₁ _ fun acts => by rw [doInvoke_state]; exact hsteps.trans h⟩
abbrev vx_CVW (R : Room) (s : State) (args : Array Value) (own C : String) (index : Nat) (y : MethodName) (bytes : ByteArray) (maxL : Nat) (ret : Option FieldType) (hh : List (Nat × Nat × Nat × Nat)) (ws : List Cond) (rm : Room) (mc ms n : Nat) : Prop :=
  (rm.cells = mc ∧ rm.slots = ms ∧ rm.frames + 1 ≤ R.frames ∧ 8 + (maxL + 11) + rm.locals ≤ R.locals ∧ (∀ w ∈ ws, ∀ (a' : Array Value) (U : State), s.WarmedH U.vm → w.before a' U = true) ∧ Cond.codeWith y bytes maxL ret hh ∈ ws) ∧
  (Cond.codeWith y bytes maxL ret hh).before args s = true ∧ (Cond.initialized y.cls).before args s = true ∧ (y.cls ≠ "java/lang/invoke/MethodHandle" ∧ y.cls ≠ "java/lang/invoke/VarHandle") ∧
  (∀ sig, parseMethodDescriptor y.desc = some sig → n = sig.parameters.length) ∧ (Cond.methodLink own index y).before args s = true ∧ (Cond.instanceMethod y).before args s = true ∧ (Cond.selects C y y).before args s = true
theorem vx_cwVW {own C : String} {index maxL mc ms : Nat} {y : MethodName} {bytes : ByteArray} {ret : Option FieldType} {hh : List (Nat × Nat × Nat × Nat)} {Ts ws ws' : List Cond} {rm : Room} (n : Nat) (ht : ∀ w ∈ Ts, w.before args s = true) (hT : GoodIn Ts (wsV own index C y ws)) (hw : ws = Cond.codeWith y bytes maxL ret hh :: ws') (hrc : rm.cells = mc) (hrs : rm.slots = ms)
    (hd : y.cls = C ∧ y.cls ≠ "java/lang/invoke/MethodHandle" ∧ y.cls ≠ "java/lang/invoke/VarHandle" ∧ (parseMethodDescriptor y.desc).map (fun d => d.parameters.length) = some n) (hR : rm.frames + 1 ≤ R.frames ∧ 8 + (maxL + 11) + rm.locals ≤ R.locals) :
    vx_CVW R s args own C index y bytes maxL ret hh ws rm mc ms n := by
  obtain ⟨hC, hd⟩ := hd
  subst hC
  have ok : ∀ w ∈ wsV own index y.cls y ws, w.before args s = true := fun w h => ht w (hT w h).1
  have hG : GoodIn Ts ws := fun w h => hT w (by unfold wsV; exact List.mem_append_right _ h)
  have hc : Cond.codeWith y bytes maxL ret hh ∈ ws := by rw [hw]; exact List.mem_cons_self
  refine ⟨⟨hrc, hrs, hR.1, hR.2, pay_in ht hG, hc⟩, ht _ (hG _ hc).1, ok _ (by simp [wsV]), ⟨hd.1, hd.2.1⟩, fun sig h => ?_, ok _ (by simp [wsV]), ok _ (by simp [wsV]), ok _ (by simp [wsV])⟩
  have h2 := hd.2.2
  rw [h] at h2
  exact (Option.some.inj h2).symm
theorem vx_runVW {y : MethodName} {bytes cc : ByteArray} {maxL nL mc ms n index : Nat} {ret : Option FieldType} {hh : List (Nat × Nat × Nat × Nat)} {ws : List Cond} {rm : Room} {Pc : Array Value → State → Prop} {Qc : Array Value → State → Outcome → State → Prop} {free : Addr → Prop} {Ts : List Cond} {own C : String} {b : Addr} {As rest : List Value} {g : JFrame}
    (S : CallFix p m c cc nL s args Ts own) (hM : Met l y ws rm Pc Qc mc ms free) (cw : vx_CVW R s args own C index y bytes maxL ret hh ws rm mc ms n) (hp : PreV s H C b Pc As)
    (hg : g.method = m) (hn : As.length = n) (hsize : g.locals.size = nL) (hstack : g.stack = As.reverse ++ .ref b :: rest) (hW : 2 * g.monitorRoom + (rest.map fun v => v.category).sum ≤ 8) (hdg : decode cc g.pc = .ok (.invokevirtual index, 3)) (hf : cells + mc ≤ R.cells ∧ slots + ms ≤ R.slots) :
    va_Run p l e R s m args below meth c H locs cells slots mc ms g rest (Qc (Value.ref b :: As).toArray) free := by
  obtain ⟨⟨hrc, hrs, hfr, hlo, hws, hcw⟩, hcode, hini, hy, hlen, hl, hin, hse⟩ := cw
  have hK : Back l R p e below s args y 3 8 (PreOf R mc ms Pc) (PostOf Qc mc ms free) := va_backW (hh := hh) (bytes := bytes) (maxL := maxL) (ret := ret) hM hp.1 hrc hrs hfr hlo hws hcw (fun a' U hW => word_at hW (Or.inl (by first | rfl | simp [Cond.onTables, Cond.keeps, Cond.steady])) hini)
  obtain ⟨hx, hb, hml, ho, -⟩ := S
  obtain ⟨-, ⟨cellB, hcB, hoB, hclB⟩, hPc⟩ := hp
  intro T hT X
  obtain ⟨v, vm₁, ⟨U', l2, c2, s2⟩, hW₁, X', ⟨g', mk, t, L, e1, e2, hq, h1, hL, h2, h3⟩, st⟩ := vx_callVW X hx (C := C) (hh := hh) (bytes := bytes) (maxL := maxL) (ret := ret) ho hl hin hse hcode hy hK (by rw [hT]; exact hcB) hoB hclB hg (hsize.trans hml.symm) (argsL := As) (rest := rest) (fun sig h => hn.trans (hlen sig h)) hstack hW (by rw [hb]; exact hdg)
    (fun vm₁ hW₁ => ⟨hf.1, hf.2, hPc (T.setVm vm₁) hT hW₁⟩)
  dsimp only [Pt.U, Pt.locs, Pt.cells, Pt.slots] at X' e1 e2 h1 h2 h3 st
  subst h1; subst h2; subst h3
  exact ⟨v, (T.setVm vm₁).calling g' mk (Value.ref b :: As).toArray, t, U', L, hT, X', hL, e1, e2, hq, st⟩
section
variable {y : MethodName} {bytes cc : ByteArray} {maxL nL mc ms n index : Nat} {ret : Option FieldType} {ws : List Cond} {rm : Room} {Pc : Array Value → State → Prop} {Qc : Array Value → State → Outcome → State → Prop} {XC : String → State → State → Prop} {free : Addr → Prop} {Ts : List Cond} {own C : String} {b : Addr} {As rest : List Value} {g : JFrame}
theorem vx_runVX {hh : List (Nat × Nat × Nat × Nat)} (S : CallFix p m c cc nL s args Ts own) (hM : vx_Met l y ws rm Pc Qc XC mc ms free) (cw : vx_CVW R s args own C index y bytes maxL ret hh ws rm mc ms n) (hp : PreV s H C b Pc As)
    (hg : g.method = m) (hn : As.length = n) (hsize : g.locals.size = nL) (hstack : g.stack = As.reverse ++ .ref b :: rest) (hW : 2 * g.monitorRoom + (rest.map fun v => v.category).sum ≤ 8) (hdg : decode cc g.pc = .ok (.invokevirtual index, 3)) (hf : cells + mc ≤ R.cells ∧ slots + ms ≤ R.slots) :
    vx_Run p l e R s m args below meth c H locs cells slots mc ms g rest (Qc (Value.ref b :: As).toArray) XC free := by
  obtain ⟨⟨hrc, hrs, hfr, hlo, hws, hcw⟩, hcode, hini, hy, hlen, hl, hin, hse⟩ := cw
  have hK : vx_Back l R p e below s args y 3 8 (PreOf R mc ms Pc) (PostOf Qc mc ms free) (vx_Post XC mc ms free) := vx_backW (hh := hh) (bytes := bytes) (maxL := maxL) (ret := ret) hM hp.1 hrc hrs hfr hlo hws hcw (fun a' U hW => word_at hW (Or.inl (by first | rfl | simp [Cond.onTables, Cond.keeps, Cond.steady])) hini)
  obtain ⟨hx, hb, hml, ho, -⟩ := S
  obtain ⟨-, ⟨cellB, hcB, hoB, hclB⟩, hPc⟩ := hp
  intro T hT X
  rcases vx_callVX X hx (C := C) (hh := hh) (bytes := bytes) (maxL := maxL) (ret := ret) ho hl hin hse hcode hy hK (by rw [hT]; exact hcB) hoB hclB hg (hsize.trans hml.symm) (argsL := As) (rest := rest) (fun sig h => hn.trans (hlen sig h)) hstack hW (by rw [hb]; exact hdg)
    (fun vm₁ hW₁ => ⟨hf.1, hf.2, hPc (T.setVm vm₁) hT hW₁⟩) with ⟨v, vm₁, ⟨U', l2, c2, s2⟩, hW₁, X', ⟨g', mk, t, L, e1, e2, hq, h1, hL, h2, h3⟩, st⟩ | ⟨q, vm₁, ⟨U', l2, c2, s2⟩, hW₁, X', ⟨g', mk, t, L, E, ce, e1, e2, hq, hce, hcv, hcl, h1, hL, h2, h3⟩, st⟩
  · dsimp only [Pt.U, Pt.locs, Pt.cells, Pt.slots] at X' e1 e2 h1 h2 h3 st
    subst h1; subst h2; subst h3
    exact Or.inl ⟨v, (T.setVm vm₁).calling g' mk (Value.ref b :: As).toArray, t, U', L, hT, X', hL, e1, e2, hq, st⟩
  · dsimp only [Pt.U, Pt.locs, Pt.cells, Pt.slots] at X' e1 e2 h1 h2 h3 st hcl
    subst h1; subst h2; subst h3
    exact Or.inr ⟨q, (T.setVm vm₁).calling g' mk (Value.ref b :: As).toArray, t, U', L, E, ce, hT, X', hL, e1, e2, hq, hce, hcv, vx_cls hW₁ hcl, st⟩
theorem vx_runSX {hh : List (Nat × Nat × Nat × Nat)} (S : CallFix p m c cc nL s args Ts own) (hM : vx_Met l y ws rm Pc Qc XC mc ms free) (cw : vx_CSW R s args own index y bytes maxL ret hh ws rm mc ms n) (hp : PreS s H Pc As)
    (hg : g.method = m) (hn : As.length = n) (hsize : g.locals.size = nL) (hstack : g.stack = As.reverse ++ rest) (hW : 2 * g.monitorRoom + (rest.map fun v => v.category).sum ≤ 8) (hdg : decode cc g.pc = .ok (.invokestatic index, 3)) (hf : cells + mc ≤ R.cells ∧ slots + ms ≤ R.slots) :
    vx_Run p l e R s m args below meth c H locs cells slots mc ms g rest (Qc As.toArray) XC free := by
  obtain ⟨⟨hrc, hrs, hfr, hlo, hws, hcw⟩, hcode, hini, hy, hlen, hl, hstt⟩ := cw
  have hK : vx_Back l R p e below s args y 3 8 (PreOf R mc ms Pc) (PostOf Qc mc ms free) (vx_Post XC mc ms free) := vx_backW (hh := hh) (bytes := bytes) (maxL := maxL) (ret := ret) hM hp.1 hrc hrs hfr hlo hws hcw (fun a' U hW => word_at hW (Or.inl (by first | rfl | simp [Cond.onTables, Cond.keeps, Cond.steady])) hini)
  obtain ⟨hx, hb, hml, ho, -⟩ := S
  intro T hT X
  rcases vx_callSX X hx (hh := hh) (bytes := bytes) (maxL := maxL) (ret := ret) ho hl hstt hini hcode hy hK hg (hsize.trans hml.symm) (argsL := As) (rest := rest) (fun sig h => hn.trans (hlen sig h)) hstack hW (by rw [hb]; exact hdg)
    (fun vm₁ hW₁ => ⟨hf.1, hf.2, hp.2 (T.setVm vm₁) hT hW₁⟩) with ⟨v, vm₁, ⟨U', l2, c2, s2⟩, hW₁, X', ⟨g', mk, t, L, e1, e2, hq, h1, hL, h2, h3⟩, st⟩ | ⟨q, vm₁, ⟨U', l2, c2, s2⟩, hW₁, X', ⟨g', mk, t, L, E, ce, e1, e2, hq, hce, hcv, hcl, h1, hL, h2, h3⟩, st⟩
  · dsimp only [Pt.U, Pt.locs, Pt.cells, Pt.slots] at X' e1 e2 h1 h2 h3 st
    subst h1; subst h2; subst h3
    exact Or.inl ⟨v, (T.setVm vm₁).calling g' mk As.toArray, t, U', L, hT, X', hL, e1, e2, hq, st⟩
  · dsimp only [Pt.U, Pt.locs, Pt.cells, Pt.slots] at X' e1 e2 h1 h2 h3 st hcl
    subst h1; subst h2; subst h3
    exact Or.inr ⟨q, (T.setVm vm₁).calling g' mk As.toArray, t, U', L, E, ce, hT, X', hL, e1, e2, hq, hce, hcv, vx_cls hW₁ hcl, st⟩
end
end VXH
theorem vx_ofWH {l : Launch} {y : MethodName} {ws ws' : List Cond} {rm : Room} {Pc : Array Value → State → Prop} {Qc : Array Value → State → Outcome → State → Prop} {XC : String → State → State → Prop} {mc ms : Nat} {free : Addr → Prop} {cc : ByteArray} {maxL : Nat} {ret : Option FieldType} {hh : List (Nat × Nat × Nat × Nat)}
    (hy : plainName y.cls = true) (hw : ws = Cond.codeWith y cc maxL ret hh :: ws')
    (body : ∀ p e s m args below meth c s₁, BodyLoose p l y (headSpec ws rm) cc maxL ret e s m args below meth c s₁ → c.maxLocals = maxL → Pc args s →
      W p l e (headSpec ws rm).room s m args below meth c s.heap [] 0 0 (vx_MQ below Qc XC args s mc ms free) (entryFrame m args maxL)) : vx_Met l y ws rm Pc Qc XC mc ms free := by
  refine MetFree.of_bodyS (code := cc) (maxLocals := maxL) (ret := ret) hy ?_ ?_
  · intro args s m h hn
    obtain ⟨m9, meth, c, hn9, h1, h2, h3, h4, -, h5, h6, -⟩ := Cond.codeWith_spec (atoms_spec (ws := ws) h _ (by rw [hw]; exact List.mem_cons_self))
    cases hn.symm.trans hn9
    exact ⟨meth, c, h1, h2, h3, h4, h5, h6⟩
  · intro p e s m args below meth c s₁ B hml hP _
    have hh0 : s₁.heap = s.heap := by rw [B.state]; rfl
    obtain ⟨t, a1, o, b1, b2, b3⟩ := body p e s m args below meth c s₁ B hml hP s₁ hh0 (Stand.of_body B)
    exact ⟨t, o, a1, b1, b2, b3⟩
/-! ===== END ===== -/
end
section
def RX0 : String := "ClipHibernation$1"
def TX0 : u_T := fun k => match k with
  | _ => ("", "", "", false)
def tyX0 : Nat → FieldType := fun k => match k with
  | _ => .int
theorem nmX0 : ∀ a, a < 0 → ∀ b, b < 0 → a ≠ b → (TX0 a).2.1 ≠ (TX0 b).2.1 := by decide +kernel
theorem tyX0_ok : ∀ k, k < 0 → parseFieldDescriptor (TX0 k).2.2.1 = some (tyX0 k) := by decide +kernel
def RX1 : String := "ClipHibernation$Archive"
def TX1 : u_T := fun k => match k with
  | 0 => ("ClipHibernation$Archive", "week", "I", false)
  | 1 => ("ClipHibernation$Archive", "food", "I", false)
  | 2 => ("ClipHibernation$Archive", "fed", "I", false)
  | 3 => ("ClipHibernation$Archive", "burned", "I", false)
  | 4 => ("ClipHibernation$Archive", "wakings", "I", false)
  | 5 => ("ClipHibernation$Archive", "clipCount", "I", false)
  | 6 => ("ClipHibernation$Archive", "lengths", "[I", true)
  | 7 => ("ClipHibernation$Archive", "paints", "[I", true)
  | 8 => ("ClipHibernation$Archive", "hashes", "[I", true)
  | 9 => ("ClipHibernation$Archive", "states", "[I", true)
  | 10 => ("ClipHibernation$Archive", "fats", "[I", true)
  | 11 => ("ClipHibernation$Archive", "scenes", "[I", true)
  | 12 => ("ClipHibernation$Archive", "reelCount", "I", false)
  | 13 => ("ClipHibernation$Archive", "bedCounts", "[I", true)
  | 14 => ("ClipHibernation$Archive", "beds", "[I", true)
  | 15 => ("ClipHibernation$Archive", "sceneCount", "I", false)
  | 16 => ("ClipHibernation$Archive", "limits", "[I", true)
  | _ => ("ClipHibernation$Archive", "springs", "[I", true)
def tyX1 : Nat → FieldType := fun k => match k with
  | 0 => .int
  | 1 => .int
  | 2 => .int
  | 3 => .int
  | 4 => .int
  | 5 => .int
  | 6 => .array .int
  | 7 => .array .int
  | 8 => .array .int
  | 9 => .array .int
  | 10 => .array .int
  | 11 => .array .int
  | 12 => .int
  | 13 => .array .int
  | 14 => .array .int
  | 15 => .int
  | 16 => .array .int
  | _ => .array .int
theorem nmX1 : ∀ a, a < 18 → ∀ b, b < 18 → a ≠ b → (TX1 a).2.1 ≠ (TX1 b).2.1 := by decide +kernel
theorem tyX1_ok : ∀ k, k < 18 → parseFieldDescriptor (TX1 k).2.2.1 = some (tyX1 k) := by decide +kernel
abbrev cX1_init : ByteArray := prog_3_method_1_code
def yX1_init : MethodName := ⟨RX1, "<init>", "()V"⟩
abbrev cX1_copyFrom : ByteArray := prog_3_method_2_code
def yX1_copyFrom : MethodName := ⟨RX1, "copyFrom", "(LClipHibernation$Archive;)V"⟩
abbrev cX1_empty : ByteArray := prog_3_method_3_code
def yX1_empty : MethodName := ⟨RX1, "empty", "()V"⟩
abbrev cX1_areColours : ByteArray := prog_3_method_4_code
def yX1_areColours : MethodName := ⟨RX1, "areColours", "(I)Z"⟩
abbrev cX1_hasRoomForClip : ByteArray := prog_3_method_5_code
def yX1_hasRoomForClip : MethodName := ⟨RX1, "hasRoomForClip", "()Z"⟩
abbrev cX1_hasRoomForReel : ByteArray := prog_3_method_6_code
def yX1_hasRoomForReel : MethodName := ⟨RX1, "hasRoomForReel", "()Z"⟩
abbrev cX1_hasRoomForScene : ByteArray := prog_3_method_7_code
def yX1_hasRoomForScene : MethodName := ⟨RX1, "hasRoomForScene", "()Z"⟩
abbrev cX1_putClip : ByteArray := prog_3_method_8_code
def yX1_putClip : MethodName := ⟨RX1, "putClip", "(I)I"⟩
abbrev cX1_putReel : ByteArray := prog_3_method_9_code
def yX1_putReel : MethodName := ⟨RX1, "putReel", "(I)I"⟩
abbrev cX1_putScene : ByteArray := prog_3_method_10_code
def yX1_putScene : MethodName := ⟨RX1, "putScene", "(I)I"⟩
abbrev cX1_digits : ByteArray := prog_3_method_11_code
def yX1_digits : MethodName := ⟨RX1, "digits", "(I)I"⟩
abbrev cX1_colourAt : ByteArray := prog_3_method_12_code
def yX1_colourAt : MethodName := ⟨RX1, "colourAt", "(II)I"⟩
abbrev cX1_coloursOf : ByteArray := prog_3_method_13_code
def yX1_coloursOf : MethodName := ⟨RX1, "coloursOf", "(I)I"⟩
abbrev cX1_renewHash : ByteArray := prog_3_method_14_code
def yX1_renewHash : MethodName := ⟨RX1, "renewHash", "(I)V"⟩
abbrev cX1_paintClip : ByteArray := prog_3_method_15_code
def yX1_paintClip : MethodName := ⟨RX1, "paintClip", "(III)I"⟩
abbrev cX1_sharedRun : ByteArray := prog_3_method_16_code
def yX1_sharedRun : MethodName := ⟨RX1, "sharedRun", "(II)I"⟩
abbrev cX1_runFrom : ByteArray := prog_3_method_17_code
def yX1_runFrom : MethodName := ⟨RX1, "runFrom", "(IIII)I"⟩
abbrev cX1_nearestTo : ByteArray := prog_3_method_18_code
def yX1_nearestTo : MethodName := ⟨RX1, "nearestTo", "(I)I"⟩
abbrev cX1_sameHash : ByteArray := prog_3_method_19_code
def yX1_sameHash : MethodName := ⟨RX1, "sameHash", "(I)I"⟩
abbrev cX1_findPattern : ByteArray := prog_3_method_20_code
def yX1_findPattern : MethodName := ⟨RX1, "findPattern", "(II)I"⟩
abbrev cX1_matchesAt : ByteArray := prog_3_method_21_code
def yX1_matchesAt : MethodName := ⟨RX1, "matchesAt", "(III)Z"⟩
abbrev cX1_sleepersWith : ByteArray := prog_3_method_22_code
def yX1_sleepersWith : MethodName := ⟨RX1, "sleepersWith", "(I)I"⟩
abbrev cX1_ownPattern : ByteArray := prog_3_method_23_code
def yX1_ownPattern : MethodName := ⟨RX1, "ownPattern", "(I)I"⟩
abbrev cX1_matchesAnother : ByteArray := prog_3_method_24_code
def yX1_matchesAnother : MethodName := ⟨RX1, "matchesAnother", "(II)Z"⟩
abbrev cX1_cutScene : ByteArray := prog_3_method_25_code
def yX1_cutScene : MethodName := ⟨RX1, "cutScene", "(II)I"⟩
abbrev cX1_inBed : ByteArray := prog_3_method_26_code
def yX1_inBed : MethodName := ⟨RX1, "inBed", "(II)I"⟩
abbrev cX1_setBed : ByteArray := prog_3_method_27_code
def yX1_setBed : MethodName := ⟨RX1, "setBed", "(III)V"⟩
abbrev cX1_placeOf : ByteArray := prog_3_method_28_code
def yX1_placeOf : MethodName := ⟨RX1, "placeOf", "(I)I"⟩
abbrev cX1_sleepersIn : ByteArray := prog_3_method_29_code
def yX1_sleepersIn : MethodName := ⟨RX1, "sleepersIn", "(I)I"⟩
abbrev cX1_homeOf : ByteArray := prog_3_method_30_code
def yX1_homeOf : MethodName := ⟨RX1, "homeOf", "(II)I"⟩
abbrev cX1_wayBed : ByteArray := prog_3_method_31_code
def yX1_wayBed : MethodName := ⟨RX1, "wayBed", "(III)I"⟩
abbrev cX1_passedBeds : ByteArray := prog_3_method_32_code
def yX1_passedBeds : MethodName := ⟨RX1, "passedBeds", "(II)I"⟩
abbrev cX1_refusal : ByteArray := prog_3_method_33_code
def yX1_refusal : MethodName := ⟨RX1, "refusal", "(II)I"⟩
abbrev cX1_layDown : ByteArray := prog_3_method_34_code
def yX1_layDown : MethodName := ⟨RX1, "layDown", "(II)I"⟩
abbrev cX1_rouse : ByteArray := prog_3_method_35_code
def yX1_rouse : MethodName := ⟨RX1, "rouse", "(I)I"⟩
abbrev cX1_leaveBed : ByteArray := prog_3_method_36_code
def yX1_leaveBed : MethodName := ⟨RX1, "leaveBed", "(I)I"⟩
abbrev cX1_airReel : ByteArray := prog_3_method_37_code
def yX1_airReel : MethodName := ⟨RX1, "airReel", "(I)I"⟩
abbrev cX1_looks : ByteArray := prog_3_method_38_code
def yX1_looks : MethodName := ⟨RX1, "looks", "(II)I"⟩
abbrev cX1_mostLooks : ByteArray := prog_3_method_39_code
def yX1_mostLooks : MethodName := ⟨RX1, "mostLooks", "(I)I"⟩
abbrev cX1_allLooks : ByteArray := prog_3_method_40_code
def yX1_allLooks : MethodName := ⟨RX1, "allLooks", "(I)I"⟩
abbrev cX1_cluster : ByteArray := prog_3_method_41_code
def yX1_cluster : MethodName := ⟨RX1, "cluster", "(I)I"⟩
abbrev cX1_nearestReel : ByteArray := prog_3_method_42_code
def yX1_nearestReel : MethodName := ⟨RX1, "nearestReel", "(I)I"⟩
abbrev cX1_mayFeed : ByteArray := prog_3_method_43_code
def yX1_mayFeed : MethodName := ⟨RX1, "mayFeed", "(II)Z"⟩
abbrev cX1_feedClip : ByteArray := prog_3_method_44_code
def yX1_feedClip : MethodName := ⟨RX1, "feedClip", "(II)I"⟩
abbrev cX1_mayStore : ByteArray := prog_3_method_45_code
def yX1_mayStore : MethodName := ⟨RX1, "mayStore", "(I)Z"⟩
abbrev cX1_store : ByteArray := prog_3_method_46_code
def yX1_store : MethodName := ⟨RX1, "store", "(I)I"⟩
abbrev cX1_mayPass : ByteArray := prog_3_method_47_code
def yX1_mayPass : MethodName := ⟨RX1, "mayPass", "(I)Z"⟩
abbrev cX1_pass : ByteArray := prog_3_method_48_code
def yX1_pass : MethodName := ⟨RX1, "pass", "(I)I"⟩
abbrev cX1_burn : ByteArray := prog_3_method_49_code
def yX1_burn : MethodName := ⟨RX1, "burn", "(I)I"⟩
abbrev cX1_refillSprings : ByteArray := prog_3_method_50_code
def yX1_refillSprings : MethodName := ⟨RX1, "refillSprings", "()V"⟩
abbrev cX1_weeksLeft : ByteArray := prog_3_method_51_code
def yX1_weeksLeft : MethodName := ⟨RX1, "weeksLeft", "(I)I"⟩
abbrev cX1_allFat : ByteArray := prog_3_method_52_code
def yX1_allFat : MethodName := ⟨RX1, "allFat", "()I"⟩
abbrev cX1_clipsInState : ByteArray := prog_3_method_53_code
def yX1_clipsInState : MethodName := ⟨RX1, "clipsInState", "(I)I"⟩
abbrev cX1_faults : ByteArray := prog_3_method_54_code
def yX1_faults : MethodName := ⟨RX1, "faults", "()I"⟩
abbrev cX1_bedsWith : ByteArray := prog_3_method_55_code
def yX1_bedsWith : MethodName := ⟨RX1, "bedsWith", "(I)I"⟩
abbrev cX1_isFound : ByteArray := prog_3_method_56_code
def yX1_isFound : MethodName := ⟨RX1, "isFound", "(I)Z"⟩
def RX2 : String := "ClipHibernation$Command"
def TX2 : u_T := fun k => match k with
  | _ => ("", "", "", false)
def tyX2 : Nat → FieldType := fun k => match k with
  | _ => .int
theorem nmX2 : ∀ a, a < 0 → ∀ b, b < 0 → a ≠ b → (TX2 a).2.1 ≠ (TX2 b).2.1 := by decide +kernel
theorem tyX2_ok : ∀ k, k < 0 → parseFieldDescriptor (TX2 k).2.2.1 = some (tyX2 k) := by decide +kernel
def RX3 : String := "ClipHibernation$Script"
def TX3 : u_T := fun k => match k with
  | 0 => ("ClipHibernation$Script", "archive", "LClipHibernation$Archive;", true)
  | 1 => ("ClipHibernation$Script", "text", "LClipHibernation$Text;", true)
  | 2 => ("ClipHibernation$Script", "errorKind", "I", false)
  | 3 => ("ClipHibernation$Script", "errorOffset", "I", false)
  | 4 => ("ClipHibernation$Script", "executed", "I", false)
  | 5 => ("ClipHibernation$Script", "depth", "I", false)
  | 6 => ("ClipHibernation$Script", "bodyStarts", "[I", true)
  | 7 => ("ClipHibernation$Script", "roundsLeft", "[I", true)
  | 8 => ("ClipHibernation$Script", "first", "I", false)
  | 9 => ("ClipHibernation$Script", "second", "I", false)
  | _ => ("ClipHibernation$Script", "third", "I", false)
def tyX3 : Nat → FieldType := fun k => match k with
  | 0 => .object "ClipHibernation$Archive"
  | 1 => .object "ClipHibernation$Text"
  | 2 => .int
  | 3 => .int
  | 4 => .int
  | 5 => .int
  | 6 => .array .int
  | 7 => .array .int
  | 8 => .int
  | 9 => .int
  | _ => .int
theorem nmX3 : ∀ a, a < 11 → ∀ b, b < 11 → a ≠ b → (TX3 a).2.1 ≠ (TX3 b).2.1 := by decide +kernel
theorem tyX3_ok : ∀ k, k < 11 → parseFieldDescriptor (TX3 k).2.2.1 = some (tyX3 k) := by decide +kernel
abbrev cX3_init : ByteArray := prog_5_method_1_code
def yX3_init : MethodName := ⟨RX3, "<init>", "()V"⟩
abbrev cX3_run : ByteArray := prog_5_method_2_code
def yX3_run : MethodName := ⟨RX3, "run", "()V"⟩
abbrev cX3_begin : ByteArray := prog_5_method_3_code
def yX3_begin : MethodName := ⟨RX3, "begin", "()V"⟩
abbrev cX3_fail : ByteArray := prog_5_method_4_code
def yX3_fail : MethodName := ⟨RX3, "fail", "(I)V"⟩
abbrev cX3_expect : ByteArray := prog_5_method_5_code
def yX3_expect : MethodName := ⟨RX3, "expect", "(LClipHibernation$Token;)V"⟩
abbrev cX3_runCommand : ByteArray := prog_5_method_6_code
def yX3_runCommand : MethodName := ⟨RX3, "runCommand", "()V"⟩
abbrev cX3_presentCommand : ByteArray := prog_5_method_7_code
def yX3_presentCommand : MethodName := ⟨RX3, "presentCommand", "()LClipHibernation$Command;"⟩
abbrev cX3_beginRepeat : ByteArray := prog_5_method_8_code
def yX3_beginRepeat : MethodName := ⟨RX3, "beginRepeat", "()V"⟩
abbrev cX3_endRound : ByteArray := prog_5_method_9_code
def yX3_endRound : MethodName := ⟨RX3, "endRound", "()V"⟩
abbrev cX3_readNumbers : ByteArray := prog_5_method_10_code
def yX3_readNumbers : MethodName := ⟨RX3, "readNumbers", "(LClipHibernation$Command;)V"⟩
abbrev cX3_coloursNumber : ByteArray := prog_5_method_11_code
def yX3_coloursNumber : MethodName := ⟨RX3, "coloursNumber", "()I"⟩
abbrev cX3_number : ByteArray := prog_5_method_12_code
def yX3_number : MethodName := ⟨RX3, "number", "(II)I"⟩
abbrev cX3_isRefused : ByteArray := prog_5_method_13_code
def yX3_isRefused : MethodName := ⟨RX3, "isRefused", "(LClipHibernation$Command;)Z"⟩
abbrev cX3_carryOut : ByteArray := prog_5_method_14_code
def yX3_carryOut : MethodName := ⟨RX3, "carryOut", "(LClipHibernation$Command;)V"⟩
def RX4 : String := "ClipHibernation$Text"
def TX4 : u_T := fun k => match k with
  | 0 => ("ClipHibernation$Text", "bytes", "[B", true)
  | 1 => ("ClipHibernation$Text", "size", "I", false)
  | 2 => ("ClipHibernation$Text", "position", "I", false)
  | 3 => ("ClipHibernation$Text", "token", "LClipHibernation$Token;", false)
  | 4 => ("ClipHibernation$Text", "start", "I", false)
  | 5 => ("ClipHibernation$Text", "number", "I", false)
  | _ => ("ClipHibernation$Text", "hasZero", "Z", false)
def tyX4 : Nat → FieldType := fun k => match k with
  | 0 => .array .byte
  | 1 => .int
  | 2 => .int
  | 3 => .object "ClipHibernation$Token"
  | 4 => .int
  | 5 => .int
  | _ => .boolean
theorem nmX4 : ∀ a, a < 7 → ∀ b, b < 7 → a ≠ b → (TX4 a).2.1 ≠ (TX4 b).2.1 := by decide +kernel
theorem tyX4_ok : ∀ k, k < 7 → parseFieldDescriptor (TX4 k).2.2.1 = some (tyX4 k) := by decide +kernel
abbrev cX4_init : ByteArray := prog_6_method_1_code
def yX4_init : MethodName := ⟨RX4, "<init>", "()V"⟩
abbrev cX4_addSigns : ByteArray := prog_6_method_2_code
def yX4_addSigns : MethodName := ⟨RX4, "addSigns", "(Ljava/lang/String;)V"⟩
abbrev cX4_addFour : ByteArray := prog_6_method_3_code
def yX4_addFour : MethodName := ⟨RX4, "addFour", "(I)V"⟩
abbrev cX4_add : ByteArray := prog_6_method_4_code
def yX4_add : MethodName := ⟨RX4, "add", "(I)V"⟩
abbrev cX4_readToken : ByteArray := prog_6_method_5_code
def yX4_readToken : MethodName := ⟨RX4, "readToken", "()V"⟩
abbrev cX4_readWord : ByteArray := prog_6_method_6_code
def yX4_readWord : MethodName := ⟨RX4, "readWord", "()V"⟩
abbrev cX4_readNumber : ByteArray := prog_6_method_7_code
def yX4_readNumber : MethodName := ⟨RX4, "readNumber", "()V"⟩
abbrev cX4_tokenOf : ByteArray := prog_6_method_8_code
def yX4_tokenOf : MethodName := ⟨RX4, "tokenOf", "(I)LClipHibernation$Token;"⟩
abbrev cX4_isWord : ByteArray := prog_6_method_9_code
def yX4_isWord : MethodName := ⟨RX4, "isWord", "(Ljava/lang/String;)Z"⟩
def RX5 : String := "ClipHibernation$Token"
def TX5 : u_T := fun k => match k with
  | _ => ("", "", "", false)
def tyX5 : Nat → FieldType := fun k => match k with
  | _ => .int
theorem nmX5 : ∀ a, a < 0 → ∀ b, b < 0 → a ≠ b → (TX5 a).2.1 ≠ (TX5 b).2.1 := by decide +kernel
theorem tyX5_ok : ∀ k, k < 0 → parseFieldDescriptor (TX5 k).2.2.1 = some (tyX5 k) := by decide +kernel
def RX6 : String := "ClipHibernation"
def TX6 : u_T := fun k => match k with
  | 0 => ("ClipHibernation", "now", "LClipHibernation$Archive;", true)
  | 1 => ("ClipHibernation", "trial", "LClipHibernation$Archive;", true)
  | 2 => ("ClipHibernation", "snapshot", "LClipHibernation$Archive;", true)
  | 3 => ("ClipHibernation", "snapshotSaved", "Z", false)
  | 4 => ("ClipHibernation", "past", "[LClipHibernation$Archive;", true)
  | 5 => ("ClipHibernation", "pastCount", "I", false)
  | 6 => ("ClipHibernation", "pastEnd", "I", false)
  | 7 => ("ClipHibernation", "script", "LClipHibernation$Script;", true)
  | 8 => ("ClipHibernation", "report", "[B", true)
  | _ => ("ClipHibernation", "reportLength", "I", false)
def tyX6 : Nat → FieldType := fun k => match k with
  | 0 => .object "ClipHibernation$Archive"
  | 1 => .object "ClipHibernation$Archive"
  | 2 => .object "ClipHibernation$Archive"
  | 3 => .boolean
  | 4 => .array (.object "ClipHibernation$Archive")
  | 5 => .int
  | 6 => .int
  | 7 => .object "ClipHibernation$Script"
  | 8 => .array .byte
  | _ => .int
theorem nmX6 : ∀ a, a < 10 → ∀ b, b < 10 → a ≠ b → (TX6 a).2.1 ≠ (TX6 b).2.1 := by decide +kernel
theorem tyX6_ok : ∀ k, k < 10 → parseFieldDescriptor (TX6 k).2.2.1 = some (tyX6 k) := by decide +kernel
abbrev cX6_init : ByteArray := prog_1_method_1_code
def yX6_init : MethodName := ⟨RX6, "<init>", "()V"⟩
abbrev cX6_append : ByteArray := prog_1_method_2_code
def yX6_append : MethodName := ⟨RX6, "append", "(IIIII)I"⟩
abbrev cX6_truncateInput : ByteArray := prog_1_method_3_code
def yX6_truncateInput : MethodName := ⟨RX6, "truncateInput", "(I)I"⟩
abbrev cX6_runScript : ByteArray := prog_1_method_4_code
def yX6_runScript : MethodName := ⟨RX6, "runScript", "()I"⟩
abbrev cX6_addClip : ByteArray := prog_1_method_5_code
def yX6_addClip : MethodName := ⟨RX6, "addClip", "(I)I"⟩
abbrev cX6_addReel : ByteArray := prog_1_method_6_code
def yX6_addReel : MethodName := ⟨RX6, "addReel", "(I)I"⟩
abbrev cX6_addScene : ByteArray := prog_1_method_7_code
def yX6_addScene : MethodName := ⟨RX6, "addScene", "(I)I"⟩
abbrev cX6_sleep : ByteArray := prog_1_method_8_code
def yX6_sleep : MethodName := ⟨RX6, "sleep", "(II)I"⟩
abbrev cX6_wake : ByteArray := prog_1_method_9_code
def yX6_wake : MethodName := ⟨RX6, "wake", "(I)I"⟩
abbrev cX6_cut : ByteArray := prog_1_method_10_code
def yX6_cut : MethodName := ⟨RX6, "cut", "(II)I"⟩
abbrev cX6_air : ByteArray := prog_1_method_11_code
def yX6_air : MethodName := ⟨RX6, "air", "(I)I"⟩
abbrev cX6_feed : ByteArray := prog_1_method_12_code
def yX6_feed : MethodName := ⟨RX6, "feed", "(II)I"⟩
abbrev cX6_addFood : ByteArray := prog_1_method_13_code
def yX6_addFood : MethodName := ⟨RX6, "addFood", "(I)I"⟩
abbrev cX6_paint : ByteArray := prog_1_method_14_code
def yX6_paint : MethodName := ⟨RX6, "paint", "(III)I"⟩
abbrev cX6_passWeeks : ByteArray := prog_1_method_15_code
def yX6_passWeeks : MethodName := ⟨RX6, "passWeeks", "(I)I"⟩
abbrev cX6_undo : ByteArray := prog_1_method_16_code
def yX6_undo : MethodName := ⟨RX6, "undo", "()I"⟩
abbrev cX6_undoCount : ByteArray := prog_1_method_17_code
def yX6_undoCount : MethodName := ⟨RX6, "undoCount", "()I"⟩
abbrev cX6_saveSnapshot : ByteArray := prog_1_method_18_code
def yX6_saveSnapshot : MethodName := ⟨RX6, "saveSnapshot", "()I"⟩
abbrev cX6_restoreSnapshot : ByteArray := prog_1_method_19_code
def yX6_restoreSnapshot : MethodName := ⟨RX6, "restoreSnapshot", "()I"⟩
abbrev cX6_scriptErrorKind : ByteArray := prog_1_method_20_code
def yX6_scriptErrorKind : MethodName := ⟨RX6, "scriptErrorKind", "()I"⟩
abbrev cX6_scriptErrorOffset : ByteArray := prog_1_method_21_code
def yX6_scriptErrorOffset : MethodName := ⟨RX6, "scriptErrorOffset", "()I"⟩
abbrev cX6_week : ByteArray := prog_1_method_22_code
def yX6_week : MethodName := ⟨RX6, "week", "()I"⟩
abbrev cX6_food : ByteArray := prog_1_method_23_code
def yX6_food : MethodName := ⟨RX6, "food", "()I"⟩
abbrev cX6_clipCount : ByteArray := prog_1_method_24_code
def yX6_clipCount : MethodName := ⟨RX6, "clipCount", "()I"⟩
abbrev cX6_reelCount : ByteArray := prog_1_method_25_code
def yX6_reelCount : MethodName := ⟨RX6, "reelCount", "()I"⟩
abbrev cX6_sceneCount : ByteArray := prog_1_method_26_code
def yX6_sceneCount : MethodName := ⟨RX6, "sceneCount", "()I"⟩
abbrev cX6_springs : ByteArray := prog_1_method_27_code
def yX6_springs : MethodName := ⟨RX6, "springs", "(I)I"⟩
abbrev cX6_state : ByteArray := prog_1_method_28_code
def yX6_state : MethodName := ⟨RX6, "state", "(I)I"⟩
abbrev cX6_colours : ByteArray := prog_1_method_29_code
def yX6_colours : MethodName := ⟨RX6, "colours", "(I)I"⟩
abbrev cX6_length : ByteArray := prog_1_method_30_code
def yX6_length : MethodName := ⟨RX6, "length", "(I)I"⟩
abbrev cX6_hash : ByteArray := prog_1_method_31_code
def yX6_hash : MethodName := ⟨RX6, "hash", "(I)I"⟩
abbrev cX6_fat : ByteArray := prog_1_method_32_code
def yX6_fat : MethodName := ⟨RX6, "fat", "(I)I"⟩
abbrev cX6_reelOf : ByteArray := prog_1_method_33_code
def yX6_reelOf : MethodName := ⟨RX6, "reelOf", "(I)I"⟩
abbrev cX6_bedOf : ByteArray := prog_1_method_34_code
def yX6_bedOf : MethodName := ⟨RX6, "bedOf", "(I)I"⟩
abbrev cX6_sceneOf : ByteArray := prog_1_method_35_code
def yX6_sceneOf : MethodName := ⟨RX6, "sceneOf", "(I)I"⟩
abbrev cX6_commonRun : ByteArray := prog_1_method_36_code
def yX6_commonRun : MethodName := ⟨RX6, "commonRun", "(II)I"⟩
abbrev cX6_nearestClip : ByteArray := prog_1_method_37_code
def yX6_nearestClip : MethodName := ⟨RX6, "nearestClip", "(I)I"⟩
abbrev cX6_twinsOf : ByteArray := prog_1_method_38_code
def yX6_twinsOf : MethodName := ⟨RX6, "twinsOf", "(I)I"⟩
abbrev cX6_weeksToFade : ByteArray := prog_1_method_39_code
def yX6_weeksToFade : MethodName := ⟨RX6, "weeksToFade", "(I)I"⟩
abbrev cX6_bedCount : ByteArray := prog_1_method_40_code
def yX6_bedCount : MethodName := ⟨RX6, "bedCount", "(I)I"⟩
abbrev cX6_bed : ByteArray := prog_1_method_41_code
def yX6_bed : MethodName := ⟨RX6, "bed", "(II)I"⟩
abbrev cX6_sleepers : ByteArray := prog_1_method_42_code
def yX6_sleepers : MethodName := ⟨RX6, "sleepers", "(I)I"⟩
abbrev cX6_home : ByteArray := prog_1_method_43_code
def yX6_home : MethodName := ⟨RX6, "home", "(II)I"⟩
abbrev cX6_whyNoSleep : ByteArray := prog_1_method_44_code
def yX6_whyNoSleep : MethodName := ⟨RX6, "whyNoSleep", "(II)I"⟩
abbrev cX6_bedFor : ByteArray := prog_1_method_45_code
def yX6_bedFor : MethodName := ⟨RX6, "bedFor", "(II)I"⟩
abbrev cX6_looksFor : ByteArray := prog_1_method_46_code
def yX6_looksFor : MethodName := ⟨RX6, "looksFor", "(II)I"⟩
abbrev cX6_longestLook : ByteArray := prog_1_method_47_code
def yX6_longestLook : MethodName := ⟨RX6, "longestLook", "(I)I"⟩
abbrev cX6_looksIfAired : ByteArray := prog_1_method_48_code
def yX6_looksIfAired : MethodName := ⟨RX6, "looksIfAired", "(I)I"⟩
abbrev cX6_longestCluster : ByteArray := prog_1_method_49_code
def yX6_longestCluster : MethodName := ⟨RX6, "longestCluster", "(I)I"⟩
abbrev cX6_bestReel : ByteArray := prog_1_method_50_code
def yX6_bestReel : MethodName := ⟨RX6, "bestReel", "(I)I"⟩
abbrev cX6_matches : ByteArray := prog_1_method_51_code
def yX6_matches : MethodName := ⟨RX6, "matches", "(II)Z"⟩
abbrev cX6_matchingSleepers : ByteArray := prog_1_method_52_code
def yX6_matchingSleepers : MethodName := ⟨RX6, "matchingSleepers", "(I)I"⟩
abbrev cX6_wokenBy : ByteArray := prog_1_method_53_code
def yX6_wokenBy : MethodName := ⟨RX6, "wokenBy", "(II)I"⟩
abbrev cX6_firstMatch : ByteArray := prog_1_method_54_code
def yX6_firstMatch : MethodName := ⟨RX6, "firstMatch", "(II)I"⟩
abbrev cX6_bestPattern : ByteArray := prog_1_method_55_code
def yX6_bestPattern : MethodName := ⟨RX6, "bestPattern", "(I)I"⟩
abbrev cX6_burnedFat : ByteArray := prog_1_method_56_code
def yX6_burnedFat : MethodName := ⟨RX6, "burnedFat", "()I"⟩
abbrev cX6_wakings : ByteArray := prog_1_method_57_code
def yX6_wakings : MethodName := ⟨RX6, "wakings", "()I"⟩
abbrev cX6_fadedClips : ByteArray := prog_1_method_58_code
def yX6_fadedClips : MethodName := ⟨RX6, "fadedClips", "()I"⟩
abbrev cX6_meanFat : ByteArray := prog_1_method_59_code
def yX6_meanFat : MethodName := ⟨RX6, "meanFat", "()D"⟩
abbrev cX6_sleepShare : ByteArray := prog_1_method_60_code
def yX6_sleepShare : MethodName := ⟨RX6, "sleepShare", "()F"⟩
abbrev cX6_violations : ByteArray := prog_1_method_61_code
def yX6_violations : MethodName := ⟨RX6, "violations", "()I"⟩
abbrev cX6_writeReel : ByteArray := prog_1_method_62_code
def yX6_writeReel : MethodName := ⟨RX6, "writeReel", "(I)I"⟩
abbrev cX6_reportByte : ByteArray := prog_1_method_63_code
def yX6_reportByte : MethodName := ⟨RX6, "reportByte", "(I)I"⟩
abbrev cX6_reportBed : ByteArray := prog_1_method_64_code
def yX6_reportBed : MethodName := ⟨RX6, "reportBed", "(I)V"⟩
abbrev cX6_putSign : ByteArray := prog_1_method_65_code
def yX6_putSign : MethodName := ⟨RX6, "putSign", "(I)V"⟩
abbrev cX6_remember : ByteArray := prog_1_method_66_code
def yX6_remember : MethodName := ⟨RX6, "remember", "()V"⟩
abbrev cX6_needClip : ByteArray := prog_1_method_67_code
def yX6_needClip : MethodName := ⟨RX6, "needClip", "(I)V"⟩
abbrev cX6_needReel : ByteArray := prog_1_method_68_code
def yX6_needReel : MethodName := ⟨RX6, "needReel", "(I)V"⟩
abbrev cX6_needScene : ByteArray := prog_1_method_69_code
def yX6_needScene : MethodName := ⟨RX6, "needScene", "(I)V"⟩
abbrev cX6_needPattern : ByteArray := prog_1_method_70_code
def yX6_needPattern : MethodName := ⟨RX6, "needPattern", "(I)V"⟩
abbrev cX6_needRange : ByteArray := prog_1_method_71_code
def yX6_needRange : MethodName := ⟨RX6, "needRange", "(III)V"⟩
abbrev cX6_refuseIf : ByteArray := prog_1_method_72_code
def yX6_refuseIf : MethodName := ⟨RX6, "refuseIf", "(Z)V"⟩
def RX7 : String := "ClipHibernationModel"
def TX7 : u_T := fun k => match k with
  | 0 => ("ClipHibernationModel", "w", "[I", true)
  | 1 => ("ClipHibernationModel", "before", "[I", true)
  | 2 => ("ClipHibernationModel", "aside", "[I", true)
  | 3 => ("ClipHibernationModel", "past", "[I", true)
  | 4 => ("ClipHibernationModel", "kept", "[I", true)
  | 5 => ("ClipHibernationModel", "pastMany", "I", false)
  | 6 => ("ClipHibernationModel", "isKept", "Z", false)
  | 7 => ("ClipHibernationModel", "buffer", "[I", true)
  | 8 => ("ClipHibernationModel", "text", "[I", true)
  | 9 => ("ClipHibernationModel", "typed", "I", false)
  | 10 => ("ClipHibernationModel", "textLength", "I", false)
  | 11 => ("ClipHibernationModel", "errorKind", "I", false)
  | 12 => ("ClipHibernationModel", "errorOffset", "I", false)
  | 13 => ("ClipHibernationModel", "report", "[C", true)
  | 14 => ("ClipHibernationModel", "reportLength", "I", false)
  | 15 => ("ClipHibernationModel", "thrown", "I", false)
  | 16 => ("ClipHibernationModel", "kind", "I", false)
  | 17 => ("ClipHibernationModel", "offset", "I", false)
  | 18 => ("ClipHibernationModel", "tokenEnd", "I", false)
  | 19 => ("ClipHibernationModel", "value", "I", false)
  | 20 => ("ClipHibernationModel", "executed", "I", false)
  | _ => ("ClipHibernationModel", "numbers", "[I", true)
def tyX7 : Nat → FieldType := fun k => match k with
  | 0 => .array .int
  | 1 => .array .int
  | 2 => .array .int
  | 3 => .array .int
  | 4 => .array .int
  | 5 => .int
  | 6 => .boolean
  | 7 => .array .int
  | 8 => .array .int
  | 9 => .int
  | 10 => .int
  | 11 => .int
  | 12 => .int
  | 13 => .array .char
  | 14 => .int
  | 15 => .int
  | 16 => .int
  | 17 => .int
  | 18 => .int
  | 19 => .int
  | 20 => .int
  | _ => .array .int
theorem nmX7 : ∀ a, a < 22 → ∀ b, b < 22 → a ≠ b → (TX7 a).2.1 ≠ (TX7 b).2.1 := by decide +kernel
theorem tyX7_ok : ∀ k, k < 22 → parseFieldDescriptor (TX7 k).2.2.1 = some (tyX7 k) := by decide +kernel
abbrev cX7_init : ByteArray := prog_9_method_1_code
def yX7_init : MethodName := ⟨RX7, "<init>", "()V"⟩
abbrev cX7_thrown : ByteArray := prog_9_method_2_code
def yX7_thrown : MethodName := ⟨RX7, "thrown", "()I"⟩
abbrev cX7_in : ByteArray := prog_9_method_3_code
def yX7_in : MethodName := ⟨RX7, "in", "(III)Z"⟩
abbrev cX7_throwsOne : ByteArray := prog_9_method_4_code
def yX7_throwsOne : MethodName := ⟨RX7, "throwsOne", "(Z)Z"⟩
abbrev cX7_throwsOne_ : ByteArray := prog_9_method_5_code
def yX7_throwsOne_ : MethodName := ⟨RX7, "throwsOne", "(ZZ)Z"⟩
abbrev cX7_throwsOne__ : ByteArray := prog_9_method_6_code
def yX7_throwsOne__ : MethodName := ⟨RX7, "throwsOne", "(ZZZ)Z"⟩
abbrev cX7_isClip : ByteArray := prog_9_method_7_code
def yX7_isClip : MethodName := ⟨RX7, "isClip", "(I)Z"⟩
abbrev cX7_isReel : ByteArray := prog_9_method_8_code
def yX7_isReel : MethodName := ⟨RX7, "isReel", "(I)Z"⟩
abbrev cX7_isScene : ByteArray := prog_9_method_9_code
def yX7_isScene : MethodName := ⟨RX7, "isScene", "(I)Z"⟩
abbrev cX7_of : ByteArray := prog_9_method_10_code
def yX7_of : MethodName := ⟨RX7, "of", "(II)I"⟩
abbrev cX7_to : ByteArray := prog_9_method_11_code
def yX7_to : MethodName := ⟨RX7, "to", "(III)V"⟩
abbrev cX7_scene : ByteArray := prog_9_method_12_code
def yX7_scene : MethodName := ⟨RX7, "scene", "(II)I"⟩
abbrev cX7_beds : ByteArray := prog_9_method_13_code
def yX7_beds : MethodName := ⟨RX7, "beds", "(I)I"⟩
abbrev cX7_inBed : ByteArray := prog_9_method_14_code
def yX7_inBed : MethodName := ⟨RX7, "inBed", "(II)I"⟩
abbrev cX7_setBed : ByteArray := prog_9_method_15_code
def yX7_setBed : MethodName := ⟨RX7, "setBed", "(III)V"⟩
abbrev cX7_digits : ByteArray := prog_9_method_16_code
def yX7_digits : MethodName := ⟨RX7, "digits", "(I)I"⟩
abbrev cX7_digit : ByteArray := prog_9_method_17_code
def yX7_digit : MethodName := ⟨RX7, "digit", "(II)I"⟩
abbrev cX7_hasZero : ByteArray := prog_9_method_18_code
def yX7_hasZero : MethodName := ⟨RX7, "hasZero", "(I)Z"⟩
abbrev cX7_areColours : ByteArray := prog_9_method_19_code
def yX7_areColours : MethodName := ⟨RX7, "areColours", "(I)Z"⟩
abbrev cX7_isPattern : ByteArray := prog_9_method_20_code
def yX7_isPattern : MethodName := ⟨RX7, "isPattern", "(I)Z"⟩
abbrev cX7_hashOf : ByteArray := prog_9_method_21_code
def yX7_hashOf : MethodName := ⟨RX7, "hashOf", "(I)I"⟩
abbrev cX7_fitsAt : ByteArray := prog_9_method_22_code
def yX7_fitsAt : MethodName := ⟨RX7, "fitsAt", "(III)Z"⟩
abbrev cX7_matchOf : ByteArray := prog_9_method_23_code
def yX7_matchOf : MethodName := ⟨RX7, "matchOf", "(II)I"⟩
abbrev cX7_runFrom : ByteArray := prog_9_method_24_code
def yX7_runFrom : MethodName := ⟨RX7, "runFrom", "(IIII)I"⟩
abbrev cX7_run : ByteArray := prog_9_method_25_code
def yX7_run : MethodName := ⟨RX7, "run", "(II)I"⟩
abbrev cX7_homeOf : ByteArray := prog_9_method_26_code
def yX7_homeOf : MethodName := ⟨RX7, "homeOf", "(II)I"⟩
abbrev cX7_onWay : ByteArray := prog_9_method_27_code
def yX7_onWay : MethodName := ⟨RX7, "onWay", "(III)I"⟩
abbrev cX7_passedBy : ByteArray := prog_9_method_28_code
def yX7_passedBy : MethodName := ⟨RX7, "passedBy", "(II)I"⟩
abbrev cX7_looks : ByteArray := prog_9_method_29_code
def yX7_looks : MethodName := ⟨RX7, "looks", "(II)I"⟩
abbrev cX7_bedWith : ByteArray := prog_9_method_30_code
def yX7_bedWith : MethodName := ⟨RX7, "bedWith", "(II)I"⟩
abbrev cX7_reelWith : ByteArray := prog_9_method_31_code
def yX7_reelWith : MethodName := ⟨RX7, "reelWith", "(I)I"⟩
abbrev cX7_sleepersIn : ByteArray := prog_9_method_32_code
def yX7_sleepersIn : MethodName := ⟨RX7, "sleepersIn", "(I)I"⟩
abbrev cX7_whyStaysUp : ByteArray := prog_9_method_33_code
def yX7_whyStaysUp : MethodName := ⟨RX7, "whyStaysUp", "(II)I"⟩
abbrev cX7_looksTogether : ByteArray := prog_9_method_34_code
def yX7_looksTogether : MethodName := ⟨RX7, "looksTogether", "(I)I"⟩
abbrev cX7_adds : ByteArray := prog_9_method_35_code
def yX7_adds : MethodName := ⟨RX7, "adds", "(I)I"⟩
abbrev cX7_hangs : ByteArray := prog_9_method_36_code
def yX7_hangs : MethodName := ⟨RX7, "hangs", "(I)I"⟩
abbrev cX7_opens : ByteArray := prog_9_method_37_code
def yX7_opens : MethodName := ⟨RX7, "opens", "(I)I"⟩
abbrev cX7_liesDown : ByteArray := prog_9_method_38_code
def yX7_liesDown : MethodName := ⟨RX7, "liesDown", "(II)I"⟩
abbrev cX7_leaves : ByteArray := prog_9_method_39_code
def yX7_leaves : MethodName := ⟨RX7, "leaves", "(II)I"⟩
abbrev cX7_cuts : ByteArray := prog_9_method_40_code
def yX7_cuts : MethodName := ⟨RX7, "cuts", "(II)I"⟩
abbrev cX7_airs : ByteArray := prog_9_method_41_code
def yX7_airs : MethodName := ⟨RX7, "airs", "(I)I"⟩
abbrev cX7_canFeed : ByteArray := prog_9_method_42_code
def yX7_canFeed : MethodName := ⟨RX7, "canFeed", "(II)Z"⟩
abbrev cX7_feeds : ByteArray := prog_9_method_43_code
def yX7_feeds : MethodName := ⟨RX7, "feeds", "(II)I"⟩
abbrev cX7_paints : ByteArray := prog_9_method_44_code
def yX7_paints : MethodName := ⟨RX7, "paints", "(III)I"⟩
abbrev cX7_burns : ByteArray := prog_9_method_45_code
def yX7_burns : MethodName := ⟨RX7, "burns", "(I)Z"⟩
abbrev cX7_passes : ByteArray := prog_9_method_46_code
def yX7_passes : MethodName := ⟨RX7, "passes", "(I)I"⟩
abbrev cX7_setAside : ByteArray := prog_9_method_47_code
def yX7_setAside : MethodName := ⟨RX7, "setAside", "()V"⟩
abbrev cX7_bringBack : ByteArray := prog_9_method_48_code
def yX7_bringBack : MethodName := ⟨RX7, "bringBack", "()V"⟩
abbrev cX7_tell : ByteArray := prog_9_method_49_code
def yX7_tell : MethodName := ⟨RX7, "tell", "(Ljava/lang/String;)V"⟩
abbrev cX7_sortOf : ByteArray := prog_9_method_50_code
def yX7_sortOf : MethodName := ⟨RX7, "sortOf", "(I)I"⟩
abbrev cX7_next : ByteArray := prog_9_method_51_code
def yX7_next : MethodName := ⟨RX7, "next", "()V"⟩
abbrev cX7_says : ByteArray := prog_9_method_52_code
def yX7_says : MethodName := ⟨RX7, "says", "(Ljava/lang/String;)Z"⟩
abbrev cX7_fail : ByteArray := prog_9_method_53_code
def yX7_fail : MethodName := ⟨RX7, "fail", "(I)Z"⟩
abbrev cX7_is : ByteArray := prog_9_method_54_code
def yX7_is : MethodName := ⟨RX7, "is", "(I)Z"⟩
abbrev cX7_number : ByteArray := prog_9_method_55_code
def yX7_number : MethodName := ⟨RX7, "number", "(III)Z"⟩
abbrev cX7_clipAt : ByteArray := prog_9_method_56_code
def yX7_clipAt : MethodName := ⟨RX7, "clipAt", "(I)Z"⟩
abbrev cX7_stops : ByteArray := prog_9_method_57_code
def yX7_stops : MethodName := ⟨RX7, "stops", "(Z)Z"⟩
abbrev cX7_readsClip : ByteArray := prog_9_method_58_code
def yX7_readsClip : MethodName := ⟨RX7, "readsClip", "()Z"⟩
abbrev cX7_readsReel : ByteArray := prog_9_method_59_code
def yX7_readsReel : MethodName := ⟨RX7, "readsReel", "()Z"⟩
abbrev cX7_readsScene : ByteArray := prog_9_method_60_code
def yX7_readsScene : MethodName := ⟨RX7, "readsScene", "()Z"⟩
abbrev cX7_readsSleep : ByteArray := prog_9_method_61_code
def yX7_readsSleep : MethodName := ⟨RX7, "readsSleep", "()Z"⟩
abbrev cX7_readsWake : ByteArray := prog_9_method_62_code
def yX7_readsWake : MethodName := ⟨RX7, "readsWake", "()Z"⟩
abbrev cX7_readsCut : ByteArray := prog_9_method_63_code
def yX7_readsCut : MethodName := ⟨RX7, "readsCut", "()Z"⟩
abbrev cX7_readsAir : ByteArray := prog_9_method_64_code
def yX7_readsAir : MethodName := ⟨RX7, "readsAir", "()Z"⟩
abbrev cX7_readsFeed : ByteArray := prog_9_method_65_code
def yX7_readsFeed : MethodName := ⟨RX7, "readsFeed", "()Z"⟩
abbrev cX7_readsFood : ByteArray := prog_9_method_66_code
def yX7_readsFood : MethodName := ⟨RX7, "readsFood", "()Z"⟩
abbrev cX7_readsPaint : ByteArray := prog_9_method_67_code
def yX7_readsPaint : MethodName := ⟨RX7, "readsPaint", "()Z"⟩
abbrev cX7_readsWeeks : ByteArray := prog_9_method_68_code
def yX7_readsWeeks : MethodName := ⟨RX7, "readsWeeks", "()Z"⟩
abbrev cX7_readsRepeat : ByteArray := prog_9_method_69_code
def yX7_readsRepeat : MethodName := ⟨RX7, "readsRepeat", "(I)Z"⟩
abbrev cX7_wordAhead : ByteArray := prog_9_method_70_code
def yX7_wordAhead : MethodName := ⟨RX7, "wordAhead", "()I"⟩
abbrev cX7_laterWord : ByteArray := prog_9_method_71_code
def yX7_laterWord : MethodName := ⟨RX7, "laterWord", "()I"⟩
abbrev cX7_readsCommand : ByteArray := prog_9_method_72_code
def yX7_readsCommand : MethodName := ⟨RX7, "readsCommand", "(I)Z"⟩
abbrev cX7_readsWord : ByteArray := prog_9_method_73_code
def yX7_readsWord : MethodName := ⟨RX7, "readsWord", "(I)Z"⟩
abbrev cX7_readsAll : ByteArray := prog_9_method_74_code
def yX7_readsAll : MethodName := ⟨RX7, "readsAll", "()Z"⟩
abbrev cX7_parses : ByteArray := prog_9_method_75_code
def yX7_parses : MethodName := ⟨RX7, "parses", "()Z"⟩
abbrev cX7_append : ByteArray := prog_9_method_76_code
def yX7_append : MethodName := ⟨RX7, "append", "(IIIII)I"⟩
abbrev cX7_type : ByteArray := prog_9_method_77_code
def yX7_type : MethodName := ⟨RX7, "type", "(I)V"⟩
abbrev cX7_truncateInput : ByteArray := prog_9_method_78_code
def yX7_truncateInput : MethodName := ⟨RX7, "truncateInput", "(I)I"⟩
abbrev cX7_begins : ByteArray := prog_9_method_79_code
def yX7_begins : MethodName := ⟨RX7, "begins", "()V"⟩
abbrev cX7_remember : ByteArray := prog_9_method_80_code
def yX7_remember : MethodName := ⟨RX7, "remember", "(I)I"⟩
abbrev cX7_runScript : ByteArray := prog_9_method_81_code
def yX7_runScript : MethodName := ⟨RX7, "runScript", "()I"⟩
abbrev cX7_addClip : ByteArray := prog_9_method_82_code
def yX7_addClip : MethodName := ⟨RX7, "addClip", "(I)I"⟩
abbrev cX7_addReel : ByteArray := prog_9_method_83_code
def yX7_addReel : MethodName := ⟨RX7, "addReel", "(I)I"⟩
abbrev cX7_addScene : ByteArray := prog_9_method_84_code
def yX7_addScene : MethodName := ⟨RX7, "addScene", "(I)I"⟩
abbrev cX7_sleep : ByteArray := prog_9_method_85_code
def yX7_sleep : MethodName := ⟨RX7, "sleep", "(II)I"⟩
abbrev cX7_wake : ByteArray := prog_9_method_86_code
def yX7_wake : MethodName := ⟨RX7, "wake", "(I)I"⟩
abbrev cX7_cut : ByteArray := prog_9_method_87_code
def yX7_cut : MethodName := ⟨RX7, "cut", "(II)I"⟩
abbrev cX7_air : ByteArray := prog_9_method_88_code
def yX7_air : MethodName := ⟨RX7, "air", "(I)I"⟩
abbrev cX7_feed : ByteArray := prog_9_method_89_code
def yX7_feed : MethodName := ⟨RX7, "feed", "(II)I"⟩
abbrev cX7_addFood : ByteArray := prog_9_method_90_code
def yX7_addFood : MethodName := ⟨RX7, "addFood", "(I)I"⟩
abbrev cX7_paint : ByteArray := prog_9_method_91_code
def yX7_paint : MethodName := ⟨RX7, "paint", "(III)I"⟩
abbrev cX7_passWeeks : ByteArray := prog_9_method_92_code
def yX7_passWeeks : MethodName := ⟨RX7, "passWeeks", "(I)I"⟩
abbrev cX7_undo : ByteArray := prog_9_method_93_code
def yX7_undo : MethodName := ⟨RX7, "undo", "()I"⟩
abbrev cX7_undoCount : ByteArray := prog_9_method_94_code
def yX7_undoCount : MethodName := ⟨RX7, "undoCount", "()I"⟩
abbrev cX7_saveSnapshot : ByteArray := prog_9_method_95_code
def yX7_saveSnapshot : MethodName := ⟨RX7, "saveSnapshot", "()I"⟩
abbrev cX7_restoreSnapshot : ByteArray := prog_9_method_96_code
def yX7_restoreSnapshot : MethodName := ⟨RX7, "restoreSnapshot", "()I"⟩
abbrev cX7_scriptErrorKind : ByteArray := prog_9_method_97_code
def yX7_scriptErrorKind : MethodName := ⟨RX7, "scriptErrorKind", "()I"⟩
abbrev cX7_scriptErrorOffset : ByteArray := prog_9_method_98_code
def yX7_scriptErrorOffset : MethodName := ⟨RX7, "scriptErrorOffset", "()I"⟩
abbrev cX7_told : ByteArray := prog_9_method_99_code
def yX7_told : MethodName := ⟨RX7, "told", "(I)I"⟩
abbrev cX7_week : ByteArray := prog_9_method_100_code
def yX7_week : MethodName := ⟨RX7, "week", "()I"⟩
abbrev cX7_food : ByteArray := prog_9_method_101_code
def yX7_food : MethodName := ⟨RX7, "food", "()I"⟩
abbrev cX7_clipCount : ByteArray := prog_9_method_102_code
def yX7_clipCount : MethodName := ⟨RX7, "clipCount", "()I"⟩
abbrev cX7_reelCount : ByteArray := prog_9_method_103_code
def yX7_reelCount : MethodName := ⟨RX7, "reelCount", "()I"⟩
abbrev cX7_sceneCount : ByteArray := prog_9_method_104_code
def yX7_sceneCount : MethodName := ⟨RX7, "sceneCount", "()I"⟩
abbrev cX7_springs : ByteArray := prog_9_method_105_code
def yX7_springs : MethodName := ⟨RX7, "springs", "(I)I"⟩
abbrev cX7_clipTold : ByteArray := prog_9_method_106_code
def yX7_clipTold : MethodName := ⟨RX7, "clipTold", "(II)I"⟩
abbrev cX7_state : ByteArray := prog_9_method_107_code
def yX7_state : MethodName := ⟨RX7, "state", "(I)I"⟩
abbrev cX7_colours : ByteArray := prog_9_method_108_code
def yX7_colours : MethodName := ⟨RX7, "colours", "(I)I"⟩
abbrev cX7_length : ByteArray := prog_9_method_109_code
def yX7_length : MethodName := ⟨RX7, "length", "(I)I"⟩
abbrev cX7_hash : ByteArray := prog_9_method_110_code
def yX7_hash : MethodName := ⟨RX7, "hash", "(I)I"⟩
abbrev cX7_fat : ByteArray := prog_9_method_111_code
def yX7_fat : MethodName := ⟨RX7, "fat", "(I)I"⟩
abbrev cX7_reelOf : ByteArray := prog_9_method_112_code
def yX7_reelOf : MethodName := ⟨RX7, "reelOf", "(I)I"⟩
abbrev cX7_bedOf : ByteArray := prog_9_method_113_code
def yX7_bedOf : MethodName := ⟨RX7, "bedOf", "(I)I"⟩
abbrev cX7_sceneOf : ByteArray := prog_9_method_114_code
def yX7_sceneOf : MethodName := ⟨RX7, "sceneOf", "(I)I"⟩
abbrev cX7_commonRun : ByteArray := prog_9_method_115_code
def yX7_commonRun : MethodName := ⟨RX7, "commonRun", "(II)I"⟩
abbrev cX7_nearestClip : ByteArray := prog_9_method_116_code
def yX7_nearestClip : MethodName := ⟨RX7, "nearestClip", "(I)I"⟩
abbrev cX7_twinsOf : ByteArray := prog_9_method_117_code
def yX7_twinsOf : MethodName := ⟨RX7, "twinsOf", "(I)I"⟩
abbrev cX7_weeksToFade : ByteArray := prog_9_method_118_code
def yX7_weeksToFade : MethodName := ⟨RX7, "weeksToFade", "(I)I"⟩
abbrev cX7_bedCount : ByteArray := prog_9_method_119_code
def yX7_bedCount : MethodName := ⟨RX7, "bedCount", "(I)I"⟩
abbrev cX7_bed : ByteArray := prog_9_method_120_code
def yX7_bed : MethodName := ⟨RX7, "bed", "(II)I"⟩
abbrev cX7_sleepers : ByteArray := prog_9_method_121_code
def yX7_sleepers : MethodName := ⟨RX7, "sleepers", "(I)I"⟩
abbrev cX7_throwsPair : ByteArray := prog_9_method_122_code
def yX7_throwsPair : MethodName := ⟨RX7, "throwsPair", "(II)Z"⟩
abbrev cX7_home : ByteArray := prog_9_method_123_code
def yX7_home : MethodName := ⟨RX7, "home", "(II)I"⟩
abbrev cX7_whyNoSleep : ByteArray := prog_9_method_124_code
def yX7_whyNoSleep : MethodName := ⟨RX7, "whyNoSleep", "(II)I"⟩
abbrev cX7_bedFor : ByteArray := prog_9_method_125_code
def yX7_bedFor : MethodName := ⟨RX7, "bedFor", "(II)I"⟩
abbrev cX7_looksFor : ByteArray := prog_9_method_126_code
def yX7_looksFor : MethodName := ⟨RX7, "looksFor", "(II)I"⟩
abbrev cX7_longestLook : ByteArray := prog_9_method_127_code
def yX7_longestLook : MethodName := ⟨RX7, "longestLook", "(I)I"⟩
abbrev cX7_looksIfAired : ByteArray := prog_9_method_128_code
def yX7_looksIfAired : MethodName := ⟨RX7, "looksIfAired", "(I)I"⟩
abbrev cX7_longestCluster : ByteArray := prog_9_method_129_code
def yX7_longestCluster : MethodName := ⟨RX7, "longestCluster", "(I)I"⟩
abbrev cX7_bestReel : ByteArray := prog_9_method_130_code
def yX7_bestReel : MethodName := ⟨RX7, "bestReel", "(I)I"⟩
abbrev cX7_matches : ByteArray := prog_9_method_131_code
def yX7_matches : MethodName := ⟨RX7, "matches", "(II)Z"⟩
abbrev cX7_matchingSleepers : ByteArray := prog_9_method_132_code
def yX7_matchingSleepers : MethodName := ⟨RX7, "matchingSleepers", "(I)I"⟩
abbrev cX7_wokenBy : ByteArray := prog_9_method_133_code
def yX7_wokenBy : MethodName := ⟨RX7, "wokenBy", "(II)I"⟩
abbrev cX7_firstMatch : ByteArray := prog_9_method_134_code
def yX7_firstMatch : MethodName := ⟨RX7, "firstMatch", "(II)I"⟩
abbrev cX7_isAlone : ByteArray := prog_9_method_135_code
def yX7_isAlone : MethodName := ⟨RX7, "isAlone", "(II)Z"⟩
abbrev cX7_part : ByteArray := prog_9_method_136_code
def yX7_part : MethodName := ⟨RX7, "part", "(III)I"⟩
abbrev cX7_bestPattern : ByteArray := prog_9_method_137_code
def yX7_bestPattern : MethodName := ⟨RX7, "bestPattern", "(I)I"⟩
abbrev cX7_burnedFat : ByteArray := prog_9_method_138_code
def yX7_burnedFat : MethodName := ⟨RX7, "burnedFat", "()I"⟩
abbrev cX7_wakings : ByteArray := prog_9_method_139_code
def yX7_wakings : MethodName := ⟨RX7, "wakings", "()I"⟩
abbrev cX7_setOf : ByteArray := prog_9_method_140_code
def yX7_setOf : MethodName := ⟨RX7, "setOf", "(I)I"⟩
abbrev cX7_manyOf : ByteArray := prog_9_method_141_code
def yX7_manyOf : MethodName := ⟨RX7, "manyOf", "(I)I"⟩
abbrev cX7_fadedClips : ByteArray := prog_9_method_142_code
def yX7_fadedClips : MethodName := ⟨RX7, "fadedClips", "()I"⟩
abbrev cX7_allFat : ByteArray := prog_9_method_143_code
def yX7_allFat : MethodName := ⟨RX7, "allFat", "()I"⟩
abbrev cX7_meanFat : ByteArray := prog_9_method_144_code
def yX7_meanFat : MethodName := ⟨RX7, "meanFat", "()D"⟩
abbrev cX7_sleepShare : ByteArray := prog_9_method_145_code
def yX7_sleepShare : MethodName := ⟨RX7, "sleepShare", "()F"⟩
abbrev cX7_bedsWith : ByteArray := prog_9_method_146_code
def yX7_bedsWith : MethodName := ⟨RX7, "bedsWith", "(I)I"⟩
abbrev cX7_isLost : ByteArray := prog_9_method_147_code
def yX7_isLost : MethodName := ⟨RX7, "isLost", "(I)Z"⟩
abbrev cX7_violations : ByteArray := prog_9_method_148_code
def yX7_violations : MethodName := ⟨RX7, "violations", "()I"⟩
abbrev cX7_write : ByteArray := prog_9_method_149_code
def yX7_write : MethodName := ⟨RX7, "write", "(I)V"⟩
abbrev cX7_writeNumber : ByteArray := prog_9_method_150_code
def yX7_writeNumber : MethodName := ⟨RX7, "writeNumber", "(I)V"⟩
abbrev cX7_writeBed : ByteArray := prog_9_method_151_code
def yX7_writeBed : MethodName := ⟨RX7, "writeBed", "(I)V"⟩
abbrev cX7_writeReel : ByteArray := prog_9_method_152_code
def yX7_writeReel : MethodName := ⟨RX7, "writeReel", "(I)I"⟩
abbrev cX7_reportByte : ByteArray := prog_9_method_153_code
def yX7_reportByte : MethodName := ⟨RX7, "reportByte", "(I)I"⟩
def RJx145de : String := "java/io/Serializable"
def TJx145de : u_T := fun k => match k with
  | _ => ("", "", "", false)
def tyJx145de : Nat → FieldType := fun k => match k with
  | _ => .int
theorem nmJx145de : ∀ a, a < 0 → ∀ b, b < 0 → a ≠ b → (TJx145de a).2.1 ≠ (TJx145de b).2.1 := by decide +kernel
theorem tyJx145de_ok : ∀ k, k < 0 → parseFieldDescriptor (TJx145de k).2.2.1 = some (tyJx145de k) := by decide +kernel
def RJx9f9b0 : String := "java/lang/CharSequence"
def TJx9f9b0 : u_T := fun k => match k with
  | _ => ("", "", "", false)
def tyJx9f9b0 : Nat → FieldType := fun k => match k with
  | _ => .int
theorem nmJx9f9b0 : ∀ a, a < 0 → ∀ b, b < 0 → a ≠ b → (TJx9f9b0 a).2.1 ≠ (TJx9f9b0 b).2.1 := by decide +kernel
theorem tyJx9f9b0_ok : ∀ k, k < 0 → parseFieldDescriptor (TJx9f9b0 k).2.2.1 = some (tyJx9f9b0 k) := by decide +kernel
def RJxb160c : String := "java/lang/Comparable"
def TJxb160c : u_T := fun k => match k with
  | _ => ("", "", "", false)
def tyJxb160c : Nat → FieldType := fun k => match k with
  | _ => .int
theorem nmJxb160c : ∀ a, a < 0 → ∀ b, b < 0 → a ≠ b → (TJxb160c a).2.1 ≠ (TJxb160c b).2.1 := by decide +kernel
theorem tyJxb160c_ok : ∀ k, k < 0 → parseFieldDescriptor (TJxb160c k).2.2.1 = some (tyJxb160c k) := by decide +kernel
def RJx29ce0 : String := "java/lang/Enum"
def TJx29ce0 : u_T := fun k => match k with
  | _ => ("", "", "", false)
def tyJx29ce0 : Nat → FieldType := fun k => match k with
  | _ => .int
theorem nmJx29ce0 : ∀ a, a < 0 → ∀ b, b < 0 → a ≠ b → (TJx29ce0 a).2.1 ≠ (TJx29ce0 b).2.1 := by decide +kernel
theorem tyJx29ce0_ok : ∀ k, k < 0 → parseFieldDescriptor (TJx29ce0 k).2.2.1 = some (tyJx29ce0 k) := by decide +kernel
abbrev cJx29ce0_ordinal_8abf5 : ByteArray := prog_13_method_2_code
def yJx29ce0_ordinal_8abf5 : MethodName := ⟨RJx29ce0, "ordinal", "()I"⟩
def RJ6 : String := "java/lang/Integer"
def TJ6 : u_T := fun k => match k with
  | _ => ("", "", "", false)
def tyJ6 : Nat → FieldType := fun k => match k with
  | _ => .int
theorem nmJ6 : ∀ a, a < 0 → ∀ b, b < 0 → a ≠ b → (TJ6 a).2.1 ≠ (TJ6 b).2.1 := by decide +kernel
theorem tyJ6_ok : ∀ k, k < 0 → parseFieldDescriptor (TJ6 k).2.2.1 = some (tyJ6 k) := by decide +kernel
abbrev cJ6_bitCount_0f7a4 : ByteArray := prog_18_method_49_code
def yJ6_bitCount_0f7a4 : MethodName := ⟨RJ6, "bitCount", "(I)I"⟩
def RJ9 : String := "java/lang/Math"
def TJ9 : u_T := fun k => match k with
  | _ => ("", "", "", false)
def tyJ9 : Nat → FieldType := fun k => match k with
  | _ => .int
theorem nmJ9 : ∀ a, a < 0 → ∀ b, b < 0 → a ≠ b → (TJ9 a).2.1 ≠ (TJ9 b).2.1 := by decide +kernel
theorem tyJ9_ok : ∀ k, k < 0 → parseFieldDescriptor (TJ9 k).2.2.1 = some (tyJ9 k) := by decide +kernel
abbrev cJ9_abs_0f7a4 : ByteArray := prog_19_method_59_code
def yJ9_abs_0f7a4 : MethodName := ⟨RJ9, "abs", "(I)I"⟩
abbrev cJ9_max_7cf53 : ByteArray := prog_19_method_65_code
def yJ9_max_7cf53 : MethodName := ⟨RJ9, "max", "(II)I"⟩
abbrev cJ9_min_7cf53 : ByteArray := prog_19_method_69_code
def yJ9_min_7cf53 : MethodName := ⟨RJ9, "min", "(II)I"⟩
def RJ0 : String := "java/lang/String"
def TJ0 : u_T := fun k => match k with
  | _ => ("", "", "", false)
def tyJ0 : Nat → FieldType := fun k => match k with
  | _ => .int
theorem nmJ0 : ∀ a, a < 0 → ∀ b, b < 0 → a ≠ b → (TJ0 a).2.1 ≠ (TJ0 b).2.1 := by decide +kernel
theorem tyJ0_ok : ∀ k, k < 0 → parseFieldDescriptor (TJ0 k).2.2.1 = some (tyJ0 k) := by decide +kernel
abbrev cJ0_length_8abf5 : ByteArray := prog_21_method_54_code
def yJ0_length_8abf5 : MethodName := ⟨RJ0, "length", "()I"⟩
abbrev cJ0_charAt_5068e : ByteArray := prog_21_method_56_code
def yJ0_charAt_5068e : MethodName := ⟨RJ0, "charAt", "(I)C"⟩
abbrev cJ0_coder_7d493 : ByteArray := prog_21_method_152_code
def yJ0_coder_7d493 : MethodName := ⟨RJ0, "coder", "()B"⟩
abbrev cJ0_isLatin1_aae02 : ByteArray := prog_21_method_154_code
def yJ0_isLatin1_aae02 : MethodName := ⟨RJ0, "isLatin1", "()Z"⟩
abbrev cJ0_checkIndex_df160 : ByteArray := prog_21_method_155_code
def yJ0_checkIndex_df160 : MethodName := ⟨RJ0, "checkIndex", "(II)V"⟩
def RJ1 : String := "java/lang/StringLatin1"
def TJ1 : u_T := fun k => match k with
  | _ => ("", "", "", false)
def tyJ1 : Nat → FieldType := fun k => match k with
  | _ => .int
theorem nmJ1 : ∀ a, a < 0 → ∀ b, b < 0 → a ≠ b → (TJ1 a).2.1 ≠ (TJ1 b).2.1 := by decide +kernel
theorem tyJ1_ok : ∀ k, k < 0 → parseFieldDescriptor (TJ1 k).2.2.1 = some (tyJ1 k) := by decide +kernel
abbrev cJ1_charAt_3b067 : ByteArray := prog_22_method_2_code
def yJ1_charAt_3b067 : MethodName := ⟨RJ1, "charAt", "([BI)C"⟩
def RJ2 : String := "java/lang/StringUTF16"
def TJ2 : u_T := fun k => match k with
  | _ => ("", "", "", false)
def tyJ2 : Nat → FieldType := fun k => match k with
  | _ => .int
theorem nmJ2 : ∀ a, a < 0 → ∀ b, b < 0 → a ≠ b → (TJ2 a).2.1 ≠ (TJ2 b).2.1 := by decide +kernel
theorem tyJ2_ok : ∀ k, k < 0 → parseFieldDescriptor (TJ2 k).2.2.1 = some (tyJ2 k) := by decide +kernel
abbrev cJ2_getChar_3b067 : ByteArray := prog_23_method_5_code
def yJ2_getChar_3b067 : MethodName := ⟨RJ2, "getChar", "([BI)C"⟩
abbrev cJ2_length_9d52b : ByteArray := prog_23_method_6_code
def yJ2_length_9d52b : MethodName := ⟨RJ2, "length", "([B)I"⟩
abbrev cJ2_charAt_3b067 : ByteArray := prog_23_method_83_code
def yJ2_charAt_3b067 : MethodName := ⟨RJ2, "charAt", "([BI)C"⟩
abbrev cJ2_checkIndex_2214a : ByteArray := prog_23_method_91_code
def yJ2_checkIndex_2214a : MethodName := ⟨RJ2, "checkIndex", "(I[B)V"⟩
def RJ10 : String := "java/lang/System"
def TJ10 : u_T := fun k => match k with
  | _ => ("", "", "", false)
def tyJ10 : Nat → FieldType := fun k => match k with
  | _ => .int
theorem nmJ10 : ∀ a, a < 0 → ∀ b, b < 0 → a ≠ b → (TJ10 a).2.1 ≠ (TJ10 b).2.1 := by decide +kernel
theorem tyJ10_ok : ∀ k, k < 0 → parseFieldDescriptor (TJ10 k).2.2.1 = some (tyJ10 k) := by decide +kernel
def RJxfd54e : String := "java/lang/constant/Constable"
def TJxfd54e : u_T := fun k => match k with
  | _ => ("", "", "", false)
def tyJxfd54e : Nat → FieldType := fun k => match k with
  | _ => .int
theorem nmJxfd54e : ∀ a, a < 0 → ∀ b, b < 0 → a ≠ b → (TJxfd54e a).2.1 ≠ (TJxfd54e b).2.1 := by decide +kernel
theorem tyJxfd54e_ok : ∀ k, k < 0 → parseFieldDescriptor (TJxfd54e k).2.2.1 = some (tyJxfd54e k) := by decide +kernel
def RJx3cf43 : String := "java/lang/constant/ConstantDesc"
def TJx3cf43 : u_T := fun k => match k with
  | _ => ("", "", "", false)
def tyJx3cf43 : Nat → FieldType := fun k => match k with
  | _ => .int
theorem nmJx3cf43 : ∀ a, a < 0 → ∀ b, b < 0 → a ≠ b → (TJx3cf43 a).2.1 ≠ (TJx3cf43 b).2.1 := by decide +kernel
theorem tyJx3cf43_ok : ∀ k, k < 0 → parseFieldDescriptor (TJx3cf43 k).2.2.1 = some (tyJx3cf43 k) := by decide +kernel
def RJ3 : String := "jdk/internal/util/Preconditions"
def TJ3 : u_T := fun k => match k with
  | _ => ("", "", "", false)
def tyJ3 : Nat → FieldType := fun k => match k with
  | _ => .int
theorem nmJ3 : ∀ a, a < 0 → ∀ b, b < 0 → a ≠ b → (TJ3 a).2.1 ≠ (TJ3 b).2.1 := by decide +kernel
theorem tyJ3_ok : ∀ k, k < 0 → parseFieldDescriptor (TJ3 k).2.2.1 = some (tyJ3 k) := by decide +kernel
abbrev cJ3_checkIndex_8e157 : ByteArray := prog_29_method_11_code
def yJ3_checkIndex_8e157 : MethodName := ⟨RJ3, "checkIndex", "(IILjava/util/function/BiFunction;)I"⟩
def RL : String := "ClipHibernationLaw"
abbrev cL_truncateInput : ByteArray := method_3_code
def yL_truncateInput : MethodName := ⟨RL, "truncateInput", "(LClipHibernation;I[J)I"⟩
abbrev cL_addClip : ByteArray := method_4_code
def yL_addClip : MethodName := ⟨RL, "addClip", "(LClipHibernation;I[J)I"⟩
abbrev cL_addReel : ByteArray := method_5_code
def yL_addReel : MethodName := ⟨RL, "addReel", "(LClipHibernation;I[J)I"⟩
abbrev cL_addScene : ByteArray := method_6_code
def yL_addScene : MethodName := ⟨RL, "addScene", "(LClipHibernation;I[J)I"⟩
abbrev cL_sleep : ByteArray := method_7_code
def yL_sleep : MethodName := ⟨RL, "sleep", "(LClipHibernation;II[J)I"⟩
abbrev cL_wake : ByteArray := method_8_code
def yL_wake : MethodName := ⟨RL, "wake", "(LClipHibernation;I[J)I"⟩
abbrev cL_cut : ByteArray := method_9_code
def yL_cut : MethodName := ⟨RL, "cut", "(LClipHibernation;II[J)I"⟩
abbrev cL_air : ByteArray := method_10_code
def yL_air : MethodName := ⟨RL, "air", "(LClipHibernation;I[J)I"⟩
abbrev cL_feed : ByteArray := method_11_code
def yL_feed : MethodName := ⟨RL, "feed", "(LClipHibernation;II[J)I"⟩
abbrev cL_addFood : ByteArray := method_12_code
def yL_addFood : MethodName := ⟨RL, "addFood", "(LClipHibernation;I[J)I"⟩
abbrev cL_paint : ByteArray := method_13_code
def yL_paint : MethodName := ⟨RL, "paint", "(LClipHibernation;III[J)I"⟩
abbrev cL_passWeeks : ByteArray := method_14_code
def yL_passWeeks : MethodName := ⟨RL, "passWeeks", "(LClipHibernation;I[J)I"⟩
abbrev cL_restoreSnapshot : ByteArray := method_15_code
def yL_restoreSnapshot : MethodName := ⟨RL, "restoreSnapshot", "(LClipHibernation;[J)I"⟩
abbrev cL_springs : ByteArray := method_16_code
def yL_springs : MethodName := ⟨RL, "springs", "(LClipHibernation;I[J)I"⟩
abbrev cL_state : ByteArray := method_17_code
def yL_state : MethodName := ⟨RL, "state", "(LClipHibernation;I[J)I"⟩
abbrev cL_colours : ByteArray := method_18_code
def yL_colours : MethodName := ⟨RL, "colours", "(LClipHibernation;I[J)I"⟩
abbrev cL_length : ByteArray := method_19_code
def yL_length : MethodName := ⟨RL, "length", "(LClipHibernation;I[J)I"⟩
abbrev cL_hash : ByteArray := method_20_code
def yL_hash : MethodName := ⟨RL, "hash", "(LClipHibernation;I[J)I"⟩
abbrev cL_fat : ByteArray := method_21_code
def yL_fat : MethodName := ⟨RL, "fat", "(LClipHibernation;I[J)I"⟩
abbrev cL_reelOf : ByteArray := method_22_code
def yL_reelOf : MethodName := ⟨RL, "reelOf", "(LClipHibernation;I[J)I"⟩
abbrev cL_bedOf : ByteArray := method_23_code
def yL_bedOf : MethodName := ⟨RL, "bedOf", "(LClipHibernation;I[J)I"⟩
abbrev cL_sceneOf : ByteArray := method_24_code
def yL_sceneOf : MethodName := ⟨RL, "sceneOf", "(LClipHibernation;I[J)I"⟩
abbrev cL_commonRun : ByteArray := method_25_code
def yL_commonRun : MethodName := ⟨RL, "commonRun", "(LClipHibernation;II[J)I"⟩
abbrev cL_nearestClip : ByteArray := method_26_code
def yL_nearestClip : MethodName := ⟨RL, "nearestClip", "(LClipHibernation;I[J)I"⟩
abbrev cL_twinsOf : ByteArray := method_27_code
def yL_twinsOf : MethodName := ⟨RL, "twinsOf", "(LClipHibernation;I[J)I"⟩
abbrev cL_weeksToFade : ByteArray := method_28_code
def yL_weeksToFade : MethodName := ⟨RL, "weeksToFade", "(LClipHibernation;I[J)I"⟩
abbrev cL_bedCount : ByteArray := method_29_code
def yL_bedCount : MethodName := ⟨RL, "bedCount", "(LClipHibernation;I[J)I"⟩
abbrev cL_bed : ByteArray := method_30_code
def yL_bed : MethodName := ⟨RL, "bed", "(LClipHibernation;II[J)I"⟩
abbrev cL_sleepers : ByteArray := method_31_code
def yL_sleepers : MethodName := ⟨RL, "sleepers", "(LClipHibernation;I[J)I"⟩
abbrev cL_home : ByteArray := method_32_code
def yL_home : MethodName := ⟨RL, "home", "(LClipHibernation;II[J)I"⟩
abbrev cL_whyNoSleep : ByteArray := method_33_code
def yL_whyNoSleep : MethodName := ⟨RL, "whyNoSleep", "(LClipHibernation;II[J)I"⟩
abbrev cL_bedFor : ByteArray := method_34_code
def yL_bedFor : MethodName := ⟨RL, "bedFor", "(LClipHibernation;II[J)I"⟩
abbrev cL_looksFor : ByteArray := method_35_code
def yL_looksFor : MethodName := ⟨RL, "looksFor", "(LClipHibernation;II[J)I"⟩
abbrev cL_longestLook : ByteArray := method_36_code
def yL_longestLook : MethodName := ⟨RL, "longestLook", "(LClipHibernation;I[J)I"⟩
abbrev cL_looksIfAired : ByteArray := method_37_code
def yL_looksIfAired : MethodName := ⟨RL, "looksIfAired", "(LClipHibernation;I[J)I"⟩
abbrev cL_longestCluster : ByteArray := method_38_code
def yL_longestCluster : MethodName := ⟨RL, "longestCluster", "(LClipHibernation;I[J)I"⟩
abbrev cL_bestReel : ByteArray := method_39_code
def yL_bestReel : MethodName := ⟨RL, "bestReel", "(LClipHibernation;I[J)I"⟩
abbrev cL_matches : ByteArray := method_40_code
def yL_matches : MethodName := ⟨RL, "matches", "(LClipHibernation;II[J)I"⟩
abbrev cL_matchingSleepers : ByteArray := method_41_code
def yL_matchingSleepers : MethodName := ⟨RL, "matchingSleepers", "(LClipHibernation;I[J)I"⟩
abbrev cL_wokenBy : ByteArray := method_42_code
def yL_wokenBy : MethodName := ⟨RL, "wokenBy", "(LClipHibernation;II[J)I"⟩
abbrev cL_firstMatch : ByteArray := method_43_code
def yL_firstMatch : MethodName := ⟨RL, "firstMatch", "(LClipHibernation;II[J)I"⟩
abbrev cL_bestPattern : ByteArray := method_44_code
def yL_bestPattern : MethodName := ⟨RL, "bestPattern", "(LClipHibernation;I[J)I"⟩
abbrev cL_writeReel : ByteArray := method_45_code
def yL_writeReel : MethodName := ⟨RL, "writeReel", "(LClipHibernation;I[J)I"⟩
abbrev cL_law : ByteArray := code
def yL_law : MethodName := ⟨RL, "law", "([I)Z"⟩
end
section
/-! ===== the words that every method of ours is given; what they say of the classes of the world ===== -/
def TG : List Cond := lw_tbl.filter goodWord
theorem tg {w : Cond} (i : Nat) (h : lw_tbl[i]? = some w) (hg : goodWord w = true) : w ∈ TG := List.mem_filter.mpr ⟨List.mem_of_getElem? h, hg⟩
theorem tg_good {w : Cond} (h : w ∈ TG) : goodWord w = true := (List.mem_filter.mp h).2
/-- classes whose objects lie in the world -/
abbrev clX : List vw_C := [(RX1, TX1, 18), (RX3, TX3, 11), (RX4, TX4, 7), (RX6, TX6, 10), (RX7, TX7, 22)]
theorem in_1 : ∀ w ∈ u_ws RX1 TX1 18, w ∈ TG := by decide +kernel
theorem in_3 : ∀ w ∈ u_ws RX3 TX3 11, w ∈ TG := by decide +kernel
theorem in_4 : ∀ w ∈ u_ws RX4 TX4 7, w ∈ TG := by decide +kernel
theorem in_6 : ∀ w ∈ u_ws RX6 TX6 10, w ∈ TG := by decide +kernel
theorem in_7 : ∀ w ∈ u_ws RX7 TX7 22, w ∈ TG := by decide +kernel
theorem cls_in : ∀ (ci : Nat) (q : vw_C), clX[ci]? = some q → ∀ w ∈ u_ws q.1 q.2.1 q.2.2, w ∈ TG := by
  intro ci q h
  match ci, h with
  | 0, h => cases h; exact in_1
  | 1, h => cases h; exact in_3
  | 2, h => cases h; exact in_4
  | 3, h => cases h; exact in_6
  | 4, h => cases h; exact in_7
  | k + 5, h => simp [clX] at h
theorem cls_ty : ∀ (ci : Nat) (q : vw_C), clX[ci]? = some q → ∃ ty0 : Nat → FieldType, (∀ k, k < q.2.2 → parseFieldDescriptor (q.2.1 k).2.2.1 = some (ty0 k)) ∧ ∀ a, a < q.2.2 → ∀ b, b < q.2.2 → a ≠ b → (q.2.1 a).2.1 ≠ (q.2.1 b).2.1 := by
  intro ci q h
  match ci, h with
  | 0, h => cases h; exact ⟨tyX1, tyX1_ok, nmX1⟩
  | 1, h => cases h; exact ⟨tyX3, tyX3_ok, nmX3⟩
  | 2, h => cases h; exact ⟨tyX4, tyX4_ok, nmX4⟩
  | 3, h => cases h; exact ⟨tyX6, tyX6_ok, nmX6⟩
  | 4, h => cases h; exact ⟨tyX7, tyX7_ok, nmX7⟩
  | k + 5, h => simp [clX] at h
end
section
/-! ===== BASE: a world whose places lie at fixed addresses B + k; all that changes in it is ints ===== -/
abbrev SlT : Type := Nat × Nat
abbrev Shp : Type := (Nat × List SlT) ⊕ (Nat × Nat × List (Option Nat))
abbrev Hp : Type := Nat → Nat → Int32
abbrev GT : Type := Launch × Nat × va_G × (Nat → ClassId) × (Nat → Nat)
abbrev gB (g : GT) : Nat := g.2.1
abbrev gD (g : GT) : va_G := g.2.2.1
abbrev gc (g : GT) : Nat → ClassId := g.2.2.2.1
abbrev ga (g : GT) : Nat → Nat := g.2.2.2.2
abbrev gA (g : GT) : Nat → Prop := fun q => gB g ≤ q
/-- the value of a field by its kind: an int, a boolean, the object at a place, a Token, null -/
def slv (g : GT) (t : SlT) (x : Int32) : Value := match t.1 with
  | 2 => .ref (gB g + t.2)
  | 3 => .ref (ga g x.toNatClampNeg)
  | 4 => .null
  | _ => .int x
def slvs (g : GT) (f : Nat → Int32) : Nat → List SlT → List Value
  | _, [] => []
  | i, t :: ts => slv g t (f i) :: slvs g f (i + 1) ts
theorem slvs_get (g : GT) (f : Nat → Int32) : ∀ (ts : List SlT) (i k : Nat) (t : SlT), ts[k]? = some t → (slvs g f i ts)[k]? = some (slv g t (f (i + k)))
  | [], i, k, t, h => by simp at h
  | a :: ts, i, 0, t, h => by simp at h; subst h; rfl
  | a :: ts, i, k + 1, t, h => by
    simp only [List.getElem?_cons_succ] at h
    have := slvs_get g f ts (i + 1) k t h
    simp only [slvs, List.getElem?_cons_succ]
    rw [this]
    congr 3
    omega
theorem slvs_len (g : GT) (f : Nat → Int32) : ∀ (ts : List SlT) (i : Nat), (slvs g f i ts).length = ts.length
  | [], _ => rfl
  | _ :: ts, i => by simp [slvs, slvs_len g f ts (i + 1)]
theorem slvs_eq (g : GT) (f f' : Nat → Int32) : ∀ (ts : List SlT) (i : Nat), (∀ k, i ≤ k → f k = f' k) → slvs g f i ts = slvs g f' i ts
  | [], _, _ => rfl
  | t :: ts, i, h => by
    simp only [slvs]
    rw [h i (Nat.le_refl i), slvs_eq g f f' ts (i + 1) (fun k hk => h k (by omega))]
theorem slvs_upd (g : GT) (f : Nat → Int32) (x : Int32) : ∀ (ts : List SlT) (i k : Nat) (t : SlT), ts[k]? = some t → slvs g (upd f (i + k) x) i ts = (slvs g f i ts).set k (slv g t x)
  | [], i, k, t, h => by simp at h
  | a :: ts, i, 0, t, h => by
    simp at h; subst h
    simp only [slvs, Nat.add_zero, List.set_cons_zero]
    rw [slvs_eq g (upd f i x) f ts (i + 1) (fun k hk => by simp [upd]; omega)]
    simp [upd]
  | a :: ts, i, k + 1, t, h => by
    simp only [List.getElem?_cons_succ] at h
    have := slvs_upd g f x ts (i + 1) k t h
    simp only [slvs, List.set_cons_succ]
    rw [← this, show i + 1 + k = i + (k + 1) by omega]
    congr 2
    simp [upd]
def arc (g : GT) (ty : Nat) (rs : List (Option Nat)) (f : Nat → Int32) : ((Nat → Int32) ⊕ (Nat → Int64) ⊕ (Nat → UInt32) ⊕ (Nat → UInt64) ⊕ (Nat → Option Nat)) := match ty with
  | 3 => .inr (.inl (fun j => (f j).toInt64))
  | 4 => .inr (.inr (.inr (.inr (fun j => (rs.getD j none).map (fun a => gB g + a)))))
  | _ => .inl f
def conc (g : GT) (c : Shp) (f : Nat → Int32) : va_E := match c with
  | .inl (ci, ts) => .inr (ci, slvs g f 0 ts)
  | .inr (ty, n, rs) => .inl (gc g ty, n, arc g ty rs f)
def upr (h : Hp) (k : Nat) (f : Nat → Int32) : Hp := fun j => if j = k then f else h j
def up2 (h : Hp) (k i : Nat) (x : Int32) : Hp := upr h k (upd (h k) i x)
theorem upr_self (h : Hp) (k : Nat) (f : Nat → Int32) : upr h k f k = f := by simp [upr]
theorem upr_ne {h : Hp} {k j : Nat} {f : Nat → Int32} (n : j ≠ k) : upr h k f j = h j := by simp [upr, n]
abbrev XT : Type := Program × Env × Room × State × MethodId × Array Value × List Frame × Method × Code
abbrev MT : Type := MethodName × ByteArray × Nat × Option FieldType
def wsM (y : MT) : List Cond := .code y.1 y.2.1 y.2.2.1 y.2.2.2 :: TG
theorem goodM {Ts : List Cond} {y : MT} (hT : ∀ w ∈ TG, w ∈ Ts) (hy : Cond.code y.1 y.2.1 y.2.2.1 y.2.2.2 ∈ TG) : GoodIn Ts (wsM y) := by
  intro w hw
  rcases List.mem_cons.mp hw with rfl | h
  · exact ⟨hT _ hy, good_of_word (tg_good hy)⟩
  · exact ⟨hT _ h, good_of_word (tg_good h)⟩
theorem good_add {Ts ws : List Cond} {w : Cond} (hw : w ∈ TG) (hT : ∀ w ∈ TG, w ∈ Ts) (h : GoodIn Ts ws) : GoodIn Ts (w :: ws) := by
  intro v hv
  rcases List.mem_cons.mp hv with rfl | hv
  · exact ⟨hT _ hw, good_of_word (tg_good hw)⟩
  · exact h v hv
def rmd (d mc ms : Nat) : Room := { frames := d, cells := mc, slots := ms, locals := 40 * d }
def tysG (g : GT) : List (ClassId × FieldType) := [(gc g 0, .int), (gc g 1, .byte), (gc g 2, .char), (gc g 3, .long), (gc g 4, .object RX1)]
/-- the heap holds the world -/
def HOK (g : GT) (ex : Bool) (sh : List Shp) (h : Hp) (H : Heap) : Prop :=
  (∀ (k : Nat) (c : Shp), sh[k]? = some c → va_at (gD g) clX (gB g + k, conc g c (h k)) H) ∧ gB g + sh.length ≤ H.size ∧ (ex = true → H.size = gB g + sh.length)
theorem HOK.set {g : GT} {ex : Bool} {sh : List Shp} {h : Hp} {H H1 : Heap} {k : Nat} {c : Shp} {f : Nat → Int32} (P : HOK g ex sh h H) (hk : sh[k]? = some c) (he : va_at (gD g) clX (gB g + k, conc g c f) H1) (z : H1.size = H.size) (oq : ∀ q : Nat, q ≠ gB g + k → H1[q]? = H[q]?) : HOK g ex sh (upr h k f) H1 := by
  refine ⟨fun j d hj => ?_, by rw [z]; exact P.2.1, fun e => by rw [z]; exact P.2.2 e⟩
  by_cases e : j = k
  · subst e
    rw [hk] at hj; cases hj
    rw [upr_self]; exact he
  · rw [upr_ne e]
    exact (P.1 j d hj).kept (oq _ (by show gB g + j ≠ gB g + k; omega))
theorem HOK.setc {g : GT} {ex : Bool} {sh : List Shp} {h : Hp} {H H1 : Heap} {k : Nat} {c c' : Shp} (P : HOK g ex sh h H) (hk : sh[k]? = some c) (he : va_at (gD g) clX (gB g + k, conc g c' (h k)) H1) (z : H1.size = H.size) (oq : ∀ q : Nat, q ≠ gB g + k → H1[q]? = H[q]?) : HOK g ex (sh.set k c') h H1 := by
  have hl : k < sh.length := (List.getElem?_eq_some_iff.mp hk).1
  refine ⟨fun j d hj => ?_, by rw [z, List.length_set]; exact P.2.1, fun e => by rw [z, List.length_set]; exact P.2.2 e⟩
  by_cases e : j = k
  · subst e
    rw [List.getElem?_set_self hl] at hj; cases hj
    exact he
  · rw [List.getElem?_set_ne (fun q => e q.symm)] at hj
    exact (P.1 j d hj).kept (oq _ (by show gB g + j ≠ gB g + k; omega))
theorem HOK.push {g : GT} {sh : List Shp} {h : Hp} {H H1 : Heap} {c : Shp} (P : HOK g true sh h H) (he : va_at (gD g) clX (gB g + sh.length, conc g c (h sh.length)) H1) (z : H1.size = H.size + 1) (oq : ∀ q : Nat, q < H.size → H1[q]? = H[q]?) : HOK g true (sh ++ [c]) h H1 := by
  have hz := P.2.2 rfl
  refine ⟨fun j d hj => ?_, by rw [z, List.length_append, hz]; simp; omega, fun _ => by rw [z, List.length_append, hz]; simp; omega⟩
  by_cases hl : j < sh.length
  · rw [List.getElem?_append_left hl] at hj
    have hh := P.1 j d hj
    exact hh.kept (oq _ hh.lt)
  · rw [List.getElem?_append_right (by omega)] at hj
    have h0 : j - sh.length < 1 := (List.getElem?_eq_some_iff.mp hj).1
    have e : j = sh.length := by omega
    subst e
    rw [Nat.sub_self] at hj
    cases hj
    exact he
/-! ===== what lies outside the world: constants of enums, String constants, static rows ===== -/
def sx_len : List Nat := [4, 4, 5, 5, 4, 3, 3, 4, 4, 5, 5, 6, 7, 169, 96, 73]
def sx_byt : List (List Int32) := [[99, 108, 105, 112],
  [114, 101, 101, 108],
  [115, 99, 101, 110, 101],
  [115, 108, 101, 101, 112],
  [119, 97, 107, 101],
  [99, 117, 116],
  [97, 105, 114],
  [102, 101, 101, 100],
  [102, 111, 111, 100],
  [112, 97, 105, 110, 116],
  [119, 101, 101, 107, 115],
  [114, 101, 112, 101, 97, 116],
  [97, 114, 99, 104, 105, 118, 101],
  [97, 114, 99, 104, 105, 118, 101, 59, 32, 99, 108, 105, 112, 32, 49, 50, 51, 59, 32, 99, 108, 105, 112, 32, 51, 50, 49, 52, 59, 32, 99, 108, 105, 112, 32, 52, 52, 59, 32, 99, 108, 105, 112, 32, 49, 50, 51, 52, 53, 54, 55, 56, 59, 32, 99, 108, 105, 112, 32, 57, 59, 32, 114, 101, 101, 108, 32, 51, 59, 32, 114, 101, 101, 108, 32, 53, 59, 32, 115, 99, 101, 110, 101, 32, 50, 59, 32, 115, 99, 101, 110, 101, 32, 49, 59, 32, 115, 108, 101, 101, 112, 32, 48, 32, 48, 59, 32, 115, 108, 101, 101, 112, 32, 49, 32, 48, 59, 32, 115, 108, 101, 101, 112, 32, 50, 32, 49, 59, 32, 115, 108, 101, 101, 112, 32, 51, 32, 49, 59, 32, 119, 101, 101, 107, 115, 32, 50, 59, 32, 99, 117, 116, 32, 49, 32, 51, 48, 59, 32, 102, 101, 101, 100, 32, 52, 32, 50, 48, 59],
  [97, 114, 99, 104, 105, 118, 101, 59, 32, 99, 108, 105, 112, 32, 49, 50, 51, 59, 32, 99, 108, 105, 112, 32, 51, 50, 49, 52, 59, 32, 99, 108, 105, 112, 32, 52, 52, 59, 32, 99, 108, 105, 112, 32, 49, 50, 51, 52, 53, 54, 55, 56, 59, 32, 99, 108, 105, 112, 32, 57, 59, 32, 114, 101, 101, 108, 32, 51, 59, 32, 114, 101, 101, 108, 32, 53, 59, 32, 115, 99, 101, 110, 101, 32, 50, 59, 32, 115, 99, 101, 110, 101, 32, 49, 59, 32],
  [115, 108, 101, 101, 112, 32, 48, 32, 48, 59, 32, 115, 108, 101, 101, 112, 32, 49, 32, 48, 59, 32, 115, 108, 101, 101, 112, 32, 50, 32, 49, 59, 32, 115, 108, 101, 101, 112, 32, 51, 32, 49, 59, 32, 119, 101, 101, 107, 115, 32, 50, 59, 32, 99, 117, 116, 32, 49, 32, 51, 48, 59, 32, 102, 101, 101, 100, 32, 52, 32, 50, 48, 59]]
def sx_refs : List (String × Nat × String × Nat) := [("ClipHibernation", 41, "archive; clip 123; clip 3214; clip 44; clip 12345678; clip 9; reel 3; reel 5; scene 2; scene 1; sleep 0 0; sleep 1 0; sleep 2 1; sleep 3 1; weeks 2; cut 1 30; feed 4 20;", 13),
  ("ClipHibernation$Script", 86, "archive", 12),
  ("ClipHibernationModel", 42, "archive; clip 123; clip 3214; clip 44; clip 12345678; clip 9; reel 3; reel 5; scene 2; scene 1; ", 14),
  ("ClipHibernationModel", 48, "sleep 0 0; sleep 1 0; sleep 2 1; sleep 3 1; weeks 2; cut 1 30; feed 4 20;", 15),
  ("ClipHibernationModel", 307, "archive", 12),
  ("ClipHibernationModel", 232, "clip", 0),
  ("ClipHibernationModel", 238, "reel", 1),
  ("ClipHibernationModel", 240, "scene", 2),
  ("ClipHibernationModel", 241, "sleep", 3),
  ("ClipHibernationModel", 243, "wake", 4),
  ("ClipHibernationModel", 245, "cut", 5),
  ("ClipHibernationModel", 250, "air", 6),
  ("ClipHibernationModel", 252, "feed", 7),
  ("ClipHibernationModel", 254, "food", 8),
  ("ClipHibernationModel", 256, "paint", 9),
  ("ClipHibernationModel", 258, "weeks", 10),
  ("ClipHibernationModel", 260, "repeat", 11),
  ("ClipHibernation$Command", 100, "repeat", 11),
  ("ClipHibernation$Command", 64, "clip", 0),
  ("ClipHibernation$Command", 70, "reel", 1),
  ("ClipHibernation$Command", 73, "scene", 2),
  ("ClipHibernation$Command", 76, "sleep", 3),
  ("ClipHibernation$Command", 79, "wake", 4),
  ("ClipHibernation$Command", 82, "cut", 5),
  ("ClipHibernation$Command", 85, "air", 6),
  ("ClipHibernation$Command", 88, "feed", 7),
  ("ClipHibernation$Command", 91, "food", 8),
  ("ClipHibernation$Command", 94, "paint", 9),
  ("ClipHibernation$Command", 97, "weeks", 10)]
def sx_msgs : List (String × Nat × String) := [("ClipHibernation", 69, "no such length of the input"),
  ("ClipHibernation", 86, "these are no colours"),
  ("ClipHibernation", 331, "refused"),
  ("ClipHibernation", 327, "out of range"),
  ("ClipHibernation", 321, "no such clip"),
  ("ClipHibernation", 323, "no such reel"),
  ("ClipHibernation", 325, "no such scene"),
  ("ClipHibernation", 166, "the clip has no such colour"),
  ("ClipHibernation", 194, "no snapshot was saved"),
  ("ClipHibernation", 242, "the reel has no such bed")]
def tokNm : List String := ["WORD", "NUMBER", "OPEN", "CLOSE", "SEMICOLON", "END", "WRONG"]
def cmdNm : List String := ["CLIP", "REEL", "SCENE", "SLEEP", "WAKE", "CUT", "AIR", "FEED", "FOOD", "PAINT", "WEEKS", "REPEAT"]
def cmdF : List (String × String × String × List Int32) := [("java/lang/Enum", "ordinal", "I", [0, 1, 2, 3, 4, 5, 6, 7, 8, 9, 10, 11])]
def St1 (g : GT) (U : State) (H : Heap) : Prop := va_En RX5 "LClipHibernation$Token;" tokNm [] (fun k => ga g k) (gA g) U H
def St2 (g : GT) (U : State) (H : Heap) : Prop := va_En RX2 "LClipHibernation$Command;" cmdNm cmdF (fun k => ga g (10 + k)) (gA g) U H
def St3 (g : GT) (U : State) (H : Heap) : Prop := va_Ef 12 RX2 "word" "Ljava/lang/String;" (fun k => .ref (ga g (100 + k))) (fun k => ga g (10 + k)) (gA g) U H
def St4 (g : GT) (U : State) (H : Heap) : Prop := ∀ i : Nat, i < 16 → vk_S 1 [sx_len.getD i 0] [sx_byt.getD i []] (fun _ => ga g (100 + i)) (fun _ => ga g (150 + i)) (gA g) U H
def St5 (g : GT) (U : State) : Prop := ∀ q ∈ sx_refs, vk_R q.1 q.2.1 q.2.2.1 (ga g (100 + q.2.2.2)) U
def St6 (U : State) : Prop := ∀ q ∈ sx_msgs, ∃ a : Nat, vk_R q.1 q.2.1 q.2.2 a U
def St7 (g : GT) (U : State) (H : Heap) : Prop := vx_Zq Bundle.tN "UNASSIGNED_STACK" Bundle.steD (gA g) U H ∧ vx_Zq Bundle.tN "SUPPRESSED_SENTINEL" Bundle.listD (gA g) U H
def St8 (g : GT) (U : State) (H : Heap) : Prop := va_Z RX3 "COMMANDS" "[LClipHibernation$Command;" (.ref (ga g 50)) (gA g) U H ∧ va_T (.object RX2) (ga g 50) 12 (fun j => .ref (ga g (10 + j))) (gA g) U H
def St9 (g : GT) (U : State) (H : Heap) : Prop := va_Z RX0 "$SwitchMap$ClipHibernation$Command" "[I" (.ref (ga g 51)) (gA g) U H ∧ va_T .int (ga g 51) 12 (fun j => .int (nI (j + 1))) (gA g) U H
def St10 (g : GT) (U : State) (H : Heap) : Prop := va_Z "java/lang/String" "COMPACT_STRINGS" "Z" (.int 1) (gA g) U H ∧ va_Zq "jdk/internal/util/Preconditions" "SIOOBE_FORMATTER" "Ljava/util/function/BiFunction;" (gA g) U H
def St (g : GT) (U : State) (H : Heap) : Prop := St1 g U H ∧ St2 g U H ∧ St3 g U H ∧ St4 g U H ∧ St5 g U ∧ St6 U ∧ St7 g U H ∧ St8 g U H ∧ St9 g U H ∧ St10 g U H
theorem St.mk {g : GT} {s U : State} {H0 H : Heap} (h : St g s H0) (hvm : s.vm.Alike U.vm) (hR : ∀ (o : String) (k : Nat) (t : String) (a : Nat), vk_R o k t a s → vk_R o k t a U) (hq : ∀ a : Nat, a < H0.size → ¬ (gA g) a → H[a]? = H0[a]?) : St g U H := by
  obtain ⟨h1, h2, h3, h4, h5, h6, h7, h8, h9, h10⟩ := h
  exact ⟨va_En.kept (va_En.moved hvm h1) hq, va_En.kept (va_En.moved hvm h2) hq, va_Ef.kept (va_Ef.moved hvm h3) hq, fun i hi => vk_S.kept (vk_S.moved hvm (h4 i hi)) hq,
    fun q hm => hR _ _ _ _ (h5 q hm), fun q hm => (h6 q hm).imp fun a ha => hR _ _ _ _ ha,
    ⟨vx_Zq.kept (vx_Zq.moved hvm h7.1) hq, vx_Zq.kept (vx_Zq.moved hvm h7.2) hq⟩, ⟨va_Z.kept (va_Z.moved hvm h8.1) hq, va_T.kept (va_T.moved hvm h8.2) hq⟩,
    ⟨va_Z.kept (va_Z.moved hvm h9.1) hq, va_T.kept (va_T.moved hvm h9.2) hq⟩, ⟨va_Z.kept (va_Z.moved hvm h10.1) hq, va_Zq.kept (va_Zq.moved hvm h10.2) hq⟩⟩
theorem St.call {g : GT} {s U : State} {H : Heap} {locs : List Loc} (h : St g s s.heap) (hS : va_S (gA g) s.heap H locs) (hW : s.WarmedH U.vm) : St g U H :=
  St.mk h hW.alike (fun _ _ _ _ hr => vk_R.warm hW hr) hS.2.1
theorem St.calling {g : GT} {U : State} {f : JFrame} {mk : MethodId} {a : Array Value} (h : St g U U.heap) : St g (U.calling f mk a) (U.calling f mk a).heap :=
  St.mk (s := U) (H0 := U.heap) h (Vm.Alike.refl U.vm) (fun _ _ _ _ hr => vk_R.same (u := U) (U := U.calling f mk a) rfl hr) (fun _ _ _ => rfl)
/-! ===== what is given of the machine at a method's start, and the walk ===== -/
def GS (g : GT) (U : State) : Prop := va_K (gD g) clX (tysG g) U ∧ St g U U.heap ∧ g.1.stackTraces = false
theorem GS.call {g : GT} {s U : State} {H : Heap} {locs : List Loc} (h : GS g s) (hB : gB g ≤ s.heap.size) (hS : va_S (gA g) s.heap H locs) (hU : U.heap = H) (hW : s.WarmedH U.vm) : GS g U :=
  ⟨va_K.moved hW.alike h.1, by rw [hU]; exact St.call h.2.1 hS hW, h.2.2⟩
theorem GS.calling {g : GT} {U : State} {f : JFrame} {mk : MethodId} {a : Array Value} (h : GS g U) : GS g (U.calling f mk a) :=
  ⟨va_K.moved (u := U) (U := U.calling f mk a) (Vm.Alike.refl U.vm) h.1, St.calling h.2.1, h.2.2⟩
def Cx (g : GT) (X : XT) (own : String) (b : ByteArray) : Prop :=
  X.1.tables.exec = Jvm.exec ∧ X.2.2.2.2.2.2.2.2.code = b ∧ X.2.2.2.1.vm.findClass own = some X.2.2.2.2.1.cls ∧ (∀ w ∈ TG, w.before X.2.2.2.2.2.1 X.2.2.2.1 = true) ∧ GS g X.2.2.2.1 ∧ X.2.2.2.2.2.2.2.1.locks = false ∧ gB g ≤ X.2.2.2.1.heap.size
abbrev WX (g : GT) (X : XT) (H : Heap) (locs : List Loc) (cells slots : Nat) (Q : State → Prop) (fr : JFrame) : Prop :=
  W X.1 g.1 X.2.1 X.2.2.1 X.2.2.2.1 X.2.2.2.2.1 X.2.2.2.2.2.1 X.2.2.2.2.2.2.1 X.2.2.2.2.2.2.2.1 X.2.2.2.2.2.2.2.2 H locs cells slots Q fr
/-- a method's locals, by their places -/
def lk : List (Option Value) → Nat → Option Value
  | [], _ => none
  | a :: _, 0 => a
  | _ :: l, n + 1 => lk l n
def lset : List (Option Value) → Nat → Option Value → List (Option Value)
  | [], _, _ => []
  | _ :: l, 0, v => v :: l
  | a :: l, n + 1, v => a :: lset l n v
def lass : Nat → List (Option Value) → List (Nat × Value)
  | _, [] => []
  | i, none :: l => lass (i + 1) l
  | i, some v :: l => (i, v) :: lass (i + 1) l
theorem lass_mem : ∀ (L : List (Option Value)) (i : Nat) (q : Nat × Value), q ∈ lass i L ↔ ∃ k, q.1 = i + k ∧ lk L k = some q.2
  | [], i, q => by simp [lass, lk]
  | none :: l, i, q => by
    rw [lass, lass_mem l (i + 1) q]
    constructor
    · rintro ⟨k, h1, h2⟩; exact ⟨k + 1, by omega, h2⟩
    · rintro ⟨k, h1, h2⟩
      cases k with
      | zero => simp [lk] at h2
      | succ k => exact ⟨k, by omega, h2⟩
  | some v :: l, i, q => by
    rw [lass, List.mem_cons, lass_mem l (i + 1) q]
    constructor
    · rintro (h | ⟨k, h1, h2⟩)
      · subst h; exact ⟨0, rfl, rfl⟩
      · exact ⟨k + 1, by omega, h2⟩
    · rintro ⟨k, h1, h2⟩
      cases k with
      | zero =>
        left
        simp only [lk, Option.some.injEq] at h2
        obtain ⟨a, b⟩ := q
        simp at h1 h2
        rw [h1, h2]
      | succ k => exact Or.inr ⟨k, by omega, h2⟩
/-- the locals of the frame are known as L says -/
def LV (ls : Array Slot) (nL : Nat) (L : List (Option Value)) : Prop := ls.size = nL ∧ lv_wf ls ∧ ∀ (i : Nat) (v : Value), lk L i = some v → ls[i]? = some (.val v)
theorem LV.has {ls : Array Slot} {nL : Nat} {L : List (Option Value)} (h : LV ls nL L) : lv_has ls nL (lass 0 L) := ⟨h.1, h.2.1, fun q hq => by
  obtain ⟨k, h1, h2⟩ := (lass_mem L 0 q).mp hq
  rw [h1, Nat.zero_add]; exact h.2.2 k q.2 h2⟩
theorem LV.of {ls : Array Slot} {nL : Nat} {L : List (Option Value)} {l : List (Nat × Value)} (h : lv_has ls nL l) (hl : ∀ (i : Nat) (v : Value), lk L i = some v → (i, v) ∈ l) : LV ls nL L := ⟨h.1, h.2.1, fun i v hi => h.2.2 (i, v) (hl i v hi)⟩
theorem lk_lset_ne : ∀ (L : List (Option Value)) (i j : Nat) (v : Option Value), j ≠ i → lk (lset L i v) j = lk L j
  | [], _, _, _, _ => rfl
  | _ :: l, 0, 0, _, h => absurd rfl h
  | _ :: l, 0, _ + 1, _, _ => rfl
  | _ :: l, _ + 1, 0, _, _ => rfl
  | a :: l, i + 1, j + 1, v, h => lk_lset_ne l i j v (fun e => h (by rw [e]))
theorem lk_lset : ∀ (L : List (Option Value)) (i : Nat) (v w : Value), lk (lset L i (some v)) i = some w → w = v
  | [], _, _, _, h => by simp [lset, lk] at h
  | _ :: l, 0, v, w, h => by simp [lset, lk] at h; exact h.symm
  | _ :: l, i + 1, v, w, h => lk_lset l i v w h
/-- no value of two slots is listed that the store at i would break -/
def lfree (L : List (Option Value)) (i : Nat) : Bool := match i with
  | 0 => true
  | k + 1 => match lk L k with
    | some v => v.category == 1
    | none => true
theorem lv_setL {ls : Array Slot} {nL : Nat} {L : List (Option Value)} {i : Nat} {v : Value} {l : List (Nat × Value)} (hL : ∀ (j : Nat) (w : Value), lk L j = some w → (j, w) ∈ l) (hf : lfree L i = true)
    (h : lv_has ls nL ((i, v) :: l.filter (fun q => !(q.1 == i) && !(q.1 + 1 == i && q.2.category == 2)))) : LV ls nL (lset L i (some v)) := by
  refine LV.of h (fun j w hj => ?_)
  by_cases e : j = i
  · subst e
    have := lk_lset L j v w hj
    subst this
    exact List.mem_cons_self
  · rw [lk_lset_ne L i j _ e] at hj
    refine List.mem_cons_of_mem _ (List.mem_filter.mpr ⟨hL j w hj, ?_⟩)
    have h1 : (j == i) = false := by simpa using e
    simp only [h1, Bool.not_false, Bool.true_and]
    by_cases e2 : j + 1 = i
    · subst e2
      simp only [lfree, hj, beq_iff_eq] at hf
      simp [hf]
    · simp [e2]
def PW (g : GT) (X : XT) (ex : Bool) (Q : State → Prop) (cells slots : Nat) (sh : List Shp) (h : Hp) (pc : Nat) (L : List (Option Value)) (st : List Value) : Prop :=
  ∀ (H : Heap) (locs : List Loc) (ls : Array Slot), HOK g ex sh h H → va_S (gA g) X.2.2.2.1.heap H locs → LV ls X.2.2.2.2.2.2.2.2.maxLocals L → WX g X H locs cells slots Q (F0 X.2.2.2.2.1 pc ls st)
def Dx (b : ByteArray) (pc : Nat) (i : Instr) (len n : Nat) : Prop := decode b pc = .ok (i, len) ∧ pc + len = n
section PWrows
variable {g : GT} {X : XT} {own : String} {b : ByteArray} {ex : Bool} {Q : State → Prop} {cells slots : Nat} {sh : List Shp} {h : Hp} {pc n : Nat} {L : List (Option Value)} {st : List Value}
theorem PW.pcEq {pc' : Nat} (e : pc' = pc) (k : PW g X ex Q cells slots sh h pc' L st) : PW g X ex Q cells slots sh h pc L st := e ▸ k
theorem PW.hpEq {h' : Hp} (e : h = h') (k : PW g X ex Q cells slots sh h' pc L st) : PW g X ex Q cells slots sh h pc L st := e ▸ k
theorem PW.locs {L' : List (Option Value)} (e : ∀ (i : Nat) (v : Value), lk L' i = some v → lk L i = some v) (k : PW g X ex Q cells slots sh h pc L' st) : PW g X ex Q cells slots sh h pc L st :=
  fun H locs ls hH hS hL => k H locs ls hH hS ⟨hL.1, hL.2.1, fun i v hi => hL.2.2 i v (e i v hi)⟩
theorem PW.iconst {z : Int} {v : Int32} (cx : Cx g X own b) (hd : Dx b pc (.iconst z) 1 n) (hv : Int32.ofInt z = v) (k : PW g X ex Q cells slots sh h n L (.int v :: st)) : PW g X ex Q cells slots sh h pc L st := by
  obtain ⟨hd, rfl⟩ := hd
  exact fun H locs ls hH hS hL => lv_iconst cx.1 cx.2.1 hd hv (k H locs ls hH hS hL)
theorem PW.bipush {z : Int} {v : Int32} (cx : Cx g X own b) (hd : Dx b pc (.bipush z) 2 n) (hv : (Int8.ofInt z).toInt32 = v) (k : PW g X ex Q cells slots sh h n L (.int v :: st)) : PW g X ex Q cells slots sh h pc L st := by
  obtain ⟨hd, rfl⟩ := hd
  exact fun H locs ls hH hS hL => lv_bipush cx.1 cx.2.1 hd hv (k H locs ls hH hS hL)
theorem PW.sipush {z : Int} {v : Int32} (cx : Cx g X own b) (hd : Dx b pc (.sipush z) 3 n) (hv : (Int16.ofInt z).toInt32 = v) (k : PW g X ex Q cells slots sh h n L (.int v :: st)) : PW g X ex Q cells slots sh h pc L st := by
  obtain ⟨hd, rfl⟩ := hd
  exact fun H locs ls hH hS hL => lv_sipush cx.1 cx.2.1 hd hv (k H locs ls hH hS hL)
theorem PW.iload_n {i : Fin 4} {x : Int32} (cx : Cx g X own b) (hd : Dx b pc (.iload_n i) 1 n) (hl : lk L i.val = some (.int x)) (k : PW g X ex Q cells slots sh h n L (.int x :: st)) : PW g X ex Q cells slots sh h pc L st := by
  obtain ⟨hd, rfl⟩ := hd
  exact fun H locs ls hH hS hL => lv_iload_n cx.1 cx.2.1 hd rfl (hL.2.2 _ _ hl) (k H locs ls hH hS hL)
theorem PW.iload {i : Nat} {x : Int32} (cx : Cx g X own b) (hd : Dx b pc (.iload i) 2 n) (hl : lk L i = some (.int x)) (k : PW g X ex Q cells slots sh h n L (.int x :: st)) : PW g X ex Q cells slots sh h pc L st := by
  obtain ⟨hd, rfl⟩ := hd
  exact fun H locs ls hH hS hL => lv_iload cx.1 cx.2.1 hd (hL.2.2 _ _ hl) (k H locs ls hH hS hL)
theorem PW.aload_n {i : Fin 4} {x : Nat} (cx : Cx g X own b) (hd : Dx b pc (.aload_n i) 1 n) (hl : lk L i.val = some (.ref x)) (k : PW g X ex Q cells slots sh h n L (.ref x :: st)) : PW g X ex Q cells slots sh h pc L st := by
  obtain ⟨hd, rfl⟩ := hd
  exact fun H locs ls hH hS hL => lv_aload_n cx.1 cx.2.1 hd rfl (hL.2.2 _ _ hl) (k H locs ls hH hS hL)
theorem PW.aload {i : Nat} {x : Nat} (cx : Cx g X own b) (hd : Dx b pc (.aload i) 2 n) (hl : lk L i = some (.ref x)) (k : PW g X ex Q cells slots sh h n L (.ref x :: st)) : PW g X ex Q cells slots sh h pc L st := by
  obtain ⟨hd, rfl⟩ := hd
  exact fun H locs ls hH hS hL => lv_aload cx.1 cx.2.1 hd (hL.2.2 _ _ hl) (k H locs ls hH hS hL)
theorem PW.istore_n {i : Fin 4} {x : Int32} {L' : List (Option Value)} (cx : Cx g X own b) (hd : Dx b pc (.istore_n i) 1 n) (hi : i.val < X.2.2.2.2.2.2.2.2.maxLocals) (hf : lfree L i.val = true) (hL' : lset L i.val (some (.int x)) = L') (k : PW g X ex Q cells slots sh h n L' st) : PW g X ex Q cells slots sh h pc L (.int x :: st) := by
  obtain ⟨hd, rfl⟩ := hd
  subst hL'
  exact fun H locs ls hH hS hL => lv_istore_n cx.1 cx.2.1 hd rfl hL.has hi rfl (fun ls' hl' => k H locs ls' hH hS (lv_setL (fun j w hj => (lass_mem L 0 (j, w)).mpr ⟨j, by simp, hj⟩) hf hl'))
theorem PW.istore {i : Nat} {x : Int32} {L' : List (Option Value)} (cx : Cx g X own b) (hd : Dx b pc (.istore i) 2 n) (hi : i < X.2.2.2.2.2.2.2.2.maxLocals) (hf : lfree L i = true) (hL' : lset L i (some (.int x)) = L') (k : PW g X ex Q cells slots sh h n L' st) : PW g X ex Q cells slots sh h pc L (.int x :: st) := by
  obtain ⟨hd, rfl⟩ := hd
  subst hL'
  exact fun H locs ls hH hS hL => lv_istore cx.1 cx.2.1 hd hL.has hi rfl (fun ls' hl' => k H locs ls' hH hS (lv_setL (fun j w hj => (lass_mem L 0 (j, w)).mpr ⟨j, by simp, hj⟩) hf hl'))
theorem PW.astore_n {i : Fin 4} {x : Nat} {L' : List (Option Value)} (cx : Cx g X own b) (hd : Dx b pc (.astore_n i) 1 n) (hi : i.val < X.2.2.2.2.2.2.2.2.maxLocals) (hf : lfree L i.val = true) (hL' : lset L i.val (some (.ref x)) = L') (k : PW g X ex Q cells slots sh h n L' st) : PW g X ex Q cells slots sh h pc L (.ref x :: st) := by
  obtain ⟨hd, rfl⟩ := hd
  subst hL'
  exact fun H locs ls hH hS hL => lv_astore_n cx.1 cx.2.1 hd rfl hL.has hi rfl (fun ls' hl' => k H locs ls' hH hS (lv_setL (fun j w hj => (lass_mem L 0 (j, w)).mpr ⟨j, by simp, hj⟩) hf hl'))
theorem PW.astore {i : Nat} {x : Nat} {L' : List (Option Value)} (cx : Cx g X own b) (hd : Dx b pc (.astore i) 2 n) (hi : i < X.2.2.2.2.2.2.2.2.maxLocals) (hf : lfree L i = true) (hL' : lset L i (some (.ref x)) = L') (k : PW g X ex Q cells slots sh h n L' st) : PW g X ex Q cells slots sh h pc L (.ref x :: st) := by
  obtain ⟨hd, rfl⟩ := hd
  subst hL'
  exact fun H locs ls hH hS hL => lv_astore cx.1 cx.2.1 hd hL.has hi rfl (fun ls' hl' => k H locs ls' hH hS (lv_setL (fun j w hj => (lass_mem L 0 (j, w)).mpr ⟨j, by simp, hj⟩) hf hl'))
theorem PW.iinc {i : Nat} {z : Int} {x v : Int32} {L' : List (Option Value)} (cx : Cx g X own b) (hd : Dx b pc (.iinc i z) 3 n) (hl : lk L i = some (.int x)) (hv : Int32.ofInt z = v) (hi : i < X.2.2.2.2.2.2.2.2.maxLocals) (hf : lfree L i = true) (hL' : lset L i (some (.int (x + v))) = L') (k : PW g X ex Q cells slots sh h n L' st) : PW g X ex Q cells slots sh h pc L st := by
  obtain ⟨hd, rfl⟩ := hd
  subst hL' hv
  intro H locs ls hH hS hL
  have hm : (i, Value.int x) ∈ lass 0 L := (lass_mem L 0 (i, .int x)).mpr ⟨i, by simp, hl⟩
  obtain ⟨q, hq⟩ := List.getElem?_of_mem hm
  exact lv_iinc cx.1 cx.2.1 hd hL.has hq rfl hi rfl (fun ls' hl' => k H locs ls' hH hS (lv_setL (fun j w hj => (lass_mem L 0 (j, w)).mpr ⟨j, by simp, hj⟩) hf hl'))
theorem PW.iadd {x y : Int32} (cx : Cx g X own b) (hd : Dx b pc .iadd 1 n) (k : PW g X ex Q cells slots sh h n L (.int (x + y) :: st)) : PW g X ex Q cells slots sh h pc L (.int y :: .int x :: st) := by
  obtain ⟨hd, rfl⟩ := hd
  exact fun H locs ls hH hS hL => lv_iadd cx.1 cx.2.1 hd (k H locs ls hH hS hL)
theorem PW.isub {x y : Int32} (cx : Cx g X own b) (hd : Dx b pc .isub 1 n) (k : PW g X ex Q cells slots sh h n L (.int (x - y) :: st)) : PW g X ex Q cells slots sh h pc L (.int y :: .int x :: st) := by
  obtain ⟨hd, rfl⟩ := hd
  exact fun H locs ls hH hS hL => lv_isub cx.1 cx.2.1 hd (k H locs ls hH hS hL)
theorem PW.imul {x y : Int32} (cx : Cx g X own b) (hd : Dx b pc .imul 1 n) (k : PW g X ex Q cells slots sh h n L (.int (x * y) :: st)) : PW g X ex Q cells slots sh h pc L (.int y :: .int x :: st) := by
  obtain ⟨hd, rfl⟩ := hd
  exact fun H locs ls hH hS hL => lv_imul cx.1 cx.2.1 hd (k H locs ls hH hS hL)
def iush (x y : Int32) : Int32 := (x.toUInt32 >>> (y.toUInt32 &&& Int32.toUInt32 31)).toInt32
theorem PW.iand {x y : Int32} (cx : Cx g X own b) (hd : Dx b pc .iand 1 n) (k : PW g X ex Q cells slots sh h n L (.int (x &&& y) :: st)) : PW g X ex Q cells slots sh h pc L (.int y :: .int x :: st) := by
  obtain ⟨hd, rfl⟩ := hd
  exact fun H locs ls hH hS hL => lv_iand cx.1 cx.2.1 hd (k H locs ls hH hS hL)
theorem PW.ior {x y : Int32} (cx : Cx g X own b) (hd : Dx b pc .ior 1 n) (k : PW g X ex Q cells slots sh h n L (.int (x ||| y) :: st)) : PW g X ex Q cells slots sh h pc L (.int y :: .int x :: st) := by
  obtain ⟨hd, rfl⟩ := hd
  exact fun H locs ls hH hS hL => lv_ior cx.1 cx.2.1 hd (k H locs ls hH hS hL)
theorem PW.ixor {x y : Int32} (cx : Cx g X own b) (hd : Dx b pc .ixor 1 n) (k : PW g X ex Q cells slots sh h n L (.int (x ^^^ y) :: st)) : PW g X ex Q cells slots sh h pc L (.int y :: .int x :: st) := by
  obtain ⟨hd, rfl⟩ := hd
  exact fun H locs ls hH hS hL => lv_ixor cx.1 cx.2.1 hd (k H locs ls hH hS hL)
theorem PW.ishl {x y : Int32} (cx : Cx g X own b) (hd : Dx b pc .ishl 1 n) (k : PW g X ex Q cells slots sh h n L (.int (x <<< (y &&& 31)) :: st)) : PW g X ex Q cells slots sh h pc L (.int y :: .int x :: st) := by
  obtain ⟨hd, rfl⟩ := hd
  exact fun H locs ls hH hS hL => lv_ishl cx.1 cx.2.1 hd (k H locs ls hH hS hL)
theorem PW.ishr {x y : Int32} (cx : Cx g X own b) (hd : Dx b pc .ishr 1 n) (k : PW g X ex Q cells slots sh h n L (.int (x >>> (y &&& 31)) :: st)) : PW g X ex Q cells slots sh h pc L (.int y :: .int x :: st) := by
  obtain ⟨hd, rfl⟩ := hd
  exact fun H locs ls hH hS hL => lv_ishr cx.1 cx.2.1 hd (k H locs ls hH hS hL)
theorem PW.iushr {x y : Int32} (cx : Cx g X own b) (hd : Dx b pc .iushr 1 n) (k : PW g X ex Q cells slots sh h n L (.int (iush x y) :: st)) : PW g X ex Q cells slots sh h pc L (.int y :: .int x :: st) := by
  obtain ⟨hd, rfl⟩ := hd
  exact fun H locs ls hH hS hL => lv_iushr cx.1 cx.2.1 hd rfl (k H locs ls hH hS hL)
theorem PW.ineg {x : Int32} (cx : Cx g X own b) (hd : Dx b pc .ineg 1 n) (k : PW g X ex Q cells slots sh h n L (.int (-x) :: st)) : PW g X ex Q cells slots sh h pc L (.int x :: st) := by
  obtain ⟨hd, rfl⟩ := hd
  exact fun H locs ls hH hS hL => lv_ineg cx.1 cx.2.1 hd (k H locs ls hH hS hL)
theorem PW.i2b {x : Int32} (cx : Cx g X own b) (hd : Dx b pc .i2b 1 n) (k : PW g X ex Q cells slots sh h n L (.int x.toInt8.toInt32 :: st)) : PW g X ex Q cells slots sh h pc L (.int x :: st) := by
  obtain ⟨hd, rfl⟩ := hd
  exact fun H locs ls hH hS hL => lv_i2b cx.1 cx.2.1 hd rfl (k H locs ls hH hS hL)
theorem PW.i2c {x : Int32} (cx : Cx g X own b) (hd : Dx b pc .i2c 1 n) (k : PW g X ex Q cells slots sh h n L (.int (x.toUInt32 % 65536).toInt32 :: st)) : PW g X ex Q cells slots sh h pc L (.int x :: st) := by
  obtain ⟨hd, rfl⟩ := hd
  exact fun H locs ls hH hS hL => lv_i2c cx.1 cx.2.1 hd rfl (k H locs ls hH hS hL)
theorem PW.i2l {x : Int32} (cx : Cx g X own b) (hd : Dx b pc .i2l 1 n) (k : PW g X ex Q cells slots sh h n L (.long x.toInt64 :: st)) : PW g X ex Q cells slots sh h pc L (.int x :: st) := by
  obtain ⟨hd, rfl⟩ := hd
  exact fun H locs ls hH hS hL => lv_i2l cx.1 cx.2.1 hd rfl (k H locs ls hH hS hL)
theorem PW.i2f {x : Int32} (cx : Cx g X own b) (hd : Dx b pc .i2f 1 n) (k : PW g X ex Q cells slots sh h n L (.float (FP.i2f x) :: st)) : PW g X ex Q cells slots sh h pc L (.int x :: st) := by
  obtain ⟨hd, rfl⟩ := hd
  exact fun H locs ls hH hS hL => lv_i2f cx.1 cx.2.1 hd (k H locs ls hH hS hL)
theorem PW.i2d {x : Int32} (cx : Cx g X own b) (hd : Dx b pc .i2d 1 n) (k : PW g X ex Q cells slots sh h n L (.double (FP.i2d x) :: st)) : PW g X ex Q cells slots sh h pc L (.int x :: st) := by
  obtain ⟨hd, rfl⟩ := hd
  exact fun H locs ls hH hS hL => lv_i2d cx.1 cx.2.1 hd (k H locs ls hH hS hL)
theorem PW.idivK {x y : Int32} (cx : Cx g X own b) (hd : Dx b pc .idiv 1 n) (hy : ¬ y = 0) (k : PW g X ex Q cells slots sh h n L (.int (x / y) :: st)) : PW g X ex Q cells slots sh h pc L (.int y :: .int x :: st) := by
  obtain ⟨hd, rfl⟩ := hd
  exact fun H locs ls hH hS hL => lv_idiv cx.1 cx.2.1 hd hy (k H locs ls hH hS hL)
theorem PW.iremK {x y : Int32} (cx : Cx g X own b) (hd : Dx b pc .irem 1 n) (hy : ¬ y = 0) (k : PW g X ex Q cells slots sh h n L (.int (x - x / y * y) :: st)) : PW g X ex Q cells slots sh h pc L (.int y :: .int x :: st) := by
  obtain ⟨hd, rfl⟩ := hd
  exact fun H locs ls hH hS hL => lv_irem cx.1 cx.2.1 hd hy (k H locs ls hH hS hL)
theorem PW.dup {v : Value} (cx : Cx g X own b) (hd : Dx b pc .dup 1 n) (hv : v.category = 1) (k : PW g X ex Q cells slots sh h n L (v :: v :: st)) : PW g X ex Q cells slots sh h pc L (v :: st) := by
  obtain ⟨hd, rfl⟩ := hd
  exact fun H locs ls hH hS hL => lv_dup cx.1 cx.2.1 hd hv (k H locs ls hH hS hL)
theorem PW.dup2 {v w : Value} (cx : Cx g X own b) (hd : Dx b pc .dup2 1 n) (hv : v.category = 1) (hw : w.category = 1) (k : PW g X ex Q cells slots sh h n L (v :: w :: v :: w :: st)) : PW g X ex Q cells slots sh h pc L (v :: w :: st) := by
  obtain ⟨hd, rfl⟩ := hd
  exact fun H locs ls hH hS hL => lv_dup2_11 cx.1 cx.2.1 hd hv hw (k H locs ls hH hS hL)
theorem PW.pop {v : Value} (cx : Cx g X own b) (hd : Dx b pc .pop 1 n) (hv : v.category = 1) (k : PW g X ex Q cells slots sh h n L (st)) : PW g X ex Q cells slots sh h pc L (v :: st) := by
  obtain ⟨hd, rfl⟩ := hd
  exact fun H locs ls hH hS hL => lv_pop cx.1 cx.2.1 hd hv (k H locs ls hH hS hL)
theorem PW.null  (cx : Cx g X own b) (hd : Dx b pc .aconst_null 1 n) (k : PW g X ex Q cells slots sh h n L (.null :: st)) : PW g X ex Q cells slots sh h pc L (st) := by
  obtain ⟨hd, rfl⟩ := hd
  exact fun H locs ls hH hS hL => lv_null cx.1 cx.2.1 hd (k H locs ls hH hS hL)
theorem PW.lcmp {x y : Int64} (cx : Cx g X own b) (hd : Dx b pc .lcmp 1 n) (k : PW g X ex Q cells slots sh h n L (.int (lg_cmp x y) :: st)) : PW g X ex Q cells slots sh h pc L (.long y :: .long x :: st) := by
  obtain ⟨hd, rfl⟩ := hd
  exact fun H locs ls hH hS hL => W.lcmp cx.1 cx.2.1 hd (k H locs ls hH hS hL)
def dvO (x y : Int32) : Option Int32 := if y = 0 then none else some (x / y)
def rmO (x y : Int32) : Option Int32 := if y = 0 then none else some (x - x / y * y)
theorem PW.idiv {x y : Int32} {ρ : Type} {F : Int32 → Option ρ} {r : Option ρ} (cx : Cx g X own b) (hd : Dx b pc .idiv 1 n) (hf : (dvO x y).bind F = r) (hr : r ≠ none) (k : ∀ z : Int32, F z = r → PW g X ex Q cells slots sh h n L (.int z :: st)) : PW g X ex Q cells slots sh h pc L (.int y :: .int x :: st) := by
  obtain ⟨hd, rfl⟩ := hd
  by_cases hy : y = 0
  · simp [dvO, hy] at hf
    exact absurd hf.symm hr
  · simp only [dvO, if_neg hy, Option.bind_some] at hf
    exact fun H locs ls hH hS hL => lv_idiv cx.1 cx.2.1 hd hy (k _ hf H locs ls hH hS hL)
theorem PW.irem {x y : Int32} {ρ : Type} {F : Int32 → Option ρ} {r : Option ρ} (cx : Cx g X own b) (hd : Dx b pc .irem 1 n) (hf : (rmO x y).bind F = r) (hr : r ≠ none) (k : ∀ z : Int32, F z = r → PW g X ex Q cells slots sh h n L (.int z :: st)) : PW g X ex Q cells slots sh h pc L (.int y :: .int x :: st) := by
  obtain ⟨hd, rfl⟩ := hd
  by_cases hy : y = 0
  · simp [rmO, hy] at hf
    exact absurd hf.symm hr
  · simp only [rmO, if_neg hy, Option.bind_some] at hf
    exact fun H locs ls hH hS hL => lv_irem cx.1 cx.2.1 hd hy (k _ hf H locs ls hH hS hL)
def Dj (b : ByteArray) (pc : Nat) (i : Instr) (off : Int) (n tgt : Nat) : Prop := decode b pc = .ok (i, 3) ∧ pc + 3 = n ∧ (pc : Int) + off = (tgt : Int)
theorem PW.goto {o : Int} {tgt : Nat} (cx : Cx g X own b) (hd : Dj b pc (.goto o) o n tgt) (k : PW g X ex Q cells slots sh h tgt L st) : PW g X ex Q cells slots sh h pc L st := by
  obtain ⟨hd, rfl, ht⟩ := hd
  exact fun H locs ls hH hS hL => lv_goto cx.1 cx.2.1 hd ht (k H locs ls hH hS hL)
theorem PW.if_eq {x : Int32} {o : Int} {tgt : Nat} {ρ : Type} {A B : Option ρ} {r : Option ρ} (cx : Cx g X own b) (hd : Dj b pc (.ifCond .eq o) o n tgt) (hf : (if x = 0 then A else B) = r) (kA : A = r → PW g X ex Q cells slots sh h tgt L st) (kB : B = r → PW g X ex Q cells slots sh h n L st) : PW g X ex Q cells slots sh h pc L (.int x :: st) := by
  obtain ⟨hd, rfl, ht⟩ := hd
  exact fun H locs ls hH hS hL => lv_if_eq cx.1 cx.2.1 hd ht (fun c0 => kA (by rw [if_pos c0] at hf; exact hf) H locs ls hH hS hL) (fun c0 => kB (by rw [if_neg c0] at hf; exact hf) H locs ls hH hS hL)
theorem PW.icmp_eq {x y : Int32} {o : Int} {tgt : Nat} {ρ : Type} {A B : Option ρ} {r : Option ρ} (cx : Cx g X own b) (hd : Dj b pc (.if_icmp .eq o) o n tgt) (hf : (if x = y then A else B) = r) (kA : A = r → PW g X ex Q cells slots sh h tgt L st) (kB : B = r → PW g X ex Q cells slots sh h n L st) : PW g X ex Q cells slots sh h pc L (.int y :: .int x :: st) := by
  obtain ⟨hd, rfl, ht⟩ := hd
  exact fun H locs ls hH hS hL => lv_icmp_eq cx.1 cx.2.1 hd ht (fun c0 => kA (by rw [if_pos c0] at hf; exact hf) H locs ls hH hS hL) (fun c0 => kB (by rw [if_neg c0] at hf; exact hf) H locs ls hH hS hL)
theorem PW.if_ne {x : Int32} {o : Int} {tgt : Nat} {ρ : Type} {A B : Option ρ} {r : Option ρ} (cx : Cx g X own b) (hd : Dj b pc (.ifCond .ne o) o n tgt) (hf : (if x = 0 then A else B) = r) (kA : A = r → PW g X ex Q cells slots sh h n L st) (kB : B = r → PW g X ex Q cells slots sh h tgt L st) : PW g X ex Q cells slots sh h pc L (.int x :: st) := by
  obtain ⟨hd, rfl, ht⟩ := hd
  exact fun H locs ls hH hS hL => lv_if_ne cx.1 cx.2.1 hd ht (fun c0 => kB (by rw [if_neg c0] at hf; exact hf) H locs ls hH hS hL) (fun c0 => kA (by rw [if_pos c0] at hf; exact hf) H locs ls hH hS hL)
theorem PW.icmp_ne {x y : Int32} {o : Int} {tgt : Nat} {ρ : Type} {A B : Option ρ} {r : Option ρ} (cx : Cx g X own b) (hd : Dj b pc (.if_icmp .ne o) o n tgt) (hf : (if x = y then A else B) = r) (kA : A = r → PW g X ex Q cells slots sh h n L st) (kB : B = r → PW g X ex Q cells slots sh h tgt L st) : PW g X ex Q cells slots sh h pc L (.int y :: .int x :: st) := by
  obtain ⟨hd, rfl, ht⟩ := hd
  exact fun H locs ls hH hS hL => lv_icmp_ne cx.1 cx.2.1 hd ht (fun c0 => kB (by rw [if_neg c0] at hf; exact hf) H locs ls hH hS hL) (fun c0 => kA (by rw [if_pos c0] at hf; exact hf) H locs ls hH hS hL)
theorem PW.if_lt {x : Int32} {o : Int} {tgt : Nat} {ρ : Type} {A B : Option ρ} {r : Option ρ} (cx : Cx g X own b) (hd : Dj b pc (.ifCond .lt o) o n tgt) (hf : (if x < 0 then A else B) = r) (kA : A = r → PW g X ex Q cells slots sh h tgt L st) (kB : B = r → PW g X ex Q cells slots sh h n L st) : PW g X ex Q cells slots sh h pc L (.int x :: st) := by
  obtain ⟨hd, rfl, ht⟩ := hd
  exact fun H locs ls hH hS hL => lv_if_lt cx.1 cx.2.1 hd ht (fun c0 => kA (by rw [if_pos c0] at hf; exact hf) H locs ls hH hS hL) (fun c0 => kB (by rw [if_neg c0] at hf; exact hf) H locs ls hH hS hL)
theorem PW.icmp_lt {x y : Int32} {o : Int} {tgt : Nat} {ρ : Type} {A B : Option ρ} {r : Option ρ} (cx : Cx g X own b) (hd : Dj b pc (.if_icmp .lt o) o n tgt) (hf : (if x < y then A else B) = r) (kA : A = r → PW g X ex Q cells slots sh h tgt L st) (kB : B = r → PW g X ex Q cells slots sh h n L st) : PW g X ex Q cells slots sh h pc L (.int y :: .int x :: st) := by
  obtain ⟨hd, rfl, ht⟩ := hd
  exact fun H locs ls hH hS hL => lv_icmp_lt cx.1 cx.2.1 hd ht (fun c0 => kA (by rw [if_pos c0] at hf; exact hf) H locs ls hH hS hL) (fun c0 => kB (by rw [if_neg c0] at hf; exact hf) H locs ls hH hS hL)
theorem PW.if_ge {x : Int32} {o : Int} {tgt : Nat} {ρ : Type} {A B : Option ρ} {r : Option ρ} (cx : Cx g X own b) (hd : Dj b pc (.ifCond .ge o) o n tgt) (hf : (if 0 ≤ x then A else B) = r) (kA : A = r → PW g X ex Q cells slots sh h tgt L st) (kB : B = r → PW g X ex Q cells slots sh h n L st) : PW g X ex Q cells slots sh h pc L (.int x :: st) := by
  obtain ⟨hd, rfl, ht⟩ := hd
  exact fun H locs ls hH hS hL => lv_if_ge cx.1 cx.2.1 hd ht (fun c0 => kA (by rw [if_pos c0] at hf; exact hf) H locs ls hH hS hL) (fun c0 => kB (by rw [if_neg c0] at hf; exact hf) H locs ls hH hS hL)
theorem PW.icmp_ge {x y : Int32} {o : Int} {tgt : Nat} {ρ : Type} {A B : Option ρ} {r : Option ρ} (cx : Cx g X own b) (hd : Dj b pc (.if_icmp .ge o) o n tgt) (hf : (if y ≤ x then A else B) = r) (kA : A = r → PW g X ex Q cells slots sh h tgt L st) (kB : B = r → PW g X ex Q cells slots sh h n L st) : PW g X ex Q cells slots sh h pc L (.int y :: .int x :: st) := by
  obtain ⟨hd, rfl, ht⟩ := hd
  exact fun H locs ls hH hS hL => lv_icmp_ge cx.1 cx.2.1 hd ht (fun c0 => kA (by rw [if_pos c0] at hf; exact hf) H locs ls hH hS hL) (fun c0 => kB (by rw [if_neg c0] at hf; exact hf) H locs ls hH hS hL)
theorem PW.if_gt {x : Int32} {o : Int} {tgt : Nat} {ρ : Type} {A B : Option ρ} {r : Option ρ} (cx : Cx g X own b) (hd : Dj b pc (.ifCond .gt o) o n tgt) (hf : (if 0 < x then A else B) = r) (kA : A = r → PW g X ex Q cells slots sh h tgt L st) (kB : B = r → PW g X ex Q cells slots sh h n L st) : PW g X ex Q cells slots sh h pc L (.int x :: st) := by
  obtain ⟨hd, rfl, ht⟩ := hd
  exact fun H locs ls hH hS hL => lv_if_gt cx.1 cx.2.1 hd ht (fun c0 => kA (by rw [if_pos c0] at hf; exact hf) H locs ls hH hS hL) (fun c0 => kB (by rw [if_neg c0] at hf; exact hf) H locs ls hH hS hL)
theorem PW.icmp_gt {x y : Int32} {o : Int} {tgt : Nat} {ρ : Type} {A B : Option ρ} {r : Option ρ} (cx : Cx g X own b) (hd : Dj b pc (.if_icmp .gt o) o n tgt) (hf : (if y < x then A else B) = r) (kA : A = r → PW g X ex Q cells slots sh h tgt L st) (kB : B = r → PW g X ex Q cells slots sh h n L st) : PW g X ex Q cells slots sh h pc L (.int y :: .int x :: st) := by
  obtain ⟨hd, rfl, ht⟩ := hd
  exact fun H locs ls hH hS hL => lv_icmp_gt cx.1 cx.2.1 hd ht (fun c0 => kA (by rw [if_pos c0] at hf; exact hf) H locs ls hH hS hL) (fun c0 => kB (by rw [if_neg c0] at hf; exact hf) H locs ls hH hS hL)
theorem PW.if_le {x : Int32} {o : Int} {tgt : Nat} {ρ : Type} {A B : Option ρ} {r : Option ρ} (cx : Cx g X own b) (hd : Dj b pc (.ifCond .le o) o n tgt) (hf : (if x ≤ 0 then A else B) = r) (kA : A = r → PW g X ex Q cells slots sh h tgt L st) (kB : B = r → PW g X ex Q cells slots sh h n L st) : PW g X ex Q cells slots sh h pc L (.int x :: st) := by
  obtain ⟨hd, rfl, ht⟩ := hd
  exact fun H locs ls hH hS hL => lv_if_le cx.1 cx.2.1 hd ht (fun c0 => kA (by rw [if_pos c0] at hf; exact hf) H locs ls hH hS hL) (fun c0 => kB (by rw [if_neg c0] at hf; exact hf) H locs ls hH hS hL)
theorem PW.icmp_le {x y : Int32} {o : Int} {tgt : Nat} {ρ : Type} {A B : Option ρ} {r : Option ρ} (cx : Cx g X own b) (hd : Dj b pc (.if_icmp .le o) o n tgt) (hf : (if x ≤ y then A else B) = r) (kA : A = r → PW g X ex Q cells slots sh h tgt L st) (kB : B = r → PW g X ex Q cells slots sh h n L st) : PW g X ex Q cells slots sh h pc L (.int y :: .int x :: st) := by
  obtain ⟨hd, rfl, ht⟩ := hd
  exact fun H locs ls hH hS hL => lv_icmp_le cx.1 cx.2.1 hd ht (fun c0 => kA (by rw [if_pos c0] at hf; exact hf) H locs ls hH hS hL) (fun c0 => kB (by rw [if_neg c0] at hf; exact hf) H locs ls hH hS hL)
/-! ===== fields ===== -/
def FL (own : String) (idx ci k : Nat) : Prop := ∃ (C : String) (T : u_T) (N : Nat), clX[ci]? = some (C, T, N) ∧ k < N ∧ (T k).1 = C ∧ (Cond.fieldLink own idx C (T k).2.1 (T k).2.2.1 ∈ TG ∨ ∃ host, Cond.fieldLinkNest own idx C (T k).2.1 (T k).2.2.1 host ∈ TG)
theorem HOK.one {k : Nat} {c : Shp} {H : Heap} (P : HOK g ex sh h H) (hk : sh[k]? = some c) : va_P (gD g) clX [(gB g + k, conc g c (h k))] H := by
  intro j q hj
  have h0 : j < 1 := (List.getElem?_eq_some_iff.mp hj).1
  rw [show j = 0 by omega] at hj
  cases hj
  exact P.1 k c hk
theorem PW.getf {a idx ci k : Nat} {ts : List SlT} {t : SlT} {v : Value} (cx : Cx g X own b) (hd : Dx b pc (.getfield idx) 3 n) (hsh : sh[a]? = some (.inl (ci, ts))) (ht : ts[k]? = some t) (hl : FL own idx ci k) (hv : slv g t (h a k) = v) (kk : PW g X ex Q cells slots sh h n L (v :: st)) : PW g X ex Q cells slots sh h pc L (.ref (gB g + a) :: st) := by
  obtain ⟨hd, rfl⟩ := hd
  obtain ⟨C, T, N, hc, hk, hCC, hlink⟩ := hl
  subst hv
  intro H locs ls hH hS hL
  have hP := hH.one hsh
  have hv : (slvs g (h a) 0 ts)[k]? = some (slv g t (h a k)) := by
    have := slvs_get g (h a) ts 0 k t ht
    rwa [Nat.zero_add] at this
  rcases hlink with hlink | ⟨host, hlink⟩
  · exact va_get (ref := C) cx.1 cx.2.1 cx.2.2.2.1 (cls_in ci _ hc) cx.2.2.1 cx.2.2.2.2.1.1 hP 0 rfl hc k hk (cx.2.2.2.1 _ hlink) (by rw [hCC]; exact fun _ h => h) hv hd (kk H locs ls hH hS hL)
  · exact va_getN (ref := C) cx.1 cx.2.1 cx.2.2.2.1 (cls_in ci _ hc) cx.2.2.1 cx.2.2.2.2.1.1 hP 0 rfl hc k hk (cx.2.2.2.1 _ hlink) (by rw [hCC]; exact fun _ h => h) hv hd (kk H locs ls hH hS hL)
/-- a field that may be put: what the tables say of it -/
def FP (own : String) (idx ci k : Nat) (ty : FieldType) : Prop := FL own idx ci k ∧ ∀ (C : String) (T : u_T) (N : Nat), clX[ci]? = some (C, T, N) → (T k).2.2.2 = false ∧ parseFieldDescriptor (T k).2.2.1 = some ty
theorem PW.putfV {a idx ci k : Nat} {ts : List SlT} {t : SlT} {v : Value} {x : Int32} {ty : FieldType} (cx : Cx g X own b) (hd : Dx b pc (.putfield idx) 3 n) (hsh : sh[a]? = some (.inl (ci, ts))) (ht : ts[k]? = some t) (hl : FP own idx ci k ty) (hn : narrow ty v = v) (hfit : fits ty v = true) (hv : slv g t x = v) (kk : PW g X ex Q cells slots sh (up2 h a k x) n L st) : PW g X ex Q cells slots sh h pc L (v :: .ref (gB g + a) :: st) := by
  obtain ⟨hd, rfl⟩ := hd
  obtain ⟨⟨C, T, N, hc, hk, hCC, hlink⟩, hfp⟩ := hl
  obtain ⟨hfin, hdsc⟩ := hfp C T N hc
  subst hv
  intro H locs ls hH hS hL
  obtain ⟨ty0, hty, hnm⟩ := cls_ty ci _ hc
  have hin := cls_in ci _ hc
  have hts := cx.2.2.2.1
  have hK := cx.2.2.2.2.1.1
  have hap := va_apart (own := own) hts hin ty0 hty hnm hK hc
  obtain ⟨r, h1, cell, q1, q2, q3, q4⟩ := hH.1 a _ hsh
  have hr : r = (C, T, N) := Option.some.inj (h1.symm.trans hc)
  subst hr
  obtain ⟨hS', hfc, kC, hkC, hkind⟩ := hK.1 ci _ hc
  obtain ⟨cf, kf, fi, f, hi, hsl⟩ := hS' k hk
  have hlay := hts _ (hin _ (u_in_lay hk))
  unfold u_lay at hlay
  rw [if_neg (by rw [hfin]; decide)] at hlay
  have hst := (u_facts hfc hkC (u_lays hts hin hk) hi).1
  have h6 := u_store hfc hkC hkind hlay hi hdsc hn hfit
  have hi' : X.2.2.2.1.fieldFound? C (T k).2.1 (T k).2.2.1 = some (cf, kf, fi, f) := by rw [← hCC]; exact hi
  have hlen : k < (slvs g (h a) 0 ts).length := by rw [slvs_len]; exact (List.getElem?_eq_some_iff.mp ht).1
  have fin : ∀ (H' : Heap), H'[gB g + a]? = some (cell.setSlot f.slot (slv g t x)) → H'.size = H.size → (∀ q, q ≠ gB g + a → H'[q]? = H[q]?) → WX g X H' (locs ++ [⟨gB g + a, f.slot⟩]) cells slots Q (F0 X.2.2.2.2.1 (pc + 3) ls st) := by
    intro H' e1 e2 e3
    rw [hsl] at e1 ⊢
    refine kk H' _ ls (hH.set hsh ?_ e2 e3) (hS.put e2 e3 (Nat.le_add_right _ _)) hL
    refine ⟨_, hc, ?_⟩
    have e9 : slvs g (upd (h a) k x) 0 ts = (slvs g (h a) 0 ts).set k (slv g t x) := by
      have := slvs_upd g (h a) x ts 0 k t ht
      rwa [Nat.zero_add] at this
    show t_OB (gB g + a) ((gD g).1 ci) N ((gD g).2 ci) H' (vp_V (slvs g (upd (h a) k x) 0 ts))
    rw [e9]
    exact t_OB.to (V := updV (vp_V (slvs g (h a) 0 ts)) k (slv g t x)) ⟨_, e1, q2, q3, t_set q4 hap hk (slv g t x)⟩ (fun j _ => vp_updV_set hlen (slv g t x) j)
  rcases hlink with hlink | ⟨host, hlink⟩
  · exact W.putK cx.1 cx.2.1 (f := f) ⟨cx.2.2.1, hts _ hlink, ⟨_, _, _, hi'⟩, hst⟩ (by rw [q2]; exact h6) q1 q3 (by rw [hsl]; exact k2_hasslot (q4 k hk)) rfl rfl hd fin
  · exact va_WputK cx.1 cx.2.1 (f := f) cx.2.2.1 (hts _ hlink) hi' hst (by rw [q2]; exact h6) q1 q3 (by rw [hsl]; exact k2_hasslot (q4 k hk)) rfl rfl hd fin
theorem PW.puti {a idx ci k : Nat} {ts : List SlT} {x : Int32} {j : Nat} (cx : Cx g X own b) (hd : Dx b pc (.putfield idx) 3 n) (hsh : sh[a]? = some (.inl (ci, ts))) (ht : ts[k]? = some (0, j)) (hl : FP own idx ci k .int) (kk : PW g X ex Q cells slots sh (up2 h a k x) n L st) : PW g X ex Q cells slots sh h pc L (.int x :: .ref (gB g + a) :: st) :=
  PW.putfV cx hd hsh ht hl rfl rfl rfl kk
/-! ===== arrays ===== -/
def rdO (N : Nat) (f : Nat → Int32) (i : Int32) : Option Int32 := if i < 0 ∨ N ≤ i.toNatClampNeg then none else some (f i.toNatClampNeg)
def wrO (h : Hp) (k N : Nat) (i x : Int32) : Option Hp := if i < 0 ∨ N ≤ i.toNatClampNeg then none else some (up2 h k i.toNatClampNeg x)
theorem PW.iald {a N : Nat} {i : Int32} {ρ : Type} {F : Int32 → Option ρ} {r : Option ρ} (cx : Cx g X own b) (hd : Dx b pc .iaload 1 n) (hsh : sh[a]? = some (.inr (0, N, []))) (hf : (rdO N (h a) i).bind F = r) (hr : r ≠ none) (k : ∀ z : Int32, F z = r → PW g X ex Q cells slots sh h n L (.int z :: st)) : PW g X ex Q cells slots sh h pc L (.int i :: .ref (gB g + a) :: st) := by
  obtain ⟨hd, rfl⟩ := hd
  by_cases hy : i < 0 ∨ N ≤ i.toNatClampNeg
  · simp [rdO, hy] at hf
    exact absurd hf.symm hr
  · simp only [rdO, if_neg hy, Option.bind_some] at hf
    exact fun H locs ls hH hS hL => va_iald cx.1 cx.2.1 cx.2.2.2.2.1.1 (hH.one hsh) 0 0 rfl rfl hy hd (k _ hf H locs ls hH hS hL)
theorem PW.bald {a N : Nat} {i : Int32} {ρ : Type} {F : Int32 → Option ρ} {r : Option ρ} (cx : Cx g X own b) (hd : Dx b pc .baload 1 n) (hsh : sh[a]? = some (.inr (1, N, []))) (hf : (rdO N (h a) i).bind F = r) (hr : r ≠ none) (k : ∀ z : Int32, F z = r → PW g X ex Q cells slots sh h n L (.int z :: st)) : PW g X ex Q cells slots sh h pc L (.int i :: .ref (gB g + a) :: st) := by
  obtain ⟨hd, rfl⟩ := hd
  by_cases hy : i < 0 ∨ N ≤ i.toNatClampNeg
  · simp [rdO, hy] at hf
    exact absurd hf.symm hr
  · simp only [rdO, if_neg hy, Option.bind_some] at hf
    exact fun H locs ls hH hS hL => va_bald cx.1 cx.2.1 cx.2.2.2.2.1.1 (hH.one hsh) 0 1 rfl rfl hy hd (k _ hf H locs ls hH hS hL)
theorem PW.cald {a N : Nat} {i : Int32} {ρ : Type} {F : Int32 → Option ρ} {r : Option ρ} (cx : Cx g X own b) (hd : Dx b pc .caload 1 n) (hsh : sh[a]? = some (.inr (2, N, []))) (hf : (rdO N (h a) i).bind F = r) (hr : r ≠ none) (k : ∀ z : Int32, F z = r → PW g X ex Q cells slots sh h n L (.int z :: st)) : PW g X ex Q cells slots sh h pc L (.int i :: .ref (gB g + a) :: st) := by
  obtain ⟨hd, rfl⟩ := hd
  by_cases hy : i < 0 ∨ N ≤ i.toNatClampNeg
  · simp [rdO, hy] at hf
    exact absurd hf.symm hr
  · simp only [rdO, if_neg hy, Option.bind_some] at hf
    exact fun H locs ls hH hS hL => va_cald cx.1 cx.2.1 cx.2.2.2.2.1.1 (hH.one hsh) 0 2 rfl rfl hy hd (k _ hf H locs ls hH hS hL)
theorem PW.iast {a N : Nat} {i x : Int32} {ρ : Type} {F : Hp → Option ρ} {r : Option ρ} (cx : Cx g X own b) (hd : Dx b pc .iastore 1 n) (hsh : sh[a]? = some (.inr (0, N, []))) (hf : (wrO h a N i x).bind F = r) (hr : r ≠ none) (k : ∀ h' : Hp, F h' = r → PW g X ex Q cells slots sh h' n L st) : PW g X ex Q cells slots sh h pc L (.int x :: .int i :: .ref (gB g + a) :: st) := by
  obtain ⟨hd, rfl⟩ := hd
  by_cases hy : i < 0 ∨ N ≤ i.toNatClampNeg
  · simp [wrO, hy] at hf
    exact absurd hf.symm hr
  · simp only [wrO, if_neg hy, Option.bind_some] at hf
    intro H locs ls hH hS hL
    have hP := hH.one hsh
    refine W.iast cx.1 cx.2.1 (hP 0 _ rfl) ((cx.2.2.2.2.1.1.2 0 _ rfl).1 N (fun j => .int (h a j))) (fun q => by cases q) (by show ¬ (i < 0 ∨ (arrV _ _ _).slots.size ≤ _); rw [arrV_size]; exact hy) rfl rfl hd fun H1 e z oq => ?_
    refine k _ hf H1 _ ls (hH.set hsh ?_ z oq) (hS.put z oq (Nat.le_add_right _ _)) hL
    show H1[gB g + a]? = some (vp_cell _ _)
    rw [e]
    show some ((vp_cell (gc g 0) (N, .inl (h a))).setSlot _ _) = some (vp_cell (gc g 0) (N, .inl (upd (h a) i.toNatClampNeg x)))
    rw [vp_cell_i, vp_cell_i, arrV_store]
    congr 2
    funext q
    by_cases hq : q = i.toNatClampNeg
    · subst hq
      simp [updV, upd]
    · simp [updV, upd, hq]
end PWrows
end
section
/-! ===== contracts, calls, ends ===== -/
def PcG (g : GT) (ex : Bool) (sh : List Shp) (h : Hp) (As : List Value) : Array Value → State → Prop := va_Pc As (fun U => GS g U ∧ HOK g ex sh h U.heap ∧ gB g ≤ U.heap.size)
def QcG (g : GT) (ex : Bool) (post : Option Value → List Shp → Hp → Prop) : Array Value → State → Outcome → State → Prop := fun _ st o t => (∃ (v : Option Value) (sh : List Shp) (h : Hp), o = .returned v ∧ post v sh h ∧ HOK g ex sh h t.heap) ∧ va_F (gA g) st t
def Ct (g : GT) (y : MT) (d mc ms : Nat) (ex : Bool) (As : List Value) (sh : List Shp) (h : Hp) (post : Option Value → List Shp → Hp → Prop) : Prop :=
  Met g.1 y.1 (wsM y) (rmd d mc ms) (PcG g ex sh h As) (QcG g ex post) mc ms (gA g)
/-- the end: this outcome, this world -/
def PE (o : Option Value) (sh : List Shp) (h : Hp) : Option Value → List Shp → Hp → Prop := fun o' sh' h' => o' = o ∧ sh' = sh ∧ h' = h
def QE (g : GT) (X : XT) (ex : Bool) (post : Option Value → List Shp → Hp → Prop) (mc ms : Nat) : State → Prop := MQ X.2.2.2.2.2.2.1 (QcG g ex post) X.2.2.2.2.2.1 X.2.2.2.1 mc ms (gA g)
/-- what a walk has of its method: its room, its number of locals, its type -/
def Mx (g : GT) (X : XT) (y : MT) (d mc ms : Nat) : Prop := Cx g X y.1.cls y.2.1 ∧ X.2.2.1 = rmd d mc ms ∧ X.2.2.2.2.2.2.2.2.maxLocals = y.2.2.1 ∧ X.2.2.2.2.2.2.2.1.sig.returnType = y.2.2.2 ∧ X.2.2.2.2.2.2.2.1.name = y.1.name
theorem PcG.blind {g : GT} {ex : Bool} {sh : List Shp} {h : Hp} {As : List Value} : FrameBlind (PcG g ex sh h As) := fun _ _ _ _ q => ⟨q.1, q.2.1.calling, q.2.2.1, q.2.2.2⟩
theorem lass_lk : ∀ (As : List Value) (k i : Nat) (v : Value), (∀ w ∈ As, w.category = 1) → lk (As.map some ++ List.replicate k none) i = some v → ∀ j, (j + i, v) ∈ lv_args j As
  | [], k, i, v, _, h, j => by
    exfalso
    have : ∀ (k i : Nat), lk (List.replicate k (none : Option Value)) i = none := by
      intro k
      induction k with
      | zero => intro i; simp [lk]
      | succ k ih =>
        intro i
        rw [List.replicate_succ]
        cases i with
        | zero => rfl
        | succ i => exact ih i
    simp [this] at h
  | a :: As, k, 0, v, hc, h, j => by
    simp only [List.map_cons, List.cons_append, lk] at h
    cases h
    exact List.mem_cons_self
  | a :: As, k, i + 1, v, hc, h, j => by
    simp only [List.map_cons, List.cons_append, lk] at h
    have := lass_lk As k i v (fun w hw => hc w (List.mem_cons_of_mem _ hw)) h (j + 1)
    have e1 : a.category = 1 := hc a List.mem_cons_self
    show (j + (i + 1), v) ∈ (j, a) :: lv_args (if a.category = 2 then j + 2 else j + 1) As
    rw [e1, if_neg (by decide)]
    refine List.mem_cons_of_mem _ ?_
    rwa [show j + (i + 1) = j + 1 + i by omega]
theorem lg_sl_len : ∀ (As : List Value), (∀ w ∈ As, w.category = 1) → (lg_sl As).length = As.length
  | [], _ => rfl
  | a :: As, hc => by
    have e1 : a.category = 1 := hc a List.mem_cons_self
    have := lg_sl_len As (fun w hw => hc w (List.mem_cons_of_mem _ hw))
    simp only [lg_sl] at this
    simp [lg_sl, e1, this]
theorem Ct.of {g : GT} {y : MT} {d mc ms : Nat} {ex : Bool} {As : List Value} {sh : List Shp} {h : Hp} {post : Option Value → List Shp → Hp → Prop} {L : List (Option Value)} (hy : plainName y.1.cls = true) (hc : ∀ w ∈ As, w.category = 1) (hn : As.length ≤ y.2.2.1) (hL : As.map some ++ List.replicate (y.2.2.1 - As.length) none = L)
    (body : ∀ X : XT, Mx g X y d mc ms → PW g X ex (QE g X ex post mc ms) 0 0 sh h 0 L []) : Ct g y d mc ms ex As sh h post := by
  refine Met.ofW (cc := y.2.1) (maxL := y.2.2.1) (ret := y.2.2.2) (ws' := TG) hy rfl ?_
  intro p e s m args below meth c s₁ B hml hv
  obtain ⟨rfl, hG, hH, hB⟩ := hv
  have hts := atoms_spec (ws := wsM y) B.pre
  have hown : s.vm.findClass y.1.cls = some m.cls := findClass_of_methodNamed B.named
  rw [lg_entry_eq]
  have hlen : (lg_sl As).length ≤ y.2.2.1 := by rw [lg_sl_len As hc]; exact hn
  have hl := lv_entry As (n := y.2.2.1) hlen
  rw [← hL] at body
  exact body (p, e, _, s, m, As.toArray, below, meth, c) ⟨⟨B.exec, B.bytes, hown, fun w hw => hts w (List.mem_cons_of_mem _ hw), hG, B.notSynchronized, hB⟩, rfl, hml, B.returns, (name_of_methodNamed B.named B.method).1⟩ s.heap [] _ hH va_S.rf (by
    show LV _ c.maxLocals _
    rw [hml]
    exact LV.of hl (fun i v hi => by
      have := lass_lk As _ i v hc hi 0
      rwa [Nat.zero_add] at this))
/-- what the tables say of a method that is called, with n arguments -/
def MI (y : MT) (n : Nat) : Prop := Cond.code y.1 y.2.1 y.2.2.1 y.2.2.2 ∈ TG ∧ Cond.initialized y.1.cls ∈ TG ∧ (y.1.cls ≠ "java/lang/invoke/MethodHandle" ∧ y.1.cls ≠ "java/lang/invoke/VarHandle") ∧ (parseMethodDescriptor y.1.desc).map (fun d => d.parameters.length) = some n
def MV (y : MT) (n : Nat) : Prop := MI y n ∧ Cond.instanceMethod y.1 ∈ TG ∧ Cond.selects y.1.cls y.1 y.1 ∈ TG
def MSt (y : MT) (n : Nat) : Prop := MI y n ∧ Cond.static y.1 ∈ TG
def KL (own : String) (idx : Nat) (y : MT) : Prop := Cond.methodLink own idx y.1 ∈ TG ∨ ∃ host, Cond.methodLinkNest own idx y.1 host ∈ TG
section Calls
variable {g : GT} {X : XT} {own : String} {b : ByteArray} {ex : Bool} {Q : State → Prop} {cells slots : Nat} {sh : List Shp} {h : Hp} {pc n : Nat} {L : List (Option Value)} {st : List Value}
theorem wsM_at {y : MT} {ma : Array Value} {s : State} (hts : ∀ w ∈ TG, w.before ma s = true) (hy : Cond.code y.1 y.2.1 y.2.2.1 y.2.2.2 ∈ TG) : ∀ w ∈ wsM y, ∀ (a' : Array Value) (U : State), s.WarmedH U.vm → w.before a' U = true := by
  intro w hw a' U hW
  obtain ⟨hm, hg⟩ := goodM (Ts := TG) (fun _ h => h) hy w hw
  exact word_at hW hg (hts w hm)
/-- behind a call -/
theorem PW.after {post : Option Value → List Shp → Hp → Prop} {mc ms : Nat} {H : Heap} {locs : List Loc} {ls : Array Slot} {st0 : List Value} {a : Array Value}
    (hr : va_Run X.1 g.1 X.2.1 X.2.2.1 X.2.2.2.1 X.2.2.2.2.1 X.2.2.2.2.2.1 X.2.2.2.2.2.2.1 X.2.2.2.2.2.2.2.1 X.2.2.2.2.2.2.2.2 H locs cells slots mc ms (F0 X.2.2.2.2.1 pc ls st0) st (QcG g ex post a) (gA g)) (hS : va_S (gA g) X.2.2.2.1.heap H locs) (hL : LV ls X.2.2.2.2.2.2.2.2.maxLocals L)
    (k : ∀ (o : Option Value) (sh1 : List Shp) (h1 : Hp), post o sh1 h1 → PW g X ex Q (cells + mc) (slots + ms) sh1 h1 (pc + 3) L (o.toList ++ st)) : WX g X H locs cells slots Q (F0 X.2.2.2.2.1 pc ls st0) := by
  intro T hT Xs
  obtain ⟨v, st₀, t, T', L9, h0, X', hL9, e1, e2, ⟨⟨o, sh1, h1, hv, hp, hH1⟩, hz, hk⟩, stp⟩ := hr T hT Xs
  cases hv
  rw [h0] at hz hk
  obtain ⟨t2, a1, b1⟩ := k v sh1 h1 hp T'.heap (locs ++ L9) ls (by rw [e1]; exact hH1)
    ⟨Nat.le_trans hS.1 (by rw [e1]; exact hz), fun q g1 g2 => by rw [e1, hk q (Nat.lt_of_lt_of_le g1 hS.1) g2]; exact hS.2.1 q g1 g2, fun q hq => by
      rcases List.mem_append.mp hq with h | h
      · exact hS.2.2 q h
      · exact hL9 q h⟩ hL T' rfl X'
  exact ⟨t2, stp t2 a1, b1⟩
theorem PcG.at {As : List Value} {H : Heap} {locs : List Loc} (cx : Cx g X own b) (hH : HOK g ex sh h H) (hS : va_S (gA g) X.2.2.2.1.heap H locs) : ∀ U : State, U.heap = H → X.2.2.2.1.WarmedH U.vm → PcG g ex sh h As As.toArray U :=
  fun U hU hW => ⟨rfl, GS.call cx.2.2.2.2.1 cx.2.2.2.2.2.2 hS hU hW, by rw [hU]; exact hH, by rw [hU]; exact Nat.le_trans cx.2.2.2.2.2.2 hS.1⟩
/-- o.m(..), private or public, of the own class or of a nest mate; the receiver lies in the world -/
theorem PW.callV {D MC MS : Nat} {y : MT} {d mc ms nA idx a ci : Nat} {ts : List SlT} {q : vw_C} {As st0 : List Value} {post : Option Value → List Shp → Hp → Prop}
    (cx : Cx g X own b) (hR : X.2.2.1 = rmd D MC MS) (hd : Dx b pc (.invokevirtual idx) 3 n) (hl : KL own idx y) (hm : MV y nA) (hsh : sh[a]? = some (.inl (ci, ts))) (hq : clX[ci]? = some q) (hqc : q.1 = y.1.cls) (hnA : As.length = nA)
    (hst0 : st0 = As.reverse ++ .ref (gB g + a) :: st) (hcat : (st.map fun v => v.category).sum ≤ 8) (hD : d + 1 ≤ D) (hloc : 8 + (y.2.2.1 + 11) + 40 * d ≤ 40 * D) (hmc : cells + mc ≤ MC) (hms : slots + ms ≤ MS)
    (hC : Ct g y d mc ms ex (.ref (gB g + a) :: As) sh h post) (k : ∀ (o : Option Value) (sh1 : List Shp) (h1 : Hp), post o sh1 h1 → PW g X ex Q (cells + mc) (slots + ms) sh1 h1 n L (o.toList ++ st)) : PW g X ex Q cells slots sh h pc L st0 := by
  obtain ⟨hd, rfl⟩ := hd
  subst hst0
  obtain ⟨⟨hcode, hini, hy, hpar⟩, hinst, hsel⟩ := hm
  intro H locs ls hH hS hL
  have hts := cx.2.2.2.1
  have hmeth : ∃ cell : Cell, H[gB g + a]? = some cell ∧ cell.vm.isStatics = false ∧ X.2.2.2.1.vm.findClass y.1.cls = some cell.cls := by
    rw [← hqc]
    exact va_recv cx.2.2.2.2.1.1 (hH.one hsh) (ci := ci) (q0 := 0) hq rfl
  have hcb : rmd d mc ms = rmd d mc ms := rfl
  have hlen : ∀ sig, parseMethodDescriptor y.1.desc = some sig → nA = sig.parameters.length := by
    intro sig hs
    rw [hs] at hpar
    exact (Option.some.inj hpar).symm
  have hpre : PreV X.2.2.2.1 H y.1.cls (gB g + a) (PcG g ex sh h (.ref (gB g + a) :: As)) As := ⟨PcG.blind, hmeth, PcG.at cx hH hS⟩
  have hRR : (rmd d mc ms).frames + 1 ≤ X.2.2.1.frames ∧ 8 + (y.2.2.1 + 11) + (rmd d mc ms).locals ≤ X.2.2.1.locals := by rw [hR]; exact ⟨hD, hloc⟩
  have hff : cells + mc ≤ X.2.2.1.cells ∧ slots + ms ≤ X.2.2.1.slots := by rw [hR]; exact ⟨hmc, hms⟩
  rcases hl with hl | ⟨host, hl⟩
  · exact PW.after (va_runV (C := y.1.cls) (Ts := TG) (n := nA) ⟨cx.1, cx.2.1, rfl, cx.2.2.1, hts⟩ hC ⟨⟨rfl, rfl, hRR.1, hRR.2, wsM_at hts hcode, List.mem_cons_self, hts _ hcode, hts _ hini, hy, hlen, hts _ hl⟩, hts _ hinst, hts _ hsel⟩ hpre rfl hnA hL.1 rfl (lv_room hcat) hd hff) hS hL k
  · exact PW.after (va_runVN (C := y.1.cls) (Ts := TG) (n := nA) ⟨cx.1, cx.2.1, rfl, cx.2.2.1, hts⟩ hC ⟨⟨⟨rfl, rfl, hRR.1, hRR.2, wsM_at hts hcode, List.mem_cons_self⟩, hts _ hcode, hts _ hini, hy, hlen, hts _ hl⟩, hts _ hinst, hts _ hsel⟩ hpre rfl hnA hL.1 rfl (lv_room hcat) hd hff) hS hL k
theorem PW.callS {D MC MS : Nat} {y : MT} {d mc ms nA idx : Nat} {As st0 : List Value} {post : Option Value → List Shp → Hp → Prop}
    (cx : Cx g X own b) (hR : X.2.2.1 = rmd D MC MS) (hd : Dx b pc (.invokestatic idx) 3 n) (hl : KL own idx y) (hm : MSt y nA) (hnA : As.length = nA)
    (hst0 : st0 = As.reverse ++ st) (hcat : (st.map fun v => v.category).sum ≤ 8) (hD : d + 1 ≤ D) (hloc : 8 + (y.2.2.1 + 11) + 40 * d ≤ 40 * D) (hmc : cells + mc ≤ MC) (hms : slots + ms ≤ MS)
    (hC : Ct g y d mc ms ex As sh h post) (k : ∀ (o : Option Value) (sh1 : List Shp) (h1 : Hp), post o sh1 h1 → PW g X ex Q (cells + mc) (slots + ms) sh1 h1 n L (o.toList ++ st)) : PW g X ex Q cells slots sh h pc L st0 := by
  obtain ⟨hd, rfl⟩ := hd
  subst hst0
  obtain ⟨⟨hcode, hini, hy, hpar⟩, hstat⟩ := hm
  intro H locs ls hH hS hL
  have hts := cx.2.2.2.1
  have hlen : ∀ sig, parseMethodDescriptor y.1.desc = some sig → nA = sig.parameters.length := by
    intro sig hs
    rw [hs] at hpar
    exact (Option.some.inj hpar).symm
  have hpre : PreS X.2.2.2.1 H (PcG g ex sh h As) As := ⟨PcG.blind, PcG.at cx hH hS⟩
  have hRR : (rmd d mc ms).frames + 1 ≤ X.2.2.1.frames ∧ 8 + (y.2.2.1 + 11) + (rmd d mc ms).locals ≤ X.2.2.1.locals := by rw [hR]; exact ⟨hD, hloc⟩
  have hff : cells + mc ≤ X.2.2.1.cells ∧ slots + ms ≤ X.2.2.1.slots := by rw [hR]; exact ⟨hmc, hms⟩
  rcases hl with hl | ⟨host, hl⟩
  · exact PW.after (va_runS (Ts := TG) (n := nA) ⟨cx.1, cx.2.1, rfl, cx.2.2.1, hts⟩ hC ⟨⟨rfl, rfl, hRR.1, hRR.2, wsM_at hts hcode, List.mem_cons_self, hts _ hcode, hts _ hini, hy, hlen, hts _ hl⟩, hts _ hstat⟩ hpre rfl hnA hL.1 rfl (lv_room hcat) hd hff) hS hL k
  · exact PW.after (va_runSN (Ts := TG) (n := nA) ⟨cx.1, cx.2.1, rfl, cx.2.2.1, hts⟩ hC ⟨⟨⟨rfl, rfl, hRR.1, hRR.2, wsM_at hts hcode, List.mem_cons_self⟩, hts _ hcode, hts _ hini, hy, hlen, hts _ hl⟩, hts _ hstat, trivial⟩ hpre rfl hnA hL.1 rfl (lv_room hcat) hd hff) hS hL k
theorem QcG.ret {o : Option Value} {post : Option Value → List Shp → Hp → Prop} {H : Heap} {locs : List Loc} {a : Array Value} (hp : post o sh h) (hH : HOK g ex sh h H) (hS : va_S (gA g) X.2.2.2.1.heap H locs) : ∀ t : State, t.heap = H → X.2.2.2.1.WarmedH t.vm → QcG g ex post a X.2.2.2.1 (.returned o) t :=
  fun t ht _ => ⟨⟨o, sh, h, rfl, hp, by rw [ht]; exact hH⟩, hS.F ht⟩
theorem PW.iret {post : Option Value → List Shp → Hp → Prop} {v : Int32} (cx : Cx g X own b) (hr : X.2.2.2.2.2.2.2.1.sig.returnType = some .int) (hd : Dx b pc .ireturn 1 n) (hp : post (some (.int v)) sh h) : PW g X ex (QE g X ex post cells slots) cells slots sh h pc L [.int v] :=
  fun H locs ls hH hS hL => W.iret cx.1 cx.2.1 hr (QcG.ret hp hH hS) hS.2.2 hd.1 (hlocks := cx.2.2.2.2.2.1)
theorem PW.zret {post : Option Value → List Shp → Hp → Prop} {v : Int32} {ty : FieldType} (cx : Cx g X own b) (hr : X.2.2.2.2.2.2.2.1.sig.returnType = some ty) (hn : narrow ty (.int v) = .int v) (hd : Dx b pc .ireturn 1 n) (hp : post (some (.int v)) sh h) : PW g X ex (QE g X ex post cells slots) cells slots sh h pc L [.int v] :=
  fun H locs ls hH hS hL => W.zret cx.1 cx.2.1 hr hn (QcG.ret hp hH hS) hS.2.2 hd.1 (hlocks := cx.2.2.2.2.2.1)
theorem PW.vret {post : Option Value → List Shp → Hp → Prop} (cx : Cx g X own b) (hr : X.2.2.2.2.2.2.2.1.sig.returnType = none) (hd : Dx b pc .return_ 1 n) (hp : post none sh h) : PW g X ex (QE g X ex post cells slots) cells slots sh h pc L [] :=
  fun H locs ls hH hS hL => W.vret cx.1 cx.2.1 hr (QcG.ret hp hH hS) hS.2.2 hd.1 (hlocks := cx.2.2.2.2.2.1)
theorem PW.aret {post : Option Value → List Shp → Hp → Prop} {a : Nat} {C : String} (cx : Cx g X own b) (hr : X.2.2.2.2.2.2.2.1.sig.returnType = some (.object C)) (hd : Dx b pc .areturn 1 n) (hp : post (some (.ref a)) sh h) : PW g X ex (QE g X ex post cells slots) cells slots sh h pc L [.ref a] :=
  fun H locs ls hH hS hL => W.aret cx.1 cx.2.1 hr (Or.inl ⟨_, rfl⟩) (Or.inr ⟨_, rfl⟩) (QcG.ret hp hH hS) hS.2.2 hd.1 (hlocks := cx.2.2.2.2.2.1)
theorem PW.aretN {post : Option Value → List Shp → Hp → Prop} {C : String} (cx : Cx g X own b) (hr : X.2.2.2.2.2.2.2.1.sig.returnType = some (.object C)) (hd : Dx b pc .areturn 1 n) (hp : post (some .null) sh h) : PW g X ex (QE g X ex post cells slots) cells slots sh h pc L [.null] :=
  fun H locs ls hH hS hL => W.aret cx.1 cx.2.1 hr (Or.inl ⟨_, rfl⟩) (Or.inl rfl) (QcG.ret hp hH hS) hS.2.2 hd.1 (hlocks := cx.2.2.2.2.2.1)
theorem PW.fret {post : Option Value → List Shp → Hp → Prop} {v : UInt32} (cx : Cx g X own b) (hr : X.2.2.2.2.2.2.2.1.sig.returnType = some .float) (hd : Dx b pc .freturn 1 n) (hp : post (some (.float v)) sh h) : PW g X ex (QE g X ex post cells slots) cells slots sh h pc L [.float v] :=
  fun H locs ls hH hS hL => W.fret cx.1 cx.2.1 hr (QcG.ret hp hH hS) hS.2.2 hd.1 (hlocks := cx.2.2.2.2.2.1)
theorem PW.dret {post : Option Value → List Shp → Hp → Prop} {v : UInt64} (cx : Cx g X own b) (hr : X.2.2.2.2.2.2.2.1.sig.returnType = some .double) (hd : Dx b pc .dreturn 1 n) (hp : post (some (.double v)) sh h) : PW g X ex (QE g X ex post cells slots) cells slots sh h pc L [.double v] :=
  fun H locs ls hH hS hL => W.dret cx.1 cx.2.1 hr (QcG.ret hp hH hS) hS.2.2 hd.1 (hlocks := cx.2.2.2.2.2.1)
end Calls
end
section
/-! ===== shapes of the two objects' worlds; rows of the walk that carry a function's value along ===== -/
def b2i (x : Bool) : Int32 := match x with
  | true => 1
  | false => 0
def nm {α β : Type} (x : α) (F : α → β) : β := F x
def lt {α β : Type} (x : α) (F : α → β) : β := F x
theorem lt_split {α β : Type} {x : α} {F : α → β} {r : β} (h : lt x F = r) : ∃ j : α, j = x ∧ F j = r := ⟨x, rfl, h⟩
theorem bndO {α β : Type} {x : Option α} {F : α → Option β} {r : Option β} (h : x.bind F = r) (hr : r ≠ none) : ∃ v, x = some v ∧ F v = r := by
  cases x with
  | none => exact absurd h.symm hr
  | some v => exact ⟨v, rfl, h⟩
theorem sne {α : Type} {x : α} : some x ≠ none := fun h => by cases h
def bcase {α : Type} (e : Bool) (A B : α) : α := match e with
  | true => A
  | false => B
def FU : Nat := 1000003
def mxI (x y : Int32) : Int32 := if x < y then y else x
def mnI (x y : Int32) : Int32 := if y < x then y else x
def abI (x : Int32) : Int32 := if 0 ≤ x then x else 0 - x
def i2cI (x : Int32) : Int32 := (x.toUInt32 % 65536).toInt32
def Lsub (a b : List (Option Value)) : Prop := ∀ (i : Nat) (v : Value), lk a i = some v → lk b i = some v
theorem Lsub.nil {b : List (Option Value)} : Lsub [] b := fun i v h => by simp [lk] at h
theorem Lsub.keep {x : Option Value} {a b : List (Option Value)} (h : Lsub a b) : Lsub (x :: a) (x :: b) := fun i v hv => by
  cases i with
  | zero => exact hv
  | succ i => exact h i v hv
theorem Lsub.drop {x : Option Value} {a b : List (Option Value)} (h : Lsub a b) : Lsub (none :: a) (x :: b) := fun i v hv => by
  cases i with
  | zero => simp [lk] at hv
  | succ i => exact h i v hv
theorem nb0 : narrow .boolean (.int 0) = .int 0 := by decide
theorem nb1 : narrow .boolean (.int 1) = .int 1 := by decide
theorem nbb (x : Bool) : narrow .boolean (.int (b2i x)) = .int (b2i x) := by cases x <;> decide

theorem le_ri {sh : List Shp} {h : Hp} {v r0 : Int32} (hf : some v = some r0) : PE (some (.int r0)) sh h (some (.int v)) sh h := by cases hf; exact ⟨rfl, rfl, rfl⟩
theorem le_wi {sh : List Shp} {v : Int32} {h1 : Hp} {r0 : Int32 × Hp} (hf : some (v, h1) = some r0) : PE (some (.int r0.1)) sh r0.2 (some (.int v)) sh h1 := by cases hf; exact ⟨rfl, rfl, rfl⟩
theorem le_rz {sh : List Shp} {h : Hp} {v r0 : Bool} (hf : some v = some r0) : PE (some (.int (b2i r0))) sh h (some (.int (b2i v))) sh h := by cases hf; exact ⟨rfl, rfl, rfl⟩
theorem le_wz {sh : List Shp} {v : Bool} {h1 : Hp} {r0 : Bool × Hp} (hf : some (v, h1) = some r0) : PE (some (.int (b2i r0.1))) sh r0.2 (some (.int (b2i v))) sh h1 := by cases hf; exact ⟨rfl, rfl, rfl⟩
theorem le_rd {sh : List Shp} {h : Hp} {v r0 : UInt64} (hf : some v = some r0) : PE (some (.double r0)) sh h (some (.double v)) sh h := by cases hf; exact ⟨rfl, rfl, rfl⟩
theorem le_wd {sh : List Shp} {v : UInt64} {h1 : Hp} {r0 : UInt64 × Hp} (hf : some (v, h1) = some r0) : PE (some (.double r0.1)) sh r0.2 (some (.double v)) sh h1 := by cases hf; exact ⟨rfl, rfl, rfl⟩
theorem le_rf {sh : List Shp} {h : Hp} {v r0 : UInt32} (hf : some v = some r0) : PE (some (.float r0)) sh h (some (.float v)) sh h := by cases hf; exact ⟨rfl, rfl, rfl⟩
theorem le_wf {sh : List Shp} {v : UInt32} {h1 : Hp} {r0 : UInt32 × Hp} (hf : some (v, h1) = some r0) : PE (some (.float r0.1)) sh r0.2 (some (.float v)) sh h1 := by cases hf; exact ⟨rfl, rfl, rfl⟩
theorem le_rt {g : GT} {sh : List Shp} {h : Hp} {v r0 : Int32} (hf : some v = some r0) : PE (some (.ref (ga g (r0 : Int32).toNatClampNeg))) sh h (some (.ref (ga g (v : Int32).toNatClampNeg))) sh h := by cases hf; exact ⟨rfl, rfl, rfl⟩
theorem le_wt {g : GT} {sh : List Shp} {v : Int32} {h1 : Hp} {r0 : Int32 × Hp} (hf : some (v, h1) = some r0) : PE (some (.ref (ga g (r0.1 : Int32).toNatClampNeg))) sh r0.2 (some (.ref (ga g (v : Int32).toNatClampNeg))) sh h1 := by cases hf; exact ⟨rfl, rfl, rfl⟩
theorem le_wv {sh : List Shp} {h1 r0 : Hp} (hf : some h1 = some r0) : PE none sh r0 none sh h1 := by cases hf; exact ⟨rfl, rfl, rfl⟩
theorem le_rv {sh : List Shp} {h : Hp} {r0 : Unit} (_ : some () = some r0) : PE none sh h none sh h := ⟨rfl, rfl, rfl⟩

def shA (a : Nat) : Shp := .inl (0, [(0, 0), (0, 0), (0, 0), (0, 0), (0, 0), (0, 0), (2, a + 1), (2, a + 2), (2, a + 3), (2, a + 4), (2, a + 5), (2, a + 6), (0, 0), (2, a + 7), (2, a + 8), (0, 0), (2, a + 9), (2, a + 10)])
def AS (sh : List Shp) (a : Nat) : Prop := sh[a]? = some (shA a) ∧ sh[a + 1]? = some (.inr (0, 12, [])) ∧ sh[a + 2]? = some (.inr (0, 96, [])) ∧ sh[a + 3]? = some (.inr (0, 12, [])) ∧ sh[a + 4]? = some (.inr (0, 12, [])) ∧ sh[a + 5]? = some (.inr (0, 12, [])) ∧ sh[a + 6]? = some (.inr (0, 12, [])) ∧ sh[a + 7]? = some (.inr (0, 4, [])) ∧ sh[a + 8]? = some (.inr (0, 36, [])) ∧ sh[a + 9]? = some (.inr (0, 5, [])) ∧ sh[a + 10]? = some (.inr (0, 5, []))
theorem AS.r1 {sh : List Shp} {a : Nat} (h : AS sh a) : sh[a + 1]? = some (.inr (0, 12, [])) := h.2.1
theorem AS.r2 {sh : List Shp} {a : Nat} (h : AS sh a) : sh[a + 2]? = some (.inr (0, 96, [])) := h.2.2.1
theorem AS.r3 {sh : List Shp} {a : Nat} (h : AS sh a) : sh[a + 3]? = some (.inr (0, 12, [])) := h.2.2.2.1
theorem AS.r4 {sh : List Shp} {a : Nat} (h : AS sh a) : sh[a + 4]? = some (.inr (0, 12, [])) := h.2.2.2.2.1
theorem AS.r5 {sh : List Shp} {a : Nat} (h : AS sh a) : sh[a + 5]? = some (.inr (0, 12, [])) := h.2.2.2.2.2.1
theorem AS.r6 {sh : List Shp} {a : Nat} (h : AS sh a) : sh[a + 6]? = some (.inr (0, 12, [])) := h.2.2.2.2.2.2.1
theorem AS.r7 {sh : List Shp} {a : Nat} (h : AS sh a) : sh[a + 7]? = some (.inr (0, 4, [])) := h.2.2.2.2.2.2.2.1
theorem AS.r8 {sh : List Shp} {a : Nat} (h : AS sh a) : sh[a + 8]? = some (.inr (0, 36, [])) := h.2.2.2.2.2.2.2.2.1
theorem AS.r9 {sh : List Shp} {a : Nat} (h : AS sh a) : sh[a + 9]? = some (.inr (0, 5, [])) := h.2.2.2.2.2.2.2.2.2.1
theorem AS.r10 {sh : List Shp} {a : Nat} (h : AS sh a) : sh[a + 10]? = some (.inr (0, 5, [])) := h.2.2.2.2.2.2.2.2.2.2
def shX : List Shp := [
  .inl (3, [(2, 1), (2, 12), (2, 23), (1, 0), (2, 34), (0, 0), (0, 0), (2, 35), (2, 51), (0, 0)]),
  shA 1,
  .inr (0, 12, []),
  .inr (0, 96, []),
  .inr (0, 12, []),
  .inr (0, 12, []),
  .inr (0, 12, []),
  .inr (0, 12, []),
  .inr (0, 4, []),
  .inr (0, 36, []),
  .inr (0, 5, []),
  .inr (0, 5, []),
  shA 12,
  .inr (0, 12, []),
  .inr (0, 96, []),
  .inr (0, 12, []),
  .inr (0, 12, []),
  .inr (0, 12, []),
  .inr (0, 12, []),
  .inr (0, 4, []),
  .inr (0, 36, []),
  .inr (0, 5, []),
  .inr (0, 5, []),
  shA 23,
  .inr (0, 12, []),
  .inr (0, 96, []),
  .inr (0, 12, []),
  .inr (0, 12, []),
  .inr (0, 12, []),
  .inr (0, 12, []),
  .inr (0, 4, []),
  .inr (0, 36, []),
  .inr (0, 5, []),
  .inr (0, 5, []),
  .inr (4, 8, [some 52, some 63, some 74, some 85, some 96, some 107, some 118, some 129]),
  .inl (1, [(2, 36), (2, 47), (0, 0), (0, 0), (0, 0), (0, 0), (2, 49), (2, 50), (0, 0), (0, 0), (0, 0)]),
  shA 36,
  .inr (0, 12, []),
  .inr (0, 96, []),
  .inr (0, 12, []),
  .inr (0, 12, []),
  .inr (0, 12, []),
  .inr (0, 12, []),
  .inr (0, 4, []),
  .inr (0, 36, []),
  .inr (0, 5, []),
  .inr (0, 5, []),
  .inl (2, [(2, 48), (0, 0), (0, 0), (3, 0), (0, 0), (0, 0), (1, 0)]),
  .inr (1, 600, []),
  .inr (0, 2, []),
  .inr (0, 2, []),
  .inr (1, 81, []),
  shA 52,
  .inr (0, 12, []),
  .inr (0, 96, []),
  .inr (0, 12, []),
  .inr (0, 12, []),
  .inr (0, 12, []),
  .inr (0, 12, []),
  .inr (0, 4, []),
  .inr (0, 36, []),
  .inr (0, 5, []),
  .inr (0, 5, []),
  shA 63,
  .inr (0, 12, []),
  .inr (0, 96, []),
  .inr (0, 12, []),
  .inr (0, 12, []),
  .inr (0, 12, []),
  .inr (0, 12, []),
  .inr (0, 4, []),
  .inr (0, 36, []),
  .inr (0, 5, []),
  .inr (0, 5, []),
  shA 74,
  .inr (0, 12, []),
  .inr (0, 96, []),
  .inr (0, 12, []),
  .inr (0, 12, []),
  .inr (0, 12, []),
  .inr (0, 12, []),
  .inr (0, 4, []),
  .inr (0, 36, []),
  .inr (0, 5, []),
  .inr (0, 5, []),
  shA 85,
  .inr (0, 12, []),
  .inr (0, 96, []),
  .inr (0, 12, []),
  .inr (0, 12, []),
  .inr (0, 12, []),
  .inr (0, 12, []),
  .inr (0, 4, []),
  .inr (0, 36, []),
  .inr (0, 5, []),
  .inr (0, 5, []),
  shA 96,
  .inr (0, 12, []),
  .inr (0, 96, []),
  .inr (0, 12, []),
  .inr (0, 12, []),
  .inr (0, 12, []),
  .inr (0, 12, []),
  .inr (0, 4, []),
  .inr (0, 36, []),
  .inr (0, 5, []),
  .inr (0, 5, []),
  shA 107,
  .inr (0, 12, []),
  .inr (0, 96, []),
  .inr (0, 12, []),
  .inr (0, 12, []),
  .inr (0, 12, []),
  .inr (0, 12, []),
  .inr (0, 4, []),
  .inr (0, 36, []),
  .inr (0, 5, []),
  .inr (0, 5, []),
  shA 118,
  .inr (0, 12, []),
  .inr (0, 96, []),
  .inr (0, 12, []),
  .inr (0, 12, []),
  .inr (0, 12, []),
  .inr (0, 12, []),
  .inr (0, 4, []),
  .inr (0, 36, []),
  .inr (0, 5, []),
  .inr (0, 5, []),
  shA 129,
  .inr (0, 12, []),
  .inr (0, 96, []),
  .inr (0, 12, []),
  .inr (0, 12, []),
  .inr (0, 12, []),
  .inr (0, 12, []),
  .inr (0, 4, []),
  .inr (0, 36, []),
  .inr (0, 5, []),
  .inr (0, 5, [])]
def shM : List Shp := [
  .inl (4, [(2, 141), (2, 142), (2, 143), (2, 144), (2, 145), (0, 0), (1, 0), (2, 146), (2, 147), (0, 0), (0, 0), (0, 0), (0, 0), (2, 148), (0, 0), (0, 0), (0, 0), (0, 0), (0, 0), (0, 0), (0, 0), (2, 149)]),
  .inr (0, 106, []),
  .inr (0, 106, []),
  .inr (0, 106, []),
  .inr (0, 848, []),
  .inr (0, 106, []),
  .inr (0, 600, []),
  .inr (0, 600, []),
  .inr (2, 90, []),
  .inr (0, 3, [])]
def XSh (sh : List Shp) : Prop := ∀ (k : Nat) (c : Shp), shX[k]? = some c → sh[k]? = some c
def MSh (sh : List Shp) : Prop := ∀ (k : Nat) (c : Shp), shM[k]? = some c → sh[140 + k]? = some c
theorem as_1 {sh : List Shp} (hx : XSh sh) : AS sh 1 := ⟨hx 1 _ rfl, hx 2 _ rfl, hx 3 _ rfl, hx 4 _ rfl, hx 5 _ rfl, hx 6 _ rfl, hx 7 _ rfl, hx 8 _ rfl, hx 9 _ rfl, hx 10 _ rfl, hx 11 _ rfl⟩
theorem as_12 {sh : List Shp} (hx : XSh sh) : AS sh 12 := ⟨hx 12 _ rfl, hx 13 _ rfl, hx 14 _ rfl, hx 15 _ rfl, hx 16 _ rfl, hx 17 _ rfl, hx 18 _ rfl, hx 19 _ rfl, hx 20 _ rfl, hx 21 _ rfl, hx 22 _ rfl⟩
theorem as_23 {sh : List Shp} (hx : XSh sh) : AS sh 23 := ⟨hx 23 _ rfl, hx 24 _ rfl, hx 25 _ rfl, hx 26 _ rfl, hx 27 _ rfl, hx 28 _ rfl, hx 29 _ rfl, hx 30 _ rfl, hx 31 _ rfl, hx 32 _ rfl, hx 33 _ rfl⟩
theorem as_36 {sh : List Shp} (hx : XSh sh) : AS sh 36 := ⟨hx 36 _ rfl, hx 37 _ rfl, hx 38 _ rfl, hx 39 _ rfl, hx 40 _ rfl, hx 41 _ rfl, hx 42 _ rfl, hx 43 _ rfl, hx 44 _ rfl, hx 45 _ rfl, hx 46 _ rfl⟩
theorem as_52 {sh : List Shp} (hx : XSh sh) : AS sh 52 := ⟨hx 52 _ rfl, hx 53 _ rfl, hx 54 _ rfl, hx 55 _ rfl, hx 56 _ rfl, hx 57 _ rfl, hx 58 _ rfl, hx 59 _ rfl, hx 60 _ rfl, hx 61 _ rfl, hx 62 _ rfl⟩
theorem as_63 {sh : List Shp} (hx : XSh sh) : AS sh 63 := ⟨hx 63 _ rfl, hx 64 _ rfl, hx 65 _ rfl, hx 66 _ rfl, hx 67 _ rfl, hx 68 _ rfl, hx 69 _ rfl, hx 70 _ rfl, hx 71 _ rfl, hx 72 _ rfl, hx 73 _ rfl⟩
theorem as_74 {sh : List Shp} (hx : XSh sh) : AS sh 74 := ⟨hx 74 _ rfl, hx 75 _ rfl, hx 76 _ rfl, hx 77 _ rfl, hx 78 _ rfl, hx 79 _ rfl, hx 80 _ rfl, hx 81 _ rfl, hx 82 _ rfl, hx 83 _ rfl, hx 84 _ rfl⟩
theorem as_85 {sh : List Shp} (hx : XSh sh) : AS sh 85 := ⟨hx 85 _ rfl, hx 86 _ rfl, hx 87 _ rfl, hx 88 _ rfl, hx 89 _ rfl, hx 90 _ rfl, hx 91 _ rfl, hx 92 _ rfl, hx 93 _ rfl, hx 94 _ rfl, hx 95 _ rfl⟩
theorem as_96 {sh : List Shp} (hx : XSh sh) : AS sh 96 := ⟨hx 96 _ rfl, hx 97 _ rfl, hx 98 _ rfl, hx 99 _ rfl, hx 100 _ rfl, hx 101 _ rfl, hx 102 _ rfl, hx 103 _ rfl, hx 104 _ rfl, hx 105 _ rfl, hx 106 _ rfl⟩
theorem as_107 {sh : List Shp} (hx : XSh sh) : AS sh 107 := ⟨hx 107 _ rfl, hx 108 _ rfl, hx 109 _ rfl, hx 110 _ rfl, hx 111 _ rfl, hx 112 _ rfl, hx 113 _ rfl, hx 114 _ rfl, hx 115 _ rfl, hx 116 _ rfl, hx 117 _ rfl⟩
theorem as_118 {sh : List Shp} (hx : XSh sh) : AS sh 118 := ⟨hx 118 _ rfl, hx 119 _ rfl, hx 120 _ rfl, hx 121 _ rfl, hx 122 _ rfl, hx 123 _ rfl, hx 124 _ rfl, hx 125 _ rfl, hx 126 _ rfl, hx 127 _ rfl, hx 128 _ rfl⟩
theorem as_129 {sh : List Shp} (hx : XSh sh) : AS sh 129 := ⟨hx 129 _ rfl, hx 130 _ rfl, hx 131 _ rfl, hx 132 _ rfl, hx 133 _ rfl, hx 134 _ rfl, hx 135 _ rfl, hx 136 _ rfl, hx 137 _ rfl, hx 138 _ rfl, hx 139 _ rfl⟩
theorem sh_0 {sh : List Shp} (hx : XSh sh) : sh[0]? = some (.inl (3, [(2, 1), (2, 12), (2, 23), (1, 0), (2, 34), (0, 0), (0, 0), (2, 35), (2, 51), (0, 0)])) := hx 0 _ rfl
theorem sh_34 {sh : List Shp} (hx : XSh sh) : sh[34]? = some (.inr (4, 8, [some 52, some 63, some 74, some 85, some 96, some 107, some 118, some 129])) := hx 34 _ rfl
theorem sh_35 {sh : List Shp} (hx : XSh sh) : sh[35]? = some (.inl (1, [(2, 36), (2, 47), (0, 0), (0, 0), (0, 0), (0, 0), (2, 49), (2, 50), (0, 0), (0, 0), (0, 0)])) := hx 35 _ rfl
theorem sh_47 {sh : List Shp} (hx : XSh sh) : sh[47]? = some (.inl (2, [(2, 48), (0, 0), (0, 0), (3, 0), (0, 0), (0, 0), (1, 0)])) := hx 47 _ rfl
theorem sh_48 {sh : List Shp} (hx : XSh sh) : sh[48]? = some (.inr (1, 600, [])) := hx 48 _ rfl
theorem sh_49 {sh : List Shp} (hx : XSh sh) : sh[49]? = some (.inr (0, 2, [])) := hx 49 _ rfl
theorem sh_50 {sh : List Shp} (hx : XSh sh) : sh[50]? = some (.inr (0, 2, [])) := hx 50 _ rfl
theorem sh_51 {sh : List Shp} (hx : XSh sh) : sh[51]? = some (.inr (1, 81, [])) := hx 51 _ rfl
theorem sh_140 {sh : List Shp} (hx : MSh sh) : sh[140]? = some (.inl (4, [(2, 141), (2, 142), (2, 143), (2, 144), (2, 145), (0, 0), (1, 0), (2, 146), (2, 147), (0, 0), (0, 0), (0, 0), (0, 0), (2, 148), (0, 0), (0, 0), (0, 0), (0, 0), (0, 0), (0, 0), (0, 0), (2, 149)])) := hx 0 _ rfl
theorem sh_141 {sh : List Shp} (hx : MSh sh) : sh[141]? = some (.inr (0, 106, [])) := hx 1 _ rfl
theorem sh_142 {sh : List Shp} (hx : MSh sh) : sh[142]? = some (.inr (0, 106, [])) := hx 2 _ rfl
theorem sh_143 {sh : List Shp} (hx : MSh sh) : sh[143]? = some (.inr (0, 106, [])) := hx 3 _ rfl
theorem sh_144 {sh : List Shp} (hx : MSh sh) : sh[144]? = some (.inr (0, 848, [])) := hx 4 _ rfl
theorem sh_145 {sh : List Shp} (hx : MSh sh) : sh[145]? = some (.inr (0, 106, [])) := hx 5 _ rfl
theorem sh_146 {sh : List Shp} (hx : MSh sh) : sh[146]? = some (.inr (0, 600, [])) := hx 6 _ rfl
theorem sh_147 {sh : List Shp} (hx : MSh sh) : sh[147]? = some (.inr (0, 600, [])) := hx 7 _ rfl
theorem sh_148 {sh : List Shp} (hx : MSh sh) : sh[148]? = some (.inr (2, 90, [])) := hx 8 _ rfl
theorem sh_149 {sh : List Shp} (hx : MSh sh) : sh[149]? = some (.inr (0, 3, [])) := hx 9 _ rfl
theorem as_past {sh : List Shp} (hx : XSh sh) (i : Nat) (hi : i < 8) : AS sh (52 + 11 * i) := by
  match i, hi with
  | 0, _ => exact as_52 hx
  | 1, _ => exact as_63 hx
  | 2, _ => exact as_74 hx
  | 3, _ => exact as_85 hx
  | 4, _ => exact as_96 hx
  | 5, _ => exact as_107 hx
  | 6, _ => exact as_118 hx
  | 7, _ => exact as_129 hx
  | k + 8, h => omega
section Rows7
variable {g : GT} {X : XT} {own : String} {b : ByteArray} {ex : Bool} {Q : State → Prop} {cells slots : Nat} {sh : List Shp} {h : Hp} {pc n : Nat} {L : List (Option Value)} {st : List Value}

theorem PW.callVRI {D MC MS : Nat} {y : MT} {d nA idx a ci : Nat} {ts : List SlT} {q : vw_C} {As st0 : List Value} {ρ : Type} {x : Option (Int32)} {F : Int32 → Option ρ} {r : Option ρ} (cx : Cx g X own b) (hR : X.2.2.1 = rmd D MC MS) (hd : Dx b pc (.invokevirtual idx) 3 n) (hl : KL own idx y) (hm : MV y nA) (hsh : sh[a]? = some (.inl (ci, ts))) (hq : clX[ci]? = some q) (hqc : q.1 = y.1.cls) (hnA : As.length = nA) (hst0 : st0 = As.reverse ++ .ref (gB g + a) :: st) (hcat : (st.map fun v => v.category).sum ≤ 8) (hD : d + 1 ≤ D) (hloc : 8 + (y.2.2.1 + 11) + 40 * d ≤ 40 * D) (hmc : cells ≤ MC) (hms : slots ≤ MS) (hf : x.bind F = r) (hr : r ≠ none) (hC : ∀ v : Int32, x = some v → Ct g y d 0 0 ex (.ref (gB g + a) :: As) sh h (PE (some (.int v)) sh h)) (k : ∀ v : Int32, F v = r → PW g X ex Q cells slots sh h n L (.int v :: st)) : PW g X ex Q cells slots sh h pc L st0 := by
  obtain ⟨v, e, hf⟩ := bndO hf hr
  refine PW.callV cx hR hd hl hm hsh hq hqc hnA hst0 hcat hD hloc (mc := 0) (ms := 0) hmc hms (hC v e) (fun o sh1 h1 hp => ?_)
  obtain ⟨rfl, rfl, rfl⟩ := hp
  exact k _ hf
theorem PW.callSRI {D MC MS : Nat} {y : MT} {d nA idx : Nat} {As st0 : List Value} {ρ : Type} {x : Option (Int32)} {F : Int32 → Option ρ} {r : Option ρ} (cx : Cx g X own b) (hR : X.2.2.1 = rmd D MC MS) (hd : Dx b pc (.invokestatic idx) 3 n) (hl : KL own idx y) (hm : MSt y nA) (hnA : As.length = nA) (hst0 : st0 = As.reverse ++ st) (hcat : (st.map fun v => v.category).sum ≤ 8) (hD : d + 1 ≤ D) (hloc : 8 + (y.2.2.1 + 11) + 40 * d ≤ 40 * D) (hmc : cells ≤ MC) (hms : slots ≤ MS) (hf : x.bind F = r) (hr : r ≠ none) (hC : ∀ v : Int32, x = some v → Ct g y d 0 0 ex As sh h (PE (some (.int v)) sh h)) (k : ∀ v : Int32, F v = r → PW g X ex Q cells slots sh h n L (.int v :: st)) : PW g X ex Q cells slots sh h pc L st0 := by
  obtain ⟨v, e, hf⟩ := bndO hf hr
  refine PW.callS cx hR hd hl hm hnA hst0 hcat hD hloc (mc := 0) (ms := 0) hmc hms (hC v e) (fun o sh1 h1 hp => ?_)
  obtain ⟨rfl, rfl, rfl⟩ := hp
  exact k _ hf
theorem PW.callVRB {D MC MS : Nat} {y : MT} {d nA idx a ci : Nat} {ts : List SlT} {q : vw_C} {As st0 : List Value} {ρ : Type} {x : Option (Bool)} {F : Bool → Option ρ} {r : Option ρ} (cx : Cx g X own b) (hR : X.2.2.1 = rmd D MC MS) (hd : Dx b pc (.invokevirtual idx) 3 n) (hl : KL own idx y) (hm : MV y nA) (hsh : sh[a]? = some (.inl (ci, ts))) (hq : clX[ci]? = some q) (hqc : q.1 = y.1.cls) (hnA : As.length = nA) (hst0 : st0 = As.reverse ++ .ref (gB g + a) :: st) (hcat : (st.map fun v => v.category).sum ≤ 8) (hD : d + 1 ≤ D) (hloc : 8 + (y.2.2.1 + 11) + 40 * d ≤ 40 * D) (hmc : cells ≤ MC) (hms : slots ≤ MS) (hf : x.bind F = r) (hr : r ≠ none) (hC : ∀ v : Bool, x = some v → Ct g y d 0 0 ex (.ref (gB g + a) :: As) sh h (PE (some (.int (b2i v))) sh h)) (k : ∀ v : Bool, F v = r → PW g X ex Q cells slots sh h n L (.int (b2i v) :: st)) : PW g X ex Q cells slots sh h pc L st0 := by
  obtain ⟨v, e, hf⟩ := bndO hf hr
  refine PW.callV cx hR hd hl hm hsh hq hqc hnA hst0 hcat hD hloc (mc := 0) (ms := 0) hmc hms (hC v e) (fun o sh1 h1 hp => ?_)
  obtain ⟨rfl, rfl, rfl⟩ := hp
  exact k _ hf
theorem PW.callSRB {D MC MS : Nat} {y : MT} {d nA idx : Nat} {As st0 : List Value} {ρ : Type} {x : Option (Bool)} {F : Bool → Option ρ} {r : Option ρ} (cx : Cx g X own b) (hR : X.2.2.1 = rmd D MC MS) (hd : Dx b pc (.invokestatic idx) 3 n) (hl : KL own idx y) (hm : MSt y nA) (hnA : As.length = nA) (hst0 : st0 = As.reverse ++ st) (hcat : (st.map fun v => v.category).sum ≤ 8) (hD : d + 1 ≤ D) (hloc : 8 + (y.2.2.1 + 11) + 40 * d ≤ 40 * D) (hmc : cells ≤ MC) (hms : slots ≤ MS) (hf : x.bind F = r) (hr : r ≠ none) (hC : ∀ v : Bool, x = some v → Ct g y d 0 0 ex As sh h (PE (some (.int (b2i v))) sh h)) (k : ∀ v : Bool, F v = r → PW g X ex Q cells slots sh h n L (.int (b2i v) :: st)) : PW g X ex Q cells slots sh h pc L st0 := by
  obtain ⟨v, e, hf⟩ := bndO hf hr
  refine PW.callS cx hR hd hl hm hnA hst0 hcat hD hloc (mc := 0) (ms := 0) hmc hms (hC v e) (fun o sh1 h1 hp => ?_)
  obtain ⟨rfl, rfl, rfl⟩ := hp
  exact k _ hf
theorem PW.callVRT {D MC MS : Nat} {y : MT} {d nA idx a ci : Nat} {ts : List SlT} {q : vw_C} {As st0 : List Value} {ρ : Type} {x : Option (Int32)} {F : Int32 → Option ρ} {r : Option ρ} (cx : Cx g X own b) (hR : X.2.2.1 = rmd D MC MS) (hd : Dx b pc (.invokevirtual idx) 3 n) (hl : KL own idx y) (hm : MV y nA) (hsh : sh[a]? = some (.inl (ci, ts))) (hq : clX[ci]? = some q) (hqc : q.1 = y.1.cls) (hnA : As.length = nA) (hst0 : st0 = As.reverse ++ .ref (gB g + a) :: st) (hcat : (st.map fun v => v.category).sum ≤ 8) (hD : d + 1 ≤ D) (hloc : 8 + (y.2.2.1 + 11) + 40 * d ≤ 40 * D) (hmc : cells ≤ MC) (hms : slots ≤ MS) (hf : x.bind F = r) (hr : r ≠ none) (hC : ∀ v : Int32, x = some v → Ct g y d 0 0 ex (.ref (gB g + a) :: As) sh h (PE (some (.ref (ga g (v : Int32).toNatClampNeg))) sh h)) (k : ∀ v : Int32, F v = r → PW g X ex Q cells slots sh h n L (.ref (ga g (v : Int32).toNatClampNeg) :: st)) : PW g X ex Q cells slots sh h pc L st0 := by
  obtain ⟨v, e, hf⟩ := bndO hf hr
  refine PW.callV cx hR hd hl hm hsh hq hqc hnA hst0 hcat hD hloc (mc := 0) (ms := 0) hmc hms (hC v e) (fun o sh1 h1 hp => ?_)
  obtain ⟨rfl, rfl, rfl⟩ := hp
  exact k _ hf
theorem PW.callSRT {D MC MS : Nat} {y : MT} {d nA idx : Nat} {As st0 : List Value} {ρ : Type} {x : Option (Int32)} {F : Int32 → Option ρ} {r : Option ρ} (cx : Cx g X own b) (hR : X.2.2.1 = rmd D MC MS) (hd : Dx b pc (.invokestatic idx) 3 n) (hl : KL own idx y) (hm : MSt y nA) (hnA : As.length = nA) (hst0 : st0 = As.reverse ++ st) (hcat : (st.map fun v => v.category).sum ≤ 8) (hD : d + 1 ≤ D) (hloc : 8 + (y.2.2.1 + 11) + 40 * d ≤ 40 * D) (hmc : cells ≤ MC) (hms : slots ≤ MS) (hf : x.bind F = r) (hr : r ≠ none) (hC : ∀ v : Int32, x = some v → Ct g y d 0 0 ex As sh h (PE (some (.ref (ga g (v : Int32).toNatClampNeg))) sh h)) (k : ∀ v : Int32, F v = r → PW g X ex Q cells slots sh h n L (.ref (ga g (v : Int32).toNatClampNeg) :: st)) : PW g X ex Q cells slots sh h pc L st0 := by
  obtain ⟨v, e, hf⟩ := bndO hf hr
  refine PW.callS cx hR hd hl hm hnA hst0 hcat hD hloc (mc := 0) (ms := 0) hmc hms (hC v e) (fun o sh1 h1 hp => ?_)
  obtain ⟨rfl, rfl, rfl⟩ := hp
  exact k _ hf
theorem PW.callVRD {D MC MS : Nat} {y : MT} {d nA idx a ci : Nat} {ts : List SlT} {q : vw_C} {As st0 : List Value} {ρ : Type} {x : Option (UInt64)} {F : UInt64 → Option ρ} {r : Option ρ} (cx : Cx g X own b) (hR : X.2.2.1 = rmd D MC MS) (hd : Dx b pc (.invokevirtual idx) 3 n) (hl : KL own idx y) (hm : MV y nA) (hsh : sh[a]? = some (.inl (ci, ts))) (hq : clX[ci]? = some q) (hqc : q.1 = y.1.cls) (hnA : As.length = nA) (hst0 : st0 = As.reverse ++ .ref (gB g + a) :: st) (hcat : (st.map fun v => v.category).sum ≤ 8) (hD : d + 1 ≤ D) (hloc : 8 + (y.2.2.1 + 11) + 40 * d ≤ 40 * D) (hmc : cells ≤ MC) (hms : slots ≤ MS) (hf : x.bind F = r) (hr : r ≠ none) (hC : ∀ v : UInt64, x = some v → Ct g y d 0 0 ex (.ref (gB g + a) :: As) sh h (PE (some (.double v)) sh h)) (k : ∀ v : UInt64, F v = r → PW g X ex Q cells slots sh h n L (.double v :: st)) : PW g X ex Q cells slots sh h pc L st0 := by
  obtain ⟨v, e, hf⟩ := bndO hf hr
  refine PW.callV cx hR hd hl hm hsh hq hqc hnA hst0 hcat hD hloc (mc := 0) (ms := 0) hmc hms (hC v e) (fun o sh1 h1 hp => ?_)
  obtain ⟨rfl, rfl, rfl⟩ := hp
  exact k _ hf
theorem PW.callSRD {D MC MS : Nat} {y : MT} {d nA idx : Nat} {As st0 : List Value} {ρ : Type} {x : Option (UInt64)} {F : UInt64 → Option ρ} {r : Option ρ} (cx : Cx g X own b) (hR : X.2.2.1 = rmd D MC MS) (hd : Dx b pc (.invokestatic idx) 3 n) (hl : KL own idx y) (hm : MSt y nA) (hnA : As.length = nA) (hst0 : st0 = As.reverse ++ st) (hcat : (st.map fun v => v.category).sum ≤ 8) (hD : d + 1 ≤ D) (hloc : 8 + (y.2.2.1 + 11) + 40 * d ≤ 40 * D) (hmc : cells ≤ MC) (hms : slots ≤ MS) (hf : x.bind F = r) (hr : r ≠ none) (hC : ∀ v : UInt64, x = some v → Ct g y d 0 0 ex As sh h (PE (some (.double v)) sh h)) (k : ∀ v : UInt64, F v = r → PW g X ex Q cells slots sh h n L (.double v :: st)) : PW g X ex Q cells slots sh h pc L st0 := by
  obtain ⟨v, e, hf⟩ := bndO hf hr
  refine PW.callS cx hR hd hl hm hnA hst0 hcat hD hloc (mc := 0) (ms := 0) hmc hms (hC v e) (fun o sh1 h1 hp => ?_)
  obtain ⟨rfl, rfl, rfl⟩ := hp
  exact k _ hf
theorem PW.callVRF {D MC MS : Nat} {y : MT} {d nA idx a ci : Nat} {ts : List SlT} {q : vw_C} {As st0 : List Value} {ρ : Type} {x : Option (UInt32)} {F : UInt32 → Option ρ} {r : Option ρ} (cx : Cx g X own b) (hR : X.2.2.1 = rmd D MC MS) (hd : Dx b pc (.invokevirtual idx) 3 n) (hl : KL own idx y) (hm : MV y nA) (hsh : sh[a]? = some (.inl (ci, ts))) (hq : clX[ci]? = some q) (hqc : q.1 = y.1.cls) (hnA : As.length = nA) (hst0 : st0 = As.reverse ++ .ref (gB g + a) :: st) (hcat : (st.map fun v => v.category).sum ≤ 8) (hD : d + 1 ≤ D) (hloc : 8 + (y.2.2.1 + 11) + 40 * d ≤ 40 * D) (hmc : cells ≤ MC) (hms : slots ≤ MS) (hf : x.bind F = r) (hr : r ≠ none) (hC : ∀ v : UInt32, x = some v → Ct g y d 0 0 ex (.ref (gB g + a) :: As) sh h (PE (some (.float v)) sh h)) (k : ∀ v : UInt32, F v = r → PW g X ex Q cells slots sh h n L (.float v :: st)) : PW g X ex Q cells slots sh h pc L st0 := by
  obtain ⟨v, e, hf⟩ := bndO hf hr
  refine PW.callV cx hR hd hl hm hsh hq hqc hnA hst0 hcat hD hloc (mc := 0) (ms := 0) hmc hms (hC v e) (fun o sh1 h1 hp => ?_)
  obtain ⟨rfl, rfl, rfl⟩ := hp
  exact k _ hf
theorem PW.callSRF {D MC MS : Nat} {y : MT} {d nA idx : Nat} {As st0 : List Value} {ρ : Type} {x : Option (UInt32)} {F : UInt32 → Option ρ} {r : Option ρ} (cx : Cx g X own b) (hR : X.2.2.1 = rmd D MC MS) (hd : Dx b pc (.invokestatic idx) 3 n) (hl : KL own idx y) (hm : MSt y nA) (hnA : As.length = nA) (hst0 : st0 = As.reverse ++ st) (hcat : (st.map fun v => v.category).sum ≤ 8) (hD : d + 1 ≤ D) (hloc : 8 + (y.2.2.1 + 11) + 40 * d ≤ 40 * D) (hmc : cells ≤ MC) (hms : slots ≤ MS) (hf : x.bind F = r) (hr : r ≠ none) (hC : ∀ v : UInt32, x = some v → Ct g y d 0 0 ex As sh h (PE (some (.float v)) sh h)) (k : ∀ v : UInt32, F v = r → PW g X ex Q cells slots sh h n L (.float v :: st)) : PW g X ex Q cells slots sh h pc L st0 := by
  obtain ⟨v, e, hf⟩ := bndO hf hr
  refine PW.callS cx hR hd hl hm hnA hst0 hcat hD hloc (mc := 0) (ms := 0) hmc hms (hC v e) (fun o sh1 h1 hp => ?_)
  obtain ⟨rfl, rfl, rfl⟩ := hp
  exact k _ hf
theorem PW.callVRV {D MC MS : Nat} {y : MT} {d nA idx a ci : Nat} {ts : List SlT} {q : vw_C} {As st0 : List Value} {ρ : Type} {x : Option (Unit)} {F : Unit → Option ρ} {r : Option ρ} (cx : Cx g X own b) (hR : X.2.2.1 = rmd D MC MS) (hd : Dx b pc (.invokevirtual idx) 3 n) (hl : KL own idx y) (hm : MV y nA) (hsh : sh[a]? = some (.inl (ci, ts))) (hq : clX[ci]? = some q) (hqc : q.1 = y.1.cls) (hnA : As.length = nA) (hst0 : st0 = As.reverse ++ .ref (gB g + a) :: st) (hcat : (st.map fun v => v.category).sum ≤ 8) (hD : d + 1 ≤ D) (hloc : 8 + (y.2.2.1 + 11) + 40 * d ≤ 40 * D) (hmc : cells ≤ MC) (hms : slots ≤ MS) (hf : x.bind F = r) (hr : r ≠ none) (hC : ∀ v : Unit, x = some v → Ct g y d 0 0 ex (.ref (gB g + a) :: As) sh h (PE none sh h)) (k : ∀ v : Unit, F v = r → PW g X ex Q cells slots sh h n L (st)) : PW g X ex Q cells slots sh h pc L st0 := by
  obtain ⟨v, e, hf⟩ := bndO hf hr
  refine PW.callV cx hR hd hl hm hsh hq hqc hnA hst0 hcat hD hloc (mc := 0) (ms := 0) hmc hms (hC v e) (fun o sh1 h1 hp => ?_)
  obtain ⟨rfl, rfl, rfl⟩ := hp
  exact k _ hf
theorem PW.callSRV {D MC MS : Nat} {y : MT} {d nA idx : Nat} {As st0 : List Value} {ρ : Type} {x : Option (Unit)} {F : Unit → Option ρ} {r : Option ρ} (cx : Cx g X own b) (hR : X.2.2.1 = rmd D MC MS) (hd : Dx b pc (.invokestatic idx) 3 n) (hl : KL own idx y) (hm : MSt y nA) (hnA : As.length = nA) (hst0 : st0 = As.reverse ++ st) (hcat : (st.map fun v => v.category).sum ≤ 8) (hD : d + 1 ≤ D) (hloc : 8 + (y.2.2.1 + 11) + 40 * d ≤ 40 * D) (hmc : cells ≤ MC) (hms : slots ≤ MS) (hf : x.bind F = r) (hr : r ≠ none) (hC : ∀ v : Unit, x = some v → Ct g y d 0 0 ex As sh h (PE none sh h)) (k : ∀ v : Unit, F v = r → PW g X ex Q cells slots sh h n L (st)) : PW g X ex Q cells slots sh h pc L st0 := by
  obtain ⟨v, e, hf⟩ := bndO hf hr
  refine PW.callS cx hR hd hl hm hnA hst0 hcat hD hloc (mc := 0) (ms := 0) hmc hms (hC v e) (fun o sh1 h1 hp => ?_)
  obtain ⟨rfl, rfl, rfl⟩ := hp
  exact k _ hf
theorem PW.callVWI {D MC MS : Nat} {y : MT} {d nA idx a ci : Nat} {ts : List SlT} {q : vw_C} {As st0 : List Value} {ρ : Type} {x : Option (Int32 × Hp)} {F : Int32 × Hp → Option ρ} {r : Option ρ} (cx : Cx g X own b) (hR : X.2.2.1 = rmd D MC MS) (hd : Dx b pc (.invokevirtual idx) 3 n) (hl : KL own idx y) (hm : MV y nA) (hsh : sh[a]? = some (.inl (ci, ts))) (hq : clX[ci]? = some q) (hqc : q.1 = y.1.cls) (hnA : As.length = nA) (hst0 : st0 = As.reverse ++ .ref (gB g + a) :: st) (hcat : (st.map fun v => v.category).sum ≤ 8) (hD : d + 1 ≤ D) (hloc : 8 + (y.2.2.1 + 11) + 40 * d ≤ 40 * D) (hmc : cells ≤ MC) (hms : slots ≤ MS) (hf : x.bind F = r) (hr : r ≠ none) (hC : ∀ v : Int32 × Hp, x = some v → Ct g y d 0 0 ex (.ref (gB g + a) :: As) sh h (PE (some (.int v.1)) sh v.2)) (k : ∀ v : Int32 × Hp, F v = r → PW g X ex Q cells slots sh v.2 n L (.int v.1 :: st)) : PW g X ex Q cells slots sh h pc L st0 := by
  obtain ⟨v, e, hf⟩ := bndO hf hr
  refine PW.callV cx hR hd hl hm hsh hq hqc hnA hst0 hcat hD hloc (mc := 0) (ms := 0) hmc hms (hC v e) (fun o sh1 h1 hp => ?_)
  obtain ⟨rfl, rfl, rfl⟩ := hp
  exact k _ hf
theorem PW.callSWI {D MC MS : Nat} {y : MT} {d nA idx : Nat} {As st0 : List Value} {ρ : Type} {x : Option (Int32 × Hp)} {F : Int32 × Hp → Option ρ} {r : Option ρ} (cx : Cx g X own b) (hR : X.2.2.1 = rmd D MC MS) (hd : Dx b pc (.invokestatic idx) 3 n) (hl : KL own idx y) (hm : MSt y nA) (hnA : As.length = nA) (hst0 : st0 = As.reverse ++ st) (hcat : (st.map fun v => v.category).sum ≤ 8) (hD : d + 1 ≤ D) (hloc : 8 + (y.2.2.1 + 11) + 40 * d ≤ 40 * D) (hmc : cells ≤ MC) (hms : slots ≤ MS) (hf : x.bind F = r) (hr : r ≠ none) (hC : ∀ v : Int32 × Hp, x = some v → Ct g y d 0 0 ex As sh h (PE (some (.int v.1)) sh v.2)) (k : ∀ v : Int32 × Hp, F v = r → PW g X ex Q cells slots sh v.2 n L (.int v.1 :: st)) : PW g X ex Q cells slots sh h pc L st0 := by
  obtain ⟨v, e, hf⟩ := bndO hf hr
  refine PW.callS cx hR hd hl hm hnA hst0 hcat hD hloc (mc := 0) (ms := 0) hmc hms (hC v e) (fun o sh1 h1 hp => ?_)
  obtain ⟨rfl, rfl, rfl⟩ := hp
  exact k _ hf
theorem PW.callVWB {D MC MS : Nat} {y : MT} {d nA idx a ci : Nat} {ts : List SlT} {q : vw_C} {As st0 : List Value} {ρ : Type} {x : Option (Bool × Hp)} {F : Bool × Hp → Option ρ} {r : Option ρ} (cx : Cx g X own b) (hR : X.2.2.1 = rmd D MC MS) (hd : Dx b pc (.invokevirtual idx) 3 n) (hl : KL own idx y) (hm : MV y nA) (hsh : sh[a]? = some (.inl (ci, ts))) (hq : clX[ci]? = some q) (hqc : q.1 = y.1.cls) (hnA : As.length = nA) (hst0 : st0 = As.reverse ++ .ref (gB g + a) :: st) (hcat : (st.map fun v => v.category).sum ≤ 8) (hD : d + 1 ≤ D) (hloc : 8 + (y.2.2.1 + 11) + 40 * d ≤ 40 * D) (hmc : cells ≤ MC) (hms : slots ≤ MS) (hf : x.bind F = r) (hr : r ≠ none) (hC : ∀ v : Bool × Hp, x = some v → Ct g y d 0 0 ex (.ref (gB g + a) :: As) sh h (PE (some (.int (b2i v.1))) sh v.2)) (k : ∀ v : Bool × Hp, F v = r → PW g X ex Q cells slots sh v.2 n L (.int (b2i v.1) :: st)) : PW g X ex Q cells slots sh h pc L st0 := by
  obtain ⟨v, e, hf⟩ := bndO hf hr
  refine PW.callV cx hR hd hl hm hsh hq hqc hnA hst0 hcat hD hloc (mc := 0) (ms := 0) hmc hms (hC v e) (fun o sh1 h1 hp => ?_)
  obtain ⟨rfl, rfl, rfl⟩ := hp
  exact k _ hf
theorem PW.callSWB {D MC MS : Nat} {y : MT} {d nA idx : Nat} {As st0 : List Value} {ρ : Type} {x : Option (Bool × Hp)} {F : Bool × Hp → Option ρ} {r : Option ρ} (cx : Cx g X own b) (hR : X.2.2.1 = rmd D MC MS) (hd : Dx b pc (.invokestatic idx) 3 n) (hl : KL own idx y) (hm : MSt y nA) (hnA : As.length = nA) (hst0 : st0 = As.reverse ++ st) (hcat : (st.map fun v => v.category).sum ≤ 8) (hD : d + 1 ≤ D) (hloc : 8 + (y.2.2.1 + 11) + 40 * d ≤ 40 * D) (hmc : cells ≤ MC) (hms : slots ≤ MS) (hf : x.bind F = r) (hr : r ≠ none) (hC : ∀ v : Bool × Hp, x = some v → Ct g y d 0 0 ex As sh h (PE (some (.int (b2i v.1))) sh v.2)) (k : ∀ v : Bool × Hp, F v = r → PW g X ex Q cells slots sh v.2 n L (.int (b2i v.1) :: st)) : PW g X ex Q cells slots sh h pc L st0 := by
  obtain ⟨v, e, hf⟩ := bndO hf hr
  refine PW.callS cx hR hd hl hm hnA hst0 hcat hD hloc (mc := 0) (ms := 0) hmc hms (hC v e) (fun o sh1 h1 hp => ?_)
  obtain ⟨rfl, rfl, rfl⟩ := hp
  exact k _ hf
theorem PW.callVWT {D MC MS : Nat} {y : MT} {d nA idx a ci : Nat} {ts : List SlT} {q : vw_C} {As st0 : List Value} {ρ : Type} {x : Option (Int32 × Hp)} {F : Int32 × Hp → Option ρ} {r : Option ρ} (cx : Cx g X own b) (hR : X.2.2.1 = rmd D MC MS) (hd : Dx b pc (.invokevirtual idx) 3 n) (hl : KL own idx y) (hm : MV y nA) (hsh : sh[a]? = some (.inl (ci, ts))) (hq : clX[ci]? = some q) (hqc : q.1 = y.1.cls) (hnA : As.length = nA) (hst0 : st0 = As.reverse ++ .ref (gB g + a) :: st) (hcat : (st.map fun v => v.category).sum ≤ 8) (hD : d + 1 ≤ D) (hloc : 8 + (y.2.2.1 + 11) + 40 * d ≤ 40 * D) (hmc : cells ≤ MC) (hms : slots ≤ MS) (hf : x.bind F = r) (hr : r ≠ none) (hC : ∀ v : Int32 × Hp, x = some v → Ct g y d 0 0 ex (.ref (gB g + a) :: As) sh h (PE (some (.ref (ga g (v.1 : Int32).toNatClampNeg))) sh v.2)) (k : ∀ v : Int32 × Hp, F v = r → PW g X ex Q cells slots sh v.2 n L (.ref (ga g (v.1 : Int32).toNatClampNeg) :: st)) : PW g X ex Q cells slots sh h pc L st0 := by
  obtain ⟨v, e, hf⟩ := bndO hf hr
  refine PW.callV cx hR hd hl hm hsh hq hqc hnA hst0 hcat hD hloc (mc := 0) (ms := 0) hmc hms (hC v e) (fun o sh1 h1 hp => ?_)
  obtain ⟨rfl, rfl, rfl⟩ := hp
  exact k _ hf
theorem PW.callSWT {D MC MS : Nat} {y : MT} {d nA idx : Nat} {As st0 : List Value} {ρ : Type} {x : Option (Int32 × Hp)} {F : Int32 × Hp → Option ρ} {r : Option ρ} (cx : Cx g X own b) (hR : X.2.2.1 = rmd D MC MS) (hd : Dx b pc (.invokestatic idx) 3 n) (hl : KL own idx y) (hm : MSt y nA) (hnA : As.length = nA) (hst0 : st0 = As.reverse ++ st) (hcat : (st.map fun v => v.category).sum ≤ 8) (hD : d + 1 ≤ D) (hloc : 8 + (y.2.2.1 + 11) + 40 * d ≤ 40 * D) (hmc : cells ≤ MC) (hms : slots ≤ MS) (hf : x.bind F = r) (hr : r ≠ none) (hC : ∀ v : Int32 × Hp, x = some v → Ct g y d 0 0 ex As sh h (PE (some (.ref (ga g (v.1 : Int32).toNatClampNeg))) sh v.2)) (k : ∀ v : Int32 × Hp, F v = r → PW g X ex Q cells slots sh v.2 n L (.ref (ga g (v.1 : Int32).toNatClampNeg) :: st)) : PW g X ex Q cells slots sh h pc L st0 := by
  obtain ⟨v, e, hf⟩ := bndO hf hr
  refine PW.callS cx hR hd hl hm hnA hst0 hcat hD hloc (mc := 0) (ms := 0) hmc hms (hC v e) (fun o sh1 h1 hp => ?_)
  obtain ⟨rfl, rfl, rfl⟩ := hp
  exact k _ hf
theorem PW.callVWD {D MC MS : Nat} {y : MT} {d nA idx a ci : Nat} {ts : List SlT} {q : vw_C} {As st0 : List Value} {ρ : Type} {x : Option (UInt64 × Hp)} {F : UInt64 × Hp → Option ρ} {r : Option ρ} (cx : Cx g X own b) (hR : X.2.2.1 = rmd D MC MS) (hd : Dx b pc (.invokevirtual idx) 3 n) (hl : KL own idx y) (hm : MV y nA) (hsh : sh[a]? = some (.inl (ci, ts))) (hq : clX[ci]? = some q) (hqc : q.1 = y.1.cls) (hnA : As.length = nA) (hst0 : st0 = As.reverse ++ .ref (gB g + a) :: st) (hcat : (st.map fun v => v.category).sum ≤ 8) (hD : d + 1 ≤ D) (hloc : 8 + (y.2.2.1 + 11) + 40 * d ≤ 40 * D) (hmc : cells ≤ MC) (hms : slots ≤ MS) (hf : x.bind F = r) (hr : r ≠ none) (hC : ∀ v : UInt64 × Hp, x = some v → Ct g y d 0 0 ex (.ref (gB g + a) :: As) sh h (PE (some (.double v.1)) sh v.2)) (k : ∀ v : UInt64 × Hp, F v = r → PW g X ex Q cells slots sh v.2 n L (.double v.1 :: st)) : PW g X ex Q cells slots sh h pc L st0 := by
  obtain ⟨v, e, hf⟩ := bndO hf hr
  refine PW.callV cx hR hd hl hm hsh hq hqc hnA hst0 hcat hD hloc (mc := 0) (ms := 0) hmc hms (hC v e) (fun o sh1 h1 hp => ?_)
  obtain ⟨rfl, rfl, rfl⟩ := hp
  exact k _ hf
theorem PW.callSWD {D MC MS : Nat} {y : MT} {d nA idx : Nat} {As st0 : List Value} {ρ : Type} {x : Option (UInt64 × Hp)} {F : UInt64 × Hp → Option ρ} {r : Option ρ} (cx : Cx g X own b) (hR : X.2.2.1 = rmd D MC MS) (hd : Dx b pc (.invokestatic idx) 3 n) (hl : KL own idx y) (hm : MSt y nA) (hnA : As.length = nA) (hst0 : st0 = As.reverse ++ st) (hcat : (st.map fun v => v.category).sum ≤ 8) (hD : d + 1 ≤ D) (hloc : 8 + (y.2.2.1 + 11) + 40 * d ≤ 40 * D) (hmc : cells ≤ MC) (hms : slots ≤ MS) (hf : x.bind F = r) (hr : r ≠ none) (hC : ∀ v : UInt64 × Hp, x = some v → Ct g y d 0 0 ex As sh h (PE (some (.double v.1)) sh v.2)) (k : ∀ v : UInt64 × Hp, F v = r → PW g X ex Q cells slots sh v.2 n L (.double v.1 :: st)) : PW g X ex Q cells slots sh h pc L st0 := by
  obtain ⟨v, e, hf⟩ := bndO hf hr
  refine PW.callS cx hR hd hl hm hnA hst0 hcat hD hloc (mc := 0) (ms := 0) hmc hms (hC v e) (fun o sh1 h1 hp => ?_)
  obtain ⟨rfl, rfl, rfl⟩ := hp
  exact k _ hf
theorem PW.callVWF {D MC MS : Nat} {y : MT} {d nA idx a ci : Nat} {ts : List SlT} {q : vw_C} {As st0 : List Value} {ρ : Type} {x : Option (UInt32 × Hp)} {F : UInt32 × Hp → Option ρ} {r : Option ρ} (cx : Cx g X own b) (hR : X.2.2.1 = rmd D MC MS) (hd : Dx b pc (.invokevirtual idx) 3 n) (hl : KL own idx y) (hm : MV y nA) (hsh : sh[a]? = some (.inl (ci, ts))) (hq : clX[ci]? = some q) (hqc : q.1 = y.1.cls) (hnA : As.length = nA) (hst0 : st0 = As.reverse ++ .ref (gB g + a) :: st) (hcat : (st.map fun v => v.category).sum ≤ 8) (hD : d + 1 ≤ D) (hloc : 8 + (y.2.2.1 + 11) + 40 * d ≤ 40 * D) (hmc : cells ≤ MC) (hms : slots ≤ MS) (hf : x.bind F = r) (hr : r ≠ none) (hC : ∀ v : UInt32 × Hp, x = some v → Ct g y d 0 0 ex (.ref (gB g + a) :: As) sh h (PE (some (.float v.1)) sh v.2)) (k : ∀ v : UInt32 × Hp, F v = r → PW g X ex Q cells slots sh v.2 n L (.float v.1 :: st)) : PW g X ex Q cells slots sh h pc L st0 := by
  obtain ⟨v, e, hf⟩ := bndO hf hr
  refine PW.callV cx hR hd hl hm hsh hq hqc hnA hst0 hcat hD hloc (mc := 0) (ms := 0) hmc hms (hC v e) (fun o sh1 h1 hp => ?_)
  obtain ⟨rfl, rfl, rfl⟩ := hp
  exact k _ hf
theorem PW.callSWF {D MC MS : Nat} {y : MT} {d nA idx : Nat} {As st0 : List Value} {ρ : Type} {x : Option (UInt32 × Hp)} {F : UInt32 × Hp → Option ρ} {r : Option ρ} (cx : Cx g X own b) (hR : X.2.2.1 = rmd D MC MS) (hd : Dx b pc (.invokestatic idx) 3 n) (hl : KL own idx y) (hm : MSt y nA) (hnA : As.length = nA) (hst0 : st0 = As.reverse ++ st) (hcat : (st.map fun v => v.category).sum ≤ 8) (hD : d + 1 ≤ D) (hloc : 8 + (y.2.2.1 + 11) + 40 * d ≤ 40 * D) (hmc : cells ≤ MC) (hms : slots ≤ MS) (hf : x.bind F = r) (hr : r ≠ none) (hC : ∀ v : UInt32 × Hp, x = some v → Ct g y d 0 0 ex As sh h (PE (some (.float v.1)) sh v.2)) (k : ∀ v : UInt32 × Hp, F v = r → PW g X ex Q cells slots sh v.2 n L (.float v.1 :: st)) : PW g X ex Q cells slots sh h pc L st0 := by
  obtain ⟨v, e, hf⟩ := bndO hf hr
  refine PW.callS cx hR hd hl hm hnA hst0 hcat hD hloc (mc := 0) (ms := 0) hmc hms (hC v e) (fun o sh1 h1 hp => ?_)
  obtain ⟨rfl, rfl, rfl⟩ := hp
  exact k _ hf
theorem PW.callVWV {D MC MS : Nat} {y : MT} {d nA idx a ci : Nat} {ts : List SlT} {q : vw_C} {As st0 : List Value} {ρ : Type} {x : Option (Hp)} {F : Hp → Option ρ} {r : Option ρ} (cx : Cx g X own b) (hR : X.2.2.1 = rmd D MC MS) (hd : Dx b pc (.invokevirtual idx) 3 n) (hl : KL own idx y) (hm : MV y nA) (hsh : sh[a]? = some (.inl (ci, ts))) (hq : clX[ci]? = some q) (hqc : q.1 = y.1.cls) (hnA : As.length = nA) (hst0 : st0 = As.reverse ++ .ref (gB g + a) :: st) (hcat : (st.map fun v => v.category).sum ≤ 8) (hD : d + 1 ≤ D) (hloc : 8 + (y.2.2.1 + 11) + 40 * d ≤ 40 * D) (hmc : cells ≤ MC) (hms : slots ≤ MS) (hf : x.bind F = r) (hr : r ≠ none) (hC : ∀ v : Hp, x = some v → Ct g y d 0 0 ex (.ref (gB g + a) :: As) sh h (PE none sh v)) (k : ∀ v : Hp, F v = r → PW g X ex Q cells slots sh v n L (st)) : PW g X ex Q cells slots sh h pc L st0 := by
  obtain ⟨v, e, hf⟩ := bndO hf hr
  refine PW.callV cx hR hd hl hm hsh hq hqc hnA hst0 hcat hD hloc (mc := 0) (ms := 0) hmc hms (hC v e) (fun o sh1 h1 hp => ?_)
  obtain ⟨rfl, rfl, rfl⟩ := hp
  exact k _ hf
theorem PW.callSWV {D MC MS : Nat} {y : MT} {d nA idx : Nat} {As st0 : List Value} {ρ : Type} {x : Option (Hp)} {F : Hp → Option ρ} {r : Option ρ} (cx : Cx g X own b) (hR : X.2.2.1 = rmd D MC MS) (hd : Dx b pc (.invokestatic idx) 3 n) (hl : KL own idx y) (hm : MSt y nA) (hnA : As.length = nA) (hst0 : st0 = As.reverse ++ st) (hcat : (st.map fun v => v.category).sum ≤ 8) (hD : d + 1 ≤ D) (hloc : 8 + (y.2.2.1 + 11) + 40 * d ≤ 40 * D) (hmc : cells ≤ MC) (hms : slots ≤ MS) (hf : x.bind F = r) (hr : r ≠ none) (hC : ∀ v : Hp, x = some v → Ct g y d 0 0 ex As sh h (PE none sh v)) (k : ∀ v : Hp, F v = r → PW g X ex Q cells slots sh v n L (st)) : PW g X ex Q cells slots sh h pc L st0 := by
  obtain ⟨v, e, hf⟩ := bndO hf hr
  refine PW.callS cx hR hd hl hm hnA hst0 hcat hD hloc (mc := 0) (ms := 0) hmc hms (hC v e) (fun o sh1 h1 hp => ?_)
  obtain ⟨rfl, rfl, rfl⟩ := hp
  exact k _ hf
def paO (i : Int32) : Option Nat := if i < 0 ∨ 8 ≤ i.toNatClampNeg then none else some (52 + 11 * i.toNatClampNeg)
theorem PW.putiN {a idx ci k : Nat} {ts : List SlT} {x : Int32} {j : Nat} {ρ : Type} {F : Hp → ρ} {r : ρ} (cx : Cx g X own b) (hd : Dx b pc (.putfield idx) 3 n) (hsh : sh[a]? = some (.inl (ci, ts))) (ht : ts[k]? = some (0, j)) (hl : FP own idx ci k .int) (hf : nm (up2 h a k x) F = r) (kk : ∀ h' : Hp, F h' = r → PW g X ex Q cells slots sh h' n L st) : PW g X ex Q cells slots sh h pc L (.int x :: .ref (gB g + a) :: st) :=
  PW.putfV cx hd hsh ht hl rfl rfl rfl (kk _ hf)
theorem PW.putzN {a idx ci k : Nat} {ts : List SlT} {x : Int32} {j : Nat} {ρ : Type} {F : Hp → ρ} {r : ρ} (cx : Cx g X own b) (hd : Dx b pc (.putfield idx) 3 n) (hsh : sh[a]? = some (.inl (ci, ts))) (ht : ts[k]? = some (1, j)) (hl : FP own idx ci k .boolean) (hx : narrow .boolean (.int x) = .int x) (hfit : fits .boolean (.int x) = true) (hf : nm (up2 h a k x) F = r) (kk : ∀ h' : Hp, F h' = r → PW g X ex Q cells slots sh h' n L st) : PW g X ex Q cells slots sh h pc L (.int x :: .ref (gB g + a) :: st) :=
  PW.putfV cx hd hsh ht hl hx hfit rfl (kk _ hf)
theorem PW.putbN {a idx ci k : Nat} {ts : List SlT} {x : Bool} {j : Nat} {ρ : Type} {F : Hp → ρ} {r : ρ} (cx : Cx g X own b) (hd : Dx b pc (.putfield idx) 3 n) (hsh : sh[a]? = some (.inl (ci, ts))) (ht : ts[k]? = some (1, j)) (hl : FP own idx ci k .boolean) (hf : nm (up2 h a k (b2i x)) F = r) (kk : ∀ h' : Hp, F h' = r → PW g X ex Q cells slots sh h' n L st) : PW g X ex Q cells slots sh h pc L (.int (b2i x) :: .ref (gB g + a) :: st) :=
  PW.putfV cx hd hsh ht hl (nbb x) (by cases x <;> decide) rfl (kk _ hf)
theorem PW.putTN {a idx ci k : Nat} {ts : List SlT} {x : Int32} {j : Nat} {C : String} {ρ : Type} {F : Hp → ρ} {r : ρ} (cx : Cx g X own b) (hd : Dx b pc (.putfield idx) 3 n) (hsh : sh[a]? = some (.inl (ci, ts))) (ht : ts[k]? = some (3, j)) (hl : FP own idx ci k (.object C)) (hf : nm (up2 h a k x) F = r) (kk : ∀ h' : Hp, F h' = r → PW g X ex Q cells slots sh h' n L st) : PW g X ex Q cells slots sh h pc L (.ref (ga g x.toNatClampNeg) :: .ref (gB g + a) :: st) :=
  PW.putfV cx hd hsh ht hl rfl rfl rfl (kk _ hf)
theorem PW.bast {a N : Nat} {i x : Int32} {ρ : Type} {F : Hp → Option ρ} {r : Option ρ} (cx : Cx g X own b) (hd : Dx b pc .bastore 1 n) (hsh : sh[a]? = some (.inr (1, N, []))) (hf : (wrO h a N i x.toInt8.toInt32).bind F = r) (hr : r ≠ none) (k : ∀ h' : Hp, F h' = r → PW g X ex Q cells slots sh h' n L st) : PW g X ex Q cells slots sh h pc L (.int x :: .int i :: .ref (gB g + a) :: st) := by
  obtain ⟨hd, rfl⟩ := hd
  by_cases hy : i < 0 ∨ N ≤ i.toNatClampNeg
  · simp [wrO, hy] at hf
    exact absurd hf.symm hr
  · simp only [wrO, if_neg hy, Option.bind_some] at hf
    intro H locs ls hH hS hL
    have hP := hH.one hsh
    refine W.bast cx.1 cx.2.1 (hP 0 _ rfl) ((cx.2.2.2.2.1.1.2 1 _ rfl).1 N (fun j => .int (h a j))) (fun q => by cases q) (by show ¬ (i < 0 ∨ (arrV _ _ _).slots.size ≤ _); rw [arrV_size]; exact hy) rfl rfl hd fun H1 e z oq => ?_
    refine k _ hf H1 _ ls (hH.set hsh ?_ z oq) (hS.put z oq (Nat.le_add_right _ _)) hL
    show H1[gB g + a]? = some (vp_cell _ _)
    rw [e]
    show some ((vp_cell (gc g 1) (N, .inl (h a))).setSlot _ (.int x.toInt8.toInt32)) = some (vp_cell (gc g 1) (N, .inl (upd (h a) i.toNatClampNeg x.toInt8.toInt32)))
    rw [vp_cell_i, vp_cell_i, arrV_store]
    congr 2
    funext q
    by_cases hq : q = i.toNatClampNeg
    · subst hq
      simp [updV, upd]
    · simp [updV, upd, hq]
theorem PW.cast {a N : Nat} {i x : Int32} {ρ : Type} {F : Hp → Option ρ} {r : Option ρ} (cx : Cx g X own b) (hd : Dx b pc .castore 1 n) (hsh : sh[a]? = some (.inr (2, N, []))) (hf : (wrO h a N i (i2cI x)).bind F = r) (hr : r ≠ none) (k : ∀ h' : Hp, F h' = r → PW g X ex Q cells slots sh h' n L st) : PW g X ex Q cells slots sh h pc L (.int x :: .int i :: .ref (gB g + a) :: st) := by
  obtain ⟨hd, rfl⟩ := hd
  by_cases hy : i < 0 ∨ N ≤ i.toNatClampNeg
  · simp [wrO, hy] at hf
    exact absurd hf.symm hr
  · simp only [wrO, if_neg hy, Option.bind_some] at hf
    intro H locs ls hH hS hL
    have hP := hH.one hsh
    refine W.cast cx.1 cx.2.1 (hP 0 _ rfl) ((cx.2.2.2.2.1.1.2 2 _ rfl).1 N (fun j => .int (h a j))) (fun q => by cases q) (by show ¬ (i < 0 ∨ (arrV _ _ _).slots.size ≤ _); rw [arrV_size]; exact hy) rfl rfl hd fun H1 e z oq => ?_
    refine k _ hf H1 _ ls (hH.set hsh ?_ z oq) (hS.put z oq (Nat.le_add_right _ _)) hL
    show H1[gB g + a]? = some (vp_cell _ _)
    rw [e]
    show some ((vp_cell (gc g 2) (N, .inl (h a))).setSlot _ (.int (i2cI x))) = some (vp_cell (gc g 2) (N, .inl (upd (h a) i.toNatClampNeg (i2cI x))))
    rw [vp_cell_i, vp_cell_i, arrV_store]
    congr 2
    funext q
    by_cases hq : q = i.toNatClampNeg
    · subst hq
      simp [updV, upd]
    · simp [updV, upd, hq]
/-! the JDK's max, min, abs -/
def KM (own : String) (idx : Nat) (y : MethodName) (bytes : ByteArray) (k : Nat) : Prop := Cond.methodLink own idx y ∈ TG ∧ Cond.static y ∈ TG ∧ Cond.initialized "java/lang/Math" ∈ TG ∧ Cond.code y bytes k (some .int) ∈ TG
theorem PW.mmax {D MC MS idx : Nat} {x y : Int32} (cx : Cx g X own b) (hR : X.2.2.1 = rmd D MC MS) (hd : Dx b pc (.invokestatic idx) 3 n) (hl : KM own idx Lib.Math.max.name Lib.Math.max.code 2) (hD : 1 ≤ D) (hcat : (st.map fun v => v.category).sum + 13 ≤ 40 * D) (hmc : cells ≤ MC) (hms : slots ≤ MS) (k : PW g X ex Q cells slots sh h n L (.int (mxI x y) :: st)) : PW g X ex Q cells slots sh h pc L (.int y :: .int x :: st) := by
  obtain ⟨hd, rfl⟩ := hd
  exact fun H locs ls hH hS hL => va_mmax cx.1 cx.2.1 hL.1.symm cx.2.2.1 (cx.2.2.2.1 _ hl.1) (cx.2.2.2.1 _ hl.2.1) (cx.2.2.2.1 _ hl.2.2.1) (cx.2.2.2.1 _ hl.2.2.2) (by rw [hR]; exact hD) (by rw [hR]; exact hcat) (by rw [hR]; exact hmc) (by rw [hR]; exact hms) hd (k H locs ls hH hS hL)
theorem PW.mmin {D MC MS idx : Nat} {x y : Int32} (cx : Cx g X own b) (hR : X.2.2.1 = rmd D MC MS) (hd : Dx b pc (.invokestatic idx) 3 n) (hl : KM own idx Lib.Math.min.name Lib.Math.min.code 2) (hD : 1 ≤ D) (hcat : (st.map fun v => v.category).sum + 13 ≤ 40 * D) (hmc : cells ≤ MC) (hms : slots ≤ MS) (k : PW g X ex Q cells slots sh h n L (.int (mnI x y) :: st)) : PW g X ex Q cells slots sh h pc L (.int y :: .int x :: st) := by
  obtain ⟨hd, rfl⟩ := hd
  exact fun H locs ls hH hS hL => va_mmin cx.1 cx.2.1 hL.1.symm cx.2.2.1 (cx.2.2.2.1 _ hl.1) (cx.2.2.2.1 _ hl.2.1) (cx.2.2.2.1 _ hl.2.2.1) (cx.2.2.2.1 _ hl.2.2.2) (by rw [hR]; exact hD) (by rw [hR]; exact hcat) (by rw [hR]; exact hmc) (by rw [hR]; exact hms) hd (k H locs ls hH hS hL)
theorem PW.mabs {D MC MS idx : Nat} {x : Int32} (cx : Cx g X own b) (hR : X.2.2.1 = rmd D MC MS) (hd : Dx b pc (.invokestatic idx) 3 n) (hl : KM own idx Lib.Math.abs.name Lib.Math.abs.code 1) (hD : 1 ≤ D) (hcat : (st.map fun v => v.category).sum + 13 ≤ 40 * D) (hmc : cells ≤ MC) (hms : slots ≤ MS) (k : PW g X ex Q cells slots sh h n L (.int (abI x) :: st)) : PW g X ex Q cells slots sh h pc L (.int x :: st) := by
  obtain ⟨hd, rfl⟩ := hd
  exact fun H locs ls hH hS hL => va_mabs cx.1 cx.2.1 hL.1.symm cx.2.2.1 (cx.2.2.2.1 _ hl.1) (cx.2.2.2.1 _ hl.2.1) (cx.2.2.2.1 _ hl.2.2.1) (cx.2.2.2.1 _ hl.2.2.2) (by rw [hR]; exact hD) (by rw [hR]; exact hcat) (by rw [hR]; exact hmc) (by rw [hR]; exact hms) hd (k H locs ls hH hS hL)
theorem PW.ldc {idx : Nat} {v : Int32} (cx : Cx g X own b) (hd : Dx b pc (.ldc idx) 2 n) (hl : Cond.constant own idx v ∈ TG) (k : PW g X ex Q cells slots sh h n L (.int v :: st)) : PW g X ex Q cells slots sh h pc L st := by
  obtain ⟨hd, rfl⟩ := hd
  exact fun H locs ls hH hS hL => lv_ldc cx.1 cx.2.1 cx.2.2.1 (cx.2.2.2.1 _ hl) hd (k H locs ls hH hS hL)
theorem PW.ldc_w {idx : Nat} {v : Int32} (cx : Cx g X own b) (hd : Dx b pc (.ldc_w idx) 3 n) (hl : Cond.constant own idx v ∈ TG) (k : PW g X ex Q cells slots sh h n L (.int v :: st)) : PW g X ex Q cells slots sh h pc L st := by
  obtain ⟨hd, rfl⟩ := hd
  exact fun H locs ls hH hS hL => lv_ldcw cx.1 cx.2.1 cx.2.2.1 (cx.2.2.2.1 _ hl) hd (k H locs ls hH hS hL)
theorem PW.ifnullR {x : Nat} {o : Int} {tgt : Nat} (cx : Cx g X own b) (hd : Dj b pc (.ifnull o) o n tgt) (k : PW g X ex Q cells slots sh h n L st) : PW g X ex Q cells slots sh h pc L (.ref x :: st) := by
  obtain ⟨hd, rfl, ht⟩ := hd
  exact fun H locs ls hH hS hL => lv_ifnull cx.1 cx.2.1 hd (k H locs ls hH hS hL)
theorem PW.aaldP {i : Int32} {ρ : Type} {F : Nat → Option ρ} {r : Option ρ} (cx : Cx g X own b) (hd : Dx b pc .aaload 1 n) (hx : XSh sh) (hf : (paO i).bind F = r) (hr : r ≠ none) (k : ∀ p : Nat, AS sh p → F p = r → PW g X ex Q cells slots sh h n L (.ref (gB g + p) :: st)) : PW g X ex Q cells slots sh h pc L (.int i :: .ref (gB g + 34) :: st) := by
  obtain ⟨hd, rfl⟩ := hd
  by_cases hy : i < 0 ∨ 8 ≤ i.toNatClampNeg
  · simp [paO, hy] at hf
    exact absurd hf.symm hr
  · simp only [paO, if_neg hy, Option.bind_some] at hf
    have hlt : i.toNatClampNeg < 8 := Nat.not_le.mp fun q => hy (Or.inr q)
    intro H locs ls hH hS hL
    have e : (conc g (.inr (4, 8, [some 52, some 63, some 74, some 85, some 96, some 107, some 118, some 129])) (h 34)) = .inl (gc g 4, 8, .inr (.inr (.inr (.inr (fun j => ([some 52, some 63, some 74, some 85, some 96, some 107, some 118, some 129].getD j none).map (fun a => gB g + a)))))) := rfl
    have hP := hH.one (sh_34 hx)
    refine va_aldq cx.1 cx.2.1 cx.2.2.2.2.1.1 hP 0 4 (C := RX1) rfl rfl hy hd ?_
    have hv : va_rf (([some 52, some 63, some 74, some 85, some 96, some 107, some 118, some 129].getD i.toNatClampNeg none).map (fun a => gB g + a)) = .ref (gB g + (52 + 11 * i.toNatClampNeg)) := by
      generalize i.toNatClampNeg = j at hlt
      match j, hlt with
      | 0, _ => rfl
      | 1, _ => rfl
      | 2, _ => rfl
      | 3, _ => rfl
      | 4, _ => rfl
      | 5, _ => rfl
      | 6, _ => rfl
      | 7, _ => rfl
      | k + 8, h => omega
    show WX g X H locs cells slots Q (F0 _ _ _ (va_rf _ :: st))
    rw [hv]
    exact k _ (as_past hx _ hlt) hf H locs ls hH hS hL
/-! constants of enums, the switch map, the row of commands; Strings -/
def acO (x y : Int32) : Option Bool := if x.toNatClampNeg < 7 ∧ y.toNatClampNeg < 7 then some (decide (x.toNatClampNeg = y.toNatClampNeg)) else if (10 ≤ x.toNatClampNeg ∧ x.toNatClampNeg < 22) ∧ (10 ≤ y.toNatClampNeg ∧ y.toNatClampNeg < 22) then some (decide (x.toNatClampNeg = y.toNatClampNeg)) else none
theorem acO_spec {x y : Int32} {e : Bool} (cx : Cx g X own b) (h : acO x y = some e) : ga g x.toNatClampNeg = ga g y.toNatClampNeg ↔ e = true := by
  have h1 := cx.2.2.2.2.1.2.1.1.2
  have h2 := cx.2.2.2.2.1.2.1.2.1.2
  unfold acO at h
  split at h
  · rename_i hc
    cases h
    simp only [decide_eq_true_eq]
    exact ⟨fun q => h1 _ _ hc.1 hc.2 q, fun q => by rw [q]⟩
  · split at h
    · rename_i hc
      cases h
      simp only [decide_eq_true_eq]
      refine ⟨fun q => ?_, fun q => by rw [q]⟩
      have := h2 (x.toNatClampNeg - 10) (y.toNatClampNeg - 10) (by show _ < 12; omega) (by show _ < 12; omega) (by
        show ga g (10 + _) = ga g (10 + _)
        rw [show 10 + (x.toNatClampNeg - 10) = x.toNatClampNeg by omega, show 10 + (y.toNatClampNeg - 10) = y.toNatClampNeg by omega]; exact q)
      omega
    · cases h
theorem PW.acmp_eq {x y : Int32} {o : Int} {tgt : Nat} {ρ : Type} {A B : Option ρ} {r : Option ρ} (cx : Cx g X own b) (hd : Dj b pc (.if_acmp .eq o) o n tgt) (hf : ((acO x y).bind fun e => bcase e A B) = r) (hr : r ≠ none) (kA : A = r → PW g X ex Q cells slots sh h tgt L st) (kB : B = r → PW g X ex Q cells slots sh h n L st) : PW g X ex Q cells slots sh h pc L (.ref (ga g y.toNatClampNeg) :: .ref (ga g x.toNatClampNeg) :: st) := by
  obtain ⟨hd, rfl, ht⟩ := hd
  obtain ⟨e, he, hf⟩ := bndO hf hr
  have hs := acO_spec cx he
  refine fun H locs ls hH hS hL => lv_acmp_eq (rx := some (ga g x.toNatClampNeg)) (ry := some (ga g y.toNatClampNeg)) cx.1 cx.2.1 hd ht (fun q => ?_) (fun q => ?_)
  · have : e = true := hs.mp (Option.some.inj q)
    subst this
    exact kA hf H locs ls hH hS hL
  · have : e = false := by
      cases e
      · rfl
      · exact absurd (congrArg some (hs.mpr rfl)) q
    subst this
    exact kB hf H locs ls hH hS hL
theorem PW.acmp_ne {x y : Int32} {o : Int} {tgt : Nat} {ρ : Type} {A B : Option ρ} {r : Option ρ} (cx : Cx g X own b) (hd : Dj b pc (.if_acmp .ne o) o n tgt) (hf : ((acO x y).bind fun e => bcase e A B) = r) (hr : r ≠ none) (kA : A = r → PW g X ex Q cells slots sh h n L st) (kB : B = r → PW g X ex Q cells slots sh h tgt L st) : PW g X ex Q cells slots sh h pc L (.ref (ga g y.toNatClampNeg) :: .ref (ga g x.toNatClampNeg) :: st) := by
  obtain ⟨hd, rfl, ht⟩ := hd
  obtain ⟨e, he, hf⟩ := bndO hf hr
  have hs := acO_spec cx he
  refine fun H locs ls hH hS hL => lv_acmp_ne (rx := some (ga g x.toNatClampNeg)) (ry := some (ga g y.toNatClampNeg)) cx.1 cx.2.1 hd ht (fun q => ?_) (fun q => ?_)
  · have : e = false := by
      cases e
      · rfl
      · exact absurd (congrArg some (hs.mpr rfl)) q
    subst this
    exact kB hf H locs ls hH hS hL
  · have : e = true := hs.mp (Option.some.inj q)
    subst this
    exact kA hf H locs ls hH hS hL
theorem PW.gsT {idx : Nat} {v : Int32} {f : String} (cx : Cx g X own b) (hd : Dx b pc (.getstatic idx) 3 n) (hv : v.toNatClampNeg < 7) (hn : tokNm.getD v.toNatClampNeg "" = f) (hl : Cond.fieldLink own idx RX5 f "LClipHibernation$Token;" ∈ TG) (k : PW g X ex Q cells slots sh h n L (.ref (ga g v.toNatClampNeg) :: st)) : PW g X ex Q cells slots sh h pc L st := by
  obtain ⟨hd, rfl⟩ := hd
  subst hn
  exact fun H locs ls hH hS hL => va_gets cx.1 cx.2.1 (cx.2.2.2.2.1.2.1.1.1 _ hv).1 hS cx.2.2.1 (cx.2.2.2.1 _ hl) (fun _ q => q) hd (k H locs ls hH hS hL)
theorem PW.gsC {idx i : Nat} {v : Int32} {f : String} (cx : Cx g X own b) (hd : Dx b pc (.getstatic idx) 3 n) (hv : i < 12 ∧ v.toNatClampNeg = 10 + i) (hn : cmdNm.getD i "" = f) (hl : Cond.fieldLink own idx RX2 f "LClipHibernation$Command;" ∈ TG) (k : PW g X ex Q cells slots sh h n L (.ref (ga g v.toNatClampNeg) :: st)) : PW g X ex Q cells slots sh h pc L st := by
  obtain ⟨hd, rfl⟩ := hd
  subst hn
  rw [hv.2] at k
  exact fun H locs ls hH hS hL => va_gets cx.1 cx.2.1 (cx.2.2.2.2.1.2.1.2.1.1 i hv.1).1 hS cx.2.2.1 (cx.2.2.2.1 _ hl) (fun _ q => q) hd (k H locs ls hH hS hL)
theorem PW.gsW {idx : Nat} (cx : Cx g X own b) (hd : Dx b pc (.getstatic idx) 3 n) (hl : Cond.fieldLink own idx RX0 "$SwitchMap$ClipHibernation$Command" "[I" ∈ TG) (k : PW g X ex Q cells slots sh h n L (.ref (ga g 51) :: st)) : PW g X ex Q cells slots sh h pc L st := by
  obtain ⟨hd, rfl⟩ := hd
  exact fun H locs ls hH hS hL => va_gets cx.1 cx.2.1 cx.2.2.2.2.1.2.1.2.2.2.2.2.2.2.2.1.1 hS cx.2.2.1 (cx.2.2.2.1 _ hl) (fun _ q => q) hd (k H locs ls hH hS hL)
theorem PW.gsK {idx : Nat} (cx : Cx g X own b) (hd : Dx b pc (.getstatic idx) 3 n) (hl : Cond.fieldLink own idx RX3 "COMMANDS" "[LClipHibernation$Command;" ∈ TG) (k : PW g X ex Q cells slots sh h n L (.ref (ga g 50) :: st)) : PW g X ex Q cells slots sh h pc L st := by
  obtain ⟨hd, rfl⟩ := hd
  exact fun H locs ls hH hS hL => va_gets cx.1 cx.2.1 cx.2.2.2.2.1.2.1.2.2.2.2.2.2.2.1.1 hS cx.2.2.1 (cx.2.2.2.1 _ hl) (fun _ q => q) hd (k H locs ls hH hS hL)
def swO (i : Int32) : Option Int32 := if i < 0 ∨ 12 ≤ i.toNatClampNeg then none else some (nI (i.toNatClampNeg + 1))
theorem PW.swm {i : Int32} {ρ : Type} {F : Int32 → Option ρ} {r : Option ρ} (cx : Cx g X own b) (hd : Dx b pc .iaload 1 n) (hf : (swO i).bind F = r) (hr : r ≠ none) (k : ∀ z : Int32, F z = r → PW g X ex Q cells slots sh h n L (.int z :: st)) : PW g X ex Q cells slots sh h pc L (.int i :: .ref (ga g 51) :: st) := by
  obtain ⟨hd, rfl⟩ := hd
  by_cases hy : i < 0 ∨ 12 ≤ i.toNatClampNeg
  · simp [swO, hy] at hf
    exact absurd hf.symm hr
  · simp only [swO, if_neg hy, Option.bind_some] at hf
    exact fun H locs ls hH hS hL => va_ti cx.1 cx.2.1 cx.2.2.2.2.1.2.1.2.2.2.2.2.2.2.2.1.2 hS hy rfl hd (k _ hf H locs ls hH hS hL)
def cmO (i : Int32) : Option Int32 := if i < 0 ∨ 12 ≤ i.toNatClampNeg then none else some (nI (10 + i.toNatClampNeg))
theorem PW.cmlen {v : Int32} (cx : Cx g X own b) (hd : Dx b pc .arraylength 1 n) (hv : nI 12 = v) (k : PW g X ex Q cells slots sh h n L (.int v :: st)) : PW g X ex Q cells slots sh h pc L (.ref (ga g 50) :: st) := by
  obtain ⟨hd, rfl⟩ := hd
  exact fun H locs ls hH hS hL => va_tlen cx.1 cx.2.1 cx.2.2.2.2.1.2.1.2.2.2.2.2.2.2.1.2 hS hv hd (k H locs ls hH hS hL)
def slO (c : Int32) : Option Int32 := if 100 ≤ c.toNatClampNeg ∧ c.toNatClampNeg < 116 then some (nI (sx_len.getD (c.toNatClampNeg - 100) 0)) else none
def scO (c i : Int32) : Option Int32 := if 100 ≤ c.toNatClampNeg ∧ c.toNatClampNeg < 116 ∧ ¬ (i < 0 ∨ sx_len.getD (c.toNatClampNeg - 100) 0 ≤ i.toNatClampNeg) then some ((sx_byt.getD (c.toNatClampNeg - 100) []).getD i.toNatClampNeg 0) else none
def orO (c : Int32) : Option Int32 := if 10 ≤ c.toNatClampNeg ∧ c.toNatClampNeg < 22 then some (nI (c.toNatClampNeg - 10)) else none
def SK (own : String) (idx : Nat) (v : Int32) : Prop := ∃ (tx : String) (c : Nat), (own, idx, tx, c) ∈ sx_refs ∧ v.toNatClampNeg = 100 + c
theorem PW.ldcS {idx : Nat} {v : Int32} (cx : Cx g X own b) (hd : Dx b pc (.ldc idx) 2 n) (hk : SK own idx v) (k : PW g X ex Q cells slots sh h n L (.ref (ga g v.toNatClampNeg) :: st)) : PW g X ex Q cells slots sh h pc L st := by
  obtain ⟨hd, rfl⟩ := hd
  obtain ⟨tx, c, hm, hv⟩ := hk
  rw [hv] at k
  exact fun H locs ls hH hS hL => va_ldcS cx.1 cx.2.1 cx.2.2.1 (cx.2.2.2.2.1.2.1.2.2.2.2.1 _ hm) hd (k H locs ls hH hS hL)
end Rows7
end
section
def M_in (p1 : Int32) (p2 : Int32) (p3 : Int32) : Option (Bool) :=
  if p1 < p2 then
  some false
  else
  if p3 < p1 then
  some false
  else
  some true
def M_throwsOne (h : Hp) (p1 : Bool) : Option (Bool × Hp) :=
  if (b2i p1) = 0 then
  nm (up2 h 140 15 0) fun h1 =>
  some (p1, h1)
  else
  nm (up2 h 140 15 1) fun h2 =>
  some (p1, h2)
def M_throwsOne2 (h : Hp) (p1 : Bool) (p2 : Bool) : Option (Bool × Hp) :=
  lt (fun (z0_18 : Int32) =>
  nm (up2 h 140 15 z0_18) fun h1 =>
  if (b2i p1) = 0 then
  if (b2i p2) = 0 then
  some (false, h1)
  else
  some (true, h1)
  else
  some (true, h1)) fun j18 =>
  if (b2i p1) = 0 then
  if (b2i p2) = 0 then
  j18 0
  else
  j18 2
  else
  j18 1
def M_throwsOne3 (h : Hp) (p1 : Bool) (p2 : Bool) (p3 : Bool) : Option (Bool × Hp) :=
  lt (fun (z0_26 : Int32) =>
  nm (up2 h 140 15 z0_26) fun h1 =>
  if (b2i p1) = 0 then
  if (b2i p2) = 0 then
  if (b2i p3) = 0 then
  some (false, h1)
  else
  some (true, h1)
  else
  some (true, h1)
  else
  some (true, h1)) fun j26 =>
  if (b2i p1) = 0 then
  if (b2i p2) = 0 then
  if (b2i p3) = 0 then
  j26 0
  else
  j26 3
  else
  j26 2
  else
  j26 1
def M_of (h : Hp) (p1 : Int32) (p2 : Int32) : Option (Int32) :=
  (rdO 106 (h 141) ((8 + (4 * p1)) + p2)).bind fun t1 =>
  some t1
def M_to (h : Hp) (p1 : Int32) (p2 : Int32) (p3 : Int32) : Option (Hp) :=
  (wrO h 141 106 ((8 + (4 * p1)) + p2) p3).bind fun h1 =>
  some h1
def M_beds (h : Hp) (p1 : Int32) : Option (Int32) :=
  (rdO 106 (h 141) (56 + p1)).bind fun t1 =>
  some t1
def M_inBed (h : Hp) (p1 : Int32) (p2 : Int32) : Option (Int32) :=
  (rdO 106 (h 141) ((60 + (9 * p1)) + p2)).bind fun t1 =>
  some t1
def M_setBed (h : Hp) (p1 : Int32) (p2 : Int32) (p3 : Int32) : Option (Hp) :=
  (wrO h 141 106 ((60 + (9 * p1)) + p2) p3).bind fun h1 =>
  some h1
def M_digits_L4 : Nat → Int32 → Int32 → Option (Int32)
  | 0, _, _ => none
  | n + 1, v1, v2 =>
    if v2 ≤ 0 then
    some v1
    else
    M_digits_L4 n (v1 + 1) (v2 / 10)
def M_digits (p1 : Int32) : Option (Int32) :=
  (M_digits_L4 FU 0 p1).bind fun r1 => match r1 with
  | x1_2 =>
  some x1_2
def M_digit_L9 (c1 : Int32) : Nat → Int32 → Int32 → Option (Int32)
  | 0, _, _ => none
  | n + 1, v2, v3 =>
    if v3 ≤ c1 then
    some v2
    else
    M_digit_L9 c1 n (v2 / 10) (v3 + (-1))
def M_digit (p1 : Int32) (p2 : Int32) : Option (Int32) :=
  (M_digits p1).bind fun t1 =>
  (M_digit_L9 p2 FU p1 (t1 - 1)).bind fun r2 => match r2 with
  | x2_3 =>
  some (x2_3 - x2_3 / 10 * 10)
def M_hasZero_L2 : Nat → Int32 → Option ((Unit) ⊕ (Bool))
  | 0, _ => none
  | n + 1, v1 =>
    if v1 ≤ 0 then
    some (.inl ())
    else
    if (v1 - v1 / 10 * 10) = 0 then
    some (.inr true)
    else
    M_hasZero_L2 n (v1 / 10)
def M_hasZero (p1 : Int32) : Option (Bool) :=
  (M_hasZero_L2 FU p1).bind fun r1 => match r1 with
  | .inr y => some y
  | .inl () =>
  some false
def M_areColours (p1 : Int32) : Option (Bool) :=
  (M_in p1 1 99999999).bind fun t1 =>
  if (b2i t1) = 0 then
  some false
  else
  (M_hasZero p1).bind fun t2 =>
  if (b2i t2) = 0 then
  some true
  else
  some false
def M_hashOf_L4 (h : Hp) (c1 : Int32) : Nat → Int32 → Int32 → Option (Int32)
  | 0, _, _ => none
  | n + 1, v2, v3 =>
    (M_of h c1 0).bind fun t1 =>
    (M_digits t1).bind fun t2 =>
    if t2 ≤ v3 then
    some v2
    else
    (M_of h c1 0).bind fun t3 =>
    (M_digit t3 v3).bind fun t4 =>
    M_hashOf_L4 h c1 n (((31 * v2) + t4) - ((31 * v2) + t4) / 997 * 997) (v3 + 1)
def M_hashOf (h : Hp) (p1 : Int32) : Option (Int32) :=
  (M_hashOf_L4 h p1 FU 0 0).bind fun r5 => match r5 with
  | x2_6 =>
  some x2_6
def M_homeOf (h : Hp) (p1 : Int32) (p2 : Int32) : Option (Int32) :=
  (M_hashOf h p1).bind fun t1 =>
  (M_beds h p2).bind fun t2 =>
  (rmO t1 t2).bind fun t3 =>
  some t3
def M_onWay (h : Hp) (p1 : Int32) (p2 : Int32) (p3 : Int32) : Option (Int32) :=
  (M_homeOf h p1 p2).bind fun t1 =>
  (M_beds h p2).bind fun t2 =>
  (rmO (t1 + p3) t2).bind fun t3 =>
  some t3
def M_passedBy_L2 (h : Hp) (c1 : Int32) (c2 : Int32) : Nat → Int32 → Option ((Unit) ⊕ (Int32))
  | 0, _ => none
  | n + 1, v3 =>
    (M_beds h c2).bind fun t1 =>
    if t1 ≤ v3 then
    some (.inl ())
    else
    (M_onWay h c1 c2 v3).bind fun t2 =>
    (M_inBed h c2 t2).bind fun t3 =>
    if 0 ≤ t3 then
    M_passedBy_L2 h c1 c2 n (v3 + 1)
    else
    some (.inr v3)
def M_passedBy (h : Hp) (p1 : Int32) (p2 : Int32) : Option (Int32) :=
  (M_passedBy_L2 h p1 p2 FU 0).bind fun r4 => match r4 with
  | .inr y => some y
  | .inl () =>
  some (-1)
def M_looks_L2 (h : Hp) (c1 : Int32) (c2 : Int32) : Nat → Int32 → Option ((Unit) ⊕ (Int32))
  | 0, _ => none
  | n + 1, v3 =>
    (M_beds h c2).bind fun t1 =>
    if t1 ≤ v3 then
    some (.inl ())
    else
    (M_onWay h c1 c2 v3).bind fun t2 =>
    (M_inBed h c2 t2).bind fun t3 =>
    if t3 = c1 then
    some (.inr (v3 + 1))
    else
    if t3 = (-1) then
    some (.inr (v3 + 1))
    else
    M_looks_L2 h c1 c2 n (v3 + 1)
def M_looks (h : Hp) (p1 : Int32) (p2 : Int32) : Option (Int32) :=
  (M_looks_L2 h p1 p2 FU 0).bind fun r4 => match r4 with
  | .inr y => some y
  | .inl () =>
  (M_beds h p2).bind fun t5 =>
  some t5
end
section
abbrev mX7_in : MT := (yX7_in, cX7_in, 3, (some .boolean))
theorem qX7_in_0 : Dx cX7_in 0 (.iload_n 0) 1 1 := ⟨by decide +kernel, rfl⟩
theorem qX7_in_1 : Dx cX7_in 1 (.iload_n 1) 1 2 := ⟨by decide +kernel, rfl⟩
theorem qX7_in_2 : Dj cX7_in 2 (.if_icmp .lt 12) 12 5 14 := ⟨by decide +kernel, rfl, rfl⟩
theorem qX7_in_5 : Dx cX7_in 5 (.iload_n 0) 1 6 := ⟨by decide +kernel, rfl⟩
theorem qX7_in_6 : Dx cX7_in 6 (.iload_n 2) 1 7 := ⟨by decide +kernel, rfl⟩
theorem qX7_in_7 : Dj cX7_in 7 (.if_icmp .gt 7) 7 10 14 := ⟨by decide +kernel, rfl, rfl⟩
theorem qX7_in_10 : Dx cX7_in 10 (.iconst 1) 1 11 := ⟨by decide +kernel, rfl⟩
theorem qX7_in_11 : Dj cX7_in 11 (.goto 4) 4 14 15 := ⟨by decide +kernel, rfl, rfl⟩
theorem qX7_in_14 : Dx cX7_in 14 (.iconst 0) 1 15 := ⟨by decide +kernel, rfl⟩
theorem qX7_in_15 : Dx cX7_in 15 (.ireturn) 1 16 := ⟨by decide +kernel, rfl⟩
abbrev mX7_throwsOne : MT := (yX7_throwsOne, cX7_throwsOne, 2, (some .boolean))
theorem qX7_throwsOne_0 : Dx cX7_throwsOne 0 (.aload_n 0) 1 1 := ⟨by decide +kernel, rfl⟩
theorem qX7_throwsOne_1 : Dx cX7_throwsOne 1 (.iload_n 1) 1 2 := ⟨by decide +kernel, rfl⟩
theorem qX7_throwsOne_2 : Dj cX7_throwsOne 2 (.ifCond .eq 7) 7 5 9 := ⟨by decide +kernel, rfl, rfl⟩
theorem qX7_throwsOne_5 : Dx cX7_throwsOne 5 (.iconst 1) 1 6 := ⟨by decide +kernel, rfl⟩
theorem qX7_throwsOne_6 : Dj cX7_throwsOne 6 (.goto 4) 4 9 10 := ⟨by decide +kernel, rfl, rfl⟩
theorem qX7_throwsOne_9 : Dx cX7_throwsOne 9 (.iconst 0) 1 10 := ⟨by decide +kernel, rfl⟩
theorem qX7_throwsOne_10 : Dx cX7_throwsOne 10 (.putfield 54) 3 13 := ⟨by decide +kernel, rfl⟩
theorem qX7_throwsOne_13 : Dx cX7_throwsOne 13 (.iload_n 1) 1 14 := ⟨by decide +kernel, rfl⟩
theorem qX7_throwsOne_14 : Dx cX7_throwsOne 14 (.ireturn) 1 15 := ⟨by decide +kernel, rfl⟩
theorem flX7_54 : FL RX7 54 4 15 := ⟨RX7, TX7, 22, rfl, by decide, rfl, Or.inl (tg 1638 (by decide +kernel) (by decide +kernel))⟩
theorem fpX7_54 : FP RX7 54 4 15 .int := ⟨flX7_54, fun C T N h => by cases h; exact ⟨rfl, by decide +kernel⟩⟩
abbrev mX7_throwsOne_ : MT := (yX7_throwsOne_, cX7_throwsOne_, 3, (some .boolean))
theorem qX7_throwsOne__0 : Dx cX7_throwsOne_ 0 (.aload_n 0) 1 1 := ⟨by decide +kernel, rfl⟩
theorem qX7_throwsOne__1 : Dx cX7_throwsOne_ 1 (.iload_n 1) 1 2 := ⟨by decide +kernel, rfl⟩
theorem qX7_throwsOne__2 : Dj cX7_throwsOne_ 2 (.ifCond .eq 7) 7 5 9 := ⟨by decide +kernel, rfl, rfl⟩
theorem qX7_throwsOne__5 : Dx cX7_throwsOne_ 5 (.iconst 1) 1 6 := ⟨by decide +kernel, rfl⟩
theorem qX7_throwsOne__6 : Dj cX7_throwsOne_ 6 (.goto 12) 12 9 18 := ⟨by decide +kernel, rfl, rfl⟩
theorem qX7_throwsOne__9 : Dx cX7_throwsOne_ 9 (.iload_n 2) 1 10 := ⟨by decide +kernel, rfl⟩
theorem qX7_throwsOne__10 : Dj cX7_throwsOne_ 10 (.ifCond .eq 7) 7 13 17 := ⟨by decide +kernel, rfl, rfl⟩
theorem qX7_throwsOne__13 : Dx cX7_throwsOne_ 13 (.iconst 2) 1 14 := ⟨by decide +kernel, rfl⟩
theorem qX7_throwsOne__14 : Dj cX7_throwsOne_ 14 (.goto 4) 4 17 18 := ⟨by decide +kernel, rfl, rfl⟩
theorem qX7_throwsOne__17 : Dx cX7_throwsOne_ 17 (.iconst 0) 1 18 := ⟨by decide +kernel, rfl⟩
theorem qX7_throwsOne__18 : Dx cX7_throwsOne_ 18 (.putfield 54) 3 21 := ⟨by decide +kernel, rfl⟩
theorem qX7_throwsOne__21 : Dx cX7_throwsOne_ 21 (.iload_n 1) 1 22 := ⟨by decide +kernel, rfl⟩
theorem qX7_throwsOne__22 : Dj cX7_throwsOne_ 22 (.ifCond .ne 7) 7 25 29 := ⟨by decide +kernel, rfl, rfl⟩
theorem qX7_throwsOne__25 : Dx cX7_throwsOne_ 25 (.iload_n 2) 1 26 := ⟨by decide +kernel, rfl⟩
theorem qX7_throwsOne__26 : Dj cX7_throwsOne_ 26 (.ifCond .eq 7) 7 29 33 := ⟨by decide +kernel, rfl, rfl⟩
theorem qX7_throwsOne__29 : Dx cX7_throwsOne_ 29 (.iconst 1) 1 30 := ⟨by decide +kernel, rfl⟩
theorem qX7_throwsOne__30 : Dj cX7_throwsOne_ 30 (.goto 4) 4 33 34 := ⟨by decide +kernel, rfl, rfl⟩
theorem qX7_throwsOne__33 : Dx cX7_throwsOne_ 33 (.iconst 0) 1 34 := ⟨by decide +kernel, rfl⟩
theorem qX7_throwsOne__34 : Dx cX7_throwsOne_ 34 (.ireturn) 1 35 := ⟨by decide +kernel, rfl⟩
abbrev mX7_throwsOne__ : MT := (yX7_throwsOne__, cX7_throwsOne__, 4, (some .boolean))
theorem qX7_throwsOne___0 : Dx cX7_throwsOne__ 0 (.aload_n 0) 1 1 := ⟨by decide +kernel, rfl⟩
theorem qX7_throwsOne___1 : Dx cX7_throwsOne__ 1 (.iload_n 1) 1 2 := ⟨by decide +kernel, rfl⟩
theorem qX7_throwsOne___2 : Dj cX7_throwsOne__ 2 (.ifCond .eq 7) 7 5 9 := ⟨by decide +kernel, rfl, rfl⟩
theorem qX7_throwsOne___5 : Dx cX7_throwsOne__ 5 (.iconst 1) 1 6 := ⟨by decide +kernel, rfl⟩
theorem qX7_throwsOne___6 : Dj cX7_throwsOne__ 6 (.goto 20) 20 9 26 := ⟨by decide +kernel, rfl, rfl⟩
theorem qX7_throwsOne___9 : Dx cX7_throwsOne__ 9 (.iload_n 2) 1 10 := ⟨by decide +kernel, rfl⟩
theorem qX7_throwsOne___10 : Dj cX7_throwsOne__ 10 (.ifCond .eq 7) 7 13 17 := ⟨by decide +kernel, rfl, rfl⟩
theorem qX7_throwsOne___13 : Dx cX7_throwsOne__ 13 (.iconst 2) 1 14 := ⟨by decide +kernel, rfl⟩
theorem qX7_throwsOne___14 : Dj cX7_throwsOne__ 14 (.goto 12) 12 17 26 := ⟨by decide +kernel, rfl, rfl⟩
theorem qX7_throwsOne___17 : Dx cX7_throwsOne__ 17 (.iload_n 3) 1 18 := ⟨by decide +kernel, rfl⟩
theorem qX7_throwsOne___18 : Dj cX7_throwsOne__ 18 (.ifCond .eq 7) 7 21 25 := ⟨by decide +kernel, rfl, rfl⟩
theorem qX7_throwsOne___21 : Dx cX7_throwsOne__ 21 (.iconst 3) 1 22 := ⟨by decide +kernel, rfl⟩
theorem qX7_throwsOne___22 : Dj cX7_throwsOne__ 22 (.goto 4) 4 25 26 := ⟨by decide +kernel, rfl, rfl⟩
theorem qX7_throwsOne___25 : Dx cX7_throwsOne__ 25 (.iconst 0) 1 26 := ⟨by decide +kernel, rfl⟩
theorem qX7_throwsOne___26 : Dx cX7_throwsOne__ 26 (.putfield 54) 3 29 := ⟨by decide +kernel, rfl⟩
theorem qX7_throwsOne___29 : Dx cX7_throwsOne__ 29 (.iload_n 1) 1 30 := ⟨by decide +kernel, rfl⟩
theorem qX7_throwsOne___30 : Dj cX7_throwsOne__ 30 (.ifCond .ne 11) 11 33 41 := ⟨by decide +kernel, rfl, rfl⟩
theorem qX7_throwsOne___33 : Dx cX7_throwsOne__ 33 (.iload_n 2) 1 34 := ⟨by decide +kernel, rfl⟩
theorem qX7_throwsOne___34 : Dj cX7_throwsOne__ 34 (.ifCond .ne 7) 7 37 41 := ⟨by decide +kernel, rfl, rfl⟩
theorem qX7_throwsOne___37 : Dx cX7_throwsOne__ 37 (.iload_n 3) 1 38 := ⟨by decide +kernel, rfl⟩
theorem qX7_throwsOne___38 : Dj cX7_throwsOne__ 38 (.ifCond .eq 7) 7 41 45 := ⟨by decide +kernel, rfl, rfl⟩
theorem qX7_throwsOne___41 : Dx cX7_throwsOne__ 41 (.iconst 1) 1 42 := ⟨by decide +kernel, rfl⟩
theorem qX7_throwsOne___42 : Dj cX7_throwsOne__ 42 (.goto 4) 4 45 46 := ⟨by decide +kernel, rfl, rfl⟩
theorem qX7_throwsOne___45 : Dx cX7_throwsOne__ 45 (.iconst 0) 1 46 := ⟨by decide +kernel, rfl⟩
theorem qX7_throwsOne___46 : Dx cX7_throwsOne__ 46 (.ireturn) 1 47 := ⟨by decide +kernel, rfl⟩
abbrev mX7_of : MT := (yX7_of, cX7_of, 3, (some .int))
theorem qX7_of_0 : Dx cX7_of 0 (.aload_n 0) 1 1 := ⟨by decide +kernel, rfl⟩
theorem qX7_of_1 : Dx cX7_of 1 (.getfield 7) 3 4 := ⟨by decide +kernel, rfl⟩
theorem qX7_of_4 : Dx cX7_of 4 (.bipush 8) 2 6 := ⟨by decide +kernel, rfl⟩
theorem qX7_of_6 : Dx cX7_of 6 (.iconst 4) 1 7 := ⟨by decide +kernel, rfl⟩
theorem qX7_of_7 : Dx cX7_of 7 (.iload_n 1) 1 8 := ⟨by decide +kernel, rfl⟩
theorem qX7_of_8 : Dx cX7_of 8 (.imul) 1 9 := ⟨by decide +kernel, rfl⟩
theorem qX7_of_9 : Dx cX7_of 9 (.iadd) 1 10 := ⟨by decide +kernel, rfl⟩
theorem qX7_of_10 : Dx cX7_of 10 (.iload_n 2) 1 11 := ⟨by decide +kernel, rfl⟩
theorem qX7_of_11 : Dx cX7_of 11 (.iadd) 1 12 := ⟨by decide +kernel, rfl⟩
theorem qX7_of_12 : Dx cX7_of 12 (.iaload) 1 13 := ⟨by decide +kernel, rfl⟩
theorem qX7_of_13 : Dx cX7_of 13 (.ireturn) 1 14 := ⟨by decide +kernel, rfl⟩
theorem flX7_7 : FL RX7 7 4 0 := ⟨RX7, TX7, 22, rfl, by decide, rfl, Or.inl (tg 1623 (by decide +kernel) (by decide +kernel))⟩
abbrev mX7_to : MT := (yX7_to, cX7_to, 4, none)
theorem qX7_to_0 : Dx cX7_to 0 (.aload_n 0) 1 1 := ⟨by decide +kernel, rfl⟩
theorem qX7_to_1 : Dx cX7_to 1 (.getfield 7) 3 4 := ⟨by decide +kernel, rfl⟩
theorem qX7_to_4 : Dx cX7_to 4 (.bipush 8) 2 6 := ⟨by decide +kernel, rfl⟩
theorem qX7_to_6 : Dx cX7_to 6 (.iconst 4) 1 7 := ⟨by decide +kernel, rfl⟩
theorem qX7_to_7 : Dx cX7_to 7 (.iload_n 1) 1 8 := ⟨by decide +kernel, rfl⟩
theorem qX7_to_8 : Dx cX7_to 8 (.imul) 1 9 := ⟨by decide +kernel, rfl⟩
theorem qX7_to_9 : Dx cX7_to 9 (.iadd) 1 10 := ⟨by decide +kernel, rfl⟩
theorem qX7_to_10 : Dx cX7_to 10 (.iload_n 2) 1 11 := ⟨by decide +kernel, rfl⟩
theorem qX7_to_11 : Dx cX7_to 11 (.iadd) 1 12 := ⟨by decide +kernel, rfl⟩
theorem qX7_to_12 : Dx cX7_to 12 (.iload_n 3) 1 13 := ⟨by decide +kernel, rfl⟩
theorem qX7_to_13 : Dx cX7_to 13 (.iastore) 1 14 := ⟨by decide +kernel, rfl⟩
theorem qX7_to_14 : Dx cX7_to 14 (.return_) 1 15 := ⟨by decide +kernel, rfl⟩
abbrev mX7_beds : MT := (yX7_beds, cX7_beds, 2, (some .int))
theorem qX7_beds_0 : Dx cX7_beds 0 (.aload_n 0) 1 1 := ⟨by decide +kernel, rfl⟩
theorem qX7_beds_1 : Dx cX7_beds 1 (.getfield 7) 3 4 := ⟨by decide +kernel, rfl⟩
theorem qX7_beds_4 : Dx cX7_beds 4 (.bipush 56) 2 6 := ⟨by decide +kernel, rfl⟩
theorem qX7_beds_6 : Dx cX7_beds 6 (.iload_n 1) 1 7 := ⟨by decide +kernel, rfl⟩
theorem qX7_beds_7 : Dx cX7_beds 7 (.iadd) 1 8 := ⟨by decide +kernel, rfl⟩
theorem qX7_beds_8 : Dx cX7_beds 8 (.iaload) 1 9 := ⟨by decide +kernel, rfl⟩
theorem qX7_beds_9 : Dx cX7_beds 9 (.ireturn) 1 10 := ⟨by decide +kernel, rfl⟩
abbrev mX7_inBed : MT := (yX7_inBed, cX7_inBed, 3, (some .int))
theorem qX7_inBed_0 : Dx cX7_inBed 0 (.aload_n 0) 1 1 := ⟨by decide +kernel, rfl⟩
theorem qX7_inBed_1 : Dx cX7_inBed 1 (.getfield 7) 3 4 := ⟨by decide +kernel, rfl⟩
theorem qX7_inBed_4 : Dx cX7_inBed 4 (.bipush 60) 2 6 := ⟨by decide +kernel, rfl⟩
theorem qX7_inBed_6 : Dx cX7_inBed 6 (.bipush 9) 2 8 := ⟨by decide +kernel, rfl⟩
theorem qX7_inBed_8 : Dx cX7_inBed 8 (.iload_n 1) 1 9 := ⟨by decide +kernel, rfl⟩
theorem qX7_inBed_9 : Dx cX7_inBed 9 (.imul) 1 10 := ⟨by decide +kernel, rfl⟩
theorem qX7_inBed_10 : Dx cX7_inBed 10 (.iadd) 1 11 := ⟨by decide +kernel, rfl⟩
theorem qX7_inBed_11 : Dx cX7_inBed 11 (.iload_n 2) 1 12 := ⟨by decide +kernel, rfl⟩
theorem qX7_inBed_12 : Dx cX7_inBed 12 (.iadd) 1 13 := ⟨by decide +kernel, rfl⟩
theorem qX7_inBed_13 : Dx cX7_inBed 13 (.iaload) 1 14 := ⟨by decide +kernel, rfl⟩
theorem qX7_inBed_14 : Dx cX7_inBed 14 (.ireturn) 1 15 := ⟨by decide +kernel, rfl⟩
abbrev mX7_setBed : MT := (yX7_setBed, cX7_setBed, 4, none)
theorem qX7_setBed_0 : Dx cX7_setBed 0 (.aload_n 0) 1 1 := ⟨by decide +kernel, rfl⟩
theorem qX7_setBed_1 : Dx cX7_setBed 1 (.getfield 7) 3 4 := ⟨by decide +kernel, rfl⟩
theorem qX7_setBed_4 : Dx cX7_setBed 4 (.bipush 60) 2 6 := ⟨by decide +kernel, rfl⟩
theorem qX7_setBed_6 : Dx cX7_setBed 6 (.bipush 9) 2 8 := ⟨by decide +kernel, rfl⟩
theorem qX7_setBed_8 : Dx cX7_setBed 8 (.iload_n 1) 1 9 := ⟨by decide +kernel, rfl⟩
theorem qX7_setBed_9 : Dx cX7_setBed 9 (.imul) 1 10 := ⟨by decide +kernel, rfl⟩
theorem qX7_setBed_10 : Dx cX7_setBed 10 (.iadd) 1 11 := ⟨by decide +kernel, rfl⟩
theorem qX7_setBed_11 : Dx cX7_setBed 11 (.iload_n 2) 1 12 := ⟨by decide +kernel, rfl⟩
theorem qX7_setBed_12 : Dx cX7_setBed 12 (.iadd) 1 13 := ⟨by decide +kernel, rfl⟩
theorem qX7_setBed_13 : Dx cX7_setBed 13 (.iload_n 3) 1 14 := ⟨by decide +kernel, rfl⟩
theorem qX7_setBed_14 : Dx cX7_setBed 14 (.iastore) 1 15 := ⟨by decide +kernel, rfl⟩
theorem qX7_setBed_15 : Dx cX7_setBed 15 (.return_) 1 16 := ⟨by decide +kernel, rfl⟩
abbrev mX7_digits : MT := (yX7_digits, cX7_digits, 3, (some .int))
theorem qX7_digits_0 : Dx cX7_digits 0 (.iconst 0) 1 1 := ⟨by decide +kernel, rfl⟩
theorem qX7_digits_1 : Dx cX7_digits 1 (.istore_n 1) 1 2 := ⟨by decide +kernel, rfl⟩
theorem qX7_digits_2 : Dx cX7_digits 2 (.iload_n 0) 1 3 := ⟨by decide +kernel, rfl⟩
theorem qX7_digits_3 : Dx cX7_digits 3 (.istore_n 2) 1 4 := ⟨by decide +kernel, rfl⟩
theorem qX7_digits_4 : Dx cX7_digits 4 (.iload_n 2) 1 5 := ⟨by decide +kernel, rfl⟩
theorem qX7_digits_5 : Dj cX7_digits 5 (.ifCond .le 14) 14 8 19 := ⟨by decide +kernel, rfl, rfl⟩
theorem qX7_digits_8 : Dx cX7_digits 8 (.iinc 1 1) 3 11 := ⟨by decide +kernel, rfl⟩
theorem qX7_digits_11 : Dx cX7_digits 11 (.iload_n 2) 1 12 := ⟨by decide +kernel, rfl⟩
theorem qX7_digits_12 : Dx cX7_digits 12 (.bipush 10) 2 14 := ⟨by decide +kernel, rfl⟩
theorem qX7_digits_14 : Dx cX7_digits 14 (.idiv) 1 15 := ⟨by decide +kernel, rfl⟩
theorem qX7_digits_15 : Dx cX7_digits 15 (.istore_n 2) 1 16 := ⟨by decide +kernel, rfl⟩
theorem qX7_digits_16 : Dj cX7_digits 16 (.goto (-12)) (-12) 19 4 := ⟨by decide +kernel, rfl, rfl⟩
theorem qX7_digits_19 : Dx cX7_digits 19 (.iload_n 1) 1 20 := ⟨by decide +kernel, rfl⟩
theorem qX7_digits_20 : Dx cX7_digits 20 (.ireturn) 1 21 := ⟨by decide +kernel, rfl⟩
abbrev mX7_digit : MT := (yX7_digit, cX7_digit, 4, (some .int))
theorem qX7_digit_0 : Dx cX7_digit 0 (.iload_n 0) 1 1 := ⟨by decide +kernel, rfl⟩
theorem qX7_digit_1 : Dx cX7_digit 1 (.istore_n 2) 1 2 := ⟨by decide +kernel, rfl⟩
theorem qX7_digit_2 : Dx cX7_digit 2 (.iload_n 0) 1 3 := ⟨by decide +kernel, rfl⟩
theorem qX7_digit_3 : Dx cX7_digit 3 (.invokestatic 61) 3 6 := ⟨by decide +kernel, rfl⟩
theorem qX7_digit_6 : Dx cX7_digit 6 (.iconst 1) 1 7 := ⟨by decide +kernel, rfl⟩
theorem qX7_digit_7 : Dx cX7_digit 7 (.isub) 1 8 := ⟨by decide +kernel, rfl⟩
theorem qX7_digit_8 : Dx cX7_digit 8 (.istore_n 3) 1 9 := ⟨by decide +kernel, rfl⟩
theorem qX7_digit_9 : Dx cX7_digit 9 (.iload_n 3) 1 10 := ⟨by decide +kernel, rfl⟩
theorem qX7_digit_10 : Dx cX7_digit 10 (.iload_n 1) 1 11 := ⟨by decide +kernel, rfl⟩
theorem qX7_digit_11 : Dj cX7_digit 11 (.if_icmp .le 14) 14 14 25 := ⟨by decide +kernel, rfl, rfl⟩
theorem qX7_digit_14 : Dx cX7_digit 14 (.iload_n 2) 1 15 := ⟨by decide +kernel, rfl⟩
theorem qX7_digit_15 : Dx cX7_digit 15 (.bipush 10) 2 17 := ⟨by decide +kernel, rfl⟩
theorem qX7_digit_17 : Dx cX7_digit 17 (.idiv) 1 18 := ⟨by decide +kernel, rfl⟩
theorem qX7_digit_18 : Dx cX7_digit 18 (.istore_n 2) 1 19 := ⟨by decide +kernel, rfl⟩
theorem qX7_digit_19 : Dx cX7_digit 19 (.iinc 3 (-1)) 3 22 := ⟨by decide +kernel, rfl⟩
theorem qX7_digit_22 : Dj cX7_digit 22 (.goto (-13)) (-13) 25 9 := ⟨by decide +kernel, rfl, rfl⟩
theorem qX7_digit_25 : Dx cX7_digit 25 (.iload_n 2) 1 26 := ⟨by decide +kernel, rfl⟩
theorem qX7_digit_26 : Dx cX7_digit 26 (.bipush 10) 2 28 := ⟨by decide +kernel, rfl⟩
theorem qX7_digit_28 : Dx cX7_digit 28 (.irem) 1 29 := ⟨by decide +kernel, rfl⟩
theorem qX7_digit_29 : Dx cX7_digit 29 (.ireturn) 1 30 := ⟨by decide +kernel, rfl⟩
theorem klX7_61 : KL RX7 61 mX7_digits := Or.inl (tg 1525 (by decide +kernel) (by decide +kernel))
theorem miX7_digits : MSt mX7_digits 1 := ⟨⟨(tg 1527 (by decide +kernel) (by decide +kernel)), (tg 179 (by decide +kernel) (by decide +kernel)), ⟨by decide +kernel, by decide +kernel⟩, by decide +kernel⟩, (tg 1526 (by decide +kernel) (by decide +kernel))⟩
abbrev mX7_hasZero : MT := (yX7_hasZero, cX7_hasZero, 2, (some .boolean))
theorem qX7_hasZero_0 : Dx cX7_hasZero 0 (.iload_n 0) 1 1 := ⟨by decide +kernel, rfl⟩
theorem qX7_hasZero_1 : Dx cX7_hasZero 1 (.istore_n 1) 1 2 := ⟨by decide +kernel, rfl⟩
theorem qX7_hasZero_2 : Dx cX7_hasZero 2 (.iload_n 1) 1 3 := ⟨by decide +kernel, rfl⟩
theorem qX7_hasZero_3 : Dj cX7_hasZero 3 (.ifCond .le 20) 20 6 23 := ⟨by decide +kernel, rfl, rfl⟩
theorem qX7_hasZero_6 : Dx cX7_hasZero 6 (.iload_n 1) 1 7 := ⟨by decide +kernel, rfl⟩
theorem qX7_hasZero_7 : Dx cX7_hasZero 7 (.bipush 10) 2 9 := ⟨by decide +kernel, rfl⟩
theorem qX7_hasZero_9 : Dx cX7_hasZero 9 (.irem) 1 10 := ⟨by decide +kernel, rfl⟩
theorem qX7_hasZero_10 : Dj cX7_hasZero 10 (.ifCond .ne 5) 5 13 15 := ⟨by decide +kernel, rfl, rfl⟩
theorem qX7_hasZero_13 : Dx cX7_hasZero 13 (.iconst 1) 1 14 := ⟨by decide +kernel, rfl⟩
theorem qX7_hasZero_14 : Dx cX7_hasZero 14 (.ireturn) 1 15 := ⟨by decide +kernel, rfl⟩
theorem qX7_hasZero_15 : Dx cX7_hasZero 15 (.iload_n 1) 1 16 := ⟨by decide +kernel, rfl⟩
theorem qX7_hasZero_16 : Dx cX7_hasZero 16 (.bipush 10) 2 18 := ⟨by decide +kernel, rfl⟩
theorem qX7_hasZero_18 : Dx cX7_hasZero 18 (.idiv) 1 19 := ⟨by decide +kernel, rfl⟩
theorem qX7_hasZero_19 : Dx cX7_hasZero 19 (.istore_n 1) 1 20 := ⟨by decide +kernel, rfl⟩
theorem qX7_hasZero_20 : Dj cX7_hasZero 20 (.goto (-18)) (-18) 23 2 := ⟨by decide +kernel, rfl, rfl⟩
theorem qX7_hasZero_23 : Dx cX7_hasZero 23 (.iconst 0) 1 24 := ⟨by decide +kernel, rfl⟩
theorem qX7_hasZero_24 : Dx cX7_hasZero 24 (.ireturn) 1 25 := ⟨by decide +kernel, rfl⟩
abbrev mX7_areColours : MT := (yX7_areColours, cX7_areColours, 1, (some .boolean))
theorem qX7_areColours_0 : Dx cX7_areColours 0 (.iload_n 0) 1 1 := ⟨by decide +kernel, rfl⟩
theorem qX7_areColours_1 : Dx cX7_areColours 1 (.iconst 1) 1 2 := ⟨by decide +kernel, rfl⟩
theorem qX7_areColours_2 : Dx cX7_areColours 2 (.ldc 65) 2 4 := ⟨by decide +kernel, rfl⟩
theorem qX7_areColours_4 : Dx cX7_areColours 4 (.invokestatic 57) 3 7 := ⟨by decide +kernel, rfl⟩
theorem qX7_areColours_7 : Dj cX7_areColours 7 (.ifCond .eq 14) 14 10 21 := ⟨by decide +kernel, rfl, rfl⟩
theorem qX7_areColours_10 : Dx cX7_areColours 10 (.iload_n 0) 1 11 := ⟨by decide +kernel, rfl⟩
theorem qX7_areColours_11 : Dx cX7_areColours 11 (.invokestatic 66) 3 14 := ⟨by decide +kernel, rfl⟩
theorem qX7_areColours_14 : Dj cX7_areColours 14 (.ifCond .ne 7) 7 17 21 := ⟨by decide +kernel, rfl, rfl⟩
theorem qX7_areColours_17 : Dx cX7_areColours 17 (.iconst 1) 1 18 := ⟨by decide +kernel, rfl⟩
theorem qX7_areColours_18 : Dj cX7_areColours 18 (.goto 4) 4 21 22 := ⟨by decide +kernel, rfl, rfl⟩
theorem qX7_areColours_21 : Dx cX7_areColours 21 (.iconst 0) 1 22 := ⟨by decide +kernel, rfl⟩
theorem qX7_areColours_22 : Dx cX7_areColours 22 (.ireturn) 1 23 := ⟨by decide +kernel, rfl⟩
theorem klX7_57 : KL RX7 57 mX7_in := Or.inl (tg 1439 (by decide +kernel) (by decide +kernel))
theorem klX7_66 : KL RX7 66 mX7_hasZero := Or.inl (tg 1454 (by decide +kernel) (by decide +kernel))
theorem miX7_hasZero : MSt mX7_hasZero 1 := ⟨⟨(tg 1456 (by decide +kernel) (by decide +kernel)), (tg 179 (by decide +kernel) (by decide +kernel)), ⟨by decide +kernel, by decide +kernel⟩, by decide +kernel⟩, (tg 1455 (by decide +kernel) (by decide +kernel))⟩
theorem miX7_in : MSt mX7_in 3 := ⟨⟨(tg 1441 (by decide +kernel) (by decide +kernel)), (tg 179 (by decide +kernel) (by decide +kernel)), ⟨by decide +kernel, by decide +kernel⟩, by decide +kernel⟩, (tg 1440 (by decide +kernel) (by decide +kernel))⟩
theorem kcX7_65 : Cond.constant RX7 65 (99999999) ∈ TG := (tg 1453 (by decide +kernel) (by decide +kernel))
abbrev mX7_hashOf : MT := (yX7_hashOf, cX7_hashOf, 4, (some .int))
theorem qX7_hashOf_0 : Dx cX7_hashOf 0 (.iconst 0) 1 1 := ⟨by decide +kernel, rfl⟩
theorem qX7_hashOf_1 : Dx cX7_hashOf 1 (.istore_n 2) 1 2 := ⟨by decide +kernel, rfl⟩
theorem qX7_hashOf_2 : Dx cX7_hashOf 2 (.iconst 0) 1 3 := ⟨by decide +kernel, rfl⟩
theorem qX7_hashOf_3 : Dx cX7_hashOf 3 (.istore_n 3) 1 4 := ⟨by decide +kernel, rfl⟩
theorem qX7_hashOf_4 : Dx cX7_hashOf 4 (.iload_n 3) 1 5 := ⟨by decide +kernel, rfl⟩
theorem qX7_hashOf_5 : Dx cX7_hashOf 5 (.aload_n 0) 1 6 := ⟨by decide +kernel, rfl⟩
theorem qX7_hashOf_6 : Dx cX7_hashOf 6 (.iload_n 1) 1 7 := ⟨by decide +kernel, rfl⟩
theorem qX7_hashOf_7 : Dx cX7_hashOf 7 (.iconst 0) 1 8 := ⟨by decide +kernel, rfl⟩
theorem qX7_hashOf_8 : Dx cX7_hashOf 8 (.invokevirtual 70) 3 11 := ⟨by decide +kernel, rfl⟩
theorem qX7_hashOf_11 : Dx cX7_hashOf 11 (.invokestatic 61) 3 14 := ⟨by decide +kernel, rfl⟩
theorem qX7_hashOf_14 : Dj cX7_hashOf 14 (.if_icmp .ge 29) 29 17 43 := ⟨by decide +kernel, rfl, rfl⟩
theorem qX7_hashOf_17 : Dx cX7_hashOf 17 (.bipush 31) 2 19 := ⟨by decide +kernel, rfl⟩
theorem qX7_hashOf_19 : Dx cX7_hashOf 19 (.iload_n 2) 1 20 := ⟨by decide +kernel, rfl⟩
theorem qX7_hashOf_20 : Dx cX7_hashOf 20 (.imul) 1 21 := ⟨by decide +kernel, rfl⟩
theorem qX7_hashOf_21 : Dx cX7_hashOf 21 (.aload_n 0) 1 22 := ⟨by decide +kernel, rfl⟩
theorem qX7_hashOf_22 : Dx cX7_hashOf 22 (.iload_n 1) 1 23 := ⟨by decide +kernel, rfl⟩
theorem qX7_hashOf_23 : Dx cX7_hashOf 23 (.iconst 0) 1 24 := ⟨by decide +kernel, rfl⟩
theorem qX7_hashOf_24 : Dx cX7_hashOf 24 (.invokevirtual 70) 3 27 := ⟨by decide +kernel, rfl⟩
theorem qX7_hashOf_27 : Dx cX7_hashOf 27 (.iload_n 3) 1 28 := ⟨by decide +kernel, rfl⟩
theorem qX7_hashOf_28 : Dx cX7_hashOf 28 (.invokestatic 74) 3 31 := ⟨by decide +kernel, rfl⟩
theorem qX7_hashOf_31 : Dx cX7_hashOf 31 (.iadd) 1 32 := ⟨by decide +kernel, rfl⟩
theorem qX7_hashOf_32 : Dx cX7_hashOf 32 (.sipush 997) 3 35 := ⟨by decide +kernel, rfl⟩
theorem qX7_hashOf_35 : Dx cX7_hashOf 35 (.irem) 1 36 := ⟨by decide +kernel, rfl⟩
theorem qX7_hashOf_36 : Dx cX7_hashOf 36 (.istore_n 2) 1 37 := ⟨by decide +kernel, rfl⟩
theorem qX7_hashOf_37 : Dx cX7_hashOf 37 (.iinc 3 1) 3 40 := ⟨by decide +kernel, rfl⟩
theorem qX7_hashOf_40 : Dj cX7_hashOf 40 (.goto (-36)) (-36) 43 4 := ⟨by decide +kernel, rfl, rfl⟩
theorem qX7_hashOf_43 : Dx cX7_hashOf 43 (.iload_n 2) 1 44 := ⟨by decide +kernel, rfl⟩
theorem qX7_hashOf_44 : Dx cX7_hashOf 44 (.ireturn) 1 45 := ⟨by decide +kernel, rfl⟩
theorem klX7_70 : KL RX7 70 mX7_of := Or.inl (tg 1501 (by decide +kernel) (by decide +kernel))
theorem klX7_74 : KL RX7 74 mX7_digit := Or.inl (tg 1528 (by decide +kernel) (by decide +kernel))
theorem miX7_digit : MSt mX7_digit 2 := ⟨⟨(tg 1530 (by decide +kernel) (by decide +kernel)), (tg 179 (by decide +kernel) (by decide +kernel)), ⟨by decide +kernel, by decide +kernel⟩, by decide +kernel⟩, (tg 1529 (by decide +kernel) (by decide +kernel))⟩
theorem mvX7_of : MV mX7_of 2 := ⟨⟨(tg 1504 (by decide +kernel) (by decide +kernel)), (tg 179 (by decide +kernel) (by decide +kernel)), ⟨by decide +kernel, by decide +kernel⟩, by decide +kernel⟩, (tg 1503 (by decide +kernel) (by decide +kernel)), (tg 108 (by decide +kernel) (by decide +kernel))⟩
abbrev mX7_homeOf : MT := (yX7_homeOf, cX7_homeOf, 3, (some .int))
theorem qX7_homeOf_0 : Dx cX7_homeOf 0 (.aload_n 0) 1 1 := ⟨by decide +kernel, rfl⟩
theorem qX7_homeOf_1 : Dx cX7_homeOf 1 (.iload_n 1) 1 2 := ⟨by decide +kernel, rfl⟩
theorem qX7_homeOf_2 : Dx cX7_homeOf 2 (.invokevirtual 89) 3 5 := ⟨by decide +kernel, rfl⟩
theorem qX7_homeOf_5 : Dx cX7_homeOf 5 (.aload_n 0) 1 6 := ⟨by decide +kernel, rfl⟩
theorem qX7_homeOf_6 : Dx cX7_homeOf 6 (.iload_n 2) 1 7 := ⟨by decide +kernel, rfl⟩
theorem qX7_homeOf_7 : Dx cX7_homeOf 7 (.invokevirtual 92) 3 10 := ⟨by decide +kernel, rfl⟩
theorem qX7_homeOf_10 : Dx cX7_homeOf 10 (.irem) 1 11 := ⟨by decide +kernel, rfl⟩
theorem qX7_homeOf_11 : Dx cX7_homeOf 11 (.ireturn) 1 12 := ⟨by decide +kernel, rfl⟩
theorem klX7_89 : KL RX7 89 mX7_hashOf := Or.inl (tg 1521 (by decide +kernel) (by decide +kernel))
theorem klX7_92 : KL RX7 92 mX7_beds := Or.inl (tg 1509 (by decide +kernel) (by decide +kernel))
theorem mvX7_beds : MV mX7_beds 1 := ⟨⟨(tg 1512 (by decide +kernel) (by decide +kernel)), (tg 179 (by decide +kernel) (by decide +kernel)), ⟨by decide +kernel, by decide +kernel⟩, by decide +kernel⟩, (tg 1511 (by decide +kernel) (by decide +kernel)), (tg 110 (by decide +kernel) (by decide +kernel))⟩
theorem mvX7_hashOf : MV mX7_hashOf 1 := ⟨⟨(tg 1524 (by decide +kernel) (by decide +kernel)), (tg 179 (by decide +kernel) (by decide +kernel)), ⟨by decide +kernel, by decide +kernel⟩, by decide +kernel⟩, (tg 1523 (by decide +kernel) (by decide +kernel)), (tg 113 (by decide +kernel) (by decide +kernel))⟩
abbrev mX7_onWay : MT := (yX7_onWay, cX7_onWay, 4, (some .int))
theorem qX7_onWay_0 : Dx cX7_onWay 0 (.aload_n 0) 1 1 := ⟨by decide +kernel, rfl⟩
theorem qX7_onWay_1 : Dx cX7_onWay 1 (.iload_n 1) 1 2 := ⟨by decide +kernel, rfl⟩
theorem qX7_onWay_2 : Dx cX7_onWay 2 (.iload_n 2) 1 3 := ⟨by decide +kernel, rfl⟩
theorem qX7_onWay_3 : Dx cX7_onWay 3 (.invokevirtual 95) 3 6 := ⟨by decide +kernel, rfl⟩
theorem qX7_onWay_6 : Dx cX7_onWay 6 (.iload_n 3) 1 7 := ⟨by decide +kernel, rfl⟩
theorem qX7_onWay_7 : Dx cX7_onWay 7 (.iadd) 1 8 := ⟨by decide +kernel, rfl⟩
theorem qX7_onWay_8 : Dx cX7_onWay 8 (.aload_n 0) 1 9 := ⟨by decide +kernel, rfl⟩
theorem qX7_onWay_9 : Dx cX7_onWay 9 (.iload_n 2) 1 10 := ⟨by decide +kernel, rfl⟩
theorem qX7_onWay_10 : Dx cX7_onWay 10 (.invokevirtual 92) 3 13 := ⟨by decide +kernel, rfl⟩
theorem qX7_onWay_13 : Dx cX7_onWay 13 (.irem) 1 14 := ⟨by decide +kernel, rfl⟩
theorem qX7_onWay_14 : Dx cX7_onWay 14 (.ireturn) 1 15 := ⟨by decide +kernel, rfl⟩
theorem klX7_95 : KL RX7 95 mX7_homeOf := Or.inl (tg 1517 (by decide +kernel) (by decide +kernel))
theorem mvX7_homeOf : MV mX7_homeOf 2 := ⟨⟨(tg 1520 (by decide +kernel) (by decide +kernel)), (tg 179 (by decide +kernel) (by decide +kernel)), ⟨by decide +kernel, by decide +kernel⟩, by decide +kernel⟩, (tg 1519 (by decide +kernel) (by decide +kernel)), (tg 112 (by decide +kernel) (by decide +kernel))⟩
abbrev mX7_passedBy : MT := (yX7_passedBy, cX7_passedBy, 4, (some .int))
theorem qX7_passedBy_0 : Dx cX7_passedBy 0 (.iconst 0) 1 1 := ⟨by decide +kernel, rfl⟩
theorem qX7_passedBy_1 : Dx cX7_passedBy 1 (.istore_n 3) 1 2 := ⟨by decide +kernel, rfl⟩
theorem qX7_passedBy_2 : Dx cX7_passedBy 2 (.iload_n 3) 1 3 := ⟨by decide +kernel, rfl⟩
theorem qX7_passedBy_3 : Dx cX7_passedBy 3 (.aload_n 0) 1 4 := ⟨by decide +kernel, rfl⟩
theorem qX7_passedBy_4 : Dx cX7_passedBy 4 (.iload_n 2) 1 5 := ⟨by decide +kernel, rfl⟩
theorem qX7_passedBy_5 : Dx cX7_passedBy 5 (.invokevirtual 92) 3 8 := ⟨by decide +kernel, rfl⟩
theorem qX7_passedBy_8 : Dj cX7_passedBy 8 (.if_icmp .ge 26) 26 11 34 := ⟨by decide +kernel, rfl, rfl⟩
theorem qX7_passedBy_11 : Dx cX7_passedBy 11 (.aload_n 0) 1 12 := ⟨by decide +kernel, rfl⟩
theorem qX7_passedBy_12 : Dx cX7_passedBy 12 (.iload_n 2) 1 13 := ⟨by decide +kernel, rfl⟩
theorem qX7_passedBy_13 : Dx cX7_passedBy 13 (.aload_n 0) 1 14 := ⟨by decide +kernel, rfl⟩
theorem qX7_passedBy_14 : Dx cX7_passedBy 14 (.iload_n 1) 1 15 := ⟨by decide +kernel, rfl⟩
theorem qX7_passedBy_15 : Dx cX7_passedBy 15 (.iload_n 2) 1 16 := ⟨by decide +kernel, rfl⟩
theorem qX7_passedBy_16 : Dx cX7_passedBy 16 (.iload_n 3) 1 17 := ⟨by decide +kernel, rfl⟩
theorem qX7_passedBy_17 : Dx cX7_passedBy 17 (.invokevirtual 98) 3 20 := ⟨by decide +kernel, rfl⟩
theorem qX7_passedBy_20 : Dx cX7_passedBy 20 (.invokevirtual 102) 3 23 := ⟨by decide +kernel, rfl⟩
theorem qX7_passedBy_23 : Dj cX7_passedBy 23 (.ifCond .ge 5) 5 26 28 := ⟨by decide +kernel, rfl, rfl⟩
theorem qX7_passedBy_26 : Dx cX7_passedBy 26 (.iload_n 3) 1 27 := ⟨by decide +kernel, rfl⟩
theorem qX7_passedBy_27 : Dx cX7_passedBy 27 (.ireturn) 1 28 := ⟨by decide +kernel, rfl⟩
theorem qX7_passedBy_28 : Dx cX7_passedBy 28 (.iinc 3 1) 3 31 := ⟨by decide +kernel, rfl⟩
theorem qX7_passedBy_31 : Dj cX7_passedBy 31 (.goto (-29)) (-29) 34 2 := ⟨by decide +kernel, rfl, rfl⟩
theorem qX7_passedBy_34 : Dx cX7_passedBy 34 (.iconst (-1)) 1 35 := ⟨by decide +kernel, rfl⟩
theorem qX7_passedBy_35 : Dx cX7_passedBy 35 (.ireturn) 1 36 := ⟨by decide +kernel, rfl⟩
theorem klX7_102 : KL RX7 102 mX7_inBed := Or.inl (tg 1531 (by decide +kernel) (by decide +kernel))
theorem klX7_98 : KL RX7 98 mX7_onWay := Or.inl (tg 1513 (by decide +kernel) (by decide +kernel))
theorem mvX7_inBed : MV mX7_inBed 2 := ⟨⟨(tg 1534 (by decide +kernel) (by decide +kernel)), (tg 179 (by decide +kernel) (by decide +kernel)), ⟨by decide +kernel, by decide +kernel⟩, by decide +kernel⟩, (tg 1533 (by decide +kernel) (by decide +kernel)), (tg 114 (by decide +kernel) (by decide +kernel))⟩
theorem mvX7_onWay : MV mX7_onWay 3 := ⟨⟨(tg 1516 (by decide +kernel) (by decide +kernel)), (tg 179 (by decide +kernel) (by decide +kernel)), ⟨by decide +kernel, by decide +kernel⟩, by decide +kernel⟩, (tg 1515 (by decide +kernel) (by decide +kernel)), (tg 111 (by decide +kernel) (by decide +kernel))⟩
abbrev mX7_looks : MT := (yX7_looks, cX7_looks, 5, (some .int))
theorem qX7_looks_0 : Dx cX7_looks 0 (.iconst 0) 1 1 := ⟨by decide +kernel, rfl⟩
theorem qX7_looks_1 : Dx cX7_looks 1 (.istore_n 3) 1 2 := ⟨by decide +kernel, rfl⟩
theorem qX7_looks_2 : Dx cX7_looks 2 (.iload_n 3) 1 3 := ⟨by decide +kernel, rfl⟩
theorem qX7_looks_3 : Dx cX7_looks 3 (.aload_n 0) 1 4 := ⟨by decide +kernel, rfl⟩
theorem qX7_looks_4 : Dx cX7_looks 4 (.iload_n 2) 1 5 := ⟨by decide +kernel, rfl⟩
theorem qX7_looks_5 : Dx cX7_looks 5 (.invokevirtual 92) 3 8 := ⟨by decide +kernel, rfl⟩
theorem qX7_looks_8 : Dj cX7_looks 8 (.if_icmp .ge 39) 39 11 47 := ⟨by decide +kernel, rfl, rfl⟩
theorem qX7_looks_11 : Dx cX7_looks 11 (.aload_n 0) 1 12 := ⟨by decide +kernel, rfl⟩
theorem qX7_looks_12 : Dx cX7_looks 12 (.iload_n 2) 1 13 := ⟨by decide +kernel, rfl⟩
theorem qX7_looks_13 : Dx cX7_looks 13 (.aload_n 0) 1 14 := ⟨by decide +kernel, rfl⟩
theorem qX7_looks_14 : Dx cX7_looks 14 (.iload_n 1) 1 15 := ⟨by decide +kernel, rfl⟩
theorem qX7_looks_15 : Dx cX7_looks 15 (.iload_n 2) 1 16 := ⟨by decide +kernel, rfl⟩
theorem qX7_looks_16 : Dx cX7_looks 16 (.iload_n 3) 1 17 := ⟨by decide +kernel, rfl⟩
theorem qX7_looks_17 : Dx cX7_looks 17 (.invokevirtual 98) 3 20 := ⟨by decide +kernel, rfl⟩
theorem qX7_looks_20 : Dx cX7_looks 20 (.invokevirtual 102) 3 23 := ⟨by decide +kernel, rfl⟩
theorem qX7_looks_23 : Dx cX7_looks 23 (.istore 4) 2 25 := ⟨by decide +kernel, rfl⟩
theorem qX7_looks_25 : Dx cX7_looks 25 (.iload 4) 2 27 := ⟨by decide +kernel, rfl⟩
theorem qX7_looks_27 : Dx cX7_looks 27 (.iload_n 1) 1 28 := ⟨by decide +kernel, rfl⟩
theorem qX7_looks_28 : Dj cX7_looks 28 (.if_icmp .eq 9) 9 31 37 := ⟨by decide +kernel, rfl, rfl⟩
theorem qX7_looks_31 : Dx cX7_looks 31 (.iload 4) 2 33 := ⟨by decide +kernel, rfl⟩
theorem qX7_looks_33 : Dx cX7_looks 33 (.iconst (-1)) 1 34 := ⟨by decide +kernel, rfl⟩
theorem qX7_looks_34 : Dj cX7_looks 34 (.if_icmp .ne 7) 7 37 41 := ⟨by decide +kernel, rfl, rfl⟩
theorem qX7_looks_37 : Dx cX7_looks 37 (.iload_n 3) 1 38 := ⟨by decide +kernel, rfl⟩
theorem qX7_looks_38 : Dx cX7_looks 38 (.iconst 1) 1 39 := ⟨by decide +kernel, rfl⟩
theorem qX7_looks_39 : Dx cX7_looks 39 (.iadd) 1 40 := ⟨by decide +kernel, rfl⟩
theorem qX7_looks_40 : Dx cX7_looks 40 (.ireturn) 1 41 := ⟨by decide +kernel, rfl⟩
theorem qX7_looks_41 : Dx cX7_looks 41 (.iinc 3 1) 3 44 := ⟨by decide +kernel, rfl⟩
theorem qX7_looks_44 : Dj cX7_looks 44 (.goto (-42)) (-42) 47 2 := ⟨by decide +kernel, rfl, rfl⟩
theorem qX7_looks_47 : Dx cX7_looks 47 (.aload_n 0) 1 48 := ⟨by decide +kernel, rfl⟩
theorem qX7_looks_48 : Dx cX7_looks 48 (.iload_n 2) 1 49 := ⟨by decide +kernel, rfl⟩
theorem qX7_looks_49 : Dx cX7_looks 49 (.invokevirtual 92) 3 52 := ⟨by decide +kernel, rfl⟩
theorem qX7_looks_52 : Dx cX7_looks 52 (.ireturn) 1 53 := ⟨by decide +kernel, rfl⟩
end
section
theorem ctX7_in {g : GT} {ex : Bool} {sh : List Shp} (h : Hp) (p1 : Int32) (p2 : Int32) (p3 : Int32) (r0 : Bool) (hf : M_in p1 p2 p3 = some r0) : Ct g mX7_in 0 0 0 ex [.int p1, .int p2, .int p3] sh h (PE (some (.int (b2i r0))) sh h) := by
  refine Ct.of (L := [some (.int p1), some (.int p2), some (.int p3)]) (by decide) (by intro w hw; simp only [List.mem_cons, List.not_mem_nil, or_false] at hw; rcases hw with rfl | rfl | rfl <;> rfl) (Nat.le_of_ble_eq_true rfl) rfl (fun X mx => ?_)
  obtain ⟨cx, hR, hml, hrt, -⟩ := mx
  have cx : Cx g X RX7 cX7_in := cx
  have hrt : X.2.2.2.2.2.2.2.1.sig.returnType = (some .boolean) := hrt
  unfold M_in at hf
  refine PW.iload_n cx qX7_in_0 rfl ?_
  refine PW.iload_n cx qX7_in_1 rfl ?_
  refine PW.icmp_lt cx qX7_in_2 hf (fun hf => ?_) (fun hf => ?_)
  · refine PW.iconst (v := 0) cx qX7_in_14 rfl ?_
    exact PW.zret cx hrt nb0 qX7_in_15 (le_rz hf)
  · refine PW.iload_n cx qX7_in_5 rfl ?_
    refine PW.iload_n cx qX7_in_6 rfl ?_
    refine PW.icmp_gt cx qX7_in_7 hf (fun hf => ?_) (fun hf => ?_)
    · refine PW.iconst (v := 0) cx qX7_in_14 rfl ?_
      exact PW.zret cx hrt nb0 qX7_in_15 (le_rz hf)
    · refine PW.iconst (v := 1) cx qX7_in_10 rfl ?_
      refine PW.goto cx qX7_in_11 ?_
      exact PW.zret cx hrt nb1 qX7_in_15 (le_rz hf)
theorem ctX7_throwsOne {g : GT} {ex : Bool} {sh : List Shp} (hx : MSh sh) (h : Hp) (p1 : Bool) (r0 : Bool × Hp) (hf : M_throwsOne h p1 = some r0) : Ct g mX7_throwsOne 0 0 0 ex [.ref (gB g + 140), .int (b2i p1)] sh h (PE (some (.int (b2i r0.1))) sh r0.2) := by
  refine Ct.of (L := [some (.ref (gB g + 140)), some (.int (b2i p1))]) (by decide) (by intro w hw; simp only [List.mem_cons, List.not_mem_nil, or_false] at hw; rcases hw with rfl | rfl <;> rfl) (Nat.le_of_ble_eq_true rfl) rfl (fun X mx => ?_)
  obtain ⟨cx, hR, hml, hrt, -⟩ := mx
  have cx : Cx g X RX7 cX7_throwsOne := cx
  have hrt : X.2.2.2.2.2.2.2.1.sig.returnType = (some .boolean) := hrt
  unfold M_throwsOne at hf
  refine PW.aload_n cx qX7_throwsOne_0 rfl ?_
  refine PW.iload_n cx qX7_throwsOne_1 rfl ?_
  refine PW.if_eq cx qX7_throwsOne_2 hf (fun hf => ?_) (fun hf => ?_)
  · refine PW.iconst (v := 0) cx qX7_throwsOne_9 rfl ?_
    refine PW.putiN cx qX7_throwsOne_10 (sh_140 hx) rfl fpX7_54 hf (fun h1 hf => ?_)
    refine PW.iload_n cx qX7_throwsOne_13 rfl ?_
    exact PW.zret cx hrt (nbb _) qX7_throwsOne_14 (le_wz hf)
  · refine PW.iconst (v := 1) cx qX7_throwsOne_5 rfl ?_
    refine PW.goto cx qX7_throwsOne_6 ?_
    refine PW.putiN cx qX7_throwsOne_10 (sh_140 hx) rfl fpX7_54 hf (fun h2 hf => ?_)
    refine PW.iload_n cx qX7_throwsOne_13 rfl ?_
    exact PW.zret cx hrt (nbb _) qX7_throwsOne_14 (le_wz hf)
theorem ctX7_throwsOne_ {g : GT} {ex : Bool} {sh : List Shp} (hx : MSh sh) (h : Hp) (p1 : Bool) (p2 : Bool) (r0 : Bool × Hp) (hf : M_throwsOne2 h p1 p2 = some r0) : Ct g mX7_throwsOne_ 0 0 0 ex [.ref (gB g + 140), .int (b2i p1), .int (b2i p2)] sh h (PE (some (.int (b2i r0.1))) sh r0.2) := by
  refine Ct.of (L := [some (.ref (gB g + 140)), some (.int (b2i p1)), some (.int (b2i p2))]) (by decide) (by intro w hw; simp only [List.mem_cons, List.not_mem_nil, or_false] at hw; rcases hw with rfl | rfl | rfl <;> rfl) (Nat.le_of_ble_eq_true rfl) rfl (fun X mx => ?_)
  obtain ⟨cx, hR, hml, hrt, -⟩ := mx
  have cx : Cx g X RX7 cX7_throwsOne_ := cx
  have hrt : X.2.2.2.2.2.2.2.1.sig.returnType = (some .boolean) := hrt
  unfold M_throwsOne2 at hf
  refine PW.aload_n cx qX7_throwsOne__0 rfl ?_
  refine PW.iload_n cx qX7_throwsOne__1 rfl ?_
  obtain ⟨j18, ej18, hf⟩ := lt_split hf
  have hj18 : ∀ (z0_18 : Int32), j18 z0_18 = some r0 → PW g X ex (QE g X ex (PE (some (.int (b2i r0.1))) sh r0.2) 0 0) 0 0 sh h 18 [none, some (.int (b2i p1)), some (.int (b2i p2))] [.int z0_18, .ref (gB g + 140)] := by
    intro z0_18 hf
    rw [ej18] at hf
    refine PW.putiN cx qX7_throwsOne__18 (sh_140 hx) rfl fpX7_54 hf (fun h1 hf => ?_)
    refine PW.iload_n cx qX7_throwsOne__21 rfl ?_
    refine PW.if_ne cx qX7_throwsOne__22 hf (fun hf => ?_) (fun hf => ?_)
    · refine PW.iload_n cx qX7_throwsOne__25 rfl ?_
      refine PW.if_eq cx qX7_throwsOne__26 hf (fun hf => ?_) (fun hf => ?_)
      · refine PW.iconst (v := 0) cx qX7_throwsOne__33 rfl ?_
        exact PW.zret cx hrt nb0 qX7_throwsOne__34 (le_wz hf)
      · refine PW.iconst (v := 1) cx qX7_throwsOne__29 rfl ?_
        refine PW.goto cx qX7_throwsOne__30 ?_
        exact PW.zret cx hrt nb1 qX7_throwsOne__34 (le_wz hf)
    · refine PW.iconst (v := 1) cx qX7_throwsOne__29 rfl ?_
      refine PW.goto cx qX7_throwsOne__30 ?_
      exact PW.zret cx hrt nb1 qX7_throwsOne__34 (le_wz hf)
  refine PW.if_eq cx qX7_throwsOne__2 hf (fun hf => ?_) (fun hf => ?_)
  · refine PW.iload_n cx qX7_throwsOne__9 rfl ?_
    refine PW.if_eq cx qX7_throwsOne__10 hf (fun hf => ?_) (fun hf => ?_)
    · refine PW.iconst (v := 0) cx qX7_throwsOne__17 rfl ?_
      exact PW.locs (Lsub.drop (Lsub.keep (Lsub.keep Lsub.nil))) (hj18 0 hf)
    · refine PW.iconst (v := 2) cx qX7_throwsOne__13 rfl ?_
      refine PW.goto cx qX7_throwsOne__14 ?_
      exact PW.locs (Lsub.drop (Lsub.keep (Lsub.keep Lsub.nil))) (hj18 2 hf)
  · refine PW.iconst (v := 1) cx qX7_throwsOne__5 rfl ?_
    refine PW.goto cx qX7_throwsOne__6 ?_
    exact PW.locs (Lsub.drop (Lsub.keep (Lsub.keep Lsub.nil))) (hj18 1 hf)
theorem ctX7_throwsOne__ {g : GT} {ex : Bool} {sh : List Shp} (hx : MSh sh) (h : Hp) (p1 : Bool) (p2 : Bool) (p3 : Bool) (r0 : Bool × Hp) (hf : M_throwsOne3 h p1 p2 p3 = some r0) : Ct g mX7_throwsOne__ 0 0 0 ex [.ref (gB g + 140), .int (b2i p1), .int (b2i p2), .int (b2i p3)] sh h (PE (some (.int (b2i r0.1))) sh r0.2) := by
  refine Ct.of (L := [some (.ref (gB g + 140)), some (.int (b2i p1)), some (.int (b2i p2)), some (.int (b2i p3))]) (by decide) (by intro w hw; simp only [List.mem_cons, List.not_mem_nil, or_false] at hw; rcases hw with rfl | rfl | rfl | rfl <;> rfl) (Nat.le_of_ble_eq_true rfl) rfl (fun X mx => ?_)
  obtain ⟨cx, hR, hml, hrt, -⟩ := mx
  have cx : Cx g X RX7 cX7_throwsOne__ := cx
  have hrt : X.2.2.2.2.2.2.2.1.sig.returnType = (some .boolean) := hrt
  unfold M_throwsOne3 at hf
  refine PW.aload_n cx qX7_throwsOne___0 rfl ?_
  refine PW.iload_n cx qX7_throwsOne___1 rfl ?_
  obtain ⟨j26, ej26, hf⟩ := lt_split hf
  have hj26 : ∀ (z0_26 : Int32), j26 z0_26 = some r0 → PW g X ex (QE g X ex (PE (some (.int (b2i r0.1))) sh r0.2) 0 0) 0 0 sh h 26 [none, some (.int (b2i p1)), some (.int (b2i p2)), some (.int (b2i p3))] [.int z0_26, .ref (gB g + 140)] := by
    intro z0_26 hf
    rw [ej26] at hf
    refine PW.putiN cx qX7_throwsOne___26 (sh_140 hx) rfl fpX7_54 hf (fun h1 hf => ?_)
    refine PW.iload_n cx qX7_throwsOne___29 rfl ?_
    refine PW.if_ne cx qX7_throwsOne___30 hf (fun hf => ?_) (fun hf => ?_)
    · refine PW.iload_n cx qX7_throwsOne___33 rfl ?_
      refine PW.if_ne cx qX7_throwsOne___34 hf (fun hf => ?_) (fun hf => ?_)
      · refine PW.iload_n cx qX7_throwsOne___37 rfl ?_
        refine PW.if_eq cx qX7_throwsOne___38 hf (fun hf => ?_) (fun hf => ?_)
        · refine PW.iconst (v := 0) cx qX7_throwsOne___45 rfl ?_
          exact PW.zret cx hrt nb0 qX7_throwsOne___46 (le_wz hf)
        · refine PW.iconst (v := 1) cx qX7_throwsOne___41 rfl ?_
          refine PW.goto cx qX7_throwsOne___42 ?_
          exact PW.zret cx hrt nb1 qX7_throwsOne___46 (le_wz hf)
      · refine PW.iconst (v := 1) cx qX7_throwsOne___41 rfl ?_
        refine PW.goto cx qX7_throwsOne___42 ?_
        exact PW.zret cx hrt nb1 qX7_throwsOne___46 (le_wz hf)
    · refine PW.iconst (v := 1) cx qX7_throwsOne___41 rfl ?_
      refine PW.goto cx qX7_throwsOne___42 ?_
      exact PW.zret cx hrt nb1 qX7_throwsOne___46 (le_wz hf)
  refine PW.if_eq cx qX7_throwsOne___2 hf (fun hf => ?_) (fun hf => ?_)
  · refine PW.iload_n cx qX7_throwsOne___9 rfl ?_
    refine PW.if_eq cx qX7_throwsOne___10 hf (fun hf => ?_) (fun hf => ?_)
    · refine PW.iload_n cx qX7_throwsOne___17 rfl ?_
      refine PW.if_eq cx qX7_throwsOne___18 hf (fun hf => ?_) (fun hf => ?_)
      · refine PW.iconst (v := 0) cx qX7_throwsOne___25 rfl ?_
        exact PW.locs (Lsub.drop (Lsub.keep (Lsub.keep (Lsub.keep Lsub.nil)))) (hj26 0 hf)
      · refine PW.iconst (v := 3) cx qX7_throwsOne___21 rfl ?_
        refine PW.goto cx qX7_throwsOne___22 ?_
        exact PW.locs (Lsub.drop (Lsub.keep (Lsub.keep (Lsub.keep Lsub.nil)))) (hj26 3 hf)
    · refine PW.iconst (v := 2) cx qX7_throwsOne___13 rfl ?_
      refine PW.goto cx qX7_throwsOne___14 ?_
      exact PW.locs (Lsub.drop (Lsub.keep (Lsub.keep (Lsub.keep Lsub.nil)))) (hj26 2 hf)
  · refine PW.iconst (v := 1) cx qX7_throwsOne___5 rfl ?_
    refine PW.goto cx qX7_throwsOne___6 ?_
    exact PW.locs (Lsub.drop (Lsub.keep (Lsub.keep (Lsub.keep Lsub.nil)))) (hj26 1 hf)
theorem ctX7_of {g : GT} {ex : Bool} {sh : List Shp} (hx : MSh sh) (h : Hp) (p1 : Int32) (p2 : Int32) (r0 : Int32) (hf : M_of h p1 p2 = some r0) : Ct g mX7_of 0 0 0 ex [.ref (gB g + 140), .int p1, .int p2] sh h (PE (some (.int r0)) sh h) := by
  refine Ct.of (L := [some (.ref (gB g + 140)), some (.int p1), some (.int p2)]) (by decide) (by intro w hw; simp only [List.mem_cons, List.not_mem_nil, or_false] at hw; rcases hw with rfl | rfl | rfl <;> rfl) (Nat.le_of_ble_eq_true rfl) rfl (fun X mx => ?_)
  obtain ⟨cx, hR, hml, hrt, -⟩ := mx
  have cx : Cx g X RX7 cX7_of := cx
  have hrt : X.2.2.2.2.2.2.2.1.sig.returnType = (some .int) := hrt
  unfold M_of at hf
  refine PW.aload_n cx qX7_of_0 rfl ?_
  refine PW.getf (t := (2, 141)) (v := .ref (gB g + 141)) cx qX7_of_1 (sh_140 hx) rfl flX7_7 rfl ?_
  refine PW.bipush (v := 8) cx qX7_of_4 rfl ?_
  refine PW.iconst (v := 4) cx qX7_of_6 rfl ?_
  refine PW.iload_n cx qX7_of_7 rfl ?_
  refine PW.imul cx qX7_of_8 ?_
  refine PW.iadd cx qX7_of_9 ?_
  refine PW.iload_n cx qX7_of_10 rfl ?_
  refine PW.iadd cx qX7_of_11 ?_
  refine PW.iald cx qX7_of_12 (sh_141 hx) hf sne (fun t1 hf => ?_)
  exact PW.iret cx hrt qX7_of_13 (le_ri hf)
theorem ctX7_to {g : GT} {ex : Bool} {sh : List Shp} (hx : MSh sh) (h : Hp) (p1 : Int32) (p2 : Int32) (p3 : Int32) (r0 : Hp) (hf : M_to h p1 p2 p3 = some r0) : Ct g mX7_to 0 0 0 ex [.ref (gB g + 140), .int p1, .int p2, .int p3] sh h (PE none sh r0) := by
  refine Ct.of (L := [some (.ref (gB g + 140)), some (.int p1), some (.int p2), some (.int p3)]) (by decide) (by intro w hw; simp only [List.mem_cons, List.not_mem_nil, or_false] at hw; rcases hw with rfl | rfl | rfl | rfl <;> rfl) (Nat.le_of_ble_eq_true rfl) rfl (fun X mx => ?_)
  obtain ⟨cx, hR, hml, hrt, -⟩ := mx
  have cx : Cx g X RX7 cX7_to := cx
  have hrt : X.2.2.2.2.2.2.2.1.sig.returnType = none := hrt
  unfold M_to at hf
  refine PW.aload_n cx qX7_to_0 rfl ?_
  refine PW.getf (t := (2, 141)) (v := .ref (gB g + 141)) cx qX7_to_1 (sh_140 hx) rfl flX7_7 rfl ?_
  refine PW.bipush (v := 8) cx qX7_to_4 rfl ?_
  refine PW.iconst (v := 4) cx qX7_to_6 rfl ?_
  refine PW.iload_n cx qX7_to_7 rfl ?_
  refine PW.imul cx qX7_to_8 ?_
  refine PW.iadd cx qX7_to_9 ?_
  refine PW.iload_n cx qX7_to_10 rfl ?_
  refine PW.iadd cx qX7_to_11 ?_
  refine PW.iload_n cx qX7_to_12 rfl ?_
  refine PW.iast cx qX7_to_13 (sh_141 hx) hf sne (fun h1 hf => ?_)
  exact PW.vret cx hrt qX7_to_14 (le_wv hf)
theorem ctX7_beds {g : GT} {ex : Bool} {sh : List Shp} (hx : MSh sh) (h : Hp) (p1 : Int32) (r0 : Int32) (hf : M_beds h p1 = some r0) : Ct g mX7_beds 0 0 0 ex [.ref (gB g + 140), .int p1] sh h (PE (some (.int r0)) sh h) := by
  refine Ct.of (L := [some (.ref (gB g + 140)), some (.int p1)]) (by decide) (by intro w hw; simp only [List.mem_cons, List.not_mem_nil, or_false] at hw; rcases hw with rfl | rfl <;> rfl) (Nat.le_of_ble_eq_true rfl) rfl (fun X mx => ?_)
  obtain ⟨cx, hR, hml, hrt, -⟩ := mx
  have cx : Cx g X RX7 cX7_beds := cx
  have hrt : X.2.2.2.2.2.2.2.1.sig.returnType = (some .int) := hrt
  unfold M_beds at hf
  refine PW.aload_n cx qX7_beds_0 rfl ?_
  refine PW.getf (t := (2, 141)) (v := .ref (gB g + 141)) cx qX7_beds_1 (sh_140 hx) rfl flX7_7 rfl ?_
  refine PW.bipush (v := 56) cx qX7_beds_4 rfl ?_
  refine PW.iload_n cx qX7_beds_6 rfl ?_
  refine PW.iadd cx qX7_beds_7 ?_
  refine PW.iald cx qX7_beds_8 (sh_141 hx) hf sne (fun t1 hf => ?_)
  exact PW.iret cx hrt qX7_beds_9 (le_ri hf)
theorem ctX7_inBed {g : GT} {ex : Bool} {sh : List Shp} (hx : MSh sh) (h : Hp) (p1 : Int32) (p2 : Int32) (r0 : Int32) (hf : M_inBed h p1 p2 = some r0) : Ct g mX7_inBed 0 0 0 ex [.ref (gB g + 140), .int p1, .int p2] sh h (PE (some (.int r0)) sh h) := by
  refine Ct.of (L := [some (.ref (gB g + 140)), some (.int p1), some (.int p2)]) (by decide) (by intro w hw; simp only [List.mem_cons, List.not_mem_nil, or_false] at hw; rcases hw with rfl | rfl | rfl <;> rfl) (Nat.le_of_ble_eq_true rfl) rfl (fun X mx => ?_)
  obtain ⟨cx, hR, hml, hrt, -⟩ := mx
  have cx : Cx g X RX7 cX7_inBed := cx
  have hrt : X.2.2.2.2.2.2.2.1.sig.returnType = (some .int) := hrt
  unfold M_inBed at hf
  refine PW.aload_n cx qX7_inBed_0 rfl ?_
  refine PW.getf (t := (2, 141)) (v := .ref (gB g + 141)) cx qX7_inBed_1 (sh_140 hx) rfl flX7_7 rfl ?_
  refine PW.bipush (v := 60) cx qX7_inBed_4 rfl ?_
  refine PW.bipush (v := 9) cx qX7_inBed_6 rfl ?_
  refine PW.iload_n cx qX7_inBed_8 rfl ?_
  refine PW.imul cx qX7_inBed_9 ?_
  refine PW.iadd cx qX7_inBed_10 ?_
  refine PW.iload_n cx qX7_inBed_11 rfl ?_
  refine PW.iadd cx qX7_inBed_12 ?_
  refine PW.iald cx qX7_inBed_13 (sh_141 hx) hf sne (fun t1 hf => ?_)
  exact PW.iret cx hrt qX7_inBed_14 (le_ri hf)
theorem ctX7_setBed {g : GT} {ex : Bool} {sh : List Shp} (hx : MSh sh) (h : Hp) (p1 : Int32) (p2 : Int32) (p3 : Int32) (r0 : Hp) (hf : M_setBed h p1 p2 p3 = some r0) : Ct g mX7_setBed 0 0 0 ex [.ref (gB g + 140), .int p1, .int p2, .int p3] sh h (PE none sh r0) := by
  refine Ct.of (L := [some (.ref (gB g + 140)), some (.int p1), some (.int p2), some (.int p3)]) (by decide) (by intro w hw; simp only [List.mem_cons, List.not_mem_nil, or_false] at hw; rcases hw with rfl | rfl | rfl | rfl <;> rfl) (Nat.le_of_ble_eq_true rfl) rfl (fun X mx => ?_)
  obtain ⟨cx, hR, hml, hrt, -⟩ := mx
  have cx : Cx g X RX7 cX7_setBed := cx
  have hrt : X.2.2.2.2.2.2.2.1.sig.returnType = none := hrt
  unfold M_setBed at hf
  refine PW.aload_n cx qX7_setBed_0 rfl ?_
  refine PW.getf (t := (2, 141)) (v := .ref (gB g + 141)) cx qX7_setBed_1 (sh_140 hx) rfl flX7_7 rfl ?_
  refine PW.bipush (v := 60) cx qX7_setBed_4 rfl ?_
  refine PW.bipush (v := 9) cx qX7_setBed_6 rfl ?_
  refine PW.iload_n cx qX7_setBed_8 rfl ?_
  refine PW.imul cx qX7_setBed_9 ?_
  refine PW.iadd cx qX7_setBed_10 ?_
  refine PW.iload_n cx qX7_setBed_11 rfl ?_
  refine PW.iadd cx qX7_setBed_12 ?_
  refine PW.iload_n cx qX7_setBed_13 rfl ?_
  refine PW.iast cx qX7_setBed_14 (sh_141 hx) hf sne (fun h1 hf => ?_)
  exact PW.vret cx hrt qX7_setBed_15 (le_wv hf)
theorem lX7_digits_4 {g : GT} {X : XT} {ex : Bool} {sh : List Shp} {post : Option Value → List Shp → Hp → Prop} (mx : Mx g X mX7_digits 0 0 0) (h : Hp) : ∀ (n : Nat) (v1 : Int32) (v2 : Int32) (r : Int32) (hf : M_digits_L4 n v1 v2 = some r) (kx : ∀ (x1 : Int32), r = x1 → PW g X ex (QE g X ex post 0 0) 0 0 sh h 19 [none, some (.int x1), none] []), PW g X ex (QE g X ex post 0 0) 0 0 sh h 4 [none, some (.int v1), some (.int v2)] [] := by
  obtain ⟨cx, hR, hml, hrt, -⟩ := mx
  have cx : Cx g X RX7 cX7_digits := cx
  have hrt : X.2.2.2.2.2.2.2.1.sig.returnType = (some .int) := hrt
  have hi1 : 1 < X.2.2.2.2.2.2.2.2.maxLocals := by rw [hml]; exact Nat.le_of_ble_eq_true rfl
  have hi2 : 2 < X.2.2.2.2.2.2.2.2.maxLocals := by rw [hml]; exact Nat.le_of_ble_eq_true rfl
  intro n
  induction n with
  | zero =>
    intro v1 v2 r hf kx
    cases hf
  | succ n ih =>
    intro v1 v2 r hf kx
    unfold M_digits_L4 at hf
    refine PW.iload_n cx qX7_digits_4 rfl ?_
    refine PW.if_le cx qX7_digits_5 hf (fun hf => ?_) (fun hf => ?_)
    · exact PW.locs (Lsub.drop (Lsub.keep (Lsub.drop Lsub.nil))) (kx v1 (Option.some.inj hf).symm)
    · refine PW.iinc (v := 1) (L' := [none, some (.int (v1 + 1)), some (.int v2)]) cx qX7_digits_8 rfl rfl hi1 rfl rfl ?_
      refine PW.iload_n cx qX7_digits_11 rfl ?_
      refine PW.bipush (v := 10) cx qX7_digits_12 rfl ?_
      refine PW.idivK cx qX7_digits_14 (by decide) ?_
      refine PW.istore_n (L' := [none, some (.int (v1 + 1)), some (.int (v2 / 10))]) cx qX7_digits_15 hi2 rfl rfl ?_
      refine PW.goto cx qX7_digits_16 ?_
      exact PW.locs (Lsub.drop (Lsub.keep (Lsub.keep Lsub.nil))) (ih (v1 + 1) (v2 / 10) _ hf kx)
theorem ctX7_digits {g : GT} {ex : Bool} {sh : List Shp} (h : Hp) (p1 : Int32) (r0 : Int32) (hf : M_digits p1 = some r0) : Ct g mX7_digits 0 0 0 ex [.int p1] sh h (PE (some (.int r0)) sh h) := by
  refine Ct.of (L := [some (.int p1), none, none]) (by decide) (by intro w hw; simp only [List.mem_cons, List.not_mem_nil, or_false] at hw; rcases hw with rfl <;> rfl) (Nat.le_of_ble_eq_true rfl) rfl (fun X mx => ?_)
  have mx0 := mx
  obtain ⟨cx, hR, hml, hrt, -⟩ := mx0
  have cx : Cx g X RX7 cX7_digits := cx
  have hrt : X.2.2.2.2.2.2.2.1.sig.returnType = (some .int) := hrt
  have hi1 : 1 < X.2.2.2.2.2.2.2.2.maxLocals := by rw [hml]; exact Nat.le_of_ble_eq_true rfl
  have hi2 : 2 < X.2.2.2.2.2.2.2.2.maxLocals := by rw [hml]; exact Nat.le_of_ble_eq_true rfl
  unfold M_digits at hf
  refine PW.iconst (v := 0) cx qX7_digits_0 rfl ?_
  refine PW.istore_n (L' := [some (.int p1), some (.int 0), none]) cx qX7_digits_1 hi1 rfl rfl ?_
  refine PW.iload_n cx qX7_digits_2 rfl ?_
  refine PW.istore_n (L' := [some (.int p1), some (.int 0), some (.int p1)]) cx qX7_digits_3 hi2 rfl rfl ?_
  obtain ⟨r1, er1, hf⟩ := bndO hf sne
  refine PW.locs (Lsub.drop (Lsub.keep (Lsub.keep Lsub.nil))) (lX7_digits_4 mx h FU 0 p1 r1 er1 (fun x1_2 e => ?_))
  subst e
  refine PW.iload_n cx qX7_digits_19 rfl ?_
  exact PW.iret cx hrt qX7_digits_20 (le_ri hf)
theorem lX7_digit_9 {g : GT} {X : XT} {ex : Bool} {sh : List Shp} {post : Option Value → List Shp → Hp → Prop} (mx : Mx g X mX7_digit 1 0 0) (h : Hp) (c1 : Int32) : ∀ (n : Nat) (v2 : Int32) (v3 : Int32) (r : Int32) (hf : M_digit_L9 c1 n v2 v3 = some r) (kx : ∀ (x2 : Int32), r = x2 → PW g X ex (QE g X ex post 0 0) 0 0 sh h 25 [none, some (.int c1), some (.int x2), none] []), PW g X ex (QE g X ex post 0 0) 0 0 sh h 9 [none, some (.int c1), some (.int v2), some (.int v3)] [] := by
  obtain ⟨cx, hR, hml, hrt, -⟩ := mx
  have cx : Cx g X RX7 cX7_digit := cx
  have hrt : X.2.2.2.2.2.2.2.1.sig.returnType = (some .int) := hrt
  have hi2 : 2 < X.2.2.2.2.2.2.2.2.maxLocals := by rw [hml]; exact Nat.le_of_ble_eq_true rfl
  have hi3 : 3 < X.2.2.2.2.2.2.2.2.maxLocals := by rw [hml]; exact Nat.le_of_ble_eq_true rfl
  intro n
  induction n with
  | zero =>
    intro v2 v3 r hf kx
    cases hf
  | succ n ih =>
    intro v2 v3 r hf kx
    unfold M_digit_L9 at hf
    refine PW.iload_n cx qX7_digit_9 rfl ?_
    refine PW.iload_n cx qX7_digit_10 rfl ?_
    refine PW.icmp_le cx qX7_digit_11 hf (fun hf => ?_) (fun hf => ?_)
    · exact PW.locs (Lsub.drop (Lsub.keep (Lsub.keep (Lsub.drop Lsub.nil)))) (kx v2 (Option.some.inj hf).symm)
    · refine PW.iload_n cx qX7_digit_14 rfl ?_
      refine PW.bipush (v := 10) cx qX7_digit_15 rfl ?_
      refine PW.idivK cx qX7_digit_17 (by decide) ?_
      refine PW.istore_n (L' := [none, some (.int c1), some (.int (v2 / 10)), some (.int v3)]) cx qX7_digit_18 hi2 rfl rfl ?_
      refine PW.iinc (v := (-1)) (L' := [none, some (.int c1), some (.int (v2 / 10)), some (.int (v3 + (-1)))]) cx qX7_digit_19 rfl rfl hi3 rfl rfl ?_
      refine PW.goto cx qX7_digit_22 ?_
      exact PW.locs (Lsub.drop (Lsub.keep (Lsub.keep (Lsub.keep Lsub.nil)))) (ih (v2 / 10) (v3 + (-1)) _ hf kx)
theorem ctX7_digit {g : GT} {ex : Bool} {sh : List Shp} (h : Hp) (p1 : Int32) (p2 : Int32) (r0 : Int32) (hf : M_digit p1 p2 = some r0) : Ct g mX7_digit 1 0 0 ex [.int p1, .int p2] sh h (PE (some (.int r0)) sh h) := by
  refine Ct.of (L := [some (.int p1), some (.int p2), none, none]) (by decide) (by intro w hw; simp only [List.mem_cons, List.not_mem_nil, or_false] at hw; rcases hw with rfl | rfl <;> rfl) (Nat.le_of_ble_eq_true rfl) rfl (fun X mx => ?_)
  have mx0 := mx
  obtain ⟨cx, hR, hml, hrt, -⟩ := mx0
  have cx : Cx g X RX7 cX7_digit := cx
  have hrt : X.2.2.2.2.2.2.2.1.sig.returnType = (some .int) := hrt
  have hi2 : 2 < X.2.2.2.2.2.2.2.2.maxLocals := by rw [hml]; exact Nat.le_of_ble_eq_true rfl
  have hi3 : 3 < X.2.2.2.2.2.2.2.2.maxLocals := by rw [hml]; exact Nat.le_of_ble_eq_true rfl
  unfold M_digit at hf
  refine PW.iload_n cx qX7_digit_0 rfl ?_
  refine PW.istore_n (L' := [some (.int p1), some (.int p2), some (.int p1), none]) cx qX7_digit_1 hi2 rfl rfl ?_
  refine PW.iload_n cx qX7_digit_2 rfl ?_
  refine PW.callSRI (As := [.int p1]) (st := []) cx hR qX7_digit_3 klX7_61 miX7_digits rfl rfl (Nat.le_of_ble_eq_true rfl) (Nat.le_of_ble_eq_true rfl) (Nat.le_of_ble_eq_true rfl) (Nat.zero_le _) (Nat.zero_le _) hf sne (fun t e => ctX7_digits h p1 t e) (fun t1 hf => ?_)
  refine PW.iconst (v := 1) cx qX7_digit_6 rfl ?_
  refine PW.isub cx qX7_digit_7 ?_
  refine PW.istore_n (L' := [some (.int p1), some (.int p2), some (.int p1), some (.int (t1 - 1))]) cx qX7_digit_8 hi3 rfl rfl ?_
  obtain ⟨r2, er2, hf⟩ := bndO hf sne
  refine PW.locs (Lsub.drop (Lsub.keep (Lsub.keep (Lsub.keep Lsub.nil)))) (lX7_digit_9 mx h p2 FU p1 (t1 - 1) r2 er2 (fun x2_3 e => ?_))
  subst e
  refine PW.iload_n cx qX7_digit_25 rfl ?_
  refine PW.bipush (v := 10) cx qX7_digit_26 rfl ?_
  refine PW.iremK cx qX7_digit_28 (by decide) ?_
  exact PW.iret cx hrt qX7_digit_29 (le_ri hf)
theorem lX7_hasZero_2 {g : GT} {X : XT} {ex : Bool} {sh : List Shp} {post : Option Value → List Shp → Hp → Prop} (mx : Mx g X mX7_hasZero 0 0 0) (h : Hp) : ∀ (n : Nat) (v1 : Int32) (r : (Unit) ⊕ (Bool)) (hf : M_hasZero_L2 n v1 = some r) (kx : r = .inl () → PW g X ex (QE g X ex post 0 0) 0 0 sh h 23 [none, none] []) (kr : ∀ y : Bool, r = .inr y → post (some (.int (b2i y))) sh h), PW g X ex (QE g X ex post 0 0) 0 0 sh h 2 [none, some (.int v1)] [] := by
  obtain ⟨cx, hR, hml, hrt, -⟩ := mx
  have cx : Cx g X RX7 cX7_hasZero := cx
  have hrt : X.2.2.2.2.2.2.2.1.sig.returnType = (some .boolean) := hrt
  have hi1 : 1 < X.2.2.2.2.2.2.2.2.maxLocals := by rw [hml]; exact Nat.le_of_ble_eq_true rfl
  intro n
  induction n with
  | zero =>
    intro v1 r hf kx kr
    cases hf
  | succ n ih =>
    intro v1 r hf kx kr
    unfold M_hasZero_L2 at hf
    refine PW.iload_n cx qX7_hasZero_2 rfl ?_
    refine PW.if_le cx qX7_hasZero_3 hf (fun hf => ?_) (fun hf => ?_)
    · exact PW.locs (Lsub.drop (Lsub.drop Lsub.nil)) (kx (Option.some.inj hf).symm)
    · refine PW.iload_n cx qX7_hasZero_6 rfl ?_
      refine PW.bipush (v := 10) cx qX7_hasZero_7 rfl ?_
      refine PW.iremK cx qX7_hasZero_9 (by decide) ?_
      refine PW.if_ne cx qX7_hasZero_10 hf (fun hf => ?_) (fun hf => ?_)
      · refine PW.iconst (v := 1) cx qX7_hasZero_13 rfl ?_
        exact PW.zret cx hrt nb1 qX7_hasZero_14 (kr _ (Option.some.inj hf).symm)
      · refine PW.iload_n cx qX7_hasZero_15 rfl ?_
        refine PW.bipush (v := 10) cx qX7_hasZero_16 rfl ?_
        refine PW.idivK cx qX7_hasZero_18 (by decide) ?_
        refine PW.istore_n (L' := [none, some (.int (v1 / 10))]) cx qX7_hasZero_19 hi1 rfl rfl ?_
        refine PW.goto cx qX7_hasZero_20 ?_
        exact PW.locs (Lsub.drop (Lsub.keep Lsub.nil)) (ih (v1 / 10) _ hf kx kr)
theorem ctX7_hasZero {g : GT} {ex : Bool} {sh : List Shp} (h : Hp) (p1 : Int32) (r0 : Bool) (hf : M_hasZero p1 = some r0) : Ct g mX7_hasZero 0 0 0 ex [.int p1] sh h (PE (some (.int (b2i r0))) sh h) := by
  refine Ct.of (L := [some (.int p1), none]) (by decide) (by intro w hw; simp only [List.mem_cons, List.not_mem_nil, or_false] at hw; rcases hw with rfl <;> rfl) (Nat.le_of_ble_eq_true rfl) rfl (fun X mx => ?_)
  have mx0 := mx
  obtain ⟨cx, hR, hml, hrt, -⟩ := mx0
  have cx : Cx g X RX7 cX7_hasZero := cx
  have hrt : X.2.2.2.2.2.2.2.1.sig.returnType = (some .boolean) := hrt
  have hi1 : 1 < X.2.2.2.2.2.2.2.2.maxLocals := by rw [hml]; exact Nat.le_of_ble_eq_true rfl
  unfold M_hasZero at hf
  refine PW.iload_n cx qX7_hasZero_0 rfl ?_
  refine PW.istore_n (L' := [some (.int p1), some (.int p1)]) cx qX7_hasZero_1 hi1 rfl rfl ?_
  obtain ⟨r1, er1, hf⟩ := bndO hf sne
  refine PW.locs (Lsub.drop (Lsub.keep Lsub.nil)) (lX7_hasZero_2 mx h FU p1 r1 er1 (fun e => ?_) (fun y e => ?_))
  · subst e
    refine PW.iconst (v := 0) cx qX7_hasZero_23 rfl ?_
    exact PW.zret cx hrt nb0 qX7_hasZero_24 (le_rz hf)
  · subst e
    exact (le_rz hf)
theorem ctX7_areColours {g : GT} {ex : Bool} {sh : List Shp} (h : Hp) (p1 : Int32) (r0 : Bool) (hf : M_areColours p1 = some r0) : Ct g mX7_areColours 1 0 0 ex [.int p1] sh h (PE (some (.int (b2i r0))) sh h) := by
  refine Ct.of (L := [some (.int p1)]) (by decide) (by intro w hw; simp only [List.mem_cons, List.not_mem_nil, or_false] at hw; rcases hw with rfl <;> rfl) (Nat.le_of_ble_eq_true rfl) rfl (fun X mx => ?_)
  obtain ⟨cx, hR, hml, hrt, -⟩ := mx
  have cx : Cx g X RX7 cX7_areColours := cx
  have hrt : X.2.2.2.2.2.2.2.1.sig.returnType = (some .boolean) := hrt
  unfold M_areColours at hf
  refine PW.iload_n cx qX7_areColours_0 rfl ?_
  refine PW.iconst (v := 1) cx qX7_areColours_1 rfl ?_
  refine PW.ldc (v := 99999999) cx qX7_areColours_2 kcX7_65 ?_
  refine PW.callSRB (As := [.int p1, .int 1, .int 99999999]) (st := []) cx hR qX7_areColours_4 klX7_57 miX7_in rfl rfl (Nat.le_of_ble_eq_true rfl) (Nat.le_of_ble_eq_true rfl) (Nat.le_of_ble_eq_true rfl) (Nat.zero_le _) (Nat.zero_le _) hf sne (fun t e => ctX7_in h p1 1 99999999 t e) (fun t1 hf => ?_)
  refine PW.if_eq cx qX7_areColours_7 hf (fun hf => ?_) (fun hf => ?_)
  · refine PW.iconst (v := 0) cx qX7_areColours_21 rfl ?_
    exact PW.zret cx hrt nb0 qX7_areColours_22 (le_rz hf)
  · refine PW.iload_n cx qX7_areColours_10 rfl ?_
    refine PW.callSRB (As := [.int p1]) (st := []) cx hR qX7_areColours_11 klX7_66 miX7_hasZero rfl rfl (Nat.le_of_ble_eq_true rfl) (Nat.le_of_ble_eq_true rfl) (Nat.le_of_ble_eq_true rfl) (Nat.zero_le _) (Nat.zero_le _) hf sne (fun t e => ctX7_hasZero h p1 t e) (fun t2 hf => ?_)
    refine PW.if_ne cx qX7_areColours_14 hf (fun hf => ?_) (fun hf => ?_)
    · refine PW.iconst (v := 1) cx qX7_areColours_17 rfl ?_
      refine PW.goto cx qX7_areColours_18 ?_
      exact PW.zret cx hrt nb1 qX7_areColours_22 (le_rz hf)
    · refine PW.iconst (v := 0) cx qX7_areColours_21 rfl ?_
      exact PW.zret cx hrt nb0 qX7_areColours_22 (le_rz hf)
theorem lX7_hashOf_4 {g : GT} {X : XT} {ex : Bool} {sh : List Shp} {post : Option Value → List Shp → Hp → Prop} (mx : Mx g X mX7_hashOf 2 0 0) (hx : MSh sh) (h : Hp) (c1 : Int32) : ∀ (n : Nat) (v2 : Int32) (v3 : Int32) (r : Int32) (hf : M_hashOf_L4 h c1 n v2 v3 = some r) (kx : ∀ (x2 : Int32), r = x2 → PW g X ex (QE g X ex post 0 0) 0 0 sh h 43 [some (.ref (gB g + 140)), some (.int c1), some (.int x2), none] []), PW g X ex (QE g X ex post 0 0) 0 0 sh h 4 [some (.ref (gB g + 140)), some (.int c1), some (.int v2), some (.int v3)] [] := by
  obtain ⟨cx, hR, hml, hrt, -⟩ := mx
  have cx : Cx g X RX7 cX7_hashOf := cx
  have hrt : X.2.2.2.2.2.2.2.1.sig.returnType = (some .int) := hrt
  have hi2 : 2 < X.2.2.2.2.2.2.2.2.maxLocals := by rw [hml]; exact Nat.le_of_ble_eq_true rfl
  have hi3 : 3 < X.2.2.2.2.2.2.2.2.maxLocals := by rw [hml]; exact Nat.le_of_ble_eq_true rfl
  intro n
  induction n with
  | zero =>
    intro v2 v3 r hf kx
    cases hf
  | succ n ih =>
    intro v2 v3 r hf kx
    unfold M_hashOf_L4 at hf
    refine PW.iload_n cx qX7_hashOf_4 rfl ?_
    refine PW.aload_n cx qX7_hashOf_5 rfl ?_
    refine PW.iload_n cx qX7_hashOf_6 rfl ?_
    refine PW.iconst (v := 0) cx qX7_hashOf_7 rfl ?_
    refine PW.callVRI (As := [.int c1, .int 0]) (st := [.int v3]) cx hR qX7_hashOf_8 klX7_70 mvX7_of (sh_140 hx) rfl rfl rfl rfl (Nat.le_of_ble_eq_true rfl) (Nat.le_of_ble_eq_true rfl) (Nat.le_of_ble_eq_true rfl) (Nat.zero_le _) (Nat.zero_le _) hf sne (fun t e => ctX7_of hx h c1 0 t e) (fun t1 hf => ?_)
    refine PW.callSRI (As := [.int t1]) (st := [.int v3]) cx hR qX7_hashOf_11 klX7_61 miX7_digits rfl rfl (Nat.le_of_ble_eq_true rfl) (Nat.le_of_ble_eq_true rfl) (Nat.le_of_ble_eq_true rfl) (Nat.zero_le _) (Nat.zero_le _) hf sne (fun t e => ctX7_digits h t1 t e) (fun t2 hf => ?_)
    refine PW.icmp_ge cx qX7_hashOf_14 hf (fun hf => ?_) (fun hf => ?_)
    · exact PW.locs (Lsub.keep (Lsub.keep (Lsub.keep (Lsub.drop Lsub.nil)))) (kx v2 (Option.some.inj hf).symm)
    · refine PW.bipush (v := 31) cx qX7_hashOf_17 rfl ?_
      refine PW.iload_n cx qX7_hashOf_19 rfl ?_
      refine PW.imul cx qX7_hashOf_20 ?_
      refine PW.aload_n cx qX7_hashOf_21 rfl ?_
      refine PW.iload_n cx qX7_hashOf_22 rfl ?_
      refine PW.iconst (v := 0) cx qX7_hashOf_23 rfl ?_
      refine PW.callVRI (As := [.int c1, .int 0]) (st := [.int (31 * v2)]) cx hR qX7_hashOf_24 klX7_70 mvX7_of (sh_140 hx) rfl rfl rfl rfl (Nat.le_of_ble_eq_true rfl) (Nat.le_of_ble_eq_true rfl) (Nat.le_of_ble_eq_true rfl) (Nat.zero_le _) (Nat.zero_le _) hf sne (fun t e => ctX7_of hx h c1 0 t e) (fun t3 hf => ?_)
      refine PW.iload_n cx qX7_hashOf_27 rfl ?_
      refine PW.callSRI (As := [.int t3, .int v3]) (st := [.int (31 * v2)]) cx hR qX7_hashOf_28 klX7_74 miX7_digit rfl rfl (Nat.le_of_ble_eq_true rfl) (Nat.le_of_ble_eq_true rfl) (Nat.le_of_ble_eq_true rfl) (Nat.zero_le _) (Nat.zero_le _) hf sne (fun t e => ctX7_digit h t3 v3 t e) (fun t4 hf => ?_)
      refine PW.iadd cx qX7_hashOf_31 ?_
      refine PW.sipush (v := 997) cx qX7_hashOf_32 rfl ?_
      refine PW.iremK cx qX7_hashOf_35 (by decide) ?_
      refine PW.istore_n (L' := [some (.ref (gB g + 140)), some (.int c1), some (.int (((31 * v2) + t4) - ((31 * v2) + t4) / 997 * 997)), some (.int v3)]) cx qX7_hashOf_36 hi2 rfl rfl ?_
      refine PW.iinc (v := 1) (L' := [some (.ref (gB g + 140)), some (.int c1), some (.int (((31 * v2) + t4) - ((31 * v2) + t4) / 997 * 997)), some (.int (v3 + 1))]) cx qX7_hashOf_37 rfl rfl hi3 rfl rfl ?_
      refine PW.goto cx qX7_hashOf_40 ?_
      exact PW.locs (Lsub.keep (Lsub.keep (Lsub.keep (Lsub.keep Lsub.nil)))) (ih (((31 * v2) + t4) - ((31 * v2) + t4) / 997 * 997) (v3 + 1) _ hf kx)
theorem ctX7_hashOf {g : GT} {ex : Bool} {sh : List Shp} (hx : MSh sh) (h : Hp) (p1 : Int32) (r0 : Int32) (hf : M_hashOf h p1 = some r0) : Ct g mX7_hashOf 2 0 0 ex [.ref (gB g + 140), .int p1] sh h (PE (some (.int r0)) sh h) := by
  refine Ct.of (L := [some (.ref (gB g + 140)), some (.int p1), none, none]) (by decide) (by intro w hw; simp only [List.mem_cons, List.not_mem_nil, or_false] at hw; rcases hw with rfl | rfl <;> rfl) (Nat.le_of_ble_eq_true rfl) rfl (fun X mx => ?_)
  have mx0 := mx
  obtain ⟨cx, hR, hml, hrt, -⟩ := mx0
  have cx : Cx g X RX7 cX7_hashOf := cx
  have hrt : X.2.2.2.2.2.2.2.1.sig.returnType = (some .int) := hrt
  have hi2 : 2 < X.2.2.2.2.2.2.2.2.maxLocals := by rw [hml]; exact Nat.le_of_ble_eq_true rfl
  have hi3 : 3 < X.2.2.2.2.2.2.2.2.maxLocals := by rw [hml]; exact Nat.le_of_ble_eq_true rfl
  unfold M_hashOf at hf
  refine PW.iconst (v := 0) cx qX7_hashOf_0 rfl ?_
  refine PW.istore_n (L' := [some (.ref (gB g + 140)), some (.int p1), some (.int 0), none]) cx qX7_hashOf_1 hi2 rfl rfl ?_
  refine PW.iconst (v := 0) cx qX7_hashOf_2 rfl ?_
  refine PW.istore_n (L' := [some (.ref (gB g + 140)), some (.int p1), some (.int 0), some (.int 0)]) cx qX7_hashOf_3 hi3 rfl rfl ?_
  obtain ⟨r5, er5, hf⟩ := bndO hf sne
  refine PW.locs (Lsub.keep (Lsub.keep (Lsub.keep (Lsub.keep Lsub.nil)))) (lX7_hashOf_4 mx hx h p1 FU 0 0 r5 er5 (fun x2_6 e => ?_))
  subst e
  refine PW.iload_n cx qX7_hashOf_43 rfl ?_
  exact PW.iret cx hrt qX7_hashOf_44 (le_ri hf)
theorem ctX7_homeOf {g : GT} {ex : Bool} {sh : List Shp} (hx : MSh sh) (h : Hp) (p1 : Int32) (p2 : Int32) (r0 : Int32) (hf : M_homeOf h p1 p2 = some r0) : Ct g mX7_homeOf 3 0 0 ex [.ref (gB g + 140), .int p1, .int p2] sh h (PE (some (.int r0)) sh h) := by
  refine Ct.of (L := [some (.ref (gB g + 140)), some (.int p1), some (.int p2)]) (by decide) (by intro w hw; simp only [List.mem_cons, List.not_mem_nil, or_false] at hw; rcases hw with rfl | rfl | rfl <;> rfl) (Nat.le_of_ble_eq_true rfl) rfl (fun X mx => ?_)
  obtain ⟨cx, hR, hml, hrt, -⟩ := mx
  have cx : Cx g X RX7 cX7_homeOf := cx
  have hrt : X.2.2.2.2.2.2.2.1.sig.returnType = (some .int) := hrt
  unfold M_homeOf at hf
  refine PW.aload_n cx qX7_homeOf_0 rfl ?_
  refine PW.iload_n cx qX7_homeOf_1 rfl ?_
  refine PW.callVRI (As := [.int p1]) (st := []) cx hR qX7_homeOf_2 klX7_89 mvX7_hashOf (sh_140 hx) rfl rfl rfl rfl (Nat.le_of_ble_eq_true rfl) (Nat.le_of_ble_eq_true rfl) (Nat.le_of_ble_eq_true rfl) (Nat.zero_le _) (Nat.zero_le _) hf sne (fun t e => ctX7_hashOf hx h p1 t e) (fun t1 hf => ?_)
  refine PW.aload_n cx qX7_homeOf_5 rfl ?_
  refine PW.iload_n cx qX7_homeOf_6 rfl ?_
  refine PW.callVRI (As := [.int p2]) (st := [.int t1]) cx hR qX7_homeOf_7 klX7_92 mvX7_beds (sh_140 hx) rfl rfl rfl rfl (Nat.le_of_ble_eq_true rfl) (Nat.le_of_ble_eq_true rfl) (Nat.le_of_ble_eq_true rfl) (Nat.zero_le _) (Nat.zero_le _) hf sne (fun t e => ctX7_beds hx h p2 t e) (fun t2 hf => ?_)
  refine PW.irem cx qX7_homeOf_10 hf sne (fun t3 hf => ?_)
  exact PW.iret cx hrt qX7_homeOf_11 (le_ri hf)
theorem ctX7_onWay {g : GT} {ex : Bool} {sh : List Shp} (hx : MSh sh) (h : Hp) (p1 : Int32) (p2 : Int32) (p3 : Int32) (r0 : Int32) (hf : M_onWay h p1 p2 p3 = some r0) : Ct g mX7_onWay 4 0 0 ex [.ref (gB g + 140), .int p1, .int p2, .int p3] sh h (PE (some (.int r0)) sh h) := by
  refine Ct.of (L := [some (.ref (gB g + 140)), some (.int p1), some (.int p2), some (.int p3)]) (by decide) (by intro w hw; simp only [List.mem_cons, List.not_mem_nil, or_false] at hw; rcases hw with rfl | rfl | rfl | rfl <;> rfl) (Nat.le_of_ble_eq_true rfl) rfl (fun X mx => ?_)
  obtain ⟨cx, hR, hml, hrt, -⟩ := mx
  have cx : Cx g X RX7 cX7_onWay := cx
  have hrt : X.2.2.2.2.2.2.2.1.sig.returnType = (some .int) := hrt
  unfold M_onWay at hf
  refine PW.aload_n cx qX7_onWay_0 rfl ?_
  refine PW.iload_n cx qX7_onWay_1 rfl ?_
  refine PW.iload_n cx qX7_onWay_2 rfl ?_
  refine PW.callVRI (As := [.int p1, .int p2]) (st := []) cx hR qX7_onWay_3 klX7_95 mvX7_homeOf (sh_140 hx) rfl rfl rfl rfl (Nat.le_of_ble_eq_true rfl) (Nat.le_of_ble_eq_true rfl) (Nat.le_of_ble_eq_true rfl) (Nat.zero_le _) (Nat.zero_le _) hf sne (fun t e => ctX7_homeOf hx h p1 p2 t e) (fun t1 hf => ?_)
  refine PW.iload_n cx qX7_onWay_6 rfl ?_
  refine PW.iadd cx qX7_onWay_7 ?_
  refine PW.aload_n cx qX7_onWay_8 rfl ?_
  refine PW.iload_n cx qX7_onWay_9 rfl ?_
  refine PW.callVRI (As := [.int p2]) (st := [.int (t1 + p3)]) cx hR qX7_onWay_10 klX7_92 mvX7_beds (sh_140 hx) rfl rfl rfl rfl (Nat.le_of_ble_eq_true rfl) (Nat.le_of_ble_eq_true rfl) (Nat.le_of_ble_eq_true rfl) (Nat.zero_le _) (Nat.zero_le _) hf sne (fun t e => ctX7_beds hx h p2 t e) (fun t2 hf => ?_)
  refine PW.irem cx qX7_onWay_13 hf sne (fun t3 hf => ?_)
  exact PW.iret cx hrt qX7_onWay_14 (le_ri hf)
theorem lX7_passedBy_2 {g : GT} {X : XT} {ex : Bool} {sh : List Shp} {post : Option Value → List Shp → Hp → Prop} (mx : Mx g X mX7_passedBy 5 0 0) (hx : MSh sh) (h : Hp) (c1 : Int32) (c2 : Int32) : ∀ (n : Nat) (v3 : Int32) (r : (Unit) ⊕ (Int32)) (hf : M_passedBy_L2 h c1 c2 n v3 = some r) (kx : r = .inl () → PW g X ex (QE g X ex post 0 0) 0 0 sh h 34 [some (.ref (gB g + 140)), some (.int c1), some (.int c2), none] []) (kr : ∀ y : Int32, r = .inr y → post (some (.int y)) sh h), PW g X ex (QE g X ex post 0 0) 0 0 sh h 2 [some (.ref (gB g + 140)), some (.int c1), some (.int c2), some (.int v3)] [] := by
  obtain ⟨cx, hR, hml, hrt, -⟩ := mx
  have cx : Cx g X RX7 cX7_passedBy := cx
  have hrt : X.2.2.2.2.2.2.2.1.sig.returnType = (some .int) := hrt
  have hi3 : 3 < X.2.2.2.2.2.2.2.2.maxLocals := by rw [hml]; exact Nat.le_of_ble_eq_true rfl
  intro n
  induction n with
  | zero =>
    intro v3 r hf kx kr
    cases hf
  | succ n ih =>
    intro v3 r hf kx kr
    unfold M_passedBy_L2 at hf
    refine PW.iload_n cx qX7_passedBy_2 rfl ?_
    refine PW.aload_n cx qX7_passedBy_3 rfl ?_
    refine PW.iload_n cx qX7_passedBy_4 rfl ?_
    refine PW.callVRI (As := [.int c2]) (st := [.int v3]) cx hR qX7_passedBy_5 klX7_92 mvX7_beds (sh_140 hx) rfl rfl rfl rfl (Nat.le_of_ble_eq_true rfl) (Nat.le_of_ble_eq_true rfl) (Nat.le_of_ble_eq_true rfl) (Nat.zero_le _) (Nat.zero_le _) hf sne (fun t e => ctX7_beds hx h c2 t e) (fun t1 hf => ?_)
    refine PW.icmp_ge cx qX7_passedBy_8 hf (fun hf => ?_) (fun hf => ?_)
    · exact PW.locs (Lsub.keep (Lsub.keep (Lsub.keep (Lsub.drop Lsub.nil)))) (kx (Option.some.inj hf).symm)
    · refine PW.aload_n cx qX7_passedBy_11 rfl ?_
      refine PW.iload_n cx qX7_passedBy_12 rfl ?_
      refine PW.aload_n cx qX7_passedBy_13 rfl ?_
      refine PW.iload_n cx qX7_passedBy_14 rfl ?_
      refine PW.iload_n cx qX7_passedBy_15 rfl ?_
      refine PW.iload_n cx qX7_passedBy_16 rfl ?_
      refine PW.callVRI (As := [.int c1, .int c2, .int v3]) (st := [.int c2, .ref (gB g + 140)]) cx hR qX7_passedBy_17 klX7_98 mvX7_onWay (sh_140 hx) rfl rfl rfl rfl (Nat.le_of_ble_eq_true rfl) (Nat.le_of_ble_eq_true rfl) (Nat.le_of_ble_eq_true rfl) (Nat.zero_le _) (Nat.zero_le _) hf sne (fun t e => ctX7_onWay hx h c1 c2 v3 t e) (fun t2 hf => ?_)
      refine PW.callVRI (As := [.int c2, .int t2]) (st := []) cx hR qX7_passedBy_20 klX7_102 mvX7_inBed (sh_140 hx) rfl rfl rfl rfl (Nat.le_of_ble_eq_true rfl) (Nat.le_of_ble_eq_true rfl) (Nat.le_of_ble_eq_true rfl) (Nat.zero_le _) (Nat.zero_le _) hf sne (fun t e => ctX7_inBed hx h c2 t2 t e) (fun t3 hf => ?_)
      refine PW.if_ge cx qX7_passedBy_23 hf (fun hf => ?_) (fun hf => ?_)
      · refine PW.iinc (v := 1) (L' := [some (.ref (gB g + 140)), some (.int c1), some (.int c2), some (.int (v3 + 1))]) cx qX7_passedBy_28 rfl rfl hi3 rfl rfl ?_
        refine PW.goto cx qX7_passedBy_31 ?_
        exact PW.locs (Lsub.keep (Lsub.keep (Lsub.keep (Lsub.keep Lsub.nil)))) (ih (v3 + 1) _ hf kx kr)
      · refine PW.iload_n cx qX7_passedBy_26 rfl ?_
        exact PW.iret cx hrt qX7_passedBy_27 (kr _ (Option.some.inj hf).symm)
theorem ctX7_passedBy {g : GT} {ex : Bool} {sh : List Shp} (hx : MSh sh) (h : Hp) (p1 : Int32) (p2 : Int32) (r0 : Int32) (hf : M_passedBy h p1 p2 = some r0) : Ct g mX7_passedBy 5 0 0 ex [.ref (gB g + 140), .int p1, .int p2] sh h (PE (some (.int r0)) sh h) := by
  refine Ct.of (L := [some (.ref (gB g + 140)), some (.int p1), some (.int p2), none]) (by decide) (by intro w hw; simp only [List.mem_cons, List.not_mem_nil, or_false] at hw; rcases hw with rfl | rfl | rfl <;> rfl) (Nat.le_of_ble_eq_true rfl) rfl (fun X mx => ?_)
  have mx0 := mx
  obtain ⟨cx, hR, hml, hrt, -⟩ := mx0
  have cx : Cx g X RX7 cX7_passedBy := cx
  have hrt : X.2.2.2.2.2.2.2.1.sig.returnType = (some .int) := hrt
  have hi3 : 3 < X.2.2.2.2.2.2.2.2.maxLocals := by rw [hml]; exact Nat.le_of_ble_eq_true rfl
  unfold M_passedBy at hf
  refine PW.iconst (v := 0) cx qX7_passedBy_0 rfl ?_
  refine PW.istore_n (L' := [some (.ref (gB g + 140)), some (.int p1), some (.int p2), some (.int 0)]) cx qX7_passedBy_1 hi3 rfl rfl ?_
  obtain ⟨r4, er4, hf⟩ := bndO hf sne
  refine PW.locs (Lsub.keep (Lsub.keep (Lsub.keep (Lsub.keep Lsub.nil)))) (lX7_passedBy_2 mx hx h p1 p2 FU 0 r4 er4 (fun e => ?_) (fun y e => ?_))
  · subst e
    refine PW.iconst (v := (-1)) cx qX7_passedBy_34 rfl ?_
    exact PW.iret cx hrt qX7_passedBy_35 (le_ri hf)
  · subst e
    exact (le_ri hf)
theorem lX7_looks_2 {g : GT} {X : XT} {ex : Bool} {sh : List Shp} {post : Option Value → List Shp → Hp → Prop} (mx : Mx g X mX7_looks 5 0 0) (hx : MSh sh) (h : Hp) (c1 : Int32) (c2 : Int32) : ∀ (n : Nat) (v3 : Int32) (r : (Unit) ⊕ (Int32)) (hf : M_looks_L2 h c1 c2 n v3 = some r) (kx : r = .inl () → PW g X ex (QE g X ex post 0 0) 0 0 sh h 47 [some (.ref (gB g + 140)), some (.int c1), some (.int c2), none, none] []) (kr : ∀ y : Int32, r = .inr y → post (some (.int y)) sh h), PW g X ex (QE g X ex post 0 0) 0 0 sh h 2 [some (.ref (gB g + 140)), some (.int c1), some (.int c2), some (.int v3), none] [] := by
  obtain ⟨cx, hR, hml, hrt, -⟩ := mx
  have cx : Cx g X RX7 cX7_looks := cx
  have hrt : X.2.2.2.2.2.2.2.1.sig.returnType = (some .int) := hrt
  have hi3 : 3 < X.2.2.2.2.2.2.2.2.maxLocals := by rw [hml]; exact Nat.le_of_ble_eq_true rfl
  have hi4 : 4 < X.2.2.2.2.2.2.2.2.maxLocals := by rw [hml]; exact Nat.le_of_ble_eq_true rfl
  intro n
  induction n with
  | zero =>
    intro v3 r hf kx kr
    cases hf
  | succ n ih =>
    intro v3 r hf kx kr
    unfold M_looks_L2 at hf
    refine PW.iload_n cx qX7_looks_2 rfl ?_
    refine PW.aload_n cx qX7_looks_3 rfl ?_
    refine PW.iload_n cx qX7_looks_4 rfl ?_
    refine PW.callVRI (As := [.int c2]) (st := [.int v3]) cx hR qX7_looks_5 klX7_92 mvX7_beds (sh_140 hx) rfl rfl rfl rfl (Nat.le_of_ble_eq_true rfl) (Nat.le_of_ble_eq_true rfl) (Nat.le_of_ble_eq_true rfl) (Nat.zero_le _) (Nat.zero_le _) hf sne (fun t e => ctX7_beds hx h c2 t e) (fun t1 hf => ?_)
    refine PW.icmp_ge cx qX7_looks_8 hf (fun hf => ?_) (fun hf => ?_)
    · exact PW.locs (Lsub.keep (Lsub.keep (Lsub.keep (Lsub.drop (Lsub.drop Lsub.nil))))) (kx (Option.some.inj hf).symm)
    · refine PW.aload_n cx qX7_looks_11 rfl ?_
      refine PW.iload_n cx qX7_looks_12 rfl ?_
      refine PW.aload_n cx qX7_looks_13 rfl ?_
      refine PW.iload_n cx qX7_looks_14 rfl ?_
      refine PW.iload_n cx qX7_looks_15 rfl ?_
      refine PW.iload_n cx qX7_looks_16 rfl ?_
      refine PW.callVRI (As := [.int c1, .int c2, .int v3]) (st := [.int c2, .ref (gB g + 140)]) cx hR qX7_looks_17 klX7_98 mvX7_onWay (sh_140 hx) rfl rfl rfl rfl (Nat.le_of_ble_eq_true rfl) (Nat.le_of_ble_eq_true rfl) (Nat.le_of_ble_eq_true rfl) (Nat.zero_le _) (Nat.zero_le _) hf sne (fun t e => ctX7_onWay hx h c1 c2 v3 t e) (fun t2 hf => ?_)
      refine PW.callVRI (As := [.int c2, .int t2]) (st := []) cx hR qX7_looks_20 klX7_102 mvX7_inBed (sh_140 hx) rfl rfl rfl rfl (Nat.le_of_ble_eq_true rfl) (Nat.le_of_ble_eq_true rfl) (Nat.le_of_ble_eq_true rfl) (Nat.zero_le _) (Nat.zero_le _) hf sne (fun t e => ctX7_inBed hx h c2 t2 t e) (fun t3 hf => ?_)
      refine PW.istore (L' := [some (.ref (gB g + 140)), some (.int c1), some (.int c2), some (.int v3), some (.int t3)]) cx qX7_looks_23 hi4 rfl rfl ?_
      refine PW.iload cx qX7_looks_25 rfl ?_
      refine PW.iload_n cx qX7_looks_27 rfl ?_
      refine PW.icmp_eq cx qX7_looks_28 hf (fun hf => ?_) (fun hf => ?_)
      · refine PW.iload_n cx qX7_looks_37 rfl ?_
        refine PW.iconst (v := 1) cx qX7_looks_38 rfl ?_
        refine PW.iadd cx qX7_looks_39 ?_
        exact PW.iret cx hrt qX7_looks_40 (kr _ (Option.some.inj hf).symm)
      · refine PW.iload cx qX7_looks_31 rfl ?_
        refine PW.iconst (v := (-1)) cx qX7_looks_33 rfl ?_
        refine PW.icmp_ne cx qX7_looks_34 hf (fun hf => ?_) (fun hf => ?_)
        · refine PW.iload_n cx qX7_looks_37 rfl ?_
          refine PW.iconst (v := 1) cx qX7_looks_38 rfl ?_
          refine PW.iadd cx qX7_looks_39 ?_
          exact PW.iret cx hrt qX7_looks_40 (kr _ (Option.some.inj hf).symm)
        · refine PW.iinc (v := 1) (L' := [some (.ref (gB g + 140)), some (.int c1), some (.int c2), some (.int (v3 + 1)), some (.int t3)]) cx qX7_looks_41 rfl rfl hi3 rfl rfl ?_
          refine PW.goto cx qX7_looks_44 ?_
          exact PW.locs (Lsub.keep (Lsub.keep (Lsub.keep (Lsub.keep (Lsub.drop Lsub.nil))))) (ih (v3 + 1) _ hf kx kr)
theorem ctX7_looks {g : GT} {ex : Bool} {sh : List Shp} (hx : MSh sh) (h : Hp) (p1 : Int32) (p2 : Int32) (r0 : Int32) (hf : M_looks h p1 p2 = some r0) : Ct g mX7_looks 5 0 0 ex [.ref (gB g + 140), .int p1, .int p2] sh h (PE (some (.int r0)) sh h) := by
  refine Ct.of (L := [some (.ref (gB g + 140)), some (.int p1), some (.int p2), none, none]) (by decide) (by intro w hw; simp only [List.mem_cons, List.not_mem_nil, or_false] at hw; rcases hw with rfl | rfl | rfl <;> rfl) (Nat.le_of_ble_eq_true rfl) rfl (fun X mx => ?_)
  have mx0 := mx
  obtain ⟨cx, hR, hml, hrt, -⟩ := mx0
  have cx : Cx g X RX7 cX7_looks := cx
  have hrt : X.2.2.2.2.2.2.2.1.sig.returnType = (some .int) := hrt
  have hi3 : 3 < X.2.2.2.2.2.2.2.2.maxLocals := by rw [hml]; exact Nat.le_of_ble_eq_true rfl
  have hi4 : 4 < X.2.2.2.2.2.2.2.2.maxLocals := by rw [hml]; exact Nat.le_of_ble_eq_true rfl
  unfold M_looks at hf
  refine PW.iconst (v := 0) cx qX7_looks_0 rfl ?_
  refine PW.istore_n (L' := [some (.ref (gB g + 140)), some (.int p1), some (.int p2), some (.int 0), none]) cx qX7_looks_1 hi3 rfl rfl ?_
  obtain ⟨r4, er4, hf⟩ := bndO hf sne
  refine PW.locs (Lsub.keep (Lsub.keep (Lsub.keep (Lsub.keep (Lsub.drop Lsub.nil))))) (lX7_looks_2 mx hx h p1 p2 FU 0 r4 er4 (fun e => ?_) (fun y e => ?_))
  · subst e
    refine PW.aload_n cx qX7_looks_47 rfl ?_
    refine PW.iload_n cx qX7_looks_48 rfl ?_
    refine PW.callVRI (As := [.int p2]) (st := []) cx hR qX7_looks_49 klX7_92 mvX7_beds (sh_140 hx) rfl rfl rfl rfl (Nat.le_of_ble_eq_true rfl) (Nat.le_of_ble_eq_true rfl) (Nat.le_of_ble_eq_true rfl) (Nat.zero_le _) (Nat.zero_le _) hf sne (fun t e => ctX7_beds hx h p2 t e) (fun t5 hf => ?_)
    exact PW.iret cx hrt qX7_looks_52 (le_ri hf)
  · subst e
    exact (le_ri hf)
end
