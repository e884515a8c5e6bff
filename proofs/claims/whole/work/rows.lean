section
-- ===== PART A: goes FIRST, ahead of the names: the tables' words, and 'selects' of the private methods out of them =====
/-- a private method of a class that the tables say can be made, by its rows of tables_1 -/
def lw_okq (q : MethodName × Nat) : Prop := (q.1.cls ≠ "java/lang/invoke/MethodHandle" ∧ q.1.cls ≠ "java/lang/invoke/VarHandle") ∧ Cond.instantiable q.1.cls q.2 ∈ tables_1 ∧ Cond.privateMethod q.1 ∈ tables_1 ∧ Cond.instanceMethod q.1 ∈ tables_1
theorem lw_p0 : lw_okq (⟨"RadiusDecoder", "beginField", "(I)V"⟩, 9) := ⟨⟨by decide +kernel, by decide +kernel⟩, List.mem_of_getElem? (i := 12) (by decide +kernel), List.mem_of_getElem? (i := 221) (by decide +kernel), List.mem_of_getElem? (i := 222) (by decide +kernel)⟩
theorem lw_p1 : lw_okq (⟨"RadiusDecoder", "beginCode", "(III)V"⟩, 9) := ⟨⟨by decide +kernel, by decide +kernel⟩, List.mem_of_getElem? (i := 12) (by decide +kernel), List.mem_of_getElem? (i := 238) (by decide +kernel), List.mem_of_getElem? (i := 239) (by decide +kernel)⟩
theorem lw_p2 : lw_okq (⟨"RadiusDecoder$Code", "fillFactors", "(I)V"⟩, 11) := ⟨⟨by decide +kernel, by decide +kernel⟩, List.mem_of_getElem? (i := 49) (by decide +kernel), List.mem_of_getElem? (i := 246) (by decide +kernel), List.mem_of_getElem? (i := 247) (by decide +kernel)⟩
theorem lw_p3 : lw_okq (⟨"RadiusDecoder$Code", "fillGenerator", "()V"⟩, 11) := ⟨⟨by decide +kernel, by decide +kernel⟩, List.mem_of_getElem? (i := 49) (by decide +kernel), List.mem_of_getElem? (i := 258) (by decide +kernel), List.mem_of_getElem? (i := 259) (by decide +kernel)⟩
theorem lw_p4 : lw_okq (⟨"RadiusDecoder$Code", "fillPlainRow", "(I)V"⟩, 11) := ⟨⟨by decide +kernel, by decide +kernel⟩, List.mem_of_getElem? (i := 49) (by decide +kernel), List.mem_of_getElem? (i := 262) (by decide +kernel), List.mem_of_getElem? (i := 263) (by decide +kernel)⟩
theorem lw_p5 : lw_okq (⟨"RadiusDecoder$Code", "fillUnitRows", "([[II)V"⟩, 11) := ⟨⟨by decide +kernel, by decide +kernel⟩, List.mem_of_getElem? (i := 49) (by decide +kernel), List.mem_of_getElem? (i := 271) (by decide +kernel), List.mem_of_getElem? (i := 272) (by decide +kernel)⟩
theorem lw_p6 : lw_okq (⟨"RadiusDecoder", "isInMessage", "(I)Z"⟩, 9) := ⟨⟨by decide +kernel, by decide +kernel⟩, List.mem_of_getElem? (i := 12) (by decide +kernel), List.mem_of_getElem? (i := 347) (by decide +kernel), List.mem_of_getElem? (i := 348) (by decide +kernel)⟩
theorem lw_p7 : lw_okq (⟨"RadiusDecoder", "isPlace", "(I)Z"⟩, 9) := ⟨⟨by decide +kernel, by decide +kernel⟩, List.mem_of_getElem? (i := 12) (by decide +kernel), List.mem_of_getElem? (i := 367) (by decide +kernel), List.mem_of_getElem? (i := 368) (by decide +kernel)⟩
theorem lw_p8 : lw_okq (⟨"RadiusDecoder", "isErasedTooMuch", "()Z"⟩, 9) := ⟨⟨by decide +kernel, by decide +kernel⟩, List.mem_of_getElem? (i := 12) (by decide +kernel), List.mem_of_getElem? (i := 392) (by decide +kernel), List.mem_of_getElem? (i := 393) (by decide +kernel)⟩
theorem lw_p9 : lw_okq (⟨"RadiusDecoder", "half", "()I"⟩, 9) := ⟨⟨by decide +kernel, by decide +kernel⟩, List.mem_of_getElem? (i := 12) (by decide +kernel), List.mem_of_getElem? (i := 396) (by decide +kernel), List.mem_of_getElem? (i := 397) (by decide +kernel)⟩
theorem lw_p10 : lw_okq (⟨"RadiusDecoder$Search", "setStart", "(II)V"⟩, 6) := ⟨⟨by decide +kernel, by decide +kernel⟩, List.mem_of_getElem? (i := 131) (by decide +kernel), List.mem_of_getElem? (i := 404) (by decide +kernel), List.mem_of_getElem? (i := 405) (by decide +kernel)⟩
theorem lw_p11 : lw_okq (⟨"RadiusDecoder$Search", "countVotes", "(I)V"⟩, 6) := ⟨⟨by decide +kernel, by decide +kernel⟩, List.mem_of_getElem? (i := 131) (by decide +kernel), List.mem_of_getElem? (i := 408) (by decide +kernel), List.mem_of_getElem? (i := 409) (by decide +kernel)⟩
theorem lw_p12 : lw_okq (⟨"RadiusDecoder", "locateWrongPlaces", "()V"⟩, 9) := ⟨⟨by decide +kernel, by decide +kernel⟩, List.mem_of_getElem? (i := 12) (by decide +kernel), List.mem_of_getElem? (i := 419) (by decide +kernel), List.mem_of_getElem? (i := 420) (by decide +kernel)⟩
theorem lw_p13 : lw_okq (⟨"RadiusDecoder", "radiusFor", "(I)I"⟩, 9) := ⟨⟨by decide +kernel, by decide +kernel⟩, List.mem_of_getElem? (i := 12) (by decide +kernel), List.mem_of_getElem? (i := 447) (by decide +kernel), List.mem_of_getElem? (i := 448) (by decide +kernel)⟩
theorem lw_p14 : lw_okq (⟨"RadiusDecoder", "boundFor", "(I)I"⟩, 9) := ⟨⟨by decide +kernel, by decide +kernel⟩, List.mem_of_getElem? (i := 12) (by decide +kernel), List.mem_of_getElem? (i := 451) (by decide +kernel), List.mem_of_getElem? (i := 452) (by decide +kernel)⟩
theorem lw_p15 : lw_okq (⟨"RadiusDecoder$Passing", "setPlaces", "()V"⟩, 11) := ⟨⟨by decide +kernel, by decide +kernel⟩, List.mem_of_getElem? (i := 180) (by decide +kernel), List.mem_of_getElem? (i := 482) (by decide +kernel), List.mem_of_getElem? (i := 483) (by decide +kernel)⟩
def lw_privs_1 : List (MethodName × Nat) := [(⟨"RadiusDecoder", "beginField", "(I)V"⟩, 9), (⟨"RadiusDecoder", "beginCode", "(III)V"⟩, 9), (⟨"RadiusDecoder$Code", "fillFactors", "(I)V"⟩, 11), (⟨"RadiusDecoder$Code", "fillGenerator", "()V"⟩, 11), (⟨"RadiusDecoder$Code", "fillPlainRow", "(I)V"⟩, 11), (⟨"RadiusDecoder$Code", "fillUnitRows", "([[II)V"⟩, 11), (⟨"RadiusDecoder", "isInMessage", "(I)Z"⟩, 9), (⟨"RadiusDecoder", "isPlace", "(I)Z"⟩, 9), (⟨"RadiusDecoder", "isErasedTooMuch", "()Z"⟩, 9), (⟨"RadiusDecoder", "half", "()I"⟩, 9), (⟨"RadiusDecoder$Search", "setStart", "(II)V"⟩, 6), (⟨"RadiusDecoder$Search", "countVotes", "(I)V"⟩, 6), (⟨"RadiusDecoder", "locateWrongPlaces", "()V"⟩, 9), (⟨"RadiusDecoder", "radiusFor", "(I)I"⟩, 9), (⟨"RadiusDecoder", "boundFor", "(I)I"⟩, 9), (⟨"RadiusDecoder$Passing", "setPlaces", "()V"⟩, 11)]
theorem lw_r1 : ∀ q ∈ lw_privs_1, lw_okq q := List.forall_mem_cons.mpr ⟨lw_p0, List.forall_mem_cons.mpr ⟨lw_p1, List.forall_mem_cons.mpr ⟨lw_p2, List.forall_mem_cons.mpr ⟨lw_p3, List.forall_mem_cons.mpr ⟨lw_p4, List.forall_mem_cons.mpr ⟨lw_p5, List.forall_mem_cons.mpr ⟨lw_p6, List.forall_mem_cons.mpr ⟨lw_p7, List.forall_mem_cons.mpr ⟨lw_p8, List.forall_mem_cons.mpr ⟨lw_p9, List.forall_mem_cons.mpr ⟨lw_p10, List.forall_mem_cons.mpr ⟨lw_p11, List.forall_mem_cons.mpr ⟨lw_p12, List.forall_mem_cons.mpr ⟨lw_p13, List.forall_mem_cons.mpr ⟨lw_p14, List.forall_mem_cons.mpr ⟨lw_p15, fun _ h => absurd h List.not_mem_nil⟩⟩⟩⟩⟩⟩⟩⟩⟩⟩⟩⟩⟩⟩⟩⟩
theorem lw_p16 : lw_okq (⟨"RadiusDecoder$Passing", "setValues", "(III)V"⟩, 11) := ⟨⟨by decide +kernel, by decide +kernel⟩, List.mem_of_getElem? (i := 180) (by decide +kernel), List.mem_of_getElem? (i := 488) (by decide +kernel), List.mem_of_getElem? (i := 489) (by decide +kernel)⟩
theorem lw_p17 : lw_okq (⟨"RadiusDecoder$Passing", "meet", "(II)V"⟩, 11) := ⟨⟨by decide +kernel, by decide +kernel⟩, List.mem_of_getElem? (i := 180) (by decide +kernel), List.mem_of_getElem? (i := 493) (by decide +kernel), List.mem_of_getElem? (i := 494) (by decide +kernel)⟩
theorem lw_p18 : lw_okq (⟨"RadiusDecoder$Passing", "failingLeast", "(I)I"⟩, 11) := ⟨⟨by decide +kernel, by decide +kernel⟩, List.mem_of_getElem? (i := 180) (by decide +kernel), List.mem_of_getElem? (i := 497) (by decide +kernel), List.mem_of_getElem? (i := 498) (by decide +kernel)⟩
theorem lw_p19 : lw_okq (⟨"RadiusDecoder$Passing", "timesLinear", "([II)V"⟩, 11) := ⟨⟨by decide +kernel, by decide +kernel⟩, List.mem_of_getElem? (i := 180) (by decide +kernel), List.mem_of_getElem? (i := 502) (by decide +kernel), List.mem_of_getElem? (i := 503) (by decide +kernel)⟩
theorem lw_p20 : lw_okq (⟨"RadiusDecoderModel", "layField", "(II)V"⟩, 21) := ⟨⟨by decide +kernel, by decide +kernel⟩, List.mem_of_getElem? (i := 507) (by decide +kernel), List.mem_of_getElem? (i := 513) (by decide +kernel), List.mem_of_getElem? (i := 514) (by decide +kernel)⟩
theorem lw_p21 : lw_okq (⟨"RadiusDecoderModel", "layCode", "(III)V"⟩, 21) := ⟨⟨by decide +kernel, by decide +kernel⟩, List.mem_of_getElem? (i := 507) (by decide +kernel), List.mem_of_getElem? (i := 520) (by decide +kernel), List.mem_of_getElem? (i := 521) (by decide +kernel)⟩
theorem lw_p22 : lw_okq (⟨"RadiusDecoderModel", "isElement", "(I)Z"⟩, 21) := ⟨⟨by decide +kernel, by decide +kernel⟩, List.mem_of_getElem? (i := 507) (by decide +kernel), List.mem_of_getElem? (i := 599) (by decide +kernel), List.mem_of_getElem? (i := 600) (by decide +kernel)⟩
theorem lw_p23 : lw_okq (⟨"RadiusDecoderModel", "quotient", "(II)I"⟩, 21) := ⟨⟨by decide +kernel, by decide +kernel⟩, List.mem_of_getElem? (i := 507) (by decide +kernel), List.mem_of_getElem? (i := 607) (by decide +kernel), List.mem_of_getElem? (i := 608) (by decide +kernel)⟩
theorem lw_p24 : lw_okq (⟨"RadiusDecoderModel", "chosen", "(Z)I"⟩, 21) := ⟨⟨by decide +kernel, by decide +kernel⟩, List.mem_of_getElem? (i := 507) (by decide +kernel), List.mem_of_getElem? (i := 627) (by decide +kernel), List.mem_of_getElem? (i := 628) (by decide +kernel)⟩
theorem lw_p25 : lw_okq (⟨"RadiusDecoderModel", "messages", "()I"⟩, 21) := ⟨⟨by decide +kernel, by decide +kernel⟩, List.mem_of_getElem? (i := 507) (by decide +kernel), List.mem_of_getElem? (i := 631) (by decide +kernel), List.mem_of_getElem? (i := 632) (by decide +kernel)⟩
theorem lw_p26 : lw_okq (⟨"RadiusDecoderModel", "element", "(II)I"⟩, 21) := ⟨⟨by decide +kernel, by decide +kernel⟩, List.mem_of_getElem? (i := 507) (by decide +kernel), List.mem_of_getElem? (i := 635) (by decide +kernel), List.mem_of_getElem? (i := 636) (by decide +kernel)⟩
theorem lw_p27 : lw_okq (⟨"RadiusDecoderModel", "told", "(II)I"⟩, 21) := ⟨⟨by decide +kernel, by decide +kernel⟩, List.mem_of_getElem? (i := 507) (by decide +kernel), List.mem_of_getElem? (i := 639) (by decide +kernel), List.mem_of_getElem? (i := 640) (by decide +kernel)⟩
theorem lw_p28 : lw_okq (⟨"RadiusDecoderModel", "makeRow", "(I)V"⟩, 21) := ⟨⟨by decide +kernel, by decide +kernel⟩, List.mem_of_getElem? (i := 507) (by decide +kernel), List.mem_of_getElem? (i := 643) (by decide +kernel), List.mem_of_getElem? (i := 644) (by decide +kernel)⟩
theorem lw_p29 : lw_okq (⟨"RadiusDecoderModel", "isPlace", "(I)Z"⟩, 21) := ⟨⟨by decide +kernel, by decide +kernel⟩, List.mem_of_getElem? (i := 507) (by decide +kernel), List.mem_of_getElem? (i := 651) (by decide +kernel), List.mem_of_getElem? (i := 652) (by decide +kernel)⟩
theorem lw_p30 : lw_okq (⟨"RadiusDecoderModel", "apart", "(I)I"⟩, 21) := ⟨⟨by decide +kernel, by decide +kernel⟩, List.mem_of_getElem? (i := 507) (by decide +kernel), List.mem_of_getElem? (i := 667) (by decide +kernel), List.mem_of_getElem? (i := 668) (by decide +kernel)⟩
theorem lw_p31 : lw_okq (⟨"RadiusDecoderModel", "power", "(II)I"⟩, 21) := ⟨⟨by decide +kernel, by decide +kernel⟩, List.mem_of_getElem? (i := 507) (by decide +kernel), List.mem_of_getElem? (i := 671) (by decide +kernel), List.mem_of_getElem? (i := 672) (by decide +kernel)⟩
def lw_privs_2 : List (MethodName × Nat) := [(⟨"RadiusDecoder$Passing", "setValues", "(III)V"⟩, 11), (⟨"RadiusDecoder$Passing", "meet", "(II)V"⟩, 11), (⟨"RadiusDecoder$Passing", "failingLeast", "(I)I"⟩, 11), (⟨"RadiusDecoder$Passing", "timesLinear", "([II)V"⟩, 11), (⟨"RadiusDecoderModel", "layField", "(II)V"⟩, 21), (⟨"RadiusDecoderModel", "layCode", "(III)V"⟩, 21), (⟨"RadiusDecoderModel", "isElement", "(I)Z"⟩, 21), (⟨"RadiusDecoderModel", "quotient", "(II)I"⟩, 21), (⟨"RadiusDecoderModel", "chosen", "(Z)I"⟩, 21), (⟨"RadiusDecoderModel", "messages", "()I"⟩, 21), (⟨"RadiusDecoderModel", "element", "(II)I"⟩, 21), (⟨"RadiusDecoderModel", "told", "(II)I"⟩, 21), (⟨"RadiusDecoderModel", "makeRow", "(I)V"⟩, 21), (⟨"RadiusDecoderModel", "isPlace", "(I)Z"⟩, 21), (⟨"RadiusDecoderModel", "apart", "(I)I"⟩, 21), (⟨"RadiusDecoderModel", "power", "(II)I"⟩, 21)]
theorem lw_r2 : ∀ q ∈ lw_privs_2, lw_okq q := List.forall_mem_cons.mpr ⟨lw_p16, List.forall_mem_cons.mpr ⟨lw_p17, List.forall_mem_cons.mpr ⟨lw_p18, List.forall_mem_cons.mpr ⟨lw_p19, List.forall_mem_cons.mpr ⟨lw_p20, List.forall_mem_cons.mpr ⟨lw_p21, List.forall_mem_cons.mpr ⟨lw_p22, List.forall_mem_cons.mpr ⟨lw_p23, List.forall_mem_cons.mpr ⟨lw_p24, List.forall_mem_cons.mpr ⟨lw_p25, List.forall_mem_cons.mpr ⟨lw_p26, List.forall_mem_cons.mpr ⟨lw_p27, List.forall_mem_cons.mpr ⟨lw_p28, List.forall_mem_cons.mpr ⟨lw_p29, List.forall_mem_cons.mpr ⟨lw_p30, List.forall_mem_cons.mpr ⟨lw_p31, fun _ h => absurd h List.not_mem_nil⟩⟩⟩⟩⟩⟩⟩⟩⟩⟩⟩⟩⟩⟩⟩⟩
theorem lw_p32 : lw_okq (⟨"RadiusDecoderModel", "kept", "()I"⟩, 21) := ⟨⟨by decide +kernel, by decide +kernel⟩, List.mem_of_getElem? (i := 507) (by decide +kernel), List.mem_of_getElem? (i := 679) (by decide +kernel), List.mem_of_getElem? (i := 680) (by decide +kernel)⟩
theorem lw_p33 : lw_okq (⟨"RadiusDecoderModel", "distanceOf", "(II)I"⟩, 21) := ⟨⟨by decide +kernel, by decide +kernel⟩, List.mem_of_getElem? (i := 507) (by decide +kernel), List.mem_of_getElem? (i := 683) (by decide +kernel), List.mem_of_getElem? (i := 684) (by decide +kernel)⟩
theorem lw_p34 : lw_okq (⟨"RadiusDecoderModel", "radiusFor", "(II)I"⟩, 21) := ⟨⟨by decide +kernel, by decide +kernel⟩, List.mem_of_getElem? (i := 507) (by decide +kernel), List.mem_of_getElem? (i := 703) (by decide +kernel), List.mem_of_getElem? (i := 704) (by decide +kernel)⟩
theorem lw_p35 : lw_okq (⟨"RadiusDecoderModel", "boundFor", "(II)I"⟩, 21) := ⟨⟨by decide +kernel, by decide +kernel⟩, List.mem_of_getElem? (i := 507) (by decide +kernel), List.mem_of_getElem? (i := 707) (by decide +kernel), List.mem_of_getElem? (i := 708) (by decide +kernel)⟩
theorem lw_p36 : lw_okq (⟨"RadiusDecoderModel", "pairs", "(I)I"⟩, 21) := ⟨⟨by decide +kernel, by decide +kernel⟩, List.mem_of_getElem? (i := 507) (by decide +kernel), List.mem_of_getElem? (i := 711) (by decide +kernel), List.mem_of_getElem? (i := 712) (by decide +kernel)⟩
theorem lw_p37 : lw_okq (⟨"RadiusDecoderModel", "isBefore", "(II)Z"⟩, 21) := ⟨⟨by decide +kernel, by decide +kernel⟩, List.mem_of_getElem? (i := 507) (by decide +kernel), List.mem_of_getElem? (i := 715) (by decide +kernel), List.mem_of_getElem? (i := 716) (by decide +kernel)⟩
theorem lw_p38 : lw_okq (⟨"RadiusDecoderModel", "layTerm", "(III)I"⟩, 21) := ⟨⟨by decide +kernel, by decide +kernel⟩, List.mem_of_getElem? (i := 507) (by decide +kernel), List.mem_of_getElem? (i := 735) (by decide +kernel), List.mem_of_getElem? (i := 736) (by decide +kernel)⟩
theorem lw_p39 : lw_okq (⟨"RadiusDecoderModel", "condition", "(IIIII)I"⟩, 21) := ⟨⟨by decide +kernel, by decide +kernel⟩, List.mem_of_getElem? (i := 507) (by decide +kernel), List.mem_of_getElem? (i := 739) (by decide +kernel), List.mem_of_getElem? (i := 740) (by decide +kernel)⟩
theorem lw_p40 : lw_okq (⟨"RadiusDecoderModel", "isNew", "(II)Z"⟩, 21) := ⟨⟨by decide +kernel, by decide +kernel⟩, List.mem_of_getElem? (i := 507) (by decide +kernel), List.mem_of_getElem? (i := 743) (by decide +kernel), List.mem_of_getElem? (i := 744) (by decide +kernel)⟩
def lw_privs_3 : List (MethodName × Nat) := [(⟨"RadiusDecoderModel", "kept", "()I"⟩, 21), (⟨"RadiusDecoderModel", "distanceOf", "(II)I"⟩, 21), (⟨"RadiusDecoderModel", "radiusFor", "(II)I"⟩, 21), (⟨"RadiusDecoderModel", "boundFor", "(II)I"⟩, 21), (⟨"RadiusDecoderModel", "pairs", "(I)I"⟩, 21), (⟨"RadiusDecoderModel", "isBefore", "(II)Z"⟩, 21), (⟨"RadiusDecoderModel", "layTerm", "(III)I"⟩, 21), (⟨"RadiusDecoderModel", "condition", "(IIIII)I"⟩, 21), (⟨"RadiusDecoderModel", "isNew", "(II)Z"⟩, 21)]
theorem lw_r3 : ∀ q ∈ lw_privs_3, lw_okq q := List.forall_mem_cons.mpr ⟨lw_p32, List.forall_mem_cons.mpr ⟨lw_p33, List.forall_mem_cons.mpr ⟨lw_p34, List.forall_mem_cons.mpr ⟨lw_p35, List.forall_mem_cons.mpr ⟨lw_p36, List.forall_mem_cons.mpr ⟨lw_p37, List.forall_mem_cons.mpr ⟨lw_p38, List.forall_mem_cons.mpr ⟨lw_p39, List.forall_mem_cons.mpr ⟨lw_p40, fun _ h => absurd h List.not_mem_nil⟩⟩⟩⟩⟩⟩⟩⟩⟩
def lw_privs : List (MethodName × Nat) := lw_privs_1 ++ (lw_privs_2 ++ (lw_privs_3))
def lw_tbl : List Cond := k2_sels lw_privs ++ tables_1
theorem lw_privs_ok : ∀ q ∈ lw_privs, lw_okq q := by
  show ∀ q ∈ lw_privs_1 ++ (lw_privs_2 ++ (lw_privs_3)), lw_okq q
  exact List.forall_mem_append.mpr ⟨lw_r1, List.forall_mem_append.mpr ⟨lw_r2, lw_r3⟩⟩
end
section
/-! names: classes, fields, methods, the cells of the world; laid by gen/names.py -/
abbrev xMt : Type := MethodName × ByteArray × Nat × Option FieldType × String
def WS : List Cond := lw_tbl.filter goodWord
theorem WS_good : ∀ w ∈ WS, (w.onTables && w.keeps) = true ∨ ∃ ty, w = .arrayClass ty := fun w h => good_of_word (List.mem_filter.mp h).2
/-- words of nest mates: no spec carries them, so each contract has them among what it begins with -/
def isNest : Cond → Bool
  | .fieldLinkNest .. => true
  | .methodLinkNest .. => true
  | _ => false
def NW : List Cond := lw_tbl.filter isNest
theorem NW_tab : ∀ w ∈ NW, w.onTables = true := fun w h => by
  have h2 := (List.mem_filter.mp h).2
  cases w <;> first | rfl | cases h2
theorem NW_warm {s U : State} (hW : s.WarmedH U.vm) (h : ∀ w ∈ NW, va_Nw w s) : ∀ w ∈ NW, va_Nw w U := fun w hw => by
  have h2 := (List.mem_filter.mp hw).2
  have h3 := h w hw
  cases w <;> first | exact va_Nw.warmF hW h3 | exact va_Nw.warmM hW h3 | cases h2
def R_D : String := "RadiusDecoder"
def T_D : u_T := fun k => match k with
  | 0 => ("RadiusDecoder", "numbers", "LRadiusDecoder$Field;", true)
  | 1 => ("RadiusDecoder", "scheme", "LRadiusDecoder$Code;", true)
  | 2 => ("RadiusDecoder", "message", "[I", true)
  | 3 => ("RadiusDecoder", "received", "LRadiusDecoder$Word;", true)
  | 4 => ("RadiusDecoder", "search", "LRadiusDecoder$Search;", true)
  | 5 => ("RadiusDecoder", "nearest", "LRadiusDecoder$Finds;", true)
  | 6 => ("RadiusDecoder", "within", "LRadiusDecoder$Finds;", true)
  | 7 => ("RadiusDecoder", "register", "[I", true)
  | _ => ("RadiusDecoder", "passing", "LRadiusDecoder$Passing;", true)
def ty_D : Nat → FieldType := fun k => match k with
  | 0 => .object "RadiusDecoder$Field"
  | 1 => .object "RadiusDecoder$Code"
  | 2 => .array .int
  | 3 => .object "RadiusDecoder$Word"
  | 4 => .object "RadiusDecoder$Search"
  | 5 => .object "RadiusDecoder$Finds"
  | 6 => .object "RadiusDecoder$Finds"
  | 7 => .array .int
  | _ => .object "RadiusDecoder$Passing"
def R_F : String := "RadiusDecoder$Field"
def T_F : u_T := fun k => match k with
  | 0 => ("RadiusDecoder$Field", "degree", "I", false)
  | 1 => ("RadiusDecoder$Field", "size", "I", false)
  | 2 => ("RadiusDecoder$Field", "powers", "[I", true)
  | 3 => ("RadiusDecoder$Field", "logs", "[I", true)
  | _ => ("RadiusDecoder$Field", "products", "[I", true)
def ty_F : Nat → FieldType := fun k => match k with
  | 0 => .int
  | 1 => .int
  | 2 => .array .int
  | 3 => .array .int
  | _ => .array .int
def R_C : String := "RadiusDecoder$Code"
def T_C : u_T := fun k => match k with
  | 0 => ("RadiusDecoder$Code", "numbers", "LRadiusDecoder$Field;", true)
  | 1 => ("RadiusDecoder$Code", "kind", "I", false)
  | 2 => ("RadiusDecoder$Code", "length", "I", false)
  | 3 => ("RadiusDecoder$Code", "dimension", "I", false)
  | 4 => ("RadiusDecoder$Code", "points", "[I", true)
  | 5 => ("RadiusDecoder$Code", "stretches", "[I", true)
  | 6 => ("RadiusDecoder$Code", "checks", "[I", true)
  | 7 => ("RadiusDecoder$Code", "generator", "[I", true)
  | 8 => ("RadiusDecoder$Code", "plain", "[[I", true)
  | 9 => ("RadiusDecoder$Code", "leading", "[[I", true)
  | _ => ("RadiusDecoder$Code", "trailing", "[[I", true)
def ty_C : Nat → FieldType := fun k => match k with
  | 0 => .object "RadiusDecoder$Field"
  | 1 => .int
  | 2 => .int
  | 3 => .int
  | 4 => .array .int
  | 5 => .array .int
  | 6 => .array .int
  | 7 => .array .int
  | 8 => .array (.array .int)
  | 9 => .array (.array .int)
  | _ => .array (.array .int)
def R_W : String := "RadiusDecoder$Word"
def T_W : u_T := fun k => match k with
  | 0 => ("RadiusDecoder$Word", "open", "I", false)
  | 1 => ("RadiusDecoder$Word", "elements", "[I", true)
  | _ => ("RadiusDecoder$Word", "erased", "[Z", true)
def ty_W : Nat → FieldType := fun k => match k with
  | 0 => .int
  | 1 => .array .int
  | _ => .array .boolean
def R_S : String := "RadiusDecoder$Search"
def T_S : u_T := fun k => match k with
  | 0 => ("RadiusDecoder$Search", "numbers", "LRadiusDecoder$Field;", true)
  | 1 => ("RadiusDecoder$Search", "scheme", "LRadiusDecoder$Code;", true)
  | 2 => ("RadiusDecoder$Search", "received", "LRadiusDecoder$Word;", true)
  | 3 => ("RadiusDecoder$Search", "start", "[I", true)
  | 4 => ("RadiusDecoder$Search", "votes", "[I", true)
  | _ => ("RadiusDecoder$Search", "sure", "I", false)
def ty_S : Nat → FieldType := fun k => match k with
  | 0 => .object "RadiusDecoder$Field"
  | 1 => .object "RadiusDecoder$Code"
  | 2 => .object "RadiusDecoder$Word"
  | 3 => .array .int
  | 4 => .array .int
  | _ => .int
def R_N : String := "RadiusDecoder$Finds"
def T_N : u_T := fun k => match k with
  | 0 => ("RadiusDecoder$Finds", "scheme", "LRadiusDecoder$Code;", true)
  | 1 => ("RadiusDecoder$Finds", "count", "I", false)
  | 2 => ("RadiusDecoder$Finds", "codewords", "[[I", true)
  | _ => ("RadiusDecoder$Finds", "distances", "[I", true)
def ty_N : Nat → FieldType := fun k => match k with
  | 0 => .object "RadiusDecoder$Code"
  | 1 => .int
  | 2 => .array (.array .int)
  | _ => .array .int
def R_P : String := "RadiusDecoder$Passing"
def T_P : u_T := fun k => match k with
  | 0 => ("RadiusDecoder$Passing", "numbers", "LRadiusDecoder$Field;", true)
  | 1 => ("RadiusDecoder$Passing", "scheme", "LRadiusDecoder$Code;", true)
  | 2 => ("RadiusDecoder$Passing", "received", "LRadiusDecoder$Word;", true)
  | 3 => ("RadiusDecoder$Passing", "places", "I", false)
  | 4 => ("RadiusDecoder$Passing", "block", "I", false)
  | 5 => ("RadiusDecoder$Passing", "powers", "I", false)
  | 6 => ("RadiusDecoder$Passing", "xs", "[I", true)
  | 7 => ("RadiusDecoder$Passing", "ys", "[I", true)
  | 8 => ("RadiusDecoder$Passing", "withoutX", "[Z", true)
  | 9 => ("RadiusDecoder$Passing", "weights", "[I", true)
  | _ => ("RadiusDecoder$Passing", "values", "[[I", true)
def ty_P : Nat → FieldType := fun k => match k with
  | 0 => .object "RadiusDecoder$Field"
  | 1 => .object "RadiusDecoder$Code"
  | 2 => .object "RadiusDecoder$Word"
  | 3 => .int
  | 4 => .int
  | 5 => .int
  | 6 => .array .int
  | 7 => .array .int
  | 8 => .array .boolean
  | 9 => .array .int
  | _ => .array (.array .int)
def R_M : String := "RadiusDecoderModel"
def T_M : u_T := fun k => match k with
  | 0 => ("RadiusDecoderModel", "m", "I", false)
  | 1 => ("RadiusDecoderModel", "elements", "I", false)
  | 2 => ("RadiusDecoderModel", "product", "[I", true)
  | 3 => ("RadiusDecoderModel", "point", "[I", true)
  | 4 => ("RadiusDecoderModel", "kind", "I", false)
  | 5 => ("RadiusDecoderModel", "n", "I", false)
  | 6 => ("RadiusDecoderModel", "k", "I", false)
  | 7 => ("RadiusDecoderModel", "g", "[I", true)
  | 8 => ("RadiusDecoderModel", "message", "[I", true)
  | 9 => ("RadiusDecoderModel", "word", "[I", true)
  | 10 => ("RadiusDecoderModel", "erased", "[Z", true)
  | 11 => ("RadiusDecoderModel", "row", "[I", true)
  | 12 => ("RadiusDecoderModel", "found", "I", false)
  | 13 => ("RadiusDecoderModel", "differs", "[Z", true)
  | 14 => ("RadiusDecoderModel", "locating", "[I", true)
  | 15 => ("RadiusDecoderModel", "listed", "I", false)
  | 16 => ("RadiusDecoderModel", "members", "[I", true)
  | 17 => ("RadiusDecoderModel", "distances", "[I", true)
  | 18 => ("RadiusDecoderModel", "reduced", "[I", true)
  | 19 => ("RadiusDecoderModel", "first", "[I", true)
  | _ => ("RadiusDecoderModel", "term", "[I", true)
def ty_M : Nat → FieldType := fun k => match k with
  | 0 => .int
  | 1 => .int
  | 2 => .array .int
  | 3 => .array .int
  | 4 => .int
  | 5 => .int
  | 6 => .int
  | 7 => .array .int
  | 8 => .array .int
  | 9 => .array .int
  | 10 => .array .boolean
  | 11 => .array .int
  | 12 => .int
  | 13 => .array .boolean
  | 14 => .array .int
  | 15 => .int
  | 16 => .array .int
  | 17 => .array .int
  | 18 => .array .int
  | 19 => .array .int
  | _ => .array .int
def xCL : List vw_C := [(R_D, T_D, 9), (R_F, T_F, 5), (R_C, T_C, 11), (R_W, T_W, 3), (R_S, T_S, 6), (R_N, T_N, 4), (R_P, T_P, 11), (R_M, T_M, 21)]
def xIsL : List (List Bool) := [[true, true, true, true, true, true, true, true, true], [false, false, true, true, true], [true, false, false, false, true, true, true, true, true, true, true], [false, true, true], [true, true, true, true, true, false], [true, false, true, true], [true, true, true, false, false, false, true, true, true, true, true], [false, false, true, true, false, false, false, true, true, true, true, true, false, true, true, false, true, true, true, true, true]]
def xIs (ci j : Nat) : Bool := (xIsL.getD ci []).getD j false
def xSl : List (Nat × Nat) := [(3, 9), (4, 5), (0, 32), (0, 32), (0, 1024), (5, 11), (0, 20), (0, 20), (0, 20), (0, 20), (2, 4), (0, 24), (0, 24), (0, 24), (0, 24), (2, 4), (0, 24), (0, 24), (0, 24), (0, 24), (2, 4), (0, 24), (0, 24), (0, 24), (0, 24), (0, 4), (6, 3), (0, 20), (1, 20), (7, 6), (0, 4), (0, 32), (8, 4), (2, 1), (0, 20), (0, 1), (8, 4), (2, 16), (0, 20), (0, 20), (0, 20), (0, 20), (0, 20), (0, 20), (0, 20), (0, 20), (0, 20), (0, 20), (0, 20), (0, 20), (0, 20), (0, 20), (0, 20), (0, 20), (0, 16), (0, 20), (9, 11), (0, 20), (0, 20), (1, 120), (0, 16), (2, 16), (0, 120), (0, 120), (0, 120), (0, 120), (0, 120), (0, 120), (0, 120), (0, 120), (0, 120), (0, 120), (0, 120), (0, 120), (0, 120), (0, 120), (0, 120), (0, 120), (10, 21), (0, 1024), (0, 32), (0, 20), (0, 4), (0, 20), (1, 20), (0, 20), (1, 20), (0, 21), (0, 4096), (0, 4096), (0, 14400), (0, 120), (0, 120)]
def xS (k : Nat) : Nat × Nat := xSl.getD k (0, 0)
def xRl : List (List (Option Nat)) := [[some 1, some 5, some 25, some 26, some 29, some 32, some 36, some 55, some 56], [none, none, some 2, some 3, some 4], [], [], [], [some 1, none, none, none, some 6, some 7, some 8, some 9, some 10, some 15, some 20], [], [], [], [], [some 11, some 12, some 13, some 14], [], [], [], [], [some 16, some 17, some 18, some 19], [], [], [], [], [some 21, some 22, some 23, some 24], [], [], [], [], [], [none, some 27, some 28], [], [], [some 1, some 5, some 26, some 30, some 31], [], [], [some 5, none, some 33, some 35], [some 34], [], [], [some 5, none, some 37, some 54], [some 38, some 39, some 40, some 41, some 42, some 43, some 44, some 45, some 46, some 47, some 48, some 49, some 50, some 51, some 52, some 53], [], [], [], [], [], [], [], [], [], [], [], [], [], [], [], [], [], [], [some 1, some 5, some 26, none, none, none, some 57, some 58, some 59, some 60, some 61], [], [], [], [], [some 62, some 63, some 64, some 65, some 66, some 67, some 68, some 69, some 70, some 71, some 72, some 73, some 74, some 75, some 76, some 77], [], [], [], [], [], [], [], [], [], [], [], [], [], [], [], [], [none, none, some 79, some 80, none, none, none, some 81, some 82, some 83, some 84, some 85, none, some 86, some 87, none, some 88, some 89, some 90, some 91, some 92], [], [], [], [], [], [], [], [], [], [], [], [], [], []]
def xR0 (k j : Nat) : Option Nat := (xRl.getD k []).getD j none
theorem rowS_11 : ∀ {j : Nat}, j < 4 → xS (11 + j) = (0, 24) := by intro j h; revert j; decide
theorem rowN_11 {j : Nat} (h : j < 4) : 11 + j < 78 := by omega
theorem rowS_16 : ∀ {j : Nat}, j < 4 → xS (16 + j) = (0, 24) := by intro j h; revert j; decide
theorem rowN_16 {j : Nat} (h : j < 4) : 16 + j < 78 := by omega
theorem rowS_21 : ∀ {j : Nat}, j < 4 → xS (21 + j) = (0, 24) := by intro j h; revert j; decide
theorem rowN_21 {j : Nat} (h : j < 4) : 21 + j < 78 := by omega
theorem rowS_34 : ∀ {j : Nat}, j < 1 → xS (34 + j) = (0, 20) := by intro j h; revert j; decide
theorem rowN_34 {j : Nat} (h : j < 1) : 34 + j < 78 := by omega
theorem rowS_38 : ∀ {j : Nat}, j < 16 → xS (38 + j) = (0, 20) := by intro j h; revert j; decide
theorem rowN_38 {j : Nat} (h : j < 16) : 38 + j < 78 := by omega
theorem rowS_62 : ∀ {j : Nat}, j < 16 → xS (62 + j) = (0, 120) := by intro j h; revert j; decide
theorem rowN_62 {j : Nat} (h : j < 16) : 62 + j < 78 := by omega
def RC (b : Nat) (R : Nat → Nat → Option Nat) : Prop := ∀ k j, k < b → R k j = xR0 k j
theorem RC.at {b : Nat} {R : Nat → Nat → Option Nat} (h : RC b R) (k j : Nat) {t : Nat} (hk : Nat.blt k b = true) (e : xR0 k j = some t) : R k j = some t := (h k j (Nat.le_of_ble_eq_true hk)).trans e
theorem RC.row {b : Nat} {R : Nat → Nat → Option Nat} (h : RC b R) (k base cnt : Nat) (hk : Nat.blt k b = true) (e : ((List.range cnt).all fun j => xR0 k j == some (base + j)) = true) {z : Int} (h0 : 0 ≤ z) (h1 : z < cnt) : R k z.toNat = some (base + z.toNat) := by
  rw [h k _ (Nat.le_of_ble_eq_true hk)]
  have := List.all_eq_true.mp e z.toNat (List.mem_range.mpr (by omega))
  simpa using this
def m_D_init : xMt := (⟨"RadiusDecoder", "<init>", "()V"⟩, prog_1_method_1_code, 1, none, "RadiusDecoder")
def m_D_field : xMt := (⟨"RadiusDecoder", "field", "(I)I"⟩, prog_1_method_2_code, 2, (some .int), "RadiusDecoder")
def m_D_times : xMt := (⟨"RadiusDecoder", "times", "(II)I"⟩, prog_1_method_3_code, 3, (some .int), "RadiusDecoder")
def m_D_over : xMt := (⟨"RadiusDecoder", "over", "(II)I"⟩, prog_1_method_4_code, 3, (some .int), "RadiusDecoder")
def m_D_log : xMt := (⟨"RadiusDecoder", "log", "(I)I"⟩, prog_1_method_5_code, 2, (some .int), "RadiusDecoder")
def m_D_code : xMt := (⟨"RadiusDecoder", "code", "(III)Z"⟩, prog_1_method_6_code, 4, (some .boolean), "RadiusDecoder")
def m_D_tell : xMt := (⟨"RadiusDecoder", "tell", "(II)Z"⟩, prog_1_method_7_code, 3, (some .boolean), "RadiusDecoder")
def m_D_encode : xMt := (⟨"RadiusDecoder", "encode", "(Z)I"⟩, prog_1_method_8_code, 6, (some .int), "RadiusDecoder")
def m_D_receive : xMt := (⟨"RadiusDecoder", "receive", "(II)Z"⟩, prog_1_method_9_code, 3, (some .boolean), "RadiusDecoder")
def m_D_erase : xMt := (⟨"RadiusDecoder", "erase", "(I)Z"⟩, prog_1_method_10_code, 2, (some .boolean), "RadiusDecoder")
def m_D_word : xMt := (⟨"RadiusDecoder", "word", "(I)I"⟩, prog_1_method_11_code, 2, (some .int), "RadiusDecoder")
def m_D_syndrome : xMt := (⟨"RadiusDecoder", "syndrome", "(I)I"⟩, prog_1_method_12_code, 5, (some .int), "RadiusDecoder")
def m_D_decode : xMt := (⟨"RadiusDecoder", "decode", "(Z)I"⟩, prog_1_method_13_code, 2, (some .int), "RadiusDecoder")
def m_D_decoded : xMt := (⟨"RadiusDecoder", "decoded", "(I)I"⟩, prog_1_method_14_code, 2, (some .int), "RadiusDecoder")
def m_D_sent : xMt := (⟨"RadiusDecoder", "sent", "(I)I"⟩, prog_1_method_15_code, 2, (some .int), "RadiusDecoder")
def m_D_locator : xMt := (⟨"RadiusDecoder", "locator", "(I)I"⟩, prog_1_method_16_code, 2, (some .int), "RadiusDecoder")
def m_D_list : xMt := (⟨"RadiusDecoder", "list", "(I)I"⟩, prog_1_method_17_code, 2, (some .int), "RadiusDecoder")
def m_D_listed : xMt := (⟨"RadiusDecoder", "listed", "(II)I"⟩, prog_1_method_18_code, 3, (some .int), "RadiusDecoder")
def m_D_distance : xMt := (⟨"RadiusDecoder", "distance", "(I)I"⟩, prog_1_method_19_code, 2, (some .int), "RadiusDecoder")
def m_D_radius : xMt := (⟨"RadiusDecoder", "radius", "(I)I"⟩, prog_1_method_20_code, 2, (some .int), "RadiusDecoder")
def m_D_weight : xMt := (⟨"RadiusDecoder", "weight", "(I)I"⟩, prog_1_method_21_code, 2, (some .int), "RadiusDecoder")
def m_D_beginField : xMt := (⟨"RadiusDecoder", "beginField", "(I)V"⟩, prog_1_method_22_code, 2, none, "RadiusDecoder")
def m_D_beginCode : xMt := (⟨"RadiusDecoder", "beginCode", "(III)V"⟩, prog_1_method_23_code, 5, none, "RadiusDecoder")
def m_D_isPlace : xMt := (⟨"RadiusDecoder", "isPlace", "(I)Z"⟩, prog_1_method_24_code, 2, (some .boolean), "RadiusDecoder")
def m_D_isInMessage : xMt := (⟨"RadiusDecoder", "isInMessage", "(I)Z"⟩, prog_1_method_25_code, 2, (some .boolean), "RadiusDecoder")
def m_D_isTimes : xMt := (⟨"RadiusDecoder", "isTimes", "(I)Z"⟩, prog_1_method_26_code, 1, (some .boolean), "RadiusDecoder")
def m_D_isErasedTooMuch : xMt := (⟨"RadiusDecoder", "isErasedTooMuch", "()Z"⟩, prog_1_method_27_code, 1, (some .boolean), "RadiusDecoder")
def m_D_half : xMt := (⟨"RadiusDecoder", "half", "()I"⟩, prog_1_method_28_code, 1, (some .int), "RadiusDecoder")
def m_D_boundFor : xMt := (⟨"RadiusDecoder", "boundFor", "(I)I"⟩, prog_1_method_29_code, 5, (some .int), "RadiusDecoder")
def m_D_radiusFor : xMt := (⟨"RadiusDecoder", "radiusFor", "(I)I"⟩, prog_1_method_30_code, 2, (some .int), "RadiusDecoder")
def m_D_locateWrongPlaces : xMt := (⟨"RadiusDecoder", "locateWrongPlaces", "()V"⟩, prog_1_method_31_code, 3, none, "RadiusDecoder")
def m_M_init : xMt := (⟨"RadiusDecoderModel", "<init>", "()V"⟩, prog_9_method_1_code, 1, none, "RadiusDecoderModel")
def m_M_rest : xMt := (⟨"RadiusDecoderModel", "rest", "(IIII)I"⟩, prog_9_method_2_code, 6, (some .int), "RadiusDecoderModel")
def m_M_layField : xMt := (⟨"RadiusDecoderModel", "layField", "(II)V"⟩, prog_9_method_3_code, 5, none, "RadiusDecoderModel")
def m_M_isPrimitive : xMt := (⟨"RadiusDecoderModel", "isPrimitive", "(II)Z"⟩, prog_9_method_4_code, 4, (some .boolean), "RadiusDecoderModel")
def m_M_isElement : xMt := (⟨"RadiusDecoderModel", "isElement", "(I)Z"⟩, prog_9_method_5_code, 2, (some .boolean), "RadiusDecoderModel")
def m_M_field : xMt := (⟨"RadiusDecoderModel", "field", "(I)I"⟩, prog_9_method_6_code, 3, (some .int), "RadiusDecoderModel")
def m_M_times : xMt := (⟨"RadiusDecoderModel", "times", "(II)I"⟩, prog_9_method_7_code, 3, (some .int), "RadiusDecoderModel")
def m_M_quotient : xMt := (⟨"RadiusDecoderModel", "quotient", "(II)I"⟩, prog_9_method_8_code, 4, (some .int), "RadiusDecoderModel")
def m_M_over : xMt := (⟨"RadiusDecoderModel", "over", "(II)I"⟩, prog_9_method_9_code, 3, (some .int), "RadiusDecoderModel")
def m_M_log : xMt := (⟨"RadiusDecoderModel", "log", "(I)I"⟩, prog_9_method_10_code, 3, (some .int), "RadiusDecoderModel")
def m_M_power : xMt := (⟨"RadiusDecoderModel", "power", "(II)I"⟩, prog_9_method_11_code, 5, (some .int), "RadiusDecoderModel")
def m_M_layCode : xMt := (⟨"RadiusDecoderModel", "layCode", "(III)V"⟩, prog_9_method_12_code, 6, none, "RadiusDecoderModel")
def m_M_code : xMt := (⟨"RadiusDecoderModel", "code", "(III)Z"⟩, prog_9_method_13_code, 5, (some .boolean), "RadiusDecoderModel")
def m_M_tell : xMt := (⟨"RadiusDecoderModel", "tell", "(II)Z"⟩, prog_9_method_14_code, 3, (some .boolean), "RadiusDecoderModel")
def m_M_told : xMt := (⟨"RadiusDecoderModel", "told", "(II)I"⟩, prog_9_method_15_code, 3, (some .int), "RadiusDecoderModel")
def m_M_messages : xMt := (⟨"RadiusDecoderModel", "messages", "()I"⟩, prog_9_method_16_code, 1, (some .int), "RadiusDecoderModel")
def m_M_element : xMt := (⟨"RadiusDecoderModel", "element", "(II)I"⟩, prog_9_method_17_code, 5, (some .int), "RadiusDecoderModel")
def m_M_makeRow : xMt := (⟨"RadiusDecoderModel", "makeRow", "(I)V"⟩, prog_9_method_18_code, 3, none, "RadiusDecoderModel")
def m_M_chosen : xMt := (⟨"RadiusDecoderModel", "chosen", "(Z)I"⟩, prog_9_method_19_code, 6, (some .int), "RadiusDecoderModel")
def m_M_encode : xMt := (⟨"RadiusDecoderModel", "encode", "(Z)I"⟩, prog_9_method_20_code, 4, (some .int), "RadiusDecoderModel")
def m_M_isPlace : xMt := (⟨"RadiusDecoderModel", "isPlace", "(I)Z"⟩, prog_9_method_21_code, 2, (some .boolean), "RadiusDecoderModel")
def m_M_receive : xMt := (⟨"RadiusDecoderModel", "receive", "(II)Z"⟩, prog_9_method_22_code, 3, (some .boolean), "RadiusDecoderModel")
def m_M_erase : xMt := (⟨"RadiusDecoderModel", "erase", "(I)Z"⟩, prog_9_method_23_code, 2, (some .boolean), "RadiusDecoderModel")
def m_M_word : xMt := (⟨"RadiusDecoderModel", "word", "(I)I"⟩, prog_9_method_24_code, 2, (some .int), "RadiusDecoderModel")
def m_M_apart : xMt := (⟨"RadiusDecoderModel", "apart", "(I)I"⟩, prog_9_method_25_code, 4, (some .int), "RadiusDecoderModel")
def m_M_syndrome : xMt := (⟨"RadiusDecoderModel", "syndrome", "(I)I"⟩, prog_9_method_26_code, 6, (some .int), "RadiusDecoderModel")
def m_M_kept : xMt := (⟨"RadiusDecoderModel", "kept", "()I"⟩, prog_9_method_27_code, 3, (some .int), "RadiusDecoderModel")
def m_M_distanceOf : xMt := (⟨"RadiusDecoderModel", "distanceOf", "(II)I"⟩, prog_9_method_28_code, 5, (some .int), "RadiusDecoderModel")
def m_M_decode : xMt := (⟨"RadiusDecoderModel", "decode", "(Z)I"⟩, prog_9_method_29_code, 6, (some .int), "RadiusDecoderModel")
def m_M_decoded : xMt := (⟨"RadiusDecoderModel", "decoded", "(I)I"⟩, prog_9_method_30_code, 2, (some .int), "RadiusDecoderModel")
def m_M_sent : xMt := (⟨"RadiusDecoderModel", "sent", "(I)I"⟩, prog_9_method_31_code, 2, (some .int), "RadiusDecoderModel")
def m_M_locator : xMt := (⟨"RadiusDecoderModel", "locator", "(I)I"⟩, prog_9_method_32_code, 4, (some .int), "RadiusDecoderModel")
def m_M_pairs : xMt := (⟨"RadiusDecoderModel", "pairs", "(I)I"⟩, prog_9_method_33_code, 2, (some .int), "RadiusDecoderModel")
def m_M_boundFor : xMt := (⟨"RadiusDecoderModel", "boundFor", "(II)I"⟩, prog_9_method_34_code, 5, (some .int), "RadiusDecoderModel")
def m_M_radiusFor : xMt := (⟨"RadiusDecoderModel", "radiusFor", "(II)I"⟩, prog_9_method_35_code, 5, (some .int), "RadiusDecoderModel")
def m_M_isBefore : xMt := (⟨"RadiusDecoderModel", "isBefore", "(II)Z"⟩, prog_9_method_36_code, 4, (some .boolean), "RadiusDecoderModel")
def m_M_list : xMt := (⟨"RadiusDecoderModel", "list", "(I)I"⟩, prog_9_method_37_code, 7, (some .int), "RadiusDecoderModel")
def m_M_listed : xMt := (⟨"RadiusDecoderModel", "listed", "(II)I"⟩, prog_9_method_38_code, 3, (some .int), "RadiusDecoderModel")
def m_M_distance : xMt := (⟨"RadiusDecoderModel", "distance", "(I)I"⟩, prog_9_method_39_code, 2, (some .int), "RadiusDecoderModel")
def m_M_radius : xMt := (⟨"RadiusDecoderModel", "radius", "(I)I"⟩, prog_9_method_40_code, 3, (some .int), "RadiusDecoderModel")
def m_M_condition : xMt := (⟨"RadiusDecoderModel", "condition", "(IIIII)I"⟩, prog_9_method_41_code, 9, (some .int), "RadiusDecoderModel")
def m_M_layTerm : xMt := (⟨"RadiusDecoderModel", "layTerm", "(III)I"⟩, prog_9_method_42_code, 9, (some .int), "RadiusDecoderModel")
def m_M_isNew : xMt := (⟨"RadiusDecoderModel", "isNew", "(II)Z"⟩, prog_9_method_43_code, 6, (some .boolean), "RadiusDecoderModel")
def m_M_weight : xMt := (⟨"RadiusDecoderModel", "weight", "(I)I"⟩, prog_9_method_44_code, 6, (some .int), "RadiusDecoderModel")
def m_C_init : xMt := (⟨"RadiusDecoder$Code", "<init>", "(LRadiusDecoder$Field;)V"⟩, prog_2_method_1_code, 2, none, "RadiusDecoder$Code")
def m_C_begin : xMt := (⟨"RadiusDecoder$Code", "begin", "(III)V"⟩, prog_2_method_2_code, 5, none, "RadiusDecoder$Code")
def m_C_fillFactors : xMt := (⟨"RadiusDecoder$Code", "fillFactors", "(I)V"⟩, prog_2_method_3_code, 4, none, "RadiusDecoder$Code")
def m_C_fillGenerator : xMt := (⟨"RadiusDecoder$Code", "fillGenerator", "()V"⟩, prog_2_method_4_code, 3, none, "RadiusDecoder$Code")
def m_C_fillPlainRow : xMt := (⟨"RadiusDecoder$Code", "fillPlainRow", "(I)V"⟩, prog_2_method_5_code, 3, none, "RadiusDecoder$Code")
def m_C_fillUnitRows : xMt := (⟨"RadiusDecoder$Code", "fillUnitRows", "([[II)V"⟩, prog_2_method_6_code, 7, none, "RadiusDecoder$Code")
def m_C_mixed : xMt := (⟨"RadiusDecoder$Code", "mixed", "([[I[II)I"⟩, prog_2_method_7_code, 6, (some .int), "RadiusDecoder$Code")
def m_C_toldBy : xMt := (⟨"RadiusDecoder$Code", "toldBy", "([II)I"⟩, prog_2_method_8_code, 3, (some .int), "RadiusDecoder$Code")
def m_F_init : xMt := (⟨"RadiusDecoder$Field", "<init>", "()V"⟩, prog_3_method_1_code, 1, none, "RadiusDecoder$Field")
def m_F_degreeOf : xMt := (⟨"RadiusDecoder$Field", "degreeOf", "(I)I"⟩, prog_3_method_2_code, 1, (some .int), "RadiusDecoder$Field")
def m_F_timesX : xMt := (⟨"RadiusDecoder$Field", "timesX", "(II)I"⟩, prog_3_method_3_code, 3, (some .int), "RadiusDecoder$Field")
def m_F_isPrimitive : xMt := (⟨"RadiusDecoder$Field", "isPrimitive", "(I)Z"⟩, prog_3_method_4_code, 4, (some .boolean), "RadiusDecoder$Field")
def m_F_begin : xMt := (⟨"RadiusDecoder$Field", "begin", "(I)V"⟩, prog_3_method_5_code, 6, none, "RadiusDecoder$Field")
def m_F_has : xMt := (⟨"RadiusDecoder$Field", "has", "(I)Z"⟩, prog_3_method_6_code, 2, (some .boolean), "RadiusDecoder$Field")
def m_F_product : xMt := (⟨"RadiusDecoder$Field", "product", "(II)I"⟩, prog_3_method_7_code, 3, (some .int), "RadiusDecoder$Field")
def m_F_quotient : xMt := (⟨"RadiusDecoder$Field", "quotient", "(II)I"⟩, prog_3_method_8_code, 4, (some .int), "RadiusDecoder$Field")
def m_F_addMultiple : xMt := (⟨"RadiusDecoder$Field", "addMultiple", "([II[III)V"⟩, prog_3_method_9_code, 8, none, "RadiusDecoder$Field")
def m_F_power : xMt := (⟨"RadiusDecoder$Field", "power", "(II)I"⟩, prog_3_method_10_code, 5, (some .int), "RadiusDecoder$Field")
def m_N_init : xMt := (⟨"RadiusDecoder$Finds", "<init>", "(LRadiusDecoder$Code;I)V"⟩, prog_4_method_1_code, 3, none, "RadiusDecoder$Finds")
def m_N_has : xMt := (⟨"RadiusDecoder$Finds", "has", "(I)Z"⟩, prog_4_method_2_code, 2, (some .boolean), "RadiusDecoder$Finds")
def m_N_add : xMt := (⟨"RadiusDecoder$Finds", "add", "([II)V"⟩, prog_4_method_3_code, 4, none, "RadiusDecoder$Finds")
def m_P_init : xMt := (⟨"RadiusDecoder$Passing", "<init>", "(LRadiusDecoder$Field;LRadiusDecoder$Code;LRadiusDecoder$Word;)V"⟩, prog_5_method_1_code, 4, none, "RadiusDecoder$Passing")
def m_P_leastWeight : xMt := (⟨"RadiusDecoder$Passing", "leastWeight", "(II)I"⟩, prog_5_method_2_code, 5, (some .int), "RadiusDecoder$Passing")
def m_P_setPlaces : xMt := (⟨"RadiusDecoder$Passing", "setPlaces", "()V"⟩, prog_5_method_3_code, 2, none, "RadiusDecoder$Passing")
def m_P_setValues : xMt := (⟨"RadiusDecoder$Passing", "setValues", "(III)V"⟩, prog_5_method_4_code, 8, none, "RadiusDecoder$Passing")
def m_P_meet : xMt := (⟨"RadiusDecoder$Passing", "meet", "(II)V"⟩, prog_5_method_5_code, 7, none, "RadiusDecoder$Passing")
def m_P_failingLeast : xMt := (⟨"RadiusDecoder$Passing", "failingLeast", "(I)I"⟩, prog_5_method_6_code, 4, (some .int), "RadiusDecoder$Passing")
def m_P_timesLinear : xMt := (⟨"RadiusDecoder$Passing", "timesLinear", "([II)V"⟩, prog_5_method_7_code, 7, none, "RadiusDecoder$Passing")
def m_S_init : xMt := (⟨"RadiusDecoder$Search", "<init>", "(LRadiusDecoder$Field;LRadiusDecoder$Code;LRadiusDecoder$Word;)V"⟩, prog_6_method_1_code, 4, none, "RadiusDecoder$Search")
def m_S_find : xMt := (⟨"RadiusDecoder$Search", "find", "(ILRadiusDecoder$Finds;)V"⟩, prog_6_method_2_code, 8, none, "RadiusDecoder$Search")
def m_S_setStart : xMt := (⟨"RadiusDecoder$Search", "setStart", "(II)V"⟩, prog_6_method_3_code, 5, none, "RadiusDecoder$Search")
def m_S_countVotes : xMt := (⟨"RadiusDecoder$Search", "countVotes", "(I)V"⟩, prog_6_method_4_code, 5, none, "RadiusDecoder$Search")
def m_W_init : xMt := (⟨"RadiusDecoder$Word", "<init>", "()V"⟩, prog_7_method_1_code, 1, none, "RadiusDecoder$Word")
def m_W_begin : xMt := (⟨"RadiusDecoder$Word", "begin", "(I)V"⟩, prog_7_method_2_code, 3, none, "RadiusDecoder$Word")
def m_W_put : xMt := (⟨"RadiusDecoder$Word", "put", "(II)V"⟩, prog_7_method_3_code, 3, none, "RadiusDecoder$Word")
def m_W_strike : xMt := (⟨"RadiusDecoder$Word", "strike", "(I)V"⟩, prog_7_method_4_code, 2, none, "RadiusDecoder$Word")
def m_L_law : xMt := (x, code, 4, some .boolean, "RadiusDecoderLaw")
end
section
theorem w_0 : (Cond.selects "RadiusDecoder" ⟨"RadiusDecoder", "beginField", "(I)V"⟩ ⟨"RadiusDecoder", "beginField", "(I)V"⟩) ∈ WS := List.mem_filter.mpr ⟨List.mem_of_getElem? (i := 0) (by decide +kernel), by decide +kernel⟩
theorem w_1 : (Cond.selects "RadiusDecoder" ⟨"RadiusDecoder", "beginCode", "(III)V"⟩ ⟨"RadiusDecoder", "beginCode", "(III)V"⟩) ∈ WS := List.mem_filter.mpr ⟨List.mem_of_getElem? (i := 1) (by decide +kernel), by decide +kernel⟩
theorem w_2 : (Cond.selects "RadiusDecoder$Code" ⟨"RadiusDecoder$Code", "fillFactors", "(I)V"⟩ ⟨"RadiusDecoder$Code", "fillFactors", "(I)V"⟩) ∈ WS := List.mem_filter.mpr ⟨List.mem_of_getElem? (i := 2) (by decide +kernel), by decide +kernel⟩
theorem w_3 : (Cond.selects "RadiusDecoder$Code" ⟨"RadiusDecoder$Code", "fillGenerator", "()V"⟩ ⟨"RadiusDecoder$Code", "fillGenerator", "()V"⟩) ∈ WS := List.mem_filter.mpr ⟨List.mem_of_getElem? (i := 3) (by decide +kernel), by decide +kernel⟩
theorem w_4 : (Cond.selects "RadiusDecoder$Code" ⟨"RadiusDecoder$Code", "fillPlainRow", "(I)V"⟩ ⟨"RadiusDecoder$Code", "fillPlainRow", "(I)V"⟩) ∈ WS := List.mem_filter.mpr ⟨List.mem_of_getElem? (i := 4) (by decide +kernel), by decide +kernel⟩
theorem w_5 : (Cond.selects "RadiusDecoder$Code" ⟨"RadiusDecoder$Code", "fillUnitRows", "([[II)V"⟩ ⟨"RadiusDecoder$Code", "fillUnitRows", "([[II)V"⟩) ∈ WS := List.mem_filter.mpr ⟨List.mem_of_getElem? (i := 5) (by decide +kernel), by decide +kernel⟩
theorem w_6 : (Cond.selects "RadiusDecoder" ⟨"RadiusDecoder", "isInMessage", "(I)Z"⟩ ⟨"RadiusDecoder", "isInMessage", "(I)Z"⟩) ∈ WS := List.mem_filter.mpr ⟨List.mem_of_getElem? (i := 6) (by decide +kernel), by decide +kernel⟩
theorem w_7 : (Cond.selects "RadiusDecoder" ⟨"RadiusDecoder", "isPlace", "(I)Z"⟩ ⟨"RadiusDecoder", "isPlace", "(I)Z"⟩) ∈ WS := List.mem_filter.mpr ⟨List.mem_of_getElem? (i := 7) (by decide +kernel), by decide +kernel⟩
theorem w_8 : (Cond.selects "RadiusDecoder" ⟨"RadiusDecoder", "isErasedTooMuch", "()Z"⟩ ⟨"RadiusDecoder", "isErasedTooMuch", "()Z"⟩) ∈ WS := List.mem_filter.mpr ⟨List.mem_of_getElem? (i := 8) (by decide +kernel), by decide +kernel⟩
theorem w_9 : (Cond.selects "RadiusDecoder" ⟨"RadiusDecoder", "half", "()I"⟩ ⟨"RadiusDecoder", "half", "()I"⟩) ∈ WS := List.mem_filter.mpr ⟨List.mem_of_getElem? (i := 9) (by decide +kernel), by decide +kernel⟩
theorem w_10 : (Cond.selects "RadiusDecoder$Search" ⟨"RadiusDecoder$Search", "setStart", "(II)V"⟩ ⟨"RadiusDecoder$Search", "setStart", "(II)V"⟩) ∈ WS := List.mem_filter.mpr ⟨List.mem_of_getElem? (i := 10) (by decide +kernel), by decide +kernel⟩
theorem w_11 : (Cond.selects "RadiusDecoder$Search" ⟨"RadiusDecoder$Search", "countVotes", "(I)V"⟩ ⟨"RadiusDecoder$Search", "countVotes", "(I)V"⟩) ∈ WS := List.mem_filter.mpr ⟨List.mem_of_getElem? (i := 11) (by decide +kernel), by decide +kernel⟩
theorem w_12 : (Cond.selects "RadiusDecoder" ⟨"RadiusDecoder", "locateWrongPlaces", "()V"⟩ ⟨"RadiusDecoder", "locateWrongPlaces", "()V"⟩) ∈ WS := List.mem_filter.mpr ⟨List.mem_of_getElem? (i := 12) (by decide +kernel), by decide +kernel⟩
theorem w_13 : (Cond.selects "RadiusDecoder" ⟨"RadiusDecoder", "radiusFor", "(I)I"⟩ ⟨"RadiusDecoder", "radiusFor", "(I)I"⟩) ∈ WS := List.mem_filter.mpr ⟨List.mem_of_getElem? (i := 13) (by decide +kernel), by decide +kernel⟩
theorem w_14 : (Cond.selects "RadiusDecoder" ⟨"RadiusDecoder", "boundFor", "(I)I"⟩ ⟨"RadiusDecoder", "boundFor", "(I)I"⟩) ∈ WS := List.mem_filter.mpr ⟨List.mem_of_getElem? (i := 14) (by decide +kernel), by decide +kernel⟩
theorem w_15 : (Cond.selects "RadiusDecoder$Passing" ⟨"RadiusDecoder$Passing", "setPlaces", "()V"⟩ ⟨"RadiusDecoder$Passing", "setPlaces", "()V"⟩) ∈ WS := List.mem_filter.mpr ⟨List.mem_of_getElem? (i := 15) (by decide +kernel), by decide +kernel⟩
theorem w_16 : (Cond.selects "RadiusDecoder$Passing" ⟨"RadiusDecoder$Passing", "setValues", "(III)V"⟩ ⟨"RadiusDecoder$Passing", "setValues", "(III)V"⟩) ∈ WS := List.mem_filter.mpr ⟨List.mem_of_getElem? (i := 16) (by decide +kernel), by decide +kernel⟩
theorem w_17 : (Cond.selects "RadiusDecoder$Passing" ⟨"RadiusDecoder$Passing", "meet", "(II)V"⟩ ⟨"RadiusDecoder$Passing", "meet", "(II)V"⟩) ∈ WS := List.mem_filter.mpr ⟨List.mem_of_getElem? (i := 17) (by decide +kernel), by decide +kernel⟩
theorem w_18 : (Cond.selects "RadiusDecoder$Passing" ⟨"RadiusDecoder$Passing", "failingLeast", "(I)I"⟩ ⟨"RadiusDecoder$Passing", "failingLeast", "(I)I"⟩) ∈ WS := List.mem_filter.mpr ⟨List.mem_of_getElem? (i := 18) (by decide +kernel), by decide +kernel⟩
theorem w_19 : (Cond.selects "RadiusDecoder$Passing" ⟨"RadiusDecoder$Passing", "timesLinear", "([II)V"⟩ ⟨"RadiusDecoder$Passing", "timesLinear", "([II)V"⟩) ∈ WS := List.mem_filter.mpr ⟨List.mem_of_getElem? (i := 19) (by decide +kernel), by decide +kernel⟩
theorem w_20 : (Cond.selects "RadiusDecoderModel" ⟨"RadiusDecoderModel", "layField", "(II)V"⟩ ⟨"RadiusDecoderModel", "layField", "(II)V"⟩) ∈ WS := List.mem_filter.mpr ⟨List.mem_of_getElem? (i := 20) (by decide +kernel), by decide +kernel⟩
theorem w_21 : (Cond.selects "RadiusDecoderModel" ⟨"RadiusDecoderModel", "layCode", "(III)V"⟩ ⟨"RadiusDecoderModel", "layCode", "(III)V"⟩) ∈ WS := List.mem_filter.mpr ⟨List.mem_of_getElem? (i := 21) (by decide +kernel), by decide +kernel⟩
theorem w_22 : (Cond.selects "RadiusDecoderModel" ⟨"RadiusDecoderModel", "isElement", "(I)Z"⟩ ⟨"RadiusDecoderModel", "isElement", "(I)Z"⟩) ∈ WS := List.mem_filter.mpr ⟨List.mem_of_getElem? (i := 22) (by decide +kernel), by decide +kernel⟩
theorem w_23 : (Cond.selects "RadiusDecoderModel" ⟨"RadiusDecoderModel", "quotient", "(II)I"⟩ ⟨"RadiusDecoderModel", "quotient", "(II)I"⟩) ∈ WS := List.mem_filter.mpr ⟨List.mem_of_getElem? (i := 23) (by decide +kernel), by decide +kernel⟩
theorem w_24 : (Cond.selects "RadiusDecoderModel" ⟨"RadiusDecoderModel", "chosen", "(Z)I"⟩ ⟨"RadiusDecoderModel", "chosen", "(Z)I"⟩) ∈ WS := List.mem_filter.mpr ⟨List.mem_of_getElem? (i := 24) (by decide +kernel), by decide +kernel⟩
theorem w_25 : (Cond.selects "RadiusDecoderModel" ⟨"RadiusDecoderModel", "messages", "()I"⟩ ⟨"RadiusDecoderModel", "messages", "()I"⟩) ∈ WS := List.mem_filter.mpr ⟨List.mem_of_getElem? (i := 25) (by decide +kernel), by decide +kernel⟩
theorem w_26 : (Cond.selects "RadiusDecoderModel" ⟨"RadiusDecoderModel", "element", "(II)I"⟩ ⟨"RadiusDecoderModel", "element", "(II)I"⟩) ∈ WS := List.mem_filter.mpr ⟨List.mem_of_getElem? (i := 26) (by decide +kernel), by decide +kernel⟩
theorem w_27 : (Cond.selects "RadiusDecoderModel" ⟨"RadiusDecoderModel", "told", "(II)I"⟩ ⟨"RadiusDecoderModel", "told", "(II)I"⟩) ∈ WS := List.mem_filter.mpr ⟨List.mem_of_getElem? (i := 27) (by decide +kernel), by decide +kernel⟩
theorem w_28 : (Cond.selects "RadiusDecoderModel" ⟨"RadiusDecoderModel", "makeRow", "(I)V"⟩ ⟨"RadiusDecoderModel", "makeRow", "(I)V"⟩) ∈ WS := List.mem_filter.mpr ⟨List.mem_of_getElem? (i := 28) (by decide +kernel), by decide +kernel⟩
theorem w_29 : (Cond.selects "RadiusDecoderModel" ⟨"RadiusDecoderModel", "isPlace", "(I)Z"⟩ ⟨"RadiusDecoderModel", "isPlace", "(I)Z"⟩) ∈ WS := List.mem_filter.mpr ⟨List.mem_of_getElem? (i := 29) (by decide +kernel), by decide +kernel⟩
theorem w_30 : (Cond.selects "RadiusDecoderModel" ⟨"RadiusDecoderModel", "apart", "(I)I"⟩ ⟨"RadiusDecoderModel", "apart", "(I)I"⟩) ∈ WS := List.mem_filter.mpr ⟨List.mem_of_getElem? (i := 30) (by decide +kernel), by decide +kernel⟩
theorem w_31 : (Cond.selects "RadiusDecoderModel" ⟨"RadiusDecoderModel", "power", "(II)I"⟩ ⟨"RadiusDecoderModel", "power", "(II)I"⟩) ∈ WS := List.mem_filter.mpr ⟨List.mem_of_getElem? (i := 31) (by decide +kernel), by decide +kernel⟩
theorem w_32 : (Cond.selects "RadiusDecoderModel" ⟨"RadiusDecoderModel", "kept", "()I"⟩ ⟨"RadiusDecoderModel", "kept", "()I"⟩) ∈ WS := List.mem_filter.mpr ⟨List.mem_of_getElem? (i := 32) (by decide +kernel), by decide +kernel⟩
theorem w_33 : (Cond.selects "RadiusDecoderModel" ⟨"RadiusDecoderModel", "distanceOf", "(II)I"⟩ ⟨"RadiusDecoderModel", "distanceOf", "(II)I"⟩) ∈ WS := List.mem_filter.mpr ⟨List.mem_of_getElem? (i := 33) (by decide +kernel), by decide +kernel⟩
theorem w_34 : (Cond.selects "RadiusDecoderModel" ⟨"RadiusDecoderModel", "radiusFor", "(II)I"⟩ ⟨"RadiusDecoderModel", "radiusFor", "(II)I"⟩) ∈ WS := List.mem_filter.mpr ⟨List.mem_of_getElem? (i := 34) (by decide +kernel), by decide +kernel⟩
theorem w_35 : (Cond.selects "RadiusDecoderModel" ⟨"RadiusDecoderModel", "boundFor", "(II)I"⟩ ⟨"RadiusDecoderModel", "boundFor", "(II)I"⟩) ∈ WS := List.mem_filter.mpr ⟨List.mem_of_getElem? (i := 35) (by decide +kernel), by decide +kernel⟩
theorem w_36 : (Cond.selects "RadiusDecoderModel" ⟨"RadiusDecoderModel", "pairs", "(I)I"⟩ ⟨"RadiusDecoderModel", "pairs", "(I)I"⟩) ∈ WS := List.mem_filter.mpr ⟨List.mem_of_getElem? (i := 36) (by decide +kernel), by decide +kernel⟩
theorem w_37 : (Cond.selects "RadiusDecoderModel" ⟨"RadiusDecoderModel", "isBefore", "(II)Z"⟩ ⟨"RadiusDecoderModel", "isBefore", "(II)Z"⟩) ∈ WS := List.mem_filter.mpr ⟨List.mem_of_getElem? (i := 37) (by decide +kernel), by decide +kernel⟩
theorem w_38 : (Cond.selects "RadiusDecoderModel" ⟨"RadiusDecoderModel", "layTerm", "(III)I"⟩ ⟨"RadiusDecoderModel", "layTerm", "(III)I"⟩) ∈ WS := List.mem_filter.mpr ⟨List.mem_of_getElem? (i := 38) (by decide +kernel), by decide +kernel⟩
theorem w_39 : (Cond.selects "RadiusDecoderModel" ⟨"RadiusDecoderModel", "condition", "(IIIII)I"⟩ ⟨"RadiusDecoderModel", "condition", "(IIIII)I"⟩) ∈ WS := List.mem_filter.mpr ⟨List.mem_of_getElem? (i := 39) (by decide +kernel), by decide +kernel⟩
theorem w_40 : (Cond.selects "RadiusDecoderModel" ⟨"RadiusDecoderModel", "isNew", "(II)Z"⟩ ⟨"RadiusDecoderModel", "isNew", "(II)Z"⟩) ∈ WS := List.mem_filter.mpr ⟨List.mem_of_getElem? (i := 40) (by decide +kernel), by decide +kernel⟩
theorem w_42 : ((Jvm.Cond.initialized "RadiusDecoder")) ∈ WS := List.mem_filter.mpr ⟨List.mem_of_getElem? (i := 42) (by decide +kernel), by decide +kernel⟩
theorem w_43 : ((Jvm.Cond.initialized "RadiusDecoder$Field")) ∈ WS := List.mem_filter.mpr ⟨List.mem_of_getElem? (i := 43) (by decide +kernel), by decide +kernel⟩
theorem w_44 : ((Jvm.Cond.initialized "RadiusDecoder$Code")) ∈ WS := List.mem_filter.mpr ⟨List.mem_of_getElem? (i := 44) (by decide +kernel), by decide +kernel⟩
theorem w_45 : ((Jvm.Cond.initialized "RadiusDecoder$Word")) ∈ WS := List.mem_filter.mpr ⟨List.mem_of_getElem? (i := 45) (by decide +kernel), by decide +kernel⟩
theorem w_46 : ((Jvm.Cond.initialized "RadiusDecoder$Search")) ∈ WS := List.mem_filter.mpr ⟨List.mem_of_getElem? (i := 46) (by decide +kernel), by decide +kernel⟩
theorem w_47 : ((Jvm.Cond.initialized "RadiusDecoder$Finds")) ∈ WS := List.mem_filter.mpr ⟨List.mem_of_getElem? (i := 47) (by decide +kernel), by decide +kernel⟩
theorem w_48 : ((Jvm.Cond.initialized "RadiusDecoder$Passing")) ∈ WS := List.mem_filter.mpr ⟨List.mem_of_getElem? (i := 48) (by decide +kernel), by decide +kernel⟩
theorem w_49 : ((Jvm.Cond.initialized "java/lang/Math")) ∈ WS := List.mem_filter.mpr ⟨List.mem_of_getElem? (i := 49) (by decide +kernel), by decide +kernel⟩
theorem w_50 : ((Jvm.Cond.initialized "java/lang/System")) ∈ WS := List.mem_filter.mpr ⟨List.mem_of_getElem? (i := 50) (by decide +kernel), by decide +kernel⟩
theorem w_51 : ((Jvm.Cond.initialized "RadiusDecoderModel")) ∈ WS := List.mem_filter.mpr ⟨List.mem_of_getElem? (i := 51) (by decide +kernel), by decide +kernel⟩
theorem w_52 : ((Jvm.Cond.classLink "RadiusDecoderLaw" (7 : Nat) "RadiusDecoder")) ∈ WS := List.mem_filter.mpr ⟨List.mem_of_getElem? (i := 52) (by decide +kernel), by decide +kernel⟩
theorem w_53 : ((Jvm.Cond.instantiable "RadiusDecoder" (9 : Nat))) ∈ WS := List.mem_filter.mpr ⟨List.mem_of_getElem? (i := 53) (by decide +kernel), by decide +kernel⟩
theorem w_54 : ((Jvm.Cond.methodLink "RadiusDecoderLaw" (9 : Nat) ({ cls := "RadiusDecoder", name := "<init>", desc := "()V" } : Jvm.MethodName))) ∈ WS := List.mem_filter.mpr ⟨List.mem_of_getElem? (i := 54) (by decide +kernel), by decide +kernel⟩
theorem w_55 : ((Jvm.Cond.instanceMethod ({ cls := "RadiusDecoder", name := "<init>", desc := "()V" } : Jvm.MethodName))) ∈ WS := List.mem_filter.mpr ⟨List.mem_of_getElem? (i := 55) (by decide +kernel), by decide +kernel⟩
theorem w_56 : ((Jvm.Cond.code ({ cls := "RadiusDecoder", name := "<init>", desc := "()V" } : Jvm.MethodName) prog_1_method_1_code (1 : Nat) (Option.none : Option Jvm.ClassFile.FieldType))) ∈ WS := List.mem_filter.mpr ⟨List.mem_of_getElem? (i := 56) (by decide +kernel), by decide +kernel⟩
theorem w_57 : ((Jvm.Cond.methodLink "RadiusDecoder" (3 : Nat) ({ cls := "java/lang/Object", name := "<init>", desc := "()V" } : Jvm.MethodName))) ∈ WS := List.mem_filter.mpr ⟨List.mem_of_getElem? (i := 57) (by decide +kernel), by decide +kernel⟩
theorem w_58 : ((Jvm.Cond.instanceMethod ({ cls := "java/lang/Object", name := "<init>", desc := "()V" } : Jvm.MethodName))) ∈ WS := List.mem_filter.mpr ⟨List.mem_of_getElem? (i := 58) (by decide +kernel), by decide +kernel⟩
theorem w_59 : ((Jvm.Cond.code ({ cls := "java/lang/Object", name := "<init>", desc := "()V" } : Jvm.MethodName) object_method_1_code (1 : Nat) (Option.none : Option Jvm.ClassFile.FieldType))) ∈ WS := List.mem_filter.mpr ⟨List.mem_of_getElem? (i := 59) (by decide +kernel), by decide +kernel⟩
theorem w_60 : ((Jvm.Cond.classLink "RadiusDecoder" (9 : Nat) "RadiusDecoder$Field")) ∈ WS := List.mem_filter.mpr ⟨List.mem_of_getElem? (i := 60) (by decide +kernel), by decide +kernel⟩
theorem w_61 : ((Jvm.Cond.instantiable "RadiusDecoder$Field" (5 : Nat))) ∈ WS := List.mem_filter.mpr ⟨List.mem_of_getElem? (i := 61) (by decide +kernel), by decide +kernel⟩
theorem w_62 : ((Jvm.Cond.methodLinkNest "RadiusDecoder" (11 : Nat) ({ cls := "RadiusDecoder$Field", name := "<init>", desc := "()V" } : Jvm.MethodName) "RadiusDecoder")) ∈ NW := List.mem_filter.mpr ⟨List.mem_of_getElem? (i := 62) (by decide +kernel), by decide +kernel⟩
theorem w_63 : ((Jvm.Cond.instanceMethod ({ cls := "RadiusDecoder$Field", name := "<init>", desc := "()V" } : Jvm.MethodName))) ∈ WS := List.mem_filter.mpr ⟨List.mem_of_getElem? (i := 63) (by decide +kernel), by decide +kernel⟩
theorem w_64 : ((Jvm.Cond.code ({ cls := "RadiusDecoder$Field", name := "<init>", desc := "()V" } : Jvm.MethodName) prog_3_method_1_code (1 : Nat) (Option.none : Option Jvm.ClassFile.FieldType))) ∈ WS := List.mem_filter.mpr ⟨List.mem_of_getElem? (i := 64) (by decide +kernel), by decide +kernel⟩
theorem w_65 : ((Jvm.Cond.methodLink "RadiusDecoder$Field" (3 : Nat) ({ cls := "java/lang/Object", name := "<init>", desc := "()V" } : Jvm.MethodName))) ∈ WS := List.mem_filter.mpr ⟨List.mem_of_getElem? (i := 65) (by decide +kernel), by decide +kernel⟩
theorem w_66 : ((Jvm.Cond.fieldLinkNest "RadiusDecoder$Search" (41 : Nat) "RadiusDecoder$Field" "degree" "I" "RadiusDecoder")) ∈ NW := List.mem_filter.mpr ⟨List.mem_of_getElem? (i := 66) (by decide +kernel), by decide +kernel⟩
theorem w_67 : ((Jvm.Cond.fieldLinkNest "RadiusDecoder" (75 : Nat) "RadiusDecoder$Field" "degree" "I" "RadiusDecoder")) ∈ NW := List.mem_filter.mpr ⟨List.mem_of_getElem? (i := 67) (by decide +kernel), by decide +kernel⟩
theorem w_68 : ((Jvm.Cond.fieldLink "RadiusDecoder$Field" (29 : Nat) "RadiusDecoder$Field" "degree" "I")) ∈ WS := List.mem_filter.mpr ⟨List.mem_of_getElem? (i := 68) (by decide +kernel), by decide +kernel⟩
theorem w_69 : ((Jvm.Cond.fieldLinkNest "RadiusDecoder$Search" (54 : Nat) "RadiusDecoder$Field" "size" "I" "RadiusDecoder")) ∈ NW := List.mem_filter.mpr ⟨List.mem_of_getElem? (i := 69) (by decide +kernel), by decide +kernel⟩
theorem w_70 : ((Jvm.Cond.fieldLink "RadiusDecoder$Field" (33 : Nat) "RadiusDecoder$Field" "size" "I")) ∈ WS := List.mem_filter.mpr ⟨List.mem_of_getElem? (i := 70) (by decide +kernel), by decide +kernel⟩
theorem w_71 : ((Jvm.Cond.fieldLinkNest "RadiusDecoder" (92 : Nat) "RadiusDecoder$Field" "size" "I" "RadiusDecoder")) ∈ NW := List.mem_filter.mpr ⟨List.mem_of_getElem? (i := 71) (by decide +kernel), by decide +kernel⟩
theorem w_72 : ((Jvm.Cond.fieldLink "RadiusDecoder$Field" (9 : Nat) "RadiusDecoder$Field" "powers" "[I")) ∈ WS := List.mem_filter.mpr ⟨List.mem_of_getElem? (i := 72) (by decide +kernel), by decide +kernel⟩
theorem w_73 : ((Jvm.Cond.fieldLinkNest "RadiusDecoder$Code" (49 : Nat) "RadiusDecoder$Field" "powers" "[I" "RadiusDecoder")) ∈ NW := List.mem_filter.mpr ⟨List.mem_of_getElem? (i := 73) (by decide +kernel), by decide +kernel⟩
theorem w_74 : ((Jvm.Cond.fieldLink "RadiusDecoder$Field" (15 : Nat) "RadiusDecoder$Field" "logs" "[I")) ∈ WS := List.mem_filter.mpr ⟨List.mem_of_getElem? (i := 74) (by decide +kernel), by decide +kernel⟩
theorem w_75 : ((Jvm.Cond.fieldLinkNest "RadiusDecoder" (89 : Nat) "RadiusDecoder$Field" "logs" "[I" "RadiusDecoder")) ∈ NW := List.mem_filter.mpr ⟨List.mem_of_getElem? (i := 75) (by decide +kernel), by decide +kernel⟩
theorem w_76 : ((Jvm.Cond.fieldLink "RadiusDecoder$Field" (18 : Nat) "RadiusDecoder$Field" "products" "[I")) ∈ WS := List.mem_filter.mpr ⟨List.mem_of_getElem? (i := 76) (by decide +kernel), by decide +kernel⟩
theorem w_88 : ((Jvm.Cond.arrayClass Jvm.ClassFile.FieldType.int)) ∈ WS := List.mem_filter.mpr ⟨List.mem_of_getElem? (i := 88) (by decide +kernel), by decide +kernel⟩
theorem w_89 : ((Jvm.Cond.classLink "RadiusDecoder" (16 : Nat) "RadiusDecoder$Code")) ∈ WS := List.mem_filter.mpr ⟨List.mem_of_getElem? (i := 89) (by decide +kernel), by decide +kernel⟩
theorem w_90 : ((Jvm.Cond.instantiable "RadiusDecoder$Code" (11 : Nat))) ∈ WS := List.mem_filter.mpr ⟨List.mem_of_getElem? (i := 90) (by decide +kernel), by decide +kernel⟩
theorem w_91 : ((Jvm.Cond.methodLink "RadiusDecoder" (18 : Nat) ({ cls := "RadiusDecoder$Code", name := "<init>", desc := "(LRadiusDecoder$Field;)V" } : Jvm.MethodName))) ∈ WS := List.mem_filter.mpr ⟨List.mem_of_getElem? (i := 91) (by decide +kernel), by decide +kernel⟩
theorem w_92 : ((Jvm.Cond.instanceMethod ({ cls := "RadiusDecoder$Code", name := "<init>", desc := "(LRadiusDecoder$Field;)V" } : Jvm.MethodName))) ∈ WS := List.mem_filter.mpr ⟨List.mem_of_getElem? (i := 92) (by decide +kernel), by decide +kernel⟩
theorem w_93 : ((Jvm.Cond.code ({ cls := "RadiusDecoder$Code", name := "<init>", desc := "(LRadiusDecoder$Field;)V" } : Jvm.MethodName) prog_2_method_1_code (2 : Nat) (Option.none : Option Jvm.ClassFile.FieldType))) ∈ WS := List.mem_filter.mpr ⟨List.mem_of_getElem? (i := 93) (by decide +kernel), by decide +kernel⟩
theorem w_94 : ((Jvm.Cond.methodLink "RadiusDecoder$Code" (3 : Nat) ({ cls := "java/lang/Object", name := "<init>", desc := "()V" } : Jvm.MethodName))) ∈ WS := List.mem_filter.mpr ⟨List.mem_of_getElem? (i := 94) (by decide +kernel), by decide +kernel⟩
theorem w_95 : ((Jvm.Cond.classLink "RadiusDecoder$Code" (24 : Nat) "[[I")) ∈ WS := List.mem_filter.mpr ⟨List.mem_of_getElem? (i := 95) (by decide +kernel), by decide +kernel⟩
theorem w_97 : ((Jvm.Cond.fieldLink "RadiusDecoder$Code" (35 : Nat) "RadiusDecoder$Code" "numbers" "LRadiusDecoder$Field;")) ∈ WS := List.mem_filter.mpr ⟨List.mem_of_getElem? (i := 97) (by decide +kernel), by decide +kernel⟩
theorem w_98 : ((Jvm.Cond.fieldLink "RadiusDecoder$Code" (39 : Nat) "RadiusDecoder$Code" "kind" "I")) ∈ WS := List.mem_filter.mpr ⟨List.mem_of_getElem? (i := 98) (by decide +kernel), by decide +kernel⟩
theorem w_99 : ((Jvm.Cond.fieldLink "RadiusDecoder$Code" (43 : Nat) "RadiusDecoder$Code" "length" "I")) ∈ WS := List.mem_filter.mpr ⟨List.mem_of_getElem? (i := 99) (by decide +kernel), by decide +kernel⟩
theorem w_100 : ((Jvm.Cond.fieldLinkNest "RadiusDecoder$Passing" (74 : Nat) "RadiusDecoder$Code" "length" "I" "RadiusDecoder")) ∈ NW := List.mem_filter.mpr ⟨List.mem_of_getElem? (i := 100) (by decide +kernel), by decide +kernel⟩
theorem w_101 : ((Jvm.Cond.fieldLinkNest "RadiusDecoder$Finds" (28 : Nat) "RadiusDecoder$Code" "length" "I" "RadiusDecoder")) ∈ NW := List.mem_filter.mpr ⟨List.mem_of_getElem? (i := 101) (by decide +kernel), by decide +kernel⟩
theorem w_102 : ((Jvm.Cond.fieldLinkNest "RadiusDecoder$Search" (69 : Nat) "RadiusDecoder$Code" "length" "I" "RadiusDecoder")) ∈ NW := List.mem_filter.mpr ⟨List.mem_of_getElem? (i := 102) (by decide +kernel), by decide +kernel⟩
theorem w_103 : ((Jvm.Cond.fieldLinkNest "RadiusDecoder" (109 : Nat) "RadiusDecoder$Code" "length" "I" "RadiusDecoder")) ∈ NW := List.mem_filter.mpr ⟨List.mem_of_getElem? (i := 103) (by decide +kernel), by decide +kernel⟩
theorem w_104 : ((Jvm.Cond.fieldLinkNest "RadiusDecoder$Search" (36 : Nat) "RadiusDecoder$Code" "dimension" "I" "RadiusDecoder")) ∈ NW := List.mem_filter.mpr ⟨List.mem_of_getElem? (i := 104) (by decide +kernel), by decide +kernel⟩
theorem w_105 : ((Jvm.Cond.fieldLink "RadiusDecoder$Code" (46 : Nat) "RadiusDecoder$Code" "dimension" "I")) ∈ WS := List.mem_filter.mpr ⟨List.mem_of_getElem? (i := 105) (by decide +kernel), by decide +kernel⟩
theorem w_106 : ((Jvm.Cond.fieldLinkNest "RadiusDecoder$Passing" (49 : Nat) "RadiusDecoder$Code" "dimension" "I" "RadiusDecoder")) ∈ NW := List.mem_filter.mpr ⟨List.mem_of_getElem? (i := 106) (by decide +kernel), by decide +kernel⟩
theorem w_107 : ((Jvm.Cond.fieldLinkNest "RadiusDecoder" (133 : Nat) "RadiusDecoder$Code" "dimension" "I" "RadiusDecoder")) ∈ NW := List.mem_filter.mpr ⟨List.mem_of_getElem? (i := 107) (by decide +kernel), by decide +kernel⟩
theorem w_108 : ((Jvm.Cond.fieldLink "RadiusDecoder$Code" (9 : Nat) "RadiusDecoder$Code" "points" "[I")) ∈ WS := List.mem_filter.mpr ⟨List.mem_of_getElem? (i := 108) (by decide +kernel), by decide +kernel⟩
theorem w_109 : ((Jvm.Cond.fieldLinkNest "RadiusDecoder$Passing" (82 : Nat) "RadiusDecoder$Code" "points" "[I" "RadiusDecoder")) ∈ NW := List.mem_filter.mpr ⟨List.mem_of_getElem? (i := 109) (by decide +kernel), by decide +kernel⟩
theorem w_110 : ((Jvm.Cond.fieldLinkNest "RadiusDecoder" (139 : Nat) "RadiusDecoder$Code" "points" "[I" "RadiusDecoder")) ∈ NW := List.mem_filter.mpr ⟨List.mem_of_getElem? (i := 110) (by decide +kernel), by decide +kernel⟩
theorem w_111 : ((Jvm.Cond.fieldLink "RadiusDecoder$Code" (15 : Nat) "RadiusDecoder$Code" "stretches" "[I")) ∈ WS := List.mem_filter.mpr ⟨List.mem_of_getElem? (i := 111) (by decide +kernel), by decide +kernel⟩
theorem w_112 : ((Jvm.Cond.fieldLinkNest "RadiusDecoder$Passing" (88 : Nat) "RadiusDecoder$Code" "stretches" "[I" "RadiusDecoder")) ∈ NW := List.mem_filter.mpr ⟨List.mem_of_getElem? (i := 112) (by decide +kernel), by decide +kernel⟩
theorem w_113 : ((Jvm.Cond.fieldLink "RadiusDecoder$Code" (18 : Nat) "RadiusDecoder$Code" "checks" "[I")) ∈ WS := List.mem_filter.mpr ⟨List.mem_of_getElem? (i := 113) (by decide +kernel), by decide +kernel⟩
theorem w_114 : ((Jvm.Cond.fieldLinkNest "RadiusDecoder" (136 : Nat) "RadiusDecoder$Code" "checks" "[I" "RadiusDecoder")) ∈ NW := List.mem_filter.mpr ⟨List.mem_of_getElem? (i := 114) (by decide +kernel), by decide +kernel⟩
theorem w_115 : ((Jvm.Cond.fieldLink "RadiusDecoder$Code" (21 : Nat) "RadiusDecoder$Code" "generator" "[I")) ∈ WS := List.mem_filter.mpr ⟨List.mem_of_getElem? (i := 115) (by decide +kernel), by decide +kernel⟩
theorem w_116 : ((Jvm.Cond.fieldLink "RadiusDecoder$Code" (26 : Nat) "RadiusDecoder$Code" "plain" "[[I")) ∈ WS := List.mem_filter.mpr ⟨List.mem_of_getElem? (i := 116) (by decide +kernel), by decide +kernel⟩
theorem w_117 : ((Jvm.Cond.fieldLinkNest "RadiusDecoder" (106 : Nat) "RadiusDecoder$Code" "plain" "[[I" "RadiusDecoder")) ∈ NW := List.mem_filter.mpr ⟨List.mem_of_getElem? (i := 117) (by decide +kernel), by decide +kernel⟩
theorem w_118 : ((Jvm.Cond.fieldLink "RadiusDecoder$Code" (29 : Nat) "RadiusDecoder$Code" "leading" "[[I")) ∈ WS := List.mem_filter.mpr ⟨List.mem_of_getElem? (i := 118) (by decide +kernel), by decide +kernel⟩
theorem w_119 : ((Jvm.Cond.fieldLinkNest "RadiusDecoder$Finds" (33 : Nat) "RadiusDecoder$Code" "leading" "[[I" "RadiusDecoder")) ∈ NW := List.mem_filter.mpr ⟨List.mem_of_getElem? (i := 119) (by decide +kernel), by decide +kernel⟩
theorem w_120 : ((Jvm.Cond.fieldLinkNest "RadiusDecoder$Search" (79 : Nat) "RadiusDecoder$Code" "leading" "[[I" "RadiusDecoder")) ∈ NW := List.mem_filter.mpr ⟨List.mem_of_getElem? (i := 120) (by decide +kernel), by decide +kernel⟩
theorem w_121 : ((Jvm.Cond.fieldLink "RadiusDecoder$Code" (32 : Nat) "RadiusDecoder$Code" "trailing" "[[I")) ∈ WS := List.mem_filter.mpr ⟨List.mem_of_getElem? (i := 121) (by decide +kernel), by decide +kernel⟩
theorem w_122 : ((Jvm.Cond.fieldLinkNest "RadiusDecoder" (102 : Nat) "RadiusDecoder$Code" "trailing" "[[I" "RadiusDecoder")) ∈ NW := List.mem_filter.mpr ⟨List.mem_of_getElem? (i := 122) (by decide +kernel), by decide +kernel⟩
theorem w_146 : ((Jvm.Cond.classLink "RadiusDecoder" (29 : Nat) "RadiusDecoder$Word")) ∈ WS := List.mem_filter.mpr ⟨List.mem_of_getElem? (i := 146) (by decide +kernel), by decide +kernel⟩
theorem w_147 : ((Jvm.Cond.instantiable "RadiusDecoder$Word" (3 : Nat))) ∈ WS := List.mem_filter.mpr ⟨List.mem_of_getElem? (i := 147) (by decide +kernel), by decide +kernel⟩
theorem w_148 : ((Jvm.Cond.methodLinkNest "RadiusDecoder" (31 : Nat) ({ cls := "RadiusDecoder$Word", name := "<init>", desc := "()V" } : Jvm.MethodName) "RadiusDecoder")) ∈ NW := List.mem_filter.mpr ⟨List.mem_of_getElem? (i := 148) (by decide +kernel), by decide +kernel⟩
theorem w_149 : ((Jvm.Cond.instanceMethod ({ cls := "RadiusDecoder$Word", name := "<init>", desc := "()V" } : Jvm.MethodName))) ∈ WS := List.mem_filter.mpr ⟨List.mem_of_getElem? (i := 149) (by decide +kernel), by decide +kernel⟩
theorem w_150 : ((Jvm.Cond.code ({ cls := "RadiusDecoder$Word", name := "<init>", desc := "()V" } : Jvm.MethodName) prog_7_method_1_code (1 : Nat) (Option.none : Option Jvm.ClassFile.FieldType))) ∈ WS := List.mem_filter.mpr ⟨List.mem_of_getElem? (i := 150) (by decide +kernel), by decide +kernel⟩
theorem w_151 : ((Jvm.Cond.methodLink "RadiusDecoder$Word" (3 : Nat) ({ cls := "java/lang/Object", name := "<init>", desc := "()V" } : Jvm.MethodName))) ∈ WS := List.mem_filter.mpr ⟨List.mem_of_getElem? (i := 151) (by decide +kernel), by decide +kernel⟩
theorem w_152 : ((Jvm.Cond.fieldLink "RadiusDecoder$Word" (19 : Nat) "RadiusDecoder$Word" "open" "I")) ∈ WS := List.mem_filter.mpr ⟨List.mem_of_getElem? (i := 152) (by decide +kernel), by decide +kernel⟩
theorem w_153 : ((Jvm.Cond.fieldLinkNest "RadiusDecoder$Search" (57 : Nat) "RadiusDecoder$Word" "open" "I" "RadiusDecoder")) ∈ NW := List.mem_filter.mpr ⟨List.mem_of_getElem? (i := 153) (by decide +kernel), by decide +kernel⟩
theorem w_154 : ((Jvm.Cond.fieldLinkNest "RadiusDecoder" (198 : Nat) "RadiusDecoder$Word" "open" "I" "RadiusDecoder")) ∈ NW := List.mem_filter.mpr ⟨List.mem_of_getElem? (i := 154) (by decide +kernel), by decide +kernel⟩
theorem w_155 : ((Jvm.Cond.fieldLink "RadiusDecoder$Word" (9 : Nat) "RadiusDecoder$Word" "elements" "[I")) ∈ WS := List.mem_filter.mpr ⟨List.mem_of_getElem? (i := 155) (by decide +kernel), by decide +kernel⟩
theorem w_156 : ((Jvm.Cond.fieldLinkNest "RadiusDecoder$Passing" (85 : Nat) "RadiusDecoder$Word" "elements" "[I" "RadiusDecoder")) ∈ NW := List.mem_filter.mpr ⟨List.mem_of_getElem? (i := 156) (by decide +kernel), by decide +kernel⟩
theorem w_157 : ((Jvm.Cond.fieldLinkNest "RadiusDecoder$Search" (76 : Nat) "RadiusDecoder$Word" "elements" "[I" "RadiusDecoder")) ∈ NW := List.mem_filter.mpr ⟨List.mem_of_getElem? (i := 157) (by decide +kernel), by decide +kernel⟩
theorem w_158 : ((Jvm.Cond.fieldLinkNest "RadiusDecoder" (130 : Nat) "RadiusDecoder$Word" "elements" "[I" "RadiusDecoder")) ∈ NW := List.mem_filter.mpr ⟨List.mem_of_getElem? (i := 158) (by decide +kernel), by decide +kernel⟩
theorem w_159 : ((Jvm.Cond.fieldLink "RadiusDecoder$Word" (15 : Nat) "RadiusDecoder$Word" "erased" "[Z")) ∈ WS := List.mem_filter.mpr ⟨List.mem_of_getElem? (i := 159) (by decide +kernel), by decide +kernel⟩
theorem w_160 : ((Jvm.Cond.fieldLinkNest "RadiusDecoder$Passing" (77 : Nat) "RadiusDecoder$Word" "erased" "[Z" "RadiusDecoder")) ∈ NW := List.mem_filter.mpr ⟨List.mem_of_getElem? (i := 160) (by decide +kernel), by decide +kernel⟩
theorem w_161 : ((Jvm.Cond.fieldLinkNest "RadiusDecoder$Search" (72 : Nat) "RadiusDecoder$Word" "erased" "[Z" "RadiusDecoder")) ∈ NW := List.mem_filter.mpr ⟨List.mem_of_getElem? (i := 161) (by decide +kernel), by decide +kernel⟩
theorem w_162 : ((Jvm.Cond.fieldLinkNest "RadiusDecoder" (123 : Nat) "RadiusDecoder$Word" "erased" "[Z" "RadiusDecoder")) ∈ NW := List.mem_filter.mpr ⟨List.mem_of_getElem? (i := 162) (by decide +kernel), by decide +kernel⟩
theorem w_170 : ((Jvm.Cond.arrayClass Jvm.ClassFile.FieldType.boolean)) ∈ WS := List.mem_filter.mpr ⟨List.mem_of_getElem? (i := 170) (by decide +kernel), by decide +kernel⟩
theorem w_171 : ((Jvm.Cond.classLink "RadiusDecoder" (36 : Nat) "RadiusDecoder$Search")) ∈ WS := List.mem_filter.mpr ⟨List.mem_of_getElem? (i := 171) (by decide +kernel), by decide +kernel⟩
theorem w_172 : ((Jvm.Cond.instantiable "RadiusDecoder$Search" (6 : Nat))) ∈ WS := List.mem_filter.mpr ⟨List.mem_of_getElem? (i := 172) (by decide +kernel), by decide +kernel⟩
theorem w_173 : ((Jvm.Cond.methodLink "RadiusDecoder" (38 : Nat) ({ cls := "RadiusDecoder$Search", name := "<init>", desc := "(LRadiusDecoder$Field;LRadiusDecoder$Code;LRadiusDecoder$Word;)V" } : Jvm.MethodName))) ∈ WS := List.mem_filter.mpr ⟨List.mem_of_getElem? (i := 173) (by decide +kernel), by decide +kernel⟩
theorem w_174 : ((Jvm.Cond.instanceMethod ({ cls := "RadiusDecoder$Search", name := "<init>", desc := "(LRadiusDecoder$Field;LRadiusDecoder$Code;LRadiusDecoder$Word;)V" } : Jvm.MethodName))) ∈ WS := List.mem_filter.mpr ⟨List.mem_of_getElem? (i := 174) (by decide +kernel), by decide +kernel⟩
theorem w_175 : ((Jvm.Cond.code ({ cls := "RadiusDecoder$Search", name := "<init>", desc := "(LRadiusDecoder$Field;LRadiusDecoder$Code;LRadiusDecoder$Word;)V" } : Jvm.MethodName) prog_6_method_1_code (4 : Nat) (Option.none : Option Jvm.ClassFile.FieldType))) ∈ WS := List.mem_filter.mpr ⟨List.mem_of_getElem? (i := 175) (by decide +kernel), by decide +kernel⟩
theorem w_176 : ((Jvm.Cond.methodLink "RadiusDecoder$Search" (3 : Nat) ({ cls := "java/lang/Object", name := "<init>", desc := "()V" } : Jvm.MethodName))) ∈ WS := List.mem_filter.mpr ⟨List.mem_of_getElem? (i := 176) (by decide +kernel), by decide +kernel⟩
theorem w_177 : ((Jvm.Cond.fieldLink "RadiusDecoder$Search" (18 : Nat) "RadiusDecoder$Search" "numbers" "LRadiusDecoder$Field;")) ∈ WS := List.mem_filter.mpr ⟨List.mem_of_getElem? (i := 177) (by decide +kernel), by decide +kernel⟩
theorem w_178 : ((Jvm.Cond.fieldLink "RadiusDecoder$Search" (22 : Nat) "RadiusDecoder$Search" "scheme" "LRadiusDecoder$Code;")) ∈ WS := List.mem_filter.mpr ⟨List.mem_of_getElem? (i := 178) (by decide +kernel), by decide +kernel⟩
theorem w_179 : ((Jvm.Cond.fieldLink "RadiusDecoder$Search" (26 : Nat) "RadiusDecoder$Search" "received" "LRadiusDecoder$Word;")) ∈ WS := List.mem_filter.mpr ⟨List.mem_of_getElem? (i := 179) (by decide +kernel), by decide +kernel⟩
theorem w_180 : ((Jvm.Cond.fieldLink "RadiusDecoder$Search" (9 : Nat) "RadiusDecoder$Search" "start" "[I")) ∈ WS := List.mem_filter.mpr ⟨List.mem_of_getElem? (i := 180) (by decide +kernel), by decide +kernel⟩
theorem w_181 : ((Jvm.Cond.fieldLink "RadiusDecoder$Search" (15 : Nat) "RadiusDecoder$Search" "votes" "[I")) ∈ WS := List.mem_filter.mpr ⟨List.mem_of_getElem? (i := 181) (by decide +kernel), by decide +kernel⟩
theorem w_182 : ((Jvm.Cond.fieldLink "RadiusDecoder$Search" (62 : Nat) "RadiusDecoder$Search" "sure" "I")) ∈ WS := List.mem_filter.mpr ⟨List.mem_of_getElem? (i := 182) (by decide +kernel), by decide +kernel⟩
theorem w_196 : ((Jvm.Cond.classLink "RadiusDecoder" (45 : Nat) "RadiusDecoder$Finds")) ∈ WS := List.mem_filter.mpr ⟨List.mem_of_getElem? (i := 196) (by decide +kernel), by decide +kernel⟩
theorem w_197 : ((Jvm.Cond.instantiable "RadiusDecoder$Finds" (4 : Nat))) ∈ WS := List.mem_filter.mpr ⟨List.mem_of_getElem? (i := 197) (by decide +kernel), by decide +kernel⟩
theorem w_198 : ((Jvm.Cond.methodLink "RadiusDecoder" (47 : Nat) ({ cls := "RadiusDecoder$Finds", name := "<init>", desc := "(LRadiusDecoder$Code;I)V" } : Jvm.MethodName))) ∈ WS := List.mem_filter.mpr ⟨List.mem_of_getElem? (i := 198) (by decide +kernel), by decide +kernel⟩
theorem w_199 : ((Jvm.Cond.instanceMethod ({ cls := "RadiusDecoder$Finds", name := "<init>", desc := "(LRadiusDecoder$Code;I)V" } : Jvm.MethodName))) ∈ WS := List.mem_filter.mpr ⟨List.mem_of_getElem? (i := 199) (by decide +kernel), by decide +kernel⟩
theorem w_200 : ((Jvm.Cond.code ({ cls := "RadiusDecoder$Finds", name := "<init>", desc := "(LRadiusDecoder$Code;I)V" } : Jvm.MethodName) prog_4_method_1_code (3 : Nat) (Option.none : Option Jvm.ClassFile.FieldType))) ∈ WS := List.mem_filter.mpr ⟨List.mem_of_getElem? (i := 200) (by decide +kernel), by decide +kernel⟩
theorem w_201 : ((Jvm.Cond.methodLink "RadiusDecoder$Finds" (3 : Nat) ({ cls := "java/lang/Object", name := "<init>", desc := "()V" } : Jvm.MethodName))) ∈ WS := List.mem_filter.mpr ⟨List.mem_of_getElem? (i := 201) (by decide +kernel), by decide +kernel⟩
theorem w_202 : ((Jvm.Cond.classLink "RadiusDecoder$Finds" (15 : Nat) "[[I")) ∈ WS := List.mem_filter.mpr ⟨List.mem_of_getElem? (i := 202) (by decide +kernel), by decide +kernel⟩
theorem w_203 : ((Jvm.Cond.fieldLink "RadiusDecoder$Finds" (9 : Nat) "RadiusDecoder$Finds" "scheme" "LRadiusDecoder$Code;")) ∈ WS := List.mem_filter.mpr ⟨List.mem_of_getElem? (i := 203) (by decide +kernel), by decide +kernel⟩
theorem w_204 : ((Jvm.Cond.fieldLinkNest "RadiusDecoder$Search" (30 : Nat) "RadiusDecoder$Finds" "count" "I" "RadiusDecoder")) ∈ NW := List.mem_filter.mpr ⟨List.mem_of_getElem? (i := 204) (by decide +kernel), by decide +kernel⟩
theorem w_205 : ((Jvm.Cond.fieldLink "RadiusDecoder$Finds" (24 : Nat) "RadiusDecoder$Finds" "count" "I")) ∈ WS := List.mem_filter.mpr ⟨List.mem_of_getElem? (i := 205) (by decide +kernel), by decide +kernel⟩
theorem w_206 : ((Jvm.Cond.fieldLinkNest "RadiusDecoder" (157 : Nat) "RadiusDecoder$Finds" "count" "I" "RadiusDecoder")) ∈ NW := List.mem_filter.mpr ⟨List.mem_of_getElem? (i := 206) (by decide +kernel), by decide +kernel⟩
theorem w_207 : ((Jvm.Cond.fieldLink "RadiusDecoder$Finds" (17 : Nat) "RadiusDecoder$Finds" "codewords" "[[I")) ∈ WS := List.mem_filter.mpr ⟨List.mem_of_getElem? (i := 207) (by decide +kernel), by decide +kernel⟩
theorem w_208 : ((Jvm.Cond.fieldLinkNest "RadiusDecoder" (166 : Nat) "RadiusDecoder$Finds" "codewords" "[[I" "RadiusDecoder")) ∈ NW := List.mem_filter.mpr ⟨List.mem_of_getElem? (i := 208) (by decide +kernel), by decide +kernel⟩
theorem w_209 : ((Jvm.Cond.fieldLink "RadiusDecoder$Finds" (20 : Nat) "RadiusDecoder$Finds" "distances" "[I")) ∈ WS := List.mem_filter.mpr ⟨List.mem_of_getElem? (i := 209) (by decide +kernel), by decide +kernel⟩
theorem w_210 : ((Jvm.Cond.fieldLinkNest "RadiusDecoder" (163 : Nat) "RadiusDecoder$Finds" "distances" "[I" "RadiusDecoder")) ∈ NW := List.mem_filter.mpr ⟨List.mem_of_getElem? (i := 210) (by decide +kernel), by decide +kernel⟩
theorem w_220 : ((Jvm.Cond.classLink "RadiusDecoder" (60 : Nat) "RadiusDecoder$Passing")) ∈ WS := List.mem_filter.mpr ⟨List.mem_of_getElem? (i := 220) (by decide +kernel), by decide +kernel⟩
theorem w_221 : ((Jvm.Cond.instantiable "RadiusDecoder$Passing" (11 : Nat))) ∈ WS := List.mem_filter.mpr ⟨List.mem_of_getElem? (i := 221) (by decide +kernel), by decide +kernel⟩
theorem w_222 : ((Jvm.Cond.methodLink "RadiusDecoder" (62 : Nat) ({ cls := "RadiusDecoder$Passing", name := "<init>", desc := "(LRadiusDecoder$Field;LRadiusDecoder$Code;LRadiusDecoder$Word;)V" } : Jvm.MethodName))) ∈ WS := List.mem_filter.mpr ⟨List.mem_of_getElem? (i := 222) (by decide +kernel), by decide +kernel⟩
theorem w_223 : ((Jvm.Cond.instanceMethod ({ cls := "RadiusDecoder$Passing", name := "<init>", desc := "(LRadiusDecoder$Field;LRadiusDecoder$Code;LRadiusDecoder$Word;)V" } : Jvm.MethodName))) ∈ WS := List.mem_filter.mpr ⟨List.mem_of_getElem? (i := 223) (by decide +kernel), by decide +kernel⟩
theorem w_224 : ((Jvm.Cond.code ({ cls := "RadiusDecoder$Passing", name := "<init>", desc := "(LRadiusDecoder$Field;LRadiusDecoder$Code;LRadiusDecoder$Word;)V" } : Jvm.MethodName) prog_5_method_1_code (4 : Nat) (Option.none : Option Jvm.ClassFile.FieldType))) ∈ WS := List.mem_filter.mpr ⟨List.mem_of_getElem? (i := 224) (by decide +kernel), by decide +kernel⟩
theorem w_225 : ((Jvm.Cond.methodLink "RadiusDecoder$Passing" (3 : Nat) ({ cls := "java/lang/Object", name := "<init>", desc := "()V" } : Jvm.MethodName))) ∈ WS := List.mem_filter.mpr ⟨List.mem_of_getElem? (i := 225) (by decide +kernel), by decide +kernel⟩
theorem w_226 : ((Jvm.Cond.classLink "RadiusDecoder$Passing" (25 : Nat) "[[I")) ∈ WS := List.mem_filter.mpr ⟨List.mem_of_getElem? (i := 226) (by decide +kernel), by decide +kernel⟩
theorem w_227 : ((Jvm.Cond.fieldLink "RadiusDecoder$Passing" (30 : Nat) "RadiusDecoder$Passing" "numbers" "LRadiusDecoder$Field;")) ∈ WS := List.mem_filter.mpr ⟨List.mem_of_getElem? (i := 227) (by decide +kernel), by decide +kernel⟩
theorem w_228 : ((Jvm.Cond.fieldLink "RadiusDecoder$Passing" (34 : Nat) "RadiusDecoder$Passing" "scheme" "LRadiusDecoder$Code;")) ∈ WS := List.mem_filter.mpr ⟨List.mem_of_getElem? (i := 228) (by decide +kernel), by decide +kernel⟩
theorem w_229 : ((Jvm.Cond.fieldLink "RadiusDecoder$Passing" (38 : Nat) "RadiusDecoder$Passing" "received" "LRadiusDecoder$Word;")) ∈ WS := List.mem_filter.mpr ⟨List.mem_of_getElem? (i := 229) (by decide +kernel), by decide +kernel⟩
theorem w_230 : ((Jvm.Cond.fieldLink "RadiusDecoder$Passing" (63 : Nat) "RadiusDecoder$Passing" "places" "I")) ∈ WS := List.mem_filter.mpr ⟨List.mem_of_getElem? (i := 230) (by decide +kernel), by decide +kernel⟩
theorem w_231 : ((Jvm.Cond.fieldLink "RadiusDecoder$Passing" (45 : Nat) "RadiusDecoder$Passing" "block" "I")) ∈ WS := List.mem_filter.mpr ⟨List.mem_of_getElem? (i := 231) (by decide +kernel), by decide +kernel⟩
theorem w_232 : ((Jvm.Cond.fieldLink "RadiusDecoder$Passing" (60 : Nat) "RadiusDecoder$Passing" "powers" "I")) ∈ WS := List.mem_filter.mpr ⟨List.mem_of_getElem? (i := 232) (by decide +kernel), by decide +kernel⟩
theorem w_233 : ((Jvm.Cond.fieldLink "RadiusDecoder$Passing" (9 : Nat) "RadiusDecoder$Passing" "xs" "[I")) ∈ WS := List.mem_filter.mpr ⟨List.mem_of_getElem? (i := 233) (by decide +kernel), by decide +kernel⟩
theorem w_234 : ((Jvm.Cond.fieldLink "RadiusDecoder$Passing" (15 : Nat) "RadiusDecoder$Passing" "ys" "[I")) ∈ WS := List.mem_filter.mpr ⟨List.mem_of_getElem? (i := 234) (by decide +kernel), by decide +kernel⟩
theorem w_235 : ((Jvm.Cond.fieldLink "RadiusDecoder$Passing" (18 : Nat) "RadiusDecoder$Passing" "withoutX" "[Z")) ∈ WS := List.mem_filter.mpr ⟨List.mem_of_getElem? (i := 235) (by decide +kernel), by decide +kernel⟩
theorem w_236 : ((Jvm.Cond.fieldLink "RadiusDecoder$Passing" (22 : Nat) "RadiusDecoder$Passing" "weights" "[I")) ∈ WS := List.mem_filter.mpr ⟨List.mem_of_getElem? (i := 236) (by decide +kernel), by decide +kernel⟩
theorem w_237 : ((Jvm.Cond.fieldLink "RadiusDecoder$Passing" (27 : Nat) "RadiusDecoder$Passing" "values" "[[I")) ∈ WS := List.mem_filter.mpr ⟨List.mem_of_getElem? (i := 237) (by decide +kernel), by decide +kernel⟩
theorem w_261 : ((Jvm.Cond.methodLink "RadiusDecoder" (67 : Nat) ({ cls := "RadiusDecoder", name := "beginField", desc := "(I)V" } : Jvm.MethodName))) ∈ WS := List.mem_filter.mpr ⟨List.mem_of_getElem? (i := 261) (by decide +kernel), by decide +kernel⟩
theorem w_263 : ((Jvm.Cond.instanceMethod ({ cls := "RadiusDecoder", name := "beginField", desc := "(I)V" } : Jvm.MethodName))) ∈ WS := List.mem_filter.mpr ⟨List.mem_of_getElem? (i := 263) (by decide +kernel), by decide +kernel⟩
theorem w_264 : ((Jvm.Cond.code ({ cls := "RadiusDecoder", name := "beginField", desc := "(I)V" } : Jvm.MethodName) prog_1_method_22_code (2 : Nat) (Option.none : Option Jvm.ClassFile.FieldType))) ∈ WS := List.mem_filter.mpr ⟨List.mem_of_getElem? (i := 264) (by decide +kernel), by decide +kernel⟩
theorem w_265 : ((Jvm.Cond.methodLink "RadiusDecoder" (187 : Nat) ({ cls := "RadiusDecoder$Field", name := "begin", desc := "(I)V" } : Jvm.MethodName))) ∈ WS := List.mem_filter.mpr ⟨List.mem_of_getElem? (i := 265) (by decide +kernel), by decide +kernel⟩
theorem w_266 : ((Jvm.Cond.instanceMethod ({ cls := "RadiusDecoder$Field", name := "begin", desc := "(I)V" } : Jvm.MethodName))) ∈ WS := List.mem_filter.mpr ⟨List.mem_of_getElem? (i := 266) (by decide +kernel), by decide +kernel⟩
theorem w_267 : ((Jvm.Cond.selects "RadiusDecoder$Field" ({ cls := "RadiusDecoder$Field", name := "begin", desc := "(I)V" } : Jvm.MethodName) ({ cls := "RadiusDecoder$Field", name := "begin", desc := "(I)V" } : Jvm.MethodName))) ∈ WS := List.mem_filter.mpr ⟨List.mem_of_getElem? (i := 267) (by decide +kernel), by decide +kernel⟩
theorem w_268 : ((Jvm.Cond.code ({ cls := "RadiusDecoder$Field", name := "begin", desc := "(I)V" } : Jvm.MethodName) prog_3_method_5_code (6 : Nat) (Option.none : Option Jvm.ClassFile.FieldType))) ∈ WS := List.mem_filter.mpr ⟨List.mem_of_getElem? (i := 268) (by decide +kernel), by decide +kernel⟩
theorem w_269 : ((Jvm.Cond.methodLink "RadiusDecoder$Field" (21 : Nat) ({ cls := "RadiusDecoder$Field", name := "degreeOf", desc := "(I)I" } : Jvm.MethodName))) ∈ WS := List.mem_filter.mpr ⟨List.mem_of_getElem? (i := 269) (by decide +kernel), by decide +kernel⟩
theorem w_270 : ((Jvm.Cond.static ({ cls := "RadiusDecoder$Field", name := "degreeOf", desc := "(I)I" } : Jvm.MethodName))) ∈ WS := List.mem_filter.mpr ⟨List.mem_of_getElem? (i := 270) (by decide +kernel), by decide +kernel⟩
theorem w_271 : ((Jvm.Cond.code ({ cls := "RadiusDecoder$Field", name := "degreeOf", desc := "(I)I" } : Jvm.MethodName) prog_3_method_2_code (1 : Nat) (Option.some Jvm.ClassFile.FieldType.int))) ∈ WS := List.mem_filter.mpr ⟨List.mem_of_getElem? (i := 271) (by decide +kernel), by decide +kernel⟩
theorem w_272 : ((Jvm.Cond.methodLink "RadiusDecoder$Field" (25 : Nat) ({ cls := "RadiusDecoder$Field", name := "timesX", desc := "(II)I" } : Jvm.MethodName))) ∈ WS := List.mem_filter.mpr ⟨List.mem_of_getElem? (i := 272) (by decide +kernel), by decide +kernel⟩
theorem w_273 : ((Jvm.Cond.static ({ cls := "RadiusDecoder$Field", name := "timesX", desc := "(II)I" } : Jvm.MethodName))) ∈ WS := List.mem_filter.mpr ⟨List.mem_of_getElem? (i := 273) (by decide +kernel), by decide +kernel⟩
theorem w_274 : ((Jvm.Cond.code ({ cls := "RadiusDecoder$Field", name := "timesX", desc := "(II)I" } : Jvm.MethodName) prog_3_method_3_code (3 : Nat) (Option.some Jvm.ClassFile.FieldType.int))) ∈ WS := List.mem_filter.mpr ⟨List.mem_of_getElem? (i := 274) (by decide +kernel), by decide +kernel⟩
theorem w_275 : ((Jvm.Cond.methodLink "RadiusDecoder" (190 : Nat) ({ cls := "java/lang/Math", name := "min", desc := "(II)I" } : Jvm.MethodName))) ∈ WS := List.mem_filter.mpr ⟨List.mem_of_getElem? (i := 275) (by decide +kernel), by decide +kernel⟩
theorem w_276 : ((Jvm.Cond.static ({ cls := "java/lang/Math", name := "min", desc := "(II)I" } : Jvm.MethodName))) ∈ WS := List.mem_filter.mpr ⟨List.mem_of_getElem? (i := 276) (by decide +kernel), by decide +kernel⟩
theorem w_277 : ((Jvm.Cond.code ({ cls := "java/lang/Math", name := "min", desc := "(II)I" } : Jvm.MethodName) prog_10_method_69_code (2 : Nat) (Option.some Jvm.ClassFile.FieldType.int))) ∈ WS := List.mem_filter.mpr ⟨List.mem_of_getElem? (i := 277) (by decide +kernel), by decide +kernel⟩
theorem w_278 : ((Jvm.Cond.methodLink "RadiusDecoder" (95 : Nat) ({ cls := "RadiusDecoder", name := "beginCode", desc := "(III)V" } : Jvm.MethodName))) ∈ WS := List.mem_filter.mpr ⟨List.mem_of_getElem? (i := 278) (by decide +kernel), by decide +kernel⟩
theorem w_280 : ((Jvm.Cond.instanceMethod ({ cls := "RadiusDecoder", name := "beginCode", desc := "(III)V" } : Jvm.MethodName))) ∈ WS := List.mem_filter.mpr ⟨List.mem_of_getElem? (i := 280) (by decide +kernel), by decide +kernel⟩
theorem w_281 : ((Jvm.Cond.code ({ cls := "RadiusDecoder", name := "beginCode", desc := "(III)V" } : Jvm.MethodName) prog_1_method_23_code (5 : Nat) (Option.none : Option Jvm.ClassFile.FieldType))) ∈ WS := List.mem_filter.mpr ⟨List.mem_of_getElem? (i := 281) (by decide +kernel), by decide +kernel⟩
theorem w_282 : ((Jvm.Cond.methodLink "RadiusDecoder" (195 : Nat) ({ cls := "RadiusDecoder$Code", name := "begin", desc := "(III)V" } : Jvm.MethodName))) ∈ WS := List.mem_filter.mpr ⟨List.mem_of_getElem? (i := 282) (by decide +kernel), by decide +kernel⟩
theorem w_283 : ((Jvm.Cond.instanceMethod ({ cls := "RadiusDecoder$Code", name := "begin", desc := "(III)V" } : Jvm.MethodName))) ∈ WS := List.mem_filter.mpr ⟨List.mem_of_getElem? (i := 283) (by decide +kernel), by decide +kernel⟩
theorem w_284 : ((Jvm.Cond.selects "RadiusDecoder$Code" ({ cls := "RadiusDecoder$Code", name := "begin", desc := "(III)V" } : Jvm.MethodName) ({ cls := "RadiusDecoder$Code", name := "begin", desc := "(III)V" } : Jvm.MethodName))) ∈ WS := List.mem_filter.mpr ⟨List.mem_of_getElem? (i := 284) (by decide +kernel), by decide +kernel⟩
theorem w_285 : ((Jvm.Cond.code ({ cls := "RadiusDecoder$Code", name := "begin", desc := "(III)V" } : Jvm.MethodName) prog_2_method_2_code (5 : Nat) (Option.none : Option Jvm.ClassFile.FieldType))) ∈ WS := List.mem_filter.mpr ⟨List.mem_of_getElem? (i := 285) (by decide +kernel), by decide +kernel⟩
theorem w_286 : ((Jvm.Cond.methodLink "RadiusDecoder$Code" (54 : Nat) ({ cls := "RadiusDecoder$Code", name := "fillFactors", desc := "(I)V" } : Jvm.MethodName))) ∈ WS := List.mem_filter.mpr ⟨List.mem_of_getElem? (i := 286) (by decide +kernel), by decide +kernel⟩
theorem w_288 : ((Jvm.Cond.instanceMethod ({ cls := "RadiusDecoder$Code", name := "fillFactors", desc := "(I)V" } : Jvm.MethodName))) ∈ WS := List.mem_filter.mpr ⟨List.mem_of_getElem? (i := 288) (by decide +kernel), by decide +kernel⟩
theorem w_289 : ((Jvm.Cond.code ({ cls := "RadiusDecoder$Code", name := "fillFactors", desc := "(I)V" } : Jvm.MethodName) prog_2_method_3_code (4 : Nat) (Option.none : Option Jvm.ClassFile.FieldType))) ∈ WS := List.mem_filter.mpr ⟨List.mem_of_getElem? (i := 289) (by decide +kernel), by decide +kernel⟩
theorem w_290 : ((Jvm.Cond.methodLink "RadiusDecoder$Code" (68 : Nat) ({ cls := "RadiusDecoder$Field", name := "product", desc := "(II)I" } : Jvm.MethodName))) ∈ WS := List.mem_filter.mpr ⟨List.mem_of_getElem? (i := 290) (by decide +kernel), by decide +kernel⟩
theorem w_291 : ((Jvm.Cond.instanceMethod ({ cls := "RadiusDecoder$Field", name := "product", desc := "(II)I" } : Jvm.MethodName))) ∈ WS := List.mem_filter.mpr ⟨List.mem_of_getElem? (i := 291) (by decide +kernel), by decide +kernel⟩
theorem w_292 : ((Jvm.Cond.selects "RadiusDecoder$Field" ({ cls := "RadiusDecoder$Field", name := "product", desc := "(II)I" } : Jvm.MethodName) ({ cls := "RadiusDecoder$Field", name := "product", desc := "(II)I" } : Jvm.MethodName))) ∈ WS := List.mem_filter.mpr ⟨List.mem_of_getElem? (i := 292) (by decide +kernel), by decide +kernel⟩
theorem w_293 : ((Jvm.Cond.code ({ cls := "RadiusDecoder$Field", name := "product", desc := "(II)I" } : Jvm.MethodName) prog_3_method_7_code (3 : Nat) (Option.some Jvm.ClassFile.FieldType.int))) ∈ WS := List.mem_filter.mpr ⟨List.mem_of_getElem? (i := 293) (by decide +kernel), by decide +kernel⟩
theorem w_294 : ((Jvm.Cond.methodLink "RadiusDecoder$Code" (72 : Nat) ({ cls := "RadiusDecoder$Field", name := "quotient", desc := "(II)I" } : Jvm.MethodName))) ∈ WS := List.mem_filter.mpr ⟨List.mem_of_getElem? (i := 294) (by decide +kernel), by decide +kernel⟩
theorem w_295 : ((Jvm.Cond.instanceMethod ({ cls := "RadiusDecoder$Field", name := "quotient", desc := "(II)I" } : Jvm.MethodName))) ∈ WS := List.mem_filter.mpr ⟨List.mem_of_getElem? (i := 295) (by decide +kernel), by decide +kernel⟩
theorem w_296 : ((Jvm.Cond.selects "RadiusDecoder$Field" ({ cls := "RadiusDecoder$Field", name := "quotient", desc := "(II)I" } : Jvm.MethodName) ({ cls := "RadiusDecoder$Field", name := "quotient", desc := "(II)I" } : Jvm.MethodName))) ∈ WS := List.mem_filter.mpr ⟨List.mem_of_getElem? (i := 296) (by decide +kernel), by decide +kernel⟩
theorem w_297 : ((Jvm.Cond.code ({ cls := "RadiusDecoder$Field", name := "quotient", desc := "(II)I" } : Jvm.MethodName) prog_3_method_8_code (4 : Nat) (Option.some Jvm.ClassFile.FieldType.int))) ∈ WS := List.mem_filter.mpr ⟨List.mem_of_getElem? (i := 297) (by decide +kernel), by decide +kernel⟩
theorem w_298 : ((Jvm.Cond.methodLink "RadiusDecoder$Code" (58 : Nat) ({ cls := "RadiusDecoder$Code", name := "fillGenerator", desc := "()V" } : Jvm.MethodName))) ∈ WS := List.mem_filter.mpr ⟨List.mem_of_getElem? (i := 298) (by decide +kernel), by decide +kernel⟩
theorem w_300 : ((Jvm.Cond.instanceMethod ({ cls := "RadiusDecoder$Code", name := "fillGenerator", desc := "()V" } : Jvm.MethodName))) ∈ WS := List.mem_filter.mpr ⟨List.mem_of_getElem? (i := 300) (by decide +kernel), by decide +kernel⟩
theorem w_301 : ((Jvm.Cond.code ({ cls := "RadiusDecoder$Code", name := "fillGenerator", desc := "()V" } : Jvm.MethodName) prog_2_method_4_code (3 : Nat) (Option.none : Option Jvm.ClassFile.FieldType))) ∈ WS := List.mem_filter.mpr ⟨List.mem_of_getElem? (i := 301) (by decide +kernel), by decide +kernel⟩
theorem w_302 : ((Jvm.Cond.methodLink "RadiusDecoder$Code" (61 : Nat) ({ cls := "RadiusDecoder$Code", name := "fillPlainRow", desc := "(I)V" } : Jvm.MethodName))) ∈ WS := List.mem_filter.mpr ⟨List.mem_of_getElem? (i := 302) (by decide +kernel), by decide +kernel⟩
theorem w_304 : ((Jvm.Cond.instanceMethod ({ cls := "RadiusDecoder$Code", name := "fillPlainRow", desc := "(I)V" } : Jvm.MethodName))) ∈ WS := List.mem_filter.mpr ⟨List.mem_of_getElem? (i := 304) (by decide +kernel), by decide +kernel⟩
theorem w_305 : ((Jvm.Cond.code ({ cls := "RadiusDecoder$Code", name := "fillPlainRow", desc := "(I)V" } : Jvm.MethodName) prog_2_method_5_code (3 : Nat) (Option.none : Option Jvm.ClassFile.FieldType))) ∈ WS := List.mem_filter.mpr ⟨List.mem_of_getElem? (i := 305) (by decide +kernel), by decide +kernel⟩
theorem w_306 : ((Jvm.Cond.methodLink "RadiusDecoder$Code" (75 : Nat) ({ cls := "RadiusDecoder$Field", name := "power", desc := "(II)I" } : Jvm.MethodName))) ∈ WS := List.mem_filter.mpr ⟨List.mem_of_getElem? (i := 306) (by decide +kernel), by decide +kernel⟩
theorem w_307 : ((Jvm.Cond.instanceMethod ({ cls := "RadiusDecoder$Field", name := "power", desc := "(II)I" } : Jvm.MethodName))) ∈ WS := List.mem_filter.mpr ⟨List.mem_of_getElem? (i := 307) (by decide +kernel), by decide +kernel⟩
theorem w_308 : ((Jvm.Cond.selects "RadiusDecoder$Field" ({ cls := "RadiusDecoder$Field", name := "power", desc := "(II)I" } : Jvm.MethodName) ({ cls := "RadiusDecoder$Field", name := "power", desc := "(II)I" } : Jvm.MethodName))) ∈ WS := List.mem_filter.mpr ⟨List.mem_of_getElem? (i := 308) (by decide +kernel), by decide +kernel⟩
theorem w_309 : ((Jvm.Cond.code ({ cls := "RadiusDecoder$Field", name := "power", desc := "(II)I" } : Jvm.MethodName) prog_3_method_10_code (5 : Nat) (Option.some Jvm.ClassFile.FieldType.int))) ∈ WS := List.mem_filter.mpr ⟨List.mem_of_getElem? (i := 309) (by decide +kernel), by decide +kernel⟩
theorem w_310 : ((Jvm.Cond.methodLink "RadiusDecoder$Field" (36 : Nat) ({ cls := "RadiusDecoder$Field", name := "product", desc := "(II)I" } : Jvm.MethodName))) ∈ WS := List.mem_filter.mpr ⟨List.mem_of_getElem? (i := 310) (by decide +kernel), by decide +kernel⟩
theorem w_311 : ((Jvm.Cond.methodLink "RadiusDecoder$Code" (64 : Nat) ({ cls := "RadiusDecoder$Code", name := "fillUnitRows", desc := "([[II)V" } : Jvm.MethodName))) ∈ WS := List.mem_filter.mpr ⟨List.mem_of_getElem? (i := 311) (by decide +kernel), by decide +kernel⟩
theorem w_313 : ((Jvm.Cond.instanceMethod ({ cls := "RadiusDecoder$Code", name := "fillUnitRows", desc := "([[II)V" } : Jvm.MethodName))) ∈ WS := List.mem_filter.mpr ⟨List.mem_of_getElem? (i := 313) (by decide +kernel), by decide +kernel⟩
theorem w_314 : ((Jvm.Cond.code ({ cls := "RadiusDecoder$Code", name := "fillUnitRows", desc := "([[II)V" } : Jvm.MethodName) prog_2_method_6_code (7 : Nat) (Option.none : Option Jvm.ClassFile.FieldType))) ∈ WS := List.mem_filter.mpr ⟨List.mem_of_getElem? (i := 314) (by decide +kernel), by decide +kernel⟩
theorem w_315 : ((Jvm.Cond.methodLink "RadiusDecoder$Code" (78 : Nat) ({ cls := "java/lang/System", name := "arraycopy", desc := "(Ljava/lang/Object;ILjava/lang/Object;II)V" } : Jvm.MethodName))) ∈ WS := List.mem_filter.mpr ⟨List.mem_of_getElem? (i := 315) (by decide +kernel), by decide +kernel⟩
theorem w_316 : ((Jvm.Cond.static ({ cls := "java/lang/System", name := "arraycopy", desc := "(Ljava/lang/Object;ILjava/lang/Object;II)V" } : Jvm.MethodName))) ∈ WS := List.mem_filter.mpr ⟨List.mem_of_getElem? (i := 316) (by decide +kernel), by decide +kernel⟩
theorem w_317 : ((Jvm.Cond.native ({ cls := "java/lang/System", name := "arraycopy", desc := "(Ljava/lang/Object;ILjava/lang/Object;II)V" } : Jvm.MethodName))) ∈ WS := List.mem_filter.mpr ⟨List.mem_of_getElem? (i := 317) (by decide +kernel), by decide +kernel⟩
theorem w_318 : ((Jvm.Cond.methodLink "RadiusDecoder$Code" (84 : Nat) ({ cls := "RadiusDecoder$Field", name := "addMultiple", desc := "([II[III)V" } : Jvm.MethodName))) ∈ WS := List.mem_filter.mpr ⟨List.mem_of_getElem? (i := 318) (by decide +kernel), by decide +kernel⟩
theorem w_319 : ((Jvm.Cond.instanceMethod ({ cls := "RadiusDecoder$Field", name := "addMultiple", desc := "([II[III)V" } : Jvm.MethodName))) ∈ WS := List.mem_filter.mpr ⟨List.mem_of_getElem? (i := 319) (by decide +kernel), by decide +kernel⟩
theorem w_320 : ((Jvm.Cond.selects "RadiusDecoder$Field" ({ cls := "RadiusDecoder$Field", name := "addMultiple", desc := "([II[III)V" } : Jvm.MethodName) ({ cls := "RadiusDecoder$Field", name := "addMultiple", desc := "([II[III)V" } : Jvm.MethodName))) ∈ WS := List.mem_filter.mpr ⟨List.mem_of_getElem? (i := 320) (by decide +kernel), by decide +kernel⟩
theorem w_321 : ((Jvm.Cond.code ({ cls := "RadiusDecoder$Field", name := "addMultiple", desc := "([II[III)V" } : Jvm.MethodName) prog_3_method_9_code (8 : Nat) (Option.none : Option Jvm.ClassFile.FieldType))) ∈ WS := List.mem_filter.mpr ⟨List.mem_of_getElem? (i := 321) (by decide +kernel), by decide +kernel⟩
theorem w_322 : ((Jvm.Cond.methodLink "RadiusDecoder" (197 : Nat) ({ cls := "RadiusDecoder$Word", name := "begin", desc := "(I)V" } : Jvm.MethodName))) ∈ WS := List.mem_filter.mpr ⟨List.mem_of_getElem? (i := 322) (by decide +kernel), by decide +kernel⟩
theorem w_323 : ((Jvm.Cond.instanceMethod ({ cls := "RadiusDecoder$Word", name := "begin", desc := "(I)V" } : Jvm.MethodName))) ∈ WS := List.mem_filter.mpr ⟨List.mem_of_getElem? (i := 323) (by decide +kernel), by decide +kernel⟩
theorem w_324 : ((Jvm.Cond.selects "RadiusDecoder$Word" ({ cls := "RadiusDecoder$Word", name := "begin", desc := "(I)V" } : Jvm.MethodName) ({ cls := "RadiusDecoder$Word", name := "begin", desc := "(I)V" } : Jvm.MethodName))) ∈ WS := List.mem_filter.mpr ⟨List.mem_of_getElem? (i := 324) (by decide +kernel), by decide +kernel⟩
theorem w_325 : ((Jvm.Cond.code ({ cls := "RadiusDecoder$Word", name := "begin", desc := "(I)V" } : Jvm.MethodName) prog_7_method_2_code (3 : Nat) (Option.none : Option Jvm.ClassFile.FieldType))) ∈ WS := List.mem_filter.mpr ⟨List.mem_of_getElem? (i := 325) (by decide +kernel), by decide +kernel⟩
theorem w_326 : ((Jvm.Cond.fieldLink "RadiusDecoder" (12 : Nat) "RadiusDecoder" "numbers" "LRadiusDecoder$Field;")) ∈ WS := List.mem_filter.mpr ⟨List.mem_of_getElem? (i := 326) (by decide +kernel), by decide +kernel⟩
theorem w_327 : ((Jvm.Cond.fieldLink "RadiusDecoder" (21 : Nat) "RadiusDecoder" "scheme" "LRadiusDecoder$Code;")) ∈ WS := List.mem_filter.mpr ⟨List.mem_of_getElem? (i := 327) (by decide +kernel), by decide +kernel⟩
theorem w_328 : ((Jvm.Cond.fieldLink "RadiusDecoder" (25 : Nat) "RadiusDecoder" "message" "[I")) ∈ WS := List.mem_filter.mpr ⟨List.mem_of_getElem? (i := 328) (by decide +kernel), by decide +kernel⟩
theorem w_329 : ((Jvm.Cond.fieldLink "RadiusDecoder" (32 : Nat) "RadiusDecoder" "received" "LRadiusDecoder$Word;")) ∈ WS := List.mem_filter.mpr ⟨List.mem_of_getElem? (i := 329) (by decide +kernel), by decide +kernel⟩
theorem w_330 : ((Jvm.Cond.fieldLink "RadiusDecoder" (41 : Nat) "RadiusDecoder" "search" "LRadiusDecoder$Search;")) ∈ WS := List.mem_filter.mpr ⟨List.mem_of_getElem? (i := 330) (by decide +kernel), by decide +kernel⟩
theorem w_331 : ((Jvm.Cond.fieldLink "RadiusDecoder" (50 : Nat) "RadiusDecoder" "nearest" "LRadiusDecoder$Finds;")) ∈ WS := List.mem_filter.mpr ⟨List.mem_of_getElem? (i := 331) (by decide +kernel), by decide +kernel⟩
theorem w_332 : ((Jvm.Cond.fieldLink "RadiusDecoder" (54 : Nat) "RadiusDecoder" "within" "LRadiusDecoder$Finds;")) ∈ WS := List.mem_filter.mpr ⟨List.mem_of_getElem? (i := 332) (by decide +kernel), by decide +kernel⟩
theorem w_333 : ((Jvm.Cond.fieldLink "RadiusDecoder" (57 : Nat) "RadiusDecoder" "register" "[I")) ∈ WS := List.mem_filter.mpr ⟨List.mem_of_getElem? (i := 333) (by decide +kernel), by decide +kernel⟩
theorem w_334 : ((Jvm.Cond.fieldLink "RadiusDecoder" (63 : Nat) "RadiusDecoder" "passing" "LRadiusDecoder$Passing;")) ∈ WS := List.mem_filter.mpr ⟨List.mem_of_getElem? (i := 334) (by decide +kernel), by decide +kernel⟩
theorem w_354 : ((Jvm.Cond.methodLink "RadiusDecoderLaw" (13 : Nat) ({ cls := "RadiusDecoder", name := "field", desc := "(I)I" } : Jvm.MethodName))) ∈ WS := List.mem_filter.mpr ⟨List.mem_of_getElem? (i := 354) (by decide +kernel), by decide +kernel⟩
theorem w_355 : ((Jvm.Cond.instanceMethod ({ cls := "RadiusDecoder", name := "field", desc := "(I)I" } : Jvm.MethodName))) ∈ WS := List.mem_filter.mpr ⟨List.mem_of_getElem? (i := 355) (by decide +kernel), by decide +kernel⟩
theorem w_356 : ((Jvm.Cond.selects "RadiusDecoder" ({ cls := "RadiusDecoder", name := "field", desc := "(I)I" } : Jvm.MethodName) ({ cls := "RadiusDecoder", name := "field", desc := "(I)I" } : Jvm.MethodName))) ∈ WS := List.mem_filter.mpr ⟨List.mem_of_getElem? (i := 356) (by decide +kernel), by decide +kernel⟩
theorem w_357 : ((Jvm.Cond.code ({ cls := "RadiusDecoder", name := "field", desc := "(I)I" } : Jvm.MethodName) prog_1_method_2_code (2 : Nat) (Option.some Jvm.ClassFile.FieldType.int))) ∈ WS := List.mem_filter.mpr ⟨List.mem_of_getElem? (i := 357) (by decide +kernel), by decide +kernel⟩
theorem w_358 : ((Jvm.Cond.methodLink "RadiusDecoder" (71 : Nat) ({ cls := "RadiusDecoder$Field", name := "isPrimitive", desc := "(I)Z" } : Jvm.MethodName))) ∈ WS := List.mem_filter.mpr ⟨List.mem_of_getElem? (i := 358) (by decide +kernel), by decide +kernel⟩
theorem w_359 : ((Jvm.Cond.static ({ cls := "RadiusDecoder$Field", name := "isPrimitive", desc := "(I)Z" } : Jvm.MethodName))) ∈ WS := List.mem_filter.mpr ⟨List.mem_of_getElem? (i := 359) (by decide +kernel), by decide +kernel⟩
theorem w_360 : ((Jvm.Cond.code ({ cls := "RadiusDecoder$Field", name := "isPrimitive", desc := "(I)Z" } : Jvm.MethodName) prog_3_method_4_code (4 : Nat) (Option.some Jvm.ClassFile.FieldType.boolean))) ∈ WS := List.mem_filter.mpr ⟨List.mem_of_getElem? (i := 360) (by decide +kernel), by decide +kernel⟩
theorem w_361 : ((Jvm.Cond.methodLink "RadiusDecoderLaw" (18 : Nat) ({ cls := "RadiusDecoder", name := "times", desc := "(II)I" } : Jvm.MethodName))) ∈ WS := List.mem_filter.mpr ⟨List.mem_of_getElem? (i := 361) (by decide +kernel), by decide +kernel⟩
theorem w_362 : ((Jvm.Cond.instanceMethod ({ cls := "RadiusDecoder", name := "times", desc := "(II)I" } : Jvm.MethodName))) ∈ WS := List.mem_filter.mpr ⟨List.mem_of_getElem? (i := 362) (by decide +kernel), by decide +kernel⟩
theorem w_363 : ((Jvm.Cond.selects "RadiusDecoder" ({ cls := "RadiusDecoder", name := "times", desc := "(II)I" } : Jvm.MethodName) ({ cls := "RadiusDecoder", name := "times", desc := "(II)I" } : Jvm.MethodName))) ∈ WS := List.mem_filter.mpr ⟨List.mem_of_getElem? (i := 363) (by decide +kernel), by decide +kernel⟩
theorem w_364 : ((Jvm.Cond.code ({ cls := "RadiusDecoder", name := "times", desc := "(II)I" } : Jvm.MethodName) prog_1_method_3_code (3 : Nat) (Option.some Jvm.ClassFile.FieldType.int))) ∈ WS := List.mem_filter.mpr ⟨List.mem_of_getElem? (i := 364) (by decide +kernel), by decide +kernel⟩
theorem w_365 : ((Jvm.Cond.methodLink "RadiusDecoder" (79 : Nat) ({ cls := "RadiusDecoder$Field", name := "has", desc := "(I)Z" } : Jvm.MethodName))) ∈ WS := List.mem_filter.mpr ⟨List.mem_of_getElem? (i := 365) (by decide +kernel), by decide +kernel⟩
theorem w_366 : ((Jvm.Cond.instanceMethod ({ cls := "RadiusDecoder$Field", name := "has", desc := "(I)Z" } : Jvm.MethodName))) ∈ WS := List.mem_filter.mpr ⟨List.mem_of_getElem? (i := 366) (by decide +kernel), by decide +kernel⟩
theorem w_367 : ((Jvm.Cond.selects "RadiusDecoder$Field" ({ cls := "RadiusDecoder$Field", name := "has", desc := "(I)Z" } : Jvm.MethodName) ({ cls := "RadiusDecoder$Field", name := "has", desc := "(I)Z" } : Jvm.MethodName))) ∈ WS := List.mem_filter.mpr ⟨List.mem_of_getElem? (i := 367) (by decide +kernel), by decide +kernel⟩
theorem w_368 : ((Jvm.Cond.code ({ cls := "RadiusDecoder$Field", name := "has", desc := "(I)Z" } : Jvm.MethodName) prog_3_method_6_code (2 : Nat) (Option.some Jvm.ClassFile.FieldType.boolean))) ∈ WS := List.mem_filter.mpr ⟨List.mem_of_getElem? (i := 368) (by decide +kernel), by decide +kernel⟩
theorem w_369 : ((Jvm.Cond.methodLink "RadiusDecoder" (82 : Nat) ({ cls := "RadiusDecoder$Field", name := "product", desc := "(II)I" } : Jvm.MethodName))) ∈ WS := List.mem_filter.mpr ⟨List.mem_of_getElem? (i := 369) (by decide +kernel), by decide +kernel⟩
theorem w_370 : ((Jvm.Cond.methodLink "RadiusDecoderLaw" (23 : Nat) ({ cls := "RadiusDecoder", name := "over", desc := "(II)I" } : Jvm.MethodName))) ∈ WS := List.mem_filter.mpr ⟨List.mem_of_getElem? (i := 370) (by decide +kernel), by decide +kernel⟩
theorem w_371 : ((Jvm.Cond.instanceMethod ({ cls := "RadiusDecoder", name := "over", desc := "(II)I" } : Jvm.MethodName))) ∈ WS := List.mem_filter.mpr ⟨List.mem_of_getElem? (i := 371) (by decide +kernel), by decide +kernel⟩
theorem w_372 : ((Jvm.Cond.selects "RadiusDecoder" ({ cls := "RadiusDecoder", name := "over", desc := "(II)I" } : Jvm.MethodName) ({ cls := "RadiusDecoder", name := "over", desc := "(II)I" } : Jvm.MethodName))) ∈ WS := List.mem_filter.mpr ⟨List.mem_of_getElem? (i := 372) (by decide +kernel), by decide +kernel⟩
theorem w_373 : ((Jvm.Cond.code ({ cls := "RadiusDecoder", name := "over", desc := "(II)I" } : Jvm.MethodName) prog_1_method_4_code (3 : Nat) (Option.some Jvm.ClassFile.FieldType.int))) ∈ WS := List.mem_filter.mpr ⟨List.mem_of_getElem? (i := 373) (by decide +kernel), by decide +kernel⟩
theorem w_374 : ((Jvm.Cond.methodLink "RadiusDecoder" (86 : Nat) ({ cls := "RadiusDecoder$Field", name := "quotient", desc := "(II)I" } : Jvm.MethodName))) ∈ WS := List.mem_filter.mpr ⟨List.mem_of_getElem? (i := 374) (by decide +kernel), by decide +kernel⟩
theorem w_375 : ((Jvm.Cond.methodLink "RadiusDecoderLaw" (27 : Nat) ({ cls := "RadiusDecoder", name := "log", desc := "(I)I" } : Jvm.MethodName))) ∈ WS := List.mem_filter.mpr ⟨List.mem_of_getElem? (i := 375) (by decide +kernel), by decide +kernel⟩
theorem w_376 : ((Jvm.Cond.instanceMethod ({ cls := "RadiusDecoder", name := "log", desc := "(I)I" } : Jvm.MethodName))) ∈ WS := List.mem_filter.mpr ⟨List.mem_of_getElem? (i := 376) (by decide +kernel), by decide +kernel⟩
theorem w_377 : ((Jvm.Cond.selects "RadiusDecoder" ({ cls := "RadiusDecoder", name := "log", desc := "(I)I" } : Jvm.MethodName) ({ cls := "RadiusDecoder", name := "log", desc := "(I)I" } : Jvm.MethodName))) ∈ WS := List.mem_filter.mpr ⟨List.mem_of_getElem? (i := 377) (by decide +kernel), by decide +kernel⟩
theorem w_378 : ((Jvm.Cond.code ({ cls := "RadiusDecoder", name := "log", desc := "(I)I" } : Jvm.MethodName) prog_1_method_5_code (2 : Nat) (Option.some Jvm.ClassFile.FieldType.int))) ∈ WS := List.mem_filter.mpr ⟨List.mem_of_getElem? (i := 378) (by decide +kernel), by decide +kernel⟩
theorem w_379 : ((Jvm.Cond.methodLink "RadiusDecoderLaw" (31 : Nat) ({ cls := "RadiusDecoder", name := "code", desc := "(III)Z" } : Jvm.MethodName))) ∈ WS := List.mem_filter.mpr ⟨List.mem_of_getElem? (i := 379) (by decide +kernel), by decide +kernel⟩
theorem w_380 : ((Jvm.Cond.instanceMethod ({ cls := "RadiusDecoder", name := "code", desc := "(III)Z" } : Jvm.MethodName))) ∈ WS := List.mem_filter.mpr ⟨List.mem_of_getElem? (i := 380) (by decide +kernel), by decide +kernel⟩
theorem w_381 : ((Jvm.Cond.selects "RadiusDecoder" ({ cls := "RadiusDecoder", name := "code", desc := "(III)Z" } : Jvm.MethodName) ({ cls := "RadiusDecoder", name := "code", desc := "(III)Z" } : Jvm.MethodName))) ∈ WS := List.mem_filter.mpr ⟨List.mem_of_getElem? (i := 381) (by decide +kernel), by decide +kernel⟩
theorem w_382 : ((Jvm.Cond.code ({ cls := "RadiusDecoder", name := "code", desc := "(III)Z" } : Jvm.MethodName) prog_1_method_6_code (4 : Nat) (Option.some Jvm.ClassFile.FieldType.boolean))) ∈ WS := List.mem_filter.mpr ⟨List.mem_of_getElem? (i := 382) (by decide +kernel), by decide +kernel⟩
theorem w_383 : ((Jvm.Cond.methodLink "RadiusDecoderLaw" (36 : Nat) ({ cls := "RadiusDecoder", name := "tell", desc := "(II)Z" } : Jvm.MethodName))) ∈ WS := List.mem_filter.mpr ⟨List.mem_of_getElem? (i := 383) (by decide +kernel), by decide +kernel⟩
theorem w_384 : ((Jvm.Cond.instanceMethod ({ cls := "RadiusDecoder", name := "tell", desc := "(II)Z" } : Jvm.MethodName))) ∈ WS := List.mem_filter.mpr ⟨List.mem_of_getElem? (i := 384) (by decide +kernel), by decide +kernel⟩
theorem w_385 : ((Jvm.Cond.selects "RadiusDecoder" ({ cls := "RadiusDecoder", name := "tell", desc := "(II)Z" } : Jvm.MethodName) ({ cls := "RadiusDecoder", name := "tell", desc := "(II)Z" } : Jvm.MethodName))) ∈ WS := List.mem_filter.mpr ⟨List.mem_of_getElem? (i := 385) (by decide +kernel), by decide +kernel⟩
theorem w_386 : ((Jvm.Cond.code ({ cls := "RadiusDecoder", name := "tell", desc := "(II)Z" } : Jvm.MethodName) prog_1_method_7_code (3 : Nat) (Option.some Jvm.ClassFile.FieldType.boolean))) ∈ WS := List.mem_filter.mpr ⟨List.mem_of_getElem? (i := 386) (by decide +kernel), by decide +kernel⟩
theorem w_387 : ((Jvm.Cond.methodLink "RadiusDecoder" (99 : Nat) ({ cls := "RadiusDecoder", name := "isInMessage", desc := "(I)Z" } : Jvm.MethodName))) ∈ WS := List.mem_filter.mpr ⟨List.mem_of_getElem? (i := 387) (by decide +kernel), by decide +kernel⟩
theorem w_389 : ((Jvm.Cond.instanceMethod ({ cls := "RadiusDecoder", name := "isInMessage", desc := "(I)Z" } : Jvm.MethodName))) ∈ WS := List.mem_filter.mpr ⟨List.mem_of_getElem? (i := 389) (by decide +kernel), by decide +kernel⟩
theorem w_390 : ((Jvm.Cond.code ({ cls := "RadiusDecoder", name := "isInMessage", desc := "(I)Z" } : Jvm.MethodName) prog_1_method_25_code (2 : Nat) (Option.some Jvm.ClassFile.FieldType.boolean))) ∈ WS := List.mem_filter.mpr ⟨List.mem_of_getElem? (i := 390) (by decide +kernel), by decide +kernel⟩
theorem w_391 : ((Jvm.Cond.methodLink "RadiusDecoderLaw" (41 : Nat) ({ cls := "RadiusDecoder", name := "encode", desc := "(Z)I" } : Jvm.MethodName))) ∈ WS := List.mem_filter.mpr ⟨List.mem_of_getElem? (i := 391) (by decide +kernel), by decide +kernel⟩
theorem w_392 : ((Jvm.Cond.instanceMethod ({ cls := "RadiusDecoder", name := "encode", desc := "(Z)I" } : Jvm.MethodName))) ∈ WS := List.mem_filter.mpr ⟨List.mem_of_getElem? (i := 392) (by decide +kernel), by decide +kernel⟩
theorem w_393 : ((Jvm.Cond.selects "RadiusDecoder" ({ cls := "RadiusDecoder", name := "encode", desc := "(Z)I" } : Jvm.MethodName) ({ cls := "RadiusDecoder", name := "encode", desc := "(Z)I" } : Jvm.MethodName))) ∈ WS := List.mem_filter.mpr ⟨List.mem_of_getElem? (i := 393) (by decide +kernel), by decide +kernel⟩
theorem w_394 : ((Jvm.Cond.code ({ cls := "RadiusDecoder", name := "encode", desc := "(Z)I" } : Jvm.MethodName) prog_1_method_8_code (6 : Nat) (Option.some Jvm.ClassFile.FieldType.int))) ∈ WS := List.mem_filter.mpr ⟨List.mem_of_getElem? (i := 394) (by decide +kernel), by decide +kernel⟩
theorem w_395 : ((Jvm.Cond.methodLink "RadiusDecoder" (112 : Nat) ({ cls := "RadiusDecoder$Code", name := "mixed", desc := "([[I[II)I" } : Jvm.MethodName))) ∈ WS := List.mem_filter.mpr ⟨List.mem_of_getElem? (i := 395) (by decide +kernel), by decide +kernel⟩
theorem w_396 : ((Jvm.Cond.instanceMethod ({ cls := "RadiusDecoder$Code", name := "mixed", desc := "([[I[II)I" } : Jvm.MethodName))) ∈ WS := List.mem_filter.mpr ⟨List.mem_of_getElem? (i := 396) (by decide +kernel), by decide +kernel⟩
theorem w_397 : ((Jvm.Cond.selects "RadiusDecoder$Code" ({ cls := "RadiusDecoder$Code", name := "mixed", desc := "([[I[II)I" } : Jvm.MethodName) ({ cls := "RadiusDecoder$Code", name := "mixed", desc := "([[I[II)I" } : Jvm.MethodName))) ∈ WS := List.mem_filter.mpr ⟨List.mem_of_getElem? (i := 397) (by decide +kernel), by decide +kernel⟩
theorem w_398 : ((Jvm.Cond.code ({ cls := "RadiusDecoder$Code", name := "mixed", desc := "([[I[II)I" } : Jvm.MethodName) prog_2_method_7_code (6 : Nat) (Option.some Jvm.ClassFile.FieldType.int))) ∈ WS := List.mem_filter.mpr ⟨List.mem_of_getElem? (i := 398) (by decide +kernel), by decide +kernel⟩
theorem w_399 : ((Jvm.Cond.methodLink "RadiusDecoder" (116 : Nat) ({ cls := "RadiusDecoder$Word", name := "put", desc := "(II)V" } : Jvm.MethodName))) ∈ WS := List.mem_filter.mpr ⟨List.mem_of_getElem? (i := 399) (by decide +kernel), by decide +kernel⟩
theorem w_400 : ((Jvm.Cond.instanceMethod ({ cls := "RadiusDecoder$Word", name := "put", desc := "(II)V" } : Jvm.MethodName))) ∈ WS := List.mem_filter.mpr ⟨List.mem_of_getElem? (i := 400) (by decide +kernel), by decide +kernel⟩
theorem w_401 : ((Jvm.Cond.selects "RadiusDecoder$Word" ({ cls := "RadiusDecoder$Word", name := "put", desc := "(II)V" } : Jvm.MethodName) ({ cls := "RadiusDecoder$Word", name := "put", desc := "(II)V" } : Jvm.MethodName))) ∈ WS := List.mem_filter.mpr ⟨List.mem_of_getElem? (i := 401) (by decide +kernel), by decide +kernel⟩
theorem w_402 : ((Jvm.Cond.code ({ cls := "RadiusDecoder$Word", name := "put", desc := "(II)V" } : Jvm.MethodName) prog_7_method_3_code (3 : Nat) (Option.none : Option Jvm.ClassFile.FieldType))) ∈ WS := List.mem_filter.mpr ⟨List.mem_of_getElem? (i := 402) (by decide +kernel), by decide +kernel⟩
theorem w_403 : ((Jvm.Cond.methodLink "RadiusDecoderLaw" (46 : Nat) ({ cls := "RadiusDecoder", name := "receive", desc := "(II)Z" } : Jvm.MethodName))) ∈ WS := List.mem_filter.mpr ⟨List.mem_of_getElem? (i := 403) (by decide +kernel), by decide +kernel⟩
theorem w_404 : ((Jvm.Cond.instanceMethod ({ cls := "RadiusDecoder", name := "receive", desc := "(II)Z" } : Jvm.MethodName))) ∈ WS := List.mem_filter.mpr ⟨List.mem_of_getElem? (i := 404) (by decide +kernel), by decide +kernel⟩
theorem w_405 : ((Jvm.Cond.selects "RadiusDecoder" ({ cls := "RadiusDecoder", name := "receive", desc := "(II)Z" } : Jvm.MethodName) ({ cls := "RadiusDecoder", name := "receive", desc := "(II)Z" } : Jvm.MethodName))) ∈ WS := List.mem_filter.mpr ⟨List.mem_of_getElem? (i := 405) (by decide +kernel), by decide +kernel⟩
theorem w_406 : ((Jvm.Cond.code ({ cls := "RadiusDecoder", name := "receive", desc := "(II)Z" } : Jvm.MethodName) prog_1_method_9_code (3 : Nat) (Option.some Jvm.ClassFile.FieldType.boolean))) ∈ WS := List.mem_filter.mpr ⟨List.mem_of_getElem? (i := 406) (by decide +kernel), by decide +kernel⟩
theorem w_407 : ((Jvm.Cond.methodLink "RadiusDecoder" (120 : Nat) ({ cls := "RadiusDecoder", name := "isPlace", desc := "(I)Z" } : Jvm.MethodName))) ∈ WS := List.mem_filter.mpr ⟨List.mem_of_getElem? (i := 407) (by decide +kernel), by decide +kernel⟩
theorem w_409 : ((Jvm.Cond.instanceMethod ({ cls := "RadiusDecoder", name := "isPlace", desc := "(I)Z" } : Jvm.MethodName))) ∈ WS := List.mem_filter.mpr ⟨List.mem_of_getElem? (i := 409) (by decide +kernel), by decide +kernel⟩
theorem w_410 : ((Jvm.Cond.code ({ cls := "RadiusDecoder", name := "isPlace", desc := "(I)Z" } : Jvm.MethodName) prog_1_method_24_code (2 : Nat) (Option.some Jvm.ClassFile.FieldType.boolean))) ∈ WS := List.mem_filter.mpr ⟨List.mem_of_getElem? (i := 410) (by decide +kernel), by decide +kernel⟩
theorem w_411 : ((Jvm.Cond.methodLink "RadiusDecoderLaw" (50 : Nat) ({ cls := "RadiusDecoder", name := "erase", desc := "(I)Z" } : Jvm.MethodName))) ∈ WS := List.mem_filter.mpr ⟨List.mem_of_getElem? (i := 411) (by decide +kernel), by decide +kernel⟩
theorem w_412 : ((Jvm.Cond.instanceMethod ({ cls := "RadiusDecoder", name := "erase", desc := "(I)Z" } : Jvm.MethodName))) ∈ WS := List.mem_filter.mpr ⟨List.mem_of_getElem? (i := 412) (by decide +kernel), by decide +kernel⟩
theorem w_413 : ((Jvm.Cond.selects "RadiusDecoder" ({ cls := "RadiusDecoder", name := "erase", desc := "(I)Z" } : Jvm.MethodName) ({ cls := "RadiusDecoder", name := "erase", desc := "(I)Z" } : Jvm.MethodName))) ∈ WS := List.mem_filter.mpr ⟨List.mem_of_getElem? (i := 413) (by decide +kernel), by decide +kernel⟩
theorem w_414 : ((Jvm.Cond.code ({ cls := "RadiusDecoder", name := "erase", desc := "(I)Z" } : Jvm.MethodName) prog_1_method_10_code (2 : Nat) (Option.some Jvm.ClassFile.FieldType.boolean))) ∈ WS := List.mem_filter.mpr ⟨List.mem_of_getElem? (i := 414) (by decide +kernel), by decide +kernel⟩
theorem w_415 : ((Jvm.Cond.methodLink "RadiusDecoder" (127 : Nat) ({ cls := "RadiusDecoder$Word", name := "strike", desc := "(I)V" } : Jvm.MethodName))) ∈ WS := List.mem_filter.mpr ⟨List.mem_of_getElem? (i := 415) (by decide +kernel), by decide +kernel⟩
theorem w_416 : ((Jvm.Cond.instanceMethod ({ cls := "RadiusDecoder$Word", name := "strike", desc := "(I)V" } : Jvm.MethodName))) ∈ WS := List.mem_filter.mpr ⟨List.mem_of_getElem? (i := 416) (by decide +kernel), by decide +kernel⟩
theorem w_417 : ((Jvm.Cond.selects "RadiusDecoder$Word" ({ cls := "RadiusDecoder$Word", name := "strike", desc := "(I)V" } : Jvm.MethodName) ({ cls := "RadiusDecoder$Word", name := "strike", desc := "(I)V" } : Jvm.MethodName))) ∈ WS := List.mem_filter.mpr ⟨List.mem_of_getElem? (i := 417) (by decide +kernel), by decide +kernel⟩
theorem w_418 : ((Jvm.Cond.code ({ cls := "RadiusDecoder$Word", name := "strike", desc := "(I)V" } : Jvm.MethodName) prog_7_method_4_code (2 : Nat) (Option.none : Option Jvm.ClassFile.FieldType))) ∈ WS := List.mem_filter.mpr ⟨List.mem_of_getElem? (i := 418) (by decide +kernel), by decide +kernel⟩
theorem w_419 : ((Jvm.Cond.methodLink "RadiusDecoderLaw" (55 : Nat) ({ cls := "RadiusDecoder", name := "word", desc := "(I)I" } : Jvm.MethodName))) ∈ WS := List.mem_filter.mpr ⟨List.mem_of_getElem? (i := 419) (by decide +kernel), by decide +kernel⟩
theorem w_420 : ((Jvm.Cond.instanceMethod ({ cls := "RadiusDecoder", name := "word", desc := "(I)I" } : Jvm.MethodName))) ∈ WS := List.mem_filter.mpr ⟨List.mem_of_getElem? (i := 420) (by decide +kernel), by decide +kernel⟩
theorem w_421 : ((Jvm.Cond.selects "RadiusDecoder" ({ cls := "RadiusDecoder", name := "word", desc := "(I)I" } : Jvm.MethodName) ({ cls := "RadiusDecoder", name := "word", desc := "(I)I" } : Jvm.MethodName))) ∈ WS := List.mem_filter.mpr ⟨List.mem_of_getElem? (i := 421) (by decide +kernel), by decide +kernel⟩
theorem w_422 : ((Jvm.Cond.code ({ cls := "RadiusDecoder", name := "word", desc := "(I)I" } : Jvm.MethodName) prog_1_method_11_code (2 : Nat) (Option.some Jvm.ClassFile.FieldType.int))) ∈ WS := List.mem_filter.mpr ⟨List.mem_of_getElem? (i := 422) (by decide +kernel), by decide +kernel⟩
theorem w_423 : ((Jvm.Cond.methodLink "RadiusDecoderLaw" (59 : Nat) ({ cls := "RadiusDecoder", name := "syndrome", desc := "(I)I" } : Jvm.MethodName))) ∈ WS := List.mem_filter.mpr ⟨List.mem_of_getElem? (i := 423) (by decide +kernel), by decide +kernel⟩
theorem w_424 : ((Jvm.Cond.instanceMethod ({ cls := "RadiusDecoder", name := "syndrome", desc := "(I)I" } : Jvm.MethodName))) ∈ WS := List.mem_filter.mpr ⟨List.mem_of_getElem? (i := 424) (by decide +kernel), by decide +kernel⟩
theorem w_425 : ((Jvm.Cond.selects "RadiusDecoder" ({ cls := "RadiusDecoder", name := "syndrome", desc := "(I)I" } : Jvm.MethodName) ({ cls := "RadiusDecoder", name := "syndrome", desc := "(I)I" } : Jvm.MethodName))) ∈ WS := List.mem_filter.mpr ⟨List.mem_of_getElem? (i := 425) (by decide +kernel), by decide +kernel⟩
theorem w_426 : ((Jvm.Cond.code ({ cls := "RadiusDecoder", name := "syndrome", desc := "(I)I" } : Jvm.MethodName) prog_1_method_12_code (5 : Nat) (Option.some Jvm.ClassFile.FieldType.int))) ∈ WS := List.mem_filter.mpr ⟨List.mem_of_getElem? (i := 426) (by decide +kernel), by decide +kernel⟩
theorem w_427 : ((Jvm.Cond.methodLink "RadiusDecoder" (142 : Nat) ({ cls := "RadiusDecoder$Field", name := "power", desc := "(II)I" } : Jvm.MethodName))) ∈ WS := List.mem_filter.mpr ⟨List.mem_of_getElem? (i := 427) (by decide +kernel), by decide +kernel⟩
theorem w_428 : ((Jvm.Cond.methodLink "RadiusDecoderLaw" (63 : Nat) ({ cls := "RadiusDecoder", name := "decode", desc := "(Z)I" } : Jvm.MethodName))) ∈ WS := List.mem_filter.mpr ⟨List.mem_of_getElem? (i := 428) (by decide +kernel), by decide +kernel⟩
theorem w_429 : ((Jvm.Cond.instanceMethod ({ cls := "RadiusDecoder", name := "decode", desc := "(Z)I" } : Jvm.MethodName))) ∈ WS := List.mem_filter.mpr ⟨List.mem_of_getElem? (i := 429) (by decide +kernel), by decide +kernel⟩
theorem w_430 : ((Jvm.Cond.selects "RadiusDecoder" ({ cls := "RadiusDecoder", name := "decode", desc := "(Z)I" } : Jvm.MethodName) ({ cls := "RadiusDecoder", name := "decode", desc := "(Z)I" } : Jvm.MethodName))) ∈ WS := List.mem_filter.mpr ⟨List.mem_of_getElem? (i := 430) (by decide +kernel), by decide +kernel⟩
theorem w_431 : ((Jvm.Cond.code ({ cls := "RadiusDecoder", name := "decode", desc := "(Z)I" } : Jvm.MethodName) prog_1_method_13_code (2 : Nat) (Option.some Jvm.ClassFile.FieldType.int))) ∈ WS := List.mem_filter.mpr ⟨List.mem_of_getElem? (i := 431) (by decide +kernel), by decide +kernel⟩
theorem w_432 : ((Jvm.Cond.methodLink "RadiusDecoder" (145 : Nat) ({ cls := "RadiusDecoder", name := "isErasedTooMuch", desc := "()Z" } : Jvm.MethodName))) ∈ WS := List.mem_filter.mpr ⟨List.mem_of_getElem? (i := 432) (by decide +kernel), by decide +kernel⟩
theorem w_434 : ((Jvm.Cond.instanceMethod ({ cls := "RadiusDecoder", name := "isErasedTooMuch", desc := "()Z" } : Jvm.MethodName))) ∈ WS := List.mem_filter.mpr ⟨List.mem_of_getElem? (i := 434) (by decide +kernel), by decide +kernel⟩
theorem w_435 : ((Jvm.Cond.code ({ cls := "RadiusDecoder", name := "isErasedTooMuch", desc := "()Z" } : Jvm.MethodName) prog_1_method_27_code (1 : Nat) (Option.some Jvm.ClassFile.FieldType.boolean))) ∈ WS := List.mem_filter.mpr ⟨List.mem_of_getElem? (i := 435) (by decide +kernel), by decide +kernel⟩
theorem w_436 : ((Jvm.Cond.methodLink "RadiusDecoder" (149 : Nat) ({ cls := "RadiusDecoder", name := "half", desc := "()I" } : Jvm.MethodName))) ∈ WS := List.mem_filter.mpr ⟨List.mem_of_getElem? (i := 436) (by decide +kernel), by decide +kernel⟩
theorem w_438 : ((Jvm.Cond.instanceMethod ({ cls := "RadiusDecoder", name := "half", desc := "()I" } : Jvm.MethodName))) ∈ WS := List.mem_filter.mpr ⟨List.mem_of_getElem? (i := 438) (by decide +kernel), by decide +kernel⟩
theorem w_439 : ((Jvm.Cond.code ({ cls := "RadiusDecoder", name := "half", desc := "()I" } : Jvm.MethodName) prog_1_method_28_code (1 : Nat) (Option.some Jvm.ClassFile.FieldType.int))) ∈ WS := List.mem_filter.mpr ⟨List.mem_of_getElem? (i := 439) (by decide +kernel), by decide +kernel⟩
theorem w_440 : ((Jvm.Cond.methodLink "RadiusDecoder" (153 : Nat) ({ cls := "RadiusDecoder$Search", name := "find", desc := "(ILRadiusDecoder$Finds;)V" } : Jvm.MethodName))) ∈ WS := List.mem_filter.mpr ⟨List.mem_of_getElem? (i := 440) (by decide +kernel), by decide +kernel⟩
theorem w_441 : ((Jvm.Cond.instanceMethod ({ cls := "RadiusDecoder$Search", name := "find", desc := "(ILRadiusDecoder$Finds;)V" } : Jvm.MethodName))) ∈ WS := List.mem_filter.mpr ⟨List.mem_of_getElem? (i := 441) (by decide +kernel), by decide +kernel⟩
theorem w_442 : ((Jvm.Cond.selects "RadiusDecoder$Search" ({ cls := "RadiusDecoder$Search", name := "find", desc := "(ILRadiusDecoder$Finds;)V" } : Jvm.MethodName) ({ cls := "RadiusDecoder$Search", name := "find", desc := "(ILRadiusDecoder$Finds;)V" } : Jvm.MethodName))) ∈ WS := List.mem_filter.mpr ⟨List.mem_of_getElem? (i := 442) (by decide +kernel), by decide +kernel⟩
theorem w_443 : ((Jvm.Cond.code ({ cls := "RadiusDecoder$Search", name := "find", desc := "(ILRadiusDecoder$Finds;)V" } : Jvm.MethodName) prog_6_method_2_code (8 : Nat) (Option.none : Option Jvm.ClassFile.FieldType))) ∈ WS := List.mem_filter.mpr ⟨List.mem_of_getElem? (i := 443) (by decide +kernel), by decide +kernel⟩
theorem w_444 : ((Jvm.Cond.methodLink "RadiusDecoder$Search" (46 : Nat) ({ cls := "RadiusDecoder$Search", name := "setStart", desc := "(II)V" } : Jvm.MethodName))) ∈ WS := List.mem_filter.mpr ⟨List.mem_of_getElem? (i := 444) (by decide +kernel), by decide +kernel⟩
theorem w_446 : ((Jvm.Cond.instanceMethod ({ cls := "RadiusDecoder$Search", name := "setStart", desc := "(II)V" } : Jvm.MethodName))) ∈ WS := List.mem_filter.mpr ⟨List.mem_of_getElem? (i := 446) (by decide +kernel), by decide +kernel⟩
theorem w_447 : ((Jvm.Cond.code ({ cls := "RadiusDecoder$Search", name := "setStart", desc := "(II)V" } : Jvm.MethodName) prog_6_method_3_code (5 : Nat) (Option.none : Option Jvm.ClassFile.FieldType))) ∈ WS := List.mem_filter.mpr ⟨List.mem_of_getElem? (i := 447) (by decide +kernel), by decide +kernel⟩
theorem w_448 : ((Jvm.Cond.methodLink "RadiusDecoder$Search" (50 : Nat) ({ cls := "RadiusDecoder$Search", name := "countVotes", desc := "(I)V" } : Jvm.MethodName))) ∈ WS := List.mem_filter.mpr ⟨List.mem_of_getElem? (i := 448) (by decide +kernel), by decide +kernel⟩
theorem w_450 : ((Jvm.Cond.instanceMethod ({ cls := "RadiusDecoder$Search", name := "countVotes", desc := "(I)V" } : Jvm.MethodName))) ∈ WS := List.mem_filter.mpr ⟨List.mem_of_getElem? (i := 450) (by decide +kernel), by decide +kernel⟩
theorem w_451 : ((Jvm.Cond.code ({ cls := "RadiusDecoder$Search", name := "countVotes", desc := "(I)V" } : Jvm.MethodName) prog_6_method_4_code (5 : Nat) (Option.none : Option Jvm.ClassFile.FieldType))) ∈ WS := List.mem_filter.mpr ⟨List.mem_of_getElem? (i := 451) (by decide +kernel), by decide +kernel⟩
theorem w_452 : ((Jvm.Cond.methodLink "RadiusDecoder$Search" (83 : Nat) ({ cls := "RadiusDecoder$Code", name := "mixed", desc := "([[I[II)I" } : Jvm.MethodName))) ∈ WS := List.mem_filter.mpr ⟨List.mem_of_getElem? (i := 452) (by decide +kernel), by decide +kernel⟩
theorem w_453 : ((Jvm.Cond.methodLink "RadiusDecoder$Search" (87 : Nat) ({ cls := "RadiusDecoder$Field", name := "quotient", desc := "(II)I" } : Jvm.MethodName))) ∈ WS := List.mem_filter.mpr ⟨List.mem_of_getElem? (i := 453) (by decide +kernel), by decide +kernel⟩
theorem w_454 : ((Jvm.Cond.methodLink "RadiusDecoder$Search" (65 : Nat) ({ cls := "RadiusDecoder$Finds", name := "add", desc := "([II)V" } : Jvm.MethodName))) ∈ WS := List.mem_filter.mpr ⟨List.mem_of_getElem? (i := 454) (by decide +kernel), by decide +kernel⟩
theorem w_455 : ((Jvm.Cond.instanceMethod ({ cls := "RadiusDecoder$Finds", name := "add", desc := "([II)V" } : Jvm.MethodName))) ∈ WS := List.mem_filter.mpr ⟨List.mem_of_getElem? (i := 455) (by decide +kernel), by decide +kernel⟩
theorem w_456 : ((Jvm.Cond.selects "RadiusDecoder$Finds" ({ cls := "RadiusDecoder$Finds", name := "add", desc := "([II)V" } : Jvm.MethodName) ({ cls := "RadiusDecoder$Finds", name := "add", desc := "([II)V" } : Jvm.MethodName))) ∈ WS := List.mem_filter.mpr ⟨List.mem_of_getElem? (i := 456) (by decide +kernel), by decide +kernel⟩
theorem w_457 : ((Jvm.Cond.code ({ cls := "RadiusDecoder$Finds", name := "add", desc := "([II)V" } : Jvm.MethodName) prog_4_method_3_code (4 : Nat) (Option.none : Option Jvm.ClassFile.FieldType))) ∈ WS := List.mem_filter.mpr ⟨List.mem_of_getElem? (i := 457) (by decide +kernel), by decide +kernel⟩
theorem w_458 : ((Jvm.Cond.methodLink "RadiusDecoder$Finds" (36 : Nat) ({ cls := "RadiusDecoder$Code", name := "mixed", desc := "([[I[II)I" } : Jvm.MethodName))) ∈ WS := List.mem_filter.mpr ⟨List.mem_of_getElem? (i := 458) (by decide +kernel), by decide +kernel⟩
theorem w_459 : ((Jvm.Cond.methodLink "RadiusDecoder" (160 : Nat) ({ cls := "RadiusDecoder", name := "locateWrongPlaces", desc := "()V" } : Jvm.MethodName))) ∈ WS := List.mem_filter.mpr ⟨List.mem_of_getElem? (i := 459) (by decide +kernel), by decide +kernel⟩
theorem w_461 : ((Jvm.Cond.instanceMethod ({ cls := "RadiusDecoder", name := "locateWrongPlaces", desc := "()V" } : Jvm.MethodName))) ∈ WS := List.mem_filter.mpr ⟨List.mem_of_getElem? (i := 461) (by decide +kernel), by decide +kernel⟩
theorem w_462 : ((Jvm.Cond.code ({ cls := "RadiusDecoder", name := "locateWrongPlaces", desc := "()V" } : Jvm.MethodName) prog_1_method_31_code (3 : Nat) (Option.none : Option Jvm.ClassFile.FieldType))) ∈ WS := List.mem_filter.mpr ⟨List.mem_of_getElem? (i := 462) (by decide +kernel), by decide +kernel⟩
theorem w_463 : ((Jvm.Cond.methodLink "RadiusDecoderLaw" (67 : Nat) ({ cls := "RadiusDecoder", name := "decoded", desc := "(I)I" } : Jvm.MethodName))) ∈ WS := List.mem_filter.mpr ⟨List.mem_of_getElem? (i := 463) (by decide +kernel), by decide +kernel⟩
theorem w_464 : ((Jvm.Cond.instanceMethod ({ cls := "RadiusDecoder", name := "decoded", desc := "(I)I" } : Jvm.MethodName))) ∈ WS := List.mem_filter.mpr ⟨List.mem_of_getElem? (i := 464) (by decide +kernel), by decide +kernel⟩
theorem w_465 : ((Jvm.Cond.selects "RadiusDecoder" ({ cls := "RadiusDecoder", name := "decoded", desc := "(I)I" } : Jvm.MethodName) ({ cls := "RadiusDecoder", name := "decoded", desc := "(I)I" } : Jvm.MethodName))) ∈ WS := List.mem_filter.mpr ⟨List.mem_of_getElem? (i := 465) (by decide +kernel), by decide +kernel⟩
theorem w_466 : ((Jvm.Cond.code ({ cls := "RadiusDecoder", name := "decoded", desc := "(I)I" } : Jvm.MethodName) prog_1_method_14_code (2 : Nat) (Option.some Jvm.ClassFile.FieldType.int))) ∈ WS := List.mem_filter.mpr ⟨List.mem_of_getElem? (i := 466) (by decide +kernel), by decide +kernel⟩
theorem w_467 : ((Jvm.Cond.methodLink "RadiusDecoderLaw" (71 : Nat) ({ cls := "RadiusDecoder", name := "sent", desc := "(I)I" } : Jvm.MethodName))) ∈ WS := List.mem_filter.mpr ⟨List.mem_of_getElem? (i := 467) (by decide +kernel), by decide +kernel⟩
theorem w_468 : ((Jvm.Cond.instanceMethod ({ cls := "RadiusDecoder", name := "sent", desc := "(I)I" } : Jvm.MethodName))) ∈ WS := List.mem_filter.mpr ⟨List.mem_of_getElem? (i := 468) (by decide +kernel), by decide +kernel⟩
theorem w_469 : ((Jvm.Cond.selects "RadiusDecoder" ({ cls := "RadiusDecoder", name := "sent", desc := "(I)I" } : Jvm.MethodName) ({ cls := "RadiusDecoder", name := "sent", desc := "(I)I" } : Jvm.MethodName))) ∈ WS := List.mem_filter.mpr ⟨List.mem_of_getElem? (i := 469) (by decide +kernel), by decide +kernel⟩
theorem w_470 : ((Jvm.Cond.code ({ cls := "RadiusDecoder", name := "sent", desc := "(I)I" } : Jvm.MethodName) prog_1_method_15_code (2 : Nat) (Option.some Jvm.ClassFile.FieldType.int))) ∈ WS := List.mem_filter.mpr ⟨List.mem_of_getElem? (i := 470) (by decide +kernel), by decide +kernel⟩
theorem w_471 : ((Jvm.Cond.methodLink "RadiusDecoder" (169 : Nat) ({ cls := "RadiusDecoder$Code", name := "toldBy", desc := "([II)I" } : Jvm.MethodName))) ∈ WS := List.mem_filter.mpr ⟨List.mem_of_getElem? (i := 471) (by decide +kernel), by decide +kernel⟩
theorem w_472 : ((Jvm.Cond.instanceMethod ({ cls := "RadiusDecoder$Code", name := "toldBy", desc := "([II)I" } : Jvm.MethodName))) ∈ WS := List.mem_filter.mpr ⟨List.mem_of_getElem? (i := 472) (by decide +kernel), by decide +kernel⟩
theorem w_473 : ((Jvm.Cond.selects "RadiusDecoder$Code" ({ cls := "RadiusDecoder$Code", name := "toldBy", desc := "([II)I" } : Jvm.MethodName) ({ cls := "RadiusDecoder$Code", name := "toldBy", desc := "([II)I" } : Jvm.MethodName))) ∈ WS := List.mem_filter.mpr ⟨List.mem_of_getElem? (i := 473) (by decide +kernel), by decide +kernel⟩
theorem w_474 : ((Jvm.Cond.code ({ cls := "RadiusDecoder$Code", name := "toldBy", desc := "([II)I" } : Jvm.MethodName) prog_2_method_8_code (3 : Nat) (Option.some Jvm.ClassFile.FieldType.int))) ∈ WS := List.mem_filter.mpr ⟨List.mem_of_getElem? (i := 474) (by decide +kernel), by decide +kernel⟩
theorem w_475 : ((Jvm.Cond.methodLink "RadiusDecoder$Code" (88 : Nat) ({ cls := "RadiusDecoder$Code", name := "mixed", desc := "([[I[II)I" } : Jvm.MethodName))) ∈ WS := List.mem_filter.mpr ⟨List.mem_of_getElem? (i := 475) (by decide +kernel), by decide +kernel⟩
theorem w_476 : ((Jvm.Cond.methodLink "RadiusDecoderLaw" (75 : Nat) ({ cls := "RadiusDecoder", name := "locator", desc := "(I)I" } : Jvm.MethodName))) ∈ WS := List.mem_filter.mpr ⟨List.mem_of_getElem? (i := 476) (by decide +kernel), by decide +kernel⟩
theorem w_477 : ((Jvm.Cond.instanceMethod ({ cls := "RadiusDecoder", name := "locator", desc := "(I)I" } : Jvm.MethodName))) ∈ WS := List.mem_filter.mpr ⟨List.mem_of_getElem? (i := 477) (by decide +kernel), by decide +kernel⟩
theorem w_478 : ((Jvm.Cond.selects "RadiusDecoder" ({ cls := "RadiusDecoder", name := "locator", desc := "(I)I" } : Jvm.MethodName) ({ cls := "RadiusDecoder", name := "locator", desc := "(I)I" } : Jvm.MethodName))) ∈ WS := List.mem_filter.mpr ⟨List.mem_of_getElem? (i := 478) (by decide +kernel), by decide +kernel⟩
theorem w_479 : ((Jvm.Cond.code ({ cls := "RadiusDecoder", name := "locator", desc := "(I)I" } : Jvm.MethodName) prog_1_method_16_code (2 : Nat) (Option.some Jvm.ClassFile.FieldType.int))) ∈ WS := List.mem_filter.mpr ⟨List.mem_of_getElem? (i := 479) (by decide +kernel), by decide +kernel⟩
theorem w_480 : ((Jvm.Cond.methodLink "RadiusDecoderLaw" (79 : Nat) ({ cls := "RadiusDecoder", name := "list", desc := "(I)I" } : Jvm.MethodName))) ∈ WS := List.mem_filter.mpr ⟨List.mem_of_getElem? (i := 480) (by decide +kernel), by decide +kernel⟩
theorem w_481 : ((Jvm.Cond.instanceMethod ({ cls := "RadiusDecoder", name := "list", desc := "(I)I" } : Jvm.MethodName))) ∈ WS := List.mem_filter.mpr ⟨List.mem_of_getElem? (i := 481) (by decide +kernel), by decide +kernel⟩
theorem w_482 : ((Jvm.Cond.selects "RadiusDecoder" ({ cls := "RadiusDecoder", name := "list", desc := "(I)I" } : Jvm.MethodName) ({ cls := "RadiusDecoder", name := "list", desc := "(I)I" } : Jvm.MethodName))) ∈ WS := List.mem_filter.mpr ⟨List.mem_of_getElem? (i := 482) (by decide +kernel), by decide +kernel⟩
theorem w_483 : ((Jvm.Cond.code ({ cls := "RadiusDecoder", name := "list", desc := "(I)I" } : Jvm.MethodName) prog_1_method_17_code (2 : Nat) (Option.some Jvm.ClassFile.FieldType.int))) ∈ WS := List.mem_filter.mpr ⟨List.mem_of_getElem? (i := 483) (by decide +kernel), by decide +kernel⟩
theorem w_484 : ((Jvm.Cond.methodLink "RadiusDecoder" (173 : Nat) ({ cls := "RadiusDecoder", name := "isTimes", desc := "(I)Z" } : Jvm.MethodName))) ∈ WS := List.mem_filter.mpr ⟨List.mem_of_getElem? (i := 484) (by decide +kernel), by decide +kernel⟩
theorem w_485 : ((Jvm.Cond.static ({ cls := "RadiusDecoder", name := "isTimes", desc := "(I)Z" } : Jvm.MethodName))) ∈ WS := List.mem_filter.mpr ⟨List.mem_of_getElem? (i := 485) (by decide +kernel), by decide +kernel⟩
theorem w_486 : ((Jvm.Cond.code ({ cls := "RadiusDecoder", name := "isTimes", desc := "(I)Z" } : Jvm.MethodName) prog_1_method_26_code (1 : Nat) (Option.some Jvm.ClassFile.FieldType.boolean))) ∈ WS := List.mem_filter.mpr ⟨List.mem_of_getElem? (i := 486) (by decide +kernel), by decide +kernel⟩
theorem w_487 : ((Jvm.Cond.methodLink "RadiusDecoder" (176 : Nat) ({ cls := "RadiusDecoder", name := "radiusFor", desc := "(I)I" } : Jvm.MethodName))) ∈ WS := List.mem_filter.mpr ⟨List.mem_of_getElem? (i := 487) (by decide +kernel), by decide +kernel⟩
theorem w_489 : ((Jvm.Cond.instanceMethod ({ cls := "RadiusDecoder", name := "radiusFor", desc := "(I)I" } : Jvm.MethodName))) ∈ WS := List.mem_filter.mpr ⟨List.mem_of_getElem? (i := 489) (by decide +kernel), by decide +kernel⟩
theorem w_490 : ((Jvm.Cond.code ({ cls := "RadiusDecoder", name := "radiusFor", desc := "(I)I" } : Jvm.MethodName) prog_1_method_30_code (2 : Nat) (Option.some Jvm.ClassFile.FieldType.int))) ∈ WS := List.mem_filter.mpr ⟨List.mem_of_getElem? (i := 490) (by decide +kernel), by decide +kernel⟩
theorem w_491 : ((Jvm.Cond.methodLink "RadiusDecoder" (181 : Nat) ({ cls := "RadiusDecoder", name := "boundFor", desc := "(I)I" } : Jvm.MethodName))) ∈ WS := List.mem_filter.mpr ⟨List.mem_of_getElem? (i := 491) (by decide +kernel), by decide +kernel⟩
theorem w_493 : ((Jvm.Cond.instanceMethod ({ cls := "RadiusDecoder", name := "boundFor", desc := "(I)I" } : Jvm.MethodName))) ∈ WS := List.mem_filter.mpr ⟨List.mem_of_getElem? (i := 493) (by decide +kernel), by decide +kernel⟩
theorem w_494 : ((Jvm.Cond.code ({ cls := "RadiusDecoder", name := "boundFor", desc := "(I)I" } : Jvm.MethodName) prog_1_method_29_code (5 : Nat) (Option.some Jvm.ClassFile.FieldType.int))) ∈ WS := List.mem_filter.mpr ⟨List.mem_of_getElem? (i := 494) (by decide +kernel), by decide +kernel⟩
theorem w_495 : ((Jvm.Cond.methodLink "RadiusDecoder" (201 : Nat) ({ cls := "java/lang/Math", name := "max", desc := "(II)I" } : Jvm.MethodName))) ∈ WS := List.mem_filter.mpr ⟨List.mem_of_getElem? (i := 495) (by decide +kernel), by decide +kernel⟩
theorem w_496 : ((Jvm.Cond.static ({ cls := "java/lang/Math", name := "max", desc := "(II)I" } : Jvm.MethodName))) ∈ WS := List.mem_filter.mpr ⟨List.mem_of_getElem? (i := 496) (by decide +kernel), by decide +kernel⟩
theorem w_497 : ((Jvm.Cond.code ({ cls := "java/lang/Math", name := "max", desc := "(II)I" } : Jvm.MethodName) prog_10_method_65_code (2 : Nat) (Option.some Jvm.ClassFile.FieldType.int))) ∈ WS := List.mem_filter.mpr ⟨List.mem_of_getElem? (i := 497) (by decide +kernel), by decide +kernel⟩
theorem w_498 : ((Jvm.Cond.methodLink "RadiusDecoderLaw" (83 : Nat) ({ cls := "RadiusDecoder", name := "listed", desc := "(II)I" } : Jvm.MethodName))) ∈ WS := List.mem_filter.mpr ⟨List.mem_of_getElem? (i := 498) (by decide +kernel), by decide +kernel⟩
theorem w_499 : ((Jvm.Cond.instanceMethod ({ cls := "RadiusDecoder", name := "listed", desc := "(II)I" } : Jvm.MethodName))) ∈ WS := List.mem_filter.mpr ⟨List.mem_of_getElem? (i := 499) (by decide +kernel), by decide +kernel⟩
theorem w_500 : ((Jvm.Cond.selects "RadiusDecoder" ({ cls := "RadiusDecoder", name := "listed", desc := "(II)I" } : Jvm.MethodName) ({ cls := "RadiusDecoder", name := "listed", desc := "(II)I" } : Jvm.MethodName))) ∈ WS := List.mem_filter.mpr ⟨List.mem_of_getElem? (i := 500) (by decide +kernel), by decide +kernel⟩
theorem w_501 : ((Jvm.Cond.code ({ cls := "RadiusDecoder", name := "listed", desc := "(II)I" } : Jvm.MethodName) prog_1_method_18_code (3 : Nat) (Option.some Jvm.ClassFile.FieldType.int))) ∈ WS := List.mem_filter.mpr ⟨List.mem_of_getElem? (i := 501) (by decide +kernel), by decide +kernel⟩
theorem w_502 : ((Jvm.Cond.methodLink "RadiusDecoder" (180 : Nat) ({ cls := "RadiusDecoder$Finds", name := "has", desc := "(I)Z" } : Jvm.MethodName))) ∈ WS := List.mem_filter.mpr ⟨List.mem_of_getElem? (i := 502) (by decide +kernel), by decide +kernel⟩
theorem w_503 : ((Jvm.Cond.instanceMethod ({ cls := "RadiusDecoder$Finds", name := "has", desc := "(I)Z" } : Jvm.MethodName))) ∈ WS := List.mem_filter.mpr ⟨List.mem_of_getElem? (i := 503) (by decide +kernel), by decide +kernel⟩
theorem w_504 : ((Jvm.Cond.selects "RadiusDecoder$Finds" ({ cls := "RadiusDecoder$Finds", name := "has", desc := "(I)Z" } : Jvm.MethodName) ({ cls := "RadiusDecoder$Finds", name := "has", desc := "(I)Z" } : Jvm.MethodName))) ∈ WS := List.mem_filter.mpr ⟨List.mem_of_getElem? (i := 504) (by decide +kernel), by decide +kernel⟩
theorem w_505 : ((Jvm.Cond.code ({ cls := "RadiusDecoder$Finds", name := "has", desc := "(I)Z" } : Jvm.MethodName) prog_4_method_2_code (2 : Nat) (Option.some Jvm.ClassFile.FieldType.boolean))) ∈ WS := List.mem_filter.mpr ⟨List.mem_of_getElem? (i := 505) (by decide +kernel), by decide +kernel⟩
theorem w_506 : ((Jvm.Cond.methodLink "RadiusDecoderLaw" (87 : Nat) ({ cls := "RadiusDecoder", name := "distance", desc := "(I)I" } : Jvm.MethodName))) ∈ WS := List.mem_filter.mpr ⟨List.mem_of_getElem? (i := 506) (by decide +kernel), by decide +kernel⟩
theorem w_507 : ((Jvm.Cond.instanceMethod ({ cls := "RadiusDecoder", name := "distance", desc := "(I)I" } : Jvm.MethodName))) ∈ WS := List.mem_filter.mpr ⟨List.mem_of_getElem? (i := 507) (by decide +kernel), by decide +kernel⟩
theorem w_508 : ((Jvm.Cond.selects "RadiusDecoder" ({ cls := "RadiusDecoder", name := "distance", desc := "(I)I" } : Jvm.MethodName) ({ cls := "RadiusDecoder", name := "distance", desc := "(I)I" } : Jvm.MethodName))) ∈ WS := List.mem_filter.mpr ⟨List.mem_of_getElem? (i := 508) (by decide +kernel), by decide +kernel⟩
theorem w_509 : ((Jvm.Cond.code ({ cls := "RadiusDecoder", name := "distance", desc := "(I)I" } : Jvm.MethodName) prog_1_method_19_code (2 : Nat) (Option.some Jvm.ClassFile.FieldType.int))) ∈ WS := List.mem_filter.mpr ⟨List.mem_of_getElem? (i := 509) (by decide +kernel), by decide +kernel⟩
theorem w_510 : ((Jvm.Cond.methodLink "RadiusDecoderLaw" (91 : Nat) ({ cls := "RadiusDecoder", name := "radius", desc := "(I)I" } : Jvm.MethodName))) ∈ WS := List.mem_filter.mpr ⟨List.mem_of_getElem? (i := 510) (by decide +kernel), by decide +kernel⟩
theorem w_511 : ((Jvm.Cond.instanceMethod ({ cls := "RadiusDecoder", name := "radius", desc := "(I)I" } : Jvm.MethodName))) ∈ WS := List.mem_filter.mpr ⟨List.mem_of_getElem? (i := 511) (by decide +kernel), by decide +kernel⟩
theorem w_512 : ((Jvm.Cond.selects "RadiusDecoder" ({ cls := "RadiusDecoder", name := "radius", desc := "(I)I" } : Jvm.MethodName) ({ cls := "RadiusDecoder", name := "radius", desc := "(I)I" } : Jvm.MethodName))) ∈ WS := List.mem_filter.mpr ⟨List.mem_of_getElem? (i := 512) (by decide +kernel), by decide +kernel⟩
theorem w_513 : ((Jvm.Cond.code ({ cls := "RadiusDecoder", name := "radius", desc := "(I)I" } : Jvm.MethodName) prog_1_method_20_code (2 : Nat) (Option.some Jvm.ClassFile.FieldType.int))) ∈ WS := List.mem_filter.mpr ⟨List.mem_of_getElem? (i := 513) (by decide +kernel), by decide +kernel⟩
theorem w_514 : ((Jvm.Cond.methodLink "RadiusDecoderLaw" (95 : Nat) ({ cls := "RadiusDecoder", name := "weight", desc := "(I)I" } : Jvm.MethodName))) ∈ WS := List.mem_filter.mpr ⟨List.mem_of_getElem? (i := 514) (by decide +kernel), by decide +kernel⟩
theorem w_515 : ((Jvm.Cond.instanceMethod ({ cls := "RadiusDecoder", name := "weight", desc := "(I)I" } : Jvm.MethodName))) ∈ WS := List.mem_filter.mpr ⟨List.mem_of_getElem? (i := 515) (by decide +kernel), by decide +kernel⟩
theorem w_516 : ((Jvm.Cond.selects "RadiusDecoder" ({ cls := "RadiusDecoder", name := "weight", desc := "(I)I" } : Jvm.MethodName) ({ cls := "RadiusDecoder", name := "weight", desc := "(I)I" } : Jvm.MethodName))) ∈ WS := List.mem_filter.mpr ⟨List.mem_of_getElem? (i := 516) (by decide +kernel), by decide +kernel⟩
theorem w_517 : ((Jvm.Cond.code ({ cls := "RadiusDecoder", name := "weight", desc := "(I)I" } : Jvm.MethodName) prog_1_method_21_code (2 : Nat) (Option.some Jvm.ClassFile.FieldType.int))) ∈ WS := List.mem_filter.mpr ⟨List.mem_of_getElem? (i := 517) (by decide +kernel), by decide +kernel⟩
theorem w_518 : ((Jvm.Cond.methodLink "RadiusDecoder" (184 : Nat) ({ cls := "RadiusDecoder$Passing", name := "leastWeight", desc := "(II)I" } : Jvm.MethodName))) ∈ WS := List.mem_filter.mpr ⟨List.mem_of_getElem? (i := 518) (by decide +kernel), by decide +kernel⟩
theorem w_519 : ((Jvm.Cond.instanceMethod ({ cls := "RadiusDecoder$Passing", name := "leastWeight", desc := "(II)I" } : Jvm.MethodName))) ∈ WS := List.mem_filter.mpr ⟨List.mem_of_getElem? (i := 519) (by decide +kernel), by decide +kernel⟩
theorem w_520 : ((Jvm.Cond.selects "RadiusDecoder$Passing" ({ cls := "RadiusDecoder$Passing", name := "leastWeight", desc := "(II)I" } : Jvm.MethodName) ({ cls := "RadiusDecoder$Passing", name := "leastWeight", desc := "(II)I" } : Jvm.MethodName))) ∈ WS := List.mem_filter.mpr ⟨List.mem_of_getElem? (i := 520) (by decide +kernel), by decide +kernel⟩
theorem w_521 : ((Jvm.Cond.code ({ cls := "RadiusDecoder$Passing", name := "leastWeight", desc := "(II)I" } : Jvm.MethodName) prog_5_method_2_code (5 : Nat) (Option.some Jvm.ClassFile.FieldType.int))) ∈ WS := List.mem_filter.mpr ⟨List.mem_of_getElem? (i := 521) (by decide +kernel), by decide +kernel⟩
theorem w_522 : ((Jvm.Cond.methodLink "RadiusDecoder$Passing" (42 : Nat) ({ cls := "RadiusDecoder$Passing", name := "setPlaces", desc := "()V" } : Jvm.MethodName))) ∈ WS := List.mem_filter.mpr ⟨List.mem_of_getElem? (i := 522) (by decide +kernel), by decide +kernel⟩
theorem w_524 : ((Jvm.Cond.instanceMethod ({ cls := "RadiusDecoder$Passing", name := "setPlaces", desc := "()V" } : Jvm.MethodName))) ∈ WS := List.mem_filter.mpr ⟨List.mem_of_getElem? (i := 524) (by decide +kernel), by decide +kernel⟩
theorem w_525 : ((Jvm.Cond.code ({ cls := "RadiusDecoder$Passing", name := "setPlaces", desc := "()V" } : Jvm.MethodName) prog_5_method_3_code (2 : Nat) (Option.none : Option Jvm.ClassFile.FieldType))) ∈ WS := List.mem_filter.mpr ⟨List.mem_of_getElem? (i := 525) (by decide +kernel), by decide +kernel⟩
theorem w_526 : ((Jvm.Cond.methodLink "RadiusDecoder$Passing" (91 : Nat) ({ cls := "RadiusDecoder$Field", name := "quotient", desc := "(II)I" } : Jvm.MethodName))) ∈ WS := List.mem_filter.mpr ⟨List.mem_of_getElem? (i := 526) (by decide +kernel), by decide +kernel⟩
theorem w_527 : ((Jvm.Cond.methodLink "RadiusDecoder$Passing" (54 : Nat) ({ cls := "java/lang/Math", name := "min", desc := "(II)I" } : Jvm.MethodName))) ∈ WS := List.mem_filter.mpr ⟨List.mem_of_getElem? (i := 527) (by decide +kernel), by decide +kernel⟩
theorem w_528 : ((Jvm.Cond.methodLink "RadiusDecoder$Passing" (66 : Nat) ({ cls := "RadiusDecoder$Passing", name := "setValues", desc := "(III)V" } : Jvm.MethodName))) ∈ WS := List.mem_filter.mpr ⟨List.mem_of_getElem? (i := 528) (by decide +kernel), by decide +kernel⟩
theorem w_530 : ((Jvm.Cond.instanceMethod ({ cls := "RadiusDecoder$Passing", name := "setValues", desc := "(III)V" } : Jvm.MethodName))) ∈ WS := List.mem_filter.mpr ⟨List.mem_of_getElem? (i := 530) (by decide +kernel), by decide +kernel⟩
theorem w_531 : ((Jvm.Cond.code ({ cls := "RadiusDecoder$Passing", name := "setValues", desc := "(III)V" } : Jvm.MethodName) prog_5_method_4_code (8 : Nat) (Option.none : Option Jvm.ClassFile.FieldType))) ∈ WS := List.mem_filter.mpr ⟨List.mem_of_getElem? (i := 531) (by decide +kernel), by decide +kernel⟩
theorem w_532 : ((Jvm.Cond.methodLink "RadiusDecoder$Passing" (96 : Nat) ({ cls := "RadiusDecoder$Field", name := "power", desc := "(II)I" } : Jvm.MethodName))) ∈ WS := List.mem_filter.mpr ⟨List.mem_of_getElem? (i := 532) (by decide +kernel), by decide +kernel⟩
theorem w_533 : ((Jvm.Cond.methodLink "RadiusDecoder$Passing" (70 : Nat) ({ cls := "RadiusDecoder$Passing", name := "meet", desc := "(II)V" } : Jvm.MethodName))) ∈ WS := List.mem_filter.mpr ⟨List.mem_of_getElem? (i := 533) (by decide +kernel), by decide +kernel⟩
theorem w_535 : ((Jvm.Cond.instanceMethod ({ cls := "RadiusDecoder$Passing", name := "meet", desc := "(II)V" } : Jvm.MethodName))) ∈ WS := List.mem_filter.mpr ⟨List.mem_of_getElem? (i := 535) (by decide +kernel), by decide +kernel⟩
theorem w_536 : ((Jvm.Cond.code ({ cls := "RadiusDecoder$Passing", name := "meet", desc := "(II)V" } : Jvm.MethodName) prog_5_method_5_code (7 : Nat) (Option.none : Option Jvm.ClassFile.FieldType))) ∈ WS := List.mem_filter.mpr ⟨List.mem_of_getElem? (i := 536) (by decide +kernel), by decide +kernel⟩
theorem w_537 : ((Jvm.Cond.methodLink "RadiusDecoder$Passing" (99 : Nat) ({ cls := "RadiusDecoder$Passing", name := "failingLeast", desc := "(I)I" } : Jvm.MethodName))) ∈ WS := List.mem_filter.mpr ⟨List.mem_of_getElem? (i := 537) (by decide +kernel), by decide +kernel⟩
theorem w_539 : ((Jvm.Cond.instanceMethod ({ cls := "RadiusDecoder$Passing", name := "failingLeast", desc := "(I)I" } : Jvm.MethodName))) ∈ WS := List.mem_filter.mpr ⟨List.mem_of_getElem? (i := 539) (by decide +kernel), by decide +kernel⟩
theorem w_540 : ((Jvm.Cond.code ({ cls := "RadiusDecoder$Passing", name := "failingLeast", desc := "(I)I" } : Jvm.MethodName) prog_5_method_6_code (4 : Nat) (Option.some Jvm.ClassFile.FieldType.int))) ∈ WS := List.mem_filter.mpr ⟨List.mem_of_getElem? (i := 540) (by decide +kernel), by decide +kernel⟩
theorem w_541 : ((Jvm.Cond.methodLink "RadiusDecoder$Passing" (103 : Nat) ({ cls := "RadiusDecoder$Field", name := "addMultiple", desc := "([II[III)V" } : Jvm.MethodName))) ∈ WS := List.mem_filter.mpr ⟨List.mem_of_getElem? (i := 541) (by decide +kernel), by decide +kernel⟩
theorem w_542 : ((Jvm.Cond.methodLink "RadiusDecoder$Passing" (107 : Nat) ({ cls := "RadiusDecoder$Passing", name := "timesLinear", desc := "([II)V" } : Jvm.MethodName))) ∈ WS := List.mem_filter.mpr ⟨List.mem_of_getElem? (i := 542) (by decide +kernel), by decide +kernel⟩
theorem w_544 : ((Jvm.Cond.instanceMethod ({ cls := "RadiusDecoder$Passing", name := "timesLinear", desc := "([II)V" } : Jvm.MethodName))) ∈ WS := List.mem_filter.mpr ⟨List.mem_of_getElem? (i := 544) (by decide +kernel), by decide +kernel⟩
theorem w_545 : ((Jvm.Cond.code ({ cls := "RadiusDecoder$Passing", name := "timesLinear", desc := "([II)V" } : Jvm.MethodName) prog_5_method_7_code (7 : Nat) (Option.none : Option Jvm.ClassFile.FieldType))) ∈ WS := List.mem_filter.mpr ⟨List.mem_of_getElem? (i := 545) (by decide +kernel), by decide +kernel⟩
theorem w_546 : ((Jvm.Cond.methodLink "RadiusDecoder$Passing" (111 : Nat) ({ cls := "RadiusDecoder$Field", name := "product", desc := "(II)I" } : Jvm.MethodName))) ∈ WS := List.mem_filter.mpr ⟨List.mem_of_getElem? (i := 546) (by decide +kernel), by decide +kernel⟩
theorem w_547 : ((Jvm.Cond.classLink "RadiusDecoderLaw" (10 : Nat) "RadiusDecoderModel")) ∈ WS := List.mem_filter.mpr ⟨List.mem_of_getElem? (i := 547) (by decide +kernel), by decide +kernel⟩
theorem w_548 : ((Jvm.Cond.instantiable "RadiusDecoderModel" (21 : Nat))) ∈ WS := List.mem_filter.mpr ⟨List.mem_of_getElem? (i := 548) (by decide +kernel), by decide +kernel⟩
theorem w_549 : ((Jvm.Cond.methodLink "RadiusDecoderLaw" (12 : Nat) ({ cls := "RadiusDecoderModel", name := "<init>", desc := "()V" } : Jvm.MethodName))) ∈ WS := List.mem_filter.mpr ⟨List.mem_of_getElem? (i := 549) (by decide +kernel), by decide +kernel⟩
theorem w_550 : ((Jvm.Cond.instanceMethod ({ cls := "RadiusDecoderModel", name := "<init>", desc := "()V" } : Jvm.MethodName))) ∈ WS := List.mem_filter.mpr ⟨List.mem_of_getElem? (i := 550) (by decide +kernel), by decide +kernel⟩
theorem w_551 : ((Jvm.Cond.code ({ cls := "RadiusDecoderModel", name := "<init>", desc := "()V" } : Jvm.MethodName) prog_9_method_1_code (1 : Nat) (Option.none : Option Jvm.ClassFile.FieldType))) ∈ WS := List.mem_filter.mpr ⟨List.mem_of_getElem? (i := 551) (by decide +kernel), by decide +kernel⟩
theorem w_552 : ((Jvm.Cond.methodLink "RadiusDecoderModel" (1 : Nat) ({ cls := "java/lang/Object", name := "<init>", desc := "()V" } : Jvm.MethodName))) ∈ WS := List.mem_filter.mpr ⟨List.mem_of_getElem? (i := 552) (by decide +kernel), by decide +kernel⟩
theorem w_553 : ((Jvm.Cond.methodLink "RadiusDecoderModel" (53 : Nat) ({ cls := "RadiusDecoderModel", name := "layField", desc := "(II)V" } : Jvm.MethodName))) ∈ WS := List.mem_filter.mpr ⟨List.mem_of_getElem? (i := 553) (by decide +kernel), by decide +kernel⟩
theorem w_555 : ((Jvm.Cond.instanceMethod ({ cls := "RadiusDecoderModel", name := "layField", desc := "(II)V" } : Jvm.MethodName))) ∈ WS := List.mem_filter.mpr ⟨List.mem_of_getElem? (i := 555) (by decide +kernel), by decide +kernel⟩
theorem w_556 : ((Jvm.Cond.code ({ cls := "RadiusDecoderModel", name := "layField", desc := "(II)V" } : Jvm.MethodName) prog_9_method_3_code (5 : Nat) (Option.none : Option Jvm.ClassFile.FieldType))) ∈ WS := List.mem_filter.mpr ⟨List.mem_of_getElem? (i := 556) (by decide +kernel), by decide +kernel⟩
theorem w_557 : ((Jvm.Cond.methodLink "RadiusDecoderModel" (68 : Nat) ({ cls := "RadiusDecoderModel", name := "rest", desc := "(IIII)I" } : Jvm.MethodName))) ∈ WS := List.mem_filter.mpr ⟨List.mem_of_getElem? (i := 557) (by decide +kernel), by decide +kernel⟩
theorem w_558 : ((Jvm.Cond.static ({ cls := "RadiusDecoderModel", name := "rest", desc := "(IIII)I" } : Jvm.MethodName))) ∈ WS := List.mem_filter.mpr ⟨List.mem_of_getElem? (i := 558) (by decide +kernel), by decide +kernel⟩
theorem w_559 : ((Jvm.Cond.code ({ cls := "RadiusDecoderModel", name := "rest", desc := "(IIII)I" } : Jvm.MethodName) prog_9_method_2_code (6 : Nat) (Option.some Jvm.ClassFile.FieldType.int))) ∈ WS := List.mem_filter.mpr ⟨List.mem_of_getElem? (i := 559) (by decide +kernel), by decide +kernel⟩
theorem w_560 : ((Jvm.Cond.methodLink "RadiusDecoderModel" (57 : Nat) ({ cls := "RadiusDecoderModel", name := "layCode", desc := "(III)V" } : Jvm.MethodName))) ∈ WS := List.mem_filter.mpr ⟨List.mem_of_getElem? (i := 560) (by decide +kernel), by decide +kernel⟩
theorem w_562 : ((Jvm.Cond.instanceMethod ({ cls := "RadiusDecoderModel", name := "layCode", desc := "(III)V" } : Jvm.MethodName))) ∈ WS := List.mem_filter.mpr ⟨List.mem_of_getElem? (i := 562) (by decide +kernel), by decide +kernel⟩
theorem w_563 : ((Jvm.Cond.code ({ cls := "RadiusDecoderModel", name := "layCode", desc := "(III)V" } : Jvm.MethodName) prog_9_method_12_code (6 : Nat) (Option.none : Option Jvm.ClassFile.FieldType))) ∈ WS := List.mem_filter.mpr ⟨List.mem_of_getElem? (i := 563) (by decide +kernel), by decide +kernel⟩
theorem w_564 : ((Jvm.Cond.fieldLink "RadiusDecoderModel" (61 : Nat) "RadiusDecoderModel" "m" "I")) ∈ WS := List.mem_filter.mpr ⟨List.mem_of_getElem? (i := 564) (by decide +kernel), by decide +kernel⟩
theorem w_565 : ((Jvm.Cond.fieldLink "RadiusDecoderModel" (65 : Nat) "RadiusDecoderModel" "elements" "I")) ∈ WS := List.mem_filter.mpr ⟨List.mem_of_getElem? (i := 565) (by decide +kernel), by decide +kernel⟩
theorem w_566 : ((Jvm.Cond.fieldLink "RadiusDecoderModel" (7 : Nat) "RadiusDecoderModel" "product" "[I")) ∈ WS := List.mem_filter.mpr ⟨List.mem_of_getElem? (i := 566) (by decide +kernel), by decide +kernel⟩
theorem w_567 : ((Jvm.Cond.fieldLink "RadiusDecoderModel" (13 : Nat) "RadiusDecoderModel" "point" "[I")) ∈ WS := List.mem_filter.mpr ⟨List.mem_of_getElem? (i := 567) (by decide +kernel), by decide +kernel⟩
theorem w_568 : ((Jvm.Cond.fieldLink "RadiusDecoderModel" (84 : Nat) "RadiusDecoderModel" "kind" "I")) ∈ WS := List.mem_filter.mpr ⟨List.mem_of_getElem? (i := 568) (by decide +kernel), by decide +kernel⟩
theorem w_569 : ((Jvm.Cond.fieldLink "RadiusDecoderModel" (87 : Nat) "RadiusDecoderModel" "n" "I")) ∈ WS := List.mem_filter.mpr ⟨List.mem_of_getElem? (i := 569) (by decide +kernel), by decide +kernel⟩
theorem w_570 : ((Jvm.Cond.fieldLink "RadiusDecoderModel" (90 : Nat) "RadiusDecoderModel" "k" "I")) ∈ WS := List.mem_filter.mpr ⟨List.mem_of_getElem? (i := 570) (by decide +kernel), by decide +kernel⟩
theorem w_571 : ((Jvm.Cond.fieldLink "RadiusDecoderModel" (16 : Nat) "RadiusDecoderModel" "g" "[I")) ∈ WS := List.mem_filter.mpr ⟨List.mem_of_getElem? (i := 571) (by decide +kernel), by decide +kernel⟩
theorem w_572 : ((Jvm.Cond.fieldLink "RadiusDecoderModel" (19 : Nat) "RadiusDecoderModel" "message" "[I")) ∈ WS := List.mem_filter.mpr ⟨List.mem_of_getElem? (i := 572) (by decide +kernel), by decide +kernel⟩
theorem w_573 : ((Jvm.Cond.fieldLink "RadiusDecoderModel" (22 : Nat) "RadiusDecoderModel" "word" "[I")) ∈ WS := List.mem_filter.mpr ⟨List.mem_of_getElem? (i := 573) (by decide +kernel), by decide +kernel⟩
theorem w_574 : ((Jvm.Cond.fieldLink "RadiusDecoderModel" (25 : Nat) "RadiusDecoderModel" "erased" "[Z")) ∈ WS := List.mem_filter.mpr ⟨List.mem_of_getElem? (i := 574) (by decide +kernel), by decide +kernel⟩
theorem w_575 : ((Jvm.Cond.fieldLink "RadiusDecoderModel" (29 : Nat) "RadiusDecoderModel" "row" "[I")) ∈ WS := List.mem_filter.mpr ⟨List.mem_of_getElem? (i := 575) (by decide +kernel), by decide +kernel⟩
theorem w_576 : ((Jvm.Cond.fieldLink "RadiusDecoderModel" (93 : Nat) "RadiusDecoderModel" "found" "I")) ∈ WS := List.mem_filter.mpr ⟨List.mem_of_getElem? (i := 576) (by decide +kernel), by decide +kernel⟩
theorem w_577 : ((Jvm.Cond.fieldLink "RadiusDecoderModel" (32 : Nat) "RadiusDecoderModel" "differs" "[Z")) ∈ WS := List.mem_filter.mpr ⟨List.mem_of_getElem? (i := 577) (by decide +kernel), by decide +kernel⟩
theorem w_578 : ((Jvm.Cond.fieldLink "RadiusDecoderModel" (35 : Nat) "RadiusDecoderModel" "locating" "[I")) ∈ WS := List.mem_filter.mpr ⟨List.mem_of_getElem? (i := 578) (by decide +kernel), by decide +kernel⟩
theorem w_579 : ((Jvm.Cond.fieldLink "RadiusDecoderModel" (96 : Nat) "RadiusDecoderModel" "listed" "I")) ∈ WS := List.mem_filter.mpr ⟨List.mem_of_getElem? (i := 579) (by decide +kernel), by decide +kernel⟩
theorem w_580 : ((Jvm.Cond.fieldLink "RadiusDecoderModel" (38 : Nat) "RadiusDecoderModel" "members" "[I")) ∈ WS := List.mem_filter.mpr ⟨List.mem_of_getElem? (i := 580) (by decide +kernel), by decide +kernel⟩
theorem w_581 : ((Jvm.Cond.fieldLink "RadiusDecoderModel" (41 : Nat) "RadiusDecoderModel" "distances" "[I")) ∈ WS := List.mem_filter.mpr ⟨List.mem_of_getElem? (i := 581) (by decide +kernel), by decide +kernel⟩
theorem w_582 : ((Jvm.Cond.fieldLink "RadiusDecoderModel" (44 : Nat) "RadiusDecoderModel" "reduced" "[I")) ∈ WS := List.mem_filter.mpr ⟨List.mem_of_getElem? (i := 582) (by decide +kernel), by decide +kernel⟩
theorem w_583 : ((Jvm.Cond.fieldLink "RadiusDecoderModel" (47 : Nat) "RadiusDecoderModel" "first" "[I")) ∈ WS := List.mem_filter.mpr ⟨List.mem_of_getElem? (i := 583) (by decide +kernel), by decide +kernel⟩
theorem w_584 : ((Jvm.Cond.fieldLink "RadiusDecoderModel" (50 : Nat) "RadiusDecoderModel" "term" "[I")) ∈ WS := List.mem_filter.mpr ⟨List.mem_of_getElem? (i := 584) (by decide +kernel), by decide +kernel⟩
theorem w_628 : ((Jvm.Cond.methodLink "RadiusDecoderLaw" (17 : Nat) ({ cls := "RadiusDecoderModel", name := "field", desc := "(I)I" } : Jvm.MethodName))) ∈ WS := List.mem_filter.mpr ⟨List.mem_of_getElem? (i := 628) (by decide +kernel), by decide +kernel⟩
theorem w_629 : ((Jvm.Cond.instanceMethod ({ cls := "RadiusDecoderModel", name := "field", desc := "(I)I" } : Jvm.MethodName))) ∈ WS := List.mem_filter.mpr ⟨List.mem_of_getElem? (i := 629) (by decide +kernel), by decide +kernel⟩
theorem w_630 : ((Jvm.Cond.selects "RadiusDecoderModel" ({ cls := "RadiusDecoderModel", name := "field", desc := "(I)I" } : Jvm.MethodName) ({ cls := "RadiusDecoderModel", name := "field", desc := "(I)I" } : Jvm.MethodName))) ∈ WS := List.mem_filter.mpr ⟨List.mem_of_getElem? (i := 630) (by decide +kernel), by decide +kernel⟩
theorem w_631 : ((Jvm.Cond.code ({ cls := "RadiusDecoderModel", name := "field", desc := "(I)I" } : Jvm.MethodName) prog_9_method_6_code (3 : Nat) (Option.some Jvm.ClassFile.FieldType.int))) ∈ WS := List.mem_filter.mpr ⟨List.mem_of_getElem? (i := 631) (by decide +kernel), by decide +kernel⟩
theorem w_632 : ((Jvm.Cond.methodLink "RadiusDecoderModel" (72 : Nat) ({ cls := "RadiusDecoderModel", name := "isPrimitive", desc := "(II)Z" } : Jvm.MethodName))) ∈ WS := List.mem_filter.mpr ⟨List.mem_of_getElem? (i := 632) (by decide +kernel), by decide +kernel⟩
theorem w_633 : ((Jvm.Cond.static ({ cls := "RadiusDecoderModel", name := "isPrimitive", desc := "(II)Z" } : Jvm.MethodName))) ∈ WS := List.mem_filter.mpr ⟨List.mem_of_getElem? (i := 633) (by decide +kernel), by decide +kernel⟩
theorem w_634 : ((Jvm.Cond.code ({ cls := "RadiusDecoderModel", name := "isPrimitive", desc := "(II)Z" } : Jvm.MethodName) prog_9_method_4_code (4 : Nat) (Option.some Jvm.ClassFile.FieldType.boolean))) ∈ WS := List.mem_filter.mpr ⟨List.mem_of_getElem? (i := 634) (by decide +kernel), by decide +kernel⟩
theorem w_635 : ((Jvm.Cond.methodLink "RadiusDecoderLaw" (22 : Nat) ({ cls := "RadiusDecoderModel", name := "times", desc := "(II)I" } : Jvm.MethodName))) ∈ WS := List.mem_filter.mpr ⟨List.mem_of_getElem? (i := 635) (by decide +kernel), by decide +kernel⟩
theorem w_636 : ((Jvm.Cond.instanceMethod ({ cls := "RadiusDecoderModel", name := "times", desc := "(II)I" } : Jvm.MethodName))) ∈ WS := List.mem_filter.mpr ⟨List.mem_of_getElem? (i := 636) (by decide +kernel), by decide +kernel⟩
theorem w_637 : ((Jvm.Cond.selects "RadiusDecoderModel" ({ cls := "RadiusDecoderModel", name := "times", desc := "(II)I" } : Jvm.MethodName) ({ cls := "RadiusDecoderModel", name := "times", desc := "(II)I" } : Jvm.MethodName))) ∈ WS := List.mem_filter.mpr ⟨List.mem_of_getElem? (i := 637) (by decide +kernel), by decide +kernel⟩
theorem w_638 : ((Jvm.Cond.code ({ cls := "RadiusDecoderModel", name := "times", desc := "(II)I" } : Jvm.MethodName) prog_9_method_7_code (3 : Nat) (Option.some Jvm.ClassFile.FieldType.int))) ∈ WS := List.mem_filter.mpr ⟨List.mem_of_getElem? (i := 638) (by decide +kernel), by decide +kernel⟩
theorem w_639 : ((Jvm.Cond.methodLink "RadiusDecoderModel" (76 : Nat) ({ cls := "RadiusDecoderModel", name := "isElement", desc := "(I)Z" } : Jvm.MethodName))) ∈ WS := List.mem_filter.mpr ⟨List.mem_of_getElem? (i := 639) (by decide +kernel), by decide +kernel⟩
theorem w_641 : ((Jvm.Cond.instanceMethod ({ cls := "RadiusDecoderModel", name := "isElement", desc := "(I)Z" } : Jvm.MethodName))) ∈ WS := List.mem_filter.mpr ⟨List.mem_of_getElem? (i := 641) (by decide +kernel), by decide +kernel⟩
theorem w_642 : ((Jvm.Cond.code ({ cls := "RadiusDecoderModel", name := "isElement", desc := "(I)Z" } : Jvm.MethodName) prog_9_method_5_code (2 : Nat) (Option.some Jvm.ClassFile.FieldType.boolean))) ∈ WS := List.mem_filter.mpr ⟨List.mem_of_getElem? (i := 642) (by decide +kernel), by decide +kernel⟩
theorem w_643 : ((Jvm.Cond.methodLink "RadiusDecoderLaw" (26 : Nat) ({ cls := "RadiusDecoderModel", name := "over", desc := "(II)I" } : Jvm.MethodName))) ∈ WS := List.mem_filter.mpr ⟨List.mem_of_getElem? (i := 643) (by decide +kernel), by decide +kernel⟩
theorem w_644 : ((Jvm.Cond.instanceMethod ({ cls := "RadiusDecoderModel", name := "over", desc := "(II)I" } : Jvm.MethodName))) ∈ WS := List.mem_filter.mpr ⟨List.mem_of_getElem? (i := 644) (by decide +kernel), by decide +kernel⟩
theorem w_645 : ((Jvm.Cond.selects "RadiusDecoderModel" ({ cls := "RadiusDecoderModel", name := "over", desc := "(II)I" } : Jvm.MethodName) ({ cls := "RadiusDecoderModel", name := "over", desc := "(II)I" } : Jvm.MethodName))) ∈ WS := List.mem_filter.mpr ⟨List.mem_of_getElem? (i := 645) (by decide +kernel), by decide +kernel⟩
theorem w_646 : ((Jvm.Cond.code ({ cls := "RadiusDecoderModel", name := "over", desc := "(II)I" } : Jvm.MethodName) prog_9_method_9_code (3 : Nat) (Option.some Jvm.ClassFile.FieldType.int))) ∈ WS := List.mem_filter.mpr ⟨List.mem_of_getElem? (i := 646) (by decide +kernel), by decide +kernel⟩
theorem w_647 : ((Jvm.Cond.methodLink "RadiusDecoderModel" (80 : Nat) ({ cls := "RadiusDecoderModel", name := "quotient", desc := "(II)I" } : Jvm.MethodName))) ∈ WS := List.mem_filter.mpr ⟨List.mem_of_getElem? (i := 647) (by decide +kernel), by decide +kernel⟩
theorem w_649 : ((Jvm.Cond.instanceMethod ({ cls := "RadiusDecoderModel", name := "quotient", desc := "(II)I" } : Jvm.MethodName))) ∈ WS := List.mem_filter.mpr ⟨List.mem_of_getElem? (i := 649) (by decide +kernel), by decide +kernel⟩
theorem w_650 : ((Jvm.Cond.code ({ cls := "RadiusDecoderModel", name := "quotient", desc := "(II)I" } : Jvm.MethodName) prog_9_method_8_code (4 : Nat) (Option.some Jvm.ClassFile.FieldType.int))) ∈ WS := List.mem_filter.mpr ⟨List.mem_of_getElem? (i := 650) (by decide +kernel), by decide +kernel⟩
theorem w_651 : ((Jvm.Cond.methodLink "RadiusDecoderLaw" (30 : Nat) ({ cls := "RadiusDecoderModel", name := "log", desc := "(I)I" } : Jvm.MethodName))) ∈ WS := List.mem_filter.mpr ⟨List.mem_of_getElem? (i := 651) (by decide +kernel), by decide +kernel⟩
theorem w_652 : ((Jvm.Cond.instanceMethod ({ cls := "RadiusDecoderModel", name := "log", desc := "(I)I" } : Jvm.MethodName))) ∈ WS := List.mem_filter.mpr ⟨List.mem_of_getElem? (i := 652) (by decide +kernel), by decide +kernel⟩
theorem w_653 : ((Jvm.Cond.selects "RadiusDecoderModel" ({ cls := "RadiusDecoderModel", name := "log", desc := "(I)I" } : Jvm.MethodName) ({ cls := "RadiusDecoderModel", name := "log", desc := "(I)I" } : Jvm.MethodName))) ∈ WS := List.mem_filter.mpr ⟨List.mem_of_getElem? (i := 653) (by decide +kernel), by decide +kernel⟩
theorem w_654 : ((Jvm.Cond.code ({ cls := "RadiusDecoderModel", name := "log", desc := "(I)I" } : Jvm.MethodName) prog_9_method_10_code (3 : Nat) (Option.some Jvm.ClassFile.FieldType.int))) ∈ WS := List.mem_filter.mpr ⟨List.mem_of_getElem? (i := 654) (by decide +kernel), by decide +kernel⟩
theorem w_655 : ((Jvm.Cond.methodLink "RadiusDecoderLaw" (35 : Nat) ({ cls := "RadiusDecoderModel", name := "code", desc := "(III)Z" } : Jvm.MethodName))) ∈ WS := List.mem_filter.mpr ⟨List.mem_of_getElem? (i := 655) (by decide +kernel), by decide +kernel⟩
theorem w_656 : ((Jvm.Cond.instanceMethod ({ cls := "RadiusDecoderModel", name := "code", desc := "(III)Z" } : Jvm.MethodName))) ∈ WS := List.mem_filter.mpr ⟨List.mem_of_getElem? (i := 656) (by decide +kernel), by decide +kernel⟩
theorem w_657 : ((Jvm.Cond.selects "RadiusDecoderModel" ({ cls := "RadiusDecoderModel", name := "code", desc := "(III)Z" } : Jvm.MethodName) ({ cls := "RadiusDecoderModel", name := "code", desc := "(III)Z" } : Jvm.MethodName))) ∈ WS := List.mem_filter.mpr ⟨List.mem_of_getElem? (i := 657) (by decide +kernel), by decide +kernel⟩
theorem w_658 : ((Jvm.Cond.code ({ cls := "RadiusDecoderModel", name := "code", desc := "(III)Z" } : Jvm.MethodName) prog_9_method_13_code (5 : Nat) (Option.some Jvm.ClassFile.FieldType.boolean))) ∈ WS := List.mem_filter.mpr ⟨List.mem_of_getElem? (i := 658) (by decide +kernel), by decide +kernel⟩
theorem w_659 : ((Jvm.Cond.methodLink "RadiusDecoderLaw" (40 : Nat) ({ cls := "RadiusDecoderModel", name := "tell", desc := "(II)Z" } : Jvm.MethodName))) ∈ WS := List.mem_filter.mpr ⟨List.mem_of_getElem? (i := 659) (by decide +kernel), by decide +kernel⟩
theorem w_660 : ((Jvm.Cond.instanceMethod ({ cls := "RadiusDecoderModel", name := "tell", desc := "(II)Z" } : Jvm.MethodName))) ∈ WS := List.mem_filter.mpr ⟨List.mem_of_getElem? (i := 660) (by decide +kernel), by decide +kernel⟩
theorem w_661 : ((Jvm.Cond.selects "RadiusDecoderModel" ({ cls := "RadiusDecoderModel", name := "tell", desc := "(II)Z" } : Jvm.MethodName) ({ cls := "RadiusDecoderModel", name := "tell", desc := "(II)Z" } : Jvm.MethodName))) ∈ WS := List.mem_filter.mpr ⟨List.mem_of_getElem? (i := 661) (by decide +kernel), by decide +kernel⟩
theorem w_662 : ((Jvm.Cond.code ({ cls := "RadiusDecoderModel", name := "tell", desc := "(II)Z" } : Jvm.MethodName) prog_9_method_14_code (3 : Nat) (Option.some Jvm.ClassFile.FieldType.boolean))) ∈ WS := List.mem_filter.mpr ⟨List.mem_of_getElem? (i := 662) (by decide +kernel), by decide +kernel⟩
theorem w_663 : ((Jvm.Cond.methodLink "RadiusDecoderLaw" (45 : Nat) ({ cls := "RadiusDecoderModel", name := "encode", desc := "(Z)I" } : Jvm.MethodName))) ∈ WS := List.mem_filter.mpr ⟨List.mem_of_getElem? (i := 663) (by decide +kernel), by decide +kernel⟩
theorem w_664 : ((Jvm.Cond.instanceMethod ({ cls := "RadiusDecoderModel", name := "encode", desc := "(Z)I" } : Jvm.MethodName))) ∈ WS := List.mem_filter.mpr ⟨List.mem_of_getElem? (i := 664) (by decide +kernel), by decide +kernel⟩
theorem w_665 : ((Jvm.Cond.selects "RadiusDecoderModel" ({ cls := "RadiusDecoderModel", name := "encode", desc := "(Z)I" } : Jvm.MethodName) ({ cls := "RadiusDecoderModel", name := "encode", desc := "(Z)I" } : Jvm.MethodName))) ∈ WS := List.mem_filter.mpr ⟨List.mem_of_getElem? (i := 665) (by decide +kernel), by decide +kernel⟩
theorem w_666 : ((Jvm.Cond.code ({ cls := "RadiusDecoderModel", name := "encode", desc := "(Z)I" } : Jvm.MethodName) prog_9_method_20_code (4 : Nat) (Option.some Jvm.ClassFile.FieldType.int))) ∈ WS := List.mem_filter.mpr ⟨List.mem_of_getElem? (i := 666) (by decide +kernel), by decide +kernel⟩
theorem w_667 : ((Jvm.Cond.methodLink "RadiusDecoderModel" (109 : Nat) ({ cls := "RadiusDecoderModel", name := "chosen", desc := "(Z)I" } : Jvm.MethodName))) ∈ WS := List.mem_filter.mpr ⟨List.mem_of_getElem? (i := 667) (by decide +kernel), by decide +kernel⟩
theorem w_669 : ((Jvm.Cond.instanceMethod ({ cls := "RadiusDecoderModel", name := "chosen", desc := "(Z)I" } : Jvm.MethodName))) ∈ WS := List.mem_filter.mpr ⟨List.mem_of_getElem? (i := 669) (by decide +kernel), by decide +kernel⟩
theorem w_670 : ((Jvm.Cond.code ({ cls := "RadiusDecoderModel", name := "chosen", desc := "(Z)I" } : Jvm.MethodName) prog_9_method_19_code (6 : Nat) (Option.some Jvm.ClassFile.FieldType.int))) ∈ WS := List.mem_filter.mpr ⟨List.mem_of_getElem? (i := 670) (by decide +kernel), by decide +kernel⟩
theorem w_671 : ((Jvm.Cond.methodLink "RadiusDecoderModel" (105 : Nat) ({ cls := "RadiusDecoderModel", name := "messages", desc := "()I" } : Jvm.MethodName))) ∈ WS := List.mem_filter.mpr ⟨List.mem_of_getElem? (i := 671) (by decide +kernel), by decide +kernel⟩
theorem w_673 : ((Jvm.Cond.instanceMethod ({ cls := "RadiusDecoderModel", name := "messages", desc := "()I" } : Jvm.MethodName))) ∈ WS := List.mem_filter.mpr ⟨List.mem_of_getElem? (i := 673) (by decide +kernel), by decide +kernel⟩
theorem w_674 : ((Jvm.Cond.code ({ cls := "RadiusDecoderModel", name := "messages", desc := "()I" } : Jvm.MethodName) prog_9_method_16_code (1 : Nat) (Option.some Jvm.ClassFile.FieldType.int))) ∈ WS := List.mem_filter.mpr ⟨List.mem_of_getElem? (i := 674) (by decide +kernel), by decide +kernel⟩
theorem w_675 : ((Jvm.Cond.methodLink "RadiusDecoderModel" (102 : Nat) ({ cls := "RadiusDecoderModel", name := "element", desc := "(II)I" } : Jvm.MethodName))) ∈ WS := List.mem_filter.mpr ⟨List.mem_of_getElem? (i := 675) (by decide +kernel), by decide +kernel⟩
theorem w_677 : ((Jvm.Cond.instanceMethod ({ cls := "RadiusDecoderModel", name := "element", desc := "(II)I" } : Jvm.MethodName))) ∈ WS := List.mem_filter.mpr ⟨List.mem_of_getElem? (i := 677) (by decide +kernel), by decide +kernel⟩
theorem w_678 : ((Jvm.Cond.code ({ cls := "RadiusDecoderModel", name := "element", desc := "(II)I" } : Jvm.MethodName) prog_9_method_17_code (5 : Nat) (Option.some Jvm.ClassFile.FieldType.int))) ∈ WS := List.mem_filter.mpr ⟨List.mem_of_getElem? (i := 678) (by decide +kernel), by decide +kernel⟩
theorem w_679 : ((Jvm.Cond.methodLink "RadiusDecoderModel" (99 : Nat) ({ cls := "RadiusDecoderModel", name := "told", desc := "(II)I" } : Jvm.MethodName))) ∈ WS := List.mem_filter.mpr ⟨List.mem_of_getElem? (i := 679) (by decide +kernel), by decide +kernel⟩
theorem w_681 : ((Jvm.Cond.instanceMethod ({ cls := "RadiusDecoderModel", name := "told", desc := "(II)I" } : Jvm.MethodName))) ∈ WS := List.mem_filter.mpr ⟨List.mem_of_getElem? (i := 681) (by decide +kernel), by decide +kernel⟩
theorem w_682 : ((Jvm.Cond.code ({ cls := "RadiusDecoderModel", name := "told", desc := "(II)I" } : Jvm.MethodName) prog_9_method_15_code (3 : Nat) (Option.some Jvm.ClassFile.FieldType.int))) ∈ WS := List.mem_filter.mpr ⟨List.mem_of_getElem? (i := 682) (by decide +kernel), by decide +kernel⟩
theorem w_683 : ((Jvm.Cond.methodLink "RadiusDecoderModel" (113 : Nat) ({ cls := "RadiusDecoderModel", name := "makeRow", desc := "(I)V" } : Jvm.MethodName))) ∈ WS := List.mem_filter.mpr ⟨List.mem_of_getElem? (i := 683) (by decide +kernel), by decide +kernel⟩
theorem w_685 : ((Jvm.Cond.instanceMethod ({ cls := "RadiusDecoderModel", name := "makeRow", desc := "(I)V" } : Jvm.MethodName))) ∈ WS := List.mem_filter.mpr ⟨List.mem_of_getElem? (i := 685) (by decide +kernel), by decide +kernel⟩
theorem w_686 : ((Jvm.Cond.code ({ cls := "RadiusDecoderModel", name := "makeRow", desc := "(I)V" } : Jvm.MethodName) prog_9_method_18_code (3 : Nat) (Option.none : Option Jvm.ClassFile.FieldType))) ∈ WS := List.mem_filter.mpr ⟨List.mem_of_getElem? (i := 686) (by decide +kernel), by decide +kernel⟩
theorem w_687 : ((Jvm.Cond.methodLink "RadiusDecoderLaw" (49 : Nat) ({ cls := "RadiusDecoderModel", name := "receive", desc := "(II)Z" } : Jvm.MethodName))) ∈ WS := List.mem_filter.mpr ⟨List.mem_of_getElem? (i := 687) (by decide +kernel), by decide +kernel⟩
theorem w_688 : ((Jvm.Cond.instanceMethod ({ cls := "RadiusDecoderModel", name := "receive", desc := "(II)Z" } : Jvm.MethodName))) ∈ WS := List.mem_filter.mpr ⟨List.mem_of_getElem? (i := 688) (by decide +kernel), by decide +kernel⟩
theorem w_689 : ((Jvm.Cond.selects "RadiusDecoderModel" ({ cls := "RadiusDecoderModel", name := "receive", desc := "(II)Z" } : Jvm.MethodName) ({ cls := "RadiusDecoderModel", name := "receive", desc := "(II)Z" } : Jvm.MethodName))) ∈ WS := List.mem_filter.mpr ⟨List.mem_of_getElem? (i := 689) (by decide +kernel), by decide +kernel⟩
theorem w_690 : ((Jvm.Cond.code ({ cls := "RadiusDecoderModel", name := "receive", desc := "(II)Z" } : Jvm.MethodName) prog_9_method_22_code (3 : Nat) (Option.some Jvm.ClassFile.FieldType.boolean))) ∈ WS := List.mem_filter.mpr ⟨List.mem_of_getElem? (i := 690) (by decide +kernel), by decide +kernel⟩
theorem w_691 : ((Jvm.Cond.methodLink "RadiusDecoderModel" (117 : Nat) ({ cls := "RadiusDecoderModel", name := "isPlace", desc := "(I)Z" } : Jvm.MethodName))) ∈ WS := List.mem_filter.mpr ⟨List.mem_of_getElem? (i := 691) (by decide +kernel), by decide +kernel⟩
theorem w_693 : ((Jvm.Cond.instanceMethod ({ cls := "RadiusDecoderModel", name := "isPlace", desc := "(I)Z" } : Jvm.MethodName))) ∈ WS := List.mem_filter.mpr ⟨List.mem_of_getElem? (i := 693) (by decide +kernel), by decide +kernel⟩
theorem w_694 : ((Jvm.Cond.code ({ cls := "RadiusDecoderModel", name := "isPlace", desc := "(I)Z" } : Jvm.MethodName) prog_9_method_21_code (2 : Nat) (Option.some Jvm.ClassFile.FieldType.boolean))) ∈ WS := List.mem_filter.mpr ⟨List.mem_of_getElem? (i := 694) (by decide +kernel), by decide +kernel⟩
theorem w_695 : ((Jvm.Cond.methodLink "RadiusDecoderLaw" (54 : Nat) ({ cls := "RadiusDecoderModel", name := "erase", desc := "(I)Z" } : Jvm.MethodName))) ∈ WS := List.mem_filter.mpr ⟨List.mem_of_getElem? (i := 695) (by decide +kernel), by decide +kernel⟩
theorem w_696 : ((Jvm.Cond.instanceMethod ({ cls := "RadiusDecoderModel", name := "erase", desc := "(I)Z" } : Jvm.MethodName))) ∈ WS := List.mem_filter.mpr ⟨List.mem_of_getElem? (i := 696) (by decide +kernel), by decide +kernel⟩
theorem w_697 : ((Jvm.Cond.selects "RadiusDecoderModel" ({ cls := "RadiusDecoderModel", name := "erase", desc := "(I)Z" } : Jvm.MethodName) ({ cls := "RadiusDecoderModel", name := "erase", desc := "(I)Z" } : Jvm.MethodName))) ∈ WS := List.mem_filter.mpr ⟨List.mem_of_getElem? (i := 697) (by decide +kernel), by decide +kernel⟩
theorem w_698 : ((Jvm.Cond.code ({ cls := "RadiusDecoderModel", name := "erase", desc := "(I)Z" } : Jvm.MethodName) prog_9_method_23_code (2 : Nat) (Option.some Jvm.ClassFile.FieldType.boolean))) ∈ WS := List.mem_filter.mpr ⟨List.mem_of_getElem? (i := 698) (by decide +kernel), by decide +kernel⟩
theorem w_699 : ((Jvm.Cond.methodLink "RadiusDecoderLaw" (58 : Nat) ({ cls := "RadiusDecoderModel", name := "word", desc := "(I)I" } : Jvm.MethodName))) ∈ WS := List.mem_filter.mpr ⟨List.mem_of_getElem? (i := 699) (by decide +kernel), by decide +kernel⟩
theorem w_700 : ((Jvm.Cond.instanceMethod ({ cls := "RadiusDecoderModel", name := "word", desc := "(I)I" } : Jvm.MethodName))) ∈ WS := List.mem_filter.mpr ⟨List.mem_of_getElem? (i := 700) (by decide +kernel), by decide +kernel⟩
theorem w_701 : ((Jvm.Cond.selects "RadiusDecoderModel" ({ cls := "RadiusDecoderModel", name := "word", desc := "(I)I" } : Jvm.MethodName) ({ cls := "RadiusDecoderModel", name := "word", desc := "(I)I" } : Jvm.MethodName))) ∈ WS := List.mem_filter.mpr ⟨List.mem_of_getElem? (i := 701) (by decide +kernel), by decide +kernel⟩
theorem w_702 : ((Jvm.Cond.code ({ cls := "RadiusDecoderModel", name := "word", desc := "(I)I" } : Jvm.MethodName) prog_9_method_24_code (2 : Nat) (Option.some Jvm.ClassFile.FieldType.int))) ∈ WS := List.mem_filter.mpr ⟨List.mem_of_getElem? (i := 702) (by decide +kernel), by decide +kernel⟩
theorem w_703 : ((Jvm.Cond.methodLink "RadiusDecoderLaw" (62 : Nat) ({ cls := "RadiusDecoderModel", name := "syndrome", desc := "(I)I" } : Jvm.MethodName))) ∈ WS := List.mem_filter.mpr ⟨List.mem_of_getElem? (i := 703) (by decide +kernel), by decide +kernel⟩
theorem w_704 : ((Jvm.Cond.instanceMethod ({ cls := "RadiusDecoderModel", name := "syndrome", desc := "(I)I" } : Jvm.MethodName))) ∈ WS := List.mem_filter.mpr ⟨List.mem_of_getElem? (i := 704) (by decide +kernel), by decide +kernel⟩
theorem w_705 : ((Jvm.Cond.selects "RadiusDecoderModel" ({ cls := "RadiusDecoderModel", name := "syndrome", desc := "(I)I" } : Jvm.MethodName) ({ cls := "RadiusDecoderModel", name := "syndrome", desc := "(I)I" } : Jvm.MethodName))) ∈ WS := List.mem_filter.mpr ⟨List.mem_of_getElem? (i := 705) (by decide +kernel), by decide +kernel⟩
theorem w_706 : ((Jvm.Cond.code ({ cls := "RadiusDecoderModel", name := "syndrome", desc := "(I)I" } : Jvm.MethodName) prog_9_method_26_code (6 : Nat) (Option.some Jvm.ClassFile.FieldType.int))) ∈ WS := List.mem_filter.mpr ⟨List.mem_of_getElem? (i := 706) (by decide +kernel), by decide +kernel⟩
theorem w_707 : ((Jvm.Cond.methodLink "RadiusDecoderModel" (120 : Nat) ({ cls := "RadiusDecoderModel", name := "apart", desc := "(I)I" } : Jvm.MethodName))) ∈ WS := List.mem_filter.mpr ⟨List.mem_of_getElem? (i := 707) (by decide +kernel), by decide +kernel⟩
theorem w_709 : ((Jvm.Cond.instanceMethod ({ cls := "RadiusDecoderModel", name := "apart", desc := "(I)I" } : Jvm.MethodName))) ∈ WS := List.mem_filter.mpr ⟨List.mem_of_getElem? (i := 709) (by decide +kernel), by decide +kernel⟩
theorem w_710 : ((Jvm.Cond.code ({ cls := "RadiusDecoderModel", name := "apart", desc := "(I)I" } : Jvm.MethodName) prog_9_method_25_code (4 : Nat) (Option.some Jvm.ClassFile.FieldType.int))) ∈ WS := List.mem_filter.mpr ⟨List.mem_of_getElem? (i := 710) (by decide +kernel), by decide +kernel⟩
theorem w_711 : ((Jvm.Cond.methodLink "RadiusDecoderModel" (124 : Nat) ({ cls := "RadiusDecoderModel", name := "power", desc := "(II)I" } : Jvm.MethodName))) ∈ WS := List.mem_filter.mpr ⟨List.mem_of_getElem? (i := 711) (by decide +kernel), by decide +kernel⟩
theorem w_713 : ((Jvm.Cond.instanceMethod ({ cls := "RadiusDecoderModel", name := "power", desc := "(II)I" } : Jvm.MethodName))) ∈ WS := List.mem_filter.mpr ⟨List.mem_of_getElem? (i := 713) (by decide +kernel), by decide +kernel⟩
theorem w_714 : ((Jvm.Cond.code ({ cls := "RadiusDecoderModel", name := "power", desc := "(II)I" } : Jvm.MethodName) prog_9_method_11_code (5 : Nat) (Option.some Jvm.ClassFile.FieldType.int))) ∈ WS := List.mem_filter.mpr ⟨List.mem_of_getElem? (i := 714) (by decide +kernel), by decide +kernel⟩
theorem w_715 : ((Jvm.Cond.methodLink "RadiusDecoderLaw" (66 : Nat) ({ cls := "RadiusDecoderModel", name := "decode", desc := "(Z)I" } : Jvm.MethodName))) ∈ WS := List.mem_filter.mpr ⟨List.mem_of_getElem? (i := 715) (by decide +kernel), by decide +kernel⟩
theorem w_716 : ((Jvm.Cond.instanceMethod ({ cls := "RadiusDecoderModel", name := "decode", desc := "(Z)I" } : Jvm.MethodName))) ∈ WS := List.mem_filter.mpr ⟨List.mem_of_getElem? (i := 716) (by decide +kernel), by decide +kernel⟩
theorem w_717 : ((Jvm.Cond.selects "RadiusDecoderModel" ({ cls := "RadiusDecoderModel", name := "decode", desc := "(Z)I" } : Jvm.MethodName) ({ cls := "RadiusDecoderModel", name := "decode", desc := "(Z)I" } : Jvm.MethodName))) ∈ WS := List.mem_filter.mpr ⟨List.mem_of_getElem? (i := 717) (by decide +kernel), by decide +kernel⟩
theorem w_718 : ((Jvm.Cond.code ({ cls := "RadiusDecoderModel", name := "decode", desc := "(Z)I" } : Jvm.MethodName) prog_9_method_29_code (6 : Nat) (Option.some Jvm.ClassFile.FieldType.int))) ∈ WS := List.mem_filter.mpr ⟨List.mem_of_getElem? (i := 718) (by decide +kernel), by decide +kernel⟩
theorem w_719 : ((Jvm.Cond.methodLink "RadiusDecoderModel" (127 : Nat) ({ cls := "RadiusDecoderModel", name := "kept", desc := "()I" } : Jvm.MethodName))) ∈ WS := List.mem_filter.mpr ⟨List.mem_of_getElem? (i := 719) (by decide +kernel), by decide +kernel⟩
theorem w_721 : ((Jvm.Cond.instanceMethod ({ cls := "RadiusDecoderModel", name := "kept", desc := "()I" } : Jvm.MethodName))) ∈ WS := List.mem_filter.mpr ⟨List.mem_of_getElem? (i := 721) (by decide +kernel), by decide +kernel⟩
theorem w_722 : ((Jvm.Cond.code ({ cls := "RadiusDecoderModel", name := "kept", desc := "()I" } : Jvm.MethodName) prog_9_method_27_code (3 : Nat) (Option.some Jvm.ClassFile.FieldType.int))) ∈ WS := List.mem_filter.mpr ⟨List.mem_of_getElem? (i := 722) (by decide +kernel), by decide +kernel⟩
theorem w_723 : ((Jvm.Cond.methodLink "RadiusDecoderModel" (130 : Nat) ({ cls := "RadiusDecoderModel", name := "distanceOf", desc := "(II)I" } : Jvm.MethodName))) ∈ WS := List.mem_filter.mpr ⟨List.mem_of_getElem? (i := 723) (by decide +kernel), by decide +kernel⟩
theorem w_725 : ((Jvm.Cond.instanceMethod ({ cls := "RadiusDecoderModel", name := "distanceOf", desc := "(II)I" } : Jvm.MethodName))) ∈ WS := List.mem_filter.mpr ⟨List.mem_of_getElem? (i := 725) (by decide +kernel), by decide +kernel⟩
theorem w_726 : ((Jvm.Cond.code ({ cls := "RadiusDecoderModel", name := "distanceOf", desc := "(II)I" } : Jvm.MethodName) prog_9_method_28_code (5 : Nat) (Option.some Jvm.ClassFile.FieldType.int))) ∈ WS := List.mem_filter.mpr ⟨List.mem_of_getElem? (i := 726) (by decide +kernel), by decide +kernel⟩
theorem w_727 : ((Jvm.Cond.methodLink "RadiusDecoderLaw" (70 : Nat) ({ cls := "RadiusDecoderModel", name := "decoded", desc := "(I)I" } : Jvm.MethodName))) ∈ WS := List.mem_filter.mpr ⟨List.mem_of_getElem? (i := 727) (by decide +kernel), by decide +kernel⟩
theorem w_728 : ((Jvm.Cond.instanceMethod ({ cls := "RadiusDecoderModel", name := "decoded", desc := "(I)I" } : Jvm.MethodName))) ∈ WS := List.mem_filter.mpr ⟨List.mem_of_getElem? (i := 728) (by decide +kernel), by decide +kernel⟩
theorem w_729 : ((Jvm.Cond.selects "RadiusDecoderModel" ({ cls := "RadiusDecoderModel", name := "decoded", desc := "(I)I" } : Jvm.MethodName) ({ cls := "RadiusDecoderModel", name := "decoded", desc := "(I)I" } : Jvm.MethodName))) ∈ WS := List.mem_filter.mpr ⟨List.mem_of_getElem? (i := 729) (by decide +kernel), by decide +kernel⟩
theorem w_730 : ((Jvm.Cond.code ({ cls := "RadiusDecoderModel", name := "decoded", desc := "(I)I" } : Jvm.MethodName) prog_9_method_30_code (2 : Nat) (Option.some Jvm.ClassFile.FieldType.int))) ∈ WS := List.mem_filter.mpr ⟨List.mem_of_getElem? (i := 730) (by decide +kernel), by decide +kernel⟩
theorem w_731 : ((Jvm.Cond.methodLink "RadiusDecoderLaw" (74 : Nat) ({ cls := "RadiusDecoderModel", name := "sent", desc := "(I)I" } : Jvm.MethodName))) ∈ WS := List.mem_filter.mpr ⟨List.mem_of_getElem? (i := 731) (by decide +kernel), by decide +kernel⟩
theorem w_732 : ((Jvm.Cond.instanceMethod ({ cls := "RadiusDecoderModel", name := "sent", desc := "(I)I" } : Jvm.MethodName))) ∈ WS := List.mem_filter.mpr ⟨List.mem_of_getElem? (i := 732) (by decide +kernel), by decide +kernel⟩
theorem w_733 : ((Jvm.Cond.selects "RadiusDecoderModel" ({ cls := "RadiusDecoderModel", name := "sent", desc := "(I)I" } : Jvm.MethodName) ({ cls := "RadiusDecoderModel", name := "sent", desc := "(I)I" } : Jvm.MethodName))) ∈ WS := List.mem_filter.mpr ⟨List.mem_of_getElem? (i := 733) (by decide +kernel), by decide +kernel⟩
theorem w_734 : ((Jvm.Cond.code ({ cls := "RadiusDecoderModel", name := "sent", desc := "(I)I" } : Jvm.MethodName) prog_9_method_31_code (2 : Nat) (Option.some Jvm.ClassFile.FieldType.int))) ∈ WS := List.mem_filter.mpr ⟨List.mem_of_getElem? (i := 734) (by decide +kernel), by decide +kernel⟩
theorem w_735 : ((Jvm.Cond.methodLink "RadiusDecoderLaw" (78 : Nat) ({ cls := "RadiusDecoderModel", name := "locator", desc := "(I)I" } : Jvm.MethodName))) ∈ WS := List.mem_filter.mpr ⟨List.mem_of_getElem? (i := 735) (by decide +kernel), by decide +kernel⟩
theorem w_736 : ((Jvm.Cond.instanceMethod ({ cls := "RadiusDecoderModel", name := "locator", desc := "(I)I" } : Jvm.MethodName))) ∈ WS := List.mem_filter.mpr ⟨List.mem_of_getElem? (i := 736) (by decide +kernel), by decide +kernel⟩
theorem w_737 : ((Jvm.Cond.selects "RadiusDecoderModel" ({ cls := "RadiusDecoderModel", name := "locator", desc := "(I)I" } : Jvm.MethodName) ({ cls := "RadiusDecoderModel", name := "locator", desc := "(I)I" } : Jvm.MethodName))) ∈ WS := List.mem_filter.mpr ⟨List.mem_of_getElem? (i := 737) (by decide +kernel), by decide +kernel⟩
theorem w_738 : ((Jvm.Cond.code ({ cls := "RadiusDecoderModel", name := "locator", desc := "(I)I" } : Jvm.MethodName) prog_9_method_32_code (4 : Nat) (Option.some Jvm.ClassFile.FieldType.int))) ∈ WS := List.mem_filter.mpr ⟨List.mem_of_getElem? (i := 738) (by decide +kernel), by decide +kernel⟩
theorem w_739 : ((Jvm.Cond.methodLink "RadiusDecoderLaw" (82 : Nat) ({ cls := "RadiusDecoderModel", name := "list", desc := "(I)I" } : Jvm.MethodName))) ∈ WS := List.mem_filter.mpr ⟨List.mem_of_getElem? (i := 739) (by decide +kernel), by decide +kernel⟩
theorem w_740 : ((Jvm.Cond.instanceMethod ({ cls := "RadiusDecoderModel", name := "list", desc := "(I)I" } : Jvm.MethodName))) ∈ WS := List.mem_filter.mpr ⟨List.mem_of_getElem? (i := 740) (by decide +kernel), by decide +kernel⟩
theorem w_741 : ((Jvm.Cond.selects "RadiusDecoderModel" ({ cls := "RadiusDecoderModel", name := "list", desc := "(I)I" } : Jvm.MethodName) ({ cls := "RadiusDecoderModel", name := "list", desc := "(I)I" } : Jvm.MethodName))) ∈ WS := List.mem_filter.mpr ⟨List.mem_of_getElem? (i := 741) (by decide +kernel), by decide +kernel⟩
theorem w_742 : ((Jvm.Cond.code ({ cls := "RadiusDecoderModel", name := "list", desc := "(I)I" } : Jvm.MethodName) prog_9_method_37_code (7 : Nat) (Option.some Jvm.ClassFile.FieldType.int))) ∈ WS := List.mem_filter.mpr ⟨List.mem_of_getElem? (i := 742) (by decide +kernel), by decide +kernel⟩
theorem w_743 : ((Jvm.Cond.methodLink "RadiusDecoderModel" (139 : Nat) ({ cls := "RadiusDecoderModel", name := "radiusFor", desc := "(II)I" } : Jvm.MethodName))) ∈ WS := List.mem_filter.mpr ⟨List.mem_of_getElem? (i := 743) (by decide +kernel), by decide +kernel⟩
theorem w_745 : ((Jvm.Cond.instanceMethod ({ cls := "RadiusDecoderModel", name := "radiusFor", desc := "(II)I" } : Jvm.MethodName))) ∈ WS := List.mem_filter.mpr ⟨List.mem_of_getElem? (i := 745) (by decide +kernel), by decide +kernel⟩
theorem w_746 : ((Jvm.Cond.code ({ cls := "RadiusDecoderModel", name := "radiusFor", desc := "(II)I" } : Jvm.MethodName) prog_9_method_35_code (5 : Nat) (Option.some Jvm.ClassFile.FieldType.int))) ∈ WS := List.mem_filter.mpr ⟨List.mem_of_getElem? (i := 746) (by decide +kernel), by decide +kernel⟩
theorem w_747 : ((Jvm.Cond.methodLink "RadiusDecoderModel" (136 : Nat) ({ cls := "RadiusDecoderModel", name := "boundFor", desc := "(II)I" } : Jvm.MethodName))) ∈ WS := List.mem_filter.mpr ⟨List.mem_of_getElem? (i := 747) (by decide +kernel), by decide +kernel⟩
theorem w_749 : ((Jvm.Cond.instanceMethod ({ cls := "RadiusDecoderModel", name := "boundFor", desc := "(II)I" } : Jvm.MethodName))) ∈ WS := List.mem_filter.mpr ⟨List.mem_of_getElem? (i := 749) (by decide +kernel), by decide +kernel⟩
theorem w_750 : ((Jvm.Cond.code ({ cls := "RadiusDecoderModel", name := "boundFor", desc := "(II)I" } : Jvm.MethodName) prog_9_method_34_code (5 : Nat) (Option.some Jvm.ClassFile.FieldType.int))) ∈ WS := List.mem_filter.mpr ⟨List.mem_of_getElem? (i := 750) (by decide +kernel), by decide +kernel⟩
theorem w_751 : ((Jvm.Cond.methodLink "RadiusDecoderModel" (133 : Nat) ({ cls := "RadiusDecoderModel", name := "pairs", desc := "(I)I" } : Jvm.MethodName))) ∈ WS := List.mem_filter.mpr ⟨List.mem_of_getElem? (i := 751) (by decide +kernel), by decide +kernel⟩
theorem w_753 : ((Jvm.Cond.instanceMethod ({ cls := "RadiusDecoderModel", name := "pairs", desc := "(I)I" } : Jvm.MethodName))) ∈ WS := List.mem_filter.mpr ⟨List.mem_of_getElem? (i := 753) (by decide +kernel), by decide +kernel⟩
theorem w_754 : ((Jvm.Cond.code ({ cls := "RadiusDecoderModel", name := "pairs", desc := "(I)I" } : Jvm.MethodName) prog_9_method_33_code (2 : Nat) (Option.some Jvm.ClassFile.FieldType.int))) ∈ WS := List.mem_filter.mpr ⟨List.mem_of_getElem? (i := 754) (by decide +kernel), by decide +kernel⟩
theorem w_755 : ((Jvm.Cond.methodLink "RadiusDecoderModel" (142 : Nat) ({ cls := "RadiusDecoderModel", name := "isBefore", desc := "(II)Z" } : Jvm.MethodName))) ∈ WS := List.mem_filter.mpr ⟨List.mem_of_getElem? (i := 755) (by decide +kernel), by decide +kernel⟩
theorem w_757 : ((Jvm.Cond.instanceMethod ({ cls := "RadiusDecoderModel", name := "isBefore", desc := "(II)Z" } : Jvm.MethodName))) ∈ WS := List.mem_filter.mpr ⟨List.mem_of_getElem? (i := 757) (by decide +kernel), by decide +kernel⟩
theorem w_758 : ((Jvm.Cond.code ({ cls := "RadiusDecoderModel", name := "isBefore", desc := "(II)Z" } : Jvm.MethodName) prog_9_method_36_code (4 : Nat) (Option.some Jvm.ClassFile.FieldType.boolean))) ∈ WS := List.mem_filter.mpr ⟨List.mem_of_getElem? (i := 758) (by decide +kernel), by decide +kernel⟩
theorem w_759 : ((Jvm.Cond.methodLink "RadiusDecoderLaw" (86 : Nat) ({ cls := "RadiusDecoderModel", name := "listed", desc := "(II)I" } : Jvm.MethodName))) ∈ WS := List.mem_filter.mpr ⟨List.mem_of_getElem? (i := 759) (by decide +kernel), by decide +kernel⟩
theorem w_760 : ((Jvm.Cond.instanceMethod ({ cls := "RadiusDecoderModel", name := "listed", desc := "(II)I" } : Jvm.MethodName))) ∈ WS := List.mem_filter.mpr ⟨List.mem_of_getElem? (i := 760) (by decide +kernel), by decide +kernel⟩
theorem w_761 : ((Jvm.Cond.selects "RadiusDecoderModel" ({ cls := "RadiusDecoderModel", name := "listed", desc := "(II)I" } : Jvm.MethodName) ({ cls := "RadiusDecoderModel", name := "listed", desc := "(II)I" } : Jvm.MethodName))) ∈ WS := List.mem_filter.mpr ⟨List.mem_of_getElem? (i := 761) (by decide +kernel), by decide +kernel⟩
theorem w_762 : ((Jvm.Cond.code ({ cls := "RadiusDecoderModel", name := "listed", desc := "(II)I" } : Jvm.MethodName) prog_9_method_38_code (3 : Nat) (Option.some Jvm.ClassFile.FieldType.int))) ∈ WS := List.mem_filter.mpr ⟨List.mem_of_getElem? (i := 762) (by decide +kernel), by decide +kernel⟩
theorem w_763 : ((Jvm.Cond.methodLink "RadiusDecoderLaw" (90 : Nat) ({ cls := "RadiusDecoderModel", name := "distance", desc := "(I)I" } : Jvm.MethodName))) ∈ WS := List.mem_filter.mpr ⟨List.mem_of_getElem? (i := 763) (by decide +kernel), by decide +kernel⟩
theorem w_764 : ((Jvm.Cond.instanceMethod ({ cls := "RadiusDecoderModel", name := "distance", desc := "(I)I" } : Jvm.MethodName))) ∈ WS := List.mem_filter.mpr ⟨List.mem_of_getElem? (i := 764) (by decide +kernel), by decide +kernel⟩
theorem w_765 : ((Jvm.Cond.selects "RadiusDecoderModel" ({ cls := "RadiusDecoderModel", name := "distance", desc := "(I)I" } : Jvm.MethodName) ({ cls := "RadiusDecoderModel", name := "distance", desc := "(I)I" } : Jvm.MethodName))) ∈ WS := List.mem_filter.mpr ⟨List.mem_of_getElem? (i := 765) (by decide +kernel), by decide +kernel⟩
theorem w_766 : ((Jvm.Cond.code ({ cls := "RadiusDecoderModel", name := "distance", desc := "(I)I" } : Jvm.MethodName) prog_9_method_39_code (2 : Nat) (Option.some Jvm.ClassFile.FieldType.int))) ∈ WS := List.mem_filter.mpr ⟨List.mem_of_getElem? (i := 766) (by decide +kernel), by decide +kernel⟩
theorem w_767 : ((Jvm.Cond.methodLink "RadiusDecoderLaw" (94 : Nat) ({ cls := "RadiusDecoderModel", name := "radius", desc := "(I)I" } : Jvm.MethodName))) ∈ WS := List.mem_filter.mpr ⟨List.mem_of_getElem? (i := 767) (by decide +kernel), by decide +kernel⟩
theorem w_768 : ((Jvm.Cond.instanceMethod ({ cls := "RadiusDecoderModel", name := "radius", desc := "(I)I" } : Jvm.MethodName))) ∈ WS := List.mem_filter.mpr ⟨List.mem_of_getElem? (i := 768) (by decide +kernel), by decide +kernel⟩
theorem w_769 : ((Jvm.Cond.selects "RadiusDecoderModel" ({ cls := "RadiusDecoderModel", name := "radius", desc := "(I)I" } : Jvm.MethodName) ({ cls := "RadiusDecoderModel", name := "radius", desc := "(I)I" } : Jvm.MethodName))) ∈ WS := List.mem_filter.mpr ⟨List.mem_of_getElem? (i := 769) (by decide +kernel), by decide +kernel⟩
theorem w_770 : ((Jvm.Cond.code ({ cls := "RadiusDecoderModel", name := "radius", desc := "(I)I" } : Jvm.MethodName) prog_9_method_40_code (3 : Nat) (Option.some Jvm.ClassFile.FieldType.int))) ∈ WS := List.mem_filter.mpr ⟨List.mem_of_getElem? (i := 770) (by decide +kernel), by decide +kernel⟩
theorem w_771 : ((Jvm.Cond.methodLink "RadiusDecoderLaw" (98 : Nat) ({ cls := "RadiusDecoderModel", name := "weight", desc := "(I)I" } : Jvm.MethodName))) ∈ WS := List.mem_filter.mpr ⟨List.mem_of_getElem? (i := 771) (by decide +kernel), by decide +kernel⟩
theorem w_772 : ((Jvm.Cond.instanceMethod ({ cls := "RadiusDecoderModel", name := "weight", desc := "(I)I" } : Jvm.MethodName))) ∈ WS := List.mem_filter.mpr ⟨List.mem_of_getElem? (i := 772) (by decide +kernel), by decide +kernel⟩
theorem w_773 : ((Jvm.Cond.selects "RadiusDecoderModel" ({ cls := "RadiusDecoderModel", name := "weight", desc := "(I)I" } : Jvm.MethodName) ({ cls := "RadiusDecoderModel", name := "weight", desc := "(I)I" } : Jvm.MethodName))) ∈ WS := List.mem_filter.mpr ⟨List.mem_of_getElem? (i := 773) (by decide +kernel), by decide +kernel⟩
theorem w_774 : ((Jvm.Cond.code ({ cls := "RadiusDecoderModel", name := "weight", desc := "(I)I" } : Jvm.MethodName) prog_9_method_44_code (6 : Nat) (Option.some Jvm.ClassFile.FieldType.int))) ∈ WS := List.mem_filter.mpr ⟨List.mem_of_getElem? (i := 774) (by decide +kernel), by decide +kernel⟩
theorem w_775 : ((Jvm.Cond.methodLink "RadiusDecoderModel" (149 : Nat) ({ cls := "RadiusDecoderModel", name := "layTerm", desc := "(III)I" } : Jvm.MethodName))) ∈ WS := List.mem_filter.mpr ⟨List.mem_of_getElem? (i := 775) (by decide +kernel), by decide +kernel⟩
theorem w_777 : ((Jvm.Cond.instanceMethod ({ cls := "RadiusDecoderModel", name := "layTerm", desc := "(III)I" } : Jvm.MethodName))) ∈ WS := List.mem_filter.mpr ⟨List.mem_of_getElem? (i := 777) (by decide +kernel), by decide +kernel⟩
theorem w_778 : ((Jvm.Cond.code ({ cls := "RadiusDecoderModel", name := "layTerm", desc := "(III)I" } : Jvm.MethodName) prog_9_method_42_code (9 : Nat) (Option.some Jvm.ClassFile.FieldType.int))) ∈ WS := List.mem_filter.mpr ⟨List.mem_of_getElem? (i := 778) (by decide +kernel), by decide +kernel⟩
theorem w_779 : ((Jvm.Cond.methodLink "RadiusDecoderModel" (145 : Nat) ({ cls := "RadiusDecoderModel", name := "condition", desc := "(IIIII)I" } : Jvm.MethodName))) ∈ WS := List.mem_filter.mpr ⟨List.mem_of_getElem? (i := 779) (by decide +kernel), by decide +kernel⟩
theorem w_781 : ((Jvm.Cond.instanceMethod ({ cls := "RadiusDecoderModel", name := "condition", desc := "(IIIII)I" } : Jvm.MethodName))) ∈ WS := List.mem_filter.mpr ⟨List.mem_of_getElem? (i := 781) (by decide +kernel), by decide +kernel⟩
theorem w_782 : ((Jvm.Cond.code ({ cls := "RadiusDecoderModel", name := "condition", desc := "(IIIII)I" } : Jvm.MethodName) prog_9_method_41_code (9 : Nat) (Option.some Jvm.ClassFile.FieldType.int))) ∈ WS := List.mem_filter.mpr ⟨List.mem_of_getElem? (i := 782) (by decide +kernel), by decide +kernel⟩
theorem w_783 : ((Jvm.Cond.methodLink "RadiusDecoderModel" (153 : Nat) ({ cls := "RadiusDecoderModel", name := "isNew", desc := "(II)Z" } : Jvm.MethodName))) ∈ WS := List.mem_filter.mpr ⟨List.mem_of_getElem? (i := 783) (by decide +kernel), by decide +kernel⟩
theorem w_785 : ((Jvm.Cond.instanceMethod ({ cls := "RadiusDecoderModel", name := "isNew", desc := "(II)Z" } : Jvm.MethodName))) ∈ WS := List.mem_filter.mpr ⟨List.mem_of_getElem? (i := 785) (by decide +kernel), by decide +kernel⟩
theorem w_786 : ((Jvm.Cond.code ({ cls := "RadiusDecoderModel", name := "isNew", desc := "(II)Z" } : Jvm.MethodName) prog_9_method_43_code (6 : Nat) (Option.some Jvm.ClassFile.FieldType.boolean))) ∈ WS := List.mem_filter.mpr ⟨List.mem_of_getElem? (i := 786) (by decide +kernel), by decide +kernel⟩
end
section
abbrev mY (i : xMt) : MethodName := i.1
abbrev mB (i : xMt) : ByteArray := i.2.1
abbrev mL (i : xMt) : Nat := i.2.2.1
abbrev mR (i : xMt) : Option FieldType := i.2.2.2.1
abbrev mO (i : xMt) : String := i.2.2.2.2
/-! the abstract machine over one world of cells: ints are integers, references are places in the world -/
abbrev AV : Type := Int ⊕ Option (Option Nat)
abbrev vi (z : Int) : AV := .inl z
abbrev vr (k : Nat) : AV := .inr (some (some k))
abbrev vn : AV := .inr none
abbrev vs : AV := .inr (some none)
abbrev xM : Type := Nat → Nat → Int
abbrev xR : Type := Nat → Nat → Option Nat
def xI (z : Int) : Int32 := Int32.ofInt z
def xin (z : Int) : Prop := -2147483648 ≤ z ∧ z < 2147483648
theorem xI_int {z : Int} (h : xin z) : (xI z).toInt = z := Int32.toInt_ofInt_of_le (by have := h.1; omega) (by have := h.2; omega)
theorem xI_add (x y : Int) : xI (x + y) = xI x + xI y := Int32.ofInt_add x y
theorem xI_sub (x y : Int) : xI (x - y) = xI x - xI y := Int32.ofInt_sub x y
theorem xI_mul (x y : Int) : xI (x * y) = xI x * xI y := Int32.ofInt_mul x y
theorem xI_inj {x y : Int} (hx : xin x) (hy : xin y) : xI x = xI y ↔ x = y := by
  rw [← Int32.toInt_inj, xI_int hx, xI_int hy]
theorem xI_lt {x y : Int} (hx : xin x) (hy : xin y) : xI x < xI y ↔ x < y := by
  rw [Int32.lt_iff_toInt_lt, xI_int hx, xI_int hy]
theorem xI_le {x y : Int} (hx : xin x) (hy : xin y) : xI x ≤ xI y ↔ x ≤ y := by
  rw [Int32.le_iff_toInt_le, xI_int hx, xI_int hy]
theorem xin0 : xin 0 := ⟨by decide, by decide⟩
theorem xI_0 : xI 0 = 0 := by decide
theorem xI_div {x y : Int} (hx : xin x) (hy : xin y) (h : y ≠ -1) : xI (x.tdiv y) = xI x / xI y := by
  have hne : xI y ≠ -1 := fun q => h (by
    have := congrArg Int32.toInt q
    rw [xI_int hy] at this
    exact this)
  have e : (xI x / xI y).toInt = x.tdiv y := by
    rw [Int32.toInt_div_of_ne_right _ _ hne, xI_int hx, xI_int hy]
  rw [← e]
  exact Int32.ofInt_toInt _
theorem xI_clamp {z : Int} (h0 : 0 ≤ z) (h : z < 2147483648) : (xI z).toNatClampNeg = z.toNat := by
  have h1 : xin z := ⟨by omega, h⟩
  show (xI z).toInt.toNat = _
  rw [xI_int h1]
theorem xI_in {z : Int} {n : Nat} (h0 : 0 ≤ z) (h : z < n) (hn : n < 2147483648) : vp_in (xI z) n := by
  refine vp_in_iff.mpr ?_
  rw [xI_int ⟨by omega, by omega⟩]
  exact ⟨h0, h⟩
def xXor (x y : Int) : Int := (xI x ^^^ xI y).toInt
def xAnd (x y : Int) : Int := (xI x &&& xI y).toInt
def xOr (x y : Int) : Int := (xI x ||| xI y).toInt
def xShl (x y : Int) : Int := (xI x <<< (xI y &&& 31)).toInt
def xShr (x y : Int) : Int := (xI x >>> (xI y &&& 31)).toInt
theorem xI_xor (x y : Int) : xI (xXor x y) = xI x ^^^ xI y := Int32.ofInt_toInt _
theorem xI_and (x y : Int) : xI (xAnd x y) = xI x &&& xI y := Int32.ofInt_toInt _
theorem xI_or (x y : Int) : xI (xOr x y) = xI x ||| xI y := Int32.ofInt_toInt _
theorem xI_shl (x y : Int) : xI (xShl x y) = xI x <<< (xI y &&& 31) := Int32.ofInt_toInt _
theorem xI_shr (x y : Int) : xI (xShr x y) = xI x >>> (xI y &&& 31) := Int32.ofInt_toInt _
def cv (sb b : Nat) : AV → Value
  | .inl z => .int (xI z)
  | .inr none => .null
  | .inr (some none) => .ref sb
  | .inr (some (some k)) => .ref (b + k)
theorem cv_cat (sb b : Nat) : ∀ v : AV, (cv sb b v).category = 1
  | .inl _ => rfl
  | .inr none => rfl
  | .inr (some none) => rfl
  | .inr (some (some _)) => rfl
theorem cv_sum (sb b : Nat) : ∀ l : List AV, ((l.map (cv sb b)).map fun v => v.category).sum = l.length
  | [] => rfl
  | v :: l => by
    have h := cv_sum sb b l
    simp only [List.map_cons, List.sum_cons, List.length_cons, cv_cat]
    rw [h]
    omega
/-! locals -/
def xas (sb b : Nat) : Nat → List (Option AV) → List (Nat × Value)
  | _, [] => []
  | k, none :: t => xas sb b (k + 1) t
  | k, some v :: t => (k, cv sb b v) :: xas sb b (k + 1) t
theorem xas_mem (sb b : Nat) : ∀ (L : List (Option AV)) (k : Nat) (q : Nat × Value), q ∈ xas sb b k L ↔ ∃ (j : Nat) (v : AV), L[j]? = some (some v) ∧ q = (k + j, cv sb b v)
  | [], k, q => by simp [xas]
  | none :: t, k, q => by
    rw [xas, xas_mem sb b t (k + 1) q]
    constructor
    · rintro ⟨j, v, h1, h2⟩
      exact ⟨j + 1, v, by simpa using h1, by rw [h2, show k + 1 + j = k + (j + 1) by omega]⟩
    · rintro ⟨j, v, h1, h2⟩
      cases j with
      | zero => simp at h1
      | succ j => exact ⟨j, v, by simpa using h1, by rw [h2, show k + 1 + j = k + (j + 1) by omega]⟩
  | some w :: t, k, q => by
    rw [xas, List.mem_cons, xas_mem sb b t (k + 1) q]
    constructor
    · rintro (h | ⟨j, v, h1, h2⟩)
      · exact ⟨0, w, rfl, h⟩
      · exact ⟨j + 1, v, by simpa using h1, by rw [h2, show k + 1 + j = k + (j + 1) by omega]⟩
    · rintro ⟨j, v, h1, h2⟩
      cases j with
      | zero =>
        have e : w = v := by simpa using h1
        subst e
        exact Or.inl h2
      | succ j => exact Or.inr ⟨j, v, by simpa using h1, by rw [h2, show k + 1 + j = k + (j + 1) by omega]⟩
theorem xas_args (sb b : Nat) : ∀ (av : List AV) (k : Nat), lv_args k (av.map (cv sb b)) = xas sb b k (av.map some)
  | [], _ => rfl
  | v :: t, k => by
    simp only [List.map_cons, lv_args, xas, cv_cat]
    rw [if_neg (by decide), xas_args sb b t (k + 1)]
theorem xas_sl (sb b : Nat) (av : List AV) : (lg_sl (av.map (cv sb b))).length = av.length := by
  induction av with
  | nil => rfl
  | cons v t ih =>
    unfold lg_sl at ih ⊢
    rw [List.map_cons, List.flatMap_cons, List.length_append, ih, cv_cat, if_neg (by decide)]
    simp only [List.length_cons, List.length_nil]
    omega
theorem xas_sub {sb b nL : Nat} {ls : Array Slot} {L L' : List (Option AV)} (h : lv_has ls nL (xas sb b 0 L)) (hs : ∀ (j : Nat) (v : AV), L'[j]? = some (some v) → L[j]? = some (some v)) : lv_has ls nL (xas sb b 0 L') := by
  refine ⟨h.1, h.2.1, fun q hq => h.2.2 q ?_⟩
  obtain ⟨j, v, h1, h2⟩ := (xas_mem sb b L' 0 q).mp hq
  exact (xas_mem sb b L 0 q).mpr ⟨j, v, hs j v h1, h2⟩
theorem xas_get {sb b nL : Nat} {ls : Array Slot} {L : List (Option AV)} (h : lv_has ls nL (xas sb b 0 L)) {j : Nat} {v : AV} (hj : L[j]? = some (some v)) : ls[j]? = some (.val (cv sb b v)) := by
  have := h.2.2 (j, cv sb b v) ((xas_mem sb b L 0 _).mpr ⟨j, v, hj, by rw [Nat.zero_add]⟩)
  exact this
theorem xas_set {sb b nL i : Nat} {ls : Array Slot} {L : List (Option AV)} {v : AV} {w : Value} (hw : w = cv sb b v) (h : lv_has ls nL ((i, w) :: (xas sb b 0 L).filter (fun q => !(q.1 == i) && !(q.1 + 1 == i && q.2.category == 2)))) : lv_has ls nL (xas sb b 0 (L.set i (some v))) := by
  refine ⟨h.1, h.2.1, fun q hq => h.2.2 q ?_⟩
  obtain ⟨j, u, h1, h2⟩ := (xas_mem sb b _ 0 q).mp hq
  rw [Nat.zero_add] at h2
  by_cases hj : i = j
  · subst hj
    have hl : i < (L.set i (some v)).length := (List.getElem?_eq_some_iff.mp h1).1
    rw [List.length_set] at hl
    rw [List.getElem?_set_self hl] at h1
    have e : v = u := by simpa using h1
    subst e
    rw [h2, hw]
    exact List.mem_cons_self
  · rw [List.getElem?_set_ne hj] at h1
    refine List.mem_cons_of_mem _ (List.mem_filter.mpr ⟨(xas_mem sb b L 0 q).mpr ⟨j, u, h1, by rw [h2, Nat.zero_add]⟩, ?_⟩)
    rw [h2]
    simp only [cv_cat]
    have hne : (j == i) = false := by simpa using (fun q : j = i => hj q.symm)
    rw [hne]
    simp
/-! the world -/
def xfs (b ci N k : Nat) (R : xR) (M : xM) : List Value := (List.range N).map fun j => if xIs ci j = true then va_rf ((R k j).map (b + ·)) else .int (xI (M k j))
def xce (cI cZ cG : ClassId) (b : Nat) (R : xR) (M : xM) (k : Nat) : va_E :=
  match (xS k).1 with
  | 0 => .inl (cI, (xS k).2, .inl (fun j => xI (M k j)))
  | 1 => .inl (cZ, (xS k).2, .inl (fun j => xI (M k j)))
  | 2 => .inl (cG, (xS k).2, .inr (.inr (.inr (.inr (fun j => (R k j).map (b + ·))))))
  | ci + 3 => .inr (ci, xfs b ci (xS k).2 k R M)
def xwd (cI cZ cG : ClassId) (b n : Nat) (R : xR) (M : xM) : va_W := (List.range n).map fun k => (b + k, xce cI cZ cG b R M k)
def xTy (cI cZ cG : ClassId) : List (ClassId × FieldType) := [(cI, .int), (cZ, .boolean), (cG, .array .int)]
section XW
variable {cI cZ cG : ClassId} {b n k N ci : Nat} {R R' : xR} {M M' : xM}
theorem xce_congr (h1 : M k = M' k) (h2 : R k = R' k) : xce cI cZ cG b R M k = xce cI cZ cG b R' M' k := by
  unfold xce xfs
  rw [h1, h2]
theorem xce_i (h : xS k = (0, N)) : xce cI cZ cG b R M k = .inl (cI, N, .inl (fun j => xI (M k j))) := by
  unfold xce
  rw [h]
theorem xce_z (h : xS k = (1, N)) : xce cI cZ cG b R M k = .inl (cZ, N, .inl (fun j => xI (M k j))) := by
  unfold xce
  rw [h]
theorem xce_g (h : xS k = (2, N)) : xce cI cZ cG b R M k = .inl (cG, N, .inr (.inr (.inr (.inr (fun j => (R k j).map (b + ·)))))) := by
  unfold xce
  rw [h]
theorem xce_o (h : xS k = (ci + 3, N)) : xce cI cZ cG b R M k = .inr (ci, xfs b ci N k R M) := by
  unfold xce
  rw [h]
theorem xwd_at (h : k < n) : (xwd cI cZ cG b n R M)[k]? = some (b + k, xce cI cZ cG b R M k) := by
  unfold xwd
  rw [List.getElem?_map, List.getElem?_range h]
  rfl
theorem xwd_of {q : Nat × va_E} (h : (xwd cI cZ cG b n R M)[k]? = some q) : k < n ∧ q = (b + k, xce cI cZ cG b R M k) := by
  have hl : k < (xwd cI cZ cG b n R M).length := (List.getElem?_eq_some_iff.mp h).1
  have hn : k < n := by simpa [xwd] using hl
  rw [xwd_at hn] at h
  exact ⟨hn, (Option.some.inj h).symm⟩
theorem xwd_D : va_D (fun q => b ≤ q) (xwd cI cZ cG b n R M) := by
  refine ⟨fun i j x y hi hj hxy => ?_, fun k q hk => ?_⟩
  · obtain ⟨-, rfl⟩ := xwd_of hi
    obtain ⟨-, rfl⟩ := xwd_of hj
    have : b + i = b + j := hxy
    omega
  · obtain ⟨-, rfl⟩ := xwd_of hk
    exact Nat.le_add_right b k
theorem xwd_set (hk : k < n) (ho : ∀ j, j ≠ k → xce cI cZ cG b R' M' j = xce cI cZ cG b R M j) : (xwd cI cZ cG b n R M).set k (b + k, xce cI cZ cG b R' M' k) = xwd cI cZ cG b n R' M' := by
  apply List.ext_getElem?
  intro i
  by_cases hi : k = i
  · subst hi
    have hl : k < (xwd cI cZ cG b n R M).length := by simpa [xwd] using hk
    rw [List.getElem?_set_self hl, xwd_at hk]
  · rw [List.getElem?_set_ne hi]
    by_cases hn : i < n
    · rw [xwd_at hn, xwd_at hn, ho i (fun q => hi q.symm)]
    · have h1 : (xwd cI cZ cG b n R M).length ≤ i := by simpa [xwd] using (Nat.not_lt.mp hn)
      have h2 : (xwd cI cZ cG b n R' M').length ≤ i := by simpa [xwd] using (Nat.not_lt.mp hn)
      rw [List.getElem?_eq_none h1, List.getElem?_eq_none h2]
end XW
def xU (M : xM) (k j : Nat) (v : Int) : xM := fun k' j' => if k' = k ∧ j' = j then v else M k' j'
def xUR (R : xR) (k j : Nat) (v : Option Nat) : xR := fun k' j' => if k' = k ∧ j' = j then v else R k' j'
theorem xU_o {M : xM} {k k' j : Nat} {v : Int} (h : k' ≠ k) : xU M k j v k' = M k' := by
  funext j'
  unfold xU
  rw [if_neg (fun q => h q.1)]
theorem xU_s {M : xM} {k j : Nat} {v : Int} : xU M k j v k j = v := by
  unfold xU
  rw [if_pos ⟨rfl, rfl⟩]
theorem xU_n {M : xM} {k j j' : Nat} {v : Int} (h : j' ≠ j) : xU M k j v k j' = M k j' := by
  unfold xU
  rw [if_neg (fun q => h q.2)]
theorem xUR_o {R : xR} {k k' j : Nat} {v : Option Nat} (h : k' ≠ k) : xUR R k j v k' = R k' := by
  funext j'
  unfold xUR
  rw [if_neg (fun q => h q.1)]
/-! a class's own words -/
def cOK (C : String) (T : u_T) (N : Nat) (ty : Nat → FieldType) : Prop := (∀ w ∈ u_ws C T N, w ∈ WS) ∧ (∀ k, k < N → parseFieldDescriptor (T k).2.2.1 = some (ty k)) ∧ ∀ a, a < N → ∀ b, b < N → a ≠ b → (T a).2.1 ≠ (T b).2.1
def mOK (j : xMt) : Prop := Cond.code (mY j) (mB j) (mL j) (mR j) ∈ WS ∧ Cond.initialized (mY j).cls ∈ WS ∧ ((mY j).cls ≠ "java/lang/invoke/MethodHandle" ∧ (mY j).cls ≠ "java/lang/invoke/VarHandle") ∧ mL j ≤ 40
theorem mOK.good {j : xMt} (h : mOK j) : GoodIn WS (Cond.code (mY j) (mB j) (mL j) (mR j) :: WS) := by
  intro w hw
  rcases List.mem_cons.mp hw with rfl | hw
  · exact ⟨h.1, WS_good _ h.1⟩
  · exact ⟨hw, WS_good _ hw⟩
/-- the word of arrays over int[]: as the nest mates' words, it goes from contract to contract by its own row -/
def nAO (U : State) : Prop := (Cond.arrayOver (.array .int)).before #[] U = true
def nAOi (vm : Vm) (comp : ClassId) : Option Nat := vm.classes.findIdx? fun (x : Class) => match x.kind with | .array component _ => component == comp | _ => false
def nAOk (vm : Vm) (c : Nat) : Option Bool := (vm.classes[c]?).map fun (k : Class) => match k.kind with | .array _ ty => decide (ty = FieldType.array .int) && decide (vm.findClass ("[" ++ (FieldType.array .int).toString) = some c) | _ => false
theorem nAO_eq (X : State) : nAO X = ((((X.vm.findClass (FieldType.array .int).toString).bind fun comp => (nAOi X.vm comp).bind (nAOk X.vm)) == some true) = true) := rfl
theorem nAO.moved {u U : State} (hvm : u.vm.Alike U.vm) (h : nAO u) : nAO U := by
  have hf : ∀ n, U.vm.findClass n = u.vm.findClass n := fun n => hvm.findClass n none
  have hi : ∀ comp, nAOi U.vm comp = nAOi u.vm comp := fun comp => by
    have h1 : nAOi U.vm comp = nAOi U.vm.bare comp := (va_idx_bare U.vm comp).symm
    have h2 : nAOi u.vm comp = nAOi u.vm.bare comp := (va_idx_bare u.vm comp).symm
    rw [h1, h2]
    first | rw [hvm.bare_eq] | rw [← hvm.bare_eq]
  rw [nAO_eq] at h ⊢
  simp only [beq_iff_eq, Option.bind_eq_some_iff] at h ⊢
  obtain ⟨comp, h1, c, h2, h3⟩ := h
  refine ⟨comp, by rw [hf]; exact h1, c, by rw [hi]; exact h2, ?_⟩
  unfold nAOk at h3 ⊢
  rw [Option.map_eq_some_iff] at h3 ⊢
  obtain ⟨k, g1, g2⟩ := h3
  obtain ⟨k', hk', he⟩ := hvm.2.2 _ _ g1
  refine ⟨k', hk', ?_⟩
  have hk : k'.kind = k.kind := by rw [he]
  rw [hk, hf]
  exact g2
def xK (D : va_G) (cI cZ cG : ClassId) (U : State) : Prop := va_K D xCL (xTy cI cZ cG) U ∧ (∀ w ∈ NW, va_Nw w U) ∧ nAO U
theorem xK.warm {D : va_G} {cI cZ cG : ClassId} {s U : State} (hW : s.WarmedH U.vm) (h : xK D cI cZ cG s) : xK D cI cZ cG U := ⟨va_K.moved hW.alike h.1, NW_warm hW h.2.1, nAO.moved hW.alike h.2.2⟩
theorem xK.same {D : va_G} {cI cZ cG : ClassId} {s U : State} (hv : s.vm = U.vm) (h : xK D cI cZ cG s) : xK D cI cZ cG U := ⟨va_K.moved (by rw [hv]; exact Vm.Alike.refl U.vm) h.1, fun w hw => va_Nw.same (NW_tab w hw) hv (h.2.1 w hw), nAO.moved (by rw [hv]; exact Vm.Alike.refl U.vm) h.2.2⟩
/-! the judgements -/
def xCx (sc : Option (Nat × (Nat → Int32))) (i : xMt) (d n0 mc ms : Nat) (p : Program) (Rm : Room) (s : State) (m : MethodId) (args : Array Value) (meth : Method) (c : Code) (D : va_G) (cI cZ cG : ClassId) (sb b : Nat) : Prop :=
  CallFix p m c (mB i) (mL i) s args WS (mO i) ∧ xK D cI cZ cG s ∧ meth.locks = false ∧ meth.sig.returnType = mR i ∧ ((mY i).name = "<init>" → meth.name = "<init>") ∧
  (d ≤ Rm.frames ∧ 64 * d ≤ Rm.locals ∧ mc ≤ Rm.cells ∧ ms ≤ Rm.slots) ∧ s.heap.size = b + n0 ∧ (∀ q, sc = some q → va_X sb q.1 q.2 s s.heap ∧ sb < s.heap.size ∧ ¬ b ≤ sb)
def xRet (i : xMt) (pc : Nat) (r : Option AV) : Prop := (r = none ∧ mR i = none ∧ decode (mB i) pc = .ok (.return_, 1)) ∨ ∃ z, r = some (.inl z) ∧ decode (mB i) pc = .ok (.ireturn, 1) ∧ (mR i = some .int ∨ (mR i = some .boolean ∧ (z = 0 ∨ z = 1)))
def xZ (i : xMt) (n0 mc ms : Nat) (Q : Option AV → xR → xM → Prop) (p : Program) (l : Launch) (e : Env) (Rm : Room) (s : State) (m : MethodId) (args : Array Value) (below : List Frame) (meth : Method) (c : Code) (D : va_G) (cI cZ cG : ClassId) (sb b : Nat) (Z : State → Prop) : Prop :=
  ∀ (H : Heap) (locs : List Loc) (ls : Array Slot) (pc : Nat) (R : xR) (M : xM) (r : Option AV), Q r R M → va_P D xCL (xwd cI cZ cG b (n0 + mc) R M) H → va_S (fun q => b ≤ q) s.heap H locs → xRet i pc r →
    W p l e Rm s m args below meth c H locs mc ms Z (F0 m pc ls (r.toList.map (cv sb b)))
def xX (sc : Option (Nat × (Nat → Int32))) (i : xMt) (d n0 mc ms : Nat) (Q : Option AV → xR → xM → Prop) (pc : Nat) (L : List (Option AV)) (st : List AV) (cu su : Nat) (R : xR) (M : xM) : Prop :=
  ∀ (p : Program) (l : Launch) (e : Env) (Rm : Room) (s : State) (m : MethodId) (args : Array Value) (below : List Frame) (meth : Method) (c : Code) (D : va_G) (cI cZ cG : ClassId) (sb b : Nat) (Z : State → Prop),
    xCx sc i d n0 mc ms p Rm s m args meth c D cI cZ cG sb b → xZ i n0 mc ms Q p l e Rm s m args below meth c D cI cZ cG sb b Z →
    ∀ (H : Heap) (locs : List Loc) (ls : Array Slot), va_P D xCL (xwd cI cZ cG b (n0 + cu) R M) H → va_S (fun q => b ≤ q) s.heap H locs → lv_has ls (mL i) (xas sb b 0 L) →
    W p l e Rm s m args below meth c H locs cu su Z (F0 m pc ls (st.map (cv sb b)))
def xC (i : xMt) (d n mc ms : Nat) (av : List AV) (R : xR) (M : xM) (Q : Option AV → xR → xM → Prop) : Prop :=
  ∀ (l : Launch) (D : va_G) (cI cZ cG : ClassId) (sb b : Nat), Met l (mY i) (Cond.code (mY i) (mB i) (mL i) (mR i) :: WS) { frames := d, cells := mc, slots := ms, locals := 64 * d }
    (va_Pc (av.map (cv sb b)) (fun U => U.heap.size = b + n ∧ va_P D xCL (xwd cI cZ cG b n R M) U.heap ∧ xK D cI cZ cG U))
    (fun _ st oc t => (∃ (r : Option AV) (R' : xR) (M' : xM), oc = .returned (r.map (cv sb b)) ∧ Q r R' M' ∧ va_P D xCL (xwd cI cZ cG b (n + mc) R' M') t.heap) ∧ va_F (fun q => b ≤ q) st t) mc ms (fun q => b ≤ q)
def sc0 : Option (Nat × (Nat → Int32)) := none
def xmask : List Bool → List (Option AV) → List (Option AV)
  | true :: bs, v :: l => v :: xmask bs l
  | false :: bs, _ :: l => none :: xmask bs l
  | _, _ => []
theorem xmask_sub : ∀ (bs : List Bool) (L : List (Option AV)) (j : Nat) (v : AV), (xmask bs L)[j]? = some (some v) → L[j]? = some (some v)
  | [], L, j, v, h => by simp [xmask] at h
  | true :: bs, [], j, v, h => by simp [xmask] at h
  | false :: bs, [], j, v, h => by simp [xmask] at h
  | true :: bs, w :: l, j, v, h => by
    cases j with
    | zero => simpa [xmask] using h
    | succ j => simpa using xmask_sub bs l j v (by simpa [xmask] using h)
  | false :: bs, w :: l, j, v, h => by
    cases j with
    | zero => simp [xmask] at h
    | succ j => simpa using xmask_sub bs l j v (by simpa [xmask] using h)
end
section
theorem xfs_setI {b ci N k j : Nat} {R : xR} {M : xM} {z : Int} (hj : j < N) (hi : xIs ci j = false) : (xfs b ci N k R M).set j (.int (xI z)) = xfs b ci N k R (xU M k j z) := by
  apply List.ext_getElem?
  intro a
  by_cases ha : j = a
  · subst ha
    rw [List.getElem?_set_self (by simpa [xfs] using hj), xfs, List.getElem?_map, List.getElem?_range hj]
    simp [hi, xU_s]
  · rw [List.getElem?_set_ne ha]
    by_cases hn : a < N
    · rw [xfs, xfs, List.getElem?_map, List.getElem?_map, List.getElem?_range hn]
      simp [xU_n (M := M) (k := k) (v := z) (fun q : a = j => ha q.symm)]
    · rw [List.getElem?_eq_none (by simpa [xfs] using (Nat.not_lt.mp hn)), List.getElem?_eq_none (by simpa [xfs] using (Nat.not_lt.mp hn))]
theorem xfs_setR {b ci N k j t : Nat} {R : xR} {M : xM} (hj : j < N) (hi : xIs ci j = true) : (xfs b ci N k R M).set j (.ref (b + t)) = xfs b ci N k (xUR R k j (some t)) M := by
  apply List.ext_getElem?
  intro a
  by_cases ha : j = a
  · subst ha
    rw [List.getElem?_set_self (by simpa [xfs] using hj), xfs, List.getElem?_map, List.getElem?_range hj]
    simp [hi, xUR, va_rf]
  · rw [List.getElem?_set_ne ha]
    by_cases hn : a < N
    · rw [xfs, xfs, List.getElem?_map, List.getElem?_map, List.getElem?_range hn]
      have e : xUR R k j (some t) k a = R k a := by unfold xUR; rw [if_neg (fun q => ha q.2.symm)]
      simp [e]
    · rw [List.getElem?_eq_none (by simpa [xfs] using (Nat.not_lt.mp hn)), List.getElem?_eq_none (by simpa [xfs] using (Nat.not_lt.mp hn))]
theorem xU_cell {M : xM} {k j : Nat} {v : Int} : upd (fun a => xI (M k a)) j (xI v) = fun a => xI (xU M k j v k a) := by
  funext a
  unfold upd xU
  by_cases h : a = j
  · rw [if_pos h, if_pos ⟨rfl, h⟩]
  · rw [if_neg h, if_neg (fun q => h q.2)]
/-! one row an instruction -/
section XRu
variable {sc : Option (Nat × (Nat → Int32))} {i : xMt} {d n0 mc ms : Nat} {Q : Option AV → xR → xM → Prop} {pc : Nat} {L : List (Option AV)} {st : List AV} {cu su : Nat} {R : xR} {M : xM}
theorem x_iconst {z : Int} (hd : decode (mB i) pc = .ok (.iconst z, 1)) (kk : xX sc i d n0 mc ms Q (pc + 1) L (vi z :: st) cu su R M) : xX sc i d n0 mc ms Q pc L st cu su R M := by
  intro p l e Rm s m args below meth c D cI cZ cG sb b Z Cx hZ H locs ls hH hS hl
  have k1 : W p l e Rm s m args below meth c H locs cu su Z (F0 m (pc + 1) ls (.int (xI z) :: st.map (cv sb b))) := kk p l e Rm s m args below meth c D cI cZ cG sb b Z Cx hZ H locs ls hH hS hl
  exact lv_iconst Cx.1.1 Cx.1.2.1 hd rfl k1
theorem x_bipush {z : Int} (hd : decode (mB i) pc = .ok (.bipush z, 2)) (hv : (Int8.ofInt z).toInt32 = xI z) (kk : xX sc i d n0 mc ms Q (pc + 2) L (vi z :: st) cu su R M) : xX sc i d n0 mc ms Q pc L st cu su R M := by
  intro p l e Rm s m args below meth c D cI cZ cG sb b Z Cx hZ H locs ls hH hS hl
  have k1 : W p l e Rm s m args below meth c H locs cu su Z (F0 m (pc + 2) ls (.int (xI z) :: st.map (cv sb b))) := kk p l e Rm s m args below meth c D cI cZ cG sb b Z Cx hZ H locs ls hH hS hl
  exact lv_bipush Cx.1.1 Cx.1.2.1 hd hv k1
theorem x_sipush {z : Int} (hd : decode (mB i) pc = .ok (.sipush z, 3)) (hv : (Int16.ofInt z).toInt32 = xI z) (kk : xX sc i d n0 mc ms Q (pc + 3) L (vi z :: st) cu su R M) : xX sc i d n0 mc ms Q pc L st cu su R M := by
  intro p l e Rm s m args below meth c D cI cZ cG sb b Z Cx hZ H locs ls hH hS hl
  have k1 : W p l e Rm s m args below meth c H locs cu su Z (F0 m (pc + 3) ls (.int (xI z) :: st.map (cv sb b))) := kk p l e Rm s m args below meth c D cI cZ cG sb b Z Cx hZ H locs ls hH hS hl
  exact lv_sipush Cx.1.1 Cx.1.2.1 hd hv k1
theorem x_iload_n {k : Fin 4} {j : Nat} {z : Int} (hd : decode (mB i) pc = .ok (.iload_n k, 1)) (hk : (k : Nat) = j) (hj : L[j]? = some (some (vi z))) (kk : xX sc i d n0 mc ms Q (pc + 1) L (vi z :: st) cu su R M) : xX sc i d n0 mc ms Q pc L st cu su R M := by
  intro p l e Rm s m args below meth c D cI cZ cG sb b Z Cx hZ H locs ls hH hS hl
  have k1 : W p l e Rm s m args below meth c H locs cu su Z (F0 m (pc + 1) ls (.int (xI z) :: st.map (cv sb b))) := kk p l e Rm s m args below meth c D cI cZ cG sb b Z Cx hZ H locs ls hH hS hl
  exact lv_iload_n Cx.1.1 Cx.1.2.1 hd hk (xas_get hl hj) k1
theorem x_iload {j : Nat} {z : Int} (hd : decode (mB i) pc = .ok (.iload j, 2)) (hj : L[j]? = some (some (vi z))) (kk : xX sc i d n0 mc ms Q (pc + 2) L (vi z :: st) cu su R M) : xX sc i d n0 mc ms Q pc L st cu su R M := by
  intro p l e Rm s m args below meth c D cI cZ cG sb b Z Cx hZ H locs ls hH hS hl
  have k1 : W p l e Rm s m args below meth c H locs cu su Z (F0 m (pc + 2) ls (.int (xI z) :: st.map (cv sb b))) := kk p l e Rm s m args below meth c D cI cZ cG sb b Z Cx hZ H locs ls hH hS hl
  exact lv_iload Cx.1.1 Cx.1.2.1 hd (xas_get hl hj) k1
theorem x_aload_n {k : Fin 4} {j : Nat} {z : Nat} (hd : decode (mB i) pc = .ok (.aload_n k, 1)) (hk : (k : Nat) = j) (hj : L[j]? = some (some (vr z))) (kk : xX sc i d n0 mc ms Q (pc + 1) L (vr z :: st) cu su R M) : xX sc i d n0 mc ms Q pc L st cu su R M := by
  intro p l e Rm s m args below meth c D cI cZ cG sb b Z Cx hZ H locs ls hH hS hl
  have k1 : W p l e Rm s m args below meth c H locs cu su Z (F0 m (pc + 1) ls (.ref (b + z) :: st.map (cv sb b))) := kk p l e Rm s m args below meth c D cI cZ cG sb b Z Cx hZ H locs ls hH hS hl
  exact lv_aload_n Cx.1.1 Cx.1.2.1 hd hk (xas_get hl hj) k1
theorem x_aload {j : Nat} {z : Nat} (hd : decode (mB i) pc = .ok (.aload j, 2)) (hj : L[j]? = some (some (vr z))) (kk : xX sc i d n0 mc ms Q (pc + 2) L (vr z :: st) cu su R M) : xX sc i d n0 mc ms Q pc L st cu su R M := by
  intro p l e Rm s m args below meth c D cI cZ cG sb b Z Cx hZ H locs ls hH hS hl
  have k1 : W p l e Rm s m args below meth c H locs cu su Z (F0 m (pc + 2) ls (.ref (b + z) :: st.map (cv sb b))) := kk p l e Rm s m args below meth c D cI cZ cG sb b Z Cx hZ H locs ls hH hS hl
  exact lv_aload Cx.1.1 Cx.1.2.1 hd (xas_get hl hj) k1
theorem x_aloads_n {k : Fin 4} {j : Nat} (hd : decode (mB i) pc = .ok (.aload_n k, 1)) (hk : (k : Nat) = j) (hj : L[j]? = some (some (vs))) (kk : xX sc i d n0 mc ms Q (pc + 1) L (vs :: st) cu su R M) : xX sc i d n0 mc ms Q pc L st cu su R M := by
  intro p l e Rm s m args below meth c D cI cZ cG sb b Z Cx hZ H locs ls hH hS hl
  have k1 : W p l e Rm s m args below meth c H locs cu su Z (F0 m (pc + 1) ls (.ref sb :: st.map (cv sb b))) := kk p l e Rm s m args below meth c D cI cZ cG sb b Z Cx hZ H locs ls hH hS hl
  exact lv_aload_n Cx.1.1 Cx.1.2.1 hd hk (xas_get hl hj) k1
theorem x_aloads {j : Nat} (hd : decode (mB i) pc = .ok (.aload j, 2)) (hj : L[j]? = some (some (vs))) (kk : xX sc i d n0 mc ms Q (pc + 2) L (vs :: st) cu su R M) : xX sc i d n0 mc ms Q pc L st cu su R M := by
  intro p l e Rm s m args below meth c D cI cZ cG sb b Z Cx hZ H locs ls hH hS hl
  have k1 : W p l e Rm s m args below meth c H locs cu su Z (F0 m (pc + 2) ls (.ref sb :: st.map (cv sb b))) := kk p l e Rm s m args below meth c D cI cZ cG sb b Z Cx hZ H locs ls hH hS hl
  exact lv_aload Cx.1.1 Cx.1.2.1 hd (xas_get hl hj) k1
theorem x_istore_n {k : Fin 4} {j : Nat} {z : Int} (hd : decode (mB i) pc = .ok (.istore_n k, 1)) (hk : (k : Nat) = j) (hn : j < mL i) (kk : xX sc i d n0 mc ms Q (pc + 1) (L.set j (some (vi z))) st cu su R M) : xX sc i d n0 mc ms Q pc L (vi z :: st) cu su R M := by
  intro p l e Rm s m args below meth c D cI cZ cG sb b Z Cx hZ H locs ls hH hS hl
  exact lv_istore_n (x := xI z) Cx.1.1 Cx.1.2.1 hd hk hl hn rfl (fun ls' h' => kk p l e Rm s m args below meth c D cI cZ cG sb b Z Cx hZ H locs ls' hH hS (xas_set rfl h'))
theorem x_istore {j : Nat} {z : Int} (hd : decode (mB i) pc = .ok (.istore j, 2)) (hn : j < mL i) (kk : xX sc i d n0 mc ms Q (pc + 2) (L.set j (some (vi z))) st cu su R M) : xX sc i d n0 mc ms Q pc L (vi z :: st) cu su R M := by
  intro p l e Rm s m args below meth c D cI cZ cG sb b Z Cx hZ H locs ls hH hS hl
  exact lv_istore (x := xI z) Cx.1.1 Cx.1.2.1 hd hl hn rfl (fun ls' h' => kk p l e Rm s m args below meth c D cI cZ cG sb b Z Cx hZ H locs ls' hH hS (xas_set rfl h'))
theorem x_astore_n {k : Fin 4} {j : Nat} {z : Nat} (hd : decode (mB i) pc = .ok (.astore_n k, 1)) (hk : (k : Nat) = j) (hn : j < mL i) (kk : xX sc i d n0 mc ms Q (pc + 1) (L.set j (some (vr z))) st cu su R M) : xX sc i d n0 mc ms Q pc L (vr z :: st) cu su R M := by
  intro p l e Rm s m args below meth c D cI cZ cG sb b Z Cx hZ H locs ls hH hS hl
  exact lv_astore_n (x := b + z) Cx.1.1 Cx.1.2.1 hd hk hl hn rfl (fun ls' h' => kk p l e Rm s m args below meth c D cI cZ cG sb b Z Cx hZ H locs ls' hH hS (xas_set rfl h'))
theorem x_astore {j : Nat} {z : Nat} (hd : decode (mB i) pc = .ok (.astore j, 2)) (hn : j < mL i) (kk : xX sc i d n0 mc ms Q (pc + 2) (L.set j (some (vr z))) st cu su R M) : xX sc i d n0 mc ms Q pc L (vr z :: st) cu su R M := by
  intro p l e Rm s m args below meth c D cI cZ cG sb b Z Cx hZ H locs ls hH hS hl
  exact lv_astore (x := b + z) Cx.1.1 Cx.1.2.1 hd hl hn rfl (fun ls' h' => kk p l e Rm s m args below meth c D cI cZ cG sb b Z Cx hZ H locs ls' hH hS (xas_set rfl h'))
theorem x_iinc {j : Nat} {z w : Int} (hd : decode (mB i) pc = .ok (.iinc j w, 3)) (hj : L[j]? = some (some (vi z))) (hn : j < mL i) (kk : xX sc i d n0 mc ms Q (pc + 3) (L.set j (some (vi (z + w)))) st cu su R M) : xX sc i d n0 mc ms Q pc L st cu su R M := by
  intro p l e Rm s m args below meth c D cI cZ cG sb b Z Cx hZ H locs ls hH hS hl
  have hm : (j, Value.int (xI z)) ∈ xas sb b 0 L := (xas_mem sb b L 0 _).mpr ⟨j, vi z, hj, by rw [Nat.zero_add]; rfl⟩
  obtain ⟨k, hk⟩ := List.getElem?_of_mem hm
  exact lv_iinc (x := xI z) (v := xI (z + w)) Cx.1.1 Cx.1.2.1 hd hl hk (xI_add z w).symm hn rfl (fun ls' h' => kk p l e Rm s m args below meth c D cI cZ cG sb b Z Cx hZ H locs ls' hH hS (xas_set rfl h'))
theorem x_locals (L' : List (Option AV)) (hs : ∀ (j : Nat) (v : AV), L'[j]? = some (some v) → L[j]? = some (some v)) (kk : xX sc i d n0 mc ms Q pc L' st cu su R M) : xX sc i d n0 mc ms Q pc L st cu su R M := by
  intro p l e Rm s m args below meth c D cI cZ cG sb b Z Cx hZ H locs ls hH hS hl
  exact kk p l e Rm s m args below meth c D cI cZ cG sb b Z Cx hZ H locs ls hH hS (xas_sub hl hs)
theorem x_iadd {x y : Int} (hd : decode (mB i) pc = .ok (.iadd, 1)) (kk : xX sc i d n0 mc ms Q (pc + 1) L (vi (x + y) :: st) cu su R M) : xX sc i d n0 mc ms Q pc L (vi y :: vi x :: st) cu su R M := by
  intro p l e Rm s m args below meth c D cI cZ cG sb b Z Cx hZ H locs ls hH hS hl
  have k1 : W p l e Rm s m args below meth c H locs cu su Z (F0 m (pc + 1) ls (.int (xI (x + y)) :: st.map (cv sb b))) := kk p l e Rm s m args below meth c D cI cZ cG sb b Z Cx hZ H locs ls hH hS hl
  rw [xI_add x y] at k1
  exact lv_iadd Cx.1.1 Cx.1.2.1 hd k1
theorem x_isub {x y : Int} (hd : decode (mB i) pc = .ok (.isub, 1)) (kk : xX sc i d n0 mc ms Q (pc + 1) L (vi (x - y) :: st) cu su R M) : xX sc i d n0 mc ms Q pc L (vi y :: vi x :: st) cu su R M := by
  intro p l e Rm s m args below meth c D cI cZ cG sb b Z Cx hZ H locs ls hH hS hl
  have k1 : W p l e Rm s m args below meth c H locs cu su Z (F0 m (pc + 1) ls (.int (xI (x - y)) :: st.map (cv sb b))) := kk p l e Rm s m args below meth c D cI cZ cG sb b Z Cx hZ H locs ls hH hS hl
  rw [xI_sub x y] at k1
  exact lv_isub Cx.1.1 Cx.1.2.1 hd k1
theorem x_imul {x y : Int} (hd : decode (mB i) pc = .ok (.imul, 1)) (kk : xX sc i d n0 mc ms Q (pc + 1) L (vi (x * y) :: st) cu su R M) : xX sc i d n0 mc ms Q pc L (vi y :: vi x :: st) cu su R M := by
  intro p l e Rm s m args below meth c D cI cZ cG sb b Z Cx hZ H locs ls hH hS hl
  have k1 : W p l e Rm s m args below meth c H locs cu su Z (F0 m (pc + 1) ls (.int (xI (x * y)) :: st.map (cv sb b))) := kk p l e Rm s m args below meth c D cI cZ cG sb b Z Cx hZ H locs ls hH hS hl
  rw [xI_mul x y] at k1
  exact lv_imul Cx.1.1 Cx.1.2.1 hd k1
theorem x_iand {x y : Int} (hd : decode (mB i) pc = .ok (.iand, 1)) (kk : xX sc i d n0 mc ms Q (pc + 1) L (vi (xAnd x y) :: st) cu su R M) : xX sc i d n0 mc ms Q pc L (vi y :: vi x :: st) cu su R M := by
  intro p l e Rm s m args below meth c D cI cZ cG sb b Z Cx hZ H locs ls hH hS hl
  have k1 : W p l e Rm s m args below meth c H locs cu su Z (F0 m (pc + 1) ls (.int (xI (xAnd x y)) :: st.map (cv sb b))) := kk p l e Rm s m args below meth c D cI cZ cG sb b Z Cx hZ H locs ls hH hS hl
  rw [xI_and x y] at k1
  exact lv_iand Cx.1.1 Cx.1.2.1 hd k1
theorem x_ior {x y : Int} (hd : decode (mB i) pc = .ok (.ior, 1)) (kk : xX sc i d n0 mc ms Q (pc + 1) L (vi (xOr x y) :: st) cu su R M) : xX sc i d n0 mc ms Q pc L (vi y :: vi x :: st) cu su R M := by
  intro p l e Rm s m args below meth c D cI cZ cG sb b Z Cx hZ H locs ls hH hS hl
  have k1 : W p l e Rm s m args below meth c H locs cu su Z (F0 m (pc + 1) ls (.int (xI (xOr x y)) :: st.map (cv sb b))) := kk p l e Rm s m args below meth c D cI cZ cG sb b Z Cx hZ H locs ls hH hS hl
  rw [xI_or x y] at k1
  exact lv_ior Cx.1.1 Cx.1.2.1 hd k1
theorem x_ixor {x y : Int} (hd : decode (mB i) pc = .ok (.ixor, 1)) (kk : xX sc i d n0 mc ms Q (pc + 1) L (vi (xXor x y) :: st) cu su R M) : xX sc i d n0 mc ms Q pc L (vi y :: vi x :: st) cu su R M := by
  intro p l e Rm s m args below meth c D cI cZ cG sb b Z Cx hZ H locs ls hH hS hl
  have k1 : W p l e Rm s m args below meth c H locs cu su Z (F0 m (pc + 1) ls (.int (xI (xXor x y)) :: st.map (cv sb b))) := kk p l e Rm s m args below meth c D cI cZ cG sb b Z Cx hZ H locs ls hH hS hl
  rw [xI_xor x y] at k1
  exact lv_ixor Cx.1.1 Cx.1.2.1 hd k1
theorem x_ishl {x y : Int} (hd : decode (mB i) pc = .ok (.ishl, 1)) (kk : xX sc i d n0 mc ms Q (pc + 1) L (vi (xShl x y) :: st) cu su R M) : xX sc i d n0 mc ms Q pc L (vi y :: vi x :: st) cu su R M := by
  intro p l e Rm s m args below meth c D cI cZ cG sb b Z Cx hZ H locs ls hH hS hl
  have k1 : W p l e Rm s m args below meth c H locs cu su Z (F0 m (pc + 1) ls (.int (xI (xShl x y)) :: st.map (cv sb b))) := kk p l e Rm s m args below meth c D cI cZ cG sb b Z Cx hZ H locs ls hH hS hl
  rw [xI_shl x y] at k1
  exact lv_ishl Cx.1.1 Cx.1.2.1 hd k1
theorem x_ishr {x y : Int} (hd : decode (mB i) pc = .ok (.ishr, 1)) (kk : xX sc i d n0 mc ms Q (pc + 1) L (vi (xShr x y) :: st) cu su R M) : xX sc i d n0 mc ms Q pc L (vi y :: vi x :: st) cu su R M := by
  intro p l e Rm s m args below meth c D cI cZ cG sb b Z Cx hZ H locs ls hH hS hl
  have k1 : W p l e Rm s m args below meth c H locs cu su Z (F0 m (pc + 1) ls (.int (xI (xShr x y)) :: st.map (cv sb b))) := kk p l e Rm s m args below meth c D cI cZ cG sb b Z Cx hZ H locs ls hH hS hl
  rw [xI_shr x y] at k1
  exact lv_ishr Cx.1.1 Cx.1.2.1 hd k1
theorem x_idiv {x y : Int} (hd : decode (mB i) pc = .ok (.idiv, 1)) (hx : xin x) (hy : xin y) (h0 : y ≠ 0) (h1 : y ≠ -1) (kk : xX sc i d n0 mc ms Q (pc + 1) L (vi (x.tdiv y) :: st) cu su R M) : xX sc i d n0 mc ms Q pc L (vi y :: vi x :: st) cu su R M := by
  intro p l e Rm s m args below meth c D cI cZ cG sb b Z Cx hZ H locs ls hH hS hl
  have k1 : W p l e Rm s m args below meth c H locs cu su Z (F0 m (pc + 1) ls (.int (xI (x.tdiv y)) :: st.map (cv sb b))) := kk p l e Rm s m args below meth c D cI cZ cG sb b Z Cx hZ H locs ls hH hS hl
  rw [xI_div hx hy h1] at k1
  exact lv_idiv Cx.1.1 Cx.1.2.1 hd (fun q => h0 ((xI_inj hy xin0).mp (q.trans xI_0.symm))) k1
theorem x_irem {x y : Int} (hd : decode (mB i) pc = .ok (.irem, 1)) (hx : xin x) (hy : xin y) (h0 : y ≠ 0) (h1 : y ≠ -1) (kk : xX sc i d n0 mc ms Q (pc + 1) L (vi (x - x.tdiv y * y) :: st) cu su R M) : xX sc i d n0 mc ms Q pc L (vi y :: vi x :: st) cu su R M := by
  intro p l e Rm s m args below meth c D cI cZ cG sb b Z Cx hZ H locs ls hH hS hl
  have k1 : W p l e Rm s m args below meth c H locs cu su Z (F0 m (pc + 1) ls (.int (xI (x - x.tdiv y * y)) :: st.map (cv sb b))) := kk p l e Rm s m args below meth c D cI cZ cG sb b Z Cx hZ H locs ls hH hS hl
  rw [xI_sub, xI_mul, xI_div hx hy h1] at k1
  exact lv_irem Cx.1.1 Cx.1.2.1 hd (fun q => h0 ((xI_inj hy xin0).mp (q.trans xI_0.symm))) k1
theorem x_dup {v : AV} (hd : decode (mB i) pc = .ok (.dup, 1)) (kk : xX sc i d n0 mc ms Q (pc + 1) L (v :: v :: st) cu su R M) : xX sc i d n0 mc ms Q pc L (v :: st) cu su R M := by
  intro p l e Rm s m args below meth c D cI cZ cG sb b Z Cx hZ H locs ls hH hS hl
  have k1 : W p l e Rm s m args below meth c H locs cu su Z (F0 m (pc + 1) ls (cv sb b v :: cv sb b v :: st.map (cv sb b))) := kk p l e Rm s m args below meth c D cI cZ cG sb b Z Cx hZ H locs ls hH hS hl
  exact lv_dup Cx.1.1 Cx.1.2.1 hd (cv_cat sb b v) k1
theorem x_pop {v : AV} (hd : decode (mB i) pc = .ok (.pop, 1)) (kk : xX sc i d n0 mc ms Q (pc + 1) L st cu su R M) : xX sc i d n0 mc ms Q pc L (v :: st) cu su R M := by
  intro p l e Rm s m args below meth c D cI cZ cG sb b Z Cx hZ H locs ls hH hS hl
  have k1 : W p l e Rm s m args below meth c H locs cu su Z (F0 m (pc + 1) ls (st.map (cv sb b))) := kk p l e Rm s m args below meth c D cI cZ cG sb b Z Cx hZ H locs ls hH hS hl
  exact lv_pop Cx.1.1 Cx.1.2.1 hd (cv_cat sb b v) k1
theorem x_dup2 {v w : AV} (hd : decode (mB i) pc = .ok (.dup2, 1)) (kk : xX sc i d n0 mc ms Q (pc + 1) L (v :: w :: v :: w :: st) cu su R M) : xX sc i d n0 mc ms Q pc L (v :: w :: st) cu su R M := by
  intro p l e Rm s m args below meth c D cI cZ cG sb b Z Cx hZ H locs ls hH hS hl
  have k1 : W p l e Rm s m args below meth c H locs cu su Z (F0 m (pc + 1) ls (cv sb b v :: cv sb b w :: cv sb b v :: cv sb b w :: st.map (cv sb b))) := kk p l e Rm s m args below meth c D cI cZ cG sb b Z Cx hZ H locs ls hH hS hl
  exact lv_dup2_11 Cx.1.1 Cx.1.2.1 hd (cv_cat sb b v) (cv_cat sb b w) k1
theorem x_dup_x1 {v w : AV} (hd : decode (mB i) pc = .ok (.dup_x1, 1)) (kk : xX sc i d n0 mc ms Q (pc + 1) L (v :: w :: v :: st) cu su R M) : xX sc i d n0 mc ms Q pc L (v :: w :: st) cu su R M := by
  intro p l e Rm s m args below meth c D cI cZ cG sb b Z Cx hZ H locs ls hH hS hl
  have k1 : W p l e Rm s m args below meth c H locs cu su Z (F0 m (pc + 1) ls (cv sb b v :: cv sb b w :: cv sb b v :: st.map (cv sb b))) := kk p l e Rm s m args below meth c D cI cZ cG sb b Z Cx hZ H locs ls hH hS hl
  exact lv_dup_x1 Cx.1.1 Cx.1.2.1 hd (cv_cat sb b v) (cv_cat sb b w) k1
theorem x_goto {off : Int} {tgt : Nat} (hd : decode (mB i) pc = .ok (.goto off, 3)) (ht : (pc : Int) + off = (tgt : Int)) (kk : xX sc i d n0 mc ms Q tgt L st cu su R M) : xX sc i d n0 mc ms Q pc L st cu su R M := by
  intro p l e Rm s m args below meth c D cI cZ cG sb b Z Cx hZ H locs ls hH hS hl
  exact lv_goto Cx.1.1 Cx.1.2.1 hd ht (kk p l e Rm s m args below meth c D cI cZ cG sb b Z Cx hZ H locs ls hH hS hl)
theorem x_icmp_eq {x y off : Int} {tgt : Nat} (hd : decode (mB i) pc = .ok (.if_icmp .eq off, 3)) (ht : (pc : Int) + off = (tgt : Int)) (hx : xin x) (hy : xin y) (kt : x = y → xX sc i d n0 mc ms Q tgt L st cu su R M) (kf : ¬ x = y → xX sc i d n0 mc ms Q (pc + 3) L st cu su R M) : xX sc i d n0 mc ms Q pc L (vi y :: vi x :: st) cu su R M := by
  intro p l e Rm s m args below meth c D cI cZ cG sb b Z Cx hZ H locs ls hH hS hl
  exact lv_icmp_eq (x := xI x) (y := xI y) Cx.1.1 Cx.1.2.1 hd ht (fun h => kt ((xI_inj hx hy).mp h) p l e Rm s m args below meth c D cI cZ cG sb b Z Cx hZ H locs ls hH hS hl) (fun h => kf ((not_congr (xI_inj hx hy)).mp h) p l e Rm s m args below meth c D cI cZ cG sb b Z Cx hZ H locs ls hH hS hl)
theorem x_if_eq {z off : Int} {tgt : Nat} (hd : decode (mB i) pc = .ok (.ifCond .eq off, 3)) (ht : (pc : Int) + off = (tgt : Int)) (hz : xin z) (kt : z = 0 → xX sc i d n0 mc ms Q tgt L st cu su R M) (kf : ¬ z = 0 → xX sc i d n0 mc ms Q (pc + 3) L st cu su R M) : xX sc i d n0 mc ms Q pc L (vi z :: st) cu su R M := by
  intro p l e Rm s m args below meth c D cI cZ cG sb b Z Cx hZ H locs ls hH hS hl
  exact lv_if_eq (x := xI z) Cx.1.1 Cx.1.2.1 hd ht (fun h => kt ((xI_inj hz xin0).mp h) p l e Rm s m args below meth c D cI cZ cG sb b Z Cx hZ H locs ls hH hS hl) (fun h => kf ((not_congr (xI_inj hz xin0)).mp h) p l e Rm s m args below meth c D cI cZ cG sb b Z Cx hZ H locs ls hH hS hl)
theorem x_icmp_ne {x y off : Int} {tgt : Nat} (hd : decode (mB i) pc = .ok (.if_icmp .ne off, 3)) (ht : (pc : Int) + off = (tgt : Int)) (hx : xin x) (hy : xin y) (kt : ¬ x = y → xX sc i d n0 mc ms Q tgt L st cu su R M) (kf : x = y → xX sc i d n0 mc ms Q (pc + 3) L st cu su R M) : xX sc i d n0 mc ms Q pc L (vi y :: vi x :: st) cu su R M := by
  intro p l e Rm s m args below meth c D cI cZ cG sb b Z Cx hZ H locs ls hH hS hl
  exact lv_icmp_ne (x := xI x) (y := xI y) Cx.1.1 Cx.1.2.1 hd ht (fun h => kt ((not_congr (xI_inj hx hy)).mp h) p l e Rm s m args below meth c D cI cZ cG sb b Z Cx hZ H locs ls hH hS hl) (fun h => kf ((xI_inj hx hy).mp h) p l e Rm s m args below meth c D cI cZ cG sb b Z Cx hZ H locs ls hH hS hl)
theorem x_if_ne {z off : Int} {tgt : Nat} (hd : decode (mB i) pc = .ok (.ifCond .ne off, 3)) (ht : (pc : Int) + off = (tgt : Int)) (hz : xin z) (kt : ¬ z = 0 → xX sc i d n0 mc ms Q tgt L st cu su R M) (kf : z = 0 → xX sc i d n0 mc ms Q (pc + 3) L st cu su R M) : xX sc i d n0 mc ms Q pc L (vi z :: st) cu su R M := by
  intro p l e Rm s m args below meth c D cI cZ cG sb b Z Cx hZ H locs ls hH hS hl
  exact lv_if_ne (x := xI z) Cx.1.1 Cx.1.2.1 hd ht (fun h => kt ((not_congr (xI_inj hz xin0)).mp h) p l e Rm s m args below meth c D cI cZ cG sb b Z Cx hZ H locs ls hH hS hl) (fun h => kf ((xI_inj hz xin0).mp h) p l e Rm s m args below meth c D cI cZ cG sb b Z Cx hZ H locs ls hH hS hl)
theorem x_icmp_lt {x y off : Int} {tgt : Nat} (hd : decode (mB i) pc = .ok (.if_icmp .lt off, 3)) (ht : (pc : Int) + off = (tgt : Int)) (hx : xin x) (hy : xin y) (kt : x < y → xX sc i d n0 mc ms Q tgt L st cu su R M) (kf : ¬ x < y → xX sc i d n0 mc ms Q (pc + 3) L st cu su R M) : xX sc i d n0 mc ms Q pc L (vi y :: vi x :: st) cu su R M := by
  intro p l e Rm s m args below meth c D cI cZ cG sb b Z Cx hZ H locs ls hH hS hl
  exact lv_icmp_lt (x := xI x) (y := xI y) Cx.1.1 Cx.1.2.1 hd ht (fun h => kt ((xI_lt hx hy).mp h) p l e Rm s m args below meth c D cI cZ cG sb b Z Cx hZ H locs ls hH hS hl) (fun h => kf ((not_congr (xI_lt hx hy)).mp h) p l e Rm s m args below meth c D cI cZ cG sb b Z Cx hZ H locs ls hH hS hl)
theorem x_if_lt {z off : Int} {tgt : Nat} (hd : decode (mB i) pc = .ok (.ifCond .lt off, 3)) (ht : (pc : Int) + off = (tgt : Int)) (hz : xin z) (kt : z < 0 → xX sc i d n0 mc ms Q tgt L st cu su R M) (kf : ¬ z < 0 → xX sc i d n0 mc ms Q (pc + 3) L st cu su R M) : xX sc i d n0 mc ms Q pc L (vi z :: st) cu su R M := by
  intro p l e Rm s m args below meth c D cI cZ cG sb b Z Cx hZ H locs ls hH hS hl
  exact lv_if_lt (x := xI z) Cx.1.1 Cx.1.2.1 hd ht (fun h => kt ((xI_lt hz xin0).mp h) p l e Rm s m args below meth c D cI cZ cG sb b Z Cx hZ H locs ls hH hS hl) (fun h => kf ((not_congr (xI_lt hz xin0)).mp h) p l e Rm s m args below meth c D cI cZ cG sb b Z Cx hZ H locs ls hH hS hl)
theorem x_icmp_ge {x y off : Int} {tgt : Nat} (hd : decode (mB i) pc = .ok (.if_icmp .ge off, 3)) (ht : (pc : Int) + off = (tgt : Int)) (hx : xin x) (hy : xin y) (kt : y ≤ x → xX sc i d n0 mc ms Q tgt L st cu su R M) (kf : ¬ y ≤ x → xX sc i d n0 mc ms Q (pc + 3) L st cu su R M) : xX sc i d n0 mc ms Q pc L (vi y :: vi x :: st) cu su R M := by
  intro p l e Rm s m args below meth c D cI cZ cG sb b Z Cx hZ H locs ls hH hS hl
  exact lv_icmp_ge (x := xI x) (y := xI y) Cx.1.1 Cx.1.2.1 hd ht (fun h => kt ((xI_le hy hx).mp h) p l e Rm s m args below meth c D cI cZ cG sb b Z Cx hZ H locs ls hH hS hl) (fun h => kf ((not_congr (xI_le hy hx)).mp h) p l e Rm s m args below meth c D cI cZ cG sb b Z Cx hZ H locs ls hH hS hl)
theorem x_if_ge {z off : Int} {tgt : Nat} (hd : decode (mB i) pc = .ok (.ifCond .ge off, 3)) (ht : (pc : Int) + off = (tgt : Int)) (hz : xin z) (kt : 0 ≤ z → xX sc i d n0 mc ms Q tgt L st cu su R M) (kf : ¬ 0 ≤ z → xX sc i d n0 mc ms Q (pc + 3) L st cu su R M) : xX sc i d n0 mc ms Q pc L (vi z :: st) cu su R M := by
  intro p l e Rm s m args below meth c D cI cZ cG sb b Z Cx hZ H locs ls hH hS hl
  exact lv_if_ge (x := xI z) Cx.1.1 Cx.1.2.1 hd ht (fun h => kt ((xI_le xin0 hz).mp h) p l e Rm s m args below meth c D cI cZ cG sb b Z Cx hZ H locs ls hH hS hl) (fun h => kf ((not_congr (xI_le xin0 hz)).mp h) p l e Rm s m args below meth c D cI cZ cG sb b Z Cx hZ H locs ls hH hS hl)
theorem x_icmp_gt {x y off : Int} {tgt : Nat} (hd : decode (mB i) pc = .ok (.if_icmp .gt off, 3)) (ht : (pc : Int) + off = (tgt : Int)) (hx : xin x) (hy : xin y) (kt : y < x → xX sc i d n0 mc ms Q tgt L st cu su R M) (kf : ¬ y < x → xX sc i d n0 mc ms Q (pc + 3) L st cu su R M) : xX sc i d n0 mc ms Q pc L (vi y :: vi x :: st) cu su R M := by
  intro p l e Rm s m args below meth c D cI cZ cG sb b Z Cx hZ H locs ls hH hS hl
  exact lv_icmp_gt (x := xI x) (y := xI y) Cx.1.1 Cx.1.2.1 hd ht (fun h => kt ((xI_lt hy hx).mp h) p l e Rm s m args below meth c D cI cZ cG sb b Z Cx hZ H locs ls hH hS hl) (fun h => kf ((not_congr (xI_lt hy hx)).mp h) p l e Rm s m args below meth c D cI cZ cG sb b Z Cx hZ H locs ls hH hS hl)
theorem x_if_gt {z off : Int} {tgt : Nat} (hd : decode (mB i) pc = .ok (.ifCond .gt off, 3)) (ht : (pc : Int) + off = (tgt : Int)) (hz : xin z) (kt : 0 < z → xX sc i d n0 mc ms Q tgt L st cu su R M) (kf : ¬ 0 < z → xX sc i d n0 mc ms Q (pc + 3) L st cu su R M) : xX sc i d n0 mc ms Q pc L (vi z :: st) cu su R M := by
  intro p l e Rm s m args below meth c D cI cZ cG sb b Z Cx hZ H locs ls hH hS hl
  exact lv_if_gt (x := xI z) Cx.1.1 Cx.1.2.1 hd ht (fun h => kt ((xI_lt xin0 hz).mp h) p l e Rm s m args below meth c D cI cZ cG sb b Z Cx hZ H locs ls hH hS hl) (fun h => kf ((not_congr (xI_lt xin0 hz)).mp h) p l e Rm s m args below meth c D cI cZ cG sb b Z Cx hZ H locs ls hH hS hl)
theorem x_icmp_le {x y off : Int} {tgt : Nat} (hd : decode (mB i) pc = .ok (.if_icmp .le off, 3)) (ht : (pc : Int) + off = (tgt : Int)) (hx : xin x) (hy : xin y) (kt : x ≤ y → xX sc i d n0 mc ms Q tgt L st cu su R M) (kf : ¬ x ≤ y → xX sc i d n0 mc ms Q (pc + 3) L st cu su R M) : xX sc i d n0 mc ms Q pc L (vi y :: vi x :: st) cu su R M := by
  intro p l e Rm s m args below meth c D cI cZ cG sb b Z Cx hZ H locs ls hH hS hl
  exact lv_icmp_le (x := xI x) (y := xI y) Cx.1.1 Cx.1.2.1 hd ht (fun h => kt ((xI_le hx hy).mp h) p l e Rm s m args below meth c D cI cZ cG sb b Z Cx hZ H locs ls hH hS hl) (fun h => kf ((not_congr (xI_le hx hy)).mp h) p l e Rm s m args below meth c D cI cZ cG sb b Z Cx hZ H locs ls hH hS hl)
theorem x_if_le {z off : Int} {tgt : Nat} (hd : decode (mB i) pc = .ok (.ifCond .le off, 3)) (ht : (pc : Int) + off = (tgt : Int)) (hz : xin z) (kt : z ≤ 0 → xX sc i d n0 mc ms Q tgt L st cu su R M) (kf : ¬ z ≤ 0 → xX sc i d n0 mc ms Q (pc + 3) L st cu su R M) : xX sc i d n0 mc ms Q pc L (vi z :: st) cu su R M := by
  intro p l e Rm s m args below meth c D cI cZ cG sb b Z Cx hZ H locs ls hH hS hl
  exact lv_if_le (x := xI z) Cx.1.1 Cx.1.2.1 hd ht (fun h => kt ((xI_le hz xin0).mp h) p l e Rm s m args below meth c D cI cZ cG sb b Z Cx hZ H locs ls hH hS hl) (fun h => kf ((not_congr (xI_le hz xin0)).mp h) p l e Rm s m args below meth c D cI cZ cG sb b Z Cx hZ H locs ls hH hS hl)
theorem x_iret {z : Int} (hd : decode (mB i) pc = .ok (.ireturn, 1)) (hr : mR i = some .int) (hc : cu = mc) (hs : su ≤ ms) (hq : Q (some (vi z)) R M) : xX sc i d n0 mc ms Q pc L [vi z] cu su R M := by
  intro p l e Rm s m args below meth c D cI cZ cG sb b Z Cx hZ H locs ls hH hS hl
  subst hc
  exact W.widen (Nat.le_refl _) hs (hZ H locs ls pc R M (some (vi z)) hq hH hS (Or.inr ⟨z, rfl, hd, Or.inl hr⟩))
theorem x_zret {z : Int} (hd : decode (mB i) pc = .ok (.ireturn, 1)) (hr : mR i = some .boolean) (hz : z = 0 ∨ z = 1) (hc : cu = mc) (hs : su ≤ ms) (hq : Q (some (vi z)) R M) : xX sc i d n0 mc ms Q pc L [vi z] cu su R M := by
  intro p l e Rm s m args below meth c D cI cZ cG sb b Z Cx hZ H locs ls hH hS hl
  subst hc
  exact W.widen (Nat.le_refl _) hs (hZ H locs ls pc R M (some (vi z)) hq hH hS (Or.inr ⟨z, rfl, hd, Or.inr ⟨hr, hz⟩⟩))
theorem x_vret (hd : decode (mB i) pc = .ok (.return_, 1)) (hr : mR i = none) (hc : cu = mc) (hs : su ≤ ms) (hq : Q none R M) : xX sc i d n0 mc ms Q pc L [] cu su R M := by
  intro p l e Rm s m args below meth c D cI cZ cG sb b Z Cx hZ H locs ls hH hS hl
  subst hc
  exact W.widen (Nat.le_refl _) hs (hZ H locs ls pc R M none hq hH hS (Or.inl ⟨rfl, hr, hd⟩))
theorem x_getI {C : String} {T : u_T} {ty : Nat → FieldType} {N ci idx k : Nat} (j : Nat) (hd : decode (mB i) pc = .ok (.getfield idx, 3)) (hC : cOK C T N ty) (hc : xCL[ci]? = some (C, T, N)) (hk : k < n0 + cu) (hS0 : xS k = (ci + 3, N)) (hj : j < N) (hi : xIs ci j = false) (hlk : Cond.fieldLink (mO i) idx (T j).1 (T j).2.1 (T j).2.2.1 ∈ WS) (kk : xX sc i d n0 mc ms Q (pc + 3) L (vi (M k j) :: st) cu su R M) : xX sc i d n0 mc ms Q pc L (vr k :: st) cu su R M := by
  intro p l e Rm s m args below meth c D cI cZ cG sb b Z Cx hZ H locs ls hH hS hl
  have k1 : W p l e Rm s m args below meth c H locs cu su Z (F0 m (pc + 3) ls (.int (xI (M k j)) :: st.map (cv sb b))) := kk p l e Rm s m args below meth c D cI cZ cG sb b Z Cx hZ H locs ls hH hS hl
  have he := xwd_at (cI := cI) (cZ := cZ) (cG := cG) (b := b) (R := R) (M := M) hk
  rw [xce_o hS0] at he
  exact va_get (v := .int (xI (M k j))) Cx.1.1 Cx.1.2.1 Cx.1.2.2.2.2 hC.1 Cx.1.2.2.2.1 Cx.2.1.1 hH k he hc j hj (Cx.1.2.2.2.2 _ hlk) (fun _ h => h) (by rw [xfs, List.getElem?_map, List.getElem?_range hj]; simp [hi]) hd k1
theorem x_getR {C : String} {T : u_T} {ty : Nat → FieldType} {N ci idx k : Nat} (j : Nat) {t : Nat} (hd : decode (mB i) pc = .ok (.getfield idx, 3)) (hC : cOK C T N ty) (hc : xCL[ci]? = some (C, T, N)) (hk : k < n0 + cu) (hS0 : xS k = (ci + 3, N)) (hj : j < N) (hi : xIs ci j = true) (hr : R k j = some t) (hlk : Cond.fieldLink (mO i) idx (T j).1 (T j).2.1 (T j).2.2.1 ∈ WS) (kk : xX sc i d n0 mc ms Q (pc + 3) L (vr t :: st) cu su R M) : xX sc i d n0 mc ms Q pc L (vr k :: st) cu su R M := by
  intro p l e Rm s m args below meth c D cI cZ cG sb b Z Cx hZ H locs ls hH hS hl
  have k1 : W p l e Rm s m args below meth c H locs cu su Z (F0 m (pc + 3) ls (.ref (b + t) :: st.map (cv sb b))) := kk p l e Rm s m args below meth c D cI cZ cG sb b Z Cx hZ H locs ls hH hS hl
  have he := xwd_at (cI := cI) (cZ := cZ) (cG := cG) (b := b) (R := R) (M := M) hk
  rw [xce_o hS0] at he
  exact va_get (v := .ref (b + t)) Cx.1.1 Cx.1.2.1 Cx.1.2.2.2.2 hC.1 Cx.1.2.2.2.1 Cx.2.1.1 hH k he hc j hj (Cx.1.2.2.2.2 _ hlk) (fun _ h => h) (by rw [xfs, List.getElem?_map, List.getElem?_range hj]; simp [hi, hr, va_rf]) hd k1
theorem x_putI {C : String} {T : u_T} {ty : Nat → FieldType} {N ci idx k : Nat} (j : Nat) {z : Int} (hd : decode (mB i) pc = .ok (.putfield idx, 3)) (hC : cOK C T N ty) (hc : xCL[ci]? = some (C, T, N)) (hk : k < n0 + cu) (hS0 : xS k = (ci + 3, N)) (hj : j < N) (hi : xIs ci j = false) (hf : (T j).2.2.2 = false) (hty : ty j = .int) (hlk : Cond.fieldLink (mO i) idx (T j).1 (T j).2.1 (T j).2.2.1 ∈ WS) (kk : ∀ M1, M1 = xU M k j z → xX sc i d n0 mc ms Q (pc + 3) L st cu su R M1) : xX sc i d n0 mc ms Q pc L (vi z :: vr k :: st) cu su R M := by
  intro p l e Rm s m args below meth c D cI cZ cG sb b Z Cx hZ H locs ls hH hS hl
  have he := xwd_at (cI := cI) (cZ := cZ) (cG := cG) (b := b) (R := R) (M := M) hk
  rw [xce_o hS0] at he
  refine va_put (v := .int (xI z)) (ty := .int) Cx.1.1 Cx.1.2.1 Cx.1.2.2.2.2 hC.1 ty hC.2.1 hC.2.2 Cx.1.2.2.2.1 Cx.2.1.1 hH xwd_D hS k he hc j hj (Cx.1.2.2.2.2 _ hlk) (fun _ h => h) hf ((hC.2.1 j hj).trans (congrArg some hty)) rfl rfl (by simpa [xfs] using hj) hd (fun H1 locs1 h1 _ h3 => ?_)
  refine kk _ rfl p l e Rm s m args below meth c D cI cZ cG sb b Z Cx hZ H1 locs1 ls ?_ h3 hl
  rw [xfs_setI hj hi, ← xce_o (cI := cI) (cZ := cZ) (cG := cG) hS0, xwd_set hk (fun j' hj' => xce_congr (xU_o hj') rfl)] at h1
  exact h1
theorem x_getIN {C host : String} {T : u_T} {ty : Nat → FieldType} {N ci idx k : Nat} (j : Nat) (hd : decode (mB i) pc = .ok (.getfield idx, 3)) (hC : cOK C T N ty) (hc : xCL[ci]? = some (C, T, N)) (hk : k < n0 + cu) (hS0 : xS k = (ci + 3, N)) (hj : j < N) (hi : xIs ci j = false) (hlk : Cond.fieldLinkNest (mO i) idx (T j).1 (T j).2.1 (T j).2.2.1 host ∈ NW) (kk : xX sc i d n0 mc ms Q (pc + 3) L (vi (M k j) :: st) cu su R M) : xX sc i d n0 mc ms Q pc L (vr k :: st) cu su R M := by
  intro p l e Rm s m args below meth c D cI cZ cG sb b Z Cx hZ H locs ls hH hS hl
  have k1 : W p l e Rm s m args below meth c H locs cu su Z (F0 m (pc + 3) ls (.int (xI (M k j)) :: st.map (cv sb b))) := kk p l e Rm s m args below meth c D cI cZ cG sb b Z Cx hZ H locs ls hH hS hl
  have he := xwd_at (cI := cI) (cZ := cZ) (cG := cG) (b := b) (R := R) (M := M) hk
  rw [xce_o hS0] at he
  exact va_getN (v := .int (xI (M k j))) Cx.1.1 Cx.1.2.1 Cx.1.2.2.2.2 hC.1 Cx.1.2.2.2.1 Cx.2.1.1 hH k he hc j hj (va_Nw.use rfl (Cx.2.1.2.1 _ hlk)) (fun _ h => h) (by rw [xfs, List.getElem?_map, List.getElem?_range hj]; simp [hi]) hd k1
theorem x_getRN {C host : String} {T : u_T} {ty : Nat → FieldType} {N ci idx k : Nat} (j : Nat) {t : Nat} (hd : decode (mB i) pc = .ok (.getfield idx, 3)) (hC : cOK C T N ty) (hc : xCL[ci]? = some (C, T, N)) (hk : k < n0 + cu) (hS0 : xS k = (ci + 3, N)) (hj : j < N) (hi : xIs ci j = true) (hr : R k j = some t) (hlk : Cond.fieldLinkNest (mO i) idx (T j).1 (T j).2.1 (T j).2.2.1 host ∈ NW) (kk : xX sc i d n0 mc ms Q (pc + 3) L (vr t :: st) cu su R M) : xX sc i d n0 mc ms Q pc L (vr k :: st) cu su R M := by
  intro p l e Rm s m args below meth c D cI cZ cG sb b Z Cx hZ H locs ls hH hS hl
  have k1 : W p l e Rm s m args below meth c H locs cu su Z (F0 m (pc + 3) ls (.ref (b + t) :: st.map (cv sb b))) := kk p l e Rm s m args below meth c D cI cZ cG sb b Z Cx hZ H locs ls hH hS hl
  have he := xwd_at (cI := cI) (cZ := cZ) (cG := cG) (b := b) (R := R) (M := M) hk
  rw [xce_o hS0] at he
  exact va_getN (v := .ref (b + t)) Cx.1.1 Cx.1.2.1 Cx.1.2.2.2.2 hC.1 Cx.1.2.2.2.1 Cx.2.1.1 hH k he hc j hj (va_Nw.use rfl (Cx.2.1.2.1 _ hlk)) (fun _ h => h) (by rw [xfs, List.getElem?_map, List.getElem?_range hj]; simp [hi, hr, va_rf]) hd k1
theorem x_putIN {C host : String} {T : u_T} {ty : Nat → FieldType} {N ci idx k : Nat} (j : Nat) {z : Int} (hd : decode (mB i) pc = .ok (.putfield idx, 3)) (hC : cOK C T N ty) (hc : xCL[ci]? = some (C, T, N)) (hk : k < n0 + cu) (hS0 : xS k = (ci + 3, N)) (hj : j < N) (hi : xIs ci j = false) (hf : (T j).2.2.2 = false) (hty : ty j = .int) (hlk : Cond.fieldLinkNest (mO i) idx (T j).1 (T j).2.1 (T j).2.2.1 host ∈ NW) (kk : ∀ M1, M1 = xU M k j z → xX sc i d n0 mc ms Q (pc + 3) L st cu su R M1) : xX sc i d n0 mc ms Q pc L (vi z :: vr k :: st) cu su R M := by
  intro p l e Rm s m args below meth c D cI cZ cG sb b Z Cx hZ H locs ls hH hS hl
  have he := xwd_at (cI := cI) (cZ := cZ) (cG := cG) (b := b) (R := R) (M := M) hk
  rw [xce_o hS0] at he
  refine va_putN (v := .int (xI z)) (ty := .int) Cx.1.1 Cx.1.2.1 Cx.1.2.2.2.2 hC.1 ty hC.2.1 hC.2.2 Cx.1.2.2.2.1 Cx.2.1.1 hH xwd_D hS k he hc j hj (va_Nw.use rfl (Cx.2.1.2.1 _ hlk)) (fun _ h => h) hf ((hC.2.1 j hj).trans (congrArg some hty)) rfl rfl (by simpa [xfs] using hj) hd (fun H1 locs1 h1 _ h3 => ?_)
  refine kk _ rfl p l e Rm s m args below meth c D cI cZ cG sb b Z Cx hZ H1 locs1 ls ?_ h3 hl
  rw [xfs_setI hj hi, ← xce_o (cI := cI) (cZ := cZ) (cG := cG) hS0, xwd_set hk (fun j' hj' => xce_congr (xU_o hj') rfl)] at h1
  exact h1
theorem x_putRF {C : String} {T : u_T} {ty : Nat → FieldType} {N ci idx k : Nat} (j : Nat) {t : Nat} (hd : decode (mB i) pc = .ok (.putfield idx, 3)) (hC : cOK C T N ty) (hc : xCL[ci]? = some (C, T, N)) (hk : k < n0 + cu) (hS0 : xS k = (ci + 3, N)) (hj : j < N) (hi : xIs ci j = true) (hf : (T j).2.2.2 = true) (hin : (mY i).name = "<init>") (hdecl : (T j).1 = mO i) (hn : ∀ a : Nat, narrow (ty j) (.ref a) = .ref a) (hfi : ∀ a : Nat, fits (ty j) (.ref a) = true) (hlk : Cond.fieldLink (mO i) idx (T j).1 (T j).2.1 (T j).2.2.1 ∈ WS) (kk : xX sc i d n0 mc ms Q (pc + 3) L st cu su (xUR R k j (some t)) M) : xX sc i d n0 mc ms Q pc L (vr t :: vr k :: st) cu su R M := by
  intro p l e Rm s m args below meth c D cI cZ cG sb b Z Cx hZ H locs ls hH hS hl
  have he := xwd_at (cI := cI) (cZ := cZ) (cG := cG) (b := b) (R := R) (M := M) hk
  rw [xce_o hS0] at he
  refine va_putF (v := .ref (b + t)) (ty := ty j) Cx.1.1 Cx.1.2.1 Cx.1.2.2.2.2 hC.1 ty hC.2.1 hC.2.2 Cx.1.2.2.2.1 Cx.2.1.1 hH xwd_D hS k he hc j hj (Cx.1.2.2.2.2 _ hlk) (fun _ h => h) hf (Cx.2.2.2.2.1 hin) hdecl (hC.2.1 j hj) (hn _) (hfi _) (by simpa [xfs] using hj) hd (fun H1 locs1 h1 _ h3 => ?_)
  refine kk p l e Rm s m args below meth c D cI cZ cG sb b Z Cx hZ H1 locs1 ls ?_ h3 hl
  rw [xfs_setR hj hi, ← xce_o (cI := cI) (cZ := cZ) (cG := cG) hS0, xwd_set hk (fun j' hj' => xce_congr rfl (xUR_o hj'))] at h1
  exact h1
theorem x_iald {N k : Nat} {z : Int} (hd : decode (mB i) pc = .ok (.iaload, 1)) (hk : k < n0 + cu) (hS0 : xS k = (0, N)) (hN : N < 2147483648) (h0 : 0 ≤ z) (h1 : z < N) (kk : xX sc i d n0 mc ms Q (pc + 1) L (vi (M k z.toNat) :: st) cu su R M) : xX sc i d n0 mc ms Q pc L (vi z :: vr k :: st) cu su R M := by
  intro p l e Rm s m args below meth c D cI cZ cG sb b Z Cx hZ H locs ls hH hS hl
  have k1 : W p l e Rm s m args below meth c H locs cu su Z (F0 m (pc + 1) ls (.int (xI (M k z.toNat)) :: st.map (cv sb b))) := kk p l e Rm s m args below meth c D cI cZ cG sb b Z Cx hZ H locs ls hH hS hl
  have he := xwd_at (cI := cI) (cZ := cZ) (cG := cG) (b := b) (R := R) (M := M) hk
  rw [xce_i hS0] at he
  rw [← xI_clamp h0 (by omega)] at k1
  exact va_iald (f := fun j => xI (M k j)) Cx.1.1 Cx.1.2.1 Cx.2.1.1 hH k 0 he rfl (xI_in h0 h1 hN) hd k1
theorem x_zald {N k : Nat} {z : Int} (hd : decode (mB i) pc = .ok (.baload, 1)) (hk : k < n0 + cu) (hS0 : xS k = (1, N)) (hN : N < 2147483648) (h0 : 0 ≤ z) (h1 : z < N) (kk : xX sc i d n0 mc ms Q (pc + 1) L (vi (M k z.toNat) :: st) cu su R M) : xX sc i d n0 mc ms Q pc L (vi z :: vr k :: st) cu su R M := by
  intro p l e Rm s m args below meth c D cI cZ cG sb b Z Cx hZ H locs ls hH hS hl
  have k1 : W p l e Rm s m args below meth c H locs cu su Z (F0 m (pc + 1) ls (.int (xI (M k z.toNat)) :: st.map (cv sb b))) := kk p l e Rm s m args below meth c D cI cZ cG sb b Z Cx hZ H locs ls hH hS hl
  have he := xwd_at (cI := cI) (cZ := cZ) (cG := cG) (b := b) (R := R) (M := M) hk
  rw [xce_z hS0] at he
  rw [← xI_clamp h0 (by omega)] at k1
  exact va_zald (f := fun j => xI (M k j)) Cx.1.1 Cx.1.2.1 Cx.2.1.1 hH k 1 he rfl (xI_in h0 h1 hN) hd k1
theorem x_iast {N k : Nat} {z v : Int} (hd : decode (mB i) pc = .ok (.iastore, 1)) (hk : k < n0 + cu) (hS0 : xS k = (0, N)) (hN : N < 2147483648) (h0 : 0 ≤ z) (h1 : z < N) (kk : ∀ M1, M1 = xU M k z.toNat v → xX sc i d n0 mc ms Q (pc + 1) L st cu su R M1) : xX sc i d n0 mc ms Q pc L (vi v :: vi z :: vr k :: st) cu su R M := by
  intro p l e Rm s m args below meth c D cI cZ cG sb b Z Cx hZ H locs ls hH hS hl
  have he := xwd_at (cI := cI) (cZ := cZ) (cG := cG) (b := b) (R := R) (M := M) hk
  rw [xce_i hS0] at he
  refine va_iast (f := fun j => xI (M k j)) Cx.1.1 Cx.1.2.1 Cx.2.1.1 hH xwd_D hS k 0 he rfl (xI_in h0 h1 hN) hd (fun H1 locs1 h2 _ h3 => ?_)
  refine kk _ rfl p l e Rm s m args below meth c D cI cZ cG sb b Z Cx hZ H1 locs1 ls ?_ h3 hl
  rw [xI_clamp h0 (by omega), xU_cell, ← xce_i (cI := cI) (cZ := cZ) (cG := cG) (b := b) (R := R) (M := xU M k z.toNat v) hS0, xwd_set hk (fun j' hj' => xce_congr (xU_o hj') rfl)] at h2
  exact h2
theorem x_zast {N k : Nat} {z v : Int} (hd : decode (mB i) pc = .ok (.bastore, 1)) (hk : k < n0 + cu) (hS0 : xS k = (1, N)) (hN : N < 2147483648) (h0 : 0 ≤ z) (h1 : z < N) (hv : v = 0 ∨ v = 1) (kk : ∀ M1, M1 = xU M k z.toNat v → xX sc i d n0 mc ms Q (pc + 1) L st cu su R M1) : xX sc i d n0 mc ms Q pc L (vi v :: vi z :: vr k :: st) cu su R M := by
  intro p l e Rm s m args below meth c D cI cZ cG sb b Z Cx hZ H locs ls hH hS hl
  have he := xwd_at (cI := cI) (cZ := cZ) (cG := cG) (b := b) (R := R) (M := M) hk
  rw [xce_z hS0] at he
  have hnar : vp_nar .boolean (xI v) = xI v := by rcases hv with rfl | rfl <;> decide
  refine va_zast (f := fun j => xI (M k j)) Cx.1.1 Cx.1.2.1 Cx.2.1.1 hH xwd_D hS k 1 he rfl (xI_in h0 h1 hN) hd (fun H1 locs1 h2 _ h3 => ?_)
  refine kk _ rfl p l e Rm s m args below meth c D cI cZ cG sb b Z Cx hZ H1 locs1 ls ?_ h3 hl
  rw [hnar] at h2
  rw [xI_clamp h0 (by omega), xU_cell, ← xce_z (cI := cI) (cZ := cZ) (cG := cG) (b := b) (R := R) (M := xU M k z.toNat v) hS0, xwd_set hk (fun j' hj' => xce_congr (xU_o hj') rfl)] at h2
  exact h2
theorem x_aald {N k t : Nat} {z : Int} (hd : decode (mB i) pc = .ok (.aaload, 1)) (hk : k < n0 + cu) (hS0 : xS k = (2, N)) (hN : N < 2147483648) (h0 : 0 ≤ z) (h1 : z < N) (hr : R k z.toNat = some t) (kk : xX sc i d n0 mc ms Q (pc + 1) L (vr t :: st) cu su R M) : xX sc i d n0 mc ms Q pc L (vi z :: vr k :: st) cu su R M := by
  intro p l e Rm s m args below meth c D cI cZ cG sb b Z Cx hZ H locs ls hH hS hl
  have k1 : W p l e Rm s m args below meth c H locs cu su Z (F0 m (pc + 1) ls (.ref (b + t) :: st.map (cv sb b))) := kk p l e Rm s m args below meth c D cI cZ cG sb b Z Cx hZ H locs ls hH hS hl
  have he := hH _ _ (xwd_at (cI := cI) (cZ := cZ) (cG := cG) (b := b) (R := R) (M := M) hk)
  rw [xce_g hS0] at he
  have hlt : (xI z).toNatClampNeg < N := by rw [xI_clamp h0 (by omega)]; omega
  have hin := xI_in h0 h1 hN
  exact W.aald (v := .ref (b + t)) (ty := .array .int) Cx.1.1 Cx.1.2.1 he ((Cx.2.1.1.2 2 _ rfl).1 N (fun j => va_rf ((R k j).map (b + ·)))) rfl (fun q => by cases q) (by show ¬ (xI z < 0 ∨ (arrV _ _ _).slots.size ≤ _); rw [arrV_size]; exact hin) (by show (arrV _ _ _).slots[_]? = _; rw [arrV_read _ _ hlt, xI_clamp h0 (by omega)]; show some (va_rf ((R k z.toNat).map (b + ·))) = _; rw [hr]; rfl) rfl rfl hd k1
theorem x_alen {N k kd : Nat} (hd : decode (mB i) pc = .ok (.arraylength, 1)) (hk : k < n0 + cu) (hS0 : xS k = (kd, N)) (hkd : kd = 0 ∨ kd = 1 ∨ kd = 2) (kk : xX sc i d n0 mc ms Q (pc + 1) L (vi (N : Int) :: st) cu su R M) : xX sc i d n0 mc ms Q pc L (vr k :: st) cu su R M := by
  intro p l e Rm s m args below meth c D cI cZ cG sb b Z Cx hZ H locs ls hH hS hl
  have k1 : W p l e Rm s m args below meth c H locs cu su Z (F0 m (pc + 1) ls (.int (xI (N : Int)) :: st.map (cv sb b))) := kk p l e Rm s m args below meth c D cI cZ cG sb b Z Cx hZ H locs ls hH hS hl
  have he := xwd_at (cI := cI) (cZ := cZ) (cG := cG) (b := b) (R := R) (M := M) hk
  have hv : Int32.ofNat N = xI (N : Int) := (Int32.ofInt_eq_ofNat).symm
  rcases hkd with rfl | rfl | rfl
  · rw [xce_i hS0] at he
    exact va_alen Cx.1.1 Cx.1.2.1 Cx.2.1.1 hH k 0 he rfl hv hd k1
  · rw [xce_z hS0] at he
    exact va_alen Cx.1.1 Cx.1.2.1 Cx.2.1.1 hH k 1 he rfl hv hd k1
  · rw [xce_g hS0] at he
    exact va_alen Cx.1.1 Cx.1.2.1 Cx.2.1.1 hH k 2 he rfl hv hd k1
theorem x_sld {z : Int} {q : Nat × (Nat → Int32)} (hq : sc = some q) (hd : decode (mB i) pc = .ok (.iaload, 1)) (hN : q.1 < 2147483648) (h0 : 0 ≤ z) (h1 : z < q.1) (kk : xX sc i d n0 mc ms Q (pc + 1) L (vi (q.2 z.toNat).toInt :: st) cu su R M) : xX sc i d n0 mc ms Q pc L (vi z :: vs :: st) cu su R M := by
  intro p l e Rm s m args below meth c D cI cZ cG sb b Z Cx hZ H locs ls hH hS hl
  have k1 : W p l e Rm s m args below meth c H locs cu su Z (F0 m (pc + 1) ls (.int (xI (q.2 z.toNat).toInt) :: st.map (cv sb b))) := kk p l e Rm s m args below meth c D cI cZ cG sb b Z Cx hZ H locs ls hH hS hl
  have e : xI (q.2 z.toNat).toInt = q.2 z.toNat := Int32.ofInt_toInt _
  rw [e, ← xI_clamp h0 (by omega)] at k1
  obtain ⟨a1, a2, a3⟩ := Cx.2.2.2.2.2.2.2 q hq
  exact va_sld Cx.1.1 Cx.1.2.1 a1 a2 a3 hS (xI_in h0 h1 hN) hd k1
theorem x_slen {q : Nat × (Nat → Int32)} (hq : sc = some q) (hd : decode (mB i) pc = .ok (.arraylength, 1)) (kk : xX sc i d n0 mc ms Q (pc + 1) L (vi (q.1 : Int) :: st) cu su R M) : xX sc i d n0 mc ms Q pc L (vs :: st) cu su R M := by
  intro p l e Rm s m args below meth c D cI cZ cG sb b Z Cx hZ H locs ls hH hS hl
  have k1 : W p l e Rm s m args below meth c H locs cu su Z (F0 m (pc + 1) ls (.int (xI (q.1 : Int)) :: st.map (cv sb b))) := kk p l e Rm s m args below meth c D cI cZ cG sb b Z Cx hZ H locs ls hH hS hl
  have hv : Int32.ofNat q.1 = xI (q.1 : Int) := (Int32.ofInt_eq_ofNat).symm
  rw [← hv] at k1
  obtain ⟨a1, a2, a3⟩ := Cx.2.2.2.2.2.2.2 q hq
  exact va_slen Cx.1.1 Cx.1.2.1 a1 a2 a3 hS hd k1
theorem x_tswIn {dflt lo hi off z : Int} {offs : Array Int} {len tgt : Nat} (hd : decode (mB i) pc = .ok (.tableswitch dflt lo hi offs, len)) (hz : xin z) (h1 : ¬ z < lo) (h2 : ¬ hi < z) (ho : offs[(z - lo).toNat]? = some off) (ht : (pc : Int) + off = (tgt : Int)) (kk : xX sc i d n0 mc ms Q tgt L st cu su R M) : xX sc i d n0 mc ms Q pc L (vi z :: st) cu su R M := by
  intro p l e Rm s m args below meth c D cI cZ cG sb b Z Cx hZ H locs ls hH hS hl
  exact lv_tableIn (x := xI z) Cx.1.1 Cx.1.2.1 hd (by rw [xI_int hz]; exact h1) (by rw [xI_int hz]; exact h2) (by rw [xI_int hz]; exact ho) ht (kk p l e Rm s m args below meth c D cI cZ cG sb b Z Cx hZ H locs ls hH hS hl)
theorem x_tswOut {dflt lo hi z : Int} {offs : Array Int} {len tgt : Nat} (hd : decode (mB i) pc = .ok (.tableswitch dflt lo hi offs, len)) (hz : xin z) (h : z < lo ∨ hi < z) (ht : (pc : Int) + dflt = (tgt : Int)) (kk : xX sc i d n0 mc ms Q tgt L st cu su R M) : xX sc i d n0 mc ms Q pc L (vi z :: st) cu su R M := by
  intro p l e Rm s m args below meth c D cI cZ cG sb b Z Cx hZ H locs ls hH hS hl
  exact lv_tableOut (x := xI z) Cx.1.1 Cx.1.2.1 hd (by rw [xI_int hz]; exact h) ht (kk p l e Rm s m args below meth c D cI cZ cG sb b Z Cx hZ H locs ls hH hS hl)
end XRu
end
section
/-! calls, new cells, a method's beginning -/
section XCa
variable {sc : Option (Nat × (Nat → Int32))} {i : xMt} {d n0 mc ms : Nat} {Q : Option AV → xR → xM → Prop} {pc : Nat} {L : List (Option AV)} {st : List AV} {cu su : Nat} {R : xR} {M : xM}
variable {p : Program} {l : Launch} {e : Env} {Rm : Room} {s : State} {m : MethodId} {args : Array Value} {below : List Frame} {meth : Method} {c : Code} {D : va_G} {cI cZ cG : ClassId} {sb b : Nat} {Z : State → Prop} {H : Heap} {locs : List Loc} {ls : Array Slot}
theorem xW_size {g : JFrame} (hs : s.heap.size = b + n0) (hH : va_P D xCL (xwd cI cZ cG b (n0 + cu) R M) H) (hS : va_S (fun q => b ≤ q) s.heap H locs) (k : H.size = b + (n0 + cu) → W p l e Rm s m args below meth c H locs cu su Z g) : W p l e Rm s m args below meth c H locs cu su Z g := by
  intro T hT X
  refine k ?_ T hT X
  have h1 : T.heap.size ≤ s.heap.size + cu := X.same.2.2.1
  rw [hT] at h1
  have h2 := hS.1
  by_cases hn : n0 + cu = 0
  · omega
  · have h3 := (hH _ _ (xwd_at (cI := cI) (cZ := cZ) (cG := cG) (b := b) (R := R) (M := M) (show n0 + cu - 1 < n0 + cu by omega))).lt
    have h4 : b + (n0 + cu - 1) < H.size := h3
    omega
theorem x_back {st0 : List Value} {rest : List AV} {mc' ms' : Nat} (Cx : xCx sc i d n0 mc ms p Rm s m args meth c D cI cZ cG sb b) (hZ : xZ i n0 mc ms Q p l e Rm s m args below meth c D cI cZ cG sb b Z) (hS : va_S (fun q => b ≤ q) s.heap H locs) (hl : lv_has ls (mL i) (xas sb b 0 L))
    (hr : va_Run p l e Rm s m args below meth c H locs cu su mc' ms' (F0 m pc ls st0) (rest.map (cv sb b)) (fun st1 oc t => (∃ (r : Option AV) (R' : xR) (M' : xM), oc = .returned (r.map (cv sb b)) ∧ xX sc i d n0 mc ms Q (pc + 3) L (r.toList ++ rest) (cu + mc') (su + ms') R' M' ∧ va_P D xCL (xwd cI cZ cG b (n0 + cu + mc') R' M') t.heap) ∧ va_F (fun q => b ≤ q) st1 t) (fun q => b ≤ q)) :
    W p l e Rm s m args below meth c H locs cu su Z (F0 m pc ls st0) := by
  intro T hT X
  obtain ⟨v, st₀, t, T', L1, h0, X', hL, e1, e2, ⟨⟨r, R', M', hv, hX, hP1⟩, hz, hk⟩, hst⟩ := hr T hT X
  rw [h0] at hz hk
  have hv' : v = r.map (cv sb b) := by
    injection hv
  subst hv'
  rw [Nat.add_assoc] at hP1
  rw [← e1] at hP1
  have hS1 : va_S (fun q => b ≤ q) s.heap T'.heap (locs ++ L1) := by
    refine ⟨Nat.le_trans hS.1 (by rw [e1]; exact hz), fun q g1 g2 => ?_, fun q hq => ?_⟩
    · rw [e1, hk q (Nat.lt_of_lt_of_le g1 hS.1) g2]
      exact hS.2.1 q g1 g2
    · rcases List.mem_append.mp hq with h | h
      · exact hS.2.2 q h
      · exact hL q h
  obtain ⟨t2, a1, b1⟩ := hX p l e Rm s m args below meth c D cI cZ cG sb b Z Cx hZ T'.heap (locs ++ L1) ls hP1 hS1 hl T' rfl X'
  refine ⟨t2, hst t2 ?_, b1⟩
  cases r with
  | none => exact a1
  | some w => exact a1
theorem x_pre {av : List AV} (hK : xK D cI cZ cG s) (hsz : H.size = b + (n0 + cu)) (hH : va_P D xCL (xwd cI cZ cG b (n0 + cu) R M) H) : PreS s H (va_Pc (av.map (cv sb b)) (fun U => U.heap.size = b + (n0 + cu) ∧ va_P D xCL (xwd cI cZ cG b (n0 + cu) R M) U.heap ∧ xK D cI cZ cG U)) (av.map (cv sb b)) := by
  refine ⟨fun a U g mk q => ?_, fun U hU hW => ⟨rfl, by rw [hU]; exact hsz, by rw [hU]; exact hH, hK.warm hW⟩⟩
  obtain ⟨q0, q1, q2, q3⟩ := q
  exact ⟨q0, q1, q2, xK.same (s := U) (U := U.calling g mk a) rfl q3⟩
theorem x_preV {av : List AV} {k ci N : Nat} {C : String} {T : u_T} (hK : xK D cI cZ cG s) (hsz : H.size = b + (n0 + cu)) (hH : va_P D xCL (xwd cI cZ cG b (n0 + cu) R M) H) (hk : k < n0 + cu) (hS0 : xS k = (ci + 3, N)) (hc : xCL[ci]? = some (C, T, N)) :
    PreV s H C (b + k) (va_Pc ((vr k :: av).map (cv sb b)) (fun U => U.heap.size = b + (n0 + cu) ∧ va_P D xCL (xwd cI cZ cG b (n0 + cu) R M) U.heap ∧ xK D cI cZ cG U)) (av.map (cv sb b)) := by
  have h := x_pre (sb := sb) (av := vr k :: av) hK hsz hH
  have he := xwd_at (cI := cI) (cZ := cZ) (cG := cG) (b := b) (R := R) (M := M) hk
  rw [xce_o hS0] at he
  exact ⟨h.1, va_recv hK.1 hH hc he, h.2⟩
end XCa
section XCb
variable {sc : Option (Nat × (Nat → Int32))} {i : xMt} {d n0 mc ms : Nat} {Q : Option AV → xR → xM → Prop} {pc : Nat} {L : List (Option AV)} {st : List AV} {cu su : Nat} {R : xR} {M : xM}
theorem x_room {j : xMt} {d' Rf Rl : Nat} (hL : mL j ≤ 40) (hdd : d' + 1 ≤ d) (h1 : d ≤ Rf) (h2 : 64 * d ≤ Rl) : d' + 1 ≤ Rf ∧ 8 + (mL j + 11) + 64 * d' ≤ Rl := ⟨by omega, by omega⟩
/-- invokevirtual -/
theorem x_callV (j : xMt) (d' mc' ms' idx k ci N : Nat) {T : u_T} (av rest : List AV) (hst : st = av.reverse ++ vr k :: rest) (hd : decode (mB i) pc = .ok (.invokevirtual idx, 3)) (hj : mOK j) (hlk : Cond.methodLink (mO i) idx (mY j) ∈ WS) (hi : Cond.instanceMethod (mY j) ∈ WS) (hs : Cond.selects (mY j).cls (mY j) (mY j) ∈ WS)
    (hn : (parseMethodDescriptor (mY j).desc).map (fun d => d.parameters.length) = some av.length) (hk : k < n0 + cu) (hS0 : xS k = (ci + 3, N)) (hc : xCL[ci]? = some ((mY j).cls, T, N)) (hdd : d' + 1 ≤ d) (hmc : cu + mc' ≤ mc) (hms : su + ms' ≤ ms) (hr : rest.length ≤ 8)
    (kk : xC j d' (n0 + cu) mc' ms' (vr k :: av) R M (fun r R' M' => xX sc i d n0 mc ms Q (pc + 3) L (r.toList ++ rest) (cu + mc') (su + ms') R' M')) : xX sc i d n0 mc ms Q pc L st cu su R M := by
  intro p l e Rm s m args below meth c D cI cZ cG sb b Z Cx hZ H locs ls hH hS hl
  have hts := Cx.1.2.2.2.2
  refine xW_size Cx.2.2.2.2.2.2.1 hH hS (fun hsz => ?_)
  refine x_back (mc' := mc') (ms' := ms') (rest := rest) Cx hZ hS hl ?_
  have cb := callB_of (own := mO i) (index := idx) (y := mY j) (bytes := mB j) (maxL := mL j) (ret := mR j) (R := Rm) (rm := { frames := d', cells := mc', slots := ms', locals := 64 * d' }) av.length hts hj.good rfl rfl rfl (hts _ hj.2.1) (hts _ hlk) ⟨hj.2.2.1.1, hj.2.2.1.2, hn⟩ (x_room hj.2.2.2 hdd Cx.2.2.2.2.2.1.1 Cx.2.2.2.2.2.1.2.1)
  exact va_runV (b := b + k) (As := av.map (cv sb b)) (rest := rest.map (cv sb b)) Cx.1 (kk l D cI cZ cG sb b) ⟨cb, hts _ hi, hts _ hs⟩ (x_preV Cx.2.1 hsz hH hk hS0 hc) rfl (by rw [List.length_map]) hl.1 (by show List.map _ st = _; rw [hst, List.map_append, List.map_reverse, List.map_cons]; rfl) (lv_room (by rw [cv_sum]; exact hr)) hd ⟨Nat.le_trans hmc Cx.2.2.2.2.2.1.2.2.1, Nat.le_trans hms Cx.2.2.2.2.2.1.2.2.2⟩
/-- ... of a nest mate's private method -/
theorem x_callVN (j : xMt) (d' mc' ms' idx k ci N : Nat) (host : String) {T : u_T} (av rest : List AV) (hst : st = av.reverse ++ vr k :: rest) (hd : decode (mB i) pc = .ok (.invokevirtual idx, 3)) (hj : mOK j) (hlk : Cond.methodLinkNest (mO i) idx (mY j) host ∈ NW) (hi : Cond.instanceMethod (mY j) ∈ WS) (hs : Cond.selects (mY j).cls (mY j) (mY j) ∈ WS)
    (hn : (parseMethodDescriptor (mY j).desc).map (fun d => d.parameters.length) = some av.length) (hk : k < n0 + cu) (hS0 : xS k = (ci + 3, N)) (hc : xCL[ci]? = some ((mY j).cls, T, N)) (hdd : d' + 1 ≤ d) (hmc : cu + mc' ≤ mc) (hms : su + ms' ≤ ms) (hr : rest.length ≤ 8)
    (kk : xC j d' (n0 + cu) mc' ms' (vr k :: av) R M (fun r R' M' => xX sc i d n0 mc ms Q (pc + 3) L (r.toList ++ rest) (cu + mc') (su + ms') R' M')) : xX sc i d n0 mc ms Q pc L st cu su R M := by
  intro p l e Rm s m args below meth c D cI cZ cG sb b Z Cx hZ H locs ls hH hS hl
  have hts := Cx.1.2.2.2.2
  refine xW_size Cx.2.2.2.2.2.2.1 hH hS (fun hsz => ?_)
  refine x_back (mc' := mc') (ms' := ms') (rest := rest) Cx hZ hS hl ?_
  have cb := va_cnB (own := mO i) (host := host) (index := idx) (y := mY j) (bytes := mB j) (maxL := mL j) (ret := mR j) (R := Rm) (rm := { frames := d', cells := mc', slots := ms', locals := 64 * d' }) av.length hts hj.good rfl rfl rfl (Cx.2.1.2.1 _ hlk) (hts _ hj.2.1) ⟨hj.2.2.1.1, hj.2.2.1.2, hn⟩ (x_room hj.2.2.2 hdd Cx.2.2.2.2.2.1.1 Cx.2.2.2.2.2.1.2.1)
  exact va_runVN (b := b + k) (As := av.map (cv sb b)) (rest := rest.map (cv sb b)) Cx.1 (kk l D cI cZ cG sb b) ⟨cb, hts _ hi, hts _ hs⟩ (x_preV Cx.2.1 hsz hH hk hS0 hc) rfl (by rw [List.length_map]) hl.1 (by show List.map _ st = _; rw [hst, List.map_append, List.map_reverse, List.map_cons]; rfl) (lv_room (by rw [cv_sum]; exact hr)) hd ⟨Nat.le_trans hmc Cx.2.2.2.2.2.1.2.2.1, Nat.le_trans hms Cx.2.2.2.2.2.1.2.2.2⟩
/-- invokestatic -/
theorem x_callS (j : xMt) (d' mc' ms' idx : Nat) (av rest : List AV) (hst : st = av.reverse ++ rest) (hd : decode (mB i) pc = .ok (.invokestatic idx, 3)) (hj : mOK j) (hlk : Cond.methodLink (mO i) idx (mY j) ∈ WS) (hi : Cond.static (mY j) ∈ WS)
    (hn : (parseMethodDescriptor (mY j).desc).map (fun d => d.parameters.length) = some av.length) (hdd : d' + 1 ≤ d) (hmc : cu + mc' ≤ mc) (hms : su + ms' ≤ ms) (hr : rest.length ≤ 8)
    (kk : xC j d' (n0 + cu) mc' ms' av R M (fun r R' M' => xX sc i d n0 mc ms Q (pc + 3) L (r.toList ++ rest) (cu + mc') (su + ms') R' M')) : xX sc i d n0 mc ms Q pc L st cu su R M := by
  intro p l e Rm s m args below meth c D cI cZ cG sb b Z Cx hZ H locs ls hH hS hl
  have hts := Cx.1.2.2.2.2
  refine xW_size Cx.2.2.2.2.2.2.1 hH hS (fun hsz => ?_)
  refine x_back (mc' := mc') (ms' := ms') (rest := rest) Cx hZ hS hl ?_
  have cb := callB_of (own := mO i) (index := idx) (y := mY j) (bytes := mB j) (maxL := mL j) (ret := mR j) (R := Rm) (rm := { frames := d', cells := mc', slots := ms', locals := 64 * d' }) av.length hts hj.good rfl rfl rfl (hts _ hj.2.1) (hts _ hlk) ⟨hj.2.2.1.1, hj.2.2.1.2, hn⟩ (x_room hj.2.2.2 hdd Cx.2.2.2.2.2.1.1 Cx.2.2.2.2.2.1.2.1)
  exact va_runS (As := av.map (cv sb b)) (rest := rest.map (cv sb b)) Cx.1 (kk l D cI cZ cG sb b) ⟨cb, hts _ hi⟩ (x_pre Cx.2.1 hsz hH) rfl (by rw [List.length_map]) hl.1 (by show List.map _ st = _; rw [hst, List.map_append, List.map_reverse]) (lv_room (by rw [cv_sum]; exact hr)) hd ⟨Nat.le_trans hmc Cx.2.2.2.2.2.1.2.2.1, Nat.le_trans hms Cx.2.2.2.2.2.1.2.2.2⟩
theorem x_callSN (j : xMt) (d' mc' ms' idx : Nat) (host : String) (av rest : List AV) (hst : st = av.reverse ++ rest) (hd : decode (mB i) pc = .ok (.invokestatic idx, 3)) (hj : mOK j) (hlk : Cond.methodLinkNest (mO i) idx (mY j) host ∈ NW) (hi : Cond.static (mY j) ∈ WS)
    (hn : (parseMethodDescriptor (mY j).desc).map (fun d => d.parameters.length) = some av.length) (hdd : d' + 1 ≤ d) (hmc : cu + mc' ≤ mc) (hms : su + ms' ≤ ms) (hr : rest.length ≤ 8)
    (kk : xC j d' (n0 + cu) mc' ms' av R M (fun r R' M' => xX sc i d n0 mc ms Q (pc + 3) L (r.toList ++ rest) (cu + mc') (su + ms') R' M')) : xX sc i d n0 mc ms Q pc L st cu su R M := by
  intro p l e Rm s m args below meth c D cI cZ cG sb b Z Cx hZ H locs ls hH hS hl
  have hts := Cx.1.2.2.2.2
  refine xW_size Cx.2.2.2.2.2.2.1 hH hS (fun hsz => ?_)
  refine x_back (mc' := mc') (ms' := ms') (rest := rest) Cx hZ hS hl ?_
  have cb := va_cnB (own := mO i) (host := host) (index := idx) (y := mY j) (bytes := mB j) (maxL := mL j) (ret := mR j) (R := Rm) (rm := { frames := d', cells := mc', slots := ms', locals := 64 * d' }) av.length hts hj.good rfl rfl rfl (Cx.2.1.2.1 _ hlk) (hts _ hj.2.1) ⟨hj.2.2.1.1, hj.2.2.1.2, hn⟩ (x_room hj.2.2.2 hdd Cx.2.2.2.2.2.1.1 Cx.2.2.2.2.2.1.2.1)
  exact va_runSN (As := av.map (cv sb b)) (rest := rest.map (cv sb b)) Cx.1 (kk l D cI cZ cG sb b) ⟨cb, hts _ hi, trivial⟩ (x_pre Cx.2.1 hsz hH) rfl (by rw [List.length_map]) hl.1 (by show List.map _ st = _; rw [hst, List.map_append, List.map_reverse]) (lv_room (by rw [cv_sum]; exact hr)) hd ⟨Nat.le_trans hmc Cx.2.2.2.2.2.1.2.2.1, Nat.le_trans hms Cx.2.2.2.2.2.1.2.2.2⟩
/-- invokespecial <init> -/
theorem x_callI (j : xMt) (d' mc' ms' idx k : Nat) (av rest : List AV) (hst : st = av.reverse ++ vr k :: rest) (hd : decode (mB i) pc = .ok (.invokespecial idx, 3)) (hj : mOK j) (hret : mR j = none) (hy : (mY j).name = "<init>") (hlk : Cond.methodLink (mO i) idx (mY j) ∈ WS) (hi : Cond.instanceMethod (mY j) ∈ WS)
    (hn : (parseMethodDescriptor (mY j).desc).map (fun d => d.parameters.length) = some av.length) (hdd : d' + 1 ≤ d) (hmc : cu + mc' ≤ mc) (hms : su + ms' ≤ ms) (hr : rest.length ≤ 8)
    (kk : xC j d' (n0 + cu) mc' ms' (vr k :: av) R M (fun r R' M' => xX sc i d n0 mc ms Q (pc + 3) L (r.toList ++ rest) (cu + mc') (su + ms') R' M')) : xX sc i d n0 mc ms Q pc L st cu su R M := by
  intro p l e Rm s m args below meth c D cI cZ cG sb b Z Cx hZ H locs ls hH hS hl
  have hts := Cx.1.2.2.2.2
  refine xW_size Cx.2.2.2.2.2.2.1 hH hS (fun hsz => ?_)
  refine x_back (mc' := mc') (ms' := ms') (rest := rest) Cx hZ hS hl ?_
  have cb := callB_of (own := mO i) (index := idx) (y := mY j) (bytes := mB j) (maxL := mL j) (ret := mR j) (R := Rm) (rm := { frames := d', cells := mc', slots := ms', locals := 64 * d' }) av.length hts hj.good rfl rfl rfl (hts _ hj.2.1) (hts _ hlk) ⟨hj.2.2.1.1, hj.2.2.1.2, hn⟩ (x_room hj.2.2.2 hdd Cx.2.2.2.2.2.1.1 Cx.2.2.2.2.2.1.2.1)
  rw [hret] at cb
  exact va_runI (b := b + k) (As := av.map (cv sb b)) (rest := rest.map (cv sb b)) Cx.1 (kk l D cI cZ cG sb b) ⟨by rw [hret]; exact cb, hy, hts _ hi⟩ (x_pre (av := vr k :: av) Cx.2.1 hsz hH) rfl (by rw [List.length_map]) hl.1 (by show List.map _ st = _; rw [hst, List.map_append, List.map_reverse, List.map_cons]; rfl) (lv_room (by rw [cv_sum]; exact hr)) hd ⟨Nat.le_trans hmc Cx.2.2.2.2.2.1.2.2.1, Nat.le_trans hms Cx.2.2.2.2.2.1.2.2.2⟩
theorem x_callIN (j : xMt) (d' mc' ms' idx k : Nat) (host : String) (av rest : List AV) (hst : st = av.reverse ++ vr k :: rest) (hd : decode (mB i) pc = .ok (.invokespecial idx, 3)) (hj : mOK j) (hret : mR j = none) (hy : (mY j).name = "<init>") (hlk : Cond.methodLinkNest (mO i) idx (mY j) host ∈ NW) (hi : Cond.instanceMethod (mY j) ∈ WS)
    (hn : (parseMethodDescriptor (mY j).desc).map (fun d => d.parameters.length) = some av.length) (hdd : d' + 1 ≤ d) (hmc : cu + mc' ≤ mc) (hms : su + ms' ≤ ms) (hr : rest.length ≤ 8)
    (kk : xC j d' (n0 + cu) mc' ms' (vr k :: av) R M (fun r R' M' => xX sc i d n0 mc ms Q (pc + 3) L (r.toList ++ rest) (cu + mc') (su + ms') R' M')) : xX sc i d n0 mc ms Q pc L st cu su R M := by
  intro p l e Rm s m args below meth c D cI cZ cG sb b Z Cx hZ H locs ls hH hS hl
  have hts := Cx.1.2.2.2.2
  refine xW_size Cx.2.2.2.2.2.2.1 hH hS (fun hsz => ?_)
  refine x_back (mc' := mc') (ms' := ms') (rest := rest) Cx hZ hS hl ?_
  have cb := va_cnB (own := mO i) (host := host) (index := idx) (y := mY j) (bytes := mB j) (maxL := mL j) (ret := mR j) (R := Rm) (rm := { frames := d', cells := mc', slots := ms', locals := 64 * d' }) av.length hts hj.good rfl rfl rfl (Cx.2.1.2.1 _ hlk) (hts _ hj.2.1) ⟨hj.2.2.1.1, hj.2.2.1.2, hn⟩ (x_room hj.2.2.2 hdd Cx.2.2.2.2.2.1.1 Cx.2.2.2.2.2.1.2.1)
  rw [hret] at cb
  exact va_runIN (b := b + k) (As := av.map (cv sb b)) (rest := rest.map (cv sb b)) Cx.1 (kk l D cI cZ cG sb b) ⟨by rw [hret]; exact cb, hy, hts _ hi⟩ (x_pre (av := vr k :: av) Cx.2.1 hsz hH) rfl (by rw [List.length_map]) hl.1 (by show List.map _ st = _; rw [hst, List.map_append, List.map_reverse, List.map_cons]; rfl) (lv_room (by rw [cv_sum]; exact hr)) hd ⟨Nat.le_trans hmc Cx.2.2.2.2.2.1.2.2.1, Nat.le_trans hms Cx.2.2.2.2.2.1.2.2.2⟩
theorem x_objInit (idx k : Nat) (hd : decode (mB i) pc = .ok (.invokespecial idx, 3)) (hlk : Cond.methodLink (mO i) idx Lib.objectInit ∈ WS) (hi : Cond.instanceMethod Lib.objectInit ∈ WS) (hc : Cond.code Lib.objectInit ⟨#[0xb1]⟩ 1 none ∈ WS) (hdd : 1 ≤ d) (hr : st.length ≤ 8) (kk : xX sc i d n0 mc ms Q (pc + 3) L st cu su R M) : xX sc i d n0 mc ms Q pc L (vr k :: st) cu su R M := by
  intro p l e Rm s m args below meth c D cI cZ cG sb b Z Cx hZ H locs ls hH hS hl
  have hts := Cx.1.2.2.2.2
  have h1 := Cx.2.2.2.2.2.1.1
  have h2 := Cx.2.2.2.2.2.1.2.1
  have hw := lv_room (m := m) (pc := pc) (ls := ls) (rest := (vr k :: st).map (cv sb b)) (st := st.map (cv sb b)) (by rw [cv_sum]; exact hr)
  exact W.objInit (a := b + k) (rest := st.map (cv sb b)) Cx.1.1 Cx.1.2.1 Cx.1.2.2.2.1 (hts _ hlk) (hts _ hi) (hts _ hc) rfl (by rw [Cx.1.2.2.1]; exact hl.1) rfl hd (by omega) (by omega) (kk p l e Rm s m args below meth c D cI cZ cG sb b Z Cx hZ H locs ls hH hS hl)
theorem x_min (idx : Nat) {x y : Int} (hd : decode (mB i) pc = .ok (.invokestatic idx, 3)) (hlk : Cond.methodLink (mO i) idx Lib.Math.min.name ∈ WS) (hst : Cond.static Lib.Math.min.name ∈ WS) (hin : Cond.initialized "java/lang/Math" ∈ WS) (hcd : Cond.code Lib.Math.min.name Lib.Math.min.code 2 (some .int) ∈ WS) (hdd : 1 ≤ d) (hr : st.length ≤ 8) (hcu : cu ≤ mc) (hsu : su ≤ ms) (hx : xin x) (hy : xin y)
    (kk : xX sc i d n0 mc ms Q (pc + 3) L (vi (if y < x then y else x) :: st) cu su R M) : xX sc i d n0 mc ms Q pc L (vi y :: vi x :: st) cu su R M := by
  intro p l e Rm s m args below meth c D cI cZ cG sb b Z Cx hZ H locs ls hH hS hl
  have hts := Cx.1.2.2.2.2
  have h1 := Cx.2.2.2.2.2.1.1
  have h2 := Cx.2.2.2.2.2.1.2.1
  have k1 : W p l e Rm s m args below meth c H locs cu su Z (F0 m (pc + 3) ls (.int (xI (if y < x then y else x)) :: st.map (cv sb b))) := kk p l e Rm s m args below meth c D cI cZ cG sb b Z Cx hZ H locs ls hH hS hl
  have e1 : xI (if y < x then y else x) = if xI y < xI x then xI y else xI x := by
    by_cases h : y < x
    · rw [if_pos h, if_pos ((xI_lt hy hx).mpr h)]
    · rw [if_neg h, if_neg (fun q => h ((xI_lt hy hx).mp q))]
  rw [e1] at k1
  exact va_mmin Cx.1.1 Cx.1.2.1 (by rw [Cx.1.2.2.1]; exact hl.1.symm) Cx.1.2.2.2.1 (hts _ hlk) (hts _ hst) (hts _ hin) (hts _ hcd) (by omega) (by rw [cv_sum]; omega) (Nat.le_trans hcu Cx.2.2.2.2.2.1.2.2.1) (Nat.le_trans hsu Cx.2.2.2.2.2.1.2.2.2) hd k1
theorem x_max (idx : Nat) {x y : Int} (hd : decode (mB i) pc = .ok (.invokestatic idx, 3)) (hlk : Cond.methodLink (mO i) idx Lib.Math.max.name ∈ WS) (hst : Cond.static Lib.Math.max.name ∈ WS) (hin : Cond.initialized "java/lang/Math" ∈ WS) (hcd : Cond.code Lib.Math.max.name Lib.Math.max.code 2 (some .int) ∈ WS) (hdd : 1 ≤ d) (hr : st.length ≤ 8) (hcu : cu ≤ mc) (hsu : su ≤ ms) (hx : xin x) (hy : xin y)
    (kk : xX sc i d n0 mc ms Q (pc + 3) L (vi (if x < y then y else x) :: st) cu su R M) : xX sc i d n0 mc ms Q pc L (vi y :: vi x :: st) cu su R M := by
  intro p l e Rm s m args below meth c D cI cZ cG sb b Z Cx hZ H locs ls hH hS hl
  have hts := Cx.1.2.2.2.2
  have h1 := Cx.2.2.2.2.2.1.1
  have h2 := Cx.2.2.2.2.2.1.2.1
  have k1 : W p l e Rm s m args below meth c H locs cu su Z (F0 m (pc + 3) ls (.int (xI (if x < y then y else x)) :: st.map (cv sb b))) := kk p l e Rm s m args below meth c D cI cZ cG sb b Z Cx hZ H locs ls hH hS hl
  have e1 : xI (if x < y then y else x) = if xI x < xI y then xI y else xI x := by
    by_cases h : x < y
    · rw [if_pos h, if_pos ((xI_lt hx hy).mpr h)]
    · rw [if_neg h, if_neg (fun q => h ((xI_lt hx hy).mp q))]
  rw [e1] at k1
  exact va_mmax Cx.1.1 Cx.1.2.1 (by rw [Cx.1.2.2.1]; exact hl.1.symm) Cx.1.2.2.2.1 (hts _ hlk) (hts _ hst) (hts _ hin) (hts _ hcd) (by omega) (by rw [cv_sum]; omega) (Nat.le_trans hcu Cx.2.2.2.2.2.1.2.2.1) (Nat.le_trans hsu Cx.2.2.2.2.2.1.2.2.2) hd k1
theorem xNF : nativeFrameWords "java/lang/System" "arraycopy" 5 ≤ 40 := by decide +kernel
/-- System.arraycopy of ints -/
def xCp (M : xM) (k0 k1 sp dp n : Nat) : xM := fun k j => if k = k1 ∧ dp ≤ j ∧ j < dp + n then M k0 (sp + (j - dp)) else M k j
theorem x_copy (idx k0 k1 N0 N1 : Nat) {sp dp n : Int} (hd : decode (mB i) pc = .ok (.invokestatic idx, 3)) (hlk : Cond.methodLink (mO i) idx arraycopyName ∈ WS) (hna : Cond.native arraycopyName ∈ WS) (hst : Cond.static arraycopyName ∈ WS) (hin : Cond.initialized "java/lang/System" ∈ WS) (hdd : 1 ≤ d) (hr : st.length ≤ 8)
    (hk0 : k0 < n0 + cu) (hk1 : k1 < n0 + cu) (hS0 : xS k0 = (0, N0)) (hS1 : xS k1 = (0, N1)) (hN0 : N0 < 2147483648) (hN1 : N1 < 2147483648) (g1 : 0 ≤ sp) (g2 : 0 ≤ dp) (g3 : 0 ≤ n) (g4 : sp + n ≤ N0) (g5 : dp + n ≤ N1)
    (kk : ∀ M1, M1 = xCp M k0 k1 sp.toNat dp.toNat n.toNat → xX sc i d n0 mc ms Q (pc + 3) L st cu su R M1) : xX sc i d n0 mc ms Q pc L (vi n :: vi dp :: vr k1 :: vi sp :: vr k0 :: st) cu su R M := by
  intro p l e Rm s m args below meth c D cI cZ cG sb b Z Cx hZ H locs ls hH hS hl
  have hts := Cx.1.2.2.2.2
  have h1 := Cx.2.2.2.2.2.1.1
  have h2 := Cx.2.2.2.2.2.1.2.1
  have he0 := xwd_at (cI := cI) (cZ := cZ) (cG := cG) (b := b) (R := R) (M := M) hk0
  have he1 := xwd_at (cI := cI) (cZ := cZ) (cG := cG) (b := b) (R := R) (M := M) hk1
  rw [xce_i hS0] at he0
  rw [xce_i hS1] at he1
  have neg : ∀ z : Int, 0 ≤ z → z < 2147483648 → ¬ xI z < 0 := fun z a1 a2 q => by
    have := (xI_lt (x := z) (y := 0) ⟨by omega, a2⟩ xin0).mp (by rw [xI_0]; exact q)
    omega
  refine va_copyi (sp := xI sp) (dp := xI dp) (n := xI n) (ty := .int) Cx.1.1 Cx.1.2.1 (by rw [Cx.1.2.2.1]; exact hl.1.symm) Cx.1.2.2.2.1 (hts _ hlk) (hts _ hna) (hts _ hst) (hts _ hin) Cx.2.1.1 hH xwd_D hS k0 k1 0 0 he0 he1 rfl rfl rfl (neg _ g1 (by omega)) (neg _ g2 (by omega)) (neg _ g3 (by omega)) (by rw [xI_clamp g1 (by omega), xI_clamp g3 (by omega)]; omega) (by rw [xI_clamp g2 (by omega), xI_clamp g3 (by omega)]; omega) (fun _ _ => rfl) (by omega) (by rw [cv_sum]; have := xNF; omega) hd (fun H1 locs1 q1 _ q3 => ?_)
  refine kk _ rfl p l e Rm s m args below meth c D cI cZ cG sb b Z Cx hZ H1 locs1 ls ?_ q3 hl
  have ec : (va_cpy (fun j => xI (M k0 j)) (fun j => xI (M k1 j)) (xI sp).toNatClampNeg (xI dp).toNatClampNeg (xI n).toNatClampNeg) = fun j => xI (xCp M k0 k1 sp.toNat dp.toNat n.toNat k1 j) := by
    rw [xI_clamp g1 (by omega), xI_clamp g2 (by omega), xI_clamp g3 (by omega)]
    funext j
    unfold va_cpy xCp
    by_cases hj : dp.toNat ≤ j ∧ j < dp.toNat + n.toNat
    · rw [if_pos hj, if_pos ⟨rfl, hj⟩]
    · rw [if_neg hj, if_neg (fun q => hj q.2)]
  rw [ec, ← xce_i (cI := cI) (cZ := cZ) (cG := cG) (b := b) (R := R) (M := xCp M k0 k1 sp.toNat dp.toNat n.toNat) hS1, xwd_set hk1 (fun j' hj' => xce_congr (by funext a; unfold xCp; rw [if_neg (fun q => hj' q.1)]) rfl)] at q1
  exact q1
theorem x_new (C : String) {T : u_T} {ty : Nat → FieldType} (N ci idx : Nat) (hd : decode (mB i) pc = .ok (.new idx, 3)) (hC : cOK C T N ty) (hc : xCL[ci]? = some (C, T, N)) (hcl : Cond.classLink (mO i) idx C ∈ WS) (hin : Cond.instantiable C N ∈ WS) (hini : Cond.initialized C ∈ WS) (hS0 : xS (n0 + cu) = (ci + 3, N)) (hty : ∀ j, j < N → defaultValue (ty j) = if xIs ci j = true then .null else .int 0)
    (hR0 : ∀ j, R (n0 + cu) j = none) (hM0 : ∀ j, M (n0 + cu) j = 0) (hcu : cu + 1 ≤ mc) (hsu : su + N ≤ ms) (kk : xX sc i d n0 mc ms Q (pc + 3) L (vr (n0 + cu) :: st) (cu + 1) (su + N) R M) : xX sc i d n0 mc ms Q pc L st cu su R M := by
  intro p l e Rm s m args below meth c D cI cZ cG sb b Z Cx hZ H locs ls hH hS hl
  have hts := Cx.1.2.2.2.2
  refine xW_size Cx.2.2.2.2.2.2.1 hH hS (fun hsz => ?_)
  have hKn := Cx.2.1.1.1 ci _ hc
  refine W.newcK Cx.1.1 Cx.1.2.1 Cx.1.2.2.2.1 (hts _ hcl) (hts _ hin) (hts _ hini) rfl hd (Nat.le_trans hcu Cx.2.2.2.2.2.1.2.2.1) (Nat.le_trans hsu Cx.2.2.2.2.2.1.2.2.2) hKn.2.1 hsz fun H1 kC hkC e1 z1 o1 => ?_
  refine kk p l e Rm s m args below meth c D cI cZ cG sb b Z Cx hZ H1 locs ls (fun k q hk => ?_) ⟨Nat.le_trans hS.1 (by omega), fun x h1 h2 => (o1 x (by have := hS.1; omega)).trans (hS.2.1 x h1 h2), hS.2.2⟩ hl
  obtain ⟨hkn, rfl⟩ := xwd_of hk
  by_cases h : k = n0 + cu
  · subst h
    rw [xce_o hS0]
    refine ⟨_, hc, (u_born ty hts hC.1 hKn hkC e1 hC.2.1).to (fun j hj => ?_)⟩
    rw [hty j hj]
    show _ = (xfs b ci N (n0 + cu) R M).getD j .null
    rw [List.getD_eq_getElem?_getD, xfs, List.getElem?_map, List.getElem?_range hj]
    simp only [Option.map_some, Option.getD_some, hR0, hM0]
    by_cases hb : xIs ci j = true
    · rw [if_pos hb, if_pos hb]; rfl
    · rw [if_neg hb, if_neg hb]; rfl
  · have hlt : k < n0 + cu := by omega
    exact (hH k _ (xwd_at hlt)).kept (o1 _ (by show b + k < _; omega))
theorem x_newa (kd : Nat) {atype : ArrayType} {ty : FieldType} {z : Int} (N : Nat) (hd : decode (mB i) pc = .ok (.newarray atype, 2)) (hat : newarray.typeOf atype = ty) (hkd : (kd = 0 ∧ ty = .int) ∨ (kd = 1 ∧ ty = .boolean)) (hz : z = (N : Int)) (hN : N < 100000000) (hac : Cond.arrayClass ty ∈ WS) (hS0 : xS (n0 + cu) = (kd, N)) (hM0 : ∀ j, M (n0 + cu) j = 0) (hcu : cu + 1 ≤ mc) (hsu : su + N ≤ ms)
    (kk : xX sc i d n0 mc ms Q (pc + 2) L (vr (n0 + cu) :: st) (cu + 1) (su + N) R M) : xX sc i d n0 mc ms Q pc L (vi z :: st) cu su R M := by
  intro p l e Rm s m args below meth c D cI cZ cG sb b Z Cx hZ H locs ls hH hS hl
  have hts := Cx.1.2.2.2.2
  subst hz
  subst hat
  refine xW_size Cx.2.2.2.2.2.2.1 hH hS (fun hsz => ?_)
  have hcN : (xI (N : Int)).toNatClampNeg = N := by rw [xI_clamp (by omega) (by omega)]; rfl
  have hng : ¬ xI (N : Int) < 0 := fun q => by
    have := (xI_lt (x := (N : Int)) (y := 0) ⟨by omega, by omega⟩ xin0).mp (by rw [xI_0]; exact q)
    omega
  have hby : N * componentBytes (newarray.typeOf atype) ≤ 536870912 := by
    rcases hkd with ⟨-, h⟩ | ⟨-, h⟩ <;> rw [h]
    · show N * 4 ≤ _; omega
    · show N * 1 ≤ _; omega
  refine va_newaK (rest := st.map (cv sb b)) Cx.1.1 Cx.1.2.1 (hts _ hac) rfl hd rfl hng hcN hby (Nat.le_trans hcu Cx.2.2.2.2.2.1.2.2.1) (Nat.le_trans hsu Cx.2.2.2.2.2.1.2.2.2) hsz fun H1 cA e1 z1 o1 _ hfc => ?_
  refine kk p l e Rm s m args below meth c D cI cZ cG sb b Z Cx hZ H1 locs ls (fun k q hk => ?_) ⟨Nat.le_trans hS.1 (by omega), fun x h1 h2 => (o1 x (by have := hS.1; omega)).trans (hS.2.1 x h1 h2), hS.2.2⟩ hl
  obtain ⟨hkn, rfl⟩ := xwd_of hk
  by_cases h : k = n0 + cu
  · subst h
    rcases hkd with ⟨rfl, ht⟩ | ⟨rfl, ht⟩
    · rw [ht] at e1 hfc
      have hcA : s.vm.findClass ("[" ++ FieldType.int.toString) = some cI := (Cx.2.1.1.2 0 _ rfl).2
      have hcc : cA = cI := Option.some.inj (hfc.symm.trans hcA)
      subst hcc
      rw [xce_i hS0]
      show H1[b + (n0 + cu)]? = some (arrV cA N (fun j => .int (xI (M (n0 + cu) j))))
      rw [e1]
      simp only [hM0]
      rfl
    · rw [ht] at e1 hfc
      have hcA : s.vm.findClass ("[" ++ FieldType.boolean.toString) = some cZ := (Cx.2.1.1.2 1 _ rfl).2
      have hcc : cA = cZ := Option.some.inj (hfc.symm.trans hcA)
      subst hcc
      rw [xce_z hS0]
      show H1[b + (n0 + cu)]? = some (arrV cA N (fun j => .int (xI (M (n0 + cu) j))))
      rw [e1]
      simp only [hM0]
      rfl
  · have hlt : k < n0 + cu := by omega
    exact (hH k _ (xwd_at hlt)).kept (o1 _ (by show b + k < _; omega))
/-- a method's contract out of its walk -/
theorem xC.of (L0 : List (Option AV)) {n : Nat} {av : List AV} (hy : plainName (mY i).cls = true) (hown : (mY i).cls = mO i) (hL : av.length ≤ mL i) (hL0 : L0 = av.map some ++ List.replicate (mL i - av.length) none) (h : xX sc0 i d n mc ms Q 0 L0 [] 0 0 R M) : xC i d n mc ms av R M Q := by
  intro l D cI cZ cG sb b
  refine Met.ofW (cc := mB i) (maxL := mL i) (ret := mR i) hy rfl ?_
  intro p e s m args below meth c s₁ B hml hv
  obtain ⟨rfl, hsz, hH, hK⟩ := hv
  have hts := atoms_spec (ws := Cond.code (mY i) (mB i) (mL i) (mR i) :: WS) B.pre
  have hlocks := B.notSynchronized
  have hl := lv_entry (av.map (cv sb b)) (n := mL i) (by rw [xas_sl]; exact hL)
  rw [lg_entry_eq]
  generalize (lg_sl (av.map (cv sb b)) ++ List.replicate (mL i - (lg_sl (av.map (cv sb b))).length) Slot.unset).toArray = ls at hl ⊢
  rw [xas_args] at hl
  have hl2 : lv_has ls (mL i) (xas sb b 0 L0) := xas_sub hl (fun j v hj => by
    rw [hL0] at hj
    by_cases hlt : j < (av.map some).length
    · rwa [List.getElem?_append_left hlt] at hj
    · rw [List.getElem?_append_right (Nat.not_lt.mp hlt), List.getElem?_replicate] at hj
      split at hj <;> cases hj)
  refine h p l e _ s m _ below meth c D cI cZ cG sb b _ ⟨⟨B.exec, B.bytes, hml, by rw [← hown]; exact findClass_of_methodNamed B.named, fun w hw => hts w (List.mem_cons_of_mem _ hw)⟩, hK, hlocks, B.returns, fun q => (name_of_methodNamed B.named B.method).1.trans q, ⟨Nat.le_refl _, Nat.le_refl _, Nat.le_refl _, Nat.le_refl _⟩, hsz, fun q hq => nomatch hq⟩ ?_ s.heap [] ls hH va_S.rf hl2
  intro H locs ls' pc R' M' r hq hP hS hret
  rcases hret with ⟨rfl, hr, hd⟩ | ⟨z, rfl, hd, hr⟩
  · exact W.vret B.exec B.bytes (B.returns.trans hr) (fun t ht hW => ⟨⟨none, R', M', rfl, hq, by rw [ht]; exact hP⟩, hS.F ht⟩) hS.2.2 hd
  · rcases hr with hr | ⟨hr, hz⟩
    · exact W.iret B.exec B.bytes (B.returns.trans hr) (fun t ht hW => ⟨⟨some (vi z), R', M', rfl, hq, by rw [ht]; exact hP⟩, hS.F ht⟩) hS.2.2 hd
    · have hnar : narrow .boolean (.int (xI z)) = .int (xI z) := by rcases hz with rfl | rfl <;> rfl
      exact W.zret B.exec B.bytes (B.returns.trans hr) hnar (fun t ht hW => ⟨⟨some (vi z), R', M', rfl, hq, by rw [ht]; exact hP⟩, hS.F ht⟩) hS.2.2 hd
end XCb
end
section
/-! methods that make no cell: an int, or nothing, comes back; the references stay -/
abbrev Xi (i : xMt) (d n : Nat) (R : xR) (P : Int → xM → Prop) (pc : Nat) (L : List (Option AV)) (st : List AV) (M : xM) : Prop := ∀ Q : Option AV → xR → xM → Prop, (∀ z M', P z M' → Q (some (vi z)) R M') → xX sc0 i d n 0 0 Q pc L st 0 0 R M
abbrev Xv (i : xMt) (d n : Nat) (R : xR) (P : xM → Prop) (pc : Nat) (L : List (Option AV)) (st : List AV) (M : xM) : Prop := ∀ Q : Option AV → xR → xM → Prop, (∀ M', P M' → Q none R M') → xX sc0 i d n 0 0 Q pc L st 0 0 R M
abbrev Ci (i : xMt) (d n : Nat) (R : xR) (av : List AV) (M : xM) (P : Int → xM → Prop) : Prop := ∀ Q : Option AV → xR → xM → Prop, (∀ z M', P z M' → Q (some (vi z)) R M') → xC i d n 0 0 av R M Q
abbrev Cv (i : xMt) (d n : Nat) (R : xR) (av : List AV) (M : xM) (P : xM → Prop) : Prop := ∀ Q : Option AV → xR → xM → Prop, (∀ M', P M' → Q none R M') → xC i d n 0 0 av R M Q
section XY
variable {sc : Option (Nat × (Nat → Int32))} {i : xMt} {d n0 mc ms : Nat} {Q : Option AV → xR → xM → Prop} {pc : Nat} {L : List (Option AV)} {st : List AV} {cu su : Nat} {R : xR} {M : xM}
theorem y_callVi {P : Int → xM → Prop} (j : xMt) (d' idx k ci N : Nat) {T : u_T} (av rest : List AV) (hst : st = av.reverse ++ vr k :: rest) (hd : decode (mB i) pc = .ok (.invokevirtual idx, 3)) (hj : mOK j) (hlk : Cond.methodLink (mO i) idx (mY j) ∈ WS) (hi : Cond.instanceMethod (mY j) ∈ WS) (hs : Cond.selects (mY j).cls (mY j) (mY j) ∈ WS)
    (hn : (parseMethodDescriptor (mY j).desc).map (fun d => d.parameters.length) = some av.length) (hk : k < n0 + cu) (hS0 : xS k = (ci + 3, N)) (hc : xCL[ci]? = some ((mY j).cls, T, N)) (hdd : d' + 1 ≤ d) (hr : rest.length ≤ 8) (hmc : cu ≤ mc) (hms : su ≤ ms)
    (h : Ci j d' (n0 + cu) R (vr k :: av) M P) (kk : ∀ z M1, P z M1 → xX sc i d n0 mc ms Q (pc + 3) L (vi z :: rest) cu su R M1) : xX sc i d n0 mc ms Q pc L st cu su R M :=
  x_callV j d' 0 0 idx k ci N av rest hst hd hj hlk hi hs hn hk hS0 hc hdd hmc hms hr (h _ kk)
theorem y_callVv {P : xM → Prop} (j : xMt) (d' idx k ci N : Nat) {T : u_T} (av rest : List AV) (hst : st = av.reverse ++ vr k :: rest) (hd : decode (mB i) pc = .ok (.invokevirtual idx, 3)) (hj : mOK j) (hlk : Cond.methodLink (mO i) idx (mY j) ∈ WS) (hi : Cond.instanceMethod (mY j) ∈ WS) (hs : Cond.selects (mY j).cls (mY j) (mY j) ∈ WS)
    (hn : (parseMethodDescriptor (mY j).desc).map (fun d => d.parameters.length) = some av.length) (hk : k < n0 + cu) (hS0 : xS k = (ci + 3, N)) (hc : xCL[ci]? = some ((mY j).cls, T, N)) (hdd : d' + 1 ≤ d) (hr : rest.length ≤ 8) (hmc : cu ≤ mc) (hms : su ≤ ms)
    (h : Cv j d' (n0 + cu) R (vr k :: av) M P) (kk : ∀ M1, P M1 → xX sc i d n0 mc ms Q (pc + 3) L rest cu su R M1) : xX sc i d n0 mc ms Q pc L st cu su R M :=
  x_callV j d' 0 0 idx k ci N av rest hst hd hj hlk hi hs hn hk hS0 hc hdd hmc hms hr (h _ kk)
theorem y_callVNi {P : Int → xM → Prop} (j : xMt) (d' idx k ci N : Nat) (host : String) {T : u_T} (av rest : List AV) (hst : st = av.reverse ++ vr k :: rest) (hd : decode (mB i) pc = .ok (.invokevirtual idx, 3)) (hj : mOK j) (hlk : Cond.methodLinkNest (mO i) idx (mY j) host ∈ NW) (hi : Cond.instanceMethod (mY j) ∈ WS) (hs : Cond.selects (mY j).cls (mY j) (mY j) ∈ WS)
    (hn : (parseMethodDescriptor (mY j).desc).map (fun d => d.parameters.length) = some av.length) (hk : k < n0 + cu) (hS0 : xS k = (ci + 3, N)) (hc : xCL[ci]? = some ((mY j).cls, T, N)) (hdd : d' + 1 ≤ d) (hr : rest.length ≤ 8) (hmc : cu ≤ mc) (hms : su ≤ ms)
    (h : Ci j d' (n0 + cu) R (vr k :: av) M P) (kk : ∀ z M1, P z M1 → xX sc i d n0 mc ms Q (pc + 3) L (vi z :: rest) cu su R M1) : xX sc i d n0 mc ms Q pc L st cu su R M :=
  x_callVN j d' 0 0 idx k ci N host av rest hst hd hj hlk hi hs hn hk hS0 hc hdd hmc hms hr (h _ kk)
theorem y_callVNv {P : xM → Prop} (j : xMt) (d' idx k ci N : Nat) (host : String) {T : u_T} (av rest : List AV) (hst : st = av.reverse ++ vr k :: rest) (hd : decode (mB i) pc = .ok (.invokevirtual idx, 3)) (hj : mOK j) (hlk : Cond.methodLinkNest (mO i) idx (mY j) host ∈ NW) (hi : Cond.instanceMethod (mY j) ∈ WS) (hs : Cond.selects (mY j).cls (mY j) (mY j) ∈ WS)
    (hn : (parseMethodDescriptor (mY j).desc).map (fun d => d.parameters.length) = some av.length) (hk : k < n0 + cu) (hS0 : xS k = (ci + 3, N)) (hc : xCL[ci]? = some ((mY j).cls, T, N)) (hdd : d' + 1 ≤ d) (hr : rest.length ≤ 8) (hmc : cu ≤ mc) (hms : su ≤ ms)
    (h : Cv j d' (n0 + cu) R (vr k :: av) M P) (kk : ∀ M1, P M1 → xX sc i d n0 mc ms Q (pc + 3) L rest cu su R M1) : xX sc i d n0 mc ms Q pc L st cu su R M :=
  x_callVN j d' 0 0 idx k ci N host av rest hst hd hj hlk hi hs hn hk hS0 hc hdd hmc hms hr (h _ kk)
theorem y_callSi {P : Int → xM → Prop} (j : xMt) (d' idx : Nat) (av rest : List AV) (hst : st = av.reverse ++ rest) (hd : decode (mB i) pc = .ok (.invokestatic idx, 3)) (hj : mOK j) (hlk : Cond.methodLink (mO i) idx (mY j) ∈ WS) (hi : Cond.static (mY j) ∈ WS)
    (hn : (parseMethodDescriptor (mY j).desc).map (fun d => d.parameters.length) = some av.length) (hdd : d' + 1 ≤ d) (hr : rest.length ≤ 8) (hmc : cu ≤ mc) (hms : su ≤ ms)
    (h : Ci j d' (n0 + cu) R av M P) (kk : ∀ z M1, P z M1 → xX sc i d n0 mc ms Q (pc + 3) L (vi z :: rest) cu su R M1) : xX sc i d n0 mc ms Q pc L st cu su R M :=
  x_callS j d' 0 0 idx av rest hst hd hj hlk hi hn hdd hmc hms hr (h _ kk)
theorem y_callSNi {P : Int → xM → Prop} (j : xMt) (d' idx : Nat) (host : String) (av rest : List AV) (hst : st = av.reverse ++ rest) (hd : decode (mB i) pc = .ok (.invokestatic idx, 3)) (hj : mOK j) (hlk : Cond.methodLinkNest (mO i) idx (mY j) host ∈ NW) (hi : Cond.static (mY j) ∈ WS)
    (hn : (parseMethodDescriptor (mY j).desc).map (fun d => d.parameters.length) = some av.length) (hdd : d' + 1 ≤ d) (hr : rest.length ≤ 8) (hmc : cu ≤ mc) (hms : su ≤ ms)
    (h : Ci j d' (n0 + cu) R av M P) (kk : ∀ z M1, P z M1 → xX sc i d n0 mc ms Q (pc + 3) L (vi z :: rest) cu su R M1) : xX sc i d n0 mc ms Q pc L st cu su R M :=
  x_callSN j d' 0 0 idx host av rest hst hd hj hlk hi hn hdd hmc hms hr (h _ kk)
end XY
theorem Ci.of {i : xMt} {d n : Nat} {R : xR} {M : xM} {P : Int → xM → Prop} (L0 : List (Option AV)) {av : List AV} (hy : plainName (mY i).cls = true) (hown : (mY i).cls = mO i) (hL : av.length ≤ mL i) (hL0 : L0 = av.map some ++ List.replicate (mL i - av.length) none) (h : Xi i d n R P 0 L0 [] M) : Ci i d n R av M P :=
  fun Q hQ => xC.of L0 hy hown hL hL0 (h Q hQ)
theorem Cv.of {i : xMt} {d n : Nat} {R : xR} {M : xM} {P : xM → Prop} (L0 : List (Option AV)) {av : List AV} (hy : plainName (mY i).cls = true) (hown : (mY i).cls = mO i) (hL : av.length ≤ mL i) (hL0 : L0 = av.map some ++ List.replicate (mL i - av.length) none) (h : Xv i d n R P 0 L0 [] M) : Cv i d n R av M P :=
  fun Q hQ => xC.of L0 hy hown hL hL0 (h Q hQ)
theorem Ci.mono {i : xMt} {d n : Nat} {R : xR} {M : xM} {av : List AV} {P P' : Int → xM → Prop} (h : Ci i d n R av M P) (hp : ∀ z M', P z M' → P' z M') : Ci i d n R av M P' := fun Q hQ => h Q (fun z M' q => hQ z M' (hp z M' q))
theorem Cv.mono {i : xMt} {d n : Nat} {R : xR} {M : xM} {av : List AV} {P P' : xM → Prop} (h : Cv i d n R av M P) (hp : ∀ M', P M' → P' M') : Cv i d n R av M P' := fun Q hQ => h Q (fun M' q => hQ M' (hp M' q))
/-- a loop that counts up -/
theorem upto {σ : Type} (X : Nat → σ → Prop) (I : Nat → σ → Prop) (n : Nat) (hs : ∀ i s, i < n → I i s → (∀ s', I (i + 1) s' → X (i + 1) s') → X i s) (he : ∀ s, I n s → X n s) (i : Nat) (s : σ) (hi : i ≤ n) (h : I i s) : X i s := by
  obtain ⟨k, hk⟩ : ∃ k, k = n - i := ⟨_, rfl⟩
  induction k generalizing i s with
  | zero =>
    have e : i = n := by omega
    subst e
    exact he s h
  | succ k ih => exact hs i s (by omega) h (fun s' h' => ih (i + 1) s' (by omega) h' (by omega))
/-- ... or down: the number is what is left -/
theorem downto {σ : Type} (X : Nat → σ → Prop) (I : Nat → σ → Prop) (hs : ∀ i s, I (i + 1) s → (∀ s', I i s' → X i s') → X (i + 1) s) (he : ∀ s, I 0 s → X 0 s) (i : Nat) (s : σ) (h : I i s) : X i s := by
  induction i generalizing s with
  | zero => exact he s h
  | succ k ih => exact hs k s h (fun s' h' => ih s' h')
end
section
theorem cok0 : cOK R_D T_D 9 ty_D := ⟨by decide +kernel, by decide +kernel, by decide +kernel⟩
theorem cok1 : cOK R_F T_F 5 ty_F := ⟨by decide +kernel, by decide +kernel, by decide +kernel⟩
theorem cok2 : cOK R_C T_C 11 ty_C := ⟨by decide +kernel, by decide +kernel, by decide +kernel⟩
theorem cok3 : cOK R_W T_W 3 ty_W := ⟨by decide +kernel, by decide +kernel, by decide +kernel⟩
theorem cok4 : cOK R_S T_S 6 ty_S := ⟨by decide +kernel, by decide +kernel, by decide +kernel⟩
theorem cok5 : cOK R_N T_N 4 ty_N := ⟨by decide +kernel, by decide +kernel, by decide +kernel⟩
theorem cok6 : cOK R_P T_P 11 ty_P := ⟨by decide +kernel, by decide +kernel, by decide +kernel⟩
theorem cok7 : cOK R_M T_M 21 ty_M := ⟨by decide +kernel, by decide +kernel, by decide +kernel⟩
theorem ok_D_init : mOK m_D_init := ⟨w_56, w_42, ⟨by decide, by decide⟩, by decide⟩
theorem ok_D_field : mOK m_D_field := ⟨w_357, w_42, ⟨by decide, by decide⟩, by decide⟩
theorem ok_D_times : mOK m_D_times := ⟨w_364, w_42, ⟨by decide, by decide⟩, by decide⟩
theorem ok_D_over : mOK m_D_over := ⟨w_373, w_42, ⟨by decide, by decide⟩, by decide⟩
theorem ok_D_log : mOK m_D_log := ⟨w_378, w_42, ⟨by decide, by decide⟩, by decide⟩
theorem ok_D_code : mOK m_D_code := ⟨w_382, w_42, ⟨by decide, by decide⟩, by decide⟩
theorem ok_D_tell : mOK m_D_tell := ⟨w_386, w_42, ⟨by decide, by decide⟩, by decide⟩
theorem ok_D_encode : mOK m_D_encode := ⟨w_394, w_42, ⟨by decide, by decide⟩, by decide⟩
theorem ok_D_receive : mOK m_D_receive := ⟨w_406, w_42, ⟨by decide, by decide⟩, by decide⟩
theorem ok_D_erase : mOK m_D_erase := ⟨w_414, w_42, ⟨by decide, by decide⟩, by decide⟩
theorem ok_D_word : mOK m_D_word := ⟨w_422, w_42, ⟨by decide, by decide⟩, by decide⟩
theorem ok_D_syndrome : mOK m_D_syndrome := ⟨w_426, w_42, ⟨by decide, by decide⟩, by decide⟩
theorem ok_D_decode : mOK m_D_decode := ⟨w_431, w_42, ⟨by decide, by decide⟩, by decide⟩
theorem ok_D_decoded : mOK m_D_decoded := ⟨w_466, w_42, ⟨by decide, by decide⟩, by decide⟩
theorem ok_D_sent : mOK m_D_sent := ⟨w_470, w_42, ⟨by decide, by decide⟩, by decide⟩
theorem ok_D_locator : mOK m_D_locator := ⟨w_479, w_42, ⟨by decide, by decide⟩, by decide⟩
theorem ok_D_list : mOK m_D_list := ⟨w_483, w_42, ⟨by decide, by decide⟩, by decide⟩
theorem ok_D_listed : mOK m_D_listed := ⟨w_501, w_42, ⟨by decide, by decide⟩, by decide⟩
theorem ok_D_distance : mOK m_D_distance := ⟨w_509, w_42, ⟨by decide, by decide⟩, by decide⟩
theorem ok_D_radius : mOK m_D_radius := ⟨w_513, w_42, ⟨by decide, by decide⟩, by decide⟩
theorem ok_D_weight : mOK m_D_weight := ⟨w_517, w_42, ⟨by decide, by decide⟩, by decide⟩
theorem ok_D_beginField : mOK m_D_beginField := ⟨w_264, w_42, ⟨by decide, by decide⟩, by decide⟩
theorem ok_D_beginCode : mOK m_D_beginCode := ⟨w_281, w_42, ⟨by decide, by decide⟩, by decide⟩
theorem ok_D_isPlace : mOK m_D_isPlace := ⟨w_410, w_42, ⟨by decide, by decide⟩, by decide⟩
theorem ok_D_isInMessage : mOK m_D_isInMessage := ⟨w_390, w_42, ⟨by decide, by decide⟩, by decide⟩
theorem ok_D_isTimes : mOK m_D_isTimes := ⟨w_486, w_42, ⟨by decide, by decide⟩, by decide⟩
theorem ok_D_isErasedTooMuch : mOK m_D_isErasedTooMuch := ⟨w_435, w_42, ⟨by decide, by decide⟩, by decide⟩
theorem ok_D_half : mOK m_D_half := ⟨w_439, w_42, ⟨by decide, by decide⟩, by decide⟩
theorem ok_D_boundFor : mOK m_D_boundFor := ⟨w_494, w_42, ⟨by decide, by decide⟩, by decide⟩
theorem ok_D_radiusFor : mOK m_D_radiusFor := ⟨w_490, w_42, ⟨by decide, by decide⟩, by decide⟩
theorem ok_D_locateWrongPlaces : mOK m_D_locateWrongPlaces := ⟨w_462, w_42, ⟨by decide, by decide⟩, by decide⟩
theorem ok_M_init : mOK m_M_init := ⟨w_551, w_51, ⟨by decide, by decide⟩, by decide⟩
theorem ok_M_rest : mOK m_M_rest := ⟨w_559, w_51, ⟨by decide, by decide⟩, by decide⟩
theorem ok_M_layField : mOK m_M_layField := ⟨w_556, w_51, ⟨by decide, by decide⟩, by decide⟩
theorem ok_M_isPrimitive : mOK m_M_isPrimitive := ⟨w_634, w_51, ⟨by decide, by decide⟩, by decide⟩
theorem ok_M_isElement : mOK m_M_isElement := ⟨w_642, w_51, ⟨by decide, by decide⟩, by decide⟩
theorem ok_M_field : mOK m_M_field := ⟨w_631, w_51, ⟨by decide, by decide⟩, by decide⟩
theorem ok_M_times : mOK m_M_times := ⟨w_638, w_51, ⟨by decide, by decide⟩, by decide⟩
theorem ok_M_quotient : mOK m_M_quotient := ⟨w_650, w_51, ⟨by decide, by decide⟩, by decide⟩
theorem ok_M_over : mOK m_M_over := ⟨w_646, w_51, ⟨by decide, by decide⟩, by decide⟩
theorem ok_M_log : mOK m_M_log := ⟨w_654, w_51, ⟨by decide, by decide⟩, by decide⟩
theorem ok_M_power : mOK m_M_power := ⟨w_714, w_51, ⟨by decide, by decide⟩, by decide⟩
theorem ok_M_layCode : mOK m_M_layCode := ⟨w_563, w_51, ⟨by decide, by decide⟩, by decide⟩
theorem ok_M_code : mOK m_M_code := ⟨w_658, w_51, ⟨by decide, by decide⟩, by decide⟩
theorem ok_M_tell : mOK m_M_tell := ⟨w_662, w_51, ⟨by decide, by decide⟩, by decide⟩
theorem ok_M_told : mOK m_M_told := ⟨w_682, w_51, ⟨by decide, by decide⟩, by decide⟩
theorem ok_M_messages : mOK m_M_messages := ⟨w_674, w_51, ⟨by decide, by decide⟩, by decide⟩
theorem ok_M_element : mOK m_M_element := ⟨w_678, w_51, ⟨by decide, by decide⟩, by decide⟩
theorem ok_M_makeRow : mOK m_M_makeRow := ⟨w_686, w_51, ⟨by decide, by decide⟩, by decide⟩
theorem ok_M_chosen : mOK m_M_chosen := ⟨w_670, w_51, ⟨by decide, by decide⟩, by decide⟩
theorem ok_M_encode : mOK m_M_encode := ⟨w_666, w_51, ⟨by decide, by decide⟩, by decide⟩
theorem ok_M_isPlace : mOK m_M_isPlace := ⟨w_694, w_51, ⟨by decide, by decide⟩, by decide⟩
theorem ok_M_receive : mOK m_M_receive := ⟨w_690, w_51, ⟨by decide, by decide⟩, by decide⟩
theorem ok_M_erase : mOK m_M_erase := ⟨w_698, w_51, ⟨by decide, by decide⟩, by decide⟩
theorem ok_M_word : mOK m_M_word := ⟨w_702, w_51, ⟨by decide, by decide⟩, by decide⟩
theorem ok_M_apart : mOK m_M_apart := ⟨w_710, w_51, ⟨by decide, by decide⟩, by decide⟩
theorem ok_M_syndrome : mOK m_M_syndrome := ⟨w_706, w_51, ⟨by decide, by decide⟩, by decide⟩
theorem ok_M_kept : mOK m_M_kept := ⟨w_722, w_51, ⟨by decide, by decide⟩, by decide⟩
theorem ok_M_distanceOf : mOK m_M_distanceOf := ⟨w_726, w_51, ⟨by decide, by decide⟩, by decide⟩
theorem ok_M_decode : mOK m_M_decode := ⟨w_718, w_51, ⟨by decide, by decide⟩, by decide⟩
theorem ok_M_decoded : mOK m_M_decoded := ⟨w_730, w_51, ⟨by decide, by decide⟩, by decide⟩
theorem ok_M_sent : mOK m_M_sent := ⟨w_734, w_51, ⟨by decide, by decide⟩, by decide⟩
theorem ok_M_locator : mOK m_M_locator := ⟨w_738, w_51, ⟨by decide, by decide⟩, by decide⟩
theorem ok_M_pairs : mOK m_M_pairs := ⟨w_754, w_51, ⟨by decide, by decide⟩, by decide⟩
theorem ok_M_boundFor : mOK m_M_boundFor := ⟨w_750, w_51, ⟨by decide, by decide⟩, by decide⟩
theorem ok_M_radiusFor : mOK m_M_radiusFor := ⟨w_746, w_51, ⟨by decide, by decide⟩, by decide⟩
theorem ok_M_isBefore : mOK m_M_isBefore := ⟨w_758, w_51, ⟨by decide, by decide⟩, by decide⟩
theorem ok_M_list : mOK m_M_list := ⟨w_742, w_51, ⟨by decide, by decide⟩, by decide⟩
theorem ok_M_listed : mOK m_M_listed := ⟨w_762, w_51, ⟨by decide, by decide⟩, by decide⟩
theorem ok_M_distance : mOK m_M_distance := ⟨w_766, w_51, ⟨by decide, by decide⟩, by decide⟩
theorem ok_M_radius : mOK m_M_radius := ⟨w_770, w_51, ⟨by decide, by decide⟩, by decide⟩
theorem ok_M_condition : mOK m_M_condition := ⟨w_782, w_51, ⟨by decide, by decide⟩, by decide⟩
theorem ok_M_layTerm : mOK m_M_layTerm := ⟨w_778, w_51, ⟨by decide, by decide⟩, by decide⟩
theorem ok_M_isNew : mOK m_M_isNew := ⟨w_786, w_51, ⟨by decide, by decide⟩, by decide⟩
theorem ok_M_weight : mOK m_M_weight := ⟨w_774, w_51, ⟨by decide, by decide⟩, by decide⟩
theorem ok_C_init : mOK m_C_init := ⟨w_93, w_44, ⟨by decide, by decide⟩, by decide⟩
theorem ok_C_begin : mOK m_C_begin := ⟨w_285, w_44, ⟨by decide, by decide⟩, by decide⟩
theorem ok_C_fillFactors : mOK m_C_fillFactors := ⟨w_289, w_44, ⟨by decide, by decide⟩, by decide⟩
theorem ok_C_fillGenerator : mOK m_C_fillGenerator := ⟨w_301, w_44, ⟨by decide, by decide⟩, by decide⟩
theorem ok_C_fillPlainRow : mOK m_C_fillPlainRow := ⟨w_305, w_44, ⟨by decide, by decide⟩, by decide⟩
theorem ok_C_fillUnitRows : mOK m_C_fillUnitRows := ⟨w_314, w_44, ⟨by decide, by decide⟩, by decide⟩
theorem ok_C_mixed : mOK m_C_mixed := ⟨w_398, w_44, ⟨by decide, by decide⟩, by decide⟩
theorem ok_C_toldBy : mOK m_C_toldBy := ⟨w_474, w_44, ⟨by decide, by decide⟩, by decide⟩
theorem ok_F_init : mOK m_F_init := ⟨w_64, w_43, ⟨by decide, by decide⟩, by decide⟩
theorem ok_F_degreeOf : mOK m_F_degreeOf := ⟨w_271, w_43, ⟨by decide, by decide⟩, by decide⟩
theorem ok_F_timesX : mOK m_F_timesX := ⟨w_274, w_43, ⟨by decide, by decide⟩, by decide⟩
theorem ok_F_isPrimitive : mOK m_F_isPrimitive := ⟨w_360, w_43, ⟨by decide, by decide⟩, by decide⟩
theorem ok_F_begin : mOK m_F_begin := ⟨w_268, w_43, ⟨by decide, by decide⟩, by decide⟩
theorem ok_F_has : mOK m_F_has := ⟨w_368, w_43, ⟨by decide, by decide⟩, by decide⟩
theorem ok_F_product : mOK m_F_product := ⟨w_293, w_43, ⟨by decide, by decide⟩, by decide⟩
theorem ok_F_quotient : mOK m_F_quotient := ⟨w_297, w_43, ⟨by decide, by decide⟩, by decide⟩
theorem ok_F_addMultiple : mOK m_F_addMultiple := ⟨w_321, w_43, ⟨by decide, by decide⟩, by decide⟩
theorem ok_F_power : mOK m_F_power := ⟨w_309, w_43, ⟨by decide, by decide⟩, by decide⟩
theorem ok_N_init : mOK m_N_init := ⟨w_200, w_47, ⟨by decide, by decide⟩, by decide⟩
theorem ok_N_has : mOK m_N_has := ⟨w_505, w_47, ⟨by decide, by decide⟩, by decide⟩
theorem ok_N_add : mOK m_N_add := ⟨w_457, w_47, ⟨by decide, by decide⟩, by decide⟩
theorem ok_P_init : mOK m_P_init := ⟨w_224, w_48, ⟨by decide, by decide⟩, by decide⟩
theorem ok_P_leastWeight : mOK m_P_leastWeight := ⟨w_521, w_48, ⟨by decide, by decide⟩, by decide⟩
theorem ok_P_setPlaces : mOK m_P_setPlaces := ⟨w_525, w_48, ⟨by decide, by decide⟩, by decide⟩
theorem ok_P_setValues : mOK m_P_setValues := ⟨w_531, w_48, ⟨by decide, by decide⟩, by decide⟩
theorem ok_P_meet : mOK m_P_meet := ⟨w_536, w_48, ⟨by decide, by decide⟩, by decide⟩
theorem ok_P_failingLeast : mOK m_P_failingLeast := ⟨w_540, w_48, ⟨by decide, by decide⟩, by decide⟩
theorem ok_P_timesLinear : mOK m_P_timesLinear := ⟨w_545, w_48, ⟨by decide, by decide⟩, by decide⟩
theorem ok_S_init : mOK m_S_init := ⟨w_175, w_46, ⟨by decide, by decide⟩, by decide⟩
theorem ok_S_find : mOK m_S_find := ⟨w_443, w_46, ⟨by decide, by decide⟩, by decide⟩
theorem ok_S_setStart : mOK m_S_setStart := ⟨w_447, w_46, ⟨by decide, by decide⟩, by decide⟩
theorem ok_S_countVotes : mOK m_S_countVotes := ⟨w_451, w_46, ⟨by decide, by decide⟩, by decide⟩
theorem ok_W_init : mOK m_W_init := ⟨w_150, w_45, ⟨by decide, by decide⟩, by decide⟩
theorem ok_W_begin : mOK m_W_begin := ⟨w_325, w_45, ⟨by decide, by decide⟩, by decide⟩
theorem ok_W_put : mOK m_W_put := ⟨w_402, w_45, ⟨by decide, by decide⟩, by decide⟩
theorem ok_W_strike : mOK m_W_strike := ⟨w_418, w_45, ⟨by decide, by decide⟩, by decide⟩
end
section
/-! the machine's bits on small numbers -/
theorem xb_s : ∀ n, n < 32 → ((nI n &&& 31).toBitVec.smod 32).toNat = n := by decide
theorem xI_nI (a : Nat) : xI (a : Int) = nI a := Int32.ofInt_eq_ofNat
theorem xShl_n {a s : Nat} (hs : s < 32) (h : a * 2 ^ s < 2147483648) : xShl a s = ((a * 2 ^ s : Nat) : Int) := by
  unfold xShl
  rw [xI_nI, xI_nI, pk_shlN _ s (xb_s s hs) (by omega), nI_toInt (by omega)]
theorem xShr_n {a s : Nat} (hs : s < 32) (h : a < 2147483648) : xShr a s = ((a / 2 ^ s : Nat) : Int) := by
  unfold xShr
  rw [xI_nI, xI_nI, pk_shrN (by omega) _ s (xb_s s hs), nI_toInt (by have := Nat.div_le_self a (2 ^ s); omega)]
theorem nI_xor (a b : Nat) : nI a ^^^ nI b = nI (a ^^^ b) := Int32.toBitVec_inj.1 (by
  show BitVec.ofNat 32 a ^^^ BitVec.ofNat 32 b = BitVec.ofNat 32 (a ^^^ b)
  exact BitVec.ofNat_xor.symm)
theorem nI_and (a b : Nat) : nI a &&& nI b = nI (a &&& b) := Int32.toBitVec_inj.1 (by
  show BitVec.ofNat 32 a &&& BitVec.ofNat 32 b = BitVec.ofNat 32 (a &&& b)
  exact BitVec.ofNat_and.symm)
theorem nI_or (a b : Nat) : nI a ||| nI b = nI (a ||| b) := Int32.toBitVec_inj.1 (by
  show BitVec.ofNat 32 a ||| BitVec.ofNat 32 b = BitVec.ofNat 32 (a ||| b)
  exact BitVec.ofNat_or.symm)
theorem xXor_n {a b : Nat} (ha : a < 2147483648) (hb : b < 2147483648) : xXor a b = ((a ^^^ b : Nat) : Int) := by
  have h : a ^^^ b < 2 ^ 31 := Nat.xor_lt_two_pow (by omega) (by omega)
  unfold xXor
  rw [xI_nI, xI_nI, nI_xor, nI_toInt (by omega)]
theorem xAnd_n {a b : Nat} (ha : a < 2147483648) (hb : b < 2147483648) : xAnd a b = ((a &&& b : Nat) : Int) := by
  have h : a &&& b < 2 ^ 31 := Nat.and_lt_two_pow a (by omega)
  unfold xAnd
  rw [xI_nI, xI_nI, nI_and, nI_toInt (by omega)]
theorem xOr_n {a b : Nat} (ha : a < 2147483648) (hb : b < 2147483648) : xOr a b = ((a ||| b : Nat) : Int) := by
  have h : a ||| b < 2 ^ 31 := Nat.or_lt_two_pow (by omega) (by omega)
  unfold xOr
  rw [xI_nI, xI_nI, nI_or, nI_toInt (by omega)]
/-- a << 5 | b -/
theorem xPair {a b : Nat} (ha : a < 32) (hb : b < 32) : xOr (xShl a 5) b = ((32 * a + b : Nat) : Int) := by
  have e : xShl (a : Int) 5 = ((a * 32 : Nat) : Int) := xShl_n (a := a) (s := 5) (by decide) (by omega)
  rw [e, xOr_n (by omega) (by omega)]
  have h := Nat.two_pow_add_eq_or_of_lt (i := 5) (b := b) (by omega) a
  have h2 : a * 32 ||| b = 2 ^ 5 * a + b := by rw [h]; congr 1; omega
  rw [h2]
theorem xAnd31 (x : Int) : 0 ≤ xAnd x 31 ∧ xAnd x 31 < 32 := by
  unfold xAnd
  obtain ⟨j, hj, e⟩ := pk_andE (xI x) (m := xI 31) 5 (by decide)
  rw [e, nI_toInt (by omega)]
  omega
end
section
theorem d_D_init_0 : decode (m_D_init).2.1 0 = .ok (.aload_n 0, 1) := by decide +kernel
theorem d_D_init_1 : decode (m_D_init).2.1 1 = .ok (.invokespecial 3, 3) := by decide +kernel
theorem d_D_init_4 : decode (m_D_init).2.1 4 = .ok (.aload_n 0, 1) := by decide +kernel
theorem d_D_init_5 : decode (m_D_init).2.1 5 = .ok (.new 9, 3) := by decide +kernel
theorem d_D_init_8 : decode (m_D_init).2.1 8 = .ok (.dup, 1) := by decide +kernel
theorem d_D_init_9 : decode (m_D_init).2.1 9 = .ok (.invokespecial 11, 3) := by decide +kernel
theorem d_D_init_12 : decode (m_D_init).2.1 12 = .ok (.putfield 12, 3) := by decide +kernel
theorem d_D_init_15 : decode (m_D_init).2.1 15 = .ok (.aload_n 0, 1) := by decide +kernel
theorem d_D_init_16 : decode (m_D_init).2.1 16 = .ok (.new 16, 3) := by decide +kernel
theorem d_D_init_19 : decode (m_D_init).2.1 19 = .ok (.dup, 1) := by decide +kernel
theorem d_D_init_20 : decode (m_D_init).2.1 20 = .ok (.aload_n 0, 1) := by decide +kernel
theorem d_D_init_21 : decode (m_D_init).2.1 21 = .ok (.getfield 12, 3) := by decide +kernel
theorem d_D_init_24 : decode (m_D_init).2.1 24 = .ok (.invokespecial 18, 3) := by decide +kernel
theorem d_D_init_27 : decode (m_D_init).2.1 27 = .ok (.putfield 21, 3) := by decide +kernel
theorem d_D_init_30 : decode (m_D_init).2.1 30 = .ok (.aload_n 0, 1) := by decide +kernel
theorem d_D_init_31 : decode (m_D_init).2.1 31 = .ok (.iconst 4, 1) := by decide +kernel
theorem d_D_init_32 : decode (m_D_init).2.1 32 = .ok (.newarray .int, 2) := by decide +kernel
theorem d_D_init_34 : decode (m_D_init).2.1 34 = .ok (.putfield 25, 3) := by decide +kernel
theorem d_D_init_37 : decode (m_D_init).2.1 37 = .ok (.aload_n 0, 1) := by decide +kernel
theorem d_D_init_38 : decode (m_D_init).2.1 38 = .ok (.new 29, 3) := by decide +kernel
theorem d_D_init_41 : decode (m_D_init).2.1 41 = .ok (.dup, 1) := by decide +kernel
theorem d_D_init_42 : decode (m_D_init).2.1 42 = .ok (.invokespecial 31, 3) := by decide +kernel
theorem d_D_init_45 : decode (m_D_init).2.1 45 = .ok (.putfield 32, 3) := by decide +kernel
theorem d_D_init_48 : decode (m_D_init).2.1 48 = .ok (.aload_n 0, 1) := by decide +kernel
theorem d_D_init_49 : decode (m_D_init).2.1 49 = .ok (.new 36, 3) := by decide +kernel
theorem d_D_init_52 : decode (m_D_init).2.1 52 = .ok (.dup, 1) := by decide +kernel
theorem d_D_init_53 : decode (m_D_init).2.1 53 = .ok (.aload_n 0, 1) := by decide +kernel
theorem d_D_init_54 : decode (m_D_init).2.1 54 = .ok (.getfield 12, 3) := by decide +kernel
theorem d_D_init_57 : decode (m_D_init).2.1 57 = .ok (.aload_n 0, 1) := by decide +kernel
theorem d_D_init_58 : decode (m_D_init).2.1 58 = .ok (.getfield 21, 3) := by decide +kernel
theorem d_D_init_61 : decode (m_D_init).2.1 61 = .ok (.aload_n 0, 1) := by decide +kernel
theorem d_D_init_62 : decode (m_D_init).2.1 62 = .ok (.getfield 32, 3) := by decide +kernel
theorem d_D_init_65 : decode (m_D_init).2.1 65 = .ok (.invokespecial 38, 3) := by decide +kernel
theorem d_D_init_68 : decode (m_D_init).2.1 68 = .ok (.putfield 41, 3) := by decide +kernel
theorem d_D_init_71 : decode (m_D_init).2.1 71 = .ok (.aload_n 0, 1) := by decide +kernel
theorem d_D_init_72 : decode (m_D_init).2.1 72 = .ok (.new 45, 3) := by decide +kernel
theorem d_D_init_75 : decode (m_D_init).2.1 75 = .ok (.dup, 1) := by decide +kernel
theorem d_D_init_76 : decode (m_D_init).2.1 76 = .ok (.aload_n 0, 1) := by decide +kernel
theorem d_D_init_77 : decode (m_D_init).2.1 77 = .ok (.getfield 21, 3) := by decide +kernel
theorem d_D_init_80 : decode (m_D_init).2.1 80 = .ok (.iconst 1, 1) := by decide +kernel
theorem d_D_init_81 : decode (m_D_init).2.1 81 = .ok (.invokespecial 47, 3) := by decide +kernel
theorem d_D_init_84 : decode (m_D_init).2.1 84 = .ok (.putfield 50, 3) := by decide +kernel
theorem d_D_init_87 : decode (m_D_init).2.1 87 = .ok (.aload_n 0, 1) := by decide +kernel
theorem d_D_init_88 : decode (m_D_init).2.1 88 = .ok (.new 45, 3) := by decide +kernel
theorem d_D_init_91 : decode (m_D_init).2.1 91 = .ok (.dup, 1) := by decide +kernel
theorem d_D_init_92 : decode (m_D_init).2.1 92 = .ok (.aload_n 0, 1) := by decide +kernel
theorem d_D_init_93 : decode (m_D_init).2.1 93 = .ok (.getfield 21, 3) := by decide +kernel
theorem d_D_init_96 : decode (m_D_init).2.1 96 = .ok (.bipush 16, 2) := by decide +kernel
theorem d_D_init_98 : decode (m_D_init).2.1 98 = .ok (.invokespecial 47, 3) := by decide +kernel
theorem d_D_init_101 : decode (m_D_init).2.1 101 = .ok (.putfield 54, 3) := by decide +kernel
theorem d_D_init_104 : decode (m_D_init).2.1 104 = .ok (.aload_n 0, 1) := by decide +kernel
theorem d_D_init_105 : decode (m_D_init).2.1 105 = .ok (.bipush 20, 2) := by decide +kernel
theorem d_D_init_107 : decode (m_D_init).2.1 107 = .ok (.newarray .int, 2) := by decide +kernel
theorem d_D_init_109 : decode (m_D_init).2.1 109 = .ok (.putfield 57, 3) := by decide +kernel
theorem d_D_init_112 : decode (m_D_init).2.1 112 = .ok (.aload_n 0, 1) := by decide +kernel
theorem d_D_init_113 : decode (m_D_init).2.1 113 = .ok (.new 60, 3) := by decide +kernel
theorem d_D_init_116 : decode (m_D_init).2.1 116 = .ok (.dup, 1) := by decide +kernel
theorem d_D_init_117 : decode (m_D_init).2.1 117 = .ok (.aload_n 0, 1) := by decide +kernel
theorem d_D_init_118 : decode (m_D_init).2.1 118 = .ok (.getfield 12, 3) := by decide +kernel
theorem d_D_init_121 : decode (m_D_init).2.1 121 = .ok (.aload_n 0, 1) := by decide +kernel
theorem d_D_init_122 : decode (m_D_init).2.1 122 = .ok (.getfield 21, 3) := by decide +kernel
theorem d_D_init_125 : decode (m_D_init).2.1 125 = .ok (.aload_n 0, 1) := by decide +kernel
theorem d_D_init_126 : decode (m_D_init).2.1 126 = .ok (.getfield 32, 3) := by decide +kernel
theorem d_D_init_129 : decode (m_D_init).2.1 129 = .ok (.invokespecial 62, 3) := by decide +kernel
theorem d_D_init_132 : decode (m_D_init).2.1 132 = .ok (.putfield 63, 3) := by decide +kernel
theorem d_D_init_135 : decode (m_D_init).2.1 135 = .ok (.aload_n 0, 1) := by decide +kernel
theorem d_D_init_136 : decode (m_D_init).2.1 136 = .ok (.bipush 11, 2) := by decide +kernel
theorem d_D_init_138 : decode (m_D_init).2.1 138 = .ok (.invokevirtual 67, 3) := by decide +kernel
theorem d_D_init_141 : decode (m_D_init).2.1 141 = .ok (.return_, 1) := by decide +kernel
theorem d_D_field_0 : decode (m_D_field).2.1 0 = .ok (.iload_n 1, 1) := by decide +kernel
theorem d_D_field_1 : decode (m_D_field).2.1 1 = .ok (.bipush 8, 2) := by decide +kernel
theorem d_D_field_3 : decode (m_D_field).2.1 3 = .ok (.if_icmp .lt 9, 3) := by decide +kernel
theorem d_D_field_6 : decode (m_D_field).2.1 6 = .ok (.iload_n 1, 1) := by decide +kernel
theorem d_D_field_7 : decode (m_D_field).2.1 7 = .ok (.bipush 64, 2) := by decide +kernel
theorem d_D_field_9 : decode (m_D_field).2.1 9 = .ok (.if_icmp .lt 5, 3) := by decide +kernel
theorem d_D_field_12 : decode (m_D_field).2.1 12 = .ok (.iconst (-1), 1) := by decide +kernel
theorem d_D_field_13 : decode (m_D_field).2.1 13 = .ok (.ireturn, 1) := by decide +kernel
theorem d_D_field_14 : decode (m_D_field).2.1 14 = .ok (.iload_n 1, 1) := by decide +kernel
theorem d_D_field_15 : decode (m_D_field).2.1 15 = .ok (.invokestatic 71, 3) := by decide +kernel
theorem d_D_field_18 : decode (m_D_field).2.1 18 = .ok (.ifCond .ne 6, 3) := by decide +kernel
theorem d_D_field_21 : decode (m_D_field).2.1 21 = .ok (.bipush (-4), 2) := by decide +kernel
theorem d_D_field_23 : decode (m_D_field).2.1 23 = .ok (.ireturn, 1) := by decide +kernel
theorem d_D_field_24 : decode (m_D_field).2.1 24 = .ok (.aload_n 0, 1) := by decide +kernel
theorem d_D_field_25 : decode (m_D_field).2.1 25 = .ok (.iload_n 1, 1) := by decide +kernel
theorem d_D_field_26 : decode (m_D_field).2.1 26 = .ok (.invokevirtual 67, 3) := by decide +kernel
theorem d_D_field_29 : decode (m_D_field).2.1 29 = .ok (.aload_n 0, 1) := by decide +kernel
theorem d_D_field_30 : decode (m_D_field).2.1 30 = .ok (.getfield 12, 3) := by decide +kernel
theorem d_D_field_33 : decode (m_D_field).2.1 33 = .ok (.getfield 75, 3) := by decide +kernel
theorem d_D_field_36 : decode (m_D_field).2.1 36 = .ok (.ireturn, 1) := by decide +kernel
theorem d_D_times_0 : decode (m_D_times).2.1 0 = .ok (.aload_n 0, 1) := by decide +kernel
theorem d_D_times_1 : decode (m_D_times).2.1 1 = .ok (.getfield 12, 3) := by decide +kernel
theorem d_D_times_4 : decode (m_D_times).2.1 4 = .ok (.iload_n 1, 1) := by decide +kernel
theorem d_D_times_5 : decode (m_D_times).2.1 5 = .ok (.invokevirtual 79, 3) := by decide +kernel
theorem d_D_times_8 : decode (m_D_times).2.1 8 = .ok (.ifCond .eq 26, 3) := by decide +kernel
theorem d_D_times_11 : decode (m_D_times).2.1 11 = .ok (.aload_n 0, 1) := by decide +kernel
theorem d_D_times_12 : decode (m_D_times).2.1 12 = .ok (.getfield 12, 3) := by decide +kernel
theorem d_D_times_15 : decode (m_D_times).2.1 15 = .ok (.iload_n 2, 1) := by decide +kernel
theorem d_D_times_16 : decode (m_D_times).2.1 16 = .ok (.invokevirtual 79, 3) := by decide +kernel
theorem d_D_times_19 : decode (m_D_times).2.1 19 = .ok (.ifCond .eq 15, 3) := by decide +kernel
theorem d_D_times_22 : decode (m_D_times).2.1 22 = .ok (.aload_n 0, 1) := by decide +kernel
theorem d_D_times_23 : decode (m_D_times).2.1 23 = .ok (.getfield 12, 3) := by decide +kernel
theorem d_D_times_26 : decode (m_D_times).2.1 26 = .ok (.iload_n 1, 1) := by decide +kernel
theorem d_D_times_27 : decode (m_D_times).2.1 27 = .ok (.iload_n 2, 1) := by decide +kernel
theorem d_D_times_28 : decode (m_D_times).2.1 28 = .ok (.invokevirtual 82, 3) := by decide +kernel
theorem d_D_times_31 : decode (m_D_times).2.1 31 = .ok (.goto 4, 3) := by decide +kernel
theorem d_D_times_34 : decode (m_D_times).2.1 34 = .ok (.iconst (-1), 1) := by decide +kernel
theorem d_D_times_35 : decode (m_D_times).2.1 35 = .ok (.ireturn, 1) := by decide +kernel
theorem d_D_over_0 : decode (m_D_over).2.1 0 = .ok (.aload_n 0, 1) := by decide +kernel
theorem d_D_over_1 : decode (m_D_over).2.1 1 = .ok (.getfield 12, 3) := by decide +kernel
theorem d_D_over_4 : decode (m_D_over).2.1 4 = .ok (.iload_n 1, 1) := by decide +kernel
theorem d_D_over_5 : decode (m_D_over).2.1 5 = .ok (.invokevirtual 79, 3) := by decide +kernel
theorem d_D_over_8 : decode (m_D_over).2.1 8 = .ok (.ifCond .eq 14, 3) := by decide +kernel
theorem d_D_over_11 : decode (m_D_over).2.1 11 = .ok (.aload_n 0, 1) := by decide +kernel
theorem d_D_over_12 : decode (m_D_over).2.1 12 = .ok (.getfield 12, 3) := by decide +kernel
theorem d_D_over_15 : decode (m_D_over).2.1 15 = .ok (.iload_n 2, 1) := by decide +kernel
theorem d_D_over_16 : decode (m_D_over).2.1 16 = .ok (.invokevirtual 79, 3) := by decide +kernel
theorem d_D_over_19 : decode (m_D_over).2.1 19 = .ok (.ifCond .ne 5, 3) := by decide +kernel
theorem d_D_over_22 : decode (m_D_over).2.1 22 = .ok (.iconst (-1), 1) := by decide +kernel
theorem d_D_over_23 : decode (m_D_over).2.1 23 = .ok (.ireturn, 1) := by decide +kernel
theorem d_D_over_24 : decode (m_D_over).2.1 24 = .ok (.iload_n 2, 1) := by decide +kernel
theorem d_D_over_25 : decode (m_D_over).2.1 25 = .ok (.ifCond .ne 8, 3) := by decide +kernel
theorem d_D_over_28 : decode (m_D_over).2.1 28 = .ok (.bipush (-2), 2) := by decide +kernel
theorem d_D_over_30 : decode (m_D_over).2.1 30 = .ok (.goto 12, 3) := by decide +kernel
theorem d_D_over_33 : decode (m_D_over).2.1 33 = .ok (.aload_n 0, 1) := by decide +kernel
theorem d_D_over_34 : decode (m_D_over).2.1 34 = .ok (.getfield 12, 3) := by decide +kernel
theorem d_D_over_37 : decode (m_D_over).2.1 37 = .ok (.iload_n 1, 1) := by decide +kernel
theorem d_D_over_38 : decode (m_D_over).2.1 38 = .ok (.iload_n 2, 1) := by decide +kernel
theorem d_D_over_39 : decode (m_D_over).2.1 39 = .ok (.invokevirtual 86, 3) := by decide +kernel
theorem d_D_over_42 : decode (m_D_over).2.1 42 = .ok (.ireturn, 1) := by decide +kernel
theorem d_D_log_0 : decode (m_D_log).2.1 0 = .ok (.aload_n 0, 1) := by decide +kernel
theorem d_D_log_1 : decode (m_D_log).2.1 1 = .ok (.getfield 12, 3) := by decide +kernel
theorem d_D_log_4 : decode (m_D_log).2.1 4 = .ok (.iload_n 1, 1) := by decide +kernel
theorem d_D_log_5 : decode (m_D_log).2.1 5 = .ok (.invokevirtual 79, 3) := by decide +kernel
theorem d_D_log_8 : decode (m_D_log).2.1 8 = .ok (.ifCond .ne 5, 3) := by decide +kernel
theorem d_D_log_11 : decode (m_D_log).2.1 11 = .ok (.iconst (-1), 1) := by decide +kernel
theorem d_D_log_12 : decode (m_D_log).2.1 12 = .ok (.ireturn, 1) := by decide +kernel
theorem d_D_log_13 : decode (m_D_log).2.1 13 = .ok (.iload_n 1, 1) := by decide +kernel
theorem d_D_log_14 : decode (m_D_log).2.1 14 = .ok (.ifCond .ne 8, 3) := by decide +kernel
theorem d_D_log_17 : decode (m_D_log).2.1 17 = .ok (.bipush (-2), 2) := by decide +kernel
theorem d_D_log_19 : decode (m_D_log).2.1 19 = .ok (.goto 12, 3) := by decide +kernel
theorem d_D_log_22 : decode (m_D_log).2.1 22 = .ok (.aload_n 0, 1) := by decide +kernel
theorem d_D_log_23 : decode (m_D_log).2.1 23 = .ok (.getfield 12, 3) := by decide +kernel
theorem d_D_log_26 : decode (m_D_log).2.1 26 = .ok (.getfield 89, 3) := by decide +kernel
theorem d_D_log_29 : decode (m_D_log).2.1 29 = .ok (.iload_n 1, 1) := by decide +kernel
theorem d_D_log_30 : decode (m_D_log).2.1 30 = .ok (.iaload, 1) := by decide +kernel
theorem d_D_log_31 : decode (m_D_log).2.1 31 = .ok (.ireturn, 1) := by decide +kernel
theorem d_D_code_0 : decode (m_D_code).2.1 0 = .ok (.iload_n 1, 1) := by decide +kernel
theorem d_D_code_1 : decode (m_D_code).2.1 1 = .ok (.ifCond .lt 25, 3) := by decide +kernel
theorem d_D_code_4 : decode (m_D_code).2.1 4 = .ok (.iload_n 1, 1) := by decide +kernel
theorem d_D_code_5 : decode (m_D_code).2.1 5 = .ok (.iconst 1, 1) := by decide +kernel
theorem d_D_code_6 : decode (m_D_code).2.1 6 = .ok (.if_icmp .gt 20, 3) := by decide +kernel
theorem d_D_code_9 : decode (m_D_code).2.1 9 = .ok (.iload_n 2, 1) := by decide +kernel
theorem d_D_code_10 : decode (m_D_code).2.1 10 = .ok (.bipush 20, 2) := by decide +kernel
theorem d_D_code_12 : decode (m_D_code).2.1 12 = .ok (.if_icmp .gt 14, 3) := by decide +kernel
theorem d_D_code_15 : decode (m_D_code).2.1 15 = .ok (.iload_n 2, 1) := by decide +kernel
theorem d_D_code_16 : decode (m_D_code).2.1 16 = .ok (.aload_n 0, 1) := by decide +kernel
theorem d_D_code_17 : decode (m_D_code).2.1 17 = .ok (.getfield 12, 3) := by decide +kernel
theorem d_D_code_20 : decode (m_D_code).2.1 20 = .ok (.getfield 92, 3) := by decide +kernel
theorem d_D_code_23 : decode (m_D_code).2.1 23 = .ok (.if_icmp .lt 5, 3) := by decide +kernel
theorem d_D_code_26 : decode (m_D_code).2.1 26 = .ok (.iconst 0, 1) := by decide +kernel
theorem d_D_code_27 : decode (m_D_code).2.1 27 = .ok (.ireturn, 1) := by decide +kernel
theorem d_D_code_28 : decode (m_D_code).2.1 28 = .ok (.iload_n 3, 1) := by decide +kernel
theorem d_D_code_29 : decode (m_D_code).2.1 29 = .ok (.iconst 2, 1) := by decide +kernel
theorem d_D_code_30 : decode (m_D_code).2.1 30 = .ok (.if_icmp .lt 22, 3) := by decide +kernel
theorem d_D_code_33 : decode (m_D_code).2.1 33 = .ok (.iload_n 3, 1) := by decide +kernel
theorem d_D_code_34 : decode (m_D_code).2.1 34 = .ok (.iload_n 2, 1) := by decide +kernel
theorem d_D_code_35 : decode (m_D_code).2.1 35 = .ok (.if_icmp .ge 17, 3) := by decide +kernel
theorem d_D_code_38 : decode (m_D_code).2.1 38 = .ok (.aload_n 0, 1) := by decide +kernel
theorem d_D_code_39 : decode (m_D_code).2.1 39 = .ok (.getfield 12, 3) := by decide +kernel
theorem d_D_code_42 : decode (m_D_code).2.1 42 = .ok (.getfield 75, 3) := by decide +kernel
theorem d_D_code_45 : decode (m_D_code).2.1 45 = .ok (.iload_n 3, 1) := by decide +kernel
theorem d_D_code_46 : decode (m_D_code).2.1 46 = .ok (.imul, 1) := by decide +kernel
theorem d_D_code_47 : decode (m_D_code).2.1 47 = .ok (.bipush 12, 2) := by decide +kernel
theorem d_D_code_49 : decode (m_D_code).2.1 49 = .ok (.if_icmp .le 5, 3) := by decide +kernel
theorem d_D_code_52 : decode (m_D_code).2.1 52 = .ok (.iconst 0, 1) := by decide +kernel
theorem d_D_code_53 : decode (m_D_code).2.1 53 = .ok (.ireturn, 1) := by decide +kernel
theorem d_D_code_54 : decode (m_D_code).2.1 54 = .ok (.aload_n 0, 1) := by decide +kernel
theorem d_D_code_55 : decode (m_D_code).2.1 55 = .ok (.iload_n 1, 1) := by decide +kernel
theorem d_D_code_56 : decode (m_D_code).2.1 56 = .ok (.iload_n 2, 1) := by decide +kernel
theorem d_D_code_57 : decode (m_D_code).2.1 57 = .ok (.iload_n 3, 1) := by decide +kernel
theorem d_D_code_58 : decode (m_D_code).2.1 58 = .ok (.invokevirtual 95, 3) := by decide +kernel
theorem d_D_code_61 : decode (m_D_code).2.1 61 = .ok (.iconst 1, 1) := by decide +kernel
theorem d_D_code_62 : decode (m_D_code).2.1 62 = .ok (.ireturn, 1) := by decide +kernel
theorem d_D_tell_0 : decode (m_D_tell).2.1 0 = .ok (.aload_n 0, 1) := by decide +kernel
theorem d_D_tell_1 : decode (m_D_tell).2.1 1 = .ok (.iload_n 1, 1) := by decide +kernel
theorem d_D_tell_2 : decode (m_D_tell).2.1 2 = .ok (.invokevirtual 99, 3) := by decide +kernel
theorem d_D_tell_5 : decode (m_D_tell).2.1 5 = .ok (.ifCond .eq 14, 3) := by decide +kernel
theorem d_D_tell_8 : decode (m_D_tell).2.1 8 = .ok (.aload_n 0, 1) := by decide +kernel
theorem d_D_tell_9 : decode (m_D_tell).2.1 9 = .ok (.getfield 12, 3) := by decide +kernel
theorem d_D_tell_12 : decode (m_D_tell).2.1 12 = .ok (.iload_n 2, 1) := by decide +kernel
theorem d_D_tell_13 : decode (m_D_tell).2.1 13 = .ok (.invokevirtual 79, 3) := by decide +kernel
theorem d_D_tell_16 : decode (m_D_tell).2.1 16 = .ok (.ifCond .ne 5, 3) := by decide +kernel
theorem d_D_tell_19 : decode (m_D_tell).2.1 19 = .ok (.iconst 0, 1) := by decide +kernel
theorem d_D_tell_20 : decode (m_D_tell).2.1 20 = .ok (.ireturn, 1) := by decide +kernel
theorem d_D_tell_21 : decode (m_D_tell).2.1 21 = .ok (.aload_n 0, 1) := by decide +kernel
theorem d_D_tell_22 : decode (m_D_tell).2.1 22 = .ok (.getfield 25, 3) := by decide +kernel
theorem d_D_tell_25 : decode (m_D_tell).2.1 25 = .ok (.iload_n 1, 1) := by decide +kernel
theorem d_D_tell_26 : decode (m_D_tell).2.1 26 = .ok (.iload_n 2, 1) := by decide +kernel
theorem d_D_tell_27 : decode (m_D_tell).2.1 27 = .ok (.iastore, 1) := by decide +kernel
theorem d_D_tell_28 : decode (m_D_tell).2.1 28 = .ok (.iconst 1, 1) := by decide +kernel
theorem d_D_tell_29 : decode (m_D_tell).2.1 29 = .ok (.ireturn, 1) := by decide +kernel
theorem d_D_encode_0 : decode (m_D_encode).2.1 0 = .ok (.iload_n 1, 1) := by decide +kernel
theorem d_D_encode_1 : decode (m_D_encode).2.1 1 = .ok (.ifCond .eq 13, 3) := by decide +kernel
theorem d_D_encode_4 : decode (m_D_encode).2.1 4 = .ok (.aload_n 0, 1) := by decide +kernel
theorem d_D_encode_5 : decode (m_D_encode).2.1 5 = .ok (.getfield 21, 3) := by decide +kernel
theorem d_D_encode_8 : decode (m_D_encode).2.1 8 = .ok (.getfield 102, 3) := by decide +kernel
theorem d_D_encode_11 : decode (m_D_encode).2.1 11 = .ok (.goto 10, 3) := by decide +kernel
theorem d_D_encode_14 : decode (m_D_encode).2.1 14 = .ok (.aload_n 0, 1) := by decide +kernel
theorem d_D_encode_15 : decode (m_D_encode).2.1 15 = .ok (.getfield 21, 3) := by decide +kernel
theorem d_D_encode_18 : decode (m_D_encode).2.1 18 = .ok (.getfield 106, 3) := by decide +kernel
theorem d_D_encode_21 : decode (m_D_encode).2.1 21 = .ok (.astore_n 2, 1) := by decide +kernel
theorem d_D_encode_22 : decode (m_D_encode).2.1 22 = .ok (.iconst 0, 1) := by decide +kernel
theorem d_D_encode_23 : decode (m_D_encode).2.1 23 = .ok (.istore_n 3, 1) := by decide +kernel
theorem d_D_encode_24 : decode (m_D_encode).2.1 24 = .ok (.iconst 0, 1) := by decide +kernel
theorem d_D_encode_25 : decode (m_D_encode).2.1 25 = .ok (.istore 4, 2) := by decide +kernel
theorem d_D_encode_27 : decode (m_D_encode).2.1 27 = .ok (.iload 4, 2) := by decide +kernel
theorem d_D_encode_29 : decode (m_D_encode).2.1 29 = .ok (.aload_n 0, 1) := by decide +kernel
theorem d_D_encode_30 : decode (m_D_encode).2.1 30 = .ok (.getfield 21, 3) := by decide +kernel
theorem d_D_encode_33 : decode (m_D_encode).2.1 33 = .ok (.getfield 109, 3) := by decide +kernel
theorem d_D_encode_36 : decode (m_D_encode).2.1 36 = .ok (.if_icmp .ge 44, 3) := by decide +kernel
theorem d_D_encode_39 : decode (m_D_encode).2.1 39 = .ok (.aload_n 0, 1) := by decide +kernel
theorem d_D_encode_40 : decode (m_D_encode).2.1 40 = .ok (.getfield 21, 3) := by decide +kernel
theorem d_D_encode_43 : decode (m_D_encode).2.1 43 = .ok (.aload_n 2, 1) := by decide +kernel
theorem d_D_encode_44 : decode (m_D_encode).2.1 44 = .ok (.aload_n 0, 1) := by decide +kernel
theorem d_D_encode_45 : decode (m_D_encode).2.1 45 = .ok (.getfield 25, 3) := by decide +kernel
theorem d_D_encode_48 : decode (m_D_encode).2.1 48 = .ok (.iload 4, 2) := by decide +kernel
theorem d_D_encode_50 : decode (m_D_encode).2.1 50 = .ok (.invokevirtual 112, 3) := by decide +kernel
theorem d_D_encode_53 : decode (m_D_encode).2.1 53 = .ok (.istore 5, 2) := by decide +kernel
theorem d_D_encode_55 : decode (m_D_encode).2.1 55 = .ok (.aload_n 0, 1) := by decide +kernel
theorem d_D_encode_56 : decode (m_D_encode).2.1 56 = .ok (.getfield 32, 3) := by decide +kernel
theorem d_D_encode_59 : decode (m_D_encode).2.1 59 = .ok (.iload 4, 2) := by decide +kernel
theorem d_D_encode_61 : decode (m_D_encode).2.1 61 = .ok (.iload 5, 2) := by decide +kernel
theorem d_D_encode_63 : decode (m_D_encode).2.1 63 = .ok (.invokevirtual 116, 3) := by decide +kernel
theorem d_D_encode_66 : decode (m_D_encode).2.1 66 = .ok (.iload 5, 2) := by decide +kernel
theorem d_D_encode_68 : decode (m_D_encode).2.1 68 = .ok (.ifCond .eq 6, 3) := by decide +kernel
theorem d_D_encode_71 : decode (m_D_encode).2.1 71 = .ok (.iinc 3 1, 3) := by decide +kernel
theorem d_D_encode_74 : decode (m_D_encode).2.1 74 = .ok (.iinc 4 1, 3) := by decide +kernel
theorem d_D_encode_77 : decode (m_D_encode).2.1 77 = .ok (.goto (-50), 3) := by decide +kernel
theorem d_D_encode_80 : decode (m_D_encode).2.1 80 = .ok (.iload_n 3, 1) := by decide +kernel
theorem d_D_encode_81 : decode (m_D_encode).2.1 81 = .ok (.ireturn, 1) := by decide +kernel
theorem d_D_receive_0 : decode (m_D_receive).2.1 0 = .ok (.aload_n 0, 1) := by decide +kernel
theorem d_D_receive_1 : decode (m_D_receive).2.1 1 = .ok (.iload_n 1, 1) := by decide +kernel
theorem d_D_receive_2 : decode (m_D_receive).2.1 2 = .ok (.invokevirtual 120, 3) := by decide +kernel
theorem d_D_receive_5 : decode (m_D_receive).2.1 5 = .ok (.ifCond .eq 14, 3) := by decide +kernel
theorem d_D_receive_8 : decode (m_D_receive).2.1 8 = .ok (.aload_n 0, 1) := by decide +kernel
theorem d_D_receive_9 : decode (m_D_receive).2.1 9 = .ok (.getfield 12, 3) := by decide +kernel
theorem d_D_receive_12 : decode (m_D_receive).2.1 12 = .ok (.iload_n 2, 1) := by decide +kernel
theorem d_D_receive_13 : decode (m_D_receive).2.1 13 = .ok (.invokevirtual 79, 3) := by decide +kernel
theorem d_D_receive_16 : decode (m_D_receive).2.1 16 = .ok (.ifCond .ne 5, 3) := by decide +kernel
theorem d_D_receive_19 : decode (m_D_receive).2.1 19 = .ok (.iconst 0, 1) := by decide +kernel
theorem d_D_receive_20 : decode (m_D_receive).2.1 20 = .ok (.ireturn, 1) := by decide +kernel
theorem d_D_receive_21 : decode (m_D_receive).2.1 21 = .ok (.aload_n 0, 1) := by decide +kernel
theorem d_D_receive_22 : decode (m_D_receive).2.1 22 = .ok (.getfield 32, 3) := by decide +kernel
theorem d_D_receive_25 : decode (m_D_receive).2.1 25 = .ok (.iload_n 1, 1) := by decide +kernel
theorem d_D_receive_26 : decode (m_D_receive).2.1 26 = .ok (.iload_n 2, 1) := by decide +kernel
theorem d_D_receive_27 : decode (m_D_receive).2.1 27 = .ok (.invokevirtual 116, 3) := by decide +kernel
theorem d_D_receive_30 : decode (m_D_receive).2.1 30 = .ok (.iconst 1, 1) := by decide +kernel
theorem d_D_receive_31 : decode (m_D_receive).2.1 31 = .ok (.ireturn, 1) := by decide +kernel
theorem d_D_erase_0 : decode (m_D_erase).2.1 0 = .ok (.aload_n 0, 1) := by decide +kernel
theorem d_D_erase_1 : decode (m_D_erase).2.1 1 = .ok (.iload_n 1, 1) := by decide +kernel
theorem d_D_erase_2 : decode (m_D_erase).2.1 2 = .ok (.invokevirtual 120, 3) := by decide +kernel
theorem d_D_erase_5 : decode (m_D_erase).2.1 5 = .ok (.ifCond .eq 15, 3) := by decide +kernel
theorem d_D_erase_8 : decode (m_D_erase).2.1 8 = .ok (.aload_n 0, 1) := by decide +kernel
theorem d_D_erase_9 : decode (m_D_erase).2.1 9 = .ok (.getfield 32, 3) := by decide +kernel
theorem d_D_erase_12 : decode (m_D_erase).2.1 12 = .ok (.getfield 123, 3) := by decide +kernel
theorem d_D_erase_15 : decode (m_D_erase).2.1 15 = .ok (.iload_n 1, 1) := by decide +kernel
theorem d_D_erase_16 : decode (m_D_erase).2.1 16 = .ok (.baload, 1) := by decide +kernel
theorem d_D_erase_17 : decode (m_D_erase).2.1 17 = .ok (.ifCond .eq 5, 3) := by decide +kernel
theorem d_D_erase_20 : decode (m_D_erase).2.1 20 = .ok (.iconst 0, 1) := by decide +kernel
theorem d_D_erase_21 : decode (m_D_erase).2.1 21 = .ok (.ireturn, 1) := by decide +kernel
theorem d_D_erase_22 : decode (m_D_erase).2.1 22 = .ok (.aload_n 0, 1) := by decide +kernel
theorem d_D_erase_23 : decode (m_D_erase).2.1 23 = .ok (.getfield 32, 3) := by decide +kernel
theorem d_D_erase_26 : decode (m_D_erase).2.1 26 = .ok (.iload_n 1, 1) := by decide +kernel
theorem d_D_erase_27 : decode (m_D_erase).2.1 27 = .ok (.invokevirtual 127, 3) := by decide +kernel
theorem d_D_erase_30 : decode (m_D_erase).2.1 30 = .ok (.iconst 1, 1) := by decide +kernel
theorem d_D_erase_31 : decode (m_D_erase).2.1 31 = .ok (.ireturn, 1) := by decide +kernel
theorem d_D_word_0 : decode (m_D_word).2.1 0 = .ok (.aload_n 0, 1) := by decide +kernel
theorem d_D_word_1 : decode (m_D_word).2.1 1 = .ok (.iload_n 1, 1) := by decide +kernel
theorem d_D_word_2 : decode (m_D_word).2.1 2 = .ok (.invokevirtual 120, 3) := by decide +kernel
theorem d_D_word_5 : decode (m_D_word).2.1 5 = .ok (.ifCond .ne 5, 3) := by decide +kernel
theorem d_D_word_8 : decode (m_D_word).2.1 8 = .ok (.iconst (-1), 1) := by decide +kernel
theorem d_D_word_9 : decode (m_D_word).2.1 9 = .ok (.ireturn, 1) := by decide +kernel
theorem d_D_word_10 : decode (m_D_word).2.1 10 = .ok (.aload_n 0, 1) := by decide +kernel
theorem d_D_word_11 : decode (m_D_word).2.1 11 = .ok (.getfield 32, 3) := by decide +kernel
theorem d_D_word_14 : decode (m_D_word).2.1 14 = .ok (.getfield 123, 3) := by decide +kernel
theorem d_D_word_17 : decode (m_D_word).2.1 17 = .ok (.iload_n 1, 1) := by decide +kernel
theorem d_D_word_18 : decode (m_D_word).2.1 18 = .ok (.baload, 1) := by decide +kernel
theorem d_D_word_19 : decode (m_D_word).2.1 19 = .ok (.ifCond .eq 8, 3) := by decide +kernel
theorem d_D_word_22 : decode (m_D_word).2.1 22 = .ok (.bipush (-2), 2) := by decide +kernel
theorem d_D_word_24 : decode (m_D_word).2.1 24 = .ok (.goto 12, 3) := by decide +kernel
theorem d_D_word_27 : decode (m_D_word).2.1 27 = .ok (.aload_n 0, 1) := by decide +kernel
theorem d_D_word_28 : decode (m_D_word).2.1 28 = .ok (.getfield 32, 3) := by decide +kernel
theorem d_D_word_31 : decode (m_D_word).2.1 31 = .ok (.getfield 130, 3) := by decide +kernel
theorem d_D_word_34 : decode (m_D_word).2.1 34 = .ok (.iload_n 1, 1) := by decide +kernel
theorem d_D_word_35 : decode (m_D_word).2.1 35 = .ok (.iaload, 1) := by decide +kernel
theorem d_D_word_36 : decode (m_D_word).2.1 36 = .ok (.ireturn, 1) := by decide +kernel
theorem d_D_syndrome_0 : decode (m_D_syndrome).2.1 0 = .ok (.iload_n 1, 1) := by decide +kernel
theorem d_D_syndrome_1 : decode (m_D_syndrome).2.1 1 = .ok (.ifCond .lt 22, 3) := by decide +kernel
theorem d_D_syndrome_4 : decode (m_D_syndrome).2.1 4 = .ok (.iload_n 1, 1) := by decide +kernel
theorem d_D_syndrome_5 : decode (m_D_syndrome).2.1 5 = .ok (.aload_n 0, 1) := by decide +kernel
theorem d_D_syndrome_6 : decode (m_D_syndrome).2.1 6 = .ok (.getfield 21, 3) := by decide +kernel
theorem d_D_syndrome_9 : decode (m_D_syndrome).2.1 9 = .ok (.getfield 109, 3) := by decide +kernel
theorem d_D_syndrome_12 : decode (m_D_syndrome).2.1 12 = .ok (.aload_n 0, 1) := by decide +kernel
theorem d_D_syndrome_13 : decode (m_D_syndrome).2.1 13 = .ok (.getfield 21, 3) := by decide +kernel
theorem d_D_syndrome_16 : decode (m_D_syndrome).2.1 16 = .ok (.getfield 133, 3) := by decide +kernel
theorem d_D_syndrome_19 : decode (m_D_syndrome).2.1 19 = .ok (.isub, 1) := by decide +kernel
theorem d_D_syndrome_20 : decode (m_D_syndrome).2.1 20 = .ok (.if_icmp .lt 5, 3) := by decide +kernel
theorem d_D_syndrome_23 : decode (m_D_syndrome).2.1 23 = .ok (.iconst (-1), 1) := by decide +kernel
theorem d_D_syndrome_24 : decode (m_D_syndrome).2.1 24 = .ok (.ireturn, 1) := by decide +kernel
theorem d_D_syndrome_25 : decode (m_D_syndrome).2.1 25 = .ok (.iconst 0, 1) := by decide +kernel
theorem d_D_syndrome_26 : decode (m_D_syndrome).2.1 26 = .ok (.istore_n 2, 1) := by decide +kernel
theorem d_D_syndrome_27 : decode (m_D_syndrome).2.1 27 = .ok (.iconst 0, 1) := by decide +kernel
theorem d_D_syndrome_28 : decode (m_D_syndrome).2.1 28 = .ok (.istore_n 3, 1) := by decide +kernel
theorem d_D_syndrome_29 : decode (m_D_syndrome).2.1 29 = .ok (.iload_n 3, 1) := by decide +kernel
theorem d_D_syndrome_30 : decode (m_D_syndrome).2.1 30 = .ok (.aload_n 0, 1) := by decide +kernel
theorem d_D_syndrome_31 : decode (m_D_syndrome).2.1 31 = .ok (.getfield 21, 3) := by decide +kernel
theorem d_D_syndrome_34 : decode (m_D_syndrome).2.1 34 = .ok (.getfield 109, 3) := by decide +kernel
theorem d_D_syndrome_37 : decode (m_D_syndrome).2.1 37 = .ok (.if_icmp .ge 77, 3) := by decide +kernel
theorem d_D_syndrome_40 : decode (m_D_syndrome).2.1 40 = .ok (.aload_n 0, 1) := by decide +kernel
theorem d_D_syndrome_41 : decode (m_D_syndrome).2.1 41 = .ok (.getfield 32, 3) := by decide +kernel
theorem d_D_syndrome_44 : decode (m_D_syndrome).2.1 44 = .ok (.getfield 123, 3) := by decide +kernel
theorem d_D_syndrome_47 : decode (m_D_syndrome).2.1 47 = .ok (.iload_n 3, 1) := by decide +kernel
theorem d_D_syndrome_48 : decode (m_D_syndrome).2.1 48 = .ok (.baload, 1) := by decide +kernel
theorem d_D_syndrome_49 : decode (m_D_syndrome).2.1 49 = .ok (.ifCond .ne 59, 3) := by decide +kernel
theorem d_D_syndrome_52 : decode (m_D_syndrome).2.1 52 = .ok (.aload_n 0, 1) := by decide +kernel
theorem d_D_syndrome_53 : decode (m_D_syndrome).2.1 53 = .ok (.getfield 12, 3) := by decide +kernel
theorem d_D_syndrome_56 : decode (m_D_syndrome).2.1 56 = .ok (.aload_n 0, 1) := by decide +kernel
theorem d_D_syndrome_57 : decode (m_D_syndrome).2.1 57 = .ok (.getfield 21, 3) := by decide +kernel
theorem d_D_syndrome_60 : decode (m_D_syndrome).2.1 60 = .ok (.getfield 136, 3) := by decide +kernel
theorem d_D_syndrome_63 : decode (m_D_syndrome).2.1 63 = .ok (.iload_n 3, 1) := by decide +kernel
theorem d_D_syndrome_64 : decode (m_D_syndrome).2.1 64 = .ok (.iaload, 1) := by decide +kernel
theorem d_D_syndrome_65 : decode (m_D_syndrome).2.1 65 = .ok (.aload_n 0, 1) := by decide +kernel
theorem d_D_syndrome_66 : decode (m_D_syndrome).2.1 66 = .ok (.getfield 32, 3) := by decide +kernel
theorem d_D_syndrome_69 : decode (m_D_syndrome).2.1 69 = .ok (.getfield 130, 3) := by decide +kernel
theorem d_D_syndrome_72 : decode (m_D_syndrome).2.1 72 = .ok (.iload_n 3, 1) := by decide +kernel
theorem d_D_syndrome_73 : decode (m_D_syndrome).2.1 73 = .ok (.iaload, 1) := by decide +kernel
theorem d_D_syndrome_74 : decode (m_D_syndrome).2.1 74 = .ok (.invokevirtual 82, 3) := by decide +kernel
theorem d_D_syndrome_77 : decode (m_D_syndrome).2.1 77 = .ok (.istore 4, 2) := by decide +kernel
theorem d_D_syndrome_79 : decode (m_D_syndrome).2.1 79 = .ok (.iload_n 2, 1) := by decide +kernel
theorem d_D_syndrome_80 : decode (m_D_syndrome).2.1 80 = .ok (.aload_n 0, 1) := by decide +kernel
theorem d_D_syndrome_81 : decode (m_D_syndrome).2.1 81 = .ok (.getfield 12, 3) := by decide +kernel
theorem d_D_syndrome_84 : decode (m_D_syndrome).2.1 84 = .ok (.iload 4, 2) := by decide +kernel
theorem d_D_syndrome_86 : decode (m_D_syndrome).2.1 86 = .ok (.aload_n 0, 1) := by decide +kernel
theorem d_D_syndrome_87 : decode (m_D_syndrome).2.1 87 = .ok (.getfield 12, 3) := by decide +kernel
theorem d_D_syndrome_90 : decode (m_D_syndrome).2.1 90 = .ok (.aload_n 0, 1) := by decide +kernel
theorem d_D_syndrome_91 : decode (m_D_syndrome).2.1 91 = .ok (.getfield 21, 3) := by decide +kernel
theorem d_D_syndrome_94 : decode (m_D_syndrome).2.1 94 = .ok (.getfield 139, 3) := by decide +kernel
theorem d_D_syndrome_97 : decode (m_D_syndrome).2.1 97 = .ok (.iload_n 3, 1) := by decide +kernel
theorem d_D_syndrome_98 : decode (m_D_syndrome).2.1 98 = .ok (.iaload, 1) := by decide +kernel
theorem d_D_syndrome_99 : decode (m_D_syndrome).2.1 99 = .ok (.iload_n 1, 1) := by decide +kernel
theorem d_D_syndrome_100 : decode (m_D_syndrome).2.1 100 = .ok (.invokevirtual 142, 3) := by decide +kernel
theorem d_D_syndrome_103 : decode (m_D_syndrome).2.1 103 = .ok (.invokevirtual 82, 3) := by decide +kernel
theorem d_D_syndrome_106 : decode (m_D_syndrome).2.1 106 = .ok (.ixor, 1) := by decide +kernel
theorem d_D_syndrome_107 : decode (m_D_syndrome).2.1 107 = .ok (.istore_n 2, 1) := by decide +kernel
theorem d_D_syndrome_108 : decode (m_D_syndrome).2.1 108 = .ok (.iinc 3 1, 3) := by decide +kernel
theorem d_D_syndrome_111 : decode (m_D_syndrome).2.1 111 = .ok (.goto (-82), 3) := by decide +kernel
theorem d_D_syndrome_114 : decode (m_D_syndrome).2.1 114 = .ok (.iload_n 2, 1) := by decide +kernel
theorem d_D_syndrome_115 : decode (m_D_syndrome).2.1 115 = .ok (.ireturn, 1) := by decide +kernel
theorem d_D_decode_0 : decode (m_D_decode).2.1 0 = .ok (.aload_n 0, 1) := by decide +kernel
theorem d_D_decode_1 : decode (m_D_decode).2.1 1 = .ok (.invokevirtual 145, 3) := by decide +kernel
theorem d_D_decode_4 : decode (m_D_decode).2.1 4 = .ok (.ifCond .eq 6, 3) := by decide +kernel
theorem d_D_decode_7 : decode (m_D_decode).2.1 7 = .ok (.bipush (-3), 2) := by decide +kernel
theorem d_D_decode_9 : decode (m_D_decode).2.1 9 = .ok (.ireturn, 1) := by decide +kernel
theorem d_D_decode_10 : decode (m_D_decode).2.1 10 = .ok (.aload_n 0, 1) := by decide +kernel
theorem d_D_decode_11 : decode (m_D_decode).2.1 11 = .ok (.getfield 41, 3) := by decide +kernel
theorem d_D_decode_14 : decode (m_D_decode).2.1 14 = .ok (.aload_n 0, 1) := by decide +kernel
theorem d_D_decode_15 : decode (m_D_decode).2.1 15 = .ok (.invokevirtual 149, 3) := by decide +kernel
theorem d_D_decode_18 : decode (m_D_decode).2.1 18 = .ok (.aload_n 0, 1) := by decide +kernel
theorem d_D_decode_19 : decode (m_D_decode).2.1 19 = .ok (.getfield 50, 3) := by decide +kernel
theorem d_D_decode_22 : decode (m_D_decode).2.1 22 = .ok (.invokevirtual 153, 3) := by decide +kernel
theorem d_D_decode_25 : decode (m_D_decode).2.1 25 = .ok (.aload_n 0, 1) := by decide +kernel
theorem d_D_decode_26 : decode (m_D_decode).2.1 26 = .ok (.getfield 50, 3) := by decide +kernel
theorem d_D_decode_29 : decode (m_D_decode).2.1 29 = .ok (.getfield 157, 3) := by decide +kernel
theorem d_D_decode_32 : decode (m_D_decode).2.1 32 = .ok (.ifCond .ne 6, 3) := by decide +kernel
theorem d_D_decode_35 : decode (m_D_decode).2.1 35 = .ok (.bipush (-2), 2) := by decide +kernel
theorem d_D_decode_37 : decode (m_D_decode).2.1 37 = .ok (.ireturn, 1) := by decide +kernel
theorem d_D_decode_38 : decode (m_D_decode).2.1 38 = .ok (.aload_n 0, 1) := by decide +kernel
theorem d_D_decode_39 : decode (m_D_decode).2.1 39 = .ok (.invokevirtual 160, 3) := by decide +kernel
theorem d_D_decode_42 : decode (m_D_decode).2.1 42 = .ok (.aload_n 0, 1) := by decide +kernel
theorem d_D_decode_43 : decode (m_D_decode).2.1 43 = .ok (.getfield 50, 3) := by decide +kernel
theorem d_D_decode_46 : decode (m_D_decode).2.1 46 = .ok (.getfield 163, 3) := by decide +kernel
theorem d_D_decode_49 : decode (m_D_decode).2.1 49 = .ok (.iconst 0, 1) := by decide +kernel
theorem d_D_decode_50 : decode (m_D_decode).2.1 50 = .ok (.iaload, 1) := by decide +kernel
theorem d_D_decode_51 : decode (m_D_decode).2.1 51 = .ok (.ireturn, 1) := by decide +kernel
theorem d_D_decoded_0 : decode (m_D_decoded).2.1 0 = .ok (.aload_n 0, 1) := by decide +kernel
theorem d_D_decoded_1 : decode (m_D_decoded).2.1 1 = .ok (.iload_n 1, 1) := by decide +kernel
theorem d_D_decoded_2 : decode (m_D_decoded).2.1 2 = .ok (.invokevirtual 120, 3) := by decide +kernel
theorem d_D_decoded_5 : decode (m_D_decoded).2.1 5 = .ok (.ifCond .ne 5, 3) := by decide +kernel
theorem d_D_decoded_8 : decode (m_D_decoded).2.1 8 = .ok (.iconst (-1), 1) := by decide +kernel
theorem d_D_decoded_9 : decode (m_D_decoded).2.1 9 = .ok (.ireturn, 1) := by decide +kernel
theorem d_D_decoded_10 : decode (m_D_decoded).2.1 10 = .ok (.aload_n 0, 1) := by decide +kernel
theorem d_D_decoded_11 : decode (m_D_decoded).2.1 11 = .ok (.getfield 50, 3) := by decide +kernel
theorem d_D_decoded_14 : decode (m_D_decoded).2.1 14 = .ok (.getfield 157, 3) := by decide +kernel
theorem d_D_decoded_17 : decode (m_D_decoded).2.1 17 = .ok (.ifCond .ne 8, 3) := by decide +kernel
theorem d_D_decoded_20 : decode (m_D_decoded).2.1 20 = .ok (.bipush (-2), 2) := by decide +kernel
theorem d_D_decoded_22 : decode (m_D_decoded).2.1 22 = .ok (.goto 14, 3) := by decide +kernel
theorem d_D_decoded_25 : decode (m_D_decoded).2.1 25 = .ok (.aload_n 0, 1) := by decide +kernel
theorem d_D_decoded_26 : decode (m_D_decoded).2.1 26 = .ok (.getfield 50, 3) := by decide +kernel
theorem d_D_decoded_29 : decode (m_D_decoded).2.1 29 = .ok (.getfield 166, 3) := by decide +kernel
theorem d_D_decoded_32 : decode (m_D_decoded).2.1 32 = .ok (.iconst 0, 1) := by decide +kernel
theorem d_D_decoded_33 : decode (m_D_decoded).2.1 33 = .ok (.aaload, 1) := by decide +kernel
theorem d_D_decoded_34 : decode (m_D_decoded).2.1 34 = .ok (.iload_n 1, 1) := by decide +kernel
theorem d_D_decoded_35 : decode (m_D_decoded).2.1 35 = .ok (.iaload, 1) := by decide +kernel
theorem d_D_decoded_36 : decode (m_D_decoded).2.1 36 = .ok (.ireturn, 1) := by decide +kernel
theorem d_D_sent_0 : decode (m_D_sent).2.1 0 = .ok (.aload_n 0, 1) := by decide +kernel
theorem d_D_sent_1 : decode (m_D_sent).2.1 1 = .ok (.iload_n 1, 1) := by decide +kernel
theorem d_D_sent_2 : decode (m_D_sent).2.1 2 = .ok (.invokevirtual 99, 3) := by decide +kernel
theorem d_D_sent_5 : decode (m_D_sent).2.1 5 = .ok (.ifCond .ne 5, 3) := by decide +kernel
theorem d_D_sent_8 : decode (m_D_sent).2.1 8 = .ok (.iconst (-1), 1) := by decide +kernel
theorem d_D_sent_9 : decode (m_D_sent).2.1 9 = .ok (.ireturn, 1) := by decide +kernel
theorem d_D_sent_10 : decode (m_D_sent).2.1 10 = .ok (.aload_n 0, 1) := by decide +kernel
theorem d_D_sent_11 : decode (m_D_sent).2.1 11 = .ok (.getfield 50, 3) := by decide +kernel
theorem d_D_sent_14 : decode (m_D_sent).2.1 14 = .ok (.getfield 157, 3) := by decide +kernel
theorem d_D_sent_17 : decode (m_D_sent).2.1 17 = .ok (.ifCond .ne 8, 3) := by decide +kernel
theorem d_D_sent_20 : decode (m_D_sent).2.1 20 = .ok (.bipush (-2), 2) := by decide +kernel
theorem d_D_sent_22 : decode (m_D_sent).2.1 22 = .ok (.goto 20, 3) := by decide +kernel
theorem d_D_sent_25 : decode (m_D_sent).2.1 25 = .ok (.aload_n 0, 1) := by decide +kernel
theorem d_D_sent_26 : decode (m_D_sent).2.1 26 = .ok (.getfield 21, 3) := by decide +kernel
theorem d_D_sent_29 : decode (m_D_sent).2.1 29 = .ok (.aload_n 0, 1) := by decide +kernel
theorem d_D_sent_30 : decode (m_D_sent).2.1 30 = .ok (.getfield 50, 3) := by decide +kernel
theorem d_D_sent_33 : decode (m_D_sent).2.1 33 = .ok (.getfield 166, 3) := by decide +kernel
theorem d_D_sent_36 : decode (m_D_sent).2.1 36 = .ok (.iconst 0, 1) := by decide +kernel
theorem d_D_sent_37 : decode (m_D_sent).2.1 37 = .ok (.aaload, 1) := by decide +kernel
theorem d_D_sent_38 : decode (m_D_sent).2.1 38 = .ok (.iload_n 1, 1) := by decide +kernel
theorem d_D_sent_39 : decode (m_D_sent).2.1 39 = .ok (.invokevirtual 169, 3) := by decide +kernel
theorem d_D_sent_42 : decode (m_D_sent).2.1 42 = .ok (.ireturn, 1) := by decide +kernel
theorem d_D_locator_0 : decode (m_D_locator).2.1 0 = .ok (.iload_n 1, 1) := by decide +kernel
theorem d_D_locator_1 : decode (m_D_locator).2.1 1 = .ok (.ifCond .lt 22, 3) := by decide +kernel
theorem d_D_locator_4 : decode (m_D_locator).2.1 4 = .ok (.iload_n 1, 1) := by decide +kernel
theorem d_D_locator_5 : decode (m_D_locator).2.1 5 = .ok (.aload_n 0, 1) := by decide +kernel
theorem d_D_locator_6 : decode (m_D_locator).2.1 6 = .ok (.getfield 21, 3) := by decide +kernel
theorem d_D_locator_9 : decode (m_D_locator).2.1 9 = .ok (.getfield 109, 3) := by decide +kernel
theorem d_D_locator_12 : decode (m_D_locator).2.1 12 = .ok (.aload_n 0, 1) := by decide +kernel
theorem d_D_locator_13 : decode (m_D_locator).2.1 13 = .ok (.getfield 21, 3) := by decide +kernel
theorem d_D_locator_16 : decode (m_D_locator).2.1 16 = .ok (.getfield 133, 3) := by decide +kernel
theorem d_D_locator_19 : decode (m_D_locator).2.1 19 = .ok (.isub, 1) := by decide +kernel
theorem d_D_locator_20 : decode (m_D_locator).2.1 20 = .ok (.if_icmp .le 5, 3) := by decide +kernel
theorem d_D_locator_23 : decode (m_D_locator).2.1 23 = .ok (.iconst (-1), 1) := by decide +kernel
theorem d_D_locator_24 : decode (m_D_locator).2.1 24 = .ok (.ireturn, 1) := by decide +kernel
theorem d_D_locator_25 : decode (m_D_locator).2.1 25 = .ok (.aload_n 0, 1) := by decide +kernel
theorem d_D_locator_26 : decode (m_D_locator).2.1 26 = .ok (.getfield 50, 3) := by decide +kernel
theorem d_D_locator_29 : decode (m_D_locator).2.1 29 = .ok (.getfield 157, 3) := by decide +kernel
theorem d_D_locator_32 : decode (m_D_locator).2.1 32 = .ok (.ifCond .ne 8, 3) := by decide +kernel
theorem d_D_locator_35 : decode (m_D_locator).2.1 35 = .ok (.bipush (-2), 2) := by decide +kernel
theorem d_D_locator_37 : decode (m_D_locator).2.1 37 = .ok (.goto 9, 3) := by decide +kernel
theorem d_D_locator_40 : decode (m_D_locator).2.1 40 = .ok (.aload_n 0, 1) := by decide +kernel
theorem d_D_locator_41 : decode (m_D_locator).2.1 41 = .ok (.getfield 57, 3) := by decide +kernel
theorem d_D_locator_44 : decode (m_D_locator).2.1 44 = .ok (.iload_n 1, 1) := by decide +kernel
theorem d_D_locator_45 : decode (m_D_locator).2.1 45 = .ok (.iaload, 1) := by decide +kernel
theorem d_D_locator_46 : decode (m_D_locator).2.1 46 = .ok (.ireturn, 1) := by decide +kernel
theorem d_D_list_0 : decode (m_D_list).2.1 0 = .ok (.iload_n 1, 1) := by decide +kernel
theorem d_D_list_1 : decode (m_D_list).2.1 1 = .ok (.invokestatic 173, 3) := by decide +kernel
theorem d_D_list_4 : decode (m_D_list).2.1 4 = .ok (.ifCond .ne 5, 3) := by decide +kernel
theorem d_D_list_7 : decode (m_D_list).2.1 7 = .ok (.iconst (-1), 1) := by decide +kernel
theorem d_D_list_8 : decode (m_D_list).2.1 8 = .ok (.ireturn, 1) := by decide +kernel
theorem d_D_list_9 : decode (m_D_list).2.1 9 = .ok (.aload_n 0, 1) := by decide +kernel
theorem d_D_list_10 : decode (m_D_list).2.1 10 = .ok (.invokevirtual 145, 3) := by decide +kernel
theorem d_D_list_13 : decode (m_D_list).2.1 13 = .ok (.ifCond .eq 6, 3) := by decide +kernel
theorem d_D_list_16 : decode (m_D_list).2.1 16 = .ok (.bipush (-3), 2) := by decide +kernel
theorem d_D_list_18 : decode (m_D_list).2.1 18 = .ok (.ireturn, 1) := by decide +kernel
theorem d_D_list_19 : decode (m_D_list).2.1 19 = .ok (.aload_n 0, 1) := by decide +kernel
theorem d_D_list_20 : decode (m_D_list).2.1 20 = .ok (.getfield 41, 3) := by decide +kernel
theorem d_D_list_23 : decode (m_D_list).2.1 23 = .ok (.aload_n 0, 1) := by decide +kernel
theorem d_D_list_24 : decode (m_D_list).2.1 24 = .ok (.iload_n 1, 1) := by decide +kernel
theorem d_D_list_25 : decode (m_D_list).2.1 25 = .ok (.invokevirtual 176, 3) := by decide +kernel
theorem d_D_list_28 : decode (m_D_list).2.1 28 = .ok (.aload_n 0, 1) := by decide +kernel
theorem d_D_list_29 : decode (m_D_list).2.1 29 = .ok (.getfield 54, 3) := by decide +kernel
theorem d_D_list_32 : decode (m_D_list).2.1 32 = .ok (.invokevirtual 153, 3) := by decide +kernel
theorem d_D_list_35 : decode (m_D_list).2.1 35 = .ok (.aload_n 0, 1) := by decide +kernel
theorem d_D_list_36 : decode (m_D_list).2.1 36 = .ok (.getfield 54, 3) := by decide +kernel
theorem d_D_list_39 : decode (m_D_list).2.1 39 = .ok (.getfield 157, 3) := by decide +kernel
theorem d_D_list_42 : decode (m_D_list).2.1 42 = .ok (.ireturn, 1) := by decide +kernel
theorem d_D_listed_0 : decode (m_D_listed).2.1 0 = .ok (.aload_n 0, 1) := by decide +kernel
theorem d_D_listed_1 : decode (m_D_listed).2.1 1 = .ok (.getfield 54, 3) := by decide +kernel
theorem d_D_listed_4 : decode (m_D_listed).2.1 4 = .ok (.iload_n 1, 1) := by decide +kernel
theorem d_D_listed_5 : decode (m_D_listed).2.1 5 = .ok (.invokevirtual 180, 3) := by decide +kernel
theorem d_D_listed_8 : decode (m_D_listed).2.1 8 = .ok (.ifCond .eq 25, 3) := by decide +kernel
theorem d_D_listed_11 : decode (m_D_listed).2.1 11 = .ok (.aload_n 0, 1) := by decide +kernel
theorem d_D_listed_12 : decode (m_D_listed).2.1 12 = .ok (.iload_n 2, 1) := by decide +kernel
theorem d_D_listed_13 : decode (m_D_listed).2.1 13 = .ok (.invokevirtual 120, 3) := by decide +kernel
theorem d_D_listed_16 : decode (m_D_listed).2.1 16 = .ok (.ifCond .eq 17, 3) := by decide +kernel
theorem d_D_listed_19 : decode (m_D_listed).2.1 19 = .ok (.aload_n 0, 1) := by decide +kernel
theorem d_D_listed_20 : decode (m_D_listed).2.1 20 = .ok (.getfield 54, 3) := by decide +kernel
theorem d_D_listed_23 : decode (m_D_listed).2.1 23 = .ok (.getfield 166, 3) := by decide +kernel
theorem d_D_listed_26 : decode (m_D_listed).2.1 26 = .ok (.iload_n 1, 1) := by decide +kernel
theorem d_D_listed_27 : decode (m_D_listed).2.1 27 = .ok (.aaload, 1) := by decide +kernel
theorem d_D_listed_28 : decode (m_D_listed).2.1 28 = .ok (.iload_n 2, 1) := by decide +kernel
theorem d_D_listed_29 : decode (m_D_listed).2.1 29 = .ok (.iaload, 1) := by decide +kernel
theorem d_D_listed_30 : decode (m_D_listed).2.1 30 = .ok (.goto 4, 3) := by decide +kernel
theorem d_D_listed_33 : decode (m_D_listed).2.1 33 = .ok (.iconst (-1), 1) := by decide +kernel
theorem d_D_listed_34 : decode (m_D_listed).2.1 34 = .ok (.ireturn, 1) := by decide +kernel
theorem d_D_distance_0 : decode (m_D_distance).2.1 0 = .ok (.aload_n 0, 1) := by decide +kernel
theorem d_D_distance_1 : decode (m_D_distance).2.1 1 = .ok (.getfield 54, 3) := by decide +kernel
theorem d_D_distance_4 : decode (m_D_distance).2.1 4 = .ok (.iload_n 1, 1) := by decide +kernel
theorem d_D_distance_5 : decode (m_D_distance).2.1 5 = .ok (.invokevirtual 180, 3) := by decide +kernel
theorem d_D_distance_8 : decode (m_D_distance).2.1 8 = .ok (.ifCond .eq 15, 3) := by decide +kernel
theorem d_D_distance_11 : decode (m_D_distance).2.1 11 = .ok (.aload_n 0, 1) := by decide +kernel
theorem d_D_distance_12 : decode (m_D_distance).2.1 12 = .ok (.getfield 54, 3) := by decide +kernel
theorem d_D_distance_15 : decode (m_D_distance).2.1 15 = .ok (.getfield 163, 3) := by decide +kernel
theorem d_D_distance_18 : decode (m_D_distance).2.1 18 = .ok (.iload_n 1, 1) := by decide +kernel
theorem d_D_distance_19 : decode (m_D_distance).2.1 19 = .ok (.iaload, 1) := by decide +kernel
theorem d_D_distance_20 : decode (m_D_distance).2.1 20 = .ok (.goto 4, 3) := by decide +kernel
theorem d_D_distance_23 : decode (m_D_distance).2.1 23 = .ok (.iconst (-1), 1) := by decide +kernel
theorem d_D_distance_24 : decode (m_D_distance).2.1 24 = .ok (.ireturn, 1) := by decide +kernel
theorem d_D_radius_0 : decode (m_D_radius).2.1 0 = .ok (.iload_n 1, 1) := by decide +kernel
theorem d_D_radius_1 : decode (m_D_radius).2.1 1 = .ok (.invokestatic 173, 3) := by decide +kernel
theorem d_D_radius_4 : decode (m_D_radius).2.1 4 = .ok (.ifCond .ne 5, 3) := by decide +kernel
theorem d_D_radius_7 : decode (m_D_radius).2.1 7 = .ok (.iconst (-1), 1) := by decide +kernel
theorem d_D_radius_8 : decode (m_D_radius).2.1 8 = .ok (.ireturn, 1) := by decide +kernel
theorem d_D_radius_9 : decode (m_D_radius).2.1 9 = .ok (.aload_n 0, 1) := by decide +kernel
theorem d_D_radius_10 : decode (m_D_radius).2.1 10 = .ok (.invokevirtual 145, 3) := by decide +kernel
theorem d_D_radius_13 : decode (m_D_radius).2.1 13 = .ok (.ifCond .eq 8, 3) := by decide +kernel
theorem d_D_radius_16 : decode (m_D_radius).2.1 16 = .ok (.bipush (-3), 2) := by decide +kernel
theorem d_D_radius_18 : decode (m_D_radius).2.1 18 = .ok (.goto 8, 3) := by decide +kernel
theorem d_D_radius_21 : decode (m_D_radius).2.1 21 = .ok (.aload_n 0, 1) := by decide +kernel
theorem d_D_radius_22 : decode (m_D_radius).2.1 22 = .ok (.iload_n 1, 1) := by decide +kernel
theorem d_D_radius_23 : decode (m_D_radius).2.1 23 = .ok (.invokevirtual 176, 3) := by decide +kernel
theorem d_D_radius_26 : decode (m_D_radius).2.1 26 = .ok (.ireturn, 1) := by decide +kernel
theorem d_D_weight_0 : decode (m_D_weight).2.1 0 = .ok (.iload_n 1, 1) := by decide +kernel
theorem d_D_weight_1 : decode (m_D_weight).2.1 1 = .ok (.invokestatic 173, 3) := by decide +kernel
theorem d_D_weight_4 : decode (m_D_weight).2.1 4 = .ok (.ifCond .ne 5, 3) := by decide +kernel
theorem d_D_weight_7 : decode (m_D_weight).2.1 7 = .ok (.iconst (-1), 1) := by decide +kernel
theorem d_D_weight_8 : decode (m_D_weight).2.1 8 = .ok (.ireturn, 1) := by decide +kernel
theorem d_D_weight_9 : decode (m_D_weight).2.1 9 = .ok (.aload_n 0, 1) := by decide +kernel
theorem d_D_weight_10 : decode (m_D_weight).2.1 10 = .ok (.invokevirtual 145, 3) := by decide +kernel
theorem d_D_weight_13 : decode (m_D_weight).2.1 13 = .ok (.ifCond .eq 8, 3) := by decide +kernel
theorem d_D_weight_16 : decode (m_D_weight).2.1 16 = .ok (.bipush (-3), 2) := by decide +kernel
theorem d_D_weight_18 : decode (m_D_weight).2.1 18 = .ok (.goto 16, 3) := by decide +kernel
theorem d_D_weight_21 : decode (m_D_weight).2.1 21 = .ok (.aload_n 0, 1) := by decide +kernel
theorem d_D_weight_22 : decode (m_D_weight).2.1 22 = .ok (.getfield 63, 3) := by decide +kernel
theorem d_D_weight_25 : decode (m_D_weight).2.1 25 = .ok (.iload_n 1, 1) := by decide +kernel
theorem d_D_weight_26 : decode (m_D_weight).2.1 26 = .ok (.aload_n 0, 1) := by decide +kernel
theorem d_D_weight_27 : decode (m_D_weight).2.1 27 = .ok (.iload_n 1, 1) := by decide +kernel
theorem d_D_weight_28 : decode (m_D_weight).2.1 28 = .ok (.invokevirtual 181, 3) := by decide +kernel
theorem d_D_weight_31 : decode (m_D_weight).2.1 31 = .ok (.invokevirtual 184, 3) := by decide +kernel
theorem d_D_weight_34 : decode (m_D_weight).2.1 34 = .ok (.ireturn, 1) := by decide +kernel
theorem d_D_beginField_0 : decode (m_D_beginField).2.1 0 = .ok (.aload_n 0, 1) := by decide +kernel
theorem d_D_beginField_1 : decode (m_D_beginField).2.1 1 = .ok (.getfield 12, 3) := by decide +kernel
theorem d_D_beginField_4 : decode (m_D_beginField).2.1 4 = .ok (.iload_n 1, 1) := by decide +kernel
theorem d_D_beginField_5 : decode (m_D_beginField).2.1 5 = .ok (.invokevirtual 187, 3) := by decide +kernel
theorem d_D_beginField_8 : decode (m_D_beginField).2.1 8 = .ok (.aload_n 0, 1) := by decide +kernel
theorem d_D_beginField_9 : decode (m_D_beginField).2.1 9 = .ok (.iconst 0, 1) := by decide +kernel
theorem d_D_beginField_10 : decode (m_D_beginField).2.1 10 = .ok (.aload_n 0, 1) := by decide +kernel
theorem d_D_beginField_11 : decode (m_D_beginField).2.1 11 = .ok (.getfield 12, 3) := by decide +kernel
theorem d_D_beginField_14 : decode (m_D_beginField).2.1 14 = .ok (.getfield 92, 3) := by decide +kernel
theorem d_D_beginField_17 : decode (m_D_beginField).2.1 17 = .ok (.iconst 1, 1) := by decide +kernel
theorem d_D_beginField_18 : decode (m_D_beginField).2.1 18 = .ok (.isub, 1) := by decide +kernel
theorem d_D_beginField_19 : decode (m_D_beginField).2.1 19 = .ok (.bipush 20, 2) := by decide +kernel
theorem d_D_beginField_21 : decode (m_D_beginField).2.1 21 = .ok (.invokestatic 190, 3) := by decide +kernel
theorem d_D_beginField_24 : decode (m_D_beginField).2.1 24 = .ok (.iconst 2, 1) := by decide +kernel
theorem d_D_beginField_25 : decode (m_D_beginField).2.1 25 = .ok (.invokevirtual 95, 3) := by decide +kernel
theorem d_D_beginField_28 : decode (m_D_beginField).2.1 28 = .ok (.return_, 1) := by decide +kernel
theorem d_D_beginCode_0 : decode (m_D_beginCode).2.1 0 = .ok (.aload_n 0, 1) := by decide +kernel
theorem d_D_beginCode_1 : decode (m_D_beginCode).2.1 1 = .ok (.getfield 21, 3) := by decide +kernel
theorem d_D_beginCode_4 : decode (m_D_beginCode).2.1 4 = .ok (.iload_n 1, 1) := by decide +kernel
theorem d_D_beginCode_5 : decode (m_D_beginCode).2.1 5 = .ok (.iload_n 2, 1) := by decide +kernel
theorem d_D_beginCode_6 : decode (m_D_beginCode).2.1 6 = .ok (.iload_n 3, 1) := by decide +kernel
theorem d_D_beginCode_7 : decode (m_D_beginCode).2.1 7 = .ok (.invokevirtual 195, 3) := by decide +kernel
theorem d_D_beginCode_10 : decode (m_D_beginCode).2.1 10 = .ok (.iconst 0, 1) := by decide +kernel
theorem d_D_beginCode_11 : decode (m_D_beginCode).2.1 11 = .ok (.istore 4, 2) := by decide +kernel
theorem d_D_beginCode_13 : decode (m_D_beginCode).2.1 13 = .ok (.iload 4, 2) := by decide +kernel
theorem d_D_beginCode_15 : decode (m_D_beginCode).2.1 15 = .ok (.iconst 4, 1) := by decide +kernel
theorem d_D_beginCode_16 : decode (m_D_beginCode).2.1 16 = .ok (.if_icmp .ge 17, 3) := by decide +kernel
theorem d_D_beginCode_19 : decode (m_D_beginCode).2.1 19 = .ok (.aload_n 0, 1) := by decide +kernel
theorem d_D_beginCode_20 : decode (m_D_beginCode).2.1 20 = .ok (.getfield 25, 3) := by decide +kernel
theorem d_D_beginCode_23 : decode (m_D_beginCode).2.1 23 = .ok (.iload 4, 2) := by decide +kernel
theorem d_D_beginCode_25 : decode (m_D_beginCode).2.1 25 = .ok (.iconst 0, 1) := by decide +kernel
theorem d_D_beginCode_26 : decode (m_D_beginCode).2.1 26 = .ok (.iastore, 1) := by decide +kernel
theorem d_D_beginCode_27 : decode (m_D_beginCode).2.1 27 = .ok (.iinc 4 1, 3) := by decide +kernel
theorem d_D_beginCode_30 : decode (m_D_beginCode).2.1 30 = .ok (.goto (-17), 3) := by decide +kernel
theorem d_D_beginCode_33 : decode (m_D_beginCode).2.1 33 = .ok (.aload_n 0, 1) := by decide +kernel
theorem d_D_beginCode_34 : decode (m_D_beginCode).2.1 34 = .ok (.getfield 32, 3) := by decide +kernel
theorem d_D_beginCode_37 : decode (m_D_beginCode).2.1 37 = .ok (.iload_n 2, 1) := by decide +kernel
theorem d_D_beginCode_38 : decode (m_D_beginCode).2.1 38 = .ok (.invokevirtual 197, 3) := by decide +kernel
theorem d_D_beginCode_41 : decode (m_D_beginCode).2.1 41 = .ok (.aload_n 0, 1) := by decide +kernel
theorem d_D_beginCode_42 : decode (m_D_beginCode).2.1 42 = .ok (.getfield 50, 3) := by decide +kernel
theorem d_D_beginCode_45 : decode (m_D_beginCode).2.1 45 = .ok (.iconst 0, 1) := by decide +kernel
theorem d_D_beginCode_46 : decode (m_D_beginCode).2.1 46 = .ok (.putfield 157, 3) := by decide +kernel
theorem d_D_beginCode_49 : decode (m_D_beginCode).2.1 49 = .ok (.aload_n 0, 1) := by decide +kernel
theorem d_D_beginCode_50 : decode (m_D_beginCode).2.1 50 = .ok (.getfield 54, 3) := by decide +kernel
theorem d_D_beginCode_53 : decode (m_D_beginCode).2.1 53 = .ok (.iconst 0, 1) := by decide +kernel
theorem d_D_beginCode_54 : decode (m_D_beginCode).2.1 54 = .ok (.putfield 157, 3) := by decide +kernel
theorem d_D_beginCode_57 : decode (m_D_beginCode).2.1 57 = .ok (.return_, 1) := by decide +kernel
theorem d_D_isPlace_0 : decode (m_D_isPlace).2.1 0 = .ok (.iload_n 1, 1) := by decide +kernel
theorem d_D_isPlace_1 : decode (m_D_isPlace).2.1 1 = .ok (.ifCond .lt 18, 3) := by decide +kernel
theorem d_D_isPlace_4 : decode (m_D_isPlace).2.1 4 = .ok (.iload_n 1, 1) := by decide +kernel
theorem d_D_isPlace_5 : decode (m_D_isPlace).2.1 5 = .ok (.aload_n 0, 1) := by decide +kernel
theorem d_D_isPlace_6 : decode (m_D_isPlace).2.1 6 = .ok (.getfield 21, 3) := by decide +kernel
theorem d_D_isPlace_9 : decode (m_D_isPlace).2.1 9 = .ok (.getfield 109, 3) := by decide +kernel
theorem d_D_isPlace_12 : decode (m_D_isPlace).2.1 12 = .ok (.if_icmp .ge 7, 3) := by decide +kernel
theorem d_D_isPlace_15 : decode (m_D_isPlace).2.1 15 = .ok (.iconst 1, 1) := by decide +kernel
theorem d_D_isPlace_16 : decode (m_D_isPlace).2.1 16 = .ok (.goto 4, 3) := by decide +kernel
theorem d_D_isPlace_19 : decode (m_D_isPlace).2.1 19 = .ok (.iconst 0, 1) := by decide +kernel
theorem d_D_isPlace_20 : decode (m_D_isPlace).2.1 20 = .ok (.ireturn, 1) := by decide +kernel
theorem d_D_isInMessage_0 : decode (m_D_isInMessage).2.1 0 = .ok (.iload_n 1, 1) := by decide +kernel
theorem d_D_isInMessage_1 : decode (m_D_isInMessage).2.1 1 = .ok (.ifCond .lt 18, 3) := by decide +kernel
theorem d_D_isInMessage_4 : decode (m_D_isInMessage).2.1 4 = .ok (.iload_n 1, 1) := by decide +kernel
theorem d_D_isInMessage_5 : decode (m_D_isInMessage).2.1 5 = .ok (.aload_n 0, 1) := by decide +kernel
theorem d_D_isInMessage_6 : decode (m_D_isInMessage).2.1 6 = .ok (.getfield 21, 3) := by decide +kernel
theorem d_D_isInMessage_9 : decode (m_D_isInMessage).2.1 9 = .ok (.getfield 133, 3) := by decide +kernel
theorem d_D_isInMessage_12 : decode (m_D_isInMessage).2.1 12 = .ok (.if_icmp .ge 7, 3) := by decide +kernel
theorem d_D_isInMessage_15 : decode (m_D_isInMessage).2.1 15 = .ok (.iconst 1, 1) := by decide +kernel
theorem d_D_isInMessage_16 : decode (m_D_isInMessage).2.1 16 = .ok (.goto 4, 3) := by decide +kernel
theorem d_D_isInMessage_19 : decode (m_D_isInMessage).2.1 19 = .ok (.iconst 0, 1) := by decide +kernel
theorem d_D_isInMessage_20 : decode (m_D_isInMessage).2.1 20 = .ok (.ireturn, 1) := by decide +kernel
theorem d_D_isTimes_0 : decode (m_D_isTimes).2.1 0 = .ok (.iload_n 0, 1) := by decide +kernel
theorem d_D_isTimes_1 : decode (m_D_isTimes).2.1 1 = .ok (.iconst 1, 1) := by decide +kernel
theorem d_D_isTimes_2 : decode (m_D_isTimes).2.1 2 = .ok (.if_icmp .lt 12, 3) := by decide +kernel
theorem d_D_isTimes_5 : decode (m_D_isTimes).2.1 5 = .ok (.iload_n 0, 1) := by decide +kernel
theorem d_D_isTimes_6 : decode (m_D_isTimes).2.1 6 = .ok (.iconst 3, 1) := by decide +kernel
theorem d_D_isTimes_7 : decode (m_D_isTimes).2.1 7 = .ok (.if_icmp .gt 7, 3) := by decide +kernel
theorem d_D_isTimes_10 : decode (m_D_isTimes).2.1 10 = .ok (.iconst 1, 1) := by decide +kernel
theorem d_D_isTimes_11 : decode (m_D_isTimes).2.1 11 = .ok (.goto 4, 3) := by decide +kernel
theorem d_D_isTimes_14 : decode (m_D_isTimes).2.1 14 = .ok (.iconst 0, 1) := by decide +kernel
theorem d_D_isTimes_15 : decode (m_D_isTimes).2.1 15 = .ok (.ireturn, 1) := by decide +kernel
theorem d_D_isErasedTooMuch_0 : decode (m_D_isErasedTooMuch).2.1 0 = .ok (.aload_n 0, 1) := by decide +kernel
theorem d_D_isErasedTooMuch_1 : decode (m_D_isErasedTooMuch).2.1 1 = .ok (.getfield 32, 3) := by decide +kernel
theorem d_D_isErasedTooMuch_4 : decode (m_D_isErasedTooMuch).2.1 4 = .ok (.getfield 198, 3) := by decide +kernel
theorem d_D_isErasedTooMuch_7 : decode (m_D_isErasedTooMuch).2.1 7 = .ok (.aload_n 0, 1) := by decide +kernel
theorem d_D_isErasedTooMuch_8 : decode (m_D_isErasedTooMuch).2.1 8 = .ok (.getfield 21, 3) := by decide +kernel
theorem d_D_isErasedTooMuch_11 : decode (m_D_isErasedTooMuch).2.1 11 = .ok (.getfield 133, 3) := by decide +kernel
theorem d_D_isErasedTooMuch_14 : decode (m_D_isErasedTooMuch).2.1 14 = .ok (.if_icmp .ge 7, 3) := by decide +kernel
theorem d_D_isErasedTooMuch_17 : decode (m_D_isErasedTooMuch).2.1 17 = .ok (.iconst 1, 1) := by decide +kernel
theorem d_D_isErasedTooMuch_18 : decode (m_D_isErasedTooMuch).2.1 18 = .ok (.goto 4, 3) := by decide +kernel
theorem d_D_isErasedTooMuch_21 : decode (m_D_isErasedTooMuch).2.1 21 = .ok (.iconst 0, 1) := by decide +kernel
theorem d_D_isErasedTooMuch_22 : decode (m_D_isErasedTooMuch).2.1 22 = .ok (.ireturn, 1) := by decide +kernel
theorem d_D_half_0 : decode (m_D_half).2.1 0 = .ok (.aload_n 0, 1) := by decide +kernel
theorem d_D_half_1 : decode (m_D_half).2.1 1 = .ok (.getfield 32, 3) := by decide +kernel
theorem d_D_half_4 : decode (m_D_half).2.1 4 = .ok (.getfield 198, 3) := by decide +kernel
theorem d_D_half_7 : decode (m_D_half).2.1 7 = .ok (.aload_n 0, 1) := by decide +kernel
theorem d_D_half_8 : decode (m_D_half).2.1 8 = .ok (.getfield 21, 3) := by decide +kernel
theorem d_D_half_11 : decode (m_D_half).2.1 11 = .ok (.getfield 133, 3) := by decide +kernel
theorem d_D_half_14 : decode (m_D_half).2.1 14 = .ok (.isub, 1) := by decide +kernel
theorem d_D_half_15 : decode (m_D_half).2.1 15 = .ok (.iconst 2, 1) := by decide +kernel
theorem d_D_half_16 : decode (m_D_half).2.1 16 = .ok (.idiv, 1) := by decide +kernel
theorem d_D_half_17 : decode (m_D_half).2.1 17 = .ok (.ireturn, 1) := by decide +kernel
theorem d_D_boundFor_0 : decode (m_D_boundFor).2.1 0 = .ok (.aload_n 0, 1) := by decide +kernel
theorem d_D_boundFor_1 : decode (m_D_boundFor).2.1 1 = .ok (.getfield 32, 3) := by decide +kernel
theorem d_D_boundFor_4 : decode (m_D_boundFor).2.1 4 = .ok (.getfield 198, 3) := by decide +kernel
theorem d_D_boundFor_7 : decode (m_D_boundFor).2.1 7 = .ok (.iload_n 1, 1) := by decide +kernel
theorem d_D_boundFor_8 : decode (m_D_boundFor).2.1 8 = .ok (.imul, 1) := by decide +kernel
theorem d_D_boundFor_9 : decode (m_D_boundFor).2.1 9 = .ok (.iload_n 1, 1) := by decide +kernel
theorem d_D_boundFor_10 : decode (m_D_boundFor).2.1 10 = .ok (.iconst 1, 1) := by decide +kernel
theorem d_D_boundFor_11 : decode (m_D_boundFor).2.1 11 = .ok (.iadd, 1) := by decide +kernel
theorem d_D_boundFor_12 : decode (m_D_boundFor).2.1 12 = .ok (.imul, 1) := by decide +kernel
theorem d_D_boundFor_13 : decode (m_D_boundFor).2.1 13 = .ok (.iconst 2, 1) := by decide +kernel
theorem d_D_boundFor_14 : decode (m_D_boundFor).2.1 14 = .ok (.idiv, 1) := by decide +kernel
theorem d_D_boundFor_15 : decode (m_D_boundFor).2.1 15 = .ok (.istore_n 2, 1) := by decide +kernel
theorem d_D_boundFor_16 : decode (m_D_boundFor).2.1 16 = .ok (.iconst 0, 1) := by decide +kernel
theorem d_D_boundFor_17 : decode (m_D_boundFor).2.1 17 = .ok (.istore_n 3, 1) := by decide +kernel
theorem d_D_boundFor_18 : decode (m_D_boundFor).2.1 18 = .ok (.iconst 0, 1) := by decide +kernel
theorem d_D_boundFor_19 : decode (m_D_boundFor).2.1 19 = .ok (.istore 4, 2) := by decide +kernel
theorem d_D_boundFor_21 : decode (m_D_boundFor).2.1 21 = .ok (.iload 4, 2) := by decide +kernel
theorem d_D_boundFor_23 : decode (m_D_boundFor).2.1 23 = .ok (.iload_n 2, 1) := by decide +kernel
theorem d_D_boundFor_24 : decode (m_D_boundFor).2.1 24 = .ok (.if_icmp .ge 34, 3) := by decide +kernel
theorem d_D_boundFor_27 : decode (m_D_boundFor).2.1 27 = .ok (.iload_n 3, 1) := by decide +kernel
theorem d_D_boundFor_28 : decode (m_D_boundFor).2.1 28 = .ok (.iload 4, 2) := by decide +kernel
theorem d_D_boundFor_30 : decode (m_D_boundFor).2.1 30 = .ok (.aload_n 0, 1) := by decide +kernel
theorem d_D_boundFor_31 : decode (m_D_boundFor).2.1 31 = .ok (.getfield 21, 3) := by decide +kernel
theorem d_D_boundFor_34 : decode (m_D_boundFor).2.1 34 = .ok (.getfield 133, 3) := by decide +kernel
theorem d_D_boundFor_37 : decode (m_D_boundFor).2.1 37 = .ok (.iconst 1, 1) := by decide +kernel
theorem d_D_boundFor_38 : decode (m_D_boundFor).2.1 38 = .ok (.isub, 1) := by decide +kernel
theorem d_D_boundFor_39 : decode (m_D_boundFor).2.1 39 = .ok (.idiv, 1) := by decide +kernel
theorem d_D_boundFor_40 : decode (m_D_boundFor).2.1 40 = .ok (.iconst 1, 1) := by decide +kernel
theorem d_D_boundFor_41 : decode (m_D_boundFor).2.1 41 = .ok (.iadd, 1) := by decide +kernel
theorem d_D_boundFor_42 : decode (m_D_boundFor).2.1 42 = .ok (.iadd, 1) := by decide +kernel
theorem d_D_boundFor_43 : decode (m_D_boundFor).2.1 43 = .ok (.istore_n 3, 1) := by decide +kernel
theorem d_D_boundFor_44 : decode (m_D_boundFor).2.1 44 = .ok (.iload_n 3, 1) := by decide +kernel
theorem d_D_boundFor_45 : decode (m_D_boundFor).2.1 45 = .ok (.iload_n 2, 1) := by decide +kernel
theorem d_D_boundFor_46 : decode (m_D_boundFor).2.1 46 = .ok (.if_icmp .le 6, 3) := by decide +kernel
theorem d_D_boundFor_49 : decode (m_D_boundFor).2.1 49 = .ok (.iload 4, 2) := by decide +kernel
theorem d_D_boundFor_51 : decode (m_D_boundFor).2.1 51 = .ok (.ireturn, 1) := by decide +kernel
theorem d_D_boundFor_52 : decode (m_D_boundFor).2.1 52 = .ok (.iinc 4 1, 3) := by decide +kernel
theorem d_D_boundFor_55 : decode (m_D_boundFor).2.1 55 = .ok (.goto (-34), 3) := by decide +kernel
theorem d_D_boundFor_58 : decode (m_D_boundFor).2.1 58 = .ok (.iload_n 2, 1) := by decide +kernel
theorem d_D_boundFor_59 : decode (m_D_boundFor).2.1 59 = .ok (.ireturn, 1) := by decide +kernel
theorem d_D_radiusFor_0 : decode (m_D_radiusFor).2.1 0 = .ok (.aload_n 0, 1) := by decide +kernel
theorem d_D_radiusFor_1 : decode (m_D_radiusFor).2.1 1 = .ok (.invokevirtual 149, 3) := by decide +kernel
theorem d_D_radiusFor_4 : decode (m_D_radiusFor).2.1 4 = .ok (.aload_n 0, 1) := by decide +kernel
theorem d_D_radiusFor_5 : decode (m_D_radiusFor).2.1 5 = .ok (.getfield 32, 3) := by decide +kernel
theorem d_D_radiusFor_8 : decode (m_D_radiusFor).2.1 8 = .ok (.getfield 198, 3) := by decide +kernel
theorem d_D_radiusFor_11 : decode (m_D_radiusFor).2.1 11 = .ok (.iconst 1, 1) := by decide +kernel
theorem d_D_radiusFor_12 : decode (m_D_radiusFor).2.1 12 = .ok (.isub, 1) := by decide +kernel
theorem d_D_radiusFor_13 : decode (m_D_radiusFor).2.1 13 = .ok (.aload_n 0, 1) := by decide +kernel
theorem d_D_radiusFor_14 : decode (m_D_radiusFor).2.1 14 = .ok (.iload_n 1, 1) := by decide +kernel
theorem d_D_radiusFor_15 : decode (m_D_radiusFor).2.1 15 = .ok (.invokevirtual 181, 3) := by decide +kernel
theorem d_D_radiusFor_18 : decode (m_D_radiusFor).2.1 18 = .ok (.iload_n 1, 1) := by decide +kernel
theorem d_D_radiusFor_19 : decode (m_D_radiusFor).2.1 19 = .ok (.idiv, 1) := by decide +kernel
theorem d_D_radiusFor_20 : decode (m_D_radiusFor).2.1 20 = .ok (.isub, 1) := by decide +kernel
theorem d_D_radiusFor_21 : decode (m_D_radiusFor).2.1 21 = .ok (.invokestatic 201, 3) := by decide +kernel
theorem d_D_radiusFor_24 : decode (m_D_radiusFor).2.1 24 = .ok (.ireturn, 1) := by decide +kernel
theorem d_D_locateWrongPlaces_0 : decode (m_D_locateWrongPlaces).2.1 0 = .ok (.iconst 0, 1) := by decide +kernel
theorem d_D_locateWrongPlaces_1 : decode (m_D_locateWrongPlaces).2.1 1 = .ok (.istore_n 1, 1) := by decide +kernel
theorem d_D_locateWrongPlaces_2 : decode (m_D_locateWrongPlaces).2.1 2 = .ok (.iload_n 1, 1) := by decide +kernel
theorem d_D_locateWrongPlaces_3 : decode (m_D_locateWrongPlaces).2.1 3 = .ok (.bipush 20, 2) := by decide +kernel
theorem d_D_locateWrongPlaces_5 : decode (m_D_locateWrongPlaces).2.1 5 = .ok (.if_icmp .ge 16, 3) := by decide +kernel
theorem d_D_locateWrongPlaces_8 : decode (m_D_locateWrongPlaces).2.1 8 = .ok (.aload_n 0, 1) := by decide +kernel
theorem d_D_locateWrongPlaces_9 : decode (m_D_locateWrongPlaces).2.1 9 = .ok (.getfield 57, 3) := by decide +kernel
theorem d_D_locateWrongPlaces_12 : decode (m_D_locateWrongPlaces).2.1 12 = .ok (.iload_n 1, 1) := by decide +kernel
theorem d_D_locateWrongPlaces_13 : decode (m_D_locateWrongPlaces).2.1 13 = .ok (.iconst 0, 1) := by decide +kernel
theorem d_D_locateWrongPlaces_14 : decode (m_D_locateWrongPlaces).2.1 14 = .ok (.iastore, 1) := by decide +kernel
theorem d_D_locateWrongPlaces_15 : decode (m_D_locateWrongPlaces).2.1 15 = .ok (.iinc 1 1, 3) := by decide +kernel
theorem d_D_locateWrongPlaces_18 : decode (m_D_locateWrongPlaces).2.1 18 = .ok (.goto (-16), 3) := by decide +kernel
theorem d_D_locateWrongPlaces_21 : decode (m_D_locateWrongPlaces).2.1 21 = .ok (.aload_n 0, 1) := by decide +kernel
theorem d_D_locateWrongPlaces_22 : decode (m_D_locateWrongPlaces).2.1 22 = .ok (.getfield 57, 3) := by decide +kernel
theorem d_D_locateWrongPlaces_25 : decode (m_D_locateWrongPlaces).2.1 25 = .ok (.iconst 0, 1) := by decide +kernel
theorem d_D_locateWrongPlaces_26 : decode (m_D_locateWrongPlaces).2.1 26 = .ok (.iconst 1, 1) := by decide +kernel
theorem d_D_locateWrongPlaces_27 : decode (m_D_locateWrongPlaces).2.1 27 = .ok (.iastore, 1) := by decide +kernel
theorem d_D_locateWrongPlaces_28 : decode (m_D_locateWrongPlaces).2.1 28 = .ok (.iconst 0, 1) := by decide +kernel
theorem d_D_locateWrongPlaces_29 : decode (m_D_locateWrongPlaces).2.1 29 = .ok (.istore_n 1, 1) := by decide +kernel
theorem d_D_locateWrongPlaces_30 : decode (m_D_locateWrongPlaces).2.1 30 = .ok (.iload_n 1, 1) := by decide +kernel
theorem d_D_locateWrongPlaces_31 : decode (m_D_locateWrongPlaces).2.1 31 = .ok (.aload_n 0, 1) := by decide +kernel
theorem d_D_locateWrongPlaces_32 : decode (m_D_locateWrongPlaces).2.1 32 = .ok (.getfield 21, 3) := by decide +kernel
theorem d_D_locateWrongPlaces_35 : decode (m_D_locateWrongPlaces).2.1 35 = .ok (.getfield 109, 3) := by decide +kernel
theorem d_D_locateWrongPlaces_38 : decode (m_D_locateWrongPlaces).2.1 38 = .ok (.if_icmp .ge 90, 3) := by decide +kernel
theorem d_D_locateWrongPlaces_41 : decode (m_D_locateWrongPlaces).2.1 41 = .ok (.aload_n 0, 1) := by decide +kernel
theorem d_D_locateWrongPlaces_42 : decode (m_D_locateWrongPlaces).2.1 42 = .ok (.getfield 32, 3) := by decide +kernel
theorem d_D_locateWrongPlaces_45 : decode (m_D_locateWrongPlaces).2.1 45 = .ok (.getfield 123, 3) := by decide +kernel
theorem d_D_locateWrongPlaces_48 : decode (m_D_locateWrongPlaces).2.1 48 = .ok (.iload_n 1, 1) := by decide +kernel
theorem d_D_locateWrongPlaces_49 : decode (m_D_locateWrongPlaces).2.1 49 = .ok (.baload, 1) := by decide +kernel
theorem d_D_locateWrongPlaces_50 : decode (m_D_locateWrongPlaces).2.1 50 = .ok (.ifCond .ne 72, 3) := by decide +kernel
theorem d_D_locateWrongPlaces_53 : decode (m_D_locateWrongPlaces).2.1 53 = .ok (.aload_n 0, 1) := by decide +kernel
theorem d_D_locateWrongPlaces_54 : decode (m_D_locateWrongPlaces).2.1 54 = .ok (.getfield 32, 3) := by decide +kernel
theorem d_D_locateWrongPlaces_57 : decode (m_D_locateWrongPlaces).2.1 57 = .ok (.getfield 130, 3) := by decide +kernel
theorem d_D_locateWrongPlaces_60 : decode (m_D_locateWrongPlaces).2.1 60 = .ok (.iload_n 1, 1) := by decide +kernel
theorem d_D_locateWrongPlaces_61 : decode (m_D_locateWrongPlaces).2.1 61 = .ok (.iaload, 1) := by decide +kernel
theorem d_D_locateWrongPlaces_62 : decode (m_D_locateWrongPlaces).2.1 62 = .ok (.aload_n 0, 1) := by decide +kernel
theorem d_D_locateWrongPlaces_63 : decode (m_D_locateWrongPlaces).2.1 63 = .ok (.getfield 50, 3) := by decide +kernel
theorem d_D_locateWrongPlaces_66 : decode (m_D_locateWrongPlaces).2.1 66 = .ok (.getfield 166, 3) := by decide +kernel
theorem d_D_locateWrongPlaces_69 : decode (m_D_locateWrongPlaces).2.1 69 = .ok (.iconst 0, 1) := by decide +kernel
theorem d_D_locateWrongPlaces_70 : decode (m_D_locateWrongPlaces).2.1 70 = .ok (.aaload, 1) := by decide +kernel
theorem d_D_locateWrongPlaces_71 : decode (m_D_locateWrongPlaces).2.1 71 = .ok (.iload_n 1, 1) := by decide +kernel
theorem d_D_locateWrongPlaces_72 : decode (m_D_locateWrongPlaces).2.1 72 = .ok (.iaload, 1) := by decide +kernel
theorem d_D_locateWrongPlaces_73 : decode (m_D_locateWrongPlaces).2.1 73 = .ok (.if_icmp .eq 49, 3) := by decide +kernel
theorem d_D_locateWrongPlaces_76 : decode (m_D_locateWrongPlaces).2.1 76 = .ok (.bipush 19, 2) := by decide +kernel
theorem d_D_locateWrongPlaces_78 : decode (m_D_locateWrongPlaces).2.1 78 = .ok (.istore_n 2, 1) := by decide +kernel
theorem d_D_locateWrongPlaces_79 : decode (m_D_locateWrongPlaces).2.1 79 = .ok (.iload_n 2, 1) := by decide +kernel
theorem d_D_locateWrongPlaces_80 : decode (m_D_locateWrongPlaces).2.1 80 = .ok (.ifCond .le 42, 3) := by decide +kernel
theorem d_D_locateWrongPlaces_83 : decode (m_D_locateWrongPlaces).2.1 83 = .ok (.aload_n 0, 1) := by decide +kernel
theorem d_D_locateWrongPlaces_84 : decode (m_D_locateWrongPlaces).2.1 84 = .ok (.getfield 57, 3) := by decide +kernel
theorem d_D_locateWrongPlaces_87 : decode (m_D_locateWrongPlaces).2.1 87 = .ok (.iload_n 2, 1) := by decide +kernel
theorem d_D_locateWrongPlaces_88 : decode (m_D_locateWrongPlaces).2.1 88 = .ok (.dup2, 1) := by decide +kernel
theorem d_D_locateWrongPlaces_89 : decode (m_D_locateWrongPlaces).2.1 89 = .ok (.iaload, 1) := by decide +kernel
theorem d_D_locateWrongPlaces_90 : decode (m_D_locateWrongPlaces).2.1 90 = .ok (.aload_n 0, 1) := by decide +kernel
theorem d_D_locateWrongPlaces_91 : decode (m_D_locateWrongPlaces).2.1 91 = .ok (.getfield 12, 3) := by decide +kernel
theorem d_D_locateWrongPlaces_94 : decode (m_D_locateWrongPlaces).2.1 94 = .ok (.aload_n 0, 1) := by decide +kernel
theorem d_D_locateWrongPlaces_95 : decode (m_D_locateWrongPlaces).2.1 95 = .ok (.getfield 21, 3) := by decide +kernel
theorem d_D_locateWrongPlaces_98 : decode (m_D_locateWrongPlaces).2.1 98 = .ok (.getfield 139, 3) := by decide +kernel
theorem d_D_locateWrongPlaces_101 : decode (m_D_locateWrongPlaces).2.1 101 = .ok (.iload_n 1, 1) := by decide +kernel
theorem d_D_locateWrongPlaces_102 : decode (m_D_locateWrongPlaces).2.1 102 = .ok (.iaload, 1) := by decide +kernel
theorem d_D_locateWrongPlaces_103 : decode (m_D_locateWrongPlaces).2.1 103 = .ok (.aload_n 0, 1) := by decide +kernel
theorem d_D_locateWrongPlaces_104 : decode (m_D_locateWrongPlaces).2.1 104 = .ok (.getfield 57, 3) := by decide +kernel
theorem d_D_locateWrongPlaces_107 : decode (m_D_locateWrongPlaces).2.1 107 = .ok (.iload_n 2, 1) := by decide +kernel
theorem d_D_locateWrongPlaces_108 : decode (m_D_locateWrongPlaces).2.1 108 = .ok (.iconst 1, 1) := by decide +kernel
theorem d_D_locateWrongPlaces_109 : decode (m_D_locateWrongPlaces).2.1 109 = .ok (.isub, 1) := by decide +kernel
theorem d_D_locateWrongPlaces_110 : decode (m_D_locateWrongPlaces).2.1 110 = .ok (.iaload, 1) := by decide +kernel
theorem d_D_locateWrongPlaces_111 : decode (m_D_locateWrongPlaces).2.1 111 = .ok (.invokevirtual 82, 3) := by decide +kernel
theorem d_D_locateWrongPlaces_114 : decode (m_D_locateWrongPlaces).2.1 114 = .ok (.ixor, 1) := by decide +kernel
theorem d_D_locateWrongPlaces_115 : decode (m_D_locateWrongPlaces).2.1 115 = .ok (.iastore, 1) := by decide +kernel
theorem d_D_locateWrongPlaces_116 : decode (m_D_locateWrongPlaces).2.1 116 = .ok (.iinc 2 (-1), 3) := by decide +kernel
theorem d_D_locateWrongPlaces_119 : decode (m_D_locateWrongPlaces).2.1 119 = .ok (.goto (-40), 3) := by decide +kernel
theorem d_D_locateWrongPlaces_122 : decode (m_D_locateWrongPlaces).2.1 122 = .ok (.iinc 1 1, 3) := by decide +kernel
theorem d_D_locateWrongPlaces_125 : decode (m_D_locateWrongPlaces).2.1 125 = .ok (.goto (-95), 3) := by decide +kernel
theorem d_D_locateWrongPlaces_128 : decode (m_D_locateWrongPlaces).2.1 128 = .ok (.return_, 1) := by decide +kernel
theorem d_M_init_0 : decode (m_M_init).2.1 0 = .ok (.aload_n 0, 1) := by decide +kernel
theorem d_M_init_1 : decode (m_M_init).2.1 1 = .ok (.invokespecial 1, 3) := by decide +kernel
theorem d_M_init_4 : decode (m_M_init).2.1 4 = .ok (.aload_n 0, 1) := by decide +kernel
theorem d_M_init_5 : decode (m_M_init).2.1 5 = .ok (.sipush 1024, 3) := by decide +kernel
theorem d_M_init_8 : decode (m_M_init).2.1 8 = .ok (.newarray .int, 2) := by decide +kernel
theorem d_M_init_10 : decode (m_M_init).2.1 10 = .ok (.putfield 7, 3) := by decide +kernel
theorem d_M_init_13 : decode (m_M_init).2.1 13 = .ok (.aload_n 0, 1) := by decide +kernel
theorem d_M_init_14 : decode (m_M_init).2.1 14 = .ok (.bipush 32, 2) := by decide +kernel
theorem d_M_init_16 : decode (m_M_init).2.1 16 = .ok (.newarray .int, 2) := by decide +kernel
theorem d_M_init_18 : decode (m_M_init).2.1 18 = .ok (.putfield 13, 3) := by decide +kernel
theorem d_M_init_21 : decode (m_M_init).2.1 21 = .ok (.aload_n 0, 1) := by decide +kernel
theorem d_M_init_22 : decode (m_M_init).2.1 22 = .ok (.bipush 20, 2) := by decide +kernel
theorem d_M_init_24 : decode (m_M_init).2.1 24 = .ok (.newarray .int, 2) := by decide +kernel
theorem d_M_init_26 : decode (m_M_init).2.1 26 = .ok (.putfield 16, 3) := by decide +kernel
theorem d_M_init_29 : decode (m_M_init).2.1 29 = .ok (.aload_n 0, 1) := by decide +kernel
theorem d_M_init_30 : decode (m_M_init).2.1 30 = .ok (.iconst 4, 1) := by decide +kernel
theorem d_M_init_31 : decode (m_M_init).2.1 31 = .ok (.newarray .int, 2) := by decide +kernel
theorem d_M_init_33 : decode (m_M_init).2.1 33 = .ok (.putfield 19, 3) := by decide +kernel
theorem d_M_init_36 : decode (m_M_init).2.1 36 = .ok (.aload_n 0, 1) := by decide +kernel
theorem d_M_init_37 : decode (m_M_init).2.1 37 = .ok (.bipush 20, 2) := by decide +kernel
theorem d_M_init_39 : decode (m_M_init).2.1 39 = .ok (.newarray .int, 2) := by decide +kernel
theorem d_M_init_41 : decode (m_M_init).2.1 41 = .ok (.putfield 22, 3) := by decide +kernel
theorem d_M_init_44 : decode (m_M_init).2.1 44 = .ok (.aload_n 0, 1) := by decide +kernel
theorem d_M_init_45 : decode (m_M_init).2.1 45 = .ok (.bipush 20, 2) := by decide +kernel
theorem d_M_init_47 : decode (m_M_init).2.1 47 = .ok (.newarray .boolean, 2) := by decide +kernel
theorem d_M_init_49 : decode (m_M_init).2.1 49 = .ok (.putfield 25, 3) := by decide +kernel
theorem d_M_init_52 : decode (m_M_init).2.1 52 = .ok (.aload_n 0, 1) := by decide +kernel
theorem d_M_init_53 : decode (m_M_init).2.1 53 = .ok (.bipush 20, 2) := by decide +kernel
theorem d_M_init_55 : decode (m_M_init).2.1 55 = .ok (.newarray .int, 2) := by decide +kernel
theorem d_M_init_57 : decode (m_M_init).2.1 57 = .ok (.putfield 29, 3) := by decide +kernel
theorem d_M_init_60 : decode (m_M_init).2.1 60 = .ok (.aload_n 0, 1) := by decide +kernel
theorem d_M_init_61 : decode (m_M_init).2.1 61 = .ok (.bipush 20, 2) := by decide +kernel
theorem d_M_init_63 : decode (m_M_init).2.1 63 = .ok (.newarray .boolean, 2) := by decide +kernel
theorem d_M_init_65 : decode (m_M_init).2.1 65 = .ok (.putfield 32, 3) := by decide +kernel
theorem d_M_init_68 : decode (m_M_init).2.1 68 = .ok (.aload_n 0, 1) := by decide +kernel
theorem d_M_init_69 : decode (m_M_init).2.1 69 = .ok (.bipush 21, 2) := by decide +kernel
theorem d_M_init_71 : decode (m_M_init).2.1 71 = .ok (.newarray .int, 2) := by decide +kernel
theorem d_M_init_73 : decode (m_M_init).2.1 73 = .ok (.putfield 35, 3) := by decide +kernel
theorem d_M_init_76 : decode (m_M_init).2.1 76 = .ok (.aload_n 0, 1) := by decide +kernel
theorem d_M_init_77 : decode (m_M_init).2.1 77 = .ok (.sipush 4096, 3) := by decide +kernel
theorem d_M_init_80 : decode (m_M_init).2.1 80 = .ok (.newarray .int, 2) := by decide +kernel
theorem d_M_init_82 : decode (m_M_init).2.1 82 = .ok (.putfield 38, 3) := by decide +kernel
theorem d_M_init_85 : decode (m_M_init).2.1 85 = .ok (.aload_n 0, 1) := by decide +kernel
theorem d_M_init_86 : decode (m_M_init).2.1 86 = .ok (.sipush 4096, 3) := by decide +kernel
theorem d_M_init_89 : decode (m_M_init).2.1 89 = .ok (.newarray .int, 2) := by decide +kernel
theorem d_M_init_91 : decode (m_M_init).2.1 91 = .ok (.putfield 41, 3) := by decide +kernel
theorem d_M_init_94 : decode (m_M_init).2.1 94 = .ok (.aload_n 0, 1) := by decide +kernel
theorem d_M_init_95 : decode (m_M_init).2.1 95 = .ok (.sipush 14400, 3) := by decide +kernel
theorem d_M_init_98 : decode (m_M_init).2.1 98 = .ok (.newarray .int, 2) := by decide +kernel
theorem d_M_init_100 : decode (m_M_init).2.1 100 = .ok (.putfield 44, 3) := by decide +kernel
theorem d_M_init_103 : decode (m_M_init).2.1 103 = .ok (.aload_n 0, 1) := by decide +kernel
theorem d_M_init_104 : decode (m_M_init).2.1 104 = .ok (.bipush 120, 2) := by decide +kernel
theorem d_M_init_106 : decode (m_M_init).2.1 106 = .ok (.newarray .int, 2) := by decide +kernel
theorem d_M_init_108 : decode (m_M_init).2.1 108 = .ok (.putfield 47, 3) := by decide +kernel
theorem d_M_init_111 : decode (m_M_init).2.1 111 = .ok (.aload_n 0, 1) := by decide +kernel
theorem d_M_init_112 : decode (m_M_init).2.1 112 = .ok (.bipush 120, 2) := by decide +kernel
theorem d_M_init_114 : decode (m_M_init).2.1 114 = .ok (.newarray .int, 2) := by decide +kernel
theorem d_M_init_116 : decode (m_M_init).2.1 116 = .ok (.putfield 50, 3) := by decide +kernel
theorem d_M_init_119 : decode (m_M_init).2.1 119 = .ok (.aload_n 0, 1) := by decide +kernel
theorem d_M_init_120 : decode (m_M_init).2.1 120 = .ok (.bipush 11, 2) := by decide +kernel
theorem d_M_init_122 : decode (m_M_init).2.1 122 = .ok (.iconst 3, 1) := by decide +kernel
theorem d_M_init_123 : decode (m_M_init).2.1 123 = .ok (.invokevirtual 53, 3) := by decide +kernel
theorem d_M_init_126 : decode (m_M_init).2.1 126 = .ok (.aload_n 0, 1) := by decide +kernel
theorem d_M_init_127 : decode (m_M_init).2.1 127 = .ok (.iconst 0, 1) := by decide +kernel
theorem d_M_init_128 : decode (m_M_init).2.1 128 = .ok (.bipush 7, 2) := by decide +kernel
theorem d_M_init_130 : decode (m_M_init).2.1 130 = .ok (.iconst 2, 1) := by decide +kernel
theorem d_M_init_131 : decode (m_M_init).2.1 131 = .ok (.invokevirtual 57, 3) := by decide +kernel
theorem d_M_init_134 : decode (m_M_init).2.1 134 = .ok (.return_, 1) := by decide +kernel
theorem d_M_rest_0 : decode (m_M_rest).2.1 0 = .ok (.iconst 0, 1) := by decide +kernel
theorem d_M_rest_1 : decode (m_M_rest).2.1 1 = .ok (.istore 4, 2) := by decide +kernel
theorem d_M_rest_3 : decode (m_M_rest).2.1 3 = .ok (.iconst 0, 1) := by decide +kernel
theorem d_M_rest_4 : decode (m_M_rest).2.1 4 = .ok (.istore 5, 2) := by decide +kernel
theorem d_M_rest_6 : decode (m_M_rest).2.1 6 = .ok (.iload 5, 2) := by decide +kernel
theorem d_M_rest_8 : decode (m_M_rest).2.1 8 = .ok (.iload_n 3, 1) := by decide +kernel
theorem d_M_rest_9 : decode (m_M_rest).2.1 9 = .ok (.if_icmp .ge 33, 3) := by decide +kernel
theorem d_M_rest_12 : decode (m_M_rest).2.1 12 = .ok (.iload_n 1, 1) := by decide +kernel
theorem d_M_rest_13 : decode (m_M_rest).2.1 13 = .ok (.iload 5, 2) := by decide +kernel
theorem d_M_rest_15 : decode (m_M_rest).2.1 15 = .ok (.ishr, 1) := by decide +kernel
theorem d_M_rest_16 : decode (m_M_rest).2.1 16 = .ok (.iconst 1, 1) := by decide +kernel
theorem d_M_rest_17 : decode (m_M_rest).2.1 17 = .ok (.iand, 1) := by decide +kernel
theorem d_M_rest_18 : decode (m_M_rest).2.1 18 = .ok (.iconst 1, 1) := by decide +kernel
theorem d_M_rest_19 : decode (m_M_rest).2.1 19 = .ok (.if_icmp .ne 13, 3) := by decide +kernel
theorem d_M_rest_22 : decode (m_M_rest).2.1 22 = .ok (.iload 4, 2) := by decide +kernel
theorem d_M_rest_24 : decode (m_M_rest).2.1 24 = .ok (.iload_n 0, 1) := by decide +kernel
theorem d_M_rest_25 : decode (m_M_rest).2.1 25 = .ok (.iload 5, 2) := by decide +kernel
theorem d_M_rest_27 : decode (m_M_rest).2.1 27 = .ok (.ishl, 1) := by decide +kernel
theorem d_M_rest_28 : decode (m_M_rest).2.1 28 = .ok (.ixor, 1) := by decide +kernel
theorem d_M_rest_29 : decode (m_M_rest).2.1 29 = .ok (.goto 5, 3) := by decide +kernel
theorem d_M_rest_32 : decode (m_M_rest).2.1 32 = .ok (.iload 4, 2) := by decide +kernel
theorem d_M_rest_34 : decode (m_M_rest).2.1 34 = .ok (.istore 4, 2) := by decide +kernel
theorem d_M_rest_36 : decode (m_M_rest).2.1 36 = .ok (.iinc 5 1, 3) := by decide +kernel
theorem d_M_rest_39 : decode (m_M_rest).2.1 39 = .ok (.goto (-33), 3) := by decide +kernel
theorem d_M_rest_42 : decode (m_M_rest).2.1 42 = .ok (.iconst 2, 1) := by decide +kernel
theorem d_M_rest_43 : decode (m_M_rest).2.1 43 = .ok (.iload_n 3, 1) := by decide +kernel
theorem d_M_rest_44 : decode (m_M_rest).2.1 44 = .ok (.imul, 1) := by decide +kernel
theorem d_M_rest_45 : decode (m_M_rest).2.1 45 = .ok (.iconst 2, 1) := by decide +kernel
theorem d_M_rest_46 : decode (m_M_rest).2.1 46 = .ok (.isub, 1) := by decide +kernel
theorem d_M_rest_47 : decode (m_M_rest).2.1 47 = .ok (.istore 5, 2) := by decide +kernel
theorem d_M_rest_49 : decode (m_M_rest).2.1 49 = .ok (.iload 5, 2) := by decide +kernel
theorem d_M_rest_51 : decode (m_M_rest).2.1 51 = .ok (.iload_n 3, 1) := by decide +kernel
theorem d_M_rest_52 : decode (m_M_rest).2.1 52 = .ok (.if_icmp .lt 36, 3) := by decide +kernel
theorem d_M_rest_55 : decode (m_M_rest).2.1 55 = .ok (.iload 4, 2) := by decide +kernel
theorem d_M_rest_57 : decode (m_M_rest).2.1 57 = .ok (.iload 5, 2) := by decide +kernel
theorem d_M_rest_59 : decode (m_M_rest).2.1 59 = .ok (.ishr, 1) := by decide +kernel
theorem d_M_rest_60 : decode (m_M_rest).2.1 60 = .ok (.iconst 1, 1) := by decide +kernel
theorem d_M_rest_61 : decode (m_M_rest).2.1 61 = .ok (.iand, 1) := by decide +kernel
theorem d_M_rest_62 : decode (m_M_rest).2.1 62 = .ok (.iconst 1, 1) := by decide +kernel
theorem d_M_rest_63 : decode (m_M_rest).2.1 63 = .ok (.if_icmp .ne 15, 3) := by decide +kernel
theorem d_M_rest_66 : decode (m_M_rest).2.1 66 = .ok (.iload 4, 2) := by decide +kernel
theorem d_M_rest_68 : decode (m_M_rest).2.1 68 = .ok (.iload_n 2, 1) := by decide +kernel
theorem d_M_rest_69 : decode (m_M_rest).2.1 69 = .ok (.iload 5, 2) := by decide +kernel
theorem d_M_rest_71 : decode (m_M_rest).2.1 71 = .ok (.iload_n 3, 1) := by decide +kernel
theorem d_M_rest_72 : decode (m_M_rest).2.1 72 = .ok (.isub, 1) := by decide +kernel
theorem d_M_rest_73 : decode (m_M_rest).2.1 73 = .ok (.ishl, 1) := by decide +kernel
theorem d_M_rest_74 : decode (m_M_rest).2.1 74 = .ok (.ixor, 1) := by decide +kernel
theorem d_M_rest_75 : decode (m_M_rest).2.1 75 = .ok (.goto 5, 3) := by decide +kernel
theorem d_M_rest_78 : decode (m_M_rest).2.1 78 = .ok (.iload 4, 2) := by decide +kernel
theorem d_M_rest_80 : decode (m_M_rest).2.1 80 = .ok (.istore 4, 2) := by decide +kernel
theorem d_M_rest_82 : decode (m_M_rest).2.1 82 = .ok (.iinc 5 (-1), 3) := by decide +kernel
theorem d_M_rest_85 : decode (m_M_rest).2.1 85 = .ok (.goto (-36), 3) := by decide +kernel
theorem d_M_rest_88 : decode (m_M_rest).2.1 88 = .ok (.iload 4, 2) := by decide +kernel
theorem d_M_rest_90 : decode (m_M_rest).2.1 90 = .ok (.ireturn, 1) := by decide +kernel
theorem d_M_layField_0 : decode (m_M_layField).2.1 0 = .ok (.aload_n 0, 1) := by decide +kernel
theorem d_M_layField_1 : decode (m_M_layField).2.1 1 = .ok (.iload_n 2, 1) := by decide +kernel
theorem d_M_layField_2 : decode (m_M_layField).2.1 2 = .ok (.putfield 61, 3) := by decide +kernel
theorem d_M_layField_5 : decode (m_M_layField).2.1 5 = .ok (.aload_n 0, 1) := by decide +kernel
theorem d_M_layField_6 : decode (m_M_layField).2.1 6 = .ok (.iconst 1, 1) := by decide +kernel
theorem d_M_layField_7 : decode (m_M_layField).2.1 7 = .ok (.iload_n 2, 1) := by decide +kernel
theorem d_M_layField_8 : decode (m_M_layField).2.1 8 = .ok (.ishl, 1) := by decide +kernel
theorem d_M_layField_9 : decode (m_M_layField).2.1 9 = .ok (.putfield 65, 3) := by decide +kernel
theorem d_M_layField_12 : decode (m_M_layField).2.1 12 = .ok (.iconst 0, 1) := by decide +kernel
theorem d_M_layField_13 : decode (m_M_layField).2.1 13 = .ok (.istore_n 3, 1) := by decide +kernel
theorem d_M_layField_14 : decode (m_M_layField).2.1 14 = .ok (.iload_n 3, 1) := by decide +kernel
theorem d_M_layField_15 : decode (m_M_layField).2.1 15 = .ok (.aload_n 0, 1) := by decide +kernel
theorem d_M_layField_16 : decode (m_M_layField).2.1 16 = .ok (.getfield 65, 3) := by decide +kernel
theorem d_M_layField_19 : decode (m_M_layField).2.1 19 = .ok (.if_icmp .ge 47, 3) := by decide +kernel
theorem d_M_layField_22 : decode (m_M_layField).2.1 22 = .ok (.iconst 0, 1) := by decide +kernel
theorem d_M_layField_23 : decode (m_M_layField).2.1 23 = .ok (.istore 4, 2) := by decide +kernel
theorem d_M_layField_25 : decode (m_M_layField).2.1 25 = .ok (.iload 4, 2) := by decide +kernel
theorem d_M_layField_27 : decode (m_M_layField).2.1 27 = .ok (.aload_n 0, 1) := by decide +kernel
theorem d_M_layField_28 : decode (m_M_layField).2.1 28 = .ok (.getfield 65, 3) := by decide +kernel
theorem d_M_layField_31 : decode (m_M_layField).2.1 31 = .ok (.if_icmp .ge 29, 3) := by decide +kernel
theorem d_M_layField_34 : decode (m_M_layField).2.1 34 = .ok (.aload_n 0, 1) := by decide +kernel
theorem d_M_layField_35 : decode (m_M_layField).2.1 35 = .ok (.getfield 7, 3) := by decide +kernel
theorem d_M_layField_38 : decode (m_M_layField).2.1 38 = .ok (.bipush 32, 2) := by decide +kernel
theorem d_M_layField_40 : decode (m_M_layField).2.1 40 = .ok (.iload_n 3, 1) := by decide +kernel
theorem d_M_layField_41 : decode (m_M_layField).2.1 41 = .ok (.imul, 1) := by decide +kernel
theorem d_M_layField_42 : decode (m_M_layField).2.1 42 = .ok (.iload 4, 2) := by decide +kernel
theorem d_M_layField_44 : decode (m_M_layField).2.1 44 = .ok (.iadd, 1) := by decide +kernel
theorem d_M_layField_45 : decode (m_M_layField).2.1 45 = .ok (.iload_n 3, 1) := by decide +kernel
theorem d_M_layField_46 : decode (m_M_layField).2.1 46 = .ok (.iload 4, 2) := by decide +kernel
theorem d_M_layField_48 : decode (m_M_layField).2.1 48 = .ok (.iload_n 1, 1) := by decide +kernel
theorem d_M_layField_49 : decode (m_M_layField).2.1 49 = .ok (.iload_n 2, 1) := by decide +kernel
theorem d_M_layField_50 : decode (m_M_layField).2.1 50 = .ok (.invokestatic 68, 3) := by decide +kernel
theorem d_M_layField_53 : decode (m_M_layField).2.1 53 = .ok (.iastore, 1) := by decide +kernel
theorem d_M_layField_54 : decode (m_M_layField).2.1 54 = .ok (.iinc 4 1, 3) := by decide +kernel
theorem d_M_layField_57 : decode (m_M_layField).2.1 57 = .ok (.goto (-32), 3) := by decide +kernel
theorem d_M_layField_60 : decode (m_M_layField).2.1 60 = .ok (.iinc 3 1, 3) := by decide +kernel
theorem d_M_layField_63 : decode (m_M_layField).2.1 63 = .ok (.goto (-49), 3) := by decide +kernel
theorem d_M_layField_66 : decode (m_M_layField).2.1 66 = .ok (.aload_n 0, 1) := by decide +kernel
theorem d_M_layField_67 : decode (m_M_layField).2.1 67 = .ok (.getfield 13, 3) := by decide +kernel
theorem d_M_layField_70 : decode (m_M_layField).2.1 70 = .ok (.iconst 0, 1) := by decide +kernel
theorem d_M_layField_71 : decode (m_M_layField).2.1 71 = .ok (.iconst 1, 1) := by decide +kernel
theorem d_M_layField_72 : decode (m_M_layField).2.1 72 = .ok (.iastore, 1) := by decide +kernel
theorem d_M_layField_73 : decode (m_M_layField).2.1 73 = .ok (.iconst 1, 1) := by decide +kernel
theorem d_M_layField_74 : decode (m_M_layField).2.1 74 = .ok (.istore_n 3, 1) := by decide +kernel
theorem d_M_layField_75 : decode (m_M_layField).2.1 75 = .ok (.iload_n 3, 1) := by decide +kernel
theorem d_M_layField_76 : decode (m_M_layField).2.1 76 = .ok (.aload_n 0, 1) := by decide +kernel
theorem d_M_layField_77 : decode (m_M_layField).2.1 77 = .ok (.getfield 65, 3) := by decide +kernel
theorem d_M_layField_80 : decode (m_M_layField).2.1 80 = .ok (.if_icmp .ge 33, 3) := by decide +kernel
theorem d_M_layField_83 : decode (m_M_layField).2.1 83 = .ok (.aload_n 0, 1) := by decide +kernel
theorem d_M_layField_84 : decode (m_M_layField).2.1 84 = .ok (.getfield 13, 3) := by decide +kernel
theorem d_M_layField_87 : decode (m_M_layField).2.1 87 = .ok (.iload_n 3, 1) := by decide +kernel
theorem d_M_layField_88 : decode (m_M_layField).2.1 88 = .ok (.aload_n 0, 1) := by decide +kernel
theorem d_M_layField_89 : decode (m_M_layField).2.1 89 = .ok (.getfield 7, 3) := by decide +kernel
theorem d_M_layField_92 : decode (m_M_layField).2.1 92 = .ok (.bipush 32, 2) := by decide +kernel
theorem d_M_layField_94 : decode (m_M_layField).2.1 94 = .ok (.aload_n 0, 1) := by decide +kernel
theorem d_M_layField_95 : decode (m_M_layField).2.1 95 = .ok (.getfield 13, 3) := by decide +kernel
theorem d_M_layField_98 : decode (m_M_layField).2.1 98 = .ok (.iload_n 3, 1) := by decide +kernel
theorem d_M_layField_99 : decode (m_M_layField).2.1 99 = .ok (.iconst 1, 1) := by decide +kernel
theorem d_M_layField_100 : decode (m_M_layField).2.1 100 = .ok (.isub, 1) := by decide +kernel
theorem d_M_layField_101 : decode (m_M_layField).2.1 101 = .ok (.iaload, 1) := by decide +kernel
theorem d_M_layField_102 : decode (m_M_layField).2.1 102 = .ok (.imul, 1) := by decide +kernel
theorem d_M_layField_103 : decode (m_M_layField).2.1 103 = .ok (.iconst 2, 1) := by decide +kernel
theorem d_M_layField_104 : decode (m_M_layField).2.1 104 = .ok (.iadd, 1) := by decide +kernel
theorem d_M_layField_105 : decode (m_M_layField).2.1 105 = .ok (.iaload, 1) := by decide +kernel
theorem d_M_layField_106 : decode (m_M_layField).2.1 106 = .ok (.iastore, 1) := by decide +kernel
theorem d_M_layField_107 : decode (m_M_layField).2.1 107 = .ok (.iinc 3 1, 3) := by decide +kernel
theorem d_M_layField_110 : decode (m_M_layField).2.1 110 = .ok (.goto (-35), 3) := by decide +kernel
theorem d_M_layField_113 : decode (m_M_layField).2.1 113 = .ok (.return_, 1) := by decide +kernel
end
section
theorem d_M_isPrimitive_0 : decode (m_M_isPrimitive).2.1 0 = .ok (.iconst 1, 1) := by decide +kernel
theorem d_M_isPrimitive_1 : decode (m_M_isPrimitive).2.1 1 = .ok (.istore_n 2, 1) := by decide +kernel
theorem d_M_isPrimitive_2 : decode (m_M_isPrimitive).2.1 2 = .ok (.iconst 1, 1) := by decide +kernel
theorem d_M_isPrimitive_3 : decode (m_M_isPrimitive).2.1 3 = .ok (.istore_n 3, 1) := by decide +kernel
theorem d_M_isPrimitive_4 : decode (m_M_isPrimitive).2.1 4 = .ok (.iload_n 3, 1) := by decide +kernel
theorem d_M_isPrimitive_5 : decode (m_M_isPrimitive).2.1 5 = .ok (.iconst 1, 1) := by decide +kernel
theorem d_M_isPrimitive_6 : decode (m_M_isPrimitive).2.1 6 = .ok (.iload_n 1, 1) := by decide +kernel
theorem d_M_isPrimitive_7 : decode (m_M_isPrimitive).2.1 7 = .ok (.ishl, 1) := by decide +kernel
theorem d_M_isPrimitive_8 : decode (m_M_isPrimitive).2.1 8 = .ok (.if_icmp .ge 37, 3) := by decide +kernel
theorem d_M_isPrimitive_11 : decode (m_M_isPrimitive).2.1 11 = .ok (.iload_n 2, 1) := by decide +kernel
theorem d_M_isPrimitive_12 : decode (m_M_isPrimitive).2.1 12 = .ok (.iconst 2, 1) := by decide +kernel
theorem d_M_isPrimitive_13 : decode (m_M_isPrimitive).2.1 13 = .ok (.iload_n 0, 1) := by decide +kernel
theorem d_M_isPrimitive_14 : decode (m_M_isPrimitive).2.1 14 = .ok (.iload_n 1, 1) := by decide +kernel
theorem d_M_isPrimitive_15 : decode (m_M_isPrimitive).2.1 15 = .ok (.invokestatic 68, 3) := by decide +kernel
theorem d_M_isPrimitive_18 : decode (m_M_isPrimitive).2.1 18 = .ok (.istore_n 2, 1) := by decide +kernel
theorem d_M_isPrimitive_19 : decode (m_M_isPrimitive).2.1 19 = .ok (.iload_n 2, 1) := by decide +kernel
theorem d_M_isPrimitive_20 : decode (m_M_isPrimitive).2.1 20 = .ok (.iconst 1, 1) := by decide +kernel
theorem d_M_isPrimitive_21 : decode (m_M_isPrimitive).2.1 21 = .ok (.if_icmp .ne 18, 3) := by decide +kernel
theorem d_M_isPrimitive_24 : decode (m_M_isPrimitive).2.1 24 = .ok (.iload_n 3, 1) := by decide +kernel
theorem d_M_isPrimitive_25 : decode (m_M_isPrimitive).2.1 25 = .ok (.iconst 1, 1) := by decide +kernel
theorem d_M_isPrimitive_26 : decode (m_M_isPrimitive).2.1 26 = .ok (.iload_n 1, 1) := by decide +kernel
theorem d_M_isPrimitive_27 : decode (m_M_isPrimitive).2.1 27 = .ok (.ishl, 1) := by decide +kernel
theorem d_M_isPrimitive_28 : decode (m_M_isPrimitive).2.1 28 = .ok (.iconst 1, 1) := by decide +kernel
theorem d_M_isPrimitive_29 : decode (m_M_isPrimitive).2.1 29 = .ok (.isub, 1) := by decide +kernel
theorem d_M_isPrimitive_30 : decode (m_M_isPrimitive).2.1 30 = .ok (.if_icmp .ne 7, 3) := by decide +kernel
theorem d_M_isPrimitive_33 : decode (m_M_isPrimitive).2.1 33 = .ok (.iconst 1, 1) := by decide +kernel
theorem d_M_isPrimitive_34 : decode (m_M_isPrimitive).2.1 34 = .ok (.goto 4, 3) := by decide +kernel
theorem d_M_isPrimitive_37 : decode (m_M_isPrimitive).2.1 37 = .ok (.iconst 0, 1) := by decide +kernel
theorem d_M_isPrimitive_38 : decode (m_M_isPrimitive).2.1 38 = .ok (.ireturn, 1) := by decide +kernel
theorem d_M_isPrimitive_39 : decode (m_M_isPrimitive).2.1 39 = .ok (.iinc 3 1, 3) := by decide +kernel
theorem d_M_isPrimitive_42 : decode (m_M_isPrimitive).2.1 42 = .ok (.goto (-38), 3) := by decide +kernel
theorem d_M_isPrimitive_45 : decode (m_M_isPrimitive).2.1 45 = .ok (.iconst 0, 1) := by decide +kernel
theorem d_M_isPrimitive_46 : decode (m_M_isPrimitive).2.1 46 = .ok (.ireturn, 1) := by decide +kernel
theorem d_M_isElement_0 : decode (m_M_isElement).2.1 0 = .ok (.iload_n 1, 1) := by decide +kernel
theorem d_M_isElement_1 : decode (m_M_isElement).2.1 1 = .ok (.ifCond .lt 15, 3) := by decide +kernel
theorem d_M_isElement_4 : decode (m_M_isElement).2.1 4 = .ok (.iload_n 1, 1) := by decide +kernel
theorem d_M_isElement_5 : decode (m_M_isElement).2.1 5 = .ok (.aload_n 0, 1) := by decide +kernel
theorem d_M_isElement_6 : decode (m_M_isElement).2.1 6 = .ok (.getfield 65, 3) := by decide +kernel
theorem d_M_isElement_9 : decode (m_M_isElement).2.1 9 = .ok (.if_icmp .ge 7, 3) := by decide +kernel
theorem d_M_isElement_12 : decode (m_M_isElement).2.1 12 = .ok (.iconst 1, 1) := by decide +kernel
theorem d_M_isElement_13 : decode (m_M_isElement).2.1 13 = .ok (.goto 4, 3) := by decide +kernel
theorem d_M_isElement_16 : decode (m_M_isElement).2.1 16 = .ok (.iconst 0, 1) := by decide +kernel
theorem d_M_isElement_17 : decode (m_M_isElement).2.1 17 = .ok (.ireturn, 1) := by decide +kernel
theorem d_M_field_0 : decode (m_M_field).2.1 0 = .ok (.iload_n 1, 1) := by decide +kernel
theorem d_M_field_1 : decode (m_M_field).2.1 1 = .ok (.bipush 8, 2) := by decide +kernel
theorem d_M_field_3 : decode (m_M_field).2.1 3 = .ok (.if_icmp .lt 9, 3) := by decide +kernel
theorem d_M_field_6 : decode (m_M_field).2.1 6 = .ok (.iload_n 1, 1) := by decide +kernel
theorem d_M_field_7 : decode (m_M_field).2.1 7 = .ok (.bipush 63, 2) := by decide +kernel
theorem d_M_field_9 : decode (m_M_field).2.1 9 = .ok (.if_icmp .le 5, 3) := by decide +kernel
theorem d_M_field_12 : decode (m_M_field).2.1 12 = .ok (.iconst (-1), 1) := by decide +kernel
theorem d_M_field_13 : decode (m_M_field).2.1 13 = .ok (.ireturn, 1) := by decide +kernel
theorem d_M_field_14 : decode (m_M_field).2.1 14 = .ok (.iload_n 1, 1) := by decide +kernel
theorem d_M_field_15 : decode (m_M_field).2.1 15 = .ok (.bipush 16, 2) := by decide +kernel
theorem d_M_field_17 : decode (m_M_field).2.1 17 = .ok (.if_icmp .ge 7, 3) := by decide +kernel
theorem d_M_field_20 : decode (m_M_field).2.1 20 = .ok (.iconst 3, 1) := by decide +kernel
theorem d_M_field_21 : decode (m_M_field).2.1 21 = .ok (.goto 14, 3) := by decide +kernel
theorem d_M_field_24 : decode (m_M_field).2.1 24 = .ok (.iload_n 1, 1) := by decide +kernel
theorem d_M_field_25 : decode (m_M_field).2.1 25 = .ok (.bipush 32, 2) := by decide +kernel
theorem d_M_field_27 : decode (m_M_field).2.1 27 = .ok (.if_icmp .ge 7, 3) := by decide +kernel
theorem d_M_field_30 : decode (m_M_field).2.1 30 = .ok (.iconst 4, 1) := by decide +kernel
theorem d_M_field_31 : decode (m_M_field).2.1 31 = .ok (.goto 4, 3) := by decide +kernel
theorem d_M_field_34 : decode (m_M_field).2.1 34 = .ok (.iconst 5, 1) := by decide +kernel
theorem d_M_field_35 : decode (m_M_field).2.1 35 = .ok (.istore_n 2, 1) := by decide +kernel
theorem d_M_field_36 : decode (m_M_field).2.1 36 = .ok (.iload_n 1, 1) := by decide +kernel
theorem d_M_field_37 : decode (m_M_field).2.1 37 = .ok (.iload_n 2, 1) := by decide +kernel
theorem d_M_field_38 : decode (m_M_field).2.1 38 = .ok (.invokestatic 72, 3) := by decide +kernel
theorem d_M_field_41 : decode (m_M_field).2.1 41 = .ok (.ifCond .ne 6, 3) := by decide +kernel
theorem d_M_field_44 : decode (m_M_field).2.1 44 = .ok (.bipush (-4), 2) := by decide +kernel
theorem d_M_field_46 : decode (m_M_field).2.1 46 = .ok (.ireturn, 1) := by decide +kernel
theorem d_M_field_47 : decode (m_M_field).2.1 47 = .ok (.aload_n 0, 1) := by decide +kernel
theorem d_M_field_48 : decode (m_M_field).2.1 48 = .ok (.iload_n 1, 1) := by decide +kernel
theorem d_M_field_49 : decode (m_M_field).2.1 49 = .ok (.iload_n 2, 1) := by decide +kernel
theorem d_M_field_50 : decode (m_M_field).2.1 50 = .ok (.invokevirtual 53, 3) := by decide +kernel
theorem d_M_field_53 : decode (m_M_field).2.1 53 = .ok (.aload_n 0, 1) := by decide +kernel
theorem d_M_field_54 : decode (m_M_field).2.1 54 = .ok (.iconst 0, 1) := by decide +kernel
theorem d_M_field_55 : decode (m_M_field).2.1 55 = .ok (.aload_n 0, 1) := by decide +kernel
theorem d_M_field_56 : decode (m_M_field).2.1 56 = .ok (.getfield 65, 3) := by decide +kernel
theorem d_M_field_59 : decode (m_M_field).2.1 59 = .ok (.bipush 20, 2) := by decide +kernel
theorem d_M_field_61 : decode (m_M_field).2.1 61 = .ok (.if_icmp .le 8, 3) := by decide +kernel
theorem d_M_field_64 : decode (m_M_field).2.1 64 = .ok (.bipush 20, 2) := by decide +kernel
theorem d_M_field_66 : decode (m_M_field).2.1 66 = .ok (.goto 9, 3) := by decide +kernel
theorem d_M_field_69 : decode (m_M_field).2.1 69 = .ok (.aload_n 0, 1) := by decide +kernel
theorem d_M_field_70 : decode (m_M_field).2.1 70 = .ok (.getfield 65, 3) := by decide +kernel
theorem d_M_field_73 : decode (m_M_field).2.1 73 = .ok (.iconst 1, 1) := by decide +kernel
theorem d_M_field_74 : decode (m_M_field).2.1 74 = .ok (.isub, 1) := by decide +kernel
theorem d_M_field_75 : decode (m_M_field).2.1 75 = .ok (.iconst 2, 1) := by decide +kernel
theorem d_M_field_76 : decode (m_M_field).2.1 76 = .ok (.invokevirtual 57, 3) := by decide +kernel
theorem d_M_field_79 : decode (m_M_field).2.1 79 = .ok (.aload_n 0, 1) := by decide +kernel
theorem d_M_field_80 : decode (m_M_field).2.1 80 = .ok (.getfield 61, 3) := by decide +kernel
theorem d_M_field_83 : decode (m_M_field).2.1 83 = .ok (.ireturn, 1) := by decide +kernel
theorem d_M_times_0 : decode (m_M_times).2.1 0 = .ok (.aload_n 0, 1) := by decide +kernel
theorem d_M_times_1 : decode (m_M_times).2.1 1 = .ok (.iload_n 1, 1) := by decide +kernel
theorem d_M_times_2 : decode (m_M_times).2.1 2 = .ok (.invokevirtual 76, 3) := by decide +kernel
theorem d_M_times_5 : decode (m_M_times).2.1 5 = .ok (.ifCond .eq 25, 3) := by decide +kernel
theorem d_M_times_8 : decode (m_M_times).2.1 8 = .ok (.aload_n 0, 1) := by decide +kernel
theorem d_M_times_9 : decode (m_M_times).2.1 9 = .ok (.iload_n 2, 1) := by decide +kernel
theorem d_M_times_10 : decode (m_M_times).2.1 10 = .ok (.invokevirtual 76, 3) := by decide +kernel
theorem d_M_times_13 : decode (m_M_times).2.1 13 = .ok (.ifCond .eq 17, 3) := by decide +kernel
theorem d_M_times_16 : decode (m_M_times).2.1 16 = .ok (.aload_n 0, 1) := by decide +kernel
theorem d_M_times_17 : decode (m_M_times).2.1 17 = .ok (.getfield 7, 3) := by decide +kernel
theorem d_M_times_20 : decode (m_M_times).2.1 20 = .ok (.bipush 32, 2) := by decide +kernel
theorem d_M_times_22 : decode (m_M_times).2.1 22 = .ok (.iload_n 1, 1) := by decide +kernel
theorem d_M_times_23 : decode (m_M_times).2.1 23 = .ok (.imul, 1) := by decide +kernel
theorem d_M_times_24 : decode (m_M_times).2.1 24 = .ok (.iload_n 2, 1) := by decide +kernel
theorem d_M_times_25 : decode (m_M_times).2.1 25 = .ok (.iadd, 1) := by decide +kernel
theorem d_M_times_26 : decode (m_M_times).2.1 26 = .ok (.iaload, 1) := by decide +kernel
theorem d_M_times_27 : decode (m_M_times).2.1 27 = .ok (.goto 4, 3) := by decide +kernel
theorem d_M_times_30 : decode (m_M_times).2.1 30 = .ok (.iconst (-1), 1) := by decide +kernel
theorem d_M_times_31 : decode (m_M_times).2.1 31 = .ok (.ireturn, 1) := by decide +kernel
theorem d_M_quotient_0 : decode (m_M_quotient).2.1 0 = .ok (.iconst 0, 1) := by decide +kernel
theorem d_M_quotient_1 : decode (m_M_quotient).2.1 1 = .ok (.istore_n 3, 1) := by decide +kernel
theorem d_M_quotient_2 : decode (m_M_quotient).2.1 2 = .ok (.iload_n 3, 1) := by decide +kernel
theorem d_M_quotient_3 : decode (m_M_quotient).2.1 3 = .ok (.aload_n 0, 1) := by decide +kernel
theorem d_M_quotient_4 : decode (m_M_quotient).2.1 4 = .ok (.getfield 65, 3) := by decide +kernel
theorem d_M_quotient_7 : decode (m_M_quotient).2.1 7 = .ok (.if_icmp .ge 24, 3) := by decide +kernel
theorem d_M_quotient_10 : decode (m_M_quotient).2.1 10 = .ok (.aload_n 0, 1) := by decide +kernel
theorem d_M_quotient_11 : decode (m_M_quotient).2.1 11 = .ok (.getfield 7, 3) := by decide +kernel
theorem d_M_quotient_14 : decode (m_M_quotient).2.1 14 = .ok (.bipush 32, 2) := by decide +kernel
theorem d_M_quotient_16 : decode (m_M_quotient).2.1 16 = .ok (.iload_n 3, 1) := by decide +kernel
theorem d_M_quotient_17 : decode (m_M_quotient).2.1 17 = .ok (.imul, 1) := by decide +kernel
theorem d_M_quotient_18 : decode (m_M_quotient).2.1 18 = .ok (.iload_n 2, 1) := by decide +kernel
theorem d_M_quotient_19 : decode (m_M_quotient).2.1 19 = .ok (.iadd, 1) := by decide +kernel
theorem d_M_quotient_20 : decode (m_M_quotient).2.1 20 = .ok (.iaload, 1) := by decide +kernel
theorem d_M_quotient_21 : decode (m_M_quotient).2.1 21 = .ok (.iload_n 1, 1) := by decide +kernel
theorem d_M_quotient_22 : decode (m_M_quotient).2.1 22 = .ok (.if_icmp .eq 9, 3) := by decide +kernel
theorem d_M_quotient_25 : decode (m_M_quotient).2.1 25 = .ok (.iinc 3 1, 3) := by decide +kernel
theorem d_M_quotient_28 : decode (m_M_quotient).2.1 28 = .ok (.goto (-26), 3) := by decide +kernel
theorem d_M_quotient_31 : decode (m_M_quotient).2.1 31 = .ok (.iload_n 3, 1) := by decide +kernel
theorem d_M_quotient_32 : decode (m_M_quotient).2.1 32 = .ok (.ireturn, 1) := by decide +kernel
theorem d_M_over_0 : decode (m_M_over).2.1 0 = .ok (.aload_n 0, 1) := by decide +kernel
theorem d_M_over_1 : decode (m_M_over).2.1 1 = .ok (.iload_n 1, 1) := by decide +kernel
theorem d_M_over_2 : decode (m_M_over).2.1 2 = .ok (.invokevirtual 76, 3) := by decide +kernel
theorem d_M_over_5 : decode (m_M_over).2.1 5 = .ok (.ifCond .eq 11, 3) := by decide +kernel
theorem d_M_over_8 : decode (m_M_over).2.1 8 = .ok (.aload_n 0, 1) := by decide +kernel
theorem d_M_over_9 : decode (m_M_over).2.1 9 = .ok (.iload_n 2, 1) := by decide +kernel
theorem d_M_over_10 : decode (m_M_over).2.1 10 = .ok (.invokevirtual 76, 3) := by decide +kernel
theorem d_M_over_13 : decode (m_M_over).2.1 13 = .ok (.ifCond .ne 5, 3) := by decide +kernel
theorem d_M_over_16 : decode (m_M_over).2.1 16 = .ok (.iconst (-1), 1) := by decide +kernel
theorem d_M_over_17 : decode (m_M_over).2.1 17 = .ok (.ireturn, 1) := by decide +kernel
theorem d_M_over_18 : decode (m_M_over).2.1 18 = .ok (.iload_n 2, 1) := by decide +kernel
theorem d_M_over_19 : decode (m_M_over).2.1 19 = .ok (.ifCond .ne 8, 3) := by decide +kernel
theorem d_M_over_22 : decode (m_M_over).2.1 22 = .ok (.bipush (-2), 2) := by decide +kernel
theorem d_M_over_24 : decode (m_M_over).2.1 24 = .ok (.goto 9, 3) := by decide +kernel
theorem d_M_over_27 : decode (m_M_over).2.1 27 = .ok (.aload_n 0, 1) := by decide +kernel
theorem d_M_over_28 : decode (m_M_over).2.1 28 = .ok (.iload_n 1, 1) := by decide +kernel
theorem d_M_over_29 : decode (m_M_over).2.1 29 = .ok (.iload_n 2, 1) := by decide +kernel
theorem d_M_over_30 : decode (m_M_over).2.1 30 = .ok (.invokevirtual 80, 3) := by decide +kernel
theorem d_M_over_33 : decode (m_M_over).2.1 33 = .ok (.ireturn, 1) := by decide +kernel
theorem d_M_log_0 : decode (m_M_log).2.1 0 = .ok (.aload_n 0, 1) := by decide +kernel
theorem d_M_log_1 : decode (m_M_log).2.1 1 = .ok (.iload_n 1, 1) := by decide +kernel
theorem d_M_log_2 : decode (m_M_log).2.1 2 = .ok (.invokevirtual 76, 3) := by decide +kernel
theorem d_M_log_5 : decode (m_M_log).2.1 5 = .ok (.ifCond .ne 5, 3) := by decide +kernel
theorem d_M_log_8 : decode (m_M_log).2.1 8 = .ok (.iconst (-1), 1) := by decide +kernel
theorem d_M_log_9 : decode (m_M_log).2.1 9 = .ok (.ireturn, 1) := by decide +kernel
theorem d_M_log_10 : decode (m_M_log).2.1 10 = .ok (.iconst 0, 1) := by decide +kernel
theorem d_M_log_11 : decode (m_M_log).2.1 11 = .ok (.istore_n 2, 1) := by decide +kernel
theorem d_M_log_12 : decode (m_M_log).2.1 12 = .ok (.iload_n 2, 1) := by decide +kernel
theorem d_M_log_13 : decode (m_M_log).2.1 13 = .ok (.aload_n 0, 1) := by decide +kernel
theorem d_M_log_14 : decode (m_M_log).2.1 14 = .ok (.getfield 65, 3) := by decide +kernel
theorem d_M_log_17 : decode (m_M_log).2.1 17 = .ok (.iconst 1, 1) := by decide +kernel
theorem d_M_log_18 : decode (m_M_log).2.1 18 = .ok (.isub, 1) := by decide +kernel
theorem d_M_log_19 : decode (m_M_log).2.1 19 = .ok (.if_icmp .ge 19, 3) := by decide +kernel
theorem d_M_log_22 : decode (m_M_log).2.1 22 = .ok (.aload_n 0, 1) := by decide +kernel
theorem d_M_log_23 : decode (m_M_log).2.1 23 = .ok (.getfield 13, 3) := by decide +kernel
theorem d_M_log_26 : decode (m_M_log).2.1 26 = .ok (.iload_n 2, 1) := by decide +kernel
theorem d_M_log_27 : decode (m_M_log).2.1 27 = .ok (.iaload, 1) := by decide +kernel
theorem d_M_log_28 : decode (m_M_log).2.1 28 = .ok (.iload_n 1, 1) := by decide +kernel
theorem d_M_log_29 : decode (m_M_log).2.1 29 = .ok (.if_icmp .eq 9, 3) := by decide +kernel
theorem d_M_log_32 : decode (m_M_log).2.1 32 = .ok (.iinc 2 1, 3) := by decide +kernel
theorem d_M_log_35 : decode (m_M_log).2.1 35 = .ok (.goto (-23), 3) := by decide +kernel
theorem d_M_log_38 : decode (m_M_log).2.1 38 = .ok (.iload_n 2, 1) := by decide +kernel
theorem d_M_log_39 : decode (m_M_log).2.1 39 = .ok (.aload_n 0, 1) := by decide +kernel
theorem d_M_log_40 : decode (m_M_log).2.1 40 = .ok (.getfield 65, 3) := by decide +kernel
theorem d_M_log_43 : decode (m_M_log).2.1 43 = .ok (.iconst 1, 1) := by decide +kernel
theorem d_M_log_44 : decode (m_M_log).2.1 44 = .ok (.isub, 1) := by decide +kernel
theorem d_M_log_45 : decode (m_M_log).2.1 45 = .ok (.if_icmp .ge 7, 3) := by decide +kernel
theorem d_M_log_48 : decode (m_M_log).2.1 48 = .ok (.iload_n 2, 1) := by decide +kernel
theorem d_M_log_49 : decode (m_M_log).2.1 49 = .ok (.goto 5, 3) := by decide +kernel
theorem d_M_log_52 : decode (m_M_log).2.1 52 = .ok (.bipush (-2), 2) := by decide +kernel
theorem d_M_log_54 : decode (m_M_log).2.1 54 = .ok (.ireturn, 1) := by decide +kernel
theorem d_M_power_0 : decode (m_M_power).2.1 0 = .ok (.iconst 1, 1) := by decide +kernel
theorem d_M_power_1 : decode (m_M_power).2.1 1 = .ok (.istore_n 3, 1) := by decide +kernel
theorem d_M_power_2 : decode (m_M_power).2.1 2 = .ok (.iconst 0, 1) := by decide +kernel
theorem d_M_power_3 : decode (m_M_power).2.1 3 = .ok (.istore 4, 2) := by decide +kernel
theorem d_M_power_5 : decode (m_M_power).2.1 5 = .ok (.iload 4, 2) := by decide +kernel
theorem d_M_power_7 : decode (m_M_power).2.1 7 = .ok (.iload_n 2, 1) := by decide +kernel
theorem d_M_power_8 : decode (m_M_power).2.1 8 = .ok (.if_icmp .ge 21, 3) := by decide +kernel
theorem d_M_power_11 : decode (m_M_power).2.1 11 = .ok (.aload_n 0, 1) := by decide +kernel
theorem d_M_power_12 : decode (m_M_power).2.1 12 = .ok (.getfield 7, 3) := by decide +kernel
theorem d_M_power_15 : decode (m_M_power).2.1 15 = .ok (.bipush 32, 2) := by decide +kernel
theorem d_M_power_17 : decode (m_M_power).2.1 17 = .ok (.iload_n 3, 1) := by decide +kernel
theorem d_M_power_18 : decode (m_M_power).2.1 18 = .ok (.imul, 1) := by decide +kernel
theorem d_M_power_19 : decode (m_M_power).2.1 19 = .ok (.iload_n 1, 1) := by decide +kernel
theorem d_M_power_20 : decode (m_M_power).2.1 20 = .ok (.iadd, 1) := by decide +kernel
theorem d_M_power_21 : decode (m_M_power).2.1 21 = .ok (.iaload, 1) := by decide +kernel
theorem d_M_power_22 : decode (m_M_power).2.1 22 = .ok (.istore_n 3, 1) := by decide +kernel
theorem d_M_power_23 : decode (m_M_power).2.1 23 = .ok (.iinc 4 1, 3) := by decide +kernel
theorem d_M_power_26 : decode (m_M_power).2.1 26 = .ok (.goto (-21), 3) := by decide +kernel
theorem d_M_power_29 : decode (m_M_power).2.1 29 = .ok (.iload_n 3, 1) := by decide +kernel
theorem d_M_power_30 : decode (m_M_power).2.1 30 = .ok (.ireturn, 1) := by decide +kernel
theorem d_M_layCode_0 : decode (m_M_layCode).2.1 0 = .ok (.aload_n 0, 1) := by decide +kernel
theorem d_M_layCode_1 : decode (m_M_layCode).2.1 1 = .ok (.iload_n 1, 1) := by decide +kernel
theorem d_M_layCode_2 : decode (m_M_layCode).2.1 2 = .ok (.putfield 84, 3) := by decide +kernel
theorem d_M_layCode_5 : decode (m_M_layCode).2.1 5 = .ok (.aload_n 0, 1) := by decide +kernel
theorem d_M_layCode_6 : decode (m_M_layCode).2.1 6 = .ok (.iload_n 2, 1) := by decide +kernel
theorem d_M_layCode_7 : decode (m_M_layCode).2.1 7 = .ok (.putfield 87, 3) := by decide +kernel
theorem d_M_layCode_10 : decode (m_M_layCode).2.1 10 = .ok (.aload_n 0, 1) := by decide +kernel
theorem d_M_layCode_11 : decode (m_M_layCode).2.1 11 = .ok (.iload_n 3, 1) := by decide +kernel
theorem d_M_layCode_12 : decode (m_M_layCode).2.1 12 = .ok (.putfield 90, 3) := by decide +kernel
theorem d_M_layCode_15 : decode (m_M_layCode).2.1 15 = .ok (.iconst 0, 1) := by decide +kernel
theorem d_M_layCode_16 : decode (m_M_layCode).2.1 16 = .ok (.istore 4, 2) := by decide +kernel
theorem d_M_layCode_18 : decode (m_M_layCode).2.1 18 = .ok (.iload 4, 2) := by decide +kernel
theorem d_M_layCode_20 : decode (m_M_layCode).2.1 20 = .ok (.iconst 4, 1) := by decide +kernel
theorem d_M_layCode_21 : decode (m_M_layCode).2.1 21 = .ok (.if_icmp .ge 17, 3) := by decide +kernel
theorem d_M_layCode_24 : decode (m_M_layCode).2.1 24 = .ok (.aload_n 0, 1) := by decide +kernel
theorem d_M_layCode_25 : decode (m_M_layCode).2.1 25 = .ok (.getfield 19, 3) := by decide +kernel
theorem d_M_layCode_28 : decode (m_M_layCode).2.1 28 = .ok (.iload 4, 2) := by decide +kernel
theorem d_M_layCode_30 : decode (m_M_layCode).2.1 30 = .ok (.iconst 0, 1) := by decide +kernel
theorem d_M_layCode_31 : decode (m_M_layCode).2.1 31 = .ok (.iastore, 1) := by decide +kernel
theorem d_M_layCode_32 : decode (m_M_layCode).2.1 32 = .ok (.iinc 4 1, 3) := by decide +kernel
theorem d_M_layCode_35 : decode (m_M_layCode).2.1 35 = .ok (.goto (-17), 3) := by decide +kernel
theorem d_M_layCode_38 : decode (m_M_layCode).2.1 38 = .ok (.iconst 0, 1) := by decide +kernel
theorem d_M_layCode_39 : decode (m_M_layCode).2.1 39 = .ok (.istore 4, 2) := by decide +kernel
theorem d_M_layCode_41 : decode (m_M_layCode).2.1 41 = .ok (.iload 4, 2) := by decide +kernel
theorem d_M_layCode_43 : decode (m_M_layCode).2.1 43 = .ok (.bipush 20, 2) := by decide +kernel
theorem d_M_layCode_45 : decode (m_M_layCode).2.1 45 = .ok (.if_icmp .ge 42, 3) := by decide +kernel
theorem d_M_layCode_48 : decode (m_M_layCode).2.1 48 = .ok (.aload_n 0, 1) := by decide +kernel
theorem d_M_layCode_49 : decode (m_M_layCode).2.1 49 = .ok (.getfield 22, 3) := by decide +kernel
theorem d_M_layCode_52 : decode (m_M_layCode).2.1 52 = .ok (.iload 4, 2) := by decide +kernel
theorem d_M_layCode_54 : decode (m_M_layCode).2.1 54 = .ok (.iconst 0, 1) := by decide +kernel
theorem d_M_layCode_55 : decode (m_M_layCode).2.1 55 = .ok (.iastore, 1) := by decide +kernel
theorem d_M_layCode_56 : decode (m_M_layCode).2.1 56 = .ok (.aload_n 0, 1) := by decide +kernel
theorem d_M_layCode_57 : decode (m_M_layCode).2.1 57 = .ok (.getfield 25, 3) := by decide +kernel
theorem d_M_layCode_60 : decode (m_M_layCode).2.1 60 = .ok (.iload 4, 2) := by decide +kernel
theorem d_M_layCode_62 : decode (m_M_layCode).2.1 62 = .ok (.iconst 0, 1) := by decide +kernel
theorem d_M_layCode_63 : decode (m_M_layCode).2.1 63 = .ok (.bastore, 1) := by decide +kernel
theorem d_M_layCode_64 : decode (m_M_layCode).2.1 64 = .ok (.aload_n 0, 1) := by decide +kernel
theorem d_M_layCode_65 : decode (m_M_layCode).2.1 65 = .ok (.getfield 16, 3) := by decide +kernel
theorem d_M_layCode_68 : decode (m_M_layCode).2.1 68 = .ok (.iload 4, 2) := by decide +kernel
theorem d_M_layCode_70 : decode (m_M_layCode).2.1 70 = .ok (.iload 4, 2) := by decide +kernel
theorem d_M_layCode_72 : decode (m_M_layCode).2.1 72 = .ok (.ifCond .ne 7, 3) := by decide +kernel
theorem d_M_layCode_75 : decode (m_M_layCode).2.1 75 = .ok (.iconst 1, 1) := by decide +kernel
theorem d_M_layCode_76 : decode (m_M_layCode).2.1 76 = .ok (.goto 4, 3) := by decide +kernel
theorem d_M_layCode_79 : decode (m_M_layCode).2.1 79 = .ok (.iconst 0, 1) := by decide +kernel
theorem d_M_layCode_80 : decode (m_M_layCode).2.1 80 = .ok (.iastore, 1) := by decide +kernel
theorem d_M_layCode_81 : decode (m_M_layCode).2.1 81 = .ok (.iinc 4 1, 3) := by decide +kernel
theorem d_M_layCode_84 : decode (m_M_layCode).2.1 84 = .ok (.goto (-43), 3) := by decide +kernel
theorem d_M_layCode_87 : decode (m_M_layCode).2.1 87 = .ok (.iconst 1, 1) := by decide +kernel
theorem d_M_layCode_88 : decode (m_M_layCode).2.1 88 = .ok (.istore 4, 2) := by decide +kernel
theorem d_M_layCode_90 : decode (m_M_layCode).2.1 90 = .ok (.iload 4, 2) := by decide +kernel
theorem d_M_layCode_92 : decode (m_M_layCode).2.1 92 = .ok (.aload_n 0, 1) := by decide +kernel
theorem d_M_layCode_93 : decode (m_M_layCode).2.1 93 = .ok (.getfield 87, 3) := by decide +kernel
theorem d_M_layCode_96 : decode (m_M_layCode).2.1 96 = .ok (.aload_n 0, 1) := by decide +kernel
theorem d_M_layCode_97 : decode (m_M_layCode).2.1 97 = .ok (.getfield 90, 3) := by decide +kernel
theorem d_M_layCode_100 : decode (m_M_layCode).2.1 100 = .ok (.isub, 1) := by decide +kernel
theorem d_M_layCode_101 : decode (m_M_layCode).2.1 101 = .ok (.if_icmp .gt 73, 3) := by decide +kernel
theorem d_M_layCode_104 : decode (m_M_layCode).2.1 104 = .ok (.iload 4, 2) := by decide +kernel
theorem d_M_layCode_106 : decode (m_M_layCode).2.1 106 = .ok (.istore 5, 2) := by decide +kernel
theorem d_M_layCode_108 : decode (m_M_layCode).2.1 108 = .ok (.iload 5, 2) := by decide +kernel
theorem d_M_layCode_110 : decode (m_M_layCode).2.1 110 = .ok (.ifCond .lt 58, 3) := by decide +kernel
theorem d_M_layCode_113 : decode (m_M_layCode).2.1 113 = .ok (.aload_n 0, 1) := by decide +kernel
theorem d_M_layCode_114 : decode (m_M_layCode).2.1 114 = .ok (.getfield 16, 3) := by decide +kernel
theorem d_M_layCode_117 : decode (m_M_layCode).2.1 117 = .ok (.iload 5, 2) := by decide +kernel
theorem d_M_layCode_119 : decode (m_M_layCode).2.1 119 = .ok (.aload_n 0, 1) := by decide +kernel
theorem d_M_layCode_120 : decode (m_M_layCode).2.1 120 = .ok (.getfield 7, 3) := by decide +kernel
theorem d_M_layCode_123 : decode (m_M_layCode).2.1 123 = .ok (.bipush 32, 2) := by decide +kernel
theorem d_M_layCode_125 : decode (m_M_layCode).2.1 125 = .ok (.aload_n 0, 1) := by decide +kernel
theorem d_M_layCode_126 : decode (m_M_layCode).2.1 126 = .ok (.getfield 16, 3) := by decide +kernel
theorem d_M_layCode_129 : decode (m_M_layCode).2.1 129 = .ok (.iload 5, 2) := by decide +kernel
theorem d_M_layCode_131 : decode (m_M_layCode).2.1 131 = .ok (.iaload, 1) := by decide +kernel
theorem d_M_layCode_132 : decode (m_M_layCode).2.1 132 = .ok (.imul, 1) := by decide +kernel
theorem d_M_layCode_133 : decode (m_M_layCode).2.1 133 = .ok (.aload_n 0, 1) := by decide +kernel
theorem d_M_layCode_134 : decode (m_M_layCode).2.1 134 = .ok (.getfield 13, 3) := by decide +kernel
theorem d_M_layCode_137 : decode (m_M_layCode).2.1 137 = .ok (.iload 4, 2) := by decide +kernel
theorem d_M_layCode_139 : decode (m_M_layCode).2.1 139 = .ok (.iaload, 1) := by decide +kernel
theorem d_M_layCode_140 : decode (m_M_layCode).2.1 140 = .ok (.iadd, 1) := by decide +kernel
theorem d_M_layCode_141 : decode (m_M_layCode).2.1 141 = .ok (.iaload, 1) := by decide +kernel
theorem d_M_layCode_142 : decode (m_M_layCode).2.1 142 = .ok (.iload 5, 2) := by decide +kernel
theorem d_M_layCode_144 : decode (m_M_layCode).2.1 144 = .ok (.ifCond .le 15, 3) := by decide +kernel
theorem d_M_layCode_147 : decode (m_M_layCode).2.1 147 = .ok (.aload_n 0, 1) := by decide +kernel
theorem d_M_layCode_148 : decode (m_M_layCode).2.1 148 = .ok (.getfield 16, 3) := by decide +kernel
theorem d_M_layCode_151 : decode (m_M_layCode).2.1 151 = .ok (.iload 5, 2) := by decide +kernel
theorem d_M_layCode_153 : decode (m_M_layCode).2.1 153 = .ok (.iconst 1, 1) := by decide +kernel
theorem d_M_layCode_154 : decode (m_M_layCode).2.1 154 = .ok (.isub, 1) := by decide +kernel
theorem d_M_layCode_155 : decode (m_M_layCode).2.1 155 = .ok (.iaload, 1) := by decide +kernel
theorem d_M_layCode_156 : decode (m_M_layCode).2.1 156 = .ok (.goto 4, 3) := by decide +kernel
theorem d_M_layCode_159 : decode (m_M_layCode).2.1 159 = .ok (.iconst 0, 1) := by decide +kernel
theorem d_M_layCode_160 : decode (m_M_layCode).2.1 160 = .ok (.ixor, 1) := by decide +kernel
theorem d_M_layCode_161 : decode (m_M_layCode).2.1 161 = .ok (.iastore, 1) := by decide +kernel
theorem d_M_layCode_162 : decode (m_M_layCode).2.1 162 = .ok (.iinc 5 (-1), 3) := by decide +kernel
theorem d_M_layCode_165 : decode (m_M_layCode).2.1 165 = .ok (.goto (-57), 3) := by decide +kernel
theorem d_M_layCode_168 : decode (m_M_layCode).2.1 168 = .ok (.iinc 4 1, 3) := by decide +kernel
theorem d_M_layCode_171 : decode (m_M_layCode).2.1 171 = .ok (.goto (-81), 3) := by decide +kernel
theorem d_M_layCode_174 : decode (m_M_layCode).2.1 174 = .ok (.aload_n 0, 1) := by decide +kernel
theorem d_M_layCode_175 : decode (m_M_layCode).2.1 175 = .ok (.iconst (-1), 1) := by decide +kernel
theorem d_M_layCode_176 : decode (m_M_layCode).2.1 176 = .ok (.putfield 93, 3) := by decide +kernel
theorem d_M_layCode_179 : decode (m_M_layCode).2.1 179 = .ok (.aload_n 0, 1) := by decide +kernel
theorem d_M_layCode_180 : decode (m_M_layCode).2.1 180 = .ok (.iconst 0, 1) := by decide +kernel
theorem d_M_layCode_181 : decode (m_M_layCode).2.1 181 = .ok (.putfield 96, 3) := by decide +kernel
theorem d_M_layCode_184 : decode (m_M_layCode).2.1 184 = .ok (.return_, 1) := by decide +kernel
theorem d_M_code_0 : decode (m_M_code).2.1 0 = .ok (.iload_n 3, 1) := by decide +kernel
theorem d_M_code_1 : decode (m_M_code).2.1 1 = .ok (.iconst 2, 1) := by decide +kernel
theorem d_M_code_2 : decode (m_M_code).2.1 2 = .ok (.if_icmp .lt 37, 3) := by decide +kernel
theorem d_M_code_5 : decode (m_M_code).2.1 5 = .ok (.iload_n 3, 1) := by decide +kernel
theorem d_M_code_6 : decode (m_M_code).2.1 6 = .ok (.iload_n 2, 1) := by decide +kernel
theorem d_M_code_7 : decode (m_M_code).2.1 7 = .ok (.if_icmp .ge 32, 3) := by decide +kernel
theorem d_M_code_10 : decode (m_M_code).2.1 10 = .ok (.iload_n 2, 1) := by decide +kernel
theorem d_M_code_11 : decode (m_M_code).2.1 11 = .ok (.aload_n 0, 1) := by decide +kernel
theorem d_M_code_12 : decode (m_M_code).2.1 12 = .ok (.getfield 65, 3) := by decide +kernel
theorem d_M_code_15 : decode (m_M_code).2.1 15 = .ok (.if_icmp .ge 24, 3) := by decide +kernel
theorem d_M_code_18 : decode (m_M_code).2.1 18 = .ok (.iload_n 2, 1) := by decide +kernel
theorem d_M_code_19 : decode (m_M_code).2.1 19 = .ok (.bipush 20, 2) := by decide +kernel
theorem d_M_code_21 : decode (m_M_code).2.1 21 = .ok (.if_icmp .gt 18, 3) := by decide +kernel
theorem d_M_code_24 : decode (m_M_code).2.1 24 = .ok (.aload_n 0, 1) := by decide +kernel
theorem d_M_code_25 : decode (m_M_code).2.1 25 = .ok (.getfield 61, 3) := by decide +kernel
theorem d_M_code_28 : decode (m_M_code).2.1 28 = .ok (.iload_n 3, 1) := by decide +kernel
theorem d_M_code_29 : decode (m_M_code).2.1 29 = .ok (.imul, 1) := by decide +kernel
theorem d_M_code_30 : decode (m_M_code).2.1 30 = .ok (.bipush 12, 2) := by decide +kernel
theorem d_M_code_32 : decode (m_M_code).2.1 32 = .ok (.if_icmp .gt 7, 3) := by decide +kernel
theorem d_M_code_35 : decode (m_M_code).2.1 35 = .ok (.iconst 1, 1) := by decide +kernel
theorem d_M_code_36 : decode (m_M_code).2.1 36 = .ok (.goto 4, 3) := by decide +kernel
theorem d_M_code_39 : decode (m_M_code).2.1 39 = .ok (.iconst 0, 1) := by decide +kernel
theorem d_M_code_40 : decode (m_M_code).2.1 40 = .ok (.istore 4, 2) := by decide +kernel
theorem d_M_code_42 : decode (m_M_code).2.1 42 = .ok (.iload_n 1, 1) := by decide +kernel
theorem d_M_code_43 : decode (m_M_code).2.1 43 = .ok (.ifCond .lt 13, 3) := by decide +kernel
theorem d_M_code_46 : decode (m_M_code).2.1 46 = .ok (.iload_n 1, 1) := by decide +kernel
theorem d_M_code_47 : decode (m_M_code).2.1 47 = .ok (.iconst 1, 1) := by decide +kernel
theorem d_M_code_48 : decode (m_M_code).2.1 48 = .ok (.if_icmp .gt 8, 3) := by decide +kernel
theorem d_M_code_51 : decode (m_M_code).2.1 51 = .ok (.iload 4, 2) := by decide +kernel
theorem d_M_code_53 : decode (m_M_code).2.1 53 = .ok (.ifCond .ne 5, 3) := by decide +kernel
theorem d_M_code_56 : decode (m_M_code).2.1 56 = .ok (.iconst 0, 1) := by decide +kernel
theorem d_M_code_57 : decode (m_M_code).2.1 57 = .ok (.ireturn, 1) := by decide +kernel
theorem d_M_code_58 : decode (m_M_code).2.1 58 = .ok (.aload_n 0, 1) := by decide +kernel
theorem d_M_code_59 : decode (m_M_code).2.1 59 = .ok (.iload_n 1, 1) := by decide +kernel
theorem d_M_code_60 : decode (m_M_code).2.1 60 = .ok (.iload_n 2, 1) := by decide +kernel
theorem d_M_code_61 : decode (m_M_code).2.1 61 = .ok (.iload_n 3, 1) := by decide +kernel
theorem d_M_code_62 : decode (m_M_code).2.1 62 = .ok (.invokevirtual 57, 3) := by decide +kernel
theorem d_M_code_65 : decode (m_M_code).2.1 65 = .ok (.iconst 1, 1) := by decide +kernel
theorem d_M_code_66 : decode (m_M_code).2.1 66 = .ok (.ireturn, 1) := by decide +kernel
theorem d_M_tell_0 : decode (m_M_tell).2.1 0 = .ok (.iload_n 1, 1) := by decide +kernel
theorem d_M_tell_1 : decode (m_M_tell).2.1 1 = .ok (.ifCond .lt 19, 3) := by decide +kernel
theorem d_M_tell_4 : decode (m_M_tell).2.1 4 = .ok (.iload_n 1, 1) := by decide +kernel
theorem d_M_tell_5 : decode (m_M_tell).2.1 5 = .ok (.aload_n 0, 1) := by decide +kernel
theorem d_M_tell_6 : decode (m_M_tell).2.1 6 = .ok (.getfield 90, 3) := by decide +kernel
theorem d_M_tell_9 : decode (m_M_tell).2.1 9 = .ok (.if_icmp .ge 11, 3) := by decide +kernel
theorem d_M_tell_12 : decode (m_M_tell).2.1 12 = .ok (.aload_n 0, 1) := by decide +kernel
theorem d_M_tell_13 : decode (m_M_tell).2.1 13 = .ok (.iload_n 2, 1) := by decide +kernel
theorem d_M_tell_14 : decode (m_M_tell).2.1 14 = .ok (.invokevirtual 76, 3) := by decide +kernel
theorem d_M_tell_17 : decode (m_M_tell).2.1 17 = .ok (.ifCond .ne 5, 3) := by decide +kernel
theorem d_M_tell_20 : decode (m_M_tell).2.1 20 = .ok (.iconst 0, 1) := by decide +kernel
theorem d_M_tell_21 : decode (m_M_tell).2.1 21 = .ok (.ireturn, 1) := by decide +kernel
theorem d_M_tell_22 : decode (m_M_tell).2.1 22 = .ok (.aload_n 0, 1) := by decide +kernel
theorem d_M_tell_23 : decode (m_M_tell).2.1 23 = .ok (.getfield 19, 3) := by decide +kernel
theorem d_M_tell_26 : decode (m_M_tell).2.1 26 = .ok (.iload_n 1, 1) := by decide +kernel
theorem d_M_tell_27 : decode (m_M_tell).2.1 27 = .ok (.iload_n 2, 1) := by decide +kernel
theorem d_M_tell_28 : decode (m_M_tell).2.1 28 = .ok (.iastore, 1) := by decide +kernel
theorem d_M_tell_29 : decode (m_M_tell).2.1 29 = .ok (.iconst 1, 1) := by decide +kernel
theorem d_M_tell_30 : decode (m_M_tell).2.1 30 = .ok (.ireturn, 1) := by decide +kernel
theorem d_M_told_0 : decode (m_M_told).2.1 0 = .ok (.iload_n 1, 1) := by decide +kernel
theorem d_M_told_1 : decode (m_M_told).2.1 1 = .ok (.aload_n 0, 1) := by decide +kernel
theorem d_M_told_2 : decode (m_M_told).2.1 2 = .ok (.getfield 61, 3) := by decide +kernel
theorem d_M_told_5 : decode (m_M_told).2.1 5 = .ok (.iload_n 2, 1) := by decide +kernel
theorem d_M_told_6 : decode (m_M_told).2.1 6 = .ok (.imul, 1) := by decide +kernel
theorem d_M_told_7 : decode (m_M_told).2.1 7 = .ok (.ishr, 1) := by decide +kernel
theorem d_M_told_8 : decode (m_M_told).2.1 8 = .ok (.aload_n 0, 1) := by decide +kernel
theorem d_M_told_9 : decode (m_M_told).2.1 9 = .ok (.getfield 65, 3) := by decide +kernel
theorem d_M_told_12 : decode (m_M_told).2.1 12 = .ok (.iconst 1, 1) := by decide +kernel
theorem d_M_told_13 : decode (m_M_told).2.1 13 = .ok (.isub, 1) := by decide +kernel
theorem d_M_told_14 : decode (m_M_told).2.1 14 = .ok (.iand, 1) := by decide +kernel
theorem d_M_told_15 : decode (m_M_told).2.1 15 = .ok (.ireturn, 1) := by decide +kernel
theorem d_M_messages_0 : decode (m_M_messages).2.1 0 = .ok (.iconst 1, 1) := by decide +kernel
theorem d_M_messages_1 : decode (m_M_messages).2.1 1 = .ok (.aload_n 0, 1) := by decide +kernel
theorem d_M_messages_2 : decode (m_M_messages).2.1 2 = .ok (.getfield 61, 3) := by decide +kernel
theorem d_M_messages_5 : decode (m_M_messages).2.1 5 = .ok (.aload_n 0, 1) := by decide +kernel
theorem d_M_messages_6 : decode (m_M_messages).2.1 6 = .ok (.getfield 90, 3) := by decide +kernel
theorem d_M_messages_9 : decode (m_M_messages).2.1 9 = .ok (.imul, 1) := by decide +kernel
theorem d_M_messages_10 : decode (m_M_messages).2.1 10 = .ok (.ishl, 1) := by decide +kernel
theorem d_M_messages_11 : decode (m_M_messages).2.1 11 = .ok (.ireturn, 1) := by decide +kernel
theorem d_M_element_0 : decode (m_M_element).2.1 0 = .ok (.iconst 0, 1) := by decide +kernel
theorem d_M_element_1 : decode (m_M_element).2.1 1 = .ok (.istore_n 3, 1) := by decide +kernel
theorem d_M_element_2 : decode (m_M_element).2.1 2 = .ok (.aload_n 0, 1) := by decide +kernel
theorem d_M_element_3 : decode (m_M_element).2.1 3 = .ok (.getfield 84, 3) := by decide +kernel
theorem d_M_element_6 : decode (m_M_element).2.1 6 = .ok (.ifCond .ne 49, 3) := by decide +kernel
theorem d_M_element_9 : decode (m_M_element).2.1 9 = .ok (.aload_n 0, 1) := by decide +kernel
theorem d_M_element_10 : decode (m_M_element).2.1 10 = .ok (.getfield 90, 3) := by decide +kernel
theorem d_M_element_13 : decode (m_M_element).2.1 13 = .ok (.iconst 1, 1) := by decide +kernel
theorem d_M_element_14 : decode (m_M_element).2.1 14 = .ok (.isub, 1) := by decide +kernel
theorem d_M_element_15 : decode (m_M_element).2.1 15 = .ok (.istore 4, 2) := by decide +kernel
theorem d_M_element_17 : decode (m_M_element).2.1 17 = .ok (.iload 4, 2) := by decide +kernel
theorem d_M_element_19 : decode (m_M_element).2.1 19 = .ok (.ifCond .lt 34, 3) := by decide +kernel
theorem d_M_element_22 : decode (m_M_element).2.1 22 = .ok (.aload_n 0, 1) := by decide +kernel
theorem d_M_element_23 : decode (m_M_element).2.1 23 = .ok (.getfield 7, 3) := by decide +kernel
theorem d_M_element_26 : decode (m_M_element).2.1 26 = .ok (.bipush 32, 2) := by decide +kernel
theorem d_M_element_28 : decode (m_M_element).2.1 28 = .ok (.iload_n 3, 1) := by decide +kernel
theorem d_M_element_29 : decode (m_M_element).2.1 29 = .ok (.imul, 1) := by decide +kernel
theorem d_M_element_30 : decode (m_M_element).2.1 30 = .ok (.aload_n 0, 1) := by decide +kernel
theorem d_M_element_31 : decode (m_M_element).2.1 31 = .ok (.getfield 13, 3) := by decide +kernel
theorem d_M_element_34 : decode (m_M_element).2.1 34 = .ok (.iload_n 2, 1) := by decide +kernel
theorem d_M_element_35 : decode (m_M_element).2.1 35 = .ok (.iaload, 1) := by decide +kernel
theorem d_M_element_36 : decode (m_M_element).2.1 36 = .ok (.iadd, 1) := by decide +kernel
theorem d_M_element_37 : decode (m_M_element).2.1 37 = .ok (.iaload, 1) := by decide +kernel
theorem d_M_element_38 : decode (m_M_element).2.1 38 = .ok (.aload_n 0, 1) := by decide +kernel
theorem d_M_element_39 : decode (m_M_element).2.1 39 = .ok (.iload_n 1, 1) := by decide +kernel
theorem d_M_element_40 : decode (m_M_element).2.1 40 = .ok (.iload 4, 2) := by decide +kernel
theorem d_M_element_42 : decode (m_M_element).2.1 42 = .ok (.invokevirtual 99, 3) := by decide +kernel
theorem d_M_element_45 : decode (m_M_element).2.1 45 = .ok (.ixor, 1) := by decide +kernel
theorem d_M_element_46 : decode (m_M_element).2.1 46 = .ok (.istore_n 3, 1) := by decide +kernel
theorem d_M_element_47 : decode (m_M_element).2.1 47 = .ok (.iinc 4 (-1), 3) := by decide +kernel
theorem d_M_element_50 : decode (m_M_element).2.1 50 = .ok (.goto (-33), 3) := by decide +kernel
theorem d_M_element_53 : decode (m_M_element).2.1 53 = .ok (.iload_n 3, 1) := by decide +kernel
theorem d_M_element_54 : decode (m_M_element).2.1 54 = .ok (.ireturn, 1) := by decide +kernel
theorem d_M_element_55 : decode (m_M_element).2.1 55 = .ok (.iconst 0, 1) := by decide +kernel
theorem d_M_element_56 : decode (m_M_element).2.1 56 = .ok (.istore 4, 2) := by decide +kernel
theorem d_M_element_58 : decode (m_M_element).2.1 58 = .ok (.iload 4, 2) := by decide +kernel
theorem d_M_element_60 : decode (m_M_element).2.1 60 = .ok (.aload_n 0, 1) := by decide +kernel
theorem d_M_element_61 : decode (m_M_element).2.1 61 = .ok (.getfield 90, 3) := by decide +kernel
theorem d_M_element_64 : decode (m_M_element).2.1 64 = .ok (.if_icmp .ge 64, 3) := by decide +kernel
theorem d_M_element_67 : decode (m_M_element).2.1 67 = .ok (.iload_n 2, 1) := by decide +kernel
theorem d_M_element_68 : decode (m_M_element).2.1 68 = .ok (.iload 4, 2) := by decide +kernel
theorem d_M_element_70 : decode (m_M_element).2.1 70 = .ok (.isub, 1) := by decide +kernel
theorem d_M_element_71 : decode (m_M_element).2.1 71 = .ok (.ifCond .lt 49, 3) := by decide +kernel
theorem d_M_element_74 : decode (m_M_element).2.1 74 = .ok (.iload_n 2, 1) := by decide +kernel
theorem d_M_element_75 : decode (m_M_element).2.1 75 = .ok (.iload 4, 2) := by decide +kernel
theorem d_M_element_77 : decode (m_M_element).2.1 77 = .ok (.isub, 1) := by decide +kernel
theorem d_M_element_78 : decode (m_M_element).2.1 78 = .ok (.aload_n 0, 1) := by decide +kernel
theorem d_M_element_79 : decode (m_M_element).2.1 79 = .ok (.getfield 87, 3) := by decide +kernel
theorem d_M_element_82 : decode (m_M_element).2.1 82 = .ok (.aload_n 0, 1) := by decide +kernel
theorem d_M_element_83 : decode (m_M_element).2.1 83 = .ok (.getfield 90, 3) := by decide +kernel
theorem d_M_element_86 : decode (m_M_element).2.1 86 = .ok (.isub, 1) := by decide +kernel
theorem d_M_element_87 : decode (m_M_element).2.1 87 = .ok (.if_icmp .gt 33, 3) := by decide +kernel
theorem d_M_element_90 : decode (m_M_element).2.1 90 = .ok (.iload_n 3, 1) := by decide +kernel
theorem d_M_element_91 : decode (m_M_element).2.1 91 = .ok (.aload_n 0, 1) := by decide +kernel
theorem d_M_element_92 : decode (m_M_element).2.1 92 = .ok (.getfield 7, 3) := by decide +kernel
theorem d_M_element_95 : decode (m_M_element).2.1 95 = .ok (.bipush 32, 2) := by decide +kernel
theorem d_M_element_97 : decode (m_M_element).2.1 97 = .ok (.aload_n 0, 1) := by decide +kernel
theorem d_M_element_98 : decode (m_M_element).2.1 98 = .ok (.iload_n 1, 1) := by decide +kernel
theorem d_M_element_99 : decode (m_M_element).2.1 99 = .ok (.iload 4, 2) := by decide +kernel
theorem d_M_element_101 : decode (m_M_element).2.1 101 = .ok (.invokevirtual 99, 3) := by decide +kernel
theorem d_M_element_104 : decode (m_M_element).2.1 104 = .ok (.imul, 1) := by decide +kernel
theorem d_M_element_105 : decode (m_M_element).2.1 105 = .ok (.aload_n 0, 1) := by decide +kernel
theorem d_M_element_106 : decode (m_M_element).2.1 106 = .ok (.getfield 16, 3) := by decide +kernel
theorem d_M_element_109 : decode (m_M_element).2.1 109 = .ok (.iload_n 2, 1) := by decide +kernel
theorem d_M_element_110 : decode (m_M_element).2.1 110 = .ok (.iload 4, 2) := by decide +kernel
theorem d_M_element_112 : decode (m_M_element).2.1 112 = .ok (.isub, 1) := by decide +kernel
theorem d_M_element_113 : decode (m_M_element).2.1 113 = .ok (.iaload, 1) := by decide +kernel
theorem d_M_element_114 : decode (m_M_element).2.1 114 = .ok (.iadd, 1) := by decide +kernel
theorem d_M_element_115 : decode (m_M_element).2.1 115 = .ok (.iaload, 1) := by decide +kernel
theorem d_M_element_116 : decode (m_M_element).2.1 116 = .ok (.ixor, 1) := by decide +kernel
theorem d_M_element_117 : decode (m_M_element).2.1 117 = .ok (.goto 4, 3) := by decide +kernel
theorem d_M_element_120 : decode (m_M_element).2.1 120 = .ok (.iload_n 3, 1) := by decide +kernel
theorem d_M_element_121 : decode (m_M_element).2.1 121 = .ok (.istore_n 3, 1) := by decide +kernel
theorem d_M_element_122 : decode (m_M_element).2.1 122 = .ok (.iinc 4 1, 3) := by decide +kernel
theorem d_M_element_125 : decode (m_M_element).2.1 125 = .ok (.goto (-67), 3) := by decide +kernel
theorem d_M_element_128 : decode (m_M_element).2.1 128 = .ok (.iload_n 3, 1) := by decide +kernel
theorem d_M_element_129 : decode (m_M_element).2.1 129 = .ok (.ireturn, 1) := by decide +kernel
theorem d_M_makeRow_0 : decode (m_M_makeRow).2.1 0 = .ok (.iconst 0, 1) := by decide +kernel
theorem d_M_makeRow_1 : decode (m_M_makeRow).2.1 1 = .ok (.istore_n 2, 1) := by decide +kernel
theorem d_M_makeRow_2 : decode (m_M_makeRow).2.1 2 = .ok (.iload_n 2, 1) := by decide +kernel
theorem d_M_makeRow_3 : decode (m_M_makeRow).2.1 3 = .ok (.aload_n 0, 1) := by decide +kernel
theorem d_M_makeRow_4 : decode (m_M_makeRow).2.1 4 = .ok (.getfield 87, 3) := by decide +kernel
theorem d_M_makeRow_7 : decode (m_M_makeRow).2.1 7 = .ok (.if_icmp .ge 21, 3) := by decide +kernel
theorem d_M_makeRow_10 : decode (m_M_makeRow).2.1 10 = .ok (.aload_n 0, 1) := by decide +kernel
theorem d_M_makeRow_11 : decode (m_M_makeRow).2.1 11 = .ok (.getfield 29, 3) := by decide +kernel
theorem d_M_makeRow_14 : decode (m_M_makeRow).2.1 14 = .ok (.iload_n 2, 1) := by decide +kernel
theorem d_M_makeRow_15 : decode (m_M_makeRow).2.1 15 = .ok (.aload_n 0, 1) := by decide +kernel
theorem d_M_makeRow_16 : decode (m_M_makeRow).2.1 16 = .ok (.iload_n 1, 1) := by decide +kernel
theorem d_M_makeRow_17 : decode (m_M_makeRow).2.1 17 = .ok (.iload_n 2, 1) := by decide +kernel
theorem d_M_makeRow_18 : decode (m_M_makeRow).2.1 18 = .ok (.invokevirtual 102, 3) := by decide +kernel
theorem d_M_makeRow_21 : decode (m_M_makeRow).2.1 21 = .ok (.iastore, 1) := by decide +kernel
theorem d_M_makeRow_22 : decode (m_M_makeRow).2.1 22 = .ok (.iinc 2 1, 3) := by decide +kernel
theorem d_M_makeRow_25 : decode (m_M_makeRow).2.1 25 = .ok (.goto (-23), 3) := by decide +kernel
theorem d_M_makeRow_28 : decode (m_M_makeRow).2.1 28 = .ok (.return_, 1) := by decide +kernel
theorem d_M_chosen_0 : decode (m_M_chosen).2.1 0 = .ok (.iconst 0, 1) := by decide +kernel
theorem d_M_chosen_1 : decode (m_M_chosen).2.1 1 = .ok (.istore_n 2, 1) := by decide +kernel
theorem d_M_chosen_2 : decode (m_M_chosen).2.1 2 = .ok (.aload_n 0, 1) := by decide +kernel
theorem d_M_chosen_3 : decode (m_M_chosen).2.1 3 = .ok (.getfield 90, 3) := by decide +kernel
theorem d_M_chosen_6 : decode (m_M_chosen).2.1 6 = .ok (.iconst 1, 1) := by decide +kernel
theorem d_M_chosen_7 : decode (m_M_chosen).2.1 7 = .ok (.isub, 1) := by decide +kernel
theorem d_M_chosen_8 : decode (m_M_chosen).2.1 8 = .ok (.istore_n 3, 1) := by decide +kernel
theorem d_M_chosen_9 : decode (m_M_chosen).2.1 9 = .ok (.iload_n 3, 1) := by decide +kernel
theorem d_M_chosen_10 : decode (m_M_chosen).2.1 10 = .ok (.ifCond .lt 23, 3) := by decide +kernel
theorem d_M_chosen_13 : decode (m_M_chosen).2.1 13 = .ok (.iload_n 2, 1) := by decide +kernel
theorem d_M_chosen_14 : decode (m_M_chosen).2.1 14 = .ok (.aload_n 0, 1) := by decide +kernel
theorem d_M_chosen_15 : decode (m_M_chosen).2.1 15 = .ok (.getfield 61, 3) := by decide +kernel
theorem d_M_chosen_18 : decode (m_M_chosen).2.1 18 = .ok (.ishl, 1) := by decide +kernel
theorem d_M_chosen_19 : decode (m_M_chosen).2.1 19 = .ok (.aload_n 0, 1) := by decide +kernel
theorem d_M_chosen_20 : decode (m_M_chosen).2.1 20 = .ok (.getfield 19, 3) := by decide +kernel
theorem d_M_chosen_23 : decode (m_M_chosen).2.1 23 = .ok (.iload_n 3, 1) := by decide +kernel
theorem d_M_chosen_24 : decode (m_M_chosen).2.1 24 = .ok (.iaload, 1) := by decide +kernel
theorem d_M_chosen_25 : decode (m_M_chosen).2.1 25 = .ok (.ior, 1) := by decide +kernel
theorem d_M_chosen_26 : decode (m_M_chosen).2.1 26 = .ok (.istore_n 2, 1) := by decide +kernel
theorem d_M_chosen_27 : decode (m_M_chosen).2.1 27 = .ok (.iinc 3 (-1), 3) := by decide +kernel
theorem d_M_chosen_30 : decode (m_M_chosen).2.1 30 = .ok (.goto (-21), 3) := by decide +kernel
theorem d_M_chosen_33 : decode (m_M_chosen).2.1 33 = .ok (.iload_n 1, 1) := by decide +kernel
theorem d_M_chosen_34 : decode (m_M_chosen).2.1 34 = .ok (.ifCond .ne 5, 3) := by decide +kernel
theorem d_M_chosen_37 : decode (m_M_chosen).2.1 37 = .ok (.iload_n 2, 1) := by decide +kernel
theorem d_M_chosen_38 : decode (m_M_chosen).2.1 38 = .ok (.ireturn, 1) := by decide +kernel
theorem d_M_chosen_39 : decode (m_M_chosen).2.1 39 = .ok (.iconst 0, 1) := by decide +kernel
theorem d_M_chosen_40 : decode (m_M_chosen).2.1 40 = .ok (.istore_n 3, 1) := by decide +kernel
theorem d_M_chosen_41 : decode (m_M_chosen).2.1 41 = .ok (.iload_n 3, 1) := by decide +kernel
theorem d_M_chosen_42 : decode (m_M_chosen).2.1 42 = .ok (.aload_n 0, 1) := by decide +kernel
theorem d_M_chosen_43 : decode (m_M_chosen).2.1 43 = .ok (.invokevirtual 105, 3) := by decide +kernel
theorem d_M_chosen_46 : decode (m_M_chosen).2.1 46 = .ok (.if_icmp .ge 76, 3) := by decide +kernel
theorem d_M_chosen_49 : decode (m_M_chosen).2.1 49 = .ok (.iconst 1, 1) := by decide +kernel
theorem d_M_chosen_50 : decode (m_M_chosen).2.1 50 = .ok (.istore 4, 2) := by decide +kernel
theorem d_M_chosen_52 : decode (m_M_chosen).2.1 52 = .ok (.iconst 0, 1) := by decide +kernel
theorem d_M_chosen_53 : decode (m_M_chosen).2.1 53 = .ok (.istore 5, 2) := by decide +kernel
theorem d_M_chosen_55 : decode (m_M_chosen).2.1 55 = .ok (.iload 5, 2) := by decide +kernel
theorem d_M_chosen_57 : decode (m_M_chosen).2.1 57 = .ok (.aload_n 0, 1) := by decide +kernel
theorem d_M_chosen_58 : decode (m_M_chosen).2.1 58 = .ok (.getfield 90, 3) := by decide +kernel
theorem d_M_chosen_61 : decode (m_M_chosen).2.1 61 = .ok (.if_icmp .ge 48, 3) := by decide +kernel
theorem d_M_chosen_64 : decode (m_M_chosen).2.1 64 = .ok (.iload 4, 2) := by decide +kernel
theorem d_M_chosen_66 : decode (m_M_chosen).2.1 66 = .ok (.ifCond .eq 43, 3) := by decide +kernel
theorem d_M_chosen_69 : decode (m_M_chosen).2.1 69 = .ok (.aload_n 0, 1) := by decide +kernel
theorem d_M_chosen_70 : decode (m_M_chosen).2.1 70 = .ok (.iload_n 3, 1) := by decide +kernel
theorem d_M_chosen_71 : decode (m_M_chosen).2.1 71 = .ok (.aload_n 0, 1) := by decide +kernel
theorem d_M_chosen_72 : decode (m_M_chosen).2.1 72 = .ok (.getfield 87, 3) := by decide +kernel
theorem d_M_chosen_75 : decode (m_M_chosen).2.1 75 = .ok (.aload_n 0, 1) := by decide +kernel
theorem d_M_chosen_76 : decode (m_M_chosen).2.1 76 = .ok (.getfield 90, 3) := by decide +kernel
theorem d_M_chosen_79 : decode (m_M_chosen).2.1 79 = .ok (.isub, 1) := by decide +kernel
theorem d_M_chosen_80 : decode (m_M_chosen).2.1 80 = .ok (.iload 5, 2) := by decide +kernel
theorem d_M_chosen_82 : decode (m_M_chosen).2.1 82 = .ok (.iadd, 1) := by decide +kernel
theorem d_M_chosen_83 : decode (m_M_chosen).2.1 83 = .ok (.invokevirtual 102, 3) := by decide +kernel
theorem d_M_chosen_86 : decode (m_M_chosen).2.1 86 = .ok (.aload_n 0, 1) := by decide +kernel
theorem d_M_chosen_87 : decode (m_M_chosen).2.1 87 = .ok (.getfield 19, 3) := by decide +kernel
theorem d_M_chosen_90 : decode (m_M_chosen).2.1 90 = .ok (.iload 5, 2) := by decide +kernel
theorem d_M_chosen_92 : decode (m_M_chosen).2.1 92 = .ok (.iaload, 1) := by decide +kernel
theorem d_M_chosen_93 : decode (m_M_chosen).2.1 93 = .ok (.if_icmp .ne 7, 3) := by decide +kernel
theorem d_M_chosen_96 : decode (m_M_chosen).2.1 96 = .ok (.iconst 1, 1) := by decide +kernel
theorem d_M_chosen_97 : decode (m_M_chosen).2.1 97 = .ok (.goto 4, 3) := by decide +kernel
theorem d_M_chosen_100 : decode (m_M_chosen).2.1 100 = .ok (.iconst 0, 1) := by decide +kernel
theorem d_M_chosen_101 : decode (m_M_chosen).2.1 101 = .ok (.istore 4, 2) := by decide +kernel
theorem d_M_chosen_103 : decode (m_M_chosen).2.1 103 = .ok (.iinc 5 1, 3) := by decide +kernel
theorem d_M_chosen_106 : decode (m_M_chosen).2.1 106 = .ok (.goto (-51), 3) := by decide +kernel
theorem d_M_chosen_109 : decode (m_M_chosen).2.1 109 = .ok (.iload 4, 2) := by decide +kernel
theorem d_M_chosen_111 : decode (m_M_chosen).2.1 111 = .ok (.ifCond .eq 5, 3) := by decide +kernel
theorem d_M_chosen_114 : decode (m_M_chosen).2.1 114 = .ok (.iload_n 3, 1) := by decide +kernel
theorem d_M_chosen_115 : decode (m_M_chosen).2.1 115 = .ok (.ireturn, 1) := by decide +kernel
theorem d_M_chosen_116 : decode (m_M_chosen).2.1 116 = .ok (.iinc 3 1, 3) := by decide +kernel
theorem d_M_chosen_119 : decode (m_M_chosen).2.1 119 = .ok (.goto (-78), 3) := by decide +kernel
theorem d_M_chosen_122 : decode (m_M_chosen).2.1 122 = .ok (.iload_n 2, 1) := by decide +kernel
theorem d_M_chosen_123 : decode (m_M_chosen).2.1 123 = .ok (.ireturn, 1) := by decide +kernel
theorem d_M_encode_0 : decode (m_M_encode).2.1 0 = .ok (.aload_n 0, 1) := by decide +kernel
theorem d_M_encode_1 : decode (m_M_encode).2.1 1 = .ok (.aload_n 0, 1) := by decide +kernel
theorem d_M_encode_2 : decode (m_M_encode).2.1 2 = .ok (.iload_n 1, 1) := by decide +kernel
theorem d_M_encode_3 : decode (m_M_encode).2.1 3 = .ok (.invokevirtual 109, 3) := by decide +kernel
theorem d_M_encode_6 : decode (m_M_encode).2.1 6 = .ok (.invokevirtual 113, 3) := by decide +kernel
theorem d_M_encode_9 : decode (m_M_encode).2.1 9 = .ok (.iconst 0, 1) := by decide +kernel
theorem d_M_encode_10 : decode (m_M_encode).2.1 10 = .ok (.istore_n 2, 1) := by decide +kernel
theorem d_M_encode_11 : decode (m_M_encode).2.1 11 = .ok (.iconst 0, 1) := by decide +kernel
theorem d_M_encode_12 : decode (m_M_encode).2.1 12 = .ok (.istore_n 3, 1) := by decide +kernel
theorem d_M_encode_13 : decode (m_M_encode).2.1 13 = .ok (.iload_n 3, 1) := by decide +kernel
theorem d_M_encode_14 : decode (m_M_encode).2.1 14 = .ok (.aload_n 0, 1) := by decide +kernel
theorem d_M_encode_15 : decode (m_M_encode).2.1 15 = .ok (.getfield 87, 3) := by decide +kernel
theorem d_M_encode_18 : decode (m_M_encode).2.1 18 = .ok (.if_icmp .ge 45, 3) := by decide +kernel
theorem d_M_encode_21 : decode (m_M_encode).2.1 21 = .ok (.aload_n 0, 1) := by decide +kernel
theorem d_M_encode_22 : decode (m_M_encode).2.1 22 = .ok (.getfield 22, 3) := by decide +kernel
theorem d_M_encode_25 : decode (m_M_encode).2.1 25 = .ok (.iload_n 3, 1) := by decide +kernel
theorem d_M_encode_26 : decode (m_M_encode).2.1 26 = .ok (.aload_n 0, 1) := by decide +kernel
theorem d_M_encode_27 : decode (m_M_encode).2.1 27 = .ok (.getfield 29, 3) := by decide +kernel
theorem d_M_encode_30 : decode (m_M_encode).2.1 30 = .ok (.iload_n 3, 1) := by decide +kernel
theorem d_M_encode_31 : decode (m_M_encode).2.1 31 = .ok (.iaload, 1) := by decide +kernel
theorem d_M_encode_32 : decode (m_M_encode).2.1 32 = .ok (.iastore, 1) := by decide +kernel
theorem d_M_encode_33 : decode (m_M_encode).2.1 33 = .ok (.aload_n 0, 1) := by decide +kernel
theorem d_M_encode_34 : decode (m_M_encode).2.1 34 = .ok (.getfield 25, 3) := by decide +kernel
theorem d_M_encode_37 : decode (m_M_encode).2.1 37 = .ok (.iload_n 3, 1) := by decide +kernel
theorem d_M_encode_38 : decode (m_M_encode).2.1 38 = .ok (.iconst 0, 1) := by decide +kernel
theorem d_M_encode_39 : decode (m_M_encode).2.1 39 = .ok (.bastore, 1) := by decide +kernel
theorem d_M_encode_40 : decode (m_M_encode).2.1 40 = .ok (.aload_n 0, 1) := by decide +kernel
theorem d_M_encode_41 : decode (m_M_encode).2.1 41 = .ok (.getfield 29, 3) := by decide +kernel
theorem d_M_encode_44 : decode (m_M_encode).2.1 44 = .ok (.iload_n 3, 1) := by decide +kernel
theorem d_M_encode_45 : decode (m_M_encode).2.1 45 = .ok (.iaload, 1) := by decide +kernel
theorem d_M_encode_46 : decode (m_M_encode).2.1 46 = .ok (.ifCond .eq 9, 3) := by decide +kernel
theorem d_M_encode_49 : decode (m_M_encode).2.1 49 = .ok (.iload_n 2, 1) := by decide +kernel
theorem d_M_encode_50 : decode (m_M_encode).2.1 50 = .ok (.iconst 1, 1) := by decide +kernel
theorem d_M_encode_51 : decode (m_M_encode).2.1 51 = .ok (.iadd, 1) := by decide +kernel
theorem d_M_encode_52 : decode (m_M_encode).2.1 52 = .ok (.goto 4, 3) := by decide +kernel
theorem d_M_encode_55 : decode (m_M_encode).2.1 55 = .ok (.iload_n 2, 1) := by decide +kernel
theorem d_M_encode_56 : decode (m_M_encode).2.1 56 = .ok (.istore_n 2, 1) := by decide +kernel
theorem d_M_encode_57 : decode (m_M_encode).2.1 57 = .ok (.iinc 3 1, 3) := by decide +kernel
theorem d_M_encode_60 : decode (m_M_encode).2.1 60 = .ok (.goto (-47), 3) := by decide +kernel
theorem d_M_encode_63 : decode (m_M_encode).2.1 63 = .ok (.iload_n 2, 1) := by decide +kernel
theorem d_M_encode_64 : decode (m_M_encode).2.1 64 = .ok (.ireturn, 1) := by decide +kernel
theorem d_M_isPlace_0 : decode (m_M_isPlace).2.1 0 = .ok (.iload_n 1, 1) := by decide +kernel
theorem d_M_isPlace_1 : decode (m_M_isPlace).2.1 1 = .ok (.ifCond .lt 15, 3) := by decide +kernel
theorem d_M_isPlace_4 : decode (m_M_isPlace).2.1 4 = .ok (.iload_n 1, 1) := by decide +kernel
theorem d_M_isPlace_5 : decode (m_M_isPlace).2.1 5 = .ok (.aload_n 0, 1) := by decide +kernel
theorem d_M_isPlace_6 : decode (m_M_isPlace).2.1 6 = .ok (.getfield 87, 3) := by decide +kernel
theorem d_M_isPlace_9 : decode (m_M_isPlace).2.1 9 = .ok (.if_icmp .ge 7, 3) := by decide +kernel
theorem d_M_isPlace_12 : decode (m_M_isPlace).2.1 12 = .ok (.iconst 1, 1) := by decide +kernel
theorem d_M_isPlace_13 : decode (m_M_isPlace).2.1 13 = .ok (.goto 4, 3) := by decide +kernel
theorem d_M_isPlace_16 : decode (m_M_isPlace).2.1 16 = .ok (.iconst 0, 1) := by decide +kernel
theorem d_M_isPlace_17 : decode (m_M_isPlace).2.1 17 = .ok (.ireturn, 1) := by decide +kernel
theorem d_M_receive_0 : decode (m_M_receive).2.1 0 = .ok (.aload_n 0, 1) := by decide +kernel
theorem d_M_receive_1 : decode (m_M_receive).2.1 1 = .ok (.iload_n 1, 1) := by decide +kernel
theorem d_M_receive_2 : decode (m_M_receive).2.1 2 = .ok (.invokevirtual 117, 3) := by decide +kernel
theorem d_M_receive_5 : decode (m_M_receive).2.1 5 = .ok (.ifCond .eq 11, 3) := by decide +kernel
theorem d_M_receive_8 : decode (m_M_receive).2.1 8 = .ok (.aload_n 0, 1) := by decide +kernel
theorem d_M_receive_9 : decode (m_M_receive).2.1 9 = .ok (.iload_n 2, 1) := by decide +kernel
theorem d_M_receive_10 : decode (m_M_receive).2.1 10 = .ok (.invokevirtual 76, 3) := by decide +kernel
theorem d_M_receive_13 : decode (m_M_receive).2.1 13 = .ok (.ifCond .ne 5, 3) := by decide +kernel
theorem d_M_receive_16 : decode (m_M_receive).2.1 16 = .ok (.iconst 0, 1) := by decide +kernel
theorem d_M_receive_17 : decode (m_M_receive).2.1 17 = .ok (.ireturn, 1) := by decide +kernel
theorem d_M_receive_18 : decode (m_M_receive).2.1 18 = .ok (.aload_n 0, 1) := by decide +kernel
theorem d_M_receive_19 : decode (m_M_receive).2.1 19 = .ok (.getfield 22, 3) := by decide +kernel
theorem d_M_receive_22 : decode (m_M_receive).2.1 22 = .ok (.iload_n 1, 1) := by decide +kernel
theorem d_M_receive_23 : decode (m_M_receive).2.1 23 = .ok (.iload_n 2, 1) := by decide +kernel
theorem d_M_receive_24 : decode (m_M_receive).2.1 24 = .ok (.iastore, 1) := by decide +kernel
theorem d_M_receive_25 : decode (m_M_receive).2.1 25 = .ok (.aload_n 0, 1) := by decide +kernel
theorem d_M_receive_26 : decode (m_M_receive).2.1 26 = .ok (.getfield 25, 3) := by decide +kernel
theorem d_M_receive_29 : decode (m_M_receive).2.1 29 = .ok (.iload_n 1, 1) := by decide +kernel
theorem d_M_receive_30 : decode (m_M_receive).2.1 30 = .ok (.iconst 0, 1) := by decide +kernel
theorem d_M_receive_31 : decode (m_M_receive).2.1 31 = .ok (.bastore, 1) := by decide +kernel
theorem d_M_receive_32 : decode (m_M_receive).2.1 32 = .ok (.iconst 1, 1) := by decide +kernel
theorem d_M_receive_33 : decode (m_M_receive).2.1 33 = .ok (.ireturn, 1) := by decide +kernel
theorem d_M_erase_0 : decode (m_M_erase).2.1 0 = .ok (.aload_n 0, 1) := by decide +kernel
theorem d_M_erase_1 : decode (m_M_erase).2.1 1 = .ok (.iload_n 1, 1) := by decide +kernel
theorem d_M_erase_2 : decode (m_M_erase).2.1 2 = .ok (.invokevirtual 117, 3) := by decide +kernel
theorem d_M_erase_5 : decode (m_M_erase).2.1 5 = .ok (.ifCond .eq 12, 3) := by decide +kernel
theorem d_M_erase_8 : decode (m_M_erase).2.1 8 = .ok (.aload_n 0, 1) := by decide +kernel
theorem d_M_erase_9 : decode (m_M_erase).2.1 9 = .ok (.getfield 25, 3) := by decide +kernel
theorem d_M_erase_12 : decode (m_M_erase).2.1 12 = .ok (.iload_n 1, 1) := by decide +kernel
theorem d_M_erase_13 : decode (m_M_erase).2.1 13 = .ok (.baload, 1) := by decide +kernel
theorem d_M_erase_14 : decode (m_M_erase).2.1 14 = .ok (.ifCond .eq 5, 3) := by decide +kernel
theorem d_M_erase_17 : decode (m_M_erase).2.1 17 = .ok (.iconst 0, 1) := by decide +kernel
theorem d_M_erase_18 : decode (m_M_erase).2.1 18 = .ok (.ireturn, 1) := by decide +kernel
theorem d_M_erase_19 : decode (m_M_erase).2.1 19 = .ok (.aload_n 0, 1) := by decide +kernel
theorem d_M_erase_20 : decode (m_M_erase).2.1 20 = .ok (.getfield 25, 3) := by decide +kernel
theorem d_M_erase_23 : decode (m_M_erase).2.1 23 = .ok (.iload_n 1, 1) := by decide +kernel
theorem d_M_erase_24 : decode (m_M_erase).2.1 24 = .ok (.iconst 1, 1) := by decide +kernel
theorem d_M_erase_25 : decode (m_M_erase).2.1 25 = .ok (.bastore, 1) := by decide +kernel
theorem d_M_erase_26 : decode (m_M_erase).2.1 26 = .ok (.iconst 1, 1) := by decide +kernel
theorem d_M_erase_27 : decode (m_M_erase).2.1 27 = .ok (.ireturn, 1) := by decide +kernel
theorem d_M_word_0 : decode (m_M_word).2.1 0 = .ok (.aload_n 0, 1) := by decide +kernel
theorem d_M_word_1 : decode (m_M_word).2.1 1 = .ok (.iload_n 1, 1) := by decide +kernel
theorem d_M_word_2 : decode (m_M_word).2.1 2 = .ok (.invokevirtual 117, 3) := by decide +kernel
theorem d_M_word_5 : decode (m_M_word).2.1 5 = .ok (.ifCond .ne 7, 3) := by decide +kernel
theorem d_M_word_8 : decode (m_M_word).2.1 8 = .ok (.iconst (-1), 1) := by decide +kernel
theorem d_M_word_9 : decode (m_M_word).2.1 9 = .ok (.goto 23, 3) := by decide +kernel
theorem d_M_word_12 : decode (m_M_word).2.1 12 = .ok (.aload_n 0, 1) := by decide +kernel
theorem d_M_word_13 : decode (m_M_word).2.1 13 = .ok (.getfield 25, 3) := by decide +kernel
theorem d_M_word_16 : decode (m_M_word).2.1 16 = .ok (.iload_n 1, 1) := by decide +kernel
theorem d_M_word_17 : decode (m_M_word).2.1 17 = .ok (.baload, 1) := by decide +kernel
theorem d_M_word_18 : decode (m_M_word).2.1 18 = .ok (.ifCond .eq 8, 3) := by decide +kernel
theorem d_M_word_21 : decode (m_M_word).2.1 21 = .ok (.bipush (-2), 2) := by decide +kernel
theorem d_M_word_23 : decode (m_M_word).2.1 23 = .ok (.goto 9, 3) := by decide +kernel
theorem d_M_word_26 : decode (m_M_word).2.1 26 = .ok (.aload_n 0, 1) := by decide +kernel
theorem d_M_word_27 : decode (m_M_word).2.1 27 = .ok (.getfield 22, 3) := by decide +kernel
theorem d_M_word_30 : decode (m_M_word).2.1 30 = .ok (.iload_n 1, 1) := by decide +kernel
theorem d_M_word_31 : decode (m_M_word).2.1 31 = .ok (.iaload, 1) := by decide +kernel
theorem d_M_word_32 : decode (m_M_word).2.1 32 = .ok (.ireturn, 1) := by decide +kernel
theorem d_M_apart_0 : decode (m_M_apart).2.1 0 = .ok (.iconst 1, 1) := by decide +kernel
theorem d_M_apart_1 : decode (m_M_apart).2.1 1 = .ok (.istore_n 2, 1) := by decide +kernel
theorem d_M_apart_2 : decode (m_M_apart).2.1 2 = .ok (.iconst 0, 1) := by decide +kernel
theorem d_M_apart_3 : decode (m_M_apart).2.1 3 = .ok (.istore_n 3, 1) := by decide +kernel
theorem d_M_apart_4 : decode (m_M_apart).2.1 4 = .ok (.iload_n 3, 1) := by decide +kernel
theorem d_M_apart_5 : decode (m_M_apart).2.1 5 = .ok (.aload_n 0, 1) := by decide +kernel
theorem d_M_apart_6 : decode (m_M_apart).2.1 6 = .ok (.getfield 87, 3) := by decide +kernel
theorem d_M_apart_9 : decode (m_M_apart).2.1 9 = .ok (.if_icmp .ge 42, 3) := by decide +kernel
theorem d_M_apart_12 : decode (m_M_apart).2.1 12 = .ok (.iload_n 3, 1) := by decide +kernel
theorem d_M_apart_13 : decode (m_M_apart).2.1 13 = .ok (.iload_n 1, 1) := by decide +kernel
theorem d_M_apart_14 : decode (m_M_apart).2.1 14 = .ok (.if_icmp .ne 7, 3) := by decide +kernel
theorem d_M_apart_17 : decode (m_M_apart).2.1 17 = .ok (.iload_n 2, 1) := by decide +kernel
theorem d_M_apart_18 : decode (m_M_apart).2.1 18 = .ok (.goto 26, 3) := by decide +kernel
theorem d_M_apart_21 : decode (m_M_apart).2.1 21 = .ok (.aload_n 0, 1) := by decide +kernel
theorem d_M_apart_22 : decode (m_M_apart).2.1 22 = .ok (.getfield 7, 3) := by decide +kernel
theorem d_M_apart_25 : decode (m_M_apart).2.1 25 = .ok (.bipush 32, 2) := by decide +kernel
theorem d_M_apart_27 : decode (m_M_apart).2.1 27 = .ok (.iload_n 2, 1) := by decide +kernel
theorem d_M_apart_28 : decode (m_M_apart).2.1 28 = .ok (.imul, 1) := by decide +kernel
theorem d_M_apart_29 : decode (m_M_apart).2.1 29 = .ok (.aload_n 0, 1) := by decide +kernel
theorem d_M_apart_30 : decode (m_M_apart).2.1 30 = .ok (.getfield 13, 3) := by decide +kernel
theorem d_M_apart_33 : decode (m_M_apart).2.1 33 = .ok (.iload_n 1, 1) := by decide +kernel
theorem d_M_apart_34 : decode (m_M_apart).2.1 34 = .ok (.iaload, 1) := by decide +kernel
theorem d_M_apart_35 : decode (m_M_apart).2.1 35 = .ok (.aload_n 0, 1) := by decide +kernel
theorem d_M_apart_36 : decode (m_M_apart).2.1 36 = .ok (.getfield 13, 3) := by decide +kernel
theorem d_M_apart_39 : decode (m_M_apart).2.1 39 = .ok (.iload_n 3, 1) := by decide +kernel
theorem d_M_apart_40 : decode (m_M_apart).2.1 40 = .ok (.iaload, 1) := by decide +kernel
theorem d_M_apart_41 : decode (m_M_apart).2.1 41 = .ok (.ixor, 1) := by decide +kernel
theorem d_M_apart_42 : decode (m_M_apart).2.1 42 = .ok (.iadd, 1) := by decide +kernel
theorem d_M_apart_43 : decode (m_M_apart).2.1 43 = .ok (.iaload, 1) := by decide +kernel
theorem d_M_apart_44 : decode (m_M_apart).2.1 44 = .ok (.istore_n 2, 1) := by decide +kernel
theorem d_M_apart_45 : decode (m_M_apart).2.1 45 = .ok (.iinc 3 1, 3) := by decide +kernel
theorem d_M_apart_48 : decode (m_M_apart).2.1 48 = .ok (.goto (-44), 3) := by decide +kernel
theorem d_M_apart_51 : decode (m_M_apart).2.1 51 = .ok (.iload_n 2, 1) := by decide +kernel
theorem d_M_apart_52 : decode (m_M_apart).2.1 52 = .ok (.ireturn, 1) := by decide +kernel
theorem d_M_syndrome_0 : decode (m_M_syndrome).2.1 0 = .ok (.iload_n 1, 1) := by decide +kernel
theorem d_M_syndrome_1 : decode (m_M_syndrome).2.1 1 = .ok (.ifCond .lt 16, 3) := by decide +kernel
theorem d_M_syndrome_4 : decode (m_M_syndrome).2.1 4 = .ok (.iload_n 1, 1) := by decide +kernel
theorem d_M_syndrome_5 : decode (m_M_syndrome).2.1 5 = .ok (.aload_n 0, 1) := by decide +kernel
theorem d_M_syndrome_6 : decode (m_M_syndrome).2.1 6 = .ok (.getfield 87, 3) := by decide +kernel
theorem d_M_syndrome_9 : decode (m_M_syndrome).2.1 9 = .ok (.aload_n 0, 1) := by decide +kernel
theorem d_M_syndrome_10 : decode (m_M_syndrome).2.1 10 = .ok (.getfield 90, 3) := by decide +kernel
theorem d_M_syndrome_13 : decode (m_M_syndrome).2.1 13 = .ok (.isub, 1) := by decide +kernel
theorem d_M_syndrome_14 : decode (m_M_syndrome).2.1 14 = .ok (.if_icmp .lt 5, 3) := by decide +kernel
theorem d_M_syndrome_17 : decode (m_M_syndrome).2.1 17 = .ok (.iconst (-1), 1) := by decide +kernel
theorem d_M_syndrome_18 : decode (m_M_syndrome).2.1 18 = .ok (.ireturn, 1) := by decide +kernel
theorem d_M_syndrome_19 : decode (m_M_syndrome).2.1 19 = .ok (.iconst 0, 1) := by decide +kernel
theorem d_M_syndrome_20 : decode (m_M_syndrome).2.1 20 = .ok (.istore_n 2, 1) := by decide +kernel
theorem d_M_syndrome_21 : decode (m_M_syndrome).2.1 21 = .ok (.iconst 0, 1) := by decide +kernel
theorem d_M_syndrome_22 : decode (m_M_syndrome).2.1 22 = .ok (.istore_n 3, 1) := by decide +kernel
theorem d_M_syndrome_23 : decode (m_M_syndrome).2.1 23 = .ok (.iload_n 3, 1) := by decide +kernel
theorem d_M_syndrome_24 : decode (m_M_syndrome).2.1 24 = .ok (.aload_n 0, 1) := by decide +kernel
theorem d_M_syndrome_25 : decode (m_M_syndrome).2.1 25 = .ok (.getfield 87, 3) := by decide +kernel
theorem d_M_syndrome_28 : decode (m_M_syndrome).2.1 28 = .ok (.if_icmp .ge 94, 3) := by decide +kernel
theorem d_M_syndrome_31 : decode (m_M_syndrome).2.1 31 = .ok (.aload_n 0, 1) := by decide +kernel
theorem d_M_syndrome_32 : decode (m_M_syndrome).2.1 32 = .ok (.getfield 84, 3) := by decide +kernel
theorem d_M_syndrome_35 : decode (m_M_syndrome).2.1 35 = .ok (.ifCond .ne 16, 3) := by decide +kernel
theorem d_M_syndrome_38 : decode (m_M_syndrome).2.1 38 = .ok (.aload_n 0, 1) := by decide +kernel
theorem d_M_syndrome_39 : decode (m_M_syndrome).2.1 39 = .ok (.iconst 1, 1) := by decide +kernel
theorem d_M_syndrome_40 : decode (m_M_syndrome).2.1 40 = .ok (.aload_n 0, 1) := by decide +kernel
theorem d_M_syndrome_41 : decode (m_M_syndrome).2.1 41 = .ok (.iload_n 3, 1) := by decide +kernel
theorem d_M_syndrome_42 : decode (m_M_syndrome).2.1 42 = .ok (.invokevirtual 120, 3) := by decide +kernel
theorem d_M_syndrome_45 : decode (m_M_syndrome).2.1 45 = .ok (.invokevirtual 80, 3) := by decide +kernel
theorem d_M_syndrome_48 : decode (m_M_syndrome).2.1 48 = .ok (.goto 9, 3) := by decide +kernel
theorem d_M_syndrome_51 : decode (m_M_syndrome).2.1 51 = .ok (.aload_n 0, 1) := by decide +kernel
theorem d_M_syndrome_52 : decode (m_M_syndrome).2.1 52 = .ok (.getfield 13, 3) := by decide +kernel
theorem d_M_syndrome_55 : decode (m_M_syndrome).2.1 55 = .ok (.iload_n 3, 1) := by decide +kernel
theorem d_M_syndrome_56 : decode (m_M_syndrome).2.1 56 = .ok (.iaload, 1) := by decide +kernel
theorem d_M_syndrome_57 : decode (m_M_syndrome).2.1 57 = .ok (.istore 4, 2) := by decide +kernel
theorem d_M_syndrome_59 : decode (m_M_syndrome).2.1 59 = .ok (.aload_n 0, 1) := by decide +kernel
theorem d_M_syndrome_60 : decode (m_M_syndrome).2.1 60 = .ok (.getfield 7, 3) := by decide +kernel
theorem d_M_syndrome_63 : decode (m_M_syndrome).2.1 63 = .ok (.bipush 32, 2) := by decide +kernel
theorem d_M_syndrome_65 : decode (m_M_syndrome).2.1 65 = .ok (.iload 4, 2) := by decide +kernel
theorem d_M_syndrome_67 : decode (m_M_syndrome).2.1 67 = .ok (.imul, 1) := by decide +kernel
theorem d_M_syndrome_68 : decode (m_M_syndrome).2.1 68 = .ok (.aload_n 0, 1) := by decide +kernel
theorem d_M_syndrome_69 : decode (m_M_syndrome).2.1 69 = .ok (.getfield 22, 3) := by decide +kernel
theorem d_M_syndrome_72 : decode (m_M_syndrome).2.1 72 = .ok (.iload_n 3, 1) := by decide +kernel
theorem d_M_syndrome_73 : decode (m_M_syndrome).2.1 73 = .ok (.iaload, 1) := by decide +kernel
theorem d_M_syndrome_74 : decode (m_M_syndrome).2.1 74 = .ok (.iadd, 1) := by decide +kernel
theorem d_M_syndrome_75 : decode (m_M_syndrome).2.1 75 = .ok (.iaload, 1) := by decide +kernel
theorem d_M_syndrome_76 : decode (m_M_syndrome).2.1 76 = .ok (.istore 5, 2) := by decide +kernel
theorem d_M_syndrome_78 : decode (m_M_syndrome).2.1 78 = .ok (.aload_n 0, 1) := by decide +kernel
theorem d_M_syndrome_79 : decode (m_M_syndrome).2.1 79 = .ok (.getfield 25, 3) := by decide +kernel
theorem d_M_syndrome_82 : decode (m_M_syndrome).2.1 82 = .ok (.iload_n 3, 1) := by decide +kernel
theorem d_M_syndrome_83 : decode (m_M_syndrome).2.1 83 = .ok (.baload, 1) := by decide +kernel
theorem d_M_syndrome_84 : decode (m_M_syndrome).2.1 84 = .ok (.ifCond .eq 7, 3) := by decide +kernel
theorem d_M_syndrome_87 : decode (m_M_syndrome).2.1 87 = .ok (.iload_n 2, 1) := by decide +kernel
theorem d_M_syndrome_88 : decode (m_M_syndrome).2.1 88 = .ok (.goto 27, 3) := by decide +kernel
theorem d_M_syndrome_91 : decode (m_M_syndrome).2.1 91 = .ok (.iload_n 2, 1) := by decide +kernel
theorem d_M_syndrome_92 : decode (m_M_syndrome).2.1 92 = .ok (.aload_n 0, 1) := by decide +kernel
theorem d_M_syndrome_93 : decode (m_M_syndrome).2.1 93 = .ok (.getfield 7, 3) := by decide +kernel
theorem d_M_syndrome_96 : decode (m_M_syndrome).2.1 96 = .ok (.bipush 32, 2) := by decide +kernel
theorem d_M_syndrome_98 : decode (m_M_syndrome).2.1 98 = .ok (.iload 5, 2) := by decide +kernel
theorem d_M_syndrome_100 : decode (m_M_syndrome).2.1 100 = .ok (.imul, 1) := by decide +kernel
theorem d_M_syndrome_101 : decode (m_M_syndrome).2.1 101 = .ok (.aload_n 0, 1) := by decide +kernel
theorem d_M_syndrome_102 : decode (m_M_syndrome).2.1 102 = .ok (.aload_n 0, 1) := by decide +kernel
theorem d_M_syndrome_103 : decode (m_M_syndrome).2.1 103 = .ok (.getfield 13, 3) := by decide +kernel
theorem d_M_syndrome_106 : decode (m_M_syndrome).2.1 106 = .ok (.iload_n 3, 1) := by decide +kernel
theorem d_M_syndrome_107 : decode (m_M_syndrome).2.1 107 = .ok (.iaload, 1) := by decide +kernel
theorem d_M_syndrome_108 : decode (m_M_syndrome).2.1 108 = .ok (.iload_n 1, 1) := by decide +kernel
theorem d_M_syndrome_109 : decode (m_M_syndrome).2.1 109 = .ok (.invokevirtual 124, 3) := by decide +kernel
theorem d_M_syndrome_112 : decode (m_M_syndrome).2.1 112 = .ok (.iadd, 1) := by decide +kernel
theorem d_M_syndrome_113 : decode (m_M_syndrome).2.1 113 = .ok (.iaload, 1) := by decide +kernel
theorem d_M_syndrome_114 : decode (m_M_syndrome).2.1 114 = .ok (.ixor, 1) := by decide +kernel
theorem d_M_syndrome_115 : decode (m_M_syndrome).2.1 115 = .ok (.istore_n 2, 1) := by decide +kernel
theorem d_M_syndrome_116 : decode (m_M_syndrome).2.1 116 = .ok (.iinc 3 1, 3) := by decide +kernel
theorem d_M_syndrome_119 : decode (m_M_syndrome).2.1 119 = .ok (.goto (-96), 3) := by decide +kernel
theorem d_M_syndrome_122 : decode (m_M_syndrome).2.1 122 = .ok (.iload_n 2, 1) := by decide +kernel
theorem d_M_syndrome_123 : decode (m_M_syndrome).2.1 123 = .ok (.ireturn, 1) := by decide +kernel
theorem d_M_kept_0 : decode (m_M_kept).2.1 0 = .ok (.iconst 0, 1) := by decide +kernel
theorem d_M_kept_1 : decode (m_M_kept).2.1 1 = .ok (.istore_n 1, 1) := by decide +kernel
theorem d_M_kept_2 : decode (m_M_kept).2.1 2 = .ok (.iconst 0, 1) := by decide +kernel
theorem d_M_kept_3 : decode (m_M_kept).2.1 3 = .ok (.istore_n 2, 1) := by decide +kernel
theorem d_M_kept_4 : decode (m_M_kept).2.1 4 = .ok (.iload_n 2, 1) := by decide +kernel
theorem d_M_kept_5 : decode (m_M_kept).2.1 5 = .ok (.aload_n 0, 1) := by decide +kernel
theorem d_M_kept_6 : decode (m_M_kept).2.1 6 = .ok (.getfield 87, 3) := by decide +kernel
theorem d_M_kept_9 : decode (m_M_kept).2.1 9 = .ok (.if_icmp .ge 26, 3) := by decide +kernel
theorem d_M_kept_12 : decode (m_M_kept).2.1 12 = .ok (.aload_n 0, 1) := by decide +kernel
theorem d_M_kept_13 : decode (m_M_kept).2.1 13 = .ok (.getfield 25, 3) := by decide +kernel
theorem d_M_kept_16 : decode (m_M_kept).2.1 16 = .ok (.iload_n 2, 1) := by decide +kernel
theorem d_M_kept_17 : decode (m_M_kept).2.1 17 = .ok (.baload, 1) := by decide +kernel
theorem d_M_kept_18 : decode (m_M_kept).2.1 18 = .ok (.ifCond .eq 7, 3) := by decide +kernel
theorem d_M_kept_21 : decode (m_M_kept).2.1 21 = .ok (.iload_n 1, 1) := by decide +kernel
theorem d_M_kept_22 : decode (m_M_kept).2.1 22 = .ok (.goto 6, 3) := by decide +kernel
theorem d_M_kept_25 : decode (m_M_kept).2.1 25 = .ok (.iload_n 1, 1) := by decide +kernel
theorem d_M_kept_26 : decode (m_M_kept).2.1 26 = .ok (.iconst 1, 1) := by decide +kernel
theorem d_M_kept_27 : decode (m_M_kept).2.1 27 = .ok (.iadd, 1) := by decide +kernel
theorem d_M_kept_28 : decode (m_M_kept).2.1 28 = .ok (.istore_n 1, 1) := by decide +kernel
theorem d_M_kept_29 : decode (m_M_kept).2.1 29 = .ok (.iinc 2 1, 3) := by decide +kernel
theorem d_M_kept_32 : decode (m_M_kept).2.1 32 = .ok (.goto (-28), 3) := by decide +kernel
theorem d_M_kept_35 : decode (m_M_kept).2.1 35 = .ok (.iload_n 1, 1) := by decide +kernel
theorem d_M_kept_36 : decode (m_M_kept).2.1 36 = .ok (.ireturn, 1) := by decide +kernel
theorem d_M_distanceOf_0 : decode (m_M_distanceOf).2.1 0 = .ok (.iconst 0, 1) := by decide +kernel
theorem d_M_distanceOf_1 : decode (m_M_distanceOf).2.1 1 = .ok (.istore_n 3, 1) := by decide +kernel
theorem d_M_distanceOf_2 : decode (m_M_distanceOf).2.1 2 = .ok (.iconst 0, 1) := by decide +kernel
theorem d_M_distanceOf_3 : decode (m_M_distanceOf).2.1 3 = .ok (.istore 4, 2) := by decide +kernel
theorem d_M_distanceOf_5 : decode (m_M_distanceOf).2.1 5 = .ok (.iload 4, 2) := by decide +kernel
theorem d_M_distanceOf_7 : decode (m_M_distanceOf).2.1 7 = .ok (.aload_n 0, 1) := by decide +kernel
theorem d_M_distanceOf_8 : decode (m_M_distanceOf).2.1 8 = .ok (.getfield 87, 3) := by decide +kernel
theorem d_M_distanceOf_11 : decode (m_M_distanceOf).2.1 11 = .ok (.if_icmp .ge 49, 3) := by decide +kernel
theorem d_M_distanceOf_14 : decode (m_M_distanceOf).2.1 14 = .ok (.iload_n 3, 1) := by decide +kernel
theorem d_M_distanceOf_15 : decode (m_M_distanceOf).2.1 15 = .ok (.iload_n 2, 1) := by decide +kernel
theorem d_M_distanceOf_16 : decode (m_M_distanceOf).2.1 16 = .ok (.if_icmp .gt 44, 3) := by decide +kernel
theorem d_M_distanceOf_19 : decode (m_M_distanceOf).2.1 19 = .ok (.aload_n 0, 1) := by decide +kernel
theorem d_M_distanceOf_20 : decode (m_M_distanceOf).2.1 20 = .ok (.getfield 25, 3) := by decide +kernel
theorem d_M_distanceOf_23 : decode (m_M_distanceOf).2.1 23 = .ok (.iload 4, 2) := by decide +kernel
theorem d_M_distanceOf_25 : decode (m_M_distanceOf).2.1 25 = .ok (.baload, 1) := by decide +kernel
theorem d_M_distanceOf_26 : decode (m_M_distanceOf).2.1 26 = .ok (.ifCond .ne 26, 3) := by decide +kernel
theorem d_M_distanceOf_29 : decode (m_M_distanceOf).2.1 29 = .ok (.aload_n 0, 1) := by decide +kernel
theorem d_M_distanceOf_30 : decode (m_M_distanceOf).2.1 30 = .ok (.iload_n 1, 1) := by decide +kernel
theorem d_M_distanceOf_31 : decode (m_M_distanceOf).2.1 31 = .ok (.iload 4, 2) := by decide +kernel
theorem d_M_distanceOf_33 : decode (m_M_distanceOf).2.1 33 = .ok (.invokevirtual 102, 3) := by decide +kernel
theorem d_M_distanceOf_36 : decode (m_M_distanceOf).2.1 36 = .ok (.aload_n 0, 1) := by decide +kernel
theorem d_M_distanceOf_37 : decode (m_M_distanceOf).2.1 37 = .ok (.getfield 22, 3) := by decide +kernel
theorem d_M_distanceOf_40 : decode (m_M_distanceOf).2.1 40 = .ok (.iload 4, 2) := by decide +kernel
theorem d_M_distanceOf_42 : decode (m_M_distanceOf).2.1 42 = .ok (.iaload, 1) := by decide +kernel
theorem d_M_distanceOf_43 : decode (m_M_distanceOf).2.1 43 = .ok (.if_icmp .eq 9, 3) := by decide +kernel
theorem d_M_distanceOf_46 : decode (m_M_distanceOf).2.1 46 = .ok (.iload_n 3, 1) := by decide +kernel
theorem d_M_distanceOf_47 : decode (m_M_distanceOf).2.1 47 = .ok (.iconst 1, 1) := by decide +kernel
theorem d_M_distanceOf_48 : decode (m_M_distanceOf).2.1 48 = .ok (.iadd, 1) := by decide +kernel
theorem d_M_distanceOf_49 : decode (m_M_distanceOf).2.1 49 = .ok (.goto 4, 3) := by decide +kernel
theorem d_M_distanceOf_52 : decode (m_M_distanceOf).2.1 52 = .ok (.iload_n 3, 1) := by decide +kernel
theorem d_M_distanceOf_53 : decode (m_M_distanceOf).2.1 53 = .ok (.istore_n 3, 1) := by decide +kernel
theorem d_M_distanceOf_54 : decode (m_M_distanceOf).2.1 54 = .ok (.iinc 4 1, 3) := by decide +kernel
theorem d_M_distanceOf_57 : decode (m_M_distanceOf).2.1 57 = .ok (.goto (-52), 3) := by decide +kernel
theorem d_M_distanceOf_60 : decode (m_M_distanceOf).2.1 60 = .ok (.iload_n 3, 1) := by decide +kernel
theorem d_M_distanceOf_61 : decode (m_M_distanceOf).2.1 61 = .ok (.ireturn, 1) := by decide +kernel
theorem d_M_decode_0 : decode (m_M_decode).2.1 0 = .ok (.aload_n 0, 1) := by decide +kernel
theorem d_M_decode_1 : decode (m_M_decode).2.1 1 = .ok (.invokevirtual 127, 3) := by decide +kernel
theorem d_M_decode_4 : decode (m_M_decode).2.1 4 = .ok (.istore_n 2, 1) := by decide +kernel
theorem d_M_decode_5 : decode (m_M_decode).2.1 5 = .ok (.iload_n 2, 1) := by decide +kernel
theorem d_M_decode_6 : decode (m_M_decode).2.1 6 = .ok (.aload_n 0, 1) := by decide +kernel
theorem d_M_decode_7 : decode (m_M_decode).2.1 7 = .ok (.getfield 90, 3) := by decide +kernel
theorem d_M_decode_10 : decode (m_M_decode).2.1 10 = .ok (.if_icmp .ge 6, 3) := by decide +kernel
theorem d_M_decode_13 : decode (m_M_decode).2.1 13 = .ok (.bipush (-3), 2) := by decide +kernel
theorem d_M_decode_15 : decode (m_M_decode).2.1 15 = .ok (.ireturn, 1) := by decide +kernel
theorem d_M_decode_16 : decode (m_M_decode).2.1 16 = .ok (.iload_n 2, 1) := by decide +kernel
theorem d_M_decode_17 : decode (m_M_decode).2.1 17 = .ok (.aload_n 0, 1) := by decide +kernel
theorem d_M_decode_18 : decode (m_M_decode).2.1 18 = .ok (.getfield 90, 3) := by decide +kernel
theorem d_M_decode_21 : decode (m_M_decode).2.1 21 = .ok (.isub, 1) := by decide +kernel
theorem d_M_decode_22 : decode (m_M_decode).2.1 22 = .ok (.iconst 2, 1) := by decide +kernel
theorem d_M_decode_23 : decode (m_M_decode).2.1 23 = .ok (.idiv, 1) := by decide +kernel
theorem d_M_decode_24 : decode (m_M_decode).2.1 24 = .ok (.istore_n 3, 1) := by decide +kernel
theorem d_M_decode_25 : decode (m_M_decode).2.1 25 = .ok (.aload_n 0, 1) := by decide +kernel
theorem d_M_decode_26 : decode (m_M_decode).2.1 26 = .ok (.iconst (-1), 1) := by decide +kernel
theorem d_M_decode_27 : decode (m_M_decode).2.1 27 = .ok (.putfield 93, 3) := by decide +kernel
theorem d_M_decode_30 : decode (m_M_decode).2.1 30 = .ok (.iconst 0, 1) := by decide +kernel
theorem d_M_decode_31 : decode (m_M_decode).2.1 31 = .ok (.istore 4, 2) := by decide +kernel
theorem d_M_decode_33 : decode (m_M_decode).2.1 33 = .ok (.iload 4, 2) := by decide +kernel
theorem d_M_decode_35 : decode (m_M_decode).2.1 35 = .ok (.aload_n 0, 1) := by decide +kernel
theorem d_M_decode_36 : decode (m_M_decode).2.1 36 = .ok (.invokevirtual 105, 3) := by decide +kernel
theorem d_M_decode_39 : decode (m_M_decode).2.1 39 = .ok (.if_icmp .ge 37, 3) := by decide +kernel
theorem d_M_decode_42 : decode (m_M_decode).2.1 42 = .ok (.aload_n 0, 1) := by decide +kernel
theorem d_M_decode_43 : decode (m_M_decode).2.1 43 = .ok (.getfield 93, 3) := by decide +kernel
theorem d_M_decode_46 : decode (m_M_decode).2.1 46 = .ok (.ifCond .ge 30, 3) := by decide +kernel
theorem d_M_decode_49 : decode (m_M_decode).2.1 49 = .ok (.aload_n 0, 1) := by decide +kernel
theorem d_M_decode_50 : decode (m_M_decode).2.1 50 = .ok (.aload_n 0, 1) := by decide +kernel
theorem d_M_decode_51 : decode (m_M_decode).2.1 51 = .ok (.iload 4, 2) := by decide +kernel
theorem d_M_decode_53 : decode (m_M_decode).2.1 53 = .ok (.iload_n 3, 1) := by decide +kernel
theorem d_M_decode_54 : decode (m_M_decode).2.1 54 = .ok (.invokevirtual 130, 3) := by decide +kernel
theorem d_M_decode_57 : decode (m_M_decode).2.1 57 = .ok (.iload_n 3, 1) := by decide +kernel
theorem d_M_decode_58 : decode (m_M_decode).2.1 58 = .ok (.if_icmp .gt 8, 3) := by decide +kernel
theorem d_M_decode_61 : decode (m_M_decode).2.1 61 = .ok (.iload 4, 2) := by decide +kernel
theorem d_M_decode_63 : decode (m_M_decode).2.1 63 = .ok (.goto 4, 3) := by decide +kernel
theorem d_M_decode_66 : decode (m_M_decode).2.1 66 = .ok (.iconst (-1), 1) := by decide +kernel
theorem d_M_decode_67 : decode (m_M_decode).2.1 67 = .ok (.putfield 93, 3) := by decide +kernel
theorem d_M_decode_70 : decode (m_M_decode).2.1 70 = .ok (.iinc 4 1, 3) := by decide +kernel
theorem d_M_decode_73 : decode (m_M_decode).2.1 73 = .ok (.goto (-40), 3) := by decide +kernel
theorem d_M_decode_76 : decode (m_M_decode).2.1 76 = .ok (.aload_n 0, 1) := by decide +kernel
theorem d_M_decode_77 : decode (m_M_decode).2.1 77 = .ok (.getfield 93, 3) := by decide +kernel
theorem d_M_decode_80 : decode (m_M_decode).2.1 80 = .ok (.ifCond .ge 6, 3) := by decide +kernel
theorem d_M_decode_83 : decode (m_M_decode).2.1 83 = .ok (.bipush (-2), 2) := by decide +kernel
theorem d_M_decode_85 : decode (m_M_decode).2.1 85 = .ok (.ireturn, 1) := by decide +kernel
theorem d_M_decode_86 : decode (m_M_decode).2.1 86 = .ok (.iconst 0, 1) := by decide +kernel
theorem d_M_decode_87 : decode (m_M_decode).2.1 87 = .ok (.istore 4, 2) := by decide +kernel
theorem d_M_decode_89 : decode (m_M_decode).2.1 89 = .ok (.iconst 0, 1) := by decide +kernel
theorem d_M_decode_90 : decode (m_M_decode).2.1 90 = .ok (.istore 5, 2) := by decide +kernel
theorem d_M_decode_92 : decode (m_M_decode).2.1 92 = .ok (.iload 5, 2) := by decide +kernel
theorem d_M_decode_94 : decode (m_M_decode).2.1 94 = .ok (.aload_n 0, 1) := by decide +kernel
theorem d_M_decode_95 : decode (m_M_decode).2.1 95 = .ok (.getfield 87, 3) := by decide +kernel
theorem d_M_decode_98 : decode (m_M_decode).2.1 98 = .ok (.if_icmp .ge 72, 3) := by decide +kernel
theorem d_M_decode_101 : decode (m_M_decode).2.1 101 = .ok (.aload_n 0, 1) := by decide +kernel
theorem d_M_decode_102 : decode (m_M_decode).2.1 102 = .ok (.getfield 32, 3) := by decide +kernel
theorem d_M_decode_105 : decode (m_M_decode).2.1 105 = .ok (.iload 5, 2) := by decide +kernel
theorem d_M_decode_107 : decode (m_M_decode).2.1 107 = .ok (.aload_n 0, 1) := by decide +kernel
theorem d_M_decode_108 : decode (m_M_decode).2.1 108 = .ok (.getfield 25, 3) := by decide +kernel
theorem d_M_decode_111 : decode (m_M_decode).2.1 111 = .ok (.iload 5, 2) := by decide +kernel
theorem d_M_decode_113 : decode (m_M_decode).2.1 113 = .ok (.baload, 1) := by decide +kernel
theorem d_M_decode_114 : decode (m_M_decode).2.1 114 = .ok (.ifCond .ne 27, 3) := by decide +kernel
theorem d_M_decode_117 : decode (m_M_decode).2.1 117 = .ok (.aload_n 0, 1) := by decide +kernel
theorem d_M_decode_118 : decode (m_M_decode).2.1 118 = .ok (.aload_n 0, 1) := by decide +kernel
theorem d_M_decode_119 : decode (m_M_decode).2.1 119 = .ok (.getfield 93, 3) := by decide +kernel
theorem d_M_decode_122 : decode (m_M_decode).2.1 122 = .ok (.iload 5, 2) := by decide +kernel
theorem d_M_decode_124 : decode (m_M_decode).2.1 124 = .ok (.invokevirtual 102, 3) := by decide +kernel
theorem d_M_decode_127 : decode (m_M_decode).2.1 127 = .ok (.aload_n 0, 1) := by decide +kernel
theorem d_M_decode_128 : decode (m_M_decode).2.1 128 = .ok (.getfield 22, 3) := by decide +kernel
theorem d_M_decode_131 : decode (m_M_decode).2.1 131 = .ok (.iload 5, 2) := by decide +kernel
theorem d_M_decode_133 : decode (m_M_decode).2.1 133 = .ok (.iaload, 1) := by decide +kernel
theorem d_M_decode_134 : decode (m_M_decode).2.1 134 = .ok (.if_icmp .eq 7, 3) := by decide +kernel
theorem d_M_decode_137 : decode (m_M_decode).2.1 137 = .ok (.iconst 1, 1) := by decide +kernel
theorem d_M_decode_138 : decode (m_M_decode).2.1 138 = .ok (.goto 4, 3) := by decide +kernel
theorem d_M_decode_141 : decode (m_M_decode).2.1 141 = .ok (.iconst 0, 1) := by decide +kernel
theorem d_M_decode_142 : decode (m_M_decode).2.1 142 = .ok (.bastore, 1) := by decide +kernel
theorem d_M_decode_143 : decode (m_M_decode).2.1 143 = .ok (.aload_n 0, 1) := by decide +kernel
theorem d_M_decode_144 : decode (m_M_decode).2.1 144 = .ok (.getfield 32, 3) := by decide +kernel
theorem d_M_decode_147 : decode (m_M_decode).2.1 147 = .ok (.iload 5, 2) := by decide +kernel
theorem d_M_decode_149 : decode (m_M_decode).2.1 149 = .ok (.baload, 1) := by decide +kernel
theorem d_M_decode_150 : decode (m_M_decode).2.1 150 = .ok (.ifCond .eq 10, 3) := by decide +kernel
theorem d_M_decode_153 : decode (m_M_decode).2.1 153 = .ok (.iload 4, 2) := by decide +kernel
theorem d_M_decode_155 : decode (m_M_decode).2.1 155 = .ok (.iconst 1, 1) := by decide +kernel
theorem d_M_decode_156 : decode (m_M_decode).2.1 156 = .ok (.iadd, 1) := by decide +kernel
theorem d_M_decode_157 : decode (m_M_decode).2.1 157 = .ok (.goto 5, 3) := by decide +kernel
theorem d_M_decode_160 : decode (m_M_decode).2.1 160 = .ok (.iload 4, 2) := by decide +kernel
theorem d_M_decode_162 : decode (m_M_decode).2.1 162 = .ok (.istore 4, 2) := by decide +kernel
theorem d_M_decode_164 : decode (m_M_decode).2.1 164 = .ok (.iinc 5 1, 3) := by decide +kernel
theorem d_M_decode_167 : decode (m_M_decode).2.1 167 = .ok (.goto (-75), 3) := by decide +kernel
theorem d_M_decode_170 : decode (m_M_decode).2.1 170 = .ok (.iload 4, 2) := by decide +kernel
theorem d_M_decode_172 : decode (m_M_decode).2.1 172 = .ok (.ireturn, 1) := by decide +kernel
end
section
theorem d_M_decoded_0 : decode (m_M_decoded).2.1 0 = .ok (.aload_n 0, 1) := by decide +kernel
theorem d_M_decoded_1 : decode (m_M_decoded).2.1 1 = .ok (.iload_n 1, 1) := by decide +kernel
theorem d_M_decoded_2 : decode (m_M_decoded).2.1 2 = .ok (.invokevirtual 117, 3) := by decide +kernel
theorem d_M_decoded_5 : decode (m_M_decoded).2.1 5 = .ok (.ifCond .ne 7, 3) := by decide +kernel
theorem d_M_decoded_8 : decode (m_M_decoded).2.1 8 = .ok (.iconst (-1), 1) := by decide +kernel
theorem d_M_decoded_9 : decode (m_M_decoded).2.1 9 = .ok (.goto 24, 3) := by decide +kernel
theorem d_M_decoded_12 : decode (m_M_decoded).2.1 12 = .ok (.aload_n 0, 1) := by decide +kernel
theorem d_M_decoded_13 : decode (m_M_decoded).2.1 13 = .ok (.getfield 93, 3) := by decide +kernel
theorem d_M_decoded_16 : decode (m_M_decoded).2.1 16 = .ok (.ifCond .ge 8, 3) := by decide +kernel
theorem d_M_decoded_19 : decode (m_M_decoded).2.1 19 = .ok (.bipush (-2), 2) := by decide +kernel
theorem d_M_decoded_21 : decode (m_M_decoded).2.1 21 = .ok (.goto 12, 3) := by decide +kernel
theorem d_M_decoded_24 : decode (m_M_decoded).2.1 24 = .ok (.aload_n 0, 1) := by decide +kernel
theorem d_M_decoded_25 : decode (m_M_decoded).2.1 25 = .ok (.aload_n 0, 1) := by decide +kernel
theorem d_M_decoded_26 : decode (m_M_decoded).2.1 26 = .ok (.getfield 93, 3) := by decide +kernel
theorem d_M_decoded_29 : decode (m_M_decoded).2.1 29 = .ok (.iload_n 1, 1) := by decide +kernel
theorem d_M_decoded_30 : decode (m_M_decoded).2.1 30 = .ok (.invokevirtual 102, 3) := by decide +kernel
theorem d_M_decoded_33 : decode (m_M_decoded).2.1 33 = .ok (.ireturn, 1) := by decide +kernel
theorem d_M_sent_0 : decode (m_M_sent).2.1 0 = .ok (.iload_n 1, 1) := by decide +kernel
theorem d_M_sent_1 : decode (m_M_sent).2.1 1 = .ok (.ifCond .lt 11, 3) := by decide +kernel
theorem d_M_sent_4 : decode (m_M_sent).2.1 4 = .ok (.iload_n 1, 1) := by decide +kernel
theorem d_M_sent_5 : decode (m_M_sent).2.1 5 = .ok (.aload_n 0, 1) := by decide +kernel
theorem d_M_sent_6 : decode (m_M_sent).2.1 6 = .ok (.getfield 90, 3) := by decide +kernel
theorem d_M_sent_9 : decode (m_M_sent).2.1 9 = .ok (.if_icmp .lt 7, 3) := by decide +kernel
theorem d_M_sent_12 : decode (m_M_sent).2.1 12 = .ok (.iconst (-1), 1) := by decide +kernel
theorem d_M_sent_13 : decode (m_M_sent).2.1 13 = .ok (.goto 24, 3) := by decide +kernel
theorem d_M_sent_16 : decode (m_M_sent).2.1 16 = .ok (.aload_n 0, 1) := by decide +kernel
theorem d_M_sent_17 : decode (m_M_sent).2.1 17 = .ok (.getfield 93, 3) := by decide +kernel
theorem d_M_sent_20 : decode (m_M_sent).2.1 20 = .ok (.ifCond .ge 8, 3) := by decide +kernel
theorem d_M_sent_23 : decode (m_M_sent).2.1 23 = .ok (.bipush (-2), 2) := by decide +kernel
theorem d_M_sent_25 : decode (m_M_sent).2.1 25 = .ok (.goto 12, 3) := by decide +kernel
theorem d_M_sent_28 : decode (m_M_sent).2.1 28 = .ok (.aload_n 0, 1) := by decide +kernel
theorem d_M_sent_29 : decode (m_M_sent).2.1 29 = .ok (.aload_n 0, 1) := by decide +kernel
theorem d_M_sent_30 : decode (m_M_sent).2.1 30 = .ok (.getfield 93, 3) := by decide +kernel
theorem d_M_sent_33 : decode (m_M_sent).2.1 33 = .ok (.iload_n 1, 1) := by decide +kernel
theorem d_M_sent_34 : decode (m_M_sent).2.1 34 = .ok (.invokevirtual 99, 3) := by decide +kernel
theorem d_M_sent_37 : decode (m_M_sent).2.1 37 = .ok (.ireturn, 1) := by decide +kernel
theorem d_M_locator_0 : decode (m_M_locator).2.1 0 = .ok (.iload_n 1, 1) := by decide +kernel
theorem d_M_locator_1 : decode (m_M_locator).2.1 1 = .ok (.ifCond .lt 16, 3) := by decide +kernel
theorem d_M_locator_4 : decode (m_M_locator).2.1 4 = .ok (.iload_n 1, 1) := by decide +kernel
theorem d_M_locator_5 : decode (m_M_locator).2.1 5 = .ok (.aload_n 0, 1) := by decide +kernel
theorem d_M_locator_6 : decode (m_M_locator).2.1 6 = .ok (.getfield 87, 3) := by decide +kernel
theorem d_M_locator_9 : decode (m_M_locator).2.1 9 = .ok (.aload_n 0, 1) := by decide +kernel
theorem d_M_locator_10 : decode (m_M_locator).2.1 10 = .ok (.getfield 90, 3) := by decide +kernel
theorem d_M_locator_13 : decode (m_M_locator).2.1 13 = .ok (.isub, 1) := by decide +kernel
theorem d_M_locator_14 : decode (m_M_locator).2.1 14 = .ok (.if_icmp .le 5, 3) := by decide +kernel
theorem d_M_locator_17 : decode (m_M_locator).2.1 17 = .ok (.iconst (-1), 1) := by decide +kernel
theorem d_M_locator_18 : decode (m_M_locator).2.1 18 = .ok (.ireturn, 1) := by decide +kernel
theorem d_M_locator_19 : decode (m_M_locator).2.1 19 = .ok (.aload_n 0, 1) := by decide +kernel
theorem d_M_locator_20 : decode (m_M_locator).2.1 20 = .ok (.getfield 93, 3) := by decide +kernel
theorem d_M_locator_23 : decode (m_M_locator).2.1 23 = .ok (.ifCond .ge 6, 3) := by decide +kernel
theorem d_M_locator_26 : decode (m_M_locator).2.1 26 = .ok (.bipush (-2), 2) := by decide +kernel
theorem d_M_locator_28 : decode (m_M_locator).2.1 28 = .ok (.ireturn, 1) := by decide +kernel
theorem d_M_locator_29 : decode (m_M_locator).2.1 29 = .ok (.iconst 0, 1) := by decide +kernel
theorem d_M_locator_30 : decode (m_M_locator).2.1 30 = .ok (.istore_n 2, 1) := by decide +kernel
theorem d_M_locator_31 : decode (m_M_locator).2.1 31 = .ok (.iload_n 2, 1) := by decide +kernel
theorem d_M_locator_32 : decode (m_M_locator).2.1 32 = .ok (.bipush 21, 2) := by decide +kernel
theorem d_M_locator_34 : decode (m_M_locator).2.1 34 = .ok (.if_icmp .ge 24, 3) := by decide +kernel
theorem d_M_locator_37 : decode (m_M_locator).2.1 37 = .ok (.aload_n 0, 1) := by decide +kernel
theorem d_M_locator_38 : decode (m_M_locator).2.1 38 = .ok (.getfield 35, 3) := by decide +kernel
theorem d_M_locator_41 : decode (m_M_locator).2.1 41 = .ok (.iload_n 2, 1) := by decide +kernel
theorem d_M_locator_42 : decode (m_M_locator).2.1 42 = .ok (.iload_n 2, 1) := by decide +kernel
theorem d_M_locator_43 : decode (m_M_locator).2.1 43 = .ok (.ifCond .ne 7, 3) := by decide +kernel
theorem d_M_locator_46 : decode (m_M_locator).2.1 46 = .ok (.iconst 1, 1) := by decide +kernel
theorem d_M_locator_47 : decode (m_M_locator).2.1 47 = .ok (.goto 4, 3) := by decide +kernel
theorem d_M_locator_50 : decode (m_M_locator).2.1 50 = .ok (.iconst 0, 1) := by decide +kernel
theorem d_M_locator_51 : decode (m_M_locator).2.1 51 = .ok (.iastore, 1) := by decide +kernel
theorem d_M_locator_52 : decode (m_M_locator).2.1 52 = .ok (.iinc 2 1, 3) := by decide +kernel
theorem d_M_locator_55 : decode (m_M_locator).2.1 55 = .ok (.goto (-24), 3) := by decide +kernel
theorem d_M_locator_58 : decode (m_M_locator).2.1 58 = .ok (.iconst 0, 1) := by decide +kernel
theorem d_M_locator_59 : decode (m_M_locator).2.1 59 = .ok (.istore_n 2, 1) := by decide +kernel
theorem d_M_locator_60 : decode (m_M_locator).2.1 60 = .ok (.iload_n 2, 1) := by decide +kernel
theorem d_M_locator_61 : decode (m_M_locator).2.1 61 = .ok (.aload_n 0, 1) := by decide +kernel
theorem d_M_locator_62 : decode (m_M_locator).2.1 62 = .ok (.getfield 87, 3) := by decide +kernel
theorem d_M_locator_65 : decode (m_M_locator).2.1 65 = .ok (.if_icmp .ge 69, 3) := by decide +kernel
theorem d_M_locator_68 : decode (m_M_locator).2.1 68 = .ok (.aload_n 0, 1) := by decide +kernel
theorem d_M_locator_69 : decode (m_M_locator).2.1 69 = .ok (.getfield 87, 3) := by decide +kernel
theorem d_M_locator_72 : decode (m_M_locator).2.1 72 = .ok (.istore_n 3, 1) := by decide +kernel
theorem d_M_locator_73 : decode (m_M_locator).2.1 73 = .ok (.iload_n 3, 1) := by decide +kernel
theorem d_M_locator_74 : decode (m_M_locator).2.1 74 = .ok (.ifCond .le 54, 3) := by decide +kernel
theorem d_M_locator_77 : decode (m_M_locator).2.1 77 = .ok (.aload_n 0, 1) := by decide +kernel
theorem d_M_locator_78 : decode (m_M_locator).2.1 78 = .ok (.getfield 32, 3) := by decide +kernel
theorem d_M_locator_81 : decode (m_M_locator).2.1 81 = .ok (.iload_n 2, 1) := by decide +kernel
theorem d_M_locator_82 : decode (m_M_locator).2.1 82 = .ok (.baload, 1) := by decide +kernel
theorem d_M_locator_83 : decode (m_M_locator).2.1 83 = .ok (.ifCond .eq 45, 3) := by decide +kernel
theorem d_M_locator_86 : decode (m_M_locator).2.1 86 = .ok (.aload_n 0, 1) := by decide +kernel
theorem d_M_locator_87 : decode (m_M_locator).2.1 87 = .ok (.getfield 35, 3) := by decide +kernel
theorem d_M_locator_90 : decode (m_M_locator).2.1 90 = .ok (.iload_n 3, 1) := by decide +kernel
theorem d_M_locator_91 : decode (m_M_locator).2.1 91 = .ok (.aload_n 0, 1) := by decide +kernel
theorem d_M_locator_92 : decode (m_M_locator).2.1 92 = .ok (.getfield 35, 3) := by decide +kernel
theorem d_M_locator_95 : decode (m_M_locator).2.1 95 = .ok (.iload_n 3, 1) := by decide +kernel
theorem d_M_locator_96 : decode (m_M_locator).2.1 96 = .ok (.iaload, 1) := by decide +kernel
theorem d_M_locator_97 : decode (m_M_locator).2.1 97 = .ok (.aload_n 0, 1) := by decide +kernel
theorem d_M_locator_98 : decode (m_M_locator).2.1 98 = .ok (.getfield 7, 3) := by decide +kernel
theorem d_M_locator_101 : decode (m_M_locator).2.1 101 = .ok (.bipush 32, 2) := by decide +kernel
theorem d_M_locator_103 : decode (m_M_locator).2.1 103 = .ok (.aload_n 0, 1) := by decide +kernel
theorem d_M_locator_104 : decode (m_M_locator).2.1 104 = .ok (.getfield 35, 3) := by decide +kernel
theorem d_M_locator_107 : decode (m_M_locator).2.1 107 = .ok (.iload_n 3, 1) := by decide +kernel
theorem d_M_locator_108 : decode (m_M_locator).2.1 108 = .ok (.iconst 1, 1) := by decide +kernel
theorem d_M_locator_109 : decode (m_M_locator).2.1 109 = .ok (.isub, 1) := by decide +kernel
theorem d_M_locator_110 : decode (m_M_locator).2.1 110 = .ok (.iaload, 1) := by decide +kernel
theorem d_M_locator_111 : decode (m_M_locator).2.1 111 = .ok (.imul, 1) := by decide +kernel
theorem d_M_locator_112 : decode (m_M_locator).2.1 112 = .ok (.aload_n 0, 1) := by decide +kernel
theorem d_M_locator_113 : decode (m_M_locator).2.1 113 = .ok (.getfield 13, 3) := by decide +kernel
theorem d_M_locator_116 : decode (m_M_locator).2.1 116 = .ok (.iload_n 2, 1) := by decide +kernel
theorem d_M_locator_117 : decode (m_M_locator).2.1 117 = .ok (.iaload, 1) := by decide +kernel
theorem d_M_locator_118 : decode (m_M_locator).2.1 118 = .ok (.iadd, 1) := by decide +kernel
theorem d_M_locator_119 : decode (m_M_locator).2.1 119 = .ok (.iaload, 1) := by decide +kernel
theorem d_M_locator_120 : decode (m_M_locator).2.1 120 = .ok (.ixor, 1) := by decide +kernel
theorem d_M_locator_121 : decode (m_M_locator).2.1 121 = .ok (.iastore, 1) := by decide +kernel
theorem d_M_locator_122 : decode (m_M_locator).2.1 122 = .ok (.iinc 3 (-1), 3) := by decide +kernel
theorem d_M_locator_125 : decode (m_M_locator).2.1 125 = .ok (.goto (-52), 3) := by decide +kernel
theorem d_M_locator_128 : decode (m_M_locator).2.1 128 = .ok (.iinc 2 1, 3) := by decide +kernel
theorem d_M_locator_131 : decode (m_M_locator).2.1 131 = .ok (.goto (-71), 3) := by decide +kernel
theorem d_M_locator_134 : decode (m_M_locator).2.1 134 = .ok (.aload_n 0, 1) := by decide +kernel
theorem d_M_locator_135 : decode (m_M_locator).2.1 135 = .ok (.getfield 35, 3) := by decide +kernel
theorem d_M_locator_138 : decode (m_M_locator).2.1 138 = .ok (.iload_n 1, 1) := by decide +kernel
theorem d_M_locator_139 : decode (m_M_locator).2.1 139 = .ok (.iaload, 1) := by decide +kernel
theorem d_M_locator_140 : decode (m_M_locator).2.1 140 = .ok (.ireturn, 1) := by decide +kernel
theorem d_M_pairs_0 : decode (m_M_pairs).2.1 0 = .ok (.iload_n 1, 1) := by decide +kernel
theorem d_M_pairs_1 : decode (m_M_pairs).2.1 1 = .ok (.iload_n 1, 1) := by decide +kernel
theorem d_M_pairs_2 : decode (m_M_pairs).2.1 2 = .ok (.iconst 1, 1) := by decide +kernel
theorem d_M_pairs_3 : decode (m_M_pairs).2.1 3 = .ok (.iadd, 1) := by decide +kernel
theorem d_M_pairs_4 : decode (m_M_pairs).2.1 4 = .ok (.imul, 1) := by decide +kernel
theorem d_M_pairs_5 : decode (m_M_pairs).2.1 5 = .ok (.iconst 2, 1) := by decide +kernel
theorem d_M_pairs_6 : decode (m_M_pairs).2.1 6 = .ok (.idiv, 1) := by decide +kernel
theorem d_M_pairs_7 : decode (m_M_pairs).2.1 7 = .ok (.ireturn, 1) := by decide +kernel
theorem d_M_boundFor_0 : decode (m_M_boundFor).2.1 0 = .ok (.iconst (-1), 1) := by decide +kernel
theorem d_M_boundFor_1 : decode (m_M_boundFor).2.1 1 = .ok (.istore_n 3, 1) := by decide +kernel
theorem d_M_boundFor_2 : decode (m_M_boundFor).2.1 2 = .ok (.iconst 0, 1) := by decide +kernel
theorem d_M_boundFor_3 : decode (m_M_boundFor).2.1 3 = .ok (.istore 4, 2) := by decide +kernel
theorem d_M_boundFor_5 : decode (m_M_boundFor).2.1 5 = .ok (.iload 4, 2) := by decide +kernel
theorem d_M_boundFor_7 : decode (m_M_boundFor).2.1 7 = .ok (.iload_n 2, 1) := by decide +kernel
theorem d_M_boundFor_8 : decode (m_M_boundFor).2.1 8 = .ok (.aload_n 0, 1) := by decide +kernel
theorem d_M_boundFor_9 : decode (m_M_boundFor).2.1 9 = .ok (.iload_n 1, 1) := by decide +kernel
theorem d_M_boundFor_10 : decode (m_M_boundFor).2.1 10 = .ok (.invokevirtual 133, 3) := by decide +kernel
theorem d_M_boundFor_13 : decode (m_M_boundFor).2.1 13 = .ok (.imul, 1) := by decide +kernel
theorem d_M_boundFor_14 : decode (m_M_boundFor).2.1 14 = .ok (.if_icmp .gt 24, 3) := by decide +kernel
theorem d_M_boundFor_17 : decode (m_M_boundFor).2.1 17 = .ok (.iinc 3 1, 3) := by decide +kernel
theorem d_M_boundFor_20 : decode (m_M_boundFor).2.1 20 = .ok (.iload 4, 2) := by decide +kernel
theorem d_M_boundFor_22 : decode (m_M_boundFor).2.1 22 = .ok (.iload_n 3, 1) := by decide +kernel
theorem d_M_boundFor_23 : decode (m_M_boundFor).2.1 23 = .ok (.aload_n 0, 1) := by decide +kernel
theorem d_M_boundFor_24 : decode (m_M_boundFor).2.1 24 = .ok (.getfield 90, 3) := by decide +kernel
theorem d_M_boundFor_27 : decode (m_M_boundFor).2.1 27 = .ok (.iconst 1, 1) := by decide +kernel
theorem d_M_boundFor_28 : decode (m_M_boundFor).2.1 28 = .ok (.isub, 1) := by decide +kernel
theorem d_M_boundFor_29 : decode (m_M_boundFor).2.1 29 = .ok (.idiv, 1) := by decide +kernel
theorem d_M_boundFor_30 : decode (m_M_boundFor).2.1 30 = .ok (.iadd, 1) := by decide +kernel
theorem d_M_boundFor_31 : decode (m_M_boundFor).2.1 31 = .ok (.iconst 1, 1) := by decide +kernel
theorem d_M_boundFor_32 : decode (m_M_boundFor).2.1 32 = .ok (.iadd, 1) := by decide +kernel
theorem d_M_boundFor_33 : decode (m_M_boundFor).2.1 33 = .ok (.istore 4, 2) := by decide +kernel
theorem d_M_boundFor_35 : decode (m_M_boundFor).2.1 35 = .ok (.goto (-30), 3) := by decide +kernel
theorem d_M_boundFor_38 : decode (m_M_boundFor).2.1 38 = .ok (.iload_n 3, 1) := by decide +kernel
theorem d_M_boundFor_39 : decode (m_M_boundFor).2.1 39 = .ok (.ireturn, 1) := by decide +kernel
theorem d_M_radiusFor_0 : decode (m_M_radiusFor).2.1 0 = .ok (.iload_n 2, 1) := by decide +kernel
theorem d_M_radiusFor_1 : decode (m_M_radiusFor).2.1 1 = .ok (.aload_n 0, 1) := by decide +kernel
theorem d_M_radiusFor_2 : decode (m_M_radiusFor).2.1 2 = .ok (.getfield 90, 3) := by decide +kernel
theorem d_M_radiusFor_5 : decode (m_M_radiusFor).2.1 5 = .ok (.isub, 1) := by decide +kernel
theorem d_M_radiusFor_6 : decode (m_M_radiusFor).2.1 6 = .ok (.iconst 2, 1) := by decide +kernel
theorem d_M_radiusFor_7 : decode (m_M_radiusFor).2.1 7 = .ok (.idiv, 1) := by decide +kernel
theorem d_M_radiusFor_8 : decode (m_M_radiusFor).2.1 8 = .ok (.istore_n 3, 1) := by decide +kernel
theorem d_M_radiusFor_9 : decode (m_M_radiusFor).2.1 9 = .ok (.iload_n 2, 1) := by decide +kernel
theorem d_M_radiusFor_10 : decode (m_M_radiusFor).2.1 10 = .ok (.iconst 1, 1) := by decide +kernel
theorem d_M_radiusFor_11 : decode (m_M_radiusFor).2.1 11 = .ok (.isub, 1) := by decide +kernel
theorem d_M_radiusFor_12 : decode (m_M_radiusFor).2.1 12 = .ok (.aload_n 0, 1) := by decide +kernel
theorem d_M_radiusFor_13 : decode (m_M_radiusFor).2.1 13 = .ok (.iload_n 1, 1) := by decide +kernel
theorem d_M_radiusFor_14 : decode (m_M_radiusFor).2.1 14 = .ok (.iload_n 2, 1) := by decide +kernel
theorem d_M_radiusFor_15 : decode (m_M_radiusFor).2.1 15 = .ok (.invokevirtual 136, 3) := by decide +kernel
theorem d_M_radiusFor_18 : decode (m_M_radiusFor).2.1 18 = .ok (.iload_n 1, 1) := by decide +kernel
theorem d_M_radiusFor_19 : decode (m_M_radiusFor).2.1 19 = .ok (.idiv, 1) := by decide +kernel
theorem d_M_radiusFor_20 : decode (m_M_radiusFor).2.1 20 = .ok (.isub, 1) := by decide +kernel
theorem d_M_radiusFor_21 : decode (m_M_radiusFor).2.1 21 = .ok (.istore 4, 2) := by decide +kernel
theorem d_M_radiusFor_23 : decode (m_M_radiusFor).2.1 23 = .ok (.iload 4, 2) := by decide +kernel
theorem d_M_radiusFor_25 : decode (m_M_radiusFor).2.1 25 = .ok (.iload_n 3, 1) := by decide +kernel
theorem d_M_radiusFor_26 : decode (m_M_radiusFor).2.1 26 = .ok (.if_icmp .le 8, 3) := by decide +kernel
theorem d_M_radiusFor_29 : decode (m_M_radiusFor).2.1 29 = .ok (.iload 4, 2) := by decide +kernel
theorem d_M_radiusFor_31 : decode (m_M_radiusFor).2.1 31 = .ok (.goto 4, 3) := by decide +kernel
theorem d_M_radiusFor_34 : decode (m_M_radiusFor).2.1 34 = .ok (.iload_n 3, 1) := by decide +kernel
theorem d_M_radiusFor_35 : decode (m_M_radiusFor).2.1 35 = .ok (.ireturn, 1) := by decide +kernel
theorem d_M_isBefore_0 : decode (m_M_isBefore).2.1 0 = .ok (.iconst 0, 1) := by decide +kernel
theorem d_M_isBefore_1 : decode (m_M_isBefore).2.1 1 = .ok (.istore_n 3, 1) := by decide +kernel
theorem d_M_isBefore_2 : decode (m_M_isBefore).2.1 2 = .ok (.iload_n 3, 1) := by decide +kernel
theorem d_M_isBefore_3 : decode (m_M_isBefore).2.1 3 = .ok (.aload_n 0, 1) := by decide +kernel
theorem d_M_isBefore_4 : decode (m_M_isBefore).2.1 4 = .ok (.getfield 87, 3) := by decide +kernel
theorem d_M_isBefore_7 : decode (m_M_isBefore).2.1 7 = .ok (.iconst 1, 1) := by decide +kernel
theorem d_M_isBefore_8 : decode (m_M_isBefore).2.1 8 = .ok (.isub, 1) := by decide +kernel
theorem d_M_isBefore_9 : decode (m_M_isBefore).2.1 9 = .ok (.if_icmp .ge 24, 3) := by decide +kernel
theorem d_M_isBefore_12 : decode (m_M_isBefore).2.1 12 = .ok (.aload_n 0, 1) := by decide +kernel
theorem d_M_isBefore_13 : decode (m_M_isBefore).2.1 13 = .ok (.iload_n 1, 1) := by decide +kernel
theorem d_M_isBefore_14 : decode (m_M_isBefore).2.1 14 = .ok (.iload_n 3, 1) := by decide +kernel
theorem d_M_isBefore_15 : decode (m_M_isBefore).2.1 15 = .ok (.invokevirtual 102, 3) := by decide +kernel
theorem d_M_isBefore_18 : decode (m_M_isBefore).2.1 18 = .ok (.aload_n 0, 1) := by decide +kernel
theorem d_M_isBefore_19 : decode (m_M_isBefore).2.1 19 = .ok (.iload_n 2, 1) := by decide +kernel
theorem d_M_isBefore_20 : decode (m_M_isBefore).2.1 20 = .ok (.iload_n 3, 1) := by decide +kernel
theorem d_M_isBefore_21 : decode (m_M_isBefore).2.1 21 = .ok (.invokevirtual 102, 3) := by decide +kernel
theorem d_M_isBefore_24 : decode (m_M_isBefore).2.1 24 = .ok (.if_icmp .ne 9, 3) := by decide +kernel
theorem d_M_isBefore_27 : decode (m_M_isBefore).2.1 27 = .ok (.iinc 3 1, 3) := by decide +kernel
theorem d_M_isBefore_30 : decode (m_M_isBefore).2.1 30 = .ok (.goto (-28), 3) := by decide +kernel
theorem d_M_isBefore_33 : decode (m_M_isBefore).2.1 33 = .ok (.aload_n 0, 1) := by decide +kernel
theorem d_M_isBefore_34 : decode (m_M_isBefore).2.1 34 = .ok (.iload_n 1, 1) := by decide +kernel
theorem d_M_isBefore_35 : decode (m_M_isBefore).2.1 35 = .ok (.iload_n 3, 1) := by decide +kernel
theorem d_M_isBefore_36 : decode (m_M_isBefore).2.1 36 = .ok (.invokevirtual 102, 3) := by decide +kernel
theorem d_M_isBefore_39 : decode (m_M_isBefore).2.1 39 = .ok (.aload_n 0, 1) := by decide +kernel
theorem d_M_isBefore_40 : decode (m_M_isBefore).2.1 40 = .ok (.iload_n 2, 1) := by decide +kernel
theorem d_M_isBefore_41 : decode (m_M_isBefore).2.1 41 = .ok (.iload_n 3, 1) := by decide +kernel
theorem d_M_isBefore_42 : decode (m_M_isBefore).2.1 42 = .ok (.invokevirtual 102, 3) := by decide +kernel
theorem d_M_isBefore_45 : decode (m_M_isBefore).2.1 45 = .ok (.if_icmp .ge 7, 3) := by decide +kernel
theorem d_M_isBefore_48 : decode (m_M_isBefore).2.1 48 = .ok (.iconst 1, 1) := by decide +kernel
theorem d_M_isBefore_49 : decode (m_M_isBefore).2.1 49 = .ok (.goto 4, 3) := by decide +kernel
theorem d_M_isBefore_52 : decode (m_M_isBefore).2.1 52 = .ok (.iconst 0, 1) := by decide +kernel
theorem d_M_isBefore_53 : decode (m_M_isBefore).2.1 53 = .ok (.ireturn, 1) := by decide +kernel
theorem d_M_list_0 : decode (m_M_list).2.1 0 = .ok (.iload_n 1, 1) := by decide +kernel
theorem d_M_list_1 : decode (m_M_list).2.1 1 = .ok (.iconst 1, 1) := by decide +kernel
theorem d_M_list_2 : decode (m_M_list).2.1 2 = .ok (.if_icmp .lt 8, 3) := by decide +kernel
theorem d_M_list_5 : decode (m_M_list).2.1 5 = .ok (.iload_n 1, 1) := by decide +kernel
theorem d_M_list_6 : decode (m_M_list).2.1 6 = .ok (.iconst 3, 1) := by decide +kernel
theorem d_M_list_7 : decode (m_M_list).2.1 7 = .ok (.if_icmp .le 5, 3) := by decide +kernel
theorem d_M_list_10 : decode (m_M_list).2.1 10 = .ok (.iconst (-1), 1) := by decide +kernel
theorem d_M_list_11 : decode (m_M_list).2.1 11 = .ok (.ireturn, 1) := by decide +kernel
theorem d_M_list_12 : decode (m_M_list).2.1 12 = .ok (.aload_n 0, 1) := by decide +kernel
theorem d_M_list_13 : decode (m_M_list).2.1 13 = .ok (.invokevirtual 127, 3) := by decide +kernel
theorem d_M_list_16 : decode (m_M_list).2.1 16 = .ok (.istore_n 2, 1) := by decide +kernel
theorem d_M_list_17 : decode (m_M_list).2.1 17 = .ok (.iload_n 2, 1) := by decide +kernel
theorem d_M_list_18 : decode (m_M_list).2.1 18 = .ok (.aload_n 0, 1) := by decide +kernel
theorem d_M_list_19 : decode (m_M_list).2.1 19 = .ok (.getfield 90, 3) := by decide +kernel
theorem d_M_list_22 : decode (m_M_list).2.1 22 = .ok (.if_icmp .ge 6, 3) := by decide +kernel
theorem d_M_list_25 : decode (m_M_list).2.1 25 = .ok (.bipush (-3), 2) := by decide +kernel
theorem d_M_list_27 : decode (m_M_list).2.1 27 = .ok (.ireturn, 1) := by decide +kernel
theorem d_M_list_28 : decode (m_M_list).2.1 28 = .ok (.aload_n 0, 1) := by decide +kernel
theorem d_M_list_29 : decode (m_M_list).2.1 29 = .ok (.iload_n 1, 1) := by decide +kernel
theorem d_M_list_30 : decode (m_M_list).2.1 30 = .ok (.iload_n 2, 1) := by decide +kernel
theorem d_M_list_31 : decode (m_M_list).2.1 31 = .ok (.invokevirtual 139, 3) := by decide +kernel
theorem d_M_list_34 : decode (m_M_list).2.1 34 = .ok (.istore_n 3, 1) := by decide +kernel
theorem d_M_list_35 : decode (m_M_list).2.1 35 = .ok (.aload_n 0, 1) := by decide +kernel
theorem d_M_list_36 : decode (m_M_list).2.1 36 = .ok (.iconst 0, 1) := by decide +kernel
theorem d_M_list_37 : decode (m_M_list).2.1 37 = .ok (.putfield 96, 3) := by decide +kernel
theorem d_M_list_40 : decode (m_M_list).2.1 40 = .ok (.iconst 0, 1) := by decide +kernel
theorem d_M_list_41 : decode (m_M_list).2.1 41 = .ok (.istore 4, 2) := by decide +kernel
theorem d_M_list_43 : decode (m_M_list).2.1 43 = .ok (.iload 4, 2) := by decide +kernel
theorem d_M_list_45 : decode (m_M_list).2.1 45 = .ok (.aload_n 0, 1) := by decide +kernel
theorem d_M_list_46 : decode (m_M_list).2.1 46 = .ok (.invokevirtual 105, 3) := by decide +kernel
theorem d_M_list_49 : decode (m_M_list).2.1 49 = .ok (.if_icmp .ge 119, 3) := by decide +kernel
theorem d_M_list_52 : decode (m_M_list).2.1 52 = .ok (.aload_n 0, 1) := by decide +kernel
theorem d_M_list_53 : decode (m_M_list).2.1 53 = .ok (.iload 4, 2) := by decide +kernel
theorem d_M_list_55 : decode (m_M_list).2.1 55 = .ok (.iload_n 3, 1) := by decide +kernel
theorem d_M_list_56 : decode (m_M_list).2.1 56 = .ok (.invokevirtual 130, 3) := by decide +kernel
theorem d_M_list_59 : decode (m_M_list).2.1 59 = .ok (.istore 5, 2) := by decide +kernel
theorem d_M_list_61 : decode (m_M_list).2.1 61 = .ok (.iload 5, 2) := by decide +kernel
theorem d_M_list_63 : decode (m_M_list).2.1 63 = .ok (.iload_n 3, 1) := by decide +kernel
theorem d_M_list_64 : decode (m_M_list).2.1 64 = .ok (.if_icmp .gt 98, 3) := by decide +kernel
theorem d_M_list_67 : decode (m_M_list).2.1 67 = .ok (.aload_n 0, 1) := by decide +kernel
theorem d_M_list_68 : decode (m_M_list).2.1 68 = .ok (.getfield 96, 3) := by decide +kernel
theorem d_M_list_71 : decode (m_M_list).2.1 71 = .ok (.istore 6, 2) := by decide +kernel
theorem d_M_list_73 : decode (m_M_list).2.1 73 = .ok (.iload 6, 2) := by decide +kernel
theorem d_M_list_75 : decode (m_M_list).2.1 75 = .ok (.ifCond .le 59, 3) := by decide +kernel
theorem d_M_list_78 : decode (m_M_list).2.1 78 = .ok (.aload_n 0, 1) := by decide +kernel
theorem d_M_list_79 : decode (m_M_list).2.1 79 = .ok (.iload 4, 2) := by decide +kernel
theorem d_M_list_81 : decode (m_M_list).2.1 81 = .ok (.aload_n 0, 1) := by decide +kernel
theorem d_M_list_82 : decode (m_M_list).2.1 82 = .ok (.getfield 38, 3) := by decide +kernel
theorem d_M_list_85 : decode (m_M_list).2.1 85 = .ok (.iload 6, 2) := by decide +kernel
theorem d_M_list_87 : decode (m_M_list).2.1 87 = .ok (.iconst 1, 1) := by decide +kernel
theorem d_M_list_88 : decode (m_M_list).2.1 88 = .ok (.isub, 1) := by decide +kernel
theorem d_M_list_89 : decode (m_M_list).2.1 89 = .ok (.iaload, 1) := by decide +kernel
theorem d_M_list_90 : decode (m_M_list).2.1 90 = .ok (.invokevirtual 142, 3) := by decide +kernel
theorem d_M_list_93 : decode (m_M_list).2.1 93 = .ok (.ifCond .eq 41, 3) := by decide +kernel
theorem d_M_list_96 : decode (m_M_list).2.1 96 = .ok (.aload_n 0, 1) := by decide +kernel
theorem d_M_list_97 : decode (m_M_list).2.1 97 = .ok (.getfield 38, 3) := by decide +kernel
theorem d_M_list_100 : decode (m_M_list).2.1 100 = .ok (.iload 6, 2) := by decide +kernel
theorem d_M_list_102 : decode (m_M_list).2.1 102 = .ok (.aload_n 0, 1) := by decide +kernel
theorem d_M_list_103 : decode (m_M_list).2.1 103 = .ok (.getfield 38, 3) := by decide +kernel
theorem d_M_list_106 : decode (m_M_list).2.1 106 = .ok (.iload 6, 2) := by decide +kernel
theorem d_M_list_108 : decode (m_M_list).2.1 108 = .ok (.iconst 1, 1) := by decide +kernel
theorem d_M_list_109 : decode (m_M_list).2.1 109 = .ok (.isub, 1) := by decide +kernel
theorem d_M_list_110 : decode (m_M_list).2.1 110 = .ok (.iaload, 1) := by decide +kernel
theorem d_M_list_111 : decode (m_M_list).2.1 111 = .ok (.iastore, 1) := by decide +kernel
theorem d_M_list_112 : decode (m_M_list).2.1 112 = .ok (.aload_n 0, 1) := by decide +kernel
theorem d_M_list_113 : decode (m_M_list).2.1 113 = .ok (.getfield 41, 3) := by decide +kernel
theorem d_M_list_116 : decode (m_M_list).2.1 116 = .ok (.iload 6, 2) := by decide +kernel
theorem d_M_list_118 : decode (m_M_list).2.1 118 = .ok (.aload_n 0, 1) := by decide +kernel
theorem d_M_list_119 : decode (m_M_list).2.1 119 = .ok (.getfield 41, 3) := by decide +kernel
theorem d_M_list_122 : decode (m_M_list).2.1 122 = .ok (.iload 6, 2) := by decide +kernel
theorem d_M_list_124 : decode (m_M_list).2.1 124 = .ok (.iconst 1, 1) := by decide +kernel
theorem d_M_list_125 : decode (m_M_list).2.1 125 = .ok (.isub, 1) := by decide +kernel
theorem d_M_list_126 : decode (m_M_list).2.1 126 = .ok (.iaload, 1) := by decide +kernel
theorem d_M_list_127 : decode (m_M_list).2.1 127 = .ok (.iastore, 1) := by decide +kernel
theorem d_M_list_128 : decode (m_M_list).2.1 128 = .ok (.iinc 6 (-1), 3) := by decide +kernel
theorem d_M_list_131 : decode (m_M_list).2.1 131 = .ok (.goto (-58), 3) := by decide +kernel
theorem d_M_list_134 : decode (m_M_list).2.1 134 = .ok (.aload_n 0, 1) := by decide +kernel
theorem d_M_list_135 : decode (m_M_list).2.1 135 = .ok (.getfield 38, 3) := by decide +kernel
theorem d_M_list_138 : decode (m_M_list).2.1 138 = .ok (.iload 6, 2) := by decide +kernel
theorem d_M_list_140 : decode (m_M_list).2.1 140 = .ok (.iload 4, 2) := by decide +kernel
theorem d_M_list_142 : decode (m_M_list).2.1 142 = .ok (.iastore, 1) := by decide +kernel
theorem d_M_list_143 : decode (m_M_list).2.1 143 = .ok (.aload_n 0, 1) := by decide +kernel
theorem d_M_list_144 : decode (m_M_list).2.1 144 = .ok (.getfield 41, 3) := by decide +kernel
theorem d_M_list_147 : decode (m_M_list).2.1 147 = .ok (.iload 6, 2) := by decide +kernel
theorem d_M_list_149 : decode (m_M_list).2.1 149 = .ok (.iload 5, 2) := by decide +kernel
theorem d_M_list_151 : decode (m_M_list).2.1 151 = .ok (.iastore, 1) := by decide +kernel
theorem d_M_list_152 : decode (m_M_list).2.1 152 = .ok (.aload_n 0, 1) := by decide +kernel
theorem d_M_list_153 : decode (m_M_list).2.1 153 = .ok (.dup, 1) := by decide +kernel
theorem d_M_list_154 : decode (m_M_list).2.1 154 = .ok (.getfield 96, 3) := by decide +kernel
theorem d_M_list_157 : decode (m_M_list).2.1 157 = .ok (.iconst 1, 1) := by decide +kernel
theorem d_M_list_158 : decode (m_M_list).2.1 158 = .ok (.iadd, 1) := by decide +kernel
theorem d_M_list_159 : decode (m_M_list).2.1 159 = .ok (.putfield 96, 3) := by decide +kernel
theorem d_M_list_162 : decode (m_M_list).2.1 162 = .ok (.iinc 4 1, 3) := by decide +kernel
theorem d_M_list_165 : decode (m_M_list).2.1 165 = .ok (.goto (-122), 3) := by decide +kernel
theorem d_M_list_168 : decode (m_M_list).2.1 168 = .ok (.aload_n 0, 1) := by decide +kernel
theorem d_M_list_169 : decode (m_M_list).2.1 169 = .ok (.getfield 96, 3) := by decide +kernel
theorem d_M_list_172 : decode (m_M_list).2.1 172 = .ok (.ireturn, 1) := by decide +kernel
theorem d_M_listed_0 : decode (m_M_listed).2.1 0 = .ok (.iload_n 1, 1) := by decide +kernel
theorem d_M_listed_1 : decode (m_M_listed).2.1 1 = .ok (.ifCond .lt 19, 3) := by decide +kernel
theorem d_M_listed_4 : decode (m_M_listed).2.1 4 = .ok (.iload_n 1, 1) := by decide +kernel
theorem d_M_listed_5 : decode (m_M_listed).2.1 5 = .ok (.aload_n 0, 1) := by decide +kernel
theorem d_M_listed_6 : decode (m_M_listed).2.1 6 = .ok (.getfield 96, 3) := by decide +kernel
theorem d_M_listed_9 : decode (m_M_listed).2.1 9 = .ok (.if_icmp .ge 11, 3) := by decide +kernel
theorem d_M_listed_12 : decode (m_M_listed).2.1 12 = .ok (.aload_n 0, 1) := by decide +kernel
theorem d_M_listed_13 : decode (m_M_listed).2.1 13 = .ok (.iload_n 2, 1) := by decide +kernel
theorem d_M_listed_14 : decode (m_M_listed).2.1 14 = .ok (.invokevirtual 117, 3) := by decide +kernel
theorem d_M_listed_17 : decode (m_M_listed).2.1 17 = .ok (.ifCond .ne 7, 3) := by decide +kernel
theorem d_M_listed_20 : decode (m_M_listed).2.1 20 = .ok (.iconst (-1), 1) := by decide +kernel
theorem d_M_listed_21 : decode (m_M_listed).2.1 21 = .ok (.goto 14, 3) := by decide +kernel
theorem d_M_listed_24 : decode (m_M_listed).2.1 24 = .ok (.aload_n 0, 1) := by decide +kernel
theorem d_M_listed_25 : decode (m_M_listed).2.1 25 = .ok (.aload_n 0, 1) := by decide +kernel
theorem d_M_listed_26 : decode (m_M_listed).2.1 26 = .ok (.getfield 38, 3) := by decide +kernel
theorem d_M_listed_29 : decode (m_M_listed).2.1 29 = .ok (.iload_n 1, 1) := by decide +kernel
theorem d_M_listed_30 : decode (m_M_listed).2.1 30 = .ok (.iaload, 1) := by decide +kernel
theorem d_M_listed_31 : decode (m_M_listed).2.1 31 = .ok (.iload_n 2, 1) := by decide +kernel
theorem d_M_listed_32 : decode (m_M_listed).2.1 32 = .ok (.invokevirtual 102, 3) := by decide +kernel
theorem d_M_listed_35 : decode (m_M_listed).2.1 35 = .ok (.ireturn, 1) := by decide +kernel
theorem d_M_distance_0 : decode (m_M_distance).2.1 0 = .ok (.iload_n 1, 1) := by decide +kernel
theorem d_M_distance_1 : decode (m_M_distance).2.1 1 = .ok (.ifCond .lt 11, 3) := by decide +kernel
theorem d_M_distance_4 : decode (m_M_distance).2.1 4 = .ok (.iload_n 1, 1) := by decide +kernel
theorem d_M_distance_5 : decode (m_M_distance).2.1 5 = .ok (.aload_n 0, 1) := by decide +kernel
theorem d_M_distance_6 : decode (m_M_distance).2.1 6 = .ok (.getfield 96, 3) := by decide +kernel
theorem d_M_distance_9 : decode (m_M_distance).2.1 9 = .ok (.if_icmp .lt 7, 3) := by decide +kernel
theorem d_M_distance_12 : decode (m_M_distance).2.1 12 = .ok (.iconst (-1), 1) := by decide +kernel
theorem d_M_distance_13 : decode (m_M_distance).2.1 13 = .ok (.goto 9, 3) := by decide +kernel
theorem d_M_distance_16 : decode (m_M_distance).2.1 16 = .ok (.aload_n 0, 1) := by decide +kernel
theorem d_M_distance_17 : decode (m_M_distance).2.1 17 = .ok (.getfield 41, 3) := by decide +kernel
theorem d_M_distance_20 : decode (m_M_distance).2.1 20 = .ok (.iload_n 1, 1) := by decide +kernel
theorem d_M_distance_21 : decode (m_M_distance).2.1 21 = .ok (.iaload, 1) := by decide +kernel
theorem d_M_distance_22 : decode (m_M_distance).2.1 22 = .ok (.ireturn, 1) := by decide +kernel
theorem d_M_radius_0 : decode (m_M_radius).2.1 0 = .ok (.iload_n 1, 1) := by decide +kernel
theorem d_M_radius_1 : decode (m_M_radius).2.1 1 = .ok (.iconst 1, 1) := by decide +kernel
theorem d_M_radius_2 : decode (m_M_radius).2.1 2 = .ok (.if_icmp .lt 8, 3) := by decide +kernel
theorem d_M_radius_5 : decode (m_M_radius).2.1 5 = .ok (.iload_n 1, 1) := by decide +kernel
theorem d_M_radius_6 : decode (m_M_radius).2.1 6 = .ok (.iconst 3, 1) := by decide +kernel
theorem d_M_radius_7 : decode (m_M_radius).2.1 7 = .ok (.if_icmp .le 5, 3) := by decide +kernel
theorem d_M_radius_10 : decode (m_M_radius).2.1 10 = .ok (.iconst (-1), 1) := by decide +kernel
theorem d_M_radius_11 : decode (m_M_radius).2.1 11 = .ok (.ireturn, 1) := by decide +kernel
theorem d_M_radius_12 : decode (m_M_radius).2.1 12 = .ok (.aload_n 0, 1) := by decide +kernel
theorem d_M_radius_13 : decode (m_M_radius).2.1 13 = .ok (.invokevirtual 127, 3) := by decide +kernel
theorem d_M_radius_16 : decode (m_M_radius).2.1 16 = .ok (.istore_n 2, 1) := by decide +kernel
theorem d_M_radius_17 : decode (m_M_radius).2.1 17 = .ok (.iload_n 2, 1) := by decide +kernel
theorem d_M_radius_18 : decode (m_M_radius).2.1 18 = .ok (.aload_n 0, 1) := by decide +kernel
theorem d_M_radius_19 : decode (m_M_radius).2.1 19 = .ok (.getfield 90, 3) := by decide +kernel
theorem d_M_radius_22 : decode (m_M_radius).2.1 22 = .ok (.if_icmp .ge 8, 3) := by decide +kernel
theorem d_M_radius_25 : decode (m_M_radius).2.1 25 = .ok (.bipush (-3), 2) := by decide +kernel
theorem d_M_radius_27 : decode (m_M_radius).2.1 27 = .ok (.goto 9, 3) := by decide +kernel
theorem d_M_radius_30 : decode (m_M_radius).2.1 30 = .ok (.aload_n 0, 1) := by decide +kernel
theorem d_M_radius_31 : decode (m_M_radius).2.1 31 = .ok (.iload_n 1, 1) := by decide +kernel
theorem d_M_radius_32 : decode (m_M_radius).2.1 32 = .ok (.iload_n 2, 1) := by decide +kernel
theorem d_M_radius_33 : decode (m_M_radius).2.1 33 = .ok (.invokevirtual 139, 3) := by decide +kernel
theorem d_M_radius_36 : decode (m_M_radius).2.1 36 = .ok (.ireturn, 1) := by decide +kernel
theorem d_M_condition_0 : decode (m_M_condition).2.1 0 = .ok (.iload_n 1, 1) := by decide +kernel
theorem d_M_condition_1 : decode (m_M_condition).2.1 1 = .ok (.iload_n 3, 1) := by decide +kernel
theorem d_M_condition_2 : decode (m_M_condition).2.1 2 = .ok (.iand, 1) := by decide +kernel
theorem d_M_condition_3 : decode (m_M_condition).2.1 3 = .ok (.iload_n 3, 1) := by decide +kernel
theorem d_M_condition_4 : decode (m_M_condition).2.1 4 = .ok (.if_icmp .ne 16, 3) := by decide +kernel
theorem d_M_condition_7 : decode (m_M_condition).2.1 7 = .ok (.iload_n 2, 1) := by decide +kernel
theorem d_M_condition_8 : decode (m_M_condition).2.1 8 = .ok (.iload 4, 2) := by decide +kernel
theorem d_M_condition_10 : decode (m_M_condition).2.1 10 = .ok (.iand, 1) := by decide +kernel
theorem d_M_condition_11 : decode (m_M_condition).2.1 11 = .ok (.iload 4, 2) := by decide +kernel
theorem d_M_condition_13 : decode (m_M_condition).2.1 13 = .ok (.if_icmp .ne 7, 3) := by decide +kernel
theorem d_M_condition_16 : decode (m_M_condition).2.1 16 = .ok (.iconst 1, 1) := by decide +kernel
theorem d_M_condition_17 : decode (m_M_condition).2.1 17 = .ok (.goto 4, 3) := by decide +kernel
theorem d_M_condition_20 : decode (m_M_condition).2.1 20 = .ok (.iconst 0, 1) := by decide +kernel
theorem d_M_condition_21 : decode (m_M_condition).2.1 21 = .ok (.istore 6, 2) := by decide +kernel
theorem d_M_condition_23 : decode (m_M_condition).2.1 23 = .ok (.iload 6, 2) := by decide +kernel
theorem d_M_condition_25 : decode (m_M_condition).2.1 25 = .ok (.ifCond .ne 5, 3) := by decide +kernel
theorem d_M_condition_28 : decode (m_M_condition).2.1 28 = .ok (.iconst 0, 1) := by decide +kernel
theorem d_M_condition_29 : decode (m_M_condition).2.1 29 = .ok (.ireturn, 1) := by decide +kernel
theorem d_M_condition_30 : decode (m_M_condition).2.1 30 = .ok (.aload_n 0, 1) := by decide +kernel
theorem d_M_condition_31 : decode (m_M_condition).2.1 31 = .ok (.getfield 84, 3) := by decide +kernel
theorem d_M_condition_34 : decode (m_M_condition).2.1 34 = .ok (.ifCond .ne 7, 3) := by decide +kernel
theorem d_M_condition_37 : decode (m_M_condition).2.1 37 = .ok (.iconst 1, 1) := by decide +kernel
theorem d_M_condition_38 : decode (m_M_condition).2.1 38 = .ok (.goto 30, 3) := by decide +kernel
theorem d_M_condition_41 : decode (m_M_condition).2.1 41 = .ok (.aload_n 0, 1) := by decide +kernel
theorem d_M_condition_42 : decode (m_M_condition).2.1 42 = .ok (.iconst 1, 1) := by decide +kernel
theorem d_M_condition_43 : decode (m_M_condition).2.1 43 = .ok (.aload_n 0, 1) := by decide +kernel
theorem d_M_condition_44 : decode (m_M_condition).2.1 44 = .ok (.getfield 7, 3) := by decide +kernel
theorem d_M_condition_47 : decode (m_M_condition).2.1 47 = .ok (.bipush 32, 2) := by decide +kernel
theorem d_M_condition_49 : decode (m_M_condition).2.1 49 = .ok (.aload_n 0, 1) := by decide +kernel
theorem d_M_condition_50 : decode (m_M_condition).2.1 50 = .ok (.getfield 13, 3) := by decide +kernel
theorem d_M_condition_53 : decode (m_M_condition).2.1 53 = .ok (.iload 5, 2) := by decide +kernel
theorem d_M_condition_55 : decode (m_M_condition).2.1 55 = .ok (.iaload, 1) := by decide +kernel
theorem d_M_condition_56 : decode (m_M_condition).2.1 56 = .ok (.imul, 1) := by decide +kernel
theorem d_M_condition_57 : decode (m_M_condition).2.1 57 = .ok (.aload_n 0, 1) := by decide +kernel
theorem d_M_condition_58 : decode (m_M_condition).2.1 58 = .ok (.iload 5, 2) := by decide +kernel
theorem d_M_condition_60 : decode (m_M_condition).2.1 60 = .ok (.invokevirtual 120, 3) := by decide +kernel
theorem d_M_condition_63 : decode (m_M_condition).2.1 63 = .ok (.iadd, 1) := by decide +kernel
theorem d_M_condition_64 : decode (m_M_condition).2.1 64 = .ok (.iaload, 1) := by decide +kernel
theorem d_M_condition_65 : decode (m_M_condition).2.1 65 = .ok (.invokevirtual 80, 3) := by decide +kernel
theorem d_M_condition_68 : decode (m_M_condition).2.1 68 = .ok (.istore 7, 2) := by decide +kernel
theorem d_M_condition_70 : decode (m_M_condition).2.1 70 = .ok (.aload_n 0, 1) := by decide +kernel
theorem d_M_condition_71 : decode (m_M_condition).2.1 71 = .ok (.aload_n 0, 1) := by decide +kernel
theorem d_M_condition_72 : decode (m_M_condition).2.1 72 = .ok (.getfield 22, 3) := by decide +kernel
theorem d_M_condition_75 : decode (m_M_condition).2.1 75 = .ok (.iload 5, 2) := by decide +kernel
theorem d_M_condition_77 : decode (m_M_condition).2.1 77 = .ok (.iaload, 1) := by decide +kernel
theorem d_M_condition_78 : decode (m_M_condition).2.1 78 = .ok (.iload 7, 2) := by decide +kernel
theorem d_M_condition_80 : decode (m_M_condition).2.1 80 = .ok (.invokevirtual 80, 3) := by decide +kernel
theorem d_M_condition_83 : decode (m_M_condition).2.1 83 = .ok (.istore 8, 2) := by decide +kernel
theorem d_M_condition_85 : decode (m_M_condition).2.1 85 = .ok (.aload_n 0, 1) := by decide +kernel
theorem d_M_condition_86 : decode (m_M_condition).2.1 86 = .ok (.getfield 7, 3) := by decide +kernel
theorem d_M_condition_89 : decode (m_M_condition).2.1 89 = .ok (.bipush 32, 2) := by decide +kernel
theorem d_M_condition_91 : decode (m_M_condition).2.1 91 = .ok (.aload_n 0, 1) := by decide +kernel
theorem d_M_condition_92 : decode (m_M_condition).2.1 92 = .ok (.aload_n 0, 1) := by decide +kernel
theorem d_M_condition_93 : decode (m_M_condition).2.1 93 = .ok (.getfield 13, 3) := by decide +kernel
theorem d_M_condition_96 : decode (m_M_condition).2.1 96 = .ok (.iload 5, 2) := by decide +kernel
theorem d_M_condition_98 : decode (m_M_condition).2.1 98 = .ok (.iaload, 1) := by decide +kernel
theorem d_M_condition_99 : decode (m_M_condition).2.1 99 = .ok (.iload_n 1, 1) := by decide +kernel
theorem d_M_condition_100 : decode (m_M_condition).2.1 100 = .ok (.iload_n 3, 1) := by decide +kernel
theorem d_M_condition_101 : decode (m_M_condition).2.1 101 = .ok (.isub, 1) := by decide +kernel
theorem d_M_condition_102 : decode (m_M_condition).2.1 102 = .ok (.invokevirtual 124, 3) := by decide +kernel
theorem d_M_condition_105 : decode (m_M_condition).2.1 105 = .ok (.imul, 1) := by decide +kernel
theorem d_M_condition_106 : decode (m_M_condition).2.1 106 = .ok (.aload_n 0, 1) := by decide +kernel
theorem d_M_condition_107 : decode (m_M_condition).2.1 107 = .ok (.iload 8, 2) := by decide +kernel
theorem d_M_condition_109 : decode (m_M_condition).2.1 109 = .ok (.iload_n 2, 1) := by decide +kernel
theorem d_M_condition_110 : decode (m_M_condition).2.1 110 = .ok (.iload 4, 2) := by decide +kernel
theorem d_M_condition_112 : decode (m_M_condition).2.1 112 = .ok (.isub, 1) := by decide +kernel
theorem d_M_condition_113 : decode (m_M_condition).2.1 113 = .ok (.invokevirtual 124, 3) := by decide +kernel
theorem d_M_condition_116 : decode (m_M_condition).2.1 116 = .ok (.iadd, 1) := by decide +kernel
theorem d_M_condition_117 : decode (m_M_condition).2.1 117 = .ok (.iaload, 1) := by decide +kernel
theorem d_M_condition_118 : decode (m_M_condition).2.1 118 = .ok (.ireturn, 1) := by decide +kernel
theorem d_M_layTerm_0 : decode (m_M_layTerm).2.1 0 = .ok (.iconst 0, 1) := by decide +kernel
theorem d_M_layTerm_1 : decode (m_M_layTerm).2.1 1 = .ok (.istore 4, 2) := by decide +kernel
theorem d_M_layTerm_3 : decode (m_M_layTerm).2.1 3 = .ok (.iconst 0, 1) := by decide +kernel
theorem d_M_layTerm_4 : decode (m_M_layTerm).2.1 4 = .ok (.istore 5, 2) := by decide +kernel
theorem d_M_layTerm_6 : decode (m_M_layTerm).2.1 6 = .ok (.iload 5, 2) := by decide +kernel
theorem d_M_layTerm_8 : decode (m_M_layTerm).2.1 8 = .ok (.aload_n 0, 1) := by decide +kernel
theorem d_M_layTerm_9 : decode (m_M_layTerm).2.1 9 = .ok (.getfield 87, 3) := by decide +kernel
theorem d_M_layTerm_12 : decode (m_M_layTerm).2.1 12 = .ok (.if_icmp .ge 79, 3) := by decide +kernel
theorem d_M_layTerm_15 : decode (m_M_layTerm).2.1 15 = .ok (.iconst 0, 1) := by decide +kernel
theorem d_M_layTerm_16 : decode (m_M_layTerm).2.1 16 = .ok (.istore 6, 2) := by decide +kernel
theorem d_M_layTerm_18 : decode (m_M_layTerm).2.1 18 = .ok (.iload 6, 2) := by decide +kernel
theorem d_M_layTerm_20 : decode (m_M_layTerm).2.1 20 = .ok (.iload_n 3, 1) := by decide +kernel
theorem d_M_layTerm_21 : decode (m_M_layTerm).2.1 21 = .ok (.iload_n 3, 1) := by decide +kernel
theorem d_M_layTerm_22 : decode (m_M_layTerm).2.1 22 = .ok (.imul, 1) := by decide +kernel
theorem d_M_layTerm_23 : decode (m_M_layTerm).2.1 23 = .ok (.if_icmp .ge 62, 3) := by decide +kernel
theorem d_M_layTerm_26 : decode (m_M_layTerm).2.1 26 = .ok (.aload_n 0, 1) := by decide +kernel
theorem d_M_layTerm_27 : decode (m_M_layTerm).2.1 27 = .ok (.getfield 25, 3) := by decide +kernel
theorem d_M_layTerm_30 : decode (m_M_layTerm).2.1 30 = .ok (.iload 5, 2) := by decide +kernel
theorem d_M_layTerm_32 : decode (m_M_layTerm).2.1 32 = .ok (.baload, 1) := by decide +kernel
theorem d_M_layTerm_33 : decode (m_M_layTerm).2.1 33 = .ok (.ifCond .ne 52, 3) := by decide +kernel
theorem d_M_layTerm_36 : decode (m_M_layTerm).2.1 36 = .ok (.iload 6, 2) := by decide +kernel
theorem d_M_layTerm_38 : decode (m_M_layTerm).2.1 38 = .ok (.iload_n 3, 1) := by decide +kernel
theorem d_M_layTerm_39 : decode (m_M_layTerm).2.1 39 = .ok (.idiv, 1) := by decide +kernel
theorem d_M_layTerm_40 : decode (m_M_layTerm).2.1 40 = .ok (.istore 7, 2) := by decide +kernel
theorem d_M_layTerm_42 : decode (m_M_layTerm).2.1 42 = .ok (.iload 6, 2) := by decide +kernel
theorem d_M_layTerm_44 : decode (m_M_layTerm).2.1 44 = .ok (.iload_n 3, 1) := by decide +kernel
theorem d_M_layTerm_45 : decode (m_M_layTerm).2.1 45 = .ok (.irem, 1) := by decide +kernel
theorem d_M_layTerm_46 : decode (m_M_layTerm).2.1 46 = .ok (.istore 8, 2) := by decide +kernel
theorem d_M_layTerm_48 : decode (m_M_layTerm).2.1 48 = .ok (.iload 7, 2) := by decide +kernel
theorem d_M_layTerm_50 : decode (m_M_layTerm).2.1 50 = .ok (.iload 8, 2) := by decide +kernel
theorem d_M_layTerm_52 : decode (m_M_layTerm).2.1 52 = .ok (.iadd, 1) := by decide +kernel
theorem d_M_layTerm_53 : decode (m_M_layTerm).2.1 53 = .ok (.iload_n 3, 1) := by decide +kernel
theorem d_M_layTerm_54 : decode (m_M_layTerm).2.1 54 = .ok (.if_icmp .ge 25, 3) := by decide +kernel
theorem d_M_layTerm_57 : decode (m_M_layTerm).2.1 57 = .ok (.aload_n 0, 1) := by decide +kernel
theorem d_M_layTerm_58 : decode (m_M_layTerm).2.1 58 = .ok (.getfield 50, 3) := by decide +kernel
theorem d_M_layTerm_61 : decode (m_M_layTerm).2.1 61 = .ok (.iload 4, 2) := by decide +kernel
theorem d_M_layTerm_63 : decode (m_M_layTerm).2.1 63 = .ok (.aload_n 0, 1) := by decide +kernel
theorem d_M_layTerm_64 : decode (m_M_layTerm).2.1 64 = .ok (.iload_n 1, 1) := by decide +kernel
theorem d_M_layTerm_65 : decode (m_M_layTerm).2.1 65 = .ok (.iload_n 2, 1) := by decide +kernel
theorem d_M_layTerm_66 : decode (m_M_layTerm).2.1 66 = .ok (.iload 7, 2) := by decide +kernel
theorem d_M_layTerm_68 : decode (m_M_layTerm).2.1 68 = .ok (.iload 8, 2) := by decide +kernel
theorem d_M_layTerm_70 : decode (m_M_layTerm).2.1 70 = .ok (.iload 5, 2) := by decide +kernel
theorem d_M_layTerm_72 : decode (m_M_layTerm).2.1 72 = .ok (.invokevirtual 145, 3) := by decide +kernel
theorem d_M_layTerm_75 : decode (m_M_layTerm).2.1 75 = .ok (.iastore, 1) := by decide +kernel
theorem d_M_layTerm_76 : decode (m_M_layTerm).2.1 76 = .ok (.iinc 4 1, 3) := by decide +kernel
theorem d_M_layTerm_79 : decode (m_M_layTerm).2.1 79 = .ok (.iinc 6 1, 3) := by decide +kernel
theorem d_M_layTerm_82 : decode (m_M_layTerm).2.1 82 = .ok (.goto (-64), 3) := by decide +kernel
theorem d_M_layTerm_85 : decode (m_M_layTerm).2.1 85 = .ok (.iinc 5 1, 3) := by decide +kernel
theorem d_M_layTerm_88 : decode (m_M_layTerm).2.1 88 = .ok (.goto (-82), 3) := by decide +kernel
theorem d_M_layTerm_91 : decode (m_M_layTerm).2.1 91 = .ok (.iload 4, 2) := by decide +kernel
theorem d_M_layTerm_93 : decode (m_M_layTerm).2.1 93 = .ok (.ireturn, 1) := by decide +kernel
theorem d_M_isNew_0 : decode (m_M_isNew).2.1 0 = .ok (.iconst 0, 1) := by decide +kernel
theorem d_M_isNew_1 : decode (m_M_isNew).2.1 1 = .ok (.istore_n 3, 1) := by decide +kernel
theorem d_M_isNew_2 : decode (m_M_isNew).2.1 2 = .ok (.iload_n 3, 1) := by decide +kernel
theorem d_M_isNew_3 : decode (m_M_isNew).2.1 3 = .ok (.iload_n 2, 1) := by decide +kernel
theorem d_M_isNew_4 : decode (m_M_isNew).2.1 4 = .ok (.if_icmp .ge 85, 3) := by decide +kernel
theorem d_M_isNew_7 : decode (m_M_isNew).2.1 7 = .ok (.aload_n 0, 1) := by decide +kernel
theorem d_M_isNew_8 : decode (m_M_isNew).2.1 8 = .ok (.getfield 50, 3) := by decide +kernel
theorem d_M_isNew_11 : decode (m_M_isNew).2.1 11 = .ok (.aload_n 0, 1) := by decide +kernel
theorem d_M_isNew_12 : decode (m_M_isNew).2.1 12 = .ok (.getfield 47, 3) := by decide +kernel
theorem d_M_isNew_15 : decode (m_M_isNew).2.1 15 = .ok (.iload_n 3, 1) := by decide +kernel
theorem d_M_isNew_16 : decode (m_M_isNew).2.1 16 = .ok (.iaload, 1) := by decide +kernel
theorem d_M_isNew_17 : decode (m_M_isNew).2.1 17 = .ok (.iaload, 1) := by decide +kernel
theorem d_M_isNew_18 : decode (m_M_isNew).2.1 18 = .ok (.istore 4, 2) := by decide +kernel
theorem d_M_isNew_20 : decode (m_M_isNew).2.1 20 = .ok (.aload_n 0, 1) := by decide +kernel
theorem d_M_isNew_21 : decode (m_M_isNew).2.1 21 = .ok (.getfield 47, 3) := by decide +kernel
theorem d_M_isNew_24 : decode (m_M_isNew).2.1 24 = .ok (.iload_n 3, 1) := by decide +kernel
theorem d_M_isNew_25 : decode (m_M_isNew).2.1 25 = .ok (.iaload, 1) := by decide +kernel
theorem d_M_isNew_26 : decode (m_M_isNew).2.1 26 = .ok (.istore 5, 2) := by decide +kernel
theorem d_M_isNew_28 : decode (m_M_isNew).2.1 28 = .ok (.iload 5, 2) := by decide +kernel
theorem d_M_isNew_30 : decode (m_M_isNew).2.1 30 = .ok (.iload_n 1, 1) := by decide +kernel
theorem d_M_isNew_31 : decode (m_M_isNew).2.1 31 = .ok (.if_icmp .ge 52, 3) := by decide +kernel
theorem d_M_isNew_34 : decode (m_M_isNew).2.1 34 = .ok (.iload 4, 2) := by decide +kernel
theorem d_M_isNew_36 : decode (m_M_isNew).2.1 36 = .ok (.ifCond .eq 47, 3) := by decide +kernel
theorem d_M_isNew_39 : decode (m_M_isNew).2.1 39 = .ok (.aload_n 0, 1) := by decide +kernel
theorem d_M_isNew_40 : decode (m_M_isNew).2.1 40 = .ok (.getfield 50, 3) := by decide +kernel
theorem d_M_isNew_43 : decode (m_M_isNew).2.1 43 = .ok (.iload 5, 2) := by decide +kernel
theorem d_M_isNew_45 : decode (m_M_isNew).2.1 45 = .ok (.aload_n 0, 1) := by decide +kernel
theorem d_M_isNew_46 : decode (m_M_isNew).2.1 46 = .ok (.getfield 50, 3) := by decide +kernel
theorem d_M_isNew_49 : decode (m_M_isNew).2.1 49 = .ok (.iload 5, 2) := by decide +kernel
theorem d_M_isNew_51 : decode (m_M_isNew).2.1 51 = .ok (.iaload, 1) := by decide +kernel
theorem d_M_isNew_52 : decode (m_M_isNew).2.1 52 = .ok (.aload_n 0, 1) := by decide +kernel
theorem d_M_isNew_53 : decode (m_M_isNew).2.1 53 = .ok (.getfield 7, 3) := by decide +kernel
theorem d_M_isNew_56 : decode (m_M_isNew).2.1 56 = .ok (.bipush 32, 2) := by decide +kernel
theorem d_M_isNew_58 : decode (m_M_isNew).2.1 58 = .ok (.iload 4, 2) := by decide +kernel
theorem d_M_isNew_60 : decode (m_M_isNew).2.1 60 = .ok (.imul, 1) := by decide +kernel
theorem d_M_isNew_61 : decode (m_M_isNew).2.1 61 = .ok (.aload_n 0, 1) := by decide +kernel
theorem d_M_isNew_62 : decode (m_M_isNew).2.1 62 = .ok (.getfield 44, 3) := by decide +kernel
theorem d_M_isNew_65 : decode (m_M_isNew).2.1 65 = .ok (.bipush 120, 2) := by decide +kernel
theorem d_M_isNew_67 : decode (m_M_isNew).2.1 67 = .ok (.iload_n 3, 1) := by decide +kernel
theorem d_M_isNew_68 : decode (m_M_isNew).2.1 68 = .ok (.imul, 1) := by decide +kernel
theorem d_M_isNew_69 : decode (m_M_isNew).2.1 69 = .ok (.iload 5, 2) := by decide +kernel
theorem d_M_isNew_71 : decode (m_M_isNew).2.1 71 = .ok (.iadd, 1) := by decide +kernel
theorem d_M_isNew_72 : decode (m_M_isNew).2.1 72 = .ok (.iaload, 1) := by decide +kernel
theorem d_M_isNew_73 : decode (m_M_isNew).2.1 73 = .ok (.iadd, 1) := by decide +kernel
theorem d_M_isNew_74 : decode (m_M_isNew).2.1 74 = .ok (.iaload, 1) := by decide +kernel
theorem d_M_isNew_75 : decode (m_M_isNew).2.1 75 = .ok (.ixor, 1) := by decide +kernel
theorem d_M_isNew_76 : decode (m_M_isNew).2.1 76 = .ok (.iastore, 1) := by decide +kernel
theorem d_M_isNew_77 : decode (m_M_isNew).2.1 77 = .ok (.iinc 5 1, 3) := by decide +kernel
theorem d_M_isNew_80 : decode (m_M_isNew).2.1 80 = .ok (.goto (-52), 3) := by decide +kernel
theorem d_M_isNew_83 : decode (m_M_isNew).2.1 83 = .ok (.iinc 3 1, 3) := by decide +kernel
theorem d_M_isNew_86 : decode (m_M_isNew).2.1 86 = .ok (.goto (-84), 3) := by decide +kernel
theorem d_M_isNew_89 : decode (m_M_isNew).2.1 89 = .ok (.iconst 0, 1) := by decide +kernel
theorem d_M_isNew_90 : decode (m_M_isNew).2.1 90 = .ok (.istore_n 3, 1) := by decide +kernel
theorem d_M_isNew_91 : decode (m_M_isNew).2.1 91 = .ok (.iload_n 3, 1) := by decide +kernel
theorem d_M_isNew_92 : decode (m_M_isNew).2.1 92 = .ok (.iload_n 1, 1) := by decide +kernel
theorem d_M_isNew_93 : decode (m_M_isNew).2.1 93 = .ok (.if_icmp .ge 18, 3) := by decide +kernel
theorem d_M_isNew_96 : decode (m_M_isNew).2.1 96 = .ok (.aload_n 0, 1) := by decide +kernel
theorem d_M_isNew_97 : decode (m_M_isNew).2.1 97 = .ok (.getfield 50, 3) := by decide +kernel
theorem d_M_isNew_100 : decode (m_M_isNew).2.1 100 = .ok (.iload_n 3, 1) := by decide +kernel
theorem d_M_isNew_101 : decode (m_M_isNew).2.1 101 = .ok (.iaload, 1) := by decide +kernel
theorem d_M_isNew_102 : decode (m_M_isNew).2.1 102 = .ok (.ifCond .ne 9, 3) := by decide +kernel
theorem d_M_isNew_105 : decode (m_M_isNew).2.1 105 = .ok (.iinc 3 1, 3) := by decide +kernel
theorem d_M_isNew_108 : decode (m_M_isNew).2.1 108 = .ok (.goto (-17), 3) := by decide +kernel
theorem d_M_isNew_111 : decode (m_M_isNew).2.1 111 = .ok (.iload_n 3, 1) := by decide +kernel
theorem d_M_isNew_112 : decode (m_M_isNew).2.1 112 = .ok (.iload_n 1, 1) := by decide +kernel
theorem d_M_isNew_113 : decode (m_M_isNew).2.1 113 = .ok (.if_icmp .ne 5, 3) := by decide +kernel
theorem d_M_isNew_116 : decode (m_M_isNew).2.1 116 = .ok (.iconst 0, 1) := by decide +kernel
theorem d_M_isNew_117 : decode (m_M_isNew).2.1 117 = .ok (.ireturn, 1) := by decide +kernel
theorem d_M_isNew_118 : decode (m_M_isNew).2.1 118 = .ok (.aload_n 0, 1) := by decide +kernel
theorem d_M_isNew_119 : decode (m_M_isNew).2.1 119 = .ok (.getfield 47, 3) := by decide +kernel
theorem d_M_isNew_122 : decode (m_M_isNew).2.1 122 = .ok (.iload_n 2, 1) := by decide +kernel
theorem d_M_isNew_123 : decode (m_M_isNew).2.1 123 = .ok (.iload_n 3, 1) := by decide +kernel
theorem d_M_isNew_124 : decode (m_M_isNew).2.1 124 = .ok (.iastore, 1) := by decide +kernel
theorem d_M_isNew_125 : decode (m_M_isNew).2.1 125 = .ok (.aload_n 0, 1) := by decide +kernel
theorem d_M_isNew_126 : decode (m_M_isNew).2.1 126 = .ok (.iconst 1, 1) := by decide +kernel
theorem d_M_isNew_127 : decode (m_M_isNew).2.1 127 = .ok (.aload_n 0, 1) := by decide +kernel
theorem d_M_isNew_128 : decode (m_M_isNew).2.1 128 = .ok (.getfield 50, 3) := by decide +kernel
theorem d_M_isNew_131 : decode (m_M_isNew).2.1 131 = .ok (.iload_n 3, 1) := by decide +kernel
theorem d_M_isNew_132 : decode (m_M_isNew).2.1 132 = .ok (.iaload, 1) := by decide +kernel
theorem d_M_isNew_133 : decode (m_M_isNew).2.1 133 = .ok (.invokevirtual 80, 3) := by decide +kernel
theorem d_M_isNew_136 : decode (m_M_isNew).2.1 136 = .ok (.istore 4, 2) := by decide +kernel
theorem d_M_isNew_138 : decode (m_M_isNew).2.1 138 = .ok (.iconst 0, 1) := by decide +kernel
theorem d_M_isNew_139 : decode (m_M_isNew).2.1 139 = .ok (.istore 5, 2) := by decide +kernel
theorem d_M_isNew_141 : decode (m_M_isNew).2.1 141 = .ok (.iload 5, 2) := by decide +kernel
theorem d_M_isNew_143 : decode (m_M_isNew).2.1 143 = .ok (.iload_n 1, 1) := by decide +kernel
theorem d_M_isNew_144 : decode (m_M_isNew).2.1 144 = .ok (.if_icmp .ge 39, 3) := by decide +kernel
theorem d_M_isNew_147 : decode (m_M_isNew).2.1 147 = .ok (.aload_n 0, 1) := by decide +kernel
theorem d_M_isNew_148 : decode (m_M_isNew).2.1 148 = .ok (.getfield 44, 3) := by decide +kernel
theorem d_M_isNew_151 : decode (m_M_isNew).2.1 151 = .ok (.bipush 120, 2) := by decide +kernel
theorem d_M_isNew_153 : decode (m_M_isNew).2.1 153 = .ok (.iload_n 2, 1) := by decide +kernel
theorem d_M_isNew_154 : decode (m_M_isNew).2.1 154 = .ok (.imul, 1) := by decide +kernel
theorem d_M_isNew_155 : decode (m_M_isNew).2.1 155 = .ok (.iload 5, 2) := by decide +kernel
theorem d_M_isNew_157 : decode (m_M_isNew).2.1 157 = .ok (.iadd, 1) := by decide +kernel
theorem d_M_isNew_158 : decode (m_M_isNew).2.1 158 = .ok (.aload_n 0, 1) := by decide +kernel
theorem d_M_isNew_159 : decode (m_M_isNew).2.1 159 = .ok (.getfield 7, 3) := by decide +kernel
theorem d_M_isNew_162 : decode (m_M_isNew).2.1 162 = .ok (.bipush 32, 2) := by decide +kernel
theorem d_M_isNew_164 : decode (m_M_isNew).2.1 164 = .ok (.iload 4, 2) := by decide +kernel
theorem d_M_isNew_166 : decode (m_M_isNew).2.1 166 = .ok (.imul, 1) := by decide +kernel
theorem d_M_isNew_167 : decode (m_M_isNew).2.1 167 = .ok (.aload_n 0, 1) := by decide +kernel
theorem d_M_isNew_168 : decode (m_M_isNew).2.1 168 = .ok (.getfield 50, 3) := by decide +kernel
theorem d_M_isNew_171 : decode (m_M_isNew).2.1 171 = .ok (.iload 5, 2) := by decide +kernel
theorem d_M_isNew_173 : decode (m_M_isNew).2.1 173 = .ok (.iaload, 1) := by decide +kernel
theorem d_M_isNew_174 : decode (m_M_isNew).2.1 174 = .ok (.iadd, 1) := by decide +kernel
theorem d_M_isNew_175 : decode (m_M_isNew).2.1 175 = .ok (.iaload, 1) := by decide +kernel
theorem d_M_isNew_176 : decode (m_M_isNew).2.1 176 = .ok (.iastore, 1) := by decide +kernel
theorem d_M_isNew_177 : decode (m_M_isNew).2.1 177 = .ok (.iinc 5 1, 3) := by decide +kernel
theorem d_M_isNew_180 : decode (m_M_isNew).2.1 180 = .ok (.goto (-39), 3) := by decide +kernel
theorem d_M_isNew_183 : decode (m_M_isNew).2.1 183 = .ok (.iconst 1, 1) := by decide +kernel
theorem d_M_isNew_184 : decode (m_M_isNew).2.1 184 = .ok (.ireturn, 1) := by decide +kernel
theorem d_M_weight_0 : decode (m_M_weight).2.1 0 = .ok (.iload_n 1, 1) := by decide +kernel
theorem d_M_weight_1 : decode (m_M_weight).2.1 1 = .ok (.iconst 1, 1) := by decide +kernel
theorem d_M_weight_2 : decode (m_M_weight).2.1 2 = .ok (.if_icmp .lt 8, 3) := by decide +kernel
theorem d_M_weight_5 : decode (m_M_weight).2.1 5 = .ok (.iload_n 1, 1) := by decide +kernel
theorem d_M_weight_6 : decode (m_M_weight).2.1 6 = .ok (.iconst 3, 1) := by decide +kernel
theorem d_M_weight_7 : decode (m_M_weight).2.1 7 = .ok (.if_icmp .le 5, 3) := by decide +kernel
theorem d_M_weight_10 : decode (m_M_weight).2.1 10 = .ok (.iconst (-1), 1) := by decide +kernel
theorem d_M_weight_11 : decode (m_M_weight).2.1 11 = .ok (.ireturn, 1) := by decide +kernel
theorem d_M_weight_12 : decode (m_M_weight).2.1 12 = .ok (.aload_n 0, 1) := by decide +kernel
theorem d_M_weight_13 : decode (m_M_weight).2.1 13 = .ok (.invokevirtual 127, 3) := by decide +kernel
theorem d_M_weight_16 : decode (m_M_weight).2.1 16 = .ok (.aload_n 0, 1) := by decide +kernel
theorem d_M_weight_17 : decode (m_M_weight).2.1 17 = .ok (.getfield 90, 3) := by decide +kernel
theorem d_M_weight_20 : decode (m_M_weight).2.1 20 = .ok (.if_icmp .ge 6, 3) := by decide +kernel
theorem d_M_weight_23 : decode (m_M_weight).2.1 23 = .ok (.bipush (-3), 2) := by decide +kernel
theorem d_M_weight_25 : decode (m_M_weight).2.1 25 = .ok (.ireturn, 1) := by decide +kernel
theorem d_M_weight_26 : decode (m_M_weight).2.1 26 = .ok (.iconst 0, 1) := by decide +kernel
theorem d_M_weight_27 : decode (m_M_weight).2.1 27 = .ok (.istore_n 2, 1) := by decide +kernel
theorem d_M_weight_28 : decode (m_M_weight).2.1 28 = .ok (.iconst 0, 1) := by decide +kernel
theorem d_M_weight_29 : decode (m_M_weight).2.1 29 = .ok (.istore_n 3, 1) := by decide +kernel
theorem d_M_weight_30 : decode (m_M_weight).2.1 30 = .ok (.iload_n 3, 1) := by decide +kernel
theorem d_M_weight_31 : decode (m_M_weight).2.1 31 = .ok (.sipush 200, 3) := by decide +kernel
theorem d_M_weight_34 : decode (m_M_weight).2.1 34 = .ok (.if_icmp .ge 66, 3) := by decide +kernel
theorem d_M_weight_37 : decode (m_M_weight).2.1 37 = .ok (.iconst 0, 1) := by decide +kernel
theorem d_M_weight_38 : decode (m_M_weight).2.1 38 = .ok (.istore 4, 2) := by decide +kernel
theorem d_M_weight_40 : decode (m_M_weight).2.1 40 = .ok (.aload_n 0, 1) := by decide +kernel
theorem d_M_weight_41 : decode (m_M_weight).2.1 41 = .ok (.getfield 90, 3) := by decide +kernel
theorem d_M_weight_44 : decode (m_M_weight).2.1 44 = .ok (.iconst 1, 1) := by decide +kernel
theorem d_M_weight_45 : decode (m_M_weight).2.1 45 = .ok (.isub, 1) := by decide +kernel
theorem d_M_weight_46 : decode (m_M_weight).2.1 46 = .ok (.iload 4, 2) := by decide +kernel
theorem d_M_weight_48 : decode (m_M_weight).2.1 48 = .ok (.imul, 1) := by decide +kernel
theorem d_M_weight_49 : decode (m_M_weight).2.1 49 = .ok (.iload_n 3, 1) := by decide +kernel
theorem d_M_weight_50 : decode (m_M_weight).2.1 50 = .ok (.if_icmp .gt 44, 3) := by decide +kernel
theorem d_M_weight_53 : decode (m_M_weight).2.1 53 = .ok (.aload_n 0, 1) := by decide +kernel
theorem d_M_weight_54 : decode (m_M_weight).2.1 54 = .ok (.iload_n 3, 1) := by decide +kernel
theorem d_M_weight_55 : decode (m_M_weight).2.1 55 = .ok (.aload_n 0, 1) := by decide +kernel
theorem d_M_weight_56 : decode (m_M_weight).2.1 56 = .ok (.getfield 90, 3) := by decide +kernel
theorem d_M_weight_59 : decode (m_M_weight).2.1 59 = .ok (.iconst 1, 1) := by decide +kernel
theorem d_M_weight_60 : decode (m_M_weight).2.1 60 = .ok (.isub, 1) := by decide +kernel
theorem d_M_weight_61 : decode (m_M_weight).2.1 61 = .ok (.iload 4, 2) := by decide +kernel
theorem d_M_weight_63 : decode (m_M_weight).2.1 63 = .ok (.imul, 1) := by decide +kernel
theorem d_M_weight_64 : decode (m_M_weight).2.1 64 = .ok (.isub, 1) := by decide +kernel
theorem d_M_weight_65 : decode (m_M_weight).2.1 65 = .ok (.iload 4, 2) := by decide +kernel
theorem d_M_weight_67 : decode (m_M_weight).2.1 67 = .ok (.iload_n 1, 1) := by decide +kernel
theorem d_M_weight_68 : decode (m_M_weight).2.1 68 = .ok (.invokevirtual 149, 3) := by decide +kernel
theorem d_M_weight_71 : decode (m_M_weight).2.1 71 = .ok (.istore 5, 2) := by decide +kernel
theorem d_M_weight_73 : decode (m_M_weight).2.1 73 = .ok (.aload_n 0, 1) := by decide +kernel
theorem d_M_weight_74 : decode (m_M_weight).2.1 74 = .ok (.iload 5, 2) := by decide +kernel
theorem d_M_weight_76 : decode (m_M_weight).2.1 76 = .ok (.iload_n 2, 1) := by decide +kernel
theorem d_M_weight_77 : decode (m_M_weight).2.1 77 = .ok (.invokevirtual 153, 3) := by decide +kernel
theorem d_M_weight_80 : decode (m_M_weight).2.1 80 = .ok (.ifCond .ne 5, 3) := by decide +kernel
theorem d_M_weight_83 : decode (m_M_weight).2.1 83 = .ok (.iload_n 3, 1) := by decide +kernel
theorem d_M_weight_84 : decode (m_M_weight).2.1 84 = .ok (.ireturn, 1) := by decide +kernel
theorem d_M_weight_85 : decode (m_M_weight).2.1 85 = .ok (.iinc 2 1, 3) := by decide +kernel
theorem d_M_weight_88 : decode (m_M_weight).2.1 88 = .ok (.iinc 4 1, 3) := by decide +kernel
theorem d_M_weight_91 : decode (m_M_weight).2.1 91 = .ok (.goto (-51), 3) := by decide +kernel
theorem d_M_weight_94 : decode (m_M_weight).2.1 94 = .ok (.iinc 3 1, 3) := by decide +kernel
theorem d_M_weight_97 : decode (m_M_weight).2.1 97 = .ok (.goto (-67), 3) := by decide +kernel
theorem d_M_weight_100 : decode (m_M_weight).2.1 100 = .ok (.iload_n 3, 1) := by decide +kernel
theorem d_M_weight_101 : decode (m_M_weight).2.1 101 = .ok (.ireturn, 1) := by decide +kernel
theorem d_C_init_0 : decode (m_C_init).2.1 0 = .ok (.aload_n 0, 1) := by decide +kernel
theorem d_C_init_1 : decode (m_C_init).2.1 1 = .ok (.invokespecial 3, 3) := by decide +kernel
theorem d_C_init_4 : decode (m_C_init).2.1 4 = .ok (.aload_n 0, 1) := by decide +kernel
theorem d_C_init_5 : decode (m_C_init).2.1 5 = .ok (.bipush 20, 2) := by decide +kernel
theorem d_C_init_7 : decode (m_C_init).2.1 7 = .ok (.newarray .int, 2) := by decide +kernel
theorem d_C_init_9 : decode (m_C_init).2.1 9 = .ok (.putfield 9, 3) := by decide +kernel
theorem d_C_init_12 : decode (m_C_init).2.1 12 = .ok (.aload_n 0, 1) := by decide +kernel
theorem d_C_init_13 : decode (m_C_init).2.1 13 = .ok (.bipush 20, 2) := by decide +kernel
theorem d_C_init_15 : decode (m_C_init).2.1 15 = .ok (.newarray .int, 2) := by decide +kernel
theorem d_C_init_17 : decode (m_C_init).2.1 17 = .ok (.putfield 15, 3) := by decide +kernel
theorem d_C_init_20 : decode (m_C_init).2.1 20 = .ok (.aload_n 0, 1) := by decide +kernel
theorem d_C_init_21 : decode (m_C_init).2.1 21 = .ok (.bipush 20, 2) := by decide +kernel
theorem d_C_init_23 : decode (m_C_init).2.1 23 = .ok (.newarray .int, 2) := by decide +kernel
theorem d_C_init_25 : decode (m_C_init).2.1 25 = .ok (.putfield 18, 3) := by decide +kernel
theorem d_C_init_28 : decode (m_C_init).2.1 28 = .ok (.aload_n 0, 1) := by decide +kernel
theorem d_C_init_29 : decode (m_C_init).2.1 29 = .ok (.bipush 20, 2) := by decide +kernel
theorem d_C_init_31 : decode (m_C_init).2.1 31 = .ok (.newarray .int, 2) := by decide +kernel
theorem d_C_init_33 : decode (m_C_init).2.1 33 = .ok (.putfield 21, 3) := by decide +kernel
theorem d_C_init_36 : decode (m_C_init).2.1 36 = .ok (.aload_n 0, 1) := by decide +kernel
theorem d_C_init_37 : decode (m_C_init).2.1 37 = .ok (.iconst 4, 1) := by decide +kernel
theorem d_C_init_38 : decode (m_C_init).2.1 38 = .ok (.bipush 24, 2) := by decide +kernel
theorem d_C_init_40 : decode (m_C_init).2.1 40 = .ok (.multianewarray 24 2, 4) := by decide +kernel
theorem d_C_init_44 : decode (m_C_init).2.1 44 = .ok (.putfield 26, 3) := by decide +kernel
theorem d_C_init_47 : decode (m_C_init).2.1 47 = .ok (.aload_n 0, 1) := by decide +kernel
theorem d_C_init_48 : decode (m_C_init).2.1 48 = .ok (.iconst 4, 1) := by decide +kernel
theorem d_C_init_49 : decode (m_C_init).2.1 49 = .ok (.bipush 24, 2) := by decide +kernel
theorem d_C_init_51 : decode (m_C_init).2.1 51 = .ok (.multianewarray 24 2, 4) := by decide +kernel
theorem d_C_init_55 : decode (m_C_init).2.1 55 = .ok (.putfield 29, 3) := by decide +kernel
theorem d_C_init_58 : decode (m_C_init).2.1 58 = .ok (.aload_n 0, 1) := by decide +kernel
theorem d_C_init_59 : decode (m_C_init).2.1 59 = .ok (.iconst 4, 1) := by decide +kernel
theorem d_C_init_60 : decode (m_C_init).2.1 60 = .ok (.bipush 24, 2) := by decide +kernel
theorem d_C_init_62 : decode (m_C_init).2.1 62 = .ok (.multianewarray 24 2, 4) := by decide +kernel
theorem d_C_init_66 : decode (m_C_init).2.1 66 = .ok (.putfield 32, 3) := by decide +kernel
theorem d_C_init_69 : decode (m_C_init).2.1 69 = .ok (.aload_n 0, 1) := by decide +kernel
theorem d_C_init_70 : decode (m_C_init).2.1 70 = .ok (.aload_n 1, 1) := by decide +kernel
theorem d_C_init_71 : decode (m_C_init).2.1 71 = .ok (.putfield 35, 3) := by decide +kernel
theorem d_C_init_74 : decode (m_C_init).2.1 74 = .ok (.return_, 1) := by decide +kernel
theorem d_C_begin_0 : decode (m_C_begin).2.1 0 = .ok (.aload_n 0, 1) := by decide +kernel
theorem d_C_begin_1 : decode (m_C_begin).2.1 1 = .ok (.iload_n 1, 1) := by decide +kernel
theorem d_C_begin_2 : decode (m_C_begin).2.1 2 = .ok (.putfield 39, 3) := by decide +kernel
theorem d_C_begin_5 : decode (m_C_begin).2.1 5 = .ok (.aload_n 0, 1) := by decide +kernel
theorem d_C_begin_6 : decode (m_C_begin).2.1 6 = .ok (.iload_n 2, 1) := by decide +kernel
theorem d_C_begin_7 : decode (m_C_begin).2.1 7 = .ok (.putfield 43, 3) := by decide +kernel
theorem d_C_begin_10 : decode (m_C_begin).2.1 10 = .ok (.aload_n 0, 1) := by decide +kernel
theorem d_C_begin_11 : decode (m_C_begin).2.1 11 = .ok (.iload_n 3, 1) := by decide +kernel
theorem d_C_begin_12 : decode (m_C_begin).2.1 12 = .ok (.putfield 46, 3) := by decide +kernel
theorem d_C_begin_15 : decode (m_C_begin).2.1 15 = .ok (.iconst 0, 1) := by decide +kernel
theorem d_C_begin_16 : decode (m_C_begin).2.1 16 = .ok (.istore 4, 2) := by decide +kernel
theorem d_C_begin_18 : decode (m_C_begin).2.1 18 = .ok (.iload 4, 2) := by decide +kernel
theorem d_C_begin_20 : decode (m_C_begin).2.1 20 = .ok (.iload_n 2, 1) := by decide +kernel
theorem d_C_begin_21 : decode (m_C_begin).2.1 21 = .ok (.if_icmp .ge 26, 3) := by decide +kernel
theorem d_C_begin_24 : decode (m_C_begin).2.1 24 = .ok (.aload_n 0, 1) := by decide +kernel
theorem d_C_begin_25 : decode (m_C_begin).2.1 25 = .ok (.getfield 9, 3) := by decide +kernel
theorem d_C_begin_28 : decode (m_C_begin).2.1 28 = .ok (.iload 4, 2) := by decide +kernel
theorem d_C_begin_30 : decode (m_C_begin).2.1 30 = .ok (.aload_n 0, 1) := by decide +kernel
theorem d_C_begin_31 : decode (m_C_begin).2.1 31 = .ok (.getfield 35, 3) := by decide +kernel
theorem d_C_begin_34 : decode (m_C_begin).2.1 34 = .ok (.getfield 49, 3) := by decide +kernel
theorem d_C_begin_37 : decode (m_C_begin).2.1 37 = .ok (.iload 4, 2) := by decide +kernel
theorem d_C_begin_39 : decode (m_C_begin).2.1 39 = .ok (.iaload, 1) := by decide +kernel
theorem d_C_begin_40 : decode (m_C_begin).2.1 40 = .ok (.iastore, 1) := by decide +kernel
theorem d_C_begin_41 : decode (m_C_begin).2.1 41 = .ok (.iinc 4 1, 3) := by decide +kernel
theorem d_C_begin_44 : decode (m_C_begin).2.1 44 = .ok (.goto (-26), 3) := by decide +kernel
theorem d_C_begin_47 : decode (m_C_begin).2.1 47 = .ok (.iconst 0, 1) := by decide +kernel
theorem d_C_begin_48 : decode (m_C_begin).2.1 48 = .ok (.istore 4, 2) := by decide +kernel
theorem d_C_begin_50 : decode (m_C_begin).2.1 50 = .ok (.iload 4, 2) := by decide +kernel
theorem d_C_begin_52 : decode (m_C_begin).2.1 52 = .ok (.iload_n 2, 1) := by decide +kernel
theorem d_C_begin_53 : decode (m_C_begin).2.1 53 = .ok (.if_icmp .ge 15, 3) := by decide +kernel
theorem d_C_begin_56 : decode (m_C_begin).2.1 56 = .ok (.aload_n 0, 1) := by decide +kernel
theorem d_C_begin_57 : decode (m_C_begin).2.1 57 = .ok (.iload 4, 2) := by decide +kernel
theorem d_C_begin_59 : decode (m_C_begin).2.1 59 = .ok (.invokevirtual 54, 3) := by decide +kernel
theorem d_C_begin_62 : decode (m_C_begin).2.1 62 = .ok (.iinc 4 1, 3) := by decide +kernel
theorem d_C_begin_65 : decode (m_C_begin).2.1 65 = .ok (.goto (-15), 3) := by decide +kernel
theorem d_C_begin_68 : decode (m_C_begin).2.1 68 = .ok (.aload_n 0, 1) := by decide +kernel
theorem d_C_begin_69 : decode (m_C_begin).2.1 69 = .ok (.invokevirtual 58, 3) := by decide +kernel
theorem d_C_begin_72 : decode (m_C_begin).2.1 72 = .ok (.iconst 0, 1) := by decide +kernel
theorem d_C_begin_73 : decode (m_C_begin).2.1 73 = .ok (.istore 4, 2) := by decide +kernel
theorem d_C_begin_75 : decode (m_C_begin).2.1 75 = .ok (.iload 4, 2) := by decide +kernel
theorem d_C_begin_77 : decode (m_C_begin).2.1 77 = .ok (.iload_n 3, 1) := by decide +kernel
theorem d_C_begin_78 : decode (m_C_begin).2.1 78 = .ok (.if_icmp .ge 15, 3) := by decide +kernel
theorem d_C_begin_81 : decode (m_C_begin).2.1 81 = .ok (.aload_n 0, 1) := by decide +kernel
theorem d_C_begin_82 : decode (m_C_begin).2.1 82 = .ok (.iload 4, 2) := by decide +kernel
theorem d_C_begin_84 : decode (m_C_begin).2.1 84 = .ok (.invokevirtual 61, 3) := by decide +kernel
theorem d_C_begin_87 : decode (m_C_begin).2.1 87 = .ok (.iinc 4 1, 3) := by decide +kernel
theorem d_C_begin_90 : decode (m_C_begin).2.1 90 = .ok (.goto (-15), 3) := by decide +kernel
theorem d_C_begin_93 : decode (m_C_begin).2.1 93 = .ok (.aload_n 0, 1) := by decide +kernel
theorem d_C_begin_94 : decode (m_C_begin).2.1 94 = .ok (.aload_n 0, 1) := by decide +kernel
theorem d_C_begin_95 : decode (m_C_begin).2.1 95 = .ok (.getfield 29, 3) := by decide +kernel
theorem d_C_begin_98 : decode (m_C_begin).2.1 98 = .ok (.iconst 0, 1) := by decide +kernel
theorem d_C_begin_99 : decode (m_C_begin).2.1 99 = .ok (.invokevirtual 64, 3) := by decide +kernel
theorem d_C_begin_102 : decode (m_C_begin).2.1 102 = .ok (.aload_n 0, 1) := by decide +kernel
theorem d_C_begin_103 : decode (m_C_begin).2.1 103 = .ok (.aload_n 0, 1) := by decide +kernel
theorem d_C_begin_104 : decode (m_C_begin).2.1 104 = .ok (.getfield 32, 3) := by decide +kernel
theorem d_C_begin_107 : decode (m_C_begin).2.1 107 = .ok (.iload_n 2, 1) := by decide +kernel
theorem d_C_begin_108 : decode (m_C_begin).2.1 108 = .ok (.iload_n 3, 1) := by decide +kernel
theorem d_C_begin_109 : decode (m_C_begin).2.1 109 = .ok (.isub, 1) := by decide +kernel
theorem d_C_begin_110 : decode (m_C_begin).2.1 110 = .ok (.invokevirtual 64, 3) := by decide +kernel
theorem d_C_begin_113 : decode (m_C_begin).2.1 113 = .ok (.return_, 1) := by decide +kernel
theorem d_C_fillFactors_0 : decode (m_C_fillFactors).2.1 0 = .ok (.iconst 1, 1) := by decide +kernel
theorem d_C_fillFactors_1 : decode (m_C_fillFactors).2.1 1 = .ok (.istore_n 2, 1) := by decide +kernel
theorem d_C_fillFactors_2 : decode (m_C_fillFactors).2.1 2 = .ok (.iconst 0, 1) := by decide +kernel
theorem d_C_fillFactors_3 : decode (m_C_fillFactors).2.1 3 = .ok (.istore_n 3, 1) := by decide +kernel
theorem d_C_fillFactors_4 : decode (m_C_fillFactors).2.1 4 = .ok (.iload_n 3, 1) := by decide +kernel
theorem d_C_fillFactors_5 : decode (m_C_fillFactors).2.1 5 = .ok (.aload_n 0, 1) := by decide +kernel
theorem d_C_fillFactors_6 : decode (m_C_fillFactors).2.1 6 = .ok (.getfield 43, 3) := by decide +kernel
theorem d_C_fillFactors_9 : decode (m_C_fillFactors).2.1 9 = .ok (.if_icmp .ge 36, 3) := by decide +kernel
theorem d_C_fillFactors_12 : decode (m_C_fillFactors).2.1 12 = .ok (.iload_n 3, 1) := by decide +kernel
theorem d_C_fillFactors_13 : decode (m_C_fillFactors).2.1 13 = .ok (.iload_n 1, 1) := by decide +kernel
theorem d_C_fillFactors_14 : decode (m_C_fillFactors).2.1 14 = .ok (.if_icmp .eq 25, 3) := by decide +kernel
theorem d_C_fillFactors_17 : decode (m_C_fillFactors).2.1 17 = .ok (.aload_n 0, 1) := by decide +kernel
theorem d_C_fillFactors_18 : decode (m_C_fillFactors).2.1 18 = .ok (.getfield 35, 3) := by decide +kernel
theorem d_C_fillFactors_21 : decode (m_C_fillFactors).2.1 21 = .ok (.iload_n 2, 1) := by decide +kernel
theorem d_C_fillFactors_22 : decode (m_C_fillFactors).2.1 22 = .ok (.aload_n 0, 1) := by decide +kernel
theorem d_C_fillFactors_23 : decode (m_C_fillFactors).2.1 23 = .ok (.getfield 9, 3) := by decide +kernel
theorem d_C_fillFactors_26 : decode (m_C_fillFactors).2.1 26 = .ok (.iload_n 1, 1) := by decide +kernel
theorem d_C_fillFactors_27 : decode (m_C_fillFactors).2.1 27 = .ok (.iaload, 1) := by decide +kernel
theorem d_C_fillFactors_28 : decode (m_C_fillFactors).2.1 28 = .ok (.aload_n 0, 1) := by decide +kernel
theorem d_C_fillFactors_29 : decode (m_C_fillFactors).2.1 29 = .ok (.getfield 9, 3) := by decide +kernel
theorem d_C_fillFactors_32 : decode (m_C_fillFactors).2.1 32 = .ok (.iload_n 3, 1) := by decide +kernel
theorem d_C_fillFactors_33 : decode (m_C_fillFactors).2.1 33 = .ok (.iaload, 1) := by decide +kernel
theorem d_C_fillFactors_34 : decode (m_C_fillFactors).2.1 34 = .ok (.ixor, 1) := by decide +kernel
theorem d_C_fillFactors_35 : decode (m_C_fillFactors).2.1 35 = .ok (.invokevirtual 68, 3) := by decide +kernel
theorem d_C_fillFactors_38 : decode (m_C_fillFactors).2.1 38 = .ok (.istore_n 2, 1) := by decide +kernel
theorem d_C_fillFactors_39 : decode (m_C_fillFactors).2.1 39 = .ok (.iinc 3 1, 3) := by decide +kernel
theorem d_C_fillFactors_42 : decode (m_C_fillFactors).2.1 42 = .ok (.goto (-38), 3) := by decide +kernel
theorem d_C_fillFactors_45 : decode (m_C_fillFactors).2.1 45 = .ok (.aload_n 0, 1) := by decide +kernel
theorem d_C_fillFactors_46 : decode (m_C_fillFactors).2.1 46 = .ok (.getfield 39, 3) := by decide +kernel
theorem d_C_fillFactors_49 : decode (m_C_fillFactors).2.1 49 = .ok (.ifCond .ne 28, 3) := by decide +kernel
theorem d_C_fillFactors_52 : decode (m_C_fillFactors).2.1 52 = .ok (.aload_n 0, 1) := by decide +kernel
theorem d_C_fillFactors_53 : decode (m_C_fillFactors).2.1 53 = .ok (.getfield 15, 3) := by decide +kernel
theorem d_C_fillFactors_56 : decode (m_C_fillFactors).2.1 56 = .ok (.iload_n 1, 1) := by decide +kernel
theorem d_C_fillFactors_57 : decode (m_C_fillFactors).2.1 57 = .ok (.iconst 1, 1) := by decide +kernel
theorem d_C_fillFactors_58 : decode (m_C_fillFactors).2.1 58 = .ok (.iastore, 1) := by decide +kernel
theorem d_C_fillFactors_59 : decode (m_C_fillFactors).2.1 59 = .ok (.aload_n 0, 1) := by decide +kernel
theorem d_C_fillFactors_60 : decode (m_C_fillFactors).2.1 60 = .ok (.getfield 18, 3) := by decide +kernel
theorem d_C_fillFactors_63 : decode (m_C_fillFactors).2.1 63 = .ok (.iload_n 1, 1) := by decide +kernel
theorem d_C_fillFactors_64 : decode (m_C_fillFactors).2.1 64 = .ok (.aload_n 0, 1) := by decide +kernel
theorem d_C_fillFactors_65 : decode (m_C_fillFactors).2.1 65 = .ok (.getfield 35, 3) := by decide +kernel
theorem d_C_fillFactors_68 : decode (m_C_fillFactors).2.1 68 = .ok (.iconst 1, 1) := by decide +kernel
theorem d_C_fillFactors_69 : decode (m_C_fillFactors).2.1 69 = .ok (.iload_n 2, 1) := by decide +kernel
theorem d_C_fillFactors_70 : decode (m_C_fillFactors).2.1 70 = .ok (.invokevirtual 72, 3) := by decide +kernel
theorem d_C_fillFactors_73 : decode (m_C_fillFactors).2.1 73 = .ok (.iastore, 1) := by decide +kernel
theorem d_C_fillFactors_74 : decode (m_C_fillFactors).2.1 74 = .ok (.goto 43, 3) := by decide +kernel
theorem d_C_fillFactors_77 : decode (m_C_fillFactors).2.1 77 = .ok (.aload_n 0, 1) := by decide +kernel
theorem d_C_fillFactors_78 : decode (m_C_fillFactors).2.1 78 = .ok (.getfield 15, 3) := by decide +kernel
theorem d_C_fillFactors_81 : decode (m_C_fillFactors).2.1 81 = .ok (.iload_n 1, 1) := by decide +kernel
theorem d_C_fillFactors_82 : decode (m_C_fillFactors).2.1 82 = .ok (.aload_n 0, 1) := by decide +kernel
theorem d_C_fillFactors_83 : decode (m_C_fillFactors).2.1 83 = .ok (.getfield 35, 3) := by decide +kernel
theorem d_C_fillFactors_86 : decode (m_C_fillFactors).2.1 86 = .ok (.iconst 1, 1) := by decide +kernel
theorem d_C_fillFactors_87 : decode (m_C_fillFactors).2.1 87 = .ok (.aload_n 0, 1) := by decide +kernel
theorem d_C_fillFactors_88 : decode (m_C_fillFactors).2.1 88 = .ok (.getfield 35, 3) := by decide +kernel
theorem d_C_fillFactors_91 : decode (m_C_fillFactors).2.1 91 = .ok (.aload_n 0, 1) := by decide +kernel
theorem d_C_fillFactors_92 : decode (m_C_fillFactors).2.1 92 = .ok (.getfield 9, 3) := by decide +kernel
theorem d_C_fillFactors_95 : decode (m_C_fillFactors).2.1 95 = .ok (.iload_n 1, 1) := by decide +kernel
theorem d_C_fillFactors_96 : decode (m_C_fillFactors).2.1 96 = .ok (.iaload, 1) := by decide +kernel
theorem d_C_fillFactors_97 : decode (m_C_fillFactors).2.1 97 = .ok (.iload_n 2, 1) := by decide +kernel
theorem d_C_fillFactors_98 : decode (m_C_fillFactors).2.1 98 = .ok (.invokevirtual 68, 3) := by decide +kernel
theorem d_C_fillFactors_101 : decode (m_C_fillFactors).2.1 101 = .ok (.invokevirtual 72, 3) := by decide +kernel
theorem d_C_fillFactors_104 : decode (m_C_fillFactors).2.1 104 = .ok (.iastore, 1) := by decide +kernel
theorem d_C_fillFactors_105 : decode (m_C_fillFactors).2.1 105 = .ok (.aload_n 0, 1) := by decide +kernel
theorem d_C_fillFactors_106 : decode (m_C_fillFactors).2.1 106 = .ok (.getfield 18, 3) := by decide +kernel
theorem d_C_fillFactors_109 : decode (m_C_fillFactors).2.1 109 = .ok (.iload_n 1, 1) := by decide +kernel
theorem d_C_fillFactors_110 : decode (m_C_fillFactors).2.1 110 = .ok (.aload_n 0, 1) := by decide +kernel
theorem d_C_fillFactors_111 : decode (m_C_fillFactors).2.1 111 = .ok (.getfield 9, 3) := by decide +kernel
theorem d_C_fillFactors_114 : decode (m_C_fillFactors).2.1 114 = .ok (.iload_n 1, 1) := by decide +kernel
theorem d_C_fillFactors_115 : decode (m_C_fillFactors).2.1 115 = .ok (.iaload, 1) := by decide +kernel
theorem d_C_fillFactors_116 : decode (m_C_fillFactors).2.1 116 = .ok (.iastore, 1) := by decide +kernel
theorem d_C_fillFactors_117 : decode (m_C_fillFactors).2.1 117 = .ok (.return_, 1) := by decide +kernel
theorem d_C_fillGenerator_0 : decode (m_C_fillGenerator).2.1 0 = .ok (.iconst 0, 1) := by decide +kernel
theorem d_C_fillGenerator_1 : decode (m_C_fillGenerator).2.1 1 = .ok (.istore_n 1, 1) := by decide +kernel
theorem d_C_fillGenerator_2 : decode (m_C_fillGenerator).2.1 2 = .ok (.iload_n 1, 1) := by decide +kernel
theorem d_C_fillGenerator_3 : decode (m_C_fillGenerator).2.1 3 = .ok (.aload_n 0, 1) := by decide +kernel
theorem d_C_fillGenerator_4 : decode (m_C_fillGenerator).2.1 4 = .ok (.getfield 43, 3) := by decide +kernel
theorem d_C_fillGenerator_7 : decode (m_C_fillGenerator).2.1 7 = .ok (.if_icmp .ge 16, 3) := by decide +kernel
theorem d_C_fillGenerator_10 : decode (m_C_fillGenerator).2.1 10 = .ok (.aload_n 0, 1) := by decide +kernel
theorem d_C_fillGenerator_11 : decode (m_C_fillGenerator).2.1 11 = .ok (.getfield 21, 3) := by decide +kernel
theorem d_C_fillGenerator_14 : decode (m_C_fillGenerator).2.1 14 = .ok (.iload_n 1, 1) := by decide +kernel
theorem d_C_fillGenerator_15 : decode (m_C_fillGenerator).2.1 15 = .ok (.iconst 0, 1) := by decide +kernel
theorem d_C_fillGenerator_16 : decode (m_C_fillGenerator).2.1 16 = .ok (.iastore, 1) := by decide +kernel
theorem d_C_fillGenerator_17 : decode (m_C_fillGenerator).2.1 17 = .ok (.iinc 1 1, 3) := by decide +kernel
theorem d_C_fillGenerator_20 : decode (m_C_fillGenerator).2.1 20 = .ok (.goto (-18), 3) := by decide +kernel
theorem d_C_fillGenerator_23 : decode (m_C_fillGenerator).2.1 23 = .ok (.aload_n 0, 1) := by decide +kernel
theorem d_C_fillGenerator_24 : decode (m_C_fillGenerator).2.1 24 = .ok (.getfield 21, 3) := by decide +kernel
theorem d_C_fillGenerator_27 : decode (m_C_fillGenerator).2.1 27 = .ok (.iconst 0, 1) := by decide +kernel
theorem d_C_fillGenerator_28 : decode (m_C_fillGenerator).2.1 28 = .ok (.iconst 1, 1) := by decide +kernel
theorem d_C_fillGenerator_29 : decode (m_C_fillGenerator).2.1 29 = .ok (.iastore, 1) := by decide +kernel
theorem d_C_fillGenerator_30 : decode (m_C_fillGenerator).2.1 30 = .ok (.iconst 1, 1) := by decide +kernel
theorem d_C_fillGenerator_31 : decode (m_C_fillGenerator).2.1 31 = .ok (.istore_n 1, 1) := by decide +kernel
theorem d_C_fillGenerator_32 : decode (m_C_fillGenerator).2.1 32 = .ok (.iload_n 1, 1) := by decide +kernel
theorem d_C_fillGenerator_33 : decode (m_C_fillGenerator).2.1 33 = .ok (.aload_n 0, 1) := by decide +kernel
theorem d_C_fillGenerator_34 : decode (m_C_fillGenerator).2.1 34 = .ok (.getfield 43, 3) := by decide +kernel
theorem d_C_fillGenerator_37 : decode (m_C_fillGenerator).2.1 37 = .ok (.aload_n 0, 1) := by decide +kernel
theorem d_C_fillGenerator_38 : decode (m_C_fillGenerator).2.1 38 = .ok (.getfield 46, 3) := by decide +kernel
theorem d_C_fillGenerator_41 : decode (m_C_fillGenerator).2.1 41 = .ok (.isub, 1) := by decide +kernel
theorem d_C_fillGenerator_42 : decode (m_C_fillGenerator).2.1 42 = .ok (.if_icmp .gt 80, 3) := by decide +kernel
theorem d_C_fillGenerator_45 : decode (m_C_fillGenerator).2.1 45 = .ok (.iload_n 1, 1) := by decide +kernel
theorem d_C_fillGenerator_46 : decode (m_C_fillGenerator).2.1 46 = .ok (.istore_n 2, 1) := by decide +kernel
theorem d_C_fillGenerator_47 : decode (m_C_fillGenerator).2.1 47 = .ok (.iload_n 2, 1) := by decide +kernel
theorem d_C_fillGenerator_48 : decode (m_C_fillGenerator).2.1 48 = .ok (.ifCond .le 43, 3) := by decide +kernel
theorem d_C_fillGenerator_51 : decode (m_C_fillGenerator).2.1 51 = .ok (.aload_n 0, 1) := by decide +kernel
theorem d_C_fillGenerator_52 : decode (m_C_fillGenerator).2.1 52 = .ok (.getfield 21, 3) := by decide +kernel
theorem d_C_fillGenerator_55 : decode (m_C_fillGenerator).2.1 55 = .ok (.iload_n 2, 1) := by decide +kernel
theorem d_C_fillGenerator_56 : decode (m_C_fillGenerator).2.1 56 = .ok (.aload_n 0, 1) := by decide +kernel
theorem d_C_fillGenerator_57 : decode (m_C_fillGenerator).2.1 57 = .ok (.getfield 21, 3) := by decide +kernel
theorem d_C_fillGenerator_60 : decode (m_C_fillGenerator).2.1 60 = .ok (.iload_n 2, 1) := by decide +kernel
theorem d_C_fillGenerator_61 : decode (m_C_fillGenerator).2.1 61 = .ok (.iconst 1, 1) := by decide +kernel
theorem d_C_fillGenerator_62 : decode (m_C_fillGenerator).2.1 62 = .ok (.isub, 1) := by decide +kernel
theorem d_C_fillGenerator_63 : decode (m_C_fillGenerator).2.1 63 = .ok (.iaload, 1) := by decide +kernel
theorem d_C_fillGenerator_64 : decode (m_C_fillGenerator).2.1 64 = .ok (.aload_n 0, 1) := by decide +kernel
theorem d_C_fillGenerator_65 : decode (m_C_fillGenerator).2.1 65 = .ok (.getfield 35, 3) := by decide +kernel
theorem d_C_fillGenerator_68 : decode (m_C_fillGenerator).2.1 68 = .ok (.aload_n 0, 1) := by decide +kernel
theorem d_C_fillGenerator_69 : decode (m_C_fillGenerator).2.1 69 = .ok (.getfield 9, 3) := by decide +kernel
theorem d_C_fillGenerator_72 : decode (m_C_fillGenerator).2.1 72 = .ok (.iload_n 1, 1) := by decide +kernel
theorem d_C_fillGenerator_73 : decode (m_C_fillGenerator).2.1 73 = .ok (.iaload, 1) := by decide +kernel
theorem d_C_fillGenerator_74 : decode (m_C_fillGenerator).2.1 74 = .ok (.aload_n 0, 1) := by decide +kernel
theorem d_C_fillGenerator_75 : decode (m_C_fillGenerator).2.1 75 = .ok (.getfield 21, 3) := by decide +kernel
theorem d_C_fillGenerator_78 : decode (m_C_fillGenerator).2.1 78 = .ok (.iload_n 2, 1) := by decide +kernel
theorem d_C_fillGenerator_79 : decode (m_C_fillGenerator).2.1 79 = .ok (.iaload, 1) := by decide +kernel
theorem d_C_fillGenerator_80 : decode (m_C_fillGenerator).2.1 80 = .ok (.invokevirtual 68, 3) := by decide +kernel
theorem d_C_fillGenerator_83 : decode (m_C_fillGenerator).2.1 83 = .ok (.ixor, 1) := by decide +kernel
theorem d_C_fillGenerator_84 : decode (m_C_fillGenerator).2.1 84 = .ok (.iastore, 1) := by decide +kernel
theorem d_C_fillGenerator_85 : decode (m_C_fillGenerator).2.1 85 = .ok (.iinc 2 (-1), 3) := by decide +kernel
theorem d_C_fillGenerator_88 : decode (m_C_fillGenerator).2.1 88 = .ok (.goto (-41), 3) := by decide +kernel
theorem d_C_fillGenerator_91 : decode (m_C_fillGenerator).2.1 91 = .ok (.aload_n 0, 1) := by decide +kernel
theorem d_C_fillGenerator_92 : decode (m_C_fillGenerator).2.1 92 = .ok (.getfield 21, 3) := by decide +kernel
theorem d_C_fillGenerator_95 : decode (m_C_fillGenerator).2.1 95 = .ok (.iconst 0, 1) := by decide +kernel
theorem d_C_fillGenerator_96 : decode (m_C_fillGenerator).2.1 96 = .ok (.aload_n 0, 1) := by decide +kernel
theorem d_C_fillGenerator_97 : decode (m_C_fillGenerator).2.1 97 = .ok (.getfield 35, 3) := by decide +kernel
theorem d_C_fillGenerator_100 : decode (m_C_fillGenerator).2.1 100 = .ok (.aload_n 0, 1) := by decide +kernel
theorem d_C_fillGenerator_101 : decode (m_C_fillGenerator).2.1 101 = .ok (.getfield 9, 3) := by decide +kernel
theorem d_C_fillGenerator_104 : decode (m_C_fillGenerator).2.1 104 = .ok (.iload_n 1, 1) := by decide +kernel
theorem d_C_fillGenerator_105 : decode (m_C_fillGenerator).2.1 105 = .ok (.iaload, 1) := by decide +kernel
theorem d_C_fillGenerator_106 : decode (m_C_fillGenerator).2.1 106 = .ok (.aload_n 0, 1) := by decide +kernel
theorem d_C_fillGenerator_107 : decode (m_C_fillGenerator).2.1 107 = .ok (.getfield 21, 3) := by decide +kernel
theorem d_C_fillGenerator_110 : decode (m_C_fillGenerator).2.1 110 = .ok (.iconst 0, 1) := by decide +kernel
theorem d_C_fillGenerator_111 : decode (m_C_fillGenerator).2.1 111 = .ok (.iaload, 1) := by decide +kernel
theorem d_C_fillGenerator_112 : decode (m_C_fillGenerator).2.1 112 = .ok (.invokevirtual 68, 3) := by decide +kernel
theorem d_C_fillGenerator_115 : decode (m_C_fillGenerator).2.1 115 = .ok (.iastore, 1) := by decide +kernel
theorem d_C_fillGenerator_116 : decode (m_C_fillGenerator).2.1 116 = .ok (.iinc 1 1, 3) := by decide +kernel
theorem d_C_fillGenerator_119 : decode (m_C_fillGenerator).2.1 119 = .ok (.goto (-87), 3) := by decide +kernel
theorem d_C_fillGenerator_122 : decode (m_C_fillGenerator).2.1 122 = .ok (.return_, 1) := by decide +kernel
theorem d_C_fillPlainRow_0 : decode (m_C_fillPlainRow).2.1 0 = .ok (.iconst 0, 1) := by decide +kernel
theorem d_C_fillPlainRow_1 : decode (m_C_fillPlainRow).2.1 1 = .ok (.istore_n 2, 1) := by decide +kernel
theorem d_C_fillPlainRow_2 : decode (m_C_fillPlainRow).2.1 2 = .ok (.iload_n 2, 1) := by decide +kernel
theorem d_C_fillPlainRow_3 : decode (m_C_fillPlainRow).2.1 3 = .ok (.aload_n 0, 1) := by decide +kernel
theorem d_C_fillPlainRow_4 : decode (m_C_fillPlainRow).2.1 4 = .ok (.getfield 43, 3) := by decide +kernel
theorem d_C_fillPlainRow_7 : decode (m_C_fillPlainRow).2.1 7 = .ok (.if_icmp .ge 66, 3) := by decide +kernel
theorem d_C_fillPlainRow_10 : decode (m_C_fillPlainRow).2.1 10 = .ok (.aload_n 0, 1) := by decide +kernel
theorem d_C_fillPlainRow_11 : decode (m_C_fillPlainRow).2.1 11 = .ok (.getfield 39, 3) := by decide +kernel
theorem d_C_fillPlainRow_14 : decode (m_C_fillPlainRow).2.1 14 = .ok (.ifCond .ne 28, 3) := by decide +kernel
theorem d_C_fillPlainRow_17 : decode (m_C_fillPlainRow).2.1 17 = .ok (.aload_n 0, 1) := by decide +kernel
theorem d_C_fillPlainRow_18 : decode (m_C_fillPlainRow).2.1 18 = .ok (.getfield 26, 3) := by decide +kernel
theorem d_C_fillPlainRow_21 : decode (m_C_fillPlainRow).2.1 21 = .ok (.iload_n 1, 1) := by decide +kernel
theorem d_C_fillPlainRow_22 : decode (m_C_fillPlainRow).2.1 22 = .ok (.aaload, 1) := by decide +kernel
theorem d_C_fillPlainRow_23 : decode (m_C_fillPlainRow).2.1 23 = .ok (.iload_n 2, 1) := by decide +kernel
theorem d_C_fillPlainRow_24 : decode (m_C_fillPlainRow).2.1 24 = .ok (.aload_n 0, 1) := by decide +kernel
theorem d_C_fillPlainRow_25 : decode (m_C_fillPlainRow).2.1 25 = .ok (.getfield 35, 3) := by decide +kernel
theorem d_C_fillPlainRow_28 : decode (m_C_fillPlainRow).2.1 28 = .ok (.aload_n 0, 1) := by decide +kernel
theorem d_C_fillPlainRow_29 : decode (m_C_fillPlainRow).2.1 29 = .ok (.getfield 9, 3) := by decide +kernel
theorem d_C_fillPlainRow_32 : decode (m_C_fillPlainRow).2.1 32 = .ok (.iload_n 2, 1) := by decide +kernel
theorem d_C_fillPlainRow_33 : decode (m_C_fillPlainRow).2.1 33 = .ok (.iaload, 1) := by decide +kernel
theorem d_C_fillPlainRow_34 : decode (m_C_fillPlainRow).2.1 34 = .ok (.iload_n 1, 1) := by decide +kernel
theorem d_C_fillPlainRow_35 : decode (m_C_fillPlainRow).2.1 35 = .ok (.invokevirtual 75, 3) := by decide +kernel
theorem d_C_fillPlainRow_38 : decode (m_C_fillPlainRow).2.1 38 = .ok (.iastore, 1) := by decide +kernel
theorem d_C_fillPlainRow_39 : decode (m_C_fillPlainRow).2.1 39 = .ok (.goto 28, 3) := by decide +kernel
theorem d_C_fillPlainRow_42 : decode (m_C_fillPlainRow).2.1 42 = .ok (.aload_n 0, 1) := by decide +kernel
theorem d_C_fillPlainRow_43 : decode (m_C_fillPlainRow).2.1 43 = .ok (.getfield 26, 3) := by decide +kernel
theorem d_C_fillPlainRow_46 : decode (m_C_fillPlainRow).2.1 46 = .ok (.iload_n 1, 1) := by decide +kernel
theorem d_C_fillPlainRow_47 : decode (m_C_fillPlainRow).2.1 47 = .ok (.aaload, 1) := by decide +kernel
theorem d_C_fillPlainRow_48 : decode (m_C_fillPlainRow).2.1 48 = .ok (.iload_n 2, 1) := by decide +kernel
theorem d_C_fillPlainRow_49 : decode (m_C_fillPlainRow).2.1 49 = .ok (.iload_n 2, 1) := by decide +kernel
theorem d_C_fillPlainRow_50 : decode (m_C_fillPlainRow).2.1 50 = .ok (.iload_n 1, 1) := by decide +kernel
theorem d_C_fillPlainRow_51 : decode (m_C_fillPlainRow).2.1 51 = .ok (.if_icmp .ge 7, 3) := by decide +kernel
theorem d_C_fillPlainRow_54 : decode (m_C_fillPlainRow).2.1 54 = .ok (.iconst 0, 1) := by decide +kernel
theorem d_C_fillPlainRow_55 : decode (m_C_fillPlainRow).2.1 55 = .ok (.goto 11, 3) := by decide +kernel
theorem d_C_fillPlainRow_58 : decode (m_C_fillPlainRow).2.1 58 = .ok (.aload_n 0, 1) := by decide +kernel
theorem d_C_fillPlainRow_59 : decode (m_C_fillPlainRow).2.1 59 = .ok (.getfield 21, 3) := by decide +kernel
theorem d_C_fillPlainRow_62 : decode (m_C_fillPlainRow).2.1 62 = .ok (.iload_n 2, 1) := by decide +kernel
theorem d_C_fillPlainRow_63 : decode (m_C_fillPlainRow).2.1 63 = .ok (.iload_n 1, 1) := by decide +kernel
theorem d_C_fillPlainRow_64 : decode (m_C_fillPlainRow).2.1 64 = .ok (.isub, 1) := by decide +kernel
theorem d_C_fillPlainRow_65 : decode (m_C_fillPlainRow).2.1 65 = .ok (.iaload, 1) := by decide +kernel
theorem d_C_fillPlainRow_66 : decode (m_C_fillPlainRow).2.1 66 = .ok (.iastore, 1) := by decide +kernel
theorem d_C_fillPlainRow_67 : decode (m_C_fillPlainRow).2.1 67 = .ok (.iinc 2 1, 3) := by decide +kernel
theorem d_C_fillPlainRow_70 : decode (m_C_fillPlainRow).2.1 70 = .ok (.goto (-68), 3) := by decide +kernel
theorem d_C_fillPlainRow_73 : decode (m_C_fillPlainRow).2.1 73 = .ok (.iconst 0, 1) := by decide +kernel
theorem d_C_fillPlainRow_74 : decode (m_C_fillPlainRow).2.1 74 = .ok (.istore_n 2, 1) := by decide +kernel
theorem d_C_fillPlainRow_75 : decode (m_C_fillPlainRow).2.1 75 = .ok (.iload_n 2, 1) := by decide +kernel
theorem d_C_fillPlainRow_76 : decode (m_C_fillPlainRow).2.1 76 = .ok (.aload_n 0, 1) := by decide +kernel
theorem d_C_fillPlainRow_77 : decode (m_C_fillPlainRow).2.1 77 = .ok (.getfield 46, 3) := by decide +kernel
theorem d_C_fillPlainRow_80 : decode (m_C_fillPlainRow).2.1 80 = .ok (.if_icmp .ge 32, 3) := by decide +kernel
theorem d_C_fillPlainRow_83 : decode (m_C_fillPlainRow).2.1 83 = .ok (.aload_n 0, 1) := by decide +kernel
theorem d_C_fillPlainRow_84 : decode (m_C_fillPlainRow).2.1 84 = .ok (.getfield 26, 3) := by decide +kernel
theorem d_C_fillPlainRow_87 : decode (m_C_fillPlainRow).2.1 87 = .ok (.iload_n 1, 1) := by decide +kernel
theorem d_C_fillPlainRow_88 : decode (m_C_fillPlainRow).2.1 88 = .ok (.aaload, 1) := by decide +kernel
theorem d_C_fillPlainRow_89 : decode (m_C_fillPlainRow).2.1 89 = .ok (.aload_n 0, 1) := by decide +kernel
theorem d_C_fillPlainRow_90 : decode (m_C_fillPlainRow).2.1 90 = .ok (.getfield 43, 3) := by decide +kernel
theorem d_C_fillPlainRow_93 : decode (m_C_fillPlainRow).2.1 93 = .ok (.iload_n 2, 1) := by decide +kernel
theorem d_C_fillPlainRow_94 : decode (m_C_fillPlainRow).2.1 94 = .ok (.iadd, 1) := by decide +kernel
theorem d_C_fillPlainRow_95 : decode (m_C_fillPlainRow).2.1 95 = .ok (.iload_n 1, 1) := by decide +kernel
theorem d_C_fillPlainRow_96 : decode (m_C_fillPlainRow).2.1 96 = .ok (.iload_n 2, 1) := by decide +kernel
theorem d_C_fillPlainRow_97 : decode (m_C_fillPlainRow).2.1 97 = .ok (.if_icmp .ne 7, 3) := by decide +kernel
theorem d_C_fillPlainRow_100 : decode (m_C_fillPlainRow).2.1 100 = .ok (.iconst 1, 1) := by decide +kernel
theorem d_C_fillPlainRow_101 : decode (m_C_fillPlainRow).2.1 101 = .ok (.goto 4, 3) := by decide +kernel
theorem d_C_fillPlainRow_104 : decode (m_C_fillPlainRow).2.1 104 = .ok (.iconst 0, 1) := by decide +kernel
theorem d_C_fillPlainRow_105 : decode (m_C_fillPlainRow).2.1 105 = .ok (.iastore, 1) := by decide +kernel
theorem d_C_fillPlainRow_106 : decode (m_C_fillPlainRow).2.1 106 = .ok (.iinc 2 1, 3) := by decide +kernel
theorem d_C_fillPlainRow_109 : decode (m_C_fillPlainRow).2.1 109 = .ok (.goto (-34), 3) := by decide +kernel
theorem d_C_fillPlainRow_112 : decode (m_C_fillPlainRow).2.1 112 = .ok (.return_, 1) := by decide +kernel
end
section
theorem d_C_fillUnitRows_0 : decode (m_C_fillUnitRows).2.1 0 = .ok (.aload_n 0, 1) := by decide +kernel
theorem d_C_fillUnitRows_1 : decode (m_C_fillUnitRows).2.1 1 = .ok (.getfield 43, 3) := by decide +kernel
theorem d_C_fillUnitRows_4 : decode (m_C_fillUnitRows).2.1 4 = .ok (.aload_n 0, 1) := by decide +kernel
theorem d_C_fillUnitRows_5 : decode (m_C_fillUnitRows).2.1 5 = .ok (.getfield 46, 3) := by decide +kernel
theorem d_C_fillUnitRows_8 : decode (m_C_fillUnitRows).2.1 8 = .ok (.iadd, 1) := by decide +kernel
theorem d_C_fillUnitRows_9 : decode (m_C_fillUnitRows).2.1 9 = .ok (.istore_n 3, 1) := by decide +kernel
theorem d_C_fillUnitRows_10 : decode (m_C_fillUnitRows).2.1 10 = .ok (.iconst 0, 1) := by decide +kernel
theorem d_C_fillUnitRows_11 : decode (m_C_fillUnitRows).2.1 11 = .ok (.istore 4, 2) := by decide +kernel
theorem d_C_fillUnitRows_13 : decode (m_C_fillUnitRows).2.1 13 = .ok (.iload 4, 2) := by decide +kernel
theorem d_C_fillUnitRows_15 : decode (m_C_fillUnitRows).2.1 15 = .ok (.aload_n 0, 1) := by decide +kernel
theorem d_C_fillUnitRows_16 : decode (m_C_fillUnitRows).2.1 16 = .ok (.getfield 46, 3) := by decide +kernel
theorem d_C_fillUnitRows_19 : decode (m_C_fillUnitRows).2.1 19 = .ok (.if_icmp .ge 26, 3) := by decide +kernel
theorem d_C_fillUnitRows_22 : decode (m_C_fillUnitRows).2.1 22 = .ok (.aload_n 0, 1) := by decide +kernel
theorem d_C_fillUnitRows_23 : decode (m_C_fillUnitRows).2.1 23 = .ok (.getfield 26, 3) := by decide +kernel
theorem d_C_fillUnitRows_26 : decode (m_C_fillUnitRows).2.1 26 = .ok (.iload 4, 2) := by decide +kernel
theorem d_C_fillUnitRows_28 : decode (m_C_fillUnitRows).2.1 28 = .ok (.aaload, 1) := by decide +kernel
theorem d_C_fillUnitRows_29 : decode (m_C_fillUnitRows).2.1 29 = .ok (.iconst 0, 1) := by decide +kernel
theorem d_C_fillUnitRows_30 : decode (m_C_fillUnitRows).2.1 30 = .ok (.aload_n 1, 1) := by decide +kernel
theorem d_C_fillUnitRows_31 : decode (m_C_fillUnitRows).2.1 31 = .ok (.iload 4, 2) := by decide +kernel
theorem d_C_fillUnitRows_33 : decode (m_C_fillUnitRows).2.1 33 = .ok (.aaload, 1) := by decide +kernel
theorem d_C_fillUnitRows_34 : decode (m_C_fillUnitRows).2.1 34 = .ok (.iconst 0, 1) := by decide +kernel
theorem d_C_fillUnitRows_35 : decode (m_C_fillUnitRows).2.1 35 = .ok (.iload_n 3, 1) := by decide +kernel
theorem d_C_fillUnitRows_36 : decode (m_C_fillUnitRows).2.1 36 = .ok (.invokestatic 78, 3) := by decide +kernel
theorem d_C_fillUnitRows_39 : decode (m_C_fillUnitRows).2.1 39 = .ok (.iinc 4 1, 3) := by decide +kernel
theorem d_C_fillUnitRows_42 : decode (m_C_fillUnitRows).2.1 42 = .ok (.goto (-29), 3) := by decide +kernel
theorem d_C_fillUnitRows_45 : decode (m_C_fillUnitRows).2.1 45 = .ok (.iconst 0, 1) := by decide +kernel
theorem d_C_fillUnitRows_46 : decode (m_C_fillUnitRows).2.1 46 = .ok (.istore 4, 2) := by decide +kernel
theorem d_C_fillUnitRows_48 : decode (m_C_fillUnitRows).2.1 48 = .ok (.iload 4, 2) := by decide +kernel
theorem d_C_fillUnitRows_50 : decode (m_C_fillUnitRows).2.1 50 = .ok (.aload_n 0, 1) := by decide +kernel
theorem d_C_fillUnitRows_51 : decode (m_C_fillUnitRows).2.1 51 = .ok (.getfield 46, 3) := by decide +kernel
theorem d_C_fillUnitRows_54 : decode (m_C_fillUnitRows).2.1 54 = .ok (.if_icmp .ge 117, 3) := by decide +kernel
theorem d_C_fillUnitRows_57 : decode (m_C_fillUnitRows).2.1 57 = .ok (.aload_n 0, 1) := by decide +kernel
theorem d_C_fillUnitRows_58 : decode (m_C_fillUnitRows).2.1 58 = .ok (.getfield 35, 3) := by decide +kernel
theorem d_C_fillUnitRows_61 : decode (m_C_fillUnitRows).2.1 61 = .ok (.iconst 1, 1) := by decide +kernel
theorem d_C_fillUnitRows_62 : decode (m_C_fillUnitRows).2.1 62 = .ok (.aload_n 1, 1) := by decide +kernel
theorem d_C_fillUnitRows_63 : decode (m_C_fillUnitRows).2.1 63 = .ok (.iload 4, 2) := by decide +kernel
theorem d_C_fillUnitRows_65 : decode (m_C_fillUnitRows).2.1 65 = .ok (.aaload, 1) := by decide +kernel
theorem d_C_fillUnitRows_66 : decode (m_C_fillUnitRows).2.1 66 = .ok (.iload_n 2, 1) := by decide +kernel
theorem d_C_fillUnitRows_67 : decode (m_C_fillUnitRows).2.1 67 = .ok (.iload 4, 2) := by decide +kernel
theorem d_C_fillUnitRows_69 : decode (m_C_fillUnitRows).2.1 69 = .ok (.iadd, 1) := by decide +kernel
theorem d_C_fillUnitRows_70 : decode (m_C_fillUnitRows).2.1 70 = .ok (.iaload, 1) := by decide +kernel
theorem d_C_fillUnitRows_71 : decode (m_C_fillUnitRows).2.1 71 = .ok (.invokevirtual 72, 3) := by decide +kernel
theorem d_C_fillUnitRows_74 : decode (m_C_fillUnitRows).2.1 74 = .ok (.istore 5, 2) := by decide +kernel
theorem d_C_fillUnitRows_76 : decode (m_C_fillUnitRows).2.1 76 = .ok (.iconst 0, 1) := by decide +kernel
theorem d_C_fillUnitRows_77 : decode (m_C_fillUnitRows).2.1 77 = .ok (.istore 6, 2) := by decide +kernel
theorem d_C_fillUnitRows_79 : decode (m_C_fillUnitRows).2.1 79 = .ok (.iload 6, 2) := by decide +kernel
theorem d_C_fillUnitRows_81 : decode (m_C_fillUnitRows).2.1 81 = .ok (.iload_n 3, 1) := by decide +kernel
theorem d_C_fillUnitRows_82 : decode (m_C_fillUnitRows).2.1 82 = .ok (.if_icmp .ge 32, 3) := by decide +kernel
theorem d_C_fillUnitRows_85 : decode (m_C_fillUnitRows).2.1 85 = .ok (.aload_n 1, 1) := by decide +kernel
theorem d_C_fillUnitRows_86 : decode (m_C_fillUnitRows).2.1 86 = .ok (.iload 4, 2) := by decide +kernel
theorem d_C_fillUnitRows_88 : decode (m_C_fillUnitRows).2.1 88 = .ok (.aaload, 1) := by decide +kernel
theorem d_C_fillUnitRows_89 : decode (m_C_fillUnitRows).2.1 89 = .ok (.iload 6, 2) := by decide +kernel
theorem d_C_fillUnitRows_91 : decode (m_C_fillUnitRows).2.1 91 = .ok (.aload_n 0, 1) := by decide +kernel
theorem d_C_fillUnitRows_92 : decode (m_C_fillUnitRows).2.1 92 = .ok (.getfield 35, 3) := by decide +kernel
theorem d_C_fillUnitRows_95 : decode (m_C_fillUnitRows).2.1 95 = .ok (.iload 5, 2) := by decide +kernel
theorem d_C_fillUnitRows_97 : decode (m_C_fillUnitRows).2.1 97 = .ok (.aload_n 1, 1) := by decide +kernel
theorem d_C_fillUnitRows_98 : decode (m_C_fillUnitRows).2.1 98 = .ok (.iload 4, 2) := by decide +kernel
theorem d_C_fillUnitRows_100 : decode (m_C_fillUnitRows).2.1 100 = .ok (.aaload, 1) := by decide +kernel
theorem d_C_fillUnitRows_101 : decode (m_C_fillUnitRows).2.1 101 = .ok (.iload 6, 2) := by decide +kernel
theorem d_C_fillUnitRows_103 : decode (m_C_fillUnitRows).2.1 103 = .ok (.iaload, 1) := by decide +kernel
theorem d_C_fillUnitRows_104 : decode (m_C_fillUnitRows).2.1 104 = .ok (.invokevirtual 68, 3) := by decide +kernel
theorem d_C_fillUnitRows_107 : decode (m_C_fillUnitRows).2.1 107 = .ok (.iastore, 1) := by decide +kernel
theorem d_C_fillUnitRows_108 : decode (m_C_fillUnitRows).2.1 108 = .ok (.iinc 6 1, 3) := by decide +kernel
theorem d_C_fillUnitRows_111 : decode (m_C_fillUnitRows).2.1 111 = .ok (.goto (-32), 3) := by decide +kernel
theorem d_C_fillUnitRows_114 : decode (m_C_fillUnitRows).2.1 114 = .ok (.iconst 0, 1) := by decide +kernel
theorem d_C_fillUnitRows_115 : decode (m_C_fillUnitRows).2.1 115 = .ok (.istore 6, 2) := by decide +kernel
theorem d_C_fillUnitRows_117 : decode (m_C_fillUnitRows).2.1 117 = .ok (.iload 6, 2) := by decide +kernel
theorem d_C_fillUnitRows_119 : decode (m_C_fillUnitRows).2.1 119 = .ok (.aload_n 0, 1) := by decide +kernel
theorem d_C_fillUnitRows_120 : decode (m_C_fillUnitRows).2.1 120 = .ok (.getfield 46, 3) := by decide +kernel
theorem d_C_fillUnitRows_123 : decode (m_C_fillUnitRows).2.1 123 = .ok (.if_icmp .ge 42, 3) := by decide +kernel
theorem d_C_fillUnitRows_126 : decode (m_C_fillUnitRows).2.1 126 = .ok (.iload 6, 2) := by decide +kernel
theorem d_C_fillUnitRows_128 : decode (m_C_fillUnitRows).2.1 128 = .ok (.iload 4, 2) := by decide +kernel
theorem d_C_fillUnitRows_130 : decode (m_C_fillUnitRows).2.1 130 = .ok (.if_icmp .eq 29, 3) := by decide +kernel
theorem d_C_fillUnitRows_133 : decode (m_C_fillUnitRows).2.1 133 = .ok (.aload_n 0, 1) := by decide +kernel
theorem d_C_fillUnitRows_134 : decode (m_C_fillUnitRows).2.1 134 = .ok (.getfield 35, 3) := by decide +kernel
theorem d_C_fillUnitRows_137 : decode (m_C_fillUnitRows).2.1 137 = .ok (.aload_n 1, 1) := by decide +kernel
theorem d_C_fillUnitRows_138 : decode (m_C_fillUnitRows).2.1 138 = .ok (.iload 6, 2) := by decide +kernel
theorem d_C_fillUnitRows_140 : decode (m_C_fillUnitRows).2.1 140 = .ok (.aaload, 1) := by decide +kernel
theorem d_C_fillUnitRows_141 : decode (m_C_fillUnitRows).2.1 141 = .ok (.aload_n 1, 1) := by decide +kernel
theorem d_C_fillUnitRows_142 : decode (m_C_fillUnitRows).2.1 142 = .ok (.iload 6, 2) := by decide +kernel
theorem d_C_fillUnitRows_144 : decode (m_C_fillUnitRows).2.1 144 = .ok (.aaload, 1) := by decide +kernel
theorem d_C_fillUnitRows_145 : decode (m_C_fillUnitRows).2.1 145 = .ok (.iload_n 2, 1) := by decide +kernel
theorem d_C_fillUnitRows_146 : decode (m_C_fillUnitRows).2.1 146 = .ok (.iload 4, 2) := by decide +kernel
theorem d_C_fillUnitRows_148 : decode (m_C_fillUnitRows).2.1 148 = .ok (.iadd, 1) := by decide +kernel
theorem d_C_fillUnitRows_149 : decode (m_C_fillUnitRows).2.1 149 = .ok (.iaload, 1) := by decide +kernel
theorem d_C_fillUnitRows_150 : decode (m_C_fillUnitRows).2.1 150 = .ok (.aload_n 1, 1) := by decide +kernel
theorem d_C_fillUnitRows_151 : decode (m_C_fillUnitRows).2.1 151 = .ok (.iload 4, 2) := by decide +kernel
theorem d_C_fillUnitRows_153 : decode (m_C_fillUnitRows).2.1 153 = .ok (.aaload, 1) := by decide +kernel
theorem d_C_fillUnitRows_154 : decode (m_C_fillUnitRows).2.1 154 = .ok (.iconst 0, 1) := by decide +kernel
theorem d_C_fillUnitRows_155 : decode (m_C_fillUnitRows).2.1 155 = .ok (.iload_n 3, 1) := by decide +kernel
theorem d_C_fillUnitRows_156 : decode (m_C_fillUnitRows).2.1 156 = .ok (.invokevirtual 84, 3) := by decide +kernel
theorem d_C_fillUnitRows_159 : decode (m_C_fillUnitRows).2.1 159 = .ok (.iinc 6 1, 3) := by decide +kernel
theorem d_C_fillUnitRows_162 : decode (m_C_fillUnitRows).2.1 162 = .ok (.goto (-45), 3) := by decide +kernel
theorem d_C_fillUnitRows_165 : decode (m_C_fillUnitRows).2.1 165 = .ok (.iinc 4 1, 3) := by decide +kernel
theorem d_C_fillUnitRows_168 : decode (m_C_fillUnitRows).2.1 168 = .ok (.goto (-120), 3) := by decide +kernel
theorem d_C_fillUnitRows_171 : decode (m_C_fillUnitRows).2.1 171 = .ok (.return_, 1) := by decide +kernel
theorem d_C_mixed_0 : decode (m_C_mixed).2.1 0 = .ok (.iconst 0, 1) := by decide +kernel
theorem d_C_mixed_1 : decode (m_C_mixed).2.1 1 = .ok (.istore 4, 2) := by decide +kernel
theorem d_C_mixed_3 : decode (m_C_mixed).2.1 3 = .ok (.iconst 0, 1) := by decide +kernel
theorem d_C_mixed_4 : decode (m_C_mixed).2.1 4 = .ok (.istore 5, 2) := by decide +kernel
theorem d_C_mixed_6 : decode (m_C_mixed).2.1 6 = .ok (.iload 5, 2) := by decide +kernel
theorem d_C_mixed_8 : decode (m_C_mixed).2.1 8 = .ok (.aload_n 0, 1) := by decide +kernel
theorem d_C_mixed_9 : decode (m_C_mixed).2.1 9 = .ok (.getfield 46, 3) := by decide +kernel
theorem d_C_mixed_12 : decode (m_C_mixed).2.1 12 = .ok (.if_icmp .ge 31, 3) := by decide +kernel
theorem d_C_mixed_15 : decode (m_C_mixed).2.1 15 = .ok (.iload 4, 2) := by decide +kernel
theorem d_C_mixed_17 : decode (m_C_mixed).2.1 17 = .ok (.aload_n 0, 1) := by decide +kernel
theorem d_C_mixed_18 : decode (m_C_mixed).2.1 18 = .ok (.getfield 35, 3) := by decide +kernel
theorem d_C_mixed_21 : decode (m_C_mixed).2.1 21 = .ok (.aload_n 2, 1) := by decide +kernel
theorem d_C_mixed_22 : decode (m_C_mixed).2.1 22 = .ok (.iload 5, 2) := by decide +kernel
theorem d_C_mixed_24 : decode (m_C_mixed).2.1 24 = .ok (.iaload, 1) := by decide +kernel
theorem d_C_mixed_25 : decode (m_C_mixed).2.1 25 = .ok (.aload_n 1, 1) := by decide +kernel
theorem d_C_mixed_26 : decode (m_C_mixed).2.1 26 = .ok (.iload 5, 2) := by decide +kernel
theorem d_C_mixed_28 : decode (m_C_mixed).2.1 28 = .ok (.aaload, 1) := by decide +kernel
theorem d_C_mixed_29 : decode (m_C_mixed).2.1 29 = .ok (.iload_n 3, 1) := by decide +kernel
theorem d_C_mixed_30 : decode (m_C_mixed).2.1 30 = .ok (.iaload, 1) := by decide +kernel
theorem d_C_mixed_31 : decode (m_C_mixed).2.1 31 = .ok (.invokevirtual 68, 3) := by decide +kernel
theorem d_C_mixed_34 : decode (m_C_mixed).2.1 34 = .ok (.ixor, 1) := by decide +kernel
theorem d_C_mixed_35 : decode (m_C_mixed).2.1 35 = .ok (.istore 4, 2) := by decide +kernel
theorem d_C_mixed_37 : decode (m_C_mixed).2.1 37 = .ok (.iinc 5 1, 3) := by decide +kernel
theorem d_C_mixed_40 : decode (m_C_mixed).2.1 40 = .ok (.goto (-34), 3) := by decide +kernel
theorem d_C_mixed_43 : decode (m_C_mixed).2.1 43 = .ok (.iload 4, 2) := by decide +kernel
theorem d_C_mixed_45 : decode (m_C_mixed).2.1 45 = .ok (.ireturn, 1) := by decide +kernel
theorem d_C_toldBy_0 : decode (m_C_toldBy).2.1 0 = .ok (.aload_n 0, 1) := by decide +kernel
theorem d_C_toldBy_1 : decode (m_C_toldBy).2.1 1 = .ok (.aload_n 0, 1) := by decide +kernel
theorem d_C_toldBy_2 : decode (m_C_toldBy).2.1 2 = .ok (.getfield 29, 3) := by decide +kernel
theorem d_C_toldBy_5 : decode (m_C_toldBy).2.1 5 = .ok (.aload_n 1, 1) := by decide +kernel
theorem d_C_toldBy_6 : decode (m_C_toldBy).2.1 6 = .ok (.aload_n 0, 1) := by decide +kernel
theorem d_C_toldBy_7 : decode (m_C_toldBy).2.1 7 = .ok (.getfield 43, 3) := by decide +kernel
theorem d_C_toldBy_10 : decode (m_C_toldBy).2.1 10 = .ok (.iload_n 2, 1) := by decide +kernel
theorem d_C_toldBy_11 : decode (m_C_toldBy).2.1 11 = .ok (.iadd, 1) := by decide +kernel
theorem d_C_toldBy_12 : decode (m_C_toldBy).2.1 12 = .ok (.invokevirtual 88, 3) := by decide +kernel
theorem d_C_toldBy_15 : decode (m_C_toldBy).2.1 15 = .ok (.ireturn, 1) := by decide +kernel
theorem d_F_init_0 : decode (m_F_init).2.1 0 = .ok (.aload_n 0, 1) := by decide +kernel
theorem d_F_init_1 : decode (m_F_init).2.1 1 = .ok (.invokespecial 3, 3) := by decide +kernel
theorem d_F_init_4 : decode (m_F_init).2.1 4 = .ok (.aload_n 0, 1) := by decide +kernel
theorem d_F_init_5 : decode (m_F_init).2.1 5 = .ok (.bipush 32, 2) := by decide +kernel
theorem d_F_init_7 : decode (m_F_init).2.1 7 = .ok (.newarray .int, 2) := by decide +kernel
theorem d_F_init_9 : decode (m_F_init).2.1 9 = .ok (.putfield 9, 3) := by decide +kernel
theorem d_F_init_12 : decode (m_F_init).2.1 12 = .ok (.aload_n 0, 1) := by decide +kernel
theorem d_F_init_13 : decode (m_F_init).2.1 13 = .ok (.bipush 32, 2) := by decide +kernel
theorem d_F_init_15 : decode (m_F_init).2.1 15 = .ok (.newarray .int, 2) := by decide +kernel
theorem d_F_init_17 : decode (m_F_init).2.1 17 = .ok (.putfield 15, 3) := by decide +kernel
theorem d_F_init_20 : decode (m_F_init).2.1 20 = .ok (.aload_n 0, 1) := by decide +kernel
theorem d_F_init_21 : decode (m_F_init).2.1 21 = .ok (.sipush 1024, 3) := by decide +kernel
theorem d_F_init_24 : decode (m_F_init).2.1 24 = .ok (.newarray .int, 2) := by decide +kernel
theorem d_F_init_26 : decode (m_F_init).2.1 26 = .ok (.putfield 18, 3) := by decide +kernel
theorem d_F_init_29 : decode (m_F_init).2.1 29 = .ok (.return_, 1) := by decide +kernel
theorem d_F_degreeOf_0 : decode (m_F_degreeOf).2.1 0 = .ok (.iload_n 0, 1) := by decide +kernel
theorem d_F_degreeOf_1 : decode (m_F_degreeOf).2.1 1 = .ok (.bipush 16, 2) := by decide +kernel
theorem d_F_degreeOf_3 : decode (m_F_degreeOf).2.1 3 = .ok (.if_icmp .ge 7, 3) := by decide +kernel
theorem d_F_degreeOf_6 : decode (m_F_degreeOf).2.1 6 = .ok (.iconst 3, 1) := by decide +kernel
theorem d_F_degreeOf_7 : decode (m_F_degreeOf).2.1 7 = .ok (.goto 14, 3) := by decide +kernel
theorem d_F_degreeOf_10 : decode (m_F_degreeOf).2.1 10 = .ok (.iload_n 0, 1) := by decide +kernel
theorem d_F_degreeOf_11 : decode (m_F_degreeOf).2.1 11 = .ok (.bipush 32, 2) := by decide +kernel
theorem d_F_degreeOf_13 : decode (m_F_degreeOf).2.1 13 = .ok (.if_icmp .ge 7, 3) := by decide +kernel
theorem d_F_degreeOf_16 : decode (m_F_degreeOf).2.1 16 = .ok (.iconst 4, 1) := by decide +kernel
theorem d_F_degreeOf_17 : decode (m_F_degreeOf).2.1 17 = .ok (.goto 4, 3) := by decide +kernel
theorem d_F_degreeOf_20 : decode (m_F_degreeOf).2.1 20 = .ok (.iconst 5, 1) := by decide +kernel
theorem d_F_degreeOf_21 : decode (m_F_degreeOf).2.1 21 = .ok (.ireturn, 1) := by decide +kernel
theorem d_F_timesX_0 : decode (m_F_timesX).2.1 0 = .ok (.iload_n 0, 1) := by decide +kernel
theorem d_F_timesX_1 : decode (m_F_timesX).2.1 1 = .ok (.iconst 1, 1) := by decide +kernel
theorem d_F_timesX_2 : decode (m_F_timesX).2.1 2 = .ok (.ishl, 1) := by decide +kernel
theorem d_F_timesX_3 : decode (m_F_timesX).2.1 3 = .ok (.istore_n 2, 1) := by decide +kernel
theorem d_F_timesX_4 : decode (m_F_timesX).2.1 4 = .ok (.iload_n 2, 1) := by decide +kernel
theorem d_F_timesX_5 : decode (m_F_timesX).2.1 5 = .ok (.iload_n 1, 1) := by decide +kernel
theorem d_F_timesX_6 : decode (m_F_timesX).2.1 6 = .ok (.invokestatic 21, 3) := by decide +kernel
theorem d_F_timesX_9 : decode (m_F_timesX).2.1 9 = .ok (.ishr, 1) := by decide +kernel
theorem d_F_timesX_10 : decode (m_F_timesX).2.1 10 = .ok (.ifCond .ne 7, 3) := by decide +kernel
theorem d_F_timesX_13 : decode (m_F_timesX).2.1 13 = .ok (.iload_n 2, 1) := by decide +kernel
theorem d_F_timesX_14 : decode (m_F_timesX).2.1 14 = .ok (.goto 6, 3) := by decide +kernel
theorem d_F_timesX_17 : decode (m_F_timesX).2.1 17 = .ok (.iload_n 2, 1) := by decide +kernel
theorem d_F_timesX_18 : decode (m_F_timesX).2.1 18 = .ok (.iload_n 1, 1) := by decide +kernel
theorem d_F_timesX_19 : decode (m_F_timesX).2.1 19 = .ok (.ixor, 1) := by decide +kernel
theorem d_F_timesX_20 : decode (m_F_timesX).2.1 20 = .ok (.ireturn, 1) := by decide +kernel
theorem d_F_isPrimitive_0 : decode (m_F_isPrimitive).2.1 0 = .ok (.iconst 1, 1) := by decide +kernel
theorem d_F_isPrimitive_1 : decode (m_F_isPrimitive).2.1 1 = .ok (.iload_n 0, 1) := by decide +kernel
theorem d_F_isPrimitive_2 : decode (m_F_isPrimitive).2.1 2 = .ok (.invokestatic 21, 3) := by decide +kernel
theorem d_F_isPrimitive_5 : decode (m_F_isPrimitive).2.1 5 = .ok (.ishl, 1) := by decide +kernel
theorem d_F_isPrimitive_6 : decode (m_F_isPrimitive).2.1 6 = .ok (.iconst 1, 1) := by decide +kernel
theorem d_F_isPrimitive_7 : decode (m_F_isPrimitive).2.1 7 = .ok (.isub, 1) := by decide +kernel
theorem d_F_isPrimitive_8 : decode (m_F_isPrimitive).2.1 8 = .ok (.istore_n 1, 1) := by decide +kernel
theorem d_F_isPrimitive_9 : decode (m_F_isPrimitive).2.1 9 = .ok (.iconst 1, 1) := by decide +kernel
theorem d_F_isPrimitive_10 : decode (m_F_isPrimitive).2.1 10 = .ok (.istore_n 2, 1) := by decide +kernel
theorem d_F_isPrimitive_11 : decode (m_F_isPrimitive).2.1 11 = .ok (.iconst 1, 1) := by decide +kernel
theorem d_F_isPrimitive_12 : decode (m_F_isPrimitive).2.1 12 = .ok (.istore_n 3, 1) := by decide +kernel
theorem d_F_isPrimitive_13 : decode (m_F_isPrimitive).2.1 13 = .ok (.iload_n 3, 1) := by decide +kernel
theorem d_F_isPrimitive_14 : decode (m_F_isPrimitive).2.1 14 = .ok (.iload_n 1, 1) := by decide +kernel
theorem d_F_isPrimitive_15 : decode (m_F_isPrimitive).2.1 15 = .ok (.if_icmp .ge 22, 3) := by decide +kernel
theorem d_F_isPrimitive_18 : decode (m_F_isPrimitive).2.1 18 = .ok (.iload_n 2, 1) := by decide +kernel
theorem d_F_isPrimitive_19 : decode (m_F_isPrimitive).2.1 19 = .ok (.iload_n 0, 1) := by decide +kernel
theorem d_F_isPrimitive_20 : decode (m_F_isPrimitive).2.1 20 = .ok (.invokestatic 25, 3) := by decide +kernel
theorem d_F_isPrimitive_23 : decode (m_F_isPrimitive).2.1 23 = .ok (.istore_n 2, 1) := by decide +kernel
theorem d_F_isPrimitive_24 : decode (m_F_isPrimitive).2.1 24 = .ok (.iload_n 2, 1) := by decide +kernel
theorem d_F_isPrimitive_25 : decode (m_F_isPrimitive).2.1 25 = .ok (.iconst 1, 1) := by decide +kernel
theorem d_F_isPrimitive_26 : decode (m_F_isPrimitive).2.1 26 = .ok (.if_icmp .ne 5, 3) := by decide +kernel
theorem d_F_isPrimitive_29 : decode (m_F_isPrimitive).2.1 29 = .ok (.iconst 0, 1) := by decide +kernel
theorem d_F_isPrimitive_30 : decode (m_F_isPrimitive).2.1 30 = .ok (.ireturn, 1) := by decide +kernel
theorem d_F_isPrimitive_31 : decode (m_F_isPrimitive).2.1 31 = .ok (.iinc 3 1, 3) := by decide +kernel
theorem d_F_isPrimitive_34 : decode (m_F_isPrimitive).2.1 34 = .ok (.goto (-21), 3) := by decide +kernel
theorem d_F_isPrimitive_37 : decode (m_F_isPrimitive).2.1 37 = .ok (.iload_n 2, 1) := by decide +kernel
theorem d_F_isPrimitive_38 : decode (m_F_isPrimitive).2.1 38 = .ok (.iload_n 0, 1) := by decide +kernel
theorem d_F_isPrimitive_39 : decode (m_F_isPrimitive).2.1 39 = .ok (.invokestatic 25, 3) := by decide +kernel
theorem d_F_isPrimitive_42 : decode (m_F_isPrimitive).2.1 42 = .ok (.iconst 1, 1) := by decide +kernel
theorem d_F_isPrimitive_43 : decode (m_F_isPrimitive).2.1 43 = .ok (.if_icmp .ne 7, 3) := by decide +kernel
theorem d_F_isPrimitive_46 : decode (m_F_isPrimitive).2.1 46 = .ok (.iconst 1, 1) := by decide +kernel
theorem d_F_isPrimitive_47 : decode (m_F_isPrimitive).2.1 47 = .ok (.goto 4, 3) := by decide +kernel
theorem d_F_isPrimitive_50 : decode (m_F_isPrimitive).2.1 50 = .ok (.iconst 0, 1) := by decide +kernel
theorem d_F_isPrimitive_51 : decode (m_F_isPrimitive).2.1 51 = .ok (.ireturn, 1) := by decide +kernel
theorem d_F_begin_0 : decode (m_F_begin).2.1 0 = .ok (.aload_n 0, 1) := by decide +kernel
theorem d_F_begin_1 : decode (m_F_begin).2.1 1 = .ok (.iload_n 1, 1) := by decide +kernel
theorem d_F_begin_2 : decode (m_F_begin).2.1 2 = .ok (.invokestatic 21, 3) := by decide +kernel
theorem d_F_begin_5 : decode (m_F_begin).2.1 5 = .ok (.putfield 29, 3) := by decide +kernel
theorem d_F_begin_8 : decode (m_F_begin).2.1 8 = .ok (.aload_n 0, 1) := by decide +kernel
theorem d_F_begin_9 : decode (m_F_begin).2.1 9 = .ok (.iconst 1, 1) := by decide +kernel
theorem d_F_begin_10 : decode (m_F_begin).2.1 10 = .ok (.aload_n 0, 1) := by decide +kernel
theorem d_F_begin_11 : decode (m_F_begin).2.1 11 = .ok (.getfield 29, 3) := by decide +kernel
theorem d_F_begin_14 : decode (m_F_begin).2.1 14 = .ok (.ishl, 1) := by decide +kernel
theorem d_F_begin_15 : decode (m_F_begin).2.1 15 = .ok (.putfield 33, 3) := by decide +kernel
theorem d_F_begin_18 : decode (m_F_begin).2.1 18 = .ok (.iconst 1, 1) := by decide +kernel
theorem d_F_begin_19 : decode (m_F_begin).2.1 19 = .ok (.istore_n 2, 1) := by decide +kernel
theorem d_F_begin_20 : decode (m_F_begin).2.1 20 = .ok (.iconst 0, 1) := by decide +kernel
theorem d_F_begin_21 : decode (m_F_begin).2.1 21 = .ok (.istore_n 3, 1) := by decide +kernel
theorem d_F_begin_22 : decode (m_F_begin).2.1 22 = .ok (.iload_n 3, 1) := by decide +kernel
theorem d_F_begin_23 : decode (m_F_begin).2.1 23 = .ok (.aload_n 0, 1) := by decide +kernel
theorem d_F_begin_24 : decode (m_F_begin).2.1 24 = .ok (.getfield 33, 3) := by decide +kernel
theorem d_F_begin_27 : decode (m_F_begin).2.1 27 = .ok (.iconst 1, 1) := by decide +kernel
theorem d_F_begin_28 : decode (m_F_begin).2.1 28 = .ok (.isub, 1) := by decide +kernel
theorem d_F_begin_29 : decode (m_F_begin).2.1 29 = .ok (.if_icmp .ge 29, 3) := by decide +kernel
theorem d_F_begin_32 : decode (m_F_begin).2.1 32 = .ok (.aload_n 0, 1) := by decide +kernel
theorem d_F_begin_33 : decode (m_F_begin).2.1 33 = .ok (.getfield 9, 3) := by decide +kernel
theorem d_F_begin_36 : decode (m_F_begin).2.1 36 = .ok (.iload_n 3, 1) := by decide +kernel
theorem d_F_begin_37 : decode (m_F_begin).2.1 37 = .ok (.iload_n 2, 1) := by decide +kernel
theorem d_F_begin_38 : decode (m_F_begin).2.1 38 = .ok (.iastore, 1) := by decide +kernel
theorem d_F_begin_39 : decode (m_F_begin).2.1 39 = .ok (.aload_n 0, 1) := by decide +kernel
theorem d_F_begin_40 : decode (m_F_begin).2.1 40 = .ok (.getfield 15, 3) := by decide +kernel
theorem d_F_begin_43 : decode (m_F_begin).2.1 43 = .ok (.iload_n 2, 1) := by decide +kernel
theorem d_F_begin_44 : decode (m_F_begin).2.1 44 = .ok (.iload_n 3, 1) := by decide +kernel
theorem d_F_begin_45 : decode (m_F_begin).2.1 45 = .ok (.iastore, 1) := by decide +kernel
theorem d_F_begin_46 : decode (m_F_begin).2.1 46 = .ok (.iload_n 2, 1) := by decide +kernel
theorem d_F_begin_47 : decode (m_F_begin).2.1 47 = .ok (.iload_n 1, 1) := by decide +kernel
theorem d_F_begin_48 : decode (m_F_begin).2.1 48 = .ok (.invokestatic 25, 3) := by decide +kernel
theorem d_F_begin_51 : decode (m_F_begin).2.1 51 = .ok (.istore_n 2, 1) := by decide +kernel
theorem d_F_begin_52 : decode (m_F_begin).2.1 52 = .ok (.iinc 3 1, 3) := by decide +kernel
theorem d_F_begin_55 : decode (m_F_begin).2.1 55 = .ok (.goto (-33), 3) := by decide +kernel
theorem d_F_begin_58 : decode (m_F_begin).2.1 58 = .ok (.iconst 1, 1) := by decide +kernel
theorem d_F_begin_59 : decode (m_F_begin).2.1 59 = .ok (.istore_n 3, 1) := by decide +kernel
theorem d_F_begin_60 : decode (m_F_begin).2.1 60 = .ok (.iload_n 3, 1) := by decide +kernel
theorem d_F_begin_61 : decode (m_F_begin).2.1 61 = .ok (.aload_n 0, 1) := by decide +kernel
theorem d_F_begin_62 : decode (m_F_begin).2.1 62 = .ok (.getfield 33, 3) := by decide +kernel
theorem d_F_begin_65 : decode (m_F_begin).2.1 65 = .ok (.if_icmp .ge 84, 3) := by decide +kernel
theorem d_F_begin_68 : decode (m_F_begin).2.1 68 = .ok (.iconst 1, 1) := by decide +kernel
theorem d_F_begin_69 : decode (m_F_begin).2.1 69 = .ok (.istore 4, 2) := by decide +kernel
theorem d_F_begin_71 : decode (m_F_begin).2.1 71 = .ok (.iload 4, 2) := by decide +kernel
theorem d_F_begin_73 : decode (m_F_begin).2.1 73 = .ok (.aload_n 0, 1) := by decide +kernel
theorem d_F_begin_74 : decode (m_F_begin).2.1 74 = .ok (.getfield 33, 3) := by decide +kernel
theorem d_F_begin_77 : decode (m_F_begin).2.1 77 = .ok (.if_icmp .ge 66, 3) := by decide +kernel
theorem d_F_begin_80 : decode (m_F_begin).2.1 80 = .ok (.aload_n 0, 1) := by decide +kernel
theorem d_F_begin_81 : decode (m_F_begin).2.1 81 = .ok (.getfield 15, 3) := by decide +kernel
theorem d_F_begin_84 : decode (m_F_begin).2.1 84 = .ok (.iload_n 3, 1) := by decide +kernel
theorem d_F_begin_85 : decode (m_F_begin).2.1 85 = .ok (.iaload, 1) := by decide +kernel
theorem d_F_begin_86 : decode (m_F_begin).2.1 86 = .ok (.aload_n 0, 1) := by decide +kernel
theorem d_F_begin_87 : decode (m_F_begin).2.1 87 = .ok (.getfield 15, 3) := by decide +kernel
theorem d_F_begin_90 : decode (m_F_begin).2.1 90 = .ok (.iload 4, 2) := by decide +kernel
theorem d_F_begin_92 : decode (m_F_begin).2.1 92 = .ok (.iaload, 1) := by decide +kernel
theorem d_F_begin_93 : decode (m_F_begin).2.1 93 = .ok (.iadd, 1) := by decide +kernel
theorem d_F_begin_94 : decode (m_F_begin).2.1 94 = .ok (.istore 5, 2) := by decide +kernel
theorem d_F_begin_96 : decode (m_F_begin).2.1 96 = .ok (.aload_n 0, 1) := by decide +kernel
theorem d_F_begin_97 : decode (m_F_begin).2.1 97 = .ok (.getfield 18, 3) := by decide +kernel
theorem d_F_begin_100 : decode (m_F_begin).2.1 100 = .ok (.iload_n 3, 1) := by decide +kernel
theorem d_F_begin_101 : decode (m_F_begin).2.1 101 = .ok (.iconst 5, 1) := by decide +kernel
theorem d_F_begin_102 : decode (m_F_begin).2.1 102 = .ok (.ishl, 1) := by decide +kernel
theorem d_F_begin_103 : decode (m_F_begin).2.1 103 = .ok (.iload 4, 2) := by decide +kernel
theorem d_F_begin_105 : decode (m_F_begin).2.1 105 = .ok (.ior, 1) := by decide +kernel
theorem d_F_begin_106 : decode (m_F_begin).2.1 106 = .ok (.aload_n 0, 1) := by decide +kernel
theorem d_F_begin_107 : decode (m_F_begin).2.1 107 = .ok (.getfield 9, 3) := by decide +kernel
theorem d_F_begin_110 : decode (m_F_begin).2.1 110 = .ok (.iload 5, 2) := by decide +kernel
theorem d_F_begin_112 : decode (m_F_begin).2.1 112 = .ok (.aload_n 0, 1) := by decide +kernel
theorem d_F_begin_113 : decode (m_F_begin).2.1 113 = .ok (.getfield 33, 3) := by decide +kernel
theorem d_F_begin_116 : decode (m_F_begin).2.1 116 = .ok (.iconst 1, 1) := by decide +kernel
theorem d_F_begin_117 : decode (m_F_begin).2.1 117 = .ok (.isub, 1) := by decide +kernel
theorem d_F_begin_118 : decode (m_F_begin).2.1 118 = .ok (.if_icmp .ge 8, 3) := by decide +kernel
theorem d_F_begin_121 : decode (m_F_begin).2.1 121 = .ok (.iload 5, 2) := by decide +kernel
theorem d_F_begin_123 : decode (m_F_begin).2.1 123 = .ok (.goto 12, 3) := by decide +kernel
theorem d_F_begin_126 : decode (m_F_begin).2.1 126 = .ok (.iload 5, 2) := by decide +kernel
theorem d_F_begin_128 : decode (m_F_begin).2.1 128 = .ok (.aload_n 0, 1) := by decide +kernel
theorem d_F_begin_129 : decode (m_F_begin).2.1 129 = .ok (.getfield 33, 3) := by decide +kernel
theorem d_F_begin_132 : decode (m_F_begin).2.1 132 = .ok (.isub, 1) := by decide +kernel
theorem d_F_begin_133 : decode (m_F_begin).2.1 133 = .ok (.iconst 1, 1) := by decide +kernel
theorem d_F_begin_134 : decode (m_F_begin).2.1 134 = .ok (.iadd, 1) := by decide +kernel
theorem d_F_begin_135 : decode (m_F_begin).2.1 135 = .ok (.iaload, 1) := by decide +kernel
theorem d_F_begin_136 : decode (m_F_begin).2.1 136 = .ok (.iastore, 1) := by decide +kernel
theorem d_F_begin_137 : decode (m_F_begin).2.1 137 = .ok (.iinc 4 1, 3) := by decide +kernel
theorem d_F_begin_140 : decode (m_F_begin).2.1 140 = .ok (.goto (-69), 3) := by decide +kernel
theorem d_F_begin_143 : decode (m_F_begin).2.1 143 = .ok (.iinc 3 1, 3) := by decide +kernel
theorem d_F_begin_146 : decode (m_F_begin).2.1 146 = .ok (.goto (-86), 3) := by decide +kernel
theorem d_F_begin_149 : decode (m_F_begin).2.1 149 = .ok (.return_, 1) := by decide +kernel
theorem d_F_has_0 : decode (m_F_has).2.1 0 = .ok (.iload_n 1, 1) := by decide +kernel
theorem d_F_has_1 : decode (m_F_has).2.1 1 = .ok (.ifCond .lt 15, 3) := by decide +kernel
theorem d_F_has_4 : decode (m_F_has).2.1 4 = .ok (.iload_n 1, 1) := by decide +kernel
theorem d_F_has_5 : decode (m_F_has).2.1 5 = .ok (.aload_n 0, 1) := by decide +kernel
theorem d_F_has_6 : decode (m_F_has).2.1 6 = .ok (.getfield 33, 3) := by decide +kernel
theorem d_F_has_9 : decode (m_F_has).2.1 9 = .ok (.if_icmp .ge 7, 3) := by decide +kernel
theorem d_F_has_12 : decode (m_F_has).2.1 12 = .ok (.iconst 1, 1) := by decide +kernel
theorem d_F_has_13 : decode (m_F_has).2.1 13 = .ok (.goto 4, 3) := by decide +kernel
theorem d_F_has_16 : decode (m_F_has).2.1 16 = .ok (.iconst 0, 1) := by decide +kernel
theorem d_F_has_17 : decode (m_F_has).2.1 17 = .ok (.ireturn, 1) := by decide +kernel
theorem d_F_product_0 : decode (m_F_product).2.1 0 = .ok (.aload_n 0, 1) := by decide +kernel
theorem d_F_product_1 : decode (m_F_product).2.1 1 = .ok (.getfield 18, 3) := by decide +kernel
theorem d_F_product_4 : decode (m_F_product).2.1 4 = .ok (.iload_n 1, 1) := by decide +kernel
theorem d_F_product_5 : decode (m_F_product).2.1 5 = .ok (.iconst 5, 1) := by decide +kernel
theorem d_F_product_6 : decode (m_F_product).2.1 6 = .ok (.ishl, 1) := by decide +kernel
theorem d_F_product_7 : decode (m_F_product).2.1 7 = .ok (.iload_n 2, 1) := by decide +kernel
theorem d_F_product_8 : decode (m_F_product).2.1 8 = .ok (.ior, 1) := by decide +kernel
theorem d_F_product_9 : decode (m_F_product).2.1 9 = .ok (.iaload, 1) := by decide +kernel
theorem d_F_product_10 : decode (m_F_product).2.1 10 = .ok (.ireturn, 1) := by decide +kernel
theorem d_F_quotient_0 : decode (m_F_quotient).2.1 0 = .ok (.iload_n 1, 1) := by decide +kernel
theorem d_F_quotient_1 : decode (m_F_quotient).2.1 1 = .ok (.ifCond .ne 5, 3) := by decide +kernel
theorem d_F_quotient_4 : decode (m_F_quotient).2.1 4 = .ok (.iconst 0, 1) := by decide +kernel
theorem d_F_quotient_5 : decode (m_F_quotient).2.1 5 = .ok (.ireturn, 1) := by decide +kernel
theorem d_F_quotient_6 : decode (m_F_quotient).2.1 6 = .ok (.aload_n 0, 1) := by decide +kernel
theorem d_F_quotient_7 : decode (m_F_quotient).2.1 7 = .ok (.getfield 15, 3) := by decide +kernel
theorem d_F_quotient_10 : decode (m_F_quotient).2.1 10 = .ok (.iload_n 1, 1) := by decide +kernel
theorem d_F_quotient_11 : decode (m_F_quotient).2.1 11 = .ok (.iaload, 1) := by decide +kernel
theorem d_F_quotient_12 : decode (m_F_quotient).2.1 12 = .ok (.aload_n 0, 1) := by decide +kernel
theorem d_F_quotient_13 : decode (m_F_quotient).2.1 13 = .ok (.getfield 15, 3) := by decide +kernel
theorem d_F_quotient_16 : decode (m_F_quotient).2.1 16 = .ok (.iload_n 2, 1) := by decide +kernel
theorem d_F_quotient_17 : decode (m_F_quotient).2.1 17 = .ok (.iaload, 1) := by decide +kernel
theorem d_F_quotient_18 : decode (m_F_quotient).2.1 18 = .ok (.isub, 1) := by decide +kernel
theorem d_F_quotient_19 : decode (m_F_quotient).2.1 19 = .ok (.istore_n 3, 1) := by decide +kernel
theorem d_F_quotient_20 : decode (m_F_quotient).2.1 20 = .ok (.aload_n 0, 1) := by decide +kernel
theorem d_F_quotient_21 : decode (m_F_quotient).2.1 21 = .ok (.getfield 9, 3) := by decide +kernel
theorem d_F_quotient_24 : decode (m_F_quotient).2.1 24 = .ok (.iload_n 3, 1) := by decide +kernel
theorem d_F_quotient_25 : decode (m_F_quotient).2.1 25 = .ok (.ifCond .lt 7, 3) := by decide +kernel
theorem d_F_quotient_28 : decode (m_F_quotient).2.1 28 = .ok (.iload_n 3, 1) := by decide +kernel
theorem d_F_quotient_29 : decode (m_F_quotient).2.1 29 = .ok (.goto 11, 3) := by decide +kernel
theorem d_F_quotient_32 : decode (m_F_quotient).2.1 32 = .ok (.iload_n 3, 1) := by decide +kernel
theorem d_F_quotient_33 : decode (m_F_quotient).2.1 33 = .ok (.aload_n 0, 1) := by decide +kernel
theorem d_F_quotient_34 : decode (m_F_quotient).2.1 34 = .ok (.getfield 33, 3) := by decide +kernel
theorem d_F_quotient_37 : decode (m_F_quotient).2.1 37 = .ok (.iadd, 1) := by decide +kernel
theorem d_F_quotient_38 : decode (m_F_quotient).2.1 38 = .ok (.iconst 1, 1) := by decide +kernel
theorem d_F_quotient_39 : decode (m_F_quotient).2.1 39 = .ok (.isub, 1) := by decide +kernel
theorem d_F_quotient_40 : decode (m_F_quotient).2.1 40 = .ok (.iaload, 1) := by decide +kernel
theorem d_F_quotient_41 : decode (m_F_quotient).2.1 41 = .ok (.ireturn, 1) := by decide +kernel
theorem d_F_addMultiple_0 : decode (m_F_addMultiple).2.1 0 = .ok (.iload_n 2, 1) := by decide +kernel
theorem d_F_addMultiple_1 : decode (m_F_addMultiple).2.1 1 = .ok (.iconst 5, 1) := by decide +kernel
theorem d_F_addMultiple_2 : decode (m_F_addMultiple).2.1 2 = .ok (.ishl, 1) := by decide +kernel
theorem d_F_addMultiple_3 : decode (m_F_addMultiple).2.1 3 = .ok (.istore 6, 2) := by decide +kernel
theorem d_F_addMultiple_5 : decode (m_F_addMultiple).2.1 5 = .ok (.iload 4, 2) := by decide +kernel
theorem d_F_addMultiple_7 : decode (m_F_addMultiple).2.1 7 = .ok (.istore 7, 2) := by decide +kernel
theorem d_F_addMultiple_9 : decode (m_F_addMultiple).2.1 9 = .ok (.iload 7, 2) := by decide +kernel
theorem d_F_addMultiple_11 : decode (m_F_addMultiple).2.1 11 = .ok (.iload 5, 2) := by decide +kernel
theorem d_F_addMultiple_13 : decode (m_F_addMultiple).2.1 13 = .ok (.if_icmp .ge 28, 3) := by decide +kernel
theorem d_F_addMultiple_16 : decode (m_F_addMultiple).2.1 16 = .ok (.aload_n 1, 1) := by decide +kernel
theorem d_F_addMultiple_17 : decode (m_F_addMultiple).2.1 17 = .ok (.iload 7, 2) := by decide +kernel
theorem d_F_addMultiple_19 : decode (m_F_addMultiple).2.1 19 = .ok (.dup2, 1) := by decide +kernel
theorem d_F_addMultiple_20 : decode (m_F_addMultiple).2.1 20 = .ok (.iaload, 1) := by decide +kernel
theorem d_F_addMultiple_21 : decode (m_F_addMultiple).2.1 21 = .ok (.aload_n 0, 1) := by decide +kernel
theorem d_F_addMultiple_22 : decode (m_F_addMultiple).2.1 22 = .ok (.getfield 18, 3) := by decide +kernel
theorem d_F_addMultiple_25 : decode (m_F_addMultiple).2.1 25 = .ok (.iload 6, 2) := by decide +kernel
theorem d_F_addMultiple_27 : decode (m_F_addMultiple).2.1 27 = .ok (.aload_n 3, 1) := by decide +kernel
theorem d_F_addMultiple_28 : decode (m_F_addMultiple).2.1 28 = .ok (.iload 7, 2) := by decide +kernel
theorem d_F_addMultiple_30 : decode (m_F_addMultiple).2.1 30 = .ok (.iaload, 1) := by decide +kernel
theorem d_F_addMultiple_31 : decode (m_F_addMultiple).2.1 31 = .ok (.ior, 1) := by decide +kernel
theorem d_F_addMultiple_32 : decode (m_F_addMultiple).2.1 32 = .ok (.iaload, 1) := by decide +kernel
theorem d_F_addMultiple_33 : decode (m_F_addMultiple).2.1 33 = .ok (.ixor, 1) := by decide +kernel
theorem d_F_addMultiple_34 : decode (m_F_addMultiple).2.1 34 = .ok (.iastore, 1) := by decide +kernel
theorem d_F_addMultiple_35 : decode (m_F_addMultiple).2.1 35 = .ok (.iinc 7 1, 3) := by decide +kernel
theorem d_F_addMultiple_38 : decode (m_F_addMultiple).2.1 38 = .ok (.goto (-29), 3) := by decide +kernel
theorem d_F_addMultiple_41 : decode (m_F_addMultiple).2.1 41 = .ok (.return_, 1) := by decide +kernel
theorem d_F_power_0 : decode (m_F_power).2.1 0 = .ok (.iconst 1, 1) := by decide +kernel
theorem d_F_power_1 : decode (m_F_power).2.1 1 = .ok (.istore_n 3, 1) := by decide +kernel
theorem d_F_power_2 : decode (m_F_power).2.1 2 = .ok (.iconst 0, 1) := by decide +kernel
theorem d_F_power_3 : decode (m_F_power).2.1 3 = .ok (.istore 4, 2) := by decide +kernel
theorem d_F_power_5 : decode (m_F_power).2.1 5 = .ok (.iload 4, 2) := by decide +kernel
theorem d_F_power_7 : decode (m_F_power).2.1 7 = .ok (.iload_n 2, 1) := by decide +kernel
theorem d_F_power_8 : decode (m_F_power).2.1 8 = .ok (.if_icmp .ge 16, 3) := by decide +kernel
theorem d_F_power_11 : decode (m_F_power).2.1 11 = .ok (.aload_n 0, 1) := by decide +kernel
theorem d_F_power_12 : decode (m_F_power).2.1 12 = .ok (.iload_n 3, 1) := by decide +kernel
theorem d_F_power_13 : decode (m_F_power).2.1 13 = .ok (.iload_n 1, 1) := by decide +kernel
theorem d_F_power_14 : decode (m_F_power).2.1 14 = .ok (.invokevirtual 36, 3) := by decide +kernel
theorem d_F_power_17 : decode (m_F_power).2.1 17 = .ok (.istore_n 3, 1) := by decide +kernel
theorem d_F_power_18 : decode (m_F_power).2.1 18 = .ok (.iinc 4 1, 3) := by decide +kernel
theorem d_F_power_21 : decode (m_F_power).2.1 21 = .ok (.goto (-16), 3) := by decide +kernel
theorem d_F_power_24 : decode (m_F_power).2.1 24 = .ok (.iload_n 3, 1) := by decide +kernel
theorem d_F_power_25 : decode (m_F_power).2.1 25 = .ok (.ireturn, 1) := by decide +kernel
theorem d_N_init_0 : decode (m_N_init).2.1 0 = .ok (.aload_n 0, 1) := by decide +kernel
theorem d_N_init_1 : decode (m_N_init).2.1 1 = .ok (.invokespecial 3, 3) := by decide +kernel
theorem d_N_init_4 : decode (m_N_init).2.1 4 = .ok (.aload_n 0, 1) := by decide +kernel
theorem d_N_init_5 : decode (m_N_init).2.1 5 = .ok (.aload_n 1, 1) := by decide +kernel
theorem d_N_init_6 : decode (m_N_init).2.1 6 = .ok (.putfield 9, 3) := by decide +kernel
theorem d_N_init_9 : decode (m_N_init).2.1 9 = .ok (.aload_n 0, 1) := by decide +kernel
theorem d_N_init_10 : decode (m_N_init).2.1 10 = .ok (.iload_n 2, 1) := by decide +kernel
theorem d_N_init_11 : decode (m_N_init).2.1 11 = .ok (.bipush 20, 2) := by decide +kernel
theorem d_N_init_13 : decode (m_N_init).2.1 13 = .ok (.multianewarray 15 2, 4) := by decide +kernel
theorem d_N_init_17 : decode (m_N_init).2.1 17 = .ok (.putfield 17, 3) := by decide +kernel
theorem d_N_init_20 : decode (m_N_init).2.1 20 = .ok (.aload_n 0, 1) := by decide +kernel
theorem d_N_init_21 : decode (m_N_init).2.1 21 = .ok (.iload_n 2, 1) := by decide +kernel
theorem d_N_init_22 : decode (m_N_init).2.1 22 = .ok (.newarray .int, 2) := by decide +kernel
theorem d_N_init_24 : decode (m_N_init).2.1 24 = .ok (.putfield 20, 3) := by decide +kernel
theorem d_N_init_27 : decode (m_N_init).2.1 27 = .ok (.return_, 1) := by decide +kernel
theorem d_N_has_0 : decode (m_N_has).2.1 0 = .ok (.iload_n 1, 1) := by decide +kernel
theorem d_N_has_1 : decode (m_N_has).2.1 1 = .ok (.ifCond .lt 15, 3) := by decide +kernel
theorem d_N_has_4 : decode (m_N_has).2.1 4 = .ok (.iload_n 1, 1) := by decide +kernel
theorem d_N_has_5 : decode (m_N_has).2.1 5 = .ok (.aload_n 0, 1) := by decide +kernel
theorem d_N_has_6 : decode (m_N_has).2.1 6 = .ok (.getfield 24, 3) := by decide +kernel
theorem d_N_has_9 : decode (m_N_has).2.1 9 = .ok (.if_icmp .ge 7, 3) := by decide +kernel
theorem d_N_has_12 : decode (m_N_has).2.1 12 = .ok (.iconst 1, 1) := by decide +kernel
theorem d_N_has_13 : decode (m_N_has).2.1 13 = .ok (.goto 4, 3) := by decide +kernel
theorem d_N_has_16 : decode (m_N_has).2.1 16 = .ok (.iconst 0, 1) := by decide +kernel
theorem d_N_has_17 : decode (m_N_has).2.1 17 = .ok (.ireturn, 1) := by decide +kernel
theorem d_N_add_0 : decode (m_N_add).2.1 0 = .ok (.aload_n 0, 1) := by decide +kernel
theorem d_N_add_1 : decode (m_N_add).2.1 1 = .ok (.getfield 24, 3) := by decide +kernel
theorem d_N_add_4 : decode (m_N_add).2.1 4 = .ok (.aload_n 0, 1) := by decide +kernel
theorem d_N_add_5 : decode (m_N_add).2.1 5 = .ok (.getfield 20, 3) := by decide +kernel
theorem d_N_add_8 : decode (m_N_add).2.1 8 = .ok (.arraylength, 1) := by decide +kernel
theorem d_N_add_9 : decode (m_N_add).2.1 9 = .ok (.if_icmp .ge 69, 3) := by decide +kernel
theorem d_N_add_12 : decode (m_N_add).2.1 12 = .ok (.iconst 0, 1) := by decide +kernel
theorem d_N_add_13 : decode (m_N_add).2.1 13 = .ok (.istore_n 3, 1) := by decide +kernel
theorem d_N_add_14 : decode (m_N_add).2.1 14 = .ok (.iload_n 3, 1) := by decide +kernel
theorem d_N_add_15 : decode (m_N_add).2.1 15 = .ok (.aload_n 0, 1) := by decide +kernel
theorem d_N_add_16 : decode (m_N_add).2.1 16 = .ok (.getfield 9, 3) := by decide +kernel
theorem d_N_add_19 : decode (m_N_add).2.1 19 = .ok (.getfield 28, 3) := by decide +kernel
theorem d_N_add_22 : decode (m_N_add).2.1 22 = .ok (.if_icmp .ge 36, 3) := by decide +kernel
theorem d_N_add_25 : decode (m_N_add).2.1 25 = .ok (.aload_n 0, 1) := by decide +kernel
theorem d_N_add_26 : decode (m_N_add).2.1 26 = .ok (.getfield 17, 3) := by decide +kernel
theorem d_N_add_29 : decode (m_N_add).2.1 29 = .ok (.aload_n 0, 1) := by decide +kernel
theorem d_N_add_30 : decode (m_N_add).2.1 30 = .ok (.getfield 24, 3) := by decide +kernel
theorem d_N_add_33 : decode (m_N_add).2.1 33 = .ok (.aaload, 1) := by decide +kernel
theorem d_N_add_34 : decode (m_N_add).2.1 34 = .ok (.iload_n 3, 1) := by decide +kernel
theorem d_N_add_35 : decode (m_N_add).2.1 35 = .ok (.aload_n 0, 1) := by decide +kernel
theorem d_N_add_36 : decode (m_N_add).2.1 36 = .ok (.getfield 9, 3) := by decide +kernel
theorem d_N_add_39 : decode (m_N_add).2.1 39 = .ok (.aload_n 0, 1) := by decide +kernel
theorem d_N_add_40 : decode (m_N_add).2.1 40 = .ok (.getfield 9, 3) := by decide +kernel
theorem d_N_add_43 : decode (m_N_add).2.1 43 = .ok (.getfield 33, 3) := by decide +kernel
theorem d_N_add_46 : decode (m_N_add).2.1 46 = .ok (.aload_n 1, 1) := by decide +kernel
theorem d_N_add_47 : decode (m_N_add).2.1 47 = .ok (.iload_n 3, 1) := by decide +kernel
theorem d_N_add_48 : decode (m_N_add).2.1 48 = .ok (.invokevirtual 36, 3) := by decide +kernel
theorem d_N_add_51 : decode (m_N_add).2.1 51 = .ok (.iastore, 1) := by decide +kernel
theorem d_N_add_52 : decode (m_N_add).2.1 52 = .ok (.iinc 3 1, 3) := by decide +kernel
theorem d_N_add_55 : decode (m_N_add).2.1 55 = .ok (.goto (-41), 3) := by decide +kernel
theorem d_N_add_58 : decode (m_N_add).2.1 58 = .ok (.aload_n 0, 1) := by decide +kernel
theorem d_N_add_59 : decode (m_N_add).2.1 59 = .ok (.getfield 20, 3) := by decide +kernel
theorem d_N_add_62 : decode (m_N_add).2.1 62 = .ok (.aload_n 0, 1) := by decide +kernel
theorem d_N_add_63 : decode (m_N_add).2.1 63 = .ok (.getfield 24, 3) := by decide +kernel
theorem d_N_add_66 : decode (m_N_add).2.1 66 = .ok (.iload_n 2, 1) := by decide +kernel
theorem d_N_add_67 : decode (m_N_add).2.1 67 = .ok (.iastore, 1) := by decide +kernel
theorem d_N_add_68 : decode (m_N_add).2.1 68 = .ok (.aload_n 0, 1) := by decide +kernel
theorem d_N_add_69 : decode (m_N_add).2.1 69 = .ok (.dup, 1) := by decide +kernel
theorem d_N_add_70 : decode (m_N_add).2.1 70 = .ok (.getfield 24, 3) := by decide +kernel
theorem d_N_add_73 : decode (m_N_add).2.1 73 = .ok (.iconst 1, 1) := by decide +kernel
theorem d_N_add_74 : decode (m_N_add).2.1 74 = .ok (.iadd, 1) := by decide +kernel
theorem d_N_add_75 : decode (m_N_add).2.1 75 = .ok (.putfield 24, 3) := by decide +kernel
theorem d_N_add_78 : decode (m_N_add).2.1 78 = .ok (.return_, 1) := by decide +kernel
theorem d_P_init_0 : decode (m_P_init).2.1 0 = .ok (.aload_n 0, 1) := by decide +kernel
theorem d_P_init_1 : decode (m_P_init).2.1 1 = .ok (.invokespecial 3, 3) := by decide +kernel
theorem d_P_init_4 : decode (m_P_init).2.1 4 = .ok (.aload_n 0, 1) := by decide +kernel
theorem d_P_init_5 : decode (m_P_init).2.1 5 = .ok (.bipush 20, 2) := by decide +kernel
theorem d_P_init_7 : decode (m_P_init).2.1 7 = .ok (.newarray .int, 2) := by decide +kernel
theorem d_P_init_9 : decode (m_P_init).2.1 9 = .ok (.putfield 9, 3) := by decide +kernel
theorem d_P_init_12 : decode (m_P_init).2.1 12 = .ok (.aload_n 0, 1) := by decide +kernel
theorem d_P_init_13 : decode (m_P_init).2.1 13 = .ok (.bipush 20, 2) := by decide +kernel
theorem d_P_init_15 : decode (m_P_init).2.1 15 = .ok (.newarray .int, 2) := by decide +kernel
theorem d_P_init_17 : decode (m_P_init).2.1 17 = .ok (.putfield 15, 3) := by decide +kernel
theorem d_P_init_20 : decode (m_P_init).2.1 20 = .ok (.aload_n 0, 1) := by decide +kernel
theorem d_P_init_21 : decode (m_P_init).2.1 21 = .ok (.bipush 120, 2) := by decide +kernel
theorem d_P_init_23 : decode (m_P_init).2.1 23 = .ok (.newarray .boolean, 2) := by decide +kernel
theorem d_P_init_25 : decode (m_P_init).2.1 25 = .ok (.putfield 18, 3) := by decide +kernel
theorem d_P_init_28 : decode (m_P_init).2.1 28 = .ok (.aload_n 0, 1) := by decide +kernel
theorem d_P_init_29 : decode (m_P_init).2.1 29 = .ok (.bipush 16, 2) := by decide +kernel
theorem d_P_init_31 : decode (m_P_init).2.1 31 = .ok (.newarray .int, 2) := by decide +kernel
theorem d_P_init_33 : decode (m_P_init).2.1 33 = .ok (.putfield 22, 3) := by decide +kernel
theorem d_P_init_36 : decode (m_P_init).2.1 36 = .ok (.aload_n 0, 1) := by decide +kernel
theorem d_P_init_37 : decode (m_P_init).2.1 37 = .ok (.bipush 16, 2) := by decide +kernel
theorem d_P_init_39 : decode (m_P_init).2.1 39 = .ok (.bipush 120, 2) := by decide +kernel
theorem d_P_init_41 : decode (m_P_init).2.1 41 = .ok (.multianewarray 25 2, 4) := by decide +kernel
theorem d_P_init_45 : decode (m_P_init).2.1 45 = .ok (.putfield 27, 3) := by decide +kernel
theorem d_P_init_48 : decode (m_P_init).2.1 48 = .ok (.aload_n 0, 1) := by decide +kernel
theorem d_P_init_49 : decode (m_P_init).2.1 49 = .ok (.aload_n 1, 1) := by decide +kernel
theorem d_P_init_50 : decode (m_P_init).2.1 50 = .ok (.putfield 30, 3) := by decide +kernel
theorem d_P_init_53 : decode (m_P_init).2.1 53 = .ok (.aload_n 0, 1) := by decide +kernel
theorem d_P_init_54 : decode (m_P_init).2.1 54 = .ok (.aload_n 2, 1) := by decide +kernel
theorem d_P_init_55 : decode (m_P_init).2.1 55 = .ok (.putfield 34, 3) := by decide +kernel
theorem d_P_init_58 : decode (m_P_init).2.1 58 = .ok (.aload_n 0, 1) := by decide +kernel
theorem d_P_init_59 : decode (m_P_init).2.1 59 = .ok (.aload_n 3, 1) := by decide +kernel
theorem d_P_init_60 : decode (m_P_init).2.1 60 = .ok (.putfield 38, 3) := by decide +kernel
theorem d_P_init_63 : decode (m_P_init).2.1 63 = .ok (.return_, 1) := by decide +kernel
theorem d_P_leastWeight_0 : decode (m_P_leastWeight).2.1 0 = .ok (.aload_n 0, 1) := by decide +kernel
theorem d_P_leastWeight_1 : decode (m_P_leastWeight).2.1 1 = .ok (.invokevirtual 42, 3) := by decide +kernel
theorem d_P_leastWeight_4 : decode (m_P_leastWeight).2.1 4 = .ok (.aload_n 0, 1) := by decide +kernel
theorem d_P_leastWeight_5 : decode (m_P_leastWeight).2.1 5 = .ok (.iload_n 1, 1) := by decide +kernel
theorem d_P_leastWeight_6 : decode (m_P_leastWeight).2.1 6 = .ok (.iload_n 1, 1) := by decide +kernel
theorem d_P_leastWeight_7 : decode (m_P_leastWeight).2.1 7 = .ok (.iconst 1, 1) := by decide +kernel
theorem d_P_leastWeight_8 : decode (m_P_leastWeight).2.1 8 = .ok (.iadd, 1) := by decide +kernel
theorem d_P_leastWeight_9 : decode (m_P_leastWeight).2.1 9 = .ok (.imul, 1) := by decide +kernel
theorem d_P_leastWeight_10 : decode (m_P_leastWeight).2.1 10 = .ok (.iconst 2, 1) := by decide +kernel
theorem d_P_leastWeight_11 : decode (m_P_leastWeight).2.1 11 = .ok (.idiv, 1) := by decide +kernel
theorem d_P_leastWeight_12 : decode (m_P_leastWeight).2.1 12 = .ok (.putfield 45, 3) := by decide +kernel
theorem d_P_leastWeight_15 : decode (m_P_leastWeight).2.1 15 = .ok (.aload_n 0, 1) := by decide +kernel
theorem d_P_leastWeight_16 : decode (m_P_leastWeight).2.1 16 = .ok (.iload_n 2, 1) := by decide +kernel
theorem d_P_leastWeight_17 : decode (m_P_leastWeight).2.1 17 = .ok (.aload_n 0, 1) := by decide +kernel
theorem d_P_leastWeight_18 : decode (m_P_leastWeight).2.1 18 = .ok (.getfield 34, 3) := by decide +kernel
theorem d_P_leastWeight_21 : decode (m_P_leastWeight).2.1 21 = .ok (.getfield 49, 3) := by decide +kernel
theorem d_P_leastWeight_24 : decode (m_P_leastWeight).2.1 24 = .ok (.iconst 1, 1) := by decide +kernel
theorem d_P_leastWeight_25 : decode (m_P_leastWeight).2.1 25 = .ok (.isub, 1) := by decide +kernel
theorem d_P_leastWeight_26 : decode (m_P_leastWeight).2.1 26 = .ok (.idiv, 1) := by decide +kernel
theorem d_P_leastWeight_27 : decode (m_P_leastWeight).2.1 27 = .ok (.iconst 1, 1) := by decide +kernel
theorem d_P_leastWeight_28 : decode (m_P_leastWeight).2.1 28 = .ok (.iadd, 1) := by decide +kernel
theorem d_P_leastWeight_29 : decode (m_P_leastWeight).2.1 29 = .ok (.bipush 16, 2) := by decide +kernel
theorem d_P_leastWeight_31 : decode (m_P_leastWeight).2.1 31 = .ok (.invokestatic 54, 3) := by decide +kernel
theorem d_P_leastWeight_34 : decode (m_P_leastWeight).2.1 34 = .ok (.putfield 60, 3) := by decide +kernel
theorem d_P_leastWeight_37 : decode (m_P_leastWeight).2.1 37 = .ok (.iconst 0, 1) := by decide +kernel
theorem d_P_leastWeight_38 : decode (m_P_leastWeight).2.1 38 = .ok (.istore_n 3, 1) := by decide +kernel
theorem d_P_leastWeight_39 : decode (m_P_leastWeight).2.1 39 = .ok (.iload_n 3, 1) := by decide +kernel
theorem d_P_leastWeight_40 : decode (m_P_leastWeight).2.1 40 = .ok (.aload_n 0, 1) := by decide +kernel
theorem d_P_leastWeight_41 : decode (m_P_leastWeight).2.1 41 = .ok (.getfield 60, 3) := by decide +kernel
theorem d_P_leastWeight_44 : decode (m_P_leastWeight).2.1 44 = .ok (.if_icmp .ge 52, 3) := by decide +kernel
theorem d_P_leastWeight_47 : decode (m_P_leastWeight).2.1 47 = .ok (.aload_n 0, 1) := by decide +kernel
theorem d_P_leastWeight_48 : decode (m_P_leastWeight).2.1 48 = .ok (.getfield 22, 3) := by decide +kernel
theorem d_P_leastWeight_51 : decode (m_P_leastWeight).2.1 51 = .ok (.iload_n 3, 1) := by decide +kernel
theorem d_P_leastWeight_52 : decode (m_P_leastWeight).2.1 52 = .ok (.iload_n 3, 1) := by decide +kernel
theorem d_P_leastWeight_53 : decode (m_P_leastWeight).2.1 53 = .ok (.aload_n 0, 1) := by decide +kernel
theorem d_P_leastWeight_54 : decode (m_P_leastWeight).2.1 54 = .ok (.getfield 34, 3) := by decide +kernel
theorem d_P_leastWeight_57 : decode (m_P_leastWeight).2.1 57 = .ok (.getfield 49, 3) := by decide +kernel
theorem d_P_leastWeight_60 : decode (m_P_leastWeight).2.1 60 = .ok (.iconst 1, 1) := by decide +kernel
theorem d_P_leastWeight_61 : decode (m_P_leastWeight).2.1 61 = .ok (.isub, 1) := by decide +kernel
theorem d_P_leastWeight_62 : decode (m_P_leastWeight).2.1 62 = .ok (.imul, 1) := by decide +kernel
theorem d_P_leastWeight_63 : decode (m_P_leastWeight).2.1 63 = .ok (.iastore, 1) := by decide +kernel
theorem d_P_leastWeight_64 : decode (m_P_leastWeight).2.1 64 = .ok (.iconst 0, 1) := by decide +kernel
theorem d_P_leastWeight_65 : decode (m_P_leastWeight).2.1 65 = .ok (.istore 4, 2) := by decide +kernel
theorem d_P_leastWeight_67 : decode (m_P_leastWeight).2.1 67 = .ok (.iload 4, 2) := by decide +kernel
theorem d_P_leastWeight_69 : decode (m_P_leastWeight).2.1 69 = .ok (.aload_n 0, 1) := by decide +kernel
theorem d_P_leastWeight_70 : decode (m_P_leastWeight).2.1 70 = .ok (.getfield 63, 3) := by decide +kernel
theorem d_P_leastWeight_73 : decode (m_P_leastWeight).2.1 73 = .ok (.if_icmp .ge 17, 3) := by decide +kernel
theorem d_P_leastWeight_76 : decode (m_P_leastWeight).2.1 76 = .ok (.aload_n 0, 1) := by decide +kernel
theorem d_P_leastWeight_77 : decode (m_P_leastWeight).2.1 77 = .ok (.iload_n 3, 1) := by decide +kernel
theorem d_P_leastWeight_78 : decode (m_P_leastWeight).2.1 78 = .ok (.iload 4, 2) := by decide +kernel
theorem d_P_leastWeight_80 : decode (m_P_leastWeight).2.1 80 = .ok (.iload_n 1, 1) := by decide +kernel
theorem d_P_leastWeight_81 : decode (m_P_leastWeight).2.1 81 = .ok (.invokevirtual 66, 3) := by decide +kernel
theorem d_P_leastWeight_84 : decode (m_P_leastWeight).2.1 84 = .ok (.iinc 4 1, 3) := by decide +kernel
theorem d_P_leastWeight_87 : decode (m_P_leastWeight).2.1 87 = .ok (.goto (-20), 3) := by decide +kernel
theorem d_P_leastWeight_90 : decode (m_P_leastWeight).2.1 90 = .ok (.iinc 3 1, 3) := by decide +kernel
theorem d_P_leastWeight_93 : decode (m_P_leastWeight).2.1 93 = .ok (.goto (-54), 3) := by decide +kernel
theorem d_P_leastWeight_96 : decode (m_P_leastWeight).2.1 96 = .ok (.iconst 0, 1) := by decide +kernel
theorem d_P_leastWeight_97 : decode (m_P_leastWeight).2.1 97 = .ok (.istore_n 3, 1) := by decide +kernel
theorem d_P_leastWeight_98 : decode (m_P_leastWeight).2.1 98 = .ok (.iload_n 3, 1) := by decide +kernel
theorem d_P_leastWeight_99 : decode (m_P_leastWeight).2.1 99 = .ok (.aload_n 0, 1) := by decide +kernel
theorem d_P_leastWeight_100 : decode (m_P_leastWeight).2.1 100 = .ok (.getfield 63, 3) := by decide +kernel
theorem d_P_leastWeight_103 : decode (m_P_leastWeight).2.1 103 = .ok (.aload_n 0, 1) := by decide +kernel
theorem d_P_leastWeight_104 : decode (m_P_leastWeight).2.1 104 = .ok (.getfield 45, 3) := by decide +kernel
theorem d_P_leastWeight_107 : decode (m_P_leastWeight).2.1 107 = .ok (.imul, 1) := by decide +kernel
theorem d_P_leastWeight_108 : decode (m_P_leastWeight).2.1 108 = .ok (.if_icmp .ge 20, 3) := by decide +kernel
theorem d_P_leastWeight_111 : decode (m_P_leastWeight).2.1 111 = .ok (.aload_n 0, 1) := by decide +kernel
theorem d_P_leastWeight_112 : decode (m_P_leastWeight).2.1 112 = .ok (.iload_n 3, 1) := by decide +kernel
theorem d_P_leastWeight_113 : decode (m_P_leastWeight).2.1 113 = .ok (.iload_n 3, 1) := by decide +kernel
theorem d_P_leastWeight_114 : decode (m_P_leastWeight).2.1 114 = .ok (.aload_n 0, 1) := by decide +kernel
theorem d_P_leastWeight_115 : decode (m_P_leastWeight).2.1 115 = .ok (.getfield 45, 3) := by decide +kernel
theorem d_P_leastWeight_118 : decode (m_P_leastWeight).2.1 118 = .ok (.idiv, 1) := by decide +kernel
theorem d_P_leastWeight_119 : decode (m_P_leastWeight).2.1 119 = .ok (.invokevirtual 70, 3) := by decide +kernel
theorem d_P_leastWeight_122 : decode (m_P_leastWeight).2.1 122 = .ok (.iinc 3 1, 3) := by decide +kernel
theorem d_P_leastWeight_125 : decode (m_P_leastWeight).2.1 125 = .ok (.goto (-27), 3) := by decide +kernel
theorem d_P_leastWeight_128 : decode (m_P_leastWeight).2.1 128 = .ok (.iload_n 2, 1) := by decide +kernel
theorem d_P_leastWeight_129 : decode (m_P_leastWeight).2.1 129 = .ok (.istore_n 3, 1) := by decide +kernel
theorem d_P_leastWeight_130 : decode (m_P_leastWeight).2.1 130 = .ok (.iconst 0, 1) := by decide +kernel
theorem d_P_leastWeight_131 : decode (m_P_leastWeight).2.1 131 = .ok (.istore 4, 2) := by decide +kernel
theorem d_P_leastWeight_133 : decode (m_P_leastWeight).2.1 133 = .ok (.iload 4, 2) := by decide +kernel
theorem d_P_leastWeight_135 : decode (m_P_leastWeight).2.1 135 = .ok (.aload_n 0, 1) := by decide +kernel
theorem d_P_leastWeight_136 : decode (m_P_leastWeight).2.1 136 = .ok (.getfield 60, 3) := by decide +kernel
theorem d_P_leastWeight_139 : decode (m_P_leastWeight).2.1 139 = .ok (.if_icmp .ge 21, 3) := by decide +kernel
theorem d_P_leastWeight_142 : decode (m_P_leastWeight).2.1 142 = .ok (.iload_n 3, 1) := by decide +kernel
theorem d_P_leastWeight_143 : decode (m_P_leastWeight).2.1 143 = .ok (.aload_n 0, 1) := by decide +kernel
theorem d_P_leastWeight_144 : decode (m_P_leastWeight).2.1 144 = .ok (.getfield 22, 3) := by decide +kernel
theorem d_P_leastWeight_147 : decode (m_P_leastWeight).2.1 147 = .ok (.iload 4, 2) := by decide +kernel
theorem d_P_leastWeight_149 : decode (m_P_leastWeight).2.1 149 = .ok (.iaload, 1) := by decide +kernel
theorem d_P_leastWeight_150 : decode (m_P_leastWeight).2.1 150 = .ok (.invokestatic 54, 3) := by decide +kernel
theorem d_P_leastWeight_153 : decode (m_P_leastWeight).2.1 153 = .ok (.istore_n 3, 1) := by decide +kernel
theorem d_P_leastWeight_154 : decode (m_P_leastWeight).2.1 154 = .ok (.iinc 4 1, 3) := by decide +kernel
theorem d_P_leastWeight_157 : decode (m_P_leastWeight).2.1 157 = .ok (.goto (-24), 3) := by decide +kernel
theorem d_P_leastWeight_160 : decode (m_P_leastWeight).2.1 160 = .ok (.iload_n 3, 1) := by decide +kernel
theorem d_P_leastWeight_161 : decode (m_P_leastWeight).2.1 161 = .ok (.ireturn, 1) := by decide +kernel
theorem d_P_setPlaces_0 : decode (m_P_setPlaces).2.1 0 = .ok (.aload_n 0, 1) := by decide +kernel
theorem d_P_setPlaces_1 : decode (m_P_setPlaces).2.1 1 = .ok (.iconst 0, 1) := by decide +kernel
theorem d_P_setPlaces_2 : decode (m_P_setPlaces).2.1 2 = .ok (.putfield 63, 3) := by decide +kernel
theorem d_P_setPlaces_5 : decode (m_P_setPlaces).2.1 5 = .ok (.iconst 0, 1) := by decide +kernel
theorem d_P_setPlaces_6 : decode (m_P_setPlaces).2.1 6 = .ok (.istore_n 1, 1) := by decide +kernel
theorem d_P_setPlaces_7 : decode (m_P_setPlaces).2.1 7 = .ok (.iload_n 1, 1) := by decide +kernel
theorem d_P_setPlaces_8 : decode (m_P_setPlaces).2.1 8 = .ok (.aload_n 0, 1) := by decide +kernel
theorem d_P_setPlaces_9 : decode (m_P_setPlaces).2.1 9 = .ok (.getfield 34, 3) := by decide +kernel
theorem d_P_setPlaces_12 : decode (m_P_setPlaces).2.1 12 = .ok (.getfield 74, 3) := by decide +kernel
theorem d_P_setPlaces_15 : decode (m_P_setPlaces).2.1 15 = .ok (.if_icmp .ge 83, 3) := by decide +kernel
theorem d_P_setPlaces_18 : decode (m_P_setPlaces).2.1 18 = .ok (.aload_n 0, 1) := by decide +kernel
theorem d_P_setPlaces_19 : decode (m_P_setPlaces).2.1 19 = .ok (.getfield 38, 3) := by decide +kernel
theorem d_P_setPlaces_22 : decode (m_P_setPlaces).2.1 22 = .ok (.getfield 77, 3) := by decide +kernel
theorem d_P_setPlaces_25 : decode (m_P_setPlaces).2.1 25 = .ok (.iload_n 1, 1) := by decide +kernel
theorem d_P_setPlaces_26 : decode (m_P_setPlaces).2.1 26 = .ok (.baload, 1) := by decide +kernel
theorem d_P_setPlaces_27 : decode (m_P_setPlaces).2.1 27 = .ok (.ifCond .ne 65, 3) := by decide +kernel
theorem d_P_setPlaces_30 : decode (m_P_setPlaces).2.1 30 = .ok (.aload_n 0, 1) := by decide +kernel
theorem d_P_setPlaces_31 : decode (m_P_setPlaces).2.1 31 = .ok (.getfield 9, 3) := by decide +kernel
theorem d_P_setPlaces_34 : decode (m_P_setPlaces).2.1 34 = .ok (.aload_n 0, 1) := by decide +kernel
theorem d_P_setPlaces_35 : decode (m_P_setPlaces).2.1 35 = .ok (.getfield 63, 3) := by decide +kernel
theorem d_P_setPlaces_38 : decode (m_P_setPlaces).2.1 38 = .ok (.aload_n 0, 1) := by decide +kernel
theorem d_P_setPlaces_39 : decode (m_P_setPlaces).2.1 39 = .ok (.getfield 34, 3) := by decide +kernel
theorem d_P_setPlaces_42 : decode (m_P_setPlaces).2.1 42 = .ok (.getfield 82, 3) := by decide +kernel
theorem d_P_setPlaces_45 : decode (m_P_setPlaces).2.1 45 = .ok (.iload_n 1, 1) := by decide +kernel
theorem d_P_setPlaces_46 : decode (m_P_setPlaces).2.1 46 = .ok (.iaload, 1) := by decide +kernel
theorem d_P_setPlaces_47 : decode (m_P_setPlaces).2.1 47 = .ok (.iastore, 1) := by decide +kernel
theorem d_P_setPlaces_48 : decode (m_P_setPlaces).2.1 48 = .ok (.aload_n 0, 1) := by decide +kernel
theorem d_P_setPlaces_49 : decode (m_P_setPlaces).2.1 49 = .ok (.getfield 15, 3) := by decide +kernel
theorem d_P_setPlaces_52 : decode (m_P_setPlaces).2.1 52 = .ok (.aload_n 0, 1) := by decide +kernel
theorem d_P_setPlaces_53 : decode (m_P_setPlaces).2.1 53 = .ok (.getfield 63, 3) := by decide +kernel
theorem d_P_setPlaces_56 : decode (m_P_setPlaces).2.1 56 = .ok (.aload_n 0, 1) := by decide +kernel
theorem d_P_setPlaces_57 : decode (m_P_setPlaces).2.1 57 = .ok (.getfield 30, 3) := by decide +kernel
theorem d_P_setPlaces_60 : decode (m_P_setPlaces).2.1 60 = .ok (.aload_n 0, 1) := by decide +kernel
theorem d_P_setPlaces_61 : decode (m_P_setPlaces).2.1 61 = .ok (.getfield 38, 3) := by decide +kernel
theorem d_P_setPlaces_64 : decode (m_P_setPlaces).2.1 64 = .ok (.getfield 85, 3) := by decide +kernel
theorem d_P_setPlaces_67 : decode (m_P_setPlaces).2.1 67 = .ok (.iload_n 1, 1) := by decide +kernel
theorem d_P_setPlaces_68 : decode (m_P_setPlaces).2.1 68 = .ok (.iaload, 1) := by decide +kernel
theorem d_P_setPlaces_69 : decode (m_P_setPlaces).2.1 69 = .ok (.aload_n 0, 1) := by decide +kernel
theorem d_P_setPlaces_70 : decode (m_P_setPlaces).2.1 70 = .ok (.getfield 34, 3) := by decide +kernel
theorem d_P_setPlaces_73 : decode (m_P_setPlaces).2.1 73 = .ok (.getfield 88, 3) := by decide +kernel
theorem d_P_setPlaces_76 : decode (m_P_setPlaces).2.1 76 = .ok (.iload_n 1, 1) := by decide +kernel
theorem d_P_setPlaces_77 : decode (m_P_setPlaces).2.1 77 = .ok (.iaload, 1) := by decide +kernel
theorem d_P_setPlaces_78 : decode (m_P_setPlaces).2.1 78 = .ok (.invokevirtual 91, 3) := by decide +kernel
theorem d_P_setPlaces_81 : decode (m_P_setPlaces).2.1 81 = .ok (.iastore, 1) := by decide +kernel
theorem d_P_setPlaces_82 : decode (m_P_setPlaces).2.1 82 = .ok (.aload_n 0, 1) := by decide +kernel
theorem d_P_setPlaces_83 : decode (m_P_setPlaces).2.1 83 = .ok (.dup, 1) := by decide +kernel
theorem d_P_setPlaces_84 : decode (m_P_setPlaces).2.1 84 = .ok (.getfield 63, 3) := by decide +kernel
theorem d_P_setPlaces_87 : decode (m_P_setPlaces).2.1 87 = .ok (.iconst 1, 1) := by decide +kernel
theorem d_P_setPlaces_88 : decode (m_P_setPlaces).2.1 88 = .ok (.iadd, 1) := by decide +kernel
theorem d_P_setPlaces_89 : decode (m_P_setPlaces).2.1 89 = .ok (.putfield 63, 3) := by decide +kernel
theorem d_P_setPlaces_92 : decode (m_P_setPlaces).2.1 92 = .ok (.iinc 1 1, 3) := by decide +kernel
theorem d_P_setPlaces_95 : decode (m_P_setPlaces).2.1 95 = .ok (.goto (-88), 3) := by decide +kernel
theorem d_P_setPlaces_98 : decode (m_P_setPlaces).2.1 98 = .ok (.return_, 1) := by decide +kernel
theorem d_P_setValues_0 : decode (m_P_setValues).2.1 0 = .ok (.iload_n 2, 1) := by decide +kernel
theorem d_P_setValues_1 : decode (m_P_setValues).2.1 1 = .ok (.aload_n 0, 1) := by decide +kernel
theorem d_P_setValues_2 : decode (m_P_setValues).2.1 2 = .ok (.getfield 45, 3) := by decide +kernel
theorem d_P_setValues_5 : decode (m_P_setValues).2.1 5 = .ok (.imul, 1) := by decide +kernel
theorem d_P_setValues_6 : decode (m_P_setValues).2.1 6 = .ok (.istore 4, 2) := by decide +kernel
theorem d_P_setValues_8 : decode (m_P_setValues).2.1 8 = .ok (.iconst 0, 1) := by decide +kernel
theorem d_P_setValues_9 : decode (m_P_setValues).2.1 9 = .ok (.istore 5, 2) := by decide +kernel
theorem d_P_setValues_11 : decode (m_P_setValues).2.1 11 = .ok (.iload 5, 2) := by decide +kernel
theorem d_P_setValues_13 : decode (m_P_setValues).2.1 13 = .ok (.iload_n 3, 1) := by decide +kernel
theorem d_P_setValues_14 : decode (m_P_setValues).2.1 14 = .ok (.if_icmp .ge 103, 3) := by decide +kernel
theorem d_P_setValues_17 : decode (m_P_setValues).2.1 17 = .ok (.iconst 0, 1) := by decide +kernel
theorem d_P_setValues_18 : decode (m_P_setValues).2.1 18 = .ok (.istore 6, 2) := by decide +kernel
theorem d_P_setValues_20 : decode (m_P_setValues).2.1 20 = .ok (.iload 6, 2) := by decide +kernel
theorem d_P_setValues_22 : decode (m_P_setValues).2.1 22 = .ok (.iload_n 3, 1) := by decide +kernel
theorem d_P_setValues_23 : decode (m_P_setValues).2.1 23 = .ok (.iload 5, 2) := by decide +kernel
theorem d_P_setValues_25 : decode (m_P_setValues).2.1 25 = .ok (.isub, 1) := by decide +kernel
theorem d_P_setValues_26 : decode (m_P_setValues).2.1 26 = .ok (.if_icmp .ge 85, 3) := by decide +kernel
theorem d_P_setValues_29 : decode (m_P_setValues).2.1 29 = .ok (.iload 6, 2) := by decide +kernel
theorem d_P_setValues_31 : decode (m_P_setValues).2.1 31 = .ok (.ifCond .ne 16, 3) := by decide +kernel
theorem d_P_setValues_34 : decode (m_P_setValues).2.1 34 = .ok (.iload 5, 2) := by decide +kernel
theorem d_P_setValues_36 : decode (m_P_setValues).2.1 36 = .ok (.iload_n 1, 1) := by decide +kernel
theorem d_P_setValues_37 : decode (m_P_setValues).2.1 37 = .ok (.iconst (-1), 1) := by decide +kernel
theorem d_P_setValues_38 : decode (m_P_setValues).2.1 38 = .ok (.ixor, 1) := by decide +kernel
theorem d_P_setValues_39 : decode (m_P_setValues).2.1 39 = .ok (.iand, 1) := by decide +kernel
theorem d_P_setValues_40 : decode (m_P_setValues).2.1 40 = .ok (.ifCond .ne 7, 3) := by decide +kernel
theorem d_P_setValues_43 : decode (m_P_setValues).2.1 43 = .ok (.iconst 1, 1) := by decide +kernel
theorem d_P_setValues_44 : decode (m_P_setValues).2.1 44 = .ok (.goto 4, 3) := by decide +kernel
theorem d_P_setValues_47 : decode (m_P_setValues).2.1 47 = .ok (.iconst 0, 1) := by decide +kernel
theorem d_P_setValues_48 : decode (m_P_setValues).2.1 48 = .ok (.istore 7, 2) := by decide +kernel
theorem d_P_setValues_50 : decode (m_P_setValues).2.1 50 = .ok (.aload_n 0, 1) := by decide +kernel
theorem d_P_setValues_51 : decode (m_P_setValues).2.1 51 = .ok (.getfield 27, 3) := by decide +kernel
theorem d_P_setValues_54 : decode (m_P_setValues).2.1 54 = .ok (.iload_n 1, 1) := by decide +kernel
theorem d_P_setValues_55 : decode (m_P_setValues).2.1 55 = .ok (.aaload, 1) := by decide +kernel
theorem d_P_setValues_56 : decode (m_P_setValues).2.1 56 = .ok (.iload 4, 2) := by decide +kernel
theorem d_P_setValues_58 : decode (m_P_setValues).2.1 58 = .ok (.iload 7, 2) := by decide +kernel
theorem d_P_setValues_60 : decode (m_P_setValues).2.1 60 = .ok (.ifCond .eq 23, 3) := by decide +kernel
theorem d_P_setValues_63 : decode (m_P_setValues).2.1 63 = .ok (.aload_n 0, 1) := by decide +kernel
theorem d_P_setValues_64 : decode (m_P_setValues).2.1 64 = .ok (.getfield 30, 3) := by decide +kernel
theorem d_P_setValues_67 : decode (m_P_setValues).2.1 67 = .ok (.aload_n 0, 1) := by decide +kernel
theorem d_P_setValues_68 : decode (m_P_setValues).2.1 68 = .ok (.getfield 15, 3) := by decide +kernel
theorem d_P_setValues_71 : decode (m_P_setValues).2.1 71 = .ok (.iload_n 2, 1) := by decide +kernel
theorem d_P_setValues_72 : decode (m_P_setValues).2.1 72 = .ok (.iaload, 1) := by decide +kernel
theorem d_P_setValues_73 : decode (m_P_setValues).2.1 73 = .ok (.iload_n 1, 1) := by decide +kernel
theorem d_P_setValues_74 : decode (m_P_setValues).2.1 74 = .ok (.iload 5, 2) := by decide +kernel
theorem d_P_setValues_76 : decode (m_P_setValues).2.1 76 = .ok (.isub, 1) := by decide +kernel
theorem d_P_setValues_77 : decode (m_P_setValues).2.1 77 = .ok (.invokevirtual 96, 3) := by decide +kernel
theorem d_P_setValues_80 : decode (m_P_setValues).2.1 80 = .ok (.goto 4, 3) := by decide +kernel
theorem d_P_setValues_83 : decode (m_P_setValues).2.1 83 = .ok (.iconst 0, 1) := by decide +kernel
theorem d_P_setValues_84 : decode (m_P_setValues).2.1 84 = .ok (.iastore, 1) := by decide +kernel
theorem d_P_setValues_85 : decode (m_P_setValues).2.1 85 = .ok (.aload_n 0, 1) := by decide +kernel
theorem d_P_setValues_86 : decode (m_P_setValues).2.1 86 = .ok (.getfield 18, 3) := by decide +kernel
theorem d_P_setValues_89 : decode (m_P_setValues).2.1 89 = .ok (.iload 4, 2) := by decide +kernel
theorem d_P_setValues_91 : decode (m_P_setValues).2.1 91 = .ok (.iload 6, 2) := by decide +kernel
theorem d_P_setValues_93 : decode (m_P_setValues).2.1 93 = .ok (.ifCond .ne 7, 3) := by decide +kernel
theorem d_P_setValues_96 : decode (m_P_setValues).2.1 96 = .ok (.iconst 1, 1) := by decide +kernel
theorem d_P_setValues_97 : decode (m_P_setValues).2.1 97 = .ok (.goto 4, 3) := by decide +kernel
theorem d_P_setValues_100 : decode (m_P_setValues).2.1 100 = .ok (.iconst 0, 1) := by decide +kernel
theorem d_P_setValues_101 : decode (m_P_setValues).2.1 101 = .ok (.bastore, 1) := by decide +kernel
theorem d_P_setValues_102 : decode (m_P_setValues).2.1 102 = .ok (.iinc 4 1, 3) := by decide +kernel
theorem d_P_setValues_105 : decode (m_P_setValues).2.1 105 = .ok (.iinc 6 1, 3) := by decide +kernel
theorem d_P_setValues_108 : decode (m_P_setValues).2.1 108 = .ok (.goto (-88), 3) := by decide +kernel
theorem d_P_setValues_111 : decode (m_P_setValues).2.1 111 = .ok (.iinc 5 1, 3) := by decide +kernel
theorem d_P_setValues_114 : decode (m_P_setValues).2.1 114 = .ok (.goto (-103), 3) := by decide +kernel
theorem d_P_setValues_117 : decode (m_P_setValues).2.1 117 = .ok (.return_, 1) := by decide +kernel
theorem d_P_meet_0 : decode (m_P_meet).2.1 0 = .ok (.aload_n 0, 1) := by decide +kernel
theorem d_P_meet_1 : decode (m_P_meet).2.1 1 = .ok (.iload_n 1, 1) := by decide +kernel
theorem d_P_meet_2 : decode (m_P_meet).2.1 2 = .ok (.invokevirtual 99, 3) := by decide +kernel
theorem d_P_meet_5 : decode (m_P_meet).2.1 5 = .ok (.istore_n 3, 1) := by decide +kernel
theorem d_P_meet_6 : decode (m_P_meet).2.1 6 = .ok (.iload_n 3, 1) := by decide +kernel
theorem d_P_meet_7 : decode (m_P_meet).2.1 7 = .ok (.ifCond .ge 4, 3) := by decide +kernel
theorem d_P_meet_10 : decode (m_P_meet).2.1 10 = .ok (.return_, 1) := by decide +kernel
theorem d_P_meet_11 : decode (m_P_meet).2.1 11 = .ok (.aload_n 0, 1) := by decide +kernel
theorem d_P_meet_12 : decode (m_P_meet).2.1 12 = .ok (.getfield 27, 3) := by decide +kernel
theorem d_P_meet_15 : decode (m_P_meet).2.1 15 = .ok (.iload_n 3, 1) := by decide +kernel
theorem d_P_meet_16 : decode (m_P_meet).2.1 16 = .ok (.aaload, 1) := by decide +kernel
theorem d_P_meet_17 : decode (m_P_meet).2.1 17 = .ok (.astore 4, 2) := by decide +kernel
theorem d_P_meet_19 : decode (m_P_meet).2.1 19 = .ok (.iconst 0, 1) := by decide +kernel
theorem d_P_meet_20 : decode (m_P_meet).2.1 20 = .ok (.istore 5, 2) := by decide +kernel
theorem d_P_meet_22 : decode (m_P_meet).2.1 22 = .ok (.iload 5, 2) := by decide +kernel
theorem d_P_meet_24 : decode (m_P_meet).2.1 24 = .ok (.aload_n 0, 1) := by decide +kernel
theorem d_P_meet_25 : decode (m_P_meet).2.1 25 = .ok (.getfield 60, 3) := by decide +kernel
theorem d_P_meet_28 : decode (m_P_meet).2.1 28 = .ok (.if_icmp .ge 77, 3) := by decide +kernel
theorem d_P_meet_31 : decode (m_P_meet).2.1 31 = .ok (.iload 5, 2) := by decide +kernel
theorem d_P_meet_33 : decode (m_P_meet).2.1 33 = .ok (.iload_n 3, 1) := by decide +kernel
theorem d_P_meet_34 : decode (m_P_meet).2.1 34 = .ok (.if_icmp .eq 65, 3) := by decide +kernel
theorem d_P_meet_37 : decode (m_P_meet).2.1 37 = .ok (.aload_n 0, 1) := by decide +kernel
theorem d_P_meet_38 : decode (m_P_meet).2.1 38 = .ok (.getfield 27, 3) := by decide +kernel
theorem d_P_meet_41 : decode (m_P_meet).2.1 41 = .ok (.iload 5, 2) := by decide +kernel
theorem d_P_meet_43 : decode (m_P_meet).2.1 43 = .ok (.aaload, 1) := by decide +kernel
theorem d_P_meet_44 : decode (m_P_meet).2.1 44 = .ok (.iload_n 1, 1) := by decide +kernel
theorem d_P_meet_45 : decode (m_P_meet).2.1 45 = .ok (.iaload, 1) := by decide +kernel
theorem d_P_meet_46 : decode (m_P_meet).2.1 46 = .ok (.ifCond .eq 53, 3) := by decide +kernel
theorem d_P_meet_49 : decode (m_P_meet).2.1 49 = .ok (.aload_n 0, 1) := by decide +kernel
theorem d_P_meet_50 : decode (m_P_meet).2.1 50 = .ok (.getfield 30, 3) := by decide +kernel
theorem d_P_meet_53 : decode (m_P_meet).2.1 53 = .ok (.aload_n 0, 1) := by decide +kernel
theorem d_P_meet_54 : decode (m_P_meet).2.1 54 = .ok (.getfield 27, 3) := by decide +kernel
theorem d_P_meet_57 : decode (m_P_meet).2.1 57 = .ok (.iload 5, 2) := by decide +kernel
theorem d_P_meet_59 : decode (m_P_meet).2.1 59 = .ok (.aaload, 1) := by decide +kernel
theorem d_P_meet_60 : decode (m_P_meet).2.1 60 = .ok (.iload_n 1, 1) := by decide +kernel
theorem d_P_meet_61 : decode (m_P_meet).2.1 61 = .ok (.iaload, 1) := by decide +kernel
theorem d_P_meet_62 : decode (m_P_meet).2.1 62 = .ok (.aload 4, 2) := by decide +kernel
theorem d_P_meet_64 : decode (m_P_meet).2.1 64 = .ok (.iload_n 1, 1) := by decide +kernel
theorem d_P_meet_65 : decode (m_P_meet).2.1 65 = .ok (.iaload, 1) := by decide +kernel
theorem d_P_meet_66 : decode (m_P_meet).2.1 66 = .ok (.invokevirtual 91, 3) := by decide +kernel
theorem d_P_meet_69 : decode (m_P_meet).2.1 69 = .ok (.istore 6, 2) := by decide +kernel
theorem d_P_meet_71 : decode (m_P_meet).2.1 71 = .ok (.aload_n 0, 1) := by decide +kernel
theorem d_P_meet_72 : decode (m_P_meet).2.1 72 = .ok (.getfield 30, 3) := by decide +kernel
theorem d_P_meet_75 : decode (m_P_meet).2.1 75 = .ok (.aload_n 0, 1) := by decide +kernel
theorem d_P_meet_76 : decode (m_P_meet).2.1 76 = .ok (.getfield 27, 3) := by decide +kernel
theorem d_P_meet_79 : decode (m_P_meet).2.1 79 = .ok (.iload 5, 2) := by decide +kernel
theorem d_P_meet_81 : decode (m_P_meet).2.1 81 = .ok (.aaload, 1) := by decide +kernel
theorem d_P_meet_82 : decode (m_P_meet).2.1 82 = .ok (.iload 6, 2) := by decide +kernel
theorem d_P_meet_84 : decode (m_P_meet).2.1 84 = .ok (.aload 4, 2) := by decide +kernel
theorem d_P_meet_86 : decode (m_P_meet).2.1 86 = .ok (.iload_n 1, 1) := by decide +kernel
theorem d_P_meet_87 : decode (m_P_meet).2.1 87 = .ok (.aload_n 0, 1) := by decide +kernel
theorem d_P_meet_88 : decode (m_P_meet).2.1 88 = .ok (.getfield 63, 3) := by decide +kernel
theorem d_P_meet_91 : decode (m_P_meet).2.1 91 = .ok (.aload_n 0, 1) := by decide +kernel
theorem d_P_meet_92 : decode (m_P_meet).2.1 92 = .ok (.getfield 45, 3) := by decide +kernel
theorem d_P_meet_95 : decode (m_P_meet).2.1 95 = .ok (.imul, 1) := by decide +kernel
theorem d_P_meet_96 : decode (m_P_meet).2.1 96 = .ok (.invokevirtual 103, 3) := by decide +kernel
theorem d_P_meet_99 : decode (m_P_meet).2.1 99 = .ok (.iinc 5 1, 3) := by decide +kernel
theorem d_P_meet_102 : decode (m_P_meet).2.1 102 = .ok (.goto (-80), 3) := by decide +kernel
theorem d_P_meet_105 : decode (m_P_meet).2.1 105 = .ok (.aload_n 0, 1) := by decide +kernel
theorem d_P_meet_106 : decode (m_P_meet).2.1 106 = .ok (.aload 4, 2) := by decide +kernel
theorem d_P_meet_108 : decode (m_P_meet).2.1 108 = .ok (.iload_n 2, 1) := by decide +kernel
theorem d_P_meet_109 : decode (m_P_meet).2.1 109 = .ok (.invokevirtual 107, 3) := by decide +kernel
theorem d_P_meet_112 : decode (m_P_meet).2.1 112 = .ok (.aload_n 0, 1) := by decide +kernel
theorem d_P_meet_113 : decode (m_P_meet).2.1 113 = .ok (.getfield 22, 3) := by decide +kernel
theorem d_P_meet_116 : decode (m_P_meet).2.1 116 = .ok (.iload_n 3, 1) := by decide +kernel
theorem d_P_meet_117 : decode (m_P_meet).2.1 117 = .ok (.dup2, 1) := by decide +kernel
theorem d_P_meet_118 : decode (m_P_meet).2.1 118 = .ok (.iaload, 1) := by decide +kernel
theorem d_P_meet_119 : decode (m_P_meet).2.1 119 = .ok (.iconst 1, 1) := by decide +kernel
theorem d_P_meet_120 : decode (m_P_meet).2.1 120 = .ok (.iadd, 1) := by decide +kernel
theorem d_P_meet_121 : decode (m_P_meet).2.1 121 = .ok (.iastore, 1) := by decide +kernel
theorem d_P_meet_122 : decode (m_P_meet).2.1 122 = .ok (.return_, 1) := by decide +kernel
theorem d_P_failingLeast_0 : decode (m_P_failingLeast).2.1 0 = .ok (.iconst (-1), 1) := by decide +kernel
theorem d_P_failingLeast_1 : decode (m_P_failingLeast).2.1 1 = .ok (.istore_n 2, 1) := by decide +kernel
theorem d_P_failingLeast_2 : decode (m_P_failingLeast).2.1 2 = .ok (.iconst 0, 1) := by decide +kernel
theorem d_P_failingLeast_3 : decode (m_P_failingLeast).2.1 3 = .ok (.istore_n 3, 1) := by decide +kernel
theorem d_P_failingLeast_4 : decode (m_P_failingLeast).2.1 4 = .ok (.iload_n 3, 1) := by decide +kernel
theorem d_P_failingLeast_5 : decode (m_P_failingLeast).2.1 5 = .ok (.aload_n 0, 1) := by decide +kernel
theorem d_P_failingLeast_6 : decode (m_P_failingLeast).2.1 6 = .ok (.getfield 60, 3) := by decide +kernel
theorem d_P_failingLeast_9 : decode (m_P_failingLeast).2.1 9 = .ok (.if_icmp .ge 41, 3) := by decide +kernel
theorem d_P_failingLeast_12 : decode (m_P_failingLeast).2.1 12 = .ok (.aload_n 0, 1) := by decide +kernel
theorem d_P_failingLeast_13 : decode (m_P_failingLeast).2.1 13 = .ok (.getfield 27, 3) := by decide +kernel
theorem d_P_failingLeast_16 : decode (m_P_failingLeast).2.1 16 = .ok (.iload_n 3, 1) := by decide +kernel
theorem d_P_failingLeast_17 : decode (m_P_failingLeast).2.1 17 = .ok (.aaload, 1) := by decide +kernel
theorem d_P_failingLeast_18 : decode (m_P_failingLeast).2.1 18 = .ok (.iload_n 1, 1) := by decide +kernel
theorem d_P_failingLeast_19 : decode (m_P_failingLeast).2.1 19 = .ok (.iaload, 1) := by decide +kernel
theorem d_P_failingLeast_20 : decode (m_P_failingLeast).2.1 20 = .ok (.ifCond .eq 24, 3) := by decide +kernel
theorem d_P_failingLeast_23 : decode (m_P_failingLeast).2.1 23 = .ok (.iload_n 2, 1) := by decide +kernel
theorem d_P_failingLeast_24 : decode (m_P_failingLeast).2.1 24 = .ok (.ifCond .lt 18, 3) := by decide +kernel
theorem d_P_failingLeast_27 : decode (m_P_failingLeast).2.1 27 = .ok (.aload_n 0, 1) := by decide +kernel
theorem d_P_failingLeast_28 : decode (m_P_failingLeast).2.1 28 = .ok (.getfield 22, 3) := by decide +kernel
theorem d_P_failingLeast_31 : decode (m_P_failingLeast).2.1 31 = .ok (.iload_n 3, 1) := by decide +kernel
theorem d_P_failingLeast_32 : decode (m_P_failingLeast).2.1 32 = .ok (.iaload, 1) := by decide +kernel
theorem d_P_failingLeast_33 : decode (m_P_failingLeast).2.1 33 = .ok (.aload_n 0, 1) := by decide +kernel
theorem d_P_failingLeast_34 : decode (m_P_failingLeast).2.1 34 = .ok (.getfield 22, 3) := by decide +kernel
theorem d_P_failingLeast_37 : decode (m_P_failingLeast).2.1 37 = .ok (.iload_n 2, 1) := by decide +kernel
theorem d_P_failingLeast_38 : decode (m_P_failingLeast).2.1 38 = .ok (.iaload, 1) := by decide +kernel
theorem d_P_failingLeast_39 : decode (m_P_failingLeast).2.1 39 = .ok (.if_icmp .ge 5, 3) := by decide +kernel
theorem d_P_failingLeast_42 : decode (m_P_failingLeast).2.1 42 = .ok (.iload_n 3, 1) := by decide +kernel
theorem d_P_failingLeast_43 : decode (m_P_failingLeast).2.1 43 = .ok (.istore_n 2, 1) := by decide +kernel
theorem d_P_failingLeast_44 : decode (m_P_failingLeast).2.1 44 = .ok (.iinc 3 1, 3) := by decide +kernel
theorem d_P_failingLeast_47 : decode (m_P_failingLeast).2.1 47 = .ok (.goto (-43), 3) := by decide +kernel
theorem d_P_failingLeast_50 : decode (m_P_failingLeast).2.1 50 = .ok (.iload_n 2, 1) := by decide +kernel
theorem d_P_failingLeast_51 : decode (m_P_failingLeast).2.1 51 = .ok (.ireturn, 1) := by decide +kernel
theorem d_P_timesLinear_0 : decode (m_P_timesLinear).2.1 0 = .ok (.iload_n 2, 1) := by decide +kernel
theorem d_P_timesLinear_1 : decode (m_P_timesLinear).2.1 1 = .ok (.istore_n 3, 1) := by decide +kernel
theorem d_P_timesLinear_2 : decode (m_P_timesLinear).2.1 2 = .ok (.iload_n 3, 1) := by decide +kernel
theorem d_P_timesLinear_3 : decode (m_P_timesLinear).2.1 3 = .ok (.aload_n 0, 1) := by decide +kernel
theorem d_P_timesLinear_4 : decode (m_P_timesLinear).2.1 4 = .ok (.getfield 63, 3) := by decide +kernel
theorem d_P_timesLinear_7 : decode (m_P_timesLinear).2.1 7 = .ok (.if_icmp .ge 95, 3) := by decide +kernel
theorem d_P_timesLinear_10 : decode (m_P_timesLinear).2.1 10 = .ok (.aload_n 0, 1) := by decide +kernel
theorem d_P_timesLinear_11 : decode (m_P_timesLinear).2.1 11 = .ok (.getfield 9, 3) := by decide +kernel
theorem d_P_timesLinear_14 : decode (m_P_timesLinear).2.1 14 = .ok (.iload_n 3, 1) := by decide +kernel
theorem d_P_timesLinear_15 : decode (m_P_timesLinear).2.1 15 = .ok (.iaload, 1) := by decide +kernel
theorem d_P_timesLinear_16 : decode (m_P_timesLinear).2.1 16 = .ok (.aload_n 0, 1) := by decide +kernel
theorem d_P_timesLinear_17 : decode (m_P_timesLinear).2.1 17 = .ok (.getfield 9, 3) := by decide +kernel
theorem d_P_timesLinear_20 : decode (m_P_timesLinear).2.1 20 = .ok (.iload_n 2, 1) := by decide +kernel
theorem d_P_timesLinear_21 : decode (m_P_timesLinear).2.1 21 = .ok (.iaload, 1) := by decide +kernel
theorem d_P_timesLinear_22 : decode (m_P_timesLinear).2.1 22 = .ok (.ixor, 1) := by decide +kernel
theorem d_P_timesLinear_23 : decode (m_P_timesLinear).2.1 23 = .ok (.istore 4, 2) := by decide +kernel
theorem d_P_timesLinear_25 : decode (m_P_timesLinear).2.1 25 = .ok (.iload_n 3, 1) := by decide +kernel
theorem d_P_timesLinear_26 : decode (m_P_timesLinear).2.1 26 = .ok (.iconst 1, 1) := by decide +kernel
theorem d_P_timesLinear_27 : decode (m_P_timesLinear).2.1 27 = .ok (.iadd, 1) := by decide +kernel
theorem d_P_timesLinear_28 : decode (m_P_timesLinear).2.1 28 = .ok (.aload_n 0, 1) := by decide +kernel
theorem d_P_timesLinear_29 : decode (m_P_timesLinear).2.1 29 = .ok (.getfield 45, 3) := by decide +kernel
theorem d_P_timesLinear_32 : decode (m_P_timesLinear).2.1 32 = .ok (.imul, 1) := by decide +kernel
theorem d_P_timesLinear_33 : decode (m_P_timesLinear).2.1 33 = .ok (.iconst 1, 1) := by decide +kernel
theorem d_P_timesLinear_34 : decode (m_P_timesLinear).2.1 34 = .ok (.isub, 1) := by decide +kernel
theorem d_P_timesLinear_35 : decode (m_P_timesLinear).2.1 35 = .ok (.istore 5, 2) := by decide +kernel
theorem d_P_timesLinear_37 : decode (m_P_timesLinear).2.1 37 = .ok (.iload 5, 2) := by decide +kernel
theorem d_P_timesLinear_39 : decode (m_P_timesLinear).2.1 39 = .ok (.iload_n 3, 1) := by decide +kernel
theorem d_P_timesLinear_40 : decode (m_P_timesLinear).2.1 40 = .ok (.aload_n 0, 1) := by decide +kernel
theorem d_P_timesLinear_41 : decode (m_P_timesLinear).2.1 41 = .ok (.getfield 45, 3) := by decide +kernel
theorem d_P_timesLinear_44 : decode (m_P_timesLinear).2.1 44 = .ok (.imul, 1) := by decide +kernel
theorem d_P_timesLinear_45 : decode (m_P_timesLinear).2.1 45 = .ok (.if_icmp .lt 51, 3) := by decide +kernel
theorem d_P_timesLinear_48 : decode (m_P_timesLinear).2.1 48 = .ok (.aload_n 0, 1) := by decide +kernel
theorem d_P_timesLinear_49 : decode (m_P_timesLinear).2.1 49 = .ok (.getfield 18, 3) := by decide +kernel
theorem d_P_timesLinear_52 : decode (m_P_timesLinear).2.1 52 = .ok (.iload 5, 2) := by decide +kernel
theorem d_P_timesLinear_54 : decode (m_P_timesLinear).2.1 54 = .ok (.baload, 1) := by decide +kernel
theorem d_P_timesLinear_55 : decode (m_P_timesLinear).2.1 55 = .ok (.ifCond .eq 7, 3) := by decide +kernel
theorem d_P_timesLinear_58 : decode (m_P_timesLinear).2.1 58 = .ok (.iconst 0, 1) := by decide +kernel
theorem d_P_timesLinear_59 : decode (m_P_timesLinear).2.1 59 = .ok (.goto 9, 3) := by decide +kernel
theorem d_P_timesLinear_62 : decode (m_P_timesLinear).2.1 62 = .ok (.aload_n 1, 1) := by decide +kernel
theorem d_P_timesLinear_63 : decode (m_P_timesLinear).2.1 63 = .ok (.iload 5, 2) := by decide +kernel
theorem d_P_timesLinear_65 : decode (m_P_timesLinear).2.1 65 = .ok (.iconst 1, 1) := by decide +kernel
theorem d_P_timesLinear_66 : decode (m_P_timesLinear).2.1 66 = .ok (.isub, 1) := by decide +kernel
theorem d_P_timesLinear_67 : decode (m_P_timesLinear).2.1 67 = .ok (.iaload, 1) := by decide +kernel
theorem d_P_timesLinear_68 : decode (m_P_timesLinear).2.1 68 = .ok (.istore 6, 2) := by decide +kernel
theorem d_P_timesLinear_70 : decode (m_P_timesLinear).2.1 70 = .ok (.aload_n 1, 1) := by decide +kernel
theorem d_P_timesLinear_71 : decode (m_P_timesLinear).2.1 71 = .ok (.iload 5, 2) := by decide +kernel
theorem d_P_timesLinear_73 : decode (m_P_timesLinear).2.1 73 = .ok (.iload 6, 2) := by decide +kernel
theorem d_P_timesLinear_75 : decode (m_P_timesLinear).2.1 75 = .ok (.aload_n 0, 1) := by decide +kernel
theorem d_P_timesLinear_76 : decode (m_P_timesLinear).2.1 76 = .ok (.getfield 30, 3) := by decide +kernel
theorem d_P_timesLinear_79 : decode (m_P_timesLinear).2.1 79 = .ok (.iload 4, 2) := by decide +kernel
theorem d_P_timesLinear_81 : decode (m_P_timesLinear).2.1 81 = .ok (.aload_n 1, 1) := by decide +kernel
theorem d_P_timesLinear_82 : decode (m_P_timesLinear).2.1 82 = .ok (.iload 5, 2) := by decide +kernel
theorem d_P_timesLinear_84 : decode (m_P_timesLinear).2.1 84 = .ok (.iaload, 1) := by decide +kernel
theorem d_P_timesLinear_85 : decode (m_P_timesLinear).2.1 85 = .ok (.invokevirtual 111, 3) := by decide +kernel
theorem d_P_timesLinear_88 : decode (m_P_timesLinear).2.1 88 = .ok (.ixor, 1) := by decide +kernel
theorem d_P_timesLinear_89 : decode (m_P_timesLinear).2.1 89 = .ok (.iastore, 1) := by decide +kernel
theorem d_P_timesLinear_90 : decode (m_P_timesLinear).2.1 90 = .ok (.iinc 5 (-1), 3) := by decide +kernel
theorem d_P_timesLinear_93 : decode (m_P_timesLinear).2.1 93 = .ok (.goto (-56), 3) := by decide +kernel
theorem d_P_timesLinear_96 : decode (m_P_timesLinear).2.1 96 = .ok (.iinc 3 1, 3) := by decide +kernel
theorem d_P_timesLinear_99 : decode (m_P_timesLinear).2.1 99 = .ok (.goto (-97), 3) := by decide +kernel
theorem d_P_timesLinear_102 : decode (m_P_timesLinear).2.1 102 = .ok (.return_, 1) := by decide +kernel
theorem d_S_init_0 : decode (m_S_init).2.1 0 = .ok (.aload_n 0, 1) := by decide +kernel
theorem d_S_init_1 : decode (m_S_init).2.1 1 = .ok (.invokespecial 3, 3) := by decide +kernel
theorem d_S_init_4 : decode (m_S_init).2.1 4 = .ok (.aload_n 0, 1) := by decide +kernel
theorem d_S_init_5 : decode (m_S_init).2.1 5 = .ok (.iconst 4, 1) := by decide +kernel
theorem d_S_init_6 : decode (m_S_init).2.1 6 = .ok (.newarray .int, 2) := by decide +kernel
theorem d_S_init_8 : decode (m_S_init).2.1 8 = .ok (.putfield 9, 3) := by decide +kernel
theorem d_S_init_11 : decode (m_S_init).2.1 11 = .ok (.aload_n 0, 1) := by decide +kernel
theorem d_S_init_12 : decode (m_S_init).2.1 12 = .ok (.bipush 32, 2) := by decide +kernel
theorem d_S_init_14 : decode (m_S_init).2.1 14 = .ok (.newarray .int, 2) := by decide +kernel
theorem d_S_init_16 : decode (m_S_init).2.1 16 = .ok (.putfield 15, 3) := by decide +kernel
theorem d_S_init_19 : decode (m_S_init).2.1 19 = .ok (.aload_n 0, 1) := by decide +kernel
theorem d_S_init_20 : decode (m_S_init).2.1 20 = .ok (.aload_n 1, 1) := by decide +kernel
theorem d_S_init_21 : decode (m_S_init).2.1 21 = .ok (.putfield 18, 3) := by decide +kernel
theorem d_S_init_24 : decode (m_S_init).2.1 24 = .ok (.aload_n 0, 1) := by decide +kernel
theorem d_S_init_25 : decode (m_S_init).2.1 25 = .ok (.aload_n 2, 1) := by decide +kernel
theorem d_S_init_26 : decode (m_S_init).2.1 26 = .ok (.putfield 22, 3) := by decide +kernel
theorem d_S_init_29 : decode (m_S_init).2.1 29 = .ok (.aload_n 0, 1) := by decide +kernel
theorem d_S_init_30 : decode (m_S_init).2.1 30 = .ok (.aload_n 3, 1) := by decide +kernel
theorem d_S_init_31 : decode (m_S_init).2.1 31 = .ok (.putfield 26, 3) := by decide +kernel
theorem d_S_init_34 : decode (m_S_init).2.1 34 = .ok (.return_, 1) := by decide +kernel
theorem d_S_find_0 : decode (m_S_find).2.1 0 = .ok (.aload_n 2, 1) := by decide +kernel
theorem d_S_find_1 : decode (m_S_find).2.1 1 = .ok (.iconst 0, 1) := by decide +kernel
theorem d_S_find_2 : decode (m_S_find).2.1 2 = .ok (.putfield 30, 3) := by decide +kernel
theorem d_S_find_5 : decode (m_S_find).2.1 5 = .ok (.aload_n 0, 1) := by decide +kernel
theorem d_S_find_6 : decode (m_S_find).2.1 6 = .ok (.getfield 22, 3) := by decide +kernel
theorem d_S_find_9 : decode (m_S_find).2.1 9 = .ok (.getfield 36, 3) := by decide +kernel
theorem d_S_find_12 : decode (m_S_find).2.1 12 = .ok (.iconst 1, 1) := by decide +kernel
theorem d_S_find_13 : decode (m_S_find).2.1 13 = .ok (.isub, 1) := by decide +kernel
theorem d_S_find_14 : decode (m_S_find).2.1 14 = .ok (.istore_n 3, 1) := by decide +kernel
theorem d_S_find_15 : decode (m_S_find).2.1 15 = .ok (.iconst 1, 1) := by decide +kernel
theorem d_S_find_16 : decode (m_S_find).2.1 16 = .ok (.aload_n 0, 1) := by decide +kernel
theorem d_S_find_17 : decode (m_S_find).2.1 17 = .ok (.getfield 18, 3) := by decide +kernel
theorem d_S_find_20 : decode (m_S_find).2.1 20 = .ok (.getfield 41, 3) := by decide +kernel
theorem d_S_find_23 : decode (m_S_find).2.1 23 = .ok (.iload_n 3, 1) := by decide +kernel
theorem d_S_find_24 : decode (m_S_find).2.1 24 = .ok (.imul, 1) := by decide +kernel
theorem d_S_find_25 : decode (m_S_find).2.1 25 = .ok (.ishl, 1) := by decide +kernel
theorem d_S_find_26 : decode (m_S_find).2.1 26 = .ok (.istore 4, 2) := by decide +kernel
theorem d_S_find_28 : decode (m_S_find).2.1 28 = .ok (.iconst 0, 1) := by decide +kernel
theorem d_S_find_29 : decode (m_S_find).2.1 29 = .ok (.istore 5, 2) := by decide +kernel
theorem d_S_find_31 : decode (m_S_find).2.1 31 = .ok (.iload 5, 2) := by decide +kernel
theorem d_S_find_33 : decode (m_S_find).2.1 33 = .ok (.iload 4, 2) := by decide +kernel
theorem d_S_find_35 : decode (m_S_find).2.1 35 = .ok (.if_icmp .ge 88, 3) := by decide +kernel
theorem d_S_find_38 : decode (m_S_find).2.1 38 = .ok (.aload_n 0, 1) := by decide +kernel
theorem d_S_find_39 : decode (m_S_find).2.1 39 = .ok (.iload 5, 2) := by decide +kernel
theorem d_S_find_41 : decode (m_S_find).2.1 41 = .ok (.iload_n 3, 1) := by decide +kernel
theorem d_S_find_42 : decode (m_S_find).2.1 42 = .ok (.invokevirtual 46, 3) := by decide +kernel
theorem d_S_find_45 : decode (m_S_find).2.1 45 = .ok (.aload_n 0, 1) := by decide +kernel
theorem d_S_find_46 : decode (m_S_find).2.1 46 = .ok (.iload_n 3, 1) := by decide +kernel
theorem d_S_find_47 : decode (m_S_find).2.1 47 = .ok (.invokevirtual 50, 3) := by decide +kernel
theorem d_S_find_50 : decode (m_S_find).2.1 50 = .ok (.iconst 0, 1) := by decide +kernel
theorem d_S_find_51 : decode (m_S_find).2.1 51 = .ok (.istore 6, 2) := by decide +kernel
theorem d_S_find_53 : decode (m_S_find).2.1 53 = .ok (.iload 6, 2) := by decide +kernel
theorem d_S_find_55 : decode (m_S_find).2.1 55 = .ok (.aload_n 0, 1) := by decide +kernel
theorem d_S_find_56 : decode (m_S_find).2.1 56 = .ok (.getfield 18, 3) := by decide +kernel
theorem d_S_find_59 : decode (m_S_find).2.1 59 = .ok (.getfield 54, 3) := by decide +kernel
theorem d_S_find_62 : decode (m_S_find).2.1 62 = .ok (.if_icmp .ge 55, 3) := by decide +kernel
theorem d_S_find_65 : decode (m_S_find).2.1 65 = .ok (.aload_n 0, 1) := by decide +kernel
theorem d_S_find_66 : decode (m_S_find).2.1 66 = .ok (.getfield 26, 3) := by decide +kernel
theorem d_S_find_69 : decode (m_S_find).2.1 69 = .ok (.getfield 57, 3) := by decide +kernel
theorem d_S_find_72 : decode (m_S_find).2.1 72 = .ok (.aload_n 0, 1) := by decide +kernel
theorem d_S_find_73 : decode (m_S_find).2.1 73 = .ok (.getfield 62, 3) := by decide +kernel
theorem d_S_find_76 : decode (m_S_find).2.1 76 = .ok (.isub, 1) := by decide +kernel
theorem d_S_find_77 : decode (m_S_find).2.1 77 = .ok (.aload_n 0, 1) := by decide +kernel
theorem d_S_find_78 : decode (m_S_find).2.1 78 = .ok (.getfield 15, 3) := by decide +kernel
theorem d_S_find_81 : decode (m_S_find).2.1 81 = .ok (.iload 6, 2) := by decide +kernel
theorem d_S_find_83 : decode (m_S_find).2.1 83 = .ok (.iaload, 1) := by decide +kernel
theorem d_S_find_84 : decode (m_S_find).2.1 84 = .ok (.isub, 1) := by decide +kernel
theorem d_S_find_85 : decode (m_S_find).2.1 85 = .ok (.istore 7, 2) := by decide +kernel
theorem d_S_find_87 : decode (m_S_find).2.1 87 = .ok (.iload 7, 2) := by decide +kernel
theorem d_S_find_89 : decode (m_S_find).2.1 89 = .ok (.iload_n 1, 1) := by decide +kernel
theorem d_S_find_90 : decode (m_S_find).2.1 90 = .ok (.if_icmp .gt 21, 3) := by decide +kernel
theorem d_S_find_93 : decode (m_S_find).2.1 93 = .ok (.aload_n 0, 1) := by decide +kernel
theorem d_S_find_94 : decode (m_S_find).2.1 94 = .ok (.getfield 9, 3) := by decide +kernel
theorem d_S_find_97 : decode (m_S_find).2.1 97 = .ok (.iload_n 3, 1) := by decide +kernel
theorem d_S_find_98 : decode (m_S_find).2.1 98 = .ok (.iload 6, 2) := by decide +kernel
theorem d_S_find_100 : decode (m_S_find).2.1 100 = .ok (.iastore, 1) := by decide +kernel
theorem d_S_find_101 : decode (m_S_find).2.1 101 = .ok (.aload_n 2, 1) := by decide +kernel
theorem d_S_find_102 : decode (m_S_find).2.1 102 = .ok (.aload_n 0, 1) := by decide +kernel
theorem d_S_find_103 : decode (m_S_find).2.1 103 = .ok (.getfield 9, 3) := by decide +kernel
theorem d_S_find_106 : decode (m_S_find).2.1 106 = .ok (.iload 7, 2) := by decide +kernel
theorem d_S_find_108 : decode (m_S_find).2.1 108 = .ok (.invokevirtual 65, 3) := by decide +kernel
theorem d_S_find_111 : decode (m_S_find).2.1 111 = .ok (.iinc 6 1, 3) := by decide +kernel
theorem d_S_find_114 : decode (m_S_find).2.1 114 = .ok (.goto (-61), 3) := by decide +kernel
theorem d_S_find_117 : decode (m_S_find).2.1 117 = .ok (.iinc 5 1, 3) := by decide +kernel
theorem d_S_find_120 : decode (m_S_find).2.1 120 = .ok (.goto (-89), 3) := by decide +kernel
theorem d_S_find_123 : decode (m_S_find).2.1 123 = .ok (.return_, 1) := by decide +kernel
end
section
theorem d_S_setStart_0 : decode (m_S_setStart).2.1 0 = .ok (.iload_n 1, 1) := by decide +kernel
theorem d_S_setStart_1 : decode (m_S_setStart).2.1 1 = .ok (.istore_n 3, 1) := by decide +kernel
theorem d_S_setStart_2 : decode (m_S_setStart).2.1 2 = .ok (.iload_n 2, 1) := by decide +kernel
theorem d_S_setStart_3 : decode (m_S_setStart).2.1 3 = .ok (.iconst 1, 1) := by decide +kernel
theorem d_S_setStart_4 : decode (m_S_setStart).2.1 4 = .ok (.isub, 1) := by decide +kernel
theorem d_S_setStart_5 : decode (m_S_setStart).2.1 5 = .ok (.istore 4, 2) := by decide +kernel
theorem d_S_setStart_7 : decode (m_S_setStart).2.1 7 = .ok (.iload 4, 2) := by decide +kernel
theorem d_S_setStart_9 : decode (m_S_setStart).2.1 9 = .ok (.ifCond .lt 37, 3) := by decide +kernel
theorem d_S_setStart_12 : decode (m_S_setStart).2.1 12 = .ok (.aload_n 0, 1) := by decide +kernel
theorem d_S_setStart_13 : decode (m_S_setStart).2.1 13 = .ok (.getfield 9, 3) := by decide +kernel
theorem d_S_setStart_16 : decode (m_S_setStart).2.1 16 = .ok (.iload 4, 2) := by decide +kernel
theorem d_S_setStart_18 : decode (m_S_setStart).2.1 18 = .ok (.iload_n 3, 1) := by decide +kernel
theorem d_S_setStart_19 : decode (m_S_setStart).2.1 19 = .ok (.aload_n 0, 1) := by decide +kernel
theorem d_S_setStart_20 : decode (m_S_setStart).2.1 20 = .ok (.getfield 18, 3) := by decide +kernel
theorem d_S_setStart_23 : decode (m_S_setStart).2.1 23 = .ok (.getfield 54, 3) := by decide +kernel
theorem d_S_setStart_26 : decode (m_S_setStart).2.1 26 = .ok (.iconst 1, 1) := by decide +kernel
theorem d_S_setStart_27 : decode (m_S_setStart).2.1 27 = .ok (.isub, 1) := by decide +kernel
theorem d_S_setStart_28 : decode (m_S_setStart).2.1 28 = .ok (.iand, 1) := by decide +kernel
theorem d_S_setStart_29 : decode (m_S_setStart).2.1 29 = .ok (.iastore, 1) := by decide +kernel
theorem d_S_setStart_30 : decode (m_S_setStart).2.1 30 = .ok (.iload_n 3, 1) := by decide +kernel
theorem d_S_setStart_31 : decode (m_S_setStart).2.1 31 = .ok (.aload_n 0, 1) := by decide +kernel
theorem d_S_setStart_32 : decode (m_S_setStart).2.1 32 = .ok (.getfield 18, 3) := by decide +kernel
theorem d_S_setStart_35 : decode (m_S_setStart).2.1 35 = .ok (.getfield 41, 3) := by decide +kernel
theorem d_S_setStart_38 : decode (m_S_setStart).2.1 38 = .ok (.ishr, 1) := by decide +kernel
theorem d_S_setStart_39 : decode (m_S_setStart).2.1 39 = .ok (.istore_n 3, 1) := by decide +kernel
theorem d_S_setStart_40 : decode (m_S_setStart).2.1 40 = .ok (.iinc 4 (-1), 3) := by decide +kernel
theorem d_S_setStart_43 : decode (m_S_setStart).2.1 43 = .ok (.goto (-36), 3) := by decide +kernel
theorem d_S_setStart_46 : decode (m_S_setStart).2.1 46 = .ok (.aload_n 0, 1) := by decide +kernel
theorem d_S_setStart_47 : decode (m_S_setStart).2.1 47 = .ok (.getfield 9, 3) := by decide +kernel
theorem d_S_setStart_50 : decode (m_S_setStart).2.1 50 = .ok (.iload_n 2, 1) := by decide +kernel
theorem d_S_setStart_51 : decode (m_S_setStart).2.1 51 = .ok (.iconst 0, 1) := by decide +kernel
theorem d_S_setStart_52 : decode (m_S_setStart).2.1 52 = .ok (.iastore, 1) := by decide +kernel
theorem d_S_setStart_53 : decode (m_S_setStart).2.1 53 = .ok (.return_, 1) := by decide +kernel
theorem d_S_countVotes_0 : decode (m_S_countVotes).2.1 0 = .ok (.iconst 0, 1) := by decide +kernel
theorem d_S_countVotes_1 : decode (m_S_countVotes).2.1 1 = .ok (.istore_n 2, 1) := by decide +kernel
theorem d_S_countVotes_2 : decode (m_S_countVotes).2.1 2 = .ok (.iload_n 2, 1) := by decide +kernel
theorem d_S_countVotes_3 : decode (m_S_countVotes).2.1 3 = .ok (.aload_n 0, 1) := by decide +kernel
theorem d_S_countVotes_4 : decode (m_S_countVotes).2.1 4 = .ok (.getfield 18, 3) := by decide +kernel
theorem d_S_countVotes_7 : decode (m_S_countVotes).2.1 7 = .ok (.getfield 54, 3) := by decide +kernel
theorem d_S_countVotes_10 : decode (m_S_countVotes).2.1 10 = .ok (.if_icmp .ge 16, 3) := by decide +kernel
theorem d_S_countVotes_13 : decode (m_S_countVotes).2.1 13 = .ok (.aload_n 0, 1) := by decide +kernel
theorem d_S_countVotes_14 : decode (m_S_countVotes).2.1 14 = .ok (.getfield 15, 3) := by decide +kernel
theorem d_S_countVotes_17 : decode (m_S_countVotes).2.1 17 = .ok (.iload_n 2, 1) := by decide +kernel
theorem d_S_countVotes_18 : decode (m_S_countVotes).2.1 18 = .ok (.iconst 0, 1) := by decide +kernel
theorem d_S_countVotes_19 : decode (m_S_countVotes).2.1 19 = .ok (.iastore, 1) := by decide +kernel
theorem d_S_countVotes_20 : decode (m_S_countVotes).2.1 20 = .ok (.iinc 2 1, 3) := by decide +kernel
theorem d_S_countVotes_23 : decode (m_S_countVotes).2.1 23 = .ok (.goto (-21), 3) := by decide +kernel
theorem d_S_countVotes_26 : decode (m_S_countVotes).2.1 26 = .ok (.aload_n 0, 1) := by decide +kernel
theorem d_S_countVotes_27 : decode (m_S_countVotes).2.1 27 = .ok (.iconst 0, 1) := by decide +kernel
theorem d_S_countVotes_28 : decode (m_S_countVotes).2.1 28 = .ok (.putfield 62, 3) := by decide +kernel
theorem d_S_countVotes_31 : decode (m_S_countVotes).2.1 31 = .ok (.iconst 0, 1) := by decide +kernel
theorem d_S_countVotes_32 : decode (m_S_countVotes).2.1 32 = .ok (.istore_n 2, 1) := by decide +kernel
theorem d_S_countVotes_33 : decode (m_S_countVotes).2.1 33 = .ok (.iload_n 2, 1) := by decide +kernel
theorem d_S_countVotes_34 : decode (m_S_countVotes).2.1 34 = .ok (.aload_n 0, 1) := by decide +kernel
theorem d_S_countVotes_35 : decode (m_S_countVotes).2.1 35 = .ok (.getfield 22, 3) := by decide +kernel
theorem d_S_countVotes_38 : decode (m_S_countVotes).2.1 38 = .ok (.getfield 69, 3) := by decide +kernel
theorem d_S_countVotes_41 : decode (m_S_countVotes).2.1 41 = .ok (.if_icmp .ge 105, 3) := by decide +kernel
theorem d_S_countVotes_44 : decode (m_S_countVotes).2.1 44 = .ok (.aload_n 0, 1) := by decide +kernel
theorem d_S_countVotes_45 : decode (m_S_countVotes).2.1 45 = .ok (.getfield 26, 3) := by decide +kernel
theorem d_S_countVotes_48 : decode (m_S_countVotes).2.1 48 = .ok (.getfield 72, 3) := by decide +kernel
theorem d_S_countVotes_51 : decode (m_S_countVotes).2.1 51 = .ok (.iload_n 2, 1) := by decide +kernel
theorem d_S_countVotes_52 : decode (m_S_countVotes).2.1 52 = .ok (.baload, 1) := by decide +kernel
theorem d_S_countVotes_53 : decode (m_S_countVotes).2.1 53 = .ok (.ifCond .ne 87, 3) := by decide +kernel
theorem d_S_countVotes_56 : decode (m_S_countVotes).2.1 56 = .ok (.aload_n 0, 1) := by decide +kernel
theorem d_S_countVotes_57 : decode (m_S_countVotes).2.1 57 = .ok (.getfield 26, 3) := by decide +kernel
theorem d_S_countVotes_60 : decode (m_S_countVotes).2.1 60 = .ok (.getfield 76, 3) := by decide +kernel
theorem d_S_countVotes_63 : decode (m_S_countVotes).2.1 63 = .ok (.iload_n 2, 1) := by decide +kernel
theorem d_S_countVotes_64 : decode (m_S_countVotes).2.1 64 = .ok (.iaload, 1) := by decide +kernel
theorem d_S_countVotes_65 : decode (m_S_countVotes).2.1 65 = .ok (.aload_n 0, 1) := by decide +kernel
theorem d_S_countVotes_66 : decode (m_S_countVotes).2.1 66 = .ok (.getfield 22, 3) := by decide +kernel
theorem d_S_countVotes_69 : decode (m_S_countVotes).2.1 69 = .ok (.aload_n 0, 1) := by decide +kernel
theorem d_S_countVotes_70 : decode (m_S_countVotes).2.1 70 = .ok (.getfield 22, 3) := by decide +kernel
theorem d_S_countVotes_73 : decode (m_S_countVotes).2.1 73 = .ok (.getfield 79, 3) := by decide +kernel
theorem d_S_countVotes_76 : decode (m_S_countVotes).2.1 76 = .ok (.aload_n 0, 1) := by decide +kernel
theorem d_S_countVotes_77 : decode (m_S_countVotes).2.1 77 = .ok (.getfield 9, 3) := by decide +kernel
theorem d_S_countVotes_80 : decode (m_S_countVotes).2.1 80 = .ok (.iload_n 2, 1) := by decide +kernel
theorem d_S_countVotes_81 : decode (m_S_countVotes).2.1 81 = .ok (.invokevirtual 83, 3) := by decide +kernel
theorem d_S_countVotes_84 : decode (m_S_countVotes).2.1 84 = .ok (.ixor, 1) := by decide +kernel
theorem d_S_countVotes_85 : decode (m_S_countVotes).2.1 85 = .ok (.istore_n 3, 1) := by decide +kernel
theorem d_S_countVotes_86 : decode (m_S_countVotes).2.1 86 = .ok (.aload_n 0, 1) := by decide +kernel
theorem d_S_countVotes_87 : decode (m_S_countVotes).2.1 87 = .ok (.getfield 22, 3) := by decide +kernel
theorem d_S_countVotes_90 : decode (m_S_countVotes).2.1 90 = .ok (.getfield 79, 3) := by decide +kernel
theorem d_S_countVotes_93 : decode (m_S_countVotes).2.1 93 = .ok (.iload_n 1, 1) := by decide +kernel
theorem d_S_countVotes_94 : decode (m_S_countVotes).2.1 94 = .ok (.aaload, 1) := by decide +kernel
theorem d_S_countVotes_95 : decode (m_S_countVotes).2.1 95 = .ok (.iload_n 2, 1) := by decide +kernel
theorem d_S_countVotes_96 : decode (m_S_countVotes).2.1 96 = .ok (.iaload, 1) := by decide +kernel
theorem d_S_countVotes_97 : decode (m_S_countVotes).2.1 97 = .ok (.istore 4, 2) := by decide +kernel
theorem d_S_countVotes_99 : decode (m_S_countVotes).2.1 99 = .ok (.iload 4, 2) := by decide +kernel
theorem d_S_countVotes_101 : decode (m_S_countVotes).2.1 101 = .ok (.ifCond .eq 25, 3) := by decide +kernel
theorem d_S_countVotes_104 : decode (m_S_countVotes).2.1 104 = .ok (.aload_n 0, 1) := by decide +kernel
theorem d_S_countVotes_105 : decode (m_S_countVotes).2.1 105 = .ok (.getfield 15, 3) := by decide +kernel
theorem d_S_countVotes_108 : decode (m_S_countVotes).2.1 108 = .ok (.aload_n 0, 1) := by decide +kernel
theorem d_S_countVotes_109 : decode (m_S_countVotes).2.1 109 = .ok (.getfield 18, 3) := by decide +kernel
theorem d_S_countVotes_112 : decode (m_S_countVotes).2.1 112 = .ok (.iload_n 3, 1) := by decide +kernel
theorem d_S_countVotes_113 : decode (m_S_countVotes).2.1 113 = .ok (.iload 4, 2) := by decide +kernel
theorem d_S_countVotes_115 : decode (m_S_countVotes).2.1 115 = .ok (.invokevirtual 87, 3) := by decide +kernel
theorem d_S_countVotes_118 : decode (m_S_countVotes).2.1 118 = .ok (.dup2, 1) := by decide +kernel
theorem d_S_countVotes_119 : decode (m_S_countVotes).2.1 119 = .ok (.iaload, 1) := by decide +kernel
theorem d_S_countVotes_120 : decode (m_S_countVotes).2.1 120 = .ok (.iconst 1, 1) := by decide +kernel
theorem d_S_countVotes_121 : decode (m_S_countVotes).2.1 121 = .ok (.iadd, 1) := by decide +kernel
theorem d_S_countVotes_122 : decode (m_S_countVotes).2.1 122 = .ok (.iastore, 1) := by decide +kernel
theorem d_S_countVotes_123 : decode (m_S_countVotes).2.1 123 = .ok (.goto 17, 3) := by decide +kernel
theorem d_S_countVotes_126 : decode (m_S_countVotes).2.1 126 = .ok (.iload_n 3, 1) := by decide +kernel
theorem d_S_countVotes_127 : decode (m_S_countVotes).2.1 127 = .ok (.ifCond .ne 13, 3) := by decide +kernel
theorem d_S_countVotes_130 : decode (m_S_countVotes).2.1 130 = .ok (.aload_n 0, 1) := by decide +kernel
theorem d_S_countVotes_131 : decode (m_S_countVotes).2.1 131 = .ok (.dup, 1) := by decide +kernel
theorem d_S_countVotes_132 : decode (m_S_countVotes).2.1 132 = .ok (.getfield 62, 3) := by decide +kernel
theorem d_S_countVotes_135 : decode (m_S_countVotes).2.1 135 = .ok (.iconst 1, 1) := by decide +kernel
theorem d_S_countVotes_136 : decode (m_S_countVotes).2.1 136 = .ok (.iadd, 1) := by decide +kernel
theorem d_S_countVotes_137 : decode (m_S_countVotes).2.1 137 = .ok (.putfield 62, 3) := by decide +kernel
theorem d_S_countVotes_140 : decode (m_S_countVotes).2.1 140 = .ok (.iinc 2 1, 3) := by decide +kernel
theorem d_S_countVotes_143 : decode (m_S_countVotes).2.1 143 = .ok (.goto (-110), 3) := by decide +kernel
theorem d_S_countVotes_146 : decode (m_S_countVotes).2.1 146 = .ok (.return_, 1) := by decide +kernel
theorem d_W_init_0 : decode (m_W_init).2.1 0 = .ok (.aload_n 0, 1) := by decide +kernel
theorem d_W_init_1 : decode (m_W_init).2.1 1 = .ok (.invokespecial 3, 3) := by decide +kernel
theorem d_W_init_4 : decode (m_W_init).2.1 4 = .ok (.aload_n 0, 1) := by decide +kernel
theorem d_W_init_5 : decode (m_W_init).2.1 5 = .ok (.bipush 20, 2) := by decide +kernel
theorem d_W_init_7 : decode (m_W_init).2.1 7 = .ok (.newarray .int, 2) := by decide +kernel
theorem d_W_init_9 : decode (m_W_init).2.1 9 = .ok (.putfield 9, 3) := by decide +kernel
theorem d_W_init_12 : decode (m_W_init).2.1 12 = .ok (.aload_n 0, 1) := by decide +kernel
theorem d_W_init_13 : decode (m_W_init).2.1 13 = .ok (.bipush 20, 2) := by decide +kernel
theorem d_W_init_15 : decode (m_W_init).2.1 15 = .ok (.newarray .boolean, 2) := by decide +kernel
theorem d_W_init_17 : decode (m_W_init).2.1 17 = .ok (.putfield 15, 3) := by decide +kernel
theorem d_W_init_20 : decode (m_W_init).2.1 20 = .ok (.return_, 1) := by decide +kernel
theorem d_W_begin_0 : decode (m_W_begin).2.1 0 = .ok (.iconst 0, 1) := by decide +kernel
theorem d_W_begin_1 : decode (m_W_begin).2.1 1 = .ok (.istore_n 2, 1) := by decide +kernel
theorem d_W_begin_2 : decode (m_W_begin).2.1 2 = .ok (.iload_n 2, 1) := by decide +kernel
theorem d_W_begin_3 : decode (m_W_begin).2.1 3 = .ok (.bipush 20, 2) := by decide +kernel
theorem d_W_begin_5 : decode (m_W_begin).2.1 5 = .ok (.if_icmp .ge 23, 3) := by decide +kernel
theorem d_W_begin_8 : decode (m_W_begin).2.1 8 = .ok (.aload_n 0, 1) := by decide +kernel
theorem d_W_begin_9 : decode (m_W_begin).2.1 9 = .ok (.getfield 9, 3) := by decide +kernel
theorem d_W_begin_12 : decode (m_W_begin).2.1 12 = .ok (.iload_n 2, 1) := by decide +kernel
theorem d_W_begin_13 : decode (m_W_begin).2.1 13 = .ok (.iconst 0, 1) := by decide +kernel
theorem d_W_begin_14 : decode (m_W_begin).2.1 14 = .ok (.iastore, 1) := by decide +kernel
theorem d_W_begin_15 : decode (m_W_begin).2.1 15 = .ok (.aload_n 0, 1) := by decide +kernel
theorem d_W_begin_16 : decode (m_W_begin).2.1 16 = .ok (.getfield 15, 3) := by decide +kernel
theorem d_W_begin_19 : decode (m_W_begin).2.1 19 = .ok (.iload_n 2, 1) := by decide +kernel
theorem d_W_begin_20 : decode (m_W_begin).2.1 20 = .ok (.iconst 0, 1) := by decide +kernel
theorem d_W_begin_21 : decode (m_W_begin).2.1 21 = .ok (.bastore, 1) := by decide +kernel
theorem d_W_begin_22 : decode (m_W_begin).2.1 22 = .ok (.iinc 2 1, 3) := by decide +kernel
theorem d_W_begin_25 : decode (m_W_begin).2.1 25 = .ok (.goto (-23), 3) := by decide +kernel
theorem d_W_begin_28 : decode (m_W_begin).2.1 28 = .ok (.aload_n 0, 1) := by decide +kernel
theorem d_W_begin_29 : decode (m_W_begin).2.1 29 = .ok (.iload_n 1, 1) := by decide +kernel
theorem d_W_begin_30 : decode (m_W_begin).2.1 30 = .ok (.putfield 19, 3) := by decide +kernel
theorem d_W_begin_33 : decode (m_W_begin).2.1 33 = .ok (.return_, 1) := by decide +kernel
theorem d_W_put_0 : decode (m_W_put).2.1 0 = .ok (.aload_n 0, 1) := by decide +kernel
theorem d_W_put_1 : decode (m_W_put).2.1 1 = .ok (.getfield 15, 3) := by decide +kernel
theorem d_W_put_4 : decode (m_W_put).2.1 4 = .ok (.iload_n 1, 1) := by decide +kernel
theorem d_W_put_5 : decode (m_W_put).2.1 5 = .ok (.baload, 1) := by decide +kernel
theorem d_W_put_6 : decode (m_W_put).2.1 6 = .ok (.ifCond .eq 20, 3) := by decide +kernel
theorem d_W_put_9 : decode (m_W_put).2.1 9 = .ok (.aload_n 0, 1) := by decide +kernel
theorem d_W_put_10 : decode (m_W_put).2.1 10 = .ok (.getfield 15, 3) := by decide +kernel
theorem d_W_put_13 : decode (m_W_put).2.1 13 = .ok (.iload_n 1, 1) := by decide +kernel
theorem d_W_put_14 : decode (m_W_put).2.1 14 = .ok (.iconst 0, 1) := by decide +kernel
theorem d_W_put_15 : decode (m_W_put).2.1 15 = .ok (.bastore, 1) := by decide +kernel
theorem d_W_put_16 : decode (m_W_put).2.1 16 = .ok (.aload_n 0, 1) := by decide +kernel
theorem d_W_put_17 : decode (m_W_put).2.1 17 = .ok (.dup, 1) := by decide +kernel
theorem d_W_put_18 : decode (m_W_put).2.1 18 = .ok (.getfield 19, 3) := by decide +kernel
theorem d_W_put_21 : decode (m_W_put).2.1 21 = .ok (.iconst 1, 1) := by decide +kernel
theorem d_W_put_22 : decode (m_W_put).2.1 22 = .ok (.iadd, 1) := by decide +kernel
theorem d_W_put_23 : decode (m_W_put).2.1 23 = .ok (.putfield 19, 3) := by decide +kernel
theorem d_W_put_26 : decode (m_W_put).2.1 26 = .ok (.aload_n 0, 1) := by decide +kernel
theorem d_W_put_27 : decode (m_W_put).2.1 27 = .ok (.getfield 9, 3) := by decide +kernel
theorem d_W_put_30 : decode (m_W_put).2.1 30 = .ok (.iload_n 1, 1) := by decide +kernel
theorem d_W_put_31 : decode (m_W_put).2.1 31 = .ok (.iload_n 2, 1) := by decide +kernel
theorem d_W_put_32 : decode (m_W_put).2.1 32 = .ok (.iastore, 1) := by decide +kernel
theorem d_W_put_33 : decode (m_W_put).2.1 33 = .ok (.return_, 1) := by decide +kernel
theorem d_W_strike_0 : decode (m_W_strike).2.1 0 = .ok (.aload_n 0, 1) := by decide +kernel
theorem d_W_strike_1 : decode (m_W_strike).2.1 1 = .ok (.getfield 15, 3) := by decide +kernel
theorem d_W_strike_4 : decode (m_W_strike).2.1 4 = .ok (.iload_n 1, 1) := by decide +kernel
theorem d_W_strike_5 : decode (m_W_strike).2.1 5 = .ok (.iconst 1, 1) := by decide +kernel
theorem d_W_strike_6 : decode (m_W_strike).2.1 6 = .ok (.bastore, 1) := by decide +kernel
theorem d_W_strike_7 : decode (m_W_strike).2.1 7 = .ok (.aload_n 0, 1) := by decide +kernel
theorem d_W_strike_8 : decode (m_W_strike).2.1 8 = .ok (.dup, 1) := by decide +kernel
theorem d_W_strike_9 : decode (m_W_strike).2.1 9 = .ok (.getfield 19, 3) := by decide +kernel
theorem d_W_strike_12 : decode (m_W_strike).2.1 12 = .ok (.iconst 1, 1) := by decide +kernel
theorem d_W_strike_13 : decode (m_W_strike).2.1 13 = .ok (.isub, 1) := by decide +kernel
theorem d_W_strike_14 : decode (m_W_strike).2.1 14 = .ok (.putfield 19, 3) := by decide +kernel
theorem d_W_strike_17 : decode (m_W_strike).2.1 17 = .ok (.return_, 1) := by decide +kernel
theorem d_L_law_0 : decode (m_L_law).2.1 0 = .ok (.new 7, 3) := by decide +kernel
theorem d_L_law_3 : decode (m_L_law).2.1 3 = .ok (.dup, 1) := by decide +kernel
theorem d_L_law_4 : decode (m_L_law).2.1 4 = .ok (.invokespecial 9, 3) := by decide +kernel
theorem d_L_law_7 : decode (m_L_law).2.1 7 = .ok (.astore_n 1, 1) := by decide +kernel
theorem d_L_law_8 : decode (m_L_law).2.1 8 = .ok (.new 10, 3) := by decide +kernel
theorem d_L_law_11 : decode (m_L_law).2.1 11 = .ok (.dup, 1) := by decide +kernel
theorem d_L_law_12 : decode (m_L_law).2.1 12 = .ok (.invokespecial 12, 3) := by decide +kernel
theorem d_L_law_15 : decode (m_L_law).2.1 15 = .ok (.astore_n 2, 1) := by decide +kernel
theorem d_L_law_16 : decode (m_L_law).2.1 16 = .ok (.iconst 0, 1) := by decide +kernel
theorem d_L_law_17 : decode (m_L_law).2.1 17 = .ok (.istore_n 3, 1) := by decide +kernel
theorem d_L_law_18 : decode (m_L_law).2.1 18 = .ok (.iload_n 3, 1) := by decide +kernel
theorem d_L_law_19 : decode (m_L_law).2.1 19 = .ok (.aload_n 0, 1) := by decide +kernel
theorem d_L_law_20 : decode (m_L_law).2.1 20 = .ok (.arraylength, 1) := by decide +kernel
theorem d_L_law_21 : decode (m_L_law).2.1 21 = .ok (.iconst 4, 1) := by decide +kernel
theorem d_L_law_22 : decode (m_L_law).2.1 22 = .ok (.isub, 1) := by decide +kernel
theorem d_L_law_23 : decode (m_L_law).2.1 23 = .ok (.if_icmp .gt 673, 3) := by decide +kernel
theorem d_L_law_26 : decode (m_L_law).2.1 26 = .ok (.aload_n 0, 1) := by decide +kernel
theorem d_L_law_27 : decode (m_L_law).2.1 27 = .ok (.iload_n 3, 1) := by decide +kernel
theorem d_L_law_28 : decode (m_L_law).2.1 28 = .ok (.iaload, 1) := by decide +kernel
theorem d_L_law_29 : decode (m_L_law).2.1 29 = .ok (.bipush 31, 2) := by decide +kernel
theorem d_L_law_31 : decode (m_L_law).2.1 31 = .ok (.iand, 1) := by decide +kernel
theorem d_L_law_32 : decode (m_L_law).2.1 32 = .ok (.tableswitch 658 0 19 #[96, 119, 152, 185, 208, 251, 284, 323, 356, 379, 402, 425, 464, 487, 510, 533, 556, 589, 612, 635], 96) := by decide +kernel
theorem d_L_law_128 : decode (m_L_law).2.1 128 = .ok (.aload_n 1, 1) := by decide +kernel
theorem d_L_law_129 : decode (m_L_law).2.1 129 = .ok (.aload_n 0, 1) := by decide +kernel
theorem d_L_law_130 : decode (m_L_law).2.1 130 = .ok (.iload_n 3, 1) := by decide +kernel
theorem d_L_law_131 : decode (m_L_law).2.1 131 = .ok (.iconst 1, 1) := by decide +kernel
theorem d_L_law_132 : decode (m_L_law).2.1 132 = .ok (.iadd, 1) := by decide +kernel
theorem d_L_law_133 : decode (m_L_law).2.1 133 = .ok (.iaload, 1) := by decide +kernel
theorem d_L_law_134 : decode (m_L_law).2.1 134 = .ok (.invokevirtual 13, 3) := by decide +kernel
theorem d_L_law_137 : decode (m_L_law).2.1 137 = .ok (.aload_n 2, 1) := by decide +kernel
theorem d_L_law_138 : decode (m_L_law).2.1 138 = .ok (.aload_n 0, 1) := by decide +kernel
theorem d_L_law_139 : decode (m_L_law).2.1 139 = .ok (.iload_n 3, 1) := by decide +kernel
theorem d_L_law_140 : decode (m_L_law).2.1 140 = .ok (.iconst 1, 1) := by decide +kernel
theorem d_L_law_141 : decode (m_L_law).2.1 141 = .ok (.iadd, 1) := by decide +kernel
theorem d_L_law_142 : decode (m_L_law).2.1 142 = .ok (.iaload, 1) := by decide +kernel
theorem d_L_law_143 : decode (m_L_law).2.1 143 = .ok (.invokevirtual 17, 3) := by decide +kernel
theorem d_L_law_146 : decode (m_L_law).2.1 146 = .ok (.if_icmp .eq 544, 3) := by decide +kernel
theorem d_L_law_149 : decode (m_L_law).2.1 149 = .ok (.iconst 0, 1) := by decide +kernel
theorem d_L_law_150 : decode (m_L_law).2.1 150 = .ok (.ireturn, 1) := by decide +kernel
theorem d_L_law_151 : decode (m_L_law).2.1 151 = .ok (.aload_n 1, 1) := by decide +kernel
theorem d_L_law_152 : decode (m_L_law).2.1 152 = .ok (.aload_n 0, 1) := by decide +kernel
theorem d_L_law_153 : decode (m_L_law).2.1 153 = .ok (.iload_n 3, 1) := by decide +kernel
theorem d_L_law_154 : decode (m_L_law).2.1 154 = .ok (.iconst 1, 1) := by decide +kernel
theorem d_L_law_155 : decode (m_L_law).2.1 155 = .ok (.iadd, 1) := by decide +kernel
theorem d_L_law_156 : decode (m_L_law).2.1 156 = .ok (.iaload, 1) := by decide +kernel
theorem d_L_law_157 : decode (m_L_law).2.1 157 = .ok (.aload_n 0, 1) := by decide +kernel
theorem d_L_law_158 : decode (m_L_law).2.1 158 = .ok (.iload_n 3, 1) := by decide +kernel
theorem d_L_law_159 : decode (m_L_law).2.1 159 = .ok (.iconst 2, 1) := by decide +kernel
theorem d_L_law_160 : decode (m_L_law).2.1 160 = .ok (.iadd, 1) := by decide +kernel
theorem d_L_law_161 : decode (m_L_law).2.1 161 = .ok (.iaload, 1) := by decide +kernel
theorem d_L_law_162 : decode (m_L_law).2.1 162 = .ok (.invokevirtual 18, 3) := by decide +kernel
theorem d_L_law_165 : decode (m_L_law).2.1 165 = .ok (.aload_n 2, 1) := by decide +kernel
theorem d_L_law_166 : decode (m_L_law).2.1 166 = .ok (.aload_n 0, 1) := by decide +kernel
theorem d_L_law_167 : decode (m_L_law).2.1 167 = .ok (.iload_n 3, 1) := by decide +kernel
theorem d_L_law_168 : decode (m_L_law).2.1 168 = .ok (.iconst 1, 1) := by decide +kernel
theorem d_L_law_169 : decode (m_L_law).2.1 169 = .ok (.iadd, 1) := by decide +kernel
theorem d_L_law_170 : decode (m_L_law).2.1 170 = .ok (.iaload, 1) := by decide +kernel
theorem d_L_law_171 : decode (m_L_law).2.1 171 = .ok (.aload_n 0, 1) := by decide +kernel
theorem d_L_law_172 : decode (m_L_law).2.1 172 = .ok (.iload_n 3, 1) := by decide +kernel
theorem d_L_law_173 : decode (m_L_law).2.1 173 = .ok (.iconst 2, 1) := by decide +kernel
theorem d_L_law_174 : decode (m_L_law).2.1 174 = .ok (.iadd, 1) := by decide +kernel
theorem d_L_law_175 : decode (m_L_law).2.1 175 = .ok (.iaload, 1) := by decide +kernel
theorem d_L_law_176 : decode (m_L_law).2.1 176 = .ok (.invokevirtual 22, 3) := by decide +kernel
theorem d_L_law_179 : decode (m_L_law).2.1 179 = .ok (.if_icmp .eq 511, 3) := by decide +kernel
theorem d_L_law_182 : decode (m_L_law).2.1 182 = .ok (.iconst 0, 1) := by decide +kernel
theorem d_L_law_183 : decode (m_L_law).2.1 183 = .ok (.ireturn, 1) := by decide +kernel
theorem d_L_law_184 : decode (m_L_law).2.1 184 = .ok (.aload_n 1, 1) := by decide +kernel
theorem d_L_law_185 : decode (m_L_law).2.1 185 = .ok (.aload_n 0, 1) := by decide +kernel
theorem d_L_law_186 : decode (m_L_law).2.1 186 = .ok (.iload_n 3, 1) := by decide +kernel
theorem d_L_law_187 : decode (m_L_law).2.1 187 = .ok (.iconst 1, 1) := by decide +kernel
theorem d_L_law_188 : decode (m_L_law).2.1 188 = .ok (.iadd, 1) := by decide +kernel
theorem d_L_law_189 : decode (m_L_law).2.1 189 = .ok (.iaload, 1) := by decide +kernel
theorem d_L_law_190 : decode (m_L_law).2.1 190 = .ok (.aload_n 0, 1) := by decide +kernel
theorem d_L_law_191 : decode (m_L_law).2.1 191 = .ok (.iload_n 3, 1) := by decide +kernel
theorem d_L_law_192 : decode (m_L_law).2.1 192 = .ok (.iconst 2, 1) := by decide +kernel
theorem d_L_law_193 : decode (m_L_law).2.1 193 = .ok (.iadd, 1) := by decide +kernel
theorem d_L_law_194 : decode (m_L_law).2.1 194 = .ok (.iaload, 1) := by decide +kernel
theorem d_L_law_195 : decode (m_L_law).2.1 195 = .ok (.invokevirtual 23, 3) := by decide +kernel
theorem d_L_law_198 : decode (m_L_law).2.1 198 = .ok (.aload_n 2, 1) := by decide +kernel
theorem d_L_law_199 : decode (m_L_law).2.1 199 = .ok (.aload_n 0, 1) := by decide +kernel
theorem d_L_law_200 : decode (m_L_law).2.1 200 = .ok (.iload_n 3, 1) := by decide +kernel
theorem d_L_law_201 : decode (m_L_law).2.1 201 = .ok (.iconst 1, 1) := by decide +kernel
theorem d_L_law_202 : decode (m_L_law).2.1 202 = .ok (.iadd, 1) := by decide +kernel
theorem d_L_law_203 : decode (m_L_law).2.1 203 = .ok (.iaload, 1) := by decide +kernel
theorem d_L_law_204 : decode (m_L_law).2.1 204 = .ok (.aload_n 0, 1) := by decide +kernel
theorem d_L_law_205 : decode (m_L_law).2.1 205 = .ok (.iload_n 3, 1) := by decide +kernel
theorem d_L_law_206 : decode (m_L_law).2.1 206 = .ok (.iconst 2, 1) := by decide +kernel
theorem d_L_law_207 : decode (m_L_law).2.1 207 = .ok (.iadd, 1) := by decide +kernel
theorem d_L_law_208 : decode (m_L_law).2.1 208 = .ok (.iaload, 1) := by decide +kernel
theorem d_L_law_209 : decode (m_L_law).2.1 209 = .ok (.invokevirtual 26, 3) := by decide +kernel
theorem d_L_law_212 : decode (m_L_law).2.1 212 = .ok (.if_icmp .eq 478, 3) := by decide +kernel
theorem d_L_law_215 : decode (m_L_law).2.1 215 = .ok (.iconst 0, 1) := by decide +kernel
theorem d_L_law_216 : decode (m_L_law).2.1 216 = .ok (.ireturn, 1) := by decide +kernel
theorem d_L_law_217 : decode (m_L_law).2.1 217 = .ok (.aload_n 1, 1) := by decide +kernel
theorem d_L_law_218 : decode (m_L_law).2.1 218 = .ok (.aload_n 0, 1) := by decide +kernel
theorem d_L_law_219 : decode (m_L_law).2.1 219 = .ok (.iload_n 3, 1) := by decide +kernel
theorem d_L_law_220 : decode (m_L_law).2.1 220 = .ok (.iconst 1, 1) := by decide +kernel
theorem d_L_law_221 : decode (m_L_law).2.1 221 = .ok (.iadd, 1) := by decide +kernel
theorem d_L_law_222 : decode (m_L_law).2.1 222 = .ok (.iaload, 1) := by decide +kernel
theorem d_L_law_223 : decode (m_L_law).2.1 223 = .ok (.invokevirtual 27, 3) := by decide +kernel
theorem d_L_law_226 : decode (m_L_law).2.1 226 = .ok (.aload_n 2, 1) := by decide +kernel
theorem d_L_law_227 : decode (m_L_law).2.1 227 = .ok (.aload_n 0, 1) := by decide +kernel
theorem d_L_law_228 : decode (m_L_law).2.1 228 = .ok (.iload_n 3, 1) := by decide +kernel
theorem d_L_law_229 : decode (m_L_law).2.1 229 = .ok (.iconst 1, 1) := by decide +kernel
theorem d_L_law_230 : decode (m_L_law).2.1 230 = .ok (.iadd, 1) := by decide +kernel
theorem d_L_law_231 : decode (m_L_law).2.1 231 = .ok (.iaload, 1) := by decide +kernel
theorem d_L_law_232 : decode (m_L_law).2.1 232 = .ok (.invokevirtual 30, 3) := by decide +kernel
theorem d_L_law_235 : decode (m_L_law).2.1 235 = .ok (.if_icmp .eq 455, 3) := by decide +kernel
theorem d_L_law_238 : decode (m_L_law).2.1 238 = .ok (.iconst 0, 1) := by decide +kernel
theorem d_L_law_239 : decode (m_L_law).2.1 239 = .ok (.ireturn, 1) := by decide +kernel
theorem d_L_law_240 : decode (m_L_law).2.1 240 = .ok (.aload_n 1, 1) := by decide +kernel
theorem d_L_law_241 : decode (m_L_law).2.1 241 = .ok (.aload_n 0, 1) := by decide +kernel
theorem d_L_law_242 : decode (m_L_law).2.1 242 = .ok (.iload_n 3, 1) := by decide +kernel
theorem d_L_law_243 : decode (m_L_law).2.1 243 = .ok (.iconst 1, 1) := by decide +kernel
theorem d_L_law_244 : decode (m_L_law).2.1 244 = .ok (.iadd, 1) := by decide +kernel
theorem d_L_law_245 : decode (m_L_law).2.1 245 = .ok (.iaload, 1) := by decide +kernel
theorem d_L_law_246 : decode (m_L_law).2.1 246 = .ok (.aload_n 0, 1) := by decide +kernel
theorem d_L_law_247 : decode (m_L_law).2.1 247 = .ok (.iload_n 3, 1) := by decide +kernel
theorem d_L_law_248 : decode (m_L_law).2.1 248 = .ok (.iconst 2, 1) := by decide +kernel
theorem d_L_law_249 : decode (m_L_law).2.1 249 = .ok (.iadd, 1) := by decide +kernel
theorem d_L_law_250 : decode (m_L_law).2.1 250 = .ok (.iaload, 1) := by decide +kernel
theorem d_L_law_251 : decode (m_L_law).2.1 251 = .ok (.aload_n 0, 1) := by decide +kernel
theorem d_L_law_252 : decode (m_L_law).2.1 252 = .ok (.iload_n 3, 1) := by decide +kernel
theorem d_L_law_253 : decode (m_L_law).2.1 253 = .ok (.iconst 3, 1) := by decide +kernel
theorem d_L_law_254 : decode (m_L_law).2.1 254 = .ok (.iadd, 1) := by decide +kernel
theorem d_L_law_255 : decode (m_L_law).2.1 255 = .ok (.iaload, 1) := by decide +kernel
theorem d_L_law_256 : decode (m_L_law).2.1 256 = .ok (.invokevirtual 31, 3) := by decide +kernel
theorem d_L_law_259 : decode (m_L_law).2.1 259 = .ok (.aload_n 2, 1) := by decide +kernel
theorem d_L_law_260 : decode (m_L_law).2.1 260 = .ok (.aload_n 0, 1) := by decide +kernel
theorem d_L_law_261 : decode (m_L_law).2.1 261 = .ok (.iload_n 3, 1) := by decide +kernel
theorem d_L_law_262 : decode (m_L_law).2.1 262 = .ok (.iconst 1, 1) := by decide +kernel
theorem d_L_law_263 : decode (m_L_law).2.1 263 = .ok (.iadd, 1) := by decide +kernel
theorem d_L_law_264 : decode (m_L_law).2.1 264 = .ok (.iaload, 1) := by decide +kernel
theorem d_L_law_265 : decode (m_L_law).2.1 265 = .ok (.aload_n 0, 1) := by decide +kernel
theorem d_L_law_266 : decode (m_L_law).2.1 266 = .ok (.iload_n 3, 1) := by decide +kernel
theorem d_L_law_267 : decode (m_L_law).2.1 267 = .ok (.iconst 2, 1) := by decide +kernel
theorem d_L_law_268 : decode (m_L_law).2.1 268 = .ok (.iadd, 1) := by decide +kernel
theorem d_L_law_269 : decode (m_L_law).2.1 269 = .ok (.iaload, 1) := by decide +kernel
theorem d_L_law_270 : decode (m_L_law).2.1 270 = .ok (.aload_n 0, 1) := by decide +kernel
theorem d_L_law_271 : decode (m_L_law).2.1 271 = .ok (.iload_n 3, 1) := by decide +kernel
theorem d_L_law_272 : decode (m_L_law).2.1 272 = .ok (.iconst 3, 1) := by decide +kernel
theorem d_L_law_273 : decode (m_L_law).2.1 273 = .ok (.iadd, 1) := by decide +kernel
theorem d_L_law_274 : decode (m_L_law).2.1 274 = .ok (.iaload, 1) := by decide +kernel
theorem d_L_law_275 : decode (m_L_law).2.1 275 = .ok (.invokevirtual 35, 3) := by decide +kernel
theorem d_L_law_278 : decode (m_L_law).2.1 278 = .ok (.if_icmp .eq 412, 3) := by decide +kernel
theorem d_L_law_281 : decode (m_L_law).2.1 281 = .ok (.iconst 0, 1) := by decide +kernel
theorem d_L_law_282 : decode (m_L_law).2.1 282 = .ok (.ireturn, 1) := by decide +kernel
theorem d_L_law_283 : decode (m_L_law).2.1 283 = .ok (.aload_n 1, 1) := by decide +kernel
theorem d_L_law_284 : decode (m_L_law).2.1 284 = .ok (.aload_n 0, 1) := by decide +kernel
theorem d_L_law_285 : decode (m_L_law).2.1 285 = .ok (.iload_n 3, 1) := by decide +kernel
theorem d_L_law_286 : decode (m_L_law).2.1 286 = .ok (.iconst 1, 1) := by decide +kernel
theorem d_L_law_287 : decode (m_L_law).2.1 287 = .ok (.iadd, 1) := by decide +kernel
theorem d_L_law_288 : decode (m_L_law).2.1 288 = .ok (.iaload, 1) := by decide +kernel
theorem d_L_law_289 : decode (m_L_law).2.1 289 = .ok (.aload_n 0, 1) := by decide +kernel
theorem d_L_law_290 : decode (m_L_law).2.1 290 = .ok (.iload_n 3, 1) := by decide +kernel
theorem d_L_law_291 : decode (m_L_law).2.1 291 = .ok (.iconst 2, 1) := by decide +kernel
theorem d_L_law_292 : decode (m_L_law).2.1 292 = .ok (.iadd, 1) := by decide +kernel
theorem d_L_law_293 : decode (m_L_law).2.1 293 = .ok (.iaload, 1) := by decide +kernel
theorem d_L_law_294 : decode (m_L_law).2.1 294 = .ok (.invokevirtual 36, 3) := by decide +kernel
theorem d_L_law_297 : decode (m_L_law).2.1 297 = .ok (.aload_n 2, 1) := by decide +kernel
theorem d_L_law_298 : decode (m_L_law).2.1 298 = .ok (.aload_n 0, 1) := by decide +kernel
theorem d_L_law_299 : decode (m_L_law).2.1 299 = .ok (.iload_n 3, 1) := by decide +kernel
theorem d_L_law_300 : decode (m_L_law).2.1 300 = .ok (.iconst 1, 1) := by decide +kernel
theorem d_L_law_301 : decode (m_L_law).2.1 301 = .ok (.iadd, 1) := by decide +kernel
theorem d_L_law_302 : decode (m_L_law).2.1 302 = .ok (.iaload, 1) := by decide +kernel
theorem d_L_law_303 : decode (m_L_law).2.1 303 = .ok (.aload_n 0, 1) := by decide +kernel
theorem d_L_law_304 : decode (m_L_law).2.1 304 = .ok (.iload_n 3, 1) := by decide +kernel
theorem d_L_law_305 : decode (m_L_law).2.1 305 = .ok (.iconst 2, 1) := by decide +kernel
theorem d_L_law_306 : decode (m_L_law).2.1 306 = .ok (.iadd, 1) := by decide +kernel
theorem d_L_law_307 : decode (m_L_law).2.1 307 = .ok (.iaload, 1) := by decide +kernel
theorem d_L_law_308 : decode (m_L_law).2.1 308 = .ok (.invokevirtual 40, 3) := by decide +kernel
theorem d_L_law_311 : decode (m_L_law).2.1 311 = .ok (.if_icmp .eq 379, 3) := by decide +kernel
theorem d_L_law_314 : decode (m_L_law).2.1 314 = .ok (.iconst 0, 1) := by decide +kernel
theorem d_L_law_315 : decode (m_L_law).2.1 315 = .ok (.ireturn, 1) := by decide +kernel
theorem d_L_law_316 : decode (m_L_law).2.1 316 = .ok (.aload_n 1, 1) := by decide +kernel
theorem d_L_law_317 : decode (m_L_law).2.1 317 = .ok (.aload_n 0, 1) := by decide +kernel
theorem d_L_law_318 : decode (m_L_law).2.1 318 = .ok (.iload_n 3, 1) := by decide +kernel
theorem d_L_law_319 : decode (m_L_law).2.1 319 = .ok (.iconst 1, 1) := by decide +kernel
theorem d_L_law_320 : decode (m_L_law).2.1 320 = .ok (.iadd, 1) := by decide +kernel
theorem d_L_law_321 : decode (m_L_law).2.1 321 = .ok (.iaload, 1) := by decide +kernel
theorem d_L_law_322 : decode (m_L_law).2.1 322 = .ok (.ifCond .eq 7, 3) := by decide +kernel
theorem d_L_law_325 : decode (m_L_law).2.1 325 = .ok (.iconst 1, 1) := by decide +kernel
theorem d_L_law_326 : decode (m_L_law).2.1 326 = .ok (.goto 4, 3) := by decide +kernel
theorem d_L_law_329 : decode (m_L_law).2.1 329 = .ok (.iconst 0, 1) := by decide +kernel
theorem d_L_law_330 : decode (m_L_law).2.1 330 = .ok (.invokevirtual 41, 3) := by decide +kernel
theorem d_L_law_333 : decode (m_L_law).2.1 333 = .ok (.aload_n 2, 1) := by decide +kernel
theorem d_L_law_334 : decode (m_L_law).2.1 334 = .ok (.aload_n 0, 1) := by decide +kernel
theorem d_L_law_335 : decode (m_L_law).2.1 335 = .ok (.iload_n 3, 1) := by decide +kernel
theorem d_L_law_336 : decode (m_L_law).2.1 336 = .ok (.iconst 1, 1) := by decide +kernel
theorem d_L_law_337 : decode (m_L_law).2.1 337 = .ok (.iadd, 1) := by decide +kernel
theorem d_L_law_338 : decode (m_L_law).2.1 338 = .ok (.iaload, 1) := by decide +kernel
theorem d_L_law_339 : decode (m_L_law).2.1 339 = .ok (.ifCond .eq 7, 3) := by decide +kernel
theorem d_L_law_342 : decode (m_L_law).2.1 342 = .ok (.iconst 1, 1) := by decide +kernel
theorem d_L_law_343 : decode (m_L_law).2.1 343 = .ok (.goto 4, 3) := by decide +kernel
theorem d_L_law_346 : decode (m_L_law).2.1 346 = .ok (.iconst 0, 1) := by decide +kernel
theorem d_L_law_347 : decode (m_L_law).2.1 347 = .ok (.invokevirtual 45, 3) := by decide +kernel
theorem d_L_law_350 : decode (m_L_law).2.1 350 = .ok (.if_icmp .eq 340, 3) := by decide +kernel
theorem d_L_law_353 : decode (m_L_law).2.1 353 = .ok (.iconst 0, 1) := by decide +kernel
theorem d_L_law_354 : decode (m_L_law).2.1 354 = .ok (.ireturn, 1) := by decide +kernel
theorem d_L_law_355 : decode (m_L_law).2.1 355 = .ok (.aload_n 1, 1) := by decide +kernel
theorem d_L_law_356 : decode (m_L_law).2.1 356 = .ok (.aload_n 0, 1) := by decide +kernel
theorem d_L_law_357 : decode (m_L_law).2.1 357 = .ok (.iload_n 3, 1) := by decide +kernel
theorem d_L_law_358 : decode (m_L_law).2.1 358 = .ok (.iconst 1, 1) := by decide +kernel
theorem d_L_law_359 : decode (m_L_law).2.1 359 = .ok (.iadd, 1) := by decide +kernel
theorem d_L_law_360 : decode (m_L_law).2.1 360 = .ok (.iaload, 1) := by decide +kernel
theorem d_L_law_361 : decode (m_L_law).2.1 361 = .ok (.aload_n 0, 1) := by decide +kernel
theorem d_L_law_362 : decode (m_L_law).2.1 362 = .ok (.iload_n 3, 1) := by decide +kernel
theorem d_L_law_363 : decode (m_L_law).2.1 363 = .ok (.iconst 2, 1) := by decide +kernel
theorem d_L_law_364 : decode (m_L_law).2.1 364 = .ok (.iadd, 1) := by decide +kernel
theorem d_L_law_365 : decode (m_L_law).2.1 365 = .ok (.iaload, 1) := by decide +kernel
theorem d_L_law_366 : decode (m_L_law).2.1 366 = .ok (.invokevirtual 46, 3) := by decide +kernel
theorem d_L_law_369 : decode (m_L_law).2.1 369 = .ok (.aload_n 2, 1) := by decide +kernel
theorem d_L_law_370 : decode (m_L_law).2.1 370 = .ok (.aload_n 0, 1) := by decide +kernel
theorem d_L_law_371 : decode (m_L_law).2.1 371 = .ok (.iload_n 3, 1) := by decide +kernel
theorem d_L_law_372 : decode (m_L_law).2.1 372 = .ok (.iconst 1, 1) := by decide +kernel
theorem d_L_law_373 : decode (m_L_law).2.1 373 = .ok (.iadd, 1) := by decide +kernel
theorem d_L_law_374 : decode (m_L_law).2.1 374 = .ok (.iaload, 1) := by decide +kernel
theorem d_L_law_375 : decode (m_L_law).2.1 375 = .ok (.aload_n 0, 1) := by decide +kernel
theorem d_L_law_376 : decode (m_L_law).2.1 376 = .ok (.iload_n 3, 1) := by decide +kernel
theorem d_L_law_377 : decode (m_L_law).2.1 377 = .ok (.iconst 2, 1) := by decide +kernel
theorem d_L_law_378 : decode (m_L_law).2.1 378 = .ok (.iadd, 1) := by decide +kernel
theorem d_L_law_379 : decode (m_L_law).2.1 379 = .ok (.iaload, 1) := by decide +kernel
theorem d_L_law_380 : decode (m_L_law).2.1 380 = .ok (.invokevirtual 49, 3) := by decide +kernel
theorem d_L_law_383 : decode (m_L_law).2.1 383 = .ok (.if_icmp .eq 307, 3) := by decide +kernel
theorem d_L_law_386 : decode (m_L_law).2.1 386 = .ok (.iconst 0, 1) := by decide +kernel
theorem d_L_law_387 : decode (m_L_law).2.1 387 = .ok (.ireturn, 1) := by decide +kernel
theorem d_L_law_388 : decode (m_L_law).2.1 388 = .ok (.aload_n 1, 1) := by decide +kernel
theorem d_L_law_389 : decode (m_L_law).2.1 389 = .ok (.aload_n 0, 1) := by decide +kernel
theorem d_L_law_390 : decode (m_L_law).2.1 390 = .ok (.iload_n 3, 1) := by decide +kernel
theorem d_L_law_391 : decode (m_L_law).2.1 391 = .ok (.iconst 1, 1) := by decide +kernel
theorem d_L_law_392 : decode (m_L_law).2.1 392 = .ok (.iadd, 1) := by decide +kernel
theorem d_L_law_393 : decode (m_L_law).2.1 393 = .ok (.iaload, 1) := by decide +kernel
theorem d_L_law_394 : decode (m_L_law).2.1 394 = .ok (.invokevirtual 50, 3) := by decide +kernel
theorem d_L_law_397 : decode (m_L_law).2.1 397 = .ok (.aload_n 2, 1) := by decide +kernel
theorem d_L_law_398 : decode (m_L_law).2.1 398 = .ok (.aload_n 0, 1) := by decide +kernel
theorem d_L_law_399 : decode (m_L_law).2.1 399 = .ok (.iload_n 3, 1) := by decide +kernel
theorem d_L_law_400 : decode (m_L_law).2.1 400 = .ok (.iconst 1, 1) := by decide +kernel
theorem d_L_law_401 : decode (m_L_law).2.1 401 = .ok (.iadd, 1) := by decide +kernel
theorem d_L_law_402 : decode (m_L_law).2.1 402 = .ok (.iaload, 1) := by decide +kernel
theorem d_L_law_403 : decode (m_L_law).2.1 403 = .ok (.invokevirtual 54, 3) := by decide +kernel
theorem d_L_law_406 : decode (m_L_law).2.1 406 = .ok (.if_icmp .eq 284, 3) := by decide +kernel
theorem d_L_law_409 : decode (m_L_law).2.1 409 = .ok (.iconst 0, 1) := by decide +kernel
theorem d_L_law_410 : decode (m_L_law).2.1 410 = .ok (.ireturn, 1) := by decide +kernel
theorem d_L_law_411 : decode (m_L_law).2.1 411 = .ok (.aload_n 1, 1) := by decide +kernel
theorem d_L_law_412 : decode (m_L_law).2.1 412 = .ok (.aload_n 0, 1) := by decide +kernel
theorem d_L_law_413 : decode (m_L_law).2.1 413 = .ok (.iload_n 3, 1) := by decide +kernel
theorem d_L_law_414 : decode (m_L_law).2.1 414 = .ok (.iconst 1, 1) := by decide +kernel
theorem d_L_law_415 : decode (m_L_law).2.1 415 = .ok (.iadd, 1) := by decide +kernel
theorem d_L_law_416 : decode (m_L_law).2.1 416 = .ok (.iaload, 1) := by decide +kernel
theorem d_L_law_417 : decode (m_L_law).2.1 417 = .ok (.invokevirtual 55, 3) := by decide +kernel
theorem d_L_law_420 : decode (m_L_law).2.1 420 = .ok (.aload_n 2, 1) := by decide +kernel
theorem d_L_law_421 : decode (m_L_law).2.1 421 = .ok (.aload_n 0, 1) := by decide +kernel
theorem d_L_law_422 : decode (m_L_law).2.1 422 = .ok (.iload_n 3, 1) := by decide +kernel
theorem d_L_law_423 : decode (m_L_law).2.1 423 = .ok (.iconst 1, 1) := by decide +kernel
theorem d_L_law_424 : decode (m_L_law).2.1 424 = .ok (.iadd, 1) := by decide +kernel
theorem d_L_law_425 : decode (m_L_law).2.1 425 = .ok (.iaload, 1) := by decide +kernel
theorem d_L_law_426 : decode (m_L_law).2.1 426 = .ok (.invokevirtual 58, 3) := by decide +kernel
theorem d_L_law_429 : decode (m_L_law).2.1 429 = .ok (.if_icmp .eq 261, 3) := by decide +kernel
theorem d_L_law_432 : decode (m_L_law).2.1 432 = .ok (.iconst 0, 1) := by decide +kernel
theorem d_L_law_433 : decode (m_L_law).2.1 433 = .ok (.ireturn, 1) := by decide +kernel
theorem d_L_law_434 : decode (m_L_law).2.1 434 = .ok (.aload_n 1, 1) := by decide +kernel
theorem d_L_law_435 : decode (m_L_law).2.1 435 = .ok (.aload_n 0, 1) := by decide +kernel
theorem d_L_law_436 : decode (m_L_law).2.1 436 = .ok (.iload_n 3, 1) := by decide +kernel
theorem d_L_law_437 : decode (m_L_law).2.1 437 = .ok (.iconst 1, 1) := by decide +kernel
theorem d_L_law_438 : decode (m_L_law).2.1 438 = .ok (.iadd, 1) := by decide +kernel
theorem d_L_law_439 : decode (m_L_law).2.1 439 = .ok (.iaload, 1) := by decide +kernel
theorem d_L_law_440 : decode (m_L_law).2.1 440 = .ok (.invokevirtual 59, 3) := by decide +kernel
theorem d_L_law_443 : decode (m_L_law).2.1 443 = .ok (.aload_n 2, 1) := by decide +kernel
theorem d_L_law_444 : decode (m_L_law).2.1 444 = .ok (.aload_n 0, 1) := by decide +kernel
theorem d_L_law_445 : decode (m_L_law).2.1 445 = .ok (.iload_n 3, 1) := by decide +kernel
theorem d_L_law_446 : decode (m_L_law).2.1 446 = .ok (.iconst 1, 1) := by decide +kernel
theorem d_L_law_447 : decode (m_L_law).2.1 447 = .ok (.iadd, 1) := by decide +kernel
theorem d_L_law_448 : decode (m_L_law).2.1 448 = .ok (.iaload, 1) := by decide +kernel
theorem d_L_law_449 : decode (m_L_law).2.1 449 = .ok (.invokevirtual 62, 3) := by decide +kernel
theorem d_L_law_452 : decode (m_L_law).2.1 452 = .ok (.if_icmp .eq 238, 3) := by decide +kernel
theorem d_L_law_455 : decode (m_L_law).2.1 455 = .ok (.iconst 0, 1) := by decide +kernel
theorem d_L_law_456 : decode (m_L_law).2.1 456 = .ok (.ireturn, 1) := by decide +kernel
theorem d_L_law_457 : decode (m_L_law).2.1 457 = .ok (.aload_n 1, 1) := by decide +kernel
theorem d_L_law_458 : decode (m_L_law).2.1 458 = .ok (.aload_n 0, 1) := by decide +kernel
theorem d_L_law_459 : decode (m_L_law).2.1 459 = .ok (.iload_n 3, 1) := by decide +kernel
theorem d_L_law_460 : decode (m_L_law).2.1 460 = .ok (.iconst 1, 1) := by decide +kernel
theorem d_L_law_461 : decode (m_L_law).2.1 461 = .ok (.iadd, 1) := by decide +kernel
theorem d_L_law_462 : decode (m_L_law).2.1 462 = .ok (.iaload, 1) := by decide +kernel
theorem d_L_law_463 : decode (m_L_law).2.1 463 = .ok (.ifCond .eq 7, 3) := by decide +kernel
theorem d_L_law_466 : decode (m_L_law).2.1 466 = .ok (.iconst 1, 1) := by decide +kernel
theorem d_L_law_467 : decode (m_L_law).2.1 467 = .ok (.goto 4, 3) := by decide +kernel
theorem d_L_law_470 : decode (m_L_law).2.1 470 = .ok (.iconst 0, 1) := by decide +kernel
theorem d_L_law_471 : decode (m_L_law).2.1 471 = .ok (.invokevirtual 63, 3) := by decide +kernel
theorem d_L_law_474 : decode (m_L_law).2.1 474 = .ok (.aload_n 2, 1) := by decide +kernel
theorem d_L_law_475 : decode (m_L_law).2.1 475 = .ok (.aload_n 0, 1) := by decide +kernel
theorem d_L_law_476 : decode (m_L_law).2.1 476 = .ok (.iload_n 3, 1) := by decide +kernel
theorem d_L_law_477 : decode (m_L_law).2.1 477 = .ok (.iconst 1, 1) := by decide +kernel
theorem d_L_law_478 : decode (m_L_law).2.1 478 = .ok (.iadd, 1) := by decide +kernel
theorem d_L_law_479 : decode (m_L_law).2.1 479 = .ok (.iaload, 1) := by decide +kernel
theorem d_L_law_480 : decode (m_L_law).2.1 480 = .ok (.ifCond .eq 7, 3) := by decide +kernel
theorem d_L_law_483 : decode (m_L_law).2.1 483 = .ok (.iconst 1, 1) := by decide +kernel
theorem d_L_law_484 : decode (m_L_law).2.1 484 = .ok (.goto 4, 3) := by decide +kernel
theorem d_L_law_487 : decode (m_L_law).2.1 487 = .ok (.iconst 0, 1) := by decide +kernel
theorem d_L_law_488 : decode (m_L_law).2.1 488 = .ok (.invokevirtual 66, 3) := by decide +kernel
theorem d_L_law_491 : decode (m_L_law).2.1 491 = .ok (.if_icmp .eq 199, 3) := by decide +kernel
theorem d_L_law_494 : decode (m_L_law).2.1 494 = .ok (.iconst 0, 1) := by decide +kernel
theorem d_L_law_495 : decode (m_L_law).2.1 495 = .ok (.ireturn, 1) := by decide +kernel
theorem d_L_law_496 : decode (m_L_law).2.1 496 = .ok (.aload_n 1, 1) := by decide +kernel
theorem d_L_law_497 : decode (m_L_law).2.1 497 = .ok (.aload_n 0, 1) := by decide +kernel
theorem d_L_law_498 : decode (m_L_law).2.1 498 = .ok (.iload_n 3, 1) := by decide +kernel
theorem d_L_law_499 : decode (m_L_law).2.1 499 = .ok (.iconst 1, 1) := by decide +kernel
theorem d_L_law_500 : decode (m_L_law).2.1 500 = .ok (.iadd, 1) := by decide +kernel
theorem d_L_law_501 : decode (m_L_law).2.1 501 = .ok (.iaload, 1) := by decide +kernel
theorem d_L_law_502 : decode (m_L_law).2.1 502 = .ok (.invokevirtual 67, 3) := by decide +kernel
theorem d_L_law_505 : decode (m_L_law).2.1 505 = .ok (.aload_n 2, 1) := by decide +kernel
theorem d_L_law_506 : decode (m_L_law).2.1 506 = .ok (.aload_n 0, 1) := by decide +kernel
theorem d_L_law_507 : decode (m_L_law).2.1 507 = .ok (.iload_n 3, 1) := by decide +kernel
theorem d_L_law_508 : decode (m_L_law).2.1 508 = .ok (.iconst 1, 1) := by decide +kernel
theorem d_L_law_509 : decode (m_L_law).2.1 509 = .ok (.iadd, 1) := by decide +kernel
theorem d_L_law_510 : decode (m_L_law).2.1 510 = .ok (.iaload, 1) := by decide +kernel
theorem d_L_law_511 : decode (m_L_law).2.1 511 = .ok (.invokevirtual 70, 3) := by decide +kernel
theorem d_L_law_514 : decode (m_L_law).2.1 514 = .ok (.if_icmp .eq 176, 3) := by decide +kernel
theorem d_L_law_517 : decode (m_L_law).2.1 517 = .ok (.iconst 0, 1) := by decide +kernel
theorem d_L_law_518 : decode (m_L_law).2.1 518 = .ok (.ireturn, 1) := by decide +kernel
theorem d_L_law_519 : decode (m_L_law).2.1 519 = .ok (.aload_n 1, 1) := by decide +kernel
theorem d_L_law_520 : decode (m_L_law).2.1 520 = .ok (.aload_n 0, 1) := by decide +kernel
theorem d_L_law_521 : decode (m_L_law).2.1 521 = .ok (.iload_n 3, 1) := by decide +kernel
theorem d_L_law_522 : decode (m_L_law).2.1 522 = .ok (.iconst 1, 1) := by decide +kernel
theorem d_L_law_523 : decode (m_L_law).2.1 523 = .ok (.iadd, 1) := by decide +kernel
theorem d_L_law_524 : decode (m_L_law).2.1 524 = .ok (.iaload, 1) := by decide +kernel
theorem d_L_law_525 : decode (m_L_law).2.1 525 = .ok (.invokevirtual 71, 3) := by decide +kernel
theorem d_L_law_528 : decode (m_L_law).2.1 528 = .ok (.aload_n 2, 1) := by decide +kernel
theorem d_L_law_529 : decode (m_L_law).2.1 529 = .ok (.aload_n 0, 1) := by decide +kernel
theorem d_L_law_530 : decode (m_L_law).2.1 530 = .ok (.iload_n 3, 1) := by decide +kernel
theorem d_L_law_531 : decode (m_L_law).2.1 531 = .ok (.iconst 1, 1) := by decide +kernel
theorem d_L_law_532 : decode (m_L_law).2.1 532 = .ok (.iadd, 1) := by decide +kernel
theorem d_L_law_533 : decode (m_L_law).2.1 533 = .ok (.iaload, 1) := by decide +kernel
theorem d_L_law_534 : decode (m_L_law).2.1 534 = .ok (.invokevirtual 74, 3) := by decide +kernel
theorem d_L_law_537 : decode (m_L_law).2.1 537 = .ok (.if_icmp .eq 153, 3) := by decide +kernel
theorem d_L_law_540 : decode (m_L_law).2.1 540 = .ok (.iconst 0, 1) := by decide +kernel
theorem d_L_law_541 : decode (m_L_law).2.1 541 = .ok (.ireturn, 1) := by decide +kernel
theorem d_L_law_542 : decode (m_L_law).2.1 542 = .ok (.aload_n 1, 1) := by decide +kernel
theorem d_L_law_543 : decode (m_L_law).2.1 543 = .ok (.aload_n 0, 1) := by decide +kernel
theorem d_L_law_544 : decode (m_L_law).2.1 544 = .ok (.iload_n 3, 1) := by decide +kernel
theorem d_L_law_545 : decode (m_L_law).2.1 545 = .ok (.iconst 1, 1) := by decide +kernel
theorem d_L_law_546 : decode (m_L_law).2.1 546 = .ok (.iadd, 1) := by decide +kernel
theorem d_L_law_547 : decode (m_L_law).2.1 547 = .ok (.iaload, 1) := by decide +kernel
theorem d_L_law_548 : decode (m_L_law).2.1 548 = .ok (.invokevirtual 75, 3) := by decide +kernel
theorem d_L_law_551 : decode (m_L_law).2.1 551 = .ok (.aload_n 2, 1) := by decide +kernel
theorem d_L_law_552 : decode (m_L_law).2.1 552 = .ok (.aload_n 0, 1) := by decide +kernel
theorem d_L_law_553 : decode (m_L_law).2.1 553 = .ok (.iload_n 3, 1) := by decide +kernel
theorem d_L_law_554 : decode (m_L_law).2.1 554 = .ok (.iconst 1, 1) := by decide +kernel
theorem d_L_law_555 : decode (m_L_law).2.1 555 = .ok (.iadd, 1) := by decide +kernel
theorem d_L_law_556 : decode (m_L_law).2.1 556 = .ok (.iaload, 1) := by decide +kernel
theorem d_L_law_557 : decode (m_L_law).2.1 557 = .ok (.invokevirtual 78, 3) := by decide +kernel
theorem d_L_law_560 : decode (m_L_law).2.1 560 = .ok (.if_icmp .eq 130, 3) := by decide +kernel
theorem d_L_law_563 : decode (m_L_law).2.1 563 = .ok (.iconst 0, 1) := by decide +kernel
theorem d_L_law_564 : decode (m_L_law).2.1 564 = .ok (.ireturn, 1) := by decide +kernel
theorem d_L_law_565 : decode (m_L_law).2.1 565 = .ok (.aload_n 1, 1) := by decide +kernel
theorem d_L_law_566 : decode (m_L_law).2.1 566 = .ok (.aload_n 0, 1) := by decide +kernel
theorem d_L_law_567 : decode (m_L_law).2.1 567 = .ok (.iload_n 3, 1) := by decide +kernel
theorem d_L_law_568 : decode (m_L_law).2.1 568 = .ok (.iconst 1, 1) := by decide +kernel
theorem d_L_law_569 : decode (m_L_law).2.1 569 = .ok (.iadd, 1) := by decide +kernel
theorem d_L_law_570 : decode (m_L_law).2.1 570 = .ok (.iaload, 1) := by decide +kernel
theorem d_L_law_571 : decode (m_L_law).2.1 571 = .ok (.invokevirtual 79, 3) := by decide +kernel
theorem d_L_law_574 : decode (m_L_law).2.1 574 = .ok (.aload_n 2, 1) := by decide +kernel
theorem d_L_law_575 : decode (m_L_law).2.1 575 = .ok (.aload_n 0, 1) := by decide +kernel
theorem d_L_law_576 : decode (m_L_law).2.1 576 = .ok (.iload_n 3, 1) := by decide +kernel
theorem d_L_law_577 : decode (m_L_law).2.1 577 = .ok (.iconst 1, 1) := by decide +kernel
theorem d_L_law_578 : decode (m_L_law).2.1 578 = .ok (.iadd, 1) := by decide +kernel
theorem d_L_law_579 : decode (m_L_law).2.1 579 = .ok (.iaload, 1) := by decide +kernel
theorem d_L_law_580 : decode (m_L_law).2.1 580 = .ok (.invokevirtual 82, 3) := by decide +kernel
theorem d_L_law_583 : decode (m_L_law).2.1 583 = .ok (.if_icmp .eq 107, 3) := by decide +kernel
theorem d_L_law_586 : decode (m_L_law).2.1 586 = .ok (.iconst 0, 1) := by decide +kernel
theorem d_L_law_587 : decode (m_L_law).2.1 587 = .ok (.ireturn, 1) := by decide +kernel
theorem d_L_law_588 : decode (m_L_law).2.1 588 = .ok (.aload_n 1, 1) := by decide +kernel
theorem d_L_law_589 : decode (m_L_law).2.1 589 = .ok (.aload_n 0, 1) := by decide +kernel
theorem d_L_law_590 : decode (m_L_law).2.1 590 = .ok (.iload_n 3, 1) := by decide +kernel
theorem d_L_law_591 : decode (m_L_law).2.1 591 = .ok (.iconst 1, 1) := by decide +kernel
theorem d_L_law_592 : decode (m_L_law).2.1 592 = .ok (.iadd, 1) := by decide +kernel
theorem d_L_law_593 : decode (m_L_law).2.1 593 = .ok (.iaload, 1) := by decide +kernel
theorem d_L_law_594 : decode (m_L_law).2.1 594 = .ok (.aload_n 0, 1) := by decide +kernel
theorem d_L_law_595 : decode (m_L_law).2.1 595 = .ok (.iload_n 3, 1) := by decide +kernel
theorem d_L_law_596 : decode (m_L_law).2.1 596 = .ok (.iconst 2, 1) := by decide +kernel
theorem d_L_law_597 : decode (m_L_law).2.1 597 = .ok (.iadd, 1) := by decide +kernel
theorem d_L_law_598 : decode (m_L_law).2.1 598 = .ok (.iaload, 1) := by decide +kernel
theorem d_L_law_599 : decode (m_L_law).2.1 599 = .ok (.invokevirtual 83, 3) := by decide +kernel
theorem d_L_law_602 : decode (m_L_law).2.1 602 = .ok (.aload_n 2, 1) := by decide +kernel
theorem d_L_law_603 : decode (m_L_law).2.1 603 = .ok (.aload_n 0, 1) := by decide +kernel
theorem d_L_law_604 : decode (m_L_law).2.1 604 = .ok (.iload_n 3, 1) := by decide +kernel
theorem d_L_law_605 : decode (m_L_law).2.1 605 = .ok (.iconst 1, 1) := by decide +kernel
theorem d_L_law_606 : decode (m_L_law).2.1 606 = .ok (.iadd, 1) := by decide +kernel
theorem d_L_law_607 : decode (m_L_law).2.1 607 = .ok (.iaload, 1) := by decide +kernel
theorem d_L_law_608 : decode (m_L_law).2.1 608 = .ok (.aload_n 0, 1) := by decide +kernel
theorem d_L_law_609 : decode (m_L_law).2.1 609 = .ok (.iload_n 3, 1) := by decide +kernel
theorem d_L_law_610 : decode (m_L_law).2.1 610 = .ok (.iconst 2, 1) := by decide +kernel
theorem d_L_law_611 : decode (m_L_law).2.1 611 = .ok (.iadd, 1) := by decide +kernel
theorem d_L_law_612 : decode (m_L_law).2.1 612 = .ok (.iaload, 1) := by decide +kernel
theorem d_L_law_613 : decode (m_L_law).2.1 613 = .ok (.invokevirtual 86, 3) := by decide +kernel
theorem d_L_law_616 : decode (m_L_law).2.1 616 = .ok (.if_icmp .eq 74, 3) := by decide +kernel
theorem d_L_law_619 : decode (m_L_law).2.1 619 = .ok (.iconst 0, 1) := by decide +kernel
theorem d_L_law_620 : decode (m_L_law).2.1 620 = .ok (.ireturn, 1) := by decide +kernel
theorem d_L_law_621 : decode (m_L_law).2.1 621 = .ok (.aload_n 1, 1) := by decide +kernel
theorem d_L_law_622 : decode (m_L_law).2.1 622 = .ok (.aload_n 0, 1) := by decide +kernel
theorem d_L_law_623 : decode (m_L_law).2.1 623 = .ok (.iload_n 3, 1) := by decide +kernel
theorem d_L_law_624 : decode (m_L_law).2.1 624 = .ok (.iconst 1, 1) := by decide +kernel
theorem d_L_law_625 : decode (m_L_law).2.1 625 = .ok (.iadd, 1) := by decide +kernel
theorem d_L_law_626 : decode (m_L_law).2.1 626 = .ok (.iaload, 1) := by decide +kernel
theorem d_L_law_627 : decode (m_L_law).2.1 627 = .ok (.invokevirtual 87, 3) := by decide +kernel
theorem d_L_law_630 : decode (m_L_law).2.1 630 = .ok (.aload_n 2, 1) := by decide +kernel
theorem d_L_law_631 : decode (m_L_law).2.1 631 = .ok (.aload_n 0, 1) := by decide +kernel
theorem d_L_law_632 : decode (m_L_law).2.1 632 = .ok (.iload_n 3, 1) := by decide +kernel
theorem d_L_law_633 : decode (m_L_law).2.1 633 = .ok (.iconst 1, 1) := by decide +kernel
theorem d_L_law_634 : decode (m_L_law).2.1 634 = .ok (.iadd, 1) := by decide +kernel
theorem d_L_law_635 : decode (m_L_law).2.1 635 = .ok (.iaload, 1) := by decide +kernel
theorem d_L_law_636 : decode (m_L_law).2.1 636 = .ok (.invokevirtual 90, 3) := by decide +kernel
theorem d_L_law_639 : decode (m_L_law).2.1 639 = .ok (.if_icmp .eq 51, 3) := by decide +kernel
theorem d_L_law_642 : decode (m_L_law).2.1 642 = .ok (.iconst 0, 1) := by decide +kernel
theorem d_L_law_643 : decode (m_L_law).2.1 643 = .ok (.ireturn, 1) := by decide +kernel
theorem d_L_law_644 : decode (m_L_law).2.1 644 = .ok (.aload_n 1, 1) := by decide +kernel
theorem d_L_law_645 : decode (m_L_law).2.1 645 = .ok (.aload_n 0, 1) := by decide +kernel
theorem d_L_law_646 : decode (m_L_law).2.1 646 = .ok (.iload_n 3, 1) := by decide +kernel
theorem d_L_law_647 : decode (m_L_law).2.1 647 = .ok (.iconst 1, 1) := by decide +kernel
theorem d_L_law_648 : decode (m_L_law).2.1 648 = .ok (.iadd, 1) := by decide +kernel
theorem d_L_law_649 : decode (m_L_law).2.1 649 = .ok (.iaload, 1) := by decide +kernel
theorem d_L_law_650 : decode (m_L_law).2.1 650 = .ok (.invokevirtual 91, 3) := by decide +kernel
theorem d_L_law_653 : decode (m_L_law).2.1 653 = .ok (.aload_n 2, 1) := by decide +kernel
theorem d_L_law_654 : decode (m_L_law).2.1 654 = .ok (.aload_n 0, 1) := by decide +kernel
theorem d_L_law_655 : decode (m_L_law).2.1 655 = .ok (.iload_n 3, 1) := by decide +kernel
theorem d_L_law_656 : decode (m_L_law).2.1 656 = .ok (.iconst 1, 1) := by decide +kernel
theorem d_L_law_657 : decode (m_L_law).2.1 657 = .ok (.iadd, 1) := by decide +kernel
theorem d_L_law_658 : decode (m_L_law).2.1 658 = .ok (.iaload, 1) := by decide +kernel
theorem d_L_law_659 : decode (m_L_law).2.1 659 = .ok (.invokevirtual 94, 3) := by decide +kernel
theorem d_L_law_662 : decode (m_L_law).2.1 662 = .ok (.if_icmp .eq 28, 3) := by decide +kernel
theorem d_L_law_665 : decode (m_L_law).2.1 665 = .ok (.iconst 0, 1) := by decide +kernel
theorem d_L_law_666 : decode (m_L_law).2.1 666 = .ok (.ireturn, 1) := by decide +kernel
theorem d_L_law_667 : decode (m_L_law).2.1 667 = .ok (.aload_n 1, 1) := by decide +kernel
theorem d_L_law_668 : decode (m_L_law).2.1 668 = .ok (.aload_n 0, 1) := by decide +kernel
theorem d_L_law_669 : decode (m_L_law).2.1 669 = .ok (.iload_n 3, 1) := by decide +kernel
theorem d_L_law_670 : decode (m_L_law).2.1 670 = .ok (.iconst 1, 1) := by decide +kernel
theorem d_L_law_671 : decode (m_L_law).2.1 671 = .ok (.iadd, 1) := by decide +kernel
theorem d_L_law_672 : decode (m_L_law).2.1 672 = .ok (.iaload, 1) := by decide +kernel
theorem d_L_law_673 : decode (m_L_law).2.1 673 = .ok (.invokevirtual 95, 3) := by decide +kernel
theorem d_L_law_676 : decode (m_L_law).2.1 676 = .ok (.aload_n 2, 1) := by decide +kernel
theorem d_L_law_677 : decode (m_L_law).2.1 677 = .ok (.aload_n 0, 1) := by decide +kernel
theorem d_L_law_678 : decode (m_L_law).2.1 678 = .ok (.iload_n 3, 1) := by decide +kernel
theorem d_L_law_679 : decode (m_L_law).2.1 679 = .ok (.iconst 1, 1) := by decide +kernel
theorem d_L_law_680 : decode (m_L_law).2.1 680 = .ok (.iadd, 1) := by decide +kernel
theorem d_L_law_681 : decode (m_L_law).2.1 681 = .ok (.iaload, 1) := by decide +kernel
theorem d_L_law_682 : decode (m_L_law).2.1 682 = .ok (.invokevirtual 98, 3) := by decide +kernel
theorem d_L_law_685 : decode (m_L_law).2.1 685 = .ok (.if_icmp .eq 5, 3) := by decide +kernel
theorem d_L_law_688 : decode (m_L_law).2.1 688 = .ok (.iconst 0, 1) := by decide +kernel
theorem d_L_law_689 : decode (m_L_law).2.1 689 = .ok (.ireturn, 1) := by decide +kernel
theorem d_L_law_690 : decode (m_L_law).2.1 690 = .ok (.iinc 3 4, 3) := by decide +kernel
theorem d_L_law_693 : decode (m_L_law).2.1 693 = .ok (.goto (-675), 3) := by decide +kernel
theorem d_L_law_696 : decode (m_L_law).2.1 696 = .ok (.iconst 1, 1) := by decide +kernel
theorem d_L_law_697 : decode (m_L_law).2.1 697 = .ok (.ireturn, 1) := by decide +kernel
end
section
/-! the ten fields, on numbers -/
def gdeg (p : Nat) : Nat := if p < 16 then 3 else if p < 32 then 4 else 5
def gq (p : Nat) : Nat := 2 ^ gdeg p
def gtx (p a : Nat) : Nat := if 2 * a < gq p then 2 * a else (2 * a) ^^^ p
def gpw (p : Nat) : Nat → Nat
  | 0 => 1
  | e + 1 => gtx p (gpw p e)
def grims : List Nat := [11, 13, 19, 25, 37, 41, 47, 55, 59, 61]
/-- the product without carry, by the first i bits of b -/
def gcl (a b : Nat) : Nat → Nat
  | 0 => 0
  | i + 1 => if (b >>> i) % 2 = 1 then gcl a b i ^^^ (a <<< i) else gcl a b i
/-- the bits bits + t - 1, .., bits taken away by p -/
def gred (p bits : Nat) : Nat → Nat → Nat
  | 0, r => r
  | t + 1, r => gred p bits t (if (r >>> (bits + t)) % 2 = 1 then r ^^^ (p <<< t) else r)
def gmul (p a b : Nat) : Nat := gred p (gdeg p) (gdeg p - 1) (gcl a b (gdeg p))
def glogF (p a : Nat) : Nat → Nat → Nat
  | 0, e => e
  | n + 1, e => if gpw p e = a then e else glogF p a n (e + 1)
def glog (p a : Nat) : Nat := glogF p a (gq p - 1) 0
def ginv (p b : Nat) : Nat := gpw p ((gq p - 1 - glog p b) % (gq p - 1))
def gdiv (p a b : Nat) : Nat := gmul p a (ginv p b)
def gtxs (p : Nat) : Nat → Nat → Nat
  | 0, b => b
  | e + 1, b => gtx p (gtxs p e b)
/-- what a program decides of each field -/
def gck (p : Nat) : Bool :=
  (List.range (gq p)).all (fun a => gtx p a < gq p && gmul p 0 a == 0 && gmul p 1 a == a && gmul p a 2 == gtx p a && (a == 0 || (gpw p (glog p a) == a && glog p a < gq p - 1 && gmul p a (ginv p a) == 1 && ginv p a < gq p && 0 < ginv p a)) &&
    (List.range (gq p)).all (fun b => gmul p a b < gq p && gmul p a b == gmul p b a && gtx p (a ^^^ b) == gtx p a ^^^ gtx p b && a ^^^ b < gq p && (a == 0 || b == 0 || (gmul p a b == gpw p ((glog p a + glog p b) % (gq p - 1)) && 0 < gmul p a b)) && (a == 0 || gmul p a b == gtxs p (glog p a) b))) &&
  (List.range (gq p - 1)).all (fun e => 0 < gpw p e && gpw p e < gq p && glog p (gpw p e) == e) && gpw p (gq p - 1) == 1
set_option maxRecDepth 100000 in
theorem gck_all : grims.all gck = true := by decide +kernel
/-- which numbers are primitive: as the two programs look for it -/
def gprimF (p : Nat) : Nat → Nat → Bool
  | 0, x => gtx p x == 1
  | n + 1, x => if gtx p x = 1 then false else gprimF p n (gtx p x)
def gprim (p : Nat) : Bool := gprimF p (gq p - 2) 1
set_option maxRecDepth 100000 in
theorem gprim_all : (List.range 64).all (fun p => p < 8 || (gprim p == decide (p ∈ grims))) = true := by decide +kernel
end
section
/-! sums, and polynomials by weight: why the least leading weight is found, condition by condition -/
def sm {F : Type} [Lean.Grind.Field F] (f : Nat → F) : Nat → F
  | 0 => 0
  | n + 1 => sm f n + f n
theorem sm_congr {F : Type} [Lean.Grind.Field F] {f g : Nat → F} : ∀ {n : Nat}, (∀ i, i < n → f i = g i) → sm f n = sm g n
  | 0, _ => rfl
  | n + 1, h => by
    rw [sm, sm, sm_congr (fun i hi => h i (by omega)), h n (by omega)]
theorem sm_add {F : Type} [Lean.Grind.Field F] (f g : Nat → F) : ∀ n, sm (fun i => f i + g i) n = sm f n + sm g n
  | 0 => by simp only [sm]; grind
  | n + 1 => by
    simp only [sm]
    rw [sm_add f g n]
    grind
theorem sm_mul {F : Type} [Lean.Grind.Field F] (c : F) (f : Nat → F) : ∀ n, sm (fun i => c * f i) n = c * sm f n
  | 0 => by simp only [sm]; grind
  | n + 1 => by
    simp only [sm]
    rw [sm_mul c f n]
    grind
theorem sm_zero {F : Type} [Lean.Grind.Field F] {f : Nat → F} : ∀ {n : Nat}, (∀ i, i < n → f i = 0) → sm f n = 0
  | 0, _ => rfl
  | n + 1, h => by
    rw [sm, sm_zero (fun i hi => h i (by omega)), h n (by omega)]
    grind
theorem sm_shift {F : Type} [Lean.Grind.Field F] (f : Nat → F) : ∀ n, sm f (n + 1) = f 0 + sm (fun i => f (i + 1)) n
  | 0 => by simp only [sm]; grind
  | n + 1 => by
    have h := sm_shift f n
    rw [sm, h, sm]
    grind
def ev {F : Type} [Lean.Grind.Field F] (E : Nat → Nat → Nat → F) (B P : Nat) (q : Nat → Nat → F) (t : Nat) : F := sm (fun w => sm (fun j => q w j * E w j t) P) B
def xmul {F : Type} [Lean.Grind.Field F] (q : Nat → Nat → F) : Nat → Nat → F
  | 0, _ => 0
  | w + 1, j => q w j
def ple (w j w' j' : Nat) : Prop := w < w' ∨ (w = w' ∧ j < j')
def lead {F : Type} [Lean.Grind.Field F] (q : Nat → Nat → F) (w j : Nat) : Prop := q w j ≠ 0 ∧ ∀ w' j', ple w j w' j' → q w' j' = 0
def psup {F : Type} [Lean.Grind.Field F] (k1 B P : Nat) (q : Nat → Nat → F) : Prop := ∀ w j, q w j ≠ 0 → k1 * j ≤ w ∧ w < B ∧ j < P
theorem ev_lin {F : Type} [Lean.Grind.Field F] (E : Nat → Nat → Nat → F) (B P : Nat) (q r : Nat → Nat → F) (c : F) (t : Nat) : ev E B P (fun w j => q w j + c * r w j) t = ev E B P q t + c * ev E B P r t := by
  unfold ev
  rw [← sm_mul, ← sm_add]
  refine sm_congr (fun w _ => ?_)
  rw [← sm_mul, ← sm_add]
  refine sm_congr (fun j _ => ?_)
  grind
theorem ev_x {F : Type} [Lean.Grind.Field F] {E : Nat → Nat → Nat → F} {B P k1 : Nat} {q : Nat → Nat → F} {t t' : Nat} {a b : F} (hE : ∀ w j, k1 * j ≤ w → E (w + 1) j t = a * E w j t + b * E w j t') (hs : psup k1 B P q) (hB : ∀ j, q (B - 1) j = 0) : ev E B P (xmul q) t = a * ev E B P q t + b * ev E B P q t' := by
  cases B with
  | zero => unfold ev; simp only [sm]; grind
  | succ B =>
    unfold ev
    rw [← sm_mul, ← sm_mul, ← sm_add]
    rw [sm_shift, sm]
    have h0 : sm (fun j => xmul q 0 j * E 0 j t) P = 0 := sm_zero (fun j _ => by show (0 : F) * _ = 0; grind)
    have h1 : a * sm (fun j => q B j * E B j t) P + b * sm (fun j => q B j * E B j t') P = 0 := by
      rw [sm_zero (fun j _ => by rw [show q B j = 0 from hB j]; grind), sm_zero (fun j _ => by rw [show q B j = 0 from hB j]; grind)]
      grind
    rw [h0, h1]
    have h2 : sm (fun i => sm (fun j => xmul q (i + 1) j * E (i + 1) j t) P) B = sm (fun w => a * sm (fun j => q w j * E w j t) P + b * sm (fun j => q w j * E w j t') P) B := by
      refine sm_congr (fun w _ => ?_)
      rw [← sm_mul, ← sm_mul, ← sm_add]
      refine sm_congr (fun j _ => ?_)
      show q w j * _ = _
      by_cases hz : q w j = 0
      · rw [hz]; grind
      · rw [hE w j (hs w j hz).1]; grind
    rw [h2]
    grind
theorem lead_ex {F : Type} [Lean.Grind.Field F] {P : Nat} {q : Nat → Nat → F} (hP : 0 < P) (hj : ∀ w j, q w j ≠ 0 → j < P) : ∀ (N : Nat), (∀ w j, q w j ≠ 0 → w * P + j < N) → (∃ w j, q w j ≠ 0) → ∃ w j, lead q w j
  | 0, hN, ⟨w, j, h⟩ => absurd (hN w j h) (Nat.not_lt_zero _)
  | N + 1, hN, hex => by
    by_cases h : q (N / P) (N % P) = 0
    · refine lead_ex hP hj N (fun w j hq => ?_) hex
      have h1 := hN w j hq
      have h2 := hj w j hq
      by_cases he : w * P + j = N
      · exfalso
        have e1 : N / P = w := by rw [← he, Nat.mul_comm w P, Nat.mul_add_div hP, Nat.div_eq_of_lt h2, Nat.add_zero]
        have e2 : N % P = j := by rw [← he, Nat.mul_comm w P, Nat.mul_add_mod, Nat.mod_eq_of_lt h2]
        rw [e1, e2] at h
        exact hq h
      · omega
    · refine ⟨N / P, N % P, h, fun w' j' hlt => Classical.byContradiction fun hne => ?_⟩
      have h1 := hN w' j' hne
      have h2 := hj w' j' hne
      have h3 : N / P * P + N % P = N := by rw [Nat.mul_comm]; exact Nat.div_add_mod N P
      rcases hlt with h4 | ⟨h4, h5⟩
      · have h6 : (N / P + 1) * P ≤ w' * P := Nat.mul_le_mul_right P h4
        have h7 := Nat.mod_lt N hP
        rw [Nat.succ_mul] at h6
        omega
      · rw [← h4] at h1
        omega
def xpow {F : Type} [Lean.Grind.Field F] (q : Nat → Nat → F) : Nat → Nat → Nat → F
  | 0 => q
  | s + 1 => xmul (xpow q s)
theorem xmul_lead {F : Type} [Lean.Grind.Field F] {q : Nat → Nat → F} {w j : Nat} (h : lead q w j) : lead (xmul q) (w + 1) j := by
  refine ⟨h.1, fun w' j' hlt => ?_⟩
  cases w' with
  | zero => rcases hlt with h1 | ⟨h1, _⟩ <;> omega
  | succ w' =>
    refine h.2 w' j' ?_
    rcases hlt with h1 | ⟨h1, h2⟩
    · exact Or.inl (by omega)
    · exact Or.inr ⟨by omega, h2⟩
theorem xpow_lead {F : Type} [Lean.Grind.Field F] {q : Nat → Nat → F} {w j : Nat} (h : lead q w j) : ∀ s, lead (xpow q s) (w + s) j
  | 0 => h
  | s + 1 => xmul_lead (xpow_lead h s)
/-- what lies at or below the lead -/
theorem lead_sup {F : Type} [Lean.Grind.Field F] {q : Nat → Nat → F} {w j w' j' : Nat} (h : lead q w j) (hq : q w' j' ≠ 0) : w' ≤ w := by
  rcases Nat.lt_or_ge w w' with h1 | h1
  · exact absurd (h.2 w' j' (Or.inl h1)) hq
  · exact h1
def kpass {F : Type} [Lean.Grind.Field F] (E : Nat → Nat → Nat → F) (B P c : Nat) (q : Nat → Nat → F) : Prop := ∀ t, t < c → ev E B P q t = 0
theorem xmul_sup {F : Type} [Lean.Grind.Field F] {k1 B P : Nat} {q : Nat → Nat → F} (hs : psup k1 B P q) (hB : ∀ w j, q w j ≠ 0 → w + 1 < B) : psup k1 B P (xmul q) := by
  intro w j h
  cases w with
  | zero => exact absurd rfl h
  | succ w =>
    have h1 := hs w j h
    exact ⟨by omega, hB w j h, h1.2.2⟩
/-- the conditions: place by place, each with its number a t, and the one before it unless it is the first of its row -/
def kcond {F : Type} [Lean.Grind.Field F] (E : Nat → Nat → Nat → F) (k1 : Nat) (a : Nat → F) (u0 : Nat → Bool) : Prop := ∀ t w j, k1 * j ≤ w → E (w + 1) j t = a t * E w j t + (if u0 t then 0 else 1) * E w j (t - 1)
theorem kx_pass {F : Type} [Lean.Grind.Field F] {E : Nat → Nat → Nat → F} {B P k1 c : Nat} {a : Nat → F} {u0 : Nat → Bool} {q : Nat → Nat → F} (hE : kcond E k1 a u0) (h00 : u0 0 = true) (hs : psup k1 B P q) (hB : ∀ j, q (B - 1) j = 0) (hp : kpass E B P c q) :
    kpass E B P c (xmul q) ∧ ev E B P (xmul q) c = a c * ev E B P q c := by
  have key : ∀ t, t ≤ c → ev E B P (xmul q) t = a t * ev E B P q t := by
    intro t ht
    rw [ev_x (hE t) hs hB]
    by_cases hu : u0 t = true
    · rw [if_pos hu]; grind
    · have h0 : t ≠ 0 := fun q => hu (by rw [q]; exact h00)
      rw [hp (t - 1) (by omega)]
      grind
  refine ⟨fun t ht => ?_, key c (Nat.le_refl c)⟩
  rw [key t (by omega), hp t ht]
  grind
theorem kxp {F : Type} [Lean.Grind.Field F] {E : Nat → Nat → Nat → F} {B P k1 c : Nat} {a : Nat → F} {u0 : Nat → Bool} {q : Nat → Nat → F} {w j : Nat} (hE : kcond E k1 a u0) (h00 : u0 0 = true) (hs : psup k1 B P q) (hl : lead q w j) (hp : kpass E B P c q) :
    ∀ s, w + s < B → psup k1 B P (xpow q s) ∧ kpass E B P c (xpow q s) ∧ (ev E B P q c = 0 → ev E B P (xpow q s) c = 0)
  | 0, _ => ⟨hs, hp, fun h => h⟩
  | s + 1, hB => by
    obtain ⟨h1, h2, h3⟩ := kxp hE h00 hs hl hp s (by omega)
    have hl' := xpow_lead hl s
    have hb : ∀ j', xpow q s (B - 1) j' = 0 := fun j' => hl'.2 _ _ (Or.inl (by omega))
    obtain ⟨g1, g2⟩ := kx_pass hE h00 h1 hb h2
    refine ⟨xmul_sup h1 (fun w' j' hq => ?_), g1, fun h => ?_⟩
    · have := lead_sup hl' hq
      omega
    · show ev E B P (xmul (xpow q s)) c = 0
      rw [g2, h3 h]
      grind
def kInv {F : Type} [Lean.Grind.Field F] (E : Nat → Nat → Nat → F) (B P k1 c : Nat) (G : Nat → Nat → Nat → F) (wt : Nat → Nat) : Prop :=
  (∀ j, j < P → lead (G j) (wt j) j ∧ psup k1 B P (G j) ∧ kpass E B P c (G j)) ∧ ∀ q w j, psup k1 B P q → kpass E B P c q → lead q w j → wt j ≤ w
/-- what passes the first conditions and fails the next leads no lower than a failing one of the row -/
theorem k_fail {F : Type} [Lean.Grind.Field F] {E : Nat → Nat → Nat → F} {B P k1 c : Nat} {a : Nat → F} {u0 : Nat → Bool} {G : Nat → Nat → Nat → F} {wt : Nat → Nat} (hE : kcond E k1 a u0) (h00 : u0 0 = true) (hP : 0 < P) (hI : kInv E B P k1 c G wt) {l : Nat} (hl : l < P)
    (hmin : ∀ j, j < P → ev E B P (G j) c ≠ 0 → j = l ∨ ple (wt l) l (wt j) j) : ∀ (N : Nat) (q : Nat → Nat → F) (w j : Nat), w * P + j < N → psup k1 B P q → kpass E B P c q → lead q w j → ev E B P q c ≠ 0 → (w = wt l ∧ j = l) ∨ ple (wt l) l w j
  | 0, _, _, _, h, _, _, _, _ => absurd h (Nat.not_lt_zero _)
  | N + 1, q, w, j, hN, hs, hp, hq, hne => by
    have hj : j < P := (hs w j hq.1).2.2
    have hw : w < B := (hs w j hq.1).2.1
    have hle := hI.2 q w j hs hp hq
    obtain ⟨gl, gs, gp⟩ := hI.1 j hj
    by_cases hf : ev E B P (G j) c = 0
    · -- reduce by x^s G j
      have hb : wt j + (w - wt j) < B := by omega
      obtain ⟨x1, x2, x3⟩ := kxp hE h00 gs gl gp (w - wt j) hb
      have xl := xpow_lead gl (w - wt j)
      rw [show wt j + (w - wt j) = w by omega] at xl
      generalize xpow (G j) (w - wt j) = g at x1 x2 x3 xl
      have hev := ev_lin E B P q g (-(q w j * (g w j)⁻¹))
      generalize hr : (fun w' j' => q w' j' + -(q w j * (g w j)⁻¹) * g w' j') = r at hev
      have hrz : ∀ w' j', (w = w' ∧ j = j') ∨ ple w j w' j' → r w' j' = 0 := by
        intro w' j' h
        rw [← hr]
        show q w' j' + -(q w j * (g w j)⁻¹) * g w' j' = 0
        rcases h with ⟨rfl, rfl⟩ | h
        · have h1 := Lean.Grind.Field.mul_inv_cancel xl.1
          grind
        · rw [hq.2 w' j' h, xl.2 w' j' h]
          grind
      have hrs : psup k1 B P r := by
        intro w' j' h
        by_cases h1 : q w' j' = 0
        · by_cases h2 : g w' j' = 0
          · exfalso
            apply h
            rw [← hr]
            show q w' j' + _ * g w' j' = 0
            rw [h1, h2]
            grind
          · exact x1 w' j' h2
        · exact hs w' j' h1
      have hrp : kpass E B P c r := by
        intro t ht
        rw [hev t, hp t ht, x2 t ht]
        grind
      have hrc : ev E B P r c ≠ 0 := by
        rw [hev c, x3 hf]
        intro h
        apply hne
        grind
      have hex : ∃ w' j', r w' j' ≠ 0 := by
        apply Classical.byContradiction
        intro h
        apply hrc
        unfold ev
        refine sm_zero (fun w' _ => sm_zero (fun j' _ => ?_))
        have h1 : r w' j' = 0 := Classical.byContradiction fun h2 => h ⟨w', j', h2⟩
        rw [h1]
        grind
      obtain ⟨w', j', hl'⟩ := lead_ex hP (fun w j h => (hrs w j h).2.2) (B * P) (fun w j h => by
        have h1 := hrs w j h
        have h2 : (w + 1) * P ≤ B * P := Nat.mul_le_mul_right P h1.2.1
        rw [Nat.succ_mul] at h2
        omega) hex
      have hlt : ple w' j' w j := by
        have h1 : ¬ ((w = w' ∧ j = j') ∨ ple w j w' j') := fun h => hl'.1 (hrz w' j' h)
        unfold ple at h1 ⊢
        omega
      have hj' : j' < P := (hrs w' j' hl'.1).2.2
      have hsm : w' * P + j' < N := by
        rcases hlt with h1 | ⟨h1, h2⟩
        · have h2 : (w' + 1) * P ≤ w * P := Nat.mul_le_mul_right P h1
          rw [Nat.succ_mul] at h2
          omega
        · rw [h1]
          omega
      have ih := k_fail hE h00 hP hI hl hmin N r w' j' hsm hrs hrp hl' hrc
      right
      unfold ple at ih hlt ⊢
      omega
    · rcases hmin j hj hf with rfl | h
      · by_cases he : w = wt j
        · exact Or.inl ⟨he, rfl⟩
        · exact Or.inr (Or.inl (by omega))
      · right
        unfold ple at h ⊢
        omega
/-- one condition met -/
theorem k_step {F : Type} [Lean.Grind.Field F] {E : Nat → Nat → Nat → F} {B P k1 c : Nat} {a : Nat → F} {u0 : Nat → Bool} {G : Nat → Nat → Nat → F} {wt : Nat → Nat} (hE : kcond E k1 a u0) (h00 : u0 0 = true) (hI : kInv E B P k1 c G wt) {l : Nat} (hl : l < P) (hB : wt l + 1 < B) (hlf : ev E B P (G l) c ≠ 0)
    (hmin : ∀ j, j < P → ev E B P (G j) c ≠ 0 → j = l ∨ ple (wt l) l (wt j) j) :
    kInv E B P k1 (c + 1) (fun j => if j = l then (fun w j' => xmul (G l) w j' + -(a c) * G l w j') else (fun w j' => G j w j' + -(ev E B P (G j) c * (ev E B P (G l) c)⁻¹) * G l w j')) (fun j => if j = l then wt l + 1 else wt j) := by
  obtain ⟨ll, ls, lp⟩ := hI.1 l hl
  have hinv := Lean.Grind.Field.mul_inv_cancel hlf
  have hb : ∀ j', G l (B - 1) j' = 0 := fun j' => ll.2 _ _ (Or.inl (by omega))
  obtain ⟨xp, xc⟩ := kx_pass hE h00 ls hb lp
  refine ⟨fun j hj => ?_, fun q w j hs hp hq => ?_⟩
  · by_cases h : j = l
    · subst h
      simp only [if_pos]
      have xl := xmul_lead ll
      refine ⟨⟨?_, fun w' j' hlt => ?_⟩, fun w' j' hne => ?_, fun t ht => ?_⟩
      · dsimp only
        rw [ll.2 (wt j + 1) j (Or.inl (by omega))]
        intro h1
        apply ll.1
        show G j (wt j) j = 0
        have h2 : xmul (G j) (wt j + 1) j = G j (wt j) j := rfl
        grind
      · dsimp only
        rw [xl.2 w' j' hlt, ll.2 w' j' (by unfold ple at hlt ⊢; omega)]
        grind
      · by_cases h1 : G j w' j' = 0
        · by_cases h2 : xmul (G j) w' j' = 0
          · exfalso
            apply hne
            dsimp only
            rw [h1, h2]
            grind
          · exact xmul_sup ls (fun w j'' hq => by have := lead_sup ll hq; omega) w' j' h2
        · exact ls w' j' h1
      · rw [ev_lin]
        by_cases h1 : t = c
        · subst h1
          rw [xc]
          grind
        · rw [xp t (by omega), lp t (by omega)]
          grind
    · simp only [if_neg h]
      obtain ⟨jl, js, jp⟩ := hI.1 j hj
      by_cases hz : ev E B P (G j) c = 0
      · have e : (fun w j' => G j w j' + -(ev E B P (G j) c * (ev E B P (G l) c)⁻¹) * G l w j') = G j := by
          funext w j'
          rw [hz]
          grind
        rw [e]
        refine ⟨jl, js, fun t ht => ?_⟩
        by_cases h1 : t = c
        · rw [h1]; exact hz
        · exact jp t (by omega)
      · have hpl : ple (wt l) l (wt j) j := (hmin j hj hz).resolve_left h
        have hz0 : ∀ w' j', (wt j = w' ∧ j = j') ∨ ple (wt j) j w' j' → G l w' j' = 0 := fun w' j' h1 => ll.2 w' j' (by unfold ple at hpl h1 ⊢; omega)
        refine ⟨⟨?_, fun w' j' hlt => ?_⟩, fun w' j' hne => ?_, fun t ht => ?_⟩
        · dsimp only
          rw [hz0 _ _ (Or.inl ⟨rfl, rfl⟩)]
          intro h1
          apply jl.1
          grind
        · dsimp only
          rw [jl.2 w' j' hlt, hz0 w' j' (Or.inr hlt)]
          grind
        · by_cases h1 : G j w' j' = 0
          · by_cases h2 : G l w' j' = 0
            · exfalso
              apply hne
              dsimp only
              rw [h1, h2]
              grind
            · exact ls w' j' h2
          · exact js w' j' h1
        · rw [ev_lin]
          by_cases h1 : t = c
          · subst h1
            grind
          · rw [jp t (by omega), lp t (by omega)]
            grind
  · have hp' : kpass E B P c q := fun t ht => hp t (by omega)
    have hle := hI.2 q w j hs hp' hq
    by_cases h : j = l
    · subst h
      simp only [if_pos]
      have hP : 0 < P := by omega
      by_cases he : w = wt j
      · exfalso
        subst he
        have hev := ev_lin E B P (G j) q (-(G j (wt j) j * (q (wt j) j)⁻¹))
        generalize hr : (fun w' j' => G j w' j' + -(G j (wt j) j * (q (wt j) j)⁻¹) * q w' j') = r at hev
        have hqi := Lean.Grind.Field.mul_inv_cancel hq.1
        have hrz : ∀ w' j', (wt j = w' ∧ j = j') ∨ ple (wt j) j w' j' → r w' j' = 0 := by
          intro w' j' h1
          rw [← hr]
          show G j w' j' + -(G j (wt j) j * (q (wt j) j)⁻¹) * q w' j' = 0
          rcases h1 with ⟨rfl, rfl⟩ | h1
          · grind
          · rw [hq.2 w' j' h1, ll.2 w' j' h1]
            grind
        have hrs : psup k1 B P r := by
          intro w' j' h2
          by_cases h1 : q w' j' = 0
          · by_cases h3 : G j w' j' = 0
            · exfalso
              apply h2
              rw [← hr]
              show G j w' j' + _ * q w' j' = 0
              rw [h1, h3]
              grind
            · exact ls w' j' h3
          · exact hs w' j' h1
        have hrp : kpass E B P c r := by
          intro t ht
          rw [hev t, hp' t ht, lp t ht]
          grind
        have hrc : ev E B P r c ≠ 0 := by
          rw [hev c, hp c (by omega)]
          intro h1
          apply hlf
          grind
        have hex : ∃ w' j', r w' j' ≠ 0 := by
          apply Classical.byContradiction
          intro h1
          apply hrc
          unfold ev
          refine sm_zero (fun w' _ => sm_zero (fun j' _ => ?_))
          have h2 : r w' j' = 0 := Classical.byContradiction fun h3 => h1 ⟨w', j', h3⟩
          rw [h2]
          grind
        obtain ⟨w', j', hl'⟩ := lead_ex hP (fun w j h => (hrs w j h).2.2) (B * P) (fun w j h => by
          have h1 := hrs w j h
          have h2 : (w + 1) * P ≤ B * P := Nat.mul_le_mul_right P h1.2.1
          rw [Nat.succ_mul] at h2
          omega) hex
        have hf := k_fail hE h00 hP hI hl hmin _ r w' j' (Nat.lt_succ_self _) hrs hrp hl' hrc
        apply hl'.1
        apply hrz
        rcases hf with ⟨h1, h2⟩ | h1
        · exact Or.inl ⟨h1.symm, h2.symm⟩
        · exact Or.inr h1
      · omega
    · simp only [if_neg h]
      exact hle
theorem k_same {F : Type} [Lean.Grind.Field F] {E : Nat → Nat → Nat → F} {B P k1 c : Nat} {G : Nat → Nat → Nat → F} {wt : Nat → Nat} (hI : kInv E B P k1 c G wt) (h : ∀ j, j < P → ev E B P (G j) c = 0) : kInv E B P k1 (c + 1) G wt := by
  refine ⟨fun j hj => ?_, fun q w j hs hp hq => hI.2 q w j hs (fun t ht => hp t (by omega)) hq⟩
  obtain ⟨h1, h2, h3⟩ := hI.1 j hj
  refine ⟨h1, h2, fun t ht => ?_⟩
  by_cases e : t = c
  · rw [e]; exact h j hj
  · exact h3 t (by omega)
end
