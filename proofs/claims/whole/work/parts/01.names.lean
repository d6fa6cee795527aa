/-! began as the kit's printed names and the skeleton's PART A, trimmed by mk01.py -/
-- ===== PART A: goes FIRST, ahead of the names: the tables' words, and 'selects' of the private methods out of them =====
/-- a private method of a class that the tables say can be made, by its rows of tables_1 -/
def lw_okq (q : MethodName × Nat) : Prop := (q.1.cls ≠ "java/lang/invoke/MethodHandle" ∧ q.1.cls ≠ "java/lang/invoke/VarHandle") ∧ Cond.instantiable q.1.cls q.2 ∈ tables_1 ∧ Cond.privateMethod q.1 ∈ tables_1 ∧ Cond.instanceMethod q.1 ∈ tables_1
theorem lw_p0 : lw_okq (⟨"LinesOfFragments", "refuse", "(I)I"⟩, 11) := ⟨⟨by decide +kernel, by decide +kernel⟩, List.mem_of_getElem? (i := 18) (by decide +kernel), List.mem_of_getElem? (i := 370) (by decide +kernel), List.mem_of_getElem? (i := 371) (by decide +kernel)⟩
theorem lw_p1 : lw_okq (⟨"LinesOfFragments$Sheet", "readStatement", "()Z"⟩, 4) := ⟨⟨by decide +kernel, by decide +kernel⟩, List.mem_of_getElem? (i := 180) (by decide +kernel), List.mem_of_getElem? (i := 397) (by decide +kernel), List.mem_of_getElem? (i := 398) (by decide +kernel)⟩
theorem lw_p2 : lw_okq (⟨"LinesOfFragments$Sheet", "here", "()I"⟩, 4) := ⟨⟨by decide +kernel, by decide +kernel⟩, List.mem_of_getElem? (i := 180) (by decide +kernel), List.mem_of_getElem? (i := 401) (by decide +kernel), List.mem_of_getElem? (i := 402) (by decide +kernel)⟩
theorem lw_p3 : lw_okq (⟨"LinesOfFragments$Sheet", "readLetters", "(I)Z"⟩, 4) := ⟨⟨by decide +kernel, by decide +kernel⟩, List.mem_of_getElem? (i := 180) (by decide +kernel), List.mem_of_getElem? (i := 409) (by decide +kernel), List.mem_of_getElem? (i := 410) (by decide +kernel)⟩
theorem lw_p4 : lw_okq (⟨"LinesOfFragments$Sheet", "isLetterHere", "()Z"⟩, 4) := ⟨⟨by decide +kernel, by decide +kernel⟩, List.mem_of_getElem? (i := 180) (by decide +kernel), List.mem_of_getElem? (i := 413) (by decide +kernel), List.mem_of_getElem? (i := 414) (by decide +kernel)⟩
theorem lw_p5 : lw_okq (⟨"LinesOfFragments$Sheet", "readDigits", "(I)Z"⟩, 4) := ⟨⟨by decide +kernel, by decide +kernel⟩, List.mem_of_getElem? (i := 180) (by decide +kernel), List.mem_of_getElem? (i := 417) (by decide +kernel), List.mem_of_getElem? (i := 418) (by decide +kernel)⟩
theorem lw_p6 : lw_okq (⟨"LinesOfFragments$Sheet", "isDigitHere", "()Z"⟩, 4) := ⟨⟨by decide +kernel, by decide +kernel⟩, List.mem_of_getElem? (i := 180) (by decide +kernel), List.mem_of_getElem? (i := 421) (by decide +kernel), List.mem_of_getElem? (i := 422) (by decide +kernel)⟩
theorem lw_p7 : lw_okq (⟨"LinesOfFragments$Sheet", "tellStatement", "(LLinesOfFragments$Paragraph;)Z"⟩, 4) := ⟨⟨by decide +kernel, by decide +kernel⟩, List.mem_of_getElem? (i := 180) (by decide +kernel), List.mem_of_getElem? (i := 460) (by decide +kernel), List.mem_of_getElem? (i := 461) (by decide +kernel)⟩
theorem lw_p8 : lw_okq (⟨"LinesOfFragments$Sheet", "tellWord", "(LLinesOfFragments$Words;)Z"⟩, 4) := ⟨⟨by decide +kernel, by decide +kernel⟩, List.mem_of_getElem? (i := 180) (by decide +kernel), List.mem_of_getElem? (i := 464) (by decide +kernel), List.mem_of_getElem? (i := 465) (by decide +kernel)⟩
theorem lw_p9 : lw_okq (⟨"LinesOfFragments$Words", "write", "(IJII)V"⟩, 4) := ⟨⟨by decide +kernel, by decide +kernel⟩, List.mem_of_getElem? (i := 41) (by decide +kernel), List.mem_of_getElem? (i := 479) (by decide +kernel), List.mem_of_getElem? (i := 480) (by decide +kernel)⟩
theorem lw_p10 : lw_okq (⟨"LinesOfFragments$Sheet", "tellForced", "(LLinesOfFragments$Words;)Z"⟩, 4) := ⟨⟨by decide +kernel, by decide +kernel⟩, List.mem_of_getElem? (i := 180) (by decide +kernel), List.mem_of_getElem? (i := 484) (by decide +kernel), List.mem_of_getElem? (i := 485) (by decide +kernel)⟩
theorem lw_p11 : lw_okq (⟨"LinesOfFragments$Sheet", "tellPattern", "(LLinesOfFragments$Patterns;)Z"⟩, 4) := ⟨⟨by decide +kernel, by decide +kernel⟩, List.mem_of_getElem? (i := 180) (by decide +kernel), List.mem_of_getElem? (i := 493) (by decide +kernel), List.mem_of_getElem? (i := 494) (by decide +kernel)⟩
theorem lw_p12 : lw_okq (⟨"LinesOfFragments$Sheet", "number", "(I)I"⟩, 4) := ⟨⟨by decide +kernel, by decide +kernel⟩, List.mem_of_getElem? (i := 180) (by decide +kernel), List.mem_of_getElem? (i := 497) (by decide +kernel), List.mem_of_getElem? (i := 498) (by decide +kernel)⟩
theorem lw_p13 : lw_okq (⟨"LinesOfFragments$Patterns", "numberFor", "(JI)I"⟩, 5) := ⟨⟨by decide +kernel, by decide +kernel⟩, List.mem_of_getElem? (i := 65) (by decide +kernel), List.mem_of_getElem? (i := 505) (by decide +kernel), List.mem_of_getElem? (i := 506) (by decide +kernel)⟩
theorem lw_p14 : lw_okq (⟨"LinesOfFragments$Patterns", "spellingOf", "(I)J"⟩, 5) := ⟨⟨by decide +kernel, by decide +kernel⟩, List.mem_of_getElem? (i := 65) (by decide +kernel), List.mem_of_getElem? (i := 509) (by decide +kernel), List.mem_of_getElem? (i := 510) (by decide +kernel)⟩
theorem lw_p15 : lw_okq (⟨"LinesOfFragments$Sheet", "tellGlue", "(LLinesOfFragments$Paragraph;)Z"⟩, 4) := ⟨⟨by decide +kernel, by decide +kernel⟩, List.mem_of_getElem? (i := 180) (by decide +kernel), List.mem_of_getElem? (i := 522) (by decide +kernel), List.mem_of_getElem? (i := 523) (by decide +kernel)⟩
def lw_privs_1 : List (MethodName × Nat) := [(⟨"LinesOfFragments", "refuse", "(I)I"⟩, 11), (⟨"LinesOfFragments$Sheet", "readStatement", "()Z"⟩, 4), (⟨"LinesOfFragments$Sheet", "here", "()I"⟩, 4), (⟨"LinesOfFragments$Sheet", "readLetters", "(I)Z"⟩, 4), (⟨"LinesOfFragments$Sheet", "isLetterHere", "()Z"⟩, 4), (⟨"LinesOfFragments$Sheet", "readDigits", "(I)Z"⟩, 4), (⟨"LinesOfFragments$Sheet", "isDigitHere", "()Z"⟩, 4), (⟨"LinesOfFragments$Sheet", "tellStatement", "(LLinesOfFragments$Paragraph;)Z"⟩, 4), (⟨"LinesOfFragments$Sheet", "tellWord", "(LLinesOfFragments$Words;)Z"⟩, 4), (⟨"LinesOfFragments$Words", "write", "(IJII)V"⟩, 4), (⟨"LinesOfFragments$Sheet", "tellForced", "(LLinesOfFragments$Words;)Z"⟩, 4), (⟨"LinesOfFragments$Sheet", "tellPattern", "(LLinesOfFragments$Patterns;)Z"⟩, 4), (⟨"LinesOfFragments$Sheet", "number", "(I)I"⟩, 4), (⟨"LinesOfFragments$Patterns", "numberFor", "(JI)I"⟩, 5), (⟨"LinesOfFragments$Patterns", "spellingOf", "(I)J"⟩, 5), (⟨"LinesOfFragments$Sheet", "tellGlue", "(LLinesOfFragments$Paragraph;)Z"⟩, 4)]
theorem lw_r1 : ∀ q ∈ lw_privs_1, lw_okq q := List.forall_mem_cons.mpr ⟨lw_p0, List.forall_mem_cons.mpr ⟨lw_p1, List.forall_mem_cons.mpr ⟨lw_p2, List.forall_mem_cons.mpr ⟨lw_p3, List.forall_mem_cons.mpr ⟨lw_p4, List.forall_mem_cons.mpr ⟨lw_p5, List.forall_mem_cons.mpr ⟨lw_p6, List.forall_mem_cons.mpr ⟨lw_p7, List.forall_mem_cons.mpr ⟨lw_p8, List.forall_mem_cons.mpr ⟨lw_p9, List.forall_mem_cons.mpr ⟨lw_p10, List.forall_mem_cons.mpr ⟨lw_p11, List.forall_mem_cons.mpr ⟨lw_p12, List.forall_mem_cons.mpr ⟨lw_p13, List.forall_mem_cons.mpr ⟨lw_p14, List.forall_mem_cons.mpr ⟨lw_p15, fun _ h => absurd h List.not_mem_nil⟩⟩⟩⟩⟩⟩⟩⟩⟩⟩⟩⟩⟩⟩⟩⟩
theorem lw_p16 : lw_okq (⟨"LinesOfFragments$Sheet", "tellKind", "(LLinesOfFragments$Paragraph;)Z"⟩, 4) := ⟨⟨by decide +kernel, by decide +kernel⟩, List.mem_of_getElem? (i := 180) (by decide +kernel), List.mem_of_getElem? (i := 530) (by decide +kernel), List.mem_of_getElem? (i := 531) (by decide +kernel)⟩
theorem lw_p17 : lw_okq (⟨"LinesOfFragments$Sheet", "tellNumber", "(ILLinesOfFragments$Paragraph;)Z"⟩, 4) := ⟨⟨by decide +kernel, by decide +kernel⟩, List.mem_of_getElem? (i := 180) (by decide +kernel), List.mem_of_getElem? (i := 537) (by decide +kernel), List.mem_of_getElem? (i := 538) (by decide +kernel)⟩
theorem lw_p18 : lw_okq (⟨"LinesOfFragments$History", "slotAt", "(I)LLinesOfFragments$Paragraph;"⟩, 3) := ⟨⟨by decide +kernel, by decide +kernel⟩, List.mem_of_getElem? (i := 160) (by decide +kernel), List.mem_of_getElem? (i := 565) (by decide +kernel), List.mem_of_getElem? (i := 566) (by decide +kernel)⟩
theorem lw_p19 : lw_okq (⟨"LinesOfFragments$Paragraph", "mayHyphenate", "(I)Z"⟩, 13) := ⟨⟨by decide +kernel, by decide +kernel⟩, List.mem_of_getElem? (i := 26) (by decide +kernel), List.mem_of_getElem? (i := 676) (by decide +kernel), List.mem_of_getElem? (i := 677) (by decide +kernel)⟩
theorem lw_p20 : lw_okq (⟨"LinesOfFragments$Fragments", "cutWord", "(LLinesOfFragments$Paragraph;III)V"⟩, 4) := ⟨⟨by decide +kernel, by decide +kernel⟩, List.mem_of_getElem? (i := 213) (by decide +kernel), List.mem_of_getElem? (i := 733) (by decide +kernel), List.mem_of_getElem? (i := 734) (by decide +kernel)⟩
theorem lw_p21 : lw_okq (⟨"LinesOfFragments$Fragments", "add", "(III)V"⟩, 4) := ⟨⟨by decide +kernel, by decide +kernel⟩, List.mem_of_getElem? (i := 213) (by decide +kernel), List.mem_of_getElem? (i := 742) (by decide +kernel), List.mem_of_getElem? (i := 743) (by decide +kernel)⟩
theorem lw_p22 : lw_okq (⟨"LinesOfFragments$Paragraph", "isTight", "()Z"⟩, 13) := ⟨⟨by decide +kernel, by decide +kernel⟩, List.mem_of_getElem? (i := 26) (by decide +kernel), List.mem_of_getElem? (i := 763) (by decide +kernel), List.mem_of_getElem? (i := 764) (by decide +kernel)⟩
theorem lw_p23 : lw_okq (⟨"LinesOfFragments$Typesetter", "reachFrom", "(I[F[F)V"⟩, 8) := ⟨⟨by decide +kernel, by decide +kernel⟩, List.mem_of_getElem? (i := 201) (by decide +kernel), List.mem_of_getElem? (i := 780) (by decide +kernel), List.mem_of_getElem? (i := 781) (by decide +kernel)⟩
theorem lw_p24 : lw_okq (⟨"LinesOfFragments$Line", "ratioOfLine", "()F"⟩, 18) := ⟨⟨by decide +kernel, by decide +kernel⟩, List.mem_of_getElem? (i := 207) (by decide +kernel), List.mem_of_getElem? (i := 796) (by decide +kernel), List.mem_of_getElem? (i := 797) (by decide +kernel)⟩
theorem lw_p25 : lw_okq (⟨"LinesOfFragments$Line", "demeritsByManner", "(FF)F"⟩, 18) := ⟨⟨by decide +kernel, by decide +kernel⟩, List.mem_of_getElem? (i := 207) (by decide +kernel), List.mem_of_getElem? (i := 816) (by decide +kernel), List.mem_of_getElem? (i := 817) (by decide +kernel)⟩
theorem lw_p26 : lw_okq (⟨"LinesOfFragments$Typesetter", "offer", "([FIF)V"⟩, 8) := ⟨⟨by decide +kernel, by decide +kernel⟩, List.mem_of_getElem? (i := 201) (by decide +kernel), List.mem_of_getElem? (i := 826) (by decide +kernel), List.mem_of_getElem? (i := 827) (by decide +kernel)⟩
theorem lw_p27 : lw_okq (⟨"LinesOfFragments$Typesetter", "traceBack", "()V"⟩, 8) := ⟨⟨by decide +kernel, by decide +kernel⟩, List.mem_of_getElem? (i := 201) (by decide +kernel), List.mem_of_getElem? (i := 839) (by decide +kernel), List.mem_of_getElem? (i := 840) (by decide +kernel)⟩
theorem lw_p28 : lw_okq (⟨"LinesOfFragments", "showLine", "(I)Z"⟩, 11) := ⟨⟨by decide +kernel, by decide +kernel⟩, List.mem_of_getElem? (i := 18) (by decide +kernel), List.mem_of_getElem? (i := 865) (by decide +kernel), List.mem_of_getElem? (i := 866) (by decide +kernel)⟩
theorem lw_p29 : lw_okq (⟨"LinesOfFragments$Typesetter", "farthestFrom", "(I)I"⟩, 8) := ⟨⟨by decide +kernel, by decide +kernel⟩, List.mem_of_getElem? (i := 201) (by decide +kernel), List.mem_of_getElem? (i := 918) (by decide +kernel), List.mem_of_getElem? (i := 919) (by decide +kernel)⟩
theorem lw_p30 : lw_okq (⟨"LinesOfFragments", "beginTrial", "()V"⟩, 11) := ⟨⟨by decide +kernel, by decide +kernel⟩, List.mem_of_getElem? (i := 18) (by decide +kernel), List.mem_of_getElem? (i := 926) (by decide +kernel), List.mem_of_getElem? (i := 927) (by decide +kernel)⟩
theorem lw_p31 : lw_okq (⟨"LinesOfFragments", "linesWith", "(I)I"⟩, 11) := ⟨⟨by decide +kernel, by decide +kernel⟩, List.mem_of_getElem? (i := 18) (by decide +kernel), List.mem_of_getElem? (i := 930) (by decide +kernel), List.mem_of_getElem? (i := 931) (by decide +kernel)⟩
def lw_privs_2 : List (MethodName × Nat) := [(⟨"LinesOfFragments$Sheet", "tellKind", "(LLinesOfFragments$Paragraph;)Z"⟩, 4), (⟨"LinesOfFragments$Sheet", "tellNumber", "(ILLinesOfFragments$Paragraph;)Z"⟩, 4), (⟨"LinesOfFragments$History", "slotAt", "(I)LLinesOfFragments$Paragraph;"⟩, 3), (⟨"LinesOfFragments$Paragraph", "mayHyphenate", "(I)Z"⟩, 13), (⟨"LinesOfFragments$Fragments", "cutWord", "(LLinesOfFragments$Paragraph;III)V"⟩, 4), (⟨"LinesOfFragments$Fragments", "add", "(III)V"⟩, 4), (⟨"LinesOfFragments$Paragraph", "isTight", "()Z"⟩, 13), (⟨"LinesOfFragments$Typesetter", "reachFrom", "(I[F[F)V"⟩, 8), (⟨"LinesOfFragments$Line", "ratioOfLine", "()F"⟩, 18), (⟨"LinesOfFragments$Line", "demeritsByManner", "(FF)F"⟩, 18), (⟨"LinesOfFragments$Typesetter", "offer", "([FIF)V"⟩, 8), (⟨"LinesOfFragments$Typesetter", "traceBack", "()V"⟩, 8), (⟨"LinesOfFragments", "showLine", "(I)Z"⟩, 11), (⟨"LinesOfFragments$Typesetter", "farthestFrom", "(I)I"⟩, 8), (⟨"LinesOfFragments", "beginTrial", "()V"⟩, 11), (⟨"LinesOfFragments", "linesWith", "(I)I"⟩, 11)]
theorem lw_r2 : ∀ q ∈ lw_privs_2, lw_okq q := List.forall_mem_cons.mpr ⟨lw_p16, List.forall_mem_cons.mpr ⟨lw_p17, List.forall_mem_cons.mpr ⟨lw_p18, List.forall_mem_cons.mpr ⟨lw_p19, List.forall_mem_cons.mpr ⟨lw_p20, List.forall_mem_cons.mpr ⟨lw_p21, List.forall_mem_cons.mpr ⟨lw_p22, List.forall_mem_cons.mpr ⟨lw_p23, List.forall_mem_cons.mpr ⟨lw_p24, List.forall_mem_cons.mpr ⟨lw_p25, List.forall_mem_cons.mpr ⟨lw_p26, List.forall_mem_cons.mpr ⟨lw_p27, List.forall_mem_cons.mpr ⟨lw_p28, List.forall_mem_cons.mpr ⟨lw_p29, List.forall_mem_cons.mpr ⟨lw_p30, List.forall_mem_cons.mpr ⟨lw_p31, fun _ h => absurd h List.not_mem_nil⟩⟩⟩⟩⟩⟩⟩⟩⟩⟩⟩⟩⟩⟩⟩⟩
theorem lw_p32 : lw_okq (⟨"LinesOfFragments", "refuseLong", "(I)J"⟩, 11) := ⟨⟨by decide +kernel, by decide +kernel⟩, List.mem_of_getElem? (i := 18) (by decide +kernel), List.mem_of_getElem? (i := 961) (by decide +kernel), List.mem_of_getElem? (i := 962) (by decide +kernel)⟩
theorem lw_p33 : lw_okq (⟨"LinesOfFragments", "isAsTold", "()Z"⟩, 11) := ⟨⟨by decide +kernel, by decide +kernel⟩, List.mem_of_getElem? (i := 18) (by decide +kernel), List.mem_of_getElem? (i := 987) (by decide +kernel), List.mem_of_getElem? (i := 988) (by decide +kernel)⟩
theorem lw_p34 : lw_okq (⟨"LinesOfFragments", "firstNotSo", "()I"⟩, 11) := ⟨⟨by decide +kernel, by decide +kernel⟩, List.mem_of_getElem? (i := 18) (by decide +kernel), List.mem_of_getElem? (i := 999) (by decide +kernel), List.mem_of_getElem? (i := 1000) (by decide +kernel)⟩
theorem lw_p35 : lw_okq (⟨"LinesOfFragments", "drawBelow41", "()I"⟩, 11) := ⟨⟨by decide +kernel, by decide +kernel⟩, List.mem_of_getElem? (i := 18) (by decide +kernel), List.mem_of_getElem? (i := 1011) (by decide +kernel), List.mem_of_getElem? (i := 1012) (by decide +kernel)⟩
theorem lw_p36 : lw_okq (⟨"LinesOfFragmentsModel", "no", "(I)I"⟩, 54) := ⟨⟨by decide +kernel, by decide +kernel⟩, List.mem_of_getElem? (i := 1034) (by decide +kernel), List.mem_of_getElem? (i := 1210) (by decide +kernel), List.mem_of_getElem? (i := 1211) (by decide +kernel)⟩
theorem lw_p37 : lw_okq (⟨"LinesOfFragmentsModel", "statement", "()Z"⟩, 54) := ⟨⟨by decide +kernel, by decide +kernel⟩, List.mem_of_getElem? (i := 1034) (by decide +kernel), List.mem_of_getElem? (i := 1218) (by decide +kernel), List.mem_of_getElem? (i := 1219) (by decide +kernel)⟩
theorem lw_p38 : lw_okq (⟨"LinesOfFragmentsModel", "sign", "()I"⟩, 54) := ⟨⟨by decide +kernel, by decide +kernel⟩, List.mem_of_getElem? (i := 1034) (by decide +kernel), List.mem_of_getElem? (i := 1222) (by decide +kernel), List.mem_of_getElem? (i := 1223) (by decide +kernel)⟩
theorem lw_p39 : lw_okq (⟨"LinesOfFragmentsModel", "readsAll", "(I)Z"⟩, 54) := ⟨⟨by decide +kernel, by decide +kernel⟩, List.mem_of_getElem? (i := 1034) (by decide +kernel), List.mem_of_getElem? (i := 1226) (by decide +kernel), List.mem_of_getElem? (i := 1227) (by decide +kernel)⟩
theorem lw_p40 : lw_okq (⟨"LinesOfFragmentsModel", "readsLetters", "(I)Z"⟩, 54) := ⟨⟨by decide +kernel, by decide +kernel⟩, List.mem_of_getElem? (i := 1034) (by decide +kernel), List.mem_of_getElem? (i := 1230) (by decide +kernel), List.mem_of_getElem? (i := 1231) (by decide +kernel)⟩
theorem lw_p41 : lw_okq (⟨"LinesOfFragmentsModel", "readsDigits", "(I)Z"⟩, 54) := ⟨⟨by decide +kernel, by decide +kernel⟩, List.mem_of_getElem? (i := 1034) (by decide +kernel), List.mem_of_getElem? (i := 1237) (by decide +kernel), List.mem_of_getElem? (i := 1238) (by decide +kernel)⟩
theorem lw_p42 : lw_okq (⟨"LinesOfFragmentsModel", "passesAll", "(IZ)V"⟩, 54) := ⟨⟨by decide +kernel, by decide +kernel⟩, List.mem_of_getElem? (i := 1034) (by decide +kernel), List.mem_of_getElem? (i := 1241) (by decide +kernel), List.mem_of_getElem? (i := 1242) (by decide +kernel)⟩
theorem lw_p43 : lw_okq (⟨"LinesOfFragmentsModel", "passes", "([I)V"⟩, 54) := ⟨⟨by decide +kernel, by decide +kernel⟩, List.mem_of_getElem? (i := 1034) (by decide +kernel), List.mem_of_getElem? (i := 1245) (by decide +kernel), List.mem_of_getElem? (i := 1246) (by decide +kernel)⟩
theorem lw_p44 : lw_okq (⟨"LinesOfFragmentsModel", "passOne", "(I)I"⟩, 54) := ⟨⟨by decide +kernel, by decide +kernel⟩, List.mem_of_getElem? (i := 1034) (by decide +kernel), List.mem_of_getElem? (i := 1249) (by decide +kernel), List.mem_of_getElem? (i := 1250) (by decide +kernel)⟩
theorem lw_p45 : lw_okq (⟨"LinesOfFragmentsModel", "comesTold", "(I)Z"⟩, 54) := ⟨⟨by decide +kernel, by decide +kernel⟩, List.mem_of_getElem? (i := 1034) (by decide +kernel), List.mem_of_getElem? (i := 1253) (by decide +kernel), List.mem_of_getElem? (i := 1254) (by decide +kernel)⟩
theorem lw_p46 : lw_okq (⟨"LinesOfFragmentsModel", "comesWord", "(I)Z"⟩, 54) := ⟨⟨by decide +kernel, by decide +kernel⟩, List.mem_of_getElem? (i := 1034) (by decide +kernel), List.mem_of_getElem? (i := 1257) (by decide +kernel), List.mem_of_getElem? (i := 1258) (by decide +kernel)⟩
theorem lw_p47 : lw_okq (⟨"LinesOfFragmentsModel", "comesForced", "()Z"⟩, 54) := ⟨⟨by decide +kernel, by decide +kernel⟩, List.mem_of_getElem? (i := 1034) (by decide +kernel), List.mem_of_getElem? (i := 1261) (by decide +kernel), List.mem_of_getElem? (i := 1262) (by decide +kernel)⟩
def lw_privs_3 : List (MethodName × Nat) := [(⟨"LinesOfFragments", "refuseLong", "(I)J"⟩, 11), (⟨"LinesOfFragments", "isAsTold", "()Z"⟩, 11), (⟨"LinesOfFragments", "firstNotSo", "()I"⟩, 11), (⟨"LinesOfFragments", "drawBelow41", "()I"⟩, 11), (⟨"LinesOfFragmentsModel", "no", "(I)I"⟩, 54), (⟨"LinesOfFragmentsModel", "statement", "()Z"⟩, 54), (⟨"LinesOfFragmentsModel", "sign", "()I"⟩, 54), (⟨"LinesOfFragmentsModel", "readsAll", "(I)Z"⟩, 54), (⟨"LinesOfFragmentsModel", "readsLetters", "(I)Z"⟩, 54), (⟨"LinesOfFragmentsModel", "readsDigits", "(I)Z"⟩, 54), (⟨"LinesOfFragmentsModel", "passesAll", "(IZ)V"⟩, 54), (⟨"LinesOfFragmentsModel", "passes", "([I)V"⟩, 54), (⟨"LinesOfFragmentsModel", "passOne", "(I)I"⟩, 54), (⟨"LinesOfFragmentsModel", "comesTold", "(I)Z"⟩, 54), (⟨"LinesOfFragmentsModel", "comesWord", "(I)Z"⟩, 54), (⟨"LinesOfFragmentsModel", "comesForced", "()Z"⟩, 54)]
theorem lw_r3 : ∀ q ∈ lw_privs_3, lw_okq q := List.forall_mem_cons.mpr ⟨lw_p32, List.forall_mem_cons.mpr ⟨lw_p33, List.forall_mem_cons.mpr ⟨lw_p34, List.forall_mem_cons.mpr ⟨lw_p35, List.forall_mem_cons.mpr ⟨lw_p36, List.forall_mem_cons.mpr ⟨lw_p37, List.forall_mem_cons.mpr ⟨lw_p38, List.forall_mem_cons.mpr ⟨lw_p39, List.forall_mem_cons.mpr ⟨lw_p40, List.forall_mem_cons.mpr ⟨lw_p41, List.forall_mem_cons.mpr ⟨lw_p42, List.forall_mem_cons.mpr ⟨lw_p43, List.forall_mem_cons.mpr ⟨lw_p44, List.forall_mem_cons.mpr ⟨lw_p45, List.forall_mem_cons.mpr ⟨lw_p46, List.forall_mem_cons.mpr ⟨lw_p47, fun _ h => absurd h List.not_mem_nil⟩⟩⟩⟩⟩⟩⟩⟩⟩⟩⟩⟩⟩⟩⟩⟩
theorem lw_p48 : lw_okq (⟨"LinesOfFragmentsModel", "comesPatternTold", "(III)Z"⟩, 54) := ⟨⟨by decide +kernel, by decide +kernel⟩, List.mem_of_getElem? (i := 1034) (by decide +kernel), List.mem_of_getElem? (i := 1265) (by decide +kernel), List.mem_of_getElem? (i := 1266) (by decide +kernel)⟩
theorem lw_p49 : lw_okq (⟨"LinesOfFragmentsModel", "placeOfPattern", "(II)I"⟩, 54) := ⟨⟨by decide +kernel, by decide +kernel⟩, List.mem_of_getElem? (i := 1034) (by decide +kernel), List.mem_of_getElem? (i := 1269) (by decide +kernel), List.mem_of_getElem? (i := 1270) (by decide +kernel)⟩
theorem lw_p50 : lw_okq (⟨"LinesOfFragmentsModel", "isPatternSo", "(III)Z"⟩, 54) := ⟨⟨by decide +kernel, by decide +kernel⟩, List.mem_of_getElem? (i := 1034) (by decide +kernel), List.mem_of_getElem? (i := 1273) (by decide +kernel), List.mem_of_getElem? (i := 1274) (by decide +kernel)⟩
theorem lw_p51 : lw_okq (⟨"LinesOfFragmentsModel", "comesPattern", "(IIII)V"⟩, 54) := ⟨⟨by decide +kernel, by decide +kernel⟩, List.mem_of_getElem? (i := 1034) (by decide +kernel), List.mem_of_getElem? (i := 1277) (by decide +kernel), List.mem_of_getElem? (i := 1278) (by decide +kernel)⟩
theorem lw_p52 : lw_okq (⟨"LinesOfFragmentsModel", "comesGlue", "(III)Z"⟩, 54) := ⟨⟨by decide +kernel, by decide +kernel⟩, List.mem_of_getElem? (i := 1034) (by decide +kernel), List.mem_of_getElem? (i := 1281) (by decide +kernel), List.mem_of_getElem? (i := 1282) (by decide +kernel)⟩
theorem lw_p53 : lw_okq (⟨"LinesOfFragmentsModel", "comesKind", "(II)Z"⟩, 54) := ⟨⟨by decide +kernel, by decide +kernel⟩, List.mem_of_getElem? (i := 1034) (by decide +kernel), List.mem_of_getElem? (i := 1285) (by decide +kernel), List.mem_of_getElem? (i := 1286) (by decide +kernel)⟩
theorem lw_p54 : lw_okq (⟨"LinesOfFragmentsModel", "comesNumber", "(II)Z"⟩, 54) := ⟨⟨by decide +kernel, by decide +kernel⟩, List.mem_of_getElem? (i := 1034) (by decide +kernel), List.mem_of_getElem? (i := 1289) (by decide +kernel), List.mem_of_getElem? (i := 1290) (by decide +kernel)⟩
theorem lw_p55 : lw_okq (⟨"LinesOfFragmentsModel", "remembers", "()V"⟩, 54) := ⟨⟨by decide +kernel, by decide +kernel⟩, List.mem_of_getElem? (i := 1034) (by decide +kernel), List.mem_of_getElem? (i := 1312) (by decide +kernel), List.mem_of_getElem? (i := 1313) (by decide +kernel)⟩
theorem lw_p56 : lw_okq (⟨"LinesOfFragmentsModel", "isWord", "(I)Z"⟩, 54) := ⟨⟨by decide +kernel, by decide +kernel⟩, List.mem_of_getElem? (i := 1034) (by decide +kernel), List.mem_of_getElem? (i := 1327) (by decide +kernel), List.mem_of_getElem? (i := 1328) (by decide +kernel)⟩
theorem lw_p57 : lw_okq (⟨"LinesOfFragmentsModel", "drop", "(I)V"⟩, 54) := ⟨⟨by decide +kernel, by decide +kernel⟩, List.mem_of_getElem? (i := 1034) (by decide +kernel), List.mem_of_getElem? (i := 1335) (by decide +kernel), List.mem_of_getElem? (i := 1336) (by decide +kernel)⟩
theorem lw_p58 : lw_okq (⟨"LinesOfFragmentsModel", "widthOf", "(I)I"⟩, 54) := ⟨⟨by decide +kernel, by decide +kernel⟩, List.mem_of_getElem? (i := 1034) (by decide +kernel), List.mem_of_getElem? (i := 1375) (by decide +kernel), List.mem_of_getElem? (i := 1376) (by decide +kernel)⟩
theorem lw_p59 : lw_okq (⟨"LinesOfFragmentsModel", "placesOf", "(I)I"⟩, 54) := ⟨⟨by decide +kernel, by decide +kernel⟩, List.mem_of_getElem? (i := 1034) (by decide +kernel), List.mem_of_getElem? (i := 1379) (by decide +kernel), List.mem_of_getElem? (i := 1380) (by decide +kernel)⟩
theorem lw_p60 : lw_okq (⟨"LinesOfFragmentsModel", "mayBreak", "(II)Z"⟩, 54) := ⟨⟨by decide +kernel, by decide +kernel⟩, List.mem_of_getElem? (i := 1034) (by decide +kernel), List.mem_of_getElem? (i := 1383) (by decide +kernel), List.mem_of_getElem? (i := 1384) (by decide +kernel)⟩
theorem lw_p61 : lw_okq (⟨"LinesOfFragmentsModel", "valueOf", "(II)I"⟩, 54) := ⟨⟨by decide +kernel, by decide +kernel⟩, List.mem_of_getElem? (i := 1034) (by decide +kernel), List.mem_of_getElem? (i := 1387) (by decide +kernel), List.mem_of_getElem? (i := 1388) (by decide +kernel)⟩
theorem lw_p62 : lw_okq (⟨"LinesOfFragmentsModel", "standsAt", "(III)Z"⟩, 54) := ⟨⟨by decide +kernel, by decide +kernel⟩, List.mem_of_getElem? (i := 1034) (by decide +kernel), List.mem_of_getElem? (i := 1391) (by decide +kernel), List.mem_of_getElem? (i := 1392) (by decide +kernel)⟩
theorem lw_p63 : lw_okq (⟨"LinesOfFragmentsModel", "findLines", "()I"⟩, 54) := ⟨⟨by decide +kernel, by decide +kernel⟩, List.mem_of_getElem? (i := 1034) (by decide +kernel), List.mem_of_getElem? (i := 1414) (by decide +kernel), List.mem_of_getElem? (i := 1415) (by decide +kernel)⟩
def lw_privs_4 : List (MethodName × Nat) := [(⟨"LinesOfFragmentsModel", "comesPatternTold", "(III)Z"⟩, 54), (⟨"LinesOfFragmentsModel", "placeOfPattern", "(II)I"⟩, 54), (⟨"LinesOfFragmentsModel", "isPatternSo", "(III)Z"⟩, 54), (⟨"LinesOfFragmentsModel", "comesPattern", "(IIII)V"⟩, 54), (⟨"LinesOfFragmentsModel", "comesGlue", "(III)Z"⟩, 54), (⟨"LinesOfFragmentsModel", "comesKind", "(II)Z"⟩, 54), (⟨"LinesOfFragmentsModel", "comesNumber", "(II)Z"⟩, 54), (⟨"LinesOfFragmentsModel", "remembers", "()V"⟩, 54), (⟨"LinesOfFragmentsModel", "isWord", "(I)Z"⟩, 54), (⟨"LinesOfFragmentsModel", "drop", "(I)V"⟩, 54), (⟨"LinesOfFragmentsModel", "widthOf", "(I)I"⟩, 54), (⟨"LinesOfFragmentsModel", "placesOf", "(I)I"⟩, 54), (⟨"LinesOfFragmentsModel", "mayBreak", "(II)Z"⟩, 54), (⟨"LinesOfFragmentsModel", "valueOf", "(II)I"⟩, 54), (⟨"LinesOfFragmentsModel", "standsAt", "(III)Z"⟩, 54), (⟨"LinesOfFragmentsModel", "findLines", "()I"⟩, 54)]
theorem lw_r4 : ∀ q ∈ lw_privs_4, lw_okq q := List.forall_mem_cons.mpr ⟨lw_p48, List.forall_mem_cons.mpr ⟨lw_p49, List.forall_mem_cons.mpr ⟨lw_p50, List.forall_mem_cons.mpr ⟨lw_p51, List.forall_mem_cons.mpr ⟨lw_p52, List.forall_mem_cons.mpr ⟨lw_p53, List.forall_mem_cons.mpr ⟨lw_p54, List.forall_mem_cons.mpr ⟨lw_p55, List.forall_mem_cons.mpr ⟨lw_p56, List.forall_mem_cons.mpr ⟨lw_p57, List.forall_mem_cons.mpr ⟨lw_p58, List.forall_mem_cons.mpr ⟨lw_p59, List.forall_mem_cons.mpr ⟨lw_p60, List.forall_mem_cons.mpr ⟨lw_p61, List.forall_mem_cons.mpr ⟨lw_p62, List.forall_mem_cons.mpr ⟨lw_p63, fun _ h => absurd h List.not_mem_nil⟩⟩⟩⟩⟩⟩⟩⟩⟩⟩⟩⟩⟩⟩⟩⟩
theorem lw_p64 : lw_okq (⟨"LinesOfFragmentsModel", "findFragments", "()V"⟩, 54) := ⟨⟨by decide +kernel, by decide +kernel⟩, List.mem_of_getElem? (i := 1034) (by decide +kernel), List.mem_of_getElem? (i := 1418) (by decide +kernel), List.mem_of_getElem? (i := 1419) (by decide +kernel)⟩
theorem lw_p65 : lw_okq (⟨"LinesOfFragmentsModel", "cutsWord", "(I)V"⟩, 54) := ⟨⟨by decide +kernel, by decide +kernel⟩, List.mem_of_getElem? (i := 1034) (by decide +kernel), List.mem_of_getElem? (i := 1422) (by decide +kernel), List.mem_of_getElem? (i := 1423) (by decide +kernel)⟩
theorem lw_p66 : lw_okq (⟨"LinesOfFragmentsModel", "cuts", "(III)V"⟩, 54) := ⟨⟨by decide +kernel, by decide +kernel⟩, List.mem_of_getElem? (i := 1034) (by decide +kernel), List.mem_of_getElem? (i := 1426) (by decide +kernel), List.mem_of_getElem? (i := 1427) (by decide +kernel)⟩
theorem lw_p67 : lw_okq (⟨"LinesOfFragmentsModel", "findBestOf", "(I)V"⟩, 54) := ⟨⟨by decide +kernel, by decide +kernel⟩, List.mem_of_getElem? (i := 1034) (by decide +kernel), List.mem_of_getElem? (i := 1430) (by decide +kernel), List.mem_of_getElem? (i := 1431) (by decide +kernel)⟩
theorem lw_p68 : lw_okq (⟨"LinesOfFragmentsModel", "fits", "(II)Z"⟩, 54) := ⟨⟨by decide +kernel, by decide +kernel⟩, List.mem_of_getElem? (i := 1034) (by decide +kernel), List.mem_of_getElem? (i := 1434) (by decide +kernel), List.mem_of_getElem? (i := 1435) (by decide +kernel)⟩
theorem lw_p69 : lw_okq (⟨"LinesOfFragmentsModel", "ratioOf", "(II)F"⟩, 54) := ⟨⟨by decide +kernel, by decide +kernel⟩, List.mem_of_getElem? (i := 1034) (by decide +kernel), List.mem_of_getElem? (i := 1438) (by decide +kernel), List.mem_of_getElem? (i := 1439) (by decide +kernel)⟩
theorem lw_p70 : lw_okq (⟨"LinesOfFragmentsModel", "natural", "(II)I"⟩, 54) := ⟨⟨by decide +kernel, by decide +kernel⟩, List.mem_of_getElem? (i := 1034) (by decide +kernel), List.mem_of_getElem? (i := 1442) (by decide +kernel), List.mem_of_getElem? (i := 1443) (by decide +kernel)⟩
theorem lw_p71 : lw_okq (⟨"LinesOfFragmentsModel", "isEnd", "(I)Z"⟩, 54) := ⟨⟨by decide +kernel, by decide +kernel⟩, List.mem_of_getElem? (i := 1034) (by decide +kernel), List.mem_of_getElem? (i := 1446) (by decide +kernel), List.mem_of_getElem? (i := 1447) (by decide +kernel)⟩
theorem lw_p72 : lw_okq (⟨"LinesOfFragmentsModel", "stretches", "()I"⟩, 54) := ⟨⟨by decide +kernel, by decide +kernel⟩, List.mem_of_getElem? (i := 1034) (by decide +kernel), List.mem_of_getElem? (i := 1450) (by decide +kernel), List.mem_of_getElem? (i := 1451) (by decide +kernel)⟩
theorem lw_p73 : lw_okq (⟨"LinesOfFragmentsModel", "shrinks", "()I"⟩, 54) := ⟨⟨by decide +kernel, by decide +kernel⟩, List.mem_of_getElem? (i := 1034) (by decide +kernel), List.mem_of_getElem? (i := 1454) (by decide +kernel), List.mem_of_getElem? (i := 1455) (by decide +kernel)⟩
theorem lw_p74 : lw_okq (⟨"LinesOfFragmentsModel", "demeritsOf", "(II)F"⟩, 54) := ⟨⟨by decide +kernel, by decide +kernel⟩, List.mem_of_getElem? (i := 1034) (by decide +kernel), List.mem_of_getElem? (i := 1462) (by decide +kernel), List.mem_of_getElem? (i := 1463) (by decide +kernel)⟩
theorem lw_p75 : lw_okq (⟨"LinesOfFragmentsModel", "penalty", "()I"⟩, 54) := ⟨⟨by decide +kernel, by decide +kernel⟩, List.mem_of_getElem? (i := 1034) (by decide +kernel), List.mem_of_getElem? (i := 1466) (by decide +kernel), List.mem_of_getElem? (i := 1467) (by decide +kernel)⟩
theorem lw_p76 : lw_okq (⟨"LinesOfFragmentsModel", "badnessOf", "(II)F"⟩, 54) := ⟨⟨by decide +kernel, by decide +kernel⟩, List.mem_of_getElem? (i := 1034) (by decide +kernel), List.mem_of_getElem? (i := 1470) (by decide +kernel), List.mem_of_getElem? (i := 1471) (by decide +kernel)⟩
theorem lw_p77 : lw_okq (⟨"LinesOfFragmentsModel", "isWidow", "(II)Z"⟩, 54) := ⟨⟨by decide +kernel, by decide +kernel⟩, List.mem_of_getElem? (i := 1034) (by decide +kernel), List.mem_of_getElem? (i := 1476) (by decide +kernel), List.mem_of_getElem? (i := 1477) (by decide +kernel)⟩
theorem lw_p78 : lw_okq (⟨"LinesOfFragmentsModel", "linesBack", "()I"⟩, 54) := ⟨⟨by decide +kernel, by decide +kernel⟩, List.mem_of_getElem? (i := 1034) (by decide +kernel), List.mem_of_getElem? (i := 1480) (by decide +kernel), List.mem_of_getElem? (i := 1481) (by decide +kernel)⟩
theorem lw_p79 : lw_okq (⟨"LinesOfFragmentsModel", "hyphened", "()I"⟩, 54) := ⟨⟨by decide +kernel, by decide +kernel⟩, List.mem_of_getElem? (i := 1034) (by decide +kernel), List.mem_of_getElem? (i := 1484) (by decide +kernel), List.mem_of_getElem? (i := 1485) (by decide +kernel)⟩
def lw_privs_5 : List (MethodName × Nat) := [(⟨"LinesOfFragmentsModel", "findFragments", "()V"⟩, 54), (⟨"LinesOfFragmentsModel", "cutsWord", "(I)V"⟩, 54), (⟨"LinesOfFragmentsModel", "cuts", "(III)V"⟩, 54), (⟨"LinesOfFragmentsModel", "findBestOf", "(I)V"⟩, 54), (⟨"LinesOfFragmentsModel", "fits", "(II)Z"⟩, 54), (⟨"LinesOfFragmentsModel", "ratioOf", "(II)F"⟩, 54), (⟨"LinesOfFragmentsModel", "natural", "(II)I"⟩, 54), (⟨"LinesOfFragmentsModel", "isEnd", "(I)Z"⟩, 54), (⟨"LinesOfFragmentsModel", "stretches", "()I"⟩, 54), (⟨"LinesOfFragmentsModel", "shrinks", "()I"⟩, 54), (⟨"LinesOfFragmentsModel", "demeritsOf", "(II)F"⟩, 54), (⟨"LinesOfFragmentsModel", "penalty", "()I"⟩, 54), (⟨"LinesOfFragmentsModel", "badnessOf", "(II)F"⟩, 54), (⟨"LinesOfFragmentsModel", "isWidow", "(II)Z"⟩, 54), (⟨"LinesOfFragmentsModel", "linesBack", "()I"⟩, 54), (⟨"LinesOfFragmentsModel", "hyphened", "()I"⟩, 54)]
theorem lw_r5 : ∀ q ∈ lw_privs_5, lw_okq q := List.forall_mem_cons.mpr ⟨lw_p64, List.forall_mem_cons.mpr ⟨lw_p65, List.forall_mem_cons.mpr ⟨lw_p66, List.forall_mem_cons.mpr ⟨lw_p67, List.forall_mem_cons.mpr ⟨lw_p68, List.forall_mem_cons.mpr ⟨lw_p69, List.forall_mem_cons.mpr ⟨lw_p70, List.forall_mem_cons.mpr ⟨lw_p71, List.forall_mem_cons.mpr ⟨lw_p72, List.forall_mem_cons.mpr ⟨lw_p73, List.forall_mem_cons.mpr ⟨lw_p74, List.forall_mem_cons.mpr ⟨lw_p75, List.forall_mem_cons.mpr ⟨lw_p76, List.forall_mem_cons.mpr ⟨lw_p77, List.forall_mem_cons.mpr ⟨lw_p78, List.forall_mem_cons.mpr ⟨lw_p79, fun _ h => absurd h List.not_mem_nil⟩⟩⟩⟩⟩⟩⟩⟩⟩⟩⟩⟩⟩⟩⟩⟩
theorem lw_p80 : lw_okq (⟨"LinesOfFragmentsModel", "widows", "()I"⟩, 54) := ⟨⟨by decide +kernel, by decide +kernel⟩, List.mem_of_getElem? (i := 1034) (by decide +kernel), List.mem_of_getElem? (i := 1488) (by decide +kernel), List.mem_of_getElem? (i := 1489) (by decide +kernel)⟩
theorem lw_p81 : lw_okq (⟨"LinesOfFragmentsModel", "loosest", "()I"⟩, 54) := ⟨⟨by decide +kernel, by decide +kernel⟩, List.mem_of_getElem? (i := 1034) (by decide +kernel), List.mem_of_getElem? (i := 1492) (by decide +kernel), List.mem_of_getElem? (i := 1493) (by decide +kernel)⟩
theorem lw_p82 : lw_okq (⟨"LinesOfFragmentsModel", "ratioOfLine", "(I)F"⟩, 54) := ⟨⟨by decide +kernel, by decide +kernel⟩, List.mem_of_getElem? (i := 1034) (by decide +kernel), List.mem_of_getElem? (i := 1496) (by decide +kernel), List.mem_of_getElem? (i := 1497) (by decide +kernel)⟩
theorem lw_p83 : lw_okq (⟨"LinesOfFragmentsModel", "tightest", "()I"⟩, 54) := ⟨⟨by decide +kernel, by decide +kernel⟩, List.mem_of_getElem? (i := 1034) (by decide +kernel), List.mem_of_getElem? (i := 1500) (by decide +kernel), List.mem_of_getElem? (i := 1501) (by decide +kernel)⟩
theorem lw_p84 : lw_okq (⟨"LinesOfFragmentsModel", "isLine", "(I)Z"⟩, 54) := ⟨⟨by decide +kernel, by decide +kernel⟩, List.mem_of_getElem? (i := 1034) (by decide +kernel), List.mem_of_getElem? (i := 1508) (by decide +kernel), List.mem_of_getElem? (i := 1509) (by decide +kernel)⟩
theorem lw_p85 : lw_okq (⟨"LinesOfFragmentsModel", "byLines", "(I)I"⟩, 54) := ⟨⟨by decide +kernel, by decide +kernel⟩, List.mem_of_getElem? (i := 1034) (by decide +kernel), List.mem_of_getElem? (i := 1538) (by decide +kernel), List.mem_of_getElem? (i := 1539) (by decide +kernel)⟩
theorem lw_p86 : lw_okq (⟨"LinesOfFragmentsModel", "findByOf", "(I)V"⟩, 54) := ⟨⟨by decide +kernel, by decide +kernel⟩, List.mem_of_getElem? (i := 1034) (by decide +kernel), List.mem_of_getElem? (i := 1542) (by decide +kernel), List.mem_of_getElem? (i := 1543) (by decide +kernel)⟩
theorem lw_p87 : lw_okq (⟨"LinesOfFragmentsModel", "totalNow", "()F"⟩, 54) := ⟨⟨by decide +kernel, by decide +kernel⟩, List.mem_of_getElem? (i := 1034) (by decide +kernel), List.mem_of_getElem? (i := 1546) (by decide +kernel), List.mem_of_getElem? (i := 1547) (by decide +kernel)⟩
theorem lw_p88 : lw_okq (⟨"LinesOfFragmentsModel", "farthestFrom", "(I)I"⟩, 54) := ⟨⟨by decide +kernel, by decide +kernel⟩, List.mem_of_getElem? (i := 1034) (by decide +kernel), List.mem_of_getElem? (i := 1554) (by decide +kernel), List.mem_of_getElem? (i := 1555) (by decide +kernel)⟩
theorem lw_p89 : lw_okq (⟨"LinesOfFragmentsModel", "linesWith", "(I)I"⟩, 54) := ⟨⟨by decide +kernel, by decide +kernel⟩, List.mem_of_getElem? (i := 1034) (by decide +kernel), List.mem_of_getElem? (i := 1562) (by decide +kernel), List.mem_of_getElem? (i := 1563) (by decide +kernel)⟩
theorem lw_p90 : lw_okq (⟨"LinesOfFragmentsModel", "linesWithout", "(I)I"⟩, 54) := ⟨⟨by decide +kernel, by decide +kernel⟩, List.mem_of_getElem? (i := 1034) (by decide +kernel), List.mem_of_getElem? (i := 1574) (by decide +kernel), List.mem_of_getElem? (i := 1575) (by decide +kernel)⟩
theorem lw_p91 : lw_okq (⟨"LinesOfFragmentsModel", "minds", "()V"⟩, 54) := ⟨⟨by decide +kernel, by decide +kernel⟩, List.mem_of_getElem? (i := 1034) (by decide +kernel), List.mem_of_getElem? (i := 1578) (by decide +kernel), List.mem_of_getElem? (i := 1579) (by decide +kernel)⟩
theorem lw_p92 : lw_okq (⟨"LinesOfFragmentsModel", "forgets", "()V"⟩, 54) := ⟨⟨by decide +kernel, by decide +kernel⟩, List.mem_of_getElem? (i := 1034) (by decide +kernel), List.mem_of_getElem? (i := 1582) (by decide +kernel), List.mem_of_getElem? (i := 1583) (by decide +kernel)⟩
theorem lw_p93 : lw_okq (⟨"LinesOfFragmentsModel", "lowestOf", "(I)J"⟩, 54) := ⟨⟨by decide +kernel, by decide +kernel⟩, List.mem_of_getElem? (i := 1034) (by decide +kernel), List.mem_of_getElem? (i := 1602) (by decide +kernel), List.mem_of_getElem? (i := 1603) (by decide +kernel)⟩
theorem lw_p94 : lw_okq (⟨"LinesOfFragmentsModel", "areLinesSo", "()Z"⟩, 54) := ⟨⟨by decide +kernel, by decide +kernel⟩, List.mem_of_getElem? (i := 1034) (by decide +kernel), List.mem_of_getElem? (i := 1621) (by decide +kernel), List.mem_of_getElem? (i := 1622) (by decide +kernel)⟩
theorem lw_p95 : lw_okq (⟨"LinesOfFragmentsModel", "draw", "(I)I"⟩, 54) := ⟨⟨by decide +kernel, by decide +kernel⟩, List.mem_of_getElem? (i := 1034) (by decide +kernel), List.mem_of_getElem? (i := 1641) (by decide +kernel), List.mem_of_getElem? (i := 1642) (by decide +kernel)⟩
def lw_privs_6 : List (MethodName × Nat) := [(⟨"LinesOfFragmentsModel", "widows", "()I"⟩, 54), (⟨"LinesOfFragmentsModel", "loosest", "()I"⟩, 54), (⟨"LinesOfFragmentsModel", "ratioOfLine", "(I)F"⟩, 54), (⟨"LinesOfFragmentsModel", "tightest", "()I"⟩, 54), (⟨"LinesOfFragmentsModel", "isLine", "(I)Z"⟩, 54), (⟨"LinesOfFragmentsModel", "byLines", "(I)I"⟩, 54), (⟨"LinesOfFragmentsModel", "findByOf", "(I)V"⟩, 54), (⟨"LinesOfFragmentsModel", "totalNow", "()F"⟩, 54), (⟨"LinesOfFragmentsModel", "farthestFrom", "(I)I"⟩, 54), (⟨"LinesOfFragmentsModel", "linesWith", "(I)I"⟩, 54), (⟨"LinesOfFragmentsModel", "linesWithout", "(I)I"⟩, 54), (⟨"LinesOfFragmentsModel", "minds", "()V"⟩, 54), (⟨"LinesOfFragmentsModel", "forgets", "()V"⟩, 54), (⟨"LinesOfFragmentsModel", "lowestOf", "(I)J"⟩, 54), (⟨"LinesOfFragmentsModel", "areLinesSo", "()Z"⟩, 54), (⟨"LinesOfFragmentsModel", "draw", "(I)I"⟩, 54)]
theorem lw_r6 : ∀ q ∈ lw_privs_6, lw_okq q := List.forall_mem_cons.mpr ⟨lw_p80, List.forall_mem_cons.mpr ⟨lw_p81, List.forall_mem_cons.mpr ⟨lw_p82, List.forall_mem_cons.mpr ⟨lw_p83, List.forall_mem_cons.mpr ⟨lw_p84, List.forall_mem_cons.mpr ⟨lw_p85, List.forall_mem_cons.mpr ⟨lw_p86, List.forall_mem_cons.mpr ⟨lw_p87, List.forall_mem_cons.mpr ⟨lw_p88, List.forall_mem_cons.mpr ⟨lw_p89, List.forall_mem_cons.mpr ⟨lw_p90, List.forall_mem_cons.mpr ⟨lw_p91, List.forall_mem_cons.mpr ⟨lw_p92, List.forall_mem_cons.mpr ⟨lw_p93, List.forall_mem_cons.mpr ⟨lw_p94, List.forall_mem_cons.mpr ⟨lw_p95, fun _ h => absurd h List.not_mem_nil⟩⟩⟩⟩⟩⟩⟩⟩⟩⟩⟩⟩⟩⟩⟩⟩
theorem lw_p96 : lw_okq (⟨"LinesOfFragmentsModel", "allLetters", "()I"⟩, 54) := ⟨⟨by decide +kernel, by decide +kernel⟩, List.mem_of_getElem? (i := 1034) (by decide +kernel), List.mem_of_getElem? (i := 1652) (by decide +kernel), List.mem_of_getElem? (i := 1653) (by decide +kernel)⟩
def lw_privs_7 : List (MethodName × Nat) := [(⟨"LinesOfFragmentsModel", "allLetters", "()I"⟩, 54)]
theorem lw_r7 : ∀ q ∈ lw_privs_7, lw_okq q := List.forall_mem_cons.mpr ⟨lw_p96, fun _ h => absurd h List.not_mem_nil⟩
def lw_privs : List (MethodName × Nat) := lw_privs_1 ++ (lw_privs_2 ++ (lw_privs_3 ++ (lw_privs_4 ++ (lw_privs_5 ++ (lw_privs_6 ++ (lw_privs_7))))))
def lw_tbl : List Cond := k2_sels lw_privs ++ tables_1
theorem lw_privs_ok : ∀ q ∈ lw_privs, lw_okq q := by
  show ∀ q ∈ lw_privs_1 ++ (lw_privs_2 ++ (lw_privs_3 ++ (lw_privs_4 ++ (lw_privs_5 ++ (lw_privs_6 ++ (lw_privs_7)))))), lw_okq q
  exact List.forall_mem_append.mpr ⟨lw_r1, List.forall_mem_append.mpr ⟨lw_r2, List.forall_mem_append.mpr ⟨lw_r3, List.forall_mem_append.mpr ⟨lw_r4, List.forall_mem_append.mpr ⟨lw_r5, List.forall_mem_append.mpr ⟨lw_r6, lw_r7⟩⟩⟩⟩⟩⟩
/-- the streams that the claim lets the run draw from -/
abbrev lw_cs : List Choice := [Jvm.Choice.named "NaN.bits"]
theorem lw_bits : nanBits ∈ lw_cs := by first | decide | exact List.mem_cons_self | simp [lw_cs, nanBits]

def RX0 : String := "LinesOfFragments$Fragments"
def TX0 : u_T := fun k => match k with
  | 0 => ("LinesOfFragments$Fragments", "widths", "[I", true)
  | 1 => ("LinesOfFragments$Fragments", "wordNumbers", "[I", true)
  | 2 => ("LinesOfFragments$Fragments", "ends", "[I", true)
  | _ => ("LinesOfFragments$Fragments", "count", "I", false)
def tyX0 : Nat → FieldType := fun k => match k with
  | 0 => .array .int
  | 1 => .array .int
  | 2 => .array .int
  | _ => .int
abbrev wsX00 : List Cond := u_ws RX0 TX0 4
theorem nmX0 : ∀ a, a < 4 → ∀ b, b < 4 → a ≠ b → (TX0 a).2.1 ≠ (TX0 b).2.1 := by decide +kernel
theorem tyX0_ok : ∀ k, k < 4 → parseFieldDescriptor (TX0 k).2.2.1 = some (tyX0 k) := by decide +kernel
abbrev cX0_init : ByteArray := prog_2_method_1_code
def yX0_init : MethodName := ⟨RX0, "<init>", "()V"⟩
abbrev cX0_cut : ByteArray := prog_2_method_2_code
def yX0_cut : MethodName := ⟨RX0, "cut", "(LLinesOfFragments$Paragraph;I)V"⟩
abbrev cX0_lastLeft : ByteArray := prog_2_method_3_code
def yX0_lastLeft : MethodName := ⟨RX0, "lastLeft", "(II)I"⟩
abbrev cX0_endOf : ByteArray := prog_2_method_4_code
def yX0_endOf : MethodName := ⟨RX0, "endOf", "(LLinesOfFragments$Words;II)I"⟩
abbrev cX0_cutWord : ByteArray := prog_2_method_5_code
def yX0_cutWord : MethodName := ⟨RX0, "cutWord", "(LLinesOfFragments$Paragraph;III)V"⟩
abbrev cX0_add : ByteArray := prog_2_method_6_code
def yX0_add : MethodName := ⟨RX0, "add", "(III)V"⟩
def RX1 : String := "LinesOfFragments$History"
def TX1 : u_T := fun k => match k with
  | 0 => ("LinesOfFragments$History", "ring", "[LLinesOfFragments$Paragraph;", true)
  | 1 => ("LinesOfFragments$History", "start", "I", false)
  | _ => ("LinesOfFragments$History", "count", "I", false)
def tyX1 : Nat → FieldType := fun k => match k with
  | 0 => .array (.object "LinesOfFragments$Paragraph")
  | 1 => .int
  | _ => .int
abbrev wsX10 : List Cond := u_ws RX1 TX1 3
theorem nmX1 : ∀ a, a < 3 → ∀ b, b < 3 → a ≠ b → (TX1 a).2.1 ≠ (TX1 b).2.1 := by decide +kernel
theorem tyX1_ok : ∀ k, k < 3 → parseFieldDescriptor (TX1 k).2.2.1 = some (tyX1 k) := by decide +kernel
abbrev cX1_init : ByteArray := prog_3_method_1_code
def yX1_init : MethodName := ⟨RX1, "<init>", "()V"⟩
abbrev cX1_forget : ByteArray := prog_3_method_2_code
def yX1_forget : MethodName := ⟨RX1, "forget", "()V"⟩
abbrev cX1_remember : ByteArray := prog_3_method_3_code
def yX1_remember : MethodName := ⟨RX1, "remember", "(LLinesOfFragments$Paragraph;)V"⟩
abbrev cX1_restore : ByteArray := prog_3_method_4_code
def yX1_restore : MethodName := ⟨RX1, "restore", "(LLinesOfFragments$Paragraph;)V"⟩
abbrev cX1_slotAt : ByteArray := prog_3_method_5_code
def yX1_slotAt : MethodName := ⟨RX1, "slotAt", "(I)LLinesOfFragments$Paragraph;"⟩
def RX2 : String := "LinesOfFragments$Line"
def TX2 : u_T := fun k => match k with
  | 0 => ("LinesOfFragments$Line", "fragments", "LLinesOfFragments$Fragments;", true)
  | 1 => ("LinesOfFragments$Line", "first", "I", false)
  | 2 => ("LinesOfFragments$Line", "last", "I", false)
  | 3 => ("LinesOfFragments$Line", "words", "I", false)
  | 4 => ("LinesOfFragments$Line", "natural", "I", false)
  | 5 => ("LinesOfFragments$Line", "end", "I", false)
  | 6 => ("LinesOfFragments$Line", "ratio", "F", false)
  | 7 => ("LinesOfFragments$Line", "endAhead", "I", false)
  | 8 => ("LinesOfFragments$Line", "letters", "I", false)
  | 9 => ("LinesOfFragments$Line", "glues", "I", false)
  | 10 => ("LinesOfFragments$Line", "goal", "I", false)
  | 11 => ("LinesOfFragments$Line", "wide", "I", false)
  | 12 => ("LinesOfFragments$Line", "stretch", "I", false)
  | 13 => ("LinesOfFragments$Line", "shrink", "I", false)
  | 14 => ("LinesOfFragments$Line", "penalty", "I", false)
  | 15 => ("LinesOfFragments$Line", "manner", "I", false)
  | 16 => ("LinesOfFragments$Line", "widow", "I", false)
  | _ => ("LinesOfFragments$Line", "loosest", "F", false)
def tyX2 : Nat → FieldType := fun k => match k with
  | 0 => .object "LinesOfFragments$Fragments"
  | 1 => .int
  | 2 => .int
  | 3 => .int
  | 4 => .int
  | 5 => .int
  | 6 => .float
  | 7 => .int
  | 8 => .int
  | 9 => .int
  | 10 => .int
  | 11 => .int
  | 12 => .int
  | 13 => .int
  | 14 => .int
  | 15 => .int
  | 16 => .int
  | _ => .float
abbrev wsX20 : List Cond := u_ws RX2 TX2 18
theorem nmX2 : ∀ a, a < 18 → ∀ b, b < 18 → a ≠ b → (TX2 a).2.1 ≠ (TX2 b).2.1 := by decide +kernel
theorem tyX2_ok : ∀ k, k < 18 → parseFieldDescriptor (TX2 k).2.2.1 = some (tyX2 k) := by decide +kernel
abbrev cX2_init : ByteArray := prog_4_method_1_code
def yX2_init : MethodName := ⟨RX2, "<init>", "()V"⟩
abbrev cX2_measureBy : ByteArray := prog_4_method_2_code
def yX2_measureBy : MethodName := ⟨RX2, "measureBy", "(LLinesOfFragments$Paragraph;)V"⟩
abbrev cX2_beginAt : ByteArray := prog_4_method_3_code
def yX2_beginAt : MethodName := ⟨RX2, "beginAt", "(I)V"⟩
abbrev cX2_grow : ByteArray := prog_4_method_4_code
def yX2_grow : MethodName := ⟨RX2, "grow", "()V"⟩
abbrev cX2_fragmentCount : ByteArray := prog_4_method_5_code
def yX2_fragmentCount : MethodName := ⟨RX2, "fragmentCount", "()I"⟩
abbrev cX2_isFull : ByteArray := prog_4_method_6_code
def yX2_isFull : MethodName := ⟨RX2, "isFull", "()Z"⟩
abbrev cX2_fits : ByteArray := prog_4_method_7_code
def yX2_fits : MethodName := ⟨RX2, "fits", "()Z"⟩
abbrev cX2_badnessOfLine : ByteArray := prog_4_method_8_code
def yX2_badnessOfLine : MethodName := ⟨RX2, "badnessOfLine", "()F"⟩
abbrev cX2_demeritsOfLine : ByteArray := prog_4_method_9_code
def yX2_demeritsOfLine : MethodName := ⟨RX2, "demeritsOfLine", "()F"⟩
abbrev cX2_isWidow : ByteArray := prog_4_method_10_code
def yX2_isWidow : MethodName := ⟨RX2, "isWidow", "()Z"⟩
abbrev cX2_ratioOfLine : ByteArray := prog_4_method_11_code
def yX2_ratioOfLine : MethodName := ⟨RX2, "ratioOfLine", "()F"⟩
abbrev cX2_demeritsByManner : ByteArray := prog_4_method_12_code
def yX2_demeritsByManner : MethodName := ⟨RX2, "demeritsByManner", "(FF)F"⟩
def RX3 : String := "LinesOfFragments$Paragraph"
def TX3 : u_T := fun k => match k with
  | 0 => ("LinesOfFragments$Paragraph", "widths", "[I", true)
  | 1 => ("LinesOfFragments$Paragraph", "words", "LLinesOfFragments$Words;", true)
  | 2 => ("LinesOfFragments$Paragraph", "patterns", "LLinesOfFragments$Patterns;", true)
  | 3 => ("LinesOfFragments$Paragraph", "line", "I", false)
  | 4 => ("LinesOfFragments$Paragraph", "wide", "I", false)
  | 5 => ("LinesOfFragments$Paragraph", "stretch", "I", false)
  | 6 => ("LinesOfFragments$Paragraph", "shrink", "I", false)
  | 7 => ("LinesOfFragments$Paragraph", "tolerance", "I", false)
  | 8 => ("LinesOfFragments$Paragraph", "hyphen", "I", false)
  | 9 => ("LinesOfFragments$Paragraph", "widow", "I", false)
  | 10 => ("LinesOfFragments$Paragraph", "manner", "I", false)
  | 11 => ("LinesOfFragments$Paragraph", "kind", "I", false)
  | _ => ("LinesOfFragments$Paragraph", "figure", "I", false)
def tyX3 : Nat → FieldType := fun k => match k with
  | 0 => .array .int
  | 1 => .object "LinesOfFragments$Words"
  | 2 => .object "LinesOfFragments$Patterns"
  | 3 => .int
  | 4 => .int
  | 5 => .int
  | 6 => .int
  | 7 => .int
  | 8 => .int
  | 9 => .int
  | 10 => .int
  | 11 => .int
  | _ => .int
abbrev wsX30 : List Cond := u_ws RX3 TX3 13
theorem nmX3 : ∀ a, a < 13 → ∀ b, b < 13 → a ≠ b → (TX3 a).2.1 ≠ (TX3 b).2.1 := by decide +kernel
theorem tyX3_ok : ∀ k, k < 13 → parseFieldDescriptor (TX3 k).2.2.1 = some (tyX3 k) := by decide +kernel
abbrev cX3_init : ByteArray := prog_5_method_1_code
def yX3_init : MethodName := ⟨RX3, "<init>", "()V"⟩
abbrev cX3_become : ByteArray := prog_5_method_2_code
def yX3_become : MethodName := ⟨RX3, "become", "(LLinesOfFragments$Paragraph;)V"⟩
abbrev cX3_takeGlue : ByteArray := prog_5_method_3_code
def yX3_takeGlue : MethodName := ⟨RX3, "takeGlue", "(III)V"⟩
abbrev cX3_widthOf : ByteArray := prog_5_method_4_code
def yX3_widthOf : MethodName := ⟨RX3, "widthOf", "(I)I"⟩
abbrev cX3_hyphenPlaces : ByteArray := prog_5_method_5_code
def yX3_hyphenPlaces : MethodName := ⟨RX3, "hyphenPlaces", "(I)I"⟩
abbrev cX3_stretchOfGlue : ByteArray := prog_5_method_6_code
def yX3_stretchOfGlue : MethodName := ⟨RX3, "stretchOfGlue", "()I"⟩
abbrev cX3_shrinkOfGlue : ByteArray := prog_5_method_7_code
def yX3_shrinkOfGlue : MethodName := ⟨RX3, "shrinkOfGlue", "()I"⟩
abbrev cX3_penaltyOfHyphen : ByteArray := prog_5_method_8_code
def yX3_penaltyOfHyphen : MethodName := ⟨RX3, "penaltyOfHyphen", "()I"⟩
abbrev cX3_isTight : ByteArray := prog_5_method_9_code
def yX3_isTight : MethodName := ⟨RX3, "isTight", "()Z"⟩
abbrev cX3_mayHyphenate : ByteArray := prog_5_method_10_code
def yX3_mayHyphenate : MethodName := ⟨RX3, "mayHyphenate", "(I)Z"⟩
def RX4 : String := "LinesOfFragments$Patterns"
def TX4 : u_T := fun k => match k with
  | 0 => ("LinesOfFragments$Patterns", "spellings", "[J", true)
  | 1 => ("LinesOfFragments$Patterns", "lengths", "[I", true)
  | 2 => ("LinesOfFragments$Patterns", "places", "[I", true)
  | 3 => ("LinesOfFragments$Patterns", "values", "[I", true)
  | _ => ("LinesOfFragments$Patterns", "count", "I", false)
def tyX4 : Nat → FieldType := fun k => match k with
  | 0 => .array .long
  | 1 => .array .int
  | 2 => .array .int
  | 3 => .array .int
  | _ => .int
abbrev wsX40 : List Cond := u_ws RX4 TX4 5
theorem nmX4 : ∀ a, a < 5 → ∀ b, b < 5 → a ≠ b → (TX4 a).2.1 ≠ (TX4 b).2.1 := by decide +kernel
theorem tyX4_ok : ∀ k, k < 5 → parseFieldDescriptor (TX4 k).2.2.1 = some (tyX4 k) := by decide +kernel
abbrev cX4_init : ByteArray := prog_6_method_1_code
def yX4_init : MethodName := ⟨RX4, "<init>", "()V"⟩
abbrev cX4_become : ByteArray := prog_6_method_2_code
def yX4_become : MethodName := ⟨RX4, "become", "(LLinesOfFragments$Patterns;)V"⟩
abbrev cX4_has : ByteArray := prog_6_method_3_code
def yX4_has : MethodName := ⟨RX4, "has", "(I)Z"⟩
abbrev cX4_firstLetter : ByteArray := prog_6_method_4_code
def yX4_firstLetter : MethodName := ⟨RX4, "firstLetter", "(I)I"⟩
abbrev cX4_hasRoomFor : ByteArray := prog_6_method_5_code
def yX4_hasRoomFor : MethodName := ⟨RX4, "hasRoomFor", "(JI)Z"⟩
abbrev cX4_take : ByteArray := prog_6_method_6_code
def yX4_take : MethodName := ⟨RX4, "take", "(JIII)I"⟩
abbrev cX4_greatestValue : ByteArray := prog_6_method_7_code
def yX4_greatestValue : MethodName := ⟨RX4, "greatestValue", "(JI)I"⟩
abbrev cX4_numberFor : ByteArray := prog_6_method_8_code
def yX4_numberFor : MethodName := ⟨RX4, "numberFor", "(JI)I"⟩
abbrev cX4_spellingOf : ByteArray := prog_6_method_9_code
def yX4_spellingOf : MethodName := ⟨RX4, "spellingOf", "(I)J"⟩
def RX5 : String := "LinesOfFragments$Sheet"
def TX5 : u_T := fun k => match k with
  | 0 => ("LinesOfFragments$Sheet", "letters", "[I", true)
  | 1 => ("LinesOfFragments$Sheet", "count", "I", false)
  | 2 => ("LinesOfFragments$Sheet", "statements", "I", false)
  | _ => ("LinesOfFragments$Sheet", "place", "I", false)
def tyX5 : Nat → FieldType := fun k => match k with
  | 0 => .array .int
  | 1 => .int
  | 2 => .int
  | _ => .int
abbrev wsX50 : List Cond := u_ws RX5 TX5 4
theorem nmX5 : ∀ a, a < 4 → ∀ b, b < 4 → a ≠ b → (TX5 a).2.1 ≠ (TX5 b).2.1 := by decide +kernel
theorem tyX5_ok : ∀ k, k < 4 → parseFieldDescriptor (TX5 k).2.2.1 = some (tyX5 k) := by decide +kernel
abbrev cX5_init : ByteArray := prog_7_method_1_code
def yX5_init : MethodName := ⟨RX5, "<init>", "()V"⟩
abbrev cX5_isFull : ByteArray := prog_7_method_2_code
def yX5_isFull : MethodName := ⟨RX5, "isFull", "()Z"⟩
abbrev cX5_take : ByteArray := prog_7_method_3_code
def yX5_take : MethodName := ⟨RX5, "take", "(I)I"⟩
abbrev cX5_forget : ByteArray := prog_7_method_4_code
def yX5_forget : MethodName := ⟨RX5, "forget", "()V"⟩
abbrev cX5_misspelt : ByteArray := prog_7_method_5_code
def yX5_misspelt : MethodName := ⟨RX5, "misspelt", "()I"⟩
abbrev cX5_tellTo : ByteArray := prog_7_method_6_code
def yX5_tellTo : MethodName := ⟨RX5, "tellTo", "(LLinesOfFragments$Paragraph;)I"⟩
abbrev cX5_here : ByteArray := prog_7_method_7_code
def yX5_here : MethodName := ⟨RX5, "here", "()I"⟩
abbrev cX5_isLetterHere : ByteArray := prog_7_method_8_code
def yX5_isLetterHere : MethodName := ⟨RX5, "isLetterHere", "()Z"⟩
abbrev cX5_isDigitHere : ByteArray := prog_7_method_9_code
def yX5_isDigitHere : MethodName := ⟨RX5, "isDigitHere", "()Z"⟩
abbrev cX5_readStatement : ByteArray := prog_7_method_10_code
def yX5_readStatement : MethodName := ⟨RX5, "readStatement", "()Z"⟩
abbrev cX5_digitsBehind : ByteArray := prog_7_method_11_code
def yX5_digitsBehind : MethodName := ⟨RX5, "digitsBehind", "(I)I"⟩
abbrev cX5_readLetters : ByteArray := prog_7_method_12_code
def yX5_readLetters : MethodName := ⟨RX5, "readLetters", "(I)Z"⟩
abbrev cX5_readDigits : ByteArray := prog_7_method_13_code
def yX5_readDigits : MethodName := ⟨RX5, "readDigits", "(I)Z"⟩
abbrev cX5_tellStatement : ByteArray := prog_7_method_14_code
def yX5_tellStatement : MethodName := ⟨RX5, "tellStatement", "(LLinesOfFragments$Paragraph;)Z"⟩
abbrev cX5_tellWord : ByteArray := prog_7_method_15_code
def yX5_tellWord : MethodName := ⟨RX5, "tellWord", "(LLinesOfFragments$Words;)Z"⟩
abbrev cX5_tellForced : ByteArray := prog_7_method_16_code
def yX5_tellForced : MethodName := ⟨RX5, "tellForced", "(LLinesOfFragments$Words;)Z"⟩
abbrev cX5_tellPattern : ByteArray := prog_7_method_17_code
def yX5_tellPattern : MethodName := ⟨RX5, "tellPattern", "(LLinesOfFragments$Patterns;)Z"⟩
abbrev cX5_tellGlue : ByteArray := prog_7_method_18_code
def yX5_tellGlue : MethodName := ⟨RX5, "tellGlue", "(LLinesOfFragments$Paragraph;)Z"⟩
abbrev cX5_tellKind : ByteArray := prog_7_method_19_code
def yX5_tellKind : MethodName := ⟨RX5, "tellKind", "(LLinesOfFragments$Paragraph;)Z"⟩
abbrev cX5_tellNumber : ByteArray := prog_7_method_20_code
def yX5_tellNumber : MethodName := ⟨RX5, "tellNumber", "(ILLinesOfFragments$Paragraph;)Z"⟩
abbrev cX5_number : ByteArray := prog_7_method_21_code
def yX5_number : MethodName := ⟨RX5, "number", "(I)I"⟩
def RX6 : String := "LinesOfFragments$Typesetter"
def TX6 : u_T := fun k => match k with
  | 0 => ("LinesOfFragments$Typesetter", "fragments", "LLinesOfFragments$Fragments;", true)
  | 1 => ("LinesOfFragments$Typesetter", "line", "LLinesOfFragments$Line;", true)
  | 2 => ("LinesOfFragments$Typesetter", "starts", "[I", true)
  | 3 => ("LinesOfFragments$Typesetter", "count", "I", false)
  | 4 => ("LinesOfFragments$Typesetter", "best", "[F", true)
  | 5 => ("LinesOfFragments$Typesetter", "ahead", "[F", true)
  | 6 => ("LinesOfFragments$Typesetter", "next", "[F", true)
  | _ => ("LinesOfFragments$Typesetter", "from", "[I", true)
def tyX6 : Nat → FieldType := fun k => match k with
  | 0 => .object "LinesOfFragments$Fragments"
  | 1 => .object "LinesOfFragments$Line"
  | 2 => .array .int
  | 3 => .int
  | 4 => .array .float
  | 5 => .array .float
  | 6 => .array .float
  | _ => .array .int
abbrev wsX60 : List Cond := u_ws RX6 TX6 8
theorem nmX6 : ∀ a, a < 8 → ∀ b, b < 8 → a ≠ b → (TX6 a).2.1 ≠ (TX6 b).2.1 := by decide +kernel
theorem tyX6_ok : ∀ k, k < 8 → parseFieldDescriptor (TX6 k).2.2.1 = some (tyX6 k) := by decide +kernel
abbrev cX6_init : ByteArray := prog_8_method_1_code
def yX6_init : MethodName := ⟨RX6, "<init>", "()V"⟩
abbrev cX6_set : ByteArray := prog_8_method_2_code
def yX6_set : MethodName := ⟨RX6, "set", "(LLinesOfFragments$Paragraph;I)I"⟩
abbrev cX6_solve : ByteArray := prog_8_method_3_code
def yX6_solve : MethodName := ⟨RX6, "solve", "(LLinesOfFragments$Paragraph;)I"⟩
abbrev cX6_leastTotal : ByteArray := prog_8_method_4_code
def yX6_leastTotal : MethodName := ⟨RX6, "leastTotal", "()F"⟩
abbrev cX6_totalBy : ByteArray := prog_8_method_5_code
def yX6_totalBy : MethodName := ⟨RX6, "totalBy", "(LLinesOfFragments$Paragraph;I)F"⟩
abbrev cX6_greedyLines : ByteArray := prog_8_method_6_code
def yX6_greedyLines : MethodName := ⟨RX6, "greedyLines", "(LLinesOfFragments$Paragraph;)I"⟩
abbrev cX6_show : ByteArray := prog_8_method_7_code
def yX6_show : MethodName := ⟨RX6, "show", "(I)V"⟩
abbrev cX6_hyphenedLines : ByteArray := prog_8_method_8_code
def yX6_hyphenedLines : MethodName := ⟨RX6, "hyphenedLines", "()I"⟩
abbrev cX6_widowLines : ByteArray := prog_8_method_9_code
def yX6_widowLines : MethodName := ⟨RX6, "widowLines", "()I"⟩
abbrev cX6_extremeLine : ByteArray := prog_8_method_10_code
def yX6_extremeLine : MethodName := ⟨RX6, "extremeLine", "(Z)I"⟩
abbrev cX6_naturalOfAll : ByteArray := prog_8_method_11_code
def yX6_naturalOfAll : MethodName := ⟨RX6, "naturalOfAll", "()I"⟩
abbrev cX6_bestAt : ByteArray := prog_8_method_12_code
def yX6_bestAt : MethodName := ⟨RX6, "bestAt", "([FI)F"⟩
abbrev cX6_beginBests : ByteArray := prog_8_method_13_code
def yX6_beginBests : MethodName := ⟨RX6, "beginBests", "([F)V"⟩
abbrev cX6_reachFrom : ByteArray := prog_8_method_14_code
def yX6_reachFrom : MethodName := ⟨RX6, "reachFrom", "(I[F[F)V"⟩
abbrev cX6_offer : ByteArray := prog_8_method_15_code
def yX6_offer : MethodName := ⟨RX6, "offer", "([FIF)V"⟩
abbrev cX6_farthestFrom : ByteArray := prog_8_method_16_code
def yX6_farthestFrom : MethodName := ⟨RX6, "farthestFrom", "(I)I"⟩
abbrev cX6_traceBack : ByteArray := prog_8_method_17_code
def yX6_traceBack : MethodName := ⟨RX6, "traceBack", "()V"⟩
def RX7 : String := "LinesOfFragments$Words"
def TX7 : u_T := fun k => match k with
  | 0 => ("LinesOfFragments$Words", "spellings", "[J", true)
  | 1 => ("LinesOfFragments$Words", "lengths", "[I", true)
  | 2 => ("LinesOfFragments$Words", "forced", "[I", true)
  | _ => ("LinesOfFragments$Words", "count", "I", false)
def tyX7 : Nat → FieldType := fun k => match k with
  | 0 => .array .long
  | 1 => .array .int
  | 2 => .array .int
  | _ => .int
abbrev wsX70 : List Cond := u_ws RX7 TX7 4
theorem nmX7 : ∀ a, a < 4 → ∀ b, b < 4 → a ≠ b → (TX7 a).2.1 ≠ (TX7 b).2.1 := by decide +kernel
theorem tyX7_ok : ∀ k, k < 4 → parseFieldDescriptor (TX7 k).2.2.1 = some (tyX7 k) := by decide +kernel
abbrev cX7_init : ByteArray := prog_9_method_1_code
def yX7_init : MethodName := ⟨RX7, "<init>", "()V"⟩
abbrev cX7_become : ByteArray := prog_9_method_2_code
def yX7_become : MethodName := ⟨RX7, "become", "(LLinesOfFragments$Words;)V"⟩
abbrev cX7_isFull : ByteArray := prog_9_method_3_code
def yX7_isFull : MethodName := ⟨RX7, "isFull", "()Z"⟩
abbrev cX7_has : ByteArray := prog_9_method_4_code
def yX7_has : MethodName := ⟨RX7, "has", "(I)Z"⟩
abbrev cX7_lengthOf : ByteArray := prog_9_method_5_code
def yX7_lengthOf : MethodName := ⟨RX7, "lengthOf", "(I)I"⟩
abbrev cX7_isForced : ByteArray := prog_9_method_6_code
def yX7_isForced : MethodName := ⟨RX7, "isForced", "(I)Z"⟩
abbrev cX7_spellingOf : ByteArray := prog_9_method_7_code
def yX7_spellingOf : MethodName := ⟨RX7, "spellingOf", "(I)J"⟩
abbrev cX7_letterCount : ByteArray := prog_9_method_8_code
def yX7_letterCount : MethodName := ⟨RX7, "letterCount", "()I"⟩
abbrev cX7_add : ByteArray := prog_9_method_9_code
def yX7_add : MethodName := ⟨RX7, "add", "(JI)I"⟩
abbrev cX7_turnForced : ByteArray := prog_9_method_10_code
def yX7_turnForced : MethodName := ⟨RX7, "turnForced", "(I)I"⟩
abbrev cX7_drop : ByteArray := prog_9_method_11_code
def yX7_drop : MethodName := ⟨RX7, "drop", "(I)I"⟩
abbrev cX7_write : ByteArray := prog_9_method_12_code
def yX7_write : MethodName := ⟨RX7, "write", "(IJII)V"⟩
def RX8 : String := "LinesOfFragments"
def TX8 : u_T := fun k => match k with
  | 0 => ("LinesOfFragments", "now", "LLinesOfFragments$Paragraph;", true)
  | 1 => ("LinesOfFragments", "trial", "LLinesOfFragments$Paragraph;", true)
  | 2 => ("LinesOfFragments", "kept", "LLinesOfFragments$Paragraph;", true)
  | 3 => ("LinesOfFragments", "history", "LLinesOfFragments$History;", true)
  | 4 => ("LinesOfFragments", "text", "LLinesOfFragments$Sheet;", true)
  | 5 => ("LinesOfFragments", "setter", "LLinesOfFragments$Typesetter;", true)
  | 6 => ("LinesOfFragments", "told", "[I", true)
  | 7 => ("LinesOfFragments", "refusals", "[I", true)
  | 8 => ("LinesOfFragments", "toldCount", "I", false)
  | 9 => ("LinesOfFragments", "isKept", "Z", false)
  | _ => ("LinesOfFragments", "seed", "I", false)
def tyX8 : Nat → FieldType := fun k => match k with
  | 0 => .object "LinesOfFragments$Paragraph"
  | 1 => .object "LinesOfFragments$Paragraph"
  | 2 => .object "LinesOfFragments$Paragraph"
  | 3 => .object "LinesOfFragments$History"
  | 4 => .object "LinesOfFragments$Sheet"
  | 5 => .object "LinesOfFragments$Typesetter"
  | 6 => .array .int
  | 7 => .array .int
  | 8 => .int
  | 9 => .boolean
  | _ => .int
abbrev wsX80 : List Cond := u_ws RX8 TX8 11
theorem nmX8 : ∀ a, a < 11 → ∀ b, b < 11 → a ≠ b → (TX8 a).2.1 ≠ (TX8 b).2.1 := by decide +kernel
theorem tyX8_ok : ∀ k, k < 11 → parseFieldDescriptor (TX8 k).2.2.1 = some (tyX8 k) := by decide +kernel
abbrev cX8_init : ByteArray := prog_1_method_1_code
def yX8_init : MethodName := ⟨RX8, "<init>", "()V"⟩
abbrev cX8_letter : ByteArray := prog_1_method_2_code
def yX8_letter : MethodName := ⟨RX8, "letter", "(I)I"⟩
abbrev cX8_sheet : ByteArray := prog_1_method_3_code
def yX8_sheet : MethodName := ⟨RX8, "sheet", "()I"⟩
abbrev cX8_widens : ByteArray := prog_1_method_4_code
def yX8_widens : MethodName := ⟨RX8, "widens", "(II)I"⟩
abbrev cX8_adds : ByteArray := prog_1_method_5_code
def yX8_adds : MethodName := ⟨RX8, "adds", "(III)I"⟩
abbrev cX8_forces : ByteArray := prog_1_method_6_code
def yX8_forces : MethodName := ⟨RX8, "forces", "(I)I"⟩
abbrev cX8_drops : ByteArray := prog_1_method_7_code
def yX8_drops : MethodName := ⟨RX8, "drops", "(I)I"⟩
abbrev cX8_patterns : ByteArray := prog_1_method_8_code
def yX8_patterns : MethodName := ⟨RX8, "patterns", "(IIII)I"⟩
abbrev cX8_line : ByteArray := prog_1_method_9_code
def yX8_line : MethodName := ⟨RX8, "line", "(I)I"⟩
abbrev cX8_glue : ByteArray := prog_1_method_10_code
def yX8_glue : MethodName := ⟨RX8, "glue", "(III)I"⟩
abbrev cX8_tolerance : ByteArray := prog_1_method_11_code
def yX8_tolerance : MethodName := ⟨RX8, "tolerance", "(I)I"⟩
abbrev cX8_hyphen : ByteArray := prog_1_method_12_code
def yX8_hyphen : MethodName := ⟨RX8, "hyphen", "(I)I"⟩
abbrev cX8_widow : ByteArray := prog_1_method_13_code
def yX8_widow : MethodName := ⟨RX8, "widow", "(I)I"⟩
abbrev cX8_manner : ByteArray := prog_1_method_14_code
def yX8_manner : MethodName := ⟨RX8, "manner", "(I)I"⟩
abbrev cX8_kind : ByteArray := prog_1_method_15_code
def yX8_kind : MethodName := ⟨RX8, "kind", "(II)I"⟩
abbrev cX8_back : ByteArray := prog_1_method_16_code
def yX8_back : MethodName := ⟨RX8, "back", "()I"⟩
abbrev cX8_word : ByteArray := prog_1_method_17_code
def yX8_word : MethodName := ⟨RX8, "word", "(II)I"⟩
abbrev cX8_spelt : ByteArray := prog_1_method_18_code
def yX8_spelt : MethodName := ⟨RX8, "spelt", "(II)I"⟩
abbrev cX8_values : ByteArray := prog_1_method_19_code
def yX8_values : MethodName := ⟨RX8, "values", "(II)I"⟩
abbrev cX8_pattern : ByteArray := prog_1_method_20_code
def yX8_pattern : MethodName := ⟨RX8, "pattern", "(II)I"⟩
abbrev cX8_lines : ByteArray := prog_1_method_21_code
def yX8_lines : MethodName := ⟨RX8, "lines", "(I)I"⟩
abbrev cX8_lineOf : ByteArray := prog_1_method_22_code
def yX8_lineOf : MethodName := ⟨RX8, "lineOf", "(II)I"⟩
abbrev cX8_ratio : ByteArray := prog_1_method_23_code
def yX8_ratio : MethodName := ⟨RX8, "ratio", "(I)I"⟩
abbrev cX8_badness : ByteArray := prog_1_method_24_code
def yX8_badness : MethodName := ⟨RX8, "badness", "(I)I"⟩
abbrev cX8_demerits : ByteArray := prog_1_method_25_code
def yX8_demerits : MethodName := ⟨RX8, "demerits", "(I)I"⟩
abbrev cX8_total : ByteArray := prog_1_method_26_code
def yX8_total : MethodName := ⟨RX8, "total", "(I)I"⟩
abbrev cX8_firstFit : ByteArray := prog_1_method_27_code
def yX8_firstFit : MethodName := ⟨RX8, "firstFit", "()I"⟩
abbrev cX8_with : ByteArray := prog_1_method_28_code
def yX8_with : MethodName := ⟨RX8, "with", "(I)I"⟩
abbrev cX8_narrowest : ByteArray := prog_1_method_29_code
def yX8_narrowest : MethodName := ⟨RX8, "narrowest", "(I)I"⟩
abbrev cX8_without : ByteArray := prog_1_method_30_code
def yX8_without : MethodName := ⟨RX8, "without", "(II)I"⟩
abbrev cX8_worst : ByteArray := prog_1_method_31_code
def yX8_worst : MethodName := ⟨RX8, "worst", "()I"⟩
abbrev cX8_manners : ByteArray := prog_1_method_32_code
def yX8_manners : MethodName := ⟨RX8, "manners", "()I"⟩
abbrev cX8_two : ByteArray := prog_1_method_33_code
def yX8_two : MethodName := ⟨RX8, "two", "(II)I"⟩
abbrev cX8_lost : ByteArray := prog_1_method_34_code
def yX8_lost : MethodName := ⟨RX8, "lost", "(III)J"⟩
abbrev cX8_mean : ByteArray := prog_1_method_35_code
def yX8_mean : MethodName := ⟨RX8, "mean", "(I)J"⟩
abbrev cX8_whatIs : ByteArray := prog_1_method_36_code
def yX8_whatIs : MethodName := ⟨RX8, "whatIs", "(I)I"⟩
abbrev cX8_row : ByteArray := prog_1_method_37_code
def yX8_row : MethodName := ⟨RX8, "row", "(I)I"⟩
abbrev cX8_judge : ByteArray := prog_1_method_38_code
def yX8_judge : MethodName := ⟨RX8, "judge", "()I"⟩
abbrev cX8_clear : ByteArray := prog_1_method_39_code
def yX8_clear : MethodName := ⟨RX8, "clear", "()I"⟩
abbrev cX8_lots : ByteArray := prog_1_method_40_code
def yX8_lots : MethodName := ⟨RX8, "lots", "(III)I"⟩
abbrev cX8_image : ByteArray := prog_1_method_41_code
def yX8_image : MethodName := ⟨RX8, "image", "()I"⟩
abbrev cX8_on : ByteArray := prog_1_method_42_code
def yX8_on : MethodName := ⟨RX8, "on", "()I"⟩
abbrev cX8_count : ByteArray := prog_1_method_43_code
def yX8_count : MethodName := ⟨RX8, "count", "(I)I"⟩
abbrev cX8_refuse : ByteArray := prog_1_method_44_code
def yX8_refuse : MethodName := ⟨RX8, "refuse", "(I)I"⟩
abbrev cX8_refuseLong : ByteArray := prog_1_method_45_code
def yX8_refuseLong : MethodName := ⟨RX8, "refuseLong", "(I)J"⟩
abbrev cX8_showLine : ByteArray := prog_1_method_46_code
def yX8_showLine : MethodName := ⟨RX8, "showLine", "(I)Z"⟩
abbrev cX8_beginTrial : ByteArray := prog_1_method_47_code
def yX8_beginTrial : MethodName := ⟨RX8, "beginTrial", "()V"⟩
abbrev cX8_linesWith : ByteArray := prog_1_method_48_code
def yX8_linesWith : MethodName := ⟨RX8, "linesWith", "(I)I"⟩
abbrev cX8_isAsTold : ByteArray := prog_1_method_49_code
def yX8_isAsTold : MethodName := ⟨RX8, "isAsTold", "()Z"⟩
abbrev cX8_firstNotSo : ByteArray := prog_1_method_50_code
def yX8_firstNotSo : MethodName := ⟨RX8, "firstNotSo", "()I"⟩
abbrev cX8_drawBelow41 : ByteArray := prog_1_method_51_code
def yX8_drawBelow41 : MethodName := ⟨RX8, "drawBelow41", "()I"⟩
abbrev cX8_at : ByteArray := prog_1_method_52_code
def yX8_at : MethodName := ⟨RX8, "at", "([II)I"⟩
abbrev cX8_put : ByteArray := prog_1_method_53_code
def yX8_put : MethodName := ⟨RX8, "put", "([III)V"⟩
abbrev cX8_copyInts : ByteArray := prog_1_method_54_code
def yX8_copyInts : MethodName := ⟨RX8, "copyInts", "([I[I)V"⟩
abbrev cX8_copyLongs : ByteArray := prog_1_method_55_code
def yX8_copyLongs : MethodName := ⟨RX8, "copyLongs", "([J[J)V"⟩
abbrev cX8_outside : ByteArray := prog_1_method_56_code
def yX8_outside : MethodName := ⟨RX8, "outside", "(III)I"⟩
abbrev cX8_glueFault : ByteArray := prog_1_method_57_code
def yX8_glueFault : MethodName := ⟨RX8, "glueFault", "(III)I"⟩
abbrev cX8_isOther : ByteArray := prog_1_method_58_code
def yX8_isOther : MethodName := ⟨RX8, "isOther", "(II)Z"⟩
abbrev cX8_isLetter : ByteArray := prog_1_method_59_code
def yX8_isLetter : MethodName := ⟨RX8, "isLetter", "(I)Z"⟩
abbrev cX8_isLetterOrNone : ByteArray := prog_1_method_60_code
def yX8_isLetterOrNone : MethodName := ⟨RX8, "isLetterOrNone", "(I)Z"⟩
abbrev cX8_spelledOn : ByteArray := prog_1_method_61_code
def yX8_spelledOn : MethodName := ⟨RX8, "spelledOn", "(JII)J"⟩
abbrev cX8_spellingOf : ByteArray := prog_1_method_62_code
def yX8_spellingOf : MethodName := ⟨RX8, "spellingOf", "(III)J"⟩
abbrev cX8_letterIn : ByteArray := prog_1_method_63_code
def yX8_letterIn : MethodName := ⟨RX8, "letterIn", "(JI)I"⟩
abbrev cX8_isLess : ByteArray := prog_1_method_64_code
def yX8_isLess : MethodName := ⟨RX8, "isLess", "(FF)Z"⟩
abbrev cX8_bitsOfTotal : ByteArray := prog_1_method_65_code
def yX8_bitsOfTotal : MethodName := ⟨RX8, "bitsOfTotal", "(F)I"⟩
abbrev cX8_bitsOf : ByteArray := prog_1_method_66_code
def yX8_bitsOf : MethodName := ⟨RX8, "bitsOf", "(F)I"⟩
abbrev cX8_power : ByteArray := prog_1_method_67_code
def yX8_power : MethodName := ⟨RX8, "power", "(JI)J"⟩
abbrev cX8_partOfFraction : ByteArray := prog_1_method_68_code
def yX8_partOfFraction : MethodName := ⟨RX8, "partOfFraction", "(JJI)J"⟩
abbrev cX8_commonDivisor : ByteArray := prog_1_method_69_code
def yX8_commonDivisor : MethodName := ⟨RX8, "commonDivisor", "(JJ)J"⟩
def RX9 : String := "LinesOfFragmentsModel"
def TX9 : u_T := fun k => match k with
  | 0 => ("LinesOfFragmentsModel", "refused", "[I", true)
  | 1 => ("LinesOfFragmentsModel", "width", "[I", true)
  | 2 => ("LinesOfFragmentsModel", "length", "[I", true)
  | 3 => ("LinesOfFragmentsModel", "spelt", "[I", true)
  | 4 => ("LinesOfFragmentsModel", "forced", "[I", true)
  | 5 => ("LinesOfFragmentsModel", "patternLength", "[I", true)
  | 6 => ("LinesOfFragmentsModel", "patternSpelt", "[I", true)
  | 7 => ("LinesOfFragmentsModel", "patternPlace", "[I", true)
  | 8 => ("LinesOfFragmentsModel", "patternValue", "[I", true)
  | 9 => ("LinesOfFragmentsModel", "words", "I", false)
  | 10 => ("LinesOfFragmentsModel", "patterns", "I", false)
  | 11 => ("LinesOfFragmentsModel", "line", "I", false)
  | 12 => ("LinesOfFragmentsModel", "wide", "I", false)
  | 13 => ("LinesOfFragmentsModel", "stretch", "I", false)
  | 14 => ("LinesOfFragmentsModel", "shrink", "I", false)
  | 15 => ("LinesOfFragmentsModel", "tolerance", "I", false)
  | 16 => ("LinesOfFragmentsModel", "hyphen", "I", false)
  | 17 => ("LinesOfFragmentsModel", "widow", "I", false)
  | 18 => ("LinesOfFragmentsModel", "manner", "I", false)
  | 19 => ("LinesOfFragmentsModel", "kind", "I", false)
  | 20 => ("LinesOfFragmentsModel", "figure", "I", false)
  | 21 => ("LinesOfFragmentsModel", "widthsTo", "[I", true)
  | 22 => ("LinesOfFragmentsModel", "gluesTo", "[I", true)
  | 23 => ("LinesOfFragmentsModel", "endOf", "[I", true)
  | 24 => ("LinesOfFragmentsModel", "wordOf", "[I", true)
  | 25 => ("LinesOfFragmentsModel", "fragments", "I", false)
  | 26 => ("LinesOfFragmentsModel", "best", "[F", true)
  | 27 => ("LinesOfFragmentsModel", "bestFrom", "[I", true)
  | 28 => ("LinesOfFragmentsModel", "begin", "[I", true)
  | 29 => ("LinesOfFragmentsModel", "lines", "I", false)
  | 30 => ("LinesOfFragmentsModel", "tape", "[I", true)
  | 31 => ("LinesOfFragmentsModel", "sort", "[I", true)
  | 32 => ("LinesOfFragmentsModel", "sortAt", "[I", true)
  | 33 => ("LinesOfFragmentsModel", "told", "[I", true)
  | 34 => ("LinesOfFragmentsModel", "saidAt", "[I", true)
  | 35 => ("LinesOfFragmentsModel", "saidMany", "[I", true)
  | 36 => ("LinesOfFragmentsModel", "taped", "I", false)
  | 37 => ("LinesOfFragmentsModel", "reading", "I", false)
  | 38 => ("LinesOfFragmentsModel", "statements", "I", false)
  | 39 => ("LinesOfFragmentsModel", "telling", "I", false)
  | 40 => ("LinesOfFragmentsModel", "coming", "[I", true)
  | 41 => ("LinesOfFragmentsModel", "kept", "[I", true)
  | 42 => ("LinesOfFragmentsModel", "hasImage", "Z", false)
  | 43 => ("LinesOfFragmentsModel", "isKeeping", "Z", false)
  | 44 => ("LinesOfFragmentsModel", "cursor", "I", false)
  | 45 => ("LinesOfFragmentsModel", "firstBack", "I", false)
  | 46 => ("LinesOfFragmentsModel", "backs", "I", false)
  | 47 => ("LinesOfFragmentsModel", "byNow", "[F", true)
  | 48 => ("LinesOfFragmentsModel", "byThen", "[F", true)
  | 49 => ("LinesOfFragmentsModel", "hasNow", "[I", true)
  | 50 => ("LinesOfFragmentsModel", "hasThen", "[I", true)
  | 51 => ("LinesOfFragmentsModel", "row", "[I", true)
  | 52 => ("LinesOfFragmentsModel", "rowMany", "I", false)
  | _ => ("LinesOfFragmentsModel", "lots", "I", false)
def tyX9 : Nat → FieldType := fun k => match k with
  | 0 => .array .int
  | 1 => .array .int
  | 2 => .array .int
  | 3 => .array .int
  | 4 => .array .int
  | 5 => .array .int
  | 6 => .array .int
  | 7 => .array .int
  | 8 => .array .int
  | 9 => .int
  | 10 => .int
  | 11 => .int
  | 12 => .int
  | 13 => .int
  | 14 => .int
  | 15 => .int
  | 16 => .int
  | 17 => .int
  | 18 => .int
  | 19 => .int
  | 20 => .int
  | 21 => .array .int
  | 22 => .array .int
  | 23 => .array .int
  | 24 => .array .int
  | 25 => .int
  | 26 => .array .float
  | 27 => .array .int
  | 28 => .array .int
  | 29 => .int
  | 30 => .array .int
  | 31 => .array .int
  | 32 => .array .int
  | 33 => .array .int
  | 34 => .array .int
  | 35 => .array .int
  | 36 => .int
  | 37 => .int
  | 38 => .int
  | 39 => .int
  | 40 => .array .int
  | 41 => .array .int
  | 42 => .boolean
  | 43 => .boolean
  | 44 => .int
  | 45 => .int
  | 46 => .int
  | 47 => .array .float
  | 48 => .array .float
  | 49 => .array .int
  | 50 => .array .int
  | 51 => .array .int
  | 52 => .int
  | _ => .int
abbrev wsX90 : List Cond := u_ws RX9 TX9 54
theorem nmX9 : ∀ a, a < 54 → ∀ b, b < 54 → a ≠ b → (TX9 a).2.1 ≠ (TX9 b).2.1 := by decide +kernel
theorem tyX9_ok : ∀ k, k < 54 → parseFieldDescriptor (TX9 k).2.2.1 = some (tyX9 k) := by decide +kernel
abbrev cX9_init : ByteArray := prog_11_method_1_code
def yX9_init : MethodName := ⟨RX9, "<init>", "()V"⟩
abbrev cX9_no : ByteArray := prog_11_method_2_code
def yX9_no : MethodName := ⟨RX9, "no", "(I)I"⟩
abbrev cX9_lowestOf : ByteArray := prog_11_method_3_code
def yX9_lowestOf : MethodName := ⟨RX9, "lowestOf", "(I)J"⟩
abbrev cX9_isIn : ByteArray := prog_11_method_4_code
def yX9_isIn : MethodName := ⟨RX9, "isIn", "(III)Z"⟩
abbrev cX9_bound : ByteArray := prog_11_method_5_code
def yX9_bound : MethodName := ⟨RX9, "bound", "(III)I"⟩
abbrev cX9_isWord : ByteArray := prog_11_method_6_code
def yX9_isWord : MethodName := ⟨RX9, "isWord", "(I)Z"⟩
abbrev cX9_isLetter : ByteArray := prog_11_method_7_code
def yX9_isLetter : MethodName := ⟨RX9, "isLetter", "(I)Z"⟩
abbrev cX9_stretches : ByteArray := prog_11_method_8_code
def yX9_stretches : MethodName := ⟨RX9, "stretches", "()I"⟩
abbrev cX9_shrinks : ByteArray := prog_11_method_9_code
def yX9_shrinks : MethodName := ⟨RX9, "shrinks", "()I"⟩
abbrev cX9_penalty : ByteArray := prog_11_method_10_code
def yX9_penalty : MethodName := ⟨RX9, "penalty", "()I"⟩
abbrev cX9_standsAt : ByteArray := prog_11_method_11_code
def yX9_standsAt : MethodName := ⟨RX9, "standsAt", "(III)Z"⟩
abbrev cX9_valueOf : ByteArray := prog_11_method_12_code
def yX9_valueOf : MethodName := ⟨RX9, "valueOf", "(II)I"⟩
abbrev cX9_mayBreak : ByteArray := prog_11_method_13_code
def yX9_mayBreak : MethodName := ⟨RX9, "mayBreak", "(II)Z"⟩
abbrev cX9_cuts : ByteArray := prog_11_method_14_code
def yX9_cuts : MethodName := ⟨RX9, "cuts", "(III)V"⟩
abbrev cX9_cutsWord : ByteArray := prog_11_method_15_code
def yX9_cutsWord : MethodName := ⟨RX9, "cutsWord", "(I)V"⟩
abbrev cX9_findFragments : ByteArray := prog_11_method_16_code
def yX9_findFragments : MethodName := ⟨RX9, "findFragments", "()V"⟩
abbrev cX9_isEnd : ByteArray := prog_11_method_17_code
def yX9_isEnd : MethodName := ⟨RX9, "isEnd", "(I)Z"⟩
abbrev cX9_natural : ByteArray := prog_11_method_18_code
def yX9_natural : MethodName := ⟨RX9, "natural", "(II)I"⟩
abbrev cX9_ratioOf : ByteArray := prog_11_method_19_code
def yX9_ratioOf : MethodName := ⟨RX9, "ratioOf", "(II)F"⟩
abbrev cX9_fits : ByteArray := prog_11_method_20_code
def yX9_fits : MethodName := ⟨RX9, "fits", "(II)Z"⟩
abbrev cX9_badnessOf : ByteArray := prog_11_method_21_code
def yX9_badnessOf : MethodName := ⟨RX9, "badnessOf", "(II)F"⟩
abbrev cX9_isWidow : ByteArray := prog_11_method_22_code
def yX9_isWidow : MethodName := ⟨RX9, "isWidow", "(II)Z"⟩
abbrev cX9_demeritsOf : ByteArray := prog_11_method_23_code
def yX9_demeritsOf : MethodName := ⟨RX9, "demeritsOf", "(II)F"⟩
abbrev cX9_findBestOf : ByteArray := prog_11_method_24_code
def yX9_findBestOf : MethodName := ⟨RX9, "findBestOf", "(I)V"⟩
abbrev cX9_linesBack : ByteArray := prog_11_method_25_code
def yX9_linesBack : MethodName := ⟨RX9, "linesBack", "()I"⟩
abbrev cX9_findLines : ByteArray := prog_11_method_26_code
def yX9_findLines : MethodName := ⟨RX9, "findLines", "()I"⟩
abbrev cX9_isLine : ByteArray := prog_11_method_27_code
def yX9_isLine : MethodName := ⟨RX9, "isLine", "(I)Z"⟩
abbrev cX9_totalNow : ByteArray := prog_11_method_28_code
def yX9_totalNow : MethodName := ⟨RX9, "totalNow", "()F"⟩
abbrev cX9_letter : ByteArray := prog_11_method_29_code
def yX9_letter : MethodName := ⟨RX9, "letter", "(I)I"⟩
abbrev cX9_sign : ByteArray := prog_11_method_30_code
def yX9_sign : MethodName := ⟨RX9, "sign", "()I"⟩
abbrev cX9_readsDigits : ByteArray := prog_11_method_31_code
def yX9_readsDigits : MethodName := ⟨RX9, "readsDigits", "(I)Z"⟩
abbrev cX9_readsLetters : ByteArray := prog_11_method_32_code
def yX9_readsLetters : MethodName := ⟨RX9, "readsLetters", "(I)Z"⟩
abbrev cX9_readsAll : ByteArray := prog_11_method_33_code
def yX9_readsAll : MethodName := ⟨RX9, "readsAll", "(I)Z"⟩
abbrev cX9_statement : ByteArray := prog_11_method_34_code
def yX9_statement : MethodName := ⟨RX9, "statement", "()Z"⟩
abbrev cX9_comesWord : ByteArray := prog_11_method_35_code
def yX9_comesWord : MethodName := ⟨RX9, "comesWord", "(I)Z"⟩
abbrev cX9_isPatternSo : ByteArray := prog_11_method_36_code
def yX9_isPatternSo : MethodName := ⟨RX9, "isPatternSo", "(III)Z"⟩
abbrev cX9_placeOfPattern : ByteArray := prog_11_method_37_code
def yX9_placeOfPattern : MethodName := ⟨RX9, "placeOfPattern", "(II)I"⟩
abbrev cX9_comesPattern : ByteArray := prog_11_method_38_code
def yX9_comesPattern : MethodName := ⟨RX9, "comesPattern", "(IIII)V"⟩
abbrev cX9_comesPatternTold : ByteArray := prog_11_method_39_code
def yX9_comesPatternTold : MethodName := ⟨RX9, "comesPatternTold", "(III)Z"⟩
abbrev cX9_comesGlue : ByteArray := prog_11_method_40_code
def yX9_comesGlue : MethodName := ⟨RX9, "comesGlue", "(III)Z"⟩
abbrev cX9_comesNumber : ByteArray := prog_11_method_41_code
def yX9_comesNumber : MethodName := ⟨RX9, "comesNumber", "(II)Z"⟩
abbrev cX9_comesForced : ByteArray := prog_11_method_42_code
def yX9_comesForced : MethodName := ⟨RX9, "comesForced", "()Z"⟩
abbrev cX9_comesKind : ByteArray := prog_11_method_43_code
def yX9_comesKind : MethodName := ⟨RX9, "comesKind", "(II)Z"⟩
abbrev cX9_comesTold : ByteArray := prog_11_method_44_code
def yX9_comesTold : MethodName := ⟨RX9, "comesTold", "(I)Z"⟩
abbrev cX9_sheet : ByteArray := prog_11_method_45_code
def yX9_sheet : MethodName := ⟨RX9, "sheet", "()I"⟩
abbrev cX9_passes : ByteArray := prog_11_method_46_code
def yX9_passes : MethodName := ⟨RX9, "passes", "([I)V"⟩
abbrev cX9_passOne : ByteArray := prog_11_method_47_code
def yX9_passOne : MethodName := ⟨RX9, "passOne", "(I)I"⟩
abbrev cX9_passesAll : ByteArray := prog_11_method_48_code
def yX9_passesAll : MethodName := ⟨RX9, "passesAll", "(IZ)V"⟩
abbrev cX9_minds : ByteArray := prog_11_method_49_code
def yX9_minds : MethodName := ⟨RX9, "minds", "()V"⟩
abbrev cX9_forgets : ByteArray := prog_11_method_50_code
def yX9_forgets : MethodName := ⟨RX9, "forgets", "()V"⟩
abbrev cX9_remembers : ByteArray := prog_11_method_51_code
def yX9_remembers : MethodName := ⟨RX9, "remembers", "()V"⟩
abbrev cX9_back : ByteArray := prog_11_method_52_code
def yX9_back : MethodName := ⟨RX9, "back", "()I"⟩
abbrev cX9_image : ByteArray := prog_11_method_53_code
def yX9_image : MethodName := ⟨RX9, "image", "()I"⟩
abbrev cX9_on : ByteArray := prog_11_method_54_code
def yX9_on : MethodName := ⟨RX9, "on", "()I"⟩
abbrev cX9_widens : ByteArray := prog_11_method_55_code
def yX9_widens : MethodName := ⟨RX9, "widens", "(II)I"⟩
abbrev cX9_isLetterOrNone : ByteArray := prog_11_method_56_code
def yX9_isLetterOrNone : MethodName := ⟨RX9, "isLetterOrNone", "(I)Z"⟩
abbrev cX9_adds : ByteArray := prog_11_method_57_code
def yX9_adds : MethodName := ⟨RX9, "adds", "(III)I"⟩
abbrev cX9_forces : ByteArray := prog_11_method_58_code
def yX9_forces : MethodName := ⟨RX9, "forces", "(I)I"⟩
abbrev cX9_drop : ByteArray := prog_11_method_59_code
def yX9_drop : MethodName := ⟨RX9, "drop", "(I)V"⟩
abbrev cX9_drops : ByteArray := prog_11_method_60_code
def yX9_drops : MethodName := ⟨RX9, "drops", "(I)I"⟩
abbrev cX9_patterns : ByteArray := prog_11_method_61_code
def yX9_patterns : MethodName := ⟨RX9, "patterns", "(IIII)I"⟩
abbrev cX9_line : ByteArray := prog_11_method_62_code
def yX9_line : MethodName := ⟨RX9, "line", "(I)I"⟩
abbrev cX9_glue : ByteArray := prog_11_method_63_code
def yX9_glue : MethodName := ⟨RX9, "glue", "(III)I"⟩
abbrev cX9_tolerance : ByteArray := prog_11_method_64_code
def yX9_tolerance : MethodName := ⟨RX9, "tolerance", "(I)I"⟩
abbrev cX9_hyphen : ByteArray := prog_11_method_65_code
def yX9_hyphen : MethodName := ⟨RX9, "hyphen", "(I)I"⟩
abbrev cX9_widow : ByteArray := prog_11_method_66_code
def yX9_widow : MethodName := ⟨RX9, "widow", "(I)I"⟩
abbrev cX9_manner : ByteArray := prog_11_method_67_code
def yX9_manner : MethodName := ⟨RX9, "manner", "(I)I"⟩
abbrev cX9_kind : ByteArray := prog_11_method_68_code
def yX9_kind : MethodName := ⟨RX9, "kind", "(II)I"⟩
abbrev cX9_widthOf : ByteArray := prog_11_method_69_code
def yX9_widthOf : MethodName := ⟨RX9, "widthOf", "(I)I"⟩
abbrev cX9_placesOf : ByteArray := prog_11_method_70_code
def yX9_placesOf : MethodName := ⟨RX9, "placesOf", "(I)I"⟩
abbrev cX9_bits : ByteArray := prog_11_method_71_code
def yX9_bits : MethodName := ⟨RX9, "bits", "(I)I"⟩
abbrev cX9_word : ByteArray := prog_11_method_72_code
def yX9_word : MethodName := ⟨RX9, "word", "(II)I"⟩
abbrev cX9_spelt : ByteArray := prog_11_method_73_code
def yX9_spelt : MethodName := ⟨RX9, "spelt", "(II)I"⟩
abbrev cX9_values : ByteArray := prog_11_method_74_code
def yX9_values : MethodName := ⟨RX9, "values", "(II)I"⟩
abbrev cX9_pattern : ByteArray := prog_11_method_75_code
def yX9_pattern : MethodName := ⟨RX9, "pattern", "(II)I"⟩
abbrev cX9_hyphened : ByteArray := prog_11_method_76_code
def yX9_hyphened : MethodName := ⟨RX9, "hyphened", "()I"⟩
abbrev cX9_widows : ByteArray := prog_11_method_77_code
def yX9_widows : MethodName := ⟨RX9, "widows", "()I"⟩
abbrev cX9_ratioOfLine : ByteArray := prog_11_method_78_code
def yX9_ratioOfLine : MethodName := ⟨RX9, "ratioOfLine", "(I)F"⟩
abbrev cX9_loosest : ByteArray := prog_11_method_79_code
def yX9_loosest : MethodName := ⟨RX9, "loosest", "()I"⟩
abbrev cX9_tightest : ByteArray := prog_11_method_80_code
def yX9_tightest : MethodName := ⟨RX9, "tightest", "()I"⟩
abbrev cX9_lines : ByteArray := prog_11_method_81_code
def yX9_lines : MethodName := ⟨RX9, "lines", "(I)I"⟩
abbrev cX9_lineOf : ByteArray := prog_11_method_82_code
def yX9_lineOf : MethodName := ⟨RX9, "lineOf", "(II)I"⟩
abbrev cX9_ratio : ByteArray := prog_11_method_83_code
def yX9_ratio : MethodName := ⟨RX9, "ratio", "(I)I"⟩
abbrev cX9_badness : ByteArray := prog_11_method_84_code
def yX9_badness : MethodName := ⟨RX9, "badness", "(I)I"⟩
abbrev cX9_demerits : ByteArray := prog_11_method_85_code
def yX9_demerits : MethodName := ⟨RX9, "demerits", "(I)I"⟩
abbrev cX9_findByOf : ByteArray := prog_11_method_86_code
def yX9_findByOf : MethodName := ⟨RX9, "findByOf", "(I)V"⟩
abbrev cX9_byLines : ByteArray := prog_11_method_87_code
def yX9_byLines : MethodName := ⟨RX9, "byLines", "(I)I"⟩
abbrev cX9_total : ByteArray := prog_11_method_88_code
def yX9_total : MethodName := ⟨RX9, "total", "(I)I"⟩
abbrev cX9_farthestFrom : ByteArray := prog_11_method_89_code
def yX9_farthestFrom : MethodName := ⟨RX9, "farthestFrom", "(I)I"⟩
abbrev cX9_firstFit : ByteArray := prog_11_method_90_code
def yX9_firstFit : MethodName := ⟨RX9, "firstFit", "()I"⟩
abbrev cX9_linesWith : ByteArray := prog_11_method_91_code
def yX9_linesWith : MethodName := ⟨RX9, "linesWith", "(I)I"⟩
abbrev cX9_with : ByteArray := prog_11_method_92_code
def yX9_with : MethodName := ⟨RX9, "with", "(I)I"⟩
abbrev cX9_narrowest : ByteArray := prog_11_method_93_code
def yX9_narrowest : MethodName := ⟨RX9, "narrowest", "(I)I"⟩
abbrev cX9_linesWithout : ByteArray := prog_11_method_94_code
def yX9_linesWithout : MethodName := ⟨RX9, "linesWithout", "(I)I"⟩
abbrev cX9_without : ByteArray := prog_11_method_95_code
def yX9_without : MethodName := ⟨RX9, "without", "(II)I"⟩
abbrev cX9_worst : ByteArray := prog_11_method_96_code
def yX9_worst : MethodName := ⟨RX9, "worst", "()I"⟩
abbrev cX9_manners : ByteArray := prog_11_method_97_code
def yX9_manners : MethodName := ⟨RX9, "manners", "()I"⟩
abbrev cX9_two : ByteArray := prog_11_method_98_code
def yX9_two : MethodName := ⟨RX9, "two", "(II)I"⟩
abbrev cX9_divisor : ByteArray := prog_11_method_99_code
def yX9_divisor : MethodName := ⟨RX9, "divisor", "(JJ)J"⟩
abbrev cX9_partOf : ByteArray := prog_11_method_100_code
def yX9_partOf : MethodName := ⟨RX9, "partOf", "(JJI)J"⟩
abbrev cX9_lost : ByteArray := prog_11_method_101_code
def yX9_lost : MethodName := ⟨RX9, "lost", "(III)J"⟩
abbrev cX9_mean : ByteArray := prog_11_method_102_code
def yX9_mean : MethodName := ⟨RX9, "mean", "(I)J"⟩
abbrev cX9_areLinesSo : ByteArray := prog_11_method_103_code
def yX9_areLinesSo : MethodName := ⟨RX9, "areLinesSo", "()Z"⟩
abbrev cX9_whatIs : ByteArray := prog_11_method_104_code
def yX9_whatIs : MethodName := ⟨RX9, "whatIs", "(I)I"⟩
abbrev cX9_row : ByteArray := prog_11_method_105_code
def yX9_row : MethodName := ⟨RX9, "row", "(I)I"⟩
abbrev cX9_judge : ByteArray := prog_11_method_106_code
def yX9_judge : MethodName := ⟨RX9, "judge", "()I"⟩
abbrev cX9_clear : ByteArray := prog_11_method_107_code
def yX9_clear : MethodName := ⟨RX9, "clear", "()I"⟩
abbrev cX9_draw : ByteArray := prog_11_method_108_code
def yX9_draw : MethodName := ⟨RX9, "draw", "(I)I"⟩
abbrev cX9_lots : ByteArray := prog_11_method_109_code
def yX9_lots : MethodName := ⟨RX9, "lots", "(III)I"⟩
abbrev cX9_allLetters : ByteArray := prog_11_method_110_code
def yX9_allLetters : MethodName := ⟨RX9, "allLetters", "()I"⟩
abbrev cX9_count : ByteArray := prog_11_method_111_code
def yX9_count : MethodName := ⟨RX9, "count", "(I)I"⟩
def RJx145de : String := "java/io/Serializable"
def TJx145de : u_T := fun k => match k with
  | _ => ("", "", "", false)
def tyJx145de : Nat → FieldType := fun k => match k with
  | _ => .int
abbrev wsJx145de0 : List Cond := u_ws RJx145de TJx145de 0
theorem nmJx145de : ∀ a, a < 0 → ∀ b, b < 0 → a ≠ b → (TJx145de a).2.1 ≠ (TJx145de b).2.1 := by decide +kernel
theorem tyJx145de_ok : ∀ k, k < 0 → parseFieldDescriptor (TJx145de k).2.2.1 = some (tyJx145de k) := by decide +kernel
def RJx8e188 : String := "java/lang/Cloneable"
def TJx8e188 : u_T := fun k => match k with
  | _ => ("", "", "", false)
def tyJx8e188 : Nat → FieldType := fun k => match k with
  | _ => .int
abbrev wsJx8e1880 : List Cond := u_ws RJx8e188 TJx8e188 0
theorem nmJx8e188 : ∀ a, a < 0 → ∀ b, b < 0 → a ≠ b → (TJx8e188 a).2.1 ≠ (TJx8e188 b).2.1 := by decide +kernel
theorem tyJx8e188_ok : ∀ k, k < 0 → parseFieldDescriptor (TJx8e188 k).2.2.1 = some (tyJx8e188 k) := by decide +kernel
def RJxb160c : String := "java/lang/Comparable"
def TJxb160c : u_T := fun k => match k with
  | _ => ("", "", "", false)
def tyJxb160c : Nat → FieldType := fun k => match k with
  | _ => .int
abbrev wsJxb160c0 : List Cond := u_ws RJxb160c TJxb160c 0
theorem nmJxb160c : ∀ a, a < 0 → ∀ b, b < 0 → a ≠ b → (TJxb160c a).2.1 ≠ (TJxb160c b).2.1 := by decide +kernel
theorem tyJxb160c_ok : ∀ k, k < 0 → parseFieldDescriptor (TJxb160c k).2.2.1 = some (tyJxb160c k) := by decide +kernel
def RJxf58ca : String := "java/lang/Float"
def TJxf58ca : u_T := fun k => match k with
  | _ => ("", "", "", false)
def tyJxf58ca : Nat → FieldType := fun k => match k with
  | _ => .int
abbrev wsJxf58ca0 : List Cond := u_ws RJxf58ca TJxf58ca 0
theorem nmJxf58ca : ∀ a, a < 0 → ∀ b, b < 0 → a ≠ b → (TJxf58ca a).2.1 ≠ (TJxf58ca b).2.1 := by decide +kernel
theorem tyJxf58ca_ok : ∀ k, k < 0 → parseFieldDescriptor (TJxf58ca k).2.2.1 = some (tyJxf58ca k) := by decide +kernel
abbrev cJxf58ca_isNaN_12338 : ByteArray := prog_13_method_6_code
def yJxf58ca_isNaN_12338 : MethodName := ⟨RJxf58ca, "isNaN", "(F)Z"⟩
abbrev cJxf58ca_floatToIntBits_5c35a : ByteArray := prog_13_method_24_code
def yJxf58ca_floatToIntBits_5c35a : MethodName := ⟨RJxf58ca, "floatToIntBits", "(F)I"⟩
def RJ6 : String := "java/lang/Integer"
def TJ6 : u_T := fun k => match k with
  | _ => ("", "", "", false)
def tyJ6 : Nat → FieldType := fun k => match k with
  | _ => .int
abbrev wsJ60 : List Cond := u_ws RJ6 TJ6 0
theorem nmJ6 : ∀ a, a < 0 → ∀ b, b < 0 → a ≠ b → (TJ6 a).2.1 ≠ (TJ6 b).2.1 := by decide +kernel
theorem tyJ6_ok : ∀ k, k < 0 → parseFieldDescriptor (TJ6 k).2.2.1 = some (tyJ6 k) := by decide +kernel
abbrev cJ6_bitCount_0f7a4 : ByteArray := prog_14_method_49_code
def yJ6_bitCount_0f7a4 : MethodName := ⟨RJ6, "bitCount", "(I)I"⟩
def RJ9 : String := "java/lang/Math"
def TJ9 : u_T := fun k => match k with
  | _ => ("", "", "", false)
def tyJ9 : Nat → FieldType := fun k => match k with
  | _ => .int
abbrev wsJ90 : List Cond := u_ws RJ9 TJ9 0
theorem nmJ9 : ∀ a, a < 0 → ∀ b, b < 0 → a ≠ b → (TJ9 a).2.1 ≠ (TJ9 b).2.1 := by decide +kernel
theorem tyJ9_ok : ∀ k, k < 0 → parseFieldDescriptor (TJ9 k).2.2.1 = some (tyJ9 k) := by decide +kernel
abbrev cJ9_max_7cf53 : ByteArray := prog_15_method_65_code
def yJ9_max_7cf53 : MethodName := ⟨RJ9, "max", "(II)I"⟩
abbrev cJ9_min_7cf53 : ByteArray := prog_15_method_69_code
def yJ9_min_7cf53 : MethodName := ⟨RJ9, "min", "(II)I"⟩
def RJxd2413 : String := "java/lang/Number"
def TJxd2413 : u_T := fun k => match k with
  | _ => ("", "", "", false)
def tyJxd2413 : Nat → FieldType := fun k => match k with
  | _ => .int
abbrev wsJxd24130 : List Cond := u_ws RJxd2413 TJxd2413 0
theorem nmJxd2413 : ∀ a, a < 0 → ∀ b, b < 0 → a ≠ b → (TJxd2413 a).2.1 ≠ (TJxd2413 b).2.1 := by decide +kernel
theorem tyJxd2413_ok : ∀ k, k < 0 → parseFieldDescriptor (TJxd2413 k).2.2.1 = some (tyJxd2413 k) := by decide +kernel
def RJ10 : String := "java/lang/System"
def TJ10 : u_T := fun k => match k with
  | _ => ("", "", "", false)
def tyJ10 : Nat → FieldType := fun k => match k with
  | _ => .int
abbrev wsJ100 : List Cond := u_ws RJ10 TJ10 0
theorem nmJ10 : ∀ a, a < 0 → ∀ b, b < 0 → a ≠ b → (TJ10 a).2.1 ≠ (TJ10 b).2.1 := by decide +kernel
theorem tyJ10_ok : ∀ k, k < 0 → parseFieldDescriptor (TJ10 k).2.2.1 = some (tyJ10 k) := by decide +kernel
def RJxfd54e : String := "java/lang/constant/Constable"
def TJxfd54e : u_T := fun k => match k with
  | _ => ("", "", "", false)
def tyJxfd54e : Nat → FieldType := fun k => match k with
  | _ => .int
abbrev wsJxfd54e0 : List Cond := u_ws RJxfd54e TJxfd54e 0
theorem nmJxfd54e : ∀ a, a < 0 → ∀ b, b < 0 → a ≠ b → (TJxfd54e a).2.1 ≠ (TJxfd54e b).2.1 := by decide +kernel
theorem tyJxfd54e_ok : ∀ k, k < 0 → parseFieldDescriptor (TJxfd54e k).2.2.1 = some (tyJxfd54e k) := by decide +kernel
def RJx3cf43 : String := "java/lang/constant/ConstantDesc"
def TJx3cf43 : u_T := fun k => match k with
  | _ => ("", "", "", false)
def tyJx3cf43 : Nat → FieldType := fun k => match k with
  | _ => .int
abbrev wsJx3cf430 : List Cond := u_ws RJx3cf43 TJx3cf43 0
theorem nmJx3cf43 : ∀ a, a < 0 → ∀ b, b < 0 → a ≠ b → (TJx3cf43 a).2.1 ≠ (TJx3cf43 b).2.1 := by decide +kernel
theorem tyJx3cf43_ok : ∀ k, k < 0 → parseFieldDescriptor (TJx3cf43 k).2.2.1 = some (tyJx3cf43 k) := by decide +kernel
def RJ7 : String := "java/util/Arrays"
def TJ7 : u_T := fun k => match k with
  | _ => ("", "", "", false)
def tyJ7 : Nat → FieldType := fun k => match k with
  | _ => .int
abbrev wsJ70 : List Cond := u_ws RJ7 TJ7 0
theorem nmJ7 : ∀ a, a < 0 → ∀ b, b < 0 → a ≠ b → (TJ7 a).2.1 ≠ (TJ7 b).2.1 := by decide +kernel
theorem tyJ7_ok : ∀ k, k < 0 → parseFieldDescriptor (TJ7 k).2.2.1 = some (tyJ7 k) := by decide +kernel
abbrev cJ7_fill_e525d : ByteArray := prog_18_method_115_code
def yJ7_fill_e525d : MethodName := ⟨RJ7, "fill", "([FF)V"⟩
def RL : String := "LinesOfFragmentsLaw"
abbrev cL_law : ByteArray := code
def yL_law : MethodName := ⟨RL, "law", "([I)Z"⟩
abbrev vwCl : List vw_C := [(RX0, TX0, 4), (RX1, TX1, 3), (RX2, TX2, 18), (RX3, TX3, 13), (RX4, TX4, 5), (RX5, TX5, 4), (RX6, TX6, 8), (RX7, TX7, 4), (RX8, TX8, 11), (RX9, TX9, 54)]
