section
-- ===== PART A: goes FIRST, ahead of the names: the tables' words, and 'selects' of the private methods out of them =====
/-- a private method of a class that the tables say can be made, by its rows of tables_1 -/
def lw_okq (q : MethodName × Nat) : Prop := (q.1.cls ≠ "java/lang/invoke/MethodHandle" ∧ q.1.cls ≠ "java/lang/invoke/VarHandle") ∧ Cond.instantiable q.1.cls q.2 ∈ tables_1 ∧ Cond.privateMethod q.1 ∈ tables_1 ∧ Cond.instanceMethod q.1 ∈ tables_1
theorem lw_p0 : lw_okq (⟨"Manydoors", "isWriterSound", "(I)Z"⟩, 11) := ⟨⟨by decide +kernel, by decide +kernel⟩, List.mem_of_getElem? (i := 19) (by decide +kernel), List.mem_of_getElem? (i := 162) (by decide +kernel), List.mem_of_getElem? (i := 163) (by decide +kernel)⟩
theorem lw_p1 : lw_okq (⟨"Manydoors", "shownBy", "(I)LManydoors$Signs;"⟩, 11) := ⟨⟨by decide +kernel, by decide +kernel⟩, List.mem_of_getElem? (i := 19) (by decide +kernel), List.mem_of_getElem? (i := 166) (by decide +kernel), List.mem_of_getElem? (i := 167) (by decide +kernel)⟩
theorem lw_p2 : lw_okq (⟨"java/lang/Throwable", "fillInStackTrace", "(I)Ljava/lang/Throwable;"⟩, 6) := ⟨⟨by decide +kernel, by decide +kernel⟩, List.mem_of_getElem? (i := 207) (by decide +kernel), List.mem_of_getElem? (i := 205) (by decide +kernel), List.mem_of_getElem? (i := 206) (by decide +kernel)⟩
theorem lw_p3 : lw_okq (⟨"Manydoors", "sheetAt", "(I)LManydoors$Sheet;"⟩, 11) := ⟨⟨by decide +kernel, by decide +kernel⟩, List.mem_of_getElem? (i := 19) (by decide +kernel), List.mem_of_getElem? (i := 237) (by decide +kernel), List.mem_of_getElem? (i := 238) (by decide +kernel)⟩
theorem lw_p4 : lw_okq (⟨"Manydoors", "rollAt", "(I)LManydoors$Roll;"⟩, 11) := ⟨⟨by decide +kernel, by decide +kernel⟩, List.mem_of_getElem? (i := 19) (by decide +kernel), List.mem_of_getElem? (i := 249) (by decide +kernel), List.mem_of_getElem? (i := 250) (by decide +kernel)⟩
theorem lw_p5 : lw_okq (⟨"Manydoors", "pressAt", "(I)LManydoors$Press;"⟩, 11) := ⟨⟨by decide +kernel, by decide +kernel⟩, List.mem_of_getElem? (i := 19) (by decide +kernel), List.mem_of_getElem? (i := 254) (by decide +kernel), List.mem_of_getElem? (i := 255) (by decide +kernel)⟩
theorem lw_p6 : lw_okq (⟨"Manydoors", "isSheetSound", "(LManydoors$Sheet;)Z"⟩, 11) := ⟨⟨by decide +kernel, by decide +kernel⟩, List.mem_of_getElem? (i := 19) (by decide +kernel), List.mem_of_getElem? (i := 297) (by decide +kernel), List.mem_of_getElem? (i := 298) (by decide +kernel)⟩
theorem lw_p7 : lw_okq (⟨"Manydoors", "isPressSound", "(LManydoors$Press;)Z"⟩, 11) := ⟨⟨by decide +kernel, by decide +kernel⟩, List.mem_of_getElem? (i := 19) (by decide +kernel), List.mem_of_getElem? (i := 315) (by decide +kernel), List.mem_of_getElem? (i := 316) (by decide +kernel)⟩
theorem lw_p8 : lw_okq (⟨"Manydoors$Press", "endWord", "()V"⟩, 6) := ⟨⟨by decide +kernel, by decide +kernel⟩, List.mem_of_getElem? (i := 72) (by decide +kernel), List.mem_of_getElem? (i := 333) (by decide +kernel), List.mem_of_getElem? (i := 334) (by decide +kernel)⟩
theorem lw_p9 : lw_okq (⟨"Manydoors$Press", "isLineEnd", "(I)Z"⟩, 6) := ⟨⟨by decide +kernel, by decide +kernel⟩, List.mem_of_getElem? (i := 72) (by decide +kernel), List.mem_of_getElem? (i := 354) (by decide +kernel), List.mem_of_getElem? (i := 355) (by decide +kernel)⟩
theorem lw_p10 : lw_okq (⟨"Manydoors$Press", "isIndentedWord", "(II)Z"⟩, 6) := ⟨⟨by decide +kernel, by decide +kernel⟩, List.mem_of_getElem? (i := 72) (by decide +kernel), List.mem_of_getElem? (i := 358) (by decide +kernel), List.mem_of_getElem? (i := 359) (by decide +kernel)⟩
theorem lw_p11 : lw_okq (⟨"Manydoors", "withPress", "(JI)J"⟩, 11) := ⟨⟨by decide +kernel, by decide +kernel⟩, List.mem_of_getElem? (i := 19) (by decide +kernel), List.mem_of_getElem? (i := 377) (by decide +kernel), List.mem_of_getElem? (i := 378) (by decide +kernel)⟩
theorem lw_p12 : lw_okq (⟨"Manydoors", "putPart", "(ILManydoors$Signs;II)I"⟩, 11) := ⟨⟨by decide +kernel, by decide +kernel⟩, List.mem_of_getElem? (i := 19) (by decide +kernel), List.mem_of_getElem? (i := 441) (by decide +kernel), List.mem_of_getElem? (i := 442) (by decide +kernel)⟩
theorem lw_p13 : lw_okq (⟨"Manydoors", "notDone", "()I"⟩, 11) := ⟨⟨by decide +kernel, by decide +kernel⟩, List.mem_of_getElem? (i := 19) (by decide +kernel), List.mem_of_getElem? (i := 445) (by decide +kernel), List.mem_of_getElem? (i := 446) (by decide +kernel)⟩
theorem lw_p14 : lw_okq (⟨"Manydoors", "done", "(I)I"⟩, 11) := ⟨⟨by decide +kernel, by decide +kernel⟩, List.mem_of_getElem? (i := 19) (by decide +kernel), List.mem_of_getElem? (i := 455) (by decide +kernel), List.mem_of_getElem? (i := 456) (by decide +kernel)⟩
theorem lw_p15 : lw_okq (⟨"Manydoors", "loadText", "(III)V"⟩, 11) := ⟨⟨by decide +kernel, by decide +kernel⟩, List.mem_of_getElem? (i := 19) (by decide +kernel), List.mem_of_getElem? (i := 472) (by decide +kernel), List.mem_of_getElem? (i := 473) (by decide +kernel)⟩
def lw_privs_1 : List (MethodName × Nat) := [(⟨"Manydoors", "isWriterSound", "(I)Z"⟩, 11), (⟨"Manydoors", "shownBy", "(I)LManydoors$Signs;"⟩, 11), (⟨"java/lang/Throwable", "fillInStackTrace", "(I)Ljava/lang/Throwable;"⟩, 6), (⟨"Manydoors", "sheetAt", "(I)LManydoors$Sheet;"⟩, 11), (⟨"Manydoors", "rollAt", "(I)LManydoors$Roll;"⟩, 11), (⟨"Manydoors", "pressAt", "(I)LManydoors$Press;"⟩, 11), (⟨"Manydoors", "isSheetSound", "(LManydoors$Sheet;)Z"⟩, 11), (⟨"Manydoors", "isPressSound", "(LManydoors$Press;)Z"⟩, 11), (⟨"Manydoors$Press", "endWord", "()V"⟩, 6), (⟨"Manydoors$Press", "isLineEnd", "(I)Z"⟩, 6), (⟨"Manydoors$Press", "isIndentedWord", "(II)Z"⟩, 6), (⟨"Manydoors", "withPress", "(JI)J"⟩, 11), (⟨"Manydoors", "putPart", "(ILManydoors$Signs;II)I"⟩, 11), (⟨"Manydoors", "notDone", "()I"⟩, 11), (⟨"Manydoors", "done", "(I)I"⟩, 11), (⟨"Manydoors", "loadText", "(III)V"⟩, 11)]
theorem lw_r1 : ∀ q ∈ lw_privs_1, lw_okq q := List.forall_mem_cons.mpr ⟨lw_p0, List.forall_mem_cons.mpr ⟨lw_p1, List.forall_mem_cons.mpr ⟨lw_p2, List.forall_mem_cons.mpr ⟨lw_p3, List.forall_mem_cons.mpr ⟨lw_p4, List.forall_mem_cons.mpr ⟨lw_p5, List.forall_mem_cons.mpr ⟨lw_p6, List.forall_mem_cons.mpr ⟨lw_p7, List.forall_mem_cons.mpr ⟨lw_p8, List.forall_mem_cons.mpr ⟨lw_p9, List.forall_mem_cons.mpr ⟨lw_p10, List.forall_mem_cons.mpr ⟨lw_p11, List.forall_mem_cons.mpr ⟨lw_p12, List.forall_mem_cons.mpr ⟨lw_p13, List.forall_mem_cons.mpr ⟨lw_p14, List.forall_mem_cons.mpr ⟨lw_p15, fun _ h => absurd h List.not_mem_nil⟩⟩⟩⟩⟩⟩⟩⟩⟩⟩⟩⟩⟩⟩⟩⟩
theorem lw_p16 : lw_okq (⟨"Manydoors", "slotAt", "(I)LManydoors$Signs;"⟩, 11) := ⟨⟨by decide +kernel, by decide +kernel⟩, List.mem_of_getElem? (i := 19) (by decide +kernel), List.mem_of_getElem? (i := 483) (by decide +kernel), List.mem_of_getElem? (i := 484) (by decide +kernel)⟩
theorem lw_p17 : lw_okq (⟨"Manydoors", "rowAt", "(I)LManydoors$Signs;"⟩, 11) := ⟨⟨by decide +kernel, by decide +kernel⟩, List.mem_of_getElem? (i := 19) (by decide +kernel), List.mem_of_getElem? (i := 495) (by decide +kernel), List.mem_of_getElem? (i := 496) (by decide +kernel)⟩
theorem lw_p18 : lw_okq (⟨"Manydoors", "insertPiece", "(LManydoors$Sheet;I)I"⟩, 11) := ⟨⟨by decide +kernel, by decide +kernel⟩, List.mem_of_getElem? (i := 19) (by decide +kernel), List.mem_of_getElem? (i := 518) (by decide +kernel), List.mem_of_getElem? (i := 519) (by decide +kernel)⟩
theorem lw_p19 : lw_okq (⟨"Manydoors", "loadNumber", "(I)V"⟩, 11) := ⟨⟨by decide +kernel, by decide +kernel⟩, List.mem_of_getElem? (i := 19) (by decide +kernel), List.mem_of_getElem? (i := 533) (by decide +kernel), List.mem_of_getElem? (i := 534) (by decide +kernel)⟩
theorem lw_p20 : lw_okq (⟨"Manydoors", "feedSigns", "(LManydoors$Press;LManydoors$Signs;)I"⟩, 11) := ⟨⟨by decide +kernel, by decide +kernel⟩, List.mem_of_getElem? (i := 19) (by decide +kernel), List.mem_of_getElem? (i := 672) (by decide +kernel), List.mem_of_getElem? (i := 673) (by decide +kernel)⟩
theorem lw_p21 : lw_okq (⟨"Manydoors$Signs", "hasAt", "(ILManydoors$Signs;)Z"⟩, 2) := ⟨⟨by decide +kernel, by decide +kernel⟩, List.mem_of_getElem? (i := 34) (by decide +kernel), List.mem_of_getElem? (i := 816) (by decide +kernel), List.mem_of_getElem? (i := 817) (by decide +kernel)⟩
theorem lw_p22 : lw_okq (⟨"ManydoorsModel", "start", "(ZI)Z"⟩, 14) := ⟨⟨by decide +kernel, by decide +kernel⟩, List.mem_of_getElem? (i := 912) (by decide +kernel), List.mem_of_getElem? (i := 976) (by decide +kernel), List.mem_of_getElem? (i := 977) (by decide +kernel)⟩
theorem lw_p23 : lw_okq (⟨"ManydoorsModel", "refuse", "(ZI)Z"⟩, 14) := ⟨⟨by decide +kernel, by decide +kernel⟩, List.mem_of_getElem? (i := 912) (by decide +kernel), List.mem_of_getElem? (i := 980) (by decide +kernel), List.mem_of_getElem? (i := 981) (by decide +kernel)⟩
theorem lw_p24 : lw_okq (⟨"ManydoorsModel", "put", "(I[I)I"⟩, 14) := ⟨⟨by decide +kernel, by decide +kernel⟩, List.mem_of_getElem? (i := 912) (by decide +kernel), List.mem_of_getElem? (i := 990) (by decide +kernel), List.mem_of_getElem? (i := 991) (by decide +kernel)⟩
theorem lw_p25 : lw_okq (⟨"ManydoorsModel", "of", "(I)[I"⟩, 14) := ⟨⟨by decide +kernel, by decide +kernel⟩, List.mem_of_getElem? (i := 912) (by decide +kernel), List.mem_of_getElem? (i := 994) (by decide +kernel), List.mem_of_getElem? (i := 995) (by decide +kernel)⟩
theorem lw_p26 : lw_okq (⟨"ManydoorsModel", "page", "(I)[I"⟩, 14) := ⟨⟨by decide +kernel, by decide +kernel⟩, List.mem_of_getElem? (i := 912) (by decide +kernel), List.mem_of_getElem? (i := 998) (by decide +kernel), List.mem_of_getElem? (i := 999) (by decide +kernel)⟩
theorem lw_p27 : lw_okq (⟨"ManydoorsModel", "deny", "()I"⟩, 14) := ⟨⟨by decide +kernel, by decide +kernel⟩, List.mem_of_getElem? (i := 912) (by decide +kernel), List.mem_of_getElem? (i := 1014) (by decide +kernel), List.mem_of_getElem? (i := 1015) (by decide +kernel)⟩
theorem lw_p28 : lw_okq (⟨"ManydoorsModel", "step", "(I[I)V"⟩, 14) := ⟨⟨by decide +kernel, by decide +kernel⟩, List.mem_of_getElem? (i := 912) (by decide +kernel), List.mem_of_getElem? (i := 1024) (by decide +kernel), List.mem_of_getElem? (i := 1025) (by decide +kernel)⟩
theorem lw_p29 : lw_okq (⟨"ManydoorsModel", "did", "(I)I"⟩, 14) := ⟨⟨by decide +kernel, by decide +kernel⟩, List.mem_of_getElem? (i := 912) (by decide +kernel), List.mem_of_getElem? (i := 1028) (by decide +kernel), List.mem_of_getElem? (i := 1029) (by decide +kernel)⟩
theorem lw_p30 : lw_okq (⟨"ManydoorsModel", "isNoPlace", "(II)Z"⟩, 14) := ⟨⟨by decide +kernel, by decide +kernel⟩, List.mem_of_getElem? (i := 912) (by decide +kernel), List.mem_of_getElem? (i := 1058) (by decide +kernel), List.mem_of_getElem? (i := 1059) (by decide +kernel)⟩
theorem lw_p31 : lw_okq (⟨"ManydoorsModel", "putIn", "(II[I)I"⟩, 14) := ⟨⟨by decide +kernel, by decide +kernel⟩, List.mem_of_getElem? (i := 912) (by decide +kernel), List.mem_of_getElem? (i := 1062) (by decide +kernel), List.mem_of_getElem? (i := 1063) (by decide +kernel)⟩
def lw_privs_2 : List (MethodName × Nat) := [(⟨"Manydoors", "slotAt", "(I)LManydoors$Signs;"⟩, 11), (⟨"Manydoors", "rowAt", "(I)LManydoors$Signs;"⟩, 11), (⟨"Manydoors", "insertPiece", "(LManydoors$Sheet;I)I"⟩, 11), (⟨"Manydoors", "loadNumber", "(I)V"⟩, 11), (⟨"Manydoors", "feedSigns", "(LManydoors$Press;LManydoors$Signs;)I"⟩, 11), (⟨"Manydoors$Signs", "hasAt", "(ILManydoors$Signs;)Z"⟩, 2), (⟨"ManydoorsModel", "start", "(ZI)Z"⟩, 14), (⟨"ManydoorsModel", "refuse", "(ZI)Z"⟩, 14), (⟨"ManydoorsModel", "put", "(I[I)I"⟩, 14), (⟨"ManydoorsModel", "of", "(I)[I"⟩, 14), (⟨"ManydoorsModel", "page", "(I)[I"⟩, 14), (⟨"ManydoorsModel", "deny", "()I"⟩, 14), (⟨"ManydoorsModel", "step", "(I[I)V"⟩, 14), (⟨"ManydoorsModel", "did", "(I)I"⟩, 14), (⟨"ManydoorsModel", "isNoPlace", "(II)Z"⟩, 14), (⟨"ManydoorsModel", "putIn", "(II[I)I"⟩, 14)]
theorem lw_r2 : ∀ q ∈ lw_privs_2, lw_okq q := List.forall_mem_cons.mpr ⟨lw_p16, List.forall_mem_cons.mpr ⟨lw_p17, List.forall_mem_cons.mpr ⟨lw_p18, List.forall_mem_cons.mpr ⟨lw_p19, List.forall_mem_cons.mpr ⟨lw_p20, List.forall_mem_cons.mpr ⟨lw_p21, List.forall_mem_cons.mpr ⟨lw_p22, List.forall_mem_cons.mpr ⟨lw_p23, List.forall_mem_cons.mpr ⟨lw_p24, List.forall_mem_cons.mpr ⟨lw_p25, List.forall_mem_cons.mpr ⟨lw_p26, List.forall_mem_cons.mpr ⟨lw_p27, List.forall_mem_cons.mpr ⟨lw_p28, List.forall_mem_cons.mpr ⟨lw_p29, List.forall_mem_cons.mpr ⟨lw_p30, List.forall_mem_cons.mpr ⟨lw_p31, fun _ h => absurd h List.not_mem_nil⟩⟩⟩⟩⟩⟩⟩⟩⟩⟩⟩⟩⟩⟩⟩⟩
theorem lw_p32 : lw_okq (⟨"ManydoorsModel", "stepsOf", "(IZ)I"⟩, 14) := ⟨⟨by decide +kernel, by decide +kernel⟩, List.mem_of_getElem? (i := 912) (by decide +kernel), List.mem_of_getElem? (i := 1106) (by decide +kernel), List.mem_of_getElem? (i := 1107) (by decide +kernel)⟩
theorem lw_p33 : lw_okq (⟨"ManydoorsModel", "go", "(IIII)I"⟩, 14) := ⟨⟨by decide +kernel, by decide +kernel⟩, List.mem_of_getElem? (i := 912) (by decide +kernel), List.mem_of_getElem? (i := 1110) (by decide +kernel), List.mem_of_getElem? (i := 1111) (by decide +kernel)⟩
theorem lw_p34 : lw_okq (⟨"ManydoorsModel", "feedBy", "(I[I)I"⟩, 14) := ⟨⟨by decide +kernel, by decide +kernel⟩, List.mem_of_getElem? (i := 912) (by decide +kernel), List.mem_of_getElem? (i := 1154) (by decide +kernel), List.mem_of_getElem? (i := 1155) (by decide +kernel)⟩
theorem lw_p35 : lw_okq (⟨"ManydoorsModel", "wordOf", "(I)[I"⟩, 14) := ⟨⟨by decide +kernel, by decide +kernel⟩, List.mem_of_getElem? (i := 912) (by decide +kernel), List.mem_of_getElem? (i := 1241) (by decide +kernel), List.mem_of_getElem? (i := 1242) (by decide +kernel)⟩
theorem lw_p36 : lw_okq (⟨"ManydoorsModel", "pressTold", "(II[I)I"⟩, 14) := ⟨⟨by decide +kernel, by decide +kernel⟩, List.mem_of_getElem? (i := 912) (by decide +kernel), List.mem_of_getElem? (i := 1252) (by decide +kernel), List.mem_of_getElem? (i := 1253) (by decide +kernel)⟩
theorem lw_p37 : lw_okq (⟨"ManydoorsModel", "houseOf", "(I)I"⟩, 14) := ⟨⟨by decide +kernel, by decide +kernel⟩, List.mem_of_getElem? (i := 912) (by decide +kernel), List.mem_of_getElem? (i := 1263) (by decide +kernel), List.mem_of_getElem? (i := 1264) (by decide +kernel)⟩
theorem lw_p38 : lw_okq (⟨"ManydoorsModel", "isWhole", "([I[I)Z"⟩, 14) := ⟨⟨by decide +kernel, by decide +kernel⟩, List.mem_of_getElem? (i := 912) (by decide +kernel), List.mem_of_getElem? (i := 1275) (by decide +kernel), List.mem_of_getElem? (i := 1276) (by decide +kernel)⟩
def lw_privs_3 : List (MethodName × Nat) := [(⟨"ManydoorsModel", "stepsOf", "(IZ)I"⟩, 14), (⟨"ManydoorsModel", "go", "(IIII)I"⟩, 14), (⟨"ManydoorsModel", "feedBy", "(I[I)I"⟩, 14), (⟨"ManydoorsModel", "wordOf", "(I)[I"⟩, 14), (⟨"ManydoorsModel", "pressTold", "(II[I)I"⟩, 14), (⟨"ManydoorsModel", "houseOf", "(I)I"⟩, 14), (⟨"ManydoorsModel", "isWhole", "([I[I)Z"⟩, 14)]
theorem lw_r3 : ∀ q ∈ lw_privs_3, lw_okq q := List.forall_mem_cons.mpr ⟨lw_p32, List.forall_mem_cons.mpr ⟨lw_p33, List.forall_mem_cons.mpr ⟨lw_p34, List.forall_mem_cons.mpr ⟨lw_p35, List.forall_mem_cons.mpr ⟨lw_p36, List.forall_mem_cons.mpr ⟨lw_p37, List.forall_mem_cons.mpr ⟨lw_p38, fun _ h => absurd h List.not_mem_nil⟩⟩⟩⟩⟩⟩⟩
def lw_privs : List (MethodName × Nat) := lw_privs_1 ++ (lw_privs_2 ++ (lw_privs_3))
def lw_tbl : List Cond := k2_sels lw_privs ++ tables_1
theorem lw_privs_ok : ∀ q ∈ lw_privs, lw_okq q := by
  show ∀ q ∈ lw_privs_1 ++ (lw_privs_2 ++ (lw_privs_3)), lw_okq q
  exact List.forall_mem_append.mpr ⟨lw_r1, List.forall_mem_append.mpr ⟨lw_r2, lw_r3⟩⟩
end
section
/-! ===== BEGIN words of one list among another's, by their places ===== -/
theorem goodIn_r {big : List Cond} (ws : List Cond) (ps : List Nat) (hp : ws = ps.filterMap (fun i => big[i]?)) (h : ws.all goodWord = true) : GoodIn big ws := by
  intro w hw
  have h1 := List.all_eq_true.mp h w hw
  rw [hp] at hw
  obtain ⟨i, -, hi⟩ := List.mem_filterMap.mp hw
  have hm : w ∈ big := by first | exact List.mem_of_getElem? hi | exact List.getElem?_mem hi
  exact ⟨hm, good_of_word h1⟩
theorem goodIn_app {big a b : List Cond} (ha : GoodIn big a) (hb : GoodIn big b) : GoodIn big (a ++ b) := fun w h => (List.mem_append.mp h).elim (ha w) (hb w)
theorem goodIn_ca {big a b : List Cond} {c : Cond} (ha : GoodIn big (c :: a)) (hb : GoodIn big b) : GoodIn big (c :: (a ++ b)) := fun w h => (List.mem_cons.mp h).elim (fun e => ha w (List.mem_cons.mpr (Or.inl e))) (fun h => (List.mem_append.mp h).elim (fun h => ha w (List.mem_cons.mpr (Or.inr h))) (hb w))
theorem goodIn_sub {big ws : List Cond} (hm : ∀ w ∈ ws, w ∈ big) (h : ws.all goodWord = true) : GoodIn big ws := fun w hw => ⟨hm w hw, good_of_word (List.all_eq_true.mp h w hw)⟩
/-! ===== END ===== -/
/-! ===== BEGIN exceptions that leave a method, and their catching by the caller (launches without stack traces) ===== -/
section VXA
/-! The laws vx_back, vx_callV, vx_callS, vx_callSW, vx_throw0, vx_throwS follow proofs of the library, with one case more: JvmDerived/Free/Laws.lean (Back.of_free), Shelf42/LK1.lean (callV, callS), Shelf/KitTraced.lean (throwNew0V, throwNewS). -/
/-- where a method has thrown q: the class by its name, the cell, what was written, the world -/
def vx_T (XC : String → State → State → Prop) (st : State) (q : Addr) (t : State) (mc ms : Nat) (free : Addr → Prop) : Prop :=
  ∃ (E : String) (ce : Cell) (L : List Loc), XC E st t ∧ t.heap[q]? = some ce ∧ ce.vm = .none ∧ st.vm.findClass E = some ce.cls ∧ st.WarmedH t.vm ∧ st.sameButNew ({ t with vm := st.vm } : State) L mc ms ∧ ∀ z ∈ L, free z.base
def vx_Q (Qc : Array Value → State → Outcome → State → Prop) (XC : String → State → State → Prop) (mc ms : Nat) (free : Addr → Prop) : Array Value → State → Outcome → State → Prop := fun a st o t =>
  (Qc a st o t ∧ ∃ L, FrameEnd st o t L mc ms ∧ ∀ q ∈ L, free q.base) ∨ ∃ q, o = .threw q ∧ vx_T XC st q t mc ms free
/-- a callee that returns or throws -/
def vx_Met (l : Launch) (y : MethodName) (ws : List Cond) (rm : Room) (Pc : Array Value → State → Prop) (Qc : Array Value → State → Outcome → State → Prop) (XC : String → State → State → Prop) (mc ms : Nat) (free : Addr → Prop) : Prop :=
  MetFree l y (headSpec ws rm) Pc (fun _ _ _ _ _ => True) (vx_Q Qc XC mc ms free)
def vx_Post (XC : String → State → State → Prop) (mc ms : Nat) (free : Addr → Prop) : Pt → Array Value → Addr → Pt → Prop := fun A a q B =>
  ∃ (g : JFrame) (mk : MethodId) (t : State) (L : List Loc) (E : String) (ce : Cell), B.U.heap = t.heap ∧ B.U.vm = t.vm ∧ XC E (A.U.calling g mk a) t ∧ t.heap[q]? = some ce ∧ ce.vm = .none ∧ A.U.vm.findClass E = some ce.cls ∧ B.locs = A.locs ++ L ∧ (∀ z ∈ L, free z.base) ∧ B.cells = A.cells + mc ∧ B.slots = A.slots + ms
def vx_Back (l : Launch) (R : Room) (p : Program) (e : Env) (below : List Frame) (s : State) (sargs : Array Value) (y : MethodName) (len W9 : Nat)
    (Pre : Pt → Array Value → Prop) (Post : Pt → Array Value → Option Value → Pt → Prop) (PostX : Pt → Array Value → Addr → Pt → Prop) : Prop :=
  ∀ (m : MethodId) (meth : Method) (c : Code) (A : Pt) (g : JFrame) (ig : Instr) (mk : MethodId) (a : Array Value),
    Stand p l e R s m sargs below meth c A.U A.locs A.cells A.slots → g.method = m → g.locals.size = c.maxLocals → decode c.code g.pc = .ok (ig, len) →
    2 * g.monitorRoom + (g.stack.map fun v => v.category).sum ≤ W9 → A.U.methodNamed? y = some mk → Pre A a →
    (∃ (v : Option Value) (B : Pt), Stand p l e R s m sargs below meth c B.U B.locs B.cells B.slots ∧ Post A a v B ∧
      Steps p.tables e below (doInvoke e (A.U.setTop g) [] mk a).1 (B.U.setTop { g with pc := g.pc + len, stack := v.toList ++ g.stack })) ∨
    (∃ (q : Addr) (B : Pt), Stand p l e R s m sargs below meth c B.U B.locs B.cells B.slots ∧ PostX A a q B ∧
      Steps p.tables e below (doInvoke e (A.U.setTop g) [] mk a).1 ((B.U.setTop g).pushFrame (.throwing q)))
section Payer
variable {l : Launch} {R : Room} {p : Program} {e : Env} {below : List Frame} {s : State} {sargs : Array Value} {y : MethodName} {len W9 : Nat}
theorem vx_back {ws : List Cond} {rm : Room} {Pc : Array Value → State → Prop} {Qc : Array Value → State → Outcome → State → Prop} {XC : String → State → State → Prop} {mc ms : Nat} {free : Addr → Prop} {bytes : ByteArray} {maxL : Nat} {ret : Option FieldType}
    (hM : vx_Met l y ws rm Pc Qc XC mc ms free) (hblind : FrameBlind Pc) (hrc : rm.cells = mc) (hrs : rm.slots = ms)
    (hframes : rm.frames + 1 ≤ R.frames) (hlocals : W9 + (maxL + 11) + rm.locals ≤ R.locals)
    (hws : ∀ w ∈ ws, ∀ a' U, s.WarmedH U.vm → w.before a' U = true) (hcode : Cond.code y bytes maxL ret ∈ ws) (hinit : ∀ a' U, s.WarmedH U.vm → (Cond.initialized y.cls).before a' U = true) :
    vx_Back l R p e below s sargs y len W9 (PreOf R mc ms Pc) (PostOf Qc mc ms free) (vx_Post XC mc ms free) := by
  intro m meth c A g ig mk a X hg hsize hdg hW hn hp
  have h1 : (headSpec ws rm).pre.before a A.U = true := atoms_intro fun w hw => hws w hw _ _ X.warmed
  have h2 : (Cond.code y bytes maxL ret).before a A.U = true := hws _ hcode _ _ X.warmed
  have h3 : (Cond.initialized y.cls).before a A.U = true := hinit _ _ X.warmed
  have h4 : A.cells + (headSpec ws rm).room.cells ≤ R.cells := by rw [show (headSpec ws rm).room.cells = mc from hrc]; exact hp.1
  have h5 : A.slots + (headSpec ws rm).room.slots ≤ R.slots := by rw [show (headSpec ws rm).room.slots = ms from hrs]; exact hp.2.1
  have hPc : Pc a (A.U.calling g mk a) := hblind _ _ _ _ hp.2.2
  obtain ⟨U, Ls, c0, s0⟩ := A
  dsimp only [Pt.U, Pt.locs, Pt.cells, Pt.slots] at h1 h2 h3 h4 h5 X hn hPc ⊢
  obtain ⟨methY, cY, hmY, hcY, -, hlY, -, -, -, -⟩ := Cond.code_spec hn h2
  obtain ⟨kY, hkY, -⟩ := className_of_methodNamed hn
  have hinitY : kY.init = .initialized := Cond.initialized_spec (findClass_of_methodNamed hn) hkY h3
  have h : At U g.method c below := by rw [hg]; exact X.here
  have hlocals9 : W9 + (maxL + 11) + (headSpec ws rm).room.locals ≤ R.locals := hlocals
  have happ : (headSpec ws rm).appliesLoose y e.platform (U.calling g mk a) = true :=
    Spec.appliesLoose_calling (g := g) h hdg hn hkY hinitY
      (X.room_calling (g := g) (R' := (headSpec ws rm).room) hsize hmY hcY hframes (by rw [hlY]; omega) h4 h5) h1
  obtain ⟨mid, hmid⟩ := h.above
  have hfr : (U.setTop g).frames = (.java g :: mid) ++ below := by rw [State.frames_setTop' g h.top, hmid]; rfl
  obtain ⟨o, s₂, hsteps, -, hend, hq⟩ := Steps.callFree hM p X.admits X.cas X.clock (acts := []) hfr happ hPc trivial
  have hq' : vx_Q Qc XC mc ms free a (U.calling g mk a) o s₂ := hq
  rw [State.frames_setTop' g h.top] at hend
  obtain ⟨g₀, hg0⟩ := Option.isSome_iff_exists.mp h.top
  obtain ⟨r, hr⟩ := State.topJava?_eq_some.mp hg0
  have hr' : (({ U with heap := s₂.heap, slotsUsed := s₂.slotsUsed } : State).setVm s₂.vm).frames = .java g₀ :: r := hr
  rcases hq' with ⟨hqc, L, hfe, hL⟩ | ⟨q, rfl, E, ce, L, hx, hce, hcv, hcl, hW₂, hsm, hL⟩
  · obtain ⟨⟨v, rfl⟩, hW₂, e2, q2, q3, q4, q5, q6⟩ := id hfe
    have e3 : s₂ = ({ (U.calling g mk a).setFrames s₂.frames with heap := s₂.heap, slotsUsed := s₂.slotsUsed } : State).setVm s₂.vm := by
      have : s₂ = ({ s₂ with vm := (U.calling g mk a).vm } : State).setVm s₂.vm := rfl
      rw [e2] at this
      exact this
    obtain ⟨c₂, i₂, len₂, hc₂, hd₂, hf₂⟩ := hend
    have hW' : U.WarmedH s₂.vm := hW₂
    have hcc : c₂ = c := by
      have h1 : s₂.code? g.method = U.code? g.method := by
        rw [State.code?_eq, State.code?_eq, hW'.alike.method?]
      exact Option.some.inj (hc₂.symm.trans (h1.trans h.code))
    subst hcc
    have hlen : len₂ = len := by rw [hdg] at hd₂; cases hd₂; rfl
    subst hlen
    have hs₂ : s₂ = (({ U with heap := s₂.heap, slotsUsed := s₂.slotsUsed } : State).setVm s₂.vm).setTop { g with pc := g.pc + len₂, stack := v.toList ++ g.stack } := by
      refine e3.trans ?_
      rw [hf₂, State.calling_eq h.top, State.setFrames_setFrames, State.setTop_of_frames _ hr', hr]
      rfl
    have hsame : U.sameButNew ({ U with heap := s₂.heap, slotsUsed := s₂.slotsUsed } : State) L mc ms := by
      refine ⟨?_, q2, q3, q4, q5, q6⟩
      obtain ⟨t, ht, -⟩ := State.frames_cons hr
      show ({ U with heap := s₂.heap, slotsUsed := s₂.slotsUsed } : State) = { U.setFrames U.frames with heap := s₂.heap, slotsUsed := s₂.slotsUsed }
      rw [State.setFrames_self ht]
    subst hg
    refine Or.inl ⟨v, ⟨(({ U with heap := s₂.heap, slotsUsed := s₂.slotsUsed } : State).setVm s₂.vm), Ls ++ L, c0 + mc, s0 + ms⟩,
      ⟨X.admits, X.cas, X.clock, X.frames, X.room, X.hears, X.method, X.code, (X.here.setHeapUsed s₂.heap s₂.slotsUsed).setVm hW'.alike, X.tail, State.WarmedH.trans X.warmed hW', X.limits, X.bytes, X.same.trans (hsame.setVm s.vm)⟩,
      ⟨g, mk, s₂, L, rfl, rfl, hqc, rfl, hL, rfl, rfl⟩, ?_⟩
    show Steps p.tables e below _ ((({ U with heap := s₂.heap, slotsUsed := s₂.slotsUsed } : State).setVm s₂.vm).setTop { g with pc := g.pc + len₂, stack := v.toList ++ g.stack })
    rw [← hs₂]
    exact hsteps
  · obtain ⟨e2, q2, q3, q4, q5, q6⟩ := id hsm
    have e3 : s₂ = ({ (U.calling g mk a).setFrames s₂.frames with heap := s₂.heap, slotsUsed := s₂.slotsUsed } : State).setVm s₂.vm := by
      have : s₂ = ({ s₂ with vm := (U.calling g mk a).vm } : State).setVm s₂.vm := rfl
      rw [e2] at this
      exact this
    have hf₂ : s₂.frames = .throwing q :: .java g :: U.frames.tail := hend
    have hW' : U.WarmedH s₂.vm := hW₂
    have hs₂ : s₂ = ((({ U with heap := s₂.heap, slotsUsed := s₂.slotsUsed } : State).setVm s₂.vm).setTop g).pushFrame (.throwing q) := by
      refine e3.trans ?_
      rw [hf₂, State.calling_eq h.top, State.setFrames_setFrames, State.pushFrame, State.frames_setTop _ hr', State.setTop_of_frames _ hr', State.setFrames_setFrames, hr]
      rfl
    have hsame : U.sameButNew ({ U with heap := s₂.heap, slotsUsed := s₂.slotsUsed } : State) L mc ms := by
      refine ⟨?_, q2, q3, q4, q5, q6⟩
      obtain ⟨t, ht, -⟩ := State.frames_cons hr
      show ({ U with heap := s₂.heap, slotsUsed := s₂.slotsUsed } : State) = { U.setFrames U.frames with heap := s₂.heap, slotsUsed := s₂.slotsUsed }
      rw [State.setFrames_self ht]
    subst hg
    refine Or.inr ⟨q, ⟨(({ U with heap := s₂.heap, slotsUsed := s₂.slotsUsed } : State).setVm s₂.vm), Ls ++ L, c0 + mc, s0 + ms⟩,
      ⟨X.admits, X.cas, X.clock, X.frames, X.room, X.hears, X.method, X.code, (X.here.setHeapUsed s₂.heap s₂.slotsUsed).setVm hW'.alike, X.tail, State.WarmedH.trans X.warmed hW', X.limits, X.bytes, X.same.trans (hsame.setVm s.vm)⟩,
      ⟨g, mk, s₂, L, E, ce, rfl, rfl, hx, hce, hcv, hcl, rfl, hL, rfl, rfl⟩, ?_⟩
    show Steps p.tables e below _ (((({ U with heap := s₂.heap, slotsUsed := s₂.slotsUsed } : State).setVm s₂.vm).setTop g).pushFrame (.throwing q))
    rw [← hs₂]
    exact hsteps
end Payer
section Calls
variable {p : Program} {l : Launch} {e : Env} {R : Room} {s : State} {m : MethodId} {args : Array Value} {below : List Frame} {meth : Method} {c : Code} {T : State} {locs : List Loc} {cells slots : Nat}
theorem vx_callV (X : Stand p l e R s m args below meth c T locs cells slots) (hexec : p.tables.exec = Jvm.exec) {own C : String} {index : Nat} {y : MethodName} {bytes : ByteArray} {maxL : Nat} {ret : Option FieldType}
    (hown : s.vm.findClass own = some m.cls) (hlink : (Cond.methodLink own index y).before args s = true) (hinst : (Cond.instanceMethod y).before args s = true) (hsel : (Cond.selects C y y).before args s = true)
    (hcode : (Cond.code y bytes maxL ret).before args s = true) (hy : y.cls ≠ "java/lang/invoke/MethodHandle" ∧ y.cls ≠ "java/lang/invoke/VarHandle")
    {W9 : Nat} {Pre : Pt → Array Value → Prop} {Post : Pt → Array Value → Option Value → Pt → Prop} {PostX : Pt → Array Value → Addr → Pt → Prop} (hK : vx_Back l R p e below s args y 3 W9 Pre Post PostX)
    {b : Addr} {cellB : Cell} (hcell : T.heap[b]? = some cellB) (hobj : cellB.vm.isStatics = false) (hcls : s.vm.findClass C = some cellB.cls)
    {g : JFrame} (hg : g.method = m) (hsize : g.locals.size = c.maxLocals) {argsL rest : List Value} (hlen : ∀ sig, parseMethodDescriptor y.desc = some sig → argsL.length = sig.parameters.length)
    (hstack : g.stack = argsL.reverse ++ .ref b :: rest) (hW : 2 * g.monitorRoom + (rest.map fun v => v.category).sum ≤ W9) (hdg : decode c.code g.pc = .ok (.invokevirtual index, 3))
    (hpre : ∀ vm₁, s.WarmedH vm₁ → Pre ⟨T.setVm vm₁, locs, cells, slots⟩ (Value.ref b :: argsL).toArray) :
    (∃ (v : Option Value) (vm₁ : Vm) (B : Pt), s.WarmedH vm₁ ∧ Stand p l e R s m args below meth c B.U B.locs B.cells B.slots ∧ Post ⟨T.setVm vm₁, locs, cells, slots⟩ (Value.ref b :: argsL).toArray v B ∧
      ∀ target, Steps p.tables e below (B.U.setTop { g with pc := g.pc + 3, stack := v.toList ++ rest }) target → Steps p.tables e below (T.setTop g) target) ∨
    (∃ (q : Addr) (vm₁ : Vm) (B : Pt), s.WarmedH vm₁ ∧ Stand p l e R s m args below meth c B.U B.locs B.cells B.slots ∧ PostX ⟨T.setVm vm₁, locs, cells, slots⟩ (Value.ref b :: argsL).toArray q B ∧
      Steps p.tables e below (T.setTop g) ((B.U.setTop { g with stack := rest }).pushFrame (.throwing q))) := by
  obtain ⟨mk, methM, hnamed, hmethM, hstM, habM⟩ := Cond.instanceMethod_spec hinst
  obtain ⟨methM', cM, hmethM', -, -, -, -, -, -, hsigM⟩ := Cond.code_spec hnamed hcode
  cases hmethM.symm.trans hmethM'
  obtain ⟨c2, r2, m2, q1, q2, q3, q4, kP, hkP, hkPi⟩ := Cond.selects_spec hsel
  cases hcls.symm.trans q1
  cases (State.methodFound?_of_named hnamed hy).symm.trans q2
  cases hnamed.symm.trans q3
  have hselP : selectMethod e.platform s.vm cellB.cls mk = .method mk := by rw [Launch.admits_selectMethod X.admits]; exact q4
  obtain ⟨vm₁, X₁, hstep₁⟩ := X.invokevirtual hexec hown hlink hnamed hmethM hstM hkP hkPi hy (a := b) (cell := cellB) hcell
    (fun z h => by rw [h] at hobj; cases hobj) hselP hmethM habM hkP hkPi (g := g) hg (argsL := argsL) (rest := rest) (hlen _ hsigM) hstack hdg
  rcases hK m meth c ⟨T.setVm vm₁, locs, cells, slots⟩ { g with stack := rest } (.invokevirtual index) mk (Value.ref b :: argsL).toArray X₁ hg hsize hdg hW (X₁.named hnamed) (hpre vm₁ X₁.warmed) with ⟨v, B, X', hpost, hsteps⟩ | ⟨q, B, X', hpost, hsteps⟩
  · exact Or.inl ⟨v, vm₁, B, X₁.warmed, X', hpost, fun target h => hstep₁ _ fun acts => by rw [doInvoke_state]; exact hsteps.trans h⟩
  · exact Or.inr ⟨q, vm₁, B, X₁.warmed, X', hpost, hstep₁ _ fun acts => by rw [doInvoke_state]; exact hsteps⟩
theorem vx_callS (X : Stand p l e R s m args below meth c T locs cells slots) (hexec : p.tables.exec = Jvm.exec) {own : String} {index : Nat} {y : MethodName} {bytes : ByteArray} {maxL : Nat} {ret : Option FieldType}
    (hown : s.vm.findClass own = some m.cls) (hlink : (Cond.methodLink own index y).before args s = true) (hstat : (Cond.static y).before args s = true) (hinit : (Cond.initialized y.cls).before args s = true)
    (hcode : (Cond.code y bytes maxL ret).before args s = true) (hy : y.cls ≠ "java/lang/invoke/MethodHandle" ∧ y.cls ≠ "java/lang/invoke/VarHandle")
    {W9 : Nat} {Pre : Pt → Array Value → Prop} {Post : Pt → Array Value → Option Value → Pt → Prop} {PostX : Pt → Array Value → Addr → Pt → Prop} (hK : vx_Back l R p e below s args y 3 W9 Pre Post PostX)
    {g : JFrame} (hg : g.method = m) (hsize : g.locals.size = c.maxLocals) {argsL rest : List Value} (hlen : ∀ sig, parseMethodDescriptor y.desc = some sig → argsL.length = sig.parameters.length)
    (hstack : g.stack = argsL.reverse ++ rest) (hW : 2 * g.monitorRoom + (rest.map fun v => v.category).sum ≤ W9) (hdg : decode c.code g.pc = .ok (.invokestatic index, 3))
    (hpre : ∀ vm₁, s.WarmedH vm₁ → Pre ⟨T.setVm vm₁, locs, cells, slots⟩ argsL.toArray) :
    (∃ (v : Option Value) (vm₁ : Vm) (B : Pt), s.WarmedH vm₁ ∧ Stand p l e R s m args below meth c B.U B.locs B.cells B.slots ∧ Post ⟨T.setVm vm₁, locs, cells, slots⟩ argsL.toArray v B ∧
      ∀ target, Steps p.tables e below (B.U.setTop { g with pc := g.pc + 3, stack := v.toList ++ rest }) target → Steps p.tables e below (T.setTop g) target) ∨
    (∃ (q : Addr) (vm₁ : Vm) (B : Pt), s.WarmedH vm₁ ∧ Stand p l e R s m args below meth c B.U B.locs B.cells B.slots ∧ PostX ⟨T.setVm vm₁, locs, cells, slots⟩ argsL.toArray q B ∧
      Steps p.tables e below (T.setTop g) ((B.U.setTop { g with stack := rest }).pushFrame (.throwing q))) := by
  obtain ⟨mk, hnamed⟩ := Cond.code_named hcode
  obtain ⟨methM, cM, hmethM, -, -, -, -, -, -, hsigM⟩ := Cond.code_spec hnamed hcode
  have hstatic : methM.isStatic = true := Cond.static_spec hnamed hmethM hstat
  obtain ⟨kP, hkP, -⟩ := className_of_methodNamed hnamed
  have hinitP : kP.init = .initialized := Cond.initialized_spec (findClass_of_methodNamed hnamed) hkP hinit
  obtain ⟨vm₁, X₁, hstep₁⟩ := X.invokestatic hexec hown hlink hnamed hmethM hstatic hkP hinitP hy (g := g) hg (argsL := argsL) (rest := rest) (hlen _ hsigM) hstack hdg
  rcases hK m meth c ⟨T.setVm vm₁, locs, cells, slots⟩ { g with stack := rest } (.invokestatic index) mk argsL.toArray X₁ hg hsize hdg hW (X₁.named hnamed) (hpre vm₁ X₁.warmed) with ⟨v, B, X', hpost, hsteps⟩ | ⟨q, B, X', hpost, hsteps⟩
  · exact Or.inl ⟨v, vm₁, B, X₁.warmed, X', hpost, fun target h => hstep₁ _ fun acts => by rw [doInvoke_state]; exact hsteps.trans h⟩
  · exact Or.inr ⟨q, vm₁, B, X₁.warmed, X', hpost, hstep₁ _ fun acts => by rw [doInvoke_state]; exact hsteps⟩
end Calls
theorem vx_cls {s : State} {T : State} {vm₁ : Vm} {E : String} {k : ClassId} (hW : s.WarmedH vm₁) (h : (T.setVm vm₁).vm.findClass E = some k) : s.vm.findClass E = some k := by
  have h1 : vm₁.findClass E = some k := h
  rw [hW.alike.findClass] at h1
  exact h1
/-- the method's frame g, with q thrown over it -/
def vx_W (p : Program) (l : Launch) (e : Env) (R : Room) (s : State) (m : MethodId) (args : Array Value) (below : List Frame) (meth : Method) (c : Code) (H : Heap) (locs : List Loc) (cells slots : Nat) (Q : State → Prop) (g : JFrame) (q : Addr) : Prop :=
  ∀ T : State, T.heap = H → Stand p l e R s m args below meth c T locs cells slots → ∃ t, Steps p.tables e below ((T.setTop g).pushFrame (.throwing q)) t ∧ Q t
def vx_Run (p : Program) (l : Launch) (e : Env) (R : Room) (s : State) (m : MethodId) (args : Array Value) (below : List Frame) (meth : Method) (c : Code) (H : Heap) (locs : List Loc) (cells slots mc ms : Nat) (g : JFrame) (rest : List Value) (Qa : State → Outcome → State → Prop) (XC : String → State → State → Prop) (free : Addr → Prop) : Prop :=
  ∀ T : State, T.heap = H → Stand p l e R s m args below meth c T locs cells slots →
    (∃ (v : Option Value) (st₀ t T' : State) (L : List Loc), st₀.heap = H ∧ Stand p l e R s m args below meth c T' (locs ++ L) (cells + mc) (slots + ms) ∧ (∀ q ∈ L, free q.base) ∧ T'.heap = t.heap ∧ T'.vm = t.vm ∧ Qa st₀ (.returned v) t ∧
      Goes p e below T g T' { g with pc := g.pc + 3, stack := v.toList ++ rest }) ∨
    (∃ (q : Addr) (st₀ t T' : State) (L : List Loc) (E : String) (ce : Cell), st₀.heap = H ∧ Stand p l e R s m args below meth c T' (locs ++ L) (cells + mc) (slots + ms) ∧ (∀ z ∈ L, free z.base) ∧ T'.heap = t.heap ∧ T'.vm = t.vm ∧ XC E st₀ t ∧ t.heap[q]? = some ce ∧ ce.vm = .none ∧ s.vm.findClass E = some ce.cls ∧
      Steps p.tables e below (T.setTop g) ((T'.setTop { g with stack := rest }).pushFrame (.throwing q)))
def vx_X {S : Type} (px : S → Prop) (B : String → S → State → Prop) (A : Nat → Prop) : String → State → State → Prop := fun E st t => ∃ u : S, px u ∧ B E u t ∧ va_F A st t
section Runs
variable {p : Program} {l : Launch} {e : Env} {R : Room} {s : State} {m : MethodId} {args : Array Value} {below : List Frame} {meth : Method} {c : Code} {H : Heap} {locs : List Loc} {cells slots : Nat}
variable {y : MethodName} {bytes cc : ByteArray} {maxL nL mc ms n index : Nat} {ret : Option FieldType} {ws : List Cond} {rm : Room} {Pc : Array Value → State → Prop} {Qc : Array Value → State → Outcome → State → Prop} {XC : String → State → State → Prop} {free : Addr → Prop} {Ts : List Cond} {own C : String} {b : Addr} {As rest : List Value} {g : JFrame}
theorem vx_callBack (cb : CallB R s args own index y bytes maxL ret ws rm mc ms n) (hM : vx_Met l y ws rm Pc Qc XC mc ms free) (hbl : FrameBlind Pc) : vx_Back l R p e below s args y 3 8 (PreOf R mc ms Pc) (PostOf Qc mc ms free) (vx_Post XC mc ms free) := by
  obtain ⟨hrc, hrs, hfr, hlo, hws, hcw, -, hini, -⟩ := cb
  exact vx_back (bytes := bytes) (maxL := maxL) (ret := ret) hM hbl hrc hrs hfr hlo hws hcw (fun a' U hW => word_at hW (Or.inl (by first | rfl | simp [Cond.onTables, Cond.keeps, Cond.steady])) hini)
theorem vx_runV (S : CallFix p m c cc nL s args Ts own) (hM : vx_Met l y ws rm Pc Qc XC mc ms free) (cw : CallW R s args own C index y bytes maxL ret ws rm mc ms n) (hp : PreV s H C b Pc As)
    (hg : g.method = m) (hn : As.length = n) (hsize : g.locals.size = nL) (hstack : g.stack = As.reverse ++ .ref b :: rest) (hW : 2 * g.monitorRoom + (rest.map fun v => v.category).sum ≤ 8) (hdg : decode cc g.pc = .ok (.invokevirtual index, 3)) (hf : cells + mc ≤ R.cells ∧ slots + ms ≤ R.slots) :
    vx_Run p l e R s m args below meth c H locs cells slots mc ms g rest (Qc (Value.ref b :: As).toArray) XC free := by
  have hK : vx_Back l R p e below s args y 3 8 (PreOf R mc ms Pc) (PostOf Qc mc ms free) (vx_Post XC mc ms free) := vx_callBack cw.1 hM hp.1
  obtain ⟨⟨-, -, -, -, -, -, hcode, -, hy, hlen, hl⟩, hin, hse⟩ := cw
  obtain ⟨hx, hb, hml, ho, -⟩ := S
  obtain ⟨-, ⟨cellB, hcB, hoB, hclB⟩, hPc⟩ := hp
  intro T hT X
  rcases vx_callV X hx (C := C) (bytes := bytes) (maxL := maxL) (ret := ret) ho hl hin hse hcode hy hK (by rw [hT]; exact hcB) hoB hclB hg (hsize.trans hml.symm) (argsL := As) (rest := rest) (fun sig h => hn.trans (hlen sig h)) hstack hW (by rw [hb]; exact hdg)
    (fun vm₁ hW₁ => ⟨hf.1, hf.2, hPc (T.setVm vm₁) hT hW₁⟩) with ⟨v, vm₁, ⟨U', l2, c2, s2⟩, hW₁, X', ⟨g', mk, t, L, e1, e2, hq, h1, hL, h2, h3⟩, st⟩ | ⟨q, vm₁, ⟨U', l2, c2, s2⟩, hW₁, X', ⟨g', mk, t, L, E, ce, e1, e2, hq, hce, hcv, hcl, h1, hL, h2, h3⟩, st⟩
  · dsimp only [Pt.U, Pt.locs, Pt.cells, Pt.slots] at X' e1 e2 h1 h2 h3 st
    subst h1; subst h2; subst h3
    exact Or.inl ⟨v, (T.setVm vm₁).calling g' mk (Value.ref b :: As).toArray, t, U', L, hT, X', hL, e1, e2, hq, st⟩
  · dsimp only [Pt.U, Pt.locs, Pt.cells, Pt.slots] at X' e1 e2 h1 h2 h3 st hcl
    subst h1; subst h2; subst h3
    exact Or.inr ⟨q, (T.setVm vm₁).calling g' mk (Value.ref b :: As).toArray, t, U', L, E, ce, hT, X', hL, e1, e2, hq, hce, hcv, vx_cls hW₁ hcl, st⟩
theorem vx_runS (S : CallFix p m c cc nL s args Ts own) (hM : vx_Met l y ws rm Pc Qc XC mc ms free) (cw : CallB R s args own index y bytes maxL ret ws rm mc ms n ∧ (Cond.static y).before args s = true) (hp : PreS s H Pc As)
    (hg : g.method = m) (hn : As.length = n) (hsize : g.locals.size = nL) (hstack : g.stack = As.reverse ++ rest) (hW : 2 * g.monitorRoom + (rest.map fun v => v.category).sum ≤ 8) (hdg : decode cc g.pc = .ok (.invokestatic index, 3)) (hf : cells + mc ≤ R.cells ∧ slots + ms ≤ R.slots) :
    vx_Run p l e R s m args below meth c H locs cells slots mc ms g rest (Qc As.toArray) XC free := by
  have hK : vx_Back l R p e below s args y 3 8 (PreOf R mc ms Pc) (PostOf Qc mc ms free) (vx_Post XC mc ms free) := vx_callBack cw.1 hM hp.1
  obtain ⟨⟨-, -, -, -, -, -, hcode, hini, hy, hlen, hl⟩, hstt⟩ := cw
  obtain ⟨hx, hb, hml, ho, -⟩ := S
  intro T hT X
  rcases vx_callS X hx (bytes := bytes) (maxL := maxL) (ret := ret) ho hl hstt hini hcode hy hK hg (hsize.trans hml.symm) (argsL := As) (rest := rest) (fun sig h => hn.trans (hlen sig h)) hstack hW (by rw [hb]; exact hdg)
    (fun vm₁ hW₁ => ⟨hf.1, hf.2, hp.2 (T.setVm vm₁) hT hW₁⟩) with ⟨v, vm₁, ⟨U', l2, c2, s2⟩, hW₁, X', ⟨g', mk, t, L, e1, e2, hq, h1, hL, h2, h3⟩, st⟩ | ⟨q, vm₁, ⟨U', l2, c2, s2⟩, hW₁, X', ⟨g', mk, t, L, E, ce, e1, e2, hq, hce, hcv, hcl, h1, hL, h2, h3⟩, st⟩
  · dsimp only [Pt.U, Pt.locs, Pt.cells, Pt.slots] at X' e1 e2 h1 h2 h3 st
    subst h1; subst h2; subst h3
    exact Or.inl ⟨v, (T.setVm vm₁).calling g' mk As.toArray, t, U', L, hT, X', hL, e1, e2, hq, st⟩
  · dsimp only [Pt.U, Pt.locs, Pt.cells, Pt.slots] at X' e1 e2 h1 h2 h3 st hcl
    subst h1; subst h2; subst h3
    exact Or.inr ⟨q, (T.setVm vm₁).calling g' mk As.toArray, t, U', L, E, ce, hT, X', hL, e1, e2, hq, hce, hcv, vx_cls hW₁ hcl, st⟩
end Runs
section Rows
variable {p : Program} {l : Launch} {e : Env} {R : Room} {s : State} {m : MethodId} {args : Array Value} {below : List Frame} {meth : Method} {c : Code} {H : Heap} {locs : List Loc} {cells slots : Nat} {Q : State → Prop}
variable {mc ms : Nat} {free : Addr → Prop} {A0 A1 : Nat → Prop} {H0 : Heap} {a : Array Value} {pc : Nat} {ls : Array Slot} {st0 rest : List Value}
theorem vx_keep {st₀ t T' : State} {L : List Loc} (h0 : st₀.heap = H) (e1 : T'.heap = t.heap) (hS : va_S A0 H0 H locs) (hA : ∀ q, q < H.size → A1 q → A0 q) (hf : ∀ q, free q → A0 q) (hL : ∀ q ∈ L, free q.base) (hF : va_F A1 st₀ t) :
    H.size ≤ T'.heap.size ∧ (∀ q : Nat, q < H.size → ¬ A1 q → T'.heap[q]? = H[q]?) ∧ va_S A0 H0 T'.heap (locs ++ L) := by
  obtain ⟨hz, hk⟩ := hF
  rw [h0] at hz hk
  exact ⟨by rw [e1]; exact hz, fun q h1 h2 => by rw [e1]; exact hk q h1 h2,
    ⟨Nat.le_trans hS.1 (by rw [e1]; exact hz), fun q h1 h2 => by rw [e1, hk q (Nat.lt_of_lt_of_le h1 hS.1) (fun z => h2 (hA q (Nat.lt_of_lt_of_le h1 hS.1) z))]; exact hS.2.1 q h1 h2, fun q hq => by
      rcases List.mem_append.mp hq with h | h
      · exact hS.2.2 q h
      · exact hf _ (hL q h)⟩⟩
theorem vx_calli {S SX : Type} {post : Int32 → S → Prop} {px : SX → Prop} {B : S → State → Prop} {BX : String → SX → State → Prop} {AX : Nat → Prop} (hr : vx_Run p l e R s m args below meth c H locs cells slots mc ms (F0 m pc ls st0) rest (va_Qi post B A1 a) (vx_X px BX AX) free) (hS : va_S A0 H0 H locs) (hA : ∀ q, q < H.size → A1 q → A0 q) (hf : ∀ q, free q → A0 q) (hAX : ∀ q, q < H.size → AX q → A0 q)
    (kx : ∀ (E : String) (ce : Cell) (q9 : Addr) (u : SX) (t : State) (H1 : Heap) (locs1 : List Loc), t.heap = H1 → s.vm.Alike t.vm → px u → BX E u t → H.size ≤ H1.size → (∀ q : Nat, q < H.size → ¬ AX q → H1[q]? = H[q]?) → va_S A0 H0 H1 locs1 → H1[q9]? = some ce → ce.vm = .none → s.vm.findClass E = some ce.cls → vx_W p l e R s m args below meth c H1 locs1 (cells + mc) (slots + ms) Q (F0 m pc ls rest) q9)
    (kk : ∀ (r : Int32) (u : S) (t : State) (H1 : Heap) (locs1 : List Loc), t.heap = H1 → s.vm.Alike t.vm → post r u → B u t → H.size ≤ H1.size → (∀ q : Nat, q < H.size → ¬ A1 q → H1[q]? = H[q]?) → va_S A0 H0 H1 locs1 → W p l e R s m args below meth c H1 locs1 (cells + mc) (slots + ms) Q (F0 m (pc + 3) ls (.int r :: rest))) : W p l e R s m args below meth c H locs cells slots Q (F0 m pc ls st0) := by
  intro T hT X
  rcases hr T hT X with ⟨v, st₀, t, T', L, h0, X', hL, e1, e2, ⟨⟨r, u, hv, hp, hb⟩, hF⟩, st⟩ | ⟨q, st₀, t, T', L, E, ce, h0, X', hL, e1, e2, ⟨u, hp, hb, hF⟩, hce, hcv, hcl, st⟩
  · cases hv
    obtain ⟨k1, k2, k3⟩ := vx_keep h0 e1 hS hA hf hL hF
    obtain ⟨t2, a1, b1⟩ := kk r u t T'.heap (locs ++ L) e1.symm (by rw [← e2]; exact X'.warmed.alike) hp hb k1 k2 k3 T' rfl X'
    exact ⟨t2, st t2 a1, b1⟩
  · obtain ⟨k1, k2, k3⟩ := vx_keep h0 e1 hS hAX hf hL hF
    obtain ⟨t2, a1, b1⟩ := kx E ce q u t T'.heap (locs ++ L) e1.symm (by rw [← e2]; exact X'.warmed.alike) hp hb k1 k2 k3 (by rw [e1]; exact hce) hcv hcl T' rfl X'
    exact ⟨t2, st.trans a1, b1⟩
theorem vx_calll {S SX : Type} {post : Int64 → S → Prop} {px : SX → Prop} {B : S → State → Prop} {BX : String → SX → State → Prop} {AX : Nat → Prop} (hr : vx_Run p l e R s m args below meth c H locs cells slots mc ms (F0 m pc ls st0) rest (va_Ql post B A1 a) (vx_X px BX AX) free) (hS : va_S A0 H0 H locs) (hA : ∀ q, q < H.size → A1 q → A0 q) (hf : ∀ q, free q → A0 q) (hAX : ∀ q, q < H.size → AX q → A0 q)
    (kx : ∀ (E : String) (ce : Cell) (q9 : Addr) (u : SX) (t : State) (H1 : Heap) (locs1 : List Loc), t.heap = H1 → s.vm.Alike t.vm → px u → BX E u t → H.size ≤ H1.size → (∀ q : Nat, q < H.size → ¬ AX q → H1[q]? = H[q]?) → va_S A0 H0 H1 locs1 → H1[q9]? = some ce → ce.vm = .none → s.vm.findClass E = some ce.cls → vx_W p l e R s m args below meth c H1 locs1 (cells + mc) (slots + ms) Q (F0 m pc ls rest) q9)
    (kk : ∀ (r : Int64) (u : S) (t : State) (H1 : Heap) (locs1 : List Loc), t.heap = H1 → s.vm.Alike t.vm → post r u → B u t → H.size ≤ H1.size → (∀ q : Nat, q < H.size → ¬ A1 q → H1[q]? = H[q]?) → va_S A0 H0 H1 locs1 → W p l e R s m args below meth c H1 locs1 (cells + mc) (slots + ms) Q (F0 m (pc + 3) ls (.long r :: rest))) : W p l e R s m args below meth c H locs cells slots Q (F0 m pc ls st0) := by
  intro T hT X
  rcases hr T hT X with ⟨v, st₀, t, T', L, h0, X', hL, e1, e2, ⟨⟨r, u, hv, hp, hb⟩, hF⟩, st⟩ | ⟨q, st₀, t, T', L, E, ce, h0, X', hL, e1, e2, ⟨u, hp, hb, hF⟩, hce, hcv, hcl, st⟩
  · cases hv
    obtain ⟨k1, k2, k3⟩ := vx_keep h0 e1 hS hA hf hL hF
    obtain ⟨t2, a1, b1⟩ := kk r u t T'.heap (locs ++ L) e1.symm (by rw [← e2]; exact X'.warmed.alike) hp hb k1 k2 k3 T' rfl X'
    exact ⟨t2, st t2 a1, b1⟩
  · obtain ⟨k1, k2, k3⟩ := vx_keep h0 e1 hS hAX hf hL hF
    obtain ⟨t2, a1, b1⟩ := kx E ce q u t T'.heap (locs ++ L) e1.symm (by rw [← e2]; exact X'.warmed.alike) hp hb k1 k2 k3 (by rw [e1]; exact hce) hcv hcl T' rfl X'
    exact ⟨t2, st.trans a1, b1⟩
theorem vx_callf {S SX : Type} {post : UInt32 → S → Prop} {px : SX → Prop} {B : S → State → Prop} {BX : String → SX → State → Prop} {AX : Nat → Prop} (hr : vx_Run p l e R s m args below meth c H locs cells slots mc ms (F0 m pc ls st0) rest (va_Qf post B A1 a) (vx_X px BX AX) free) (hS : va_S A0 H0 H locs) (hA : ∀ q, q < H.size → A1 q → A0 q) (hf : ∀ q, free q → A0 q) (hAX : ∀ q, q < H.size → AX q → A0 q)
    (kx : ∀ (E : String) (ce : Cell) (q9 : Addr) (u : SX) (t : State) (H1 : Heap) (locs1 : List Loc), t.heap = H1 → s.vm.Alike t.vm → px u → BX E u t → H.size ≤ H1.size → (∀ q : Nat, q < H.size → ¬ AX q → H1[q]? = H[q]?) → va_S A0 H0 H1 locs1 → H1[q9]? = some ce → ce.vm = .none → s.vm.findClass E = some ce.cls → vx_W p l e R s m args below meth c H1 locs1 (cells + mc) (slots + ms) Q (F0 m pc ls rest) q9)
    (kk : ∀ (r : UInt32) (u : S) (t : State) (H1 : Heap) (locs1 : List Loc), t.heap = H1 → s.vm.Alike t.vm → post r u → B u t → H.size ≤ H1.size → (∀ q : Nat, q < H.size → ¬ A1 q → H1[q]? = H[q]?) → va_S A0 H0 H1 locs1 → W p l e R s m args below meth c H1 locs1 (cells + mc) (slots + ms) Q (F0 m (pc + 3) ls (.float r :: rest))) : W p l e R s m args below meth c H locs cells slots Q (F0 m pc ls st0) := by
  intro T hT X
  rcases hr T hT X with ⟨v, st₀, t, T', L, h0, X', hL, e1, e2, ⟨⟨r, u, hv, hp, hb⟩, hF⟩, st⟩ | ⟨q, st₀, t, T', L, E, ce, h0, X', hL, e1, e2, ⟨u, hp, hb, hF⟩, hce, hcv, hcl, st⟩
  · cases hv
    obtain ⟨k1, k2, k3⟩ := vx_keep h0 e1 hS hA hf hL hF
    obtain ⟨t2, a1, b1⟩ := kk r u t T'.heap (locs ++ L) e1.symm (by rw [← e2]; exact X'.warmed.alike) hp hb k1 k2 k3 T' rfl X'
    exact ⟨t2, st t2 a1, b1⟩
  · obtain ⟨k1, k2, k3⟩ := vx_keep h0 e1 hS hAX hf hL hF
    obtain ⟨t2, a1, b1⟩ := kx E ce q u t T'.heap (locs ++ L) e1.symm (by rw [← e2]; exact X'.warmed.alike) hp hb k1 k2 k3 (by rw [e1]; exact hce) hcv hcl T' rfl X'
    exact ⟨t2, st.trans a1, b1⟩
theorem vx_calld {S SX : Type} {post : UInt64 → S → Prop} {px : SX → Prop} {B : S → State → Prop} {BX : String → SX → State → Prop} {AX : Nat → Prop} (hr : vx_Run p l e R s m args below meth c H locs cells slots mc ms (F0 m pc ls st0) rest (va_Qd post B A1 a) (vx_X px BX AX) free) (hS : va_S A0 H0 H locs) (hA : ∀ q, q < H.size → A1 q → A0 q) (hf : ∀ q, free q → A0 q) (hAX : ∀ q, q < H.size → AX q → A0 q)
    (kx : ∀ (E : String) (ce : Cell) (q9 : Addr) (u : SX) (t : State) (H1 : Heap) (locs1 : List Loc), t.heap = H1 → s.vm.Alike t.vm → px u → BX E u t → H.size ≤ H1.size → (∀ q : Nat, q < H.size → ¬ AX q → H1[q]? = H[q]?) → va_S A0 H0 H1 locs1 → H1[q9]? = some ce → ce.vm = .none → s.vm.findClass E = some ce.cls → vx_W p l e R s m args below meth c H1 locs1 (cells + mc) (slots + ms) Q (F0 m pc ls rest) q9)
    (kk : ∀ (r : UInt64) (u : S) (t : State) (H1 : Heap) (locs1 : List Loc), t.heap = H1 → s.vm.Alike t.vm → post r u → B u t → H.size ≤ H1.size → (∀ q : Nat, q < H.size → ¬ A1 q → H1[q]? = H[q]?) → va_S A0 H0 H1 locs1 → W p l e R s m args below meth c H1 locs1 (cells + mc) (slots + ms) Q (F0 m (pc + 3) ls (.double r :: rest))) : W p l e R s m args below meth c H locs cells slots Q (F0 m pc ls st0) := by
  intro T hT X
  rcases hr T hT X with ⟨v, st₀, t, T', L, h0, X', hL, e1, e2, ⟨⟨r, u, hv, hp, hb⟩, hF⟩, st⟩ | ⟨q, st₀, t, T', L, E, ce, h0, X', hL, e1, e2, ⟨u, hp, hb, hF⟩, hce, hcv, hcl, st⟩
  · cases hv
    obtain ⟨k1, k2, k3⟩ := vx_keep h0 e1 hS hA hf hL hF
    obtain ⟨t2, a1, b1⟩ := kk r u t T'.heap (locs ++ L) e1.symm (by rw [← e2]; exact X'.warmed.alike) hp hb k1 k2 k3 T' rfl X'
    exact ⟨t2, st t2 a1, b1⟩
  · obtain ⟨k1, k2, k3⟩ := vx_keep h0 e1 hS hAX hf hL hF
    obtain ⟨t2, a1, b1⟩ := kx E ce q u t T'.heap (locs ++ L) e1.symm (by rw [← e2]; exact X'.warmed.alike) hp hb k1 k2 k3 (by rw [e1]; exact hce) hcv hcl T' rfl X'
    exact ⟨t2, st.trans a1, b1⟩
theorem vx_callv {S SX : Type} {post : S → Prop} {px : SX → Prop} {B : S → State → Prop} {BX : String → SX → State → Prop} {AX : Nat → Prop} (hr : vx_Run p l e R s m args below meth c H locs cells slots mc ms (F0 m pc ls st0) rest (va_Qv post B A1 a) (vx_X px BX AX) free) (hS : va_S A0 H0 H locs) (hA : ∀ q, q < H.size → A1 q → A0 q) (hf : ∀ q, free q → A0 q) (hAX : ∀ q, q < H.size → AX q → A0 q)
    (kx : ∀ (E : String) (ce : Cell) (q9 : Addr) (u : SX) (t : State) (H1 : Heap) (locs1 : List Loc), t.heap = H1 → s.vm.Alike t.vm → px u → BX E u t → H.size ≤ H1.size → (∀ q : Nat, q < H.size → ¬ AX q → H1[q]? = H[q]?) → va_S A0 H0 H1 locs1 → H1[q9]? = some ce → ce.vm = .none → s.vm.findClass E = some ce.cls → vx_W p l e R s m args below meth c H1 locs1 (cells + mc) (slots + ms) Q (F0 m pc ls rest) q9)
    (kk : ∀ (u : S) (t : State) (H1 : Heap) (locs1 : List Loc), t.heap = H1 → s.vm.Alike t.vm → post u → B u t → H.size ≤ H1.size → (∀ q : Nat, q < H.size → ¬ A1 q → H1[q]? = H[q]?) → va_S A0 H0 H1 locs1 → W p l e R s m args below meth c H1 locs1 (cells + mc) (slots + ms) Q (F0 m (pc + 3) ls (rest))) : W p l e R s m args below meth c H locs cells slots Q (F0 m pc ls st0) := by
  intro T hT X
  rcases hr T hT X with ⟨v, st₀, t, T', L, h0, X', hL, e1, e2, ⟨⟨u, hv, hp, hb⟩, hF⟩, st⟩ | ⟨q, st₀, t, T', L, E, ce, h0, X', hL, e1, e2, ⟨u, hp, hb, hF⟩, hce, hcv, hcl, st⟩
  · cases hv
    obtain ⟨k1, k2, k3⟩ := vx_keep h0 e1 hS hA hf hL hF
    obtain ⟨t2, a1, b1⟩ := kk u t T'.heap (locs ++ L) e1.symm (by rw [← e2]; exact X'.warmed.alike) hp hb k1 k2 k3 T' rfl X'
    exact ⟨t2, st t2 a1, b1⟩
  · obtain ⟨k1, k2, k3⟩ := vx_keep h0 e1 hS hAX hf hL hF
    obtain ⟨t2, a1, b1⟩ := kx E ce q u t T'.heap (locs ++ L) e1.symm (by rw [← e2]; exact X'.warmed.alike) hp hb k1 k2 k3 (by rw [e1]; exact hce) hcv hcl T' rfl X'
    exact ⟨t2, st.trans a1, b1⟩
/-- caught by the row x of this method's table; the rows ahead don't take it -/
theorem vx_catch {own name : String} {E : String} {ce : Cell} {q : Addr} (hown : s.vm.findClass own = some m.cls) (pre : List ExceptionTableEntry) (x : ExceptionTableEntry) (suf : List ExceptionTableEntry) (hsplit : c.exceptionTable.toList = pre ++ x :: suf)
    (hpass : ∀ z ∈ pre, covers z pc = false ∨ (z.catchType ≠ 0 ∧ ∃ nm : String, (Cond.classLink own z.catchType nm).before args s = true ∧ va_Nc E nm s)) (hx : covers x pc = true) (h0 : x.catchType ≠ 0)
    (hlink : (Cond.classLink own x.catchType name).before args s = true) (hcast : (Cond.castable E name).before args s = true) (hcell : H[q]? = some ce) (hv : ce.vm = .none) (hcl : s.vm.findClass E = some ce.cls)
    (kk : W p l e R s m args below meth c H locs cells slots Q (F0 m x.handlerPc ls [.ref q])) : vx_W p l e R s m args below meth c H locs cells slots Q (F0 m pc ls rest) q := by
  intro T hT X
  have hpl : e.platform.magicAccessors = ({} : Platform).magicAccessors := by rw [X.admits.platform]
  obtain ⟨c3, c4, hc3, hc4, hasg⟩ := Cond.castable_spec hcast
  cases Option.some.inj (hc3.symm.trans hcl)
  obtain ⟨c5, hc5, hcl5⟩ := Cond.classLink_spec hown hlink e.platform hpl
  cases Option.some.inj (hc4.symm.trans hc5)
  obtain ⟨vm', X', st⟩ := X.thenCaughtThrough q (g := F0 m pc ls rest) rfl (Steps.refl _) (by rw [hT]; exact hcell) (by rw [hv]; rfl) (by obtain ⟨k9, h9, -⟩ := Vm.findClass_spec hcl; exact ⟨k9, h9⟩) pre x suf hsplit
    (fun z hz => by
      rcases hpass z hz with h | ⟨hz0, nm, hl1, hn1⟩
      · exact Or.inl h
      · obtain ⟨c6, hc6, hcl6⟩ := Cond.classLink_spec hown hl1 e.platform hpl
        obtain ⟨a8, b8, h1, h2, h3⟩ := hn1
        cases Option.some.inj (h1.symm.trans hcl)
        cases Option.some.inj (h2.symm.trans hc6)
        exact Or.inr ⟨hz0, _, hcl6, h3⟩) hx (Or.inr ⟨h0, c4, hcl5, hasg⟩)
  obtain ⟨t, a1, b1⟩ := kk (T.setVm vm') hT X'
  exact ⟨t, st.trans a1, b1⟩
end Rows
section Ends
variable {p : Program} {l : Launch} {e : Env} {R : Room} {s : State} {m : MethodId} {args : Array Value} {below : List Frame} {meth : Method} {c : Code} {H : Heap} {locs : List Loc} {cells slots : Nat} {Q : State → Prop}
variable {mc ms : Nat} {free : Addr → Prop} {A0 A1 : Nat → Prop} {H0 : Heap} {a : Array Value} {ls : Array Slot} {st0 rest : List Value}
variable {Qc : Array Value → State → Outcome → State → Prop} {XC : String → State → State → Prop}
/-- what a body that may throw owes at its end -/
def vx_MQ (below : List Frame) (Qc : Array Value → State → Outcome → State → Prop) (XC : String → State → State → Prop) (a : Array Value) (s : State) (mc ms : Nat) (free : Addr → Prop) : State → Prop := fun t =>
  ∃ o, t.status = .running ∧ Ended t below o ∧ vx_Q Qc XC mc ms free a s o t
theorem vx_ret {g : JFrame} {mc ms : Nat} (k : W p l e R s m args below meth c H locs cells slots (MQ below Qc args s mc ms free) g) : W p l e R s m args below meth c H locs cells slots (vx_MQ below Qc XC args s mc ms free) g := by
  intro T hT X
  obtain ⟨t, a1, o, b1, b2, b3, b4⟩ := k T hT X
  exact ⟨t, a1, o, b1, b2, Or.inl ⟨b3, b4⟩⟩
/-- not caught here: it goes on to the caller -/
theorem vx_widen {g : JFrame} {q : Addr} {k n : Nat} (h1 : cells ≤ k) (h2 : slots ≤ n) (kk : vx_W p l e R s m args below meth c H locs k n Q g q) : vx_W p l e R s m args below meth c H locs cells slots Q g q := fun T hT X => kk T hT (stand_widen X h1 h2)
theorem vx_out {pc : Nat} {E : String} {ce : Cell} {q : Addr} {mc ms : Nat} (hout : ∀ x ∈ c.exceptionTable.toList, covers x pc = false) (hlocks : meth.locks = false) (hcell : H[q]? = some ce) (hv : ce.vm = .none) (hcl : s.vm.findClass E = some ce.cls)
    (hx : ∀ t : State, t.heap = H → s.vm.Alike t.vm → XC E s t) (hf : ∀ z ∈ locs, free z.base) (hc : cells ≤ mc) (hs : slots ≤ ms) :
    vx_W p l e R s m args below meth c H locs cells slots (vx_MQ below Qc XC args s mc ms free) (F0 m pc ls rest) q := by
  intro T hT X
  obtain ⟨st1, hrun, hend, hW, hsm⟩ := X.leaveThrown q (g := F0 m pc ls rest) rfl rfl rfl hout hlocks
  have hcell9 : (T.setFrames (.throwing q :: below)).heap[q]? = some ce := by
    show T.heap[q]? = some ce
    rw [hT]; exact hcell
  exact ⟨_, st1, .threw q, hrun, hend, Or.inr ⟨q, rfl, E, ce, locs, hx _ hT hW.alike, hcell9, hv, hcl, hW, hsm.mono hc hs, hf⟩⟩
theorem vx_frame {U : State} {k n : Nat} (h : s.sameButNew ({ U with vm := s.vm } : State) locs k n) : s.heap.size ≤ U.heap.size ∧ ∀ q : Nat, q < s.heap.size → (∀ z ∈ locs, z.base ≠ q) → U.heap[q]? = s.heap[q]? := by
  obtain ⟨-, h2, -, -, -, h6⟩ := h
  refine ⟨h2, fun q hq hz => ?_⟩
  obtain ⟨c9, e1, e2, e3, e4⟩ := h6 q _ (Array.getElem?_eq_getElem hq)
  have hs : c9.slots = (s.heap[q]).slots := Array.ext_getElem? fun i => e4 i fun hm => hz _ hm rfl
  have h9 : c9 = s.heap[q] := by
    rw [hs] at e2
    exact e2
  have e5 : U.heap[q]? = some c9 := e1
  rw [e5, h9, Array.getElem?_eq_getElem hq]
/-- the words of a throw but the four that speak of the heap -/
def vx_no (w : Cond) : Bool := decide (w ≠ .isRef (.static Bundle.tN "UNASSIGNED_STACK" Bundle.steD)) && decide (w ≠ .isRef (.static Bundle.tN "SUPPRESSED_SENTINEL" Bundle.listD)) && decide (w ≠ .laysStatic Bundle.tN "UNASSIGNED_STACK" Bundle.steD) && decide (w ≠ .laysStatic Bundle.tN "SUPPRESSED_SENTINEL" Bundle.listD)
def vx_at0 (own : String) (ic : Nat) (X : String) (names : List String) : List Cond := (Bundle.ownAtoms0 own ic X names).filter vx_no
def vx_atS (own : String) (ic : Nat) (X : String) (names : List String) : List Cond := (Bundle.ownAtoms own ic X names).filter vx_no
/-- a word that the tables alone decide, or a good one -/
def vx_ot (w : Cond) : Bool := w.onTables || goodWord w
theorem vx_ot_at {args a' : Array Value} {s U : State} {w : Cond} (hW : s.WarmedH U.vm) (hvm : s.vm = U.vm) (hg : vx_ot w = true) (h : w.before args s = true) : w.before a' U = true := by
  simp only [vx_ot, Bool.or_eq_true] at hg
  rcases hg with hg | hg
  · exact va_tabs hg hvm h
  · exact word_at hW (good_of_word hg) h
/-- a list's words: the good ones out of the method's own list, the others by premises of their own -/
theorem vx_hat {args : Array Value} {s : State} {L B : List Cond} (h1 : ∀ w ∈ L.filter goodWord, w.before args s = true) (h2 : ∀ w ∈ L.filter (fun w => !goodWord w), w ∈ B) (h3 : ∀ w ∈ B, w.before args s = true) : ∀ w ∈ L, w.before args s = true := by
  intro w hw
  by_cases g : goodWord w = true
  · exact h1 w (List.mem_filter.mpr ⟨hw, g⟩)
  · refine h3 w (h2 w (List.mem_filter.mpr ⟨hw, ?_⟩))
    show (!goodWord w) = true
    cases hgw : goodWord w
    · rfl
    · exact absurd hgw g
theorem vx_c {args : Array Value} {s : State} {w : Cond} {B : List Cond} (h : w.before args s = true) (t : ∀ w ∈ B, w.before args s = true) : ∀ w' ∈ w :: B, w'.before args s = true := fun w' h' => (List.mem_cons.mp h').elim (fun e => by rw [e]; exact h) (t w')
theorem vx_n {args : Array Value} {s : State} : ∀ w ∈ ([] : List Cond), w.before args s = true := fun _ h => nomatch h
theorem vx_own {args : Array Value} {s : State} {L : List Cond} (h1 : ∀ w ∈ L.filter vx_no, w.before args s = true)
    (hU : (Cond.isRef (.static Bundle.tN "UNASSIGNED_STACK" Bundle.steD)).before args s = true) (hN : (Cond.isRef (.static Bundle.tN "SUPPRESSED_SENTINEL" Bundle.listD)).before args s = true)
    (lU : (Cond.laysStatic Bundle.tN "UNASSIGNED_STACK" Bundle.steD).before args s = true) (lN : (Cond.laysStatic Bundle.tN "SUPPRESSED_SENTINEL" Bundle.listD).before args s = true) : ∀ w ∈ L, w.before args s = true := by
  intro w hw
  by_cases e1 : w = .isRef (.static Bundle.tN "UNASSIGNED_STACK" Bundle.steD)
  · rw [e1]; exact hU
  · by_cases e2 : w = .isRef (.static Bundle.tN "SUPPRESSED_SENTINEL" Bundle.listD)
    · rw [e2]; exact hN
    · by_cases e3 : w = .laysStatic Bundle.tN "UNASSIGNED_STACK" Bundle.steD
      · rw [e3]; exact lU
      · by_cases e4 : w = .laysStatic Bundle.tN "SUPPRESSED_SENTINEL" Bundle.listD
        · rw [e4]; exact lN
        · exact h1 w (List.mem_filter.mpr ⟨hw, by unfold vx_no; rw [decide_eq_true e1, decide_eq_true e2, decide_eq_true e3, decide_eq_true e4]; rfl⟩)
/-- where a static field lies, its class's statics cell in H -/
def vx_L (C n d : String) (A : Nat → Prop) (U : State) (H : Heap) : Prop := ∃ (c : ClassId) (k : Class) (i : Nat) (f : Field) (a : Nat) (cell : Cell), U.vm.findClass C = some c ∧ U.fieldFound? C n d = some (c, k, i, f) ∧ f.isStatic = true ∧ k.statics = some a ∧ H[a]? = some cell ∧ cell.vm.isStatics = true ∧ cell.cls = c ∧ f.slot < cell.slots.size ∧ k.staticTypes[f.slot]? = some f.type ∧ ¬ A a
theorem vx_L.moved {C n d : String} {A : Nat → Prop} {u U : State} {H : Heap} (hvm : u.vm.Alike U.vm) (h : vx_L C n d A u H) : vx_L C n d A U H := by
  obtain ⟨c, k, i, f, a, cell, h1, h2, h3, h4, h5, h6, h7, h8, h9, h10⟩ := h
  obtain ⟨k', hi', he⟩ := State.fieldFound?_setVm hvm h2
  exact ⟨c, k', i, f, a, cell, by rw [hvm.findClass]; exact h1, hi', h3, by rw [he]; exact h4, h5, h6, h7, h8, by rw [he]; exact h9, h10⟩
theorem vx_L.kept {C n d : String} {A : Nat → Prop} {U : State} {H H1 : Heap} (h : vx_L C n d A U H) (hq : ∀ a : Nat, a < H.size → ¬ A a → H1[a]? = H[a]?) : vx_L C n d A U H1 := by
  obtain ⟨c, k, i, f, a, cell, h1, h2, h3, h4, h5, h6, h7, h8, h9, h10⟩ := h
  exact ⟨c, k, i, f, a, cell, h1, h2, h3, h4, by rw [hq a (Array.getElem?_eq_some_iff.mp h5).1 h10]; exact h5, h6, h7, h8, h9, h10⟩
theorem vx_L.narrow {C n d : String} {A B : Nat → Prop} {U : State} {H : Heap} (h : vx_L C n d A U H) (hAB : ∀ q, B q → A q) : vx_L C n d B U H := by
  obtain ⟨c, k, i, f, a, cell, h1, h2, h3, h4, h5, h6, h7, h8, h9, h10⟩ := h
  exact ⟨c, k, i, f, a, cell, h1, h2, h3, h4, h5, h6, h7, h8, h9, fun z => h10 (hAB _ z)⟩
theorem vx_L.word {C n d : String} {A : Nat → Prop} {s : State} {args : Array Value} (h : vx_L C n d A s s.heap) : (Cond.laysStatic C n d).before args s = true := by
  obtain ⟨c, k, i, f, a, cell, h1, h2, h3, h4, h5, h6, h7, h8, h9, -⟩ := h
  show (Cond.laysStatic C n d).holds args s none s [] = true
  exact Cond.laysStatic_of h1 h2 h3 h4 h5 h6 h7 h8 h9
/-- .. and what it holds: null or some reference -/
def vx_Zq (C n d : String) (A : Nat → Prop) (U : State) (H : Heap) : Prop := va_Zq C n d A U H ∧ vx_L C n d A U H
theorem vx_Zq.moved {C n d : String} {A : Nat → Prop} {u U : State} {H : Heap} (hvm : u.vm.Alike U.vm) (h : vx_Zq C n d A u H) : vx_Zq C n d A U H := ⟨va_Zq.moved hvm h.1, vx_L.moved hvm h.2⟩
theorem vx_Zq.kept {C n d : String} {A : Nat → Prop} {U : State} {H H1 : Heap} (h : vx_Zq C n d A U H) (hq : ∀ a : Nat, a < H.size → ¬ A a → H1[a]? = H[a]?) : vx_Zq C n d A U H1 := ⟨va_Zq.kept h.1 hq, vx_L.kept h.2 hq⟩
theorem vx_Zq.narrow {C n d : String} {A B : Nat → Prop} {U : State} {H : Heap} (h : vx_Zq C n d A U H) (hAB : ∀ q, B q → A q) : vx_Zq C n d B U H := ⟨va_Zq.narrow h.1 hAB, vx_L.narrow h.2 hAB⟩
theorem vx_Zqof {args : Array Value} {s : State} {C n d : String} {A : Nat → Prop} (hl : (Cond.laysStatic C n d).before args s = true) (hini : (Cond.initialized C).before args s = true) (h : (Cond.isRef (.static C n d)).before args s = true) (hA : ∀ a : Nat, a < s.heap.size → ¬ A a) : vx_Zq C n d A s s.heap := by
  refine ⟨va_Zqof hl hini h hA, ?_⟩
  obtain ⟨c, k, i, f, a, cell, h1, h2, h3, h4, h5, h6, h7, h8, h9⟩ := Cond.laysStatic_spec hl
  exact ⟨c, k, i, f, a, cell, h1, h2, h3, h4, h5, h6, h7, h8, h9, hA a (Array.getElem?_eq_some_iff.mp h5).1⟩
theorem vx_isRef {C n d : String} {v : Value} {A : Nat → Prop} {s : State} {args : Array Value} (h : va_Z C n d v A s s.heap) (hv : v.isRef = true) : (Cond.isRef (.static C n d)).before args s = true := by
  obtain ⟨cf, kf, fi, f, a, cell, h1, h2, h3, h4, h5, h6, h7, -⟩ := h
  have he : (Term.static C n d).eval args s none [] s = some v := by
    simp [Term.eval, State.fieldNamed?, h1, h2, h4, h5, h6, h7]
  simp only [Cond.before, Cond.holds, Cond.value, he]
  cases v <;> simp_all [Value.isRef]
theorem vx_isRefq {C n d : String} {A : Nat → Prop} {s : State} {args : Array Value} (h : va_Zq C n d A s s.heap) : (Cond.isRef (.static C n d)).before args s = true := by
  rcases h with h | ⟨t, h⟩
  · exact vx_isRef h rfl
  · exact vx_isRef h rfl
/-- the same frame, seen from here: as if the method were called anew in this heap -/
theorem vx_rebase {T : State} (X : Stand p l e R s m args below meth c T locs cells slots) {R' : Room} (hf : R'.frames ≤ R.frames) (hl : R'.locals ≤ R.locals) (hc : cells + R'.cells ≤ R.cells) (hs : slots + R'.slots ≤ R.slots) :
    Stand p l e R' ((T.setVm s.vm).setFrames (.invoking m args :: below)) m args below meth c T [] 0 0 := by
  have htop : (T.setVm s.vm).topJava?.isSome := X.here.top
  have hF : ((T.setVm s.vm).setFrames (.invoking m args :: below)).frames = .invoking m args :: below := State.frames_setFrames _ (State.cur_lt_of_top htop)
  obtain ⟨g₀, hg0⟩ := Option.isSome_iff_exists.mp htop
  obtain ⟨r, hr⟩ := State.topJava?_eq_some.mp hg0
  have hl9 : e.platform.stackLimits (T.setVm s.vm).me = e.platform.stackLimits s.me := X.limits
  have hb9 : (T.setVm s.vm).me.stackBytes = s.me.stackBytes := X.bytes
  refine ⟨X.admits, X.cas, X.clock, hF, ?_, X.hears, X.method, X.code, X.here, X.tail, X.warmed, ?_, ?_, ?_⟩
  · have h := X.room
    have hU : ((T.setVm s.vm).setFrames (.invoking m args :: below)).localsInUse = s.localsInUse := by
      rw [State.localsInUse_invoking hF (meth := meth) (c := c) X.method X.code, State.localsInUse_invoking X.frames X.method X.code]
    simp only [State.hasRoom, Bool.and_eq_true, decide_eq_true_eq] at h ⊢
    obtain ⟨⟨⟨⟨h1, h2, h3, h4, h5, h6⟩, h7⟩, h8⟩, h9⟩ := h
    rw [X.frames, List.length_cons] at h2 h3
    have q1 := X.heapSize
    have q2 := X.used
    simp only [hF, hU, List.length_cons, State.stackLimits_setFrames, State.stackBytes_setFrames, hl9, hb9]
    refine ⟨⟨⟨⟨by omega, by omega, by omega, by omega, by omega, h6⟩, ?_⟩, ?_⟩, X.book⟩
    · show T.heap.size + R'.cells ≤ e.platform.maxCells
      omega
    · show T.slotsUsed + R'.slots ≤ e.platform.maxSlots
      omega
  · rw [State.stackLimits_setFrames]; rfl
  · rw [State.stackBytes_setFrames]; rfl
  · refine ⟨?_, Nat.le_refl _, Nat.le_refl _, ?_, ?_, fun a c9 h9 => ⟨c9, h9, rfl, rfl, fun _ _ => rfl⟩⟩
    · obtain ⟨t, ht, -⟩ := State.frames_cons hr
      show T.setVm s.vm = { ((T.setVm s.vm).setFrames (.invoking m args :: below)).setFrames (T.setVm s.vm).frames with heap := T.heap, slotsUsed := T.slotsUsed }
      rw [State.setFrames_setFrames, State.setFrames_self ht]
      rfl
    · show T.slotsUsed = T.slotsUsed + ((T.heap.toList.drop T.heap.size).map (·.slots.size)).sum
      rw [List.drop_eq_nil_of_le (Nat.le_of_eq Array.length_toList)]
      rfl
    · show ((T.heap.toList.drop T.heap.size).map (·.slots.size)).sum ≤ 0
      rw [List.drop_eq_nil_of_le (Nat.le_of_eq Array.length_toList)]
      exact Nat.le_refl _
/-- 'throw new E()': new; dup; invokespecial; athrow -/
theorem vx_throw0 {cc : ByteArray} {pc : Nat} (hexec : p.tables.exec = Jvm.exec) (hb : c.code = cc) (hl : l.stackTraces = false) {own cls : String} {names : List String} {ik ic mc ms : Nat} {A : Nat → Prop}
    (hown : s.vm.findClass own = some m.cls) (hcls : Bundle.fit cls = true) (hnames : ∀ n ∈ names, Bundle.fit n = true)
    (hk : (Cond.classLink own ik cls).before args s = true) (hini : (Cond.initialized cls).before args s = true) (hat : ∀ w ∈ vx_at0 own ic cls names, w.before args s = true)
    (hgood : ∀ w ∈ Cond.classLink own ik cls :: Cond.initialized cls :: vx_at0 own ic cls names, vx_ot w = true)
    (hU : vx_Zq Bundle.tN "UNASSIGNED_STACK" Bundle.steD A s s.heap) (hN : vx_Zq Bundle.tN "SUPPRESSED_SENTINEL" Bundle.listD A s s.heap) (hS : va_S A s.heap H locs) (hsize : ls.size = c.maxLocals)
    (d0 : decode cc pc = .ok (.new ik, 3)) (d3 : decode cc (pc + 3) = .ok (.dup, 1)) (d4 : decode cc (pc + 4) = .ok (.invokespecial ic, 3)) (d7 : decode cc (pc + 7) = .ok (.athrow, 1))
    (hout : ∀ x ∈ c.exceptionTable.toList, covers x (pc + 7) = false)
    (hRframes : names.length + 3 < R.frames) (hRlocals : (rest.map fun v => v.category).sum + (13 * (names.length + 1) + 42) ≤ R.locals) (hRcells : cells + 1 ≤ R.cells) (hRslots : slots + 6 ≤ R.slots) (hlocks : meth.locks = false)
    (hx : ∀ t : State, s.vm.Alike t.vm → H.size ≤ t.heap.size → (∀ q : Nat, q < H.size → t.heap[q]? = H[q]?) → XC cls s t)
    (hf : ∀ z ∈ locs, free z.base) (hc : cells + 1 ≤ mc) (hs : slots + 6 ≤ ms) :
    W p l e R s m args below meth c H locs cells slots (vx_MQ below Qc XC args s mc ms free) (F0 m pc ls rest) := by
  intro T hT X
  have htr : e.platform.stackTraces = false := (show e.platform.stackTraces = l.stackTraces by rw [X.admits.platform]).trans hl
  have Y := vx_rebase X (R' := { frames := R.frames, locals := R.locals, cells := 1, slots := 6 }) (Nat.le_refl _) (Nat.le_refl _) hRcells hRslots
  obtain ⟨s', hA⟩ : ∃ z, z = (T.setVm s.vm).setFrames (.invoking m args :: below) := ⟨_, rfl⟩
  rw [← hA] at Y
  have hvm : s'.vm = s.vm := by rw [hA]; rfl
  have hhp : s'.heap = H := by rw [hA]; exact hT
  have hW0 : s.WarmedH s'.vm := by rw [hvm]; exact State.WarmedH.refl s
  have hat' : ∀ w ∈ vx_at0 own ic cls names, w.before args s' = true := fun w hw => vx_ot_at hW0 hvm.symm (hgood w (List.mem_cons_of_mem _ (List.mem_cons_of_mem _ hw))) (hat w hw)
  have hk' : (Cond.classLink own ik cls).before args s' = true := vx_ot_at hW0 hvm.symm (hgood _ List.mem_cons_self) hk
  have hini' : (Cond.initialized cls).before args s' = true := vx_ot_at hW0 hvm.symm (hgood _ (List.mem_cons_of_mem _ List.mem_cons_self)) hini
  have hU' : vx_Zq Bundle.tN "UNASSIGNED_STACK" Bundle.steD A s' s'.heap := by rw [hhp]; exact vx_Zq.moved hW0.alike (hU.kept hS.2.1)
  have hN' : vx_Zq Bundle.tN "SUPPRESSED_SENTINEL" Bundle.listD A s' s'.heap := by rw [hhp]; exact vx_Zq.moved hW0.alike (hN.kept hS.2.1)
  have h : ∀ w ∈ Bundle.ownAtoms0 own ic cls names, w.before args s' = true := vx_own hat' (vx_isRefq hU'.1) (vx_isRefq hN'.1) hU'.2.word hN'.2.word
  have hown' : s'.vm.findClass own = some m.cls := by rw [hvm]; exact hown
  have hins : (Cond.instantiable cls 6).before args s' = true := h _ (by simp [Bundle.ownAtoms0])
  obtain ⟨vm₁, cX, kX, hfX, hkX, -, -, X₁, st1⟩ := Y.newCold hexec (own := own) (C := cls) (index := ik) (n := 6) hown' hk' hins hini'
    (g := F0 m pc ls rest) rfl (by rw [hb]; exact d0) (Nat.le_refl _) (Nat.le_refl _)
  generalize hT1 : (T.setVm vm₁).pushCell { cls := cX, slots := kX.instanceTypes.map defaultValue, vm := .none } = T1 at X₁ st1
  have hcat : (Value.ref T.heap.size).category = 1 := rfl
  have hcellA : T1.heap[T.heap.size]? = some (freshCell cX kX) := by rw [← hT1]; exact State.heap_pushCell_size _ _
  have d3' : decode c.code (pc + 3) = .ok (.dup, 1) := by rw [hb]; exact d3
  obtain ⟨U, hsteps, hrun, hend, hW, hsame, ce, hce, hO⟩ := X₁.ctorThrow0 hexec htr (own := own) (cls := cls) (names := names) (ic := ic) hown' hcls hnames h (fun x hx => nomatch hx) hfX hkX hcellA (by rw [hhp, hT]; exact Nat.le_refl _)
    (g := { method := m, pc := pc + 4, locals := ls, stack := .ref T.heap.size :: .ref T.heap.size :: rest, locked := none }) rfl hsize rfl rfl (rest := rest) rfl
    (by rw [hb]; exact d4) (by rw [hb]; exact d7) hout hRframes (by simp only [List.map_cons, List.sum_cons, hcat]; omega) hlocks
  obtain ⟨f1, f2⟩ := vx_frame hsame
  rw [hhp] at f1 f2
  have hWs : s.WarmedH U.vm := State.WarmedH.trans hW0 hW
  have hcl : s.vm.findClass cls = some ce.cls := by
    have h9 := hO.cls
    rw [hvm] at h9
    exact h9
  have hall : s.sameButNew ({ U with vm := s.vm } : State) locs mc ms := by
    subst hA
    obtain ⟨e1, e2⟩ := hsame
    rw [State.setFrames_setFrames] at e1
    have h2 : (T.setVm s.vm).sameButNew ({ U with vm := s.vm } : State) [] (0 + 1) (0 + 6) := ⟨e1, e2⟩
    have h3 := X.same.trans h2
    rw [List.append_nil] at h3
    exact h3.mono hc hs
  refine ⟨U, ?_, .threw T.heap.size, hrun, hend, Or.inr ⟨T.heap.size, rfl, cls, ce, locs, hx U hWs.alike f1 (fun q hq => f2 q hq (fun z hz => nomatch hz)), hce, hO.vm, hcl, hWs, hall, hf⟩⟩
  refine st1 _ ?_
  show Steps p.tables e below (T1.setTop { method := m, pc := pc + 3, locals := ls, stack := .ref T.heap.size :: rest, locked := none }) _
  jvm_step X₁.here [X₁.here.top, hexec, d3', Value.category]
  exact hsteps
/-- 'throw new E("text")': new; dup; ldc; invokespecial; athrow -/
theorem vx_throwS {cc : ByteArray} {pc : Nat} (hexec : p.tables.exec = Jvm.exec) (hb : c.code = cc) (hl : l.stackTraces = false) {own cls text : String} {names : List String} {ik is ic mc ms sa : Nat} {A : Nat → Prop}
    (hown : s.vm.findClass own = some m.cls) (hcls : Bundle.fit cls = true) (hnames : ∀ n ∈ names, Bundle.fit n = true)
    (hk : (Cond.classLink own ik cls).before args s = true) (hini : (Cond.initialized cls).before args s = true) (hstr : vk_R own is text sa s) (hat : ∀ w ∈ vx_atS own ic cls names, w.before args s = true)
    (hgood : ∀ w ∈ Cond.classLink own ik cls :: Cond.initialized cls :: vx_atS own ic cls names, vx_ot w = true)
    (hU : vx_Zq Bundle.tN "UNASSIGNED_STACK" Bundle.steD A s s.heap) (hN : vx_Zq Bundle.tN "SUPPRESSED_SENTINEL" Bundle.listD A s s.heap) (hS : va_S A s.heap H locs) (hsize : ls.size = c.maxLocals)
    (d0 : decode cc pc = .ok (.new ik, 3)) (d3 : decode cc (pc + 3) = .ok (.dup, 1)) (d4 : decode cc (pc + 4) = .ok (.ldc is, 2)) (d6 : decode cc (pc + 6) = .ok (.invokespecial ic, 3)) (d9 : decode cc (pc + 9) = .ok (.athrow, 1))
    (hout : ∀ x ∈ c.exceptionTable.toList, covers x (pc + 9) = false)
    (hRframes : names.length + 3 < R.frames) (hRlocals : (rest.map fun v => v.category).sum + (13 * (names.length + 1) + 43) ≤ R.locals) (hRcells : cells + 1 ≤ R.cells) (hRslots : slots + 6 ≤ R.slots) (hlocks : meth.locks = false)
    (hx : ∀ t : State, s.vm.Alike t.vm → H.size ≤ t.heap.size → (∀ q : Nat, q < H.size → t.heap[q]? = H[q]?) → XC cls s t)
    (hf : ∀ z ∈ locs, free z.base) (hc : cells + 1 ≤ mc) (hs : slots + 6 ≤ ms) :
    W p l e R s m args below meth c H locs cells slots (vx_MQ below Qc XC args s mc ms free) (F0 m pc ls rest) := by
  intro T hT X
  have htr : e.platform.stackTraces = false := (show e.platform.stackTraces = l.stackTraces by rw [X.admits.platform]).trans hl
  have Y := vx_rebase X (R' := { frames := R.frames, locals := R.locals, cells := 1, slots := 6 }) (Nat.le_refl _) (Nat.le_refl _) hRcells hRslots
  obtain ⟨s', hA⟩ : ∃ z, z = (T.setVm s.vm).setFrames (.invoking m args :: below) := ⟨_, rfl⟩
  rw [← hA] at Y
  have hvm : s'.vm = s.vm := by rw [hA]; rfl
  have hhp : s'.heap = H := by rw [hA]; exact hT
  have hW0 : s.WarmedH s'.vm := by rw [hvm]; exact State.WarmedH.refl s
  have hat' : ∀ w ∈ vx_atS own ic cls names, w.before args s' = true := fun w hw => vx_ot_at hW0 hvm.symm (hgood w (List.mem_cons_of_mem _ (List.mem_cons_of_mem _ hw))) (hat w hw)
  have hk' : (Cond.classLink own ik cls).before args s' = true := vx_ot_at hW0 hvm.symm (hgood _ List.mem_cons_self) hk
  have hini' : (Cond.initialized cls).before args s' = true := vx_ot_at hW0 hvm.symm (hgood _ (List.mem_cons_of_mem _ List.mem_cons_self)) hini
  have hU' : vx_Zq Bundle.tN "UNASSIGNED_STACK" Bundle.steD A s' s'.heap := by rw [hhp]; exact vx_Zq.moved hW0.alike (hU.kept hS.2.1)
  have hN' : vx_Zq Bundle.tN "SUPPRESSED_SENTINEL" Bundle.listD A s' s'.heap := by rw [hhp]; exact vx_Zq.moved hW0.alike (hN.kept hS.2.1)
  have h : ∀ w ∈ Bundle.ownAtoms own ic cls names, w.before args s' = true := vx_own hat' (vx_isRefq hU'.1) (vx_isRefq hN'.1) hU'.2.word hN'.2.word
  have hown' : s'.vm.findClass own = some m.cls := by rw [hvm]; exact hown
  have hins : (Cond.instantiable cls 6).before args s' = true := h _ (by simp [Bundle.ownAtoms])
  obtain ⟨vm₁, cX, kX, hfX, hkX, -, -, X₁, st1⟩ := Y.newCold hexec (own := own) (C := cls) (index := ik) (n := 6) hown' hk' hins hini'
    (g := F0 m pc ls rest) rfl (by rw [hb]; exact d0) (Nat.le_refl _) (Nat.le_refl _)
  generalize hT1 : (T.setVm vm₁).pushCell { cls := cX, slots := kX.instanceTypes.map defaultValue, vm := .none } = T1 at X₁ st1
  have hcat : (Value.ref T.heap.size).category = 1 := rfl
  have hcellA : T1.heap[T.heap.size]? = some (freshCell cX kX) := by rw [← hT1]; exact State.heap_pushCell_size _ _
  have d3' : decode c.code (pc + 3) = .ok (.dup, 1) := by rw [hb]; exact d3
  have d4' : decode c.code (pc + 4) = .ok (.ldc is, 2) := by rw [hb]; exact d4
  have hstr' : vk_R own is text sa s' := vk_R.warm hW0 hstr
  obtain ⟨U, hsteps, hrun, hend, hW, hsame, ce, hce, hO⟩ := X₁.ctorThrowS hexec htr (own := own) (cls := cls) (names := names) (ic := ic) hown' hcls hnames h (fun x hx => nomatch hx) hfX hkX hcellA (by rw [hhp, hT]; exact Nat.le_refl _) (msg := .ref sa) rfl
    (g := { method := m, pc := pc + 6, locals := ls, stack := .ref sa :: .ref T.heap.size :: .ref T.heap.size :: rest, locked := none }) rfl hsize rfl rfl (rest := rest) rfl
    (by rw [hb]; exact d6) (by rw [hb]; exact d9) hout hRframes (by simp only [List.map_cons, List.sum_cons, hcat]; omega) hlocks
  obtain ⟨f1, f2⟩ := vx_frame hsame
  rw [hhp] at f1 f2
  have hWs : s.WarmedH U.vm := State.WarmedH.trans hW0 hW
  have hcl : s.vm.findClass cls = some ce.cls := by
    have h9 := hO.cls
    rw [hvm] at h9
    exact h9
  have hall : s.sameButNew ({ U with vm := s.vm } : State) locs mc ms := by
    subst hA
    obtain ⟨e1, e2⟩ := hsame
    rw [State.setFrames_setFrames] at e1
    have h2 : (T.setVm s.vm).sameButNew ({ U with vm := s.vm } : State) [] (0 + 1) (0 + 6) := ⟨e1, e2⟩
    have h3 := X.same.trans h2
    rw [List.append_nil] at h3
    exact h3.mono hc hs
  refine ⟨U, ?_, .threw T.heap.size, hrun, hend, Or.inr ⟨T.heap.size, rfl, cls, ce, locs, hx U hWs.alike f1 (fun q hq => f2 q hq (fun z hz => nomatch hz)), hce, hO.vm, hcl, hWs, hall, hf⟩⟩
  refine st1 _ ?_
  show Steps p.tables e below (T1.setTop { method := m, pc := pc + 3, locals := ls, stack := .ref T.heap.size :: rest, locked := none }) _
  jvm_step X₁.here [X₁.here.top, hexec, d3', Value.category]
  exact X₁.ldcString hexec (own := own) (text := text) (index := is) (a := sa) hown' hstr'.1 hstr'.2
    (g := { method := m, pc := pc + 4, locals := ls, stack := .ref T.heap.size :: .ref T.heap.size :: rest, locked := none }) rfl d4' _ hsteps
/-- 'throw new E("text")', the text by a wide index -/
theorem vx_throwSW {cc : ByteArray} {pc : Nat} (hexec : p.tables.exec = Jvm.exec) (hb : c.code = cc) (hl : l.stackTraces = false) {own cls text : String} {names : List String} {ik is ic mc ms sa : Nat} {A : Nat → Prop}
    (hown : s.vm.findClass own = some m.cls) (hcls : Bundle.fit cls = true) (hnames : ∀ n ∈ names, Bundle.fit n = true)
    (hk : (Cond.classLink own ik cls).before args s = true) (hini : (Cond.initialized cls).before args s = true) (hstr : vk_R own is text sa s) (hat : ∀ w ∈ vx_atS own ic cls names, w.before args s = true)
    (hgood : ∀ w ∈ Cond.classLink own ik cls :: Cond.initialized cls :: vx_atS own ic cls names, vx_ot w = true)
    (hU : vx_Zq Bundle.tN "UNASSIGNED_STACK" Bundle.steD A s s.heap) (hN : vx_Zq Bundle.tN "SUPPRESSED_SENTINEL" Bundle.listD A s s.heap) (hS : va_S A s.heap H locs) (hsize : ls.size = c.maxLocals)
    (d0 : decode cc pc = .ok (.new ik, 3)) (d3 : decode cc (pc + 3) = .ok (.dup, 1)) (d4 : decode cc (pc + 4) = .ok (.ldc_w is, 3)) (d7 : decode cc (pc + 7) = .ok (.invokespecial ic, 3)) (d10 : decode cc (pc + 10) = .ok (.athrow, 1))
    (hout : ∀ x ∈ c.exceptionTable.toList, covers x (pc + 10) = false)
    (hRframes : names.length + 3 < R.frames) (hRlocals : (rest.map fun v => v.category).sum + (13 * (names.length + 1) + 43) ≤ R.locals) (hRcells : cells + 1 ≤ R.cells) (hRslots : slots + 6 ≤ R.slots) (hlocks : meth.locks = false)
    (hx : ∀ t : State, s.vm.Alike t.vm → H.size ≤ t.heap.size → (∀ q : Nat, q < H.size → t.heap[q]? = H[q]?) → XC cls s t)
    (hf : ∀ z ∈ locs, free z.base) (hc : cells + 1 ≤ mc) (hs : slots + 6 ≤ ms) :
    W p l e R s m args below meth c H locs cells slots (vx_MQ below Qc XC args s mc ms free) (F0 m pc ls rest) := by
  intro T hT X
  have htr : e.platform.stackTraces = false := (show e.platform.stackTraces = l.stackTraces by rw [X.admits.platform]).trans hl
  have Y := vx_rebase X (R' := { frames := R.frames, locals := R.locals, cells := 1, slots := 6 }) (Nat.le_refl _) (Nat.le_refl _) hRcells hRslots
  obtain ⟨s', hA⟩ : ∃ z, z = (T.setVm s.vm).setFrames (.invoking m args :: below) := ⟨_, rfl⟩
  rw [← hA] at Y
  have hvm : s'.vm = s.vm := by rw [hA]; rfl
  have hhp : s'.heap = H := by rw [hA]; exact hT
  have hW0 : s.WarmedH s'.vm := by rw [hvm]; exact State.WarmedH.refl s
  have hat' : ∀ w ∈ vx_atS own ic cls names, w.before args s' = true := fun w hw => vx_ot_at hW0 hvm.symm (hgood w (List.mem_cons_of_mem _ (List.mem_cons_of_mem _ hw))) (hat w hw)
  have hk' : (Cond.classLink own ik cls).before args s' = true := vx_ot_at hW0 hvm.symm (hgood _ List.mem_cons_self) hk
  have hini' : (Cond.initialized cls).before args s' = true := vx_ot_at hW0 hvm.symm (hgood _ (List.mem_cons_of_mem _ List.mem_cons_self)) hini
  have hU' : vx_Zq Bundle.tN "UNASSIGNED_STACK" Bundle.steD A s' s'.heap := by rw [hhp]; exact vx_Zq.moved hW0.alike (hU.kept hS.2.1)
  have hN' : vx_Zq Bundle.tN "SUPPRESSED_SENTINEL" Bundle.listD A s' s'.heap := by rw [hhp]; exact vx_Zq.moved hW0.alike (hN.kept hS.2.1)
  have h : ∀ w ∈ Bundle.ownAtoms own ic cls names, w.before args s' = true := vx_own hat' (vx_isRefq hU'.1) (vx_isRefq hN'.1) hU'.2.word hN'.2.word
  have hown' : s'.vm.findClass own = some m.cls := by rw [hvm]; exact hown
  have hins : (Cond.instantiable cls 6).before args s' = true := h _ (by simp [Bundle.ownAtoms])
  obtain ⟨vm₁, cX, kX, hfX, hkX, -, -, X₁, st1⟩ := Y.newCold hexec (own := own) (C := cls) (index := ik) (n := 6) hown' hk' hins hini'
    (g := F0 m pc ls rest) rfl (by rw [hb]; exact d0) (Nat.le_refl _) (Nat.le_refl _)
  generalize hT1 : (T.setVm vm₁).pushCell { cls := cX, slots := kX.instanceTypes.map defaultValue, vm := .none } = T1 at X₁ st1
  have hcat : (Value.ref T.heap.size).category = 1 := rfl
  have hcellA : T1.heap[T.heap.size]? = some (freshCell cX kX) := by rw [← hT1]; exact State.heap_pushCell_size _ _
  have d3' : decode c.code (pc + 3) = .ok (.dup, 1) := by rw [hb]; exact d3
  have d4' : decode c.code (pc + 4) = .ok (.ldc_w is, 3) := by rw [hb]; exact d4
  have hstr' : vk_R own is text sa s' := vk_R.warm hW0 hstr
  obtain ⟨U, hsteps, hrun, hend, hW, hsame, ce, hce, hO⟩ := X₁.ctorThrowS hexec htr (own := own) (cls := cls) (names := names) (ic := ic) hown' hcls hnames h (fun x hx => nomatch hx) hfX hkX hcellA (by rw [hhp, hT]; exact Nat.le_refl _) (msg := .ref sa) rfl
    (g := { method := m, pc := pc + 7, locals := ls, stack := .ref sa :: .ref T.heap.size :: .ref T.heap.size :: rest, locked := none }) rfl hsize rfl rfl (rest := rest) rfl
    (by rw [hb]; exact d7) (by rw [hb]; exact d10) hout hRframes (by simp only [List.map_cons, List.sum_cons, hcat]; omega) hlocks
  obtain ⟨f1, f2⟩ := vx_frame hsame
  rw [hhp] at f1 f2
  have hWs : s.WarmedH U.vm := State.WarmedH.trans hW0 hW
  have hcl : s.vm.findClass cls = some ce.cls := by
    have h9 := hO.cls
    rw [hvm] at h9
    exact h9
  have hall : s.sameButNew ({ U with vm := s.vm } : State) locs mc ms := by
    subst hA
    obtain ⟨e1, e2⟩ := hsame
    rw [State.setFrames_setFrames] at e1
    have h2 : (T.setVm s.vm).sameButNew ({ U with vm := s.vm } : State) [] (0 + 1) (0 + 6) := ⟨e1, e2⟩
    have h3 := X.same.trans h2
    rw [List.append_nil] at h3
    exact h3.mono hc hs
  refine ⟨U, ?_, .threw T.heap.size, hrun, hend, Or.inr ⟨T.heap.size, rfl, cls, ce, locs, hx U hWs.alike f1 (fun q hq => f2 q hq (fun z hz => nomatch hz)), hce, hO.vm, hcl, hWs, hall, hf⟩⟩
  refine st1 _ ?_
  show Steps p.tables e below (T1.setTop { method := m, pc := pc + 3, locals := ls, stack := .ref T.heap.size :: rest, locked := none }) _
  jvm_step X₁.here [X₁.here.top, hexec, d3', Value.category]
  exact X₁.ldcStringW hexec (own := own) (text := text) (index := is) (a := sa) hown' hstr'.1 hstr'.2
    (g := { method := m, pc := pc + 4, locals := ls, stack := .ref T.heap.size :: .ref T.heap.size :: rest, locked := none }) rfl d4' _ hsteps
end Ends
section Bodies
variable {l : Launch}
theorem vx_ofW {y : MethodName} {ws ws' : List Cond} {rm : Room} {Pc : Array Value → State → Prop} {Qc : Array Value → State → Outcome → State → Prop} {XC : String → State → State → Prop} {mc ms : Nat} {free : Addr → Prop} {cc : ByteArray} {maxL : Nat} {ret : Option FieldType}
    (hy : plainName y.cls = true) (hw : ws = Cond.code y cc maxL ret :: ws')
    (body : ∀ p e s m args below meth c s₁, BodyLoose p l y (headSpec ws rm) cc maxL ret e s m args below meth c s₁ → c.maxLocals = maxL → (∀ x ∈ c.exceptionTable.toList, False) → Pc args s →
      W p l e (headSpec ws rm).room s m args below meth c s.heap [] 0 0 (vx_MQ below Qc XC args s mc ms free) (entryFrame m args maxL)) : vx_Met l y ws rm Pc Qc XC mc ms free := by
  refine MetFree.of_bodyS (code := cc) (maxLocals := maxL) (ret := ret) hy ?_ ?_
  · intro args s m h hn
    obtain ⟨meth, c, h1, h2, h3, h4, h5, h6, -, -⟩ := Cond.code_spec hn (atoms_spec (ws := ws) h _ (by rw [hw]; exact List.mem_cons_self))
    exact ⟨meth, c, h1, h2, h3, h4, h5, h6⟩
  · intro p e s m args below meth c s₁ B hml hP _
    have hh0 : s₁.heap = s.heap := by rw [B.state]; rfl
    have ht : ∀ x ∈ c.exceptionTable.toList, False := by
      obtain ⟨meth9, c9, h1, h2, -, -, -, -, h7, -⟩ := Cond.code_spec B.named (atoms_spec (ws := ws) B.pre _ (by rw [hw]; exact List.mem_cons_self))
      cases Option.some.inj (h1.symm.trans B.method)
      cases Option.some.inj (h2.symm.trans (Stand.of_body B).code)
      intro x hx
      rw [Array.isEmpty_iff.mp h7] at hx
      cases hx
    obtain ⟨t, a1, o, b1, b2, b3⟩ := body p e s m args below meth c s₁ B hml ht hP s₁ hh0 (Stand.of_body B)
    exact ⟨t, o, a1, b1, b2, b3⟩
/-- the table of a body with handlers -/
theorem vx_table {p : Program} {x y : MethodName} {S : Spec} {cc bytes : ByteArray} {maxL maxL' : Nat} {ret ret' : Option FieldType} {e : Env} {s s₁ : State} {m : MethodId} {args : Array Value} {below : List Frame} {meth : Method} {c : Code} {hh : List (Nat × Nat × Nat × Nat)}
    (B : BodyLoose p l y S cc maxL ret e s m args below meth c s₁) (h : (Cond.codeWith y bytes maxL' ret' hh).before args s = true) : c.exceptionTable.toList = tableOf hh := by
  obtain ⟨m9, meth9, c9, hn9, h1, h2, -, -, h6, -⟩ := Cond.codeWith_spec h
  cases Option.some.inj (hn9.symm.trans B.named)
  cases Option.some.inj (h1.symm.trans B.method)
  cases Option.some.inj (h2.symm.trans (Stand.of_body B).code)
  rw [← h6, table_eq]
end Bodies
end VXA
/-! ===== END ===== -/
/-! ===== BEGIN a static call of a method with an exception table ===== -/
section VXS
variable {p : Program} {l : Launch} {e : Env} {R : Room} {s : State} {m : MethodId} {args : Array Value} {below : List Frame} {meth : Method} {c : Code} {T : State} {H : Heap} {locs : List Loc} {cells slots : Nat}
abbrev vx_CSW (R : Room) (s : State) (args : Array Value) (own : String) (index : Nat) (y : MethodName) (bytes : ByteArray) (maxL : Nat) (ret : Option FieldType) (hh : List (Nat × Nat × Nat × Nat)) (ws : List Cond) (rm : Room) (mc ms n : Nat) : Prop :=
  (rm.cells = mc ∧ rm.slots = ms ∧ rm.frames + 1 ≤ R.frames ∧ 8 + (maxL + 11) + rm.locals ≤ R.locals ∧ (∀ w ∈ ws, ∀ (a' : Array Value) (U : State), s.WarmedH U.vm → w.before a' U = true) ∧ Cond.codeWith y bytes maxL ret hh ∈ ws) ∧
  (Cond.codeWith y bytes maxL ret hh).before args s = true ∧ (Cond.initialized y.cls).before args s = true ∧ (y.cls ≠ "java/lang/invoke/MethodHandle" ∧ y.cls ≠ "java/lang/invoke/VarHandle") ∧
  (∀ sig, parseMethodDescriptor y.desc = some sig → n = sig.parameters.length) ∧ (Cond.methodLink own index y).before args s = true ∧ (Cond.static y).before args s = true
theorem vx_cwSW {own : String} {index maxL mc ms : Nat} {y : MethodName} {bytes : ByteArray} {ret : Option FieldType} {hh : List (Nat × Nat × Nat × Nat)} {Ts ws ws' : List Cond} {rm : Room} (n : Nat) (ht : ∀ w ∈ Ts, w.before args s = true) (hT : GoodIn Ts (va_wsS own index y ws)) (hw : ws = Cond.codeWith y bytes maxL ret hh :: ws') (hrc : rm.cells = mc) (hrs : rm.slots = ms)
    (hd : y.cls ≠ "java/lang/invoke/MethodHandle" ∧ y.cls ≠ "java/lang/invoke/VarHandle" ∧ (parseMethodDescriptor y.desc).map (fun d => d.parameters.length) = some n) (hR : rm.frames + 1 ≤ R.frames ∧ 8 + (maxL + 11) + rm.locals ≤ R.locals) :
    vx_CSW R s args own index y bytes maxL ret hh ws rm mc ms n := by
  have ok : ∀ w ∈ va_wsS own index y ws, w.before args s = true := fun w h => ht w (hT w h).1
  have hG : GoodIn Ts ws := fun w h => hT w (by unfold va_wsS; exact List.mem_append_right _ h)
  have hc : Cond.codeWith y bytes maxL ret hh ∈ ws := by rw [hw]; exact List.mem_cons_self
  refine ⟨⟨hrc, hrs, hR.1, hR.2, pay_in ht hG, hc⟩, ht _ (hG _ hc).1, ok _ (by simp [va_wsS]), ⟨hd.1, hd.2.1⟩, fun sig h => ?_, ok _ (by simp [va_wsS]), ok _ (by simp [va_wsS])⟩
  have h2 := hd.2.2
  rw [h] at h2
  exact (Option.some.inj h2).symm
theorem vx_callSW (X : Stand p l e R s m args below meth c T locs cells slots) (hexec : p.tables.exec = Jvm.exec) {own : String} {index : Nat} {y : MethodName} {bytes : ByteArray} {maxL : Nat} {ret : Option FieldType} {hh : List (Nat × Nat × Nat × Nat)}
    (hown : s.vm.findClass own = some m.cls) (hlink : (Cond.methodLink own index y).before args s = true) (hstat : (Cond.static y).before args s = true) (hinit : (Cond.initialized y.cls).before args s = true)
    (hcode : (Cond.codeWith y bytes maxL ret hh).before args s = true) (hy : y.cls ≠ "java/lang/invoke/MethodHandle" ∧ y.cls ≠ "java/lang/invoke/VarHandle")
    {W9 : Nat} {Pre : Pt → Array Value → Prop} {Post : Pt → Array Value → Option Value → Pt → Prop} (hK : Back l R p e below s args y 3 W9 Pre Post)
    {g : JFrame} (hg : g.method = m) (hsize : g.locals.size = c.maxLocals) {argsL rest : List Value} (hlen : ∀ sig, parseMethodDescriptor y.desc = some sig → argsL.length = sig.parameters.length)
    (hstack : g.stack = argsL.reverse ++ rest) (hW : 2 * g.monitorRoom + (rest.map fun v => v.category).sum ≤ W9) (hdg : decode c.code g.pc = .ok (.invokestatic index, 3))
    (hpre : ∀ vm₁, s.WarmedH vm₁ → Pre ⟨T.setVm vm₁, locs, cells, slots⟩ argsL.toArray) :
    ∃ (v : Option Value) (vm₁ : Vm) (B : Pt), s.WarmedH vm₁ ∧ Stand p l e R s m args below meth c B.U B.locs B.cells B.slots ∧ Post ⟨T.setVm vm₁, locs, cells, slots⟩ argsL.toArray v B ∧
      ∀ target, Steps p.tables e below (B.U.setTop { g with pc := g.pc + 3, stack := v.toList ++ rest }) target → Steps p.tables e below (T.setTop g) target := by
  obtain ⟨mk, methM, cM, hnamed, hmethM, -, -, -, -, -, -, hsigM⟩ := Cond.codeWith_spec hcode
  have hstatic : methM.isStatic = true := Cond.static_spec hnamed hmethM hstat
  obtain ⟨kP, hkP, -⟩ := className_of_methodNamed hnamed
  have hinitP : kP.init = .initialized := Cond.initialized_spec (findClass_of_methodNamed hnamed) hkP hinit
  obtain ⟨vm₁, X₁, hstep₁⟩ := X.invokestatic hexec hown hlink hnamed hmethM hstatic hkP hinitP hy (g := g) hg (argsL := argsL) (rest := rest) (hlen _ hsigM) hstack hdg
  obtain ⟨v, B, X', hpost, hsteps⟩ := hK m meth c ⟨T.setVm vm₁, locs, cells, slots⟩ { g with stack := rest } (.invokestatic index) mk argsL.toArray X₁ hg hsize hdg hW (X₁.named hnamed) (hpre vm₁ X₁.warmed)
  exact ⟨v, vm₁, B, X₁.warmed, X', hpost, fun target h => hstep₁ _ fun acts => by rw [doInvoke_state]; exact hsteps.trans h⟩
theorem vx_runSW {y : MethodName} {bytes cc : ByteArray} {maxL nL mc ms n index : Nat} {ret : Option FieldType} {hh : List (Nat × Nat × Nat × Nat)} {ws : List Cond} {rm : Room} {Pc : Array Value → State → Prop} {Qc : Array Value → State → Outcome → State → Prop} {free : Addr → Prop} {Ts : List Cond} {own : String} {As rest : List Value} {g : JFrame}
    (S : CallFix p m c cc nL s args Ts own) (hM : Met l y ws rm Pc Qc mc ms free) (cw : vx_CSW R s args own index y bytes maxL ret hh ws rm mc ms n) (hp : PreS s H Pc As)
    (hg : g.method = m) (hn : As.length = n) (hsize : g.locals.size = nL) (hstack : g.stack = As.reverse ++ rest) (hW : 2 * g.monitorRoom + (rest.map fun v => v.category).sum ≤ 8) (hdg : decode cc g.pc = .ok (.invokestatic index, 3)) (hf : cells + mc ≤ R.cells ∧ slots + ms ≤ R.slots) :
    va_Run p l e R s m args below meth c H locs cells slots mc ms g rest (Qc As.toArray) (free) := by
  obtain ⟨⟨hrc, hrs, hfr, hlo, hws, hcw⟩, hcode, hini, hy, hlen, hl, hstt⟩ := cw
  have hK : Back l R p e below s args y 3 8 (PreOf R mc ms Pc) (PostOf Qc mc ms free) := va_backW (hh := hh) (bytes := bytes) (maxL := maxL) (ret := ret) hM hp.1 hrc hrs hfr hlo hws hcw (fun a' U hW => word_at hW (Or.inl (by first | rfl | simp [Cond.onTables, Cond.keeps, Cond.steady])) hini)
  obtain ⟨hx, hb, hml, ho, -⟩ := S
  intro T hT X
  obtain ⟨v, vm₁, ⟨U', l2, c2, s2⟩, hW₁, X', ⟨g', mk, t, L, e1, e2, hq, h1, hL, h2, h3⟩, st⟩ := vx_callSW X hx (hh := hh) (bytes := bytes) (maxL := maxL) (ret := ret) ho hl hstt hini hcode hy hK hg (hsize.trans hml.symm) (argsL := As) (rest := rest) (fun sig h => hn.trans (hlen sig h)) hstack hW (by rw [hb]; exact hdg)
    (fun vm₁ hW₁ => ⟨hf.1, hf.2, hp.2 (T.setVm vm₁) hT hW₁⟩)
  dsimp only [Pt.U, Pt.locs, Pt.cells, Pt.slots] at X' e1 e2 h1 h2 h3 st
  subst h1; subst h2; subst h3
  exact ⟨v, (T.setVm vm₁).calling g' mk As.toArray, t, U', L, hT, X', hL, e1, e2, hq, st⟩
/-- not caught here, past rows that name other classes: it goes on to the caller -/
theorem vx_outP {p : Program} {l : Launch} {e : Env} {R : Room} {s : State} {m : MethodId} {args : Array Value} {below : List Frame} {meth : Method} {c : Code} {H : Heap} {locs : List Loc} {cells slots : Nat} {free : Addr → Prop} {ls : Array Slot} {rest : List Value} {Qc : Array Value → State → Outcome → State → Prop} {XC : String → State → State → Prop}
    {pc : Nat} {own E : String} {ce : Cell} {q : Addr} {mc ms : Nat} (hown : s.vm.findClass own = some m.cls) (hlocks : meth.locks = false)
    (hpass : ∀ z ∈ c.exceptionTable.toList, covers z pc = false ∨ (z.catchType ≠ 0 ∧ ∃ nm : String, (Cond.classLink own z.catchType nm).before args s = true ∧ va_Nc E nm s)) (hcell : H[q]? = some ce) (hv : ce.vm = .none) (hcl : s.vm.findClass E = some ce.cls)
    (hx : ∀ t : State, t.heap = H → s.vm.Alike t.vm → XC E s t) (hf : ∀ z ∈ locs, free z.base) (hc : cells ≤ mc) (hs : slots ≤ ms) :
    vx_W p l e R s m args below meth c H locs cells slots (vx_MQ below Qc XC args s mc ms free) (F0 m pc ls rest) q := by
  intro T hT X
  have hpl : e.platform.magicAccessors = ({} : Platform).magicAccessors := by rw [X.admits.platform]
  obtain ⟨vm', hW', X', st⟩ := X.outThrough hlocks q (g := F0 m pc ls rest) rfl rfl rfl (cell := ce) (by rw [hT]; exact hcell) (by rw [hv]; rfl)
    (by obtain ⟨k9, h9, -⟩ := Vm.findClass_spec hcl; exact ⟨k9, h9⟩) (fun z hz => by
      rcases hpass z hz with h | ⟨hz0, nm, hl1, hn1⟩
      · exact Or.inl h
      · obtain ⟨c6, hc6, hcl6⟩ := Cond.classLink_spec hown hl1 e.platform hpl
        obtain ⟨a8, b8, h1, h2, h3⟩ := hn1
        cases Option.some.inj (h1.symm.trans hcl)
        cases Option.some.inj (h2.symm.trans hc6)
        exact Or.inr ⟨hz0, _, hcl6, h3⟩)
  obtain ⟨g₀, hfr⟩ := X'.frames_eq
  have hcell9 : ((T.setVm vm').setFrames (.throwing q :: below)).heap[q]? = some ce := by
    show T.heap[q]? = some ce
    rw [hT]; exact hcell
  have hend : Ended ((T.setVm vm').setFrames (.throwing q :: below)) below (.threw q) := State.frames_setFrames _ (State.cur_lt_of_frames hfr)
  refine ⟨(T.setVm vm').setFrames (.throwing q :: below), ?_, .threw q, X'.here.running, hend, Or.inr ⟨q, rfl, E, ce, locs, hx _ hT (X'.ends _).1.alike, hcell9, hv, hcl, (X'.ends _).1, (X'.ends _).2.mono hc hs, hf⟩⟩
  rw [X.pushThrowing_eq]
  exact st
/-- a thing of a world lies in the heap -/
theorem vx_lt {D : va_G} {cl : List vw_C} {ws : va_W} {H1 : Heap} (h : va_P D cl ws H1) {k : Nat} {q : Nat × va_E} (hk : ws[k]? = some q) : q.1 < H1.size := (h k q hk).lt
end VXS
/-! ===== END ===== -/
/-! ===== BEGIN methods with a table of their own: called by a name, returning or throwing ===== -/
section VXH
/-! vx_backW, vx_callVX, vx_callSX, vx_callVW, vx_runVW, vx_runVX, vx_runSX, vx_ofWH follow the same proofs as their sisters above (Free/Laws.lean, Shelf42/LK1.lean); vx_outP calls Shelf42/NT130.lean (outThrough). -/
section
variable {l : Launch} {R : Room} {p : Program} {e : Env} {below : List Frame} {s : State} {sargs : Array Value} {y : MethodName} {len W9 : Nat}
theorem vx_backW {ws : List Cond} {rm : Room} {Pc : Array Value → State → Prop} {Qc : Array Value → State → Outcome → State → Prop} {XC : String → State → State → Prop} {mc ms : Nat} {free : Addr → Prop} {bytes : ByteArray} {maxL : Nat} {ret : Option FieldType} {hh : List (Nat × Nat × Nat × Nat)}
    (hM : vx_Met l y ws rm Pc Qc XC mc ms free) (hblind : FrameBlind Pc) (hrc : rm.cells = mc) (hrs : rm.slots = ms)
    (hframes : rm.frames + 1 ≤ R.frames) (hlocals : W9 + (maxL + 11) + rm.locals ≤ R.locals)
    (hws : ∀ w ∈ ws, ∀ a' U, s.WarmedH U.vm → w.before a' U = true) (hcode : Cond.codeWith y bytes maxL ret hh ∈ ws) (hinit : ∀ a' U, s.WarmedH U.vm → (Cond.initialized y.cls).before a' U = true) :
    vx_Back l R p e below s sargs y len W9 (PreOf R mc ms Pc) (PostOf Qc mc ms free) (vx_Post XC mc ms free) := by
  intro m meth c A g ig mk a X hg hsize hdg hW hn hp
  have h1 : (headSpec ws rm).pre.before a A.U = true := atoms_intro fun w hw => hws w hw _ _ X.warmed
  have h2 : (Cond.codeWith y bytes maxL ret hh).before a A.U = true := hws _ hcode _ _ X.warmed
  have h3 : (Cond.initialized y.cls).before a A.U = true := hinit _ _ X.warmed
  have h4 : A.cells + (headSpec ws rm).room.cells ≤ R.cells := by rw [show (headSpec ws rm).room.cells = mc from hrc]; exact hp.1
  have h5 : A.slots + (headSpec ws rm).room.slots ≤ R.slots := by rw [show (headSpec ws rm).room.slots = ms from hrs]; exact hp.2.1
  have hPc : Pc a (A.U.calling g mk a) := hblind _ _ _ _ hp.2.2
  obtain ⟨U, Ls, c0, s0⟩ := A
  dsimp only [Pt.U, Pt.locs, Pt.cells, Pt.slots] at h1 h2 h3 h4 h5 X hn hPc ⊢
  obtain ⟨m9, methY, cY, hn9, hmY, hcY, -, hlY, -⟩ := Cond.codeWith_spec h2
  cases Option.some.inj (hn9.symm.trans hn)
  obtain ⟨kY, hkY, -⟩ := className_of_methodNamed hn
  have hinitY : kY.init = .initialized := Cond.initialized_spec (findClass_of_methodNamed hn) hkY h3
  have h : At U g.method c below := by rw [hg]; exact X.here
  have hlocals9 : W9 + (maxL + 11) + (headSpec ws rm).room.locals ≤ R.locals := hlocals
  have happ : (headSpec ws rm).appliesLoose y e.platform (U.calling g mk a) = true :=
    Spec.appliesLoose_calling (g := g) h hdg hn hkY hinitY
      (X.room_calling (g := g) (R' := (headSpec ws rm).room) hsize hmY hcY hframes (by rw [hlY]; omega) h4 h5) h1
  obtain ⟨mid, hmid⟩ := h.above
  have hfr : (U.setTop g).frames = (.java g :: mid) ++ below := by rw [State.frames_setTop' g h.top, hmid]; rfl
  obtain ⟨o, s₂, hsteps, -, hend, hq⟩ := Steps.callFree hM p X.admits X.cas X.clock (acts := []) hfr happ hPc trivial
  have hq' : vx_Q Qc XC mc ms free a (U.calling g mk a) o s₂ := hq
  rw [State.frames_setTop' g h.top] at hend
  obtain ⟨g₀, hg0⟩ := Option.isSome_iff_exists.mp h.top
  obtain ⟨r, hr⟩ := State.topJava?_eq_some.mp hg0
  have hr' : (({ U with heap := s₂.heap, slotsUsed := s₂.slotsUsed } : State).setVm s₂.vm).frames = .java g₀ :: r := hr
  rcases hq' with ⟨hqc, L, hfe, hL⟩ | ⟨q, rfl, E, ce, L, hx, hce, hcv, hcl, hW₂, hsm, hL⟩
  · obtain ⟨⟨v, rfl⟩, hW₂, e2, q2, q3, q4, q5, q6⟩ := id hfe
    have e3 : s₂ = ({ (U.calling g mk a).setFrames s₂.frames with heap := s₂.heap, slotsUsed := s₂.slotsUsed } : State).setVm s₂.vm := by
      have : s₂ = ({ s₂ with vm := (U.calling g mk a).vm } : State).setVm s₂.vm := rfl
      rw [e2] at this
      exact this
    obtain ⟨c₂, i₂, len₂, hc₂, hd₂, hf₂⟩ := hend
    have hW' : U.WarmedH s₂.vm := hW₂
    have hcc : c₂ = c := by
      have h1 : s₂.code? g.method = U.code? g.method := by
        rw [State.code?_eq, State.code?_eq, hW'.alike.method?]
      exact Option.some.inj (hc₂.symm.trans (h1.trans h.code))
    subst hcc
    have hlen : len₂ = len := by rw [hdg] at hd₂; cases hd₂; rfl
    subst hlen
    have hs₂ : s₂ = (({ U with heap := s₂.heap, slotsUsed := s₂.slotsUsed } : State).setVm s₂.vm).setTop { g with pc := g.pc + len₂, stack := v.toList ++ g.stack } := by
      refine e3.trans ?_
      rw [hf₂, State.calling_eq h.top, State.setFrames_setFrames, State.setTop_of_frames _ hr', hr]
      rfl
    have hsame : U.sameButNew ({ U with heap := s₂.heap, slotsUsed := s₂.slotsUsed } : State) L mc ms := by
      refine ⟨?_, q2, q3, q4, q5, q6⟩
      obtain ⟨t, ht, -⟩ := State.frames_cons hr
      show ({ U with heap := s₂.heap, slotsUsed := s₂.slotsUsed } : State) = { U.setFrames U.frames with heap := s₂.heap, slotsUsed := s₂.slotsUsed }
      rw [State.setFrames_self ht]
    subst hg
    refine Or.inl ⟨v, ⟨(({ U with heap := s₂.heap, slotsUsed := s₂.slotsUsed } : State).setVm s₂.vm), Ls ++ L, c0 + mc, s0 + ms⟩,
      ⟨X.admits, X.cas, X.clock, X.frames, X.room, X.hears, X.method, X.code, (X.here.setHeapUsed s₂.heap s₂.slotsUsed).setVm hW'.alike, X.tail, State.WarmedH.trans X.warmed hW', X.limits, X.bytes, X.same.trans (hsame.setVm s.vm)⟩,
      ⟨g, mk, s₂, L, rfl, rfl, hqc, rfl, hL, rfl, rfl⟩, ?_⟩
    show Steps p.tables e below _ ((({ U with heap := s₂.heap, slotsUsed := s₂.slotsUsed } : State).setVm s₂.vm).setTop { g with pc := g.pc + len₂, stack := v.toList ++ g.stack })
    rw [← hs₂]
    exact hsteps
  · obtain ⟨e2, q2, q3, q4, q5, q6⟩ := id hsm
    have e3 : s₂ = ({ (U.calling g mk a).setFrames s₂.frames with heap := s₂.heap, slotsUsed := s₂.slotsUsed } : State).setVm s₂.vm := by
      have : s₂ = ({ s₂ with vm := (U.calling g mk a).vm } : State).setVm s₂.vm := rfl
      rw [e2] at this
      exact this
    have hf₂ : s₂.frames = .throwing q :: .java g :: U.frames.tail := hend
    have hW' : U.WarmedH s₂.vm := hW₂
    have hs₂ : s₂ = ((({ U with heap := s₂.heap, slotsUsed := s₂.slotsUsed } : State).setVm s₂.vm).setTop g).pushFrame (.throwing q) := by
      refine e3.trans ?_
      rw [hf₂, State.calling_eq h.top, State.setFrames_setFrames, State.pushFrame, State.frames_setTop _ hr', State.setTop_of_frames _ hr', State.setFrames_setFrames, hr]
      rfl
    have hsame : U.sameButNew ({ U with heap := s₂.heap, slotsUsed := s₂.slotsUsed } : State) L mc ms := by
      refine ⟨?_, q2, q3, q4, q5, q6⟩
      obtain ⟨t, ht, -⟩ := State.frames_cons hr
      show ({ U with heap := s₂.heap, slotsUsed := s₂.slotsUsed } : State) = { U.setFrames U.frames with heap := s₂.heap, slotsUsed := s₂.slotsUsed }
      rw [State.setFrames_self ht]
    subst hg
    refine Or.inr ⟨q, ⟨(({ U with heap := s₂.heap, slotsUsed := s₂.slotsUsed } : State).setVm s₂.vm), Ls ++ L, c0 + mc, s0 + ms⟩,
      ⟨X.admits, X.cas, X.clock, X.frames, X.room, X.hears, X.method, X.code, (X.here.setHeapUsed s₂.heap s₂.slotsUsed).setVm hW'.alike, X.tail, State.WarmedH.trans X.warmed hW', X.limits, X.bytes, X.same.trans (hsame.setVm s.vm)⟩,
      ⟨g, mk, s₂, L, E, ce, rfl, rfl, hx, hce, hcv, hcl, rfl, hL, rfl, rfl⟩, ?_⟩
    show Steps p.tables e below _ (((({ U with heap := s₂.heap, slotsUsed := s₂.slotsUsed } : State).setVm s₂.vm).setTop g).pushFrame (.throwing q))
    rw [← hs₂]
    exact hsteps
end
variable {p : Program} {l : Launch} {e : Env} {R : Room} {s : State} {m : MethodId} {args : Array Value} {below : List Frame} {meth : Method} {c : Code} {T : State} {H : Heap} {locs : List Loc} {cells slots : Nat}
theorem vx_callVX (X : Stand p l e R s m args below meth c T locs cells slots) (hexec : p.tables.exec = Jvm.exec) {own C : String} {index : Nat} {y : MethodName} {bytes : ByteArray} {maxL : Nat} {ret : Option FieldType} {hh : List (Nat × Nat × Nat × Nat)}
    (hown : s.vm.findClass own = some m.cls) (hlink : (Cond.methodLink own index y).before args s = true) (hinst : (Cond.instanceMethod y).before args s = true) (hsel : (Cond.selects C y y).before args s = true)
    (hcode : (Cond.codeWith y bytes maxL ret hh).before args s = true) (hy : y.cls ≠ "java/lang/invoke/MethodHandle" ∧ y.cls ≠ "java/lang/invoke/VarHandle")
    {W9 : Nat} {Pre : Pt → Array Value → Prop} {Post : Pt → Array Value → Option Value → Pt → Prop} {PostX : Pt → Array Value → Addr → Pt → Prop} (hK : vx_Back l R p e below s args y 3 W9 Pre Post PostX)
    {b : Addr} {cellB : Cell} (hcell : T.heap[b]? = some cellB) (hobj : cellB.vm.isStatics = false) (hcls : s.vm.findClass C = some cellB.cls)
    {g : JFrame} (hg : g.method = m) (hsize : g.locals.size = c.maxLocals) {argsL rest : List Value} (hlen : ∀ sig, parseMethodDescriptor y.desc = some sig → argsL.length = sig.parameters.length)
    (hstack : g.stack = argsL.reverse ++ .ref b :: rest) (hW : 2 * g.monitorRoom + (rest.map fun v => v.category).sum ≤ W9) (hdg : decode c.code g.pc = .ok (.invokevirtual index, 3))
    (hpre : ∀ vm₁, s.WarmedH vm₁ → Pre ⟨T.setVm vm₁, locs, cells, slots⟩ (Value.ref b :: argsL).toArray) :
    (∃ (v : Option Value) (vm₁ : Vm) (B : Pt), s.WarmedH vm₁ ∧ Stand p l e R s m args below meth c B.U B.locs B.cells B.slots ∧ Post ⟨T.setVm vm₁, locs, cells, slots⟩ (Value.ref b :: argsL).toArray v B ∧
      ∀ target, Steps p.tables e below (B.U.setTop { g with pc := g.pc + 3, stack := v.toList ++ rest }) target → Steps p.tables e below (T.setTop g) target) ∨
    (∃ (q : Addr) (vm₁ : Vm) (B : Pt), s.WarmedH vm₁ ∧ Stand p l e R s m args below meth c B.U B.locs B.cells B.slots ∧ PostX ⟨T.setVm vm₁, locs, cells, slots⟩ (Value.ref b :: argsL).toArray q B ∧
      Steps p.tables e below (T.setTop g) ((B.U.setTop { g with stack := rest }).pushFrame (.throwing q))) := by
  obtain ⟨mk, methM, hnamed, hmethM, hstM, habM⟩ := Cond.instanceMethod_spec hinst
  obtain ⟨m8, methM', cM, hn8, hmethM', -, -, -, -, -, -, hsigM⟩ := Cond.codeWith_spec hcode
  cases Option.some.inj (hn8.symm.trans hnamed)
  cases hmethM.symm.trans hmethM'
  obtain ⟨c2, r2, m2, q1, q2, q3, q4, kP, hkP, hkPi⟩ := Cond.selects_spec hsel
  cases hcls.symm.trans q1
  cases (State.methodFound?_of_named hnamed hy).symm.trans q2
  cases hnamed.symm.trans q3
  have hselP : selectMethod e.platform s.vm cellB.cls mk = .method mk := by rw [Launch.admits_selectMethod X.admits]; exact q4
  obtain ⟨vm₁, X₁, hstep₁⟩ := X.invokevirtual hexec hown hlink hnamed hmethM hstM hkP hkPi hy (a := b) (cell := cellB) hcell
    (fun z h => by rw [h] at hobj; cases hobj) hselP hmethM habM hkP hkPi (g := g) hg (argsL := argsL) (rest := rest) (hlen _ hsigM) hstack hdg
  rcases hK m meth c ⟨T.setVm vm₁, locs, cells, slots⟩ { g with stack := rest } (.invokevirtual index) mk (Value.ref b :: argsL).toArray X₁ hg hsize hdg hW (X₁.named hnamed) (hpre vm₁ X₁.warmed) with ⟨v, B, X', hpost, hsteps⟩ | ⟨q, B, X', hpost, hsteps⟩
  · exact Or.inl ⟨v, vm₁, B, X₁.warmed, X', hpost, fun target h => hstep₁ _ fun acts => by rw [doInvoke_state]; exact hsteps.trans h⟩
  · exact Or.inr ⟨q, vm₁, B, X₁.warmed, X', hpost, hstep₁ _ fun acts => by rw [doInvoke_state]; exact hsteps⟩
theorem vx_callSX (X : Stand p l e R s m args below meth c T locs cells slots) (hexec : p.tables.exec = Jvm.exec) {own : String} {index : Nat} {y : MethodName} {bytes : ByteArray} {maxL : Nat} {ret : Option FieldType} {hh : List (Nat × Nat × Nat × Nat)}
    (hown : s.vm.findClass own = some m.cls) (hlink : (Cond.methodLink own index y).before args s = true) (hstat : (Cond.static y).before args s = true) (hinit : (Cond.initialized y.cls).before args s = true)
    (hcode : (Cond.codeWith y bytes maxL ret hh).before args s = true) (hy : y.cls ≠ "java/lang/invoke/MethodHandle" ∧ y.cls ≠ "java/lang/invoke/VarHandle")
    {W9 : Nat} {Pre : Pt → Array Value → Prop} {Post : Pt → Array Value → Option Value → Pt → Prop} {PostX : Pt → Array Value → Addr → Pt → Prop} (hK : vx_Back l R p e below s args y 3 W9 Pre Post PostX)
    {g : JFrame} (hg : g.method = m) (hsize : g.locals.size = c.maxLocals) {argsL rest : List Value} (hlen : ∀ sig, parseMethodDescriptor y.desc = some sig → argsL.length = sig.parameters.length)
    (hstack : g.stack = argsL.reverse ++ rest) (hW : 2 * g.monitorRoom + (rest.map fun v => v.category).sum ≤ W9) (hdg : decode c.code g.pc = .ok (.invokestatic index, 3))
    (hpre : ∀ vm₁, s.WarmedH vm₁ → Pre ⟨T.setVm vm₁, locs, cells, slots⟩ argsL.toArray) :
    (∃ (v : Option Value) (vm₁ : Vm) (B : Pt), s.WarmedH vm₁ ∧ Stand p l e R s m args below meth c B.U B.locs B.cells B.slots ∧ Post ⟨T.setVm vm₁, locs, cells, slots⟩ argsL.toArray v B ∧
      ∀ target, Steps p.tables e below (B.U.setTop { g with pc := g.pc + 3, stack := v.toList ++ rest }) target → Steps p.tables e below (T.setTop g) target) ∨
    (∃ (q : Addr) (vm₁ : Vm) (B : Pt), s.WarmedH vm₁ ∧ Stand p l e R s m args below meth c B.U B.locs B.cells B.slots ∧ PostX ⟨T.setVm vm₁, locs, cells, slots⟩ argsL.toArray q B ∧
      Steps p.tables e below (T.setTop g) ((B.U.setTop { g with stack := rest }).pushFrame (.throwing q))) := by
  obtain ⟨mk, methM, cM, hnamed, hmethM, -, -, -, -, -, -, hsigM⟩ := Cond.codeWith_spec hcode
  have hstatic : methM.isStatic = true := Cond.static_spec hnamed hmethM hstat
  obtain ⟨kP, hkP, -⟩ := className_of_methodNamed hnamed
  have hinitP : kP.init = .initialized := Cond.initialized_spec (findClass_of_methodNamed hnamed) hkP hinit
  obtain ⟨vm₁, X₁, hstep₁⟩ := X.invokestatic hexec hown hlink hnamed hmethM hstatic hkP hinitP hy (g := g) hg (argsL := argsL) (rest := rest) (hlen _ hsigM) hstack hdg
  rcases hK m meth c ⟨T.setVm vm₁, locs, cells, slots⟩ { g with stack := rest } (.invokestatic index) mk argsL.toArray X₁ hg hsize hdg hW (X₁.named hnamed) (hpre vm₁ X₁.warmed) with ⟨v, B, X', hpost, hsteps⟩ | ⟨q, B, X', hpost, hsteps⟩
  · exact Or.inl ⟨v, vm₁, B, X₁.warmed, X', hpost, fun target h => hstep₁ _ fun acts => by rw [doInvoke_state]; exact hsteps.trans h⟩
  · exact Or.inr ⟨q, vm₁, B, X₁.warmed, X', hpost, hstep₁ _ fun acts => by rw [doInvoke_state]; exact hsteps⟩
theorem vx_callVW (X : Stand p l e R s m args below meth c T locs cells slots) (hexec : p.tables.exec = Jvm.exec) {own C : String} {index : Nat} {y : MethodName} {bytes : ByteArray} {maxL : Nat} {ret : Option FieldType} {hh : List (Nat × Nat × Nat × Nat)}
    (hown : s.vm.findClass own = some m.cls) (hlink : (Cond.methodLink own index y).before args s = true) (hinst : (Cond.instanceMethod y).before args s = true) (hsel : (Cond.selects C y y).before args s = true)
    (hcode : (Cond.codeWith y bytes maxL ret hh).before args s = true) (hy : y.cls ≠ "java/lang/invoke/MethodHandle" ∧ y.cls ≠ "java/lang/invoke/VarHandle")
    {W9 : Nat} {Pre : Pt → Array Value → Prop} {Post : Pt → Array Value → Option Value → Pt → Prop} (hK : Back l R p e below s args y 3 W9 Pre Post)
    {b : Addr} {cellB : Cell} (hcell : T.heap[b]? = some cellB) (hobj : cellB.vm.isStatics = false) (hcls : s.vm.findClass C = some cellB.cls)
    {g : JFrame} (hg : g.method = m) (hsize : g.locals.size = c.maxLocals) {argsL rest : List Value} (hlen : ∀ sig, parseMethodDescriptor y.desc = some sig → argsL.length = sig.parameters.length)
    (hstack : g.stack = argsL.reverse ++ .ref b :: rest) (hW : 2 * g.monitorRoom + (rest.map fun v => v.category).sum ≤ W9) (hdg : decode c.code g.pc = .ok (.invokevirtual index, 3))
    (hpre : ∀ vm₁, s.WarmedH vm₁ → Pre ⟨T.setVm vm₁, locs, cells, slots⟩ (Value.ref b :: argsL).toArray) :
    ∃ (v : Option Value) (vm₁ : Vm) (B : Pt), s.WarmedH vm₁ ∧ Stand p l e R s m args below meth c B.U B.locs B.cells B.slots ∧ Post ⟨T.setVm vm₁, locs, cells, slots⟩ (Value.ref b :: argsL).toArray v B ∧
      ∀ target, Steps p.tables e below (B.U.setTop { g with pc := g.pc + 3, stack := v.toList ++ rest }) target → Steps p.tables e below (T.setTop g) target := by
  obtain ⟨mk, methM, hnamed, hmethM, hstM, habM⟩ := Cond.instanceMethod_spec hinst
  obtain ⟨m8, methM', cM, hn8, hmethM', -, -, -, -, -, -, hsigM⟩ := Cond.codeWith_spec hcode
  cases Option.some.inj (hn8.symm.trans hnamed)
  cases hmethM.symm.trans hmethM'
  obtain ⟨c2, r2, m2, q1, q2, q3, q4, kP, hkP, hkPi⟩ := Cond.selects_spec hsel
  cases hcls.symm.trans q1
  cases (State.methodFound?_of_named hnamed hy).symm.trans q2
  cases hnamed.symm.trans q3
  have hselP : selectMethod e.platform s.vm cellB.cls mk = .method mk := by rw [Launch.admits_selectMethod X.admits]; exact q4
  obtain ⟨vm₁, X₁, hstep₁⟩ := X.invokevirtual hexec hown hlink hnamed hmethM hstM hkP hkPi hy (a := b) (cell := cellB) hcell
    (fun z h => by rw [h] at hobj; cases hobj) hselP hmethM habM hkP hkPi (g := g) hg (argsL := argsL) (rest := rest) (hlen _ hsigM) hstack hdg
  obtain ⟨v, B, X', hpost, hsteps⟩ := hK m meth c ⟨T.setVm vm₁, locs, cells, slots⟩ { g with stack := rest } (.invokevirtual index) mk (Value.ref b :: argsL).toArray X₁ hg hsize hdg hW (X₁.named hnamed) (hpre vm₁ X₁.warmed)
  exact ⟨v, vm₁, B, X₁.warmed, X', hpost, fun target h => hstep₁ _ fun acts => by rw [doInvoke_state]; exact hsteps.trans h⟩
abbrev vx_CVW (R : Room) (s : State) (args : Array Value) (own C : String) (index : Nat) (y : MethodName) (bytes : ByteArray) (maxL : Nat) (ret : Option FieldType) (hh : List (Nat × Nat × Nat × Nat)) (ws : List Cond) (rm : Room) (mc ms n : Nat) : Prop :=
  (rm.cells = mc ∧ rm.slots = ms ∧ rm.frames + 1 ≤ R.frames ∧ 8 + (maxL + 11) + rm.locals ≤ R.locals ∧ (∀ w ∈ ws, ∀ (a' : Array Value) (U : State), s.WarmedH U.vm → w.before a' U = true) ∧ Cond.codeWith y bytes maxL ret hh ∈ ws) ∧
  (Cond.codeWith y bytes maxL ret hh).before args s = true ∧ (Cond.initialized y.cls).before args s = true ∧ (y.cls ≠ "java/lang/invoke/MethodHandle" ∧ y.cls ≠ "java/lang/invoke/VarHandle") ∧
  (∀ sig, parseMethodDescriptor y.desc = some sig → n = sig.parameters.length) ∧ (Cond.methodLink own index y).before args s = true ∧ (Cond.instanceMethod y).before args s = true ∧ (Cond.selects C y y).before args s = true
theorem vx_cwVW {own C : String} {index maxL mc ms : Nat} {y : MethodName} {bytes : ByteArray} {ret : Option FieldType} {hh : List (Nat × Nat × Nat × Nat)} {Ts ws ws' : List Cond} {rm : Room} (n : Nat) (ht : ∀ w ∈ Ts, w.before args s = true) (hT : GoodIn Ts (wsV own index C y ws)) (hw : ws = Cond.codeWith y bytes maxL ret hh :: ws') (hrc : rm.cells = mc) (hrs : rm.slots = ms)
    (hd : y.cls = C ∧ y.cls ≠ "java/lang/invoke/MethodHandle" ∧ y.cls ≠ "java/lang/invoke/VarHandle" ∧ (parseMethodDescriptor y.desc).map (fun d => d.parameters.length) = some n) (hR : rm.frames + 1 ≤ R.frames ∧ 8 + (maxL + 11) + rm.locals ≤ R.locals) :
    vx_CVW R s args own C index y bytes maxL ret hh ws rm mc ms n := by
  obtain ⟨hC, hd⟩ := hd
  subst hC
  have ok : ∀ w ∈ wsV own index y.cls y ws, w.before args s = true := fun w h => ht w (hT w h).1
  have hG : GoodIn Ts ws := fun w h => hT w (by unfold wsV; exact List.mem_append_right _ h)
  have hc : Cond.codeWith y bytes maxL ret hh ∈ ws := by rw [hw]; exact List.mem_cons_self
  refine ⟨⟨hrc, hrs, hR.1, hR.2, pay_in ht hG, hc⟩, ht _ (hG _ hc).1, ok _ (by simp [wsV]), ⟨hd.1, hd.2.1⟩, fun sig h => ?_, ok _ (by simp [wsV]), ok _ (by simp [wsV]), ok _ (by simp [wsV])⟩
  have h2 := hd.2.2
  rw [h] at h2
  exact (Option.some.inj h2).symm
theorem vx_runVW {y : MethodName} {bytes cc : ByteArray} {maxL nL mc ms n index : Nat} {ret : Option FieldType} {hh : List (Nat × Nat × Nat × Nat)} {ws : List Cond} {rm : Room} {Pc : Array Value → State → Prop} {Qc : Array Value → State → Outcome → State → Prop} {free : Addr → Prop} {Ts : List Cond} {own C : String} {b : Addr} {As rest : List Value} {g : JFrame}
    (S : CallFix p m c cc nL s args Ts own) (hM : Met l y ws rm Pc Qc mc ms free) (cw : vx_CVW R s args own C index y bytes maxL ret hh ws rm mc ms n) (hp : PreV s H C b Pc As)
    (hg : g.method = m) (hn : As.length = n) (hsize : g.locals.size = nL) (hstack : g.stack = As.reverse ++ .ref b :: rest) (hW : 2 * g.monitorRoom + (rest.map fun v => v.category).sum ≤ 8) (hdg : decode cc g.pc = .ok (.invokevirtual index, 3)) (hf : cells + mc ≤ R.cells ∧ slots + ms ≤ R.slots) :
    va_Run p l e R s m args below meth c H locs cells slots mc ms g rest (Qc (Value.ref b :: As).toArray) free := by
  obtain ⟨⟨hrc, hrs, hfr, hlo, hws, hcw⟩, hcode, hini, hy, hlen, hl, hin, hse⟩ := cw
  have hK : Back l R p e below s args y 3 8 (PreOf R mc ms Pc) (PostOf Qc mc ms free) := va_backW (hh := hh) (bytes := bytes) (maxL := maxL) (ret := ret) hM hp.1 hrc hrs hfr hlo hws hcw (fun a' U hW => word_at hW (Or.inl (by first | rfl | simp [Cond.onTables, Cond.keeps, Cond.steady])) hini)
  obtain ⟨hx, hb, hml, ho, -⟩ := S
  obtain ⟨-, ⟨cellB, hcB, hoB, hclB⟩, hPc⟩ := hp
  intro T hT X
  obtain ⟨v, vm₁, ⟨U', l2, c2, s2⟩, hW₁, X', ⟨g', mk, t, L, e1, e2, hq, h1, hL, h2, h3⟩, st⟩ := vx_callVW X hx (C := C) (hh := hh) (bytes := bytes) (maxL := maxL) (ret := ret) ho hl hin hse hcode hy hK (by rw [hT]; exact hcB) hoB hclB hg (hsize.trans hml.symm) (argsL := As) (rest := rest) (fun sig h => hn.trans (hlen sig h)) hstack hW (by rw [hb]; exact hdg)
    (fun vm₁ hW₁ => ⟨hf.1, hf.2, hPc (T.setVm vm₁) hT hW₁⟩)
  dsimp only [Pt.U, Pt.locs, Pt.cells, Pt.slots] at X' e1 e2 h1 h2 h3 st
  subst h1; subst h2; subst h3
  exact ⟨v, (T.setVm vm₁).calling g' mk (Value.ref b :: As).toArray, t, U', L, hT, X', hL, e1, e2, hq, st⟩
section
variable {y : MethodName} {bytes cc : ByteArray} {maxL nL mc ms n index : Nat} {ret : Option FieldType} {ws : List Cond} {rm : Room} {Pc : Array Value → State → Prop} {Qc : Array Value → State → Outcome → State → Prop} {XC : String → State → State → Prop} {free : Addr → Prop} {Ts : List Cond} {own C : String} {b : Addr} {As rest : List Value} {g : JFrame}
theorem vx_runVX {hh : List (Nat × Nat × Nat × Nat)} (S : CallFix p m c cc nL s args Ts own) (hM : vx_Met l y ws rm Pc Qc XC mc ms free) (cw : vx_CVW R s args own C index y bytes maxL ret hh ws rm mc ms n) (hp : PreV s H C b Pc As)
    (hg : g.method = m) (hn : As.length = n) (hsize : g.locals.size = nL) (hstack : g.stack = As.reverse ++ .ref b :: rest) (hW : 2 * g.monitorRoom + (rest.map fun v => v.category).sum ≤ 8) (hdg : decode cc g.pc = .ok (.invokevirtual index, 3)) (hf : cells + mc ≤ R.cells ∧ slots + ms ≤ R.slots) :
    vx_Run p l e R s m args below meth c H locs cells slots mc ms g rest (Qc (Value.ref b :: As).toArray) XC free := by
  obtain ⟨⟨hrc, hrs, hfr, hlo, hws, hcw⟩, hcode, hini, hy, hlen, hl, hin, hse⟩ := cw
  have hK : vx_Back l R p e below s args y 3 8 (PreOf R mc ms Pc) (PostOf Qc mc ms free) (vx_Post XC mc ms free) := vx_backW (hh := hh) (bytes := bytes) (maxL := maxL) (ret := ret) hM hp.1 hrc hrs hfr hlo hws hcw (fun a' U hW => word_at hW (Or.inl (by first | rfl | simp [Cond.onTables, Cond.keeps, Cond.steady])) hini)
  obtain ⟨hx, hb, hml, ho, -⟩ := S
  obtain ⟨-, ⟨cellB, hcB, hoB, hclB⟩, hPc⟩ := hp
  intro T hT X
  rcases vx_callVX X hx (C := C) (hh := hh) (bytes := bytes) (maxL := maxL) (ret := ret) ho hl hin hse hcode hy hK (by rw [hT]; exact hcB) hoB hclB hg (hsize.trans hml.symm) (argsL := As) (rest := rest) (fun sig h => hn.trans (hlen sig h)) hstack hW (by rw [hb]; exact hdg)
    (fun vm₁ hW₁ => ⟨hf.1, hf.2, hPc (T.setVm vm₁) hT hW₁⟩) with ⟨v, vm₁, ⟨U', l2, c2, s2⟩, hW₁, X', ⟨g', mk, t, L, e1, e2, hq, h1, hL, h2, h3⟩, st⟩ | ⟨q, vm₁, ⟨U', l2, c2, s2⟩, hW₁, X', ⟨g', mk, t, L, E, ce, e1, e2, hq, hce, hcv, hcl, h1, hL, h2, h3⟩, st⟩
  · dsimp only [Pt.U, Pt.locs, Pt.cells, Pt.slots] at X' e1 e2 h1 h2 h3 st
    subst h1; subst h2; subst h3
    exact Or.inl ⟨v, (T.setVm vm₁).calling g' mk (Value.ref b :: As).toArray, t, U', L, hT, X', hL, e1, e2, hq, st⟩
  · dsimp only [Pt.U, Pt.locs, Pt.cells, Pt.slots] at X' e1 e2 h1 h2 h3 st hcl
    subst h1; subst h2; subst h3
    exact Or.inr ⟨q, (T.setVm vm₁).calling g' mk (Value.ref b :: As).toArray, t, U', L, E, ce, hT, X', hL, e1, e2, hq, hce, hcv, vx_cls hW₁ hcl, st⟩
theorem vx_runSX {hh : List (Nat × Nat × Nat × Nat)} (S : CallFix p m c cc nL s args Ts own) (hM : vx_Met l y ws rm Pc Qc XC mc ms free) (cw : vx_CSW R s args own index y bytes maxL ret hh ws rm mc ms n) (hp : PreS s H Pc As)
    (hg : g.method = m) (hn : As.length = n) (hsize : g.locals.size = nL) (hstack : g.stack = As.reverse ++ rest) (hW : 2 * g.monitorRoom + (rest.map fun v => v.category).sum ≤ 8) (hdg : decode cc g.pc = .ok (.invokestatic index, 3)) (hf : cells + mc ≤ R.cells ∧ slots + ms ≤ R.slots) :
    vx_Run p l e R s m args below meth c H locs cells slots mc ms g rest (Qc As.toArray) XC free := by
  obtain ⟨⟨hrc, hrs, hfr, hlo, hws, hcw⟩, hcode, hini, hy, hlen, hl, hstt⟩ := cw
  have hK : vx_Back l R p e below s args y 3 8 (PreOf R mc ms Pc) (PostOf Qc mc ms free) (vx_Post XC mc ms free) := vx_backW (hh := hh) (bytes := bytes) (maxL := maxL) (ret := ret) hM hp.1 hrc hrs hfr hlo hws hcw (fun a' U hW => word_at hW (Or.inl (by first | rfl | simp [Cond.onTables, Cond.keeps, Cond.steady])) hini)
  obtain ⟨hx, hb, hml, ho, -⟩ := S
  intro T hT X
  rcases vx_callSX X hx (hh := hh) (bytes := bytes) (maxL := maxL) (ret := ret) ho hl hstt hini hcode hy hK hg (hsize.trans hml.symm) (argsL := As) (rest := rest) (fun sig h => hn.trans (hlen sig h)) hstack hW (by rw [hb]; exact hdg)
    (fun vm₁ hW₁ => ⟨hf.1, hf.2, hp.2 (T.setVm vm₁) hT hW₁⟩) with ⟨v, vm₁, ⟨U', l2, c2, s2⟩, hW₁, X', ⟨g', mk, t, L, e1, e2, hq, h1, hL, h2, h3⟩, st⟩ | ⟨q, vm₁, ⟨U', l2, c2, s2⟩, hW₁, X', ⟨g', mk, t, L, E, ce, e1, e2, hq, hce, hcv, hcl, h1, hL, h2, h3⟩, st⟩
  · dsimp only [Pt.U, Pt.locs, Pt.cells, Pt.slots] at X' e1 e2 h1 h2 h3 st
    subst h1; subst h2; subst h3
    exact Or.inl ⟨v, (T.setVm vm₁).calling g' mk As.toArray, t, U', L, hT, X', hL, e1, e2, hq, st⟩
  · dsimp only [Pt.U, Pt.locs, Pt.cells, Pt.slots] at X' e1 e2 h1 h2 h3 st hcl
    subst h1; subst h2; subst h3
    exact Or.inr ⟨q, (T.setVm vm₁).calling g' mk As.toArray, t, U', L, E, ce, hT, X', hL, e1, e2, hq, hce, hcv, vx_cls hW₁ hcl, st⟩
end
end VXH
theorem vx_ofWH {l : Launch} {y : MethodName} {ws ws' : List Cond} {rm : Room} {Pc : Array Value → State → Prop} {Qc : Array Value → State → Outcome → State → Prop} {XC : String → State → State → Prop} {mc ms : Nat} {free : Addr → Prop} {cc : ByteArray} {maxL : Nat} {ret : Option FieldType} {hh : List (Nat × Nat × Nat × Nat)}
    (hy : plainName y.cls = true) (hw : ws = Cond.codeWith y cc maxL ret hh :: ws')
    (body : ∀ p e s m args below meth c s₁, BodyLoose p l y (headSpec ws rm) cc maxL ret e s m args below meth c s₁ → c.maxLocals = maxL → Pc args s →
      W p l e (headSpec ws rm).room s m args below meth c s.heap [] 0 0 (vx_MQ below Qc XC args s mc ms free) (entryFrame m args maxL)) : vx_Met l y ws rm Pc Qc XC mc ms free := by
  refine MetFree.of_bodyS (code := cc) (maxLocals := maxL) (ret := ret) hy ?_ ?_
  · intro args s m h hn
    obtain ⟨m9, meth, c, hn9, h1, h2, h3, h4, -, h5, h6, -⟩ := Cond.codeWith_spec (atoms_spec (ws := ws) h _ (by rw [hw]; exact List.mem_cons_self))
    cases hn.symm.trans hn9
    exact ⟨meth, c, h1, h2, h3, h4, h5, h6⟩
  · intro p e s m args below meth c s₁ B hml hP _
    have hh0 : s₁.heap = s.heap := by rw [B.state]; rfl
    obtain ⟨t, a1, o, b1, b2, b3⟩ := body p e s m args below meth c s₁ B hml hP s₁ hh0 (Stand.of_body B)
    exact ⟨t, o, a1, b1, b2, b3⟩
/-! ===== END ===== -/
/-! ===== BEGIN a constructor that throws (launches without stack traces) ===== -/
section VXIA
variable {p : Program} {l : Launch} {e : Env} {R : Room} {s : State} {m : MethodId} {args : Array Value} {below : List Frame} {meth : Method} {c : Code} {T : State} {locs : List Loc} {cells slots : Nat}
theorem vx_callI (X : Stand p l e R s m args below meth c T locs cells slots) (hexec : p.tables.exec = Jvm.exec) {own : String} {index : Nat} {y : MethodName} {bytes : ByteArray} {maxL : Nat}
    (hown : s.vm.findClass own = some m.cls) (hy1 : y.name = "<init>") (hlink : (Cond.methodLink own index y).before args s = true) (hinst : (Cond.instanceMethod y).before args s = true)
    (hcode : (Cond.code y bytes maxL none).before args s = true) (hy : y.cls ≠ "java/lang/invoke/MethodHandle" ∧ y.cls ≠ "java/lang/invoke/VarHandle")
    {W9 : Nat} {Pre : Pt → Array Value → Prop} {Post : Pt → Array Value → Option Value → Pt → Prop} {PostX : Pt → Array Value → Addr → Pt → Prop} (hK : vx_Back l R p e below s args y 3 W9 Pre Post PostX)
    {g : JFrame} (hg : g.method = m) (hsize : g.locals.size = c.maxLocals) {a : Addr} {argsL rest : List Value} (hlen : ∀ sig, parseMethodDescriptor y.desc = some sig → argsL.length = sig.parameters.length)
    (hstack : g.stack = argsL.reverse ++ .ref a :: rest) (hW : 2 * g.monitorRoom + (rest.map fun v => v.category).sum ≤ W9) (hdg : decode c.code g.pc = .ok (.invokespecial index, 3))
    (hpre : ∀ vm₁, s.WarmedH vm₁ → Pre ⟨T.setVm vm₁, locs, cells, slots⟩ (Value.ref a :: argsL).toArray) :
    (∃ (v : Option Value) (vm₁ : Vm) (B : Pt), s.WarmedH vm₁ ∧ Stand p l e R s m args below meth c B.U B.locs B.cells B.slots ∧ Post ⟨T.setVm vm₁, locs, cells, slots⟩ (Value.ref a :: argsL).toArray v B ∧
      ∀ target, Steps p.tables e below (B.U.setTop { g with pc := g.pc + 3, stack := v.toList ++ rest }) target → Steps p.tables e below (T.setTop g) target) ∨
    (∃ (q : Addr) (vm₁ : Vm) (B : Pt), s.WarmedH vm₁ ∧ Stand p l e R s m args below meth c B.U B.locs B.cells B.slots ∧ PostX ⟨T.setVm vm₁, locs, cells, slots⟩ (Value.ref a :: argsL).toArray q B ∧
      Steps p.tables e below (T.setTop g) ((B.U.setTop { g with stack := rest }).pushFrame (.throwing q))) := by
  subst hg
  have hpl : e.platform.magicAccessors = ({} : Platform).magicAccessors := by rw [X.admits.platform]
  obtain ⟨mk, methM, cM, kP, vm₁, hnamed, hmethM, hcodeM, -, hlocalsM, -, hkP, -, hW₁, hstep₁⟩ := Steps.initColdArgs (e := e) X.here hexec X.warmed hpl hown hy1 hy hlink hinst hcode (f := g) rfl hlen hstack hdg
  have X₁ := X.noted hW₁
  rcases hK g.method meth c ⟨T.setVm vm₁, locs, cells, slots⟩ { g with stack := rest } (.invokespecial index) mk (Value.ref a :: argsL).toArray X₁ rfl hsize hdg hW (X₁.named hnamed) (hpre vm₁ X₁.warmed) with ⟨v, B, X', hpost, hsteps⟩ | ⟨q, B, X', hpost, hsteps⟩
  · exact Or.inl ⟨v, vm₁, B, X₁.warmed, X', hpost, fun target h => hstep₁ _ fun acts => by rw [doInvoke_state]; exact hsteps.trans h⟩
  · exact Or.inr ⟨q, vm₁, B, X₁.warmed, X', hpost, hstep₁ _ fun acts => by rw [doInvoke_state]; exact hsteps⟩
end VXIA
section VXIB
variable {p : Program} {l : Launch} {e : Env} {R : Room} {s : State} {m : MethodId} {args : Array Value} {below : List Frame} {meth : Method} {c : Code} {H : Heap} {locs : List Loc} {cells slots : Nat}
variable {y : MethodName} {bytes cc : ByteArray} {maxL nL mc ms n index : Nat} {ret : Option FieldType} {ws : List Cond} {rm : Room} {Pc : Array Value → State → Prop} {Qc : Array Value → State → Outcome → State → Prop} {XC : String → State → State → Prop} {free : Addr → Prop} {Ts : List Cond} {own C : String} {b : Addr} {As rest : List Value} {g : JFrame}
theorem vx_runI (S : CallFix p m c cc nL s args Ts own) (hM : vx_Met l y ws rm Pc Qc XC mc ms free) (cw : CallB R s args own index y bytes maxL none ws rm mc ms n ∧ y.name = "<init>" ∧ (Cond.instanceMethod y).before args s = true) (hp : PreS s H Pc (.ref b :: As))
    (hg : g.method = m) (hn : As.length = n) (hsize : g.locals.size = nL) (hstack : g.stack = As.reverse ++ .ref b :: rest) (hW : 2 * g.monitorRoom + (rest.map fun v => v.category).sum ≤ 8) (hdg : decode cc g.pc = .ok (.invokespecial index, 3)) (hf : cells + mc ≤ R.cells ∧ slots + ms ≤ R.slots) :
    vx_Run p l e R s m args below meth c H locs cells slots mc ms g rest (Qc (Value.ref b :: As).toArray) XC free := by
  have hK : vx_Back l R p e below s args y 3 8 (PreOf R mc ms Pc) (PostOf Qc mc ms free) (vx_Post XC mc ms free) := vx_callBack cw.1 hM hp.1
  obtain ⟨⟨-, -, -, -, -, -, hcode, -, hy, hlen, hl⟩, hy1, hin⟩ := cw
  obtain ⟨hx, hb, hml, ho, -⟩ := S
  have hPc := hp.2
  intro T hT X
  rcases vx_callI X hx (bytes := bytes) (maxL := maxL) ho hy1 hl hin hcode hy hK hg (hsize.trans hml.symm) (a := b) (argsL := As) (rest := rest) (fun sig h => hn.trans (hlen sig h)) hstack hW (by rw [hb]; exact hdg)
    (fun vm₁ hW₁ => ⟨hf.1, hf.2, hPc (T.setVm vm₁) hT hW₁⟩) with ⟨v, vm₁, ⟨U', l2, c2, s2⟩, hW₁, X', ⟨g', mk, t, L, e1, e2, hq, h1, hL, h2, h3⟩, st⟩ | ⟨q, vm₁, ⟨U', l2, c2, s2⟩, hW₁, X', ⟨g', mk, t, L, E, ce, e1, e2, hq, hce, hcv, hcl, h1, hL, h2, h3⟩, st⟩
  · dsimp only [Pt.U, Pt.locs, Pt.cells, Pt.slots] at X' e1 e2 h1 h2 h3 st
    subst h1; subst h2; subst h3
    exact Or.inl ⟨v, (T.setVm vm₁).calling g' mk (Value.ref b :: As).toArray, t, U', L, hT, X', hL, e1, e2, hq, st⟩
  · dsimp only [Pt.U, Pt.locs, Pt.cells, Pt.slots] at X' e1 e2 h1 h2 h3 st hcl
    subst h1; subst h2; subst h3
    exact Or.inr ⟨q, (T.setVm vm₁).calling g' mk (Value.ref b :: As).toArray, t, U', L, E, ce, hT, X', hL, e1, e2, hq, hce, hcv, vx_cls hW₁ hcl, st⟩
end VXIB
/-! ===== END ===== -/
/-! ===== BEGIN a private constructor of a nest mate that throws ===== -/
section VXIC
variable {p : Program} {l : Launch} {e : Env} {R : Room} {s : State} {m : MethodId} {args : Array Value} {below : List Frame} {meth : Method} {c : Code} {T : State} {locs : List Loc} {cells slots : Nat}
theorem vx_callIN (X : Stand p l e R s m args below meth c T locs cells slots) (hexec : p.tables.exec = Jvm.exec) {own : String} {index : Nat} {host : String} {y : MethodName} {bytes : ByteArray} {maxL : Nat}
    (hown : s.vm.findClass own = some m.cls) (hy1 : y.name = "<init>") (hlink : (Cond.methodLinkNest own index y host).before args s = true) (hinst : (Cond.instanceMethod y).before args s = true)
    (hcode : (Cond.code y bytes maxL none).before args s = true) (hy : y.cls ≠ "java/lang/invoke/MethodHandle" ∧ y.cls ≠ "java/lang/invoke/VarHandle")
    {W9 : Nat} {Pre : Pt → Array Value → Prop} {Post : Pt → Array Value → Option Value → Pt → Prop} {PostX : Pt → Array Value → Addr → Pt → Prop} (hK : vx_Back l R p e below s args y 3 W9 Pre Post PostX)
    {g : JFrame} (hg : g.method = m) (hsize : g.locals.size = c.maxLocals) {a : Addr} {argsL rest : List Value} (hlen : ∀ sig, parseMethodDescriptor y.desc = some sig → argsL.length = sig.parameters.length)
    (hstack : g.stack = argsL.reverse ++ .ref a :: rest) (hW : 2 * g.monitorRoom + (rest.map fun v => v.category).sum ≤ W9) (hdg : decode c.code g.pc = .ok (.invokespecial index, 3))
    (hpre : ∀ vm₁, s.WarmedH vm₁ → Pre ⟨T.setVm vm₁, locs, cells, slots⟩ (Value.ref a :: argsL).toArray) :
    (∃ (v : Option Value) (vm₁ : Vm) (B : Pt), s.WarmedH vm₁ ∧ Stand p l e R s m args below meth c B.U B.locs B.cells B.slots ∧ Post ⟨T.setVm vm₁, locs, cells, slots⟩ (Value.ref a :: argsL).toArray v B ∧
      ∀ target, Steps p.tables e below (B.U.setTop { g with pc := g.pc + 3, stack := v.toList ++ rest }) target → Steps p.tables e below (T.setTop g) target) ∨
    (∃ (q : Addr) (vm₁ : Vm) (B : Pt), s.WarmedH vm₁ ∧ Stand p l e R s m args below meth c B.U B.locs B.cells B.slots ∧ PostX ⟨T.setVm vm₁, locs, cells, slots⟩ (Value.ref a :: argsL).toArray q B ∧
      Steps p.tables e below (T.setTop g) ((B.U.setTop { g with stack := rest }).pushFrame (.throwing q))) := by
  subst hg
  have hpl : e.platform.magicAccessors = ({} : Platform).magicAccessors := by rw [X.admits.platform]
  obtain ⟨mk, methM, cM, kP, vm₁, hnamed, hmethM, hcodeM, -, hlocalsM, -, hkP, -, hW₁, hstep₁⟩ := Steps.initColdArgsNest (e := e) X.here hexec X.warmed hpl hown hy1 hy hlink hinst hcode (f := g) rfl hlen hstack hdg
  have X₁ := X.noted hW₁
  rcases hK g.method meth c ⟨T.setVm vm₁, locs, cells, slots⟩ { g with stack := rest } (.invokespecial index) mk (Value.ref a :: argsL).toArray X₁ rfl hsize hdg hW (X₁.named hnamed) (hpre vm₁ X₁.warmed) with ⟨v, B, X', hpost, hsteps⟩ | ⟨q, B, X', hpost, hsteps⟩
  · exact Or.inl ⟨v, vm₁, B, X₁.warmed, X', hpost, fun target h => hstep₁ _ fun acts => by rw [doInvoke_state]; exact hsteps.trans h⟩
  · exact Or.inr ⟨q, vm₁, B, X₁.warmed, X', hpost, hstep₁ _ fun acts => by rw [doInvoke_state]; exact hsteps⟩
end VXIC
section VXID
variable {p : Program} {l : Launch} {e : Env} {R : Room} {s : State} {m : MethodId} {args : Array Value} {below : List Frame} {meth : Method} {c : Code} {H : Heap} {locs : List Loc} {cells slots : Nat}
theorem vx_runIN {y : MethodName} {bytes cc : ByteArray} {maxL nL mc ms n index : Nat} {ws : List Cond} {rm : Room} {Pc : Array Value → State → Prop} {Qc : Array Value → State → Outcome → State → Prop} {XC : String → State → State → Prop} {free : Addr → Prop} {Ts : List Cond} {own host : String} {b : Addr} {As rest : List Value} {g : JFrame}
    (S : CallFix p m c cc nL s args Ts own) (hM : vx_Met l y ws rm Pc Qc XC mc ms free) (cw : va_CN R s args own index y host bytes maxL none ws rm mc ms n ∧ y.name = "<init>" ∧ (Cond.instanceMethod y).before args s = true) (hp : PreS s H Pc (.ref b :: As))
    (hg : g.method = m) (hn : As.length = n) (hsize : g.locals.size = nL) (hstack : g.stack = As.reverse ++ .ref b :: rest) (hW : 2 * g.monitorRoom + (rest.map fun v => v.category).sum ≤ 8) (hdg : decode cc g.pc = .ok (.invokespecial index, 3)) (hf : cells + mc ≤ R.cells ∧ slots + ms ≤ R.slots) :
    vx_Run p l e R s m args below meth c H locs cells slots mc ms g rest (Qc (Value.ref b :: As).toArray) XC free := by
  obtain ⟨⟨⟨hrc, hrs, hfr, hlo, hws, hcw⟩, hcode, hini, hy, hlen, hl⟩, hx1, hx2⟩ := cw
  have hK : vx_Back l R p e below s args y 3 8 (PreOf R mc ms Pc) (PostOf Qc mc ms free) (vx_Post XC mc ms free) := vx_back (bytes := bytes) (maxL := maxL) (ret := none) hM hp.1 hrc hrs hfr hlo hws hcw (fun a' U hW => word_at hW (Or.inl (by first | rfl | simp [Cond.onTables, Cond.keeps, Cond.steady])) hini)
  obtain ⟨hx, hb, hml, ho, -⟩ := S
  have hPc := hp.2
  intro T hT X
  rcases vx_callIN X hx (bytes := bytes) (maxL := maxL) ho hx1 hl hx2 hcode hy hK hg (hsize.trans hml.symm) (a := b) (argsL := As) (rest := rest) (fun sig h => hn.trans (hlen sig h)) hstack hW (by rw [hb]; exact hdg)
    (fun vm₁ hW₁ => ⟨hf.1, hf.2, hPc (T.setVm vm₁) hT hW₁⟩) with ⟨v, vm₁, ⟨U', l2, c2, s2⟩, hW₁, X', ⟨g', mk, t, L, e1, e2, hq, h1, hL, h2, h3⟩, st⟩ | ⟨q, vm₁, ⟨U', l2, c2, s2⟩, hW₁, X', ⟨g', mk, t, L, E, ce, e1, e2, hq, hce, hcv, hcl, h1, hL, h2, h3⟩, st⟩
  · dsimp only [Pt.U, Pt.locs, Pt.cells, Pt.slots] at X' e1 e2 h1 h2 h3 st
    subst h1; subst h2; subst h3
    exact Or.inl ⟨v, (T.setVm vm₁).calling g' mk (Value.ref b :: As).toArray, t, U', L, hT, X', hL, e1, e2, hq, st⟩
  · dsimp only [Pt.U, Pt.locs, Pt.cells, Pt.slots] at X' e1 e2 h1 h2 h3 st hcl
    subst h1; subst h2; subst h3
    exact Or.inr ⟨q, (T.setVm vm₁).calling g' mk (Value.ref b :: As).toArray, t, U', L, E, ce, hT, X', hL, e1, e2, hq, hce, hcv, vx_cls hW₁ hcl, st⟩
end VXID
/-! ===== END ===== -/
end
section
def R_Mdo : String := "Manydoors"
def F_Mdo : u_T := fun k => match k with
  | 0 => ("Manydoors", "sheets", "[LManydoors$Sheet;", true)
  | 1 => ("Manydoors", "rolls", "[LManydoors$Roll;", true)
  | 2 => ("Manydoors", "presses", "[LManydoors$Press;", true)
  | 3 => ("Manydoors", "slots", "[LManydoors$Signs;", true)
  | 4 => ("Manydoors", "rows", "[LManydoors$Signs;", true)
  | 5 => ("Manydoors", "piece", "LManydoors$Signs;", true)
  | 6 => ("Manydoors", "spareSheet", "LManydoors$Sheet;", true)
  | 7 => ("Manydoors", "sparePress", "LManydoors$Press;", true)
  | 8 => ("Manydoors", "actsDone", "I", false)
  | 9 => ("Manydoors", "actsNotDone", "I", false)
  | _ => ("Manydoors", "knocks", "I", false)
def t_Mdo : Nat → FieldType := fun k => match k with
  | 0 => .array (.object "Manydoors$Sheet")
  | 1 => .array (.object "Manydoors$Roll")
  | 2 => .array (.object "Manydoors$Press")
  | 3 => .array (.object "Manydoors$Signs")
  | 4 => .array (.object "Manydoors$Signs")
  | 5 => .object "Manydoors$Signs"
  | 6 => .object "Manydoors$Sheet"
  | 7 => .object "Manydoors$Press"
  | 8 => .int
  | 9 => .int
  | _ => .int
theorem n_Mdo : ∀ a, a < 11 → ∀ b, b < 11 → a ≠ b → (F_Mdo a).2.1 ≠ (F_Mdo b).2.1 := by decide +kernel
theorem t_Mdo_ok : ∀ k, k < 11 → parseFieldDescriptor (F_Mdo k).2.2.1 = some (t_Mdo k) := by decide +kernel
def R_Prs : String := "Manydoors$Press"
def F_Prs : u_T := fun k => match k with
  | 0 => ("Manydoors$Press", "page", "LManydoors$Signs;", true)
  | 1 => ("Manydoors$Press", "word", "LManydoors$Signs;", true)
  | 2 => ("Manydoors$Press", "fed", "LManydoors$Signs;", true)
  | 3 => ("Manydoors$Press", "width", "I", false)
  | 4 => ("Manydoors$Press", "indent", "I", false)
  | _ => ("Manydoors$Press", "gap", "I", false)
def t_Prs : Nat → FieldType := fun k => match k with
  | 0 => .object "Manydoors$Signs"
  | 1 => .object "Manydoors$Signs"
  | 2 => .object "Manydoors$Signs"
  | 3 => .int
  | 4 => .int
  | _ => .int
theorem n_Prs : ∀ a, a < 6 → ∀ b, b < 6 → a ≠ b → (F_Prs a).2.1 ≠ (F_Prs b).2.1 := by decide +kernel
theorem t_Prs_ok : ∀ k, k < 6 → parseFieldDescriptor (F_Prs k).2.2.1 = some (t_Prs k) := by decide +kernel
def R_Rol : String := "Manydoors$Roll"
def F_Rol : u_T := fun k => match k with
  | 0 => ("Manydoors$Roll", "signs", "LManydoors$Signs;", true)
  | _ => ("Manydoors$Roll", "marked", "I", false)
def t_Rol : Nat → FieldType := fun k => match k with
  | 0 => .object "Manydoors$Signs"
  | _ => .int
theorem n_Rol : ∀ a, a < 2 → ∀ b, b < 2 → a ≠ b → (F_Rol a).2.1 ≠ (F_Rol b).2.1 := by decide +kernel
theorem t_Rol_ok : ∀ k, k < 2 → parseFieldDescriptor (F_Rol k).2.2.1 = some (t_Rol k) := by decide +kernel
def R_She : String := "Manydoors$Sheet"
def F_She : u_T := fun k => match k with
  | 0 => ("Manydoors$Sheet", "states", "[LManydoors$Signs;", true)
  | 1 => ("Manydoors$Sheet", "now", "I", false)
  | 2 => ("Manydoors$Sheet", "stepsBehind", "I", false)
  | _ => ("Manydoors$Sheet", "stepsAhead", "I", false)
def t_She : Nat → FieldType := fun k => match k with
  | 0 => .array (.object "Manydoors$Signs")
  | 1 => .int
  | 2 => .int
  | _ => .int
theorem n_She : ∀ a, a < 4 → ∀ b, b < 4 → a ≠ b → (F_She a).2.1 ≠ (F_She b).2.1 := by decide +kernel
theorem t_She_ok : ∀ k, k < 4 → parseFieldDescriptor (F_She k).2.2.1 = some (t_She k) := by decide +kernel
def R_Sig : String := "Manydoors$Signs"
def F_Sig : u_T := fun k => match k with
  | 0 => ("Manydoors$Signs", "signs", "[I", true)
  | _ => ("Manydoors$Signs", "count", "I", false)
def t_Sig : Nat → FieldType := fun k => match k with
  | 0 => .array .int
  | _ => .int
theorem n_Sig : ∀ a, a < 2 → ∀ b, b < 2 → a ≠ b → (F_Sig a).2.1 ≠ (F_Sig b).2.1 := by decide +kernel
theorem t_Sig_ok : ∀ k, k < 2 → parseFieldDescriptor (F_Sig k).2.2.1 = some (t_Sig k) := by decide +kernel
def R_Out : String := "ManydoorsLaw$Out"
def F_Out : u_T := fun k => match k with
  | 0 => ("ManydoorsLaw$Out", "n", "J", false)
  | _ => ("ManydoorsLaw$Out", "s", "Ljava/lang/String;", false)
def t_Out : Nat → FieldType := fun k => match k with
  | 0 => .long
  | _ => .object "java/lang/String"
theorem n_Out : ∀ a, a < 2 → ∀ b, b < 2 → a ≠ b → (F_Out a).2.1 ≠ (F_Out b).2.1 := by decide +kernel
theorem t_Out_ok : ∀ k, k < 2 → parseFieldDescriptor (F_Out k).2.2.1 = some (t_Out k) := by decide +kernel
def R_Mod : String := "ManydoorsModel"
def F_Mod : u_T := fun k => match k with
  | 0 => ("ManydoorsModel", "thrown", "I", false)
  | 1 => ("ManydoorsModel", "states", "[[I", true)
  | 2 => ("ManydoorsModel", "many", "[I", true)
  | 3 => ("ManydoorsModel", "at", "[I", true)
  | 4 => ("ManydoorsModel", "rolls", "[[I", true)
  | 5 => ("ManydoorsModel", "marks", "[I", true)
  | 6 => ("ManydoorsModel", "slots", "[[I", true)
  | 7 => ("ManydoorsModel", "rows", "[[I", true)
  | 8 => ("ManydoorsModel", "feds", "[[I", true)
  | 9 => ("ManydoorsModel", "widths", "[I", true)
  | 10 => ("ManydoorsModel", "indents", "[I", true)
  | 11 => ("ManydoorsModel", "done", "I", false)
  | 12 => ("ManydoorsModel", "denied", "I", false)
  | _ => ("ManydoorsModel", "knocks", "I", false)
def t_Mod : Nat → FieldType := fun k => match k with
  | 0 => .int
  | 1 => .array (.array .int)
  | 2 => .array .int
  | 3 => .array .int
  | 4 => .array (.array .int)
  | 5 => .array .int
  | 6 => .array (.array .int)
  | 7 => .array (.array .int)
  | 8 => .array (.array .int)
  | 9 => .array .int
  | 10 => .array .int
  | 11 => .int
  | 12 => .int
  | _ => .int
theorem n_Mod : ∀ a, a < 14 → ∀ b, b < 14 → a ≠ b → (F_Mod a).2.1 ≠ (F_Mod b).2.1 := by decide +kernel
theorem t_Mod_ok : ∀ k, k < 14 → parseFieldDescriptor (F_Mod k).2.2.1 = some (t_Mod k) := by decide +kernel
def R_Str : String := "java/lang/String"
def F_Str : u_T := fun k => match k with
  | 0 => ("java/lang/String", "value", "[B", true)
  | 1 => ("java/lang/String", "coder", "B", true)
  | 2 => ("java/lang/String", "hash", "I", false)
  | _ => ("java/lang/String", "hashIsZero", "Z", false)
def t_Str : Nat → FieldType := fun k => match k with
  | 0 => .array .byte
  | 1 => .byte
  | 2 => .int
  | _ => .boolean
theorem n_Str : ∀ a, a < 4 → ∀ b, b < 4 → a ≠ b → (F_Str a).2.1 ≠ (F_Str b).2.1 := by decide +kernel
theorem t_Str_ok : ∀ k, k < 4 → parseFieldDescriptor (F_Str k).2.2.1 = some (t_Str k) := by decide +kernel
/-- the classes whose objects a world holds, by number -/
def jcl : List vw_C := [(R_Mdo, F_Mdo, 11), (R_Prs, F_Prs, 6), (R_Rol, F_Rol, 2), (R_She, F_She, 4), (R_Sig, F_Sig, 2), (R_Out, F_Out, 2), (R_Mod, F_Mod, 14), (R_Str, F_Str, 4)]
def jct : List (Nat → FieldType) := [t_Mdo, t_Prs, t_Rol, t_She, t_Sig, t_Out, t_Mod, t_Str]
end
section
/-! A world is a map from addresses to cells whose ints are integers; a value is an integer (int, long) or a reference. -/
abbrev jV : Type := Int ⊕ (Int ⊕ Option Nat)
abbrev vI (z : Int) : jV := .inl z
abbrev vL (z : Int) : jV := .inr (.inl z)
abbrev vR (a : Nat) : jV := .inr (.inr (some a))
abbrev vN : jV := .inr (.inr none)
def iI (z : Int) : Int32 := Int32.ofInt z
def jv : jV → Value
  | .inl z => .int (iI z)
  | .inr (.inl z) => .long (Int64.ofInt z)
  | .inr (.inr none) => .null
  | .inr (.inr (some a)) => .ref a
def jr (z : Int) : Prop := -2147483648 ≤ z ∧ z < 2147483648
abbrev jE : Type := (Nat × List jV) ⊕ ((FieldType × List Int) ⊕ (FieldType × List (Option Nat)))
abbrev jM : Type := Nat → Option jE
def jup (M : jM) (q : Nat) (e : jE) : jM := fun x => if x = q then some e else M x
theorem jup_s {M : jM} {q : Nat} {e : jE} : jup M q e q = some e := by simp [jup]
theorem jup_n {M : jM} {q x : Nat} {e : jE} (h : x ≠ q) : jup M q e x = M x := by simp [jup, h]
-- ints
theorem iI_toInt {z : Int} (h : jr z) : (iI z).toInt = z := by
  obtain ⟨h1, h2⟩ := h
  exact Int32.toInt_ofInt_of_le (by omega) (by omega)
theorem iI_of (x : Int32) : iI x.toInt = x := Int32.ofInt_toInt x
theorem iI_add (a b : Int) : iI a + iI b = iI (a + b) := (Int32.ofInt_add a b).symm
theorem iI_sub (a b : Int) : iI a - iI b = iI (a - b) := (Int32.ofInt_sub a b).symm
theorem iI_mul (a b : Int) : iI a * iI b = iI (a * b) := (Int32.ofInt_mul a b).symm
theorem iI_neg (a : Int) : - iI a = iI (-a) := (Int32.ofInt_neg a).symm
theorem iI_lt {a b : Int} (ha : jr a) (hb : jr b) : iI a < iI b ↔ a < b := by
  rw [Int32.lt_iff_toInt_lt, iI_toInt ha, iI_toInt hb]
theorem iI_le {a b : Int} (ha : jr a) (hb : jr b) : iI a ≤ iI b ↔ a ≤ b := by
  rw [Int32.le_iff_toInt_le, iI_toInt ha, iI_toInt hb]
theorem iI_eq {a b : Int} (ha : jr a) (hb : jr b) : iI a = iI b ↔ a = b := by
  rw [← Int32.toInt_inj, iI_toInt ha, iI_toInt hb]
theorem jr_of (x : Int32) : jr x.toInt := ⟨by have := Int32.le_toInt x; omega, by have := Int32.toInt_lt x; omega⟩
theorem iI_nat {n : Nat} : iI (n : Int) = nI n := by
  show Int32.ofInt (n : Int) = Int32.ofNat n
  exact Int32.ofInt_eq_ofNat
theorem jr_nat {n : Nat} (h : n < 2 ^ 31) : jr (n : Int) := ⟨by omega, by omega⟩
theorem iI_neg_not {a : Int} (ha : jr a) (h : 0 ≤ a) : ¬ iI a < 0 := by
  have h0 : (0 : Int32) = iI 0 := rfl
  rw [h0, iI_lt ha ⟨by omega, by omega⟩]
  omega
theorem iI_clamp {a : Int} (ha : jr a) (h : 0 ≤ a) : (iI a).toNatClampNeg = a.toNat := by
  show (iI a).toInt.toNat = a.toNat
  rw [iI_toInt ha]
-- the cells
def jcn : FieldType → String
  | .object C => C
  | t => t.toString
def jRA (U : State) (cA : ClassId) (ty : FieldType) : Prop := ∃ (kA : Class) (comp : ClassId) (kc : Class), U.vm.classes[cA]? = some kA ∧ kA.kind = .array comp ty ∧ U.vm.findClass (jcn ty) = some comp ∧ U.vm.classes[comp]? = some kc
theorem jRA.moved {u U : State} (hvm : u.vm.Alike U.vm) {cA : ClassId} {ty : FieldType} (h : jRA u cA ty) : jRA U cA ty := by
  obtain ⟨kA, comp, kc, h1, h2, h3, h4⟩ := h
  obtain ⟨k', hk', he⟩ := hvm.2.2 _ _ h1
  obtain ⟨k2, hk2, -⟩ := hvm.2.2 _ _ h4
  exact ⟨k', comp, k2, hk', by rw [he]; exact h2, by rw [hvm.findClass]; exact h3, hk2⟩
def jat (U : State) (q : Nat) (e : jE) (H : Heap) : Prop := match e with
  | .inl o => ∃ (r : vw_C) (cC : ClassId) (iS : Nat → Nat), jcl[o.1]? = some r ∧ u_Kn U r.1 r.2.1 r.2.2 cC iS ∧ t_OB q cC r.2.2 iS H (vp_V (o.2.map jv)) ∧ o.2.length = r.2.2
  | .inr (.inl a) => ((∃ cA : ClassId, H[q]? = some (vp_cell cA (a.2.length, .inl (fun j => iI (a.2.getD j 0)))) ∧ ArrOfT U cA a.1) ∨ (a.2 = [] ∧ ∃ cell : Cell, H[q]? = some cell ∧ U.isArrayOf cell a.1 ∧ cell.vm ≠ .unknown ∧ cell.slots.size = 0)) ∧ ∀ x ∈ a.2, jr x
  | .inr (.inr a) => ∃ cA : ClassId, H[q]? = some (vp_cell cA (a.2.length, .inr (.inr (.inr (.inr (fun j => a.2.getD j none)))))) ∧ ArrOfT U cA a.1 ∧ jRA U cA a.1
theorem jat.moved {u U : State} (hvm : u.vm.Alike U.vm) {q : Nat} {e : jE} {H : Heap} (h : jat u q e H) : jat U q e H := by
  rcases e with o | a | a
  · obtain ⟨r, cC, iS, h1, h2, h3⟩ := h
    exact ⟨r, cC, iS, h1, u_Kn_moved hvm h2, h3⟩
  · obtain ⟨h, hj⟩ := h
    refine ⟨?_, hj⟩
    rcases h with ⟨cA, h1, h2⟩ | ⟨h0, cell, h1, h2, h3⟩
    · exact Or.inl ⟨cA, h1, arrOfT_moved hvm h2⟩
    · exact Or.inr ⟨h0, cell, h1, State.isArrayOf_alike hvm h2, h3⟩
  · obtain ⟨cA, h1, h2, h3⟩ := h
    exact ⟨cA, h1, arrOfT_moved hvm h2, h3.moved hvm⟩
theorem jat.kept {U : State} {q : Nat} {e : jE} {H H1 : Heap} (h : jat U q e H) (hq : H1[q]? = H[q]?) : jat U q e H1 := by
  rcases e with o | a | a
  · obtain ⟨r, cC, iS, h1, h2, h3, h4⟩ := h
    exact ⟨r, cC, iS, h1, h2, h3.kept hq, h4⟩
  · obtain ⟨h, hj⟩ := h
    refine ⟨?_, hj⟩
    rcases h with ⟨cA, h1, h2⟩ | ⟨h0, cell, h1, h2⟩
    · exact Or.inl ⟨cA, hq.trans h1, h2⟩
    · exact Or.inr ⟨h0, cell, hq.trans h1, h2⟩
  · obtain ⟨cA, h1, h2⟩ := h
    exact ⟨cA, hq.trans h1, h2⟩
theorem jat.lt {U : State} {q : Nat} {e : jE} {H : Heap} (h : jat U q e H) : q < H.size := by
  rcases e with o | a | a
  · obtain ⟨r, cC, iS, h1, h2, ⟨cell, h3, -⟩, h4⟩ := h
    exact (Array.getElem?_eq_some_iff.mp h3).1
  · obtain ⟨h, hj⟩ := h
    rcases h with ⟨cA, h1, h2⟩ | ⟨h0, cell, h1, h2⟩
    · exact (Array.getElem?_eq_some_iff.mp h1).1
    · exact (Array.getElem?_eq_some_iff.mp h1).1
  · obtain ⟨cA, h1, h2⟩ := h
    exact (Array.getElem?_eq_some_iff.mp h1).1
def jhv (U : State) (M : jM) (H : Heap) : Prop := ∀ (q : Nat) (e : jE), M q = some e → jat U q e H
theorem jhv.moved {u U : State} (hvm : u.vm.Alike U.vm) {M : jM} {H : Heap} (h : jhv u M H) : jhv U M H := fun q e hq => (h q e hq).moved hvm
theorem jhv.put {U : State} {M : jM} {H H1 : Heap} {a : Nat} {e : jE} (h : jhv U M H) (ha : jat U a e H1) (oq : ∀ q : Nat, q ≠ a → H1[q]? = H[q]?) : jhv U (jup M a e) H1 := by
  intro q e' hq
  by_cases hqa : q = a
  · subst hqa
    rw [jup_s] at hq
    cases hq
    exact ha
  · rw [jup_n hqa] at hq
    exact (h q e' hq).kept (oq q hqa)
theorem jhv.push {U : State} {M : jM} {H H1 : Heap} {e : jE} (h : jhv U M H) (ha : jat U H.size e H1) (oq : ∀ q : Nat, q < H.size → H1[q]? = H[q]?) : jhv U (jup M H.size e) H1 := by
  intro q e' hq
  by_cases hqa : q = H.size
  · subst hqa
    rw [jup_s] at hq
    cases hq
    exact ha
  · rw [jup_n hqa] at hq
    exact (h q e' hq).kept (oq q (h q e' hq).lt)
theorem jhv.fresh {U : State} {M : jM} {H : Heap} (h : jhv U M H) : M H.size = none := by
  cases hq : M H.size with
  | none => rfl
  | some e => exact absurd (h _ _ hq).lt (Nat.lt_irrefl _)
-- the tables' words that every method takes with it
def jg : List Cond := lw_tbl.filter goodWord
theorem jg_in {w : Cond} (h : w ∈ lw_tbl) (hg : goodWord w = true) : w ∈ jg := List.mem_filter.mpr ⟨h, hg⟩
theorem jg_ok (w : Cond) (h : w ∈ jg) : goodWord w = true := (List.mem_filter.mp h).2
theorem jg_good {y : MethodName} {cc : ByteArray} {maxL : Nat} {ret : Option FieldType} (h : Cond.code y cc maxL ret ∈ jg) : GoodIn jg (Cond.code y cc maxL ret :: jg) := fun w hw => by
  rcases List.mem_cons.mp hw with e | h1
  · subst e
    exact ⟨h, good_of_word (jg_ok _ h)⟩
  · exact ⟨h1, good_of_word (jg_ok _ h1)⟩
def jnk : Cond → Bool
  | .fieldLinkNest .. => true
  | .methodLinkNest .. => true
  | .castable .. => true
  | .declares _ => true
  | _ => false
def jA (sz0 : Nat) : Nat → Prop := fun q => sz0 ≤ q
/-- what of the start no method changes, beside the words -/
def jI (sz0 : Nat) (U : State) (H : Heap) : Prop :=
  (∀ w ∈ lw_tbl, jnk w = true → va_Nw w U) ∧ (∀ C : String, Cond.arrayOver (.object C) ∈ lw_tbl → va_AO C U) ∧
  (∀ (own : String) (k : Nat) (tx : String), Cond.stringRef own k tx ∈ lw_tbl → ∃ sa : Nat, vk_R own k tx sa U) ∧
  vx_Zq Bundle.tN "UNASSIGNED_STACK" Bundle.steD (jA sz0) U H ∧ vx_Zq Bundle.tN "SUPPRESSED_SENTINEL" Bundle.listD (jA sz0) U H
theorem jI.kept {sz0 : Nat} {u U : State} {H H1 : Heap} (h : jI sz0 u H) (hW : u.WarmedH U.vm) (hq : ∀ a : Nat, a < H.size → ¬ jA sz0 a → H1[a]? = H[a]?) : jI sz0 U H1 := by
  obtain ⟨h1, h2, h3, h4, h5⟩ := h
  refine ⟨fun w hw hk => ?_, fun C hC => (h2 C hC).moved hW.alike, fun own k tx hx => ?_, (vx_Zq.moved hW.alike h4).kept hq, (vx_Zq.moved hW.alike h5).kept hq⟩
  · have h9 := h1 w hw hk
    cases w <;> first | (simp [jnk] at hk; done) | exact h9.warmF hW | exact va_Nw.warmF hW h9 | exact va_Nw.warmM hW h9 | exact va_Nw.warmC hW h9 | exact va_Nw.warmD hW h9
  · obtain ⟨sa, h9⟩ := h3 own k tx hx
    exact ⟨sa, h9.warm hW⟩
end
section
/-! What an instruction asks: 'js' of a list of instructions, over integers; each is a row of the kit. -/
/-- an entry that names something of the tables (a field, a method, a class): from the stack and the world on; what follows; what follows where it throws -/
abbrev jTr : Type := List jV → jM → Nat → Nat → Nat → (List jV → jM → Nat → Nat → Nat → Prop) → (Nat → jM → Nat → Nat → Nat → Prop) → Prop
abbrev jK : Type := Nat → List (Nat × jV) → List jV → jM → Nat → Nat → Nat → Prop
def jlk {α : Type} : List (Nat × α) → Nat → Option α
  | [], _ => none
  | (k, v) :: r, q => match Nat.beq k q with
    | true => some v
    | false => jlk r q
theorem jlk_mem {α : Type} : ∀ {l : List (Nat × α)} {q : Nat} {v : α}, jlk l q = some v → (q, v) ∈ l
  | [], _, _, h => by simp [jlk] at h
  | (k, w) :: r, q, v, h => by
    unfold jlk at h
    split at h
    · rename_i hb
      cases h
      rw [Nat.eq_of_beq_eq_true hb]
      exact List.mem_cons_self
    · exact List.mem_cons_of_mem _ (jlk_mem h)
def jl2 : List (Nat × Nat × jTr) → Nat → Nat → Option jTr
  | [], _, _ => none
  | (a, b, v) :: r, x, y => match Nat.beq a x && Nat.beq b y with
    | true => some v
    | false => jl2 r x y
theorem jl2_mem : ∀ {l : List (Nat × Nat × jTr)} {x y : Nat} {v : jTr}, jl2 l x y = some v → (x, y, v) ∈ l
  | [], _, _, _, h => by simp [jl2] at h
  | (a, b, w) :: r, x, y, v, h => by
    unfold jl2 at h
    split at h
    · rename_i hb
      cases h
      rw [Bool.and_eq_true] at hb
      rw [Nat.eq_of_beq_eq_true hb.1, Nat.eq_of_beq_eq_true hb.2]
      exact List.mem_cons_self
    · exact List.mem_cons_of_mem _ (jl2_mem h)
def jin (a b : Nat) : Instr := match a with
  | 0 => .getfield b
  | 1 => .putfield b
  | 2 => .getstatic b
  | 3 => .invokevirtual b
  | 4 => .invokestatic b
  | 5 => .invokespecial b
  | 6 => .new b
  | 7 => .anewarray b
  | 8 => .ldc b
  | 9 => .ldc2_w b
  | 10 => match b with
    | 10 => .newarray .int
    | _ => .newarray .char
  | 11 => .iastore
  | 12 => .castore
  | _ => .aastore
def jct2 : jV → Bool
  | .inr (.inl _) => true
  | _ => false
def jdl (w : Bool) (i : Nat) : List (Nat × jV) → List (Nat × jV)
  | [] => []
  | (k, v) :: r => match Nat.beq k i, Nat.beq (k + 1) i && jct2 v, w && Nat.beq k (i + 1) with
    | false, false, false => (k, v) :: jdl w i r
    | _, _, _ => jdl w i r
/-- the locals behind a store of v at i (w: of two words) -/
def jst (w : Bool) (i : Nat) (v : jV) : List (Nat × jV) → List (Nat × jV)
  | [] => [(i, v)]
  | (k, u) :: r => match Nat.beq k i with
    | true => (i, v) :: jdl w i r
    | false => match Nat.beq (k + 1) i && jct2 u, w && Nat.beq k (i + 1) with
      | false, false => (k, u) :: jst w i v r
      | _, _ => jst w i v r
theorem jdl_mem {w : Bool} {i : Nat} : ∀ {l : List (Nat × jV)} {q : Nat × jV}, q ∈ jdl w i l → q ∈ l ∧ q.1 ≠ i ∧ ¬ (q.1 + 1 = i ∧ jct2 q.2 = true) ∧ ¬ (w = true ∧ q.1 = i + 1)
  | [], q, h => by simp [jdl] at h
  | (k, v) :: r, q, h => by
    unfold jdl at h
    split at h
    · rename_i h1 h2 h3
      rcases List.mem_cons.mp h with e | h
      · subst e
        refine ⟨List.mem_cons_self, fun e => ?_, fun ⟨e1, e2⟩ => ?_, fun ⟨e1, e2⟩ => ?_⟩
        · dsimp only at e
          rw [e, Nat.beq_refl] at h1
          cases h1
        · dsimp only at e1 e2
          rw [e1, Nat.beq_refl, e2] at h2
          cases h2
        · dsimp only at e1 e2
          rw [e1, e2, Nat.beq_refl] at h3
          cases h3
      · obtain ⟨h1, h2⟩ := jdl_mem h
        exact ⟨List.mem_cons_of_mem _ h1, h2⟩
    · obtain ⟨h1, h2⟩ := jdl_mem h
      exact ⟨List.mem_cons_of_mem _ h1, h2⟩
theorem jst_mem {w : Bool} {i : Nat} {v : jV} : ∀ {l : List (Nat × jV)} {q : Nat × jV}, q ∈ jst w i v l → q = (i, v) ∨ (q ∈ l ∧ q.1 ≠ i ∧ ¬ (q.1 + 1 = i ∧ jct2 q.2 = true) ∧ ¬ (w = true ∧ q.1 = i + 1))
  | [], q, h => by
    simp [jst] at h
    exact Or.inl h
  | (k, u) :: r, q, h => by
    unfold jst at h
    split at h
    · rcases List.mem_cons.mp h with e | h
      · exact Or.inl e
      · obtain ⟨h1, h2⟩ := jdl_mem h
        exact Or.inr ⟨List.mem_cons_of_mem _ h1, h2⟩
    · rename_i h0
      split at h
      · rename_i h2 h3
        rcases List.mem_cons.mp h with e | h
        · subst e
          refine Or.inr ⟨List.mem_cons_self, fun e => ?_, fun ⟨e1, e2⟩ => ?_, fun ⟨e1, e2⟩ => ?_⟩
          · dsimp only at e
            rw [e, Nat.beq_refl] at h0
            cases h0
          · dsimp only at e1 e2
            rw [e1, Nat.beq_refl, e2] at h2
            cases h2
          · dsimp only at e1 e2
            rw [e1, e2, Nat.beq_refl] at h3
            cases h3
        · rcases jst_mem h with h | ⟨h1, h2⟩
          · exact Or.inl h
          · exact Or.inr ⟨List.mem_cons_of_mem _ h1, h2⟩
      · rcases jst_mem h with h | ⟨h1, h2⟩
        · exact Or.inl h
        · exact Or.inr ⟨List.mem_cons_of_mem _ h1, h2⟩
def jlm (lv : List (Nat × jV)) : List (Nat × Value) := lv.map (fun q => (q.1, jv q.2))
theorem jct2_cat {v : jV} : (jv v).category = 2 ↔ jct2 v = true := by
  rcases v with z | z | _ | a <;> simp [jv, jct2, Value.category]
def jis2 : jV → Bool := jct2
theorem jv_cat1 {v : jV} (h : jct2 v = false) : (jv v).category = 1 := by
  rcases v with z | z | _ | a <;> simp [jv, jct2, Value.category] at h ⊢
theorem jst_has1 {ls : Array Slot} {nL i : Nat} {v : jV} {lv : List (Nat × jV)} (h : lv_has ls nL ((i, jv v) :: (jlm lv).filter (fun q => !(q.1 == i) && !(q.1 + 1 == i && q.2.category == 2)))) : lv_has ls nL (jlm (jst false i v lv)) := by
  refine ⟨h.1, h.2.1, fun q hq => h.2.2 q ?_⟩
  obtain ⟨q0, h0, rfl⟩ := List.mem_map.mp hq
  rcases jst_mem h0 with e | ⟨h1, h2, h3, -⟩
  · rw [e]; exact List.mem_cons_self
  · refine List.mem_cons_of_mem _ (List.mem_filter.mpr ⟨List.mem_map.mpr ⟨q0, h1, rfl⟩, ?_⟩)
    have h4 : ¬ (q0.1 + 1 = i ∧ (jv q0.2).category = 2) := fun ⟨a, b⟩ => h3 ⟨a, jct2_cat.mp b⟩
    simp only [Bool.and_eq_true, Bool.not_eq_true', beq_eq_false_iff_ne, ne_eq, Bool.and_eq_false_iff]
    refine ⟨h2, ?_⟩
    by_cases e : q0.1 + 1 = i
    · exact Or.inr (by intro e2; exact h4 ⟨e, e2⟩)
    · exact Or.inl e
def jret (ret : Option FieldType) (v : Int) : Prop := match ret with
  | some .int => True
  | some .boolean => v = 0 ∨ v = 1
  | _ => False
def jisref (ret : Option FieldType) : Bool := match ret with
  | some (.object _) => true
  | some (.array _) => true
  | _ => false
def jtsw (lo hi : Int) (dflt : Int) (offs : Array Int) (pc : Nat) (x : Int) (t : Nat) : Prop :=
  ((x < lo ∨ hi < x) ∧ (pc : Int) + dflt = (t : Int)) ∨ (¬ x < lo ∧ ¬ hi < x ∧ ∃ off : Int, offs[(x - lo).toNat]? = some off ∧ (pc : Int) + off = (t : Int))
/-- an instruction: its own place, the next one's, its target, the constant that it names -/
abbrev jI5 : Type := Instr × Nat × Nat × Int
def jlen : Instr → Nat
  | .iload _ | .lload _ | .aload _ | .istore _ | .lstore _ | .astore _ | .bipush _ | .ldc _ | .newarray _ => 2
  | .sipush _ | .iinc _ _ | .ifCond _ _ | .if_icmp _ _ | .goto _ | .getfield _ | .putfield _ | .getstatic _ | .invokevirtual _ | .invokestatic _ | .invokespecial _ | .new _ | .anewarray _ | .ldc2_w _ | .ldc_w _ => 3
  | _ => 1
set_option maxRecDepth 20000 in
def js (cp : List (Nat × Nat × jTr)) (ret : Option FieldType) (nL : Nat) (Qr : Option jV → jM → Nat → Prop) (X : Nat → jM → Nat → Nat → Nat → Prop) (pc : Nat) (i : Instr) (npc tgt : Nat) (cst : Int) (lv : List (Nat × jV)) (st : List jV) (M : jM) (sz kc ks : Nat) (K : jK) : Prop :=
  match i with
  | .iconst _ => K npc lv (vI cst :: st) M sz kc ks
  | .bipush _ => K npc lv (vI cst :: st) M sz kc ks
  | .sipush _ => K npc lv (vI cst :: st) M sz kc ks
  | .lconst _ => K npc lv (vL cst :: st) M sz kc ks
  | .iload k => match jlk lv k with
    | some (.inl z) => K npc lv (vI z :: st) M sz kc ks
    | _ => False
  | .iload_n k => match jlk lv k.val with
    | some (.inl z) => K npc lv (vI z :: st) M sz kc ks
    | _ => False
  | .lload k => match jlk lv k with
    | some (.inr (.inl z)) => K npc lv (vL z :: st) M sz kc ks
    | _ => False
  | .lload_n k => match jlk lv k.val with
    | some (.inr (.inl z)) => K npc lv (vL z :: st) M sz kc ks
    | _ => False
  | .aload k => match jlk lv k with
    | some (.inr (.inr (some a))) => K npc lv (vR a :: st) M sz kc ks
    | _ => False
  | .aload_n k => match jlk lv k.val with
    | some (.inr (.inr (some a))) => K npc lv (vR a :: st) M sz kc ks
    | _ => False
  | .istore k => match st, Nat.ble (k + 1) nL with
    | .inl z :: r, true => K npc (jst false k (vI z) lv) r M sz kc ks
    | _, _ => False
  | .istore_n k => match st, Nat.ble (k.val + 1) nL with
    | .inl z :: r, true => K npc (jst false k.val (vI z) lv) r M sz kc ks
    | _, _ => False
  | .lstore k => match st, Nat.ble (k + 2) nL with
    | .inr (.inl z) :: r, true => K npc (jst true k (vL z) lv) r M sz kc ks
    | _, _ => False
  | .lstore_n k => match st, Nat.ble (k.val + 2) nL with
    | .inr (.inl z) :: r, true => K npc (jst true k.val (vL z) lv) r M sz kc ks
    | _, _ => False
  | .astore k => match st, Nat.ble (k + 1) nL with
    | .inr (.inr (some a)) :: r, true => K npc (jst false k (vR a) lv) r M sz kc ks
    | _, _ => False
  | .astore_n k => match st, Nat.ble (k.val + 1) nL with
    | .inr (.inr (some a)) :: r, true => K npc (jst false k.val (vR a) lv) r M sz kc ks
    | _, _ => False
  | .iinc k _ => match jlk lv k, Nat.ble (k + 1) nL with
    | some (.inl z), true => K npc (jst false k (vI (z + cst)) lv) st M sz kc ks
    | _, _ => False
  | .iadd => match st with
    | .inl y :: .inl x :: r => K npc lv (vI (x + y) :: r) M sz kc ks
    | _ => False
  | .isub => match st with
    | .inl y :: .inl x :: r => K npc lv (vI (x - y) :: r) M sz kc ks
    | _ => False
  | .imul => match st with
    | .inl y :: .inl x :: r => K npc lv (vI (x * y) :: r) M sz kc ks
    | _ => False
  | .ineg => match st with
    | .inl x :: r => K npc lv (vI (-x) :: r) M sz kc ks
    | _ => False
  | .idiv => match st with
    | .inl y :: .inl x :: r => (0 ≤ x ∧ jr x ∧ 0 < y ∧ jr y) ∧ K npc lv (vI (x / y) :: r) M sz kc ks
    | _ => False
  | .irem => match st with
    | .inl y :: .inl x :: r => (0 ≤ x ∧ jr x ∧ 0 < y ∧ jr y) ∧ K npc lv (vI (x % y) :: r) M sz kc ks
    | _ => False
  | .iand => match st with
    | .inl y :: .inl x :: r => K npc lv (vI (iI x &&& iI y).toInt :: r) M sz kc ks
    | _ => False
  | .ixor => match st with
    | .inl y :: .inl x :: r => K npc lv (vI (iI x ^^^ iI y).toInt :: r) M sz kc ks
    | _ => False
  | .ladd => match st with
    | .inr (.inl y) :: .inr (.inl x) :: r => K npc lv (vL (x + y) :: r) M sz kc ks
    | _ => False
  | .lmul => match st with
    | .inr (.inl y) :: .inr (.inl x) :: r => K npc lv (vL (x * y) :: r) M sz kc ks
    | _ => False
  | .i2l => match st with
    | .inl x :: r => jr x ∧ K npc lv (vL x :: r) M sz kc ks
    | _ => False
  | .i2c => match st with
    | .inl x :: r => (0 ≤ x ∧ x < 65536) ∧ K npc lv (vI x :: r) M sz kc ks
    | _ => False
  | .dup => match st with
    | v :: r => match jct2 v with
      | false => K npc lv (v :: v :: r) M sz kc ks
      | true => False
    | _ => False
  | .pop => match st with
    | v :: r => match jct2 v with
      | false => K npc lv r M sz kc ks
      | true => False
    | _ => False
  | .dup2 => match st with
    | v :: u :: r => match jct2 v, jct2 u with
      | false, false => K npc lv (v :: u :: v :: u :: r) M sz kc ks
      | _, _ => False
    | _ => False
  | .pop2 => match st with
    | v :: r => match jct2 v with
      | true => K npc lv r M sz kc ks
      | false => False
    | _ => False
  | .goto _ => K tgt lv st M sz kc ks
  | .ifCond cd _ => match st with
    | .inl x :: r => match cd with
      | .eq => jr x ∧ (x = 0 → K tgt lv r M sz kc ks) ∧ (¬ x = 0 → K npc lv r M sz kc ks)
      | .ne => jr x ∧ (¬ x = 0 → K tgt lv r M sz kc ks) ∧ (x = 0 → K npc lv r M sz kc ks)
      | .lt => jr x ∧ (x < 0 → K tgt lv r M sz kc ks) ∧ (0 ≤ x → K npc lv r M sz kc ks)
      | .ge => jr x ∧ (0 ≤ x → K tgt lv r M sz kc ks) ∧ (x < 0 → K npc lv r M sz kc ks)
      | .gt => jr x ∧ (0 < x → K tgt lv r M sz kc ks) ∧ (x ≤ 0 → K npc lv r M sz kc ks)
      | .le => jr x ∧ (x ≤ 0 → K tgt lv r M sz kc ks) ∧ (0 < x → K npc lv r M sz kc ks)
    | _ => False
  | .if_icmp cd _ => match st with
    | .inl y :: .inl x :: r => match cd with
      | .eq => (jr x ∧ jr y) ∧ (x = y → K tgt lv r M sz kc ks) ∧ (¬ x = y → K npc lv r M sz kc ks)
      | .ne => (jr x ∧ jr y) ∧ (¬ x = y → K tgt lv r M sz kc ks) ∧ (x = y → K npc lv r M sz kc ks)
      | .lt => (jr x ∧ jr y) ∧ (x < y → K tgt lv r M sz kc ks) ∧ (y ≤ x → K npc lv r M sz kc ks)
      | .ge => (jr x ∧ jr y) ∧ (y ≤ x → K tgt lv r M sz kc ks) ∧ (x < y → K npc lv r M sz kc ks)
      | .gt => (jr x ∧ jr y) ∧ (y < x → K tgt lv r M sz kc ks) ∧ (x ≤ y → K npc lv r M sz kc ks)
      | .le => (jr x ∧ jr y) ∧ (x ≤ y → K tgt lv r M sz kc ks) ∧ (y < x → K npc lv r M sz kc ks)
    | _ => False
  | .arraylength => match st with
    | .inr (.inr (some a)) :: r => (∃ (ty : FieldType) (xs : List Int), M a = some (.inr (.inl (ty, xs))) ∧ K npc lv (vI (xs.length : Int) :: r) M sz kc ks) ∨ (∃ (ty : FieldType) (rs : List (Option Nat)), M a = some (.inr (.inr (ty, rs))) ∧ K npc lv (vI (rs.length : Int) :: r) M sz kc ks)
    | _ => False
  | .iaload => match st with
    | .inl j :: .inr (.inr (some a)) :: r => ∃ xs : List Int, M a = some (.inr (.inl (.int, xs))) ∧ (0 ≤ j ∧ j < (xs.length : Int) ∧ xs.length < 2 ^ 31) ∧ ∀ v : Int, xs[j.toNat]? = some v → jr v → K npc lv (vI v :: r) M sz kc ks
    | _ => False
  | .aaload => match st with
    | .inl j :: .inr (.inr (some a)) :: r => ∃ (ty : FieldType) (rs : List (Option Nat)) (b : Nat), M a = some (.inr (.inr (ty, rs))) ∧ ty.isReference = true ∧ (0 ≤ j ∧ j < (rs.length : Int) ∧ rs.length < 2 ^ 31) ∧ rs[j.toNat]? = some (some b) ∧ K npc lv (vR b :: r) M sz kc ks
    | _ => False
  | .ireturn => match st with
    | [.inl v] => jret ret v ∧ Qr (some (vI v)) M sz
    | _ => False
  | .lreturn => match st with
    | [.inr (.inl v)] => ret = some .long ∧ Qr (some (vL v)) M sz
    | _ => False
  | .areturn => match st with
    | [.inr (.inr (some a))] => jisref ret = true ∧ Qr (some (vR a)) M sz
    | _ => False
  | .return_ => match st with
    | [] => ret = none ∧ Qr none M sz
    | _ => False
  | .getfield k => match jl2 cp 0 k with
    | some tr => tr st M sz kc ks (K npc lv) X
    | none => False
  | .putfield k => match jl2 cp 1 k with
    | some tr => tr st M sz kc ks (K npc lv) X
    | none => False
  | .getstatic k => match jl2 cp 2 k with
    | some tr => tr st M sz kc ks (K npc lv) X
    | none => False
  | .invokevirtual k => match jl2 cp 3 k with
    | some tr => tr st M sz kc ks (K npc lv) X
    | none => False
  | .invokestatic k => match jl2 cp 4 k with
    | some tr => tr st M sz kc ks (K npc lv) X
    | none => False
  | .invokespecial k => match jl2 cp 5 k with
    | some tr => tr st M sz kc ks (K npc lv) X
    | none => False
  | .new k => match jl2 cp 6 k with
    | some tr => tr st M sz kc ks (K npc lv) X
    | none => False
  | .anewarray k => match jl2 cp 7 k with
    | some tr => tr st M sz kc ks (K npc lv) X
    | none => False
  | .ldc k => match jl2 cp 8 k with
    | some tr => tr st M sz kc ks (K npc lv) X
    | none => False
  | .ldc2_w k => match jl2 cp 9 k with
    | some tr => tr st M sz kc ks (K npc lv) X
    | none => False
  | .newarray at_ => match at_ with
    | .int => match jl2 cp 10 10 with
      | some tr => tr st M sz kc ks (K npc lv) X
      | none => False
    | .char => match jl2 cp 10 5 with
      | some tr => tr st M sz kc ks (K npc lv) X
      | none => False
    | _ => False
  | .iastore => match jl2 cp 11 0 with
    | some tr => tr st M sz kc ks (K npc lv) X
    | none => False
  | .castore => match jl2 cp 12 0 with
    | some tr => tr st M sz kc ks (K npc lv) X
    | none => False
  | .aastore => match jl2 cp 13 0 with
    | some tr => tr st M sz kc ks (K npc lv) X
    | none => False
  | .tableswitch dflt lo hi offs => match st with
    | .inl x :: r => jr x ∧ ∀ t : Nat, jtsw lo hi dflt offs pc x t → K t lv r M sz kc ks
    | _ => False
  | _ => False
abbrev jAs : Type := List (Nat × jV) → List jV → jM → Nat → Nat → Nat → Prop
/-- where a callee throws: no table (none): it goes on to the caller; else the place of the call has its handlers -/
def jx (hd : Option (List (Nat × List (Nat × Nat)))) (Qx : Nat → jM → Nat → Prop) (K : jK) (pc : Nat) (lv : List (Nat × jV)) (E : Nat) (M : jM) (sz kc ks : Nat) : Prop := match hd with
  | none => Qx E M sz
  | some hx => match jlk hx pc with
    | none => False
    | some L => match jlk L E with
      | none => False
      | some h => ∀ q : Nat, K h lv [vR q] M sz kc ks
/-- the walk from a place on: n instructions at most; at a cut its assertion is owed (b: also at the first place); sp: places where several instructions are one -/
def jwp (code : List (Nat × jI5)) (cp : List (Nat × Nat × jTr)) (cut : List (Nat × jAs)) (sp : List (Nat × jTr)) (hd : Option (List (Nat × List (Nat × Nat)))) (ret : Option FieldType) (nL : Nat) (Qr : Option jV → jM → Nat → Prop) (Qx : Nat → jM → Nat → Prop) : Nat → Bool → jK
  | 0, _, _, _, _, _, _, _, _ => False
  | n + 1, b, pc, lv, st, M, sz, kc, ks => match (match b with
      | true => jlk cut pc
      | false => none) with
    | some a => a lv st M sz kc ks
    | none => match jlk sp pc with
      | some tr => tr st M sz kc ks (fun _ _ _ _ _ => False) (jx hd Qx (jwp code cp cut sp hd ret nL Qr Qx n true) pc lv)
      | none => match jlk code pc with
        | none => False
        | some (i, npc, tgt, cst) => js cp ret nL Qr (jx hd Qx (jwp code cp cut sp hd ret nL Qr Qx n true) pc lv) pc i npc tgt cst lv st M sz kc ks (jwp code cp cut sp hd ret nL Qr Qx n true)
end
section
/-! Each step is a row of the kit. -/
def jEx : Nat → String
  | 1 => "java/lang/IndexOutOfBoundsException"
  | _ => "java/lang/IllegalArgumentException"
/-- what holds all along a method -/
def jCx (sz0 : Nat) (own nm : String) (dep : Nat) (p : Program) (l : Launch) (R : Room) (s : State) (m : MethodId) (args : Array Value) (meth : Method) (c : Code) (cc : ByteArray) (nL : Nat) (ret : Option FieldType) : Prop :=
  p.tables.exec = Jvm.exec ∧ c.code = cc ∧ c.maxLocals = nL ∧ s.vm.findClass own = some m.cls ∧ (∀ w ∈ jg, w.before args s = true) ∧ meth.locks = false ∧ jI sz0 s s.heap ∧ sz0 ≤ s.heap.size ∧ l.stackTraces = false ∧ meth.name = nm ∧ dep ≤ R.frames ∧ 39 * dep ≤ R.locals ∧ meth.sig.returnType = ret
/-- what holds at a place of it -/
def jH (sz0 : Nat) (s : State) (R : Room) (H : Heap) (locs : List Loc) (cells slots : Nat) (M : jM) (sz kc ks : Nat) : Prop :=
  jhv s M H ∧ H.size = sz ∧ va_S (jA sz0) s.heap H locs ∧ cells + kc ≤ R.cells ∧ slots + ks ≤ R.slots
def jPc (sz0 : Nat) (av : List jV) (M : jM) (sz : Nat) : Array Value → State → Prop := fun v U => v = (av.map jv).toArray ∧ jhv U M U.heap ∧ U.heap.size = sz ∧ sz0 ≤ sz ∧ jI sz0 U U.heap
def jQc (sz0 : Nat) (P : Option jV → jM → Nat → Prop) : Array Value → State → Outcome → State → Prop := fun _ st o t => ∃ (v : Option jV) (M' : jM), o = .returned (v.map jv) ∧ P v M' t.heap.size ∧ jhv t M' t.heap ∧ va_F (jA sz0) st t
def jXC (sz0 : Nat) (X : Nat → jM → Nat → Prop) : String → State → State → Prop := fun E st t => ∃ (k : Nat) (M' : jM), E = jEx k ∧ X k M' t.heap.size ∧ jhv t M' t.heap ∧ va_F (jA sz0) st t
theorem jPc.blind {sz0 : Nat} {av : List jV} {M : jM} {sz : Nat} : FrameBlind (jPc sz0 av M sz) := fun a U g mk h => ⟨h.1, h.2.1, h.2.2.1, h.2.2.2.1, h.2.2.2.2.kept (State.WarmedH.refl U) (fun _ _ _ => rfl)⟩
/-- what a method does, from its arguments and the world on -/
abbrev jS : Type := List jV → jM → Nat → (Option jV → jM → Nat → Prop) → (Nat → jM → Nat → Prop) → Prop
abbrev jRm (dep mc ms : Nat) : Room := { frames := dep, cells := mc, slots := ms, locals := 39 * dep }
def jCon (sz0 : Nat) (l : Launch) (y : MethodName) (cc : ByteArray) (maxL : Nat) (ret : Option FieldType) (dep mc ms : Nat) (S : jS) : Prop :=
  ∀ (av : List jV) (M : jM) (sz : Nat) (P : Option jV → jM → Nat → Prop) (X : Nat → jM → Nat → Prop), S av M sz P X → vx_Met l y (Cond.code y cc maxL ret :: jg) (jRm dep mc ms) (jPc sz0 av M sz) (jQc sz0 P) (jXC sz0 X) mc ms (jA sz0)
section J
variable {p : Program} {l : Launch} {e : Env} {R : Room} {s : State} {m : MethodId} {args : Array Value} {below : List Frame} {meth : Method} {c : Code} {H : Heap} {locs : List Loc} {cells slots : Nat} {Q : State → Prop}
variable {cc : ByteArray} {nL pc : Nat} {ls : Array Slot} {sz0 : Nat} {own nm : String} {dep : Nat} {ret : Option FieldType}
/-- a step is sound: from its demand, and from W at what follows, W -/
def jSnd (sz0 : Nat) (l : Launch) (own nm : String) (dep : Nat) (i : Instr) (len : Nat) (tr : jTr) : Prop :=
  ∀ {p : Program} {e : Env} {R : Room} {s : State} {m : MethodId} {args : Array Value} {below : List Frame} {meth : Method} {c : Code} {H : Heap} {locs : List Loc} {cells slots : Nat} {Q : State → Prop} {cc : ByteArray} {nL pc : Nat} {ls : Array Slot} {ret : Option FieldType} {st : List jV} {M : jM} {sz kc ks : Nat} {K : List jV → jM → Nat → Nat → Nat → Prop} {X : Nat → jM → Nat → Nat → Nat → Prop},
    jCx sz0 own nm dep p l R s m args meth c cc nL ret → decode cc pc = .ok (i, len) → ls.size = nL → jH sz0 s R H locs cells slots M sz kc ks → tr st M sz kc ks K X →
    (∀ (st' : List jV) (M' : jM) (sz' kc' ks' : Nat) (H' : Heap) (locs' : List Loc) (cells' slots' : Nat), K st' M' sz' kc' ks' → jH sz0 s R H' locs' cells' slots' M' sz' kc' ks' → W p l e R s m args below meth c H' locs' cells' slots' Q (F0 m (pc + len) ls (st'.map jv))) →
    (∀ (E : Nat) (M' : jM) (sz' kc' ks' : Nat) (H' : Heap) (locs' : List Loc) (cells' slots' : Nat) (ce : Cell) (q : Nat) (rest : List Value), X E M' sz' kc' ks' → jH sz0 s R H' locs' cells' slots' M' sz' kc' ks' → H'[q]? = some ce → ce.vm = .none → s.vm.findClass (jEx E) = some ce.cls → vx_W p l e R s m args below meth c H' locs' cells' slots' Q (F0 m pc ls rest) q) →
    W p l e R s m args below meth c H locs cells slots Q (F0 m pc ls (st.map jv))
def jfnd : List (Nat × jV) → Nat → Option Nat
  | [], _ => none
  | (k, _) :: r, q => match Nat.beq k q with
    | true => some 0
    | false => (jfnd r q).map (· + 1)
theorem jlk_at {lv : List (Nat × jV)} {k : Nat} {v : jV} (h : lv_has ls nL (jlm lv)) (hk : jlk lv k = some v) : ls[k]? = some (.val (jv v)) := h.2.2 (k, jv v) (List.mem_map.mpr ⟨(k, v), jlk_mem hk, rfl⟩)
theorem jdiv {x y : Int} (hx : 0 ≤ x ∧ jr x ∧ 0 < y ∧ jr y) : iI x / iI y = iI (x / y) ∧ iI x - iI x / iI y * iI y = iI (x % y) ∧ ¬ iI y = 0 := by
  obtain ⟨h1, h2, h3, h4⟩ := hx
  obtain ⟨a, rfl⟩ := Int.eq_ofNat_of_zero_le h1
  obtain ⟨b, rfl⟩ := Int.eq_ofNat_of_zero_le (Int.le_of_lt h3)
  have ha : a < 2 ^ 31 := by obtain ⟨-, h⟩ := h2; omega
  have hb : b < 2 ^ 31 := by obtain ⟨-, h⟩ := h4; omega
  have hb0 : 0 < b := by omega
  rw [iI_nat, iI_nat]
  refine ⟨?_, ?_, ?_⟩
  · rw [pk_div ha hb0 hb, ← iI_nat]; congr 1
  · rw [pk_rem ha hb0 hb, ← iI_nat]; congr 1
  · exact nI_ne0 hb0 hb
/-- an instruction's place, length, target and constant are as decoded -/
def jchk (i : Instr) (pc tgt : Nat) (cst : Int) : Bool := match i with
  | .iconst n => decide (n = cst)
  | .bipush n => decide ((Int8.ofInt n).toInt32 = iI cst)
  | .sipush n => decide ((Int16.ofInt n).toInt32 = iI cst)
  | .lconst n => decide (((n : Nat) : Int) = cst)
  | .iinc _ n => decide (n = cst)
  | .goto off => decide ((pc : Int) + off = (tgt : Int))
  | .ifCond _ off => decide ((pc : Int) + off = (tgt : Int))
  | .if_icmp _ off => decide ((pc : Int) + off = (tgt : Int))
  | _ => true
def jok1 (cc : ByteArray) (q : Nat × jI5) : Bool := (match q.2.1 with
  | .tableswitch d lo hi offs => decide (decode cc q.1 = .ok (q.2.1, q.2.2.1 - q.1)) && decide (0 ≤ (q.1 : Int) + d) && decide (hi - lo + 1 = (offs.size : Int)) && offs.all (fun o => decide (0 ≤ (q.1 : Int) + o))
  | _ => decide (decode cc q.1 = .ok (q.2.1, jlen q.2.1)) && decide (q.2.2.1 = q.1 + jlen q.2.1)) && jchk q.2.1 q.1 q.2.2.2.1 q.2.2.2.2
abbrev jQ (below : List Frame) (sz0 : Nat) (Qr : Option jV → jM → Nat → Prop) (Qx : Nat → jM → Nat → Prop) (args : Array Value) (s : State) (R : Room) : State → Prop := vx_MQ below (jQc sz0 Qr) (jXC sz0 Qx) args s R.cells R.slots (jA sz0)
theorem jH.ends {M : jM} {sz kc ks : Nat} {R : Room} {s t : State} {H : Heap} {locs : List Loc} {cells slots : Nat} {Qr : Option jV → jM → Nat → Prop} {v : Option jV} {args : Array Value} (hH : jH sz0 s R H locs cells slots M sz kc ks) (hq : Qr v M sz) (ht : t.heap = H) (hW : s.WarmedH t.vm) : jQc sz0 Qr args s (.returned (v.map jv)) t := by
  obtain ⟨h1, h2, h3, h4, h5⟩ := hH
  refine ⟨v, M, rfl, by rw [ht, h2]; exact hq, by rw [ht]; exact h1.moved hW.alike, ?_⟩
  exact h3.F ht
theorem iI_l {z : Int} (h : jr z) : (iI z).toInt64 = Int64.ofInt z := by
  rw [← Int64.toInt_inj, Int32.toInt_toInt64, iI_toInt h, Int64.toInt_ofInt_of_le (by have := h.1; omega) (by have := h.2; omega)]
theorem iI_c {z : Int} (h : 0 ≤ z ∧ z < 65536) : ((iI z).toUInt32 % 65536).toInt32 = iI z := by
  obtain ⟨n, rfl⟩ := Int.eq_ofNat_of_zero_le h.1
  rw [iI_nat, pk_char, pk_tn (by omega), Nat.mod_eq_of_lt (by omega)]
theorem jge {x y : Int} (hx : jr x) (hy : jr y) (q : iI x ≥ iI y) : y ≤ x := (iI_le hy hx).mp q
theorem jnge {x y : Int} (hx : jr x) (hy : jr y) (q : ¬ iI x ≥ iI y) : x < y := by
  have h1 : ¬ y ≤ x := fun z => q ((iI_le hy hx).mpr z)
  omega
theorem jgt {x y : Int} (hx : jr x) (hy : jr y) (q : iI x > iI y) : y < x := (iI_lt hy hx).mp q
theorem jngt {x y : Int} (hx : jr x) (hy : jr y) (q : ¬ iI x > iI y) : x ≤ y := by
  have h1 : ¬ y < x := fun z => q ((iI_lt hy hx).mpr z)
  omega
theorem jr0 : jr 0 := ⟨by omega, by omega⟩
theorem jge0 {x : Int} (hx : jr x) (q : iI x ≥ 0) : 0 ≤ x := jge hx jr0 q
theorem jlt0 {x : Int} (hx : jr x) (q : ¬ iI x ≥ 0) : x < 0 := jnge hx jr0 q
theorem jgt0 {x : Int} (hx : jr x) (q : iI x > 0) : 0 < x := jgt hx jr0 q
theorem jle0 {x : Int} (hx : jr x) (q : ¬ iI x > 0) : x ≤ 0 := jngt hx jr0 q
theorem jst_has2 {ls : Array Slot} {nL i : Nat} {v : jV} {lv : List (Nat × jV)} (h : lv_has ls nL ((i, jv v) :: (jlm lv).filter (fun q => !(q.1 == i) && (!(q.1 == i + 1) && !(q.1 + 1 == i && q.2.category == 2))))) : lv_has ls nL (jlm (jst true i v lv)) := by
  refine ⟨h.1, h.2.1, fun q hq => h.2.2 q ?_⟩
  obtain ⟨q0, h0, rfl⟩ := List.mem_map.mp hq
  rcases jst_mem h0 with e | ⟨h1, h2, h3, h5⟩
  · rw [e]; exact List.mem_cons_self
  · refine List.mem_cons_of_mem _ (List.mem_filter.mpr ⟨List.mem_map.mpr ⟨q0, h1, rfl⟩, ?_⟩)
    have h4 : ¬ (q0.1 + 1 = i ∧ (jv q0.2).category = 2) := fun ⟨a, b⟩ => h3 ⟨a, jct2_cat.mp b⟩
    have h6 : ¬ q0.1 = i + 1 := fun a => h5 ⟨rfl, a⟩
    simp only [Bool.and_eq_true, Bool.not_eq_true', beq_eq_false_iff_ne, ne_eq, Bool.and_eq_false_iff]
    refine ⟨h2, h6, ?_⟩
    by_cases e : q0.1 + 1 = i
    · exact Or.inr (by intro e2; exact h4 ⟨e, e2⟩)
    · exact Or.inl e
set_option maxHeartbeats 4000000 in
set_option maxRecDepth 20000 in
theorem js_sound1 {Qr : Option jV → jM → Nat → Prop} {Qx : Nat → jM → Nat → Prop} {X : Nat → jM → Nat → Nat → Nat → Prop} {cp : List (Nat × Nat × jTr)} {i : Instr} {npc tgt : Nat} {cst : Int} {lv : List (Nat × jV)} {st : List jV} {M : jM} {sz kc ks : Nat} {K : jK}
    (hC : jCx sz0 own nm dep p l R s m args meth c cc nL ret) (hsw : ∀ (d lo hi : Int) (offs : Array Int), i ≠ .tableswitch d lo hi offs) (hd : decode cc pc = .ok (i, jlen i)) (hn : npc = pc + jlen i) (hr : jchk i pc tgt cst = true) (hlv : lv_has ls nL (jlm lv)) (hH : jH sz0 s R H locs cells slots M sz kc ks)
    (hcp : ∀ q ∈ cp, jSnd sz0 l own nm dep (jin q.1 q.2.1) (jlen (jin q.1 q.2.1)) q.2.2)
    (h : js cp ret nL Qr X pc i npc tgt cst lv st M sz kc ks K)
    (kK : ∀ (pc' : Nat) (lv' : List (Nat × jV)) (st' : List jV) (M' : jM) (sz' kc' ks' : Nat) (ls' : Array Slot) (H' : Heap) (locs' : List Loc) (cells' slots' : Nat), K pc' lv' st' M' sz' kc' ks' → lv_has ls' nL (jlm lv') → jH sz0 s R H' locs' cells' slots' M' sz' kc' ks' → W p l e R s m args below meth c H' locs' cells' slots' (jQ below sz0 Qr Qx args s R) (F0 m pc' ls' (st'.map jv)))
    (kX : ∀ (E : Nat) (M' : jM) (sz' kc' ks' : Nat) (H' : Heap) (locs' : List Loc) (cells' slots' : Nat) (ce : Cell) (q : Nat) (rest : List Value), X E M' sz' kc' ks' → jH sz0 s R H' locs' cells' slots' M' sz' kc' ks' → H'[q]? = some ce → ce.vm = .none → s.vm.findClass (jEx E) = some ce.cls → vx_W p l e R s m args below meth c H' locs' cells' slots' (jQ below sz0 Qr Qx args s R) (F0 m pc ls rest) q) :
    W p l e R s m args below meth c H locs cells slots (jQ below sz0 Qr Qx args s R) (F0 m pc ls (st.map jv)) := by
  have hC0 := hC
  obtain ⟨hx, hb, hml, hown, hts, hlocks, hI, hsz0, hnt, hnm, hRf, hRl, hret⟩ := hC
  have hS := hH.2.2.1
  have hcl : cells ≤ R.cells := by have := hH.2.2.2.1; omega
  have hsl : slots ≤ R.slots := by have := hH.2.2.2.2; omega
  have hmem : ∀ (a b : Nat) (tr : jTr), jl2 cp a b = some tr → tr st M sz kc ks (K npc lv) X → decode cc pc = .ok (jin a b, jlen (jin a b)) → npc = pc + jlen (jin a b) → W p l e R s m args below meth c H locs cells slots (jQ below sz0 Qr Qx args s R) (F0 m pc ls (st.map jv)) := by
    intro a b tr h1 h2 h3 h4
    refine hcp (a, b, tr) (jl2_mem h1) hC0 h3 hlv.1 hH h2 (fun st' M' sz' kc' ks' H' locs' cells' slots' hk hh => ?_) kX
    rw [← h4]
    exact kK npc lv st' M' sz' kc' ks' ls H' locs' cells' slots' hk hlv hh
  revert hsw
  cases i with
  | iconst n =>
    intro hs9; clear hs9
    simp only [jchk, decide_eq_true_eq] at hr
    subst hr; subst hn
    exact lv_iconst hx hb hd rfl (kK _ _ _ _ _ _ _ _ _ _ _ _ h hlv hH)
  | bipush n =>
    intro hs9; clear hs9
    simp only [jchk, decide_eq_true_eq] at hr
    subst hn
    exact lv_bipush hx hb hd hr (kK _ _ _ _ _ _ _ _ _ _ _ _ h hlv hH)
  | sipush n =>
    intro hs9; clear hs9
    simp only [jchk, decide_eq_true_eq] at hr
    subst hn
    exact lv_sipush hx hb hd hr (kK _ _ _ _ _ _ _ _ _ _ _ _ h hlv hH)
  | lconst n =>
    intro hs9; clear hs9
    simp only [jchk, decide_eq_true_eq] at hr
    subst hr; subst hn
    exact lv_lconst hx hb hd (Int64.ofInt_eq_ofNat).symm (kK _ _ _ _ _ _ _ _ _ _ _ _ h hlv hH)
  | iload k =>
    intro hs9; clear hs9
    subst hn
    simp only [js] at h
    split at h
    · rename_i z hz
      exact lv_iload hx hb hd (jlk_at hlv hz) (kK _ _ _ _ _ _ _ _ _ _ _ _ h hlv hH)
    · exact h.elim
  | iload_n k =>
    intro hs9; clear hs9
    subst hn
    simp only [js] at h
    split at h
    · rename_i z hz
      exact lv_iload_n hx hb hd rfl (jlk_at hlv hz) (kK _ _ _ _ _ _ _ _ _ _ _ _ h hlv hH)
    · exact h.elim
  | lload k =>
    intro hs9; clear hs9
    subst hn
    simp only [js] at h
    split at h
    · rename_i z hz
      exact lv_lload hx hb hd (jlk_at hlv hz) (kK _ _ _ _ _ _ _ _ _ _ _ _ h hlv hH)
    · exact h.elim
  | lload_n k =>
    intro hs9; clear hs9
    subst hn
    simp only [js] at h
    split at h
    · rename_i z hz
      exact lv_lload_n hx hb hd rfl (jlk_at hlv hz) (kK _ _ _ _ _ _ _ _ _ _ _ _ h hlv hH)
    · exact h.elim
  | aload k =>
    intro hs9; clear hs9
    subst hn
    simp only [js] at h
    split at h
    · rename_i z hz
      exact lv_aload hx hb hd (jlk_at hlv hz) (kK _ _ _ _ _ _ _ _ _ _ _ _ h hlv hH)
    · exact h.elim
  | aload_n k =>
    intro hs9; clear hs9
    subst hn
    simp only [js] at h
    split at h
    · rename_i z hz
      exact lv_aload_n hx hb hd rfl (jlk_at hlv hz) (kK _ _ _ _ _ _ _ _ _ _ _ _ h hlv hH)
    · exact h.elim
  | istore k =>
    intro hs9; clear hs9
    subst hn
    simp only [js] at h
    split at h
    · rename_i z r hz
      exact lv_istore hx hb hd hlv (Nat.le_of_ble_eq_true hz) rfl (fun ls' hl' => kK _ _ _ _ _ _ _ _ _ _ _ _ h (jst_has1 hl') hH)
    · exact h.elim
  | istore_n k =>
    intro hs9; clear hs9
    subst hn
    simp only [js] at h
    split at h
    · rename_i z r hz
      exact lv_istore_n hx hb hd rfl hlv (Nat.le_of_ble_eq_true hz) rfl (fun ls' hl' => kK _ _ _ _ _ _ _ _ _ _ _ _ h (jst_has1 hl') hH)
    · exact h.elim
  | astore k =>
    intro hs9; clear hs9
    subst hn
    simp only [js] at h
    split at h
    · rename_i z r hz
      exact lv_astore hx hb hd hlv (Nat.le_of_ble_eq_true hz) rfl (fun ls' hl' => kK _ _ _ _ _ _ _ _ _ _ _ _ h (jst_has1 hl') hH)
    · exact h.elim
  | astore_n k =>
    intro hs9; clear hs9
    subst hn
    simp only [js] at h
    split at h
    · rename_i z r hz
      exact lv_astore_n hx hb hd rfl hlv (Nat.le_of_ble_eq_true hz) rfl (fun ls' hl' => kK _ _ _ _ _ _ _ _ _ _ _ _ h (jst_has1 hl') hH)
    · exact h.elim
  | lstore k =>
    intro hs9; clear hs9
    subst hn
    simp only [js] at h
    split at h
    · rename_i z r hz
      exact lv_lstore hx hb hd hlv (Nat.le_of_ble_eq_true hz) rfl (fun ls' hl' => kK _ _ _ _ _ _ _ _ _ _ _ _ h (jst_has2 hl') hH)
    · exact h.elim
  | lstore_n k =>
    intro hs9; clear hs9
    subst hn
    simp only [js] at h
    split at h
    · rename_i z r hz
      exact lv_lstore_n hx hb hd rfl hlv (Nat.le_of_ble_eq_true hz) rfl (fun ls' hl' => kK _ _ _ _ _ _ _ _ _ _ _ _ h (jst_has2 hl') hH)
    · exact h.elim
  | iinc k n =>
    intro hs9; clear hs9
    subst hn
    simp only [jchk, decide_eq_true_eq] at hr
    subst hr
    simp only [js] at h
    split at h
    · rename_i z hz hb2
      obtain ⟨j, hj⟩ := List.getElem?_of_mem (List.mem_map.mpr ⟨(k, .inl z), jlk_mem hz, rfl⟩ : (k, jv (.inl z)) ∈ jlm lv)
      exact lv_iinc hx hb hd hlv hj (iI_add z n) (Nat.le_of_ble_eq_true hb2) rfl (fun ls' hl' => kK _ _ _ _ _ _ _ _ _ _ _ _ h (jst_has1 hl') hH)
    · exact h.elim
  | iadd =>
    intro hs9; clear hs9
    subst hn
    simp only [js] at h
    split at h
    · rename_i y x r
      refine lv_iadd hx hb hd ?_
      rw [iI_add]
      exact kK _ _ _ _ _ _ _ _ _ _ _ _ h hlv hH
    · exact h.elim
  | isub =>
    intro hs9; clear hs9
    subst hn
    simp only [js] at h
    split at h
    · rename_i y x r
      refine lv_isub hx hb hd ?_
      rw [iI_sub]
      exact kK _ _ _ _ _ _ _ _ _ _ _ _ h hlv hH
    · exact h.elim
  | imul =>
    intro hs9; clear hs9
    subst hn
    simp only [js] at h
    split at h
    · rename_i y x r
      refine lv_imul hx hb hd ?_
      rw [iI_mul]
      exact kK _ _ _ _ _ _ _ _ _ _ _ _ h hlv hH
    · exact h.elim
  | ladd =>
    intro hs9; clear hs9
    subst hn
    simp only [js] at h
    split at h
    · rename_i y x r
      refine lv_ladd hx hb hd ?_
      rw [← Int64.ofInt_add]
      exact kK _ _ _ _ _ _ _ _ _ _ _ _ h hlv hH
    · exact h.elim
  | lmul =>
    intro hs9; clear hs9
    subst hn
    simp only [js] at h
    split at h
    · rename_i y x r
      refine lv_lmul hx hb hd ?_
      rw [← Int64.ofInt_mul]
      exact kK _ _ _ _ _ _ _ _ _ _ _ _ h hlv hH
    · exact h.elim
  | ineg =>
    intro hs9; clear hs9
    subst hn
    simp only [js] at h
    split at h
    · refine lv_ineg hx hb hd ?_
      rw [iI_neg]
      exact kK _ _ _ _ _ _ _ _ _ _ _ _ h hlv hH
    · exact h.elim
  | idiv =>
    intro hs9; clear hs9
    subst hn
    simp only [js] at h
    split at h
    · obtain ⟨h1, h⟩ := h
      obtain ⟨e1, e2, e3⟩ := jdiv h1
      refine lv_idiv hx hb hd e3 ?_
      rw [e1]
      exact kK _ _ _ _ _ _ _ _ _ _ _ _ h hlv hH
    · exact h.elim
  | irem =>
    intro hs9; clear hs9
    subst hn
    simp only [js] at h
    split at h
    · obtain ⟨h1, h⟩ := h
      obtain ⟨e1, e2, e3⟩ := jdiv h1
      refine lv_irem hx hb hd e3 ?_
      rw [e2]
      exact kK _ _ _ _ _ _ _ _ _ _ _ _ h hlv hH
    · exact h.elim
  | iand =>
    intro hs9; clear hs9
    subst hn
    simp only [js] at h
    split at h
    · rename_i y x r
      refine lv_iand hx hb hd ?_
      have h9 := kK _ _ _ _ _ _ _ _ _ _ _ _ h hlv hH
      simp only [List.map_cons, jv, iI_of] at h9
      exact h9
    · exact h.elim
  | ixor =>
    intro hs9; clear hs9
    subst hn
    simp only [js] at h
    split at h
    · rename_i y x r
      refine lv_ixor hx hb hd ?_
      have h9 := kK _ _ _ _ _ _ _ _ _ _ _ _ h hlv hH
      simp only [List.map_cons, jv, iI_of] at h9
      exact h9
    · exact h.elim
  | i2l =>
    intro hs9; clear hs9
    subst hn
    simp only [js] at h
    split at h
    · obtain ⟨h1, h⟩ := h
      exact lv_i2l hx hb hd (iI_l h1) (kK _ _ _ _ _ _ _ _ _ _ _ _ h hlv hH)
    · exact h.elim
  | i2c =>
    intro hs9; clear hs9
    subst hn
    simp only [js] at h
    split at h
    · obtain ⟨h1, h⟩ := h
      exact lv_i2c hx hb hd (iI_c h1) (kK _ _ _ _ _ _ _ _ _ _ _ _ h hlv hH)
    · exact h.elim
  | dup =>
    intro hs9; clear hs9
    subst hn
    simp only [js] at h
    split at h
    · split at h
      · rename_i hv
        exact lv_dup hx hb hd (jv_cat1 hv) (kK _ _ _ _ _ _ _ _ _ _ _ _ h hlv hH)
      · exact h.elim
    · exact h.elim
  | pop =>
    intro hs9; clear hs9
    subst hn
    simp only [js] at h
    split at h
    · split at h
      · rename_i hv
        exact lv_pop hx hb hd (jv_cat1 hv) (kK _ _ _ _ _ _ _ _ _ _ _ _ h hlv hH)
      · exact h.elim
    · exact h.elim
  | dup2 =>
    intro hs9; clear hs9
    subst hn
    simp only [js] at h
    split at h
    · split at h
      · rename_i hv hu
        exact lv_dup2_11 hx hb hd (jv_cat1 hv) (jv_cat1 hu) (kK _ _ _ _ _ _ _ _ _ _ _ _ h hlv hH)
      · exact h.elim
    · exact h.elim
  | pop2 =>
    intro hs9; clear hs9
    subst hn
    simp only [js] at h
    split at h
    · split at h
      · rename_i hv
        exact lv_pop2_2 hx hb hd (jct2_cat.mpr hv) (kK _ _ _ _ _ _ _ _ _ _ _ _ h hlv hH)
      · exact h.elim
    · exact h.elim
  | goto off =>
    intro hs9; clear hs9
    simp only [jchk, decide_eq_true_eq] at hr
    exact lv_goto hx hb hd hr (kK _ _ _ _ _ _ _ _ _ _ _ _ h hlv hH)
  | ifCond cd off =>
    intro hs9; clear hs9
    simp only [jchk, decide_eq_true_eq] at hr
    subst hn
    simp only [js] at h
    split at h
    · rename_i x r
      have h0 : (0 : Int32) = iI 0 := rfl
      have hj0 : jr 0 := ⟨by omega, by omega⟩
      cases cd <;> simp only at h <;> obtain ⟨h1, h2, h3⟩ := h
      · exact lv_if_eq hx hb hd hr (fun q => kK _ _ _ _ _ _ _ _ _ _ _ _ (h2 (by rw [h0] at q; exact (iI_eq h1 hj0).mp q)) hlv hH) (fun q => kK _ _ _ _ _ _ _ _ _ _ _ _ (h3 (fun z => q (by rw [h0]; exact (iI_eq h1 hj0).mpr z))) hlv hH)
      · exact lv_if_ne hx hb hd hr (fun q => kK _ _ _ _ _ _ _ _ _ _ _ _ (h2 (fun z => q (by rw [h0]; exact (iI_eq h1 hj0).mpr z))) hlv hH) (fun q => kK _ _ _ _ _ _ _ _ _ _ _ _ (h3 ((iI_eq h1 hj0).mp (by rw [← h0]; exact q))) hlv hH)
      · exact lv_if_lt hx hb hd hr (fun q => kK _ _ _ _ _ _ _ _ _ _ _ _ (h2 (by rw [h0] at q; exact (iI_lt h1 hj0).mp q)) hlv hH) (fun q => kK _ _ _ _ _ _ _ _ _ _ _ _ (h3 (by rw [h0, iI_lt h1 hj0] at q; omega)) hlv hH)
      · exact lv_if_ge hx hb hd hr (fun q => kK _ _ _ _ _ _ _ _ _ _ _ _ (h2 (jge0 h1 q)) hlv hH) (fun q => kK _ _ _ _ _ _ _ _ _ _ _ _ (h3 (jlt0 h1 q)) hlv hH)
      · exact lv_if_gt hx hb hd hr (fun q => kK _ _ _ _ _ _ _ _ _ _ _ _ (h2 (jgt0 h1 q)) hlv hH) (fun q => kK _ _ _ _ _ _ _ _ _ _ _ _ (h3 (jle0 h1 q)) hlv hH)
      · exact lv_if_le hx hb hd hr (fun q => kK _ _ _ _ _ _ _ _ _ _ _ _ (h2 (by rw [h0] at q; exact (iI_le h1 hj0).mp q)) hlv hH) (fun q => kK _ _ _ _ _ _ _ _ _ _ _ _ (h3 (by rw [h0, iI_le h1 hj0] at q; omega)) hlv hH)
    · exact h.elim
  | if_icmp cd off =>
    intro hs9; clear hs9
    simp only [jchk, decide_eq_true_eq] at hr
    subst hn
    simp only [js] at h
    split at h
    · rename_i y x r
      cases cd <;> simp only at h <;> obtain ⟨⟨hjx, hjy⟩, h2, h3⟩ := h
      · exact lv_icmp_eq hx hb hd hr (fun q => kK _ _ _ _ _ _ _ _ _ _ _ _ (h2 ((iI_eq hjx hjy).mp q)) hlv hH) (fun q => kK _ _ _ _ _ _ _ _ _ _ _ _ (h3 (fun z => q ((iI_eq hjx hjy).mpr z))) hlv hH)
      · exact lv_icmp_ne hx hb hd hr (fun q => kK _ _ _ _ _ _ _ _ _ _ _ _ (h2 (fun z => q ((iI_eq hjx hjy).mpr z))) hlv hH) (fun q => kK _ _ _ _ _ _ _ _ _ _ _ _ (h3 ((iI_eq hjx hjy).mp q)) hlv hH)
      · exact lv_icmp_lt hx hb hd hr (fun q => kK _ _ _ _ _ _ _ _ _ _ _ _ (h2 ((iI_lt hjx hjy).mp q)) hlv hH) (fun q => kK _ _ _ _ _ _ _ _ _ _ _ _ (h3 (by rw [iI_lt hjx hjy] at q; omega)) hlv hH)
      · exact lv_icmp_ge hx hb hd hr (fun q => kK _ _ _ _ _ _ _ _ _ _ _ _ (h2 (jge hjx hjy q)) hlv hH) (fun q => kK _ _ _ _ _ _ _ _ _ _ _ _ (h3 (jnge hjx hjy q)) hlv hH)
      · exact lv_icmp_gt hx hb hd hr (fun q => kK _ _ _ _ _ _ _ _ _ _ _ _ (h2 (jgt hjx hjy q)) hlv hH) (fun q => kK _ _ _ _ _ _ _ _ _ _ _ _ (h3 (jngt hjx hjy q)) hlv hH)
      · exact lv_icmp_le hx hb hd hr (fun q => kK _ _ _ _ _ _ _ _ _ _ _ _ (h2 ((iI_le hjx hjy).mp q)) hlv hH) (fun q => kK _ _ _ _ _ _ _ _ _ _ _ _ (h3 (by rw [iI_le hjx hjy] at q; omega)) hlv hH)
    · exact h.elim
  | getfield k =>
    intro hs9; clear hs9
    simp only [js] at h
    split at h
    · rename_i tr ht
      exact hmem 0 k tr ht h hd hn
    · exact h.elim
  | putfield k =>
    intro hs9; clear hs9
    simp only [js] at h
    split at h
    · rename_i tr ht
      exact hmem 1 k tr ht h hd hn
    · exact h.elim
  | getstatic k =>
    intro hs9; clear hs9
    simp only [js] at h
    split at h
    · rename_i tr ht
      exact hmem 2 k tr ht h hd hn
    · exact h.elim
  | invokevirtual k =>
    intro hs9; clear hs9
    simp only [js] at h
    split at h
    · rename_i tr ht
      exact hmem 3 k tr ht h hd hn
    · exact h.elim
  | invokestatic k =>
    intro hs9; clear hs9
    simp only [js] at h
    split at h
    · rename_i tr ht
      exact hmem 4 k tr ht h hd hn
    · exact h.elim
  | invokespecial k =>
    intro hs9; clear hs9
    simp only [js] at h
    split at h
    · rename_i tr ht
      exact hmem 5 k tr ht h hd hn
    · exact h.elim
  | new k =>
    intro hs9; clear hs9
    simp only [js] at h
    split at h
    · rename_i tr ht
      exact hmem 6 k tr ht h hd hn
    · exact h.elim
  | anewarray k =>
    intro hs9; clear hs9
    simp only [js] at h
    split at h
    · rename_i tr ht
      exact hmem 7 k tr ht h hd hn
    · exact h.elim
  | ldc k =>
    intro hs9; clear hs9
    simp only [js] at h
    split at h
    · rename_i tr ht
      exact hmem 8 k tr ht h hd hn
    · exact h.elim
  | ldc2_w k =>
    intro hs9; clear hs9
    simp only [js] at h
    split at h
    · rename_i tr ht
      exact hmem 9 k tr ht h hd hn
    · exact h.elim
  | iastore =>
    intro hs9; clear hs9
    simp only [js] at h
    split at h
    · rename_i tr ht
      exact hmem 11 0 tr ht h hd hn
    · exact h.elim
  | castore =>
    intro hs9; clear hs9
    simp only [js] at h
    split at h
    · rename_i tr ht
      exact hmem 12 0 tr ht h hd hn
    · exact h.elim
  | aastore =>
    intro hs9; clear hs9
    simp only [js] at h
    split at h
    · rename_i tr ht
      exact hmem 13 0 tr ht h hd hn
    · exact h.elim
  | newarray ty =>
    intro hs9; clear hs9
    simp only [js] at h
    split at h
    · split at h
      · rename_i tr ht
        exact hmem 10 10 tr ht h hd hn
      · exact h.elim
    · split at h
      · rename_i tr ht
        exact hmem 10 5 tr ht h hd hn
      · exact h.elim
    · exact h.elim
  | arraylength =>
    intro hs9; clear hs9
    subst hn
    simp only [js] at h
    split at h
    · rename_i a r
      rcases h with ⟨ty, xs, h1, h⟩ | ⟨ty, rs, h1, h⟩
      · have h9 := kK _ _ _ _ _ _ _ _ _ _ _ _ h hlv hH
        rcases (hH.1 _ _ h1).1 with ⟨cA, h2, h3⟩ | ⟨h0, cell, h2, h3, h4, h5⟩
        · exact W.alen (n := iI (xs.length : Int)) hx hb h2 (h3 xs.length (fun j => .int (iI (xs.getD j 0)))) (by rw [vp_cell_i, arrV_size, iI_nat]; rfl) rfl rfl hd h9
        · dsimp only at h0
          subst h0
          exact W.alen (n := iI ((List.length ([] : List Int) : Nat) : Int)) hx hb h2 h3 (by rw [h5]; rfl) rfl rfl hd h9
      · have h9 := kK _ _ _ _ _ _ _ _ _ _ _ _ h hlv hH
        obtain ⟨cA, h2, h3, h4⟩ := hH.1 _ _ h1
        exact W.alen (n := iI (rs.length : Int)) hx hb h2 (h3 rs.length (fun j => va_rf (rs.getD j none))) (by rw [vp_cell_q, arrV_size, iI_nat]; rfl) rfl rfl hd h9
    · exact h.elim
  | iaload =>
    intro hs9; clear hs9
    subst hn
    simp only [js] at h
    split at h
    · rename_i j a r
      obtain ⟨xs, h1, ⟨g1, g2, g3⟩, h⟩ := h
      obtain ⟨h2, hjr⟩ := hH.1 _ _ h1
      have hjj : jr j := ⟨by omega, by omega⟩
      have hlt : j.toNat < xs.length := by omega
      have h9 := kK _ _ _ _ _ _ _ _ _ _ _ _ (h (xs[j.toNat]) (List.getElem?_eq_getElem hlt) (hjr _ (List.getElem_mem hlt))) hlv hH
      rcases h2 with ⟨cA, h2, h3⟩ | ⟨h0, -⟩
      · refine W.iald (v := .int (iI (xs[j.toNat]))) hx hb h2 (h3 xs.length (fun j => .int (iI (xs.getD j 0)))) (fun q => by cases q) ?_ ?_ rfl rfl hd h9
        · rw [vp_cell_i, arrV_size, iI_clamp hjj g1]
          intro q
          rcases q with q | q
          · exact iI_neg_not hjj g1 q
          · exact absurd hlt (Nat.not_lt.mpr q)
        · rw [vp_cell_i, iI_clamp hjj g1, arrV_read _ _ hlt]
          simp [List.getD_eq_getElem?_getD, hlt]
      · dsimp only at h0
        rw [h0] at hlt
        exact absurd hlt (Nat.not_lt_zero _)
    · exact h.elim
  | aaload =>
    intro hs9; clear hs9
    subst hn
    simp only [js] at h
    split at h
    · rename_i j a r
      obtain ⟨ty, rs, b, h1, hty, ⟨g1, g2, g3⟩, hb9, h⟩ := h
      obtain ⟨cA, h2, h3, h4⟩ := hH.1 _ _ h1
      have hjj : jr j := ⟨by omega, by omega⟩
      have hlt : j.toNat < rs.length := by omega
      have h9 := kK _ _ _ _ _ _ _ _ _ _ _ _ h hlv hH
      refine W.aald (v := .ref b) (ty := ty) hx hb h2 (h3 rs.length (fun j => va_rf (rs.getD j none))) hty (fun q => by cases q) ?_ ?_ rfl rfl hd h9
      · rw [vp_cell_q, arrV_size, iI_clamp hjj g1]
        intro q
        rcases q with q | q
        · exact iI_neg_not hjj g1 q
        · exact absurd hlt (Nat.not_lt.mpr q)
      · rw [vp_cell_q, iI_clamp hjj g1, arrV_read _ _ hlt, List.getD_eq_getElem?_getD, hb9]
        rfl
    · exact h.elim
  | ireturn =>
    intro hs9; clear hs9
    simp only [js] at h
    split at h
    · rename_i v
      obtain ⟨h1, h2⟩ := h
      refine W.widen hcl hsl (vx_ret ?_)
      cases ret with
      | none => exact h1.elim
      | some ty =>
        have hn9 : narrow ty (.int (iI v)) = .int (iI v) := by
          cases ty <;> first | exact h1.elim | rfl | (rcases h1 with rfl | rfl <;> rfl)
        exact W.zret (v := iI v) (ty := ty) hx hb hret hn9 (fun t ht hW => jH.ends hH h2 ht hW) hS.2.2 hd
    · exact h.elim
  | lreturn =>
    intro hs9; clear hs9
    simp only [js] at h
    split at h
    · rename_i v
      obtain ⟨h1, h2⟩ := h
      refine W.widen hcl hsl (vx_ret ?_)
      exact W.lret (v := Int64.ofInt v) hx hb (hret.trans h1) (fun t ht hW => jH.ends hH h2 ht hW) hS.2.2 hd
    · exact h.elim
  | areturn =>
    intro hs9; clear hs9
    simp only [js] at h
    split at h
    · rename_i v
      obtain ⟨h1, h2⟩ := h
      refine W.widen hcl hsl (vx_ret ?_)
      cases ret with
      | none => cases h1
      | some ty =>
        refine W.aret (v := .ref v) (rt := ty) hx hb hret ?_ (Or.inr ⟨v, rfl⟩) (fun t ht hW => jH.ends hH h2 ht hW) hS.2.2 hd
        cases ty <;> first | exact Or.inl ⟨_, rfl⟩ | exact Or.inr ⟨_, rfl⟩ | cases h1
    · exact h.elim
  | return_ =>
    intro hs9; clear hs9
    simp only [js] at h
    split at h
    · obtain ⟨h1, h2⟩ := h
      refine W.widen hcl hsl (vx_ret ?_)
      exact W.vret hx hb (hret.trans h1) (fun t ht hW => jH.ends hH h2 ht hW) hS.2.2 hd
    · exact h.elim
  | tableswitch d lo hi offs =>
    intro hsw
    exact absurd rfl (hsw _ _ _ _)
  | _ => intro hs9; exact h.elim
set_option maxHeartbeats 4000000 in
set_option maxRecDepth 20000 in
theorem js_sound {Qr : Option jV → jM → Nat → Prop} {Qx : Nat → jM → Nat → Prop} {X : Nat → jM → Nat → Nat → Nat → Prop} {cp : List (Nat × Nat × jTr)} {i : Instr} {npc tgt : Nat} {cst : Int} {lv : List (Nat × jV)} {st : List jV} {M : jM} {sz kc ks : Nat} {K : jK}
    (hC : jCx sz0 own nm dep p l R s m args meth c cc nL ret) (hok : jok1 cc (pc, i, npc, tgt, cst) = true) (hlv : lv_has ls nL (jlm lv)) (hH : jH sz0 s R H locs cells slots M sz kc ks)
    (hcp : ∀ q ∈ cp, jSnd sz0 l own nm dep (jin q.1 q.2.1) (jlen (jin q.1 q.2.1)) q.2.2)
    (h : js cp ret nL Qr X pc i npc tgt cst lv st M sz kc ks K)
    (kK : ∀ (pc' : Nat) (lv' : List (Nat × jV)) (st' : List jV) (M' : jM) (sz' kc' ks' : Nat) (ls' : Array Slot) (H' : Heap) (locs' : List Loc) (cells' slots' : Nat), K pc' lv' st' M' sz' kc' ks' → lv_has ls' nL (jlm lv') → jH sz0 s R H' locs' cells' slots' M' sz' kc' ks' → W p l e R s m args below meth c H' locs' cells' slots' (jQ below sz0 Qr Qx args s R) (F0 m pc' ls' (st'.map jv)))
    (kX : ∀ (E : Nat) (M' : jM) (sz' kc' ks' : Nat) (H' : Heap) (locs' : List Loc) (cells' slots' : Nat) (ce : Cell) (q : Nat) (rest : List Value), X E M' sz' kc' ks' → jH sz0 s R H' locs' cells' slots' M' sz' kc' ks' → H'[q]? = some ce → ce.vm = .none → s.vm.findClass (jEx E) = some ce.cls → vx_W p l e R s m args below meth c H' locs' cells' slots' (jQ below sz0 Qr Qx args s R) (F0 m pc ls rest) q) :
    W p l e R s m args below meth c H locs cells slots (jQ below sz0 Qr Qx args s R) (F0 m pc ls (st.map jv)) := by
  have hC0 := hC
  obtain ⟨hx, hb, hml, hown, hts, hlocks, hI, hsz0, hnt, hnm, hRf, hRl, hret⟩ := hC
  have hS := hH.2.2.1
  have hcl : cells ≤ R.cells := by have := hH.2.2.2.1; omega
  have hsl : slots ≤ R.slots := by have := hH.2.2.2.2; omega
  by_cases hsw : ∃ d lo hi offs, i = .tableswitch d lo hi offs
  · obtain ⟨d, lo, hi, offs, rfl⟩ := hsw
    simp only [jok1, Bool.and_eq_true, decide_eq_true_eq] at hok
    obtain ⟨⟨⟨⟨hd, hr0⟩, hr1⟩, hr2⟩, -⟩ := hok
    simp only [js] at h
    split at h
    · rename_i x r
      obtain ⟨hj, h⟩ := h
      have e : (iI x).toInt = x := iI_toInt hj
      by_cases h1 : x < lo ∨ hi < x
      · obtain ⟨t, ht⟩ : ∃ t : Nat, (pc : Int) + d = (t : Int) := ⟨((pc : Int) + d).toNat, by omega⟩
        exact lv_tableOut hx hb hd (by rw [e]; exact h1) ht (kK _ _ _ _ _ _ _ _ _ _ _ _ (h t (Or.inl ⟨h1, ht⟩)) hlv hH)
      · have h2 : ¬ x < lo := fun z => h1 (Or.inl z)
        have h3 : ¬ hi < x := fun z => h1 (Or.inr z)
        have hl : (x - lo).toNat < offs.size := by omega
        have ho : offs[(x - lo).toNat]? = some (offs[(x - lo).toNat]) := Array.getElem?_eq_getElem hl
        have hr3 := Array.all_eq_true.mp hr2 _ hl
        simp only [decide_eq_true_eq] at hr3
        obtain ⟨t, ht⟩ : ∃ t : Nat, (pc : Int) + offs[(x - lo).toNat] = (t : Int) := ⟨((pc : Int) + offs[(x - lo).toNat]).toNat, by omega⟩
        exact lv_tableIn hx hb hd (by rw [e]; exact h2) (by rw [e]; exact h3) (by rw [e]; exact ho) ht (kK _ _ _ _ _ _ _ _ _ _ _ _ (h t (Or.inr ⟨h2, h3, _, ho, ht⟩)) hlv hH)
    · exact h.elim
  have hok : (decode cc pc = .ok (i, jlen i) ∧ npc = pc + jlen i) ∧ jchk i pc tgt cst = true := by
    unfold jok1 at hok
    rw [Bool.and_eq_true] at hok
    refine ⟨?_, hok.2⟩
    have h9 := hok.1
    dsimp only at h9
    split at h9
    · exact absurd ⟨_, _, _, _, rfl⟩ hsw
    · rw [Bool.and_eq_true] at h9
      exact ⟨of_decide_eq_true h9.1, of_decide_eq_true h9.2⟩
  exact js_sound1 hC0 (fun d lo hi offs e9 => hsw ⟨d, lo, hi, offs, e9⟩) hok.1.1 hok.1.2 hok.2 hlv hH hcp h kK kX
end J
end
section
/-! The walk of a method, and a method's contract out of it. -/
section J7
variable {p : Program} {l : Launch} {e : Env} {R : Room} {s : State} {m : MethodId} {args : Array Value} {below : List Frame} {meth : Method} {c : Code} {H : Heap} {locs : List Loc} {cells slots : Nat} {Q : State → Prop}
variable {cc : ByteArray} {nL pc : Nat} {ls : Array Slot} {sz0 : Nat} {own nm : String} {dep : Nat} {ret : Option FieldType}
/-- several instructions that are one -/
def jSnp (sz0 : Nat) (l : Launch) (own nm : String) (dep : Nat) (cc : ByteArray) (pc : Nat) (tr : jTr) : Prop :=
  ∀ {p : Program} {e : Env} {R : Room} {s : State} {m : MethodId} {args : Array Value} {below : List Frame} {meth : Method} {c : Code} {H : Heap} {locs : List Loc} {cells slots : Nat} {nL : Nat} {ls : Array Slot} {ret : Option FieldType} {st : List jV} {M : jM} {sz kc ks : Nat} {Qr : Option jV → jM → Nat → Prop} {Qx : Nat → jM → Nat → Prop},
    jCx sz0 own nm dep p l R s m args meth c cc nL ret → (∀ x ∈ c.exceptionTable.toList, False) → ls.size = nL → jH sz0 s R H locs cells slots M sz kc ks → tr st M sz kc ks (fun _ _ _ _ _ => False) (fun E M' sz' _ _ => Qx E M' sz') →
    W p l e R s m args below meth c H locs cells slots (jQ below sz0 Qr Qx args s R) (F0 m pc ls (st.map jv))
/-- the handlers of a method: none, or where each catches -/
def jHd (own : String) (hd : Option (List (Nat × List (Nat × Nat)))) (s : State) (args : Array Value) (c : Code) : Prop := match hd with
  | none => ∀ x ∈ c.exceptionTable.toList, False
  | some hx => ∀ (pc : Nat) (L : List (Nat × Nat)), (pc, L) ∈ hx → ∀ (E h : Nat), (E, h) ∈ L → ∃ (pre : List ExceptionTableEntry) (x : ExceptionTableEntry) (suf : List ExceptionTableEntry) (name : String), c.exceptionTable.toList = pre ++ x :: suf ∧
      (∀ z ∈ pre, covers z pc = false ∨ (z.catchType ≠ 0 ∧ ∃ nm : String, (Cond.classLink own z.catchType nm).before args s = true ∧ va_Nc (jEx E) nm s)) ∧ covers x pc = true ∧ x.catchType ≠ 0 ∧ x.handlerPc = h ∧ (Cond.classLink own x.catchType name).before args s = true ∧ (Cond.castable (jEx E) name).before args s = true
theorem jwp_sound {Qr : Option jV → jM → Nat → Prop} {Qx : Nat → jM → Nat → Prop} {code : List (Nat × jI5)} {cp : List (Nat × Nat × jTr)} {cut : List (Nat × jAs)} {sp : List (Nat × jTr)} {hd : Option (List (Nat × List (Nat × Nat)))}
    (hC : jCx sz0 own nm dep p l R s m args meth c cc nL ret) (hok : code.all (jok1 cc) = true)
    (hcp : ∀ q ∈ cp, jSnd sz0 l own nm dep (jin q.1 q.2.1) (jlen (jin q.1 q.2.1)) q.2.2) (hsp : ∀ q ∈ sp, hd = none ∧ jSnp sz0 l own nm dep cc q.1 q.2) (hhd : jHd own hd s args c)
    (hcut : ∀ (pc : Nat) (a : jAs), (pc, a) ∈ cut → ∀ (lv : List (Nat × jV)) (st : List jV) (M : jM) (sz kc ks : Nat) (ls : Array Slot) (H : Heap) (locs : List Loc) (cells slots : Nat), a lv st M sz kc ks → lv_has ls nL (jlm lv) → jH sz0 s R H locs cells slots M sz kc ks → W p l e R s m args below meth c H locs cells slots (jQ below sz0 Qr Qx args s R) (F0 m pc ls (st.map jv))) :
    ∀ (n : Nat) (b : Bool) (pc : Nat) (lv : List (Nat × jV)) (st : List jV) (M : jM) (sz kc ks : Nat) (ls : Array Slot) (H : Heap) (locs : List Loc) (cells slots : Nat), jwp code cp cut sp hd ret nL Qr Qx n b pc lv st M sz kc ks → lv_has ls nL (jlm lv) → jH sz0 s R H locs cells slots M sz kc ks → W p l e R s m args below meth c H locs cells slots (jQ below sz0 Qr Qx args s R) (F0 m pc ls (st.map jv)) := by
  intro n
  induction n with
  | zero => intro b pc lv st M sz kc ks ls H locs cells slots h; exact h.elim
  | succ n ih =>
    intro b pc lv st M sz kc ks ls H locs cells slots h hlv hH
    have kX : ∀ (pc : Nat) (lv : List (Nat × jV)) (ls : Array Slot), lv_has ls nL (jlm lv) → ∀ (E : Nat) (M' : jM) (sz' kc' ks' : Nat) (H' : Heap) (locs' : List Loc) (cells' slots' : Nat) (ce : Cell) (q : Nat) (rest : List Value), jx hd Qx (jwp code cp cut sp hd ret nL Qr Qx n true) pc lv E M' sz' kc' ks' → jH sz0 s R H' locs' cells' slots' M' sz' kc' ks' → H'[q]? = some ce → ce.vm = .none → s.vm.findClass (jEx E) = some ce.cls → vx_W p l e R s m args below meth c H' locs' cells' slots' (jQ below sz0 Qr Qx args s R) (F0 m pc ls rest) q := by
      intro pc lv ls hlv E M' sz' kc' ks' H' locs' cells' slots' ce q rest hx hH' hce hvm hcl
      have hlocks : meth.locks = false := hC.2.2.2.2.2.1
      have hown := hC.2.2.2.1
      cases hd with
      | none =>
        have hx : Qx E M' sz' := hx
        have g1 : cells' ≤ R.cells := by have := hH'.2.2.2.1; omega
        have g2 : slots' ≤ R.slots := by have := hH'.2.2.2.2; omega
        refine vx_out (fun x hx9 => (hhd x hx9).elim) hlocks hce hvm hcl (fun t ht ha => ⟨E, M', rfl, by rw [ht, hH'.2.1]; exact hx, by rw [ht]; exact hH'.1.moved ha, hH'.2.2.1.F ht⟩) hH'.2.2.1.2.2 g1 g2
      | some hx0 =>
        simp only [jx] at hx
        split at hx
        · exact hx.elim
        · rename_i L hL
          split at hx
          · exact hx.elim
          · rename_i h9 hE
            obtain ⟨pre, x, suf, name, e1, e2, e3, e4, e5, e6, e7⟩ := hhd pc L (jlk_mem hL) E h9 (jlk_mem hE)
            refine vx_catch hown pre x suf e1 e2 e3 e4 e6 e7 hce hvm hcl ?_
            rw [e5]
            exact ih true h9 lv [vR q] M' sz' kc' ks' ls H' locs' cells' slots' (hx q) hlv hH'
    simp only [jwp] at h
    split at h
    · rename_i a ha
      cases b with
      | true => exact hcut pc a (jlk_mem ha) lv st M sz kc ks ls H locs cells slots h hlv hH
      | false => cases ha
    · split at h
      · rename_i tr ht
        obtain ⟨e1, e2⟩ := hsp (pc, tr) (jlk_mem ht)
        subst e1
        exact e2 hC hhd hlv.1 hH h
      · split at h
        · exact h.elim
        · rename_i i npc tgt cst hi
          exact js_sound hC (List.all_eq_true.mp hok _ (jlk_mem hi)) hlv hH hcp h (fun pc' lv' st' M' sz' kc' ks' ls' H' locs' cells' slots' hk hl hh => ih true pc' lv' st' M' sz' kc' ks' ls' H' locs' cells' slots' hk hl hh) (kX pc lv ls hlv)
/-- the locals at the start -/
def jl0 : Nat → List jV → List (Nat × jV)
  | _, [] => []
  | k, v :: r => (k, v) :: (match jct2 v with
    | true => jl0 (k + 2) r
    | false => jl0 (k + 1) r)
theorem jl0_args : ∀ (vs : List jV) (k : Nat), lv_args k (vs.map jv) = jlm (jl0 k vs) := by
  intro vs
  induction vs with
  | nil => intro k; rfl
  | cons v r ih =>
    intro k
    rcases v with z | z | _ | a
    · show (k, jv (.inl z)) :: lv_args (k + 1) (r.map jv) = (k, jv (.inl z)) :: jlm (jl0 (k + 1) r)
      rw [ih]
    · show (k, jv (.inr (.inl z))) :: lv_args (k + 2) (r.map jv) = (k, jv (.inr (.inl z))) :: jlm (jl0 (k + 2) r)
      rw [ih]
    · show (k, jv vN) :: lv_args (k + 1) (r.map jv) = (k, jv vN) :: jlm (jl0 (k + 1) r)
      rw [ih]
    · show (k, jv (vR a)) :: lv_args (k + 1) (r.map jv) = (k, jv (vR a)) :: jlm (jl0 (k + 1) r)
      rw [ih]
/-- as vx_ofW of the pasted rows, of a method by its name -/
theorem jofW {y : MethodName} {ws ws' : List Cond} {rm : Room} {Pc : Array Value → State → Prop} {Qc : Array Value → State → Outcome → State → Prop} {XC : String → State → State → Prop} {mc ms : Nat} {free : Addr → Prop} {cc : ByteArray} {maxL : Nat} {ret : Option FieldType}
    (hy : plainFor y = true) (hw : ws = Cond.code y cc maxL ret :: ws')
    (body : ∀ p e s m args below meth c s₁, BodyLoose p l y (headSpec ws rm) cc maxL ret e s m args below meth c s₁ → c.maxLocals = maxL → (∀ x ∈ c.exceptionTable.toList, False) → Pc args s →
      W p l e (headSpec ws rm).room s m args below meth c s.heap [] 0 0 (vx_MQ below Qc XC args s mc ms free) (entryFrame m args maxL)) : vx_Met l y ws rm Pc Qc XC mc ms free := by
  refine MetFree.of_bodySF (code := cc) (maxLocals := maxL) (ret := ret) hy ?_ ?_
  · intro args s m h hn
    obtain ⟨meth, c, h1, h2, h3, h4, h5, h6, -, -⟩ := Cond.code_spec hn (atoms_spec (ws := ws) h _ (by rw [hw]; exact List.mem_cons_self))
    exact ⟨meth, c, h1, h2, h3, h4, h5, h6⟩
  · intro p e s m args below meth c s₁ B hml hP _
    have hh0 : s₁.heap = s.heap := by rw [B.state]; rfl
    have ht : ∀ x ∈ c.exceptionTable.toList, False := by
      obtain ⟨meth9, c9, h1, h2, -, -, -, -, h7, -⟩ := Cond.code_spec B.named (atoms_spec (ws := ws) B.pre _ (by rw [hw]; exact List.mem_cons_self))
      cases Option.some.inj (h1.symm.trans B.method)
      cases Option.some.inj (h2.symm.trans (Stand.of_body B).code)
      intro x hx
      rw [Array.isEmpty_iff.mp h7] at hx
      cases hx
    obtain ⟨t, a1, o, b1, b2, b3⟩ := body p e s m args below meth c s₁ B hml ht hP s₁ hh0 (Stand.of_body B)
    exact ⟨t, o, a1, b1, b2, b3⟩
/-- the cuts of a walk from a cut of measure k on: what is met again has a smaller one; of the walk from the start: any -/
def jcuts (I : List (Nat × (Nat → jAs))) (k : Nat) : List (Nat × jAs) := I.map (fun q => (q.1, fun lv st M sz kc ks => ∃ k' : Nat, k' < k ∧ q.2 k' lv st M sz kc ks))
def jcutE (I : List (Nat × (Nat → jAs))) : List (Nat × jAs) := I.map (fun q => (q.1, fun lv st M sz kc ks => ∃ k' : Nat, q.2 k' lv st M sz kc ks))
/-- a method's contract: its walk from the start, each of its cuts walked with a measure that falls -/
theorem jmet {y : MethodName} {maxL mc ms : Nat} {S : jS} (code : List (Nat × jI5)) (cp : List (Nat × Nat × jTr)) (sp : List (Nat × jTr)) (n : Nat) (hy : plainFor y = true) (hyc : y.cls = own) (hyn : y.name = nm) (hnt : l.stackTraces = false)
    (hok : code.all (jok1 cc) = true) (hcp : ∀ q ∈ cp, jSnd sz0 l own nm dep (jin q.1 q.2.1) (jlen (jin q.1 q.2.1)) q.2.2) (hsp : ∀ q ∈ sp, jSnp sz0 l own nm dep cc q.1 q.2)
    (hS : ∀ (av : List jV) (M : jM) (sz : Nat) (P : Option jV → jM → Nat → Prop) (X : Nat → jM → Nat → Prop), S av M sz P X → sz0 ≤ sz → M sz = none →
      Nat.ble (lg_sl (av.map jv)).length maxL = true ∧ ∃ I : List (Nat × (Nat → jAs)),
        jwp code cp (jcutE I) sp none ret maxL P X n true 0 (jl0 0 av) [] M sz mc ms ∧ (∀ (pc : Nat) (a : Nat → jAs), (pc, a) ∈ I → ∀ k lv st M1 sz1 kc ks, a k lv st M1 sz1 kc ks → jwp code cp (jcuts I k) sp none ret maxL P X n false pc lv st M1 sz1 kc ks)) :
    jCon sz0 l y cc maxL ret dep mc ms S := by
  intro av M sz P X hs
  refine jofW (cc := cc) (maxL := maxL) (ret := ret) hy rfl ?_
  intro p e s m args below meth c s₁ B hml htab hv
  obtain ⟨rfl, hM, hsz, hsz0, hI⟩ := hv
  have hts := atoms_spec (ws := Cond.code y cc maxL ret :: jg) B.pre
  have hown : s.vm.findClass own = some m.cls := by rw [← hyc]; exact findClass_of_methodNamed B.named
  have hC : jCx sz0 own nm dep p l (headSpec (Cond.code y cc maxL ret :: jg) (jRm dep mc ms)).room s m (av.map jv).toArray meth c cc maxL ret :=
    ⟨B.exec, B.bytes, hml, hown, fun w hw => hts w (List.mem_cons_of_mem _ hw), B.notSynchronized, hI, by rw [hsz]; exact hsz0, hnt, by rw [← hyn]; exact (name_of_methodNamed B.named B.method).1, Nat.le_refl _, Nat.le_refl _, B.returns⟩
  subst hsz
  obtain ⟨hb0, I, h1, h2⟩ := hS av M s.heap.size P X hs hsz0 hM.fresh
  have hH : jH sz0 s (headSpec (Cond.code y cc maxL ret :: jg) (jRm dep mc ms)).room s.heap [] 0 0 M s.heap.size mc ms := ⟨hM, rfl, va_S.rf, by show 0 + mc ≤ mc; omega, by show 0 + ms ≤ ms; omega⟩
  have key : ∀ (k : Nat) (pc : Nat) (a : Nat → jAs), (pc, a) ∈ I → ∀ (lv : List (Nat × jV)) (st : List jV) (M1 : jM) (sz kc ks : Nat) (ls : Array Slot) (H : Heap) (locs : List Loc) (cells slots : Nat), a k lv st M1 sz kc ks → lv_has ls maxL (jlm lv) → jH sz0 s (headSpec (Cond.code y cc maxL ret :: jg) (jRm dep mc ms)).room H locs cells slots M1 sz kc ks → W p l e (headSpec (Cond.code y cc maxL ret :: jg) (jRm dep mc ms)).room s m (av.map jv).toArray below meth c H locs cells slots (jQ below sz0 P X (av.map jv).toArray s (headSpec (Cond.code y cc maxL ret :: jg) (jRm dep mc ms)).room) (F0 m pc ls (st.map jv)) := by
    intro k
    induction k using Nat.strongRecOn with
    | ind k ih =>
      intro pc a hpa lv st M1 sz kc ks ls H locs cells slots ha hlv hH
      refine jwp_sound (hd := none) hC hok hcp (fun q hq => ⟨rfl, hsp q hq⟩) htab ?_ n false pc lv st M1 sz kc ks ls H locs cells slots (h2 pc a hpa k lv st M1 sz kc ks ha) hlv hH
      intro pc' a' hin lv' st' M' sz' kc' ks' ls' H' locs' cells' slots' h9 hlv' hH'
      obtain ⟨q, hq, he⟩ := List.mem_map.mp hin
      cases he
      obtain ⟨k', hk', h9⟩ := h9
      exact ih k' hk' q.1 q.2 hq lv' st' M' sz' kc' ks' ls' H' locs' cells' slots' h9 hlv' hH'
  have hl := lv_entry (av.map jv) (n := maxL) (Nat.le_of_ble_eq_true hb0)
  rw [jl0_args] at hl
  rw [lg_entry_eq]
  refine jwp_sound (hd := none) hC hok hcp (fun q hq => ⟨rfl, hsp q hq⟩) htab ?_ n true 0 (jl0 0 av) [] M s.heap.size mc ms _ s.heap [] 0 0 h1 hl hH
  intro pc' a' hin lv' st' M' sz' kc' ks' ls' H' locs' cells' slots' h9 hlv' hH'
  obtain ⟨q, hq, he⟩ := List.mem_map.mp hin
  cases he
  obtain ⟨k', h9⟩ := h9
  exact key k' q.1 q.2 hq lv' st' M' sz' kc' ks' ls' H' locs' cells' slots' h9 hlv' hH'
end J7
end
section
/-! What names a field, a class, an array: each as a demand of the world. -/
def jget (ci k : Nat) : jTr := fun st M sz kc ks K _ => match st with
  | .inr (.inr (some a)) :: r => ∃ (fs : List jV) (v : jV), M a = some (.inl (ci, fs)) ∧ fs[k]? = some v ∧ K (v :: r) M sz kc ks
  | _ => False
def jfit : FieldType → jV → Bool
  | .int, .inl _ => true
  | .long, .inr (.inl _) => true
  | .object _, .inr (.inr _) => true
  | .array _, .inr (.inr _) => true
  | _, _ => false
theorem jfit_ok {ty : FieldType} {v : jV} (h : jfit ty v = true) : narrow ty (jv v) = jv v ∧ fits ty (jv v) = true := by
  cases ty <;> rcases v with z | z | _ | a <;> first | (simp [jfit] at h; done) | exact ⟨rfl, rfl⟩
def jputf (sz0 ci k : Nat) (ty : FieldType) : jTr := fun st M sz kc ks K _ => match st with
  | v :: .inr (.inr (some a)) :: r => match jfit ty v with
    | true => sz0 ≤ a ∧ ∃ fs : List jV, M a = some (.inl (ci, fs)) ∧ ∀ M' : jM, M' = jup M a (.inl (ci, fs.set k v)) → K r M' sz kc ks
    | false => False
  | _ => False
def jnew (ci N : Nat) (fs : List jV) : jTr := fun st M sz kc ks K _ => 1 ≤ kc ∧ N ≤ ks ∧ ∀ M' : jM, M sz = none → M' = jup M sz (.inl (ci, fs)) → K (vR sz :: st) M' (sz + 1) (kc - 1) (ks - N)
def jnewa (ty : FieldType) : jTr := fun st M sz kc ks K _ => match st with
  | .inl n :: r => 0 ≤ n ∧ n ≤ 100000000 ∧ 1 ≤ kc ∧ n.toNat ≤ ks ∧ ∀ M' : jM, M sz = none → M' = jup M sz (.inr (.inl (ty, List.replicate n.toNat 0))) → K (vR sz :: r) M' (sz + 1) (kc - 1) (ks - n.toNat)
  | _ => False
def jnewq (ty : FieldType) : jTr := fun st M sz kc ks K _ => match st with
  | .inl n :: r => 0 ≤ n ∧ n ≤ 100000000 ∧ 1 ≤ kc ∧ n.toNat ≤ ks ∧ ∀ M' : jM, M sz = none → M' = jup M sz (.inr (.inr (ty, List.replicate n.toNat none))) → K (vR sz :: r) M' (sz + 1) (kc - 1) (ks - n.toNat)
  | _ => False
def jiast (sz0 : Nat) : jTr := fun st M sz kc ks K _ => match st with
  | .inl v :: .inl j :: .inr (.inr (some a)) :: r => ∃ xs : List Int, M a = some (.inr (.inl (.int, xs))) ∧ sz0 ≤ a ∧ (0 ≤ j ∧ j < (xs.length : Int) ∧ xs.length < 2 ^ 31) ∧ jr v ∧ ∀ M' : jM, M' = jup M a (.inr (.inl (.int, xs.set j.toNat v))) → K r M' sz kc ks
  | _ => False
def jcast (sz0 : Nat) : jTr := fun st M sz kc ks K _ => match st with
  | .inl v :: .inl j :: .inr (.inr (some a)) :: r => ∃ xs : List Int, M a = some (.inr (.inl (.char, xs))) ∧ sz0 ≤ a ∧ (0 ≤ j ∧ j < (xs.length : Int) ∧ xs.length < 2 ^ 31) ∧ (0 ≤ v ∧ v < 65536) ∧ ∀ M' : jM, M' = jup M a (.inr (.inl (.char, xs.set j.toNat v))) → K r M' sz kc ks
  | _ => False
def jldc2 (v : Int) : jTr := fun st M sz kc ks K _ => K (vL v :: st) M sz kc ks
def jldcs : jTr := fun st M sz kc ks K _ => ∀ q : Nat, K (vR q :: st) M sz kc ks
/-- a class of the table: its words are taken along -/
def jcOk (ci : Nat) (r : vw_C) (ty : Nat → FieldType) : Prop := jcl[ci]? = some r ∧ (∀ w ∈ u_ws r.1 r.2.1 r.2.2, w ∈ jg) ∧ (∀ k, k < r.2.2 → parseFieldDescriptor (r.2.1 k).2.2.1 = some (ty k)) ∧ (∀ a, a < r.2.2 → ∀ b, b < r.2.2 → a ≠ b → (r.2.1 a).2.1 ≠ (r.2.1 b).2.1) ∧ (∀ k, k < r.2.2 → (r.2.1 k).1 = r.1)
section J8
variable {l : Launch} {sz0 : Nat} {own nm : String} {dep : Nat}
theorem jG1 {s : State} {q ci : Nat} {fs : List jV} {H : Heap} {r : vw_C} (h : jat s q (.inl (ci, fs)) H) (hr : jcl[ci]? = some r) : ∃ (cC : ClassId) (iS : Nat → Nat), u_Kn s r.1 r.2.1 r.2.2 cC iS ∧ t_OB q cC r.2.2 iS H (vp_V (fs.map jv)) ∧ fs.length = r.2.2 := by
  obtain ⟨r', cC, iS, h1, h2, h3, h4⟩ := h
  cases Option.some.inj (h1.symm.trans hr)
  exact ⟨cC, iS, h2, h3, h4⟩
theorem jK1 {s : State} {r : vw_C} {cC : ClassId} {iS : Nat → Nat} (h : u_Kn s r.1 r.2.1 r.2.2 cC iS) : va_K (fun _ => cC, fun _ => iS) [r] [] s := by
  refine ⟨fun c9 q hq => ?_, fun k9 q hq => by cases hq⟩
  cases c9 with
  | zero => cases hq; exact h
  | succ n => cases hq
theorem jP1 {r : vw_C} {cC : ClassId} {iS : Nat → Nat} {a : Nat} {fs : List Value} {H : Heap} (h : t_OB a cC r.2.2 iS H (vp_V fs)) : va_P (fun _ => cC, fun _ => iS) [r] [(a, .inr (0, fs))] H := by
  intro k9 q hq
  cases k9 with
  | zero => cases hq; exact ⟨r, rfl, h⟩
  | succ n => cases hq
theorem jget_snd {ci k idx : Nat} {r : vw_C} {ty : Nat → FieldType} (hc : jcOk ci r ty) (hk : k < r.2.2) (hlink : Cond.fieldLink own idx r.1 (r.2.1 k).2.1 (r.2.1 k).2.2.1 ∈ jg) : jSnd sz0 l own nm dep (.getfield idx) 3 (jget ci k) := by
  intro p e R s m args below meth c H locs cells slots Q cc nL pc ls ret st M sz kc ks K X hC hd hls hH h kK kX
  obtain ⟨hx, hb, hml, hown, hts, hlocks, hI, hsz0, hnt, hnm, hRf, hRl, hret⟩ := hC
  obtain ⟨hr, hin, hty, hnmd, hdecl⟩ := hc
  unfold jget at h
  split at h
  · rename_i a rr
    obtain ⟨fs, v, h1, h2, h⟩ := h
    obtain ⟨cC, iS, g1, g2, g3⟩ := jG1 (hH.1 _ _ h1) hr
    exact va_get (D := (fun _ => cC, fun _ => iS)) (cl := [r]) (tys := []) (ws := [(a, .inr (0, fs.map jv))]) (ci := 0) (v := jv v) (C := r.1) (T := r.2.1) (N := r.2.2) hx hb hts hin hown (jK1 g1) (jP1 g2) 0 rfl rfl k hk (hts _ hlink) (fun x h9 => by rw [hdecl k hk] at h9; exact h9) (by rw [List.getElem?_map, h2]; rfl) hd (kK _ _ _ _ _ _ _ _ _ h hH)
  · exact h.elim
theorem jgetN_snd {ci k idx : Nat} {r : vw_C} {ty : Nat → FieldType} {host : String} (hc : jcOk ci r ty) (hk : k < r.2.2) (hlink : Cond.fieldLinkNest own idx r.1 (r.2.1 k).2.1 (r.2.1 k).2.2.1 host ∈ lw_tbl) : jSnd sz0 l own nm dep (.getfield idx) 3 (jget ci k) := by
  intro p e R s m args below meth c H locs cells slots Q cc nL pc ls ret st M sz kc ks K X hC hd hls hH h kK kX
  obtain ⟨hx, hb, hml, hown, hts, hlocks, hI, hsz0, hnt, hnm, hRf, hRl, hret⟩ := hC
  obtain ⟨hr, hin, hty, hnmd, hdecl⟩ := hc
  unfold jget at h
  split at h
  · rename_i a rr
    obtain ⟨fs, v, h1, h2, h⟩ := h
    obtain ⟨cC, iS, g1, g2, g3⟩ := jG1 (hH.1 _ _ h1) hr
    exact va_getN (D := (fun _ => cC, fun _ => iS)) (cl := [r]) (tys := []) (ws := [(a, .inr (0, fs.map jv))]) (ci := 0) (v := jv v) (C := r.1) (T := r.2.1) (N := r.2.2) hx hb hts hin hown (jK1 g1) (jP1 g2) 0 rfl rfl k hk (va_Nw.use rfl (hI.1 _ hlink rfl)) (fun x h9 => by rw [hdecl k hk] at h9; exact h9) (by rw [List.getElem?_map, h2]; rfl) hd (kK _ _ _ _ _ _ _ _ _ h hH)
  · exact h.elim
theorem jap {s : State} {args : Array Value} {r : vw_C} {ci : Nat} {ty : Nat → FieldType} (hts : ∀ w ∈ jg, w.before args s = true) (hc : jcOk ci r ty) {cC : ClassId} {iS : Nat → Nat} (hK : u_Kn s r.1 r.2.1 r.2.2 cC iS) : ∀ x y, x < r.2.2 → y < r.2.2 → x ≠ y → iS x ≠ iS y := by
  obtain ⟨hr, hin, hty, hnmd, hdecl⟩ := hc
  exact va_apart (own := "") (D := (fun _ => cC, fun _ => iS)) (cl := [r]) (tys := []) (ci := 0) (C := r.1) (T := r.2.1) (N := r.2.2) hts hin ty hty hnmd (jK1 hK) rfl
theorem jH.put {s : State} {R : Room} {H H1 : Heap} {locs : List Loc} {cells slots : Nat} {M : jM} {sz kc ks a i : Nat} {e : jE} (hH : jH sz0 s R H locs cells slots M sz kc ks) (ha : sz0 ≤ a) (e1 : jat s a e H1) (e2 : H1.size = H.size) (e3 : ∀ q : Nat, q ≠ a → H1[q]? = H[q]?) : jH sz0 s R H1 (locs ++ [⟨a, i⟩]) cells slots (jup M a e) sz kc ks :=
  ⟨hH.1.put e1 e3, e2.trans hH.2.1, hH.2.2.1.put e2 e3 ha, hH.2.2.2⟩
theorem jH.push {s : State} {R : Room} {H H1 : Heap} {locs : List Loc} {cells slots : Nat} {M : jM} {sz kc ks n : Nat} {e : jE} (hH : jH sz0 s R H locs cells slots M sz kc ks) (hk : 1 ≤ kc) (hn : n ≤ ks) (e1 : jat s H.size e H1) (e2 : H1.size = H.size + 1) (e3 : ∀ q : Nat, q < H.size → H1[q]? = H[q]?) : jH sz0 s R H1 locs (cells + 1) (slots + n) (jup M sz e) (sz + 1) (kc - 1) (ks - n) := by
  obtain ⟨h1, h2, h3, h4, h5⟩ := hH
  refine ⟨?_, by omega, ⟨by have := h3.1; omega, fun q g1 g2 => ?_, h3.2.2⟩, by omega, by omega⟩
  · rw [← h2]
    exact h1.push e1 e3
  · rw [e3 q (Nat.lt_of_lt_of_le g1 h3.1)]
    exact h3.2.1 q g1 g2
theorem jobj_set {r : vw_C} {s : State} {args : Array Value} {ci k a : Nat} {ty : Nat → FieldType} (hts : ∀ w ∈ jg, w.before args s = true) (hc : jcOk ci r ty) {cC : ClassId} {iS : Nat → Nat} (hK : u_Kn s r.1 r.2.1 r.2.2 cC iS) (hk : k < r.2.2) {fs : List jV} {v : jV} {cell : Cell} {H1 : Heap} (hl : fs.length = r.2.2) (e1 : H1[a]? = some (cell.setSlot (iS k) (jv v))) (q2 : cell.cls = cC) (q3 : cell.vm = .none) (q4 : ∀ j, j < r.2.2 → cell.slots[iS j]? = some (vp_V (fs.map jv) j)) : jat s a (.inl (ci, fs.set k v)) H1 := by
  refine ⟨r, cC, iS, hc.1, hK, ?_, by rw [List.length_set]; exact hl⟩
  rw [List.map_set]
  exact t_OB.to (V := updV (vp_V (fs.map jv)) k (jv v)) ⟨_, e1, q2, q3, t_set q4 (jap hts hc hK) hk (jv v)⟩ (fun j _ => vp_updV_set (by rw [List.length_map]; omega) (jv v) j)
theorem jputf_snd {ci k idx : Nat} {r : vw_C} {ty : Nat → FieldType} (hc : jcOk ci r ty) (hk : k < r.2.2) (hlink : Cond.fieldLink own idx r.1 (r.2.1 k).2.1 (r.2.1 k).2.2.1 ∈ jg) (hfin : (r.2.1 k).2.2.2 = false) : jSnd sz0 l own nm dep (.putfield idx) 3 (jputf sz0 ci k (ty k)) := by
  intro p e R s m args below meth c H locs cells slots Q cc nL pc ls ret st M sz kc ks K X hC hd hls hH h kK kX
  obtain ⟨hx, hb, hml, hown, hts, hlocks, hI, hsz0, hnt, hnm, hRf, hRl, hret⟩ := hC
  have hc0 := hc
  obtain ⟨hr, hin, hty, hnmd, hdecl⟩ := hc
  unfold jputf at h
  split at h
  · rename_i v a rr
    split at h
    · rename_i hfit
      obtain ⟨ha, fs, h1, h⟩ := h
      obtain ⟨cC, iS, g1, ⟨cell, q1, q2, q3, q4⟩, g3⟩ := jG1 (hH.1 _ _ h1) hr
      obtain ⟨hS, hfc, kC, hkC, hkind⟩ := id g1
      obtain ⟨cf, kf, fi, f, hi, hsl⟩ := hS k hk
      have hlay := hts _ (hin _ (u_in_lay hk))
      unfold u_lay at hlay
      rw [if_neg (by rw [hfin]; decide)] at hlay
      have hst := (u_facts hfc hkC (u_lays hts hin hk) hi).1
      have h6 := u_store hfc hkC hkind hlay hi (hty k hk) (jfit_ok hfit).1 (jfit_ok hfit).2
      refine W.putK (v := jv v) (f := f) hx hb ⟨hown, hts _ hlink, ⟨_, _, _, by rw [hdecl k hk] at hi; exact hi⟩, hst⟩ (by rw [q2]; exact h6) q1 q3 (by rw [hsl]; exact k2_hasslot (q4 k hk)) rfl rfl hd fun H' e1 e2 e3 => ?_
      rw [hsl] at e1 ⊢
      exact kK _ _ _ _ _ _ _ _ _ (h _ rfl) (hH.put ha (jobj_set hts hc0 g1 hk g3 e1 q2 q3 q4) e2 e3)
    · exact h.elim
  · exact h.elim
theorem jputF_snd {ci k idx : Nat} {r : vw_C} {ty : Nat → FieldType} (hc : jcOk ci r ty) (hk : k < r.2.2) (hlink : Cond.fieldLink own idx r.1 (r.2.1 k).2.1 (r.2.1 k).2.2.1 ∈ jg) (hfin : (r.2.1 k).2.2.2 = true) (hown2 : r.1 = own) : jSnd sz0 l own "<init>" dep (.putfield idx) 3 (jputf sz0 ci k (ty k)) := by
  intro p e R s m args below meth c H locs cells slots Q cc nL pc ls ret st M sz kc ks K X hC hd hls hH h kK kX
  obtain ⟨hx, hb, hml, hown, hts, hlocks, hI, hsz0, hnt, hnm, hRf, hRl, hret⟩ := hC
  have hc0 := hc
  obtain ⟨hr, hin, hty, hnmd, hdecl⟩ := hc
  unfold jputf at h
  split at h
  · rename_i v a rr
    split at h
    · rename_i hfit
      obtain ⟨ha, fs, h1, h⟩ := h
      obtain ⟨cC, iS, g1, ⟨cell, q1, q2, q3, q4⟩, g3⟩ := jG1 (hH.1 _ _ h1) hr
      obtain ⟨hS, hfc, kC, hkC, hkind⟩ := id g1
      obtain ⟨cf, kf, fi, f, hi, hsl⟩ := hS k hk
      have hlay := hts _ (hin _ (u_in_lay hk))
      unfold u_lay at hlay
      rw [if_pos hfin] at hlay
      have hst := (u_facts hfc hkC (u_lays hts hin hk) hi).1
      have hcf : m.cls = cf := by
        obtain ⟨_, _, c', _, _, _, -, -, hf', -, -, -, hown3, -⟩ := Cond.laysFinal_spec hlay
        have e1 : c' = cf := by have := hi.symm.trans hf'; simp at this; exact this.1.symm
        rw [hdecl k hk, hown2] at hown3
        rw [← e1]; exact Option.some.inj (hown.symm.trans hown3)
      have h6 := u_fits hfc hkC hkind (Or.inr hlay) hi (hty k hk) (jfit_ok hfit).1 (jfit_ok hfit).2
      refine W.putFinK (v := jv v) (f := f) hx hb hown (hts _ hlink) (by rw [hdecl k hk] at hi; exact hi) hst hcf hnm (by rw [q2]; exact h6) q1 q3 (by rw [hsl]; exact k2_hasslot (q4 k hk)) rfl rfl hd fun H' e1 e2 e3 => ?_
      rw [hsl] at e1 ⊢
      exact kK _ _ _ _ _ _ _ _ _ (h _ rfl) (hH.put ha (jobj_set hts hc0 g1 hk g3 e1 q2 q3 q4) e2 e3)
    · exact h.elim
  · exact h.elim
theorem jnew_snd {ci idx N : Nat} {r : vw_C} {ty : Nat → FieldType} {fs : List jV} (hc : jcOk ci r ty) (hN : r.2.2 = N) (hfs : fs.length = N ∧ ∀ j, j < N → defaultValue (ty j) = vp_V (fs.map jv) j) (hlink : Cond.classLink own idx r.1 ∈ jg) (hins : Cond.instantiable r.1 N ∈ jg) (hini : Cond.initialized r.1 ∈ jg) : jSnd sz0 l own nm dep (.new idx) 3 (jnew ci N fs) := by
  intro p e R s m args below meth c H locs cells slots Q cc nL pc ls ret st M sz kc ks K X hC hd hls hH h kK kX
  obtain ⟨hx, hb, hml, hown, hts, hlocks, hI, hsz0, hnt, hnm, hRf, hRl, hret⟩ := hC
  obtain ⟨hr, hin, hty, hnmd, hdecl⟩ := hc
  subst hN
  obtain ⟨h1, h2, h3⟩ := h
  obtain ⟨cC, iS, hK⟩ := u_known hts hin (hts _ hins)
  have h4 := hH.2.2.2.1
  have h5 := hH.2.2.2.2
  refine W.newcK hx hb hown (hts _ hlink) (hts _ hins) (hts _ hini) rfl hd (by omega) (by omega) hK.2.1 rfl fun H1 kC hkC e1 z1 o1 => ?_
  have h9 := kK _ _ _ _ _ _ _ _ _ (h3 _ (by rw [← hH.2.1]; exact hH.1.fresh) rfl) (hH.push (H1 := H1) (n := r.2.2) (e := .inl (ci, fs)) h1 h2 ⟨r, cC, iS, hr, hK, (u_born ty hts hin hK hkC e1 hty).to hfs.2, hfs.1⟩ z1 o1)
  rw [← hH.2.1] at h9
  exact h9
theorem jputN_snd {ci k idx : Nat} {r : vw_C} {ty : Nat → FieldType} {host : String} (hc : jcOk ci r ty) (hk : k < r.2.2) (hlink : Cond.fieldLinkNest own idx r.1 (r.2.1 k).2.1 (r.2.1 k).2.2.1 host ∈ lw_tbl) (hfin : (r.2.1 k).2.2.2 = false) : jSnd sz0 l own nm dep (.putfield idx) 3 (jputf sz0 ci k (ty k)) := by
  intro p e R s m args below meth c H locs cells slots Q cc nL pc ls ret st M sz kc ks K X hC hd hls hH h kK kX
  obtain ⟨hx, hb, hml, hown, hts, hlocks, hI, hsz0, hnt, hnm, hRf, hRl, hret⟩ := hC
  have hc0 := hc
  obtain ⟨hr, hin, hty, hnmd, hdecl⟩ := hc
  unfold jputf at h
  split at h
  · rename_i v a rr
    split at h
    · rename_i hfit
      obtain ⟨ha, fs, h1, h⟩ := h
      obtain ⟨cC, iS, g1, ⟨cell, q1, q2, q3, q4⟩, g3⟩ := jG1 (hH.1 _ _ h1) hr
      obtain ⟨hS, hfc, kC, hkC, hkind⟩ := id g1
      obtain ⟨cf, kf, fi, f, hi, hsl⟩ := hS k hk
      have hlay := hts _ (hin _ (u_in_lay hk))
      unfold u_lay at hlay
      rw [if_neg (by rw [hfin]; decide)] at hlay
      have hst := (u_facts hfc hkC (u_lays hts hin hk) hi).1
      have h6 := u_store hfc hkC hkind hlay hi (hty k hk) (jfit_ok hfit).1 (jfit_ok hfit).2
      refine va_WputK (v := jv v) (f := f) hx hb hown (va_Nw.use rfl (hI.1 _ hlink rfl)) (by rw [hdecl k hk] at hi; exact hi) hst (by rw [q2]; exact h6) q1 q3 (by rw [hsl]; exact k2_hasslot (q4 k hk)) rfl rfl hd fun H' e1 e2 e3 => ?_
      rw [hsl] at e1 ⊢
      exact kK _ _ _ _ _ _ _ _ _ (h _ rfl) (hH.put ha (jobj_set hts hc0 g1 hk g3 e1 q2 q3 q4) e2 e3)
    · exact h.elim
  · exact h.elim
theorem jrep {n j : Nat} : (List.replicate n (0 : Int)).getD j 0 = 0 := by
  rw [List.getD_eq_getElem?_getD, List.getElem?_replicate]
  split <;> rfl
theorem jrepq {n j : Nat} : (List.replicate n (none : Option Nat)).getD j none = none := by
  rw [List.getD_eq_getElem?_getD, List.getElem?_replicate]
  split <;> rfl
theorem jnewa_snd {at_ : ArrayType} {ty : FieldType} (hat : newarray.typeOf at_ = ty) (hsel : ty = .int ∨ ty = .char) (hw : Cond.arrayClass ty ∈ jg) : jSnd sz0 l own nm dep (.newarray at_) 2 (jnewa ty) := by
  intro p e R s m args below meth c H locs cells slots Q cc nL pc ls ret st M sz kc ks K X hC hd hls hH h kK kX
  obtain ⟨hx, hb, hml, hown, hts, hlocks, hI, hsz0, hnt, hnm, hRf, hRl, hret⟩ := hC
  subst hat
  unfold jnewa at h
  split at h
  · rename_i n rr
    obtain ⟨h1, h2, h3, h4, h⟩ := h
    have hjn : jr n := ⟨by omega, by omega⟩
    have h5 := hH.2.2.2.1
    have h6 := hH.2.2.2.2
    have hdef : defaultValue (newarray.typeOf at_) = .int 0 := by rcases hsel with e | e <;> rw [e] <;> rfl
    have hcb : componentBytes (newarray.typeOf at_) ≤ 4 := by rcases hsel with e | e <;> rw [e] <;> decide
    refine W.newaK (N := n.toNat) (h := H.size) hx hb (hts _ hw) rfl hd rfl (iI_neg_not hjn h1) (iI_clamp hjn h1) (Nat.le_trans (Nat.mul_le_mul_left _ hcb) (by omega)) (by omega) (by omega) rfl fun H1 cA e1 z1 o1 hAr => ?_
    have h9 := kK _ _ _ _ _ _ _ _ _ (h _ (by rw [← hH.2.1]; exact hH.1.fresh) rfl) (hH.push (H1 := H1) (n := n.toNat) (e := .inr (.inl (newarray.typeOf at_, List.replicate n.toNat 0))) h3 h4 ⟨Or.inl ⟨cA, ?_, hAr⟩, fun x hx9 => ?_⟩ z1 o1)
    · rw [← hH.2.1] at h9
      exact h9
    · rw [e1, hdef, vp_cell_i]
      simp only [List.length_replicate, jrep]
      rfl
    · rw [(List.mem_replicate.mp hx9).2]
      exact jr0
  · exact h.elim
theorem jupd {xs : List Int} {k : Nat} {v : Int} (hk : k < xs.length) : updV (fun j => Value.int (iI (xs.getD j 0))) k (.int (iI v)) = fun j => Value.int (iI ((xs.set k v).getD j 0)) := by
  funext j
  by_cases hj : j = k
  · subst hj
    simp [updV, List.getD_eq_getElem?_getD, hk]
  · simp [updV, hj, List.getD_eq_getElem?_getD, List.getElem?_set_ne (Ne.symm hj)]
theorem jiast_snd : jSnd sz0 l own nm dep .iastore 1 (jiast sz0) := by
  intro p e R s m args below meth c H locs cells slots Q cc nL pc ls ret st M sz kc ks K X hC hd hls hH h kK kX
  obtain ⟨hx, hb, hml, hown, hts, hlocks, hI, hsz0, hnt, hnm, hRf, hRl, hret⟩ := hC
  unfold jiast at h
  split at h
  · rename_i v j a rr
    obtain ⟨xs, h1, ha, ⟨g1, g2, g3⟩, hv, h⟩ := h
    have hjj : jr j := ⟨by omega, by omega⟩
    have hlt : j.toNat < xs.length := by omega
    obtain ⟨h2, hjr⟩ := hH.1 _ _ h1
    rcases h2 with ⟨cA, h2, h3⟩ | ⟨h0, -⟩
    · refine W.iast (x := iI v) (j := iI j) hx hb h2 (h3 xs.length (fun j => .int (iI (xs.getD j 0)))) (fun q => by cases q) ?_ rfl rfl hd fun H1 e z oq => ?_
      · rw [vp_cell_i, arrV_size, iI_clamp hjj g1]
        intro q
        rcases q with q | q
        · exact iI_neg_not hjj g1 q
        · exact absurd hlt (Nat.not_lt.mpr q)
      · refine kK _ _ _ _ _ _ _ _ _ (h _ rfl) (hH.put ha ⟨Or.inl ⟨cA, ?_, h3⟩, fun x hx9 => ?_⟩ z oq)
        · rw [e, vp_cell_i, vp_cell_i, arrV_store, iI_clamp hjj g1, jupd hlt]
          simp
        · rcases List.mem_or_eq_of_mem_set hx9 with g | g
          · exact hjr x g
          · rw [g]; exact hv
    · dsimp only at h0
      rw [h0] at hlt
      exact absurd hlt (Nat.not_lt_zero _)
  · exact h.elim
theorem jcast_snd : jSnd sz0 l own nm dep .castore 1 (jcast sz0) := by
  intro p e R s m args below meth c H locs cells slots Q cc nL pc ls ret st M sz kc ks K X hC hd hls hH h kK kX
  obtain ⟨hx, hb, hml, hown, hts, hlocks, hI, hsz0, hnt, hnm, hRf, hRl, hret⟩ := hC
  unfold jcast at h
  split at h
  · rename_i v j a rr
    obtain ⟨xs, h1, ha, ⟨g1, g2, g3⟩, hv, h⟩ := h
    have hjj : jr j := ⟨by omega, by omega⟩
    have hlt : j.toNat < xs.length := by omega
    obtain ⟨n, rfl⟩ := Int.eq_ofNat_of_zero_le hv.1
    obtain ⟨h2, hjr⟩ := hH.1 _ _ h1
    rcases h2 with ⟨cA, h2, h3⟩ | ⟨h0, -⟩
    · have hn9 := (pk_charN (q := n) (by omega)).1
      refine W.cast (x := iI (n : Int)) (j := iI j) hx hb h2 (h3 xs.length (fun j => .int (iI (xs.getD j 0)))) (fun q => by cases q) ?_ rfl rfl hd fun H1 e z oq => ?_
      · rw [vp_cell_i, arrV_size, iI_clamp hjj g1]
        intro q
        rcases q with q | q
        · exact iI_neg_not hjj g1 q
        · exact absurd hlt (Nat.not_lt.mpr q)
      · refine kK _ _ _ _ _ _ _ _ _ (h _ rfl) (hH.put ha ⟨Or.inl ⟨cA, ?_, h3⟩, fun x hx9 => ?_⟩ z oq)
        · rw [e, vp_cell_i, vp_cell_i, iI_nat, hn9, ← iI_nat, arrV_store, iI_clamp hjj g1, jupd hlt]
          simp
        · rcases List.mem_or_eq_of_mem_set hx9 with g | g
          · exact hjr x g
          · rw [g]; exact ⟨by omega, by omega⟩
    · dsimp only at h0
      rw [h0] at hlt
      exact absurd hlt (Nat.not_lt_zero _)
  · exact h.elim
theorem jldc2_snd {v : Int} {idx : Nat} (hw : Cond.constantLong own idx (Int64.ofInt v) ∈ jg) : jSnd sz0 l own nm dep (.ldc2_w idx) 3 (jldc2 v) := by
  intro p e R s m args below meth c H locs cells slots Q cc nL pc ls ret st M sz kc ks K X hC hd hls hH h kK kX
  obtain ⟨hx, hb, hml, hown, hts, hlocks, hI, hsz0, hnt, hnm, hRf, hRl, hret⟩ := hC
  exact lv_ldc2 hx hb hown (hts _ hw) hd (kK _ _ _ _ _ _ _ _ _ h hH)
end J8
end
section
/-! Calls. -/
def jpop : Nat → List jV → List jV → Option (List jV × List jV)
  | 0, st, acc => some (acc, st)
  | n + 1, v :: st, acc => jpop n st (v :: acc)
  | _ + 1, [], _ => none
theorem jpop_spec : ∀ {n : Nat} {st acc av rest : List jV}, jpop n st acc = some (av, rest) → ∃ xs : List jV, xs.length = n ∧ st = xs ++ rest ∧ av = xs.reverse ++ acc
  | 0, st, acc, av, rest, h => by
    simp only [jpop, Option.some.injEq, Prod.mk.injEq] at h
    exact ⟨[], rfl, by rw [h.2]; rfl, by rw [← h.1]; rfl⟩
  | n + 1, [], acc, av, rest, h => by simp [jpop] at h
  | n + 1, v :: st, acc, av, rest, h => by
    simp only [jpop] at h
    obtain ⟨xs, h1, h2, h3⟩ := jpop_spec h
    exact ⟨v :: xs, by simp [h1], by simp [h2], by simp [h3]⟩
def jcat2 : List jV → Nat
  | [] => 0
  | v :: r => match jct2 v with
    | true => 2 + jcat2 r
    | false => 1 + jcat2 r
theorem jcat2_sum : ∀ (st : List jV), ((st.map jv).map fun v => v.category).sum = jcat2 st
  | [] => rfl
  | v :: r => by
    have h := jcat2_sum r
    rcases v with z | z | _ | a <;> simp only [List.map_cons, List.sum_cons, h] <;> rfl
/-- a call: n arguments (the receiver among them), at most mc cells of ms slots -/
def jcall (n mc ms : Nat) (S : jS) : jTr := fun st M sz kc ks K X => match jpop n st [] with
  | none => False
  | some (av, rest) => match Nat.ble (jcat2 rest) 8 with
    | false => False
    | true => mc ≤ kc ∧ ms ≤ ks ∧ S av M sz (fun v M' sz' => K (v.toList ++ rest) M' sz' (kc - mc) (ks - ms)) (fun E M' sz' => X E M' sz' (kc - mc) (ks - ms))
def jcalv (n mc ms ci : Nat) (S : jS) : jTr := fun st M sz kc ks K X => match jpop n st [] with
  | some (.inr (.inr (some a)) :: av, rest) => match Nat.ble (jcat2 rest) 8 with
    | false => False
    | true => (∃ fs : List jV, M a = some (.inl (ci, fs))) ∧ mc ≤ kc ∧ ms ≤ ks ∧ S (vR a :: av) M sz (fun v M' sz' => K (v.toList ++ rest) M' sz' (kc - mc) (ks - ms)) (fun E M' sz' => X E M' sz' (kc - mc) (ks - ms))
  | _ => False
/-- a method that the tables have -/
def jYok (y : MethodName) (cc : ByteArray) (maxL : Nat) (ret : Option FieldType) (n : Nat) : Prop :=
  Cond.code y cc maxL ret ∈ jg ∧ Cond.initialized y.cls ∈ jg ∧ (y.cls ≠ "java/lang/invoke/MethodHandle" ∧ y.cls ≠ "java/lang/invoke/VarHandle" ∧ (parseMethodDescriptor y.desc).map (fun d => d.parameters.length) = some n) ∧ maxL ≤ 20
section J9
variable {p : Program} {l : Launch} {e : Env} {R : Room} {s : State} {m : MethodId} {args : Array Value} {below : List Frame} {meth : Method} {c : Code} {H : Heap} {locs : List Loc} {cells slots : Nat} {Q : State → Prop}
variable {sz0 : Nat} {own nm : String} {dep : Nat}
theorem jrun {pc : Nat} {ls : Array Slot} {st0 rest : List Value} {mc ms : Nat} {P : Option jV → jM → Nat → Prop} {X : Nat → jM → Nat → Prop} {a : Array Value} {M : jM} {sz kc ks : Nat} (hr : vx_Run p l e R s m args below meth c H locs cells slots mc ms (F0 m pc ls st0) rest (jQc sz0 P a) (jXC sz0 X) (jA sz0)) (hH : jH sz0 s R H locs cells slots M sz kc ks) (hmc : mc ≤ kc) (hms : ms ≤ ks)
    (kk : ∀ (v : Option jV) (M' : jM) (H' : Heap) (locs' : List Loc), P v M' H'.size → jH sz0 s R H' locs' (cells + mc) (slots + ms) M' H'.size (kc - mc) (ks - ms) → W p l e R s m args below meth c H' locs' (cells + mc) (slots + ms) Q (F0 m (pc + 3) ls ((v.map jv).toList ++ rest)))
    (kx : ∀ (E : Nat) (M' : jM) (H' : Heap) (locs' : List Loc) (ce : Cell) (q : Nat), X E M' H'.size → jH sz0 s R H' locs' (cells + mc) (slots + ms) M' H'.size (kc - mc) (ks - ms) → H'[q]? = some ce → ce.vm = .none → s.vm.findClass (jEx E) = some ce.cls → vx_W p l e R s m args below meth c H' locs' (cells + mc) (slots + ms) Q (F0 m pc ls rest) q) :
    W p l e R s m args below meth c H locs cells slots Q (F0 m pc ls st0) := by
  intro T hT X9
  obtain ⟨h1, h2, h3, h4, h5⟩ := hH
  rcases hr T hT X9 with ⟨v, st₀, t, T', L, h0, X', hL, e1, e2, ⟨v', M', hv, hp, hb, hF⟩, st⟩ | ⟨q, st₀, t, T', L, E, ce, h0, X', hL, e1, e2, ⟨k, M', hE, hp, hb, hF⟩, hce, hcv, hcl, st⟩
  · cases hv
    obtain ⟨k1, k2, k3⟩ := vx_keep h0 e1 h3 (fun q _ h => h) (fun q h => h) hL hF
    have hm : t.vm.Alike s.vm := by rw [← e2]; exact X'.warmed.alike.symm
    have hJ : jH sz0 s R T'.heap (locs ++ L) (cells + mc) (slots + ms) M' T'.heap.size (kc - mc) (ks - ms) := ⟨by rw [e1]; exact hb.moved hm, rfl, k3, by omega, by omega⟩
    obtain ⟨t2, a1, b1⟩ := kk v' M' T'.heap (locs ++ L) (by rw [e1]; exact hp) hJ T' rfl X'
    exact ⟨t2, st t2 a1, b1⟩
  · obtain ⟨k1, k2, k3⟩ := vx_keep h0 e1 h3 (fun q _ h => h) (fun q h => h) hL hF
    have hm : t.vm.Alike s.vm := by rw [← e2]; exact X'.warmed.alike.symm
    have hJ : jH sz0 s R T'.heap (locs ++ L) (cells + mc) (slots + ms) M' T'.heap.size (kc - mc) (ks - ms) := ⟨by rw [e1]; exact hb.moved hm, rfl, k3, by omega, by omega⟩
    subst hE
    obtain ⟨t2, a1, b1⟩ := kx k M' T'.heap (locs ++ L) ce q (by rw [e1]; exact hp) hJ (by rw [e1]; exact hce) hcv hcl T' rfl X'
    exact ⟨t2, st.trans a1, b1⟩
theorem jpre {nL : Nat} {cc : ByteArray} {ret : Option FieldType} {av : List jV} {M : jM} {sz kc ks : Nat} (hC : jCx sz0 own nm dep p l R s m args meth c cc nL ret) (hH : jH sz0 s R H locs cells slots M sz kc ks) : PreS s H (jPc sz0 av M sz) (av.map jv) := by
  obtain ⟨hx, hb, hml, hown, hts, hlocks, hI, hsz0, hnt, hnm, hRf, hRl, hret⟩ := hC
  obtain ⟨h1, h2, h3, h4, h5⟩ := hH
  refine ⟨jPc.blind, fun U hU hW => ⟨rfl, by rw [hU]; exact h1.moved hW.alike, by rw [hU]; exact h2, by have := h3.1; omega, ?_⟩⟩
  exact hI.kept hW (fun a ha hn => by rw [hU]; exact h3.2.1 a ha hn)
theorem jcb {y : MethodName} {cc9 : ByteArray} {maxL dc mc ms n idx : Nat} {ret ret9 : Option FieldType} {nL : Nat} {cc : ByteArray} (hC : jCx sz0 own nm dep p l R s m args meth c cc nL ret) (hY : jYok y cc9 maxL ret9 n) (hdep : dc + 1 ≤ dep) (hl : Cond.methodLink own idx y ∈ jg) : CallB R s args own idx y cc9 maxL ret9 (Cond.code y cc9 maxL ret9 :: jg) (jRm dc mc ms) mc ms n := by
  obtain ⟨hx, hb, hml, hown, hts, hlocks, hI, hsz0, hnt, hnm, hRf, hRl, hret⟩ := hC
  obtain ⟨h1, h2, h3, h4⟩ := hY
  exact callB_of n hts (jg_good h1) rfl rfl rfl (hts _ h2) (hts _ hl) h3 ⟨by show dc + 1 ≤ R.frames; omega, by show 8 + (maxL + 11) + 39 * dc ≤ R.locals; omega⟩
theorem jcall_snd {y : MethodName} {cc9 : ByteArray} {maxL dc mc ms n idx : Nat} {ret9 : Option FieldType} {S : jS} (hM : jCon sz0 l y cc9 maxL ret9 dc mc ms S) (hY : jYok y cc9 maxL ret9 n) (hst : Cond.static y ∈ jg) (hdep : dc + 1 ≤ dep) (hl : Cond.methodLink own idx y ∈ jg) : jSnd sz0 l own nm dep (.invokestatic idx) 3 (jcall n mc ms S) := by
  intro p e R s m args below meth c H locs cells slots Q cc nL pc ls ret st M sz kc ks K X hC hd hls hH h kK kX
  have hC0 := hC
  obtain ⟨hx, hb, hml, hown, hts, hlocks, hI, hsz0, hnt, hnm, hRf, hRl, hret⟩ := hC
  unfold jcall at h
  split at h
  · exact h.elim
  · rename_i av rest hpop
    split at h
    · exact h.elim
    · rename_i hble
      obtain ⟨h1, h2, h⟩ := h
      obtain ⟨xs, e1, e2, e3⟩ := jpop_spec hpop
      rw [List.append_nil] at e3
      have h4 := hH.2.2.2.1
      have h5 := hH.2.2.2.2
      refine jrun (rest := rest.map jv) (vx_runS (As := av.map jv) ⟨hx, hb, hml, hown, hts⟩ (hM av M sz _ _ h) ⟨jcb hC0 hY hdep hl, hts _ hst⟩ (jpre hC0 hH) rfl (by rw [List.length_map, e3, List.length_reverse]; exact e1) hls ?_ (lv_room (by rw [jcat2_sum]; exact Nat.le_of_ble_eq_true hble)) hd ⟨by omega, by omega⟩) hH h1 h2 (fun v M' H' locs' hp hJ => ?_) (fun E M' H' locs' ce q hp hJ hce hcv hcl => ?_)
      · show st.map jv = (av.map jv).reverse ++ rest.map jv
        rw [e2, e3, List.map_append, List.map_reverse, List.reverse_reverse]
      · have h9 := kK _ _ _ _ _ _ _ _ _ hp hJ
        rw [List.map_append] at h9
        cases v <;> exact h9
      · exact kX _ _ _ _ _ _ _ _ _ _ _ _ hp hJ hce hcv hcl
theorem jrecv {ci a : Nat} {r : vw_C} {fs : List jV} {M : jM} {sz kc ks : Nat} (hH : jH sz0 s R H locs cells slots M sz kc ks) (hr : jcl[ci]? = some r) (h1 : M a = some (.inl (ci, fs))) : ∃ cellB : Cell, H[a]? = some cellB ∧ cellB.vm.isStatics = false ∧ s.vm.findClass r.1 = some cellB.cls := by
  obtain ⟨cC, iS, g1, ⟨cell, q1, q2, q3, q4⟩, g3⟩ := jG1 (hH.1 _ _ h1) hr
  exact ⟨cell, q1, by rw [q3]; rfl, by rw [q2]; exact g1.2.1⟩
theorem jcalv_snd {y : MethodName} {cc9 : ByteArray} {maxL dc mc ms n idx ci : Nat} {ret9 : Option FieldType} {S : jS} {r : vw_C} (hM : jCon sz0 l y cc9 maxL ret9 dc mc ms S) (hY : jYok y cc9 maxL ret9 n) (hr : jcl[ci]? = some r) (hry : r.1 = y.cls) (hin : Cond.instanceMethod y ∈ jg) (hse : Cond.selects y.cls y y ∈ jg) (hdep : dc + 1 ≤ dep) (hl : Cond.methodLink own idx y ∈ jg) : jSnd sz0 l own nm dep (.invokevirtual idx) 3 (jcalv (n + 1) mc ms ci S) := by
  intro p e R s m args below meth c H locs cells slots Q cc nL pc ls ret st M sz kc ks K X hC hd hls hH h kK kX
  have hC0 := hC
  obtain ⟨hx, hb, hml, hown, hts, hlocks, hI, hsz0, hnt, hnm, hRf, hRl, hret⟩ := hC
  unfold jcalv at h
  split at h
  · rename_i a av rest hpop
    split at h
    · exact h.elim
    · rename_i hble
      obtain ⟨⟨fs, h0⟩, h1, h2, h⟩ := h
      obtain ⟨xs, e1, e2, e3⟩ := jpop_spec hpop
      rw [List.append_nil] at e3
      have h4 := hH.2.2.2.1
      have h5 := hH.2.2.2.2
      have e4 : av.length = n := by
        have := congrArg List.length e3
        rw [List.length_reverse, e1] at this
        simpa using this
      have hp9 := jpre (av := vR a :: av) hC0 hH
      refine jrun (rest := rest.map jv) (vx_runV (b := a) (As := av.map jv) ⟨hx, hb, hml, hown, hts⟩ (hM (vR a :: av) M sz _ _ h) ⟨jcb hC0 hY hdep hl, hts _ hin, hts _ hse⟩ ⟨hp9.1, by rw [← hry]; exact jrecv hH hr h0, hp9.2⟩ rfl (by rw [List.length_map]; exact e4) hls ?_ (lv_room (by rw [jcat2_sum]; exact Nat.le_of_ble_eq_true hble)) hd ⟨by omega, by omega⟩) hH h1 h2 (fun v M' H' locs' hp hJ => ?_) (fun E M' H' locs' ce q hp hJ hce hcv hcl => ?_)
      · show st.map jv = (av.map jv).reverse ++ .ref a :: rest.map jv
        have e5 : xs = (vR a :: av).reverse := by rw [e3, List.reverse_reverse]
        rw [e2, e5, List.map_append, List.map_reverse, List.map_cons, List.reverse_cons, List.append_assoc]
        rfl
      · have h9 := kK _ _ _ _ _ _ _ _ _ hp hJ
        rw [List.map_append] at h9
        cases v <;> exact h9
      · exact kX _ _ _ _ _ _ _ _ _ _ _ _ hp hJ hce hcv hcl
  · exact h.elim
theorem jcali_snd {y : MethodName} {cc9 : ByteArray} {maxL dc mc ms n idx ci : Nat} {S : jS} {r : vw_C} (hM : jCon sz0 l y cc9 maxL none dc mc ms S) (hY : jYok y cc9 maxL none n) (hr : jcl[ci]? = some r) (hy1 : y.name = "<init>") (hin : Cond.instanceMethod y ∈ jg) (hdep : dc + 1 ≤ dep) (hl : Cond.methodLink own idx y ∈ jg) : jSnd sz0 l own nm dep (.invokespecial idx) 3 (jcalv (n + 1) mc ms ci S) := by
  intro p e R s m args below meth c H locs cells slots Q cc nL pc ls ret st M sz kc ks K X hC hd hls hH h kK kX
  have hC0 := hC
  obtain ⟨hx, hb, hml, hown, hts, hlocks, hI, hsz0, hnt, hnm, hRf, hRl, hret⟩ := hC
  unfold jcalv at h
  split at h
  · rename_i a av rest hpop
    split at h
    · exact h.elim
    · rename_i hble
      obtain ⟨⟨fs, h0⟩, h1, h2, h⟩ := h
      obtain ⟨xs, e1, e2, e3⟩ := jpop_spec hpop
      rw [List.append_nil] at e3
      have h4 := hH.2.2.2.1
      have h5 := hH.2.2.2.2
      have e4 : av.length = n := by
        have := congrArg List.length e3
        rw [List.length_reverse, e1] at this
        simpa using this
      refine jrun (rest := rest.map jv) (vx_runI (b := a) (As := av.map jv) ⟨hx, hb, hml, hown, hts⟩ (hM (vR a :: av) M sz _ _ h) ⟨jcb hC0 hY hdep hl, hy1, hts _ hin⟩ (jpre (av := vR a :: av) hC0 hH) rfl (by rw [List.length_map]; exact e4) hls ?_ (lv_room (by rw [jcat2_sum]; exact Nat.le_of_ble_eq_true hble)) hd ⟨by omega, by omega⟩) hH h1 h2 (fun v M' H' locs' hp hJ => ?_) (fun E M' H' locs' ce q hp hJ hce hcv hcl => ?_)
      · show st.map jv = (av.map jv).reverse ++ .ref a :: rest.map jv
        have e5 : xs = (vR a :: av).reverse := by rw [e3, List.reverse_reverse]
        rw [e2, e5, List.map_append, List.map_reverse, List.map_cons, List.reverse_cons, List.append_assoc]
        rfl
      · have h9 := kK _ _ _ _ _ _ _ _ _ hp hJ
        rw [List.map_append] at h9
        cases v <;> exact h9
      · exact kX _ _ _ _ _ _ _ _ _ _ _ _ hp hJ hce hcv hcl
  · exact h.elim
theorem jcaliN_snd {y : MethodName} {cc9 : ByteArray} {maxL dc mc ms n idx ci : Nat} {S : jS} {r : vw_C} {host : String} (hM : jCon sz0 l y cc9 maxL none dc mc ms S) (hY : jYok y cc9 maxL none n) (hr : jcl[ci]? = some r) (hy1 : y.name = "<init>") (hin : Cond.instanceMethod y ∈ jg) (hdep : dc + 1 ≤ dep) (hl : Cond.methodLinkNest own idx y host ∈ lw_tbl) : jSnd sz0 l own nm dep (.invokespecial idx) 3 (jcalv (n + 1) mc ms ci S) := by
  intro p e R s m args below meth c H locs cells slots Q cc nL pc ls ret st M sz kc ks K X hC hd hls hH h kK kX
  have hC0 := hC
  obtain ⟨hx, hb, hml, hown, hts, hlocks, hI, hsz0, hnt, hnm, hRf, hRl, hret⟩ := hC
  unfold jcalv at h
  split at h
  · rename_i a av rest hpop
    split at h
    · exact h.elim
    · rename_i hble
      obtain ⟨⟨fs, h0⟩, h1, h2, h⟩ := h
      obtain ⟨xs, e1, e2, e3⟩ := jpop_spec hpop
      rw [List.append_nil] at e3
      have h4 := hH.2.2.2.1
      have h5 := hH.2.2.2.2
      have e4 : av.length = n := by
        have := congrArg List.length e3
        rw [List.length_reverse, e1] at this
        simpa using this
      refine jrun (rest := rest.map jv) (vx_runIN (b := a) (As := av.map jv) ⟨hx, hb, hml, hown, hts⟩ (hM (vR a :: av) M sz _ _ h) ⟨va_cnB n hts (jg_good hY.1) rfl rfl rfl (hI.1 _ hl rfl) (hts _ hY.2.1) hY.2.2.1 ⟨by show dc + 1 ≤ R.frames; omega, by show 8 + (maxL + 11) + 39 * dc ≤ R.locals; have := hY.2.2.2; omega⟩, hy1, hts _ hin⟩ (jpre (av := vR a :: av) hC0 hH) rfl (by rw [List.length_map]; exact e4) hls ?_ (lv_room (by rw [jcat2_sum]; exact Nat.le_of_ble_eq_true hble)) hd ⟨by omega, by omega⟩) hH h1 h2 (fun v M' H' locs' hp hJ => ?_) (fun E M' H' locs' ce q hp hJ hce hcv hcl => ?_)
      · show st.map jv = (av.map jv).reverse ++ .ref a :: rest.map jv
        have e5 : xs = (vR a :: av).reverse := by rw [e3, List.reverse_reverse]
        rw [e2, e5, List.map_append, List.map_reverse, List.map_cons, List.reverse_cons, List.append_assoc]
        rfl
      · have h9 := kK _ _ _ _ _ _ _ _ _ hp hJ
        rw [List.map_append] at h9
        cases v <;> exact h9
      · exact kX _ _ _ _ _ _ _ _ _ _ _ _ hp hJ hce hcv hcl
  · exact h.elim
end J9
end
section
/-! Object's constructor; throws; arraycopy. -/
def jobj : jTr := fun st M sz kc ks K _ => match st with
  | .inr (.inr (some _)) :: r => match Nat.ble (jcat2 r) 8 with
    | true => K r M sz kc ks
    | false => False
  | _ => False
def jthrow (E : Nat) : jTr := fun _ M sz kc ks _ X => 1 ≤ kc ∧ 6 ≤ ks ∧ ∀ sz' : Nat, sz ≤ sz' → X E M sz' (kc - 1) (ks - 6)
def jthrowS (E : Nat) : jTr := fun st M sz kc ks K X => match st with
  | [] => jthrow E [] M sz kc ks K X
  | _ => False
def jmemb (w : Cond) : Bool := lw_tbl.any (fun v => decide (v = w)) && (goodWord w || (jnk w && w.onTables))
theorem jmemb_ok {w : Cond} (h : jmemb w = true) : w ∈ jg ∨ (w ∈ lw_tbl ∧ jnk w = true ∧ w.onTables = true) := by
  unfold jmemb at h
  rw [Bool.and_eq_true, Bool.or_eq_true, Bool.and_eq_true] at h
  obtain ⟨h1, h2⟩ := h
  obtain ⟨v, hv, he⟩ := List.any_eq_true.mp h1
  have he := of_decide_eq_true he
  subst he
  rcases h2 with h2 | h2
  · exact Or.inl (jg_in hv h2)
  · exact Or.inr ⟨hv, h2.1, h2.2⟩
def jnames : List String := ["java/lang/RuntimeException", "java/lang/Exception"]
section J10
variable {l : Launch} {sz0 : Nat} {own nm : String} {dep : Nat}
theorem jobj_snd {idx : Nat} (h1 : Cond.methodLink own idx objectInit ∈ jg) (h2 : Cond.instanceMethod objectInit ∈ jg) (h3 : Cond.code objectInit ⟨#[0xb1]⟩ 1 none ∈ jg) (hdep : 1 ≤ dep) : jSnd sz0 l own nm dep (.invokespecial idx) 3 jobj := by
  intro p e R s m args below meth c H locs cells slots Q cc nL pc ls ret st M sz kc ks K X hC hd hls hH h kK kX
  obtain ⟨hx, hb, hml, hown, hts, hlocks, hI, hsz0, hnt, hnm, hRf, hRl, hret⟩ := hC
  unfold jobj at h
  split at h
  · rename_i a r
    split at h
    · rename_i hble
      refine W.objInit hx hb hown (hts _ h1) (hts _ h2) (hts _ h3) rfl (by rw [hml]; exact hls) rfl hd (by omega) ?_ (kK _ _ _ _ _ _ _ _ _ h hH)
      have h9 := Nat.le_of_ble_eq_true hble
      show 2 * 0 + ((r.map jv).map fun v => v.category).sum + 12 ≤ R.locals
      rw [jcat2_sum]
      omega
    · exact h.elim
  · exact h.elim
theorem jthrow_snp {cc : ByteArray} {pc E ik is ic : Nat} {text : String} {names : List String} (hE : Bundle.fit (jEx E) = true) (hnames : ∀ n ∈ names, Bundle.fit n = true) (hk : Cond.classLink own ik (jEx E) ∈ jg) (hini : Cond.initialized (jEx E) ∈ jg) (hstr : Cond.stringRef own is text ∈ lw_tbl)
    (hat : ∀ w ∈ vx_atS own ic (jEx E) names, w ∈ jg ∨ (w ∈ lw_tbl ∧ jnk w = true ∧ w.onTables = true)) (hgood : ∀ w ∈ Cond.classLink own ik (jEx E) :: Cond.initialized (jEx E) :: vx_atS own ic (jEx E) names, vx_ot w = true)
    (d0 : decode cc pc = .ok (.new ik, 3)) (d3 : decode cc (pc + 3) = .ok (.dup, 1)) (d4 : decode cc (pc + 4) = .ok (.ldc_w is, 3)) (d7 : decode cc (pc + 7) = .ok (.invokespecial ic, 3)) (d10 : decode cc (pc + 10) = .ok (.athrow, 1))
    (hf : names.length + 3 < dep) (hlo : 8 + (13 * (names.length + 1) + 43) ≤ 39 * dep) : jSnp sz0 l own nm dep cc pc (jthrowS E) := by
  intro p e R s m args below meth c H locs cells slots nL ls ret st M sz kc ks Qr Qx hC hnx hls hH h
  unfold jthrowS at h
  obtain ⟨hx, hb, hml, hown, hts, hlocks, hI, hsz0, hnt, hnm, hRf, hRl, hret⟩ := hC
  split at h
  · obtain ⟨h1, h2, h3⟩ := h
    obtain ⟨sa, hsa⟩ := hI.2.2.1 _ _ _ hstr
    obtain ⟨g1, g2, g3, g4, g5⟩ := hH
    refine vx_throwSW (rest := []) (A := jA sz0) hx hb hnt hown hE hnames (hts _ hk) (hts _ hini) hsa (fun w hw => ?_) hgood hI.2.2.2.1 hI.2.2.2.2 g3 (by rw [hml]; exact hls) d0 d3 d4 d7 d10 (fun x hx9 => (hnx x hx9).elim) (by omega) ?_ (by omega) (by omega) hlocks (fun t ha hz hq => ?_) g3.2.2 (by omega) (by omega)
    · rcases hat w hw with h9 | ⟨h9, h8, h7⟩
      · exact hts _ h9
      · exact va_Nw.use h7 (hI.1 w h9 h8)
    · show 0 + (13 * (names.length + 1) + 43) ≤ R.locals
      omega
    · refine ⟨E, M, rfl, h3 _ (by rw [← g2]; exact hz), ?_, ⟨Nat.le_trans g3.1 hz, fun q k1 k2 => ?_⟩⟩
      · exact (show jhv s M t.heap from fun q e9 hq9 => (g1 q e9 hq9).kept (hq q (g1 q e9 hq9).lt)).moved ha
      · rw [hq q (Nat.lt_of_lt_of_le k1 g3.1)]
        exact g3.2.1 q k1 k2
  · exact h.elim
/-- a part of a row over a part of another (or of the same) -/
def jcpy (xs ys : List Int) (sp dp n : Nat) : List Int := ys.take dp ++ ((xs.drop sp).take n ++ ys.drop (dp + n))
theorem jcpy_len {xs ys : List Int} {sp dp n : Nat} (h1 : sp + n ≤ xs.length) (h2 : dp + n ≤ ys.length) : (jcpy xs ys sp dp n).length = ys.length := by
  simp only [jcpy, List.length_append, List.length_take, List.length_drop]
  omega
theorem jcpy_get {xs ys : List Int} {sp dp n : Nat} (h1 : sp + n ≤ xs.length) (h2 : dp + n ≤ ys.length) : (fun j => iI ((jcpy xs ys sp dp n).getD j 0)) = va_cpy (fun j => iI (xs.getD j 0)) (fun j => iI (ys.getD j 0)) sp dp n := by
  funext j
  unfold va_cpy jcpy
  simp only [List.getD_eq_getElem?_getD]
  by_cases c1 : j < dp
  · rw [if_neg (by omega), List.getElem?_append_left (by rw [List.length_take]; omega), List.getElem?_take, if_pos c1]
  · rw [List.getElem?_append_right (by rw [List.length_take]; omega)]
    have e : (List.take dp ys).length = dp := by rw [List.length_take]; omega
    rw [e]
    by_cases c2 : j < dp + n
    · rw [if_pos ⟨by omega, c2⟩, List.getElem?_append_left (by rw [List.length_take, List.length_drop]; omega), List.getElem?_take, if_pos (by omega), List.getElem?_drop]
    · rw [if_neg (by omega), List.getElem?_append_right (by rw [List.length_take, List.length_drop]; omega)]
      have e2 : (List.take n (List.drop sp xs)).length = n := by rw [List.length_take, List.length_drop]; omega
      rw [e2, List.getElem?_drop]
      congr 3
      omega
theorem jcpy_jr {xs ys : List Int} {sp dp n : Nat} (hx : ∀ x ∈ xs, jr x) (hy : ∀ x ∈ ys, jr x) : ∀ x ∈ jcpy xs ys sp dp n, jr x := by
  intro x h
  rcases List.mem_append.mp h with h | h
  · exact hy x (List.mem_of_mem_take h)
  · rcases List.mem_append.mp h with h | h
    · exact hx x (List.mem_of_mem_drop (List.mem_of_mem_take h))
    · exact hy x (List.mem_of_mem_drop h)
def jcopy (sz0 : Nat) : jTr := fun st M sz kc ks K _ => match st with
  | .inl n :: .inl dp :: .inr (.inr (some a)) :: .inl sp :: .inr (.inr (some b)) :: r => match Nat.ble (jcat2 r) 8 with
    | true => ∃ xs ys : List Int, M b = some (.inr (.inl (.int, xs))) ∧ M a = some (.inr (.inl (.int, ys))) ∧ sz0 ≤ a ∧ (0 ≤ n ∧ 0 ≤ dp ∧ 0 ≤ sp ∧ sp + n ≤ (xs.length : Int) ∧ dp + n ≤ (ys.length : Int) ∧ 0 < xs.length ∧ 0 < ys.length ∧ xs.length < 2 ^ 31 ∧ ys.length < 2 ^ 31) ∧ ∀ M' : jM, M' = jup M a (.inr (.inl (.int, jcpy xs ys sp.toNat dp.toNat n.toNat))) → K r M' sz kc ks
    | false => False
  | _ => False
theorem jcopy_snd {idx : Nat} (w1 : Cond.methodLink own idx arraycopyName ∈ jg) (w2 : Cond.native arraycopyName ∈ jg) (w3 : Cond.static arraycopyName ∈ jg) (w4 : Cond.initialized "java/lang/System" ∈ jg) (hdep : 1 ≤ dep) : jSnd sz0 l own nm dep (.invokestatic idx) 3 (jcopy sz0) := by
  intro p e R s m args below meth c H locs cells slots Q cc nL pc ls ret st M sz kc ks K X hC hd hls hH h kK kX
  obtain ⟨hx, hb, hml, hown, hts, hlocks, hI, hsz0, hnt, hnm, hRf, hRl, hret⟩ := hC
  unfold jcopy at h
  split at h
  · rename_i n dp a sp b r
    split at h
    · rename_i hble
      obtain ⟨xs, ys, h1, h2, ha, ⟨g1, g2, g3, g4, g5, g6, g7, g8, g9⟩, h⟩ := h
      have hjn : jr n := ⟨by omega, by omega⟩
      have hjd : jr dp := ⟨by omega, by omega⟩
      have hjs : jr sp := ⟨by omega, by omega⟩
      obtain ⟨h1, hjx⟩ := hH.1 _ _ h1
      obtain ⟨h2, hjy⟩ := hH.1 _ _ h2
      rcases h1 with ⟨c0, h1, hr1⟩ | ⟨h0, -⟩
      · rcases h2 with ⟨c1, h2, hr2⟩ | ⟨h0, -⟩
        · dsimp only at h1 h2 hjx hjy
          intro T hT X9
          obtain ⟨-, k0, hk0, cm0, hkk0⟩ := hr1 xs.length (fun j => .int (iI (xs.getD j 0)))
          obtain ⟨-, k1, hk1, cm1, hkk1⟩ := hr2 ys.length (fun j => .int (iI (ys.getD j 0)))
          have e0 : (iI sp).toNatClampNeg + (iI n).toNatClampNeg ≤ xs.length := by rw [iI_clamp hjs g3, iI_clamp hjn g1]; omega
          have e00 : (iI dp).toNatClampNeg + (iI n).toNatClampNeg ≤ ys.length := by rw [iI_clamp hjd g2, iI_clamp hjn g1]; omega
          obtain ⟨vm', X', step⟩ := X9.arraycopy hx hown (hts _ w1) (hts _ w2) (hts _ w3) (hts _ w4) (src := b) (dst := a) (cs := vp_cell c0 (xs.length, .inl (fun j => iI (xs.getD j 0)))) (cd := vp_cell c1 (ys.length, .inl (fun j => iI (ys.getD j 0)))) (srcPos := iI sp) (destPos := iI dp) (n := iI n) (by rw [hT]; exact h1) (by rw [hT]; exact h2)
            (fun _ h => by cases h) (fun _ h => by cases h) (fun h => by cases h) (fun h => by cases h) hk0 hk1 hkk0 hkk1 (by simp [refKind]) (iI_neg_not hjs g3) (iI_neg_not hjd g2) (iI_neg_not hjn g1)
            (by rw [iI_toInt hjs, iI_toInt hjn]; show ¬ _ > ((arrV c0 xs.length (fun j => .int (iI (xs.getD j 0)))).slots.size : Int); rw [arrV_size]; omega)
            (by rw [iI_toInt hjd, iI_toInt hjn]; show ¬ _ > ((arrV c1 ys.length (fun j => .int (iI (ys.getD j 0)))).slots.size : Int); rw [arrV_size]; omega)
            (fun vm₁ _ i hi => by
              have e : (vp_cell c0 (xs.length, .inl (fun j => iI (xs.getD j 0)))).slots.getD ((iI sp).toNatClampNeg + i) .null = .int (iI (xs.getD ((iI sp).toNatClampNeg + i) 0)) := by
                show (arrV c0 xs.length (fun j => .int (iI (xs.getD j 0)))).slots.getD _ _ = _
                rw [Array.getD_eq_getD_getElem?, arrV_read _ _ (by omega)]
                rfl
              refine ⟨?_, ?_⟩
              · rw [e]
                rfl
              · rw [e]
                exact trivial)
            (g := F0 m pc ls (.int (iI n) :: .int (iI dp) :: .ref a :: .int (iI sp) :: .ref b :: r.map jv)) rfl (by rw [hml]; exact hls) (rest := r.map jv) rfl (by rw [hb]; exact hd) (by omega) (by
              have h9 := Nat.le_of_ble_eq_true hble
              have h8 := jcat2_sum r
              have h7 : nativeFrameWords "java/lang/System" "arraycopy" 5 = 7 := by decide +kernel
              show 2 * 0 + _ + _ ≤ _
              rw [h8, h7]
              omega)
          have e1 : copied (vp_cell c0 (xs.length, .inl (fun j => iI (xs.getD j 0)))) (vp_cell c1 (ys.length, .inl (fun j => iI (ys.getD j 0)))) (iI sp) (iI dp) (iI n) = vp_cell c1 (ys.length, .inl (va_cpy (fun j => iI (xs.getD j 0)) (fun j => iI (ys.getD j 0)) (iI sp).toNatClampNeg (iI dp).toNatClampNeg (iI n).toNatClampNeg)) := va_copied (fun z => .int z) c0 c1 (fun j => iI (xs.getD j 0)) (fun j => iI (ys.getD j 0)) e0
          have e2 : copied (vp_cell c0 (xs.length, .inl (fun j => iI (xs.getD j 0)))) (vp_cell c1 (ys.length, .inl (fun j => iI (ys.getD j 0)))) (iI sp) (iI dp) (iI n) = vp_cell c1 ((jcpy xs ys sp.toNat dp.toNat n.toNat).length, .inl (fun j => iI ((jcpy xs ys sp.toNat dp.toNat n.toNat).getD j 0))) := by
            rw [e1, iI_clamp hjs g3, iI_clamp hjd g2, iI_clamp hjn g1, ← jcpy_get (by omega) (by omega), jcpy_len (by omega) (by omega)]
          rw [e2] at X' step
          generalize hzs : jcpy xs ys sp.toNat dp.toNat n.toNat = zs at X' step h
          have hl : a < H.size := (Array.getElem?_eq_some_iff.mp h2).1
          have hheap : ((T.setVm vm').setCell a (vp_cell c1 (zs.length, .inl (fun j => iI (zs.getD j 0))))).heap = H.setIfInBounds a (vp_cell c1 (zs.length, .inl (fun j => iI (zs.getD j 0)))) := by rw [← hT]; rfl
          have oq : ∀ q : Nat, q ≠ a → (H.setIfInBounds a (vp_cell c1 (zs.length, .inl (fun j => iI (zs.getD j 0)))))[q]? = H[q]? := fun q hq => by simp [Array.getElem?_setIfInBounds, Ne.symm hq]
          have hJ : ∀ lo : List Loc, (∀ q ∈ lo, q ∈ locs ∨ q.base = a) → jH sz0 s R (H.setIfInBounds a (vp_cell c1 (zs.length, .inl (fun j => iI (zs.getD j 0))))) lo cells slots (jup M a (.inr (.inl (.int, zs)))) sz kc ks := by
            intro lo hlo
            obtain ⟨k1, k2, k3, k4⟩ := hH
            refine ⟨k1.put ⟨Or.inl ⟨c1, ?_, hr2⟩, ?_⟩ oq, by simp [k2], ⟨by simp; exact k3.1, fun q z1 z2 => ?_, fun q hq => ?_⟩, k4⟩
            · show (H.setIfInBounds a _)[a]? = some _
              simp [Array.getElem?_setIfInBounds, hl]
            · rw [← hzs]
              exact jcpy_jr hjx hjy
            · rw [oq q (fun e => z2 (by rw [e]; exact ha))]
              exact k3.2.1 q z1 z2
            · rcases hlo q hq with h9 | h9
              · exact k3.2.2 q h9
              · show sz0 ≤ q.base
                rw [h9]
                exact ha
          obtain ⟨t, a1, b1⟩ := kK _ _ _ _ _ _ _ _ _ (h _ rfl) (hJ _ (fun q hq => by
            rcases List.mem_append.mp hq with h9 | h9
            · exact Or.inl h9
            · obtain ⟨z, -, hz⟩ := List.mem_map.mp h9
              rw [← hz]
              exact Or.inr rfl)) _ hheap X'
          exact ⟨t, step t a1, b1⟩
        · dsimp only at h0; rw [h0] at g7; exact absurd g7 (Nat.lt_irrefl _)
      · dsimp only at h0; rw [h0] at g6; exact absurd g6 (Nat.lt_irrefl _)
    · exact h.elim
  · exact h.elim
end J10
theorem jat_IO : ∀ w ∈ vx_atS "Manydoors" 288 (jEx 1) jnames, w ∈ jg ∨ (w ∈ lw_tbl ∧ jnk w = true ∧ w.onTables = true) := fun w hw => jmemb_ok (List.all_eq_true.mp (show (vx_atS "Manydoors" 288 (jEx 1) jnames).all jmemb = true by decide +kernel) w hw)
theorem jat_IA : ∀ w ∈ vx_atS "Manydoors" 309 (jEx 2) jnames, w ∈ jg ∨ (w ∈ lw_tbl ∧ jnk w = true ∧ w.onTables = true) := fun w hw => jmemb_ok (List.all_eq_true.mp (show (vx_atS "Manydoors" 309 (jEx 2) jnames).all jmemb = true by decide +kernel) w hw)
theorem jot_IO : ∀ w ∈ Cond.classLink "Manydoors" 284 (jEx 1) :: Cond.initialized (jEx 1) :: vx_atS "Manydoors" 288 (jEx 1) jnames, vx_ot w = true := fun w hw => List.all_eq_true.mp (show (Cond.classLink "Manydoors" 284 (jEx 1) :: Cond.initialized (jEx 1) :: vx_atS "Manydoors" 288 (jEx 1) jnames).all vx_ot = true by decide +kernel) w hw
theorem jot_IA : ∀ w ∈ Cond.classLink "Manydoors" 305 (jEx 2) :: Cond.initialized (jEx 2) :: vx_atS "Manydoors" 309 (jEx 2) jnames, vx_ot w = true := fun w hw => List.all_eq_true.mp (show (Cond.classLink "Manydoors" 305 (jEx 2) :: Cond.initialized (jEx 2) :: vx_atS "Manydoors" 309 (jEx 2) jnames).all vx_ot = true by decide +kernel) w hw
end
section
/-! Math: four of its methods. -/
theorem jrn {n : Nat} (h : n ≤ 1000000) : jr (n : Int) := ⟨by omega, by omega⟩
def S_Mat_max (_ : Nat) : jS := fun av M sz P _ => match av with
  | [.inl a, .inl b] => jr a ∧ jr b ∧ P (some (vI (if b ≤ a then a else b))) M sz
  | _ => False
def k_Mat_max : List (Nat × jI5) := [(0, .iload_n 0, 1, 0, 0), (1, .iload_n 1, 2, 0, 0), (2, .if_icmp .lt (7), 5, 9, 0), (5, .iload_n 0, 6, 0, 0), (6, .goto (4), 9, 10, 0), (9, .iload_n 1, 10, 0, 0), (10, .ireturn, 11, 0, 0)]
theorem k_Mat_max_ok : k_Mat_max.all (jok1 prog_12_method_65_code) = true := by decide +kernel
abbrev y_Mat_max : MethodName := ⟨"java/lang/Math", "max", "(II)I"⟩
theorem Y_Mat_max : jYok y_Mat_max prog_12_method_65_code 2 (some .int) 2 := ⟨(jg_in (List.mem_of_getElem? (i := 80) (by decide +kernel)) rfl), (jg_in (List.mem_of_getElem? (i := 42) (by decide +kernel)) rfl), by decide +kernel, by decide⟩
def cp_Mat_max (sz0 : Nat) : List (Nat × Nat × jTr) := []
theorem cp_Mat_max_ok {l : Launch} (hnt : l.stackTraces = false) (sz0 : Nat) : ∀ q ∈ cp_Mat_max sz0, jSnd sz0 l "java/lang/Math" "max" 0 (jin q.1 q.2.1) (jlen (jin q.1 q.2.1)) q.2.2 := fun _ h => absurd h List.not_mem_nil
set_option maxRecDepth 20000 in
set_option maxHeartbeats 4000000 in
theorem c_Mat_max {l : Launch} (hnt : l.stackTraces = false) (sz0 : Nat) : jCon sz0 l y_Mat_max prog_12_method_65_code 2 (some .int) 0 0 0 (S_Mat_max sz0) := by
  refine jmet (own := "java/lang/Math") (nm := "max") k_Mat_max (cp_Mat_max sz0) [] 20 (by decide +kernel) rfl rfl hnt k_Mat_max_ok (cp_Mat_max_ok hnt sz0) (fun _ h => absurd h List.not_mem_nil) ?_
  intro av M sz P X h hz hfr
  unfold S_Mat_max at h
  split at h
  · rename_i a b
    obtain ⟨ha, hb, h⟩ := h
    refine ⟨rfl, [], ?_, fun pc a h => absurd h List.not_mem_nil⟩
    conv => whnf
    refine ⟨⟨ha, hb⟩, fun c1 => ?_, fun c1 => ?_⟩
    · conv => whnf
      rw [if_neg (by omega)] at h
      exact ⟨trivial, h⟩
    · conv => whnf
      rw [if_pos (by omega)] at h
      exact ⟨trivial, h⟩
  · exact h.elim
def S_Mat_min (_ : Nat) : jS := fun av M sz P _ => match av with
  | [.inl a, .inl b] => jr a ∧ jr b ∧ P (some (vI (if a ≤ b then a else b))) M sz
  | _ => False
def k_Mat_min : List (Nat × jI5) := [(0, .iload_n 0, 1, 0, 0), (1, .iload_n 1, 2, 0, 0), (2, .if_icmp .gt (7), 5, 9, 0), (5, .iload_n 0, 6, 0, 0), (6, .goto (4), 9, 10, 0), (9, .iload_n 1, 10, 0, 0), (10, .ireturn, 11, 0, 0)]
theorem k_Mat_min_ok : k_Mat_min.all (jok1 prog_12_method_69_code) = true := by decide +kernel
abbrev y_Mat_min : MethodName := ⟨"java/lang/Math", "min", "(II)I"⟩
theorem Y_Mat_min : jYok y_Mat_min prog_12_method_69_code 2 (some .int) 2 := ⟨(jg_in (List.mem_of_getElem? (i := 319) (by decide +kernel)) rfl), (jg_in (List.mem_of_getElem? (i := 42) (by decide +kernel)) rfl), by decide +kernel, by decide⟩
def cp_Mat_min (sz0 : Nat) : List (Nat × Nat × jTr) := []
theorem cp_Mat_min_ok {l : Launch} (hnt : l.stackTraces = false) (sz0 : Nat) : ∀ q ∈ cp_Mat_min sz0, jSnd sz0 l "java/lang/Math" "min" 0 (jin q.1 q.2.1) (jlen (jin q.1 q.2.1)) q.2.2 := fun _ h => absurd h List.not_mem_nil
set_option maxRecDepth 20000 in
set_option maxHeartbeats 4000000 in
theorem c_Mat_min {l : Launch} (hnt : l.stackTraces = false) (sz0 : Nat) : jCon sz0 l y_Mat_min prog_12_method_69_code 2 (some .int) 0 0 0 (S_Mat_min sz0) := by
  refine jmet (own := "java/lang/Math") (nm := "min") k_Mat_min (cp_Mat_min sz0) [] 20 (by decide +kernel) rfl rfl hnt k_Mat_min_ok (cp_Mat_min_ok hnt sz0) (fun _ h => absurd h List.not_mem_nil) ?_
  intro av M sz P X h hz hfr
  unfold S_Mat_min at h
  split at h
  · rename_i a b
    obtain ⟨ha, hb, h⟩ := h
    refine ⟨rfl, [], ?_, fun pc a h => absurd h List.not_mem_nil⟩
    conv => whnf
    refine ⟨⟨ha, hb⟩, fun c1 => ?_, fun c1 => ?_⟩
    · conv => whnf
      rw [if_neg (by omega)] at h
      exact ⟨trivial, h⟩
    · conv => whnf
      rw [if_pos (by omega)] at h
      exact ⟨trivial, h⟩
  · exact h.elim
def S_Mat_abs (_ : Nat) : jS := fun av M sz P _ => match av with
  | [.inl a] => jr a ∧ P (some (vI (if 0 ≤ a then a else -a))) M sz
  | _ => False
def k_Mat_abs : List (Nat × jI5) := [(0, .iload_n 0, 1, 0, 0), (1, .ifCond .ge (8), 4, 9, 0), (4, .iload_n 0, 5, 0, 0), (5, .ineg, 6, 0, 0), (6, .goto (4), 9, 10, 0), (9, .iload_n 0, 10, 0, 0), (10, .ireturn, 11, 0, 0)]
theorem k_Mat_abs_ok : k_Mat_abs.all (jok1 prog_12_method_59_code) = true := by decide +kernel
abbrev y_Mat_abs : MethodName := ⟨"java/lang/Math", "abs", "(I)I"⟩
theorem Y_Mat_abs : jYok y_Mat_abs prog_12_method_59_code 1 (some .int) 1 := ⟨(jg_in (List.mem_of_getElem? (i := 577) (by decide +kernel)) rfl), (jg_in (List.mem_of_getElem? (i := 42) (by decide +kernel)) rfl), by decide +kernel, by decide⟩
def cp_Mat_abs (sz0 : Nat) : List (Nat × Nat × jTr) := []
theorem cp_Mat_abs_ok {l : Launch} (hnt : l.stackTraces = false) (sz0 : Nat) : ∀ q ∈ cp_Mat_abs sz0, jSnd sz0 l "java/lang/Math" "abs" 0 (jin q.1 q.2.1) (jlen (jin q.1 q.2.1)) q.2.2 := fun _ h => absurd h List.not_mem_nil
set_option maxRecDepth 20000 in
set_option maxHeartbeats 4000000 in
theorem c_Mat_abs {l : Launch} (hnt : l.stackTraces = false) (sz0 : Nat) : jCon sz0 l y_Mat_abs prog_12_method_59_code 1 (some .int) 0 0 0 (S_Mat_abs sz0) := by
  refine jmet (own := "java/lang/Math") (nm := "abs") k_Mat_abs (cp_Mat_abs sz0) [] 20 (by decide +kernel) rfl rfl hnt k_Mat_abs_ok (cp_Mat_abs_ok hnt sz0) (fun _ h => absurd h List.not_mem_nil) ?_
  intro av M sz P X h hz hfr
  unfold S_Mat_abs at h
  split at h
  · rename_i a
    obtain ⟨ha, h⟩ := h
    refine ⟨rfl, [], ?_, fun pc a h => absurd h List.not_mem_nil⟩
    conv => whnf
    refine ⟨ha, fun c1 => ?_, fun c1 => ?_⟩
    · conv => whnf
      rw [if_pos (by omega)] at h
      exact ⟨trivial, h⟩
    · conv => whnf
      rw [if_neg (by omega)] at h
      exact ⟨trivial, h⟩
  · exact h.elim
theorem jxor {a b : Int} (ha : 0 ≤ a ∧ jr a) (hb : 0 ≤ b ∧ jr b) : 0 ≤ (iI a ^^^ iI b).toInt := by
  obtain ⟨n, rfl⟩ := Int.eq_ofNat_of_zero_le ha.1
  obtain ⟨k, rfl⟩ := Int.eq_ofNat_of_zero_le hb.1
  have hn : n < 2 ^ 31 := by have := ha.2.2; omega
  have hk : k < 2 ^ 31 := by have := hb.2.2; omega
  rw [iI_nat, iI_nat]
  show 0 ≤ (nI n ^^^ nI k).toBitVec.toInt
  rw [Int32.toBitVec_xor]
  have h1 : ((nI n).toBitVec ^^^ (nI k).toBitVec).toNat < 2 ^ 31 := by
    rw [BitVec.toNat_xor, pk_tn (by omega), pk_tn (by omega)]
    exact Nat.xor_lt_two_pow hn hk
  rw [BitVec.toInt_eq_toNat_of_lt (by omega)]
  omega
def S_Mat_floorMod (_ : Nat) : jS := fun av M sz P _ => match av with
  | [.inl a, .inl b] => (0 ≤ a ∧ jr a ∧ 0 < b ∧ jr b) ∧ P (some (vI (a % b))) M sz
  | _ => False
def k_Mat_floorMod : List (Nat × jI5) := [(0, .iload_n 0, 1, 0, 0), (1, .iload_n 1, 2, 0, 0), (2, .irem, 3, 0, 0), (3, .istore_n 2, 4, 0, 0), (4, .iload_n 0, 5, 0, 0), (5, .iload_n 1, 6, 0, 0), (6, .ixor, 7, 0, 0), (7, .ifCond .ge (11), 10, 18, 0), (10, .iload_n 2, 11, 0, 0), (11, .ifCond .eq (7), 14, 18, 0), (14, .iload_n 2, 15, 0, 0), (15, .iload_n 1, 16, 0, 0), (16, .iadd, 17, 0, 0), (17, .ireturn, 18, 0, 0), (18, .iload_n 2, 19, 0, 0), (19, .ireturn, 20, 0, 0)]
theorem k_Mat_floorMod_ok : k_Mat_floorMod.all (jok1 prog_12_method_50_code) = true := by decide +kernel
abbrev y_Mat_floorMod : MethodName := ⟨"java/lang/Math", "floorMod", "(II)I"⟩
theorem Y_Mat_floorMod : jYok y_Mat_floorMod prog_12_method_50_code 3 (some .int) 2 := ⟨(jg_in (List.mem_of_getElem? (i := 286) (by decide +kernel)) rfl), (jg_in (List.mem_of_getElem? (i := 42) (by decide +kernel)) rfl), by decide +kernel, by decide⟩
def cp_Mat_floorMod (sz0 : Nat) : List (Nat × Nat × jTr) := []
theorem cp_Mat_floorMod_ok {l : Launch} (hnt : l.stackTraces = false) (sz0 : Nat) : ∀ q ∈ cp_Mat_floorMod sz0, jSnd sz0 l "java/lang/Math" "floorMod" 0 (jin q.1 q.2.1) (jlen (jin q.1 q.2.1)) q.2.2 := fun _ h => absurd h List.not_mem_nil
set_option maxRecDepth 20000 in
set_option maxHeartbeats 4000000 in
theorem c_Mat_floorMod {l : Launch} (hnt : l.stackTraces = false) (sz0 : Nat) : jCon sz0 l y_Mat_floorMod prog_12_method_50_code 3 (some .int) 0 0 0 (S_Mat_floorMod sz0) := by
  refine jmet (own := "java/lang/Math") (nm := "floorMod") k_Mat_floorMod (cp_Mat_floorMod sz0) [] 20 (by decide +kernel) rfl rfl hnt k_Mat_floorMod_ok (cp_Mat_floorMod_ok hnt sz0) (fun _ h => absurd h List.not_mem_nil) ?_
  intro av M sz P X h hz hfr
  unfold S_Mat_floorMod at h
  split at h
  · rename_i a b
    obtain ⟨⟨h1, h2, h3, h4⟩, h⟩ := h
    have e1 := Int.emod_nonneg a (show b ≠ 0 by omega)
    have e2 := Int.emod_lt_of_pos a h3
    have e3 := h4.2
    have hx := jxor ⟨h1, h2⟩ ⟨Int.le_of_lt h3, h4⟩
    refine ⟨rfl, [], ?_, fun pc a h => absurd h List.not_mem_nil⟩
    conv => whnf
    refine ⟨⟨h1, h2, h3, h4⟩, ?_⟩
    conv => whnf
    refine ⟨jr_of _, fun c1 => ?_, fun c1 => ?_⟩
    · conv => whnf
      exact ⟨trivial, h⟩
    · exact absurd hx (by omega)
  · exact h.elim
end
section
/-! Signs: its methods, each by what it does to the list that it holds. -/
def sgn (xs : List Int) : Prop := ∀ x ∈ xs, 0 ≤ x ∧ x < 256
theorem sgn_nil : sgn [] := fun _ h => by cases h
theorem sgn_app {xs ys : List Int} (h1 : sgn xs) (h2 : sgn ys) : sgn (xs ++ ys) := fun x h => (List.mem_append.mp h).elim (h1 x) (h2 x)
theorem sgn_one {v : Int} (h : 0 ≤ v ∧ v < 256) : sgn [v] := fun x hx => by rw [List.mem_singleton.mp hx]; exact h
theorem sgn_rep {v : Int} {n : Nat} (h : 0 ≤ v ∧ v < 256) : sgn (List.replicate n v) := fun x hx => by rw [(List.mem_replicate.mp hx).2]; exact h
theorem sgn_drop {xs : List Int} {n : Nat} (h : sgn xs) : sgn (xs.drop n) := fun x hx => h x (List.mem_of_mem_drop hx)
theorem sgn_take {xs : List Int} {n : Nat} (h : sgn xs) : sgn (xs.take n) := fun x hx => h x (List.mem_of_mem_take hx)
/-- a Signs at o, its row behind it: the list xs, room for rm -/
def sg (M : jM) (o : Nat) (xs : List Int) (rm : Nat) : Prop := ∃ g : List Int, M o = some (.inl (4, [vR (o + 1), vI xs.length])) ∧ M (o + 1) = some (.inr (.inl (.int, xs ++ g))) ∧ xs.length + g.length = rm ∧ (1 ≤ rm ∧ rm ≤ 100000) ∧ sgn xs
/-- nothing but o and what lies behind it has changed -/
def jfr (o : Nat) (M M' : jM) : Prop := ∀ q : Nat, q ≠ o → q ≠ o + 1 → M' q = M q
def S_Sig_clear (sz0 : Nat) : jS := fun av M sz P _ => match av with
  | [.inr (.inr (some o))] => ∃ (xs : List Int) (rm : Nat), sg M o xs rm ∧ sz0 ≤ o ∧ ∀ M' : jM, sg M' o [] rm → jfr o M M' → P none M' sz
  | _ => False
def k_Sig_clear : List (Nat × jI5) := [(0, .aload_n 0, 1, 0, 0), (1, .iconst (0), 2, 0, 0), (2, .putfield 21, 5, 0, 0), (5, .return_, 6, 0, 0)]
theorem k_Sig_clear_ok : k_Sig_clear.all (jok1 prog_5_method_4_code) = true := by decide +kernel
abbrev y_Sig_clear : MethodName := ⟨"Manydoors$Signs", "clear", "()V"⟩
theorem Y_Sig_clear : jYok y_Sig_clear prog_5_method_4_code 1 none 0 := ⟨(jg_in (List.mem_of_getElem? (i := 308) (by decide +kernel)) rfl), (jg_in (List.mem_of_getElem? (i := 41) (by decide +kernel)) rfl), by decide +kernel, by decide⟩
theorem jc_Sig : jcOk 4 (R_Sig, F_Sig, 2) t_Sig := ⟨rfl, List.forall_mem_cons.mpr ⟨(jg_in (List.mem_of_getElem? (i := 83) (by decide +kernel)) rfl), List.forall_mem_cons.mpr ⟨(jg_in (List.mem_of_getElem? (i := 85) (by decide +kernel)) rfl), fun _ h => absurd h List.not_mem_nil⟩⟩, t_Sig_ok, n_Sig, by decide +kernel⟩
def cp_Sig_clear (sz0 : Nat) : List (Nat × Nat × jTr) := [(1, 21, jputf sz0 4 1 (.int))]
theorem cp_Sig_clear_ok {l : Launch} (hnt : l.stackTraces = false) (sz0 : Nat) : ∀ q ∈ cp_Sig_clear sz0, jSnd sz0 l "Manydoors$Signs" "clear" 0 (jin q.1 q.2.1) (jlen (jin q.1 q.2.1)) q.2.2 := List.forall_mem_cons.mpr ⟨jputf_snd (idx := 21) jc_Sig (k := 1) (by decide) (jg_in (List.mem_of_getElem? (i := 82) (by decide +kernel)) rfl) rfl, fun _ h => absurd h List.not_mem_nil⟩
set_option maxRecDepth 20000 in
set_option maxHeartbeats 4000000 in
theorem c_Sig_clear {l : Launch} (hnt : l.stackTraces = false) (sz0 : Nat) : jCon sz0 l y_Sig_clear prog_5_method_4_code 1 none 0 0 0 (S_Sig_clear sz0) := by
  refine jmet (own := "Manydoors$Signs") (nm := "clear") k_Sig_clear (cp_Sig_clear sz0) [] 20 (plainFor_of_name (by decide)) rfl rfl hnt k_Sig_clear_ok (cp_Sig_clear_ok hnt sz0) (fun _ h => absurd h List.not_mem_nil) ?_
  intro av M sz P X h hz hfr
  unfold S_Sig_clear at h
  split at h
  · rename_i o
    obtain ⟨xs, rm, ⟨g, h1, h2, h3, h4⟩, ho, h⟩ := h
    refine ⟨rfl, [], ?_, fun pc a h => absurd h List.not_mem_nil⟩
    conv => whnf
    refine ⟨ho, _, h1, fun M1 e1 => ?_⟩
    conv => whnf
    refine ⟨rfl, h _ ⟨xs ++ g, ?_, ?_, by simp; omega, h4.1, sgn_nil⟩ fun q q1 q2 => ?_⟩
    · rw [e1, jup_s]; rfl
    · rw [e1, jup_n (by omega), h2]; rfl
    · rw [e1, jup_n q1]
  · exact h.elim
def S_Sig_size (_ : Nat) : jS := fun av M sz P _ => match av with
  | [.inr (.inr (some o))] => ∃ (xs : List Int) (rm : Nat), sg M o xs rm ∧ P (some (vI xs.length)) M sz
  | _ => False
def k_Sig_size : List (Nat × jI5) := [(0, .aload_n 0, 1, 0, 0), (1, .getfield 21, 4, 0, 0), (4, .ireturn, 5, 0, 0)]
theorem k_Sig_size_ok : k_Sig_size.all (jok1 prog_5_method_2_code) = true := by decide +kernel
abbrev y_Sig_size : MethodName := ⟨"Manydoors$Signs", "size", "()I"⟩
theorem Y_Sig_size : jYok y_Sig_size prog_5_method_2_code 1 (some .int) 0 := ⟨(jg_in (List.mem_of_getElem? (i := 300) (by decide +kernel)) rfl), (jg_in (List.mem_of_getElem? (i := 41) (by decide +kernel)) rfl), by decide +kernel, by decide⟩
def cp_Sig_size (sz0 : Nat) : List (Nat × Nat × jTr) := [(0, 21, jget 4 1)]
theorem cp_Sig_size_ok {l : Launch} (hnt : l.stackTraces = false) (sz0 : Nat) : ∀ q ∈ cp_Sig_size sz0, jSnd sz0 l "Manydoors$Signs" "size" 0 (jin q.1 q.2.1) (jlen (jin q.1 q.2.1)) q.2.2 := List.forall_mem_cons.mpr ⟨jget_snd (idx := 21) jc_Sig (k := 1) (by decide) (jg_in (List.mem_of_getElem? (i := 82) (by decide +kernel)) rfl), fun _ h => absurd h List.not_mem_nil⟩
set_option maxRecDepth 20000 in
set_option maxHeartbeats 4000000 in
theorem c_Sig_size {l : Launch} (hnt : l.stackTraces = false) (sz0 : Nat) : jCon sz0 l y_Sig_size prog_5_method_2_code 1 (some .int) 0 0 0 (S_Sig_size sz0) := by
  refine jmet (own := "Manydoors$Signs") (nm := "size") k_Sig_size (cp_Sig_size sz0) [] 20 (plainFor_of_name (by decide)) rfl rfl hnt k_Sig_size_ok (cp_Sig_size_ok hnt sz0) (fun _ h => absurd h List.not_mem_nil) ?_
  intro av M sz P X h hz hfr
  unfold S_Sig_size at h
  split at h
  · rename_i o
    obtain ⟨xs, rm, ⟨g, h1, h2, h3, h4⟩, h⟩ := h
    refine ⟨rfl, [], ?_, fun pc a h => absurd h List.not_mem_nil⟩
    conv => whnf
    refine ⟨_, _, h1, rfl, ?_⟩
    conv => whnf
    exact ⟨trivial, h⟩
  · exact h.elim
/-- the sign at a place, or that it is none -/
def sgA (xs : List Int) (i : Int) : Int := if 0 ≤ i ∧ i < (xs.length : Int) then xs.getD i.toNat 0 else -9
def S_Sig_signOf (_ : Nat) : jS := fun av M sz P _ => match av with
  | [.inr (.inr (some o)), .inl i] => ∃ (xs : List Int) (rm : Nat), sg M o xs rm ∧ jr i ∧ P (some (vI (sgA xs i))) M sz
  | _ => False
def k_Sig_signOf : List (Nat × jI5) := [(0, .iload_n 1, 1, 0, 0), (1, .ifCond .lt (29), 4, 30, 0), (4, .iload_n 1, 5, 0, 0), (5, .aload_n 0, 6, 0, 0), (6, .getfield 21, 9, 0, 0), (9, .if_icmp .ge (21), 12, 30, 0), (12, .iload_n 1, 13, 0, 0), (13, .aload_n 0, 14, 0, 0), (14, .getfield 15, 17, 0, 0), (17, .arraylength, 18, 0, 0), (18, .if_icmp .ge (12), 21, 30, 0), (21, .aload_n 0, 22, 0, 0), (22, .getfield 15, 25, 0, 0), (25, .iload_n 1, 26, 0, 0), (26, .iaload, 27, 0, 0), (27, .goto (5), 30, 32, 0), (30, .bipush (-9), 32, 0, (-9)), (32, .ireturn, 33, 0, 0)]
theorem k_Sig_signOf_ok : k_Sig_signOf.all (jok1 prog_5_method_3_code) = true := by decide +kernel
abbrev y_Sig_signOf : MethodName := ⟨"Manydoors$Signs", "signOf", "(I)I"⟩
theorem Y_Sig_signOf : jYok y_Sig_signOf prog_5_method_3_code 2 (some .int) 1 := ⟨(jg_in (List.mem_of_getElem? (i := 334) (by decide +kernel)) rfl), (jg_in (List.mem_of_getElem? (i := 41) (by decide +kernel)) rfl), by decide +kernel, by decide⟩
def cp_Sig_signOf (sz0 : Nat) : List (Nat × Nat × jTr) := [(0, 15, jget 4 0), (0, 21, jget 4 1)]
theorem cp_Sig_signOf_ok {l : Launch} (hnt : l.stackTraces = false) (sz0 : Nat) : ∀ q ∈ cp_Sig_signOf sz0, jSnd sz0 l "Manydoors$Signs" "signOf" 0 (jin q.1 q.2.1) (jlen (jin q.1 q.2.1)) q.2.2 := List.forall_mem_cons.mpr ⟨jget_snd (idx := 15) jc_Sig (k := 0) (by decide) (jg_in (List.mem_of_getElem? (i := 81) (by decide +kernel)) rfl), List.forall_mem_cons.mpr ⟨jget_snd (idx := 21) jc_Sig (k := 1) (by decide) (jg_in (List.mem_of_getElem? (i := 82) (by decide +kernel)) rfl), fun _ h => absurd h List.not_mem_nil⟩⟩
set_option maxRecDepth 20000 in
set_option maxHeartbeats 4000000 in
theorem c_Sig_signOf {l : Launch} (hnt : l.stackTraces = false) (sz0 : Nat) : jCon sz0 l y_Sig_signOf prog_5_method_3_code 2 (some .int) 0 0 0 (S_Sig_signOf sz0) := by
  refine jmet (own := "Manydoors$Signs") (nm := "signOf") k_Sig_signOf (cp_Sig_signOf sz0) [] 40 (plainFor_of_name (by decide)) rfl rfl hnt k_Sig_signOf_ok (cp_Sig_signOf_ok hnt sz0) (fun _ h => absurd h List.not_mem_nil) ?_
  intro av M sz P X h hz hfr
  unfold S_Sig_signOf at h
  split at h
  · rename_i o i
    obtain ⟨xs, rm, ⟨g, h1, h2, h3, h4⟩, hi, h⟩ := h
    refine ⟨rfl, [], ?_, fun pc a h => absurd h List.not_mem_nil⟩
    conv => whnf
    refine ⟨hi, fun c1 => ?_, fun c1 => ?_⟩
    · conv => whnf
      rw [sgA, if_neg (by omega)] at h
      exact ⟨trivial, h⟩
    · conv => whnf
      refine ⟨_, _, h1, rfl, ?_⟩
      conv => whnf
      refine ⟨⟨hi, jrn (by omega)⟩, fun c2 => ?_, fun c2 => ?_⟩
      · conv => whnf
        rw [sgA, if_neg (by omega)] at h
        exact ⟨trivial, h⟩
      · conv => whnf
        refine ⟨_, _, h1, rfl, ?_⟩
        conv => whnf
        refine Or.inl ⟨_, _, h2, ?_⟩
        conv => whnf
        refine ⟨⟨hi, jrn (by rw [List.length_append]; omega)⟩, fun c3 => ?_, fun c3 => ?_⟩
        · rw [List.length_append] at c3; omega
        · conv => whnf
          refine ⟨_, _, h1, rfl, ?_⟩
          conv => whnf
          refine ⟨_, h2, ⟨c1, c3, by rw [List.length_append]; omega⟩, fun v hv hjr => ?_⟩
          conv => whnf
          rw [sgA, if_pos ⟨c1, c2⟩] at h
          rw [List.getElem?_append_left (by omega)] at hv
          rw [List.getD_eq_getElem?_getD, hv] at h
          exact ⟨trivial, h⟩
  · exact h.elim
def S_Sig_addSign (sz0 : Nat) : jS := fun av M sz P _ => match av with
  | [.inr (.inr (some o)), .inl v] => ∃ (xs : List Int) (rm : Nat), sg M o xs rm ∧ sz0 ≤ o ∧ (0 ≤ v ∧ v < 256) ∧ xs.length < rm ∧ ∀ M' : jM, sg M' o (xs ++ [v]) rm → jfr o M M' → P none M' sz
  | _ => False
def k_Sig_addSign : List (Nat × jI5) := [(0, .aload_n 0, 1, 0, 0), (1, .getfield 21, 4, 0, 0), (4, .aload_n 0, 5, 0, 0), (5, .getfield 15, 8, 0, 0), (8, .arraylength, 9, 0, 0), (9, .if_icmp .ge (23), 12, 32, 0), (12, .aload_n 0, 13, 0, 0), (13, .getfield 15, 16, 0, 0), (16, .aload_n 0, 17, 0, 0), (17, .getfield 21, 20, 0, 0), (20, .iload_n 1, 21, 0, 0), (21, .iastore, 22, 0, 0), (22, .aload_n 0, 23, 0, 0), (23, .dup, 24, 0, 0), (24, .getfield 21, 27, 0, 0), (27, .iconst (1), 28, 0, 1), (28, .iadd, 29, 0, 0), (29, .putfield 21, 32, 0, 0), (32, .return_, 33, 0, 0)]
theorem k_Sig_addSign_ok : k_Sig_addSign.all (jok1 prog_5_method_5_code) = true := by decide +kernel
abbrev y_Sig_addSign : MethodName := ⟨"Manydoors$Signs", "addSign", "(I)V"⟩
theorem Y_Sig_addSign : jYok y_Sig_addSign prog_5_method_5_code 2 none 1 := ⟨(jg_in (List.mem_of_getElem? (i := 370) (by decide +kernel)) rfl), (jg_in (List.mem_of_getElem? (i := 41) (by decide +kernel)) rfl), by decide +kernel, by decide⟩
def cp_Sig_addSign (sz0 : Nat) : List (Nat × Nat × jTr) := [(0, 15, jget 4 0), (0, 21, jget 4 1), (1, 21, jputf sz0 4 1 (.int)), (11, 0, jiast sz0)]
theorem cp_Sig_addSign_ok {l : Launch} (hnt : l.stackTraces = false) (sz0 : Nat) : ∀ q ∈ cp_Sig_addSign sz0, jSnd sz0 l "Manydoors$Signs" "addSign" 0 (jin q.1 q.2.1) (jlen (jin q.1 q.2.1)) q.2.2 := List.forall_mem_cons.mpr ⟨jget_snd (idx := 15) jc_Sig (k := 0) (by decide) (jg_in (List.mem_of_getElem? (i := 81) (by decide +kernel)) rfl), List.forall_mem_cons.mpr ⟨jget_snd (idx := 21) jc_Sig (k := 1) (by decide) (jg_in (List.mem_of_getElem? (i := 82) (by decide +kernel)) rfl), List.forall_mem_cons.mpr ⟨jputf_snd (idx := 21) jc_Sig (k := 1) (by decide) (jg_in (List.mem_of_getElem? (i := 82) (by decide +kernel)) rfl) rfl, List.forall_mem_cons.mpr ⟨jiast_snd, fun _ h => absurd h List.not_mem_nil⟩⟩⟩⟩
set_option maxRecDepth 20000 in
set_option maxHeartbeats 4000000 in
theorem c_Sig_addSign {l : Launch} (hnt : l.stackTraces = false) (sz0 : Nat) : jCon sz0 l y_Sig_addSign prog_5_method_5_code 2 none 0 0 0 (S_Sig_addSign sz0) := by
  refine jmet (own := "Manydoors$Signs") (nm := "addSign") k_Sig_addSign (cp_Sig_addSign sz0) [] 40 (plainFor_of_name (by decide)) rfl rfl hnt k_Sig_addSign_ok (cp_Sig_addSign_ok hnt sz0) (fun _ h => absurd h List.not_mem_nil) ?_
  intro av M sz P X h hz hfr
  unfold S_Sig_addSign at h
  split at h
  · rename_i o v
    obtain ⟨xs, rm, ⟨g, h1, h2, h3, h4⟩, ho, hv, hl, h⟩ := h
    have hla : (xs ++ g).length = rm := by rw [List.length_append]; exact h3
    refine ⟨rfl, [], ?_, fun pc a h => absurd h List.not_mem_nil⟩
    conv => whnf
    refine ⟨_, _, h1, rfl, ?_⟩
    conv => whnf
    refine ⟨_, _, h1, rfl, ?_⟩
    conv => whnf
    refine Or.inl ⟨_, _, h2, ?_⟩
    conv => whnf
    refine ⟨⟨jrn (by omega), jrn (by omega)⟩, fun c1 => by omega, fun c1 => ?_⟩
    conv => whnf
    refine ⟨_, _, h1, rfl, ?_⟩
    conv => whnf
    refine ⟨_, _, h1, rfl, ?_⟩
    conv => whnf
    refine ⟨_, h2, by omega, ⟨by omega, c1, by omega⟩, ⟨by omega, by omega⟩, fun M1 e1 => ?_⟩
    have h1' : M1 o = some (.inl (4, [vR (o + 1), vI xs.length])) := by rw [e1, jup_n (by omega)]; exact h1
    conv => whnf
    refine ⟨_, _, h1', rfl, ?_⟩
    conv => whnf
    refine ⟨ho, _, h1', fun M2 e2 => ?_⟩
    conv => whnf
    obtain ⟨y, g', rfl⟩ : ∃ y g', g = y :: g' := by
      cases g with
      | nil => simp at h3; omega
      | cons y g' => exact ⟨y, g', rfl⟩
    refine ⟨rfl, h _ ⟨g', ?_, ?_, by simp at h3 ⊢; omega, h4.1, sgn_app h4.2 (sgn_one hv)⟩ fun q q1 q2 => ?_⟩
    · rw [e2, jup_s]; simp
    · rw [e2, jup_n (by omega), e1, jup_s]; simp
    · rw [e2, jup_n q1, e1, jup_n q2]
  · exact h.elim
theorem jfr.rfl' {o : Nat} {M : jM} : jfr o M M := fun _ _ _ => rfl
theorem jfr.tr {o : Nat} {M M1 M2 : jM} (h1 : jfr o M M1) (h2 : jfr o M1 M2) : jfr o M M2 := fun q a b => (h2 q a b).trans (h1 q a b)
theorem sg.fr {o p : Nat} {M M1 : jM} {xs : List Int} {rm : Nat} (h : sg M p xs rm) (hf : jfr o M M1) (hd : p ≠ o ∧ p ≠ o + 1 ∧ p + 1 ≠ o) : sg M1 p xs rm := by
  obtain ⟨g, h1, h2, h3⟩ := h
  exact ⟨g, by rw [hf p (by omega) (by omega)]; exact h1, by rw [hf (p + 1) (by omega) (by omega)]; exact h2, h3⟩
theorem sg.len {M : jM} {o : Nat} {xs : List Int} {rm : Nat} (h : sg M o xs rm) : xs.length ≤ rm ∧ rm ≤ 100000 := by
  obtain ⟨g, h1, h2, h3, h4⟩ := h
  omega
theorem sg.sgn {M : jM} {o : Nat} {xs : List Int} {rm : Nat} (h : sg M o xs rm) : sgn xs := by
  obtain ⟨g, h1, h2, h3, h4, h5⟩ := h
  exact h5
theorem sgA_jr {xs : List Int} (h : sgn xs) (i : Int) : jr (sgA xs i) := by
  unfold sgA
  split
  · rename_i c
    have h1 : i.toNat < xs.length := by omega
    have h2 := h _ (List.getElem_mem h1)
    rw [List.getD_eq_getElem?_getD, List.getElem?_eq_getElem h1]
    exact ⟨by simp; omega, by simp; omega⟩
  · exact ⟨by omega, by omega⟩
theorem sgA_in {xs : List Int} {i : Nat} (h : i < xs.length) : sgA xs (i : Int) = xs[i] := by
  unfold sgA
  rw [if_pos ⟨by omega, by omega⟩]
  simp [List.getD_eq_getElem?_getD, h]
theorem sg.cls {M : jM} {o : Nat} {xs : List Int} {rm : Nat} (h : sg M o xs rm) : ∃ fs, M o = some (.inl (4, fs)) := by
  obtain ⟨g, h1, h2, h3, h4⟩ := h
  exact ⟨_, h1⟩
theorem sg.uniq {M : jM} {o : Nat} {xs ys : List Int} {rm rn : Nat} (h : sg M o xs rm) (h' : sg M o ys rn) : xs = ys ∧ rm = rn := by
  obtain ⟨g, h1, h2, h3, h4⟩ := h
  obtain ⟨g', h1', h2', h3', h4'⟩ := h'
  have e1 := h1.symm.trans h1'
  have e2 := h2.symm.trans h2'
  simp only [Option.some.injEq, Sum.inl.injEq, Sum.inr.injEq, Prod.mk.injEq, List.cons.injEq, true_and, and_true] at e1 e2
  have e3 : xs.length = ys.length := by omega
  have e4 := List.append_inj e2 e3
  exact ⟨e4.1, by rw [← h3, ← h3', e4.1, e4.2]⟩
def S_Sig_init (sz0 : Nat) : jS := fun av M sz P _ => match av with
  | [.inr (.inr (some o)), .inl n] => M o = some (.inl (4, [vN, vI 0])) ∧ sz = o + 1 ∧ sz0 ≤ o ∧ (1 ≤ n ∧ n ≤ 360) ∧ ∀ M' : jM, sg M' o [] n.toNat → jfr o M M' → P none M' (sz + 1)
  | _ => False
def k_Sig_init : List (Nat × jI5) := [(0, .aload_n 0, 1, 0, 0), (1, .invokespecial 3, 4, 0, 0), (4, .aload_n 0, 5, 0, 0), (5, .iload_n 1, 6, 0, 0), (6, .iconst (0), 7, 0, 0), (7, .invokestatic 9, 10, 0, 0), (10, .newarray .int, 12, 0, 0), (12, .putfield 15, 15, 0, 0), (15, .return_, 16, 0, 0)]
theorem k_Sig_init_ok : k_Sig_init.all (jok1 prog_5_method_1_code) = true := by decide +kernel
abbrev y_Sig_init : MethodName := ⟨"Manydoors$Signs", "<init>", "(I)V"⟩
theorem Y_Sig_init : jYok y_Sig_init prog_5_method_1_code 2 none 1 := ⟨(jg_in (List.mem_of_getElem? (i := 76) (by decide +kernel)) rfl), (jg_in (List.mem_of_getElem? (i := 41) (by decide +kernel)) rfl), by decide +kernel, by decide⟩
def cp_Sig_init (sz0 : Nat) : List (Nat × Nat × jTr) := [(1, 15, jputf sz0 4 0 (.array .int)), (4, 9, jcall 2 0 0 (S_Mat_max sz0)), (5, 3, jobj), (10, 10, jnewa .int)]
theorem cp_Sig_init_ok {l : Launch} (hnt : l.stackTraces = false) (sz0 : Nat) : ∀ q ∈ cp_Sig_init sz0, jSnd sz0 l "Manydoors$Signs" "<init>" 1 (jin q.1 q.2.1) (jlen (jin q.1 q.2.1)) q.2.2 := List.forall_mem_cons.mpr ⟨jputF_snd (idx := 15) jc_Sig (k := 0) (by decide) (jg_in (List.mem_of_getElem? (i := 81) (by decide +kernel)) rfl) rfl rfl, List.forall_mem_cons.mpr ⟨jcall_snd (idx := 9) (c_Mat_max hnt sz0) Y_Mat_max (jg_in (List.mem_of_getElem? (i := 79) (by decide +kernel)) rfl) (by omega) (jg_in (List.mem_of_getElem? (i := 78) (by decide +kernel)) rfl), List.forall_mem_cons.mpr ⟨jobj_snd (idx := 3) (jg_in (List.mem_of_getElem? (i := 77) (by decide +kernel)) rfl) (jg_in (List.mem_of_getElem? (i := 63) (by decide +kernel)) rfl) (jg_in (List.mem_of_getElem? (i := 64) (by decide +kernel)) rfl) (by omega), List.forall_mem_cons.mpr ⟨jnewa_snd rfl (Or.inl rfl) (jg_in (List.mem_of_getElem? (i := 88) (by decide +kernel)) rfl), fun _ h => absurd h List.not_mem_nil⟩⟩⟩⟩
set_option maxRecDepth 20000 in
set_option maxHeartbeats 4000000 in
theorem c_Sig_init {l : Launch} (hnt : l.stackTraces = false) (sz0 : Nat) : jCon sz0 l y_Sig_init prog_5_method_1_code 2 none 1 1 360 (S_Sig_init sz0) := by
  refine jmet (own := "Manydoors$Signs") (nm := "<init>") k_Sig_init (cp_Sig_init sz0) [] 20 (plainFor_of_name (by decide)) rfl rfl hnt k_Sig_init_ok (cp_Sig_init_ok hnt sz0) (fun _ h => absurd h List.not_mem_nil) ?_
  intro av M sz P X h hz hfr
  unfold S_Sig_init at h
  split at h
  · rename_i o n
    obtain ⟨h1, rfl, ho, hn, h⟩ := h
    refine ⟨rfl, [], ?_, fun pc a h => absurd h List.not_mem_nil⟩
    conv => whnf
    refine ⟨Nat.zero_le _, Nat.zero_le _, ⟨by omega, by omega⟩, ⟨by omega, by omega⟩, ?_⟩
    rw [if_pos (by omega)]
    conv => whnf
    refine ⟨by omega, by omega, by omega, by omega, fun M1 e0 e1 => ?_⟩
    have h1' : M1 o = some (.inl (4, [vN, vI 0])) := by rw [e1, jup_n (by omega)]; exact h1
    conv => whnf
    refine ⟨ho, _, h1', fun M2 e2 => ?_⟩
    conv => whnf
    refine ⟨rfl, h _ ⟨List.replicate n.toNat 0, ?_, ?_, by simp, by omega, sgn_nil⟩ fun q q1 q2 => ?_⟩
    · rw [e2, jup_s]; rfl
    · rw [e2, jup_n (by omega), e1, jup_s]; rfl
    · rw [e2, jup_n q1, e1, jup_n q2]
  · exact h.elim
def S_Sig_addMany (sz0 : Nat) : jS := fun av M sz P _ => match av with
  | [.inr (.inr (some o)), .inl v, .inl n] => ∃ (xs : List Int) (rm : Nat), sg M o xs rm ∧ sz0 ≤ o ∧ (0 ≤ v ∧ v < 256) ∧ jr n ∧ xs.length + n.toNat ≤ rm ∧ ∀ M' : jM, sg M' o (xs ++ List.replicate n.toNat v) rm → jfr o M M' → P none M' sz
  | _ => False
def k_Sig_addMany : List (Nat × jI5) := [(0, .iconst (0), 1, 0, 0), (1, .istore_n 3, 2, 0, 0), (2, .iload_n 3, 3, 0, 0), (3, .iload_n 2, 4, 0, 0), (4, .if_icmp .ge (14), 7, 18, 0), (7, .aload_n 0, 8, 0, 0), (8, .iload_n 1, 9, 0, 0), (9, .invokevirtual 25, 12, 0, 0), (12, .iinc 3 (1), 15, 0, 1), (15, .goto (-13), 18, 2, 0), (18, .return_, 19, 0, 0)]
theorem k_Sig_addMany_ok : k_Sig_addMany.all (jok1 prog_5_method_6_code) = true := by decide +kernel
abbrev y_Sig_addMany : MethodName := ⟨"Manydoors$Signs", "addMany", "(II)V"⟩
theorem Y_Sig_addMany : jYok y_Sig_addMany prog_5_method_6_code 4 none 2 := ⟨(jg_in (List.mem_of_getElem? (i := 384) (by decide +kernel)) rfl), (jg_in (List.mem_of_getElem? (i := 41) (by decide +kernel)) rfl), by decide +kernel, by decide⟩
def cp_Sig_addMany (sz0 : Nat) : List (Nat × Nat × jTr) := [(3, 25, jcalv 2 0 0 4 (S_Sig_addSign sz0))]
theorem cp_Sig_addMany_ok {l : Launch} (hnt : l.stackTraces = false) (sz0 : Nat) : ∀ q ∈ cp_Sig_addMany sz0, jSnd sz0 l "Manydoors$Signs" "addMany" 1 (jin q.1 q.2.1) (jlen (jin q.1 q.2.1)) q.2.2 := List.forall_mem_cons.mpr ⟨jcalv_snd (idx := 25) (r := (R_Sig, F_Sig, 2)) (c_Sig_addSign hnt sz0) Y_Sig_addSign rfl rfl (jg_in (List.mem_of_getElem? (i := 368) (by decide +kernel)) rfl) (jg_in (List.mem_of_getElem? (i := 369) (by decide +kernel)) rfl) (by omega) (jg_in (List.mem_of_getElem? (i := 385) (by decide +kernel)) rfl), fun _ h => absurd h List.not_mem_nil⟩
set_option maxRecDepth 20000 in
set_option maxHeartbeats 4000000 in
theorem c_Sig_addMany {l : Launch} (hnt : l.stackTraces = false) (sz0 : Nat) : jCon sz0 l y_Sig_addMany prog_5_method_6_code 4 none 1 0 0 (S_Sig_addMany sz0) := by
  refine jmet (own := "Manydoors$Signs") (nm := "addMany") k_Sig_addMany (cp_Sig_addMany sz0) [] 20 (plainFor_of_name (by decide)) rfl rfl hnt k_Sig_addMany_ok (cp_Sig_addMany_ok hnt sz0) (fun _ h => absurd h List.not_mem_nil) ?_
  intro av M sz P X h hz hfr
  unfold S_Sig_addMany at h
  split at h
  · rename_i o v n
    obtain ⟨xs, rm, hg, ho, hv, hn, hl, h⟩ := h
    have hg0 := hg.len
    refine ⟨rfl, [(2, fun k lv st M1 sz1 kc ks => ∃ i : Nat, (i ≤ n.toNat ∧ k = n.toNat - i ∧ lv = [(0, vR o), (1, vI v), (2, vI n), (3, vI (i : Int))] ∧ st = [] ∧ sz1 = sz) ∧ sg M1 o (xs ++ List.replicate i v) rm ∧ jfr o M M1)], ?_, fun pc a hpa => ?_⟩
    · conv => whnf
      exact ⟨_, 0, ⟨Nat.zero_le _, rfl, rfl, rfl, rfl⟩, by simpa using hg, jfr.rfl'⟩
    · cases List.mem_singleton.mp hpa
      rintro k lv st M1 sz1 kc ks ⟨i, ⟨hi, rfl, rfl, rfl, rfl⟩, h1, h2⟩
      conv => whnf
      refine ⟨⟨jrn (by omega), hn⟩, fun c1 => ?_, fun c1 => ?_⟩
      · conv => whnf
        refine ⟨rfl, h M1 ?_ h2⟩
        rw [show n.toNat = i by omega]; exact h1
      · conv => whnf
        refine ⟨h1.cls, Nat.zero_le _, Nat.zero_le _, _, _, h1, ho, hv, by simp; omega, fun M2 g1 g2 => ?_⟩
        conv => whnf
        refine ⟨_, by omega, i + 1, ⟨by omega, rfl, rfl, rfl, rfl⟩, ?_, h2.tr g2⟩
        rw [List.append_assoc] at g1
        rw [List.replicate_succ']
        exact g1
  · exact h.elim
/-- a part of a list, by places -/
def prt (ys : List Int) (a b : Int) : List Int := (ys.take b.toNat).drop a.toNat
theorem prt_len {ys : List Int} {a b : Int} (h : 0 ≤ a) : (prt ys a b).length = (if b ≤ (ys.length : Int) then b else ys.length).toNat - a.toNat := by
  simp only [prt, List.length_drop, List.length_take]
  split <;> omega
def S_Sig_addPart (sz0 : Nat) : jS := fun av M sz P _ => match av with
  | [.inr (.inr (some o)), .inr (.inr (some p)), .inl a, .inl b] => ∃ (xs ys : List Int) (rm rn : Nat), sg M o xs rm ∧ sg M p ys rn ∧ sz0 ≤ o ∧ (0 ≤ a ∧ jr a ∧ 0 ≤ b ∧ jr b) ∧ xs.length + (prt ys a b).length ≤ rm ∧ ∀ M' : jM, sg M' o (xs ++ prt ys a b) rm → jfr o M M' → P none M' sz
  | _ => False
theorem jcpy_end {xs g ys g2 : List Int} {a : Nat} {n : Nat} (h1 : a + n ≤ ys.length) (h2 : n ≤ g.length) : jcpy (ys ++ g2) (xs ++ g) a xs.length n = (xs ++ (ys.drop a).take n) ++ g.drop n := by
  simp only [jcpy]
  rw [List.take_append_of_le_length (Nat.le_refl _), List.take_length, List.drop_append_of_le_length (by omega), List.take_append_of_le_length (by rw [List.length_drop]; omega), List.append_assoc]
  congr 2
  rw [List.drop_append, List.drop_eq_nil_of_le (by omega)]
  simp
def k_Sig_addPart : List (Nat × jI5) := [(0, .iload_n 3, 1, 0, 0), (1, .aload_n 1, 2, 0, 0), (2, .getfield 21, 5, 0, 0), (5, .invokestatic 29, 8, 0, 0), (8, .iload_n 2, 9, 0, 0), (9, .isub, 10, 0, 0), (10, .istore 4, 12, 0, 0), (12, .iload_n 2, 13, 0, 0), (13, .ifCond .lt (23), 16, 36, 0), (16, .iload 4, 18, 0, 0), (18, .ifCond .le (18), 21, 36, 0), (21, .iload 4, 23, 0, 0), (23, .aload_n 0, 24, 0, 0), (24, .getfield 15, 27, 0, 0), (27, .arraylength, 28, 0, 0), (28, .aload_n 0, 29, 0, 0), (29, .getfield 21, 32, 0, 0), (32, .isub, 33, 0, 0), (33, .if_icmp .le (4), 36, 37, 0), (36, .return_, 37, 0, 0), (37, .aload_n 1, 38, 0, 0), (38, .getfield 15, 41, 0, 0), (41, .iload_n 2, 42, 0, 0), (42, .aload_n 0, 43, 0, 0), (43, .getfield 15, 46, 0, 0), (46, .aload_n 0, 47, 0, 0), (47, .getfield 21, 50, 0, 0), (50, .iload 4, 52, 0, 0), (52, .invokestatic 32, 55, 0, 0), (55, .aload_n 0, 56, 0, 0), (56, .dup, 57, 0, 0), (57, .getfield 21, 60, 0, 0), (60, .iload 4, 62, 0, 0), (62, .iadd, 63, 0, 0), (63, .putfield 21, 66, 0, 0), (66, .return_, 67, 0, 0)]
theorem k_Sig_addPart_ok : k_Sig_addPart.all (jok1 prog_5_method_7_code) = true := by decide +kernel
abbrev y_Sig_addPart : MethodName := ⟨"Manydoors$Signs", "addPart", "(LManydoors$Signs;II)V"⟩
theorem Y_Sig_addPart : jYok y_Sig_addPart prog_5_method_7_code 5 none 3 := ⟨(jg_in (List.mem_of_getElem? (i := 316) (by decide +kernel)) rfl), (jg_in (List.mem_of_getElem? (i := 41) (by decide +kernel)) rfl), by decide +kernel, by decide⟩
def cp_Sig_addPart (sz0 : Nat) : List (Nat × Nat × jTr) := [(0, 15, jget 4 0), (0, 21, jget 4 1), (1, 21, jputf sz0 4 1 (.int)), (4, 29, jcall 2 0 0 (S_Mat_min sz0)), (4, 32, jcopy sz0)]
theorem cp_Sig_addPart_ok {l : Launch} (hnt : l.stackTraces = false) (sz0 : Nat) : ∀ q ∈ cp_Sig_addPart sz0, jSnd sz0 l "Manydoors$Signs" "addPart" 1 (jin q.1 q.2.1) (jlen (jin q.1 q.2.1)) q.2.2 := List.forall_mem_cons.mpr ⟨jget_snd (idx := 15) jc_Sig (k := 0) (by decide) (jg_in (List.mem_of_getElem? (i := 81) (by decide +kernel)) rfl), List.forall_mem_cons.mpr ⟨jget_snd (idx := 21) jc_Sig (k := 1) (by decide) (jg_in (List.mem_of_getElem? (i := 82) (by decide +kernel)) rfl), List.forall_mem_cons.mpr ⟨jputf_snd (idx := 21) jc_Sig (k := 1) (by decide) (jg_in (List.mem_of_getElem? (i := 82) (by decide +kernel)) rfl) rfl, List.forall_mem_cons.mpr ⟨jcall_snd (idx := 29) (c_Mat_min hnt sz0) Y_Mat_min (jg_in (List.mem_of_getElem? (i := 318) (by decide +kernel)) rfl) (by omega) (jg_in (List.mem_of_getElem? (i := 317) (by decide +kernel)) rfl), List.forall_mem_cons.mpr ⟨jcopy_snd (idx := 32) (jg_in (List.mem_of_getElem? (i := 320) (by decide +kernel)) rfl) (jg_in (List.mem_of_getElem? (i := 322) (by decide +kernel)) rfl) (jg_in (List.mem_of_getElem? (i := 321) (by decide +kernel)) rfl) (jg_in (List.mem_of_getElem? (i := 53) (by decide +kernel)) rfl) (by omega), fun _ h => absurd h List.not_mem_nil⟩⟩⟩⟩⟩
set_option maxRecDepth 20000 in
set_option maxHeartbeats 4000000 in
theorem c_Sig_addPart {l : Launch} (hnt : l.stackTraces = false) (sz0 : Nat) : jCon sz0 l y_Sig_addPart prog_5_method_7_code 5 none 1 0 0 (S_Sig_addPart sz0) := by
  refine jmet (own := "Manydoors$Signs") (nm := "addPart") k_Sig_addPart (cp_Sig_addPart sz0) [] 60 (plainFor_of_name (by decide)) rfl rfl hnt k_Sig_addPart_ok (cp_Sig_addPart_ok hnt sz0) (fun _ h => absurd h List.not_mem_nil) ?_
  intro av M sz P X h hz hfr
  unfold S_Sig_addPart at h
  split at h
  · rename_i o p a b
    obtain ⟨xs, ys, rm, rn, hg, hg2, ho, ⟨ha, hja, hb0, hjb⟩, hl, h⟩ := h
    have hg0 := hg.len
    have hg20 := hg2.len
    have hpl := prt_len (ys := ys) (b := b) ha
    obtain ⟨g, h1, h2, h3, h4⟩ := hg
    obtain ⟨g2, k1, k2, k3, k4⟩ := hg2
    have hs := hja.2
    have hsa := hja.1
    have hsb := hjb.1
    refine ⟨rfl, [], ?_, fun pc a h => absurd h List.not_mem_nil⟩
    conv => whnf
    refine ⟨_, _, k1, rfl, ?_⟩
    conv => whnf
    refine ⟨Nat.zero_le _, Nat.zero_le _, hjb, jrn (by omega), ?_⟩
    generalize hm : (if b ≤ (ys.length : Int) then b else (ys.length : Int)) = bm at hpl ⊢
    have hbm : bm ≤ (ys.length : Int) ∧ 0 ≤ bm := by split at hm <;> omega
    by_cases c : bm - a ≤ 0
    · have e0 : prt ys a b = [] := by
        apply List.eq_nil_of_length_eq_zero
        omega
      rw [e0, List.append_nil] at h
      conv => whnf
      refine ⟨hja, fun c1 => by omega, fun c1 => ?_⟩
      conv => whnf
      refine ⟨⟨by omega, by omega⟩, fun c2 => ?_, fun c2 => by omega⟩
      conv => whnf
      exact ⟨rfl, h M ⟨g, h1, h2, h3, h4⟩ jfr.rfl'⟩
    · conv => whnf
      refine ⟨hja, fun c1 => by omega, fun c1 => ?_⟩
      conv => whnf
      refine ⟨⟨by omega, by omega⟩, fun c2 => by omega, fun c2 => ?_⟩
      conv => whnf
      refine ⟨_, _, h1, rfl, ?_⟩
      refine Or.inl ⟨_, _, h2, ?_⟩
      conv => whnf
      refine ⟨_, _, h1, rfl, ?_⟩
      conv => whnf
      have hla : (xs ++ g).length = rm := by rw [List.length_append]; exact h3
      have hlb : (ys ++ g2).length = rn := by rw [List.length_append]; exact k3
      refine ⟨⟨⟨by omega, by omega⟩, ⟨by omega, by omega⟩⟩, fun c3 => ?_, fun c3 => by omega⟩
      conv => whnf
      refine ⟨_, _, k1, rfl, ?_⟩
      refine ⟨_, _, h1, rfl, ?_⟩
      conv => whnf
      refine ⟨_, _, h1, rfl, ?_⟩
      conv => whnf
      refine ⟨_, _, k2, h2, by omega, ⟨by omega, by omega, by omega, by omega, by omega, by omega, by omega, by omega, by omega⟩, fun M1 e1 => ?_⟩
      have h1' : M1 o = some (.inl (4, [vR (o + 1), vI xs.length])) := by rw [e1, jup_n (by omega)]; exact h1
      conv => whnf
      refine ⟨_, _, h1', rfl, ?_⟩
      conv => whnf
      refine ⟨ho, _, h1', fun M2 e2 => ?_⟩
      conv => whnf
      have e5 : (prt ys a b).length = (bm - a).toNat := by omega
      have e6 : (ys.drop a.toNat).take (bm - a).toNat = prt ys a b := by
        have e7 : prt ys a b = (ys.take bm.toNat).drop a.toNat := by
          unfold prt
          split at hm
          · rw [hm]
          · rw [List.take_of_length_le (by omega), List.take_of_length_le (by omega)]
        rw [e7, List.drop_take]
        congr 1
        omega
      refine ⟨rfl, h M2 ⟨g.drop (bm - a).toNat, ?_, ?_, by rw [List.length_append, List.length_drop]; omega, h4.1, sgn_app h4.2 (sgn_drop (sgn_take k4.2))⟩ fun q q1 q2 => ?_⟩
      · rw [e2, jup_s, List.length_append, e5]
        simp
        omega
      · rw [e2, jup_n (by omega), e1, jup_s]
        rw [show ((xs.length : Nat) : Int).toNat = xs.length from rfl, jcpy_end (by omega) (by omega), e6]
      · rw [e2, jup_n q1, e1, jup_n q2]
  · exact h.elim
end
section
/-! Signs: what changes and compares it. -/
def S_Sig_addAll (sz0 : Nat) : jS := fun av M sz P _ => match av with
  | [.inr (.inr (some o)), .inr (.inr (some p))] => ∃ (xs ys : List Int) (rm rn : Nat), sg M o xs rm ∧ sg M p ys rn ∧ sz0 ≤ o ∧ xs.length + ys.length ≤ rm ∧ ∀ M' : jM, sg M' o (xs ++ ys) rm → jfr o M M' → P none M' sz
  | _ => False
theorem prt_all {ys : List Int} : prt ys 0 (ys.length : Int) = ys := by
  simp [prt]
def k_Sig_addAll : List (Nat × jI5) := [(0, .aload_n 0, 1, 0, 0), (1, .aload_n 1, 2, 0, 0), (2, .iconst (0), 3, 0, 0), (3, .aload_n 1, 4, 0, 0), (4, .getfield 21, 7, 0, 0), (7, .invokevirtual 38, 10, 0, 0), (10, .return_, 11, 0, 0)]
theorem k_Sig_addAll_ok : k_Sig_addAll.all (jok1 prog_5_method_8_code) = true := by decide +kernel
abbrev y_Sig_addAll : MethodName := ⟨"Manydoors$Signs", "addAll", "(LManydoors$Signs;)V"⟩
theorem Y_Sig_addAll : jYok y_Sig_addAll prog_5_method_8_code 2 none 1 := ⟨(jg_in (List.mem_of_getElem? (i := 312) (by decide +kernel)) rfl), (jg_in (List.mem_of_getElem? (i := 41) (by decide +kernel)) rfl), by decide +kernel, by decide⟩
def cp_Sig_addAll (sz0 : Nat) : List (Nat × Nat × jTr) := [(0, 21, jget 4 1), (3, 38, jcalv 4 0 0 4 (S_Sig_addPart sz0))]
theorem cp_Sig_addAll_ok {l : Launch} (hnt : l.stackTraces = false) (sz0 : Nat) : ∀ q ∈ cp_Sig_addAll sz0, jSnd sz0 l "Manydoors$Signs" "addAll" 2 (jin q.1 q.2.1) (jlen (jin q.1 q.2.1)) q.2.2 := List.forall_mem_cons.mpr ⟨jget_snd (idx := 21) jc_Sig (k := 1) (by decide) (jg_in (List.mem_of_getElem? (i := 82) (by decide +kernel)) rfl), List.forall_mem_cons.mpr ⟨jcalv_snd (idx := 38) (r := (R_Sig, F_Sig, 2)) (c_Sig_addPart hnt sz0) Y_Sig_addPart rfl rfl (jg_in (List.mem_of_getElem? (i := 314) (by decide +kernel)) rfl) (jg_in (List.mem_of_getElem? (i := 315) (by decide +kernel)) rfl) (by omega) (jg_in (List.mem_of_getElem? (i := 313) (by decide +kernel)) rfl), fun _ h => absurd h List.not_mem_nil⟩⟩
set_option maxRecDepth 20000 in
set_option maxHeartbeats 4000000 in
theorem c_Sig_addAll {l : Launch} (hnt : l.stackTraces = false) (sz0 : Nat) : jCon sz0 l y_Sig_addAll prog_5_method_8_code 2 none 2 0 0 (S_Sig_addAll sz0) := by
  refine jmet (own := "Manydoors$Signs") (nm := "addAll") k_Sig_addAll (cp_Sig_addAll sz0) [] 20 (plainFor_of_name (by decide)) rfl rfl hnt k_Sig_addAll_ok (cp_Sig_addAll_ok hnt sz0) (fun _ h => absurd h List.not_mem_nil) ?_
  intro av M sz P X h hz hfr
  unfold S_Sig_addAll at h
  split at h
  · rename_i o p
    obtain ⟨xs, ys, rm, rn, hg, hg2, ho, hl, h⟩ := h
    have hg20 := hg2.len
    obtain ⟨g2, k1, k2⟩ := id hg2
    refine ⟨rfl, [], ?_, fun pc a h => absurd h List.not_mem_nil⟩
    conv => whnf
    refine ⟨_, _, k1, rfl, ?_⟩
    conv => whnf
    refine ⟨hg.cls, Nat.zero_le _, Nat.zero_le _, xs, ys, rm, rn, hg, hg2, ho, ⟨by omega, jr0, by omega, jrn (by omega)⟩, by rw [prt_all]; exact hl, fun M1 g1 e1 => ?_⟩
    rw [prt_all] at g1
    conv => whnf
    exact ⟨rfl, h M1 g1 e1⟩
  · exact h.elim
def S_Sig_becomeLike (sz0 : Nat) : jS := fun av M sz P _ => match av with
  | [.inr (.inr (some o)), .inr (.inr (some p))] => ∃ (xs ys : List Int) (rm rn : Nat), sg M o xs rm ∧ sg M p ys rn ∧ sz0 ≤ o ∧ (p ≠ o ∧ p ≠ o + 1 ∧ p + 1 ≠ o) ∧ ys.length ≤ rm ∧ ∀ M' : jM, sg M' o ys rm → jfr o M M' → P none M' sz
  | _ => False
def k_Sig_becomeLike : List (Nat × jI5) := [(0, .aload_n 0, 1, 0, 0), (1, .invokevirtual 42, 4, 0, 0), (4, .aload_n 0, 5, 0, 0), (5, .aload_n 1, 6, 0, 0), (6, .invokevirtual 45, 9, 0, 0), (9, .return_, 10, 0, 0)]
theorem k_Sig_becomeLike_ok : k_Sig_becomeLike.all (jok1 prog_5_method_9_code) = true := by decide +kernel
abbrev y_Sig_becomeLike : MethodName := ⟨"Manydoors$Signs", "becomeLike", "(LManydoors$Signs;)V"⟩
theorem Y_Sig_becomeLike : jYok y_Sig_becomeLike prog_5_method_9_code 2 none 1 := ⟨(jg_in (List.mem_of_getElem? (i := 304) (by decide +kernel)) rfl), (jg_in (List.mem_of_getElem? (i := 41) (by decide +kernel)) rfl), by decide +kernel, by decide⟩
def cp_Sig_becomeLike (sz0 : Nat) : List (Nat × Nat × jTr) := [(3, 42, jcalv 1 0 0 4 (S_Sig_clear sz0)), (3, 45, jcalv 2 0 0 4 (S_Sig_addAll sz0))]
theorem cp_Sig_becomeLike_ok {l : Launch} (hnt : l.stackTraces = false) (sz0 : Nat) : ∀ q ∈ cp_Sig_becomeLike sz0, jSnd sz0 l "Manydoors$Signs" "becomeLike" 3 (jin q.1 q.2.1) (jlen (jin q.1 q.2.1)) q.2.2 := List.forall_mem_cons.mpr ⟨jcalv_snd (idx := 42) (r := (R_Sig, F_Sig, 2)) (c_Sig_clear hnt sz0) Y_Sig_clear rfl rfl (jg_in (List.mem_of_getElem? (i := 306) (by decide +kernel)) rfl) (jg_in (List.mem_of_getElem? (i := 307) (by decide +kernel)) rfl) (by omega) (jg_in (List.mem_of_getElem? (i := 305) (by decide +kernel)) rfl), List.forall_mem_cons.mpr ⟨jcalv_snd (idx := 45) (r := (R_Sig, F_Sig, 2)) (c_Sig_addAll hnt sz0) Y_Sig_addAll rfl rfl (jg_in (List.mem_of_getElem? (i := 310) (by decide +kernel)) rfl) (jg_in (List.mem_of_getElem? (i := 311) (by decide +kernel)) rfl) (by omega) (jg_in (List.mem_of_getElem? (i := 309) (by decide +kernel)) rfl), fun _ h => absurd h List.not_mem_nil⟩⟩
set_option maxRecDepth 20000 in
set_option maxHeartbeats 4000000 in
theorem c_Sig_becomeLike {l : Launch} (hnt : l.stackTraces = false) (sz0 : Nat) : jCon sz0 l y_Sig_becomeLike prog_5_method_9_code 2 none 3 0 0 (S_Sig_becomeLike sz0) := by
  refine jmet (own := "Manydoors$Signs") (nm := "becomeLike") k_Sig_becomeLike (cp_Sig_becomeLike sz0) [] 20 (plainFor_of_name (by decide)) rfl rfl hnt k_Sig_becomeLike_ok (cp_Sig_becomeLike_ok hnt sz0) (fun _ h => absurd h List.not_mem_nil) ?_
  intro av M sz P X h hz hfr
  unfold S_Sig_becomeLike at h
  split at h
  · rename_i o p
    obtain ⟨xs, ys, rm, rn, hg, hg2, ho, hd, hl, h⟩ := h
    refine ⟨rfl, [], ?_, fun pc a h => absurd h List.not_mem_nil⟩
    conv => whnf
    refine ⟨hg.cls, Nat.zero_le _, Nat.zero_le _, xs, rm, hg, ho, fun M1 g1 e1 => ?_⟩
    conv => whnf
    refine ⟨g1.cls, Nat.zero_le _, Nat.zero_le _, [], ys, rm, rn, g1, hg2.fr e1 hd, ho, by simpa using hl, fun M2 g2 e2 => ?_⟩
    conv => whnf
    exact ⟨rfl, h M2 g2 (e1.tr e2)⟩
  · exact h.elim
def S_Sig_shorten (sz0 : Nat) : jS := fun av M sz P _ => match av with
  | [.inr (.inr (some o)), .inl n] => ∃ (xs : List Int) (rm : Nat), sg M o xs rm ∧ sz0 ≤ o ∧ (0 ≤ n ∧ jr n) ∧ ∀ M' : jM, sg M' o (xs.take n.toNat) rm → jfr o M M' → P none M' sz
  | _ => False
def k_Sig_shorten : List (Nat × jI5) := [(0, .iload_n 1, 1, 0, 0), (1, .ifCond .lt (16), 4, 17, 0), (4, .iload_n 1, 5, 0, 0), (5, .aload_n 0, 6, 0, 0), (6, .getfield 21, 9, 0, 0), (9, .if_icmp .ge (8), 12, 17, 0), (12, .aload_n 0, 13, 0, 0), (13, .iload_n 1, 14, 0, 0), (14, .putfield 21, 17, 0, 0), (17, .return_, 18, 0, 0)]
theorem k_Sig_shorten_ok : k_Sig_shorten.all (jok1 prog_5_method_12_code) = true := by decide +kernel
abbrev y_Sig_shorten : MethodName := ⟨"Manydoors$Signs", "shorten", "(I)V"⟩
theorem Y_Sig_shorten : jYok y_Sig_shorten prog_5_method_12_code 2 none 1 := ⟨(jg_in (List.mem_of_getElem? (i := 628) (by decide +kernel)) rfl), (jg_in (List.mem_of_getElem? (i := 41) (by decide +kernel)) rfl), by decide +kernel, by decide⟩
def cp_Sig_shorten (sz0 : Nat) : List (Nat × Nat × jTr) := [(0, 21, jget 4 1), (1, 21, jputf sz0 4 1 (.int))]
theorem cp_Sig_shorten_ok {l : Launch} (hnt : l.stackTraces = false) (sz0 : Nat) : ∀ q ∈ cp_Sig_shorten sz0, jSnd sz0 l "Manydoors$Signs" "shorten" 0 (jin q.1 q.2.1) (jlen (jin q.1 q.2.1)) q.2.2 := List.forall_mem_cons.mpr ⟨jget_snd (idx := 21) jc_Sig (k := 1) (by decide) (jg_in (List.mem_of_getElem? (i := 82) (by decide +kernel)) rfl), List.forall_mem_cons.mpr ⟨jputf_snd (idx := 21) jc_Sig (k := 1) (by decide) (jg_in (List.mem_of_getElem? (i := 82) (by decide +kernel)) rfl) rfl, fun _ h => absurd h List.not_mem_nil⟩⟩
set_option maxRecDepth 20000 in
set_option maxHeartbeats 4000000 in
theorem c_Sig_shorten {l : Launch} (hnt : l.stackTraces = false) (sz0 : Nat) : jCon sz0 l y_Sig_shorten prog_5_method_12_code 2 none 0 0 0 (S_Sig_shorten sz0) := by
  refine jmet (own := "Manydoors$Signs") (nm := "shorten") k_Sig_shorten (cp_Sig_shorten sz0) [] 20 (plainFor_of_name (by decide)) rfl rfl hnt k_Sig_shorten_ok (cp_Sig_shorten_ok hnt sz0) (fun _ h => absurd h List.not_mem_nil) ?_
  intro av M sz P X h hz hfr
  unfold S_Sig_shorten at h
  split at h
  · rename_i o n
    obtain ⟨xs, rm, hg, ho, ⟨hn, hjn⟩, h⟩ := h
    have hg0 := hg.len
    obtain ⟨g, h1, h2, h3, h4⟩ := id hg
    refine ⟨rfl, [], ?_, fun pc a h => absurd h List.not_mem_nil⟩
    conv => whnf
    refine ⟨hjn, fun c1 => by omega, fun c1 => ?_⟩
    conv => whnf
    refine ⟨_, _, h1, rfl, ?_⟩
    conv => whnf
    refine ⟨⟨hjn, jrn (by omega)⟩, fun c2 => ?_, fun c2 => ?_⟩
    · conv => whnf
      refine ⟨rfl, h M ?_ jfr.rfl'⟩
      rw [List.take_of_length_le (by omega)]
      exact hg
    · conv => whnf
      refine ⟨ho, _, h1, fun M1 e1 => ?_⟩
      conv => whnf
      refine ⟨rfl, h M1 ⟨xs.drop n.toNat ++ g, ?_, ?_, ?_, h4.1, sgn_take h4.2⟩ fun q q1 q2 => ?_⟩
      · rw [e1, jup_s, List.length_take]
        simp
        omega
      · rw [e1, jup_n (by omega), h2, ← List.append_assoc, List.take_append_drop]
      · rw [List.length_append, List.length_take, List.length_drop]; omega
      · rw [e1, jup_n q1]
  · exact h.elim
def S_Sig_replaceSign (sz0 : Nat) : jS := fun av M sz P _ => match av with
  | [.inr (.inr (some o)), .inl i, .inl v] => ∃ (xs : List Int) (rm : Nat), sg M o xs rm ∧ sz0 ≤ o ∧ (0 ≤ i ∧ i < (xs.length : Int)) ∧ (0 ≤ v ∧ v < 256) ∧ ∀ M' : jM, sg M' o (xs.set i.toNat v) rm → jfr o M M' → P (some (vI (if xs.getD i.toNat 0 = v then 0 else 1))) M' sz
  | _ => False
theorem sgn_set {xs : List Int} {i : Nat} {v : Int} (h : sgn xs) (hv : 0 ≤ v ∧ v < 256) : sgn (xs.set i v) := fun x hx => by
  rcases List.mem_or_eq_of_mem_set hx with g | g
  · exact h x g
  · rw [g]; exact hv
def k_Sig_replaceSign : List (Nat × jI5) := [(0, .iload_n 1, 1, 0, 0), (1, .ifCond .lt (20), 4, 21, 0), (4, .iload_n 1, 5, 0, 0), (5, .aload_n 0, 6, 0, 0), (6, .getfield 21, 9, 0, 0), (9, .if_icmp .ge (12), 12, 21, 0), (12, .iload_n 1, 13, 0, 0), (13, .aload_n 0, 14, 0, 0), (14, .getfield 15, 17, 0, 0), (17, .arraylength, 18, 0, 0), (18, .if_icmp .lt (5), 21, 23, 0), (21, .iconst (0), 22, 0, 0), (22, .ireturn, 23, 0, 0), (23, .aload_n 0, 24, 0, 0), (24, .getfield 15, 27, 0, 0), (27, .iload_n 1, 28, 0, 0), (28, .iaload, 29, 0, 0), (29, .iload_n 2, 30, 0, 0), (30, .if_icmp .eq (7), 33, 37, 0), (33, .iconst (1), 34, 0, 1), (34, .goto (4), 37, 38, 0), (37, .iconst (0), 38, 0, 0), (38, .istore_n 3, 39, 0, 0), (39, .aload_n 0, 40, 0, 0), (40, .getfield 15, 43, 0, 0), (43, .iload_n 1, 44, 0, 0), (44, .iload_n 2, 45, 0, 0), (45, .iastore, 46, 0, 0), (46, .iload_n 3, 47, 0, 0), (47, .ireturn, 48, 0, 0)]
theorem k_Sig_replaceSign_ok : k_Sig_replaceSign.all (jok1 prog_5_method_13_code) = true := by decide +kernel
abbrev y_Sig_replaceSign : MethodName := ⟨"Manydoors$Signs", "replaceSign", "(II)Z"⟩
theorem Y_Sig_replaceSign : jYok y_Sig_replaceSign prog_5_method_13_code 4 (some .boolean) 2 := ⟨(jg_in (List.mem_of_getElem? (i := 606) (by decide +kernel)) rfl), (jg_in (List.mem_of_getElem? (i := 41) (by decide +kernel)) rfl), by decide +kernel, by decide⟩
def cp_Sig_replaceSign (sz0 : Nat) : List (Nat × Nat × jTr) := [(0, 15, jget 4 0), (0, 21, jget 4 1), (11, 0, jiast sz0)]
theorem cp_Sig_replaceSign_ok {l : Launch} (hnt : l.stackTraces = false) (sz0 : Nat) : ∀ q ∈ cp_Sig_replaceSign sz0, jSnd sz0 l "Manydoors$Signs" "replaceSign" 0 (jin q.1 q.2.1) (jlen (jin q.1 q.2.1)) q.2.2 := List.forall_mem_cons.mpr ⟨jget_snd (idx := 15) jc_Sig (k := 0) (by decide) (jg_in (List.mem_of_getElem? (i := 81) (by decide +kernel)) rfl), List.forall_mem_cons.mpr ⟨jget_snd (idx := 21) jc_Sig (k := 1) (by decide) (jg_in (List.mem_of_getElem? (i := 82) (by decide +kernel)) rfl), List.forall_mem_cons.mpr ⟨jiast_snd, fun _ h => absurd h List.not_mem_nil⟩⟩⟩
set_option maxRecDepth 20000 in
set_option maxHeartbeats 4000000 in
theorem c_Sig_replaceSign {l : Launch} (hnt : l.stackTraces = false) (sz0 : Nat) : jCon sz0 l y_Sig_replaceSign prog_5_method_13_code 4 (some .boolean) 0 0 0 (S_Sig_replaceSign sz0) := by
  refine jmet (own := "Manydoors$Signs") (nm := "replaceSign") k_Sig_replaceSign (cp_Sig_replaceSign sz0) [] 40 (plainFor_of_name (by decide)) rfl rfl hnt k_Sig_replaceSign_ok (cp_Sig_replaceSign_ok hnt sz0) (fun _ h => absurd h List.not_mem_nil) ?_
  intro av M sz P X h hz hfr
  unfold S_Sig_replaceSign at h
  split at h
  · rename_i o i v
    obtain ⟨xs, rm, hg, ho, ⟨hi, hi2⟩, hv, h⟩ := h
    have hg0 := hg.len
    obtain ⟨g, h1, h2, h3, h4⟩ := id hg
    have hla : (xs ++ g).length = rm := by rw [List.length_append]; exact h3
    have hji : jr i := ⟨by omega, by omega⟩
    refine ⟨rfl, [], ?_, fun pc a h => absurd h List.not_mem_nil⟩
    conv => whnf
    refine ⟨hji, fun c1 => by omega, fun c1 => ?_⟩
    conv => whnf
    refine ⟨_, _, h1, rfl, ?_⟩
    conv => whnf
    refine ⟨⟨hji, jrn (by omega)⟩, fun c2 => by omega, fun c2 => ?_⟩
    conv => whnf
    refine ⟨_, _, h1, rfl, ?_⟩
    refine Or.inl ⟨_, _, h2, ?_⟩
    conv => whnf
    refine ⟨⟨hji, jrn (by omega)⟩, fun c3 => ?_, fun c3 => by omega⟩
    conv => whnf
    refine ⟨_, _, h1, rfl, ?_⟩
    conv => whnf
    refine ⟨_, h2, ⟨hi, by omega, by omega⟩, fun z hz hjz => ?_⟩
    rw [List.getElem?_append_left (by omega)] at hz
    have e0 : xs.getD i.toNat 0 = z := by rw [List.getD_eq_getElem?_getD, hz]; rfl
    rw [e0] at h
    conv => whnf
    refine ⟨⟨hjz, ⟨by omega, by omega⟩⟩, fun c4 => ?_, fun c4 => ?_⟩
    · conv => whnf
      refine ⟨_, _, h1, rfl, ?_⟩
      conv => whnf
      refine ⟨_, h2, by omega, ⟨hi, by omega, by omega⟩, ⟨by omega, by omega⟩, fun M1 e1 => ?_⟩
      conv => whnf
      rw [if_pos c4] at h
      refine ⟨Or.inl rfl, h M1 ⟨g, ?_, ?_, ?_, h4.1, sgn_set h4.2 hv⟩ fun q q1 q2 => ?_⟩
      · rw [e1, jup_n (by omega), h1, List.length_set]
      · rw [e1, jup_s, List.set_append_left _ _ (by omega)]
      · rw [List.length_set]; exact h3
      · rw [e1, jup_n q2]
    · conv => whnf
      refine ⟨_, _, h1, rfl, ?_⟩
      conv => whnf
      refine ⟨_, h2, by omega, ⟨hi, by omega, by omega⟩, ⟨by omega, by omega⟩, fun M1 e1 => ?_⟩
      conv => whnf
      rw [if_neg c4] at h
      refine ⟨Or.inr rfl, h M1 ⟨g, ?_, ?_, ?_, h4.1, sgn_set h4.2 hv⟩ fun q q1 q2 => ?_⟩
      · rw [e1, jup_n (by omega), h1, List.length_set]
      · rw [e1, jup_s, List.set_append_left _ _ (by omega)]
      · rw [List.length_set]; exact h3
      · rw [e1, jup_n q2]
  · exact h.elim
def rmv (xs : List Int) (a b : Nat) : List Int := xs.take a ++ xs.drop b
def S_Sig_removePart (sz0 : Nat) : jS := fun av M sz P _ => match av with
  | [.inr (.inr (some o)), .inl a, .inl b] => ∃ (xs : List Int) (rm : Nat), sg M o xs rm ∧ sz0 ≤ o ∧ (0 ≤ a ∧ jr a ∧ 0 ≤ b ∧ jr b ∧ a ≤ b ∧ a ≤ (xs.length : Int)) ∧ ∀ M' : jM, sg M' o (rmv xs a.toNat b.toNat) rm → jfr o M M' → P none M' sz
  | _ => False
def k_Sig_removePart : List (Nat × jI5) := [(0, .iload_n 2, 1, 0, 0), (1, .aload_n 0, 2, 0, 0), (2, .getfield 21, 5, 0, 0), (5, .invokestatic 29, 8, 0, 0), (8, .istore_n 3, 9, 0, 0), (9, .iload_n 1, 10, 0, 0), (10, .ifCond .lt (8), 13, 18, 0), (13, .iload_n 1, 14, 0, 0), (14, .iload_n 3, 15, 0, 0), (15, .if_icmp .lt (4), 18, 19, 0), (18, .return_, 19, 0, 0), (19, .aload_n 0, 20, 0, 0), (20, .getfield 15, 23, 0, 0), (23, .iload_n 3, 24, 0, 0), (24, .aload_n 0, 25, 0, 0), (25, .getfield 15, 28, 0, 0), (28, .iload_n 1, 29, 0, 0), (29, .aload_n 0, 30, 0, 0), (30, .getfield 21, 33, 0, 0), (33, .iload_n 3, 34, 0, 0), (34, .isub, 35, 0, 0), (35, .invokestatic 32, 38, 0, 0), (38, .aload_n 0, 39, 0, 0), (39, .dup, 40, 0, 0), (40, .getfield 21, 43, 0, 0), (43, .iload_n 3, 44, 0, 0), (44, .iload_n 1, 45, 0, 0), (45, .isub, 46, 0, 0), (46, .isub, 47, 0, 0), (47, .putfield 21, 50, 0, 0), (50, .return_, 51, 0, 0)]
theorem k_Sig_removePart_ok : k_Sig_removePart.all (jok1 prog_5_method_11_code) = true := by decide +kernel
abbrev y_Sig_removePart : MethodName := ⟨"Manydoors$Signs", "removePart", "(II)V"⟩
theorem Y_Sig_removePart : jYok y_Sig_removePart prog_5_method_11_code 4 none 2 := ⟨(jg_in (List.mem_of_getElem? (i := 588) (by decide +kernel)) rfl), (jg_in (List.mem_of_getElem? (i := 41) (by decide +kernel)) rfl), by decide +kernel, by decide⟩
def cp_Sig_removePart (sz0 : Nat) : List (Nat × Nat × jTr) := [(0, 15, jget 4 0), (0, 21, jget 4 1), (1, 21, jputf sz0 4 1 (.int)), (4, 29, jcall 2 0 0 (S_Mat_min sz0)), (4, 32, jcopy sz0)]
theorem cp_Sig_removePart_ok {l : Launch} (hnt : l.stackTraces = false) (sz0 : Nat) : ∀ q ∈ cp_Sig_removePart sz0, jSnd sz0 l "Manydoors$Signs" "removePart" 1 (jin q.1 q.2.1) (jlen (jin q.1 q.2.1)) q.2.2 := List.forall_mem_cons.mpr ⟨jget_snd (idx := 15) jc_Sig (k := 0) (by decide) (jg_in (List.mem_of_getElem? (i := 81) (by decide +kernel)) rfl), List.forall_mem_cons.mpr ⟨jget_snd (idx := 21) jc_Sig (k := 1) (by decide) (jg_in (List.mem_of_getElem? (i := 82) (by decide +kernel)) rfl), List.forall_mem_cons.mpr ⟨jputf_snd (idx := 21) jc_Sig (k := 1) (by decide) (jg_in (List.mem_of_getElem? (i := 82) (by decide +kernel)) rfl) rfl, List.forall_mem_cons.mpr ⟨jcall_snd (idx := 29) (c_Mat_min hnt sz0) Y_Mat_min (jg_in (List.mem_of_getElem? (i := 318) (by decide +kernel)) rfl) (by omega) (jg_in (List.mem_of_getElem? (i := 317) (by decide +kernel)) rfl), List.forall_mem_cons.mpr ⟨jcopy_snd (idx := 32) (jg_in (List.mem_of_getElem? (i := 320) (by decide +kernel)) rfl) (jg_in (List.mem_of_getElem? (i := 322) (by decide +kernel)) rfl) (jg_in (List.mem_of_getElem? (i := 321) (by decide +kernel)) rfl) (jg_in (List.mem_of_getElem? (i := 53) (by decide +kernel)) rfl) (by omega), fun _ h => absurd h List.not_mem_nil⟩⟩⟩⟩⟩
set_option maxRecDepth 20000 in
set_option maxHeartbeats 4000000 in
theorem c_Sig_removePart {l : Launch} (hnt : l.stackTraces = false) (sz0 : Nat) : jCon sz0 l y_Sig_removePart prog_5_method_11_code 4 none 1 0 0 (S_Sig_removePart sz0) := by
  refine jmet (own := "Manydoors$Signs") (nm := "removePart") k_Sig_removePart (cp_Sig_removePart sz0) [] 40 (plainFor_of_name (by decide)) rfl rfl hnt k_Sig_removePart_ok (cp_Sig_removePart_ok hnt sz0) (fun _ h => absurd h List.not_mem_nil) ?_
  intro av M sz P X h hz hfr
  unfold S_Sig_removePart at h
  split at h
  · rename_i o a b
    obtain ⟨xs, rm, hg, ho, ⟨ha, hja, hb, hjb, hab, hal⟩, h⟩ := h
    have hg0 := hg.len
    obtain ⟨g, h1, h2, h3, h4⟩ := id hg
    have hla : (xs ++ g).length = rm := by rw [List.length_append]; exact h3
    have hs := hja.2
    have hs2 := hjb.2
    refine ⟨rfl, [], ?_, fun pc a h => absurd h List.not_mem_nil⟩
    conv => whnf
    refine ⟨_, _, h1, rfl, ?_⟩
    conv => whnf
    refine ⟨Nat.zero_le _, Nat.zero_le _, hjb, jrn (by omega), ?_⟩
    generalize hm : (if b ≤ (xs.length : Int) then b else (xs.length : Int)) = bm
    have hbm : bm ≤ (xs.length : Int) ∧ a ≤ bm ∧ 0 ≤ bm := by split at hm <;> omega
    have e0 : rmv xs a.toNat b.toNat = xs.take a.toNat ++ xs.drop bm.toNat := by
      unfold rmv
      split at hm
      · rw [hm]
      · rw [List.drop_eq_nil_of_le (by omega), List.drop_eq_nil_of_le (by omega)]
    rw [e0] at h
    conv => whnf
    refine ⟨hja, fun c1 => by omega, fun c1 => ?_⟩
    conv => whnf
    refine ⟨⟨hja, ⟨by omega, by omega⟩⟩, fun c2 => ?_, fun c2 => ?_⟩
    · conv => whnf
      refine ⟨_, _, h1, rfl, ?_⟩
      refine ⟨_, _, h1, rfl, ?_⟩
      conv => whnf
      refine ⟨_, _, h1, rfl, ?_⟩
      conv => whnf
      refine ⟨_, _, h2, h2, by omega, ⟨by omega, by omega, by omega, by omega, by omega, by omega, by omega, by omega, by omega⟩, fun M1 e1 => ?_⟩
      have h1' : M1 o = some (.inl (4, [vR (o + 1), vI xs.length])) := by rw [e1, jup_n (by omega)]; exact h1
      conv => whnf
      refine ⟨_, _, h1', rfl, ?_⟩
      conv => whnf
      refine ⟨ho, _, h1', fun M2 e2 => ?_⟩
      conv => whnf
      have e3 : (xs.take a.toNat ++ xs.drop bm.toNat).length = xs.length - (bm.toNat - a.toNat) := by rw [List.length_append, List.length_take, List.length_drop]; omega
      refine ⟨rfl, h M2 ⟨(xs ++ g).drop (xs.length - (bm.toNat - a.toNat)), ?_, ?_, ?_, h4.1, sgn_app (sgn_take h4.2) (sgn_drop h4.2)⟩ fun q q1 q2 => ?_⟩
      · rw [e2, jup_s, e3]
        simp
        omega
      · rw [e2, jup_n (by omega), e1, jup_s]
        congr 4
        unfold jcpy
        have y1 : (xs ++ g).take a.toNat = xs.take a.toNat := List.take_append_of_le_length (by omega)
        have y2 : ((xs ++ g).drop bm.toNat).take ((xs.length : Int) - bm).toNat = xs.drop bm.toNat := by
          rw [List.drop_append_of_le_length (by omega), List.take_append_of_le_length (by rw [List.length_drop]; omega), List.take_of_length_le (by rw [List.length_drop]; omega)]
        have y3 : a.toNat + ((xs.length : Int) - bm).toNat = xs.length - (bm.toNat - a.toNat) := by omega
        rw [y1, y2, y3, List.append_assoc]
      · rw [e3, List.length_drop]; omega
      · rw [e2, jup_n q1, e1, jup_n q2]
    · conv => whnf
      refine ⟨rfl, h M ?_ jfr.rfl'⟩
      rw [show bm.toNat = a.toNat by omega, List.take_append_drop]
      exact hg
  · exact h.elim
def ins (xs ys : List Int) (p : Nat) : List Int := xs.take p ++ (ys ++ xs.drop p)
def S_Sig_insertAll (sz0 : Nat) : jS := fun av M sz P _ => match av with
  | [.inr (.inr (some o)), .inl a, .inr (.inr (some p))] => ∃ (xs ys : List Int) (rm rn : Nat), sg M o xs rm ∧ sg M p ys rn ∧ sz0 ≤ o ∧ (p ≠ o ∧ p ≠ o + 1 ∧ p + 1 ≠ o) ∧ (0 ≤ a ∧ a ≤ (xs.length : Int)) ∧ xs.length + ys.length ≤ rm ∧ ∀ M' : jM, sg M' o (ins xs ys a.toNat) rm → jfr o M M' → P none M' sz
  | _ => False
def k_Sig_insertAll : List (Nat × jI5) := [(0, .aload_n 2, 1, 0, 0), (1, .getfield 21, 4, 0, 0), (4, .istore_n 3, 5, 0, 0), (5, .iload_n 1, 6, 0, 0), (6, .ifCond .lt (25), 9, 31, 0), (9, .iload_n 1, 10, 0, 0), (10, .aload_n 0, 11, 0, 0), (11, .getfield 21, 14, 0, 0), (14, .if_icmp .gt (17), 17, 31, 0), (17, .iload_n 3, 18, 0, 0), (18, .aload_n 0, 19, 0, 0), (19, .getfield 15, 22, 0, 0), (22, .arraylength, 23, 0, 0), (23, .aload_n 0, 24, 0, 0), (24, .getfield 21, 27, 0, 0), (27, .isub, 28, 0, 0), (28, .if_icmp .le (4), 31, 32, 0), (31, .return_, 32, 0, 0), (32, .aload_n 0, 33, 0, 0), (33, .getfield 15, 36, 0, 0), (36, .iload_n 1, 37, 0, 0), (37, .aload_n 0, 38, 0, 0), (38, .getfield 15, 41, 0, 0), (41, .iload_n 1, 42, 0, 0), (42, .iload_n 3, 43, 0, 0), (43, .iadd, 44, 0, 0), (44, .aload_n 0, 45, 0, 0), (45, .getfield 21, 48, 0, 0), (48, .iload_n 1, 49, 0, 0), (49, .isub, 50, 0, 0), (50, .invokestatic 32, 53, 0, 0), (53, .aload_n 2, 54, 0, 0), (54, .getfield 15, 57, 0, 0), (57, .iconst (0), 58, 0, 0), (58, .aload_n 0, 59, 0, 0), (59, .getfield 15, 62, 0, 0), (62, .iload_n 1, 63, 0, 0), (63, .iload_n 3, 64, 0, 0), (64, .invokestatic 32, 67, 0, 0), (67, .aload_n 0, 68, 0, 0), (68, .dup, 69, 0, 0), (69, .getfield 21, 72, 0, 0), (72, .iload_n 3, 73, 0, 0), (73, .iadd, 74, 0, 0), (74, .putfield 21, 77, 0, 0), (77, .return_, 78, 0, 0)]
theorem k_Sig_insertAll_ok : k_Sig_insertAll.all (jok1 prog_5_method_10_code) = true := by decide +kernel
abbrev y_Sig_insertAll : MethodName := ⟨"Manydoors$Signs", "insertAll", "(ILManydoors$Signs;)V"⟩
theorem Y_Sig_insertAll : jYok y_Sig_insertAll prog_5_method_10_code 4 none 2 := ⟨(jg_in (List.mem_of_getElem? (i := 563) (by decide +kernel)) rfl), (jg_in (List.mem_of_getElem? (i := 41) (by decide +kernel)) rfl), by decide +kernel, by decide⟩
def cp_Sig_insertAll (sz0 : Nat) : List (Nat × Nat × jTr) := [(0, 15, jget 4 0), (0, 21, jget 4 1), (1, 21, jputf sz0 4 1 (.int)), (4, 32, jcopy sz0)]
theorem cp_Sig_insertAll_ok {l : Launch} (hnt : l.stackTraces = false) (sz0 : Nat) : ∀ q ∈ cp_Sig_insertAll sz0, jSnd sz0 l "Manydoors$Signs" "insertAll" 1 (jin q.1 q.2.1) (jlen (jin q.1 q.2.1)) q.2.2 := List.forall_mem_cons.mpr ⟨jget_snd (idx := 15) jc_Sig (k := 0) (by decide) (jg_in (List.mem_of_getElem? (i := 81) (by decide +kernel)) rfl), List.forall_mem_cons.mpr ⟨jget_snd (idx := 21) jc_Sig (k := 1) (by decide) (jg_in (List.mem_of_getElem? (i := 82) (by decide +kernel)) rfl), List.forall_mem_cons.mpr ⟨jputf_snd (idx := 21) jc_Sig (k := 1) (by decide) (jg_in (List.mem_of_getElem? (i := 82) (by decide +kernel)) rfl) rfl, List.forall_mem_cons.mpr ⟨jcopy_snd (idx := 32) (jg_in (List.mem_of_getElem? (i := 320) (by decide +kernel)) rfl) (jg_in (List.mem_of_getElem? (i := 322) (by decide +kernel)) rfl) (jg_in (List.mem_of_getElem? (i := 321) (by decide +kernel)) rfl) (jg_in (List.mem_of_getElem? (i := 53) (by decide +kernel)) rfl) (by omega), fun _ h => absurd h List.not_mem_nil⟩⟩⟩⟩
set_option maxRecDepth 20000 in
set_option maxHeartbeats 4000000 in
theorem c_Sig_insertAll {l : Launch} (hnt : l.stackTraces = false) (sz0 : Nat) : jCon sz0 l y_Sig_insertAll prog_5_method_10_code 4 none 1 0 0 (S_Sig_insertAll sz0) := by
  refine jmet (own := "Manydoors$Signs") (nm := "insertAll") k_Sig_insertAll (cp_Sig_insertAll sz0) [] 60 (plainFor_of_name (by decide)) rfl rfl hnt k_Sig_insertAll_ok (cp_Sig_insertAll_ok hnt sz0) (fun _ h => absurd h List.not_mem_nil) ?_
  intro av M sz P X h hz hfr
  unfold S_Sig_insertAll at h
  split at h
  · rename_i o a p
    obtain ⟨xs, ys, rm, rn, hg, hg2, ho, hd, ⟨ha, ha2⟩, hl, h⟩ := h
    have hg0 := hg.len
    have hg20 := hg2.len
    obtain ⟨g, h1, h2, h3, h4⟩ := id hg
    obtain ⟨g2, k1, k2, k3, k4⟩ := id hg2
    have hla : (xs ++ g).length = rm := by rw [List.length_append]; exact h3
    have hlb : (ys ++ g2).length = rn := by rw [List.length_append]; exact k3
    have hja : jr a := ⟨by omega, by omega⟩
    refine ⟨rfl, [], ?_, fun pc a h => absurd h List.not_mem_nil⟩
    conv => whnf
    refine ⟨_, _, k1, rfl, ?_⟩
    conv => whnf
    refine ⟨hja, fun c1 => by omega, fun c1 => ?_⟩
    conv => whnf
    refine ⟨_, _, h1, rfl, ?_⟩
    conv => whnf
    refine ⟨⟨hja, jrn (by omega)⟩, fun c2 => by omega, fun c2 => ?_⟩
    conv => whnf
    refine ⟨_, _, h1, rfl, ?_⟩
    refine Or.inl ⟨_, _, h2, ?_⟩
    conv => whnf
    refine ⟨_, _, h1, rfl, ?_⟩
    conv => whnf
    refine ⟨⟨jrn (by omega), ⟨by omega, by omega⟩⟩, fun c3 => ?_, fun c3 => by omega⟩
    conv => whnf
    refine ⟨_, _, h1, rfl, ?_⟩
    refine ⟨_, _, h1, rfl, ?_⟩
    conv => whnf
    refine ⟨_, _, h1, rfl, ?_⟩
    conv => whnf
    refine ⟨_, _, h2, h2, by omega, ⟨by omega, by omega, by omega, by omega, by omega, by omega, by omega, by omega, by omega⟩, fun M1 e1 => ?_⟩
    have h1' : M1 o = some (.inl (4, [vR (o + 1), vI xs.length])) := by rw [e1, jup_n (by omega)]; exact h1
    have k1' : M1 p = some (.inl (4, [vR (p + 1), vI ys.length])) := by rw [e1, jup_n (by omega)]; exact k1
    have k2' : M1 (p + 1) = some (.inr (.inl (.int, ys ++ g2))) := by rw [e1, jup_n (by omega)]; exact k2
    generalize hzs : jcpy (xs ++ g) (xs ++ g) a.toNat (a + (ys.length : Int)).toNat ((xs.length : Int) - a).toNat = zs at e1
    have hzl : zs.length = rm := by rw [← hzs, jcpy_len (by omega) (by omega)]; exact hla
    have h2' : M1 (o + 1) = some (.inr (.inl (.int, zs))) := by rw [e1, jup_s]
    conv => whnf
    refine ⟨_, _, k1', rfl, ?_⟩
    conv => whnf
    refine ⟨_, _, h1', rfl, ?_⟩
    conv => whnf
    refine ⟨_, _, k2', h2', by omega, ⟨by omega, by omega, by omega, by omega, by omega, by omega, by omega, by omega, by omega⟩, fun M2 e2 => ?_⟩
    have h1'' : M2 o = some (.inl (4, [vR (o + 1), vI xs.length])) := by rw [e2, jup_n (by omega)]; exact h1'
    conv => whnf
    refine ⟨_, _, h1'', rfl, ?_⟩
    conv => whnf
    refine ⟨ho, _, h1'', fun M3 e3 => ?_⟩
    conv => whnf
    have hil : (ins xs ys a.toNat).length = xs.length + ys.length := by unfold ins; rw [List.length_append, List.length_append, List.length_take, List.length_drop]; omega
    refine ⟨rfl, h M3 ⟨(xs ++ g).drop (xs.length + ys.length), ?_, ?_, ?_, h4.1, sgn_app (sgn_take h4.2) (sgn_app k4.2 (sgn_drop h4.2))⟩ fun q q1 q2 => ?_⟩
    · rw [e3, jup_s, hil]
      simp
    · rw [e3, jup_n (by omega), e2, jup_s, ← hzs]
      congr 4
      unfold jcpy ins
      simp only [Int.toNat_zero, List.drop_zero]
      have z1 : (a + (ys.length : Int)).toNat = a.toNat + ys.length := by omega
      have z2 : ((ys.length : Nat) : Int).toNat = ys.length := rfl
      have z3 : ((xs.length : Int) - a).toNat = xs.length - a.toNat := by omega
      rw [z1, z2, z3]
      have y1 : List.take a.toNat (List.take (a.toNat + ys.length) (xs ++ g) ++ (List.take (xs.length - a.toNat) (List.drop a.toNat (xs ++ g)) ++ List.drop (a.toNat + ys.length + (xs.length - a.toNat)) (xs ++ g))) = xs.take a.toNat := by
        rw [List.take_append_of_le_length (by rw [List.length_take]; omega), List.take_take, Nat.min_eq_left (by omega), List.take_append_of_le_length (by omega)]
      have y2 : List.drop (a.toNat + ys.length) (List.take (a.toNat + ys.length) (xs ++ g) ++ (List.take (xs.length - a.toNat) (List.drop a.toNat (xs ++ g)) ++ List.drop (a.toNat + ys.length + (xs.length - a.toNat)) (xs ++ g))) = xs.drop a.toNat ++ (xs ++ g).drop (xs.length + ys.length) := by
        rw [List.drop_append, List.drop_eq_nil_of_le (by rw [List.length_take]; omega), List.nil_append]
        have y3 : a.toNat + ys.length - (List.take (a.toNat + ys.length) (xs ++ g)).length = 0 := by rw [List.length_take]; omega
        rw [y3, List.drop_zero, List.drop_append_of_le_length (by omega), List.take_append_of_le_length (by rw [List.length_drop]; omega), List.take_of_length_le (by rw [List.length_drop]; omega)]
        congr 2
        omega
      rw [y1, y2, List.take_append_of_le_length (Nat.le_refl _), List.take_length]
      simp only [List.append_assoc]
    · rw [hil, List.length_drop]; omega
    · rw [e3, jup_n q1, e2, jup_n q2, e1, jup_n q2]
  · exact h.elim
end
section
/-! Signs: turned, compared, sought. -/
def S_Sig_turnRound (sz0 : Nat) : jS := fun av M sz P _ => match av with
  | [.inr (.inr (some o))] => ∃ (xs : List Int) (rm : Nat), sg M o xs rm ∧ sz0 ≤ o ∧ ∀ M' : jM, sg M' o xs.reverse rm → jfr o M M' → P none M' sz
  | _ => False
theorem rev_of {xs zs : List Int} {l : Nat} (h1 : zs.length = xs.length) (h2 : ∀ j : Nat, j < xs.length → zs.getD j 0 = if j < l ∨ xs.length - l ≤ j then xs.getD (xs.length - 1 - j) 0 else xs.getD j 0) (h3 : xs.length ≤ 2 * l + 1) : zs = xs.reverse := by
  apply List.ext_getElem
  · rw [h1, List.length_reverse]
  · intro j c1 c2
    have c3 : j < xs.length := by omega
    have h4 := h2 j c3
    rw [List.getD_eq_getElem?_getD, List.getElem?_eq_getElem c1] at h4
    rw [List.getElem_reverse]
    split at h4
    · rw [List.getD_eq_getElem?_getD, List.getElem?_eq_getElem (by omega)] at h4
      exact h4
    · rw [List.getD_eq_getElem?_getD, List.getElem?_eq_getElem c3] at h4
      have e : xs.length - 1 - j = j := by omega
      simp only [e]
      exact h4
def k_Sig_turnRound : List (Nat × jI5) := [(0, .aload_n 0, 1, 0, 0), (1, .getfield 21, 4, 0, 0), (4, .iconst (1), 5, 0, 1), (5, .isub, 6, 0, 0), (6, .istore_n 1, 7, 0, 0), (7, .iconst (0), 8, 0, 0), (8, .istore_n 2, 9, 0, 0), (9, .iload_n 2, 10, 0, 0), (10, .iload_n 1, 11, 0, 0), (11, .if_icmp .ge (47), 14, 58, 0), (14, .iload_n 1, 15, 0, 0), (15, .aload_n 0, 16, 0, 0), (16, .getfield 15, 19, 0, 0), (19, .arraylength, 20, 0, 0), (20, .if_icmp .ge (38), 23, 58, 0), (23, .aload_n 0, 24, 0, 0), (24, .getfield 15, 27, 0, 0), (27, .iload_n 2, 28, 0, 0), (28, .iaload, 29, 0, 0), (29, .istore_n 3, 30, 0, 0), (30, .aload_n 0, 31, 0, 0), (31, .getfield 15, 34, 0, 0), (34, .iload_n 2, 35, 0, 0), (35, .aload_n 0, 36, 0, 0), (36, .getfield 15, 39, 0, 0), (39, .iload_n 1, 40, 0, 0), (40, .iaload, 41, 0, 0), (41, .iastore, 42, 0, 0), (42, .aload_n 0, 43, 0, 0), (43, .getfield 15, 46, 0, 0), (46, .iload_n 1, 47, 0, 0), (47, .iload_n 3, 48, 0, 0), (48, .iastore, 49, 0, 0), (49, .iinc 1 (-1), 52, 0, (-1)), (52, .iinc 2 (1), 55, 0, 1), (55, .goto (-46), 58, 9, 0), (58, .return_, 59, 0, 0)]
theorem k_Sig_turnRound_ok : k_Sig_turnRound.all (jok1 prog_5_method_14_code) = true := by decide +kernel
abbrev y_Sig_turnRound : MethodName := ⟨"Manydoors$Signs", "turnRound", "()V"⟩
theorem Y_Sig_turnRound : jYok y_Sig_turnRound prog_5_method_14_code 4 none 0 := ⟨(jg_in (List.mem_of_getElem? (i := 617) (by decide +kernel)) rfl), (jg_in (List.mem_of_getElem? (i := 41) (by decide +kernel)) rfl), by decide +kernel, by decide⟩
def cp_Sig_turnRound (sz0 : Nat) : List (Nat × Nat × jTr) := [(0, 15, jget 4 0), (0, 21, jget 4 1), (11, 0, jiast sz0)]
theorem cp_Sig_turnRound_ok {l : Launch} (hnt : l.stackTraces = false) (sz0 : Nat) : ∀ q ∈ cp_Sig_turnRound sz0, jSnd sz0 l "Manydoors$Signs" "turnRound" 0 (jin q.1 q.2.1) (jlen (jin q.1 q.2.1)) q.2.2 := List.forall_mem_cons.mpr ⟨jget_snd (idx := 15) jc_Sig (k := 0) (by decide) (jg_in (List.mem_of_getElem? (i := 81) (by decide +kernel)) rfl), List.forall_mem_cons.mpr ⟨jget_snd (idx := 21) jc_Sig (k := 1) (by decide) (jg_in (List.mem_of_getElem? (i := 82) (by decide +kernel)) rfl), List.forall_mem_cons.mpr ⟨jiast_snd, fun _ h => absurd h List.not_mem_nil⟩⟩⟩
set_option maxRecDepth 20000 in
set_option maxHeartbeats 4000000 in
theorem c_Sig_turnRound {l : Launch} (hnt : l.stackTraces = false) (sz0 : Nat) : jCon sz0 l y_Sig_turnRound prog_5_method_14_code 4 none 0 0 0 (S_Sig_turnRound sz0) := by
  refine jmet (own := "Manydoors$Signs") (nm := "turnRound") k_Sig_turnRound (cp_Sig_turnRound sz0) [] 50 (plainFor_of_name (by decide)) rfl rfl hnt k_Sig_turnRound_ok (cp_Sig_turnRound_ok hnt sz0) (fun _ h => absurd h List.not_mem_nil) ?_
  intro av M sz P X h hz hfr
  unfold S_Sig_turnRound at h
  split at h
  · rename_i o
    obtain ⟨xs, rm, hg, ho, h⟩ := h
    have hg0 := hg.len
    obtain ⟨g, h1, h2, h3, h4⟩ := id hg
    refine ⟨rfl, [(9, fun k lv st M1 sz1 kc ks => ∃ (l : Nat) (zs : List Int), (2 * l ≤ xs.length + 1 ∧ k = xs.length - l ∧ lv = [(0, vR o), (1, vI ((xs.length : Int) - 1 - l)), (2, vI (l : Int))] ++ lv.drop 3 ∧ st = [] ∧ sz1 = sz) ∧ (lv.drop 3 = [] ∨ ∃ w : Int, lv.drop 3 = [(3, vI w)]) ∧ M1 o = some (.inl (4, [vR (o + 1), vI xs.length])) ∧ M1 (o + 1) = some (.inr (.inl (.int, zs ++ g))) ∧ zs.length = xs.length ∧ (∀ j : Nat, j < xs.length → zs.getD j 0 = if j < l ∨ xs.length - l ≤ j then xs.getD (xs.length - 1 - j) 0 else xs.getD j 0) ∧ jfr o M M1)], ?_, fun pc a hpa => ?_⟩
    · conv => whnf
      refine ⟨_, _, h1, rfl, ?_⟩
      conv => whnf
      refine ⟨_, 0, xs, ⟨by omega, rfl, ?_, rfl, rfl⟩, Or.inl rfl, h1, h2, rfl, fun j hj => ?_, jfr.rfl'⟩
      · simp [jst, jl0, jct2]
      · rw [if_neg (by omega)]
    · cases List.mem_singleton.mp hpa
      rintro k lv st M1 sz1 kc ks ⟨l, zs, ⟨hl, rfl, hlv, rfl, rfl⟩, hlv2, g1, g2, g3, g4, g5⟩
      generalize hw : lv.drop 3 = w3 at hlv hlv2
      subst hlv
      have hzl : (zs ++ g).length = rm := by rw [List.length_append]; omega
      rcases hlv2 with rfl | ⟨w, rfl⟩
      all_goals
        conv => whnf
        refine ⟨⟨jrn (by omega), ⟨by omega, by omega⟩⟩, fun c1 => ?_, fun c1 => ?_⟩
        · conv => whnf
          refine ⟨rfl, h M1 ⟨g, ?_, ?_, by rw [List.length_reverse]; exact h3, h4.1, fun x hx => h4.2 x (List.mem_reverse.mp hx)⟩ g5⟩
          · rw [g1, List.length_reverse]
          · rw [g2, rev_of g3 g4 (by omega)]
        · conv => whnf
          refine ⟨_, _, g1, rfl, ?_⟩
          refine Or.inl ⟨_, _, g2, ?_⟩
          conv => whnf
          refine ⟨⟨⟨by omega, by omega⟩, jrn (by omega)⟩, fun c2 => by omega, fun c2 => ?_⟩
          conv => whnf
          refine ⟨_, _, g1, rfl, ?_⟩
          conv => whnf
          refine ⟨_, g2, ⟨by omega, by omega, by omega⟩, fun v1 hv1 hj1 => ?_⟩
          rw [List.getElem?_append_left (by omega)] at hv1
          conv => whnf
          refine ⟨_, _, g1, rfl, ?_⟩
          refine ⟨_, _, g1, rfl, ?_⟩
          conv => whnf
          refine ⟨_, g2, ⟨by omega, by omega, by omega⟩, fun v2 hv2 hj2 => ?_⟩
          rw [List.getElem?_append_left (by omega)] at hv2
          conv => whnf
          refine ⟨_, g2, by omega, ⟨by omega, by omega, by omega⟩, hj2, fun M2 e2 => ?_⟩
          have f1 : M2 o = some (.inl (4, [vR (o + 1), vI xs.length])) := by rw [e2, jup_n (by omega)]; exact g1
          have f2 : M2 (o + 1) = some (.inr (.inl (.int, zs.set l v2 ++ g))) := by
            rw [e2, jup_s, show ((l : Nat) : Int).toNat = l from rfl, List.set_append_left _ _ (by omega)]
          have hl2 : (zs.set l v2 ++ g).length = rm := by rw [List.length_append, List.length_set]; omega
          conv => whnf
          refine ⟨_, _, f1, rfl, ?_⟩
          conv => whnf
          refine ⟨_, f2, by omega, ⟨by omega, by omega, by omega⟩, hj1, fun M3 e3 => ?_⟩
          have e9 : ((xs.length : Int) - 1 - (l : Int)).toNat = xs.length - 1 - l := by omega
          rw [e9] at e3 hv2
          conv => whnf
          refine ⟨_, ?_, l + 1, (zs.set l v2).set (xs.length - 1 - l) v1, ⟨by omega, rfl, ?_, rfl, rfl⟩, Or.inr ⟨v1, rfl⟩, ?_, ?_, by rw [List.length_set, List.length_set]; exact g3, fun j hj => ?_, fun q q1 q2 => ?_⟩
          · omega
          · have e8 : (xs.length : Int) - 1 - (l : Int) + -1 = (xs.length : Int) - 1 - ((l + 1 : Nat) : Int) := by omega
            simp [jst, jl0, jct2, jdl, e8]
          · rw [e3, jup_n (by omega)]; exact f1
          · rw [e3, jup_s, List.set_append_left _ _ (by rw [List.length_set]; omega)]
          · have a1 : zs.getD l 0 = v1 := by rw [List.getD_eq_getElem?_getD, show l = ((l : Nat) : Int).toNat from rfl, hv1]; rfl
            have a2 : zs.getD (xs.length - 1 - l) 0 = v2 := by rw [List.getD_eq_getElem?_getD, hv2]; rfl
            have b1 := g4 l (by omega)
            have b2 := g4 (xs.length - 1 - l) (by omega)
            rw [if_neg (by omega)] at b1 b2
            rw [List.getD_eq_getElem?_getD]
            by_cases c5 : j = xs.length - 1 - l
            · rw [c5, List.getElem?_set_self (by rw [List.length_set]; omega), if_pos (by omega)]
              rw [show xs.length - 1 - (xs.length - 1 - l) = l by omega, ← b1, a1]
              rfl
            · rw [List.getElem?_set_ne (by omega)]
              by_cases c6 : j = l
              · rw [c6, List.getElem?_set_self (by omega), if_pos (by omega), ← b2, a2]
                rfl
              · rw [List.getElem?_set_ne (by omega), ← List.getD_eq_getElem?_getD, g4 j hj]
                by_cases c7 : j < l ∨ xs.length - l ≤ j
                · rw [if_pos c7, if_pos (by omega)]
                · rw [if_neg c7, if_neg (by omega)]
          · rw [e3, jup_n q2, e2, jup_n q2]; exact g5 q q1 q2
  · exact h.elim
/-- which of two lists is the less: by the first place where they differ, then the shorter one -/
def cmpL : List Int → List Int → Int
  | [], [] => 0
  | [], _ :: _ => -1
  | _ :: _, [] => 1
  | a :: x, b :: y => if a = b then cmpL x y else if a < b then -1 else 1
theorem cmpL_eq : ∀ {x y : List Int}, cmpL x y = 0 ↔ x = y
  | [], [] => by simp [cmpL]
  | [], _ :: _ => by simp [cmpL]
  | _ :: _, [] => by simp [cmpL]
  | a :: x, b :: y => by
    unfold cmpL
    by_cases h : a = b
    · rw [if_pos h, cmpL_eq, h]
      simp
    · rw [if_neg h]
      split <;> simp [h]
theorem cmpL_tri {x y : List Int} : cmpL x y = 0 ∨ cmpL x y = 1 ∨ cmpL x y = -1 := by
  induction x generalizing y with
  | nil => cases y <;> simp [cmpL]
  | cons a x ih =>
    cases y with
    | nil => simp [cmpL]
    | cons b y =>
      unfold cmpL
      split
      · exact ih
      · split <;> simp
theorem cmpL_step {x y : List Int} {i : Nat} (h1 : i < x.length) (h2 : i < y.length) : cmpL (x.drop i) (y.drop i) = if x[i] = y[i] then cmpL (x.drop (i + 1)) (y.drop (i + 1)) else if x[i] < y[i] then -1 else 1 := by
  rw [List.drop_eq_getElem_cons h1, List.drop_eq_getElem_cons h2]
  rfl
theorem cmpL_end {x y : List Int} {i : Nat} (h : i = x.length ∨ i = y.length) (h1 : i ≤ x.length) (h2 : i ≤ y.length) : cmpL (x.drop i) (y.drop i) = if x.length = y.length then 0 else if x.length < y.length then -1 else 1 := by
  rcases h with rfl | rfl
  · rw [List.drop_eq_nil_of_le (Nat.le_refl _)]
    by_cases c : x.length = y.length
    · rw [if_pos c, c, List.drop_eq_nil_of_le (Nat.le_refl _)]; rfl
    · rw [if_neg c, if_pos (by omega), List.drop_eq_getElem_cons (by omega)]; rfl
  · rw [List.drop_eq_nil_of_le (Nat.le_refl y.length)]
    by_cases c : x.length = y.length
    · rw [if_pos c, ← c, List.drop_eq_nil_of_le (Nat.le_refl _)]; rfl
    · rw [if_neg c, if_neg (by omega), List.drop_eq_getElem_cons (by omega)]; rfl
def S_Sig_orderTo (_ : Nat) : jS := fun av M sz P _ => match av with
  | [.inr (.inr (some o)), .inr (.inr (some p))] => ∃ (xs ys : List Int) (rm rn : Nat), sg M o xs rm ∧ sg M p ys rn ∧ P (some (vI (cmpL xs ys))) M sz
  | _ => False
def k_Sig_orderTo : List (Nat × jI5) := [(0, .aload_n 0, 1, 0, 0), (1, .getfield 21, 4, 0, 0), (4, .aload_n 1, 5, 0, 0), (5, .getfield 21, 8, 0, 0), (8, .invokestatic 29, 11, 0, 0), (11, .istore_n 2, 12, 0, 0), (12, .iconst (0), 13, 0, 0), (13, .istore_n 3, 14, 0, 0), (14, .iload_n 3, 15, 0, 0), (15, .iload_n 2, 16, 0, 0), (16, .if_icmp .ge (41), 19, 57, 0), (19, .aload_n 0, 20, 0, 0), (20, .iload_n 3, 21, 0, 0), (21, .invokevirtual 53, 24, 0, 0), (24, .aload_n 1, 25, 0, 0), (25, .iload_n 3, 26, 0, 0), (26, .invokevirtual 53, 29, 0, 0), (29, .if_icmp .eq (22), 32, 51, 0), (32, .aload_n 0, 33, 0, 0), (33, .iload_n 3, 34, 0, 0), (34, .invokevirtual 53, 37, 0, 0), (37, .aload_n 1, 38, 0, 0), (38, .iload_n 3, 39, 0, 0), (39, .invokevirtual 53, 42, 0, 0), (42, .if_icmp .ge (7), 45, 49, 0), (45, .iconst (-1), 46, 0, (-1)), (46, .goto (4), 49, 50, 0), (49, .iconst (1), 50, 0, 1), (50, .ireturn, 51, 0, 0), (51, .iinc 3 (1), 54, 0, 1), (54, .goto (-40), 57, 14, 0), (57, .aload_n 0, 58, 0, 0), (58, .getfield 21, 61, 0, 0), (61, .aload_n 1, 62, 0, 0), (62, .getfield 21, 65, 0, 0), (65, .if_icmp .ne (5), 68, 70, 0), (68, .iconst (0), 69, 0, 0), (69, .ireturn, 70, 0, 0), (70, .aload_n 0, 71, 0, 0), (71, .getfield 21, 74, 0, 0), (74, .aload_n 1, 75, 0, 0), (75, .getfield 21, 78, 0, 0), (78, .if_icmp .ge (7), 81, 85, 0), (81, .iconst (-1), 82, 0, (-1)), (82, .goto (4), 85, 86, 0), (85, .iconst (1), 86, 0, 1), (86, .ireturn, 87, 0, 0)]
theorem k_Sig_orderTo_ok : k_Sig_orderTo.all (jok1 prog_5_method_16_code) = true := by decide +kernel
abbrev y_Sig_orderTo : MethodName := ⟨"Manydoors$Signs", "orderTo", "(LManydoors$Signs;)I"⟩
theorem Y_Sig_orderTo : jYok y_Sig_orderTo prog_5_method_16_code 4 (some .int) 1 := ⟨(jg_in (List.mem_of_getElem? (i := 330) (by decide +kernel)) rfl), (jg_in (List.mem_of_getElem? (i := 41) (by decide +kernel)) rfl), by decide +kernel, by decide⟩
def cp_Sig_orderTo (sz0 : Nat) : List (Nat × Nat × jTr) := [(0, 21, jget 4 1), (3, 53, jcalv 2 0 0 4 (S_Sig_signOf sz0)), (4, 29, jcall 2 0 0 (S_Mat_min sz0))]
theorem cp_Sig_orderTo_ok {l : Launch} (hnt : l.stackTraces = false) (sz0 : Nat) : ∀ q ∈ cp_Sig_orderTo sz0, jSnd sz0 l "Manydoors$Signs" "orderTo" 1 (jin q.1 q.2.1) (jlen (jin q.1 q.2.1)) q.2.2 := List.forall_mem_cons.mpr ⟨jget_snd (idx := 21) jc_Sig (k := 1) (by decide) (jg_in (List.mem_of_getElem? (i := 82) (by decide +kernel)) rfl), List.forall_mem_cons.mpr ⟨jcalv_snd (idx := 53) (r := (R_Sig, F_Sig, 2)) (c_Sig_signOf hnt sz0) Y_Sig_signOf rfl rfl (jg_in (List.mem_of_getElem? (i := 332) (by decide +kernel)) rfl) (jg_in (List.mem_of_getElem? (i := 333) (by decide +kernel)) rfl) (by omega) (jg_in (List.mem_of_getElem? (i := 331) (by decide +kernel)) rfl), List.forall_mem_cons.mpr ⟨jcall_snd (idx := 29) (c_Mat_min hnt sz0) Y_Mat_min (jg_in (List.mem_of_getElem? (i := 318) (by decide +kernel)) rfl) (by omega) (jg_in (List.mem_of_getElem? (i := 317) (by decide +kernel)) rfl), fun _ h => absurd h List.not_mem_nil⟩⟩⟩
set_option maxRecDepth 20000 in
set_option maxHeartbeats 4000000 in
theorem c_Sig_orderTo {l : Launch} (hnt : l.stackTraces = false) (sz0 : Nat) : jCon sz0 l y_Sig_orderTo prog_5_method_16_code 4 (some .int) 1 0 0 (S_Sig_orderTo sz0) := by
  refine jmet (own := "Manydoors$Signs") (nm := "orderTo") k_Sig_orderTo (cp_Sig_orderTo sz0) [] 50 (plainFor_of_name (by decide)) rfl rfl hnt k_Sig_orderTo_ok (cp_Sig_orderTo_ok hnt sz0) (fun _ h => absurd h List.not_mem_nil) ?_
  intro av M sz P X h hz hfr
  unfold S_Sig_orderTo at h
  split at h
  · rename_i o p
    obtain ⟨xs, ys, rm, rn, hg, hg2, h⟩ := h
    have hg0 := hg.len
    have hg20 := hg2.len
    obtain ⟨g, h1, h2, h3, h4⟩ := id hg
    obtain ⟨g2, k1, k2, k3, k4⟩ := id hg2
    refine ⟨rfl, [(14, fun k lv st M1 sz1 kc ks => ∃ i n : Nat, (i ≤ n ∧ k = n - i ∧ lv = [(0, vR o), (1, vR p), (2, vI (n : Int)), (3, vI (i : Int))] ∧ st = [] ∧ sz1 = sz ∧ M1 = M) ∧ n = min xs.length ys.length ∧ cmpL (xs.drop i) (ys.drop i) = cmpL xs ys)], ?_, fun pc a hpa => ?_⟩
    · conv => whnf
      refine ⟨_, _, h1, rfl, ?_⟩
      conv => whnf
      refine ⟨_, _, k1, rfl, ?_⟩
      conv => whnf
      refine ⟨Nat.zero_le _, Nat.zero_le _, jrn (by omega), jrn (by omega), ?_⟩
      have e : (if (xs.length : Int) ≤ (ys.length : Int) then (xs.length : Int) else (ys.length : Int)) = ((min xs.length ys.length : Nat) : Int) := by split <;> omega
      rw [e]
      conv => whnf
      exact ⟨_, 0, _, ⟨Nat.zero_le _, rfl, rfl, rfl, rfl, rfl⟩, rfl, rfl⟩
    · cases List.mem_singleton.mp hpa
      rintro k lv st M1 sz1 kc ks ⟨i, n, ⟨hi, rfl, rfl, rfl, rfl, rfl⟩, hn, hc⟩
      conv => whnf
      refine ⟨⟨jrn (by omega), jrn (by omega)⟩, fun c1 => ?_, fun c1 => ?_⟩
      · rw [cmpL_end (by omega) (by omega) (by omega)] at hc
        conv => whnf
        refine ⟨_, _, h1, rfl, ?_⟩
        conv => whnf
        refine ⟨_, _, k1, rfl, ?_⟩
        conv => whnf
        refine ⟨⟨jrn (by omega), jrn (by omega)⟩, fun c2 => ?_, fun c2 => ?_⟩
        · rw [if_neg (by omega)] at hc
          conv => whnf
          refine ⟨_, _, h1, rfl, ?_⟩
          conv => whnf
          refine ⟨_, _, k1, rfl, ?_⟩
          conv => whnf
          refine ⟨⟨jrn (by omega), jrn (by omega)⟩, fun c3 => ?_, fun c3 => ?_⟩
          · rw [if_neg (by omega)] at hc
            conv => whnf
            rw [← hc] at h
            exact ⟨trivial, h⟩
          · rw [if_pos (by omega)] at hc
            conv => whnf
            rw [← hc] at h
            exact ⟨trivial, h⟩
        · rw [if_pos (by omega)] at hc
          conv => whnf
          rw [← hc] at h
          exact ⟨trivial, h⟩
      · have d1 : i < xs.length := by omega
        have d2 : i < ys.length := by omega
        rw [cmpL_step d1 d2] at hc
        conv => whnf
        refine ⟨hg.cls, Nat.zero_le _, Nat.zero_le _, xs, rm, hg, jrn (by omega), ?_⟩
        conv => whnf
        refine ⟨hg2.cls, Nat.zero_le _, Nat.zero_le _, ys, rn, hg2, jrn (by omega), ?_⟩
        rw [sgA_in d1, sgA_in d2]
        have j1 : jr xs[i] := by have := h4.2 _ (List.getElem_mem d1); exact ⟨by omega, by omega⟩
        have j2 : jr ys[i] := by have := k4.2 _ (List.getElem_mem d2); exact ⟨by omega, by omega⟩
        conv => whnf
        refine ⟨⟨j1, j2⟩, fun c2 => ?_, fun c2 => ?_⟩
        · rw [if_pos c2] at hc
          conv => whnf
          exact ⟨_, by omega, i + 1, n, ⟨by omega, rfl, rfl, rfl, rfl, rfl⟩, hn, hc⟩
        · rw [if_neg c2] at hc
          conv => whnf
          refine ⟨hg.cls, Nat.zero_le _, Nat.zero_le _, xs, rm, hg, jrn (by omega), ?_⟩
          conv => whnf
          refine ⟨hg2.cls, Nat.zero_le _, Nat.zero_le _, ys, rn, hg2, jrn (by omega), ?_⟩
          rw [sgA_in d1, sgA_in d2]
          conv => whnf
          refine ⟨⟨j1, j2⟩, fun c3 => ?_, fun c3 => ?_⟩
          · rw [if_neg (by omega)] at hc
            conv => whnf
            rw [← hc] at h
            exact ⟨trivial, h⟩
          · rw [if_pos c3] at hc
            conv => whnf
            rw [← hc] at h
            exact ⟨trivial, h⟩
  · exact h.elim
def S_Sig_sameAs (_ : Nat) : jS := fun av M sz P _ => match av with
  | [.inr (.inr (some o)), .inr (.inr (some p))] => ∃ (xs ys : List Int) (rm rn : Nat), sg M o xs rm ∧ sg M p ys rn ∧ P (some (vI (if xs = ys then 1 else 0))) M sz
  | _ => False
def k_Sig_sameAs : List (Nat × jI5) := [(0, .aload_n 0, 1, 0, 0), (1, .aload_n 1, 2, 0, 0), (2, .invokevirtual 49, 5, 0, 0), (5, .ifCond .ne (7), 8, 12, 0), (8, .iconst (1), 9, 0, 1), (9, .goto (4), 12, 13, 0), (12, .iconst (0), 13, 0, 0), (13, .ireturn, 14, 0, 0)]
theorem k_Sig_sameAs_ok : k_Sig_sameAs.all (jok1 prog_5_method_15_code) = true := by decide +kernel
abbrev y_Sig_sameAs : MethodName := ⟨"Manydoors$Signs", "sameAs", "(LManydoors$Signs;)Z"⟩
theorem Y_Sig_sameAs : jYok y_Sig_sameAs prog_5_method_15_code 2 (some .boolean) 1 := ⟨(jg_in (List.mem_of_getElem? (i := 326) (by decide +kernel)) rfl), (jg_in (List.mem_of_getElem? (i := 41) (by decide +kernel)) rfl), by decide +kernel, by decide⟩
def cp_Sig_sameAs (sz0 : Nat) : List (Nat × Nat × jTr) := [(3, 49, jcalv 2 0 0 4 (S_Sig_orderTo sz0))]
theorem cp_Sig_sameAs_ok {l : Launch} (hnt : l.stackTraces = false) (sz0 : Nat) : ∀ q ∈ cp_Sig_sameAs sz0, jSnd sz0 l "Manydoors$Signs" "sameAs" 2 (jin q.1 q.2.1) (jlen (jin q.1 q.2.1)) q.2.2 := List.forall_mem_cons.mpr ⟨jcalv_snd (idx := 49) (r := (R_Sig, F_Sig, 2)) (c_Sig_orderTo hnt sz0) Y_Sig_orderTo rfl rfl (jg_in (List.mem_of_getElem? (i := 328) (by decide +kernel)) rfl) (jg_in (List.mem_of_getElem? (i := 329) (by decide +kernel)) rfl) (by omega) (jg_in (List.mem_of_getElem? (i := 327) (by decide +kernel)) rfl), fun _ h => absurd h List.not_mem_nil⟩
set_option maxRecDepth 20000 in
set_option maxHeartbeats 4000000 in
theorem c_Sig_sameAs {l : Launch} (hnt : l.stackTraces = false) (sz0 : Nat) : jCon sz0 l y_Sig_sameAs prog_5_method_15_code 2 (some .boolean) 2 0 0 (S_Sig_sameAs sz0) := by
  refine jmet (own := "Manydoors$Signs") (nm := "sameAs") k_Sig_sameAs (cp_Sig_sameAs sz0) [] 20 (plainFor_of_name (by decide)) rfl rfl hnt k_Sig_sameAs_ok (cp_Sig_sameAs_ok hnt sz0) (fun _ h => absurd h List.not_mem_nil) ?_
  intro av M sz P X h hz hfr
  unfold S_Sig_sameAs at h
  split at h
  · rename_i o p
    obtain ⟨xs, ys, rm, rn, hg, hg2, h⟩ := h
    refine ⟨rfl, [], ?_, fun pc a h => absurd h List.not_mem_nil⟩
    conv => whnf
    refine ⟨hg.cls, Nat.zero_le _, Nat.zero_le _, xs, ys, rm, rn, hg, hg2, ?_⟩
    conv => whnf
    refine ⟨by rcases cmpL_tri (x := xs) (y := ys) with e | e | e <;> rw [e] <;> exact ⟨by omega, by omega⟩, fun c => ?_, fun c => ?_⟩
    · conv => whnf
      rw [if_neg (fun e => c (cmpL_eq.mpr e))] at h
      exact ⟨Or.inl rfl, h⟩
    · conv => whnf
      rw [if_pos (cmpL_eq.mp c)] at h
      exact ⟨Or.inr rfl, h⟩
  · exact h.elim
/-- ys stands in xs at p -/
def isat (xs ys : List Int) (p : Nat) : Prop := p + ys.length ≤ xs.length ∧ ∀ i : Nat, i < ys.length → xs.getD (p + i) 0 = ys.getD i 0
def S_Sig_hasAt (_ : Nat) : jS := fun av M sz P _ => match av with
  | [.inr (.inr (some o)), .inl a, .inr (.inr (some p))] => ∃ (xs ys : List Int) (rm rn : Nat), sg M o xs rm ∧ sg M p ys rn ∧ (0 ≤ a ∧ a + (ys.length : Int) ≤ (xs.length : Int)) ∧ (isat xs ys a.toNat → P (some (vI 1)) M sz) ∧ (¬ isat xs ys a.toNat → P (some (vI 0)) M sz)
  | _ => False
def k_Sig_hasAt : List (Nat × jI5) := [(0, .iconst (0), 1, 0, 0), (1, .istore_n 3, 2, 0, 0), (2, .iload_n 3, 3, 0, 0), (3, .aload_n 2, 4, 0, 0), (4, .getfield 21, 7, 0, 0), (7, .if_icmp .ge (26), 10, 33, 0), (10, .aload_n 0, 11, 0, 0), (11, .iload_n 1, 12, 0, 0), (12, .iload_n 3, 13, 0, 0), (13, .iadd, 14, 0, 0), (14, .invokevirtual 53, 17, 0, 0), (17, .aload_n 2, 18, 0, 0), (18, .iload_n 3, 19, 0, 0), (19, .invokevirtual 53, 22, 0, 0), (22, .if_icmp .eq (5), 25, 27, 0), (25, .iconst (0), 26, 0, 0), (26, .ireturn, 27, 0, 0), (27, .iinc 3 (1), 30, 0, 1), (30, .goto (-28), 33, 2, 0), (33, .iconst (1), 34, 0, 1), (34, .ireturn, 35, 0, 0)]
theorem k_Sig_hasAt_ok : k_Sig_hasAt.all (jok1 prog_5_method_19_code) = true := by decide +kernel
abbrev y_Sig_hasAt : MethodName := ⟨"Manydoors$Signs", "hasAt", "(ILManydoors$Signs;)Z"⟩
theorem Y_Sig_hasAt : jYok y_Sig_hasAt prog_5_method_19_code 4 (some .boolean) 2 := ⟨(jg_in (List.mem_of_getElem? (i := 857) (by decide +kernel)) rfl), (jg_in (List.mem_of_getElem? (i := 41) (by decide +kernel)) rfl), by decide +kernel, by decide⟩
def cp_Sig_hasAt (sz0 : Nat) : List (Nat × Nat × jTr) := [(0, 21, jget 4 1), (3, 53, jcalv 2 0 0 4 (S_Sig_signOf sz0))]
theorem cp_Sig_hasAt_ok {l : Launch} (hnt : l.stackTraces = false) (sz0 : Nat) : ∀ q ∈ cp_Sig_hasAt sz0, jSnd sz0 l "Manydoors$Signs" "hasAt" 1 (jin q.1 q.2.1) (jlen (jin q.1 q.2.1)) q.2.2 := List.forall_mem_cons.mpr ⟨jget_snd (idx := 21) jc_Sig (k := 1) (by decide) (jg_in (List.mem_of_getElem? (i := 82) (by decide +kernel)) rfl), List.forall_mem_cons.mpr ⟨jcalv_snd (idx := 53) (r := (R_Sig, F_Sig, 2)) (c_Sig_signOf hnt sz0) Y_Sig_signOf rfl rfl (jg_in (List.mem_of_getElem? (i := 332) (by decide +kernel)) rfl) (jg_in (List.mem_of_getElem? (i := 333) (by decide +kernel)) rfl) (by omega) (jg_in (List.mem_of_getElem? (i := 331) (by decide +kernel)) rfl), fun _ h => absurd h List.not_mem_nil⟩⟩
set_option maxRecDepth 20000 in
set_option maxHeartbeats 4000000 in
theorem c_Sig_hasAt {l : Launch} (hnt : l.stackTraces = false) (sz0 : Nat) : jCon sz0 l y_Sig_hasAt prog_5_method_19_code 4 (some .boolean) 1 0 0 (S_Sig_hasAt sz0) := by
  refine jmet (own := "Manydoors$Signs") (nm := "hasAt") k_Sig_hasAt (cp_Sig_hasAt sz0) [] 50 (plainFor_of_name (by decide)) rfl rfl hnt k_Sig_hasAt_ok (cp_Sig_hasAt_ok hnt sz0) (fun _ h => absurd h List.not_mem_nil) ?_
  intro av M sz P X h hz hfr
  unfold S_Sig_hasAt at h
  split at h
  · rename_i o a p
    obtain ⟨xs, ys, rm, rn, hg, hg2, ⟨ha, hal⟩, hp1, hp0⟩ := h
    have hg0 := hg.len
    have hg20 := hg2.len
    obtain ⟨g, h1, h2, h3, h4⟩ := id hg
    obtain ⟨g2, k1, k2, k3, k4⟩ := id hg2
    refine ⟨rfl, [(2, fun k lv st M1 sz1 kc ks => ∃ i : Nat, (i ≤ ys.length ∧ k = ys.length - i ∧ lv = [(0, vR o), (1, vI a), (2, vR p), (3, vI (i : Int))] ∧ st = [] ∧ sz1 = sz ∧ M1 = M) ∧ ∀ j : Nat, j < i → xs.getD (a.toNat + j) 0 = ys.getD j 0)], ?_, fun pc a hpa => ?_⟩
    · conv => whnf
      exact ⟨_, 0, ⟨Nat.zero_le _, rfl, rfl, rfl, rfl, rfl⟩, fun j hj => absurd hj (Nat.not_lt_zero j)⟩
    · cases List.mem_singleton.mp hpa
      rintro k lv st M1 sz1 kc ks ⟨i, ⟨hi, rfl, rfl, rfl, rfl, rfl⟩, hall⟩
      conv => whnf
      refine ⟨_, _, k1, rfl, ?_⟩
      conv => whnf
      refine ⟨⟨jrn (by omega), jrn (by omega)⟩, fun c1 => ?_, fun c1 => ?_⟩
      · conv => whnf
        exact ⟨Or.inr rfl, hp1 ⟨by omega, fun j hj => hall j (by omega)⟩⟩
      · have d2 : i < ys.length := by omega
        have d1 : a.toNat + i < xs.length := by omega
        have e1 : a + (i : Int) = ((a.toNat + i : Nat) : Int) := by omega
        conv => whnf
        refine ⟨hg.cls, Nat.zero_le _, Nat.zero_le _, xs, rm, hg, ⟨by omega, by omega⟩, ?_⟩
        conv => whnf
        refine ⟨hg2.cls, Nat.zero_le _, Nat.zero_le _, ys, rn, hg2, jrn (by omega), ?_⟩
        rw [e1, sgA_in d1, sgA_in d2]
        have j1 : jr xs[a.toNat + i] := by have := h4.2 _ (List.getElem_mem d1); exact ⟨by omega, by omega⟩
        have j2 : jr ys[i] := by have := k4.2 _ (List.getElem_mem d2); exact ⟨by omega, by omega⟩
        have f1 : xs.getD (a.toNat + i) 0 = xs[a.toNat + i] := by rw [List.getD_eq_getElem?_getD, List.getElem?_eq_getElem d1]; rfl
        have f2 : ys.getD i 0 = ys[i] := by rw [List.getD_eq_getElem?_getD, List.getElem?_eq_getElem d2]; rfl
        conv => whnf
        refine ⟨⟨j1, j2⟩, fun c2 => ?_, fun c2 => ?_⟩
        · conv => whnf
          refine ⟨_, by omega, i + 1, ⟨by omega, rfl, rfl, rfl, rfl, rfl⟩, fun j hj => ?_⟩
          by_cases hji : j = i
          · rw [hji, f1, f2]; exact c2
          · exact hall j (by omega)
        · conv => whnf
          exact ⟨Or.inl rfl, hp0 (fun hh => c2 (by rw [← f1, ← f2]; exact hh.2 i d2))⟩
  · exact h.elim
/-- the first place, the last place of a list in another; -1: none -/
def isfst (xs ys : List Int) (r : Int) : Prop := (r = -1 ∧ ∀ p : Nat, ¬ isat xs ys p) ∨ ∃ p : Nat, r = (p : Int) ∧ isat xs ys p ∧ ∀ q : Nat, q < p → ¬ isat xs ys q
def islst (xs ys : List Int) (r : Int) : Prop := (r = -1 ∧ ∀ p : Nat, ¬ isat xs ys p) ∨ ∃ p : Nat, r = (p : Int) ∧ isat xs ys p ∧ ∀ q : Nat, p < q → ¬ isat xs ys q
def S_Sig_firstPlaceOf (_ : Nat) : jS := fun av M sz P _ => match av with
  | [.inr (.inr (some o)), .inr (.inr (some p))] => ∃ (xs ys : List Int) (rm rn : Nat), sg M o xs rm ∧ sg M p ys rn ∧ ∀ r : Int, isfst xs ys r → P (some (vI r)) M sz
  | _ => False
def k_Sig_firstPlaceOf : List (Nat × jI5) := [(0, .iconst (0), 1, 0, 0), (1, .istore_n 2, 2, 0, 0), (2, .iload_n 2, 3, 0, 0), (3, .aload_n 0, 4, 0, 0), (4, .getfield 21, 7, 0, 0), (7, .aload_n 1, 8, 0, 0), (8, .getfield 21, 11, 0, 0), (11, .isub, 12, 0, 0), (12, .if_icmp .gt (20), 15, 32, 0), (15, .aload_n 0, 16, 0, 0), (16, .iload_n 2, 17, 0, 0), (17, .aload_n 1, 18, 0, 0), (18, .invokevirtual 57, 21, 0, 0), (21, .ifCond .eq (5), 24, 26, 0), (24, .iload_n 2, 25, 0, 0), (25, .ireturn, 26, 0, 0), (26, .iinc 2 (1), 29, 0, 1), (29, .goto (-27), 32, 2, 0), (32, .iconst (-1), 33, 0, (-1)), (33, .ireturn, 34, 0, 0)]
theorem k_Sig_firstPlaceOf_ok : k_Sig_firstPlaceOf.all (jok1 prog_5_method_17_code) = true := by decide +kernel
abbrev y_Sig_firstPlaceOf : MethodName := ⟨"Manydoors$Signs", "firstPlaceOf", "(LManydoors$Signs;)I"⟩
theorem Y_Sig_firstPlaceOf : jYok y_Sig_firstPlaceOf prog_5_method_17_code 3 (some .int) 1 := ⟨(jg_in (List.mem_of_getElem? (i := 861) (by decide +kernel)) rfl), (jg_in (List.mem_of_getElem? (i := 41) (by decide +kernel)) rfl), by decide +kernel, by decide⟩
def cp_Sig_firstPlaceOf (sz0 : Nat) : List (Nat × Nat × jTr) := [(0, 21, jget 4 1), (3, 57, jcalv 3 0 0 4 (S_Sig_hasAt sz0))]
theorem cp_Sig_firstPlaceOf_ok {l : Launch} (hnt : l.stackTraces = false) (sz0 : Nat) : ∀ q ∈ cp_Sig_firstPlaceOf sz0, jSnd sz0 l "Manydoors$Signs" "firstPlaceOf" 2 (jin q.1 q.2.1) (jlen (jin q.1 q.2.1)) q.2.2 := List.forall_mem_cons.mpr ⟨jget_snd (idx := 21) jc_Sig (k := 1) (by decide) (jg_in (List.mem_of_getElem? (i := 82) (by decide +kernel)) rfl), List.forall_mem_cons.mpr ⟨jcalv_snd (idx := 57) (r := (R_Sig, F_Sig, 2)) (c_Sig_hasAt hnt sz0) Y_Sig_hasAt rfl rfl (jg_in (List.mem_of_getElem? (i := 856) (by decide +kernel)) rfl) (jg_in (List.mem_of_getElem? (i := 21) (by decide +kernel)) rfl) (by omega) (jg_in (List.mem_of_getElem? (i := 854) (by decide +kernel)) rfl), fun _ h => absurd h List.not_mem_nil⟩⟩
set_option maxRecDepth 20000 in
set_option maxHeartbeats 4000000 in
theorem c_Sig_firstPlaceOf {l : Launch} (hnt : l.stackTraces = false) (sz0 : Nat) : jCon sz0 l y_Sig_firstPlaceOf prog_5_method_17_code 3 (some .int) 2 0 0 (S_Sig_firstPlaceOf sz0) := by
  refine jmet (own := "Manydoors$Signs") (nm := "firstPlaceOf") k_Sig_firstPlaceOf (cp_Sig_firstPlaceOf sz0) [] 50 (plainFor_of_name (by decide)) rfl rfl hnt k_Sig_firstPlaceOf_ok (cp_Sig_firstPlaceOf_ok hnt sz0) (fun _ h => absurd h List.not_mem_nil) ?_
  intro av M sz P X h hz hfr
  unfold S_Sig_firstPlaceOf at h
  split at h
  · rename_i o p
    obtain ⟨xs, ys, rm, rn, hg, hg2, h⟩ := h
    have hg0 := hg.len
    have hg20 := hg2.len
    obtain ⟨g, h1, h2, h3, h4⟩ := id hg
    obtain ⟨g2, k1, k2, k3, k4⟩ := id hg2
    refine ⟨rfl, [(2, fun k lv st M1 sz1 kc ks => ∃ i : Nat, (i ≤ xs.length + 1 ∧ k = xs.length + 1 - i ∧ lv = [(0, vR o), (1, vR p), (2, vI (i : Int))] ∧ st = [] ∧ sz1 = sz ∧ M1 = M) ∧ ∀ j : Nat, j < i → ¬ isat xs ys j)], ?_, fun pc a hpa => ?_⟩
    · conv => whnf
      exact ⟨_, 0, ⟨Nat.zero_le _, rfl, rfl, rfl, rfl, rfl⟩, fun j hj => absurd hj (Nat.not_lt_zero j)⟩
    · cases List.mem_singleton.mp hpa
      rintro k lv st M1 sz1 kc ks ⟨i, ⟨hi, rfl, rfl, rfl, rfl, rfl⟩, hall⟩
      conv => whnf
      refine ⟨_, _, h1, rfl, ?_⟩
      conv => whnf
      refine ⟨_, _, k1, rfl, ?_⟩
      conv => whnf
      refine ⟨⟨jrn (by omega), ⟨by omega, by omega⟩⟩, fun c1 => ?_, fun c1 => ?_⟩
      · conv => whnf
        refine ⟨trivial, h _ (Or.inl ⟨rfl, fun j hj => ?_⟩)⟩
        by_cases c : j < i
        · exact hall j c hj
        · have := hj.1; omega
      · conv => whnf
        refine ⟨hg.cls, Nat.zero_le _, Nat.zero_le _, xs, ys, rm, rn, hg, hg2, ⟨by omega, by omega⟩, fun c2 => ?_, fun c2 => ?_⟩
        · conv => whnf
          refine ⟨⟨by omega, by omega⟩, fun c3 => by omega, fun c3 => ?_⟩
          conv => whnf
          exact ⟨trivial, h _ (Or.inr ⟨i, rfl, c2, hall⟩)⟩
        · conv => whnf
          refine ⟨jr0, fun c3 => ?_, fun c3 => absurd rfl c3⟩
          conv => whnf
          refine ⟨_, by omega, i + 1, ⟨by omega, rfl, rfl, rfl, rfl, rfl⟩, fun j hj => ?_⟩
          by_cases hji : j = i
          · rw [hji]; exact c2
          · exact hall j (by omega)
  · exact h.elim
def S_Sig_lastPlaceOf (_ : Nat) : jS := fun av M sz P _ => match av with
  | [.inr (.inr (some o)), .inr (.inr (some p))] => ∃ (xs ys : List Int) (rm rn : Nat), sg M o xs rm ∧ sg M p ys rn ∧ ∀ r : Int, islst xs ys r → P (some (vI r)) M sz
  | _ => False
def k_Sig_lastPlaceOf : List (Nat × jI5) := [(0, .aload_n 0, 1, 0, 0), (1, .getfield 21, 4, 0, 0), (4, .aload_n 1, 5, 0, 0), (5, .getfield 21, 8, 0, 0), (8, .isub, 9, 0, 0), (9, .istore_n 2, 10, 0, 0), (10, .iload_n 2, 11, 0, 0), (11, .ifCond .lt (20), 14, 31, 0), (14, .aload_n 0, 15, 0, 0), (15, .iload_n 2, 16, 0, 0), (16, .aload_n 1, 17, 0, 0), (17, .invokevirtual 57, 20, 0, 0), (20, .ifCond .eq (5), 23, 25, 0), (23, .iload_n 2, 24, 0, 0), (24, .ireturn, 25, 0, 0), (25, .iinc 2 (-1), 28, 0, (-1)), (28, .goto (-18), 31, 10, 0), (31, .iconst (-1), 32, 0, (-1)), (32, .ireturn, 33, 0, 0)]
theorem k_Sig_lastPlaceOf_ok : k_Sig_lastPlaceOf.all (jok1 prog_5_method_18_code) = true := by decide +kernel
abbrev y_Sig_lastPlaceOf : MethodName := ⟨"Manydoors$Signs", "lastPlaceOf", "(LManydoors$Signs;)I"⟩
theorem Y_Sig_lastPlaceOf : jYok y_Sig_lastPlaceOf prog_5_method_18_code 3 (some .int) 1 := ⟨(jg_in (List.mem_of_getElem? (i := 853) (by decide +kernel)) rfl), (jg_in (List.mem_of_getElem? (i := 41) (by decide +kernel)) rfl), by decide +kernel, by decide⟩
def cp_Sig_lastPlaceOf (sz0 : Nat) : List (Nat × Nat × jTr) := [(0, 21, jget 4 1), (3, 57, jcalv 3 0 0 4 (S_Sig_hasAt sz0))]
theorem cp_Sig_lastPlaceOf_ok {l : Launch} (hnt : l.stackTraces = false) (sz0 : Nat) : ∀ q ∈ cp_Sig_lastPlaceOf sz0, jSnd sz0 l "Manydoors$Signs" "lastPlaceOf" 2 (jin q.1 q.2.1) (jlen (jin q.1 q.2.1)) q.2.2 := List.forall_mem_cons.mpr ⟨jget_snd (idx := 21) jc_Sig (k := 1) (by decide) (jg_in (List.mem_of_getElem? (i := 82) (by decide +kernel)) rfl), List.forall_mem_cons.mpr ⟨jcalv_snd (idx := 57) (r := (R_Sig, F_Sig, 2)) (c_Sig_hasAt hnt sz0) Y_Sig_hasAt rfl rfl (jg_in (List.mem_of_getElem? (i := 856) (by decide +kernel)) rfl) (jg_in (List.mem_of_getElem? (i := 21) (by decide +kernel)) rfl) (by omega) (jg_in (List.mem_of_getElem? (i := 854) (by decide +kernel)) rfl), fun _ h => absurd h List.not_mem_nil⟩⟩
set_option maxRecDepth 20000 in
set_option maxHeartbeats 4000000 in
theorem c_Sig_lastPlaceOf {l : Launch} (hnt : l.stackTraces = false) (sz0 : Nat) : jCon sz0 l y_Sig_lastPlaceOf prog_5_method_18_code 3 (some .int) 2 0 0 (S_Sig_lastPlaceOf sz0) := by
  refine jmet (own := "Manydoors$Signs") (nm := "lastPlaceOf") k_Sig_lastPlaceOf (cp_Sig_lastPlaceOf sz0) [] 50 (plainFor_of_name (by decide)) rfl rfl hnt k_Sig_lastPlaceOf_ok (cp_Sig_lastPlaceOf_ok hnt sz0) (fun _ h => absurd h List.not_mem_nil) ?_
  intro av M sz P X h hz hfr
  unfold S_Sig_lastPlaceOf at h
  split at h
  · rename_i o p
    obtain ⟨xs, ys, rm, rn, hg, hg2, h⟩ := h
    have hg0 := hg.len
    have hg20 := hg2.len
    obtain ⟨g, h1, h2, h3, h4⟩ := id hg
    obtain ⟨g2, k1, k2, k3, k4⟩ := id hg2
    refine ⟨rfl, [(10, fun k lv st M1 sz1 kc ks => ∃ i : Int, (-1 - (ys.length : Int) ≤ i ∧ i ≤ (xs.length : Int) - (ys.length : Int) ∧ k = (i + 1 + (ys.length : Int)).toNat ∧ lv = [(0, vR o), (1, vR p), (2, vI i)] ∧ st = [] ∧ sz1 = sz ∧ M1 = M) ∧ ∀ j : Nat, i < (j : Int) → ¬ isat xs ys j)], ?_, fun pc a hpa => ?_⟩
    · conv => whnf
      refine ⟨_, _, h1, rfl, ?_⟩
      conv => whnf
      refine ⟨_, _, k1, rfl, ?_⟩
      conv => whnf
      exact ⟨_, _, ⟨by omega, by omega, rfl, rfl, rfl, rfl, rfl⟩, fun j hj hh => by have := hh.1; omega⟩
    · cases List.mem_singleton.mp hpa
      rintro k lv st M1 sz1 kc ks ⟨i, ⟨hi, hi2, rfl, rfl, rfl, rfl, rfl⟩, hall⟩
      conv => whnf
      refine ⟨⟨by omega, by omega⟩, fun c1 => ?_, fun c1 => ?_⟩
      · conv => whnf
        exact ⟨trivial, h _ (Or.inl ⟨rfl, fun j => hall j (by omega)⟩)⟩
      · conv => whnf
        refine ⟨hg.cls, Nat.zero_le _, Nat.zero_le _, xs, ys, rm, rn, hg, hg2, ⟨by omega, by omega⟩, fun c2 => ?_, fun c2 => ?_⟩
        · conv => whnf
          refine ⟨⟨by omega, by omega⟩, fun c3 => by omega, fun c3 => ?_⟩
          conv => whnf
          exact ⟨trivial, h _ (Or.inr ⟨i.toNat, by omega, c2, fun q hq => hall q (by omega)⟩)⟩
        · conv => whnf
          refine ⟨jr0, fun c3 => ?_, fun c3 => absurd rfl c3⟩
          conv => whnf
          refine ⟨_, ?_, i + -1, ⟨by omega, by omega, rfl, rfl, rfl, rfl, rfl⟩, fun j hj => ?_⟩
          · omega
          · by_cases hji : (j : Int) = i
            · rw [show j = i.toNat by omega]; exact c2
            · exact hall j (by omega)
  · exact h.elim
end
section
/-! Sheet: a ring of thirteen texts, as a list of states and a place in it. -/
def rsg (s : Nat) : List (Option Nat) := (List.range 13).map (fun i => some (s + 2 + 2 * i))
/-- a sheet at s: the states L (the oldest first), the shown one is the a-th; b: how many have gone -/
def she (M : jM) (s : Nat) (L : List (List Int)) (a b : Nat) : Prop := ∃ X : Nat → List Int,
  M s = some (.inl (3, [vR (s + 1), vI ((b + a : Nat) : Int), vI (a : Int), vI ((L.length : Int) - 1 - a)])) ∧ M (s + 1) = some (.inr (.inr (.object "Manydoors$Signs", rsg s))) ∧ (∀ i : Nat, i < 13 → sg M (s + 2 + 2 * i) (X i) 120) ∧ (b + a ≤ 100000 ∧ a < L.length ∧ L.length ≤ 13) ∧ ∀ j : Nat, j < L.length → L.getD j [] = X ((b + j) % 13)
def sad (s a b : Nat) : Nat := s + 2 + 2 * ((b + a) % 13)
theorem rsg_at {s k : Nat} (h : k < 13) : (rsg s)[k]? = some (some (s + 2 + 2 * k)) := by
  unfold rsg
  rw [List.getElem?_map, List.getElem?_range h]
  rfl
theorem rsg_len {s : Nat} : (rsg s).length = 13 := by simp [rsg]
theorem she.shown {M : jM} {s : Nat} {L : List (List Int)} {a b : Nat} (h : she M s L a b) : sg M (sad s a b) (L.getD a []) 120 := by
  obtain ⟨X, h1, h2, h3, ⟨h4, h5, h6⟩, h7⟩ := h
  rw [h7 a h5]
  exact h3 _ (Nat.mod_lt _ (by omega))
/-- the shown text changed -/
theorem she.upd {M M' : jM} {s : Nat} {L : List (List Int)} {a b : Nat} {xs : List Int} (h : she M s L a b) (hg : sg M' (sad s a b) xs 120) (hf : jfr (sad s a b) M M') : she M' s (L.set a xs) a b := by
  obtain ⟨X, h1, h2, h3, ⟨h4, h5, h6⟩, h7⟩ := h
  have hm : (b + a) % 13 < 13 := Nat.mod_lt _ (by omega)
  unfold sad at hg hf
  refine ⟨fun i => if i = (b + a) % 13 then xs else X i, ?_, ?_, fun i hi => ?_, ⟨h4, by rw [List.length_set]; exact h5, by rw [List.length_set]; exact h6⟩, fun j hj => ?_⟩
  · rw [hf s (by omega) (by omega), h1, List.length_set]
  · rw [hf (s + 1) (by omega) (by omega), h2]
  · by_cases c : i = (b + a) % 13
    · simp only [if_pos c]
      rw [c]
      exact hg
    · simp only [if_neg c]
      exact (h3 i hi).fr hf ⟨by omega, by omega, by omega⟩
  · rw [List.length_set] at hj
    by_cases c : j = a
    · subst c
      dsimp only
      rw [if_pos rfl, List.getD_eq_getElem?_getD, List.getElem?_set_self (by omega)]
      rfl
    · dsimp only
      rw [if_neg (by omega), List.getD_eq_getElem?_getD, List.getElem?_set_ne (by omega), ← List.getD_eq_getElem?_getD]
      exact h7 j hj
/-- a sheet elsewhere -/
theorem she.fr {M M' : jM} {s : Nat} {L : List (List Int)} {a b : Nat} (h : she M s L a b) (hf : ∀ q : Nat, s ≤ q → q < s + 28 → M' q = M q) : she M' s L a b := by
  obtain ⟨X, h1, h2, h3, h4, h7⟩ := h
  refine ⟨X, by rw [hf s (by omega) (by omega)]; exact h1, by rw [hf (s + 1) (by omega) (by omega)]; exact h2, fun i hi => ?_, h4, h7⟩
  obtain ⟨g, k1, k2, k3⟩ := h3 i hi
  exact ⟨g, by rw [hf _ (by omega) (by omega)]; exact k1, by rw [hf _ (by omega) (by omega)]; exact k2, k3⟩
theorem she.cls {M : jM} {s : Nat} {L : List (List Int)} {a b : Nat} (h : she M s L a b) : ∃ fs, M s = some (.inl (3, fs)) := by
  obtain ⟨X, h1, h2, h3, h4, h7⟩ := h
  exact ⟨_, h1⟩
def S_She_shown (_ : Nat) : jS := fun av M sz P _ => match av with
  | [.inr (.inr (some s))] => ∃ (L : List (List Int)) (a b : Nat), she M s L a b ∧ P (some (vR (sad s a b))) M sz
  | _ => False
def k_She_shown : List (Nat × jI5) := [(0, .aload_n 0, 1, 0, 0), (1, .getfield 13, 4, 0, 0), (4, .aload_n 0, 5, 0, 0), (5, .getfield 20, 8, 0, 0), (8, .bipush (13), 10, 0, 13), (10, .invokestatic 24, 13, 0, 0), (13, .aaload, 14, 0, 0), (14, .areturn, 15, 0, 0)]
theorem k_She_shown_ok : k_She_shown.all (jok1 prog_4_method_2_code) = true := by decide +kernel
abbrev y_She_shown : MethodName := ⟨"Manydoors$Sheet", "shown", "()LManydoors$Signs;"⟩
theorem Y_She_shown : jYok y_She_shown prog_4_method_2_code 1 (some (.object "Manydoors$Signs")) 0 := ⟨(jg_in (List.mem_of_getElem? (i := 283) (by decide +kernel)) rfl), (jg_in (List.mem_of_getElem? (i := 43) (by decide +kernel)) rfl), by decide +kernel, by decide⟩
theorem jc_She : jcOk 3 (R_She, F_She, 4) t_She := ⟨rfl, List.forall_mem_cons.mpr ⟨(jg_in (List.mem_of_getElem? (i := 102) (by decide +kernel)) rfl), List.forall_mem_cons.mpr ⟨(jg_in (List.mem_of_getElem? (i := 104) (by decide +kernel)) rfl), List.forall_mem_cons.mpr ⟨(jg_in (List.mem_of_getElem? (i := 106) (by decide +kernel)) rfl), List.forall_mem_cons.mpr ⟨(jg_in (List.mem_of_getElem? (i := 108) (by decide +kernel)) rfl), fun _ h => absurd h List.not_mem_nil⟩⟩⟩⟩, t_She_ok, n_She, by decide +kernel⟩
def cp_She_shown (sz0 : Nat) : List (Nat × Nat × jTr) := [(0, 13, jget 3 0), (0, 20, jget 3 1), (4, 24, jcall 2 0 0 (S_Mat_floorMod sz0))]
theorem cp_She_shown_ok {l : Launch} (hnt : l.stackTraces = false) (sz0 : Nat) : ∀ q ∈ cp_She_shown sz0, jSnd sz0 l "Manydoors$Sheet" "shown" 1 (jin q.1 q.2.1) (jlen (jin q.1 q.2.1)) q.2.2 := List.forall_mem_cons.mpr ⟨jget_snd (idx := 13) jc_She (k := 0) (by decide) (jg_in (List.mem_of_getElem? (i := 96) (by decide +kernel)) rfl), List.forall_mem_cons.mpr ⟨jget_snd (idx := 20) jc_She (k := 1) (by decide) (jg_in (List.mem_of_getElem? (i := 97) (by decide +kernel)) rfl), List.forall_mem_cons.mpr ⟨jcall_snd (idx := 24) (c_Mat_floorMod hnt sz0) Y_Mat_floorMod (jg_in (List.mem_of_getElem? (i := 285) (by decide +kernel)) rfl) (by omega) (jg_in (List.mem_of_getElem? (i := 284) (by decide +kernel)) rfl), fun _ h => absurd h List.not_mem_nil⟩⟩⟩
set_option maxRecDepth 20000 in
set_option maxHeartbeats 4000000 in
theorem c_She_shown {l : Launch} (hnt : l.stackTraces = false) (sz0 : Nat) : jCon sz0 l y_She_shown prog_4_method_2_code 1 (some (.object "Manydoors$Signs")) 1 0 0 (S_She_shown sz0) := by
  refine jmet (own := "Manydoors$Sheet") (nm := "shown") k_She_shown (cp_She_shown sz0) [] 30 (plainFor_of_name (by decide)) rfl rfl hnt k_She_shown_ok (cp_She_shown_ok hnt sz0) (fun _ h => absurd h List.not_mem_nil) ?_
  intro av M sz P X h hz hfr
  unfold S_She_shown at h
  split at h
  · rename_i s
    obtain ⟨L, a, b, ⟨X, h1, h2, h3, ⟨h4, h5, h6⟩, h7⟩, h⟩ := h
    refine ⟨rfl, [], ?_, fun pc a h => absurd h List.not_mem_nil⟩
    conv => whnf
    refine ⟨_, _, h1, rfl, ?_⟩
    refine ⟨_, _, h1, rfl, ?_⟩
    conv => whnf
    refine ⟨Nat.zero_le _, Nat.zero_le _, ⟨by omega, jrn (by omega), by omega, ⟨by omega, by omega⟩⟩, ?_⟩
    have e : ((b + a : Nat) : Int) % 13 = (((b + a) % 13 : Nat) : Int) := by omega
    rw [e]
    conv => whnf
    refine ⟨_, _, _, h2, rfl, ⟨by omega, by rw [rsg_len]; omega, by rw [rsg_len]; omega⟩, rsg_at (by omega), ?_⟩
    conv => whnf
    exact ⟨rfl, h⟩
  · exact h.elim
def stepA (a : Nat) : Nat := if a = 12 then 12 else a + 1
def stepL (L : List (List Int)) (a : Nat) (x : List Int) : List (List Int) := if a = 12 then L.drop 1 ++ [x] else L.take (a + 1) ++ [x]
theorem stepL_len {L : List (List Int)} {a : Nat} {x : List Int} (h1 : a < L.length) (h2 : L.length ≤ 13) : (stepL L a x).length = stepA a + 1 := by
  unfold stepL stepA
  split
  · rw [List.length_append, List.length_drop]; simp; omega
  · rw [List.length_append, List.length_take]; simp; omega
def S_She_makeStep (sz0 : Nat) : jS := fun av M sz P _ => match av with
  | [.inr (.inr (some s))] => ∃ (L : List (List Int)) (a b : Nat), she M s L a b ∧ sz0 ≤ s ∧ b + a < 100000 ∧ ∀ (M' : jM) (b' : Nat), she M' s (stepL L a (L.getD a [])) (stepA a) b' → b' + stepA a = b + a + 1 → (∀ q : Nat, q ≠ s → q ≠ sad s (stepA a) b' → q ≠ sad s (stepA a) b' + 1 → M' q = M q) → P (some (vR (sad s (stepA a) b'))) M' sz
  | _ => False
def k_She_makeStep : List (Nat × jI5) := [(0, .aload_n 0, 1, 0, 0), (1, .invokevirtual 30, 4, 0, 0), (4, .astore_n 1, 5, 0, 0), (5, .aload_n 0, 6, 0, 0), (6, .dup, 7, 0, 0), (7, .getfield 20, 10, 0, 0), (10, .iconst (1), 11, 0, 1), (11, .iadd, 12, 0, 0), (12, .putfield 20, 15, 0, 0), (15, .aload_n 0, 16, 0, 0), (16, .aload_n 0, 17, 0, 0), (17, .getfield 34, 20, 0, 0), (20, .iconst (1), 21, 0, 1), (21, .iadd, 22, 0, 0), (22, .bipush (12), 24, 0, 12), (24, .invokestatic 37, 27, 0, 0), (27, .putfield 34, 30, 0, 0), (30, .aload_n 0, 31, 0, 0), (31, .iconst (0), 32, 0, 0), (32, .putfield 40, 35, 0, 0), (35, .aload_n 0, 36, 0, 0), (36, .invokevirtual 30, 39, 0, 0), (39, .aload_n 1, 40, 0, 0), (40, .invokevirtual 43, 43, 0, 0), (43, .aload_n 0, 44, 0, 0), (44, .invokevirtual 30, 47, 0, 0), (47, .areturn, 48, 0, 0)]
theorem k_She_makeStep_ok : k_She_makeStep.all (jok1 prog_4_method_3_code) = true := by decide +kernel
abbrev y_She_makeStep : MethodName := ⟨"Manydoors$Sheet", "makeStep", "()LManydoors$Signs;"⟩
theorem Y_She_makeStep : jYok y_She_makeStep prog_4_method_3_code 2 (some (.object "Manydoors$Signs")) 0 := ⟨(jg_in (List.mem_of_getElem? (i := 490) (by decide +kernel)) rfl), (jg_in (List.mem_of_getElem? (i := 43) (by decide +kernel)) rfl), by decide +kernel, by decide⟩
def cp_She_makeStep (sz0 : Nat) : List (Nat × Nat × jTr) := [(0, 20, jget 3 1), (0, 34, jget 3 2), (1, 20, jputf sz0 3 1 (.int)), (1, 34, jputf sz0 3 2 (.int)), (1, 40, jputf sz0 3 3 (.int)), (3, 30, jcalv 1 0 0 3 (S_She_shown sz0)), (3, 43, jcalv 2 0 0 4 (S_Sig_becomeLike sz0)), (4, 37, jcall 2 0 0 (S_Mat_min sz0))]
theorem cp_She_makeStep_ok {l : Launch} (hnt : l.stackTraces = false) (sz0 : Nat) : ∀ q ∈ cp_She_makeStep sz0, jSnd sz0 l "Manydoors$Sheet" "makeStep" 4 (jin q.1 q.2.1) (jlen (jin q.1 q.2.1)) q.2.2 := List.forall_mem_cons.mpr ⟨jget_snd (idx := 20) jc_She (k := 1) (by decide) (jg_in (List.mem_of_getElem? (i := 97) (by decide +kernel)) rfl), List.forall_mem_cons.mpr ⟨jget_snd (idx := 34) jc_She (k := 2) (by decide) (jg_in (List.mem_of_getElem? (i := 98) (by decide +kernel)) rfl), List.forall_mem_cons.mpr ⟨jputf_snd (idx := 20) jc_She (k := 1) (by decide) (jg_in (List.mem_of_getElem? (i := 97) (by decide +kernel)) rfl) rfl, List.forall_mem_cons.mpr ⟨jputf_snd (idx := 34) jc_She (k := 2) (by decide) (jg_in (List.mem_of_getElem? (i := 98) (by decide +kernel)) rfl) rfl, List.forall_mem_cons.mpr ⟨jputf_snd (idx := 40) jc_She (k := 3) (by decide) (jg_in (List.mem_of_getElem? (i := 100) (by decide +kernel)) rfl) rfl, List.forall_mem_cons.mpr ⟨jcalv_snd (idx := 30) (r := (R_She, F_She, 4)) (c_She_shown hnt sz0) Y_She_shown rfl rfl (jg_in (List.mem_of_getElem? (i := 281) (by decide +kernel)) rfl) (jg_in (List.mem_of_getElem? (i := 282) (by decide +kernel)) rfl) (by omega) (jg_in (List.mem_of_getElem? (i := 491) (by decide +kernel)) rfl), List.forall_mem_cons.mpr ⟨jcalv_snd (idx := 43) (r := (R_Sig, F_Sig, 2)) (c_Sig_becomeLike hnt sz0) Y_Sig_becomeLike rfl rfl (jg_in (List.mem_of_getElem? (i := 302) (by decide +kernel)) rfl) (jg_in (List.mem_of_getElem? (i := 303) (by decide +kernel)) rfl) (by omega) (jg_in (List.mem_of_getElem? (i := 343) (by decide +kernel)) rfl), List.forall_mem_cons.mpr ⟨jcall_snd (idx := 37) (c_Mat_min hnt sz0) Y_Mat_min (jg_in (List.mem_of_getElem? (i := 318) (by decide +kernel)) rfl) (by omega) (jg_in (List.mem_of_getElem? (i := 348) (by decide +kernel)) rfl), fun _ h => absurd h List.not_mem_nil⟩⟩⟩⟩⟩⟩⟩⟩
set_option maxRecDepth 20000 in
set_option maxHeartbeats 4000000 in
theorem c_She_makeStep {l : Launch} (hnt : l.stackTraces = false) (sz0 : Nat) : jCon sz0 l y_She_makeStep prog_4_method_3_code 2 (some (.object "Manydoors$Signs")) 4 0 0 (S_She_makeStep sz0) := by
  refine jmet (own := "Manydoors$Sheet") (nm := "makeStep") k_She_makeStep (cp_She_makeStep sz0) [] 60 (plainFor_of_name (by decide)) rfl rfl hnt k_She_makeStep_ok (cp_She_makeStep_ok hnt sz0) (fun _ h => absurd h List.not_mem_nil) ?_
  intro av M sz P X h hz hfr
  unfold S_She_makeStep at h
  split at h
  · rename_i s
    obtain ⟨L, a, b, hs, ho, hlt, h⟩ := h
    have hs0 := hs
    obtain ⟨X, h1, h2, h3, ⟨h4, h5, h6⟩, h7⟩ := hs
    refine ⟨rfl, [], ?_, fun pc a h => absurd h List.not_mem_nil⟩
    conv => whnf
    refine ⟨⟨_, h1⟩, Nat.zero_le _, Nat.zero_le _, L, a, b, hs0, ?_⟩
    conv => whnf
    refine ⟨_, _, h1, rfl, ?_⟩
    conv => whnf
    refine ⟨ho, _, h1, fun M1 e1 => ?_⟩
    have f1 : M1 s = some (.inl (3, [vR (s + 1), vI (((b + a : Nat) : Int) + 1), vI (a : Int), vI ((L.length : Int) - 1 - a)])) := by rw [e1, jup_s]; rfl
    conv => whnf
    refine ⟨_, _, f1, rfl, ?_⟩
    conv => whnf
    refine ⟨Nat.zero_le _, Nat.zero_le _, ⟨by omega, by omega⟩, ⟨by omega, by omega⟩, ?_⟩
    have ea : (if (a : Int) + 1 ≤ 12 then (a : Int) + 1 else 12) = ((stepA a : Nat) : Int) := by unfold stepA; split <;> split <;> omega
    rw [ea]
    conv => whnf
    refine ⟨ho, _, f1, fun M2 e2 => ?_⟩
    have f2 : M2 s = some (.inl (3, [vR (s + 1), vI (((b + a : Nat) : Int) + 1), vI ((stepA a : Nat) : Int), vI ((L.length : Int) - 1 - a)])) := by rw [e2, jup_s]; rfl
    conv => whnf
    refine ⟨ho, _, f2, fun M3 e3 => ?_⟩
    have hA : stepA a ≤ a + 1 ∧ stepA a ≤ 12 := by unfold stepA; split <;> omega
    obtain ⟨b', hb'⟩ : ∃ b', b' + stepA a = b + a + 1 := ⟨b + a + 1 - stepA a, by omega⟩
    have f3 : M3 s = some (.inl (3, [vR (s + 1), vI ((b' + stepA a : Nat) : Int), vI ((stepA a : Nat) : Int), vI (0 : Int)])) := by
      rw [e3, jup_s, hb']
      show some (Sum.inl (3, [vR (s + 1), vI (((b + a : Nat) : Int) + 1), vI ((stepA a : Nat) : Int), vI 0])) = _
      congr 5
    have fr3 : ∀ q : Nat, q ≠ s → M3 q = M q := fun q hq => by rw [e3, jup_n hq, e2, jup_n hq, e1, jup_n hq]
    have g3 : M3 (s + 1) = some (.inr (.inr (.object "Manydoors$Signs", rsg s))) := by rw [fr3 _ (by omega)]; exact h2
    have k3 : ∀ i : Nat, i < 13 → sg M3 (s + 2 + 2 * i) (X i) 120 := fun i hi => by
      obtain ⟨g, k1, k2, k3⟩ := h3 i hi
      exact ⟨g, by rw [fr3 _ (by omega)]; exact k1, by rw [fr3 _ (by omega)]; exact k2, k3⟩
    generalize hX : X ((b + a) % 13) = x0
    have hLa : L.getD a [] = x0 := by rw [← hX]; exact h7 a h5
    rw [hLa] at h
    have hl := stepL_len (x := X ((b' + stepA a) % 13)) h5 h6
    -- the ring as it is now, the shown text an old one
    have ring : ∀ x : List Int, (∀ j : Nat, j < (stepL L a x).length → (stepL L a x).getD j [] = (fun i => if i = (b' + stepA a) % 13 then x else X i) ((b' + j) % 13)) := by
      intro x j hj
      rw [stepL_len h5 h6] at hj
      by_cases cj : j = stepA a
      · subst cj
        simp only [if_true]
        unfold stepL stepA
        by_cases c : a = 12
        · subst c
          simp only [if_true]
          rw [List.getD_eq_getElem?_getD, List.getElem?_append_right (by rw [List.length_drop]; omega)]
          simp
          rw [show 12 - (L.length - 1) = 0 by omega]
          rfl
        · rw [if_neg c, if_neg c, List.getD_eq_getElem?_getD, List.getElem?_append_right (by rw [List.length_take]; omega)]
          simp
          rw [show a + 1 - min (a + 1) L.length = 0 by omega]
          rfl
      · have hne : (b' + j) % 13 ≠ (b' + stepA a) % 13 := by omega
        simp only [if_neg hne]
        unfold stepL stepA at *
        by_cases c : a = 12
        · subst c
          simp only [if_true] at *
          rw [List.getD_eq_getElem?_getD, List.getElem?_append_left (by rw [List.length_drop]; omega), List.getElem?_drop, ← List.getD_eq_getElem?_getD, h7 (1 + j) (by omega)]
          congr 1
          omega
        · rw [if_neg c] at *
          rw [List.getD_eq_getElem?_getD, List.getElem?_append_left (by rw [List.length_take]; omega), List.getElem?_take, if_pos (by omega), ← List.getD_eq_getElem?_getD, h7 j (by omega)]
          congr 1
          omega
    have hm1 : (b' + stepA a) % 13 < 13 := Nat.mod_lt _ (by omega)
    have hm2 : (b + a) % 13 < 13 := Nat.mod_lt _ (by omega)
    have hmn : (b + a) % 13 ≠ (b' + stepA a) % 13 := by omega
    have hsh3 : she M3 s (stepL L a (X ((b' + stepA a) % 13))) (stepA a) b' := by
      refine ⟨X, ?_, g3, k3, ⟨by omega, by omega, by omega⟩, fun j hj => ?_⟩
      · rw [f3, hl]
        have z : ((stepA a + 1 : Nat) : Int) - 1 - ((stepA a : Nat) : Int) = 0 := by omega
        rw [z]
      · rw [ring _ j hj]
        simp only
        split
        · rename_i c; rw [c]
        · rfl
    conv => whnf
    refine ⟨⟨_, f3⟩, Nat.zero_le _, Nat.zero_le _, _, _, _, hsh3, ?_⟩
    conv => whnf
    have kold := k3 _ hm2
    have knew := k3 _ hm1
    rw [hX] at kold
    refine ⟨knew.cls, Nat.zero_le _, Nat.zero_le _, _, _, 120, 120, knew, kold, by unfold sad; omega, ⟨by unfold sad; omega, by unfold sad; omega, by unfold sad; omega⟩, kold.len.1, fun M4 g4 e4 => ?_⟩
    have hsh4 := hsh3.upd g4 e4
    have hset : (stepL L a (X ((b' + stepA a) % 13))).set (stepA a) x0 = stepL L a x0 := by
      unfold stepL stepA
      by_cases c : a = 12
      · subst c
        simp only [if_true]
        rw [List.set_append_right _ _ (by rw [List.length_drop]; omega), List.length_drop, show 12 - (L.length - 1) = 0 by omega]
        rfl
      · rw [if_neg c, if_neg c, if_neg c, List.set_append_right _ _ (by rw [List.length_take]; omega), List.length_take, show a + 1 - min (a + 1) L.length = 0 by omega]
        rfl
    rw [hset] at hsh4
    conv => whnf
    refine ⟨hsh4.cls, Nat.zero_le _, Nat.zero_le _, _, _, _, hsh4, ?_⟩
    conv => whnf
    exact ⟨rfl, h M4 b' hsh4 hb' fun q q1 q2 q3 => by rw [e4 q q2 q3]; exact fr3 q q1⟩
  · exact h.elim
def S_She_takeBack (sz0 : Nat) : jS := fun av M sz P _ => match av with
  | [.inr (.inr (some s)), .inl n] => ∃ (L : List (List Int)) (a b : Nat), she M s L a b ∧ sz0 ≤ s ∧ (0 ≤ n ∧ jr n) ∧ ∀ M' : jM, she M' s L (a - n.toNat) b → (∀ q : Nat, q ≠ s → M' q = M q) → P (some (vI ((min n.toNat a : Nat) : Int))) M' sz
  | _ => False
def k_She_takeBack : List (Nat × jI5) := [(0, .iload_n 1, 1, 0, 0), (1, .aload_n 0, 2, 0, 0), (2, .getfield 34, 5, 0, 0), (5, .invokestatic 37, 8, 0, 0), (8, .istore_n 2, 9, 0, 0), (9, .aload_n 0, 10, 0, 0), (10, .dup, 11, 0, 0), (11, .getfield 20, 14, 0, 0), (14, .iload_n 2, 15, 0, 0), (15, .isub, 16, 0, 0), (16, .putfield 20, 19, 0, 0), (19, .aload_n 0, 20, 0, 0), (20, .dup, 21, 0, 0), (21, .getfield 34, 24, 0, 0), (24, .iload_n 2, 25, 0, 0), (25, .isub, 26, 0, 0), (26, .putfield 34, 29, 0, 0), (29, .aload_n 0, 30, 0, 0), (30, .dup, 31, 0, 0), (31, .getfield 40, 34, 0, 0), (34, .iload_n 2, 35, 0, 0), (35, .iadd, 36, 0, 0), (36, .putfield 40, 39, 0, 0), (39, .iload_n 2, 40, 0, 0), (40, .ireturn, 41, 0, 0)]
theorem k_She_takeBack_ok : k_She_takeBack.all (jok1 prog_4_method_4_code) = true := by decide +kernel
abbrev y_She_takeBack : MethodName := ⟨"Manydoors$Sheet", "takeBack", "(I)I"⟩
theorem Y_She_takeBack : jYok y_She_takeBack prog_4_method_4_code 3 (some .int) 1 := ⟨(jg_in (List.mem_of_getElem? (i := 347) (by decide +kernel)) rfl), (jg_in (List.mem_of_getElem? (i := 43) (by decide +kernel)) rfl), by decide +kernel, by decide⟩
def cp_She_takeBack (sz0 : Nat) : List (Nat × Nat × jTr) := [(0, 20, jget 3 1), (0, 34, jget 3 2), (0, 40, jget 3 3), (1, 20, jputf sz0 3 1 (.int)), (1, 34, jputf sz0 3 2 (.int)), (1, 40, jputf sz0 3 3 (.int)), (4, 37, jcall 2 0 0 (S_Mat_min sz0))]
theorem cp_She_takeBack_ok {l : Launch} (hnt : l.stackTraces = false) (sz0 : Nat) : ∀ q ∈ cp_She_takeBack sz0, jSnd sz0 l "Manydoors$Sheet" "takeBack" 1 (jin q.1 q.2.1) (jlen (jin q.1 q.2.1)) q.2.2 := List.forall_mem_cons.mpr ⟨jget_snd (idx := 20) jc_She (k := 1) (by decide) (jg_in (List.mem_of_getElem? (i := 97) (by decide +kernel)) rfl), List.forall_mem_cons.mpr ⟨jget_snd (idx := 34) jc_She (k := 2) (by decide) (jg_in (List.mem_of_getElem? (i := 98) (by decide +kernel)) rfl), List.forall_mem_cons.mpr ⟨jget_snd (idx := 40) jc_She (k := 3) (by decide) (jg_in (List.mem_of_getElem? (i := 100) (by decide +kernel)) rfl), List.forall_mem_cons.mpr ⟨jputf_snd (idx := 20) jc_She (k := 1) (by decide) (jg_in (List.mem_of_getElem? (i := 97) (by decide +kernel)) rfl) rfl, List.forall_mem_cons.mpr ⟨jputf_snd (idx := 34) jc_She (k := 2) (by decide) (jg_in (List.mem_of_getElem? (i := 98) (by decide +kernel)) rfl) rfl, List.forall_mem_cons.mpr ⟨jputf_snd (idx := 40) jc_She (k := 3) (by decide) (jg_in (List.mem_of_getElem? (i := 100) (by decide +kernel)) rfl) rfl, List.forall_mem_cons.mpr ⟨jcall_snd (idx := 37) (c_Mat_min hnt sz0) Y_Mat_min (jg_in (List.mem_of_getElem? (i := 318) (by decide +kernel)) rfl) (by omega) (jg_in (List.mem_of_getElem? (i := 348) (by decide +kernel)) rfl), fun _ h => absurd h List.not_mem_nil⟩⟩⟩⟩⟩⟩⟩
set_option maxRecDepth 20000 in
set_option maxHeartbeats 4000000 in
theorem c_She_takeBack {l : Launch} (hnt : l.stackTraces = false) (sz0 : Nat) : jCon sz0 l y_She_takeBack prog_4_method_4_code 3 (some .int) 1 0 0 (S_She_takeBack sz0) := by
  refine jmet (own := "Manydoors$Sheet") (nm := "takeBack") k_She_takeBack (cp_She_takeBack sz0) [] 60 (plainFor_of_name (by decide)) rfl rfl hnt k_She_takeBack_ok (cp_She_takeBack_ok hnt sz0) (fun _ h => absurd h List.not_mem_nil) ?_
  intro av M sz P X h hz hfr
  unfold S_She_takeBack at h
  split at h
  · rename_i s n
    obtain ⟨L, a, b, hs, ho, ⟨hn, hjn⟩, h⟩ := h
    obtain ⟨X, h1, h2, h3, ⟨h4, h5, h6⟩, h7⟩ := hs
    refine ⟨rfl, [], ?_, fun pc a h => absurd h List.not_mem_nil⟩
    conv => whnf
    refine ⟨_, _, h1, rfl, ?_⟩
    conv => whnf
    refine ⟨Nat.zero_le _, Nat.zero_le _, hjn, jrn (by omega), ?_⟩
    have et : (if n ≤ (a : Int) then n else (a : Int)) = ((min n.toNat a : Nat) : Int) := by split <;> omega
    rw [et]
    conv => whnf
    refine ⟨_, _, h1, rfl, ?_⟩
    conv => whnf
    refine ⟨ho, _, h1, fun M1 e1 => ?_⟩
    generalize ht : min n.toNat a = t at *
    have f1 : M1 s = some (.inl (3, [vR (s + 1), vI (((b + a : Nat) : Int) - t), vI (a : Int), vI ((L.length : Int) - 1 - a)])) := by rw [e1, jup_s]; rfl
    conv => whnf
    refine ⟨_, _, f1, rfl, ?_⟩
    conv => whnf
    refine ⟨ho, _, f1, fun M2 e2 => ?_⟩
    have f2 : M2 s = some (.inl (3, [vR (s + 1), vI (((b + a : Nat) : Int) - t), vI ((a : Int) - t), vI ((L.length : Int) - 1 - a)])) := by rw [e2, jup_s]; rfl
    conv => whnf
    refine ⟨_, _, f2, rfl, ?_⟩
    conv => whnf
    refine ⟨ho, _, f2, fun M3 e3 => ?_⟩
    have fr3 : ∀ q : Nat, q ≠ s → M3 q = M q := fun q hq => by rw [e3, jup_n hq, e2, jup_n hq, e1, jup_n hq]
    conv => whnf
    refine ⟨trivial, h M3 ⟨X, ?_, ?_, fun i hi => ?_, ⟨by omega, by omega, h6⟩, h7⟩ fr3⟩
    · rw [e3, jup_s]
      show some (Sum.inl (3, [vR (s + 1), vI (((b + a : Nat) : Int) - t), vI ((a : Int) - t), vI ((L.length : Int) - 1 - a + t)])) = _
      have z1 : ((b + a : Nat) : Int) - t = ((b + (a - n.toNat) : Nat) : Int) := by omega
      have z2 : (a : Int) - t = ((a - n.toNat : Nat) : Int) := by omega
      have z3 : (L.length : Int) - 1 - a + t = (L.length : Int) - 1 - ((a - n.toNat : Nat) : Int) := by omega
      rw [z1, z2, z3]
    · rw [fr3 _ (by omega)]; exact h2
    · obtain ⟨g, k1, k2, k3⟩ := h3 i hi
      exact ⟨g, by rw [fr3 _ (by omega)]; exact k1, by rw [fr3 _ (by omega)]; exact k2, k3⟩
  · exact h.elim
def S_She_doAgain (sz0 : Nat) : jS := fun av M sz P _ => match av with
  | [.inr (.inr (some s)), .inl n] => ∃ (L : List (List Int)) (a b : Nat), she M s L a b ∧ sz0 ≤ s ∧ (0 ≤ n ∧ jr n) ∧ b + 12 ≤ 100000 ∧ ∀ M' : jM, she M' s L (a + min n.toNat (L.length - 1 - a)) b → (∀ q : Nat, q ≠ s → M' q = M q) → P (some (vI ((min n.toNat (L.length - 1 - a) : Nat) : Int))) M' sz
  | _ => False
def k_She_doAgain : List (Nat × jI5) := [(0, .iload_n 1, 1, 0, 0), (1, .aload_n 0, 2, 0, 0), (2, .getfield 40, 5, 0, 0), (5, .invokestatic 37, 8, 0, 0), (8, .istore_n 2, 9, 0, 0), (9, .aload_n 0, 10, 0, 0), (10, .dup, 11, 0, 0), (11, .getfield 20, 14, 0, 0), (14, .iload_n 2, 15, 0, 0), (15, .iadd, 16, 0, 0), (16, .putfield 20, 19, 0, 0), (19, .aload_n 0, 20, 0, 0), (20, .dup, 21, 0, 0), (21, .getfield 34, 24, 0, 0), (24, .iload_n 2, 25, 0, 0), (25, .iadd, 26, 0, 0), (26, .putfield 34, 29, 0, 0), (29, .aload_n 0, 30, 0, 0), (30, .dup, 31, 0, 0), (31, .getfield 40, 34, 0, 0), (34, .iload_n 2, 35, 0, 0), (35, .isub, 36, 0, 0), (36, .putfield 40, 39, 0, 0), (39, .iload_n 2, 40, 0, 0), (40, .ireturn, 41, 0, 0)]
theorem k_She_doAgain_ok : k_She_doAgain.all (jok1 prog_4_method_5_code) = true := by decide +kernel
abbrev y_She_doAgain : MethodName := ⟨"Manydoors$Sheet", "doAgain", "(I)I"⟩
theorem Y_She_doAgain : jYok y_She_doAgain prog_4_method_5_code 3 (some .int) 1 := ⟨(jg_in (List.mem_of_getElem? (i := 352) (by decide +kernel)) rfl), (jg_in (List.mem_of_getElem? (i := 43) (by decide +kernel)) rfl), by decide +kernel, by decide⟩
def cp_She_doAgain (sz0 : Nat) : List (Nat × Nat × jTr) := [(0, 20, jget 3 1), (0, 34, jget 3 2), (0, 40, jget 3 3), (1, 20, jputf sz0 3 1 (.int)), (1, 34, jputf sz0 3 2 (.int)), (1, 40, jputf sz0 3 3 (.int)), (4, 37, jcall 2 0 0 (S_Mat_min sz0))]
theorem cp_She_doAgain_ok {l : Launch} (hnt : l.stackTraces = false) (sz0 : Nat) : ∀ q ∈ cp_She_doAgain sz0, jSnd sz0 l "Manydoors$Sheet" "doAgain" 1 (jin q.1 q.2.1) (jlen (jin q.1 q.2.1)) q.2.2 := List.forall_mem_cons.mpr ⟨jget_snd (idx := 20) jc_She (k := 1) (by decide) (jg_in (List.mem_of_getElem? (i := 97) (by decide +kernel)) rfl), List.forall_mem_cons.mpr ⟨jget_snd (idx := 34) jc_She (k := 2) (by decide) (jg_in (List.mem_of_getElem? (i := 98) (by decide +kernel)) rfl), List.forall_mem_cons.mpr ⟨jget_snd (idx := 40) jc_She (k := 3) (by decide) (jg_in (List.mem_of_getElem? (i := 100) (by decide +kernel)) rfl), List.forall_mem_cons.mpr ⟨jputf_snd (idx := 20) jc_She (k := 1) (by decide) (jg_in (List.mem_of_getElem? (i := 97) (by decide +kernel)) rfl) rfl, List.forall_mem_cons.mpr ⟨jputf_snd (idx := 34) jc_She (k := 2) (by decide) (jg_in (List.mem_of_getElem? (i := 98) (by decide +kernel)) rfl) rfl, List.forall_mem_cons.mpr ⟨jputf_snd (idx := 40) jc_She (k := 3) (by decide) (jg_in (List.mem_of_getElem? (i := 100) (by decide +kernel)) rfl) rfl, List.forall_mem_cons.mpr ⟨jcall_snd (idx := 37) (c_Mat_min hnt sz0) Y_Mat_min (jg_in (List.mem_of_getElem? (i := 318) (by decide +kernel)) rfl) (by omega) (jg_in (List.mem_of_getElem? (i := 348) (by decide +kernel)) rfl), fun _ h => absurd h List.not_mem_nil⟩⟩⟩⟩⟩⟩⟩
set_option maxRecDepth 20000 in
set_option maxHeartbeats 4000000 in
theorem c_She_doAgain {l : Launch} (hnt : l.stackTraces = false) (sz0 : Nat) : jCon sz0 l y_She_doAgain prog_4_method_5_code 3 (some .int) 1 0 0 (S_She_doAgain sz0) := by
  refine jmet (own := "Manydoors$Sheet") (nm := "doAgain") k_She_doAgain (cp_She_doAgain sz0) [] 60 (plainFor_of_name (by decide)) rfl rfl hnt k_She_doAgain_ok (cp_She_doAgain_ok hnt sz0) (fun _ h => absurd h List.not_mem_nil) ?_
  intro av M sz P X h hz hfr
  unfold S_She_doAgain at h
  split at h
  · rename_i s n
    obtain ⟨L, a, b, hs, ho, ⟨hn, hjn⟩, hb, h⟩ := h
    obtain ⟨X, h1, h2, h3, ⟨h4, h5, h6⟩, h7⟩ := hs
    refine ⟨rfl, [], ?_, fun pc a h => absurd h List.not_mem_nil⟩
    conv => whnf
    refine ⟨_, _, h1, rfl, ?_⟩
    conv => whnf
    refine ⟨Nat.zero_le _, Nat.zero_le _, hjn, ⟨by omega, by omega⟩, ?_⟩
    have et : (if n ≤ (L.length : Int) - 1 - (a : Int) then n else (L.length : Int) - 1 - (a : Int)) = ((min n.toNat (L.length - 1 - a) : Nat) : Int) := by split <;> omega
    rw [et]
    conv => whnf
    refine ⟨_, _, h1, rfl, ?_⟩
    conv => whnf
    refine ⟨ho, _, h1, fun M1 e1 => ?_⟩
    generalize ht : min n.toNat (L.length - 1 - a) = t at *
    have f1 : M1 s = some (.inl (3, [vR (s + 1), vI (((b + a : Nat) : Int) + t), vI (a : Int), vI ((L.length : Int) - 1 - a)])) := by rw [e1, jup_s]; rfl
    conv => whnf
    refine ⟨_, _, f1, rfl, ?_⟩
    conv => whnf
    refine ⟨ho, _, f1, fun M2 e2 => ?_⟩
    have f2 : M2 s = some (.inl (3, [vR (s + 1), vI (((b + a : Nat) : Int) + t), vI ((a : Int) + t), vI ((L.length : Int) - 1 - a)])) := by rw [e2, jup_s]; rfl
    conv => whnf
    refine ⟨_, _, f2, rfl, ?_⟩
    conv => whnf
    refine ⟨ho, _, f2, fun M3 e3 => ?_⟩
    have fr3 : ∀ q : Nat, q ≠ s → M3 q = M q := fun q hq => by rw [e3, jup_n hq, e2, jup_n hq, e1, jup_n hq]
    conv => whnf
    refine ⟨trivial, h M3 ⟨X, ?_, ?_, fun i hi => ?_, ⟨by omega, by omega, h6⟩, h7⟩ fr3⟩
    · rw [e3, jup_s]
      show some (Sum.inl (3, [vR (s + 1), vI (((b + a : Nat) : Int) + t), vI ((a : Int) + t), vI ((L.length : Int) - 1 - a - t)])) = _
      have z1 : ((b + a : Nat) : Int) + t = ((b + (a + t) : Nat) : Int) := by omega
      have z2 : (a : Int) + t = ((a + t : Nat) : Int) := by omega
      have z3 : (L.length : Int) - 1 - a - t = (L.length : Int) - 1 - ((a + t : Nat) : Int) := by omega
      rw [z1, z2, z3]
    · rw [fr3 _ (by omega)]; exact h2
    · obtain ⟨g, k1, k2, k3⟩ := h3 i hi
      exact ⟨g, by rw [fr3 _ (by omega)]; exact k1, by rw [fr3 _ (by omega)]; exact k2, k3⟩
  · exact h.elim
end
section
def wst.about : State := { start1.about with vm := { start1.about.vm with classes := (start1.about.vm.classes.push (start1.cArr "[I" 0 .int)).push { start1.c18 with name := "java/lang/ArrayStoreException", init := .inProgress 7 } }, heap := start1.about.heap.setIfInBounds 6 { cls := 30, slots := #[], vm := .none } }
/-- the frame below the law's, as at the start -/
def wst.isb (g : NFrame) : Bool := decide (g.method = ⟨0, 0⟩) && decide (g.args = #[]) && decide (g.stage = 0) && decide (g.saved = #[]) && (g.awaiting == false) && g.answer.isNone && g.locked.isNone && decide (g.words = 0)
theorem wst.isb_ok {g : NFrame} (h : wst.isb g = true) : [Frame.native g] = Lib.HandBits.below0 := by
  obtain ⟨a1, a2, a3, a4, a5, a6, a7, a8⟩ := g
  simp only [wst.isb, Bool.and_eq_true, decide_eq_true_eq, beq_iff_eq, Option.isNone_iff_eq_none] at h
  obtain ⟨⟨⟨⟨⟨⟨⟨h1, h2⟩, h3⟩, h4⟩, h5⟩, h6⟩, h7⟩, h8⟩ := h
  subst h1; subst h2; subst h3; subst h4; subst h5; subst h6; subst h7; subst h8
  rfl
/-- a step at a time: the law's frames stand above the one below, till the thread can step no more -/
def wst.go (s : State) : Bool := decide (s.status = .running) && decide (s.curStatus? = some .runnable) && s.alone
def wst.above (s : State) : Bool := match s.frames with
  | [.throwing _, _] => false
  | _ :: x :: r => (match (x :: r).getLast? with
    | some (.native g) => wst.isb g
    | _ => false)
  | _ => false
def wst.chk (tb : Tables) (e : Env) : Nat → State → Bool
  | 0, _ => false
  | n + 1, s => wst.above s && (match wst.go s with
    | true => wst.chk tb e n (stepsAlone tb e 1 s)
    | false => true)
theorem wst.stuck (tb : Tables) (e : Env) (s : State) (h : wst.go s = false) (j : Nat) : stepsAlone tb e j s = s := by
  cases j with
  | zero => rfl
  | succ j =>
    unfold stepsAlone
    split
    · rename_i h1 h2 h3
      simp [wst.go, h1, h2, h3] at h
    · rfl
theorem wst.alone_succ (tb : Tables) (e : Env) (j : Nat) (s : State) : stepsAlone tb e (j + 1) s = stepsAlone tb e j (stepsAlone tb e 1 s) := by
  have key : ∀ (s : State), ¬ (s.status = .running ∧ s.curStatus? = some .runnable ∧ s.alone = true) → ∀ j, stepsAlone tb e j s = s := by
    intro s h j
    cases j with
    | zero => rfl
    | succ j =>
      unfold stepsAlone
      split
      · rename_i h1 h2 h3
        exact absurd ⟨h1, h2, h3⟩ h
      · rfl
  by_cases h : s.status = .running ∧ s.curStatus? = some .runnable ∧ s.alone = true
  · obtain ⟨h1, h2, h3⟩ := h
    have e1 : ∀ i, stepsAlone tb e (i + 1) s = stepsAlone tb e i (stepThread tb e s).1 := by
      intro i
      conv => lhs; unfold stepsAlone
      rw [h1, h2, h3]
    rw [e1 j, e1 0]
    rfl
  · rw [key s h, key s h, key s h]
theorem wst.gl {α : Type} : ∀ (l : List α) (g : α), l.getLast? = some g → ∃ ys, l = ys ++ [g]
  | [], g, h => by simp at h
  | [a], g, h => ⟨[], by simp at h; simp [h]⟩
  | a :: b :: r, g, h => by
    have h2 : (b :: r).getLast? = some g := by rw [List.getLast?_cons_cons] at h; exact h
    obtain ⟨ys, e⟩ := wst.gl (b :: r) g h2
    exact ⟨a :: ys, by rw [e]; rfl⟩
theorem wst.split_last {x : Frame} {r : List Frame} {g : Frame} (h : (x :: r).getLast? = some g) : ∃ l, x :: r = l ++ [g] := wst.gl _ _ h
theorem wst.above_ok {s : State} (h : wst.above s = true) : Within s Lib.HandBits.below0 := by
  unfold wst.above at h
  split at h
  · cases h
  · rename_i f x r hne hf
    split at h
    · rename_i g hg
      obtain ⟨l, hl⟩ := wst.split_last hg
      refine ⟨f :: l, ?_, List.cons_ne_nil _ _, fun a9 h9 => ?_⟩
      · rw [hf, hl, ← wst.isb_ok h]
        rfl
      · cases h9
        rw [List.nil_append] at hl
        cases hl
        exact hne a9 rfl rfl
    · cases h
  · cases h
theorem wst.chk_ok {tb : Tables} {e : Env} : ∀ (n : Nat) (s : State), wst.chk tb e n s = true → ∀ j, Within (stepsAlone tb e j s) Lib.HandBits.below0
  | 0, s, h, _ => by simp [wst.chk] at h
  | n + 1, s, h, j => by
    unfold wst.chk at h
    rw [Bool.and_eq_true] at h
    obtain ⟨h0, h⟩ := h
    split at h
    · cases j with
      | zero => exact wst.above_ok h0
      | succ j =>
        rw [wst.alone_succ]
        exact wst.chk_ok n _ h j
    · rename_i hgo
      rw [wst.stuck tb e s hgo]
      exact wst.above_ok h0
end
section
set_option maxRecDepth 100000 in
theorem wst.g502 : wst.go (stepsAlone start1.p0.tables start1.e0 502 wst.about) = true := by decide +kernel
set_option maxRecDepth 100000 in
theorem wst.g504 : wst.go (stepsAlone start1.p0.tables start1.e0 504 wst.about) = true := by decide +kernel
set_option maxRecDepth 100000 in
theorem wst.g506 : wst.go (stepsAlone start1.p0.tables start1.e0 506 wst.about) = true := by decide +kernel
end
