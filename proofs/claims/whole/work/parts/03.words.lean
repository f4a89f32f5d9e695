theorem i_Arc : ∀ w ∈ u_ws R_Arc F_Arc 10, w ∈ m_TB := by decide +kernel
theorem i_Line : ∀ w ∈ u_ws R_Line F_Line 2, w ∈ m_TB := by decide +kernel
theorem i_Draft : ∀ w ∈ u_ws R_Draft F_Draft 2, w ∈ m_TB := by decide +kernel
theorem i_Letters : ∀ w ∈ u_ws R_Letters F_Letters 2, w ∈ m_TB := by decide +kernel
theorem i_Message : ∀ w ∈ u_ws R_Message F_Message 9, w ∈ m_TB := by decide +kernel
theorem i_Reader : ∀ w ∈ u_ws R_Reader F_Reader 2, w ∈ m_TB := by decide +kernel
theorem i_Threads : ∀ w ∈ u_ws R_Threads F_Threads 1, w ∈ m_TB := by decide +kernel
theorem i_Query : ∀ w ∈ u_ws R_Query F_Query 7, w ∈ m_TB := by decide +kernel
theorem i_Mod : ∀ w ∈ u_ws R_Mod F_Mod 28, w ∈ m_TB := by decide +kernel
set_option maxRecDepth 100000 in
theorem qc_Arc_init : Cond.code y_Arc_init b_Arc_init 2 none ∈ m_TB := m_in_t (List.mem_of_getElem? (i := 18) rfl) rfl
set_option maxRecDepth 100000 in
theorem qc_Line_init : Cond.code y_Line_init b_Line_init 1 none ∈ m_TB := m_in_t (List.mem_of_getElem? (i := 26) rfl) rfl
set_option maxRecDepth 100000 in
theorem qc_Draft_init : Cond.code y_Draft_init b_Draft_init 2 none ∈ m_TB := m_in_t (List.mem_of_getElem? (i := 45) rfl) rfl
set_option maxRecDepth 100000 in
theorem qc_Reader_init : Cond.code y_Reader_init b_Reader_init 1 none ∈ m_TB := m_in_t (List.mem_of_getElem? (i := 64) rfl) rfl
set_option maxRecDepth 100000 in
theorem qc_Letters_init : Cond.code y_Letters_init b_Letters_init 1 none ∈ m_TB := m_in_t (List.mem_of_getElem? (i := 70) rfl) rfl
set_option maxRecDepth 100000 in
theorem qc_Threads_init : Cond.code y_Threads_init b_Threads_init 1 none ∈ m_TB := m_in_t (List.mem_of_getElem? (i := 96) rfl) rfl
set_option maxRecDepth 100000 in
theorem qc_Threads_clear : Cond.code y_Threads_clear b_Threads_clear 2 none ∈ m_TB := m_in_t (List.mem_of_getElem? (i := 101) rfl) rfl
set_option maxRecDepth 100000 in
theorem qc_Query_init : Cond.code y_Query_init b_Query_init 1 none ∈ m_TB := m_in_t (List.mem_of_getElem? (i := 111) rfl) rfl
set_option maxRecDepth 100000 in
theorem qc_Message_init : Cond.code y_Message_init b_Message_init 1 none ∈ m_TB := m_in_t (List.mem_of_getElem? (i := 143) rfl) rfl
set_option maxRecDepth 100000 in
theorem qc_Arc_type : Cond.code y_Arc_type b_Arc_type 2 (some .int) ∈ m_TB := m_in_t (List.mem_of_getElem? (i := 218) rfl) rfl
set_option maxRecDepth 100000 in
theorem qc_Line_put : Cond.code y_Line_put b_Line_put 2 (some .boolean) ∈ m_TB := m_in_t (List.mem_of_getElem? (i := 222) rfl) rfl
set_option maxRecDepth 100000 in
theorem qc_Arc_enter : Cond.code y_Arc_enter b_Arc_enter 1 (some .int) ∈ m_TB := m_in_t (List.mem_of_getElem? (i := 226) rfl) rfl
set_option maxRecDepth 100000 in
theorem qc_Draft_take : Cond.code y_Draft_take b_Draft_take 2 (some .boolean) ∈ m_TB := m_in_t (List.mem_of_getElem? (i := 230) rfl) rfl
set_option maxRecDepth 100000 in
theorem qc_Line_copyFrom : Cond.code y_Line_copyFrom b_Line_copyFrom 2 none ∈ m_TB := m_in_t (List.mem_of_getElem? (i := 234) rfl) rfl
set_option maxRecDepth 100000 in
theorem qc_Line_clear : Cond.code y_Line_clear b_Line_clear 1 none ∈ m_TB := m_in_t (List.mem_of_getElem? (i := 241) rfl) rfl
set_option maxRecDepth 100000 in
theorem qc_Arc_wipe : Cond.code y_Arc_wipe b_Arc_wipe 2 (some .int) ∈ m_TB := m_in_t (List.mem_of_getElem? (i := 245) rfl) rfl
set_option maxRecDepth 100000 in
theorem qc_Draft_clear : Cond.code y_Draft_clear b_Draft_clear 1 none ∈ m_TB := m_in_t (List.mem_of_getElem? (i := 249) rfl) rfl
set_option maxRecDepth 100000 in
theorem qc_Arc_add : Cond.code y_Arc_add b_Arc_add 2 (some .int) ∈ m_TB := m_in_t (List.mem_of_getElem? (i := 253) rfl) rfl
set_option maxRecDepth 100000 in
theorem qc_Arc_numberForDraft : Cond.code y_Arc_numberForDraft b_Arc_numberForDraft 3 (some .int) ∈ m_TB := m_in_t (List.mem_of_getElem? (i := 257) rfl) rfl
set_option maxRecDepth 100000 in
theorem qc_Draft_id : Cond.code y_Draft_id b_Draft_id 2 (some .int) ∈ m_TB := m_in_t (List.mem_of_getElem? (i := 261) rfl) rfl
set_option maxRecDepth 100000 in
theorem qc_Draft_header : Cond.code y_Draft_header b_Draft_header 5 (some (.object "ThreadedArchive$Line")) ∈ m_TB := m_in_t (List.mem_of_getElem? (i := 265) rfl) rfl
set_option maxRecDepth 100000 in
theorem qc_Draft_headersEnd : Cond.code y_Draft_headersEnd b_Draft_headersEnd 4 (some .int) ∈ m_TB := m_in_t (List.mem_of_getElem? (i := 269) rfl) rfl
set_option maxRecDepth 100000 in
theorem qc_Line_isHeader : Cond.code y_Line_isHeader b_Line_isHeader 2 (some .boolean) ∈ m_TB := m_in_t (List.mem_of_getElem? (i := 273) rfl) rfl
set_option maxRecDepth 100000 in
theorem qc_Line_at : Cond.code y_Line_at b_Line_at 2 (some .int) ∈ m_TB := m_in_t (List.mem_of_getElem? (i := 277) rfl) rfl
set_option maxRecDepth 100000 in
theorem qc_Line_idBetween : Cond.code y_Line_idBetween b_Line_idBetween 6 (some .int) ∈ m_TB := m_in_t (List.mem_of_getElem? (i := 281) rfl) rfl
set_option maxRecDepth 100000 in
theorem qc_Arc_digit : Cond.code y_Arc_digit b_Arc_digit 1 (some .int) ∈ m_TB := m_in_t (List.mem_of_getElem? (i := 284) rfl) rfl
set_option maxRecDepth 100000 in
theorem qc_Arc_numberWithId : Cond.code y_Arc_numberWithId b_Arc_numberWithId 3 (some .int) ∈ m_TB := m_in_t (List.mem_of_getElem? (i := 288) rfl) rfl
set_option maxRecDepth 100000 in
theorem qc_Reader_readDraft : Cond.code y_Reader_readDraft b_Reader_readDraft 3 none ∈ m_TB := m_in_t (List.mem_of_getElem? (i := 292) rfl) rfl
set_option maxRecDepth 100000 in
theorem qc_Message_begin : Cond.code y_Message_begin b_Message_begin 2 none ∈ m_TB := m_in_t (List.mem_of_getElem? (i := 297) rfl) rfl
set_option maxRecDepth 100000 in
theorem qc_Message_setReferences : Cond.code y_Message_setReferences b_Message_setReferences 2 none ∈ m_TB := m_in_t (List.mem_of_getElem? (i := 302) rfl) rfl
set_option maxRecDepth 100000 in
theorem qc_Message_readReferences : Cond.code y_Message_readReferences b_Message_readReferences 6 (some .int) ∈ m_TB := m_in_t (List.mem_of_getElem? (i := 306) rfl) rfl
set_option maxRecDepth 100000 in
theorem qc_Line_blankFrom : Cond.code y_Line_blankFrom b_Line_blankFrom 3 (some .int) ∈ m_TB := m_in_t (List.mem_of_getElem? (i := 310) rfl) rfl
set_option maxRecDepth 100000 in
theorem qc_Reader_readHeader : Cond.code y_Reader_readHeader b_Reader_readHeader 4 none ∈ m_TB := m_in_t (List.mem_of_getElem? (i := 315) rfl) rfl
set_option maxRecDepth 100000 in
theorem qc_Reader_readLine : Cond.code y_Reader_readLine b_Reader_readLine 7 none ∈ m_TB := m_in_t (List.mem_of_getElem? (i := 319) rfl) rfl
set_option maxRecDepth 100000 in
theorem qc_Arc_letter : Cond.code y_Arc_letter b_Arc_letter 1 (some .int) ∈ m_TB := m_in_t (List.mem_of_getElem? (i := 323) rfl) rfl
set_option maxRecDepth 100000 in
theorem qc_Arc_smallLetter : Cond.code y_Arc_smallLetter b_Arc_smallLetter 1 (some .int) ∈ m_TB := m_in_t (List.mem_of_getElem? (i := 326) rfl) rfl
set_option maxRecDepth 100000 in
theorem qc_Letters_put : Cond.code y_Letters_put b_Letters_put 2 none ∈ m_TB := m_in_t (List.mem_of_getElem? (i := 330) rfl) rfl
set_option maxRecDepth 100000 in
theorem qc_Message_takeWord : Cond.code y_Message_takeWord b_Message_takeWord 3 none ∈ m_TB := m_in_t (List.mem_of_getElem? (i := 335) rfl) rfl
set_option maxRecDepth 100000 in
theorem qc_Letters_clear : Cond.code y_Letters_clear b_Letters_clear 1 none ∈ m_TB := m_in_t (List.mem_of_getElem? (i := 339) rfl) rfl
set_option maxRecDepth 100000 in
theorem qc_Reader_readPart : Cond.code y_Reader_readPart b_Reader_readPart 8 none ∈ m_TB := m_in_t (List.mem_of_getElem? (i := 343) rfl) rfl
set_option maxRecDepth 100000 in
theorem qc_Draft_bodyStart : Cond.code y_Draft_bodyStart b_Draft_bodyStart 3 (some .int) ∈ m_TB := m_in_t (List.mem_of_getElem? (i := 347) rfl) rfl
set_option maxRecDepth 100000 in
theorem qc_Math_min : Cond.code y_Math_min b_Math_min 2 (some .int) ∈ m_TB := m_in_t (List.mem_of_getElem? (i := 350) rfl) rfl
set_option maxRecDepth 100000 in
theorem qc_Reader_readMulti : Cond.code y_Reader_readMulti b_Reader_readMulti 10 none ∈ m_TB := m_in_t (List.mem_of_getElem? (i := 354) rfl) rfl
set_option maxRecDepth 100000 in
theorem qc_Draft_closingPlace : Cond.code y_Draft_closingPlace b_Draft_closingPlace 5 (some .int) ∈ m_TB := m_in_t (List.mem_of_getElem? (i := 358) rfl) rfl
set_option maxRecDepth 100000 in
theorem qc_Line_isClosing : Cond.code y_Line_isClosing b_Line_isClosing 2 (some .boolean) ∈ m_TB := m_in_t (List.mem_of_getElem? (i := 362) rfl) rfl
set_option maxRecDepth 100000 in
theorem qc_Line_isCut : Cond.code y_Line_isCut b_Line_isCut 2 (some .boolean) ∈ m_TB := m_in_t (List.mem_of_getElem? (i := 366) rfl) rfl
set_option maxRecDepth 100000 in
theorem qc_Reader_readLeaf : Cond.code y_Reader_readLeaf b_Reader_readLeaf 9 none ∈ m_TB := m_in_t (List.mem_of_getElem? (i := 370) rfl) rfl
set_option maxRecDepth 100000 in
theorem qc_Reader_decode : Cond.code y_Reader_decode b_Reader_decode 5 (some (.object "ThreadedArchive$Line")) ∈ m_TB := m_in_t (List.mem_of_getElem? (i := 374) rfl) rfl
set_option maxRecDepth 100000 in
theorem qc_Arc_hexDigit : Cond.code y_Arc_hexDigit b_Arc_hexDigit 1 (some .int) ∈ m_TB := m_in_t (List.mem_of_getElem? (i := 378) rfl) rfl
set_option maxRecDepth 100000 in
theorem qc_Arc_rejoinThreads : Cond.code y_Arc_rejoinThreads b_Arc_rejoinThreads 2 none ∈ m_TB := m_in_t (List.mem_of_getElem? (i := 384) rfl) rfl
set_option maxRecDepth 100000 in
theorem qc_Threads_join : Cond.code y_Threads_join b_Threads_join 4 none ∈ m_TB := m_in_t (List.mem_of_getElem? (i := 389) rfl) rfl
set_option maxRecDepth 100000 in
theorem qc_Threads_setParent : Cond.code y_Threads_setParent b_Threads_setParent 3 none ∈ m_TB := m_in_t (List.mem_of_getElem? (i := 393) rfl) rfl
set_option maxRecDepth 100000 in
theorem qc_Threads_makesRing : Cond.code y_Threads_makesRing b_Threads_makesRing 5 (some .boolean) ∈ m_TB := m_in_t (List.mem_of_getElem? (i := 397) rfl) rfl
set_option maxRecDepth 100000 in
theorem qc_Arc_drop : Cond.code y_Arc_drop b_Arc_drop 3 (some .int) ∈ m_TB := m_in_t (List.mem_of_getElem? (i := 401) rfl) rfl
set_option maxRecDepth 100000 in
theorem qc_Arc_messageAt : Cond.code y_Arc_messageAt b_Arc_messageAt 2 (some (.object "ThreadedArchive$Message")) ∈ m_TB := m_in_t (List.mem_of_getElem? (i := 405) rfl) rfl
set_option maxRecDepth 100000 in
theorem qc_Arc_removeFromOrder : Cond.code y_Arc_removeFromOrder b_Arc_removeFromOrder 4 none ∈ m_TB := m_in_t (List.mem_of_getElem? (i := 409) rfl) rfl
set_option maxRecDepth 100000 in
theorem qc_Arc_tag : Cond.code y_Arc_tag b_Arc_tag 5 (some .int) ∈ m_TB := m_in_t (List.mem_of_getElem? (i := 413) rfl) rfl
set_option maxRecDepth 100000 in
theorem qc_Message_setTag : Cond.code y_Message_setTag b_Message_setTag 4 none ∈ m_TB := m_in_t (List.mem_of_getElem? (i := 417) rfl) rfl
set_option maxRecDepth 100000 in
theorem qc_Arc_search : Cond.code y_Arc_search b_Arc_search 1 (some .int) ∈ m_TB := m_in_t (List.mem_of_getElem? (i := 421) rfl) rfl
set_option maxRecDepth 100000 in
theorem qc_Query_read : Cond.code y_Query_read b_Query_read 4 (some .int) ∈ m_TB := m_in_t (List.mem_of_getElem? (i := 425) rfl) rfl
set_option maxRecDepth 100000 in
theorem qc_Query_beginLevel : Cond.code y_Query_beginLevel b_Query_beginLevel 1 none ∈ m_TB := m_in_t (List.mem_of_getElem? (i := 429) rfl) rfl
set_option maxRecDepth 100000 in
theorem qc_Query_beginOne : Cond.code y_Query_beginOne b_Query_beginOne 1 none ∈ m_TB := m_in_t (List.mem_of_getElem? (i := 433) rfl) rfl
set_option maxRecDepth 100000 in
theorem qc_Query_readCharacter : Cond.code y_Query_readCharacter b_Query_readCharacter 3 (some .boolean) ∈ m_TB := m_in_t (List.mem_of_getElem? (i := 439) rfl) rfl
set_option maxRecDepth 100000 in
theorem qc_Query_readLetter : Cond.code y_Query_readLetter b_Query_readLetter 3 (some .boolean) ∈ m_TB := m_in_t (List.mem_of_getElem? (i := 443) rfl) rfl
set_option maxRecDepth 100000 in
theorem qc_Query_readNot : Cond.code y_Query_readNot b_Query_readNot 2 (some .boolean) ∈ m_TB := m_in_t (List.mem_of_getElem? (i := 449) rfl) rfl
set_option maxRecDepth 100000 in
theorem qc_Query_readOpening : Cond.code y_Query_readOpening b_Query_readOpening 2 (some .boolean) ∈ m_TB := m_in_t (List.mem_of_getElem? (i := 453) rfl) rfl
set_option maxRecDepth 100000 in
theorem qc_Query_readColon : Cond.code y_Query_readColon b_Query_readColon 3 (some .boolean) ∈ m_TB := m_in_t (List.mem_of_getElem? (i := 457) rfl) rfl
set_option maxRecDepth 100000 in
theorem qc_Query_fieldNamed : Cond.code y_Query_fieldNamed b_Query_fieldNamed 2 (some .int) ∈ m_TB := m_in_t (List.mem_of_getElem? (i := 460) rfl) rfl
set_option maxRecDepth 100000 in
theorem qc_Query_readBehindWord : Cond.code y_Query_readBehindWord b_Query_readBehindWord 3 (some .boolean) ∈ m_TB := m_in_t (List.mem_of_getElem? (i := 464) rfl) rfl
set_option maxRecDepth 100000 in
theorem qc_Query_endWord : Cond.code y_Query_endWord b_Query_endWord 5 none ∈ m_TB := m_in_t (List.mem_of_getElem? (i := 468) rfl) rfl
set_option maxRecDepth 100000 in
theorem qc_Message_hasMatch : Cond.code y_Message_hasMatch b_Message_hasMatch 7 (some .boolean) ∈ m_TB := m_in_t (List.mem_of_getElem? (i := 472) rfl) rfl
set_option maxRecDepth 100000 in
theorem qc_Message_beginsWith : Cond.code y_Message_beginsWith b_Message_beginsWith 7 (some .boolean) ∈ m_TB := m_in_t (List.mem_of_getElem? (i := 475) rfl) rfl
set_option maxRecDepth 100000 in
theorem qc_Query_endOne : Cond.code y_Query_endOne b_Query_endOne 2 none ∈ m_TB := m_in_t (List.mem_of_getElem? (i := 479) rfl) rfl
set_option maxRecDepth 100000 in
theorem qc_Query_readBehindOne : Cond.code y_Query_readBehindOne b_Query_readBehindOne 2 (some .boolean) ∈ m_TB := m_in_t (List.mem_of_getElem? (i := 483) rfl) rfl
set_option maxRecDepth 100000 in
theorem qc_Query_readClosing : Cond.code y_Query_readClosing b_Query_readClosing 2 (some .boolean) ∈ m_TB := m_in_t (List.mem_of_getElem? (i := 487) rfl) rfl
set_option maxRecDepth 100000 in
theorem qc_Query_readTag : Cond.code y_Query_readTag b_Query_readTag 6 (some .boolean) ∈ m_TB := m_in_t (List.mem_of_getElem? (i := 491) rfl) rfl
set_option maxRecDepth 100000 in
theorem qc_Message_hasTag : Cond.code y_Message_hasTag b_Message_hasTag 2 (some .boolean) ∈ m_TB := m_in_t (List.mem_of_getElem? (i := 496) rfl) rfl
set_option maxRecDepth 100000 in
theorem qc_Query_holding : Cond.code y_Query_holding b_Query_holding 1 (some .int) ∈ m_TB := m_in_t (List.mem_of_getElem? (i := 500) rfl) rfl
set_option maxRecDepth 100000 in
theorem qc_Arc_numbersThere : Cond.code y_Arc_numbersThere b_Arc_numbersThere 3 (some .int) ∈ m_TB := m_in_t (List.mem_of_getElem? (i := 504) rfl) rfl
set_option maxRecDepth 100000 in
theorem qc_Integer_bitCount : Cond.code y_Integer_bitCount b_Integer_bitCount 1 (some .int) ∈ m_TB := m_in_t (List.mem_of_getElem? (i := 507) rfl) rfl
set_option maxRecDepth 100000 in
theorem qc_Arc_errorAt : Cond.code y_Arc_errorAt b_Arc_errorAt 1 (some .int) ∈ m_TB := m_in_t (List.mem_of_getElem? (i := 514) rfl) rfl
set_option maxRecDepth 100000 in
theorem qc_Arc_hit : Cond.code y_Arc_hit b_Arc_hit 2 (some .int) ∈ m_TB := m_in_t (List.mem_of_getElem? (i := 518) rfl) rfl
set_option maxRecDepth 100000 in
theorem qc_Arc_numberInSet : Cond.code y_Arc_numberInSet b_Arc_numberInSet 4 (some .int) ∈ m_TB := m_in_t (List.mem_of_getElem? (i := 521) rfl) rfl
set_option maxRecDepth 100000 in
theorem qc_Arc_related : Cond.code y_Arc_related b_Arc_related 6 (some .int) ∈ m_TB := m_in_t (List.mem_of_getElem? (i := 525) rfl) rfl
set_option maxRecDepth 100000 in
theorem qc_Arc_rootsOf : Cond.code y_Arc_rootsOf b_Arc_rootsOf 5 (some .long) ∈ m_TB := m_in_t (List.mem_of_getElem? (i := 529) rfl) rfl
set_option maxRecDepth 100000 in
theorem qc_Arc_rootBit : Cond.code y_Arc_rootBit b_Arc_rootBit 2 (some .long) ∈ m_TB := m_in_t (List.mem_of_getElem? (i := 533) rfl) rfl
set_option maxRecDepth 100000 in
theorem qc_Threads_topOf : Cond.code y_Threads_topOf b_Threads_topOf 4 (some .int) ∈ m_TB := m_in_t (List.mem_of_getElem? (i := 537) rfl) rfl
set_option maxRecDepth 100000 in
theorem qc_Arc_idOf : Cond.code y_Arc_idOf b_Arc_idOf 3 (some .int) ∈ m_TB := m_in_t (List.mem_of_getElem? (i := 541) rfl) rfl
set_option maxRecDepth 100000 in
theorem qc_Arc_answers : Cond.code y_Arc_answers b_Arc_answers 6 (some .int) ∈ m_TB := m_in_t (List.mem_of_getElem? (i := 545) rfl) rfl
set_option maxRecDepth 100000 in
theorem qc_Threads_parentOf : Cond.code y_Threads_parentOf b_Threads_parentOf 2 (some .int) ∈ m_TB := m_in_t (List.mem_of_getElem? (i := 549) rfl) rfl
set_option maxRecDepth 100000 in
theorem qc_Arc_root : Cond.code y_Arc_root b_Arc_root 2 (some .int) ∈ m_TB := m_in_t (List.mem_of_getElem? (i := 553) rfl) rfl
set_option maxRecDepth 100000 in
theorem qc_Arc_word : Cond.code y_Arc_word b_Arc_word 4 (some .long) ∈ m_TB := m_in_t (List.mem_of_getElem? (i := 557) rfl) rfl
set_option maxRecDepth 100000 in
theorem qc_Message_hasWord : Cond.code y_Message_hasWord b_Message_hasWord 2 (some .boolean) ∈ m_TB := m_in_t (List.mem_of_getElem? (i := 561) rfl) rfl
set_option maxRecDepth 100000 in
theorem qc_Arc_field : Cond.code y_Arc_field b_Arc_field 4 (some .int) ∈ m_TB := m_in_t (List.mem_of_getElem? (i := 566) rfl) rfl
set_option maxRecDepth 100000 in
theorem qc_Arc_count : Cond.code y_Arc_count b_Arc_count 2 (some .int) ∈ m_TB := m_in_t (List.mem_of_getElem? (i := 570) rfl) rfl
set_option maxRecDepth 100000 in
theorem qc_Long_bitCount : Cond.code y_Long_bitCount b_Long_bitCount 2 (some .int) ∈ m_TB := m_in_t (List.mem_of_getElem? (i := 573) rfl) rfl
set_option maxRecDepth 100000 in
theorem qc_Arc_differentCodes : Cond.code y_Arc_differentCodes b_Arc_differentCodes 5 (some .int) ∈ m_TB := m_in_t (List.mem_of_getElem? (i := 580) rfl) rfl
set_option maxRecDepth 100000 in
theorem qc_Message_hasCodeBefore : Cond.code y_Message_hasCodeBefore b_Message_hasCodeBefore 5 (some .boolean) ∈ m_TB := m_in_t (List.mem_of_getElem? (i := 584) rfl) rfl
set_option maxRecDepth 100000 in
theorem qc_Arc_isCodeEarlier : Cond.code y_Arc_isCodeEarlier b_Arc_isCodeEarlier 6 (some .boolean) ∈ m_TB := m_in_t (List.mem_of_getElem? (i := 588) rfl) rfl
set_option maxRecDepth 100000 in
theorem qc_Arc_leavesOf : Cond.code y_Arc_leavesOf b_Arc_leavesOf 3 (some .int) ∈ m_TB := m_in_t (List.mem_of_getElem? (i := 592) rfl) rfl
set_option maxRecDepth 100000 in
theorem qc_Mod_init : Cond.code y_Mod_init b_Mod_init 1 none ∈ m_TB := m_in_t (List.mem_of_getElem? (i := 597) rfl) rfl
set_option maxRecDepth 100000 in
theorem qc_Mod_type : Cond.code y_Mod_type b_Mod_type 2 (some .int) ∈ m_TB := m_in_t (List.mem_of_getElem? (i := 687) rfl) rfl
set_option maxRecDepth 100000 in
theorem qc_Mod_out : Cond.code y_Mod_out b_Mod_out 2 (some .boolean) ∈ m_TB := m_in_t (List.mem_of_getElem? (i := 690) rfl) rfl
set_option maxRecDepth 100000 in
theorem qc_Mod_enter : Cond.code y_Mod_enter b_Mod_enter 2 (some .int) ∈ m_TB := m_in_t (List.mem_of_getElem? (i := 694) rfl) rfl
set_option maxRecDepth 100000 in
theorem qc_Mod_at : Cond.code y_Mod_at b_Mod_at 3 (some .int) ∈ m_TB := m_in_t (List.mem_of_getElem? (i := 698) rfl) rfl
set_option maxRecDepth 100000 in
theorem qc_Mod_wipe : Cond.code y_Mod_wipe b_Mod_wipe 2 (some .int) ∈ m_TB := m_in_t (List.mem_of_getElem? (i := 702) rfl) rfl
set_option maxRecDepth 100000 in
theorem qc_Mod_add : Cond.code y_Mod_add b_Mod_add 6 (some .int) ∈ m_TB := m_in_t (List.mem_of_getElem? (i := 706) rfl) rfl
set_option maxRecDepth 100000 in
theorem qc_Mod_header : Cond.code y_Mod_header b_Mod_header 7 (some .int) ∈ m_TB := m_in_t (List.mem_of_getElem? (i := 710) rfl) rfl
set_option maxRecDepth 100000 in
theorem qc_Mod_emptyLine : Cond.code y_Mod_emptyLine b_Mod_emptyLine 4 (some .int) ∈ m_TB := m_in_t (List.mem_of_getElem? (i := 714) rfl) rfl
set_option maxRecDepth 100000 in
theorem qc_Mod_number : Cond.code y_Mod_number b_Mod_number 6 (some .int) ∈ m_TB := m_in_t (List.mem_of_getElem? (i := 718) rfl) rfl
set_option maxRecDepth 100000 in
theorem qc_Mod_fill : Cond.code y_Mod_fill b_Mod_fill 7 none ∈ m_TB := m_in_t (List.mem_of_getElem? (i := 722) rfl) rfl
set_option maxRecDepth 100000 in
theorem qc_Mod_readReferences : Cond.code y_Mod_readReferences b_Mod_readReferences 8 none ∈ m_TB := m_in_t (List.mem_of_getElem? (i := 726) rfl) rfl
set_option maxRecDepth 100000 in
theorem qc_Mod_collect : Cond.code y_Mod_collect b_Mod_collect 5 none ∈ m_TB := m_in_t (List.mem_of_getElem? (i := 730) rfl) rfl
set_option maxRecDepth 100000 in
theorem qc_Mod_letter : Cond.code y_Mod_letter b_Mod_letter 4 none ∈ m_TB := m_in_t (List.mem_of_getElem? (i := 734) rfl) rfl
set_option maxRecDepth 100000 in
theorem qc_Mod_push : Cond.code y_Mod_push b_Mod_push 4 none ∈ m_TB := m_in_t (List.mem_of_getElem? (i := 739) rfl) rfl
set_option maxRecDepth 100000 in
theorem qc_Mod_takePart : Cond.code y_Mod_takePart b_Mod_takePart 10 none ∈ m_TB := m_in_t (List.mem_of_getElem? (i := 743) rfl) rfl
set_option maxRecDepth 100000 in
theorem qc_Mod_leaf : Cond.code y_Mod_leaf b_Mod_leaf 7 none ∈ m_TB := m_in_t (List.mem_of_getElem? (i := 747) rfl) rfl
set_option maxRecDepth 100000 in
theorem qc_Mod_collectCoded : Cond.code y_Mod_collectCoded b_Mod_collectCoded 5 none ∈ m_TB := m_in_t (List.mem_of_getElem? (i := 751) rfl) rfl
set_option maxRecDepth 100000 in
theorem qc_Mod_hex : Cond.code y_Mod_hex b_Mod_hex 1 (some .int) ∈ m_TB := m_in_t (List.mem_of_getElem? (i := 754) rfl) rfl
set_option maxRecDepth 100000 in
theorem qc_Mod_closes : Cond.code y_Mod_closes b_Mod_closes 3 (some .boolean) ∈ m_TB := m_in_t (List.mem_of_getElem? (i := 758) rfl) rfl
set_option maxRecDepth 100000 in
theorem qc_Mod_cuts : Cond.code y_Mod_cuts b_Mod_cuts 3 (some .boolean) ∈ m_TB := m_in_t (List.mem_of_getElem? (i := 762) rfl) rfl
set_option maxRecDepth 100000 in
theorem qc_Mod_drop : Cond.code y_Mod_drop b_Mod_drop 2 (some .int) ∈ m_TB := m_in_t (List.mem_of_getElem? (i := 766) rfl) rfl
set_option maxRecDepth 100000 in
theorem qc_Mod_noMessage : Cond.code y_Mod_noMessage b_Mod_noMessage 2 (some .boolean) ∈ m_TB := m_in_t (List.mem_of_getElem? (i := 770) rfl) rfl
set_option maxRecDepth 100000 in
theorem qc_Mod_tag : Cond.code y_Mod_tag b_Mod_tag 4 (some .int) ∈ m_TB := m_in_t (List.mem_of_getElem? (i := 774) rfl) rfl
set_option maxRecDepth 100000 in
theorem qc_Mod_search : Cond.code y_Mod_search b_Mod_search 4 (some .int) ∈ m_TB := m_in_t (List.mem_of_getElem? (i := 778) rfl) rfl
set_option maxRecDepth 100000 in
theorem qc_Mod_fault : Cond.code y_Mod_fault b_Mod_fault 6 (some .int) ∈ m_TB := m_in_t (List.mem_of_getElem? (i := 782) rfl) rfl
set_option maxRecDepth 100000 in
theorem qc_Mod_nextState : Cond.code y_Mod_nextState b_Mod_nextState 5 (some .int) ∈ m_TB := m_in_t (List.mem_of_getElem? (i := 786) rfl) rfl
set_option maxRecDepth 100000 in
theorem qc_Mod_isLetter : Cond.code y_Mod_isLetter b_Mod_isLetter 1 (some .boolean) ∈ m_TB := m_in_t (List.mem_of_getElem? (i := 789) rfl) rfl
set_option maxRecDepth 100000 in
theorem qc_Mod_term : Cond.code y_Mod_term b_Mod_term 9 (some .int) ∈ m_TB := m_in_t (List.mem_of_getElem? (i := 793) rfl) rfl
set_option maxRecDepth 100000 in
theorem qc_Mod_withTag : Cond.code y_Mod_withTag b_Mod_withTag 4 (some .int) ∈ m_TB := m_in_t (List.mem_of_getElem? (i := 797) rfl) rfl
set_option maxRecDepth 100000 in
theorem qc_Mod_one : Cond.code y_Mod_one b_Mod_one 3 none ∈ m_TB := m_in_t (List.mem_of_getElem? (i := 801) rfl) rfl
set_option maxRecDepth 100000 in
theorem qc_Mod_present : Cond.code y_Mod_present b_Mod_present 3 (some .int) ∈ m_TB := m_in_t (List.mem_of_getElem? (i := 805) rfl) rfl
set_option maxRecDepth 100000 in
theorem qc_Mod_withWord : Cond.code y_Mod_withWord b_Mod_withWord 9 (some .int) ∈ m_TB := m_in_t (List.mem_of_getElem? (i := 810) rfl) rfl
set_option maxRecDepth 100000 in
theorem qc_Mod_begins : Cond.code y_Mod_begins b_Mod_begins 8 (some .boolean) ∈ m_TB := m_in_t (List.mem_of_getElem? (i := 813) rfl) rfl
set_option maxRecDepth 100000 in
theorem qc_Mod_lettersOf : Cond.code y_Mod_lettersOf b_Mod_lettersOf 5 (some .int) ∈ m_TB := m_in_t (List.mem_of_getElem? (i := 816) rfl) rfl
set_option maxRecDepth 100000 in
theorem qc_Mod_sign : Cond.code y_Mod_sign b_Mod_sign 2 none ∈ m_TB := m_in_t (List.mem_of_getElem? (i := 820) rfl) rfl
set_option maxRecDepth 100000 in
theorem qc_Mod_reduce : Cond.code y_Mod_reduce b_Mod_reduce 2 none ∈ m_TB := m_in_t (List.mem_of_getElem? (i := 824) rfl) rfl
set_option maxRecDepth 100000 in
theorem qc_Mod_size : Cond.code y_Mod_size b_Mod_size 3 (some .int) ∈ m_TB := m_in_t (List.mem_of_getElem? (i := 827) rfl) rfl
set_option maxRecDepth 100000 in
theorem qc_Mod_errorAt : Cond.code y_Mod_errorAt b_Mod_errorAt 1 (some .int) ∈ m_TB := m_in_t (List.mem_of_getElem? (i := 831) rfl) rfl
set_option maxRecDepth 100000 in
theorem qc_Mod_hit : Cond.code y_Mod_hit b_Mod_hit 2 (some .int) ∈ m_TB := m_in_t (List.mem_of_getElem? (i := 835) rfl) rfl
set_option maxRecDepth 100000 in
theorem qc_Mod_pick : Cond.code y_Mod_pick b_Mod_pick 4 (some .int) ∈ m_TB := m_in_t (List.mem_of_getElem? (i := 838) rfl) rfl
set_option maxRecDepth 100000 in
theorem qc_Mod_related : Cond.code y_Mod_related b_Mod_related 5 (some .int) ∈ m_TB := m_in_t (List.mem_of_getElem? (i := 842) rfl) rfl
set_option maxRecDepth 100000 in
theorem qc_Mod_linkAll : Cond.code y_Mod_linkAll b_Mod_linkAll 6 none ∈ m_TB := m_in_t (List.mem_of_getElem? (i := 846) rfl) rfl
set_option maxRecDepth 100000 in
theorem qc_Mod_addedAfter : Cond.code y_Mod_addedAfter b_Mod_addedAfter 4 (some .int) ∈ m_TB := m_in_t (List.mem_of_getElem? (i := 850) rfl) rfl
set_option maxRecDepth 100000 in
theorem qc_Mod_ring : Cond.code y_Mod_ring b_Mod_ring 4 (some .boolean) ∈ m_TB := m_in_t (List.mem_of_getElem? (i := 854) rfl) rfl
set_option maxRecDepth 100000 in
theorem qc_Mod_top : Cond.code y_Mod_top b_Mod_top 3 (some .int) ∈ m_TB := m_in_t (List.mem_of_getElem? (i := 858) rfl) rfl
set_option maxRecDepth 100000 in
theorem qc_Mod_idOf : Cond.code y_Mod_idOf b_Mod_idOf 2 (some .int) ∈ m_TB := m_in_t (List.mem_of_getElem? (i := 862) rfl) rfl
set_option maxRecDepth 100000 in
theorem qc_Mod_answers : Cond.code y_Mod_answers b_Mod_answers 3 (some .int) ∈ m_TB := m_in_t (List.mem_of_getElem? (i := 866) rfl) rfl
set_option maxRecDepth 100000 in
theorem qc_Mod_withId : Cond.code y_Mod_withId b_Mod_withId 3 (some .int) ∈ m_TB := m_in_t (List.mem_of_getElem? (i := 870) rfl) rfl
set_option maxRecDepth 100000 in
theorem qc_Mod_root : Cond.code y_Mod_root b_Mod_root 2 (some .int) ∈ m_TB := m_in_t (List.mem_of_getElem? (i := 874) rfl) rfl
set_option maxRecDepth 100000 in
theorem qc_Mod_word : Cond.code y_Mod_word b_Mod_word 3 (some .long) ∈ m_TB := m_in_t (List.mem_of_getElem? (i := 878) rfl) rfl
set_option maxRecDepth 100000 in
theorem qc_Mod_field : Cond.code y_Mod_field b_Mod_field 3 (some .int) ∈ m_TB := m_in_t (List.mem_of_getElem? (i := 883) rfl) rfl
set_option maxRecDepth 100000 in
theorem qc_Mod_count : Cond.code y_Mod_count b_Mod_count 2 (some .int) ∈ m_TB := m_in_t (List.mem_of_getElem? (i := 887) rfl) rfl
set_option maxRecDepth 100000 in
theorem qc_Mod_roots : Cond.code y_Mod_roots b_Mod_roots 5 (some .int) ∈ m_TB := m_in_t (List.mem_of_getElem? (i := 891) rfl) rfl
set_option maxRecDepth 100000 in
theorem qc_Mod_different : Cond.code y_Mod_different b_Mod_different 4 (some .int) ∈ m_TB := m_in_t (List.mem_of_getElem? (i := 895) rfl) rfl
set_option maxRecDepth 100000 in
theorem qc_Mod_fresh : Cond.code y_Mod_fresh b_Mod_fresh 4 (some .boolean) ∈ m_TB := m_in_t (List.mem_of_getElem? (i := 899) rfl) rfl
theorem qw_0 : Cond.methodLink R_Line 3 objectInit ∈ m_TB := m_in_t (List.mem_of_getElem? (i := 27) (by decide +kernel)) rfl
theorem qw_1 : Cond.instanceMethod objectInit ∈ m_TB := m_in_t (List.mem_of_getElem? (i := 20) (by decide +kernel)) rfl
theorem qw_2 : Cond.code objectInit ⟨#[0xb1]⟩ 1 none ∈ m_TB := m_in_t (List.mem_of_getElem? (i := 21) rfl) rfl
theorem qw_3 : Cond.arrayClass .char ∈ m_TB := m_in_t (List.mem_of_getElem? (i := 40) (by decide +kernel)) rfl
theorem qw_4 : Cond.fieldLink R_Line 9 R_Line "characters" "[C" ∈ m_TB := m_in_t (List.mem_of_getElem? (i := 28) (by decide +kernel)) rfl
theorem qw_5 : Cond.fieldLink R_Line 15 R_Line "length" "I" ∈ m_TB := m_in_t (List.mem_of_getElem? (i := 29) (by decide +kernel)) rfl
theorem qw_6 : Cond.methodLink R_Draft 3 objectInit ∈ m_TB := m_in_t (List.mem_of_getElem? (i := 46) (by decide +kernel)) rfl
theorem qw_7 : Cond.classLink R_Draft 9 R_Line ∈ m_TB := m_in_t (List.mem_of_getElem? (i := 47) (by decide +kernel)) rfl
theorem qw_8 : Cond.fieldLink R_Draft 11 R_Draft "lines" "[LThreadedArchive$Line;" ∈ m_TB := m_in_t (List.mem_of_getElem? (i := 50) (by decide +kernel)) rfl
theorem qw_9 : Cond.fieldLink R_Draft 17 R_Draft "size" "I" ∈ m_TB := m_in_t (List.mem_of_getElem? (i := 52) (by decide +kernel)) rfl
theorem qw_10 : Cond.instantiable R_Line 2 ∈ m_TB := m_in_t (List.mem_of_getElem? (i := 23) (by decide +kernel)) rfl
theorem qw_11 : Cond.initialized R_Line ∈ m_TB := m_in_t (List.mem_of_getElem? (i := 2) (by decide +kernel)) rfl
theorem qw_12 : Cond.instanceMethod y_Line_init ∈ m_TB := m_in_t (List.mem_of_getElem? (i := 25) (by decide +kernel)) rfl
theorem qw_13 : Cond.methodLink R_Message 3 objectInit ∈ m_TB := m_in_t (List.mem_of_getElem? (i := 144) (by decide +kernel)) rfl
theorem qw_14 : Cond.arrayClass .int ∈ m_TB := m_in_t (List.mem_of_getElem? (i := 106) (by decide +kernel)) rfl
theorem qw_15 : Cond.fieldLink R_Message 9 R_Message "references" "[I" ∈ m_TB := m_in_t (List.mem_of_getElem? (i := 145) (by decide +kernel)) rfl
theorem qw_16 : Cond.arrayClass .long ∈ m_TB := m_in_t (List.mem_of_getElem? (i := 183) (by decide +kernel)) rfl
theorem qw_17 : Cond.fieldLink R_Message 15 R_Message "codes" "[J" ∈ m_TB := m_in_t (List.mem_of_getElem? (i := 147) (by decide +kernel)) rfl
theorem qw_18 : Cond.fieldLink R_Message 19 R_Message "fields" "[I" ∈ m_TB := m_in_t (List.mem_of_getElem? (i := 149) (by decide +kernel)) rfl
theorem qw_19 : Cond.fieldLink R_Message 22 R_Message "there" "Z" ∈ m_TB := m_in_t (List.mem_of_getElem? (i := 151) (by decide +kernel)) rfl
theorem qw_20 : Cond.fieldLink R_Message 26 R_Message "id" "I" ∈ m_TB := m_in_t (List.mem_of_getElem? (i := 153) (by decide +kernel)) rfl
theorem qw_21 : Cond.fieldLink R_Message 30 R_Message "referenceCount" "I" ∈ m_TB := m_in_t (List.mem_of_getElem? (i := 156) (by decide +kernel)) rfl
theorem qw_22 : Cond.fieldLink R_Message 33 R_Message "wordCount" "I" ∈ m_TB := m_in_t (List.mem_of_getElem? (i := 158) (by decide +kernel)) rfl
theorem qw_23 : Cond.fieldLink R_Message 36 R_Message "leaves" "I" ∈ m_TB := m_in_t (List.mem_of_getElem? (i := 160) (by decide +kernel)) rfl
theorem qw_24 : Cond.fieldLink R_Message 39 R_Message "tags" "I" ∈ m_TB := m_in_t (List.mem_of_getElem? (i := 163) (by decide +kernel)) rfl
theorem qw_25 : Cond.methodLink R_Letters 3 objectInit ∈ m_TB := m_in_t (List.mem_of_getElem? (i := 71) (by decide +kernel)) rfl
theorem qw_26 : Cond.fieldLink R_Letters 9 R_Letters "code" "J" ∈ m_TB := m_in_t (List.mem_of_getElem? (i := 72) (by decide +kernel)) rfl
theorem qw_27 : Cond.fieldLink R_Letters 15 R_Letters "number" "I" ∈ m_TB := m_in_t (List.mem_of_getElem? (i := 75) (by decide +kernel)) rfl
theorem qw_28 : Cond.methodLink R_Reader 3 objectInit ∈ m_TB := m_in_t (List.mem_of_getElem? (i := 65) (by decide +kernel)) rfl
theorem qw_29 : Cond.classLink R_Reader 9 R_Letters ∈ m_TB := m_in_t (List.mem_of_getElem? (i := 66) (by decide +kernel)) rfl
theorem qw_30 : Cond.instantiable R_Letters 2 ∈ m_TB := m_in_t (List.mem_of_getElem? (i := 67) (by decide +kernel)) rfl
theorem qw_31 : Cond.initialized R_Letters ∈ m_TB := m_in_t (List.mem_of_getElem? (i := 5) (by decide +kernel)) rfl
theorem qw_32 : Cond.instanceMethod y_Letters_init ∈ m_TB := m_in_t (List.mem_of_getElem? (i := 69) (by decide +kernel)) rfl
theorem qw_33 : Cond.fieldLink R_Reader 12 R_Reader "letters" "LThreadedArchive$Letters;" ∈ m_TB := m_in_t (List.mem_of_getElem? (i := 85) (by decide +kernel)) rfl
theorem qw_34 : Cond.classLink R_Reader 18 R_Line ∈ m_TB := m_in_t (List.mem_of_getElem? (i := 83) (by decide +kernel)) rfl
theorem qw_35 : Cond.fieldLink R_Reader 21 R_Reader "decoded" "LThreadedArchive$Line;" ∈ m_TB := m_in_t (List.mem_of_getElem? (i := 86) (by decide +kernel)) rfl
theorem qw_36 : Cond.methodLink R_Query 3 objectInit ∈ m_TB := m_in_t (List.mem_of_getElem? (i := 112) (by decide +kernel)) rfl
theorem qw_37 : Cond.fieldLink R_Query 11 R_Query "any" "[I" ∈ m_TB := m_in_t (List.mem_of_getElem? (i := 115) (by decide +kernel)) rfl
theorem qw_38 : Cond.fieldLink R_Query 15 R_Query "all" "[I" ∈ m_TB := m_in_t (List.mem_of_getElem? (i := 116) (by decide +kernel)) rfl
theorem qw_39 : Cond.arrayClass .boolean ∈ m_TB := m_in_t (List.mem_of_getElem? (i := 137) (by decide +kernel)) rfl
theorem qw_40 : Cond.fieldLink R_Query 18 R_Query "isNegated" "[Z" ∈ m_TB := m_in_t (List.mem_of_getElem? (i := 117) (by decide +kernel)) rfl
theorem qw_41 : Cond.classLink R_Query 22 R_Letters ∈ m_TB := m_in_t (List.mem_of_getElem? (i := 113) (by decide +kernel)) rfl
theorem qw_42 : Cond.fieldLink R_Query 25 R_Query "letters" "LThreadedArchive$Letters;" ∈ m_TB := m_in_t (List.mem_of_getElem? (i := 118) (by decide +kernel)) rfl
theorem qw_43 : Cond.fieldLink R_Query 29 R_Query "level" "I" ∈ m_TB := m_in_t (List.mem_of_getElem? (i := 119) (by decide +kernel)) rfl
theorem qw_44 : Cond.fieldLink R_Query 33 R_Query "state" "I" ∈ m_TB := m_in_t (List.mem_of_getElem? (i := 120) (by decide +kernel)) rfl
theorem qw_45 : Cond.fieldLink R_Query 36 R_Query "inField" "I" ∈ m_TB := m_in_t (List.mem_of_getElem? (i := 121) (by decide +kernel)) rfl
theorem qw_46 : Cond.fieldLink R_Threads 9 R_Threads "parents" "[I" ∈ m_TB := m_in_t (List.mem_of_getElem? (i := 102) (by decide +kernel)) rfl
theorem qw_47 : Cond.methodLink R_Threads 3 objectInit ∈ m_TB := m_in_t (List.mem_of_getElem? (i := 97) (by decide +kernel)) rfl
theorem qw_48 : Cond.methodLink R_Threads 15 y_Threads_clear ∈ m_TB := m_in_t (List.mem_of_getElem? (i := 98) (by decide +kernel)) rfl
theorem qw_49 : Cond.initialized R_Threads ∈ m_TB := m_in_t (List.mem_of_getElem? (i := 6) (by decide +kernel)) rfl
theorem qw_50 : Cond.instanceMethod y_Threads_clear ∈ m_TB := m_in_t (List.mem_of_getElem? (i := 100) (by decide +kernel)) rfl
theorem qw_51 : Cond.selects R_Threads y_Threads_clear y_Threads_clear ∈ m_TB := m_in_s (q := (y_Threads_clear, 1)) (List.mem_of_getElem? (i := 0) (by decide +kernel))
theorem qw_52 : Cond.methodLink R_Arc 1 objectInit ∈ m_TB := m_in_t (List.mem_of_getElem? (i := 19) (by decide +kernel)) rfl
theorem qw_53 : Cond.classLink R_Arc 7 R_Line ∈ m_TB := m_in_t (List.mem_of_getElem? (i := 22) (by decide +kernel)) rfl
theorem qw_54 : Cond.fieldLink R_Arc 10 R_Arc "line" "LThreadedArchive$Line;" ∈ m_TB := m_in_t (List.mem_of_getElem? (i := 184) (by decide +kernel)) rfl
theorem qw_55 : Cond.classLink R_Arc 16 R_Draft ∈ m_TB := m_in_t (List.mem_of_getElem? (i := 41) (by decide +kernel)) rfl
theorem qw_56 : Cond.instantiable R_Draft 2 ∈ m_TB := m_in_t (List.mem_of_getElem? (i := 42) (by decide +kernel)) rfl
theorem qw_57 : Cond.initialized R_Draft ∈ m_TB := m_in_t (List.mem_of_getElem? (i := 3) (by decide +kernel)) rfl
theorem qw_58 : Cond.instanceMethod y_Draft_init ∈ m_TB := m_in_t (List.mem_of_getElem? (i := 44) (by decide +kernel)) rfl
theorem qw_59 : Cond.fieldLink R_Arc 19 R_Arc "draft" "LThreadedArchive$Draft;" ∈ m_TB := m_in_t (List.mem_of_getElem? (i := 185) (by decide +kernel)) rfl
theorem qw_60 : Cond.classLink R_Arc 23 R_Reader ∈ m_TB := m_in_t (List.mem_of_getElem? (i := 60) (by decide +kernel)) rfl
theorem qw_61 : Cond.instantiable R_Reader 2 ∈ m_TB := m_in_t (List.mem_of_getElem? (i := 61) (by decide +kernel)) rfl
theorem qw_62 : Cond.initialized R_Reader ∈ m_TB := m_in_t (List.mem_of_getElem? (i := 4) (by decide +kernel)) rfl
theorem qw_63 : Cond.instanceMethod y_Reader_init ∈ m_TB := m_in_t (List.mem_of_getElem? (i := 63) (by decide +kernel)) rfl
theorem qw_64 : Cond.fieldLink R_Arc 26 R_Arc "reader" "LThreadedArchive$PartReader;" ∈ m_TB := m_in_t (List.mem_of_getElem? (i := 186) (by decide +kernel)) rfl
theorem qw_65 : Cond.classLink R_Arc 30 R_Threads ∈ m_TB := m_in_t (List.mem_of_getElem? (i := 92) (by decide +kernel)) rfl
theorem qw_66 : Cond.instantiable R_Threads 1 ∈ m_TB := m_in_t (List.mem_of_getElem? (i := 93) (by decide +kernel)) rfl
theorem qw_67 : Cond.instanceMethod y_Threads_init ∈ m_TB := m_in_t (List.mem_of_getElem? (i := 95) (by decide +kernel)) rfl
theorem qw_68 : Cond.fieldLink R_Arc 33 R_Arc "threads" "LThreadedArchive$Threads;" ∈ m_TB := m_in_t (List.mem_of_getElem? (i := 187) (by decide +kernel)) rfl
theorem qw_69 : Cond.classLink R_Arc 37 R_Query ∈ m_TB := m_in_t (List.mem_of_getElem? (i := 107) (by decide +kernel)) rfl
theorem qw_70 : Cond.instantiable R_Query 7 ∈ m_TB := m_in_t (List.mem_of_getElem? (i := 108) (by decide +kernel)) rfl
theorem qw_71 : Cond.initialized R_Query ∈ m_TB := m_in_t (List.mem_of_getElem? (i := 7) (by decide +kernel)) rfl
theorem qw_72 : Cond.instanceMethod y_Query_init ∈ m_TB := m_in_t (List.mem_of_getElem? (i := 110) (by decide +kernel)) rfl
theorem qw_73 : Cond.fieldLink R_Arc 40 R_Arc "query" "LThreadedArchive$Query;" ∈ m_TB := m_in_t (List.mem_of_getElem? (i := 188) (by decide +kernel)) rfl
theorem qw_74 : Cond.classLink R_Arc 44 R_Message ∈ m_TB := m_in_t (List.mem_of_getElem? (i := 138) (by decide +kernel)) rfl
theorem qw_75 : Cond.fieldLink R_Arc 46 R_Arc "messages" "[LThreadedArchive$Message;" ∈ m_TB := m_in_t (List.mem_of_getElem? (i := 189) (by decide +kernel)) rfl
theorem qw_76 : Cond.instantiable R_Message 9 ∈ m_TB := m_in_t (List.mem_of_getElem? (i := 140) (by decide +kernel)) rfl
theorem qw_77 : Cond.initialized R_Message ∈ m_TB := m_in_t (List.mem_of_getElem? (i := 8) (by decide +kernel)) rfl
theorem qw_78 : Cond.instanceMethod y_Message_init ∈ m_TB := m_in_t (List.mem_of_getElem? (i := 142) (by decide +kernel)) rfl
theorem qw_79 : Cond.fieldLink R_Arc 51 R_Arc "order" "[I" ∈ m_TB := m_in_t (List.mem_of_getElem? (i := 190) (by decide +kernel)) rfl
theorem qw_80 : Cond.fieldLink R_Arc 55 R_Arc "messageCount" "I" ∈ m_TB := m_in_t (List.mem_of_getElem? (i := 191) (by decide +kernel)) rfl
theorem qw_81 : Cond.fieldLink R_Arc 59 R_Arc "found" "I" ∈ m_TB := m_in_t (List.mem_of_getElem? (i := 192) (by decide +kernel)) rfl
theorem qw_82 : Cond.fieldLink R_Arc 62 R_Arc "errorPlace" "I" ∈ m_TB := m_in_t (List.mem_of_getElem? (i := 193) (by decide +kernel)) rfl
theorem qw_83 : Cond.instanceMethod y_Line_put ∈ m_TB := m_in_t (List.mem_of_getElem? (i := 221) (by decide +kernel)) rfl
theorem qw_84 : Cond.selects R_Line y_Line_put y_Line_put ∈ m_TB := m_in_s (q := (y_Line_put, 2)) (List.mem_of_getElem? (i := 1) (by decide +kernel))
theorem qw_85 : Cond.methodLink R_Line 19 arraycopyName ∈ m_TB := m_in_t (List.mem_of_getElem? (i := 235) (by decide +kernel)) rfl
theorem qw_86 : Cond.native arraycopyName ∈ m_TB := m_in_t (List.mem_of_getElem? (i := 237) (by decide +kernel)) rfl
theorem qw_87 : Cond.static arraycopyName ∈ m_TB := m_in_t (List.mem_of_getElem? (i := 236) (by decide +kernel)) rfl
theorem qw_88 : Cond.initialized R_System ∈ m_TB := m_in_t (List.mem_of_getElem? (i := 10) (by decide +kernel)) rfl
theorem qw_89 : Cond.instanceMethod y_Line_copyFrom ∈ m_TB := m_in_t (List.mem_of_getElem? (i := 233) (by decide +kernel)) rfl
theorem qw_90 : Cond.selects R_Line y_Line_copyFrom y_Line_copyFrom ∈ m_TB := m_in_s (q := (y_Line_copyFrom, 2)) (List.mem_of_getElem? (i := 3) (by decide +kernel))
theorem qw_91 : Cond.instanceMethod y_Draft_take ∈ m_TB := m_in_t (List.mem_of_getElem? (i := 229) (by decide +kernel)) rfl
theorem qw_92 : Cond.selects R_Draft y_Draft_take y_Draft_take ∈ m_TB := m_in_s (q := (y_Draft_take, 2)) (List.mem_of_getElem? (i := 2) (by decide +kernel))
theorem qw_93 : Cond.instanceMethod y_Line_clear ∈ m_TB := m_in_t (List.mem_of_getElem? (i := 240) (by decide +kernel)) rfl
theorem qw_94 : Cond.selects R_Line y_Line_clear y_Line_clear ∈ m_TB := m_in_s (q := (y_Line_clear, 2)) (List.mem_of_getElem? (i := 4) (by decide +kernel))
theorem qw_95 : Cond.instanceMethod y_Draft_clear ∈ m_TB := m_in_t (List.mem_of_getElem? (i := 248) (by decide +kernel)) rfl
theorem qw_96 : Cond.selects R_Draft y_Draft_clear y_Draft_clear ∈ m_TB := m_in_s (q := (y_Draft_clear, 2)) (List.mem_of_getElem? (i := 5) (by decide +kernel))
theorem qw_97 : Cond.methodLink R_Line 25 y_Line_at ∈ m_TB := m_in_t (List.mem_of_getElem? (i := 274) (by decide +kernel)) rfl
theorem qw_98 : Cond.instanceMethod y_Line_at ∈ m_TB := m_in_t (List.mem_of_getElem? (i := 276) (by decide +kernel)) rfl
theorem qw_99 : Cond.selects R_Line y_Line_at y_Line_at ∈ m_TB := m_in_s (q := (y_Line_at, 2)) (List.mem_of_getElem? (i := 11) (by decide +kernel))
theorem qw_100 : Cond.methodLink R_Draft 29 y_Draft_headersEnd ∈ m_TB := m_in_t (List.mem_of_getElem? (i := 266) (by decide +kernel)) rfl
theorem qw_101 : Cond.instanceMethod y_Draft_headersEnd ∈ m_TB := m_in_t (List.mem_of_getElem? (i := 268) (by decide +kernel)) rfl
theorem qw_102 : Cond.selects R_Draft y_Draft_headersEnd y_Draft_headersEnd ∈ m_TB := m_in_s (q := (y_Draft_headersEnd, 2)) (List.mem_of_getElem? (i := 9) (by decide +kernel))
theorem qw_103 : Cond.instanceMethod y_Line_isHeader ∈ m_TB := m_in_t (List.mem_of_getElem? (i := 272) (by decide +kernel)) rfl
theorem qw_104 : Cond.selects R_Line y_Line_isHeader y_Line_isHeader ∈ m_TB := m_in_s (q := (y_Line_isHeader, 2)) (List.mem_of_getElem? (i := 10) (by decide +kernel))
theorem qw_105 : Cond.initialized R_Arc ∈ m_TB := m_in_t (List.mem_of_getElem? (i := 1) (by decide +kernel)) rfl
theorem qw_106 : Cond.static y_Arc_digit ∈ m_TB := m_in_t (List.mem_of_getElem? (i := 283) (by decide +kernel)) rfl
theorem qw_107 : Cond.methodLink R_Draft 42 y_Draft_header ∈ m_TB := m_in_t (List.mem_of_getElem? (i := 262) (by decide +kernel)) rfl
theorem qw_108 : Cond.instanceMethod y_Draft_header ∈ m_TB := m_in_t (List.mem_of_getElem? (i := 264) (by decide +kernel)) rfl
theorem qw_109 : Cond.selects R_Draft y_Draft_header y_Draft_header ∈ m_TB := m_in_s (q := (y_Draft_header, 2)) (List.mem_of_getElem? (i := 8) (by decide +kernel))
theorem qw_110 : Cond.instanceMethod y_Line_idBetween ∈ m_TB := m_in_t (List.mem_of_getElem? (i := 280) (by decide +kernel)) rfl
theorem qw_111 : Cond.selects R_Line y_Line_idBetween y_Line_idBetween ∈ m_TB := m_in_s (q := (y_Line_idBetween, 2)) (List.mem_of_getElem? (i := 12) (by decide +kernel))
theorem qw_112 : Cond.instanceMethod y_Draft_id ∈ m_TB := m_in_t (List.mem_of_getElem? (i := 260) (by decide +kernel)) rfl
theorem qw_113 : Cond.selects R_Draft y_Draft_id y_Draft_id ∈ m_TB := m_in_s (q := (y_Draft_id, 2)) (List.mem_of_getElem? (i := 7) (by decide +kernel))
theorem qw_114 : Cond.methodLink R_Arc 144 y_Arc_numberWithId ∈ m_TB := m_in_t (List.mem_of_getElem? (i := 285) (by decide +kernel)) rfl
theorem qw_115 : Cond.instanceMethod y_Arc_numberWithId ∈ m_TB := m_in_t (List.mem_of_getElem? (i := 287) (by decide +kernel)) rfl
theorem qw_116 : Cond.selects R_Arc y_Arc_numberWithId y_Arc_numberWithId ∈ m_TB := m_in_s (q := (y_Arc_numberWithId, 10)) (List.mem_of_getElem? (i := 13) (by decide +kernel))
theorem qw_117 : Cond.methodLink R_Threads 34 y_Threads_makesRing ∈ m_TB := m_in_t (List.mem_of_getElem? (i := 394) (by decide +kernel)) rfl
theorem qw_118 : Cond.instanceMethod y_Threads_makesRing ∈ m_TB := m_in_t (List.mem_of_getElem? (i := 396) (by decide +kernel)) rfl
theorem qw_119 : Cond.selects R_Threads y_Threads_makesRing y_Threads_makesRing ∈ m_TB := m_in_s (q := (y_Threads_makesRing, 1)) (List.mem_of_getElem? (i := 35) (by decide +kernel))
theorem qw_120 : Cond.methodLink R_Threads 27 y_Threads_setParent ∈ m_TB := m_in_t (List.mem_of_getElem? (i := 390) (by decide +kernel)) rfl
theorem qw_121 : Cond.instanceMethod y_Threads_setParent ∈ m_TB := m_in_t (List.mem_of_getElem? (i := 392) (by decide +kernel)) rfl
theorem qw_122 : Cond.selects R_Threads y_Threads_setParent y_Threads_setParent ∈ m_TB := m_in_s (q := (y_Threads_setParent, 1)) (List.mem_of_getElem? (i := 34) (by decide +kernel))
theorem qw_123 : Cond.instanceMethod y_Threads_join ∈ m_TB := m_in_t (List.mem_of_getElem? (i := 388) (by decide +kernel)) rfl
theorem qw_124 : Cond.selects R_Threads y_Threads_join y_Threads_join ∈ m_TB := m_in_s (q := (y_Threads_join, 1)) (List.mem_of_getElem? (i := 33) (by decide +kernel))
theorem qw_125 : Cond.instanceMethod y_Line_blankFrom ∈ m_TB := m_in_t (List.mem_of_getElem? (i := 309) (by decide +kernel)) rfl
theorem qw_126 : Cond.selects R_Line y_Line_blankFrom y_Line_blankFrom ∈ m_TB := m_in_s (q := (y_Line_blankFrom, 2)) (List.mem_of_getElem? (i := 18) (by decide +kernel))
theorem qw_127 : Cond.methodLink R_Message 42 y_Message_readReferences ∈ m_TB := m_in_t (List.mem_of_getElem? (i := 303) (by decide +kernel)) rfl
theorem qw_128 : Cond.instanceMethod y_Message_readReferences ∈ m_TB := m_in_t (List.mem_of_getElem? (i := 305) (by decide +kernel)) rfl
theorem qw_129 : Cond.selects R_Message y_Message_readReferences y_Message_readReferences ∈ m_TB := m_in_s (q := (y_Message_readReferences, 9)) (List.mem_of_getElem? (i := 17) (by decide +kernel))
theorem qw_130 : Cond.methodLink R_Arc 194 y_Arc_smallLetter ∈ m_TB := m_in_t (List.mem_of_getElem? (i := 324) (by decide +kernel)) rfl
theorem qw_131 : Cond.static y_Arc_smallLetter ∈ m_TB := m_in_t (List.mem_of_getElem? (i := 325) (by decide +kernel)) rfl
theorem qw_132 : Cond.constantLong R_Letters 19 32 ∈ m_TB := m_in_t (List.mem_of_getElem? (i := 331) (by decide +kernel)) rfl
theorem qw_133 : Cond.instanceMethod y_Letters_clear ∈ m_TB := m_in_t (List.mem_of_getElem? (i := 338) (by decide +kernel)) rfl
theorem qw_134 : Cond.selects R_Letters y_Letters_clear y_Letters_clear ∈ m_TB := m_in_s (q := (y_Letters_clear, 2)) (List.mem_of_getElem? (i := 23) (by decide +kernel))
theorem qw_135 : Cond.instanceMethod y_Message_takeWord ∈ m_TB := m_in_t (List.mem_of_getElem? (i := 334) (by decide +kernel)) rfl
theorem qw_136 : Cond.selects R_Message y_Message_takeWord y_Message_takeWord ∈ m_TB := m_in_s (q := (y_Message_takeWord, 9)) (List.mem_of_getElem? (i := 22) (by decide +kernel))
theorem qw_137 : Cond.static y_Arc_letter ∈ m_TB := m_in_t (List.mem_of_getElem? (i := 322) (by decide +kernel)) rfl
theorem qw_138 : Cond.instanceMethod y_Letters_put ∈ m_TB := m_in_t (List.mem_of_getElem? (i := 329) (by decide +kernel)) rfl
theorem qw_139 : Cond.selects R_Letters y_Letters_put y_Letters_put ∈ m_TB := m_in_s (q := (y_Letters_put, 2)) (List.mem_of_getElem? (i := 21) (by decide +kernel))
theorem qw_140 : Cond.methodLink R_Reader 57 y_Reader_readLine ∈ m_TB := m_in_t (List.mem_of_getElem? (i := 316) (by decide +kernel)) rfl
theorem qw_141 : Cond.instanceMethod y_Reader_readLine ∈ m_TB := m_in_t (List.mem_of_getElem? (i := 318) (by decide +kernel)) rfl
theorem qw_142 : Cond.selects R_Reader y_Reader_readLine y_Reader_readLine ∈ m_TB := m_in_s (q := (y_Reader_readLine, 2)) (List.mem_of_getElem? (i := 20) (by decide +kernel))
theorem qw_143 : Cond.methodLink R_Draft 33 y_Math_min ∈ m_TB := m_in_t (List.mem_of_getElem? (i := 348) (by decide +kernel)) rfl
theorem qw_144 : Cond.static y_Math_min ∈ m_TB := m_in_t (List.mem_of_getElem? (i := 349) (by decide +kernel)) rfl
theorem qw_145 : Cond.initialized R_Math ∈ m_TB := m_in_t (List.mem_of_getElem? (i := 11) (by decide +kernel)) rfl
theorem qw_146 : Cond.methodLink R_Arc 197 y_Arc_digit ∈ m_TB := m_in_t (List.mem_of_getElem? (i := 379) (by decide +kernel)) rfl
theorem qw_147 : Cond.static y_Arc_hexDigit ∈ m_TB := m_in_t (List.mem_of_getElem? (i := 377) (by decide +kernel)) rfl
theorem qw_148 : Cond.methodLink R_Reader 95 y_Reader_decode ∈ m_TB := m_in_t (List.mem_of_getElem? (i := 371) (by decide +kernel)) rfl
theorem qw_149 : Cond.instanceMethod y_Reader_decode ∈ m_TB := m_in_t (List.mem_of_getElem? (i := 373) (by decide +kernel)) rfl
theorem qw_150 : Cond.selects R_Reader y_Reader_decode y_Reader_decode ∈ m_TB := m_in_s (q := (y_Reader_decode, 2)) (List.mem_of_getElem? (i := 31) (by decide +kernel))
theorem qw_151 : Cond.instanceMethod y_Line_isClosing ∈ m_TB := m_in_t (List.mem_of_getElem? (i := 361) (by decide +kernel)) rfl
theorem qw_152 : Cond.selects R_Line y_Line_isClosing y_Line_isClosing ∈ m_TB := m_in_s (q := (y_Line_isClosing, 2)) (List.mem_of_getElem? (i := 28) (by decide +kernel))
theorem qw_153 : Cond.instanceMethod y_Draft_closingPlace ∈ m_TB := m_in_t (List.mem_of_getElem? (i := 357) (by decide +kernel)) rfl
theorem qw_154 : Cond.selects R_Draft y_Draft_closingPlace y_Draft_closingPlace ∈ m_TB := m_in_s (q := (y_Draft_closingPlace, 2)) (List.mem_of_getElem? (i := 27) (by decide +kernel))
theorem qw_155 : Cond.methodLink R_Reader 53 y_Reader_readPart ∈ m_TB := m_in_t (List.mem_of_getElem? (i := 340) (by decide +kernel)) rfl
theorem qw_156 : Cond.instanceMethod y_Reader_readPart ∈ m_TB := m_in_t (List.mem_of_getElem? (i := 342) (by decide +kernel)) rfl
theorem qw_157 : Cond.selects R_Reader y_Reader_readPart y_Reader_readPart ∈ m_TB := m_in_s (q := (y_Reader_readPart, 2)) (List.mem_of_getElem? (i := 24) (by decide +kernel))
theorem qw_158 : Cond.instanceMethod y_Line_isCut ∈ m_TB := m_in_t (List.mem_of_getElem? (i := 365) (by decide +kernel)) rfl
theorem qw_159 : Cond.selects R_Line y_Line_isCut y_Line_isCut ∈ m_TB := m_in_s (q := (y_Line_isCut, 2)) (List.mem_of_getElem? (i := 29) (by decide +kernel))
theorem qw_160 : Cond.instanceMethod y_Draft_bodyStart ∈ m_TB := m_in_t (List.mem_of_getElem? (i := 346) (by decide +kernel)) rfl
theorem qw_161 : Cond.selects R_Draft y_Draft_bodyStart y_Draft_bodyStart ∈ m_TB := m_in_s (q := (y_Draft_bodyStart, 2)) (List.mem_of_getElem? (i := 25) (by decide +kernel))
theorem qw_162 : Cond.methodLink R_Reader 72 y_Reader_readMulti ∈ m_TB := m_in_t (List.mem_of_getElem? (i := 351) (by decide +kernel)) rfl
theorem qw_163 : Cond.instanceMethod y_Reader_readMulti ∈ m_TB := m_in_t (List.mem_of_getElem? (i := 353) (by decide +kernel)) rfl
theorem qw_164 : Cond.selects R_Reader y_Reader_readMulti y_Reader_readMulti ∈ m_TB := m_in_s (q := (y_Reader_readMulti, 2)) (List.mem_of_getElem? (i := 26) (by decide +kernel))
theorem qw_165 : Cond.methodLink R_Reader 76 y_Reader_readLeaf ∈ m_TB := m_in_t (List.mem_of_getElem? (i := 367) (by decide +kernel)) rfl
theorem qw_166 : Cond.instanceMethod y_Reader_readLeaf ∈ m_TB := m_in_t (List.mem_of_getElem? (i := 369) (by decide +kernel)) rfl
theorem qw_167 : Cond.selects R_Reader y_Reader_readLeaf y_Reader_readLeaf ∈ m_TB := m_in_s (q := (y_Reader_readLeaf, 2)) (List.mem_of_getElem? (i := 30) (by decide +kernel))
theorem qw_168 : Cond.instanceMethod y_Message_begin ∈ m_TB := m_in_t (List.mem_of_getElem? (i := 296) (by decide +kernel)) rfl
theorem qw_169 : Cond.selects R_Message y_Message_begin y_Message_begin ∈ m_TB := m_in_s (q := (y_Message_begin, 9)) (List.mem_of_getElem? (i := 15) (by decide +kernel))
theorem qw_170 : Cond.instanceMethod y_Message_setReferences ∈ m_TB := m_in_t (List.mem_of_getElem? (i := 301) (by decide +kernel)) rfl
theorem qw_171 : Cond.selects R_Message y_Message_setReferences y_Message_setReferences ∈ m_TB := m_in_s (q := (y_Message_setReferences, 9)) (List.mem_of_getElem? (i := 16) (by decide +kernel))
theorem qw_172 : Cond.methodLink R_Reader 49 y_Reader_readHeader ∈ m_TB := m_in_t (List.mem_of_getElem? (i := 312) (by decide +kernel)) rfl
theorem qw_173 : Cond.instanceMethod y_Reader_readHeader ∈ m_TB := m_in_t (List.mem_of_getElem? (i := 314) (by decide +kernel)) rfl
theorem qw_174 : Cond.selects R_Reader y_Reader_readHeader y_Reader_readHeader ∈ m_TB := m_in_s (q := (y_Reader_readHeader, 2)) (List.mem_of_getElem? (i := 19) (by decide +kernel))
theorem qw_175 : Cond.methodLink R_Arc 83 y_Arc_numberForDraft ∈ m_TB := m_in_t (List.mem_of_getElem? (i := 254) (by decide +kernel)) rfl
theorem qw_176 : Cond.instanceMethod y_Arc_numberForDraft ∈ m_TB := m_in_t (List.mem_of_getElem? (i := 256) (by decide +kernel)) rfl
theorem qw_177 : Cond.selects R_Arc y_Arc_numberForDraft y_Arc_numberForDraft ∈ m_TB := m_in_s (q := (y_Arc_numberForDraft, 10)) (List.mem_of_getElem? (i := 6) (by decide +kernel))
theorem qw_178 : Cond.instanceMethod y_Reader_readDraft ∈ m_TB := m_in_t (List.mem_of_getElem? (i := 291) (by decide +kernel)) rfl
theorem qw_179 : Cond.selects R_Reader y_Reader_readDraft y_Reader_readDraft ∈ m_TB := m_in_s (q := (y_Reader_readDraft, 2)) (List.mem_of_getElem? (i := 14) (by decide +kernel))
theorem qw_180 : Cond.methodLink R_Arc 91 y_Arc_rejoinThreads ∈ m_TB := m_in_t (List.mem_of_getElem? (i := 381) (by decide +kernel)) rfl
theorem qw_181 : Cond.instanceMethod y_Arc_rejoinThreads ∈ m_TB := m_in_t (List.mem_of_getElem? (i := 383) (by decide +kernel)) rfl
theorem qw_182 : Cond.selects R_Arc y_Arc_rejoinThreads y_Arc_rejoinThreads ∈ m_TB := m_in_s (q := (y_Arc_rejoinThreads, 10)) (List.mem_of_getElem? (i := 32) (by decide +kernel))
theorem qw_183 : Cond.methodLink R_Arc 94 y_Arc_messageAt ∈ m_TB := m_in_t (List.mem_of_getElem? (i := 402) (by decide +kernel)) rfl
theorem qw_184 : Cond.instanceMethod y_Arc_messageAt ∈ m_TB := m_in_t (List.mem_of_getElem? (i := 404) (by decide +kernel)) rfl
theorem qw_185 : Cond.selects R_Arc y_Arc_messageAt y_Arc_messageAt ∈ m_TB := m_in_s (q := (y_Arc_messageAt, 10)) (List.mem_of_getElem? (i := 36) (by decide +kernel))
theorem qw_186 : Cond.methodLink R_Arc 102 y_Arc_removeFromOrder ∈ m_TB := m_in_t (List.mem_of_getElem? (i := 406) (by decide +kernel)) rfl
theorem qw_187 : Cond.instanceMethod y_Arc_removeFromOrder ∈ m_TB := m_in_t (List.mem_of_getElem? (i := 408) (by decide +kernel)) rfl
theorem qw_188 : Cond.selects R_Arc y_Arc_removeFromOrder y_Arc_removeFromOrder ∈ m_TB := m_in_s (q := (y_Arc_removeFromOrder, 10)) (List.mem_of_getElem? (i := 37) (by decide +kernel))
theorem qw_189 : Cond.instanceMethod y_Message_setTag ∈ m_TB := m_in_t (List.mem_of_getElem? (i := 416) (by decide +kernel)) rfl
theorem qw_190 : Cond.selects R_Message y_Message_setTag y_Message_setTag ∈ m_TB := m_in_s (q := (y_Message_setTag, 9)) (List.mem_of_getElem? (i := 38) (by decide +kernel))
theorem qw_191 : Cond.methodLink R_Query 59 y_Query_beginOne ∈ m_TB := m_in_t (List.mem_of_getElem? (i := 430) (by decide +kernel)) rfl
theorem qw_192 : Cond.instanceMethod y_Query_beginOne ∈ m_TB := m_in_t (List.mem_of_getElem? (i := 432) (by decide +kernel)) rfl
theorem qw_193 : Cond.selects R_Query y_Query_beginOne y_Query_beginOne ∈ m_TB := m_in_s (q := (y_Query_beginOne, 7)) (List.mem_of_getElem? (i := 41) (by decide +kernel))
theorem qw_194 : Cond.methodLink R_Message 73 y_Message_beginsWith ∈ m_TB := m_in_t (List.mem_of_getElem? (i := 473) (by decide +kernel)) rfl
theorem qw_195 : Cond.static y_Message_beginsWith ∈ m_TB := m_in_t (List.mem_of_getElem? (i := 474) (by decide +kernel)) rfl
theorem qw_196 : Cond.methodLink R_Query 115 y_Query_endOne ∈ m_TB := m_in_t (List.mem_of_getElem? (i := 476) (by decide +kernel)) rfl
theorem qw_197 : Cond.instanceMethod y_Query_endOne ∈ m_TB := m_in_t (List.mem_of_getElem? (i := 478) (by decide +kernel)) rfl
theorem qw_198 : Cond.selects R_Query y_Query_endOne y_Query_endOne ∈ m_TB := m_in_s (q := (y_Query_endOne, 7)) (List.mem_of_getElem? (i := 50) (by decide +kernel))
theorem qw_199 : Cond.instanceMethod y_Message_hasMatch ∈ m_TB := m_in_t (List.mem_of_getElem? (i := 471) (by decide +kernel)) rfl
theorem qw_200 : Cond.selects R_Message y_Message_hasMatch y_Message_hasMatch ∈ m_TB := m_in_s (q := (y_Message_hasMatch, 9)) (List.mem_of_getElem? (i := 49) (by decide +kernel))
theorem qw_201 : Cond.methodLink R_Query 122 y_Query_readClosing ∈ m_TB := m_in_t (List.mem_of_getElem? (i := 484) (by decide +kernel)) rfl
theorem qw_202 : Cond.instanceMethod y_Query_readClosing ∈ m_TB := m_in_t (List.mem_of_getElem? (i := 486) (by decide +kernel)) rfl
theorem qw_203 : Cond.selects R_Query y_Query_readClosing y_Query_readClosing ∈ m_TB := m_in_s (q := (y_Query_readClosing, 7)) (List.mem_of_getElem? (i := 52) (by decide +kernel))
theorem qw_204 : Cond.methodLink R_Query 55 y_Query_endWord ∈ m_TB := m_in_t (List.mem_of_getElem? (i := 465) (by decide +kernel)) rfl
theorem qw_205 : Cond.instanceMethod y_Query_endWord ∈ m_TB := m_in_t (List.mem_of_getElem? (i := 467) (by decide +kernel)) rfl
theorem qw_206 : Cond.selects R_Query y_Query_endWord y_Query_endWord ∈ m_TB := m_in_s (q := (y_Query_endWord, 7)) (List.mem_of_getElem? (i := 48) (by decide +kernel))
theorem qw_207 : Cond.methodLink R_Query 84 y_Query_readBehindOne ∈ m_TB := m_in_t (List.mem_of_getElem? (i := 480) (by decide +kernel)) rfl
theorem qw_208 : Cond.instanceMethod y_Query_readBehindOne ∈ m_TB := m_in_t (List.mem_of_getElem? (i := 482) (by decide +kernel)) rfl
theorem qw_209 : Cond.selects R_Query y_Query_readBehindOne y_Query_readBehindOne ∈ m_TB := m_in_s (q := (y_Query_readBehindOne, 7)) (List.mem_of_getElem? (i := 51) (by decide +kernel))
theorem qw_210 : Cond.methodLink R_Query 101 y_Query_fieldNamed ∈ m_TB := m_in_t (List.mem_of_getElem? (i := 458) (by decide +kernel)) rfl
theorem qw_211 : Cond.static y_Query_fieldNamed ∈ m_TB := m_in_t (List.mem_of_getElem? (i := 459) (by decide +kernel)) rfl
theorem qw_212 : Cond.methodLink R_Query 39 y_Query_beginLevel ∈ m_TB := m_in_t (List.mem_of_getElem? (i := 426) (by decide +kernel)) rfl
theorem qw_213 : Cond.instanceMethod y_Query_beginLevel ∈ m_TB := m_in_t (List.mem_of_getElem? (i := 428) (by decide +kernel)) rfl
theorem qw_214 : Cond.selects R_Query y_Query_beginLevel y_Query_beginLevel ∈ m_TB := m_in_s (q := (y_Query_beginLevel, 7)) (List.mem_of_getElem? (i := 40) (by decide +kernel))
theorem qw_215 : Cond.instanceMethod y_Message_hasTag ∈ m_TB := m_in_t (List.mem_of_getElem? (i := 495) (by decide +kernel)) rfl
theorem qw_216 : Cond.selects R_Message y_Message_hasTag y_Message_hasTag ∈ m_TB := m_in_s (q := (y_Message_hasTag, 9)) (List.mem_of_getElem? (i := 54) (by decide +kernel))
theorem qw_217 : Cond.methodLink R_Query 65 y_Query_readLetter ∈ m_TB := m_in_t (List.mem_of_getElem? (i := 440) (by decide +kernel)) rfl
theorem qw_218 : Cond.instanceMethod y_Query_readLetter ∈ m_TB := m_in_t (List.mem_of_getElem? (i := 442) (by decide +kernel)) rfl
theorem qw_219 : Cond.selects R_Query y_Query_readLetter y_Query_readLetter ∈ m_TB := m_in_s (q := (y_Query_readLetter, 7)) (List.mem_of_getElem? (i := 43) (by decide +kernel))
theorem qw_220 : Cond.methodLink R_Query 69 y_Query_readNot ∈ m_TB := m_in_t (List.mem_of_getElem? (i := 446) (by decide +kernel)) rfl
theorem qw_221 : Cond.instanceMethod y_Query_readNot ∈ m_TB := m_in_t (List.mem_of_getElem? (i := 448) (by decide +kernel)) rfl
theorem qw_222 : Cond.selects R_Query y_Query_readNot y_Query_readNot ∈ m_TB := m_in_s (q := (y_Query_readNot, 7)) (List.mem_of_getElem? (i := 44) (by decide +kernel))
theorem qw_223 : Cond.methodLink R_Query 72 y_Query_readOpening ∈ m_TB := m_in_t (List.mem_of_getElem? (i := 450) (by decide +kernel)) rfl
theorem qw_224 : Cond.instanceMethod y_Query_readOpening ∈ m_TB := m_in_t (List.mem_of_getElem? (i := 452) (by decide +kernel)) rfl
theorem qw_225 : Cond.selects R_Query y_Query_readOpening y_Query_readOpening ∈ m_TB := m_in_s (q := (y_Query_readOpening, 7)) (List.mem_of_getElem? (i := 45) (by decide +kernel))
theorem qw_226 : Cond.methodLink R_Query 75 y_Query_readColon ∈ m_TB := m_in_t (List.mem_of_getElem? (i := 454) (by decide +kernel)) rfl
theorem qw_227 : Cond.instanceMethod y_Query_readColon ∈ m_TB := m_in_t (List.mem_of_getElem? (i := 456) (by decide +kernel)) rfl
theorem qw_228 : Cond.selects R_Query y_Query_readColon y_Query_readColon ∈ m_TB := m_in_s (q := (y_Query_readColon, 7)) (List.mem_of_getElem? (i := 46) (by decide +kernel))
theorem qw_229 : Cond.methodLink R_Query 78 y_Query_readBehindWord ∈ m_TB := m_in_t (List.mem_of_getElem? (i := 461) (by decide +kernel)) rfl
theorem qw_230 : Cond.instanceMethod y_Query_readBehindWord ∈ m_TB := m_in_t (List.mem_of_getElem? (i := 463) (by decide +kernel)) rfl
theorem qw_231 : Cond.selects R_Query y_Query_readBehindWord y_Query_readBehindWord ∈ m_TB := m_in_s (q := (y_Query_readBehindWord, 7)) (List.mem_of_getElem? (i := 47) (by decide +kernel))
theorem qw_232 : Cond.methodLink R_Query 81 y_Query_readTag ∈ m_TB := m_in_t (List.mem_of_getElem? (i := 488) (by decide +kernel)) rfl
theorem qw_233 : Cond.instanceMethod y_Query_readTag ∈ m_TB := m_in_t (List.mem_of_getElem? (i := 490) (by decide +kernel)) rfl
theorem qw_234 : Cond.selects R_Query y_Query_readTag y_Query_readTag ∈ m_TB := m_in_s (q := (y_Query_readTag, 7)) (List.mem_of_getElem? (i := 53) (by decide +kernel))
theorem qw_235 : Cond.methodLink R_Query 51 y_Query_readCharacter ∈ m_TB := m_in_t (List.mem_of_getElem? (i := 436) (by decide +kernel)) rfl
theorem qw_236 : Cond.instanceMethod y_Query_readCharacter ∈ m_TB := m_in_t (List.mem_of_getElem? (i := 438) (by decide +kernel)) rfl
theorem qw_237 : Cond.selects R_Query y_Query_readCharacter y_Query_readCharacter ∈ m_TB := m_in_s (q := (y_Query_readCharacter, 7)) (List.mem_of_getElem? (i := 42) (by decide +kernel))
theorem qw_238 : Cond.constant R_Integer 265 1431655765 ∈ m_TB := m_in_t (List.mem_of_getElem? (i := 508) (by decide +kernel)) rfl
theorem qw_239 : Cond.constant R_Integer 266 858993459 ∈ m_TB := m_in_t (List.mem_of_getElem? (i := 509) (by decide +kernel)) rfl
theorem qw_240 : Cond.constant R_Integer 267 252645135 ∈ m_TB := m_in_t (List.mem_of_getElem? (i := 510) (by decide +kernel)) rfl
theorem qw_241 : Cond.instanceMethod y_Query_read ∈ m_TB := m_in_t (List.mem_of_getElem? (i := 424) (by decide +kernel)) rfl
theorem qw_242 : Cond.selects R_Query y_Query_read y_Query_read ∈ m_TB := m_in_s (q := (y_Query_read, 7)) (List.mem_of_getElem? (i := 39) (by decide +kernel))
theorem qw_243 : Cond.instanceMethod y_Query_holding ∈ m_TB := m_in_t (List.mem_of_getElem? (i := 499) (by decide +kernel)) rfl
theorem qw_244 : Cond.selects R_Query y_Query_holding y_Query_holding ∈ m_TB := m_in_s (q := (y_Query_holding, 7)) (List.mem_of_getElem? (i := 55) (by decide +kernel))
theorem qw_245 : Cond.methodLink R_Arc 117 y_Arc_numbersThere ∈ m_TB := m_in_t (List.mem_of_getElem? (i := 501) (by decide +kernel)) rfl
theorem qw_246 : Cond.instanceMethod y_Arc_numbersThere ∈ m_TB := m_in_t (List.mem_of_getElem? (i := 503) (by decide +kernel)) rfl
theorem qw_247 : Cond.selects R_Arc y_Arc_numbersThere y_Arc_numbersThere ∈ m_TB := m_in_s (q := (y_Arc_numbersThere, 10)) (List.mem_of_getElem? (i := 56) (by decide +kernel))
theorem qw_248 : Cond.methodLink R_Arc 120 y_Integer_bitCount ∈ m_TB := m_in_t (List.mem_of_getElem? (i := 505) (by decide +kernel)) rfl
theorem qw_249 : Cond.initialized R_Integer ∈ m_TB := m_in_t (List.mem_of_getElem? (i := 12) (by decide +kernel)) rfl
theorem qw_250 : Cond.static y_Integer_bitCount ∈ m_TB := m_in_t (List.mem_of_getElem? (i := 506) (by decide +kernel)) rfl
theorem qw_251 : Cond.methodLink R_Arc 126 y_Arc_numberInSet ∈ m_TB := m_in_t (List.mem_of_getElem? (i := 519) (by decide +kernel)) rfl
theorem qw_252 : Cond.static y_Arc_numberInSet ∈ m_TB := m_in_t (List.mem_of_getElem? (i := 520) (by decide +kernel)) rfl
theorem qw_253 : Cond.instanceMethod y_Threads_topOf ∈ m_TB := m_in_t (List.mem_of_getElem? (i := 536) (by decide +kernel)) rfl
theorem qw_254 : Cond.selects R_Threads y_Threads_topOf y_Threads_topOf ∈ m_TB := m_in_s (q := (y_Threads_topOf, 1)) (List.mem_of_getElem? (i := 59) (by decide +kernel))
theorem qw_255 : Cond.methodLink R_Arc 134 y_Arc_rootBit ∈ m_TB := m_in_t (List.mem_of_getElem? (i := 530) (by decide +kernel)) rfl
theorem qw_256 : Cond.instanceMethod y_Arc_rootBit ∈ m_TB := m_in_t (List.mem_of_getElem? (i := 532) (by decide +kernel)) rfl
theorem qw_257 : Cond.selects R_Arc y_Arc_rootBit y_Arc_rootBit ∈ m_TB := m_in_s (q := (y_Arc_rootBit, 10)) (List.mem_of_getElem? (i := 58) (by decide +kernel))
theorem qw_258 : Cond.methodLink R_Arc 130 y_Arc_rootsOf ∈ m_TB := m_in_t (List.mem_of_getElem? (i := 526) (by decide +kernel)) rfl
theorem qw_259 : Cond.instanceMethod y_Arc_rootsOf ∈ m_TB := m_in_t (List.mem_of_getElem? (i := 528) (by decide +kernel)) rfl
theorem qw_260 : Cond.selects R_Arc y_Arc_rootsOf y_Arc_rootsOf ∈ m_TB := m_in_s (q := (y_Arc_rootsOf, 10)) (List.mem_of_getElem? (i := 57) (by decide +kernel))
theorem qw_261 : Cond.instanceMethod y_Threads_parentOf ∈ m_TB := m_in_t (List.mem_of_getElem? (i := 548) (by decide +kernel)) rfl
theorem qw_262 : Cond.selects R_Threads y_Threads_parentOf y_Threads_parentOf ∈ m_TB := m_in_s (q := (y_Threads_parentOf, 1)) (List.mem_of_getElem? (i := 60) (by decide +kernel))
theorem qw_263 : Cond.instanceMethod y_Message_hasWord ∈ m_TB := m_in_t (List.mem_of_getElem? (i := 560) (by decide +kernel)) rfl
theorem qw_264 : Cond.selects R_Message y_Message_hasWord y_Message_hasWord ∈ m_TB := m_in_s (q := (y_Message_hasWord, 9)) (List.mem_of_getElem? (i := 61) (by decide +kernel))
theorem qw_265 : Cond.constantLong R_Arc 154 (-1) ∈ m_TB := m_in_t (List.mem_of_getElem? (i := 562) (by decide +kernel)) rfl
theorem qw_266 : Cond.instanceMethod y_Message_hasCodeBefore ∈ m_TB := m_in_t (List.mem_of_getElem? (i := 583) (by decide +kernel)) rfl
theorem qw_267 : Cond.selects R_Message y_Message_hasCodeBefore y_Message_hasCodeBefore ∈ m_TB := m_in_s (q := (y_Message_hasCodeBefore, 9)) (List.mem_of_getElem? (i := 63) (by decide +kernel))
theorem qw_268 : Cond.methodLink R_Arc 191 y_Arc_isCodeEarlier ∈ m_TB := m_in_t (List.mem_of_getElem? (i := 585) (by decide +kernel)) rfl
theorem qw_269 : Cond.instanceMethod y_Arc_isCodeEarlier ∈ m_TB := m_in_t (List.mem_of_getElem? (i := 587) (by decide +kernel)) rfl
theorem qw_270 : Cond.selects R_Arc y_Arc_isCodeEarlier y_Arc_isCodeEarlier ∈ m_TB := m_in_s (q := (y_Arc_isCodeEarlier, 10)) (List.mem_of_getElem? (i := 64) (by decide +kernel))
theorem qw_271 : Cond.constantLong R_Long 314 6148914691236517205 ∈ m_TB := m_in_t (List.mem_of_getElem? (i := 574) (by decide +kernel)) rfl
theorem qw_272 : Cond.constantLong R_Long 316 3689348814741910323 ∈ m_TB := m_in_t (List.mem_of_getElem? (i := 575) (by decide +kernel)) rfl
theorem qw_273 : Cond.constantLong R_Long 318 1085102592571150095 ∈ m_TB := m_in_t (List.mem_of_getElem? (i := 576) (by decide +kernel)) rfl
theorem qw_274 : Cond.methodLink R_Arc 163 y_Long_bitCount ∈ m_TB := m_in_t (List.mem_of_getElem? (i := 571) (by decide +kernel)) rfl
theorem qw_275 : Cond.initialized R_Long ∈ m_TB := m_in_t (List.mem_of_getElem? (i := 13) (by decide +kernel)) rfl
theorem qw_276 : Cond.static y_Long_bitCount ∈ m_TB := m_in_t (List.mem_of_getElem? (i := 572) (by decide +kernel)) rfl
theorem qw_277 : Cond.methodLink R_Arc 168 y_Arc_differentCodes ∈ m_TB := m_in_t (List.mem_of_getElem? (i := 577) (by decide +kernel)) rfl
theorem qw_278 : Cond.instanceMethod y_Arc_differentCodes ∈ m_TB := m_in_t (List.mem_of_getElem? (i := 579) (by decide +kernel)) rfl
theorem qw_279 : Cond.selects R_Arc y_Arc_differentCodes y_Arc_differentCodes ∈ m_TB := m_in_s (q := (y_Arc_differentCodes, 10)) (List.mem_of_getElem? (i := 62) (by decide +kernel))
theorem qw_280 : Cond.methodLink R_Arc 171 y_Arc_leavesOf ∈ m_TB := m_in_t (List.mem_of_getElem? (i := 589) (by decide +kernel)) rfl
theorem qw_281 : Cond.instanceMethod y_Arc_leavesOf ∈ m_TB := m_in_t (List.mem_of_getElem? (i := 591) (by decide +kernel)) rfl
theorem qw_282 : Cond.selects R_Arc y_Arc_leavesOf y_Arc_leavesOf ∈ m_TB := m_in_s (q := (y_Arc_leavesOf, 10)) (List.mem_of_getElem? (i := 65) (by decide +kernel))
theorem qw_283 : Cond.methodLink R_Mod 1 objectInit ∈ m_TB := m_in_t (List.mem_of_getElem? (i := 598) (by decide +kernel)) rfl
theorem qw_284 : Cond.fieldLink R_Mod 7 R_Mod "chars" "[I" ∈ m_TB := m_in_t (List.mem_of_getElem? (i := 599) (by decide +kernel)) rfl
theorem qw_285 : Cond.fieldLink R_Mod 13 R_Mod "lengths" "[I" ∈ m_TB := m_in_t (List.mem_of_getElem? (i := 600) (by decide +kernel)) rfl
theorem qw_286 : Cond.fieldLink R_Mod 16 R_Mod "partFrom" "[I" ∈ m_TB := m_in_t (List.mem_of_getElem? (i := 602) (by decide +kernel)) rfl
theorem qw_287 : Cond.fieldLink R_Mod 19 R_Mod "partTo" "[I" ∈ m_TB := m_in_t (List.mem_of_getElem? (i := 603) (by decide +kernel)) rfl
theorem qw_288 : Cond.fieldLink R_Mod 22 R_Mod "partDepth" "[I" ∈ m_TB := m_in_t (List.mem_of_getElem? (i := 604) (by decide +kernel)) rfl
theorem qw_289 : Cond.fieldLink R_Mod 25 R_Mod "there" "[Z" ∈ m_TB := m_in_t (List.mem_of_getElem? (i := 606) (by decide +kernel)) rfl
theorem qw_290 : Cond.fieldLink R_Mod 29 R_Mod "ids" "[I" ∈ m_TB := m_in_t (List.mem_of_getElem? (i := 607) (by decide +kernel)) rfl
theorem qw_291 : Cond.fieldLink R_Mod 32 R_Mod "order" "[I" ∈ m_TB := m_in_t (List.mem_of_getElem? (i := 608) (by decide +kernel)) rfl
theorem qw_292 : Cond.fieldLink R_Mod 35 R_Mod "references" "[I" ∈ m_TB := m_in_t (List.mem_of_getElem? (i := 610) (by decide +kernel)) rfl
theorem qw_293 : Cond.fieldLink R_Mod 38 R_Mod "referenceCount" "[I" ∈ m_TB := m_in_t (List.mem_of_getElem? (i := 611) (by decide +kernel)) rfl
theorem qw_294 : Cond.fieldLink R_Mod 41 R_Mod "tags" "[I" ∈ m_TB := m_in_t (List.mem_of_getElem? (i := 612) (by decide +kernel)) rfl
theorem qw_295 : Cond.fieldLink R_Mod 44 R_Mod "leaves" "[I" ∈ m_TB := m_in_t (List.mem_of_getElem? (i := 613) (by decide +kernel)) rfl
theorem qw_296 : Cond.fieldLink R_Mod 47 R_Mod "words" "[I" ∈ m_TB := m_in_t (List.mem_of_getElem? (i := 614) (by decide +kernel)) rfl
theorem qw_297 : Cond.fieldLink R_Mod 50 R_Mod "codes" "[J" ∈ m_TB := m_in_t (List.mem_of_getElem? (i := 615) (by decide +kernel)) rfl
theorem qw_298 : Cond.fieldLink R_Mod 54 R_Mod "fields" "[I" ∈ m_TB := m_in_t (List.mem_of_getElem? (i := 616) (by decide +kernel)) rfl
theorem qw_299 : Cond.fieldLink R_Mod 57 R_Mod "parent" "[I" ∈ m_TB := m_in_t (List.mem_of_getElem? (i := 618) (by decide +kernel)) rfl
theorem qw_300 : Cond.fieldLink R_Mod 60 R_Mod "errorAt" "I" ∈ m_TB := m_in_t (List.mem_of_getElem? (i := 620) (by decide +kernel)) rfl
theorem qw_301 : Cond.fieldLink R_Mod 64 R_Mod "sets" "[I" ∈ m_TB := m_in_t (List.mem_of_getElem? (i := 621) (by decide +kernel)) rfl
theorem qw_302 : Cond.fieldLink R_Mod 67 R_Mod "signs" "[I" ∈ m_TB := m_in_t (List.mem_of_getElem? (i := 622) (by decide +kernel)) rfl
theorem qw_303 : Cond.methodLink R_Mod 70 y_Mod_out ∈ m_TB := m_in_t (List.mem_of_getElem? (i := 688) (by decide +kernel)) rfl
theorem qw_304 : Cond.initialized R_Mod ∈ m_TB := m_in_t (List.mem_of_getElem? (i := 9) (by decide +kernel)) rfl
theorem qw_305 : Cond.static y_Mod_out ∈ m_TB := m_in_t (List.mem_of_getElem? (i := 689) (by decide +kernel)) rfl
theorem qw_306 : Cond.fieldLink R_Mod 74 R_Mod "lines" "I" ∈ m_TB := m_in_t (List.mem_of_getElem? (i := 601) (by decide +kernel)) rfl
theorem qw_307 : Cond.methodLink R_Mod 77 y_Mod_at ∈ m_TB := m_in_t (List.mem_of_getElem? (i := 695) (by decide +kernel)) rfl
theorem qw_308 : Cond.instanceMethod y_Mod_at ∈ m_TB := m_in_t (List.mem_of_getElem? (i := 697) (by decide +kernel)) rfl
theorem qw_309 : Cond.selects R_Mod y_Mod_at y_Mod_at ∈ m_TB := m_in_s (q := (y_Mod_at, 28)) (List.mem_of_getElem? (i := 66) (by decide +kernel))
theorem qw_310 : Cond.fieldLink R_Mod 114 R_Mod "letters" "I" ∈ m_TB := m_in_t (List.mem_of_getElem? (i := 626) (by decide +kernel)) rfl
theorem qw_311 : Cond.fieldLink R_Mod 104 R_Mod "target" "I" ∈ m_TB := m_in_t (List.mem_of_getElem? (i := 617) (by decide +kernel)) rfl
theorem qw_312 : Cond.fieldLink R_Mod 119 R_Mod "code" "J" ∈ m_TB := m_in_t (List.mem_of_getElem? (i := 625) (by decide +kernel)) rfl
theorem qw_313 : Cond.constantLong R_Mod 117 32 ∈ m_TB := m_in_t (List.mem_of_getElem? (i := 735) (by decide +kernel)) rfl
theorem qw_314 : Cond.methodLink R_Mod 123 y_Mod_letter ∈ m_TB := m_in_t (List.mem_of_getElem? (i := 731) (by decide +kernel)) rfl
theorem qw_315 : Cond.instanceMethod y_Mod_letter ∈ m_TB := m_in_t (List.mem_of_getElem? (i := 733) (by decide +kernel)) rfl
theorem qw_316 : Cond.selects R_Mod y_Mod_letter y_Mod_letter ∈ m_TB := m_in_s (q := (y_Mod_letter, 28)) (List.mem_of_getElem? (i := 73) (by decide +kernel))
theorem qw_317 : Cond.methodLink R_Mod 81 y_Mod_emptyLine ∈ m_TB := m_in_t (List.mem_of_getElem? (i := 711) (by decide +kernel)) rfl
theorem qw_318 : Cond.instanceMethod y_Mod_emptyLine ∈ m_TB := m_in_t (List.mem_of_getElem? (i := 713) (by decide +kernel)) rfl
theorem qw_319 : Cond.selects R_Mod y_Mod_emptyLine y_Mod_emptyLine ∈ m_TB := m_in_s (q := (y_Mod_emptyLine, 28)) (List.mem_of_getElem? (i := 68) (by decide +kernel))
theorem qw_320 : Cond.fieldLink R_Mod 84 R_Mod "parts" "I" ∈ m_TB := m_in_t (List.mem_of_getElem? (i := 605) (by decide +kernel)) rfl
theorem qw_321 : Cond.methodLink R_Mod 131 y_Mod_number ∈ m_TB := m_in_t (List.mem_of_getElem? (i := 715) (by decide +kernel)) rfl
theorem qw_322 : Cond.instanceMethod y_Mod_number ∈ m_TB := m_in_t (List.mem_of_getElem? (i := 717) (by decide +kernel)) rfl
theorem qw_323 : Cond.selects R_Mod y_Mod_number y_Mod_number ∈ m_TB := m_in_s (q := (y_Mod_number, 28)) (List.mem_of_getElem? (i := 69) (by decide +kernel))
theorem qw_324 : Cond.methodLink R_Mod 127 y_Mod_hex ∈ m_TB := m_in_t (List.mem_of_getElem? (i := 752) (by decide +kernel)) rfl
theorem qw_325 : Cond.static y_Mod_hex ∈ m_TB := m_in_t (List.mem_of_getElem? (i := 753) (by decide +kernel)) rfl
theorem qw_326 : Cond.methodLink R_Mod 87 y_Mod_header ∈ m_TB := m_in_t (List.mem_of_getElem? (i := 707) (by decide +kernel)) rfl
theorem qw_327 : Cond.instanceMethod y_Mod_header ∈ m_TB := m_in_t (List.mem_of_getElem? (i := 709) (by decide +kernel)) rfl
theorem qw_328 : Cond.selects R_Mod y_Mod_header y_Mod_header ∈ m_TB := m_in_s (q := (y_Mod_header, 28)) (List.mem_of_getElem? (i := 67) (by decide +kernel))
theorem qw_329 : Cond.methodLink R_Mod 111 y_Mod_collect ∈ m_TB := m_in_t (List.mem_of_getElem? (i := 727) (by decide +kernel)) rfl
theorem qw_330 : Cond.instanceMethod y_Mod_collect ∈ m_TB := m_in_t (List.mem_of_getElem? (i := 729) (by decide +kernel)) rfl
theorem qw_331 : Cond.selects R_Mod y_Mod_collect y_Mod_collect ∈ m_TB := m_in_s (q := (y_Mod_collect, 28)) (List.mem_of_getElem? (i := 72) (by decide +kernel))
theorem qw_332 : Cond.methodLink R_Mod 107 y_Mod_collectCoded ∈ m_TB := m_in_t (List.mem_of_getElem? (i := 748) (by decide +kernel)) rfl
theorem qw_333 : Cond.instanceMethod y_Mod_collectCoded ∈ m_TB := m_in_t (List.mem_of_getElem? (i := 750) (by decide +kernel)) rfl
theorem qw_334 : Cond.selects R_Mod y_Mod_collectCoded y_Mod_collectCoded ∈ m_TB := m_in_s (q := (y_Mod_collectCoded, 28)) (List.mem_of_getElem? (i := 77) (by decide +kernel))
theorem qw_335 : Cond.methodLink R_Mod 91 y_Mod_leaf ∈ m_TB := m_in_t (List.mem_of_getElem? (i := 744) (by decide +kernel)) rfl
theorem qw_336 : Cond.instanceMethod y_Mod_leaf ∈ m_TB := m_in_t (List.mem_of_getElem? (i := 746) (by decide +kernel)) rfl
theorem qw_337 : Cond.selects R_Mod y_Mod_leaf y_Mod_leaf ∈ m_TB := m_in_s (q := (y_Mod_leaf, 28)) (List.mem_of_getElem? (i := 76) (by decide +kernel))
theorem qw_338 : Cond.methodLink R_Mod 95 y_Mod_closes ∈ m_TB := m_in_t (List.mem_of_getElem? (i := 755) (by decide +kernel)) rfl
theorem qw_339 : Cond.instanceMethod y_Mod_closes ∈ m_TB := m_in_t (List.mem_of_getElem? (i := 757) (by decide +kernel)) rfl
theorem qw_340 : Cond.selects R_Mod y_Mod_closes y_Mod_closes ∈ m_TB := m_in_s (q := (y_Mod_closes, 28)) (List.mem_of_getElem? (i := 78) (by decide +kernel))
theorem qw_341 : Cond.methodLink R_Mod 98 y_Mod_cuts ∈ m_TB := m_in_t (List.mem_of_getElem? (i := 759) (by decide +kernel)) rfl
theorem qw_342 : Cond.instanceMethod y_Mod_cuts ∈ m_TB := m_in_t (List.mem_of_getElem? (i := 761) (by decide +kernel)) rfl
theorem qw_343 : Cond.selects R_Mod y_Mod_cuts y_Mod_cuts ∈ m_TB := m_in_s (q := (y_Mod_cuts, 28)) (List.mem_of_getElem? (i := 79) (by decide +kernel))
theorem qw_344 : Cond.methodLink R_Mod 101 y_Mod_push ∈ m_TB := m_in_t (List.mem_of_getElem? (i := 736) (by decide +kernel)) rfl
theorem qw_345 : Cond.instanceMethod y_Mod_push ∈ m_TB := m_in_t (List.mem_of_getElem? (i := 738) (by decide +kernel)) rfl
theorem qw_346 : Cond.selects R_Mod y_Mod_push y_Mod_push ∈ m_TB := m_in_s (q := (y_Mod_push, 28)) (List.mem_of_getElem? (i := 74) (by decide +kernel))
theorem qw_347 : Cond.fieldLink R_Mod 134 R_Mod "added" "I" ∈ m_TB := m_in_t (List.mem_of_getElem? (i := 609) (by decide +kernel)) rfl
theorem qw_348 : Cond.methodLink R_Mod 137 y_Mod_readReferences ∈ m_TB := m_in_t (List.mem_of_getElem? (i := 723) (by decide +kernel)) rfl
theorem qw_349 : Cond.instanceMethod y_Mod_readReferences ∈ m_TB := m_in_t (List.mem_of_getElem? (i := 725) (by decide +kernel)) rfl
theorem qw_350 : Cond.selects R_Mod y_Mod_readReferences y_Mod_readReferences ∈ m_TB := m_in_s (q := (y_Mod_readReferences, 28)) (List.mem_of_getElem? (i := 71) (by decide +kernel))
theorem qw_351 : Cond.methodLink R_Mod 140 y_Mod_takePart ∈ m_TB := m_in_t (List.mem_of_getElem? (i := 740) (by decide +kernel)) rfl
theorem qw_352 : Cond.instanceMethod y_Mod_takePart ∈ m_TB := m_in_t (List.mem_of_getElem? (i := 742) (by decide +kernel)) rfl
theorem qw_353 : Cond.selects R_Mod y_Mod_takePart y_Mod_takePart ∈ m_TB := m_in_s (q := (y_Mod_takePart, 28)) (List.mem_of_getElem? (i := 75) (by decide +kernel))
theorem qw_354 : Cond.methodLink R_Mod 143 y_Mod_fill ∈ m_TB := m_in_t (List.mem_of_getElem? (i := 719) (by decide +kernel)) rfl
theorem qw_355 : Cond.instanceMethod y_Mod_fill ∈ m_TB := m_in_t (List.mem_of_getElem? (i := 721) (by decide +kernel)) rfl
theorem qw_356 : Cond.selects R_Mod y_Mod_fill y_Mod_fill ∈ m_TB := m_in_s (q := (y_Mod_fill, 28)) (List.mem_of_getElem? (i := 70) (by decide +kernel))
theorem qw_357 : Cond.methodLink R_Mod 146 y_Mod_noMessage ∈ m_TB := m_in_t (List.mem_of_getElem? (i := 767) (by decide +kernel)) rfl
theorem qw_358 : Cond.instanceMethod y_Mod_noMessage ∈ m_TB := m_in_t (List.mem_of_getElem? (i := 769) (by decide +kernel)) rfl
theorem qw_359 : Cond.selects R_Mod y_Mod_noMessage y_Mod_noMessage ∈ m_TB := m_in_s (q := (y_Mod_noMessage, 28)) (List.mem_of_getElem? (i := 80) (by decide +kernel))
theorem qw_360 : Cond.methodLink R_Mod 156 y_Mod_isLetter ∈ m_TB := m_in_t (List.mem_of_getElem? (i := 787) (by decide +kernel)) rfl
theorem qw_361 : Cond.static y_Mod_isLetter ∈ m_TB := m_in_t (List.mem_of_getElem? (i := 788) (by decide +kernel)) rfl
theorem qw_362 : Cond.methodLink R_Mod 159 y_Mod_nextState ∈ m_TB := m_in_t (List.mem_of_getElem? (i := 783) (by decide +kernel)) rfl
theorem qw_363 : Cond.instanceMethod y_Mod_nextState ∈ m_TB := m_in_t (List.mem_of_getElem? (i := 785) (by decide +kernel)) rfl
theorem qw_364 : Cond.selects R_Mod y_Mod_nextState y_Mod_nextState ∈ m_TB := m_in_s (q := (y_Mod_nextState, 28)) (List.mem_of_getElem? (i := 82) (by decide +kernel))
theorem qw_365 : Cond.fieldLink R_Mod 171 R_Mod "signCount" "I" ∈ m_TB := m_in_t (List.mem_of_getElem? (i := 624) (by decide +kernel)) rfl
theorem qw_366 : Cond.fieldLink R_Mod 178 R_Mod "setCount" "I" ∈ m_TB := m_in_t (List.mem_of_getElem? (i := 623) (by decide +kernel)) rfl
theorem qw_367 : Cond.methodLink R_Mod 174 y_Mod_present ∈ m_TB := m_in_t (List.mem_of_getElem? (i := 802) (by decide +kernel)) rfl
theorem qw_368 : Cond.instanceMethod y_Mod_present ∈ m_TB := m_in_t (List.mem_of_getElem? (i := 804) (by decide +kernel)) rfl
theorem qw_369 : Cond.selects R_Mod y_Mod_present y_Mod_present ∈ m_TB := m_in_s (q := (y_Mod_present, 28)) (List.mem_of_getElem? (i := 86) (by decide +kernel))
theorem qw_370 : Cond.methodLink R_Mod 181 y_Mod_reduce ∈ m_TB := m_in_t (List.mem_of_getElem? (i := 821) (by decide +kernel)) rfl
theorem qw_371 : Cond.instanceMethod y_Mod_reduce ∈ m_TB := m_in_t (List.mem_of_getElem? (i := 823) (by decide +kernel)) rfl
theorem qw_372 : Cond.selects R_Mod y_Mod_reduce y_Mod_reduce ∈ m_TB := m_in_s (q := (y_Mod_reduce, 28)) (List.mem_of_getElem? (i := 89) (by decide +kernel))
theorem qw_373 : Cond.methodLink R_Mod 185 y_Mod_one ∈ m_TB := m_in_t (List.mem_of_getElem? (i := 798) (by decide +kernel)) rfl
theorem qw_374 : Cond.instanceMethod y_Mod_one ∈ m_TB := m_in_t (List.mem_of_getElem? (i := 800) (by decide +kernel)) rfl
theorem qw_375 : Cond.selects R_Mod y_Mod_one y_Mod_one ∈ m_TB := m_in_s (q := (y_Mod_one, 28)) (List.mem_of_getElem? (i := 85) (by decide +kernel))
theorem qw_376 : Cond.methodLink R_Mod 163 y_Mod_lettersOf ∈ m_TB := m_in_t (List.mem_of_getElem? (i := 814) (by decide +kernel)) rfl
theorem qw_377 : Cond.static y_Mod_lettersOf ∈ m_TB := m_in_t (List.mem_of_getElem? (i := 815) (by decide +kernel)) rfl
theorem qw_378 : Cond.methodLink R_Mod 167 y_Mod_begins ∈ m_TB := m_in_t (List.mem_of_getElem? (i := 811) (by decide +kernel)) rfl
theorem qw_379 : Cond.static y_Mod_begins ∈ m_TB := m_in_t (List.mem_of_getElem? (i := 812) (by decide +kernel)) rfl
theorem qw_380 : Cond.methodLink R_Mod 188 y_Mod_withTag ∈ m_TB := m_in_t (List.mem_of_getElem? (i := 794) (by decide +kernel)) rfl
theorem qw_381 : Cond.instanceMethod y_Mod_withTag ∈ m_TB := m_in_t (List.mem_of_getElem? (i := 796) (by decide +kernel)) rfl
theorem qw_382 : Cond.selects R_Mod y_Mod_withTag y_Mod_withTag ∈ m_TB := m_in_s (q := (y_Mod_withTag, 28)) (List.mem_of_getElem? (i := 84) (by decide +kernel))
theorem qw_383 : Cond.constantLong R_Mod 191 97 ∈ m_TB := m_in_t (List.mem_of_getElem? (i := 806) (by decide +kernel)) rfl
theorem qw_384 : Cond.methodLink R_Mod 193 y_Mod_withWord ∈ m_TB := m_in_t (List.mem_of_getElem? (i := 807) (by decide +kernel)) rfl
theorem qw_385 : Cond.instanceMethod y_Mod_withWord ∈ m_TB := m_in_t (List.mem_of_getElem? (i := 809) (by decide +kernel)) rfl
theorem qw_386 : Cond.selects R_Mod y_Mod_withWord y_Mod_withWord ∈ m_TB := m_in_s (q := (y_Mod_withWord, 28)) (List.mem_of_getElem? (i := 87) (by decide +kernel))
theorem qw_387 : Cond.methodLink R_Mod 197 y_Mod_fault ∈ m_TB := m_in_t (List.mem_of_getElem? (i := 779) (by decide +kernel)) rfl
theorem qw_388 : Cond.instanceMethod y_Mod_fault ∈ m_TB := m_in_t (List.mem_of_getElem? (i := 781) (by decide +kernel)) rfl
theorem qw_389 : Cond.selects R_Mod y_Mod_fault y_Mod_fault ∈ m_TB := m_in_s (q := (y_Mod_fault, 28)) (List.mem_of_getElem? (i := 81) (by decide +kernel))
theorem qw_390 : Cond.fieldLink R_Mod 206 R_Mod "found" "I" ∈ m_TB := m_in_t (List.mem_of_getElem? (i := 619) (by decide +kernel)) rfl
theorem qw_391 : Cond.methodLink R_Mod 209 y_Mod_size ∈ m_TB := m_in_t (List.mem_of_getElem? (i := 825) (by decide +kernel)) rfl
theorem qw_392 : Cond.static y_Mod_size ∈ m_TB := m_in_t (List.mem_of_getElem? (i := 826) (by decide +kernel)) rfl
theorem qw_393 : Cond.methodLink R_Mod 203 y_Mod_sign ∈ m_TB := m_in_t (List.mem_of_getElem? (i := 817) (by decide +kernel)) rfl
theorem qw_394 : Cond.instanceMethod y_Mod_sign ∈ m_TB := m_in_t (List.mem_of_getElem? (i := 819) (by decide +kernel)) rfl
theorem qw_395 : Cond.selects R_Mod y_Mod_sign y_Mod_sign ∈ m_TB := m_in_s (q := (y_Mod_sign, 28)) (List.mem_of_getElem? (i := 88) (by decide +kernel))
theorem qw_396 : Cond.methodLink R_Mod 200 y_Mod_term ∈ m_TB := m_in_t (List.mem_of_getElem? (i := 790) (by decide +kernel)) rfl
theorem qw_397 : Cond.instanceMethod y_Mod_term ∈ m_TB := m_in_t (List.mem_of_getElem? (i := 792) (by decide +kernel)) rfl
theorem qw_398 : Cond.selects R_Mod y_Mod_term y_Mod_term ∈ m_TB := m_in_s (q := (y_Mod_term, 28)) (List.mem_of_getElem? (i := 83) (by decide +kernel))
theorem qw_399 : Cond.methodLink R_Mod 212 y_Mod_pick ∈ m_TB := m_in_t (List.mem_of_getElem? (i := 836) (by decide +kernel)) rfl
theorem qw_400 : Cond.static y_Mod_pick ∈ m_TB := m_in_t (List.mem_of_getElem? (i := 837) (by decide +kernel)) rfl
theorem qw_401 : Cond.methodLink R_Mod 150 y_Mod_addedAfter ∈ m_TB := m_in_t (List.mem_of_getElem? (i := 847) (by decide +kernel)) rfl
theorem qw_402 : Cond.instanceMethod y_Mod_addedAfter ∈ m_TB := m_in_t (List.mem_of_getElem? (i := 849) (by decide +kernel)) rfl
theorem qw_403 : Cond.selects R_Mod y_Mod_addedAfter y_Mod_addedAfter ∈ m_TB := m_in_s (q := (y_Mod_addedAfter, 28)) (List.mem_of_getElem? (i := 91) (by decide +kernel))
theorem qw_404 : Cond.methodLink R_Mod 153 y_Mod_ring ∈ m_TB := m_in_t (List.mem_of_getElem? (i := 851) (by decide +kernel)) rfl
theorem qw_405 : Cond.instanceMethod y_Mod_ring ∈ m_TB := m_in_t (List.mem_of_getElem? (i := 853) (by decide +kernel)) rfl
theorem qw_406 : Cond.selects R_Mod y_Mod_ring y_Mod_ring ∈ m_TB := m_in_s (q := (y_Mod_ring, 28)) (List.mem_of_getElem? (i := 92) (by decide +kernel))
theorem qw_407 : Cond.methodLink R_Mod 215 y_Mod_linkAll ∈ m_TB := m_in_t (List.mem_of_getElem? (i := 843) (by decide +kernel)) rfl
theorem qw_408 : Cond.instanceMethod y_Mod_linkAll ∈ m_TB := m_in_t (List.mem_of_getElem? (i := 845) (by decide +kernel)) rfl
theorem qw_409 : Cond.selects R_Mod y_Mod_linkAll y_Mod_linkAll ∈ m_TB := m_in_s (q := (y_Mod_linkAll, 28)) (List.mem_of_getElem? (i := 90) (by decide +kernel))
theorem qw_410 : Cond.methodLink R_Mod 218 y_Mod_top ∈ m_TB := m_in_t (List.mem_of_getElem? (i := 855) (by decide +kernel)) rfl
theorem qw_411 : Cond.instanceMethod y_Mod_top ∈ m_TB := m_in_t (List.mem_of_getElem? (i := 857) (by decide +kernel)) rfl
theorem qw_412 : Cond.selects R_Mod y_Mod_top y_Mod_top ∈ m_TB := m_in_s (q := (y_Mod_top, 28)) (List.mem_of_getElem? (i := 93) (by decide +kernel))
theorem qw_413 : Cond.methodLink R_Mod 221 y_Mod_withId ∈ m_TB := m_in_t (List.mem_of_getElem? (i := 867) (by decide +kernel)) rfl
theorem qw_414 : Cond.instanceMethod y_Mod_withId ∈ m_TB := m_in_t (List.mem_of_getElem? (i := 869) (by decide +kernel)) rfl
theorem qw_415 : Cond.selects R_Mod y_Mod_withId y_Mod_withId ∈ m_TB := m_in_s (q := (y_Mod_withId, 28)) (List.mem_of_getElem? (i := 94) (by decide +kernel))
theorem qw_416 : Cond.constantLong R_Mod 224 (-1) ∈ m_TB := m_in_t (List.mem_of_getElem? (i := 879) (by decide +kernel)) rfl
theorem qw_417 : Cond.methodLink R_Mod 226 y_Mod_fresh ∈ m_TB := m_in_t (List.mem_of_getElem? (i := 896) (by decide +kernel)) rfl
theorem qw_418 : Cond.instanceMethod y_Mod_fresh ∈ m_TB := m_in_t (List.mem_of_getElem? (i := 898) (by decide +kernel)) rfl
theorem qw_419 : Cond.selects R_Mod y_Mod_fresh y_Mod_fresh ∈ m_TB := m_in_s (q := (y_Mod_fresh, 28)) (List.mem_of_getElem? (i := 97) (by decide +kernel))
theorem qw_420 : Cond.methodLink R_Mod 229 y_Mod_roots ∈ m_TB := m_in_t (List.mem_of_getElem? (i := 888) (by decide +kernel)) rfl
theorem qw_421 : Cond.instanceMethod y_Mod_roots ∈ m_TB := m_in_t (List.mem_of_getElem? (i := 890) (by decide +kernel)) rfl
theorem qw_422 : Cond.selects R_Mod y_Mod_roots y_Mod_roots ∈ m_TB := m_in_s (q := (y_Mod_roots, 28)) (List.mem_of_getElem? (i := 95) (by decide +kernel))
theorem qw_423 : Cond.methodLink R_Mod 232 y_Mod_different ∈ m_TB := m_in_t (List.mem_of_getElem? (i := 892) (by decide +kernel)) rfl
theorem qw_424 : Cond.instanceMethod y_Mod_different ∈ m_TB := m_in_t (List.mem_of_getElem? (i := 894) (by decide +kernel)) rfl
theorem qw_425 : Cond.selects R_Mod y_Mod_different y_Mod_different ∈ m_TB := m_in_s (q := (y_Mod_different, 28)) (List.mem_of_getElem? (i := 96) (by decide +kernel))
theorem qn_0 : Cond.methodLinkNest R_Draft 21 y_Line_init "ThreadedArchive" ∈ m_NW := m_in_n (List.mem_of_getElem? (i := 49) (by decide +kernel)) rfl
theorem qn_1 : Cond.methodLinkNest R_Reader 11 y_Letters_init "ThreadedArchive" ∈ m_NW := m_in_n (List.mem_of_getElem? (i := 68) (by decide +kernel)) rfl
theorem qn_2 : Cond.methodLinkNest R_Reader 20 y_Line_init "ThreadedArchive" ∈ m_NW := m_in_n (List.mem_of_getElem? (i := 84) (by decide +kernel)) rfl
theorem qn_3 : Cond.methodLinkNest R_Query 24 y_Letters_init "ThreadedArchive" ∈ m_NW := m_in_n (List.mem_of_getElem? (i := 114) (by decide +kernel)) rfl
theorem qn_4 : Cond.methodLinkNest R_Arc 9 y_Line_init "ThreadedArchive" ∈ m_NW := m_in_n (List.mem_of_getElem? (i := 24) (by decide +kernel)) rfl
theorem qn_5 : Cond.methodLinkNest R_Arc 18 y_Draft_init "ThreadedArchive" ∈ m_NW := m_in_n (List.mem_of_getElem? (i := 43) (by decide +kernel)) rfl
theorem qn_6 : Cond.methodLinkNest R_Arc 25 y_Reader_init "ThreadedArchive" ∈ m_NW := m_in_n (List.mem_of_getElem? (i := 62) (by decide +kernel)) rfl
theorem qn_7 : Cond.methodLinkNest R_Arc 32 y_Threads_init "ThreadedArchive" ∈ m_NW := m_in_n (List.mem_of_getElem? (i := 94) (by decide +kernel)) rfl
theorem qn_8 : Cond.methodLinkNest R_Arc 39 y_Query_init "ThreadedArchive" ∈ m_NW := m_in_n (List.mem_of_getElem? (i := 109) (by decide +kernel)) rfl
theorem qn_9 : Cond.methodLinkNest R_Arc 50 y_Message_init "ThreadedArchive" ∈ m_NW := m_in_n (List.mem_of_getElem? (i := 141) (by decide +kernel)) rfl
theorem qn_10 : Cond.methodLinkNest R_Arc 65 y_Line_put "ThreadedArchive" ∈ m_NW := m_in_n (List.mem_of_getElem? (i := 219) (by decide +kernel)) rfl
theorem qn_11 : Cond.fieldLinkNest R_Arc 69 R_Line "length" "I" "ThreadedArchive" ∈ m_NW := m_in_n (List.mem_of_getElem? (i := 31) (by decide +kernel)) rfl
theorem qn_12 : Cond.methodLinkNest R_Draft 22 y_Line_copyFrom "ThreadedArchive" ∈ m_NW := m_in_n (List.mem_of_getElem? (i := 231) (by decide +kernel)) rfl
theorem qn_13 : Cond.methodLinkNest R_Arc 72 y_Draft_take "ThreadedArchive" ∈ m_NW := m_in_n (List.mem_of_getElem? (i := 227) (by decide +kernel)) rfl
theorem qn_14 : Cond.methodLinkNest R_Arc 76 y_Line_clear "ThreadedArchive" ∈ m_NW := m_in_n (List.mem_of_getElem? (i := 238) (by decide +kernel)) rfl
theorem qn_15 : Cond.fieldLinkNest R_Arc 79 R_Draft "size" "I" "ThreadedArchive" ∈ m_NW := m_in_n (List.mem_of_getElem? (i := 54) (by decide +kernel)) rfl
theorem qn_16 : Cond.methodLinkNest R_Arc 82 y_Draft_clear "ThreadedArchive" ∈ m_NW := m_in_n (List.mem_of_getElem? (i := 246) (by decide +kernel)) rfl
theorem qn_17 : Cond.fieldLinkNest R_Arc 98 R_Message "there" "Z" "ThreadedArchive" ∈ m_NW := m_in_n (List.mem_of_getElem? (i := 152) (by decide +kernel)) rfl
theorem qn_18 : Cond.fieldLinkNest R_Arc 138 R_Message "id" "I" "ThreadedArchive" ∈ m_NW := m_in_n (List.mem_of_getElem? (i := 155) (by decide +kernel)) rfl
theorem qn_19 : Cond.fieldLinkNest R_Draft 26 R_Line "length" "I" "ThreadedArchive" ∈ m_NW := m_in_n (List.mem_of_getElem? (i := 32) (by decide +kernel)) rfl
theorem qn_20 : Cond.methodLinkNest R_Draft 38 y_Line_isHeader "ThreadedArchive" ∈ m_NW := m_in_n (List.mem_of_getElem? (i := 270) (by decide +kernel)) rfl
theorem qn_21 : Cond.methodLinkNest R_Line 29 y_Arc_digit "ThreadedArchive" ∈ m_NW := m_in_n (List.mem_of_getElem? (i := 282) (by decide +kernel)) rfl
theorem qn_22 : Cond.methodLinkNest R_Draft 46 y_Line_idBetween "ThreadedArchive" ∈ m_NW := m_in_n (List.mem_of_getElem? (i := 278) (by decide +kernel)) rfl
theorem qn_23 : Cond.methodLinkNest R_Arc 174 y_Draft_id "ThreadedArchive" ∈ m_NW := m_in_n (List.mem_of_getElem? (i := 258) (by decide +kernel)) rfl
theorem qn_24 : Cond.fieldLinkNest R_Threads 18 R_Message "referenceCount" "I" "ThreadedArchive" ∈ m_NW := m_in_n (List.mem_of_getElem? (i := 157) (by decide +kernel)) rfl
theorem qn_25 : Cond.fieldLinkNest R_Threads 31 R_Message "id" "I" "ThreadedArchive" ∈ m_NW := m_in_n (List.mem_of_getElem? (i := 154) (by decide +kernel)) rfl
theorem qn_26 : Cond.fieldLinkNest R_Threads 24 R_Message "references" "[I" "ThreadedArchive" ∈ m_NW := m_in_n (List.mem_of_getElem? (i := 146) (by decide +kernel)) rfl
theorem qn_27 : Cond.methodLinkNest R_Arc 176 y_Threads_clear "ThreadedArchive" ∈ m_NW := m_in_n (List.mem_of_getElem? (i := 385) (by decide +kernel)) rfl
theorem qn_28 : Cond.methodLinkNest R_Arc 177 y_Threads_join "ThreadedArchive" ∈ m_NW := m_in_n (List.mem_of_getElem? (i := 386) (by decide +kernel)) rfl
theorem qn_29 : Cond.methodLinkNest R_Message 46 y_Line_blankFrom "ThreadedArchive" ∈ m_NW := m_in_n (List.mem_of_getElem? (i := 307) (by decide +kernel)) rfl
theorem qn_30 : Cond.methodLinkNest R_Message 52 y_Line_idBetween "ThreadedArchive" ∈ m_NW := m_in_n (List.mem_of_getElem? (i := 311) (by decide +kernel)) rfl
theorem qn_31 : Cond.fieldLinkNest R_Message 56 R_Line "length" "I" "ThreadedArchive" ∈ m_NW := m_in_n (List.mem_of_getElem? (i := 34) (by decide +kernel)) rfl
theorem qn_32 : Cond.fieldLinkNest R_Message 59 R_Letters "number" "I" "ThreadedArchive" ∈ m_NW := m_in_n (List.mem_of_getElem? (i := 76) (by decide +kernel)) rfl
theorem qn_33 : Cond.fieldLinkNest R_Message 64 R_Letters "code" "J" "ThreadedArchive" ∈ m_NW := m_in_n (List.mem_of_getElem? (i := 73) (by decide +kernel)) rfl
theorem qn_34 : Cond.methodLinkNest R_Message 68 y_Letters_clear "ThreadedArchive" ∈ m_NW := m_in_n (List.mem_of_getElem? (i := 336) (by decide +kernel)) rfl
theorem qn_35 : Cond.fieldLinkNest R_Reader 65 R_Line "length" "I" "ThreadedArchive" ∈ m_NW := m_in_n (List.mem_of_getElem? (i := 33) (by decide +kernel)) rfl
theorem qn_36 : Cond.methodLinkNest R_Reader 105 y_Message_takeWord "ThreadedArchive" ∈ m_NW := m_in_n (List.mem_of_getElem? (i := 332) (by decide +kernel)) rfl
theorem qn_37 : Cond.methodLinkNest R_Reader 68 y_Line_at "ThreadedArchive" ∈ m_NW := m_in_n (List.mem_of_getElem? (i := 320) (by decide +kernel)) rfl
theorem qn_38 : Cond.methodLinkNest R_Reader 99 y_Arc_letter "ThreadedArchive" ∈ m_NW := m_in_n (List.mem_of_getElem? (i := 321) (by decide +kernel)) rfl
theorem qn_39 : Cond.methodLinkNest R_Reader 102 y_Letters_put "ThreadedArchive" ∈ m_NW := m_in_n (List.mem_of_getElem? (i := 327) (by decide +kernel)) rfl
theorem qn_40 : Cond.methodLinkNest R_Reader 109 y_Line_clear "ThreadedArchive" ∈ m_NW := m_in_n (List.mem_of_getElem? (i := 375) (by decide +kernel)) rfl
theorem qn_41 : Cond.methodLinkNest R_Reader 112 y_Arc_hexDigit "ThreadedArchive" ∈ m_NW := m_in_n (List.mem_of_getElem? (i := 376) (by decide +kernel)) rfl
theorem qn_42 : Cond.methodLinkNest R_Reader 115 y_Line_put "ThreadedArchive" ∈ m_NW := m_in_n (List.mem_of_getElem? (i := 380) (by decide +kernel)) rfl
theorem qn_43 : Cond.fieldLinkNest R_Reader 92 R_Message "leaves" "I" "ThreadedArchive" ∈ m_NW := m_in_n (List.mem_of_getElem? (i := 161) (by decide +kernel)) rfl
theorem qn_44 : Cond.fieldLinkNest R_Reader 84 R_Draft "lines" "[LThreadedArchive$Line;" "ThreadedArchive" ∈ m_NW := m_in_n (List.mem_of_getElem? (i := 51) (by decide +kernel)) rfl
theorem qn_45 : Cond.methodLinkNest R_Draft 49 y_Line_isClosing "ThreadedArchive" ∈ m_NW := m_in_n (List.mem_of_getElem? (i := 359) (by decide +kernel)) rfl
theorem qn_46 : Cond.methodLinkNest R_Reader 80 y_Draft_closingPlace "ThreadedArchive" ∈ m_NW := m_in_n (List.mem_of_getElem? (i := 355) (by decide +kernel)) rfl
theorem qn_47 : Cond.methodLinkNest R_Reader 88 y_Line_isCut "ThreadedArchive" ∈ m_NW := m_in_n (List.mem_of_getElem? (i := 363) (by decide +kernel)) rfl
theorem qn_48 : Cond.methodLinkNest R_Reader 41 y_Draft_header "ThreadedArchive" ∈ m_NW := m_in_n (List.mem_of_getElem? (i := 298) (by decide +kernel)) rfl
theorem qn_49 : Cond.methodLinkNest R_Reader 61 y_Draft_bodyStart "ThreadedArchive" ∈ m_NW := m_in_n (List.mem_of_getElem? (i := 344) (by decide +kernel)) rfl
theorem qn_50 : Cond.methodLinkNest R_Reader 25 y_Draft_id "ThreadedArchive" ∈ m_NW := m_in_n (List.mem_of_getElem? (i := 293) (by decide +kernel)) rfl
theorem qn_51 : Cond.methodLinkNest R_Reader 31 y_Message_begin "ThreadedArchive" ∈ m_NW := m_in_n (List.mem_of_getElem? (i := 294) (by decide +kernel)) rfl
theorem qn_52 : Cond.fieldLinkNest R_Reader 37 R_Draft "size" "I" "ThreadedArchive" ∈ m_NW := m_in_n (List.mem_of_getElem? (i := 53) (by decide +kernel)) rfl
theorem qn_53 : Cond.methodLinkNest R_Reader 45 y_Message_setReferences "ThreadedArchive" ∈ m_NW := m_in_n (List.mem_of_getElem? (i := 299) (by decide +kernel)) rfl
theorem qn_54 : Cond.methodLinkNest R_Arc 87 y_Reader_readDraft "ThreadedArchive" ∈ m_NW := m_in_n (List.mem_of_getElem? (i := 289) (by decide +kernel)) rfl
theorem qn_55 : Cond.methodLinkNest R_Arc 106 y_Message_setTag "ThreadedArchive" ∈ m_NW := m_in_n (List.mem_of_getElem? (i := 414) (by decide +kernel)) rfl
theorem qn_56 : Cond.methodLinkNest R_Query 62 y_Letters_clear "ThreadedArchive" ∈ m_NW := m_in_n (List.mem_of_getElem? (i := 434) (by decide +kernel)) rfl
theorem qn_57 : Cond.fieldLinkNest R_Query 97 R_Letters "code" "J" "ThreadedArchive" ∈ m_NW := m_in_n (List.mem_of_getElem? (i := 74) (by decide +kernel)) rfl
theorem qn_58 : Cond.methodLinkNest R_Query 118 y_Message_hasMatch "ThreadedArchive" ∈ m_NW := m_in_n (List.mem_of_getElem? (i := 469) (by decide +kernel)) rfl
theorem qn_59 : Cond.methodLinkNest R_Query 87 y_Arc_smallLetter "ThreadedArchive" ∈ m_NW := m_in_n (List.mem_of_getElem? (i := 444) (by decide +kernel)) rfl
theorem qn_60 : Cond.fieldLinkNest R_Query 94 R_Letters "number" "I" "ThreadedArchive" ∈ m_NW := m_in_n (List.mem_of_getElem? (i := 77) (by decide +kernel)) rfl
theorem qn_61 : Cond.methodLinkNest R_Query 90 y_Letters_put "ThreadedArchive" ∈ m_NW := m_in_n (List.mem_of_getElem? (i := 445) (by decide +kernel)) rfl
theorem qn_62 : Cond.methodLinkNest R_Query 107 y_Arc_digit "ThreadedArchive" ∈ m_NW := m_in_n (List.mem_of_getElem? (i := 492) (by decide +kernel)) rfl
theorem qn_63 : Cond.methodLinkNest R_Query 110 y_Message_hasTag "ThreadedArchive" ∈ m_NW := m_in_n (List.mem_of_getElem? (i := 493) (by decide +kernel)) rfl
theorem qn_64 : Cond.fieldLinkNest R_Query 42 R_Line "length" "I" "ThreadedArchive" ∈ m_NW := m_in_n (List.mem_of_getElem? (i := 30) (by decide +kernel)) rfl
theorem qn_65 : Cond.methodLinkNest R_Query 47 y_Line_at "ThreadedArchive" ∈ m_NW := m_in_n (List.mem_of_getElem? (i := 435) (by decide +kernel)) rfl
theorem qn_66 : Cond.methodLinkNest R_Arc 110 y_Query_read "ThreadedArchive" ∈ m_NW := m_in_n (List.mem_of_getElem? (i := 422) (by decide +kernel)) rfl
theorem qn_67 : Cond.methodLinkNest R_Arc 114 y_Query_holding "ThreadedArchive" ∈ m_NW := m_in_n (List.mem_of_getElem? (i := 497) (by decide +kernel)) rfl
theorem qn_68 : Cond.methodLinkNest R_Arc 147 y_Threads_topOf "ThreadedArchive" ∈ m_NW := m_in_n (List.mem_of_getElem? (i := 534) (by decide +kernel)) rfl
theorem qn_69 : Cond.methodLinkNest R_Arc 141 y_Threads_parentOf "ThreadedArchive" ∈ m_NW := m_in_n (List.mem_of_getElem? (i := 546) (by decide +kernel)) rfl
theorem qn_70 : Cond.methodLinkNest R_Arc 150 y_Message_hasWord "ThreadedArchive" ∈ m_NW := m_in_n (List.mem_of_getElem? (i := 558) (by decide +kernel)) rfl
theorem qn_71 : Cond.fieldLinkNest R_Arc 156 R_Message "codes" "[J" "ThreadedArchive" ∈ m_NW := m_in_n (List.mem_of_getElem? (i := 148) (by decide +kernel)) rfl
theorem qn_72 : Cond.fieldLinkNest R_Arc 160 R_Message "fields" "[I" "ThreadedArchive" ∈ m_NW := m_in_n (List.mem_of_getElem? (i := 150) (by decide +kernel)) rfl
theorem qn_73 : Cond.fieldLinkNest R_Arc 184 R_Message "wordCount" "I" "ThreadedArchive" ∈ m_NW := m_in_n (List.mem_of_getElem? (i := 159) (by decide +kernel)) rfl
theorem qn_74 : Cond.methodLinkNest R_Arc 187 y_Message_hasCodeBefore "ThreadedArchive" ∈ m_NW := m_in_n (List.mem_of_getElem? (i := 581) (by decide +kernel)) rfl
theorem qn_75 : Cond.fieldLinkNest R_Arc 181 R_Message "leaves" "I" "ThreadedArchive" ∈ m_NW := m_in_n (List.mem_of_getElem? (i := 162) (by decide +kernel)) rfl
