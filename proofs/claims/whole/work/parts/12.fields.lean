theorem fd_Arc_line : m_Fd 0 0 R_Arc R_Arc "line" "LThreadedArchive$Line;" F_Arc 10 true (.object "ThreadedArchive$Line") := ⟨i_Arc, rfl, by decide, rfl, rfl, rfl, rfl, t_Arc_ok 0 (by decide), n_Arc, t_Arc, t_Arc_ok⟩
theorem fd_Arc_draft : m_Fd 0 1 R_Arc R_Arc "draft" "LThreadedArchive$Draft;" F_Arc 10 true (.object "ThreadedArchive$Draft") := ⟨i_Arc, rfl, by decide, rfl, rfl, rfl, rfl, t_Arc_ok 1 (by decide), n_Arc, t_Arc, t_Arc_ok⟩
theorem fd_Arc_reader : m_Fd 0 2 R_Arc R_Arc "reader" "LThreadedArchive$PartReader;" F_Arc 10 true (.object "ThreadedArchive$PartReader") := ⟨i_Arc, rfl, by decide, rfl, rfl, rfl, rfl, t_Arc_ok 2 (by decide), n_Arc, t_Arc, t_Arc_ok⟩
theorem fd_Arc_threads : m_Fd 0 3 R_Arc R_Arc "threads" "LThreadedArchive$Threads;" F_Arc 10 true (.object "ThreadedArchive$Threads") := ⟨i_Arc, rfl, by decide, rfl, rfl, rfl, rfl, t_Arc_ok 3 (by decide), n_Arc, t_Arc, t_Arc_ok⟩
theorem fd_Arc_query : m_Fd 0 4 R_Arc R_Arc "query" "LThreadedArchive$Query;" F_Arc 10 true (.object "ThreadedArchive$Query") := ⟨i_Arc, rfl, by decide, rfl, rfl, rfl, rfl, t_Arc_ok 4 (by decide), n_Arc, t_Arc, t_Arc_ok⟩
theorem fd_Arc_messages : m_Fd 0 5 R_Arc R_Arc "messages" "[LThreadedArchive$Message;" F_Arc 10 true (.array (.object "ThreadedArchive$Message")) := ⟨i_Arc, rfl, by decide, rfl, rfl, rfl, rfl, t_Arc_ok 5 (by decide), n_Arc, t_Arc, t_Arc_ok⟩
theorem fd_Arc_order : m_Fd 0 6 R_Arc R_Arc "order" "[I" F_Arc 10 true (.array .int) := ⟨i_Arc, rfl, by decide, rfl, rfl, rfl, rfl, t_Arc_ok 6 (by decide), n_Arc, t_Arc, t_Arc_ok⟩
theorem fd_Arc_messageCount : m_Fd 0 7 R_Arc R_Arc "messageCount" "I" F_Arc 10 false .int := ⟨i_Arc, rfl, by decide, rfl, rfl, rfl, rfl, t_Arc_ok 7 (by decide), n_Arc, t_Arc, t_Arc_ok⟩
theorem fd_Arc_found : m_Fd 0 8 R_Arc R_Arc "found" "I" F_Arc 10 false .int := ⟨i_Arc, rfl, by decide, rfl, rfl, rfl, rfl, t_Arc_ok 8 (by decide), n_Arc, t_Arc, t_Arc_ok⟩
theorem fd_Arc_errorPlace : m_Fd 0 9 R_Arc R_Arc "errorPlace" "I" F_Arc 10 false .int := ⟨i_Arc, rfl, by decide, rfl, rfl, rfl, rfl, t_Arc_ok 9 (by decide), n_Arc, t_Arc, t_Arc_ok⟩
theorem z_Arc (B : Nat) : ∀ j, j < 10 → defaultValue (t_Arc j) = vp_V (([.null, .null, .null, .null, .null, .null, .null, .int 0, .int 0, .int 0] : List Value).map (m_v B)) j := fun j hj => by
  rcases (show j = 0 ∨ j = 1 ∨ j = 2 ∨ j = 3 ∨ j = 4 ∨ j = 5 ∨ j = 6 ∨ j = 7 ∨ j = 8 ∨ j = 9 by omega) with rfl | rfl | rfl | rfl | rfl | rfl | rfl | rfl | rfl | rfl <;> rfl
theorem fd_Line_characters : m_Fd 1 0 R_Line R_Line "characters" "[C" F_Line 2 true (.array .char) := ⟨i_Line, rfl, by decide, rfl, rfl, rfl, rfl, t_Line_ok 0 (by decide), n_Line, t_Line, t_Line_ok⟩
theorem fd_Line_length : m_Fd 1 1 R_Line R_Line "length" "I" F_Line 2 false .int := ⟨i_Line, rfl, by decide, rfl, rfl, rfl, rfl, t_Line_ok 1 (by decide), n_Line, t_Line, t_Line_ok⟩
theorem z_Line (B : Nat) : ∀ j, j < 2 → defaultValue (t_Line j) = vp_V (([.null, .int 0] : List Value).map (m_v B)) j := fun j hj => by
  rcases (show j = 0 ∨ j = 1 by omega) with rfl | rfl <;> rfl
theorem fd_Draft_lines : m_Fd 2 0 R_Draft R_Draft "lines" "[LThreadedArchive$Line;" F_Draft 2 true (.array (.object "ThreadedArchive$Line")) := ⟨i_Draft, rfl, by decide, rfl, rfl, rfl, rfl, t_Draft_ok 0 (by decide), n_Draft, t_Draft, t_Draft_ok⟩
theorem fd_Draft_size : m_Fd 2 1 R_Draft R_Draft "size" "I" F_Draft 2 false .int := ⟨i_Draft, rfl, by decide, rfl, rfl, rfl, rfl, t_Draft_ok 1 (by decide), n_Draft, t_Draft, t_Draft_ok⟩
theorem z_Draft (B : Nat) : ∀ j, j < 2 → defaultValue (t_Draft j) = vp_V (([.null, .int 0] : List Value).map (m_v B)) j := fun j hj => by
  rcases (show j = 0 ∨ j = 1 by omega) with rfl | rfl <;> rfl
theorem fd_Letters_code : m_Fd 3 0 R_Letters R_Letters "code" "J" F_Letters 2 false .long := ⟨i_Letters, rfl, by decide, rfl, rfl, rfl, rfl, t_Letters_ok 0 (by decide), n_Letters, t_Letters, t_Letters_ok⟩
theorem fd_Letters_number : m_Fd 3 1 R_Letters R_Letters "number" "I" F_Letters 2 false .int := ⟨i_Letters, rfl, by decide, rfl, rfl, rfl, rfl, t_Letters_ok 1 (by decide), n_Letters, t_Letters, t_Letters_ok⟩
theorem z_Letters (B : Nat) : ∀ j, j < 2 → defaultValue (t_Letters j) = vp_V (([.long 0, .int 0] : List Value).map (m_v B)) j := fun j hj => by
  rcases (show j = 0 ∨ j = 1 by omega) with rfl | rfl <;> rfl
theorem fd_Message_references : m_Fd 4 0 R_Message R_Message "references" "[I" F_Message 9 true (.array .int) := ⟨i_Message, rfl, by decide, rfl, rfl, rfl, rfl, t_Message_ok 0 (by decide), n_Message, t_Message, t_Message_ok⟩
theorem fd_Message_codes : m_Fd 4 1 R_Message R_Message "codes" "[J" F_Message 9 true (.array .long) := ⟨i_Message, rfl, by decide, rfl, rfl, rfl, rfl, t_Message_ok 1 (by decide), n_Message, t_Message, t_Message_ok⟩
theorem fd_Message_fields : m_Fd 4 2 R_Message R_Message "fields" "[I" F_Message 9 true (.array .int) := ⟨i_Message, rfl, by decide, rfl, rfl, rfl, rfl, t_Message_ok 2 (by decide), n_Message, t_Message, t_Message_ok⟩
theorem fd_Message_there : m_Fd 4 3 R_Message R_Message "there" "Z" F_Message 9 false .boolean := ⟨i_Message, rfl, by decide, rfl, rfl, rfl, rfl, t_Message_ok 3 (by decide), n_Message, t_Message, t_Message_ok⟩
theorem fd_Message_id : m_Fd 4 4 R_Message R_Message "id" "I" F_Message 9 false .int := ⟨i_Message, rfl, by decide, rfl, rfl, rfl, rfl, t_Message_ok 4 (by decide), n_Message, t_Message, t_Message_ok⟩
theorem fd_Message_referenceCount : m_Fd 4 5 R_Message R_Message "referenceCount" "I" F_Message 9 false .int := ⟨i_Message, rfl, by decide, rfl, rfl, rfl, rfl, t_Message_ok 5 (by decide), n_Message, t_Message, t_Message_ok⟩
theorem fd_Message_wordCount : m_Fd 4 6 R_Message R_Message "wordCount" "I" F_Message 9 false .int := ⟨i_Message, rfl, by decide, rfl, rfl, rfl, rfl, t_Message_ok 6 (by decide), n_Message, t_Message, t_Message_ok⟩
theorem fd_Message_leaves : m_Fd 4 7 R_Message R_Message "leaves" "I" F_Message 9 false .int := ⟨i_Message, rfl, by decide, rfl, rfl, rfl, rfl, t_Message_ok 7 (by decide), n_Message, t_Message, t_Message_ok⟩
theorem fd_Message_tags : m_Fd 4 8 R_Message R_Message "tags" "I" F_Message 9 false .int := ⟨i_Message, rfl, by decide, rfl, rfl, rfl, rfl, t_Message_ok 8 (by decide), n_Message, t_Message, t_Message_ok⟩
theorem z_Message (B : Nat) : ∀ j, j < 9 → defaultValue (t_Message j) = vp_V (([.null, .null, .null, .int 0, .int 0, .int 0, .int 0, .int 0, .int 0] : List Value).map (m_v B)) j := fun j hj => by
  rcases (show j = 0 ∨ j = 1 ∨ j = 2 ∨ j = 3 ∨ j = 4 ∨ j = 5 ∨ j = 6 ∨ j = 7 ∨ j = 8 by omega) with rfl | rfl | rfl | rfl | rfl | rfl | rfl | rfl | rfl <;> rfl
theorem fd_Reader_letters : m_Fd 5 0 R_Reader R_Reader "letters" "LThreadedArchive$Letters;" F_Reader 2 true (.object "ThreadedArchive$Letters") := ⟨i_Reader, rfl, by decide, rfl, rfl, rfl, rfl, t_Reader_ok 0 (by decide), n_Reader, t_Reader, t_Reader_ok⟩
theorem fd_Reader_decoded : m_Fd 5 1 R_Reader R_Reader "decoded" "LThreadedArchive$Line;" F_Reader 2 true (.object "ThreadedArchive$Line") := ⟨i_Reader, rfl, by decide, rfl, rfl, rfl, rfl, t_Reader_ok 1 (by decide), n_Reader, t_Reader, t_Reader_ok⟩
theorem z_Reader (B : Nat) : ∀ j, j < 2 → defaultValue (t_Reader j) = vp_V (([.null, .null] : List Value).map (m_v B)) j := fun j hj => by
  rcases (show j = 0 ∨ j = 1 by omega) with rfl | rfl <;> rfl
theorem fd_Threads_parents : m_Fd 6 0 R_Threads R_Threads "parents" "[I" F_Threads 1 true (.array .int) := ⟨i_Threads, rfl, by decide, rfl, rfl, rfl, rfl, t_Threads_ok 0 (by decide), n_Threads, t_Threads, t_Threads_ok⟩
theorem z_Threads (B : Nat) : ∀ j, j < 1 → defaultValue (t_Threads j) = vp_V (([.null] : List Value).map (m_v B)) j := fun j hj => by
  rcases (show j = 0 by omega) with rfl <;> rfl
theorem fd_Query_any : m_Fd 7 0 R_Query R_Query "any" "[I" F_Query 7 true (.array .int) := ⟨i_Query, rfl, by decide, rfl, rfl, rfl, rfl, t_Query_ok 0 (by decide), n_Query, t_Query, t_Query_ok⟩
theorem fd_Query_all : m_Fd 7 1 R_Query R_Query "all" "[I" F_Query 7 true (.array .int) := ⟨i_Query, rfl, by decide, rfl, rfl, rfl, rfl, t_Query_ok 1 (by decide), n_Query, t_Query, t_Query_ok⟩
theorem fd_Query_isNegated : m_Fd 7 2 R_Query R_Query "isNegated" "[Z" F_Query 7 true (.array .boolean) := ⟨i_Query, rfl, by decide, rfl, rfl, rfl, rfl, t_Query_ok 2 (by decide), n_Query, t_Query, t_Query_ok⟩
theorem fd_Query_letters : m_Fd 7 3 R_Query R_Query "letters" "LThreadedArchive$Letters;" F_Query 7 true (.object "ThreadedArchive$Letters") := ⟨i_Query, rfl, by decide, rfl, rfl, rfl, rfl, t_Query_ok 3 (by decide), n_Query, t_Query, t_Query_ok⟩
theorem fd_Query_level : m_Fd 7 4 R_Query R_Query "level" "I" F_Query 7 false .int := ⟨i_Query, rfl, by decide, rfl, rfl, rfl, rfl, t_Query_ok 4 (by decide), n_Query, t_Query, t_Query_ok⟩
theorem fd_Query_state : m_Fd 7 5 R_Query R_Query "state" "I" F_Query 7 false .int := ⟨i_Query, rfl, by decide, rfl, rfl, rfl, rfl, t_Query_ok 5 (by decide), n_Query, t_Query, t_Query_ok⟩
theorem fd_Query_inField : m_Fd 7 6 R_Query R_Query "inField" "I" F_Query 7 false .int := ⟨i_Query, rfl, by decide, rfl, rfl, rfl, rfl, t_Query_ok 6 (by decide), n_Query, t_Query, t_Query_ok⟩
theorem z_Query (B : Nat) : ∀ j, j < 7 → defaultValue (t_Query j) = vp_V (([.null, .null, .null, .null, .int 0, .int 0, .int 0] : List Value).map (m_v B)) j := fun j hj => by
  rcases (show j = 0 ∨ j = 1 ∨ j = 2 ∨ j = 3 ∨ j = 4 ∨ j = 5 ∨ j = 6 by omega) with rfl | rfl | rfl | rfl | rfl | rfl | rfl <;> rfl
theorem fd_Mod_chars : m_Fd 8 0 R_Mod R_Mod "chars" "[I" F_Mod 28 true (.array .int) := ⟨i_Mod, rfl, by decide, rfl, rfl, rfl, rfl, t_Mod_ok 0 (by decide), n_Mod, t_Mod, t_Mod_ok⟩
theorem fd_Mod_lengths : m_Fd 8 1 R_Mod R_Mod "lengths" "[I" F_Mod 28 true (.array .int) := ⟨i_Mod, rfl, by decide, rfl, rfl, rfl, rfl, t_Mod_ok 1 (by decide), n_Mod, t_Mod, t_Mod_ok⟩
theorem fd_Mod_lines : m_Fd 8 2 R_Mod R_Mod "lines" "I" F_Mod 28 false .int := ⟨i_Mod, rfl, by decide, rfl, rfl, rfl, rfl, t_Mod_ok 2 (by decide), n_Mod, t_Mod, t_Mod_ok⟩
theorem fd_Mod_partFrom : m_Fd 8 3 R_Mod R_Mod "partFrom" "[I" F_Mod 28 true (.array .int) := ⟨i_Mod, rfl, by decide, rfl, rfl, rfl, rfl, t_Mod_ok 3 (by decide), n_Mod, t_Mod, t_Mod_ok⟩
theorem fd_Mod_partTo : m_Fd 8 4 R_Mod R_Mod "partTo" "[I" F_Mod 28 true (.array .int) := ⟨i_Mod, rfl, by decide, rfl, rfl, rfl, rfl, t_Mod_ok 4 (by decide), n_Mod, t_Mod, t_Mod_ok⟩
theorem fd_Mod_partDepth : m_Fd 8 5 R_Mod R_Mod "partDepth" "[I" F_Mod 28 true (.array .int) := ⟨i_Mod, rfl, by decide, rfl, rfl, rfl, rfl, t_Mod_ok 5 (by decide), n_Mod, t_Mod, t_Mod_ok⟩
theorem fd_Mod_parts : m_Fd 8 6 R_Mod R_Mod "parts" "I" F_Mod 28 false .int := ⟨i_Mod, rfl, by decide, rfl, rfl, rfl, rfl, t_Mod_ok 6 (by decide), n_Mod, t_Mod, t_Mod_ok⟩
theorem fd_Mod_there : m_Fd 8 7 R_Mod R_Mod "there" "[Z" F_Mod 28 true (.array .boolean) := ⟨i_Mod, rfl, by decide, rfl, rfl, rfl, rfl, t_Mod_ok 7 (by decide), n_Mod, t_Mod, t_Mod_ok⟩
theorem fd_Mod_ids : m_Fd 8 8 R_Mod R_Mod "ids" "[I" F_Mod 28 true (.array .int) := ⟨i_Mod, rfl, by decide, rfl, rfl, rfl, rfl, t_Mod_ok 8 (by decide), n_Mod, t_Mod, t_Mod_ok⟩
theorem fd_Mod_order : m_Fd 8 9 R_Mod R_Mod "order" "[I" F_Mod 28 true (.array .int) := ⟨i_Mod, rfl, by decide, rfl, rfl, rfl, rfl, t_Mod_ok 9 (by decide), n_Mod, t_Mod, t_Mod_ok⟩
theorem fd_Mod_added : m_Fd 8 10 R_Mod R_Mod "added" "I" F_Mod 28 false .int := ⟨i_Mod, rfl, by decide, rfl, rfl, rfl, rfl, t_Mod_ok 10 (by decide), n_Mod, t_Mod, t_Mod_ok⟩
theorem fd_Mod_references : m_Fd 8 11 R_Mod R_Mod "references" "[I" F_Mod 28 true (.array .int) := ⟨i_Mod, rfl, by decide, rfl, rfl, rfl, rfl, t_Mod_ok 11 (by decide), n_Mod, t_Mod, t_Mod_ok⟩
theorem fd_Mod_referenceCount : m_Fd 8 12 R_Mod R_Mod "referenceCount" "[I" F_Mod 28 true (.array .int) := ⟨i_Mod, rfl, by decide, rfl, rfl, rfl, rfl, t_Mod_ok 12 (by decide), n_Mod, t_Mod, t_Mod_ok⟩
theorem fd_Mod_tags : m_Fd 8 13 R_Mod R_Mod "tags" "[I" F_Mod 28 true (.array .int) := ⟨i_Mod, rfl, by decide, rfl, rfl, rfl, rfl, t_Mod_ok 13 (by decide), n_Mod, t_Mod, t_Mod_ok⟩
theorem fd_Mod_leaves : m_Fd 8 14 R_Mod R_Mod "leaves" "[I" F_Mod 28 true (.array .int) := ⟨i_Mod, rfl, by decide, rfl, rfl, rfl, rfl, t_Mod_ok 14 (by decide), n_Mod, t_Mod, t_Mod_ok⟩
theorem fd_Mod_words : m_Fd 8 15 R_Mod R_Mod "words" "[I" F_Mod 28 true (.array .int) := ⟨i_Mod, rfl, by decide, rfl, rfl, rfl, rfl, t_Mod_ok 15 (by decide), n_Mod, t_Mod, t_Mod_ok⟩
theorem fd_Mod_codes : m_Fd 8 16 R_Mod R_Mod "codes" "[J" F_Mod 28 true (.array .long) := ⟨i_Mod, rfl, by decide, rfl, rfl, rfl, rfl, t_Mod_ok 16 (by decide), n_Mod, t_Mod, t_Mod_ok⟩
theorem fd_Mod_fields : m_Fd 8 17 R_Mod R_Mod "fields" "[I" F_Mod 28 true (.array .int) := ⟨i_Mod, rfl, by decide, rfl, rfl, rfl, rfl, t_Mod_ok 17 (by decide), n_Mod, t_Mod, t_Mod_ok⟩
theorem fd_Mod_target : m_Fd 8 18 R_Mod R_Mod "target" "I" F_Mod 28 false .int := ⟨i_Mod, rfl, by decide, rfl, rfl, rfl, rfl, t_Mod_ok 18 (by decide), n_Mod, t_Mod, t_Mod_ok⟩
theorem fd_Mod_parent : m_Fd 8 19 R_Mod R_Mod "parent" "[I" F_Mod 28 true (.array .int) := ⟨i_Mod, rfl, by decide, rfl, rfl, rfl, rfl, t_Mod_ok 19 (by decide), n_Mod, t_Mod, t_Mod_ok⟩
theorem fd_Mod_found : m_Fd 8 20 R_Mod R_Mod "found" "I" F_Mod 28 false .int := ⟨i_Mod, rfl, by decide, rfl, rfl, rfl, rfl, t_Mod_ok 20 (by decide), n_Mod, t_Mod, t_Mod_ok⟩
theorem fd_Mod_errorAt : m_Fd 8 21 R_Mod R_Mod "errorAt" "I" F_Mod 28 false .int := ⟨i_Mod, rfl, by decide, rfl, rfl, rfl, rfl, t_Mod_ok 21 (by decide), n_Mod, t_Mod, t_Mod_ok⟩
theorem fd_Mod_sets : m_Fd 8 22 R_Mod R_Mod "sets" "[I" F_Mod 28 true (.array .int) := ⟨i_Mod, rfl, by decide, rfl, rfl, rfl, rfl, t_Mod_ok 22 (by decide), n_Mod, t_Mod, t_Mod_ok⟩
theorem fd_Mod_signs : m_Fd 8 23 R_Mod R_Mod "signs" "[I" F_Mod 28 true (.array .int) := ⟨i_Mod, rfl, by decide, rfl, rfl, rfl, rfl, t_Mod_ok 23 (by decide), n_Mod, t_Mod, t_Mod_ok⟩
theorem fd_Mod_setCount : m_Fd 8 24 R_Mod R_Mod "setCount" "I" F_Mod 28 false .int := ⟨i_Mod, rfl, by decide, rfl, rfl, rfl, rfl, t_Mod_ok 24 (by decide), n_Mod, t_Mod, t_Mod_ok⟩
theorem fd_Mod_signCount : m_Fd 8 25 R_Mod R_Mod "signCount" "I" F_Mod 28 false .int := ⟨i_Mod, rfl, by decide, rfl, rfl, rfl, rfl, t_Mod_ok 25 (by decide), n_Mod, t_Mod, t_Mod_ok⟩
theorem fd_Mod_code : m_Fd 8 26 R_Mod R_Mod "code" "J" F_Mod 28 false .long := ⟨i_Mod, rfl, by decide, rfl, rfl, rfl, rfl, t_Mod_ok 26 (by decide), n_Mod, t_Mod, t_Mod_ok⟩
theorem fd_Mod_letters : m_Fd 8 27 R_Mod R_Mod "letters" "I" F_Mod 28 false .int := ⟨i_Mod, rfl, by decide, rfl, rfl, rfl, rfl, t_Mod_ok 27 (by decide), n_Mod, t_Mod, t_Mod_ok⟩
theorem z_Mod (B : Nat) : ∀ j, j < 28 → defaultValue (t_Mod j) = vp_V (([.null, .null, .int 0, .null, .null, .null, .int 0, .null, .null, .null, .int 0, .null, .null, .null, .null, .null, .null, .null, .int 0, .null, .int 0, .int 0, .null, .null, .int 0, .int 0, .long 0, .int 0] : List Value).map (m_v B)) j := fun j hj => by
  rcases (show j = 0 ∨ j = 1 ∨ j = 2 ∨ j = 3 ∨ j = 4 ∨ j = 5 ∨ j = 6 ∨ j = 7 ∨ j = 8 ∨ j = 9 ∨ j = 10 ∨ j = 11 ∨ j = 12 ∨ j = 13 ∨ j = 14 ∨ j = 15 ∨ j = 16 ∨ j = 17 ∨ j = 18 ∨ j = 19 ∨ j = 20 ∨ j = 21 ∨ j = 22 ∨ j = 23 ∨ j = 24 ∨ j = 25 ∨ j = 26 ∨ j = 27 by omega) with rfl | rfl | rfl | rfl | rfl | rfl | rfl | rfl | rfl | rfl | rfl | rfl | rfl | rfl | rfl | rfl | rfl | rfl | rfl | rfl | rfl | rfl | rfl | rfl | rfl | rfl | rfl | rfl <;> rfl
