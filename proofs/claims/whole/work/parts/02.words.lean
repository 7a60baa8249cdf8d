/-- the good words of the tables: what every method's contract stands on -/
def av_T : List Cond := lw_tbl.filter goodWord
theorem av_t {w : Cond} (h : w ∈ lw_tbl) (g : goodWord w = true) : w ∈ av_T := List.mem_filter.mpr ⟨h, g⟩
theorem av_T_in {w : Cond} (h : w ∈ av_T) : w ∈ lw_tbl := (List.mem_filter.mp h).1
theorem av_T_good : GoodIn av_T av_T := fun w h => ⟨h, good_of_word (List.mem_filter.mp h).2⟩
theorem av_lw_good : GoodIn lw_tbl av_T := fun w h => ⟨av_T_in h, good_of_word (List.mem_filter.mp h).2⟩
theorem av_t1 {w : Cond} (h : w ∈ tables_1_1) (g : goodWord w = true) : w ∈ av_T := av_t (List.mem_append_right _ (List.mem_append_left _ h)) g
theorem av_t2 {w : Cond} (h : w ∈ tables_1_2) (g : goodWord w = true) : w ∈ av_T := av_t (List.mem_append_right _ (List.mem_append_right _ (List.mem_append_left _ h))) g
theorem av_t3 {w : Cond} (h : w ∈ tables_1_3) (g : goodWord w = true) : w ∈ av_T := av_t (List.mem_append_right _ (List.mem_append_right _ (List.mem_append_right _ (List.mem_append_left _ h)))) g
theorem av_t4 {w : Cond} (h : w ∈ tables_1_4) (g : goodWord w = true) : w ∈ av_T := av_t (List.mem_append_right _ (List.mem_append_right _ (List.mem_append_right _ (List.mem_append_right _ (List.mem_append_left _ h))))) g
theorem av_t5 {w : Cond} (h : w ∈ tables_1_5) (g : goodWord w = true) : w ∈ av_T := av_t (List.mem_append_right _ (List.mem_append_right _ (List.mem_append_right _ (List.mem_append_right _ (List.mem_append_right _ h))))) g
theorem av_tp {q : MethodName × Nat} (h : q ∈ lw_privs) : Cond.selects q.1.cls q.1 q.1 ∈ av_T := av_t (List.mem_append_left _ (List.mem_map.mpr ⟨q, h, rfl⟩)) rfl
theorem av_p1 {q : MethodName × Nat} (h : q ∈ lw_privs_1) : Cond.selects q.1.cls q.1 q.1 ∈ av_T := av_tp (List.mem_append_left _ h)
theorem av_p2 {q : MethodName × Nat} (h : q ∈ lw_privs_2) : Cond.selects q.1.cls q.1 q.1 ∈ av_T := av_tp (List.mem_append_right _ (List.mem_append_left _ h))
theorem av_p3 {q : MethodName × Nat} (h : q ∈ lw_privs_3) : Cond.selects q.1.cls q.1 q.1 ∈ av_T := av_tp (List.mem_append_right _ (List.mem_append_right _ (List.mem_append_left _ h)))
theorem av_p4 {q : MethodName × Nat} (h : q ∈ lw_privs_4) : Cond.selects q.1.cls q.1 q.1 ∈ av_T := av_tp (List.mem_append_right _ (List.mem_append_right _ (List.mem_append_right _ (List.mem_append_left _ h))))
theorem av_p5 {q : MethodName × Nat} (h : q ∈ lw_privs_5) : Cond.selects q.1.cls q.1 q.1 ∈ av_T := av_tp (List.mem_append_right _ (List.mem_append_right _ (List.mem_append_right _ (List.mem_append_right _ h))))
/-- a method: its name, bytes, locals, return type; how many frames and locals' words it may need below it -/
abbrev av_Y : Type := MethodName × ByteArray × Nat × Option FieldType × Nat × Nat
def av_mb (M : av_Y) (n : Nat) : Prop := M.1.cls ≠ "java/lang/invoke/MethodHandle" ∧ M.1.cls ≠ "java/lang/invoke/VarHandle" ∧ (parseMethodDescriptor M.1.desc).map (fun d => d.parameters.length) = some n ∧ Cond.initialized M.1.cls ∈ av_T ∧ Cond.code M.1 M.2.1 M.2.2.1 M.2.2.2.1 ∈ av_T
theorem iuX0 : ∀ w ∈ u_ws RX0 TX0 12, w ∈ av_T := fun w h => av_t ((goodIn_of (big := lw_tbl) (u_ws RX0 TX0 12) (by decide +kernel)) w h).1 (by revert w; exact List.all_eq_true.mp (by decide +kernel))
theorem iuX1 : ∀ w ∈ u_ws RX1 TX1 2, w ∈ av_T := fun w h => av_t ((goodIn_of (big := lw_tbl) (u_ws RX1 TX1 2) (by decide +kernel)) w h).1 (by revert w; exact List.all_eq_true.mp (by decide +kernel))
theorem iuX2 : ∀ w ∈ u_ws RX2 TX2 3, w ∈ av_T := fun w h => av_t ((goodIn_of (big := lw_tbl) (u_ws RX2 TX2 3) (by decide +kernel)) w h).1 (by revert w; exact List.all_eq_true.mp (by decide +kernel))
theorem iuX3 : ∀ w ∈ u_ws RX3 TX3 15, w ∈ av_T := fun w h => av_t ((goodIn_of (big := lw_tbl) (u_ws RX3 TX3 15) (by decide +kernel)) w h).1 (by revert w; exact List.all_eq_true.mp (by decide +kernel))
theorem iuX4 : ∀ w ∈ u_ws RX4 TX4 11, w ∈ av_T := fun w h => av_t ((goodIn_of (big := lw_tbl) (u_ws RX4 TX4 11) (by decide +kernel)) w h).1 (by revert w; exact List.all_eq_true.mp (by decide +kernel))
theorem iuX5 : ∀ w ∈ u_ws RX5 TX5 40, w ∈ av_T := fun w h => av_t ((goodIn_of (big := lw_tbl) (u_ws RX5 TX5 40) (by decide +kernel)) w h).1 (by revert w; exact List.all_eq_true.mp (by decide +kernel))
theorem wN_X0 : Cond.initialized RX0 ∈ av_T := av_t1 (List.mem_of_getElem? (i := 5) rfl) rfl
theorem wN_X1 : Cond.initialized RX1 ∈ av_T := av_t1 (List.mem_of_getElem? (i := 2) rfl) rfl
theorem wN_X2 : Cond.initialized RX2 ∈ av_T := av_t1 (List.mem_of_getElem? (i := 3) rfl) rfl
theorem wN_X3 : Cond.initialized RX3 ∈ av_T := av_t1 (List.mem_of_getElem? (i := 4) rfl) rfl
theorem wN_X4 : Cond.initialized RX4 ∈ av_T := av_t1 (List.mem_of_getElem? (i := 1) rfl) rfl
theorem wN_X5 : Cond.initialized RX5 ∈ av_T := av_t1 (List.mem_of_getElem? (i := 11) rfl) rfl
theorem wN_J6 : Cond.initialized RJ6 ∈ av_T := av_t1 (List.mem_of_getElem? (i := 13) rfl) rfl
theorem wN_J9 : Cond.initialized RJ9 ∈ av_T := av_t1 (List.mem_of_getElem? (i := 10) rfl) rfl
theorem wN_J10 : Cond.initialized RJ10 ∈ av_T := av_t1 (List.mem_of_getElem? (i := 12) rfl) rfl
theorem wN_J0 : Cond.initialized RJ0 ∈ av_T := av_t1 (List.mem_of_getElem? (i := 6) rfl) rfl
abbrev mX0_init : av_Y := (yX0_init, cX0_init, 2, none, 1, 20)
theorem mbX0_init : av_mb mX0_init 1 := ⟨by decide, by decide, by decide +kernel, wN_X0, av_t1 (List.mem_of_getElem? (i := 127) rfl) rfl⟩
theorem wI_X0_init : Cond.instanceMethod yX0_init ∈ av_T := av_t1 (List.mem_of_getElem? (i := 126) rfl) rfl
abbrev mX0_take : av_Y := (yX0_take, cX0_take, 5, none, 1, 24)
theorem mbX0_take : av_mb mX0_take 2 := ⟨by decide, by decide, by decide +kernel, wN_X0, av_t2 (List.mem_of_getElem? (i := 128) rfl) rfl⟩
theorem wI_X0_take : Cond.instanceMethod yX0_take ∈ av_T := av_t2 (List.mem_of_getElem? (i := 126) rfl) rfl
theorem wS_X0_take : Cond.selects RX0 yX0_take yX0_take ∈ av_T := av_t2 (List.mem_of_getElem? (i := 127) rfl) rfl
abbrev mX0_fitWords : av_Y := (yX0_fitWords, cX0_fitWords, 5, none, 0, 0)
theorem mbX0_fitWords : av_mb mX0_fitWords 1 := ⟨by decide, by decide, by decide +kernel, wN_X0, av_t2 (List.mem_of_getElem? (i := 133) rfl) rfl⟩
theorem wI_X0_fitWords : Cond.instanceMethod yX0_fitWords ∈ av_T := av_t2 (List.mem_of_getElem? (i := 132) rfl) rfl
theorem wS_X0_fitWords : Cond.selects RX0 yX0_fitWords yX0_fitWords ∈ av_T := av_p1 (q := (⟨"WallReadings$Grammar", "fitWords", "(I)V"⟩, 12)) (List.mem_of_getElem? (i := 13) rfl)
abbrev mX0_tally : av_Y := (yX0_tally, cX0_tally, 3, some .int, 1, 27)
theorem mbX0_tally : av_mb mX0_tally 1 := ⟨by decide, by decide, by decide +kernel, wN_X0, av_t2 (List.mem_of_getElem? (i := 138) rfl) rfl⟩
theorem wI_X0_tally : Cond.instanceMethod yX0_tally ∈ av_T := av_t2 (List.mem_of_getElem? (i := 136) rfl) rfl
theorem wS_X0_tally : Cond.selects RX0 yX0_tally yX0_tally ∈ av_T := av_t2 (List.mem_of_getElem? (i := 137) rfl) rfl
abbrev mX0_tallyFrom : av_Y := (yX0_tallyFrom, cX0_tallyFrom, 8, none, 0, 0)
theorem mbX0_tallyFrom : av_mb mX0_tallyFrom 1 := ⟨by decide, by decide, by decide +kernel, wN_X0, av_t2 (List.mem_of_getElem? (i := 146) rfl) rfl⟩
theorem wI_X0_tallyFrom : Cond.instanceMethod yX0_tallyFrom ∈ av_T := av_t2 (List.mem_of_getElem? (i := 145) rfl) rfl
theorem wS_X0_tallyFrom : Cond.selects RX0 yX0_tallyFrom yX0_tallyFrom ∈ av_T := av_p1 (q := (⟨"WallReadings$Grammar", "tallyFrom", "(I)V"⟩, 12)) (List.mem_of_getElem? (i := 15) rfl)
abbrev mX0_mayEndAt : av_Y := (yX0_mayEndAt, cX0_mayEndAt, 2, some .boolean, 0, 0)
theorem mbX0_mayEndAt : av_mb mX0_mayEndAt 1 := ⟨by decide, by decide, by decide +kernel, wN_X0, av_t2 (List.mem_of_getElem? (i := 142) rfl) rfl⟩
theorem wI_X0_mayEndAt : Cond.instanceMethod yX0_mayEndAt ∈ av_T := av_t2 (List.mem_of_getElem? (i := 141) rfl) rfl
theorem wS_X0_mayEndAt : Cond.selects RX0 yX0_mayEndAt yX0_mayEndAt ∈ av_T := av_p1 (q := (⟨"WallReadings$Grammar", "mayEndAt", "(I)Z"⟩, 12)) (List.mem_of_getElem? (i := 14) rfl)
abbrev mX0_openAt : av_Y := (yX0_openAt, cX0_openAt, 4, some .int, 0, 0)
theorem mbX0_openAt : av_mb mX0_openAt 1 := ⟨by decide, by decide, by decide +kernel, wN_X0, av_t2 (List.mem_of_getElem? (i := 162) rfl) rfl⟩
theorem wI_X0_openAt : Cond.instanceMethod yX0_openAt ∈ av_T := av_t2 (List.mem_of_getElem? (i := 161) rfl) rfl
theorem wS_X0_openAt : Cond.selects RX0 yX0_openAt yX0_openAt ∈ av_T := av_p2 (q := (⟨"WallReadings$Grammar", "openAt", "(I)I"⟩, 12)) (List.mem_of_getElem? (i := 1) rfl)
abbrev mX0_slotBehind : av_Y := (yX0_slotBehind, cX0_slotBehind, 4, some .int, 0, 0)
theorem mbX0_slotBehind : av_mb mX0_slotBehind 2 := ⟨by decide, by decide, by decide +kernel, wN_X0, av_t2 (List.mem_of_getElem? (i := 169) rfl) rfl⟩
theorem wI_X0_slotBehind : Cond.instanceMethod yX0_slotBehind ∈ av_T := av_t2 (List.mem_of_getElem? (i := 168) rfl) rfl
theorem wS_X0_slotBehind : Cond.selects RX0 yX0_slotBehind yX0_slotBehind ∈ av_T := av_p2 (q := (⟨"WallReadings$Grammar", "slotBehind", "(II)I"⟩, 12)) (List.mem_of_getElem? (i := 2) rfl)
abbrev mX0_pick : av_Y := (yX0_pick, cX0_pick, 8, none, 1, 23)
theorem mbX0_pick : av_mb mX0_pick 1 := ⟨by decide, by decide, by decide +kernel, wN_X0, av_t2 (List.mem_of_getElem? (i := 158) rfl) rfl⟩
theorem wI_X0_pick : Cond.instanceMethod yX0_pick ∈ av_T := av_t2 (List.mem_of_getElem? (i := 156) rfl) rfl
theorem wS_X0_pick : Cond.selects RX0 yX0_pick yX0_pick ∈ av_T := av_t2 (List.mem_of_getElem? (i := 157) rfl) rfl
abbrev mX0_addWord : av_Y := (yX0_addWord, cX0_addWord, 2, none, 0, 0)
theorem mbX0_addWord : av_mb mX0_addWord 1 := ⟨by decide, by decide, by decide +kernel, wN_X0, av_t2 (List.mem_of_getElem? (i := 173) rfl) rfl⟩
theorem wI_X0_addWord : Cond.instanceMethod yX0_addWord ∈ av_T := av_t2 (List.mem_of_getElem? (i := 172) rfl) rfl
theorem wS_X0_addWord : Cond.selects RX0 yX0_addWord yX0_addWord ∈ av_T := av_p2 (q := (⟨"WallReadings$Grammar", "addWord", "(I)V"⟩, 12)) (List.mem_of_getElem? (i := 3) rfl)
abbrev mX0_told : av_Y := (yX0_told, cX0_told, 1, some .int, 3, 69)
theorem mbX0_told : av_mb mX0_told 0 := ⟨by decide, by decide, by decide +kernel, wN_X0, av_t2 (List.mem_of_getElem? (i := 189) rfl) rfl⟩
theorem wI_X0_told : Cond.instanceMethod yX0_told ∈ av_T := av_t2 (List.mem_of_getElem? (i := 187) rfl) rfl
theorem wS_X0_told : Cond.selects RX0 yX0_told yX0_told ∈ av_T := av_t2 (List.mem_of_getElem? (i := 188) rfl) rfl
abbrev mX0_rank : av_Y := (yX0_rank, cX0_rank, 2, none, 2, 48)
theorem mbX0_rank : av_mb mX0_rank 0 := ⟨by decide, by decide, by decide +kernel, wN_X0, av_t2 (List.mem_of_getElem? (i := 193) rfl) rfl⟩
theorem wI_X0_rank : Cond.instanceMethod yX0_rank ∈ av_T := av_t2 (List.mem_of_getElem? (i := 192) rfl) rfl
theorem wS_X0_rank : Cond.selects RX0 yX0_rank yX0_rank ∈ av_T := av_p2 (q := (⟨"WallReadings$Grammar", "rank", "()V"⟩, 12)) (List.mem_of_getElem? (i := 5) rfl)
abbrev mX0_bestFrom : av_Y := (yX0_bestFrom, cX0_bestFrom, 6, some .int, 1, 23)
theorem mbX0_bestFrom : av_mb mX0_bestFrom 1 := ⟨by decide, by decide, by decide +kernel, wN_X0, av_t2 (List.mem_of_getElem? (i := 197) rfl) rfl⟩
theorem wI_X0_bestFrom : Cond.instanceMethod yX0_bestFrom ∈ av_T := av_t2 (List.mem_of_getElem? (i := 196) rfl) rfl
theorem wS_X0_bestFrom : Cond.selects RX0 yX0_bestFrom yX0_bestFrom ∈ av_T := av_p2 (q := (⟨"WallReadings$Grammar", "bestFrom", "(I)I"⟩, 12)) (List.mem_of_getElem? (i := 6) rfl)
abbrev mX0_gainOf : av_Y := (yX0_gainOf, cX0_gainOf, 2, some .int, 0, 0)
theorem mbX0_gainOf : av_mb mX0_gainOf 1 := ⟨by decide, by decide, by decide +kernel, wN_X0, av_t2 (List.mem_of_getElem? (i := 201) rfl) rfl⟩
theorem wI_X0_gainOf : Cond.instanceMethod yX0_gainOf ∈ av_T := av_t2 (List.mem_of_getElem? (i := 200) rfl) rfl
theorem wS_X0_gainOf : Cond.selects RX0 yX0_gainOf yX0_gainOf ∈ av_T := av_p2 (q := (⟨"WallReadings$Grammar", "gainOf", "(I)I"⟩, 12)) (List.mem_of_getElem? (i := 7) rfl)
abbrev mX0_firstOfBest : av_Y := (yX0_firstOfBest, cX0_firstOfBest, 7, some .int, 1, 23)
theorem mbX0_firstOfBest : av_mb mX0_firstOfBest 0 := ⟨by decide, by decide, by decide +kernel, wN_X0, av_t2 (List.mem_of_getElem? (i := 206) rfl) rfl⟩
theorem wI_X0_firstOfBest : Cond.instanceMethod yX0_firstOfBest ∈ av_T := av_t2 (List.mem_of_getElem? (i := 205) rfl) rfl
theorem wS_X0_firstOfBest : Cond.selects RX0 yX0_firstOfBest yX0_firstOfBest ∈ av_T := av_p2 (q := (⟨"WallReadings$Grammar", "firstOfBest", "()I"⟩, 12)) (List.mem_of_getElem? (i := 8) rfl)
abbrev mX1_init : av_Y := (yX1_init, cX1_init, 1, none, 1, 20)
theorem mbX1_init : av_mb mX1_init 0 := ⟨by decide, by decide, by decide +kernel, wN_X1, av_t1 (List.mem_of_getElem? (i := 26) rfl) rfl⟩
theorem wI_X1_init : Cond.instanceMethod yX1_init ∈ av_T := av_t1 (List.mem_of_getElem? (i := 25) rfl) rfl
abbrev mX1_put : av_Y := (yX1_put, cX1_put, 2, none, 1, 40)
theorem mbX1_put : av_mb mX1_put 1 := ⟨by decide, by decide, by decide +kernel, wN_X1, av_t2 (List.mem_of_getElem? (i := 214) rfl) rfl⟩
theorem wI_X1_put : Cond.instanceMethod yX1_put ∈ av_T := av_t2 (List.mem_of_getElem? (i := 212) rfl) rfl
theorem wS_X1_put : Cond.selects RX1 yX1_put yX1_put ∈ av_T := av_t2 (List.mem_of_getElem? (i := 213) rfl) rfl
abbrev mX1_takeInto : av_Y := (yX1_takeInto, cX1_takeInto, 2, none, 1, 40)
theorem mbX1_takeInto : av_mb mX1_takeInto 1 := ⟨by decide, by decide, by decide +kernel, wN_X1, av_t3 (List.mem_of_getElem? (i := 20) rfl) rfl⟩
theorem wI_X1_takeInto : Cond.instanceMethod yX1_takeInto ∈ av_T := av_t3 (List.mem_of_getElem? (i := 18) rfl) rfl
theorem wS_X1_takeInto : Cond.selects RX1 yX1_takeInto yX1_takeInto ∈ av_T := av_t3 (List.mem_of_getElem? (i := 19) rfl) rfl
abbrev mX2_init : av_Y := (yX2_init, cX2_init, 1, none, 1, 20)
theorem mbX2_init : av_mb mX2_init 0 := ⟨by decide, by decide, by decide +kernel, wN_X2, av_t1 (List.mem_of_getElem? (i := 41) rfl) rfl⟩
theorem wI_X2_init : Cond.instanceMethod yX2_init ∈ av_T := av_t1 (List.mem_of_getElem? (i := 40) rfl) rfl
abbrev mX2_add : av_Y := (yX2_add, cX2_add, 2, some .boolean, 0, 0)
theorem mbX2_add : av_mb mX2_add 1 := ⟨by decide, by decide, by decide +kernel, wN_X2, av_t1 (List.mem_of_getElem? (i := 222) rfl) rfl⟩
theorem wI_X2_add : Cond.instanceMethod yX2_add ∈ av_T := av_t1 (List.mem_of_getElem? (i := 220) rfl) rfl
theorem wS_X2_add : Cond.selects RX2 yX2_add yX2_add ∈ av_T := av_t1 (List.mem_of_getElem? (i := 221) rfl) rfl
abbrev mX2_clear : av_Y := (yX2_clear, cX2_clear, 1, none, 0, 0)
theorem mbX2_clear : av_mb mX2_clear 0 := ⟨by decide, by decide, by decide +kernel, wN_X2, av_t2 (List.mem_of_getElem? (i := 53) rfl) rfl⟩
theorem wI_X2_clear : Cond.instanceMethod yX2_clear ∈ av_T := av_t2 (List.mem_of_getElem? (i := 51) rfl) rfl
theorem wS_X2_clear : Cond.selects RX2 yX2_clear yX2_clear ∈ av_T := av_t2 (List.mem_of_getElem? (i := 52) rfl) rfl
abbrev mX2_firstFault : av_Y := (yX2_firstFault, cX2_firstFault, 4, some .int, 5, 113)
theorem mbX2_firstFault : av_mb mX2_firstFault 1 := ⟨by decide, by decide, by decide +kernel, wN_X2, av_t1 (List.mem_of_getElem? (i := 226) rfl) rfl⟩
theorem wI_X2_firstFault : Cond.instanceMethod yX2_firstFault ∈ av_T := av_t1 (List.mem_of_getElem? (i := 224) rfl) rfl
theorem wS_X2_firstFault : Cond.selects RX2 yX2_firstFault yX2_firstFault ∈ av_T := av_t1 (List.mem_of_getElem? (i := 225) rfl) rfl
abbrev mX2_readItem : av_Y := (yX2_readItem, cX2_readItem, 3, some .boolean, 4, 91)
theorem mbX2_readItem : av_mb mX2_readItem 1 := ⟨by decide, by decide, by decide +kernel, wN_X2, av_t1 (List.mem_of_getElem? (i := 238) rfl) rfl⟩
theorem wI_X2_readItem : Cond.instanceMethod yX2_readItem ∈ av_T := av_t1 (List.mem_of_getElem? (i := 237) rfl) rfl
theorem wS_X2_readItem : Cond.selects RX2 yX2_readItem yX2_readItem ∈ av_T := av_p1 (q := (⟨"WallReadings$Text", "readItem", "(LWallReadings$World;)Z"⟩, 3)) (List.mem_of_getElem? (i := 0) rfl)
abbrev mX2_readRoot : av_Y := (yX2_readRoot, cX2_readRoot, 5, some .boolean, 3, 67)
theorem mbX2_readRoot : av_mb mX2_readRoot 1 := ⟨by decide, by decide, by decide +kernel, wN_X2, av_t2 (List.mem_of_getElem? (i := 6) rfl) rfl⟩
theorem wI_X2_readRoot : Cond.instanceMethod yX2_readRoot ∈ av_T := av_t2 (List.mem_of_getElem? (i := 5) rfl) rfl
theorem wS_X2_readRoot : Cond.selects RX2 yX2_readRoot yX2_readRoot ∈ av_T := av_p1 (q := (⟨"WallReadings$Text", "readRoot", "(LWallReadings$World;)Z"⟩, 3)) (List.mem_of_getElem? (i := 2) rfl)
abbrev mX2_readReader : av_Y := (yX2_readReader, cX2_readReader, 5, some .boolean, 3, 67)
theorem mbX2_readReader : av_mb mX2_readReader 1 := ⟨by decide, by decide, by decide +kernel, wN_X2, av_t2 (List.mem_of_getElem? (i := 32) rfl) rfl⟩
theorem wI_X2_readReader : Cond.instanceMethod yX2_readReader ∈ av_T := av_t2 (List.mem_of_getElem? (i := 31) rfl) rfl
theorem wS_X2_readReader : Cond.selects RX2 yX2_readReader yX2_readReader ∈ av_T := av_p1 (q := (⟨"WallReadings$Text", "readReader", "(LWallReadings$World;)Z"⟩, 3)) (List.mem_of_getElem? (i := 6) rfl)
abbrev mX2_readWriting : av_Y := (yX2_readWriting, cX2_readWriting, 2, some .boolean, 3, 66)
theorem mbX2_readWriting : av_mb mX2_readWriting 1 := ⟨by decide, by decide, by decide +kernel, wN_X2, av_t2 (List.mem_of_getElem? (i := 40) rfl) rfl⟩
theorem wI_X2_readWriting : Cond.instanceMethod yX2_readWriting ∈ av_T := av_t2 (List.mem_of_getElem? (i := 39) rfl) rfl
theorem wS_X2_readWriting : Cond.selects RX2 yX2_readWriting yX2_readWriting ∈ av_T := av_p1 (q := (⟨"WallReadings$Text", "readWriting", "(LWallReadings$World;)Z"⟩, 3)) (List.mem_of_getElem? (i := 7) rfl)
abbrev mX2_readRiver : av_Y := (yX2_readRiver, cX2_readRiver, 5, some .boolean, 3, 67)
theorem mbX2_readRiver : av_mb mX2_readRiver 1 := ⟨by decide, by decide, by decide +kernel, wN_X2, av_t2 (List.mem_of_getElem? (i := 44) rfl) rfl⟩
theorem wI_X2_readRiver : Cond.instanceMethod yX2_readRiver ∈ av_T := av_t2 (List.mem_of_getElem? (i := 43) rfl) rfl
theorem wS_X2_readRiver : Cond.selects RX2 yX2_readRiver yX2_readRiver ∈ av_T := av_p1 (q := (⟨"WallReadings$Text", "readRiver", "(LWallReadings$World;)Z"⟩, 3)) (List.mem_of_getElem? (i := 8) rfl)
abbrev mX2_readGold : av_Y := (yX2_readGold, cX2_readGold, 2, some .boolean, 3, 67)
theorem mbX2_readGold : av_mb mX2_readGold 1 := ⟨by decide, by decide, by decide +kernel, wN_X2, av_t2 (List.mem_of_getElem? (i := 49) rfl) rfl⟩
theorem wI_X2_readGold : Cond.instanceMethod yX2_readGold ∈ av_T := av_t2 (List.mem_of_getElem? (i := 48) rfl) rfl
theorem wS_X2_readGold : Cond.selects RX2 yX2_readGold yX2_readGold ∈ av_T := av_p1 (q := (⟨"WallReadings$Text", "readGold", "(LWallReadings$World;)Z"⟩, 3)) (List.mem_of_getElem? (i := 9) rfl)
abbrev mX2_readRow : av_Y := (yX2_readRow, cX2_readRow, 5, some .int, 2, 42)
theorem mbX2_readRow : av_mb mX2_readRow 2 := ⟨by decide, by decide, by decide +kernel, wN_X2, av_t2 (List.mem_of_getElem? (i := 10) rfl) rfl⟩
theorem wI_X2_readRow : Cond.instanceMethod yX2_readRow ∈ av_T := av_t2 (List.mem_of_getElem? (i := 9) rfl) rfl
theorem wS_X2_readRow : Cond.selects RX2 yX2_readRow yX2_readRow ∈ av_T := av_p1 (q := (⟨"WallReadings$Text", "readRow", "(IC)I"⟩, 3)) (List.mem_of_getElem? (i := 3) rfl)
abbrev mX2_readNumber : av_Y := (yX2_readNumber, cX2_readNumber, 6, some .int, 2, 42)
theorem mbX2_readNumber : av_mb mX2_readNumber 3 := ⟨by decide, by decide, by decide +kernel, wN_X2, av_t2 (List.mem_of_getElem? (i := 18) rfl) rfl⟩
theorem wI_X2_readNumber : Cond.instanceMethod yX2_readNumber ∈ av_T := av_t2 (List.mem_of_getElem? (i := 17) rfl) rfl
theorem wS_X2_readNumber : Cond.selects RX2 yX2_readNumber yX2_readNumber ∈ av_T := av_p1 (q := (⟨"WallReadings$Text", "readNumber", "(IIC)I"⟩, 3)) (List.mem_of_getElem? (i := 5) rfl)
abbrev mX2_isNext : av_Y := (yX2_isNext, cX2_isNext, 3, some .boolean, 1, 20)
theorem mbX2_isNext : av_mb mX2_isNext 1 := ⟨by decide, by decide, by decide +kernel, wN_X2, av_t2 (List.mem_of_getElem? (i := 14) rfl) rfl⟩
theorem wI_X2_isNext : Cond.instanceMethod yX2_isNext ∈ av_T := av_t2 (List.mem_of_getElem? (i := 13) rfl) rfl
theorem wS_X2_isNext : Cond.selects RX2 yX2_isNext yX2_isNext ∈ av_T := av_p1 (q := (⟨"WallReadings$Text", "isNext", "(C)Z"⟩, 3)) (List.mem_of_getElem? (i := 4) rfl)
abbrev mX2_sign : av_Y := (yX2_sign, cX2_sign, 1, some .char, 0, 0)
theorem mbX2_sign : av_mb mX2_sign 0 := ⟨by decide, by decide, by decide +kernel, wN_X2, av_t2 (List.mem_of_getElem? (i := 2) rfl) rfl⟩
theorem wI_X2_sign : Cond.instanceMethod yX2_sign ∈ av_T := av_t2 (List.mem_of_getElem? (i := 1) rfl) rfl
theorem wS_X2_sign : Cond.selects RX2 yX2_sign yX2_sign ∈ av_T := av_p1 (q := (⟨"WallReadings$Text", "sign", "()C"⟩, 3)) (List.mem_of_getElem? (i := 1) rfl)
abbrev mX3_init : av_Y := (yX3_init, cX3_init, 1, none, 1, 20)
theorem mbX3_init : av_mb mX3_init 0 := ⟨by decide, by decide, by decide +kernel, wN_X3, av_t1 (List.mem_of_getElem? (i := 59) rfl) rfl⟩
theorem wI_X3_init : Cond.instanceMethod yX3_init ∈ av_T := av_t1 (List.mem_of_getElem? (i := 58) rfl) rfl
abbrev mX3_clear : av_Y := (yX3_clear, cX3_clear, 2, none, 1, 23)
theorem mbX3_clear : av_mb mX3_clear 0 := ⟨by decide, by decide, by decide +kernel, wN_X3, av_t1 (List.mem_of_getElem? (i := 230) rfl) rfl⟩
theorem wI_X3_clear : Cond.instanceMethod yX3_clear ∈ av_T := av_t1 (List.mem_of_getElem? (i := 228) rfl) rfl
theorem wS_X3_clear : Cond.selects RX3 yX3_clear yX3_clear ∈ av_T := av_t1 (List.mem_of_getElem? (i := 229) rfl) rfl
abbrev mX3_addRoot : av_Y := (yX3_addRoot, cX3_addRoot, 5, some .boolean, 1, 23)
theorem mbX3_addRoot : av_mb mX3_addRoot 3 := ⟨by decide, by decide, by decide +kernel, wN_X3, av_t2 (List.mem_of_getElem? (i := 25) rfl) rfl⟩
theorem wI_X3_addRoot : Cond.instanceMethod yX3_addRoot ∈ av_T := av_t2 (List.mem_of_getElem? (i := 23) rfl) rfl
theorem wS_X3_addRoot : Cond.selects RX3 yX3_addRoot yX3_addRoot ∈ av_T := av_t2 (List.mem_of_getElem? (i := 24) rfl) rfl
abbrev mX3_addReader : av_Y := (yX3_addReader, cX3_addReader, 4, some .boolean, 0, 0)
theorem mbX3_addReader : av_mb mX3_addReader 3 := ⟨by decide, by decide, by decide +kernel, wN_X3, av_t2 (List.mem_of_getElem? (i := 36) rfl) rfl⟩
theorem wI_X3_addReader : Cond.instanceMethod yX3_addReader ∈ av_T := av_t2 (List.mem_of_getElem? (i := 34) rfl) rfl
theorem wS_X3_addReader : Cond.selects RX3 yX3_addReader yX3_addReader ∈ av_T := av_t2 (List.mem_of_getElem? (i := 35) rfl) rfl
abbrev mX3_setRiver : av_Y := (yX3_setRiver, cX3_setRiver, 4, none, 0, 0)
theorem mbX3_setRiver : av_mb mX3_setRiver 3 := ⟨by decide, by decide, by decide +kernel, wN_X3, av_t1 (List.mem_of_getElem? (i := 234) rfl) rfl⟩
theorem wI_X3_setRiver : Cond.instanceMethod yX3_setRiver ∈ av_T := av_t1 (List.mem_of_getElem? (i := 232) rfl) rfl
theorem wS_X3_setRiver : Cond.selects RX3 yX3_setRiver yX3_setRiver ∈ av_T := av_t1 (List.mem_of_getElem? (i := 233) rfl) rfl
abbrev mX3_wordsSaying : av_Y := (yX3_wordsSaying, cX3_wordsSaying, 4, some .int, 0, 0)
theorem mbX3_wordsSaying : av_mb mX3_wordsSaying 1 := ⟨by decide, by decide, by decide +kernel, wN_X3, av_t3 (List.mem_of_getElem? (i := 31) rfl) rfl⟩
theorem wI_X3_wordsSaying : Cond.instanceMethod yX3_wordsSaying ∈ av_T := av_t3 (List.mem_of_getElem? (i := 29) rfl) rfl
theorem wS_X3_wordsSaying : Cond.selects RX3 yX3_wordsSaying yX3_wordsSaying ∈ av_T := av_t3 (List.mem_of_getElem? (i := 30) rfl) rfl
abbrev mX3_depthIn : av_Y := (yX3_depthIn, cX3_depthIn, 2, some .int, 1, 21)
theorem mbX3_depthIn : av_mb mX3_depthIn 1 := ⟨by decide, by decide, by decide +kernel, wN_X3, av_t3 (List.mem_of_getElem? (i := 11) rfl) rfl⟩
theorem wI_X3_depthIn : Cond.instanceMethod yX3_depthIn ∈ av_T := av_t3 (List.mem_of_getElem? (i := 9) rfl) rfl
theorem wS_X3_depthIn : Cond.selects RX3 yX3_depthIn yX3_depthIn ∈ av_T := av_t3 (List.mem_of_getElem? (i := 10) rfl) rfl
abbrev mX3_fall : av_Y := (yX3_fall, cX3_fall, 1, some .int, 0, 0)
theorem mbX3_fall : av_mb mX3_fall 0 := ⟨by decide, by decide, by decide +kernel, wN_X3, av_t2 (List.mem_of_getElem? (i := 234) rfl) rfl⟩
theorem wI_X3_fall : Cond.instanceMethod yX3_fall ∈ av_T := av_t2 (List.mem_of_getElem? (i := 232) rfl) rfl
theorem wS_X3_fall : Cond.selects RX3 yX3_fall yX3_fall ∈ av_T := av_t2 (List.mem_of_getElem? (i := 233) rfl) rfl
abbrev mX3_priceOf : av_Y := (yX3_priceOf, cX3_priceOf, 4, some .int, 1, 21)
theorem mbX3_priceOf : av_mb mX3_priceOf 1 := ⟨by decide, by decide, by decide +kernel, wN_X3, av_t3 (List.mem_of_getElem? (i := 69) rfl) rfl⟩
theorem wI_X3_priceOf : Cond.instanceMethod yX3_priceOf ∈ av_T := av_t3 (List.mem_of_getElem? (i := 67) rfl) rfl
theorem wS_X3_priceOf : Cond.selects RX3 yX3_priceOf yX3_priceOf ∈ av_T := av_t3 (List.mem_of_getElem? (i := 68) rfl) rfl
abbrev mX3_hoursOf : av_Y := (yX3_hoursOf, cX3_hoursOf, 4, some .int, 1, 21)
theorem mbX3_hoursOf : av_mb mX3_hoursOf 1 := ⟨by decide, by decide, by decide +kernel, wN_X3, av_t3 (List.mem_of_getElem? (i := 64) rfl) rfl⟩
theorem wI_X3_hoursOf : Cond.instanceMethod yX3_hoursOf ∈ av_T := av_t3 (List.mem_of_getElem? (i := 62) rfl) rfl
theorem wS_X3_hoursOf : Cond.selects RX3 yX3_hoursOf yX3_hoursOf ∈ av_T := av_t3 (List.mem_of_getElem? (i := 63) rfl) rfl
abbrev mX4_init : av_Y := (yX4_init, cX4_init, 2, none, 6, 136)
theorem mbX4_init : av_mb mX4_init 0 := ⟨by decide, by decide, by decide +kernel, wN_X4, av_t1 (List.mem_of_getElem? (i := 18) rfl) rfl⟩
theorem wI_X4_init : Cond.instanceMethod yX4_init ∈ av_T := av_t1 (List.mem_of_getElem? (i := 17) rfl) rfl
abbrev mX4_write : av_Y := (yX4_write, cX4_write, 2, some .int, 1, 21)
theorem mbX4_write : av_mb mX4_write 1 := ⟨by decide, by decide, by decide +kernel, wN_X4, av_t2 (List.mem_of_getElem? (i := 96) rfl) rfl⟩
theorem wI_X4_write : Cond.instanceMethod yX4_write ∈ av_T := av_t2 (List.mem_of_getElem? (i := 94) rfl) rfl
theorem wS_X4_write : Cond.selects RX4 yX4_write yX4_write ∈ av_T := av_t2 (List.mem_of_getElem? (i := 95) rfl) rfl
abbrev mX4_wipe : av_Y := (yX4_wipe, cX4_wipe, 2, some .int, 1, 20)
theorem mbX4_wipe : av_mb mX4_wipe 0 := ⟨by decide, by decide, by decide +kernel, wN_X4, av_t2 (List.mem_of_getElem? (i := 100) rfl) rfl⟩
theorem wI_X4_wipe : Cond.instanceMethod yX4_wipe ∈ av_T := av_t2 (List.mem_of_getElem? (i := 98) rfl) rfl
theorem wS_X4_wipe : Cond.selects RX4 yX4_wipe yX4_wipe ∈ av_T := av_t2 (List.mem_of_getElem? (i := 99) rfl) rfl
abbrev mX4_fault : av_Y := (yX4_fault, cX4_fault, 1, some .int, 6, 136)
theorem mbX4_fault : av_mb mX4_fault 0 := ⟨by decide, by decide, by decide +kernel, wN_X4, av_t2 (List.mem_of_getElem? (i := 104) rfl) rfl⟩
theorem wI_X4_fault : Cond.instanceMethod yX4_fault ∈ av_T := av_t2 (List.mem_of_getElem? (i := 102) rfl) rfl
theorem wS_X4_fault : Cond.selects RX4 yX4_fault yX4_fault ∈ av_T := av_t2 (List.mem_of_getElem? (i := 103) rfl) rfl
abbrev mX4_lay : av_Y := (yX4_lay, cX4_lay, 1, some .int, 6, 136)
theorem mbX4_lay : av_mb mX4_lay 0 := ⟨by decide, by decide, by decide +kernel, wN_X4, av_t2 (List.mem_of_getElem? (i := 108) rfl) rfl⟩
theorem wI_X4_lay : Cond.instanceMethod yX4_lay ∈ av_T := av_t2 (List.mem_of_getElem? (i := 106) rfl) rfl
theorem wS_X4_lay : Cond.selects RX4 yX4_lay yX4_lay ∈ av_T := av_t2 (List.mem_of_getElem? (i := 107) rfl) rfl
abbrev mX4_root : av_Y := (yX4_root, cX4_root, 3, some .int, 0, 0)
theorem mbX4_root : av_mb mX4_root 2 := ⟨by decide, by decide, by decide +kernel, wN_X4, av_t2 (List.mem_of_getElem? (i := 112) rfl) rfl⟩
theorem wI_X4_root : Cond.instanceMethod yX4_root ∈ av_T := av_t2 (List.mem_of_getElem? (i := 110) rfl) rfl
theorem wS_X4_root : Cond.selects RX4 yX4_root yX4_root ∈ av_T := av_t2 (List.mem_of_getElem? (i := 111) rfl) rfl
abbrev mX4_reader : av_Y := (yX4_reader, cX4_reader, 3, some .int, 3, 71)
theorem mbX4_reader : av_mb mX4_reader 2 := ⟨by decide, by decide, by decide +kernel, wN_X4, av_t2 (List.mem_of_getElem? (i := 116) rfl) rfl⟩
theorem wI_X4_reader : Cond.instanceMethod yX4_reader ∈ av_T := av_t2 (List.mem_of_getElem? (i := 114) rfl) rfl
theorem wS_X4_reader : Cond.selects RX4 yX4_reader yX4_reader ∈ av_T := av_t2 (List.mem_of_getElem? (i := 115) rfl) rfl
abbrev mX4_reading : av_Y := (yX4_reading, cX4_reading, 4, some .int, 4, 93)
theorem mbX4_reading : av_mb mX4_reading 3 := ⟨by decide, by decide, by decide +kernel, wN_X4, av_t2 (List.mem_of_getElem? (i := 150) rfl) rfl⟩
theorem wI_X4_reading : Cond.instanceMethod yX4_reading ∈ av_T := av_t2 (List.mem_of_getElem? (i := 148) rfl) rfl
theorem wS_X4_reading : Cond.selects RX4 yX4_reading yX4_reading ∈ av_T := av_t2 (List.mem_of_getElem? (i := 149) rfl) rfl
abbrev mX4_word : av_Y := (yX4_word, cX4_word, 4, some .int, 4, 93)
theorem mbX4_word : av_mb mX4_word 3 := ⟨by decide, by decide, by decide +kernel, wN_X4, av_t2 (List.mem_of_getElem? (i := 177) rfl) rfl⟩
theorem wI_X4_word : Cond.instanceMethod yX4_word ∈ av_T := av_t2 (List.mem_of_getElem? (i := 175) rfl) rfl
theorem wS_X4_word : Cond.selects RX4 yX4_word yX4_word ∈ av_T := av_t2 (List.mem_of_getElem? (i := 176) rfl) rfl
abbrev mX4_tells : av_Y := (yX4_tells, cX4_tells, 4, some .int, 5, 112)
theorem mbX4_tells : av_mb mX4_tells 2 := ⟨by decide, by decide, by decide +kernel, wN_X4, av_t2 (List.mem_of_getElem? (i := 181) rfl) rfl⟩
theorem wI_X4_tells : Cond.instanceMethod yX4_tells ∈ av_T := av_t2 (List.mem_of_getElem? (i := 179) rfl) rfl
theorem wS_X4_tells : Cond.selects RX4 yX4_tells yX4_tells ∈ av_T := av_t2 (List.mem_of_getElem? (i := 180) rfl) rfl
abbrev mX4_ask : av_Y := (yX4_ask, cX4_ask, 2, some .int, 6, 133)
theorem mbX4_ask : av_mb mX4_ask 1 := ⟨by decide, by decide, by decide +kernel, wN_X4, av_t2 (List.mem_of_getElem? (i := 210) rfl) rfl⟩
theorem wI_X4_ask : Cond.instanceMethod yX4_ask ∈ av_T := av_t2 (List.mem_of_getElem? (i := 208) rfl) rfl
theorem wS_X4_ask : Cond.selects RX4 yX4_ask yX4_ask ∈ av_T := av_t2 (List.mem_of_getElem? (i := 209) rfl) rfl
abbrev mX4_shut : av_Y := (yX4_shut, cX4_shut, 1, some .int, 2, 61)
theorem mbX4_shut : av_mb mX4_shut 0 := ⟨by decide, by decide, by decide +kernel, wN_X4, av_t2 (List.mem_of_getElem? (i := 225) rfl) rfl⟩
theorem wI_X4_shut : Cond.instanceMethod yX4_shut ∈ av_T := av_t2 (List.mem_of_getElem? (i := 223) rfl) rfl
theorem wS_X4_shut : Cond.selects RX4 yX4_shut yX4_shut ∈ av_T := av_t2 (List.mem_of_getElem? (i := 224) rfl) rfl
abbrev mX4_carve : av_Y := (yX4_carve, cX4_carve, 2, some .int, 2, 61)
theorem mbX4_carve : av_mb mX4_carve 1 := ⟨by decide, by decide, by decide +kernel, wN_X4, av_t2 (List.mem_of_getElem? (i := 238) rfl) rfl⟩
theorem wI_X4_carve : Cond.instanceMethod yX4_carve ∈ av_T := av_t2 (List.mem_of_getElem? (i := 236) rfl) rfl
theorem wS_X4_carve : Cond.selects RX4 yX4_carve yX4_carve ∈ av_T := av_t2 (List.mem_of_getElem? (i := 237) rfl) rfl
abbrev mX4_rub : av_Y := (yX4_rub, cX4_rub, 1, some .int, 2, 61)
theorem mbX4_rub : av_mb mX4_rub 0 := ⟨by decide, by decide, by decide +kernel, wN_X4, av_t3 (List.mem_of_getElem? (i := 3) rfl) rfl⟩
theorem wI_X4_rub : Cond.instanceMethod yX4_rub ∈ av_T := av_t3 (List.mem_of_getElem? (i := 1) rfl) rfl
theorem wS_X4_rub : Cond.selects RX4 yX4_rub yX4_rub ∈ av_T := av_t3 (List.mem_of_getElem? (i := 2) rfl) rfl
abbrev mX4_pass : av_Y := (yX4_pass, cX4_pass, 2, some .int, 2, 61)
theorem mbX4_pass : av_mb mX4_pass 1 := ⟨by decide, by decide, by decide +kernel, wN_X4, av_t3 (List.mem_of_getElem? (i := 7) rfl) rfl⟩
theorem wI_X4_pass : Cond.instanceMethod yX4_pass ∈ av_T := av_t3 (List.mem_of_getElem? (i := 5) rfl) rfl
theorem wS_X4_pass : Cond.selects RX4 yX4_pass yX4_pass ∈ av_T := av_t3 (List.mem_of_getElem? (i := 6) rfl) rfl
abbrev mX4_undo : av_Y := (yX4_undo, cX4_undo, 1, some .int, 2, 61)
theorem mbX4_undo : av_mb mX4_undo 0 := ⟨by decide, by decide, by decide +kernel, wN_X4, av_t3 (List.mem_of_getElem? (i := 16) rfl) rfl⟩
theorem wI_X4_undo : Cond.instanceMethod yX4_undo ∈ av_T := av_t3 (List.mem_of_getElem? (i := 14) rfl) rfl
theorem wS_X4_undo : Cond.selects RX4 yX4_undo yX4_undo ∈ av_T := av_t3 (List.mem_of_getElem? (i := 15) rfl) rfl
abbrev mX4_belief : av_Y := (yX4_belief, cX4_belief, 6, some .int, 3, 71)
theorem mbX4_belief : av_mb mX4_belief 3 := ⟨by decide, by decide, by decide +kernel, wN_X4, av_t3 (List.mem_of_getElem? (i := 24) rfl) rfl⟩
theorem wI_X4_belief : Cond.instanceMethod yX4_belief ∈ av_T := av_t3 (List.mem_of_getElem? (i := 22) rfl) rfl
theorem wS_X4_belief : Cond.selects RX4 yX4_belief yX4_belief ∈ av_T := av_t3 (List.mem_of_getElem? (i := 23) rfl) rfl
abbrev mX4_without : av_Y := (yX4_without, cX4_without, 4, some .int, 3, 71)
theorem mbX4_without : av_mb mX4_without 1 := ⟨by decide, by decide, by decide +kernel, wN_X4, av_t3 (List.mem_of_getElem? (i := 38) rfl) rfl⟩
theorem wI_X4_without : Cond.instanceMethod yX4_without ∈ av_T := av_t3 (List.mem_of_getElem? (i := 36) rfl) rfl
theorem wS_X4_without : Cond.selects RX4 yX4_without yX4_without ∈ av_T := av_t3 (List.mem_of_getElem? (i := 37) rfl) rfl
abbrev mX4_shortest : av_Y := (yX4_shortest, cX4_shortest, 4, some .int, 3, 71)
theorem mbX4_shortest : av_mb mX4_shortest 2 := ⟨by decide, by decide, by decide +kernel, wN_X4, av_t3 (List.mem_of_getElem? (i := 45) rfl) rfl⟩
theorem wI_X4_shortest : Cond.instanceMethod yX4_shortest ∈ av_T := av_t3 (List.mem_of_getElem? (i := 43) rfl) rfl
theorem wS_X4_shortest : Cond.selects RX4 yX4_shortest yX4_shortest ∈ av_T := av_t3 (List.mem_of_getElem? (i := 44) rfl) rfl
abbrev mX4_until : av_Y := (yX4_until, cX4_until, 3, some .int, 6, 133)
theorem mbX4_until : av_mb mX4_until 1 := ⟨by decide, by decide, by decide +kernel, wN_X4, av_t3 (List.mem_of_getElem? (i := 52) rfl) rfl⟩
theorem wI_X4_until : Cond.instanceMethod yX4_until ∈ av_T := av_t3 (List.mem_of_getElem? (i := 50) rfl) rfl
theorem wS_X4_until : Cond.selects RX4 yX4_until yX4_until ∈ av_T := av_t3 (List.mem_of_getElem? (i := 51) rfl) rfl
abbrev mX4_enough : av_Y := (yX4_enough, cX4_enough, 5, some .int, 6, 133)
theorem mbX4_enough : av_mb mX4_enough 2 := ⟨by decide, by decide, by decide +kernel, wN_X4, av_t3 (List.mem_of_getElem? (i := 56) rfl) rfl⟩
theorem wI_X4_enough : Cond.instanceMethod yX4_enough ∈ av_T := av_t3 (List.mem_of_getElem? (i := 54) rfl) rfl
theorem wS_X4_enough : Cond.selects RX4 yX4_enough yX4_enough ∈ av_T := av_t3 (List.mem_of_getElem? (i := 55) rfl) rfl
abbrev mX4_see : av_Y := (yX4_see, cX4_see, 3, some .int, 1, 21)
theorem mbX4_see : av_mb mX4_see 2 := ⟨by decide, by decide, by decide +kernel, wN_X4, av_t3 (List.mem_of_getElem? (i := 77) rfl) rfl⟩
theorem wI_X4_see : Cond.instanceMethod yX4_see ∈ av_T := av_t3 (List.mem_of_getElem? (i := 75) rfl) rfl
theorem wS_X4_see : Cond.selects RX4 yX4_see yX4_see ∈ av_T := av_t3 (List.mem_of_getElem? (i := 76) rfl) rfl
abbrev mX4_forget : av_Y := (yX4_forget, cX4_forget, 2, some .int, 0, 0)
theorem mbX4_forget : av_mb mX4_forget 0 := ⟨by decide, by decide, by decide +kernel, wN_X4, av_t3 (List.mem_of_getElem? (i := 81) rfl) rfl⟩
theorem wI_X4_forget : Cond.instanceMethod yX4_forget ∈ av_T := av_t3 (List.mem_of_getElem? (i := 79) rfl) rfl
theorem wS_X4_forget : Cond.selects RX4 yX4_forget yX4_forget ∈ av_T := av_t3 (List.mem_of_getElem? (i := 80) rfl) rfl
abbrev mX4_wrote : av_Y := (yX4_wrote, cX4_wrote, 4, some .int, 6, 134)
theorem mbX4_wrote : av_mb mX4_wrote 1 := ⟨by decide, by decide, by decide +kernel, wN_X4, av_t3 (List.mem_of_getElem? (i := 85) rfl) rfl⟩
theorem wI_X4_wrote : Cond.instanceMethod yX4_wrote ∈ av_T := av_t3 (List.mem_of_getElem? (i := 83) rfl) rfl
theorem wS_X4_wrote : Cond.selects RX4 yX4_wrote yX4_wrote ∈ av_T := av_t3 (List.mem_of_getElem? (i := 84) rfl) rfl
abbrev mX4_forgotten : av_Y := (yX4_forgotten, cX4_forgotten, 7, some .int, 2, 49)
theorem mbX4_forgotten : av_mb mX4_forgotten 3 := ⟨by decide, by decide, by decide +kernel, wN_X4, av_t3 (List.mem_of_getElem? (i := 93) rfl) rfl⟩
theorem wI_X4_forgotten : Cond.instanceMethod yX4_forgotten ∈ av_T := av_t3 (List.mem_of_getElem? (i := 91) rfl) rfl
theorem wS_X4_forgotten : Cond.selects RX4 yX4_forgotten yX4_forgotten ∈ av_T := av_t3 (List.mem_of_getElem? (i := 92) rfl) rfl
abbrev mX4_walls : av_Y := (yX4_walls, cX4_walls, 9, some .int, 3, 71)
theorem mbX4_walls : av_mb mX4_walls 4 := ⟨by decide, by decide, by decide +kernel, wN_X4, av_t3 (List.mem_of_getElem? (i := 114) rfl) rfl⟩
theorem wI_X4_walls : Cond.instanceMethod yX4_walls ∈ av_T := av_t3 (List.mem_of_getElem? (i := 112) rfl) rfl
theorem wS_X4_walls : Cond.selects RX4 yX4_walls yX4_walls ∈ av_T := av_t3 (List.mem_of_getElem? (i := 113) rfl) rfl
abbrev mX4_keep : av_Y := (yX4_keep, cX4_keep, 1, some .int, 2, 61)
theorem mbX4_keep : av_mb mX4_keep 0 := ⟨by decide, by decide, by decide +kernel, wN_X4, av_t3 (List.mem_of_getElem? (i := 124) rfl) rfl⟩
theorem wI_X4_keep : Cond.instanceMethod yX4_keep ∈ av_T := av_t3 (List.mem_of_getElem? (i := 122) rfl) rfl
theorem wS_X4_keep : Cond.selects RX4 yX4_keep yX4_keep ∈ av_T := av_t3 (List.mem_of_getElem? (i := 123) rfl) rfl
abbrev mX4_back : av_Y := (yX4_back, cX4_back, 1, some .int, 2, 61)
theorem mbX4_back : av_mb mX4_back 0 := ⟨by decide, by decide, by decide +kernel, wN_X4, av_t3 (List.mem_of_getElem? (i := 128) rfl) rfl⟩
theorem wI_X4_back : Cond.instanceMethod yX4_back ∈ av_T := av_t3 (List.mem_of_getElem? (i := 126) rfl) rfl
theorem wS_X4_back : Cond.selects RX4 yX4_back yX4_back ∈ av_T := av_t3 (List.mem_of_getElem? (i := 127) rfl) rfl
abbrev mX4_count : av_Y := (yX4_count, cX4_count, 2, some .int, 2, 42)
theorem mbX4_count : av_mb mX4_count 1 := ⟨by decide, by decide, by decide +kernel, wN_X4, av_t3 (List.mem_of_getElem? (i := 132) rfl) rfl⟩
theorem wI_X4_count : Cond.instanceMethod yX4_count ∈ av_T := av_t3 (List.mem_of_getElem? (i := 130) rfl) rfl
theorem wS_X4_count : Cond.selects RX4 yX4_count yX4_count ∈ av_T := av_t3 (List.mem_of_getElem? (i := 131) rfl) rfl
abbrev mX4_begin : av_Y := (yX4_begin, cX4_begin, 1, none, 0, 0)
theorem mbX4_begin : av_mb mX4_begin 0 := ⟨by decide, by decide, by decide +kernel, wN_X4, av_t2 (List.mem_of_getElem? (i := 57) rfl) rfl⟩
theorem wI_X4_begin : Cond.instanceMethod yX4_begin ∈ av_T := av_t2 (List.mem_of_getElem? (i := 56) rfl) rfl
theorem wS_X4_begin : Cond.selects RX4 yX4_begin yX4_begin ∈ av_T := av_p1 (q := (⟨"WallReadings", "begin", "()V"⟩, 11)) (List.mem_of_getElem? (i := 10) rfl)
abbrev mX4_hasFallen : av_Y := (yX4_hasFallen, cX4_hasFallen, 1, some .boolean, 1, 20)
theorem mbX4_hasFallen : av_mb mX4_hasFallen 0 := ⟨by decide, by decide, by decide +kernel, wN_X4, av_t2 (List.mem_of_getElem? (i := 230) rfl) rfl⟩
theorem wI_X4_hasFallen : Cond.instanceMethod yX4_hasFallen ∈ av_T := av_t2 (List.mem_of_getElem? (i := 229) rfl) rfl
theorem wS_X4_hasFallen : Cond.selects RX4 yX4_hasFallen yX4_hasFallen ∈ av_T := av_p2 (q := (⟨"WallReadings", "hasFallen", "()Z"⟩, 11)) (List.mem_of_getElem? (i := 10) rfl)
abbrev mX4_isReader : av_Y := (yX4_isReader, cX4_isReader, 2, some .boolean, 0, 0)
theorem mbX4_isReader : av_mb mX4_isReader 1 := ⟨by decide, by decide, by decide +kernel, wN_X4, av_t2 (List.mem_of_getElem? (i := 120) rfl) rfl⟩
theorem wI_X4_isReader : Cond.instanceMethod yX4_isReader ∈ av_T := av_t2 (List.mem_of_getElem? (i := 119) rfl) rfl
theorem wS_X4_isReader : Cond.selects RX4 yX4_isReader yX4_isReader ∈ av_T := av_p1 (q := (⟨"WallReadings", "isReader", "(I)Z"⟩, 11)) (List.mem_of_getElem? (i := 11) rfl)
abbrev mX4_isPart : av_Y := (yX4_isPart, cX4_isPart, 1, some .boolean, 0, 0)
theorem mbX4_isPart : av_mb mX4_isPart 1 := ⟨by decide, by decide, by decide +kernel, wN_X4, av_t3 (List.mem_of_getElem? (i := 27) rfl) rfl⟩
theorem wT_X4_isPart : Cond.static yX4_isPart ∈ av_T := av_t3 (List.mem_of_getElem? (i := 26) rfl) rfl
abbrev mX4_isReading : av_Y := (yX4_isReading, cX4_isReading, 3, some .boolean, 3, 71)
theorem mbX4_isReading : av_mb mX4_isReading 2 := ⟨by decide, by decide, by decide +kernel, wN_X4, av_t2 (List.mem_of_getElem? (i := 154) rfl) rfl⟩
theorem wI_X4_isReading : Cond.instanceMethod yX4_isReading ∈ av_T := av_t2 (List.mem_of_getElem? (i := 153) rfl) rfl
theorem wS_X4_isReading : Cond.selects RX4 yX4_isReading yX4_isReading ∈ av_T := av_p2 (q := (⟨"WallReadings", "isReading", "(II)Z"⟩, 11)) (List.mem_of_getElem? (i := 0) rfl)
abbrev mX4_readingsOf : av_Y := (yX4_readingsOf, cX4_readingsOf, 3, some .int, 2, 49)
theorem mbX4_readingsOf : av_mb mX4_readingsOf 2 := ⟨by decide, by decide, by decide +kernel, wN_X4, av_t2 (List.mem_of_getElem? (i := 124) rfl) rfl⟩
theorem wI_X4_readingsOf : Cond.instanceMethod yX4_readingsOf ∈ av_T := av_t2 (List.mem_of_getElem? (i := 123) rfl) rfl
theorem wS_X4_readingsOf : Cond.selects RX4 yX4_readingsOf yX4_readingsOf ∈ av_T := av_p1 (q := (⟨"WallReadings", "readingsOf", "(II)I"⟩, 11)) (List.mem_of_getElem? (i := 12) rfl)
abbrev mX4_toldBy : av_Y := (yX4_toldBy, cX4_toldBy, 4, some .int, 4, 89)
theorem mbX4_toldBy : av_mb mX4_toldBy 2 := ⟨by decide, by decide, by decide +kernel, wN_X4, av_t2 (List.mem_of_getElem? (i := 185) rfl) rfl⟩
theorem wI_X4_toldBy : Cond.instanceMethod yX4_toldBy ∈ av_T := av_t2 (List.mem_of_getElem? (i := 184) rfl) rfl
theorem wS_X4_toldBy : Cond.selects RX4 yX4_toldBy yX4_toldBy ∈ av_T := av_p2 (q := (⟨"WallReadings", "toldBy", "(II)I"⟩, 11)) (List.mem_of_getElem? (i := 4) rfl)
abbrev mX4_verbsToldBy : av_Y := (yX4_verbsToldBy, cX4_verbsToldBy, 2, some .int, 5, 112)
theorem mbX4_verbsToldBy : av_mb mX4_verbsToldBy 1 := ⟨by decide, by decide, by decide +kernel, wN_X4, av_t2 (List.mem_of_getElem? (i := 221) rfl) rfl⟩
theorem wI_X4_verbsToldBy : Cond.instanceMethod yX4_verbsToldBy ∈ av_T := av_t2 (List.mem_of_getElem? (i := 220) rfl) rfl
theorem wS_X4_verbsToldBy : Cond.selects RX4 yX4_verbsToldBy yX4_verbsToldBy ∈ av_T := av_p2 (q := (⟨"WallReadings", "verbsToldBy", "(I)I"⟩, 11)) (List.mem_of_getElem? (i := 9) rfl)
abbrev mX4_isEnough : av_Y := (yX4_isEnough, cX4_isEnough, 5, some .boolean, 2, 44)
theorem mbX4_isEnough : av_mb mX4_isEnough 2 := ⟨by decide, by decide, by decide +kernel, wN_X4, av_t3 (List.mem_of_getElem? (i := 60) rfl) rfl⟩
theorem wI_X4_isEnough : Cond.instanceMethod yX4_isEnough ∈ av_T := av_t3 (List.mem_of_getElem? (i := 59) rfl) rfl
theorem wS_X4_isEnough : Cond.selects RX4 yX4_isEnough yX4_isEnough ∈ av_T := av_p2 (q := (⟨"WallReadings", "isEnough", "(II)Z"⟩, 11)) (List.mem_of_getElem? (i := 11) rfl)
abbrev mX4_isCheaper : av_Y := (yX4_isCheaper, cX4_isCheaper, 4, some .boolean, 2, 44)
theorem mbX4_isCheaper : av_mb mX4_isCheaper 2 := ⟨by decide, by decide, by decide +kernel, wN_X4, av_t3 (List.mem_of_getElem? (i := 73) rfl) rfl⟩
theorem wI_X4_isCheaper : Cond.instanceMethod yX4_isCheaper ∈ av_T := av_t3 (List.mem_of_getElem? (i := 72) rfl) rfl
theorem wS_X4_isCheaper : Cond.selects RX4 yX4_isCheaper yX4_isCheaper ∈ av_T := av_p2 (q := (⟨"WallReadings", "isCheaper", "(II)Z"⟩, 11)) (List.mem_of_getElem? (i := 12) rfl)
abbrev mX4_isAsSeen : av_Y := (yX4_isAsSeen, cX4_isAsSeen, 3, some .boolean, 5, 112)
theorem mbX4_isAsSeen : av_mb mX4_isAsSeen 1 := ⟨by decide, by decide, by decide +kernel, wN_X4, av_t3 (List.mem_of_getElem? (i := 89) rfl) rfl⟩
theorem wI_X4_isAsSeen : Cond.instanceMethod yX4_isAsSeen ∈ av_T := av_t3 (List.mem_of_getElem? (i := 88) rfl) rfl
theorem wS_X4_isAsSeen : Cond.selects RX4 yX4_isAsSeen yX4_isAsSeen ∈ av_T := av_p2 (q := (⟨"WallReadings", "isAsSeen", "(I)Z"⟩, 11)) (List.mem_of_getElem? (i := 13) rfl)
abbrev mX4_lettersIn : av_Y := (yX4_lettersIn, cX4_lettersIn, 4, some .int, 0, 0)
theorem mbX4_lettersIn : av_mb mX4_lettersIn 1 := ⟨by decide, by decide, by decide +kernel, wN_X4, av_t2 (List.mem_of_getElem? (i := 28) rfl) rfl⟩
theorem wT_X4_lettersIn : Cond.static yX4_lettersIn ∈ av_T := av_t2 (List.mem_of_getElem? (i := 27) rfl) rfl
abbrev mX4_isShortRow : av_Y := (yX4_isShortRow, cX4_isShortRow, 3, some .boolean, 0, 0)
theorem mbX4_isShortRow : av_mb mX4_isShortRow 1 := ⟨by decide, by decide, by decide +kernel, wN_X4, av_t3 (List.mem_of_getElem? (i := 48) rfl) rfl⟩
theorem wT_X4_isShortRow : Cond.static yX4_isShortRow ∈ av_T := av_t3 (List.mem_of_getElem? (i := 47) rfl) rfl
abbrev mX4_rowOfWall : av_Y := (yX4_rowOfWall, cX4_rowOfWall, 9, some .int, 0, 0)
theorem mbX4_rowOfWall : av_mb mX4_rowOfWall 2 := ⟨by decide, by decide, by decide +kernel, wN_X4, av_t3 (List.mem_of_getElem? (i := 117) rfl) rfl⟩
theorem wT_X4_rowOfWall : Cond.static yX4_rowOfWall ∈ av_T := av_t3 (List.mem_of_getElem? (i := 116) rfl) rfl
abbrev mX4_holds : av_Y := (yX4_holds, cX4_holds, 2, some .boolean, 0, 0)
theorem mbX4_holds : av_mb mX4_holds 2 := ⟨by decide, by decide, by decide +kernel, wN_X4, av_t2 (List.mem_of_getElem? (i := 165) rfl) rfl⟩
theorem wT_X4_holds : Cond.static yX4_holds ∈ av_T := av_t2 (List.mem_of_getElem? (i := 164) rfl) rfl
abbrev mX4_wordsOfRoot : av_Y := (yX4_wordsOfRoot, cX4_wordsOfRoot, 1, some .int, 0, 0)
theorem mbX4_wordsOfRoot : av_mb mX4_wordsOfRoot 1 := ⟨by decide, by decide, by decide +kernel, wN_X4, av_t3 (List.mem_of_getElem? (i := 41) rfl) rfl⟩
theorem wT_X4_wordsOfRoot : Cond.static yX4_wordsOfRoot ∈ av_T := av_t3 (List.mem_of_getElem? (i := 40) rfl) rfl
abbrev mX4_wordsOfRoots : av_Y := (yX4_wordsOfRoots, cX4_wordsOfRoots, 4, some .int, 1, 21)
theorem mbX4_wordsOfRoots : av_mb mX4_wordsOfRoots 1 := ⟨by decide, by decide, by decide +kernel, wN_X4, av_t3 (List.mem_of_getElem? (i := 97) rfl) rfl⟩
theorem wI_X4_wordsOfRoots : Cond.instanceMethod yX4_wordsOfRoots ∈ av_T := av_t3 (List.mem_of_getElem? (i := 96) rfl) rfl
theorem wS_X4_wordsOfRoots : Cond.selects RX4 yX4_wordsOfRoots yX4_wordsOfRoots ∈ av_T := av_p2 (q := (⟨"WallReadings", "wordsOfRoots", "(I)I"⟩, 11)) (List.mem_of_getElem? (i := 14) rfl)
abbrev mX4_oddsOf : av_Y := (yX4_oddsOf, cX4_oddsOf, 4, some .long, 1, 24)
theorem mbX4_oddsOf : av_mb mX4_oddsOf 2 := ⟨by decide, by decide, by decide +kernel, wN_X4, av_t3 (List.mem_of_getElem? (i := 101) rfl) rfl⟩
theorem wI_X4_oddsOf : Cond.instanceMethod yX4_oddsOf ∈ av_T := av_t3 (List.mem_of_getElem? (i := 100) rfl) rfl
theorem wS_X4_oddsOf : Cond.selects RX4 yX4_oddsOf yX4_oddsOf ∈ av_T := av_p2 (q := (⟨"WallReadings", "oddsOf", "(II)J"⟩, 11)) (List.mem_of_getElem? (i := 15) rfl)
abbrev mX4_power : av_Y := (yX4_power, cX4_power, 5, some .long, 0, 0)
theorem mbX4_power : av_mb mX4_power 2 := ⟨by decide, by decide, by decide +kernel, wN_X4, av_t3 (List.mem_of_getElem? (i := 110) rfl) rfl⟩
theorem wT_X4_power : Cond.static yX4_power ∈ av_T := av_t3 (List.mem_of_getElem? (i := 109) rfl) rfl
abbrev mX4_inLowestTerms : av_Y := (yX4_inLowestTerms, cX4_inLowestTerms, 12, some .int, 0, 0)
theorem mbX4_inLowestTerms : av_mb mX4_inLowestTerms 3 := ⟨by decide, by decide, by decide +kernel, wN_X4, av_t3 (List.mem_of_getElem? (i := 34) rfl) rfl⟩
theorem wT_X4_inLowestTerms : Cond.static yX4_inLowestTerms ∈ av_T := av_t3 (List.mem_of_getElem? (i := 33) rfl) rfl
abbrev mX5_init : av_Y := (yX5_init, cX5_init, 1, none, 2, 46)
theorem mbX5_init : av_mb mX5_init 0 := ⟨by decide, by decide, by decide +kernel, wN_X5, av_t3 (List.mem_of_getElem? (i := 137) rfl) rfl⟩
theorem wI_X5_init : Cond.instanceMethod yX5_init ∈ av_T := av_t3 (List.mem_of_getElem? (i := 136) rfl) rfl
abbrev mX5_tellsRoot : av_Y := (yX5_tellsRoot, cX5_tellsRoot, 6, none, 0, 0)
theorem mbX5_tellsRoot : av_mb mX5_tellsRoot 4 := ⟨by decide, by decide, by decide +kernel, wN_X5, av_t3 (List.mem_of_getElem? (i := 150) rfl) rfl⟩
theorem wI_X5_tellsRoot : Cond.instanceMethod yX5_tellsRoot ∈ av_T := av_t3 (List.mem_of_getElem? (i := 149) rfl) rfl
theorem wS_X5_tellsRoot : Cond.selects RX5 yX5_tellsRoot yX5_tellsRoot ∈ av_T := av_p3 (q := (⟨"WallReadingsModel", "tellsRoot", "(IIII)V"⟩, 40)) (List.mem_of_getElem? (i := 2) rfl)
abbrev mX5_tellsReader : av_Y := (yX5_tellsReader, cX5_tellsReader, 4, none, 0, 0)
theorem mbX5_tellsReader : av_mb mX5_tellsReader 3 := ⟨by decide, by decide, by decide +kernel, wN_X5, av_t3 (List.mem_of_getElem? (i := 154) rfl) rfl⟩
theorem wI_X5_tellsReader : Cond.instanceMethod yX5_tellsReader ∈ av_T := av_t3 (List.mem_of_getElem? (i := 153) rfl) rfl
theorem wS_X5_tellsReader : Cond.selects RX5 yX5_tellsReader yX5_tellsReader ∈ av_T := av_p3 (q := (⟨"WallReadingsModel", "tellsReader", "(III)V"⟩, 40)) (List.mem_of_getElem? (i := 3) rfl)
abbrev mX5_tellsAll : av_Y := (yX5_tellsAll, cX5_tellsAll, 1, none, 1, 25)
theorem mbX5_tellsAll : av_mb mX5_tellsAll 0 := ⟨by decide, by decide, by decide +kernel, wN_X5, av_t3 (List.mem_of_getElem? (i := 146) rfl) rfl⟩
theorem wI_X5_tellsAll : Cond.instanceMethod yX5_tellsAll ∈ av_T := av_t3 (List.mem_of_getElem? (i := 145) rfl) rfl
theorem wS_X5_tellsAll : Cond.selects RX5 yX5_tellsAll yX5_tellsAll ∈ av_T := av_p3 (q := (⟨"WallReadingsModel", "tellsAll", "()V"⟩, 40)) (List.mem_of_getElem? (i := 1) rfl)
abbrev mX5_in : av_Y := (yX5_in, cX5_in, 3, some .boolean, 0, 0)
theorem mbX5_in : av_mb mX5_in 3 := ⟨by decide, by decide, by decide +kernel, wN_X5, av_t4 (List.mem_of_getElem? (i := 49) rfl) rfl⟩
theorem wT_X5_in : Cond.static yX5_in ∈ av_T := av_t4 (List.mem_of_getElem? (i := 48) rfl) rfl
abbrev mX5_has : av_Y := (yX5_has, cX5_has, 2, some .boolean, 0, 0)
theorem mbX5_has : av_mb mX5_has 2 := ⟨by decide, by decide, by decide +kernel, wN_X5, av_t4 (List.mem_of_getElem? (i := 144) rfl) rfl⟩
theorem wT_X5_has : Cond.static yX5_has ∈ av_T := av_t4 (List.mem_of_getElem? (i := 143) rfl) rfl
abbrev mX5_isReader : av_Y := (yX5_isReader, cX5_isReader, 2, some .boolean, 1, 22)
theorem mbX5_isReader : av_mb mX5_isReader 1 := ⟨by decide, by decide, by decide +kernel, wN_X5, av_t4 (List.mem_of_getElem? (i := 113) rfl) rfl⟩
theorem wI_X5_isReader : Cond.instanceMethod yX5_isReader ∈ av_T := av_t4 (List.mem_of_getElem? (i := 112) rfl) rfl
theorem wS_X5_isReader : Cond.selects RX5 yX5_isReader yX5_isReader ∈ av_T := av_p3 (q := (⟨"WallReadingsModel", "isReader", "(I)Z"⟩, 40)) (List.mem_of_getElem? (i := 14) rfl)
abbrev mX5_write : av_Y := (yX5_write, cX5_write, 2, some .int, 1, 22)
theorem mbX5_write : av_mb mX5_write 1 := ⟨by decide, by decide, by decide +kernel, wN_X5, av_t4 (List.mem_of_getElem? (i := 46) rfl) rfl⟩
theorem wI_X5_write : Cond.instanceMethod yX5_write ∈ av_T := av_t4 (List.mem_of_getElem? (i := 44) rfl) rfl
theorem wS_X5_write : Cond.selects RX5 yX5_write yX5_write ∈ av_T := av_t4 (List.mem_of_getElem? (i := 45) rfl) rfl
abbrev mX5_wipe : av_Y := (yX5_wipe, cX5_wipe, 2, some .int, 0, 0)
theorem mbX5_wipe : av_mb mX5_wipe 0 := ⟨by decide, by decide, by decide +kernel, wN_X5, av_t4 (List.mem_of_getElem? (i := 53) rfl) rfl⟩
theorem wI_X5_wipe : Cond.instanceMethod yX5_wipe ∈ av_T := av_t4 (List.mem_of_getElem? (i := 51) rfl) rfl
theorem wS_X5_wipe : Cond.selects RX5 yX5_wipe yX5_wipe ∈ av_T := av_t4 (List.mem_of_getElem? (i := 52) rfl) rfl
abbrev mX5_letterAt : av_Y := (yX5_letterAt, cX5_letterAt, 2, some .int, 0, 0)
theorem mbX5_letterAt : av_mb mX5_letterAt 1 := ⟨by decide, by decide, by decide +kernel, wN_X5, av_t4 (List.mem_of_getElem? (i := 65) rfl) rfl⟩
theorem wI_X5_letterAt : Cond.instanceMethod yX5_letterAt ∈ av_T := av_t4 (List.mem_of_getElem? (i := 64) rfl) rfl
theorem wS_X5_letterAt : Cond.selects RX5 yX5_letterAt yX5_letterAt ∈ av_T := av_p3 (q := (⟨"WallReadingsModel", "letterAt", "(I)I"⟩, 40)) (List.mem_of_getElem? (i := 6) rfl)
abbrev mX5_isFigure : av_Y := (yX5_isFigure, cX5_isFigure, 1, some .boolean, 1, 22)
theorem mbX5_isFigure : av_mb mX5_isFigure 1 := ⟨by decide, by decide, by decide +kernel, wN_X5, av_t4 (List.mem_of_getElem? (i := 84) rfl) rfl⟩
theorem wT_X5_isFigure : Cond.static yX5_isFigure ∈ av_T := av_t4 (List.mem_of_getElem? (i := 83) rfl) rfl
abbrev mX5_readNumbers : av_Y := (yX5_readNumbers, cX5_readNumbers, 3, some .boolean, 2, 42)
theorem mbX5_readNumbers : av_mb mX5_readNumbers 1 := ⟨by decide, by decide, by decide +kernel, wN_X5, av_t4 (List.mem_of_getElem? (i := 81) rfl) rfl⟩
theorem wI_X5_readNumbers : Cond.instanceMethod yX5_readNumbers ∈ av_T := av_t4 (List.mem_of_getElem? (i := 80) rfl) rfl
theorem wS_X5_readNumbers : Cond.selects RX5 yX5_readNumbers yX5_readNumbers ∈ av_T := av_p3 (q := (⟨"WallReadingsModel", "readNumbers", "(I)Z"⟩, 40)) (List.mem_of_getElem? (i := 10) rfl)
abbrev mX5_isTold : av_Y := (yX5_isTold, cX5_isTold, 4, some .boolean, 1, 22)
theorem mbX5_isTold : av_mb mX5_isTold 3 := ⟨by decide, by decide, by decide +kernel, wN_X5, av_t4 (List.mem_of_getElem? (i := 88) rfl) rfl⟩
theorem wI_X5_isTold : Cond.instanceMethod yX5_isTold ∈ av_T := av_t4 (List.mem_of_getElem? (i := 87) rfl) rfl
theorem wS_X5_isTold : Cond.selects RX5 yX5_isTold yX5_isTold ∈ av_T := av_p3 (q := (⟨"WallReadingsModel", "isTold", "(III)Z"⟩, 40)) (List.mem_of_getElem? (i := 11) rfl)
abbrev mX5_clearTold : av_Y := (yX5_clearTold, cX5_clearTold, 1, none, 0, 0)
theorem mbX5_clearTold : av_mb mX5_clearTold 0 := ⟨by decide, by decide, by decide +kernel, wN_X5, av_t3 (List.mem_of_getElem? (i := 142) rfl) rfl⟩
theorem wI_X5_clearTold : Cond.instanceMethod yX5_clearTold ∈ av_T := av_t3 (List.mem_of_getElem? (i := 141) rfl) rfl
theorem wS_X5_clearTold : Cond.selects RX5 yX5_clearTold yX5_clearTold ∈ av_T := av_p3 (q := (⟨"WallReadingsModel", "clearTold", "()V"⟩, 40)) (List.mem_of_getElem? (i := 0) rfl)
abbrev mX5_readLetters : av_Y := (yX5_readLetters, cX5_readLetters, 7, some .int, 1, 22)
theorem mbX5_readLetters : av_mb mX5_readLetters 4 := ⟨by decide, by decide, by decide +kernel, wN_X5, av_t4 (List.mem_of_getElem? (i := 73) rfl) rfl⟩
theorem wI_X5_readLetters : Cond.instanceMethod yX5_readLetters ∈ av_T := av_t4 (List.mem_of_getElem? (i := 72) rfl) rfl
theorem wS_X5_readLetters : Cond.selects RX5 yX5_readLetters yX5_readLetters ∈ av_T := av_p3 (q := (⟨"WallReadingsModel", "readLetters", "([IIII)I"⟩, 40)) (List.mem_of_getElem? (i := 8) rfl)
abbrev mX5_isNew : av_Y := (yX5_isNew, cX5_isNew, 6, some .boolean, 0, 0)
theorem mbX5_isNew : av_mb mX5_isNew 1 := ⟨by decide, by decide, by decide +kernel, wN_X5, av_t4 (List.mem_of_getElem? (i := 77) rfl) rfl⟩
theorem wI_X5_isNew : Cond.instanceMethod yX5_isNew ∈ av_T := av_t4 (List.mem_of_getElem? (i := 76) rfl) rfl
theorem wS_X5_isNew : Cond.selects RX5 yX5_isNew yX5_isNew ∈ av_T := av_p3 (q := (⟨"WallReadingsModel", "isNew", "(I)Z"⟩, 40)) (List.mem_of_getElem? (i := 9) rfl)
abbrev mX5_readRootOf : av_Y := (yX5_readRootOf, cX5_readRootOf, 2, some .boolean, 3, 64)
theorem mbX5_readRootOf : av_mb mX5_readRootOf 0 := ⟨by decide, by decide, by decide +kernel, wN_X5, av_t4 (List.mem_of_getElem? (i := 69) rfl) rfl⟩
theorem wI_X5_readRootOf : Cond.instanceMethod yX5_readRootOf ∈ av_T := av_t4 (List.mem_of_getElem? (i := 68) rfl) rfl
theorem wS_X5_readRootOf : Cond.selects RX5 yX5_readRootOf yX5_readRootOf ∈ av_T := av_p3 (q := (⟨"WallReadingsModel", "readRootOf", "()Z"⟩, 40)) (List.mem_of_getElem? (i := 7) rfl)
abbrev mX5_readReaderOf : av_Y := (yX5_readReaderOf, cX5_readReaderOf, 1, some .boolean, 3, 64)
theorem mbX5_readReaderOf : av_mb mX5_readReaderOf 0 := ⟨by decide, by decide, by decide +kernel, wN_X5, av_t4 (List.mem_of_getElem? (i := 92) rfl) rfl⟩
theorem wI_X5_readReaderOf : Cond.instanceMethod yX5_readReaderOf ∈ av_T := av_t4 (List.mem_of_getElem? (i := 91) rfl) rfl
theorem wS_X5_readReaderOf : Cond.selects RX5 yX5_readReaderOf yX5_readReaderOf ∈ av_T := av_p3 (q := (⟨"WallReadingsModel", "readReaderOf", "()Z"⟩, 40)) (List.mem_of_getElem? (i := 12) rfl)
abbrev mX5_readRiverOf : av_Y := (yX5_readRiverOf, cX5_readRiverOf, 2, some .boolean, 3, 64)
theorem mbX5_readRiverOf : av_mb mX5_readRiverOf 0 := ⟨by decide, by decide, by decide +kernel, wN_X5, av_t4 (List.mem_of_getElem? (i := 96) rfl) rfl⟩
theorem wI_X5_readRiverOf : Cond.instanceMethod yX5_readRiverOf ∈ av_T := av_t4 (List.mem_of_getElem? (i := 95) rfl) rfl
theorem wS_X5_readRiverOf : Cond.selects RX5 yX5_readRiverOf yX5_readRiverOf ∈ av_T := av_p3 (q := (⟨"WallReadingsModel", "readRiverOf", "()Z"⟩, 40)) (List.mem_of_getElem? (i := 13) rfl)
abbrev mX5_readItem : av_Y := (yX5_readItem, cX5_readItem, 3, some .boolean, 4, 85)
theorem mbX5_readItem : av_mb mX5_readItem 0 := ⟨by decide, by decide, by decide +kernel, wN_X5, av_t4 (List.mem_of_getElem? (i := 61) rfl) rfl⟩
theorem wI_X5_readItem : Cond.instanceMethod yX5_readItem ∈ av_T := av_t4 (List.mem_of_getElem? (i := 60) rfl) rfl
theorem wS_X5_readItem : Cond.selects RX5 yX5_readItem yX5_readItem ∈ av_T := av_p3 (q := (⟨"WallReadingsModel", "readItem", "()Z"⟩, 40)) (List.mem_of_getElem? (i := 5) rfl)
abbrev mX5_fault : av_Y := (yX5_fault, cX5_fault, 2, some .int, 5, 107)
theorem mbX5_fault : av_mb mX5_fault 0 := ⟨by decide, by decide, by decide +kernel, wN_X5, av_t4 (List.mem_of_getElem? (i := 57) rfl) rfl⟩
theorem wI_X5_fault : Cond.instanceMethod yX5_fault ∈ av_T := av_t4 (List.mem_of_getElem? (i := 55) rfl) rfl
theorem wS_X5_fault : Cond.selects RX5 yX5_fault yX5_fault ∈ av_T := av_t4 (List.mem_of_getElem? (i := 56) rfl) rfl
abbrev mX5_lay : av_Y := (yX5_lay, cX5_lay, 1, some .int, 6, 128)
theorem mbX5_lay : av_mb mX5_lay 0 := ⟨by decide, by decide, by decide +kernel, wN_X5, av_t4 (List.mem_of_getElem? (i := 100) rfl) rfl⟩
theorem wI_X5_lay : Cond.instanceMethod yX5_lay ∈ av_T := av_t4 (List.mem_of_getElem? (i := 98) rfl) rfl
theorem wS_X5_lay : Cond.selects RX5 yX5_lay yX5_lay ∈ av_T := av_t4 (List.mem_of_getElem? (i := 99) rfl) rfl
abbrev mX5_copies : av_Y := (yX5_copies, cX5_copies, 6, none, 0, 0)
theorem mbX5_copies : av_mb mX5_copies 5 := ⟨by decide, by decide, by decide +kernel, wN_X5, av_t3 (List.mem_of_getElem? (i := 161) rfl) rfl⟩
theorem wT_X5_copies : Cond.static yX5_copies ∈ av_T := av_t3 (List.mem_of_getElem? (i := 160) rfl) rfl
abbrev mX5_settles : av_Y := (yX5_settles, cX5_settles, 2, none, 1, 25)
theorem mbX5_settles : av_mb mX5_settles 0 := ⟨by decide, by decide, by decide +kernel, wN_X5, av_t3 (List.mem_of_getElem? (i := 158) rfl) rfl⟩
theorem wI_X5_settles : Cond.instanceMethod yX5_settles ∈ av_T := av_t3 (List.mem_of_getElem? (i := 157) rfl) rfl
theorem wS_X5_settles : Cond.selects RX5 yX5_settles yX5_settles ∈ av_T := av_p3 (q := (⟨"WallReadingsModel", "settles", "()V"⟩, 40)) (List.mem_of_getElem? (i := 4) rfl)
abbrev mX5_begins : av_Y := (yX5_begins, cX5_begins, 5, none, 0, 0)
theorem mbX5_begins : av_mb mX5_begins 2 := ⟨by decide, by decide, by decide +kernel, wN_X5, av_t4 (List.mem_of_getElem? (i := 125) rfl) rfl⟩
theorem wI_X5_begins : Cond.instanceMethod yX5_begins ∈ av_T := av_t4 (List.mem_of_getElem? (i := 124) rfl) rfl
theorem wS_X5_begins : Cond.selects RX5 yX5_begins yX5_begins ∈ av_T := av_p4 (q := (⟨"WallReadingsModel", "begins", "(II)V"⟩, 40)) (List.mem_of_getElem? (i := 1) rfl)
abbrev mX5_asWritten : av_Y := (yX5_asWritten, cX5_asWritten, 3, none, 1, 25)
theorem mbX5_asWritten : av_mb mX5_asWritten 2 := ⟨by decide, by decide, by decide +kernel, wN_X5, av_t4 (List.mem_of_getElem? (i := 121) rfl) rfl⟩
theorem wI_X5_asWritten : Cond.instanceMethod yX5_asWritten ∈ av_T := av_t4 (List.mem_of_getElem? (i := 120) rfl) rfl
theorem wS_X5_asWritten : Cond.selects RX5 yX5_asWritten yX5_asWritten ∈ av_T := av_p4 (q := (⟨"WallReadingsModel", "asWritten", "(II)V"⟩, 40)) (List.mem_of_getElem? (i := 0) rfl)
abbrev mX5_isVerb : av_Y := (yX5_isVerb, cX5_isVerb, 2, some .boolean, 0, 0)
theorem mbX5_isVerb : av_mb mX5_isVerb 1 := ⟨by decide, by decide, by decide +kernel, wN_X5, av_t4 (List.mem_of_getElem? (i := 141) rfl) rfl⟩
theorem wI_X5_isVerb : Cond.instanceMethod yX5_isVerb ∈ av_T := av_t4 (List.mem_of_getElem? (i := 140) rfl) rfl
theorem wS_X5_isVerb : Cond.selects RX5 yX5_isVerb yX5_isVerb ∈ av_T := av_p4 (q := (⟨"WallReadingsModel", "isVerb", "(I)Z"⟩, 40)) (List.mem_of_getElem? (i := 5) rfl)
abbrev mX5_fits : av_Y := (yX5_fits, cX5_fits, 5, some .boolean, 1, 21)
theorem mbX5_fits : av_mb mX5_fits 0 := ⟨by decide, by decide, by decide +kernel, wN_X5, av_t4 (List.mem_of_getElem? (i := 137) rfl) rfl⟩
theorem wI_X5_fits : Cond.instanceMethod yX5_fits ∈ av_T := av_t4 (List.mem_of_getElem? (i := 136) rfl) rfl
theorem wS_X5_fits : Cond.selects RX5 yX5_fits yX5_fits ∈ av_T := av_p4 (q := (⟨"WallReadingsModel", "fits", "()Z"⟩, 40)) (List.mem_of_getElem? (i := 4) rfl)
abbrev mX5_verbsIn : av_Y := (yX5_verbsIn, cX5_verbsIn, 3, some .int, 0, 0)
theorem mbX5_verbsIn : av_mb mX5_verbsIn 0 := ⟨by decide, by decide, by decide +kernel, wN_X5, av_t4 (List.mem_of_getElem? (i := 148) rfl) rfl⟩
theorem wI_X5_verbsIn : Cond.instanceMethod yX5_verbsIn ∈ av_T := av_t4 (List.mem_of_getElem? (i := 147) rfl) rfl
theorem wS_X5_verbsIn : Cond.selects RX5 yX5_verbsIn yX5_verbsIn ∈ av_T := av_p4 (q := (⟨"WallReadingsModel", "verbsIn", "()I"⟩, 40)) (List.mem_of_getElem? (i := 6) rfl)
abbrev mX5_isNext : av_Y := (yX5_isNext, cX5_isNext, 2, some .boolean, 2, 45)
theorem mbX5_isNext : av_mb mX5_isNext 0 := ⟨by decide, by decide, by decide +kernel, wN_X5, av_t4 (List.mem_of_getElem? (i := 133) rfl) rfl⟩
theorem wI_X5_isNext : Cond.instanceMethod yX5_isNext ∈ av_T := av_t4 (List.mem_of_getElem? (i := 132) rfl) rfl
theorem wS_X5_isNext : Cond.selects RX5 yX5_isNext yX5_isNext ∈ av_T := av_p4 (q := (⟨"WallReadingsModel", "isNext", "()Z"⟩, 40)) (List.mem_of_getElem? (i := 3) rfl)
abbrev mX5_weighs : av_Y := (yX5_weighs, cX5_weighs, 3, some .int, 1, 21)
theorem mbX5_weighs : av_mb mX5_weighs 0 := ⟨by decide, by decide, by decide +kernel, wN_X5, av_t4 (List.mem_of_getElem? (i := 160) rfl) rfl⟩
theorem wI_X5_weighs : Cond.instanceMethod yX5_weighs ∈ av_T := av_t4 (List.mem_of_getElem? (i := 159) rfl) rfl
theorem wS_X5_weighs : Cond.selects RX5 yX5_weighs yX5_weighs ∈ av_T := av_p4 (q := (⟨"WallReadingsModel", "weighs", "()I"⟩, 40)) (List.mem_of_getElem? (i := 8) rfl)
abbrev mX5_verbs : av_Y := (yX5_verbs, cX5_verbs, 3, some .int, 1, 21)
theorem mbX5_verbs : av_mb mX5_verbs 0 := ⟨by decide, by decide, by decide +kernel, wN_X5, av_t4 (List.mem_of_getElem? (i := 164) rfl) rfl⟩
theorem wI_X5_verbs : Cond.instanceMethod yX5_verbs ∈ av_T := av_t4 (List.mem_of_getElem? (i := 163) rfl) rfl
theorem wS_X5_verbs : Cond.selects RX5 yX5_verbs yX5_verbs ∈ av_T := av_p4 (q := (⟨"WallReadingsModel", "verbs", "()I"⟩, 40)) (List.mem_of_getElem? (i := 9) rfl)
abbrev mX5_all : av_Y := (yX5_all, cX5_all, 1, some .int, 0, 0)
theorem mbX5_all : av_mb mX5_all 0 := ⟨by decide, by decide, by decide +kernel, wN_X5, av_t4 (List.mem_of_getElem? (i := 117) rfl) rfl⟩
theorem wI_X5_all : Cond.instanceMethod yX5_all ∈ av_T := av_t4 (List.mem_of_getElem? (i := 116) rfl) rfl
theorem wS_X5_all : Cond.selects RX5 yX5_all yX5_all ∈ av_T := av_p3 (q := (⟨"WallReadingsModel", "all", "()I"⟩, 40)) (List.mem_of_getElem? (i := 15) rfl)
abbrev mX5_manyReadings : av_Y := (yX5_manyReadings, cX5_manyReadings, 2, some .int, 3, 66)
theorem mbX5_manyReadings : av_mb mX5_manyReadings 0 := ⟨by decide, by decide, by decide +kernel, wN_X5, av_t4 (List.mem_of_getElem? (i := 129) rfl) rfl⟩
theorem wI_X5_manyReadings : Cond.instanceMethod yX5_manyReadings ∈ av_T := av_t4 (List.mem_of_getElem? (i := 128) rfl) rfl
theorem wS_X5_manyReadings : Cond.selects RX5 yX5_manyReadings yX5_manyReadings ∈ av_T := av_p4 (q := (⟨"WallReadingsModel", "manyReadings", "()I"⟩, 40)) (List.mem_of_getElem? (i := 2) rfl)
abbrev mX5_isTelling : av_Y := (yX5_isTelling, cX5_isTelling, 4, some .boolean, 3, 66)
theorem mbX5_isTelling : av_mb mX5_isTelling 0 := ⟨by decide, by decide, by decide +kernel, wN_X5, av_t4 (List.mem_of_getElem? (i := 176) rfl) rfl⟩
theorem wI_X5_isTelling : Cond.instanceMethod yX5_isTelling ∈ av_T := av_t4 (List.mem_of_getElem? (i := 175) rfl) rfl
theorem wS_X5_isTelling : Cond.selects RX5 yX5_isTelling yX5_isTelling ∈ av_T := av_p4 (q := (⟨"WallReadingsModel", "isTelling", "()Z"⟩, 40)) (List.mem_of_getElem? (i := 10) rfl)
abbrev mX5_root : av_Y := (yX5_root, cX5_root, 5, some .int, 1, 22)
theorem mbX5_root : av_mb mX5_root 2 := ⟨by decide, by decide, by decide +kernel, wN_X5, av_t4 (List.mem_of_getElem? (i := 105) rfl) rfl⟩
theorem wI_X5_root : Cond.instanceMethod yX5_root ∈ av_T := av_t4 (List.mem_of_getElem? (i := 103) rfl) rfl
theorem wS_X5_root : Cond.selects RX5 yX5_root yX5_root ∈ av_T := av_t4 (List.mem_of_getElem? (i := 104) rfl) rfl
abbrev mX5_reader : av_Y := (yX5_reader, cX5_reader, 3, some .int, 4, 87)
theorem mbX5_reader : av_mb mX5_reader 2 := ⟨by decide, by decide, by decide +kernel, wN_X5, av_t4 (List.mem_of_getElem? (i := 109) rfl) rfl⟩
theorem wI_X5_reader : Cond.instanceMethod yX5_reader ∈ av_T := av_t4 (List.mem_of_getElem? (i := 107) rfl) rfl
theorem wS_X5_reader : Cond.selects RX5 yX5_reader yX5_reader ∈ av_T := av_t4 (List.mem_of_getElem? (i := 108) rfl) rfl
abbrev mX5_isReading : av_Y := (yX5_isReading, cX5_isReading, 4, some .boolean, 3, 66)
theorem mbX5_isReading : av_mb mX5_isReading 2 := ⟨by decide, by decide, by decide +kernel, wN_X5, av_t4 (List.mem_of_getElem? (i := 156) rfl) rfl⟩
theorem wI_X5_isReading : Cond.instanceMethod yX5_isReading ∈ av_T := av_t4 (List.mem_of_getElem? (i := 155) rfl) rfl
theorem wS_X5_isReading : Cond.selects RX5 yX5_isReading yX5_isReading ∈ av_T := av_p4 (q := (⟨"WallReadingsModel", "isReading", "(II)Z"⟩, 40)) (List.mem_of_getElem? (i := 7) rfl)
abbrev mX5_reading : av_Y := (yX5_reading, cX5_reading, 4, some .int, 4, 89)
theorem mbX5_reading : av_mb mX5_reading 3 := ⟨by decide, by decide, by decide +kernel, wN_X5, av_t4 (List.mem_of_getElem? (i := 152) rfl) rfl⟩
theorem wI_X5_reading : Cond.instanceMethod yX5_reading ∈ av_T := av_t4 (List.mem_of_getElem? (i := 150) rfl) rfl
theorem wS_X5_reading : Cond.selects RX5 yX5_reading yX5_reading ∈ av_T := av_t4 (List.mem_of_getElem? (i := 151) rfl) rfl
abbrev mX5_word : av_Y := (yX5_word, cX5_word, 4, some .int, 4, 89)
theorem mbX5_word : av_mb mX5_word 3 := ⟨by decide, by decide, by decide +kernel, wN_X5, av_t4 (List.mem_of_getElem? (i := 168) rfl) rfl⟩
theorem wI_X5_word : Cond.instanceMethod yX5_word ∈ av_T := av_t4 (List.mem_of_getElem? (i := 166) rfl) rfl
theorem wS_X5_word : Cond.selects RX5 yX5_word yX5_word ∈ av_T := av_t4 (List.mem_of_getElem? (i := 167) rfl) rfl
abbrev mX5_tells : av_Y := (yX5_tells, cX5_tells, 3, some .int, 4, 89)
theorem mbX5_tells : av_mb mX5_tells 2 := ⟨by decide, by decide, by decide +kernel, wN_X5, av_t4 (List.mem_of_getElem? (i := 172) rfl) rfl⟩
theorem wI_X5_tells : Cond.instanceMethod yX5_tells ∈ av_T := av_t4 (List.mem_of_getElem? (i := 170) rfl) rfl
theorem wS_X5_tells : Cond.selects RX5 yX5_tells yX5_tells ∈ av_T := av_t4 (List.mem_of_getElem? (i := 171) rfl) rfl
abbrev mX5_remembers : av_Y := (yX5_remembers, cX5_remembers, 2, none, 1, 25)
theorem mbX5_remembers : av_mb mX5_remembers 0 := ⟨by decide, by decide, by decide +kernel, wN_X5, av_t4 (List.mem_of_getElem? (i := 184) rfl) rfl⟩
theorem wI_X5_remembers : Cond.instanceMethod yX5_remembers ∈ av_T := av_t4 (List.mem_of_getElem? (i := 183) rfl) rfl
theorem wS_X5_remembers : Cond.selects RX5 yX5_remembers yX5_remembers ∈ av_T := av_p4 (q := (⟨"WallReadingsModel", "remembers", "()V"⟩, 40)) (List.mem_of_getElem? (i := 11) rfl)
abbrev mX5_deepIn : av_Y := (yX5_deepIn, cX5_deepIn, 3, some .int, 0, 0)
theorem mbX5_deepIn : av_mb mX5_deepIn 1 := ⟨by decide, by decide, by decide +kernel, wN_X5, av_t4 (List.mem_of_getElem? (i := 204) rfl) rfl⟩
theorem wI_X5_deepIn : Cond.instanceMethod yX5_deepIn ∈ av_T := av_t4 (List.mem_of_getElem? (i := 203) rfl) rfl
theorem wS_X5_deepIn : Cond.selects RX5 yX5_deepIn yX5_deepIn ∈ av_T := av_p4 (q := (⟨"WallReadingsModel", "deepIn", "(I)I"⟩, 40)) (List.mem_of_getElem? (i := 15) rfl)
abbrev mX5_fall : av_Y := (yX5_fall, cX5_fall, 2, some .int, 1, 22)
theorem mbX5_fall : av_mb mX5_fall 0 := ⟨by decide, by decide, by decide +kernel, wN_X5, av_t4 (List.mem_of_getElem? (i := 200) rfl) rfl⟩
theorem wI_X5_fall : Cond.instanceMethod yX5_fall ∈ av_T := av_t4 (List.mem_of_getElem? (i := 199) rfl) rfl
theorem wS_X5_fall : Cond.selects RX5 yX5_fall yX5_fall ∈ av_T := av_p4 (q := (⟨"WallReadingsModel", "fall", "()I"⟩, 40)) (List.mem_of_getElem? (i := 14) rfl)
abbrev mX5_isFallen : av_Y := (yX5_isFallen, cX5_isFallen, 1, some .boolean, 2, 43)
theorem mbX5_isFallen : av_mb mX5_isFallen 0 := ⟨by decide, by decide, by decide +kernel, wN_X5, av_t4 (List.mem_of_getElem? (i := 196) rfl) rfl⟩
theorem wI_X5_isFallen : Cond.instanceMethod yX5_isFallen ∈ av_T := av_t4 (List.mem_of_getElem? (i := 195) rfl) rfl
theorem wS_X5_isFallen : Cond.selects RX5 yX5_isFallen yX5_isFallen ∈ av_T := av_p4 (q := (⟨"WallReadingsModel", "isFallen", "()Z"⟩, 40)) (List.mem_of_getElem? (i := 13) rfl)
abbrev mX5_verbsBy : av_Y := (yX5_verbsBy, cX5_verbsBy, 2, some .int, 4, 89)
theorem mbX5_verbsBy : av_mb mX5_verbsBy 1 := ⟨by decide, by decide, by decide +kernel, wN_X5, av_t4 (List.mem_of_getElem? (i := 188) rfl) rfl⟩
theorem wI_X5_verbsBy : Cond.instanceMethod yX5_verbsBy ∈ av_T := av_t4 (List.mem_of_getElem? (i := 187) rfl) rfl
theorem wS_X5_verbsBy : Cond.selects RX5 yX5_verbsBy yX5_verbsBy ∈ av_T := av_p4 (q := (⟨"WallReadingsModel", "verbsBy", "(I)I"⟩, 40)) (List.mem_of_getElem? (i := 12) rfl)
abbrev mX5_ask : av_Y := (yX5_ask, cX5_ask, 2, some .int, 5, 110)
theorem mbX5_ask : av_mb mX5_ask 1 := ⟨by decide, by decide, by decide +kernel, wN_X5, av_t4 (List.mem_of_getElem? (i := 180) rfl) rfl⟩
theorem wI_X5_ask : Cond.instanceMethod yX5_ask ∈ av_T := av_t4 (List.mem_of_getElem? (i := 178) rfl) rfl
theorem wS_X5_ask : Cond.selects RX5 yX5_ask yX5_ask ∈ av_T := av_t4 (List.mem_of_getElem? (i := 179) rfl) rfl
abbrev mX5_shut : av_Y := (yX5_shut, cX5_shut, 1, some .int, 3, 63)
theorem mbX5_shut : av_mb mX5_shut 0 := ⟨by decide, by decide, by decide +kernel, wN_X5, av_t4 (List.mem_of_getElem? (i := 192) rfl) rfl⟩
theorem wI_X5_shut : Cond.instanceMethod yX5_shut ∈ av_T := av_t4 (List.mem_of_getElem? (i := 190) rfl) rfl
theorem wS_X5_shut : Cond.selects RX5 yX5_shut yX5_shut ∈ av_T := av_t4 (List.mem_of_getElem? (i := 191) rfl) rfl
abbrev mX5_carve : av_Y := (yX5_carve, cX5_carve, 2, some .int, 2, 46)
theorem mbX5_carve : av_mb mX5_carve 1 := ⟨by decide, by decide, by decide +kernel, wN_X5, av_t4 (List.mem_of_getElem? (i := 208) rfl) rfl⟩
theorem wI_X5_carve : Cond.instanceMethod yX5_carve ∈ av_T := av_t4 (List.mem_of_getElem? (i := 206) rfl) rfl
theorem wS_X5_carve : Cond.selects RX5 yX5_carve yX5_carve ∈ av_T := av_t4 (List.mem_of_getElem? (i := 207) rfl) rfl
abbrev mX5_rub : av_Y := (yX5_rub, cX5_rub, 1, some .int, 2, 46)
theorem mbX5_rub : av_mb mX5_rub 0 := ⟨by decide, by decide, by decide +kernel, wN_X5, av_t4 (List.mem_of_getElem? (i := 212) rfl) rfl⟩
theorem wI_X5_rub : Cond.instanceMethod yX5_rub ∈ av_T := av_t4 (List.mem_of_getElem? (i := 210) rfl) rfl
theorem wS_X5_rub : Cond.selects RX5 yX5_rub yX5_rub ∈ av_T := av_t4 (List.mem_of_getElem? (i := 211) rfl) rfl
abbrev mX5_pass : av_Y := (yX5_pass, cX5_pass, 2, some .int, 2, 46)
theorem mbX5_pass : av_mb mX5_pass 1 := ⟨by decide, by decide, by decide +kernel, wN_X5, av_t4 (List.mem_of_getElem? (i := 216) rfl) rfl⟩
theorem wI_X5_pass : Cond.instanceMethod yX5_pass ∈ av_T := av_t4 (List.mem_of_getElem? (i := 214) rfl) rfl
theorem wS_X5_pass : Cond.selects RX5 yX5_pass yX5_pass ∈ av_T := av_t4 (List.mem_of_getElem? (i := 215) rfl) rfl
abbrev mX5_undo : av_Y := (yX5_undo, cX5_undo, 1, some .int, 1, 25)
theorem mbX5_undo : av_mb mX5_undo 0 := ⟨by decide, by decide, by decide +kernel, wN_X5, av_t4 (List.mem_of_getElem? (i := 220) rfl) rfl⟩
theorem wI_X5_undo : Cond.instanceMethod yX5_undo ∈ av_T := av_t4 (List.mem_of_getElem? (i := 218) rfl) rfl
theorem wS_X5_undo : Cond.selects RX5 yX5_undo yX5_undo ∈ av_T := av_t4 (List.mem_of_getElem? (i := 219) rfl) rfl
abbrev mX5_lowest : av_Y := (yX5_lowest, cX5_lowest, 6, some .int, 0, 0)
theorem mbX5_lowest : av_mb mX5_lowest 3 := ⟨by decide, by decide, by decide +kernel, wN_X5, av_t4 (List.mem_of_getElem? (i := 227) rfl) rfl⟩
theorem wT_X5_lowest : Cond.static yX5_lowest ∈ av_T := av_t4 (List.mem_of_getElem? (i := 226) rfl) rfl
abbrev mX5_belief : av_Y := (yX5_belief, cX5_belief, 6, some .int, 3, 66)
theorem mbX5_belief : av_mb mX5_belief 3 := ⟨by decide, by decide, by decide +kernel, wN_X5, av_t4 (List.mem_of_getElem? (i := 224) rfl) rfl⟩
theorem wI_X5_belief : Cond.instanceMethod yX5_belief ∈ av_T := av_t4 (List.mem_of_getElem? (i := 222) rfl) rfl
theorem wS_X5_belief : Cond.selects RX5 yX5_belief yX5_belief ∈ av_T := av_t4 (List.mem_of_getElem? (i := 223) rfl) rfl
abbrev mX5_isReadable : av_Y := (yX5_isReadable, cX5_isReadable, 3, some .boolean, 3, 66)
theorem mbX5_isReadable : av_mb mX5_isReadable 2 := ⟨by decide, by decide, by decide +kernel, wN_X5, av_t4 (List.mem_of_getElem? (i := 235) rfl) rfl⟩
theorem wI_X5_isReadable : Cond.instanceMethod yX5_isReadable ∈ av_T := av_t4 (List.mem_of_getElem? (i := 234) rfl) rfl
theorem wS_X5_isReadable : Cond.selects RX5 yX5_isReadable yX5_isReadable ∈ av_T := av_p5 (q := (⟨"WallReadingsModel", "isReadable", "(II)Z"⟩, 40)) (List.mem_of_getElem? (i := 0) rfl)
abbrev mX5_without : av_Y := (yX5_without, cX5_without, 4, some .int, 4, 88)
theorem mbX5_without : av_mb mX5_without 1 := ⟨by decide, by decide, by decide +kernel, wN_X5, av_t4 (List.mem_of_getElem? (i := 231) rfl) rfl⟩
theorem wI_X5_without : Cond.instanceMethod yX5_without ∈ av_T := av_t4 (List.mem_of_getElem? (i := 229) rfl) rfl
theorem wS_X5_without : Cond.selects RX5 yX5_without yX5_without ∈ av_T := av_t4 (List.mem_of_getElem? (i := 230) rfl) rfl
abbrev mX5_isRow : av_Y := (yX5_isRow, cX5_isRow, 5, none, 0, 0)
theorem mbX5_isRow : av_mb mX5_isRow 2 := ⟨by decide, by decide, by decide +kernel, wN_X5, av_t5 (List.mem_of_getElem? (i := 7) rfl) rfl⟩
theorem wI_X5_isRow : Cond.instanceMethod yX5_isRow ∈ av_T := av_t5 (List.mem_of_getElem? (i := 6) rfl) rfl
theorem wS_X5_isRow : Cond.selects RX5 yX5_isRow yX5_isRow ∈ av_T := av_p5 (q := (⟨"WallReadingsModel", "isRow", "(II)V"⟩, 40)) (List.mem_of_getElem? (i := 2) rfl)
abbrev mX5_isReadingOf : av_Y := (yX5_isReadingOf, cX5_isReadingOf, 4, some .boolean, 3, 66)
theorem mbX5_isReadingOf : av_mb mX5_isReadingOf 3 := ⟨by decide, by decide, by decide +kernel, wN_X5, av_t5 (List.mem_of_getElem? (i := 3) rfl) rfl⟩
theorem wI_X5_isReadingOf : Cond.instanceMethod yX5_isReadingOf ∈ av_T := av_t5 (List.mem_of_getElem? (i := 2) rfl) rfl
theorem wS_X5_isReadingOf : Cond.selects RX5 yX5_isReadingOf yX5_isReadingOf ∈ av_T := av_p5 (q := (⟨"WallReadingsModel", "isReadingOf", "(III)Z"⟩, 40)) (List.mem_of_getElem? (i := 1) rfl)
abbrev mX5_numberOf : av_Y := (yX5_numberOf, cX5_numberOf, 5, some .int, 1, 24)
theorem mbX5_numberOf : av_mb mX5_numberOf 2 := ⟨by decide, by decide, by decide +kernel, wN_X5, av_t5 (List.mem_of_getElem? (i := 11) rfl) rfl⟩
theorem wI_X5_numberOf : Cond.instanceMethod yX5_numberOf ∈ av_T := av_t5 (List.mem_of_getElem? (i := 10) rfl) rfl
theorem wS_X5_numberOf : Cond.selects RX5 yX5_numberOf yX5_numberOf ∈ av_T := av_p5 (q := (⟨"WallReadingsModel", "numberOf", "(II)I"⟩, 40)) (List.mem_of_getElem? (i := 3) rfl)
abbrev mX5_shortest : av_Y := (yX5_shortest, cX5_shortest, 6, some .int, 4, 89)
theorem mbX5_shortest : av_mb mX5_shortest 2 := ⟨by decide, by decide, by decide +kernel, wN_X5, av_t4 (List.mem_of_getElem? (i := 239) rfl) rfl⟩
theorem wI_X5_shortest : Cond.instanceMethod yX5_shortest ∈ av_T := av_t4 (List.mem_of_getElem? (i := 237) rfl) rfl
theorem wS_X5_shortest : Cond.selects RX5 yX5_shortest yX5_shortest ∈ av_T := av_t4 (List.mem_of_getElem? (i := 238) rfl) rfl
abbrev mX5_until : av_Y := (yX5_until, cX5_until, 3, some .int, 5, 110)
theorem mbX5_until : av_mb mX5_until 1 := ⟨by decide, by decide, by decide +kernel, wN_X5, av_t5 (List.mem_of_getElem? (i := 15) rfl) rfl⟩
theorem wI_X5_until : Cond.instanceMethod yX5_until ∈ av_T := av_t5 (List.mem_of_getElem? (i := 13) rfl) rfl
theorem wS_X5_until : Cond.selects RX5 yX5_until yX5_until ∈ av_T := av_t5 (List.mem_of_getElem? (i := 14) rfl) rfl
abbrev mX5_enough : av_Y := (yX5_enough, cX5_enough, 11, some .int, 5, 110)
theorem mbX5_enough : av_mb mX5_enough 2 := ⟨by decide, by decide, by decide +kernel, wN_X5, av_t5 (List.mem_of_getElem? (i := 19) rfl) rfl⟩
theorem wI_X5_enough : Cond.instanceMethod yX5_enough ∈ av_T := av_t5 (List.mem_of_getElem? (i := 17) rfl) rfl
theorem wS_X5_enough : Cond.selects RX5 yX5_enough yX5_enough ∈ av_T := av_t5 (List.mem_of_getElem? (i := 18) rfl) rfl
abbrev mX5_see : av_Y := (yX5_see, cX5_see, 3, some .int, 2, 43)
theorem mbX5_see : av_mb mX5_see 2 := ⟨by decide, by decide, by decide +kernel, wN_X5, av_t5 (List.mem_of_getElem? (i := 23) rfl) rfl⟩
theorem wI_X5_see : Cond.instanceMethod yX5_see ∈ av_T := av_t5 (List.mem_of_getElem? (i := 21) rfl) rfl
theorem wS_X5_see : Cond.selects RX5 yX5_see yX5_see ∈ av_T := av_t5 (List.mem_of_getElem? (i := 22) rfl) rfl
abbrev mX5_forget : av_Y := (yX5_forget, cX5_forget, 2, some .int, 0, 0)
theorem mbX5_forget : av_mb mX5_forget 0 := ⟨by decide, by decide, by decide +kernel, wN_X5, av_t5 (List.mem_of_getElem? (i := 27) rfl) rfl⟩
theorem wI_X5_forget : Cond.instanceMethod yX5_forget ∈ av_T := av_t5 (List.mem_of_getElem? (i := 25) rfl) rfl
theorem wS_X5_forget : Cond.selects RX5 yX5_forget yX5_forget ∈ av_T := av_t5 (List.mem_of_getElem? (i := 26) rfl) rfl
abbrev mX5_isSo : av_Y := (yX5_isSo, cX5_isSo, 5, some .boolean, 4, 89)
theorem mbX5_isSo : av_mb mX5_isSo 2 := ⟨by decide, by decide, by decide +kernel, wN_X5, av_t5 (List.mem_of_getElem? (i := 35) rfl) rfl⟩
theorem wI_X5_isSo : Cond.instanceMethod yX5_isSo ∈ av_T := av_t5 (List.mem_of_getElem? (i := 34) rfl) rfl
theorem wS_X5_isSo : Cond.selects RX5 yX5_isSo yX5_isSo ∈ av_T := av_p5 (q := (⟨"WallReadingsModel", "isSo", "(II)Z"⟩, 40)) (List.mem_of_getElem? (i := 4) rfl)
abbrev mX5_wrote : av_Y := (yX5_wrote, cX5_wrote, 7, some .int, 5, 113)
theorem mbX5_wrote : av_mb mX5_wrote 1 := ⟨by decide, by decide, by decide +kernel, wN_X5, av_t5 (List.mem_of_getElem? (i := 31) rfl) rfl⟩
theorem wI_X5_wrote : Cond.instanceMethod yX5_wrote ∈ av_T := av_t5 (List.mem_of_getElem? (i := 29) rfl) rfl
theorem wS_X5_wrote : Cond.selects RX5 yX5_wrote yX5_wrote ∈ av_T := av_t5 (List.mem_of_getElem? (i := 30) rfl) rfl
abbrev mX5_forgotten : av_Y := (yX5_forgotten, cX5_forgotten, 9, some .int, 4, 88)
theorem mbX5_forgotten : av_mb mX5_forgotten 3 := ⟨by decide, by decide, by decide +kernel, wN_X5, av_t5 (List.mem_of_getElem? (i := 39) rfl) rfl⟩
theorem wI_X5_forgotten : Cond.instanceMethod yX5_forgotten ∈ av_T := av_t5 (List.mem_of_getElem? (i := 37) rfl) rfl
theorem wS_X5_forgotten : Cond.selects RX5 yX5_forgotten yX5_forgotten ∈ av_T := av_t5 (List.mem_of_getElem? (i := 38) rfl) rfl
abbrev mX5_walls : av_Y := (yX5_walls, cX5_walls, 13, some .int, 4, 87)
theorem mbX5_walls : av_mb mX5_walls 4 := ⟨by decide, by decide, by decide +kernel, wN_X5, av_t5 (List.mem_of_getElem? (i := 43) rfl) rfl⟩
theorem wI_X5_walls : Cond.instanceMethod yX5_walls ∈ av_T := av_t5 (List.mem_of_getElem? (i := 41) rfl) rfl
theorem wS_X5_walls : Cond.selects RX5 yX5_walls yX5_walls ∈ av_T := av_t5 (List.mem_of_getElem? (i := 42) rfl) rfl
abbrev mX5_keep : av_Y := (yX5_keep, cX5_keep, 1, some .int, 1, 25)
theorem mbX5_keep : av_mb mX5_keep 0 := ⟨by decide, by decide, by decide +kernel, wN_X5, av_t5 (List.mem_of_getElem? (i := 50) rfl) rfl⟩
theorem wI_X5_keep : Cond.instanceMethod yX5_keep ∈ av_T := av_t5 (List.mem_of_getElem? (i := 48) rfl) rfl
theorem wS_X5_keep : Cond.selects RX5 yX5_keep yX5_keep ∈ av_T := av_t5 (List.mem_of_getElem? (i := 49) rfl) rfl
abbrev mX5_back : av_Y := (yX5_back, cX5_back, 1, some .int, 1, 25)
theorem mbX5_back : av_mb mX5_back 0 := ⟨by decide, by decide, by decide +kernel, wN_X5, av_t5 (List.mem_of_getElem? (i := 54) rfl) rfl⟩
theorem wI_X5_back : Cond.instanceMethod yX5_back ∈ av_T := av_t5 (List.mem_of_getElem? (i := 52) rfl) rfl
theorem wS_X5_back : Cond.selects RX5 yX5_back yX5_back ∈ av_T := av_t5 (List.mem_of_getElem? (i := 53) rfl) rfl
abbrev mX5_count : av_Y := (yX5_count, cX5_count, 2, some .int, 3, 63)
theorem mbX5_count : av_mb mX5_count 1 := ⟨by decide, by decide, by decide +kernel, wN_X5, av_t5 (List.mem_of_getElem? (i := 58) rfl) rfl⟩
theorem wI_X5_count : Cond.instanceMethod yX5_count ∈ av_T := av_t5 (List.mem_of_getElem? (i := 56) rfl) rfl
theorem wS_X5_count : Cond.selects RX5 yX5_count yX5_count ∈ av_T := av_t5 (List.mem_of_getElem? (i := 57) rfl) rfl
abbrev mJ6_bitCount_0f7a4 : av_Y := (yJ6_bitCount_0f7a4, cJ6_bitCount_0f7a4, 1, some .int, 0, 0)
theorem mbJ6_bitCount_0f7a4 : av_mb mJ6_bitCount_0f7a4 1 := ⟨by decide, by decide, by decide +kernel, wN_J6, av_t3 (List.mem_of_getElem? (i := 104) rfl) rfl⟩
theorem wT_J6_bitCount_0f7a4 : Cond.static yJ6_bitCount_0f7a4 ∈ av_T := av_t3 (List.mem_of_getElem? (i := 103) rfl) rfl
abbrev mJ9_max_7cf53 : av_Y := (yJ9_max_7cf53, cJ9_max_7cf53, 2, some .int, 0, 0)
theorem mbJ9_max_7cf53 : av_mb mJ9_max_7cf53 2 := ⟨by decide, by decide, by decide +kernel, wN_J9, av_t2 (List.mem_of_getElem? (i := 21) rfl) rfl⟩
theorem wT_J9_max_7cf53 : Cond.static yJ9_max_7cf53 ∈ av_T := av_t2 (List.mem_of_getElem? (i := 20) rfl) rfl
theorem wF_X4_9 : Cond.fieldLink RX4 9 (TX4 4).1 (TX4 4).2.1 (TX4 4).2.2.1 ∈ av_T := av_t2 (List.mem_of_getElem? (i := 62) rfl) rfl
theorem wF_X4_16 : Cond.fieldLink RX4 16 (TX4 5).1 (TX4 5).2.1 (TX4 5).2.2.1 ∈ av_T := av_t2 (List.mem_of_getElem? (i := 63) rfl) rfl
theorem wF_X4_20 : Cond.fieldLink RX4 20 (TX4 6).1 (TX4 6).2.1 (TX4 6).2.2.1 ∈ av_T := av_t2 (List.mem_of_getElem? (i := 64) rfl) rfl
theorem wF_X4_23 : Cond.fieldLink RX4 23 (TX4 7).1 (TX4 7).2.1 (TX4 7).2.2.1 ∈ av_T := av_t2 (List.mem_of_getElem? (i := 65) rfl) rfl
theorem wF_X4_26 : Cond.fieldLink RX4 26 (TX4 8).1 (TX4 8).2.1 (TX4 8).2.2.1 ∈ av_T := av_t2 (List.mem_of_getElem? (i := 66) rfl) rfl
theorem wF_X4_29 : Cond.fieldLink RX4 29 (TX4 9).1 (TX4 9).2.1 (TX4 9).2.2.1 ∈ av_T := av_t2 (List.mem_of_getElem? (i := 67) rfl) rfl
theorem wF_X4_35 : Cond.fieldLink RX4 35 (TX4 0).1 (TX4 0).2.1 (TX4 0).2.2.1 ∈ av_T := av_t2 (List.mem_of_getElem? (i := 58) rfl) rfl
theorem wF_X4_42 : Cond.fieldLink RX4 42 (TX4 1).1 (TX4 1).2.1 (TX4 1).2.2.1 ∈ av_T := av_t2 (List.mem_of_getElem? (i := 59) rfl) rfl
theorem wF_X4_46 : Cond.fieldLink RX4 46 (TX4 2).1 (TX4 2).2.1 (TX4 2).2.2.1 ∈ av_T := av_t2 (List.mem_of_getElem? (i := 60) rfl) rfl
theorem wF_X4_54 : Cond.fieldLink RX4 54 (TX4 3).1 (TX4 3).2.1 (TX4 3).2.2.1 ∈ av_T := av_t2 (List.mem_of_getElem? (i := 61) rfl) rfl
theorem wF_X4_84 : Cond.fieldLink RX4 84 (TX2 1).1 (TX2 1).2.1 (TX2 1).2.2.1 ∈ av_T := av_t1 (List.mem_of_getElem? (i := 45) rfl) rfl
theorem wF_X4_87 : Cond.fieldLink RX4 87 (TX3 8).1 (TX3 8).2.1 (TX3 8).2.2.1 ∈ av_T := av_t1 (List.mem_of_getElem? (i := 80) rfl) rfl
theorem wF_X4_90 : Cond.fieldLink RX4 90 (TX3 9).1 (TX3 9).2.1 (TX3 9).2.2.1 ∈ av_T := av_t1 (List.mem_of_getElem? (i := 82) rfl) rfl
theorem wF_X4_93 : Cond.fieldLink RX4 93 (TX3 0).1 (TX3 0).2.1 (TX3 0).2.2.1 ∈ av_T := av_t1 (List.mem_of_getElem? (i := 62) rfl) rfl
theorem wF_X4_96 : Cond.fieldLink RX4 96 (TX3 2).1 (TX3 2).2.1 (TX3 2).2.2.1 ∈ av_T := av_t1 (List.mem_of_getElem? (i := 66) rfl) rfl
theorem wF_X4_99 : Cond.fieldLink RX4 99 (TX3 3).1 (TX3 3).2.1 (TX3 3).2.2.1 ∈ av_T := av_t1 (List.mem_of_getElem? (i := 69) rfl) rfl
theorem wF_X4_110 : Cond.fieldLink RX4 110 (TX3 4).1 (TX3 4).2.1 (TX3 4).2.2.1 ∈ av_T := av_t1 (List.mem_of_getElem? (i := 72) rfl) rfl
theorem wF_X4_113 : Cond.fieldLink RX4 113 (TX3 5).1 (TX3 5).2.1 (TX3 5).2.2.1 ∈ av_T := av_t1 (List.mem_of_getElem? (i := 74) rfl) rfl
theorem wF_X4_116 : Cond.fieldLink RX4 116 (TX3 6).1 (TX3 6).2.1 (TX3 6).2.2.1 ∈ av_T := av_t1 (List.mem_of_getElem? (i := 76) rfl) rfl
theorem wF_X4_127 : Cond.fieldLink RX4 127 (TX0 9).1 (TX0 9).2.1 (TX0 9).2.2.1 ∈ av_T := av_t1 (List.mem_of_getElem? (i := 139) rfl) rfl
theorem wF_X4_130 : Cond.fieldLink RX4 130 (TX0 10).1 (TX0 10).2.1 (TX0 10).2.2.1 ∈ av_T := av_t1 (List.mem_of_getElem? (i := 141) rfl) rfl
theorem wF_X4_133 : Cond.fieldLink RX4 133 (TX0 11).1 (TX0 11).2.1 (TX0 11).2.2.1 ∈ av_T := av_t1 (List.mem_of_getElem? (i := 143) rfl) rfl
theorem wF_X4_136 : Cond.fieldLink RX4 136 (TX0 8).1 (TX0 8).2.1 (TX0 8).2.2.1 ∈ av_T := av_t1 (List.mem_of_getElem? (i := 138) rfl) rfl
theorem wF_X4_166 : Cond.fieldLink RX4 166 (TX1 1).1 (TX1 1).2.1 (TX1 1).2.2.1 ∈ av_T := av_t1 (List.mem_of_getElem? (i := 30) rfl) rfl
theorem wF_X4_204 : Cond.fieldLink RX4 204 (TX4 10).1 (TX4 10).2.1 (TX4 10).2.2.1 ∈ av_T := av_t2 (List.mem_of_getElem? (i := 68) rfl) rfl
theorem wF_X4_227 : Cond.fieldLink RX4 227 (TX3 14).1 (TX3 14).2.1 (TX3 14).2.2.1 ∈ av_T := av_t1 (List.mem_of_getElem? (i := 91) rfl) rfl
theorem wF_X4_230 : Cond.fieldLink RX4 230 (TX3 10).1 (TX3 10).2.1 (TX3 10).2.2.1 ∈ av_T := av_t1 (List.mem_of_getElem? (i := 85) rfl) rfl
theorem wF_X0_11 : Cond.fieldLink RX0 11 (TX0 1).1 (TX0 1).2.1 (TX0 1).2.2.1 ∈ av_T := av_t1 (List.mem_of_getElem? (i := 130) rfl) rfl
theorem wF_X0_15 : Cond.fieldLink RX0 15 (TX0 2).1 (TX0 2).2.1 (TX0 2).2.2.1 ∈ av_T := av_t1 (List.mem_of_getElem? (i := 131) rfl) rfl
theorem wF_X0_18 : Cond.fieldLink RX0 18 (TX0 3).1 (TX0 3).2.1 (TX0 3).2.2.1 ∈ av_T := av_t1 (List.mem_of_getElem? (i := 132) rfl) rfl
theorem wF_X0_21 : Cond.fieldLink RX0 21 (TX0 4).1 (TX0 4).2.1 (TX0 4).2.2.1 ∈ av_T := av_t1 (List.mem_of_getElem? (i := 133) rfl) rfl
theorem wF_X0_24 : Cond.fieldLink RX0 24 (TX0 8).1 (TX0 8).2.1 (TX0 8).2.2.1 ∈ av_T := av_t1 (List.mem_of_getElem? (i := 137) rfl) rfl
theorem wF_X0_27 : Cond.fieldLink RX0 27 (TX0 0).1 (TX0 0).2.1 (TX0 0).2.2.1 ∈ av_T := av_t1 (List.mem_of_getElem? (i := 129) rfl) rfl
theorem wF_X0_31 : Cond.fieldLink RX0 31 (TX0 5).1 (TX0 5).2.1 (TX0 5).2.2.1 ∈ av_T := av_t1 (List.mem_of_getElem? (i := 134) rfl) rfl
theorem wF_X0_39 : Cond.fieldLink RX0 39 (TX0 6).1 (TX0 6).2.1 (TX0 6).2.2.1 ∈ av_T := av_t1 (List.mem_of_getElem? (i := 135) rfl) rfl
theorem wF_X0_46 : Cond.fieldLink RX0 46 (TX3 7).1 (TX3 7).2.1 (TX3 7).2.2.1 ∈ av_T := av_t1 (List.mem_of_getElem? (i := 78) rfl) rfl
theorem wF_X0_51 : Cond.fieldLink RX0 51 (TX0 7).1 (TX0 7).2.1 (TX0 7).2.2.1 ∈ av_T := av_t1 (List.mem_of_getElem? (i := 136) rfl) rfl
theorem wF_X0_61 : Cond.fieldLink RX0 61 (TX3 1).1 (TX3 1).2.1 (TX3 1).2.2.1 ∈ av_T := av_t1 (List.mem_of_getElem? (i := 64) rfl) rfl
theorem wF_X0_64 : Cond.fieldLink RX0 64 (TX0 9).1 (TX0 9).2.1 (TX0 9).2.2.1 ∈ av_T := av_t1 (List.mem_of_getElem? (i := 140) rfl) rfl
theorem wF_X0_67 : Cond.fieldLink RX0 67 (TX0 10).1 (TX0 10).2.1 (TX0 10).2.2.1 ∈ av_T := av_t1 (List.mem_of_getElem? (i := 142) rfl) rfl
theorem wF_X0_70 : Cond.fieldLink RX0 70 (TX0 11).1 (TX0 11).2.1 (TX0 11).2.2.1 ∈ av_T := av_t1 (List.mem_of_getElem? (i := 144) rfl) rfl
theorem wF_X0_87 : Cond.fieldLink RX0 87 (TX3 3).1 (TX3 3).2.1 (TX3 3).2.2.1 ∈ av_T := av_t1 (List.mem_of_getElem? (i := 70) rfl) rfl
theorem wF_X0_90 : Cond.fieldLink RX0 90 (TX3 2).1 (TX3 2).2.1 (TX3 2).2.2.1 ∈ av_T := av_t1 (List.mem_of_getElem? (i := 67) rfl) rfl
theorem wF_X1_9 : Cond.fieldLink RX1 9 (TX1 0).1 (TX1 0).2.1 (TX1 0).2.2.1 ∈ av_T := av_t1 (List.mem_of_getElem? (i := 28) rfl) rfl
theorem wF_X1_15 : Cond.fieldLink RX1 15 (TX1 1).1 (TX1 1).2.1 (TX1 1).2.2.1 ∈ av_T := av_t1 (List.mem_of_getElem? (i := 29) rfl) rfl
theorem wF_X2_9 : Cond.fieldLink RX2 9 (TX2 0).1 (TX2 0).2.1 (TX2 0).2.2.1 ∈ av_T := av_t1 (List.mem_of_getElem? (i := 43) rfl) rfl
theorem wF_X2_15 : Cond.fieldLink RX2 15 (TX2 1).1 (TX2 1).2.1 (TX2 1).2.2.1 ∈ av_T := av_t1 (List.mem_of_getElem? (i := 44) rfl) rfl
theorem wF_X2_24 : Cond.fieldLink RX2 24 (TX2 2).1 (TX2 2).2.1 (TX2 2).2.2.1 ∈ av_T := av_t1 (List.mem_of_getElem? (i := 46) rfl) rfl
theorem wF_X2_65 : Cond.fieldLink RX2 65 (TX3 10).1 (TX3 10).2.1 (TX3 10).2.2.1 ∈ av_T := av_t1 (List.mem_of_getElem? (i := 84) rfl) rfl
theorem wF_X2_72 : Cond.fieldLink RX2 72 (TX3 14).1 (TX3 14).2.1 (TX3 14).2.2.1 ∈ av_T := av_t1 (List.mem_of_getElem? (i := 90) rfl) rfl
theorem wF_X3_9 : Cond.fieldLink RX3 9 (TX3 0).1 (TX3 0).2.1 (TX3 0).2.2.1 ∈ av_T := av_t1 (List.mem_of_getElem? (i := 61) rfl) rfl
theorem wF_X3_15 : Cond.fieldLink RX3 15 (TX3 1).1 (TX3 1).2.1 (TX3 1).2.2.1 ∈ av_T := av_t1 (List.mem_of_getElem? (i := 63) rfl) rfl
theorem wF_X3_18 : Cond.fieldLink RX3 18 (TX3 2).1 (TX3 2).2.1 (TX3 2).2.2.1 ∈ av_T := av_t1 (List.mem_of_getElem? (i := 65) rfl) rfl
theorem wF_X3_21 : Cond.fieldLink RX3 21 (TX3 3).1 (TX3 3).2.1 (TX3 3).2.2.1 ∈ av_T := av_t1 (List.mem_of_getElem? (i := 68) rfl) rfl
theorem wF_X3_24 : Cond.fieldLink RX3 24 (TX3 4).1 (TX3 4).2.1 (TX3 4).2.2.1 ∈ av_T := av_t1 (List.mem_of_getElem? (i := 71) rfl) rfl
theorem wF_X3_27 : Cond.fieldLink RX3 27 (TX3 5).1 (TX3 5).2.1 (TX3 5).2.2.1 ∈ av_T := av_t1 (List.mem_of_getElem? (i := 73) rfl) rfl
theorem wF_X3_30 : Cond.fieldLink RX3 30 (TX3 6).1 (TX3 6).2.1 (TX3 6).2.2.1 ∈ av_T := av_t1 (List.mem_of_getElem? (i := 75) rfl) rfl
theorem wF_X3_33 : Cond.fieldLink RX3 33 (TX3 7).1 (TX3 7).2.1 (TX3 7).2.2.1 ∈ av_T := av_t1 (List.mem_of_getElem? (i := 77) rfl) rfl
theorem wF_X3_36 : Cond.fieldLink RX3 36 (TX3 8).1 (TX3 8).2.1 (TX3 8).2.2.1 ∈ av_T := av_t1 (List.mem_of_getElem? (i := 79) rfl) rfl
theorem wF_X3_40 : Cond.fieldLink RX3 40 (TX3 9).1 (TX3 9).2.1 (TX3 9).2.2.1 ∈ av_T := av_t1 (List.mem_of_getElem? (i := 81) rfl) rfl
theorem wF_X3_43 : Cond.fieldLink RX3 43 (TX3 10).1 (TX3 10).2.1 (TX3 10).2.2.1 ∈ av_T := av_t1 (List.mem_of_getElem? (i := 83) rfl) rfl
theorem wF_X3_50 : Cond.fieldLink RX3 50 (TX3 14).1 (TX3 14).2.1 (TX3 14).2.2.1 ∈ av_T := av_t1 (List.mem_of_getElem? (i := 89) rfl) rfl
theorem wF_X3_57 : Cond.fieldLink RX3 57 (TX3 11).1 (TX3 11).2.1 (TX3 11).2.2.1 ∈ av_T := av_t1 (List.mem_of_getElem? (i := 86) rfl) rfl
theorem wF_X3_60 : Cond.fieldLink RX3 60 (TX3 12).1 (TX3 12).2.1 (TX3 12).2.2.1 ∈ av_T := av_t1 (List.mem_of_getElem? (i := 87) rfl) rfl
theorem wF_X3_63 : Cond.fieldLink RX3 63 (TX3 13).1 (TX3 13).2.1 (TX3 13).2.2.1 ∈ av_T := av_t1 (List.mem_of_getElem? (i := 88) rfl) rfl
theorem wF_X5_7 : Cond.fieldLink RX5 7 (TX5 1).1 (TX5 1).2.1 (TX5 1).2.2.1 ∈ av_T := av_t3 (List.mem_of_getElem? (i := 163) rfl) rfl
theorem wF_X5_13 : Cond.fieldLink RX5 13 (TX5 2).1 (TX5 2).2.1 (TX5 2).2.2.1 ∈ av_T := av_t3 (List.mem_of_getElem? (i := 164) rfl) rfl
theorem wF_X5_16 : Cond.fieldLink RX5 16 (TX5 3).1 (TX5 3).2.1 (TX5 3).2.2.1 ∈ av_T := av_t3 (List.mem_of_getElem? (i := 165) rfl) rfl
theorem wF_X5_19 : Cond.fieldLink RX5 19 (TX5 4).1 (TX5 4).2.1 (TX5 4).2.2.1 ∈ av_T := av_t3 (List.mem_of_getElem? (i := 166) rfl) rfl
theorem wF_X5_22 : Cond.fieldLink RX5 22 (TX5 6).1 (TX5 6).2.1 (TX5 6).2.2.1 ∈ av_T := av_t3 (List.mem_of_getElem? (i := 168) rfl) rfl
theorem wF_X5_25 : Cond.fieldLink RX5 25 (TX5 7).1 (TX5 7).2.1 (TX5 7).2.2.1 ∈ av_T := av_t3 (List.mem_of_getElem? (i := 169) rfl) rfl
theorem wF_X5_28 : Cond.fieldLink RX5 28 (TX5 8).1 (TX5 8).2.1 (TX5 8).2.2.1 ∈ av_T := av_t3 (List.mem_of_getElem? (i := 170) rfl) rfl
theorem wF_X5_31 : Cond.fieldLink RX5 31 (TX5 10).1 (TX5 10).2.1 (TX5 10).2.2.1 ∈ av_T := av_t3 (List.mem_of_getElem? (i := 172) rfl) rfl
theorem wF_X5_34 : Cond.fieldLink RX5 34 (TX5 12).1 (TX5 12).2.1 (TX5 12).2.2.1 ∈ av_T := av_t3 (List.mem_of_getElem? (i := 174) rfl) rfl
theorem wF_X5_37 : Cond.fieldLink RX5 37 (TX5 14).1 (TX5 14).2.1 (TX5 14).2.2.1 ∈ av_T := av_t3 (List.mem_of_getElem? (i := 176) rfl) rfl
theorem wF_X5_40 : Cond.fieldLink RX5 40 (TX5 15).1 (TX5 15).2.1 (TX5 15).2.2.1 ∈ av_T := av_t3 (List.mem_of_getElem? (i := 177) rfl) rfl
theorem wF_X5_43 : Cond.fieldLink RX5 43 (TX5 18).1 (TX5 18).2.1 (TX5 18).2.2.1 ∈ av_T := av_t3 (List.mem_of_getElem? (i := 180) rfl) rfl
theorem wF_X5_46 : Cond.fieldLink RX5 46 (TX5 20).1 (TX5 20).2.1 (TX5 20).2.2.1 ∈ av_T := av_t3 (List.mem_of_getElem? (i := 182) rfl) rfl
theorem wF_X5_49 : Cond.fieldLink RX5 49 (TX5 21).1 (TX5 21).2.1 (TX5 21).2.2.1 ∈ av_T := av_t3 (List.mem_of_getElem? (i := 183) rfl) rfl
theorem wF_X5_52 : Cond.fieldLink RX5 52 (TX5 22).1 (TX5 22).2.1 (TX5 22).2.2.1 ∈ av_T := av_t3 (List.mem_of_getElem? (i := 184) rfl) rfl
theorem wF_X5_55 : Cond.fieldLink RX5 55 (TX5 23).1 (TX5 23).2.1 (TX5 23).2.2.1 ∈ av_T := av_t3 (List.mem_of_getElem? (i := 185) rfl) rfl
theorem wF_X5_58 : Cond.fieldLink RX5 58 (TX5 25).1 (TX5 25).2.1 (TX5 25).2.2.1 ∈ av_T := av_t3 (List.mem_of_getElem? (i := 187) rfl) rfl
theorem wF_X5_61 : Cond.fieldLink RX5 61 (TX5 27).1 (TX5 27).2.1 (TX5 27).2.2.1 ∈ av_T := av_t3 (List.mem_of_getElem? (i := 189) rfl) rfl
theorem wF_X5_64 : Cond.fieldLink RX5 64 (TX5 28).1 (TX5 28).2.1 (TX5 28).2.2.1 ∈ av_T := av_t3 (List.mem_of_getElem? (i := 190) rfl) rfl
theorem wF_X5_67 : Cond.fieldLink RX5 67 (TX5 30).1 (TX5 30).2.1 (TX5 30).2.2.1 ∈ av_T := av_t3 (List.mem_of_getElem? (i := 192) rfl) rfl
theorem wF_X5_70 : Cond.fieldLink RX5 70 (TX5 34).1 (TX5 34).2.1 (TX5 34).2.2.1 ∈ av_T := av_t3 (List.mem_of_getElem? (i := 196) rfl) rfl
theorem wF_X5_73 : Cond.fieldLink RX5 73 (TX5 35).1 (TX5 35).2.1 (TX5 35).2.2.1 ∈ av_T := av_t3 (List.mem_of_getElem? (i := 197) rfl) rfl
theorem wF_X5_85 : Cond.fieldLink RX5 85 (TX5 19).1 (TX5 19).2.1 (TX5 19).2.2.1 ∈ av_T := av_t3 (List.mem_of_getElem? (i := 181) rfl) rfl
theorem wF_X5_89 : Cond.fieldLink RX5 89 (TX5 24).1 (TX5 24).2.1 (TX5 24).2.2.1 ∈ av_T := av_t3 (List.mem_of_getElem? (i := 186) rfl) rfl
theorem wF_X5_100 : Cond.fieldLink RX5 100 (TX5 26).1 (TX5 26).2.1 (TX5 26).2.2.1 ∈ av_T := av_t3 (List.mem_of_getElem? (i := 188) rfl) rfl
theorem wF_X5_103 : Cond.fieldLink RX5 103 (TX5 29).1 (TX5 29).2.1 (TX5 29).2.2.1 ∈ av_T := av_t3 (List.mem_of_getElem? (i := 191) rfl) rfl
theorem wF_X5_106 : Cond.fieldLink RX5 106 (TX5 5).1 (TX5 5).2.1 (TX5 5).2.2.1 ∈ av_T := av_t3 (List.mem_of_getElem? (i := 167) rfl) rfl
theorem wF_X5_113 : Cond.fieldLink RX5 113 (TX5 16).1 (TX5 16).2.1 (TX5 16).2.2.1 ∈ av_T := av_t3 (List.mem_of_getElem? (i := 178) rfl) rfl
theorem wF_X5_116 : Cond.fieldLink RX5 116 (TX5 17).1 (TX5 17).2.1 (TX5 17).2.2.1 ∈ av_T := av_t3 (List.mem_of_getElem? (i := 179) rfl) rfl
theorem wF_X5_157 : Cond.fieldLink RX5 157 (TX5 0).1 (TX5 0).2.1 (TX5 0).2.2.1 ∈ av_T := av_t3 (List.mem_of_getElem? (i := 162) rfl) rfl
theorem wF_X5_164 : Cond.fieldLink RX5 164 (TX5 9).1 (TX5 9).2.1 (TX5 9).2.2.1 ∈ av_T := av_t3 (List.mem_of_getElem? (i := 171) rfl) rfl
theorem wF_X5_167 : Cond.fieldLink RX5 167 (TX5 11).1 (TX5 11).2.1 (TX5 11).2.2.1 ∈ av_T := av_t3 (List.mem_of_getElem? (i := 173) rfl) rfl
theorem wF_X5_170 : Cond.fieldLink RX5 170 (TX5 13).1 (TX5 13).2.1 (TX5 13).2.2.1 ∈ av_T := av_t3 (List.mem_of_getElem? (i := 175) rfl) rfl
theorem wF_X5_173 : Cond.fieldLink RX5 173 (TX5 33).1 (TX5 33).2.1 (TX5 33).2.2.1 ∈ av_T := av_t3 (List.mem_of_getElem? (i := 195) rfl) rfl
theorem wF_X5_176 : Cond.fieldLink RX5 176 (TX5 32).1 (TX5 32).2.1 (TX5 32).2.2.1 ∈ av_T := av_t3 (List.mem_of_getElem? (i := 194) rfl) rfl
theorem wF_X5_179 : Cond.fieldLink RX5 179 (TX5 31).1 (TX5 31).2.1 (TX5 31).2.2.1 ∈ av_T := av_t3 (List.mem_of_getElem? (i := 193) rfl) rfl
theorem wF_X5_182 : Cond.fieldLink RX5 182 (TX5 36).1 (TX5 36).2.1 (TX5 36).2.2.1 ∈ av_T := av_t3 (List.mem_of_getElem? (i := 198) rfl) rfl
theorem wF_X5_205 : Cond.fieldLink RX5 205 (TX5 37).1 (TX5 37).2.1 (TX5 37).2.2.1 ∈ av_T := av_t3 (List.mem_of_getElem? (i := 199) rfl) rfl
theorem wF_X5_211 : Cond.fieldLink RX5 211 (TX5 38).1 (TX5 38).2.1 (TX5 38).2.2.1 ∈ av_T := av_t3 (List.mem_of_getElem? (i := 200) rfl) rfl
theorem wF_X5_217 : Cond.fieldLink RX5 217 (TX5 39).1 (TX5 39).2.1 (TX5 39).2.2.1 ∈ av_T := av_t3 (List.mem_of_getElem? (i := 201) rfl) rfl
theorem wM_X0_100 : Cond.methodLink RX0 100 yX0_bestFrom ∈ av_T := av_t2 (List.mem_of_getElem? (i := 194) rfl) rfl
theorem wM_X0_103 : Cond.methodLink RX0 103 yX0_gainOf ∈ av_T := av_t2 (List.mem_of_getElem? (i := 198) rfl) rfl
theorem wM_X0_106 : Cond.methodLink RX0 106 yJ9_max_7cf53 ∈ av_T := av_t2 (List.mem_of_getElem? (i := 202) rfl) rfl
theorem wM_X0_42 : Cond.methodLink RX0 42 yX0_fitWords ∈ av_T := av_t2 (List.mem_of_getElem? (i := 130) rfl) rfl
theorem wM_X0_54 : Cond.methodLink RX0 54 yX0_mayEndAt ∈ av_T := av_t2 (List.mem_of_getElem? (i := 139) rfl) rfl
theorem wM_X0_58 : Cond.methodLink RX0 58 yX0_tallyFrom ∈ av_T := av_t2 (List.mem_of_getElem? (i := 143) rfl) rfl
theorem wM_X0_73 : Cond.methodLink RX0 73 yX0_openAt ∈ av_T := av_t2 (List.mem_of_getElem? (i := 159) rfl) rfl
theorem wM_X0_80 : Cond.methodLink RX0 80 yX0_slotBehind ∈ av_T := av_t2 (List.mem_of_getElem? (i := 166) rfl) rfl
theorem wM_X0_84 : Cond.methodLink RX0 84 yX0_addWord ∈ av_T := av_t2 (List.mem_of_getElem? (i := 170) rfl) rfl
theorem wM_X0_93 : Cond.methodLink RX0 93 yX0_rank ∈ av_T := av_t2 (List.mem_of_getElem? (i := 190) rfl) rfl
theorem wM_X0_96 : Cond.methodLink RX0 96 yX0_firstOfBest ∈ av_T := av_t2 (List.mem_of_getElem? (i := 203) rfl) rfl
theorem wM_X2_19 : Cond.methodLink RX2 19 yX3_clear ∈ av_T := av_t1 (List.mem_of_getElem? (i := 227) rfl) rfl
theorem wM_X2_27 : Cond.methodLink RX2 27 yX2_readItem ∈ av_T := av_t1 (List.mem_of_getElem? (i := 235) rfl) rfl
theorem wM_X2_31 : Cond.methodLink RX2 31 yX2_sign ∈ av_T := av_t1 (List.mem_of_getElem? (i := 239) rfl) rfl
theorem wM_X2_35 : Cond.methodLink RX2 35 yX2_readRoot ∈ av_T := av_t2 (List.mem_of_getElem? (i := 3) rfl) rfl
theorem wM_X2_38 : Cond.methodLink RX2 38 yX2_readReader ∈ av_T := av_t2 (List.mem_of_getElem? (i := 29) rfl) rfl
theorem wM_X2_41 : Cond.methodLink RX2 41 yX2_readWriting ∈ av_T := av_t2 (List.mem_of_getElem? (i := 37) rfl) rfl
theorem wM_X2_44 : Cond.methodLink RX2 44 yX2_readRiver ∈ av_T := av_t2 (List.mem_of_getElem? (i := 41) rfl) rfl
theorem wM_X2_47 : Cond.methodLink RX2 47 yX2_readGold ∈ av_T := av_t2 (List.mem_of_getElem? (i := 46) rfl) rfl
theorem wM_X2_50 : Cond.methodLink RX2 50 yX2_readRow ∈ av_T := av_t2 (List.mem_of_getElem? (i := 7) rfl) rfl
theorem wM_X2_54 : Cond.methodLink RX2 54 yX2_readNumber ∈ av_T := av_t2 (List.mem_of_getElem? (i := 15) rfl) rfl
theorem wM_X2_58 : Cond.methodLink RX2 58 yX3_addRoot ∈ av_T := av_t2 (List.mem_of_getElem? (i := 22) rfl) rfl
theorem wM_X2_62 : Cond.methodLink RX2 62 yX3_addReader ∈ av_T := av_t2 (List.mem_of_getElem? (i := 33) rfl) rfl
theorem wM_X2_68 : Cond.methodLink RX2 68 yX3_setRiver ∈ av_T := av_t2 (List.mem_of_getElem? (i := 45) rfl) rfl
theorem wM_X2_75 : Cond.methodLink RX2 75 yX2_isNext ∈ av_T := av_t2 (List.mem_of_getElem? (i := 11) rfl) rfl
theorem wM_X2_79 : Cond.methodLink RX2 79 yJ9_max_7cf53 ∈ av_T := av_t2 (List.mem_of_getElem? (i := 19) rfl) rfl
theorem wM_X3_46 : Cond.methodLink RX3 46 yX3_setRiver ∈ av_T := av_t1 (List.mem_of_getElem? (i := 231) rfl) rfl
theorem wM_X3_66 : Cond.methodLink RX3 66 yJ9_max_7cf53 ∈ av_T := av_t3 (List.mem_of_getElem? (i := 12) rfl) rfl
theorem wM_X4_102 : Cond.methodLink RX4 102 yX4_isReader ∈ av_T := av_t2 (List.mem_of_getElem? (i := 117) rfl) rfl
theorem wM_X4_106 : Cond.methodLink RX4 106 yX4_readingsOf ∈ av_T := av_t2 (List.mem_of_getElem? (i := 121) rfl) rfl
theorem wM_X4_119 : Cond.methodLink RX4 119 yX4_isReading ∈ av_T := av_t2 (List.mem_of_getElem? (i := 151) rfl) rfl
theorem wM_X4_123 : Cond.methodLink RX4 123 yX0_pick ∈ av_T := av_t2 (List.mem_of_getElem? (i := 155) rfl) rfl
theorem wM_X4_139 : Cond.methodLink RX4 139 yX4_toldBy ∈ av_T := av_t2 (List.mem_of_getElem? (i := 182) rfl) rfl
theorem wM_X4_142 : Cond.methodLink RX4 142 yX1_put ∈ av_T := av_t2 (List.mem_of_getElem? (i := 211) rfl) rfl
theorem wM_X4_146 : Cond.methodLink RX4 146 yX4_verbsToldBy ∈ av_T := av_t2 (List.mem_of_getElem? (i := 218) rfl) rfl
theorem wM_X4_150 : Cond.methodLink RX4 150 yX4_holds ∈ av_T := av_t2 (List.mem_of_getElem? (i := 226) rfl) rfl
theorem wM_X4_153 : Cond.methodLink RX4 153 yX4_hasFallen ∈ av_T := av_t2 (List.mem_of_getElem? (i := 227) rfl) rfl
theorem wM_X4_157 : Cond.methodLink RX4 157 yX3_fall ∈ av_T := av_t2 (List.mem_of_getElem? (i := 231) rfl) rfl
theorem wM_X4_160 : Cond.methodLink RX4 160 yX4_lettersIn ∈ av_T := av_t2 (List.mem_of_getElem? (i := 239) rfl) rfl
theorem wM_X4_163 : Cond.methodLink RX4 163 yX3_depthIn ∈ av_T := av_t3 (List.mem_of_getElem? (i := 8) rfl) rfl
theorem wM_X4_169 : Cond.methodLink RX4 169 yX1_takeInto ∈ av_T := av_t3 (List.mem_of_getElem? (i := 17) rfl) rfl
theorem wM_X4_172 : Cond.methodLink RX4 172 yX4_isPart ∈ av_T := av_t3 (List.mem_of_getElem? (i := 25) rfl) rfl
theorem wM_X4_176 : Cond.methodLink RX4 176 yX3_wordsSaying ∈ av_T := av_t3 (List.mem_of_getElem? (i := 28) rfl) rfl
theorem wM_X4_179 : Cond.methodLink RX4 179 yX0_tally ∈ av_T := av_t2 (List.mem_of_getElem? (i := 135) rfl) rfl
theorem wM_X4_182 : Cond.methodLink RX4 182 yX4_inLowestTerms ∈ av_T := av_t3 (List.mem_of_getElem? (i := 32) rfl) rfl
theorem wM_X4_186 : Cond.methodLink RX4 186 yX4_wordsOfRoot ∈ av_T := av_t3 (List.mem_of_getElem? (i := 39) rfl) rfl
theorem wM_X4_189 : Cond.methodLink RX4 189 yX4_isShortRow ∈ av_T := av_t3 (List.mem_of_getElem? (i := 46) rfl) rfl
theorem wM_X4_192 : Cond.methodLink RX4 192 yX4_isEnough ∈ av_T := av_t3 (List.mem_of_getElem? (i := 57) rfl) rfl
theorem wM_X4_195 : Cond.methodLink RX4 195 yX4_isCheaper ∈ av_T := av_t3 (List.mem_of_getElem? (i := 70) rfl) rfl
theorem wM_X4_198 : Cond.methodLink RX4 198 yX3_priceOf ∈ av_T := av_t3 (List.mem_of_getElem? (i := 66) rfl) rfl
theorem wM_X4_201 : Cond.methodLink RX4 201 yX3_hoursOf ∈ av_T := av_t3 (List.mem_of_getElem? (i := 61) rfl) rfl
theorem wM_X4_207 : Cond.methodLink RX4 207 yX4_isAsSeen ∈ av_T := av_t3 (List.mem_of_getElem? (i := 86) rfl) rfl
theorem wM_X4_210 : Cond.methodLink RX4 210 yX0_take ∈ av_T := av_t2 (List.mem_of_getElem? (i := 125) rfl) rfl
theorem wM_X4_214 : Cond.methodLink RX4 214 yX4_wordsOfRoots ∈ av_T := av_t3 (List.mem_of_getElem? (i := 94) rfl) rfl
theorem wM_X4_217 : Cond.methodLink RX4 217 yX4_oddsOf ∈ av_T := av_t3 (List.mem_of_getElem? (i := 98) rfl) rfl
theorem wM_X4_221 : Cond.methodLink RX4 221 yX4_power ∈ av_T := av_t3 (List.mem_of_getElem? (i := 108) rfl) rfl
theorem wM_X4_224 : Cond.methodLink RX4 224 yX4_rowOfWall ∈ av_T := av_t3 (List.mem_of_getElem? (i := 115) rfl) rfl
theorem wM_X4_233 : Cond.methodLink RX4 233 yX0_told ∈ av_T := av_t2 (List.mem_of_getElem? (i := 186) rfl) rfl
theorem wM_X4_242 : Cond.methodLink RX4 242 yJ6_bitCount_0f7a4 ∈ av_T := av_t3 (List.mem_of_getElem? (i := 102) rfl) rfl
theorem wM_X4_51 : Cond.methodLink RX4 51 yX0_init ∈ av_T := av_t1 (List.mem_of_getElem? (i := 125) rfl) rfl
theorem wM_X4_70 : Cond.methodLink RX4 70 yX2_add ∈ av_T := av_t1 (List.mem_of_getElem? (i := 219) rfl) rfl
theorem wM_X4_74 : Cond.methodLink RX4 74 yX2_firstFault ∈ av_T := av_t1 (List.mem_of_getElem? (i := 223) rfl) rfl
theorem wM_X4_78 : Cond.methodLink RX4 78 yX2_clear ∈ av_T := av_t2 (List.mem_of_getElem? (i := 50) rfl) rfl
theorem wM_X4_81 : Cond.methodLink RX4 81 yX4_begin ∈ av_T := av_t2 (List.mem_of_getElem? (i := 54) rfl) rfl
theorem wM_X5_109 : Cond.methodLink RX5 109 yX5_in ∈ av_T := av_t4 (List.mem_of_getElem? (i := 47) rfl) rfl
theorem wM_X5_119 : Cond.methodLink RX5 119 yX5_letterAt ∈ av_T := av_t4 (List.mem_of_getElem? (i := 62) rfl) rfl
theorem wM_X5_123 : Cond.methodLink RX5 123 yX5_isFigure ∈ av_T := av_t4 (List.mem_of_getElem? (i := 82) rfl) rfl
theorem wM_X5_127 : Cond.methodLink RX5 127 yX5_readLetters ∈ av_T := av_t4 (List.mem_of_getElem? (i := 70) rfl) rfl
theorem wM_X5_131 : Cond.methodLink RX5 131 yX5_isNew ∈ av_T := av_t4 (List.mem_of_getElem? (i := 74) rfl) rfl
theorem wM_X5_134 : Cond.methodLink RX5 134 yX5_readNumbers ∈ av_T := av_t4 (List.mem_of_getElem? (i := 78) rfl) rfl
theorem wM_X5_137 : Cond.methodLink RX5 137 yX5_isTold ∈ av_T := av_t4 (List.mem_of_getElem? (i := 85) rfl) rfl
theorem wM_X5_140 : Cond.methodLink RX5 140 yX5_readRootOf ∈ av_T := av_t4 (List.mem_of_getElem? (i := 66) rfl) rfl
theorem wM_X5_144 : Cond.methodLink RX5 144 yX5_readReaderOf ∈ av_T := av_t4 (List.mem_of_getElem? (i := 89) rfl) rfl
theorem wM_X5_147 : Cond.methodLink RX5 147 yX5_readRiverOf ∈ av_T := av_t4 (List.mem_of_getElem? (i := 93) rfl) rfl
theorem wM_X5_150 : Cond.methodLink RX5 150 yX5_readItem ∈ av_T := av_t4 (List.mem_of_getElem? (i := 58) rfl) rfl
theorem wM_X5_153 : Cond.methodLink RX5 153 yX5_fault ∈ av_T := av_t4 (List.mem_of_getElem? (i := 101) rfl) rfl
theorem wM_X5_160 : Cond.methodLink RX5 160 yX5_copies ∈ av_T := av_t3 (List.mem_of_getElem? (i := 159) rfl) rfl
theorem wM_X5_185 : Cond.methodLink RX5 185 yX5_begins ∈ av_T := av_t4 (List.mem_of_getElem? (i := 122) rfl) rfl
theorem wM_X5_189 : Cond.methodLink RX5 189 yX5_isVerb ∈ av_T := av_t4 (List.mem_of_getElem? (i := 138) rfl) rfl
theorem wM_X5_192 : Cond.methodLink RX5 192 yX5_has ∈ av_T := av_t4 (List.mem_of_getElem? (i := 142) rfl) rfl
theorem wM_X5_196 : Cond.methodLink RX5 196 yX5_fits ∈ av_T := av_t4 (List.mem_of_getElem? (i := 134) rfl) rfl
theorem wM_X5_199 : Cond.methodLink RX5 199 yX5_verbsIn ∈ av_T := av_t4 (List.mem_of_getElem? (i := 145) rfl) rfl
theorem wM_X5_202 : Cond.methodLink RX5 202 yX5_isNext ∈ av_T := av_t4 (List.mem_of_getElem? (i := 130) rfl) rfl
theorem wM_X5_208 : Cond.methodLink RX5 208 yX5_weighs ∈ av_T := av_t4 (List.mem_of_getElem? (i := 157) rfl) rfl
theorem wM_X5_214 : Cond.methodLink RX5 214 yX5_verbs ∈ av_T := av_t4 (List.mem_of_getElem? (i := 161) rfl) rfl
theorem wM_X5_220 : Cond.methodLink RX5 220 yX5_isReader ∈ av_T := av_t4 (List.mem_of_getElem? (i := 110) rfl) rfl
theorem wM_X5_223 : Cond.methodLink RX5 223 yX5_all ∈ av_T := av_t4 (List.mem_of_getElem? (i := 114) rfl) rfl
theorem wM_X5_226 : Cond.methodLink RX5 226 yX5_asWritten ∈ av_T := av_t4 (List.mem_of_getElem? (i := 118) rfl) rfl
theorem wM_X5_229 : Cond.methodLink RX5 229 yX5_manyReadings ∈ av_T := av_t4 (List.mem_of_getElem? (i := 126) rfl) rfl
theorem wM_X5_232 : Cond.methodLink RX5 232 yX5_isReading ∈ av_T := av_t4 (List.mem_of_getElem? (i := 153) rfl) rfl
theorem wM_X5_235 : Cond.methodLink RX5 235 yX5_isTelling ∈ av_T := av_t4 (List.mem_of_getElem? (i := 173) rfl) rfl
theorem wM_X5_238 : Cond.methodLink RX5 238 yX5_deepIn ∈ av_T := av_t4 (List.mem_of_getElem? (i := 201) rfl) rfl
theorem wM_X5_241 : Cond.methodLink RX5 241 yX5_fall ∈ av_T := av_t4 (List.mem_of_getElem? (i := 197) rfl) rfl
theorem wM_X5_244 : Cond.methodLink RX5 244 yX5_remembers ∈ av_T := av_t4 (List.mem_of_getElem? (i := 181) rfl) rfl
theorem wM_X5_247 : Cond.methodLink RX5 247 yX5_verbsBy ∈ av_T := av_t4 (List.mem_of_getElem? (i := 185) rfl) rfl
theorem wM_X5_250 : Cond.methodLink RX5 250 yX5_isFallen ∈ av_T := av_t4 (List.mem_of_getElem? (i := 193) rfl) rfl
theorem wM_X5_253 : Cond.methodLink RX5 253 yX5_lowest ∈ av_T := av_t4 (List.mem_of_getElem? (i := 225) rfl) rfl
theorem wM_X5_257 : Cond.methodLink RX5 257 yX5_isReadable ∈ av_T := av_t4 (List.mem_of_getElem? (i := 232) rfl) rfl
theorem wM_X5_260 : Cond.methodLink RX5 260 yX5_isRow ∈ av_T := av_t5 (List.mem_of_getElem? (i := 4) rfl) rfl
theorem wM_X5_263 : Cond.methodLink RX5 263 yX5_isReadingOf ∈ av_T := av_t5 (List.mem_of_getElem? (i := 0) rfl) rfl
theorem wM_X5_266 : Cond.methodLink RX5 266 yX5_numberOf ∈ av_T := av_t5 (List.mem_of_getElem? (i := 8) rfl) rfl
theorem wM_X5_270 : Cond.methodLink RX5 270 yX5_isSo ∈ av_T := av_t5 (List.mem_of_getElem? (i := 32) rfl) rfl
theorem wM_X5_76 : Cond.methodLink RX5 76 yX5_clearTold ∈ av_T := av_t3 (List.mem_of_getElem? (i := 139) rfl) rfl
theorem wM_X5_79 : Cond.methodLink RX5 79 yX5_tellsAll ∈ av_T := av_t3 (List.mem_of_getElem? (i := 143) rfl) rfl
theorem wM_X5_82 : Cond.methodLink RX5 82 yX5_settles ∈ av_T := av_t3 (List.mem_of_getElem? (i := 155) rfl) rfl
theorem wM_X5_92 : Cond.methodLink RX5 92 yX5_tellsRoot ∈ av_T := av_t3 (List.mem_of_getElem? (i := 147) rfl) rfl
theorem wM_X5_96 : Cond.methodLink RX5 96 yX5_tellsReader ∈ av_T := av_t3 (List.mem_of_getElem? (i := 151) rfl) rfl
theorem wK_X4_175 : Cond.constant RX4 175 (Int32.ofInt 65535) ∈ av_T := av_t2 (List.mem_of_getElem? (i := 134) rfl) rfl
theorem wK_J6_265 : Cond.constant RJ6 265 (Int32.ofInt 1431655765) ∈ av_T := av_t3 (List.mem_of_getElem? (i := 105) rfl) rfl
theorem wK_J6_266 : Cond.constant RJ6 266 (Int32.ofInt 858993459) ∈ av_T := av_t3 (List.mem_of_getElem? (i := 106) rfl) rfl
theorem wK_J6_267 : Cond.constant RJ6 267 (Int32.ofInt 252645135) ∈ av_T := av_t3 (List.mem_of_getElem? (i := 107) rfl) rfl
theorem wK_X4_236 : Cond.constantLong RX4 236 (Int64.ofInt 7919) ∈ av_T := av_t3 (List.mem_of_getElem? (i := 118) rfl) rfl
theorem wK_X4_238 : Cond.constantLong RX4 238 (Int64.ofInt 6151) ∈ av_T := av_t3 (List.mem_of_getElem? (i := 119) rfl) rfl
theorem wK_X4_240 : Cond.constantLong RX4 240 (Int64.ofInt 65521) ∈ av_T := av_t3 (List.mem_of_getElem? (i := 120) rfl) rfl
theorem wK_X5_273 : Cond.constantLong RX5 273 (Int64.ofInt 7919) ∈ av_T := av_t5 (List.mem_of_getElem? (i := 44) rfl) rfl
theorem wK_X5_275 : Cond.constantLong RX5 275 (Int64.ofInt 6151) ∈ av_T := av_t5 (List.mem_of_getElem? (i := 45) rfl) rfl
theorem wK_X5_277 : Cond.constantLong RX5 277 (Int64.ofInt 65521) ∈ av_T := av_t5 (List.mem_of_getElem? (i := 46) rfl) rfl
