theorem mT1 {w : Cond} (j : Nat) (h : tables_1_1[j]? = some w) : w ∈ lw_tbl := List.mem_append_right _ (show w ∈ tables_1 from List.mem_append_left _ (List.mem_of_getElem? h))
theorem mT2 {w : Cond} (j : Nat) (h : tables_1_2[j]? = some w) : w ∈ lw_tbl := List.mem_append_right _ (show w ∈ tables_1 from List.mem_append_right _ (List.mem_append_left _ (List.mem_of_getElem? h)))
theorem mT3 {w : Cond} (j : Nat) (h : tables_1_3[j]? = some w) : w ∈ lw_tbl := List.mem_append_right _ (show w ∈ tables_1 from List.mem_append_right _ (List.mem_append_right _ (List.mem_append_left _ (List.mem_of_getElem? h))))
theorem mT4 {w : Cond} (j : Nat) (h : tables_1_4[j]? = some w) : w ∈ lw_tbl := List.mem_append_right _ (show w ∈ tables_1 from List.mem_append_right _ (List.mem_append_right _ (List.mem_append_right _ (List.mem_append_left _ (List.mem_of_getElem? h)))))
theorem mT5 {w : Cond} (j : Nat) (h : tables_1_5[j]? = some w) : w ∈ lw_tbl := List.mem_append_right _ (show w ∈ tables_1 from List.mem_append_right _ (List.mem_append_right _ (List.mem_append_right _ (List.mem_append_right _ (List.mem_append_left _ (List.mem_of_getElem? h))))))
theorem mT6 {w : Cond} (j : Nat) (h : tables_1_6[j]? = some w) : w ∈ lw_tbl := List.mem_append_right _ (show w ∈ tables_1 from List.mem_append_right _ (List.mem_append_right _ (List.mem_append_right _ (List.mem_append_right _ (List.mem_append_right _ (List.mem_append_left _ (List.mem_of_getElem? h)))))))
theorem mT7 {w : Cond} (j : Nat) (h : tables_1_7[j]? = some w) : w ∈ lw_tbl := List.mem_append_right _ (show w ∈ tables_1 from List.mem_append_right _ (List.mem_append_right _ (List.mem_append_right _ (List.mem_append_right _ (List.mem_append_right _ (List.mem_append_right _ (List.mem_append_left _ (List.mem_of_getElem? h))))))))
theorem mT8 {w : Cond} (j : Nat) (h : tables_1_8[j]? = some w) : w ∈ lw_tbl := List.mem_append_right _ (show w ∈ tables_1 from List.mem_append_right _ (List.mem_append_right _ (List.mem_append_right _ (List.mem_append_right _ (List.mem_append_right _ (List.mem_append_right _ (List.mem_append_right _ (List.mem_of_getElem? h))))))))
set_option maxRecDepth 10000 in
theorem mP1 {q : MethodName × Nat} (j : Nat) (h : lw_privs_1[j]? = some q) : Cond.selects q.1.cls q.1 q.1 ∈ lw_tbl := List.mem_append_left _ (List.mem_map.mpr ⟨q, show q ∈ lw_privs from List.mem_append_left _ (List.mem_of_getElem? h), rfl⟩)
set_option maxRecDepth 10000 in
theorem mP2 {q : MethodName × Nat} (j : Nat) (h : lw_privs_2[j]? = some q) : Cond.selects q.1.cls q.1 q.1 ∈ lw_tbl := List.mem_append_left _ (List.mem_map.mpr ⟨q, show q ∈ lw_privs from List.mem_append_right _ (List.mem_append_left _ (List.mem_of_getElem? h)), rfl⟩)
set_option maxRecDepth 10000 in
theorem mP3 {q : MethodName × Nat} (j : Nat) (h : lw_privs_3[j]? = some q) : Cond.selects q.1.cls q.1 q.1 ∈ lw_tbl := List.mem_append_left _ (List.mem_map.mpr ⟨q, show q ∈ lw_privs from List.mem_append_right _ (List.mem_append_right _ (List.mem_append_left _ (List.mem_of_getElem? h))), rfl⟩)
set_option maxRecDepth 10000 in
theorem mP4 {q : MethodName × Nat} (j : Nat) (h : lw_privs_4[j]? = some q) : Cond.selects q.1.cls q.1 q.1 ∈ lw_tbl := List.mem_append_left _ (List.mem_map.mpr ⟨q, show q ∈ lw_privs from List.mem_append_right _ (List.mem_append_right _ (List.mem_append_right _ (List.mem_append_left _ (List.mem_of_getElem? h)))), rfl⟩)
set_option maxRecDepth 10000 in
theorem mP5 {q : MethodName × Nat} (j : Nat) (h : lw_privs_5[j]? = some q) : Cond.selects q.1.cls q.1 q.1 ∈ lw_tbl := List.mem_append_left _ (List.mem_map.mpr ⟨q, show q ∈ lw_privs from List.mem_append_right _ (List.mem_append_right _ (List.mem_append_right _ (List.mem_append_right _ (List.mem_append_left _ (List.mem_of_getElem? h))))), rfl⟩)
set_option maxRecDepth 10000 in
theorem mP6 {q : MethodName × Nat} (j : Nat) (h : lw_privs_6[j]? = some q) : Cond.selects q.1.cls q.1 q.1 ∈ lw_tbl := List.mem_append_left _ (List.mem_map.mpr ⟨q, show q ∈ lw_privs from List.mem_append_right _ (List.mem_append_right _ (List.mem_append_right _ (List.mem_append_right _ (List.mem_append_right _ (List.mem_append_left _ (List.mem_of_getElem? h)))))), rfl⟩)
set_option maxRecDepth 10000 in
theorem mP7 {q : MethodName × Nat} (j : Nat) (h : lw_privs_7[j]? = some q) : Cond.selects q.1.cls q.1 q.1 ∈ lw_tbl := List.mem_append_left _ (List.mem_map.mpr ⟨q, show q ∈ lw_privs from List.mem_append_right _ (List.mem_append_right _ (List.mem_append_right _ (List.mem_append_right _ (List.mem_append_right _ (List.mem_append_right _ (List.mem_append_left _ (List.mem_of_getElem? h))))))), rfl⟩)
set_option maxRecDepth 10000 in
theorem mP8 {q : MethodName × Nat} (j : Nat) (h : lw_privs_8[j]? = some q) : Cond.selects q.1.cls q.1 q.1 ∈ lw_tbl := List.mem_append_left _ (List.mem_map.mpr ⟨q, show q ∈ lw_privs from List.mem_append_right _ (List.mem_append_right _ (List.mem_append_right _ (List.mem_append_right _ (List.mem_append_right _ (List.mem_append_right _ (List.mem_append_right _ (List.mem_append_left _ (List.mem_of_getElem? h)))))))), rfl⟩)
set_option maxRecDepth 10000 in
theorem mP9 {q : MethodName × Nat} (j : Nat) (h : lw_privs_9[j]? = some q) : Cond.selects q.1.cls q.1 q.1 ∈ lw_tbl := List.mem_append_left _ (List.mem_map.mpr ⟨q, show q ∈ lw_privs from List.mem_append_right _ (List.mem_append_right _ (List.mem_append_right _ (List.mem_append_right _ (List.mem_append_right _ (List.mem_append_right _ (List.mem_append_right _ (List.mem_append_right _ (List.mem_append_left _ (List.mem_of_getElem? h))))))))), rfl⟩)
set_option maxRecDepth 10000 in
theorem mP10 {q : MethodName × Nat} (j : Nat) (h : lw_privs_10[j]? = some q) : Cond.selects q.1.cls q.1 q.1 ∈ lw_tbl := List.mem_append_left _ (List.mem_map.mpr ⟨q, show q ∈ lw_privs from List.mem_append_right _ (List.mem_append_right _ (List.mem_append_right _ (List.mem_append_right _ (List.mem_append_right _ (List.mem_append_right _ (List.mem_append_right _ (List.mem_append_right _ (List.mem_append_right _ (List.mem_append_left _ (List.mem_of_getElem? h)))))))))), rfl⟩)
set_option maxRecDepth 10000 in
theorem mP11 {q : MethodName × Nat} (j : Nat) (h : lw_privs_11[j]? = some q) : Cond.selects q.1.cls q.1 q.1 ∈ lw_tbl := List.mem_append_left _ (List.mem_map.mpr ⟨q, show q ∈ lw_privs from List.mem_append_right _ (List.mem_append_right _ (List.mem_append_right _ (List.mem_append_right _ (List.mem_append_right _ (List.mem_append_right _ (List.mem_append_right _ (List.mem_append_right _ (List.mem_append_right _ (List.mem_append_right _ (List.mem_of_getElem? h)))))))))), rfl⟩)
theorem mG {w : Cond} (h : w ∈ lw_tbl) (hg : goodWord w = true) : w ∈ tbG := List.mem_filter.mpr ⟨h, hg⟩
theorem mN {w : Cond} (h : w ∈ lw_tbl) (hg : isNest w = true) : w ∈ tbN := List.mem_filter.mpr ⟨h, hg⟩
abbrev y_T_clear : MI := (⟨"LieOfTwo$Town", "clear", "()V"⟩, prog_10_method_2_code, 2, none, none)
def t_T_clear : List (Nat × Instr × Nat) := [(0, (.aload_n 0), 1), (1, (.iconst 0), 1), (2, (.putfield 49), 3), (5, (.aload_n 0), 1), (6, (.iconst 0), 1), (7, (.putfield 53), 3), (10, (.aload_n 0), 1), (11, (.iconst 0), 1), (12, (.putfield 56), 3), (15, (.aload_n 0), 1), (16, (.iconst 0), 1), (17, (.putfield 59), 3), (20, (.aload_n 0), 1), (21, (.iconst 0), 1), (22, (.putfield 62), 3), (25, (.aload_n 0), 1), (26, (.iconst 0), 1), (27, (.putfield 65), 3), (30, (.iconst 0), 1), (31, (.istore_n 1), 1), (32, (.iload_n 1), 1), (33, (.bipush 8), 2), (35, (.if_icmp .ge 16), 3), (38, (.aload_n 0), 1), (39, (.getfield 18), 3), (42, (.iload_n 1), 1), (43, (.iconst 0), 1), (44, .iastore, 1), (45, (.iinc 1 1), 3), (48, (.goto (-16)), 3), (51, (.iconst 0), 1), (52, (.istore_n 1), 1), (53, (.iload_n 1), 1), (54, (.bipush 96), 2), (56, (.if_icmp .ge 16), 3), (59, (.aload_n 0), 1), (60, (.getfield 30), 3), (63, (.iload_n 1), 1), (64, (.iconst (-1)), 1), (65, .iastore, 1), (66, (.iinc 1 1), 3), (69, (.goto (-16)), 3), (72, .return_, 1)]
set_option maxRecDepth 10000 in
theorem wc_T_clear : Cond.code y_T_clear.1 y_T_clear.2.1 y_T_clear.2.2.1 y_T_clear.2.2.2.1 ∈ tbG := mG (mT1 37 rfl) rfl
set_option maxRecDepth 10000 in
theorem wi_T_clear : Cond.instanceMethod y_T_clear.1 ∈ tbG := mG (mT1 36 rfl) rfl
set_option maxRecDepth 10000 in
theorem wl_T_clear : Cond.selects y_T_clear.1.cls y_T_clear.1 y_T_clear.1 ∈ tbG := mG (mP1 (q := (_, 19)) 0 rfl) rfl
abbrev y_K_spell : MI := (⟨"LieOfTwo$Tokens", "spell", "(JI)J"⟩, prog_9_method_2_code, 3, (some .long), none)
def t_K_spell : List (Nat × Instr × Nat) := [(0, (.lload_n 0), 1), (1, (.ldc2_w 39), 3), (4, .lmul, 1), (5, (.iload_n 2), 1), (6, (.bipush 97), 2), (8, .isub, 1), (9, (.iconst 1), 1), (10, .iadd, 1), (11, .i2l, 1), (12, .ladd, 1), (13, .lreturn, 1)]
set_option maxRecDepth 10000 in
theorem wc_K_spell : Cond.code y_K_spell.1 y_K_spell.2.1 y_K_spell.2.2.1 y_K_spell.2.2.2.1 ∈ tbG := mG (mT1 223 rfl) rfl
set_option maxRecDepth 10000 in
theorem ws_K_spell : Cond.static y_K_spell.1 ∈ tbG := mG (mT1 222 rfl) rfl
abbrev y_K_isBlank : MI := (⟨"LieOfTwo$Tokens", "isBlank", "(I)Z"⟩, prog_9_method_6_code, 1, (some .boolean), none)
def t_K_isBlank : List (Nat × Instr × Nat) := [(0, (.iload_n 0), 1), (1, (.bipush 32), 2), (3, (.if_icmp .eq 9), 3), (6, (.iload_n 0), 1), (7, (.bipush 10), 2), (9, (.if_icmp .ne 7), 3), (12, (.iconst 1), 1), (13, (.goto 4), 3), (16, (.iconst 0), 1), (17, .ireturn, 1)]
set_option maxRecDepth 10000 in
theorem wc_K_isBlank : Cond.code y_K_isBlank.1 y_K_isBlank.2.1 y_K_isBlank.2.2.1 y_K_isBlank.2.2.2.1 ∈ tbG := mG (mT3 0 rfl) rfl
set_option maxRecDepth 10000 in
theorem ws_K_isBlank : Cond.static y_K_isBlank.1 ∈ tbG := mG (mT2 239 rfl) rfl
abbrev y_K_isLetter : MI := (⟨"LieOfTwo$Tokens", "isLetter", "(I)Z"⟩, prog_9_method_7_code, 1, (some .boolean), none)
def t_K_isLetter : List (Nat × Instr × Nat) := [(0, (.iload_n 0), 1), (1, (.bipush 97), 2), (3, (.if_icmp .lt 13), 3), (6, (.iload_n 0), 1), (7, (.bipush 122), 2), (9, (.if_icmp .gt 7), 3), (12, (.iconst 1), 1), (13, (.goto 4), 3), (16, (.iconst 0), 1), (17, .ireturn, 1)]
set_option maxRecDepth 10000 in
theorem wc_K_isLetter : Cond.code y_K_isLetter.1 y_K_isLetter.2.1 y_K_isLetter.2.2.1 y_K_isLetter.2.2.2.1 ∈ tbG := mG (mT3 3 rfl) rfl
set_option maxRecDepth 10000 in
theorem ws_K_isLetter : Cond.static y_K_isLetter.1 ∈ tbG := mG (mT3 2 rfl) rfl
abbrev y_K_fail : MI := (⟨"LieOfTwo$Tokens", "fail", "(I)V"⟩, prog_9_method_12_code, 2, none, none)
def t_K_fail : List (Nat × Instr × Nat) := [(0, (.aload_n 0), 1), (1, (.getfield 49), 3), (4, (.bipush 24), 2), (6, (.if_icmp .eq 22), 3), (9, (.aload_n 0), 1), (10, (.bipush 24), 2), (12, (.putfield 49), 3), (15, (.aload_n 0), 1), (16, (.iload_n 1), 1), (17, (.putfield 46), 3), (20, (.aload_n 0), 1), (21, (.aload_n 0), 1), (22, (.getfield 59), 3), (25, (.putfield 15), 3), (28, .return_, 1)]
set_option maxRecDepth 10000 in
theorem wc_K_fail : Cond.code y_K_fail.1 y_K_fail.2.1 y_K_fail.2.2.1 y_K_fail.2.2.2.1 ∈ tbG := mG (mT3 11 rfl) rfl
set_option maxRecDepth 10000 in
theorem wi_K_fail : Cond.instanceMethod y_K_fail.1 ∈ tbG := mG (mT3 10 rfl) rfl
set_option maxRecDepth 10000 in
theorem wl_K_fail : Cond.selects y_K_fail.1.cls y_K_fail.1 y_K_fail.1 ∈ tbG := mG (mP1 (q := (_, 10)) 5 rfl) rfl
abbrev y_K_readWord : MI := (⟨"LieOfTwo$Tokens", "readWord", "()V"⟩, prog_9_method_10_code, 2, none, none)
def t_K_readWord : List (Nat × Instr × Nat) := [(0, (.aload_n 0), 1), (1, (.lconst 0), 1), (2, (.putfield 81), 3), (5, (.aload_n 0), 1), (6, (.getfield 43), 3), (9, (.aload_n 0), 1), (10, (.getfield 41), 3), (13, (.if_icmp .ge 51), 3), (16, (.aload_n 0), 1), (17, (.getfield 19), 3), (20, (.aload_n 0), 1), (21, (.getfield 43), 3), (24, .baload, 1), (25, (.invokestatic 62), 3), (28, (.ifCond .eq 36), 3), (31, (.aload_n 0), 1), (32, (.aload_n 0), 1), (33, (.getfield 81), 3), (36, (.aload_n 0), 1), (37, (.getfield 19), 3), (40, (.aload_n 0), 1), (41, (.getfield 43), 3), (44, .baload, 1), (45, (.invokestatic 35), 3), (48, (.putfield 81), 3), (51, (.aload_n 0), 1), (52, .dup, 1), (53, (.getfield 43), 3), (56, (.iconst 1), 1), (57, .iadd, 1), (58, (.putfield 43), 3), (61, (.goto (-56)), 3), (64, (.aload_n 0), 1), (65, (.getfield 43), 3), (68, (.aload_n 0), 1), (69, (.getfield 59), 3), (72, .isub, 1), (73, (.bipush 8), 2), (75, (.if_icmp .le 9), 3), (78, (.aload_n 0), 1), (79, (.iconst 1), 1), (80, (.invokevirtual 77), 3), (83, .return_, 1), (84, (.aload_n 0), 1), (85, (.bipush 21), 2), (87, (.putfield 49), 3), (90, (.iconst 0), 1), (91, (.istore_n 1), 1), (92, (.iload_n 1), 1), (93, (.bipush 20), 2), (95, (.if_icmp .ge 30), 3), (98, (.aload_n 0), 1), (99, (.getfield 9), 3), (102, (.iload_n 1), 1), (103, .laload, 1), (104, (.aload_n 0), 1), (105, (.getfield 81), 3), (108, .lcmp, 1), (109, (.ifCond .ne 10), 3), (112, (.aload_n 0), 1), (113, (.iload_n 1), 1), (114, (.iconst 1), 1), (115, .iadd, 1), (116, (.putfield 49), 3), (119, (.iinc 1 1), 3), (122, (.goto (-30)), 3), (125, .return_, 1)]
set_option maxRecDepth 10000 in
theorem wc_K_readWord : Cond.code y_K_readWord.1 y_K_readWord.2.1 y_K_readWord.2.2.1 y_K_readWord.2.2.2.1 ∈ tbG := mG (mT3 7 rfl) rfl
set_option maxRecDepth 10000 in
theorem wi_K_readWord : Cond.instanceMethod y_K_readWord.1 ∈ tbG := mG (mT3 6 rfl) rfl
set_option maxRecDepth 10000 in
theorem wl_K_readWord : Cond.selects y_K_readWord.1.cls y_K_readWord.1 y_K_readWord.1 ∈ tbG := mG (mP1 (q := (_, 10)) 4 rfl) rfl
abbrev y_K_isDigit : MI := (⟨"LieOfTwo$Tokens", "isDigit", "(I)Z"⟩, prog_9_method_8_code, 1, (some .boolean), none)
def t_K_isDigit : List (Nat × Instr × Nat) := [(0, (.iload_n 0), 1), (1, (.bipush 48), 2), (3, (.if_icmp .lt 13), 3), (6, (.iload_n 0), 1), (7, (.bipush 57), 2), (9, (.if_icmp .gt 7), 3), (12, (.iconst 1), 1), (13, (.goto 4), 3), (16, (.iconst 0), 1), (17, .ireturn, 1)]
set_option maxRecDepth 10000 in
theorem wc_K_isDigit : Cond.code y_K_isDigit.1 y_K_isDigit.2.1 y_K_isDigit.2.2.1 y_K_isDigit.2.2.2.1 ∈ tbG := mG (mT3 14 rfl) rfl
set_option maxRecDepth 10000 in
theorem ws_K_isDigit : Cond.static y_K_isDigit.1 ∈ tbG := mG (mT3 13 rfl) rfl
abbrev y_K_readNumber : MI := (⟨"LieOfTwo$Tokens", "readNumber", "()V"⟩, prog_9_method_11_code, 1, none, none)
def t_K_readNumber : List (Nat × Instr × Nat) := [(0, (.aload_n 0), 1), (1, (.iconst 0), 1), (2, (.putfield 85), 3), (5, (.aload_n 0), 1), (6, (.getfield 43), 3), (9, (.aload_n 0), 1), (10, (.getfield 41), 3), (13, (.if_icmp .ge 55), 3), (16, (.aload_n 0), 1), (17, (.getfield 19), 3), (20, (.aload_n 0), 1), (21, (.getfield 43), 3), (24, .baload, 1), (25, (.invokestatic 68), 3), (28, (.ifCond .eq 40), 3), (31, (.aload_n 0), 1), (32, (.aload_n 0), 1), (33, (.getfield 85), 3), (36, (.bipush 10), 2), (38, .imul, 1), (39, (.aload_n 0), 1), (40, (.getfield 19), 3), (43, (.aload_n 0), 1), (44, (.getfield 43), 3), (47, .baload, 1), (48, (.bipush 48), 2), (50, .isub, 1), (51, .iadd, 1), (52, (.putfield 85), 3), (55, (.aload_n 0), 1), (56, .dup, 1), (57, (.getfield 43), 3), (60, (.iconst 1), 1), (61, .iadd, 1), (62, (.putfield 43), 3), (65, (.goto (-60)), 3), (68, (.aload_n 0), 1), (69, (.getfield 43), 3), (72, (.aload_n 0), 1), (73, (.getfield 59), 3), (76, .isub, 1), (77, (.iconst 4), 1), (78, (.if_icmp .gt 29), 3), (81, (.aload_n 0), 1), (82, (.getfield 43), 3), (85, (.aload_n 0), 1), (86, (.getfield 41), 3), (89, (.if_icmp .ge 24), 3), (92, (.aload_n 0), 1), (93, (.getfield 19), 3), (96, (.aload_n 0), 1), (97, (.getfield 43), 3), (100, .baload, 1), (101, (.invokestatic 62), 3), (104, (.ifCond .eq 9), 3), (107, (.aload_n 0), 1), (108, (.iconst 1), 1), (109, (.invokevirtual 77), 3), (112, .return_, 1), (113, (.aload_n 0), 1), (114, (.bipush 22), 2), (116, (.putfield 49), 3), (119, .return_, 1)]
set_option maxRecDepth 10000 in
theorem wc_K_readNumber : Cond.code y_K_readNumber.1 y_K_readNumber.2.1 y_K_readNumber.2.2.1 y_K_readNumber.2.2.2.1 ∈ tbG := mG (mT3 18 rfl) rfl
set_option maxRecDepth 10000 in
theorem wi_K_readNumber : Cond.instanceMethod y_K_readNumber.1 ∈ tbG := mG (mT3 17 rfl) rfl
set_option maxRecDepth 10000 in
theorem wl_K_readNumber : Cond.selects y_K_readNumber.1.cls y_K_readNumber.1 y_K_readNumber.1 ∈ tbG := mG (mP1 (q := (_, 10)) 6 rfl) rfl
abbrev y_K_isSign : MI := (⟨"LieOfTwo$Tokens", "isSign", "(I)Z"⟩, prog_9_method_9_code, 1, (some .boolean), none)
def t_K_isSign : List (Nat × Instr × Nat) := [(0, (.iload_n 0), 1), (1, (.bipush 59), 2), (3, (.if_icmp .eq 45), 3), (6, (.iload_n 0), 1), (7, (.bipush 40), 2), (9, (.if_icmp .eq 39), 3), (12, (.iload_n 0), 1), (13, (.bipush 41), 2), (15, (.if_icmp .eq 33), 3), (18, (.iload_n 0), 1), (19, (.bipush 60), 2), (21, (.if_icmp .eq 27), 3), (24, (.iload_n 0), 1), (25, (.bipush 62), 2), (27, (.if_icmp .eq 21), 3), (30, (.iload_n 0), 1), (31, (.bipush 61), 2), (33, (.if_icmp .eq 15), 3), (36, (.iload_n 0), 1), (37, (.bipush 43), 2), (39, (.if_icmp .eq 9), 3), (42, (.iload_n 0), 1), (43, (.bipush 45), 2), (45, (.if_icmp .ne 7), 3), (48, (.iconst 1), 1), (49, (.goto 4), 3), (52, (.iconst 0), 1), (53, .ireturn, 1)]
set_option maxRecDepth 10000 in
theorem wc_K_isSign : Cond.code y_K_isSign.1 y_K_isSign.2.1 y_K_isSign.2.2.1 y_K_isSign.2.2.2.1 ∈ tbG := mG (mT3 21 rfl) rfl
set_option maxRecDepth 10000 in
theorem ws_K_isSign : Cond.static y_K_isSign.1 ∈ tbG := mG (mT3 20 rfl) rfl
abbrev y_K_pass : MI := (⟨"LieOfTwo$Tokens", "pass", "()V"⟩, prog_9_method_5_code, 1, none, none)
def t_K_pass : List (Nat × Instr × Nat) := [(0, (.aload_n 0), 1), (1, (.getfield 49), 3), (4, (.bipush 24), 2), (6, (.if_icmp .ne 4), 3), (9, .return_, 1), (10, (.aload_n 0), 1), (11, (.getfield 43), 3), (14, (.aload_n 0), 1), (15, (.getfield 41), 3), (18, (.if_icmp .ge 31), 3), (21, (.aload_n 0), 1), (22, (.getfield 19), 3), (25, (.aload_n 0), 1), (26, (.getfield 43), 3), (29, .baload, 1), (30, (.invokestatic 55), 3), (33, (.ifCond .eq 16), 3), (36, (.aload_n 0), 1), (37, .dup, 1), (38, (.getfield 43), 3), (41, (.iconst 1), 1), (42, .iadd, 1), (43, (.putfield 43), 3), (46, (.goto (-36)), 3), (49, (.aload_n 0), 1), (50, (.aload_n 0), 1), (51, (.getfield 43), 3), (54, (.putfield 59), 3), (57, (.aload_n 0), 1), (58, (.getfield 43), 3), (61, (.aload_n 0), 1), (62, (.getfield 41), 3), (65, (.if_icmp .lt 12), 3), (68, (.aload_n 0), 1), (69, (.bipush 23), 2), (71, (.putfield 49), 3), (74, (.goto 93), 3), (77, (.aload_n 0), 1), (78, (.getfield 19), 3), (81, (.aload_n 0), 1), (82, (.getfield 43), 3), (85, .baload, 1), (86, (.invokestatic 62), 3), (89, (.ifCond .eq 10), 3), (92, (.aload_n 0), 1), (93, (.invokevirtual 65), 3), (96, (.goto 71), 3), (99, (.aload_n 0), 1), (100, (.getfield 19), 3), (103, (.aload_n 0), 1), (104, (.getfield 43), 3), (107, .baload, 1), (108, (.invokestatic 68), 3), (111, (.ifCond .eq 10), 3), (114, (.aload_n 0), 1), (115, (.invokevirtual 71), 3), (118, (.goto 49), 3), (121, (.aload_n 0), 1), (122, (.getfield 19), 3), (125, (.aload_n 0), 1), (126, (.getfield 43), 3), (129, .baload, 1), (130, (.invokestatic 74), 3), (133, (.ifCond .eq 29), 3), (136, (.aload_n 0), 1), (137, (.aload_n 0), 1), (138, (.getfield 19), 3), (141, (.aload_n 0), 1), (142, (.getfield 43), 3), (145, .baload, 1), (146, (.putfield 49), 3), (149, (.aload_n 0), 1), (150, .dup, 1), (151, (.getfield 43), 3), (154, (.iconst 1), 1), (155, .iadd, 1), (156, (.putfield 43), 3), (159, (.goto 8), 3), (162, (.aload_n 0), 1), (163, (.iconst 1), 1), (164, (.invokevirtual 77), 3), (167, .return_, 1)]
set_option maxRecDepth 10000 in
theorem wc_K_pass : Cond.code y_K_pass.1 y_K_pass.2.1 y_K_pass.2.2.1 y_K_pass.2.2.2.1 ∈ tbG := mG (mT2 237 rfl) rfl
set_option maxRecDepth 10000 in
theorem wi_K_pass : Cond.instanceMethod y_K_pass.1 ∈ tbG := mG (mT2 236 rfl) rfl
set_option maxRecDepth 10000 in
theorem wl_K_pass : Cond.selects y_K_pass.1.cls y_K_pass.1 y_K_pass.1 ∈ tbG := mG (mP1 (q := (_, 10)) 3 rfl) rfl
abbrev y_K_start : MI := (⟨"LieOfTwo$Tokens", "start", "(I)V"⟩, prog_9_method_3_code, 2, none, none)
def t_K_start : List (Nat × Instr × Nat) := [(0, (.aload_n 0), 1), (1, (.iload_n 1), 1), (2, (.putfield 41), 3), (5, (.aload_n 0), 1), (6, (.iconst 0), 1), (7, (.putfield 43), 3), (10, (.aload_n 0), 1), (11, (.iconst 0), 1), (12, (.putfield 46), 3), (15, (.aload_n 0), 1), (16, (.iconst (-1)), 1), (17, (.putfield 15), 3), (20, (.aload_n 0), 1), (21, (.bipush 23), 2), (23, (.putfield 49), 3), (26, (.aload_n 0), 1), (27, (.invokevirtual 52), 3), (30, .return_, 1)]
set_option maxRecDepth 10000 in
theorem wc_K_start : Cond.code y_K_start.1 y_K_start.2.1 y_K_start.2.2.1 y_K_start.2.2.2.1 ∈ tbG := mG (mT2 233 rfl) rfl
set_option maxRecDepth 10000 in
theorem wi_K_start : Cond.instanceMethod y_K_start.1 ∈ tbG := mG (mT2 232 rfl) rfl
set_option maxRecDepth 10000 in
theorem wl_K_start : Cond.selects y_K_start.1.cls y_K_start.1 y_K_start.1 ∈ tbG := mG (mP1 (q := (_, 10)) 2 rfl) rfl
abbrev y_K_goesOn : MI := (⟨"LieOfTwo$Tokens", "goesOn", "()Z"⟩, prog_9_method_4_code, 1, (some .boolean), none)
def t_K_goesOn : List (Nat × Instr × Nat) := [(0, (.aload_n 0), 1), (1, (.getfield 49), 3), (4, (.bipush 23), 2), (6, (.if_icmp .eq 16), 3), (9, (.aload_n 0), 1), (10, (.getfield 49), 3), (13, (.bipush 24), 2), (15, (.if_icmp .eq 7), 3), (18, (.iconst 1), 1), (19, (.goto 4), 3), (22, (.iconst 0), 1), (23, .ireturn, 1)]
set_option maxRecDepth 10000 in
theorem wc_K_goesOn : Cond.code y_K_goesOn.1 y_K_goesOn.2.1 y_K_goesOn.2.2.1 y_K_goesOn.2.2.2.1 ∈ tbG := mG (mT3 25 rfl) rfl
set_option maxRecDepth 10000 in
theorem wi_K_goesOn : Cond.instanceMethod y_K_goesOn.1 ∈ tbG := mG (mT3 24 rfl) rfl
set_option maxRecDepth 10000 in
theorem wl_K_goesOn : Cond.selects y_K_goesOn.1.cls y_K_goesOn.1 y_K_goesOn.1 ∈ tbG := mG (mP1 (q := (_, 10)) 7 rfl) rfl
abbrev y_N_begin : MI := (⟨"LieOfTwo$Lines", "begin", "(Z)V"⟩, prog_5_method_3_code, 2, none, none)
def t_N_begin : List (Nat × Instr × Nat) := [(0, (.iload_n 1), 1), (1, (.ifCond .eq 13), 3), (4, (.aload_n 0), 1), (5, (.getfield 50), 3), (8, (.invokevirtual 109), 3), (11, (.goto 11), 3), (14, (.aload_n 0), 1), (15, (.getfield 50), 3), (18, (.iconst 2), 1), (19, (.invokevirtual 106), 3), (22, .return_, 1)]
set_option maxRecDepth 10000 in
theorem wc_N_begin : Cond.code y_N_begin.1 y_N_begin.2.1 y_N_begin.2.2.1 y_N_begin.2.2.2.1 ∈ tbG := mG (mT3 33 rfl) rfl
set_option maxRecDepth 10000 in
theorem wi_N_begin : Cond.instanceMethod y_N_begin.1 ∈ tbG := mG (mT3 32 rfl) rfl
set_option maxRecDepth 10000 in
theorem wl_N_begin : Cond.selects y_N_begin.1.cls y_N_begin.1 y_N_begin.1 ∈ tbG := mG (mP1 (q := (_, 17)) 9 rfl) rfl
abbrev y_N_seesName : MI := (⟨"LieOfTwo$Lines", "seesName", "()Z"⟩, prog_5_method_4_code, 1, (some .boolean), none)
def t_N_seesName : List (Nat × Instr × Nat) := [(0, (.aload_n 0), 1), (1, (.getfield 50), 3), (4, (.getfield 82), 3), (7, (.bipush 21), 2), (9, (.if_icmp .eq 11), 3), (12, (.aload_n 0), 1), (13, (.getfield 50), 3), (16, (.iconst 2), 1), (17, (.invokevirtual 106), 3), (20, (.aload_n 0), 1), (21, (.getfield 50), 3), (24, (.getfield 82), 3), (27, (.bipush 21), 2), (29, (.if_icmp .ne 7), 3), (32, (.iconst 1), 1), (33, (.goto 4), 3), (36, (.iconst 0), 1), (37, .ireturn, 1)]
set_option maxRecDepth 10000 in
theorem wc_N_seesName : Cond.code y_N_seesName.1 y_N_seesName.2.1 y_N_seesName.2.2.1 y_N_seesName.2.2.2.1 ∈ tbG := mG (mT3 43 rfl) rfl
set_option maxRecDepth 10000 in
theorem wi_N_seesName : Cond.instanceMethod y_N_seesName.1 ∈ tbG := mG (mT3 42 rfl) rfl
set_option maxRecDepth 10000 in
theorem wl_N_seesName : Cond.selects y_N_seesName.1.cls y_N_seesName.1 y_N_seesName.1 ∈ tbG := mG (mP1 (q := (_, 17)) 11 rfl) rfl
abbrev y_N_find : MI := (⟨"LieOfTwo$Lines", "find", "([JI)I"⟩, prog_5_method_5_code, 4, (some .int), none)
def t_N_find : List (Nat × Instr × Nat) := [(0, (.iconst 0), 1), (1, (.istore_n 3), 1), (2, (.iload_n 3), 1), (3, (.iload_n 2), 1), (4, (.if_icmp .ge 25), 3), (7, (.aload_n 1), 1), (8, (.iload_n 3), 1), (9, .laload, 1), (10, (.aload_n 0), 1), (11, (.getfield 50), 3), (14, (.getfield 112), 3), (17, .lcmp, 1), (18, (.ifCond .ne 5), 3), (21, (.iload_n 3), 1), (22, .ireturn, 1), (23, (.iinc 3 1), 3), (26, (.goto (-24)), 3), (29, (.iconst (-1)), 1), (30, .ireturn, 1)]
set_option maxRecDepth 10000 in
theorem wc_N_find : Cond.code y_N_find.1 y_N_find.2.1 y_N_find.2.2.1 y_N_find.2.2.2.1 ∈ tbG := mG (mT3 51 rfl) rfl
set_option maxRecDepth 10000 in
theorem wi_N_find : Cond.instanceMethod y_N_find.1 ∈ tbG := mG (mT3 50 rfl) rfl
set_option maxRecDepth 10000 in
theorem wl_N_find : Cond.selects y_N_find.1.cls y_N_find.1 y_N_find.1 ∈ tbG := mG (mP1 (q := (_, 17)) 13 rfl) rfl
abbrev y_N_findFact : MI := (⟨"LieOfTwo$Lines", "findFact", "()I"⟩, prog_5_method_8_code, 1, (some .int), none)
def t_N_findFact : List (Nat × Instr × Nat) := [(0, (.aload_n 0), 1), (1, (.aload_n 0), 1), (2, (.getfield 18), 3), (5, (.aload_n 0), 1), (6, (.getfield 54), 3), (9, (.getfield 130), 3), (12, (.invokevirtual 133), 3), (15, .ireturn, 1)]
set_option maxRecDepth 10000 in
theorem wc_N_findFact : Cond.code y_N_findFact.1 y_N_findFact.2.1 y_N_findFact.2.2.1 y_N_findFact.2.2.2.1 ∈ tbG := mG (mT3 47 rfl) rfl
set_option maxRecDepth 10000 in
theorem wi_N_findFact : Cond.instanceMethod y_N_findFact.1 ∈ tbG := mG (mT3 46 rfl) rfl
set_option maxRecDepth 10000 in
theorem wl_N_findFact : Cond.selects y_N_findFact.1.cls y_N_findFact.1 y_N_findFact.1 ∈ tbG := mG (mP1 (q := (_, 17)) 12 rfl) rfl
abbrev y_N_findRow : MI := (⟨"LieOfTwo$Lines", "findRow", "()I"⟩, prog_5_method_9_code, 1, (some .int), none)
def t_N_findRow : List (Nat × Instr × Nat) := [(0, (.aload_n 0), 1), (1, (.aload_n 0), 1), (2, (.getfield 25), 3), (5, (.aload_n 0), 1), (6, (.getfield 54), 3), (9, (.getfield 137), 3), (12, (.invokevirtual 133), 3), (15, .ireturn, 1)]
set_option maxRecDepth 10000 in
theorem wc_N_findRow : Cond.code y_N_findRow.1 y_N_findRow.2.1 y_N_findRow.2.2.1 y_N_findRow.2.2.2.1 ∈ tbG := mG (mT3 55 rfl) rfl
set_option maxRecDepth 10000 in
theorem wi_N_findRow : Cond.instanceMethod y_N_findRow.1 ∈ tbG := mG (mT3 54 rfl) rfl
set_option maxRecDepth 10000 in
theorem wl_N_findRow : Cond.selects y_N_findRow.1.cls y_N_findRow.1 y_N_findRow.1 ∈ tbG := mG (mP1 (q := (_, 17)) 14 rfl) rfl
abbrev y_N_takeName : MI := (⟨"LieOfTwo$Lines", "takeName", "()J"⟩, prog_5_method_7_code, 3, (some .long), none)
def t_N_takeName : List (Nat × Instr × Nat) := [(0, (.aload_n 0), 1), (1, (.getfield 50), 3), (4, (.getfield 112), 3), (7, (.lstore_n 1), 1), (8, (.aload_n 0), 1), (9, (.getfield 50), 3), (12, (.invokevirtual 109), 3), (15, (.lload_n 1), 1), (16, .lreturn, 1)]
set_option maxRecDepth 10000 in
theorem wc_N_takeName : Cond.code y_N_takeName.1 y_N_takeName.2.1 y_N_takeName.2.2.1 y_N_takeName.2.2.2.1 ∈ tbG := mG (mT3 59 rfl) rfl
set_option maxRecDepth 10000 in
theorem wi_N_takeName : Cond.instanceMethod y_N_takeName.1 ∈ tbG := mG (mT3 58 rfl) rfl
set_option maxRecDepth 10000 in
theorem wl_N_takeName : Cond.selects y_N_takeName.1.cls y_N_takeName.1 y_N_takeName.1 ∈ tbG := mG (mP1 (q := (_, 17)) 15 rfl) rfl
abbrev y_N_readNewOfFactsAndRows : MI := (⟨"LieOfTwo$Lines", "readNewOfFactsAndRows", "()J"⟩, prog_5_method_6_code, 1, (some .long), none)
def t_N_readNewOfFactsAndRows : List (Nat × Instr × Nat) := [(0, (.aload_n 0), 1), (1, (.invokevirtual 116), 3), (4, (.ifCond .eq 27), 3), (7, (.aload_n 0), 1), (8, (.invokevirtual 119), 3), (11, (.iconst (-1)), 1), (12, (.if_icmp .ne 11), 3), (15, (.aload_n 0), 1), (16, (.invokevirtual 123), 3), (19, (.iconst (-1)), 1), (20, (.if_icmp .eq 11), 3), (23, (.aload_n 0), 1), (24, (.getfield 50), 3), (27, (.iconst 3), 1), (28, (.invokevirtual 106), 3), (31, (.aload_n 0), 1), (32, (.invokevirtual 126), 3), (35, .lreturn, 1)]
set_option maxRecDepth 10000 in
theorem wc_N_readNewOfFactsAndRows : Cond.code y_N_readNewOfFactsAndRows.1 y_N_readNewOfFactsAndRows.2.1 y_N_readNewOfFactsAndRows.2.2.1 y_N_readNewOfFactsAndRows.2.2.2.1 ∈ tbG := mG (mT3 39 rfl) rfl
set_option maxRecDepth 10000 in
theorem wi_N_readNewOfFactsAndRows : Cond.instanceMethod y_N_readNewOfFactsAndRows.1 ∈ tbG := mG (mT3 38 rfl) rfl
set_option maxRecDepth 10000 in
theorem wl_N_readNewOfFactsAndRows : Cond.selects y_N_readNewOfFactsAndRows.1.cls y_N_readNewOfFactsAndRows.1 y_N_readNewOfFactsAndRows.1 ∈ tbG := mG (mP1 (q := (_, 17)) 10 rfl) rfl
abbrev y_K_expect : MI := (⟨"LieOfTwo$Tokens", "expect", "(I)V"⟩, prog_9_method_13_code, 2, none, none)
def t_K_expect : List (Nat × Instr × Nat) := [(0, (.aload_n 0), 1), (1, (.getfield 49), 3), (4, (.iload_n 1), 1), (5, (.if_icmp .ne 10), 3), (8, (.aload_n 0), 1), (9, (.invokevirtual 52), 3), (12, (.goto 8), 3), (15, (.aload_n 0), 1), (16, (.iconst 2), 1), (17, (.invokevirtual 77), 3), (20, .return_, 1)]
set_option maxRecDepth 10000 in
theorem wc_K_expect : Cond.code y_K_expect.1 y_K_expect.2.1 y_K_expect.2.2.1 y_K_expect.2.2.2.1 ∈ tbG := mG (mT3 63 rfl) rfl
set_option maxRecDepth 10000 in
theorem wi_K_expect : Cond.instanceMethod y_K_expect.1 ∈ tbG := mG (mT3 62 rfl) rfl
set_option maxRecDepth 10000 in
theorem wl_K_expect : Cond.selects y_K_expect.1.cls y_K_expect.1 y_K_expect.1 ∈ tbG := mG (mP2 (q := (_, 10)) 0 rfl) rfl
abbrev y_N_readFact : MI := (⟨"LieOfTwo$Lines", "readFact", "()V"⟩, prog_5_method_12_code, 3, none, none)
def t_N_readFact : List (Nat × Instr × Nat) := [(0, (.aload_n 0), 1), (1, (.aload_n 0), 1), (2, (.getfield 54), 3), (5, (.getfield 130), 3), (8, (.bipush 8), 2), (10, (.if_icmp .ge 7), 3), (13, (.iconst 1), 1), (14, (.goto 4), 3), (17, (.iconst 0), 1), (18, (.invokevirtual 146), 3), (21, (.aload_n 0), 1), (22, (.invokevirtual 150), 3), (25, (.lstore_n 1), 1), (26, (.aload_n 0), 1), (27, (.getfield 50), 3), (30, (.bipush 59), 2), (32, (.invokevirtual 153), 3), (35, (.aload_n 0), 1), (36, (.getfield 50), 3), (39, (.getfield 82), 3), (42, (.bipush 24), 2), (44, (.if_icmp .eq 29), 3), (47, (.aload_n 0), 1), (48, (.getfield 18), 3), (51, (.aload_n 0), 1), (52, (.getfield 54), 3), (55, (.getfield 130), 3), (58, (.lload_n 1), 1), (59, .lastore, 1), (60, (.aload_n 0), 1), (61, (.getfield 54), 3), (64, .dup, 1), (65, (.getfield 130), 3), (68, (.iconst 1), 1), (69, .iadd, 1), (70, (.putfield 130), 3), (73, .return_, 1)]
set_option maxRecDepth 10000 in
theorem wc_N_readFact : Cond.code y_N_readFact.1 y_N_readFact.2.1 y_N_readFact.2.2.1 y_N_readFact.2.2.2.1 ∈ tbG := mG (mT3 29 rfl) rfl
set_option maxRecDepth 10000 in
theorem wi_N_readFact : Cond.instanceMethod y_N_readFact.1 ∈ tbG := mG (mT3 28 rfl) rfl
set_option maxRecDepth 10000 in
theorem wl_N_readFact : Cond.selects y_N_readFact.1.cls y_N_readFact.1 y_N_readFact.1 ∈ tbG := mG (mP1 (q := (_, 17)) 8 rfl) rfl
abbrev y_N_readSmall : MI := (⟨"LieOfTwo$Lines", "readSmall", "()I"⟩, prog_5_method_11_code, 2, (some .int), none)
def t_N_readSmall : List (Nat × Instr × Nat) := [(0, (.aload_n 0), 1), (1, (.getfield 50), 3), (4, (.getfield 82), 3), (7, (.bipush 22), 2), (9, (.if_icmp .eq 14), 3), (12, (.aload_n 0), 1), (13, (.getfield 50), 3), (16, (.iconst 2), 1), (17, (.invokevirtual 106), 3), (20, (.goto 23), 3), (23, (.aload_n 0), 1), (24, (.getfield 50), 3), (27, (.getfield 143), 3), (30, (.bipush 99), 2), (32, (.if_icmp .le 11), 3), (35, (.aload_n 0), 1), (36, (.getfield 50), 3), (39, (.iconst 4), 1), (40, (.invokevirtual 106), 3), (43, (.aload_n 0), 1), (44, (.getfield 50), 3), (47, (.getfield 143), 3), (50, (.istore_n 1), 1), (51, (.aload_n 0), 1), (52, (.getfield 50), 3), (55, (.invokevirtual 109), 3), (58, (.iload_n 1), 1), (59, .ireturn, 1)]
set_option maxRecDepth 10000 in
theorem wc_N_readSmall : Cond.code y_N_readSmall.1 y_N_readSmall.2.1 y_N_readSmall.2.2.1 y_N_readSmall.2.2.2.1 ∈ tbG := mG (mT3 71 rfl) rfl
set_option maxRecDepth 10000 in
theorem wi_N_readSmall : Cond.instanceMethod y_N_readSmall.1 ∈ tbG := mG (mT3 70 rfl) rfl
set_option maxRecDepth 10000 in
theorem wl_N_readSmall : Cond.selects y_N_readSmall.1.cls y_N_readSmall.1 y_N_readSmall.1 ∈ tbG := mG (mP2 (q := (_, 17)) 2 rfl) rfl
abbrev y_X_hasBit : MI := (⟨"LieOfTwo", "hasBit", "(II)Z"⟩, prog_1_method_33_code, 2, (some .boolean), none)
def t_X_hasBit : List (Nat × Instr × Nat) := [(0, (.iload_n 0), 1), (1, (.iload_n 1), 1), (2, .ishr, 1), (3, (.iconst 1), 1), (4, .iand, 1), (5, (.ifCond .eq 7), 3), (8, (.iconst 1), 1), (9, (.goto 4), 3), (12, (.iconst 0), 1), (13, .ireturn, 1)]
set_option maxRecDepth 10000 in
theorem wc_X_hasBit : Cond.code y_X_hasBit.1 y_X_hasBit.2.1 y_X_hasBit.2.2.1 y_X_hasBit.2.2.2.1 ∈ tbG := mG (mT3 82 rfl) rfl
set_option maxRecDepth 10000 in
theorem ws_X_hasBit : Cond.static y_X_hasBit.1 ∈ tbG := mG (mT3 81 rfl) rfl
abbrev y_N_readFactBit : MI := (⟨"LieOfTwo$Lines", "readFactBit", "(I)I"⟩, prog_5_method_15_code, 3, (some .int), none)
def t_N_readFactBit : List (Nat × Instr × Nat) := [(0, (.aload_n 0), 1), (1, (.invokevirtual 116), 3), (4, (.ifCond .eq 10), 3), (7, (.aload_n 0), 1), (8, (.invokevirtual 119), 3), (11, (.goto 4), 3), (14, (.iconst (-1)), 1), (15, (.istore_n 2), 1), (16, (.iload_n 2), 1), (17, (.iconst (-1)), 1), (18, (.if_icmp .ne 13), 3), (21, (.aload_n 0), 1), (22, (.getfield 50), 3), (25, (.iconst 5), 1), (26, (.invokevirtual 106), 3), (29, (.iconst 0), 1), (30, .ireturn, 1), (31, (.iload_n 1), 1), (32, (.iload_n 2), 1), (33, (.invokestatic 172), 3), (36, (.ifCond .eq 11), 3), (39, (.aload_n 0), 1), (40, (.getfield 50), 3), (43, (.iconst 3), 1), (44, (.invokevirtual 106), 3), (47, (.aload_n 0), 1), (48, (.getfield 50), 3), (51, (.invokevirtual 109), 3), (54, (.iconst 1), 1), (55, (.iload_n 2), 1), (56, .ishl, 1), (57, .ireturn, 1)]
set_option maxRecDepth 10000 in
theorem wc_N_readFactBit : Cond.code y_N_readFactBit.1 y_N_readFactBit.2.1 y_N_readFactBit.2.2.1 y_N_readFactBit.2.2.2.1 ∈ tbG := mG (mT3 79 rfl) rfl
set_option maxRecDepth 10000 in
theorem wi_N_readFactBit : Cond.instanceMethod y_N_readFactBit.1 ∈ tbG := mG (mT3 78 rfl) rfl
set_option maxRecDepth 10000 in
theorem wl_N_readFactBit : Cond.selects y_N_readFactBit.1.cls y_N_readFactBit.1 y_N_readFactBit.1 ∈ tbG := mG (mP2 (q := (_, 17)) 4 rfl) rfl
abbrev y_N_readKnown : MI := (⟨"LieOfTwo$Lines", "readKnown", "()I"⟩, prog_5_method_14_code, 3, (some .int), none)
def t_N_readKnown : List (Nat × Instr × Nat) := [(0, (.aload_n 0), 1), (1, (.iconst 0), 1), (2, (.invokevirtual 168), 3), (5, (.istore_n 1), 1), (6, (.iconst 0), 1), (7, (.istore_n 2), 1), (8, (.iload_n 2), 1), (9, (.bipush 8), 2), (11, (.if_icmp .ge 29), 3), (14, (.aload_n 0), 1), (15, (.getfield 50), 3), (18, (.getfield 82), 3), (21, (.bipush 21), 2), (23, (.if_icmp .ne 17), 3), (26, (.iload_n 1), 1), (27, (.aload_n 0), 1), (28, (.iload_n 1), 1), (29, (.invokevirtual 168), 3), (32, .ior, 1), (33, (.istore_n 1), 1), (34, (.iinc 2 1), 3), (37, (.goto (-29)), 3), (40, (.iload_n 1), 1), (41, .ireturn, 1)]
set_option maxRecDepth 10000 in
theorem wc_N_readKnown : Cond.code y_N_readKnown.1 y_N_readKnown.2.1 y_N_readKnown.2.2.1 y_N_readKnown.2.2.2.1 ∈ tbG := mG (mT3 75 rfl) rfl
set_option maxRecDepth 10000 in
theorem wi_N_readKnown : Cond.instanceMethod y_N_readKnown.1 ∈ tbG := mG (mT3 74 rfl) rfl
set_option maxRecDepth 10000 in
theorem wl_N_readKnown : Cond.selects y_N_readKnown.1.cls y_N_readKnown.1 y_N_readKnown.1 ∈ tbG := mG (mP2 (q := (_, 17)) 3 rfl) rfl
abbrev y_N_readPerson : MI := (⟨"LieOfTwo$Lines", "readPerson", "()V"⟩, prog_5_method_13_code, 5, none, none)
def t_N_readPerson : List (Nat × Instr × Nat) := [(0, (.aload_n 0), 1), (1, (.aload_n 0), 1), (2, (.getfield 54), 3), (5, (.getfield 140), 3), (8, (.bipush 8), 2), (10, (.if_icmp .ge 7), 3), (13, (.iconst 1), 1), (14, (.goto 4), 3), (17, (.iconst 0), 1), (18, (.invokevirtual 146), 3), (21, (.aload_n 0), 1), (22, (.invokevirtual 116), 3), (25, (.ifCond .eq 30), 3), (28, (.aload_n 0), 1), (29, (.aload_n 0), 1), (30, (.getfield 22), 3), (33, (.aload_n 0), 1), (34, (.getfield 54), 3), (37, (.getfield 140), 3), (40, (.invokevirtual 133), 3), (43, (.iconst (-1)), 1), (44, (.if_icmp .eq 11), 3), (47, (.aload_n 0), 1), (48, (.getfield 50), 3), (51, (.iconst 3), 1), (52, (.invokevirtual 106), 3), (55, (.aload_n 0), 1), (56, (.invokevirtual 126), 3), (59, (.lstore_n 1), 1), (60, (.aload_n 0), 1), (61, (.getfield 50), 3), (64, (.iconst 3), 1), (65, (.invokevirtual 153), 3), (68, (.aload_n 0), 1), (69, (.invokevirtual 156), 3), (72, (.istore_n 3), 1), (73, (.iconst 0), 1), (74, (.istore 4), 2), (76, (.aload_n 0), 1), (77, (.getfield 50), 3), (80, (.getfield 82), 3), (83, (.iconst 4), 1), (84, (.if_icmp .ne 16), 3), (87, (.aload_n 0), 1), (88, (.getfield 50), 3), (91, (.invokevirtual 109), 3), (94, (.aload_n 0), 1), (95, (.invokevirtual 159), 3), (98, (.istore 4), 2), (100, (.aload_n 0), 1), (101, (.getfield 50), 3), (104, (.bipush 59), 2), (106, (.invokevirtual 153), 3), (109, (.aload_n 0), 1), (110, (.getfield 50), 3), (113, (.getfield 82), 3), (116, (.bipush 24), 2), (118, (.if_icmp .eq 62), 3), (121, (.aload_n 0), 1), (122, (.getfield 22), 3), (125, (.aload_n 0), 1), (126, (.getfield 54), 3), (129, (.getfield 140), 3), (132, (.lload_n 1), 1), (133, .lastore, 1), (134, (.aload_n 0), 1), (135, (.getfield 54), 3), (138, (.getfield 162), 3), (141, (.aload_n 0), 1), (142, (.getfield 54), 3), (145, (.getfield 140), 3), (148, (.iload_n 3), 1), (149, .iastore, 1), (150, (.aload_n 0), 1), (151, (.getfield 54), 3), (154, (.getfield 165), 3), (157, (.aload_n 0), 1), (158, (.getfield 54), 3), (161, (.getfield 140), 3), (164, (.iload 4), 2), (166, .iastore, 1), (167, (.aload_n 0), 1), (168, (.getfield 54), 3), (171, .dup, 1), (172, (.getfield 140), 3), (175, (.iconst 1), 1), (176, .iadd, 1), (177, (.putfield 140), 3), (180, .return_, 1)]
set_option maxRecDepth 10000 in
theorem wc_N_readPerson : Cond.code y_N_readPerson.1 y_N_readPerson.2.1 y_N_readPerson.2.2.1 y_N_readPerson.2.2.2.1 ∈ tbG := mG (mT3 67 rfl) rfl
set_option maxRecDepth 10000 in
theorem wi_N_readPerson : Cond.instanceMethod y_N_readPerson.1 ∈ tbG := mG (mT3 66 rfl) rfl
set_option maxRecDepth 10000 in
theorem wl_N_readPerson : Cond.selects y_N_readPerson.1.cls y_N_readPerson.1 y_N_readPerson.1 ∈ tbG := mG (mP2 (q := (_, 17)) 1 rfl) rfl
abbrev y_S_add : MI := (⟨"LieOfTwo$Steps", "add", "(II)V"⟩, prog_8_method_2_code, 3, none, none)
def t_S_add : List (Nat × Instr × Nat) := [(0, (.aload_n 0), 1), (1, (.getfield 22), 3), (4, (.sipush 720), 3), (7, (.if_icmp .ge 28), 3), (10, (.aload_n 0), 1), (11, (.getfield 9), 3), (14, (.aload_n 0), 1), (15, (.getfield 22), 3), (18, (.iload_n 2), 1), (19, (.bipush 8), 2), (21, .ishl, 1), (22, (.iload_n 1), 1), (23, .ior, 1), (24, .iastore, 1), (25, (.aload_n 0), 1), (26, .dup, 1), (27, (.getfield 22), 3), (30, (.iconst 1), 1), (31, .iadd, 1), (32, (.putfield 22), 3), (35, .return_, 1)]
set_option maxRecDepth 10000 in
theorem wc_S_add : Cond.code y_S_add.1 y_S_add.2.1 y_S_add.2.2.1 y_S_add.2.2.2.1 ∈ tbG := mG (mT3 114 rfl) rfl
set_option maxRecDepth 10000 in
theorem wi_S_add : Cond.instanceMethod y_S_add.1 ∈ tbG := mG (mT3 113 rfl) rfl
set_option maxRecDepth 10000 in
theorem wl_S_add : Cond.selects y_S_add.1.cls y_S_add.1 y_S_add.1 ∈ tbG := mG (mP2 (q := (_, 4)) 12 rfl) rfl
abbrev y_N_takesUnit : MI := (⟨"LieOfTwo$Lines", "takesUnit", "(ZI)Z"⟩, prog_5_method_25_code, 4, (some .boolean), none)
def t_N_takesUnit : List (Nat × Instr × Nat) := [(0, (.aload_n 0), 1), (1, (.getfield 50), 3), (4, (.getfield 82), 3), (7, (.bipush 40), 2), (9, (.if_icmp .ne 13), 3), (12, (.iload_n 2), 1), (13, (.bipush 7), 2), (15, (.if_icmp .lt 7), 3), (18, (.iconst 1), 1), (19, (.goto 4), 3), (22, (.iconst 0), 1), (23, (.istore_n 3), 1), (24, (.iload_n 1), 1), (25, (.ifCond .eq 19), 3), (28, (.iload_n 3), 1), (29, (.ifCond .ne 15), 3), (32, (.aload_n 0), 1), (33, (.getfield 54), 3), (36, (.getfield 234), 3), (39, (.bipush 80), 2), (41, (.if_icmp .lt 13), 3), (44, (.aload_n 0), 1), (45, (.getfield 50), 3), (48, (.iconst 2), 1), (49, (.invokevirtual 106), 3), (52, (.iconst 0), 1), (53, .ireturn, 1), (54, (.aload_n 0), 1), (55, (.getfield 54), 3), (58, .dup, 1), (59, (.getfield 234), 3), (62, (.iconst 1), 1), (63, .iadd, 1), (64, (.putfield 234), 3), (67, (.iconst 1), 1), (68, .ireturn, 1)]
set_option maxRecDepth 10000 in
theorem wc_N_takesUnit : Cond.code y_N_takesUnit.1 y_N_takesUnit.2.1 y_N_takesUnit.2.2.1 y_N_takesUnit.2.2.2.1 ∈ tbG := mG (mT3 110 rfl) rfl
set_option maxRecDepth 10000 in
theorem wi_N_takesUnit : Cond.instanceMethod y_N_takesUnit.1 ∈ tbG := mG (mT3 109 rfl) rfl
set_option maxRecDepth 10000 in
theorem wl_N_takesUnit : Cond.selects y_N_takesUnit.1.cls y_N_takesUnit.1 y_N_takesUnit.1 ∈ tbG := mG (mP2 (q := (_, 17)) 11 rfl) rfl
abbrev y_N_seePerson : MI := (⟨"LieOfTwo$Lines", "seePerson", "()I"⟩, prog_5_method_10_code, 2, (some .int), none)
def t_N_seePerson : List (Nat × Instr × Nat) := [(0, (.aload_n 0), 1), (1, (.invokevirtual 116), 3), (4, (.ifCond .eq 21), 3), (7, (.aload_n 0), 1), (8, (.aload_n 0), 1), (9, (.getfield 22), 3), (12, (.aload_n 0), 1), (13, (.getfield 54), 3), (16, (.getfield 140), 3), (19, (.invokevirtual 133), 3), (22, (.goto 4), 3), (25, (.iconst (-1)), 1), (26, (.istore_n 1), 1), (27, (.iload_n 1), 1), (28, (.iconst (-1)), 1), (29, (.if_icmp .ne 11), 3), (32, (.aload_n 0), 1), (33, (.getfield 50), 3), (36, (.iconst 5), 1), (37, (.invokevirtual 106), 3), (40, (.iload_n 1), 1), (41, .ireturn, 1)]
set_option maxRecDepth 10000 in
theorem wc_N_seePerson : Cond.code y_N_seePerson.1 y_N_seePerson.2.1 y_N_seePerson.2.2.1 y_N_seePerson.2.2.2.1 ∈ tbG := mG (mT3 118 rfl) rfl
set_option maxRecDepth 10000 in
theorem wi_N_seePerson : Cond.instanceMethod y_N_seePerson.1 ∈ tbG := mG (mT3 117 rfl) rfl
set_option maxRecDepth 10000 in
theorem wl_N_seePerson : Cond.selects y_N_seePerson.1.cls y_N_seePerson.1 y_N_seePerson.1 ∈ tbG := mG (mP2 (q := (_, 17)) 13 rfl) rfl
abbrev y_N_readBoth : MI := (⟨"LieOfTwo$Lines", "readBoth", "(I)V"⟩, prog_5_method_23_code, 3, none, none)
def t_N_readBoth : List (Nat × Instr × Nat) := [(0, (.aload_n 0), 1), (1, (.iload_n 1), 1), (2, (.invokevirtual 228), 3), (5, (.iconst 0), 1), (6, (.istore_n 2), 1), (7, (.iload_n 2), 1), (8, (.bipush 80), 2), (10, (.if_icmp .ge 43), 3), (13, (.aload_n 0), 1), (14, (.getfield 50), 3), (17, (.getfield 82), 3), (20, (.bipush 14), 2), (22, (.if_icmp .ne 31), 3), (25, (.aload_n 0), 1), (26, (.getfield 50), 3), (29, (.invokevirtual 109), 3), (32, (.aload_n 0), 1), (33, (.iload_n 1), 1), (34, (.invokevirtual 228), 3), (37, (.aload_n 0), 1), (38, (.getfield 12), 3), (41, (.bipush 14), 2), (43, (.iconst 0), 1), (44, (.invokevirtual 221), 3), (47, (.iinc 2 1), 3), (50, (.goto (-43)), 3), (53, .return_, 1)]
set_option maxRecDepth 10000 in
theorem wc_N_readBoth : Cond.code y_N_readBoth.1 y_N_readBoth.2.1 y_N_readBoth.2.2.1 y_N_readBoth.2.2.2.1 ∈ tbG := mG (mT3 98 rfl) rfl
set_option maxRecDepth 10000 in
theorem wi_N_readBoth : Cond.instanceMethod y_N_readBoth.1 ∈ tbG := mG (mT3 97 rfl) rfl
set_option maxRecDepth 10000 in
theorem wl_N_readBoth : Cond.selects y_N_readBoth.1.cls y_N_readBoth.1 y_N_readBoth.1 ∈ tbG := mG (mP2 (q := (_, 17)) 8 rfl) rfl
abbrev y_N_readAlt : MI := (⟨"LieOfTwo$Lines", "readAlt", "(I)V"⟩, prog_5_method_22_code, 3, none, none)
def t_N_readAlt : List (Nat × Instr × Nat) := [(0, (.aload_n 0), 1), (1, (.iload_n 1), 1), (2, (.invokevirtual 225), 3), (5, (.iconst 0), 1), (6, (.istore_n 2), 1), (7, (.iload_n 2), 1), (8, (.bipush 80), 2), (10, (.if_icmp .ge 43), 3), (13, (.aload_n 0), 1), (14, (.getfield 50), 3), (17, (.getfield 82), 3), (20, (.bipush 13), 2), (22, (.if_icmp .ne 31), 3), (25, (.aload_n 0), 1), (26, (.getfield 50), 3), (29, (.invokevirtual 109), 3), (32, (.aload_n 0), 1), (33, (.iload_n 1), 1), (34, (.invokevirtual 225), 3), (37, (.aload_n 0), 1), (38, (.getfield 12), 3), (41, (.bipush 13), 2), (43, (.iconst 0), 1), (44, (.invokevirtual 221), 3), (47, (.iinc 2 1), 3), (50, (.goto (-43)), 3), (53, .return_, 1)]
set_option maxRecDepth 10000 in
theorem wc_N_readAlt : Cond.code y_N_readAlt.1 y_N_readAlt.2.1 y_N_readAlt.2.2.1 y_N_readAlt.2.2.2.1 ∈ tbG := mG (mT3 94 rfl) rfl
set_option maxRecDepth 10000 in
theorem wi_N_readAlt : Cond.instanceMethod y_N_readAlt.1 ∈ tbG := mG (mT3 93 rfl) rfl
set_option maxRecDepth 10000 in
theorem wl_N_readAlt : Cond.selects y_N_readAlt.1.cls y_N_readAlt.1 y_N_readAlt.1 ∈ tbG := mG (mP2 (q := (_, 17)) 7 rfl) rfl
abbrev y_N_readE : MI := (⟨"LieOfTwo$Lines", "readE", "(I)V"⟩, prog_5_method_21_code, 2, none, none)
def t_N_readE : List (Nat × Instr × Nat) := [(0, (.aload_n 0), 1), (1, (.iload_n 1), 1), (2, (.invokevirtual 218), 3), (5, (.aload_n 0), 1), (6, (.getfield 50), 3), (9, (.getfield 82), 3), (12, (.bipush 12), 2), (14, (.if_icmp .ne 25), 3), (17, (.aload_n 0), 1), (18, (.getfield 50), 3), (21, (.invokevirtual 109), 3), (24, (.aload_n 0), 1), (25, (.iload_n 1), 1), (26, (.invokevirtual 218), 3), (29, (.aload_n 0), 1), (30, (.getfield 12), 3), (33, (.bipush 12), 2), (35, (.iconst 0), 1), (36, (.invokevirtual 221), 3), (39, .return_, 1)]
set_option maxRecDepth 10000 in
theorem wc_N_readE : Cond.code y_N_readE.1 y_N_readE.2.1 y_N_readE.2.2.1 y_N_readE.2.2.2.1 ∈ tbG := mG (mT3 90 rfl) rfl
set_option maxRecDepth 10000 in
theorem wi_N_readE : Cond.instanceMethod y_N_readE.1 ∈ tbG := mG (mT3 89 rfl) rfl
set_option maxRecDepth 10000 in
theorem wl_N_readE : Cond.selects y_N_readE.1.cls y_N_readE.1 y_N_readE.1 ∈ tbG := mG (mP2 (q := (_, 17)) 6 rfl) rfl
abbrev y_N_readUnit : MI := (⟨"LieOfTwo$Lines", "readUnit", "(I)V"⟩, prog_5_method_26_code, 5, none, none)
def t_N_readUnit : List (Nat × Instr × Nat) := [(0, (.aload_n 0), 1), (1, (.getfield 50), 3), (4, (.getfield 82), 3), (7, (.bipush 40), 2), (9, (.if_icmp .ne 7), 3), (12, (.iconst 1), 1), (13, (.goto 4), 3), (16, (.iconst 0), 1), (17, (.istore_n 2), 1), (18, (.aload_n 0), 1), (19, (.iload_n 2), 1), (20, (.ifCond .ne 15), 3), (23, (.aload_n 0), 1), (24, (.getfield 50), 3), (27, (.getfield 82), 3), (30, (.bipush 21), 2), (32, (.if_icmp .ne 7), 3), (35, (.iconst 1), 1), (36, (.goto 4), 3), (39, (.iconst 0), 1), (40, (.iload_n 1), 1), (41, (.invokevirtual 237), 3), (44, (.ifCond .ne 4), 3), (47, .return_, 1), (48, (.iload_n 2), 1), (49, (.ifCond .eq 27), 3), (52, (.aload_n 0), 1), (53, (.getfield 50), 3), (56, (.invokevirtual 109), 3), (59, (.aload_n 0), 1), (60, (.iload_n 1), 1), (61, (.iconst 1), 1), (62, .iadd, 1), (63, (.invokevirtual 182), 3), (66, (.aload_n 0), 1), (67, (.getfield 50), 3), (70, (.bipush 41), 2), (72, (.invokevirtual 153), 3), (75, .return_, 1), (76, (.aload_n 0), 1), (77, (.invokevirtual 119), 3), (80, (.istore_n 3), 1), (81, (.aload_n 0), 1), (82, (.invokevirtual 123), 3), (85, (.istore 4), 2), (87, (.iload_n 3), 1), (88, (.iconst (-1)), 1), (89, (.if_icmp .eq 15), 3), (92, (.aload_n 0), 1), (93, (.getfield 12), 3), (96, (.iconst 1), 1), (97, (.iload_n 3), 1), (98, (.invokevirtual 221), 3), (101, (.goto 63), 3), (104, (.iload 4), 2), (106, (.iconst (-1)), 1), (107, (.if_icmp .eq 49), 3), (110, (.aload_n 0), 1), (111, (.getfield 176), 3), (114, (.ifCond .eq 13), 3), (117, (.aload_n 0), 1), (118, (.getfield 35), 3), (121, (.iload 4), 2), (123, .baload, 1), (124, (.ifCond .ne 32), 3), (127, (.aload_n 0), 1), (128, .dup, 1), (129, (.getfield 179), 3), (132, (.aload_n 0), 1), (133, (.getfield 35), 3), (136, (.iload 4), 2), (138, .baload, 1), (139, .ior, 1), (140, (.putfield 179), 3), (143, (.aload_n 0), 1), (144, (.getfield 12), 3), (147, (.iconst 5), 1), (148, (.iload 4), 2), (150, (.invokevirtual 221), 3), (153, (.goto 11), 3), (156, (.aload_n 0), 1), (157, (.getfield 50), 3), (160, (.iconst 5), 1), (161, (.invokevirtual 106), 3), (164, (.aload_n 0), 1), (165, (.getfield 50), 3), (168, (.invokevirtual 109), 3), (171, .return_, 1)]
set_option maxRecDepth 10000 in
theorem wc_N_readUnit : Cond.code y_N_readUnit.1 y_N_readUnit.2.1 y_N_readUnit.2.2.1 y_N_readUnit.2.2.2.1 ∈ tbG := mG (mT3 106 rfl) rfl
set_option maxRecDepth 10000 in
theorem wi_N_readUnit : Cond.instanceMethod y_N_readUnit.1 ∈ tbG := mG (mT3 105 rfl) rfl
set_option maxRecDepth 10000 in
theorem wl_N_readUnit : Cond.selects y_N_readUnit.1.cls y_N_readUnit.1 y_N_readUnit.1 ∈ tbG := mG (mP2 (q := (_, 17)) 10 rfl) rfl
abbrev y_N_readOne : MI := (⟨"LieOfTwo$Lines", "readOne", "(I)V"⟩, prog_5_method_24_code, 5, none, none)
def t_N_readOne : List (Nat × Instr × Nat) := [(0, (.aload_n 0), 1), (1, (.getfield 50), 3), (4, (.getfield 82), 3), (7, (.istore_n 2), 1), (8, (.iload_n 2), 1), (9, (.bipush 16), 2), (11, (.if_icmp .eq 9), 3), (14, (.iload_n 2), 1), (15, (.bipush 17), 2), (17, (.if_icmp .ne 7), 3), (20, (.iconst 1), 1), (21, (.goto 4), 3), (24, (.iconst 0), 1), (25, (.istore_n 3), 1), (26, (.iload_n 2), 1), (27, (.bipush 15), 2), (29, (.if_icmp .eq 13), 3), (32, (.iload_n 3), 1), (33, (.ifCond .ne 9), 3), (36, (.aload_n 0), 1), (37, (.iload_n 1), 1), (38, (.invokevirtual 231), 3), (41, .return_, 1), (42, (.iload_n 1), 1), (43, (.bipush 7), 2), (45, (.if_icmp .ge 14), 3), (48, (.iload_n 3), 1), (49, (.ifCond .eq 19), 3), (52, (.aload_n 0), 1), (53, (.getfield 176), 3), (56, (.ifCond .eq 12), 3), (59, (.aload_n 0), 1), (60, (.getfield 50), 3), (63, (.iconst 2), 1), (64, (.invokevirtual 106), 3), (67, .return_, 1), (68, (.aload_n 0), 1), (69, (.getfield 50), 3), (72, (.invokevirtual 109), 3), (75, (.iconst 0), 1), (76, (.istore 4), 2), (78, (.iload_n 3), 1), (79, (.ifCond .eq 21), 3), (82, (.aload_n 0), 1), (83, (.iconst 1), 1), (84, (.putfield 179), 3), (87, (.aload_n 0), 1), (88, (.invokevirtual 188), 3), (91, (.istore 4), 2), (93, (.aload_n 0), 1), (94, (.getfield 50), 3), (97, (.invokevirtual 109), 3), (100, (.aload_n 0), 1), (101, (.iload_n 1), 1), (102, (.iconst 1), 1), (103, .iadd, 1), (104, (.invokevirtual 228), 3), (107, (.aload_n 0), 1), (108, (.getfield 12), 3), (111, (.iload_n 2), 1), (112, (.iload 4), 2), (114, (.invokevirtual 221), 3), (117, .return_, 1)]
set_option maxRecDepth 10000 in
theorem wc_N_readOne : Cond.code y_N_readOne.1 y_N_readOne.2.1 y_N_readOne.2.2.1 y_N_readOne.2.2.2.1 ∈ tbG := mG (mT3 102 rfl) rfl
set_option maxRecDepth 10000 in
theorem wi_N_readOne : Cond.instanceMethod y_N_readOne.1 ∈ tbG := mG (mT3 101 rfl) rfl
set_option maxRecDepth 10000 in
theorem wl_N_readOne : Cond.selects y_N_readOne.1.cls y_N_readOne.1 y_N_readOne.1 ∈ tbG := mG (mP2 (q := (_, 17)) 9 rfl) rfl
abbrev y_N_readRow : MI := (⟨"LieOfTwo$Lines", "readRow", "()V"⟩, prog_5_method_16_code, 5, none, none)
def t_N_readRow : List (Nat × Instr × Nat) := [(0, (.aload_n 0), 1), (1, (.aload_n 0), 1), (2, (.getfield 54), 3), (5, (.getfield 137), 3), (8, (.bipush 12), 2), (10, (.if_icmp .ge 7), 3), (13, (.iconst 1), 1), (14, (.goto 4), 3), (17, (.iconst 0), 1), (18, (.invokevirtual 146), 3), (21, (.aload_n 0), 1), (22, (.invokevirtual 150), 3), (25, (.lstore_n 1), 1), (26, (.aload_n 0), 1), (27, (.getfield 12), 3), (30, (.getfield 63), 3), (33, (.istore_n 3), 1), (34, (.aload_n 0), 1), (35, (.iconst 0), 1), (36, (.putfield 176), 3), (39, (.aload_n 0), 1), (40, (.iconst 0), 1), (41, (.putfield 179), 3), (44, (.aload_n 0), 1), (45, (.iconst 0), 1), (46, (.invokevirtual 182), 3), (49, (.aload_n 0), 1), (50, (.getfield 12), 3), (53, (.getfield 63), 3), (56, (.istore 4), 2), (58, (.aload_n 0), 1), (59, (.getfield 50), 3), (62, (.bipush 59), 2), (64, (.invokevirtual 153), 3), (67, (.aload_n 0), 1), (68, (.getfield 50), 3), (71, (.getfield 82), 3), (74, (.bipush 24), 2), (76, (.if_icmp .eq 72), 3), (79, (.aload_n 0), 1), (80, (.getfield 25), 3), (83, (.aload_n 0), 1), (84, (.getfield 54), 3), (87, (.getfield 137), 3), (90, (.lload_n 1), 1), (91, .lastore, 1), (92, (.aload_n 0), 1), (93, (.getfield 28), 3), (96, (.aload_n 0), 1), (97, (.getfield 54), 3), (100, (.getfield 137), 3), (103, (.iload_n 3), 1), (104, .iastore, 1), (105, (.aload_n 0), 1), (106, (.getfield 32), 3), (109, (.aload_n 0), 1), (110, (.getfield 54), 3), (113, (.getfield 137), 3), (116, (.iload 4), 2), (118, .iastore, 1), (119, (.aload_n 0), 1), (120, (.getfield 35), 3), (123, (.aload_n 0), 1), (124, (.getfield 54), 3), (127, (.getfield 137), 3), (130, (.aload_n 0), 1), (131, (.getfield 179), 3), (134, .bastore, 1), (135, (.aload_n 0), 1), (136, (.getfield 54), 3), (139, .dup, 1), (140, (.getfield 137), 3), (143, (.iconst 1), 1), (144, .iadd, 1), (145, (.putfield 137), 3), (148, .return_, 1)]
set_option maxRecDepth 10000 in
theorem wc_N_readRow : Cond.code y_N_readRow.1 y_N_readRow.2.1 y_N_readRow.2.2.1 y_N_readRow.2.2.2.1 ∈ tbG := mG (mT3 86 rfl) rfl
set_option maxRecDepth 10000 in
theorem wi_N_readRow : Cond.instanceMethod y_N_readRow.1 ∈ tbG := mG (mT3 85 rfl) rfl
set_option maxRecDepth 10000 in
theorem wl_N_readRow : Cond.selects y_N_readRow.1.cls y_N_readRow.1 y_N_readRow.1 ∈ tbG := mG (mP2 (q := (_, 17)) 5 rfl) rfl
abbrev y_N_readAlways : MI := (⟨"LieOfTwo$Lines", "readAlways", "()V"⟩, prog_5_method_17_code, 3, none, none)
def t_N_readAlways : List (Nat × Instr × Nat) := [(0, (.aload_n 0), 1), (1, (.aload_n 0), 1), (2, (.getfield 67), 3), (5, (.iconst 4), 1), (6, (.if_icmp .ge 7), 3), (9, (.iconst 1), 1), (10, (.goto 4), 3), (13, (.iconst 0), 1), (14, (.invokevirtual 146), 3), (17, (.aload_n 0), 1), (18, (.getfield 12), 3), (21, (.getfield 63), 3), (24, (.istore_n 1), 1), (25, (.aload_n 0), 1), (26, (.iconst 1), 1), (27, (.putfield 176), 3), (30, (.aload_n 0), 1), (31, (.iconst 0), 1), (32, (.invokevirtual 182), 3), (35, (.aload_n 0), 1), (36, (.getfield 12), 3), (39, (.getfield 63), 3), (42, (.istore_n 2), 1), (43, (.aload_n 0), 1), (44, (.getfield 50), 3), (47, (.bipush 59), 2), (49, (.invokevirtual 153), 3), (52, (.aload_n 0), 1), (53, (.getfield 50), 3), (56, (.getfield 82), 3), (59, (.bipush 24), 2), (61, (.if_icmp .eq 33), 3), (64, (.aload_n 0), 1), (65, (.getfield 39), 3), (68, (.aload_n 0), 1), (69, (.getfield 67), 3), (72, (.iload_n 1), 1), (73, .iastore, 1), (74, (.aload_n 0), 1), (75, (.getfield 42), 3), (78, (.aload_n 0), 1), (79, (.getfield 67), 3), (82, (.iload_n 2), 1), (83, .iastore, 1), (84, (.aload_n 0), 1), (85, .dup, 1), (86, (.getfield 67), 3), (89, (.iconst 1), 1), (90, .iadd, 1), (91, (.putfield 67), 3), (94, .return_, 1)]
set_option maxRecDepth 10000 in
theorem wc_N_readAlways : Cond.code y_N_readAlways.1 y_N_readAlways.2.1 y_N_readAlways.2.2.1 y_N_readAlways.2.2.2.1 ∈ tbG := mG (mT3 122 rfl) rfl
set_option maxRecDepth 10000 in
theorem wi_N_readAlways : Cond.instanceMethod y_N_readAlways.1 ∈ tbG := mG (mT3 121 rfl) rfl
set_option maxRecDepth 10000 in
theorem wl_N_readAlways : Cond.selects y_N_readAlways.1.cls y_N_readAlways.1 y_N_readAlways.1 ∈ tbG := mG (mP2 (q := (_, 17)) 14 rfl) rfl
abbrev y_N_readTie : MI := (⟨"LieOfTwo$Lines", "readTie", "()V"⟩, prog_5_method_18_code, 4, none, none)
def t_N_readTie : List (Nat × Instr × Nat) := [(0, (.aload_n 0), 1), (1, (.aload_n 0), 1), (2, (.getfield 54), 3), (5, (.getfield 185), 3), (8, (.bipush 12), 2), (10, (.if_icmp .ge 7), 3), (13, (.iconst 1), 1), (14, (.goto 4), 3), (17, (.iconst 0), 1), (18, (.invokevirtual 146), 3), (21, (.aload_n 0), 1), (22, (.invokevirtual 188), 3), (25, (.istore_n 1), 1), (26, (.aload_n 0), 1), (27, (.getfield 50), 3), (30, (.invokevirtual 109), 3), (33, (.aload_n 0), 1), (34, (.invokevirtual 188), 3), (37, (.istore_n 2), 1), (38, (.iload_n 1), 1), (39, (.iconst (-1)), 1), (40, (.if_icmp .eq 37), 3), (43, (.iload_n 2), 1), (44, (.iconst (-1)), 1), (45, (.if_icmp .eq 32), 3), (48, (.iload_n 1), 1), (49, (.iload_n 2), 1), (50, (.if_icmp .eq 19), 3), (53, (.aload_n 0), 1), (54, (.getfield 54), 3), (57, (.getfield 191), 3), (60, (.iload_n 1), 1), (61, .iaload, 1), (62, (.iload_n 2), 1), (63, (.invokestatic 172), 3), (66, (.ifCond .eq 11), 3), (69, (.aload_n 0), 1), (70, (.getfield 50), 3), (73, (.iconst 3), 1), (74, (.invokevirtual 106), 3), (77, (.aload_n 0), 1), (78, (.getfield 50), 3), (81, (.invokevirtual 109), 3), (84, (.aload_n 0), 1), (85, (.getfield 50), 3), (88, (.bipush 8), 2), (90, (.invokevirtual 153), 3), (93, (.aload_n 0), 1), (94, (.invokevirtual 156), 3), (97, (.istore_n 3), 1), (98, (.aload_n 0), 1), (99, (.getfield 50), 3), (102, (.bipush 59), 2), (104, (.invokevirtual 153), 3), (107, (.aload_n 0), 1), (108, (.getfield 50), 3), (111, (.getfield 82), 3), (114, (.bipush 24), 2), (116, (.if_icmp .eq 104), 3), (119, (.iload_n 1), 1), (120, (.iconst (-1)), 1), (121, (.if_icmp .eq 99), 3), (124, (.iload_n 2), 1), (125, (.iconst (-1)), 1), (126, (.if_icmp .eq 94), 3), (129, (.aload_n 0), 1), (130, (.getfield 54), 3), (133, (.getfield 194), 3), (136, (.aload_n 0), 1), (137, (.getfield 54), 3), (140, (.getfield 185), 3), (143, (.iload_n 1), 1), (144, .iastore, 1), (145, (.aload_n 0), 1), (146, (.getfield 54), 3), (149, (.getfield 197), 3), (152, (.aload_n 0), 1), (153, (.getfield 54), 3), (156, (.getfield 185), 3), (159, (.iload_n 2), 1), (160, .iastore, 1), (161, (.aload_n 0), 1), (162, (.getfield 54), 3), (165, (.getfield 200), 3), (168, (.aload_n 0), 1), (169, (.getfield 54), 3), (172, (.getfield 185), 3), (175, (.iload_n 3), 1), (176, .iastore, 1), (177, (.aload_n 0), 1), (178, (.getfield 54), 3), (181, (.getfield 191), 3), (184, (.iload_n 1), 1), (185, .dup2, 1), (186, .iaload, 1), (187, (.iconst 1), 1), (188, (.iload_n 2), 1), (189, .ishl, 1), (190, .ior, 1), (191, .iastore, 1), (192, (.aload_n 0), 1), (193, (.getfield 54), 3), (196, (.getfield 191), 3), (199, (.iload_n 2), 1), (200, .dup2, 1), (201, .iaload, 1), (202, (.iconst 1), 1), (203, (.iload_n 1), 1), (204, .ishl, 1), (205, .ior, 1), (206, .iastore, 1), (207, (.aload_n 0), 1), (208, (.getfield 54), 3), (211, .dup, 1), (212, (.getfield 185), 3), (215, (.iconst 1), 1), (216, .iadd, 1), (217, (.putfield 185), 3), (220, .return_, 1)]
set_option maxRecDepth 10000 in
theorem wc_N_readTie : Cond.code y_N_readTie.1 y_N_readTie.2.1 y_N_readTie.2.2.1 y_N_readTie.2.2.2.1 ∈ tbG := mG (mT3 126 rfl) rfl
set_option maxRecDepth 10000 in
theorem wi_N_readTie : Cond.instanceMethod y_N_readTie.1 ∈ tbG := mG (mT3 125 rfl) rfl
set_option maxRecDepth 10000 in
theorem wl_N_readTie : Cond.selects y_N_readTie.1.cls y_N_readTie.1 y_N_readTie.1 ∈ tbG := mG (mP2 (q := (_, 17)) 15 rfl) rfl
abbrev y_N_readWish : MI := (⟨"LieOfTwo$Lines", "readWish", "()V"⟩, prog_5_method_19_code, 4, none, none)
def t_N_readWish : List (Nat × Instr × Nat) := [(0, (.aload_n 0), 1), (1, (.aload_n 0), 1), (2, (.getfield 54), 3), (5, (.getfield 203), 3), (8, (.bipush 12), 2), (10, (.if_icmp .ge 7), 3), (13, (.iconst 1), 1), (14, (.goto 4), 3), (17, (.iconst 0), 1), (18, (.invokevirtual 146), 3), (21, (.aload_n 0), 1), (22, (.invokevirtual 188), 3), (25, (.istore_n 1), 1), (26, (.aload_n 0), 1), (27, (.getfield 50), 3), (30, (.invokevirtual 109), 3), (33, (.aload_n 0), 1), (34, (.invokevirtual 116), 3), (37, (.ifCond .eq 10), 3), (40, (.aload_n 0), 1), (41, (.invokevirtual 123), 3), (44, (.goto 4), 3), (47, (.iconst (-1)), 1), (48, (.istore_n 2), 1), (49, (.iload_n 2), 1), (50, (.iconst (-1)), 1), (51, (.if_icmp .ne 14), 3), (54, (.aload_n 0), 1), (55, (.getfield 50), 3), (58, (.iconst 5), 1), (59, (.invokevirtual 106), 3), (62, (.goto 34), 3), (65, (.iload_n 1), 1), (66, (.iconst (-1)), 1), (67, (.if_icmp .eq 29), 3), (70, (.aload_n 0), 1), (71, (.getfield 54), 3), (74, (.getfield 206), 3), (77, (.iload_n 1), 1), (78, (.bipush 12), 2), (80, .imul, 1), (81, (.iload_n 2), 1), (82, .iadd, 1), (83, .iaload, 1), (84, (.iconst (-1)), 1), (85, (.if_icmp .eq 11), 3), (88, (.aload_n 0), 1), (89, (.getfield 50), 3), (92, (.iconst 3), 1), (93, (.invokevirtual 106), 3), (96, (.aload_n 0), 1), (97, (.getfield 50), 3), (100, (.invokevirtual 109), 3), (103, (.aload_n 0), 1), (104, (.getfield 50), 3), (107, (.bipush 10), 2), (109, (.invokevirtual 153), 3), (112, (.aload_n 0), 1), (113, (.invokevirtual 156), 3), (116, (.istore_n 3), 1), (117, (.aload_n 0), 1), (118, (.getfield 50), 3), (121, (.bipush 59), 2), (123, (.invokevirtual 153), 3), (126, (.aload_n 0), 1), (127, (.getfield 50), 3), (130, (.getfield 82), 3), (133, (.bipush 24), 2), (135, (.if_icmp .eq 41), 3), (138, (.iload_n 1), 1), (139, (.iconst (-1)), 1), (140, (.if_icmp .eq 36), 3), (143, (.iload_n 2), 1), (144, (.iconst (-1)), 1), (145, (.if_icmp .eq 31), 3), (148, (.aload_n 0), 1), (149, (.getfield 54), 3), (152, (.getfield 206), 3), (155, (.iload_n 1), 1), (156, (.bipush 12), 2), (158, .imul, 1), (159, (.iload_n 2), 1), (160, .iadd, 1), (161, (.iload_n 3), 1), (162, .iastore, 1), (163, (.aload_n 0), 1), (164, (.getfield 54), 3), (167, .dup, 1), (168, (.getfield 203), 3), (171, (.iconst 1), 1), (172, .iadd, 1), (173, (.putfield 203), 3), (176, .return_, 1)]
set_option maxRecDepth 10000 in
theorem wc_N_readWish : Cond.code y_N_readWish.1 y_N_readWish.2.1 y_N_readWish.2.2.1 y_N_readWish.2.2.2.1 ∈ tbG := mG (mT3 130 rfl) rfl
set_option maxRecDepth 10000 in
theorem wi_N_readWish : Cond.instanceMethod y_N_readWish.1 ∈ tbG := mG (mT3 129 rfl) rfl
set_option maxRecDepth 10000 in
theorem wl_N_readWish : Cond.selects y_N_readWish.1.cls y_N_readWish.1 y_N_readWish.1 ∈ tbG := mG (mP3 (q := (_, 17)) 0 rfl) rfl
abbrev y_N_readSum : MI := (⟨"LieOfTwo$Lines", "readSum", "(I)V"⟩, prog_5_method_29_code, 4, none, none)
def t_N_readSum : List (Nat × Instr × Nat) := [(0, (.aload_n 0), 1), (1, (.iload_n 1), 1), (2, (.invokevirtual 247), 3), (5, (.iconst 0), 1), (6, (.istore_n 2), 1), (7, (.iload_n 2), 1), (8, (.bipush 80), 2), (10, (.if_icmp .ge 62), 3), (13, (.aload_n 0), 1), (14, (.getfield 50), 3), (17, (.getfield 82), 3), (20, (.bipush 43), 2), (22, (.if_icmp .eq 15), 3), (25, (.aload_n 0), 1), (26, (.getfield 50), 3), (29, (.getfield 82), 3), (32, (.bipush 45), 2), (34, (.if_icmp .ne 38), 3), (37, (.aload_n 0), 1), (38, (.getfield 50), 3), (41, (.getfield 82), 3), (44, (.istore_n 3), 1), (45, (.aload_n 0), 1), (46, (.getfield 50), 3), (49, (.invokevirtual 109), 3), (52, (.aload_n 0), 1), (53, (.iload_n 1), 1), (54, (.invokevirtual 247), 3), (57, (.aload_n 0), 1), (58, (.getfield 12), 3), (61, (.iload_n 3), 1), (62, (.iconst 0), 1), (63, (.invokevirtual 221), 3), (66, (.iinc 2 1), 3), (69, (.goto (-62)), 3), (72, .return_, 1)]
set_option maxRecDepth 10000 in
theorem wc_N_readSum : Cond.code y_N_readSum.1 y_N_readSum.2.1 y_N_readSum.2.2.1 y_N_readSum.2.2.2.1 ∈ tbG := mG (mT3 146 rfl) rfl
set_option maxRecDepth 10000 in
theorem wi_N_readSum : Cond.instanceMethod y_N_readSum.1 ∈ tbG := mG (mT3 145 rfl) rfl
set_option maxRecDepth 10000 in
theorem wl_N_readSum : Cond.selects y_N_readSum.1.cls y_N_readSum.1 y_N_readSum.1 ∈ tbG := mG (mP3 (q := (_, 17)) 4 rfl) rfl
abbrev y_N_readAny : MI := (⟨"LieOfTwo$Lines", "readAny", "(I)V"⟩, prog_5_method_28_code, 3, none, none)
def t_N_readAny : List (Nat × Instr × Nat) := [(0, (.aload_n 0), 1), (1, (.iload_n 1), 1), (2, (.invokevirtual 244), 3), (5, (.aload_n 0), 1), (6, (.getfield 50), 3), (9, (.getfield 82), 3), (12, (.istore_n 2), 1), (13, (.iload_n 2), 1), (14, (.bipush 60), 2), (16, (.if_icmp .eq 15), 3), (19, (.iload_n 2), 1), (20, (.bipush 62), 2), (22, (.if_icmp .eq 9), 3), (25, (.iload_n 2), 1), (26, (.bipush 61), 2), (28, (.if_icmp .ne 24), 3), (31, (.aload_n 0), 1), (32, (.getfield 50), 3), (35, (.invokevirtual 109), 3), (38, (.aload_n 0), 1), (39, (.iload_n 1), 1), (40, (.invokevirtual 244), 3), (43, (.aload_n 0), 1), (44, (.getfield 12), 3), (47, (.iload_n 2), 1), (48, (.iconst 0), 1), (49, (.invokevirtual 221), 3), (52, .return_, 1)]
set_option maxRecDepth 10000 in
theorem wc_N_readAny : Cond.code y_N_readAny.1 y_N_readAny.2.1 y_N_readAny.2.2.1 y_N_readAny.2.2.2.1 ∈ tbG := mG (mT3 142 rfl) rfl
set_option maxRecDepth 10000 in
theorem wi_N_readAny : Cond.instanceMethod y_N_readAny.1 ∈ tbG := mG (mT3 141 rfl) rfl
set_option maxRecDepth 10000 in
theorem wl_N_readAny : Cond.selects y_N_readAny.1.cls y_N_readAny.1 y_N_readAny.1 ∈ tbG := mG (mP3 (q := (_, 17)) 3 rfl) rfl
abbrev y_N_readF : MI := (⟨"LieOfTwo$Lines", "readF", "(I)V"⟩, prog_5_method_27_code, 3, none, none)
def t_N_readF : List (Nat × Instr × Nat) := [(0, (.aload_n 0), 1), (1, (.iload_n 1), 1), (2, (.invokevirtual 241), 3), (5, (.iconst 0), 1), (6, (.istore_n 2), 1), (7, (.iload_n 2), 1), (8, (.bipush 80), 2), (10, (.if_icmp .ge 43), 3), (13, (.aload_n 0), 1), (14, (.getfield 50), 3), (17, (.getfield 82), 3), (20, (.bipush 13), 2), (22, (.if_icmp .ne 31), 3), (25, (.aload_n 0), 1), (26, (.getfield 50), 3), (29, (.invokevirtual 109), 3), (32, (.aload_n 0), 1), (33, (.iload_n 1), 1), (34, (.invokevirtual 241), 3), (37, (.aload_n 0), 1), (38, (.getfield 12), 3), (41, (.bipush 13), 2), (43, (.iconst 0), 1), (44, (.invokevirtual 221), 3), (47, (.iinc 2 1), 3), (50, (.goto (-43)), 3), (53, .return_, 1)]
set_option maxRecDepth 10000 in
theorem wc_N_readF : Cond.code y_N_readF.1 y_N_readF.2.1 y_N_readF.2.2.1 y_N_readF.2.2.2.1 ∈ tbG := mG (mT3 138 rfl) rfl
set_option maxRecDepth 10000 in
theorem wi_N_readF : Cond.instanceMethod y_N_readF.1 ∈ tbG := mG (mT3 137 rfl) rfl
set_option maxRecDepth 10000 in
theorem wl_N_readF : Cond.selects y_N_readF.1.cls y_N_readF.1 y_N_readF.1 ∈ tbG := mG (mP3 (q := (_, 17)) 2 rfl) rfl
abbrev y_N_readPart : MI := (⟨"LieOfTwo$Lines", "readPart", "(I)V"⟩, prog_5_method_30_code, 4, none, none)
def t_N_readPart : List (Nat × Instr × Nat) := [(0, (.aload_n 0), 1), (1, (.getfield 50), 3), (4, (.getfield 82), 3), (7, (.istore_n 2), 1), (8, (.iload_n 2), 1), (9, (.bipush 18), 2), (11, (.if_icmp .eq 21), 3), (14, (.iload_n 2), 1), (15, (.bipush 19), 2), (17, (.if_icmp .eq 15), 3), (20, (.iload_n 2), 1), (21, (.bipush 20), 2), (23, (.if_icmp .eq 9), 3), (26, (.iload_n 2), 1), (27, (.bipush 17), 2), (29, (.if_icmp .ne 7), 3), (32, (.iconst 1), 1), (33, (.goto 4), 3), (36, (.iconst 0), 1), (37, (.istore_n 3), 1), (38, (.aload_n 0), 1), (39, (.iload_n 3), 1), (40, (.ifCond .ne 15), 3), (43, (.iload_n 2), 1), (44, (.bipush 22), 2), (46, (.if_icmp .eq 9), 3), (49, (.iload_n 2), 1), (50, (.bipush 40), 2), (52, (.if_icmp .ne 7), 3), (55, (.iconst 1), 1), (56, (.goto 4), 3), (59, (.iconst 0), 1), (60, (.iload_n 1), 1), (61, (.invokevirtual 237), 3), (64, (.ifCond .ne 4), 3), (67, .return_, 1), (68, (.iload_n 2), 1), (69, (.bipush 40), 2), (71, (.if_icmp .ne 29), 3), (74, (.aload_n 0), 1), (75, (.getfield 50), 3), (78, (.invokevirtual 109), 3), (81, (.aload_n 0), 1), (82, (.iload_n 1), 1), (83, (.iconst 1), 1), (84, .iadd, 1), (85, (.invokevirtual 212), 3), (88, (.aload_n 0), 1), (89, (.getfield 50), 3), (92, (.bipush 41), 2), (94, (.invokevirtual 153), 3), (97, (.goto 35), 3), (100, (.aload_n 0), 1), (101, (.getfield 12), 3), (104, (.iload_n 2), 1), (105, (.iload_n 2), 1), (106, (.bipush 22), 2), (108, (.if_icmp .ne 13), 3), (111, (.aload_n 0), 1), (112, (.getfield 50), 3), (115, (.getfield 143), 3), (118, (.goto 4), 3), (121, (.iconst 0), 1), (122, (.invokevirtual 221), 3), (125, (.aload_n 0), 1), (126, (.getfield 50), 3), (129, (.invokevirtual 109), 3), (132, .return_, 1)]
set_option maxRecDepth 10000 in
theorem wc_N_readPart : Cond.code y_N_readPart.1 y_N_readPart.2.1 y_N_readPart.2.2.1 y_N_readPart.2.2.2.1 ∈ tbG := mG (mT3 150 rfl) rfl
set_option maxRecDepth 10000 in
theorem wi_N_readPart : Cond.instanceMethod y_N_readPart.1 ∈ tbG := mG (mT3 149 rfl) rfl
set_option maxRecDepth 10000 in
theorem wl_N_readPart : Cond.selects y_N_readPart.1.cls y_N_readPart.1 y_N_readPart.1 ∈ tbG := mG (mP3 (q := (_, 17)) 5 rfl) rfl
abbrev y_N_readLaw : MI := (⟨"LieOfTwo$Lines", "readLaw", "()V"⟩, prog_5_method_20_code, 1, none, none)
def t_N_readLaw : List (Nat × Instr × Nat) := [(0, (.aload_n 0), 1), (1, (.aload_n 0), 1), (2, (.getfield 70), 3), (5, (.ifCond .ne 7), 3), (8, (.iconst 1), 1), (9, (.goto 4), 3), (12, (.iconst 0), 1), (13, (.invokevirtual 146), 3), (16, (.aload_n 0), 1), (17, (.iconst 1), 1), (18, (.putfield 70), 3), (21, (.aload_n 0), 1), (22, (.aload_n 0), 1), (23, (.getfield 12), 3), (26, (.getfield 63), 3), (29, (.putfield 209), 3), (32, (.aload_n 0), 1), (33, (.iconst 0), 1), (34, (.invokevirtual 212), 3), (37, (.aload_n 0), 1), (38, (.aload_n 0), 1), (39, (.getfield 12), 3), (42, (.getfield 63), 3), (45, (.putfield 215), 3), (48, (.aload_n 0), 1), (49, (.getfield 50), 3), (52, (.bipush 59), 2), (54, (.invokevirtual 153), 3), (57, .return_, 1)]
set_option maxRecDepth 10000 in
theorem wc_N_readLaw : Cond.code y_N_readLaw.1 y_N_readLaw.2.1 y_N_readLaw.2.2.1 y_N_readLaw.2.2.2.1 ∈ tbG := mG (mT3 134 rfl) rfl
set_option maxRecDepth 10000 in
theorem wi_N_readLaw : Cond.instanceMethod y_N_readLaw.1 ∈ tbG := mG (mT3 133 rfl) rfl
set_option maxRecDepth 10000 in
theorem wl_N_readLaw : Cond.selects y_N_readLaw.1.cls y_N_readLaw.1 y_N_readLaw.1 ∈ tbG := mG (mP3 (q := (_, 17)) 1 rfl) rfl
abbrev y_N_readInto : MI := (⟨"LieOfTwo$Lines", "readInto", "(LLieOfTwo$Town;I)V"⟩, prog_5_method_2_code, 4, none, none)
def t_N_readInto : List (Nat × Instr × Nat) := [(0, (.aload_n 0), 1), (1, (.aload_n 1), 1), (2, (.putfield 54), 3), (5, (.aload_n 0), 1), (6, (.getfield 54), 3), (9, (.invokevirtual 58), 3), (12, (.aload_n 0), 1), (13, (.getfield 12), 3), (16, (.iconst 0), 1), (17, (.putfield 63), 3), (20, (.aload_n 0), 1), (21, (.iconst 0), 1), (22, (.putfield 67), 3), (25, (.aload_n 0), 1), (26, (.iconst 0), 1), (27, (.putfield 70), 3), (30, (.aload_n 0), 1), (31, (.getfield 50), 3), (34, (.iload_n 2), 1), (35, (.invokevirtual 74), 3), (38, (.iconst 0), 1), (39, (.istore_n 3), 1), (40, (.iload_n 3), 1), (41, (.sipush 1600), 3), (44, (.if_icmp .gt 143), 3), (47, (.aload_n 0), 1), (48, (.getfield 50), 3), (51, (.invokevirtual 78), 3), (54, (.ifCond .eq 133), 3), (57, (.aload_n 0), 1), (58, (.getfield 50), 3), (61, (.getfield 82), 3), (64, (.tableswitch 109 1 11 #[60, 67, 109, 109, 74, 81, 88, 109, 95, 109, 102]), 60), (124, (.aload_n 0), 1), (125, (.invokevirtual 85), 3), (128, (.goto 53), 3), (131, (.aload_n 0), 1), (132, (.invokevirtual 88), 3), (135, (.goto 46), 3), (138, (.aload_n 0), 1), (139, (.invokevirtual 91), 3), (142, (.goto 39), 3), (145, (.aload_n 0), 1), (146, (.invokevirtual 94), 3), (149, (.goto 32), 3), (152, (.aload_n 0), 1), (153, (.invokevirtual 97), 3), (156, (.goto 25), 3), (159, (.aload_n 0), 1), (160, (.invokevirtual 100), 3), (163, (.goto 18), 3), (166, (.aload_n 0), 1), (167, (.invokevirtual 103), 3), (170, (.goto 11), 3), (173, (.aload_n 0), 1), (174, (.getfield 50), 3), (177, (.iconst 2), 1), (178, (.invokevirtual 106), 3), (181, (.iinc 3 1), 3), (184, (.goto (-144)), 3), (187, .return_, 1)]
set_option maxRecDepth 10000 in
theorem wc_N_readInto : Cond.code y_N_readInto.1 y_N_readInto.2.1 y_N_readInto.2.2.1 y_N_readInto.2.2.2.1 ∈ tbG := mG (mT2 228 rfl) rfl
set_option maxRecDepth 10000 in
theorem wi_N_readInto : Cond.instanceMethod y_N_readInto.1 ∈ tbG := mG (mT2 227 rfl) rfl
set_option maxRecDepth 10000 in
theorem wl_N_readInto : Cond.selects y_N_readInto.1.cls y_N_readInto.1 y_N_readInto.1 ∈ tbG := mG (mP1 (q := (_, 17)) 1 rfl) rfl
abbrev y_S_ofWay : MI := (⟨"LieOfTwo$Steps", "ofWay", "(II)I"⟩, prog_8_method_8_code, 2, (some .int), none)
def t_S_ofWay : List (Nat × Instr × Nat) := [(0, (.iload_n 0), 1), (1, (.tableswitch 45 18 20 #[27, 33, 39]), 27), (28, (.iload_n 1), 1), (29, (.iconst 3), 1), (30, .ishr, 1), (31, (.iconst 1), 1), (32, .iadd, 1), (33, .ireturn, 1), (34, (.iload_n 1), 1), (35, (.iconst 2), 1), (36, .ishr, 1), (37, (.iconst 1), 1), (38, .iand, 1), (39, .ireturn, 1), (40, (.iload_n 1), 1), (41, (.iconst 1), 1), (42, .ishr, 1), (43, (.iconst 1), 1), (44, .iand, 1), (45, .ireturn, 1), (46, (.iload_n 1), 1), (47, (.iconst 1), 1), (48, .iand, 1), (49, .ireturn, 1)]
set_option maxRecDepth 10000 in
theorem wc_S_ofWay : Cond.code y_S_ofWay.1 y_S_ofWay.2.1 y_S_ofWay.2.2.1 y_S_ofWay.2.2.2.1 ∈ tbG := mG (mT3 165 rfl) rfl
set_option maxRecDepth 10000 in
theorem ws_S_ofWay : Cond.static y_S_ofWay.1 ∈ tbG := mG (mT3 164 rfl) rfl
abbrev y_S_joined : MI := (⟨"LieOfTwo$Steps", "joined", "(III)I"⟩, prog_8_method_9_code, 3, (some .int), none)
def t_S_joined : List (Nat × Instr × Nat) := [(0, (.iload_n 0), 1), (1, (.lookupswitch 92 #[(43, 51), (45, 55), (60, 59), (61, 81), (62, 70)]), 51), (52, (.iload_n 1), 1), (53, (.iload_n 2), 1), (54, .iadd, 1), (55, .ireturn, 1), (56, (.iload_n 1), 1), (57, (.iload_n 2), 1), (58, .isub, 1), (59, .ireturn, 1), (60, (.iload_n 1), 1), (61, (.iload_n 2), 1), (62, (.if_icmp .ge 7), 3), (65, (.iconst 1), 1), (66, (.goto 4), 3), (69, (.iconst 0), 1), (70, .ireturn, 1), (71, (.iload_n 1), 1), (72, (.iload_n 2), 1), (73, (.if_icmp .le 7), 3), (76, (.iconst 1), 1), (77, (.goto 4), 3), (80, (.iconst 0), 1), (81, .ireturn, 1), (82, (.iload_n 1), 1), (83, (.iload_n 2), 1), (84, (.if_icmp .ne 7), 3), (87, (.iconst 1), 1), (88, (.goto 4), 3), (91, (.iconst 0), 1), (92, .ireturn, 1), (93, (.iload_n 1), 1), (94, (.ifCond .ne 7), 3), (97, (.iload_n 2), 1), (98, (.ifCond .eq 7), 3), (101, (.iconst 1), 1), (102, (.goto 4), 3), (105, (.iconst 0), 1), (106, .ireturn, 1)]
set_option maxRecDepth 10000 in
theorem wc_S_joined : Cond.code y_S_joined.1 y_S_joined.2.1 y_S_joined.2.2.1 y_S_joined.2.2.2.1 ∈ tbG := mG (mT3 168 rfl) rfl
set_option maxRecDepth 10000 in
theorem ws_S_joined : Cond.static y_S_joined.1 ∈ tbG := mG (mT3 167 rfl) rfl
abbrev y_S_value : MI := (⟨"LieOfTwo$Steps", "value", "(III)I"⟩, prog_8_method_7_code, 7, (some .int), none)
def t_S_value : List (Nat × Instr × Nat) := [(0, (.iconst 0), 1), (1, (.istore 4), 2), (3, (.iload_n 1), 1), (4, (.istore 5), 2), (6, (.iload 5), 2), (8, (.iload_n 2), 1), (9, (.if_icmp .ge 142), 3), (12, (.aload_n 0), 1), (13, (.getfield 9), 3), (16, (.iload 5), 2), (18, .iaload, 1), (19, (.sipush 255), 3), (22, .iand, 1), (23, (.istore 6), 2), (25, (.iload 6), 2), (27, (.bipush 22), 2), (29, (.if_icmp .eq 31), 3), (32, (.iload 6), 2), (34, (.bipush 18), 2), (36, (.if_icmp .eq 24), 3), (39, (.iload 6), 2), (41, (.bipush 19), 2), (43, (.if_icmp .eq 17), 3), (46, (.iload 6), 2), (48, (.bipush 20), 2), (50, (.if_icmp .eq 10), 3), (53, (.iload 6), 2), (55, (.bipush 17), 2), (57, (.if_icmp .ne 49), 3), (60, (.iload 4), 2), (62, (.bipush 25), 2), (64, (.if_icmp .ge 81), 3), (67, (.aload_n 0), 1), (68, (.getfield 19), 3), (71, (.iload 4), 2), (73, (.iload 6), 2), (75, (.bipush 22), 2), (77, (.if_icmp .ne 16), 3), (80, (.aload_n 0), 1), (81, (.getfield 9), 3), (84, (.iload 5), 2), (86, .iaload, 1), (87, (.bipush 8), 2), (89, .ishr, 1), (90, (.goto 9), 3), (93, (.iload 6), 2), (95, (.iload_n 3), 1), (96, (.invokestatic 65), 3), (99, .iastore, 1), (100, (.iinc 4 1), 3), (103, (.goto 42), 3), (106, (.iload 4), 2), (108, (.iconst 1), 1), (109, (.if_icmp .le 36), 3), (112, (.iinc 4 (-1)), 3), (115, (.aload_n 0), 1), (116, (.getfield 19), 3), (119, (.iload 4), 2), (121, (.iconst 1), 1), (122, .isub, 1), (123, (.iload 6), 2), (125, (.aload_n 0), 1), (126, (.getfield 19), 3), (129, (.iload 4), 2), (131, (.iconst 1), 1), (132, .isub, 1), (133, .iaload, 1), (134, (.aload_n 0), 1), (135, (.getfield 19), 3), (138, (.iload 4), 2), (140, .iaload, 1), (141, (.invokestatic 69), 3), (144, .iastore, 1), (145, (.iinc 5 1), 3), (148, (.goto (-142)), 3), (151, (.iload 4), 2), (153, (.ifCond .le 12), 3), (156, (.aload_n 0), 1), (157, (.getfield 19), 3), (160, (.iconst 0), 1), (161, .iaload, 1), (162, (.goto 4), 3), (165, (.iconst 0), 1), (166, .ireturn, 1)]
set_option maxRecDepth 10000 in
theorem wc_S_value : Cond.code y_S_value.1 y_S_value.2.1 y_S_value.2.2.1 y_S_value.2.2.2.1 ∈ tbG := mG (mT3 162 rfl) rfl
set_option maxRecDepth 10000 in
theorem wi_S_value : Cond.instanceMethod y_S_value.1 ∈ tbG := mG (mT3 161 rfl) rfl
set_option maxRecDepth 10000 in
theorem wl_S_value : Cond.selects y_S_value.1.cls y_S_value.1 y_S_value.1 ∈ tbG := mG (mP3 (q := (_, 4)) 8 rfl) rfl
abbrev y_N_fillLaw : MI := (⟨"LieOfTwo$Lines", "fillLaw", "()V"⟩, prog_5_method_33_code, 3, none, none)
def t_N_fillLaw : List (Nat × Instr × Nat) := [(0, (.aload_n 0), 1), (1, (.getfield 54), 3), (4, (.lconst 0), 1), (5, (.putfield 288), 3), (8, (.iconst 0), 1), (9, (.istore_n 1), 1), (10, (.iload_n 1), 1), (11, (.aload_n 0), 1), (12, (.getfield 54), 3), (15, (.getfield 140), 3), (18, (.iconst 3), 1), (19, .ishl, 1), (20, (.if_icmp .ge 74), 3), (23, (.aload_n 0), 1), (24, (.getfield 70), 3), (27, (.ifCond .eq 30), 3), (30, (.aload_n 0), 1), (31, (.getfield 12), 3), (34, (.aload_n 0), 1), (35, (.getfield 209), 3), (38, (.aload_n 0), 1), (39, (.getfield 215), 3), (42, (.iload_n 1), 1), (43, (.invokevirtual 291), 3), (46, (.ifCond .eq 7), 3), (49, (.iconst 1), 1), (50, (.goto 18), 3), (53, (.iconst 0), 1), (54, (.goto 14), 3), (57, (.iload_n 1), 1), (58, (.iconst 3), 1), (59, .ishr, 1), (60, (.ifCond .le 7), 3), (63, (.iconst 1), 1), (64, (.goto 4), 3), (67, (.iconst 0), 1), (68, (.istore_n 2), 1), (69, (.iload_n 2), 1), (70, (.ifCond .eq 18), 3), (73, (.aload_n 0), 1), (74, (.getfield 54), 3), (77, .dup, 1), (78, (.getfield 288), 3), (81, (.lconst 1), 1), (82, (.iload_n 1), 1), (83, .lshl, 1), (84, .lor, 1), (85, (.putfield 288), 3), (88, (.iinc 1 1), 3), (91, (.goto (-81)), 3), (94, .return_, 1)]
set_option maxRecDepth 10000 in
theorem wc_N_fillLaw : Cond.code y_N_fillLaw.1 y_N_fillLaw.2.1 y_N_fillLaw.2.2.1 y_N_fillLaw.2.2.2.1 ∈ tbG := mG (mT3 158 rfl) rfl
set_option maxRecDepth 10000 in
theorem wi_N_fillLaw : Cond.instanceMethod y_N_fillLaw.1 ∈ tbG := mG (mT3 157 rfl) rfl
set_option maxRecDepth 10000 in
theorem wl_N_fillLaw : Cond.selects y_N_fillLaw.1.cls y_N_fillLaw.1 y_N_fillLaw.1 ∈ tbG := mG (mP3 (q := (_, 17)) 7 rfl) rfl
abbrev y_T_allOfWord : MI := (⟨"LieOfTwo$Town", "allOfWord", "()J"⟩, prog_10_method_21_code, 1, (some .long), none)
def t_T_allOfWord : List (Nat × Instr × Nat) := [(0, (.aload_n 0), 1), (1, (.getfield 49), 3), (4, (.bipush 6), 2), (6, (.if_icmp .lt 9), 3), (9, (.ldc2_w 122), 3), (12, (.goto 13), 3), (15, (.lconst 1), 1), (16, (.iconst 1), 1), (17, (.aload_n 0), 1), (18, (.getfield 49), 3), (21, .ishl, 1), (22, .lshl, 1), (23, (.lconst 1), 1), (24, .lsub, 1), (25, .lreturn, 1)]
set_option maxRecDepth 10000 in
theorem wc_T_allOfWord : Cond.code y_T_allOfWord.1 y_T_allOfWord.2.1 y_T_allOfWord.2.2.1 y_T_allOfWord.2.2.2.1 ∈ tbG := mG (mT3 186 rfl) rfl
set_option maxRecDepth 10000 in
theorem wi_T_allOfWord : Cond.instanceMethod y_T_allOfWord.1 ∈ tbG := mG (mT3 185 rfl) rfl
set_option maxRecDepth 10000 in
theorem wl_T_allOfWord : Cond.selects y_T_allOfWord.1.cls y_T_allOfWord.1 y_T_allOfWord.1 ∈ tbG := mG (mP3 (q := (_, 19)) 12 rfl) rfl
abbrev y_S_push : MI := (⟨"LieOfTwo$Steps", "push", "(LLieOfTwo$Town;III)V"⟩, prog_8_method_4_code, 6, none, none)
def t_S_push : List (Nat × Instr × Nat) := [(0, (.iconst 0), 1), (1, (.istore 5), 2), (3, (.iload 5), 2), (5, (.aload_n 1), 1), (6, (.getfield 37), 3), (9, (.if_icmp .ge 96), 3), (12, (.iload_n 2), 1), (13, (.iconst 5), 1), (14, (.if_icmp .ne 27), 3), (17, (.aload_n 0), 1), (18, (.getfield 15), 3), (21, (.iload 4), 2), (23, (.iload 5), 2), (25, .iadd, 1), (26, (.aload_n 1), 1), (27, (.getfield 42), 3), (30, (.iload_n 3), 1), (31, (.iconst 4), 1), (32, .imul, 1), (33, (.iload 5), 2), (35, .iadd, 1), (36, .laload, 1), (37, .lastore, 1), (38, (.goto 61), 3), (41, (.iload_n 3), 1), (42, (.bipush 6), 2), (44, (.if_icmp .ge 26), 3), (47, (.aload_n 0), 1), (48, (.getfield 15), 3), (51, (.iload 4), 2), (53, (.iload 5), 2), (55, .iadd, 1), (56, (.getstatic 45), 3), (59, (.iload_n 3), 1), (60, .laload, 1), (61, (.aload_n 1), 1), (62, (.invokevirtual 48), 3), (65, .land, 1), (66, .lastore, 1), (67, (.goto 32), 3), (70, (.aload_n 0), 1), (71, (.getfield 15), 3), (74, (.iload 4), 2), (76, (.iload 5), 2), (78, .iadd, 1), (79, (.iload 5), 2), (81, (.iload_n 3), 1), (82, (.bipush 6), 2), (84, .isub, 1), (85, (.invokestatic 52), 3), (88, (.ifCond .eq 9), 3), (91, (.ldc2_w 56), 3), (94, (.goto 4), 3), (97, (.lconst 0), 1), (98, .lastore, 1), (99, (.iinc 5 1), 3), (102, (.goto (-99)), 3), (105, .return_, 1)]
set_option maxRecDepth 10000 in
theorem wc_S_push : Cond.code y_S_push.1 y_S_push.2.1 y_S_push.2.2.1 y_S_push.2.2.2.1 ∈ tbG := mG (mT3 180 rfl) rfl
set_option maxRecDepth 10000 in
theorem wi_S_push : Cond.instanceMethod y_S_push.1 ∈ tbG := mG (mT3 179 rfl) rfl
set_option maxRecDepth 10000 in
theorem wl_S_push : Cond.selects y_S_push.1.cls y_S_push.1 y_S_push.1 ∈ tbG := mG (mP3 (q := (_, 4)) 11 rfl) rfl
abbrev y_S_join : MI := (⟨"LieOfTwo$Steps", "join", "(LLieOfTwo$Town;II)V"⟩, prog_8_method_5_code, 9, none, none)
def t_S_join : List (Nat × Instr × Nat) := [(0, (.iconst 0), 1), (1, (.istore 4), 2), (3, (.iload 4), 2), (5, (.aload_n 1), 1), (6, (.getfield 37), 3), (9, (.if_icmp .ge 102), 3), (12, (.aload_n 0), 1), (13, (.getfield 15), 3), (16, (.iload_n 3), 1), (17, (.iload 4), 2), (19, .iadd, 1), (20, .laload, 1), (21, (.lstore 5), 2), (23, (.aload_n 0), 1), (24, (.getfield 15), 3), (27, (.iload_n 3), 1), (28, (.iconst 4), 1), (29, .iadd, 1), (30, (.iload 4), 2), (32, .iadd, 1), (33, .laload, 1), (34, (.lstore 7), 2), (36, (.iload_n 2), 1), (37, (.bipush 14), 2), (39, (.if_icmp .ne 20), 3), (42, (.aload_n 0), 1), (43, (.getfield 15), 3), (46, (.iload_n 3), 1), (47, (.iload 4), 2), (49, .iadd, 1), (50, (.lload 5), 2), (52, (.lload 7), 2), (54, .land, 1), (55, .lastore, 1), (56, (.goto 49), 3), (59, (.iload_n 2), 1), (60, (.bipush 13), 2), (62, (.if_icmp .ne 20), 3), (65, (.aload_n 0), 1), (66, (.getfield 15), 3), (69, (.iload_n 3), 1), (70, (.iload 4), 2), (72, .iadd, 1), (73, (.lload 5), 2), (75, (.lload 7), 2), (77, .lor, 1), (78, .lastore, 1), (79, (.goto 26), 3), (82, (.aload_n 0), 1), (83, (.getfield 15), 3), (86, (.iload_n 3), 1), (87, (.iload 4), 2), (89, .iadd, 1), (90, (.lload 5), 2), (92, (.lload 7), 2), (94, (.ldc2_w 56), 3), (97, .lxor, 1), (98, (.aload_n 1), 1), (99, (.invokevirtual 48), 3), (102, .land, 1), (103, .lor, 1), (104, .lastore, 1), (105, (.iinc 4 1), 3), (108, (.goto (-105)), 3), (111, .return_, 1)]
set_option maxRecDepth 10000 in
theorem wc_S_join : Cond.code y_S_join.1 y_S_join.2.1 y_S_join.2.2.1 y_S_join.2.2.2.1 ∈ tbG := mG (mT3 193 rfl) rfl
set_option maxRecDepth 10000 in
theorem wi_S_join : Cond.instanceMethod y_S_join.1 ∈ tbG := mG (mT3 192 rfl) rfl
set_option maxRecDepth 10000 in
theorem wl_S_join : Cond.selects y_S_join.1.cls y_S_join.1 y_S_join.1 ∈ tbG := mG (mP3 (q := (_, 4)) 13 rfl) rfl
abbrev y_T_flip : MI := (⟨"LieOfTwo$Town", "flip", "([JI)V"⟩, prog_10_method_26_code, 4, none, none)
def t_T_flip : List (Nat × Instr × Nat) := [(0, (.iconst 0), 1), (1, (.istore_n 3), 1), (2, (.iload_n 3), 1), (3, (.aload_n 0), 1), (4, (.getfield 68), 3), (7, (.if_icmp .ge 30), 3), (10, (.aload_n 1), 1), (11, (.iload_n 2), 1), (12, (.iload_n 3), 1), (13, .iadd, 1), (14, (.aload_n 1), 1), (15, (.iload_n 2), 1), (16, (.iload_n 3), 1), (17, .iadd, 1), (18, .laload, 1), (19, (.ldc2_w 122), 3), (22, .lxor, 1), (23, (.aload_n 0), 1), (24, (.getfield 33), 3), (27, (.iload_n 3), 1), (28, .laload, 1), (29, .land, 1), (30, .lastore, 1), (31, (.iinc 3 1), 3), (34, (.goto (-32)), 3), (37, .return_, 1)]
set_option maxRecDepth 10000 in
theorem wc_T_flip : Cond.code y_T_flip.1 y_T_flip.2.1 y_T_flip.2.2.1 y_T_flip.2.2.2.1 ∈ tbG := mG (mT3 205 rfl) rfl
set_option maxRecDepth 10000 in
theorem wi_T_flip : Cond.instanceMethod y_T_flip.1 ∈ tbG := mG (mT3 204 rfl) rfl
set_option maxRecDepth 10000 in
theorem wl_T_flip : Cond.selects y_T_flip.1.cls y_T_flip.1 y_T_flip.1 ∈ tbG := mG (mP4 (q := (_, 19)) 0 rfl) rfl
abbrev y_T_keepBase : MI := (⟨"LieOfTwo$Town", "keepBase", "([JI)V"⟩, prog_10_method_23_code, 4, none, none)
def t_T_keepBase : List (Nat × Instr × Nat) := [(0, (.iconst 0), 1), (1, (.istore_n 3), 1), (2, (.iload_n 3), 1), (3, (.aload_n 0), 1), (4, (.getfield 68), 3), (7, (.if_icmp .ge 23), 3), (10, (.aload_n 1), 1), (11, (.iload_n 2), 1), (12, (.iload_n 3), 1), (13, .iadd, 1), (14, .dup2, 1), (15, .laload, 1), (16, (.aload_n 0), 1), (17, (.getfield 33), 3), (20, (.iload_n 3), 1), (21, .laload, 1), (22, .land, 1), (23, .lastore, 1), (24, (.iinc 3 1), 3), (27, (.goto (-25)), 3), (30, .return_, 1)]
set_option maxRecDepth 10000 in
theorem wc_T_keepBase : Cond.code y_T_keepBase.1 y_T_keepBase.2.1 y_T_keepBase.2.2.1 y_T_keepBase.2.2.2.1 ∈ tbG := mG (mT3 213 rfl) rfl
set_option maxRecDepth 10000 in
theorem wi_T_keepBase : Cond.instanceMethod y_T_keepBase.1 ∈ tbG := mG (mT3 212 rfl) rfl
set_option maxRecDepth 10000 in
theorem wl_T_keepBase : Cond.selects y_T_keepBase.1.cls y_T_keepBase.1 y_T_keepBase.1 ∈ tbG := mG (mP4 (q := (_, 19)) 2 rfl) rfl
abbrev y_T_forget : MI := (⟨"LieOfTwo$Town", "forget", "([JII)V"⟩, prog_10_method_24_code, 10, none, none)
def t_T_forget : List (Nat × Instr × Nat) := [(0, (.iload_n 3), 1), (1, (.bipush 6), 2), (3, (.if_icmp .ge 70), 3), (6, (.iconst 1), 1), (7, (.iload_n 3), 1), (8, .ishl, 1), (9, (.istore 4), 2), (11, (.getstatic 149), 3), (14, (.iload_n 3), 1), (15, .laload, 1), (16, (.lstore 5), 2), (18, (.iload_n 2), 1), (19, (.istore 7), 2), (21, (.iload 7), 2), (23, (.iload_n 2), 1), (24, (.aload_n 0), 1), (25, (.getfield 68), 3), (28, .iadd, 1), (29, (.if_icmp .ge 43), 3), (32, (.aload_n 1), 1), (33, (.iload 7), 2), (35, .laload, 1), (36, (.lstore 8), 2), (38, (.aload_n 1), 1), (39, (.iload 7), 2), (41, (.lload 8), 2), (43, (.lload 8), 2), (45, (.lload 5), 2), (47, .land, 1), (48, (.iload 4), 2), (50, .lushr, 1), (51, .lor, 1), (52, (.lload 8), 2), (54, (.lload 5), 2), (56, (.ldc2_w 122), 3), (59, .lxor, 1), (60, .land, 1), (61, (.iload 4), 2), (63, .lshl, 1), (64, .lor, 1), (65, .lastore, 1), (66, (.iinc 7 1), 3), (69, (.goto (-48)), 3), (72, .return_, 1), (73, (.iconst 1), 1), (74, (.iload_n 3), 1), (75, (.bipush 6), 2), (77, .isub, 1), (78, .ishl, 1), (79, (.istore 4), 2), (81, (.iconst 0), 1), (82, (.istore 5), 2), (84, (.iload 5), 2), (86, (.iload 4), 2), (88, .iadd, 1), (89, (.aload_n 0), 1), (90, (.getfield 68), 3), (93, (.if_icmp .ge 54), 3), (96, (.iload 5), 2), (98, (.iload 4), 2), (100, .iand, 1), (101, (.ifCond .ne 40), 3), (104, (.aload_n 1), 1), (105, (.iload_n 2), 1), (106, (.iload 5), 2), (108, .iadd, 1), (109, .laload, 1), (110, (.aload_n 1), 1), (111, (.iload_n 2), 1), (112, (.iload 5), 2), (114, .iadd, 1), (115, (.iload 4), 2), (117, .iadd, 1), (118, .laload, 1), (119, .lor, 1), (120, (.lstore 6), 2), (122, (.aload_n 1), 1), (123, (.iload_n 2), 1), (124, (.iload 5), 2), (126, .iadd, 1), (127, (.lload 6), 2), (129, .lastore, 1), (130, (.aload_n 1), 1), (131, (.iload_n 2), 1), (132, (.iload 5), 2), (134, .iadd, 1), (135, (.iload 4), 2), (137, .iadd, 1), (138, (.lload 6), 2), (140, .lastore, 1), (141, (.iinc 5 1), 3), (144, (.goto (-60)), 3), (147, .return_, 1)]
set_option maxRecDepth 10000 in
theorem wc_T_forget : Cond.code y_T_forget.1 y_T_forget.2.1 y_T_forget.2.2.1 y_T_forget.2.2.2.1 ∈ tbG := mG (mT3 218 rfl) rfl
set_option maxRecDepth 10000 in
theorem wi_T_forget : Cond.instanceMethod y_T_forget.1 ∈ tbG := mG (mT3 217 rfl) rfl
set_option maxRecDepth 10000 in
theorem wl_T_forget : Cond.selects y_T_forget.1.cls y_T_forget.1 y_T_forget.1 ∈ tbG := mG (mP4 (q := (_, 19)) 3 rfl) rfl
abbrev y_T_widen : MI := (⟨"LieOfTwo$Town", "widen", "([JII)V"⟩, prog_10_method_22_code, 5, none, none)
def t_T_widen : List (Nat × Instr × Nat) := [(0, (.aload_n 0), 1), (1, (.aload_n 1), 1), (2, (.iload_n 2), 1), (3, (.invokevirtual 141), 3), (6, (.iconst 0), 1), (7, (.istore 4), 2), (9, (.iload 4), 2), (11, (.aload_n 0), 1), (12, (.getfield 49), 3), (15, (.if_icmp .ge 31), 3), (18, (.aload_n 0), 1), (19, (.getfield 15), 3), (22, (.iload_n 3), 1), (23, .iaload, 1), (24, (.iload 4), 2), (26, (.invokestatic 94), 3), (29, (.ifCond .ne 11), 3), (32, (.aload_n 0), 1), (33, (.aload_n 1), 1), (34, (.iload_n 2), 1), (35, (.iload 4), 2), (37, (.invokevirtual 145), 3), (40, (.iinc 4 1), 3), (43, (.goto (-34)), 3), (46, (.aload_n 0), 1), (47, (.aload_n 1), 1), (48, (.iload_n 2), 1), (49, (.invokevirtual 141), 3), (52, .return_, 1)]
set_option maxRecDepth 10000 in
theorem wc_T_widen : Cond.code y_T_widen.1 y_T_widen.2.1 y_T_widen.2.2.1 y_T_widen.2.2.2.1 ∈ tbG := mG (mT3 209 rfl) rfl
set_option maxRecDepth 10000 in
theorem wi_T_widen : Cond.instanceMethod y_T_widen.1 ∈ tbG := mG (mT3 208 rfl) rfl
set_option maxRecDepth 10000 in
theorem wl_T_widen : Cond.selects y_T_widen.1.cls y_T_widen.1 y_T_widen.1 ∈ tbG := mG (mP4 (q := (_, 19)) 1 rfl) rfl
abbrev y_T_keepHeld : MI := (⟨"LieOfTwo$Town", "keepHeld", "([JII)V"⟩, prog_10_method_25_code, 4, none, none)
def t_T_keepHeld : List (Nat × Instr × Nat) := [(0, (.aload_n 0), 1), (1, (.aload_n 1), 1), (2, (.iload_n 2), 1), (3, (.invokevirtual 152), 3), (6, (.aload_n 0), 1), (7, (.aload_n 1), 1), (8, (.iload_n 2), 1), (9, (.iload_n 3), 1), (10, (.invokevirtual 155), 3), (13, (.aload_n 0), 1), (14, (.aload_n 1), 1), (15, (.iload_n 2), 1), (16, (.invokevirtual 152), 3), (19, .return_, 1)]
set_option maxRecDepth 10000 in
theorem wc_T_keepHeld : Cond.code y_T_keepHeld.1 y_T_keepHeld.2.1 y_T_keepHeld.2.2.1 y_T_keepHeld.2.2.2.1 ∈ tbG := mG (mT3 201 rfl) rfl
set_option maxRecDepth 10000 in
theorem wi_T_keepHeld : Cond.instanceMethod y_T_keepHeld.1 ∈ tbG := mG (mT3 200 rfl) rfl
set_option maxRecDepth 10000 in
theorem wl_T_keepHeld : Cond.selects y_T_keepHeld.1.cls y_T_keepHeld.1 y_T_keepHeld.1 ∈ tbG := mG (mP3 (q := (_, 19)) 15 rfl) rfl
abbrev y_S_change : MI := (⟨"LieOfTwo$Steps", "change", "(LLieOfTwo$Town;III)V"⟩, prog_8_method_6_code, 6, none, none)
def t_S_change : List (Nat × Instr × Nat) := [(0, (.iload_n 2), 1), (1, (.bipush 16), 2), (3, (.if_icmp .ne 17), 3), (6, (.aload_n 1), 1), (7, (.aload_n 0), 1), (8, (.getfield 15), 3), (11, (.iload 4), 2), (13, (.iload_n 3), 1), (14, (.invokevirtual 58), 3), (17, (.goto 70), 3), (20, (.iload_n 2), 1), (21, (.bipush 17), 2), (23, (.if_icmp .ne 17), 3), (26, (.aload_n 1), 1), (27, (.aload_n 0), 1), (28, (.getfield 15), 3), (31, (.iload 4), 2), (33, (.iload_n 3), 1), (34, (.invokevirtual 62), 3), (37, (.goto 50), 3), (40, (.iconst 0), 1), (41, (.istore 5), 2), (43, (.iload 5), 2), (45, (.aload_n 1), 1), (46, (.getfield 37), 3), (49, (.if_icmp .ge 38), 3), (52, (.aload_n 0), 1), (53, (.getfield 15), 3), (56, (.iload 4), 2), (58, (.iload 5), 2), (60, .iadd, 1), (61, (.aload_n 0), 1), (62, (.getfield 15), 3), (65, (.iload 4), 2), (67, (.iload 5), 2), (69, .iadd, 1), (70, .laload, 1), (71, (.ldc2_w 56), 3), (74, .lxor, 1), (75, (.aload_n 1), 1), (76, (.invokevirtual 48), 3), (79, .land, 1), (80, .lastore, 1), (81, (.iinc 5 1), 3), (84, (.goto (-41)), 3), (87, .return_, 1)]
set_option maxRecDepth 10000 in
theorem wc_S_change : Cond.code y_S_change.1 y_S_change.2.1 y_S_change.2.2.1 y_S_change.2.2.2.1 ∈ tbG := mG (mT3 197 rfl) rfl
set_option maxRecDepth 10000 in
theorem wi_S_change : Cond.instanceMethod y_S_change.1 ∈ tbG := mG (mT3 196 rfl) rfl
set_option maxRecDepth 10000 in
theorem wl_S_change : Cond.selects y_S_change.1.cls y_S_change.1 y_S_change.1 ∈ tbG := mG (mP3 (q := (_, 4)) 14 rfl) rfl
abbrev y_S_putSet : MI := (⟨"LieOfTwo$Steps", "putSet", "(LLieOfTwo$Town;II)V"⟩, prog_8_method_3_code, 8, none, none)
def t_S_putSet : List (Nat × Instr × Nat) := [(0, (.iconst 0), 1), (1, (.istore 4), 2), (3, (.iload_n 2), 1), (4, (.istore 5), 2), (6, (.iload 5), 2), (8, (.iload_n 3), 1), (9, (.if_icmp .ge 138), 3), (12, (.aload_n 0), 1), (13, (.getfield 9), 3), (16, (.iload 5), 2), (18, .iaload, 1), (19, (.sipush 255), 3), (22, .iand, 1), (23, (.istore 6), 2), (25, (.aload_n 0), 1), (26, (.getfield 9), 3), (29, (.iload 5), 2), (31, .iaload, 1), (32, (.bipush 8), 2), (34, .ishr, 1), (35, (.istore 7), 2), (37, (.iload 6), 2), (39, (.iconst 1), 1), (40, (.if_icmp .eq 9), 3), (43, (.iload 6), 2), (45, (.iconst 5), 1), (46, (.if_icmp .ne 29), 3), (49, (.iload 4), 2), (51, (.bipush 25), 2), (53, (.if_icmp .ge 88), 3), (56, (.aload_n 0), 1), (57, (.aload_n 1), 1), (58, (.iload 6), 2), (60, (.iload 7), 2), (62, (.iload 4), 2), (64, (.iconst 4), 1), (65, .imul, 1), (66, (.invokevirtual 26), 3), (69, (.iinc 4 1), 3), (72, (.goto 69), 3), (75, (.iload 6), 2), (77, (.bipush 14), 2), (79, (.if_icmp .eq 17), 3), (82, (.iload 6), 2), (84, (.bipush 13), 2), (86, (.if_icmp .eq 10), 3), (89, (.iload 6), 2), (91, (.bipush 12), 2), (93, (.if_icmp .ne 28), 3), (96, (.iload 4), 2), (98, (.iconst 1), 1), (99, (.if_icmp .le 42), 3), (102, (.iinc 4 (-1)), 3), (105, (.aload_n 0), 1), (106, (.aload_n 1), 1), (107, (.iload 6), 2), (109, (.iload 4), 2), (111, (.iconst 1), 1), (112, .isub, 1), (113, (.iconst 4), 1), (114, .imul, 1), (115, (.invokevirtual 30), 3), (118, (.goto 23), 3), (121, (.iload 4), 2), (123, (.ifCond .le 18), 3), (126, (.aload_n 0), 1), (127, (.aload_n 1), 1), (128, (.iload 6), 2), (130, (.iload 7), 2), (132, (.iload 4), 2), (134, (.iconst 1), 1), (135, .isub, 1), (136, (.iconst 4), 1), (137, .imul, 1), (138, (.invokevirtual 34), 3), (141, (.iinc 5 1), 3), (144, (.goto (-138)), 3), (147, .return_, 1)]
set_option maxRecDepth 10000 in
theorem wc_S_putSet : Cond.code y_S_putSet.1 y_S_putSet.2.1 y_S_putSet.2.2.1 y_S_putSet.2.2.2.1 ∈ tbG := mG (mT3 176 rfl) rfl
set_option maxRecDepth 10000 in
theorem wi_S_putSet : Cond.instanceMethod y_S_putSet.1 ∈ tbG := mG (mT3 175 rfl) rfl
set_option maxRecDepth 10000 in
theorem wl_S_putSet : Cond.selects y_S_putSet.1.cls y_S_putSet.1 y_S_putSet.1 ∈ tbG := mG (mP3 (q := (_, 4)) 10 rfl) rfl
abbrev y_N_fillRows : MI := (⟨"LieOfTwo$Lines", "fillRows", "(Z)V"⟩, prog_5_method_32_code, 3, none, none)
def t_N_fillRows : List (Nat × Instr × Nat) := [(0, (.iconst 0), 1), (1, (.istore_n 2), 1), (2, (.iload_n 2), 1), (3, (.aload_n 0), 1), (4, (.getfield 54), 3), (7, (.getfield 137), 3), (10, (.if_icmp .ge 70), 3), (13, (.aload_n 0), 1), (14, (.getfield 35), 3), (17, (.iload_n 2), 1), (18, .baload, 1), (19, (.iload_n 1), 1), (20, (.if_icmp .ne 54), 3), (23, (.aload_n 0), 1), (24, (.getfield 12), 3), (27, (.aload_n 0), 1), (28, (.getfield 54), 3), (31, (.aload_n 0), 1), (32, (.getfield 28), 3), (35, (.iload_n 2), 1), (36, .iaload, 1), (37, (.aload_n 0), 1), (38, (.getfield 32), 3), (41, (.iload_n 2), 1), (42, .iaload, 1), (43, (.invokevirtual 265), 3), (46, (.aload_n 0), 1), (47, (.getfield 12), 3), (50, (.getfield 269), 3), (53, (.iconst 0), 1), (54, (.aload_n 0), 1), (55, (.getfield 54), 3), (58, (.getfield 285), 3), (61, (.iload_n 2), 1), (62, (.iconst 4), 1), (63, .imul, 1), (64, (.aload_n 0), 1), (65, (.getfield 54), 3), (68, (.getfield 250), 3), (71, (.invokestatic 276), 3), (74, (.iinc 2 1), 3), (77, (.goto (-75)), 3), (80, .return_, 1)]
set_option maxRecDepth 10000 in
theorem wc_N_fillRows : Cond.code y_N_fillRows.1 y_N_fillRows.2.1 y_N_fillRows.2.2.1 y_N_fillRows.2.2.2.1 ∈ tbG := mG (mT3 172 rfl) rfl
set_option maxRecDepth 10000 in
theorem wi_N_fillRows : Cond.instanceMethod y_N_fillRows.1 ∈ tbG := mG (mT3 171 rfl) rfl
set_option maxRecDepth 10000 in
theorem wl_N_fillRows : Cond.selects y_N_fillRows.1.cls y_N_fillRows.1 y_N_fillRows.1 ∈ tbG := mG (mP3 (q := (_, 17)) 9 rfl) rfl
abbrev y_T_place : MI := (⟨"LieOfTwo$Town", "place", "(II)I"⟩, prog_10_method_11_code, 2, (some .int), none)
def t_T_place : List (Nat × Instr × Nat) := [(0, (.iload_n 0), 1), (1, (.bipush 12), 2), (3, .imul, 1), (4, (.iload_n 1), 1), (5, .iadd, 1), (6, (.iconst 4), 1), (7, .imul, 1), (8, .ireturn, 1)]
set_option maxRecDepth 10000 in
theorem wc_T_place : Cond.code y_T_place.1 y_T_place.2.1 y_T_place.2.2.1 y_T_place.2.2.2.1 ∈ tbG := mG (mT3 232 rfl) rfl
set_option maxRecDepth 10000 in
theorem ws_T_place : Cond.static y_T_place.1 ∈ tbG := mG (mT3 231 rfl) rfl
abbrev y_T_fillAnswers : MI := (⟨"LieOfTwo$Town", "fillAnswers", "()V"⟩, prog_10_method_27_code, 4, none, none)
def t_T_fillAnswers : List (Nat × Instr × Nat) := [(0, (.iconst 0), 1), (1, (.istore_n 1), 1), (2, (.iload_n 1), 1), (3, (.aload_n 0), 1), (4, (.getfield 53), 3), (7, (.if_icmp .ge 98), 3), (10, (.iconst 0), 1), (11, (.istore_n 2), 1), (12, (.iload_n 2), 1), (13, (.aload_n 0), 1), (14, (.getfield 56), 3), (17, (.if_icmp .ge 82), 3), (20, (.iload_n 1), 1), (21, (.iload_n 2), 1), (22, (.invokestatic 86), 3), (25, (.istore_n 3), 1), (26, (.aload_n 0), 1), (27, (.getfield 37), 3), (30, (.iload_n 2), 1), (31, (.iconst 4), 1), (32, .imul, 1), (33, (.aload_n 0), 1), (34, (.getfield 40), 3), (37, (.iload_n 3), 1), (38, (.aload_n 0), 1), (39, (.getfield 68), 3), (42, (.invokestatic 112), 3), (45, (.aload_n 0), 1), (46, (.aload_n 0), 1), (47, (.getfield 40), 3), (50, (.iload_n 3), 1), (51, (.iload_n 1), 1), (52, (.invokevirtual 158), 3), (55, (.aload_n 0), 1), (56, (.getfield 37), 3), (59, (.iload_n 2), 1), (60, (.iconst 4), 1), (61, .imul, 1), (62, (.aload_n 0), 1), (63, (.getfield 43), 3), (66, (.iload_n 3), 1), (67, (.aload_n 0), 1), (68, (.getfield 68), 3), (71, (.invokestatic 112), 3), (74, (.aload_n 0), 1), (75, (.aload_n 0), 1), (76, (.getfield 43), 3), (79, (.iload_n 3), 1), (80, (.iload_n 1), 1), (81, (.invokevirtual 155), 3), (84, (.aload_n 0), 1), (85, (.aload_n 0), 1), (86, (.getfield 43), 3), (89, (.iload_n 3), 1), (90, (.invokevirtual 152), 3), (93, (.iinc 2 1), 3), (96, (.goto (-84)), 3), (99, (.iinc 1 1), 3), (102, (.goto (-100)), 3), (105, .return_, 1)]
set_option maxRecDepth 10000 in
theorem wc_T_fillAnswers : Cond.code y_T_fillAnswers.1 y_T_fillAnswers.2.1 y_T_fillAnswers.2.2.1 y_T_fillAnswers.2.2.2.1 ∈ tbG := mG (mT3 229 rfl) rfl
set_option maxRecDepth 10000 in
theorem wi_T_fillAnswers : Cond.instanceMethod y_T_fillAnswers.1 ∈ tbG := mG (mT3 228 rfl) rfl
set_option maxRecDepth 10000 in
theorem wl_T_fillAnswers : Cond.selects y_T_fillAnswers.1.cls y_T_fillAnswers.1 y_T_fillAnswers.1 ∈ tbG := mG (mP4 (q := (_, 19)) 4 rfl) rfl
abbrev y_N_settle : MI := (⟨"LieOfTwo$Lines", "settle", "()V"⟩, prog_5_method_31_code, 2, none, none)
def t_N_settle : List (Nat × Instr × Nat) := [(0, (.aload_n 0), 1), (1, (.getfield 54), 3), (4, (.aload_n 0), 1), (5, (.getfield 54), 3), (8, (.getfield 130), 3), (11, (.bipush 6), 2), (13, (.if_icmp .gt 7), 3), (16, (.iconst 1), 1), (17, (.goto 15), 3), (20, (.iconst 1), 1), (21, (.aload_n 0), 1), (22, (.getfield 54), 3), (25, (.getfield 130), 3), (28, (.bipush 6), 2), (30, .isub, 1), (31, .ishl, 1), (32, (.putfield 250), 3), (35, (.aload_n 0), 1), (36, (.invokevirtual 253), 3), (39, (.aload_n 0), 1), (40, (.iconst 0), 1), (41, (.invokevirtual 256), 3), (44, (.iconst 0), 1), (45, (.istore_n 1), 1), (46, (.iload_n 1), 1), (47, (.aload_n 0), 1), (48, (.getfield 54), 3), (51, (.getfield 250), 3), (54, (.if_icmp .ge 25), 3), (57, (.aload_n 0), 1), (58, (.getfield 54), 3), (61, (.getfield 259), 3), (64, (.iload_n 1), 1), (65, (.aload_n 0), 1), (66, (.getfield 54), 3), (69, (.invokevirtual 262), 3), (72, .lastore, 1), (73, (.iinc 1 1), 3), (76, (.goto (-30)), 3), (79, (.iconst 0), 1), (80, (.istore_n 1), 1), (81, (.iload_n 1), 1), (82, (.aload_n 0), 1), (83, (.getfield 67), 3), (86, (.if_icmp .ge 73), 3), (89, (.aload_n 0), 1), (90, (.getfield 12), 3), (93, (.aload_n 0), 1), (94, (.getfield 54), 3), (97, (.aload_n 0), 1), (98, (.getfield 39), 3), (101, (.iload_n 1), 1), (102, .iaload, 1), (103, (.aload_n 0), 1), (104, (.getfield 42), 3), (107, (.iload_n 1), 1), (108, .iaload, 1), (109, (.invokevirtual 265), 3), (112, (.aload_n 0), 1), (113, (.getfield 54), 3), (116, (.aload_n 0), 1), (117, (.getfield 12), 3), (120, (.getfield 269), 3), (123, (.iconst 0), 1), (124, (.invokevirtual 272), 3), (127, (.aload_n 0), 1), (128, (.getfield 12), 3), (131, (.getfield 269), 3), (134, (.iconst 0), 1), (135, (.aload_n 0), 1), (136, (.getfield 54), 3), (139, (.getfield 259), 3), (142, (.iconst 0), 1), (143, (.aload_n 0), 1), (144, (.getfield 54), 3), (147, (.getfield 250), 3), (150, (.invokestatic 276), 3), (153, (.iinc 1 1), 3), (156, (.goto (-75)), 3), (159, (.aload_n 0), 1), (160, (.iconst 1), 1), (161, (.invokevirtual 256), 3), (164, (.aload_n 0), 1), (165, (.getfield 54), 3), (168, (.invokevirtual 282), 3), (171, .return_, 1)]
set_option maxRecDepth 10000 in
theorem wc_N_settle : Cond.code y_N_settle.1 y_N_settle.2.1 y_N_settle.2.2.1 y_N_settle.2.2.2.1 ∈ tbG := mG (mT3 154 rfl) rfl
set_option maxRecDepth 10000 in
theorem wi_N_settle : Cond.instanceMethod y_N_settle.1 ∈ tbG := mG (mT3 153 rfl) rfl
set_option maxRecDepth 10000 in
theorem wl_N_settle : Cond.selects y_N_settle.1.cls y_N_settle.1 y_N_settle.1 ∈ tbG := mG (mP3 (q := (_, 17)) 6 rfl) rfl
abbrev y_X_putFour : MI := (⟨"LieOfTwo", "putFour", "(I)V"⟩, prog_1_method_3_code, 3, none, none)
def t_X_putFour : List (Nat × Instr × Nat) := [(0, (.bipush 24), 2), (2, (.istore_n 2), 1), (3, (.iload_n 2), 1), (4, (.ifCond .lt 42), 3), (7, (.aload_n 0), 1), (8, (.getfield 82), 3), (11, (.sipush 1600), 3), (14, (.if_icmp .ge 32), 3), (17, (.aload_n 0), 1), (18, (.getfield 9), 3), (21, (.aload_n 0), 1), (22, (.getfield 82), 3), (25, (.iload_n 1), 1), (26, (.iload_n 2), 1), (27, .ishr, 1), (28, .i2b, 1), (29, .bastore, 1), (30, (.aload_n 0), 1), (31, .dup, 1), (32, (.getfield 82), 3), (35, (.iconst 1), 1), (36, .iadd, 1), (37, (.putfield 82), 3), (40, (.iinc 2 (-8)), 3), (43, (.goto (-40)), 3), (46, .return_, 1)]
set_option maxRecDepth 10000 in
theorem wc_X_putFour : Cond.code y_X_putFour.1 y_X_putFour.2.1 y_X_putFour.2.2.1 y_X_putFour.2.2.2.1 ∈ tbG := mG (mT4 42 rfl) rfl
set_option maxRecDepth 10000 in
theorem wi_X_putFour : Cond.instanceMethod y_X_putFour.1 ∈ tbG := mG (mT4 41 rfl) rfl
set_option maxRecDepth 10000 in
theorem wl_X_putFour : Cond.selects y_X_putFour.1.cls y_X_putFour.1 y_X_putFour.1 ∈ tbG := mG (mP4 (q := (_, 13)) 5 rfl) rfl
abbrev y_X_feed : MI := (⟨"LieOfTwo", "feed", "(IIIII)I"⟩, prog_1_method_2_code, 6, (some .int), none)
def t_X_feed : List (Nat × Instr × Nat) := [(0, (.aload_n 0), 1), (1, (.getfield 82), 3), (4, (.bipush 20), 2), (6, .iadd, 1), (7, (.sipush 1600), 3), (10, (.if_icmp .le 5), 3), (13, (.iconst (-1)), 1), (14, .ireturn, 1), (15, (.aload_n 0), 1), (16, (.iload_n 1), 1), (17, (.invokevirtual 86), 3), (20, (.aload_n 0), 1), (21, (.iload_n 2), 1), (22, (.invokevirtual 86), 3), (25, (.aload_n 0), 1), (26, (.iload_n 3), 1), (27, (.invokevirtual 86), 3), (30, (.aload_n 0), 1), (31, (.iload 4), 2), (33, (.invokevirtual 86), 3), (36, (.aload_n 0), 1), (37, (.iload 5), 2), (39, (.invokevirtual 86), 3), (42, (.aload_n 0), 1), (43, (.getfield 82), 3), (46, .ireturn, 1)]
set_option maxRecDepth 10000 in
theorem wc_X_feed : Cond.code y_X_feed.1 y_X_feed.2.1 y_X_feed.2.2.1 y_X_feed.2.2.2.1 ∈ tbG := mG (mT4 38 rfl) rfl
set_option maxRecDepth 10000 in
theorem wi_X_feed : Cond.instanceMethod y_X_feed.1 ∈ tbG := mG (mT4 36 rfl) rfl
set_option maxRecDepth 10000 in
theorem wl_X_feed : Cond.selects y_X_feed.1.cls y_X_feed.1 y_X_feed.1 ∈ tbG := mG (mT4 37 rfl) rfl
abbrev y_X_end : MI := (⟨"LieOfTwo", "end", "(I)I"⟩, prog_1_method_4_code, 2, (some .int), none)
def t_X_end : List (Nat × Instr × Nat) := [(0, (.iload_n 1), 1), (1, (.ifCond .lt 11), 3), (4, (.iload_n 1), 1), (5, (.aload_n 0), 1), (6, (.getfield 82), 3), (9, (.if_icmp .le 5), 3), (12, (.iconst (-1)), 1), (13, .ireturn, 1), (14, (.aload_n 0), 1), (15, (.iload_n 1), 1), (16, (.putfield 82), 3), (19, (.iload_n 1), 1), (20, .ireturn, 1)]
set_option maxRecDepth 10000 in
theorem wc_X_end : Cond.code y_X_end.1 y_X_end.2.1 y_X_end.2.2.1 y_X_end.2.2.2.1 ∈ tbG := mG (mT4 46 rfl) rfl
set_option maxRecDepth 10000 in
theorem wi_X_end : Cond.instanceMethod y_X_end.1 ∈ tbG := mG (mT4 44 rfl) rfl
set_option maxRecDepth 10000 in
theorem wl_X_end : Cond.selects y_X_end.1.cls y_X_end.1 y_X_end.1 ∈ tbG := mG (mT4 45 rfl) rfl
abbrev y_JL_bitCount : MI := (⟨"java/lang/Long", "bitCount", "(J)I"⟩, prog_14_method_50_code, 2, (some .int), none)
def t_JL_bitCount : List (Nat × Instr × Nat) := [(0, (.lload_n 0), 1), (1, (.lload_n 0), 1), (2, (.iconst 1), 1), (3, .lushr, 1), (4, (.ldc2_w 314), 3), (7, .land, 1), (8, .lsub, 1), (9, (.lstore_n 0), 1), (10, (.lload_n 0), 1), (11, (.ldc2_w 316), 3), (14, .land, 1), (15, (.lload_n 0), 1), (16, (.iconst 2), 1), (17, .lushr, 1), (18, (.ldc2_w 316), 3), (21, .land, 1), (22, .ladd, 1), (23, (.lstore_n 0), 1), (24, (.lload_n 0), 1), (25, (.lload_n 0), 1), (26, (.iconst 4), 1), (27, .lushr, 1), (28, .ladd, 1), (29, (.ldc2_w 318), 3), (32, .land, 1), (33, (.lstore_n 0), 1), (34, (.lload_n 0), 1), (35, (.lload_n 0), 1), (36, (.bipush 8), 2), (38, .lushr, 1), (39, .ladd, 1), (40, (.lstore_n 0), 1), (41, (.lload_n 0), 1), (42, (.lload_n 0), 1), (43, (.bipush 16), 2), (45, .lushr, 1), (46, .ladd, 1), (47, (.lstore_n 0), 1), (48, (.lload_n 0), 1), (49, (.lload_n 0), 1), (50, (.bipush 32), 2), (52, .lushr, 1), (53, .ladd, 1), (54, (.lstore_n 0), 1), (55, (.lload_n 0), 1), (56, .l2i, 1), (57, (.bipush 127), 2), (59, .iand, 1), (60, .ireturn, 1)]
set_option maxRecDepth 10000 in
theorem wc_JL_bitCount : Cond.code y_JL_bitCount.1 y_JL_bitCount.2.1 y_JL_bitCount.2.2.1 y_JL_bitCount.2.2.2.1 ∈ tbG := mG (mT4 60 rfl) rfl
set_option maxRecDepth 10000 in
theorem ws_JL_bitCount : Cond.static y_JL_bitCount.1 ∈ tbG := mG (mT4 59 rfl) rfl
abbrev y_X_sizeOfSet : MI := (⟨"LieOfTwo", "sizeOfSet", "([JII)I"⟩, prog_1_method_34_code, 5, (some .int), none)
def t_X_sizeOfSet : List (Nat × Instr × Nat) := [(0, (.iconst 0), 1), (1, (.istore_n 3), 1), (2, (.iconst 0), 1), (3, (.istore 4), 2), (5, (.iload 4), 2), (7, (.iload_n 2), 1), (8, (.if_icmp .ge 21), 3), (11, (.iload_n 3), 1), (12, (.aload_n 0), 1), (13, (.iload_n 1), 1), (14, (.iload 4), 2), (16, .iadd, 1), (17, .laload, 1), (18, (.invokestatic 256), 3), (21, .iadd, 1), (22, (.istore_n 3), 1), (23, (.iinc 4 1), 3), (26, (.goto (-21)), 3), (29, (.iload_n 3), 1), (30, .ireturn, 1)]
set_option maxRecDepth 10000 in
theorem wc_X_sizeOfSet : Cond.code y_X_sizeOfSet.1 y_X_sizeOfSet.2.1 y_X_sizeOfSet.2.2.1 y_X_sizeOfSet.2.2.2.1 ∈ tbG := mG (mT4 57 rfl) rfl
set_option maxRecDepth 10000 in
theorem ws_X_sizeOfSet : Cond.static y_X_sizeOfSet.1 ∈ tbG := mG (mT4 56 rfl) rfl
abbrev y_T_size : MI := (⟨"LieOfTwo$Town", "size", "()I"⟩, prog_10_method_3_code, 1, (some .int), none)
def t_T_size : List (Nat × Instr × Nat) := [(0, (.aload_n 0), 1), (1, (.getfield 33), 3), (4, (.iconst 0), 1), (5, (.aload_n 0), 1), (6, (.getfield 68), 3), (9, (.invokestatic 71), 3), (12, .ireturn, 1)]
set_option maxRecDepth 10000 in
theorem wc_T_size : Cond.code y_T_size.1 y_T_size.2.1 y_T_size.2.2.1 y_T_size.2.2.2.1 ∈ tbG := mG (mT4 54 rfl) rfl
set_option maxRecDepth 10000 in
theorem wi_T_size : Cond.instanceMethod y_T_size.1 ∈ tbG := mG (mT4 53 rfl) rfl
set_option maxRecDepth 10000 in
theorem wl_T_size : Cond.selects y_T_size.1.cls y_T_size.1 y_T_size.1 ∈ tbG := mG (mP4 (q := (_, 19)) 6 rfl) rfl
abbrev y_X_town : MI := (⟨"LieOfTwo", "town", "()I"⟩, prog_1_method_5_code, 4, (some .int), none)
def t_X_town : List (Nat × Instr × Nat) := [(0, (.aload_n 0), 1), (1, (.getfield 82), 3), (4, (.istore_n 1), 1), (5, (.aload_n 0), 1), (6, (.iconst 0), 1), (7, (.putfield 82), 3), (10, (.aload_n 0), 1), (11, (.getfield 28), 3), (14, (.aload_n 0), 1), (15, (.getfield 20), 3), (18, (.iload_n 1), 1), (19, (.invokevirtual 75), 3), (22, (.aload_n 0), 1), (23, (.getfield 28), 3), (26, (.getfield 90), 3), (29, (.getfield 94), 3), (32, (.ifCond .eq 5), 3), (35, (.iconst (-1)), 1), (36, .ireturn, 1), (37, (.aload_n 0), 1), (38, (.getfield 28), 3), (41, (.invokevirtual 79), 3), (44, (.aload_n 0), 1), (45, (.getfield 16), 3), (48, (.astore_n 2), 1), (49, (.aload_n 0), 1), (50, (.aload_n 0), 1), (51, (.getfield 20), 3), (54, (.putfield 16), 3), (57, (.aload_n 0), 1), (58, (.aload_n 2), 1), (59, (.putfield 20), 3), (62, (.aload_n 0), 1), (63, (.getfield 35), 3), (66, (.iconst 0), 1), (67, (.putfield 99), 3), (70, (.iconst 0), 1), (71, (.istore_n 3), 1), (72, (.iload_n 3), 1), (73, (.iconst 3), 1), (74, (.if_icmp .ge 19), 3), (77, (.aload_n 0), 1), (78, (.getfield 39), 3), (81, (.iload_n 3), 1), (82, .aaload, 1), (83, (.iconst 0), 1), (84, (.putfield 102), 3), (87, (.iinc 3 1), 3), (90, (.goto (-18)), 3), (93, (.aload_n 0), 1), (94, (.getfield 16), 3), (97, (.invokevirtual 106), 3), (100, .ireturn, 1)]
set_option maxRecDepth 10000 in
theorem wc_X_town : Cond.code y_X_town.1 y_X_town.2.1 y_X_town.2.2.1 y_X_town.2.2.2.1 ∈ tbG := mG (mT4 50 rfl) rfl
set_option maxRecDepth 10000 in
theorem wi_X_town : Cond.instanceMethod y_X_town.1 ∈ tbG := mG (mT4 48 rfl) rfl
set_option maxRecDepth 10000 in
theorem wl_X_town : Cond.selects y_X_town.1.cls y_X_town.1 y_X_town.1 ∈ tbG := mG (mT4 49 rfl) rfl
abbrev y_X_fault : MI := (⟨"LieOfTwo", "fault", "(I)I"⟩, prog_1_method_6_code, 2, (some .int), none)
def t_X_fault : List (Nat × Instr × Nat) := [(0, (.iload_n 1), 1), (1, (.ifCond .ne 14), 3), (4, (.aload_n 0), 1), (5, (.getfield 28), 3), (8, (.getfield 90), 3), (11, (.getfield 94), 3), (14, .ireturn, 1), (15, (.iload_n 1), 1), (16, (.iconst 1), 1), (17, (.if_icmp .ne 16), 3), (20, (.aload_n 0), 1), (21, (.getfield 28), 3), (24, (.getfield 90), 3), (27, (.getfield 110), 3), (30, (.goto 4), 3), (33, (.iconst (-1)), 1), (34, .ireturn, 1)]
set_option maxRecDepth 10000 in
theorem wc_X_fault : Cond.code y_X_fault.1 y_X_fault.2.1 y_X_fault.2.2.1 y_X_fault.2.2.2.1 ∈ tbG := mG (mT4 67 rfl) rfl
set_option maxRecDepth 10000 in
theorem wi_X_fault : Cond.instanceMethod y_X_fault.1 ∈ tbG := mG (mT4 65 rfl) rfl
set_option maxRecDepth 10000 in
theorem wl_X_fault : Cond.selects y_X_fault.1.cls y_X_fault.1 y_X_fault.1 ∈ tbG := mG (mT4 66 rfl) rfl
abbrev y_T_hasRow : MI := (⟨"LieOfTwo$Town", "hasRow", "(I)Z"⟩, prog_10_method_4_code, 2, (some .boolean), none)
def t_T_hasRow : List (Nat × Instr × Nat) := [(0, (.iload_n 1), 1), (1, (.ifCond .lt 15), 3), (4, (.iload_n 1), 1), (5, (.aload_n 0), 1), (6, (.getfield 56), 3), (9, (.if_icmp .ge 7), 3), (12, (.iconst 1), 1), (13, (.goto 4), 3), (16, (.iconst 0), 1), (17, .ireturn, 1)]
set_option maxRecDepth 10000 in
theorem wc_T_hasRow : Cond.code y_T_hasRow.1 y_T_hasRow.2.1 y_T_hasRow.2.2.1 y_T_hasRow.2.2.2.1 ∈ tbG := mG (mT4 79 rfl) rfl
set_option maxRecDepth 10000 in
theorem wi_T_hasRow : Cond.instanceMethod y_T_hasRow.1 ∈ tbG := mG (mT4 78 rfl) rfl
set_option maxRecDepth 10000 in
theorem wl_T_hasRow : Cond.selects y_T_hasRow.1.cls y_T_hasRow.1 y_T_hasRow.1 ∈ tbG := mG (mP4 (q := (_, 19)) 8 rfl) rfl
abbrev y_X_has : MI := (⟨"LieOfTwo", "has", "([JII)Z"⟩, prog_1_method_32_code, 3, (some .boolean), none)
def t_X_has : List (Nat × Instr × Nat) := [(0, (.aload_n 0), 1), (1, (.iload_n 1), 1), (2, (.iload_n 2), 1), (3, (.bipush 6), 2), (5, .ishr, 1), (6, .iadd, 1), (7, .laload, 1), (8, (.iload_n 2), 1), (9, (.bipush 63), 2), (11, .iand, 1), (12, .lushr, 1), (13, (.lconst 1), 1), (14, .land, 1), (15, (.lconst 0), 1), (16, .lcmp, 1), (17, (.ifCond .eq 7), 3), (20, (.iconst 1), 1), (21, (.goto 4), 3), (24, (.iconst 0), 1), (25, .ireturn, 1)]
set_option maxRecDepth 10000 in
theorem wc_X_has : Cond.code y_X_has.1 y_X_has.2.1 y_X_has.2.2.1 y_X_has.2.2.2.1 ∈ tbG := mG (mT4 86 rfl) rfl
set_option maxRecDepth 10000 in
theorem ws_X_has : Cond.static y_X_has.1 ∈ tbG := mG (mT4 85 rfl) rfl
abbrev y_T_hasWorld : MI := (⟨"LieOfTwo$Town", "hasWorld", "(I)Z"⟩, prog_10_method_7_code, 2, (some .boolean), none)
def t_T_hasWorld : List (Nat × Instr × Nat) := [(0, (.iload_n 1), 1), (1, (.ifCond .lt 29), 3), (4, (.iload_n 1), 1), (5, (.iconst 1), 1), (6, (.aload_n 0), 1), (7, (.getfield 49), 3), (10, .ishl, 1), (11, (.if_icmp .ge 19), 3), (14, (.aload_n 0), 1), (15, (.getfield 33), 3), (18, (.iconst 0), 1), (19, (.iload_n 1), 1), (20, (.invokestatic 75), 3), (23, (.ifCond .eq 7), 3), (26, (.iconst 1), 1), (27, (.goto 4), 3), (30, (.iconst 0), 1), (31, .ireturn, 1)]
set_option maxRecDepth 10000 in
theorem wc_T_hasWorld : Cond.code y_T_hasWorld.1 y_T_hasWorld.2.1 y_T_hasWorld.2.2.1 y_T_hasWorld.2.2.2.1 ∈ tbG := mG (mT4 83 rfl) rfl
set_option maxRecDepth 10000 in
theorem wi_T_hasWorld : Cond.instanceMethod y_T_hasWorld.1 ∈ tbG := mG (mT4 82 rfl) rfl
set_option maxRecDepth 10000 in
theorem wl_T_hasWorld : Cond.selects y_T_hasWorld.1.cls y_T_hasWorld.1 y_T_hasWorld.1 ∈ tbG := mG (mP4 (q := (_, 19)) 9 rfl) rfl
abbrev y_T_canBe : MI := (⟨"LieOfTwo$Town", "canBe", "(II)Z"⟩, prog_10_method_8_code, 3, (some .boolean), none)
def t_T_canBe : List (Nat × Instr × Nat) := [(0, (.aload_n 0), 1), (1, (.iload_n 1), 1), (2, (.invokevirtual 79), 3), (5, (.ifCond .eq 15), 3), (8, (.aload_n 0), 1), (9, (.iload_n 2), 1), (10, (.invokevirtual 83), 3), (13, (.ifCond .eq 7), 3), (16, (.iconst 1), 1), (17, (.goto 4), 3), (20, (.iconst 0), 1), (21, .ireturn, 1)]
set_option maxRecDepth 10000 in
theorem wc_T_canBe : Cond.code y_T_canBe.1 y_T_canBe.2.1 y_T_canBe.2.2.1 y_T_canBe.2.2.2.1 ∈ tbG := mG (mT4 75 rfl) rfl
set_option maxRecDepth 10000 in
theorem wi_T_canBe : Cond.instanceMethod y_T_canBe.1 ∈ tbG := mG (mT4 74 rfl) rfl
set_option maxRecDepth 10000 in
theorem wl_T_canBe : Cond.selects y_T_canBe.1.cls y_T_canBe.1 y_T_canBe.1 ∈ tbG := mG (mP4 (q := (_, 19)) 7 rfl) rfl
abbrev y_T_isSo : MI := (⟨"LieOfTwo$Town", "isSo", "(II)Z"⟩, prog_10_method_9_code, 3, (some .boolean), none)
def t_T_isSo : List (Nat × Instr × Nat) := [(0, (.aload_n 0), 1), (1, (.getfield 37), 3), (4, (.iload_n 1), 1), (5, (.iconst 4), 1), (6, .imul, 1), (7, (.iload_n 2), 1), (8, (.invokestatic 75), 3), (11, .ireturn, 1)]
set_option maxRecDepth 10000 in
theorem wc_T_isSo : Cond.code y_T_isSo.1 y_T_isSo.2.1 y_T_isSo.2.2.1 y_T_isSo.2.2.2.1 ∈ tbG := mG (mT4 90 rfl) rfl
set_option maxRecDepth 10000 in
theorem wi_T_isSo : Cond.instanceMethod y_T_isSo.1 ∈ tbG := mG (mT4 89 rfl) rfl
set_option maxRecDepth 10000 in
theorem wl_T_isSo : Cond.selects y_T_isSo.1.cls y_T_isSo.1 y_T_isSo.1 ∈ tbG := mG (mP4 (q := (_, 19)) 10 rfl) rfl
abbrev y_X_is : MI := (⟨"LieOfTwo", "is", "(II)I"⟩, prog_1_method_7_code, 3, (some .int), none)
def t_X_is : List (Nat × Instr × Nat) := [(0, (.aload_n 0), 1), (1, (.getfield 16), 3), (4, (.iload_n 1), 1), (5, (.iload_n 2), 1), (6, (.invokevirtual 113), 3), (9, (.ifCond .ne 5), 3), (12, (.iconst (-1)), 1), (13, .ireturn, 1), (14, (.aload_n 0), 1), (15, (.getfield 16), 3), (18, (.iload_n 1), 1), (19, (.iload_n 2), 1), (20, (.invokevirtual 117), 3), (23, (.ifCond .eq 7), 3), (26, (.iconst 1), 1), (27, (.goto 4), 3), (30, (.iconst 0), 1), (31, .ireturn, 1)]
set_option maxRecDepth 10000 in
theorem wc_X_is : Cond.code y_X_is.1 y_X_is.2.1 y_X_is.2.2.1 y_X_is.2.2.2.1 ∈ tbG := mG (mT4 71 rfl) rfl
set_option maxRecDepth 10000 in
theorem wi_X_is : Cond.instanceMethod y_X_is.1 ∈ tbG := mG (mT4 69 rfl) rfl
set_option maxRecDepth 10000 in
theorem wl_X_is : Cond.selects y_X_is.1.cls y_X_is.1 y_X_is.1 ∈ tbG := mG (mT4 70 rfl) rfl
abbrev y_T_hasPerson : MI := (⟨"LieOfTwo$Town", "hasPerson", "(I)Z"⟩, prog_10_method_5_code, 2, (some .boolean), none)
def t_T_hasPerson : List (Nat × Instr × Nat) := [(0, (.iload_n 1), 1), (1, (.ifCond .lt 15), 3), (4, (.iload_n 1), 1), (5, (.aload_n 0), 1), (6, (.getfield 53), 3), (9, (.if_icmp .ge 7), 3), (12, (.iconst 1), 1), (13, (.goto 4), 3), (16, (.iconst 0), 1), (17, .ireturn, 1)]
set_option maxRecDepth 10000 in
theorem wc_T_hasPerson : Cond.code y_T_hasPerson.1 y_T_hasPerson.2.1 y_T_hasPerson.2.2.1 y_T_hasPerson.2.2.2.1 ∈ tbG := mG (mT4 98 rfl) rfl
set_option maxRecDepth 10000 in
theorem wi_T_hasPerson : Cond.instanceMethod y_T_hasPerson.1 ∈ tbG := mG (mT4 97 rfl) rfl
set_option maxRecDepth 10000 in
theorem wl_T_hasPerson : Cond.selects y_T_hasPerson.1.cls y_T_hasPerson.1 y_T_hasPerson.1 ∈ tbG := mG (mP4 (q := (_, 19)) 11 rfl) rfl
abbrev y_T_answer : MI := (⟨"LieOfTwo$Town", "answer", "(III)I"⟩, prog_10_method_10_code, 5, (some .int), none)
def t_T_answer : List (Nat × Instr × Nat) := [(0, (.iload_n 1), 1), (1, (.iload_n 2), 1), (2, (.invokestatic 86), 3), (5, (.istore 4), 2), (7, (.aload_n 0), 1), (8, (.getfield 40), 3), (11, (.iload 4), 2), (13, (.iload_n 3), 1), (14, (.invokestatic 75), 3), (17, (.ifCond .eq 5), 3), (20, (.iconst 1), 1), (21, .ireturn, 1), (22, (.aload_n 0), 1), (23, (.getfield 43), 3), (26, (.iload 4), 2), (28, (.iload_n 3), 1), (29, (.invokestatic 75), 3), (32, (.ifCond .eq 7), 3), (35, (.iconst 0), 1), (36, (.goto 4), 3), (39, (.iconst 2), 1), (40, .ireturn, 1)]
set_option maxRecDepth 10000 in
theorem wc_T_answer : Cond.code y_T_answer.1 y_T_answer.2.1 y_T_answer.2.2.1 y_T_answer.2.2.2.1 ∈ tbG := mG (mT4 102 rfl) rfl
set_option maxRecDepth 10000 in
theorem wi_T_answer : Cond.instanceMethod y_T_answer.1 ∈ tbG := mG (mT4 101 rfl) rfl
set_option maxRecDepth 10000 in
theorem wl_T_answer : Cond.selects y_T_answer.1.cls y_T_answer.1 y_T_answer.1 ∈ tbG := mG (mP4 (q := (_, 19)) 12 rfl) rfl
abbrev y_X_answers : MI := (⟨"LieOfTwo", "answers", "(III)I"⟩, prog_1_method_8_code, 4, (some .int), none)
def t_X_answers : List (Nat × Instr × Nat) := [(0, (.aload_n 0), 1), (1, (.getfield 16), 3), (4, (.iload_n 1), 1), (5, (.invokevirtual 120), 3), (8, (.ifCond .eq 15), 3), (11, (.aload_n 0), 1), (12, (.getfield 16), 3), (15, (.iload_n 2), 1), (16, (.iload_n 3), 1), (17, (.invokevirtual 113), 3), (20, (.ifCond .ne 5), 3), (23, (.iconst (-1)), 1), (24, .ireturn, 1), (25, (.aload_n 0), 1), (26, (.getfield 16), 3), (29, (.iload_n 1), 1), (30, (.iload_n 2), 1), (31, (.iload_n 3), 1), (32, (.invokevirtual 124), 3), (35, .ireturn, 1)]
set_option maxRecDepth 10000 in
theorem wc_X_answers : Cond.code y_X_answers.1 y_X_answers.2.1 y_X_answers.2.2.1 y_X_answers.2.2.2.1 ∈ tbG := mG (mT4 94 rfl) rfl
set_option maxRecDepth 10000 in
theorem wi_X_answers : Cond.instanceMethod y_X_answers.1 ∈ tbG := mG (mT4 92 rfl) rfl
set_option maxRecDepth 10000 in
theorem wl_X_answers : Cond.selects y_X_answers.1.cls y_X_answers.1 y_X_answers.1 ∈ tbG := mG (mT4 93 rfl) rfl
abbrev y_T_hasPersons : MI := (⟨"LieOfTwo$Town", "hasPersons", "(I)Z"⟩, prog_10_method_6_code, 2, (some .boolean), none)
def t_T_hasPersons : List (Nat × Instr × Nat) := [(0, (.iload_n 1), 1), (1, (.ifCond .le 17), 3), (4, (.iload_n 1), 1), (5, (.iconst 1), 1), (6, (.aload_n 0), 1), (7, (.getfield 53), 3), (10, .ishl, 1), (11, (.if_icmp .ge 7), 3), (14, (.iconst 1), 1), (15, (.goto 4), 3), (18, (.iconst 0), 1), (19, .ireturn, 1)]
set_option maxRecDepth 10000 in
theorem wc_T_hasPersons : Cond.code y_T_hasPersons.1 y_T_hasPersons.2.1 y_T_hasPersons.2.2.1 y_T_hasPersons.2.2.2.1 ∈ tbG := mG (mT4 110 rfl) rfl
set_option maxRecDepth 10000 in
theorem wi_T_hasPersons : Cond.instanceMethod y_T_hasPersons.1 ∈ tbG := mG (mT4 109 rfl) rfl
set_option maxRecDepth 10000 in
theorem wl_T_hasPersons : Cond.selects y_T_hasPersons.1.cls y_T_hasPersons.1 y_T_hasPersons.1 ∈ tbG := mG (mP4 (q := (_, 19)) 13 rfl) rfl
abbrev y_JI_bitCount : MI := (⟨"java/lang/Integer", "bitCount", "(I)I"⟩, prog_13_method_49_code, 1, (some .int), none)
def t_JI_bitCount : List (Nat × Instr × Nat) := [(0, (.iload_n 0), 1), (1, (.iload_n 0), 1), (2, (.iconst 1), 1), (3, .iushr, 1), (4, (.ldc_w 265), 3), (7, .iand, 1), (8, .isub, 1), (9, (.istore_n 0), 1), (10, (.iload_n 0), 1), (11, (.ldc_w 266), 3), (14, .iand, 1), (15, (.iload_n 0), 1), (16, (.iconst 2), 1), (17, .iushr, 1), (18, (.ldc_w 266), 3), (21, .iand, 1), (22, .iadd, 1), (23, (.istore_n 0), 1), (24, (.iload_n 0), 1), (25, (.iload_n 0), 1), (26, (.iconst 4), 1), (27, .iushr, 1), (28, .iadd, 1), (29, (.ldc_w 267), 3), (32, .iand, 1), (33, (.istore_n 0), 1), (34, (.iload_n 0), 1), (35, (.iload_n 0), 1), (36, (.bipush 8), 2), (38, .iushr, 1), (39, .iadd, 1), (40, (.istore_n 0), 1), (41, (.iload_n 0), 1), (42, (.iload_n 0), 1), (43, (.bipush 16), 2), (45, .iushr, 1), (46, .iadd, 1), (47, (.istore_n 0), 1), (48, (.iload_n 0), 1), (49, (.bipush 63), 2), (51, .iand, 1), (52, .ireturn, 1)]
set_option maxRecDepth 10000 in
theorem wc_JI_bitCount : Cond.code y_JI_bitCount.1 y_JI_bitCount.2.1 y_JI_bitCount.2.2.1 y_JI_bitCount.2.2.2.1 ∈ tbG := mG (mT4 117 rfl) rfl
set_option maxRecDepth 10000 in
theorem ws_JI_bitCount : Cond.static y_JI_bitCount.1 ∈ tbG := mG (mT4 116 rfl) rfl
abbrev y_T_way : MI := (⟨"LieOfTwo$Town", "way", "(IZZZ)I"⟩, prog_10_method_13_code, 4, (some .int), none)
def t_T_way : List (Nat × Instr × Nat) := [(0, (.iload_n 0), 1), (1, (.iconst 1), 1), (2, .isub, 1), (3, (.iconst 3), 1), (4, .ishl, 1), (5, (.iload_n 1), 1), (6, (.ifCond .eq 7), 3), (9, (.iconst 4), 1), (10, (.goto 4), 3), (13, (.iconst 0), 1), (14, .ior, 1), (15, (.iload_n 2), 1), (16, (.ifCond .eq 7), 3), (19, (.iconst 2), 1), (20, (.goto 4), 3), (23, (.iconst 0), 1), (24, .ior, 1), (25, (.iload_n 3), 1), (26, (.ifCond .eq 7), 3), (29, (.iconst 1), 1), (30, (.goto 4), 3), (33, (.iconst 0), 1), (34, .ior, 1), (35, .ireturn, 1)]
set_option maxRecDepth 10000 in
theorem wc_T_way : Cond.code y_T_way.1 y_T_way.2.1 y_T_way.2.2.1 y_T_way.2.2.2.1 ∈ tbG := mG (mT4 123 rfl) rfl
set_option maxRecDepth 10000 in
theorem ws_T_way : Cond.static y_T_way.1 ∈ tbG := mG (mT4 122 rfl) rfl
abbrev y_T_mayLie : MI := (⟨"LieOfTwo$Town", "mayLie", "(IZZ)Z"⟩, prog_10_method_14_code, 6, (some .boolean), none)
def t_T_mayLie : List (Nat × Instr × Nat) := [(0, (.iconst 0), 1), (1, (.istore 4), 2), (3, (.iconst 0), 1), (4, (.istore 5), 2), (6, (.iload 5), 2), (8, (.aload_n 0), 1), (9, (.getfield 53), 3), (12, (.if_icmp .ge 40), 3), (15, (.iload 4), 2), (17, (.iload_n 1), 1), (18, (.iload 5), 2), (20, (.invokestatic 94), 3), (23, (.ifCond .eq 19), 3), (26, (.iload_n 1), 1), (27, (.aload_n 0), 1), (28, (.getfield 18), 3), (31, (.iload 5), 2), (33, .iaload, 1), (34, .iand, 1), (35, (.ifCond .eq 7), 3), (38, (.iconst 1), 1), (39, (.goto 4), 3), (42, (.iconst 0), 1), (43, .ior, 1), (44, (.istore 4), 2), (46, (.iinc 5 1), 3), (49, (.goto (-43)), 3), (52, (.aload_n 0), 1), (53, (.getfield 98), 3), (56, (.iload_n 1), 1), (57, (.invokestatic 102), 3), (60, (.iload_n 2), 1), (61, (.iload 4), 2), (63, (.iload_n 3), 1), (64, (.ifCond .ne 7), 3), (67, (.iconst 1), 1), (68, (.goto 4), 3), (71, (.iconst 0), 1), (72, (.invokestatic 108), 3), (75, .lushr, 1), (76, (.lconst 1), 1), (77, .land, 1), (78, (.lconst 0), 1), (79, .lcmp, 1), (80, (.ifCond .eq 7), 3), (83, (.iconst 1), 1), (84, (.goto 4), 3), (87, (.iconst 0), 1), (88, .ireturn, 1)]
set_option maxRecDepth 10000 in
theorem wc_T_mayLie : Cond.code y_T_mayLie.1 y_T_mayLie.2.1 y_T_mayLie.2.2.1 y_T_mayLie.2.2.2.1 ∈ tbG := mG (mT4 114 rfl) rfl
set_option maxRecDepth 10000 in
theorem wi_T_mayLie : Cond.instanceMethod y_T_mayLie.1 ∈ tbG := mG (mT4 113 rfl) rfl
set_option maxRecDepth 10000 in
theorem wl_T_mayLie : Cond.selects y_T_mayLie.1.cls y_T_mayLie.1 y_T_mayLie.1 ∈ tbG := mG (mP4 (q := (_, 19)) 14 rfl) rfl
abbrev y_X_lies : MI := (⟨"LieOfTwo", "lies", "(IZZ)I"⟩, prog_1_method_9_code, 4, (some .int), none)
def t_X_lies : List (Nat × Instr × Nat) := [(0, (.aload_n 0), 1), (1, (.getfield 16), 3), (4, (.iload_n 1), 1), (5, (.invokevirtual 128), 3), (8, (.ifCond .ne 5), 3), (11, (.iconst (-1)), 1), (12, .ireturn, 1), (13, (.aload_n 0), 1), (14, (.getfield 16), 3), (17, (.iload_n 1), 1), (18, (.iload_n 2), 1), (19, (.iload_n 3), 1), (20, (.invokevirtual 131), 3), (23, (.ifCond .eq 7), 3), (26, (.iconst 1), 1), (27, (.goto 4), 3), (30, (.iconst 0), 1), (31, .ireturn, 1)]
set_option maxRecDepth 10000 in
theorem wc_X_lies : Cond.code y_X_lies.1 y_X_lies.2.1 y_X_lies.2.2.1 y_X_lies.2.2.2.1 ∈ tbG := mG (mT4 106 rfl) rfl
set_option maxRecDepth 10000 in
theorem wi_X_lies : Cond.instanceMethod y_X_lies.1 ∈ tbG := mG (mT4 104 rfl) rfl
set_option maxRecDepth 10000 in
theorem wl_X_lies : Cond.selects y_X_lies.1.cls y_X_lies.1 y_X_lies.1 ∈ tbG := mG (mT4 105 rfl) rfl
abbrev y_T_putSayable : MI := (⟨"LieOfTwo$Town", "putSayable", "(IIZZ[JI)V"⟩, prog_10_method_15_code, 10, none, none)
def t_T_putSayable : List (Nat × Instr × Nat) := [(0, (.aload_n 0), 1), (1, (.getfield 33), 3), (4, (.iconst 0), 1), (5, (.aload 5), 2), (7, (.iload 6), 2), (9, (.aload_n 0), 1), (10, (.getfield 68), 3), (13, (.invokestatic 112), 3), (16, (.aload_n 0), 1), (17, (.iload_n 1), 1), (18, (.iload_n 3), 1), (19, (.iload 4), 2), (21, (.invokevirtual 118), 3), (24, (.ifCond .eq 4), 3), (27, .return_, 1), (28, (.iconst 0), 1), (29, (.istore 7), 2), (31, (.iload 7), 2), (33, (.aload_n 0), 1), (34, (.getfield 53), 3), (37, (.if_icmp .ge 87), 3), (40, (.iload_n 1), 1), (41, (.iload 7), 2), (43, (.invokestatic 94), 3), (46, (.ifCond .eq 72), 3), (49, (.iload 7), 2), (51, (.iload_n 2), 1), (52, (.invokestatic 86), 3), (55, (.istore 8), 2), (57, (.iconst 0), 1), (58, (.istore 9), 2), (60, (.iload 9), 2), (62, (.aload_n 0), 1), (63, (.getfield 68), 3), (66, (.if_icmp .ge 52), 3), (69, (.aload 5), 2), (71, (.iload 6), 2), (73, (.iload 9), 2), (75, .iadd, 1), (76, .dup2, 1), (77, .laload, 1), (78, (.iload 4), 2), (80, (.ifCond .eq 16), 3), (83, (.aload_n 0), 1), (84, (.getfield 40), 3), (87, (.iload 8), 2), (89, (.iload 9), 2), (91, .iadd, 1), (92, .laload, 1), (93, (.goto 17), 3), (96, (.aload_n 0), 1), (97, (.getfield 43), 3), (100, (.iload 8), 2), (102, (.iload 9), 2), (104, .iadd, 1), (105, .laload, 1), (106, (.ldc2_w 122), 3), (109, .lxor, 1), (110, .land, 1), (111, .lastore, 1), (112, (.iinc 9 1), 3), (115, (.goto (-55)), 3), (118, (.iinc 7 1), 3), (121, (.goto (-90)), 3), (124, .return_, 1)]
set_option maxRecDepth 10000 in
theorem wc_T_putSayable : Cond.code y_T_putSayable.1 y_T_putSayable.2.1 y_T_putSayable.2.2.1 y_T_putSayable.2.2.2.1 ∈ tbG := mG (mT4 131 rfl) rfl
set_option maxRecDepth 10000 in
theorem wi_T_putSayable : Cond.instanceMethod y_T_putSayable.1 ∈ tbG := mG (mT4 130 rfl) rfl
set_option maxRecDepth 10000 in
theorem wl_T_putSayable : Cond.selects y_T_putSayable.1.cls y_T_putSayable.1 y_T_putSayable.1 ∈ tbG := mG (mP4 (q := (_, 19)) 15 rfl) rfl
abbrev y_X_may : MI := (⟨"LieOfTwo", "may", "(IIZZI)I"⟩, prog_1_method_10_code, 6, (some .int), none)
def t_X_may : List (Nat × Instr × Nat) := [(0, (.aload_n 0), 1), (1, (.getfield 16), 3), (4, (.iload_n 1), 1), (5, (.invokevirtual 128), 3), (8, (.ifCond .eq 16), 3), (11, (.aload_n 0), 1), (12, (.getfield 16), 3), (15, (.iload_n 2), 1), (16, (.iload 5), 2), (18, (.invokevirtual 113), 3), (21, (.ifCond .ne 5), 3), (24, (.iconst (-1)), 1), (25, .ireturn, 1), (26, (.aload_n 0), 1), (27, (.getfield 16), 3), (30, (.iload_n 1), 1), (31, (.iload_n 2), 1), (32, (.iload_n 3), 1), (33, (.iload 4), 2), (35, (.aload_n 0), 1), (36, (.getfield 71), 3), (39, (.iconst 0), 1), (40, (.invokevirtual 135), 3), (43, (.aload_n 0), 1), (44, (.getfield 71), 3), (47, (.iconst 0), 1), (48, (.iload 5), 2), (50, (.invokestatic 139), 3), (53, (.ifCond .eq 7), 3), (56, (.iconst 1), 1), (57, (.goto 4), 3), (60, (.iconst 0), 1), (61, .ireturn, 1)]
set_option maxRecDepth 10000 in
theorem wc_X_may : Cond.code y_X_may.1 y_X_may.2.1 y_X_may.2.2.1 y_X_may.2.2.2.1 ∈ tbG := mG (mT4 127 rfl) rfl
set_option maxRecDepth 10000 in
theorem wi_X_may : Cond.instanceMethod y_X_may.1 ∈ tbG := mG (mT4 125 rfl) rfl
set_option maxRecDepth 10000 in
theorem wl_X_may : Cond.selects y_X_may.1.cls y_X_may.1 y_X_may.1 ∈ tbG := mG (mT4 126 rfl) rfl
abbrev y_Y_add : MI := (⟨"LieOfTwo$Sayings", "add", "(IIZI)V"⟩, prog_7_method_2_code, 5, none, none)
def t_Y_add : List (Nat × Instr × Nat) := [(0, (.aload_n 0), 1), (1, (.getfield 9), 3), (4, (.aload_n 0), 1), (5, (.getfield 32), 3), (8, (.iload_n 1), 1), (9, .iastore, 1), (10, (.aload_n 0), 1), (11, (.getfield 15), 3), (14, (.aload_n 0), 1), (15, (.getfield 32), 3), (18, (.iload_n 2), 1), (19, .iastore, 1), (20, (.aload_n 0), 1), (21, (.getfield 18), 3), (24, (.aload_n 0), 1), (25, (.getfield 32), 3), (28, (.iload_n 3), 1), (29, .bastore, 1), (30, (.aload_n 0), 1), (31, (.getfield 22), 3), (34, (.aload_n 0), 1), (35, (.getfield 32), 3), (38, (.iload 4), 2), (40, .iastore, 1), (41, (.aload_n 0), 1), (42, (.getfield 25), 3), (45, (.aload_n 0), 1), (46, (.getfield 32), 3), (49, (.iconst (-1)), 1), (50, .iastore, 1), (51, (.aload_n 0), 1), (52, .dup, 1), (53, (.getfield 32), 3), (56, (.iconst 1), 1), (57, .iadd, 1), (58, (.putfield 32), 3), (61, .return_, 1)]
set_option maxRecDepth 10000 in
theorem wc_Y_add : Cond.code y_Y_add.1 y_Y_add.2.1 y_Y_add.2.2.1 y_Y_add.2.2.2.1 ∈ tbG := mG (mT4 142 rfl) rfl
set_option maxRecDepth 10000 in
theorem wi_Y_add : Cond.instanceMethod y_Y_add.1 ∈ tbG := mG (mT4 141 rfl) rfl
set_option maxRecDepth 10000 in
theorem wl_Y_add : Cond.selects y_Y_add.1.cls y_Y_add.1 y_Y_add.1 ∈ tbG := mG (mP5 (q := (_, 8)) 0 rfl) rfl
abbrev y_X_say : MI := (⟨"LieOfTwo", "say", "(IIZZ)I"⟩, prog_1_method_11_code, 6, (some .int), none)
def t_X_say : List (Nat × Instr × Nat) := [(0, (.aload_n 0), 1), (1, (.getfield 35), 3), (4, (.getfield 99), 3), (7, (.istore 5), 2), (9, (.aload_n 0), 1), (10, (.getfield 16), 3), (13, (.iload_n 1), 1), (14, (.invokevirtual 128), 3), (17, (.ifCond .eq 21), 3), (20, (.aload_n 0), 1), (21, (.getfield 16), 3), (24, (.iload_n 2), 1), (25, (.invokevirtual 143), 3), (28, (.ifCond .eq 10), 3), (31, (.iload 5), 2), (33, (.bipush 40), 2), (35, (.if_icmp .lt 5), 3), (38, (.iconst (-1)), 1), (39, .ireturn, 1), (40, (.aload_n 0), 1), (41, (.getfield 35), 3), (44, (.iload_n 1), 1), (45, (.iload_n 2), 1), (46, (.iload 4), 2), (48, (.aload_n 0), 1), (49, (.getfield 146), 3), (52, (.invokevirtual 149), 3), (55, (.aload_n 0), 1), (56, (.getfield 16), 3), (59, (.iload_n 1), 1), (60, (.iload_n 2), 1), (61, (.iload_n 3), 1), (62, (.iload 4), 2), (64, (.aload_n 0), 1), (65, (.getfield 35), 3), (68, (.getfield 153), 3), (71, (.iload 5), 2), (73, (.iconst 4), 1), (74, .imul, 1), (75, (.invokevirtual 135), 3), (78, (.iload 5), 2), (80, .ireturn, 1)]
set_option maxRecDepth 10000 in
theorem wc_X_say : Cond.code y_X_say.1 y_X_say.2.1 y_X_say.2.2.1 y_X_say.2.2.2.1 ∈ tbG := mG (mT4 137 rfl) rfl
set_option maxRecDepth 10000 in
theorem wi_X_say : Cond.instanceMethod y_X_say.1 ∈ tbG := mG (mT4 135 rfl) rfl
set_option maxRecDepth 10000 in
theorem wl_X_say : Cond.selects y_X_say.1.cls y_X_say.1 y_X_say.1 ∈ tbG := mG (mT4 136 rfl) rfl
abbrev y_X_untell : MI := (⟨"LieOfTwo", "untell", "(I)Z"⟩, prog_1_method_12_code, 2, (some .boolean), none)
def t_X_untell : List (Nat × Instr × Nat) := [(0, (.iload_n 1), 1), (1, (.ifCond .lt 27), 3), (4, (.iload_n 1), 1), (5, (.aload_n 0), 1), (6, (.getfield 35), 3), (9, (.getfield 99), 3), (12, (.if_icmp .ge 16), 3), (15, (.aload_n 0), 1), (16, (.getfield 35), 3), (19, (.getfield 156), 3), (22, (.iload_n 1), 1), (23, .iaload, 1), (24, (.iconst (-1)), 1), (25, (.if_icmp .eq 5), 3), (28, (.iconst 0), 1), (29, .ireturn, 1), (30, (.aload_n 0), 1), (31, (.getfield 35), 3), (34, (.getfield 156), 3), (37, (.iload_n 1), 1), (38, (.aload_n 0), 1), (39, (.getfield 146), 3), (42, .iastore, 1), (43, (.iconst 1), 1), (44, .ireturn, 1)]
set_option maxRecDepth 10000 in
theorem wc_X_untell : Cond.code y_X_untell.1 y_X_untell.2.1 y_X_untell.2.2.1 y_X_untell.2.2.2.1 ∈ tbG := mG (mT4 146 rfl) rfl
set_option maxRecDepth 10000 in
theorem wi_X_untell : Cond.instanceMethod y_X_untell.1 ∈ tbG := mG (mT4 144 rfl) rfl
set_option maxRecDepth 10000 in
theorem wl_X_untell : Cond.selects y_X_untell.1.cls y_X_untell.1 y_X_untell.1 ∈ tbG := mG (mT4 145 rfl) rfl
abbrev y_X_later : MI := (⟨"LieOfTwo", "later", "(I)I"⟩, prog_1_method_13_code, 2, (some .int), none)
def t_X_later : List (Nat × Instr × Nat) := [(0, (.iload_n 1), 1), (1, (.ifCond .lt 21), 3), (4, (.iload_n 1), 1), (5, (.sipush 1000), 3), (8, (.if_icmp .gt 14), 3), (11, (.aload_n 0), 1), (12, (.getfield 146), 3), (15, (.iload_n 1), 1), (16, .iadd, 1), (17, (.ldc 160), 2), (19, (.if_icmp .le 5), 3), (22, (.iconst (-1)), 1), (23, .ireturn, 1), (24, (.aload_n 0), 1), (25, .dup, 1), (26, (.getfield 146), 3), (29, (.iload_n 1), 1), (30, .iadd, 1), (31, (.putfield 146), 3), (34, (.aload_n 0), 1), (35, (.getfield 146), 3), (38, .ireturn, 1)]
set_option maxRecDepth 10000 in
theorem wc_X_later : Cond.code y_X_later.1 y_X_later.2.1 y_X_later.2.2.1 y_X_later.2.2.2.1 ∈ tbG := mG (mT4 150 rfl) rfl
set_option maxRecDepth 10000 in
theorem wi_X_later : Cond.instanceMethod y_X_later.1 ∈ tbG := mG (mT4 148 rfl) rfl
set_option maxRecDepth 10000 in
theorem wl_X_later : Cond.selects y_X_later.1.cls y_X_later.1 y_X_later.1 ∈ tbG := mG (mT4 149 rfl) rfl
abbrev y_Y_counts : MI := (⟨"LieOfTwo$Sayings", "counts", "(II)Z"⟩, prog_7_method_3_code, 4, (some .boolean), none)
def t_Y_counts : List (Nat × Instr × Nat) := [(0, (.aload_n 0), 1), (1, (.getfield 25), 3), (4, (.iload_n 1), 1), (5, .iaload, 1), (6, (.iconst (-1)), 1), (7, (.if_icmp .eq 17), 3), (10, (.aload_n 0), 1), (11, (.getfield 25), 3), (14, (.iload_n 1), 1), (15, .iaload, 1), (16, (.iload_n 2), 1), (17, (.if_icmp .gt 7), 3), (20, (.iconst 1), 1), (21, (.goto 4), 3), (24, (.iconst 0), 1), (25, (.istore_n 3), 1), (26, (.aload_n 0), 1), (27, (.getfield 22), 3), (30, (.iload_n 1), 1), (31, .iaload, 1), (32, (.iload_n 2), 1), (33, (.if_icmp .gt 11), 3), (36, (.iload_n 3), 1), (37, (.ifCond .ne 7), 3), (40, (.iconst 1), 1), (41, (.goto 4), 3), (44, (.iconst 0), 1), (45, .ireturn, 1)]
set_option maxRecDepth 10000 in
theorem wc_Y_counts : Cond.code y_Y_counts.1 y_Y_counts.2.1 y_Y_counts.2.2.1 y_Y_counts.2.2.2.1 ∈ tbG := mG (mT4 164 rfl) rfl
set_option maxRecDepth 10000 in
theorem wi_Y_counts : Cond.instanceMethod y_Y_counts.1 ∈ tbG := mG (mT4 163 rfl) rfl
set_option maxRecDepth 10000 in
theorem wl_Y_counts : Cond.selects y_Y_counts.1.cls y_Y_counts.1 y_Y_counts.1 ∈ tbG := mG (mP5 (q := (_, 8)) 2 rfl) rfl
abbrev y_W_look : MI := (⟨"LieOfTwo$Known", "look", "(LLieOfTwo$Town;LLieOfTwo$Sayings;I)V"⟩, prog_4_method_2_code, 6, none, none)
def t_W_look : List (Nat × Instr × Nat) := [(0, (.aload_n 0), 1), (1, (.aload_n 1), 1), (2, (.putfield 19), 3), (5, (.aload_n 0), 1), (6, (.aload_n 2), 1), (7, (.putfield 23), 3), (10, (.aload_n 0), 1), (11, (.iconst 0), 1), (12, (.putfield 27), 3), (15, (.aload_n 0), 1), (16, (.getfield 19), 3), (19, (.getfield 31), 3), (22, (.iconst 0), 1), (23, (.aload_n 0), 1), (24, (.getfield 15), 3), (27, (.iconst 0), 1), (28, (.aload_n 0), 1), (29, (.getfield 19), 3), (32, (.getfield 36), 3), (35, (.invokestatic 39), 3), (38, (.iconst 0), 1), (39, (.istore 4), 2), (41, (.iload 4), 2), (43, (.aload_n 0), 1), (44, (.getfield 23), 3), (47, (.getfield 45), 3), (50, (.if_icmp .ge 89), 3), (53, (.aload_n 0), 1), (54, (.getfield 23), 3), (57, (.iload 4), 2), (59, (.iload_n 3), 1), (60, (.invokevirtual 48), 3), (63, (.ifCond .eq 70), 3), (66, (.aload_n 0), 1), (67, (.getfield 9), 3), (70, (.aload_n 0), 1), (71, (.getfield 27), 3), (74, (.iload 4), 2), (76, .iastore, 1), (77, (.aload_n 0), 1), (78, .dup, 1), (79, (.getfield 27), 3), (82, (.iconst 1), 1), (83, .iadd, 1), (84, (.putfield 27), 3), (87, (.iconst 0), 1), (88, (.istore 5), 2), (90, (.iload 5), 2), (92, (.aload_n 0), 1), (93, (.getfield 19), 3), (96, (.getfield 36), 3), (99, (.if_icmp .ge 34), 3), (102, (.aload_n 0), 1), (103, (.getfield 15), 3), (106, (.iload 5), 2), (108, .dup2, 1), (109, .laload, 1), (110, (.aload_n 0), 1), (111, (.getfield 23), 3), (114, (.getfield 52), 3), (117, (.iload 4), 2), (119, (.iconst 4), 1), (120, .imul, 1), (121, (.iload 5), 2), (123, .iadd, 1), (124, .laload, 1), (125, .land, 1), (126, .lastore, 1), (127, (.iinc 5 1), 3), (130, (.goto (-40)), 3), (133, (.iinc 4 1), 3), (136, (.goto (-95)), 3), (139, (.aload_n 0), 1), (140, (.aload_n 0), 1), (141, (.getfield 15), 3), (144, (.iconst 0), 1), (145, (.aload_n 0), 1), (146, (.getfield 19), 3), (149, (.getfield 36), 3), (152, (.invokestatic 55), 3), (155, (.putfield 59), 3), (158, .return_, 1)]
set_option maxRecDepth 10000 in
theorem wc_W_look : Cond.code y_W_look.1 y_W_look.2.1 y_W_look.2.2.1 y_W_look.2.2.2.1 ∈ tbG := mG (mT4 159 rfl) rfl
set_option maxRecDepth 10000 in
theorem wi_W_look : Cond.instanceMethod y_W_look.1 ∈ tbG := mG (mT4 158 rfl) rfl
set_option maxRecDepth 10000 in
theorem wl_W_look : Cond.selects y_W_look.1.cls y_W_look.1 y_W_look.1 ∈ tbG := mG (mP5 (q := (_, 6)) 1 rfl) rfl
abbrev y_X_left : MI := (⟨"LieOfTwo", "left", "(I)I"⟩, prog_1_method_14_code, 2, (some .int), none)
def t_X_left : List (Nat × Instr × Nat) := [(0, (.aload_n 0), 1), (1, (.getfield 46), 3), (4, (.aload_n 0), 1), (5, (.getfield 16), 3), (8, (.aload_n 0), 1), (9, (.getfield 35), 3), (12, (.iload_n 1), 1), (13, (.invokevirtual 161), 3), (16, (.aload_n 0), 1), (17, (.getfield 46), 3), (20, (.getfield 165), 3), (23, .ireturn, 1)]
set_option maxRecDepth 10000 in
theorem wc_X_left : Cond.code y_X_left.1 y_X_left.2.1 y_X_left.2.2.1 y_X_left.2.2.2.1 ∈ tbG := mG (mT4 155 rfl) rfl
set_option maxRecDepth 10000 in
theorem wi_X_left : Cond.instanceMethod y_X_left.1 ∈ tbG := mG (mT4 153 rfl) rfl
set_option maxRecDepth 10000 in
theorem wl_X_left : Cond.selects y_X_left.1.cls y_X_left.1 y_X_left.1 ∈ tbG := mG (mT4 154 rfl) rfl
abbrev y_X_world : MI := (⟨"LieOfTwo", "world", "(II)I"⟩, prog_1_method_15_code, 5, (some .int), none)
def t_X_world : List (Nat × Instr × Nat) := [(0, (.aload_n 0), 1), (1, (.getfield 46), 3), (4, (.aload_n 0), 1), (5, (.getfield 16), 3), (8, (.aload_n 0), 1), (9, (.getfield 35), 3), (12, (.iload_n 2), 1), (13, (.invokevirtual 161), 3), (16, (.iload_n 1), 1), (17, (.ifCond .lt 14), 3), (20, (.iload_n 1), 1), (21, (.aload_n 0), 1), (22, (.getfield 46), 3), (25, (.getfield 165), 3), (28, (.if_icmp .lt 5), 3), (31, (.iconst (-1)), 1), (32, .ireturn, 1), (33, (.iconst 0), 1), (34, (.istore_n 3), 1), (35, (.iconst 0), 1), (36, (.istore 4), 2), (38, (.iload 4), 2), (40, (.iconst 1), 1), (41, (.aload_n 0), 1), (42, (.getfield 16), 3), (45, (.getfield 167), 3), (48, .ishl, 1), (49, (.if_icmp .ge 36), 3), (52, (.aload_n 0), 1), (53, (.getfield 46), 3), (56, (.getfield 170), 3), (59, (.iconst 0), 1), (60, (.iload 4), 2), (62, (.invokestatic 139), 3), (65, (.ifCond .eq 14), 3), (68, (.iload_n 3), 1), (69, (.iload_n 1), 1), (70, (.if_icmp .ne 6), 3), (73, (.iload 4), 2), (75, .ireturn, 1), (76, (.iinc 3 1), 3), (79, (.iinc 4 1), 3), (82, (.goto (-44)), 3), (85, (.iconst (-1)), 1), (86, .ireturn, 1)]
set_option maxRecDepth 10000 in
theorem wc_X_world : Cond.code y_X_world.1 y_X_world.2.1 y_X_world.2.2.1 y_X_world.2.2.2.1 ∈ tbG := mG (mT4 169 rfl) rfl
set_option maxRecDepth 10000 in
theorem wi_X_world : Cond.instanceMethod y_X_world.1 ∈ tbG := mG (mT4 167 rfl) rfl
set_option maxRecDepth 10000 in
theorem wl_X_world : Cond.selects y_X_world.1.cls y_X_world.1 y_X_world.1 ∈ tbG := mG (mT4 168 rfl) rfl
abbrev y_W_sizeWith : MI := (⟨"LieOfTwo$Known", "sizeWith", "([JI)I"⟩, prog_4_method_4_code, 5, (some .int), none)
def t_W_sizeWith : List (Nat × Instr × Nat) := [(0, (.iconst 0), 1), (1, (.istore_n 3), 1), (2, (.iconst 0), 1), (3, (.istore 4), 2), (5, (.iload 4), 2), (7, (.aload_n 0), 1), (8, (.getfield 19), 3), (11, (.getfield 36), 3), (14, (.if_icmp .ge 29), 3), (17, (.iload_n 3), 1), (18, (.aload_n 0), 1), (19, (.getfield 15), 3), (22, (.iload 4), 2), (24, .laload, 1), (25, (.aload_n 1), 1), (26, (.iload_n 2), 1), (27, (.iload 4), 2), (29, .iadd, 1), (30, .laload, 1), (31, .land, 1), (32, (.invokestatic 69), 3), (35, .iadd, 1), (36, (.istore_n 3), 1), (37, (.iinc 4 1), 3), (40, (.goto (-35)), 3), (43, (.iload_n 3), 1), (44, .ireturn, 1)]
set_option maxRecDepth 10000 in
theorem wc_W_sizeWith : Cond.code y_W_sizeWith.1 y_W_sizeWith.2.1 y_W_sizeWith.2.2.1 y_W_sizeWith.2.2.2.1 ∈ tbG := mG (mT4 181 rfl) rfl
set_option maxRecDepth 10000 in
theorem wi_W_sizeWith : Cond.instanceMethod y_W_sizeWith.1 ∈ tbG := mG (mT4 180 rfl) rfl
set_option maxRecDepth 10000 in
theorem wl_W_sizeWith : Cond.selects y_W_sizeWith.1.cls y_W_sizeWith.1 y_W_sizeWith.1 ∈ tbG := mG (mP5 (q := (_, 6)) 4 rfl) rfl
abbrev y_W_sizeOf : MI := (⟨"LieOfTwo$Known", "sizeOf", "(I)I"⟩, prog_4_method_3_code, 2, (some .int), none)
def t_W_sizeOf : List (Nat × Instr × Nat) := [(0, (.aload_n 0), 1), (1, (.aload_n 0), 1), (2, (.getfield 19), 3), (5, (.getfield 62), 3), (8, (.iload_n 1), 1), (9, (.iconst 4), 1), (10, .imul, 1), (11, (.invokevirtual 65), 3), (14, .ireturn, 1)]
set_option maxRecDepth 10000 in
theorem wc_W_sizeOf : Cond.code y_W_sizeOf.1 y_W_sizeOf.2.1 y_W_sizeOf.2.2.1 y_W_sizeOf.2.2.2.1 ∈ tbG := mG (mT4 177 rfl) rfl
set_option maxRecDepth 10000 in
theorem wi_W_sizeOf : Cond.instanceMethod y_W_sizeOf.1 ∈ tbG := mG (mT4 176 rfl) rfl
set_option maxRecDepth 10000 in
theorem wl_W_sizeOf : Cond.selects y_W_sizeOf.1.cls y_W_sizeOf.1 y_W_sizeOf.1 ∈ tbG := mG (mP5 (q := (_, 6)) 3 rfl) rfl
abbrev y_X_sure : MI := (⟨"LieOfTwo", "sure", "(II)I"⟩, prog_1_method_16_code, 4, (some .int), none)
def t_X_sure : List (Nat × Instr × Nat) := [(0, (.aload_n 0), 1), (1, (.getfield 46), 3), (4, (.aload_n 0), 1), (5, (.getfield 16), 3), (8, (.aload_n 0), 1), (9, (.getfield 35), 3), (12, (.iload_n 2), 1), (13, (.invokevirtual 161), 3), (16, (.aload_n 0), 1), (17, (.getfield 16), 3), (20, (.iload_n 1), 1), (21, (.invokevirtual 143), 3), (24, (.ifCond .eq 13), 3), (27, (.aload_n 0), 1), (28, (.getfield 46), 3), (31, (.getfield 165), 3), (34, (.ifCond .ne 5), 3), (37, (.iconst (-1)), 1), (38, .ireturn, 1), (39, (.aload_n 0), 1), (40, (.getfield 46), 3), (43, (.iload_n 1), 1), (44, (.invokevirtual 173), 3), (47, (.istore_n 3), 1), (48, (.iload_n 3), 1), (49, (.ifCond .ne 5), 3), (52, (.iconst 0), 1), (53, .ireturn, 1), (54, (.iload_n 3), 1), (55, (.aload_n 0), 1), (56, (.getfield 46), 3), (59, (.getfield 165), 3), (62, (.if_icmp .ne 7), 3), (65, (.iconst 1), 1), (66, (.goto 5), 3), (69, (.bipush (-2)), 2), (71, .ireturn, 1)]
set_option maxRecDepth 10000 in
theorem wc_X_sure : Cond.code y_X_sure.1 y_X_sure.2.1 y_X_sure.2.2.1 y_X_sure.2.2.2.1 ∈ tbG := mG (mT4 173 rfl) rfl
set_option maxRecDepth 10000 in
theorem wi_X_sure : Cond.instanceMethod y_X_sure.1 ∈ tbG := mG (mT4 171 rfl) rfl
set_option maxRecDepth 10000 in
theorem wl_X_sure : Cond.selects y_X_sure.1.cls y_X_sure.1 y_X_sure.1 ∈ tbG := mG (mT4 172 rfl) rfl
abbrev y_W_proves : MI := (⟨"LieOfTwo$Known", "proves", "(II)Z"⟩, prog_4_method_6_code, 7, (some .boolean), none)
def t_W_proves : List (Nat × Instr × Nat) := [(0, (.iconst 0), 1), (1, (.istore_n 3), 1), (2, (.iload_n 3), 1), (3, (.aload_n 0), 1), (4, (.getfield 19), 3), (7, (.getfield 36), 3), (10, (.if_icmp .ge 98), 3), (13, (.aload_n 0), 1), (14, (.getfield 19), 3), (17, (.getfield 31), 3), (20, (.iload_n 3), 1), (21, .laload, 1), (22, (.aload_n 0), 1), (23, (.getfield 19), 3), (26, (.getfield 62), 3), (29, (.iload_n 2), 1), (30, (.iconst 4), 1), (31, .imul, 1), (32, (.iload_n 3), 1), (33, .iadd, 1), (34, .laload, 1), (35, (.ldc2_w 83), 3), (38, .lxor, 1), (39, .land, 1), (40, (.lstore 4), 2), (42, (.iconst 0), 1), (43, (.istore 6), 2), (45, (.iload 6), 2), (47, (.aload_n 0), 1), (48, (.getfield 27), 3), (51, (.if_icmp .ge 42), 3), (54, (.iload_n 1), 1), (55, (.iload 6), 2), (57, (.invokestatic 85), 3), (60, (.ifCond .eq 27), 3), (63, (.lload 4), 2), (65, (.aload_n 0), 1), (66, (.getfield 23), 3), (69, (.getfield 52), 3), (72, (.aload_n 0), 1), (73, (.getfield 9), 3), (76, (.iload 6), 2), (78, .iaload, 1), (79, (.iconst 4), 1), (80, .imul, 1), (81, (.iload_n 3), 1), (82, .iadd, 1), (83, .laload, 1), (84, .land, 1), (85, (.lstore 4), 2), (87, (.iinc 6 1), 3), (90, (.goto (-45)), 3), (93, (.lload 4), 2), (95, (.lconst 0), 1), (96, .lcmp, 1), (97, (.ifCond .eq 5), 3), (100, (.iconst 0), 1), (101, .ireturn, 1), (102, (.iinc 3 1), 3), (105, (.goto (-103)), 3), (108, (.iconst 1), 1), (109, .ireturn, 1)]
set_option maxRecDepth 10000 in
theorem wc_W_proves : Cond.code y_W_proves.1 y_W_proves.2.1 y_W_proves.2.2.1 y_W_proves.2.2.2.1 ∈ tbG := mG (mT4 195 rfl) rfl
set_option maxRecDepth 10000 in
theorem wi_W_proves : Cond.instanceMethod y_W_proves.1 ∈ tbG := mG (mT4 194 rfl) rfl
set_option maxRecDepth 10000 in
theorem wl_W_proves : Cond.selects y_W_proves.1.cls y_W_proves.1 y_W_proves.1 ∈ tbG := mG (mP5 (q := (_, 6)) 6 rfl) rfl
abbrev y_W_fewestProving : MI := (⟨"LieOfTwo$Known", "fewestProving", "(I)I"⟩, prog_4_method_5_code, 6, (some .int), none)
def t_W_fewestProving : List (Nat × Instr × Nat) := [(0, (.iconst (-1)), 1), (1, (.istore_n 2), 1), (2, (.bipush 11), 2), (4, (.istore_n 3), 1), (5, (.iconst 0), 1), (6, (.istore 4), 2), (8, (.iload 4), 2), (10, (.iconst 1), 1), (11, (.aload_n 0), 1), (12, (.getfield 27), 3), (15, .ishl, 1), (16, (.if_icmp .ge 38), 3), (19, (.iload 4), 2), (21, (.invokestatic 75), 3), (24, (.istore 5), 2), (26, (.iload 5), 2), (28, (.iload_n 3), 1), (29, (.if_icmp .ge 19), 3), (32, (.aload_n 0), 1), (33, (.iload 4), 2), (35, (.iload_n 1), 1), (36, (.invokevirtual 80), 3), (39, (.ifCond .eq 9), 3), (42, (.iload 4), 2), (44, (.istore_n 2), 1), (45, (.iload 5), 2), (47, (.istore_n 3), 1), (48, (.iinc 4 1), 3), (51, (.goto (-43)), 3), (54, (.iload_n 2), 1), (55, .ireturn, 1)]
set_option maxRecDepth 10000 in
theorem wc_W_fewestProving : Cond.code y_W_fewestProving.1 y_W_fewestProving.2.1 y_W_fewestProving.2.2.1 y_W_fewestProving.2.2.2.1 ∈ tbG := mG (mT4 190 rfl) rfl
set_option maxRecDepth 10000 in
theorem wi_W_fewestProving : Cond.instanceMethod y_W_fewestProving.1 ∈ tbG := mG (mT4 189 rfl) rfl
set_option maxRecDepth 10000 in
theorem wl_W_fewestProving : Cond.selects y_W_fewestProving.1.cls y_W_fewestProving.1 y_W_fewestProving.1 ∈ tbG := mG (mP5 (q := (_, 6)) 5 rfl) rfl
abbrev y_X_proof : MI := (⟨"LieOfTwo", "proof", "(II)I"⟩, prog_1_method_17_code, 3, (some .int), none)
def t_X_proof : List (Nat × Instr × Nat) := [(0, (.aload_n 0), 1), (1, (.getfield 46), 3), (4, (.aload_n 0), 1), (5, (.getfield 16), 3), (8, (.aload_n 0), 1), (9, (.getfield 35), 3), (12, (.iload_n 2), 1), (13, (.invokevirtual 161), 3), (16, (.aload_n 0), 1), (17, (.getfield 16), 3), (20, (.iload_n 1), 1), (21, (.invokevirtual 143), 3), (24, (.ifCond .eq 31), 3), (27, (.aload_n 0), 1), (28, (.getfield 46), 3), (31, (.getfield 165), 3), (34, (.ifCond .eq 21), 3), (37, (.aload_n 0), 1), (38, (.getfield 46), 3), (41, (.iload_n 1), 1), (42, (.invokevirtual 173), 3), (45, (.aload_n 0), 1), (46, (.getfield 46), 3), (49, (.getfield 165), 3), (52, (.if_icmp .eq 5), 3), (55, (.iconst (-1)), 1), (56, .ireturn, 1), (57, (.aload_n 0), 1), (58, (.getfield 46), 3), (61, (.getfield 177), 3), (64, (.bipush 10), 2), (66, (.if_icmp .le 8), 3), (69, (.bipush (-2)), 2), (71, (.goto 11), 3), (74, (.aload_n 0), 1), (75, (.getfield 46), 3), (78, (.iload_n 1), 1), (79, (.invokevirtual 178), 3), (82, .ireturn, 1)]
set_option maxRecDepth 10000 in
theorem wc_X_proof : Cond.code y_X_proof.1 y_X_proof.2.1 y_X_proof.2.2.1 y_X_proof.2.2.2.1 ∈ tbG := mG (mT4 186 rfl) rfl
set_option maxRecDepth 10000 in
theorem wi_X_proof : Cond.instanceMethod y_X_proof.1 ∈ tbG := mG (mT4 184 rfl) rfl
set_option maxRecDepth 10000 in
theorem wl_X_proof : Cond.selects y_X_proof.1.cls y_X_proof.1 y_X_proof.1 ∈ tbG := mG (mT4 185 rfl) rfl
abbrev y_X_judge : MI := (⟨"LieOfTwo", "judge", "(II)I"⟩, prog_1_method_18_code, 5, (some .int), none)
def t_X_judge : List (Nat × Instr × Nat) := [(0, (.aload_n 0), 1), (1, (.getfield 16), 3), (4, (.iload_n 1), 1), (5, (.invokevirtual 181), 3), (8, (.ifCond .ne 6), 3), (11, (.bipush (-2)), 2), (13, .ireturn, 1), (14, (.aload_n 0), 1), (15, (.getfield 46), 3), (18, (.aload_n 0), 1), (19, (.getfield 16), 3), (22, (.aload_n 0), 1), (23, (.getfield 35), 3), (26, (.iload_n 2), 1), (27, (.invokevirtual 161), 3), (30, (.iconst 0), 1), (31, (.istore_n 3), 1), (32, (.iload_n 3), 1), (33, (.aload_n 0), 1), (34, (.getfield 46), 3), (37, (.getfield 177), 3), (40, (.if_icmp .ge 41), 3), (43, (.aload_n 0), 1), (44, (.getfield 46), 3), (47, (.getfield 184), 3), (50, (.iload_n 3), 1), (51, .iaload, 1), (52, (.istore 4), 2), (54, (.aload_n 0), 1), (55, (.getfield 35), 3), (58, (.getfield 153), 3), (61, (.iload 4), 2), (63, (.iconst 4), 1), (64, .imul, 1), (65, (.iload_n 1), 1), (66, (.invokestatic 139), 3), (69, (.ifCond .ne 6), 3), (72, (.iload 4), 2), (74, .ireturn, 1), (75, (.iinc 3 1), 3), (78, (.goto (-46)), 3), (81, (.iconst (-1)), 1), (82, .ireturn, 1)]
set_option maxRecDepth 10000 in
theorem wc_X_judge : Cond.code y_X_judge.1 y_X_judge.2.1 y_X_judge.2.2.1 y_X_judge.2.2.2.1 ∈ tbG := mG (mT4 201 rfl) rfl
set_option maxRecDepth 10000 in
theorem wi_X_judge : Cond.instanceMethod y_X_judge.1 ∈ tbG := mG (mT4 199 rfl) rfl
set_option maxRecDepth 10000 in
theorem wl_X_judge : Cond.selects y_X_judge.1.cls y_X_judge.1 y_X_judge.1 ∈ tbG := mG (mT4 200 rfl) rfl
abbrev y_A_choose : MI := (⟨"LieOfTwo$Asker", "choose", "(LLieOfTwo$Town;LLieOfTwo$Known;)V"⟩, prog_2_method_2_code, 9, none, none)
def t_A_choose : List (Nat × Instr × Nat) := [(0, (.aload_n 0), 1), (1, (.aload_n 1), 1), (2, (.putfield 15), 3), (5, (.aload_n 0), 1), (6, (.iconst (-1)), 1), (7, (.putfield 19), 3), (10, (.iconst 0), 1), (11, (.istore_n 3), 1), (12, (.iload_n 3), 1), (13, (.aload_n 0), 1), (14, (.getfield 15), 3), (17, (.getfield 23), 3), (20, (.if_icmp .ge 157), 3), (23, (.iconst 0), 1), (24, (.istore 4), 2), (26, (.iload 4), 2), (28, (.aload_n 0), 1), (29, (.getfield 15), 3), (32, (.getfield 28), 3), (35, (.if_icmp .ge 136), 3), (38, (.iload_n 3), 1), (39, (.iload 4), 2), (41, (.invokestatic 31), 3), (44, (.istore 5), 2), (46, (.aload_n 2), 1), (47, (.aload_n 0), 1), (48, (.getfield 15), 3), (51, (.getfield 35), 3), (54, (.iload 5), 2), (56, (.invokevirtual 38), 3), (59, (.istore 6), 2), (61, (.aload_n 2), 1), (62, (.aload_n 0), 1), (63, (.getfield 15), 3), (66, (.getfield 44), 3), (69, (.iload 5), 2), (71, (.invokevirtual 38), 3), (74, (.istore 7), 2), (76, (.iload 6), 2), (78, (.iload 7), 2), (80, (.invokestatic 47), 3), (83, (.aload_n 2), 1), (84, (.getfield 52), 3), (87, (.iload 6), 2), (89, .isub, 1), (90, (.iload 7), 2), (92, .isub, 1), (93, (.invokestatic 47), 3), (96, (.istore 8), 2), (98, (.aload_n 0), 1), (99, (.getfield 19), 3), (102, (.iconst (-1)), 1), (103, (.if_icmp .eq 45), 3), (106, (.iload 8), 2), (108, (.aload_n 0), 1), (109, (.getfield 55), 3), (112, (.if_icmp .lt 36), 3), (115, (.iload 8), 2), (117, (.aload_n 0), 1), (118, (.getfield 55), 3), (121, (.if_icmp .ne 44), 3), (124, (.aload_n 0), 1), (125, (.getfield 15), 3), (128, (.getfield 58), 3), (131, (.iload_n 3), 1), (132, .iaload, 1), (133, (.aload_n 0), 1), (134, (.getfield 15), 3), (137, (.getfield 58), 3), (140, (.aload_n 0), 1), (141, (.getfield 19), 3), (144, .iaload, 1), (145, (.if_icmp .ge 20), 3), (148, (.aload_n 0), 1), (149, (.iload_n 3), 1), (150, (.putfield 19), 3), (153, (.aload_n 0), 1), (154, (.iload 4), 2), (156, (.putfield 62), 3), (159, (.aload_n 0), 1), (160, (.iload 8), 2), (162, (.putfield 55), 3), (165, (.iinc 4 1), 3), (168, (.goto (-142)), 3), (171, (.iinc 3 1), 3), (174, (.goto (-162)), 3), (177, .return_, 1)]
set_option maxRecDepth 10000 in
theorem wc_A_choose : Cond.code y_A_choose.1 y_A_choose.2.1 y_A_choose.2.2.1 y_A_choose.2.2.2.1 ∈ tbG := mG (mT4 210 rfl) rfl
set_option maxRecDepth 10000 in
theorem wi_A_choose : Cond.instanceMethod y_A_choose.1 ∈ tbG := mG (mT4 209 rfl) rfl
set_option maxRecDepth 10000 in
theorem wl_A_choose : Cond.selects y_A_choose.1.cls y_A_choose.1 y_A_choose.1 ∈ tbG := mG (mP5 (q := (_, 6)) 7 rfl) rfl
abbrev y_X_next : MI := (⟨"LieOfTwo", "next", "(II)I"⟩, prog_1_method_19_code, 3, (some .int), none)
def t_X_next : List (Nat × Instr × Nat) := [(0, (.aload_n 0), 1), (1, (.getfield 46), 3), (4, (.aload_n 0), 1), (5, (.getfield 16), 3), (8, (.aload_n 0), 1), (9, (.getfield 35), 3), (12, (.iload_n 2), 1), (13, (.invokevirtual 161), 3), (16, (.iload_n 1), 1), (17, (.ifCond .lt 38), 3), (20, (.iload_n 1), 1), (21, (.iconst 2), 1), (22, (.if_icmp .gt 33), 3), (25, (.aload_n 0), 1), (26, (.getfield 16), 3), (29, (.getfield 187), 3), (32, (.ifCond .eq 23), 3), (35, (.aload_n 0), 1), (36, (.getfield 16), 3), (39, (.getfield 190), 3), (42, (.ifCond .eq 13), 3), (45, (.aload_n 0), 1), (46, (.getfield 46), 3), (49, (.getfield 165), 3), (52, (.ifCond .ne 5), 3), (55, (.iconst (-1)), 1), (56, .ireturn, 1), (57, (.aload_n 0), 1), (58, (.getfield 53), 3), (61, (.aload_n 0), 1), (62, (.getfield 16), 3), (65, (.aload_n 0), 1), (66, (.getfield 46), 3), (69, (.invokevirtual 193), 3), (72, (.iload_n 1), 1), (73, (.ifCond .ne 11), 3), (76, (.aload_n 0), 1), (77, (.getfield 53), 3), (80, (.getfield 197), 3), (83, .ireturn, 1), (84, (.iload_n 1), 1), (85, (.iconst 1), 1), (86, (.if_icmp .ne 13), 3), (89, (.aload_n 0), 1), (90, (.getfield 53), 3), (93, (.getfield 200), 3), (96, (.goto 10), 3), (99, (.aload_n 0), 1), (100, (.getfield 53), 3), (103, (.getfield 203), 3), (106, .ireturn, 1)]
set_option maxRecDepth 10000 in
theorem wc_X_next : Cond.code y_X_next.1 y_X_next.2.1 y_X_next.2.2.1 y_X_next.2.2.2.1 ∈ tbG := mG (mT4 206 rfl) rfl
set_option maxRecDepth 10000 in
theorem wi_X_next : Cond.instanceMethod y_X_next.1 ∈ tbG := mG (mT4 204 rfl) rfl
set_option maxRecDepth 10000 in
theorem wl_X_next : Cond.selects y_X_next.1.cls y_X_next.1 y_X_next.1 ∈ tbG := mG (mT4 205 rfl) rfl
abbrev y_A_isTold : MI := (⟨"LieOfTwo$Asker", "isTold", "(I)Z"⟩, prog_2_method_4_code, 7, (some .boolean), none)
def t_A_isTold : List (Nat × Instr × Nat) := [(0, (.iconst 0), 1), (1, (.istore_n 2), 1), (2, (.iconst 0), 1), (3, (.istore_n 3), 1), (4, (.iconst 0), 1), (5, (.istore 4), 2), (7, (.iload 4), 2), (9, (.aload_n 0), 1), (10, (.getfield 15), 3), (13, (.getfield 71), 3), (16, (.if_icmp .ge 86), 3), (19, (.aload_n 0), 1), (20, (.getfield 9), 3), (23, (.iload_n 1), 1), (24, (.iload 4), 2), (26, .iadd, 1), (27, .laload, 1), (28, (.lstore 5), 2), (30, (.iload_n 2), 1), (31, (.lload 5), 2), (33, (.aload_n 0), 1), (34, (.getfield 15), 3), (37, (.getfield 91), 3), (40, (.aload_n 0), 1), (41, (.getfield 65), 3), (44, (.iload 4), 2), (46, .iadd, 1), (47, .laload, 1), (48, .land, 1), (49, (.lconst 0), 1), (50, .lcmp, 1), (51, (.ifCond .eq 7), 3), (54, (.iconst 1), 1), (55, (.goto 4), 3), (58, (.iconst 0), 1), (59, .ior, 1), (60, (.istore_n 2), 1), (61, (.iload_n 3), 1), (62, (.lload 5), 2), (64, (.aload_n 0), 1), (65, (.getfield 15), 3), (68, (.getfield 91), 3), (71, (.aload_n 0), 1), (72, (.getfield 65), 3), (75, (.iload 4), 2), (77, .iadd, 1), (78, .laload, 1), (79, (.ldc2_w 94), 3), (82, .lxor, 1), (83, .land, 1), (84, (.lconst 0), 1), (85, .lcmp, 1), (86, (.ifCond .eq 7), 3), (89, (.iconst 1), 1), (90, (.goto 4), 3), (93, (.iconst 0), 1), (94, .ior, 1), (95, (.istore_n 3), 1), (96, (.iinc 4 1), 3), (99, (.goto (-92)), 3), (102, (.iload_n 2), 1), (103, (.ifCond .eq 7), 3), (106, (.iload_n 3), 1), (107, (.ifCond .ne 7), 3), (110, (.iconst 1), 1), (111, (.goto 4), 3), (114, (.iconst 0), 1), (115, .ireturn, 1)]
set_option maxRecDepth 10000 in
theorem wc_A_isTold : Cond.code y_A_isTold.1 y_A_isTold.2.1 y_A_isTold.2.2.1 y_A_isTold.2.2.2.1 ∈ tbG := mG (mT4 228 rfl) rfl
set_option maxRecDepth 10000 in
theorem wi_A_isTold : Cond.instanceMethod y_A_isTold.1 ∈ tbG := mG (mT4 227 rfl) rfl
set_option maxRecDepth 10000 in
theorem wl_A_isTold : Cond.selects y_A_isTold.1.cls y_A_isTold.1 y_A_isTold.1 ∈ tbG := mG (mP5 (q := (_, 6)) 9 rfl) rfl
abbrev y_A_answersIn : MI := (⟨"LieOfTwo$Asker", "answersIn", "(JJJ)I"⟩, prog_2_method_7_code, 6, (some .int), none)
def t_A_answersIn : List (Nat × Instr × Nat) := [(0, (.lload_n 0), 1), (1, (.lload_n 2), 1), (2, .land, 1), (3, (.lconst 0), 1), (4, .lcmp, 1), (5, (.ifCond .eq 7), 3), (8, (.iconst 1), 1), (9, (.goto 4), 3), (12, (.iconst 0), 1), (13, (.lload_n 0), 1), (14, (.lload 4), 2), (16, .land, 1), (17, (.lconst 0), 1), (18, .lcmp, 1), (19, (.ifCond .eq 7), 3), (22, (.iconst 2), 1), (23, (.goto 4), 3), (26, (.iconst 0), 1), (27, .ior, 1), (28, (.lload_n 0), 1), (29, (.lload_n 2), 1), (30, (.lload 4), 2), (32, .lor, 1), (33, (.ldc2_w 94), 3), (36, .lxor, 1), (37, .land, 1), (38, (.lconst 0), 1), (39, .lcmp, 1), (40, (.ifCond .eq 7), 3), (43, (.iconst 4), 1), (44, (.goto 4), 3), (47, (.iconst 0), 1), (48, .ior, 1), (49, .ireturn, 1)]
set_option maxRecDepth 10000 in
theorem wc_A_answersIn : Cond.code y_A_answersIn.1 y_A_answersIn.2.1 y_A_answersIn.2.2.1 y_A_answersIn.2.2.2.1 ∈ tbG := mG (mT5 0 rfl) rfl
set_option maxRecDepth 10000 in
theorem ws_A_answersIn : Cond.static y_A_answersIn.1 ∈ tbG := mG (mT4 239 rfl) rfl
abbrev y_A_tells : MI := (⟨"LieOfTwo$Asker", "tells", "(II)Z"⟩, prog_2_method_6_code, 12, (some .boolean), none)
def t_A_tells : List (Nat × Instr × Nat) := [(0, (.iconst 0), 1), (1, (.istore_n 3), 1), (2, (.iconst 0), 1), (3, (.istore 4), 2), (5, (.iconst 0), 1), (6, (.istore 5), 2), (8, (.iload 5), 2), (10, (.aload_n 0), 1), (11, (.getfield 15), 3), (14, (.getfield 71), 3), (17, (.if_icmp .ge 119), 3), (20, (.aload_n 0), 1), (21, (.getfield 9), 3), (24, (.iload_n 1), 1), (25, (.iload 5), 2), (27, .iadd, 1), (28, .laload, 1), (29, (.lstore 6), 2), (31, (.aload_n 0), 1), (32, (.getfield 15), 3), (35, (.getfield 35), 3), (38, (.iload_n 2), 1), (39, (.iload 5), 2), (41, .iadd, 1), (42, .laload, 1), (43, (.lstore 8), 2), (45, (.aload_n 0), 1), (46, (.getfield 15), 3), (49, (.getfield 44), 3), (52, (.iload_n 2), 1), (53, (.iload 5), 2), (55, .iadd, 1), (56, .laload, 1), (57, (.lstore 10), 2), (59, (.iload_n 3), 1), (60, (.lload 6), 2), (62, (.aload_n 0), 1), (63, (.getfield 15), 3), (66, (.getfield 91), 3), (69, (.aload_n 0), 1), (70, (.getfield 65), 3), (73, (.iload 5), 2), (75, .iadd, 1), (76, .laload, 1), (77, .land, 1), (78, (.lload 8), 2), (80, (.lload 10), 2), (82, (.invokestatic 100), 3), (85, .ior, 1), (86, (.istore_n 3), 1), (87, (.iload 4), 2), (89, (.lload 6), 2), (91, (.aload_n 0), 1), (92, (.getfield 15), 3), (95, (.getfield 91), 3), (98, (.aload_n 0), 1), (99, (.getfield 65), 3), (102, (.iload 5), 2), (104, .iadd, 1), (105, .laload, 1), (106, (.ldc2_w 94), 3), (109, .lxor, 1), (110, .land, 1), (111, (.lload 8), 2), (113, (.lload 10), 2), (115, (.invokestatic 100), 3), (118, .ior, 1), (119, (.istore 4), 2), (121, (.iload_n 3), 1), (122, (.iload 4), 2), (124, .iand, 1), (125, (.ifCond .eq 5), 3), (128, (.iconst 0), 1), (129, .ireturn, 1), (130, (.iinc 5 1), 3), (133, (.goto (-125)), 3), (136, (.iconst 1), 1), (137, .ireturn, 1)]
set_option maxRecDepth 10000 in
theorem wc_A_tells : Cond.code y_A_tells.1 y_A_tells.2.1 y_A_tells.2.2.1 y_A_tells.2.2.2.1 ∈ tbG := mG (mT4 237 rfl) rfl
set_option maxRecDepth 10000 in
theorem wi_A_tells : Cond.instanceMethod y_A_tells.1 ∈ tbG := mG (mT4 236 rfl) rfl
set_option maxRecDepth 10000 in
theorem wl_A_tells : Cond.selects y_A_tells.1.cls y_A_tells.1 y_A_tells.1 ∈ tbG := mG (mP5 (q := (_, 6)) 11 rfl) rfl
abbrev y_A_oneIsEnough : MI := (⟨"LieOfTwo$Asker", "oneIsEnough", "(I)Z"⟩, prog_2_method_5_code, 4, (some .boolean), none)
def t_A_oneIsEnough : List (Nat × Instr × Nat) := [(0, (.iconst 0), 1), (1, (.istore_n 2), 1), (2, (.iload_n 2), 1), (3, (.aload_n 0), 1), (4, (.getfield 15), 3), (7, (.getfield 23), 3), (10, (.if_icmp .ge 43), 3), (13, (.iconst 0), 1), (14, (.istore_n 3), 1), (15, (.iload_n 3), 1), (16, (.aload_n 0), 1), (17, (.getfield 15), 3), (20, (.getfield 28), 3), (23, (.if_icmp .ge 24), 3), (26, (.aload_n 0), 1), (27, (.iload_n 1), 1), (28, (.iload_n 2), 1), (29, (.iload_n 3), 1), (30, (.invokestatic 31), 3), (33, (.invokevirtual 96), 3), (36, (.ifCond .eq 5), 3), (39, (.iconst 1), 1), (40, .ireturn, 1), (41, (.iinc 3 1), 3), (44, (.goto (-29)), 3), (47, (.iinc 2 1), 3), (50, (.goto (-48)), 3), (53, (.iconst 0), 1), (54, .ireturn, 1)]
set_option maxRecDepth 10000 in
theorem wc_A_oneIsEnough : Cond.code y_A_oneIsEnough.1 y_A_oneIsEnough.2.1 y_A_oneIsEnough.2.2.1 y_A_oneIsEnough.2.2.2.1 ∈ tbG := mG (mT4 233 rfl) rfl
set_option maxRecDepth 10000 in
theorem wi_A_oneIsEnough : Cond.instanceMethod y_A_oneIsEnough.1 ∈ tbG := mG (mT4 232 rfl) rfl
set_option maxRecDepth 10000 in
theorem wl_A_oneIsEnough : Cond.selects y_A_oneIsEnough.1.cls y_A_oneIsEnough.1 y_A_oneIsEnough.1 ∈ tbG := mG (mP5 (q := (_, 6)) 10 rfl) rfl
abbrev y_A_split : MI := (⟨"LieOfTwo$Asker", "split", "(I)V"⟩, prog_2_method_9_code, 7, none, none)
def t_A_split : List (Nat × Instr × Nat) := [(0, (.iconst 0), 1), (1, (.istore_n 2), 1), (2, (.iload_n 2), 1), (3, (.aload_n 0), 1), (4, (.getfield 15), 3), (7, (.getfield 71), 3), (10, (.if_icmp .ge 92), 3), (13, (.aload_n 0), 1), (14, (.getfield 9), 3), (17, (.iload_n 2), 1), (18, .laload, 1), (19, (.aload_n 0), 1), (20, (.getfield 15), 3), (23, (.getfield 35), 3), (26, (.iload_n 1), 1), (27, (.iload_n 2), 1), (28, .iadd, 1), (29, .laload, 1), (30, .land, 1), (31, (.lstore_n 3), 1), (32, (.aload_n 0), 1), (33, (.getfield 9), 3), (36, (.iload_n 2), 1), (37, .laload, 1), (38, (.aload_n 0), 1), (39, (.getfield 15), 3), (42, (.getfield 44), 3), (45, (.iload_n 1), 1), (46, (.iload_n 2), 1), (47, .iadd, 1), (48, .laload, 1), (49, .land, 1), (50, (.lstore 5), 2), (52, (.aload_n 0), 1), (53, (.getfield 9), 3), (56, (.iconst 4), 1), (57, (.iload_n 2), 1), (58, .iadd, 1), (59, (.lload_n 3), 1), (60, .lastore, 1), (61, (.aload_n 0), 1), (62, (.getfield 9), 3), (65, (.bipush 8), 2), (67, (.iload_n 2), 1), (68, .iadd, 1), (69, (.lload 5), 2), (71, .lastore, 1), (72, (.aload_n 0), 1), (73, (.getfield 9), 3), (76, (.bipush 12), 2), (78, (.iload_n 2), 1), (79, .iadd, 1), (80, (.aload_n 0), 1), (81, (.getfield 9), 3), (84, (.iload_n 2), 1), (85, .laload, 1), (86, (.lload_n 3), 1), (87, (.lload 5), 2), (89, .lor, 1), (90, (.ldc2_w 94), 3), (93, .lxor, 1), (94, .land, 1), (95, .lastore, 1), (96, (.iinc 2 1), 3), (99, (.goto (-97)), 3), (102, .return_, 1)]
set_option maxRecDepth 10000 in
theorem wc_A_split : Cond.code y_A_split.1 y_A_split.2.1 y_A_split.2.2.1 y_A_split.2.2.2.1 ∈ tbG := mG (mT5 8 rfl) rfl
set_option maxRecDepth 10000 in
theorem wi_A_split : Cond.instanceMethod y_A_split.1 ∈ tbG := mG (mT5 7 rfl) rfl
set_option maxRecDepth 10000 in
theorem wl_A_split : Cond.selects y_A_split.1.cls y_A_split.1 y_A_split.1 ∈ tbG := mG (mP5 (q := (_, 6)) 13 rfl) rfl
abbrev y_A_isWhole : MI := (⟨"LieOfTwo$Asker", "isWhole", "(I)Z"⟩, prog_2_method_11_code, 3, (some .boolean), none)
def t_A_isWhole : List (Nat × Instr × Nat) := [(0, (.iconst 0), 1), (1, (.istore_n 2), 1), (2, (.iload_n 2), 1), (3, (.aload_n 0), 1), (4, (.getfield 15), 3), (7, (.getfield 71), 3), (10, (.if_icmp .ge 29), 3), (13, (.aload_n 0), 1), (14, (.getfield 9), 3), (17, (.iload_n 1), 1), (18, (.iload_n 2), 1), (19, .iadd, 1), (20, .laload, 1), (21, (.aload_n 0), 1), (22, (.getfield 9), 3), (25, (.iload_n 2), 1), (26, .laload, 1), (27, .lcmp, 1), (28, (.ifCond .eq 5), 3), (31, (.iconst 0), 1), (32, .ireturn, 1), (33, (.iinc 2 1), 3), (36, (.goto (-34)), 3), (39, (.iconst 1), 1), (40, .ireturn, 1)]
set_option maxRecDepth 10000 in
theorem wc_A_isWhole : Cond.code y_A_isWhole.1 y_A_isWhole.2.1 y_A_isWhole.2.2.1 y_A_isWhole.2.2.2.1 ∈ tbG := mG (mT5 16 rfl) rfl
set_option maxRecDepth 10000 in
theorem wi_A_isWhole : Cond.instanceMethod y_A_isWhole.1 ∈ tbG := mG (mT5 15 rfl) rfl
set_option maxRecDepth 10000 in
theorem wl_A_isWhole : Cond.selects y_A_isWhole.1.cls y_A_isWhole.1 y_A_isWhole.1 ∈ tbG := mG (mP5 (q := (_, 6)) 15 rfl) rfl
abbrev y_A_eachIsTold : MI := (⟨"LieOfTwo$Asker", "eachIsTold", "()Z"⟩, prog_2_method_10_code, 2, (some .boolean), none)
def t_A_eachIsTold : List (Nat × Instr × Nat) := [(0, (.iconst 4), 1), (1, (.istore_n 1), 1), (2, (.iload_n 1), 1), (3, (.bipush 12), 2), (5, (.if_icmp .gt 35), 3), (8, (.aload_n 0), 1), (9, (.iload_n 1), 1), (10, (.invokevirtual 80), 3), (13, (.ifCond .ne 21), 3), (16, (.aload_n 0), 1), (17, (.iload_n 1), 1), (18, (.invokevirtual 111), 3), (21, (.ifCond .ne 11), 3), (24, (.aload_n 0), 1), (25, (.iload_n 1), 1), (26, (.invokevirtual 84), 3), (29, (.ifCond .ne 5), 3), (32, (.iconst 0), 1), (33, .ireturn, 1), (34, (.iinc 1 4), 3), (37, (.goto (-35)), 3), (40, (.iconst 1), 1), (41, .ireturn, 1)]
set_option maxRecDepth 10000 in
theorem wc_A_eachIsTold : Cond.code y_A_eachIsTold.1 y_A_eachIsTold.2.1 y_A_eachIsTold.2.2.1 y_A_eachIsTold.2.2.2.1 ∈ tbG := mG (mT5 12 rfl) rfl
set_option maxRecDepth 10000 in
theorem wi_A_eachIsTold : Cond.instanceMethod y_A_eachIsTold.1 ∈ tbG := mG (mT5 11 rfl) rfl
set_option maxRecDepth 10000 in
theorem wl_A_eachIsTold : Cond.selects y_A_eachIsTold.1.cls y_A_eachIsTold.1 y_A_eachIsTold.1 ∈ tbG := mG (mP5 (q := (_, 6)) 14 rfl) rfl
abbrev y_A_twoAreEnough : MI := (⟨"LieOfTwo$Asker", "twoAreEnough", "()Z"⟩, prog_2_method_8_code, 3, (some .boolean), none)
def t_A_twoAreEnough : List (Nat × Instr × Nat) := [(0, (.iconst 0), 1), (1, (.istore_n 1), 1), (2, (.iload_n 1), 1), (3, (.aload_n 0), 1), (4, (.getfield 15), 3), (7, (.getfield 23), 3), (10, (.if_icmp .ge 46), 3), (13, (.iconst 0), 1), (14, (.istore_n 2), 1), (15, (.iload_n 2), 1), (16, (.aload_n 0), 1), (17, (.getfield 15), 3), (20, (.getfield 28), 3), (23, (.if_icmp .ge 27), 3), (26, (.aload_n 0), 1), (27, (.iload_n 1), 1), (28, (.iload_n 2), 1), (29, (.invokestatic 31), 3), (32, (.invokevirtual 104), 3), (35, (.aload_n 0), 1), (36, (.invokevirtual 108), 3), (39, (.ifCond .eq 5), 3), (42, (.iconst 1), 1), (43, .ireturn, 1), (44, (.iinc 2 1), 3), (47, (.goto (-32)), 3), (50, (.iinc 1 1), 3), (53, (.goto (-51)), 3), (56, (.iconst 0), 1), (57, .ireturn, 1)]
set_option maxRecDepth 10000 in
theorem wc_A_twoAreEnough : Cond.code y_A_twoAreEnough.1 y_A_twoAreEnough.2.1 y_A_twoAreEnough.2.2.1 y_A_twoAreEnough.2.2.2.1 ∈ tbG := mG (mT5 4 rfl) rfl
set_option maxRecDepth 10000 in
theorem wi_A_twoAreEnough : Cond.instanceMethod y_A_twoAreEnough.1 ∈ tbG := mG (mT5 3 rfl) rfl
set_option maxRecDepth 10000 in
theorem wl_A_twoAreEnough : Cond.selects y_A_twoAreEnough.1.cls y_A_twoAreEnough.1 y_A_twoAreEnough.1 ∈ tbG := mG (mP5 (q := (_, 6)) 12 rfl) rfl
abbrev y_A_countAskings : MI := (⟨"LieOfTwo$Asker", "countAskings", "(LLieOfTwo$Town;LLieOfTwo$Known;I)I"⟩, prog_2_method_3_code, 4, (some .int), none)
def t_A_countAskings : List (Nat × Instr × Nat) := [(0, (.aload_n 0), 1), (1, (.aload_n 1), 1), (2, (.putfield 15), 3), (5, (.aload_n 0), 1), (6, (.iload_n 3), 1), (7, (.iconst 4), 1), (8, .imul, 1), (9, (.putfield 65), 3), (12, (.aload_n 2), 1), (13, (.getfield 68), 3), (16, (.iconst 0), 1), (17, (.aload_n 0), 1), (18, (.getfield 9), 3), (21, (.iconst 0), 1), (22, (.aload_n 0), 1), (23, (.getfield 15), 3), (26, (.getfield 71), 3), (29, (.invokestatic 74), 3), (32, (.aload_n 0), 1), (33, (.iconst 0), 1), (34, (.invokevirtual 80), 3), (37, (.ifCond .eq 5), 3), (40, (.iconst 0), 1), (41, .ireturn, 1), (42, (.aload_n 0), 1), (43, (.iconst 0), 1), (44, (.invokevirtual 84), 3), (47, (.ifCond .eq 5), 3), (50, (.iconst 1), 1), (51, .ireturn, 1), (52, (.aload_n 0), 1), (53, (.invokevirtual 87), 3), (56, (.ifCond .eq 7), 3), (59, (.iconst 2), 1), (60, (.goto 4), 3), (63, (.iconst (-1)), 1), (64, .ireturn, 1)]
set_option maxRecDepth 10000 in
theorem wc_A_countAskings : Cond.code y_A_countAskings.1 y_A_countAskings.2.1 y_A_countAskings.2.2.1 y_A_countAskings.2.2.2.1 ∈ tbG := mG (mT4 223 rfl) rfl
set_option maxRecDepth 10000 in
theorem wi_A_countAskings : Cond.instanceMethod y_A_countAskings.1 ∈ tbG := mG (mT4 222 rfl) rfl
set_option maxRecDepth 10000 in
theorem wl_A_countAskings : Cond.selects y_A_countAskings.1.cls y_A_countAskings.1 y_A_countAskings.1 ∈ tbG := mG (mP5 (q := (_, 6)) 8 rfl) rfl
abbrev y_X_askings : MI := (⟨"LieOfTwo", "askings", "(II)I"⟩, prog_1_method_20_code, 3, (some .int), none)
def t_X_askings : List (Nat × Instr × Nat) := [(0, (.aload_n 0), 1), (1, (.getfield 46), 3), (4, (.aload_n 0), 1), (5, (.getfield 16), 3), (8, (.aload_n 0), 1), (9, (.getfield 35), 3), (12, (.iload_n 2), 1), (13, (.invokevirtual 161), 3), (16, (.aload_n 0), 1), (17, (.getfield 16), 3), (20, (.iload_n 1), 1), (21, (.invokevirtual 143), 3), (24, (.ifCond .eq 13), 3), (27, (.aload_n 0), 1), (28, (.getfield 46), 3), (31, (.getfield 165), 3), (34, (.ifCond .ne 6), 3), (37, (.bipush (-2)), 2), (39, .ireturn, 1), (40, (.aload_n 0), 1), (41, (.getfield 53), 3), (44, (.aload_n 0), 1), (45, (.getfield 16), 3), (48, (.aload_n 0), 1), (49, (.getfield 46), 3), (52, (.iload_n 1), 1), (53, (.invokevirtual 206), 3), (56, .ireturn, 1)]
set_option maxRecDepth 10000 in
theorem wc_X_askings : Cond.code y_X_askings.1 y_X_askings.2.1 y_X_askings.2.2.1 y_X_askings.2.2.2.1 ∈ tbG := mG (mT4 219 rfl) rfl
set_option maxRecDepth 10000 in
theorem wi_X_askings : Cond.instanceMethod y_X_askings.1 ∈ tbG := mG (mT4 217 rfl) rfl
set_option maxRecDepth 10000 in
theorem wl_X_askings : Cond.selects y_X_askings.1.cls y_X_askings.1 y_X_askings.1 ∈ tbG := mG (mT4 218 rfl) rfl
abbrev y_T_fooled : MI := (⟨"LieOfTwo$Town", "fooled", "(III)I"⟩, prog_10_method_16_code, 6, (some .int), none)
def t_T_fooled : List (Nat × Instr × Nat) := [(0, (.iconst 0), 1), (1, (.istore 4), 2), (3, (.iconst 0), 1), (4, (.istore 5), 2), (6, (.iload 5), 2), (8, (.aload_n 0), 1), (9, (.getfield 53), 3), (12, (.if_icmp .ge 32), 3), (15, (.iload_n 1), 1), (16, (.iload 5), 2), (18, (.invokestatic 94), 3), (21, (.ifCond .ne 17), 3), (24, (.aload_n 0), 1), (25, (.iload 5), 2), (27, (.iload_n 2), 1), (28, (.iload_n 3), 1), (29, (.invokevirtual 90), 3), (32, (.ifCond .eq 6), 3), (35, (.iinc 4 1), 3), (38, (.iinc 5 1), 3), (41, (.goto (-35)), 3), (44, (.iload 4), 2), (46, .ireturn, 1)]
set_option maxRecDepth 10000 in
theorem wc_T_fooled : Cond.code y_T_fooled.1 y_T_fooled.2.1 y_T_fooled.2.2.1 y_T_fooled.2.2.2.1 ∈ tbG := mG (mT5 24 rfl) rfl
set_option maxRecDepth 10000 in
theorem wi_T_fooled : Cond.instanceMethod y_T_fooled.1 ∈ tbG := mG (mT5 23 rfl) rfl
set_option maxRecDepth 10000 in
theorem wl_T_fooled : Cond.selects y_T_fooled.1.cls y_T_fooled.1 y_T_fooled.1 ∈ tbG := mG (mP6 (q := (_, 19)) 0 rfl) rfl
abbrev y_X_lasts : MI := (⟨"LieOfTwo", "lasts", "(IIII)I"⟩, prog_1_method_21_code, 6, (some .int), none)
def t_X_lasts : List (Nat × Instr × Nat) := [(0, (.aload_n 0), 1), (1, (.getfield 16), 3), (4, (.iload_n 1), 1), (5, (.invokevirtual 120), 3), (8, (.ifCond .eq 23), 3), (11, (.aload_n 0), 1), (12, (.getfield 16), 3), (15, (.iload_n 2), 1), (16, (.invokevirtual 120), 3), (19, (.ifCond .eq 12), 3), (22, (.iload_n 1), 1), (23, (.iload_n 2), 1), (24, (.if_icmp .eq 7), 3), (27, (.iconst 1), 1), (28, (.goto 4), 3), (31, (.iconst 0), 1), (32, (.istore 5), 2), (34, (.iload 5), 2), (36, (.ifCond .eq 29), 3), (39, (.aload_n 0), 1), (40, (.getfield 16), 3), (43, (.iload_n 3), 1), (44, (.iload 4), 2), (46, (.invokevirtual 113), 3), (49, (.ifCond .eq 16), 3), (52, (.aload_n 0), 1), (53, (.getfield 16), 3), (56, (.iload_n 3), 1), (57, (.iload 4), 2), (59, (.invokevirtual 117), 3), (62, (.ifCond .eq 5), 3), (65, (.iconst (-1)), 1), (66, .ireturn, 1), (67, (.aload_n 0), 1), (68, (.getfield 16), 3), (71, (.iconst 1), 1), (72, (.iload_n 1), 1), (73, .ishl, 1), (74, (.iconst 1), 1), (75, (.iload_n 2), 1), (76, .ishl, 1), (77, .ior, 1), (78, (.iload_n 3), 1), (79, (.iload 4), 2), (81, (.invokevirtual 210), 3), (84, .ireturn, 1)]
set_option maxRecDepth 10000 in
theorem wc_X_lasts : Cond.code y_X_lasts.1 y_X_lasts.2.1 y_X_lasts.2.2.1 y_X_lasts.2.2.2.1 ∈ tbG := mG (mT5 20 rfl) rfl
set_option maxRecDepth 10000 in
theorem wi_X_lasts : Cond.instanceMethod y_X_lasts.1 ∈ tbG := mG (mT5 18 rfl) rfl
set_option maxRecDepth 10000 in
theorem wl_X_lasts : Cond.selects y_X_lasts.1.cls y_X_lasts.1 y_X_lasts.1 ∈ tbG := mG (mT5 19 rfl) rfl
abbrev y_T_pairOf : MI := (⟨"LieOfTwo$Town", "pairOf", "(I)I"⟩, prog_10_method_19_code, 2, (some .int), none)
def t_T_pairOf : List (Nat × Instr × Nat) := [(0, (.iconst 1), 1), (1, (.aload_n 0), 1), (2, (.getfield 21), 3), (5, (.iload_n 1), 1), (6, .iaload, 1), (7, .ishl, 1), (8, (.iconst 1), 1), (9, (.aload_n 0), 1), (10, (.getfield 24), 3), (13, (.iload_n 1), 1), (14, .iaload, 1), (15, .ishl, 1), (16, .ior, 1), (17, .ireturn, 1)]
set_option maxRecDepth 10000 in
theorem wc_T_pairOf : Cond.code y_T_pairOf.1 y_T_pairOf.2.1 y_T_pairOf.2.2.1 y_T_pairOf.2.2.2.1 ∈ tbG := mG (mT5 42 rfl) rfl
set_option maxRecDepth 10000 in
theorem wi_T_pairOf : Cond.instanceMethod y_T_pairOf.1 ∈ tbG := mG (mT5 41 rfl) rfl
set_option maxRecDepth 10000 in
theorem wl_T_pairOf : Cond.selects y_T_pairOf.1.cls y_T_pairOf.1 y_T_pairOf.1 ∈ tbG := mG (mP6 (q := (_, 19)) 3 rfl) rfl
abbrev y_T_tieOf : MI := (⟨"LieOfTwo$Town", "tieOf", "(II)I"⟩, prog_10_method_18_code, 5, (some .int), none)
def t_T_tieOf : List (Nat × Instr × Nat) := [(0, (.iconst 1), 1), (1, (.iload_n 1), 1), (2, .ishl, 1), (3, (.iconst 1), 1), (4, (.iload_n 2), 1), (5, .ishl, 1), (6, .ior, 1), (7, (.istore_n 3), 1), (8, (.iconst 0), 1), (9, (.istore 4), 2), (11, (.iload 4), 2), (13, (.aload_n 0), 1), (14, (.getfield 59), 3), (17, (.if_icmp .ge 22), 3), (20, (.aload_n 0), 1), (21, (.iload 4), 2), (23, (.invokevirtual 130), 3), (26, (.iload_n 3), 1), (27, (.if_icmp .ne 6), 3), (30, (.iload 4), 2), (32, .ireturn, 1), (33, (.iinc 4 1), 3), (36, (.goto (-25)), 3), (39, (.iconst 0), 1), (40, .ireturn, 1)]
set_option maxRecDepth 10000 in
theorem wc_T_tieOf : Cond.code y_T_tieOf.1 y_T_tieOf.2.1 y_T_tieOf.2.2.1 y_T_tieOf.2.2.2.1 ∈ tbG := mG (mT5 38 rfl) rfl
set_option maxRecDepth 10000 in
theorem wi_T_tieOf : Cond.instanceMethod y_T_tieOf.1 ∈ tbG := mG (mT5 37 rfl) rfl
set_option maxRecDepth 10000 in
theorem wl_T_tieOf : Cond.selects y_T_tieOf.1.cls y_T_tieOf.1 y_T_tieOf.1 ∈ tbG := mG (mP6 (q := (_, 19)) 2 rfl) rfl
abbrev y_T_bestPartner : MI := (⟨"LieOfTwo$Town", "bestPartner", "(III)I"⟩, prog_10_method_17_code, 9, (some .int), none)
def t_T_bestPartner : List (Nat × Instr × Nat) := [(0, (.iconst (-1)), 1), (1, (.istore 4), 2), (3, (.iconst 0), 1), (4, (.istore 5), 2), (6, (.iconst 0), 1), (7, (.istore 6), 2), (9, (.iload 6), 2), (11, (.aload_n 0), 1), (12, (.getfield 53), 3), (15, (.if_icmp .ge 80), 3), (18, (.aload_n 0), 1), (19, (.getfield 18), 3), (22, (.iload_n 1), 1), (23, .iaload, 1), (24, (.iload 6), 2), (26, (.invokestatic 94), 3), (29, (.ifCond .eq 60), 3), (32, (.aload_n 0), 1), (33, (.iconst 1), 1), (34, (.iload_n 1), 1), (35, .ishl, 1), (36, (.iconst 1), 1), (37, (.iload 6), 2), (39, .ishl, 1), (40, .ior, 1), (41, (.iload_n 2), 1), (42, (.iload_n 3), 1), (43, (.invokevirtual 124), 3), (46, (.istore 7), 2), (48, (.iload 7), 2), (50, (.bipush 10), 2), (52, .imul, 1), (53, (.aload_n 0), 1), (54, (.getfield 27), 3), (57, (.aload_n 0), 1), (58, (.iload_n 1), 1), (59, (.iload 6), 2), (61, (.invokevirtual 127), 3), (64, .iaload, 1), (65, .isub, 1), (66, (.istore 8), 2), (68, (.iload 4), 2), (70, (.iconst (-1)), 1), (71, (.if_icmp .eq 10), 3), (74, (.iload 8), 2), (76, (.iload 5), 2), (78, (.if_icmp .le 11), 3), (81, (.iload 6), 2), (83, (.istore 4), 2), (85, (.iload 8), 2), (87, (.istore 5), 2), (89, (.iinc 6 1), 3), (92, (.goto (-83)), 3), (95, (.iload 4), 2), (97, .ireturn, 1)]
set_option maxRecDepth 10000 in
theorem wc_T_bestPartner : Cond.code y_T_bestPartner.1 y_T_bestPartner.2.1 y_T_bestPartner.2.2.1 y_T_bestPartner.2.2.2.1 ∈ tbG := mG (mT5 33 rfl) rfl
set_option maxRecDepth 10000 in
theorem wi_T_bestPartner : Cond.instanceMethod y_T_bestPartner.1 ∈ tbG := mG (mT5 32 rfl) rfl
set_option maxRecDepth 10000 in
theorem wl_T_bestPartner : Cond.selects y_T_bestPartner.1.cls y_T_bestPartner.1 y_T_bestPartner.1 ∈ tbG := mG (mP6 (q := (_, 19)) 1 rfl) rfl
abbrev y_X_with : MI := (⟨"LieOfTwo", "with", "(III)I"⟩, prog_1_method_22_code, 4, (some .int), none)
def t_X_with : List (Nat × Instr × Nat) := [(0, (.aload_n 0), 1), (1, (.getfield 16), 3), (4, (.iload_n 1), 1), (5, (.invokevirtual 120), 3), (8, (.ifCond .eq 27), 3), (11, (.aload_n 0), 1), (12, (.getfield 16), 3), (15, (.iload_n 2), 1), (16, (.iload_n 3), 1), (17, (.invokevirtual 113), 3), (20, (.ifCond .eq 15), 3), (23, (.aload_n 0), 1), (24, (.getfield 16), 3), (27, (.iload_n 2), 1), (28, (.iload_n 3), 1), (29, (.invokevirtual 117), 3), (32, (.ifCond .eq 5), 3), (35, (.iconst (-1)), 1), (36, .ireturn, 1), (37, (.aload_n 0), 1), (38, (.getfield 16), 3), (41, (.iload_n 1), 1), (42, (.iload_n 2), 1), (43, (.iload_n 3), 1), (44, (.invokevirtual 213), 3), (47, .ireturn, 1)]
set_option maxRecDepth 10000 in
theorem wc_X_with : Cond.code y_X_with.1 y_X_with.2.1 y_X_with.2.2.1 y_X_with.2.2.2.1 ∈ tbG := mG (mT5 29 rfl) rfl
set_option maxRecDepth 10000 in
theorem wi_X_with : Cond.instanceMethod y_X_with.1 ∈ tbG := mG (mT5 27 rfl) rfl
set_option maxRecDepth 10000 in
theorem wl_X_with : Cond.selects y_X_with.1.cls y_X_with.1 y_X_with.1 ∈ tbG := mG (mT5 28 rfl) rfl
abbrev y_T_mostWished : MI := (⟨"LieOfTwo$Town", "mostWished", "(II)I"⟩, prog_10_method_20_code, 7, (some .int), none)
def t_T_mostWished : List (Nat × Instr × Nat) := [(0, (.iconst 0), 1), (1, (.istore_n 3), 1), (2, (.iconst 0), 1), (3, (.istore 4), 2), (5, (.iload 4), 2), (7, (.aload_n 0), 1), (8, (.getfield 56), 3), (11, (.if_icmp .ge 79), 3), (14, (.aload_n 0), 1), (15, (.getfield 30), 3), (18, (.aload_n 0), 1), (19, (.getfield 21), 3), (22, (.iload_n 1), 1), (23, .iaload, 1), (24, (.bipush 12), 2), (26, .imul, 1), (27, (.iload 4), 2), (29, .iadd, 1), (30, .iaload, 1), (31, (.istore 5), 2), (33, (.aload_n 0), 1), (34, (.getfield 30), 3), (37, (.aload_n 0), 1), (38, (.getfield 24), 3), (41, (.iload_n 1), 1), (42, .iaload, 1), (43, (.bipush 12), 2), (45, .imul, 1), (46, (.iload 4), 2), (48, .iadd, 1), (49, .iaload, 1), (50, (.istore 6), 2), (52, (.iload 5), 2), (54, (.iconst (-1)), 1), (55, (.if_icmp .eq 29), 3), (58, (.iload 6), 2), (60, (.iconst (-1)), 1), (61, (.if_icmp .eq 23), 3), (64, (.aload_n 0), 1), (65, (.iload 4), 2), (67, (.iload_n 2), 1), (68, (.invokevirtual 133), 3), (71, (.ifCond .ne 13), 3), (74, (.iload_n 3), 1), (75, (.iload 5), 2), (77, (.iload 6), 2), (79, .iadd, 1), (80, (.invokestatic 136), 3), (83, (.istore_n 3), 1), (84, (.iinc 4 1), 3), (87, (.goto (-82)), 3), (90, (.iload_n 3), 1), (91, .ireturn, 1)]
set_option maxRecDepth 10000 in
theorem wc_T_mostWished : Cond.code y_T_mostWished.1 y_T_mostWished.2.1 y_T_mostWished.2.2.1 y_T_mostWished.2.2.2.1 ∈ tbG := mG (mT5 54 rfl) rfl
set_option maxRecDepth 10000 in
theorem wi_T_mostWished : Cond.instanceMethod y_T_mostWished.1 ∈ tbG := mG (mT5 53 rfl) rfl
set_option maxRecDepth 10000 in
theorem wl_T_mostWished : Cond.selects y_T_mostWished.1.cls y_T_mostWished.1 y_T_mostWished.1 ∈ tbG := mG (mP6 (q := (_, 19)) 5 rfl) rfl
abbrev y_P_seekMost : MI := (⟨"LieOfTwo$Pairing", "seekMost", "(IIII)V"⟩, prog_6_method_3_code, 7, none, none)
def t_P_seekMost : List (Nat × Instr × Nat) := [(0, (.iload_n 3), 1), (1, (.aload_n 0), 1), (2, (.getfield 32), 3), (5, (.if_icmp .gt 20), 3), (8, (.iload_n 3), 1), (9, (.aload_n 0), 1), (10, (.getfield 32), 3), (13, (.if_icmp .ne 23), 3), (16, (.iload 4), 2), (18, (.aload_n 0), 1), (19, (.getfield 35), 3), (22, (.if_icmp .ge 14), 3), (25, (.aload_n 0), 1), (26, (.iload_n 3), 1), (27, (.putfield 32), 3), (30, (.aload_n 0), 1), (31, (.iload 4), 2), (33, (.putfield 35), 3), (36, (.iload_n 1), 1), (37, (.istore 5), 2), (39, (.iload 5), 2), (41, (.aload_n 0), 1), (42, (.getfield 15), 3), (45, (.getfield 19), 3), (48, (.if_icmp .ge 65), 3), (51, (.aload_n 0), 1), (52, (.getfield 15), 3), (55, (.iload 5), 2), (57, (.invokevirtual 42), 3), (60, (.istore 6), 2), (62, (.aload_n 0), 1), (63, (.getfield 9), 3), (66, (.iload 5), 2), (68, .iaload, 1), (69, (.ifCond .le 38), 3), (72, (.iload_n 2), 1), (73, (.iload 6), 2), (75, .iand, 1), (76, (.ifCond .ne 31), 3), (79, (.aload_n 0), 1), (80, (.iload 5), 2), (82, (.iconst 1), 1), (83, .iadd, 1), (84, (.iload_n 2), 1), (85, (.iload 6), 2), (87, .ior, 1), (88, (.iload_n 3), 1), (89, (.aload_n 0), 1), (90, (.getfield 9), 3), (93, (.iload 5), 2), (95, .iaload, 1), (96, .iadd, 1), (97, (.iload 4), 2), (99, (.iconst 1), 1), (100, (.iload 5), 2), (102, .ishl, 1), (103, .ior, 1), (104, (.invokevirtual 38), 3), (107, (.iinc 5 1), 3), (110, (.goto (-71)), 3), (113, .return_, 1)]
set_option maxRecDepth 10000 in
theorem wc_P_seekMost : Cond.code y_P_seekMost.1 y_P_seekMost.2.1 y_P_seekMost.2.2.1 y_P_seekMost.2.2.2.1 ∈ tbG := mG (mT5 60 rfl) rfl
set_option maxRecDepth 10000 in
theorem wi_P_seekMost : Cond.instanceMethod y_P_seekMost.1 ∈ tbG := mG (mT5 59 rfl) rfl
set_option maxRecDepth 10000 in
theorem wl_P_seekMost : Cond.selects y_P_seekMost.1.cls y_P_seekMost.1 y_P_seekMost.1 ∈ tbG := mG (mP6 (q := (_, 6)) 6 rfl) rfl
abbrev y_P_settleGains : MI := (⟨"LieOfTwo$Pairing", "settleGains", "(LLieOfTwo$Town;I)V"⟩, prog_6_method_2_code, 4, none, none)
def t_P_settleGains : List (Nat × Instr × Nat) := [(0, (.aload_n 0), 1), (1, (.aload_n 1), 1), (2, (.putfield 15), 3), (5, (.iconst 0), 1), (6, (.istore_n 3), 1), (7, (.iload_n 3), 1), (8, (.aload_n 0), 1), (9, (.getfield 15), 3), (12, (.getfield 19), 3), (15, (.if_icmp .ge 36), 3), (18, (.aload_n 0), 1), (19, (.getfield 9), 3), (22, (.iload_n 3), 1), (23, (.aload_n 0), 1), (24, (.getfield 15), 3), (27, (.iload_n 3), 1), (28, (.iload_n 2), 1), (29, (.invokevirtual 25), 3), (32, (.iconst 2), 1), (33, (.aload_n 0), 1), (34, (.getfield 15), 3), (37, (.getfield 29), 3), (40, (.iload_n 3), 1), (41, .iaload, 1), (42, .imul, 1), (43, .isub, 1), (44, .iastore, 1), (45, (.iinc 3 1), 3), (48, (.goto (-41)), 3), (51, (.aload_n 0), 1), (52, (.iconst 0), 1), (53, (.putfield 32), 3), (56, (.aload_n 0), 1), (57, (.iconst 0), 1), (58, (.putfield 35), 3), (61, (.aload_n 0), 1), (62, (.iconst 0), 1), (63, (.iconst 0), 1), (64, (.iconst 0), 1), (65, (.iconst 0), 1), (66, (.invokevirtual 38), 3), (69, .return_, 1)]
set_option maxRecDepth 10000 in
theorem wc_P_settleGains : Cond.code y_P_settleGains.1 y_P_settleGains.2.1 y_P_settleGains.2.2.1 y_P_settleGains.2.2.2.1 ∈ tbG := mG (mT5 50 rfl) rfl
set_option maxRecDepth 10000 in
theorem wi_P_settleGains : Cond.instanceMethod y_P_settleGains.1 ∈ tbG := mG (mT5 49 rfl) rfl
set_option maxRecDepth 10000 in
theorem wl_P_settleGains : Cond.selects y_P_settleGains.1.cls y_P_settleGains.1 y_P_settleGains.1 ∈ tbG := mG (mP6 (q := (_, 6)) 4 rfl) rfl
abbrev y_X_rest : MI := (⟨"LieOfTwo", "rest", "(II)I"⟩, prog_1_method_23_code, 3, (some .int), none)
def t_X_rest : List (Nat × Instr × Nat) := [(0, (.aload_n 0), 1), (1, (.getfield 16), 3), (4, (.iload_n 1), 1), (5, (.invokevirtual 181), 3), (8, (.ifCond .eq 12), 3), (11, (.iload_n 2), 1), (12, (.ifCond .lt 8), 3), (15, (.iload_n 2), 1), (16, (.iconst 1), 1), (17, (.if_icmp .le 5), 3), (20, (.iconst (-1)), 1), (21, .ireturn, 1), (22, (.aload_n 0), 1), (23, (.getfield 60), 3), (26, (.aload_n 0), 1), (27, (.getfield 16), 3), (30, (.iload_n 1), 1), (31, (.invokevirtual 216), 3), (34, (.iload_n 2), 1), (35, (.ifCond .ne 13), 3), (38, (.aload_n 0), 1), (39, (.getfield 60), 3), (42, (.getfield 219), 3), (45, (.goto 10), 3), (48, (.aload_n 0), 1), (49, (.getfield 60), 3), (52, (.getfield 222), 3), (55, .ireturn, 1)]
set_option maxRecDepth 10000 in
theorem wc_X_rest : Cond.code y_X_rest.1 y_X_rest.2.1 y_X_rest.2.2.1 y_X_rest.2.2.2.1 ∈ tbG := mG (mT5 46 rfl) rfl
set_option maxRecDepth 10000 in
theorem wi_X_rest : Cond.instanceMethod y_X_rest.1 ∈ tbG := mG (mT5 44 rfl) rfl
set_option maxRecDepth 10000 in
theorem wl_X_rest : Cond.selects y_X_rest.1.cls y_X_rest.1 y_X_rest.1 ∈ tbG := mG (mT5 45 rfl) rfl
abbrev y_X_commonDivisor : MI := (⟨"LieOfTwo", "commonDivisor", "(II)I"⟩, prog_1_method_25_code, 6, (some .int), none)
def t_X_commonDivisor : List (Nat × Instr × Nat) := [(0, (.iload_n 0), 1), (1, (.istore_n 2), 1), (2, (.iload_n 1), 1), (3, (.istore_n 3), 1), (4, (.iconst 0), 1), (5, (.istore 4), 2), (7, (.iload 4), 2), (9, (.bipush 64), 2), (11, (.if_icmp .ge 23), 3), (14, (.iload_n 3), 1), (15, (.ifCond .eq 19), 3), (18, (.iload_n 2), 1), (19, (.iload_n 3), 1), (20, .irem, 1), (21, (.istore 5), 2), (23, (.iload_n 3), 1), (24, (.istore_n 2), 1), (25, (.iload 5), 2), (27, (.istore_n 3), 1), (28, (.iinc 4 1), 3), (31, (.goto (-24)), 3), (34, (.iload_n 2), 1), (35, (.ifCond .ne 7), 3), (38, (.iconst 1), 1), (39, (.goto 4), 3), (42, (.iload_n 2), 1), (43, .ireturn, 1)]
set_option maxRecDepth 10000 in
theorem wc_X_commonDivisor : Cond.code y_X_commonDivisor.1 y_X_commonDivisor.2.1 y_X_commonDivisor.2.2.1 y_X_commonDivisor.2.2.2.1 ∈ tbG := mG (mT5 68 rfl) rfl
set_option maxRecDepth 10000 in
theorem ws_X_commonDivisor : Cond.static y_X_commonDivisor.1 ∈ tbG := mG (mT5 67 rfl) rfl
abbrev y_X_truth : MI := (⟨"LieOfTwo", "truth", "(IIIII)I"⟩, prog_1_method_24_code, 11, (some .int), none)
def t_X_truth : List (Nat × Instr × Nat) := [(0, (.iload_n 2), 1), (1, (.ifCond .lt 23), 3), (4, (.iload_n 2), 1), (5, (.bipush 10), 2), (7, (.if_icmp .gt 17), 3), (10, (.iload_n 3), 1), (11, (.ifCond .lt 13), 3), (14, (.iload_n 3), 1), (15, (.bipush 10), 2), (17, (.if_icmp .gt 7), 3), (20, (.iconst 1), 1), (21, (.goto 4), 3), (24, (.iconst 0), 1), (25, (.istore 6), 2), (27, (.iload 6), 2), (29, (.ifCond .eq 25), 3), (32, (.iload 4), 2), (34, (.ifCond .lt 20), 3), (37, (.iload 4), 2), (39, (.iconst 1), 1), (40, (.if_icmp .gt 14), 3), (43, (.aload_n 0), 1), (44, (.getfield 16), 3), (47, (.iload_n 1), 1), (48, (.invokevirtual 143), 3), (51, (.ifCond .ne 5), 3), (54, (.iconst (-1)), 1), (55, .ireturn, 1), (56, (.aload_n 0), 1), (57, (.getfield 46), 3), (60, (.aload_n 0), 1), (61, (.getfield 16), 3), (64, (.aload_n 0), 1), (65, (.getfield 35), 3), (68, (.iload 5), 2), (70, (.invokevirtual 161), 3), (73, (.aload_n 0), 1), (74, (.getfield 46), 3), (77, (.iload_n 1), 1), (78, (.invokevirtual 173), 3), (81, (.istore 7), 2), (83, (.iload 7), 2), (85, (.iload_n 2), 1), (86, .imul, 1), (87, (.istore 8), 2), (89, (.iload 8), 2), (91, (.aload_n 0), 1), (92, (.getfield 46), 3), (95, (.getfield 165), 3), (98, (.iload 7), 2), (100, .isub, 1), (101, (.iload_n 3), 1), (102, .imul, 1), (103, .iadd, 1), (104, (.istore 9), 2), (106, (.iload 9), 2), (108, (.ifCond .ne 5), 3), (111, (.iconst (-1)), 1), (112, .ireturn, 1), (113, (.iload 9), 2), (115, (.iload 8), 2), (117, (.invokestatic 225), 3), (120, (.istore 10), 2), (122, (.iload 4), 2), (124, (.ifCond .ne 8), 3), (127, (.iload 8), 2), (129, (.goto 5), 3), (132, (.iload 9), 2), (134, (.iload 10), 2), (136, .idiv, 1), (137, .ireturn, 1)]
set_option maxRecDepth 10000 in
theorem wc_X_truth : Cond.code y_X_truth.1 y_X_truth.2.1 y_X_truth.2.2.1 y_X_truth.2.2.2.1 ∈ tbG := mG (mT5 65 rfl) rfl
set_option maxRecDepth 10000 in
theorem wi_X_truth : Cond.instanceMethod y_X_truth.1 ∈ tbG := mG (mT5 63 rfl) rfl
set_option maxRecDepth 10000 in
theorem wl_X_truth : Cond.selects y_X_truth.1.cls y_X_truth.1 y_X_truth.1 ∈ tbG := mG (mT5 64 rfl) rfl
abbrev y_C_notePairs : MI := (⟨"LieOfTwo$Covering", "notePairs", "(I)V"⟩, prog_3_method_3_code, 5, none, none)
def t_C_notePairs : List (Nat × Instr × Nat) := [(0, (.aload_n 0), 1), (1, (.getfield 19), 3), (4, (.getfield 47), 3), (7, (.iload_n 1), 1), (8, .iaload, 1), (9, (.istore_n 2), 1), (10, (.iconst 0), 1), (11, (.istore_n 3), 1), (12, (.iload_n 3), 1), (13, (.aload_n 0), 1), (14, (.getfield 15), 3), (17, (.getfield 60), 3), (20, (.if_icmp .ge 67), 3), (23, (.iload_n 3), 1), (24, (.iconst 1), 1), (25, .iadd, 1), (26, (.istore 4), 2), (28, (.iload 4), 2), (30, (.aload_n 0), 1), (31, (.getfield 15), 3), (34, (.getfield 60), 3), (37, (.if_icmp .ge 44), 3), (40, (.iload_n 2), 1), (41, (.iload_n 3), 1), (42, (.invokestatic 64), 3), (45, (.ifCond .eq 30), 3), (48, (.iload_n 2), 1), (49, (.iload 4), 2), (51, (.invokestatic 64), 3), (54, (.ifCond .eq 21), 3), (57, (.aload_n 0), 1), (58, (.getfield 9), 3), (61, (.iload_n 3), 1), (62, (.bipush 8), 2), (64, .imul, 1), (65, (.iload 4), 2), (67, .iadd, 1), (68, .dup2, 1), (69, .laload, 1), (70, (.lconst 1), 1), (71, (.iload_n 1), 1), (72, .lshl, 1), (73, .lor, 1), (74, .lastore, 1), (75, (.iinc 4 1), 3), (78, (.goto (-50)), 3), (81, (.iinc 3 1), 3), (84, (.goto (-72)), 3), (87, .return_, 1)]
set_option maxRecDepth 10000 in
theorem wc_C_notePairs : Cond.code y_C_notePairs.1 y_C_notePairs.2.1 y_C_notePairs.2.2.1 y_C_notePairs.2.2.2.1 ∈ tbG := mG (mT5 81 rfl) rfl
set_option maxRecDepth 10000 in
theorem wi_C_notePairs : Cond.instanceMethod y_C_notePairs.1 ∈ tbG := mG (mT5 80 rfl) rfl
set_option maxRecDepth 10000 in
theorem wl_C_notePairs : Cond.selects y_C_notePairs.1.cls y_C_notePairs.1 y_C_notePairs.1 ∈ tbG := mG (mP6 (q := (_, 5)) 8 rfl) rfl
abbrev y_C_watch : MI := (⟨"LieOfTwo$Covering", "watch", "(LLieOfTwo$Town;LLieOfTwo$Sayings;LLieOfTwo$Known;)V"⟩, prog_3_method_2_code, 6, none, none)
def t_C_watch : List (Nat × Instr × Nat) := [(0, (.aload_n 0), 1), (1, (.aload_n 1), 1), (2, (.putfield 15), 3), (5, (.aload_n 0), 1), (6, (.aload_n 2), 1), (7, (.putfield 19), 3), (10, (.aload_n 0), 1), (11, (.aload_n 3), 1), (12, (.putfield 23), 3), (15, (.aload_n 0), 1), (16, (.lconst 0), 1), (17, (.putfield 27), 3), (20, (.iconst 0), 1), (21, (.istore 4), 2), (23, (.iload 4), 2), (25, (.bipush 64), 2), (27, (.if_icmp .ge 17), 3), (30, (.aload_n 0), 1), (31, (.getfield 9), 3), (34, (.iload 4), 2), (36, (.lconst 0), 1), (37, .lastore, 1), (38, (.iinc 4 1), 3), (41, (.goto (-18)), 3), (44, (.iconst 0), 1), (45, (.istore 4), 2), (47, (.iload 4), 2), (49, (.aload_n 0), 1), (50, (.getfield 23), 3), (53, (.getfield 31), 3), (56, (.if_icmp .ge 70), 3), (59, (.aload_n 0), 1), (60, (.getfield 23), 3), (63, (.getfield 37), 3), (66, (.iload 4), 2), (68, .iaload, 1), (69, (.istore 5), 2), (71, (.aload_n 0), 1), (72, (.getfield 19), 3), (75, (.getfield 41), 3), (78, (.iload 5), 2), (80, .baload, 1), (81, (.ifCond .eq 39), 3), (84, (.aload_n 0), 1), (85, (.getfield 19), 3), (88, (.getfield 47), 3), (91, (.iload 5), 2), (93, .iaload, 1), (94, (.invokestatic 50), 3), (97, (.iconst 1), 1), (98, (.if_icmp .le 22), 3), (101, (.aload_n 0), 1), (102, .dup, 1), (103, (.getfield 27), 3), (106, (.lconst 1), 1), (107, (.iload 5), 2), (109, .lshl, 1), (110, .lor, 1), (111, (.putfield 27), 3), (114, (.aload_n 0), 1), (115, (.iload 5), 2), (117, (.invokevirtual 56), 3), (120, (.iinc 4 1), 3), (123, (.goto (-76)), 3), (126, .return_, 1)]
set_option maxRecDepth 10000 in
theorem wc_C_watch : Cond.code y_C_watch.1 y_C_watch.2.1 y_C_watch.2.2.1 y_C_watch.2.2.2.1 ∈ tbG := mG (mT5 76 rfl) rfl
set_option maxRecDepth 10000 in
theorem wi_C_watch : Cond.instanceMethod y_C_watch.1 ∈ tbG := mG (mT5 75 rfl) rfl
set_option maxRecDepth 10000 in
theorem wl_C_watch : Cond.selects y_C_watch.1.cls y_C_watch.1 y_C_watch.1 ∈ tbG := mG (mP6 (q := (_, 5)) 7 rfl) rfl
abbrev y_C_tightest : MI := (⟨"LieOfTwo$Covering", "tightest", "(JI)I"⟩, prog_3_method_6_code, 8, (some .int), none)
def t_C_tightest : List (Nat × Instr × Nat) := [(0, (.iconst (-1)), 1), (1, (.istore 4), 2), (3, (.iconst 0), 1), (4, (.istore 5), 2), (6, (.iload 5), 2), (8, (.aload_n 0), 1), (9, (.getfield 23), 3), (12, (.getfield 31), 3), (15, (.if_icmp .ge 71), 3), (18, (.aload_n 0), 1), (19, (.getfield 23), 3), (22, (.getfield 37), 3), (25, (.iload 5), 2), (27, .iaload, 1), (28, (.istore 6), 2), (30, (.lload_n 1), 1), (31, (.iload 6), 2), (33, .lushr, 1), (34, (.lconst 1), 1), (35, .land, 1), (36, (.lconst 0), 1), (37, .lcmp, 1), (38, (.ifCond .eq 42), 3), (41, (.aload_n 0), 1), (42, (.getfield 19), 3), (45, (.getfield 47), 3), (48, (.iload 6), 2), (50, .iaload, 1), (51, (.iload_n 3), 1), (52, (.iconst (-1)), 1), (53, .ixor, 1), (54, .iand, 1), (55, (.istore 7), 2), (57, (.iload 4), 2), (59, (.iconst (-1)), 1), (60, (.if_icmp .eq 16), 3), (63, (.iload 7), 2), (65, (.invokestatic 50), 3), (68, (.iload 4), 2), (70, (.invokestatic 50), 3), (73, (.if_icmp .ge 7), 3), (76, (.iload 7), 2), (78, (.istore 4), 2), (80, (.iinc 5 1), 3), (83, (.goto (-77)), 3), (86, (.iload 4), 2), (88, .ireturn, 1)]
set_option maxRecDepth 10000 in
theorem wc_C_tightest : Cond.code y_C_tightest.1 y_C_tightest.2.1 y_C_tightest.2.2.1 y_C_tightest.2.2.2.1 ∈ tbG := mG (mT5 95 rfl) rfl
set_option maxRecDepth 10000 in
theorem wi_C_tightest : Cond.instanceMethod y_C_tightest.1 ∈ tbG := mG (mT5 94 rfl) rfl
set_option maxRecDepth 10000 in
theorem wl_C_tightest : Cond.selects y_C_tightest.1.cls y_C_tightest.1 y_C_tightest.1 ∈ tbG := mG (mP6 (q := (_, 5)) 11 rfl) rfl
abbrev y_C_fewestFor : MI := (⟨"LieOfTwo$Covering", "fewestFor", "(JII)I"⟩, prog_3_method_5_code, 13, (some .int), none)
def t_C_fewestFor : List (Nat × Instr × Nat) := [(0, (.lload_n 1), 1), (1, (.lconst 0), 1), (2, .lcmp, 1), (3, (.ifCond .ne 5), 3), (6, (.iconst 0), 1), (7, .ireturn, 1), (8, (.iload 4), 2), (10, (.ifCond .le 12), 3), (13, (.aload_n 0), 1), (14, (.lload_n 1), 1), (15, (.iload_n 3), 1), (16, (.invokevirtual 78), 3), (19, (.goto 4), 3), (22, (.iconst 0), 1), (23, (.istore 5), 2), (25, (.bipush 8), 2), (27, (.istore 6), 2), (29, (.iconst 0), 1), (30, (.istore 7), 2), (32, (.iload 7), 2), (34, (.aload_n 0), 1), (35, (.getfield 15), 3), (38, (.getfield 60), 3), (41, (.if_icmp .ge 124), 3), (44, (.iload 7), 2), (46, (.iconst 1), 1), (47, .iadd, 1), (48, (.istore 8), 2), (50, (.iload 8), 2), (52, (.aload_n 0), 1), (53, (.getfield 15), 3), (56, (.getfield 60), 3), (59, (.if_icmp .ge 100), 3), (62, (.iload 5), 2), (64, (.iload 7), 2), (66, (.invokestatic 64), 3), (69, (.ifCond .eq 84), 3), (72, (.iload 5), 2), (74, (.iload 8), 2), (76, (.invokestatic 64), 3), (79, (.ifCond .eq 74), 3), (82, (.lload_n 1), 1), (83, (.aload_n 0), 1), (84, (.getfield 9), 3), (87, (.iload 7), 2), (89, (.bipush 8), 2), (91, .imul, 1), (92, (.iload 8), 2), (94, .iadd, 1), (95, .laload, 1), (96, (.ldc2_w 82), 3), (99, .lxor, 1), (100, .land, 1), (101, (.lstore 9), 2), (103, (.iload 4), 2), (105, (.iload 6), 2), (107, (.iconst 1), 1), (108, .isub, 1), (109, (.invokestatic 84), 3), (112, (.iconst 1), 1), (113, .isub, 1), (114, (.istore 11), 2), (116, (.iload 11), 2), (118, (.ifCond .lt 35), 3), (121, (.iconst 1), 1), (122, (.aload_n 0), 1), (123, (.lload 9), 2), (125, (.iload_n 3), 1), (126, (.iconst 1), 1), (127, (.iload 7), 2), (129, .ishl, 1), (130, .ior, 1), (131, (.iconst 1), 1), (132, (.iload 8), 2), (134, .ishl, 1), (135, .ior, 1), (136, (.iload 11), 2), (138, (.invokevirtual 74), 3), (141, .iadd, 1), (142, (.istore 12), 2), (144, (.iload 6), 2), (146, (.iload 12), 2), (148, (.invokestatic 84), 3), (151, (.istore 6), 2), (153, (.iinc 8 1), 3), (156, (.goto (-106)), 3), (159, (.iinc 7 1), 3), (162, (.goto (-130)), 3), (165, (.iload 6), 2), (167, .ireturn, 1)]
set_option maxRecDepth 10000 in
theorem wc_C_fewestFor : Cond.code y_C_fewestFor.1 y_C_fewestFor.2.1 y_C_fewestFor.2.2.1 y_C_fewestFor.2.2.2.1 ∈ tbG := mG (mT5 91 rfl) rfl
set_option maxRecDepth 10000 in
theorem wi_C_fewestFor : Cond.instanceMethod y_C_fewestFor.1 ∈ tbG := mG (mT5 90 rfl) rfl
set_option maxRecDepth 10000 in
theorem wl_C_fewestFor : Cond.selects y_C_fewestFor.1.cls y_C_fewestFor.1 y_C_fewestFor.1 ∈ tbG := mG (mP6 (q := (_, 5)) 10 rfl) rfl
abbrev y_C_fewestIn : MI := (⟨"LieOfTwo$Covering", "fewestIn", "(II)I"⟩, prog_3_method_4_code, 7, (some .int), none)
def t_C_fewestIn : List (Nat × Instr × Nat) := [(0, (.lconst 0), 1), (1, (.lstore_n 3), 1), (2, (.iconst 0), 1), (3, (.istore 5), 2), (5, (.iload 5), 2), (7, (.aload_n 0), 1), (8, (.getfield 23), 3), (11, (.getfield 31), 3), (14, (.if_icmp .ge 63), 3), (17, (.aload_n 0), 1), (18, (.getfield 23), 3), (21, (.getfield 37), 3), (24, (.iload 5), 2), (26, .iaload, 1), (27, (.istore 6), 2), (29, (.aload_n 0), 1), (30, (.getfield 27), 3), (33, (.iload 6), 2), (35, .lushr, 1), (36, (.lconst 1), 1), (37, .land, 1), (38, (.lconst 0), 1), (39, .lcmp, 1), (40, (.ifCond .eq 31), 3), (43, (.aload_n 0), 1), (44, (.getfield 15), 3), (47, (.aload_n 0), 1), (48, (.getfield 19), 3), (51, (.getfield 68), 3), (54, (.iload 6), 2), (56, .iaload, 1), (57, (.iload_n 1), 1), (58, (.invokevirtual 71), 3), (61, (.ifCond .ne 10), 3), (64, (.lload_n 3), 1), (65, (.lconst 1), 1), (66, (.iload 6), 2), (68, .lshl, 1), (69, .lor, 1), (70, (.lstore_n 3), 1), (71, (.iinc 5 1), 3), (74, (.goto (-69)), 3), (77, (.aload_n 0), 1), (78, (.lload_n 3), 1), (79, (.iconst 0), 1), (80, (.iload_n 2), 1), (81, (.invokevirtual 74), 3), (84, .ireturn, 1)]
set_option maxRecDepth 10000 in
theorem wc_C_fewestIn : Cond.code y_C_fewestIn.1 y_C_fewestIn.2.1 y_C_fewestIn.2.2.1 y_C_fewestIn.2.2.2.1 ∈ tbG := mG (mT5 86 rfl) rfl
set_option maxRecDepth 10000 in
theorem wi_C_fewestIn : Cond.instanceMethod y_C_fewestIn.1 ∈ tbG := mG (mT5 85 rfl) rfl
set_option maxRecDepth 10000 in
theorem wl_C_fewestIn : Cond.selects y_C_fewestIn.1.cls y_C_fewestIn.1 y_C_fewestIn.1 ∈ tbG := mG (mP6 (q := (_, 5)) 9 rfl) rfl
abbrev y_X_leagues : MI := (⟨"LieOfTwo", "leagues", "(II)I"⟩, prog_1_method_26_code, 4, (some .int), none)
def t_X_leagues : List (Nat × Instr × Nat) := [(0, (.aload_n 0), 1), (1, (.getfield 16), 3), (4, (.iload_n 1), 1), (5, (.invokevirtual 181), 3), (8, (.ifCond .ne 6), 3), (11, (.bipush (-2)), 2), (13, .ireturn, 1), (14, (.aload_n 0), 1), (15, (.getfield 46), 3), (18, (.aload_n 0), 1), (19, (.getfield 16), 3), (22, (.aload_n 0), 1), (23, (.getfield 35), 3), (26, (.iload_n 2), 1), (27, (.invokevirtual 161), 3), (30, (.aload_n 0), 1), (31, (.getfield 67), 3), (34, (.aload_n 0), 1), (35, (.getfield 16), 3), (38, (.aload_n 0), 1), (39, (.getfield 35), 3), (42, (.aload_n 0), 1), (43, (.getfield 46), 3), (46, (.invokevirtual 229), 3), (49, (.aload_n 0), 1), (50, (.getfield 67), 3), (53, (.iload_n 1), 1), (54, (.iconst 4), 1), (55, (.invokevirtual 233), 3), (58, (.istore_n 3), 1), (59, (.iload_n 3), 1), (60, (.iconst 4), 1), (61, (.if_icmp .le 7), 3), (64, (.iconst (-1)), 1), (65, (.goto 4), 3), (68, (.iload_n 3), 1), (69, .ireturn, 1)]
set_option maxRecDepth 10000 in
theorem wc_X_leagues : Cond.code y_X_leagues.1 y_X_leagues.2.1 y_X_leagues.2.2.1 y_X_leagues.2.2.2.1 ∈ tbG := mG (mT5 72 rfl) rfl
set_option maxRecDepth 10000 in
theorem wi_X_leagues : Cond.instanceMethod y_X_leagues.1 ∈ tbG := mG (mT5 70 rfl) rfl
set_option maxRecDepth 10000 in
theorem wl_X_leagues : Cond.selects y_X_leagues.1.cls y_X_leagues.1 y_X_leagues.1 ∈ tbG := mG (mT5 71 rfl) rfl
abbrev y_X_plain : MI := (⟨"LieOfTwo", "plain", "(I)I"⟩, prog_1_method_27_code, 6, (some .int), none)
def t_X_plain : List (Nat × Instr × Nat) := [(0, (.aload_n 0), 1), (1, (.getfield 46), 3), (4, (.aload_n 0), 1), (5, (.getfield 16), 3), (8, (.aload_n 0), 1), (9, (.getfield 35), 3), (12, (.iload_n 1), 1), (13, (.invokevirtual 161), 3), (16, (.aload_n 0), 1), (17, (.getfield 67), 3), (20, (.aload_n 0), 1), (21, (.getfield 16), 3), (24, (.aload_n 0), 1), (25, (.getfield 35), 3), (28, (.aload_n 0), 1), (29, (.getfield 46), 3), (32, (.invokevirtual 229), 3), (35, (.iconst (-1)), 1), (36, (.istore_n 2), 1), (37, (.iconst 5), 1), (38, (.istore_n 3), 1), (39, (.iconst 0), 1), (40, (.istore 4), 2), (42, (.iload 4), 2), (44, (.iconst 1), 1), (45, (.aload_n 0), 1), (46, (.getfield 16), 3), (49, (.getfield 167), 3), (52, .ishl, 1), (53, (.if_icmp .ge 55), 3), (56, (.iload_n 3), 1), (57, (.ifCond .le 51), 3), (60, (.aload_n 0), 1), (61, (.getfield 46), 3), (64, (.getfield 170), 3), (67, (.iconst 0), 1), (68, (.iload 4), 2), (70, (.invokestatic 139), 3), (73, (.ifCond .eq 29), 3), (76, (.aload_n 0), 1), (77, (.getfield 67), 3), (80, (.iload 4), 2), (82, (.iload_n 3), 1), (83, (.iconst 1), 1), (84, .isub, 1), (85, (.invokevirtual 233), 3), (88, (.istore 5), 2), (90, (.iload 5), 2), (92, (.iload_n 3), 1), (93, (.if_icmp .ge 9), 3), (96, (.iload 5), 2), (98, (.istore_n 3), 1), (99, (.iload 4), 2), (101, (.istore_n 2), 1), (102, (.iinc 4 1), 3), (105, (.goto (-63)), 3), (108, (.iload_n 2), 1), (109, .ireturn, 1)]
set_option maxRecDepth 10000 in
theorem wc_X_plain : Cond.code y_X_plain.1 y_X_plain.2.1 y_X_plain.2.2.1 y_X_plain.2.2.2.1 ∈ tbG := mG (mT5 103 rfl) rfl
set_option maxRecDepth 10000 in
theorem wi_X_plain : Cond.instanceMethod y_X_plain.1 ∈ tbG := mG (mT5 101 rfl) rfl
set_option maxRecDepth 10000 in
theorem wl_X_plain : Cond.selects y_X_plain.1.cls y_X_plain.1 y_X_plain.1 ∈ tbG := mG (mT5 102 rfl) rfl
abbrev y_T_countAnswering : MI := (⟨"LieOfTwo$Town", "countAnswering", "(III)I"⟩, prog_10_method_12_code, 6, (some .int), none)
def t_T_countAnswering : List (Nat × Instr × Nat) := [(0, (.iconst 0), 1), (1, (.istore 4), 2), (3, (.iconst 0), 1), (4, (.istore 5), 2), (6, (.iload 5), 2), (8, (.aload_n 0), 1), (9, (.getfield 53), 3), (12, (.if_icmp .ge 24), 3), (15, (.aload_n 0), 1), (16, (.iload 5), 2), (18, (.iload_n 1), 1), (19, (.iload_n 2), 1), (20, (.invokevirtual 90), 3), (23, (.iload_n 3), 1), (24, (.if_icmp .ne 6), 3), (27, (.iinc 4 1), 3), (30, (.iinc 5 1), 3), (33, (.goto (-27)), 3), (36, (.iload 4), 2), (38, .ireturn, 1)]
set_option maxRecDepth 10000 in
theorem wc_T_countAnswering : Cond.code y_T_countAnswering.1 y_T_countAnswering.2.1 y_T_countAnswering.2.2.1 y_T_countAnswering.2.2.2.1 ∈ tbG := mG (mT5 111 rfl) rfl
set_option maxRecDepth 10000 in
theorem wi_T_countAnswering : Cond.instanceMethod y_T_countAnswering.1 ∈ tbG := mG (mT5 110 rfl) rfl
set_option maxRecDepth 10000 in
theorem wl_T_countAnswering : Cond.selects y_T_countAnswering.1.cls y_T_countAnswering.1 y_T_countAnswering.1 ∈ tbG := mG (mP6 (q := (_, 19)) 12 rfl) rfl
abbrev y_P_voice : MI := (⟨"LieOfTwo$Pairing", "voice", "(III)I"⟩, prog_6_method_5_code, 5, (some .int), none)
def t_P_voice : List (Nat × Instr × Nat) := [(0, (.aload_n 0), 1), (1, (.getfield 15), 3), (4, (.iload_n 1), 1), (5, (.iload_n 2), 1), (6, (.iload_n 3), 1), (7, (.invokevirtual 65), 3), (10, (.istore 4), 2), (12, (.iload 4), 2), (14, (.iconst 1), 1), (15, (.if_icmp .ne 5), 3), (18, (.iconst 1), 1), (19, .ireturn, 1), (20, (.iload 4), 2), (22, (.ifCond .ne 7), 3), (25, (.iconst (-1)), 1), (26, (.goto 4), 3), (29, (.iconst 0), 1), (30, .ireturn, 1)]
set_option maxRecDepth 10000 in
theorem wc_P_voice : Cond.code y_P_voice.1 y_P_voice.2.1 y_P_voice.2.2.1 y_P_voice.2.2.2.1 ∈ tbG := mG (mT5 119 rfl) rfl
set_option maxRecDepth 10000 in
theorem wi_P_voice : Cond.instanceMethod y_P_voice.1 ∈ tbG := mG (mT5 118 rfl) rfl
set_option maxRecDepth 10000 in
theorem wl_P_voice : Cond.selects y_P_voice.1.cls y_P_voice.1 y_P_voice.1 ∈ tbG := mG (mP6 (q := (_, 6)) 14 rfl) rfl
abbrev y_P_seekFewest : MI := (⟨"LieOfTwo$Pairing", "seekFewest", "(IIII)V"⟩, prog_6_method_6_code, 7, none, none)
def t_P_seekFewest : List (Nat × Instr × Nat) := [(0, (.iload 4), 2), (2, (.aload_n 0), 1), (3, (.getfield 49), 3), (6, (.if_icmp .lt 4), 3), (9, .return_, 1), (10, (.iload_n 3), 1), (11, (.aload_n 0), 1), (12, (.getfield 46), 3), (15, (.if_icmp .lt 10), 3), (18, (.aload_n 0), 1), (19, (.iload 4), 2), (21, (.putfield 49), 3), (24, .return_, 1), (25, (.iload_n 1), 1), (26, (.istore 5), 2), (28, (.iload 5), 2), (30, (.aload_n 0), 1), (31, (.getfield 15), 3), (34, (.getfield 19), 3), (37, (.if_icmp .ge 52), 3), (40, (.aload_n 0), 1), (41, (.getfield 15), 3), (44, (.iload 5), 2), (46, (.invokevirtual 42), 3), (49, (.istore 6), 2), (51, (.iload_n 2), 1), (52, (.iload 6), 2), (54, .iand, 1), (55, (.ifCond .ne 28), 3), (58, (.aload_n 0), 1), (59, (.iload 5), 2), (61, (.iconst 1), 1), (62, .iadd, 1), (63, (.iload_n 2), 1), (64, (.iload 6), 2), (66, .ior, 1), (67, (.iload_n 3), 1), (68, (.aload_n 0), 1), (69, (.getfield 9), 3), (72, (.iload 5), 2), (74, .iaload, 1), (75, .iadd, 1), (76, (.iload 4), 2), (78, (.iconst 1), 1), (79, .iadd, 1), (80, (.invokevirtual 62), 3), (83, (.iinc 5 1), 3), (86, (.goto (-58)), 3), (89, .return_, 1)]
set_option maxRecDepth 10000 in
theorem wc_P_seekFewest : Cond.code y_P_seekFewest.1 y_P_seekFewest.2.1 y_P_seekFewest.2.2.1 y_P_seekFewest.2.2.2.1 ∈ tbG := mG (mT5 124 rfl) rfl
set_option maxRecDepth 10000 in
theorem wi_P_seekFewest : Cond.instanceMethod y_P_seekFewest.1 ∈ tbG := mG (mT5 123 rfl) rfl
set_option maxRecDepth 10000 in
theorem wl_P_seekFewest : Cond.selects y_P_seekFewest.1.cls y_P_seekFewest.1 y_P_seekFewest.1 ∈ tbG := mG (mP6 (q := (_, 6)) 15 rfl) rfl
abbrev y_P_fewestTurning : MI := (⟨"LieOfTwo$Pairing", "fewestTurning", "(LLieOfTwo$Town;III)I"⟩, prog_6_method_4_code, 8, (some .int), none)
def t_P_fewestTurning : List (Nat × Instr × Nat) := [(0, (.aload_n 0), 1), (1, (.aload_n 1), 1), (2, (.putfield 15), 3), (5, (.iload 4), 2), (7, (.ifCond .le 7), 3), (10, (.iconst 1), 1), (11, (.goto 4), 3), (14, (.iconst 0), 1), (15, (.istore 5), 2), (17, (.aload_n 0), 1), (18, (.iload 5), 2), (20, (.ifCond .eq 8), 3), (23, (.iload 4), 2), (25, (.goto 7), 3), (28, (.iconst 1), 1), (29, (.iload 4), 2), (31, .isub, 1), (32, (.putfield 46), 3), (35, (.aload_n 0), 1), (36, (.bipush 13), 2), (38, (.putfield 49), 3), (41, (.iconst 0), 1), (42, (.istore 6), 2), (44, (.iload 6), 2), (46, (.aload_n 0), 1), (47, (.getfield 15), 3), (50, (.getfield 19), 3), (53, (.if_icmp .ge 67), 3), (56, (.aload_n 0), 1), (57, (.aload_n 0), 1), (58, (.getfield 15), 3), (61, (.getfield 52), 3), (64, (.iload 6), 2), (66, .iaload, 1), (67, (.iload_n 2), 1), (68, (.iload_n 3), 1), (69, (.invokevirtual 55), 3), (72, (.aload_n 0), 1), (73, (.aload_n 0), 1), (74, (.getfield 15), 3), (77, (.getfield 59), 3), (80, (.iload 6), 2), (82, .iaload, 1), (83, (.iload_n 2), 1), (84, (.iload_n 3), 1), (85, (.invokevirtual 55), 3), (88, .iadd, 1), (89, (.istore 7), 2), (91, (.aload_n 0), 1), (92, (.getfield 9), 3), (95, (.iload 6), 2), (97, (.iload 5), 2), (99, (.ifCond .eq 10), 3), (102, (.iconst 2), 1), (103, (.iload 7), 2), (105, .iadd, 1), (106, (.goto 7), 3), (109, (.iconst 2), 1), (110, (.iload 7), 2), (112, .isub, 1), (113, .iastore, 1), (114, (.iinc 6 1), 3), (117, (.goto (-73)), 3), (120, (.aload_n 0), 1), (121, (.iconst 0), 1), (122, (.iconst 0), 1), (123, (.iconst 0), 1), (124, (.iconst 0), 1), (125, (.invokevirtual 62), 3), (128, (.aload_n 0), 1), (129, (.getfield 49), 3), (132, (.bipush 12), 2), (134, (.if_icmp .le 7), 3), (137, (.iconst (-1)), 1), (138, (.goto 7), 3), (141, (.aload_n 0), 1), (142, (.getfield 49), 3), (145, .ireturn, 1)]
set_option maxRecDepth 10000 in
theorem wc_P_fewestTurning : Cond.code y_P_fewestTurning.1 y_P_fewestTurning.2.1 y_P_fewestTurning.2.2.1 y_P_fewestTurning.2.2.2.1 ∈ tbG := mG (mT5 115 rfl) rfl
set_option maxRecDepth 10000 in
theorem wi_P_fewestTurning : Cond.instanceMethod y_P_fewestTurning.1 ∈ tbG := mG (mT5 114 rfl) rfl
set_option maxRecDepth 10000 in
theorem wl_P_fewestTurning : Cond.selects y_P_fewestTurning.1.cls y_P_fewestTurning.1 y_P_fewestTurning.1 ∈ tbG := mG (mP6 (q := (_, 6)) 13 rfl) rfl
abbrev y_X_vote : MI := (⟨"LieOfTwo", "vote", "(III)I"⟩, prog_1_method_28_code, 6, (some .int), none)
def t_X_vote : List (Nat × Instr × Nat) := [(0, (.aload_n 0), 1), (1, (.getfield 16), 3), (4, (.iload_n 1), 1), (5, (.iload_n 2), 1), (6, (.invokevirtual 113), 3), (9, (.ifCond .eq 12), 3), (12, (.iload_n 3), 1), (13, (.ifCond .lt 8), 3), (16, (.iload_n 3), 1), (17, (.iconst 3), 1), (18, (.if_icmp .le 5), 3), (21, (.iconst (-1)), 1), (22, .ireturn, 1), (23, (.aload_n 0), 1), (24, (.getfield 16), 3), (27, (.iload_n 1), 1), (28, (.iload_n 2), 1), (29, (.iconst 1), 1), (30, (.invokevirtual 236), 3), (33, (.istore 4), 2), (35, (.aload_n 0), 1), (36, (.getfield 16), 3), (39, (.iload_n 1), 1), (40, (.iload_n 2), 1), (41, (.iconst 0), 1), (42, (.invokevirtual 236), 3), (45, (.istore 5), 2), (47, (.iload_n 3), 1), (48, (.tableswitch 47 0 2 #[28, 31, 34]), 28), (76, (.iload 4), 2), (78, .ireturn, 1), (79, (.iload 5), 2), (81, .ireturn, 1), (82, (.iload 4), 2), (84, (.iload 5), 2), (86, (.if_icmp .le 7), 3), (89, (.iconst 1), 1), (90, (.goto 4), 3), (93, (.iconst 0), 1), (94, .ireturn, 1), (95, (.aload_n 0), 1), (96, (.getfield 60), 3), (99, (.aload_n 0), 1), (100, (.getfield 16), 3), (103, (.iload_n 1), 1), (104, (.iload_n 2), 1), (105, (.iload 4), 2), (107, (.iload 5), 2), (109, .isub, 1), (110, (.invokevirtual 239), 3), (113, .ireturn, 1)]
set_option maxRecDepth 10000 in
theorem wc_X_vote : Cond.code y_X_vote.1 y_X_vote.2.1 y_X_vote.2.2.1 y_X_vote.2.2.2.1 ∈ tbG := mG (mT5 107 rfl) rfl
set_option maxRecDepth 10000 in
theorem wi_X_vote : Cond.instanceMethod y_X_vote.1 ∈ tbG := mG (mT5 105 rfl) rfl
set_option maxRecDepth 10000 in
theorem wl_X_vote : Cond.selects y_X_vote.1.cls y_X_vote.1 y_X_vote.1 ∈ tbG := mG (mT5 106 rfl) rfl
abbrev y_Y_copy : MI := (⟨"LieOfTwo$Sayings", "copy", "(LLieOfTwo$Sayings;)V"⟩, prog_7_method_4_code, 2, none, none)
def t_Y_copy : List (Nat × Instr × Nat) := [(0, (.aload_n 0), 1), (1, (.aload_n 1), 1), (2, (.getfield 32), 3), (5, (.putfield 32), 3), (8, (.aload_n 1), 1), (9, (.getfield 9), 3), (12, (.iconst 0), 1), (13, (.aload_n 0), 1), (14, (.getfield 9), 3), (17, (.iconst 0), 1), (18, (.aload_n 0), 1), (19, (.getfield 32), 3), (22, (.invokestatic 36), 3), (25, (.aload_n 1), 1), (26, (.getfield 15), 3), (29, (.iconst 0), 1), (30, (.aload_n 0), 1), (31, (.getfield 15), 3), (34, (.iconst 0), 1), (35, (.aload_n 0), 1), (36, (.getfield 32), 3), (39, (.invokestatic 36), 3), (42, (.aload_n 1), 1), (43, (.getfield 18), 3), (46, (.iconst 0), 1), (47, (.aload_n 0), 1), (48, (.getfield 18), 3), (51, (.iconst 0), 1), (52, (.aload_n 0), 1), (53, (.getfield 32), 3), (56, (.invokestatic 36), 3), (59, (.aload_n 1), 1), (60, (.getfield 22), 3), (63, (.iconst 0), 1), (64, (.aload_n 0), 1), (65, (.getfield 22), 3), (68, (.iconst 0), 1), (69, (.aload_n 0), 1), (70, (.getfield 32), 3), (73, (.invokestatic 36), 3), (76, (.aload_n 1), 1), (77, (.getfield 25), 3), (80, (.iconst 0), 1), (81, (.aload_n 0), 1), (82, (.getfield 25), 3), (85, (.iconst 0), 1), (86, (.aload_n 0), 1), (87, (.getfield 32), 3), (90, (.invokestatic 36), 3), (93, (.aload_n 1), 1), (94, (.getfield 28), 3), (97, (.iconst 0), 1), (98, (.aload_n 0), 1), (99, (.getfield 28), 3), (102, (.iconst 0), 1), (103, (.aload_n 0), 1), (104, (.getfield 32), 3), (107, (.iconst 4), 1), (108, .imul, 1), (109, (.invokestatic 36), 3), (112, .return_, 1)]
set_option maxRecDepth 10000 in
theorem wc_Y_copy : Cond.code y_Y_copy.1 y_Y_copy.2.1 y_Y_copy.2.2.1 y_Y_copy.2.2.2.1 ∈ tbG := mG (mT5 132 rfl) rfl
set_option maxRecDepth 10000 in
theorem wi_Y_copy : Cond.instanceMethod y_Y_copy.1 ∈ tbG := mG (mT5 131 rfl) rfl
set_option maxRecDepth 10000 in
theorem wl_Y_copy : Cond.selects y_Y_copy.1.cls y_Y_copy.1 y_Y_copy.1 ∈ tbG := mG (mP7 (q := (_, 8)) 0 rfl) rfl
abbrev y_X_image : MI := (⟨"LieOfTwo", "image", "(I)I"⟩, prog_1_method_29_code, 2, (some .int), none)
def t_X_image : List (Nat × Instr × Nat) := [(0, (.iload_n 1), 1), (1, (.ifCond .lt 8), 3), (4, (.iload_n 1), 1), (5, (.iconst 3), 1), (6, (.if_icmp .lt 5), 3), (9, (.iconst (-1)), 1), (10, .ireturn, 1), (11, (.aload_n 0), 1), (12, (.getfield 39), 3), (15, (.iload_n 1), 1), (16, .aaload, 1), (17, (.aload_n 0), 1), (18, (.getfield 35), 3), (21, (.invokevirtual 243), 3), (24, (.aload_n 0), 1), (25, (.getfield 39), 3), (28, (.iload_n 1), 1), (29, .aaload, 1), (30, (.iconst 1), 1), (31, (.putfield 102), 3), (34, (.aload_n 0), 1), (35, (.getfield 35), 3), (38, (.getfield 99), 3), (41, .ireturn, 1)]
set_option maxRecDepth 10000 in
theorem wc_X_image : Cond.code y_X_image.1 y_X_image.2.1 y_X_image.2.2.1 y_X_image.2.2.2.1 ∈ tbG := mG (mT5 128 rfl) rfl
set_option maxRecDepth 10000 in
theorem wi_X_image : Cond.instanceMethod y_X_image.1 ∈ tbG := mG (mT5 126 rfl) rfl
set_option maxRecDepth 10000 in
theorem wl_X_image : Cond.selects y_X_image.1.cls y_X_image.1 y_X_image.1 ∈ tbG := mG (mT5 127 rfl) rfl
abbrev y_X_back : MI := (⟨"LieOfTwo", "back", "(I)I"⟩, prog_1_method_30_code, 2, (some .int), none)
def t_X_back : List (Nat × Instr × Nat) := [(0, (.iload_n 1), 1), (1, (.ifCond .lt 20), 3), (4, (.iload_n 1), 1), (5, (.iconst 3), 1), (6, (.if_icmp .ge 15), 3), (9, (.aload_n 0), 1), (10, (.getfield 39), 3), (13, (.iload_n 1), 1), (14, .aaload, 1), (15, (.getfield 102), 3), (18, (.ifCond .ne 5), 3), (21, (.iconst (-1)), 1), (22, .ireturn, 1), (23, (.aload_n 0), 1), (24, (.getfield 35), 3), (27, (.aload_n 0), 1), (28, (.getfield 39), 3), (31, (.iload_n 1), 1), (32, .aaload, 1), (33, (.invokevirtual 243), 3), (36, (.aload_n 0), 1), (37, (.getfield 35), 3), (40, (.getfield 99), 3), (43, .ireturn, 1)]
set_option maxRecDepth 10000 in
theorem wc_X_back : Cond.code y_X_back.1 y_X_back.2.1 y_X_back.2.2.1 y_X_back.2.2.2.1 ∈ tbG := mG (mT5 137 rfl) rfl
set_option maxRecDepth 10000 in
theorem wi_X_back : Cond.instanceMethod y_X_back.1 ∈ tbG := mG (mT5 135 rfl) rfl
set_option maxRecDepth 10000 in
theorem wl_X_back : Cond.selects y_X_back.1.cls y_X_back.1 y_X_back.1 ∈ tbG := mG (mT5 136 rfl) rfl
abbrev y_X_about : MI := (⟨"LieOfTwo", "about", "(I)I"⟩, prog_1_method_31_code, 2, (some .int), none)
def t_X_about : List (Nat × Instr × Nat) := [(0, (.iload_n 1), 1), (1, (.tableswitch 129 0 9 #[55, 63, 71, 79, 87, 95, 103, 108, 113, 121]), 55), (56, (.aload_n 0), 1), (57, (.getfield 16), 3), (60, (.getfield 167), 3), (63, .ireturn, 1), (64, (.aload_n 0), 1), (65, (.getfield 16), 3), (68, (.getfield 187), 3), (71, .ireturn, 1), (72, (.aload_n 0), 1), (73, (.getfield 16), 3), (76, (.getfield 190), 3), (79, .ireturn, 1), (80, (.aload_n 0), 1), (81, (.getfield 16), 3), (84, (.getfield 247), 3), (87, .ireturn, 1), (88, (.aload_n 0), 1), (89, (.getfield 16), 3), (92, (.getfield 250), 3), (95, .ireturn, 1), (96, (.aload_n 0), 1), (97, (.getfield 35), 3), (100, (.getfield 99), 3), (103, .ireturn, 1), (104, (.aload_n 0), 1), (105, (.getfield 146), 3), (108, .ireturn, 1), (109, (.aload_n 0), 1), (110, (.getfield 82), 3), (113, .ireturn, 1), (114, (.aload_n 0), 1), (115, (.getfield 16), 3), (118, (.getfield 253), 3), (121, .ireturn, 1), (122, (.aload_n 0), 1), (123, (.getfield 16), 3), (126, (.invokevirtual 106), 3), (129, .ireturn, 1), (130, (.iconst (-1)), 1), (131, .ireturn, 1)]
set_option maxRecDepth 10000 in
theorem wc_X_about : Cond.code y_X_about.1 y_X_about.2.1 y_X_about.2.2.1 y_X_about.2.2.2.1 ∈ tbG := mG (mT5 141 rfl) rfl
set_option maxRecDepth 10000 in
theorem wi_X_about : Cond.instanceMethod y_X_about.1 ∈ tbG := mG (mT5 139 rfl) rfl
set_option maxRecDepth 10000 in
theorem wl_X_about : Cond.selects y_X_about.1.cls y_X_about.1 y_X_about.1 ∈ tbG := mG (mT5 140 rfl) rfl
abbrev y_M_clearBank : MI := (⟨"LieOfTwoModel", "clearBank", "()V"⟩, prog_12_method_15_code, 1, none, none)
def t_M_clearBank : List (Nat × Instr × Nat) := [(0, (.aload_n 0), 1), (1, (.getfield 20), 3), (4, (.aload_n 0), 1), (5, (.getfield 295), 3), (8, (.iconst 0), 1), (9, .iastore, 1), (10, (.aload_n 0), 1), (11, (.getfield 24), 3), (14, (.aload_n 0), 1), (15, (.getfield 295), 3), (18, (.iconst 0), 1), (19, .iastore, 1), (20, (.aload_n 0), 1), (21, (.getfield 27), 3), (24, (.aload_n 0), 1), (25, (.getfield 295), 3), (28, (.iconst 0), 1), (29, .iastore, 1), (30, (.aload_n 0), 1), (31, (.getfield 30), 3), (34, (.aload_n 0), 1), (35, (.getfield 295), 3), (38, (.iconst 0), 1), (39, .iastore, 1), (40, (.aload_n 0), 1), (41, (.getfield 33), 3), (44, (.aload_n 0), 1), (45, (.getfield 295), 3), (48, (.iconst 0), 1), (49, .iastore, 1), (50, (.aload_n 0), 1), (51, (.getfield 36), 3), (54, (.aload_n 0), 1), (55, (.getfield 295), 3), (58, (.iconst 0), 1), (59, .iastore, 1), (60, (.aload_n 0), 1), (61, (.getfield 39), 3), (64, (.aload_n 0), 1), (65, (.getfield 295), 3), (68, (.iconst 0), 1), (69, .iastore, 1), (70, (.aload_n 0), 1), (71, (.getfield 42), 3), (74, (.aload_n 0), 1), (75, (.getfield 295), 3), (78, (.iconst 0), 1), (79, .bastore, 1), (80, (.aload_n 0), 1), (81, (.sipush 900), 3), (84, (.aload_n 0), 1), (85, (.getfield 295), 3), (88, .imul, 1), (89, (.putfield 298), 3), (92, .return_, 1)]
set_option maxRecDepth 10000 in
theorem wc_M_clearBank : Cond.code y_M_clearBank.1 y_M_clearBank.2.1 y_M_clearBank.2.2.1 y_M_clearBank.2.2.2.1 ∈ tbG := mG (mT5 151 rfl) rfl
set_option maxRecDepth 10000 in
theorem wi_M_clearBank : Cond.instanceMethod y_M_clearBank.1 ∈ tbG := mG (mT5 150 rfl) rfl
set_option maxRecDepth 10000 in
theorem wl_M_clearBank : Cond.selects y_M_clearBank.1.cls y_M_clearBank.1 y_M_clearBank.1 ∈ tbG := mG (mP7 (q := (_, 78)) 1 rfl) rfl
abbrev y_M_factMany : MI := (⟨"LieOfTwoModel", "factMany", "()I"⟩, prog_12_method_44_code, 1, (some .int), none)
def t_M_factMany : List (Nat × Instr × Nat) := [(0, (.aload_n 0), 1), (1, (.getfield 20), 3), (4, (.aload_n 0), 1), (5, (.getfield 304), 3), (8, .iaload, 1), (9, .ireturn, 1)]
set_option maxRecDepth 10000 in
theorem wc_M_factMany : Cond.code y_M_factMany.1 y_M_factMany.2.1 y_M_factMany.2.2.1 y_M_factMany.2.2.2.1 ∈ tbG := mG (mT5 163 rfl) rfl
set_option maxRecDepth 10000 in
theorem wi_M_factMany : Cond.instanceMethod y_M_factMany.1 ∈ tbG := mG (mT5 162 rfl) rfl
set_option maxRecDepth 10000 in
theorem wl_M_factMany : Cond.selects y_M_factMany.1.cls y_M_factMany.1 y_M_factMany.1 ∈ tbG := mG (mP7 (q := (_, 78)) 4 rfl) rfl
abbrev y_M_worldMany : MI := (⟨"LieOfTwoModel", "worldMany", "()I"⟩, prog_12_method_51_code, 1, (some .int), none)
def t_M_worldMany : List (Nat × Instr × Nat) := [(0, (.iconst 1), 1), (1, (.aload_n 0), 1), (2, (.invokevirtual 424), 3), (5, .ishl, 1), (6, .ireturn, 1)]
set_option maxRecDepth 10000 in
theorem wc_M_worldMany : Cond.code y_M_worldMany.1 y_M_worldMany.2.1 y_M_worldMany.2.2.1 y_M_worldMany.2.2.2.1 ∈ tbG := mG (mT5 159 rfl) rfl
set_option maxRecDepth 10000 in
theorem wi_M_worldMany : Cond.instanceMethod y_M_worldMany.1 ∈ tbG := mG (mT5 158 rfl) rfl
set_option maxRecDepth 10000 in
theorem wl_M_worldMany : Cond.selects y_M_worldMany.1.cls y_M_worldMany.1 y_M_worldMany.1 ∈ tbG := mG (mP7 (q := (_, 78)) 3 rfl) rfl
abbrev y_M_rowMany : MI := (⟨"LieOfTwoModel", "rowMany", "()I"⟩, prog_12_method_46_code, 1, (some .int), none)
def t_M_rowMany : List (Nat × Instr × Nat) := [(0, (.aload_n 0), 1), (1, (.getfield 27), 3), (4, (.aload_n 0), 1), (5, (.getfield 304), 3), (8, .iaload, 1), (9, .ireturn, 1)]
set_option maxRecDepth 10000 in
theorem wc_M_rowMany : Cond.code y_M_rowMany.1 y_M_rowMany.2.1 y_M_rowMany.2.2.1 y_M_rowMany.2.2.2.1 ∈ tbG := mG (mT5 171 rfl) rfl
set_option maxRecDepth 10000 in
theorem wi_M_rowMany : Cond.instanceMethod y_M_rowMany.1 ∈ tbG := mG (mT5 170 rfl) rfl
set_option maxRecDepth 10000 in
theorem wl_M_rowMany : Cond.selects y_M_rowMany.1.cls y_M_rowMany.1 y_M_rowMany.1 ∈ tbG := mG (mP7 (q := (_, 78)) 6 rfl) rfl
abbrev y_M_spot : MI := (⟨"LieOfTwoModel", "spot", "(II)I"⟩, prog_12_method_50_code, 2, (some .int), none)
def t_M_spot : List (Nat × Instr × Nat) := [(0, (.sipush 256), 3), (3, (.iload_n 0), 1), (4, .imul, 1), (5, (.iload_n 1), 1), (6, .iadd, 1), (7, .ireturn, 1)]
set_option maxRecDepth 10000 in
theorem wc_M_spot : Cond.code y_M_spot.1 y_M_spot.2.1 y_M_spot.2.2.1 y_M_spot.2.2.2.1 ∈ tbG := mG (mT5 178 rfl) rfl
set_option maxRecDepth 10000 in
theorem ws_M_spot : Cond.static y_M_spot.1 ∈ tbG := mG (mT5 177 rfl) rfl
abbrev y_M_minds : MI := (⟨"LieOfTwoModel", "minds", "(IIZ)V"⟩, prog_12_method_53_code, 8, none, none)
def t_M_minds : List (Nat × Instr × Nat) := [(0, (.aload_n 0), 1), (1, (.getfield 62), 3), (4, (.bipush 8), 2), (6, (.aload_n 0), 1), (7, (.getfield 304), 3), (10, .imul, 1), (11, (.iload_n 2), 1), (12, .iadd, 1), (13, .iaload, 1), (14, (.istore 4), 2), (16, (.iconst 0), 1), (17, (.istore 5), 2), (19, (.iload 5), 2), (21, (.aload_n 0), 1), (22, (.invokevirtual 427), 3), (25, (.if_icmp .ge 126), 3), (28, (.iload_n 3), 1), (29, (.istore 6), 2), (31, (.iconst 0), 1), (32, (.istore 7), 2), (34, (.iload 7), 2), (36, (.aload_n 0), 1), (37, (.invokevirtual 427), 3), (40, (.if_icmp .ge 90), 3), (43, (.aload_n 0), 1), (44, (.getfield 104), 3), (47, (.iload 7), 2), (49, .baload, 1), (50, (.ifCond .eq 74), 3), (53, (.iload 7), 2), (55, (.iload 5), 2), (57, .ixor, 1), (58, (.iload 4), 2), (60, .iand, 1), (61, (.ifCond .eq 6), 3), (64, (.goto 60), 3), (67, (.iload_n 3), 1), (68, (.ifCond .eq 30), 3), (71, (.iload 6), 2), (73, (.ifCond .eq 21), 3), (76, (.aload_n 0), 1), (77, (.getfield 110), 3), (80, (.iload_n 1), 1), (81, (.iload 7), 2), (83, (.invokestatic 430), 3), (86, .baload, 1), (87, (.ifCond .eq 7), 3), (90, (.iconst 1), 1), (91, (.goto 31), 3), (94, (.iconst 0), 1), (95, (.goto 27), 3), (98, (.iload 6), 2), (100, (.ifCond .ne 17), 3), (103, (.aload_n 0), 1), (104, (.getfield 110), 3), (107, (.iload_n 1), 1), (108, (.iload 7), 2), (110, (.invokestatic 430), 3), (113, .baload, 1), (114, (.ifCond .eq 7), 3), (117, (.iconst 1), 1), (118, (.goto 4), 3), (121, (.iconst 0), 1), (122, (.istore 6), 2), (124, (.iinc 7 1), 3), (127, (.goto (-93)), 3), (130, (.aload_n 0), 1), (131, (.getfield 110), 3), (134, (.iload_n 1), 1), (135, (.iconst 1), 1), (136, .iadd, 1), (137, (.iload 5), 2), (139, (.invokestatic 430), 3), (142, (.iload 6), 2), (144, .bastore, 1), (145, (.iinc 5 1), 3), (148, (.goto (-129)), 3), (151, (.iconst 0), 1), (152, (.istore 5), 2), (154, (.iload 5), 2), (156, (.aload_n 0), 1), (157, (.invokevirtual 427), 3), (160, (.if_icmp .ge 33), 3), (163, (.aload_n 0), 1), (164, (.getfield 110), 3), (167, (.iload_n 1), 1), (168, (.iload 5), 2), (170, (.invokestatic 430), 3), (173, (.aload_n 0), 1), (174, (.getfield 110), 3), (177, (.iload_n 1), 1), (178, (.iconst 1), 1), (179, .iadd, 1), (180, (.iload 5), 2), (182, (.invokestatic 430), 3), (185, .baload, 1), (186, .bastore, 1), (187, (.iinc 5 1), 3), (190, (.goto (-36)), 3), (193, .return_, 1)]
set_option maxRecDepth 10000 in
theorem wc_M_minds : Cond.code y_M_minds.1 y_M_minds.2.1 y_M_minds.2.2.1 y_M_minds.2.2.2.1 ∈ tbG := mG (mT5 182 rfl) rfl
set_option maxRecDepth 10000 in
theorem wi_M_minds : Cond.instanceMethod y_M_minds.1 ∈ tbG := mG (mT5 181 rfl) rfl
set_option maxRecDepth 10000 in
theorem wl_M_minds : Cond.selects y_M_minds.1.cls y_M_minds.1 y_M_minds.1 ∈ tbG := mG (mP7 (q := (_, 78)) 8 rfl) rfl
abbrev y_M_bothOf : MI := (⟨"LieOfTwoModel", "bothOf", "(II)V"⟩, prog_12_method_54_code, 6, none, none)
def t_M_bothOf : List (Nat × Instr × Nat) := [(0, (.iconst 0), 1), (1, (.istore_n 3), 1), (2, (.iload_n 3), 1), (3, (.aload_n 0), 1), (4, (.invokevirtual 427), 3), (7, (.if_icmp .ge 110), 3), (10, (.aload_n 0), 1), (11, (.getfield 110), 3), (14, (.iload_n 2), 1), (15, (.iconst 1), 1), (16, .isub, 1), (17, (.iload_n 3), 1), (18, (.invokestatic 430), 3), (21, .baload, 1), (22, (.istore 4), 2), (24, (.aload_n 0), 1), (25, (.getfield 110), 3), (28, (.iload_n 2), 1), (29, (.iload_n 3), 1), (30, (.invokestatic 430), 3), (33, .baload, 1), (34, (.istore 5), 2), (36, (.aload_n 0), 1), (37, (.getfield 110), 3), (40, (.iload_n 2), 1), (41, (.iconst 1), 1), (42, .isub, 1), (43, (.iload_n 3), 1), (44, (.invokestatic 430), 3), (47, (.iload_n 1), 1), (48, (.bipush 6), 2), (50, (.if_icmp .ne 21), 3), (53, (.iload 4), 2), (55, (.ifCond .eq 12), 3), (58, (.iload 5), 2), (60, (.ifCond .eq 7), 3), (63, (.iconst 1), 1), (64, (.goto 46), 3), (67, (.iconst 0), 1), (68, (.goto 42), 3), (71, (.iload_n 1), 1), (72, (.bipush 7), 2), (74, (.if_icmp .ne 21), 3), (77, (.iload 4), 2), (79, (.ifCond .ne 8), 3), (82, (.iload 5), 2), (84, (.ifCond .eq 7), 3), (87, (.iconst 1), 1), (88, (.goto 22), 3), (91, (.iconst 0), 1), (92, (.goto 18), 3), (95, (.iload 4), 2), (97, (.ifCond .ne 8), 3), (100, (.iload 5), 2), (102, (.ifCond .ne 7), 3), (105, (.iconst 1), 1), (106, (.goto 4), 3), (109, (.iconst 0), 1), (110, .bastore, 1), (111, (.iinc 3 1), 3), (114, (.goto (-112)), 3), (117, .return_, 1)]
set_option maxRecDepth 10000 in
theorem wc_M_bothOf : Cond.code y_M_bothOf.1 y_M_bothOf.2.1 y_M_bothOf.2.2.1 y_M_bothOf.2.2.2.1 ∈ tbG := mG (mT5 186 rfl) rfl
set_option maxRecDepth 10000 in
theorem wi_M_bothOf : Cond.instanceMethod y_M_bothOf.1 ∈ tbG := mG (mT5 185 rfl) rfl
set_option maxRecDepth 10000 in
theorem wl_M_bothOf : Cond.selects y_M_bothOf.1.cls y_M_bothOf.1 y_M_bothOf.1 ∈ tbG := mG (mP7 (q := (_, 78)) 9 rfl) rfl
abbrev y_M_layColumn : MI := (⟨"LieOfTwoModel", "layColumn", "(I)V"⟩, prog_12_method_55_code, 7, none, none)
def t_M_layColumn : List (Nat × Instr × Nat) := [(0, (.iconst 0), 1), (1, (.istore_n 2), 1), (2, (.aload_n 0), 1), (3, (.getfield 83), 3), (6, (.iload_n 1), 1), (7, .iaload, 1), (8, (.istore_n 3), 1), (9, (.iload_n 3), 1), (10, (.aload_n 0), 1), (11, (.getfield 86), 3), (14, (.iload_n 1), 1), (15, .iaload, 1), (16, (.if_icmp .ge 217), 3), (19, (.aload_n 0), 1), (20, (.getfield 89), 3), (23, (.iload_n 3), 1), (24, .iaload, 1), (25, (.istore 4), 2), (27, (.aload_n 0), 1), (28, (.getfield 92), 3), (31, (.iload_n 3), 1), (32, .iaload, 1), (33, (.istore 5), 2), (35, (.iload 4), 2), (37, (.iconst 1), 1), (38, (.if_icmp .eq 9), 3), (41, (.iload 4), 2), (43, (.iconst 2), 1), (44, (.if_icmp .ne 75), 3), (47, (.iconst 0), 1), (48, (.istore 6), 2), (50, (.iload 6), 2), (52, (.aload_n 0), 1), (53, (.invokevirtual 427), 3), (56, (.if_icmp .ge 57), 3), (59, (.aload_n 0), 1), (60, (.getfield 110), 3), (63, (.iload_n 2), 1), (64, (.iload 6), 2), (66, (.invokestatic 430), 3), (69, (.iload 4), 2), (71, (.iconst 1), 1), (72, (.if_icmp .ne 22), 3), (75, (.iload 6), 2), (77, (.iload 5), 2), (79, .ishr, 1), (80, (.iconst 1), 1), (81, .iand, 1), (82, (.iconst 1), 1), (83, (.if_icmp .ne 7), 3), (86, (.iconst 1), 1), (87, (.goto 19), 3), (90, (.iconst 0), 1), (91, (.goto 15), 3), (94, (.aload_n 0), 1), (95, (.getfield 107), 3), (98, (.iload 5), 2), (100, (.iload 6), 2), (102, (.invokestatic 430), 3), (105, .baload, 1), (106, .bastore, 1), (107, (.iinc 6 1), 3), (110, (.goto (-60)), 3), (113, (.iinc 2 1), 3), (116, (.goto 111), 3), (119, (.iload 4), 2), (121, (.iconst 3), 1), (122, (.if_icmp .ne 58), 3), (125, (.iconst 0), 1), (126, (.istore 6), 2), (128, (.iload 6), 2), (130, (.aload_n 0), 1), (131, (.invokevirtual 427), 3), (134, (.if_icmp .ge 43), 3), (137, (.aload_n 0), 1), (138, (.getfield 110), 3), (141, (.iload_n 2), 1), (142, (.iconst 1), 1), (143, .isub, 1), (144, (.iload 6), 2), (146, (.invokestatic 430), 3), (149, (.aload_n 0), 1), (150, (.getfield 110), 3), (153, (.iload_n 2), 1), (154, (.iconst 1), 1), (155, .isub, 1), (156, (.iload 6), 2), (158, (.invokestatic 430), 3), (161, .baload, 1), (162, (.ifCond .ne 7), 3), (165, (.iconst 1), 1), (166, (.goto 4), 3), (169, (.iconst 0), 1), (170, .bastore, 1), (171, (.iinc 6 1), 3), (174, (.goto (-46)), 3), (177, (.goto 50), 3), (180, (.iload 4), 2), (182, (.iconst 4), 1), (183, (.if_icmp .eq 9), 3), (186, (.iload 4), 2), (188, (.iconst 5), 1), (189, (.if_icmp .ne 26), 3), (192, (.aload_n 0), 1), (193, (.iload_n 2), 1), (194, (.iconst 1), 1), (195, .isub, 1), (196, (.iload 5), 2), (198, (.iload 4), 2), (200, (.iconst 4), 1), (201, (.if_icmp .ne 7), 3), (204, (.iconst 1), 1), (205, (.goto 4), 3), (208, (.iconst 0), 1), (209, (.invokevirtual 434), 3), (212, (.goto 15), 3), (215, (.aload_n 0), 1), (216, (.iload 4), 2), (218, (.iload_n 2), 1), (219, (.iconst 1), 1), (220, .isub, 1), (221, (.invokevirtual 438), 3), (224, (.iinc 2 (-1)), 3), (227, (.iinc 3 1), 3), (230, (.goto (-221)), 3), (233, .return_, 1)]
set_option maxRecDepth 10000 in
theorem wc_M_layColumn : Cond.code y_M_layColumn.1 y_M_layColumn.2.1 y_M_layColumn.2.2.1 y_M_layColumn.2.2.2.1 ∈ tbG := mG (mT5 175 rfl) rfl
set_option maxRecDepth 10000 in
theorem wi_M_layColumn : Cond.instanceMethod y_M_layColumn.1 ∈ tbG := mG (mT5 174 rfl) rfl
set_option maxRecDepth 10000 in
theorem wl_M_layColumn : Cond.selects y_M_layColumn.1.cls y_M_layColumn.1 y_M_layColumn.1 ∈ tbG := mG (mP7 (q := (_, 78)) 7 rfl) rfl
abbrev y_M_layRows : MI := (⟨"LieOfTwoModel", "layRows", "(Z)V"⟩, prog_12_method_56_code, 4, none, none)
def t_M_layRows : List (Nat × Instr × Nat) := [(0, (.iconst 0), 1), (1, (.istore_n 2), 1), (2, (.iload_n 2), 1), (3, (.aload_n 0), 1), (4, (.invokevirtual 415), 3), (7, (.if_icmp .ge 75), 3), (10, (.aload_n 0), 1), (11, (.getfield 46), 3), (14, (.bipush 12), 2), (16, (.aload_n 0), 1), (17, (.getfield 304), 3), (20, .imul, 1), (21, (.iload_n 2), 1), (22, .iadd, 1), (23, .baload, 1), (24, (.iload_n 1), 1), (25, (.if_icmp .eq 6), 3), (28, (.goto 48), 3), (31, (.aload_n 0), 1), (32, (.bipush 17), 2), (34, (.aload_n 0), 1), (35, (.getfield 304), 3), (38, .imul, 1), (39, (.iload_n 2), 1), (40, .iadd, 1), (41, (.invokevirtual 441), 3), (44, (.iconst 0), 1), (45, (.istore_n 3), 1), (46, (.iload_n 3), 1), (47, (.aload_n 0), 1), (48, (.invokevirtual 427), 3), (51, (.if_icmp .ge 25), 3), (54, (.aload_n 0), 1), (55, (.getfield 107), 3), (58, (.iload_n 2), 1), (59, (.iload_n 3), 1), (60, (.invokestatic 430), 3), (63, (.aload_n 0), 1), (64, (.getfield 110), 3), (67, (.iload_n 3), 1), (68, .baload, 1), (69, .bastore, 1), (70, (.iinc 3 1), 3), (73, (.goto (-27)), 3), (76, (.iinc 2 1), 3), (79, (.goto (-77)), 3), (82, .return_, 1)]
set_option maxRecDepth 10000 in
theorem wc_M_layRows : Cond.code y_M_layRows.1 y_M_layRows.2.1 y_M_layRows.2.2.1 y_M_layRows.2.2.2.1 ∈ tbG := mG (mT5 167 rfl) rfl
set_option maxRecDepth 10000 in
theorem wi_M_layRows : Cond.instanceMethod y_M_layRows.1 ∈ tbG := mG (mT5 166 rfl) rfl
set_option maxRecDepth 10000 in
theorem wl_M_layRows : Cond.selects y_M_layRows.1.cls y_M_layRows.1 y_M_layRows.1 ∈ tbG := mG (mP7 (q := (_, 78)) 5 rfl) rfl
abbrev y_M_personMany : MI := (⟨"LieOfTwoModel", "personMany", "()I"⟩, prog_12_method_45_code, 1, (some .int), none)
def t_M_personMany : List (Nat × Instr × Nat) := [(0, (.aload_n 0), 1), (1, (.getfield 24), 3), (4, (.aload_n 0), 1), (5, (.getfield 304), 3), (8, .iaload, 1), (9, .ireturn, 1)]
set_option maxRecDepth 10000 in
theorem wc_M_personMany : Cond.code y_M_personMany.1 y_M_personMany.2.1 y_M_personMany.2.2.1 y_M_personMany.2.2.2.1 ∈ tbG := mG (mT5 190 rfl) rfl
set_option maxRecDepth 10000 in
theorem wi_M_personMany : Cond.instanceMethod y_M_personMany.1 ∈ tbG := mG (mT5 189 rfl) rfl
set_option maxRecDepth 10000 in
theorem wl_M_personMany : Cond.selects y_M_personMany.1.cls y_M_personMany.1 y_M_personMany.1 ∈ tbG := mG (mP7 (q := (_, 78)) 10 rfl) rfl
abbrev y_M_answerOf : MI := (⟨"LieOfTwoModel", "answerOf", "(III)I"⟩, prog_12_method_58_code, 8, (some .int), none)
def t_M_answerOf : List (Nat × Instr × Nat) := [(0, (.aload_n 0), 1), (1, (.getfield 62), 3), (4, (.bipush 8), 2), (6, (.aload_n 0), 1), (7, (.getfield 304), 3), (10, .imul, 1), (11, (.iload_n 1), 1), (12, .iadd, 1), (13, .iaload, 1), (14, (.istore 4), 2), (16, (.iconst 0), 1), (17, (.istore 5), 2), (19, (.iconst 1), 1), (20, (.istore 6), 2), (22, (.iconst 0), 1), (23, (.istore 7), 2), (25, (.iload 7), 2), (27, (.aload_n 0), 1), (28, (.invokevirtual 427), 3), (31, (.if_icmp .ge 84), 3), (34, (.aload_n 0), 1), (35, (.getfield 104), 3), (38, (.iload 7), 2), (40, .baload, 1), (41, (.ifCond .eq 68), 3), (44, (.iload 7), 2), (46, (.iload_n 3), 1), (47, .ixor, 1), (48, (.iload 4), 2), (50, .iand, 1), (51, (.ifCond .eq 6), 3), (54, (.goto 55), 3), (57, (.iload 5), 2), (59, (.ifCond .ne 17), 3), (62, (.aload_n 0), 1), (63, (.getfield 107), 3), (66, (.iload_n 2), 1), (67, (.iload 7), 2), (69, (.invokestatic 430), 3), (72, .baload, 1), (73, (.ifCond .eq 7), 3), (76, (.iconst 1), 1), (77, (.goto 4), 3), (80, (.iconst 0), 1), (81, (.istore 5), 2), (83, (.iload 6), 2), (85, (.ifCond .eq 21), 3), (88, (.aload_n 0), 1), (89, (.getfield 107), 3), (92, (.iload_n 2), 1), (93, (.iload 7), 2), (95, (.invokestatic 430), 3), (98, .baload, 1), (99, (.ifCond .eq 7), 3), (102, (.iconst 1), 1), (103, (.goto 4), 3), (106, (.iconst 0), 1), (107, (.istore 6), 2), (109, (.iinc 7 1), 3), (112, (.goto (-87)), 3), (115, (.iload 6), 2), (117, (.ifCond .eq 7), 3), (120, (.iconst 1), 1), (121, (.goto 13), 3), (124, (.iload 5), 2), (126, (.ifCond .eq 7), 3), (129, (.iconst 2), 1), (130, (.goto 4), 3), (133, (.iconst 0), 1), (134, .ireturn, 1)]
set_option maxRecDepth 10000 in
theorem wc_M_answerOf : Cond.code y_M_answerOf.1 y_M_answerOf.2.1 y_M_answerOf.2.2.1 y_M_answerOf.2.2.2.1 ∈ tbG := mG (mT5 194 rfl) rfl
set_option maxRecDepth 10000 in
theorem wi_M_answerOf : Cond.instanceMethod y_M_answerOf.1 ∈ tbG := mG (mT5 193 rfl) rfl
set_option maxRecDepth 10000 in
theorem wl_M_answerOf : Cond.selects y_M_answerOf.1.cls y_M_answerOf.1 y_M_answerOf.1 ∈ tbG := mG (mP7 (q := (_, 78)) 11 rfl) rfl
abbrev y_M_layWorlds : MI := (⟨"LieOfTwoModel", "layWorlds", "()V"⟩, prog_12_method_57_code, 4, none, none)
def t_M_layWorlds : List (Nat × Instr × Nat) := [(0, (.iconst 0), 1), (1, (.istore_n 1), 1), (2, (.iload_n 1), 1), (3, (.sipush 256), 3), (6, (.if_icmp .ge 28), 3), (9, (.aload_n 0), 1), (10, (.getfield 104), 3), (13, (.iload_n 1), 1), (14, (.iload_n 1), 1), (15, (.aload_n 0), 1), (16, (.invokevirtual 427), 3), (19, (.if_icmp .ge 7), 3), (22, (.iconst 1), 1), (23, (.goto 4), 3), (26, (.iconst 0), 1), (27, .bastore, 1), (28, (.iinc 1 1), 3), (31, (.goto (-29)), 3), (34, (.aload_n 0), 1), (35, (.iconst 0), 1), (36, (.invokevirtual 445), 3), (39, (.iconst 0), 1), (40, (.istore_n 1), 1), (41, (.iload_n 1), 1), (42, (.aload_n 0), 1), (43, (.getfield 30), 3), (46, (.aload_n 0), 1), (47, (.getfield 304), 3), (50, .iaload, 1), (51, (.if_icmp .ge 70), 3), (54, (.aload_n 0), 1), (55, (.bipush 17), 2), (57, (.aload_n 0), 1), (58, (.getfield 304), 3), (61, .imul, 1), (62, (.bipush 12), 2), (64, .iadd, 1), (65, (.iload_n 1), 1), (66, .iadd, 1), (67, (.invokevirtual 441), 3), (70, (.iconst 0), 1), (71, (.istore_n 2), 1), (72, (.iload_n 2), 1), (73, (.aload_n 0), 1), (74, (.invokevirtual 427), 3), (77, (.if_icmp .ge 38), 3), (80, (.aload_n 0), 1), (81, (.getfield 104), 3), (84, (.iload_n 2), 1), (85, (.aload_n 0), 1), (86, (.getfield 104), 3), (89, (.iload_n 2), 1), (90, .baload, 1), (91, (.ifCond .eq 16), 3), (94, (.aload_n 0), 1), (95, (.getfield 110), 3), (98, (.iload_n 2), 1), (99, .baload, 1), (100, (.ifCond .eq 7), 3), (103, (.iconst 1), 1), (104, (.goto 4), 3), (107, (.iconst 0), 1), (108, .bastore, 1), (109, (.iinc 2 1), 3), (112, (.goto (-40)), 3), (115, (.iinc 1 1), 3), (118, (.goto (-77)), 3), (121, (.aload_n 0), 1), (122, (.iconst 1), 1), (123, (.invokevirtual 445), 3), (126, (.iconst 0), 1), (127, (.istore_n 1), 1), (128, (.iload_n 1), 1), (129, (.aload_n 0), 1), (130, (.invokevirtual 421), 3), (133, (.if_icmp .ge 74), 3), (136, (.iconst 0), 1), (137, (.istore_n 2), 1), (138, (.iload_n 2), 1), (139, (.aload_n 0), 1), (140, (.invokevirtual 415), 3), (143, (.if_icmp .ge 58), 3), (146, (.iconst 0), 1), (147, (.istore_n 3), 1), (148, (.iload_n 3), 1), (149, (.aload_n 0), 1), (150, (.invokevirtual 427), 3), (153, (.if_icmp .ge 42), 3), (156, (.aload_n 0), 1), (157, (.getfield 104), 3), (160, (.iload_n 3), 1), (161, .baload, 1), (162, (.ifCond .eq 27), 3), (165, (.aload_n 0), 1), (166, (.getfield 113), 3), (169, (.sipush 256), 3), (172, (.bipush 12), 2), (174, (.iload_n 1), 1), (175, .imul, 1), (176, (.iload_n 2), 1), (177, .iadd, 1), (178, .imul, 1), (179, (.iload_n 3), 1), (180, .iadd, 1), (181, (.aload_n 0), 1), (182, (.iload_n 1), 1), (183, (.iload_n 2), 1), (184, (.iload_n 3), 1), (185, (.invokevirtual 448), 3), (188, .iastore, 1), (189, (.iinc 3 1), 3), (192, (.goto (-44)), 3), (195, (.iinc 2 1), 3), (198, (.goto (-60)), 3), (201, (.iinc 1 1), 3), (204, (.goto (-76)), 3), (207, .return_, 1)]
set_option maxRecDepth 10000 in
theorem wc_M_layWorlds : Cond.code y_M_layWorlds.1 y_M_layWorlds.2.1 y_M_layWorlds.2.2.1 y_M_layWorlds.2.2.2.1 ∈ tbG := mG (mT5 155 rfl) rfl
set_option maxRecDepth 10000 in
theorem wi_M_layWorlds : Cond.instanceMethod y_M_layWorlds.1 ∈ tbG := mG (mT5 154 rfl) rfl
set_option maxRecDepth 10000 in
theorem wl_M_layWorlds : Cond.selects y_M_layWorlds.1.cls y_M_layWorlds.1 y_M_layWorlds.1 ∈ tbG := mG (mP7 (q := (_, 78)) 2 rfl) rfl
abbrev y_M_sign : MI := (⟨"LieOfTwoModel", "sign", "(I)I"⟩, prog_12_method_2_code, 2, (some .int), none)
def t_M_sign : List (Nat × Instr × Nat) := [(0, (.iload_n 1), 1), (1, (.aload_n 0), 1), (2, (.getfield 194), 3), (5, (.if_icmp .ge 16), 3), (8, (.aload_n 0), 1), (9, (.getfield 13), 3), (12, (.iload_n 1), 1), (13, .baload, 1), (14, (.sipush 255), 3), (17, .iand, 1), (18, (.goto 4), 3), (21, (.iconst 0), 1), (22, .ireturn, 1)]
set_option maxRecDepth 10000 in
theorem wc_M_sign : Cond.code y_M_sign.1 y_M_sign.2.1 y_M_sign.2.2.1 y_M_sign.2.2.2.1 ∈ tbG := mG (mT6 201 rfl) rfl
set_option maxRecDepth 10000 in
theorem wi_M_sign : Cond.instanceMethod y_M_sign.1 ∈ tbG := mG (mT6 200 rfl) rfl
set_option maxRecDepth 10000 in
theorem wl_M_sign : Cond.selects y_M_sign.1.cls y_M_sign.1 y_M_sign.1 ∈ tbG := mG (mP7 (q := (_, 78)) 13 rfl) rfl
abbrev y_M_isLetter : MI := (⟨"LieOfTwoModel", "isLetter", "(I)Z"⟩, prog_12_method_3_code, 1, (some .boolean), none)
def t_M_isLetter : List (Nat × Instr × Nat) := [(0, (.iload_n 0), 1), (1, (.bipush 97), 2), (3, (.if_icmp .lt 13), 3), (6, (.iload_n 0), 1), (7, (.bipush 122), 2), (9, (.if_icmp .gt 7), 3), (12, (.iconst 1), 1), (13, (.goto 4), 3), (16, (.iconst 0), 1), (17, .ireturn, 1)]
set_option maxRecDepth 10000 in
theorem wc_M_isLetter : Cond.code y_M_isLetter.1 y_M_isLetter.2.1 y_M_isLetter.2.2.1 y_M_isLetter.2.2.2.1 ∈ tbG := mG (mT6 204 rfl) rfl
set_option maxRecDepth 10000 in
theorem ws_M_isLetter : Cond.static y_M_isLetter.1 ∈ tbG := mG (mT6 203 rfl) rfl
abbrev y_M_isKept : MI := (⟨"LieOfTwoModel", "isKept", "(J)Z"⟩, prog_12_method_7_code, 3, (some .boolean), none)
def t_M_isKept : List (Nat × Instr × Nat) := [(0, (.lload_n 0), 1), (1, (.ldc2_w 200), 3), (4, .lcmp, 1), (5, (.ifCond .eq 75), 3), (8, (.lload_n 0), 1), (9, (.ldc2_w 202), 3), (12, .lcmp, 1), (13, (.ifCond .eq 67), 3), (16, (.lload_n 0), 1), (17, (.ldc2_w 204), 3), (20, .lcmp, 1), (21, (.ifCond .eq 59), 3), (24, (.lload_n 0), 1), (25, (.ldc2_w 206), 3), (28, .lcmp, 1), (29, (.ifCond .eq 51), 3), (32, (.lload_n 0), 1), (33, (.ldc2_w 208), 3), (36, .lcmp, 1), (37, (.ifCond .eq 43), 3), (40, (.lload_n 0), 1), (41, (.ldc2_w 210), 3), (44, .lcmp, 1), (45, (.ifCond .eq 35), 3), (48, (.lload_n 0), 1), (49, (.ldc2_w 212), 3), (52, .lcmp, 1), (53, (.ifCond .eq 27), 3), (56, (.lload_n 0), 1), (57, (.ldc2_w 214), 3), (60, .lcmp, 1), (61, (.ifCond .eq 19), 3), (64, (.lload_n 0), 1), (65, (.ldc2_w 216), 3), (68, .lcmp, 1), (69, (.ifCond .eq 11), 3), (72, (.lload_n 0), 1), (73, (.ldc2_w 218), 3), (76, .lcmp, 1), (77, (.ifCond .ne 7), 3), (80, (.iconst 1), 1), (81, (.goto 4), 3), (84, (.iconst 0), 1), (85, (.istore_n 2), 1), (86, (.iload_n 2), 1), (87, (.ifCond .ne 83), 3), (90, (.lload_n 0), 1), (91, (.ldc2_w 220), 3), (94, .lcmp, 1), (95, (.ifCond .eq 75), 3), (98, (.lload_n 0), 1), (99, (.ldc2_w 222), 3), (102, .lcmp, 1), (103, (.ifCond .eq 67), 3), (106, (.lload_n 0), 1), (107, (.ldc2_w 224), 3), (110, .lcmp, 1), (111, (.ifCond .eq 59), 3), (114, (.lload_n 0), 1), (115, (.ldc2_w 226), 3), (118, .lcmp, 1), (119, (.ifCond .eq 51), 3), (122, (.lload_n 0), 1), (123, (.ldc2_w 228), 3), (126, .lcmp, 1), (127, (.ifCond .eq 43), 3), (130, (.lload_n 0), 1), (131, (.ldc2_w 230), 3), (134, .lcmp, 1), (135, (.ifCond .eq 35), 3), (138, (.lload_n 0), 1), (139, (.ldc2_w 232), 3), (142, .lcmp, 1), (143, (.ifCond .eq 27), 3), (146, (.lload_n 0), 1), (147, (.ldc2_w 234), 3), (150, .lcmp, 1), (151, (.ifCond .eq 19), 3), (154, (.lload_n 0), 1), (155, (.ldc2_w 236), 3), (158, .lcmp, 1), (159, (.ifCond .eq 11), 3), (162, (.lload_n 0), 1), (163, (.ldc2_w 238), 3), (166, .lcmp, 1), (167, (.ifCond .ne 7), 3), (170, (.iconst 1), 1), (171, (.goto 4), 3), (174, (.iconst 0), 1), (175, .ireturn, 1)]
set_option maxRecDepth 10000 in
theorem wc_M_isKept : Cond.code y_M_isKept.1 y_M_isKept.2.1 y_M_isKept.2.2.1 y_M_isKept.2.2.2.1 ∈ tbG := mG (mT6 207 rfl) rfl
set_option maxRecDepth 10000 in
theorem ws_M_isKept : Cond.static y_M_isKept.1 ∈ tbG := mG (mT6 206 rfl) rfl
abbrev y_M_isDigit : MI := (⟨"LieOfTwoModel", "isDigit", "(I)Z"⟩, prog_12_method_4_code, 1, (some .boolean), none)
def t_M_isDigit : List (Nat × Instr × Nat) := [(0, (.iload_n 0), 1), (1, (.bipush 48), 2), (3, (.if_icmp .lt 13), 3), (6, (.iload_n 0), 1), (7, (.bipush 57), 2), (9, (.if_icmp .gt 7), 3), (12, (.iconst 1), 1), (13, (.goto 4), 3), (16, (.iconst 0), 1), (17, .ireturn, 1)]
set_option maxRecDepth 10000 in
theorem wc_M_isDigit : Cond.code y_M_isDigit.1 y_M_isDigit.2.1 y_M_isDigit.2.2.1 y_M_isDigit.2.2.2.1 ∈ tbG := mG (mT6 230 rfl) rfl
set_option maxRecDepth 10000 in
theorem ws_M_isDigit : Cond.static y_M_isDigit.1 ∈ tbG := mG (mT6 229 rfl) rfl
abbrev y_M_isSign : MI := (⟨"LieOfTwoModel", "isSign", "(I)Z"⟩, prog_12_method_8_code, 1, (some .boolean), none)
def t_M_isSign : List (Nat × Instr × Nat) := [(0, (.iload_n 0), 1), (1, (.bipush 59), 2), (3, (.if_icmp .eq 45), 3), (6, (.iload_n 0), 1), (7, (.bipush 40), 2), (9, (.if_icmp .eq 39), 3), (12, (.iload_n 0), 1), (13, (.bipush 41), 2), (15, (.if_icmp .eq 33), 3), (18, (.iload_n 0), 1), (19, (.bipush 60), 2), (21, (.if_icmp .eq 27), 3), (24, (.iload_n 0), 1), (25, (.bipush 62), 2), (27, (.if_icmp .eq 21), 3), (30, (.iload_n 0), 1), (31, (.bipush 61), 2), (33, (.if_icmp .eq 15), 3), (36, (.iload_n 0), 1), (37, (.bipush 43), 2), (39, (.if_icmp .eq 9), 3), (42, (.iload_n 0), 1), (43, (.bipush 45), 2), (45, (.if_icmp .ne 7), 3), (48, (.iconst 1), 1), (49, (.goto 4), 3), (52, (.iconst 0), 1), (53, .ireturn, 1)]
set_option maxRecDepth 10000 in
theorem wc_M_isSign : Cond.code y_M_isSign.1 y_M_isSign.2.1 y_M_isSign.2.2.1 y_M_isSign.2.2.2.1 ∈ tbG := mG (mT6 233 rfl) rfl
set_option maxRecDepth 10000 in
theorem ws_M_isSign : Cond.static y_M_isSign.1 ∈ tbG := mG (mT6 232 rfl) rfl
abbrev y_M_goOn : MI := (⟨"LieOfTwoModel", "goOn", "()V"⟩, prog_12_method_9_code, 3, none, none)
def t_M_goOn : List (Nat × Instr × Nat) := [(0, (.aload_n 0), 1), (1, (.aload_n 0), 1), (2, (.getfield 240), 3), (5, (.putfield 243), 3), (8, (.aload_n 0), 1), (9, (.getfield 243), 3), (12, (.aload_n 0), 1), (13, (.getfield 194), 3), (16, (.if_icmp .ge 42), 3), (19, (.aload_n 0), 1), (20, (.aload_n 0), 1), (21, (.getfield 243), 3), (24, (.invokevirtual 246), 3), (27, (.bipush 32), 2), (29, (.if_icmp .eq 16), 3), (32, (.aload_n 0), 1), (33, (.aload_n 0), 1), (34, (.getfield 243), 3), (37, (.invokevirtual 246), 3), (40, (.bipush 10), 2), (42, (.if_icmp .ne 16), 3), (45, (.aload_n 0), 1), (46, .dup, 1), (47, (.getfield 243), 3), (50, (.iconst 1), 1), (51, .iadd, 1), (52, (.putfield 243), 3), (55, (.goto (-47)), 3), (58, (.aload_n 0), 1), (59, (.aload_n 0), 1), (60, (.getfield 243), 3), (63, (.invokevirtual 246), 3), (66, (.istore_n 1), 1), (67, (.aload_n 0), 1), (68, (.aload_n 0), 1), (69, (.getfield 243), 3), (72, (.iconst 1), 1), (73, .iadd, 1), (74, (.putfield 240), 3), (77, (.aload_n 0), 1), (78, (.getfield 243), 3), (81, (.aload_n 0), 1), (82, (.getfield 194), 3), (85, (.if_icmp .lt 27), 3), (88, (.aload_n 0), 1), (89, (.iconst 0), 1), (90, (.putfield 250), 3), (93, (.aload_n 0), 1), (94, (.aload_n 0), 1), (95, (.getfield 194), 3), (98, (.putfield 243), 3), (101, (.aload_n 0), 1), (102, (.aload_n 0), 1), (103, (.getfield 194), 3), (106, (.putfield 240), 3), (109, (.goto 268), 3), (112, (.iload_n 1), 1), (113, (.invokestatic 253), 3), (116, (.ifCond .eq 123), 3), (119, (.aload_n 0), 1), (120, (.aload_n 0), 1), (121, (.getfield 240), 3), (124, (.invokevirtual 246), 3), (127, (.invokestatic 253), 3), (130, (.ifCond .eq 16), 3), (133, (.aload_n 0), 1), (134, .dup, 1), (135, (.getfield 240), 3), (138, (.iconst 1), 1), (139, .iadd, 1), (140, (.putfield 240), 3), (143, (.goto (-24)), 3), (146, (.aload_n 0), 1), (147, (.lconst 0), 1), (148, (.putfield 257), 3), (151, (.aload_n 0), 1), (152, (.getfield 243), 3), (155, (.istore_n 2), 1), (156, (.iload_n 2), 1), (157, (.aload_n 0), 1), (158, (.getfield 240), 3), (161, (.if_icmp .ge 38), 3), (164, (.iload_n 2), 1), (165, (.aload_n 0), 1), (166, (.getfield 243), 3), (169, (.bipush 8), 2), (171, .iadd, 1), (172, (.if_icmp .ge 27), 3), (175, (.aload_n 0), 1), (176, (.aload_n 0), 1), (177, (.getfield 257), 3), (180, (.bipush 8), 2), (182, .lshl, 1), (183, (.aload_n 0), 1), (184, (.iload_n 2), 1), (185, (.invokevirtual 246), 3), (188, .i2l, 1), (189, .lor, 1), (190, (.putfield 257), 3), (193, (.iinc 2 1), 3), (196, (.goto (-40)), 3), (199, (.aload_n 0), 1), (200, (.aload_n 0), 1), (201, (.getfield 240), 3), (204, (.aload_n 0), 1), (205, (.getfield 243), 3), (208, .isub, 1), (209, (.bipush 8), 2), (211, (.if_icmp .le 7), 3), (214, (.iconst 1), 1), (215, (.goto 18), 3), (218, (.aload_n 0), 1), (219, (.getfield 257), 3), (222, (.invokestatic 261), 3), (225, (.ifCond .eq 7), 3), (228, (.iconst 3), 1), (229, (.goto 4), 3), (232, (.iconst 2), 1), (233, (.putfield 250), 3), (236, (.goto 141), 3), (239, (.iload_n 1), 1), (240, (.invokestatic 265), 3), (243, (.ifCond .eq 118), 3), (246, (.aload_n 0), 1), (247, (.iconst 0), 1), (248, (.putfield 268), 3), (251, (.aload_n 0), 1), (252, (.aload_n 0), 1), (253, (.getfield 243), 3), (256, (.putfield 240), 3), (259, (.aload_n 0), 1), (260, (.aload_n 0), 1), (261, (.getfield 240), 3), (264, (.invokevirtual 246), 3), (267, (.invokestatic 265), 3), (270, (.ifCond .eq 52), 3), (273, (.aload_n 0), 1), (274, (.getfield 240), 3), (277, (.aload_n 0), 1), (278, (.getfield 243), 3), (281, .isub, 1), (282, (.iconst 4), 1), (283, (.if_icmp .ge 26), 3), (286, (.aload_n 0), 1), (287, (.bipush 10), 2), (289, (.aload_n 0), 1), (290, (.getfield 268), 3), (293, .imul, 1), (294, (.aload_n 0), 1), (295, (.aload_n 0), 1), (296, (.getfield 240), 3), (299, (.invokevirtual 246), 3), (302, .iadd, 1), (303, (.bipush 48), 2), (305, .isub, 1), (306, (.putfield 268), 3), (309, (.aload_n 0), 1), (310, .dup, 1), (311, (.getfield 240), 3), (314, (.iconst 1), 1), (315, .iadd, 1), (316, (.putfield 240), 3), (319, (.goto (-60)), 3), (322, (.aload_n 0), 1), (323, (.aload_n 0), 1), (324, (.getfield 240), 3), (327, (.aload_n 0), 1), (328, (.getfield 243), 3), (331, .isub, 1), (332, (.iconst 4), 1), (333, (.if_icmp .gt 17), 3), (336, (.aload_n 0), 1), (337, (.aload_n 0), 1), (338, (.getfield 240), 3), (341, (.invokevirtual 246), 3), (344, (.invokestatic 253), 3), (347, (.ifCond .eq 7), 3), (350, (.iconst 1), 1), (351, (.goto 4), 3), (354, (.iconst 4), 1), (355, (.putfield 250), 3), (358, (.goto 19), 3), (361, (.aload_n 0), 1), (362, (.iload_n 1), 1), (363, (.invokestatic 271), 3), (366, (.ifCond .eq 7), 3), (369, (.iconst 5), 1), (370, (.goto 4), 3), (373, (.iconst 1), 1), (374, (.putfield 250), 3), (377, .return_, 1)]
set_option maxRecDepth 10000 in
theorem wc_M_goOn : Cond.code y_M_goOn.1 y_M_goOn.2.1 y_M_goOn.2.2.1 y_M_goOn.2.2.2.1 ∈ tbG := mG (mT6 197 rfl) rfl
set_option maxRecDepth 10000 in
theorem wi_M_goOn : Cond.instanceMethod y_M_goOn.1 ∈ tbG := mG (mT6 196 rfl) rfl
set_option maxRecDepth 10000 in
theorem wl_M_goOn : Cond.selects y_M_goOn.1.cls y_M_goOn.1 y_M_goOn.1 ∈ tbG := mG (mP7 (q := (_, 78)) 12 rfl) rfl
abbrev y_M_isGood : MI := (⟨"LieOfTwoModel", "isGood", "()Z"⟩, prog_12_method_6_code, 1, (some .boolean), none)
def t_M_isGood : List (Nat × Instr × Nat) := [(0, (.aload_n 0), 1), (1, (.getfield 197), 3), (4, (.ifCond .ne 7), 3), (7, (.iconst 1), 1), (8, (.goto 4), 3), (11, (.iconst 0), 1), (12, .ireturn, 1)]
set_option maxRecDepth 10000 in
theorem wc_M_isGood : Cond.code y_M_isGood.1 y_M_isGood.2.1 y_M_isGood.2.2.1 y_M_isGood.2.2.2.1 ∈ tbG := mG (mT6 237 rfl) rfl
set_option maxRecDepth 10000 in
theorem wi_M_isGood : Cond.instanceMethod y_M_isGood.1 ∈ tbG := mG (mT6 236 rfl) rfl
set_option maxRecDepth 10000 in
theorem wl_M_isGood : Cond.selects y_M_isGood.1.cls y_M_isGood.1 y_M_isGood.1 ∈ tbG := mG (mP7 (q := (_, 78)) 14 rfl) rfl
abbrev y_M_isWord : MI := (⟨"LieOfTwoModel", "isWord", "(J)Z"⟩, prog_12_method_11_code, 3, (some .boolean), none)
def t_M_isWord : List (Nat × Instr × Nat) := [(0, (.aload_n 0), 1), (1, (.getfield 250), 3), (4, (.iconst 3), 1), (5, (.if_icmp .ne 16), 3), (8, (.aload_n 0), 1), (9, (.getfield 257), 3), (12, (.lload_n 1), 1), (13, .lcmp, 1), (14, (.ifCond .ne 7), 3), (17, (.iconst 1), 1), (18, (.goto 4), 3), (21, (.iconst 0), 1), (22, .ireturn, 1)]
set_option maxRecDepth 10000 in
theorem wc_M_isWord : Cond.code y_M_isWord.1 y_M_isWord.2.1 y_M_isWord.2.2.1 y_M_isWord.2.2.2.1 ∈ tbG := mG (mT7 9 rfl) rfl
set_option maxRecDepth 10000 in
theorem wi_M_isWord : Cond.instanceMethod y_M_isWord.1 ∈ tbG := mG (mT7 8 rfl) rfl
set_option maxRecDepth 10000 in
theorem wl_M_isWord : Cond.selects y_M_isWord.1.cls y_M_isWord.1 y_M_isWord.1 ∈ tbG := mG (mP8 (q := (_, 78)) 1 rfl) rfl
abbrev y_M_isFull : MI := (⟨"LieOfTwoModel", "isFull", "()Z"⟩, prog_12_method_17_code, 1, (some .boolean), none)
def t_M_isFull : List (Nat × Instr × Nat) := [(0, (.aload_n 0), 1), (1, (.ldc2_w 200), 3), (4, (.invokevirtual 288), 3), (7, (.ifCond .eq 23), 3), (10, (.aload_n 0), 1), (11, (.getfield 20), 3), (14, (.aload_n 0), 1), (15, (.getfield 295), 3), (18, .iaload, 1), (19, (.bipush 8), 2), (21, (.if_icmp .ne 7), 3), (24, (.iconst 1), 1), (25, (.goto 4), 3), (28, (.iconst 0), 1), (29, .ireturn, 1), (30, (.aload_n 0), 1), (31, (.ldc2_w 202), 3), (34, (.invokevirtual 288), 3), (37, (.ifCond .eq 23), 3), (40, (.aload_n 0), 1), (41, (.getfield 24), 3), (44, (.aload_n 0), 1), (45, (.getfield 295), 3), (48, .iaload, 1), (49, (.bipush 8), 2), (51, (.if_icmp .ne 7), 3), (54, (.iconst 1), 1), (55, (.goto 4), 3), (58, (.iconst 0), 1), (59, .ireturn, 1), (60, (.aload_n 0), 1), (61, (.ldc2_w 208), 3), (64, (.invokevirtual 288), 3), (67, (.ifCond .eq 23), 3), (70, (.aload_n 0), 1), (71, (.getfield 27), 3), (74, (.aload_n 0), 1), (75, (.getfield 295), 3), (78, .iaload, 1), (79, (.bipush 12), 2), (81, (.if_icmp .ne 7), 3), (84, (.iconst 1), 1), (85, (.goto 4), 3), (88, (.iconst 0), 1), (89, .ireturn, 1), (90, (.aload_n 0), 1), (91, (.ldc2_w 210), 3), (94, (.invokevirtual 288), 3), (97, (.ifCond .eq 22), 3), (100, (.aload_n 0), 1), (101, (.getfield 30), 3), (104, (.aload_n 0), 1), (105, (.getfield 295), 3), (108, .iaload, 1), (109, (.iconst 4), 1), (110, (.if_icmp .ne 7), 3), (113, (.iconst 1), 1), (114, (.goto 4), 3), (117, (.iconst 0), 1), (118, .ireturn, 1), (119, (.aload_n 0), 1), (120, (.ldc2_w 212), 3), (123, (.invokevirtual 288), 3), (126, (.ifCond .eq 23), 3), (129, (.aload_n 0), 1), (130, (.getfield 33), 3), (133, (.aload_n 0), 1), (134, (.getfield 295), 3), (137, .iaload, 1), (138, (.bipush 12), 2), (140, (.if_icmp .ne 7), 3), (143, (.iconst 1), 1), (144, (.goto 4), 3), (147, (.iconst 0), 1), (148, .ireturn, 1), (149, (.aload_n 0), 1), (150, (.ldc2_w 216), 3), (153, (.invokevirtual 288), 3), (156, (.ifCond .eq 23), 3), (159, (.aload_n 0), 1), (160, (.getfield 36), 3), (163, (.aload_n 0), 1), (164, (.getfield 295), 3), (167, .iaload, 1), (168, (.bipush 12), 2), (170, (.if_icmp .ne 7), 3), (173, (.iconst 1), 1), (174, (.goto 4), 3), (177, (.iconst 0), 1), (178, .ireturn, 1), (179, (.aload_n 0), 1), (180, (.ldc2_w 220), 3), (183, (.invokevirtual 288), 3), (186, (.ifCond .eq 15), 3), (189, (.aload_n 0), 1), (190, (.getfield 42), 3), (193, (.aload_n 0), 1), (194, (.getfield 295), 3), (197, .baload, 1), (198, (.ifCond .eq 7), 3), (201, (.iconst 1), 1), (202, (.goto 4), 3), (205, (.iconst 0), 1), (206, .ireturn, 1)]
set_option maxRecDepth 10000 in
theorem wc_M_isFull : Cond.code y_M_isFull.1 y_M_isFull.2.1 y_M_isFull.2.2.1 y_M_isFull.2.2.2.1 ∈ tbG := mG (mT7 5 rfl) rfl
set_option maxRecDepth 10000 in
theorem wi_M_isFull : Cond.instanceMethod y_M_isFull.1 ∈ tbG := mG (mT7 4 rfl) rfl
set_option maxRecDepth 10000 in
theorem wl_M_isFull : Cond.selects y_M_isFull.1.cls y_M_isFull.1 y_M_isFull.1 ∈ tbG := mG (mP8 (q := (_, 78)) 0 rfl) rfl
abbrev y_M_fails : MI := (⟨"LieOfTwoModel", "fails", "(II)V"⟩, prog_12_method_5_code, 3, none, none)
def t_M_fails : List (Nat × Instr × Nat) := [(0, (.aload_n 0), 1), (1, (.getfield 197), 3), (4, (.ifCond .le 4), 3), (7, .return_, 1), (8, (.aload_n 0), 1), (9, (.iload_n 1), 1), (10, (.putfield 197), 3), (13, (.aload_n 0), 1), (14, (.iload_n 2), 1), (15, (.putfield 16), 3), (18, .return_, 1)]
set_option maxRecDepth 10000 in
theorem wc_M_fails : Cond.code y_M_fails.1 y_M_fails.2.1 y_M_fails.2.2.1 y_M_fails.2.2.2.1 ∈ tbG := mG (mT7 17 rfl) rfl
set_option maxRecDepth 10000 in
theorem wi_M_fails : Cond.instanceMethod y_M_fails.1 ∈ tbG := mG (mT7 16 rfl) rfl
set_option maxRecDepth 10000 in
theorem wl_M_fails : Cond.selects y_M_fails.1.cls y_M_fails.1 y_M_fails.1 ∈ tbG := mG (mP8 (q := (_, 78)) 3 rfl) rfl
abbrev y_M_misplaced : MI := (⟨"LieOfTwoModel", "misplaced", "()V"⟩, prog_12_method_12_code, 1, none, none)
def t_M_misplaced : List (Nat × Instr × Nat) := [(0, (.aload_n 0), 1), (1, (.aload_n 0), 1), (2, (.getfield 250), 3), (5, (.iconst 1), 1), (6, (.if_icmp .ne 7), 3), (9, (.iconst 1), 1), (10, (.goto 4), 3), (13, (.iconst 2), 1), (14, (.aload_n 0), 1), (15, (.getfield 243), 3), (18, (.invokevirtual 274), 3), (21, .return_, 1)]
set_option maxRecDepth 10000 in
theorem wc_M_misplaced : Cond.code y_M_misplaced.1 y_M_misplaced.2.1 y_M_misplaced.2.2.1 y_M_misplaced.2.2.2.1 ∈ tbG := mG (mT7 13 rfl) rfl
set_option maxRecDepth 10000 in
theorem wi_M_misplaced : Cond.instanceMethod y_M_misplaced.1 ∈ tbG := mG (mT7 12 rfl) rfl
set_option maxRecDepth 10000 in
theorem wl_M_misplaced : Cond.selects y_M_misplaced.1.cls y_M_misplaced.1 y_M_misplaced.1 ∈ tbG := mG (mP8 (q := (_, 78)) 2 rfl) rfl
abbrev y_M_here : MI := (⟨"LieOfTwoModel", "here", "([JII)I"⟩, prog_12_method_19_code, 5, (some .int), none)
def t_M_here : List (Nat × Instr × Nat) := [(0, (.iconst 0), 1), (1, (.istore 4), 2), (3, (.iload 4), 2), (5, (.iload_n 3), 1), (6, (.if_icmp .ge 34), 3), (9, (.aload_n 0), 1), (10, (.getfield 250), 3), (13, (.iconst 2), 1), (14, (.if_icmp .ne 20), 3), (17, (.aload_n 1), 1), (18, (.iload_n 2), 1), (19, (.iload 4), 2), (21, .iadd, 1), (22, .laload, 1), (23, (.aload_n 0), 1), (24, (.getfield 257), 3), (27, .lcmp, 1), (28, (.ifCond .ne 6), 3), (31, (.iload 4), 2), (33, .ireturn, 1), (34, (.iinc 4 1), 3), (37, (.goto (-34)), 3), (40, (.iconst (-1)), 1), (41, .ireturn, 1)]
set_option maxRecDepth 10000 in
theorem wc_M_here : Cond.code y_M_here.1 y_M_here.2.1 y_M_here.2.2.1 y_M_here.2.2.2.1 ∈ tbG := mG (mT7 29 rfl) rfl
set_option maxRecDepth 10000 in
theorem wi_M_here : Cond.instanceMethod y_M_here.1 ∈ tbG := mG (mT7 28 rfl) rfl
set_option maxRecDepth 10000 in
theorem wl_M_here : Cond.selects y_M_here.1.cls y_M_here.1 y_M_here.1 ∈ tbG := mG (mP8 (q := (_, 78)) 6 rfl) rfl
abbrev y_M_factHere : MI := (⟨"LieOfTwoModel", "factHere", "()I"⟩, prog_12_method_20_code, 1, (some .int), none)
def t_M_factHere : List (Nat × Instr × Nat) := [(0, (.aload_n 0), 1), (1, (.aload_n 0), 1), (2, (.getfield 49), 3), (5, (.bipush 8), 2), (7, (.aload_n 0), 1), (8, (.getfield 295), 3), (11, .imul, 1), (12, (.aload_n 0), 1), (13, (.getfield 20), 3), (16, (.aload_n 0), 1), (17, (.getfield 295), 3), (20, .iaload, 1), (21, (.invokevirtual 344), 3), (24, .ireturn, 1)]
set_option maxRecDepth 10000 in
theorem wc_M_factHere : Cond.code y_M_factHere.1 y_M_factHere.2.1 y_M_factHere.2.2.1 y_M_factHere.2.2.2.1 ∈ tbG := mG (mT7 25 rfl) rfl
set_option maxRecDepth 10000 in
theorem wi_M_factHere : Cond.instanceMethod y_M_factHere.1 ∈ tbG := mG (mT7 24 rfl) rfl
set_option maxRecDepth 10000 in
theorem wl_M_factHere : Cond.selects y_M_factHere.1.cls y_M_factHere.1 y_M_factHere.1 ∈ tbG := mG (mP8 (q := (_, 78)) 5 rfl) rfl
abbrev y_M_rowHere : MI := (⟨"LieOfTwoModel", "rowHere", "()I"⟩, prog_12_method_22_code, 1, (some .int), none)
def t_M_rowHere : List (Nat × Instr × Nat) := [(0, (.aload_n 0), 1), (1, (.aload_n 0), 1), (2, (.getfield 56), 3), (5, (.bipush 12), 2), (7, (.aload_n 0), 1), (8, (.getfield 295), 3), (11, .imul, 1), (12, (.aload_n 0), 1), (13, (.getfield 27), 3), (16, (.aload_n 0), 1), (17, (.getfield 295), 3), (20, .iaload, 1), (21, (.invokevirtual 344), 3), (24, .ireturn, 1)]
set_option maxRecDepth 10000 in
theorem wc_M_rowHere : Cond.code y_M_rowHere.1 y_M_rowHere.2.1 y_M_rowHere.2.2.1 y_M_rowHere.2.2.2.1 ∈ tbG := mG (mT7 33 rfl) rfl
set_option maxRecDepth 10000 in
theorem wi_M_rowHere : Cond.instanceMethod y_M_rowHere.1 ∈ tbG := mG (mT7 32 rfl) rfl
set_option maxRecDepth 10000 in
theorem wl_M_rowHere : Cond.selects y_M_rowHere.1.cls y_M_rowHere.1 y_M_rowHere.1 ∈ tbG := mG (mP8 (q := (_, 78)) 7 rfl) rfl
abbrev y_M_fresh : MI := (⟨"LieOfTwoModel", "fresh", "(Z)J"⟩, prog_12_method_23_code, 4, (some .long), none)
def t_M_fresh : List (Nat × Instr × Nat) := [(0, (.aload_n 0), 1), (1, (.invokevirtual 278), 3), (4, (.ifCond .ne 5), 3), (7, (.lconst 0), 1), (8, .lreturn, 1), (9, (.aload_n 0), 1), (10, (.getfield 250), 3), (13, (.iconst 2), 1), (14, (.if_icmp .eq 10), 3), (17, (.aload_n 0), 1), (18, (.invokevirtual 285), 3), (21, (.goto 16), 3), (24, (.iload_n 1), 1), (25, (.ifCond .eq 12), 3), (28, (.aload_n 0), 1), (29, (.iconst 3), 1), (30, (.aload_n 0), 1), (31, (.getfield 243), 3), (34, (.invokevirtual 274), 3), (37, (.aload_n 0), 1), (38, (.getfield 257), 3), (41, (.lstore_n 2), 1), (42, (.aload_n 0), 1), (43, (.invokevirtual 278), 3), (46, (.ifCond .eq 7), 3), (49, (.aload_n 0), 1), (50, (.invokevirtual 282), 3), (53, (.lload_n 2), 1), (54, .lreturn, 1)]
set_option maxRecDepth 10000 in
theorem wc_M_fresh : Cond.code y_M_fresh.1 y_M_fresh.2.1 y_M_fresh.2.2.1 y_M_fresh.2.2.2.1 ∈ tbG := mG (mT7 37 rfl) rfl
set_option maxRecDepth 10000 in
theorem wi_M_fresh : Cond.instanceMethod y_M_fresh.1 ∈ tbG := mG (mT7 36 rfl) rfl
set_option maxRecDepth 10000 in
theorem wl_M_fresh : Cond.selects y_M_fresh.1.cls y_M_fresh.1 y_M_fresh.1 ∈ tbG := mG (mP8 (q := (_, 78)) 8 rfl) rfl
abbrev y_M_readFact : MI := (⟨"LieOfTwoModel", "readFact", "()V"⟩, prog_12_method_25_code, 1, none, none)
def t_M_readFact : List (Nat × Instr × Nat) := [(0, (.aload_n 0), 1), (1, (.getfield 49), 3), (4, (.bipush 8), 2), (6, (.aload_n 0), 1), (7, (.getfield 295), 3), (10, .imul, 1), (11, (.aload_n 0), 1), (12, (.getfield 20), 3), (15, (.aload_n 0), 1), (16, (.getfield 295), 3), (19, .iaload, 1), (20, .iadd, 1), (21, (.aload_n 0), 1), (22, (.aload_n 0), 1), (23, (.invokevirtual 348), 3), (26, (.ifCond .ge 10), 3), (29, (.aload_n 0), 1), (30, (.invokevirtual 351), 3), (33, (.ifCond .lt 7), 3), (36, (.iconst 1), 1), (37, (.goto 4), 3), (40, (.iconst 0), 1), (41, (.invokevirtual 354), 3), (44, .lastore, 1), (45, (.aload_n 0), 1), (46, (.getfield 20), 3), (49, (.aload_n 0), 1), (50, (.getfield 295), 3), (53, .dup2, 1), (54, .iaload, 1), (55, (.iconst 1), 1), (56, .iadd, 1), (57, .iastore, 1), (58, .return_, 1)]
set_option maxRecDepth 10000 in
theorem wc_M_readFact : Cond.code y_M_readFact.1 y_M_readFact.2.1 y_M_readFact.2.2.1 y_M_readFact.2.2.2.1 ∈ tbG := mG (mT7 21 rfl) rfl
set_option maxRecDepth 10000 in
theorem wi_M_readFact : Cond.instanceMethod y_M_readFact.1 ∈ tbG := mG (mT7 20 rfl) rfl
set_option maxRecDepth 10000 in
theorem wl_M_readFact : Cond.selects y_M_readFact.1.cls y_M_readFact.1 y_M_readFact.1 ∈ tbG := mG (mP8 (q := (_, 78)) 4 rfl) rfl
abbrev y_M_personHere : MI := (⟨"LieOfTwoModel", "personHere", "()I"⟩, prog_12_method_21_code, 1, (some .int), none)
def t_M_personHere : List (Nat × Instr × Nat) := [(0, (.aload_n 0), 1), (1, (.aload_n 0), 1), (2, (.getfield 53), 3), (5, (.bipush 8), 2), (7, (.aload_n 0), 1), (8, (.getfield 295), 3), (11, .imul, 1), (12, (.aload_n 0), 1), (13, (.getfield 24), 3), (16, (.aload_n 0), 1), (17, (.getfield 295), 3), (20, .iaload, 1), (21, (.invokevirtual 344), 3), (24, .ireturn, 1)]
set_option maxRecDepth 10000 in
theorem wc_M_personHere : Cond.code y_M_personHere.1 y_M_personHere.2.1 y_M_personHere.2.2.1 y_M_personHere.2.2.2.1 ∈ tbG := mG (mT7 45 rfl) rfl
set_option maxRecDepth 10000 in
theorem wi_M_personHere : Cond.instanceMethod y_M_personHere.1 ∈ tbG := mG (mT7 44 rfl) rfl
set_option maxRecDepth 10000 in
theorem wl_M_personHere : Cond.selects y_M_personHere.1.cls y_M_personHere.1 y_M_personHere.1 ∈ tbG := mG (mP8 (q := (_, 78)) 10 rfl) rfl
abbrev y_M_must : MI := (⟨"LieOfTwoModel", "must", "(Z)V"⟩, prog_12_method_13_code, 2, none, none)
def t_M_must : List (Nat × Instr × Nat) := [(0, (.aload_n 0), 1), (1, (.invokevirtual 278), 3), (4, (.ifCond .ne 4), 3), (7, .return_, 1), (8, (.iload_n 1), 1), (9, (.ifCond .eq 10), 3), (12, (.aload_n 0), 1), (13, (.invokevirtual 282), 3), (16, (.goto 7), 3), (19, (.aload_n 0), 1), (20, (.invokevirtual 285), 3), (23, .return_, 1)]
set_option maxRecDepth 10000 in
theorem wc_M_must : Cond.code y_M_must.1 y_M_must.2.1 y_M_must.2.2.1 y_M_must.2.2.2.1 ∈ tbG := mG (mT7 53 rfl) rfl
set_option maxRecDepth 10000 in
theorem wi_M_must : Cond.instanceMethod y_M_must.1 ∈ tbG := mG (mT7 52 rfl) rfl
set_option maxRecDepth 10000 in
theorem wl_M_must : Cond.selects y_M_must.1.cls y_M_must.1 y_M_must.1 ∈ tbG := mG (mP8 (q := (_, 78)) 12 rfl) rfl
abbrev y_M_after : MI := (⟨"LieOfTwoModel", "after", "(JI)I"⟩, prog_12_method_14_code, 5, (some .int), none)
def t_M_after : List (Nat × Instr × Nat) := [(0, (.aload_n 0), 1), (1, (.aload_n 0), 1), (2, (.lload_n 1), 1), (3, (.invokevirtual 288), 3), (6, (.invokevirtual 291), 3), (9, (.aload_n 0), 1), (10, (.invokevirtual 278), 3), (13, (.ifCond .ne 5), 3), (16, (.iconst 0), 1), (17, .ireturn, 1), (18, (.aload_n 0), 1), (19, (.getfield 250), 3), (22, (.iconst 4), 1), (23, (.if_icmp .eq 10), 3), (26, (.aload_n 0), 1), (27, (.invokevirtual 285), 3), (30, (.goto 20), 3), (33, (.aload_n 0), 1), (34, (.getfield 268), 3), (37, (.iload_n 3), 1), (38, (.if_icmp .le 12), 3), (41, (.aload_n 0), 1), (42, (.iconst 4), 1), (43, (.aload_n 0), 1), (44, (.getfield 243), 3), (47, (.invokevirtual 274), 3), (50, (.aload_n 0), 1), (51, (.getfield 268), 3), (54, (.istore 4), 2), (56, (.aload_n 0), 1), (57, (.invokevirtual 278), 3), (60, (.ifCond .eq 7), 3), (63, (.aload_n 0), 1), (64, (.invokevirtual 282), 3), (67, (.iload 4), 2), (69, .ireturn, 1)]
set_option maxRecDepth 10000 in
theorem wc_M_after : Cond.code y_M_after.1 y_M_after.2.1 y_M_after.2.2.1 y_M_after.2.2.2.1 ∈ tbG := mG (mT7 49 rfl) rfl
set_option maxRecDepth 10000 in
theorem wi_M_after : Cond.instanceMethod y_M_after.1 ∈ tbG := mG (mT7 48 rfl) rfl
set_option maxRecDepth 10000 in
theorem wl_M_after : Cond.selects y_M_after.1.cls y_M_after.1 y_M_after.1 ∈ tbG := mG (mP8 (q := (_, 78)) 11 rfl) rfl
abbrev y_M_told : MI := (⟨"LieOfTwoModel", "told", "(I)I"⟩, prog_12_method_24_code, 2, (some .int), none)
def t_M_told : List (Nat × Instr × Nat) := [(0, (.aload_n 0), 1), (1, (.invokevirtual 278), 3), (4, (.ifCond .ne 5), 3), (7, (.iconst 0), 1), (8, .ireturn, 1), (9, (.aload_n 0), 1), (10, (.getfield 250), 3), (13, (.iconst 2), 1), (14, (.if_icmp .eq 10), 3), (17, (.aload_n 0), 1), (18, (.invokevirtual 285), 3), (21, (.goto 16), 3), (24, (.iload_n 1), 1), (25, (.ifCond .ge 12), 3), (28, (.aload_n 0), 1), (29, (.iconst 5), 1), (30, (.aload_n 0), 1), (31, (.getfield 243), 3), (34, (.invokevirtual 274), 3), (37, (.aload_n 0), 1), (38, (.invokevirtual 278), 3), (41, (.ifCond .eq 7), 3), (44, (.aload_n 0), 1), (45, (.invokevirtual 282), 3), (48, (.iload_n 1), 1), (49, (.ifCond .ge 7), 3), (52, (.iconst 0), 1), (53, (.goto 4), 3), (56, (.iload_n 1), 1), (57, .ireturn, 1)]
set_option maxRecDepth 10000 in
theorem wc_M_told : Cond.code y_M_told.1 y_M_told.2.1 y_M_told.2.2.1 y_M_told.2.2.2.1 ∈ tbG := mG (mT7 57 rfl) rfl
set_option maxRecDepth 10000 in
theorem wi_M_told : Cond.instanceMethod y_M_told.1 ∈ tbG := mG (mT7 56 rfl) rfl
set_option maxRecDepth 10000 in
theorem wl_M_told : Cond.selects y_M_told.1.cls y_M_told.1 y_M_told.1 ∈ tbG := mG (mP8 (q := (_, 78)) 13 rfl) rfl
abbrev y_M_readPerson : MI := (⟨"LieOfTwoModel", "readPerson", "()V"⟩, prog_12_method_26_code, 4, none, none)
def t_M_readPerson : List (Nat × Instr × Nat) := [(0, (.bipush 8), 2), (2, (.aload_n 0), 1), (3, (.getfield 295), 3), (6, .imul, 1), (7, (.aload_n 0), 1), (8, (.getfield 24), 3), (11, (.aload_n 0), 1), (12, (.getfield 295), 3), (15, .iaload, 1), (16, .iadd, 1), (17, (.istore_n 1), 1), (18, (.aload_n 0), 1), (19, (.getfield 53), 3), (22, (.iload_n 1), 1), (23, (.aload_n 0), 1), (24, (.aload_n 0), 1), (25, (.invokevirtual 358), 3), (28, (.ifCond .lt 7), 3), (31, (.iconst 1), 1), (32, (.goto 4), 3), (35, (.iconst 0), 1), (36, (.invokevirtual 354), 3), (39, .lastore, 1), (40, (.aload_n 0), 1), (41, (.getfield 59), 3), (44, (.iload_n 1), 1), (45, (.aload_n 0), 1), (46, (.ldc2_w 204), 3), (49, (.bipush 99), 2), (51, (.invokevirtual 361), 3), (54, .iastore, 1), (55, (.aload_n 0), 1), (56, (.getfield 62), 3), (59, (.iload_n 1), 1), (60, (.iconst 0), 1), (61, .iastore, 1), (62, (.aload_n 0), 1), (63, (.getfield 24), 3), (66, (.aload_n 0), 1), (67, (.getfield 295), 3), (70, .dup2, 1), (71, .iaload, 1), (72, (.iconst 1), 1), (73, .iadd, 1), (74, .iastore, 1), (75, (.aload_n 0), 1), (76, (.invokevirtual 278), 3), (79, (.ifCond .eq 13), 3), (82, (.aload_n 0), 1), (83, (.ldc2_w 206), 3), (86, (.invokevirtual 288), 3), (89, (.ifCond .ne 4), 3), (92, .return_, 1), (93, (.aload_n 0), 1), (94, (.invokevirtual 282), 3), (97, (.iconst 1), 1), (98, (.istore_n 2), 1), (99, (.aload_n 0), 1), (100, (.invokevirtual 278), 3), (103, (.ifCond .eq 68), 3), (106, (.iload_n 2), 1), (107, (.ifCond .ne 11), 3), (110, (.aload_n 0), 1), (111, (.getfield 250), 3), (114, (.iconst 2), 1), (115, (.if_icmp .ne 56), 3), (118, (.aload_n 0), 1), (119, (.invokevirtual 348), 3), (122, (.istore_n 3), 1), (123, (.iload_n 3), 1), (124, (.ifCond .lt 26), 3), (127, (.aload_n 0), 1), (128, (.getfield 62), 3), (131, (.iload_n 1), 1), (132, .iaload, 1), (133, (.iload_n 3), 1), (134, .ishr, 1), (135, (.iconst 1), 1), (136, .iand, 1), (137, (.iconst 1), 1), (138, (.if_icmp .ne 12), 3), (141, (.aload_n 0), 1), (142, (.iconst 3), 1), (143, (.aload_n 0), 1), (144, (.getfield 243), 3), (147, (.invokevirtual 274), 3), (150, (.aload_n 0), 1), (151, (.getfield 62), 3), (154, (.iload_n 1), 1), (155, .dup2, 1), (156, .iaload, 1), (157, (.iconst 1), 1), (158, (.aload_n 0), 1), (159, (.iload_n 3), 1), (160, (.invokevirtual 365), 3), (163, .ishl, 1), (164, .ior, 1), (165, .iastore, 1), (166, (.iconst 0), 1), (167, (.istore_n 2), 1), (168, (.goto (-69)), 3), (171, .return_, 1)]
set_option maxRecDepth 10000 in
theorem wc_M_readPerson : Cond.code y_M_readPerson.1 y_M_readPerson.2.1 y_M_readPerson.2.2.1 y_M_readPerson.2.2.2.1 ∈ tbG := mG (mT7 41 rfl) rfl
set_option maxRecDepth 10000 in
theorem wi_M_readPerson : Cond.instanceMethod y_M_readPerson.1 ∈ tbG := mG (mT7 40 rfl) rfl
set_option maxRecDepth 10000 in
theorem wl_M_readPerson : Cond.selects y_M_readPerson.1.cls y_M_readPerson.1 y_M_readPerson.1 ∈ tbG := mG (mP8 (q := (_, 78)) 9 rfl) rfl
abbrev y_M_pushE : MI := (⟨"LieOfTwoModel", "pushE", "(III)V"⟩, prog_12_method_33_code, 4, none, none)
def t_M_pushE : List (Nat × Instr × Nat) := [(0, (.aload_n 0), 1), (1, (.getfield 95), 3), (4, (.aload_n 0), 1), (5, (.getfield 381), 3), (8, (.iload_n 1), 1), (9, .iastore, 1), (10, (.aload_n 0), 1), (11, (.getfield 98), 3), (14, (.aload_n 0), 1), (15, (.getfield 381), 3), (18, (.iload_n 2), 1), (19, .iastore, 1), (20, (.aload_n 0), 1), (21, (.getfield 101), 3), (24, (.aload_n 0), 1), (25, (.getfield 381), 3), (28, (.iload_n 3), 1), (29, .iastore, 1), (30, (.aload_n 0), 1), (31, .dup, 1), (32, (.getfield 381), 3), (35, (.iconst 1), 1), (36, .iadd, 1), (37, (.putfield 381), 3), (40, .return_, 1)]
set_option maxRecDepth 10000 in
theorem wc_M_pushE : Cond.code y_M_pushE.1 y_M_pushE.2.1 y_M_pushE.2.2.1 y_M_pushE.2.2.2.1 ∈ tbG := mG (mT7 69 rfl) rfl
set_option maxRecDepth 10000 in
theorem wi_M_pushE : Cond.instanceMethod y_M_pushE.1 ∈ tbG := mG (mT7 68 rfl) rfl
set_option maxRecDepth 10000 in
theorem wl_M_pushE : Cond.selects y_M_pushE.1.cls y_M_pushE.1 y_M_pushE.1 ∈ tbG := mG (mP9 (q := (_, 78)) 0 rfl) rfl
abbrev y_M_stands : MI := (⟨"LieOfTwoModel", "stands", "(I)Z"⟩, prog_12_method_10_code, 2, (some .boolean), none)
def t_M_stands : List (Nat × Instr × Nat) := [(0, (.aload_n 0), 1), (1, (.getfield 250), 3), (4, (.iconst 5), 1), (5, (.if_icmp .ne 19), 3), (8, (.aload_n 0), 1), (9, (.aload_n 0), 1), (10, (.getfield 243), 3), (13, (.invokevirtual 246), 3), (16, (.iload_n 1), 1), (17, (.if_icmp .ne 7), 3), (20, (.iconst 1), 1), (21, (.goto 4), 3), (24, (.iconst 0), 1), (25, .ireturn, 1)]
set_option maxRecDepth 10000 in
theorem wc_M_stands : Cond.code y_M_stands.1 y_M_stands.2.1 y_M_stands.2.2.1 y_M_stands.2.2.2.1 ∈ tbG := mG (mT7 77 rfl) rfl
set_option maxRecDepth 10000 in
theorem wi_M_stands : Cond.instanceMethod y_M_stands.1 ∈ tbG := mG (mT7 76 rfl) rfl
set_option maxRecDepth 10000 in
theorem wl_M_stands : Cond.selects y_M_stands.1.cls y_M_stands.1 y_M_stands.1 ∈ tbG := mG (mP9 (q := (_, 78)) 2 rfl) rfl
abbrev y_M_opens : MI := (⟨"LieOfTwoModel", "opens", "(III)Z"⟩, prog_12_method_35_code, 4, (some .boolean), none)
def t_M_opens : List (Nat × Instr × Nat) := [(0, (.aload_n 0), 1), (1, (.iload_n 1), 1), (2, (.iload_n 2), 1), (3, (.iload_n 3), 1), (4, (.invokevirtual 387), 3), (7, (.aload_n 0), 1), (8, .dup, 1), (9, (.getfield 384), 3), (12, (.iconst 1), 1), (13, .iadd, 1), (14, (.putfield 384), 3), (17, (.iconst 1), 1), (18, .ireturn, 1)]
set_option maxRecDepth 10000 in
theorem wc_M_opens : Cond.code y_M_opens.1 y_M_opens.2.1 y_M_opens.2.2.1 y_M_opens.2.2.2.1 ∈ tbG := mG (mT7 81 rfl) rfl
set_option maxRecDepth 10000 in
theorem wi_M_opens : Cond.instanceMethod y_M_opens.1 ∈ tbG := mG (mT7 80 rfl) rfl
set_option maxRecDepth 10000 in
theorem wl_M_opens : Cond.selects y_M_opens.1.cls y_M_opens.1 y_M_opens.1 ∈ tbG := mG (mP9 (q := (_, 78)) 3 rfl) rfl
abbrev y_M_emit : MI := (⟨"LieOfTwoModel", "emit", "(II)V"⟩, prog_12_method_32_code, 3, none, none)
def t_M_emit : List (Nat × Instr × Nat) := [(0, (.aload_n 0), 1), (1, (.getfield 89), 3), (4, (.aload_n 0), 1), (5, (.getfield 298), 3), (8, (.iload_n 1), 1), (9, .iastore, 1), (10, (.aload_n 0), 1), (11, (.getfield 92), 3), (14, (.aload_n 0), 1), (15, (.getfield 298), 3), (18, (.iload_n 2), 1), (19, .iastore, 1), (20, (.aload_n 0), 1), (21, .dup, 1), (22, (.getfield 298), 3), (25, (.iconst 1), 1), (26, .iadd, 1), (27, (.putfield 298), 3), (30, .return_, 1)]
set_option maxRecDepth 10000 in
theorem wc_M_emit : Cond.code y_M_emit.1 y_M_emit.2.1 y_M_emit.2.2.1 y_M_emit.2.2.2.1 ∈ tbG := mG (mT7 85 rfl) rfl
set_option maxRecDepth 10000 in
theorem wi_M_emit : Cond.instanceMethod y_M_emit.1 ∈ tbG := mG (mT7 84 rfl) rfl
set_option maxRecDepth 10000 in
theorem wl_M_emit : Cond.selects y_M_emit.1.cls y_M_emit.1 y_M_emit.1 ∈ tbG := mG (mP9 (q := (_, 78)) 4 rfl) rfl
abbrev y_M_part : MI := (⟨"LieOfTwoModel", "part", "()Z"⟩, prog_12_method_38_code, 4, (some .boolean), none)
def t_M_part : List (Nat × Instr × Nat) := [(0, (.aload_n 0), 1), (1, (.bipush 40), 2), (3, (.invokevirtual 341), 3), (6, (.istore_n 1), 1), (7, (.aload_n 0), 1), (8, (.getfield 250), 3), (11, (.iconst 4), 1), (12, (.if_icmp .ne 8), 3), (15, (.bipush 11), 2), (17, (.goto 64), 3), (20, (.aload_n 0), 1), (21, (.ldc2_w 234), 3), (24, (.invokevirtual 288), 3), (27, (.ifCond .eq 8), 3), (30, (.bipush 12), 2), (32, (.goto 49), 3), (35, (.aload_n 0), 1), (36, (.ldc2_w 236), 3), (39, (.invokevirtual 288), 3), (42, (.ifCond .eq 8), 3), (45, (.bipush 13), 2), (47, (.goto 34), 3), (50, (.aload_n 0), 1), (51, (.ldc2_w 238), 3), (54, (.invokevirtual 288), 3), (57, (.ifCond .eq 8), 3), (60, (.bipush 14), 2), (62, (.goto 19), 3), (65, (.aload_n 0), 1), (66, (.ldc2_w 232), 3), (69, (.invokevirtual 288), 3), (72, (.ifCond .eq 8), 3), (75, (.bipush 15), 2), (77, (.goto 4), 3), (80, (.iconst 0), 1), (81, (.istore_n 2), 1), (82, (.iload_n 2), 1), (83, (.ifCond .ne 7), 3), (86, (.iload_n 1), 1), (87, (.ifCond .eq 30), 3), (90, (.aload_n 0), 1), (91, (.getfield 39), 3), (94, (.aload_n 0), 1), (95, (.getfield 295), 3), (98, .iaload, 1), (99, (.bipush 80), 2), (101, (.if_icmp .eq 16), 3), (104, (.iload_n 1), 1), (105, (.ifCond .eq 16), 3), (108, (.aload_n 0), 1), (109, (.getfield 384), 3), (112, (.bipush 7), 2), (114, (.if_icmp .ne 7), 3), (117, (.aload_n 0), 1), (118, (.invokevirtual 285), 3), (121, (.aload_n 0), 1), (122, (.invokevirtual 278), 3), (125, (.ifCond .ne 5), 3), (128, (.iconst 1), 1), (129, .ireturn, 1), (130, (.aload_n 0), 1), (131, (.getfield 39), 3), (134, (.aload_n 0), 1), (135, (.getfield 295), 3), (138, .dup2, 1), (139, .iaload, 1), (140, (.iconst 1), 1), (141, .iadd, 1), (142, .iastore, 1), (143, (.aload_n 0), 1), (144, (.getfield 268), 3), (147, (.istore_n 3), 1), (148, (.aload_n 0), 1), (149, (.invokevirtual 282), 3), (152, (.iload_n 1), 1), (153, (.ifCond .eq 12), 3), (156, (.aload_n 0), 1), (157, (.bipush 7), 2), (159, (.iconst 0), 1), (160, (.iconst 0), 1), (161, (.invokevirtual 402), 3), (164, .ireturn, 1), (165, (.aload_n 0), 1), (166, (.iload_n 2), 1), (167, (.iload_n 3), 1), (168, (.invokevirtual 406), 3), (171, (.iconst 0), 1), (172, .ireturn, 1)]
set_option maxRecDepth 10000 in
theorem wc_M_part : Cond.code y_M_part.1 y_M_part.2.1 y_M_part.2.2.1 y_M_part.2.2.2.1 ∈ tbG := mG (mT7 73 rfl) rfl
set_option maxRecDepth 10000 in
theorem wi_M_part : Cond.instanceMethod y_M_part.1 ∈ tbG := mG (mT7 72 rfl) rfl
set_option maxRecDepth 10000 in
theorem wl_M_part : Cond.selects y_M_part.1.cls y_M_part.1 y_M_part.1 ∈ tbG := mG (mP9 (q := (_, 78)) 1 rfl) rfl
abbrev y_M_mindful : MI := (⟨"LieOfTwoModel", "mindful", "(I)Z"⟩, prog_12_method_37_code, 2, (some .boolean), none)
def t_M_mindful : List (Nat × Instr × Nat) := [(0, (.aload_n 0), 1), (1, (.invokevirtual 282), 3), (4, (.aload_n 0), 1), (5, (.iconst 1), 1), (6, (.putfield 375), 3), (9, (.aload_n 0), 1), (10, (.iconst 4), 1), (11, (.iload_n 1), 1), (12, (.aload_n 0), 1), (13, (.aload_n 0), 1), (14, (.invokevirtual 358), 3), (17, (.invokevirtual 365), 3), (20, (.invokevirtual 402), 3), (23, .ireturn, 1)]
set_option maxRecDepth 10000 in
theorem wc_M_mindful : Cond.code y_M_mindful.1 y_M_mindful.2.1 y_M_mindful.2.2.1 y_M_mindful.2.2.2.1 ∈ tbG := mG (mT7 93 rfl) rfl
set_option maxRecDepth 10000 in
theorem wi_M_mindful : Cond.instanceMethod y_M_mindful.1 ∈ tbG := mG (mT7 92 rfl) rfl
set_option maxRecDepth 10000 in
theorem wl_M_mindful : Cond.selects y_M_mindful.1.cls y_M_mindful.1 y_M_mindful.1 ∈ tbG := mG (mP9 (q := (_, 78)) 6 rfl) rfl
abbrev y_M_unit : MI := (⟨"LieOfTwoModel", "unit", "()Z"⟩, prog_12_method_36_code, 7, (some .boolean), none)
def t_M_unit : List (Nat × Instr × Nat) := [(0, (.aload_n 0), 1), (1, (.ldc2_w 228), 3), (4, (.invokevirtual 288), 3), (7, (.istore_n 1), 1), (8, (.aload_n 0), 1), (9, (.ldc2_w 230), 3), (12, (.invokevirtual 288), 3), (15, (.ifCond .ne 13), 3), (18, (.aload_n 0), 1), (19, (.ldc2_w 232), 3), (22, (.invokevirtual 288), 3), (25, (.ifCond .eq 7), 3), (28, (.iconst 1), 1), (29, (.goto 4), 3), (32, (.iconst 0), 1), (33, (.istore_n 2), 1), (34, (.aload_n 0), 1), (35, (.bipush 40), 2), (37, (.invokevirtual 341), 3), (40, (.istore_n 3), 1), (41, (.iload_n 1), 1), (42, (.ifCond .ne 7), 3), (45, (.iload_n 2), 1), (46, (.ifCond .eq 7), 3), (49, (.iconst 1), 1), (50, (.goto 4), 3), (53, (.iconst 0), 1), (54, (.istore 4), 2), (56, (.iload 4), 2), (58, (.ifCond .ne 29), 3), (61, (.aload_n 0), 1), (62, (.getfield 250), 3), (65, (.iconst 2), 1), (66, (.if_icmp .eq 7), 3), (69, (.iload_n 3), 1), (70, (.ifCond .eq 46), 3), (73, (.aload_n 0), 1), (74, (.getfield 39), 3), (77, (.aload_n 0), 1), (78, (.getfield 295), 3), (81, .iaload, 1), (82, (.bipush 80), 2), (84, (.if_icmp .eq 32), 3), (87, (.iload 4), 2), (89, (.ifCond .ne 7), 3), (92, (.iload_n 3), 1), (93, (.ifCond .eq 12), 3), (96, (.aload_n 0), 1), (97, (.getfield 384), 3), (100, (.bipush 7), 2), (102, (.if_icmp .eq 14), 3), (105, (.iload_n 2), 1), (106, (.ifCond .eq 14), 3), (109, (.aload_n 0), 1), (110, (.getfield 372), 3), (113, (.ifCond .eq 7), 3), (116, (.aload_n 0), 1), (117, (.invokevirtual 285), 3), (120, (.aload_n 0), 1), (121, (.invokevirtual 278), 3), (124, (.ifCond .ne 5), 3), (127, (.iconst 1), 1), (128, .ireturn, 1), (129, (.iload_n 2), 1), (130, (.ifCond .eq 23), 3), (133, (.aload_n 0), 1), (134, (.aload_n 0), 1), (135, (.ldc2_w 230), 3), (138, (.invokevirtual 288), 3), (141, (.ifCond .eq 7), 3), (144, (.iconst 4), 1), (145, (.goto 4), 3), (148, (.iconst 5), 1), (149, (.invokevirtual 399), 3), (152, .ireturn, 1), (153, (.iload_n 1), 1), (154, (.ifCond .eq 15), 3), (157, (.aload_n 0), 1), (158, (.invokevirtual 282), 3), (161, (.aload_n 0), 1), (162, (.iconst 4), 1), (163, (.iconst 3), 1), (164, (.iconst 0), 1), (165, (.invokevirtual 402), 3), (168, .ireturn, 1), (169, (.aload_n 0), 1), (170, (.getfield 39), 3), (173, (.aload_n 0), 1), (174, (.getfield 295), 3), (177, .dup2, 1), (178, .iaload, 1), (179, (.iconst 1), 1), (180, .iadd, 1), (181, .iastore, 1), (182, (.iload_n 3), 1), (183, (.ifCond .eq 16), 3), (186, (.aload_n 0), 1), (187, (.invokevirtual 282), 3), (190, (.aload_n 0), 1), (191, (.bipush 7), 2), (193, (.iconst 0), 1), (194, (.iconst 0), 1), (195, (.invokevirtual 402), 3), (198, .ireturn, 1), (199, (.aload_n 0), 1), (200, (.invokevirtual 348), 3), (203, (.istore 5), 2), (205, (.aload_n 0), 1), (206, (.invokevirtual 351), 3), (209, (.istore 6), 2), (211, (.iload 5), 2), (213, (.ifCond .ge 42), 3), (216, (.iload 6), 2), (218, (.ifCond .lt 28), 3), (221, (.aload_n 0), 1), (222, (.getfield 372), 3), (225, (.ifCond .eq 30), 3), (228, (.aload_n 0), 1), (229, (.getfield 46), 3), (232, (.bipush 12), 2), (234, (.aload_n 0), 1), (235, (.getfield 295), 3), (238, .imul, 1), (239, (.iload 6), 2), (241, .iadd, 1), (242, .baload, 1), (243, (.ifCond .eq 12), 3), (246, (.aload_n 0), 1), (247, (.iconst 5), 1), (248, (.aload_n 0), 1), (249, (.getfield 243), 3), (252, (.invokevirtual 274), 3), (255, (.aload_n 0), 1), (256, (.invokevirtual 278), 3), (259, (.ifCond .ne 5), 3), (262, (.iconst 1), 1), (263, .ireturn, 1), (264, (.aload_n 0), 1), (265, (.aload_n 0), 1), (266, (.getfield 375), 3), (269, (.ifCond .ne 26), 3), (272, (.iload 5), 2), (274, (.ifCond .ge 25), 3), (277, (.aload_n 0), 1), (278, (.getfield 46), 3), (281, (.bipush 12), 2), (283, (.aload_n 0), 1), (284, (.getfield 295), 3), (287, .imul, 1), (288, (.iload 6), 2), (290, .iadd, 1), (291, .baload, 1), (292, (.ifCond .eq 7), 3), (295, (.iconst 1), 1), (296, (.goto 4), 3), (299, (.iconst 0), 1), (300, (.putfield 375), 3), (303, (.aload_n 0), 1), (304, (.iload 5), 2), (306, (.ifCond .ge 7), 3), (309, (.iconst 2), 1), (310, (.goto 4), 3), (313, (.iconst 1), 1), (314, (.iload 5), 2), (316, (.ifCond .ge 8), 3), (319, (.iload 6), 2), (321, (.goto 5), 3), (324, (.iload 5), 2), (326, (.invokevirtual 406), 3), (329, (.aload_n 0), 1), (330, (.invokevirtual 282), 3), (333, (.iconst 0), 1), (334, .ireturn, 1)]
set_option maxRecDepth 10000 in
theorem wc_M_unit : Cond.code y_M_unit.1 y_M_unit.2.1 y_M_unit.2.2.1 y_M_unit.2.2.2.1 ∈ tbG := mG (mT7 89 rfl) rfl
set_option maxRecDepth 10000 in
theorem wi_M_unit : Cond.instanceMethod y_M_unit.1 ∈ tbG := mG (mT7 88 rfl) rfl
set_option maxRecDepth 10000 in
theorem wl_M_unit : Cond.selects y_M_unit.1.cls y_M_unit.1 y_M_unit.1 ∈ tbG := mG (mP9 (q := (_, 78)) 5 rfl) rfl
abbrev y_M_rankHere : MI := (⟨"LieOfTwoModel", "rankHere", "()I"⟩, prog_12_method_39_code, 1, (some .int), none)
def t_M_rankHere : List (Nat × Instr × Nat) := [(0, (.aload_n 0), 1), (1, (.ldc2_w 224), 3), (4, (.invokevirtual 288), 3), (7, (.ifCond .eq 5), 3), (10, (.iconst 2), 1), (11, .ireturn, 1), (12, (.aload_n 0), 1), (13, (.getfield 368), 3), (16, (.ifCond .eq 59), 3), (19, (.aload_n 0), 1), (20, (.bipush 60), 2), (22, (.invokevirtual 341), 3), (25, (.ifCond .ne 21), 3), (28, (.aload_n 0), 1), (29, (.bipush 62), 2), (31, (.invokevirtual 341), 3), (34, (.ifCond .ne 12), 3), (37, (.aload_n 0), 1), (38, (.bipush 61), 2), (40, (.invokevirtual 341), 3), (43, (.ifCond .eq 7), 3), (46, (.iconst 5), 1), (47, (.goto 27), 3), (50, (.aload_n 0), 1), (51, (.bipush 43), 2), (53, (.invokevirtual 341), 3), (56, (.ifCond .ne 12), 3), (59, (.aload_n 0), 1), (60, (.bipush 45), 2), (62, (.invokevirtual 341), 3), (65, (.ifCond .eq 8), 3), (68, (.bipush 6), 2), (70, (.goto 4), 3), (73, (.iconst 0), 1), (74, .ireturn, 1), (75, (.aload_n 0), 1), (76, (.ldc2_w 222), 3), (79, (.invokevirtual 288), 3), (82, (.ifCond .eq 7), 3), (85, (.iconst 1), 1), (86, (.goto 18), 3), (89, (.aload_n 0), 1), (90, (.ldc2_w 226), 3), (93, (.invokevirtual 288), 3), (96, (.ifCond .eq 7), 3), (99, (.iconst 3), 1), (100, (.goto 4), 3), (103, (.iconst 0), 1), (104, .ireturn, 1)]
set_option maxRecDepth 10000 in
theorem wc_M_rankHere : Cond.code y_M_rankHere.1 y_M_rankHere.2.1 y_M_rankHere.2.2.1 y_M_rankHere.2.2.2.1 ∈ tbG := mG (mT7 101 rfl) rfl
set_option maxRecDepth 10000 in
theorem wi_M_rankHere : Cond.instanceMethod y_M_rankHere.1 ∈ tbG := mG (mT7 100 rfl) rfl
set_option maxRecDepth 10000 in
theorem wl_M_rankHere : Cond.selects y_M_rankHere.1.cls y_M_rankHere.1 y_M_rankHere.1 ∈ tbG := mG (mP9 (q := (_, 78)) 8 rfl) rfl
abbrev y_M_isAgain : MI := (⟨"LieOfTwoModel", "isAgain", "(I)Z"⟩, prog_12_method_40_code, 3, (some .boolean), none)
def t_M_isAgain : List (Nat × Instr × Nat) := [(0, (.aload_n 0), 1), (1, (.getfield 381), 3), (4, (.iconst 1), 1), (5, .isub, 1), (6, (.istore_n 2), 1), (7, (.aload_n 0), 1), (8, (.getfield 95), 3), (11, (.iload_n 2), 1), (12, .iaload, 1), (13, (.bipush 7), 2), (15, (.if_icmp .ge 38), 3), (18, (.iload_n 1), 1), (19, (.iconst 1), 1), (20, (.if_icmp .ne 16), 3), (23, (.aload_n 0), 1), (24, (.getfield 95), 3), (27, (.iload_n 2), 1), (28, .iaload, 1), (29, (.iconst 1), 1), (30, (.if_icmp .le 23), 3), (33, (.goto 14), 3), (36, (.aload_n 0), 1), (37, (.getfield 95), 3), (40, (.iload_n 2), 1), (41, .iaload, 1), (42, (.bipush 6), 2), (44, (.if_icmp .ne 9), 3), (47, (.iinc 2 (-1)), 3), (50, (.goto (-43)), 3), (53, (.aload_n 0), 1), (54, (.getfield 95), 3), (57, (.iload_n 2), 1), (58, .iaload, 1), (59, (.iload_n 1), 1), (60, (.if_icmp .ne 7), 3), (63, (.iconst 1), 1), (64, (.goto 4), 3), (67, (.iconst 0), 1), (68, .ireturn, 1)]
set_option maxRecDepth 10000 in
theorem wc_M_isAgain : Cond.code y_M_isAgain.1 y_M_isAgain.2.1 y_M_isAgain.2.2.1 y_M_isAgain.2.2.2.1 ∈ tbG := mG (mT7 105 rfl) rfl
set_option maxRecDepth 10000 in
theorem wi_M_isAgain : Cond.instanceMethod y_M_isAgain.1 ∈ tbG := mG (mT7 104 rfl) rfl
set_option maxRecDepth 10000 in
theorem wl_M_isAgain : Cond.selects y_M_isAgain.1.cls y_M_isAgain.1 y_M_isAgain.1 ∈ tbG := mG (mP9 (q := (_, 78)) 9 rfl) rfl
abbrev y_M_behindUnit : MI := (⟨"LieOfTwoModel", "behindUnit", "()Z"⟩, prog_12_method_41_code, 2, (some .boolean), none)
def t_M_behindUnit : List (Nat × Instr × Nat) := [(0, (.aload_n 0), 1), (1, (.invokevirtual 409), 3), (4, (.istore_n 1), 1), (5, (.iload_n 1), 1), (6, (.iconst 1), 1), (7, (.if_icmp .eq 8), 3), (10, (.iload_n 1), 1), (11, (.iconst 5), 1), (12, (.if_icmp .ne 17), 3), (15, (.aload_n 0), 1), (16, (.iload_n 1), 1), (17, (.invokevirtual 412), 3), (20, (.ifCond .eq 9), 3), (23, (.aload_n 0), 1), (24, (.invokevirtual 285), 3), (27, (.iconst 1), 1), (28, .ireturn, 1), (29, (.aload_n 0), 1), (30, (.getfield 95), 3), (33, (.aload_n 0), 1), (34, (.getfield 381), 3), (37, (.iconst 1), 1), (38, .isub, 1), (39, .iaload, 1), (40, (.bipush 7), 2), (42, (.if_icmp .ge 76), 3), (45, (.aload_n 0), 1), (46, (.getfield 95), 3), (49, (.aload_n 0), 1), (50, (.getfield 381), 3), (53, (.iconst 1), 1), (54, .isub, 1), (55, .iaload, 1), (56, (.iload_n 1), 1), (57, (.if_icmp .lt 61), 3), (60, (.aload_n 0), 1), (61, .dup, 1), (62, (.getfield 381), 3), (65, (.iconst 1), 1), (66, .isub, 1), (67, (.putfield 381), 3), (70, (.aload_n 0), 1), (71, (.getfield 95), 3), (74, (.aload_n 0), 1), (75, (.getfield 381), 3), (78, .iaload, 1), (79, (.iconst 4), 1), (80, (.if_icmp .ne 13), 3), (83, (.aload_n 0), 1), (84, .dup, 1), (85, (.getfield 384), 3), (88, (.iconst 1), 1), (89, .isub, 1), (90, (.putfield 384), 3), (93, (.aload_n 0), 1), (94, (.aload_n 0), 1), (95, (.getfield 98), 3), (98, (.aload_n 0), 1), (99, (.getfield 381), 3), (102, .iaload, 1), (103, (.aload_n 0), 1), (104, (.getfield 101), 3), (107, (.aload_n 0), 1), (108, (.getfield 381), 3), (111, .iaload, 1), (112, (.invokevirtual 406), 3), (115, (.goto (-86)), 3), (118, (.iload_n 1), 1), (119, (.ifCond .le 53), 3), (122, (.aload_n 0), 1), (123, (.iload_n 1), 1), (124, (.iload_n 1), 1), (125, (.iconst 1), 1), (126, (.if_icmp .ne 8), 3), (129, (.bipush 8), 2), (131, (.goto 31), 3), (134, (.iload_n 1), 1), (135, (.iconst 2), 1), (136, (.if_icmp .ne 8), 3), (139, (.bipush 7), 2), (141, (.goto 21), 3), (144, (.iload_n 1), 1), (145, (.iconst 3), 1), (146, (.if_icmp .ne 8), 3), (149, (.bipush 6), 2), (151, (.goto 11), 3), (154, (.aload_n 0), 1), (155, (.aload_n 0), 1), (156, (.getfield 243), 3), (159, (.invokevirtual 246), 3), (162, (.iconst 0), 1), (163, (.invokevirtual 387), 3), (166, (.aload_n 0), 1), (167, (.invokevirtual 282), 3), (170, (.iconst 1), 1), (171, .ireturn, 1), (172, (.aload_n 0), 1), (173, .dup, 1), (174, (.getfield 381), 3), (177, (.iconst 1), 1), (178, .isub, 1), (179, (.putfield 381), 3), (182, (.aload_n 0), 1), (183, (.getfield 95), 3), (186, (.aload_n 0), 1), (187, (.getfield 381), 3), (190, .iaload, 1), (191, (.bipush 7), 2), (193, (.if_icmp .ne 23), 3), (196, (.aload_n 0), 1), (197, .dup, 1), (198, (.getfield 384), 3), (201, (.iconst 1), 1), (202, .isub, 1), (203, (.putfield 384), 3), (206, (.aload_n 0), 1), (207, (.aload_n 0), 1), (208, (.bipush 41), 2), (210, (.invokevirtual 341), 3), (213, (.invokevirtual 291), 3), (216, (.iconst 0), 1), (217, .ireturn, 1)]
set_option maxRecDepth 10000 in
theorem wc_M_behindUnit : Cond.code y_M_behindUnit.1 y_M_behindUnit.2.1 y_M_behindUnit.2.2.1 y_M_behindUnit.2.2.2.1 ∈ tbG := mG (mT7 97 rfl) rfl
set_option maxRecDepth 10000 in
theorem wi_M_behindUnit : Cond.instanceMethod y_M_behindUnit.1 ∈ tbG := mG (mT7 96 rfl) rfl
set_option maxRecDepth 10000 in
theorem wl_M_behindUnit : Cond.selects y_M_behindUnit.1.cls y_M_behindUnit.1 y_M_behindUnit.1 ∈ tbG := mG (mP9 (q := (_, 78)) 7 rfl) rfl
abbrev y_M_e : MI := (⟨"LieOfTwoModel", "e", "()V"⟩, prog_12_method_34_code, 2, none, none)
def t_M_e : List (Nat × Instr × Nat) := [(0, (.aload_n 0), 1), (1, (.iconst 0), 1), (2, (.putfield 381), 3), (5, (.aload_n 0), 1), (6, (.iconst 0), 1), (7, (.putfield 384), 3), (10, (.aload_n 0), 1), (11, (.bipush 8), 2), (13, (.iconst 0), 1), (14, (.iconst 0), 1), (15, (.invokevirtual 387), 3), (18, (.iconst 1), 1), (19, (.istore_n 1), 1), (20, (.aload_n 0), 1), (21, (.invokevirtual 278), 3), (24, (.ifCond .eq 43), 3), (27, (.aload_n 0), 1), (28, (.getfield 381), 3), (31, (.ifCond .le 36), 3), (34, (.iload_n 1), 1), (35, (.ifCond .eq 24), 3), (38, (.aload_n 0), 1), (39, (.getfield 368), 3), (42, (.ifCond .eq 10), 3), (45, (.aload_n 0), 1), (46, (.invokevirtual 391), 3), (49, (.goto 14), 3), (52, (.aload_n 0), 1), (53, (.invokevirtual 393), 3), (56, (.goto 7), 3), (59, (.aload_n 0), 1), (60, (.invokevirtual 396), 3), (63, (.istore_n 1), 1), (64, (.goto (-44)), 3), (67, .return_, 1)]
set_option maxRecDepth 10000 in
theorem wc_M_e : Cond.code y_M_e.1 y_M_e.2.1 y_M_e.2.2.1 y_M_e.2.2.2.1 ∈ tbG := mG (mT7 65 rfl) rfl
set_option maxRecDepth 10000 in
theorem wi_M_e : Cond.instanceMethod y_M_e.1 ∈ tbG := mG (mT7 64 rfl) rfl
set_option maxRecDepth 10000 in
theorem wl_M_e : Cond.selects y_M_e.1.cls y_M_e.1 y_M_e.1 ∈ tbG := mG (mP8 (q := (_, 78)) 15 rfl) rfl
abbrev y_M_readRow : MI := (⟨"LieOfTwoModel", "readRow", "()V"⟩, prog_12_method_29_code, 3, none, none)
def t_M_readRow : List (Nat × Instr × Nat) := [(0, (.bipush 12), 2), (2, (.aload_n 0), 1), (3, (.getfield 295), 3), (6, .imul, 1), (7, (.aload_n 0), 1), (8, (.getfield 27), 3), (11, (.aload_n 0), 1), (12, (.getfield 295), 3), (15, .iaload, 1), (16, .iadd, 1), (17, (.istore_n 1), 1), (18, (.aload_n 0), 1), (19, (.getfield 56), 3), (22, (.iload_n 1), 1), (23, (.aload_n 0), 1), (24, (.aload_n 0), 1), (25, (.invokevirtual 348), 3), (28, (.ifCond .ge 10), 3), (31, (.aload_n 0), 1), (32, (.invokevirtual 351), 3), (35, (.ifCond .lt 7), 3), (38, (.iconst 1), 1), (39, (.goto 4), 3), (42, (.iconst 0), 1), (43, (.invokevirtual 354), 3), (46, .lastore, 1), (47, (.bipush 17), 2), (49, (.aload_n 0), 1), (50, (.getfield 295), 3), (53, .imul, 1), (54, (.aload_n 0), 1), (55, (.getfield 27), 3), (58, (.aload_n 0), 1), (59, (.getfield 295), 3), (62, .iaload, 1), (63, .iadd, 1), (64, (.istore_n 2), 1), (65, (.aload_n 0), 1), (66, (.getfield 83), 3), (69, (.iload_n 2), 1), (70, (.aload_n 0), 1), (71, (.getfield 298), 3), (74, .iastore, 1), (75, (.aload_n 0), 1), (76, (.iconst 0), 1), (77, (.putfield 368), 3), (80, (.aload_n 0), 1), (81, (.iconst 0), 1), (82, (.putfield 372), 3), (85, (.aload_n 0), 1), (86, (.iconst 0), 1), (87, (.putfield 375), 3), (90, (.aload_n 0), 1), (91, (.invokevirtual 278), 3), (94, (.ifCond .eq 7), 3), (97, (.aload_n 0), 1), (98, (.invokevirtual 378), 3), (101, (.aload_n 0), 1), (102, (.getfield 86), 3), (105, (.iload_n 2), 1), (106, (.aload_n 0), 1), (107, (.getfield 298), 3), (110, .iastore, 1), (111, (.aload_n 0), 1), (112, (.getfield 46), 3), (115, (.iload_n 1), 1), (116, (.aload_n 0), 1), (117, (.getfield 375), 3), (120, .bastore, 1), (121, (.aload_n 0), 1), (122, (.getfield 27), 3), (125, (.aload_n 0), 1), (126, (.getfield 295), 3), (129, .dup2, 1), (130, .iaload, 1), (131, (.iconst 1), 1), (132, .iadd, 1), (133, .iastore, 1), (134, .return_, 1)]
set_option maxRecDepth 10000 in
theorem wc_M_readRow : Cond.code y_M_readRow.1 y_M_readRow.2.1 y_M_readRow.2.2.1 y_M_readRow.2.2.2.1 ∈ tbG := mG (mT7 61 rfl) rfl
set_option maxRecDepth 10000 in
theorem wi_M_readRow : Cond.instanceMethod y_M_readRow.1 ∈ tbG := mG (mT7 60 rfl) rfl
set_option maxRecDepth 10000 in
theorem wl_M_readRow : Cond.selects y_M_readRow.1.cls y_M_readRow.1 y_M_readRow.1 ∈ tbG := mG (mP8 (q := (_, 78)) 14 rfl) rfl
abbrev y_M_readAlways : MI := (⟨"LieOfTwoModel", "readAlways", "()V"⟩, prog_12_method_30_code, 2, none, none)
def t_M_readAlways : List (Nat × Instr × Nat) := [(0, (.bipush 17), 2), (2, (.aload_n 0), 1), (3, (.getfield 295), 3), (6, .imul, 1), (7, (.bipush 12), 2), (9, .iadd, 1), (10, (.aload_n 0), 1), (11, (.getfield 30), 3), (14, (.aload_n 0), 1), (15, (.getfield 295), 3), (18, .iaload, 1), (19, .iadd, 1), (20, (.istore_n 1), 1), (21, (.aload_n 0), 1), (22, (.getfield 83), 3), (25, (.iload_n 1), 1), (26, (.aload_n 0), 1), (27, (.getfield 298), 3), (30, .iastore, 1), (31, (.aload_n 0), 1), (32, (.iconst 0), 1), (33, (.putfield 368), 3), (36, (.aload_n 0), 1), (37, (.iconst 1), 1), (38, (.putfield 372), 3), (41, (.aload_n 0), 1), (42, (.invokevirtual 378), 3), (45, (.aload_n 0), 1), (46, (.getfield 86), 3), (49, (.iload_n 1), 1), (50, (.aload_n 0), 1), (51, (.getfield 298), 3), (54, .iastore, 1), (55, (.aload_n 0), 1), (56, (.getfield 30), 3), (59, (.aload_n 0), 1), (60, (.getfield 295), 3), (63, .dup2, 1), (64, .iaload, 1), (65, (.iconst 1), 1), (66, .iadd, 1), (67, .iastore, 1), (68, .return_, 1)]
set_option maxRecDepth 10000 in
theorem wc_M_readAlways : Cond.code y_M_readAlways.1 y_M_readAlways.2.1 y_M_readAlways.2.2.1 y_M_readAlways.2.2.2.1 ∈ tbG := mG (mT7 109 rfl) rfl
set_option maxRecDepth 10000 in
theorem wi_M_readAlways : Cond.instanceMethod y_M_readAlways.1 ∈ tbG := mG (mT7 108 rfl) rfl
set_option maxRecDepth 10000 in
theorem wl_M_readAlways : Cond.selects y_M_readAlways.1.cls y_M_readAlways.1 y_M_readAlways.1 ∈ tbG := mG (mP9 (q := (_, 78)) 10 rfl) rfl
abbrev y_M_readTie : MI := (⟨"LieOfTwoModel", "readTie", "()V"⟩, prog_12_method_27_code, 6, none, none)
def t_M_readTie : List (Nat × Instr × Nat) := [(0, (.bipush 12), 2), (2, (.aload_n 0), 1), (3, (.getfield 295), 3), (6, .imul, 1), (7, (.aload_n 0), 1), (8, (.getfield 33), 3), (11, (.aload_n 0), 1), (12, (.getfield 295), 3), (15, .iaload, 1), (16, .iadd, 1), (17, (.istore_n 1), 1), (18, (.aload_n 0), 1), (19, (.aload_n 0), 1), (20, (.invokevirtual 358), 3), (23, (.invokevirtual 365), 3), (26, (.istore_n 2), 1), (27, (.aload_n 0), 1), (28, (.invokevirtual 358), 3), (31, (.istore_n 3), 1), (32, (.iload_n 3), 1), (33, (.ifCond .lt 12), 3), (36, (.iload_n 2), 1), (37, (.iload_n 3), 1), (38, (.if_icmp .ne 7), 3), (41, (.iconst 1), 1), (42, (.goto 4), 3), (45, (.iconst 0), 1), (46, (.istore 4), 2), (48, (.bipush 12), 2), (50, (.aload_n 0), 1), (51, (.getfield 295), 3), (54, .imul, 1), (55, (.istore 5), 2), (57, (.iload 5), 2), (59, (.iload_n 1), 1), (60, (.if_icmp .ge 69), 3), (63, (.iload 4), 2), (65, (.ifCond .ne 51), 3), (68, (.iload_n 3), 1), (69, (.ifCond .lt 51), 3), (72, (.aload_n 0), 1), (73, (.getfield 65), 3), (76, (.iload 5), 2), (78, .iaload, 1), (79, (.iload_n 2), 1), (80, (.if_icmp .ne 14), 3), (83, (.aload_n 0), 1), (84, (.getfield 68), 3), (87, (.iload 5), 2), (89, .iaload, 1), (90, (.iload_n 3), 1), (91, (.if_icmp .eq 25), 3), (94, (.aload_n 0), 1), (95, (.getfield 65), 3), (98, (.iload 5), 2), (100, .iaload, 1), (101, (.iload_n 3), 1), (102, (.if_icmp .ne 18), 3), (105, (.aload_n 0), 1), (106, (.getfield 68), 3), (109, (.iload 5), 2), (111, .iaload, 1), (112, (.iload_n 2), 1), (113, (.if_icmp .ne 7), 3), (116, (.iconst 1), 1), (117, (.goto 4), 3), (120, (.iconst 0), 1), (121, (.istore 4), 2), (123, (.iinc 5 1), 3), (126, (.goto (-69)), 3), (129, (.aload_n 0), 1), (130, (.invokevirtual 278), 3), (133, (.ifCond .eq 17), 3), (136, (.iload 4), 2), (138, (.ifCond .eq 12), 3), (141, (.aload_n 0), 1), (142, (.iconst 3), 1), (143, (.aload_n 0), 1), (144, (.getfield 243), 3), (147, (.invokevirtual 274), 3), (150, (.aload_n 0), 1), (151, (.getfield 65), 3), (154, (.iload_n 1), 1), (155, (.iload_n 2), 1), (156, .iastore, 1), (157, (.aload_n 0), 1), (158, (.getfield 68), 3), (161, (.iload_n 1), 1), (162, (.aload_n 0), 1), (163, (.iload_n 3), 1), (164, (.invokevirtual 365), 3), (167, .iastore, 1), (168, (.aload_n 0), 1), (169, (.getfield 71), 3), (172, (.iload_n 1), 1), (173, (.aload_n 0), 1), (174, (.ldc2_w 214), 3), (177, (.bipush 99), 2), (179, (.invokevirtual 361), 3), (182, .iastore, 1), (183, (.aload_n 0), 1), (184, (.getfield 33), 3), (187, (.aload_n 0), 1), (188, (.getfield 295), 3), (191, .dup2, 1), (192, .iaload, 1), (193, (.iconst 1), 1), (194, .iadd, 1), (195, .iastore, 1), (196, .return_, 1)]
set_option maxRecDepth 10000 in
theorem wc_M_readTie : Cond.code y_M_readTie.1 y_M_readTie.2.1 y_M_readTie.2.2.1 y_M_readTie.2.2.2.1 ∈ tbG := mG (mT7 113 rfl) rfl
set_option maxRecDepth 10000 in
theorem wi_M_readTie : Cond.instanceMethod y_M_readTie.1 ∈ tbG := mG (mT7 112 rfl) rfl
set_option maxRecDepth 10000 in
theorem wl_M_readTie : Cond.selects y_M_readTie.1.cls y_M_readTie.1 y_M_readTie.1 ∈ tbG := mG (mP9 (q := (_, 78)) 11 rfl) rfl
abbrev y_M_readWish : MI := (⟨"LieOfTwoModel", "readWish", "()V"⟩, prog_12_method_28_code, 5, none, none)
def t_M_readWish : List (Nat × Instr × Nat) := [(0, (.bipush 12), 2), (2, (.aload_n 0), 1), (3, (.getfield 295), 3), (6, .imul, 1), (7, (.aload_n 0), 1), (8, (.getfield 36), 3), (11, (.aload_n 0), 1), (12, (.getfield 295), 3), (15, .iaload, 1), (16, .iadd, 1), (17, (.istore_n 1), 1), (18, (.aload_n 0), 1), (19, (.aload_n 0), 1), (20, (.invokevirtual 358), 3), (23, (.invokevirtual 365), 3), (26, (.istore_n 2), 1), (27, (.aload_n 0), 1), (28, (.invokevirtual 351), 3), (31, (.istore_n 3), 1), (32, (.bipush 12), 2), (34, (.aload_n 0), 1), (35, (.getfield 295), 3), (38, .imul, 1), (39, (.istore 4), 2), (41, (.iload 4), 2), (43, (.iload_n 1), 1), (44, (.if_icmp .ge 51), 3), (47, (.aload_n 0), 1), (48, (.invokevirtual 278), 3), (51, (.ifCond .eq 44), 3), (54, (.iload_n 3), 1), (55, (.ifCond .lt 34), 3), (58, (.aload_n 0), 1), (59, (.getfield 74), 3), (62, (.iload 4), 2), (64, .iaload, 1), (65, (.iload_n 2), 1), (66, (.if_icmp .ne 23), 3), (69, (.aload_n 0), 1), (70, (.getfield 77), 3), (73, (.iload 4), 2), (75, .iaload, 1), (76, (.iload_n 3), 1), (77, (.if_icmp .ne 12), 3), (80, (.aload_n 0), 1), (81, (.iconst 3), 1), (82, (.aload_n 0), 1), (83, (.getfield 243), 3), (86, (.invokevirtual 274), 3), (89, (.iinc 4 1), 3), (92, (.goto (-51)), 3), (95, (.aload_n 0), 1), (96, (.getfield 74), 3), (99, (.iload_n 1), 1), (100, (.iload_n 2), 1), (101, .iastore, 1), (102, (.aload_n 0), 1), (103, (.getfield 77), 3), (106, (.iload_n 1), 1), (107, (.aload_n 0), 1), (108, (.iload_n 3), 1), (109, (.invokevirtual 365), 3), (112, .iastore, 1), (113, (.aload_n 0), 1), (114, (.getfield 80), 3), (117, (.iload_n 1), 1), (118, (.aload_n 0), 1), (119, (.ldc2_w 218), 3), (122, (.bipush 99), 2), (124, (.invokevirtual 361), 3), (127, .iastore, 1), (128, (.aload_n 0), 1), (129, (.getfield 36), 3), (132, (.aload_n 0), 1), (133, (.getfield 295), 3), (136, .dup2, 1), (137, .iaload, 1), (138, (.iconst 1), 1), (139, .iadd, 1), (140, .iastore, 1), (141, .return_, 1)]
set_option maxRecDepth 10000 in
theorem wc_M_readWish : Cond.code y_M_readWish.1 y_M_readWish.2.1 y_M_readWish.2.2.1 y_M_readWish.2.2.2.1 ∈ tbG := mG (mT7 117 rfl) rfl
set_option maxRecDepth 10000 in
theorem wi_M_readWish : Cond.instanceMethod y_M_readWish.1 ∈ tbG := mG (mT7 116 rfl) rfl
set_option maxRecDepth 10000 in
theorem wl_M_readWish : Cond.selects y_M_readWish.1.cls y_M_readWish.1 y_M_readWish.1 ∈ tbG := mG (mP9 (q := (_, 78)) 12 rfl) rfl
abbrev y_M_readLaw : MI := (⟨"LieOfTwoModel", "readLaw", "()V"⟩, prog_12_method_31_code, 2, none, none)
def t_M_readLaw : List (Nat × Instr × Nat) := [(0, (.bipush 17), 2), (2, (.aload_n 0), 1), (3, (.getfield 295), 3), (6, .imul, 1), (7, (.bipush 16), 2), (9, .iadd, 1), (10, (.istore_n 1), 1), (11, (.aload_n 0), 1), (12, (.getfield 83), 3), (15, (.iload_n 1), 1), (16, (.aload_n 0), 1), (17, (.getfield 298), 3), (20, .iastore, 1), (21, (.aload_n 0), 1), (22, (.iconst 1), 1), (23, (.putfield 368), 3), (26, (.aload_n 0), 1), (27, (.invokevirtual 378), 3), (30, (.aload_n 0), 1), (31, (.getfield 86), 3), (34, (.iload_n 1), 1), (35, (.aload_n 0), 1), (36, (.getfield 298), 3), (39, .iastore, 1), (40, (.aload_n 0), 1), (41, (.getfield 42), 3), (44, (.aload_n 0), 1), (45, (.getfield 295), 3), (48, (.iconst 1), 1), (49, .bastore, 1), (50, .return_, 1)]
set_option maxRecDepth 10000 in
theorem wc_M_readLaw : Cond.code y_M_readLaw.1 y_M_readLaw.2.1 y_M_readLaw.2.2.1 y_M_readLaw.2.2.2.1 ∈ tbG := mG (mT7 121 rfl) rfl
set_option maxRecDepth 10000 in
theorem wi_M_readLaw : Cond.instanceMethod y_M_readLaw.1 ∈ tbG := mG (mT7 120 rfl) rfl
set_option maxRecDepth 10000 in
theorem wl_M_readLaw : Cond.selects y_M_readLaw.1.cls y_M_readLaw.1 y_M_readLaw.1 ∈ tbG := mG (mP9 (q := (_, 78)) 13 rfl) rfl
abbrev y_M_readLine : MI := (⟨"LieOfTwoModel", "readLine", "()V"⟩, prog_12_method_18_code, 3, none, none)
def t_M_readLine : List (Nat × Instr × Nat) := [(0, (.aload_n 0), 1), (1, (.getfield 257), 3), (4, (.lstore_n 1), 1), (5, (.aload_n 0), 1), (6, (.getfield 250), 3), (9, (.iconst 3), 1), (10, (.if_icmp .ne 10), 3), (13, (.aload_n 0), 1), (14, (.invokevirtual 317), 3), (17, (.ifCond .eq 7), 3), (20, (.aload_n 0), 1), (21, (.invokevirtual 285), 3), (24, (.aload_n 0), 1), (25, (.invokevirtual 278), 3), (28, (.ifCond .ne 4), 3), (31, .return_, 1), (32, (.aload_n 0), 1), (33, (.invokevirtual 282), 3), (36, (.lload_n 1), 1), (37, (.ldc2_w 200), 3), (40, .lcmp, 1), (41, (.ifCond .ne 7), 3), (44, (.aload_n 0), 1), (45, (.invokevirtual 320), 3), (48, (.lload_n 1), 1), (49, (.ldc2_w 202), 3), (52, .lcmp, 1), (53, (.ifCond .ne 7), 3), (56, (.aload_n 0), 1), (57, (.invokevirtual 323), 3), (60, (.lload_n 1), 1), (61, (.ldc2_w 208), 3), (64, .lcmp, 1), (65, (.ifCond .ne 7), 3), (68, (.aload_n 0), 1), (69, (.invokevirtual 326), 3), (72, (.lload_n 1), 1), (73, (.ldc2_w 210), 3), (76, .lcmp, 1), (77, (.ifCond .ne 7), 3), (80, (.aload_n 0), 1), (81, (.invokevirtual 329), 3), (84, (.lload_n 1), 1), (85, (.ldc2_w 212), 3), (88, .lcmp, 1), (89, (.ifCond .ne 7), 3), (92, (.aload_n 0), 1), (93, (.invokevirtual 332), 3), (96, (.lload_n 1), 1), (97, (.ldc2_w 216), 3), (100, .lcmp, 1), (101, (.ifCond .ne 7), 3), (104, (.aload_n 0), 1), (105, (.invokevirtual 335), 3), (108, (.lload_n 1), 1), (109, (.ldc2_w 220), 3), (112, .lcmp, 1), (113, (.ifCond .ne 7), 3), (116, (.aload_n 0), 1), (117, (.invokevirtual 338), 3), (120, (.aload_n 0), 1), (121, (.aload_n 0), 1), (122, (.bipush 59), 2), (124, (.invokevirtual 341), 3), (127, (.invokevirtual 291), 3), (130, .return_, 1)]
set_option maxRecDepth 10000 in
theorem wc_M_readLine : Cond.code y_M_readLine.1 y_M_readLine.2.1 y_M_readLine.2.2.1 y_M_readLine.2.2.2.1 ∈ tbG := mG (mT7 1 rfl) rfl
set_option maxRecDepth 10000 in
theorem wi_M_readLine : Cond.instanceMethod y_M_readLine.1 ∈ tbG := mG (mT7 0 rfl) rfl
set_option maxRecDepth 10000 in
theorem wl_M_readLine : Cond.selects y_M_readLine.1.cls y_M_readLine.1 y_M_readLine.1 ∈ tbG := mG (mP7 (q := (_, 78)) 15 rfl) rfl
abbrev y_M_baseMany : MI := (⟨"LieOfTwoModel", "baseMany", "()I"⟩, prog_12_method_52_code, 3, (some .int), none)
def t_M_baseMany : List (Nat × Instr × Nat) := [(0, (.iconst 0), 1), (1, (.istore_n 1), 1), (2, (.iconst 0), 1), (3, (.istore_n 2), 1), (4, (.iload_n 2), 1), (5, (.aload_n 0), 1), (6, (.invokevirtual 427), 3), (9, (.if_icmp .ge 26), 3), (12, (.iload_n 1), 1), (13, (.aload_n 0), 1), (14, (.getfield 104), 3), (17, (.iload_n 2), 1), (18, .baload, 1), (19, (.ifCond .eq 7), 3), (22, (.iconst 1), 1), (23, (.goto 4), 3), (26, (.iconst 0), 1), (27, .iadd, 1), (28, (.istore_n 1), 1), (29, (.iinc 2 1), 3), (32, (.goto (-28)), 3), (35, (.iload_n 1), 1), (36, .ireturn, 1)]
set_option maxRecDepth 10000 in
theorem wc_M_baseMany : Cond.code y_M_baseMany.1 y_M_baseMany.2.1 y_M_baseMany.2.2.1 y_M_baseMany.2.2.2.1 ∈ tbG := mG (mT7 125 rfl) rfl
set_option maxRecDepth 10000 in
theorem wi_M_baseMany : Cond.instanceMethod y_M_baseMany.1 ∈ tbG := mG (mT7 124 rfl) rfl
set_option maxRecDepth 10000 in
theorem wl_M_baseMany : Cond.selects y_M_baseMany.1.cls y_M_baseMany.1 y_M_baseMany.1 ∈ tbG := mG (mP9 (q := (_, 78)) 14 rfl) rfl
abbrev y_M_town : MI := (⟨"LieOfTwoModel", "town", "()I"⟩, prog_12_method_16_code, 2, (some .int), none)
def t_M_town : List (Nat × Instr × Nat) := [(0, (.aload_n 0), 1), (1, (.iconst 0), 1), (2, (.putfield 197), 3), (5, (.aload_n 0), 1), (6, (.iconst (-1)), 1), (7, (.putfield 16), 3), (10, (.aload_n 0), 1), (11, (.aload_n 0), 1), (12, (.getfield 301), 3), (15, (.putfield 194), 3), (18, (.iconst 0), 1), (19, (.istore_n 1), 1), (20, (.iload_n 1), 1), (21, (.aload_n 0), 1), (22, (.getfield 194), 3), (25, (.if_icmp .ge 21), 3), (28, (.aload_n 0), 1), (29, (.getfield 13), 3), (32, (.iload_n 1), 1), (33, (.aload_n 0), 1), (34, (.getfield 7), 3), (37, (.iload_n 1), 1), (38, .baload, 1), (39, .bastore, 1), (40, (.iinc 1 1), 3), (43, (.goto (-23)), 3), (46, (.aload_n 0), 1), (47, (.iconst 0), 1), (48, (.putfield 301), 3), (51, (.aload_n 0), 1), (52, (.iconst 0), 1), (53, (.putfield 240), 3), (56, (.aload_n 0), 1), (57, (.iconst 1), 1), (58, (.aload_n 0), 1), (59, (.getfield 304), 3), (62, .isub, 1), (63, (.putfield 295), 3), (66, (.aload_n 0), 1), (67, (.invokevirtual 188), 3), (70, (.aload_n 0), 1), (71, (.invokevirtual 282), 3), (74, (.aload_n 0), 1), (75, (.invokevirtual 278), 3), (78, (.ifCond .eq 17), 3), (81, (.aload_n 0), 1), (82, (.getfield 250), 3), (85, (.ifCond .eq 10), 3), (88, (.aload_n 0), 1), (89, (.invokevirtual 307), 3), (92, (.goto (-18)), 3), (95, (.aload_n 0), 1), (96, (.invokevirtual 278), 3), (99, (.ifCond .ne 5), 3), (102, (.iconst (-1)), 1), (103, .ireturn, 1), (104, (.aload_n 0), 1), (105, (.aload_n 0), 1), (106, (.getfield 295), 3), (109, (.putfield 304), 3), (112, (.aload_n 0), 1), (113, (.iconst 0), 1), (114, (.putfield 310), 3), (117, (.iconst 0), 1), (118, (.istore_n 1), 1), (119, (.iload_n 1), 1), (120, (.iconst 3), 1), (121, (.if_icmp .ge 16), 3), (124, (.aload_n 0), 1), (125, (.getfield 167), 3), (128, (.iload_n 1), 1), (129, (.iconst (-1)), 1), (130, .iastore, 1), (131, (.iinc 1 1), 3), (134, (.goto (-15)), 3), (137, (.aload_n 0), 1), (138, (.invokevirtual 191), 3), (141, (.aload_n 0), 1), (142, (.invokevirtual 313), 3), (145, .ireturn, 1)]
set_option maxRecDepth 10000 in
theorem wc_M_town : Cond.code y_M_town.1 y_M_town.2.1 y_M_town.2.2.1 y_M_town.2.2.2.1 ∈ tbG := mG (mT6 193 rfl) rfl
set_option maxRecDepth 10000 in
theorem wi_M_town : Cond.instanceMethod y_M_town.1 ∈ tbG := mG (mT6 191 rfl) rfl
set_option maxRecDepth 10000 in
theorem wl_M_town : Cond.selects y_M_town.1.cls y_M_town.1 y_M_town.1 ∈ tbG := mG (mT6 192 rfl) rfl
abbrev y_M_fault : MI := (⟨"LieOfTwoModel", "fault", "(I)I"⟩, prog_12_method_42_code, 2, (some .int), none)
def t_M_fault : List (Nat × Instr × Nat) := [(0, (.iload_n 1), 1), (1, (.ifCond .ne 10), 3), (4, (.aload_n 0), 1), (5, (.getfield 197), 3), (8, (.goto 16), 3), (11, (.iload_n 1), 1), (12, (.iconst 1), 1), (13, (.if_icmp .ne 10), 3), (16, (.aload_n 0), 1), (17, (.getfield 16), 3), (20, (.goto 4), 3), (23, (.iconst (-1)), 1), (24, .ireturn, 1)]
set_option maxRecDepth 10000 in
theorem wc_M_fault : Cond.code y_M_fault.1 y_M_fault.2.1 y_M_fault.2.2.1 y_M_fault.2.2.2.1 ∈ tbG := mG (mT7 129 rfl) rfl
set_option maxRecDepth 10000 in
theorem wi_M_fault : Cond.instanceMethod y_M_fault.1 ∈ tbG := mG (mT7 127 rfl) rfl
set_option maxRecDepth 10000 in
theorem wl_M_fault : Cond.selects y_M_fault.1.cls y_M_fault.1 y_M_fault.1 ∈ tbG := mG (mT7 128 rfl) rfl
abbrev y_M_isIn : MI := (⟨"LieOfTwoModel", "isIn", "(III)Z"⟩, prog_12_method_43_code, 3, (some .boolean), none)
def t_M_isIn : List (Nat × Instr × Nat) := [(0, (.iload_n 0), 1), (1, (.iload_n 1), 1), (2, (.if_icmp .lt 12), 3), (5, (.iload_n 0), 1), (6, (.iload_n 2), 1), (7, (.if_icmp .gt 7), 3), (10, (.iconst 1), 1), (11, (.goto 4), 3), (14, (.iconst 0), 1), (15, .ireturn, 1)]
set_option maxRecDepth 10000 in
theorem wc_M_isIn : Cond.code y_M_isIn.1 y_M_isIn.2.1 y_M_isIn.2.2.1 y_M_isIn.2.2.2.1 ∈ tbG := mG (mT7 140 rfl) rfl
set_option maxRecDepth 10000 in
theorem ws_M_isIn : Cond.static y_M_isIn.1 ∈ tbG := mG (mT7 139 rfl) rfl
abbrev y_M_isRow : MI := (⟨"LieOfTwoModel", "isRow", "(I)Z"⟩, prog_12_method_47_code, 2, (some .boolean), none)
def t_M_isRow : List (Nat × Instr × Nat) := [(0, (.iload_n 1), 1), (1, (.iconst 0), 1), (2, (.aload_n 0), 1), (3, (.invokevirtual 415), 3), (6, (.iconst 1), 1), (7, .isub, 1), (8, (.invokestatic 418), 3), (11, .ireturn, 1)]
set_option maxRecDepth 10000 in
theorem wc_M_isRow : Cond.code y_M_isRow.1 y_M_isRow.2.1 y_M_isRow.2.2.1 y_M_isRow.2.2.2.1 ∈ tbG := mG (mT7 137 rfl) rfl
set_option maxRecDepth 10000 in
theorem wi_M_isRow : Cond.instanceMethod y_M_isRow.1 ∈ tbG := mG (mT7 136 rfl) rfl
set_option maxRecDepth 10000 in
theorem wl_M_isRow : Cond.selects y_M_isRow.1.cls y_M_isRow.1 y_M_isRow.1 ∈ tbG := mG (mP9 (q := (_, 78)) 15 rfl) rfl
abbrev y_M_isWorld : MI := (⟨"LieOfTwoModel", "isWorld", "(I)Z"⟩, prog_12_method_60_code, 2, (some .boolean), none)
def t_M_isWorld : List (Nat × Instr × Nat) := [(0, (.iload_n 1), 1), (1, (.iconst 0), 1), (2, (.aload_n 0), 1), (3, (.invokevirtual 427), 3), (6, (.iconst 1), 1), (7, .isub, 1), (8, (.invokestatic 418), 3), (11, (.ifCond .eq 16), 3), (14, (.aload_n 0), 1), (15, (.getfield 104), 3), (18, (.iload_n 1), 1), (19, .baload, 1), (20, (.ifCond .eq 7), 3), (23, (.iconst 1), 1), (24, (.goto 4), 3), (27, (.iconst 0), 1), (28, .ireturn, 1)]
set_option maxRecDepth 10000 in
theorem wc_M_isWorld : Cond.code y_M_isWorld.1 y_M_isWorld.2.1 y_M_isWorld.2.2.1 y_M_isWorld.2.2.2.1 ∈ tbG := mG (mT7 144 rfl) rfl
set_option maxRecDepth 10000 in
theorem wi_M_isWorld : Cond.instanceMethod y_M_isWorld.1 ∈ tbG := mG (mT7 143 rfl) rfl
set_option maxRecDepth 10000 in
theorem wl_M_isWorld : Cond.selects y_M_isWorld.1.cls y_M_isWorld.1 y_M_isWorld.1 ∈ tbG := mG (mP10 (q := (_, 78)) 0 rfl) rfl
abbrev y_M_is : MI := (⟨"LieOfTwoModel", "is", "(II)I"⟩, prog_12_method_61_code, 3, (some .int), none)
def t_M_is : List (Nat × Instr × Nat) := [(0, (.aload_n 0), 1), (1, (.iload_n 1), 1), (2, (.invokevirtual 452), 3), (5, (.ifCond .eq 11), 3), (8, (.aload_n 0), 1), (9, (.iload_n 2), 1), (10, (.invokevirtual 455), 3), (13, (.ifCond .ne 7), 3), (16, (.iconst (-1)), 1), (17, (.goto 21), 3), (20, (.aload_n 0), 1), (21, (.getfield 107), 3), (24, (.iload_n 1), 1), (25, (.iload_n 2), 1), (26, (.invokestatic 430), 3), (29, .baload, 1), (30, (.ifCond .eq 7), 3), (33, (.iconst 1), 1), (34, (.goto 4), 3), (37, (.iconst 0), 1), (38, .ireturn, 1)]
set_option maxRecDepth 10000 in
theorem wc_M_is : Cond.code y_M_is.1 y_M_is.2.1 y_M_is.2.2.1 y_M_is.2.2.2.1 ∈ tbG := mG (mT7 133 rfl) rfl
set_option maxRecDepth 10000 in
theorem wi_M_is : Cond.instanceMethod y_M_is.1 ∈ tbG := mG (mT7 131 rfl) rfl
set_option maxRecDepth 10000 in
theorem wl_M_is : Cond.selects y_M_is.1.cls y_M_is.1 y_M_is.1 ∈ tbG := mG (mT7 132 rfl) rfl
abbrev y_M_isPerson : MI := (⟨"LieOfTwoModel", "isPerson", "(I)Z"⟩, prog_12_method_48_code, 2, (some .boolean), none)
def t_M_isPerson : List (Nat × Instr × Nat) := [(0, (.iload_n 1), 1), (1, (.iconst 0), 1), (2, (.aload_n 0), 1), (3, (.invokevirtual 421), 3), (6, (.iconst 1), 1), (7, .isub, 1), (8, (.invokestatic 418), 3), (11, .ireturn, 1)]
set_option maxRecDepth 10000 in
theorem wc_M_isPerson : Cond.code y_M_isPerson.1 y_M_isPerson.2.1 y_M_isPerson.2.2.1 y_M_isPerson.2.2.2.1 ∈ tbG := mG (mT7 152 rfl) rfl
set_option maxRecDepth 10000 in
theorem wi_M_isPerson : Cond.instanceMethod y_M_isPerson.1 ∈ tbG := mG (mT7 151 rfl) rfl
set_option maxRecDepth 10000 in
theorem wl_M_isPerson : Cond.selects y_M_isPerson.1.cls y_M_isPerson.1 y_M_isPerson.1 ∈ tbG := mG (mP10 (q := (_, 78)) 1 rfl) rfl
abbrev y_M_answerAt : MI := (⟨"LieOfTwoModel", "answerAt", "(III)I"⟩, prog_12_method_59_code, 4, (some .int), none)
def t_M_answerAt : List (Nat × Instr × Nat) := [(0, (.aload_n 0), 1), (1, (.getfield 113), 3), (4, (.sipush 256), 3), (7, (.bipush 12), 2), (9, (.iload_n 1), 1), (10, .imul, 1), (11, (.iload_n 2), 1), (12, .iadd, 1), (13, .imul, 1), (14, (.iload_n 3), 1), (15, .iadd, 1), (16, .iaload, 1), (17, .ireturn, 1)]
set_option maxRecDepth 10000 in
theorem wc_M_answerAt : Cond.code y_M_answerAt.1 y_M_answerAt.2.1 y_M_answerAt.2.2.1 y_M_answerAt.2.2.2.1 ∈ tbG := mG (mT7 156 rfl) rfl
set_option maxRecDepth 10000 in
theorem wi_M_answerAt : Cond.instanceMethod y_M_answerAt.1 ∈ tbG := mG (mT7 155 rfl) rfl
set_option maxRecDepth 10000 in
theorem wl_M_answerAt : Cond.selects y_M_answerAt.1.cls y_M_answerAt.1 y_M_answerAt.1 ∈ tbG := mG (mP10 (q := (_, 78)) 2 rfl) rfl
abbrev y_M_answers : MI := (⟨"LieOfTwoModel", "answers", "(III)I"⟩, prog_12_method_62_code, 4, (some .int), none)
def t_M_answers : List (Nat × Instr × Nat) := [(0, (.aload_n 0), 1), (1, (.iload_n 1), 1), (2, (.invokevirtual 458), 3), (5, (.ifCond .eq 29), 3), (8, (.aload_n 0), 1), (9, (.iload_n 2), 1), (10, (.invokevirtual 452), 3), (13, (.ifCond .eq 21), 3), (16, (.aload_n 0), 1), (17, (.iload_n 3), 1), (18, (.invokevirtual 455), 3), (21, (.ifCond .eq 13), 3), (24, (.aload_n 0), 1), (25, (.iload_n 1), 1), (26, (.iload_n 2), 1), (27, (.iload_n 3), 1), (28, (.invokevirtual 461), 3), (31, (.goto 4), 3), (34, (.iconst (-1)), 1), (35, .ireturn, 1)]
set_option maxRecDepth 10000 in
theorem wc_M_answers : Cond.code y_M_answers.1 y_M_answers.2.1 y_M_answers.2.2.1 y_M_answers.2.2.2.1 ∈ tbG := mG (mT7 148 rfl) rfl
set_option maxRecDepth 10000 in
theorem wi_M_answers : Cond.instanceMethod y_M_answers.1 ∈ tbG := mG (mT7 146 rfl) rfl
set_option maxRecDepth 10000 in
theorem wl_M_answers : Cond.selects y_M_answers.1.cls y_M_answers.1 y_M_answers.1 ∈ tbG := mG (mT7 147 rfl) rfl
abbrev y_M_areSome : MI := (⟨"LieOfTwoModel", "areSome", "(I)Z"⟩, prog_12_method_63_code, 2, (some .boolean), none)
def t_M_areSome : List (Nat × Instr × Nat) := [(0, (.iload_n 1), 1), (1, (.ifCond .le 17), 3), (4, (.iload_n 1), 1), (5, (.iconst 1), 1), (6, (.aload_n 0), 1), (7, (.invokevirtual 421), 3), (10, .ishl, 1), (11, (.if_icmp .ge 7), 3), (14, (.iconst 1), 1), (15, (.goto 4), 3), (18, (.iconst 0), 1), (19, .ireturn, 1)]
set_option maxRecDepth 10000 in
theorem wc_M_areSome : Cond.code y_M_areSome.1 y_M_areSome.2.1 y_M_areSome.2.2.1 y_M_areSome.2.2.2.1 ∈ tbG := mG (mT7 164 rfl) rfl
set_option maxRecDepth 10000 in
theorem wi_M_areSome : Cond.instanceMethod y_M_areSome.1 ∈ tbG := mG (mT7 163 rfl) rfl
set_option maxRecDepth 10000 in
theorem wl_M_areSome : Cond.selects y_M_areSome.1.cls y_M_areSome.1 y_M_areSome.1 ∈ tbG := mG (mP10 (q := (_, 78)) 3 rfl) rfl
abbrev y_M_bitsOf : MI := (⟨"LieOfTwoModel", "bitsOf", "(I)I"⟩, prog_12_method_49_code, 3, (some .int), none)
def t_M_bitsOf : List (Nat × Instr × Nat) := [(0, (.iconst 0), 1), (1, (.istore_n 1), 1), (2, (.iconst 0), 1), (3, (.istore_n 2), 1), (4, (.iload_n 2), 1), (5, (.bipush 31), 2), (7, (.if_icmp .ge 17), 3), (10, (.iload_n 1), 1), (11, (.iload_n 0), 1), (12, (.iload_n 2), 1), (13, .ishr, 1), (14, (.iconst 1), 1), (15, .iand, 1), (16, .iadd, 1), (17, (.istore_n 1), 1), (18, (.iinc 2 1), 3), (21, (.goto (-17)), 3), (24, (.iload_n 1), 1), (25, .ireturn, 1)]
set_option maxRecDepth 10000 in
theorem wc_M_bitsOf : Cond.code y_M_bitsOf.1 y_M_bitsOf.2.1 y_M_bitsOf.2.2.1 y_M_bitsOf.2.2.2.1 ∈ tbG := mG (mT7 171 rfl) rfl
set_option maxRecDepth 10000 in
theorem ws_M_bitsOf : Cond.static y_M_bitsOf.1 ∈ tbG := mG (mT7 170 rfl) rfl
abbrev y_M_tiedIn : MI := (⟨"LieOfTwoModel", "tiedIn", "(I)I"⟩, prog_12_method_64_code, 3, (some .int), none)
def t_M_tiedIn : List (Nat × Instr × Nat) := [(0, (.bipush 12), 2), (2, (.aload_n 0), 1), (3, (.getfield 304), 3), (6, .imul, 1), (7, (.istore_n 2), 1), (8, (.iload_n 2), 1), (9, (.bipush 12), 2), (11, (.aload_n 0), 1), (12, (.getfield 304), 3), (15, .imul, 1), (16, (.aload_n 0), 1), (17, (.getfield 33), 3), (20, (.aload_n 0), 1), (21, (.getfield 304), 3), (24, .iaload, 1), (25, .iadd, 1), (26, (.if_icmp .ge 34), 3), (29, (.iload_n 1), 1), (30, (.aload_n 0), 1), (31, (.getfield 65), 3), (34, (.iload_n 2), 1), (35, .iaload, 1), (36, .ishr, 1), (37, (.iload_n 1), 1), (38, (.aload_n 0), 1), (39, (.getfield 68), 3), (42, (.iload_n 2), 1), (43, .iaload, 1), (44, .ishr, 1), (45, .iand, 1), (46, (.iconst 1), 1), (47, .iand, 1), (48, (.iconst 1), 1), (49, (.if_icmp .ne 5), 3), (52, (.iconst 1), 1), (53, .ireturn, 1), (54, (.iinc 2 1), 3), (57, (.goto (-49)), 3), (60, (.iconst 0), 1), (61, .ireturn, 1)]
set_option maxRecDepth 10000 in
theorem wc_M_tiedIn : Cond.code y_M_tiedIn.1 y_M_tiedIn.2.1 y_M_tiedIn.2.2.1 y_M_tiedIn.2.2.2.1 ∈ tbG := mG (mT7 179 rfl) rfl
set_option maxRecDepth 10000 in
theorem wi_M_tiedIn : Cond.instanceMethod y_M_tiedIn.1 ∈ tbG := mG (mT7 178 rfl) rfl
set_option maxRecDepth 10000 in
theorem wl_M_tiedIn : Cond.selects y_M_tiedIn.1.cls y_M_tiedIn.1 y_M_tiedIn.1 ∈ tbG := mG (mP10 (q := (_, 78)) 6 rfl) rfl
abbrev y_M_partOf : MI := (⟨"LieOfTwoModel", "partOf", "(IIZZ)I"⟩, prog_12_method_66_code, 5, (some .int), none)
def t_M_partOf : List (Nat × Instr × Nat) := [(0, (.aload_n 0), 1), (1, (.getfield 89), 3), (4, (.iload_n 1), 1), (5, .iaload, 1), (6, (.tableswitch 58 11 14 #[30, 37, 42, 52]), 30), (36, (.aload_n 0), 1), (37, (.getfield 92), 3), (40, (.iload_n 1), 1), (41, .iaload, 1), (42, .ireturn, 1), (43, (.iload_n 2), 1), (44, (.invokestatic 464), 3), (47, .ireturn, 1), (48, (.iload_n 3), 1), (49, (.ifCond .eq 7), 3), (52, (.iconst 1), 1), (53, (.goto 4), 3), (56, (.iconst 0), 1), (57, .ireturn, 1), (58, (.aload_n 0), 1), (59, (.iload_n 2), 1), (60, (.invokevirtual 467), 3), (63, .ireturn, 1), (64, (.iload 4), 2), (66, (.ifCond .eq 7), 3), (69, (.iconst 0), 1), (70, (.goto 4), 3), (73, (.iconst 1), 1), (74, .ireturn, 1)]
set_option maxRecDepth 10000 in
theorem wc_M_partOf : Cond.code y_M_partOf.1 y_M_partOf.2.1 y_M_partOf.2.2.1 y_M_partOf.2.2.2.1 ∈ tbG := mG (mT7 175 rfl) rfl
set_option maxRecDepth 10000 in
theorem wi_M_partOf : Cond.instanceMethod y_M_partOf.1 ∈ tbG := mG (mT7 174 rfl) rfl
set_option maxRecDepth 10000 in
theorem wl_M_partOf : Cond.selects y_M_partOf.1.cls y_M_partOf.1 y_M_partOf.1 ∈ tbG := mG (mP10 (q := (_, 78)) 5 rfl) rfl
abbrev y_M_two : MI := (⟨"LieOfTwoModel", "two", "(III)I"⟩, prog_12_method_65_code, 3, (some .int), none)
def t_M_two : List (Nat × Instr × Nat) := [(0, (.iload_n 0), 1), (1, (.lookupswitch 95 #[(7, 51), (43, 65), (45, 69), (60, 73), (62, 84)]), 51), (52, (.iload_n 1), 1), (53, (.ifCond .ne 7), 3), (56, (.iload_n 2), 1), (57, (.ifCond .eq 7), 3), (60, (.iconst 1), 1), (61, (.goto 4), 3), (64, (.iconst 0), 1), (65, .ireturn, 1), (66, (.iload_n 1), 1), (67, (.iload_n 2), 1), (68, .iadd, 1), (69, .ireturn, 1), (70, (.iload_n 1), 1), (71, (.iload_n 2), 1), (72, .isub, 1), (73, .ireturn, 1), (74, (.iload_n 1), 1), (75, (.iload_n 2), 1), (76, (.if_icmp .ge 7), 3), (79, (.iconst 1), 1), (80, (.goto 4), 3), (83, (.iconst 0), 1), (84, .ireturn, 1), (85, (.iload_n 1), 1), (86, (.iload_n 2), 1), (87, (.if_icmp .le 7), 3), (90, (.iconst 1), 1), (91, (.goto 4), 3), (94, (.iconst 0), 1), (95, .ireturn, 1), (96, (.iload_n 1), 1), (97, (.iload_n 2), 1), (98, (.if_icmp .ne 7), 3), (101, (.iconst 1), 1), (102, (.goto 4), 3), (105, (.iconst 0), 1), (106, .ireturn, 1)]
set_option maxRecDepth 10000 in
theorem wc_M_two : Cond.code y_M_two.1 y_M_two.2.1 y_M_two.2.2.1 y_M_two.2.2.2.1 ∈ tbG := mG (mT7 182 rfl) rfl
set_option maxRecDepth 10000 in
theorem ws_M_two : Cond.static y_M_two.1 ∈ tbG := mG (mT7 181 rfl) rfl
abbrev y_M_mayLie : MI := (⟨"LieOfTwoModel", "mayLie", "(IZZ)Z"⟩, prog_12_method_67_code, 7, (some .boolean), none)
def t_M_mayLie : List (Nat × Instr × Nat) := [(0, (.aload_n 0), 1), (1, (.getfield 42), 3), (4, (.aload_n 0), 1), (5, (.getfield 304), 3), (8, .baload, 1), (9, (.ifCond .ne 17), 3), (12, (.iload_n 1), 1), (13, (.invokestatic 464), 3), (16, (.iconst 1), 1), (17, (.if_icmp .le 7), 3), (20, (.iconst 1), 1), (21, (.goto 4), 3), (24, (.iconst 0), 1), (25, .ireturn, 1), (26, (.bipush 17), 2), (28, (.aload_n 0), 1), (29, (.getfield 304), 3), (32, .imul, 1), (33, (.bipush 16), 2), (35, .iadd, 1), (36, (.istore 4), 2), (38, (.iconst 0), 1), (39, (.istore 5), 2), (41, (.aload_n 0), 1), (42, (.getfield 83), 3), (45, (.iload 4), 2), (47, .iaload, 1), (48, (.istore 6), 2), (50, (.iload 6), 2), (52, (.aload_n 0), 1), (53, (.getfield 86), 3), (56, (.iload 4), 2), (58, .iaload, 1), (59, (.if_icmp .ge 86), 3), (62, (.aload_n 0), 1), (63, (.getfield 89), 3), (66, (.iload 6), 2), (68, .iaload, 1), (69, (.bipush 11), 2), (71, (.bipush 15), 2), (73, (.invokestatic 418), 3), (76, (.ifCond .eq 25), 3), (79, (.aload_n 0), 1), (80, (.getfield 116), 3), (83, (.iload 5), 2), (85, (.aload_n 0), 1), (86, (.iload 6), 2), (88, (.iload_n 1), 1), (89, (.iload_n 2), 1), (90, (.iload_n 3), 1), (91, (.invokevirtual 470), 3), (94, .iastore, 1), (95, (.iinc 5 1), 3), (98, (.goto 41), 3), (101, (.iinc 5 (-1)), 3), (104, (.aload_n 0), 1), (105, (.getfield 116), 3), (108, (.iload 5), 2), (110, (.iconst 1), 1), (111, .isub, 1), (112, (.aload_n 0), 1), (113, (.getfield 89), 3), (116, (.iload 6), 2), (118, .iaload, 1), (119, (.aload_n 0), 1), (120, (.getfield 116), 3), (123, (.iload 5), 2), (125, (.iconst 1), 1), (126, .isub, 1), (127, .iaload, 1), (128, (.aload_n 0), 1), (129, (.getfield 116), 3), (132, (.iload 5), 2), (134, .iaload, 1), (135, (.invokestatic 474), 3), (138, .iastore, 1), (139, (.iinc 6 1), 3), (142, (.goto (-92)), 3), (145, (.aload_n 0), 1), (146, (.getfield 116), 3), (149, (.iconst 0), 1), (150, .iaload, 1), (151, (.ifCond .eq 7), 3), (154, (.iconst 1), 1), (155, (.goto 4), 3), (158, (.iconst 0), 1), (159, .ireturn, 1)]
set_option maxRecDepth 10000 in
theorem wc_M_mayLie : Cond.code y_M_mayLie.1 y_M_mayLie.2.1 y_M_mayLie.2.2.1 y_M_mayLie.2.2.2.1 ∈ tbG := mG (mT7 168 rfl) rfl
set_option maxRecDepth 10000 in
theorem wi_M_mayLie : Cond.instanceMethod y_M_mayLie.1 ∈ tbG := mG (mT7 167 rfl) rfl
set_option maxRecDepth 10000 in
theorem wl_M_mayLie : Cond.selects y_M_mayLie.1.cls y_M_mayLie.1 y_M_mayLie.1 ∈ tbG := mG (mP10 (q := (_, 78)) 4 rfl) rfl
abbrev y_M_lies : MI := (⟨"LieOfTwoModel", "lies", "(IZZ)I"⟩, prog_12_method_69_code, 4, (some .int), none)
def t_M_lies : List (Nat × Instr × Nat) := [(0, (.aload_n 0), 1), (1, (.iload_n 1), 1), (2, (.invokevirtual 481), 3), (5, (.ifCond .ne 7), 3), (8, (.iconst (-1)), 1), (9, (.goto 18), 3), (12, (.aload_n 0), 1), (13, (.iload_n 1), 1), (14, (.iload_n 2), 1), (15, (.iload_n 3), 1), (16, (.invokevirtual 477), 3), (19, (.ifCond .eq 7), 3), (22, (.iconst 1), 1), (23, (.goto 4), 3), (26, (.iconst 0), 1), (27, .ireturn, 1)]
set_option maxRecDepth 10000 in
theorem wc_M_lies : Cond.code y_M_lies.1 y_M_lies.2.1 y_M_lies.2.2.1 y_M_lies.2.2.2.1 ∈ tbG := mG (mT7 160 rfl) rfl
set_option maxRecDepth 10000 in
theorem wi_M_lies : Cond.instanceMethod y_M_lies.1 ∈ tbG := mG (mT7 158 rfl) rfl
set_option maxRecDepth 10000 in
theorem wl_M_lies : Cond.selects y_M_lies.1.cls y_M_lies.1 y_M_lies.1 ∈ tbG := mG (mT7 159 rfl) rfl
abbrev y_M_canSay : MI := (⟨"LieOfTwoModel", "canSay", "(IIZZI)Z"⟩, prog_12_method_68_code, 7, (some .boolean), none)
def t_M_canSay : List (Nat × Instr × Nat) := [(0, (.aload_n 0), 1), (1, (.iload_n 1), 1), (2, (.iload_n 3), 1), (3, (.iload 4), 2), (5, (.invokevirtual 477), 3), (8, (.ifCond .eq 5), 3), (11, (.iconst 1), 1), (12, .ireturn, 1), (13, (.iconst 0), 1), (14, (.istore 6), 2), (16, (.iload 6), 2), (18, (.aload_n 0), 1), (19, (.invokevirtual 421), 3), (22, (.if_icmp .ge 54), 3), (25, (.iload_n 1), 1), (26, (.iload 6), 2), (28, .ishr, 1), (29, (.iconst 1), 1), (30, .iand, 1), (31, (.iconst 1), 1), (32, (.if_icmp .ne 38), 3), (35, (.iload 4), 2), (37, (.ifCond .eq 19), 3), (40, (.aload_n 0), 1), (41, (.iload 6), 2), (43, (.iload_n 2), 1), (44, (.iload 5), 2), (46, (.invokevirtual 461), 3), (49, (.iconst 1), 1), (50, (.if_icmp .eq 20), 3), (53, (.goto 15), 3), (56, (.aload_n 0), 1), (57, (.iload 6), 2), (59, (.iload_n 2), 1), (60, (.iload 5), 2), (62, (.invokevirtual 461), 3), (65, (.ifCond .ne 5), 3), (68, (.iconst 0), 1), (69, .ireturn, 1), (70, (.iinc 6 1), 3), (73, (.goto (-57)), 3), (76, (.iconst 1), 1), (77, .ireturn, 1)]
set_option maxRecDepth 10000 in
theorem wc_M_canSay : Cond.code y_M_canSay.1 y_M_canSay.2.1 y_M_canSay.2.2.1 y_M_canSay.2.2.2.1 ∈ tbG := mG (mT7 190 rfl) rfl
set_option maxRecDepth 10000 in
theorem wi_M_canSay : Cond.instanceMethod y_M_canSay.1 ∈ tbG := mG (mT7 189 rfl) rfl
set_option maxRecDepth 10000 in
theorem wl_M_canSay : Cond.selects y_M_canSay.1.cls y_M_canSay.1 y_M_canSay.1 ∈ tbG := mG (mP10 (q := (_, 78)) 7 rfl) rfl
abbrev y_M_may : MI := (⟨"LieOfTwoModel", "may", "(IIZZI)I"⟩, prog_12_method_70_code, 6, (some .int), none)
def t_M_may : List (Nat × Instr × Nat) := [(0, (.aload_n 0), 1), (1, (.iload_n 1), 1), (2, (.invokevirtual 481), 3), (5, (.ifCond .eq 20), 3), (8, (.aload_n 0), 1), (9, (.iload_n 2), 1), (10, (.invokevirtual 452), 3), (13, (.ifCond .eq 12), 3), (16, (.aload_n 0), 1), (17, (.iload 5), 2), (19, (.invokevirtual 455), 3), (22, (.ifCond .ne 7), 3), (25, (.iconst (-1)), 1), (26, (.goto 22), 3), (29, (.aload_n 0), 1), (30, (.iload_n 1), 1), (31, (.iload_n 2), 1), (32, (.iload_n 3), 1), (33, (.iload 4), 2), (35, (.iload 5), 2), (37, (.invokevirtual 484), 3), (40, (.ifCond .eq 7), 3), (43, (.iconst 1), 1), (44, (.goto 4), 3), (47, (.iconst 0), 1), (48, .ireturn, 1)]
set_option maxRecDepth 10000 in
theorem wc_M_may : Cond.code y_M_may.1 y_M_may.2.1 y_M_may.2.2.1 y_M_may.2.2.2.1 ∈ tbG := mG (mT7 186 rfl) rfl
set_option maxRecDepth 10000 in
theorem wi_M_may : Cond.instanceMethod y_M_may.1 ∈ tbG := mG (mT7 184 rfl) rfl
set_option maxRecDepth 10000 in
theorem wl_M_may : Cond.selects y_M_may.1.cls y_M_may.1 y_M_may.1 ∈ tbG := mG (mT7 185 rfl) rfl
abbrev y_M_say : MI := (⟨"LieOfTwoModel", "say", "(IIZZ)I"⟩, prog_12_method_71_code, 5, (some .int), none)
def t_M_say : List (Nat × Instr × Nat) := [(0, (.aload_n 0), 1), (1, (.iload_n 1), 1), (2, (.invokevirtual 481), 3), (5, (.ifCond .eq 20), 3), (8, (.aload_n 0), 1), (9, (.iload_n 2), 1), (10, (.invokevirtual 452), 3), (13, (.ifCond .eq 12), 3), (16, (.aload_n 0), 1), (17, (.getfield 310), 3), (20, (.bipush 40), 2), (22, (.if_icmp .ne 5), 3), (25, (.iconst (-1)), 1), (26, .ireturn, 1), (27, (.aload_n 0), 1), (28, (.getfield 119), 3), (31, (.aload_n 0), 1), (32, (.getfield 310), 3), (35, (.iload_n 1), 1), (36, .iastore, 1), (37, (.aload_n 0), 1), (38, (.getfield 122), 3), (41, (.aload_n 0), 1), (42, (.getfield 310), 3), (45, (.iload_n 2), 1), (46, .iastore, 1), (47, (.aload_n 0), 1), (48, (.getfield 131), 3), (51, (.aload_n 0), 1), (52, (.getfield 310), 3), (55, (.iload_n 3), 1), (56, .bastore, 1), (57, (.aload_n 0), 1), (58, (.getfield 134), 3), (61, (.aload_n 0), 1), (62, (.getfield 310), 3), (65, (.iload 4), 2), (67, .bastore, 1), (68, (.aload_n 0), 1), (69, (.getfield 125), 3), (72, (.aload_n 0), 1), (73, (.getfield 310), 3), (76, (.aload_n 0), 1), (77, (.getfield 488), 3), (80, .iastore, 1), (81, (.aload_n 0), 1), (82, (.getfield 128), 3), (85, (.aload_n 0), 1), (86, (.getfield 310), 3), (89, (.iconst (-1)), 1), (90, .iastore, 1), (91, (.aload_n 0), 1), (92, .dup, 1), (93, (.getfield 310), 3), (96, (.iconst 1), 1), (97, .iadd, 1), (98, (.putfield 310), 3), (101, (.aload_n 0), 1), (102, (.getfield 310), 3), (105, (.iconst 1), 1), (106, .isub, 1), (107, .ireturn, 1)]
set_option maxRecDepth 10000 in
theorem wc_M_say : Cond.code y_M_say.1 y_M_say.2.1 y_M_say.2.2.1 y_M_say.2.2.2.1 ∈ tbG := mG (mT7 194 rfl) rfl
set_option maxRecDepth 10000 in
theorem wi_M_say : Cond.instanceMethod y_M_say.1 ∈ tbG := mG (mT7 192 rfl) rfl
set_option maxRecDepth 10000 in
theorem wl_M_say : Cond.selects y_M_say.1.cls y_M_say.1 y_M_say.1 ∈ tbG := mG (mT7 193 rfl) rfl
abbrev y_M_untell : MI := (⟨"LieOfTwoModel", "untell", "(I)Z"⟩, prog_12_method_72_code, 2, (some .boolean), none)
def t_M_untell : List (Nat × Instr × Nat) := [(0, (.iload_n 1), 1), (1, (.iconst 0), 1), (2, (.aload_n 0), 1), (3, (.getfield 310), 3), (6, (.iconst 1), 1), (7, .isub, 1), (8, (.invokestatic 418), 3), (11, (.ifCond .eq 12), 3), (14, (.aload_n 0), 1), (15, (.getfield 128), 3), (18, (.iload_n 1), 1), (19, .iaload, 1), (20, (.ifCond .lt 5), 3), (23, (.iconst 0), 1), (24, .ireturn, 1), (25, (.aload_n 0), 1), (26, (.getfield 128), 3), (29, (.iload_n 1), 1), (30, (.aload_n 0), 1), (31, (.getfield 488), 3), (34, .iastore, 1), (35, (.iconst 1), 1), (36, .ireturn, 1)]
set_option maxRecDepth 10000 in
theorem wc_M_untell : Cond.code y_M_untell.1 y_M_untell.2.1 y_M_untell.2.2.1 y_M_untell.2.2.2.1 ∈ tbG := mG (mT7 198 rfl) rfl
set_option maxRecDepth 10000 in
theorem wi_M_untell : Cond.instanceMethod y_M_untell.1 ∈ tbG := mG (mT7 196 rfl) rfl
set_option maxRecDepth 10000 in
theorem wl_M_untell : Cond.selects y_M_untell.1.cls y_M_untell.1 y_M_untell.1 ∈ tbG := mG (mT7 197 rfl) rfl
abbrev y_M_later : MI := (⟨"LieOfTwoModel", "later", "(I)I"⟩, prog_12_method_73_code, 2, (some .int), none)
def t_M_later : List (Nat × Instr × Nat) := [(0, (.iload_n 1), 1), (1, (.iconst 0), 1), (2, (.sipush 1000), 3), (5, (.invokestatic 418), 3), (8, (.ifCond .eq 15), 3), (11, (.aload_n 0), 1), (12, (.getfield 488), 3), (15, (.iload_n 1), 1), (16, .iadd, 1), (17, (.ldc_w 491), 3), (20, (.if_icmp .le 5), 3), (23, (.iconst (-1)), 1), (24, .ireturn, 1), (25, (.aload_n 0), 1), (26, .dup, 1), (27, (.getfield 488), 3), (30, (.iload_n 1), 1), (31, .iadd, 1), (32, (.putfield 488), 3), (35, (.aload_n 0), 1), (36, (.getfield 488), 3), (39, .ireturn, 1)]
set_option maxRecDepth 10000 in
theorem wc_M_later : Cond.code y_M_later.1 y_M_later.2.1 y_M_later.2.2.1 y_M_later.2.2.2.1 ∈ tbG := mG (mT7 202 rfl) rfl
set_option maxRecDepth 10000 in
theorem wi_M_later : Cond.instanceMethod y_M_later.1 ∈ tbG := mG (mT7 200 rfl) rfl
set_option maxRecDepth 10000 in
theorem wl_M_later : Cond.selects y_M_later.1.cls y_M_later.1 y_M_later.1 ∈ tbG := mG (mT7 201 rfl) rfl
abbrev y_M_counts : MI := (⟨"LieOfTwoModel", "counts", "(II)Z"⟩, prog_12_method_74_code, 3, (some .boolean), none)
def t_M_counts : List (Nat × Instr × Nat) := [(0, (.aload_n 0), 1), (1, (.getfield 125), 3), (4, (.iload_n 1), 1), (5, .iaload, 1), (6, (.iload_n 2), 1), (7, (.if_icmp .gt 26), 3), (10, (.aload_n 0), 1), (11, (.getfield 128), 3), (14, (.iload_n 1), 1), (15, .iaload, 1), (16, (.ifCond .lt 13), 3), (19, (.aload_n 0), 1), (20, (.getfield 128), 3), (23, (.iload_n 1), 1), (24, .iaload, 1), (25, (.iload_n 2), 1), (26, (.if_icmp .le 7), 3), (29, (.iconst 1), 1), (30, (.goto 4), 3), (33, (.iconst 0), 1), (34, .ireturn, 1)]
set_option maxRecDepth 10000 in
theorem wc_M_counts : Cond.code y_M_counts.1 y_M_counts.2.1 y_M_counts.2.2.1 y_M_counts.2.2.2.1 ∈ tbG := mG (mT7 215 rfl) rfl
set_option maxRecDepth 10000 in
theorem wi_M_counts : Cond.instanceMethod y_M_counts.1 ∈ tbG := mG (mT7 214 rfl) rfl
set_option maxRecDepth 10000 in
theorem wl_M_counts : Cond.selects y_M_counts.1.cls y_M_counts.1 y_M_counts.1 ∈ tbG := mG (mP10 (q := (_, 78)) 9 rfl) rfl
abbrev y_M_canBe : MI := (⟨"LieOfTwoModel", "canBe", "(II)Z"⟩, prog_12_method_75_code, 3, (some .boolean), none)
def t_M_canBe : List (Nat × Instr × Nat) := [(0, (.aload_n 0), 1), (1, (.aload_n 0), 1), (2, (.getfield 119), 3), (5, (.iload_n 1), 1), (6, .iaload, 1), (7, (.aload_n 0), 1), (8, (.getfield 122), 3), (11, (.iload_n 1), 1), (12, .iaload, 1), (13, (.aload_n 0), 1), (14, (.getfield 131), 3), (17, (.iload_n 1), 1), (18, .baload, 1), (19, (.aload_n 0), 1), (20, (.getfield 134), 3), (23, (.iload_n 1), 1), (24, .baload, 1), (25, (.iload_n 2), 1), (26, (.invokevirtual 484), 3), (29, .ireturn, 1)]
set_option maxRecDepth 10000 in
theorem wc_M_canBe : Cond.code y_M_canBe.1 y_M_canBe.2.1 y_M_canBe.2.2.1 y_M_canBe.2.2.2.1 ∈ tbG := mG (mT7 219 rfl) rfl
set_option maxRecDepth 10000 in
theorem wi_M_canBe : Cond.instanceMethod y_M_canBe.1 ∈ tbG := mG (mT7 218 rfl) rfl
set_option maxRecDepth 10000 in
theorem wl_M_canBe : Cond.selects y_M_canBe.1.cls y_M_canBe.1 y_M_canBe.1 ∈ tbG := mG (mP10 (q := (_, 78)) 10 rfl) rfl
abbrev y_M_findLeft : MI := (⟨"LieOfTwoModel", "findLeft", "(I)V"⟩, prog_12_method_76_code, 5, none, none)
def t_M_findLeft : List (Nat × Instr × Nat) := [(0, (.aload_n 0), 1), (1, (.iconst 0), 1), (2, (.putfield 492), 3), (5, (.iconst 0), 1), (6, (.istore_n 2), 1), (7, (.iload_n 2), 1), (8, (.aload_n 0), 1), (9, (.invokevirtual 427), 3), (12, (.if_icmp .ge 89), 3), (15, (.aload_n 0), 1), (16, (.getfield 104), 3), (19, (.iload_n 2), 1), (20, .baload, 1), (21, (.istore_n 3), 1), (22, (.iconst 0), 1), (23, (.istore 4), 2), (25, (.iload 4), 2), (27, (.aload_n 0), 1), (28, (.getfield 310), 3), (31, (.if_icmp .ge 39), 3), (34, (.iload_n 3), 1), (35, (.ifCond .eq 35), 3), (38, (.aload_n 0), 1), (39, (.iload 4), 2), (41, (.iload_n 1), 1), (42, (.invokevirtual 495), 3), (45, (.ifCond .eq 13), 3), (48, (.aload_n 0), 1), (49, (.iload 4), 2), (51, (.iload_n 2), 1), (52, (.invokevirtual 499), 3), (55, (.ifCond .eq 7), 3), (58, (.iconst 1), 1), (59, (.goto 4), 3), (62, (.iconst 0), 1), (63, (.istore_n 3), 1), (64, (.iinc 4 1), 3), (67, (.goto (-42)), 3), (70, (.aload_n 0), 1), (71, (.getfield 137), 3), (74, (.iload_n 2), 1), (75, (.iload_n 3), 1), (76, .bastore, 1), (77, (.aload_n 0), 1), (78, .dup, 1), (79, (.getfield 492), 3), (82, (.iload_n 3), 1), (83, (.ifCond .eq 7), 3), (86, (.iconst 1), 1), (87, (.goto 4), 3), (90, (.iconst 0), 1), (91, .iadd, 1), (92, (.putfield 492), 3), (95, (.iinc 2 1), 3), (98, (.goto (-91)), 3), (101, .return_, 1)]
set_option maxRecDepth 10000 in
theorem wc_M_findLeft : Cond.code y_M_findLeft.1 y_M_findLeft.2.1 y_M_findLeft.2.2.1 y_M_findLeft.2.2.2.1 ∈ tbG := mG (mT7 211 rfl) rfl
set_option maxRecDepth 10000 in
theorem wi_M_findLeft : Cond.instanceMethod y_M_findLeft.1 ∈ tbG := mG (mT7 210 rfl) rfl
set_option maxRecDepth 10000 in
theorem wl_M_findLeft : Cond.selects y_M_findLeft.1.cls y_M_findLeft.1 y_M_findLeft.1 ∈ tbG := mG (mP10 (q := (_, 78)) 8 rfl) rfl
abbrev y_M_left : MI := (⟨"LieOfTwoModel", "left", "(I)I"⟩, prog_12_method_77_code, 2, (some .int), none)
def t_M_left : List (Nat × Instr × Nat) := [(0, (.aload_n 0), 1), (1, (.iload_n 1), 1), (2, (.invokevirtual 502), 3), (5, (.aload_n 0), 1), (6, (.getfield 492), 3), (9, .ireturn, 1)]
set_option maxRecDepth 10000 in
theorem wc_M_left : Cond.code y_M_left.1 y_M_left.2.1 y_M_left.2.2.1 y_M_left.2.2.2.1 ∈ tbG := mG (mT7 207 rfl) rfl
set_option maxRecDepth 10000 in
theorem wi_M_left : Cond.instanceMethod y_M_left.1 ∈ tbG := mG (mT7 205 rfl) rfl
set_option maxRecDepth 10000 in
theorem wl_M_left : Cond.selects y_M_left.1.cls y_M_left.1 y_M_left.1 ∈ tbG := mG (mT7 206 rfl) rfl
abbrev y_M_world : MI := (⟨"LieOfTwoModel", "world", "(II)I"⟩, prog_12_method_78_code, 5, (some .int), none)
def t_M_world : List (Nat × Instr × Nat) := [(0, (.aload_n 0), 1), (1, (.iload_n 2), 1), (2, (.invokevirtual 502), 3), (5, (.iload_n 1), 1), (6, (.istore_n 3), 1), (7, (.iconst 0), 1), (8, (.istore 4), 2), (10, (.iload 4), 2), (12, (.aload_n 0), 1), (13, (.invokevirtual 427), 3), (16, (.if_icmp .ge 36), 3), (19, (.iload_n 3), 1), (20, (.ifCond .lt 32), 3), (23, (.aload_n 0), 1), (24, (.getfield 137), 3), (27, (.iload 4), 2), (29, .baload, 1), (30, (.ifCond .ne 6), 3), (33, (.goto 13), 3), (36, (.iload_n 3), 1), (37, (.ifCond .ne 6), 3), (40, (.iload 4), 2), (42, .ireturn, 1), (43, (.iinc 3 (-1)), 3), (46, (.iinc 4 1), 3), (49, (.goto (-39)), 3), (52, (.iconst (-1)), 1), (53, .ireturn, 1)]
set_option maxRecDepth 10000 in
theorem wc_M_world : Cond.code y_M_world.1 y_M_world.2.1 y_M_world.2.2.1 y_M_world.2.2.2.1 ∈ tbG := mG (mT7 223 rfl) rfl
set_option maxRecDepth 10000 in
theorem wi_M_world : Cond.instanceMethod y_M_world.1 ∈ tbG := mG (mT7 221 rfl) rfl
set_option maxRecDepth 10000 in
theorem wl_M_world : Cond.selects y_M_world.1.cls y_M_world.1 y_M_world.1 ∈ tbG := mG (mT7 222 rfl) rfl
abbrev y_M_soMany : MI := (⟨"LieOfTwoModel", "soMany", "(I)I"⟩, prog_12_method_79_code, 4, (some .int), none)
def t_M_soMany : List (Nat × Instr × Nat) := [(0, (.iconst 0), 1), (1, (.istore_n 2), 1), (2, (.iconst 0), 1), (3, (.istore_n 3), 1), (4, (.iload_n 3), 1), (5, (.aload_n 0), 1), (6, (.invokevirtual 427), 3), (9, (.if_icmp .ge 39), 3), (12, (.iload_n 2), 1), (13, (.aload_n 0), 1), (14, (.getfield 137), 3), (17, (.iload_n 3), 1), (18, .baload, 1), (19, (.ifCond .eq 20), 3), (22, (.aload_n 0), 1), (23, (.getfield 107), 3), (26, (.iload_n 1), 1), (27, (.iload_n 3), 1), (28, (.invokestatic 430), 3), (31, .baload, 1), (32, (.ifCond .eq 7), 3), (35, (.iconst 1), 1), (36, (.goto 4), 3), (39, (.iconst 0), 1), (40, .iadd, 1), (41, (.istore_n 2), 1), (42, (.iinc 3 1), 3), (45, (.goto (-41)), 3), (48, (.iload_n 2), 1), (49, .ireturn, 1)]
set_option maxRecDepth 10000 in
theorem wc_M_soMany : Cond.code y_M_soMany.1 y_M_soMany.2.1 y_M_soMany.2.2.1 y_M_soMany.2.2.2.1 ∈ tbG := mG (mT7 231 rfl) rfl
set_option maxRecDepth 10000 in
theorem wi_M_soMany : Cond.instanceMethod y_M_soMany.1 ∈ tbG := mG (mT7 230 rfl) rfl
set_option maxRecDepth 10000 in
theorem wl_M_soMany : Cond.selects y_M_soMany.1.cls y_M_soMany.1 y_M_soMany.1 ∈ tbG := mG (mP10 (q := (_, 78)) 11 rfl) rfl
abbrev y_M_sure : MI := (⟨"LieOfTwoModel", "sure", "(II)I"⟩, prog_12_method_80_code, 4, (some .int), none)
def t_M_sure : List (Nat × Instr × Nat) := [(0, (.aload_n 0), 1), (1, (.iload_n 1), 1), (2, (.invokevirtual 452), 3), (5, (.ifCond .ne 5), 3), (8, (.iconst (-1)), 1), (9, .ireturn, 1), (10, (.aload_n 0), 1), (11, (.iload_n 2), 1), (12, (.invokevirtual 502), 3), (15, (.aload_n 0), 1), (16, (.iload_n 1), 1), (17, (.invokevirtual 505), 3), (20, (.istore_n 3), 1), (21, (.aload_n 0), 1), (22, (.getfield 492), 3), (25, (.ifCond .ne 7), 3), (28, (.iconst (-1)), 1), (29, (.goto 25), 3), (32, (.iload_n 3), 1), (33, (.aload_n 0), 1), (34, (.getfield 492), 3), (37, (.if_icmp .ne 7), 3), (40, (.iconst 1), 1), (41, (.goto 13), 3), (44, (.iload_n 3), 1), (45, (.ifCond .ne 7), 3), (48, (.iconst 0), 1), (49, (.goto 5), 3), (52, (.bipush (-2)), 2), (54, .ireturn, 1)]
set_option maxRecDepth 10000 in
theorem wc_M_sure : Cond.code y_M_sure.1 y_M_sure.2.1 y_M_sure.2.2.1 y_M_sure.2.2.2.1 ∈ tbG := mG (mT7 227 rfl) rfl
set_option maxRecDepth 10000 in
theorem wi_M_sure : Cond.instanceMethod y_M_sure.1 ∈ tbG := mG (mT7 225 rfl) rfl
set_option maxRecDepth 10000 in
theorem wl_M_sure : Cond.selects y_M_sure.1.cls y_M_sure.1 y_M_sure.1 ∈ tbG := mG (mT7 226 rfl) rfl
abbrev y_M_isProved : MI := (⟨"LieOfTwoModel", "isProved", "(III)Z"⟩, prog_12_method_81_code, 7, (some .boolean), none)
def t_M_isProved : List (Nat × Instr × Nat) := [(0, (.iconst 0), 1), (1, (.istore 4), 2), (3, (.iload 4), 2), (5, (.aload_n 0), 1), (6, (.invokevirtual 427), 3), (9, (.if_icmp .ge 98), 3), (12, (.aload_n 0), 1), (13, (.getfield 104), 3), (16, (.iload 4), 2), (18, .baload, 1), (19, (.ifCond .eq 21), 3), (22, (.aload_n 0), 1), (23, (.getfield 107), 3), (26, (.iload_n 1), 1), (27, (.iload 4), 2), (29, (.invokestatic 430), 3), (32, .baload, 1), (33, (.ifCond .ne 7), 3), (36, (.iconst 1), 1), (37, (.goto 4), 3), (40, (.iconst 0), 1), (41, (.istore 5), 2), (43, (.iconst 0), 1), (44, (.istore 6), 2), (46, (.iload 6), 2), (48, (.iload_n 3), 1), (49, (.if_icmp .ge 45), 3), (52, (.iload 5), 2), (54, (.ifCond .eq 40), 3), (57, (.iload_n 2), 1), (58, (.iload 6), 2), (60, .ishr, 1), (61, (.iconst 1), 1), (62, .iand, 1), (63, (.ifCond .eq 18), 3), (66, (.aload_n 0), 1), (67, (.getfield 143), 3), (70, (.iload 6), 2), (72, (.iload 4), 2), (74, (.invokestatic 430), 3), (77, .baload, 1), (78, (.ifCond .eq 7), 3), (81, (.iconst 1), 1), (82, (.goto 4), 3), (85, (.iconst 0), 1), (86, (.istore 5), 2), (88, (.iinc 6 1), 3), (91, (.goto (-45)), 3), (94, (.iload 5), 2), (96, (.ifCond .eq 5), 3), (99, (.iconst 0), 1), (100, .ireturn, 1), (101, (.iinc 4 1), 3), (104, (.goto (-101)), 3), (107, (.iconst 1), 1), (108, .ireturn, 1)]
set_option maxRecDepth 10000 in
theorem wc_M_isProved : Cond.code y_M_isProved.1 y_M_isProved.2.1 y_M_isProved.2.2.1 y_M_isProved.2.2.2.1 ∈ tbG := mG (mT8 0 rfl) rfl
set_option maxRecDepth 10000 in
theorem wi_M_isProved : Cond.instanceMethod y_M_isProved.1 ∈ tbG := mG (mT7 239 rfl) rfl
set_option maxRecDepth 10000 in
theorem wl_M_isProved : Cond.selects y_M_isProved.1.cls y_M_isProved.1 y_M_isProved.1 ∈ tbG := mG (mP10 (q := (_, 78)) 12 rfl) rfl
abbrev y_M_proof : MI := (⟨"LieOfTwoModel", "proof", "(II)I"⟩, prog_12_method_82_code, 6, (some .int), none)
def t_M_proof : List (Nat × Instr × Nat) := [(0, (.aload_n 0), 1), (1, (.iload_n 1), 1), (2, (.iload_n 2), 1), (3, (.invokevirtual 508), 3), (6, (.iconst 1), 1), (7, (.if_icmp .eq 5), 3), (10, (.iconst (-1)), 1), (11, .ireturn, 1), (12, (.iconst 0), 1), (13, (.istore_n 3), 1), (14, (.iconst 0), 1), (15, (.istore 4), 2), (17, (.iload 4), 2), (19, (.aload_n 0), 1), (20, (.getfield 310), 3), (23, (.if_icmp .ge 33), 3), (26, (.aload_n 0), 1), (27, (.iload 4), 2), (29, (.iload_n 2), 1), (30, (.invokevirtual 495), 3), (33, (.ifCond .ne 6), 3), (36, (.goto 14), 3), (39, (.aload_n 0), 1), (40, (.getfield 140), 3), (43, (.iload_n 3), 1), (44, (.iload 4), 2), (46, .iastore, 1), (47, (.iinc 3 1), 3), (50, (.iinc 4 1), 3), (53, (.goto (-36)), 3), (56, (.iload_n 3), 1), (57, (.bipush 10), 2), (59, (.if_icmp .le 6), 3), (62, (.bipush (-2)), 2), (64, .ireturn, 1), (65, (.iconst 0), 1), (66, (.istore 4), 2), (68, (.iload 4), 2), (70, (.iload_n 3), 1), (71, (.if_icmp .ge 70), 3), (74, (.iconst 0), 1), (75, (.istore 5), 2), (77, (.iload 5), 2), (79, (.aload_n 0), 1), (80, (.invokevirtual 427), 3), (83, (.if_icmp .ge 52), 3), (86, (.aload_n 0), 1), (87, (.getfield 143), 3), (90, (.iload 4), 2), (92, (.iload 5), 2), (94, (.invokestatic 430), 3), (97, (.aload_n 0), 1), (98, (.getfield 104), 3), (101, (.iload 5), 2), (103, .baload, 1), (104, (.ifCond .eq 23), 3), (107, (.aload_n 0), 1), (108, (.aload_n 0), 1), (109, (.getfield 140), 3), (112, (.iload 4), 2), (114, .iaload, 1), (115, (.iload 5), 2), (117, (.invokevirtual 499), 3), (120, (.ifCond .eq 7), 3), (123, (.iconst 1), 1), (124, (.goto 4), 3), (127, (.iconst 0), 1), (128, .bastore, 1), (129, (.iinc 5 1), 3), (132, (.goto (-55)), 3), (135, (.iinc 4 1), 3), (138, (.goto (-70)), 3), (141, (.iconst (-1)), 1), (142, (.istore 4), 2), (144, (.iconst 0), 1), (145, (.istore 5), 2), (147, (.iload 5), 2), (149, (.iconst 1), 1), (150, (.iload_n 3), 1), (151, .ishl, 1), (152, (.if_icmp .ge 42), 3), (155, (.iload 4), 2), (157, (.ifCond .lt 16), 3), (160, (.iload 5), 2), (162, (.invokestatic 464), 3), (165, (.iload 4), 2), (167, (.invokestatic 464), 3), (170, (.if_icmp .ge 18), 3), (173, (.aload_n 0), 1), (174, (.iload_n 1), 1), (175, (.iload 5), 2), (177, (.iload_n 3), 1), (178, (.invokevirtual 511), 3), (181, (.ifCond .eq 7), 3), (184, (.iload 5), 2), (186, (.istore 4), 2), (188, (.iinc 5 1), 3), (191, (.goto (-44)), 3), (194, (.iload 4), 2), (196, .ireturn, 1)]
set_option maxRecDepth 10000 in
theorem wc_M_proof : Cond.code y_M_proof.1 y_M_proof.2.1 y_M_proof.2.2.1 y_M_proof.2.2.2.1 ∈ tbG := mG (mT7 235 rfl) rfl
set_option maxRecDepth 10000 in
theorem wi_M_proof : Cond.instanceMethod y_M_proof.1 ∈ tbG := mG (mT7 233 rfl) rfl
set_option maxRecDepth 10000 in
theorem wl_M_proof : Cond.selects y_M_proof.1.cls y_M_proof.1 y_M_proof.1 ∈ tbG := mG (mT7 234 rfl) rfl
abbrev y_M_judge : MI := (⟨"LieOfTwoModel", "judge", "(II)I"⟩, prog_12_method_83_code, 4, (some .int), none)
def t_M_judge : List (Nat × Instr × Nat) := [(0, (.aload_n 0), 1), (1, (.iload_n 1), 1), (2, (.invokevirtual 455), 3), (5, (.ifCond .ne 6), 3), (8, (.bipush (-2)), 2), (10, .ireturn, 1), (11, (.iconst 0), 1), (12, (.istore_n 3), 1), (13, (.iload_n 3), 1), (14, (.aload_n 0), 1), (15, (.getfield 310), 3), (18, (.if_icmp .ge 29), 3), (21, (.aload_n 0), 1), (22, (.iload_n 3), 1), (23, (.iload_n 2), 1), (24, (.invokevirtual 495), 3), (27, (.ifCond .eq 14), 3), (30, (.aload_n 0), 1), (31, (.iload_n 3), 1), (32, (.iload_n 1), 1), (33, (.invokevirtual 499), 3), (36, (.ifCond .ne 5), 3), (39, (.iload_n 3), 1), (40, .ireturn, 1), (41, (.iinc 3 1), 3), (44, (.goto (-31)), 3), (47, (.iconst (-1)), 1), (48, .ireturn, 1)]
set_option maxRecDepth 10000 in
theorem wc_M_judge : Cond.code y_M_judge.1 y_M_judge.2.1 y_M_judge.2.2.1 y_M_judge.2.2.2.1 ∈ tbG := mG (mT8 4 rfl) rfl
set_option maxRecDepth 10000 in
theorem wi_M_judge : Cond.instanceMethod y_M_judge.1 ∈ tbG := mG (mT8 2 rfl) rfl
set_option maxRecDepth 10000 in
theorem wl_M_judge : Cond.selects y_M_judge.1.cls y_M_judge.1 y_M_judge.1 ∈ tbG := mG (mT8 3 rfl) rfl
abbrev y_M_next : MI := (⟨"LieOfTwoModel", "next", "(II)I"⟩, prog_12_method_84_code, 10, (some .int), none)
def t_M_next : List (Nat × Instr × Nat) := [(0, (.iload_n 1), 1), (1, (.iconst 0), 1), (2, (.iconst 2), 1), (3, (.invokestatic 418), 3), (6, (.ifCond .ne 5), 3), (9, (.iconst (-1)), 1), (10, .ireturn, 1), (11, (.aload_n 0), 1), (12, (.iload_n 2), 1), (13, (.invokevirtual 502), 3), (16, (.iconst (-1)), 1), (17, (.istore_n 3), 1), (18, (.iconst (-1)), 1), (19, (.istore 4), 2), (21, (.iconst 0), 1), (22, (.istore 5), 2), (24, (.iconst 0), 1), (25, (.istore 6), 2), (27, (.iload 6), 2), (29, (.aload_n 0), 1), (30, (.invokevirtual 421), 3), (33, (.if_icmp .ge 240), 3), (36, (.aload_n 0), 1), (37, (.getfield 492), 3), (40, (.ifCond .le 233), 3), (43, (.iconst 0), 1), (44, (.istore 7), 2), (46, (.iload 7), 2), (48, (.aload_n 0), 1), (49, (.invokevirtual 415), 3), (52, (.if_icmp .ge 215), 3), (55, (.iconst 0), 1), (56, (.istore 8), 2), (58, (.iload 8), 2), (60, (.iconst 3), 1), (61, (.if_icmp .ge 17), 3), (64, (.aload_n 0), 1), (65, (.getfield 146), 3), (68, (.iload 8), 2), (70, (.iconst 0), 1), (71, .iastore, 1), (72, (.iinc 8 1), 3), (75, (.goto (-17)), 3), (78, (.iconst 0), 1), (79, (.istore 8), 2), (81, (.iload 8), 2), (83, (.aload_n 0), 1), (84, (.invokevirtual 427), 3), (87, (.if_icmp .ge 38), 3), (90, (.aload_n 0), 1), (91, (.getfield 137), 3), (94, (.iload 8), 2), (96, .baload, 1), (97, (.ifCond .eq 22), 3), (100, (.aload_n 0), 1), (101, (.getfield 146), 3), (104, (.aload_n 0), 1), (105, (.iload 6), 2), (107, (.iload 7), 2), (109, (.iload 8), 2), (111, (.invokevirtual 461), 3), (114, .dup2, 1), (115, .iaload, 1), (116, (.iconst 1), 1), (117, .iadd, 1), (118, .iastore, 1), (119, (.iinc 8 1), 3), (122, (.goto (-41)), 3), (125, (.aload_n 0), 1), (126, (.getfield 146), 3), (129, (.iconst 0), 1), (130, .iaload, 1), (131, (.aload_n 0), 1), (132, (.getfield 146), 3), (135, (.iconst 1), 1), (136, .iaload, 1), (137, (.if_icmp .le 12), 3), (140, (.aload_n 0), 1), (141, (.getfield 146), 3), (144, (.iconst 0), 1), (145, .iaload, 1), (146, (.goto 9), 3), (149, (.aload_n 0), 1), (150, (.getfield 146), 3), (153, (.iconst 1), 1), (154, .iaload, 1), (155, (.istore 8), 2), (157, (.aload_n 0), 1), (158, (.getfield 146), 3), (161, (.iconst 2), 1), (162, .iaload, 1), (163, (.iload 8), 2), (165, (.if_icmp .le 12), 3), (168, (.aload_n 0), 1), (169, (.getfield 146), 3), (172, (.iconst 2), 1), (173, .iaload, 1), (174, (.goto 5), 3), (177, (.iload 8), 2), (179, (.istore 8), 2), (181, (.iload 8), 2), (183, (.iload 5), 2), (185, (.if_icmp .ne 43), 3), (188, (.iload_n 3), 1), (189, (.ifCond .lt 39), 3), (192, (.aload_n 0), 1), (193, (.getfield 59), 3), (196, (.bipush 8), 2), (198, (.aload_n 0), 1), (199, (.getfield 304), 3), (202, .imul, 1), (203, (.iload 6), 2), (205, .iadd, 1), (206, .iaload, 1), (207, (.aload_n 0), 1), (208, (.getfield 59), 3), (211, (.bipush 8), 2), (213, (.aload_n 0), 1), (214, (.getfield 304), 3), (217, .imul, 1), (218, (.iload_n 3), 1), (219, .iadd, 1), (220, .iaload, 1), (221, (.if_icmp .ge 7), 3), (224, (.iconst 1), 1), (225, (.goto 4), 3), (228, (.iconst 0), 1), (229, (.istore 9), 2), (231, (.iload_n 3), 1), (232, (.ifCond .lt 18), 3), (235, (.iload 8), 2), (237, (.iload 5), 2), (239, (.if_icmp .lt 11), 3), (242, (.iload 9), 2), (244, (.ifCond .ne 6), 3), (247, (.goto 14), 3), (250, (.iload 6), 2), (252, (.istore_n 3), 1), (253, (.iload 7), 2), (255, (.istore 4), 2), (257, (.iload 8), 2), (259, (.istore 5), 2), (261, (.iinc 7 1), 3), (264, (.goto (-218)), 3), (267, (.iinc 6 1), 3), (270, (.goto (-243)), 3), (273, (.iload_n 3), 1), (274, (.ifCond .ge 7), 3), (277, (.iconst (-1)), 1), (278, (.goto 23), 3), (281, (.iload_n 1), 1), (282, (.ifCond .ne 7), 3), (285, (.iload_n 3), 1), (286, (.goto 15), 3), (289, (.iload_n 1), 1), (290, (.iconst 1), 1), (291, (.if_icmp .ne 8), 3), (294, (.iload 4), 2), (296, (.goto 5), 3), (299, (.iload 5), 2), (301, .ireturn, 1)]
set_option maxRecDepth 10000 in
theorem wc_M_next : Cond.code y_M_next.1 y_M_next.2.1 y_M_next.2.2.1 y_M_next.2.2.2.1 ∈ tbG := mG (mT8 8 rfl) rfl
set_option maxRecDepth 10000 in
theorem wi_M_next : Cond.instanceMethod y_M_next.1 ∈ tbG := mG (mT8 6 rfl) rfl
set_option maxRecDepth 10000 in
theorem wl_M_next : Cond.selects y_M_next.1.cls y_M_next.1 y_M_next.1 ∈ tbG := mG (mT8 7 rfl) rfl
abbrev y_M_layHeard : MI := (⟨"LieOfTwoModel", "layHeard", "(I)V"⟩, prog_12_method_85_code, 5, none, none)
def t_M_layHeard : List (Nat × Instr × Nat) := [(0, (.iconst 0), 1), (1, (.istore_n 2), 1), (2, (.iload_n 2), 1), (3, (.sipush 1152), 3), (6, (.if_icmp .ge 16), 3), (9, (.aload_n 0), 1), (10, (.getfield 152), 3), (13, (.iload_n 2), 1), (14, (.lconst 0), 1), (15, .lastore, 1), (16, (.iinc 2 1), 3), (19, (.goto (-17)), 3), (22, (.iconst 0), 1), (23, (.istore_n 2), 1), (24, (.iload_n 2), 1), (25, (.iconst 4), 1), (26, (.if_icmp .ge 23), 3), (29, (.aload_n 0), 1), (30, (.getfield 155), 3), (33, (.iload_n 2), 1), (34, (.lconst 0), 1), (35, .lastore, 1), (36, (.aload_n 0), 1), (37, (.getfield 149), 3), (40, (.iload_n 2), 1), (41, (.lconst 0), 1), (42, .lastore, 1), (43, (.iinc 2 1), 3), (46, (.goto (-22)), 3), (49, (.iconst 0), 1), (50, (.istore_n 2), 1), (51, (.iload_n 2), 1), (52, (.aload_n 0), 1), (53, (.invokevirtual 427), 3), (56, (.if_icmp .ge 148), 3), (59, (.aload_n 0), 1), (60, (.getfield 137), 3), (63, (.iload_n 2), 1), (64, .baload, 1), (65, (.ifCond .ne 6), 3), (68, (.goto 130), 3), (71, (.aload_n 0), 1), (72, (.getfield 149), 3), (75, (.iload_n 2), 1), (76, (.bipush 64), 2), (78, .idiv, 1), (79, .dup2, 1), (80, .laload, 1), (81, (.lconst 1), 1), (82, (.iload_n 2), 1), (83, (.bipush 64), 2), (85, .irem, 1), (86, .lshl, 1), (87, .lor, 1), (88, .lastore, 1), (89, (.aload_n 0), 1), (90, (.getfield 155), 3), (93, (.iload_n 2), 1), (94, (.bipush 64), 2), (96, .idiv, 1), (97, .dup2, 1), (98, .laload, 1), (99, (.aload_n 0), 1), (100, (.getfield 107), 3), (103, (.iload_n 1), 1), (104, (.iload_n 2), 1), (105, (.invokestatic 430), 3), (108, .baload, 1), (109, (.ifCond .eq 12), 3), (112, (.lconst 1), 1), (113, (.iload_n 2), 1), (114, (.bipush 64), 2), (116, .irem, 1), (117, .lshl, 1), (118, (.goto 4), 3), (121, (.lconst 0), 1), (122, .lor, 1), (123, .lastore, 1), (124, (.iconst 0), 1), (125, (.istore_n 3), 1), (126, (.iload_n 3), 1), (127, (.aload_n 0), 1), (128, (.invokevirtual 421), 3), (131, (.if_icmp .ge 67), 3), (134, (.iconst 0), 1), (135, (.istore 4), 2), (137, (.iload 4), 2), (139, (.aload_n 0), 1), (140, (.invokevirtual 415), 3), (143, (.if_icmp .ge 49), 3), (146, (.aload_n 0), 1), (147, (.getfield 152), 3), (150, (.bipush 12), 2), (152, (.bipush 12), 2), (154, (.iload_n 3), 1), (155, .imul, 1), (156, (.iload 4), 2), (158, .iadd, 1), (159, .imul, 1), (160, (.iconst 4), 1), (161, (.aload_n 0), 1), (162, (.iload_n 3), 1), (163, (.iload 4), 2), (165, (.iload_n 2), 1), (166, (.invokevirtual 461), 3), (169, .imul, 1), (170, .iadd, 1), (171, (.iload_n 2), 1), (172, (.bipush 64), 2), (174, .idiv, 1), (175, .iadd, 1), (176, .dup2, 1), (177, .laload, 1), (178, (.lconst 1), 1), (179, (.iload_n 2), 1), (180, (.bipush 64), 2), (182, .irem, 1), (183, .lshl, 1), (184, .lor, 1), (185, .lastore, 1), (186, (.iinc 4 1), 3), (189, (.goto (-52)), 3), (192, (.iinc 3 1), 3), (195, (.goto (-69)), 3), (198, (.iinc 2 1), 3), (201, (.goto (-150)), 3), (204, .return_, 1)]
set_option maxRecDepth 10000 in
theorem wc_M_layHeard : Cond.code y_M_layHeard.1 y_M_layHeard.2.1 y_M_layHeard.2.2.1 y_M_layHeard.2.2.2.1 ∈ tbG := mG (mT8 16 rfl) rfl
set_option maxRecDepth 10000 in
theorem wi_M_layHeard : Cond.instanceMethod y_M_layHeard.1 ∈ tbG := mG (mT8 15 rfl) rfl
set_option maxRecDepth 10000 in
theorem wl_M_layHeard : Cond.selects y_M_layHeard.1.cls y_M_layHeard.1 y_M_layHeard.1 ∈ tbG := mG (mP10 (q := (_, 78)) 13 rfl) rfl
abbrev y_M_isOne : MI := (⟨"LieOfTwoModel", "isOne", "(I)Z"⟩, prog_12_method_86_code, 5, (some .boolean), none)
def t_M_isOne : List (Nat × Instr × Nat) := [(0, (.iconst 0), 1), (1, (.istore_n 2), 1), (2, (.iconst 0), 1), (3, (.istore_n 3), 1), (4, (.iconst 0), 1), (5, (.istore 4), 2), (7, (.iload 4), 2), (9, (.iconst 4), 1), (10, (.if_icmp .ge 81), 3), (13, (.iload_n 2), 1), (14, (.ifCond .ne 27), 3), (17, (.aload_n 0), 1), (18, (.getfield 149), 3), (21, (.iconst 4), 1), (22, (.iload_n 1), 1), (23, .imul, 1), (24, (.iload 4), 2), (26, .iadd, 1), (27, .laload, 1), (28, (.aload_n 0), 1), (29, (.getfield 155), 3), (32, (.iload 4), 2), (34, .laload, 1), (35, .land, 1), (36, (.lconst 0), 1), (37, .lcmp, 1), (38, (.ifCond .eq 7), 3), (41, (.iconst 1), 1), (42, (.goto 4), 3), (45, (.iconst 0), 1), (46, (.istore_n 2), 1), (47, (.iload_n 3), 1), (48, (.ifCond .ne 31), 3), (51, (.aload_n 0), 1), (52, (.getfield 149), 3), (55, (.iconst 4), 1), (56, (.iload_n 1), 1), (57, .imul, 1), (58, (.iload 4), 2), (60, .iadd, 1), (61, .laload, 1), (62, (.aload_n 0), 1), (63, (.getfield 155), 3), (66, (.iload 4), 2), (68, .laload, 1), (69, (.ldc2_w 514), 3), (72, .lxor, 1), (73, .land, 1), (74, (.lconst 0), 1), (75, .lcmp, 1), (76, (.ifCond .eq 7), 3), (79, (.iconst 1), 1), (80, (.goto 4), 3), (83, (.iconst 0), 1), (84, (.istore_n 3), 1), (85, (.iinc 4 1), 3), (88, (.goto (-81)), 3), (91, (.iload_n 2), 1), (92, (.ifCond .eq 7), 3), (95, (.iload_n 3), 1), (96, (.ifCond .ne 7), 3), (99, (.iconst 1), 1), (100, (.goto 4), 3), (103, (.iconst 0), 1), (104, .ireturn, 1)]
set_option maxRecDepth 10000 in
theorem wc_M_isOne : Cond.code y_M_isOne.1 y_M_isOne.2.1 y_M_isOne.2.2.1 y_M_isOne.2.2.2.1 ∈ tbG := mG (mT8 20 rfl) rfl
set_option maxRecDepth 10000 in
theorem wi_M_isOne : Cond.instanceMethod y_M_isOne.1 ∈ tbG := mG (mT8 19 rfl) rfl
set_option maxRecDepth 10000 in
theorem wl_M_isOne : Cond.selects y_M_isOne.1.cls y_M_isOne.1 y_M_isOne.1 ∈ tbG := mG (mP10 (q := (_, 78)) 14 rfl) rfl
abbrev y_M_splits : MI := (⟨"LieOfTwoModel", "splits", "(II)Z"⟩, prog_12_method_87_code, 6, (some .boolean), none)
def t_M_splits : List (Nat × Instr × Nat) := [(0, (.iload_n 2), 1), (1, (.bipush 12), 2), (3, .irem, 1), (4, (.aload_n 0), 1), (5, (.invokevirtual 415), 3), (8, (.if_icmp .lt 5), 3), (11, (.iconst 0), 1), (12, .ireturn, 1), (13, (.iconst 0), 1), (14, (.istore_n 3), 1), (15, (.iload_n 3), 1), (16, (.iconst 3), 1), (17, (.if_icmp .ge 83), 3), (20, (.iconst 1), 1), (21, (.istore 4), 2), (23, (.iconst 0), 1), (24, (.istore 5), 2), (26, (.iload 5), 2), (28, (.iconst 4), 1), (29, (.if_icmp .ge 58), 3), (32, (.iload 4), 2), (34, (.ifCond .eq 44), 3), (37, (.aload_n 0), 1), (38, (.getfield 149), 3), (41, (.iconst 4), 1), (42, (.iload_n 1), 1), (43, .imul, 1), (44, (.iload 5), 2), (46, .iadd, 1), (47, .laload, 1), (48, (.aload_n 0), 1), (49, (.getfield 152), 3), (52, (.bipush 12), 2), (54, (.iload_n 2), 1), (55, .imul, 1), (56, (.iconst 4), 1), (57, (.iload_n 3), 1), (58, .imul, 1), (59, .iadd, 1), (60, (.iload 5), 2), (62, .iadd, 1), (63, .laload, 1), (64, (.ldc2_w 514), 3), (67, .lxor, 1), (68, .land, 1), (69, (.lconst 0), 1), (70, .lcmp, 1), (71, (.ifCond .ne 7), 3), (74, (.iconst 1), 1), (75, (.goto 4), 3), (78, (.iconst 0), 1), (79, (.istore 4), 2), (81, (.iinc 5 1), 3), (84, (.goto (-58)), 3), (87, (.iload 4), 2), (89, (.ifCond .eq 5), 3), (92, (.iconst 0), 1), (93, .ireturn, 1), (94, (.iinc 3 1), 3), (97, (.goto (-82)), 3), (100, (.iconst 1), 1), (101, .ireturn, 1)]
set_option maxRecDepth 10000 in
theorem wc_M_splits : Cond.code y_M_splits.1 y_M_splits.2.1 y_M_splits.2.2.1 y_M_splits.2.2.2.1 ∈ tbG := mG (mT8 29 rfl) rfl
set_option maxRecDepth 10000 in
theorem wi_M_splits : Cond.instanceMethod y_M_splits.1 ∈ tbG := mG (mT8 28 rfl) rfl
set_option maxRecDepth 10000 in
theorem wl_M_splits : Cond.selects y_M_splits.1.cls y_M_splits.1 y_M_splits.1 ∈ tbG := mG (mP11 (q := (_, 78)) 0 rfl) rfl
abbrev y_M_take : MI := (⟨"LieOfTwoModel", "take", "(III)V"⟩, prog_12_method_88_code, 5, none, none)
def t_M_take : List (Nat × Instr × Nat) := [(0, (.iconst 0), 1), (1, (.istore 4), 2), (3, (.iload 4), 2), (5, (.iconst 4), 1), (6, (.if_icmp .ge 50), 3), (9, (.aload_n 0), 1), (10, (.getfield 149), 3), (13, (.iconst 4), 1), (14, (.iload_n 1), 1), (15, .imul, 1), (16, (.iconst 4), 1), (17, .iadd, 1), (18, (.iload 4), 2), (20, .iadd, 1), (21, (.aload_n 0), 1), (22, (.getfield 149), 3), (25, (.iconst 4), 1), (26, (.iload_n 1), 1), (27, .imul, 1), (28, (.iload 4), 2), (30, .iadd, 1), (31, .laload, 1), (32, (.aload_n 0), 1), (33, (.getfield 152), 3), (36, (.bipush 12), 2), (38, (.iload_n 2), 1), (39, .imul, 1), (40, (.iconst 4), 1), (41, (.iload_n 3), 1), (42, .imul, 1), (43, .iadd, 1), (44, (.iload 4), 2), (46, .iadd, 1), (47, .laload, 1), (48, .land, 1), (49, .lastore, 1), (50, (.iinc 4 1), 3), (53, (.goto (-50)), 3), (56, .return_, 1)]
set_option maxRecDepth 10000 in
theorem wc_M_take : Cond.code y_M_take.1 y_M_take.2.1 y_M_take.2.2.1 y_M_take.2.2.2.1 ∈ tbG := mG (mT8 33 rfl) rfl
set_option maxRecDepth 10000 in
theorem wi_M_take : Cond.instanceMethod y_M_take.1 ∈ tbG := mG (mT8 32 rfl) rfl
set_option maxRecDepth 10000 in
theorem wl_M_take : Cond.selects y_M_take.1.cls y_M_take.1 y_M_take.1 ∈ tbG := mG (mP11 (q := (_, 78)) 1 rfl) rfl
abbrev y_M_byOne : MI := (⟨"LieOfTwoModel", "byOne", "(I)Z"⟩, prog_12_method_89_code, 5, (some .boolean), none)
def t_M_byOne : List (Nat × Instr × Nat) := [(0, (.aload_n 0), 1), (1, (.iload_n 1), 1), (2, (.invokevirtual 516), 3), (5, (.ifCond .eq 5), 3), (8, (.iconst 1), 1), (9, .ireturn, 1), (10, (.iconst 0), 1), (11, (.istore_n 2), 1), (12, (.iload_n 2), 1), (13, (.bipush 12), 2), (15, (.aload_n 0), 1), (16, (.invokevirtual 421), 3), (19, .imul, 1), (20, (.if_icmp .ge 64), 3), (23, (.aload_n 0), 1), (24, (.iload_n 1), 1), (25, (.iload_n 2), 1), (26, (.invokevirtual 519), 3), (29, (.ifCond .ne 6), 3), (32, (.goto 46), 3), (35, (.iconst 1), 1), (36, (.istore_n 3), 1), (37, (.iconst 0), 1), (38, (.istore 4), 2), (40, (.iload 4), 2), (42, (.iconst 3), 1), (43, (.if_icmp .ge 29), 3), (46, (.iload_n 3), 1), (47, (.ifCond .eq 25), 3), (50, (.aload_n 0), 1), (51, (.iload_n 1), 1), (52, (.iload_n 2), 1), (53, (.iload 4), 2), (55, (.invokevirtual 522), 3), (58, (.aload_n 0), 1), (59, (.iload_n 1), 1), (60, (.iconst 1), 1), (61, .iadd, 1), (62, (.invokevirtual 516), 3), (65, (.istore_n 3), 1), (66, (.iinc 4 1), 3), (69, (.goto (-29)), 3), (72, (.iload_n 3), 1), (73, (.ifCond .eq 5), 3), (76, (.iconst 1), 1), (77, .ireturn, 1), (78, (.iinc 2 1), 3), (81, (.goto (-69)), 3), (84, (.iconst 0), 1), (85, .ireturn, 1)]
set_option maxRecDepth 10000 in
theorem wc_M_byOne : Cond.code y_M_byOne.1 y_M_byOne.2.1 y_M_byOne.2.2.1 y_M_byOne.2.2.2.1 ∈ tbG := mG (mT8 25 rfl) rfl
set_option maxRecDepth 10000 in
theorem wi_M_byOne : Cond.instanceMethod y_M_byOne.1 ∈ tbG := mG (mT8 24 rfl) rfl
set_option maxRecDepth 10000 in
theorem wl_M_byOne : Cond.selects y_M_byOne.1.cls y_M_byOne.1 y_M_byOne.1 ∈ tbG := mG (mP10 (q := (_, 78)) 15 rfl) rfl
abbrev y_M_byTwo : MI := (⟨"LieOfTwoModel", "byTwo", "(I)Z"⟩, prog_12_method_90_code, 5, (some .boolean), none)
def t_M_byTwo : List (Nat × Instr × Nat) := [(0, (.aload_n 0), 1), (1, (.iload_n 1), 1), (2, (.invokevirtual 525), 3), (5, (.ifCond .eq 5), 3), (8, (.iconst 1), 1), (9, .ireturn, 1), (10, (.iconst 0), 1), (11, (.istore_n 2), 1), (12, (.iload_n 2), 1), (13, (.bipush 12), 2), (15, (.aload_n 0), 1), (16, (.invokevirtual 421), 3), (19, .imul, 1), (20, (.if_icmp .ge 64), 3), (23, (.aload_n 0), 1), (24, (.iload_n 1), 1), (25, (.iload_n 2), 1), (26, (.invokevirtual 519), 3), (29, (.ifCond .ne 6), 3), (32, (.goto 46), 3), (35, (.iconst 1), 1), (36, (.istore_n 3), 1), (37, (.iconst 0), 1), (38, (.istore 4), 2), (40, (.iload 4), 2), (42, (.iconst 3), 1), (43, (.if_icmp .ge 29), 3), (46, (.iload_n 3), 1), (47, (.ifCond .eq 25), 3), (50, (.aload_n 0), 1), (51, (.iload_n 1), 1), (52, (.iload_n 2), 1), (53, (.iload 4), 2), (55, (.invokevirtual 522), 3), (58, (.aload_n 0), 1), (59, (.iload_n 1), 1), (60, (.iconst 1), 1), (61, .iadd, 1), (62, (.invokevirtual 525), 3), (65, (.istore_n 3), 1), (66, (.iinc 4 1), 3), (69, (.goto (-29)), 3), (72, (.iload_n 3), 1), (73, (.ifCond .eq 5), 3), (76, (.iconst 1), 1), (77, .ireturn, 1), (78, (.iinc 2 1), 3), (81, (.goto (-69)), 3), (84, (.iconst 0), 1), (85, .ireturn, 1)]
set_option maxRecDepth 10000 in
theorem wc_M_byTwo : Cond.code y_M_byTwo.1 y_M_byTwo.2.1 y_M_byTwo.2.2.1 y_M_byTwo.2.2.2.1 ∈ tbG := mG (mT8 37 rfl) rfl
set_option maxRecDepth 10000 in
theorem wi_M_byTwo : Cond.instanceMethod y_M_byTwo.1 ∈ tbG := mG (mT8 36 rfl) rfl
set_option maxRecDepth 10000 in
theorem wl_M_byTwo : Cond.selects y_M_byTwo.1.cls y_M_byTwo.1 y_M_byTwo.1 ∈ tbG := mG (mP11 (q := (_, 78)) 2 rfl) rfl
abbrev y_M_askings : MI := (⟨"LieOfTwoModel", "askings", "(II)I"⟩, prog_12_method_91_code, 3, (some .int), none)
def t_M_askings : List (Nat × Instr × Nat) := [(0, (.aload_n 0), 1), (1, (.iload_n 1), 1), (2, (.invokevirtual 452), 3), (5, (.ifCond .ne 6), 3), (8, (.bipush (-2)), 2), (10, .ireturn, 1), (11, (.aload_n 0), 1), (12, (.iload_n 2), 1), (13, (.invokevirtual 502), 3), (16, (.aload_n 0), 1), (17, (.getfield 492), 3), (20, (.ifCond .ne 6), 3), (23, (.bipush (-2)), 2), (25, .ireturn, 1), (26, (.aload_n 0), 1), (27, (.iload_n 1), 1), (28, (.invokevirtual 528), 3), (31, (.aload_n 0), 1), (32, (.iconst 0), 1), (33, (.invokevirtual 516), 3), (36, (.ifCond .eq 7), 3), (39, (.iconst 0), 1), (40, (.goto 28), 3), (43, (.aload_n 0), 1), (44, (.iconst 0), 1), (45, (.invokevirtual 525), 3), (48, (.ifCond .eq 7), 3), (51, (.iconst 1), 1), (52, (.goto 16), 3), (55, (.aload_n 0), 1), (56, (.iconst 0), 1), (57, (.invokevirtual 531), 3), (60, (.ifCond .eq 7), 3), (63, (.iconst 2), 1), (64, (.goto 4), 3), (67, (.iconst (-1)), 1), (68, .ireturn, 1)]
set_option maxRecDepth 10000 in
theorem wc_M_askings : Cond.code y_M_askings.1 y_M_askings.2.1 y_M_askings.2.2.1 y_M_askings.2.2.2.1 ∈ tbG := mG (mT8 12 rfl) rfl
set_option maxRecDepth 10000 in
theorem wi_M_askings : Cond.instanceMethod y_M_askings.1 ∈ tbG := mG (mT8 10 rfl) rfl
set_option maxRecDepth 10000 in
theorem wl_M_askings : Cond.selects y_M_askings.1.cls y_M_askings.1 y_M_askings.1 ∈ tbG := mG (mT8 11 rfl) rfl
abbrev y_M_isLie : MI := (⟨"LieOfTwoModel", "isLie", "(II)Z"⟩, prog_12_method_93_code, 3, (some .boolean), none)
def t_M_isLie : List (Nat × Instr × Nat) := [(0, (.aload_n 0), 1), (1, (.iload_n 1), 1), (2, (.invokevirtual 452), 3), (5, (.ifCond .eq 28), 3), (8, (.aload_n 0), 1), (9, (.iload_n 2), 1), (10, (.invokevirtual 455), 3), (13, (.ifCond .eq 20), 3), (16, (.aload_n 0), 1), (17, (.getfield 107), 3), (20, (.iload_n 1), 1), (21, (.iload_n 2), 1), (22, (.invokestatic 430), 3), (25, .baload, 1), (26, (.ifCond .ne 7), 3), (29, (.iconst 1), 1), (30, (.goto 4), 3), (33, (.iconst 0), 1), (34, .ireturn, 1)]
set_option maxRecDepth 10000 in
theorem wc_M_isLie : Cond.code y_M_isLie.1 y_M_isLie.2.1 y_M_isLie.2.2.1 y_M_isLie.2.2.2.1 ∈ tbG := mG (mT8 45 rfl) rfl
set_option maxRecDepth 10000 in
theorem wi_M_isLie : Cond.instanceMethod y_M_isLie.1 ∈ tbG := mG (mT8 44 rfl) rfl
set_option maxRecDepth 10000 in
theorem wl_M_isLie : Cond.selects y_M_isLie.1.cls y_M_isLie.1 y_M_isLie.1 ∈ tbG := mG (mP11 (q := (_, 78)) 3 rfl) rfl
abbrev y_M_lastsOf : MI := (⟨"LieOfTwoModel", "lastsOf", "(IIII)I"⟩, prog_12_method_92_code, 7, (some .int), none)
def t_M_lastsOf : List (Nat × Instr × Nat) := [(0, (.iconst 0), 1), (1, (.istore 5), 2), (3, (.iconst 0), 1), (4, (.istore 6), 2), (6, (.iload 6), 2), (8, (.aload_n 0), 1), (9, (.invokevirtual 421), 3), (12, (.if_icmp .ge 43), 3), (15, (.iload 5), 2), (17, (.iload 6), 2), (19, (.iload_n 1), 1), (20, (.if_icmp .eq 25), 3), (23, (.iload 6), 2), (25, (.iload_n 2), 1), (26, (.if_icmp .eq 19), 3), (29, (.aload_n 0), 1), (30, (.iload 6), 2), (32, (.iload_n 3), 1), (33, (.iload 4), 2), (35, (.invokevirtual 461), 3), (38, (.ifCond .eq 7), 3), (41, (.iconst 1), 1), (42, (.goto 4), 3), (45, (.iconst 0), 1), (46, .iadd, 1), (47, (.istore 5), 2), (49, (.iinc 6 1), 3), (52, (.goto (-46)), 3), (55, (.iload 5), 2), (57, .ireturn, 1)]
set_option maxRecDepth 10000 in
theorem wc_M_lastsOf : Cond.code y_M_lastsOf.1 y_M_lastsOf.2.1 y_M_lastsOf.2.2.1 y_M_lastsOf.2.2.2.1 ∈ tbG := mG (mT8 49 rfl) rfl
set_option maxRecDepth 10000 in
theorem wi_M_lastsOf : Cond.instanceMethod y_M_lastsOf.1 ∈ tbG := mG (mT8 48 rfl) rfl
set_option maxRecDepth 10000 in
theorem wl_M_lastsOf : Cond.selects y_M_lastsOf.1.cls y_M_lastsOf.1 y_M_lastsOf.1 ∈ tbG := mG (mP11 (q := (_, 78)) 4 rfl) rfl
abbrev y_M_lasts : MI := (⟨"LieOfTwoModel", "lasts", "(IIII)I"⟩, prog_12_method_94_code, 5, (some .int), none)
def t_M_lasts : List (Nat × Instr × Nat) := [(0, (.aload_n 0), 1), (1, (.iload_n 1), 1), (2, (.invokevirtual 458), 3), (5, (.ifCond .eq 38), 3), (8, (.aload_n 0), 1), (9, (.iload_n 2), 1), (10, (.invokevirtual 458), 3), (13, (.ifCond .eq 30), 3), (16, (.iload_n 1), 1), (17, (.iload_n 2), 1), (18, (.if_icmp .eq 25), 3), (21, (.aload_n 0), 1), (22, (.iload_n 3), 1), (23, (.iload 4), 2), (25, (.invokevirtual 534), 3), (28, (.ifCond .eq 15), 3), (31, (.aload_n 0), 1), (32, (.iload_n 1), 1), (33, (.iload_n 2), 1), (34, (.iload_n 3), 1), (35, (.iload 4), 2), (37, (.invokevirtual 537), 3), (40, (.goto 4), 3), (43, (.iconst (-1)), 1), (44, .ireturn, 1)]
set_option maxRecDepth 10000 in
theorem wc_M_lasts : Cond.code y_M_lasts.1 y_M_lasts.2.1 y_M_lasts.2.2.1 y_M_lasts.2.2.2.1 ∈ tbG := mG (mT8 41 rfl) rfl
set_option maxRecDepth 10000 in
theorem wi_M_lasts : Cond.instanceMethod y_M_lasts.1 ∈ tbG := mG (mT8 39 rfl) rfl
set_option maxRecDepth 10000 in
theorem wl_M_lasts : Cond.selects y_M_lasts.1.cls y_M_lasts.1 y_M_lasts.1 ∈ tbG := mG (mT8 40 rfl) rfl
abbrev y_M_with : MI := (⟨"LieOfTwoModel", "with", "(III)I"⟩, prog_12_method_95_code, 9, (some .int), none)
def t_M_with : List (Nat × Instr × Nat) := [(0, (.aload_n 0), 1), (1, (.iload_n 1), 1), (2, (.invokevirtual 458), 3), (5, (.ifCond .eq 12), 3), (8, (.aload_n 0), 1), (9, (.iload_n 2), 1), (10, (.iload_n 3), 1), (11, (.invokevirtual 534), 3), (14, (.ifCond .ne 5), 3), (17, (.iconst (-1)), 1), (18, .ireturn, 1), (19, (.iconst (-1)), 1), (20, (.istore 4), 2), (22, (.iconst 0), 1), (23, (.istore 5), 2), (25, (.iconst 0), 1), (26, (.istore 6), 2), (28, (.iload 6), 2), (30, (.aload_n 0), 1), (31, (.invokevirtual 421), 3), (34, (.if_icmp .ge 140), 3), (37, (.bipush 12), 2), (39, (.aload_n 0), 1), (40, (.getfield 304), 3), (43, .imul, 1), (44, (.istore 7), 2), (46, (.iload 7), 2), (48, (.bipush 12), 2), (50, (.aload_n 0), 1), (51, (.getfield 304), 3), (54, .imul, 1), (55, (.aload_n 0), 1), (56, (.getfield 33), 3), (59, (.aload_n 0), 1), (60, (.getfield 304), 3), (63, .iaload, 1), (64, .iadd, 1), (65, (.if_icmp .ge 103), 3), (68, (.aload_n 0), 1), (69, (.getfield 65), 3), (72, (.iload 7), 2), (74, .iaload, 1), (75, (.iload_n 1), 1), (76, (.if_icmp .ne 15), 3), (79, (.aload_n 0), 1), (80, (.getfield 68), 3), (83, (.iload 7), 2), (85, .iaload, 1), (86, (.iload 6), 2), (88, (.if_icmp .eq 29), 3), (91, (.aload_n 0), 1), (92, (.getfield 65), 3), (95, (.iload 7), 2), (97, .iaload, 1), (98, (.iload 6), 2), (100, (.if_icmp .ne 62), 3), (103, (.aload_n 0), 1), (104, (.getfield 68), 3), (107, (.iload 7), 2), (109, .iaload, 1), (110, (.iload_n 1), 1), (111, (.if_icmp .eq 6), 3), (114, (.goto 48), 3), (117, (.bipush 10), 2), (119, (.aload_n 0), 1), (120, (.iload_n 1), 1), (121, (.iload 6), 2), (123, (.iload_n 2), 1), (124, (.iload_n 3), 1), (125, (.invokevirtual 537), 3), (128, .imul, 1), (129, (.aload_n 0), 1), (130, (.getfield 71), 3), (133, (.iload 7), 2), (135, .iaload, 1), (136, .isub, 1), (137, (.istore 8), 2), (139, (.iload 4), 2), (141, (.ifCond .lt 13), 3), (144, (.iload 8), 2), (146, (.iload 5), 2), (148, (.if_icmp .gt 6), 3), (151, (.goto 11), 3), (154, (.iload 6), 2), (156, (.istore 4), 2), (158, (.iload 8), 2), (160, (.istore 5), 2), (162, (.iinc 7 1), 3), (165, (.goto (-119)), 3), (168, (.iinc 6 1), 3), (171, (.goto (-143)), 3), (174, (.iload 4), 2), (176, .ireturn, 1)]
set_option maxRecDepth 10000 in
theorem wc_M_with : Cond.code y_M_with.1 y_M_with.2.1 y_M_with.2.2.1 y_M_with.2.2.2.1 ∈ tbG := mG (mT8 53 rfl) rfl
set_option maxRecDepth 10000 in
theorem wi_M_with : Cond.instanceMethod y_M_with.1 ∈ tbG := mG (mT8 51 rfl) rfl
set_option maxRecDepth 10000 in
theorem wl_M_with : Cond.selects y_M_with.1.cls y_M_with.1 y_M_with.1 ∈ tbG := mG (mT8 52 rfl) rfl
abbrev y_M_areApart : MI := (⟨"LieOfTwoModel", "areApart", "(I)Z"⟩, prog_12_method_98_code, 5, (some .boolean), none)
def t_M_areApart : List (Nat × Instr × Nat) := [(0, (.iconst 0), 1), (1, (.istore_n 2), 1), (2, (.iconst 0), 1), (3, (.istore_n 3), 1), (4, (.iload_n 3), 1), (5, (.aload_n 0), 1), (6, (.getfield 33), 3), (9, (.aload_n 0), 1), (10, (.getfield 304), 3), (13, .iaload, 1), (14, (.if_icmp .ge 69), 3), (17, (.iload_n 1), 1), (18, (.iload_n 3), 1), (19, .ishr, 1), (20, (.iconst 1), 1), (21, .iand, 1), (22, (.ifCond .ne 6), 3), (25, (.goto 52), 3), (28, (.iconst 1), 1), (29, (.aload_n 0), 1), (30, (.getfield 65), 3), (33, (.bipush 12), 2), (35, (.aload_n 0), 1), (36, (.getfield 304), 3), (39, .imul, 1), (40, (.iload_n 3), 1), (41, .iadd, 1), (42, .iaload, 1), (43, .ishl, 1), (44, (.iconst 1), 1), (45, (.aload_n 0), 1), (46, (.getfield 68), 3), (49, (.bipush 12), 2), (51, (.aload_n 0), 1), (52, (.getfield 304), 3), (55, .imul, 1), (56, (.iload_n 3), 1), (57, .iadd, 1), (58, .iaload, 1), (59, .ishl, 1), (60, .ior, 1), (61, (.istore 4), 2), (63, (.iload_n 2), 1), (64, (.iload 4), 2), (66, .iand, 1), (67, (.ifCond .eq 5), 3), (70, (.iconst 0), 1), (71, .ireturn, 1), (72, (.iload_n 2), 1), (73, (.iload 4), 2), (75, .ior, 1), (76, (.istore_n 2), 1), (77, (.iinc 3 1), 3), (80, (.goto (-76)), 3), (83, (.iconst 1), 1), (84, .ireturn, 1)]
set_option maxRecDepth 10000 in
theorem wc_M_areApart : Cond.code y_M_areApart.1 y_M_areApart.2.1 y_M_areApart.2.2.1 y_M_areApart.2.2.2.1 ∈ tbG := mG (mT8 61 rfl) rfl
set_option maxRecDepth 10000 in
theorem wi_M_areApart : Cond.instanceMethod y_M_areApart.1 ∈ tbG := mG (mT8 60 rfl) rfl
set_option maxRecDepth 10000 in
theorem wl_M_areApart : Cond.selects y_M_areApart.1.cls y_M_areApart.1 y_M_areApart.1 ∈ tbG := mG (mP11 (q := (_, 78)) 5 rfl) rfl
abbrev y_M_wished : MI := (⟨"LieOfTwoModel", "wished", "(II)I"⟩, prog_12_method_96_code, 4, (some .int), none)
def t_M_wished : List (Nat × Instr × Nat) := [(0, (.bipush 12), 2), (2, (.aload_n 0), 1), (3, (.getfield 304), 3), (6, .imul, 1), (7, (.istore_n 3), 1), (8, (.iload_n 3), 1), (9, (.bipush 12), 2), (11, (.aload_n 0), 1), (12, (.getfield 304), 3), (15, .imul, 1), (16, (.aload_n 0), 1), (17, (.getfield 36), 3), (20, (.aload_n 0), 1), (21, (.getfield 304), 3), (24, .iaload, 1), (25, .iadd, 1), (26, (.if_icmp .ge 36), 3), (29, (.aload_n 0), 1), (30, (.getfield 74), 3), (33, (.iload_n 3), 1), (34, .iaload, 1), (35, (.iload_n 1), 1), (36, (.if_icmp .ne 20), 3), (39, (.aload_n 0), 1), (40, (.getfield 77), 3), (43, (.iload_n 3), 1), (44, .iaload, 1), (45, (.iload_n 2), 1), (46, (.if_icmp .ne 10), 3), (49, (.aload_n 0), 1), (50, (.getfield 80), 3), (53, (.iload_n 3), 1), (54, .iaload, 1), (55, .ireturn, 1), (56, (.iinc 3 1), 3), (59, (.goto (-51)), 3), (62, (.iconst (-1)), 1), (63, .ireturn, 1)]
set_option maxRecDepth 10000 in
theorem wc_M_wished : Cond.code y_M_wished.1 y_M_wished.2.1 y_M_wished.2.2.1 y_M_wished.2.2.2.1 ∈ tbG := mG (mT8 69 rfl) rfl
set_option maxRecDepth 10000 in
theorem wi_M_wished : Cond.instanceMethod y_M_wished.1 ∈ tbG := mG (mT8 68 rfl) rfl
set_option maxRecDepth 10000 in
theorem wl_M_wished : Cond.selects y_M_wished.1.cls y_M_wished.1 y_M_wished.1 ∈ tbG := mG (mP11 (q := (_, 78)) 7 rfl) rfl
abbrev y_M_gainOf : MI := (⟨"LieOfTwoModel", "gainOf", "(II)I"⟩, prog_12_method_97_code, 7, (some .int), none)
def t_M_gainOf : List (Nat × Instr × Nat) := [(0, (.iconst 0), 1), (1, (.istore_n 3), 1), (2, (.iconst 0), 1), (3, (.istore 4), 2), (5, (.iload 4), 2), (7, (.aload_n 0), 1), (8, (.invokevirtual 415), 3), (11, (.if_icmp .ge 76), 3), (14, (.aload_n 0), 1), (15, (.aload_n 0), 1), (16, (.getfield 65), 3), (19, (.iload_n 1), 1), (20, .iaload, 1), (21, (.iload 4), 2), (23, (.invokevirtual 541), 3), (26, (.istore 5), 2), (28, (.aload_n 0), 1), (29, (.aload_n 0), 1), (30, (.getfield 68), 3), (33, (.iload_n 1), 1), (34, .iaload, 1), (35, (.iload 4), 2), (37, (.invokevirtual 541), 3), (40, (.istore 6), 2), (42, (.iload 5), 2), (44, (.ifCond .lt 37), 3), (47, (.iload 6), 2), (49, (.ifCond .lt 32), 3), (52, (.aload_n 0), 1), (53, (.getfield 107), 3), (56, (.iload 4), 2), (58, (.iload_n 2), 1), (59, (.invokestatic 430), 3), (62, .baload, 1), (63, (.ifCond .ne 18), 3), (66, (.iload 5), 2), (68, (.iload 6), 2), (70, .iadd, 1), (71, (.iload_n 3), 1), (72, (.if_icmp .le 9), 3), (75, (.iload 5), 2), (77, (.iload 6), 2), (79, .iadd, 1), (80, (.istore_n 3), 1), (81, (.iinc 4 1), 3), (84, (.goto (-79)), 3), (87, (.iload_n 3), 1), (88, (.iconst 2), 1), (89, (.aload_n 0), 1), (90, (.getfield 71), 3), (93, (.iload_n 1), 1), (94, .iaload, 1), (95, .imul, 1), (96, .isub, 1), (97, .ireturn, 1)]
set_option maxRecDepth 10000 in
theorem wc_M_gainOf : Cond.code y_M_gainOf.1 y_M_gainOf.2.1 y_M_gainOf.2.2.1 y_M_gainOf.2.2.2.1 ∈ tbG := mG (mT8 65 rfl) rfl
set_option maxRecDepth 10000 in
theorem wi_M_gainOf : Cond.instanceMethod y_M_gainOf.1 ∈ tbG := mG (mT8 64 rfl) rfl
set_option maxRecDepth 10000 in
theorem wl_M_gainOf : Cond.selects y_M_gainOf.1.cls y_M_gainOf.1 y_M_gainOf.1 ∈ tbG := mG (mP11 (q := (_, 78)) 6 rfl) rfl
abbrev y_M_rest : MI := (⟨"LieOfTwoModel", "rest", "(II)I"⟩, prog_12_method_99_code, 8, (some .int), none)
def t_M_rest : List (Nat × Instr × Nat) := [(0, (.aload_n 0), 1), (1, (.iload_n 1), 1), (2, (.invokevirtual 455), 3), (5, (.ifCond .eq 12), 3), (8, (.iload_n 2), 1), (9, (.iconst 0), 1), (10, (.iconst 1), 1), (11, (.invokestatic 418), 3), (14, (.ifCond .ne 5), 3), (17, (.iconst (-1)), 1), (18, .ireturn, 1), (19, (.iconst 0), 1), (20, (.istore_n 3), 1), (21, (.iconst 0), 1), (22, (.istore 4), 2), (24, (.iconst 1), 1), (25, (.istore 5), 2), (27, (.iload 5), 2), (29, (.iconst 1), 1), (30, (.aload_n 0), 1), (31, (.getfield 33), 3), (34, (.aload_n 0), 1), (35, (.getfield 304), 3), (38, .iaload, 1), (39, .ishl, 1), (40, (.if_icmp .ge 99), 3), (43, (.aload_n 0), 1), (44, (.iload 5), 2), (46, (.invokevirtual 544), 3), (49, (.ifCond .ne 6), 3), (52, (.goto 81), 3), (55, (.iconst 0), 1), (56, (.istore 6), 2), (58, (.iconst 0), 1), (59, (.istore 7), 2), (61, (.iload 7), 2), (63, (.aload_n 0), 1), (64, (.getfield 33), 3), (67, (.aload_n 0), 1), (68, (.getfield 304), 3), (71, .iaload, 1), (72, (.if_icmp .ge 44), 3), (75, (.iload 6), 2), (77, (.iload 5), 2), (79, (.iload 7), 2), (81, .ishr, 1), (82, (.iconst 1), 1), (83, .iand, 1), (84, (.iconst 1), 1), (85, (.if_icmp .ne 21), 3), (88, (.aload_n 0), 1), (89, (.bipush 12), 2), (91, (.aload_n 0), 1), (92, (.getfield 304), 3), (95, .imul, 1), (96, (.iload 7), 2), (98, .iadd, 1), (99, (.iload_n 1), 1), (100, (.invokevirtual 547), 3), (103, (.goto 4), 3), (106, (.iconst 0), 1), (107, .iadd, 1), (108, (.istore 6), 2), (110, (.iinc 7 1), 3), (113, (.goto (-52)), 3), (116, (.iload 6), 2), (118, (.iload 4), 2), (120, (.if_icmp .gt 6), 3), (123, (.goto 10), 3), (126, (.iload 5), 2), (128, (.istore_n 3), 1), (129, (.iload 6), 2), (131, (.istore 4), 2), (133, (.iinc 5 1), 3), (136, (.goto (-109)), 3), (139, (.iload_n 2), 1), (140, (.ifCond .ne 8), 3), (143, (.iload 4), 2), (145, (.goto 4), 3), (148, (.iload_n 3), 1), (149, .ireturn, 1)]
set_option maxRecDepth 10000 in
theorem wc_M_rest : Cond.code y_M_rest.1 y_M_rest.2.1 y_M_rest.2.2.1 y_M_rest.2.2.2.1 ∈ tbG := mG (mT8 57 rfl) rfl
set_option maxRecDepth 10000 in
theorem wi_M_rest : Cond.instanceMethod y_M_rest.1 ∈ tbG := mG (mT8 55 rfl) rfl
set_option maxRecDepth 10000 in
theorem wl_M_rest : Cond.selects y_M_rest.1.cls y_M_rest.1 y_M_rest.1 ∈ tbG := mG (mT8 56 rfl) rfl
abbrev y_M_common : MI := (⟨"LieOfTwoModel", "common", "(II)I"⟩, prog_12_method_100_code, 5, (some .int), none)
def t_M_common : List (Nat × Instr × Nat) := [(0, (.iload_n 0), 1), (1, (.istore_n 2), 1), (2, (.iload_n 1), 1), (3, (.istore_n 3), 1), (4, (.iload_n 3), 1), (5, (.ifCond .eq 16), 3), (8, (.iload_n 2), 1), (9, (.iload_n 3), 1), (10, .irem, 1), (11, (.istore 4), 2), (13, (.iload_n 3), 1), (14, (.istore_n 2), 1), (15, (.iload 4), 2), (17, (.istore_n 3), 1), (18, (.goto (-14)), 3), (21, (.iload_n 2), 1), (22, .ireturn, 1)]
set_option maxRecDepth 10000 in
theorem wc_M_common : Cond.code y_M_common.1 y_M_common.2.1 y_M_common.2.2.1 y_M_common.2.2.2.1 ∈ tbG := mG (mT8 76 rfl) rfl
set_option maxRecDepth 10000 in
theorem ws_M_common : Cond.static y_M_common.1 ∈ tbG := mG (mT8 75 rfl) rfl
abbrev y_M_truth : MI := (⟨"LieOfTwoModel", "truth", "(IIIII)I"⟩, prog_12_method_101_code, 9, (some .int), none)
def t_M_truth : List (Nat × Instr × Nat) := [(0, (.aload_n 0), 1), (1, (.iload_n 1), 1), (2, (.invokevirtual 452), 3), (5, (.ifCond .eq 33), 3), (8, (.iload_n 2), 1), (9, (.iconst 0), 1), (10, (.bipush 10), 2), (12, (.invokestatic 418), 3), (15, (.ifCond .eq 23), 3), (18, (.iload_n 3), 1), (19, (.iconst 0), 1), (20, (.bipush 10), 2), (22, (.invokestatic 418), 3), (25, (.ifCond .eq 13), 3), (28, (.iload 4), 2), (30, (.iconst 0), 1), (31, (.iconst 1), 1), (32, (.invokestatic 418), 3), (35, (.ifCond .ne 5), 3), (38, (.iconst (-1)), 1), (39, .ireturn, 1), (40, (.aload_n 0), 1), (41, (.iload 5), 2), (43, (.invokevirtual 502), 3), (46, (.iload_n 2), 1), (47, (.aload_n 0), 1), (48, (.iload_n 1), 1), (49, (.invokevirtual 505), 3), (52, .imul, 1), (53, (.istore 6), 2), (55, (.iload 6), 2), (57, (.iload_n 3), 1), (58, (.aload_n 0), 1), (59, (.getfield 492), 3), (62, (.aload_n 0), 1), (63, (.iload_n 1), 1), (64, (.invokevirtual 505), 3), (67, .isub, 1), (68, .imul, 1), (69, .iadd, 1), (70, (.istore 7), 2), (72, (.iload 7), 2), (74, (.ifCond .ne 5), 3), (77, (.iconst (-1)), 1), (78, .ireturn, 1), (79, (.iload 6), 2), (81, (.iload 7), 2), (83, (.invokestatic 550), 3), (86, (.istore 8), 2), (88, (.iload 4), 2), (90, (.ifCond .ne 11), 3), (93, (.iload 6), 2), (95, (.iload 8), 2), (97, .idiv, 1), (98, (.goto 8), 3), (101, (.iload 7), 2), (103, (.iload 8), 2), (105, .idiv, 1), (106, .ireturn, 1)]
set_option maxRecDepth 10000 in
theorem wc_M_truth : Cond.code y_M_truth.1 y_M_truth.2.1 y_M_truth.2.2.1 y_M_truth.2.2.2.1 ∈ tbG := mG (mT8 73 rfl) rfl
set_option maxRecDepth 10000 in
theorem wi_M_truth : Cond.instanceMethod y_M_truth.1 ∈ tbG := mG (mT8 71 rfl) rfl
set_option maxRecDepth 10000 in
theorem wl_M_truth : Cond.selects y_M_truth.1.cls y_M_truth.1 y_M_truth.1 ∈ tbG := mG (mT8 72 rfl) rfl
abbrev y_M_areMet : MI := (⟨"LieOfTwoModel", "areMet", "()Z"⟩, prog_12_method_102_code, 4, (some .boolean), none)
def t_M_areMet : List (Nat × Instr × Nat) := [(0, (.iconst 0), 1), (1, (.istore_n 1), 1), (2, (.iload_n 1), 1), (3, (.aload_n 0), 1), (4, (.getfield 553), 3), (7, (.if_icmp .ge 81), 3), (10, (.iconst 0), 1), (11, (.istore_n 2), 1), (12, (.iconst 0), 1), (13, (.istore_n 3), 1), (14, (.iload_n 3), 1), (15, (.aload_n 0), 1), (16, (.invokevirtual 421), 3), (19, (.if_icmp .ge 57), 3), (22, (.iload_n 2), 1), (23, (.ifCond .ne 41), 3), (26, (.aload_n 0), 1), (27, (.getfield 161), 3), (30, (.iload_n 3), 1), (31, .iaload, 1), (32, (.iload_n 3), 1), (33, (.if_icmp .le 35), 3), (36, (.aload_n 0), 1), (37, (.getfield 158), 3), (40, (.iload_n 1), 1), (41, .iaload, 1), (42, (.iload_n 3), 1), (43, .ishr, 1), (44, (.aload_n 0), 1), (45, (.getfield 158), 3), (48, (.iload_n 1), 1), (49, .iaload, 1), (50, (.aload_n 0), 1), (51, (.getfield 161), 3), (54, (.iload_n 3), 1), (55, .iaload, 1), (56, .ishr, 1), (57, .iand, 1), (58, (.iconst 1), 1), (59, .iand, 1), (60, (.iconst 1), 1), (61, (.if_icmp .ne 7), 3), (64, (.iconst 1), 1), (65, (.goto 4), 3), (68, (.iconst 0), 1), (69, (.istore_n 2), 1), (70, (.iinc 3 1), 3), (73, (.goto (-59)), 3), (76, (.iload_n 2), 1), (77, (.ifCond .ne 5), 3), (80, (.iconst 0), 1), (81, .ireturn, 1), (82, (.iinc 1 1), 3), (85, (.goto (-83)), 3), (88, (.iconst 1), 1), (89, .ireturn, 1)]
set_option maxRecDepth 10000 in
theorem wc_M_areMet : Cond.code y_M_areMet.1 y_M_areMet.2.1 y_M_areMet.2.2.1 y_M_areMet.2.2.2.1 ∈ tbG := mG (mT8 88 rfl) rfl
set_option maxRecDepth 10000 in
theorem wi_M_areMet : Cond.instanceMethod y_M_areMet.1 ∈ tbG := mG (mT8 87 rfl) rfl
set_option maxRecDepth 10000 in
theorem wl_M_areMet : Cond.selects y_M_areMet.1.cls y_M_areMet.1 y_M_areMet.1 ∈ tbG := mG (mP11 (q := (_, 78)) 9 rfl) rfl
abbrev y_M_pairs : MI := (⟨"LieOfTwoModel", "pairs", "()I"⟩, prog_12_method_103_code, 3, (some .int), none)
def t_M_pairs : List (Nat × Instr × Nat) := [(0, (.iconst 0), 1), (1, (.istore_n 1), 1), (2, (.iconst 0), 1), (3, (.istore_n 2), 1), (4, (.iload_n 2), 1), (5, (.aload_n 0), 1), (6, (.invokevirtual 421), 3), (9, (.if_icmp .ge 27), 3), (12, (.iload_n 1), 1), (13, (.aload_n 0), 1), (14, (.getfield 161), 3), (17, (.iload_n 2), 1), (18, .iaload, 1), (19, (.iload_n 2), 1), (20, (.if_icmp .le 7), 3), (23, (.iconst 1), 1), (24, (.goto 4), 3), (27, (.iconst 0), 1), (28, .iadd, 1), (29, (.istore_n 1), 1), (30, (.iinc 2 1), 3), (33, (.goto (-29)), 3), (36, (.iload_n 1), 1), (37, .ireturn, 1)]
set_option maxRecDepth 10000 in
theorem wc_M_pairs : Cond.code y_M_pairs.1 y_M_pairs.2.1 y_M_pairs.2.2.1 y_M_pairs.2.2.2.1 ∈ tbG := mG (mT8 92 rfl) rfl
set_option maxRecDepth 10000 in
theorem wi_M_pairs : Cond.instanceMethod y_M_pairs.1 ∈ tbG := mG (mT8 91 rfl) rfl
set_option maxRecDepth 10000 in
theorem wl_M_pairs : Cond.selects y_M_pairs.1.cls y_M_pairs.1 y_M_pairs.1 ∈ tbG := mG (mP11 (q := (_, 78)) 10 rfl) rfl
abbrev y_M_stepPair : MI := (⟨"LieOfTwoModel", "stepPair", "(I)Z"⟩, prog_12_method_105_code, 4, (some .boolean), none)
def t_M_stepPair : List (Nat × Instr × Nat) := [(0, (.aload_n 0), 1), (1, (.getfield 164), 3), (4, (.iload_n 1), 1), (5, .iaload, 1), (6, (.istore_n 2), 1), (7, (.iload_n 2), 1), (8, (.ifCond .lt 22), 3), (11, (.iload_n 2), 1), (12, (.iload_n 1), 1), (13, (.if_icmp .eq 17), 3), (16, (.aload_n 0), 1), (17, (.getfield 161), 3), (20, (.iload_n 1), 1), (21, (.iconst (-1)), 1), (22, .iastore, 1), (23, (.aload_n 0), 1), (24, (.getfield 161), 3), (27, (.iload_n 2), 1), (28, (.iconst (-1)), 1), (29, .iastore, 1), (30, (.iload_n 2), 1), (31, (.ifCond .ge 12), 3), (34, (.aload_n 0), 1), (35, (.getfield 164), 3), (38, (.iload_n 1), 1), (39, (.iload_n 1), 1), (40, .iastore, 1), (41, (.iconst 1), 1), (42, .ireturn, 1), (43, (.iload_n 2), 1), (44, (.iconst 1), 1), (45, .iadd, 1), (46, (.istore_n 3), 1), (47, (.iload_n 3), 1), (48, (.aload_n 0), 1), (49, (.invokevirtual 421), 3), (52, (.if_icmp .ge 27), 3), (55, (.aload_n 0), 1), (56, (.getfield 161), 3), (59, (.iload_n 3), 1), (60, .iaload, 1), (61, (.ifCond .ge 12), 3), (64, (.aload_n 0), 1), (65, (.getfield 161), 3), (68, (.iload_n 1), 1), (69, .iaload, 1), (70, (.ifCond .lt 9), 3), (73, (.iinc 3 1), 3), (76, (.goto (-29)), 3), (79, (.iload_n 3), 1), (80, (.aload_n 0), 1), (81, (.invokevirtual 421), 3), (84, (.if_icmp .ge 12), 3), (87, (.aload_n 0), 1), (88, (.getfield 161), 3), (91, (.iload_n 1), 1), (92, .iaload, 1), (93, (.ifCond .lt 12), 3), (96, (.aload_n 0), 1), (97, (.getfield 164), 3), (100, (.iload_n 1), 1), (101, (.iconst (-1)), 1), (102, .iastore, 1), (103, (.iconst 0), 1), (104, .ireturn, 1), (105, (.aload_n 0), 1), (106, (.getfield 164), 3), (109, (.iload_n 1), 1), (110, (.iload_n 3), 1), (111, .iastore, 1), (112, (.aload_n 0), 1), (113, (.getfield 161), 3), (116, (.iload_n 1), 1), (117, (.iload_n 3), 1), (118, .iastore, 1), (119, (.aload_n 0), 1), (120, (.getfield 161), 3), (123, (.iload_n 3), 1), (124, (.iload_n 1), 1), (125, .iastore, 1), (126, (.iconst 1), 1), (127, .ireturn, 1)]
set_option maxRecDepth 10000 in
theorem wc_M_stepPair : Cond.code y_M_stepPair.1 y_M_stepPair.2.1 y_M_stepPair.2.2.1 y_M_stepPair.2.2.2.1 ∈ tbG := mG (mT8 96 rfl) rfl
set_option maxRecDepth 10000 in
theorem wi_M_stepPair : Cond.instanceMethod y_M_stepPair.1 ∈ tbG := mG (mT8 95 rfl) rfl
set_option maxRecDepth 10000 in
theorem wl_M_stepPair : Cond.selects y_M_stepPair.1.cls y_M_stepPair.1 y_M_stepPair.1 ∈ tbG := mG (mP11 (q := (_, 78)) 11 rfl) rfl
abbrev y_M_leaguesOf : MI := (⟨"LieOfTwoModel", "leaguesOf", "(II)I"⟩, prog_12_method_104_code, 5, (some .int), none)
def t_M_leaguesOf : List (Nat × Instr × Nat) := [(0, (.aload_n 0), 1), (1, (.iconst 0), 1), (2, (.putfield 553), 3), (5, (.iconst 0), 1), (6, (.istore_n 3), 1), (7, (.iload_n 3), 1), (8, (.aload_n 0), 1), (9, (.getfield 310), 3), (12, (.if_icmp .ge 86), 3), (15, (.aload_n 0), 1), (16, (.iload_n 3), 1), (17, (.iload_n 2), 1), (18, (.invokevirtual 495), 3), (21, (.ifCond .eq 71), 3), (24, (.aload_n 0), 1), (25, (.getfield 134), 3), (28, (.iload_n 3), 1), (29, .baload, 1), (30, (.ifCond .eq 62), 3), (33, (.aload_n 0), 1), (34, (.getfield 119), 3), (37, (.iload_n 3), 1), (38, .iaload, 1), (39, (.invokestatic 464), 3), (42, (.iconst 2), 1), (43, (.if_icmp .lt 49), 3), (46, (.aload_n 0), 1), (47, (.getfield 107), 3), (50, (.aload_n 0), 1), (51, (.getfield 122), 3), (54, (.iload_n 3), 1), (55, .iaload, 1), (56, (.iload_n 1), 1), (57, (.invokestatic 430), 3), (60, .baload, 1), (61, (.ifCond .eq 6), 3), (64, (.goto 28), 3), (67, (.aload_n 0), 1), (68, (.getfield 158), 3), (71, (.aload_n 0), 1), (72, (.getfield 553), 3), (75, (.aload_n 0), 1), (76, (.getfield 119), 3), (79, (.iload_n 3), 1), (80, .iaload, 1), (81, .iastore, 1), (82, (.aload_n 0), 1), (83, .dup, 1), (84, (.getfield 553), 3), (87, (.iconst 1), 1), (88, .iadd, 1), (89, (.putfield 553), 3), (92, (.iinc 3 1), 3), (95, (.goto (-88)), 3), (98, (.iconst 0), 1), (99, (.istore_n 3), 1), (100, (.iload_n 3), 1), (101, (.bipush 8), 2), (103, (.if_icmp .ge 23), 3), (106, (.aload_n 0), 1), (107, (.getfield 161), 3), (110, (.iload_n 3), 1), (111, (.iconst (-1)), 1), (112, .iastore, 1), (113, (.aload_n 0), 1), (114, (.getfield 164), 3), (117, (.iload_n 3), 1), (118, (.iconst (-1)), 1), (119, .iastore, 1), (120, (.iinc 3 1), 3), (123, (.goto (-23)), 3), (126, (.aload_n 0), 1), (127, (.invokevirtual 556), 3), (130, (.ifCond .eq 7), 3), (133, (.iconst 0), 1), (134, (.goto 4), 3), (137, (.iconst (-1)), 1), (138, (.istore_n 3), 1), (139, (.iconst 0), 1), (140, (.istore 4), 2), (142, (.iload 4), 2), (144, (.ifCond .lt 71), 3), (147, (.iload_n 3), 1), (148, (.ifCond .eq 67), 3), (151, (.iload 4), 2), (153, (.aload_n 0), 1), (154, (.invokevirtual 421), 3), (157, (.if_icmp .ne 33), 3), (160, (.aload_n 0), 1), (161, (.invokevirtual 556), 3), (164, (.ifCond .eq 20), 3), (167, (.iload_n 3), 1), (168, (.ifCond .lt 11), 3), (171, (.aload_n 0), 1), (172, (.invokevirtual 559), 3), (175, (.iload_n 3), 1), (176, (.if_icmp .ge 8), 3), (179, (.aload_n 0), 1), (180, (.invokevirtual 559), 3), (183, (.istore_n 3), 1), (184, (.iinc 4 (-1)), 3), (187, (.goto (-45)), 3), (190, (.aload_n 0), 1), (191, (.iload 4), 2), (193, (.invokevirtual 562), 3), (196, (.ifCond .eq 10), 3), (199, (.iload 4), 2), (201, (.iconst 1), 1), (202, .iadd, 1), (203, (.goto 7), 3), (206, (.iload 4), 2), (208, (.iconst 1), 1), (209, .isub, 1), (210, (.istore 4), 2), (212, (.goto (-70)), 3), (215, (.iload_n 3), 1), (216, .ireturn, 1)]
set_option maxRecDepth 10000 in
theorem wc_M_leaguesOf : Cond.code y_M_leaguesOf.1 y_M_leaguesOf.2.1 y_M_leaguesOf.2.2.1 y_M_leaguesOf.2.2.2.1 ∈ tbG := mG (mT8 84 rfl) rfl
set_option maxRecDepth 10000 in
theorem wi_M_leaguesOf : Cond.instanceMethod y_M_leaguesOf.1 ∈ tbG := mG (mT8 83 rfl) rfl
set_option maxRecDepth 10000 in
theorem wl_M_leaguesOf : Cond.selects y_M_leaguesOf.1.cls y_M_leaguesOf.1 y_M_leaguesOf.1 ∈ tbG := mG (mP11 (q := (_, 78)) 8 rfl) rfl
abbrev y_M_leagues : MI := (⟨"LieOfTwoModel", "leagues", "(II)I"⟩, prog_12_method_106_code, 3, (some .int), none)
def t_M_leagues : List (Nat × Instr × Nat) := [(0, (.aload_n 0), 1), (1, (.iload_n 1), 1), (2, (.invokevirtual 455), 3), (5, (.ifCond .eq 12), 3), (8, (.aload_n 0), 1), (9, (.iload_n 1), 1), (10, (.iload_n 2), 1), (11, (.invokevirtual 565), 3), (14, (.goto 5), 3), (17, (.bipush (-2)), 2), (19, .ireturn, 1)]
set_option maxRecDepth 10000 in
theorem wc_M_leagues : Cond.code y_M_leagues.1 y_M_leagues.2.1 y_M_leagues.2.2.1 y_M_leagues.2.2.2.1 ∈ tbG := mG (mT8 80 rfl) rfl
set_option maxRecDepth 10000 in
theorem wi_M_leagues : Cond.instanceMethod y_M_leagues.1 ∈ tbG := mG (mT8 78 rfl) rfl
set_option maxRecDepth 10000 in
theorem wl_M_leagues : Cond.selects y_M_leagues.1.cls y_M_leagues.1 y_M_leagues.1 ∈ tbG := mG (mT8 79 rfl) rfl
abbrev y_M_plain : MI := (⟨"LieOfTwoModel", "plain", "(I)I"⟩, prog_12_method_107_code, 6, (some .int), none)
def t_M_plain : List (Nat × Instr × Nat) := [(0, (.aload_n 0), 1), (1, (.iload_n 1), 1), (2, (.invokevirtual 502), 3), (5, (.iconst (-1)), 1), (6, (.istore_n 2), 1), (7, (.iconst 0), 1), (8, (.istore_n 3), 1), (9, (.iconst 0), 1), (10, (.istore 4), 2), (12, (.iload 4), 2), (14, (.aload_n 0), 1), (15, (.invokevirtual 427), 3), (18, (.if_icmp .ge 56), 3), (21, (.aload_n 0), 1), (22, (.getfield 137), 3), (25, (.iload 4), 2), (27, .baload, 1), (28, (.ifCond .eq 13), 3), (31, (.aload_n 0), 1), (32, (.iload 4), 2), (34, (.iload_n 1), 1), (35, (.invokevirtual 565), 3), (38, (.goto 4), 3), (41, (.iconst (-1)), 1), (42, (.istore 5), 2), (44, (.iload 5), 2), (46, (.ifCond .lt 22), 3), (49, (.iload_n 2), 1), (50, (.ifCond .lt 12), 3), (53, (.iload 5), 2), (55, (.iload_n 3), 1), (56, (.if_icmp .lt 6), 3), (59, (.goto 9), 3), (62, (.iload 4), 2), (64, (.istore_n 2), 1), (65, (.iload 5), 2), (67, (.istore_n 3), 1), (68, (.iinc 4 1), 3), (71, (.goto (-59)), 3), (74, (.iload_n 2), 1), (75, .ireturn, 1)]
set_option maxRecDepth 10000 in
theorem wc_M_plain : Cond.code y_M_plain.1 y_M_plain.2.1 y_M_plain.2.2.1 y_M_plain.2.2.2.1 ∈ tbG := mG (mT8 100 rfl) rfl
set_option maxRecDepth 10000 in
theorem wi_M_plain : Cond.instanceMethod y_M_plain.1 ∈ tbG := mG (mT8 98 rfl) rfl
set_option maxRecDepth 10000 in
theorem wl_M_plain : Cond.selects y_M_plain.1.cls y_M_plain.1 y_M_plain.1 ∈ tbG := mG (mT8 99 rfl) rfl
abbrev y_M_turns : MI := (⟨"LieOfTwoModel", "turns", "(IZ)I"⟩, prog_12_method_108_code, 2, (some .int), none)
def t_M_turns : List (Nat × Instr × Nat) := [(0, (.iload_n 1), 1), (1, (.ifCond .eq 7), 3), (4, (.iconst 1), 1), (5, (.goto 4), 3), (8, (.iconst (-1)), 1), (9, (.iload_n 0), 1), (10, (.iconst 2), 1), (11, (.if_icmp .ne 7), 3), (14, (.iconst 0), 1), (15, (.goto 13), 3), (18, (.iload_n 0), 1), (19, (.iconst 1), 1), (20, (.if_icmp .ne 7), 3), (23, (.iconst 1), 1), (24, (.goto 4), 3), (27, (.iconst (-1)), 1), (28, .isub, 1), (29, .ireturn, 1)]
set_option maxRecDepth 10000 in
theorem wc_M_turns : Cond.code y_M_turns.1 y_M_turns.2.1 y_M_turns.2.2.1 y_M_turns.2.2.2.1 ∈ tbG := mG (mT8 111 rfl) rfl
set_option maxRecDepth 10000 in
theorem ws_M_turns : Cond.static y_M_turns.1 ∈ tbG := mG (mT8 110 rfl) rfl
abbrev y_M_turned : MI := (⟨"LieOfTwoModel", "turned", "(III)I"⟩, prog_12_method_109_code, 9, (some .int), none)
def t_M_turned : List (Nat × Instr × Nat) := [(0, (.iload_n 3), 1), (1, (.ifCond .gt 7), 3), (4, (.iconst 1), 1), (5, (.goto 4), 3), (8, (.iconst 0), 1), (9, (.istore 4), 2), (11, (.iconst (-1)), 1), (12, (.istore 5), 2), (14, (.iconst 1), 1), (15, (.istore 6), 2), (17, (.iload 6), 2), (19, (.iconst 1), 1), (20, (.aload_n 0), 1), (21, (.getfield 33), 3), (24, (.aload_n 0), 1), (25, (.getfield 304), 3), (28, .iaload, 1), (29, .ishl, 1), (30, (.if_icmp .ge 153), 3), (33, (.iload 5), 2), (35, (.ifCond .lt 13), 3), (38, (.iload 6), 2), (40, (.invokestatic 464), 3), (43, (.iload 5), 2), (45, (.if_icmp .ge 132), 3), (48, (.aload_n 0), 1), (49, (.iload 6), 2), (51, (.invokevirtual 544), 3), (54, (.ifCond .ne 6), 3), (57, (.goto 120), 3), (60, (.iload_n 3), 1), (61, (.istore 7), 2), (63, (.iconst 0), 1), (64, (.istore 8), 2), (66, (.iload 8), 2), (68, (.aload_n 0), 1), (69, (.getfield 33), 3), (72, (.aload_n 0), 1), (73, (.getfield 304), 3), (76, .iaload, 1), (77, (.if_icmp .ge 78), 3), (80, (.iload 6), 2), (82, (.iload 8), 2), (84, .ishr, 1), (85, (.iconst 1), 1), (86, .iand, 1), (87, (.iconst 1), 1), (88, (.if_icmp .ne 61), 3), (91, (.iload 7), 2), (93, (.aload_n 0), 1), (94, (.aload_n 0), 1), (95, (.getfield 65), 3), (98, (.bipush 12), 2), (100, (.aload_n 0), 1), (101, (.getfield 304), 3), (104, .imul, 1), (105, (.iload 8), 2), (107, .iadd, 1), (108, .iaload, 1), (109, (.iload_n 1), 1), (110, (.iload_n 2), 1), (111, (.invokevirtual 461), 3), (114, (.iload 4), 2), (116, (.invokestatic 568), 3), (119, (.aload_n 0), 1), (120, (.aload_n 0), 1), (121, (.getfield 68), 3), (124, (.bipush 12), 2), (126, (.aload_n 0), 1), (127, (.getfield 304), 3), (130, .imul, 1), (131, (.iload 8), 2), (133, .iadd, 1), (134, .iaload, 1), (135, (.iload_n 1), 1), (136, (.iload_n 2), 1), (137, (.invokevirtual 461), 3), (140, (.iload 4), 2), (142, (.invokestatic 568), 3), (145, .iadd, 1), (146, .iadd, 1), (147, (.istore 7), 2), (149, (.iinc 8 1), 3), (152, (.goto (-86)), 3), (155, (.iload 7), 2), (157, (.ifCond .le 7), 3), (160, (.iconst 1), 1), (161, (.goto 4), 3), (164, (.iconst 0), 1), (165, (.iload 4), 2), (167, (.if_icmp .ne 10), 3), (170, (.iload 6), 2), (172, (.invokestatic 464), 3), (175, (.istore 5), 2), (177, (.iinc 6 1), 3), (180, (.goto (-163)), 3), (183, (.iload 5), 2), (185, .ireturn, 1)]
set_option maxRecDepth 10000 in
theorem wc_M_turned : Cond.code y_M_turned.1 y_M_turned.2.1 y_M_turned.2.2.1 y_M_turned.2.2.2.1 ∈ tbG := mG (mT8 108 rfl) rfl
set_option maxRecDepth 10000 in
theorem wi_M_turned : Cond.instanceMethod y_M_turned.1 ∈ tbG := mG (mT8 107 rfl) rfl
set_option maxRecDepth 10000 in
theorem wl_M_turned : Cond.selects y_M_turned.1.cls y_M_turned.1 y_M_turned.1 ∈ tbG := mG (mP11 (q := (_, 78)) 12 rfl) rfl
abbrev y_M_vote : MI := (⟨"LieOfTwoModel", "vote", "(III)I"⟩, prog_12_method_110_code, 7, (some .int), none)
def t_M_vote : List (Nat × Instr × Nat) := [(0, (.aload_n 0), 1), (1, (.iload_n 1), 1), (2, (.invokevirtual 452), 3), (5, (.ifCond .eq 20), 3), (8, (.aload_n 0), 1), (9, (.iload_n 2), 1), (10, (.invokevirtual 455), 3), (13, (.ifCond .eq 12), 3), (16, (.iload_n 3), 1), (17, (.iconst 0), 1), (18, (.iconst 3), 1), (19, (.invokestatic 418), 3), (22, (.ifCond .ne 5), 3), (25, (.iconst (-1)), 1), (26, .ireturn, 1), (27, (.iconst 0), 1), (28, (.istore 4), 2), (30, (.iconst 0), 1), (31, (.istore 5), 2), (33, (.iconst 0), 1), (34, (.istore 6), 2), (36, (.iload 6), 2), (38, (.aload_n 0), 1), (39, (.invokevirtual 421), 3), (42, (.if_icmp .ge 52), 3), (45, (.iload 4), 2), (47, (.aload_n 0), 1), (48, (.iload 6), 2), (50, (.iload_n 1), 1), (51, (.iload_n 2), 1), (52, (.invokevirtual 461), 3), (55, (.iconst 1), 1), (56, (.if_icmp .ne 7), 3), (59, (.iconst 1), 1), (60, (.goto 4), 3), (63, (.iconst 0), 1), (64, .iadd, 1), (65, (.istore 4), 2), (67, (.iload 5), 2), (69, (.aload_n 0), 1), (70, (.iload 6), 2), (72, (.iload_n 1), 1), (73, (.iload_n 2), 1), (74, (.invokevirtual 461), 3), (77, (.ifCond .ne 7), 3), (80, (.iconst 1), 1), (81, (.goto 4), 3), (84, (.iconst 0), 1), (85, .iadd, 1), (86, (.istore 5), 2), (88, (.iinc 6 1), 3), (91, (.goto (-55)), 3), (94, (.iload_n 3), 1), (95, (.ifCond .ne 8), 3), (98, (.iload 4), 2), (100, (.goto 44), 3), (103, (.iload_n 3), 1), (104, (.iconst 1), 1), (105, (.if_icmp .ne 8), 3), (108, (.iload 5), 2), (110, (.goto 34), 3), (113, (.iload_n 3), 1), (114, (.iconst 2), 1), (115, (.if_icmp .ne 18), 3), (118, (.iload 4), 2), (120, (.iload 5), 2), (122, (.if_icmp .le 7), 3), (125, (.iconst 1), 1), (126, (.goto 18), 3), (129, (.iconst 0), 1), (130, (.goto 14), 3), (133, (.aload_n 0), 1), (134, (.iload_n 1), 1), (135, (.iload_n 2), 1), (136, (.iload 4), 2), (138, (.iload 5), 2), (140, .isub, 1), (141, (.invokevirtual 572), 3), (144, .ireturn, 1)]
set_option maxRecDepth 10000 in
theorem wc_M_vote : Cond.code y_M_vote.1 y_M_vote.2.1 y_M_vote.2.2.1 y_M_vote.2.2.2.1 ∈ tbG := mG (mT8 104 rfl) rfl
set_option maxRecDepth 10000 in
theorem wi_M_vote : Cond.instanceMethod y_M_vote.1 ∈ tbG := mG (mT8 102 rfl) rfl
set_option maxRecDepth 10000 in
theorem wl_M_vote : Cond.selects y_M_vote.1.cls y_M_vote.1 y_M_vote.1 ∈ tbG := mG (mT8 103 rfl) rfl
abbrev y_M_image : MI := (⟨"LieOfTwoModel", "image", "(I)I"⟩, prog_12_method_111_code, 4, (some .int), none)
def t_M_image : List (Nat × Instr × Nat) := [(0, (.iload_n 1), 1), (1, (.iconst 0), 1), (2, (.iconst 2), 1), (3, (.invokestatic 418), 3), (6, (.ifCond .ne 5), 3), (9, (.iconst (-1)), 1), (10, .ireturn, 1), (11, (.aload_n 0), 1), (12, (.getfield 167), 3), (15, (.iload_n 1), 1), (16, (.aload_n 0), 1), (17, (.getfield 310), 3), (20, .iastore, 1), (21, (.iconst 0), 1), (22, (.istore_n 2), 1), (23, (.iload_n 2), 1), (24, (.aload_n 0), 1), (25, (.getfield 310), 3), (28, (.if_icmp .ge 88), 3), (31, (.bipush 40), 2), (33, (.iload_n 1), 1), (34, .imul, 1), (35, (.iload_n 2), 1), (36, .iadd, 1), (37, (.istore_n 3), 1), (38, (.aload_n 0), 1), (39, (.getfield 170), 3), (42, (.iload_n 3), 1), (43, (.aload_n 0), 1), (44, (.getfield 119), 3), (47, (.iload_n 2), 1), (48, .iaload, 1), (49, .iastore, 1), (50, (.aload_n 0), 1), (51, (.getfield 173), 3), (54, (.iload_n 3), 1), (55, (.aload_n 0), 1), (56, (.getfield 122), 3), (59, (.iload_n 2), 1), (60, .iaload, 1), (61, .iastore, 1), (62, (.aload_n 0), 1), (63, (.getfield 176), 3), (66, (.iload_n 3), 1), (67, (.aload_n 0), 1), (68, (.getfield 125), 3), (71, (.iload_n 2), 1), (72, .iaload, 1), (73, .iastore, 1), (74, (.aload_n 0), 1), (75, (.getfield 179), 3), (78, (.iload_n 3), 1), (79, (.aload_n 0), 1), (80, (.getfield 128), 3), (83, (.iload_n 2), 1), (84, .iaload, 1), (85, .iastore, 1), (86, (.aload_n 0), 1), (87, (.getfield 182), 3), (90, (.iload_n 3), 1), (91, (.aload_n 0), 1), (92, (.getfield 131), 3), (95, (.iload_n 2), 1), (96, .baload, 1), (97, .bastore, 1), (98, (.aload_n 0), 1), (99, (.getfield 185), 3), (102, (.iload_n 3), 1), (103, (.aload_n 0), 1), (104, (.getfield 134), 3), (107, (.iload_n 2), 1), (108, .baload, 1), (109, .bastore, 1), (110, (.iinc 2 1), 3), (113, (.goto (-90)), 3), (116, (.aload_n 0), 1), (117, (.getfield 310), 3), (120, .ireturn, 1)]
set_option maxRecDepth 10000 in
theorem wc_M_image : Cond.code y_M_image.1 y_M_image.2.1 y_M_image.2.2.1 y_M_image.2.2.2.1 ∈ tbG := mG (mT8 115 rfl) rfl
set_option maxRecDepth 10000 in
theorem wi_M_image : Cond.instanceMethod y_M_image.1 ∈ tbG := mG (mT8 113 rfl) rfl
set_option maxRecDepth 10000 in
theorem wl_M_image : Cond.selects y_M_image.1.cls y_M_image.1 y_M_image.1 ∈ tbG := mG (mT8 114 rfl) rfl
abbrev y_M_back : MI := (⟨"LieOfTwoModel", "back", "(I)I"⟩, prog_12_method_112_code, 4, (some .int), none)
def t_M_back : List (Nat × Instr × Nat) := [(0, (.iload_n 1), 1), (1, (.iconst 0), 1), (2, (.iconst 2), 1), (3, (.invokestatic 418), 3), (6, (.ifCond .eq 12), 3), (9, (.aload_n 0), 1), (10, (.getfield 167), 3), (13, (.iload_n 1), 1), (14, .iaload, 1), (15, (.ifCond .ge 5), 3), (18, (.iconst (-1)), 1), (19, .ireturn, 1), (20, (.aload_n 0), 1), (21, (.aload_n 0), 1), (22, (.getfield 167), 3), (25, (.iload_n 1), 1), (26, .iaload, 1), (27, (.putfield 310), 3), (30, (.iconst 0), 1), (31, (.istore_n 2), 1), (32, (.iload_n 2), 1), (33, (.aload_n 0), 1), (34, (.getfield 310), 3), (37, (.if_icmp .ge 88), 3), (40, (.bipush 40), 2), (42, (.iload_n 1), 1), (43, .imul, 1), (44, (.iload_n 2), 1), (45, .iadd, 1), (46, (.istore_n 3), 1), (47, (.aload_n 0), 1), (48, (.getfield 119), 3), (51, (.iload_n 2), 1), (52, (.aload_n 0), 1), (53, (.getfield 170), 3), (56, (.iload_n 3), 1), (57, .iaload, 1), (58, .iastore, 1), (59, (.aload_n 0), 1), (60, (.getfield 122), 3), (63, (.iload_n 2), 1), (64, (.aload_n 0), 1), (65, (.getfield 173), 3), (68, (.iload_n 3), 1), (69, .iaload, 1), (70, .iastore, 1), (71, (.aload_n 0), 1), (72, (.getfield 125), 3), (75, (.iload_n 2), 1), (76, (.aload_n 0), 1), (77, (.getfield 176), 3), (80, (.iload_n 3), 1), (81, .iaload, 1), (82, .iastore, 1), (83, (.aload_n 0), 1), (84, (.getfield 128), 3), (87, (.iload_n 2), 1), (88, (.aload_n 0), 1), (89, (.getfield 179), 3), (92, (.iload_n 3), 1), (93, .iaload, 1), (94, .iastore, 1), (95, (.aload_n 0), 1), (96, (.getfield 131), 3), (99, (.iload_n 2), 1), (100, (.aload_n 0), 1), (101, (.getfield 182), 3), (104, (.iload_n 3), 1), (105, .baload, 1), (106, .bastore, 1), (107, (.aload_n 0), 1), (108, (.getfield 134), 3), (111, (.iload_n 2), 1), (112, (.aload_n 0), 1), (113, (.getfield 185), 3), (116, (.iload_n 3), 1), (117, .baload, 1), (118, .bastore, 1), (119, (.iinc 2 1), 3), (122, (.goto (-90)), 3), (125, (.aload_n 0), 1), (126, (.getfield 310), 3), (129, .ireturn, 1)]
set_option maxRecDepth 10000 in
theorem wc_M_back : Cond.code y_M_back.1 y_M_back.2.1 y_M_back.2.2.1 y_M_back.2.2.2.1 ∈ tbG := mG (mT8 119 rfl) rfl
set_option maxRecDepth 10000 in
theorem wi_M_back : Cond.instanceMethod y_M_back.1 ∈ tbG := mG (mT8 117 rfl) rfl
set_option maxRecDepth 10000 in
theorem wl_M_back : Cond.selects y_M_back.1.cls y_M_back.1 y_M_back.1 ∈ tbG := mG (mT8 118 rfl) rfl
abbrev y_M_about : MI := (⟨"LieOfTwoModel", "about", "(I)I"⟩, prog_12_method_113_code, 2, (some .int), none)
def t_M_about : List (Nat × Instr × Nat) := [(0, (.iload_n 1), 1), (1, (.tableswitch 120 0 9 #[55, 60, 65, 70, 80, 90, 95, 100, 105, 115]), 55), (56, (.aload_n 0), 1), (57, (.invokevirtual 424), 3), (60, .ireturn, 1), (61, (.aload_n 0), 1), (62, (.invokevirtual 421), 3), (65, .ireturn, 1), (66, (.aload_n 0), 1), (67, (.invokevirtual 415), 3), (70, .ireturn, 1), (71, (.aload_n 0), 1), (72, (.getfield 33), 3), (75, (.aload_n 0), 1), (76, (.getfield 304), 3), (79, .iaload, 1), (80, .ireturn, 1), (81, (.aload_n 0), 1), (82, (.getfield 36), 3), (85, (.aload_n 0), 1), (86, (.getfield 304), 3), (89, .iaload, 1), (90, .ireturn, 1), (91, (.aload_n 0), 1), (92, (.getfield 310), 3), (95, .ireturn, 1), (96, (.aload_n 0), 1), (97, (.getfield 488), 3), (100, .ireturn, 1), (101, (.aload_n 0), 1), (102, (.getfield 301), 3), (105, .ireturn, 1), (106, (.aload_n 0), 1), (107, (.getfield 39), 3), (110, (.aload_n 0), 1), (111, (.getfield 304), 3), (114, .iaload, 1), (115, .ireturn, 1), (116, (.aload_n 0), 1), (117, (.invokevirtual 313), 3), (120, .ireturn, 1), (121, (.iconst (-1)), 1), (122, .ireturn, 1)]
set_option maxRecDepth 10000 in
theorem wc_M_about : Cond.code y_M_about.1 y_M_about.2.1 y_M_about.2.2.1 y_M_about.2.2.2.1 ∈ tbG := mG (mT8 123 rfl) rfl
set_option maxRecDepth 10000 in
theorem wi_M_about : Cond.instanceMethod y_M_about.1 ∈ tbG := mG (mT8 121 rfl) rfl
set_option maxRecDepth 10000 in
theorem wl_M_about : Cond.selects y_M_about.1.cls y_M_about.1 y_M_about.1 ∈ tbG := mG (mT8 122 rfl) rfl
abbrev y_M_feed : MI := (⟨"LieOfTwoModel", "feed", "(IIIII)I"⟩, prog_12_method_114_code, 8, (some .int), none)
def t_M_feed : List (Nat × Instr × Nat) := [(0, (.aload_n 0), 1), (1, (.getfield 301), 3), (4, (.bipush 20), 2), (6, .iadd, 1), (7, (.sipush 1600), 3), (10, (.if_icmp .le 5), 3), (13, (.iconst (-1)), 1), (14, .ireturn, 1), (15, (.iconst 0), 1), (16, (.istore 6), 2), (18, (.iload 6), 2), (20, (.bipush 20), 2), (22, (.if_icmp .ge 83), 3), (25, (.iload 6), 2), (27, (.iconst 4), 1), (28, (.if_icmp .ge 7), 3), (31, (.iload_n 1), 1), (32, (.goto 39), 3), (35, (.iload 6), 2), (37, (.bipush 8), 2), (39, (.if_icmp .ge 7), 3), (42, (.iload_n 2), 1), (43, (.goto 28), 3), (46, (.iload 6), 2), (48, (.bipush 12), 2), (50, (.if_icmp .ge 7), 3), (53, (.iload_n 3), 1), (54, (.goto 17), 3), (57, (.iload 6), 2), (59, (.bipush 16), 2), (61, (.if_icmp .ge 8), 3), (64, (.iload 4), 2), (66, (.goto 5), 3), (69, (.iload 5), 2), (71, (.istore 7), 2), (73, (.aload_n 0), 1), (74, (.getfield 7), 3), (77, (.aload_n 0), 1), (78, (.getfield 301), 3), (81, (.iload 6), 2), (83, .iadd, 1), (84, (.iload 7), 2), (86, (.bipush 24), 2), (88, (.bipush 8), 2), (90, (.iload 6), 2), (92, (.iconst 3), 1), (93, .iand, 1), (94, .imul, 1), (95, .isub, 1), (96, .ishr, 1), (97, .i2b, 1), (98, .bastore, 1), (99, (.iinc 6 1), 3), (102, (.goto (-84)), 3), (105, (.aload_n 0), 1), (106, .dup, 1), (107, (.getfield 301), 3), (110, (.bipush 20), 2), (112, .iadd, 1), (113, (.putfield 301), 3), (116, (.aload_n 0), 1), (117, (.getfield 301), 3), (120, .ireturn, 1)]
set_option maxRecDepth 10000 in
theorem wc_M_feed : Cond.code y_M_feed.1 y_M_feed.2.1 y_M_feed.2.2.1 y_M_feed.2.2.2.1 ∈ tbG := mG (mT8 127 rfl) rfl
set_option maxRecDepth 10000 in
theorem wi_M_feed : Cond.instanceMethod y_M_feed.1 ∈ tbG := mG (mT8 125 rfl) rfl
set_option maxRecDepth 10000 in
theorem wl_M_feed : Cond.selects y_M_feed.1.cls y_M_feed.1 y_M_feed.1 ∈ tbG := mG (mT8 126 rfl) rfl
abbrev y_M_end : MI := (⟨"LieOfTwoModel", "end", "(I)I"⟩, prog_12_method_115_code, 2, (some .int), none)
def t_M_end : List (Nat × Instr × Nat) := [(0, (.iload_n 1), 1), (1, (.ifCond .lt 11), 3), (4, (.iload_n 1), 1), (5, (.aload_n 0), 1), (6, (.getfield 301), 3), (9, (.if_icmp .le 5), 3), (12, (.iconst (-1)), 1), (13, .ireturn, 1), (14, (.aload_n 0), 1), (15, (.iload_n 1), 1), (16, (.putfield 301), 3), (19, (.iload_n 1), 1), (20, .ireturn, 1)]
set_option maxRecDepth 10000 in
theorem wc_M_end : Cond.code y_M_end.1 y_M_end.2.1 y_M_end.2.2.1 y_M_end.2.2.2.1 ∈ tbG := mG (mT8 131 rfl) rfl
set_option maxRecDepth 10000 in
theorem wi_M_end : Cond.instanceMethod y_M_end.1 ∈ tbG := mG (mT8 129 rfl) rfl
set_option maxRecDepth 10000 in
theorem wl_M_end : Cond.selects y_M_end.1.cls y_M_end.1 y_M_end.1 ∈ tbG := mG (mT8 130 rfl) rfl
set_option maxRecDepth 10000 in
theorem w0_X : Cond.initialized "LieOfTwo" ∈ tbG := mG (mT1 1 rfl) rfl
set_option maxRecDepth 10000 in
theorem w0_A : Cond.initialized "LieOfTwo$Asker" ∈ tbG := mG (mT1 12 rfl) rfl
set_option maxRecDepth 10000 in
theorem w0_C : Cond.initialized "LieOfTwo$Covering" ∈ tbG := mG (mT1 14 rfl) rfl
set_option maxRecDepth 10000 in
theorem w0_W : Cond.initialized "LieOfTwo$Known" ∈ tbG := mG (mT1 11 rfl) rfl
set_option maxRecDepth 10000 in
theorem w0_N : Cond.initialized "LieOfTwo$Lines" ∈ tbG := mG (mT1 3 rfl) rfl
set_option maxRecDepth 10000 in
theorem w0_P : Cond.initialized "LieOfTwo$Pairing" ∈ tbG := mG (mT1 13 rfl) rfl
set_option maxRecDepth 10000 in
theorem w0_Y : Cond.initialized "LieOfTwo$Sayings" ∈ tbG := mG (mT1 10 rfl) rfl
set_option maxRecDepth 10000 in
theorem w0_S : Cond.initialized "LieOfTwo$Steps" ∈ tbG := mG (mT1 4 rfl) rfl
set_option maxRecDepth 10000 in
theorem w0_K : Cond.initialized "LieOfTwo$Tokens" ∈ tbG := mG (mT1 5 rfl) rfl
set_option maxRecDepth 10000 in
theorem w0_T : Cond.initialized "LieOfTwo$Town" ∈ tbG := mG (mT1 2 rfl) rfl
set_option maxRecDepth 10000 in
theorem w0_M : Cond.initialized "LieOfTwoModel" ∈ tbG := mG (mT1 16 rfl) rfl
set_option maxRecDepth 10000 in
theorem w0_JI : Cond.initialized "java/lang/Integer" ∈ tbG := mG (mT1 18 rfl) rfl
set_option maxRecDepth 10000 in
theorem w0_JL : Cond.initialized "java/lang/Long" ∈ tbG := mG (mT1 17 rfl) rfl
set_option maxRecDepth 10000 in
theorem fl_X_9 : FL "LieOfTwo" 9 0 0 := ⟨_, rfl, (lb rfl), (Or.inl (mG (mT3 235 rfl) rfl))⟩
set_option maxRecDepth 10000 in
theorem fl_X_16 : FL "LieOfTwo" 16 0 2 := ⟨_, rfl, (lb rfl), (Or.inl (mG (mT3 237 rfl) rfl))⟩
set_option maxRecDepth 10000 in
theorem fl_X_20 : FL "LieOfTwo" 20 0 3 := ⟨_, rfl, (lb rfl), (Or.inl (mG (mT3 238 rfl) rfl))⟩
set_option maxRecDepth 10000 in
theorem fl_X_28 : FL "LieOfTwo" 28 0 4 := ⟨_, rfl, (lb rfl), (Or.inl (mG (mT3 239 rfl) rfl))⟩
set_option maxRecDepth 10000 in
theorem fl_X_35 : FL "LieOfTwo" 35 0 5 := ⟨_, rfl, (lb rfl), (Or.inl (mG (mT4 0 rfl) rfl))⟩
set_option maxRecDepth 10000 in
theorem fl_X_39 : FL "LieOfTwo" 39 0 6 := ⟨_, rfl, (lb rfl), (Or.inl (mG (mT4 1 rfl) rfl))⟩
set_option maxRecDepth 10000 in
theorem fl_X_46 : FL "LieOfTwo" 46 0 7 := ⟨_, rfl, (lb rfl), (Or.inl (mG (mT4 2 rfl) rfl))⟩
set_option maxRecDepth 10000 in
theorem fl_X_53 : FL "LieOfTwo" 53 0 8 := ⟨_, rfl, (lb rfl), (Or.inl (mG (mT4 3 rfl) rfl))⟩
set_option maxRecDepth 10000 in
theorem fl_X_60 : FL "LieOfTwo" 60 0 9 := ⟨_, rfl, (lb rfl), (Or.inl (mG (mT4 4 rfl) rfl))⟩
set_option maxRecDepth 10000 in
theorem fl_X_67 : FL "LieOfTwo" 67 0 10 := ⟨_, rfl, (lb rfl), (Or.inl (mG (mT4 5 rfl) rfl))⟩
set_option maxRecDepth 10000 in
theorem fl_X_71 : FL "LieOfTwo" 71 0 11 := ⟨_, rfl, (lb rfl), (Or.inl (mG (mT4 6 rfl) rfl))⟩
set_option maxRecDepth 10000 in
theorem fl_X_82 : FL "LieOfTwo" 82 0 1 := ⟨_, rfl, (lb rfl), (Or.inl (mG (mT3 236 rfl) rfl))⟩
set_option maxRecDepth 10000 in
theorem fl_X_90 : FL "LieOfTwo" 90 3 0 := ⟨_, rfl, (lb rfl), (Or.inr ⟨"LieOfTwo", mN (mT2 23 rfl) rfl⟩)⟩
set_option maxRecDepth 10000 in
theorem fl_X_94 : FL "LieOfTwo" 94 2 8 := ⟨_, rfl, (lb rfl), (Or.inr ⟨"LieOfTwo", mN (mT1 237 rfl) rfl⟩)⟩
set_option maxRecDepth 10000 in
theorem fl_X_99 : FL "LieOfTwo" 99 5 0 := ⟨_, rfl, (lb rfl), (Or.inr ⟨"LieOfTwo", mN (mT2 83 rfl) rfl⟩)⟩
set_option maxRecDepth 10000 in
theorem fl_X_102 : FL "LieOfTwo" 102 5 1 := ⟨_, rfl, (lb rfl), (Or.inr ⟨"LieOfTwo", mN (mT2 84 rfl) rfl⟩)⟩
set_option maxRecDepth 10000 in
theorem fl_X_110 : FL "LieOfTwo" 110 2 9 := ⟨_, rfl, (lb rfl), (Or.inr ⟨"LieOfTwo", mN (mT1 239 rfl) rfl⟩)⟩
set_option maxRecDepth 10000 in
theorem fl_X_146 : FL "LieOfTwo" 146 0 12 := ⟨_, rfl, (lb rfl), (Or.inl (mG (mT4 7 rfl) rfl))⟩
set_option maxRecDepth 10000 in
theorem fl_X_153 : FL "LieOfTwo" 153 5 7 := ⟨_, rfl, (lb rfl), (Or.inr ⟨"LieOfTwo", mN (mT2 96 rfl) rfl⟩)⟩
set_option maxRecDepth 10000 in
theorem fl_X_156 : FL "LieOfTwo" 156 5 6 := ⟨_, rfl, (lb rfl), (Or.inr ⟨"LieOfTwo", mN (mT2 93 rfl) rfl⟩)⟩
set_option maxRecDepth 10000 in
theorem fl_X_165 : FL "LieOfTwo" 165 6 5 := ⟨_, rfl, (lb rfl), (Or.inr ⟨"LieOfTwo", mN (mT2 134 rfl) rfl⟩)⟩
set_option maxRecDepth 10000 in
theorem fl_X_167 : FL "LieOfTwo" 167 1 0 := ⟨_, rfl, (lb rfl), (Or.inr ⟨"LieOfTwo", mN (mT1 40 rfl) rfl⟩)⟩
set_option maxRecDepth 10000 in
theorem fl_X_170 : FL "LieOfTwo" 170 6 4 := ⟨_, rfl, (lb rfl), (Or.inr ⟨"LieOfTwo", mN (mT2 131 rfl) rfl⟩)⟩
set_option maxRecDepth 10000 in
theorem fl_X_177 : FL "LieOfTwo" 177 6 3 := ⟨_, rfl, (lb rfl), (Or.inr ⟨"LieOfTwo", mN (mT2 128 rfl) rfl⟩)⟩
set_option maxRecDepth 10000 in
theorem fl_X_184 : FL "LieOfTwo" 184 6 2 := ⟨_, rfl, (lb rfl), (Or.inr ⟨"LieOfTwo", mN (mT2 125 rfl) rfl⟩)⟩
set_option maxRecDepth 10000 in
theorem fl_X_187 : FL "LieOfTwo" 187 1 1 := ⟨_, rfl, (lb rfl), (Or.inr ⟨"LieOfTwo", mN (mT1 45 rfl) rfl⟩)⟩
set_option maxRecDepth 10000 in
theorem fl_X_190 : FL "LieOfTwo" 190 1 2 := ⟨_, rfl, (lb rfl), (Or.inr ⟨"LieOfTwo", mN (mT1 49 rfl) rfl⟩)⟩
set_option maxRecDepth 10000 in
theorem fl_X_197 : FL "LieOfTwo" 197 7 1 := ⟨_, rfl, (lb rfl), (Or.inr ⟨"LieOfTwo", mN (mT2 156 rfl) rfl⟩)⟩
set_option maxRecDepth 10000 in
theorem fl_X_200 : FL "LieOfTwo" 200 7 2 := ⟨_, rfl, (lb rfl), (Or.inr ⟨"LieOfTwo", mN (mT2 158 rfl) rfl⟩)⟩
set_option maxRecDepth 10000 in
theorem fl_X_203 : FL "LieOfTwo" 203 7 3 := ⟨_, rfl, (lb rfl), (Or.inr ⟨"LieOfTwo", mN (mT2 160 rfl) rfl⟩)⟩
set_option maxRecDepth 10000 in
theorem fl_X_219 : FL "LieOfTwo" 219 8 2 := ⟨_, rfl, (lb rfl), (Or.inr ⟨"LieOfTwo", mN (mT2 185 rfl) rfl⟩)⟩
set_option maxRecDepth 10000 in
theorem fl_X_222 : FL "LieOfTwo" 222 8 3 := ⟨_, rfl, (lb rfl), (Or.inr ⟨"LieOfTwo", mN (mT2 187 rfl) rfl⟩)⟩
set_option maxRecDepth 10000 in
theorem fl_X_247 : FL "LieOfTwo" 247 1 3 := ⟨_, rfl, (lb rfl), (Or.inr ⟨"LieOfTwo", mN (mT1 53 rfl) rfl⟩)⟩
set_option maxRecDepth 10000 in
theorem fl_X_250 : FL "LieOfTwo" 250 1 4 := ⟨_, rfl, (lb rfl), (Or.inr ⟨"LieOfTwo", mN (mT1 56 rfl) rfl⟩)⟩
set_option maxRecDepth 10000 in
theorem fl_X_253 : FL "LieOfTwo" 253 1 5 := ⟨_, rfl, (lb rfl), (Or.inr ⟨"LieOfTwo", mN (mT1 59 rfl) rfl⟩)⟩
set_option maxRecDepth 10000 in
theorem fl_A_9 : FL "LieOfTwo$Asker" 9 7 5 := ⟨_, rfl, (lb rfl), (Or.inl (mG (mT2 162 rfl) rfl))⟩
set_option maxRecDepth 10000 in
theorem fl_A_15 : FL "LieOfTwo$Asker" 15 7 0 := ⟨_, rfl, (lb rfl), (Or.inl (mG (mT2 154 rfl) rfl))⟩
set_option maxRecDepth 10000 in
theorem fl_A_19 : FL "LieOfTwo$Asker" 19 7 1 := ⟨_, rfl, (lb rfl), (Or.inl (mG (mT2 155 rfl) rfl))⟩
set_option maxRecDepth 10000 in
theorem fl_A_23 : FL "LieOfTwo$Asker" 23 1 1 := ⟨_, rfl, (lb rfl), (Or.inr ⟨"LieOfTwo", mN (mT1 42 rfl) rfl⟩)⟩
set_option maxRecDepth 10000 in
theorem fl_A_28 : FL "LieOfTwo$Asker" 28 1 2 := ⟨_, rfl, (lb rfl), (Or.inr ⟨"LieOfTwo", mN (mT1 47 rfl) rfl⟩)⟩
set_option maxRecDepth 10000 in
theorem fl_A_35 : FL "LieOfTwo$Asker" 35 1 17 := ⟨_, rfl, (lb rfl), (Or.inr ⟨"LieOfTwo", mN (mT1 94 rfl) rfl⟩)⟩
set_option maxRecDepth 10000 in
theorem fl_A_44 : FL "LieOfTwo$Asker" 44 1 18 := ⟨_, rfl, (lb rfl), (Or.inr ⟨"LieOfTwo", mN (mT1 96 rfl) rfl⟩)⟩
set_option maxRecDepth 10000 in
theorem fl_A_52 : FL "LieOfTwo$Asker" 52 6 5 := ⟨_, rfl, (lb rfl), (Or.inr ⟨"LieOfTwo", mN (mT2 132 rfl) rfl⟩)⟩
set_option maxRecDepth 10000 in
theorem fl_A_55 : FL "LieOfTwo$Asker" 55 7 3 := ⟨_, rfl, (lb rfl), (Or.inl (mG (mT2 159 rfl) rfl))⟩
set_option maxRecDepth 10000 in
theorem fl_A_58 : FL "LieOfTwo$Asker" 58 1 8 := ⟨_, rfl, (lb rfl), (Or.inr ⟨"LieOfTwo", mN (mT1 68 rfl) rfl⟩)⟩
set_option maxRecDepth 10000 in
theorem fl_A_62 : FL "LieOfTwo$Asker" 62 7 2 := ⟨_, rfl, (lb rfl), (Or.inl (mG (mT2 157 rfl) rfl))⟩
set_option maxRecDepth 10000 in
theorem fl_A_65 : FL "LieOfTwo$Asker" 65 7 4 := ⟨_, rfl, (lb rfl), (Or.inl (mG (mT2 161 rfl) rfl))⟩
set_option maxRecDepth 10000 in
theorem fl_A_68 : FL "LieOfTwo$Asker" 68 6 4 := ⟨_, rfl, (lb rfl), (Or.inr ⟨"LieOfTwo", mN (mT2 130 rfl) rfl⟩)⟩
set_option maxRecDepth 10000 in
theorem fl_A_71 : FL "LieOfTwo$Asker" 71 1 6 := ⟨_, rfl, (lb rfl), (Or.inr ⟨"LieOfTwo", mN (mT1 62 rfl) rfl⟩)⟩
set_option maxRecDepth 10000 in
theorem fl_A_91 : FL "LieOfTwo$Asker" 91 1 16 := ⟨_, rfl, (lb rfl), (Or.inr ⟨"LieOfTwo", mN (mT1 91 rfl) rfl⟩)⟩
set_option maxRecDepth 10000 in
theorem fl_C_9 : FL "LieOfTwo$Covering" 9 9 3 := ⟨_, rfl, (lb rfl), (Or.inl (mG (mT2 212 rfl) rfl))⟩
set_option maxRecDepth 10000 in
theorem fl_C_15 : FL "LieOfTwo$Covering" 15 9 0 := ⟨_, rfl, (lb rfl), (Or.inl (mG (mT2 209 rfl) rfl))⟩
set_option maxRecDepth 10000 in
theorem fl_C_19 : FL "LieOfTwo$Covering" 19 9 1 := ⟨_, rfl, (lb rfl), (Or.inl (mG (mT2 210 rfl) rfl))⟩
set_option maxRecDepth 10000 in
theorem fl_C_23 : FL "LieOfTwo$Covering" 23 9 2 := ⟨_, rfl, (lb rfl), (Or.inl (mG (mT2 211 rfl) rfl))⟩
set_option maxRecDepth 10000 in
theorem fl_C_27 : FL "LieOfTwo$Covering" 27 9 4 := ⟨_, rfl, (lb rfl), (Or.inl (mG (mT2 213 rfl) rfl))⟩
set_option maxRecDepth 10000 in
theorem fl_C_31 : FL "LieOfTwo$Covering" 31 6 3 := ⟨_, rfl, (lb rfl), (Or.inr ⟨"LieOfTwo", mN (mT2 127 rfl) rfl⟩)⟩
set_option maxRecDepth 10000 in
theorem fl_C_37 : FL "LieOfTwo$Covering" 37 6 2 := ⟨_, rfl, (lb rfl), (Or.inr ⟨"LieOfTwo", mN (mT2 124 rfl) rfl⟩)⟩
set_option maxRecDepth 10000 in
theorem fl_C_41 : FL "LieOfTwo$Covering" 41 5 4 := ⟨_, rfl, (lb rfl), (Or.inr ⟨"LieOfTwo", mN (mT2 90 rfl) rfl⟩)⟩
set_option maxRecDepth 10000 in
theorem fl_C_47 : FL "LieOfTwo$Covering" 47 5 2 := ⟨_, rfl, (lb rfl), (Or.inr ⟨"LieOfTwo", mN (mT2 86 rfl) rfl⟩)⟩
set_option maxRecDepth 10000 in
theorem fl_C_60 : FL "LieOfTwo$Covering" 60 1 1 := ⟨_, rfl, (lb rfl), (Or.inr ⟨"LieOfTwo", mN (mT1 43 rfl) rfl⟩)⟩
set_option maxRecDepth 10000 in
theorem fl_C_68 : FL "LieOfTwo$Covering" 68 5 3 := ⟨_, rfl, (lb rfl), (Or.inr ⟨"LieOfTwo", mN (mT2 88 rfl) rfl⟩)⟩
set_option maxRecDepth 10000 in
theorem fl_W_9 : FL "LieOfTwo$Known" 9 6 2 := ⟨_, rfl, (lb rfl), (Or.inl (mG (mT2 123 rfl) rfl))⟩
set_option maxRecDepth 10000 in
theorem fl_W_15 : FL "LieOfTwo$Known" 15 6 4 := ⟨_, rfl, (lb rfl), (Or.inl (mG (mT2 129 rfl) rfl))⟩
set_option maxRecDepth 10000 in
theorem fl_W_19 : FL "LieOfTwo$Known" 19 6 0 := ⟨_, rfl, (lb rfl), (Or.inl (mG (mT2 121 rfl) rfl))⟩
set_option maxRecDepth 10000 in
theorem fl_W_23 : FL "LieOfTwo$Known" 23 6 1 := ⟨_, rfl, (lb rfl), (Or.inl (mG (mT2 122 rfl) rfl))⟩
set_option maxRecDepth 10000 in
theorem fl_W_27 : FL "LieOfTwo$Known" 27 6 3 := ⟨_, rfl, (lb rfl), (Or.inl (mG (mT2 126 rfl) rfl))⟩
set_option maxRecDepth 10000 in
theorem fl_W_31 : FL "LieOfTwo$Known" 31 1 15 := ⟨_, rfl, (lb rfl), (Or.inr ⟨"LieOfTwo", mN (mT1 86 rfl) rfl⟩)⟩
set_option maxRecDepth 10000 in
theorem fl_W_36 : FL "LieOfTwo$Known" 36 1 6 := ⟨_, rfl, (lb rfl), (Or.inr ⟨"LieOfTwo", mN (mT1 60 rfl) rfl⟩)⟩
set_option maxRecDepth 10000 in
theorem fl_W_45 : FL "LieOfTwo$Known" 45 5 0 := ⟨_, rfl, (lb rfl), (Or.inr ⟨"LieOfTwo", mN (mT2 82 rfl) rfl⟩)⟩
set_option maxRecDepth 10000 in
theorem fl_W_52 : FL "LieOfTwo$Known" 52 5 7 := ⟨_, rfl, (lb rfl), (Or.inr ⟨"LieOfTwo", mN (mT2 95 rfl) rfl⟩)⟩
set_option maxRecDepth 10000 in
theorem fl_W_59 : FL "LieOfTwo$Known" 59 6 5 := ⟨_, rfl, (lb rfl), (Or.inl (mG (mT2 133 rfl) rfl))⟩
set_option maxRecDepth 10000 in
theorem fl_W_62 : FL "LieOfTwo$Known" 62 1 16 := ⟨_, rfl, (lb rfl), (Or.inr ⟨"LieOfTwo", mN (mT1 89 rfl) rfl⟩)⟩
set_option maxRecDepth 10000 in
theorem fl_N_12 : FL "LieOfTwo$Lines" 12 3 1 := ⟨_, rfl, (lb rfl), (Or.inl (mG (mT2 24 rfl) rfl))⟩
set_option maxRecDepth 10000 in
theorem fl_N_18 : FL "LieOfTwo$Lines" 18 3 2 := ⟨_, rfl, (lb rfl), (Or.inl (mG (mT2 25 rfl) rfl))⟩
set_option maxRecDepth 10000 in
theorem fl_N_22 : FL "LieOfTwo$Lines" 22 3 3 := ⟨_, rfl, (lb rfl), (Or.inl (mG (mT2 26 rfl) rfl))⟩
set_option maxRecDepth 10000 in
theorem fl_N_25 : FL "LieOfTwo$Lines" 25 3 4 := ⟨_, rfl, (lb rfl), (Or.inl (mG (mT2 27 rfl) rfl))⟩
set_option maxRecDepth 10000 in
theorem fl_N_28 : FL "LieOfTwo$Lines" 28 3 5 := ⟨_, rfl, (lb rfl), (Or.inl (mG (mT2 28 rfl) rfl))⟩
set_option maxRecDepth 10000 in
theorem fl_N_32 : FL "LieOfTwo$Lines" 32 3 6 := ⟨_, rfl, (lb rfl), (Or.inl (mG (mT2 29 rfl) rfl))⟩
set_option maxRecDepth 10000 in
theorem fl_N_35 : FL "LieOfTwo$Lines" 35 3 7 := ⟨_, rfl, (lb rfl), (Or.inl (mG (mT2 30 rfl) rfl))⟩
set_option maxRecDepth 10000 in
theorem fl_N_39 : FL "LieOfTwo$Lines" 39 3 8 := ⟨_, rfl, (lb rfl), (Or.inl (mG (mT2 31 rfl) rfl))⟩
set_option maxRecDepth 10000 in
theorem fl_N_42 : FL "LieOfTwo$Lines" 42 3 9 := ⟨_, rfl, (lb rfl), (Or.inl (mG (mT2 32 rfl) rfl))⟩
set_option maxRecDepth 10000 in
theorem fl_N_50 : FL "LieOfTwo$Lines" 50 3 0 := ⟨_, rfl, (lb rfl), (Or.inl (mG (mT2 22 rfl) rfl))⟩
set_option maxRecDepth 10000 in
theorem fl_N_54 : FL "LieOfTwo$Lines" 54 3 16 := ⟨_, rfl, (lb rfl), (Or.inl (mG (mT2 39 rfl) rfl))⟩
set_option maxRecDepth 10000 in
theorem fl_N_63 : FL "LieOfTwo$Lines" 63 4 1 := ⟨_, rfl, (lb rfl), (Or.inr ⟨"LieOfTwo", mN (mT1 153 rfl) rfl⟩)⟩
set_option maxRecDepth 10000 in
theorem fl_N_67 : FL "LieOfTwo$Lines" 67 3 10 := ⟨_, rfl, (lb rfl), (Or.inl (mG (mT2 33 rfl) rfl))⟩
set_option maxRecDepth 10000 in
theorem fl_N_70 : FL "LieOfTwo$Lines" 70 3 13 := ⟨_, rfl, (lb rfl), (Or.inl (mG (mT2 36 rfl) rfl))⟩
set_option maxRecDepth 10000 in
theorem fl_N_82 : FL "LieOfTwo$Lines" 82 2 4 := ⟨_, rfl, (lb rfl), (Or.inr ⟨"LieOfTwo", mN (mT1 229 rfl) rfl⟩)⟩
set_option maxRecDepth 10000 in
theorem fl_N_112 : FL "LieOfTwo$Lines" 112 2 7 := ⟨_, rfl, (lb rfl), (Or.inr ⟨"LieOfTwo", mN (mT1 234 rfl) rfl⟩)⟩
set_option maxRecDepth 10000 in
theorem fl_N_130 : FL "LieOfTwo$Lines" 130 1 0 := ⟨_, rfl, (lb rfl), (Or.inr ⟨"LieOfTwo", mN (mT1 39 rfl) rfl⟩)⟩
set_option maxRecDepth 10000 in
theorem fl_N_137 : FL "LieOfTwo$Lines" 137 1 2 := ⟨_, rfl, (lb rfl), (Or.inr ⟨"LieOfTwo", mN (mT1 48 rfl) rfl⟩)⟩
set_option maxRecDepth 10000 in
theorem fl_N_140 : FL "LieOfTwo$Lines" 140 1 1 := ⟨_, rfl, (lb rfl), (Or.inr ⟨"LieOfTwo", mN (mT1 44 rfl) rfl⟩)⟩
set_option maxRecDepth 10000 in
theorem fl_N_143 : FL "LieOfTwo$Lines" 143 2 6 := ⟨_, rfl, (lb rfl), (Or.inr ⟨"LieOfTwo", mN (mT1 233 rfl) rfl⟩)⟩
set_option maxRecDepth 10000 in
theorem fl_N_162 : FL "LieOfTwo$Lines" 162 1 8 := ⟨_, rfl, (lb rfl), (Or.inr ⟨"LieOfTwo", mN (mT1 69 rfl) rfl⟩)⟩
set_option maxRecDepth 10000 in
theorem fl_N_165 : FL "LieOfTwo$Lines" 165 1 9 := ⟨_, rfl, (lb rfl), (Or.inr ⟨"LieOfTwo", mN (mT1 71 rfl) rfl⟩)⟩
set_option maxRecDepth 10000 in
theorem fl_N_176 : FL "LieOfTwo$Lines" 176 3 14 := ⟨_, rfl, (lb rfl), (Or.inl (mG (mT2 37 rfl) rfl))⟩
set_option maxRecDepth 10000 in
theorem fl_N_179 : FL "LieOfTwo$Lines" 179 3 15 := ⟨_, rfl, (lb rfl), (Or.inl (mG (mT2 38 rfl) rfl))⟩
set_option maxRecDepth 10000 in
theorem fl_N_185 : FL "LieOfTwo$Lines" 185 1 3 := ⟨_, rfl, (lb rfl), (Or.inr ⟨"LieOfTwo", mN (mT1 52 rfl) rfl⟩)⟩
set_option maxRecDepth 10000 in
theorem fl_N_191 : FL "LieOfTwo$Lines" 191 1 10 := ⟨_, rfl, (lb rfl), (Or.inr ⟨"LieOfTwo", mN (mT1 73 rfl) rfl⟩)⟩
set_option maxRecDepth 10000 in
theorem fl_N_194 : FL "LieOfTwo$Lines" 194 1 11 := ⟨_, rfl, (lb rfl), (Or.inr ⟨"LieOfTwo", mN (mT1 76 rfl) rfl⟩)⟩
set_option maxRecDepth 10000 in
theorem fl_N_197 : FL "LieOfTwo$Lines" 197 1 12 := ⟨_, rfl, (lb rfl), (Or.inr ⟨"LieOfTwo", mN (mT1 79 rfl) rfl⟩)⟩
set_option maxRecDepth 10000 in
theorem fl_N_200 : FL "LieOfTwo$Lines" 200 1 13 := ⟨_, rfl, (lb rfl), (Or.inr ⟨"LieOfTwo", mN (mT1 82 rfl) rfl⟩)⟩
set_option maxRecDepth 10000 in
theorem fl_N_203 : FL "LieOfTwo$Lines" 203 1 4 := ⟨_, rfl, (lb rfl), (Or.inr ⟨"LieOfTwo", mN (mT1 55 rfl) rfl⟩)⟩
set_option maxRecDepth 10000 in
theorem fl_N_206 : FL "LieOfTwo$Lines" 206 1 14 := ⟨_, rfl, (lb rfl), (Or.inr ⟨"LieOfTwo", mN (mT1 84 rfl) rfl⟩)⟩
set_option maxRecDepth 10000 in
theorem fl_N_209 : FL "LieOfTwo$Lines" 209 3 11 := ⟨_, rfl, (lb rfl), (Or.inl (mG (mT2 34 rfl) rfl))⟩
set_option maxRecDepth 10000 in
theorem fl_N_215 : FL "LieOfTwo$Lines" 215 3 12 := ⟨_, rfl, (lb rfl), (Or.inl (mG (mT2 35 rfl) rfl))⟩
set_option maxRecDepth 10000 in
theorem fl_N_234 : FL "LieOfTwo$Lines" 234 1 5 := ⟨_, rfl, (lb rfl), (Or.inr ⟨"LieOfTwo", mN (mT1 58 rfl) rfl⟩)⟩
set_option maxRecDepth 10000 in
theorem fl_N_250 : FL "LieOfTwo$Lines" 250 1 6 := ⟨_, rfl, (lb rfl), (Or.inr ⟨"LieOfTwo", mN (mT1 64 rfl) rfl⟩)⟩
set_option maxRecDepth 10000 in
theorem fl_N_259 : FL "LieOfTwo$Lines" 259 1 15 := ⟨_, rfl, (lb rfl), (Or.inr ⟨"LieOfTwo", mN (mT1 87 rfl) rfl⟩)⟩
set_option maxRecDepth 10000 in
theorem fl_N_269 : FL "LieOfTwo$Lines" 269 4 2 := ⟨_, rfl, (lb rfl), (Or.inr ⟨"LieOfTwo", mN (mT1 155 rfl) rfl⟩)⟩
set_option maxRecDepth 10000 in
theorem fl_N_285 : FL "LieOfTwo$Lines" 285 1 16 := ⟨_, rfl, (lb rfl), (Or.inr ⟨"LieOfTwo", mN (mT1 92 rfl) rfl⟩)⟩
set_option maxRecDepth 10000 in
theorem fl_N_288 : FL "LieOfTwo$Lines" 288 1 7 := ⟨_, rfl, (lb rfl), (Or.inr ⟨"LieOfTwo", mN (mT1 66 rfl) rfl⟩)⟩
set_option maxRecDepth 10000 in
theorem fl_P_9 : FL "LieOfTwo$Pairing" 9 8 1 := ⟨_, rfl, (lb rfl), (Or.inl (mG (mT2 183 rfl) rfl))⟩
set_option maxRecDepth 10000 in
theorem fl_P_15 : FL "LieOfTwo$Pairing" 15 8 0 := ⟨_, rfl, (lb rfl), (Or.inl (mG (mT2 182 rfl) rfl))⟩
set_option maxRecDepth 10000 in
theorem fl_P_19 : FL "LieOfTwo$Pairing" 19 1 3 := ⟨_, rfl, (lb rfl), (Or.inr ⟨"LieOfTwo", mN (mT1 50 rfl) rfl⟩)⟩
set_option maxRecDepth 10000 in
theorem fl_P_29 : FL "LieOfTwo$Pairing" 29 1 13 := ⟨_, rfl, (lb rfl), (Or.inr ⟨"LieOfTwo", mN (mT1 81 rfl) rfl⟩)⟩
set_option maxRecDepth 10000 in
theorem fl_P_32 : FL "LieOfTwo$Pairing" 32 8 2 := ⟨_, rfl, (lb rfl), (Or.inl (mG (mT2 184 rfl) rfl))⟩
set_option maxRecDepth 10000 in
theorem fl_P_35 : FL "LieOfTwo$Pairing" 35 8 3 := ⟨_, rfl, (lb rfl), (Or.inl (mG (mT2 186 rfl) rfl))⟩
set_option maxRecDepth 10000 in
theorem fl_P_46 : FL "LieOfTwo$Pairing" 46 8 4 := ⟨_, rfl, (lb rfl), (Or.inl (mG (mT2 188 rfl) rfl))⟩
set_option maxRecDepth 10000 in
theorem fl_P_49 : FL "LieOfTwo$Pairing" 49 8 5 := ⟨_, rfl, (lb rfl), (Or.inl (mG (mT2 189 rfl) rfl))⟩
set_option maxRecDepth 10000 in
theorem fl_P_52 : FL "LieOfTwo$Pairing" 52 1 11 := ⟨_, rfl, (lb rfl), (Or.inr ⟨"LieOfTwo", mN (mT1 75 rfl) rfl⟩)⟩
set_option maxRecDepth 10000 in
theorem fl_P_59 : FL "LieOfTwo$Pairing" 59 1 12 := ⟨_, rfl, (lb rfl), (Or.inr ⟨"LieOfTwo", mN (mT1 78 rfl) rfl⟩)⟩
set_option maxRecDepth 10000 in
theorem fl_Y_9 : FL "LieOfTwo$Sayings" 9 5 2 := ⟨_, rfl, (lb rfl), (Or.inl (mG (mT2 85 rfl) rfl))⟩
set_option maxRecDepth 10000 in
theorem fl_Y_15 : FL "LieOfTwo$Sayings" 15 5 3 := ⟨_, rfl, (lb rfl), (Or.inl (mG (mT2 87 rfl) rfl))⟩
set_option maxRecDepth 10000 in
theorem fl_Y_18 : FL "LieOfTwo$Sayings" 18 5 4 := ⟨_, rfl, (lb rfl), (Or.inl (mG (mT2 89 rfl) rfl))⟩
set_option maxRecDepth 10000 in
theorem fl_Y_22 : FL "LieOfTwo$Sayings" 22 5 5 := ⟨_, rfl, (lb rfl), (Or.inl (mG (mT2 91 rfl) rfl))⟩
set_option maxRecDepth 10000 in
theorem fl_Y_25 : FL "LieOfTwo$Sayings" 25 5 6 := ⟨_, rfl, (lb rfl), (Or.inl (mG (mT2 92 rfl) rfl))⟩
set_option maxRecDepth 10000 in
theorem fl_Y_28 : FL "LieOfTwo$Sayings" 28 5 7 := ⟨_, rfl, (lb rfl), (Or.inl (mG (mT2 94 rfl) rfl))⟩
set_option maxRecDepth 10000 in
theorem fl_Y_32 : FL "LieOfTwo$Sayings" 32 5 0 := ⟨_, rfl, (lb rfl), (Or.inl (mG (mT2 81 rfl) rfl))⟩
set_option maxRecDepth 10000 in
theorem fl_S_9 : FL "LieOfTwo$Steps" 9 4 0 := ⟨_, rfl, (lb rfl), (Or.inl (mG (mT1 151 rfl) rfl))⟩
set_option maxRecDepth 10000 in
theorem fl_S_15 : FL "LieOfTwo$Steps" 15 4 2 := ⟨_, rfl, (lb rfl), (Or.inl (mG (mT1 154 rfl) rfl))⟩
set_option maxRecDepth 10000 in
theorem fl_S_19 : FL "LieOfTwo$Steps" 19 4 3 := ⟨_, rfl, (lb rfl), (Or.inl (mG (mT1 156 rfl) rfl))⟩
set_option maxRecDepth 10000 in
theorem fl_S_22 : FL "LieOfTwo$Steps" 22 4 1 := ⟨_, rfl, (lb rfl), (Or.inl (mG (mT1 152 rfl) rfl))⟩
set_option maxRecDepth 10000 in
theorem fl_S_37 : FL "LieOfTwo$Steps" 37 1 6 := ⟨_, rfl, (lb rfl), (Or.inr ⟨"LieOfTwo", mN (mT1 63 rfl) rfl⟩)⟩
set_option maxRecDepth 10000 in
theorem fl_S_42 : FL "LieOfTwo$Steps" 42 1 16 := ⟨_, rfl, (lb rfl), (Or.inr ⟨"LieOfTwo", mN (mT1 90 rfl) rfl⟩)⟩
set_option maxRecDepth 10000 in
theorem fl_K_9 : FL "LieOfTwo$Tokens" 9 2 0 := ⟨_, rfl, (lb rfl), (Or.inl (mG (mT1 225 rfl) rfl))⟩
set_option maxRecDepth 10000 in
theorem fl_K_15 : FL "LieOfTwo$Tokens" 15 2 9 := ⟨_, rfl, (lb rfl), (Or.inl (mG (mT1 238 rfl) rfl))⟩
set_option maxRecDepth 10000 in
theorem fl_K_19 : FL "LieOfTwo$Tokens" 19 2 1 := ⟨_, rfl, (lb rfl), (Or.inl (mG (mT1 226 rfl) rfl))⟩
set_option maxRecDepth 10000 in
theorem fl_K_41 : FL "LieOfTwo$Tokens" 41 2 2 := ⟨_, rfl, (lb rfl), (Or.inl (mG (mT1 227 rfl) rfl))⟩
set_option maxRecDepth 10000 in
theorem fl_K_43 : FL "LieOfTwo$Tokens" 43 2 3 := ⟨_, rfl, (lb rfl), (Or.inl (mG (mT1 228 rfl) rfl))⟩
set_option maxRecDepth 10000 in
theorem fl_K_46 : FL "LieOfTwo$Tokens" 46 2 8 := ⟨_, rfl, (lb rfl), (Or.inl (mG (mT1 236 rfl) rfl))⟩
set_option maxRecDepth 10000 in
theorem fl_K_49 : FL "LieOfTwo$Tokens" 49 2 4 := ⟨_, rfl, (lb rfl), (Or.inl (mG (mT1 230 rfl) rfl))⟩
set_option maxRecDepth 10000 in
theorem fl_K_59 : FL "LieOfTwo$Tokens" 59 2 5 := ⟨_, rfl, (lb rfl), (Or.inl (mG (mT1 231 rfl) rfl))⟩
set_option maxRecDepth 10000 in
theorem fl_K_81 : FL "LieOfTwo$Tokens" 81 2 7 := ⟨_, rfl, (lb rfl), (Or.inl (mG (mT1 235 rfl) rfl))⟩
set_option maxRecDepth 10000 in
theorem fl_K_85 : FL "LieOfTwo$Tokens" 85 2 6 := ⟨_, rfl, (lb rfl), (Or.inl (mG (mT1 232 rfl) rfl))⟩
set_option maxRecDepth 10000 in
theorem fl_T_15 : FL "LieOfTwo$Town" 15 1 9 := ⟨_, rfl, (lb rfl), (Or.inl (mG (mT1 70 rfl) rfl))⟩
set_option maxRecDepth 10000 in
theorem fl_T_18 : FL "LieOfTwo$Town" 18 1 10 := ⟨_, rfl, (lb rfl), (Or.inl (mG (mT1 72 rfl) rfl))⟩
set_option maxRecDepth 10000 in
theorem fl_T_21 : FL "LieOfTwo$Town" 21 1 11 := ⟨_, rfl, (lb rfl), (Or.inl (mG (mT1 74 rfl) rfl))⟩
set_option maxRecDepth 10000 in
theorem fl_T_24 : FL "LieOfTwo$Town" 24 1 12 := ⟨_, rfl, (lb rfl), (Or.inl (mG (mT1 77 rfl) rfl))⟩
set_option maxRecDepth 10000 in
theorem fl_T_27 : FL "LieOfTwo$Town" 27 1 13 := ⟨_, rfl, (lb rfl), (Or.inl (mG (mT1 80 rfl) rfl))⟩
set_option maxRecDepth 10000 in
theorem fl_T_30 : FL "LieOfTwo$Town" 30 1 14 := ⟨_, rfl, (lb rfl), (Or.inl (mG (mT1 83 rfl) rfl))⟩
set_option maxRecDepth 10000 in
theorem fl_T_33 : FL "LieOfTwo$Town" 33 1 15 := ⟨_, rfl, (lb rfl), (Or.inl (mG (mT1 85 rfl) rfl))⟩
set_option maxRecDepth 10000 in
theorem fl_T_37 : FL "LieOfTwo$Town" 37 1 16 := ⟨_, rfl, (lb rfl), (Or.inl (mG (mT1 88 rfl) rfl))⟩
set_option maxRecDepth 10000 in
theorem fl_T_40 : FL "LieOfTwo$Town" 40 1 17 := ⟨_, rfl, (lb rfl), (Or.inl (mG (mT1 93 rfl) rfl))⟩
set_option maxRecDepth 10000 in
theorem fl_T_43 : FL "LieOfTwo$Town" 43 1 18 := ⟨_, rfl, (lb rfl), (Or.inl (mG (mT1 95 rfl) rfl))⟩
set_option maxRecDepth 10000 in
theorem fl_T_49 : FL "LieOfTwo$Town" 49 1 0 := ⟨_, rfl, (lb rfl), (Or.inl (mG (mT1 38 rfl) rfl))⟩
set_option maxRecDepth 10000 in
theorem fl_T_53 : FL "LieOfTwo$Town" 53 1 1 := ⟨_, rfl, (lb rfl), (Or.inl (mG (mT1 41 rfl) rfl))⟩
set_option maxRecDepth 10000 in
theorem fl_T_56 : FL "LieOfTwo$Town" 56 1 2 := ⟨_, rfl, (lb rfl), (Or.inl (mG (mT1 46 rfl) rfl))⟩
set_option maxRecDepth 10000 in
theorem fl_T_59 : FL "LieOfTwo$Town" 59 1 3 := ⟨_, rfl, (lb rfl), (Or.inl (mG (mT1 51 rfl) rfl))⟩
set_option maxRecDepth 10000 in
theorem fl_T_62 : FL "LieOfTwo$Town" 62 1 4 := ⟨_, rfl, (lb rfl), (Or.inl (mG (mT1 54 rfl) rfl))⟩
set_option maxRecDepth 10000 in
theorem fl_T_65 : FL "LieOfTwo$Town" 65 1 5 := ⟨_, rfl, (lb rfl), (Or.inl (mG (mT1 57 rfl) rfl))⟩
set_option maxRecDepth 10000 in
theorem fl_T_68 : FL "LieOfTwo$Town" 68 1 6 := ⟨_, rfl, (lb rfl), (Or.inl (mG (mT1 61 rfl) rfl))⟩
set_option maxRecDepth 10000 in
theorem fl_T_98 : FL "LieOfTwo$Town" 98 1 7 := ⟨_, rfl, (lb rfl), (Or.inl (mG (mT1 65 rfl) rfl))⟩
set_option maxRecDepth 10000 in
theorem fl_M_7 : FL "LieOfTwoModel" 7 10 0 := ⟨_, rfl, (lb rfl), (Or.inl (mG (mT5 195 rfl) rfl))⟩
set_option maxRecDepth 10000 in
theorem fl_M_13 : FL "LieOfTwoModel" 13 10 1 := ⟨_, rfl, (lb rfl), (Or.inl (mG (mT5 196 rfl) rfl))⟩
set_option maxRecDepth 10000 in
theorem fl_M_16 : FL "LieOfTwoModel" 16 10 5 := ⟨_, rfl, (lb rfl), (Or.inl (mG (mT5 200 rfl) rfl))⟩
set_option maxRecDepth 10000 in
theorem fl_M_20 : FL "LieOfTwoModel" 20 10 11 := ⟨_, rfl, (lb rfl), (Or.inl (mG (mT5 206 rfl) rfl))⟩
set_option maxRecDepth 10000 in
theorem fl_M_24 : FL "LieOfTwoModel" 24 10 12 := ⟨_, rfl, (lb rfl), (Or.inl (mG (mT5 207 rfl) rfl))⟩
set_option maxRecDepth 10000 in
theorem fl_M_27 : FL "LieOfTwoModel" 27 10 13 := ⟨_, rfl, (lb rfl), (Or.inl (mG (mT5 208 rfl) rfl))⟩
set_option maxRecDepth 10000 in
theorem fl_M_30 : FL "LieOfTwoModel" 30 10 14 := ⟨_, rfl, (lb rfl), (Or.inl (mG (mT5 209 rfl) rfl))⟩
set_option maxRecDepth 10000 in
theorem fl_M_33 : FL "LieOfTwoModel" 33 10 15 := ⟨_, rfl, (lb rfl), (Or.inl (mG (mT5 210 rfl) rfl))⟩
set_option maxRecDepth 10000 in
theorem fl_M_36 : FL "LieOfTwoModel" 36 10 16 := ⟨_, rfl, (lb rfl), (Or.inl (mG (mT5 211 rfl) rfl))⟩
set_option maxRecDepth 10000 in
theorem fl_M_39 : FL "LieOfTwoModel" 39 10 17 := ⟨_, rfl, (lb rfl), (Or.inl (mG (mT5 212 rfl) rfl))⟩
set_option maxRecDepth 10000 in
theorem fl_M_42 : FL "LieOfTwoModel" 42 10 18 := ⟨_, rfl, (lb rfl), (Or.inl (mG (mT5 213 rfl) rfl))⟩
set_option maxRecDepth 10000 in
theorem fl_M_46 : FL "LieOfTwoModel" 46 10 19 := ⟨_, rfl, (lb rfl), (Or.inl (mG (mT5 214 rfl) rfl))⟩
set_option maxRecDepth 10000 in
theorem fl_M_49 : FL "LieOfTwoModel" 49 10 20 := ⟨_, rfl, (lb rfl), (Or.inl (mG (mT5 215 rfl) rfl))⟩
set_option maxRecDepth 10000 in
theorem fl_M_53 : FL "LieOfTwoModel" 53 10 21 := ⟨_, rfl, (lb rfl), (Or.inl (mG (mT5 216 rfl) rfl))⟩
set_option maxRecDepth 10000 in
theorem fl_M_56 : FL "LieOfTwoModel" 56 10 22 := ⟨_, rfl, (lb rfl), (Or.inl (mG (mT5 217 rfl) rfl))⟩
set_option maxRecDepth 10000 in
theorem fl_M_59 : FL "LieOfTwoModel" 59 10 23 := ⟨_, rfl, (lb rfl), (Or.inl (mG (mT5 218 rfl) rfl))⟩
set_option maxRecDepth 10000 in
theorem fl_M_62 : FL "LieOfTwoModel" 62 10 24 := ⟨_, rfl, (lb rfl), (Or.inl (mG (mT5 219 rfl) rfl))⟩
set_option maxRecDepth 10000 in
theorem fl_M_65 : FL "LieOfTwoModel" 65 10 25 := ⟨_, rfl, (lb rfl), (Or.inl (mG (mT5 220 rfl) rfl))⟩
set_option maxRecDepth 10000 in
theorem fl_M_68 : FL "LieOfTwoModel" 68 10 26 := ⟨_, rfl, (lb rfl), (Or.inl (mG (mT5 221 rfl) rfl))⟩
set_option maxRecDepth 10000 in
theorem fl_M_71 : FL "LieOfTwoModel" 71 10 27 := ⟨_, rfl, (lb rfl), (Or.inl (mG (mT5 222 rfl) rfl))⟩
set_option maxRecDepth 10000 in
theorem fl_M_74 : FL "LieOfTwoModel" 74 10 28 := ⟨_, rfl, (lb rfl), (Or.inl (mG (mT5 223 rfl) rfl))⟩
set_option maxRecDepth 10000 in
theorem fl_M_77 : FL "LieOfTwoModel" 77 10 29 := ⟨_, rfl, (lb rfl), (Or.inl (mG (mT5 224 rfl) rfl))⟩
set_option maxRecDepth 10000 in
theorem fl_M_80 : FL "LieOfTwoModel" 80 10 30 := ⟨_, rfl, (lb rfl), (Or.inl (mG (mT5 225 rfl) rfl))⟩
set_option maxRecDepth 10000 in
theorem fl_M_83 : FL "LieOfTwoModel" 83 10 31 := ⟨_, rfl, (lb rfl), (Or.inl (mG (mT5 226 rfl) rfl))⟩
set_option maxRecDepth 10000 in
theorem fl_M_86 : FL "LieOfTwoModel" 86 10 32 := ⟨_, rfl, (lb rfl), (Or.inl (mG (mT5 227 rfl) rfl))⟩
set_option maxRecDepth 10000 in
theorem fl_M_89 : FL "LieOfTwoModel" 89 10 33 := ⟨_, rfl, (lb rfl), (Or.inl (mG (mT5 228 rfl) rfl))⟩
set_option maxRecDepth 10000 in
theorem fl_M_92 : FL "LieOfTwoModel" 92 10 34 := ⟨_, rfl, (lb rfl), (Or.inl (mG (mT5 229 rfl) rfl))⟩
set_option maxRecDepth 10000 in
theorem fl_M_95 : FL "LieOfTwoModel" 95 10 35 := ⟨_, rfl, (lb rfl), (Or.inl (mG (mT5 230 rfl) rfl))⟩
set_option maxRecDepth 10000 in
theorem fl_M_98 : FL "LieOfTwoModel" 98 10 36 := ⟨_, rfl, (lb rfl), (Or.inl (mG (mT5 231 rfl) rfl))⟩
set_option maxRecDepth 10000 in
theorem fl_M_101 : FL "LieOfTwoModel" 101 10 37 := ⟨_, rfl, (lb rfl), (Or.inl (mG (mT5 232 rfl) rfl))⟩
set_option maxRecDepth 10000 in
theorem fl_M_104 : FL "LieOfTwoModel" 104 10 46 := ⟨_, rfl, (lb rfl), (Or.inl (mG (mT6 1 rfl) rfl))⟩
set_option maxRecDepth 10000 in
theorem fl_M_107 : FL "LieOfTwoModel" 107 10 47 := ⟨_, rfl, (lb rfl), (Or.inl (mG (mT6 2 rfl) rfl))⟩
set_option maxRecDepth 10000 in
theorem fl_M_110 : FL "LieOfTwoModel" 110 10 48 := ⟨_, rfl, (lb rfl), (Or.inl (mG (mT6 3 rfl) rfl))⟩
set_option maxRecDepth 10000 in
theorem fl_M_113 : FL "LieOfTwoModel" 113 10 49 := ⟨_, rfl, (lb rfl), (Or.inl (mG (mT6 4 rfl) rfl))⟩
set_option maxRecDepth 10000 in
theorem fl_M_116 : FL "LieOfTwoModel" 116 10 50 := ⟨_, rfl, (lb rfl), (Or.inl (mG (mT6 5 rfl) rfl))⟩
set_option maxRecDepth 10000 in
theorem fl_M_119 : FL "LieOfTwoModel" 119 10 51 := ⟨_, rfl, (lb rfl), (Or.inl (mG (mT6 6 rfl) rfl))⟩
set_option maxRecDepth 10000 in
theorem fl_M_122 : FL "LieOfTwoModel" 122 10 52 := ⟨_, rfl, (lb rfl), (Or.inl (mG (mT6 7 rfl) rfl))⟩
set_option maxRecDepth 10000 in
theorem fl_M_125 : FL "LieOfTwoModel" 125 10 53 := ⟨_, rfl, (lb rfl), (Or.inl (mG (mT6 8 rfl) rfl))⟩
set_option maxRecDepth 10000 in
theorem fl_M_128 : FL "LieOfTwoModel" 128 10 54 := ⟨_, rfl, (lb rfl), (Or.inl (mG (mT6 9 rfl) rfl))⟩
set_option maxRecDepth 10000 in
theorem fl_M_131 : FL "LieOfTwoModel" 131 10 55 := ⟨_, rfl, (lb rfl), (Or.inl (mG (mT6 10 rfl) rfl))⟩
set_option maxRecDepth 10000 in
theorem fl_M_134 : FL "LieOfTwoModel" 134 10 56 := ⟨_, rfl, (lb rfl), (Or.inl (mG (mT6 11 rfl) rfl))⟩
set_option maxRecDepth 10000 in
theorem fl_M_137 : FL "LieOfTwoModel" 137 10 59 := ⟨_, rfl, (lb rfl), (Or.inl (mG (mT6 14 rfl) rfl))⟩
set_option maxRecDepth 10000 in
theorem fl_M_140 : FL "LieOfTwoModel" 140 10 61 := ⟨_, rfl, (lb rfl), (Or.inl (mG (mT6 16 rfl) rfl))⟩
set_option maxRecDepth 10000 in
theorem fl_M_143 : FL "LieOfTwoModel" 143 10 62 := ⟨_, rfl, (lb rfl), (Or.inl (mG (mT6 17 rfl) rfl))⟩
set_option maxRecDepth 10000 in
theorem fl_M_146 : FL "LieOfTwoModel" 146 10 63 := ⟨_, rfl, (lb rfl), (Or.inl (mG (mT6 18 rfl) rfl))⟩
set_option maxRecDepth 10000 in
theorem fl_M_149 : FL "LieOfTwoModel" 149 10 64 := ⟨_, rfl, (lb rfl), (Or.inl (mG (mT6 19 rfl) rfl))⟩
set_option maxRecDepth 10000 in
theorem fl_M_152 : FL "LieOfTwoModel" 152 10 65 := ⟨_, rfl, (lb rfl), (Or.inl (mG (mT6 20 rfl) rfl))⟩
set_option maxRecDepth 10000 in
theorem fl_M_155 : FL "LieOfTwoModel" 155 10 66 := ⟨_, rfl, (lb rfl), (Or.inl (mG (mT6 21 rfl) rfl))⟩
set_option maxRecDepth 10000 in
theorem fl_M_158 : FL "LieOfTwoModel" 158 10 67 := ⟨_, rfl, (lb rfl), (Or.inl (mG (mT6 22 rfl) rfl))⟩
set_option maxRecDepth 10000 in
theorem fl_M_161 : FL "LieOfTwoModel" 161 10 68 := ⟨_, rfl, (lb rfl), (Or.inl (mG (mT6 23 rfl) rfl))⟩
set_option maxRecDepth 10000 in
theorem fl_M_164 : FL "LieOfTwoModel" 164 10 69 := ⟨_, rfl, (lb rfl), (Or.inl (mG (mT6 24 rfl) rfl))⟩
set_option maxRecDepth 10000 in
theorem fl_M_167 : FL "LieOfTwoModel" 167 10 71 := ⟨_, rfl, (lb rfl), (Or.inl (mG (mT6 26 rfl) rfl))⟩
set_option maxRecDepth 10000 in
theorem fl_M_170 : FL "LieOfTwoModel" 170 10 72 := ⟨_, rfl, (lb rfl), (Or.inl (mG (mT6 27 rfl) rfl))⟩
set_option maxRecDepth 10000 in
theorem fl_M_173 : FL "LieOfTwoModel" 173 10 73 := ⟨_, rfl, (lb rfl), (Or.inl (mG (mT6 28 rfl) rfl))⟩
set_option maxRecDepth 10000 in
theorem fl_M_176 : FL "LieOfTwoModel" 176 10 74 := ⟨_, rfl, (lb rfl), (Or.inl (mG (mT6 29 rfl) rfl))⟩
set_option maxRecDepth 10000 in
theorem fl_M_179 : FL "LieOfTwoModel" 179 10 75 := ⟨_, rfl, (lb rfl), (Or.inl (mG (mT6 30 rfl) rfl))⟩
set_option maxRecDepth 10000 in
theorem fl_M_182 : FL "LieOfTwoModel" 182 10 76 := ⟨_, rfl, (lb rfl), (Or.inl (mG (mT6 31 rfl) rfl))⟩
set_option maxRecDepth 10000 in
theorem fl_M_185 : FL "LieOfTwoModel" 185 10 77 := ⟨_, rfl, (lb rfl), (Or.inl (mG (mT6 32 rfl) rfl))⟩
set_option maxRecDepth 10000 in
theorem fl_M_194 : FL "LieOfTwoModel" 194 10 3 := ⟨_, rfl, (lb rfl), (Or.inl (mG (mT5 198 rfl) rfl))⟩
set_option maxRecDepth 10000 in
theorem fl_M_197 : FL "LieOfTwoModel" 197 10 4 := ⟨_, rfl, (lb rfl), (Or.inl (mG (mT5 199 rfl) rfl))⟩
set_option maxRecDepth 10000 in
theorem fl_M_240 : FL "LieOfTwoModel" 240 10 7 := ⟨_, rfl, (lb rfl), (Or.inl (mG (mT5 202 rfl) rfl))⟩
set_option maxRecDepth 10000 in
theorem fl_M_243 : FL "LieOfTwoModel" 243 10 6 := ⟨_, rfl, (lb rfl), (Or.inl (mG (mT5 201 rfl) rfl))⟩
set_option maxRecDepth 10000 in
theorem fl_M_250 : FL "LieOfTwoModel" 250 10 8 := ⟨_, rfl, (lb rfl), (Or.inl (mG (mT5 203 rfl) rfl))⟩
set_option maxRecDepth 10000 in
theorem fl_M_257 : FL "LieOfTwoModel" 257 10 10 := ⟨_, rfl, (lb rfl), (Or.inl (mG (mT5 205 rfl) rfl))⟩
set_option maxRecDepth 10000 in
theorem fl_M_268 : FL "LieOfTwoModel" 268 10 9 := ⟨_, rfl, (lb rfl), (Or.inl (mG (mT5 204 rfl) rfl))⟩
set_option maxRecDepth 10000 in
theorem fl_M_295 : FL "LieOfTwoModel" 295 10 39 := ⟨_, rfl, (lb rfl), (Or.inl (mG (mT5 234 rfl) rfl))⟩
set_option maxRecDepth 10000 in
theorem fl_M_298 : FL "LieOfTwoModel" 298 10 40 := ⟨_, rfl, (lb rfl), (Or.inl (mG (mT5 235 rfl) rfl))⟩
set_option maxRecDepth 10000 in
theorem fl_M_301 : FL "LieOfTwoModel" 301 10 2 := ⟨_, rfl, (lb rfl), (Or.inl (mG (mT5 197 rfl) rfl))⟩
set_option maxRecDepth 10000 in
theorem fl_M_304 : FL "LieOfTwoModel" 304 10 38 := ⟨_, rfl, (lb rfl), (Or.inl (mG (mT5 233 rfl) rfl))⟩
set_option maxRecDepth 10000 in
theorem fl_M_310 : FL "LieOfTwoModel" 310 10 57 := ⟨_, rfl, (lb rfl), (Or.inl (mG (mT6 12 rfl) rfl))⟩
set_option maxRecDepth 10000 in
theorem fl_M_368 : FL "LieOfTwoModel" 368 10 43 := ⟨_, rfl, (lb rfl), (Or.inl (mG (mT5 238 rfl) rfl))⟩
set_option maxRecDepth 10000 in
theorem fl_M_372 : FL "LieOfTwoModel" 372 10 44 := ⟨_, rfl, (lb rfl), (Or.inl (mG (mT5 239 rfl) rfl))⟩
set_option maxRecDepth 10000 in
theorem fl_M_375 : FL "LieOfTwoModel" 375 10 45 := ⟨_, rfl, (lb rfl), (Or.inl (mG (mT6 0 rfl) rfl))⟩
set_option maxRecDepth 10000 in
theorem fl_M_381 : FL "LieOfTwoModel" 381 10 42 := ⟨_, rfl, (lb rfl), (Or.inl (mG (mT5 237 rfl) rfl))⟩
set_option maxRecDepth 10000 in
theorem fl_M_384 : FL "LieOfTwoModel" 384 10 41 := ⟨_, rfl, (lb rfl), (Or.inl (mG (mT5 236 rfl) rfl))⟩
set_option maxRecDepth 10000 in
theorem fl_M_488 : FL "LieOfTwoModel" 488 10 58 := ⟨_, rfl, (lb rfl), (Or.inl (mG (mT6 13 rfl) rfl))⟩
set_option maxRecDepth 10000 in
theorem fl_M_492 : FL "LieOfTwoModel" 492 10 60 := ⟨_, rfl, (lb rfl), (Or.inl (mG (mT6 15 rfl) rfl))⟩
set_option maxRecDepth 10000 in
theorem fl_M_553 : FL "LieOfTwoModel" 553 10 70 := ⟨_, rfl, (lb rfl), (Or.inl (mG (mT6 25 rfl) rfl))⟩
set_option maxRecDepth 10000 in
theorem fs_S_45 : Cond.fieldLink "LieOfTwo$Steps" 45 "LieOfTwo" "FACT_BITS" "[J" ∈ tbG ∨ ∃ host, Cond.fieldLinkNest "LieOfTwo$Steps" 45 "LieOfTwo" "FACT_BITS" "[J" host ∈ tbN := (Or.inr ⟨"LieOfTwo", mN (mT3 181 rfl) rfl⟩)
set_option maxRecDepth 10000 in
theorem fs_T_149 : Cond.fieldLink "LieOfTwo$Town" 149 "LieOfTwo" "FACT_BITS" "[J" ∈ tbG ∨ ∃ host, Cond.fieldLinkNest "LieOfTwo$Town" 149 "LieOfTwo" "FACT_BITS" "[J" host ∈ tbN := (Or.inr ⟨"LieOfTwo", mN (mT3 219 rfl) rfl⟩)
set_option maxRecDepth 10000 in
theorem ck_X_75 : CK 0 "LieOfTwo" 75 y_N_readInto 2 := ⟨wc_N_readInto, w0_N, ⟨by decide, by decide, by decide +kernel⟩, (Or.inr ⟨"LieOfTwo", mN (mT2 225 rfl) rfl⟩), fun _ => ⟨wi_N_readInto, wl_N_readInto⟩, fun h => absurd h (by decide), fun h => absurd h (by decide)⟩
set_option maxRecDepth 10000 in
theorem ck_X_79 : CK 0 "LieOfTwo" 79 y_N_settle 0 := ⟨wc_N_settle, w0_N, ⟨by decide, by decide, by decide +kernel⟩, (Or.inr ⟨"LieOfTwo", mN (mT3 151 rfl) rfl⟩), fun _ => ⟨wi_N_settle, wl_N_settle⟩, fun h => absurd h (by decide), fun h => absurd h (by decide)⟩
set_option maxRecDepth 10000 in
theorem ck_X_86 : CK 0 "LieOfTwo" 86 y_X_putFour 1 := ⟨wc_X_putFour, w0_X, ⟨by decide, by decide, by decide +kernel⟩, (Or.inl (mG (mT4 39 rfl) rfl)), fun _ => ⟨wi_X_putFour, wl_X_putFour⟩, fun h => absurd h (by decide), fun h => absurd h (by decide)⟩
set_option maxRecDepth 10000 in
theorem ck_X_106 : CK 0 "LieOfTwo" 106 y_T_size 0 := ⟨wc_T_size, w0_T, ⟨by decide, by decide, by decide +kernel⟩, (Or.inr ⟨"LieOfTwo", mN (mT4 51 rfl) rfl⟩), fun _ => ⟨wi_T_size, wl_T_size⟩, fun h => absurd h (by decide), fun h => absurd h (by decide)⟩
set_option maxRecDepth 10000 in
theorem ck_X_113 : CK 0 "LieOfTwo" 113 y_T_canBe 2 := ⟨wc_T_canBe, w0_T, ⟨by decide, by decide, by decide +kernel⟩, (Or.inr ⟨"LieOfTwo", mN (mT4 72 rfl) rfl⟩), fun _ => ⟨wi_T_canBe, wl_T_canBe⟩, fun h => absurd h (by decide), fun h => absurd h (by decide)⟩
set_option maxRecDepth 10000 in
theorem ck_X_117 : CK 0 "LieOfTwo" 117 y_T_isSo 2 := ⟨wc_T_isSo, w0_T, ⟨by decide, by decide, by decide +kernel⟩, (Or.inr ⟨"LieOfTwo", mN (mT4 87 rfl) rfl⟩), fun _ => ⟨wi_T_isSo, wl_T_isSo⟩, fun h => absurd h (by decide), fun h => absurd h (by decide)⟩
set_option maxRecDepth 10000 in
theorem ck_X_120 : CK 0 "LieOfTwo" 120 y_T_hasPerson 1 := ⟨wc_T_hasPerson, w0_T, ⟨by decide, by decide, by decide +kernel⟩, (Or.inr ⟨"LieOfTwo", mN (mT4 95 rfl) rfl⟩), fun _ => ⟨wi_T_hasPerson, wl_T_hasPerson⟩, fun h => absurd h (by decide), fun h => absurd h (by decide)⟩
set_option maxRecDepth 10000 in
theorem ck_X_124 : CK 0 "LieOfTwo" 124 y_T_answer 3 := ⟨wc_T_answer, w0_T, ⟨by decide, by decide, by decide +kernel⟩, (Or.inr ⟨"LieOfTwo", mN (mT4 99 rfl) rfl⟩), fun _ => ⟨wi_T_answer, wl_T_answer⟩, fun h => absurd h (by decide), fun h => absurd h (by decide)⟩
set_option maxRecDepth 10000 in
theorem ck_X_128 : CK 0 "LieOfTwo" 128 y_T_hasPersons 1 := ⟨wc_T_hasPersons, w0_T, ⟨by decide, by decide, by decide +kernel⟩, (Or.inr ⟨"LieOfTwo", mN (mT4 107 rfl) rfl⟩), fun _ => ⟨wi_T_hasPersons, wl_T_hasPersons⟩, fun h => absurd h (by decide), fun h => absurd h (by decide)⟩
set_option maxRecDepth 10000 in
theorem ck_X_131 : CK 0 "LieOfTwo" 131 y_T_mayLie 3 := ⟨wc_T_mayLie, w0_T, ⟨by decide, by decide, by decide +kernel⟩, (Or.inr ⟨"LieOfTwo", mN (mT4 111 rfl) rfl⟩), fun _ => ⟨wi_T_mayLie, wl_T_mayLie⟩, fun h => absurd h (by decide), fun h => absurd h (by decide)⟩
set_option maxRecDepth 10000 in
theorem ck_X_135 : CK 0 "LieOfTwo" 135 y_T_putSayable 6 := ⟨wc_T_putSayable, w0_T, ⟨by decide, by decide, by decide +kernel⟩, (Or.inr ⟨"LieOfTwo", mN (mT4 128 rfl) rfl⟩), fun _ => ⟨wi_T_putSayable, wl_T_putSayable⟩, fun h => absurd h (by decide), fun h => absurd h (by decide)⟩
set_option maxRecDepth 10000 in
theorem ck_X_139 : CK 1 "LieOfTwo" 139 y_X_has 3 := ⟨wc_X_has, w0_X, ⟨by decide, by decide, by decide +kernel⟩, (Or.inl (mG (mT4 133 rfl) rfl)), fun h => absurd h (by decide), fun _ => ws_X_has, fun h => absurd h (by decide)⟩
set_option maxRecDepth 10000 in
theorem ck_X_143 : CK 0 "LieOfTwo" 143 y_T_hasRow 1 := ⟨wc_T_hasRow, w0_T, ⟨by decide, by decide, by decide +kernel⟩, (Or.inr ⟨"LieOfTwo", mN (mT4 138 rfl) rfl⟩), fun _ => ⟨wi_T_hasRow, wl_T_hasRow⟩, fun h => absurd h (by decide), fun h => absurd h (by decide)⟩
set_option maxRecDepth 10000 in
theorem ck_X_149 : CK 0 "LieOfTwo" 149 y_Y_add 4 := ⟨wc_Y_add, w0_Y, ⟨by decide, by decide, by decide +kernel⟩, (Or.inr ⟨"LieOfTwo", mN (mT4 139 rfl) rfl⟩), fun _ => ⟨wi_Y_add, wl_Y_add⟩, fun h => absurd h (by decide), fun h => absurd h (by decide)⟩
set_option maxRecDepth 10000 in
theorem ck_X_161 : CK 0 "LieOfTwo" 161 y_W_look 3 := ⟨wc_W_look, w0_W, ⟨by decide, by decide, by decide +kernel⟩, (Or.inr ⟨"LieOfTwo", mN (mT4 156 rfl) rfl⟩), fun _ => ⟨wi_W_look, wl_W_look⟩, fun h => absurd h (by decide), fun h => absurd h (by decide)⟩
set_option maxRecDepth 10000 in
theorem ck_X_173 : CK 0 "LieOfTwo" 173 y_W_sizeOf 1 := ⟨wc_W_sizeOf, w0_W, ⟨by decide, by decide, by decide +kernel⟩, (Or.inr ⟨"LieOfTwo", mN (mT4 174 rfl) rfl⟩), fun _ => ⟨wi_W_sizeOf, wl_W_sizeOf⟩, fun h => absurd h (by decide), fun h => absurd h (by decide)⟩
set_option maxRecDepth 10000 in
theorem ck_X_178 : CK 0 "LieOfTwo" 178 y_W_fewestProving 1 := ⟨wc_W_fewestProving, w0_W, ⟨by decide, by decide, by decide +kernel⟩, (Or.inr ⟨"LieOfTwo", mN (mT4 187 rfl) rfl⟩), fun _ => ⟨wi_W_fewestProving, wl_W_fewestProving⟩, fun h => absurd h (by decide), fun h => absurd h (by decide)⟩
set_option maxRecDepth 10000 in
theorem ck_X_181 : CK 0 "LieOfTwo" 181 y_T_hasWorld 1 := ⟨wc_T_hasWorld, w0_T, ⟨by decide, by decide, by decide +kernel⟩, (Or.inr ⟨"LieOfTwo", mN (mT4 202 rfl) rfl⟩), fun _ => ⟨wi_T_hasWorld, wl_T_hasWorld⟩, fun h => absurd h (by decide), fun h => absurd h (by decide)⟩
set_option maxRecDepth 10000 in
theorem ck_X_193 : CK 0 "LieOfTwo" 193 y_A_choose 2 := ⟨wc_A_choose, w0_A, ⟨by decide, by decide, by decide +kernel⟩, (Or.inr ⟨"LieOfTwo", mN (mT4 207 rfl) rfl⟩), fun _ => ⟨wi_A_choose, wl_A_choose⟩, fun h => absurd h (by decide), fun h => absurd h (by decide)⟩
set_option maxRecDepth 10000 in
theorem ck_X_206 : CK 0 "LieOfTwo" 206 y_A_countAskings 3 := ⟨wc_A_countAskings, w0_A, ⟨by decide, by decide, by decide +kernel⟩, (Or.inr ⟨"LieOfTwo", mN (mT4 220 rfl) rfl⟩), fun _ => ⟨wi_A_countAskings, wl_A_countAskings⟩, fun h => absurd h (by decide), fun h => absurd h (by decide)⟩
set_option maxRecDepth 10000 in
theorem ck_X_210 : CK 0 "LieOfTwo" 210 y_T_fooled 3 := ⟨wc_T_fooled, w0_T, ⟨by decide, by decide, by decide +kernel⟩, (Or.inr ⟨"LieOfTwo", mN (mT5 21 rfl) rfl⟩), fun _ => ⟨wi_T_fooled, wl_T_fooled⟩, fun h => absurd h (by decide), fun h => absurd h (by decide)⟩
set_option maxRecDepth 10000 in
theorem ck_X_213 : CK 0 "LieOfTwo" 213 y_T_bestPartner 3 := ⟨wc_T_bestPartner, w0_T, ⟨by decide, by decide, by decide +kernel⟩, (Or.inr ⟨"LieOfTwo", mN (mT5 30 rfl) rfl⟩), fun _ => ⟨wi_T_bestPartner, wl_T_bestPartner⟩, fun h => absurd h (by decide), fun h => absurd h (by decide)⟩
set_option maxRecDepth 10000 in
theorem ck_X_216 : CK 0 "LieOfTwo" 216 y_P_settleGains 2 := ⟨wc_P_settleGains, w0_P, ⟨by decide, by decide, by decide +kernel⟩, (Or.inr ⟨"LieOfTwo", mN (mT5 47 rfl) rfl⟩), fun _ => ⟨wi_P_settleGains, wl_P_settleGains⟩, fun h => absurd h (by decide), fun h => absurd h (by decide)⟩
set_option maxRecDepth 10000 in
theorem ck_X_225 : CK 1 "LieOfTwo" 225 y_X_commonDivisor 2 := ⟨wc_X_commonDivisor, w0_X, ⟨by decide, by decide, by decide +kernel⟩, (Or.inl (mG (mT5 66 rfl) rfl)), fun h => absurd h (by decide), fun _ => ws_X_commonDivisor, fun h => absurd h (by decide)⟩
set_option maxRecDepth 10000 in
theorem ck_X_229 : CK 0 "LieOfTwo" 229 y_C_watch 3 := ⟨wc_C_watch, w0_C, ⟨by decide, by decide, by decide +kernel⟩, (Or.inr ⟨"LieOfTwo", mN (mT5 73 rfl) rfl⟩), fun _ => ⟨wi_C_watch, wl_C_watch⟩, fun h => absurd h (by decide), fun h => absurd h (by decide)⟩
set_option maxRecDepth 10000 in
theorem ck_X_233 : CK 0 "LieOfTwo" 233 y_C_fewestIn 2 := ⟨wc_C_fewestIn, w0_C, ⟨by decide, by decide, by decide +kernel⟩, (Or.inr ⟨"LieOfTwo", mN (mT5 83 rfl) rfl⟩), fun _ => ⟨wi_C_fewestIn, wl_C_fewestIn⟩, fun h => absurd h (by decide), fun h => absurd h (by decide)⟩
set_option maxRecDepth 10000 in
theorem ck_X_236 : CK 0 "LieOfTwo" 236 y_T_countAnswering 3 := ⟨wc_T_countAnswering, w0_T, ⟨by decide, by decide, by decide +kernel⟩, (Or.inr ⟨"LieOfTwo", mN (mT5 108 rfl) rfl⟩), fun _ => ⟨wi_T_countAnswering, wl_T_countAnswering⟩, fun h => absurd h (by decide), fun h => absurd h (by decide)⟩
set_option maxRecDepth 10000 in
theorem ck_X_239 : CK 0 "LieOfTwo" 239 y_P_fewestTurning 4 := ⟨wc_P_fewestTurning, w0_P, ⟨by decide, by decide, by decide +kernel⟩, (Or.inr ⟨"LieOfTwo", mN (mT5 112 rfl) rfl⟩), fun _ => ⟨wi_P_fewestTurning, wl_P_fewestTurning⟩, fun h => absurd h (by decide), fun h => absurd h (by decide)⟩
set_option maxRecDepth 10000 in
theorem ck_X_243 : CK 0 "LieOfTwo" 243 y_Y_copy 1 := ⟨wc_Y_copy, w0_Y, ⟨by decide, by decide, by decide +kernel⟩, (Or.inr ⟨"LieOfTwo", mN (mT5 129 rfl) rfl⟩), fun _ => ⟨wi_Y_copy, wl_Y_copy⟩, fun h => absurd h (by decide), fun h => absurd h (by decide)⟩
set_option maxRecDepth 10000 in
theorem ck_X_256 : CK 1 "LieOfTwo" 256 y_JL_bitCount 1 := ⟨wc_JL_bitCount, w0_JL, ⟨by decide, by decide, by decide +kernel⟩, (Or.inl (mG (mT4 58 rfl) rfl)), fun h => absurd h (by decide), fun _ => ws_JL_bitCount, fun h => absurd h (by decide)⟩
set_option maxRecDepth 10000 in
theorem ck_A_31 : CK 1 "LieOfTwo$Asker" 31 y_T_place 2 := ⟨wc_T_place, w0_T, ⟨by decide, by decide, by decide +kernel⟩, (Or.inr ⟨"LieOfTwo", mN (mT4 211 rfl) rfl⟩), fun h => absurd h (by decide), fun _ => ws_T_place, fun h => absurd h (by decide)⟩
set_option maxRecDepth 10000 in
theorem ck_A_38 : CK 0 "LieOfTwo$Asker" 38 y_W_sizeWith 2 := ⟨wc_W_sizeWith, w0_W, ⟨by decide, by decide, by decide +kernel⟩, (Or.inr ⟨"LieOfTwo", mN (mT4 212 rfl) rfl⟩), fun _ => ⟨wi_W_sizeWith, wl_W_sizeWith⟩, fun h => absurd h (by decide), fun h => absurd h (by decide)⟩
set_option maxRecDepth 10000 in
theorem ck_A_80 : CK 0 "LieOfTwo$Asker" 80 y_A_isTold 1 := ⟨wc_A_isTold, w0_A, ⟨by decide, by decide, by decide +kernel⟩, (Or.inl (mG (mT4 225 rfl) rfl)), fun _ => ⟨wi_A_isTold, wl_A_isTold⟩, fun h => absurd h (by decide), fun h => absurd h (by decide)⟩
set_option maxRecDepth 10000 in
theorem ck_A_84 : CK 0 "LieOfTwo$Asker" 84 y_A_oneIsEnough 1 := ⟨wc_A_oneIsEnough, w0_A, ⟨by decide, by decide, by decide +kernel⟩, (Or.inl (mG (mT4 230 rfl) rfl)), fun _ => ⟨wi_A_oneIsEnough, wl_A_oneIsEnough⟩, fun h => absurd h (by decide), fun h => absurd h (by decide)⟩
set_option maxRecDepth 10000 in
theorem ck_A_87 : CK 0 "LieOfTwo$Asker" 87 y_A_twoAreEnough 0 := ⟨wc_A_twoAreEnough, w0_A, ⟨by decide, by decide, by decide +kernel⟩, (Or.inl (mG (mT5 1 rfl) rfl)), fun _ => ⟨wi_A_twoAreEnough, wl_A_twoAreEnough⟩, fun h => absurd h (by decide), fun h => absurd h (by decide)⟩
set_option maxRecDepth 10000 in
theorem ck_A_96 : CK 0 "LieOfTwo$Asker" 96 y_A_tells 2 := ⟨wc_A_tells, w0_A, ⟨by decide, by decide, by decide +kernel⟩, (Or.inl (mG (mT4 234 rfl) rfl)), fun _ => ⟨wi_A_tells, wl_A_tells⟩, fun h => absurd h (by decide), fun h => absurd h (by decide)⟩
set_option maxRecDepth 10000 in
theorem ck_A_100 : CK 1 "LieOfTwo$Asker" 100 y_A_answersIn 3 := ⟨wc_A_answersIn, w0_A, ⟨by decide, by decide, by decide +kernel⟩, (Or.inl (mG (mT4 238 rfl) rfl)), fun h => absurd h (by decide), fun _ => ws_A_answersIn, fun h => absurd h (by decide)⟩
set_option maxRecDepth 10000 in
theorem ck_A_104 : CK 0 "LieOfTwo$Asker" 104 y_A_split 1 := ⟨wc_A_split, w0_A, ⟨by decide, by decide, by decide +kernel⟩, (Or.inl (mG (mT5 5 rfl) rfl)), fun _ => ⟨wi_A_split, wl_A_split⟩, fun h => absurd h (by decide), fun h => absurd h (by decide)⟩
set_option maxRecDepth 10000 in
theorem ck_A_108 : CK 0 "LieOfTwo$Asker" 108 y_A_eachIsTold 0 := ⟨wc_A_eachIsTold, w0_A, ⟨by decide, by decide, by decide +kernel⟩, (Or.inl (mG (mT5 9 rfl) rfl)), fun _ => ⟨wi_A_eachIsTold, wl_A_eachIsTold⟩, fun h => absurd h (by decide), fun h => absurd h (by decide)⟩
set_option maxRecDepth 10000 in
theorem ck_A_111 : CK 0 "LieOfTwo$Asker" 111 y_A_isWhole 1 := ⟨wc_A_isWhole, w0_A, ⟨by decide, by decide, by decide +kernel⟩, (Or.inl (mG (mT5 13 rfl) rfl)), fun _ => ⟨wi_A_isWhole, wl_A_isWhole⟩, fun h => absurd h (by decide), fun h => absurd h (by decide)⟩
set_option maxRecDepth 10000 in
theorem ck_C_50 : CK 1 "LieOfTwo$Covering" 50 y_JI_bitCount 1 := ⟨wc_JI_bitCount, w0_JI, ⟨by decide, by decide, by decide +kernel⟩, (Or.inl (mG (mT5 77 rfl) rfl)), fun h => absurd h (by decide), fun _ => ws_JI_bitCount, fun h => absurd h (by decide)⟩
set_option maxRecDepth 10000 in
theorem ck_C_56 : CK 0 "LieOfTwo$Covering" 56 y_C_notePairs 1 := ⟨wc_C_notePairs, w0_C, ⟨by decide, by decide, by decide +kernel⟩, (Or.inl (mG (mT5 78 rfl) rfl)), fun _ => ⟨wi_C_notePairs, wl_C_notePairs⟩, fun h => absurd h (by decide), fun h => absurd h (by decide)⟩
set_option maxRecDepth 10000 in
theorem ck_C_64 : CK 1 "LieOfTwo$Covering" 64 y_X_hasBit 2 := ⟨wc_X_hasBit, w0_X, ⟨by decide, by decide, by decide +kernel⟩, (Or.inr ⟨"LieOfTwo", mN (mT5 82 rfl) rfl⟩), fun h => absurd h (by decide), fun _ => ws_X_hasBit, fun h => absurd h (by decide)⟩
set_option maxRecDepth 10000 in
theorem ck_C_71 : CK 0 "LieOfTwo$Covering" 71 y_T_isSo 2 := ⟨wc_T_isSo, w0_T, ⟨by decide, by decide, by decide +kernel⟩, (Or.inr ⟨"LieOfTwo", mN (mT5 87 rfl) rfl⟩), fun _ => ⟨wi_T_isSo, wl_T_isSo⟩, fun h => absurd h (by decide), fun h => absurd h (by decide)⟩
set_option maxRecDepth 10000 in
theorem ck_C_74 : CK 0 "LieOfTwo$Covering" 74 y_C_fewestFor 3 := ⟨wc_C_fewestFor, w0_C, ⟨by decide, by decide, by decide +kernel⟩, (Or.inl (mG (mT5 88 rfl) rfl)), fun _ => ⟨wi_C_fewestFor, wl_C_fewestFor⟩, fun h => absurd h (by decide), fun h => absurd h (by decide)⟩
set_option maxRecDepth 10000 in
theorem ck_C_78 : CK 0 "LieOfTwo$Covering" 78 y_C_tightest 2 := ⟨wc_C_tightest, w0_C, ⟨by decide, by decide, by decide +kernel⟩, (Or.inl (mG (mT5 92 rfl) rfl)), fun _ => ⟨wi_C_tightest, wl_C_tightest⟩, fun h => absurd h (by decide), fun h => absurd h (by decide)⟩
set_option maxRecDepth 10000 in
theorem ck_W_48 : CK 0 "LieOfTwo$Known" 48 y_Y_counts 2 := ⟨wc_Y_counts, w0_Y, ⟨by decide, by decide, by decide +kernel⟩, (Or.inr ⟨"LieOfTwo", mN (mT4 161 rfl) rfl⟩), fun _ => ⟨wi_Y_counts, wl_Y_counts⟩, fun h => absurd h (by decide), fun h => absurd h (by decide)⟩
set_option maxRecDepth 10000 in
theorem ck_W_55 : CK 1 "LieOfTwo$Known" 55 y_X_sizeOfSet 3 := ⟨wc_X_sizeOfSet, w0_X, ⟨by decide, by decide, by decide +kernel⟩, (Or.inr ⟨"LieOfTwo", mN (mT4 165 rfl) rfl⟩), fun h => absurd h (by decide), fun _ => ws_X_sizeOfSet, fun h => absurd h (by decide)⟩
set_option maxRecDepth 10000 in
theorem ck_W_65 : CK 0 "LieOfTwo$Known" 65 y_W_sizeWith 2 := ⟨wc_W_sizeWith, w0_W, ⟨by decide, by decide, by decide +kernel⟩, (Or.inl (mG (mT4 178 rfl) rfl)), fun _ => ⟨wi_W_sizeWith, wl_W_sizeWith⟩, fun h => absurd h (by decide), fun h => absurd h (by decide)⟩
set_option maxRecDepth 10000 in
theorem ck_W_69 : CK 1 "LieOfTwo$Known" 69 y_JL_bitCount 1 := ⟨wc_JL_bitCount, w0_JL, ⟨by decide, by decide, by decide +kernel⟩, (Or.inl (mG (mT4 182 rfl) rfl)), fun h => absurd h (by decide), fun _ => ws_JL_bitCount, fun h => absurd h (by decide)⟩
set_option maxRecDepth 10000 in
theorem ck_W_75 : CK 1 "LieOfTwo$Known" 75 y_JI_bitCount 1 := ⟨wc_JI_bitCount, w0_JI, ⟨by decide, by decide, by decide +kernel⟩, (Or.inl (mG (mT4 191 rfl) rfl)), fun h => absurd h (by decide), fun _ => ws_JI_bitCount, fun h => absurd h (by decide)⟩
set_option maxRecDepth 10000 in
theorem ck_W_80 : CK 0 "LieOfTwo$Known" 80 y_W_proves 2 := ⟨wc_W_proves, w0_W, ⟨by decide, by decide, by decide +kernel⟩, (Or.inl (mG (mT4 192 rfl) rfl)), fun _ => ⟨wi_W_proves, wl_W_proves⟩, fun h => absurd h (by decide), fun h => absurd h (by decide)⟩
set_option maxRecDepth 10000 in
theorem ck_W_85 : CK 1 "LieOfTwo$Known" 85 y_X_hasBit 2 := ⟨wc_X_hasBit, w0_X, ⟨by decide, by decide, by decide +kernel⟩, (Or.inr ⟨"LieOfTwo", mN (mT4 197 rfl) rfl⟩), fun h => absurd h (by decide), fun _ => ws_X_hasBit, fun h => absurd h (by decide)⟩
set_option maxRecDepth 10000 in
theorem ck_N_58 : CK 0 "LieOfTwo$Lines" 58 y_T_clear 0 := ⟨wc_T_clear, w0_T, ⟨by decide, by decide, by decide +kernel⟩, (Or.inr ⟨"LieOfTwo", mN (mT2 229 rfl) rfl⟩), fun _ => ⟨wi_T_clear, wl_T_clear⟩, fun h => absurd h (by decide), fun h => absurd h (by decide)⟩
set_option maxRecDepth 10000 in
theorem ck_N_74 : CK 0 "LieOfTwo$Lines" 74 y_K_start 1 := ⟨wc_K_start, w0_K, ⟨by decide, by decide, by decide +kernel⟩, (Or.inr ⟨"LieOfTwo", mN (mT2 230 rfl) rfl⟩), fun _ => ⟨wi_K_start, wl_K_start⟩, fun h => absurd h (by decide), fun h => absurd h (by decide)⟩
set_option maxRecDepth 10000 in
theorem ck_N_78 : CK 0 "LieOfTwo$Lines" 78 y_K_goesOn 0 := ⟨wc_K_goesOn, w0_K, ⟨by decide, by decide, by decide +kernel⟩, (Or.inr ⟨"LieOfTwo", mN (mT3 22 rfl) rfl⟩), fun _ => ⟨wi_K_goesOn, wl_K_goesOn⟩, fun h => absurd h (by decide), fun h => absurd h (by decide)⟩
set_option maxRecDepth 10000 in
theorem ck_N_85 : CK 0 "LieOfTwo$Lines" 85 y_N_readFact 0 := ⟨wc_N_readFact, w0_N, ⟨by decide, by decide, by decide +kernel⟩, (Or.inl (mG (mT3 26 rfl) rfl)), fun _ => ⟨wi_N_readFact, wl_N_readFact⟩, fun h => absurd h (by decide), fun h => absurd h (by decide)⟩
set_option maxRecDepth 10000 in
theorem ck_N_88 : CK 0 "LieOfTwo$Lines" 88 y_N_readPerson 0 := ⟨wc_N_readPerson, w0_N, ⟨by decide, by decide, by decide +kernel⟩, (Or.inl (mG (mT3 64 rfl) rfl)), fun _ => ⟨wi_N_readPerson, wl_N_readPerson⟩, fun h => absurd h (by decide), fun h => absurd h (by decide)⟩
set_option maxRecDepth 10000 in
theorem ck_N_91 : CK 0 "LieOfTwo$Lines" 91 y_N_readRow 0 := ⟨wc_N_readRow, w0_N, ⟨by decide, by decide, by decide +kernel⟩, (Or.inl (mG (mT3 83 rfl) rfl)), fun _ => ⟨wi_N_readRow, wl_N_readRow⟩, fun h => absurd h (by decide), fun h => absurd h (by decide)⟩
set_option maxRecDepth 10000 in
theorem ck_N_94 : CK 0 "LieOfTwo$Lines" 94 y_N_readAlways 0 := ⟨wc_N_readAlways, w0_N, ⟨by decide, by decide, by decide +kernel⟩, (Or.inl (mG (mT3 119 rfl) rfl)), fun _ => ⟨wi_N_readAlways, wl_N_readAlways⟩, fun h => absurd h (by decide), fun h => absurd h (by decide)⟩
set_option maxRecDepth 10000 in
theorem ck_N_97 : CK 0 "LieOfTwo$Lines" 97 y_N_readTie 0 := ⟨wc_N_readTie, w0_N, ⟨by decide, by decide, by decide +kernel⟩, (Or.inl (mG (mT3 123 rfl) rfl)), fun _ => ⟨wi_N_readTie, wl_N_readTie⟩, fun h => absurd h (by decide), fun h => absurd h (by decide)⟩
set_option maxRecDepth 10000 in
theorem ck_N_100 : CK 0 "LieOfTwo$Lines" 100 y_N_readWish 0 := ⟨wc_N_readWish, w0_N, ⟨by decide, by decide, by decide +kernel⟩, (Or.inl (mG (mT3 127 rfl) rfl)), fun _ => ⟨wi_N_readWish, wl_N_readWish⟩, fun h => absurd h (by decide), fun h => absurd h (by decide)⟩
set_option maxRecDepth 10000 in
theorem ck_N_103 : CK 0 "LieOfTwo$Lines" 103 y_N_readLaw 0 := ⟨wc_N_readLaw, w0_N, ⟨by decide, by decide, by decide +kernel⟩, (Or.inl (mG (mT3 131 rfl) rfl)), fun _ => ⟨wi_N_readLaw, wl_N_readLaw⟩, fun h => absurd h (by decide), fun h => absurd h (by decide)⟩
set_option maxRecDepth 10000 in
theorem ck_N_106 : CK 0 "LieOfTwo$Lines" 106 y_K_fail 1 := ⟨wc_K_fail, w0_K, ⟨by decide, by decide, by decide +kernel⟩, (Or.inr ⟨"LieOfTwo", mN (mT3 35 rfl) rfl⟩), fun _ => ⟨wi_K_fail, wl_K_fail⟩, fun h => absurd h (by decide), fun h => absurd h (by decide)⟩
set_option maxRecDepth 10000 in
theorem ck_N_109 : CK 0 "LieOfTwo$Lines" 109 y_K_pass 0 := ⟨wc_K_pass, w0_K, ⟨by decide, by decide, by decide +kernel⟩, (Or.inr ⟨"LieOfTwo", mN (mT3 34 rfl) rfl⟩), fun _ => ⟨wi_K_pass, wl_K_pass⟩, fun h => absurd h (by decide), fun h => absurd h (by decide)⟩
set_option maxRecDepth 10000 in
theorem ck_N_116 : CK 0 "LieOfTwo$Lines" 116 y_N_seesName 0 := ⟨wc_N_seesName, w0_N, ⟨by decide, by decide, by decide +kernel⟩, (Or.inl (mG (mT3 40 rfl) rfl)), fun _ => ⟨wi_N_seesName, wl_N_seesName⟩, fun h => absurd h (by decide), fun h => absurd h (by decide)⟩
set_option maxRecDepth 10000 in
theorem ck_N_119 : CK 0 "LieOfTwo$Lines" 119 y_N_findFact 0 := ⟨wc_N_findFact, w0_N, ⟨by decide, by decide, by decide +kernel⟩, (Or.inl (mG (mT3 44 rfl) rfl)), fun _ => ⟨wi_N_findFact, wl_N_findFact⟩, fun h => absurd h (by decide), fun h => absurd h (by decide)⟩
set_option maxRecDepth 10000 in
theorem ck_N_123 : CK 0 "LieOfTwo$Lines" 123 y_N_findRow 0 := ⟨wc_N_findRow, w0_N, ⟨by decide, by decide, by decide +kernel⟩, (Or.inl (mG (mT3 52 rfl) rfl)), fun _ => ⟨wi_N_findRow, wl_N_findRow⟩, fun h => absurd h (by decide), fun h => absurd h (by decide)⟩
set_option maxRecDepth 10000 in
theorem ck_N_126 : CK 0 "LieOfTwo$Lines" 126 y_N_takeName 0 := ⟨wc_N_takeName, w0_N, ⟨by decide, by decide, by decide +kernel⟩, (Or.inl (mG (mT3 56 rfl) rfl)), fun _ => ⟨wi_N_takeName, wl_N_takeName⟩, fun h => absurd h (by decide), fun h => absurd h (by decide)⟩
set_option maxRecDepth 10000 in
theorem ck_N_133 : CK 0 "LieOfTwo$Lines" 133 y_N_find 2 := ⟨wc_N_find, w0_N, ⟨by decide, by decide, by decide +kernel⟩, (Or.inl (mG (mT3 48 rfl) rfl)), fun _ => ⟨wi_N_find, wl_N_find⟩, fun h => absurd h (by decide), fun h => absurd h (by decide)⟩
set_option maxRecDepth 10000 in
theorem ck_N_146 : CK 0 "LieOfTwo$Lines" 146 y_N_begin 1 := ⟨wc_N_begin, w0_N, ⟨by decide, by decide, by decide +kernel⟩, (Or.inl (mG (mT3 30 rfl) rfl)), fun _ => ⟨wi_N_begin, wl_N_begin⟩, fun h => absurd h (by decide), fun h => absurd h (by decide)⟩
set_option maxRecDepth 10000 in
theorem ck_N_150 : CK 0 "LieOfTwo$Lines" 150 y_N_readNewOfFactsAndRows 0 := ⟨wc_N_readNewOfFactsAndRows, w0_N, ⟨by decide, by decide, by decide +kernel⟩, (Or.inl (mG (mT3 36 rfl) rfl)), fun _ => ⟨wi_N_readNewOfFactsAndRows, wl_N_readNewOfFactsAndRows⟩, fun h => absurd h (by decide), fun h => absurd h (by decide)⟩
set_option maxRecDepth 10000 in
theorem ck_N_153 : CK 0 "LieOfTwo$Lines" 153 y_K_expect 1 := ⟨wc_K_expect, w0_K, ⟨by decide, by decide, by decide +kernel⟩, (Or.inr ⟨"LieOfTwo", mN (mT3 60 rfl) rfl⟩), fun _ => ⟨wi_K_expect, wl_K_expect⟩, fun h => absurd h (by decide), fun h => absurd h (by decide)⟩
set_option maxRecDepth 10000 in
theorem ck_N_156 : CK 0 "LieOfTwo$Lines" 156 y_N_readSmall 0 := ⟨wc_N_readSmall, w0_N, ⟨by decide, by decide, by decide +kernel⟩, (Or.inl (mG (mT3 68 rfl) rfl)), fun _ => ⟨wi_N_readSmall, wl_N_readSmall⟩, fun h => absurd h (by decide), fun h => absurd h (by decide)⟩
set_option maxRecDepth 10000 in
theorem ck_N_159 : CK 0 "LieOfTwo$Lines" 159 y_N_readKnown 0 := ⟨wc_N_readKnown, w0_N, ⟨by decide, by decide, by decide +kernel⟩, (Or.inl (mG (mT3 72 rfl) rfl)), fun _ => ⟨wi_N_readKnown, wl_N_readKnown⟩, fun h => absurd h (by decide), fun h => absurd h (by decide)⟩
set_option maxRecDepth 10000 in
theorem ck_N_168 : CK 0 "LieOfTwo$Lines" 168 y_N_readFactBit 1 := ⟨wc_N_readFactBit, w0_N, ⟨by decide, by decide, by decide +kernel⟩, (Or.inl (mG (mT3 76 rfl) rfl)), fun _ => ⟨wi_N_readFactBit, wl_N_readFactBit⟩, fun h => absurd h (by decide), fun h => absurd h (by decide)⟩
set_option maxRecDepth 10000 in
theorem ck_N_172 : CK 1 "LieOfTwo$Lines" 172 y_X_hasBit 2 := ⟨wc_X_hasBit, w0_X, ⟨by decide, by decide, by decide +kernel⟩, (Or.inr ⟨"LieOfTwo", mN (mT3 80 rfl) rfl⟩), fun h => absurd h (by decide), fun _ => ws_X_hasBit, fun h => absurd h (by decide)⟩
set_option maxRecDepth 10000 in
theorem ck_N_182 : CK 0 "LieOfTwo$Lines" 182 y_N_readE 1 := ⟨wc_N_readE, w0_N, ⟨by decide, by decide, by decide +kernel⟩, (Or.inl (mG (mT3 87 rfl) rfl)), fun _ => ⟨wi_N_readE, wl_N_readE⟩, fun h => absurd h (by decide), fun h => absurd h (by decide)⟩
set_option maxRecDepth 10000 in
theorem ck_N_188 : CK 0 "LieOfTwo$Lines" 188 y_N_seePerson 0 := ⟨wc_N_seePerson, w0_N, ⟨by decide, by decide, by decide +kernel⟩, (Or.inl (mG (mT3 115 rfl) rfl)), fun _ => ⟨wi_N_seePerson, wl_N_seePerson⟩, fun h => absurd h (by decide), fun h => absurd h (by decide)⟩
set_option maxRecDepth 10000 in
theorem ck_N_212 : CK 0 "LieOfTwo$Lines" 212 y_N_readF 1 := ⟨wc_N_readF, w0_N, ⟨by decide, by decide, by decide +kernel⟩, (Or.inl (mG (mT3 135 rfl) rfl)), fun _ => ⟨wi_N_readF, wl_N_readF⟩, fun h => absurd h (by decide), fun h => absurd h (by decide)⟩
set_option maxRecDepth 10000 in
theorem ck_N_218 : CK 0 "LieOfTwo$Lines" 218 y_N_readAlt 1 := ⟨wc_N_readAlt, w0_N, ⟨by decide, by decide, by decide +kernel⟩, (Or.inl (mG (mT3 91 rfl) rfl)), fun _ => ⟨wi_N_readAlt, wl_N_readAlt⟩, fun h => absurd h (by decide), fun h => absurd h (by decide)⟩
set_option maxRecDepth 10000 in
theorem ck_N_221 : CK 0 "LieOfTwo$Lines" 221 y_S_add 2 := ⟨wc_S_add, w0_S, ⟨by decide, by decide, by decide +kernel⟩, (Or.inr ⟨"LieOfTwo", mN (mT3 111 rfl) rfl⟩), fun _ => ⟨wi_S_add, wl_S_add⟩, fun h => absurd h (by decide), fun h => absurd h (by decide)⟩
set_option maxRecDepth 10000 in
theorem ck_N_225 : CK 0 "LieOfTwo$Lines" 225 y_N_readBoth 1 := ⟨wc_N_readBoth, w0_N, ⟨by decide, by decide, by decide +kernel⟩, (Or.inl (mG (mT3 95 rfl) rfl)), fun _ => ⟨wi_N_readBoth, wl_N_readBoth⟩, fun h => absurd h (by decide), fun h => absurd h (by decide)⟩
set_option maxRecDepth 10000 in
theorem ck_N_228 : CK 0 "LieOfTwo$Lines" 228 y_N_readOne 1 := ⟨wc_N_readOne, w0_N, ⟨by decide, by decide, by decide +kernel⟩, (Or.inl (mG (mT3 99 rfl) rfl)), fun _ => ⟨wi_N_readOne, wl_N_readOne⟩, fun h => absurd h (by decide), fun h => absurd h (by decide)⟩
set_option maxRecDepth 10000 in
theorem ck_N_231 : CK 0 "LieOfTwo$Lines" 231 y_N_readUnit 1 := ⟨wc_N_readUnit, w0_N, ⟨by decide, by decide, by decide +kernel⟩, (Or.inl (mG (mT3 103 rfl) rfl)), fun _ => ⟨wi_N_readUnit, wl_N_readUnit⟩, fun h => absurd h (by decide), fun h => absurd h (by decide)⟩
set_option maxRecDepth 10000 in
theorem ck_N_237 : CK 0 "LieOfTwo$Lines" 237 y_N_takesUnit 2 := ⟨wc_N_takesUnit, w0_N, ⟨by decide, by decide, by decide +kernel⟩, (Or.inl (mG (mT3 107 rfl) rfl)), fun _ => ⟨wi_N_takesUnit, wl_N_takesUnit⟩, fun h => absurd h (by decide), fun h => absurd h (by decide)⟩
set_option maxRecDepth 10000 in
theorem ck_N_241 : CK 0 "LieOfTwo$Lines" 241 y_N_readAny 1 := ⟨wc_N_readAny, w0_N, ⟨by decide, by decide, by decide +kernel⟩, (Or.inl (mG (mT3 139 rfl) rfl)), fun _ => ⟨wi_N_readAny, wl_N_readAny⟩, fun h => absurd h (by decide), fun h => absurd h (by decide)⟩
set_option maxRecDepth 10000 in
theorem ck_N_244 : CK 0 "LieOfTwo$Lines" 244 y_N_readSum 1 := ⟨wc_N_readSum, w0_N, ⟨by decide, by decide, by decide +kernel⟩, (Or.inl (mG (mT3 143 rfl) rfl)), fun _ => ⟨wi_N_readSum, wl_N_readSum⟩, fun h => absurd h (by decide), fun h => absurd h (by decide)⟩
set_option maxRecDepth 10000 in
theorem ck_N_247 : CK 0 "LieOfTwo$Lines" 247 y_N_readPart 1 := ⟨wc_N_readPart, w0_N, ⟨by decide, by decide, by decide +kernel⟩, (Or.inl (mG (mT3 147 rfl) rfl)), fun _ => ⟨wi_N_readPart, wl_N_readPart⟩, fun h => absurd h (by decide), fun h => absurd h (by decide)⟩
set_option maxRecDepth 10000 in
theorem ck_N_253 : CK 0 "LieOfTwo$Lines" 253 y_N_fillLaw 0 := ⟨wc_N_fillLaw, w0_N, ⟨by decide, by decide, by decide +kernel⟩, (Or.inl (mG (mT3 155 rfl) rfl)), fun _ => ⟨wi_N_fillLaw, wl_N_fillLaw⟩, fun h => absurd h (by decide), fun h => absurd h (by decide)⟩
set_option maxRecDepth 10000 in
theorem ck_N_256 : CK 0 "LieOfTwo$Lines" 256 y_N_fillRows 1 := ⟨wc_N_fillRows, w0_N, ⟨by decide, by decide, by decide +kernel⟩, (Or.inl (mG (mT3 169 rfl) rfl)), fun _ => ⟨wi_N_fillRows, wl_N_fillRows⟩, fun h => absurd h (by decide), fun h => absurd h (by decide)⟩
set_option maxRecDepth 10000 in
theorem ck_N_262 : CK 0 "LieOfTwo$Lines" 262 y_T_allOfWord 0 := ⟨wc_T_allOfWord, w0_T, ⟨by decide, by decide, by decide +kernel⟩, (Or.inr ⟨"LieOfTwo", mN (mT3 224 rfl) rfl⟩), fun _ => ⟨wi_T_allOfWord, wl_T_allOfWord⟩, fun h => absurd h (by decide), fun h => absurd h (by decide)⟩
set_option maxRecDepth 10000 in
theorem ck_N_265 : CK 0 "LieOfTwo$Lines" 265 y_S_putSet 3 := ⟨wc_S_putSet, w0_S, ⟨by decide, by decide, by decide +kernel⟩, (Or.inr ⟨"LieOfTwo", mN (mT3 173 rfl) rfl⟩), fun _ => ⟨wi_S_putSet, wl_S_putSet⟩, fun h => absurd h (by decide), fun h => absurd h (by decide)⟩
set_option maxRecDepth 10000 in
theorem ck_N_272 : CK 0 "LieOfTwo$Lines" 272 y_T_keepBase 2 := ⟨wc_T_keepBase, w0_T, ⟨by decide, by decide, by decide +kernel⟩, (Or.inr ⟨"LieOfTwo", mN (mT3 225 rfl) rfl⟩), fun _ => ⟨wi_T_keepBase, wl_T_keepBase⟩, fun h => absurd h (by decide), fun h => absurd h (by decide)⟩
set_option maxRecDepth 10000 in
theorem ck_N_282 : CK 0 "LieOfTwo$Lines" 282 y_T_fillAnswers 0 := ⟨wc_T_fillAnswers, w0_T, ⟨by decide, by decide, by decide +kernel⟩, (Or.inr ⟨"LieOfTwo", mN (mT3 226 rfl) rfl⟩), fun _ => ⟨wi_T_fillAnswers, wl_T_fillAnswers⟩, fun h => absurd h (by decide), fun h => absurd h (by decide)⟩
set_option maxRecDepth 10000 in
theorem ck_N_291 : CK 0 "LieOfTwo$Lines" 291 y_S_value 3 := ⟨wc_S_value, w0_S, ⟨by decide, by decide, by decide +kernel⟩, (Or.inr ⟨"LieOfTwo", mN (mT3 159 rfl) rfl⟩), fun _ => ⟨wi_S_value, wl_S_value⟩, fun h => absurd h (by decide), fun h => absurd h (by decide)⟩
set_option maxRecDepth 10000 in
theorem ck_P_25 : CK 0 "LieOfTwo$Pairing" 25 y_T_mostWished 2 := ⟨wc_T_mostWished, w0_T, ⟨by decide, by decide, by decide +kernel⟩, (Or.inr ⟨"LieOfTwo", mN (mT5 51 rfl) rfl⟩), fun _ => ⟨wi_T_mostWished, wl_T_mostWished⟩, fun h => absurd h (by decide), fun h => absurd h (by decide)⟩
set_option maxRecDepth 10000 in
theorem ck_P_38 : CK 0 "LieOfTwo$Pairing" 38 y_P_seekMost 4 := ⟨wc_P_seekMost, w0_P, ⟨by decide, by decide, by decide +kernel⟩, (Or.inl (mG (mT5 57 rfl) rfl)), fun _ => ⟨wi_P_seekMost, wl_P_seekMost⟩, fun h => absurd h (by decide), fun h => absurd h (by decide)⟩
set_option maxRecDepth 10000 in
theorem ck_P_42 : CK 0 "LieOfTwo$Pairing" 42 y_T_pairOf 1 := ⟨wc_T_pairOf, w0_T, ⟨by decide, by decide, by decide +kernel⟩, (Or.inr ⟨"LieOfTwo", mN (mT5 61 rfl) rfl⟩), fun _ => ⟨wi_T_pairOf, wl_T_pairOf⟩, fun h => absurd h (by decide), fun h => absurd h (by decide)⟩
set_option maxRecDepth 10000 in
theorem ck_P_55 : CK 0 "LieOfTwo$Pairing" 55 y_P_voice 3 := ⟨wc_P_voice, w0_P, ⟨by decide, by decide, by decide +kernel⟩, (Or.inl (mG (mT5 116 rfl) rfl)), fun _ => ⟨wi_P_voice, wl_P_voice⟩, fun h => absurd h (by decide), fun h => absurd h (by decide)⟩
set_option maxRecDepth 10000 in
theorem ck_P_62 : CK 0 "LieOfTwo$Pairing" 62 y_P_seekFewest 4 := ⟨wc_P_seekFewest, w0_P, ⟨by decide, by decide, by decide +kernel⟩, (Or.inl (mG (mT5 121 rfl) rfl)), fun _ => ⟨wi_P_seekFewest, wl_P_seekFewest⟩, fun h => absurd h (by decide), fun h => absurd h (by decide)⟩
set_option maxRecDepth 10000 in
theorem ck_P_65 : CK 0 "LieOfTwo$Pairing" 65 y_T_answer 3 := ⟨wc_T_answer, w0_T, ⟨by decide, by decide, by decide +kernel⟩, (Or.inr ⟨"LieOfTwo", mN (mT5 120 rfl) rfl⟩), fun _ => ⟨wi_T_answer, wl_T_answer⟩, fun h => absurd h (by decide), fun h => absurd h (by decide)⟩
set_option maxRecDepth 10000 in
theorem ck_S_26 : CK 0 "LieOfTwo$Steps" 26 y_S_push 4 := ⟨wc_S_push, w0_S, ⟨by decide, by decide, by decide +kernel⟩, (Or.inl (mG (mT3 177 rfl) rfl)), fun _ => ⟨wi_S_push, wl_S_push⟩, fun h => absurd h (by decide), fun h => absurd h (by decide)⟩
set_option maxRecDepth 10000 in
theorem ck_S_30 : CK 0 "LieOfTwo$Steps" 30 y_S_join 3 := ⟨wc_S_join, w0_S, ⟨by decide, by decide, by decide +kernel⟩, (Or.inl (mG (mT3 190 rfl) rfl)), fun _ => ⟨wi_S_join, wl_S_join⟩, fun h => absurd h (by decide), fun h => absurd h (by decide)⟩
set_option maxRecDepth 10000 in
theorem ck_S_34 : CK 0 "LieOfTwo$Steps" 34 y_S_change 4 := ⟨wc_S_change, w0_S, ⟨by decide, by decide, by decide +kernel⟩, (Or.inl (mG (mT3 194 rfl) rfl)), fun _ => ⟨wi_S_change, wl_S_change⟩, fun h => absurd h (by decide), fun h => absurd h (by decide)⟩
set_option maxRecDepth 10000 in
theorem ck_S_48 : CK 0 "LieOfTwo$Steps" 48 y_T_allOfWord 0 := ⟨wc_T_allOfWord, w0_T, ⟨by decide, by decide, by decide +kernel⟩, (Or.inr ⟨"LieOfTwo", mN (mT3 183 rfl) rfl⟩), fun _ => ⟨wi_T_allOfWord, wl_T_allOfWord⟩, fun h => absurd h (by decide), fun h => absurd h (by decide)⟩
set_option maxRecDepth 10000 in
theorem ck_S_52 : CK 1 "LieOfTwo$Steps" 52 y_X_hasBit 2 := ⟨wc_X_hasBit, w0_X, ⟨by decide, by decide, by decide +kernel⟩, (Or.inr ⟨"LieOfTwo", mN (mT3 188 rfl) rfl⟩), fun h => absurd h (by decide), fun _ => ws_X_hasBit, fun h => absurd h (by decide)⟩
set_option maxRecDepth 10000 in
theorem ck_S_58 : CK 0 "LieOfTwo$Steps" 58 y_T_keepHeld 3 := ⟨wc_T_keepHeld, w0_T, ⟨by decide, by decide, by decide +kernel⟩, (Or.inr ⟨"LieOfTwo", mN (mT3 198 rfl) rfl⟩), fun _ => ⟨wi_T_keepHeld, wl_T_keepHeld⟩, fun h => absurd h (by decide), fun h => absurd h (by decide)⟩
set_option maxRecDepth 10000 in
theorem ck_S_62 : CK 0 "LieOfTwo$Steps" 62 y_T_widen 3 := ⟨wc_T_widen, w0_T, ⟨by decide, by decide, by decide +kernel⟩, (Or.inr ⟨"LieOfTwo", mN (mT3 220 rfl) rfl⟩), fun _ => ⟨wi_T_widen, wl_T_widen⟩, fun h => absurd h (by decide), fun h => absurd h (by decide)⟩
set_option maxRecDepth 10000 in
theorem ck_S_65 : CK 1 "LieOfTwo$Steps" 65 y_S_ofWay 2 := ⟨wc_S_ofWay, w0_S, ⟨by decide, by decide, by decide +kernel⟩, (Or.inl (mG (mT3 163 rfl) rfl)), fun h => absurd h (by decide), fun _ => ws_S_ofWay, fun h => absurd h (by decide)⟩
set_option maxRecDepth 10000 in
theorem ck_S_69 : CK 1 "LieOfTwo$Steps" 69 y_S_joined 3 := ⟨wc_S_joined, w0_S, ⟨by decide, by decide, by decide +kernel⟩, (Or.inl (mG (mT3 166 rfl) rfl)), fun h => absurd h (by decide), fun _ => ws_S_joined, fun h => absurd h (by decide)⟩
set_option maxRecDepth 10000 in
theorem ck_K_35 : CK 1 "LieOfTwo$Tokens" 35 y_K_spell 2 := ⟨wc_K_spell, w0_K, ⟨by decide, by decide, by decide +kernel⟩, (Or.inl (mG (mT1 221 rfl) rfl)), fun h => absurd h (by decide), fun _ => ws_K_spell, fun h => absurd h (by decide)⟩
set_option maxRecDepth 10000 in
theorem ck_K_52 : CK 0 "LieOfTwo$Tokens" 52 y_K_pass 0 := ⟨wc_K_pass, w0_K, ⟨by decide, by decide, by decide +kernel⟩, (Or.inl (mG (mT2 234 rfl) rfl)), fun _ => ⟨wi_K_pass, wl_K_pass⟩, fun h => absurd h (by decide), fun h => absurd h (by decide)⟩
set_option maxRecDepth 10000 in
theorem ck_K_55 : CK 1 "LieOfTwo$Tokens" 55 y_K_isBlank 1 := ⟨wc_K_isBlank, w0_K, ⟨by decide, by decide, by decide +kernel⟩, (Or.inl (mG (mT2 238 rfl) rfl)), fun h => absurd h (by decide), fun _ => ws_K_isBlank, fun h => absurd h (by decide)⟩
set_option maxRecDepth 10000 in
theorem ck_K_62 : CK 1 "LieOfTwo$Tokens" 62 y_K_isLetter 1 := ⟨wc_K_isLetter, w0_K, ⟨by decide, by decide, by decide +kernel⟩, (Or.inl (mG (mT3 1 rfl) rfl)), fun h => absurd h (by decide), fun _ => ws_K_isLetter, fun h => absurd h (by decide)⟩
set_option maxRecDepth 10000 in
theorem ck_K_65 : CK 0 "LieOfTwo$Tokens" 65 y_K_readWord 0 := ⟨wc_K_readWord, w0_K, ⟨by decide, by decide, by decide +kernel⟩, (Or.inl (mG (mT3 4 rfl) rfl)), fun _ => ⟨wi_K_readWord, wl_K_readWord⟩, fun h => absurd h (by decide), fun h => absurd h (by decide)⟩
set_option maxRecDepth 10000 in
theorem ck_K_68 : CK 1 "LieOfTwo$Tokens" 68 y_K_isDigit 1 := ⟨wc_K_isDigit, w0_K, ⟨by decide, by decide, by decide +kernel⟩, (Or.inl (mG (mT3 12 rfl) rfl)), fun h => absurd h (by decide), fun _ => ws_K_isDigit, fun h => absurd h (by decide)⟩
set_option maxRecDepth 10000 in
theorem ck_K_71 : CK 0 "LieOfTwo$Tokens" 71 y_K_readNumber 0 := ⟨wc_K_readNumber, w0_K, ⟨by decide, by decide, by decide +kernel⟩, (Or.inl (mG (mT3 15 rfl) rfl)), fun _ => ⟨wi_K_readNumber, wl_K_readNumber⟩, fun h => absurd h (by decide), fun h => absurd h (by decide)⟩
set_option maxRecDepth 10000 in
theorem ck_K_74 : CK 1 "LieOfTwo$Tokens" 74 y_K_isSign 1 := ⟨wc_K_isSign, w0_K, ⟨by decide, by decide, by decide +kernel⟩, (Or.inl (mG (mT3 19 rfl) rfl)), fun h => absurd h (by decide), fun _ => ws_K_isSign, fun h => absurd h (by decide)⟩
set_option maxRecDepth 10000 in
theorem ck_K_77 : CK 0 "LieOfTwo$Tokens" 77 y_K_fail 1 := ⟨wc_K_fail, w0_K, ⟨by decide, by decide, by decide +kernel⟩, (Or.inl (mG (mT3 8 rfl) rfl)), fun _ => ⟨wi_K_fail, wl_K_fail⟩, fun h => absurd h (by decide), fun h => absurd h (by decide)⟩
set_option maxRecDepth 10000 in
theorem ck_T_71 : CK 1 "LieOfTwo$Town" 71 y_X_sizeOfSet 3 := ⟨wc_X_sizeOfSet, w0_X, ⟨by decide, by decide, by decide +kernel⟩, (Or.inr ⟨"LieOfTwo", mN (mT4 55 rfl) rfl⟩), fun h => absurd h (by decide), fun _ => ws_X_sizeOfSet, fun h => absurd h (by decide)⟩
set_option maxRecDepth 10000 in
theorem ck_T_75 : CK 1 "LieOfTwo$Town" 75 y_X_has 3 := ⟨wc_X_has, w0_X, ⟨by decide, by decide, by decide +kernel⟩, (Or.inr ⟨"LieOfTwo", mN (mT4 84 rfl) rfl⟩), fun h => absurd h (by decide), fun _ => ws_X_has, fun h => absurd h (by decide)⟩
set_option maxRecDepth 10000 in
theorem ck_T_79 : CK 0 "LieOfTwo$Town" 79 y_T_hasRow 1 := ⟨wc_T_hasRow, w0_T, ⟨by decide, by decide, by decide +kernel⟩, (Or.inl (mG (mT4 76 rfl) rfl)), fun _ => ⟨wi_T_hasRow, wl_T_hasRow⟩, fun h => absurd h (by decide), fun h => absurd h (by decide)⟩
set_option maxRecDepth 10000 in
theorem ck_T_83 : CK 0 "LieOfTwo$Town" 83 y_T_hasWorld 1 := ⟨wc_T_hasWorld, w0_T, ⟨by decide, by decide, by decide +kernel⟩, (Or.inl (mG (mT4 80 rfl) rfl)), fun _ => ⟨wi_T_hasWorld, wl_T_hasWorld⟩, fun h => absurd h (by decide), fun h => absurd h (by decide)⟩
set_option maxRecDepth 10000 in
theorem ck_T_86 : CK 1 "LieOfTwo$Town" 86 y_T_place 2 := ⟨wc_T_place, w0_T, ⟨by decide, by decide, by decide +kernel⟩, (Or.inl (mG (mT3 230 rfl) rfl)), fun h => absurd h (by decide), fun _ => ws_T_place, fun h => absurd h (by decide)⟩
set_option maxRecDepth 10000 in
theorem ck_T_90 : CK 0 "LieOfTwo$Town" 90 y_T_answer 3 := ⟨wc_T_answer, w0_T, ⟨by decide, by decide, by decide +kernel⟩, (Or.inl (mG (mT5 25 rfl) rfl)), fun _ => ⟨wi_T_answer, wl_T_answer⟩, fun h => absurd h (by decide), fun h => absurd h (by decide)⟩
set_option maxRecDepth 10000 in
theorem ck_T_94 : CK 1 "LieOfTwo$Town" 94 y_X_hasBit 2 := ⟨wc_X_hasBit, w0_X, ⟨by decide, by decide, by decide +kernel⟩, (Or.inr ⟨"LieOfTwo", mN (mT3 214 rfl) rfl⟩), fun h => absurd h (by decide), fun _ => ws_X_hasBit, fun h => absurd h (by decide)⟩
set_option maxRecDepth 10000 in
theorem ck_T_102 : CK 1 "LieOfTwo$Town" 102 y_JI_bitCount 1 := ⟨wc_JI_bitCount, w0_JI, ⟨by decide, by decide, by decide +kernel⟩, (Or.inl (mG (mT4 115 rfl) rfl)), fun h => absurd h (by decide), fun _ => ws_JI_bitCount, fun h => absurd h (by decide)⟩
set_option maxRecDepth 10000 in
theorem ck_T_108 : CK 1 "LieOfTwo$Town" 108 y_T_way 4 := ⟨wc_T_way, w0_T, ⟨by decide, by decide, by decide +kernel⟩, (Or.inl (mG (mT4 121 rfl) rfl)), fun h => absurd h (by decide), fun _ => ws_T_way, fun h => absurd h (by decide)⟩
set_option maxRecDepth 10000 in
theorem ck_T_118 : CK 0 "LieOfTwo$Town" 118 y_T_mayLie 3 := ⟨wc_T_mayLie, w0_T, ⟨by decide, by decide, by decide +kernel⟩, (Or.inl (mG (mT4 132 rfl) rfl)), fun _ => ⟨wi_T_mayLie, wl_T_mayLie⟩, fun h => absurd h (by decide), fun h => absurd h (by decide)⟩
set_option maxRecDepth 10000 in
theorem ck_T_124 : CK 0 "LieOfTwo$Town" 124 y_T_fooled 3 := ⟨wc_T_fooled, w0_T, ⟨by decide, by decide, by decide +kernel⟩, (Or.inl (mG (mT5 34 rfl) rfl)), fun _ => ⟨wi_T_fooled, wl_T_fooled⟩, fun h => absurd h (by decide), fun h => absurd h (by decide)⟩
set_option maxRecDepth 10000 in
theorem ck_T_127 : CK 0 "LieOfTwo$Town" 127 y_T_tieOf 2 := ⟨wc_T_tieOf, w0_T, ⟨by decide, by decide, by decide +kernel⟩, (Or.inl (mG (mT5 35 rfl) rfl)), fun _ => ⟨wi_T_tieOf, wl_T_tieOf⟩, fun h => absurd h (by decide), fun h => absurd h (by decide)⟩
set_option maxRecDepth 10000 in
theorem ck_T_130 : CK 0 "LieOfTwo$Town" 130 y_T_pairOf 1 := ⟨wc_T_pairOf, w0_T, ⟨by decide, by decide, by decide +kernel⟩, (Or.inl (mG (mT5 39 rfl) rfl)), fun _ => ⟨wi_T_pairOf, wl_T_pairOf⟩, fun h => absurd h (by decide), fun h => absurd h (by decide)⟩
set_option maxRecDepth 10000 in
theorem ck_T_133 : CK 0 "LieOfTwo$Town" 133 y_T_isSo 2 := ⟨wc_T_isSo, w0_T, ⟨by decide, by decide, by decide +kernel⟩, (Or.inl (mG (mT5 55 rfl) rfl)), fun _ => ⟨wi_T_isSo, wl_T_isSo⟩, fun h => absurd h (by decide), fun h => absurd h (by decide)⟩
set_option maxRecDepth 10000 in
theorem ck_T_141 : CK 0 "LieOfTwo$Town" 141 y_T_keepBase 2 := ⟨wc_T_keepBase, w0_T, ⟨by decide, by decide, by decide +kernel⟩, (Or.inl (mG (mT3 210 rfl) rfl)), fun _ => ⟨wi_T_keepBase, wl_T_keepBase⟩, fun h => absurd h (by decide), fun h => absurd h (by decide)⟩
set_option maxRecDepth 10000 in
theorem ck_T_145 : CK 0 "LieOfTwo$Town" 145 y_T_forget 3 := ⟨wc_T_forget, w0_T, ⟨by decide, by decide, by decide +kernel⟩, (Or.inl (mG (mT3 215 rfl) rfl)), fun _ => ⟨wi_T_forget, wl_T_forget⟩, fun h => absurd h (by decide), fun h => absurd h (by decide)⟩
set_option maxRecDepth 10000 in
theorem ck_T_152 : CK 0 "LieOfTwo$Town" 152 y_T_flip 2 := ⟨wc_T_flip, w0_T, ⟨by decide, by decide, by decide +kernel⟩, (Or.inl (mG (mT3 202 rfl) rfl)), fun _ => ⟨wi_T_flip, wl_T_flip⟩, fun h => absurd h (by decide), fun h => absurd h (by decide)⟩
set_option maxRecDepth 10000 in
theorem ck_T_155 : CK 0 "LieOfTwo$Town" 155 y_T_widen 3 := ⟨wc_T_widen, w0_T, ⟨by decide, by decide, by decide +kernel⟩, (Or.inl (mG (mT3 206 rfl) rfl)), fun _ => ⟨wi_T_widen, wl_T_widen⟩, fun h => absurd h (by decide), fun h => absurd h (by decide)⟩
set_option maxRecDepth 10000 in
theorem ck_T_158 : CK 0 "LieOfTwo$Town" 158 y_T_keepHeld 3 := ⟨wc_T_keepHeld, w0_T, ⟨by decide, by decide, by decide +kernel⟩, (Or.inl (mG (mT3 234 rfl) rfl)), fun _ => ⟨wi_T_keepHeld, wl_T_keepHeld⟩, fun h => absurd h (by decide), fun h => absurd h (by decide)⟩
set_option maxRecDepth 10000 in
theorem ck_M_188 : CK 0 "LieOfTwoModel" 188 y_M_clearBank 0 := ⟨wc_M_clearBank, w0_M, ⟨by decide, by decide, by decide +kernel⟩, (Or.inl (mG (mT5 148 rfl) rfl)), fun _ => ⟨wi_M_clearBank, wl_M_clearBank⟩, fun h => absurd h (by decide), fun h => absurd h (by decide)⟩
set_option maxRecDepth 10000 in
theorem ck_M_191 : CK 0 "LieOfTwoModel" 191 y_M_layWorlds 0 := ⟨wc_M_layWorlds, w0_M, ⟨by decide, by decide, by decide +kernel⟩, (Or.inl (mG (mT5 152 rfl) rfl)), fun _ => ⟨wi_M_layWorlds, wl_M_layWorlds⟩, fun h => absurd h (by decide), fun h => absurd h (by decide)⟩
set_option maxRecDepth 10000 in
theorem ck_M_246 : CK 0 "LieOfTwoModel" 246 y_M_sign 1 := ⟨wc_M_sign, w0_M, ⟨by decide, by decide, by decide +kernel⟩, (Or.inl (mG (mT6 198 rfl) rfl)), fun _ => ⟨wi_M_sign, wl_M_sign⟩, fun h => absurd h (by decide), fun h => absurd h (by decide)⟩
set_option maxRecDepth 10000 in
theorem ck_M_253 : CK 1 "LieOfTwoModel" 253 y_M_isLetter 1 := ⟨wc_M_isLetter, w0_M, ⟨by decide, by decide, by decide +kernel⟩, (Or.inl (mG (mT6 202 rfl) rfl)), fun h => absurd h (by decide), fun _ => ws_M_isLetter, fun h => absurd h (by decide)⟩
set_option maxRecDepth 10000 in
theorem ck_M_261 : CK 1 "LieOfTwoModel" 261 y_M_isKept 1 := ⟨wc_M_isKept, w0_M, ⟨by decide, by decide, by decide +kernel⟩, (Or.inl (mG (mT6 205 rfl) rfl)), fun h => absurd h (by decide), fun _ => ws_M_isKept, fun h => absurd h (by decide)⟩
set_option maxRecDepth 10000 in
theorem ck_M_265 : CK 1 "LieOfTwoModel" 265 y_M_isDigit 1 := ⟨wc_M_isDigit, w0_M, ⟨by decide, by decide, by decide +kernel⟩, (Or.inl (mG (mT6 228 rfl) rfl)), fun h => absurd h (by decide), fun _ => ws_M_isDigit, fun h => absurd h (by decide)⟩
set_option maxRecDepth 10000 in
theorem ck_M_271 : CK 1 "LieOfTwoModel" 271 y_M_isSign 1 := ⟨wc_M_isSign, w0_M, ⟨by decide, by decide, by decide +kernel⟩, (Or.inl (mG (mT6 231 rfl) rfl)), fun h => absurd h (by decide), fun _ => ws_M_isSign, fun h => absurd h (by decide)⟩
set_option maxRecDepth 10000 in
theorem ck_M_274 : CK 0 "LieOfTwoModel" 274 y_M_fails 2 := ⟨wc_M_fails, w0_M, ⟨by decide, by decide, by decide +kernel⟩, (Or.inl (mG (mT7 14 rfl) rfl)), fun _ => ⟨wi_M_fails, wl_M_fails⟩, fun h => absurd h (by decide), fun h => absurd h (by decide)⟩
set_option maxRecDepth 10000 in
theorem ck_M_278 : CK 0 "LieOfTwoModel" 278 y_M_isGood 0 := ⟨wc_M_isGood, w0_M, ⟨by decide, by decide, by decide +kernel⟩, (Or.inl (mG (mT6 234 rfl) rfl)), fun _ => ⟨wi_M_isGood, wl_M_isGood⟩, fun h => absurd h (by decide), fun h => absurd h (by decide)⟩
set_option maxRecDepth 10000 in
theorem ck_M_282 : CK 0 "LieOfTwoModel" 282 y_M_goOn 0 := ⟨wc_M_goOn, w0_M, ⟨by decide, by decide, by decide +kernel⟩, (Or.inl (mG (mT6 194 rfl) rfl)), fun _ => ⟨wi_M_goOn, wl_M_goOn⟩, fun h => absurd h (by decide), fun h => absurd h (by decide)⟩
set_option maxRecDepth 10000 in
theorem ck_M_285 : CK 0 "LieOfTwoModel" 285 y_M_misplaced 0 := ⟨wc_M_misplaced, w0_M, ⟨by decide, by decide, by decide +kernel⟩, (Or.inl (mG (mT7 10 rfl) rfl)), fun _ => ⟨wi_M_misplaced, wl_M_misplaced⟩, fun h => absurd h (by decide), fun h => absurd h (by decide)⟩
set_option maxRecDepth 10000 in
theorem ck_M_288 : CK 0 "LieOfTwoModel" 288 y_M_isWord 1 := ⟨wc_M_isWord, w0_M, ⟨by decide, by decide, by decide +kernel⟩, (Or.inl (mG (mT7 6 rfl) rfl)), fun _ => ⟨wi_M_isWord, wl_M_isWord⟩, fun h => absurd h (by decide), fun h => absurd h (by decide)⟩
set_option maxRecDepth 10000 in
theorem ck_M_291 : CK 0 "LieOfTwoModel" 291 y_M_must 1 := ⟨wc_M_must, w0_M, ⟨by decide, by decide, by decide +kernel⟩, (Or.inl (mG (mT7 50 rfl) rfl)), fun _ => ⟨wi_M_must, wl_M_must⟩, fun h => absurd h (by decide), fun h => absurd h (by decide)⟩
set_option maxRecDepth 10000 in
theorem ck_M_307 : CK 0 "LieOfTwoModel" 307 y_M_readLine 0 := ⟨wc_M_readLine, w0_M, ⟨by decide, by decide, by decide +kernel⟩, (Or.inl (mG (mT6 238 rfl) rfl)), fun _ => ⟨wi_M_readLine, wl_M_readLine⟩, fun h => absurd h (by decide), fun h => absurd h (by decide)⟩
set_option maxRecDepth 10000 in
theorem ck_M_313 : CK 0 "LieOfTwoModel" 313 y_M_baseMany 0 := ⟨wc_M_baseMany, w0_M, ⟨by decide, by decide, by decide +kernel⟩, (Or.inl (mG (mT7 122 rfl) rfl)), fun _ => ⟨wi_M_baseMany, wl_M_baseMany⟩, fun h => absurd h (by decide), fun h => absurd h (by decide)⟩
set_option maxRecDepth 10000 in
theorem ck_M_317 : CK 0 "LieOfTwoModel" 317 y_M_isFull 0 := ⟨wc_M_isFull, w0_M, ⟨by decide, by decide, by decide +kernel⟩, (Or.inl (mG (mT7 2 rfl) rfl)), fun _ => ⟨wi_M_isFull, wl_M_isFull⟩, fun h => absurd h (by decide), fun h => absurd h (by decide)⟩
set_option maxRecDepth 10000 in
theorem ck_M_320 : CK 0 "LieOfTwoModel" 320 y_M_readFact 0 := ⟨wc_M_readFact, w0_M, ⟨by decide, by decide, by decide +kernel⟩, (Or.inl (mG (mT7 18 rfl) rfl)), fun _ => ⟨wi_M_readFact, wl_M_readFact⟩, fun h => absurd h (by decide), fun h => absurd h (by decide)⟩
set_option maxRecDepth 10000 in
theorem ck_M_323 : CK 0 "LieOfTwoModel" 323 y_M_readPerson 0 := ⟨wc_M_readPerson, w0_M, ⟨by decide, by decide, by decide +kernel⟩, (Or.inl (mG (mT7 38 rfl) rfl)), fun _ => ⟨wi_M_readPerson, wl_M_readPerson⟩, fun h => absurd h (by decide), fun h => absurd h (by decide)⟩
set_option maxRecDepth 10000 in
theorem ck_M_326 : CK 0 "LieOfTwoModel" 326 y_M_readRow 0 := ⟨wc_M_readRow, w0_M, ⟨by decide, by decide, by decide +kernel⟩, (Or.inl (mG (mT7 58 rfl) rfl)), fun _ => ⟨wi_M_readRow, wl_M_readRow⟩, fun h => absurd h (by decide), fun h => absurd h (by decide)⟩
set_option maxRecDepth 10000 in
theorem ck_M_329 : CK 0 "LieOfTwoModel" 329 y_M_readAlways 0 := ⟨wc_M_readAlways, w0_M, ⟨by decide, by decide, by decide +kernel⟩, (Or.inl (mG (mT7 106 rfl) rfl)), fun _ => ⟨wi_M_readAlways, wl_M_readAlways⟩, fun h => absurd h (by decide), fun h => absurd h (by decide)⟩
set_option maxRecDepth 10000 in
theorem ck_M_332 : CK 0 "LieOfTwoModel" 332 y_M_readTie 0 := ⟨wc_M_readTie, w0_M, ⟨by decide, by decide, by decide +kernel⟩, (Or.inl (mG (mT7 110 rfl) rfl)), fun _ => ⟨wi_M_readTie, wl_M_readTie⟩, fun h => absurd h (by decide), fun h => absurd h (by decide)⟩
set_option maxRecDepth 10000 in
theorem ck_M_335 : CK 0 "LieOfTwoModel" 335 y_M_readWish 0 := ⟨wc_M_readWish, w0_M, ⟨by decide, by decide, by decide +kernel⟩, (Or.inl (mG (mT7 114 rfl) rfl)), fun _ => ⟨wi_M_readWish, wl_M_readWish⟩, fun h => absurd h (by decide), fun h => absurd h (by decide)⟩
set_option maxRecDepth 10000 in
theorem ck_M_338 : CK 0 "LieOfTwoModel" 338 y_M_readLaw 0 := ⟨wc_M_readLaw, w0_M, ⟨by decide, by decide, by decide +kernel⟩, (Or.inl (mG (mT7 118 rfl) rfl)), fun _ => ⟨wi_M_readLaw, wl_M_readLaw⟩, fun h => absurd h (by decide), fun h => absurd h (by decide)⟩
set_option maxRecDepth 10000 in
theorem ck_M_341 : CK 0 "LieOfTwoModel" 341 y_M_stands 1 := ⟨wc_M_stands, w0_M, ⟨by decide, by decide, by decide +kernel⟩, (Or.inl (mG (mT7 74 rfl) rfl)), fun _ => ⟨wi_M_stands, wl_M_stands⟩, fun h => absurd h (by decide), fun h => absurd h (by decide)⟩
set_option maxRecDepth 10000 in
theorem ck_M_344 : CK 0 "LieOfTwoModel" 344 y_M_here 3 := ⟨wc_M_here, w0_M, ⟨by decide, by decide, by decide +kernel⟩, (Or.inl (mG (mT7 26 rfl) rfl)), fun _ => ⟨wi_M_here, wl_M_here⟩, fun h => absurd h (by decide), fun h => absurd h (by decide)⟩
set_option maxRecDepth 10000 in
theorem ck_M_348 : CK 0 "LieOfTwoModel" 348 y_M_factHere 0 := ⟨wc_M_factHere, w0_M, ⟨by decide, by decide, by decide +kernel⟩, (Or.inl (mG (mT7 22 rfl) rfl)), fun _ => ⟨wi_M_factHere, wl_M_factHere⟩, fun h => absurd h (by decide), fun h => absurd h (by decide)⟩
set_option maxRecDepth 10000 in
theorem ck_M_351 : CK 0 "LieOfTwoModel" 351 y_M_rowHere 0 := ⟨wc_M_rowHere, w0_M, ⟨by decide, by decide, by decide +kernel⟩, (Or.inl (mG (mT7 30 rfl) rfl)), fun _ => ⟨wi_M_rowHere, wl_M_rowHere⟩, fun h => absurd h (by decide), fun h => absurd h (by decide)⟩
set_option maxRecDepth 10000 in
theorem ck_M_354 : CK 0 "LieOfTwoModel" 354 y_M_fresh 1 := ⟨wc_M_fresh, w0_M, ⟨by decide, by decide, by decide +kernel⟩, (Or.inl (mG (mT7 34 rfl) rfl)), fun _ => ⟨wi_M_fresh, wl_M_fresh⟩, fun h => absurd h (by decide), fun h => absurd h (by decide)⟩
set_option maxRecDepth 10000 in
theorem ck_M_358 : CK 0 "LieOfTwoModel" 358 y_M_personHere 0 := ⟨wc_M_personHere, w0_M, ⟨by decide, by decide, by decide +kernel⟩, (Or.inl (mG (mT7 42 rfl) rfl)), fun _ => ⟨wi_M_personHere, wl_M_personHere⟩, fun h => absurd h (by decide), fun h => absurd h (by decide)⟩
set_option maxRecDepth 10000 in
theorem ck_M_361 : CK 0 "LieOfTwoModel" 361 y_M_after 2 := ⟨wc_M_after, w0_M, ⟨by decide, by decide, by decide +kernel⟩, (Or.inl (mG (mT7 46 rfl) rfl)), fun _ => ⟨wi_M_after, wl_M_after⟩, fun h => absurd h (by decide), fun h => absurd h (by decide)⟩
set_option maxRecDepth 10000 in
theorem ck_M_365 : CK 0 "LieOfTwoModel" 365 y_M_told 1 := ⟨wc_M_told, w0_M, ⟨by decide, by decide, by decide +kernel⟩, (Or.inl (mG (mT7 54 rfl) rfl)), fun _ => ⟨wi_M_told, wl_M_told⟩, fun h => absurd h (by decide), fun h => absurd h (by decide)⟩
set_option maxRecDepth 10000 in
theorem ck_M_378 : CK 0 "LieOfTwoModel" 378 y_M_e 0 := ⟨wc_M_e, w0_M, ⟨by decide, by decide, by decide +kernel⟩, (Or.inl (mG (mT7 62 rfl) rfl)), fun _ => ⟨wi_M_e, wl_M_e⟩, fun h => absurd h (by decide), fun h => absurd h (by decide)⟩
set_option maxRecDepth 10000 in
theorem ck_M_387 : CK 0 "LieOfTwoModel" 387 y_M_pushE 3 := ⟨wc_M_pushE, w0_M, ⟨by decide, by decide, by decide +kernel⟩, (Or.inl (mG (mT7 66 rfl) rfl)), fun _ => ⟨wi_M_pushE, wl_M_pushE⟩, fun h => absurd h (by decide), fun h => absurd h (by decide)⟩
set_option maxRecDepth 10000 in
theorem ck_M_391 : CK 0 "LieOfTwoModel" 391 y_M_part 0 := ⟨wc_M_part, w0_M, ⟨by decide, by decide, by decide +kernel⟩, (Or.inl (mG (mT7 70 rfl) rfl)), fun _ => ⟨wi_M_part, wl_M_part⟩, fun h => absurd h (by decide), fun h => absurd h (by decide)⟩
set_option maxRecDepth 10000 in
theorem ck_M_393 : CK 0 "LieOfTwoModel" 393 y_M_unit 0 := ⟨wc_M_unit, w0_M, ⟨by decide, by decide, by decide +kernel⟩, (Or.inl (mG (mT7 86 rfl) rfl)), fun _ => ⟨wi_M_unit, wl_M_unit⟩, fun h => absurd h (by decide), fun h => absurd h (by decide)⟩
set_option maxRecDepth 10000 in
theorem ck_M_396 : CK 0 "LieOfTwoModel" 396 y_M_behindUnit 0 := ⟨wc_M_behindUnit, w0_M, ⟨by decide, by decide, by decide +kernel⟩, (Or.inl (mG (mT7 94 rfl) rfl)), fun _ => ⟨wi_M_behindUnit, wl_M_behindUnit⟩, fun h => absurd h (by decide), fun h => absurd h (by decide)⟩
set_option maxRecDepth 10000 in
theorem ck_M_399 : CK 0 "LieOfTwoModel" 399 y_M_mindful 1 := ⟨wc_M_mindful, w0_M, ⟨by decide, by decide, by decide +kernel⟩, (Or.inl (mG (mT7 90 rfl) rfl)), fun _ => ⟨wi_M_mindful, wl_M_mindful⟩, fun h => absurd h (by decide), fun h => absurd h (by decide)⟩
set_option maxRecDepth 10000 in
theorem ck_M_402 : CK 0 "LieOfTwoModel" 402 y_M_opens 3 := ⟨wc_M_opens, w0_M, ⟨by decide, by decide, by decide +kernel⟩, (Or.inl (mG (mT7 78 rfl) rfl)), fun _ => ⟨wi_M_opens, wl_M_opens⟩, fun h => absurd h (by decide), fun h => absurd h (by decide)⟩
set_option maxRecDepth 10000 in
theorem ck_M_406 : CK 0 "LieOfTwoModel" 406 y_M_emit 2 := ⟨wc_M_emit, w0_M, ⟨by decide, by decide, by decide +kernel⟩, (Or.inl (mG (mT7 82 rfl) rfl)), fun _ => ⟨wi_M_emit, wl_M_emit⟩, fun h => absurd h (by decide), fun h => absurd h (by decide)⟩
set_option maxRecDepth 10000 in
theorem ck_M_409 : CK 0 "LieOfTwoModel" 409 y_M_rankHere 0 := ⟨wc_M_rankHere, w0_M, ⟨by decide, by decide, by decide +kernel⟩, (Or.inl (mG (mT7 98 rfl) rfl)), fun _ => ⟨wi_M_rankHere, wl_M_rankHere⟩, fun h => absurd h (by decide), fun h => absurd h (by decide)⟩
set_option maxRecDepth 10000 in
theorem ck_M_412 : CK 0 "LieOfTwoModel" 412 y_M_isAgain 1 := ⟨wc_M_isAgain, w0_M, ⟨by decide, by decide, by decide +kernel⟩, (Or.inl (mG (mT7 102 rfl) rfl)), fun _ => ⟨wi_M_isAgain, wl_M_isAgain⟩, fun h => absurd h (by decide), fun h => absurd h (by decide)⟩
set_option maxRecDepth 10000 in
theorem ck_M_415 : CK 0 "LieOfTwoModel" 415 y_M_rowMany 0 := ⟨wc_M_rowMany, w0_M, ⟨by decide, by decide, by decide +kernel⟩, (Or.inl (mG (mT5 168 rfl) rfl)), fun _ => ⟨wi_M_rowMany, wl_M_rowMany⟩, fun h => absurd h (by decide), fun h => absurd h (by decide)⟩
set_option maxRecDepth 10000 in
theorem ck_M_418 : CK 1 "LieOfTwoModel" 418 y_M_isIn 3 := ⟨wc_M_isIn, w0_M, ⟨by decide, by decide, by decide +kernel⟩, (Or.inl (mG (mT7 138 rfl) rfl)), fun h => absurd h (by decide), fun _ => ws_M_isIn, fun h => absurd h (by decide)⟩
set_option maxRecDepth 10000 in
theorem ck_M_421 : CK 0 "LieOfTwoModel" 421 y_M_personMany 0 := ⟨wc_M_personMany, w0_M, ⟨by decide, by decide, by decide +kernel⟩, (Or.inl (mG (mT5 187 rfl) rfl)), fun _ => ⟨wi_M_personMany, wl_M_personMany⟩, fun h => absurd h (by decide), fun h => absurd h (by decide)⟩
set_option maxRecDepth 10000 in
theorem ck_M_424 : CK 0 "LieOfTwoModel" 424 y_M_factMany 0 := ⟨wc_M_factMany, w0_M, ⟨by decide, by decide, by decide +kernel⟩, (Or.inl (mG (mT5 160 rfl) rfl)), fun _ => ⟨wi_M_factMany, wl_M_factMany⟩, fun h => absurd h (by decide), fun h => absurd h (by decide)⟩
set_option maxRecDepth 10000 in
theorem ck_M_427 : CK 0 "LieOfTwoModel" 427 y_M_worldMany 0 := ⟨wc_M_worldMany, w0_M, ⟨by decide, by decide, by decide +kernel⟩, (Or.inl (mG (mT5 156 rfl) rfl)), fun _ => ⟨wi_M_worldMany, wl_M_worldMany⟩, fun h => absurd h (by decide), fun h => absurd h (by decide)⟩
set_option maxRecDepth 10000 in
theorem ck_M_430 : CK 1 "LieOfTwoModel" 430 y_M_spot 2 := ⟨wc_M_spot, w0_M, ⟨by decide, by decide, by decide +kernel⟩, (Or.inl (mG (mT5 176 rfl) rfl)), fun h => absurd h (by decide), fun _ => ws_M_spot, fun h => absurd h (by decide)⟩
set_option maxRecDepth 10000 in
theorem ck_M_434 : CK 0 "LieOfTwoModel" 434 y_M_minds 3 := ⟨wc_M_minds, w0_M, ⟨by decide, by decide, by decide +kernel⟩, (Or.inl (mG (mT5 179 rfl) rfl)), fun _ => ⟨wi_M_minds, wl_M_minds⟩, fun h => absurd h (by decide), fun h => absurd h (by decide)⟩
set_option maxRecDepth 10000 in
theorem ck_M_438 : CK 0 "LieOfTwoModel" 438 y_M_bothOf 2 := ⟨wc_M_bothOf, w0_M, ⟨by decide, by decide, by decide +kernel⟩, (Or.inl (mG (mT5 183 rfl) rfl)), fun _ => ⟨wi_M_bothOf, wl_M_bothOf⟩, fun h => absurd h (by decide), fun h => absurd h (by decide)⟩
set_option maxRecDepth 10000 in
theorem ck_M_441 : CK 0 "LieOfTwoModel" 441 y_M_layColumn 1 := ⟨wc_M_layColumn, w0_M, ⟨by decide, by decide, by decide +kernel⟩, (Or.inl (mG (mT5 172 rfl) rfl)), fun _ => ⟨wi_M_layColumn, wl_M_layColumn⟩, fun h => absurd h (by decide), fun h => absurd h (by decide)⟩
set_option maxRecDepth 10000 in
theorem ck_M_445 : CK 0 "LieOfTwoModel" 445 y_M_layRows 1 := ⟨wc_M_layRows, w0_M, ⟨by decide, by decide, by decide +kernel⟩, (Or.inl (mG (mT5 164 rfl) rfl)), fun _ => ⟨wi_M_layRows, wl_M_layRows⟩, fun h => absurd h (by decide), fun h => absurd h (by decide)⟩
set_option maxRecDepth 10000 in
theorem ck_M_448 : CK 0 "LieOfTwoModel" 448 y_M_answerOf 3 := ⟨wc_M_answerOf, w0_M, ⟨by decide, by decide, by decide +kernel⟩, (Or.inl (mG (mT5 191 rfl) rfl)), fun _ => ⟨wi_M_answerOf, wl_M_answerOf⟩, fun h => absurd h (by decide), fun h => absurd h (by decide)⟩
set_option maxRecDepth 10000 in
theorem ck_M_452 : CK 0 "LieOfTwoModel" 452 y_M_isRow 1 := ⟨wc_M_isRow, w0_M, ⟨by decide, by decide, by decide +kernel⟩, (Or.inl (mG (mT7 134 rfl) rfl)), fun _ => ⟨wi_M_isRow, wl_M_isRow⟩, fun h => absurd h (by decide), fun h => absurd h (by decide)⟩
set_option maxRecDepth 10000 in
theorem ck_M_455 : CK 0 "LieOfTwoModel" 455 y_M_isWorld 1 := ⟨wc_M_isWorld, w0_M, ⟨by decide, by decide, by decide +kernel⟩, (Or.inl (mG (mT7 141 rfl) rfl)), fun _ => ⟨wi_M_isWorld, wl_M_isWorld⟩, fun h => absurd h (by decide), fun h => absurd h (by decide)⟩
set_option maxRecDepth 10000 in
theorem ck_M_458 : CK 0 "LieOfTwoModel" 458 y_M_isPerson 1 := ⟨wc_M_isPerson, w0_M, ⟨by decide, by decide, by decide +kernel⟩, (Or.inl (mG (mT7 149 rfl) rfl)), fun _ => ⟨wi_M_isPerson, wl_M_isPerson⟩, fun h => absurd h (by decide), fun h => absurd h (by decide)⟩
set_option maxRecDepth 10000 in
theorem ck_M_461 : CK 0 "LieOfTwoModel" 461 y_M_answerAt 3 := ⟨wc_M_answerAt, w0_M, ⟨by decide, by decide, by decide +kernel⟩, (Or.inl (mG (mT7 153 rfl) rfl)), fun _ => ⟨wi_M_answerAt, wl_M_answerAt⟩, fun h => absurd h (by decide), fun h => absurd h (by decide)⟩
set_option maxRecDepth 10000 in
theorem ck_M_464 : CK 1 "LieOfTwoModel" 464 y_M_bitsOf 1 := ⟨wc_M_bitsOf, w0_M, ⟨by decide, by decide, by decide +kernel⟩, (Or.inl (mG (mT7 169 rfl) rfl)), fun h => absurd h (by decide), fun _ => ws_M_bitsOf, fun h => absurd h (by decide)⟩
set_option maxRecDepth 10000 in
theorem ck_M_467 : CK 0 "LieOfTwoModel" 467 y_M_tiedIn 1 := ⟨wc_M_tiedIn, w0_M, ⟨by decide, by decide, by decide +kernel⟩, (Or.inl (mG (mT7 176 rfl) rfl)), fun _ => ⟨wi_M_tiedIn, wl_M_tiedIn⟩, fun h => absurd h (by decide), fun h => absurd h (by decide)⟩
set_option maxRecDepth 10000 in
theorem ck_M_470 : CK 0 "LieOfTwoModel" 470 y_M_partOf 4 := ⟨wc_M_partOf, w0_M, ⟨by decide, by decide, by decide +kernel⟩, (Or.inl (mG (mT7 172 rfl) rfl)), fun _ => ⟨wi_M_partOf, wl_M_partOf⟩, fun h => absurd h (by decide), fun h => absurd h (by decide)⟩
set_option maxRecDepth 10000 in
theorem ck_M_474 : CK 1 "LieOfTwoModel" 474 y_M_two 3 := ⟨wc_M_two, w0_M, ⟨by decide, by decide, by decide +kernel⟩, (Or.inl (mG (mT7 180 rfl) rfl)), fun h => absurd h (by decide), fun _ => ws_M_two, fun h => absurd h (by decide)⟩
set_option maxRecDepth 10000 in
theorem ck_M_477 : CK 0 "LieOfTwoModel" 477 y_M_mayLie 3 := ⟨wc_M_mayLie, w0_M, ⟨by decide, by decide, by decide +kernel⟩, (Or.inl (mG (mT7 165 rfl) rfl)), fun _ => ⟨wi_M_mayLie, wl_M_mayLie⟩, fun h => absurd h (by decide), fun h => absurd h (by decide)⟩
set_option maxRecDepth 10000 in
theorem ck_M_481 : CK 0 "LieOfTwoModel" 481 y_M_areSome 1 := ⟨wc_M_areSome, w0_M, ⟨by decide, by decide, by decide +kernel⟩, (Or.inl (mG (mT7 161 rfl) rfl)), fun _ => ⟨wi_M_areSome, wl_M_areSome⟩, fun h => absurd h (by decide), fun h => absurd h (by decide)⟩
set_option maxRecDepth 10000 in
theorem ck_M_484 : CK 0 "LieOfTwoModel" 484 y_M_canSay 5 := ⟨wc_M_canSay, w0_M, ⟨by decide, by decide, by decide +kernel⟩, (Or.inl (mG (mT7 187 rfl) rfl)), fun _ => ⟨wi_M_canSay, wl_M_canSay⟩, fun h => absurd h (by decide), fun h => absurd h (by decide)⟩
set_option maxRecDepth 10000 in
theorem ck_M_495 : CK 0 "LieOfTwoModel" 495 y_M_counts 2 := ⟨wc_M_counts, w0_M, ⟨by decide, by decide, by decide +kernel⟩, (Or.inl (mG (mT7 212 rfl) rfl)), fun _ => ⟨wi_M_counts, wl_M_counts⟩, fun h => absurd h (by decide), fun h => absurd h (by decide)⟩
set_option maxRecDepth 10000 in
theorem ck_M_499 : CK 0 "LieOfTwoModel" 499 y_M_canBe 2 := ⟨wc_M_canBe, w0_M, ⟨by decide, by decide, by decide +kernel⟩, (Or.inl (mG (mT7 216 rfl) rfl)), fun _ => ⟨wi_M_canBe, wl_M_canBe⟩, fun h => absurd h (by decide), fun h => absurd h (by decide)⟩
set_option maxRecDepth 10000 in
theorem ck_M_502 : CK 0 "LieOfTwoModel" 502 y_M_findLeft 1 := ⟨wc_M_findLeft, w0_M, ⟨by decide, by decide, by decide +kernel⟩, (Or.inl (mG (mT7 208 rfl) rfl)), fun _ => ⟨wi_M_findLeft, wl_M_findLeft⟩, fun h => absurd h (by decide), fun h => absurd h (by decide)⟩
set_option maxRecDepth 10000 in
theorem ck_M_505 : CK 0 "LieOfTwoModel" 505 y_M_soMany 1 := ⟨wc_M_soMany, w0_M, ⟨by decide, by decide, by decide +kernel⟩, (Or.inl (mG (mT7 228 rfl) rfl)), fun _ => ⟨wi_M_soMany, wl_M_soMany⟩, fun h => absurd h (by decide), fun h => absurd h (by decide)⟩
set_option maxRecDepth 10000 in
theorem ck_M_508 : CK 0 "LieOfTwoModel" 508 y_M_sure 2 := ⟨wc_M_sure, w0_M, ⟨by decide, by decide, by decide +kernel⟩, (Or.inl (mG (mT7 236 rfl) rfl)), fun _ => ⟨wi_M_sure, wl_M_sure⟩, fun h => absurd h (by decide), fun h => absurd h (by decide)⟩
set_option maxRecDepth 10000 in
theorem ck_M_511 : CK 0 "LieOfTwoModel" 511 y_M_isProved 3 := ⟨wc_M_isProved, w0_M, ⟨by decide, by decide, by decide +kernel⟩, (Or.inl (mG (mT7 237 rfl) rfl)), fun _ => ⟨wi_M_isProved, wl_M_isProved⟩, fun h => absurd h (by decide), fun h => absurd h (by decide)⟩
set_option maxRecDepth 10000 in
theorem ck_M_516 : CK 0 "LieOfTwoModel" 516 y_M_isOne 1 := ⟨wc_M_isOne, w0_M, ⟨by decide, by decide, by decide +kernel⟩, (Or.inl (mG (mT8 17 rfl) rfl)), fun _ => ⟨wi_M_isOne, wl_M_isOne⟩, fun h => absurd h (by decide), fun h => absurd h (by decide)⟩
set_option maxRecDepth 10000 in
theorem ck_M_519 : CK 0 "LieOfTwoModel" 519 y_M_splits 2 := ⟨wc_M_splits, w0_M, ⟨by decide, by decide, by decide +kernel⟩, (Or.inl (mG (mT8 26 rfl) rfl)), fun _ => ⟨wi_M_splits, wl_M_splits⟩, fun h => absurd h (by decide), fun h => absurd h (by decide)⟩
set_option maxRecDepth 10000 in
theorem ck_M_522 : CK 0 "LieOfTwoModel" 522 y_M_take 3 := ⟨wc_M_take, w0_M, ⟨by decide, by decide, by decide +kernel⟩, (Or.inl (mG (mT8 30 rfl) rfl)), fun _ => ⟨wi_M_take, wl_M_take⟩, fun h => absurd h (by decide), fun h => absurd h (by decide)⟩
set_option maxRecDepth 10000 in
theorem ck_M_525 : CK 0 "LieOfTwoModel" 525 y_M_byOne 1 := ⟨wc_M_byOne, w0_M, ⟨by decide, by decide, by decide +kernel⟩, (Or.inl (mG (mT8 22 rfl) rfl)), fun _ => ⟨wi_M_byOne, wl_M_byOne⟩, fun h => absurd h (by decide), fun h => absurd h (by decide)⟩
set_option maxRecDepth 10000 in
theorem ck_M_528 : CK 0 "LieOfTwoModel" 528 y_M_layHeard 1 := ⟨wc_M_layHeard, w0_M, ⟨by decide, by decide, by decide +kernel⟩, (Or.inl (mG (mT8 13 rfl) rfl)), fun _ => ⟨wi_M_layHeard, wl_M_layHeard⟩, fun h => absurd h (by decide), fun h => absurd h (by decide)⟩
set_option maxRecDepth 10000 in
theorem ck_M_531 : CK 0 "LieOfTwoModel" 531 y_M_byTwo 1 := ⟨wc_M_byTwo, w0_M, ⟨by decide, by decide, by decide +kernel⟩, (Or.inl (mG (mT8 34 rfl) rfl)), fun _ => ⟨wi_M_byTwo, wl_M_byTwo⟩, fun h => absurd h (by decide), fun h => absurd h (by decide)⟩
set_option maxRecDepth 10000 in
theorem ck_M_534 : CK 0 "LieOfTwoModel" 534 y_M_isLie 2 := ⟨wc_M_isLie, w0_M, ⟨by decide, by decide, by decide +kernel⟩, (Or.inl (mG (mT8 42 rfl) rfl)), fun _ => ⟨wi_M_isLie, wl_M_isLie⟩, fun h => absurd h (by decide), fun h => absurd h (by decide)⟩
set_option maxRecDepth 10000 in
theorem ck_M_537 : CK 0 "LieOfTwoModel" 537 y_M_lastsOf 4 := ⟨wc_M_lastsOf, w0_M, ⟨by decide, by decide, by decide +kernel⟩, (Or.inl (mG (mT8 46 rfl) rfl)), fun _ => ⟨wi_M_lastsOf, wl_M_lastsOf⟩, fun h => absurd h (by decide), fun h => absurd h (by decide)⟩
set_option maxRecDepth 10000 in
theorem ck_M_541 : CK 0 "LieOfTwoModel" 541 y_M_wished 2 := ⟨wc_M_wished, w0_M, ⟨by decide, by decide, by decide +kernel⟩, (Or.inl (mG (mT8 66 rfl) rfl)), fun _ => ⟨wi_M_wished, wl_M_wished⟩, fun h => absurd h (by decide), fun h => absurd h (by decide)⟩
set_option maxRecDepth 10000 in
theorem ck_M_544 : CK 0 "LieOfTwoModel" 544 y_M_areApart 1 := ⟨wc_M_areApart, w0_M, ⟨by decide, by decide, by decide +kernel⟩, (Or.inl (mG (mT8 58 rfl) rfl)), fun _ => ⟨wi_M_areApart, wl_M_areApart⟩, fun h => absurd h (by decide), fun h => absurd h (by decide)⟩
set_option maxRecDepth 10000 in
theorem ck_M_547 : CK 0 "LieOfTwoModel" 547 y_M_gainOf 2 := ⟨wc_M_gainOf, w0_M, ⟨by decide, by decide, by decide +kernel⟩, (Or.inl (mG (mT8 62 rfl) rfl)), fun _ => ⟨wi_M_gainOf, wl_M_gainOf⟩, fun h => absurd h (by decide), fun h => absurd h (by decide)⟩
set_option maxRecDepth 10000 in
theorem ck_M_550 : CK 1 "LieOfTwoModel" 550 y_M_common 2 := ⟨wc_M_common, w0_M, ⟨by decide, by decide, by decide +kernel⟩, (Or.inl (mG (mT8 74 rfl) rfl)), fun h => absurd h (by decide), fun _ => ws_M_common, fun h => absurd h (by decide)⟩
set_option maxRecDepth 10000 in
theorem ck_M_556 : CK 0 "LieOfTwoModel" 556 y_M_areMet 0 := ⟨wc_M_areMet, w0_M, ⟨by decide, by decide, by decide +kernel⟩, (Or.inl (mG (mT8 85 rfl) rfl)), fun _ => ⟨wi_M_areMet, wl_M_areMet⟩, fun h => absurd h (by decide), fun h => absurd h (by decide)⟩
set_option maxRecDepth 10000 in
theorem ck_M_559 : CK 0 "LieOfTwoModel" 559 y_M_pairs 0 := ⟨wc_M_pairs, w0_M, ⟨by decide, by decide, by decide +kernel⟩, (Or.inl (mG (mT8 89 rfl) rfl)), fun _ => ⟨wi_M_pairs, wl_M_pairs⟩, fun h => absurd h (by decide), fun h => absurd h (by decide)⟩
set_option maxRecDepth 10000 in
theorem ck_M_562 : CK 0 "LieOfTwoModel" 562 y_M_stepPair 1 := ⟨wc_M_stepPair, w0_M, ⟨by decide, by decide, by decide +kernel⟩, (Or.inl (mG (mT8 93 rfl) rfl)), fun _ => ⟨wi_M_stepPair, wl_M_stepPair⟩, fun h => absurd h (by decide), fun h => absurd h (by decide)⟩
set_option maxRecDepth 10000 in
theorem ck_M_565 : CK 0 "LieOfTwoModel" 565 y_M_leaguesOf 2 := ⟨wc_M_leaguesOf, w0_M, ⟨by decide, by decide, by decide +kernel⟩, (Or.inl (mG (mT8 81 rfl) rfl)), fun _ => ⟨wi_M_leaguesOf, wl_M_leaguesOf⟩, fun h => absurd h (by decide), fun h => absurd h (by decide)⟩
set_option maxRecDepth 10000 in
theorem ck_M_568 : CK 1 "LieOfTwoModel" 568 y_M_turns 2 := ⟨wc_M_turns, w0_M, ⟨by decide, by decide, by decide +kernel⟩, (Or.inl (mG (mT8 109 rfl) rfl)), fun h => absurd h (by decide), fun _ => ws_M_turns, fun h => absurd h (by decide)⟩
set_option maxRecDepth 10000 in
theorem ck_M_572 : CK 0 "LieOfTwoModel" 572 y_M_turned 3 := ⟨wc_M_turned, w0_M, ⟨by decide, by decide, by decide +kernel⟩, (Or.inl (mG (mT8 105 rfl) rfl)), fun _ => ⟨wi_M_turned, wl_M_turned⟩, fun h => absurd h (by decide), fun h => absurd h (by decide)⟩
set_option maxRecDepth 10000 in
theorem ml_A_47 : Cond.methodLink "LieOfTwo$Asker" 47 ⟨"java/lang/Math", "max", "(II)I"⟩ ∈ tbG := mG (mT4 213 rfl) rfl
set_option maxRecDepth 10000 in
theorem ml_A_74 : Cond.methodLink "LieOfTwo$Asker" 74 ⟨"java/lang/System", "arraycopy", "(Ljava/lang/Object;ILjava/lang/Object;II)V"⟩ ∈ tbG := mG (mT4 224 rfl) rfl
set_option maxRecDepth 10000 in
theorem ml_C_84 : Cond.methodLink "LieOfTwo$Covering" 84 ⟨"java/lang/Math", "min", "(II)I"⟩ ∈ tbG := mG (mT5 97 rfl) rfl
set_option maxRecDepth 10000 in
theorem ml_W_39 : Cond.methodLink "LieOfTwo$Known" 39 ⟨"java/lang/System", "arraycopy", "(Ljava/lang/Object;ILjava/lang/Object;II)V"⟩ ∈ tbG := mG (mT4 160 rfl) rfl
set_option maxRecDepth 10000 in
theorem ml_N_276 : Cond.methodLink "LieOfTwo$Lines" 276 ⟨"java/lang/System", "arraycopy", "(Ljava/lang/Object;ILjava/lang/Object;II)V"⟩ ∈ tbG := mG (mT3 221 rfl) rfl
set_option maxRecDepth 10000 in
theorem ml_Y_36 : Cond.methodLink "LieOfTwo$Sayings" 36 ⟨"java/lang/System", "arraycopy", "(Ljava/lang/Object;ILjava/lang/Object;II)V"⟩ ∈ tbG := mG (mT5 133 rfl) rfl
set_option maxRecDepth 10000 in
theorem ml_T_112 : Cond.methodLink "LieOfTwo$Town" 112 ⟨"java/lang/System", "arraycopy", "(Ljava/lang/Object;ILjava/lang/Object;II)V"⟩ ∈ tbG := mG (mT3 233 rfl) rfl
set_option maxRecDepth 10000 in
theorem ml_T_136 : Cond.methodLink "LieOfTwo$Town" 136 ⟨"java/lang/Math", "max", "(II)I"⟩ ∈ tbG := mG (mT5 56 rfl) rfl
set_option maxRecDepth 10000 in
theorem c_X_160 : Cond.constant "LieOfTwo" 160 (Int32.ofInt 100000) ∈ tbG := mG (mT4 151 rfl) rfl
set_option maxRecDepth 10000 in
theorem c_M_491 : Cond.constant "LieOfTwoModel" 491 (Int32.ofInt 100000) ∈ tbG := mG (mT7 203 rfl) rfl
set_option maxRecDepth 10000 in
theorem c_JI_265 : Cond.constant "java/lang/Integer" 265 (Int32.ofInt 1431655765) ∈ tbG := mG (mT4 118 rfl) rfl
set_option maxRecDepth 10000 in
theorem c_JI_266 : Cond.constant "java/lang/Integer" 266 (Int32.ofInt 858993459) ∈ tbG := mG (mT4 119 rfl) rfl
set_option maxRecDepth 10000 in
theorem c_JI_267 : Cond.constant "java/lang/Integer" 267 (Int32.ofInt 252645135) ∈ tbG := mG (mT4 120 rfl) rfl
set_option maxRecDepth 10000 in
theorem c_A_94 : Cond.constantLong "LieOfTwo$Asker" 94 (Int64.ofInt (-1)) ∈ tbG := mG (mT4 229 rfl) rfl
set_option maxRecDepth 10000 in
theorem c_C_82 : Cond.constantLong "LieOfTwo$Covering" 82 (Int64.ofInt (-1)) ∈ tbG := mG (mT5 96 rfl) rfl
set_option maxRecDepth 10000 in
theorem c_W_83 : Cond.constantLong "LieOfTwo$Known" 83 (Int64.ofInt (-1)) ∈ tbG := mG (mT4 196 rfl) rfl
set_option maxRecDepth 10000 in
theorem c_S_56 : Cond.constantLong "LieOfTwo$Steps" 56 (Int64.ofInt (-1)) ∈ tbG := mG (mT3 189 rfl) rfl
set_option maxRecDepth 10000 in
theorem c_K_39 : Cond.constantLong "LieOfTwo$Tokens" 39 (Int64.ofInt 32) ∈ tbG := mG (mT1 224 rfl) rfl
set_option maxRecDepth 10000 in
theorem c_T_122 : Cond.constantLong "LieOfTwo$Town" 122 (Int64.ofInt (-1)) ∈ tbG := mG (mT3 187 rfl) rfl
set_option maxRecDepth 10000 in
theorem c_M_200 : Cond.constantLong "LieOfTwoModel" 200 (Int64.ofInt 1717658484) ∈ tbG := mG (mT6 208 rfl) rfl
set_option maxRecDepth 10000 in
theorem c_M_202 : Cond.constantLong "LieOfTwoModel" 202 (Int64.ofInt 123581014175598) ∈ tbG := mG (mT6 209 rfl) rfl
set_option maxRecDepth 10000 in
theorem c_M_204 : Cond.constantLong "LieOfTwoModel" 204 (Int64.ofInt 1668248436) ∈ tbG := mG (mT6 210 rfl) rfl
set_option maxRecDepth 10000 in
theorem c_M_206 : Cond.constantLong "LieOfTwoModel" 206 (Int64.ofInt 461414299507) ∈ tbG := mG (mT6 211 rfl) rfl
set_option maxRecDepth 10000 in
theorem c_M_208 : Cond.constantLong "LieOfTwoModel" 208 (Int64.ofInt 7499639) ∈ tbG := mG (mT6 212 rfl) rfl
set_option maxRecDepth 10000 in
theorem c_M_210 : Cond.constantLong "LieOfTwoModel" 210 (Int64.ofInt 107118487239027) ∈ tbG := mG (mT6 213 rfl) rfl
set_option maxRecDepth 10000 in
theorem c_M_212 : Cond.constantLong "LieOfTwoModel" 212 (Int64.ofInt 7629157) ∈ tbG := mG (mT6 214 rfl) rfl
set_option maxRecDepth 10000 in
theorem c_M_214 : Cond.constantLong "LieOfTwoModel" 214 (Int64.ofInt 482955846501) ∈ tbG := mG (mT6 215 rfl) rfl
set_option maxRecDepth 10000 in
theorem c_M_216 : Cond.constantLong "LieOfTwoModel" 216 (Int64.ofInt 2003399528) ∈ tbG := mG (mT6 216 rfl) rfl
set_option maxRecDepth 10000 in
theorem c_M_218 : Cond.constantLong "LieOfTwoModel" 218 (Int64.ofInt 512970880104) ∈ tbG := mG (mT6 217 rfl) rfl
set_option maxRecDepth 10000 in
theorem c_M_220 : Cond.constantLong "LieOfTwoModel" 220 (Int64.ofInt 7102839) ∈ tbG := mG (mT6 218 rfl) rfl
set_option maxRecDepth 10000 in
theorem c_M_222 : Cond.constantLong "LieOfTwoModel" 222 (Int64.ofInt 26982) ∈ tbG := mG (mT6 219 rfl) rfl
set_option maxRecDepth 10000 in
theorem c_M_224 : Cond.constantLong "LieOfTwoModel" 224 (Int64.ofInt 28530) ∈ tbG := mG (mT6 220 rfl) rfl
set_option maxRecDepth 10000 in
theorem c_M_226 : Cond.constantLong "LieOfTwoModel" 226 (Int64.ofInt 6385252) ∈ tbG := mG (mT6 221 rfl) rfl
set_option maxRecDepth 10000 in
theorem c_M_228 : Cond.constantLong "LieOfTwoModel" 228 (Int64.ofInt 7237492) ∈ tbG := mG (mT6 222 rfl) rfl
set_option maxRecDepth 10000 in
theorem c_M_230 : Cond.constantLong "LieOfTwoModel" 230 (Int64.ofInt 448545973363) ∈ tbG := mG (mT6 223 rfl) rfl
set_option maxRecDepth 10000 in
theorem c_M_232 : Cond.constantLong "LieOfTwoModel" 232 (Int64.ofInt 127991794264947) ∈ tbG := mG (mT6 224 rfl) rfl
set_option maxRecDepth 10000 in
theorem c_M_234 : Cond.constantLong "LieOfTwoModel" 234 (Int64.ofInt 130220881569139) ∈ tbG := mG (mT6 225 rfl) rfl
set_option maxRecDepth 10000 in
theorem c_M_236 : Cond.constantLong "LieOfTwoModel" 236 (Int64.ofInt 418497262196) ∈ tbG := mG (mT6 226 rfl) rfl
set_option maxRecDepth 10000 in
theorem c_M_238 : Cond.constantLong "LieOfTwoModel" 238 (Int64.ofInt 1953064292) ∈ tbG := mG (mT6 227 rfl) rfl
set_option maxRecDepth 10000 in
theorem c_M_514 : Cond.constantLong "LieOfTwoModel" 514 (Int64.ofInt (-1)) ∈ tbG := mG (mT8 21 rfl) rfl
set_option maxRecDepth 10000 in
theorem c_JL_314 : Cond.constantLong "java/lang/Long" 314 (Int64.ofInt 6148914691236517205) ∈ tbG := mG (mT4 61 rfl) rfl
set_option maxRecDepth 10000 in
theorem c_JL_316 : Cond.constantLong "java/lang/Long" 316 (Int64.ofInt 3689348814741910323) ∈ tbG := mG (mT4 62 rfl) rfl
set_option maxRecDepth 10000 in
theorem c_JL_318 : Cond.constantLong "java/lang/Long" 318 (Int64.ofInt 1085102592571150095) ∈ tbG := mG (mT4 63 rfl) rfl
