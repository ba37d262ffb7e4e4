def eI (l : List (Nat × Nat)) (c : Nat) : Bool := l.any fun q => decide (q.1 ≤ c) && decide (c ≤ q.2)
theorem eI_in {l : List (Nat × Nat)} {a b c : Nat} (h : l.any (fun q => decide (q.1 ≤ a) && decide (b ≤ q.2)) = true) (h1 : a ≤ c) (h2 : c ≤ b) : eI l c = true := by
  obtain ⟨q, hq, h3⟩ := List.any_eq_true.mp h
  simp only [Bool.and_eq_true, decide_eq_true_eq] at h3
  refine List.any_eq_true.mpr ⟨q, hq, ?_⟩
  simp only [Bool.and_eq_true, decide_eq_true_eq]
  omega
def estP (M : Mem) (t : Nat) : Nat → List Nat → Prop
  | _, [] => True
  | k, r :: rs => (r = 0 ∨ M t k = (r : Int)) ∧ estP M t (k + 1) rs
theorem estP_at {M : Mem} {t : Nat} : ∀ (rs : List Nat) (k : Nat), estP M t k rs → ∀ j, rs.getD j 0 ≠ 0 → M t (k + j) = ((rs.getD j 0 : Nat) : Int)
  | [], _, _, j, h => absurd (by simp) h
  | r :: rs, k, h, 0, h0 => by
    rcases h.1 with h1 | h1
    · exact absurd h1 h0
    · exact h1
  | r :: rs, k, h, j + 1, h0 => by
    have := estP_at rs (k + 1) h.2 j h0
    rw [show k + (j + 1) = k + 1 + j by omega]
    exact this
theorem est_of {M : Mem} {l l' : List (Nat × Nat)} {n : Nat} (t u : Nat) (h1 : (List.range 139).all (fun c => decide (eI l c = eI l' c) || (rfL.getD c []).isEmpty || c == t || c == u) = true) (ht : eI l t = false ∧ eI l' t = true) (hu : eI l u = false ∧ eI l' u = true) (hT : estP M t 0 (rfL.getD t [])) (hU : estP M u 0 (rfL.getD u [])) : ∀ c k, 1 ≤ c → c ≤ n → fld (eI l) M c k = fld (eI l') M c k := by
  have key : ∀ c, eI l c = false ∧ eI l' c = true → estP M c 0 (rfL.getD c []) → ∀ k, fld (eI l) M c k = fld (eI l') M c k := by
    intro c hc hP k
    unfold fld
    rw [hc.1, hc.2]
    by_cases hr : rf c k = 0
    · simp [hr]
    · have := estP_at _ 0 hP k hr
      rw [Nat.zero_add] at this
      simp [hr]
      exact this
  intro c k _ _
  by_cases hc : c < 139
  · have h := List.all_eq_true.mp h1 c (List.mem_range.mpr hc)
    simp only [Bool.or_eq_true, decide_eq_true_eq, beq_iff_eq] at h
    rcases h with ((h | h) | h) | h
    · unfold fld; rw [h]
    · have e : rf c k = 0 := by
        unfold rf
        rw [List.isEmpty_iff.mp h]
        rfl
      unfold fld
      simp [e]
    · rw [h]; exact key t ht hT k
    · rw [h]; exact key u hu hU k
  · have e0 : rfL.getD c [] = [] := by
      rw [List.getD_eq_getElem?_getD, List.getElem?_eq_none (by
        have : rfL.length = 139 := rfl
        omega)]
      rfl
    have e : rf c k = 0 := by
      unfold rf
      rw [e0]
      rfl
    unfold fld
    simp [e]
theorem Z_and {α : Type} {e : Option α} {P K : α → Prop} (hP : ∀ a, e = some a → P a) (h : Z e K) : Z e (fun a => P a ∧ K a) := by
  obtain ⟨a, h1, h2⟩ := h
  exact ⟨a, h1, hP a h1, h2⟩
theorem oi_words : Cond.instanceMethod Lib.objectInit ∈ tbG ∧ Cond.code Lib.objectInit ⟨#[0xb1]⟩ 1 none ∈ tbG := by decide +kernel
theorem nar_char {a : Int} (h : i2c a = a) : narrow .char (.int (Int32.ofInt a)) = .int (Int32.ofInt a) := by
  show Value.int ((Int32.ofInt a).toUInt32 % 65536).toInt32 = _
  have h2 : Int32.ofInt (i2c a) = ((Int32.ofInt a).toUInt32 % 65536).toInt32 := by
    unfold i2c
    rw [Int32.ofInt_toInt]
  rw [← h2, h]
section STRC
variable {y y' : MI} {B : BI} {Q : Option aV → Mem → Prop} {pc : Nat} {L : List (Nat × aV)} {St : List aV} {E : Nat → Bool} {n : Nat} {M : Mem}
theorem R_cstrP {ix : Nat} (As S : List aV) (ck : CK 0 y.1.cls ix y' As.length) (d : Dc y pc (.invokevirtual ix) 3) (hcl : y'.1.cls = "java/lang/String") {fr' lo' : Nat} (hB1 : fr' + 1 ≤ B.1) (hB2 : 8 + (y'.2.2.1 + 11) + lo' ≤ B.2.1) (hS8 : wid S ≤ 8) (hS : As.reverse ++ vR 998 :: S = St) {K : Int → Prop} (hM : Mt y' (fr', lo', n, n, E) E (vR 998 :: As) M (qP M K)) (kk : ∀ v, K v → Rr y B Q (pc + 3) L (vI v :: S) E n M) : Rr y B Q pc L St E n M := by
  subst hS
  exact R_call 0 (Or.inl rfl) ck d (fun _ => Or.inr ⟨rfl, hcl⟩) hB1 hB2 hS8 hM (fun r M' hq => by obtain ⟨v, rfl, rfl, h⟩ := hq; exact kk v h)
end STRC
abbrev y_T_init : MI := (⟨"LieOfTwo$Town", "<init>", "()V"⟩, prog_10_method_1_code, 1, none, none)
def t_T_init : List (Nat × Instr × Nat) := [(0, (.aload_n 0), 1), (1, (.invokespecial 3), 3), (4, (.aload_n 0), 1), (5, (.bipush 8), 2), (7, (.newarray .int), 2), (9, (.putfield 9), 3), (12, (.aload_n 0), 1), (13, (.bipush 8), 2), (15, (.newarray .int), 2), (17, (.putfield 15), 3), (20, (.aload_n 0), 1), (21, (.bipush 8), 2), (23, (.newarray .int), 2), (25, (.putfield 18), 3), (28, (.aload_n 0), 1), (29, (.bipush 12), 2), (31, (.newarray .int), 2), (33, (.putfield 21), 3), (36, (.aload_n 0), 1), (37, (.bipush 12), 2), (39, (.newarray .int), 2), (41, (.putfield 24), 3), (44, (.aload_n 0), 1), (45, (.bipush 12), 2), (47, (.newarray .int), 2), (49, (.putfield 27), 3), (52, (.aload_n 0), 1), (53, (.bipush 96), 2), (55, (.newarray .int), 2), (57, (.putfield 30), 3), (60, (.aload_n 0), 1), (61, (.iconst 4), 1), (62, (.newarray .long), 2), (64, (.putfield 33), 3), (67, (.aload_n 0), 1), (68, (.bipush 48), 2), (70, (.newarray .long), 2), (72, (.putfield 37), 3), (75, (.aload_n 0), 1), (76, (.sipush 384), 3), (79, (.newarray .long), 2), (81, (.putfield 40), 3), (84, (.aload_n 0), 1), (85, (.sipush 384), 3), (88, (.newarray .long), 2), (90, (.putfield 43), 3), (93, (.aload_n 0), 1), (94, (.invokevirtual 46), 3), (97, .return_, 1)]
theorem k_T_init : t_T_init.all (fun q => decide (decode y_T_init.2.1 q.1 = .ok (q.2.1, q.2.2))) = true := by decide +kernel
set_option maxRecDepth 10000 in
theorem wc_T_init : Cond.code y_T_init.1 y_T_init.2.1 y_T_init.2.2.1 y_T_init.2.2.2.1 ∈ tbG := mG (mT1 32 rfl) rfl
set_option maxRecDepth 10000 in
theorem wi_T_init : Cond.instanceMethod y_T_init.1 ∈ tbG := mG (mT1 31 rfl) rfl
abbrev y_S_init : MI := (⟨"LieOfTwo$Steps", "<init>", "()V"⟩, prog_8_method_1_code, 1, none, none)
def t_S_init : List (Nat × Instr × Nat) := [(0, (.aload_n 0), 1), (1, (.invokespecial 3), 3), (4, (.aload_n 0), 1), (5, (.sipush 720), 3), (8, (.newarray .int), 2), (10, (.putfield 9), 3), (13, (.aload_n 0), 1), (14, (.bipush 100), 2), (16, (.newarray .long), 2), (18, (.putfield 15), 3), (21, (.aload_n 0), 1), (22, (.bipush 25), 2), (24, (.newarray .int), 2), (26, (.putfield 19), 3), (29, .return_, 1)]
theorem k_S_init : t_S_init.all (fun q => decide (decode y_S_init.2.1 q.1 = .ok (q.2.1, q.2.2))) = true := by decide +kernel
set_option maxRecDepth 10000 in
theorem wc_S_init : Cond.code y_S_init.1 y_S_init.2.1 y_S_init.2.2.1 y_S_init.2.2.2.1 ∈ tbG := mG (mT1 149 rfl) rfl
set_option maxRecDepth 10000 in
theorem wi_S_init : Cond.instanceMethod y_S_init.1 ∈ tbG := mG (mT1 148 rfl) rfl
abbrev y_JS_coder : MI := (⟨"java/lang/String", "coder", "()B"⟩, prog_16_method_152_code, 1, (some .byte), none)
def t_JS_coder : List (Nat × Instr × Nat) := [(0, (.getstatic 38), 3), (3, (.ifCond .eq 10), 3), (6, (.aload_n 0), 1), (7, (.getfield 15), 3), (10, (.goto 4), 3), (13, (.iconst 1), 1), (14, .ireturn, 1)]
theorem k_JS_coder : t_JS_coder.all (fun q => decide (decode y_JS_coder.2.1 q.1 = .ok (q.2.1, q.2.2))) = true := by decide +kernel
set_option maxRecDepth 10000 in
theorem wc_JS_coder : Cond.code y_JS_coder.1 y_JS_coder.2.1 y_JS_coder.2.2.1 y_JS_coder.2.2.2.1 ∈ tbG := mG (mT1 180 rfl) rfl
set_option maxRecDepth 10000 in
theorem wi_JS_coder : Cond.instanceMethod y_JS_coder.1 ∈ tbG := mG (mT1 178 rfl) rfl
set_option maxRecDepth 10000 in
theorem wl_JS_coder : Cond.selects y_JS_coder.1.cls y_JS_coder.1 y_JS_coder.1 ∈ tbG := mG (mT1 179 rfl) rfl
abbrev y_JS_length : MI := (⟨"java/lang/String", "length", "()I"⟩, prog_16_method_54_code, 1, (some .int), none)
def t_JS_length : List (Nat × Instr × Nat) := [(0, (.aload_n 0), 1), (1, (.getfield 9), 3), (4, .arraylength, 1), (5, (.aload_n 0), 1), (6, (.invokevirtual 335), 3), (9, .ishr, 1), (10, .ireturn, 1)]
theorem k_JS_length : t_JS_length.all (fun q => decide (decode y_JS_length.2.1 q.1 = .ok (q.2.1, q.2.2))) = true := by decide +kernel
set_option maxRecDepth 10000 in
theorem wc_JS_length : Cond.code y_JS_length.1 y_JS_length.2.1 y_JS_length.2.2.1 y_JS_length.2.2.2.1 ∈ tbG := mG (mT1 176 rfl) rfl
set_option maxRecDepth 10000 in
theorem wi_JS_length : Cond.instanceMethod y_JS_length.1 ∈ tbG := mG (mT1 174 rfl) rfl
set_option maxRecDepth 10000 in
theorem wl_JS_length : Cond.selects y_JS_length.1.cls y_JS_length.1 y_JS_length.1 ∈ tbG := mG (mT1 175 rfl) rfl
abbrev y_JS_isLatin1 : MI := (⟨"java/lang/String", "isLatin1", "()Z"⟩, prog_16_method_154_code, 1, (some .boolean), none)
def t_JS_isLatin1 : List (Nat × Instr × Nat) := [(0, (.getstatic 38), 3), (3, (.ifCond .eq 14), 3), (6, (.aload_n 0), 1), (7, (.getfield 15), 3), (10, (.ifCond .ne 7), 3), (13, (.iconst 1), 1), (14, (.goto 4), 3), (17, (.iconst 0), 1), (18, .ireturn, 1)]
theorem k_JS_isLatin1 : t_JS_isLatin1.all (fun q => decide (decode y_JS_isLatin1.2.1 q.1 = .ok (q.2.1, q.2.2))) = true := by decide +kernel
set_option maxRecDepth 10000 in
theorem wc_JS_isLatin1 : Cond.code y_JS_isLatin1.1 y_JS_isLatin1.2.1 y_JS_isLatin1.2.2.1 y_JS_isLatin1.2.2.2.1 ∈ tbG := mG (mT1 190 rfl) rfl
set_option maxRecDepth 10000 in
theorem wi_JS_isLatin1 : Cond.instanceMethod y_JS_isLatin1.1 ∈ tbG := mG (mT1 188 rfl) rfl
set_option maxRecDepth 10000 in
theorem wl_JS_isLatin1 : Cond.selects y_JS_isLatin1.1.cls y_JS_isLatin1.1 y_JS_isLatin1.1 ∈ tbG := mG (mT1 189 rfl) rfl
abbrev y_JT_charAt : MI := (⟨"java/lang/StringLatin1", "charAt", "([BI)C"⟩, prog_17_method_2_code, 2, (some .char), none)
def t_JT_charAt : List (Nat × Instr × Nat) := [(0, (.iload_n 1), 1), (1, (.aload_n 0), 1), (2, .arraylength, 1), (3, (.invokestatic 9), 3), (6, (.aload_n 0), 1), (7, (.iload_n 1), 1), (8, .baload, 1), (9, (.sipush 255), 3), (12, .iand, 1), (13, .i2c, 1), (14, .ireturn, 1)]
theorem k_JT_charAt : t_JT_charAt.all (fun q => decide (decode y_JT_charAt.2.1 q.1 = .ok (q.2.1, q.2.2))) = true := by decide +kernel
set_option maxRecDepth 10000 in
theorem wc_JT_charAt : Cond.code y_JT_charAt.1 y_JT_charAt.2.1 y_JT_charAt.2.2.1 y_JT_charAt.2.2.2.1 ∈ tbG := mG (mT1 193 rfl) rfl
set_option maxRecDepth 10000 in
theorem ws_JT_charAt : Cond.static y_JT_charAt.1 ∈ tbG := mG (mT1 192 rfl) rfl
abbrev y_JS_charAt : MI := (⟨"java/lang/String", "charAt", "(I)C"⟩, prog_16_method_56_code, 2, (some .char), none)
def t_JS_charAt : List (Nat × Instr × Nat) := [(0, (.aload_n 0), 1), (1, (.invokevirtual 492), 3), (4, (.ifCond .eq 12), 3), (7, (.aload_n 0), 1), (8, (.getfield 9), 3), (11, (.iload_n 1), 1), (12, (.invokestatic 495), 3), (15, .ireturn, 1), (16, (.aload_n 0), 1), (17, (.getfield 9), 3), (20, (.iload_n 1), 1), (21, (.invokestatic 498), 3), (24, .ireturn, 1)]
theorem k_JS_charAt : t_JS_charAt.all (fun q => decide (decode y_JS_charAt.2.1 q.1 = .ok (q.2.1, q.2.2))) = true := by decide +kernel
set_option maxRecDepth 10000 in
theorem wc_JS_charAt : Cond.code y_JS_charAt.1 y_JS_charAt.2.1 y_JS_charAt.2.2.1 y_JS_charAt.2.2.2.1 ∈ tbG := mG (mT1 186 rfl) rfl
set_option maxRecDepth 10000 in
theorem wi_JS_charAt : Cond.instanceMethod y_JS_charAt.1 ∈ tbG := mG (mT1 184 rfl) rfl
set_option maxRecDepth 10000 in
theorem wl_JS_charAt : Cond.selects y_JS_charAt.1.cls y_JS_charAt.1 y_JS_charAt.1 ∈ tbG := mG (mT1 185 rfl) rfl
abbrev y_K_init : MI := (⟨"LieOfTwo$Tokens", "<init>", "([B)V"⟩, prog_9_method_1_code, 6, none, none)
def t_K_init : List (Nat × Instr × Nat) := [(0, (.aload_n 0), 1), (1, (.invokespecial 3), 3), (4, (.aload_n 0), 1), (5, (.bipush 20), 2), (7, (.newarray .long), 2), (9, (.putfield 9), 3), (12, (.aload_n 0), 1), (13, (.iconst (-1)), 1), (14, (.putfield 15), 3), (17, (.aload_n 0), 1), (18, (.aload_n 1), 1), (19, (.putfield 19), 3), (22, (.iconst 0), 1), (23, (.istore_n 2), 1), (24, (.lconst 0), 1), (25, (.lstore_n 3), 1), (26, (.iconst 0), 1), (27, (.istore 5), 2), (29, (.iload 5), 2), (31, (.ldc 23), 2), (33, (.invokevirtual 25), 3), (36, (.if_icmp .ge 54), 3), (39, (.iload_n 2), 1), (40, (.bipush 20), 2), (42, (.if_icmp .ge 48), 3), (45, (.ldc 23), 2), (47, (.iload 5), 2), (49, (.invokevirtual 31), 3), (52, (.bipush 32), 2), (54, (.if_icmp .ne 18), 3), (57, (.aload_n 0), 1), (58, (.getfield 9), 3), (61, (.iload_n 2), 1), (62, (.lload_n 3), 1), (63, .lastore, 1), (64, (.iinc 2 1), 3), (67, (.lconst 0), 1), (68, (.lstore_n 3), 1), (69, (.goto 15), 3), (72, (.lload_n 3), 1), (73, (.ldc 23), 2), (75, (.iload 5), 2), (77, (.invokevirtual 31), 3), (80, (.invokestatic 35), 3), (83, (.lstore_n 3), 1), (84, (.iinc 5 1), 3), (87, (.goto (-58)), 3), (90, .return_, 1)]
theorem k_K_init : t_K_init.all (fun q => decide (decode y_K_init.2.1 q.1 = .ok (q.2.1, q.2.2))) = true := by decide +kernel
set_option maxRecDepth 10000 in
theorem wc_K_init : Cond.code y_K_init.1 y_K_init.2.1 y_K_init.2.2.1 y_K_init.2.2.2.1 ∈ tbG := mG (mT1 170 rfl) rfl
set_option maxRecDepth 10000 in
theorem wi_K_init : Cond.instanceMethod y_K_init.1 ∈ tbG := mG (mT1 169 rfl) rfl
abbrev y_N_init : MI := (⟨"LieOfTwo$Lines", "<init>", "([B)V"⟩, prog_5_method_1_code, 2, none, none)
def t_N_init : List (Nat × Instr × Nat) := [(0, (.aload_n 0), 1), (1, (.invokespecial 3), 3), (4, (.aload_n 0), 1), (5, (.new 9), 3), (8, .dup, 1), (9, (.invokespecial 11), 3), (12, (.putfield 12), 3), (15, (.aload_n 0), 1), (16, (.bipush 8), 2), (18, (.newarray .long), 2), (20, (.putfield 18), 3), (23, (.aload_n 0), 1), (24, (.bipush 8), 2), (26, (.newarray .long), 2), (28, (.putfield 22), 3), (31, (.aload_n 0), 1), (32, (.bipush 12), 2), (34, (.newarray .long), 2), (36, (.putfield 25), 3), (39, (.aload_n 0), 1), (40, (.bipush 12), 2), (42, (.newarray .int), 2), (44, (.putfield 28), 3), (47, (.aload_n 0), 1), (48, (.bipush 12), 2), (50, (.newarray .int), 2), (52, (.putfield 32), 3), (55, (.aload_n 0), 1), (56, (.bipush 12), 2), (58, (.newarray .boolean), 2), (60, (.putfield 35), 3), (63, (.aload_n 0), 1), (64, (.iconst 4), 1), (65, (.newarray .int), 2), (67, (.putfield 39), 3), (70, (.aload_n 0), 1), (71, (.iconst 4), 1), (72, (.newarray .int), 2), (74, (.putfield 42), 3), (77, (.aload_n 0), 1), (78, (.new 45), 3), (81, .dup, 1), (82, (.aload_n 1), 1), (83, (.invokespecial 47), 3), (86, (.putfield 50), 3), (89, .return_, 1)]
theorem k_N_init : t_N_init.all (fun q => decide (decode y_N_init.2.1 q.1 = .ok (q.2.1, q.2.2))) = true := by decide +kernel
set_option maxRecDepth 10000 in
theorem wc_N_init : Cond.code y_N_init.1 y_N_init.2.1 y_N_init.2.2.1 y_N_init.2.2.2.1 ∈ tbG := mG (mT1 143 rfl) rfl
set_option maxRecDepth 10000 in
theorem wi_N_init : Cond.instanceMethod y_N_init.1 ∈ tbG := mG (mT1 142 rfl) rfl
abbrev y_Y_init : MI := (⟨"LieOfTwo$Sayings", "<init>", "()V"⟩, prog_7_method_1_code, 1, none, none)
def t_Y_init : List (Nat × Instr × Nat) := [(0, (.aload_n 0), 1), (1, (.invokespecial 3), 3), (4, (.aload_n 0), 1), (5, (.bipush 40), 2), (7, (.newarray .int), 2), (9, (.putfield 9), 3), (12, (.aload_n 0), 1), (13, (.bipush 40), 2), (15, (.newarray .int), 2), (17, (.putfield 15), 3), (20, (.aload_n 0), 1), (21, (.bipush 40), 2), (23, (.newarray .boolean), 2), (25, (.putfield 18), 3), (28, (.aload_n 0), 1), (29, (.bipush 40), 2), (31, (.newarray .int), 2), (33, (.putfield 22), 3), (36, (.aload_n 0), 1), (37, (.bipush 40), 2), (39, (.newarray .int), 2), (41, (.putfield 25), 3), (44, (.aload_n 0), 1), (45, (.sipush 160), 3), (48, (.newarray .long), 2), (50, (.putfield 28), 3), (53, .return_, 1)]
theorem k_Y_init : t_Y_init.all (fun q => decide (decode y_Y_init.2.1 q.1 = .ok (q.2.1, q.2.2))) = true := by decide +kernel
set_option maxRecDepth 10000 in
theorem wc_Y_init : Cond.code y_Y_init.1 y_Y_init.2.1 y_Y_init.2.2.1 y_Y_init.2.2.2.1 ∈ tbG := mG (mT2 79 rfl) rfl
set_option maxRecDepth 10000 in
theorem wi_Y_init : Cond.instanceMethod y_Y_init.1 ∈ tbG := mG (mT2 78 rfl) rfl
abbrev y_W_init : MI := (⟨"LieOfTwo$Known", "<init>", "()V"⟩, prog_4_method_1_code, 1, none, none)
def t_W_init : List (Nat × Instr × Nat) := [(0, (.aload_n 0), 1), (1, (.invokespecial 3), 3), (4, (.aload_n 0), 1), (5, (.bipush 40), 2), (7, (.newarray .int), 2), (9, (.putfield 9), 3), (12, (.aload_n 0), 1), (13, (.iconst 4), 1), (14, (.newarray .long), 2), (16, (.putfield 15), 3), (19, .return_, 1)]
theorem k_W_init : t_W_init.all (fun q => decide (decode y_W_init.2.1 q.1 = .ok (q.2.1, q.2.2))) = true := by decide +kernel
set_option maxRecDepth 10000 in
theorem wc_W_init : Cond.code y_W_init.1 y_W_init.2.1 y_W_init.2.2.1 y_W_init.2.2.2.1 ∈ tbG := mG (mT2 119 rfl) rfl
set_option maxRecDepth 10000 in
theorem wi_W_init : Cond.instanceMethod y_W_init.1 ∈ tbG := mG (mT2 118 rfl) rfl
abbrev y_A_init : MI := (⟨"LieOfTwo$Asker", "<init>", "()V"⟩, prog_2_method_1_code, 1, none, none)
def t_A_init : List (Nat × Instr × Nat) := [(0, (.aload_n 0), 1), (1, (.invokespecial 3), 3), (4, (.aload_n 0), 1), (5, (.bipush 16), 2), (7, (.newarray .long), 2), (9, (.putfield 9), 3), (12, .return_, 1)]
theorem k_A_init : t_A_init.all (fun q => decide (decode y_A_init.2.1 q.1 = .ok (q.2.1, q.2.2))) = true := by decide +kernel
set_option maxRecDepth 10000 in
theorem wc_A_init : Cond.code y_A_init.1 y_A_init.2.1 y_A_init.2.2.1 y_A_init.2.2.2.1 ∈ tbG := mG (mT2 152 rfl) rfl
set_option maxRecDepth 10000 in
theorem wi_A_init : Cond.instanceMethod y_A_init.1 ∈ tbG := mG (mT2 151 rfl) rfl
abbrev y_P_init : MI := (⟨"LieOfTwo$Pairing", "<init>", "()V"⟩, prog_6_method_1_code, 1, none, none)
def t_P_init : List (Nat × Instr × Nat) := [(0, (.aload_n 0), 1), (1, (.invokespecial 3), 3), (4, (.aload_n 0), 1), (5, (.bipush 12), 2), (7, (.newarray .int), 2), (9, (.putfield 9), 3), (12, .return_, 1)]
theorem k_P_init : t_P_init.all (fun q => decide (decode y_P_init.2.1 q.1 = .ok (q.2.1, q.2.2))) = true := by decide +kernel
set_option maxRecDepth 10000 in
theorem wc_P_init : Cond.code y_P_init.1 y_P_init.2.1 y_P_init.2.2.1 y_P_init.2.2.2.1 ∈ tbG := mG (mT2 180 rfl) rfl
set_option maxRecDepth 10000 in
theorem wi_P_init : Cond.instanceMethod y_P_init.1 ∈ tbG := mG (mT2 179 rfl) rfl
abbrev y_C_init : MI := (⟨"LieOfTwo$Covering", "<init>", "()V"⟩, prog_3_method_1_code, 1, none, none)
def t_C_init : List (Nat × Instr × Nat) := [(0, (.aload_n 0), 1), (1, (.invokespecial 3), 3), (4, (.aload_n 0), 1), (5, (.bipush 64), 2), (7, (.newarray .long), 2), (9, (.putfield 9), 3), (12, .return_, 1)]
theorem k_C_init : t_C_init.all (fun q => decide (decode y_C_init.2.1 q.1 = .ok (q.2.1, q.2.2))) = true := by decide +kernel
set_option maxRecDepth 10000 in
theorem wc_C_init : Cond.code y_C_init.1 y_C_init.2.1 y_C_init.2.2.1 y_C_init.2.2.2.1 ∈ tbG := mG (mT2 207 rfl) rfl
set_option maxRecDepth 10000 in
theorem wi_C_init : Cond.instanceMethod y_C_init.1 ∈ tbG := mG (mT2 206 rfl) rfl
abbrev y_X_init : MI := (⟨"LieOfTwo", "<init>", "()V"⟩, prog_1_method_1_code, 1, none, none)
def t_X_init : List (Nat × Instr × Nat) := [(0, (.aload_n 0), 1), (1, (.invokespecial 3), 3), (4, (.aload_n 0), 1), (5, (.sipush 1600), 3), (8, (.newarray .byte), 2), (10, (.putfield 9), 3), (13, (.aload_n 0), 1), (14, (.new 13), 3), (17, .dup, 1), (18, (.invokespecial 15), 3), (21, (.putfield 16), 3), (24, (.aload_n 0), 1), (25, (.new 13), 3), (28, .dup, 1), (29, (.invokespecial 15), 3), (32, (.putfield 20), 3), (35, (.aload_n 0), 1), (36, (.new 23), 3), (39, .dup, 1), (40, (.aload_n 0), 1), (41, (.getfield 9), 3), (44, (.invokespecial 25), 3), (47, (.putfield 28), 3), (50, (.aload_n 0), 1), (51, (.new 32), 3), (54, .dup, 1), (55, (.invokespecial 34), 3), (58, (.putfield 35), 3), (61, (.aload_n 0), 1), (62, (.iconst 3), 1), (63, (.anewarray 32), 3), (66, .dup, 1), (67, (.iconst 0), 1), (68, (.new 32), 3), (71, .dup, 1), (72, (.invokespecial 34), 3), (75, .aastore, 1), (76, .dup, 1), (77, (.iconst 1), 1), (78, (.new 32), 3), (81, .dup, 1), (82, (.invokespecial 34), 3), (85, .aastore, 1), (86, .dup, 1), (87, (.iconst 2), 1), (88, (.new 32), 3), (91, .dup, 1), (92, (.invokespecial 34), 3), (95, .aastore, 1), (96, (.putfield 39), 3), (99, (.aload_n 0), 1), (100, (.new 43), 3), (103, .dup, 1), (104, (.invokespecial 45), 3), (107, (.putfield 46), 3), (110, (.aload_n 0), 1), (111, (.new 50), 3), (114, .dup, 1), (115, (.invokespecial 52), 3), (118, (.putfield 53), 3), (121, (.aload_n 0), 1), (122, (.new 57), 3), (125, .dup, 1), (126, (.invokespecial 59), 3), (129, (.putfield 60), 3), (132, (.aload_n 0), 1), (133, (.new 64), 3), (136, .dup, 1), (137, (.invokespecial 66), 3), (140, (.putfield 67), 3), (143, (.aload_n 0), 1), (144, (.iconst 4), 1), (145, (.newarray .long), 2), (147, (.putfield 71), 3), (150, (.aload_n 0), 1), (151, (.getfield 28), 3), (154, (.aload_n 0), 1), (155, (.getfield 16), 3), (158, (.iconst 0), 1), (159, (.invokevirtual 75), 3), (162, (.aload_n 0), 1), (163, (.getfield 28), 3), (166, (.invokevirtual 79), 3), (169, .return_, 1)]
theorem k_X_init : t_X_init.all (fun q => decide (decode y_X_init.2.1 q.1 = .ok (q.2.1, q.2.2))) = true := by decide +kernel
set_option maxRecDepth 10000 in
theorem wc_X_init : Cond.code y_X_init.1 y_X_init.2.1 y_X_init.2.2.1 y_X_init.2.2.2.1 ∈ tbG := mG (mT1 24 rfl) rfl
set_option maxRecDepth 10000 in
theorem wi_X_init : Cond.instanceMethod y_X_init.1 ∈ tbG := mG (mT1 23 rfl) rfl
abbrev y_M_init : MI := (⟨"LieOfTwoModel", "<init>", "()V"⟩, prog_12_method_1_code, 2, none, none)
def t_M_init : List (Nat × Instr × Nat) := [(0, (.aload_n 0), 1), (1, (.invokespecial 1), 3), (4, (.aload_n 0), 1), (5, (.sipush 1620), 3), (8, (.newarray .byte), 2), (10, (.putfield 7), 3), (13, (.aload_n 0), 1), (14, (.sipush 1600), 3), (17, (.newarray .byte), 2), (19, (.putfield 13), 3), (22, (.aload_n 0), 1), (23, (.iconst (-1)), 1), (24, (.putfield 16), 3), (27, (.aload_n 0), 1), (28, (.iconst 2), 1), (29, (.newarray .int), 2), (31, (.putfield 20), 3), (34, (.aload_n 0), 1), (35, (.iconst 2), 1), (36, (.newarray .int), 2), (38, (.putfield 24), 3), (41, (.aload_n 0), 1), (42, (.iconst 2), 1), (43, (.newarray .int), 2), (45, (.putfield 27), 3), (48, (.aload_n 0), 1), (49, (.iconst 2), 1), (50, (.newarray .int), 2), (52, (.putfield 30), 3), (55, (.aload_n 0), 1), (56, (.iconst 2), 1), (57, (.newarray .int), 2), (59, (.putfield 33), 3), (62, (.aload_n 0), 1), (63, (.iconst 2), 1), (64, (.newarray .int), 2), (66, (.putfield 36), 3), (69, (.aload_n 0), 1), (70, (.iconst 2), 1), (71, (.newarray .int), 2), (73, (.putfield 39), 3), (76, (.aload_n 0), 1), (77, (.iconst 2), 1), (78, (.newarray .boolean), 2), (80, (.putfield 42), 3), (83, (.aload_n 0), 1), (84, (.bipush 24), 2), (86, (.newarray .boolean), 2), (88, (.putfield 46), 3), (91, (.aload_n 0), 1), (92, (.bipush 16), 2), (94, (.newarray .long), 2), (96, (.putfield 49), 3), (99, (.aload_n 0), 1), (100, (.bipush 16), 2), (102, (.newarray .long), 2), (104, (.putfield 53), 3), (107, (.aload_n 0), 1), (108, (.bipush 24), 2), (110, (.newarray .long), 2), (112, (.putfield 56), 3), (115, (.aload_n 0), 1), (116, (.bipush 16), 2), (118, (.newarray .int), 2), (120, (.putfield 59), 3), (123, (.aload_n 0), 1), (124, (.bipush 16), 2), (126, (.newarray .int), 2), (128, (.putfield 62), 3), (131, (.aload_n 0), 1), (132, (.bipush 24), 2), (134, (.newarray .int), 2), (136, (.putfield 65), 3), (139, (.aload_n 0), 1), (140, (.bipush 24), 2), (142, (.newarray .int), 2), (144, (.putfield 68), 3), (147, (.aload_n 0), 1), (148, (.bipush 24), 2), (150, (.newarray .int), 2), (152, (.putfield 71), 3), (155, (.aload_n 0), 1), (156, (.bipush 24), 2), (158, (.newarray .int), 2), (160, (.putfield 74), 3), (163, (.aload_n 0), 1), (164, (.bipush 24), 2), (166, (.newarray .int), 2), (168, (.putfield 77), 3), (171, (.aload_n 0), 1), (172, (.bipush 24), 2), (174, (.newarray .int), 2), (176, (.putfield 80), 3), (179, (.aload_n 0), 1), (180, (.bipush 34), 2), (182, (.newarray .int), 2), (184, (.putfield 83), 3), (187, (.aload_n 0), 1), (188, (.bipush 34), 2), (190, (.newarray .int), 2), (192, (.putfield 86), 3), (195, (.aload_n 0), 1), (196, (.sipush 1800), 3), (199, (.newarray .int), 2), (201, (.putfield 89), 3), (204, (.aload_n 0), 1), (205, (.sipush 1800), 3), (208, (.newarray .int), 2), (210, (.putfield 92), 3), (213, (.aload_n 0), 1), (214, (.bipush 120), 2), (216, (.newarray .int), 2), (218, (.putfield 95), 3), (221, (.aload_n 0), 1), (222, (.bipush 120), 2), (224, (.newarray .int), 2), (226, (.putfield 98), 3), (229, (.aload_n 0), 1), (230, (.bipush 120), 2), (232, (.newarray .int), 2), (234, (.putfield 101), 3), (237, (.aload_n 0), 1), (238, (.sipush 256), 3), (241, (.newarray .boolean), 2), (243, (.putfield 104), 3), (246, (.aload_n 0), 1), (247, (.sipush 3072), 3), (250, (.newarray .boolean), 2), (252, (.putfield 107), 3), (255, (.aload_n 0), 1), (256, (.sipush 20480), 3), (259, (.newarray .boolean), 2), (261, (.putfield 110), 3), (264, (.aload_n 0), 1), (265, (.sipush 24576), 3), (268, (.newarray .int), 2), (270, (.putfield 113), 3), (273, (.aload_n 0), 1), (274, (.bipush 120), 2), (276, (.newarray .int), 2), (278, (.putfield 116), 3), (281, (.aload_n 0), 1), (282, (.bipush 40), 2), (284, (.newarray .int), 2), (286, (.putfield 119), 3), (289, (.aload_n 0), 1), (290, (.bipush 40), 2), (292, (.newarray .int), 2), (294, (.putfield 122), 3), (297, (.aload_n 0), 1), (298, (.bipush 40), 2), (300, (.newarray .int), 2), (302, (.putfield 125), 3), (305, (.aload_n 0), 1), (306, (.bipush 40), 2), (308, (.newarray .int), 2), (310, (.putfield 128), 3), (313, (.aload_n 0), 1), (314, (.bipush 40), 2), (316, (.newarray .boolean), 2), (318, (.putfield 131), 3), (321, (.aload_n 0), 1), (322, (.bipush 40), 2), (324, (.newarray .boolean), 2), (326, (.putfield 134), 3), (329, (.aload_n 0), 1), (330, (.sipush 256), 3), (333, (.newarray .boolean), 2), (335, (.putfield 137), 3), (338, (.aload_n 0), 1), (339, (.bipush 40), 2), (341, (.newarray .int), 2), (343, (.putfield 140), 3), (346, (.aload_n 0), 1), (347, (.sipush 2560), 3), (350, (.newarray .boolean), 2), (352, (.putfield 143), 3), (355, (.aload_n 0), 1), (356, (.iconst 3), 1), (357, (.newarray .int), 2), (359, (.putfield 146), 3), (362, (.aload_n 0), 1), (363, (.bipush 16), 2), (365, (.newarray .long), 2), (367, (.putfield 149), 3), (370, (.aload_n 0), 1), (371, (.sipush 1152), 3), (374, (.newarray .long), 2), (376, (.putfield 152), 3), (379, (.aload_n 0), 1), (380, (.iconst 4), 1), (381, (.newarray .long), 2), (383, (.putfield 155), 3), (386, (.aload_n 0), 1), (387, (.bipush 40), 2), (389, (.newarray .int), 2), (391, (.putfield 158), 3), (394, (.aload_n 0), 1), (395, (.bipush 8), 2), (397, (.newarray .int), 2), (399, (.putfield 161), 3), (402, (.aload_n 0), 1), (403, (.bipush 9), 2), (405, (.newarray .int), 2), (407, (.putfield 164), 3), (410, (.aload_n 0), 1), (411, (.iconst 3), 1), (412, (.newarray .int), 2), (414, (.putfield 167), 3), (417, (.aload_n 0), 1), (418, (.bipush 120), 2), (420, (.newarray .int), 2), (422, (.putfield 170), 3), (425, (.aload_n 0), 1), (426, (.bipush 120), 2), (428, (.newarray .int), 2), (430, (.putfield 173), 3), (433, (.aload_n 0), 1), (434, (.bipush 120), 2), (436, (.newarray .int), 2), (438, (.putfield 176), 3), (441, (.aload_n 0), 1), (442, (.bipush 120), 2), (444, (.newarray .int), 2), (446, (.putfield 179), 3), (449, (.aload_n 0), 1), (450, (.bipush 120), 2), (452, (.newarray .boolean), 2), (454, (.putfield 182), 3), (457, (.aload_n 0), 1), (458, (.bipush 120), 2), (460, (.newarray .boolean), 2), (462, (.putfield 185), 3), (465, (.aload_n 0), 1), (466, (.invokevirtual 188), 3), (469, (.aload_n 0), 1), (470, (.invokevirtual 191), 3), (473, (.iconst 0), 1), (474, (.istore_n 1), 1), (475, (.iload_n 1), 1), (476, (.iconst 3), 1), (477, (.if_icmp .ge 16), 3), (480, (.aload_n 0), 1), (481, (.getfield 167), 3), (484, (.iload_n 1), 1), (485, (.iconst (-1)), 1), (486, .iastore, 1), (487, (.iinc 1 1), 3), (490, (.goto (-15)), 3), (493, .return_, 1)]
theorem k_M_init : t_M_init.all (fun q => decide (decode y_M_init.2.1 q.1 = .ok (q.2.1, q.2.2))) = true := by decide +kernel
set_option maxRecDepth 10000 in
theorem wc_M_init : Cond.code y_M_init.1 y_M_init.2.1 y_M_init.2.2.1 y_M_init.2.2.2.1 ∈ tbG := mG (mT5 146 rfl) rfl
set_option maxRecDepth 10000 in
theorem wi_M_init : Cond.instanceMethod y_M_init.1 ∈ tbG := mG (mT5 145 rfl) rfl
abbrev y_L_law (Ls : Nat) (xs : Nat → Int32) : MI := (⟨"LieOfTwoLaw", "law", "([I)Z"⟩, code, 4, (some .boolean), some (Ls, xs))
set_option maxRecDepth 10000 in
theorem w0_JS : Cond.initialized "java/lang/String" ∈ tbG := mG (mT1 6 rfl) rfl
set_option maxRecDepth 10000 in
theorem w0_JT : Cond.initialized "java/lang/StringLatin1" ∈ tbG := mG (mT1 7 rfl) rfl
set_option maxRecDepth 10000 in
theorem ck_T_46 : CK 0 "LieOfTwo$Town" 46 y_T_clear 0 := ⟨wc_T_clear, w0_T, ⟨by decide, by decide, by decide +kernel⟩, (Or.inl (mG (mT1 34 rfl) rfl)), fun _ => ⟨wi_T_clear, wl_T_clear⟩, fun h => absurd h (by decide), fun h => absurd h (by decide)⟩
set_option maxRecDepth 10000 in
theorem ck_L_13 : CK 0 "LieOfTwoLaw" 13 y_X_feed 5 := ⟨wc_X_feed, w0_X, ⟨by decide, by decide, by decide +kernel⟩, (Or.inl (mG (mT4 35 rfl) rfl)), fun _ => ⟨wi_X_feed, wl_X_feed⟩, fun h => absurd h (by decide), fun h => absurd h (by decide)⟩
set_option maxRecDepth 10000 in
theorem ck_L_17 : CK 0 "LieOfTwoLaw" 17 y_M_feed 5 := ⟨wc_M_feed, w0_M, ⟨by decide, by decide, by decide +kernel⟩, (Or.inl (mG (mT8 124 rfl) rfl)), fun _ => ⟨wi_M_feed, wl_M_feed⟩, fun h => absurd h (by decide), fun h => absurd h (by decide)⟩
set_option maxRecDepth 10000 in
theorem ck_L_18 : CK 0 "LieOfTwoLaw" 18 y_X_end 1 := ⟨wc_X_end, w0_X, ⟨by decide, by decide, by decide +kernel⟩, (Or.inl (mG (mT4 43 rfl) rfl)), fun _ => ⟨wi_X_end, wl_X_end⟩, fun h => absurd h (by decide), fun h => absurd h (by decide)⟩
set_option maxRecDepth 10000 in
theorem ck_L_22 : CK 0 "LieOfTwoLaw" 22 y_M_end 1 := ⟨wc_M_end, w0_M, ⟨by decide, by decide, by decide +kernel⟩, (Or.inl (mG (mT8 128 rfl) rfl)), fun _ => ⟨wi_M_end, wl_M_end⟩, fun h => absurd h (by decide), fun h => absurd h (by decide)⟩
set_option maxRecDepth 10000 in
theorem ck_L_23 : CK 0 "LieOfTwoLaw" 23 y_X_town 0 := ⟨wc_X_town, w0_X, ⟨by decide, by decide, by decide +kernel⟩, (Or.inl (mG (mT4 47 rfl) rfl)), fun _ => ⟨wi_X_town, wl_X_town⟩, fun h => absurd h (by decide), fun h => absurd h (by decide)⟩
set_option maxRecDepth 10000 in
theorem ck_L_27 : CK 0 "LieOfTwoLaw" 27 y_M_town 0 := ⟨wc_M_town, w0_M, ⟨by decide, by decide, by decide +kernel⟩, (Or.inl (mG (mT6 190 rfl) rfl)), fun _ => ⟨wi_M_town, wl_M_town⟩, fun h => absurd h (by decide), fun h => absurd h (by decide)⟩
set_option maxRecDepth 10000 in
theorem ck_L_28 : CK 0 "LieOfTwoLaw" 28 y_X_fault 1 := ⟨wc_X_fault, w0_X, ⟨by decide, by decide, by decide +kernel⟩, (Or.inl (mG (mT4 64 rfl) rfl)), fun _ => ⟨wi_X_fault, wl_X_fault⟩, fun h => absurd h (by decide), fun h => absurd h (by decide)⟩
set_option maxRecDepth 10000 in
theorem ck_L_31 : CK 0 "LieOfTwoLaw" 31 y_M_fault 1 := ⟨wc_M_fault, w0_M, ⟨by decide, by decide, by decide +kernel⟩, (Or.inl (mG (mT7 126 rfl) rfl)), fun _ => ⟨wi_M_fault, wl_M_fault⟩, fun h => absurd h (by decide), fun h => absurd h (by decide)⟩
set_option maxRecDepth 10000 in
theorem ck_L_32 : CK 0 "LieOfTwoLaw" 32 y_X_is 2 := ⟨wc_X_is, w0_X, ⟨by decide, by decide, by decide +kernel⟩, (Or.inl (mG (mT4 68 rfl) rfl)), fun _ => ⟨wi_X_is, wl_X_is⟩, fun h => absurd h (by decide), fun h => absurd h (by decide)⟩
set_option maxRecDepth 10000 in
theorem ck_L_36 : CK 0 "LieOfTwoLaw" 36 y_M_is 2 := ⟨wc_M_is, w0_M, ⟨by decide, by decide, by decide +kernel⟩, (Or.inl (mG (mT7 130 rfl) rfl)), fun _ => ⟨wi_M_is, wl_M_is⟩, fun h => absurd h (by decide), fun h => absurd h (by decide)⟩
set_option maxRecDepth 10000 in
theorem ck_L_37 : CK 0 "LieOfTwoLaw" 37 y_X_answers 3 := ⟨wc_X_answers, w0_X, ⟨by decide, by decide, by decide +kernel⟩, (Or.inl (mG (mT4 91 rfl) rfl)), fun _ => ⟨wi_X_answers, wl_X_answers⟩, fun h => absurd h (by decide), fun h => absurd h (by decide)⟩
set_option maxRecDepth 10000 in
theorem ck_L_41 : CK 0 "LieOfTwoLaw" 41 y_M_answers 3 := ⟨wc_M_answers, w0_M, ⟨by decide, by decide, by decide +kernel⟩, (Or.inl (mG (mT7 145 rfl) rfl)), fun _ => ⟨wi_M_answers, wl_M_answers⟩, fun h => absurd h (by decide), fun h => absurd h (by decide)⟩
set_option maxRecDepth 10000 in
theorem ck_L_42 : CK 0 "LieOfTwoLaw" 42 y_X_lies 3 := ⟨wc_X_lies, w0_X, ⟨by decide, by decide, by decide +kernel⟩, (Or.inl (mG (mT4 103 rfl) rfl)), fun _ => ⟨wi_X_lies, wl_X_lies⟩, fun h => absurd h (by decide), fun h => absurd h (by decide)⟩
set_option maxRecDepth 10000 in
theorem ck_L_46 : CK 0 "LieOfTwoLaw" 46 y_M_lies 3 := ⟨wc_M_lies, w0_M, ⟨by decide, by decide, by decide +kernel⟩, (Or.inl (mG (mT7 157 rfl) rfl)), fun _ => ⟨wi_M_lies, wl_M_lies⟩, fun h => absurd h (by decide), fun h => absurd h (by decide)⟩
set_option maxRecDepth 10000 in
theorem ck_L_47 : CK 0 "LieOfTwoLaw" 47 y_X_may 5 := ⟨wc_X_may, w0_X, ⟨by decide, by decide, by decide +kernel⟩, (Or.inl (mG (mT4 124 rfl) rfl)), fun _ => ⟨wi_X_may, wl_X_may⟩, fun h => absurd h (by decide), fun h => absurd h (by decide)⟩
set_option maxRecDepth 10000 in
theorem ck_L_51 : CK 0 "LieOfTwoLaw" 51 y_M_may 5 := ⟨wc_M_may, w0_M, ⟨by decide, by decide, by decide +kernel⟩, (Or.inl (mG (mT7 183 rfl) rfl)), fun _ => ⟨wi_M_may, wl_M_may⟩, fun h => absurd h (by decide), fun h => absurd h (by decide)⟩
set_option maxRecDepth 10000 in
theorem ck_L_52 : CK 0 "LieOfTwoLaw" 52 y_X_say 4 := ⟨wc_X_say, w0_X, ⟨by decide, by decide, by decide +kernel⟩, (Or.inl (mG (mT4 134 rfl) rfl)), fun _ => ⟨wi_X_say, wl_X_say⟩, fun h => absurd h (by decide), fun h => absurd h (by decide)⟩
set_option maxRecDepth 10000 in
theorem ck_L_56 : CK 0 "LieOfTwoLaw" 56 y_M_say 4 := ⟨wc_M_say, w0_M, ⟨by decide, by decide, by decide +kernel⟩, (Or.inl (mG (mT7 191 rfl) rfl)), fun _ => ⟨wi_M_say, wl_M_say⟩, fun h => absurd h (by decide), fun h => absurd h (by decide)⟩
set_option maxRecDepth 10000 in
theorem ck_L_57 : CK 0 "LieOfTwoLaw" 57 y_X_untell 1 := ⟨wc_X_untell, w0_X, ⟨by decide, by decide, by decide +kernel⟩, (Or.inl (mG (mT4 143 rfl) rfl)), fun _ => ⟨wi_X_untell, wl_X_untell⟩, fun h => absurd h (by decide), fun h => absurd h (by decide)⟩
set_option maxRecDepth 10000 in
theorem ck_L_61 : CK 0 "LieOfTwoLaw" 61 y_M_untell 1 := ⟨wc_M_untell, w0_M, ⟨by decide, by decide, by decide +kernel⟩, (Or.inl (mG (mT7 195 rfl) rfl)), fun _ => ⟨wi_M_untell, wl_M_untell⟩, fun h => absurd h (by decide), fun h => absurd h (by decide)⟩
set_option maxRecDepth 10000 in
theorem ck_L_62 : CK 0 "LieOfTwoLaw" 62 y_X_later 1 := ⟨wc_X_later, w0_X, ⟨by decide, by decide, by decide +kernel⟩, (Or.inl (mG (mT4 147 rfl) rfl)), fun _ => ⟨wi_X_later, wl_X_later⟩, fun h => absurd h (by decide), fun h => absurd h (by decide)⟩
set_option maxRecDepth 10000 in
theorem ck_L_65 : CK 0 "LieOfTwoLaw" 65 y_M_later 1 := ⟨wc_M_later, w0_M, ⟨by decide, by decide, by decide +kernel⟩, (Or.inl (mG (mT7 199 rfl) rfl)), fun _ => ⟨wi_M_later, wl_M_later⟩, fun h => absurd h (by decide), fun h => absurd h (by decide)⟩
set_option maxRecDepth 10000 in
theorem ck_L_66 : CK 0 "LieOfTwoLaw" 66 y_X_left 1 := ⟨wc_X_left, w0_X, ⟨by decide, by decide, by decide +kernel⟩, (Or.inl (mG (mT4 152 rfl) rfl)), fun _ => ⟨wi_X_left, wl_X_left⟩, fun h => absurd h (by decide), fun h => absurd h (by decide)⟩
set_option maxRecDepth 10000 in
theorem ck_L_69 : CK 0 "LieOfTwoLaw" 69 y_M_left 1 := ⟨wc_M_left, w0_M, ⟨by decide, by decide, by decide +kernel⟩, (Or.inl (mG (mT7 204 rfl) rfl)), fun _ => ⟨wi_M_left, wl_M_left⟩, fun h => absurd h (by decide), fun h => absurd h (by decide)⟩
set_option maxRecDepth 10000 in
theorem ck_L_70 : CK 0 "LieOfTwoLaw" 70 y_X_world 2 := ⟨wc_X_world, w0_X, ⟨by decide, by decide, by decide +kernel⟩, (Or.inl (mG (mT4 166 rfl) rfl)), fun _ => ⟨wi_X_world, wl_X_world⟩, fun h => absurd h (by decide), fun h => absurd h (by decide)⟩
set_option maxRecDepth 10000 in
theorem ck_L_73 : CK 0 "LieOfTwoLaw" 73 y_M_world 2 := ⟨wc_M_world, w0_M, ⟨by decide, by decide, by decide +kernel⟩, (Or.inl (mG (mT7 220 rfl) rfl)), fun _ => ⟨wi_M_world, wl_M_world⟩, fun h => absurd h (by decide), fun h => absurd h (by decide)⟩
set_option maxRecDepth 10000 in
theorem ck_L_74 : CK 0 "LieOfTwoLaw" 74 y_X_sure 2 := ⟨wc_X_sure, w0_X, ⟨by decide, by decide, by decide +kernel⟩, (Or.inl (mG (mT4 170 rfl) rfl)), fun _ => ⟨wi_X_sure, wl_X_sure⟩, fun h => absurd h (by decide), fun h => absurd h (by decide)⟩
set_option maxRecDepth 10000 in
theorem ck_L_77 : CK 0 "LieOfTwoLaw" 77 y_M_sure 2 := ⟨wc_M_sure, w0_M, ⟨by decide, by decide, by decide +kernel⟩, (Or.inl (mG (mT7 224 rfl) rfl)), fun _ => ⟨wi_M_sure, wl_M_sure⟩, fun h => absurd h (by decide), fun h => absurd h (by decide)⟩
set_option maxRecDepth 10000 in
theorem ck_L_78 : CK 0 "LieOfTwoLaw" 78 y_X_proof 2 := ⟨wc_X_proof, w0_X, ⟨by decide, by decide, by decide +kernel⟩, (Or.inl (mG (mT4 183 rfl) rfl)), fun _ => ⟨wi_X_proof, wl_X_proof⟩, fun h => absurd h (by decide), fun h => absurd h (by decide)⟩
set_option maxRecDepth 10000 in
theorem ck_L_81 : CK 0 "LieOfTwoLaw" 81 y_M_proof 2 := ⟨wc_M_proof, w0_M, ⟨by decide, by decide, by decide +kernel⟩, (Or.inl (mG (mT7 232 rfl) rfl)), fun _ => ⟨wi_M_proof, wl_M_proof⟩, fun h => absurd h (by decide), fun h => absurd h (by decide)⟩
set_option maxRecDepth 10000 in
theorem ck_L_82 : CK 0 "LieOfTwoLaw" 82 y_X_judge 2 := ⟨wc_X_judge, w0_X, ⟨by decide, by decide, by decide +kernel⟩, (Or.inl (mG (mT4 198 rfl) rfl)), fun _ => ⟨wi_X_judge, wl_X_judge⟩, fun h => absurd h (by decide), fun h => absurd h (by decide)⟩
set_option maxRecDepth 10000 in
theorem ck_L_85 : CK 0 "LieOfTwoLaw" 85 y_M_judge 2 := ⟨wc_M_judge, w0_M, ⟨by decide, by decide, by decide +kernel⟩, (Or.inl (mG (mT8 1 rfl) rfl)), fun _ => ⟨wi_M_judge, wl_M_judge⟩, fun h => absurd h (by decide), fun h => absurd h (by decide)⟩
set_option maxRecDepth 10000 in
theorem ck_L_86 : CK 0 "LieOfTwoLaw" 86 y_X_next 2 := ⟨wc_X_next, w0_X, ⟨by decide, by decide, by decide +kernel⟩, (Or.inl (mG (mT4 203 rfl) rfl)), fun _ => ⟨wi_X_next, wl_X_next⟩, fun h => absurd h (by decide), fun h => absurd h (by decide)⟩
set_option maxRecDepth 10000 in
theorem ck_L_89 : CK 0 "LieOfTwoLaw" 89 y_M_next 2 := ⟨wc_M_next, w0_M, ⟨by decide, by decide, by decide +kernel⟩, (Or.inl (mG (mT8 5 rfl) rfl)), fun _ => ⟨wi_M_next, wl_M_next⟩, fun h => absurd h (by decide), fun h => absurd h (by decide)⟩
set_option maxRecDepth 10000 in
theorem ck_L_90 : CK 0 "LieOfTwoLaw" 90 y_X_askings 2 := ⟨wc_X_askings, w0_X, ⟨by decide, by decide, by decide +kernel⟩, (Or.inl (mG (mT4 216 rfl) rfl)), fun _ => ⟨wi_X_askings, wl_X_askings⟩, fun h => absurd h (by decide), fun h => absurd h (by decide)⟩
set_option maxRecDepth 10000 in
theorem ck_L_93 : CK 0 "LieOfTwoLaw" 93 y_M_askings 2 := ⟨wc_M_askings, w0_M, ⟨by decide, by decide, by decide +kernel⟩, (Or.inl (mG (mT8 9 rfl) rfl)), fun _ => ⟨wi_M_askings, wl_M_askings⟩, fun h => absurd h (by decide), fun h => absurd h (by decide)⟩
set_option maxRecDepth 10000 in
theorem ck_L_94 : CK 0 "LieOfTwoLaw" 94 y_X_lasts 4 := ⟨wc_X_lasts, w0_X, ⟨by decide, by decide, by decide +kernel⟩, (Or.inl (mG (mT5 17 rfl) rfl)), fun _ => ⟨wi_X_lasts, wl_X_lasts⟩, fun h => absurd h (by decide), fun h => absurd h (by decide)⟩
set_option maxRecDepth 10000 in
theorem ck_L_98 : CK 0 "LieOfTwoLaw" 98 y_M_lasts 4 := ⟨wc_M_lasts, w0_M, ⟨by decide, by decide, by decide +kernel⟩, (Or.inl (mG (mT8 38 rfl) rfl)), fun _ => ⟨wi_M_lasts, wl_M_lasts⟩, fun h => absurd h (by decide), fun h => absurd h (by decide)⟩
set_option maxRecDepth 10000 in
theorem ck_L_99 : CK 0 "LieOfTwoLaw" 99 y_X_with 3 := ⟨wc_X_with, w0_X, ⟨by decide, by decide, by decide +kernel⟩, (Or.inl (mG (mT5 26 rfl) rfl)), fun _ => ⟨wi_X_with, wl_X_with⟩, fun h => absurd h (by decide), fun h => absurd h (by decide)⟩
set_option maxRecDepth 10000 in
theorem ck_L_102 : CK 0 "LieOfTwoLaw" 102 y_M_with 3 := ⟨wc_M_with, w0_M, ⟨by decide, by decide, by decide +kernel⟩, (Or.inl (mG (mT8 50 rfl) rfl)), fun _ => ⟨wi_M_with, wl_M_with⟩, fun h => absurd h (by decide), fun h => absurd h (by decide)⟩
set_option maxRecDepth 10000 in
theorem ck_L_103 : CK 0 "LieOfTwoLaw" 103 y_X_rest 2 := ⟨wc_X_rest, w0_X, ⟨by decide, by decide, by decide +kernel⟩, (Or.inl (mG (mT5 43 rfl) rfl)), fun _ => ⟨wi_X_rest, wl_X_rest⟩, fun h => absurd h (by decide), fun h => absurd h (by decide)⟩
set_option maxRecDepth 10000 in
theorem ck_L_106 : CK 0 "LieOfTwoLaw" 106 y_M_rest 2 := ⟨wc_M_rest, w0_M, ⟨by decide, by decide, by decide +kernel⟩, (Or.inl (mG (mT8 54 rfl) rfl)), fun _ => ⟨wi_M_rest, wl_M_rest⟩, fun h => absurd h (by decide), fun h => absurd h (by decide)⟩
set_option maxRecDepth 10000 in
theorem ck_L_107 : CK 0 "LieOfTwoLaw" 107 y_X_truth 5 := ⟨wc_X_truth, w0_X, ⟨by decide, by decide, by decide +kernel⟩, (Or.inl (mG (mT5 62 rfl) rfl)), fun _ => ⟨wi_X_truth, wl_X_truth⟩, fun h => absurd h (by decide), fun h => absurd h (by decide)⟩
set_option maxRecDepth 10000 in
theorem ck_L_110 : CK 0 "LieOfTwoLaw" 110 y_M_truth 5 := ⟨wc_M_truth, w0_M, ⟨by decide, by decide, by decide +kernel⟩, (Or.inl (mG (mT8 70 rfl) rfl)), fun _ => ⟨wi_M_truth, wl_M_truth⟩, fun h => absurd h (by decide), fun h => absurd h (by decide)⟩
set_option maxRecDepth 10000 in
theorem ck_L_111 : CK 0 "LieOfTwoLaw" 111 y_X_leagues 2 := ⟨wc_X_leagues, w0_X, ⟨by decide, by decide, by decide +kernel⟩, (Or.inl (mG (mT5 69 rfl) rfl)), fun _ => ⟨wi_X_leagues, wl_X_leagues⟩, fun h => absurd h (by decide), fun h => absurd h (by decide)⟩
set_option maxRecDepth 10000 in
theorem ck_L_114 : CK 0 "LieOfTwoLaw" 114 y_M_leagues 2 := ⟨wc_M_leagues, w0_M, ⟨by decide, by decide, by decide +kernel⟩, (Or.inl (mG (mT8 77 rfl) rfl)), fun _ => ⟨wi_M_leagues, wl_M_leagues⟩, fun h => absurd h (by decide), fun h => absurd h (by decide)⟩
set_option maxRecDepth 10000 in
theorem ck_L_115 : CK 0 "LieOfTwoLaw" 115 y_X_plain 1 := ⟨wc_X_plain, w0_X, ⟨by decide, by decide, by decide +kernel⟩, (Or.inl (mG (mT5 100 rfl) rfl)), fun _ => ⟨wi_X_plain, wl_X_plain⟩, fun h => absurd h (by decide), fun h => absurd h (by decide)⟩
set_option maxRecDepth 10000 in
theorem ck_L_118 : CK 0 "LieOfTwoLaw" 118 y_M_plain 1 := ⟨wc_M_plain, w0_M, ⟨by decide, by decide, by decide +kernel⟩, (Or.inl (mG (mT8 97 rfl) rfl)), fun _ => ⟨wi_M_plain, wl_M_plain⟩, fun h => absurd h (by decide), fun h => absurd h (by decide)⟩
set_option maxRecDepth 10000 in
theorem ck_L_119 : CK 0 "LieOfTwoLaw" 119 y_X_vote 3 := ⟨wc_X_vote, w0_X, ⟨by decide, by decide, by decide +kernel⟩, (Or.inl (mG (mT5 104 rfl) rfl)), fun _ => ⟨wi_X_vote, wl_X_vote⟩, fun h => absurd h (by decide), fun h => absurd h (by decide)⟩
set_option maxRecDepth 10000 in
theorem ck_L_122 : CK 0 "LieOfTwoLaw" 122 y_M_vote 3 := ⟨wc_M_vote, w0_M, ⟨by decide, by decide, by decide +kernel⟩, (Or.inl (mG (mT8 101 rfl) rfl)), fun _ => ⟨wi_M_vote, wl_M_vote⟩, fun h => absurd h (by decide), fun h => absurd h (by decide)⟩
set_option maxRecDepth 10000 in
theorem ck_L_123 : CK 0 "LieOfTwoLaw" 123 y_X_image 1 := ⟨wc_X_image, w0_X, ⟨by decide, by decide, by decide +kernel⟩, (Or.inl (mG (mT5 125 rfl) rfl)), fun _ => ⟨wi_X_image, wl_X_image⟩, fun h => absurd h (by decide), fun h => absurd h (by decide)⟩
set_option maxRecDepth 10000 in
theorem ck_L_126 : CK 0 "LieOfTwoLaw" 126 y_M_image 1 := ⟨wc_M_image, w0_M, ⟨by decide, by decide, by decide +kernel⟩, (Or.inl (mG (mT8 112 rfl) rfl)), fun _ => ⟨wi_M_image, wl_M_image⟩, fun h => absurd h (by decide), fun h => absurd h (by decide)⟩
set_option maxRecDepth 10000 in
theorem ck_L_127 : CK 0 "LieOfTwoLaw" 127 y_X_back 1 := ⟨wc_X_back, w0_X, ⟨by decide, by decide, by decide +kernel⟩, (Or.inl (mG (mT5 134 rfl) rfl)), fun _ => ⟨wi_X_back, wl_X_back⟩, fun h => absurd h (by decide), fun h => absurd h (by decide)⟩
set_option maxRecDepth 10000 in
theorem ck_L_130 : CK 0 "LieOfTwoLaw" 130 y_M_back 1 := ⟨wc_M_back, w0_M, ⟨by decide, by decide, by decide +kernel⟩, (Or.inl (mG (mT8 116 rfl) rfl)), fun _ => ⟨wi_M_back, wl_M_back⟩, fun h => absurd h (by decide), fun h => absurd h (by decide)⟩
set_option maxRecDepth 10000 in
theorem ck_L_131 : CK 0 "LieOfTwoLaw" 131 y_X_about 1 := ⟨wc_X_about, w0_X, ⟨by decide, by decide, by decide +kernel⟩, (Or.inl (mG (mT5 138 rfl) rfl)), fun _ => ⟨wi_X_about, wl_X_about⟩, fun h => absurd h (by decide), fun h => absurd h (by decide)⟩
set_option maxRecDepth 10000 in
theorem ck_L_134 : CK 0 "LieOfTwoLaw" 134 y_M_about 1 := ⟨wc_M_about, w0_M, ⟨by decide, by decide, by decide +kernel⟩, (Or.inl (mG (mT8 120 rfl) rfl)), fun _ => ⟨wi_M_about, wl_M_about⟩, fun h => absurd h (by decide), fun h => absurd h (by decide)⟩
set_option maxRecDepth 10000 in
theorem ck_X_15 : CK 2 "LieOfTwo" 15 y_T_init 0 := ⟨wc_T_init, w0_T, ⟨by decide, by decide, by decide +kernel⟩, (Or.inr ⟨"LieOfTwo", mN (mT1 30 rfl) rfl⟩), fun h => absurd h (by decide), fun h => absurd h (by decide), fun _ => ⟨rfl, wi_T_init, rfl⟩⟩
set_option maxRecDepth 10000 in
theorem ck_X_25 : CK 2 "LieOfTwo" 25 y_N_init 1 := ⟨wc_N_init, w0_N, ⟨by decide, by decide, by decide +kernel⟩, (Or.inr ⟨"LieOfTwo", mN (mT1 141 rfl) rfl⟩), fun h => absurd h (by decide), fun h => absurd h (by decide), fun _ => ⟨rfl, wi_N_init, rfl⟩⟩
set_option maxRecDepth 10000 in
theorem ck_X_34 : CK 2 "LieOfTwo" 34 y_Y_init 0 := ⟨wc_Y_init, w0_Y, ⟨by decide, by decide, by decide +kernel⟩, (Or.inr ⟨"LieOfTwo", mN (mT2 77 rfl) rfl⟩), fun h => absurd h (by decide), fun h => absurd h (by decide), fun _ => ⟨rfl, wi_Y_init, rfl⟩⟩
set_option maxRecDepth 10000 in
theorem ck_X_45 : CK 2 "LieOfTwo" 45 y_W_init 0 := ⟨wc_W_init, w0_W, ⟨by decide, by decide, by decide +kernel⟩, (Or.inr ⟨"LieOfTwo", mN (mT2 117 rfl) rfl⟩), fun h => absurd h (by decide), fun h => absurd h (by decide), fun _ => ⟨rfl, wi_W_init, rfl⟩⟩
set_option maxRecDepth 10000 in
theorem ck_X_52 : CK 2 "LieOfTwo" 52 y_A_init 0 := ⟨wc_A_init, w0_A, ⟨by decide, by decide, by decide +kernel⟩, (Or.inr ⟨"LieOfTwo", mN (mT2 150 rfl) rfl⟩), fun h => absurd h (by decide), fun h => absurd h (by decide), fun _ => ⟨rfl, wi_A_init, rfl⟩⟩
set_option maxRecDepth 10000 in
theorem ck_X_59 : CK 2 "LieOfTwo" 59 y_P_init 0 := ⟨wc_P_init, w0_P, ⟨by decide, by decide, by decide +kernel⟩, (Or.inr ⟨"LieOfTwo", mN (mT2 178 rfl) rfl⟩), fun h => absurd h (by decide), fun h => absurd h (by decide), fun _ => ⟨rfl, wi_P_init, rfl⟩⟩
set_option maxRecDepth 10000 in
theorem ck_X_66 : CK 2 "LieOfTwo" 66 y_C_init 0 := ⟨wc_C_init, w0_C, ⟨by decide, by decide, by decide +kernel⟩, (Or.inr ⟨"LieOfTwo", mN (mT2 205 rfl) rfl⟩), fun h => absurd h (by decide), fun h => absurd h (by decide), fun _ => ⟨rfl, wi_C_init, rfl⟩⟩
set_option maxRecDepth 10000 in
theorem ck_N_11 : CK 2 "LieOfTwo$Lines" 11 y_S_init 0 := ⟨wc_S_init, w0_S, ⟨by decide, by decide, by decide +kernel⟩, (Or.inr ⟨"LieOfTwo", mN (mT1 147 rfl) rfl⟩), fun h => absurd h (by decide), fun h => absurd h (by decide), fun _ => ⟨rfl, wi_S_init, rfl⟩⟩
set_option maxRecDepth 10000 in
theorem ck_N_47 : CK 2 "LieOfTwo$Lines" 47 y_K_init 1 := ⟨wc_K_init, w0_K, ⟨by decide, by decide, by decide +kernel⟩, (Or.inr ⟨"LieOfTwo", mN (mT1 168 rfl) rfl⟩), fun h => absurd h (by decide), fun h => absurd h (by decide), fun _ => ⟨rfl, wi_K_init, rfl⟩⟩
set_option maxRecDepth 10000 in
theorem ck_L_9 : CK 2 "LieOfTwoLaw" 9 y_X_init 0 := ⟨wc_X_init, w0_X, ⟨by decide, by decide, by decide +kernel⟩, (Or.inl (mG (mT1 22 rfl) rfl)), fun h => absurd h (by decide), fun h => absurd h (by decide), fun _ => ⟨rfl, wi_X_init, rfl⟩⟩
set_option maxRecDepth 10000 in
theorem ck_L_12 : CK 2 "LieOfTwoLaw" 12 y_M_init 0 := ⟨wc_M_init, w0_M, ⟨by decide, by decide, by decide +kernel⟩, (Or.inl (mG (mT5 144 rfl) rfl)), fun h => absurd h (by decide), fun h => absurd h (by decide), fun _ => ⟨rfl, wi_M_init, rfl⟩⟩
set_option maxRecDepth 10000 in
theorem ck_K_25 : CK 0 "LieOfTwo$Tokens" 25 y_JS_length 0 := ⟨wc_JS_length, w0_JS, ⟨by decide, by decide, by decide +kernel⟩, (Or.inl (mG (mT1 173 rfl) rfl)), fun _ => ⟨wi_JS_length, wl_JS_length⟩, fun h => absurd h (by decide), fun h => absurd h (by decide)⟩
set_option maxRecDepth 10000 in
theorem ck_K_31 : CK 0 "LieOfTwo$Tokens" 31 y_JS_charAt 1 := ⟨wc_JS_charAt, w0_JS, ⟨by decide, by decide, by decide +kernel⟩, (Or.inl (mG (mT1 183 rfl) rfl)), fun _ => ⟨wi_JS_charAt, wl_JS_charAt⟩, fun h => absurd h (by decide), fun h => absurd h (by decide)⟩
set_option maxRecDepth 10000 in
theorem ck_JS_335 : CK 0 "java/lang/String" 335 y_JS_coder 0 := ⟨wc_JS_coder, w0_JS, ⟨by decide, by decide, by decide +kernel⟩, (Or.inl (mG (mT1 177 rfl) rfl)), fun _ => ⟨wi_JS_coder, wl_JS_coder⟩, fun h => absurd h (by decide), fun h => absurd h (by decide)⟩
set_option maxRecDepth 10000 in
theorem ck_JS_492 : CK 0 "java/lang/String" 492 y_JS_isLatin1 0 := ⟨wc_JS_isLatin1, w0_JS, ⟨by decide, by decide, by decide +kernel⟩, (Or.inl (mG (mT1 187 rfl) rfl)), fun _ => ⟨wi_JS_isLatin1, wl_JS_isLatin1⟩, fun h => absurd h (by decide), fun h => absurd h (by decide)⟩
set_option maxRecDepth 10000 in
theorem ck_JS_495 : CK 1 "java/lang/String" 495 y_JT_charAt 2 := ⟨wc_JT_charAt, w0_JT, ⟨by decide, by decide, by decide +kernel⟩, (Or.inl (mG (mT1 191 rfl) rfl)), fun h => absurd h (by decide), fun _ => ws_JT_charAt, fun h => absurd h (by decide)⟩
theorem k_L_law_0 {Ls : Nat} {xs : Nat → Int32} : t_L_law_0.all (fun q => decide (decode (y_L_law Ls xs).2.1 q.1 = .ok (q.2.1, q.2.2))) = true := k0_L_law_0
theorem k_L_law_1 {Ls : Nat} {xs : Nat → Int32} : t_L_law_1.all (fun q => decide (decode (y_L_law Ls xs).2.1 q.1 = .ok (q.2.1, q.2.2))) = true := k0_L_law_1
theorem k_L_law_2 {Ls : Nat} {xs : Nat → Int32} : t_L_law_2.all (fun q => decide (decode (y_L_law Ls xs).2.1 q.1 = .ok (q.2.1, q.2.2))) = true := k0_L_law_2
theorem k_L_law_3 {Ls : Nat} {xs : Nat → Int32} : t_L_law_3.all (fun q => decide (decode (y_L_law Ls xs).2.1 q.1 = .ok (q.2.1, q.2.2))) = true := k0_L_law_3
theorem k_L_law_4 {Ls : Nat} {xs : Nat → Int32} : t_L_law_4.all (fun q => decide (decode (y_L_law Ls xs).2.1 q.1 = .ok (q.2.1, q.2.2))) = true := k0_L_law_4
theorem k_L_law_5 {Ls : Nat} {xs : Nat → Int32} : t_L_law_5.all (fun q => decide (decode (y_L_law Ls xs).2.1 q.1 = .ok (q.2.1, q.2.2))) = true := k0_L_law_5
theorem k_L_law_6 {Ls : Nat} {xs : Nat → Int32} : t_L_law_6.all (fun q => decide (decode (y_L_law Ls xs).2.1 q.1 = .ok (q.2.1, q.2.2))) = true := k0_L_law_6
theorem k_L_law_7 {Ls : Nat} {xs : Nat → Int32} : t_L_law_7.all (fun q => decide (decode (y_L_law Ls xs).2.1 q.1 = .ok (q.2.1, q.2.2))) = true := k0_L_law_7
theorem k_L_law_8 {Ls : Nat} {xs : Nat → Int32} : t_L_law_8.all (fun q => decide (decode (y_L_law Ls xs).2.1 q.1 = .ok (q.2.1, q.2.2))) = true := k0_L_law_8
theorem k_L_law_9 {Ls : Nat} {xs : Nat → Int32} : t_L_law_9.all (fun q => decide (decode (y_L_law Ls xs).2.1 q.1 = .ok (q.2.1, q.2.2))) = true := k0_L_law_9
theorem k_L_law_10 {Ls : Nat} {xs : Nat → Int32} : t_L_law_10.all (fun q => decide (decode (y_L_law Ls xs).2.1 q.1 = .ok (q.2.1, q.2.2))) = true := k0_L_law_10
theorem k_L_law_11 {Ls : Nat} {xs : Nat → Int32} : t_L_law_11.all (fun q => decide (decode (y_L_law Ls xs).2.1 q.1 = .ok (q.2.1, q.2.2))) = true := k0_L_law_11
theorem k_L_law_12 {Ls : Nat} {xs : Nat → Int32} : t_L_law_12.all (fun q => decide (decode (y_L_law Ls xs).2.1 q.1 = .ok (q.2.1, q.2.2))) = true := k0_L_law_12
theorem k_L_law_13 {Ls : Nat} {xs : Nat → Int32} : t_L_law_13.all (fun q => decide (decode (y_L_law Ls xs).2.1 q.1 = .ok (q.2.1, q.2.2))) = true := k0_L_law_13
theorem k_L_law_14 {Ls : Nat} {xs : Nat → Int32} : t_L_law_14.all (fun q => decide (decode (y_L_law Ls xs).2.1 q.1 = .ok (q.2.1, q.2.2))) = true := k0_L_law_14
theorem k_L_law_15 {Ls : Nat} {xs : Nat → Int32} : t_L_law_15.all (fun q => decide (decode (y_L_law Ls xs).2.1 q.1 = .ok (q.2.1, q.2.2))) = true := k0_L_law_15
theorem k_L_law_16 {Ls : Nat} {xs : Nat → Int32} : t_L_law_16.all (fun q => decide (decode (y_L_law Ls xs).2.1 q.1 = .ok (q.2.1, q.2.2))) = true := k0_L_law_16
theorem k_L_law_17 {Ls : Nat} {xs : Nat → Int32} : t_L_law_17.all (fun q => decide (decode (y_L_law Ls xs).2.1 q.1 = .ok (q.2.1, q.2.2))) = true := k0_L_law_17
theorem k_L_law_18 {Ls : Nat} {xs : Nat → Int32} : t_L_law_18.all (fun q => decide (decode (y_L_law Ls xs).2.1 q.1 = .ok (q.2.1, q.2.2))) = true := k0_L_law_18
theorem k_L_law_19 {Ls : Nat} {xs : Nat → Int32} : t_L_law_19.all (fun q => decide (decode (y_L_law Ls xs).2.1 q.1 = .ok (q.2.1, q.2.2))) = true := k0_L_law_19
theorem k_L_law_20 {Ls : Nat} {xs : Nat → Int32} : t_L_law_20.all (fun q => decide (decode (y_L_law Ls xs).2.1 q.1 = .ok (q.2.1, q.2.2))) = true := k0_L_law_20
theorem k_L_law_21 {Ls : Nat} {xs : Nat → Int32} : t_L_law_21.all (fun q => decide (decode (y_L_law Ls xs).2.1 q.1 = .ok (q.2.1, q.2.2))) = true := k0_L_law_21
theorem k_L_law_22 {Ls : Nat} {xs : Nat → Int32} : t_L_law_22.all (fun q => decide (decode (y_L_law Ls xs).2.1 q.1 = .ok (q.2.1, q.2.2))) = true := k0_L_law_22
set_option maxRecDepth 10000 in
theorem wk_L_7 : Cond.classLink "LieOfTwoLaw" 7 "LieOfTwo" ∈ tbG := mG (mT1 20 rfl) rfl
set_option maxRecDepth 10000 in
theorem wn_X : Cond.instantiable "LieOfTwo" 13 ∈ tbG := mG (mT1 21 rfl) rfl
set_option maxRecDepth 10000 in
theorem wz_X : Cond.initialized "LieOfTwo" ∈ tbG := mG (mT1 1 rfl) rfl
set_option maxRecDepth 10000 in
theorem wo_X_3 : Cond.methodLink "LieOfTwo" 3 Lib.objectInit ∈ tbG := mG (mT1 25 rfl) rfl
set_option maxRecDepth 10000 in
theorem wa_byte : Cond.arrayClass .byte ∈ tbG := mG (mT1 136 rfl) rfl
set_option maxRecDepth 10000 in
theorem ff_X_9 : ∃ q, cls[0]? = some q ∧ q.1 = "LieOfTwo" ∧ 0 < q.2.2 ∧ Cond.fieldLink "LieOfTwo" 9 q.1 (q.2.1 0).2.1 (q.2.1 0).2.2.1 ∈ tbG := ⟨_, rfl, rfl, (lb rfl), (mG (mT3 235 rfl) rfl)⟩
set_option maxRecDepth 10000 in
theorem wk_X_13 : Cond.classLink "LieOfTwo" 13 "LieOfTwo$Town" ∈ tbG := mG (mT1 28 rfl) rfl
set_option maxRecDepth 10000 in
theorem wn_T : Cond.instantiable "LieOfTwo$Town" 19 ∈ tbG := mG (mT1 29 rfl) rfl
set_option maxRecDepth 10000 in
theorem wz_T : Cond.initialized "LieOfTwo$Town" ∈ tbG := mG (mT1 2 rfl) rfl
set_option maxRecDepth 10000 in
theorem wo_T_3 : Cond.methodLink "LieOfTwo$Town" 3 Lib.objectInit ∈ tbG := mG (mT1 33 rfl) rfl
set_option maxRecDepth 10000 in
theorem wa_int : Cond.arrayClass .int ∈ tbG := mG (mT1 137 rfl) rfl
set_option maxRecDepth 10000 in
theorem ff_T_9 : ∃ q, cls[1]? = some q ∧ q.1 = "LieOfTwo$Town" ∧ 8 < q.2.2 ∧ Cond.fieldLink "LieOfTwo$Town" 9 q.1 (q.2.1 8).2.1 (q.2.1 8).2.2.1 ∈ tbG := ⟨_, rfl, rfl, (lb rfl), (mG (mT1 67 rfl) rfl)⟩
set_option maxRecDepth 10000 in
theorem ff_T_15 : ∃ q, cls[1]? = some q ∧ q.1 = "LieOfTwo$Town" ∧ 9 < q.2.2 ∧ Cond.fieldLink "LieOfTwo$Town" 15 q.1 (q.2.1 9).2.1 (q.2.1 9).2.2.1 ∈ tbG := ⟨_, rfl, rfl, (lb rfl), (mG (mT1 70 rfl) rfl)⟩
set_option maxRecDepth 10000 in
theorem ff_T_18 : ∃ q, cls[1]? = some q ∧ q.1 = "LieOfTwo$Town" ∧ 10 < q.2.2 ∧ Cond.fieldLink "LieOfTwo$Town" 18 q.1 (q.2.1 10).2.1 (q.2.1 10).2.2.1 ∈ tbG := ⟨_, rfl, rfl, (lb rfl), (mG (mT1 72 rfl) rfl)⟩
set_option maxRecDepth 10000 in
theorem ff_T_21 : ∃ q, cls[1]? = some q ∧ q.1 = "LieOfTwo$Town" ∧ 11 < q.2.2 ∧ Cond.fieldLink "LieOfTwo$Town" 21 q.1 (q.2.1 11).2.1 (q.2.1 11).2.2.1 ∈ tbG := ⟨_, rfl, rfl, (lb rfl), (mG (mT1 74 rfl) rfl)⟩
set_option maxRecDepth 10000 in
theorem ff_T_24 : ∃ q, cls[1]? = some q ∧ q.1 = "LieOfTwo$Town" ∧ 12 < q.2.2 ∧ Cond.fieldLink "LieOfTwo$Town" 24 q.1 (q.2.1 12).2.1 (q.2.1 12).2.2.1 ∈ tbG := ⟨_, rfl, rfl, (lb rfl), (mG (mT1 77 rfl) rfl)⟩
set_option maxRecDepth 10000 in
theorem ff_T_27 : ∃ q, cls[1]? = some q ∧ q.1 = "LieOfTwo$Town" ∧ 13 < q.2.2 ∧ Cond.fieldLink "LieOfTwo$Town" 27 q.1 (q.2.1 13).2.1 (q.2.1 13).2.2.1 ∈ tbG := ⟨_, rfl, rfl, (lb rfl), (mG (mT1 80 rfl) rfl)⟩
set_option maxRecDepth 10000 in
theorem ff_T_30 : ∃ q, cls[1]? = some q ∧ q.1 = "LieOfTwo$Town" ∧ 14 < q.2.2 ∧ Cond.fieldLink "LieOfTwo$Town" 30 q.1 (q.2.1 14).2.1 (q.2.1 14).2.2.1 ∈ tbG := ⟨_, rfl, rfl, (lb rfl), (mG (mT1 83 rfl) rfl)⟩
set_option maxRecDepth 10000 in
theorem wa_long : Cond.arrayClass .long ∈ tbG := mG (mT1 138 rfl) rfl
set_option maxRecDepth 10000 in
theorem ff_T_33 : ∃ q, cls[1]? = some q ∧ q.1 = "LieOfTwo$Town" ∧ 15 < q.2.2 ∧ Cond.fieldLink "LieOfTwo$Town" 33 q.1 (q.2.1 15).2.1 (q.2.1 15).2.2.1 ∈ tbG := ⟨_, rfl, rfl, (lb rfl), (mG (mT1 85 rfl) rfl)⟩
set_option maxRecDepth 10000 in
theorem ff_T_37 : ∃ q, cls[1]? = some q ∧ q.1 = "LieOfTwo$Town" ∧ 16 < q.2.2 ∧ Cond.fieldLink "LieOfTwo$Town" 37 q.1 (q.2.1 16).2.1 (q.2.1 16).2.2.1 ∈ tbG := ⟨_, rfl, rfl, (lb rfl), (mG (mT1 88 rfl) rfl)⟩
set_option maxRecDepth 10000 in
theorem ff_T_40 : ∃ q, cls[1]? = some q ∧ q.1 = "LieOfTwo$Town" ∧ 17 < q.2.2 ∧ Cond.fieldLink "LieOfTwo$Town" 40 q.1 (q.2.1 17).2.1 (q.2.1 17).2.2.1 ∈ tbG := ⟨_, rfl, rfl, (lb rfl), (mG (mT1 93 rfl) rfl)⟩
set_option maxRecDepth 10000 in
theorem ff_T_43 : ∃ q, cls[1]? = some q ∧ q.1 = "LieOfTwo$Town" ∧ 18 < q.2.2 ∧ Cond.fieldLink "LieOfTwo$Town" 43 q.1 (q.2.1 18).2.1 (q.2.1 18).2.2.1 ∈ tbG := ⟨_, rfl, rfl, (lb rfl), (mG (mT1 95 rfl) rfl)⟩
set_option maxRecDepth 10000 in
theorem wk_X_23 : Cond.classLink "LieOfTwo" 23 "LieOfTwo$Lines" ∈ tbG := mG (mT1 139 rfl) rfl
set_option maxRecDepth 10000 in
theorem wn_N : Cond.instantiable "LieOfTwo$Lines" 17 ∈ tbG := mG (mT1 140 rfl) rfl
set_option maxRecDepth 10000 in
theorem wz_N : Cond.initialized "LieOfTwo$Lines" ∈ tbG := mG (mT1 3 rfl) rfl
set_option maxRecDepth 10000 in
theorem wo_N_3 : Cond.methodLink "LieOfTwo$Lines" 3 Lib.objectInit ∈ tbG := mG (mT1 144 rfl) rfl
set_option maxRecDepth 10000 in
theorem wk_N_9 : Cond.classLink "LieOfTwo$Lines" 9 "LieOfTwo$Steps" ∈ tbG := mG (mT1 145 rfl) rfl
set_option maxRecDepth 10000 in
theorem wn_S : Cond.instantiable "LieOfTwo$Steps" 4 ∈ tbG := mG (mT1 146 rfl) rfl
set_option maxRecDepth 10000 in
theorem wz_S : Cond.initialized "LieOfTwo$Steps" ∈ tbG := mG (mT1 4 rfl) rfl
set_option maxRecDepth 10000 in
theorem wo_S_3 : Cond.methodLink "LieOfTwo$Steps" 3 Lib.objectInit ∈ tbG := mG (mT1 150 rfl) rfl
set_option maxRecDepth 10000 in
theorem ff_S_9 : ∃ q, cls[4]? = some q ∧ q.1 = "LieOfTwo$Steps" ∧ 0 < q.2.2 ∧ Cond.fieldLink "LieOfTwo$Steps" 9 q.1 (q.2.1 0).2.1 (q.2.1 0).2.2.1 ∈ tbG := ⟨_, rfl, rfl, (lb rfl), (mG (mT1 151 rfl) rfl)⟩
set_option maxRecDepth 10000 in
theorem ff_S_15 : ∃ q, cls[4]? = some q ∧ q.1 = "LieOfTwo$Steps" ∧ 2 < q.2.2 ∧ Cond.fieldLink "LieOfTwo$Steps" 15 q.1 (q.2.1 2).2.1 (q.2.1 2).2.2.1 ∈ tbG := ⟨_, rfl, rfl, (lb rfl), (mG (mT1 154 rfl) rfl)⟩
set_option maxRecDepth 10000 in
theorem ff_S_19 : ∃ q, cls[4]? = some q ∧ q.1 = "LieOfTwo$Steps" ∧ 3 < q.2.2 ∧ Cond.fieldLink "LieOfTwo$Steps" 19 q.1 (q.2.1 3).2.1 (q.2.1 3).2.2.1 ∈ tbG := ⟨_, rfl, rfl, (lb rfl), (mG (mT1 156 rfl) rfl)⟩
set_option maxRecDepth 10000 in
theorem ff_N_12 : ∃ q, cls[3]? = some q ∧ q.1 = "LieOfTwo$Lines" ∧ 1 < q.2.2 ∧ Cond.fieldLink "LieOfTwo$Lines" 12 q.1 (q.2.1 1).2.1 (q.2.1 1).2.2.1 ∈ tbG := ⟨_, rfl, rfl, (lb rfl), (mG (mT2 24 rfl) rfl)⟩
set_option maxRecDepth 10000 in
theorem ff_N_18 : ∃ q, cls[3]? = some q ∧ q.1 = "LieOfTwo$Lines" ∧ 2 < q.2.2 ∧ Cond.fieldLink "LieOfTwo$Lines" 18 q.1 (q.2.1 2).2.1 (q.2.1 2).2.2.1 ∈ tbG := ⟨_, rfl, rfl, (lb rfl), (mG (mT2 25 rfl) rfl)⟩
set_option maxRecDepth 10000 in
theorem ff_N_22 : ∃ q, cls[3]? = some q ∧ q.1 = "LieOfTwo$Lines" ∧ 3 < q.2.2 ∧ Cond.fieldLink "LieOfTwo$Lines" 22 q.1 (q.2.1 3).2.1 (q.2.1 3).2.2.1 ∈ tbG := ⟨_, rfl, rfl, (lb rfl), (mG (mT2 26 rfl) rfl)⟩
set_option maxRecDepth 10000 in
theorem ff_N_25 : ∃ q, cls[3]? = some q ∧ q.1 = "LieOfTwo$Lines" ∧ 4 < q.2.2 ∧ Cond.fieldLink "LieOfTwo$Lines" 25 q.1 (q.2.1 4).2.1 (q.2.1 4).2.2.1 ∈ tbG := ⟨_, rfl, rfl, (lb rfl), (mG (mT2 27 rfl) rfl)⟩
set_option maxRecDepth 10000 in
theorem ff_N_28 : ∃ q, cls[3]? = some q ∧ q.1 = "LieOfTwo$Lines" ∧ 5 < q.2.2 ∧ Cond.fieldLink "LieOfTwo$Lines" 28 q.1 (q.2.1 5).2.1 (q.2.1 5).2.2.1 ∈ tbG := ⟨_, rfl, rfl, (lb rfl), (mG (mT2 28 rfl) rfl)⟩
set_option maxRecDepth 10000 in
theorem ff_N_32 : ∃ q, cls[3]? = some q ∧ q.1 = "LieOfTwo$Lines" ∧ 6 < q.2.2 ∧ Cond.fieldLink "LieOfTwo$Lines" 32 q.1 (q.2.1 6).2.1 (q.2.1 6).2.2.1 ∈ tbG := ⟨_, rfl, rfl, (lb rfl), (mG (mT2 29 rfl) rfl)⟩
set_option maxRecDepth 10000 in
theorem wa_boolean : Cond.arrayClass .boolean ∈ tbG := mG (mT2 21 rfl) rfl
set_option maxRecDepth 10000 in
theorem ff_N_35 : ∃ q, cls[3]? = some q ∧ q.1 = "LieOfTwo$Lines" ∧ 7 < q.2.2 ∧ Cond.fieldLink "LieOfTwo$Lines" 35 q.1 (q.2.1 7).2.1 (q.2.1 7).2.2.1 ∈ tbG := ⟨_, rfl, rfl, (lb rfl), (mG (mT2 30 rfl) rfl)⟩
set_option maxRecDepth 10000 in
theorem ff_N_39 : ∃ q, cls[3]? = some q ∧ q.1 = "LieOfTwo$Lines" ∧ 8 < q.2.2 ∧ Cond.fieldLink "LieOfTwo$Lines" 39 q.1 (q.2.1 8).2.1 (q.2.1 8).2.2.1 ∈ tbG := ⟨_, rfl, rfl, (lb rfl), (mG (mT2 31 rfl) rfl)⟩
set_option maxRecDepth 10000 in
theorem ff_N_42 : ∃ q, cls[3]? = some q ∧ q.1 = "LieOfTwo$Lines" ∧ 9 < q.2.2 ∧ Cond.fieldLink "LieOfTwo$Lines" 42 q.1 (q.2.1 9).2.1 (q.2.1 9).2.2.1 ∈ tbG := ⟨_, rfl, rfl, (lb rfl), (mG (mT2 32 rfl) rfl)⟩
set_option maxRecDepth 10000 in
theorem wk_N_45 : Cond.classLink "LieOfTwo$Lines" 45 "LieOfTwo$Tokens" ∈ tbG := mG (mT1 166 rfl) rfl
set_option maxRecDepth 10000 in
theorem wn_K : Cond.instantiable "LieOfTwo$Tokens" 10 ∈ tbG := mG (mT1 167 rfl) rfl
set_option maxRecDepth 10000 in
theorem wz_K : Cond.initialized "LieOfTwo$Tokens" ∈ tbG := mG (mT1 5 rfl) rfl
set_option maxRecDepth 10000 in
theorem wo_K_3 : Cond.methodLink "LieOfTwo$Tokens" 3 Lib.objectInit ∈ tbG := mG (mT1 171 rfl) rfl
set_option maxRecDepth 10000 in
theorem ff_K_9 : ∃ q, cls[2]? = some q ∧ q.1 = "LieOfTwo$Tokens" ∧ 0 < q.2.2 ∧ Cond.fieldLink "LieOfTwo$Tokens" 9 q.1 (q.2.1 0).2.1 (q.2.1 0).2.2.1 ∈ tbG := ⟨_, rfl, rfl, (lb rfl), (mG (mT1 225 rfl) rfl)⟩
set_option maxRecDepth 10000 in
theorem ff_K_19 : ∃ q, cls[2]? = some q ∧ q.1 = "LieOfTwo$Tokens" ∧ 1 < q.2.2 ∧ Cond.fieldLink "LieOfTwo$Tokens" 19 q.1 (q.2.1 1).2.1 (q.2.1 1).2.2.1 ∈ tbG := ⟨_, rfl, rfl, (lb rfl), (mG (mT1 226 rfl) rfl)⟩
set_option maxRecDepth 10000 in
theorem wf_JS_38 : Cond.fieldLink "java/lang/String" 38 "java/lang/String" "COMPACT_STRINGS" "Z" ∈ tbG := mG (mT1 181 rfl) rfl
set_option maxRecDepth 10000 in
theorem wf_JS_15 : Cond.fieldLink "java/lang/String" 15 "java/lang/String" "coder" "B" ∈ tbG := mG (mT8 133 rfl) rfl
set_option maxRecDepth 10000 in
theorem wf_JS_9 : Cond.fieldLink "java/lang/String" 9 "java/lang/String" "value" "[B" ∈ tbG := mG (mT8 132 rfl) rfl
set_option maxRecDepth 10000 in
theorem ff_N_50 : ∃ q, cls[3]? = some q ∧ q.1 = "LieOfTwo$Lines" ∧ 0 < q.2.2 ∧ Cond.fieldLink "LieOfTwo$Lines" 50 q.1 (q.2.1 0).2.1 (q.2.1 0).2.2.1 ∈ tbG := ⟨_, rfl, rfl, (lb rfl), (mG (mT2 22 rfl) rfl)⟩
set_option maxRecDepth 10000 in
theorem ff_X_28 : ∃ q, cls[0]? = some q ∧ q.1 = "LieOfTwo" ∧ 4 < q.2.2 ∧ Cond.fieldLink "LieOfTwo" 28 q.1 (q.2.1 4).2.1 (q.2.1 4).2.2.1 ∈ tbG := ⟨_, rfl, rfl, (lb rfl), (mG (mT3 239 rfl) rfl)⟩
set_option maxRecDepth 10000 in
theorem wk_X_32 : Cond.classLink "LieOfTwo" 32 "LieOfTwo$Sayings" ∈ tbG := mG (mT2 75 rfl) rfl
set_option maxRecDepth 10000 in
theorem wn_Y : Cond.instantiable "LieOfTwo$Sayings" 8 ∈ tbG := mG (mT2 76 rfl) rfl
set_option maxRecDepth 10000 in
theorem wz_Y : Cond.initialized "LieOfTwo$Sayings" ∈ tbG := mG (mT1 10 rfl) rfl
set_option maxRecDepth 10000 in
theorem wo_Y_3 : Cond.methodLink "LieOfTwo$Sayings" 3 Lib.objectInit ∈ tbG := mG (mT2 80 rfl) rfl
set_option maxRecDepth 10000 in
theorem ff_Y_9 : ∃ q, cls[5]? = some q ∧ q.1 = "LieOfTwo$Sayings" ∧ 2 < q.2.2 ∧ Cond.fieldLink "LieOfTwo$Sayings" 9 q.1 (q.2.1 2).2.1 (q.2.1 2).2.2.1 ∈ tbG := ⟨_, rfl, rfl, (lb rfl), (mG (mT2 85 rfl) rfl)⟩
set_option maxRecDepth 10000 in
theorem ff_Y_15 : ∃ q, cls[5]? = some q ∧ q.1 = "LieOfTwo$Sayings" ∧ 3 < q.2.2 ∧ Cond.fieldLink "LieOfTwo$Sayings" 15 q.1 (q.2.1 3).2.1 (q.2.1 3).2.2.1 ∈ tbG := ⟨_, rfl, rfl, (lb rfl), (mG (mT2 87 rfl) rfl)⟩
set_option maxRecDepth 10000 in
theorem ff_Y_18 : ∃ q, cls[5]? = some q ∧ q.1 = "LieOfTwo$Sayings" ∧ 4 < q.2.2 ∧ Cond.fieldLink "LieOfTwo$Sayings" 18 q.1 (q.2.1 4).2.1 (q.2.1 4).2.2.1 ∈ tbG := ⟨_, rfl, rfl, (lb rfl), (mG (mT2 89 rfl) rfl)⟩
set_option maxRecDepth 10000 in
theorem ff_Y_22 : ∃ q, cls[5]? = some q ∧ q.1 = "LieOfTwo$Sayings" ∧ 5 < q.2.2 ∧ Cond.fieldLink "LieOfTwo$Sayings" 22 q.1 (q.2.1 5).2.1 (q.2.1 5).2.2.1 ∈ tbG := ⟨_, rfl, rfl, (lb rfl), (mG (mT2 91 rfl) rfl)⟩
set_option maxRecDepth 10000 in
theorem ff_Y_25 : ∃ q, cls[5]? = some q ∧ q.1 = "LieOfTwo$Sayings" ∧ 6 < q.2.2 ∧ Cond.fieldLink "LieOfTwo$Sayings" 25 q.1 (q.2.1 6).2.1 (q.2.1 6).2.2.1 ∈ tbG := ⟨_, rfl, rfl, (lb rfl), (mG (mT2 92 rfl) rfl)⟩
set_option maxRecDepth 10000 in
theorem ff_Y_28 : ∃ q, cls[5]? = some q ∧ q.1 = "LieOfTwo$Sayings" ∧ 7 < q.2.2 ∧ Cond.fieldLink "LieOfTwo$Sayings" 28 q.1 (q.2.1 7).2.1 (q.2.1 7).2.2.1 ∈ tbG := ⟨_, rfl, rfl, (lb rfl), (mG (mT2 94 rfl) rfl)⟩
set_option maxRecDepth 10000 in
theorem ff_X_35 : ∃ q, cls[0]? = some q ∧ q.1 = "LieOfTwo" ∧ 5 < q.2.2 ∧ Cond.fieldLink "LieOfTwo" 35 q.1 (q.2.1 5).2.1 (q.2.1 5).2.2.1 ∈ tbG := ⟨_, rfl, rfl, (lb rfl), (mG (mT4 0 rfl) rfl)⟩
set_option maxRecDepth 10000 in
theorem ff_X_39 : ∃ q, cls[0]? = some q ∧ q.1 = "LieOfTwo" ∧ 6 < q.2.2 ∧ Cond.fieldLink "LieOfTwo" 39 q.1 (q.2.1 6).2.1 (q.2.1 6).2.2.1 ∈ tbG := ⟨_, rfl, rfl, (lb rfl), (mG (mT4 1 rfl) rfl)⟩
set_option maxRecDepth 10000 in
theorem wk_X_43 : Cond.classLink "LieOfTwo" 43 "LieOfTwo$Known" ∈ tbG := mG (mT2 115 rfl) rfl
set_option maxRecDepth 10000 in
theorem wn_W : Cond.instantiable "LieOfTwo$Known" 6 ∈ tbG := mG (mT2 116 rfl) rfl
set_option maxRecDepth 10000 in
theorem wz_W : Cond.initialized "LieOfTwo$Known" ∈ tbG := mG (mT1 11 rfl) rfl
set_option maxRecDepth 10000 in
theorem wo_W_3 : Cond.methodLink "LieOfTwo$Known" 3 Lib.objectInit ∈ tbG := mG (mT2 120 rfl) rfl
set_option maxRecDepth 10000 in
theorem ff_W_9 : ∃ q, cls[6]? = some q ∧ q.1 = "LieOfTwo$Known" ∧ 2 < q.2.2 ∧ Cond.fieldLink "LieOfTwo$Known" 9 q.1 (q.2.1 2).2.1 (q.2.1 2).2.2.1 ∈ tbG := ⟨_, rfl, rfl, (lb rfl), (mG (mT2 123 rfl) rfl)⟩
set_option maxRecDepth 10000 in
theorem ff_W_15 : ∃ q, cls[6]? = some q ∧ q.1 = "LieOfTwo$Known" ∧ 4 < q.2.2 ∧ Cond.fieldLink "LieOfTwo$Known" 15 q.1 (q.2.1 4).2.1 (q.2.1 4).2.2.1 ∈ tbG := ⟨_, rfl, rfl, (lb rfl), (mG (mT2 129 rfl) rfl)⟩
set_option maxRecDepth 10000 in
theorem ff_X_46 : ∃ q, cls[0]? = some q ∧ q.1 = "LieOfTwo" ∧ 7 < q.2.2 ∧ Cond.fieldLink "LieOfTwo" 46 q.1 (q.2.1 7).2.1 (q.2.1 7).2.2.1 ∈ tbG := ⟨_, rfl, rfl, (lb rfl), (mG (mT4 2 rfl) rfl)⟩
set_option maxRecDepth 10000 in
theorem wk_X_50 : Cond.classLink "LieOfTwo" 50 "LieOfTwo$Asker" ∈ tbG := mG (mT2 148 rfl) rfl
set_option maxRecDepth 10000 in
theorem wn_A : Cond.instantiable "LieOfTwo$Asker" 6 ∈ tbG := mG (mT2 149 rfl) rfl
set_option maxRecDepth 10000 in
theorem wz_A : Cond.initialized "LieOfTwo$Asker" ∈ tbG := mG (mT1 12 rfl) rfl
set_option maxRecDepth 10000 in
theorem wo_A_3 : Cond.methodLink "LieOfTwo$Asker" 3 Lib.objectInit ∈ tbG := mG (mT2 153 rfl) rfl
set_option maxRecDepth 10000 in
theorem ff_A_9 : ∃ q, cls[7]? = some q ∧ q.1 = "LieOfTwo$Asker" ∧ 5 < q.2.2 ∧ Cond.fieldLink "LieOfTwo$Asker" 9 q.1 (q.2.1 5).2.1 (q.2.1 5).2.2.1 ∈ tbG := ⟨_, rfl, rfl, (lb rfl), (mG (mT2 162 rfl) rfl)⟩
set_option maxRecDepth 10000 in
theorem ff_X_53 : ∃ q, cls[0]? = some q ∧ q.1 = "LieOfTwo" ∧ 8 < q.2.2 ∧ Cond.fieldLink "LieOfTwo" 53 q.1 (q.2.1 8).2.1 (q.2.1 8).2.2.1 ∈ tbG := ⟨_, rfl, rfl, (lb rfl), (mG (mT4 3 rfl) rfl)⟩
set_option maxRecDepth 10000 in
theorem wk_X_57 : Cond.classLink "LieOfTwo" 57 "LieOfTwo$Pairing" ∈ tbG := mG (mT2 176 rfl) rfl
set_option maxRecDepth 10000 in
theorem wn_P : Cond.instantiable "LieOfTwo$Pairing" 6 ∈ tbG := mG (mT2 177 rfl) rfl
set_option maxRecDepth 10000 in
theorem wz_P : Cond.initialized "LieOfTwo$Pairing" ∈ tbG := mG (mT1 13 rfl) rfl
set_option maxRecDepth 10000 in
theorem wo_P_3 : Cond.methodLink "LieOfTwo$Pairing" 3 Lib.objectInit ∈ tbG := mG (mT2 181 rfl) rfl
set_option maxRecDepth 10000 in
theorem ff_P_9 : ∃ q, cls[8]? = some q ∧ q.1 = "LieOfTwo$Pairing" ∧ 1 < q.2.2 ∧ Cond.fieldLink "LieOfTwo$Pairing" 9 q.1 (q.2.1 1).2.1 (q.2.1 1).2.2.1 ∈ tbG := ⟨_, rfl, rfl, (lb rfl), (mG (mT2 183 rfl) rfl)⟩
set_option maxRecDepth 10000 in
theorem ff_X_60 : ∃ q, cls[0]? = some q ∧ q.1 = "LieOfTwo" ∧ 9 < q.2.2 ∧ Cond.fieldLink "LieOfTwo" 60 q.1 (q.2.1 9).2.1 (q.2.1 9).2.2.1 ∈ tbG := ⟨_, rfl, rfl, (lb rfl), (mG (mT4 4 rfl) rfl)⟩
set_option maxRecDepth 10000 in
theorem wk_X_64 : Cond.classLink "LieOfTwo" 64 "LieOfTwo$Covering" ∈ tbG := mG (mT2 203 rfl) rfl
set_option maxRecDepth 10000 in
theorem wn_C : Cond.instantiable "LieOfTwo$Covering" 5 ∈ tbG := mG (mT2 204 rfl) rfl
set_option maxRecDepth 10000 in
theorem wz_C : Cond.initialized "LieOfTwo$Covering" ∈ tbG := mG (mT1 14 rfl) rfl
set_option maxRecDepth 10000 in
theorem wo_C_3 : Cond.methodLink "LieOfTwo$Covering" 3 Lib.objectInit ∈ tbG := mG (mT2 208 rfl) rfl
set_option maxRecDepth 10000 in
theorem ff_C_9 : ∃ q, cls[9]? = some q ∧ q.1 = "LieOfTwo$Covering" ∧ 3 < q.2.2 ∧ Cond.fieldLink "LieOfTwo$Covering" 9 q.1 (q.2.1 3).2.1 (q.2.1 3).2.2.1 ∈ tbG := ⟨_, rfl, rfl, (lb rfl), (mG (mT2 212 rfl) rfl)⟩
set_option maxRecDepth 10000 in
theorem ff_X_67 : ∃ q, cls[0]? = some q ∧ q.1 = "LieOfTwo" ∧ 10 < q.2.2 ∧ Cond.fieldLink "LieOfTwo" 67 q.1 (q.2.1 10).2.1 (q.2.1 10).2.2.1 ∈ tbG := ⟨_, rfl, rfl, (lb rfl), (mG (mT4 5 rfl) rfl)⟩
set_option maxRecDepth 10000 in
theorem ff_X_71 : ∃ q, cls[0]? = some q ∧ q.1 = "LieOfTwo" ∧ 11 < q.2.2 ∧ Cond.fieldLink "LieOfTwo" 71 q.1 (q.2.1 11).2.1 (q.2.1 11).2.2.1 ∈ tbG := ⟨_, rfl, rfl, (lb rfl), (mG (mT4 6 rfl) rfl)⟩
set_option maxRecDepth 10000 in
theorem hE_c_1_80 : ∀ c, 1 ≤ c → c ≤ 80 → eI [(1, 80)] c = true := fun c h1 h2 => eI_in (a := 1) (b := 80) (by decide) h1 h2
set_option maxRecDepth 10000 in
theorem wk_L_10 : Cond.classLink "LieOfTwoLaw" 10 "LieOfTwoModel" ∈ tbG := mG (mT5 142 rfl) rfl
set_option maxRecDepth 10000 in
theorem wn_M : Cond.instantiable "LieOfTwoModel" 78 ∈ tbG := mG (mT5 143 rfl) rfl
set_option maxRecDepth 10000 in
theorem wz_M : Cond.initialized "LieOfTwoModel" ∈ tbG := mG (mT1 16 rfl) rfl
set_option maxRecDepth 10000 in
theorem wo_M_1 : Cond.methodLink "LieOfTwoModel" 1 Lib.objectInit ∈ tbG := mG (mT5 147 rfl) rfl
set_option maxRecDepth 10000 in
theorem ff_M_7 : ∃ q, cls[10]? = some q ∧ q.1 = "LieOfTwoModel" ∧ 0 < q.2.2 ∧ Cond.fieldLink "LieOfTwoModel" 7 q.1 (q.2.1 0).2.1 (q.2.1 0).2.2.1 ∈ tbG := ⟨_, rfl, rfl, (lb rfl), (mG (mT5 195 rfl) rfl)⟩
set_option maxRecDepth 10000 in
theorem ff_M_13 : ∃ q, cls[10]? = some q ∧ q.1 = "LieOfTwoModel" ∧ 1 < q.2.2 ∧ Cond.fieldLink "LieOfTwoModel" 13 q.1 (q.2.1 1).2.1 (q.2.1 1).2.2.1 ∈ tbG := ⟨_, rfl, rfl, (lb rfl), (mG (mT5 196 rfl) rfl)⟩
set_option maxRecDepth 10000 in
theorem ff_M_20 : ∃ q, cls[10]? = some q ∧ q.1 = "LieOfTwoModel" ∧ 11 < q.2.2 ∧ Cond.fieldLink "LieOfTwoModel" 20 q.1 (q.2.1 11).2.1 (q.2.1 11).2.2.1 ∈ tbG := ⟨_, rfl, rfl, (lb rfl), (mG (mT5 206 rfl) rfl)⟩
set_option maxRecDepth 10000 in
theorem ff_M_24 : ∃ q, cls[10]? = some q ∧ q.1 = "LieOfTwoModel" ∧ 12 < q.2.2 ∧ Cond.fieldLink "LieOfTwoModel" 24 q.1 (q.2.1 12).2.1 (q.2.1 12).2.2.1 ∈ tbG := ⟨_, rfl, rfl, (lb rfl), (mG (mT5 207 rfl) rfl)⟩
set_option maxRecDepth 10000 in
theorem ff_M_27 : ∃ q, cls[10]? = some q ∧ q.1 = "LieOfTwoModel" ∧ 13 < q.2.2 ∧ Cond.fieldLink "LieOfTwoModel" 27 q.1 (q.2.1 13).2.1 (q.2.1 13).2.2.1 ∈ tbG := ⟨_, rfl, rfl, (lb rfl), (mG (mT5 208 rfl) rfl)⟩
set_option maxRecDepth 10000 in
theorem ff_M_30 : ∃ q, cls[10]? = some q ∧ q.1 = "LieOfTwoModel" ∧ 14 < q.2.2 ∧ Cond.fieldLink "LieOfTwoModel" 30 q.1 (q.2.1 14).2.1 (q.2.1 14).2.2.1 ∈ tbG := ⟨_, rfl, rfl, (lb rfl), (mG (mT5 209 rfl) rfl)⟩
set_option maxRecDepth 10000 in
theorem ff_M_33 : ∃ q, cls[10]? = some q ∧ q.1 = "LieOfTwoModel" ∧ 15 < q.2.2 ∧ Cond.fieldLink "LieOfTwoModel" 33 q.1 (q.2.1 15).2.1 (q.2.1 15).2.2.1 ∈ tbG := ⟨_, rfl, rfl, (lb rfl), (mG (mT5 210 rfl) rfl)⟩
set_option maxRecDepth 10000 in
theorem ff_M_36 : ∃ q, cls[10]? = some q ∧ q.1 = "LieOfTwoModel" ∧ 16 < q.2.2 ∧ Cond.fieldLink "LieOfTwoModel" 36 q.1 (q.2.1 16).2.1 (q.2.1 16).2.2.1 ∈ tbG := ⟨_, rfl, rfl, (lb rfl), (mG (mT5 211 rfl) rfl)⟩
set_option maxRecDepth 10000 in
theorem ff_M_39 : ∃ q, cls[10]? = some q ∧ q.1 = "LieOfTwoModel" ∧ 17 < q.2.2 ∧ Cond.fieldLink "LieOfTwoModel" 39 q.1 (q.2.1 17).2.1 (q.2.1 17).2.2.1 ∈ tbG := ⟨_, rfl, rfl, (lb rfl), (mG (mT5 212 rfl) rfl)⟩
set_option maxRecDepth 10000 in
theorem ff_M_42 : ∃ q, cls[10]? = some q ∧ q.1 = "LieOfTwoModel" ∧ 18 < q.2.2 ∧ Cond.fieldLink "LieOfTwoModel" 42 q.1 (q.2.1 18).2.1 (q.2.1 18).2.2.1 ∈ tbG := ⟨_, rfl, rfl, (lb rfl), (mG (mT5 213 rfl) rfl)⟩
set_option maxRecDepth 10000 in
theorem ff_M_46 : ∃ q, cls[10]? = some q ∧ q.1 = "LieOfTwoModel" ∧ 19 < q.2.2 ∧ Cond.fieldLink "LieOfTwoModel" 46 q.1 (q.2.1 19).2.1 (q.2.1 19).2.2.1 ∈ tbG := ⟨_, rfl, rfl, (lb rfl), (mG (mT5 214 rfl) rfl)⟩
set_option maxRecDepth 10000 in
theorem ff_M_49 : ∃ q, cls[10]? = some q ∧ q.1 = "LieOfTwoModel" ∧ 20 < q.2.2 ∧ Cond.fieldLink "LieOfTwoModel" 49 q.1 (q.2.1 20).2.1 (q.2.1 20).2.2.1 ∈ tbG := ⟨_, rfl, rfl, (lb rfl), (mG (mT5 215 rfl) rfl)⟩
set_option maxRecDepth 10000 in
theorem ff_M_53 : ∃ q, cls[10]? = some q ∧ q.1 = "LieOfTwoModel" ∧ 21 < q.2.2 ∧ Cond.fieldLink "LieOfTwoModel" 53 q.1 (q.2.1 21).2.1 (q.2.1 21).2.2.1 ∈ tbG := ⟨_, rfl, rfl, (lb rfl), (mG (mT5 216 rfl) rfl)⟩
set_option maxRecDepth 10000 in
theorem ff_M_56 : ∃ q, cls[10]? = some q ∧ q.1 = "LieOfTwoModel" ∧ 22 < q.2.2 ∧ Cond.fieldLink "LieOfTwoModel" 56 q.1 (q.2.1 22).2.1 (q.2.1 22).2.2.1 ∈ tbG := ⟨_, rfl, rfl, (lb rfl), (mG (mT5 217 rfl) rfl)⟩
set_option maxRecDepth 10000 in
theorem ff_M_59 : ∃ q, cls[10]? = some q ∧ q.1 = "LieOfTwoModel" ∧ 23 < q.2.2 ∧ Cond.fieldLink "LieOfTwoModel" 59 q.1 (q.2.1 23).2.1 (q.2.1 23).2.2.1 ∈ tbG := ⟨_, rfl, rfl, (lb rfl), (mG (mT5 218 rfl) rfl)⟩
set_option maxRecDepth 10000 in
theorem ff_M_62 : ∃ q, cls[10]? = some q ∧ q.1 = "LieOfTwoModel" ∧ 24 < q.2.2 ∧ Cond.fieldLink "LieOfTwoModel" 62 q.1 (q.2.1 24).2.1 (q.2.1 24).2.2.1 ∈ tbG := ⟨_, rfl, rfl, (lb rfl), (mG (mT5 219 rfl) rfl)⟩
set_option maxRecDepth 10000 in
theorem ff_M_65 : ∃ q, cls[10]? = some q ∧ q.1 = "LieOfTwoModel" ∧ 25 < q.2.2 ∧ Cond.fieldLink "LieOfTwoModel" 65 q.1 (q.2.1 25).2.1 (q.2.1 25).2.2.1 ∈ tbG := ⟨_, rfl, rfl, (lb rfl), (mG (mT5 220 rfl) rfl)⟩
set_option maxRecDepth 10000 in
theorem ff_M_68 : ∃ q, cls[10]? = some q ∧ q.1 = "LieOfTwoModel" ∧ 26 < q.2.2 ∧ Cond.fieldLink "LieOfTwoModel" 68 q.1 (q.2.1 26).2.1 (q.2.1 26).2.2.1 ∈ tbG := ⟨_, rfl, rfl, (lb rfl), (mG (mT5 221 rfl) rfl)⟩
set_option maxRecDepth 10000 in
theorem ff_M_71 : ∃ q, cls[10]? = some q ∧ q.1 = "LieOfTwoModel" ∧ 27 < q.2.2 ∧ Cond.fieldLink "LieOfTwoModel" 71 q.1 (q.2.1 27).2.1 (q.2.1 27).2.2.1 ∈ tbG := ⟨_, rfl, rfl, (lb rfl), (mG (mT5 222 rfl) rfl)⟩
set_option maxRecDepth 10000 in
theorem ff_M_74 : ∃ q, cls[10]? = some q ∧ q.1 = "LieOfTwoModel" ∧ 28 < q.2.2 ∧ Cond.fieldLink "LieOfTwoModel" 74 q.1 (q.2.1 28).2.1 (q.2.1 28).2.2.1 ∈ tbG := ⟨_, rfl, rfl, (lb rfl), (mG (mT5 223 rfl) rfl)⟩
set_option maxRecDepth 10000 in
theorem ff_M_77 : ∃ q, cls[10]? = some q ∧ q.1 = "LieOfTwoModel" ∧ 29 < q.2.2 ∧ Cond.fieldLink "LieOfTwoModel" 77 q.1 (q.2.1 29).2.1 (q.2.1 29).2.2.1 ∈ tbG := ⟨_, rfl, rfl, (lb rfl), (mG (mT5 224 rfl) rfl)⟩
set_option maxRecDepth 10000 in
theorem ff_M_80 : ∃ q, cls[10]? = some q ∧ q.1 = "LieOfTwoModel" ∧ 30 < q.2.2 ∧ Cond.fieldLink "LieOfTwoModel" 80 q.1 (q.2.1 30).2.1 (q.2.1 30).2.2.1 ∈ tbG := ⟨_, rfl, rfl, (lb rfl), (mG (mT5 225 rfl) rfl)⟩
set_option maxRecDepth 10000 in
theorem ff_M_83 : ∃ q, cls[10]? = some q ∧ q.1 = "LieOfTwoModel" ∧ 31 < q.2.2 ∧ Cond.fieldLink "LieOfTwoModel" 83 q.1 (q.2.1 31).2.1 (q.2.1 31).2.2.1 ∈ tbG := ⟨_, rfl, rfl, (lb rfl), (mG (mT5 226 rfl) rfl)⟩
set_option maxRecDepth 10000 in
theorem ff_M_86 : ∃ q, cls[10]? = some q ∧ q.1 = "LieOfTwoModel" ∧ 32 < q.2.2 ∧ Cond.fieldLink "LieOfTwoModel" 86 q.1 (q.2.1 32).2.1 (q.2.1 32).2.2.1 ∈ tbG := ⟨_, rfl, rfl, (lb rfl), (mG (mT5 227 rfl) rfl)⟩
set_option maxRecDepth 10000 in
theorem ff_M_89 : ∃ q, cls[10]? = some q ∧ q.1 = "LieOfTwoModel" ∧ 33 < q.2.2 ∧ Cond.fieldLink "LieOfTwoModel" 89 q.1 (q.2.1 33).2.1 (q.2.1 33).2.2.1 ∈ tbG := ⟨_, rfl, rfl, (lb rfl), (mG (mT5 228 rfl) rfl)⟩
set_option maxRecDepth 10000 in
theorem ff_M_92 : ∃ q, cls[10]? = some q ∧ q.1 = "LieOfTwoModel" ∧ 34 < q.2.2 ∧ Cond.fieldLink "LieOfTwoModel" 92 q.1 (q.2.1 34).2.1 (q.2.1 34).2.2.1 ∈ tbG := ⟨_, rfl, rfl, (lb rfl), (mG (mT5 229 rfl) rfl)⟩
set_option maxRecDepth 10000 in
theorem ff_M_95 : ∃ q, cls[10]? = some q ∧ q.1 = "LieOfTwoModel" ∧ 35 < q.2.2 ∧ Cond.fieldLink "LieOfTwoModel" 95 q.1 (q.2.1 35).2.1 (q.2.1 35).2.2.1 ∈ tbG := ⟨_, rfl, rfl, (lb rfl), (mG (mT5 230 rfl) rfl)⟩
set_option maxRecDepth 10000 in
theorem ff_M_98 : ∃ q, cls[10]? = some q ∧ q.1 = "LieOfTwoModel" ∧ 36 < q.2.2 ∧ Cond.fieldLink "LieOfTwoModel" 98 q.1 (q.2.1 36).2.1 (q.2.1 36).2.2.1 ∈ tbG := ⟨_, rfl, rfl, (lb rfl), (mG (mT5 231 rfl) rfl)⟩
set_option maxRecDepth 10000 in
theorem ff_M_101 : ∃ q, cls[10]? = some q ∧ q.1 = "LieOfTwoModel" ∧ 37 < q.2.2 ∧ Cond.fieldLink "LieOfTwoModel" 101 q.1 (q.2.1 37).2.1 (q.2.1 37).2.2.1 ∈ tbG := ⟨_, rfl, rfl, (lb rfl), (mG (mT5 232 rfl) rfl)⟩
set_option maxRecDepth 10000 in
theorem ff_M_104 : ∃ q, cls[10]? = some q ∧ q.1 = "LieOfTwoModel" ∧ 46 < q.2.2 ∧ Cond.fieldLink "LieOfTwoModel" 104 q.1 (q.2.1 46).2.1 (q.2.1 46).2.2.1 ∈ tbG := ⟨_, rfl, rfl, (lb rfl), (mG (mT6 1 rfl) rfl)⟩
set_option maxRecDepth 10000 in
theorem ff_M_107 : ∃ q, cls[10]? = some q ∧ q.1 = "LieOfTwoModel" ∧ 47 < q.2.2 ∧ Cond.fieldLink "LieOfTwoModel" 107 q.1 (q.2.1 47).2.1 (q.2.1 47).2.2.1 ∈ tbG := ⟨_, rfl, rfl, (lb rfl), (mG (mT6 2 rfl) rfl)⟩
set_option maxRecDepth 10000 in
theorem ff_M_110 : ∃ q, cls[10]? = some q ∧ q.1 = "LieOfTwoModel" ∧ 48 < q.2.2 ∧ Cond.fieldLink "LieOfTwoModel" 110 q.1 (q.2.1 48).2.1 (q.2.1 48).2.2.1 ∈ tbG := ⟨_, rfl, rfl, (lb rfl), (mG (mT6 3 rfl) rfl)⟩
set_option maxRecDepth 10000 in
theorem ff_M_113 : ∃ q, cls[10]? = some q ∧ q.1 = "LieOfTwoModel" ∧ 49 < q.2.2 ∧ Cond.fieldLink "LieOfTwoModel" 113 q.1 (q.2.1 49).2.1 (q.2.1 49).2.2.1 ∈ tbG := ⟨_, rfl, rfl, (lb rfl), (mG (mT6 4 rfl) rfl)⟩
set_option maxRecDepth 10000 in
theorem ff_M_116 : ∃ q, cls[10]? = some q ∧ q.1 = "LieOfTwoModel" ∧ 50 < q.2.2 ∧ Cond.fieldLink "LieOfTwoModel" 116 q.1 (q.2.1 50).2.1 (q.2.1 50).2.2.1 ∈ tbG := ⟨_, rfl, rfl, (lb rfl), (mG (mT6 5 rfl) rfl)⟩
set_option maxRecDepth 10000 in
theorem ff_M_119 : ∃ q, cls[10]? = some q ∧ q.1 = "LieOfTwoModel" ∧ 51 < q.2.2 ∧ Cond.fieldLink "LieOfTwoModel" 119 q.1 (q.2.1 51).2.1 (q.2.1 51).2.2.1 ∈ tbG := ⟨_, rfl, rfl, (lb rfl), (mG (mT6 6 rfl) rfl)⟩
set_option maxRecDepth 10000 in
theorem ff_M_122 : ∃ q, cls[10]? = some q ∧ q.1 = "LieOfTwoModel" ∧ 52 < q.2.2 ∧ Cond.fieldLink "LieOfTwoModel" 122 q.1 (q.2.1 52).2.1 (q.2.1 52).2.2.1 ∈ tbG := ⟨_, rfl, rfl, (lb rfl), (mG (mT6 7 rfl) rfl)⟩
set_option maxRecDepth 10000 in
theorem ff_M_125 : ∃ q, cls[10]? = some q ∧ q.1 = "LieOfTwoModel" ∧ 53 < q.2.2 ∧ Cond.fieldLink "LieOfTwoModel" 125 q.1 (q.2.1 53).2.1 (q.2.1 53).2.2.1 ∈ tbG := ⟨_, rfl, rfl, (lb rfl), (mG (mT6 8 rfl) rfl)⟩
set_option maxRecDepth 10000 in
theorem ff_M_128 : ∃ q, cls[10]? = some q ∧ q.1 = "LieOfTwoModel" ∧ 54 < q.2.2 ∧ Cond.fieldLink "LieOfTwoModel" 128 q.1 (q.2.1 54).2.1 (q.2.1 54).2.2.1 ∈ tbG := ⟨_, rfl, rfl, (lb rfl), (mG (mT6 9 rfl) rfl)⟩
set_option maxRecDepth 10000 in
theorem ff_M_131 : ∃ q, cls[10]? = some q ∧ q.1 = "LieOfTwoModel" ∧ 55 < q.2.2 ∧ Cond.fieldLink "LieOfTwoModel" 131 q.1 (q.2.1 55).2.1 (q.2.1 55).2.2.1 ∈ tbG := ⟨_, rfl, rfl, (lb rfl), (mG (mT6 10 rfl) rfl)⟩
set_option maxRecDepth 10000 in
theorem ff_M_134 : ∃ q, cls[10]? = some q ∧ q.1 = "LieOfTwoModel" ∧ 56 < q.2.2 ∧ Cond.fieldLink "LieOfTwoModel" 134 q.1 (q.2.1 56).2.1 (q.2.1 56).2.2.1 ∈ tbG := ⟨_, rfl, rfl, (lb rfl), (mG (mT6 11 rfl) rfl)⟩
set_option maxRecDepth 10000 in
theorem ff_M_137 : ∃ q, cls[10]? = some q ∧ q.1 = "LieOfTwoModel" ∧ 59 < q.2.2 ∧ Cond.fieldLink "LieOfTwoModel" 137 q.1 (q.2.1 59).2.1 (q.2.1 59).2.2.1 ∈ tbG := ⟨_, rfl, rfl, (lb rfl), (mG (mT6 14 rfl) rfl)⟩
set_option maxRecDepth 10000 in
theorem ff_M_140 : ∃ q, cls[10]? = some q ∧ q.1 = "LieOfTwoModel" ∧ 61 < q.2.2 ∧ Cond.fieldLink "LieOfTwoModel" 140 q.1 (q.2.1 61).2.1 (q.2.1 61).2.2.1 ∈ tbG := ⟨_, rfl, rfl, (lb rfl), (mG (mT6 16 rfl) rfl)⟩
set_option maxRecDepth 10000 in
theorem ff_M_143 : ∃ q, cls[10]? = some q ∧ q.1 = "LieOfTwoModel" ∧ 62 < q.2.2 ∧ Cond.fieldLink "LieOfTwoModel" 143 q.1 (q.2.1 62).2.1 (q.2.1 62).2.2.1 ∈ tbG := ⟨_, rfl, rfl, (lb rfl), (mG (mT6 17 rfl) rfl)⟩
set_option maxRecDepth 10000 in
theorem ff_M_146 : ∃ q, cls[10]? = some q ∧ q.1 = "LieOfTwoModel" ∧ 63 < q.2.2 ∧ Cond.fieldLink "LieOfTwoModel" 146 q.1 (q.2.1 63).2.1 (q.2.1 63).2.2.1 ∈ tbG := ⟨_, rfl, rfl, (lb rfl), (mG (mT6 18 rfl) rfl)⟩
set_option maxRecDepth 10000 in
theorem ff_M_149 : ∃ q, cls[10]? = some q ∧ q.1 = "LieOfTwoModel" ∧ 64 < q.2.2 ∧ Cond.fieldLink "LieOfTwoModel" 149 q.1 (q.2.1 64).2.1 (q.2.1 64).2.2.1 ∈ tbG := ⟨_, rfl, rfl, (lb rfl), (mG (mT6 19 rfl) rfl)⟩
set_option maxRecDepth 10000 in
theorem ff_M_152 : ∃ q, cls[10]? = some q ∧ q.1 = "LieOfTwoModel" ∧ 65 < q.2.2 ∧ Cond.fieldLink "LieOfTwoModel" 152 q.1 (q.2.1 65).2.1 (q.2.1 65).2.2.1 ∈ tbG := ⟨_, rfl, rfl, (lb rfl), (mG (mT6 20 rfl) rfl)⟩
set_option maxRecDepth 10000 in
theorem ff_M_155 : ∃ q, cls[10]? = some q ∧ q.1 = "LieOfTwoModel" ∧ 66 < q.2.2 ∧ Cond.fieldLink "LieOfTwoModel" 155 q.1 (q.2.1 66).2.1 (q.2.1 66).2.2.1 ∈ tbG := ⟨_, rfl, rfl, (lb rfl), (mG (mT6 21 rfl) rfl)⟩
set_option maxRecDepth 10000 in
theorem ff_M_158 : ∃ q, cls[10]? = some q ∧ q.1 = "LieOfTwoModel" ∧ 67 < q.2.2 ∧ Cond.fieldLink "LieOfTwoModel" 158 q.1 (q.2.1 67).2.1 (q.2.1 67).2.2.1 ∈ tbG := ⟨_, rfl, rfl, (lb rfl), (mG (mT6 22 rfl) rfl)⟩
set_option maxRecDepth 10000 in
theorem ff_M_161 : ∃ q, cls[10]? = some q ∧ q.1 = "LieOfTwoModel" ∧ 68 < q.2.2 ∧ Cond.fieldLink "LieOfTwoModel" 161 q.1 (q.2.1 68).2.1 (q.2.1 68).2.2.1 ∈ tbG := ⟨_, rfl, rfl, (lb rfl), (mG (mT6 23 rfl) rfl)⟩
set_option maxRecDepth 10000 in
theorem ff_M_164 : ∃ q, cls[10]? = some q ∧ q.1 = "LieOfTwoModel" ∧ 69 < q.2.2 ∧ Cond.fieldLink "LieOfTwoModel" 164 q.1 (q.2.1 69).2.1 (q.2.1 69).2.2.1 ∈ tbG := ⟨_, rfl, rfl, (lb rfl), (mG (mT6 24 rfl) rfl)⟩
set_option maxRecDepth 10000 in
theorem ff_M_167 : ∃ q, cls[10]? = some q ∧ q.1 = "LieOfTwoModel" ∧ 71 < q.2.2 ∧ Cond.fieldLink "LieOfTwoModel" 167 q.1 (q.2.1 71).2.1 (q.2.1 71).2.2.1 ∈ tbG := ⟨_, rfl, rfl, (lb rfl), (mG (mT6 26 rfl) rfl)⟩
set_option maxRecDepth 10000 in
theorem ff_M_170 : ∃ q, cls[10]? = some q ∧ q.1 = "LieOfTwoModel" ∧ 72 < q.2.2 ∧ Cond.fieldLink "LieOfTwoModel" 170 q.1 (q.2.1 72).2.1 (q.2.1 72).2.2.1 ∈ tbG := ⟨_, rfl, rfl, (lb rfl), (mG (mT6 27 rfl) rfl)⟩
set_option maxRecDepth 10000 in
theorem ff_M_173 : ∃ q, cls[10]? = some q ∧ q.1 = "LieOfTwoModel" ∧ 73 < q.2.2 ∧ Cond.fieldLink "LieOfTwoModel" 173 q.1 (q.2.1 73).2.1 (q.2.1 73).2.2.1 ∈ tbG := ⟨_, rfl, rfl, (lb rfl), (mG (mT6 28 rfl) rfl)⟩
set_option maxRecDepth 10000 in
theorem ff_M_176 : ∃ q, cls[10]? = some q ∧ q.1 = "LieOfTwoModel" ∧ 74 < q.2.2 ∧ Cond.fieldLink "LieOfTwoModel" 176 q.1 (q.2.1 74).2.1 (q.2.1 74).2.2.1 ∈ tbG := ⟨_, rfl, rfl, (lb rfl), (mG (mT6 29 rfl) rfl)⟩
set_option maxRecDepth 10000 in
theorem ff_M_179 : ∃ q, cls[10]? = some q ∧ q.1 = "LieOfTwoModel" ∧ 75 < q.2.2 ∧ Cond.fieldLink "LieOfTwoModel" 179 q.1 (q.2.1 75).2.1 (q.2.1 75).2.2.1 ∈ tbG := ⟨_, rfl, rfl, (lb rfl), (mG (mT6 30 rfl) rfl)⟩
set_option maxRecDepth 10000 in
theorem ff_M_182 : ∃ q, cls[10]? = some q ∧ q.1 = "LieOfTwoModel" ∧ 76 < q.2.2 ∧ Cond.fieldLink "LieOfTwoModel" 182 q.1 (q.2.1 76).2.1 (q.2.1 76).2.2.1 ∈ tbG := ⟨_, rfl, rfl, (lb rfl), (mG (mT6 31 rfl) rfl)⟩
set_option maxRecDepth 10000 in
theorem ff_M_185 : ∃ q, cls[10]? = some q ∧ q.1 = "LieOfTwoModel" ∧ 77 < q.2.2 ∧ Cond.fieldLink "LieOfTwoModel" 185 q.1 (q.2.1 77).2.1 (q.2.1 77).2.2.1 ∈ tbG := ⟨_, rfl, rfl, (lb rfl), (mG (mT6 32 rfl) rfl)⟩
set_option maxRecDepth 10000 in
theorem hE_m_81_138_1_80 : ∀ c, 81 ≤ c → c ≤ 138 → eI [(81, 138), (1, 80)] c = true := fun c h1 h2 => eI_in (a := 81) (b := 138) (by decide) h1 h2
set_option maxRecDepth 10000 in
theorem hE_c_81_138_1_80 : ∀ c, 1 ≤ c → c ≤ 80 → eI [(81, 138), (1, 80)] c = true := fun c h1 h2 => eI_in (a := 1) (b := 80) (by decide) h1 h2
