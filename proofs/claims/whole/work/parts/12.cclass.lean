set_option maxRecDepth 20000 in
theorem ct_T_clear {E : Nat → Bool} {n : Nat} (hE : ∀ c, 1 ≤ c → c ≤ 80 → E c = true) (hn : 80 ≤ n) {t : Nat} (ht : isT t) {M : Mem} {K : Mem → Prop} (hz : Z (T_clear t M) K) : Mt y_T_clear (0, 0, n, n, E) E [vR t] M (qV K) := by
  refine Mt.of (by decide) (lb rfl) (Nat.le_refl _) rfl ?_
  rw [T_clear] at hz
  have hnt := qTn ht hn
  have hEt := qTE ht hE
  show Rr y_T_clear (0, 0, n, n, E) (qV K) 0 [(0, vR t)] [] E n M
  refine R_aload_n (pc := 0) 0 (dc k_T_clear 0 rfl) rfl rfl ?_
  refine R_iconst (pc := 1) (a := 0) (dc k_T_clear 1 rfl) ?_
  obtain ⟨M_1, hM_1, hz⟩ := Z_lt hz
  refine R_putIE (pc := 2) (ci := 1) (k := 0) (dc k_T_clear 2 rfl) fl_T_49 (lT ht) (qT1 ht) (qTn_0 hnt) (rT_0 ht) rfl rfl hM_1 ?_
  refine R_aload_n (pc := 5) 0 (dc k_T_clear 3 rfl) rfl rfl ?_
  refine R_iconst (pc := 6) (a := 0) (dc k_T_clear 4 rfl) ?_
  obtain ⟨M_2, hM_2, hz⟩ := Z_lt hz
  refine R_putIE (pc := 7) (ci := 1) (k := 1) (dc k_T_clear 5 rfl) fl_T_53 (lT ht) (qT1 ht) (qTn_0 hnt) (rT_1 ht) rfl rfl hM_2 ?_
  refine R_aload_n (pc := 10) 0 (dc k_T_clear 6 rfl) rfl rfl ?_
  refine R_iconst (pc := 11) (a := 0) (dc k_T_clear 7 rfl) ?_
  obtain ⟨M_3, hM_3, hz⟩ := Z_lt hz
  refine R_putIE (pc := 12) (ci := 1) (k := 2) (dc k_T_clear 8 rfl) fl_T_56 (lT ht) (qT1 ht) (qTn_0 hnt) (rT_2 ht) rfl rfl hM_3 ?_
  refine R_aload_n (pc := 15) 0 (dc k_T_clear 9 rfl) rfl rfl ?_
  refine R_iconst (pc := 16) (a := 0) (dc k_T_clear 10 rfl) ?_
  obtain ⟨M_4, hM_4, hz⟩ := Z_lt hz
  refine R_putIE (pc := 17) (ci := 1) (k := 3) (dc k_T_clear 11 rfl) fl_T_59 (lT ht) (qT1 ht) (qTn_0 hnt) (rT_3 ht) rfl rfl hM_4 ?_
  refine R_aload_n (pc := 20) 0 (dc k_T_clear 12 rfl) rfl rfl ?_
  refine R_iconst (pc := 21) (a := 0) (dc k_T_clear 13 rfl) ?_
  obtain ⟨M_5, hM_5, hz⟩ := Z_lt hz
  refine R_putIE (pc := 22) (ci := 1) (k := 4) (dc k_T_clear 14 rfl) fl_T_62 (lT ht) (qT1 ht) (qTn_0 hnt) (rT_4 ht) rfl rfl hM_5 ?_
  refine R_aload_n (pc := 25) 0 (dc k_T_clear 15 rfl) rfl rfl ?_
  refine R_iconst (pc := 26) (a := 0) (dc k_T_clear 16 rfl) ?_
  obtain ⟨M_6, hM_6, hz⟩ := Z_lt hz
  refine R_putIE (pc := 27) (ci := 1) (k := 5) (dc k_T_clear 17 rfl) fl_T_65 (lT ht) (qT1 ht) (qTn_0 hnt) (rT_5 ht) rfl rfl hM_6 ?_
  refine R_iconst (pc := 30) (a := 0) (dc k_T_clear 18 rfl) ?_
  refine R_istore_n (pc := 31) (L' := [(1, vI 0), (0, vR t)]) (dc k_T_clear 19 rfl) rfl (lb rfl) rfl ?_
  obtain ⟨K_9, hK_10, hz⟩ := Z_cut hz
  have hX_11 : ∀ (M_15 : Mem), K_9 M_15 → Rr y_T_clear (0, 0, n, n, E) (qV K) 51 [(0, vR t)] [] E n M_15 := by
    intro M_15 hk
    have hz := hK_10 _ hk
    refine R_iconst (pc := 51) (a := 0) (dc k_T_clear 30 rfl) ?_
    refine R_istore_n (pc := 52) (L' := [(1, vI 0), (0, vR t)]) (dc k_T_clear 31 rfl) rfl (lb rfl) rfl ?_
    obtain ⟨K_23, hK_24, hz⟩ := Z_cut hz
    have hX_25 : ∀ (M_29 : Mem), K_23 M_29 → Rr y_T_clear (0, 0, n, n, E) (qV K) 72 [] [] E n M_29 := by
      intro M_29 hk
      have hz := hK_24 _ hk
      exact R_vret (pc := 72) (dc k_T_clear 42 rfl) rfl rfl rfl ⟨rfl, (Z_some hz)⟩
    refine R_sub [1, 0] rfl ?_
    refine it_R (C := fun aZ : Int × Mem => Rr y_T_clear (0, 0, n, n, E) (qV K) 53 [(0, vR t), (1, vI aZ.1)] [] E n aZ.2) (fun aZ K_26 hC_27 hB_28 hz => ?_) FUEL (0, M_15) hz
    obtain ⟨l1_21, M_22⟩ := aZ
    rw [T_clear_b53] at hz
    show Rr y_T_clear (0, 0, n, n, E) (qV K) 53 [(0, vR t), (1, vI l1_21)] [] E n M_22
    refine R_iload_n (pc := 53) 1 (dc k_T_clear 32 rfl) rfl rfl ?_
    refine R_bipush (pc := 54) (a := 96) (dc k_T_clear 33 rfl) (by decide) ?_
    refine R_icmp_ge (pc := 56) 72 (dc k_T_clear 34 rfl) rfl (fun hc => ?_) (fun hc => ?_)
    · have hz := Z_neg (show ¬ (n32 l1_21 < 96) from (Int.not_lt.mpr hc)) hz
      refine R_sub [] rfl ?_
      exact hX_25 _ (hB_28 _ (Z_some hz))
    · have hz := Z_pos (show n32 l1_21 < 96 from (Int.not_le.mp hc)) hz
      refine R_aload_n (pc := 59) 0 (dc k_T_clear 35 rfl) rfl rfl ?_
      refine R_getS (pc := 60) (ci := 1) (k := 14) (t + 7) (dc k_T_clear 36 rfl) fl_T_30 (lT ht) (qT1 ht) (qTn_0 hnt) hEt (rT_14 ht) (Nat.succ_ne_zero _) rfl ?_
      refine R_iload_n (pc := 63) 1 (dc k_T_clear 37 rfl) rfl rfl ?_
      refine R_iconst (pc := 64) (a := (-1)) (dc k_T_clear 38 rfl) ?_
      obtain ⟨⟨hg_30, hg_31⟩, hz⟩ := Z_chk hz
      obtain ⟨M_32, hM_32, hz⟩ := Z_lt hz
      refine R_iastE (pc := 65) (dc k_T_clear 39 rfl) (lT_7 ht) (Nat.le_add_left_of_le (lb rfl)) (qTn_k hnt (lb rfl)) hg_30 hg_31 hM_32 ?_
      obtain ⟨l1_33, hl1_33, hz⟩ := Z_lt hz
      refine R_iincE (pc := 66) (L' := [(1, vI l1_33), (0, vR t)]) 1 (dc k_T_clear 40 rfl) rfl (lb rfl) hl1_33 rfl ?_
      refine R_goto (pc := 69) 53 (dc k_T_clear 41 rfl) rfl ?_
      refine R_sub [1, 0] rfl ?_
      exact hC_27 _ (Z_some hz)
  refine R_sub [1, 0] rfl ?_
  refine it_R (C := fun aZ : Int × Mem => Rr y_T_clear (0, 0, n, n, E) (qV K) 32 [(0, vR t), (1, vI aZ.1)] [] E n aZ.2) (fun aZ K_12 hC_13 hB_14 hz => ?_) FUEL (0, M_6) hz
  obtain ⟨l1_7, M_8⟩ := aZ
  rw [T_clear_b32] at hz
  show Rr y_T_clear (0, 0, n, n, E) (qV K) 32 [(0, vR t), (1, vI l1_7)] [] E n M_8
  refine R_iload_n (pc := 32) 1 (dc k_T_clear 20 rfl) rfl rfl ?_
  refine R_bipush (pc := 33) (a := 8) (dc k_T_clear 21 rfl) (by decide) ?_
  refine R_icmp_ge (pc := 35) 51 (dc k_T_clear 22 rfl) rfl (fun hc => ?_) (fun hc => ?_)
  · have hz := Z_neg (show ¬ (n32 l1_7 < 8) from (Int.not_lt.mpr hc)) hz
    refine R_sub [0] rfl ?_
    exact hX_11 _ (hB_14 _ (Z_some hz))
  · have hz := Z_pos (show n32 l1_7 < 8 from (Int.not_le.mp hc)) hz
    refine R_aload_n (pc := 38) 0 (dc k_T_clear 23 rfl) rfl rfl ?_
    refine R_getS (pc := 39) (ci := 1) (k := 10) (t + 3) (dc k_T_clear 24 rfl) fl_T_18 (lT ht) (qT1 ht) (qTn_0 hnt) hEt (rT_10 ht) (Nat.succ_ne_zero _) rfl ?_
    refine R_iload_n (pc := 42) 1 (dc k_T_clear 25 rfl) rfl rfl ?_
    refine R_iconst (pc := 43) (a := 0) (dc k_T_clear 26 rfl) ?_
    obtain ⟨⟨hg_16, hg_17⟩, hz⟩ := Z_chk hz
    obtain ⟨M_18, hM_18, hz⟩ := Z_lt hz
    refine R_iastE (pc := 44) (dc k_T_clear 27 rfl) (lT_3 ht) (Nat.le_add_left_of_le (lb rfl)) (qTn_k hnt (lb rfl)) hg_16 hg_17 hM_18 ?_
    obtain ⟨l1_19, hl1_19, hz⟩ := Z_lt hz
    refine R_iincE (pc := 45) (L' := [(1, vI l1_19), (0, vR t)]) 1 (dc k_T_clear 28 rfl) rfl (lb rfl) hl1_19 rfl ?_
    refine R_goto (pc := 48) 32 (dc k_T_clear 29 rfl) rfl ?_
    refine R_sub [1, 0] rfl ?_
    exact hC_13 _ (Z_some hz)

set_option maxRecDepth 20000 in
theorem ct_K_spell {E : Nat → Bool} {n : Nat} (hE : ∀ c, 1 ≤ c → c ≤ 80 → E c = true) (hn : 80 ≤ n) {ahead : Int} {letter : Int} {M : Mem} {K : Int → Prop} (hz : Z (K_spell ahead letter M) K) : Mt y_K_spell (0, 0, n, n, E) E [vJ ahead, vI letter] M (qJ M K) := by
  refine Mt.of (by decide) (lb rfl) (Nat.le_refl _) rfl ?_
  rw [K_spell] at hz
  show Rr y_K_spell (0, 0, n, n, E) (qJ M K) 0 [(0, vJ ahead), (2, vI letter)] [] E n M
  refine R_lload_n (pc := 0) 0 (dc k_K_spell 0 rfl) rfl rfl ?_
  refine R_ldc2 (pc := 1) (a := 32) (dc k_K_spell 1 rfl) c_K_39 ?_
  refine R_lmul (pc := 4) (dc k_K_spell 2 rfl) ?_
  refine R_iload_n (pc := 5) 1 (dc k_K_spell 3 rfl) rfl rfl ?_
  refine R_bipush (pc := 6) (a := 97) (dc k_K_spell 4 rfl) (by decide) ?_
  refine R_isub (pc := 8) (dc k_K_spell 5 rfl) ?_
  refine R_iconst (pc := 9) (a := 1) (dc k_K_spell 6 rfl) ?_
  refine R_iadd (pc := 10) (dc k_K_spell 7 rfl) ?_
  refine R_i2l (pc := 11) (dc k_K_spell 8 rfl) ?_
  refine R_ladd (pc := 12) (dc k_K_spell 9 rfl) ?_
  exact R_lret (pc := 13) (dc k_K_spell 10 rfl) rfl rfl rfl ⟨_, rfl, rfl, (Z_some hz)⟩

set_option maxRecDepth 20000 in
theorem ct_K_isBlank {E : Nat → Bool} {n : Nat} (hE : ∀ c, 1 ≤ c → c ≤ 80 → E c = true) (hn : 80 ≤ n) {sign : Int} {M : Mem} {K : Int → Prop} (hz : Z (K_isBlank sign M) K) : Mt y_K_isBlank (0, 0, n, n, E) E [vI sign] M (qP M K) := by
  refine Mt.of (by decide) (lb rfl) (Nat.le_refl _) rfl ?_
  rw [K_isBlank] at hz
  show Rr y_K_isBlank (0, 0, n, n, E) (qP M K) 0 [(0, vI sign)] [] E n M
  refine R_iload_n (pc := 0) 0 (dc k_K_isBlank 0 rfl) rfl rfl ?_
  refine R_bipush (pc := 1) (a := 32) (dc k_K_isBlank 1 rfl) (by decide) ?_
  have hX_1 : ((n32 sign = 32) ∨ (n32 sign = 10)) → Rr y_K_isBlank (0, 0, n, n, E) (qP M K) 12 [(0, vI sign)] [] E n M := by
    intro hc
    have hz := Z_pos hc hz
    refine R_iconst (pc := 12) (a := 1) (dc k_K_isBlank 6 rfl) ?_
    refine R_goto (pc := 13) 17 (dc k_K_isBlank 7 rfl) rfl ?_
    exact R_zret (pc := 17) (dc k_K_isBlank 9 rfl) rfl (Or.inr rfl) rfl rfl ⟨_, rfl, rfl, (Z_some hz)⟩
  have hY_2 : ¬ ((n32 sign = 32) ∨ (n32 sign = 10)) → Rr y_K_isBlank (0, 0, n, n, E) (qP M K) 16 [(0, vI sign)] [] E n M := by
    intro hc
    have hz := Z_neg hc hz
    refine R_iconst (pc := 16) (a := 0) (dc k_K_isBlank 8 rfl) ?_
    exact R_zret (pc := 17) (dc k_K_isBlank 9 rfl) rfl (Or.inl rfl) rfl rfl ⟨_, rfl, rfl, (Z_some hz)⟩
  refine R_icmp_eq (pc := 3) 12 (dc k_K_isBlank 2 rfl) rfl (fun hc => ?_) (fun hc => ?_)
  · have hc_3 : n32 sign = 32 := hc
    exact hX_1 (Or.inl hc_3)
  · have hc_4 : ¬ n32 sign = 32 := hc
    refine R_iload_n (pc := 6) 0 (dc k_K_isBlank 3 rfl) rfl rfl ?_
    refine R_bipush (pc := 7) (a := 10) (dc k_K_isBlank 4 rfl) (by decide) ?_
    refine R_icmp_ne (pc := 9) 16 (dc k_K_isBlank 5 rfl) rfl (fun hc => ?_) (fun hc => ?_)
    · have hc_5 : ¬ n32 sign = 10 := hc
      exact hY_2 (fun z => z.elim hc_4 hc_5)
    · have hc_6 : n32 sign = 10 := (Decidable.not_not.mp hc)
      exact hX_1 (Or.inr hc_6)

set_option maxRecDepth 20000 in
theorem ct_K_isLetter {E : Nat → Bool} {n : Nat} (hE : ∀ c, 1 ≤ c → c ≤ 80 → E c = true) (hn : 80 ≤ n) {sign : Int} {M : Mem} {K : Int → Prop} (hz : Z (K_isLetter sign M) K) : Mt y_K_isLetter (0, 0, n, n, E) E [vI sign] M (qP M K) := by
  refine Mt.of (by decide) (lb rfl) (Nat.le_refl _) rfl ?_
  rw [K_isLetter] at hz
  show Rr y_K_isLetter (0, 0, n, n, E) (qP M K) 0 [(0, vI sign)] [] E n M
  refine R_iload_n (pc := 0) 0 (dc k_K_isLetter 0 rfl) rfl rfl ?_
  refine R_bipush (pc := 1) (a := 97) (dc k_K_isLetter 1 rfl) (by decide) ?_
  have hX_1 : ((97 ≤ n32 sign) ∧ (n32 sign ≤ 122)) → Rr y_K_isLetter (0, 0, n, n, E) (qP M K) 12 [(0, vI sign)] [] E n M := by
    intro hc
    have hz := Z_pos hc hz
    refine R_iconst (pc := 12) (a := 1) (dc k_K_isLetter 6 rfl) ?_
    refine R_goto (pc := 13) 17 (dc k_K_isLetter 7 rfl) rfl ?_
    exact R_zret (pc := 17) (dc k_K_isLetter 9 rfl) rfl (Or.inr rfl) rfl rfl ⟨_, rfl, rfl, (Z_some hz)⟩
  have hY_2 : ¬ ((97 ≤ n32 sign) ∧ (n32 sign ≤ 122)) → Rr y_K_isLetter (0, 0, n, n, E) (qP M K) 16 [(0, vI sign)] [] E n M := by
    intro hc
    have hz := Z_neg hc hz
    refine R_iconst (pc := 16) (a := 0) (dc k_K_isLetter 8 rfl) ?_
    exact R_zret (pc := 17) (dc k_K_isLetter 9 rfl) rfl (Or.inl rfl) rfl rfl ⟨_, rfl, rfl, (Z_some hz)⟩
  refine R_icmp_lt (pc := 3) 16 (dc k_K_isLetter 2 rfl) rfl (fun hc => ?_) (fun hc => ?_)
  · have hc_3 : n32 sign < 97 := hc
    exact hY_2 (fun z => (Int.not_le.mpr hc_3) z.1)
  · have hc_4 : 97 ≤ n32 sign := (Int.not_lt.mp hc)
    refine R_iload_n (pc := 6) 0 (dc k_K_isLetter 3 rfl) rfl rfl ?_
    refine R_bipush (pc := 7) (a := 122) (dc k_K_isLetter 4 rfl) (by decide) ?_
    refine R_icmp_gt (pc := 9) 16 (dc k_K_isLetter 5 rfl) rfl (fun hc => ?_) (fun hc => ?_)
    · have hc_5 : 122 < n32 sign := hc
      exact hY_2 (fun z => (Int.not_le.mpr hc_5) z.2)
    · have hc_6 : n32 sign ≤ 122 := (Int.not_lt.mp hc)
      exact hX_1 ⟨hc_4, hc_6⟩

set_option maxRecDepth 20000 in
theorem ct_K_fail {E : Nat → Bool} {n : Nat} (hE : ∀ c, 1 ≤ c → c ≤ 80 → E c = true) (hn : 80 ≤ n) {what : Int} {M : Mem} {K : Mem → Prop} (hz : Z (K_fail what M) K) : Mt y_K_fail (0, 0, n, n, E) E [vR 40, vI what] M (qV K) := by
  refine Mt.of (by decide) (lb rfl) (Nat.le_refl _) rfl ?_
  rw [K_fail] at hz
  show Rr y_K_fail (0, 0, n, n, E) (qV K) 0 [(0, vR 40), (1, vI what)] [] E n M
  refine R_aload_n (pc := 0) 0 (dc k_K_fail 0 rfl) rfl rfl ?_
  refine R_getI (pc := 1) (ci := 2) (k := 4) (dc k_K_fail 1 rfl) fl_K_49 rfl (lb rfl) (Nat.le_trans (lb rfl) hn) rfl (Or.inl rfl) ?_
  refine R_bipush (pc := 4) (a := 24) (dc k_K_fail 2 rfl) (by decide) ?_
  refine R_icmp_eq (pc := 6) 28 (dc k_K_fail 3 rfl) rfl (fun hc => ?_) (fun hc => ?_)
  · have hz := Z_neg (show ¬ (¬ n32 (M 40 4) = 24) from (fun z => z hc)) hz
    exact R_vret (pc := 28) (dc k_K_fail 14 rfl) rfl rfl rfl ⟨rfl, (Z_some hz)⟩
  · have hz := Z_pos (show ¬ n32 (M 40 4) = 24 from hc) hz
    refine R_aload_n (pc := 9) 0 (dc k_K_fail 4 rfl) rfl rfl ?_
    refine R_bipush (pc := 10) (a := 24) (dc k_K_fail 5 rfl) (by decide) ?_
    obtain ⟨M_1, hM_1, hz⟩ := Z_lt hz
    refine R_putIE (pc := 12) (ci := 2) (k := 4) (dc k_K_fail 6 rfl) fl_K_49 rfl (lb rfl) (Nat.le_trans (lb rfl) hn) rfl rfl rfl hM_1 ?_
    refine R_aload_n (pc := 15) 0 (dc k_K_fail 7 rfl) rfl rfl ?_
    refine R_iload_n (pc := 16) 1 (dc k_K_fail 8 rfl) rfl rfl ?_
    obtain ⟨M_2, hM_2, hz⟩ := Z_lt hz
    refine R_putIE (pc := 17) (ci := 2) (k := 8) (dc k_K_fail 9 rfl) fl_K_46 rfl (lb rfl) (Nat.le_trans (lb rfl) hn) rfl rfl rfl hM_2 ?_
    refine R_aload_n (pc := 20) 0 (dc k_K_fail 10 rfl) rfl rfl ?_
    refine R_aload_n (pc := 21) 0 (dc k_K_fail 11 rfl) rfl rfl ?_
    refine R_getI (pc := 22) (ci := 2) (k := 5) (dc k_K_fail 12 rfl) fl_K_59 rfl (lb rfl) (Nat.le_trans (lb rfl) hn) rfl (Or.inl rfl) ?_
    obtain ⟨M_3, hM_3, hz⟩ := Z_lt hz
    refine R_putIE (pc := 25) (ci := 2) (k := 9) (dc k_K_fail 13 rfl) fl_K_15 rfl (lb rfl) (Nat.le_trans (lb rfl) hn) rfl rfl rfl hM_3 ?_
    exact R_vret (pc := 28) (dc k_K_fail 14 rfl) rfl rfl rfl ⟨rfl, (Z_some hz)⟩

set_option maxRecDepth 20000 in
theorem ct_K_readWord {E : Nat → Bool} {n : Nat} (hE : ∀ c, 1 ≤ c → c ≤ 80 → E c = true) (hn : 80 ≤ n) {M : Mem} {K : Mem → Prop} (hz : Z (K_readWord M) K) : Mt y_K_readWord (1, 22, n, n, E) E [vR 40] M (qV K) := by
  refine Mt.of (by decide) (lb rfl) (Nat.le_refl _) rfl ?_
  rw [K_readWord] at hz
  show Rr y_K_readWord (1, 22, n, n, E) (qV K) 0 [(0, vR 40)] [] E n M
  refine R_aload_n (pc := 0) 0 (dc k_K_readWord 0 rfl) rfl rfl ?_
  refine R_lconst (pc := 1) (a := 0) (dc k_K_readWord 1 rfl) (by decide) ?_
  obtain ⟨M_1, hM_1, hz⟩ := Z_lt hz
  refine R_putJE (pc := 2) (ci := 2) (k := 7) (dc k_K_readWord 2 rfl) fl_K_81 rfl (lb rfl) (Nat.le_trans (lb rfl) hn) rfl rfl rfl hM_1 ?_
  obtain ⟨K_3, hK_4, hz⟩ := Z_cut hz
  have hX_5 : ∀ (M_9 : Mem), K_3 M_9 → Rr y_K_readWord (1, 22, n, n, E) (qV K) 64 [(0, vR 40)] [] E n M_9 := by
    intro M_9 hk
    have hz := hK_4 _ hk
    refine R_aload_n (pc := 64) 0 (dc k_K_readWord 32 rfl) rfl rfl ?_
    refine R_getI (pc := 65) (ci := 2) (k := 3) (dc k_K_readWord 33 rfl) fl_K_43 rfl (lb rfl) (Nat.le_trans (lb rfl) hn) rfl (Or.inl rfl) ?_
    refine R_aload_n (pc := 68) 0 (dc k_K_readWord 34 rfl) rfl rfl ?_
    refine R_getI (pc := 69) (ci := 2) (k := 5) (dc k_K_readWord 35 rfl) fl_K_59 rfl (lb rfl) (Nat.le_trans (lb rfl) hn) rfl (Or.inl rfl) ?_
    refine R_isub (pc := 72) (dc k_K_readWord 36 rfl) ?_
    refine R_bipush (pc := 73) (a := 8) (dc k_K_readWord 37 rfl) (by decide) ?_
    refine R_icmp_le (pc := 75) 84 (dc k_K_readWord 38 rfl) rfl (fun hc => ?_) (fun hc => ?_)
    · have hz := Z_neg (show ¬ (8 < n32 ((M_9 40 3) - (M_9 40 5))) from (Int.not_lt.mpr hc)) hz
      refine R_aload_n (pc := 84) 0 (dc k_K_readWord 43 rfl) rfl rfl ?_
      refine R_bipush (pc := 85) (a := 21) (dc k_K_readWord 44 rfl) (by decide) ?_
      obtain ⟨M_24, hM_24, hz⟩ := Z_lt hz
      refine R_putIE (pc := 87) (ci := 2) (k := 4) (dc k_K_readWord 45 rfl) fl_K_49 rfl (lb rfl) (Nat.le_trans (lb rfl) hn) rfl rfl rfl hM_24 ?_
      refine R_iconst (pc := 90) (a := 0) (dc k_K_readWord 46 rfl) ?_
      refine R_istore_n (pc := 91) (L' := [(1, vI 0), (0, vR 40)]) (dc k_K_readWord 47 rfl) rfl (lb rfl) rfl ?_
      obtain ⟨K_27, hK_28, hz⟩ := Z_cut hz
      have hX_29 : ∀ (M_33 : Mem), K_27 M_33 → Rr y_K_readWord (1, 22, n, n, E) (qV K) 125 [] [] E n M_33 := by
        intro M_33 hk
        have hz := hK_28 _ hk
        exact R_vret (pc := 125) (dc k_K_readWord 66 rfl) rfl rfl rfl ⟨rfl, (Z_some hz)⟩
      refine R_sub [1, 0] rfl ?_
      refine it_R (C := fun aZ : Int × Mem => Rr y_K_readWord (1, 22, n, n, E) (qV K) 92 [(0, vR 40), (1, vI aZ.1)] [] E n aZ.2) (fun aZ K_30 hC_31 hB_32 hz => ?_) FUEL (0, M_24) hz
      obtain ⟨l1_25, M_26⟩ := aZ
      rw [K_readWord_b92] at hz
      show Rr y_K_readWord (1, 22, n, n, E) (qV K) 92 [(0, vR 40), (1, vI l1_25)] [] E n M_26
      refine R_iload_n (pc := 92) 1 (dc k_K_readWord 48 rfl) rfl rfl ?_
      refine R_bipush (pc := 93) (a := 20) (dc k_K_readWord 49 rfl) (by decide) ?_
      refine R_icmp_ge (pc := 95) 125 (dc k_K_readWord 50 rfl) rfl (fun hc => ?_) (fun hc => ?_)
      · have hz := Z_neg (show ¬ (n32 l1_25 < 20) from (Int.not_lt.mpr hc)) hz
        refine R_sub [] rfl ?_
        exact hX_29 _ (hB_32 _ (Z_some hz))
      · have hz := Z_pos (show n32 l1_25 < 20 from (Int.not_le.mp hc)) hz
        refine R_aload_n (pc := 98) 0 (dc k_K_readWord 51 rfl) rfl rfl ?_
        refine R_getS (pc := 99) (ci := 2) (k := 0) 41 (dc k_K_readWord 52 rfl) fl_K_9 rfl (lb rfl) (Nat.le_trans (lb rfl) hn) (hE 40 (lb rfl) (lb rfl)) rfl (by decide) rfl ?_
        refine R_iload_n (pc := 102) 1 (dc k_K_readWord 53 rfl) rfl rfl ?_
        obtain ⟨⟨hg_34, hg_35⟩, hz⟩ := Z_chk hz
        refine R_lald (pc := 103) (dc k_K_readWord 54 rfl) rfl (lb rfl) (Nat.le_trans (lb rfl) hn) hg_34 hg_35 ?_
        refine R_aload_n (pc := 104) 0 (dc k_K_readWord 55 rfl) rfl rfl ?_
        refine R_getJ (pc := 105) (ci := 2) (k := 7) (dc k_K_readWord 56 rfl) fl_K_81 rfl (lb rfl) (Nat.le_trans (lb rfl) hn) rfl rfl ?_
        refine R_lcmp (pc := 108) (dc k_K_readWord 57 rfl) ?_
        obtain ⟨K_37, hK_38, hz⟩ := Z_cut hz
        have hJ_39 : ∀ (M_36 : Mem), K_37 M_36 → Rr y_K_readWord (1, 22, n, n, E) (qV K) 119 [(0, vR 40), (1, vI l1_25)] [] E n M_36 := by
          intro M_36 hk
          have hz := hK_38 _ hk
          obtain ⟨l1_42, hl1_42, hz⟩ := Z_lt hz
          refine R_iincE (pc := 119) (L' := [(1, vI l1_42), (0, vR 40)]) 1 (dc k_K_readWord 64 rfl) rfl (lb rfl) hl1_42 rfl ?_
          refine R_goto (pc := 122) 92 (dc k_K_readWord 65 rfl) rfl ?_
          refine R_sub [1, 0] rfl ?_
          exact hC_31 _ (Z_some hz)
        refine R_if_ne (pc := 109) 119 (dc k_K_readWord 58 rfl) rfl (fun hc => ?_) (fun hc => ?_)
        · have hz := Z_neg (show ¬ (n64 (M_26 41 (Int.toNat l1_25)) = n64 (M_26 40 7)) from (fun z => hc (jcmp_eq.mpr z))) hz
          exact hJ_39 _ (Z_some hz)
        · have hz := Z_pos (show n64 (M_26 41 (Int.toNat l1_25)) = n64 (M_26 40 7) from (jcmp_eq.mp (Decidable.not_not.mp hc))) hz
          refine R_aload_n (pc := 112) 0 (dc k_K_readWord 59 rfl) rfl rfl ?_
          refine R_iload_n (pc := 113) 1 (dc k_K_readWord 60 rfl) rfl rfl ?_
          refine R_iconst (pc := 114) (a := 1) (dc k_K_readWord 61 rfl) ?_
          refine R_iadd (pc := 115) (dc k_K_readWord 62 rfl) ?_
          obtain ⟨M_40, hM_40, hz⟩ := Z_lt hz
          refine R_putIE (pc := 116) (ci := 2) (k := 4) (dc k_K_readWord 63 rfl) fl_K_49 rfl (lb rfl) (Nat.le_trans (lb rfl) hn) rfl rfl rfl hM_40 ?_
          exact hJ_39 _ (Z_some hz)
    · have hz := Z_pos (show 8 < n32 ((M_9 40 3) - (M_9 40 5)) from (Int.not_le.mp hc)) hz
      refine R_aload_n (pc := 78) 0 (dc k_K_readWord 39 rfl) rfl rfl ?_
      refine R_iconst (pc := 79) (a := 1) (dc k_K_readWord 40 rfl) ?_
      refine R_cVV (pc := 80)  (As := [vI 1]) (S := []) ck_K_77 (dc k_K_readWord 41 rfl) ⟨rfl, ⟨_, rfl, rfl⟩, (lb rfl), (Nat.le_trans (lb rfl) hn)⟩ (lb rfl) (lb rfl) (lb rfl) rfl (ct_K_fail hE hn (Z_bind hz)) (fun M_23 hz => ?_)
      exact R_vret (pc := 83) (dc k_K_readWord 42 rfl) rfl rfl rfl ⟨rfl, (Z_some hz)⟩
  refine it_R (C := fun aZ : Mem => Rr y_K_readWord (1, 22, n, n, E) (qV K) 5 [(0, vR 40)] [] E n aZ) (fun M_2 K_6 hC_7 hB_8 hz => ?_) FUEL M_1 hz
  rw [K_readWord_b5] at hz
  show Rr y_K_readWord (1, 22, n, n, E) (qV K) 5 [(0, vR 40)] [] E n M_2
  refine R_aload_n (pc := 5) 0 (dc k_K_readWord 3 rfl) rfl rfl ?_
  refine R_getI (pc := 6) (ci := 2) (k := 3) (dc k_K_readWord 4 rfl) fl_K_43 rfl (lb rfl) (Nat.le_trans (lb rfl) hn) rfl (Or.inl rfl) ?_
  refine R_aload_n (pc := 9) 0 (dc k_K_readWord 5 rfl) rfl rfl ?_
  refine R_getI (pc := 10) (ci := 2) (k := 2) (dc k_K_readWord 6 rfl) fl_K_41 rfl (lb rfl) (Nat.le_trans (lb rfl) hn) rfl (Or.inl rfl) ?_
  obtain ⟨K_10, hK_11, hz⟩ := Z_cut hz
  have hX_12 : K_10 true → Rr y_K_readWord (1, 22, n, n, E) (qV K) 31 [(0, vR 40)] [] E n M_2 := by
    intro hk
    have hz := Z_pos rfl (hK_11 _ hk)
    refine R_aload_n (pc := 31) 0 (dc k_K_readWord 15 rfl) rfl rfl ?_
    refine R_aload_n (pc := 32) 0 (dc k_K_readWord 16 rfl) rfl rfl ?_
    refine R_getJ (pc := 33) (ci := 2) (k := 7) (dc k_K_readWord 17 rfl) fl_K_81 rfl (lb rfl) (Nat.le_trans (lb rfl) hn) rfl rfl ?_
    refine R_aload_n (pc := 36) 0 (dc k_K_readWord 18 rfl) rfl rfl ?_
    refine R_getS (pc := 37) (ci := 2) (k := 1) 2 (dc k_K_readWord 19 rfl) fl_K_19 rfl (lb rfl) (Nat.le_trans (lb rfl) hn) (hE 40 (lb rfl) (lb rfl)) rfl (by decide) rfl ?_
    refine R_aload_n (pc := 40) 0 (dc k_K_readWord 20 rfl) rfl rfl ?_
    refine R_getI (pc := 41) (ci := 2) (k := 3) (dc k_K_readWord 21 rfl) fl_K_43 rfl (lb rfl) (Nat.le_trans (lb rfl) hn) rfl (Or.inl rfl) ?_
    obtain ⟨⟨hg_18, hg_19⟩, hz⟩ := Z_chk hz
    refine R_bald (pc := 44) (dc k_K_readWord 22 rfl) rfl (lb rfl) (Nat.le_trans (lb rfl) hn) hg_18 hg_19 ?_
    refine R_cSJ (pc := 45)  (As := [vJ (M_2 40 7), vI (M_2 2 (Int.toNat (M_2 40 3)))]) (S := [vR 40]) ck_K_35 (dc k_K_readWord 23 rfl) (lb rfl) (lb rfl) (lb rfl) rfl (ct_K_spell hE hn (Z_bind hz)) (fun r_20 hz => ?_)
    obtain ⟨M_21, hM_21, hz⟩ := Z_lt hz
    refine R_putJE (pc := 48) (ci := 2) (k := 7) (dc k_K_readWord 24 rfl) fl_K_81 rfl (lb rfl) (Nat.le_trans (lb rfl) hn) rfl rfl rfl hM_21 ?_
    refine R_aload_n (pc := 51) 0 (dc k_K_readWord 25 rfl) rfl rfl ?_
    refine R_dup (pc := 52) (dc k_K_readWord 26 rfl) rfl ?_
    refine R_getI (pc := 53) (ci := 2) (k := 3) (dc k_K_readWord 27 rfl) fl_K_43 rfl (lb rfl) (Nat.le_trans (lb rfl) hn) rfl (Or.inl rfl) ?_
    refine R_iconst (pc := 56) (a := 1) (dc k_K_readWord 28 rfl) ?_
    refine R_iadd (pc := 57) (dc k_K_readWord 29 rfl) ?_
    obtain ⟨M_22, hM_22, hz⟩ := Z_lt hz
    refine R_putIE (pc := 58) (ci := 2) (k := 3) (dc k_K_readWord 30 rfl) fl_K_43 rfl (lb rfl) (Nat.le_trans (lb rfl) hn) rfl rfl rfl hM_22 ?_
    refine R_goto (pc := 61) 5 (dc k_K_readWord 31 rfl) rfl ?_
    exact hC_7 _ (Z_some hz)
  have hY_13 : K_10 false → Rr y_K_readWord (1, 22, n, n, E) (qV K) 64 [(0, vR 40)] [] E n M_2 := by
    intro hk
    have hz := Z_neg Bool.false_ne_true (hK_11 _ hk)
    exact hX_5 _ (hB_8 _ (Z_some hz))
  refine R_icmp_ge (pc := 13) 64 (dc k_K_readWord 7 rfl) rfl (fun hc => ?_) (fun hc => ?_)
  · have hz := Z_neg (show ¬ (n32 (M_2 40 3) < n32 (M_2 40 2)) from (Int.not_lt.mpr hc)) hz
    exact hY_13 (Z_some hz)
  · have hz := Z_pos (show n32 (M_2 40 3) < n32 (M_2 40 2) from (Int.not_le.mp hc)) hz
    refine R_aload_n (pc := 16) 0 (dc k_K_readWord 8 rfl) rfl rfl ?_
    refine R_getS (pc := 17) (ci := 2) (k := 1) 2 (dc k_K_readWord 9 rfl) fl_K_19 rfl (lb rfl) (Nat.le_trans (lb rfl) hn) (hE 40 (lb rfl) (lb rfl)) rfl (by decide) rfl ?_
    refine R_aload_n (pc := 20) 0 (dc k_K_readWord 10 rfl) rfl rfl ?_
    refine R_getI (pc := 21) (ci := 2) (k := 3) (dc k_K_readWord 11 rfl) fl_K_43 rfl (lb rfl) (Nat.le_trans (lb rfl) hn) rfl (Or.inl rfl) ?_
    obtain ⟨⟨hg_15, hg_16⟩, hz⟩ := Z_chk hz
    refine R_bald (pc := 24) (dc k_K_readWord 12 rfl) rfl (lb rfl) (Nat.le_trans (lb rfl) hn) hg_15 hg_16 ?_
    refine R_cSP (pc := 25)  (As := [vI (M_2 2 (Int.toNat (M_2 40 3)))]) (S := []) ck_K_62 (dc k_K_readWord 13 rfl) (lb rfl) (lb rfl) (lb rfl) rfl (ct_K_isLetter hE hn (Z_bind hz)) (fun r_17 hz => ?_)
    refine R_if_eq (pc := 28) 64 (dc k_K_readWord 14 rfl) rfl (fun hc => ?_) (fun hc => ?_)
    · have hz := Z_neg (show ¬ (¬ n32 r_17 = 0) from (fun z => z hc)) hz
      exact hY_13 (Z_some hz)
    · have hz := Z_pos (show ¬ n32 r_17 = 0 from hc) hz
      exact hX_12 (Z_some hz)

set_option maxRecDepth 20000 in
theorem ct_K_isDigit {E : Nat → Bool} {n : Nat} (hE : ∀ c, 1 ≤ c → c ≤ 80 → E c = true) (hn : 80 ≤ n) {sign : Int} {M : Mem} {K : Int → Prop} (hz : Z (K_isDigit sign M) K) : Mt y_K_isDigit (0, 0, n, n, E) E [vI sign] M (qP M K) := by
  refine Mt.of (by decide) (lb rfl) (Nat.le_refl _) rfl ?_
  rw [K_isDigit] at hz
  show Rr y_K_isDigit (0, 0, n, n, E) (qP M K) 0 [(0, vI sign)] [] E n M
  refine R_iload_n (pc := 0) 0 (dc k_K_isDigit 0 rfl) rfl rfl ?_
  refine R_bipush (pc := 1) (a := 48) (dc k_K_isDigit 1 rfl) (by decide) ?_
  have hX_1 : ((48 ≤ n32 sign) ∧ (n32 sign ≤ 57)) → Rr y_K_isDigit (0, 0, n, n, E) (qP M K) 12 [(0, vI sign)] [] E n M := by
    intro hc
    have hz := Z_pos hc hz
    refine R_iconst (pc := 12) (a := 1) (dc k_K_isDigit 6 rfl) ?_
    refine R_goto (pc := 13) 17 (dc k_K_isDigit 7 rfl) rfl ?_
    exact R_zret (pc := 17) (dc k_K_isDigit 9 rfl) rfl (Or.inr rfl) rfl rfl ⟨_, rfl, rfl, (Z_some hz)⟩
  have hY_2 : ¬ ((48 ≤ n32 sign) ∧ (n32 sign ≤ 57)) → Rr y_K_isDigit (0, 0, n, n, E) (qP M K) 16 [(0, vI sign)] [] E n M := by
    intro hc
    have hz := Z_neg hc hz
    refine R_iconst (pc := 16) (a := 0) (dc k_K_isDigit 8 rfl) ?_
    exact R_zret (pc := 17) (dc k_K_isDigit 9 rfl) rfl (Or.inl rfl) rfl rfl ⟨_, rfl, rfl, (Z_some hz)⟩
  refine R_icmp_lt (pc := 3) 16 (dc k_K_isDigit 2 rfl) rfl (fun hc => ?_) (fun hc => ?_)
  · have hc_3 : n32 sign < 48 := hc
    exact hY_2 (fun z => (Int.not_le.mpr hc_3) z.1)
  · have hc_4 : 48 ≤ n32 sign := (Int.not_lt.mp hc)
    refine R_iload_n (pc := 6) 0 (dc k_K_isDigit 3 rfl) rfl rfl ?_
    refine R_bipush (pc := 7) (a := 57) (dc k_K_isDigit 4 rfl) (by decide) ?_
    refine R_icmp_gt (pc := 9) 16 (dc k_K_isDigit 5 rfl) rfl (fun hc => ?_) (fun hc => ?_)
    · have hc_5 : 57 < n32 sign := hc
      exact hY_2 (fun z => (Int.not_le.mpr hc_5) z.2)
    · have hc_6 : n32 sign ≤ 57 := (Int.not_lt.mp hc)
      exact hX_1 ⟨hc_4, hc_6⟩

set_option maxRecDepth 20000 in
theorem ct_K_readNumber {E : Nat → Bool} {n : Nat} (hE : ∀ c, 1 ≤ c → c ≤ 80 → E c = true) (hn : 80 ≤ n) {M : Mem} {K : Mem → Prop} (hz : Z (K_readNumber M) K) : Mt y_K_readNumber (1, 21, n, n, E) E [vR 40] M (qV K) := by
  refine Mt.of (by decide) (lb rfl) (Nat.le_refl _) rfl ?_
  rw [K_readNumber] at hz
  show Rr y_K_readNumber (1, 21, n, n, E) (qV K) 0 [(0, vR 40)] [] E n M
  refine R_aload_n (pc := 0) 0 (dc k_K_readNumber 0 rfl) rfl rfl ?_
  refine R_iconst (pc := 1) (a := 0) (dc k_K_readNumber 1 rfl) ?_
  obtain ⟨M_1, hM_1, hz⟩ := Z_lt hz
  refine R_putIE (pc := 2) (ci := 2) (k := 6) (dc k_K_readNumber 2 rfl) fl_K_85 rfl (lb rfl) (Nat.le_trans (lb rfl) hn) rfl rfl rfl hM_1 ?_
  obtain ⟨K_3, hK_4, hz⟩ := Z_cut hz
  have hX_5 : ∀ (M_9 : Mem), K_3 M_9 → Rr y_K_readNumber (1, 21, n, n, E) (qV K) 68 [(0, vR 40)] [] E n M_9 := by
    intro M_9 hk
    have hz := hK_4 _ hk
    refine R_aload_n (pc := 68) 0 (dc k_K_readNumber 36 rfl) rfl rfl ?_
    refine R_getI (pc := 69) (ci := 2) (k := 3) (dc k_K_readNumber 37 rfl) fl_K_43 rfl (lb rfl) (Nat.le_trans (lb rfl) hn) rfl (Or.inl rfl) ?_
    refine R_aload_n (pc := 72) 0 (dc k_K_readNumber 38 rfl) rfl rfl ?_
    refine R_getI (pc := 73) (ci := 2) (k := 5) (dc k_K_readNumber 39 rfl) fl_K_59 rfl (lb rfl) (Nat.le_trans (lb rfl) hn) rfl (Or.inl rfl) ?_
    refine R_isub (pc := 76) (dc k_K_readNumber 40 rfl) ?_
    refine R_iconst (pc := 77) (a := 4) (dc k_K_readNumber 41 rfl) ?_
    obtain ⟨j_23, hj_24, hz⟩ := Z_jn hz
    have hJ_25 : ∀ (M_22 : Mem), Z (j_23 M_22) K → Rr y_K_readNumber (1, 21, n, n, E) (qV K) 107 [(0, vR 40)] [] E n M_22 := by
      intro M_22 hk
      have hz := hj_24 _ hk
      refine R_aload_n (pc := 107) 0 (dc k_K_readNumber 55 rfl) rfl rfl ?_
      refine R_iconst (pc := 108) (a := 1) (dc k_K_readNumber 56 rfl) ?_
      refine R_cVV (pc := 109)  (As := [vI 1]) (S := []) ck_K_77 (dc k_K_readNumber 57 rfl) ⟨rfl, ⟨_, rfl, rfl⟩, (lb rfl), (Nat.le_trans (lb rfl) hn)⟩ (lb rfl) (lb rfl) (lb rfl) rfl (ct_K_fail hE hn (Z_bind hz)) (fun M_36 hz => ?_)
      exact R_vret (pc := 112) (dc k_K_readNumber 58 rfl) rfl rfl rfl ⟨rfl, (Z_some hz)⟩
    refine R_icmp_gt (pc := 78) 107 (dc k_K_readNumber 42 rfl) rfl (fun hc => ?_) (fun hc => ?_)
    · have hz := Z_neg (show ¬ (n32 ((M_9 40 3) - (M_9 40 5)) ≤ 4) from (Int.not_le.mpr hc)) hz
      exact hJ_25 _ hz
    · have hz := Z_pos (show n32 ((M_9 40 3) - (M_9 40 5)) ≤ 4 from (Int.not_lt.mp hc)) hz
      refine R_aload_n (pc := 81) 0 (dc k_K_readNumber 43 rfl) rfl rfl ?_
      refine R_getI (pc := 82) (ci := 2) (k := 3) (dc k_K_readNumber 44 rfl) fl_K_43 rfl (lb rfl) (Nat.le_trans (lb rfl) hn) rfl (Or.inl rfl) ?_
      refine R_aload_n (pc := 85) 0 (dc k_K_readNumber 45 rfl) rfl rfl ?_
      refine R_getI (pc := 86) (ci := 2) (k := 2) (dc k_K_readNumber 46 rfl) fl_K_41 rfl (lb rfl) (Nat.le_trans (lb rfl) hn) rfl (Or.inl rfl) ?_
      obtain ⟨K_26, hK_27, hz⟩ := Z_cut hz
      have hX_28 : K_26 true → Rr y_K_readNumber (1, 21, n, n, E) (qV K) 107 [(0, vR 40)] [] E n M_9 := by
        intro hk
        have hz := Z_pos rfl (hK_27 _ hk)
        exact hJ_25 _ hz
      have hY_29 : K_26 false → Rr y_K_readNumber (1, 21, n, n, E) (qV K) 113 [(0, vR 40)] [] E n M_9 := by
        intro hk
        have hz := Z_neg Bool.false_ne_true (hK_27 _ hk)
        refine R_aload_n (pc := 113) 0 (dc k_K_readNumber 59 rfl) rfl rfl ?_
        refine R_bipush (pc := 114) (a := 22) (dc k_K_readNumber 60 rfl) (by decide) ?_
        obtain ⟨M_34, hM_34, hz⟩ := Z_lt hz
        refine R_putIE (pc := 116) (ci := 2) (k := 4) (dc k_K_readNumber 61 rfl) fl_K_49 rfl (lb rfl) (Nat.le_trans (lb rfl) hn) rfl rfl rfl hM_34 ?_
        exact R_vret (pc := 119) (dc k_K_readNumber 62 rfl) rfl rfl rfl ⟨rfl, (Z_some hz)⟩
      refine R_icmp_ge (pc := 89) 113 (dc k_K_readNumber 47 rfl) rfl (fun hc => ?_) (fun hc => ?_)
      · have hz := Z_neg (show ¬ (n32 (M_9 40 3) < n32 (M_9 40 2)) from (Int.not_lt.mpr hc)) hz
        exact hY_29 (Z_some hz)
      · have hz := Z_pos (show n32 (M_9 40 3) < n32 (M_9 40 2) from (Int.not_le.mp hc)) hz
        refine R_aload_n (pc := 92) 0 (dc k_K_readNumber 48 rfl) rfl rfl ?_
        refine R_getS (pc := 93) (ci := 2) (k := 1) 2 (dc k_K_readNumber 49 rfl) fl_K_19 rfl (lb rfl) (Nat.le_trans (lb rfl) hn) (hE 40 (lb rfl) (lb rfl)) rfl (by decide) rfl ?_
        refine R_aload_n (pc := 96) 0 (dc k_K_readNumber 50 rfl) rfl rfl ?_
        refine R_getI (pc := 97) (ci := 2) (k := 3) (dc k_K_readNumber 51 rfl) fl_K_43 rfl (lb rfl) (Nat.le_trans (lb rfl) hn) rfl (Or.inl rfl) ?_
        obtain ⟨⟨hg_31, hg_32⟩, hz⟩ := Z_chk hz
        refine R_bald (pc := 100) (dc k_K_readNumber 52 rfl) rfl (lb rfl) (Nat.le_trans (lb rfl) hn) hg_31 hg_32 ?_
        refine R_cSP (pc := 101)  (As := [vI (M_9 2 (Int.toNat (M_9 40 3)))]) (S := []) ck_K_62 (dc k_K_readNumber 53 rfl) (lb rfl) (lb rfl) (lb rfl) rfl (ct_K_isLetter hE hn (Z_bind hz)) (fun r_33 hz => ?_)
        refine R_if_eq (pc := 104) 113 (dc k_K_readNumber 54 rfl) rfl (fun hc => ?_) (fun hc => ?_)
        · have hz := Z_neg (show ¬ (¬ n32 r_33 = 0) from (fun z => z hc)) hz
          exact hY_29 (Z_some hz)
        · have hz := Z_pos (show ¬ n32 r_33 = 0 from hc) hz
          exact hX_28 (Z_some hz)
  refine it_R (C := fun aZ : Mem => Rr y_K_readNumber (1, 21, n, n, E) (qV K) 5 [(0, vR 40)] [] E n aZ) (fun M_2 K_6 hC_7 hB_8 hz => ?_) FUEL M_1 hz
  rw [K_readNumber_b5] at hz
  show Rr y_K_readNumber (1, 21, n, n, E) (qV K) 5 [(0, vR 40)] [] E n M_2
  refine R_aload_n (pc := 5) 0 (dc k_K_readNumber 3 rfl) rfl rfl ?_
  refine R_getI (pc := 6) (ci := 2) (k := 3) (dc k_K_readNumber 4 rfl) fl_K_43 rfl (lb rfl) (Nat.le_trans (lb rfl) hn) rfl (Or.inl rfl) ?_
  refine R_aload_n (pc := 9) 0 (dc k_K_readNumber 5 rfl) rfl rfl ?_
  refine R_getI (pc := 10) (ci := 2) (k := 2) (dc k_K_readNumber 6 rfl) fl_K_41 rfl (lb rfl) (Nat.le_trans (lb rfl) hn) rfl (Or.inl rfl) ?_
  obtain ⟨K_10, hK_11, hz⟩ := Z_cut hz
  have hX_12 : K_10 true → Rr y_K_readNumber (1, 21, n, n, E) (qV K) 31 [(0, vR 40)] [] E n M_2 := by
    intro hk
    have hz := Z_pos rfl (hK_11 _ hk)
    refine R_aload_n (pc := 31) 0 (dc k_K_readNumber 15 rfl) rfl rfl ?_
    refine R_aload_n (pc := 32) 0 (dc k_K_readNumber 16 rfl) rfl rfl ?_
    refine R_getI (pc := 33) (ci := 2) (k := 6) (dc k_K_readNumber 17 rfl) fl_K_85 rfl (lb rfl) (Nat.le_trans (lb rfl) hn) rfl (Or.inl rfl) ?_
    refine R_bipush (pc := 36) (a := 10) (dc k_K_readNumber 18 rfl) (by decide) ?_
    refine R_imul (pc := 38) (dc k_K_readNumber 19 rfl) ?_
    refine R_aload_n (pc := 39) 0 (dc k_K_readNumber 20 rfl) rfl rfl ?_
    refine R_getS (pc := 40) (ci := 2) (k := 1) 2 (dc k_K_readNumber 21 rfl) fl_K_19 rfl (lb rfl) (Nat.le_trans (lb rfl) hn) (hE 40 (lb rfl) (lb rfl)) rfl (by decide) rfl ?_
    refine R_aload_n (pc := 43) 0 (dc k_K_readNumber 22 rfl) rfl rfl ?_
    refine R_getI (pc := 44) (ci := 2) (k := 3) (dc k_K_readNumber 23 rfl) fl_K_43 rfl (lb rfl) (Nat.le_trans (lb rfl) hn) rfl (Or.inl rfl) ?_
    obtain ⟨⟨hg_18, hg_19⟩, hz⟩ := Z_chk hz
    refine R_bald (pc := 47) (dc k_K_readNumber 24 rfl) rfl (lb rfl) (Nat.le_trans (lb rfl) hn) hg_18 hg_19 ?_
    refine R_bipush (pc := 48) (a := 48) (dc k_K_readNumber 25 rfl) (by decide) ?_
    refine R_isub (pc := 50) (dc k_K_readNumber 26 rfl) ?_
    refine R_iadd (pc := 51) (dc k_K_readNumber 27 rfl) ?_
    obtain ⟨M_20, hM_20, hz⟩ := Z_lt hz
    refine R_putIE (pc := 52) (ci := 2) (k := 6) (dc k_K_readNumber 28 rfl) fl_K_85 rfl (lb rfl) (Nat.le_trans (lb rfl) hn) rfl rfl rfl hM_20 ?_
    refine R_aload_n (pc := 55) 0 (dc k_K_readNumber 29 rfl) rfl rfl ?_
    refine R_dup (pc := 56) (dc k_K_readNumber 30 rfl) rfl ?_
    refine R_getI (pc := 57) (ci := 2) (k := 3) (dc k_K_readNumber 31 rfl) fl_K_43 rfl (lb rfl) (Nat.le_trans (lb rfl) hn) rfl (Or.inl rfl) ?_
    refine R_iconst (pc := 60) (a := 1) (dc k_K_readNumber 32 rfl) ?_
    refine R_iadd (pc := 61) (dc k_K_readNumber 33 rfl) ?_
    obtain ⟨M_21, hM_21, hz⟩ := Z_lt hz
    refine R_putIE (pc := 62) (ci := 2) (k := 3) (dc k_K_readNumber 34 rfl) fl_K_43 rfl (lb rfl) (Nat.le_trans (lb rfl) hn) rfl rfl rfl hM_21 ?_
    refine R_goto (pc := 65) 5 (dc k_K_readNumber 35 rfl) rfl ?_
    exact hC_7 _ (Z_some hz)
  have hY_13 : K_10 false → Rr y_K_readNumber (1, 21, n, n, E) (qV K) 68 [(0, vR 40)] [] E n M_2 := by
    intro hk
    have hz := Z_neg Bool.false_ne_true (hK_11 _ hk)
    exact hX_5 _ (hB_8 _ (Z_some hz))
  refine R_icmp_ge (pc := 13) 68 (dc k_K_readNumber 7 rfl) rfl (fun hc => ?_) (fun hc => ?_)
  · have hz := Z_neg (show ¬ (n32 (M_2 40 3) < n32 (M_2 40 2)) from (Int.not_lt.mpr hc)) hz
    exact hY_13 (Z_some hz)
  · have hz := Z_pos (show n32 (M_2 40 3) < n32 (M_2 40 2) from (Int.not_le.mp hc)) hz
    refine R_aload_n (pc := 16) 0 (dc k_K_readNumber 8 rfl) rfl rfl ?_
    refine R_getS (pc := 17) (ci := 2) (k := 1) 2 (dc k_K_readNumber 9 rfl) fl_K_19 rfl (lb rfl) (Nat.le_trans (lb rfl) hn) (hE 40 (lb rfl) (lb rfl)) rfl (by decide) rfl ?_
    refine R_aload_n (pc := 20) 0 (dc k_K_readNumber 10 rfl) rfl rfl ?_
    refine R_getI (pc := 21) (ci := 2) (k := 3) (dc k_K_readNumber 11 rfl) fl_K_43 rfl (lb rfl) (Nat.le_trans (lb rfl) hn) rfl (Or.inl rfl) ?_
    obtain ⟨⟨hg_15, hg_16⟩, hz⟩ := Z_chk hz
    refine R_bald (pc := 24) (dc k_K_readNumber 12 rfl) rfl (lb rfl) (Nat.le_trans (lb rfl) hn) hg_15 hg_16 ?_
    refine R_cSP (pc := 25)  (As := [vI (M_2 2 (Int.toNat (M_2 40 3)))]) (S := []) ck_K_68 (dc k_K_readNumber 13 rfl) (lb rfl) (lb rfl) (lb rfl) rfl (ct_K_isDigit hE hn (Z_bind hz)) (fun r_17 hz => ?_)
    refine R_if_eq (pc := 28) 68 (dc k_K_readNumber 14 rfl) rfl (fun hc => ?_) (fun hc => ?_)
    · have hz := Z_neg (show ¬ (¬ n32 r_17 = 0) from (fun z => z hc)) hz
      exact hY_13 (Z_some hz)
    · have hz := Z_pos (show ¬ n32 r_17 = 0 from hc) hz
      exact hX_12 (Z_some hz)

set_option maxRecDepth 20000 in
theorem ct_K_isSign {E : Nat → Bool} {n : Nat} (hE : ∀ c, 1 ≤ c → c ≤ 80 → E c = true) (hn : 80 ≤ n) {sign : Int} {M : Mem} {K : Int → Prop} (hz : Z (K_isSign sign M) K) : Mt y_K_isSign (0, 0, n, n, E) E [vI sign] M (qP M K) := by
  refine Mt.of (by decide) (lb rfl) (Nat.le_refl _) rfl ?_
  rw [K_isSign] at hz
  show Rr y_K_isSign (0, 0, n, n, E) (qP M K) 0 [(0, vI sign)] [] E n M
  refine R_iload_n (pc := 0) 0 (dc k_K_isSign 0 rfl) rfl rfl ?_
  refine R_bipush (pc := 1) (a := 59) (dc k_K_isSign 1 rfl) (by decide) ?_
  have hX_1 : ((n32 sign = 59) ∨ ((n32 sign = 40) ∨ ((n32 sign = 41) ∨ ((n32 sign = 60) ∨ ((n32 sign = 62) ∨ ((n32 sign = 61) ∨ ((n32 sign = 43) ∨ (n32 sign = 45)))))))) → Rr y_K_isSign (0, 0, n, n, E) (qP M K) 48 [(0, vI sign)] [] E n M := by
    intro hc
    have hz := Z_pos hc hz
    refine R_iconst (pc := 48) (a := 1) (dc k_K_isSign 24 rfl) ?_
    refine R_goto (pc := 49) 53 (dc k_K_isSign 25 rfl) rfl ?_
    exact R_zret (pc := 53) (dc k_K_isSign 27 rfl) rfl (Or.inr rfl) rfl rfl ⟨_, rfl, rfl, (Z_some hz)⟩
  have hY_2 : ¬ ((n32 sign = 59) ∨ ((n32 sign = 40) ∨ ((n32 sign = 41) ∨ ((n32 sign = 60) ∨ ((n32 sign = 62) ∨ ((n32 sign = 61) ∨ ((n32 sign = 43) ∨ (n32 sign = 45)))))))) → Rr y_K_isSign (0, 0, n, n, E) (qP M K) 52 [(0, vI sign)] [] E n M := by
    intro hc
    have hz := Z_neg hc hz
    refine R_iconst (pc := 52) (a := 0) (dc k_K_isSign 26 rfl) ?_
    exact R_zret (pc := 53) (dc k_K_isSign 27 rfl) rfl (Or.inl rfl) rfl rfl ⟨_, rfl, rfl, (Z_some hz)⟩
  refine R_icmp_eq (pc := 3) 48 (dc k_K_isSign 2 rfl) rfl (fun hc => ?_) (fun hc => ?_)
  · have hc_3 : n32 sign = 59 := hc
    exact hX_1 (Or.inl hc_3)
  · have hc_4 : ¬ n32 sign = 59 := hc
    refine R_iload_n (pc := 6) 0 (dc k_K_isSign 3 rfl) rfl rfl ?_
    refine R_bipush (pc := 7) (a := 40) (dc k_K_isSign 4 rfl) (by decide) ?_
    refine R_icmp_eq (pc := 9) 48 (dc k_K_isSign 5 rfl) rfl (fun hc => ?_) (fun hc => ?_)
    · have hc_5 : n32 sign = 40 := hc
      exact hX_1 (Or.inr (Or.inl hc_5))
    · have hc_6 : ¬ n32 sign = 40 := hc
      refine R_iload_n (pc := 12) 0 (dc k_K_isSign 6 rfl) rfl rfl ?_
      refine R_bipush (pc := 13) (a := 41) (dc k_K_isSign 7 rfl) (by decide) ?_
      refine R_icmp_eq (pc := 15) 48 (dc k_K_isSign 8 rfl) rfl (fun hc => ?_) (fun hc => ?_)
      · have hc_7 : n32 sign = 41 := hc
        exact hX_1 (Or.inr (Or.inr (Or.inl hc_7)))
      · have hc_8 : ¬ n32 sign = 41 := hc
        refine R_iload_n (pc := 18) 0 (dc k_K_isSign 9 rfl) rfl rfl ?_
        refine R_bipush (pc := 19) (a := 60) (dc k_K_isSign 10 rfl) (by decide) ?_
        refine R_icmp_eq (pc := 21) 48 (dc k_K_isSign 11 rfl) rfl (fun hc => ?_) (fun hc => ?_)
        · have hc_9 : n32 sign = 60 := hc
          exact hX_1 (Or.inr (Or.inr (Or.inr (Or.inl hc_9))))
        · have hc_10 : ¬ n32 sign = 60 := hc
          refine R_iload_n (pc := 24) 0 (dc k_K_isSign 12 rfl) rfl rfl ?_
          refine R_bipush (pc := 25) (a := 62) (dc k_K_isSign 13 rfl) (by decide) ?_
          refine R_icmp_eq (pc := 27) 48 (dc k_K_isSign 14 rfl) rfl (fun hc => ?_) (fun hc => ?_)
          · have hc_11 : n32 sign = 62 := hc
            exact hX_1 (Or.inr (Or.inr (Or.inr (Or.inr (Or.inl hc_11)))))
          · have hc_12 : ¬ n32 sign = 62 := hc
            refine R_iload_n (pc := 30) 0 (dc k_K_isSign 15 rfl) rfl rfl ?_
            refine R_bipush (pc := 31) (a := 61) (dc k_K_isSign 16 rfl) (by decide) ?_
            refine R_icmp_eq (pc := 33) 48 (dc k_K_isSign 17 rfl) rfl (fun hc => ?_) (fun hc => ?_)
            · have hc_13 : n32 sign = 61 := hc
              exact hX_1 (Or.inr (Or.inr (Or.inr (Or.inr (Or.inr (Or.inl hc_13))))))
            · have hc_14 : ¬ n32 sign = 61 := hc
              refine R_iload_n (pc := 36) 0 (dc k_K_isSign 18 rfl) rfl rfl ?_
              refine R_bipush (pc := 37) (a := 43) (dc k_K_isSign 19 rfl) (by decide) ?_
              refine R_icmp_eq (pc := 39) 48 (dc k_K_isSign 20 rfl) rfl (fun hc => ?_) (fun hc => ?_)
              · have hc_15 : n32 sign = 43 := hc
                exact hX_1 (Or.inr (Or.inr (Or.inr (Or.inr (Or.inr (Or.inr (Or.inl hc_15)))))))
              · have hc_16 : ¬ n32 sign = 43 := hc
                refine R_iload_n (pc := 42) 0 (dc k_K_isSign 21 rfl) rfl rfl ?_
                refine R_bipush (pc := 43) (a := 45) (dc k_K_isSign 22 rfl) (by decide) ?_
                refine R_icmp_ne (pc := 45) 52 (dc k_K_isSign 23 rfl) rfl (fun hc => ?_) (fun hc => ?_)
                · have hc_17 : ¬ n32 sign = 45 := hc
                  exact hY_2 (fun z => z.elim hc_4 (fun z => z.elim hc_6 (fun z => z.elim hc_8 (fun z => z.elim hc_10 (fun z => z.elim hc_12 (fun z => z.elim hc_14 (fun z => z.elim hc_16 hc_17)))))))
                · have hc_18 : n32 sign = 45 := (Decidable.not_not.mp hc)
                  exact hX_1 (Or.inr (Or.inr (Or.inr (Or.inr (Or.inr (Or.inr (Or.inr hc_18)))))))

set_option maxRecDepth 20000 in
theorem ct_K_pass {E : Nat → Bool} {n : Nat} (hE : ∀ c, 1 ≤ c → c ≤ 80 → E c = true) (hn : 80 ≤ n) {M : Mem} {K : Mem → Prop} (hz : Z (K_pass M) K) : Mt y_K_pass (2, 43, n, n, E) E [vR 40] M (qV K) := by
  refine Mt.of (by decide) (lb rfl) (Nat.le_refl _) rfl ?_
  rw [K_pass] at hz
  show Rr y_K_pass (2, 43, n, n, E) (qV K) 0 [(0, vR 40)] [] E n M
  refine R_aload_n (pc := 0) 0 (dc k_K_pass 0 rfl) rfl rfl ?_
  refine R_getI (pc := 1) (ci := 2) (k := 4) (dc k_K_pass 1 rfl) fl_K_49 rfl (lb rfl) (Nat.le_trans (lb rfl) hn) rfl (Or.inl rfl) ?_
  refine R_bipush (pc := 4) (a := 24) (dc k_K_pass 2 rfl) (by decide) ?_
  refine R_icmp_ne (pc := 6) 10 (dc k_K_pass 3 rfl) rfl (fun hc => ?_) (fun hc => ?_)
  · have hz := Z_neg (show ¬ (n32 (M 40 4) = 24) from hc) hz
    obtain ⟨K_2, hK_3, hz⟩ := Z_cut hz
    have hX_4 : ∀ (M_8 : Mem), K_2 M_8 → Rr y_K_pass (2, 43, n, n, E) (qV K) 49 [(0, vR 40)] [] E n M_8 := by
      intro M_8 hk
      have hz := hK_3 _ hk
      refine R_aload_n (pc := 49) 0 (dc k_K_pass 24 rfl) rfl rfl ?_
      refine R_aload_n (pc := 50) 0 (dc k_K_pass 25 rfl) rfl rfl ?_
      refine R_getI (pc := 51) (ci := 2) (k := 3) (dc k_K_pass 26 rfl) fl_K_43 rfl (lb rfl) (Nat.le_trans (lb rfl) hn) rfl (Or.inl rfl) ?_
      obtain ⟨M_18, hM_18, hz⟩ := Z_lt hz
      refine R_putIE (pc := 54) (ci := 2) (k := 5) (dc k_K_pass 27 rfl) fl_K_59 rfl (lb rfl) (Nat.le_trans (lb rfl) hn) rfl rfl rfl hM_18 ?_
      refine R_aload_n (pc := 57) 0 (dc k_K_pass 28 rfl) rfl rfl ?_
      refine R_getI (pc := 58) (ci := 2) (k := 3) (dc k_K_pass 29 rfl) fl_K_43 rfl (lb rfl) (Nat.le_trans (lb rfl) hn) rfl (Or.inl rfl) ?_
      refine R_aload_n (pc := 61) 0 (dc k_K_pass 30 rfl) rfl rfl ?_
      refine R_getI (pc := 62) (ci := 2) (k := 2) (dc k_K_pass 31 rfl) fl_K_41 rfl (lb rfl) (Nat.le_trans (lb rfl) hn) rfl (Or.inl rfl) ?_
      refine R_icmp_lt (pc := 65) 77 (dc k_K_pass 32 rfl) rfl (fun hc => ?_) (fun hc => ?_)
      · have hz := Z_neg (show ¬ (n32 (M_18 40 2) ≤ n32 (M_18 40 3)) from (Int.not_le.mpr hc)) hz
        refine R_aload_n (pc := 77) 0 (dc k_K_pass 37 rfl) rfl rfl ?_
        refine R_getS (pc := 78) (ci := 2) (k := 1) 2 (dc k_K_pass 38 rfl) fl_K_19 rfl (lb rfl) (Nat.le_trans (lb rfl) hn) (hE 40 (lb rfl) (lb rfl)) rfl (by decide) rfl ?_
        refine R_aload_n (pc := 81) 0 (dc k_K_pass 39 rfl) rfl rfl ?_
        refine R_getI (pc := 82) (ci := 2) (k := 3) (dc k_K_pass 40 rfl) fl_K_43 rfl (lb rfl) (Nat.le_trans (lb rfl) hn) rfl (Or.inl rfl) ?_
        obtain ⟨⟨hg_20, hg_21⟩, hz⟩ := Z_chk hz
        refine R_bald (pc := 85) (dc k_K_pass 41 rfl) rfl (lb rfl) (Nat.le_trans (lb rfl) hn) hg_20 hg_21 ?_
        refine R_cSP (pc := 86)  (As := [vI (M_18 2 (Int.toNat (M_18 40 3)))]) (S := []) ck_K_62 (dc k_K_pass 42 rfl) (lb rfl) (lb rfl) (lb rfl) rfl (ct_K_isLetter hE hn (Z_bind hz)) (fun r_22 hz => ?_)
        refine R_if_eq (pc := 89) 99 (dc k_K_pass 43 rfl) rfl (fun hc => ?_) (fun hc => ?_)
        · have hz := Z_neg (show ¬ (¬ n32 r_22 = 0) from (fun z => z hc)) hz
          refine R_aload_n (pc := 99) 0 (dc k_K_pass 47 rfl) rfl rfl ?_
          refine R_getS (pc := 100) (ci := 2) (k := 1) 2 (dc k_K_pass 48 rfl) fl_K_19 rfl (lb rfl) (Nat.le_trans (lb rfl) hn) (hE 40 (lb rfl) (lb rfl)) rfl (by decide) rfl ?_
          refine R_aload_n (pc := 103) 0 (dc k_K_pass 49 rfl) rfl rfl ?_
          refine R_getI (pc := 104) (ci := 2) (k := 3) (dc k_K_pass 50 rfl) fl_K_43 rfl (lb rfl) (Nat.le_trans (lb rfl) hn) rfl (Or.inl rfl) ?_
          refine R_bald (pc := 107) (dc k_K_pass 51 rfl) rfl (lb rfl) (Nat.le_trans (lb rfl) hn) hg_20 hg_21 ?_
          refine R_cSP (pc := 108)  (As := [vI (M_18 2 (Int.toNat (M_18 40 3)))]) (S := []) ck_K_68 (dc k_K_pass 52 rfl) (lb rfl) (lb rfl) (lb rfl) rfl (ct_K_isDigit hE hn (Z_bind hz)) (fun r_24 hz => ?_)
          refine R_if_eq (pc := 111) 121 (dc k_K_pass 53 rfl) rfl (fun hc => ?_) (fun hc => ?_)
          · have hz := Z_neg (show ¬ (¬ n32 r_24 = 0) from (fun z => z hc)) hz
            refine R_aload_n (pc := 121) 0 (dc k_K_pass 57 rfl) rfl rfl ?_
            refine R_getS (pc := 122) (ci := 2) (k := 1) 2 (dc k_K_pass 58 rfl) fl_K_19 rfl (lb rfl) (Nat.le_trans (lb rfl) hn) (hE 40 (lb rfl) (lb rfl)) rfl (by decide) rfl ?_
            refine R_aload_n (pc := 125) 0 (dc k_K_pass 59 rfl) rfl rfl ?_
            refine R_getI (pc := 126) (ci := 2) (k := 3) (dc k_K_pass 60 rfl) fl_K_43 rfl (lb rfl) (Nat.le_trans (lb rfl) hn) rfl (Or.inl rfl) ?_
            refine R_bald (pc := 129) (dc k_K_pass 61 rfl) rfl (lb rfl) (Nat.le_trans (lb rfl) hn) hg_20 hg_21 ?_
            refine R_cSP (pc := 130)  (As := [vI (M_18 2 (Int.toNat (M_18 40 3)))]) (S := []) ck_K_74 (dc k_K_pass 62 rfl) (lb rfl) (lb rfl) (lb rfl) rfl (ct_K_isSign hE hn (Z_bind hz)) (fun r_26 hz => ?_)
            refine R_if_eq (pc := 133) 162 (dc k_K_pass 63 rfl) rfl (fun hc => ?_) (fun hc => ?_)
            · have hz := Z_neg (show ¬ (¬ n32 r_26 = 0) from (fun z => z hc)) hz
              refine R_aload_n (pc := 162) 0 (dc k_K_pass 78 rfl) rfl rfl ?_
              refine R_iconst (pc := 163) (a := 1) (dc k_K_pass 79 rfl) ?_
              refine R_cVV (pc := 164)  (As := [vI 1]) (S := []) ck_K_77 (dc k_K_pass 80 rfl) ⟨rfl, ⟨_, rfl, rfl⟩, (lb rfl), (Nat.le_trans (lb rfl) hn)⟩ (lb rfl) (lb rfl) (lb rfl) rfl (ct_K_fail hE hn (Z_bind hz)) (fun M_29 hz => ?_)
              exact R_vret (pc := 167) (dc k_K_pass 81 rfl) rfl rfl rfl ⟨rfl, (Z_some hz)⟩
            · have hz := Z_pos (show ¬ n32 r_26 = 0 from hc) hz
              refine R_aload_n (pc := 136) 0 (dc k_K_pass 64 rfl) rfl rfl ?_
              refine R_aload_n (pc := 137) 0 (dc k_K_pass 65 rfl) rfl rfl ?_
              refine R_getS (pc := 138) (ci := 2) (k := 1) 2 (dc k_K_pass 66 rfl) fl_K_19 rfl (lb rfl) (Nat.le_trans (lb rfl) hn) (hE 40 (lb rfl) (lb rfl)) rfl (by decide) rfl ?_
              refine R_aload_n (pc := 141) 0 (dc k_K_pass 67 rfl) rfl rfl ?_
              refine R_getI (pc := 142) (ci := 2) (k := 3) (dc k_K_pass 68 rfl) fl_K_43 rfl (lb rfl) (Nat.le_trans (lb rfl) hn) rfl (Or.inl rfl) ?_
              refine R_bald (pc := 145) (dc k_K_pass 69 rfl) rfl (lb rfl) (Nat.le_trans (lb rfl) hn) hg_20 hg_21 ?_
              obtain ⟨M_27, hM_27, hz⟩ := Z_lt hz
              refine R_putIE (pc := 146) (ci := 2) (k := 4) (dc k_K_pass 70 rfl) fl_K_49 rfl (lb rfl) (Nat.le_trans (lb rfl) hn) rfl rfl rfl hM_27 ?_
              refine R_aload_n (pc := 149) 0 (dc k_K_pass 71 rfl) rfl rfl ?_
              refine R_dup (pc := 150) (dc k_K_pass 72 rfl) rfl ?_
              refine R_getI (pc := 151) (ci := 2) (k := 3) (dc k_K_pass 73 rfl) fl_K_43 rfl (lb rfl) (Nat.le_trans (lb rfl) hn) rfl (Or.inl rfl) ?_
              refine R_iconst (pc := 154) (a := 1) (dc k_K_pass 74 rfl) ?_
              refine R_iadd (pc := 155) (dc k_K_pass 75 rfl) ?_
              obtain ⟨M_28, hM_28, hz⟩ := Z_lt hz
              refine R_putIE (pc := 156) (ci := 2) (k := 3) (dc k_K_pass 76 rfl) fl_K_43 rfl (lb rfl) (Nat.le_trans (lb rfl) hn) rfl rfl rfl hM_28 ?_
              refine R_goto (pc := 159) 167 (dc k_K_pass 77 rfl) rfl ?_
              exact R_vret (pc := 167) (dc k_K_pass 81 rfl) rfl rfl rfl ⟨rfl, (Z_some hz)⟩
          · have hz := Z_pos (show ¬ n32 r_24 = 0 from hc) hz
            refine R_aload_n (pc := 114) 0 (dc k_K_pass 54 rfl) rfl rfl ?_
            refine R_cVV (pc := 115)  (As := []) (S := []) ck_K_71 (dc k_K_pass 55 rfl) ⟨rfl, ⟨_, rfl, rfl⟩, (lb rfl), (Nat.le_trans (lb rfl) hn)⟩ (lb rfl) (lb rfl) (lb rfl) rfl (ct_K_readNumber hE hn (Z_bind hz)) (fun M_25 hz => ?_)
            refine R_goto (pc := 118) 167 (dc k_K_pass 56 rfl) rfl ?_
            exact R_vret (pc := 167) (dc k_K_pass 81 rfl) rfl rfl rfl ⟨rfl, (Z_some hz)⟩
        · have hz := Z_pos (show ¬ n32 r_22 = 0 from hc) hz
          refine R_aload_n (pc := 92) 0 (dc k_K_pass 44 rfl) rfl rfl ?_
          refine R_cVV (pc := 93)  (As := []) (S := []) ck_K_65 (dc k_K_pass 45 rfl) ⟨rfl, ⟨_, rfl, rfl⟩, (lb rfl), (Nat.le_trans (lb rfl) hn)⟩ (lb rfl) (lb rfl) (lb rfl) rfl (ct_K_readWord hE hn (Z_bind hz)) (fun M_23 hz => ?_)
          refine R_goto (pc := 96) 167 (dc k_K_pass 46 rfl) rfl ?_
          exact R_vret (pc := 167) (dc k_K_pass 81 rfl) rfl rfl rfl ⟨rfl, (Z_some hz)⟩
      · have hz := Z_pos (show n32 (M_18 40 2) ≤ n32 (M_18 40 3) from (Int.not_lt.mp hc)) hz
        refine R_aload_n (pc := 68) 0 (dc k_K_pass 33 rfl) rfl rfl ?_
        refine R_bipush (pc := 69) (a := 23) (dc k_K_pass 34 rfl) (by decide) ?_
        obtain ⟨M_19, hM_19, hz⟩ := Z_lt hz
        refine R_putIE (pc := 71) (ci := 2) (k := 4) (dc k_K_pass 35 rfl) fl_K_49 rfl (lb rfl) (Nat.le_trans (lb rfl) hn) rfl rfl rfl hM_19 ?_
        refine R_goto (pc := 74) 167 (dc k_K_pass 36 rfl) rfl ?_
        exact R_vret (pc := 167) (dc k_K_pass 81 rfl) rfl rfl rfl ⟨rfl, (Z_some hz)⟩
    refine it_R (C := fun aZ : Mem => Rr y_K_pass (2, 43, n, n, E) (qV K) 10 [(0, vR 40)] [] E n aZ) (fun M_1 K_5 hC_6 hB_7 hz => ?_) FUEL M hz
    rw [K_pass_b10] at hz
    show Rr y_K_pass (2, 43, n, n, E) (qV K) 10 [(0, vR 40)] [] E n M_1
    refine R_aload_n (pc := 10) 0 (dc k_K_pass 5 rfl) rfl rfl ?_
    refine R_getI (pc := 11) (ci := 2) (k := 3) (dc k_K_pass 6 rfl) fl_K_43 rfl (lb rfl) (Nat.le_trans (lb rfl) hn) rfl (Or.inl rfl) ?_
    refine R_aload_n (pc := 14) 0 (dc k_K_pass 7 rfl) rfl rfl ?_
    refine R_getI (pc := 15) (ci := 2) (k := 2) (dc k_K_pass 8 rfl) fl_K_41 rfl (lb rfl) (Nat.le_trans (lb rfl) hn) rfl (Or.inl rfl) ?_
    obtain ⟨K_9, hK_10, hz⟩ := Z_cut hz
    have hX_11 : K_9 true → Rr y_K_pass (2, 43, n, n, E) (qV K) 36 [(0, vR 40)] [] E n M_1 := by
      intro hk
      have hz := Z_pos rfl (hK_10 _ hk)
      refine R_aload_n (pc := 36) 0 (dc k_K_pass 17 rfl) rfl rfl ?_
      refine R_dup (pc := 37) (dc k_K_pass 18 rfl) rfl ?_
      refine R_getI (pc := 38) (ci := 2) (k := 3) (dc k_K_pass 19 rfl) fl_K_43 rfl (lb rfl) (Nat.le_trans (lb rfl) hn) rfl (Or.inl rfl) ?_
      refine R_iconst (pc := 41) (a := 1) (dc k_K_pass 20 rfl) ?_
      refine R_iadd (pc := 42) (dc k_K_pass 21 rfl) ?_
      obtain ⟨M_17, hM_17, hz⟩ := Z_lt hz
      refine R_putIE (pc := 43) (ci := 2) (k := 3) (dc k_K_pass 22 rfl) fl_K_43 rfl (lb rfl) (Nat.le_trans (lb rfl) hn) rfl rfl rfl hM_17 ?_
      refine R_goto (pc := 46) 10 (dc k_K_pass 23 rfl) rfl ?_
      exact hC_6 _ (Z_some hz)
    have hY_12 : K_9 false → Rr y_K_pass (2, 43, n, n, E) (qV K) 49 [(0, vR 40)] [] E n M_1 := by
      intro hk
      have hz := Z_neg Bool.false_ne_true (hK_10 _ hk)
      exact hX_4 _ (hB_7 _ (Z_some hz))
    refine R_icmp_ge (pc := 18) 49 (dc k_K_pass 9 rfl) rfl (fun hc => ?_) (fun hc => ?_)
    · have hz := Z_neg (show ¬ (n32 (M_1 40 3) < n32 (M_1 40 2)) from (Int.not_lt.mpr hc)) hz
      exact hY_12 (Z_some hz)
    · have hz := Z_pos (show n32 (M_1 40 3) < n32 (M_1 40 2) from (Int.not_le.mp hc)) hz
      refine R_aload_n (pc := 21) 0 (dc k_K_pass 10 rfl) rfl rfl ?_
      refine R_getS (pc := 22) (ci := 2) (k := 1) 2 (dc k_K_pass 11 rfl) fl_K_19 rfl (lb rfl) (Nat.le_trans (lb rfl) hn) (hE 40 (lb rfl) (lb rfl)) rfl (by decide) rfl ?_
      refine R_aload_n (pc := 25) 0 (dc k_K_pass 12 rfl) rfl rfl ?_
      refine R_getI (pc := 26) (ci := 2) (k := 3) (dc k_K_pass 13 rfl) fl_K_43 rfl (lb rfl) (Nat.le_trans (lb rfl) hn) rfl (Or.inl rfl) ?_
      obtain ⟨⟨hg_14, hg_15⟩, hz⟩ := Z_chk hz
      refine R_bald (pc := 29) (dc k_K_pass 14 rfl) rfl (lb rfl) (Nat.le_trans (lb rfl) hn) hg_14 hg_15 ?_
      refine R_cSP (pc := 30)  (As := [vI (M_1 2 (Int.toNat (M_1 40 3)))]) (S := []) ck_K_55 (dc k_K_pass 15 rfl) (lb rfl) (lb rfl) (lb rfl) rfl (ct_K_isBlank hE hn (Z_bind hz)) (fun r_16 hz => ?_)
      refine R_if_eq (pc := 33) 49 (dc k_K_pass 16 rfl) rfl (fun hc => ?_) (fun hc => ?_)
      · have hz := Z_neg (show ¬ (¬ n32 r_16 = 0) from (fun z => z hc)) hz
        exact hY_12 (Z_some hz)
      · have hz := Z_pos (show ¬ n32 r_16 = 0 from hc) hz
        exact hX_11 (Z_some hz)
  · have hz := Z_pos (show n32 (M 40 4) = 24 from (Decidable.not_not.mp hc)) hz
    exact R_vret (pc := 9) (dc k_K_pass 4 rfl) rfl rfl rfl ⟨rfl, (Z_some hz)⟩

set_option maxRecDepth 20000 in
theorem ct_K_start {E : Nat → Bool} {n : Nat} (hE : ∀ c, 1 ≤ c → c ≤ 80 → E c = true) (hn : 80 ≤ n) {bytes : Int} {M : Mem} {K : Mem → Prop} (hz : Z (K_start bytes M) K) : Mt y_K_start (3, 63, n, n, E) E [vR 40, vI bytes] M (qV K) := by
  refine Mt.of (by decide) (lb rfl) (Nat.le_refl _) rfl ?_
  rw [K_start] at hz
  show Rr y_K_start (3, 63, n, n, E) (qV K) 0 [(0, vR 40), (1, vI bytes)] [] E n M
  refine R_aload_n (pc := 0) 0 (dc k_K_start 0 rfl) rfl rfl ?_
  refine R_iload_n (pc := 1) 1 (dc k_K_start 1 rfl) rfl rfl ?_
  obtain ⟨M_1, hM_1, hz⟩ := Z_lt hz
  refine R_putIE (pc := 2) (ci := 2) (k := 2) (dc k_K_start 2 rfl) fl_K_41 rfl (lb rfl) (Nat.le_trans (lb rfl) hn) rfl rfl rfl hM_1 ?_
  refine R_aload_n (pc := 5) 0 (dc k_K_start 3 rfl) rfl rfl ?_
  refine R_iconst (pc := 6) (a := 0) (dc k_K_start 4 rfl) ?_
  obtain ⟨M_2, hM_2, hz⟩ := Z_lt hz
  refine R_putIE (pc := 7) (ci := 2) (k := 3) (dc k_K_start 5 rfl) fl_K_43 rfl (lb rfl) (Nat.le_trans (lb rfl) hn) rfl rfl rfl hM_2 ?_
  refine R_aload_n (pc := 10) 0 (dc k_K_start 6 rfl) rfl rfl ?_
  refine R_iconst (pc := 11) (a := 0) (dc k_K_start 7 rfl) ?_
  obtain ⟨M_3, hM_3, hz⟩ := Z_lt hz
  refine R_putIE (pc := 12) (ci := 2) (k := 8) (dc k_K_start 8 rfl) fl_K_46 rfl (lb rfl) (Nat.le_trans (lb rfl) hn) rfl rfl rfl hM_3 ?_
  refine R_aload_n (pc := 15) 0 (dc k_K_start 9 rfl) rfl rfl ?_
  refine R_iconst (pc := 16) (a := (-1)) (dc k_K_start 10 rfl) ?_
  obtain ⟨M_4, hM_4, hz⟩ := Z_lt hz
  refine R_putIE (pc := 17) (ci := 2) (k := 9) (dc k_K_start 11 rfl) fl_K_15 rfl (lb rfl) (Nat.le_trans (lb rfl) hn) rfl rfl rfl hM_4 ?_
  refine R_aload_n (pc := 20) 0 (dc k_K_start 12 rfl) rfl rfl ?_
  refine R_bipush (pc := 21) (a := 23) (dc k_K_start 13 rfl) (by decide) ?_
  obtain ⟨M_5, hM_5, hz⟩ := Z_lt hz
  refine R_putIE (pc := 23) (ci := 2) (k := 4) (dc k_K_start 14 rfl) fl_K_49 rfl (lb rfl) (Nat.le_trans (lb rfl) hn) rfl rfl rfl hM_5 ?_
  refine R_aload_n (pc := 26) 0 (dc k_K_start 15 rfl) rfl rfl ?_
  refine R_cVV (pc := 27)  (As := []) (S := []) ck_K_52 (dc k_K_start 16 rfl) ⟨rfl, ⟨_, rfl, rfl⟩, (lb rfl), (Nat.le_trans (lb rfl) hn)⟩ (lb rfl) (lb rfl) (lb rfl) rfl (ct_K_pass hE hn (Z_bind hz)) (fun M_6 hz => ?_)
  exact R_vret (pc := 30) (dc k_K_start 17 rfl) rfl rfl rfl ⟨rfl, (Z_some hz)⟩

set_option maxRecDepth 20000 in
theorem ct_K_goesOn {E : Nat → Bool} {n : Nat} (hE : ∀ c, 1 ≤ c → c ≤ 80 → E c = true) (hn : 80 ≤ n) {M : Mem} {K : Int → Prop} (hz : Z (K_goesOn M) K) : Mt y_K_goesOn (0, 0, n, n, E) E [vR 40] M (qP M K) := by
  refine Mt.of (by decide) (lb rfl) (Nat.le_refl _) rfl ?_
  rw [K_goesOn] at hz
  show Rr y_K_goesOn (0, 0, n, n, E) (qP M K) 0 [(0, vR 40)] [] E n M
  refine R_aload_n (pc := 0) 0 (dc k_K_goesOn 0 rfl) rfl rfl ?_
  refine R_getI (pc := 1) (ci := 2) (k := 4) (dc k_K_goesOn 1 rfl) fl_K_49 rfl (lb rfl) (Nat.le_trans (lb rfl) hn) rfl (Or.inl rfl) ?_
  refine R_bipush (pc := 4) (a := 23) (dc k_K_goesOn 2 rfl) (by decide) ?_
  have hX_1 : ((¬ n32 (M 40 4) = 23) ∧ (¬ n32 (M 40 4) = 24)) → Rr y_K_goesOn (0, 0, n, n, E) (qP M K) 18 [(0, vR 40)] [] E n M := by
    intro hc
    have hz := Z_pos hc hz
    refine R_iconst (pc := 18) (a := 1) (dc k_K_goesOn 8 rfl) ?_
    refine R_goto (pc := 19) 23 (dc k_K_goesOn 9 rfl) rfl ?_
    exact R_zret (pc := 23) (dc k_K_goesOn 11 rfl) rfl (Or.inr rfl) rfl rfl ⟨_, rfl, rfl, (Z_some hz)⟩
  have hY_2 : ¬ ((¬ n32 (M 40 4) = 23) ∧ (¬ n32 (M 40 4) = 24)) → Rr y_K_goesOn (0, 0, n, n, E) (qP M K) 22 [(0, vR 40)] [] E n M := by
    intro hc
    have hz := Z_neg hc hz
    refine R_iconst (pc := 22) (a := 0) (dc k_K_goesOn 10 rfl) ?_
    exact R_zret (pc := 23) (dc k_K_goesOn 11 rfl) rfl (Or.inl rfl) rfl rfl ⟨_, rfl, rfl, (Z_some hz)⟩
  refine R_icmp_eq (pc := 6) 22 (dc k_K_goesOn 3 rfl) rfl (fun hc => ?_) (fun hc => ?_)
  · have hc_3 : n32 (M 40 4) = 23 := hc
    exact hY_2 (fun z => (fun z => z hc_3) z.1)
  · have hc_4 : ¬ n32 (M 40 4) = 23 := hc
    refine R_aload_n (pc := 9) 0 (dc k_K_goesOn 4 rfl) rfl rfl ?_
    refine R_getI (pc := 10) (ci := 2) (k := 4) (dc k_K_goesOn 5 rfl) fl_K_49 rfl (lb rfl) (Nat.le_trans (lb rfl) hn) rfl (Or.inl rfl) ?_
    refine R_bipush (pc := 13) (a := 24) (dc k_K_goesOn 6 rfl) (by decide) ?_
    refine R_icmp_eq (pc := 15) 22 (dc k_K_goesOn 7 rfl) rfl (fun hc => ?_) (fun hc => ?_)
    · have hc_5 : n32 (M 40 4) = 24 := hc
      exact hY_2 (fun z => (fun z => z hc_5) z.2)
    · have hc_6 : ¬ n32 (M 40 4) = 24 := hc
      exact hX_1 ⟨hc_4, hc_6⟩

set_option maxRecDepth 20000 in
theorem ct_N_begin {E : Nat → Bool} {n : Nat} (hE : ∀ c, 1 ≤ c → c ≤ 80 → E c = true) (hn : 80 ≤ n) {room : Int} {M : Mem} {K : Mem → Prop} (hz : Z (N_begin room M) K) : Mt y_N_begin (3, 63, n, n, E) E [vR 27, vI room] M (qV K) := by
  refine Mt.of (by decide) (lb rfl) (Nat.le_refl _) rfl ?_
  rw [N_begin] at hz
  show Rr y_N_begin (3, 63, n, n, E) (qV K) 0 [(0, vR 27), (1, vI room)] [] E n M
  refine R_iload_n (pc := 0) 1 (dc k_N_begin 0 rfl) rfl rfl ?_
  refine R_if_eq (pc := 1) 14 (dc k_N_begin 1 rfl) rfl (fun hc => ?_) (fun hc => ?_)
  · have hz := Z_neg (show ¬ (¬ n32 room = 0) from (fun z => z hc)) hz
    refine R_aload_n (pc := 14) 0 (dc k_N_begin 6 rfl) rfl rfl ?_
    refine R_getS (pc := 15) (ci := 3) (k := 0) 40 (dc k_N_begin 7 rfl) fl_N_50 rfl (lb rfl) (Nat.le_trans (lb rfl) hn) (hE 27 (lb rfl) (lb rfl)) rfl (by decide) rfl ?_
    refine R_iconst (pc := 18) (a := 2) (dc k_N_begin 8 rfl) ?_
    refine R_cVV (pc := 19)  (As := [vI 2]) (S := []) ck_N_106 (dc k_N_begin 9 rfl) ⟨rfl, ⟨_, rfl, rfl⟩, (lb rfl), (Nat.le_trans (lb rfl) hn)⟩ (lb rfl) (lb rfl) (lb rfl) rfl (ct_K_fail hE hn (Z_bind hz)) (fun M_2 hz => ?_)
    exact R_vret (pc := 22) (dc k_N_begin 10 rfl) rfl rfl rfl ⟨rfl, (Z_some hz)⟩
  · have hz := Z_pos (show ¬ n32 room = 0 from hc) hz
    refine R_aload_n (pc := 4) 0 (dc k_N_begin 2 rfl) rfl rfl ?_
    refine R_getS (pc := 5) (ci := 3) (k := 0) 40 (dc k_N_begin 3 rfl) fl_N_50 rfl (lb rfl) (Nat.le_trans (lb rfl) hn) (hE 27 (lb rfl) (lb rfl)) rfl (by decide) rfl ?_
    refine R_cVV (pc := 8)  (As := []) (S := []) ck_N_109 (dc k_N_begin 4 rfl) ⟨rfl, ⟨_, rfl, rfl⟩, (lb rfl), (Nat.le_trans (lb rfl) hn)⟩ (lb rfl) (lb rfl) (lb rfl) rfl (ct_K_pass hE hn (Z_bind hz)) (fun M_1 hz => ?_)
    refine R_goto (pc := 11) 22 (dc k_N_begin 5 rfl) rfl ?_
    exact R_vret (pc := 22) (dc k_N_begin 10 rfl) rfl rfl rfl ⟨rfl, (Z_some hz)⟩

set_option maxRecDepth 20000 in
theorem ct_N_seesName {E : Nat → Bool} {n : Nat} (hE : ∀ c, 1 ≤ c → c ≤ 80 → E c = true) (hn : 80 ≤ n) {M : Mem} {K : Int × Mem → Prop} (hz : Z (N_seesName M) K) : Mt y_N_seesName (1, 21, n, n, E) E [vR 27] M (qM K) := by
  refine Mt.of (by decide) (lb rfl) (Nat.le_refl _) rfl ?_
  rw [N_seesName] at hz
  show Rr y_N_seesName (1, 21, n, n, E) (qM K) 0 [(0, vR 27)] [] E n M
  refine R_aload_n (pc := 0) 0 (dc k_N_seesName 0 rfl) rfl rfl ?_
  refine R_getS (pc := 1) (ci := 3) (k := 0) 40 (dc k_N_seesName 1 rfl) fl_N_50 rfl (lb rfl) (Nat.le_trans (lb rfl) hn) (hE 27 (lb rfl) (lb rfl)) rfl (by decide) rfl ?_
  refine R_getI (pc := 4) (ci := 2) (k := 4) (dc k_N_seesName 2 rfl) fl_N_82 rfl (lb rfl) (Nat.le_trans (lb rfl) hn) rfl (Or.inl rfl) ?_
  refine R_bipush (pc := 7) (a := 21) (dc k_N_seesName 3 rfl) (by decide) ?_
  obtain ⟨K_2, hK_3, hz⟩ := Z_cut hz
  have hJ_4 : ∀ (M_1 : Mem), K_2 M_1 → Rr y_N_seesName (1, 21, n, n, E) (qM K) 20 [(0, vR 27)] [] E n M_1 := by
    intro M_1 hk
    have hz := hK_3 _ hk
    refine R_aload_n (pc := 20) 0 (dc k_N_seesName 9 rfl) rfl rfl ?_
    refine R_getS (pc := 21) (ci := 3) (k := 0) 40 (dc k_N_seesName 10 rfl) fl_N_50 rfl (lb rfl) (Nat.le_trans (lb rfl) hn) (hE 27 (lb rfl) (lb rfl)) rfl (by decide) rfl ?_
    refine R_getI (pc := 24) (ci := 2) (k := 4) (dc k_N_seesName 11 rfl) fl_N_82 rfl (lb rfl) (Nat.le_trans (lb rfl) hn) rfl (Or.inl rfl) ?_
    refine R_bipush (pc := 27) (a := 21) (dc k_N_seesName 12 rfl) (by decide) ?_
    refine R_icmp_ne (pc := 29) 36 (dc k_N_seesName 13 rfl) rfl (fun hc => ?_) (fun hc => ?_)
    · have hz := Z_neg (show ¬ (n32 (M_1 40 4) = 21) from hc) hz
      refine R_iconst (pc := 36) (a := 0) (dc k_N_seesName 16 rfl) ?_
      exact R_zret (pc := 37) (dc k_N_seesName 17 rfl) rfl (Or.inl rfl) rfl rfl ⟨_, rfl, (Z_some hz)⟩
    · have hz := Z_pos (show n32 (M_1 40 4) = 21 from (Decidable.not_not.mp hc)) hz
      refine R_iconst (pc := 32) (a := 1) (dc k_N_seesName 14 rfl) ?_
      refine R_goto (pc := 33) 37 (dc k_N_seesName 15 rfl) rfl ?_
      exact R_zret (pc := 37) (dc k_N_seesName 17 rfl) rfl (Or.inr rfl) rfl rfl ⟨_, rfl, (Z_some hz)⟩
  refine R_icmp_eq (pc := 9) 20 (dc k_N_seesName 4 rfl) rfl (fun hc => ?_) (fun hc => ?_)
  · have hz := Z_neg (show ¬ (¬ n32 (M 40 4) = 21) from (fun z => z hc)) hz
    exact hJ_4 _ (Z_some hz)
  · have hz := Z_pos (show ¬ n32 (M 40 4) = 21 from hc) hz
    refine R_aload_n (pc := 12) 0 (dc k_N_seesName 5 rfl) rfl rfl ?_
    refine R_getS (pc := 13) (ci := 3) (k := 0) 40 (dc k_N_seesName 6 rfl) fl_N_50 rfl (lb rfl) (Nat.le_trans (lb rfl) hn) (hE 27 (lb rfl) (lb rfl)) rfl (by decide) rfl ?_
    refine R_iconst (pc := 16) (a := 2) (dc k_N_seesName 7 rfl) ?_
    refine R_cVV (pc := 17)  (As := [vI 2]) (S := []) ck_N_106 (dc k_N_seesName 8 rfl) ⟨rfl, ⟨_, rfl, rfl⟩, (lb rfl), (Nat.le_trans (lb rfl) hn)⟩ (lb rfl) (lb rfl) (lb rfl) rfl (ct_K_fail hE hn (Z_bind hz)) (fun M_5 hz => ?_)
    exact hJ_4 _ (Z_some hz)

set_option maxRecDepth 20000 in
theorem ct_N_find {E : Nat → Bool} {n : Nat} (hE : ∀ c, 1 ≤ c → c ≤ 80 → E c = true) (hn : 80 ≤ n) {names : Nat} {count : Int} {M : Mem} {K : Int → Prop} (hz : Z (N_find names count M) K) : Mt y_N_find (0, 0, n, n, E) E [vR 27, vR names, vI count] M (qP M K) := by
  refine Mt.of (by decide) (lb rfl) (Nat.le_refl _) rfl ?_
  rw [N_find] at hz
  show Rr y_N_find (0, 0, n, n, E) (qP M K) 0 [(0, vR 27), (1, vR names), (2, vI count)] [] E n M
  refine R_iconst (pc := 0) (a := 0) (dc k_N_find 0 rfl) ?_
  refine R_istore_n (pc := 1) (L' := [(3, vI 0), (0, vR 27), (1, vR names), (2, vI count)]) (dc k_N_find 1 rfl) rfl (lb rfl) rfl ?_
  obtain ⟨K_2, hK_3, hz⟩ := Z_cut hz
  have hX_4 : K_2 (.inl ()) → Rr y_N_find (0, 0, n, n, E) (qP M K) 29 [] [] E n M := by
    intro  hk
    have hz := hK_3 _ hk
    refine R_iconst (pc := 29) (a := (-1)) (dc k_N_find 17 rfl) ?_
    exact R_iret (pc := 30) (dc k_N_find 18 rfl) rfl rfl rfl ⟨_, rfl, rfl, (Z_some hz)⟩
  refine R_sub [1, 2, 3, 0] rfl ?_
  refine it_R (C := fun aZ : Int => Rr y_N_find (0, 0, n, n, E) (qP M K) 2 [(0, vR 27), (1, vR names), (2, vI count), (3, vI aZ)] [] E n M) (fun l3_1 K_5 hC_6 hB_7 hz => ?_) FUEL 0 hz
  rw [N_find_b2] at hz
  show Rr y_N_find (0, 0, n, n, E) (qP M K) 2 [(0, vR 27), (1, vR names), (2, vI count), (3, vI l3_1)] [] E n M
  refine R_iload_n (pc := 2) 3 (dc k_N_find 2 rfl) rfl rfl ?_
  refine R_iload_n (pc := 3) 2 (dc k_N_find 3 rfl) rfl rfl ?_
  refine R_icmp_ge (pc := 4) 29 (dc k_N_find 4 rfl) rfl (fun hc => ?_) (fun hc => ?_)
  · have hz := Z_neg (show ¬ (n32 l3_1 < n32 count) from (Int.not_lt.mpr hc)) hz
    refine R_sub [] rfl ?_
    exact hX_4 (hB_7 _ (Z_some hz))
  · have hz := Z_pos (show n32 l3_1 < n32 count from (Int.not_le.mp hc)) hz
    refine R_aload_n (pc := 7) 1 (dc k_N_find 5 rfl) rfl rfl ?_
    refine R_iload_n (pc := 8) 3 (dc k_N_find 6 rfl) rfl rfl ?_
    obtain ⟨⟨hg_8, hg_9⟩, hz⟩ := Z_chk hz
    obtain ⟨hg_10, hg_11, hg_12, hg_13, hg_14⟩ := aJ_at hg_8 hg_9
    refine R_lald (pc := 9) (dc k_N_find 7 rfl) hg_11 hg_14 (Nat.le_trans hg_13 hn) hg_8 hg_12 ?_
    refine R_aload_n (pc := 10) 0 (dc k_N_find 8 rfl) rfl rfl ?_
    refine R_getS (pc := 11) (ci := 3) (k := 0) 40 (dc k_N_find 9 rfl) fl_N_50 rfl (lb rfl) (Nat.le_trans (lb rfl) hn) (hE 27 (lb rfl) (lb rfl)) rfl (by decide) rfl ?_
    refine R_getJ (pc := 14) (ci := 2) (k := 7) (dc k_N_find 10 rfl) fl_N_112 rfl (lb rfl) (Nat.le_trans (lb rfl) hn) rfl rfl ?_
    refine R_lcmp (pc := 17) (dc k_N_find 11 rfl) ?_
    refine R_if_ne (pc := 18) 23 (dc k_N_find 12 rfl) rfl (fun hc => ?_) (fun hc => ?_)
    · have hz := Z_neg (show ¬ (n64 (M names (Int.toNat l3_1)) = n64 (M 40 7)) from (fun z => hc (jcmp_eq.mpr z))) hz
      obtain ⟨l3_15, hl3_15, hz⟩ := Z_lt hz
      refine R_iincE (pc := 23) (L' := [(3, vI l3_15), (0, vR 27), (1, vR names), (2, vI count)]) 3 (dc k_N_find 15 rfl) rfl (lb rfl) hl3_15 rfl ?_
      refine R_goto (pc := 26) 2 (dc k_N_find 16 rfl) rfl ?_
      refine R_sub [1, 2, 3, 0] rfl ?_
      exact hC_6 _ (Z_some hz)
    · have hz := Z_pos (show n64 (M names (Int.toNat l3_1)) = n64 (M 40 7) from (jcmp_eq.mp (Decidable.not_not.mp hc))) hz
      refine R_iload_n (pc := 21) 3 (dc k_N_find 13 rfl) rfl rfl ?_
      exact R_iret (pc := 22) (dc k_N_find 14 rfl) rfl rfl rfl ⟨_, rfl, rfl, (Z_some (hK_3 _ (hB_7 _ (Z_some hz))))⟩

set_option maxRecDepth 20000 in
theorem ct_N_findFact {E : Nat → Bool} {n : Nat} (hE : ∀ c, 1 ≤ c → c ≤ 80 → E c = true) (hn : 80 ≤ n) {M : Mem} {K : Int → Prop} (hz : Z (N_findFact M) K) : Mt y_N_findFact (1, 23, n, n, E) E [vR 27] M (qP M K) := by
  refine Mt.of (by decide) (lb rfl) (Nat.le_refl _) rfl ?_
  rw [N_findFact] at hz
  show Rr y_N_findFact (1, 23, n, n, E) (qP M K) 0 [(0, vR 27)] [] E n M
  refine R_aload_n (pc := 0) 0 (dc k_N_findFact 0 rfl) rfl rfl ?_
  refine R_aload_n (pc := 1) 0 (dc k_N_findFact 1 rfl) rfl rfl ?_
  refine R_getS (pc := 2) (ci := 3) (k := 2) 32 (dc k_N_findFact 2 rfl) fl_N_18 rfl (lb rfl) (Nat.le_trans (lb rfl) hn) (hE 27 (lb rfl) (lb rfl)) rfl (by decide) rfl ?_
  refine R_aload_n (pc := 5) 0 (dc k_N_findFact 3 rfl) rfl rfl ?_
  obtain ⟨hg_1, hz⟩ := Z_chk hz
  obtain ⟨t_2, ht_2, hz⟩ := Z_lt hz
  obtain ⟨hq_3, ht_2t⟩ := isTI.at' hg_1 ht_2
  have hnt_2t := qTn ht_2t hn
  have hEt_2t := qTE ht_2t hE
  refine R_getR (pc := 6) (ci := 3) (k := 16) t_2 (dc k_N_findFact 4 rfl) fl_N_54 rfl (lb rfl) (Nat.le_trans (lb rfl) hn) (Or.inr rfl) hq_3 (qT0 ht_2t) rfl ?_
  refine R_getI (pc := 9) (ci := 1) (k := 0) (dc k_N_findFact 5 rfl) fl_N_130 (lT ht_2t) (qT1 ht_2t) (qTn_0 hnt_2t) (rT_0 ht_2t) (Or.inl rfl) ?_
  refine R_cVP (pc := 12)  (As := [vR 32, vI (M t_2 0)]) (S := []) ck_N_133 (dc k_N_findFact 6 rfl) ⟨rfl, ⟨_, rfl, rfl⟩, (lb rfl), (Nat.le_trans (lb rfl) hn)⟩ (lb rfl) (lb rfl) (lb rfl) rfl (ct_N_find hE hn (Z_bind hz)) (fun r_4 hz => ?_)
  exact R_iret (pc := 15) (dc k_N_findFact 7 rfl) rfl rfl rfl ⟨_, rfl, rfl, (Z_some hz)⟩

set_option maxRecDepth 20000 in
theorem ct_N_findRow {E : Nat → Bool} {n : Nat} (hE : ∀ c, 1 ≤ c → c ≤ 80 → E c = true) (hn : 80 ≤ n) {M : Mem} {K : Int → Prop} (hz : Z (N_findRow M) K) : Mt y_N_findRow (1, 23, n, n, E) E [vR 27] M (qP M K) := by
  refine Mt.of (by decide) (lb rfl) (Nat.le_refl _) rfl ?_
  rw [N_findRow] at hz
  show Rr y_N_findRow (1, 23, n, n, E) (qP M K) 0 [(0, vR 27)] [] E n M
  refine R_aload_n (pc := 0) 0 (dc k_N_findRow 0 rfl) rfl rfl ?_
  refine R_aload_n (pc := 1) 0 (dc k_N_findRow 1 rfl) rfl rfl ?_
  refine R_getS (pc := 2) (ci := 3) (k := 4) 34 (dc k_N_findRow 2 rfl) fl_N_25 rfl (lb rfl) (Nat.le_trans (lb rfl) hn) (hE 27 (lb rfl) (lb rfl)) rfl (by decide) rfl ?_
  refine R_aload_n (pc := 5) 0 (dc k_N_findRow 3 rfl) rfl rfl ?_
  obtain ⟨hg_1, hz⟩ := Z_chk hz
  obtain ⟨t_2, ht_2, hz⟩ := Z_lt hz
  obtain ⟨hq_3, ht_2t⟩ := isTI.at' hg_1 ht_2
  have hnt_2t := qTn ht_2t hn
  have hEt_2t := qTE ht_2t hE
  refine R_getR (pc := 6) (ci := 3) (k := 16) t_2 (dc k_N_findRow 4 rfl) fl_N_54 rfl (lb rfl) (Nat.le_trans (lb rfl) hn) (Or.inr rfl) hq_3 (qT0 ht_2t) rfl ?_
  refine R_getI (pc := 9) (ci := 1) (k := 2) (dc k_N_findRow 5 rfl) fl_N_137 (lT ht_2t) (qT1 ht_2t) (qTn_0 hnt_2t) (rT_2 ht_2t) (Or.inl rfl) ?_
  refine R_cVP (pc := 12)  (As := [vR 34, vI (M t_2 2)]) (S := []) ck_N_133 (dc k_N_findRow 6 rfl) ⟨rfl, ⟨_, rfl, rfl⟩, (lb rfl), (Nat.le_trans (lb rfl) hn)⟩ (lb rfl) (lb rfl) (lb rfl) rfl (ct_N_find hE hn (Z_bind hz)) (fun r_4 hz => ?_)
  exact R_iret (pc := 15) (dc k_N_findRow 7 rfl) rfl rfl rfl ⟨_, rfl, rfl, (Z_some hz)⟩

set_option maxRecDepth 20000 in
theorem ct_N_takeName {E : Nat → Bool} {n : Nat} (hE : ∀ c, 1 ≤ c → c ≤ 80 → E c = true) (hn : 80 ≤ n) {M : Mem} {K : Int × Mem → Prop} (hz : Z (N_takeName M) K) : Mt y_N_takeName (3, 63, n, n, E) E [vR 27] M (qN K) := by
  refine Mt.of (by decide) (lb rfl) (Nat.le_refl _) rfl ?_
  rw [N_takeName] at hz
  show Rr y_N_takeName (3, 63, n, n, E) (qN K) 0 [(0, vR 27)] [] E n M
  refine R_aload_n (pc := 0) 0 (dc k_N_takeName 0 rfl) rfl rfl ?_
  refine R_getS (pc := 1) (ci := 3) (k := 0) 40 (dc k_N_takeName 1 rfl) fl_N_50 rfl (lb rfl) (Nat.le_trans (lb rfl) hn) (hE 27 (lb rfl) (lb rfl)) rfl (by decide) rfl ?_
  refine R_getJ (pc := 4) (ci := 2) (k := 7) (dc k_N_takeName 2 rfl) fl_N_112 rfl (lb rfl) (Nat.le_trans (lb rfl) hn) rfl rfl ?_
  obtain ⟨l1_1, hl1_1, hz⟩ := Z_lt hz
  refine R_lstore_nE (pc := 7) (L' := [(1, vJ l1_1), (0, vR 27)]) (dc k_N_takeName 3 rfl) rfl (lb rfl) hl1_1 rfl ?_
  refine R_aload_n (pc := 8) 1 (dc k_N_takeName 4 rfl) rfl rfl ?_
  refine R_getS (pc := 9) (ci := 3) (k := 0) 40 (dc k_N_takeName 5 rfl) fl_N_50 rfl (lb rfl) (Nat.le_trans (lb rfl) hn) (hE 27 (lb rfl) (lb rfl)) rfl (by decide) rfl ?_
  refine R_cVV (pc := 12)  (As := []) (S := []) ck_N_109 (dc k_N_takeName 6 rfl) ⟨rfl, ⟨_, rfl, rfl⟩, (lb rfl), (Nat.le_trans (lb rfl) hn)⟩ (lb rfl) (lb rfl) (lb rfl) rfl (ct_K_pass hE hn (Z_bind hz)) (fun M_2 hz => ?_)
  refine R_lload_n (pc := 15) 0 (dc k_N_takeName 7 rfl) rfl rfl ?_
  exact R_lret (pc := 16) (dc k_N_takeName 8 rfl) rfl rfl rfl ⟨_, rfl, (Z_some hz)⟩

set_option maxRecDepth 20000 in
theorem ct_N_readNewOfFactsAndRows {E : Nat → Bool} {n : Nat} (hE : ∀ c, 1 ≤ c → c ≤ 80 → E c = true) (hn : 80 ≤ n) {M : Mem} {K : Int × Mem → Prop} (hz : Z (N_readNewOfFactsAndRows M) K) : Mt y_N_readNewOfFactsAndRows (4, 85, n, n, E) E [vR 27] M (qN K) := by
  refine Mt.of (by decide) (lb rfl) (Nat.le_refl _) rfl ?_
  rw [N_readNewOfFactsAndRows] at hz
  show Rr y_N_readNewOfFactsAndRows (4, 85, n, n, E) (qN K) 0 [(0, vR 27)] [] E n M
  refine R_aload_n (pc := 0) 0 (dc k_N_readNewOfFactsAndRows 0 rfl) rfl rfl ?_
  refine R_cVM (pc := 1)  (As := []) (S := []) ck_N_116 (dc k_N_readNewOfFactsAndRows 1 rfl) ⟨rfl, ⟨_, rfl, rfl⟩, (lb rfl), (Nat.le_trans (lb rfl) hn)⟩ (lb rfl) (lb rfl) (lb rfl) rfl (ct_N_seesName hE hn (Z_bind hz)) (fun r_1 M_2 hz => ?_)
  obtain ⟨K_4, hK_5, hz⟩ := Z_cut hz
  have hJ_6 : ∀ (M_3 : Mem), K_4 M_3 → Rr y_N_readNewOfFactsAndRows (4, 85, n, n, E) (qN K) 31 [(0, vR 27)] [] E n M_3 := by
    intro M_3 hk
    have hz := hK_5 _ hk
    refine R_aload_n (pc := 31) 0 (dc k_N_readNewOfFactsAndRows 15 rfl) rfl rfl ?_
    refine R_cVN (pc := 32)  (As := []) (S := []) ck_N_126 (dc k_N_readNewOfFactsAndRows 16 rfl) ⟨rfl, ⟨_, rfl, rfl⟩, (lb rfl), (Nat.le_trans (lb rfl) hn)⟩ (lb rfl) (lb rfl) (lb rfl) rfl (ct_N_takeName hE hn (Z_bind hz)) (fun r_16 M_17 hz => ?_)
    exact R_lret (pc := 35) (dc k_N_readNewOfFactsAndRows 17 rfl) rfl rfl rfl ⟨_, rfl, (Z_some hz)⟩
  refine R_if_eq (pc := 4) 31 (dc k_N_readNewOfFactsAndRows 2 rfl) rfl (fun hc => ?_) (fun hc => ?_)
  · have hz := Z_neg (show ¬ (¬ n32 r_1 = 0) from (fun z => z hc)) hz
    exact hJ_6 _ (Z_some hz)
  · have hz := Z_pos (show ¬ n32 r_1 = 0 from hc) hz
    refine R_aload_n (pc := 7) 0 (dc k_N_readNewOfFactsAndRows 3 rfl) rfl rfl ?_
    refine R_cVP (pc := 8)  (As := []) (S := []) ck_N_119 (dc k_N_readNewOfFactsAndRows 4 rfl) ⟨rfl, ⟨_, rfl, rfl⟩, (lb rfl), (Nat.le_trans (lb rfl) hn)⟩ (lb rfl) (lb rfl) (lb rfl) rfl (ct_N_findFact hE hn (Z_bind hz)) (fun r_7 hz => ?_)
    refine R_iconst (pc := 11) (a := (-1)) (dc k_N_readNewOfFactsAndRows 5 rfl) ?_
    obtain ⟨K_8, hK_9, hz⟩ := Z_cut hz
    have hX_10 : K_8 true → Rr y_N_readNewOfFactsAndRows (4, 85, n, n, E) (qN K) 23 [(0, vR 27)] [] E n M_2 := by
      intro hk
      have hz := Z_pos rfl (hK_9 _ hk)
      refine R_aload_n (pc := 23) 0 (dc k_N_readNewOfFactsAndRows 11 rfl) rfl rfl ?_
      refine R_getS (pc := 24) (ci := 3) (k := 0) 40 (dc k_N_readNewOfFactsAndRows 12 rfl) fl_N_50 rfl (lb rfl) (Nat.le_trans (lb rfl) hn) (hE 27 (lb rfl) (lb rfl)) rfl (by decide) rfl ?_
      refine R_iconst (pc := 27) (a := 3) (dc k_N_readNewOfFactsAndRows 13 rfl) ?_
      refine R_cVV (pc := 28)  (As := [vI 3]) (S := []) ck_N_106 (dc k_N_readNewOfFactsAndRows 14 rfl) ⟨rfl, ⟨_, rfl, rfl⟩, (lb rfl), (Nat.le_trans (lb rfl) hn)⟩ (lb rfl) (lb rfl) (lb rfl) rfl (ct_K_fail hE hn (Z_bind hz)) (fun M_14 hz => ?_)
      exact hJ_6 _ (Z_some hz)
    have hY_11 : K_8 false → Rr y_N_readNewOfFactsAndRows (4, 85, n, n, E) (qN K) 31 [(0, vR 27)] [] E n M_2 := by
      intro hk
      have hz := Z_neg Bool.false_ne_true (hK_9 _ hk)
      exact hJ_6 _ (Z_some hz)
    refine R_icmp_ne (pc := 12) 23 (dc k_N_readNewOfFactsAndRows 6 rfl) rfl (fun hc => ?_) (fun hc => ?_)
    · have hz := Z_neg (show ¬ (n32 r_7 = (-1)) from hc) hz
      exact hX_10 (Z_some hz)
    · have hz := Z_pos (show n32 r_7 = (-1) from (Decidable.not_not.mp hc)) hz
      refine R_aload_n (pc := 15) 0 (dc k_N_readNewOfFactsAndRows 7 rfl) rfl rfl ?_
      refine R_cVP (pc := 16)  (As := []) (S := []) ck_N_123 (dc k_N_readNewOfFactsAndRows 8 rfl) ⟨rfl, ⟨_, rfl, rfl⟩, (lb rfl), (Nat.le_trans (lb rfl) hn)⟩ (lb rfl) (lb rfl) (lb rfl) rfl (ct_N_findRow hE hn (Z_bind hz)) (fun r_13 hz => ?_)
      refine R_iconst (pc := 19) (a := (-1)) (dc k_N_readNewOfFactsAndRows 9 rfl) ?_
      refine R_icmp_eq (pc := 20) 31 (dc k_N_readNewOfFactsAndRows 10 rfl) rfl (fun hc => ?_) (fun hc => ?_)
      · have hz := Z_neg (show ¬ (¬ n32 r_13 = (-1)) from (fun z => z hc)) hz
        exact hY_11 (Z_some hz)
      · have hz := Z_pos (show ¬ n32 r_13 = (-1) from hc) hz
        exact hX_10 (Z_some hz)

set_option maxRecDepth 20000 in
theorem ct_K_expect {E : Nat → Bool} {n : Nat} (hE : ∀ c, 1 ≤ c → c ≤ 80 → E c = true) (hn : 80 ≤ n) {wanted : Int} {M : Mem} {K : Mem → Prop} (hz : Z (K_expect wanted M) K) : Mt y_K_expect (3, 63, n, n, E) E [vR 40, vI wanted] M (qV K) := by
  refine Mt.of (by decide) (lb rfl) (Nat.le_refl _) rfl ?_
  rw [K_expect] at hz
  show Rr y_K_expect (3, 63, n, n, E) (qV K) 0 [(0, vR 40), (1, vI wanted)] [] E n M
  refine R_aload_n (pc := 0) 0 (dc k_K_expect 0 rfl) rfl rfl ?_
  refine R_getI (pc := 1) (ci := 2) (k := 4) (dc k_K_expect 1 rfl) fl_K_49 rfl (lb rfl) (Nat.le_trans (lb rfl) hn) rfl (Or.inl rfl) ?_
  refine R_iload_n (pc := 4) 1 (dc k_K_expect 2 rfl) rfl rfl ?_
  refine R_icmp_ne (pc := 5) 15 (dc k_K_expect 3 rfl) rfl (fun hc => ?_) (fun hc => ?_)
  · have hz := Z_neg (show ¬ (n32 (M 40 4) = n32 wanted) from hc) hz
    refine R_aload_n (pc := 15) 0 (dc k_K_expect 7 rfl) rfl rfl ?_
    refine R_iconst (pc := 16) (a := 2) (dc k_K_expect 8 rfl) ?_
    refine R_cVV (pc := 17)  (As := [vI 2]) (S := []) ck_K_77 (dc k_K_expect 9 rfl) ⟨rfl, ⟨_, rfl, rfl⟩, (lb rfl), (Nat.le_trans (lb rfl) hn)⟩ (lb rfl) (lb rfl) (lb rfl) rfl (ct_K_fail hE hn (Z_bind hz)) (fun M_2 hz => ?_)
    exact R_vret (pc := 20) (dc k_K_expect 10 rfl) rfl rfl rfl ⟨rfl, (Z_some hz)⟩
  · have hz := Z_pos (show n32 (M 40 4) = n32 wanted from (Decidable.not_not.mp hc)) hz
    refine R_aload_n (pc := 8) 0 (dc k_K_expect 4 rfl) rfl rfl ?_
    refine R_cVV (pc := 9)  (As := []) (S := []) ck_K_52 (dc k_K_expect 5 rfl) ⟨rfl, ⟨_, rfl, rfl⟩, (lb rfl), (Nat.le_trans (lb rfl) hn)⟩ (lb rfl) (lb rfl) (lb rfl) rfl (ct_K_pass hE hn (Z_bind hz)) (fun M_1 hz => ?_)
    refine R_goto (pc := 12) 20 (dc k_K_expect 6 rfl) rfl ?_
    exact R_vret (pc := 20) (dc k_K_expect 10 rfl) rfl rfl rfl ⟨rfl, (Z_some hz)⟩

set_option maxRecDepth 20000 in
theorem ct_N_readFact {E : Nat → Bool} {n : Nat} (hE : ∀ c, 1 ≤ c → c ≤ 80 → E c = true) (hn : 80 ≤ n) {M : Mem} {K : Mem → Prop} (hz : Z (N_readFact M) K) : Mt y_N_readFact (5, 105, n, n, E) E [vR 27] M (qV K) := by
  refine Mt.of (by decide) (lb rfl) (Nat.le_refl _) rfl ?_
  rw [N_readFact] at hz
  show Rr y_N_readFact (5, 105, n, n, E) (qV K) 0 [(0, vR 27)] [] E n M
  refine R_aload_n (pc := 0) 0 (dc k_N_readFact 0 rfl) rfl rfl ?_
  refine R_aload_n (pc := 1) 0 (dc k_N_readFact 1 rfl) rfl rfl ?_
  obtain ⟨hg_1, hz⟩ := Z_chk hz
  obtain ⟨t_2, ht_2, hz⟩ := Z_lt hz
  obtain ⟨hq_3, ht_2t⟩ := isTI.at' hg_1 ht_2
  have hnt_2t := qTn ht_2t hn
  have hEt_2t := qTE ht_2t hE
  refine R_getR (pc := 2) (ci := 3) (k := 16) t_2 (dc k_N_readFact 2 rfl) fl_N_54 rfl (lb rfl) (Nat.le_trans (lb rfl) hn) (Or.inr rfl) hq_3 (qT0 ht_2t) rfl ?_
  refine R_getI (pc := 5) (ci := 1) (k := 0) (dc k_N_readFact 3 rfl) fl_N_130 (lT ht_2t) (qT1 ht_2t) (qTn_0 hnt_2t) (rT_0 ht_2t) (Or.inl rfl) ?_
  refine R_bipush (pc := 8) (a := 8) (dc k_N_readFact 4 rfl) (by decide) ?_
  obtain ⟨K_5, hK_6, hz⟩ := Z_cut hz
  have hJ_7 : ∀ (v_4 : Int), K_5 v_4 → Rr y_N_readFact (5, 105, n, n, E) (qV K) 18 [(0, vR 27)] [vI v_4, vR 27] E n M := by
    intro v_4 hk
    have hz := hK_6 _ hk
    refine R_cVV (pc := 18)  (As := [vI v_4]) (S := []) ck_N_146 (dc k_N_readFact 9 rfl) ⟨rfl, ⟨_, rfl, rfl⟩, (lb rfl), (Nat.le_trans (lb rfl) hn)⟩ (lb rfl) (lb rfl) (lb rfl) rfl (ct_N_begin hE hn (Z_bind hz)) (fun M_9 hz => ?_)
    refine R_aload_n (pc := 21) 0 (dc k_N_readFact 10 rfl) rfl rfl ?_
    refine R_cVN (pc := 22)  (As := []) (S := []) ck_N_150 (dc k_N_readFact 11 rfl) ⟨rfl, ⟨_, rfl, rfl⟩, (lb rfl), (Nat.le_trans (lb rfl) hn)⟩ (lb rfl) (lb rfl) (lb rfl) rfl (ct_N_readNewOfFactsAndRows hE hn (Z_bind hz)) (fun r_10 M_11 hz => ?_)
    refine R_lstore_n (pc := 25) (L' := [(1, vJ r_10), (0, vR 27)]) (dc k_N_readFact 12 rfl) rfl (lb rfl) rfl ?_
    refine R_aload_n (pc := 26) 1 (dc k_N_readFact 13 rfl) rfl rfl ?_
    refine R_getS (pc := 27) (ci := 3) (k := 0) 40 (dc k_N_readFact 14 rfl) fl_N_50 rfl (lb rfl) (Nat.le_trans (lb rfl) hn) (hE 27 (lb rfl) (lb rfl)) rfl (by decide) rfl ?_
    refine R_bipush (pc := 30) (a := 59) (dc k_N_readFact 15 rfl) (by decide) ?_
    refine R_cVV (pc := 32)  (As := [vI 59]) (S := []) ck_N_153 (dc k_N_readFact 16 rfl) ⟨rfl, ⟨_, rfl, rfl⟩, (lb rfl), (Nat.le_trans (lb rfl) hn)⟩ (lb rfl) (lb rfl) (lb rfl) rfl (ct_K_expect hE hn (Z_bind hz)) (fun M_12 hz => ?_)
    refine R_aload_n (pc := 35) 1 (dc k_N_readFact 17 rfl) rfl rfl ?_
    refine R_getS (pc := 36) (ci := 3) (k := 0) 40 (dc k_N_readFact 18 rfl) fl_N_50 rfl (lb rfl) (Nat.le_trans (lb rfl) hn) (hE 27 (lb rfl) (lb rfl)) rfl (by decide) rfl ?_
    refine R_getI (pc := 39) (ci := 2) (k := 4) (dc k_N_readFact 19 rfl) fl_N_82 rfl (lb rfl) (Nat.le_trans (lb rfl) hn) rfl (Or.inl rfl) ?_
    refine R_bipush (pc := 42) (a := 24) (dc k_N_readFact 20 rfl) (by decide) ?_
    refine R_icmp_eq (pc := 44) 73 (dc k_N_readFact 21 rfl) rfl (fun hc => ?_) (fun hc => ?_)
    · have hz := Z_neg (show ¬ (¬ n32 (M_12 40 4) = 24) from (fun z => z hc)) hz
      exact R_vret (pc := 73) (dc k_N_readFact 36 rfl) rfl rfl rfl ⟨rfl, (Z_some hz)⟩
    · have hz := Z_pos (show ¬ n32 (M_12 40 4) = 24 from hc) hz
      refine R_aload_n (pc := 47) 1 (dc k_N_readFact 22 rfl) rfl rfl ?_
      refine R_getS (pc := 48) (ci := 3) (k := 2) 32 (dc k_N_readFact 23 rfl) fl_N_18 rfl (lb rfl) (Nat.le_trans (lb rfl) hn) (hE 27 (lb rfl) (lb rfl)) rfl (by decide) rfl ?_
      refine R_aload_n (pc := 51) 1 (dc k_N_readFact 24 rfl) rfl rfl ?_
      obtain ⟨hg_13, hz⟩ := Z_chk hz
      obtain ⟨t_14, ht_14, hz⟩ := Z_lt hz
      obtain ⟨hq_15, ht_14t⟩ := isTI.at' hg_13 ht_14
      have hnt_14t := qTn ht_14t hn
      have hEt_14t := qTE ht_14t hE
      refine R_getR (pc := 52) (ci := 3) (k := 16) t_14 (dc k_N_readFact 25 rfl) fl_N_54 rfl (lb rfl) (Nat.le_trans (lb rfl) hn) (Or.inr rfl) hq_15 (qT0 ht_14t) rfl ?_
      refine R_getI (pc := 55) (ci := 1) (k := 0) (dc k_N_readFact 26 rfl) fl_N_130 (lT ht_14t) (qT1 ht_14t) (qTn_0 hnt_14t) (rT_0 ht_14t) (Or.inl rfl) ?_
      refine R_lload_n (pc := 58) 0 (dc k_N_readFact 27 rfl) rfl rfl ?_
      obtain ⟨⟨hg_16, hg_17⟩, hz⟩ := Z_chk hz
      obtain ⟨M_18, hM_18, hz⟩ := Z_lt hz
      refine R_lastE (pc := 59) (dc k_N_readFact 28 rfl) rfl (lb rfl) (Nat.le_trans (lb rfl) hn) hg_16 hg_17 hM_18 ?_
      refine R_aload_n (pc := 60) 1 (dc k_N_readFact 29 rfl) rfl rfl ?_
      obtain ⟨hg_19, hz⟩ := Z_chk hz
      obtain ⟨t_20, ht_20, hz⟩ := Z_lt hz
      obtain ⟨hq_21, ht_20t⟩ := isTI.at' hg_19 ht_20
      have hnt_20t := qTn ht_20t hn
      have hEt_20t := qTE ht_20t hE
      refine R_getR (pc := 61) (ci := 3) (k := 16) t_20 (dc k_N_readFact 30 rfl) fl_N_54 rfl (lb rfl) (Nat.le_trans (lb rfl) hn) (Or.inr rfl) hq_21 (qT0 ht_20t) rfl ?_
      refine R_dup (pc := 64) (dc k_N_readFact 31 rfl) rfl ?_
      refine R_getI (pc := 65) (ci := 1) (k := 0) (dc k_N_readFact 32 rfl) fl_N_130 (lT ht_20t) (qT1 ht_20t) (qTn_0 hnt_20t) (rT_0 ht_20t) (Or.inl rfl) ?_
      refine R_iconst (pc := 68) (a := 1) (dc k_N_readFact 33 rfl) ?_
      refine R_iadd (pc := 69) (dc k_N_readFact 34 rfl) ?_
      obtain ⟨M_22, hM_22, hz⟩ := Z_lt hz
      refine R_putIE (pc := 70) (ci := 1) (k := 0) (dc k_N_readFact 35 rfl) fl_N_130 (lT ht_20t) (qT1 ht_20t) (qTn_0 hnt_20t) (rT_0 ht_20t) rfl rfl hM_22 ?_
      exact R_vret (pc := 73) (dc k_N_readFact 36 rfl) rfl rfl rfl ⟨rfl, (Z_some hz)⟩
  refine R_icmp_ge (pc := 10) 17 (dc k_N_readFact 5 rfl) rfl (fun hc => ?_) (fun hc => ?_)
  · have hz := Z_neg (show ¬ (n32 (M t_2 0) < 8) from (Int.not_lt.mpr hc)) hz
    refine R_iconst (pc := 17) (a := 0) (dc k_N_readFact 8 rfl) ?_
    exact hJ_7 _ (Z_some hz)
  · have hz := Z_pos (show n32 (M t_2 0) < 8 from (Int.not_le.mp hc)) hz
    refine R_iconst (pc := 13) (a := 1) (dc k_N_readFact 6 rfl) ?_
    refine R_goto (pc := 14) 18 (dc k_N_readFact 7 rfl) rfl ?_
    exact hJ_7 _ (Z_some hz)

set_option maxRecDepth 20000 in
theorem ct_N_readSmall {E : Nat → Bool} {n : Nat} (hE : ∀ c, 1 ≤ c → c ≤ 80 → E c = true) (hn : 80 ≤ n) {M : Mem} {K : Int × Mem → Prop} (hz : Z (N_readSmall M) K) : Mt y_N_readSmall (3, 63, n, n, E) E [vR 27] M (qM K) := by
  refine Mt.of (by decide) (lb rfl) (Nat.le_refl _) rfl ?_
  rw [N_readSmall] at hz
  show Rr y_N_readSmall (3, 63, n, n, E) (qM K) 0 [(0, vR 27)] [] E n M
  refine R_aload_n (pc := 0) 0 (dc k_N_readSmall 0 rfl) rfl rfl ?_
  refine R_getS (pc := 1) (ci := 3) (k := 0) 40 (dc k_N_readSmall 1 rfl) fl_N_50 rfl (lb rfl) (Nat.le_trans (lb rfl) hn) (hE 27 (lb rfl) (lb rfl)) rfl (by decide) rfl ?_
  refine R_getI (pc := 4) (ci := 2) (k := 4) (dc k_N_readSmall 2 rfl) fl_N_82 rfl (lb rfl) (Nat.le_trans (lb rfl) hn) rfl (Or.inl rfl) ?_
  refine R_bipush (pc := 7) (a := 22) (dc k_N_readSmall 3 rfl) (by decide) ?_
  obtain ⟨K_2, hK_3, hz⟩ := Z_cut hz
  have hJ_4 : ∀ (M_1 : Mem), K_2 M_1 → Rr y_N_readSmall (3, 63, n, n, E) (qM K) 43 [(0, vR 27)] [] E n M_1 := by
    intro M_1 hk
    have hz := hK_3 _ hk
    refine R_aload_n (pc := 43) 0 (dc k_N_readSmall 19 rfl) rfl rfl ?_
    refine R_getS (pc := 44) (ci := 3) (k := 0) 40 (dc k_N_readSmall 20 rfl) fl_N_50 rfl (lb rfl) (Nat.le_trans (lb rfl) hn) (hE 27 (lb rfl) (lb rfl)) rfl (by decide) rfl ?_
    refine R_getI (pc := 47) (ci := 2) (k := 6) (dc k_N_readSmall 21 rfl) fl_N_143 rfl (lb rfl) (Nat.le_trans (lb rfl) hn) rfl (Or.inl rfl) ?_
    obtain ⟨l1_9, hl1_9, hz⟩ := Z_lt hz
    refine R_istore_nE (pc := 50) (L' := [(1, vI l1_9), (0, vR 27)]) (dc k_N_readSmall 22 rfl) rfl (lb rfl) hl1_9 rfl ?_
    refine R_aload_n (pc := 51) 1 (dc k_N_readSmall 23 rfl) rfl rfl ?_
    refine R_getS (pc := 52) (ci := 3) (k := 0) 40 (dc k_N_readSmall 24 rfl) fl_N_50 rfl (lb rfl) (Nat.le_trans (lb rfl) hn) (hE 27 (lb rfl) (lb rfl)) rfl (by decide) rfl ?_
    refine R_cVV (pc := 55)  (As := []) (S := []) ck_N_109 (dc k_N_readSmall 25 rfl) ⟨rfl, ⟨_, rfl, rfl⟩, (lb rfl), (Nat.le_trans (lb rfl) hn)⟩ (lb rfl) (lb rfl) (lb rfl) rfl (ct_K_pass hE hn (Z_bind hz)) (fun M_10 hz => ?_)
    refine R_iload_n (pc := 58) 0 (dc k_N_readSmall 26 rfl) rfl rfl ?_
    exact R_iret (pc := 59) (dc k_N_readSmall 27 rfl) rfl rfl rfl ⟨_, rfl, (Z_some hz)⟩
  refine R_icmp_eq (pc := 9) 23 (dc k_N_readSmall 4 rfl) rfl (fun hc => ?_) (fun hc => ?_)
  · have hz := Z_neg (show ¬ (¬ n32 (M 40 4) = 22) from (fun z => z hc)) hz
    refine R_aload_n (pc := 23) 0 (dc k_N_readSmall 10 rfl) rfl rfl ?_
    refine R_getS (pc := 24) (ci := 3) (k := 0) 40 (dc k_N_readSmall 11 rfl) fl_N_50 rfl (lb rfl) (Nat.le_trans (lb rfl) hn) (hE 27 (lb rfl) (lb rfl)) rfl (by decide) rfl ?_
    refine R_getI (pc := 27) (ci := 2) (k := 6) (dc k_N_readSmall 12 rfl) fl_N_143 rfl (lb rfl) (Nat.le_trans (lb rfl) hn) rfl (Or.inl rfl) ?_
    refine R_bipush (pc := 30) (a := 99) (dc k_N_readSmall 13 rfl) (by decide) ?_
    refine R_icmp_le (pc := 32) 43 (dc k_N_readSmall 14 rfl) rfl (fun hc => ?_) (fun hc => ?_)
    · have hz := Z_neg (show ¬ (99 < n32 (M 40 6)) from (Int.not_lt.mpr hc)) hz
      exact hJ_4 _ (Z_some hz)
    · have hz := Z_pos (show 99 < n32 (M 40 6) from (Int.not_le.mp hc)) hz
      refine R_aload_n (pc := 35) 0 (dc k_N_readSmall 15 rfl) rfl rfl ?_
      refine R_getS (pc := 36) (ci := 3) (k := 0) 40 (dc k_N_readSmall 16 rfl) fl_N_50 rfl (lb rfl) (Nat.le_trans (lb rfl) hn) (hE 27 (lb rfl) (lb rfl)) rfl (by decide) rfl ?_
      refine R_iconst (pc := 39) (a := 4) (dc k_N_readSmall 17 rfl) ?_
      refine R_cVV (pc := 40)  (As := [vI 4]) (S := []) ck_N_106 (dc k_N_readSmall 18 rfl) ⟨rfl, ⟨_, rfl, rfl⟩, (lb rfl), (Nat.le_trans (lb rfl) hn)⟩ (lb rfl) (lb rfl) (lb rfl) rfl (ct_K_fail hE hn (Z_bind hz)) (fun M_6 hz => ?_)
      exact hJ_4 _ (Z_some hz)
  · have hz := Z_pos (show ¬ n32 (M 40 4) = 22 from hc) hz
    refine R_aload_n (pc := 12) 0 (dc k_N_readSmall 5 rfl) rfl rfl ?_
    refine R_getS (pc := 13) (ci := 3) (k := 0) 40 (dc k_N_readSmall 6 rfl) fl_N_50 rfl (lb rfl) (Nat.le_trans (lb rfl) hn) (hE 27 (lb rfl) (lb rfl)) rfl (by decide) rfl ?_
    refine R_iconst (pc := 16) (a := 2) (dc k_N_readSmall 7 rfl) ?_
    refine R_cVV (pc := 17)  (As := [vI 2]) (S := []) ck_N_106 (dc k_N_readSmall 8 rfl) ⟨rfl, ⟨_, rfl, rfl⟩, (lb rfl), (Nat.le_trans (lb rfl) hn)⟩ (lb rfl) (lb rfl) (lb rfl) rfl (ct_K_fail hE hn (Z_bind hz)) (fun M_5 hz => ?_)
    refine R_goto (pc := 20) 43 (dc k_N_readSmall 9 rfl) rfl ?_
    exact hJ_4 _ (Z_some hz)

set_option maxRecDepth 20000 in
theorem ct_X_hasBit {E : Nat → Bool} {n : Nat} (hE : ∀ c, 1 ≤ c → c ≤ 80 → E c = true) (hn : 80 ≤ n) {bits : Int} {i : Int} {M : Mem} {K : Int → Prop} (hz : Z (X_hasBit bits i M) K) : Mt y_X_hasBit (0, 0, n, n, E) E [vI bits, vI i] M (qP M K) := by
  refine Mt.of (by decide) (lb rfl) (Nat.le_refl _) rfl ?_
  rw [X_hasBit] at hz
  show Rr y_X_hasBit (0, 0, n, n, E) (qP M K) 0 [(0, vI bits), (1, vI i)] [] E n M
  refine R_iload_n (pc := 0) 0 (dc k_X_hasBit 0 rfl) rfl rfl ?_
  refine R_iload_n (pc := 1) 1 (dc k_X_hasBit 1 rfl) rfl rfl ?_
  refine R_ishr (pc := 2) (dc k_X_hasBit 2 rfl) ?_
  refine R_iconst (pc := 3) (a := 1) (dc k_X_hasBit 3 rfl) ?_
  refine R_iand (pc := 4) (dc k_X_hasBit 4 rfl) ?_
  refine R_if_eq (pc := 5) 12 (dc k_X_hasBit 5 rfl) rfl (fun hc => ?_) (fun hc => ?_)
  · have hz := Z_neg (show ¬ (¬ n32 (iand (ishr bits i) 1) = 0) from (fun z => z hc)) hz
    refine R_iconst (pc := 12) (a := 0) (dc k_X_hasBit 8 rfl) ?_
    exact R_zret (pc := 13) (dc k_X_hasBit 9 rfl) rfl (Or.inl rfl) rfl rfl ⟨_, rfl, rfl, (Z_some hz)⟩
  · have hz := Z_pos (show ¬ n32 (iand (ishr bits i) 1) = 0 from hc) hz
    refine R_iconst (pc := 8) (a := 1) (dc k_X_hasBit 6 rfl) ?_
    refine R_goto (pc := 9) 13 (dc k_X_hasBit 7 rfl) rfl ?_
    exact R_zret (pc := 13) (dc k_X_hasBit 9 rfl) rfl (Or.inr rfl) rfl rfl ⟨_, rfl, rfl, (Z_some hz)⟩

set_option maxRecDepth 20000 in
theorem ct_N_readFactBit {E : Nat → Bool} {n : Nat} (hE : ∀ c, 1 ≤ c → c ≤ 80 → E c = true) (hn : 80 ≤ n) {known : Int} {M : Mem} {K : Int × Mem → Prop} (hz : Z (N_readFactBit known M) K) : Mt y_N_readFactBit (3, 63, n, n, E) E [vR 27, vI known] M (qM K) := by
  refine Mt.of (by decide) (lb rfl) (Nat.le_refl _) rfl ?_
  rw [N_readFactBit] at hz
  show Rr y_N_readFactBit (3, 63, n, n, E) (qM K) 0 [(0, vR 27), (1, vI known)] [] E n M
  refine R_aload_n (pc := 0) 0 (dc k_N_readFactBit 0 rfl) rfl rfl ?_
  refine R_cVM (pc := 1)  (As := []) (S := []) ck_N_116 (dc k_N_readFactBit 1 rfl) ⟨rfl, ⟨_, rfl, rfl⟩, (lb rfl), (Nat.le_trans (lb rfl) hn)⟩ (lb rfl) (lb rfl) (lb rfl) rfl (ct_N_seesName hE hn (Z_bind hz)) (fun r_1 M_2 hz => ?_)
  obtain ⟨K_4, hK_5, hz⟩ := Z_cut hz
  have hJ_6 : ∀ (v_3 : Int), K_4 v_3 → Rr y_N_readFactBit (3, 63, n, n, E) (qM K) 15 [(0, vR 27), (1, vI known)] [vI v_3] E n M_2 := by
    intro v_3 hk
    have hz := hK_5 _ hk
    refine R_istore_n (pc := 15) (L' := [(2, vI v_3), (0, vR 27), (1, vI known)]) (dc k_N_readFactBit 7 rfl) rfl (lb rfl) rfl ?_
    refine R_iload_n (pc := 16) 0 (dc k_N_readFactBit 8 rfl) rfl rfl ?_
    refine R_iconst (pc := 17) (a := (-1)) (dc k_N_readFactBit 9 rfl) ?_
    refine R_icmp_ne (pc := 18) 31 (dc k_N_readFactBit 10 rfl) rfl (fun hc => ?_) (fun hc => ?_)
    · have hz := Z_neg (show ¬ (n32 v_3 = (-1)) from hc) hz
      refine R_iload_n (pc := 31) 2 (dc k_N_readFactBit 17 rfl) rfl rfl ?_
      refine R_iload_n (pc := 32) 0 (dc k_N_readFactBit 18 rfl) rfl rfl ?_
      refine R_cSP (pc := 33)  (As := [vI known, vI v_3]) (S := []) ck_N_172 (dc k_N_readFactBit 19 rfl) (lb rfl) (lb rfl) (lb rfl) rfl (ct_X_hasBit hE hn (Z_bind hz)) (fun r_10 hz => ?_)
      obtain ⟨K_12, hK_13, hz⟩ := Z_cut hz
      have hJ_14 : ∀ (M_11 : Mem), K_12 M_11 → Rr y_N_readFactBit (3, 63, n, n, E) (qM K) 47 [(0, vR 27), (2, vI v_3)] [] E n M_11 := by
        intro M_11 hk
        have hz := hK_13 _ hk
        refine R_aload_n (pc := 47) 0 (dc k_N_readFactBit 25 rfl) rfl rfl ?_
        refine R_getS (pc := 48) (ci := 3) (k := 0) 40 (dc k_N_readFactBit 26 rfl) fl_N_50 rfl (lb rfl) (Nat.le_trans (lb rfl) hn) (hE 27 (lb rfl) (lb rfl)) rfl (by decide) rfl ?_
        refine R_cVV (pc := 51)  (As := []) (S := []) ck_N_109 (dc k_N_readFactBit 27 rfl) ⟨rfl, ⟨_, rfl, rfl⟩, (lb rfl), (Nat.le_trans (lb rfl) hn)⟩ (lb rfl) (lb rfl) (lb rfl) rfl (ct_K_pass hE hn (Z_bind hz)) (fun M_17 hz => ?_)
        refine R_iconst (pc := 54) (a := 1) (dc k_N_readFactBit 28 rfl) ?_
        refine R_iload_n (pc := 55) 1 (dc k_N_readFactBit 29 rfl) rfl rfl ?_
        refine R_ishl (pc := 56) (dc k_N_readFactBit 30 rfl) ?_
        exact R_iret (pc := 57) (dc k_N_readFactBit 31 rfl) rfl rfl rfl ⟨_, rfl, (Z_some hz)⟩
      refine R_if_eq (pc := 36) 47 (dc k_N_readFactBit 20 rfl) rfl (fun hc => ?_) (fun hc => ?_)
      · have hz := Z_neg (show ¬ (¬ n32 r_10 = 0) from (fun z => z hc)) hz
        refine R_sub [1, 0] rfl ?_
        exact hJ_14 _ (Z_some hz)
      · have hz := Z_pos (show ¬ n32 r_10 = 0 from hc) hz
        refine R_aload_n (pc := 39) 1 (dc k_N_readFactBit 21 rfl) rfl rfl ?_
        refine R_getS (pc := 40) (ci := 3) (k := 0) 40 (dc k_N_readFactBit 22 rfl) fl_N_50 rfl (lb rfl) (Nat.le_trans (lb rfl) hn) (hE 27 (lb rfl) (lb rfl)) rfl (by decide) rfl ?_
        refine R_iconst (pc := 43) (a := 3) (dc k_N_readFactBit 23 rfl) ?_
        refine R_cVV (pc := 44)  (As := [vI 3]) (S := []) ck_N_106 (dc k_N_readFactBit 24 rfl) ⟨rfl, ⟨_, rfl, rfl⟩, (lb rfl), (Nat.le_trans (lb rfl) hn)⟩ (lb rfl) (lb rfl) (lb rfl) rfl (ct_K_fail hE hn (Z_bind hz)) (fun M_15 hz => ?_)
        refine R_sub [1, 0] rfl ?_
        exact hJ_14 _ (Z_some hz)
    · have hz := Z_pos (show n32 v_3 = (-1) from (Decidable.not_not.mp hc)) hz
      refine R_aload_n (pc := 21) 1 (dc k_N_readFactBit 11 rfl) rfl rfl ?_
      refine R_getS (pc := 22) (ci := 3) (k := 0) 40 (dc k_N_readFactBit 12 rfl) fl_N_50 rfl (lb rfl) (Nat.le_trans (lb rfl) hn) (hE 27 (lb rfl) (lb rfl)) rfl (by decide) rfl ?_
      refine R_iconst (pc := 25) (a := 5) (dc k_N_readFactBit 13 rfl) ?_
      refine R_cVV (pc := 26)  (As := [vI 5]) (S := []) ck_N_106 (dc k_N_readFactBit 14 rfl) ⟨rfl, ⟨_, rfl, rfl⟩, (lb rfl), (Nat.le_trans (lb rfl) hn)⟩ (lb rfl) (lb rfl) (lb rfl) rfl (ct_K_fail hE hn (Z_bind hz)) (fun M_9 hz => ?_)
      refine R_iconst (pc := 29) (a := 0) (dc k_N_readFactBit 15 rfl) ?_
      exact R_iret (pc := 30) (dc k_N_readFactBit 16 rfl) rfl rfl rfl ⟨_, rfl, (Z_some hz)⟩
  refine R_if_eq (pc := 4) 14 (dc k_N_readFactBit 2 rfl) rfl (fun hc => ?_) (fun hc => ?_)
  · have hz := Z_neg (show ¬ (¬ n32 r_1 = 0) from (fun z => z hc)) hz
    refine R_iconst (pc := 14) (a := (-1)) (dc k_N_readFactBit 6 rfl) ?_
    exact hJ_6 _ (Z_some hz)
  · have hz := Z_pos (show ¬ n32 r_1 = 0 from hc) hz
    refine R_aload_n (pc := 7) 0 (dc k_N_readFactBit 3 rfl) rfl rfl ?_
    refine R_cVP (pc := 8)  (As := []) (S := []) ck_N_119 (dc k_N_readFactBit 4 rfl) ⟨rfl, ⟨_, rfl, rfl⟩, (lb rfl), (Nat.le_trans (lb rfl) hn)⟩ (lb rfl) (lb rfl) (lb rfl) rfl (ct_N_findFact hE hn (Z_bind hz)) (fun r_7 hz => ?_)
    refine R_goto (pc := 11) 15 (dc k_N_readFactBit 5 rfl) rfl ?_
    exact hJ_6 _ (Z_some hz)

set_option maxRecDepth 20000 in
theorem ct_N_readKnown {E : Nat → Bool} {n : Nat} (hE : ∀ c, 1 ≤ c → c ≤ 80 → E c = true) (hn : 80 ≤ n) {M : Mem} {K : Int × Mem → Prop} (hz : Z (N_readKnown M) K) : Mt y_N_readKnown (4, 85, n, n, E) E [vR 27] M (qM K) := by
  refine Mt.of (by decide) (lb rfl) (Nat.le_refl _) rfl ?_
  rw [N_readKnown] at hz
  show Rr y_N_readKnown (4, 85, n, n, E) (qM K) 0 [(0, vR 27)] [] E n M
  refine R_aload_n (pc := 0) 0 (dc k_N_readKnown 0 rfl) rfl rfl ?_
  refine R_iconst (pc := 1) (a := 0) (dc k_N_readKnown 1 rfl) ?_
  refine R_cVM (pc := 2)  (As := [vI 0]) (S := []) ck_N_168 (dc k_N_readKnown 2 rfl) ⟨rfl, ⟨_, rfl, rfl⟩, (lb rfl), (Nat.le_trans (lb rfl) hn)⟩ (lb rfl) (lb rfl) (lb rfl) rfl (ct_N_readFactBit hE hn (Z_bind hz)) (fun r_1 M_2 hz => ?_)
  refine R_istore_n (pc := 5) (L' := [(1, vI r_1), (0, vR 27)]) (dc k_N_readKnown 3 rfl) rfl (lb rfl) rfl ?_
  refine R_iconst (pc := 6) (a := 0) (dc k_N_readKnown 4 rfl) ?_
  refine R_istore_n (pc := 7) (L' := [(2, vI 0), (1, vI r_1), (0, vR 27)]) (dc k_N_readKnown 5 rfl) rfl (lb rfl) rfl ?_
  obtain ⟨K_6, hK_7, hz⟩ := Z_cut hz
  have hX_8 : ∀ (l1_12 : Int) (M_13 : Mem), K_6 (l1_12, M_13) → Rr y_N_readKnown (4, 85, n, n, E) (qM K) 40 [(1, vI l1_12)] [] E n M_13 := by
    intro l1_12 M_13 hk
    have hz := hK_7 _ hk
    refine R_iload_n (pc := 40) 0 (dc k_N_readKnown 22 rfl) rfl rfl ?_
    exact R_iret (pc := 41) (dc k_N_readKnown 23 rfl) rfl rfl rfl ⟨_, rfl, (Z_some hz)⟩
  refine R_sub [2, 1, 0] rfl ?_
  refine it_R (C := fun aZ : Int × Int × Mem => Rr y_N_readKnown (4, 85, n, n, E) (qM K) 8 [(0, vR 27), (1, vI aZ.1), (2, vI aZ.2.1)] [] E n aZ.2.2) (fun aZ K_9 hC_10 hB_11 hz => ?_) FUEL (r_1, 0, M_2) hz
  obtain ⟨l1_3, l2_4, M_5⟩ := aZ
  rw [N_readKnown_b8] at hz
  show Rr y_N_readKnown (4, 85, n, n, E) (qM K) 8 [(0, vR 27), (1, vI l1_3), (2, vI l2_4)] [] E n M_5
  refine R_iload_n (pc := 8) 2 (dc k_N_readKnown 6 rfl) rfl rfl ?_
  refine R_bipush (pc := 9) (a := 8) (dc k_N_readKnown 7 rfl) (by decide) ?_
  have hX_18 : ((n32 l2_4 < 8) ∧ (n32 (M_5 40 4) = 21)) → Rr y_N_readKnown (4, 85, n, n, E) (qM K) 26 [(0, vR 27), (1, vI l1_3), (2, vI l2_4)] [] E n M_5 := by
    intro hc
    have hz := Z_pos hc hz
    refine R_iload_n (pc := 26) 1 (dc k_N_readKnown 14 rfl) rfl rfl ?_
    refine R_aload_n (pc := 27) 0 (dc k_N_readKnown 15 rfl) rfl rfl ?_
    refine R_iload_n (pc := 28) 1 (dc k_N_readKnown 16 rfl) rfl rfl ?_
    refine R_cVM (pc := 29)  (As := [vI l1_3]) (S := [vI l1_3]) ck_N_168 (dc k_N_readKnown 17 rfl) ⟨rfl, ⟨_, rfl, rfl⟩, (lb rfl), (Nat.le_trans (lb rfl) hn)⟩ (lb rfl) (lb rfl) (lb rfl) rfl (ct_N_readFactBit hE hn (Z_bind hz)) (fun r_14 M_15 hz => ?_)
    refine R_ior (pc := 32) (dc k_N_readKnown 18 rfl) ?_
    obtain ⟨l1_16, hl1_16, hz⟩ := Z_lt hz
    refine R_istore_nE (pc := 33) (L' := [(1, vI l1_16), (0, vR 27), (2, vI l2_4)]) (dc k_N_readKnown 19 rfl) rfl (lb rfl) hl1_16 rfl ?_
    obtain ⟨l2_17, hl2_17, hz⟩ := Z_lt hz
    refine R_iincE (pc := 34) (L' := [(2, vI l2_17), (1, vI l1_16), (0, vR 27)]) 2 (dc k_N_readKnown 20 rfl) rfl (lb rfl) hl2_17 rfl ?_
    refine R_goto (pc := 37) 8 (dc k_N_readKnown 21 rfl) rfl ?_
    refine R_sub [2, 1, 0] rfl ?_
    exact hC_10 _ (Z_some hz)
  have hY_19 : ¬ ((n32 l2_4 < 8) ∧ (n32 (M_5 40 4) = 21)) → Rr y_N_readKnown (4, 85, n, n, E) (qM K) 40 [(0, vR 27), (1, vI l1_3), (2, vI l2_4)] [] E n M_5 := by
    intro hc
    have hz := Z_neg hc hz
    refine R_sub [1] rfl ?_
    exact hX_8 _ _ (hB_11 _ (Z_some hz))
  refine R_icmp_ge (pc := 11) 40 (dc k_N_readKnown 8 rfl) rfl (fun hc => ?_) (fun hc => ?_)
  · have hc_20 : 8 ≤ n32 l2_4 := hc
    exact hY_19 (fun z => (Int.not_lt.mpr hc_20) z.1)
  · have hc_21 : n32 l2_4 < 8 := (Int.not_le.mp hc)
    refine R_aload_n (pc := 14) 0 (dc k_N_readKnown 9 rfl) rfl rfl ?_
    refine R_getS (pc := 15) (ci := 3) (k := 0) 40 (dc k_N_readKnown 10 rfl) fl_N_50 rfl (lb rfl) (Nat.le_trans (lb rfl) hn) (hE 27 (lb rfl) (lb rfl)) rfl (by decide) rfl ?_
    refine R_getI (pc := 18) (ci := 2) (k := 4) (dc k_N_readKnown 11 rfl) fl_N_82 rfl (lb rfl) (Nat.le_trans (lb rfl) hn) rfl (Or.inl rfl) ?_
    refine R_bipush (pc := 21) (a := 21) (dc k_N_readKnown 12 rfl) (by decide) ?_
    refine R_icmp_ne (pc := 23) 40 (dc k_N_readKnown 13 rfl) rfl (fun hc => ?_) (fun hc => ?_)
    · have hc_22 : ¬ n32 (M_5 40 4) = 21 := hc
      exact hY_19 (fun z => hc_22 z.2)
    · have hc_23 : n32 (M_5 40 4) = 21 := (Decidable.not_not.mp hc)
      exact hX_18 ⟨hc_21, hc_23⟩

set_option maxRecDepth 20000 in
theorem ct_N_readPerson {E : Nat → Bool} {n : Nat} (hE : ∀ c, 1 ≤ c → c ≤ 80 → E c = true) (hn : 80 ≤ n) {M : Mem} {K : Mem → Prop} (hz : Z (N_readPerson M) K) : Mt y_N_readPerson (5, 107, n, n, E) E [vR 27] M (qV K) := by
  refine Mt.of (by decide) (lb rfl) (Nat.le_refl _) rfl ?_
  rw [N_readPerson] at hz
  show Rr y_N_readPerson (5, 107, n, n, E) (qV K) 0 [(0, vR 27)] [] E n M
  refine R_aload_n (pc := 0) 0 (dc k_N_readPerson 0 rfl) rfl rfl ?_
  refine R_aload_n (pc := 1) 0 (dc k_N_readPerson 1 rfl) rfl rfl ?_
  obtain ⟨hg_1, hz⟩ := Z_chk hz
  obtain ⟨t_2, ht_2, hz⟩ := Z_lt hz
  obtain ⟨hq_3, ht_2t⟩ := isTI.at' hg_1 ht_2
  have hnt_2t := qTn ht_2t hn
  have hEt_2t := qTE ht_2t hE
  refine R_getR (pc := 2) (ci := 3) (k := 16) t_2 (dc k_N_readPerson 2 rfl) fl_N_54 rfl (lb rfl) (Nat.le_trans (lb rfl) hn) (Or.inr rfl) hq_3 (qT0 ht_2t) rfl ?_
  refine R_getI (pc := 5) (ci := 1) (k := 1) (dc k_N_readPerson 3 rfl) fl_N_140 (lT ht_2t) (qT1 ht_2t) (qTn_0 hnt_2t) (rT_1 ht_2t) (Or.inl rfl) ?_
  refine R_bipush (pc := 8) (a := 8) (dc k_N_readPerson 4 rfl) (by decide) ?_
  obtain ⟨K_5, hK_6, hz⟩ := Z_cut hz
  have hJ_7 : ∀ (v_4 : Int), K_5 v_4 → Rr y_N_readPerson (5, 107, n, n, E) (qV K) 18 [(0, vR 27)] [vI v_4, vR 27] E n M := by
    intro v_4 hk
    have hz := hK_6 _ hk
    refine R_cVV (pc := 18)  (As := [vI v_4]) (S := []) ck_N_146 (dc k_N_readPerson 9 rfl) ⟨rfl, ⟨_, rfl, rfl⟩, (lb rfl), (Nat.le_trans (lb rfl) hn)⟩ (lb rfl) (lb rfl) (lb rfl) rfl (ct_N_begin hE hn (Z_bind hz)) (fun M_9 hz => ?_)
    refine R_aload_n (pc := 21) 0 (dc k_N_readPerson 10 rfl) rfl rfl ?_
    refine R_cVM (pc := 22)  (As := []) (S := []) ck_N_116 (dc k_N_readPerson 11 rfl) ⟨rfl, ⟨_, rfl, rfl⟩, (lb rfl), (Nat.le_trans (lb rfl) hn)⟩ (lb rfl) (lb rfl) (lb rfl) rfl (ct_N_seesName hE hn (Z_bind hz)) (fun r_10 M_11 hz => ?_)
    obtain ⟨K_13, hK_14, hz⟩ := Z_cut hz
    have hJ_15 : ∀ (M_12 : Mem), K_13 M_12 → Rr y_N_readPerson (5, 107, n, n, E) (qV K) 55 [(0, vR 27)] [] E n M_12 := by
      intro M_12 hk
      have hz := hK_14 _ hk
      refine R_aload_n (pc := 55) 0 (dc k_N_readPerson 26 rfl) rfl rfl ?_
      refine R_cVN (pc := 56)  (As := []) (S := []) ck_N_126 (dc k_N_readPerson 27 rfl) ⟨rfl, ⟨_, rfl, rfl⟩, (lb rfl), (Nat.le_trans (lb rfl) hn)⟩ (lb rfl) (lb rfl) (lb rfl) rfl (ct_N_takeName hE hn (Z_bind hz)) (fun r_26 M_27 hz => ?_)
      refine R_lstore_n (pc := 59) (L' := [(1, vJ r_26), (0, vR 27)]) (dc k_N_readPerson 28 rfl) rfl (lb rfl) rfl ?_
      refine R_aload_n (pc := 60) 1 (dc k_N_readPerson 29 rfl) rfl rfl ?_
      refine R_getS (pc := 61) (ci := 3) (k := 0) 40 (dc k_N_readPerson 30 rfl) fl_N_50 rfl (lb rfl) (Nat.le_trans (lb rfl) hn) (hE 27 (lb rfl) (lb rfl)) rfl (by decide) rfl ?_
      refine R_iconst (pc := 64) (a := 3) (dc k_N_readPerson 31 rfl) ?_
      refine R_cVV (pc := 65)  (As := [vI 3]) (S := []) ck_N_153 (dc k_N_readPerson 32 rfl) ⟨rfl, ⟨_, rfl, rfl⟩, (lb rfl), (Nat.le_trans (lb rfl) hn)⟩ (lb rfl) (lb rfl) (lb rfl) rfl (ct_K_expect hE hn (Z_bind hz)) (fun M_28 hz => ?_)
      refine R_aload_n (pc := 68) 1 (dc k_N_readPerson 33 rfl) rfl rfl ?_
      refine R_cVM (pc := 69)  (As := []) (S := []) ck_N_156 (dc k_N_readPerson 34 rfl) ⟨rfl, ⟨_, rfl, rfl⟩, (lb rfl), (Nat.le_trans (lb rfl) hn)⟩ (lb rfl) (lb rfl) (lb rfl) rfl (ct_N_readSmall hE hn (Z_bind hz)) (fun r_29 M_30 hz => ?_)
      refine R_istore_n (pc := 72) (L' := [(3, vI r_29), (1, vJ r_26), (0, vR 27)]) (dc k_N_readPerson 35 rfl) rfl (lb rfl) rfl ?_
      refine R_iconst (pc := 73) (a := 0) (dc k_N_readPerson 36 rfl) ?_
      refine R_istore (pc := 74) (L' := [(4, vI 0), (3, vI r_29), (1, vJ r_26), (0, vR 27)]) (dc k_N_readPerson 37 rfl) (lb rfl) rfl ?_
      refine R_aload_n (pc := 76) 3 (dc k_N_readPerson 38 rfl) rfl rfl ?_
      refine R_getS (pc := 77) (ci := 3) (k := 0) 40 (dc k_N_readPerson 39 rfl) fl_N_50 rfl (lb rfl) (Nat.le_trans (lb rfl) hn) (hE 27 (lb rfl) (lb rfl)) rfl (by decide) rfl ?_
      refine R_getI (pc := 80) (ci := 2) (k := 4) (dc k_N_readPerson 40 rfl) fl_N_82 rfl (lb rfl) (Nat.le_trans (lb rfl) hn) rfl (Or.inl rfl) ?_
      refine R_iconst (pc := 83) (a := 4) (dc k_N_readPerson 41 rfl) ?_
      obtain ⟨K_33, hK_34, hz⟩ := Z_cut hz
      have hJ_35 : ∀ (l4_31 : Int) (M_32 : Mem), K_33 (l4_31, M_32) → Rr y_N_readPerson (5, 107, n, n, E) (qV K) 100 [(0, vR 27), (1, vJ r_26), (3, vI r_29), (4, vI l4_31)] [] E n M_32 := by
        intro l4_31 M_32 hk
        have hz := hK_34 _ hk
        refine R_aload_n (pc := 100) 0 (dc k_N_readPerson 49 rfl) rfl rfl ?_
        refine R_getS (pc := 101) (ci := 3) (k := 0) 40 (dc k_N_readPerson 50 rfl) fl_N_50 rfl (lb rfl) (Nat.le_trans (lb rfl) hn) (hE 27 (lb rfl) (lb rfl)) rfl (by decide) rfl ?_
        refine R_bipush (pc := 104) (a := 59) (dc k_N_readPerson 51 rfl) (by decide) ?_
        refine R_cVV (pc := 106)  (As := [vI 59]) (S := []) ck_N_153 (dc k_N_readPerson 52 rfl) ⟨rfl, ⟨_, rfl, rfl⟩, (lb rfl), (Nat.le_trans (lb rfl) hn)⟩ (lb rfl) (lb rfl) (lb rfl) rfl (ct_K_expect hE hn (Z_bind hz)) (fun M_40 hz => ?_)
        refine R_aload_n (pc := 109) 0 (dc k_N_readPerson 53 rfl) rfl rfl ?_
        refine R_getS (pc := 110) (ci := 3) (k := 0) 40 (dc k_N_readPerson 54 rfl) fl_N_50 rfl (lb rfl) (Nat.le_trans (lb rfl) hn) (hE 27 (lb rfl) (lb rfl)) rfl (by decide) rfl ?_
        refine R_getI (pc := 113) (ci := 2) (k := 4) (dc k_N_readPerson 55 rfl) fl_N_82 rfl (lb rfl) (Nat.le_trans (lb rfl) hn) rfl (Or.inl rfl) ?_
        refine R_bipush (pc := 116) (a := 24) (dc k_N_readPerson 56 rfl) (by decide) ?_
        refine R_icmp_eq (pc := 118) 180 (dc k_N_readPerson 57 rfl) rfl (fun hc => ?_) (fun hc => ?_)
        · have hz := Z_neg (show ¬ (¬ n32 (M_40 40 4) = 24) from (fun z => z hc)) hz
          exact R_vret (pc := 180) (dc k_N_readPerson 88 rfl) rfl rfl rfl ⟨rfl, (Z_some hz)⟩
        · have hz := Z_pos (show ¬ n32 (M_40 40 4) = 24 from hc) hz
          refine R_aload_n (pc := 121) 0 (dc k_N_readPerson 58 rfl) rfl rfl ?_
          refine R_getS (pc := 122) (ci := 3) (k := 3) 33 (dc k_N_readPerson 59 rfl) fl_N_22 rfl (lb rfl) (Nat.le_trans (lb rfl) hn) (hE 27 (lb rfl) (lb rfl)) rfl (by decide) rfl ?_
          refine R_aload_n (pc := 125) 0 (dc k_N_readPerson 60 rfl) rfl rfl ?_
          obtain ⟨hg_41, hz⟩ := Z_chk hz
          obtain ⟨t_42, ht_42, hz⟩ := Z_lt hz
          obtain ⟨hq_43, ht_42t⟩ := isTI.at' hg_41 ht_42
          have hnt_42t := qTn ht_42t hn
          have hEt_42t := qTE ht_42t hE
          refine R_getR (pc := 126) (ci := 3) (k := 16) t_42 (dc k_N_readPerson 61 rfl) fl_N_54 rfl (lb rfl) (Nat.le_trans (lb rfl) hn) (Or.inr rfl) hq_43 (qT0 ht_42t) rfl ?_
          refine R_getI (pc := 129) (ci := 1) (k := 1) (dc k_N_readPerson 62 rfl) fl_N_140 (lT ht_42t) (qT1 ht_42t) (qTn_0 hnt_42t) (rT_1 ht_42t) (Or.inl rfl) ?_
          refine R_lload_n (pc := 132) 1 (dc k_N_readPerson 63 rfl) rfl rfl ?_
          obtain ⟨⟨hg_44, hg_45⟩, hz⟩ := Z_chk hz
          obtain ⟨M_46, hM_46, hz⟩ := Z_lt hz
          refine R_lastE (pc := 133) (dc k_N_readPerson 64 rfl) rfl (lb rfl) (Nat.le_trans (lb rfl) hn) hg_44 hg_45 hM_46 ?_
          refine R_aload_n (pc := 134) 0 (dc k_N_readPerson 65 rfl) rfl rfl ?_
          obtain ⟨hg_47, hz⟩ := Z_chk hz
          obtain ⟨t_48, ht_48, hz⟩ := Z_lt hz
          obtain ⟨hq_49, ht_48t⟩ := isTI.at' hg_47 ht_48
          have hnt_48t := qTn ht_48t hn
          have hEt_48t := qTE ht_48t hE
          refine R_getR (pc := 135) (ci := 3) (k := 16) t_48 (dc k_N_readPerson 66 rfl) fl_N_54 rfl (lb rfl) (Nat.le_trans (lb rfl) hn) (Or.inr rfl) hq_49 (qT0 ht_48t) rfl ?_
          refine R_getS (pc := 138) (ci := 1) (k := 8) (t_48 + 1) (dc k_N_readPerson 67 rfl) fl_N_162 (lT ht_48t) (qT1 ht_48t) (qTn_0 hnt_48t) hEt_48t (rT_8 ht_48t) (Nat.succ_ne_zero _) rfl ?_
          refine R_aload_n (pc := 141) 0 (dc k_N_readPerson 68 rfl) rfl rfl ?_
          refine R_getR (pc := 142) (ci := 3) (k := 16) t_48 (dc k_N_readPerson 69 rfl) fl_N_54 rfl (lb rfl) (Nat.le_trans (lb rfl) hn) (Or.inr rfl) hq_49 (qT0 ht_48t) rfl ?_
          refine R_getI (pc := 145) (ci := 1) (k := 1) (dc k_N_readPerson 70 rfl) fl_N_140 (lT ht_48t) (qT1 ht_48t) (qTn_0 hnt_48t) (rT_1 ht_48t) (Or.inl rfl) ?_
          refine R_iload_n (pc := 148) 2 (dc k_N_readPerson 71 rfl) rfl rfl ?_
          obtain ⟨⟨hg_50, hg_51⟩, hz⟩ := Z_chk hz
          obtain ⟨M_52, hM_52, hz⟩ := Z_lt hz
          refine R_iastE (pc := 149) (dc k_N_readPerson 72 rfl) (lT_1 ht_48t) (Nat.le_add_left_of_le (lb rfl)) (qTn_k hnt_48t (lb rfl)) hg_50 hg_51 hM_52 ?_
          refine R_aload_n (pc := 150) 0 (dc k_N_readPerson 73 rfl) rfl rfl ?_
          obtain ⟨hg_53, hz⟩ := Z_chk hz
          obtain ⟨t_54, ht_54, hz⟩ := Z_lt hz
          obtain ⟨hq_55, ht_54t⟩ := isTI.at' hg_53 ht_54
          have hnt_54t := qTn ht_54t hn
          have hEt_54t := qTE ht_54t hE
          refine R_getR (pc := 151) (ci := 3) (k := 16) t_54 (dc k_N_readPerson 74 rfl) fl_N_54 rfl (lb rfl) (Nat.le_trans (lb rfl) hn) (Or.inr rfl) hq_55 (qT0 ht_54t) rfl ?_
          refine R_getS (pc := 154) (ci := 1) (k := 9) (t_54 + 2) (dc k_N_readPerson 75 rfl) fl_N_165 (lT ht_54t) (qT1 ht_54t) (qTn_0 hnt_54t) hEt_54t (rT_9 ht_54t) (Nat.succ_ne_zero _) rfl ?_
          refine R_aload_n (pc := 157) 0 (dc k_N_readPerson 76 rfl) rfl rfl ?_
          refine R_getR (pc := 158) (ci := 3) (k := 16) t_54 (dc k_N_readPerson 77 rfl) fl_N_54 rfl (lb rfl) (Nat.le_trans (lb rfl) hn) (Or.inr rfl) hq_55 (qT0 ht_54t) rfl ?_
          refine R_getI (pc := 161) (ci := 1) (k := 1) (dc k_N_readPerson 78 rfl) fl_N_140 (lT ht_54t) (qT1 ht_54t) (qTn_0 hnt_54t) (rT_1 ht_54t) (Or.inl rfl) ?_
          refine R_iload (pc := 164) 3 (dc k_N_readPerson 79 rfl) rfl ?_
          obtain ⟨⟨hg_56, hg_57⟩, hz⟩ := Z_chk hz
          obtain ⟨M_58, hM_58, hz⟩ := Z_lt hz
          refine R_iastE (pc := 166) (dc k_N_readPerson 80 rfl) (lT_2 ht_54t) (Nat.le_add_left_of_le (lb rfl)) (qTn_k hnt_54t (lb rfl)) hg_56 hg_57 hM_58 ?_
          refine R_aload_n (pc := 167) 0 (dc k_N_readPerson 81 rfl) rfl rfl ?_
          obtain ⟨hg_59, hz⟩ := Z_chk hz
          obtain ⟨t_60, ht_60, hz⟩ := Z_lt hz
          obtain ⟨hq_61, ht_60t⟩ := isTI.at' hg_59 ht_60
          have hnt_60t := qTn ht_60t hn
          have hEt_60t := qTE ht_60t hE
          refine R_getR (pc := 168) (ci := 3) (k := 16) t_60 (dc k_N_readPerson 82 rfl) fl_N_54 rfl (lb rfl) (Nat.le_trans (lb rfl) hn) (Or.inr rfl) hq_61 (qT0 ht_60t) rfl ?_
          refine R_dup (pc := 171) (dc k_N_readPerson 83 rfl) rfl ?_
          refine R_getI (pc := 172) (ci := 1) (k := 1) (dc k_N_readPerson 84 rfl) fl_N_140 (lT ht_60t) (qT1 ht_60t) (qTn_0 hnt_60t) (rT_1 ht_60t) (Or.inl rfl) ?_
          refine R_iconst (pc := 175) (a := 1) (dc k_N_readPerson 85 rfl) ?_
          refine R_iadd (pc := 176) (dc k_N_readPerson 86 rfl) ?_
          obtain ⟨M_62, hM_62, hz⟩ := Z_lt hz
          refine R_putIE (pc := 177) (ci := 1) (k := 1) (dc k_N_readPerson 87 rfl) fl_N_140 (lT ht_60t) (qT1 ht_60t) (qTn_0 hnt_60t) (rT_1 ht_60t) rfl rfl hM_62 ?_
          exact R_vret (pc := 180) (dc k_N_readPerson 88 rfl) rfl rfl rfl ⟨rfl, (Z_some hz)⟩
      refine R_icmp_ne (pc := 84) 100 (dc k_N_readPerson 42 rfl) rfl (fun hc => ?_) (fun hc => ?_)
      · have hz := Z_neg (show ¬ (n32 (M_30 40 4) = 4) from hc) hz
        refine R_sub [3, 2, 1, 0] rfl ?_
        exact hJ_35 _ _ (Z_some hz)
      · have hz := Z_pos (show n32 (M_30 40 4) = 4 from (Decidable.not_not.mp hc)) hz
        refine R_aload_n (pc := 87) 3 (dc k_N_readPerson 43 rfl) rfl rfl ?_
        refine R_getS (pc := 88) (ci := 3) (k := 0) 40 (dc k_N_readPerson 44 rfl) fl_N_50 rfl (lb rfl) (Nat.le_trans (lb rfl) hn) (hE 27 (lb rfl) (lb rfl)) rfl (by decide) rfl ?_
        refine R_cVV (pc := 91)  (As := []) (S := []) ck_N_109 (dc k_N_readPerson 45 rfl) ⟨rfl, ⟨_, rfl, rfl⟩, (lb rfl), (Nat.le_trans (lb rfl) hn)⟩ (lb rfl) (lb rfl) (lb rfl) rfl (ct_K_pass hE hn (Z_bind hz)) (fun M_36 hz => ?_)
        refine R_aload_n (pc := 94) 3 (dc k_N_readPerson 46 rfl) rfl rfl ?_
        refine R_cVM (pc := 95)  (As := []) (S := []) ck_N_159 (dc k_N_readPerson 47 rfl) ⟨rfl, ⟨_, rfl, rfl⟩, (lb rfl), (Nat.le_trans (lb rfl) hn)⟩ (lb rfl) (lb rfl) (lb rfl) rfl (ct_N_readKnown hE hn (Z_bind hz)) (fun r_37 M_38 hz => ?_)
        refine R_istore (pc := 98) (L' := [(4, vI r_37), (3, vI r_29), (1, vJ r_26), (0, vR 27)]) (dc k_N_readPerson 48 rfl) (lb rfl) rfl ?_
        refine R_sub [3, 2, 1, 0] rfl ?_
        exact hJ_35 _ _ (Z_some hz)
    obtain ⟨K_16, hK_17, hz⟩ := Z_cut hz
    have hX_18 : K_16 true → Rr y_N_readPerson (5, 107, n, n, E) (qV K) 47 [(0, vR 27)] [] E n M_11 := by
      intro hk
      have hz := Z_pos rfl (hK_17 _ hk)
      refine R_aload_n (pc := 47) 0 (dc k_N_readPerson 22 rfl) rfl rfl ?_
      refine R_getS (pc := 48) (ci := 3) (k := 0) 40 (dc k_N_readPerson 23 rfl) fl_N_50 rfl (lb rfl) (Nat.le_trans (lb rfl) hn) (hE 27 (lb rfl) (lb rfl)) rfl (by decide) rfl ?_
      refine R_iconst (pc := 51) (a := 3) (dc k_N_readPerson 24 rfl) ?_
      refine R_cVV (pc := 52)  (As := [vI 3]) (S := []) ck_N_106 (dc k_N_readPerson 25 rfl) ⟨rfl, ⟨_, rfl, rfl⟩, (lb rfl), (Nat.le_trans (lb rfl) hn)⟩ (lb rfl) (lb rfl) (lb rfl) rfl (ct_K_fail hE hn (Z_bind hz)) (fun M_25 hz => ?_)
      exact hJ_15 _ (Z_some hz)
    have hY_19 : K_16 false → Rr y_N_readPerson (5, 107, n, n, E) (qV K) 55 [(0, vR 27)] [] E n M_11 := by
      intro hk
      have hz := Z_neg Bool.false_ne_true (hK_17 _ hk)
      exact hJ_15 _ (Z_some hz)
    refine R_if_eq (pc := 25) 55 (dc k_N_readPerson 12 rfl) rfl (fun hc => ?_) (fun hc => ?_)
    · have hz := Z_neg (show ¬ (¬ n32 r_10 = 0) from (fun z => z hc)) hz
      exact hY_19 (Z_some hz)
    · have hz := Z_pos (show ¬ n32 r_10 = 0 from hc) hz
      refine R_aload_n (pc := 28) 0 (dc k_N_readPerson 13 rfl) rfl rfl ?_
      refine R_aload_n (pc := 29) 0 (dc k_N_readPerson 14 rfl) rfl rfl ?_
      refine R_getS (pc := 30) (ci := 3) (k := 3) 33 (dc k_N_readPerson 15 rfl) fl_N_22 rfl (lb rfl) (Nat.le_trans (lb rfl) hn) (hE 27 (lb rfl) (lb rfl)) rfl (by decide) rfl ?_
      refine R_aload_n (pc := 33) 0 (dc k_N_readPerson 16 rfl) rfl rfl ?_
      obtain ⟨hg_21, hz⟩ := Z_chk hz
      obtain ⟨t_22, ht_22, hz⟩ := Z_lt hz
      obtain ⟨hq_23, ht_22t⟩ := isTI.at' hg_21 ht_22
      have hnt_22t := qTn ht_22t hn
      have hEt_22t := qTE ht_22t hE
      refine R_getR (pc := 34) (ci := 3) (k := 16) t_22 (dc k_N_readPerson 17 rfl) fl_N_54 rfl (lb rfl) (Nat.le_trans (lb rfl) hn) (Or.inr rfl) hq_23 (qT0 ht_22t) rfl ?_
      refine R_getI (pc := 37) (ci := 1) (k := 1) (dc k_N_readPerson 18 rfl) fl_N_140 (lT ht_22t) (qT1 ht_22t) (qTn_0 hnt_22t) (rT_1 ht_22t) (Or.inl rfl) ?_
      refine R_cVP (pc := 40)  (As := [vR 33, vI (M_11 t_22 1)]) (S := []) ck_N_133 (dc k_N_readPerson 19 rfl) ⟨rfl, ⟨_, rfl, rfl⟩, (lb rfl), (Nat.le_trans (lb rfl) hn)⟩ (lb rfl) (lb rfl) (lb rfl) rfl (ct_N_find hE hn (Z_bind hz)) (fun r_24 hz => ?_)
      refine R_iconst (pc := 43) (a := (-1)) (dc k_N_readPerson 20 rfl) ?_
      refine R_icmp_eq (pc := 44) 55 (dc k_N_readPerson 21 rfl) rfl (fun hc => ?_) (fun hc => ?_)
      · have hz := Z_neg (show ¬ (¬ n32 r_24 = (-1)) from (fun z => z hc)) hz
        exact hY_19 (Z_some hz)
      · have hz := Z_pos (show ¬ n32 r_24 = (-1) from hc) hz
        exact hX_18 (Z_some hz)
  refine R_icmp_ge (pc := 10) 17 (dc k_N_readPerson 5 rfl) rfl (fun hc => ?_) (fun hc => ?_)
  · have hz := Z_neg (show ¬ (n32 (M t_2 1) < 8) from (Int.not_lt.mpr hc)) hz
    refine R_iconst (pc := 17) (a := 0) (dc k_N_readPerson 8 rfl) ?_
    exact hJ_7 _ (Z_some hz)
  · have hz := Z_pos (show n32 (M t_2 1) < 8 from (Int.not_le.mp hc)) hz
    refine R_iconst (pc := 13) (a := 1) (dc k_N_readPerson 6 rfl) ?_
    refine R_goto (pc := 14) 18 (dc k_N_readPerson 7 rfl) rfl ?_
    exact hJ_7 _ (Z_some hz)

set_option maxRecDepth 20000 in
theorem ct_S_add {E : Nat → Bool} {n : Nat} (hE : ∀ c, 1 ≤ c → c ≤ 80 → E c = true) (hn : 80 ≤ n) {sign : Int} {of_ : Int} {M : Mem} {K : Mem → Prop} (hz : Z (S_add sign of_ M) K) : Mt y_S_add (0, 0, n, n, E) E [vR 28, vI sign, vI of_] M (qV K) := by
  refine Mt.of (by decide) (lb rfl) (Nat.le_refl _) rfl ?_
  rw [S_add] at hz
  show Rr y_S_add (0, 0, n, n, E) (qV K) 0 [(0, vR 28), (1, vI sign), (2, vI of_)] [] E n M
  refine R_aload_n (pc := 0) 0 (dc k_S_add 0 rfl) rfl rfl ?_
  refine R_getI (pc := 1) (ci := 4) (k := 1) (dc k_S_add 1 rfl) fl_S_22 rfl (lb rfl) (Nat.le_trans (lb rfl) hn) rfl (Or.inl rfl) ?_
  refine R_sipush (pc := 4) (a := 720) (dc k_S_add 2 rfl) (by decide) ?_
  refine R_icmp_ge (pc := 7) 35 (dc k_S_add 3 rfl) rfl (fun hc => ?_) (fun hc => ?_)
  · have hz := Z_neg (show ¬ (n32 (M 28 1) < 720) from (Int.not_lt.mpr hc)) hz
    exact R_vret (pc := 35) (dc k_S_add 20 rfl) rfl rfl rfl ⟨rfl, (Z_some hz)⟩
  · have hz := Z_pos (show n32 (M 28 1) < 720 from (Int.not_le.mp hc)) hz
    refine R_aload_n (pc := 10) 0 (dc k_S_add 4 rfl) rfl rfl ?_
    refine R_getS (pc := 11) (ci := 4) (k := 0) 29 (dc k_S_add 5 rfl) fl_S_9 rfl (lb rfl) (Nat.le_trans (lb rfl) hn) (hE 28 (lb rfl) (lb rfl)) rfl (by decide) rfl ?_
    refine R_aload_n (pc := 14) 0 (dc k_S_add 6 rfl) rfl rfl ?_
    refine R_getI (pc := 15) (ci := 4) (k := 1) (dc k_S_add 7 rfl) fl_S_22 rfl (lb rfl) (Nat.le_trans (lb rfl) hn) rfl (Or.inl rfl) ?_
    refine R_iload_n (pc := 18) 2 (dc k_S_add 8 rfl) rfl rfl ?_
    refine R_bipush (pc := 19) (a := 8) (dc k_S_add 9 rfl) (by decide) ?_
    refine R_ishl (pc := 21) (dc k_S_add 10 rfl) ?_
    refine R_iload_n (pc := 22) 1 (dc k_S_add 11 rfl) rfl rfl ?_
    refine R_ior (pc := 23) (dc k_S_add 12 rfl) ?_
    obtain ⟨⟨hg_1, hg_2⟩, hz⟩ := Z_chk hz
    obtain ⟨M_3, hM_3, hz⟩ := Z_lt hz
    refine R_iastE (pc := 24) (dc k_S_add 13 rfl) rfl (lb rfl) (Nat.le_trans (lb rfl) hn) hg_1 hg_2 hM_3 ?_
    refine R_aload_n (pc := 25) 0 (dc k_S_add 14 rfl) rfl rfl ?_
    refine R_dup (pc := 26) (dc k_S_add 15 rfl) rfl ?_
    refine R_getI (pc := 27) (ci := 4) (k := 1) (dc k_S_add 16 rfl) fl_S_22 rfl (lb rfl) (Nat.le_trans (lb rfl) hn) rfl (Or.inl rfl) ?_
    refine R_iconst (pc := 30) (a := 1) (dc k_S_add 17 rfl) ?_
    refine R_iadd (pc := 31) (dc k_S_add 18 rfl) ?_
    obtain ⟨M_4, hM_4, hz⟩ := Z_lt hz
    refine R_putIE (pc := 32) (ci := 4) (k := 1) (dc k_S_add 19 rfl) fl_S_22 rfl (lb rfl) (Nat.le_trans (lb rfl) hn) rfl rfl rfl hM_4 ?_
    exact R_vret (pc := 35) (dc k_S_add 20 rfl) rfl rfl rfl ⟨rfl, (Z_some hz)⟩

set_option maxRecDepth 20000 in
theorem ct_N_takesUnit {E : Nat → Bool} {n : Nat} (hE : ∀ c, 1 ≤ c → c ≤ 80 → E c = true) (hn : 80 ≤ n) {begins : Int} {depth : Int} {M : Mem} {K : Int × Mem → Prop} (hz : Z (N_takesUnit begins depth M) K) : Mt y_N_takesUnit (1, 21, n, n, E) E [vR 27, vI begins, vI depth] M (qM K) := by
  refine Mt.of (by decide) (lb rfl) (Nat.le_refl _) rfl ?_
  rw [N_takesUnit] at hz
  show Rr y_N_takesUnit (1, 21, n, n, E) (qM K) 0 [(0, vR 27), (1, vI begins), (2, vI depth)] [] E n M
  refine R_aload_n (pc := 0) 0 (dc k_N_takesUnit 0 rfl) rfl rfl ?_
  refine R_getS (pc := 1) (ci := 3) (k := 0) 40 (dc k_N_takesUnit 1 rfl) fl_N_50 rfl (lb rfl) (Nat.le_trans (lb rfl) hn) (hE 27 (lb rfl) (lb rfl)) rfl (by decide) rfl ?_
  refine R_getI (pc := 4) (ci := 2) (k := 4) (dc k_N_takesUnit 2 rfl) fl_N_82 rfl (lb rfl) (Nat.le_trans (lb rfl) hn) rfl (Or.inl rfl) ?_
  refine R_bipush (pc := 7) (a := 40) (dc k_N_takesUnit 3 rfl) (by decide) ?_
  obtain ⟨K_2, hK_3, hz⟩ := Z_cut hz
  have hJ_4 : ∀ (v_1 : Int), K_2 v_1 → Rr y_N_takesUnit (1, 21, n, n, E) (qM K) 23 [(0, vR 27), (1, vI begins)] [vI v_1] E n M := by
    intro v_1 hk
    have hz := hK_3 _ hk
    refine R_istore_n (pc := 23) (L' := [(3, vI v_1), (0, vR 27), (1, vI begins)]) (dc k_N_takesUnit 11 rfl) rfl (lb rfl) rfl ?_
    refine R_iload_n (pc := 24) 2 (dc k_N_takesUnit 12 rfl) rfl rfl ?_
    obtain ⟨K_11, hK_12, hz⟩ := Z_cut hz
    have hX_13 : K_11 true → Rr y_N_takesUnit (1, 21, n, n, E) (qM K) 44 [(3, vI v_1), (0, vR 27), (1, vI begins)] [] E n M := by
      intro hk
      have hz := Z_pos rfl (hK_12 _ hk)
      refine R_aload_n (pc := 44) 1 (dc k_N_takesUnit 21 rfl) rfl rfl ?_
      refine R_getS (pc := 45) (ci := 3) (k := 0) 40 (dc k_N_takesUnit 22 rfl) fl_N_50 rfl (lb rfl) (Nat.le_trans (lb rfl) hn) (hE 27 (lb rfl) (lb rfl)) rfl (by decide) rfl ?_
      refine R_iconst (pc := 48) (a := 2) (dc k_N_takesUnit 23 rfl) ?_
      refine R_cVV (pc := 49)  (As := [vI 2]) (S := []) ck_N_106 (dc k_N_takesUnit 24 rfl) ⟨rfl, ⟨_, rfl, rfl⟩, (lb rfl), (Nat.le_trans (lb rfl) hn)⟩ (lb rfl) (lb rfl) (lb rfl) rfl (ct_K_fail hE hn (Z_bind hz)) (fun M_19 hz => ?_)
      refine R_iconst (pc := 52) (a := 0) (dc k_N_takesUnit 25 rfl) ?_
      exact R_zret (pc := 53) (dc k_N_takesUnit 26 rfl) rfl (Or.inl rfl) rfl rfl ⟨_, rfl, (Z_some hz)⟩
    have hY_14 : K_11 false → Rr y_N_takesUnit (1, 21, n, n, E) (qM K) 54 [(3, vI v_1), (0, vR 27), (1, vI begins)] [] E n M := by
      intro hk
      have hz := Z_neg Bool.false_ne_true (hK_12 _ hk)
      refine R_aload_n (pc := 54) 1 (dc k_N_takesUnit 27 rfl) rfl rfl ?_
      obtain ⟨hg_20, hz⟩ := Z_chk hz
      obtain ⟨t_21, ht_21, hz⟩ := Z_lt hz
      obtain ⟨hq_22, ht_21t⟩ := isTI.at' hg_20 ht_21
      have hnt_21t := qTn ht_21t hn
      have hEt_21t := qTE ht_21t hE
      refine R_getR (pc := 55) (ci := 3) (k := 16) t_21 (dc k_N_takesUnit 28 rfl) fl_N_54 rfl (lb rfl) (Nat.le_trans (lb rfl) hn) (Or.inr rfl) hq_22 (qT0 ht_21t) rfl ?_
      refine R_dup (pc := 58) (dc k_N_takesUnit 29 rfl) rfl ?_
      refine R_getI (pc := 59) (ci := 1) (k := 5) (dc k_N_takesUnit 30 rfl) fl_N_234 (lT ht_21t) (qT1 ht_21t) (qTn_0 hnt_21t) (rT_5 ht_21t) (Or.inl rfl) ?_
      refine R_iconst (pc := 62) (a := 1) (dc k_N_takesUnit 31 rfl) ?_
      refine R_iadd (pc := 63) (dc k_N_takesUnit 32 rfl) ?_
      obtain ⟨M_23, hM_23, hz⟩ := Z_lt hz
      refine R_putIE (pc := 64) (ci := 1) (k := 5) (dc k_N_takesUnit 33 rfl) fl_N_234 (lT ht_21t) (qT1 ht_21t) (qTn_0 hnt_21t) (rT_5 ht_21t) rfl rfl hM_23 ?_
      refine R_iconst (pc := 67) (a := 1) (dc k_N_takesUnit 34 rfl) ?_
      exact R_zret (pc := 68) (dc k_N_takesUnit 35 rfl) rfl (Or.inr rfl) rfl rfl ⟨_, rfl, (Z_some hz)⟩
    refine R_if_eq (pc := 25) 44 (dc k_N_takesUnit 13 rfl) rfl (fun hc => ?_) (fun hc => ?_)
    · have hz := Z_neg (show ¬ (¬ n32 begins = 0) from (fun z => z hc)) hz
      exact hX_13 (Z_some hz)
    · have hz := Z_pos (show ¬ n32 begins = 0 from hc) hz
      refine R_iload_n (pc := 28) 0 (dc k_N_takesUnit 14 rfl) rfl rfl ?_
      refine R_if_ne (pc := 29) 44 (dc k_N_takesUnit 15 rfl) rfl (fun hc => ?_) (fun hc => ?_)
      · have hz := Z_neg (show ¬ (n32 v_1 = 0) from hc) hz
        exact hX_13 (Z_some hz)
      · have hz := Z_pos (show n32 v_1 = 0 from (Decidable.not_not.mp hc)) hz
        refine R_aload_n (pc := 32) 1 (dc k_N_takesUnit 16 rfl) rfl rfl ?_
        obtain ⟨hg_16, hz⟩ := Z_chk hz
        obtain ⟨t_17, ht_17, hz⟩ := Z_lt hz
        obtain ⟨hq_18, ht_17t⟩ := isTI.at' hg_16 ht_17
        have hnt_17t := qTn ht_17t hn
        have hEt_17t := qTE ht_17t hE
        refine R_getR (pc := 33) (ci := 3) (k := 16) t_17 (dc k_N_takesUnit 17 rfl) fl_N_54 rfl (lb rfl) (Nat.le_trans (lb rfl) hn) (Or.inr rfl) hq_18 (qT0 ht_17t) rfl ?_
        refine R_getI (pc := 36) (ci := 1) (k := 5) (dc k_N_takesUnit 18 rfl) fl_N_234 (lT ht_17t) (qT1 ht_17t) (qTn_0 hnt_17t) (rT_5 ht_17t) (Or.inl rfl) ?_
        refine R_bipush (pc := 39) (a := 80) (dc k_N_takesUnit 19 rfl) (by decide) ?_
        refine R_icmp_lt (pc := 41) 54 (dc k_N_takesUnit 20 rfl) rfl (fun hc => ?_) (fun hc => ?_)
        · have hz := Z_neg (show ¬ (80 ≤ n32 (M t_17 5)) from (Int.not_le.mpr hc)) hz
          exact hY_14 (Z_some hz)
        · have hz := Z_pos (show 80 ≤ n32 (M t_17 5) from (Int.not_lt.mp hc)) hz
          exact hX_13 (Z_some hz)
  have hX_5 : ((n32 (M 40 4) = 40) ∧ (7 ≤ n32 depth)) → Rr y_N_takesUnit (1, 21, n, n, E) (qM K) 18 [(0, vR 27), (1, vI begins), (2, vI depth)] [] E n M := by
    intro hc
    have hz := Z_pos hc hz
    refine R_iconst (pc := 18) (a := 1) (dc k_N_takesUnit 8 rfl) ?_
    refine R_goto (pc := 19) 23 (dc k_N_takesUnit 9 rfl) rfl ?_
    refine R_sub [0, 1] rfl ?_
    exact hJ_4 _ (Z_some hz)
  have hY_6 : ¬ ((n32 (M 40 4) = 40) ∧ (7 ≤ n32 depth)) → Rr y_N_takesUnit (1, 21, n, n, E) (qM K) 22 [(0, vR 27), (1, vI begins), (2, vI depth)] [] E n M := by
    intro hc
    have hz := Z_neg hc hz
    refine R_iconst (pc := 22) (a := 0) (dc k_N_takesUnit 10 rfl) ?_
    refine R_sub [0, 1] rfl ?_
    exact hJ_4 _ (Z_some hz)
  refine R_icmp_ne (pc := 9) 22 (dc k_N_takesUnit 4 rfl) rfl (fun hc => ?_) (fun hc => ?_)
  · have hc_7 : ¬ n32 (M 40 4) = 40 := hc
    exact hY_6 (fun z => hc_7 z.1)
  · have hc_8 : n32 (M 40 4) = 40 := (Decidable.not_not.mp hc)
    refine R_iload_n (pc := 12) 2 (dc k_N_takesUnit 5 rfl) rfl rfl ?_
    refine R_bipush (pc := 13) (a := 7) (dc k_N_takesUnit 6 rfl) (by decide) ?_
    refine R_icmp_lt (pc := 15) 22 (dc k_N_takesUnit 7 rfl) rfl (fun hc => ?_) (fun hc => ?_)
    · have hc_9 : n32 depth < 7 := hc
      exact hY_6 (fun z => (Int.not_le.mpr hc_9) z.2)
    · have hc_10 : 7 ≤ n32 depth := (Int.not_lt.mp hc)
      exact hX_5 ⟨hc_8, hc_10⟩

set_option maxRecDepth 20000 in
theorem ct_N_seePerson {E : Nat → Bool} {n : Nat} (hE : ∀ c, 1 ≤ c → c ≤ 80 → E c = true) (hn : 80 ≤ n) {M : Mem} {K : Int × Mem → Prop} (hz : Z (N_seePerson M) K) : Mt y_N_seePerson (2, 41, n, n, E) E [vR 27] M (qM K) := by
  refine Mt.of (by decide) (lb rfl) (Nat.le_refl _) rfl ?_
  rw [N_seePerson] at hz
  show Rr y_N_seePerson (2, 41, n, n, E) (qM K) 0 [(0, vR 27)] [] E n M
  refine R_aload_n (pc := 0) 0 (dc k_N_seePerson 0 rfl) rfl rfl ?_
  refine R_cVM (pc := 1)  (As := []) (S := []) ck_N_116 (dc k_N_seePerson 1 rfl) ⟨rfl, ⟨_, rfl, rfl⟩, (lb rfl), (Nat.le_trans (lb rfl) hn)⟩ (lb rfl) (lb rfl) (lb rfl) rfl (ct_N_seesName hE hn (Z_bind hz)) (fun r_1 M_2 hz => ?_)
  obtain ⟨K_4, hK_5, hz⟩ := Z_cut hz
  have hJ_6 : ∀ (v_3 : Int), K_4 v_3 → Rr y_N_seePerson (2, 41, n, n, E) (qM K) 26 [(0, vR 27)] [vI v_3] E n M_2 := by
    intro v_3 hk
    have hz := hK_5 _ hk
    refine R_istore_n (pc := 26) (L' := [(1, vI v_3), (0, vR 27)]) (dc k_N_seePerson 12 rfl) rfl (lb rfl) rfl ?_
    refine R_iload_n (pc := 27) 0 (dc k_N_seePerson 13 rfl) rfl rfl ?_
    refine R_iconst (pc := 28) (a := (-1)) (dc k_N_seePerson 14 rfl) ?_
    obtain ⟨K_13, hK_14, hz⟩ := Z_cut hz
    have hJ_15 : ∀ (M_12 : Mem), K_13 M_12 → Rr y_N_seePerson (2, 41, n, n, E) (qM K) 40 [(1, vI v_3)] [] E n M_12 := by
      intro M_12 hk
      have hz := hK_14 _ hk
      refine R_iload_n (pc := 40) 0 (dc k_N_seePerson 20 rfl) rfl rfl ?_
      exact R_iret (pc := 41) (dc k_N_seePerson 21 rfl) rfl rfl rfl ⟨_, rfl, (Z_some hz)⟩
    refine R_icmp_ne (pc := 29) 40 (dc k_N_seePerson 15 rfl) rfl (fun hc => ?_) (fun hc => ?_)
    · have hz := Z_neg (show ¬ (n32 v_3 = (-1)) from hc) hz
      refine R_sub [0] rfl ?_
      exact hJ_15 _ (Z_some hz)
    · have hz := Z_pos (show n32 v_3 = (-1) from (Decidable.not_not.mp hc)) hz
      refine R_aload_n (pc := 32) 1 (dc k_N_seePerson 16 rfl) rfl rfl ?_
      refine R_getS (pc := 33) (ci := 3) (k := 0) 40 (dc k_N_seePerson 17 rfl) fl_N_50 rfl (lb rfl) (Nat.le_trans (lb rfl) hn) (hE 27 (lb rfl) (lb rfl)) rfl (by decide) rfl ?_
      refine R_iconst (pc := 36) (a := 5) (dc k_N_seePerson 18 rfl) ?_
      refine R_cVV (pc := 37)  (As := [vI 5]) (S := []) ck_N_106 (dc k_N_seePerson 19 rfl) ⟨rfl, ⟨_, rfl, rfl⟩, (lb rfl), (Nat.le_trans (lb rfl) hn)⟩ (lb rfl) (lb rfl) (lb rfl) rfl (ct_K_fail hE hn (Z_bind hz)) (fun M_16 hz => ?_)
      refine R_sub [0] rfl ?_
      exact hJ_15 _ (Z_some hz)
  refine R_if_eq (pc := 4) 25 (dc k_N_seePerson 2 rfl) rfl (fun hc => ?_) (fun hc => ?_)
  · have hz := Z_neg (show ¬ (¬ n32 r_1 = 0) from (fun z => z hc)) hz
    refine R_iconst (pc := 25) (a := (-1)) (dc k_N_seePerson 11 rfl) ?_
    exact hJ_6 _ (Z_some hz)
  · have hz := Z_pos (show ¬ n32 r_1 = 0 from hc) hz
    refine R_aload_n (pc := 7) 0 (dc k_N_seePerson 3 rfl) rfl rfl ?_
    refine R_aload_n (pc := 8) 0 (dc k_N_seePerson 4 rfl) rfl rfl ?_
    refine R_getS (pc := 9) (ci := 3) (k := 3) 33 (dc k_N_seePerson 5 rfl) fl_N_22 rfl (lb rfl) (Nat.le_trans (lb rfl) hn) (hE 27 (lb rfl) (lb rfl)) rfl (by decide) rfl ?_
    refine R_aload_n (pc := 12) 0 (dc k_N_seePerson 6 rfl) rfl rfl ?_
    obtain ⟨hg_7, hz⟩ := Z_chk hz
    obtain ⟨t_8, ht_8, hz⟩ := Z_lt hz
    obtain ⟨hq_9, ht_8t⟩ := isTI.at' hg_7 ht_8
    have hnt_8t := qTn ht_8t hn
    have hEt_8t := qTE ht_8t hE
    refine R_getR (pc := 13) (ci := 3) (k := 16) t_8 (dc k_N_seePerson 7 rfl) fl_N_54 rfl (lb rfl) (Nat.le_trans (lb rfl) hn) (Or.inr rfl) hq_9 (qT0 ht_8t) rfl ?_
    refine R_getI (pc := 16) (ci := 1) (k := 1) (dc k_N_seePerson 8 rfl) fl_N_140 (lT ht_8t) (qT1 ht_8t) (qTn_0 hnt_8t) (rT_1 ht_8t) (Or.inl rfl) ?_
    refine R_cVP (pc := 19)  (As := [vR 33, vI (M_2 t_8 1)]) (S := []) ck_N_133 (dc k_N_seePerson 9 rfl) ⟨rfl, ⟨_, rfl, rfl⟩, (lb rfl), (Nat.le_trans (lb rfl) hn)⟩ (lb rfl) (lb rfl) (lb rfl) rfl (ct_N_find hE hn (Z_bind hz)) (fun r_10 hz => ?_)
    refine R_goto (pc := 22) 26 (dc k_N_seePerson 10 rfl) rfl ?_
    exact hJ_6 _ (Z_some hz)

set_option maxRecDepth 20000 in
theorem ct_N_readBoth {E : Nat → Bool} {n : Nat} (hE : ∀ c, 1 ≤ c → c ≤ 80 → E c = true) (hn : 80 ≤ n) {rec_ : Int → Mem → Option (Mem)} {fr lo : Nat} (hf : 4 ≤ fr) (hl : 84 ≤ lo) (hrec : ∀ {b0 : Int} {M : Mem} {K : Mem → Prop}, Z (rec_ b0 M) K → Mt y_N_readOne (fr, lo, n, n, E) E [vR 27, vI b0] M (qV K)) {depth : Int} {M : Mem} {K : Mem → Prop} (hz : Z (N_readBoth rec_ depth M) K) : Mt y_N_readBoth (fr + 1, lo + 24, n, n, E) E [vR 27, vI depth] M (qV K) := by
  refine Mt.of (by decide) (lb rfl) (Nat.le_refl _) rfl ?_
  rw [N_readBoth] at hz
  show Rr y_N_readBoth (fr + 1, lo + 24, n, n, E) (qV K) 0 [(0, vR 27), (1, vI depth)] [] E n M
  refine R_aload_n (pc := 0) 0 (dc k_N_readBoth 0 rfl) rfl rfl ?_
  refine R_iload_n (pc := 1) 1 (dc k_N_readBoth 1 rfl) rfl rfl ?_
  refine R_cVV (pc := 2)  (As := [vI depth]) (S := []) ck_N_228 (dc k_N_readBoth 2 rfl) ⟨rfl, ⟨_, rfl, rfl⟩, (lb rfl), (Nat.le_trans (lb rfl) hn)⟩ (by first | exact lb rfl | (dsimp only; omega)) (by first | exact lb rfl | (dsimp only [y_N_readOne]; omega)) (lb rfl) rfl (hrec (Z_bind hz)) (fun M_1 hz => ?_)
  refine R_iconst (pc := 5) (a := 0) (dc k_N_readBoth 3 rfl) ?_
  refine R_istore_n (pc := 6) (L' := [(2, vI 0), (0, vR 27), (1, vI depth)]) (dc k_N_readBoth 4 rfl) rfl (lb rfl) rfl ?_
  obtain ⟨K_4, hK_5, hz⟩ := Z_cut hz
  have hX_6 : ∀ (M_10 : Mem), K_4 M_10 → Rr y_N_readBoth (fr + 1, lo + 24, n, n, E) (qV K) 53 [] [] E n M_10 := by
    intro M_10 hk
    have hz := hK_5 _ hk
    exact R_vret (pc := 53) (dc k_N_readBoth 26 rfl) rfl rfl rfl ⟨rfl, (Z_some hz)⟩
  refine R_sub [1, 2, 0] rfl ?_
  refine it_R (C := fun aZ : Int × Mem => Rr y_N_readBoth (fr + 1, lo + 24, n, n, E) (qV K) 7 [(0, vR 27), (1, vI depth), (2, vI aZ.1)] [] E n aZ.2) (fun aZ K_7 hC_8 hB_9 hz => ?_) FUEL (0, M_1) hz
  obtain ⟨l2_2, M_3⟩ := aZ
  rw [N_readBoth_b7] at hz
  show Rr y_N_readBoth (fr + 1, lo + 24, n, n, E) (qV K) 7 [(0, vR 27), (1, vI depth), (2, vI l2_2)] [] E n M_3
  refine R_iload_n (pc := 7) 2 (dc k_N_readBoth 5 rfl) rfl rfl ?_
  refine R_bipush (pc := 8) (a := 80) (dc k_N_readBoth 6 rfl) (by decide) ?_
  have hX_15 : ((n32 l2_2 < 80) ∧ (n32 (M_3 40 4) = 14)) → Rr y_N_readBoth (fr + 1, lo + 24, n, n, E) (qV K) 25 [(0, vR 27), (1, vI depth), (2, vI l2_2)] [] E n M_3 := by
    intro hc
    have hz := Z_pos hc hz
    refine R_aload_n (pc := 25) 0 (dc k_N_readBoth 13 rfl) rfl rfl ?_
    refine R_getS (pc := 26) (ci := 3) (k := 0) 40 (dc k_N_readBoth 14 rfl) fl_N_50 rfl (lb rfl) (Nat.le_trans (lb rfl) hn) (hE 27 (lb rfl) (lb rfl)) rfl (by decide) rfl ?_
    refine R_cVV (pc := 29)  (As := []) (S := []) ck_N_109 (dc k_N_readBoth 15 rfl) ⟨rfl, ⟨_, rfl, rfl⟩, (lb rfl), (Nat.le_trans (lb rfl) hn)⟩ (by first | exact lb rfl | (dsimp only; omega)) (by first | exact lb rfl | (dsimp only [y_K_pass]; omega)) (lb rfl) rfl (ct_K_pass hE hn (Z_bind hz)) (fun M_11 hz => ?_)
    refine R_aload_n (pc := 32) 0 (dc k_N_readBoth 16 rfl) rfl rfl ?_
    refine R_iload_n (pc := 33) 1 (dc k_N_readBoth 17 rfl) rfl rfl ?_
    refine R_cVV (pc := 34)  (As := [vI depth]) (S := []) ck_N_228 (dc k_N_readBoth 18 rfl) ⟨rfl, ⟨_, rfl, rfl⟩, (lb rfl), (Nat.le_trans (lb rfl) hn)⟩ (by first | exact lb rfl | (dsimp only; omega)) (by first | exact lb rfl | (dsimp only [y_N_readOne]; omega)) (lb rfl) rfl (hrec (Z_bind hz)) (fun M_12 hz => ?_)
    refine R_aload_n (pc := 37) 0 (dc k_N_readBoth 19 rfl) rfl rfl ?_
    refine R_getS (pc := 38) (ci := 3) (k := 1) 28 (dc k_N_readBoth 20 rfl) fl_N_12 rfl (lb rfl) (Nat.le_trans (lb rfl) hn) (hE 27 (lb rfl) (lb rfl)) rfl (by decide) rfl ?_
    refine R_bipush (pc := 41) (a := 14) (dc k_N_readBoth 21 rfl) (by decide) ?_
    refine R_iconst (pc := 43) (a := 0) (dc k_N_readBoth 22 rfl) ?_
    refine R_cVV (pc := 44)  (As := [vI 14, vI 0]) (S := []) ck_N_221 (dc k_N_readBoth 23 rfl) ⟨rfl, ⟨_, rfl, rfl⟩, (lb rfl), (Nat.le_trans (lb rfl) hn)⟩ (by first | exact lb rfl | (dsimp only; omega)) (by first | exact lb rfl | (dsimp only [y_S_add]; omega)) (lb rfl) rfl (ct_S_add hE hn (Z_bind hz)) (fun M_13 hz => ?_)
    obtain ⟨l2_14, hl2_14, hz⟩ := Z_lt hz
    refine R_iincE (pc := 47) (L' := [(2, vI l2_14), (0, vR 27), (1, vI depth)]) 2 (dc k_N_readBoth 24 rfl) rfl (lb rfl) hl2_14 rfl ?_
    refine R_goto (pc := 50) 7 (dc k_N_readBoth 25 rfl) rfl ?_
    refine R_sub [1, 2, 0] rfl ?_
    exact hC_8 _ (Z_some hz)
  have hY_16 : ¬ ((n32 l2_2 < 80) ∧ (n32 (M_3 40 4) = 14)) → Rr y_N_readBoth (fr + 1, lo + 24, n, n, E) (qV K) 53 [(0, vR 27), (1, vI depth), (2, vI l2_2)] [] E n M_3 := by
    intro hc
    have hz := Z_neg hc hz
    refine R_sub [] rfl ?_
    exact hX_6 _ (hB_9 _ (Z_some hz))
  refine R_icmp_ge (pc := 10) 53 (dc k_N_readBoth 7 rfl) rfl (fun hc => ?_) (fun hc => ?_)
  · have hc_17 : 80 ≤ n32 l2_2 := hc
    exact hY_16 (fun z => (Int.not_lt.mpr hc_17) z.1)
  · have hc_18 : n32 l2_2 < 80 := (Int.not_le.mp hc)
    refine R_aload_n (pc := 13) 0 (dc k_N_readBoth 8 rfl) rfl rfl ?_
    refine R_getS (pc := 14) (ci := 3) (k := 0) 40 (dc k_N_readBoth 9 rfl) fl_N_50 rfl (lb rfl) (Nat.le_trans (lb rfl) hn) (hE 27 (lb rfl) (lb rfl)) rfl (by decide) rfl ?_
    refine R_getI (pc := 17) (ci := 2) (k := 4) (dc k_N_readBoth 10 rfl) fl_N_82 rfl (lb rfl) (Nat.le_trans (lb rfl) hn) rfl (Or.inl rfl) ?_
    refine R_bipush (pc := 20) (a := 14) (dc k_N_readBoth 11 rfl) (by decide) ?_
    refine R_icmp_ne (pc := 22) 53 (dc k_N_readBoth 12 rfl) rfl (fun hc => ?_) (fun hc => ?_)
    · have hc_19 : ¬ n32 (M_3 40 4) = 14 := hc
      exact hY_16 (fun z => hc_19 z.2)
    · have hc_20 : n32 (M_3 40 4) = 14 := (Decidable.not_not.mp hc)
      exact hX_15 ⟨hc_18, hc_20⟩

set_option maxRecDepth 20000 in
theorem ct_N_readAlt {E : Nat → Bool} {n : Nat} (hE : ∀ c, 1 ≤ c → c ≤ 80 → E c = true) (hn : 80 ≤ n) {rec_ : Int → Mem → Option (Mem)} {fr lo : Nat} (hf : 4 ≤ fr) (hl : 84 ≤ lo) (hrec : ∀ {b0 : Int} {M : Mem} {K : Mem → Prop}, Z (rec_ b0 M) K → Mt y_N_readOne (fr, lo, n, n, E) E [vR 27, vI b0] M (qV K)) {depth : Int} {M : Mem} {K : Mem → Prop} (hz : Z (N_readAlt rec_ depth M) K) : Mt y_N_readAlt (fr + 2, lo + 46, n, n, E) E [vR 27, vI depth] M (qV K) := by
  refine Mt.of (by decide) (lb rfl) (Nat.le_refl _) rfl ?_
  rw [N_readAlt] at hz
  show Rr y_N_readAlt (fr + 2, lo + 46, n, n, E) (qV K) 0 [(0, vR 27), (1, vI depth)] [] E n M
  refine R_aload_n (pc := 0) 0 (dc k_N_readAlt 0 rfl) rfl rfl ?_
  refine R_iload_n (pc := 1) 1 (dc k_N_readAlt 1 rfl) rfl rfl ?_
  refine R_cVV (pc := 2)  (As := [vI depth]) (S := []) ck_N_225 (dc k_N_readAlt 2 rfl) ⟨rfl, ⟨_, rfl, rfl⟩, (lb rfl), (Nat.le_trans (lb rfl) hn)⟩ (by first | exact lb rfl | (dsimp only; omega)) (by first | exact lb rfl | (dsimp only [y_N_readBoth]; omega)) (lb rfl) rfl (ct_N_readBoth hE hn hf hl hrec (Z_bind hz)) (fun M_1 hz => ?_)
  refine R_iconst (pc := 5) (a := 0) (dc k_N_readAlt 3 rfl) ?_
  refine R_istore_n (pc := 6) (L' := [(2, vI 0), (0, vR 27), (1, vI depth)]) (dc k_N_readAlt 4 rfl) rfl (lb rfl) rfl ?_
  obtain ⟨K_4, hK_5, hz⟩ := Z_cut hz
  have hX_6 : ∀ (M_10 : Mem), K_4 M_10 → Rr y_N_readAlt (fr + 2, lo + 46, n, n, E) (qV K) 53 [] [] E n M_10 := by
    intro M_10 hk
    have hz := hK_5 _ hk
    exact R_vret (pc := 53) (dc k_N_readAlt 26 rfl) rfl rfl rfl ⟨rfl, (Z_some hz)⟩
  refine R_sub [1, 2, 0] rfl ?_
  refine it_R (C := fun aZ : Int × Mem => Rr y_N_readAlt (fr + 2, lo + 46, n, n, E) (qV K) 7 [(0, vR 27), (1, vI depth), (2, vI aZ.1)] [] E n aZ.2) (fun aZ K_7 hC_8 hB_9 hz => ?_) FUEL (0, M_1) hz
  obtain ⟨l2_2, M_3⟩ := aZ
  rw [N_readAlt_b7] at hz
  show Rr y_N_readAlt (fr + 2, lo + 46, n, n, E) (qV K) 7 [(0, vR 27), (1, vI depth), (2, vI l2_2)] [] E n M_3
  refine R_iload_n (pc := 7) 2 (dc k_N_readAlt 5 rfl) rfl rfl ?_
  refine R_bipush (pc := 8) (a := 80) (dc k_N_readAlt 6 rfl) (by decide) ?_
  have hX_15 : ((n32 l2_2 < 80) ∧ (n32 (M_3 40 4) = 13)) → Rr y_N_readAlt (fr + 2, lo + 46, n, n, E) (qV K) 25 [(0, vR 27), (1, vI depth), (2, vI l2_2)] [] E n M_3 := by
    intro hc
    have hz := Z_pos hc hz
    refine R_aload_n (pc := 25) 0 (dc k_N_readAlt 13 rfl) rfl rfl ?_
    refine R_getS (pc := 26) (ci := 3) (k := 0) 40 (dc k_N_readAlt 14 rfl) fl_N_50 rfl (lb rfl) (Nat.le_trans (lb rfl) hn) (hE 27 (lb rfl) (lb rfl)) rfl (by decide) rfl ?_
    refine R_cVV (pc := 29)  (As := []) (S := []) ck_N_109 (dc k_N_readAlt 15 rfl) ⟨rfl, ⟨_, rfl, rfl⟩, (lb rfl), (Nat.le_trans (lb rfl) hn)⟩ (by first | exact lb rfl | (dsimp only; omega)) (by first | exact lb rfl | (dsimp only [y_K_pass]; omega)) (lb rfl) rfl (ct_K_pass hE hn (Z_bind hz)) (fun M_11 hz => ?_)
    refine R_aload_n (pc := 32) 0 (dc k_N_readAlt 16 rfl) rfl rfl ?_
    refine R_iload_n (pc := 33) 1 (dc k_N_readAlt 17 rfl) rfl rfl ?_
    refine R_cVV (pc := 34)  (As := [vI depth]) (S := []) ck_N_225 (dc k_N_readAlt 18 rfl) ⟨rfl, ⟨_, rfl, rfl⟩, (lb rfl), (Nat.le_trans (lb rfl) hn)⟩ (by first | exact lb rfl | (dsimp only; omega)) (by first | exact lb rfl | (dsimp only [y_N_readBoth]; omega)) (lb rfl) rfl (ct_N_readBoth hE hn hf hl hrec (Z_bind hz)) (fun M_12 hz => ?_)
    refine R_aload_n (pc := 37) 0 (dc k_N_readAlt 19 rfl) rfl rfl ?_
    refine R_getS (pc := 38) (ci := 3) (k := 1) 28 (dc k_N_readAlt 20 rfl) fl_N_12 rfl (lb rfl) (Nat.le_trans (lb rfl) hn) (hE 27 (lb rfl) (lb rfl)) rfl (by decide) rfl ?_
    refine R_bipush (pc := 41) (a := 13) (dc k_N_readAlt 21 rfl) (by decide) ?_
    refine R_iconst (pc := 43) (a := 0) (dc k_N_readAlt 22 rfl) ?_
    refine R_cVV (pc := 44)  (As := [vI 13, vI 0]) (S := []) ck_N_221 (dc k_N_readAlt 23 rfl) ⟨rfl, ⟨_, rfl, rfl⟩, (lb rfl), (Nat.le_trans (lb rfl) hn)⟩ (by first | exact lb rfl | (dsimp only; omega)) (by first | exact lb rfl | (dsimp only [y_S_add]; omega)) (lb rfl) rfl (ct_S_add hE hn (Z_bind hz)) (fun M_13 hz => ?_)
    obtain ⟨l2_14, hl2_14, hz⟩ := Z_lt hz
    refine R_iincE (pc := 47) (L' := [(2, vI l2_14), (0, vR 27), (1, vI depth)]) 2 (dc k_N_readAlt 24 rfl) rfl (lb rfl) hl2_14 rfl ?_
    refine R_goto (pc := 50) 7 (dc k_N_readAlt 25 rfl) rfl ?_
    refine R_sub [1, 2, 0] rfl ?_
    exact hC_8 _ (Z_some hz)
  have hY_16 : ¬ ((n32 l2_2 < 80) ∧ (n32 (M_3 40 4) = 13)) → Rr y_N_readAlt (fr + 2, lo + 46, n, n, E) (qV K) 53 [(0, vR 27), (1, vI depth), (2, vI l2_2)] [] E n M_3 := by
    intro hc
    have hz := Z_neg hc hz
    refine R_sub [] rfl ?_
    exact hX_6 _ (hB_9 _ (Z_some hz))
  refine R_icmp_ge (pc := 10) 53 (dc k_N_readAlt 7 rfl) rfl (fun hc => ?_) (fun hc => ?_)
  · have hc_17 : 80 ≤ n32 l2_2 := hc
    exact hY_16 (fun z => (Int.not_lt.mpr hc_17) z.1)
  · have hc_18 : n32 l2_2 < 80 := (Int.not_le.mp hc)
    refine R_aload_n (pc := 13) 0 (dc k_N_readAlt 8 rfl) rfl rfl ?_
    refine R_getS (pc := 14) (ci := 3) (k := 0) 40 (dc k_N_readAlt 9 rfl) fl_N_50 rfl (lb rfl) (Nat.le_trans (lb rfl) hn) (hE 27 (lb rfl) (lb rfl)) rfl (by decide) rfl ?_
    refine R_getI (pc := 17) (ci := 2) (k := 4) (dc k_N_readAlt 10 rfl) fl_N_82 rfl (lb rfl) (Nat.le_trans (lb rfl) hn) rfl (Or.inl rfl) ?_
    refine R_bipush (pc := 20) (a := 13) (dc k_N_readAlt 11 rfl) (by decide) ?_
    refine R_icmp_ne (pc := 22) 53 (dc k_N_readAlt 12 rfl) rfl (fun hc => ?_) (fun hc => ?_)
    · have hc_19 : ¬ n32 (M_3 40 4) = 13 := hc
      exact hY_16 (fun z => hc_19 z.2)
    · have hc_20 : n32 (M_3 40 4) = 13 := (Decidable.not_not.mp hc)
      exact hX_15 ⟨hc_18, hc_20⟩

set_option maxRecDepth 20000 in
theorem ct_N_readE {E : Nat → Bool} {n : Nat} (hE : ∀ c, 1 ≤ c → c ≤ 80 → E c = true) (hn : 80 ≤ n) {rec_ : Int → Mem → Option (Mem)} {fr lo : Nat} (hf : 4 ≤ fr) (hl : 84 ≤ lo) (hrec : ∀ {b0 : Int} {M : Mem} {K : Mem → Prop}, Z (rec_ b0 M) K → Mt y_N_readOne (fr, lo, n, n, E) E [vR 27, vI b0] M (qV K)) {depth : Int} {M : Mem} {K : Mem → Prop} (hz : Z (N_readE rec_ depth M) K) : Mt y_N_readE (fr + 3, lo + 68, n, n, E) E [vR 27, vI depth] M (qV K) := by
  refine Mt.of (by decide) (lb rfl) (Nat.le_refl _) rfl ?_
  rw [N_readE] at hz
  show Rr y_N_readE (fr + 3, lo + 68, n, n, E) (qV K) 0 [(0, vR 27), (1, vI depth)] [] E n M
  refine R_aload_n (pc := 0) 0 (dc k_N_readE 0 rfl) rfl rfl ?_
  refine R_iload_n (pc := 1) 1 (dc k_N_readE 1 rfl) rfl rfl ?_
  refine R_cVV (pc := 2)  (As := [vI depth]) (S := []) ck_N_218 (dc k_N_readE 2 rfl) ⟨rfl, ⟨_, rfl, rfl⟩, (lb rfl), (Nat.le_trans (lb rfl) hn)⟩ (by first | exact lb rfl | (dsimp only; omega)) (by first | exact lb rfl | (dsimp only [y_N_readAlt]; omega)) (lb rfl) rfl (ct_N_readAlt hE hn hf hl hrec (Z_bind hz)) (fun M_1 hz => ?_)
  refine R_aload_n (pc := 5) 0 (dc k_N_readE 3 rfl) rfl rfl ?_
  refine R_getS (pc := 6) (ci := 3) (k := 0) 40 (dc k_N_readE 4 rfl) fl_N_50 rfl (lb rfl) (Nat.le_trans (lb rfl) hn) (hE 27 (lb rfl) (lb rfl)) rfl (by decide) rfl ?_
  refine R_getI (pc := 9) (ci := 2) (k := 4) (dc k_N_readE 5 rfl) fl_N_82 rfl (lb rfl) (Nat.le_trans (lb rfl) hn) rfl (Or.inl rfl) ?_
  refine R_bipush (pc := 12) (a := 12) (dc k_N_readE 6 rfl) (by decide) ?_
  refine R_icmp_ne (pc := 14) 39 (dc k_N_readE 7 rfl) rfl (fun hc => ?_) (fun hc => ?_)
  · have hz := Z_neg (show ¬ (n32 (M_1 40 4) = 12) from hc) hz
    exact R_vret (pc := 39) (dc k_N_readE 19 rfl) rfl rfl rfl ⟨rfl, (Z_some hz)⟩
  · have hz := Z_pos (show n32 (M_1 40 4) = 12 from (Decidable.not_not.mp hc)) hz
    refine R_aload_n (pc := 17) 0 (dc k_N_readE 8 rfl) rfl rfl ?_
    refine R_getS (pc := 18) (ci := 3) (k := 0) 40 (dc k_N_readE 9 rfl) fl_N_50 rfl (lb rfl) (Nat.le_trans (lb rfl) hn) (hE 27 (lb rfl) (lb rfl)) rfl (by decide) rfl ?_
    refine R_cVV (pc := 21)  (As := []) (S := []) ck_N_109 (dc k_N_readE 10 rfl) ⟨rfl, ⟨_, rfl, rfl⟩, (lb rfl), (Nat.le_trans (lb rfl) hn)⟩ (by first | exact lb rfl | (dsimp only; omega)) (by first | exact lb rfl | (dsimp only [y_K_pass]; omega)) (lb rfl) rfl (ct_K_pass hE hn (Z_bind hz)) (fun M_2 hz => ?_)
    refine R_aload_n (pc := 24) 0 (dc k_N_readE 11 rfl) rfl rfl ?_
    refine R_iload_n (pc := 25) 1 (dc k_N_readE 12 rfl) rfl rfl ?_
    refine R_cVV (pc := 26)  (As := [vI depth]) (S := []) ck_N_218 (dc k_N_readE 13 rfl) ⟨rfl, ⟨_, rfl, rfl⟩, (lb rfl), (Nat.le_trans (lb rfl) hn)⟩ (by first | exact lb rfl | (dsimp only; omega)) (by first | exact lb rfl | (dsimp only [y_N_readAlt]; omega)) (lb rfl) rfl (ct_N_readAlt hE hn hf hl hrec (Z_bind hz)) (fun M_3 hz => ?_)
    refine R_aload_n (pc := 29) 0 (dc k_N_readE 14 rfl) rfl rfl ?_
    refine R_getS (pc := 30) (ci := 3) (k := 1) 28 (dc k_N_readE 15 rfl) fl_N_12 rfl (lb rfl) (Nat.le_trans (lb rfl) hn) (hE 27 (lb rfl) (lb rfl)) rfl (by decide) rfl ?_
    refine R_bipush (pc := 33) (a := 12) (dc k_N_readE 16 rfl) (by decide) ?_
    refine R_iconst (pc := 35) (a := 0) (dc k_N_readE 17 rfl) ?_
    refine R_cVV (pc := 36)  (As := [vI 12, vI 0]) (S := []) ck_N_221 (dc k_N_readE 18 rfl) ⟨rfl, ⟨_, rfl, rfl⟩, (lb rfl), (Nat.le_trans (lb rfl) hn)⟩ (by first | exact lb rfl | (dsimp only; omega)) (by first | exact lb rfl | (dsimp only [y_S_add]; omega)) (lb rfl) rfl (ct_S_add hE hn (Z_bind hz)) (fun M_4 hz => ?_)
    exact R_vret (pc := 39) (dc k_N_readE 19 rfl) rfl rfl rfl ⟨rfl, (Z_some hz)⟩

set_option maxRecDepth 20000 in
theorem ct_N_readUnit {E : Nat → Bool} {n : Nat} (hE : ∀ c, 1 ≤ c → c ≤ 80 → E c = true) (hn : 80 ≤ n) {rec_ : Int → Mem → Option (Mem)} {fr lo : Nat} (hf : 4 ≤ fr) (hl : 84 ≤ lo) (hrec : ∀ {b0 : Int} {M : Mem} {K : Mem → Prop}, Z (rec_ b0 M) K → Mt y_N_readOne (fr, lo, n, n, E) E [vR 27, vI b0] M (qV K)) {depth : Int} {M : Mem} {K : Mem → Prop} (hz : Z (N_readUnit rec_ depth M) K) : Mt y_N_readUnit (fr + 4, lo + 89, n, n, E) E [vR 27, vI depth] M (qV K) := by
  refine Mt.of (by decide) (lb rfl) (Nat.le_refl _) rfl ?_
  rw [N_readUnit] at hz
  show Rr y_N_readUnit (fr + 4, lo + 89, n, n, E) (qV K) 0 [(0, vR 27), (1, vI depth)] [] E n M
  refine R_aload_n (pc := 0) 0 (dc k_N_readUnit 0 rfl) rfl rfl ?_
  refine R_getS (pc := 1) (ci := 3) (k := 0) 40 (dc k_N_readUnit 1 rfl) fl_N_50 rfl (lb rfl) (Nat.le_trans (lb rfl) hn) (hE 27 (lb rfl) (lb rfl)) rfl (by decide) rfl ?_
  refine R_getI (pc := 4) (ci := 2) (k := 4) (dc k_N_readUnit 2 rfl) fl_N_82 rfl (lb rfl) (Nat.le_trans (lb rfl) hn) rfl (Or.inl rfl) ?_
  refine R_bipush (pc := 7) (a := 40) (dc k_N_readUnit 3 rfl) (by decide) ?_
  obtain ⟨K_2, hK_3, hz⟩ := Z_cut hz
  have hJ_4 : ∀ (v_1 : Int), K_2 v_1 → Rr y_N_readUnit (fr + 4, lo + 89, n, n, E) (qV K) 17 [(0, vR 27), (1, vI depth)] [vI v_1] E n M := by
    intro v_1 hk
    have hz := hK_3 _ hk
    refine R_istore_n (pc := 17) (L' := [(2, vI v_1), (0, vR 27), (1, vI depth)]) (dc k_N_readUnit 8 rfl) rfl (lb rfl) rfl ?_
    refine R_aload_n (pc := 18) 1 (dc k_N_readUnit 9 rfl) rfl rfl ?_
    refine R_iload_n (pc := 19) 0 (dc k_N_readUnit 10 rfl) rfl rfl ?_
    obtain ⟨K_7, hK_8, hz⟩ := Z_cut hz
    have hJ_9 : ∀ (v_6 : Int), K_7 v_6 → Rr y_N_readUnit (fr + 4, lo + 89, n, n, E) (qV K) 40 [(0, vR 27), (1, vI depth), (2, vI v_1)] [vI v_6, vR 27] E n M := by
      intro v_6 hk
      have hz := hK_8 _ hk
      refine R_iload_n (pc := 40) 1 (dc k_N_readUnit 20 rfl) rfl rfl ?_
      refine R_cVM (pc := 41)  (As := [vI v_6, vI depth]) (S := []) ck_N_237 (dc k_N_readUnit 21 rfl) ⟨rfl, ⟨_, rfl, rfl⟩, (lb rfl), (Nat.le_trans (lb rfl) hn)⟩ (by first | exact lb rfl | (dsimp only; omega)) (by first | exact lb rfl | (dsimp only [y_N_takesUnit]; omega)) (lb rfl) rfl (ct_N_takesUnit hE hn (Z_bind hz)) (fun r_16 M_17 hz => ?_)
      refine R_if_ne (pc := 44) 48 (dc k_N_readUnit 22 rfl) rfl (fun hc => ?_) (fun hc => ?_)
      · have hz := Z_neg (show ¬ (n32 r_16 = 0) from hc) hz
        refine R_iload_n (pc := 48) 2 (dc k_N_readUnit 24 rfl) rfl rfl ?_
        refine R_if_eq (pc := 49) 76 (dc k_N_readUnit 25 rfl) rfl (fun hc => ?_) (fun hc => ?_)
        · have hz := Z_neg (show ¬ (¬ n32 v_1 = 0) from (fun z => z hc)) hz
          refine R_aload_n (pc := 76) 0 (dc k_N_readUnit 39 rfl) rfl rfl ?_
          refine R_cVP (pc := 77)  (As := []) (S := []) ck_N_119 (dc k_N_readUnit 40 rfl) ⟨rfl, ⟨_, rfl, rfl⟩, (lb rfl), (Nat.le_trans (lb rfl) hn)⟩ (by first | exact lb rfl | (dsimp only; omega)) (by first | exact lb rfl | (dsimp only [y_N_findFact]; omega)) (lb rfl) rfl (ct_N_findFact hE hn (Z_bind hz)) (fun r_21 hz => ?_)
          refine R_istore_n (pc := 80) (L' := [(3, vI r_21), (0, vR 27), (1, vI depth), (2, vI v_1)]) (dc k_N_readUnit 41 rfl) rfl (lb rfl) rfl ?_
          refine R_aload_n (pc := 81) 1 (dc k_N_readUnit 42 rfl) rfl rfl ?_
          refine R_cVP (pc := 82)  (As := []) (S := []) ck_N_123 (dc k_N_readUnit 43 rfl) ⟨rfl, ⟨_, rfl, rfl⟩, (lb rfl), (Nat.le_trans (lb rfl) hn)⟩ (by first | exact lb rfl | (dsimp only; omega)) (by first | exact lb rfl | (dsimp only [y_N_findRow]; omega)) (lb rfl) rfl (ct_N_findRow hE hn (Z_bind hz)) (fun r_22 hz => ?_)
          refine R_istore (pc := 85) (L' := [(4, vI r_22), (3, vI r_21), (0, vR 27), (1, vI depth), (2, vI v_1)]) (dc k_N_readUnit 44 rfl) (lb rfl) rfl ?_
          refine R_iload_n (pc := 87) 1 (dc k_N_readUnit 45 rfl) rfl rfl ?_
          refine R_iconst (pc := 88) (a := (-1)) (dc k_N_readUnit 46 rfl) ?_
          obtain ⟨K_24, hK_25, hz⟩ := Z_cut hz
          have hJ_26 : ∀ (M_23 : Mem), K_24 M_23 → Rr y_N_readUnit (fr + 4, lo + 89, n, n, E) (qV K) 164 [(0, vR 27)] [] E n M_23 := by
            intro M_23 hk
            have hz := hK_25 _ hk
            refine R_aload_n (pc := 164) 0 (dc k_N_readUnit 84 rfl) rfl rfl ?_
            refine R_getS (pc := 165) (ci := 3) (k := 0) 40 (dc k_N_readUnit 85 rfl) fl_N_50 rfl (lb rfl) (Nat.le_trans (lb rfl) hn) (hE 27 (lb rfl) (lb rfl)) rfl (by decide) rfl ?_
            refine R_cVV (pc := 168)  (As := []) (S := []) ck_N_109 (dc k_N_readUnit 86 rfl) ⟨rfl, ⟨_, rfl, rfl⟩, (lb rfl), (Nat.le_trans (lb rfl) hn)⟩ (by first | exact lb rfl | (dsimp only; omega)) (by first | exact lb rfl | (dsimp only [y_K_pass]; omega)) (lb rfl) rfl (ct_K_pass hE hn (Z_bind hz)) (fun M_47 hz => ?_)
            exact R_vret (pc := 171) (dc k_N_readUnit 87 rfl) rfl rfl rfl ⟨rfl, (Z_some hz)⟩
          refine R_icmp_eq (pc := 89) 104 (dc k_N_readUnit 47 rfl) rfl (fun hc => ?_) (fun hc => ?_)
          · have hz := Z_neg (show ¬ (¬ n32 r_21 = (-1)) from (fun z => z hc)) hz
            refine R_iload (pc := 104) 0 (dc k_N_readUnit 54 rfl) rfl ?_
            refine R_iconst (pc := 106) (a := (-1)) (dc k_N_readUnit 55 rfl) ?_
            obtain ⟨j_29, hj_30, hz⟩ := Z_jn hz
            have hJ_31 : ∀ (M_28 : Mem), Z (j_29 M_28) K_24 → Rr y_N_readUnit (fr + 4, lo + 89, n, n, E) (qV K) 156 [(0, vR 27)] [] E n M_28 := by
              intro M_28 hk
              have hz := hj_30 _ hk
              refine R_aload_n (pc := 156) 0 (dc k_N_readUnit 80 rfl) rfl rfl ?_
              refine R_getS (pc := 157) (ci := 3) (k := 0) 40 (dc k_N_readUnit 81 rfl) fl_N_50 rfl (lb rfl) (Nat.le_trans (lb rfl) hn) (hE 27 (lb rfl) (lb rfl)) rfl (by decide) rfl ?_
              refine R_iconst (pc := 160) (a := 5) (dc k_N_readUnit 82 rfl) ?_
              refine R_cVV (pc := 161)  (As := [vI 5]) (S := []) ck_N_106 (dc k_N_readUnit 83 rfl) ⟨rfl, ⟨_, rfl, rfl⟩, (lb rfl), (Nat.le_trans (lb rfl) hn)⟩ (by first | exact lb rfl | (dsimp only; omega)) (by first | exact lb rfl | (dsimp only [y_K_fail]; omega)) (lb rfl) rfl (ct_K_fail hE hn (Z_bind hz)) (fun M_45 hz => ?_)
              exact hJ_26 _ (Z_some hz)
            refine R_icmp_eq (pc := 107) 156 (dc k_N_readUnit 56 rfl) rfl (fun hc => ?_) (fun hc => ?_)
            · have hz := Z_neg (show ¬ (¬ n32 r_22 = (-1)) from (fun z => z hc)) hz
              refine R_sub [2] rfl ?_
              exact hJ_31 _ hz
            · have hz := Z_pos (show ¬ n32 r_22 = (-1) from hc) hz
              refine R_aload_n (pc := 110) 2 (dc k_N_readUnit 57 rfl) rfl rfl ?_
              refine R_getI (pc := 111) (ci := 3) (k := 14) (dc k_N_readUnit 58 rfl) fl_N_176 rfl (lb rfl) (Nat.le_trans (lb rfl) hn) rfl (Or.inr rfl) ?_
              obtain ⟨K_32, hK_33, hz⟩ := Z_cut hz
              have hX_34 : K_32 true → Rr y_N_readUnit (fr + 4, lo + 89, n, n, E) (qV K) 127 [(4, vI r_22), (3, vI r_21), (0, vR 27), (1, vI depth), (2, vI v_1)] [] E n M_17 := by
                intro hk
                have hz := Z_pos rfl (hK_33 _ hk)
                refine R_aload_n (pc := 127) 2 (dc k_N_readUnit 65 rfl) rfl rfl ?_
                refine R_dup (pc := 128) (dc k_N_readUnit 66 rfl) rfl ?_
                refine R_getI (pc := 129) (ci := 3) (k := 15) (dc k_N_readUnit 67 rfl) fl_N_179 rfl (lb rfl) (Nat.le_trans (lb rfl) hn) rfl (Or.inr rfl) ?_
                refine R_aload_n (pc := 132) 2 (dc k_N_readUnit 68 rfl) rfl rfl ?_
                refine R_getS (pc := 133) (ci := 3) (k := 7) 37 (dc k_N_readUnit 69 rfl) fl_N_35 rfl (lb rfl) (Nat.le_trans (lb rfl) hn) (hE 27 (lb rfl) (lb rfl)) rfl (by decide) rfl ?_
                refine R_iload (pc := 136) 0 (dc k_N_readUnit 70 rfl) rfl ?_
                obtain ⟨⟨hg_39, hg_40⟩, hz⟩ := Z_chk hz
                refine R_zald (pc := 138) (dc k_N_readUnit 71 rfl) rfl (lb rfl) (Nat.le_trans (lb rfl) hn) hg_39 hg_40 ?_
                refine R_ior (pc := 139) (dc k_N_readUnit 72 rfl) ?_
                obtain ⟨hg_41, hz⟩ := Z_chk hz
                obtain ⟨M_42, hM_42, hz⟩ := Z_lt hz
                refine R_putZE (pc := 140) (ci := 3) (k := 15) (dc k_N_readUnit 73 rfl) fl_N_179 rfl (lb rfl) (Nat.le_trans (lb rfl) hn) rfl rfl rfl hg_41 hM_42 ?_
                refine R_aload_n (pc := 143) 2 (dc k_N_readUnit 74 rfl) rfl rfl ?_
                refine R_getS (pc := 144) (ci := 3) (k := 1) 28 (dc k_N_readUnit 75 rfl) fl_N_12 rfl (lb rfl) (Nat.le_trans (lb rfl) hn) (hE 27 (lb rfl) (lb rfl)) rfl (by decide) rfl ?_
                refine R_iconst (pc := 147) (a := 5) (dc k_N_readUnit 76 rfl) ?_
                refine R_iload (pc := 148) 0 (dc k_N_readUnit 77 rfl) rfl ?_
                refine R_cVV (pc := 150)  (As := [vI 5, vI r_22]) (S := []) ck_N_221 (dc k_N_readUnit 78 rfl) ⟨rfl, ⟨_, rfl, rfl⟩, (lb rfl), (Nat.le_trans (lb rfl) hn)⟩ (by first | exact lb rfl | (dsimp only; omega)) (by first | exact lb rfl | (dsimp only [y_S_add]; omega)) (lb rfl) rfl (ct_S_add hE hn (Z_bind hz)) (fun M_43 hz => ?_)
                refine R_goto (pc := 153) 164 (dc k_N_readUnit 79 rfl) rfl ?_
                refine R_sub [2] rfl ?_
                exact hJ_26 _ (Z_some hz)
              have hY_35 : K_32 false → Rr y_N_readUnit (fr + 4, lo + 89, n, n, E) (qV K) 156 [(4, vI r_22), (3, vI r_21), (0, vR 27), (1, vI depth), (2, vI v_1)] [] E n M_17 := by
                intro hk
                have hz := Z_neg Bool.false_ne_true (hK_33 _ hk)
                refine R_sub [2] rfl ?_
                exact hJ_31 _ hz
              refine R_if_eq (pc := 114) 127 (dc k_N_readUnit 59 rfl) rfl (fun hc => ?_) (fun hc => ?_)
              · have hz := Z_neg (show ¬ (¬ n32 (M_17 27 14) = 0) from (fun z => z hc)) hz
                exact hX_34 (Z_some hz)
              · have hz := Z_pos (show ¬ n32 (M_17 27 14) = 0 from hc) hz
                refine R_aload_n (pc := 117) 2 (dc k_N_readUnit 60 rfl) rfl rfl ?_
                refine R_getS (pc := 118) (ci := 3) (k := 7) 37 (dc k_N_readUnit 61 rfl) fl_N_35 rfl (lb rfl) (Nat.le_trans (lb rfl) hn) (hE 27 (lb rfl) (lb rfl)) rfl (by decide) rfl ?_
                refine R_iload (pc := 121) 0 (dc k_N_readUnit 62 rfl) rfl ?_
                obtain ⟨⟨hg_37, hg_38⟩, hz⟩ := Z_chk hz
                refine R_zald (pc := 123) (dc k_N_readUnit 63 rfl) rfl (lb rfl) (Nat.le_trans (lb rfl) hn) hg_37 hg_38 ?_
                refine R_if_ne (pc := 124) 156 (dc k_N_readUnit 64 rfl) rfl (fun hc => ?_) (fun hc => ?_)
                · have hz := Z_neg (show ¬ (n32 (M_17 37 (Int.toNat r_22)) = 0) from hc) hz
                  exact hY_35 (Z_some hz)
                · have hz := Z_pos (show n32 (M_17 37 (Int.toNat r_22)) = 0 from (Decidable.not_not.mp hc)) hz
                  exact hX_34 (Z_some hz)
          · have hz := Z_pos (show ¬ n32 r_21 = (-1) from hc) hz
            refine R_aload_n (pc := 92) 2 (dc k_N_readUnit 48 rfl) rfl rfl ?_
            refine R_getS (pc := 93) (ci := 3) (k := 1) 28 (dc k_N_readUnit 49 rfl) fl_N_12 rfl (lb rfl) (Nat.le_trans (lb rfl) hn) (hE 27 (lb rfl) (lb rfl)) rfl (by decide) rfl ?_
            refine R_iconst (pc := 96) (a := 1) (dc k_N_readUnit 50 rfl) ?_
            refine R_iload_n (pc := 97) 1 (dc k_N_readUnit 51 rfl) rfl rfl ?_
            refine R_cVV (pc := 98)  (As := [vI 1, vI r_21]) (S := []) ck_N_221 (dc k_N_readUnit 52 rfl) ⟨rfl, ⟨_, rfl, rfl⟩, (lb rfl), (Nat.le_trans (lb rfl) hn)⟩ (by first | exact lb rfl | (dsimp only; omega)) (by first | exact lb rfl | (dsimp only [y_S_add]; omega)) (lb rfl) rfl (ct_S_add hE hn (Z_bind hz)) (fun M_27 hz => ?_)
            refine R_goto (pc := 101) 164 (dc k_N_readUnit 53 rfl) rfl ?_
            refine R_sub [2] rfl ?_
            exact hJ_26 _ (Z_some hz)
        · have hz := Z_pos (show ¬ n32 v_1 = 0 from hc) hz
          refine R_aload_n (pc := 52) 0 (dc k_N_readUnit 26 rfl) rfl rfl ?_
          refine R_getS (pc := 53) (ci := 3) (k := 0) 40 (dc k_N_readUnit 27 rfl) fl_N_50 rfl (lb rfl) (Nat.le_trans (lb rfl) hn) (hE 27 (lb rfl) (lb rfl)) rfl (by decide) rfl ?_
          refine R_cVV (pc := 56)  (As := []) (S := []) ck_N_109 (dc k_N_readUnit 28 rfl) ⟨rfl, ⟨_, rfl, rfl⟩, (lb rfl), (Nat.le_trans (lb rfl) hn)⟩ (by first | exact lb rfl | (dsimp only; omega)) (by first | exact lb rfl | (dsimp only [y_K_pass]; omega)) (lb rfl) rfl (ct_K_pass hE hn (Z_bind hz)) (fun M_18 hz => ?_)
          refine R_aload_n (pc := 59) 0 (dc k_N_readUnit 29 rfl) rfl rfl ?_
          refine R_iload_n (pc := 60) 1 (dc k_N_readUnit 30 rfl) rfl rfl ?_
          refine R_iconst (pc := 61) (a := 1) (dc k_N_readUnit 31 rfl) ?_
          refine R_iadd (pc := 62) (dc k_N_readUnit 32 rfl) ?_
          refine R_cVV (pc := 63)  (As := [vI (depth + 1)]) (S := []) ck_N_182 (dc k_N_readUnit 33 rfl) ⟨rfl, ⟨_, rfl, rfl⟩, (lb rfl), (Nat.le_trans (lb rfl) hn)⟩ (by first | exact lb rfl | (dsimp only; omega)) (by first | exact lb rfl | (dsimp only [y_N_readE]; omega)) (lb rfl) rfl (ct_N_readE hE hn hf hl hrec (Z_bind hz)) (fun M_19 hz => ?_)
          refine R_aload_n (pc := 66) 0 (dc k_N_readUnit 34 rfl) rfl rfl ?_
          refine R_getS (pc := 67) (ci := 3) (k := 0) 40 (dc k_N_readUnit 35 rfl) fl_N_50 rfl (lb rfl) (Nat.le_trans (lb rfl) hn) (hE 27 (lb rfl) (lb rfl)) rfl (by decide) rfl ?_
          refine R_bipush (pc := 70) (a := 41) (dc k_N_readUnit 36 rfl) (by decide) ?_
          refine R_cVV (pc := 72)  (As := [vI 41]) (S := []) ck_N_153 (dc k_N_readUnit 37 rfl) ⟨rfl, ⟨_, rfl, rfl⟩, (lb rfl), (Nat.le_trans (lb rfl) hn)⟩ (by first | exact lb rfl | (dsimp only; omega)) (by first | exact lb rfl | (dsimp only [y_K_expect]; omega)) (lb rfl) rfl (ct_K_expect hE hn (Z_bind hz)) (fun M_20 hz => ?_)
          exact R_vret (pc := 75) (dc k_N_readUnit 38 rfl) rfl rfl rfl ⟨rfl, (Z_some hz)⟩
      · have hz := Z_pos (show n32 r_16 = 0 from (Decidable.not_not.mp hc)) hz
        exact R_vret (pc := 47) (dc k_N_readUnit 23 rfl) rfl rfl rfl ⟨rfl, (Z_some hz)⟩
    have hX_10 : ((¬ n32 v_1 = 0) ∨ (n32 (M 40 4) = 21)) → Rr y_N_readUnit (fr + 4, lo + 89, n, n, E) (qV K) 35 [(2, vI v_1), (0, vR 27), (1, vI depth)] [vR 27] E n M := by
      intro hc
      have hz := Z_pos hc hz
      refine R_iconst (pc := 35) (a := 1) (dc k_N_readUnit 17 rfl) ?_
      refine R_goto (pc := 36) 40 (dc k_N_readUnit 18 rfl) rfl ?_
      refine R_sub [1, 2, 0] rfl ?_
      exact hJ_9 _ (Z_some hz)
    have hY_11 : ¬ ((¬ n32 v_1 = 0) ∨ (n32 (M 40 4) = 21)) → Rr y_N_readUnit (fr + 4, lo + 89, n, n, E) (qV K) 39 [(2, vI v_1), (0, vR 27), (1, vI depth)] [vR 27] E n M := by
      intro hc
      have hz := Z_neg hc hz
      refine R_iconst (pc := 39) (a := 0) (dc k_N_readUnit 19 rfl) ?_
      refine R_sub [1, 2, 0] rfl ?_
      exact hJ_9 _ (Z_some hz)
    refine R_if_ne (pc := 20) 35 (dc k_N_readUnit 11 rfl) rfl (fun hc => ?_) (fun hc => ?_)
    · have hc_12 : ¬ n32 v_1 = 0 := hc
      exact hX_10 (Or.inl hc_12)
    · have hc_13 : n32 v_1 = 0 := (Decidable.not_not.mp hc)
      refine R_aload_n (pc := 23) 1 (dc k_N_readUnit 12 rfl) rfl rfl ?_
      refine R_getS (pc := 24) (ci := 3) (k := 0) 40 (dc k_N_readUnit 13 rfl) fl_N_50 rfl (lb rfl) (Nat.le_trans (lb rfl) hn) (hE 27 (lb rfl) (lb rfl)) rfl (by decide) rfl ?_
      refine R_getI (pc := 27) (ci := 2) (k := 4) (dc k_N_readUnit 14 rfl) fl_N_82 rfl (lb rfl) (Nat.le_trans (lb rfl) hn) rfl (Or.inl rfl) ?_
      refine R_bipush (pc := 30) (a := 21) (dc k_N_readUnit 15 rfl) (by decide) ?_
      refine R_icmp_ne (pc := 32) 39 (dc k_N_readUnit 16 rfl) rfl (fun hc => ?_) (fun hc => ?_)
      · have hc_14 : ¬ n32 (M 40 4) = 21 := hc
        exact hY_11 (fun z => z.elim (fun z => z hc_13) hc_14)
      · have hc_15 : n32 (M 40 4) = 21 := (Decidable.not_not.mp hc)
        exact hX_10 (Or.inr hc_15)
  refine R_icmp_ne (pc := 9) 16 (dc k_N_readUnit 4 rfl) rfl (fun hc => ?_) (fun hc => ?_)
  · have hz := Z_neg (show ¬ (n32 (M 40 4) = 40) from hc) hz
    refine R_iconst (pc := 16) (a := 0) (dc k_N_readUnit 7 rfl) ?_
    exact hJ_4 _ (Z_some hz)
  · have hz := Z_pos (show n32 (M 40 4) = 40 from (Decidable.not_not.mp hc)) hz
    refine R_iconst (pc := 12) (a := 1) (dc k_N_readUnit 5 rfl) ?_
    refine R_goto (pc := 13) 17 (dc k_N_readUnit 6 rfl) rfl ?_
    exact hJ_4 _ (Z_some hz)

set_option maxRecDepth 20000 in
theorem cts_N_readOne {E : Nat → Bool} {n : Nat} (hE : ∀ c, 1 ≤ c → c ≤ 80 → E c = true) (hn : 80 ≤ n) {rec_ : Int → Mem → Option (Mem)} {fr lo : Nat} (hf : 4 ≤ fr) (hl : 84 ≤ lo) (hrec : ∀ {b0 : Int} {M : Mem} {K : Mem → Prop}, Z (rec_ b0 M) K → Mt y_N_readOne (fr, lo, n, n, E) E [vR 27, vI b0] M (qV K)) {depth : Int} {M : Mem} {K : Mem → Prop} (hz : Z (N_readOne_s rec_ depth M) K) : Mt y_N_readOne (fr + 5, lo + 113, n, n, E) E [vR 27, vI depth] M (qV K) := by
  refine Mt.of (by decide) (lb rfl) (Nat.le_refl _) rfl ?_
  rw [N_readOne_s] at hz
  show Rr y_N_readOne (fr + 5, lo + 113, n, n, E) (qV K) 0 [(0, vR 27), (1, vI depth)] [] E n M
  refine R_aload_n (pc := 0) 0 (dc k_N_readOne 0 rfl) rfl rfl ?_
  refine R_getS (pc := 1) (ci := 3) (k := 0) 40 (dc k_N_readOne 1 rfl) fl_N_50 rfl (lb rfl) (Nat.le_trans (lb rfl) hn) (hE 27 (lb rfl) (lb rfl)) rfl (by decide) rfl ?_
  refine R_getI (pc := 4) (ci := 2) (k := 4) (dc k_N_readOne 2 rfl) fl_N_82 rfl (lb rfl) (Nat.le_trans (lb rfl) hn) rfl (Or.inl rfl) ?_
  obtain ⟨l2_1, hl2_1, hz⟩ := Z_lt hz
  refine R_istore_nE (pc := 7) (L' := [(2, vI l2_1), (0, vR 27), (1, vI depth)]) (dc k_N_readOne 3 rfl) rfl (lb rfl) hl2_1 rfl ?_
  refine R_iload_n (pc := 8) 0 (dc k_N_readOne 4 rfl) rfl rfl ?_
  refine R_bipush (pc := 9) (a := 16) (dc k_N_readOne 5 rfl) (by decide) ?_
  obtain ⟨K_3, hK_4, hz⟩ := Z_cut hz
  have hJ_5 : ∀ (v_2 : Int), K_3 v_2 → Rr y_N_readOne (fr + 5, lo + 113, n, n, E) (qV K) 25 [(0, vR 27), (1, vI depth), (2, vI l2_1)] [vI v_2] E n M := by
    intro v_2 hk
    have hz := hK_4 _ hk
    refine R_istore_n (pc := 25) (L' := [(3, vI v_2), (0, vR 27), (1, vI depth), (2, vI l2_1)]) (dc k_N_readOne 13 rfl) rfl (lb rfl) rfl ?_
    refine R_iload_n (pc := 26) 3 (dc k_N_readOne 14 rfl) rfl rfl ?_
    refine R_bipush (pc := 27) (a := 15) (dc k_N_readOne 15 rfl) (by decide) ?_
    have hX_38 : ((¬ n32 l2_1 = 15) ∧ (n32 v_2 = 0)) → Rr y_N_readOne (fr + 5, lo + 113, n, n, E) (qV K) 36 [(3, vI v_2), (0, vR 27), (1, vI depth), (2, vI l2_1)] [] E n M := by
      intro hc
      have hz := Z_pos hc hz
      refine R_aload_n (pc := 36) 1 (dc k_N_readOne 19 rfl) rfl rfl ?_
      refine R_iload_n (pc := 37) 2 (dc k_N_readOne 20 rfl) rfl rfl ?_
      refine R_cVV (pc := 38)  (As := [vI depth]) (S := []) ck_N_231 (dc k_N_readOne 21 rfl) ⟨rfl, ⟨_, rfl, rfl⟩, (lb rfl), (Nat.le_trans (lb rfl) hn)⟩ (by first | exact lb rfl | (dsimp only; omega)) (by first | exact lb rfl | (dsimp only [y_N_readUnit]; omega)) (lb rfl) rfl (ct_N_readUnit hE hn hf hl hrec (Z_bind hz)) (fun M_12 hz => ?_)
      exact R_vret (pc := 41) (dc k_N_readOne 22 rfl) rfl rfl rfl ⟨rfl, (Z_some hz)⟩
    have hY_39 : ¬ ((¬ n32 l2_1 = 15) ∧ (n32 v_2 = 0)) → Rr y_N_readOne (fr + 5, lo + 113, n, n, E) (qV K) 42 [(3, vI v_2), (0, vR 27), (1, vI depth), (2, vI l2_1)] [] E n M := by
      intro hc
      have hz := Z_neg hc hz
      refine R_iload_n (pc := 42) 2 (dc k_N_readOne 23 rfl) rfl rfl ?_
      refine R_bipush (pc := 43) (a := 7) (dc k_N_readOne 24 rfl) (by decide) ?_
      obtain ⟨j_14, hj_15, hz⟩ := Z_jn hz
      have hJ_16 : ∀ (M_13 : Mem), Z (j_14 M_13) K → Rr y_N_readOne (fr + 5, lo + 113, n, n, E) (qV K) 59 [(0, vR 27)] [] E n M_13 := by
        intro M_13 hk
        have hz := hj_15 _ hk
        refine R_aload_n (pc := 59) 0 (dc k_N_readOne 31 rfl) rfl rfl ?_
        refine R_getS (pc := 60) (ci := 3) (k := 0) 40 (dc k_N_readOne 32 rfl) fl_N_50 rfl (lb rfl) (Nat.le_trans (lb rfl) hn) (hE 27 (lb rfl) (lb rfl)) rfl (by decide) rfl ?_
        refine R_iconst (pc := 63) (a := 2) (dc k_N_readOne 33 rfl) ?_
        refine R_cVV (pc := 64)  (As := [vI 2]) (S := []) ck_N_106 (dc k_N_readOne 34 rfl) ⟨rfl, ⟨_, rfl, rfl⟩, (lb rfl), (Nat.le_trans (lb rfl) hn)⟩ (by first | exact lb rfl | (dsimp only; omega)) (by first | exact lb rfl | (dsimp only [y_K_fail]; omega)) (lb rfl) rfl (ct_K_fail hE hn (Z_bind hz)) (fun M_37 hz => ?_)
        exact R_vret (pc := 67) (dc k_N_readOne 35 rfl) rfl rfl rfl ⟨rfl, (Z_some hz)⟩
      refine R_icmp_ge (pc := 45) 59 (dc k_N_readOne 25 rfl) rfl (fun hc => ?_) (fun hc => ?_)
      · have hz := Z_neg (show ¬ (n32 depth < 7) from (Int.not_lt.mpr hc)) hz
        refine R_sub [1] rfl ?_
        exact hJ_16 _ hz
      · have hz := Z_pos (show n32 depth < 7 from (Int.not_le.mp hc)) hz
        refine R_iload_n (pc := 48) 0 (dc k_N_readOne 26 rfl) rfl rfl ?_
        have hX_30 : ((¬ n32 v_2 = 0) ∧ (¬ n32 (M 27 14) = 0)) → Rr y_N_readOne (fr + 5, lo + 113, n, n, E) (qV K) 59 [(3, vI v_2), (0, vR 27), (1, vI depth), (2, vI l2_1)] [] E n M := by
          intro hc
          have hz := Z_pos hc hz
          refine R_sub [1] rfl ?_
          exact hJ_16 _ hz
        have hY_31 : ¬ ((¬ n32 v_2 = 0) ∧ (¬ n32 (M 27 14) = 0)) → Rr y_N_readOne (fr + 5, lo + 113, n, n, E) (qV K) 68 [(3, vI v_2), (0, vR 27), (1, vI depth), (2, vI l2_1)] [] E n M := by
          intro hc
          have hz := Z_neg hc hz
          refine R_aload_n (pc := 68) 1 (dc k_N_readOne 36 rfl) rfl rfl ?_
          refine R_getS (pc := 69) (ci := 3) (k := 0) 40 (dc k_N_readOne 37 rfl) fl_N_50 rfl (lb rfl) (Nat.le_trans (lb rfl) hn) (hE 27 (lb rfl) (lb rfl)) rfl (by decide) rfl ?_
          refine R_cVV (pc := 72)  (As := []) (S := []) ck_N_109 (dc k_N_readOne 38 rfl) ⟨rfl, ⟨_, rfl, rfl⟩, (lb rfl), (Nat.le_trans (lb rfl) hn)⟩ (by first | exact lb rfl | (dsimp only; omega)) (by first | exact lb rfl | (dsimp only [y_K_pass]; omega)) (lb rfl) rfl (ct_K_pass hE hn (Z_bind hz)) (fun M_17 hz => ?_)
          refine R_iconst (pc := 75) (a := 0) (dc k_N_readOne 39 rfl) ?_
          refine R_istore (pc := 76) (L' := [(4, vI 0), (3, vI v_2), (0, vR 27), (1, vI depth), (2, vI l2_1)]) (dc k_N_readOne 40 rfl) (lb rfl) rfl ?_
          refine R_iload_n (pc := 78) 1 (dc k_N_readOne 41 rfl) rfl rfl ?_
          obtain ⟨K_20, hK_21, hz⟩ := Z_cut hz
          have hJ_22 : ∀ (l4_18 : Int) (M_19 : Mem), K_20 (l4_18, M_19) → Rr y_N_readOne (fr + 5, lo + 113, n, n, E) (qV K) 100 [(0, vR 27), (1, vI depth), (2, vI l2_1), (4, vI l4_18)] [] E n M_19 := by
            intro l4_18 M_19 hk
            have hz := hK_21 _ hk
            refine R_aload_n (pc := 100) 0 (dc k_N_readOne 52 rfl) rfl rfl ?_
            refine R_iload_n (pc := 101) 1 (dc k_N_readOne 53 rfl) rfl rfl ?_
            refine R_iconst (pc := 102) (a := 1) (dc k_N_readOne 54 rfl) ?_
            refine R_iadd (pc := 103) (dc k_N_readOne 55 rfl) ?_
            refine R_cVV (pc := 104)  (As := [vI (depth + 1)]) (S := []) ck_N_228 (dc k_N_readOne 56 rfl) ⟨rfl, ⟨_, rfl, rfl⟩, (lb rfl), (Nat.le_trans (lb rfl) hn)⟩ (by first | exact lb rfl | (dsimp only; omega)) (by first | exact lb rfl | (dsimp only [y_N_readOne]; omega)) (lb rfl) rfl (hrec (Z_bind hz)) (fun M_28 hz => ?_)
            refine R_aload_n (pc := 107) 0 (dc k_N_readOne 57 rfl) rfl rfl ?_
            refine R_getS (pc := 108) (ci := 3) (k := 1) 28 (dc k_N_readOne 58 rfl) fl_N_12 rfl (lb rfl) (Nat.le_trans (lb rfl) hn) (hE 27 (lb rfl) (lb rfl)) rfl (by decide) rfl ?_
            refine R_iload_n (pc := 111) 2 (dc k_N_readOne 59 rfl) rfl rfl ?_
            refine R_iload (pc := 112) 3 (dc k_N_readOne 60 rfl) rfl ?_
            refine R_cVV (pc := 114)  (As := [vI l2_1, vI l4_18]) (S := []) ck_N_221 (dc k_N_readOne 61 rfl) ⟨rfl, ⟨_, rfl, rfl⟩, (lb rfl), (Nat.le_trans (lb rfl) hn)⟩ (by first | exact lb rfl | (dsimp only; omega)) (by first | exact lb rfl | (dsimp only [y_S_add]; omega)) (lb rfl) rfl (ct_S_add hE hn (Z_bind hz)) (fun M_29 hz => ?_)
            exact R_vret (pc := 117) (dc k_N_readOne 62 rfl) rfl rfl rfl ⟨rfl, (Z_some hz)⟩
          refine R_if_eq (pc := 79) 100 (dc k_N_readOne 42 rfl) rfl (fun hc => ?_) (fun hc => ?_)
          · have hz := Z_neg (show ¬ (¬ n32 v_2 = 0) from (fun z => z hc)) hz
            refine R_sub [2, 3, 4, 0] rfl ?_
            exact hJ_22 _ _ (Z_some hz)
          · have hz := Z_pos (show ¬ n32 v_2 = 0 from hc) hz
            refine R_aload_n (pc := 82) 2 (dc k_N_readOne 43 rfl) rfl rfl ?_
            refine R_iconst (pc := 83) (a := 1) (dc k_N_readOne 44 rfl) ?_
            obtain ⟨M_23, hM_23, hz⟩ := Z_lt hz
            refine R_putZE (pc := 84) (ci := 3) (k := 15) (dc k_N_readOne 45 rfl) fl_N_179 rfl (lb rfl) (Nat.le_trans (lb rfl) hn) rfl rfl rfl (Or.inr rfl) hM_23 ?_
            refine R_aload_n (pc := 87) 2 (dc k_N_readOne 46 rfl) rfl rfl ?_
            refine R_cVM (pc := 88)  (As := []) (S := []) ck_N_188 (dc k_N_readOne 47 rfl) ⟨rfl, ⟨_, rfl, rfl⟩, (lb rfl), (Nat.le_trans (lb rfl) hn)⟩ (by first | exact lb rfl | (dsimp only; omega)) (by first | exact lb rfl | (dsimp only [y_N_seePerson]; omega)) (lb rfl) rfl (ct_N_seePerson hE hn (Z_bind hz)) (fun r_24 M_25 hz => ?_)
            refine R_istore (pc := 91) (L' := [(4, vI r_24), (3, vI v_2), (0, vR 27), (1, vI depth), (2, vI l2_1)]) (dc k_N_readOne 48 rfl) (lb rfl) rfl ?_
            refine R_aload_n (pc := 93) 2 (dc k_N_readOne 49 rfl) rfl rfl ?_
            refine R_getS (pc := 94) (ci := 3) (k := 0) 40 (dc k_N_readOne 50 rfl) fl_N_50 rfl (lb rfl) (Nat.le_trans (lb rfl) hn) (hE 27 (lb rfl) (lb rfl)) rfl (by decide) rfl ?_
            refine R_cVV (pc := 97)  (As := []) (S := []) ck_N_109 (dc k_N_readOne 51 rfl) ⟨rfl, ⟨_, rfl, rfl⟩, (lb rfl), (Nat.le_trans (lb rfl) hn)⟩ (by first | exact lb rfl | (dsimp only; omega)) (by first | exact lb rfl | (dsimp only [y_K_pass]; omega)) (lb rfl) rfl (ct_K_pass hE hn (Z_bind hz)) (fun M_26 hz => ?_)
            refine R_sub [2, 3, 4, 0] rfl ?_
            exact hJ_22 _ _ (Z_some hz)
        refine R_if_eq (pc := 49) 68 (dc k_N_readOne 27 rfl) rfl (fun hc => ?_) (fun hc => ?_)
        · have hc_32 : n32 v_2 = 0 := hc
          exact hY_31 (fun z => (fun z => z hc_32) z.1)
        · have hc_33 : ¬ n32 v_2 = 0 := hc
          refine R_aload_n (pc := 52) 1 (dc k_N_readOne 28 rfl) rfl rfl ?_
          refine R_getI (pc := 53) (ci := 3) (k := 14) (dc k_N_readOne 29 rfl) fl_N_176 rfl (lb rfl) (Nat.le_trans (lb rfl) hn) rfl (Or.inr rfl) ?_
          refine R_if_eq (pc := 56) 68 (dc k_N_readOne 30 rfl) rfl (fun hc => ?_) (fun hc => ?_)
          · have hc_34 : n32 (M 27 14) = 0 := hc
            exact hY_31 (fun z => (fun z => z hc_34) z.2)
          · have hc_35 : ¬ n32 (M 27 14) = 0 := hc
            exact hX_30 ⟨hc_33, hc_35⟩
    refine R_icmp_eq (pc := 29) 42 (dc k_N_readOne 16 rfl) rfl (fun hc => ?_) (fun hc => ?_)
    · have hc_40 : n32 l2_1 = 15 := hc
      exact hY_39 (fun z => (fun z => z hc_40) z.1)
    · have hc_41 : ¬ n32 l2_1 = 15 := hc
      refine R_iload_n (pc := 32) 0 (dc k_N_readOne 17 rfl) rfl rfl ?_
      refine R_if_ne (pc := 33) 42 (dc k_N_readOne 18 rfl) rfl (fun hc => ?_) (fun hc => ?_)
      · have hc_42 : ¬ n32 v_2 = 0 := hc
        exact hY_39 (fun z => hc_42 z.2)
      · have hc_43 : n32 v_2 = 0 := (Decidable.not_not.mp hc)
        exact hX_38 ⟨hc_41, hc_43⟩
  have hX_6 : ((n32 l2_1 = 16) ∨ (n32 l2_1 = 17)) → Rr y_N_readOne (fr + 5, lo + 113, n, n, E) (qV K) 20 [(2, vI l2_1), (0, vR 27), (1, vI depth)] [] E n M := by
    intro hc
    have hz := Z_pos hc hz
    refine R_iconst (pc := 20) (a := 1) (dc k_N_readOne 10 rfl) ?_
    refine R_goto (pc := 21) 25 (dc k_N_readOne 11 rfl) rfl ?_
    refine R_sub [1, 2, 0] rfl ?_
    exact hJ_5 _ (Z_some hz)
  have hY_7 : ¬ ((n32 l2_1 = 16) ∨ (n32 l2_1 = 17)) → Rr y_N_readOne (fr + 5, lo + 113, n, n, E) (qV K) 24 [(2, vI l2_1), (0, vR 27), (1, vI depth)] [] E n M := by
    intro hc
    have hz := Z_neg hc hz
    refine R_iconst (pc := 24) (a := 0) (dc k_N_readOne 12 rfl) ?_
    refine R_sub [1, 2, 0] rfl ?_
    exact hJ_5 _ (Z_some hz)
  refine R_icmp_eq (pc := 11) 20 (dc k_N_readOne 6 rfl) rfl (fun hc => ?_) (fun hc => ?_)
  · have hc_8 : n32 l2_1 = 16 := hc
    exact hX_6 (Or.inl hc_8)
  · have hc_9 : ¬ n32 l2_1 = 16 := hc
    refine R_iload_n (pc := 14) 0 (dc k_N_readOne 7 rfl) rfl rfl ?_
    refine R_bipush (pc := 15) (a := 17) (dc k_N_readOne 8 rfl) (by decide) ?_
    refine R_icmp_ne (pc := 17) 24 (dc k_N_readOne 9 rfl) rfl (fun hc => ?_) (fun hc => ?_)
    · have hc_10 : ¬ n32 l2_1 = 17 := hc
      exact hY_7 (fun z => z.elim hc_9 hc_10)
    · have hc_11 : n32 l2_1 = 17 := (Decidable.not_not.mp hc)
      exact hX_6 (Or.inr hc_11)
theorem ctd_N_readOne {E : Nat → Bool} {n : Nat} (hE : ∀ c, 1 ≤ c → c ≤ 80 → E c = true) (hn : 80 ≤ n) : ∀ (d : Nat) {depth : Int} {M : Mem} {K : Mem → Prop}, Z (N_readOne d depth M) K → Mt y_N_readOne (4 + 5 * d, 84 + 113 * d, n, n, E) E [vR 27, vI depth] M (qV K)
  | 0, depth, M, K, hz => (Z_none hz).elim
  | d + 1, depth, M, K, hz => by
    have h := cts_N_readOne hE hn (rec_ := N_readOne d) (fr := 4 + 5 * d) (lo := 84 + 113 * d) (by omega) (by omega) (fun hz => ctd_N_readOne hE hn d hz) (show Z (N_readOne_s (N_readOne d) depth M) K from hz)
    rw [show 4 + 5 * (d + 1) = 4 + 5 * d + 5 by omega, show 84 + 113 * (d + 1) = 84 + 113 * d + 113 by omega]
    exact h
theorem ct_N_readOne {E : Nat → Bool} {n : Nat} (hE : ∀ c, 1 ≤ c → c ≤ 80 → E c = true) (hn : 80 ≤ n) {depth : Int} {M : Mem} {K : Mem → Prop} (hz : Z (N_readOne 10 depth M) K) : Mt y_N_readOne (54, 1214, n, n, E) E [vR 27, vI depth] M (qV K) := ctd_N_readOne hE hn 10 hz
theorem ctw_N_readBoth {E : Nat → Bool} {n : Nat} (hE : ∀ c, 1 ≤ c → c ≤ 80 → E c = true) (hn : 80 ≤ n) {depth : Int} {M : Mem} {K : Mem → Prop} (hz : Z (N_readBoth (N_readOne 10) depth M) K) : Mt y_N_readBoth (55, 1238, n, n, E) E [vR 27, vI depth] M (qV K) := ct_N_readBoth hE hn (rec_ := N_readOne 10) (fr := 54) (lo := 1214) (lb rfl) (lb rfl) (fun hz => ct_N_readOne hE hn hz) hz
theorem ctw_N_readAlt {E : Nat → Bool} {n : Nat} (hE : ∀ c, 1 ≤ c → c ≤ 80 → E c = true) (hn : 80 ≤ n) {depth : Int} {M : Mem} {K : Mem → Prop} (hz : Z (N_readAlt (N_readOne 10) depth M) K) : Mt y_N_readAlt (56, 1260, n, n, E) E [vR 27, vI depth] M (qV K) := ct_N_readAlt hE hn (rec_ := N_readOne 10) (fr := 54) (lo := 1214) (lb rfl) (lb rfl) (fun hz => ct_N_readOne hE hn hz) hz
theorem ctw_N_readE {E : Nat → Bool} {n : Nat} (hE : ∀ c, 1 ≤ c → c ≤ 80 → E c = true) (hn : 80 ≤ n) {depth : Int} {M : Mem} {K : Mem → Prop} (hz : Z (N_readE (N_readOne 10) depth M) K) : Mt y_N_readE (57, 1282, n, n, E) E [vR 27, vI depth] M (qV K) := ct_N_readE hE hn (rec_ := N_readOne 10) (fr := 54) (lo := 1214) (lb rfl) (lb rfl) (fun hz => ct_N_readOne hE hn hz) hz
theorem ctw_N_readUnit {E : Nat → Bool} {n : Nat} (hE : ∀ c, 1 ≤ c → c ≤ 80 → E c = true) (hn : 80 ≤ n) {depth : Int} {M : Mem} {K : Mem → Prop} (hz : Z (N_readUnit (N_readOne 10) depth M) K) : Mt y_N_readUnit (58, 1303, n, n, E) E [vR 27, vI depth] M (qV K) := ct_N_readUnit hE hn (rec_ := N_readOne 10) (fr := 54) (lo := 1214) (lb rfl) (lb rfl) (fun hz => ct_N_readOne hE hn hz) hz

set_option maxRecDepth 20000 in
theorem ct_N_readRow {E : Nat → Bool} {n : Nat} (hE : ∀ c, 1 ≤ c → c ≤ 80 → E c = true) (hn : 80 ≤ n) {M : Mem} {K : Mem → Prop} (hz : Z (N_readRow M) K) : Mt y_N_readRow (58, 1303, n, n, E) E [vR 27] M (qV K) := by
  refine Mt.of (by decide) (lb rfl) (Nat.le_refl _) rfl ?_
  rw [N_readRow] at hz
  show Rr y_N_readRow (58, 1303, n, n, E) (qV K) 0 [(0, vR 27)] [] E n M
  refine R_aload_n (pc := 0) 0 (dc k_N_readRow 0 rfl) rfl rfl ?_
  refine R_aload_n (pc := 1) 0 (dc k_N_readRow 1 rfl) rfl rfl ?_
  obtain ⟨hg_1, hz⟩ := Z_chk hz
  obtain ⟨t_2, ht_2, hz⟩ := Z_lt hz
  obtain ⟨hq_3, ht_2t⟩ := isTI.at' hg_1 ht_2
  have hnt_2t := qTn ht_2t hn
  have hEt_2t := qTE ht_2t hE
  refine R_getR (pc := 2) (ci := 3) (k := 16) t_2 (dc k_N_readRow 2 rfl) fl_N_54 rfl (lb rfl) (Nat.le_trans (lb rfl) hn) (Or.inr rfl) hq_3 (qT0 ht_2t) rfl ?_
  refine R_getI (pc := 5) (ci := 1) (k := 2) (dc k_N_readRow 3 rfl) fl_N_137 (lT ht_2t) (qT1 ht_2t) (qTn_0 hnt_2t) (rT_2 ht_2t) (Or.inl rfl) ?_
  refine R_bipush (pc := 8) (a := 12) (dc k_N_readRow 4 rfl) (by decide) ?_
  obtain ⟨K_5, hK_6, hz⟩ := Z_cut hz
  have hJ_7 : ∀ (v_4 : Int), K_5 v_4 → Rr y_N_readRow (58, 1303, n, n, E) (qV K) 18 [(0, vR 27)] [vI v_4, vR 27] E n M := by
    intro v_4 hk
    have hz := hK_6 _ hk
    refine R_cVV (pc := 18)  (As := [vI v_4]) (S := []) ck_N_146 (dc k_N_readRow 9 rfl) ⟨rfl, ⟨_, rfl, rfl⟩, (lb rfl), (Nat.le_trans (lb rfl) hn)⟩ (lb rfl) (lb rfl) (lb rfl) rfl (ct_N_begin hE hn (Z_bind hz)) (fun M_9 hz => ?_)
    refine R_aload_n (pc := 21) 0 (dc k_N_readRow 10 rfl) rfl rfl ?_
    refine R_cVN (pc := 22)  (As := []) (S := []) ck_N_150 (dc k_N_readRow 11 rfl) ⟨rfl, ⟨_, rfl, rfl⟩, (lb rfl), (Nat.le_trans (lb rfl) hn)⟩ (lb rfl) (lb rfl) (lb rfl) rfl (ct_N_readNewOfFactsAndRows hE hn (Z_bind hz)) (fun r_10 M_11 hz => ?_)
    refine R_lstore_n (pc := 25) (L' := [(1, vJ r_10), (0, vR 27)]) (dc k_N_readRow 12 rfl) rfl (lb rfl) rfl ?_
    refine R_aload_n (pc := 26) 1 (dc k_N_readRow 13 rfl) rfl rfl ?_
    refine R_getS (pc := 27) (ci := 3) (k := 1) 28 (dc k_N_readRow 14 rfl) fl_N_12 rfl (lb rfl) (Nat.le_trans (lb rfl) hn) (hE 27 (lb rfl) (lb rfl)) rfl (by decide) rfl ?_
    refine R_getI (pc := 30) (ci := 4) (k := 1) (dc k_N_readRow 15 rfl) fl_N_63 rfl (lb rfl) (Nat.le_trans (lb rfl) hn) rfl (Or.inl rfl) ?_
    obtain ⟨l3_12, hl3_12, hz⟩ := Z_lt hz
    refine R_istore_nE (pc := 33) (L' := [(3, vI l3_12), (1, vJ r_10), (0, vR 27)]) (dc k_N_readRow 16 rfl) rfl (lb rfl) hl3_12 rfl ?_
    refine R_aload_n (pc := 34) 2 (dc k_N_readRow 17 rfl) rfl rfl ?_
    refine R_iconst (pc := 35) (a := 0) (dc k_N_readRow 18 rfl) ?_
    obtain ⟨M_13, hM_13, hz⟩ := Z_lt hz
    refine R_putZE (pc := 36) (ci := 3) (k := 14) (dc k_N_readRow 19 rfl) fl_N_176 rfl (lb rfl) (Nat.le_trans (lb rfl) hn) rfl rfl rfl (Or.inl rfl) hM_13 ?_
    refine R_aload_n (pc := 39) 2 (dc k_N_readRow 20 rfl) rfl rfl ?_
    refine R_iconst (pc := 40) (a := 0) (dc k_N_readRow 21 rfl) ?_
    obtain ⟨M_14, hM_14, hz⟩ := Z_lt hz
    refine R_putZE (pc := 41) (ci := 3) (k := 15) (dc k_N_readRow 22 rfl) fl_N_179 rfl (lb rfl) (Nat.le_trans (lb rfl) hn) rfl rfl rfl (Or.inl rfl) hM_14 ?_
    refine R_aload_n (pc := 44) 2 (dc k_N_readRow 23 rfl) rfl rfl ?_
    refine R_iconst (pc := 45) (a := 0) (dc k_N_readRow 24 rfl) ?_
    refine R_cVV (pc := 46)  (As := [vI 0]) (S := []) ck_N_182 (dc k_N_readRow 25 rfl) ⟨rfl, ⟨_, rfl, rfl⟩, (lb rfl), (Nat.le_trans (lb rfl) hn)⟩ (lb rfl) (lb rfl) (lb rfl) rfl (ctw_N_readE hE hn (Z_bind hz)) (fun M_15 hz => ?_)
    refine R_aload_n (pc := 49) 2 (dc k_N_readRow 26 rfl) rfl rfl ?_
    refine R_getS (pc := 50) (ci := 3) (k := 1) 28 (dc k_N_readRow 27 rfl) fl_N_12 rfl (lb rfl) (Nat.le_trans (lb rfl) hn) (hE 27 (lb rfl) (lb rfl)) rfl (by decide) rfl ?_
    refine R_getI (pc := 53) (ci := 4) (k := 1) (dc k_N_readRow 28 rfl) fl_N_63 rfl (lb rfl) (Nat.le_trans (lb rfl) hn) rfl (Or.inl rfl) ?_
    obtain ⟨l4_16, hl4_16, hz⟩ := Z_lt hz
    refine R_istoreE (pc := 56) (L' := [(4, vI l4_16), (3, vI l3_12), (1, vJ r_10), (0, vR 27)]) (dc k_N_readRow 29 rfl) (lb rfl) hl4_16 rfl ?_
    refine R_aload_n (pc := 58) 3 (dc k_N_readRow 30 rfl) rfl rfl ?_
    refine R_getS (pc := 59) (ci := 3) (k := 0) 40 (dc k_N_readRow 31 rfl) fl_N_50 rfl (lb rfl) (Nat.le_trans (lb rfl) hn) (hE 27 (lb rfl) (lb rfl)) rfl (by decide) rfl ?_
    refine R_bipush (pc := 62) (a := 59) (dc k_N_readRow 32 rfl) (by decide) ?_
    refine R_cVV (pc := 64)  (As := [vI 59]) (S := []) ck_N_153 (dc k_N_readRow 33 rfl) ⟨rfl, ⟨_, rfl, rfl⟩, (lb rfl), (Nat.le_trans (lb rfl) hn)⟩ (lb rfl) (lb rfl) (lb rfl) rfl (ct_K_expect hE hn (Z_bind hz)) (fun M_17 hz => ?_)
    refine R_aload_n (pc := 67) 3 (dc k_N_readRow 34 rfl) rfl rfl ?_
    refine R_getS (pc := 68) (ci := 3) (k := 0) 40 (dc k_N_readRow 35 rfl) fl_N_50 rfl (lb rfl) (Nat.le_trans (lb rfl) hn) (hE 27 (lb rfl) (lb rfl)) rfl (by decide) rfl ?_
    refine R_getI (pc := 71) (ci := 2) (k := 4) (dc k_N_readRow 36 rfl) fl_N_82 rfl (lb rfl) (Nat.le_trans (lb rfl) hn) rfl (Or.inl rfl) ?_
    refine R_bipush (pc := 74) (a := 24) (dc k_N_readRow 37 rfl) (by decide) ?_
    refine R_icmp_eq (pc := 76) 148 (dc k_N_readRow 38 rfl) rfl (fun hc => ?_) (fun hc => ?_)
    · have hz := Z_neg (show ¬ (¬ n32 (M_17 40 4) = 24) from (fun z => z hc)) hz
      exact R_vret (pc := 148) (dc k_N_readRow 75 rfl) rfl rfl rfl ⟨rfl, (Z_some hz)⟩
    · have hz := Z_pos (show ¬ n32 (M_17 40 4) = 24 from hc) hz
      refine R_aload_n (pc := 79) 3 (dc k_N_readRow 39 rfl) rfl rfl ?_
      refine R_getS (pc := 80) (ci := 3) (k := 4) 34 (dc k_N_readRow 40 rfl) fl_N_25 rfl (lb rfl) (Nat.le_trans (lb rfl) hn) (hE 27 (lb rfl) (lb rfl)) rfl (by decide) rfl ?_
      refine R_aload_n (pc := 83) 3 (dc k_N_readRow 41 rfl) rfl rfl ?_
      obtain ⟨hg_18, hz⟩ := Z_chk hz
      obtain ⟨t_19, ht_19, hz⟩ := Z_lt hz
      obtain ⟨hq_20, ht_19t⟩ := isTI.at' hg_18 ht_19
      have hnt_19t := qTn ht_19t hn
      have hEt_19t := qTE ht_19t hE
      refine R_getR (pc := 84) (ci := 3) (k := 16) t_19 (dc k_N_readRow 42 rfl) fl_N_54 rfl (lb rfl) (Nat.le_trans (lb rfl) hn) (Or.inr rfl) hq_20 (qT0 ht_19t) rfl ?_
      refine R_getI (pc := 87) (ci := 1) (k := 2) (dc k_N_readRow 43 rfl) fl_N_137 (lT ht_19t) (qT1 ht_19t) (qTn_0 hnt_19t) (rT_2 ht_19t) (Or.inl rfl) ?_
      refine R_lload_n (pc := 90) 2 (dc k_N_readRow 44 rfl) rfl rfl ?_
      obtain ⟨⟨hg_21, hg_22⟩, hz⟩ := Z_chk hz
      obtain ⟨M_23, hM_23, hz⟩ := Z_lt hz
      refine R_lastE (pc := 91) (dc k_N_readRow 45 rfl) rfl (lb rfl) (Nat.le_trans (lb rfl) hn) hg_21 hg_22 hM_23 ?_
      refine R_aload_n (pc := 92) 3 (dc k_N_readRow 46 rfl) rfl rfl ?_
      refine R_getS (pc := 93) (ci := 3) (k := 5) 35 (dc k_N_readRow 47 rfl) fl_N_28 rfl (lb rfl) (Nat.le_trans (lb rfl) hn) (hE 27 (lb rfl) (lb rfl)) rfl (by decide) rfl ?_
      refine R_aload_n (pc := 96) 3 (dc k_N_readRow 48 rfl) rfl rfl ?_
      obtain ⟨hg_24, hz⟩ := Z_chk hz
      obtain ⟨t_25, ht_25, hz⟩ := Z_lt hz
      obtain ⟨hq_26, ht_25t⟩ := isTI.at' hg_24 ht_25
      have hnt_25t := qTn ht_25t hn
      have hEt_25t := qTE ht_25t hE
      refine R_getR (pc := 97) (ci := 3) (k := 16) t_25 (dc k_N_readRow 49 rfl) fl_N_54 rfl (lb rfl) (Nat.le_trans (lb rfl) hn) (Or.inr rfl) hq_26 (qT0 ht_25t) rfl ?_
      refine R_getI (pc := 100) (ci := 1) (k := 2) (dc k_N_readRow 50 rfl) fl_N_137 (lT ht_25t) (qT1 ht_25t) (qTn_0 hnt_25t) (rT_2 ht_25t) (Or.inl rfl) ?_
      refine R_iload_n (pc := 103) 1 (dc k_N_readRow 51 rfl) rfl rfl ?_
      obtain ⟨⟨hg_27, hg_28⟩, hz⟩ := Z_chk hz
      obtain ⟨M_29, hM_29, hz⟩ := Z_lt hz
      refine R_iastE (pc := 104) (dc k_N_readRow 52 rfl) rfl (lb rfl) (Nat.le_trans (lb rfl) hn) hg_27 hg_28 hM_29 ?_
      refine R_aload_n (pc := 105) 3 (dc k_N_readRow 53 rfl) rfl rfl ?_
      refine R_getS (pc := 106) (ci := 3) (k := 6) 36 (dc k_N_readRow 54 rfl) fl_N_32 rfl (lb rfl) (Nat.le_trans (lb rfl) hn) (hE 27 (lb rfl) (lb rfl)) rfl (by decide) rfl ?_
      refine R_aload_n (pc := 109) 3 (dc k_N_readRow 55 rfl) rfl rfl ?_
      obtain ⟨hg_30, hz⟩ := Z_chk hz
      obtain ⟨t_31, ht_31, hz⟩ := Z_lt hz
      obtain ⟨hq_32, ht_31t⟩ := isTI.at' hg_30 ht_31
      have hnt_31t := qTn ht_31t hn
      have hEt_31t := qTE ht_31t hE
      refine R_getR (pc := 110) (ci := 3) (k := 16) t_31 (dc k_N_readRow 56 rfl) fl_N_54 rfl (lb rfl) (Nat.le_trans (lb rfl) hn) (Or.inr rfl) hq_32 (qT0 ht_31t) rfl ?_
      refine R_getI (pc := 113) (ci := 1) (k := 2) (dc k_N_readRow 57 rfl) fl_N_137 (lT ht_31t) (qT1 ht_31t) (qTn_0 hnt_31t) (rT_2 ht_31t) (Or.inl rfl) ?_
      refine R_iload (pc := 116) 0 (dc k_N_readRow 58 rfl) rfl ?_
      obtain ⟨⟨hg_33, hg_34⟩, hz⟩ := Z_chk hz
      obtain ⟨M_35, hM_35, hz⟩ := Z_lt hz
      refine R_iastE (pc := 118) (dc k_N_readRow 59 rfl) rfl (lb rfl) (Nat.le_trans (lb rfl) hn) hg_33 hg_34 hM_35 ?_
      refine R_aload_n (pc := 119) 3 (dc k_N_readRow 60 rfl) rfl rfl ?_
      refine R_getS (pc := 120) (ci := 3) (k := 7) 37 (dc k_N_readRow 61 rfl) fl_N_35 rfl (lb rfl) (Nat.le_trans (lb rfl) hn) (hE 27 (lb rfl) (lb rfl)) rfl (by decide) rfl ?_
      refine R_aload_n (pc := 123) 3 (dc k_N_readRow 62 rfl) rfl rfl ?_
      obtain ⟨hg_36, hz⟩ := Z_chk hz
      obtain ⟨t_37, ht_37, hz⟩ := Z_lt hz
      obtain ⟨hq_38, ht_37t⟩ := isTI.at' hg_36 ht_37
      have hnt_37t := qTn ht_37t hn
      have hEt_37t := qTE ht_37t hE
      refine R_getR (pc := 124) (ci := 3) (k := 16) t_37 (dc k_N_readRow 63 rfl) fl_N_54 rfl (lb rfl) (Nat.le_trans (lb rfl) hn) (Or.inr rfl) hq_38 (qT0 ht_37t) rfl ?_
      refine R_getI (pc := 127) (ci := 1) (k := 2) (dc k_N_readRow 64 rfl) fl_N_137 (lT ht_37t) (qT1 ht_37t) (qTn_0 hnt_37t) (rT_2 ht_37t) (Or.inl rfl) ?_
      refine R_aload_n (pc := 130) 3 (dc k_N_readRow 65 rfl) rfl rfl ?_
      refine R_getI (pc := 131) (ci := 3) (k := 15) (dc k_N_readRow 66 rfl) fl_N_179 rfl (lb rfl) (Nat.le_trans (lb rfl) hn) rfl (Or.inr rfl) ?_
      obtain ⟨⟨hg_39, hg_40⟩, hz⟩ := Z_chk hz
      obtain ⟨hg_41, hz⟩ := Z_chk hz
      obtain ⟨M_42, hM_42, hz⟩ := Z_lt hz
      refine R_zastE (pc := 134) (dc k_N_readRow 67 rfl) rfl (lb rfl) (Nat.le_trans (lb rfl) hn) hg_39 hg_40 hg_41 hM_42 ?_
      refine R_aload_n (pc := 135) 3 (dc k_N_readRow 68 rfl) rfl rfl ?_
      obtain ⟨hg_43, hz⟩ := Z_chk hz
      obtain ⟨t_44, ht_44, hz⟩ := Z_lt hz
      obtain ⟨hq_45, ht_44t⟩ := isTI.at' hg_43 ht_44
      have hnt_44t := qTn ht_44t hn
      have hEt_44t := qTE ht_44t hE
      refine R_getR (pc := 136) (ci := 3) (k := 16) t_44 (dc k_N_readRow 69 rfl) fl_N_54 rfl (lb rfl) (Nat.le_trans (lb rfl) hn) (Or.inr rfl) hq_45 (qT0 ht_44t) rfl ?_
      refine R_dup (pc := 139) (dc k_N_readRow 70 rfl) rfl ?_
      refine R_getI (pc := 140) (ci := 1) (k := 2) (dc k_N_readRow 71 rfl) fl_N_137 (lT ht_44t) (qT1 ht_44t) (qTn_0 hnt_44t) (rT_2 ht_44t) (Or.inl rfl) ?_
      refine R_iconst (pc := 143) (a := 1) (dc k_N_readRow 72 rfl) ?_
      refine R_iadd (pc := 144) (dc k_N_readRow 73 rfl) ?_
      obtain ⟨M_46, hM_46, hz⟩ := Z_lt hz
      refine R_putIE (pc := 145) (ci := 1) (k := 2) (dc k_N_readRow 74 rfl) fl_N_137 (lT ht_44t) (qT1 ht_44t) (qTn_0 hnt_44t) (rT_2 ht_44t) rfl rfl hM_46 ?_
      exact R_vret (pc := 148) (dc k_N_readRow 75 rfl) rfl rfl rfl ⟨rfl, (Z_some hz)⟩
  refine R_icmp_ge (pc := 10) 17 (dc k_N_readRow 5 rfl) rfl (fun hc => ?_) (fun hc => ?_)
  · have hz := Z_neg (show ¬ (n32 (M t_2 2) < 12) from (Int.not_lt.mpr hc)) hz
    refine R_iconst (pc := 17) (a := 0) (dc k_N_readRow 8 rfl) ?_
    exact hJ_7 _ (Z_some hz)
  · have hz := Z_pos (show n32 (M t_2 2) < 12 from (Int.not_le.mp hc)) hz
    refine R_iconst (pc := 13) (a := 1) (dc k_N_readRow 6 rfl) ?_
    refine R_goto (pc := 14) 18 (dc k_N_readRow 7 rfl) rfl ?_
    exact hJ_7 _ (Z_some hz)

set_option maxRecDepth 20000 in
theorem ct_N_readAlways {E : Nat → Bool} {n : Nat} (hE : ∀ c, 1 ≤ c → c ≤ 80 → E c = true) (hn : 80 ≤ n) {M : Mem} {K : Mem → Prop} (hz : Z (N_readAlways M) K) : Mt y_N_readAlways (58, 1303, n, n, E) E [vR 27] M (qV K) := by
  refine Mt.of (by decide) (lb rfl) (Nat.le_refl _) rfl ?_
  rw [N_readAlways] at hz
  show Rr y_N_readAlways (58, 1303, n, n, E) (qV K) 0 [(0, vR 27)] [] E n M
  refine R_aload_n (pc := 0) 0 (dc k_N_readAlways 0 rfl) rfl rfl ?_
  refine R_aload_n (pc := 1) 0 (dc k_N_readAlways 1 rfl) rfl rfl ?_
  refine R_getI (pc := 2) (ci := 3) (k := 10) (dc k_N_readAlways 2 rfl) fl_N_67 rfl (lb rfl) (Nat.le_trans (lb rfl) hn) rfl (Or.inl rfl) ?_
  refine R_iconst (pc := 5) (a := 4) (dc k_N_readAlways 3 rfl) ?_
  obtain ⟨K_2, hK_3, hz⟩ := Z_cut hz
  have hJ_4 : ∀ (v_1 : Int), K_2 v_1 → Rr y_N_readAlways (58, 1303, n, n, E) (qV K) 14 [(0, vR 27)] [vI v_1, vR 27] E n M := by
    intro v_1 hk
    have hz := hK_3 _ hk
    refine R_cVV (pc := 14)  (As := [vI v_1]) (S := []) ck_N_146 (dc k_N_readAlways 8 rfl) ⟨rfl, ⟨_, rfl, rfl⟩, (lb rfl), (Nat.le_trans (lb rfl) hn)⟩ (lb rfl) (lb rfl) (lb rfl) rfl (ct_N_begin hE hn (Z_bind hz)) (fun M_6 hz => ?_)
    refine R_aload_n (pc := 17) 0 (dc k_N_readAlways 9 rfl) rfl rfl ?_
    refine R_getS (pc := 18) (ci := 3) (k := 1) 28 (dc k_N_readAlways 10 rfl) fl_N_12 rfl (lb rfl) (Nat.le_trans (lb rfl) hn) (hE 27 (lb rfl) (lb rfl)) rfl (by decide) rfl ?_
    refine R_getI (pc := 21) (ci := 4) (k := 1) (dc k_N_readAlways 11 rfl) fl_N_63 rfl (lb rfl) (Nat.le_trans (lb rfl) hn) rfl (Or.inl rfl) ?_
    obtain ⟨l1_7, hl1_7, hz⟩ := Z_lt hz
    refine R_istore_nE (pc := 24) (L' := [(1, vI l1_7), (0, vR 27)]) (dc k_N_readAlways 12 rfl) rfl (lb rfl) hl1_7 rfl ?_
    refine R_aload_n (pc := 25) 1 (dc k_N_readAlways 13 rfl) rfl rfl ?_
    refine R_iconst (pc := 26) (a := 1) (dc k_N_readAlways 14 rfl) ?_
    obtain ⟨M_8, hM_8, hz⟩ := Z_lt hz
    refine R_putZE (pc := 27) (ci := 3) (k := 14) (dc k_N_readAlways 15 rfl) fl_N_176 rfl (lb rfl) (Nat.le_trans (lb rfl) hn) rfl rfl rfl (Or.inr rfl) hM_8 ?_
    refine R_aload_n (pc := 30) 1 (dc k_N_readAlways 16 rfl) rfl rfl ?_
    refine R_iconst (pc := 31) (a := 0) (dc k_N_readAlways 17 rfl) ?_
    refine R_cVV (pc := 32)  (As := [vI 0]) (S := []) ck_N_182 (dc k_N_readAlways 18 rfl) ⟨rfl, ⟨_, rfl, rfl⟩, (lb rfl), (Nat.le_trans (lb rfl) hn)⟩ (lb rfl) (lb rfl) (lb rfl) rfl (ctw_N_readE hE hn (Z_bind hz)) (fun M_9 hz => ?_)
    refine R_aload_n (pc := 35) 1 (dc k_N_readAlways 19 rfl) rfl rfl ?_
    refine R_getS (pc := 36) (ci := 3) (k := 1) 28 (dc k_N_readAlways 20 rfl) fl_N_12 rfl (lb rfl) (Nat.le_trans (lb rfl) hn) (hE 27 (lb rfl) (lb rfl)) rfl (by decide) rfl ?_
    refine R_getI (pc := 39) (ci := 4) (k := 1) (dc k_N_readAlways 21 rfl) fl_N_63 rfl (lb rfl) (Nat.le_trans (lb rfl) hn) rfl (Or.inl rfl) ?_
    obtain ⟨l2_10, hl2_10, hz⟩ := Z_lt hz
    refine R_istore_nE (pc := 42) (L' := [(2, vI l2_10), (1, vI l1_7), (0, vR 27)]) (dc k_N_readAlways 22 rfl) rfl (lb rfl) hl2_10 rfl ?_
    refine R_aload_n (pc := 43) 2 (dc k_N_readAlways 23 rfl) rfl rfl ?_
    refine R_getS (pc := 44) (ci := 3) (k := 0) 40 (dc k_N_readAlways 24 rfl) fl_N_50 rfl (lb rfl) (Nat.le_trans (lb rfl) hn) (hE 27 (lb rfl) (lb rfl)) rfl (by decide) rfl ?_
    refine R_bipush (pc := 47) (a := 59) (dc k_N_readAlways 25 rfl) (by decide) ?_
    refine R_cVV (pc := 49)  (As := [vI 59]) (S := []) ck_N_153 (dc k_N_readAlways 26 rfl) ⟨rfl, ⟨_, rfl, rfl⟩, (lb rfl), (Nat.le_trans (lb rfl) hn)⟩ (lb rfl) (lb rfl) (lb rfl) rfl (ct_K_expect hE hn (Z_bind hz)) (fun M_11 hz => ?_)
    refine R_aload_n (pc := 52) 2 (dc k_N_readAlways 27 rfl) rfl rfl ?_
    refine R_getS (pc := 53) (ci := 3) (k := 0) 40 (dc k_N_readAlways 28 rfl) fl_N_50 rfl (lb rfl) (Nat.le_trans (lb rfl) hn) (hE 27 (lb rfl) (lb rfl)) rfl (by decide) rfl ?_
    refine R_getI (pc := 56) (ci := 2) (k := 4) (dc k_N_readAlways 29 rfl) fl_N_82 rfl (lb rfl) (Nat.le_trans (lb rfl) hn) rfl (Or.inl rfl) ?_
    refine R_bipush (pc := 59) (a := 24) (dc k_N_readAlways 30 rfl) (by decide) ?_
    refine R_icmp_eq (pc := 61) 94 (dc k_N_readAlways 31 rfl) rfl (fun hc => ?_) (fun hc => ?_)
    · have hz := Z_neg (show ¬ (¬ n32 (M_11 40 4) = 24) from (fun z => z hc)) hz
      exact R_vret (pc := 94) (dc k_N_readAlways 50 rfl) rfl rfl rfl ⟨rfl, (Z_some hz)⟩
    · have hz := Z_pos (show ¬ n32 (M_11 40 4) = 24 from hc) hz
      refine R_aload_n (pc := 64) 2 (dc k_N_readAlways 32 rfl) rfl rfl ?_
      refine R_getS (pc := 65) (ci := 3) (k := 8) 38 (dc k_N_readAlways 33 rfl) fl_N_39 rfl (lb rfl) (Nat.le_trans (lb rfl) hn) (hE 27 (lb rfl) (lb rfl)) rfl (by decide) rfl ?_
      refine R_aload_n (pc := 68) 2 (dc k_N_readAlways 34 rfl) rfl rfl ?_
      refine R_getI (pc := 69) (ci := 3) (k := 10) (dc k_N_readAlways 35 rfl) fl_N_67 rfl (lb rfl) (Nat.le_trans (lb rfl) hn) rfl (Or.inl rfl) ?_
      refine R_iload_n (pc := 72) 1 (dc k_N_readAlways 36 rfl) rfl rfl ?_
      obtain ⟨⟨hg_12, hg_13⟩, hz⟩ := Z_chk hz
      obtain ⟨M_14, hM_14, hz⟩ := Z_lt hz
      refine R_iastE (pc := 73) (dc k_N_readAlways 37 rfl) rfl (lb rfl) (Nat.le_trans (lb rfl) hn) hg_12 hg_13 hM_14 ?_
      refine R_aload_n (pc := 74) 2 (dc k_N_readAlways 38 rfl) rfl rfl ?_
      refine R_getS (pc := 75) (ci := 3) (k := 9) 39 (dc k_N_readAlways 39 rfl) fl_N_42 rfl (lb rfl) (Nat.le_trans (lb rfl) hn) (hE 27 (lb rfl) (lb rfl)) rfl (by decide) rfl ?_
      refine R_aload_n (pc := 78) 2 (dc k_N_readAlways 40 rfl) rfl rfl ?_
      refine R_getI (pc := 79) (ci := 3) (k := 10) (dc k_N_readAlways 41 rfl) fl_N_67 rfl (lb rfl) (Nat.le_trans (lb rfl) hn) rfl (Or.inl rfl) ?_
      refine R_iload_n (pc := 82) 0 (dc k_N_readAlways 42 rfl) rfl rfl ?_
      obtain ⟨⟨hg_15, hg_16⟩, hz⟩ := Z_chk hz
      obtain ⟨M_17, hM_17, hz⟩ := Z_lt hz
      refine R_iastE (pc := 83) (dc k_N_readAlways 43 rfl) rfl (lb rfl) (Nat.le_trans (lb rfl) hn) hg_15 hg_16 hM_17 ?_
      refine R_aload_n (pc := 84) 2 (dc k_N_readAlways 44 rfl) rfl rfl ?_
      refine R_dup (pc := 85) (dc k_N_readAlways 45 rfl) rfl ?_
      refine R_getI (pc := 86) (ci := 3) (k := 10) (dc k_N_readAlways 46 rfl) fl_N_67 rfl (lb rfl) (Nat.le_trans (lb rfl) hn) rfl (Or.inl rfl) ?_
      refine R_iconst (pc := 89) (a := 1) (dc k_N_readAlways 47 rfl) ?_
      refine R_iadd (pc := 90) (dc k_N_readAlways 48 rfl) ?_
      obtain ⟨M_18, hM_18, hz⟩ := Z_lt hz
      refine R_putIE (pc := 91) (ci := 3) (k := 10) (dc k_N_readAlways 49 rfl) fl_N_67 rfl (lb rfl) (Nat.le_trans (lb rfl) hn) rfl rfl rfl hM_18 ?_
      exact R_vret (pc := 94) (dc k_N_readAlways 50 rfl) rfl rfl rfl ⟨rfl, (Z_some hz)⟩
  refine R_icmp_ge (pc := 6) 13 (dc k_N_readAlways 4 rfl) rfl (fun hc => ?_) (fun hc => ?_)
  · have hz := Z_neg (show ¬ (n32 (M 27 10) < 4) from (Int.not_lt.mpr hc)) hz
    refine R_iconst (pc := 13) (a := 0) (dc k_N_readAlways 7 rfl) ?_
    exact hJ_4 _ (Z_some hz)
  · have hz := Z_pos (show n32 (M 27 10) < 4 from (Int.not_le.mp hc)) hz
    refine R_iconst (pc := 9) (a := 1) (dc k_N_readAlways 5 rfl) ?_
    refine R_goto (pc := 10) 14 (dc k_N_readAlways 6 rfl) rfl ?_
    exact hJ_4 _ (Z_some hz)

set_option maxRecDepth 20000 in
theorem ct_N_readTie {E : Nat → Bool} {n : Nat} (hE : ∀ c, 1 ≤ c → c ≤ 80 → E c = true) (hn : 80 ≤ n) {M : Mem} {K : Mem → Prop} (hz : Z (N_readTie M) K) : Mt y_N_readTie (4, 84, n, n, E) E [vR 27] M (qV K) := by
  refine Mt.of (by decide) (lb rfl) (Nat.le_refl _) rfl ?_
  rw [N_readTie] at hz
  show Rr y_N_readTie (4, 84, n, n, E) (qV K) 0 [(0, vR 27)] [] E n M
  refine R_aload_n (pc := 0) 0 (dc k_N_readTie 0 rfl) rfl rfl ?_
  refine R_aload_n (pc := 1) 0 (dc k_N_readTie 1 rfl) rfl rfl ?_
  obtain ⟨hg_1, hz⟩ := Z_chk hz
  obtain ⟨t_2, ht_2, hz⟩ := Z_lt hz
  obtain ⟨hq_3, ht_2t⟩ := isTI.at' hg_1 ht_2
  have hnt_2t := qTn ht_2t hn
  have hEt_2t := qTE ht_2t hE
  refine R_getR (pc := 2) (ci := 3) (k := 16) t_2 (dc k_N_readTie 2 rfl) fl_N_54 rfl (lb rfl) (Nat.le_trans (lb rfl) hn) (Or.inr rfl) hq_3 (qT0 ht_2t) rfl ?_
  refine R_getI (pc := 5) (ci := 1) (k := 3) (dc k_N_readTie 3 rfl) fl_N_185 (lT ht_2t) (qT1 ht_2t) (qTn_0 hnt_2t) (rT_3 ht_2t) (Or.inl rfl) ?_
  refine R_bipush (pc := 8) (a := 12) (dc k_N_readTie 4 rfl) (by decide) ?_
  obtain ⟨K_5, hK_6, hz⟩ := Z_cut hz
  have hJ_7 : ∀ (v_4 : Int), K_5 v_4 → Rr y_N_readTie (4, 84, n, n, E) (qV K) 18 [(0, vR 27)] [vI v_4, vR 27] E n M := by
    intro v_4 hk
    have hz := hK_6 _ hk
    refine R_cVV (pc := 18)  (As := [vI v_4]) (S := []) ck_N_146 (dc k_N_readTie 9 rfl) ⟨rfl, ⟨_, rfl, rfl⟩, (lb rfl), (Nat.le_trans (lb rfl) hn)⟩ (lb rfl) (lb rfl) (lb rfl) rfl (ct_N_begin hE hn (Z_bind hz)) (fun M_9 hz => ?_)
    refine R_aload_n (pc := 21) 0 (dc k_N_readTie 10 rfl) rfl rfl ?_
    refine R_cVM (pc := 22)  (As := []) (S := []) ck_N_188 (dc k_N_readTie 11 rfl) ⟨rfl, ⟨_, rfl, rfl⟩, (lb rfl), (Nat.le_trans (lb rfl) hn)⟩ (lb rfl) (lb rfl) (lb rfl) rfl (ct_N_seePerson hE hn (Z_bind hz)) (fun r_10 M_11 hz => ?_)
    refine R_istore_n (pc := 25) (L' := [(1, vI r_10), (0, vR 27)]) (dc k_N_readTie 12 rfl) rfl (lb rfl) rfl ?_
    refine R_aload_n (pc := 26) 1 (dc k_N_readTie 13 rfl) rfl rfl ?_
    refine R_getS (pc := 27) (ci := 3) (k := 0) 40 (dc k_N_readTie 14 rfl) fl_N_50 rfl (lb rfl) (Nat.le_trans (lb rfl) hn) (hE 27 (lb rfl) (lb rfl)) rfl (by decide) rfl ?_
    refine R_cVV (pc := 30)  (As := []) (S := []) ck_N_109 (dc k_N_readTie 15 rfl) ⟨rfl, ⟨_, rfl, rfl⟩, (lb rfl), (Nat.le_trans (lb rfl) hn)⟩ (lb rfl) (lb rfl) (lb rfl) rfl (ct_K_pass hE hn (Z_bind hz)) (fun M_12 hz => ?_)
    refine R_aload_n (pc := 33) 1 (dc k_N_readTie 16 rfl) rfl rfl ?_
    refine R_cVM (pc := 34)  (As := []) (S := []) ck_N_188 (dc k_N_readTie 17 rfl) ⟨rfl, ⟨_, rfl, rfl⟩, (lb rfl), (Nat.le_trans (lb rfl) hn)⟩ (lb rfl) (lb rfl) (lb rfl) rfl (ct_N_seePerson hE hn (Z_bind hz)) (fun r_13 M_14 hz => ?_)
    refine R_istore_n (pc := 37) (L' := [(2, vI r_13), (1, vI r_10), (0, vR 27)]) (dc k_N_readTie 18 rfl) rfl (lb rfl) rfl ?_
    refine R_iload_n (pc := 38) 1 (dc k_N_readTie 19 rfl) rfl rfl ?_
    refine R_iconst (pc := 39) (a := (-1)) (dc k_N_readTie 20 rfl) ?_
    obtain ⟨K_16, hK_17, hz⟩ := Z_cut hz
    have hJ_18 : ∀ (M_15 : Mem), K_16 M_15 → Rr y_N_readTie (4, 84, n, n, E) (qV K) 77 [(0, vR 27), (1, vI r_10), (2, vI r_13)] [] E n M_15 := by
      intro M_15 hk
      have hz := hK_17 _ hk
      refine R_aload_n (pc := 77) 0 (dc k_N_readTie 40 rfl) rfl rfl ?_
      refine R_getS (pc := 78) (ci := 3) (k := 0) 40 (dc k_N_readTie 41 rfl) fl_N_50 rfl (lb rfl) (Nat.le_trans (lb rfl) hn) (hE 27 (lb rfl) (lb rfl)) rfl (by decide) rfl ?_
      refine R_cVV (pc := 81)  (As := []) (S := []) ck_N_109 (dc k_N_readTie 42 rfl) ⟨rfl, ⟨_, rfl, rfl⟩, (lb rfl), (Nat.le_trans (lb rfl) hn)⟩ (lb rfl) (lb rfl) (lb rfl) rfl (ct_K_pass hE hn (Z_bind hz)) (fun M_37 hz => ?_)
      refine R_aload_n (pc := 84) 0 (dc k_N_readTie 43 rfl) rfl rfl ?_
      refine R_getS (pc := 85) (ci := 3) (k := 0) 40 (dc k_N_readTie 44 rfl) fl_N_50 rfl (lb rfl) (Nat.le_trans (lb rfl) hn) (hE 27 (lb rfl) (lb rfl)) rfl (by decide) rfl ?_
      refine R_bipush (pc := 88) (a := 8) (dc k_N_readTie 45 rfl) (by decide) ?_
      refine R_cVV (pc := 90)  (As := [vI 8]) (S := []) ck_N_153 (dc k_N_readTie 46 rfl) ⟨rfl, ⟨_, rfl, rfl⟩, (lb rfl), (Nat.le_trans (lb rfl) hn)⟩ (lb rfl) (lb rfl) (lb rfl) rfl (ct_K_expect hE hn (Z_bind hz)) (fun M_38 hz => ?_)
      refine R_aload_n (pc := 93) 0 (dc k_N_readTie 47 rfl) rfl rfl ?_
      refine R_cVM (pc := 94)  (As := []) (S := []) ck_N_156 (dc k_N_readTie 48 rfl) ⟨rfl, ⟨_, rfl, rfl⟩, (lb rfl), (Nat.le_trans (lb rfl) hn)⟩ (lb rfl) (lb rfl) (lb rfl) rfl (ct_N_readSmall hE hn (Z_bind hz)) (fun r_39 M_40 hz => ?_)
      refine R_istore_n (pc := 97) (L' := [(3, vI r_39), (0, vR 27), (1, vI r_10), (2, vI r_13)]) (dc k_N_readTie 49 rfl) rfl (lb rfl) rfl ?_
      refine R_aload_n (pc := 98) 1 (dc k_N_readTie 50 rfl) rfl rfl ?_
      refine R_getS (pc := 99) (ci := 3) (k := 0) 40 (dc k_N_readTie 51 rfl) fl_N_50 rfl (lb rfl) (Nat.le_trans (lb rfl) hn) (hE 27 (lb rfl) (lb rfl)) rfl (by decide) rfl ?_
      refine R_bipush (pc := 102) (a := 59) (dc k_N_readTie 52 rfl) (by decide) ?_
      refine R_cVV (pc := 104)  (As := [vI 59]) (S := []) ck_N_153 (dc k_N_readTie 53 rfl) ⟨rfl, ⟨_, rfl, rfl⟩, (lb rfl), (Nat.le_trans (lb rfl) hn)⟩ (lb rfl) (lb rfl) (lb rfl) rfl (ct_K_expect hE hn (Z_bind hz)) (fun M_41 hz => ?_)
      refine R_aload_n (pc := 107) 1 (dc k_N_readTie 54 rfl) rfl rfl ?_
      refine R_getS (pc := 108) (ci := 3) (k := 0) 40 (dc k_N_readTie 55 rfl) fl_N_50 rfl (lb rfl) (Nat.le_trans (lb rfl) hn) (hE 27 (lb rfl) (lb rfl)) rfl (by decide) rfl ?_
      refine R_getI (pc := 111) (ci := 2) (k := 4) (dc k_N_readTie 56 rfl) fl_N_82 rfl (lb rfl) (Nat.le_trans (lb rfl) hn) rfl (Or.inl rfl) ?_
      refine R_bipush (pc := 114) (a := 24) (dc k_N_readTie 57 rfl) (by decide) ?_
      have hX_76 : ((¬ n32 (M_41 40 4) = 24) ∧ ((¬ n32 r_10 = (-1)) ∧ (¬ n32 r_13 = (-1)))) → Rr y_N_readTie (4, 84, n, n, E) (qV K) 129 [(3, vI r_39), (0, vR 27), (1, vI r_10), (2, vI r_13)] [] E n M_41 := by
        intro hc
        have hz := Z_pos hc hz
        refine R_aload_n (pc := 129) 1 (dc k_N_readTie 65 rfl) rfl rfl ?_
        obtain ⟨hg_42, hz⟩ := Z_chk hz
        obtain ⟨t_43, ht_43, hz⟩ := Z_lt hz
        obtain ⟨hq_44, ht_43t⟩ := isTI.at' hg_42 ht_43
        have hnt_43t := qTn ht_43t hn
        have hEt_43t := qTE ht_43t hE
        refine R_getR (pc := 130) (ci := 3) (k := 16) t_43 (dc k_N_readTie 66 rfl) fl_N_54 rfl (lb rfl) (Nat.le_trans (lb rfl) hn) (Or.inr rfl) hq_44 (qT0 ht_43t) rfl ?_
        refine R_getS (pc := 133) (ci := 1) (k := 11) (t_43 + 4) (dc k_N_readTie 67 rfl) fl_N_194 (lT ht_43t) (qT1 ht_43t) (qTn_0 hnt_43t) hEt_43t (rT_11 ht_43t) (Nat.succ_ne_zero _) rfl ?_
        refine R_aload_n (pc := 136) 1 (dc k_N_readTie 68 rfl) rfl rfl ?_
        refine R_getR (pc := 137) (ci := 3) (k := 16) t_43 (dc k_N_readTie 69 rfl) fl_N_54 rfl (lb rfl) (Nat.le_trans (lb rfl) hn) (Or.inr rfl) hq_44 (qT0 ht_43t) rfl ?_
        refine R_getI (pc := 140) (ci := 1) (k := 3) (dc k_N_readTie 70 rfl) fl_N_185 (lT ht_43t) (qT1 ht_43t) (qTn_0 hnt_43t) (rT_3 ht_43t) (Or.inl rfl) ?_
        refine R_iload_n (pc := 143) 2 (dc k_N_readTie 71 rfl) rfl rfl ?_
        obtain ⟨⟨hg_45, hg_46⟩, hz⟩ := Z_chk hz
        obtain ⟨M_47, hM_47, hz⟩ := Z_lt hz
        refine R_iastE (pc := 144) (dc k_N_readTie 72 rfl) (lT_4 ht_43t) (Nat.le_add_left_of_le (lb rfl)) (qTn_k hnt_43t (lb rfl)) hg_45 hg_46 hM_47 ?_
        refine R_aload_n (pc := 145) 1 (dc k_N_readTie 73 rfl) rfl rfl ?_
        obtain ⟨hg_48, hz⟩ := Z_chk hz
        obtain ⟨t_49, ht_49, hz⟩ := Z_lt hz
        obtain ⟨hq_50, ht_49t⟩ := isTI.at' hg_48 ht_49
        have hnt_49t := qTn ht_49t hn
        have hEt_49t := qTE ht_49t hE
        refine R_getR (pc := 146) (ci := 3) (k := 16) t_49 (dc k_N_readTie 74 rfl) fl_N_54 rfl (lb rfl) (Nat.le_trans (lb rfl) hn) (Or.inr rfl) hq_50 (qT0 ht_49t) rfl ?_
        refine R_getS (pc := 149) (ci := 1) (k := 12) (t_49 + 5) (dc k_N_readTie 75 rfl) fl_N_197 (lT ht_49t) (qT1 ht_49t) (qTn_0 hnt_49t) hEt_49t (rT_12 ht_49t) (Nat.succ_ne_zero _) rfl ?_
        refine R_aload_n (pc := 152) 1 (dc k_N_readTie 76 rfl) rfl rfl ?_
        refine R_getR (pc := 153) (ci := 3) (k := 16) t_49 (dc k_N_readTie 77 rfl) fl_N_54 rfl (lb rfl) (Nat.le_trans (lb rfl) hn) (Or.inr rfl) hq_50 (qT0 ht_49t) rfl ?_
        refine R_getI (pc := 156) (ci := 1) (k := 3) (dc k_N_readTie 78 rfl) fl_N_185 (lT ht_49t) (qT1 ht_49t) (qTn_0 hnt_49t) (rT_3 ht_49t) (Or.inl rfl) ?_
        refine R_iload_n (pc := 159) 3 (dc k_N_readTie 79 rfl) rfl rfl ?_
        obtain ⟨⟨hg_51, hg_52⟩, hz⟩ := Z_chk hz
        obtain ⟨M_53, hM_53, hz⟩ := Z_lt hz
        refine R_iastE (pc := 160) (dc k_N_readTie 80 rfl) (lT_5 ht_49t) (Nat.le_add_left_of_le (lb rfl)) (qTn_k hnt_49t (lb rfl)) hg_51 hg_52 hM_53 ?_
        refine R_aload_n (pc := 161) 1 (dc k_N_readTie 81 rfl) rfl rfl ?_
        obtain ⟨hg_54, hz⟩ := Z_chk hz
        obtain ⟨t_55, ht_55, hz⟩ := Z_lt hz
        obtain ⟨hq_56, ht_55t⟩ := isTI.at' hg_54 ht_55
        have hnt_55t := qTn ht_55t hn
        have hEt_55t := qTE ht_55t hE
        refine R_getR (pc := 162) (ci := 3) (k := 16) t_55 (dc k_N_readTie 82 rfl) fl_N_54 rfl (lb rfl) (Nat.le_trans (lb rfl) hn) (Or.inr rfl) hq_56 (qT0 ht_55t) rfl ?_
        refine R_getS (pc := 165) (ci := 1) (k := 13) (t_55 + 6) (dc k_N_readTie 83 rfl) fl_N_200 (lT ht_55t) (qT1 ht_55t) (qTn_0 hnt_55t) hEt_55t (rT_13 ht_55t) (Nat.succ_ne_zero _) rfl ?_
        refine R_aload_n (pc := 168) 1 (dc k_N_readTie 84 rfl) rfl rfl ?_
        refine R_getR (pc := 169) (ci := 3) (k := 16) t_55 (dc k_N_readTie 85 rfl) fl_N_54 rfl (lb rfl) (Nat.le_trans (lb rfl) hn) (Or.inr rfl) hq_56 (qT0 ht_55t) rfl ?_
        refine R_getI (pc := 172) (ci := 1) (k := 3) (dc k_N_readTie 86 rfl) fl_N_185 (lT ht_55t) (qT1 ht_55t) (qTn_0 hnt_55t) (rT_3 ht_55t) (Or.inl rfl) ?_
        refine R_iload_n (pc := 175) 0 (dc k_N_readTie 87 rfl) rfl rfl ?_
        obtain ⟨⟨hg_57, hg_58⟩, hz⟩ := Z_chk hz
        obtain ⟨M_59, hM_59, hz⟩ := Z_lt hz
        refine R_iastE (pc := 176) (dc k_N_readTie 88 rfl) (lT_6 ht_55t) (Nat.le_add_left_of_le (lb rfl)) (qTn_k hnt_55t (lb rfl)) hg_57 hg_58 hM_59 ?_
        refine R_aload_n (pc := 177) 1 (dc k_N_readTie 89 rfl) rfl rfl ?_
        obtain ⟨hg_60, hz⟩ := Z_chk hz
        obtain ⟨t_61, ht_61, hz⟩ := Z_lt hz
        obtain ⟨hq_62, ht_61t⟩ := isTI.at' hg_60 ht_61
        have hnt_61t := qTn ht_61t hn
        have hEt_61t := qTE ht_61t hE
        refine R_getR (pc := 178) (ci := 3) (k := 16) t_61 (dc k_N_readTie 90 rfl) fl_N_54 rfl (lb rfl) (Nat.le_trans (lb rfl) hn) (Or.inr rfl) hq_62 (qT0 ht_61t) rfl ?_
        refine R_getS (pc := 181) (ci := 1) (k := 10) (t_61 + 3) (dc k_N_readTie 91 rfl) fl_N_191 (lT ht_61t) (qT1 ht_61t) (qTn_0 hnt_61t) hEt_61t (rT_10 ht_61t) (Nat.succ_ne_zero _) rfl ?_
        refine R_iload_n (pc := 184) 2 (dc k_N_readTie 92 rfl) rfl rfl ?_
        refine R_dup2 (pc := 185) (dc k_N_readTie 93 rfl) rfl rfl ?_
        obtain ⟨⟨hg_63, hg_64⟩, hz⟩ := Z_chk hz
        refine R_iald (pc := 186) (dc k_N_readTie 94 rfl) (lT_3 ht_61t) (Nat.le_add_left_of_le (lb rfl)) (qTn_k hnt_61t (lb rfl)) hg_63 hg_64 ?_
        refine R_iconst (pc := 187) (a := 1) (dc k_N_readTie 95 rfl) ?_
        refine R_iload_n (pc := 188) 3 (dc k_N_readTie 96 rfl) rfl rfl ?_
        refine R_ishl (pc := 189) (dc k_N_readTie 97 rfl) ?_
        refine R_ior (pc := 190) (dc k_N_readTie 98 rfl) ?_
        obtain ⟨M_65, hM_65, hz⟩ := Z_lt hz
        refine R_iastE (pc := 191) (dc k_N_readTie 99 rfl) (lT_3 ht_61t) (Nat.le_add_left_of_le (lb rfl)) (qTn_k hnt_61t (lb rfl)) hg_63 hg_64 hM_65 ?_
        refine R_aload_n (pc := 192) 1 (dc k_N_readTie 100 rfl) rfl rfl ?_
        obtain ⟨hg_66, hz⟩ := Z_chk hz
        obtain ⟨t_67, ht_67, hz⟩ := Z_lt hz
        obtain ⟨hq_68, ht_67t⟩ := isTI.at' hg_66 ht_67
        have hnt_67t := qTn ht_67t hn
        have hEt_67t := qTE ht_67t hE
        refine R_getR (pc := 193) (ci := 3) (k := 16) t_67 (dc k_N_readTie 101 rfl) fl_N_54 rfl (lb rfl) (Nat.le_trans (lb rfl) hn) (Or.inr rfl) hq_68 (qT0 ht_67t) rfl ?_
        refine R_getS (pc := 196) (ci := 1) (k := 10) (t_67 + 3) (dc k_N_readTie 102 rfl) fl_N_191 (lT ht_67t) (qT1 ht_67t) (qTn_0 hnt_67t) hEt_67t (rT_10 ht_67t) (Nat.succ_ne_zero _) rfl ?_
        refine R_iload_n (pc := 199) 3 (dc k_N_readTie 103 rfl) rfl rfl ?_
        refine R_dup2 (pc := 200) (dc k_N_readTie 104 rfl) rfl rfl ?_
        obtain ⟨⟨hg_69, hg_70⟩, hz⟩ := Z_chk hz
        refine R_iald (pc := 201) (dc k_N_readTie 105 rfl) (lT_3 ht_67t) (Nat.le_add_left_of_le (lb rfl)) (qTn_k hnt_67t (lb rfl)) hg_69 hg_70 ?_
        refine R_iconst (pc := 202) (a := 1) (dc k_N_readTie 106 rfl) ?_
        refine R_iload_n (pc := 203) 2 (dc k_N_readTie 107 rfl) rfl rfl ?_
        refine R_ishl (pc := 204) (dc k_N_readTie 108 rfl) ?_
        refine R_ior (pc := 205) (dc k_N_readTie 109 rfl) ?_
        obtain ⟨M_71, hM_71, hz⟩ := Z_lt hz
        refine R_iastE (pc := 206) (dc k_N_readTie 110 rfl) (lT_3 ht_67t) (Nat.le_add_left_of_le (lb rfl)) (qTn_k hnt_67t (lb rfl)) hg_69 hg_70 hM_71 ?_
        refine R_aload_n (pc := 207) 1 (dc k_N_readTie 111 rfl) rfl rfl ?_
        obtain ⟨hg_72, hz⟩ := Z_chk hz
        obtain ⟨t_73, ht_73, hz⟩ := Z_lt hz
        obtain ⟨hq_74, ht_73t⟩ := isTI.at' hg_72 ht_73
        have hnt_73t := qTn ht_73t hn
        have hEt_73t := qTE ht_73t hE
        refine R_getR (pc := 208) (ci := 3) (k := 16) t_73 (dc k_N_readTie 112 rfl) fl_N_54 rfl (lb rfl) (Nat.le_trans (lb rfl) hn) (Or.inr rfl) hq_74 (qT0 ht_73t) rfl ?_
        refine R_dup (pc := 211) (dc k_N_readTie 113 rfl) rfl ?_
        refine R_getI (pc := 212) (ci := 1) (k := 3) (dc k_N_readTie 114 rfl) fl_N_185 (lT ht_73t) (qT1 ht_73t) (qTn_0 hnt_73t) (rT_3 ht_73t) (Or.inl rfl) ?_
        refine R_iconst (pc := 215) (a := 1) (dc k_N_readTie 115 rfl) ?_
        refine R_iadd (pc := 216) (dc k_N_readTie 116 rfl) ?_
        obtain ⟨M_75, hM_75, hz⟩ := Z_lt hz
        refine R_putIE (pc := 217) (ci := 1) (k := 3) (dc k_N_readTie 117 rfl) fl_N_185 (lT ht_73t) (qT1 ht_73t) (qTn_0 hnt_73t) (rT_3 ht_73t) rfl rfl hM_75 ?_
        exact R_vret (pc := 220) (dc k_N_readTie 118 rfl) rfl rfl rfl ⟨rfl, (Z_some hz)⟩
      have hY_77 : ¬ ((¬ n32 (M_41 40 4) = 24) ∧ ((¬ n32 r_10 = (-1)) ∧ (¬ n32 r_13 = (-1)))) → Rr y_N_readTie (4, 84, n, n, E) (qV K) 220 [(3, vI r_39), (0, vR 27), (1, vI r_10), (2, vI r_13)] [] E n M_41 := by
        intro hc
        have hz := Z_neg hc hz
        exact R_vret (pc := 220) (dc k_N_readTie 118 rfl) rfl rfl rfl ⟨rfl, (Z_some hz)⟩
      refine R_icmp_eq (pc := 116) 220 (dc k_N_readTie 58 rfl) rfl (fun hc => ?_) (fun hc => ?_)
      · have hc_78 : n32 (M_41 40 4) = 24 := hc
        exact hY_77 (fun z => (fun z => z hc_78) z.1)
      · have hc_79 : ¬ n32 (M_41 40 4) = 24 := hc
        refine R_iload_n (pc := 119) 2 (dc k_N_readTie 59 rfl) rfl rfl ?_
        refine R_iconst (pc := 120) (a := (-1)) (dc k_N_readTie 60 rfl) ?_
        refine R_icmp_eq (pc := 121) 220 (dc k_N_readTie 61 rfl) rfl (fun hc => ?_) (fun hc => ?_)
        · have hc_80 : n32 r_10 = (-1) := hc
          exact hY_77 (fun z => (fun z => (fun z => z hc_80) z.1) z.2)
        · have hc_81 : ¬ n32 r_10 = (-1) := hc
          refine R_iload_n (pc := 124) 3 (dc k_N_readTie 62 rfl) rfl rfl ?_
          refine R_iconst (pc := 125) (a := (-1)) (dc k_N_readTie 63 rfl) ?_
          refine R_icmp_eq (pc := 126) 220 (dc k_N_readTie 64 rfl) rfl (fun hc => ?_) (fun hc => ?_)
          · have hc_82 : n32 r_13 = (-1) := hc
            exact hY_77 (fun z => (fun z => (fun z => z hc_82) z.2) z.2)
          · have hc_83 : ¬ n32 r_13 = (-1) := hc
            exact hX_76 ⟨hc_79, ⟨hc_81, hc_83⟩⟩
    have hX_31 : ((¬ n32 r_10 = (-1)) ∧ (¬ n32 r_13 = (-1))) → Rr y_N_readTie (4, 84, n, n, E) (qV K) 48 [(2, vI r_13), (1, vI r_10), (0, vR 27)] [] E n M_14 := by
      intro hc
      have hz := Z_pos hc hz
      refine R_iload_n (pc := 48) 1 (dc k_N_readTie 25 rfl) rfl rfl ?_
      refine R_iload_n (pc := 49) 0 (dc k_N_readTie 26 rfl) rfl rfl ?_
      obtain ⟨K_19, hK_20, hz⟩ := Z_cut hz
      have hX_21 : K_19 true → Rr y_N_readTie (4, 84, n, n, E) (qV K) 69 [(2, vI r_13), (1, vI r_10), (0, vR 27)] [] E n M_14 := by
        intro hk
        have hz := Z_pos rfl (hK_20 _ hk)
        refine R_aload_n (pc := 69) 2 (dc k_N_readTie 36 rfl) rfl rfl ?_
        refine R_getS (pc := 70) (ci := 3) (k := 0) 40 (dc k_N_readTie 37 rfl) fl_N_50 rfl (lb rfl) (Nat.le_trans (lb rfl) hn) (hE 27 (lb rfl) (lb rfl)) rfl (by decide) rfl ?_
        refine R_iconst (pc := 73) (a := 3) (dc k_N_readTie 38 rfl) ?_
        refine R_cVV (pc := 74)  (As := [vI 3]) (S := []) ck_N_106 (dc k_N_readTie 39 rfl) ⟨rfl, ⟨_, rfl, rfl⟩, (lb rfl), (Nat.le_trans (lb rfl) hn)⟩ (lb rfl) (lb rfl) (lb rfl) rfl (ct_K_fail hE hn (Z_bind hz)) (fun M_30 hz => ?_)
        refine R_sub [2, 1, 0] rfl ?_
        exact hJ_18 _ (Z_some hz)
      have hY_22 : K_19 false → Rr y_N_readTie (4, 84, n, n, E) (qV K) 77 [(2, vI r_13), (1, vI r_10), (0, vR 27)] [] E n M_14 := by
        intro hk
        have hz := Z_neg Bool.false_ne_true (hK_20 _ hk)
        refine R_sub [2, 1, 0] rfl ?_
        exact hJ_18 _ (Z_some hz)
      refine R_icmp_eq (pc := 50) 69 (dc k_N_readTie 27 rfl) rfl (fun hc => ?_) (fun hc => ?_)
      · have hz := Z_neg (show ¬ (¬ n32 r_10 = n32 r_13) from (fun z => z hc)) hz
        exact hX_21 (Z_some hz)
      · have hz := Z_pos (show ¬ n32 r_10 = n32 r_13 from hc) hz
        refine R_aload_n (pc := 53) 2 (dc k_N_readTie 28 rfl) rfl rfl ?_
        obtain ⟨hg_24, hz⟩ := Z_chk hz
        obtain ⟨t_25, ht_25, hz⟩ := Z_lt hz
        obtain ⟨hq_26, ht_25t⟩ := isTI.at' hg_24 ht_25
        have hnt_25t := qTn ht_25t hn
        have hEt_25t := qTE ht_25t hE
        refine R_getR (pc := 54) (ci := 3) (k := 16) t_25 (dc k_N_readTie 29 rfl) fl_N_54 rfl (lb rfl) (Nat.le_trans (lb rfl) hn) (Or.inr rfl) hq_26 (qT0 ht_25t) rfl ?_
        refine R_getS (pc := 57) (ci := 1) (k := 10) (t_25 + 3) (dc k_N_readTie 30 rfl) fl_N_191 (lT ht_25t) (qT1 ht_25t) (qTn_0 hnt_25t) hEt_25t (rT_10 ht_25t) (Nat.succ_ne_zero _) rfl ?_
        refine R_iload_n (pc := 60) 1 (dc k_N_readTie 31 rfl) rfl rfl ?_
        obtain ⟨⟨hg_27, hg_28⟩, hz⟩ := Z_chk hz
        refine R_iald (pc := 61) (dc k_N_readTie 32 rfl) (lT_3 ht_25t) (Nat.le_add_left_of_le (lb rfl)) (qTn_k hnt_25t (lb rfl)) hg_27 hg_28 ?_
        refine R_iload_n (pc := 62) 0 (dc k_N_readTie 33 rfl) rfl rfl ?_
        refine R_cSP (pc := 63)  (As := [vI (M_14 (t_25 + 3) (Int.toNat r_10)), vI r_13]) (S := []) ck_N_172 (dc k_N_readTie 34 rfl) (lb rfl) (lb rfl) (lb rfl) rfl (ct_X_hasBit hE hn (Z_bind hz)) (fun r_29 hz => ?_)
        refine R_if_eq (pc := 66) 77 (dc k_N_readTie 35 rfl) rfl (fun hc => ?_) (fun hc => ?_)
        · have hz := Z_neg (show ¬ (¬ n32 r_29 = 0) from (fun z => z hc)) hz
          exact hY_22 (Z_some hz)
        · have hz := Z_pos (show ¬ n32 r_29 = 0 from hc) hz
          exact hX_21 (Z_some hz)
    have hY_32 : ¬ ((¬ n32 r_10 = (-1)) ∧ (¬ n32 r_13 = (-1))) → Rr y_N_readTie (4, 84, n, n, E) (qV K) 77 [(2, vI r_13), (1, vI r_10), (0, vR 27)] [] E n M_14 := by
      intro hc
      have hz := Z_neg hc hz
      refine R_sub [2, 1, 0] rfl ?_
      exact hJ_18 _ (Z_some hz)
    refine R_icmp_eq (pc := 40) 77 (dc k_N_readTie 21 rfl) rfl (fun hc => ?_) (fun hc => ?_)
    · have hc_33 : n32 r_10 = (-1) := hc
      exact hY_32 (fun z => (fun z => z hc_33) z.1)
    · have hc_34 : ¬ n32 r_10 = (-1) := hc
      refine R_iload_n (pc := 43) 0 (dc k_N_readTie 22 rfl) rfl rfl ?_
      refine R_iconst (pc := 44) (a := (-1)) (dc k_N_readTie 23 rfl) ?_
      refine R_icmp_eq (pc := 45) 77 (dc k_N_readTie 24 rfl) rfl (fun hc => ?_) (fun hc => ?_)
      · have hc_35 : n32 r_13 = (-1) := hc
        exact hY_32 (fun z => (fun z => z hc_35) z.2)
      · have hc_36 : ¬ n32 r_13 = (-1) := hc
        exact hX_31 ⟨hc_34, hc_36⟩
  refine R_icmp_ge (pc := 10) 17 (dc k_N_readTie 5 rfl) rfl (fun hc => ?_) (fun hc => ?_)
  · have hz := Z_neg (show ¬ (n32 (M t_2 3) < 12) from (Int.not_lt.mpr hc)) hz
    refine R_iconst (pc := 17) (a := 0) (dc k_N_readTie 8 rfl) ?_
    exact hJ_7 _ (Z_some hz)
  · have hz := Z_pos (show n32 (M t_2 3) < 12 from (Int.not_le.mp hc)) hz
    refine R_iconst (pc := 13) (a := 1) (dc k_N_readTie 6 rfl) ?_
    refine R_goto (pc := 14) 18 (dc k_N_readTie 7 rfl) rfl ?_
    exact hJ_7 _ (Z_some hz)

set_option maxRecDepth 20000 in
theorem ct_N_readWish {E : Nat → Bool} {n : Nat} (hE : ∀ c, 1 ≤ c → c ≤ 80 → E c = true) (hn : 80 ≤ n) {M : Mem} {K : Mem → Prop} (hz : Z (N_readWish M) K) : Mt y_N_readWish (4, 84, n, n, E) E [vR 27] M (qV K) := by
  refine Mt.of (by decide) (lb rfl) (Nat.le_refl _) rfl ?_
  rw [N_readWish] at hz
  show Rr y_N_readWish (4, 84, n, n, E) (qV K) 0 [(0, vR 27)] [] E n M
  refine R_aload_n (pc := 0) 0 (dc k_N_readWish 0 rfl) rfl rfl ?_
  refine R_aload_n (pc := 1) 0 (dc k_N_readWish 1 rfl) rfl rfl ?_
  obtain ⟨hg_1, hz⟩ := Z_chk hz
  obtain ⟨t_2, ht_2, hz⟩ := Z_lt hz
  obtain ⟨hq_3, ht_2t⟩ := isTI.at' hg_1 ht_2
  have hnt_2t := qTn ht_2t hn
  have hEt_2t := qTE ht_2t hE
  refine R_getR (pc := 2) (ci := 3) (k := 16) t_2 (dc k_N_readWish 2 rfl) fl_N_54 rfl (lb rfl) (Nat.le_trans (lb rfl) hn) (Or.inr rfl) hq_3 (qT0 ht_2t) rfl ?_
  refine R_getI (pc := 5) (ci := 1) (k := 4) (dc k_N_readWish 3 rfl) fl_N_203 (lT ht_2t) (qT1 ht_2t) (qTn_0 hnt_2t) (rT_4 ht_2t) (Or.inl rfl) ?_
  refine R_bipush (pc := 8) (a := 12) (dc k_N_readWish 4 rfl) (by decide) ?_
  obtain ⟨K_5, hK_6, hz⟩ := Z_cut hz
  have hJ_7 : ∀ (v_4 : Int), K_5 v_4 → Rr y_N_readWish (4, 84, n, n, E) (qV K) 18 [(0, vR 27)] [vI v_4, vR 27] E n M := by
    intro v_4 hk
    have hz := hK_6 _ hk
    refine R_cVV (pc := 18)  (As := [vI v_4]) (S := []) ck_N_146 (dc k_N_readWish 9 rfl) ⟨rfl, ⟨_, rfl, rfl⟩, (lb rfl), (Nat.le_trans (lb rfl) hn)⟩ (lb rfl) (lb rfl) (lb rfl) rfl (ct_N_begin hE hn (Z_bind hz)) (fun M_9 hz => ?_)
    refine R_aload_n (pc := 21) 0 (dc k_N_readWish 10 rfl) rfl rfl ?_
    refine R_cVM (pc := 22)  (As := []) (S := []) ck_N_188 (dc k_N_readWish 11 rfl) ⟨rfl, ⟨_, rfl, rfl⟩, (lb rfl), (Nat.le_trans (lb rfl) hn)⟩ (lb rfl) (lb rfl) (lb rfl) rfl (ct_N_seePerson hE hn (Z_bind hz)) (fun r_10 M_11 hz => ?_)
    refine R_istore_n (pc := 25) (L' := [(1, vI r_10), (0, vR 27)]) (dc k_N_readWish 12 rfl) rfl (lb rfl) rfl ?_
    refine R_aload_n (pc := 26) 1 (dc k_N_readWish 13 rfl) rfl rfl ?_
    refine R_getS (pc := 27) (ci := 3) (k := 0) 40 (dc k_N_readWish 14 rfl) fl_N_50 rfl (lb rfl) (Nat.le_trans (lb rfl) hn) (hE 27 (lb rfl) (lb rfl)) rfl (by decide) rfl ?_
    refine R_cVV (pc := 30)  (As := []) (S := []) ck_N_109 (dc k_N_readWish 15 rfl) ⟨rfl, ⟨_, rfl, rfl⟩, (lb rfl), (Nat.le_trans (lb rfl) hn)⟩ (lb rfl) (lb rfl) (lb rfl) rfl (ct_K_pass hE hn (Z_bind hz)) (fun M_12 hz => ?_)
    refine R_aload_n (pc := 33) 1 (dc k_N_readWish 16 rfl) rfl rfl ?_
    refine R_cVM (pc := 34)  (As := []) (S := []) ck_N_116 (dc k_N_readWish 17 rfl) ⟨rfl, ⟨_, rfl, rfl⟩, (lb rfl), (Nat.le_trans (lb rfl) hn)⟩ (lb rfl) (lb rfl) (lb rfl) rfl (ct_N_seesName hE hn (Z_bind hz)) (fun r_13 M_14 hz => ?_)
    obtain ⟨K_16, hK_17, hz⟩ := Z_cut hz
    have hJ_18 : ∀ (v_15 : Int), K_16 v_15 → Rr y_N_readWish (4, 84, n, n, E) (qV K) 48 [(0, vR 27), (1, vI r_10)] [vI v_15] E n M_14 := by
      intro v_15 hk
      have hz := hK_17 _ hk
      refine R_istore_n (pc := 48) (L' := [(2, vI v_15), (0, vR 27), (1, vI r_10)]) (dc k_N_readWish 23 rfl) rfl (lb rfl) rfl ?_
      refine R_iload_n (pc := 49) 0 (dc k_N_readWish 24 rfl) rfl rfl ?_
      refine R_iconst (pc := 50) (a := (-1)) (dc k_N_readWish 25 rfl) ?_
      obtain ⟨K_22, hK_23, hz⟩ := Z_cut hz
      have hJ_24 : ∀ (M_21 : Mem), K_22 M_21 → Rr y_N_readWish (4, 84, n, n, E) (qV K) 96 [(0, vR 27), (1, vI r_10), (2, vI v_15)] [] E n M_21 := by
        intro M_21 hk
        have hz := hK_23 _ hk
        refine R_aload_n (pc := 96) 0 (dc k_N_readWish 50 rfl) rfl rfl ?_
        refine R_getS (pc := 97) (ci := 3) (k := 0) 40 (dc k_N_readWish 51 rfl) fl_N_50 rfl (lb rfl) (Nat.le_trans (lb rfl) hn) (hE 27 (lb rfl) (lb rfl)) rfl (by decide) rfl ?_
        refine R_cVV (pc := 100)  (As := []) (S := []) ck_N_109 (dc k_N_readWish 52 rfl) ⟨rfl, ⟨_, rfl, rfl⟩, (lb rfl), (Nat.le_trans (lb rfl) hn)⟩ (lb rfl) (lb rfl) (lb rfl) rfl (ct_K_pass hE hn (Z_bind hz)) (fun M_38 hz => ?_)
        refine R_aload_n (pc := 103) 0 (dc k_N_readWish 53 rfl) rfl rfl ?_
        refine R_getS (pc := 104) (ci := 3) (k := 0) 40 (dc k_N_readWish 54 rfl) fl_N_50 rfl (lb rfl) (Nat.le_trans (lb rfl) hn) (hE 27 (lb rfl) (lb rfl)) rfl (by decide) rfl ?_
        refine R_bipush (pc := 107) (a := 10) (dc k_N_readWish 55 rfl) (by decide) ?_
        refine R_cVV (pc := 109)  (As := [vI 10]) (S := []) ck_N_153 (dc k_N_readWish 56 rfl) ⟨rfl, ⟨_, rfl, rfl⟩, (lb rfl), (Nat.le_trans (lb rfl) hn)⟩ (lb rfl) (lb rfl) (lb rfl) rfl (ct_K_expect hE hn (Z_bind hz)) (fun M_39 hz => ?_)
        refine R_aload_n (pc := 112) 0 (dc k_N_readWish 57 rfl) rfl rfl ?_
        refine R_cVM (pc := 113)  (As := []) (S := []) ck_N_156 (dc k_N_readWish 58 rfl) ⟨rfl, ⟨_, rfl, rfl⟩, (lb rfl), (Nat.le_trans (lb rfl) hn)⟩ (lb rfl) (lb rfl) (lb rfl) rfl (ct_N_readSmall hE hn (Z_bind hz)) (fun r_40 M_41 hz => ?_)
        refine R_istore_n (pc := 116) (L' := [(3, vI r_40), (0, vR 27), (1, vI r_10), (2, vI v_15)]) (dc k_N_readWish 59 rfl) rfl (lb rfl) rfl ?_
        refine R_aload_n (pc := 117) 1 (dc k_N_readWish 60 rfl) rfl rfl ?_
        refine R_getS (pc := 118) (ci := 3) (k := 0) 40 (dc k_N_readWish 61 rfl) fl_N_50 rfl (lb rfl) (Nat.le_trans (lb rfl) hn) (hE 27 (lb rfl) (lb rfl)) rfl (by decide) rfl ?_
        refine R_bipush (pc := 121) (a := 59) (dc k_N_readWish 62 rfl) (by decide) ?_
        refine R_cVV (pc := 123)  (As := [vI 59]) (S := []) ck_N_153 (dc k_N_readWish 63 rfl) ⟨rfl, ⟨_, rfl, rfl⟩, (lb rfl), (Nat.le_trans (lb rfl) hn)⟩ (lb rfl) (lb rfl) (lb rfl) rfl (ct_K_expect hE hn (Z_bind hz)) (fun M_42 hz => ?_)
        refine R_aload_n (pc := 126) 1 (dc k_N_readWish 64 rfl) rfl rfl ?_
        refine R_getS (pc := 127) (ci := 3) (k := 0) 40 (dc k_N_readWish 65 rfl) fl_N_50 rfl (lb rfl) (Nat.le_trans (lb rfl) hn) (hE 27 (lb rfl) (lb rfl)) rfl (by decide) rfl ?_
        refine R_getI (pc := 130) (ci := 2) (k := 4) (dc k_N_readWish 66 rfl) fl_N_82 rfl (lb rfl) (Nat.le_trans (lb rfl) hn) rfl (Or.inl rfl) ?_
        refine R_bipush (pc := 133) (a := 24) (dc k_N_readWish 67 rfl) (by decide) ?_
        have hX_53 : ((¬ n32 (M_42 40 4) = 24) ∧ ((¬ n32 r_10 = (-1)) ∧ (¬ n32 v_15 = (-1)))) → Rr y_N_readWish (4, 84, n, n, E) (qV K) 148 [(3, vI r_40), (0, vR 27), (1, vI r_10), (2, vI v_15)] [] E n M_42 := by
          intro hc
          have hz := Z_pos hc hz
          refine R_aload_n (pc := 148) 1 (dc k_N_readWish 75 rfl) rfl rfl ?_
          obtain ⟨hg_43, hz⟩ := Z_chk hz
          obtain ⟨t_44, ht_44, hz⟩ := Z_lt hz
          obtain ⟨hq_45, ht_44t⟩ := isTI.at' hg_43 ht_44
          have hnt_44t := qTn ht_44t hn
          have hEt_44t := qTE ht_44t hE
          refine R_getR (pc := 149) (ci := 3) (k := 16) t_44 (dc k_N_readWish 76 rfl) fl_N_54 rfl (lb rfl) (Nat.le_trans (lb rfl) hn) (Or.inr rfl) hq_45 (qT0 ht_44t) rfl ?_
          refine R_getS (pc := 152) (ci := 1) (k := 14) (t_44 + 7) (dc k_N_readWish 77 rfl) fl_N_206 (lT ht_44t) (qT1 ht_44t) (qTn_0 hnt_44t) hEt_44t (rT_14 ht_44t) (Nat.succ_ne_zero _) rfl ?_
          refine R_iload_n (pc := 155) 2 (dc k_N_readWish 78 rfl) rfl rfl ?_
          refine R_bipush (pc := 156) (a := 12) (dc k_N_readWish 79 rfl) (by decide) ?_
          refine R_imul (pc := 158) (dc k_N_readWish 80 rfl) ?_
          refine R_iload_n (pc := 159) 3 (dc k_N_readWish 81 rfl) rfl rfl ?_
          refine R_iadd (pc := 160) (dc k_N_readWish 82 rfl) ?_
          refine R_iload_n (pc := 161) 0 (dc k_N_readWish 83 rfl) rfl rfl ?_
          obtain ⟨⟨hg_46, hg_47⟩, hz⟩ := Z_chk hz
          obtain ⟨M_48, hM_48, hz⟩ := Z_lt hz
          refine R_iastE (pc := 162) (dc k_N_readWish 84 rfl) (lT_7 ht_44t) (Nat.le_add_left_of_le (lb rfl)) (qTn_k hnt_44t (lb rfl)) hg_46 hg_47 hM_48 ?_
          refine R_aload_n (pc := 163) 1 (dc k_N_readWish 85 rfl) rfl rfl ?_
          obtain ⟨hg_49, hz⟩ := Z_chk hz
          obtain ⟨t_50, ht_50, hz⟩ := Z_lt hz
          obtain ⟨hq_51, ht_50t⟩ := isTI.at' hg_49 ht_50
          have hnt_50t := qTn ht_50t hn
          have hEt_50t := qTE ht_50t hE
          refine R_getR (pc := 164) (ci := 3) (k := 16) t_50 (dc k_N_readWish 86 rfl) fl_N_54 rfl (lb rfl) (Nat.le_trans (lb rfl) hn) (Or.inr rfl) hq_51 (qT0 ht_50t) rfl ?_
          refine R_dup (pc := 167) (dc k_N_readWish 87 rfl) rfl ?_
          refine R_getI (pc := 168) (ci := 1) (k := 4) (dc k_N_readWish 88 rfl) fl_N_203 (lT ht_50t) (qT1 ht_50t) (qTn_0 hnt_50t) (rT_4 ht_50t) (Or.inl rfl) ?_
          refine R_iconst (pc := 171) (a := 1) (dc k_N_readWish 89 rfl) ?_
          refine R_iadd (pc := 172) (dc k_N_readWish 90 rfl) ?_
          obtain ⟨M_52, hM_52, hz⟩ := Z_lt hz
          refine R_putIE (pc := 173) (ci := 1) (k := 4) (dc k_N_readWish 91 rfl) fl_N_203 (lT ht_50t) (qT1 ht_50t) (qTn_0 hnt_50t) (rT_4 ht_50t) rfl rfl hM_52 ?_
          exact R_vret (pc := 176) (dc k_N_readWish 92 rfl) rfl rfl rfl ⟨rfl, (Z_some hz)⟩
        have hY_54 : ¬ ((¬ n32 (M_42 40 4) = 24) ∧ ((¬ n32 r_10 = (-1)) ∧ (¬ n32 v_15 = (-1)))) → Rr y_N_readWish (4, 84, n, n, E) (qV K) 176 [(3, vI r_40), (0, vR 27), (1, vI r_10), (2, vI v_15)] [] E n M_42 := by
          intro hc
          have hz := Z_neg hc hz
          exact R_vret (pc := 176) (dc k_N_readWish 92 rfl) rfl rfl rfl ⟨rfl, (Z_some hz)⟩
        refine R_icmp_eq (pc := 135) 176 (dc k_N_readWish 68 rfl) rfl (fun hc => ?_) (fun hc => ?_)
        · have hc_55 : n32 (M_42 40 4) = 24 := hc
          exact hY_54 (fun z => (fun z => z hc_55) z.1)
        · have hc_56 : ¬ n32 (M_42 40 4) = 24 := hc
          refine R_iload_n (pc := 138) 2 (dc k_N_readWish 69 rfl) rfl rfl ?_
          refine R_iconst (pc := 139) (a := (-1)) (dc k_N_readWish 70 rfl) ?_
          refine R_icmp_eq (pc := 140) 176 (dc k_N_readWish 71 rfl) rfl (fun hc => ?_) (fun hc => ?_)
          · have hc_57 : n32 r_10 = (-1) := hc
            exact hY_54 (fun z => (fun z => (fun z => z hc_57) z.1) z.2)
          · have hc_58 : ¬ n32 r_10 = (-1) := hc
            refine R_iload_n (pc := 143) 3 (dc k_N_readWish 72 rfl) rfl rfl ?_
            refine R_iconst (pc := 144) (a := (-1)) (dc k_N_readWish 73 rfl) ?_
            refine R_icmp_eq (pc := 145) 176 (dc k_N_readWish 74 rfl) rfl (fun hc => ?_) (fun hc => ?_)
            · have hc_59 : n32 v_15 = (-1) := hc
              exact hY_54 (fun z => (fun z => (fun z => z hc_59) z.2) z.2)
            · have hc_60 : ¬ n32 v_15 = (-1) := hc
              exact hX_53 ⟨hc_56, ⟨hc_58, hc_60⟩⟩
      refine R_icmp_ne (pc := 51) 65 (dc k_N_readWish 26 rfl) rfl (fun hc => ?_) (fun hc => ?_)
      · have hz := Z_neg (show ¬ (n32 v_15 = (-1)) from hc) hz
        refine R_iload_n (pc := 65) 2 (dc k_N_readWish 32 rfl) rfl rfl ?_
        refine R_iconst (pc := 66) (a := (-1)) (dc k_N_readWish 33 rfl) ?_
        obtain ⟨K_26, hK_27, hz⟩ := Z_cut hz
        have hX_28 : K_26 true → Rr y_N_readWish (4, 84, n, n, E) (qV K) 88 [(2, vI v_15), (0, vR 27), (1, vI r_10)] [] E n M_14 := by
          intro hk
          have hz := Z_pos rfl (hK_27 _ hk)
          refine R_aload_n (pc := 88) 1 (dc k_N_readWish 46 rfl) rfl rfl ?_
          refine R_getS (pc := 89) (ci := 3) (k := 0) 40 (dc k_N_readWish 47 rfl) fl_N_50 rfl (lb rfl) (Nat.le_trans (lb rfl) hn) (hE 27 (lb rfl) (lb rfl)) rfl (by decide) rfl ?_
          refine R_iconst (pc := 92) (a := 3) (dc k_N_readWish 48 rfl) ?_
          refine R_cVV (pc := 93)  (As := [vI 3]) (S := []) ck_N_106 (dc k_N_readWish 49 rfl) ⟨rfl, ⟨_, rfl, rfl⟩, (lb rfl), (Nat.le_trans (lb rfl) hn)⟩ (lb rfl) (lb rfl) (lb rfl) rfl (ct_K_fail hE hn (Z_bind hz)) (fun M_36 hz => ?_)
          refine R_sub [1, 2, 0] rfl ?_
          exact hJ_24 _ (Z_some hz)
        have hY_29 : K_26 false → Rr y_N_readWish (4, 84, n, n, E) (qV K) 96 [(2, vI v_15), (0, vR 27), (1, vI r_10)] [] E n M_14 := by
          intro hk
          have hz := Z_neg Bool.false_ne_true (hK_27 _ hk)
          refine R_sub [1, 2, 0] rfl ?_
          exact hJ_24 _ (Z_some hz)
        refine R_icmp_eq (pc := 67) 96 (dc k_N_readWish 34 rfl) rfl (fun hc => ?_) (fun hc => ?_)
        · have hz := Z_neg (show ¬ (¬ n32 r_10 = (-1)) from (fun z => z hc)) hz
          exact hY_29 (Z_some hz)
        · have hz := Z_pos (show ¬ n32 r_10 = (-1) from hc) hz
          refine R_aload_n (pc := 70) 1 (dc k_N_readWish 35 rfl) rfl rfl ?_
          obtain ⟨hg_31, hz⟩ := Z_chk hz
          obtain ⟨t_32, ht_32, hz⟩ := Z_lt hz
          obtain ⟨hq_33, ht_32t⟩ := isTI.at' hg_31 ht_32
          have hnt_32t := qTn ht_32t hn
          have hEt_32t := qTE ht_32t hE
          refine R_getR (pc := 71) (ci := 3) (k := 16) t_32 (dc k_N_readWish 36 rfl) fl_N_54 rfl (lb rfl) (Nat.le_trans (lb rfl) hn) (Or.inr rfl) hq_33 (qT0 ht_32t) rfl ?_
          refine R_getS (pc := 74) (ci := 1) (k := 14) (t_32 + 7) (dc k_N_readWish 37 rfl) fl_N_206 (lT ht_32t) (qT1 ht_32t) (qTn_0 hnt_32t) hEt_32t (rT_14 ht_32t) (Nat.succ_ne_zero _) rfl ?_
          refine R_iload_n (pc := 77) 2 (dc k_N_readWish 38 rfl) rfl rfl ?_
          refine R_bipush (pc := 78) (a := 12) (dc k_N_readWish 39 rfl) (by decide) ?_
          refine R_imul (pc := 80) (dc k_N_readWish 40 rfl) ?_
          refine R_iload_n (pc := 81) 0 (dc k_N_readWish 41 rfl) rfl rfl ?_
          refine R_iadd (pc := 82) (dc k_N_readWish 42 rfl) ?_
          obtain ⟨⟨hg_34, hg_35⟩, hz⟩ := Z_chk hz
          refine R_iald (pc := 83) (dc k_N_readWish 43 rfl) (lT_7 ht_32t) (Nat.le_add_left_of_le (lb rfl)) (qTn_k hnt_32t (lb rfl)) hg_34 hg_35 ?_
          refine R_iconst (pc := 84) (a := (-1)) (dc k_N_readWish 44 rfl) ?_
          refine R_icmp_eq (pc := 85) 96 (dc k_N_readWish 45 rfl) rfl (fun hc => ?_) (fun hc => ?_)
          · have hz := Z_neg (show ¬ (¬ n32 (M_14 (t_32 + 7) (Int.toNat ((r_10 * 12) + v_15))) = (-1)) from (fun z => z hc)) hz
            exact hY_29 (Z_some hz)
          · have hz := Z_pos (show ¬ n32 (M_14 (t_32 + 7) (Int.toNat ((r_10 * 12) + v_15))) = (-1) from hc) hz
            exact hX_28 (Z_some hz)
      · have hz := Z_pos (show n32 v_15 = (-1) from (Decidable.not_not.mp hc)) hz
        refine R_aload_n (pc := 54) 1 (dc k_N_readWish 27 rfl) rfl rfl ?_
        refine R_getS (pc := 55) (ci := 3) (k := 0) 40 (dc k_N_readWish 28 rfl) fl_N_50 rfl (lb rfl) (Nat.le_trans (lb rfl) hn) (hE 27 (lb rfl) (lb rfl)) rfl (by decide) rfl ?_
        refine R_iconst (pc := 58) (a := 5) (dc k_N_readWish 29 rfl) ?_
        refine R_cVV (pc := 59)  (As := [vI 5]) (S := []) ck_N_106 (dc k_N_readWish 30 rfl) ⟨rfl, ⟨_, rfl, rfl⟩, (lb rfl), (Nat.le_trans (lb rfl) hn)⟩ (lb rfl) (lb rfl) (lb rfl) rfl (ct_K_fail hE hn (Z_bind hz)) (fun M_25 hz => ?_)
        refine R_goto (pc := 62) 96 (dc k_N_readWish 31 rfl) rfl ?_
        refine R_sub [1, 2, 0] rfl ?_
        exact hJ_24 _ (Z_some hz)
    refine R_if_eq (pc := 37) 47 (dc k_N_readWish 18 rfl) rfl (fun hc => ?_) (fun hc => ?_)
    · have hz := Z_neg (show ¬ (¬ n32 r_13 = 0) from (fun z => z hc)) hz
      refine R_iconst (pc := 47) (a := (-1)) (dc k_N_readWish 22 rfl) ?_
      refine R_sub [1, 0] rfl ?_
      exact hJ_18 _ (Z_some hz)
    · have hz := Z_pos (show ¬ n32 r_13 = 0 from hc) hz
      refine R_aload_n (pc := 40) 1 (dc k_N_readWish 19 rfl) rfl rfl ?_
      refine R_cVP (pc := 41)  (As := []) (S := []) ck_N_123 (dc k_N_readWish 20 rfl) ⟨rfl, ⟨_, rfl, rfl⟩, (lb rfl), (Nat.le_trans (lb rfl) hn)⟩ (lb rfl) (lb rfl) (lb rfl) rfl (ct_N_findRow hE hn (Z_bind hz)) (fun r_19 hz => ?_)
      refine R_goto (pc := 44) 48 (dc k_N_readWish 21 rfl) rfl ?_
      refine R_sub [1, 0] rfl ?_
      exact hJ_18 _ (Z_some hz)
  refine R_icmp_ge (pc := 10) 17 (dc k_N_readWish 5 rfl) rfl (fun hc => ?_) (fun hc => ?_)
  · have hz := Z_neg (show ¬ (n32 (M t_2 4) < 12) from (Int.not_lt.mpr hc)) hz
    refine R_iconst (pc := 17) (a := 0) (dc k_N_readWish 8 rfl) ?_
    exact hJ_7 _ (Z_some hz)
  · have hz := Z_pos (show n32 (M t_2 4) < 12 from (Int.not_le.mp hc)) hz
    refine R_iconst (pc := 13) (a := 1) (dc k_N_readWish 6 rfl) ?_
    refine R_goto (pc := 14) 18 (dc k_N_readWish 7 rfl) rfl ?_
    exact hJ_7 _ (Z_some hz)

set_option maxRecDepth 20000 in
theorem ct_N_readSum {E : Nat → Bool} {n : Nat} (hE : ∀ c, 1 ≤ c → c ≤ 80 → E c = true) (hn : 80 ≤ n) {rec_ : Int → Mem → Option (Mem)} {fr lo : Nat} (hf : 4 ≤ fr) (hl : 84 ≤ lo) (hrec : ∀ {b0 : Int} {M : Mem} {K : Mem → Prop}, Z (rec_ b0 M) K → Mt y_N_readPart (fr, lo, n, n, E) E [vR 27, vI b0] M (qV K)) {depth : Int} {M : Mem} {K : Mem → Prop} (hz : Z (N_readSum rec_ depth M) K) : Mt y_N_readSum (fr + 1, lo + 23, n, n, E) E [vR 27, vI depth] M (qV K) := by
  refine Mt.of (by decide) (lb rfl) (Nat.le_refl _) rfl ?_
  rw [N_readSum] at hz
  show Rr y_N_readSum (fr + 1, lo + 23, n, n, E) (qV K) 0 [(0, vR 27), (1, vI depth)] [] E n M
  refine R_aload_n (pc := 0) 0 (dc k_N_readSum 0 rfl) rfl rfl ?_
  refine R_iload_n (pc := 1) 1 (dc k_N_readSum 1 rfl) rfl rfl ?_
  refine R_cVV (pc := 2)  (As := [vI depth]) (S := []) ck_N_247 (dc k_N_readSum 2 rfl) ⟨rfl, ⟨_, rfl, rfl⟩, (lb rfl), (Nat.le_trans (lb rfl) hn)⟩ (by first | exact lb rfl | (dsimp only; omega)) (by first | exact lb rfl | (dsimp only [y_N_readPart]; omega)) (lb rfl) rfl (hrec (Z_bind hz)) (fun M_1 hz => ?_)
  refine R_iconst (pc := 5) (a := 0) (dc k_N_readSum 3 rfl) ?_
  refine R_istore_n (pc := 6) (L' := [(2, vI 0), (0, vR 27), (1, vI depth)]) (dc k_N_readSum 4 rfl) rfl (lb rfl) rfl ?_
  obtain ⟨K_4, hK_5, hz⟩ := Z_cut hz
  have hX_6 : ∀ (M_10 : Mem), K_4 M_10 → Rr y_N_readSum (fr + 1, lo + 23, n, n, E) (qV K) 72 [] [] E n M_10 := by
    intro M_10 hk
    have hz := hK_5 _ hk
    exact R_vret (pc := 72) (dc k_N_readSum 35 rfl) rfl rfl rfl ⟨rfl, (Z_some hz)⟩
  refine R_sub [1, 2, 0] rfl ?_
  refine it_R (C := fun aZ : Int × Mem => Rr y_N_readSum (fr + 1, lo + 23, n, n, E) (qV K) 7 [(0, vR 27), (1, vI depth), (2, vI aZ.1)] [] E n aZ.2) (fun aZ K_7 hC_8 hB_9 hz => ?_) FUEL (0, M_1) hz
  obtain ⟨l2_2, M_3⟩ := aZ
  rw [N_readSum_b7] at hz
  show Rr y_N_readSum (fr + 1, lo + 23, n, n, E) (qV K) 7 [(0, vR 27), (1, vI depth), (2, vI l2_2)] [] E n M_3
  refine R_iload_n (pc := 7) 2 (dc k_N_readSum 5 rfl) rfl rfl ?_
  refine R_bipush (pc := 8) (a := 80) (dc k_N_readSum 6 rfl) (by decide) ?_
  refine R_icmp_ge (pc := 10) 72 (dc k_N_readSum 7 rfl) rfl (fun hc => ?_) (fun hc => ?_)
  · have hz := Z_neg (show ¬ (n32 l2_2 < 80) from (Int.not_lt.mpr hc)) hz
    refine R_sub [] rfl ?_
    exact hX_6 _ (hB_9 _ (Z_some hz))
  · have hz := Z_pos (show n32 l2_2 < 80 from (Int.not_le.mp hc)) hz
    refine R_aload_n (pc := 13) 0 (dc k_N_readSum 8 rfl) rfl rfl ?_
    refine R_getS (pc := 14) (ci := 3) (k := 0) 40 (dc k_N_readSum 9 rfl) fl_N_50 rfl (lb rfl) (Nat.le_trans (lb rfl) hn) (hE 27 (lb rfl) (lb rfl)) rfl (by decide) rfl ?_
    refine R_getI (pc := 17) (ci := 2) (k := 4) (dc k_N_readSum 10 rfl) fl_N_82 rfl (lb rfl) (Nat.le_trans (lb rfl) hn) rfl (Or.inl rfl) ?_
    refine R_bipush (pc := 20) (a := 43) (dc k_N_readSum 11 rfl) (by decide) ?_
    have hX_16 : ((n32 (M_3 40 4) = 43) ∨ (n32 (M_3 40 4) = 45)) → Rr y_N_readSum (fr + 1, lo + 23, n, n, E) (qV K) 37 [(0, vR 27), (1, vI depth), (2, vI l2_2)] [] E n M_3 := by
      intro hc
      have hz := Z_pos hc hz
      refine R_aload_n (pc := 37) 0 (dc k_N_readSum 18 rfl) rfl rfl ?_
      refine R_getS (pc := 38) (ci := 3) (k := 0) 40 (dc k_N_readSum 19 rfl) fl_N_50 rfl (lb rfl) (Nat.le_trans (lb rfl) hn) (hE 27 (lb rfl) (lb rfl)) rfl (by decide) rfl ?_
      refine R_getI (pc := 41) (ci := 2) (k := 4) (dc k_N_readSum 20 rfl) fl_N_82 rfl (lb rfl) (Nat.le_trans (lb rfl) hn) rfl (Or.inl rfl) ?_
      obtain ⟨l3_11, hl3_11, hz⟩ := Z_lt hz
      refine R_istore_nE (pc := 44) (L' := [(3, vI l3_11), (0, vR 27), (1, vI depth), (2, vI l2_2)]) (dc k_N_readSum 21 rfl) rfl (lb rfl) hl3_11 rfl ?_
      refine R_aload_n (pc := 45) 1 (dc k_N_readSum 22 rfl) rfl rfl ?_
      refine R_getS (pc := 46) (ci := 3) (k := 0) 40 (dc k_N_readSum 23 rfl) fl_N_50 rfl (lb rfl) (Nat.le_trans (lb rfl) hn) (hE 27 (lb rfl) (lb rfl)) rfl (by decide) rfl ?_
      refine R_cVV (pc := 49)  (As := []) (S := []) ck_N_109 (dc k_N_readSum 24 rfl) ⟨rfl, ⟨_, rfl, rfl⟩, (lb rfl), (Nat.le_trans (lb rfl) hn)⟩ (by first | exact lb rfl | (dsimp only; omega)) (by first | exact lb rfl | (dsimp only [y_K_pass]; omega)) (lb rfl) rfl (ct_K_pass hE hn (Z_bind hz)) (fun M_12 hz => ?_)
      refine R_aload_n (pc := 52) 1 (dc k_N_readSum 25 rfl) rfl rfl ?_
      refine R_iload_n (pc := 53) 2 (dc k_N_readSum 26 rfl) rfl rfl ?_
      refine R_cVV (pc := 54)  (As := [vI depth]) (S := []) ck_N_247 (dc k_N_readSum 27 rfl) ⟨rfl, ⟨_, rfl, rfl⟩, (lb rfl), (Nat.le_trans (lb rfl) hn)⟩ (by first | exact lb rfl | (dsimp only; omega)) (by first | exact lb rfl | (dsimp only [y_N_readPart]; omega)) (lb rfl) rfl (hrec (Z_bind hz)) (fun M_13 hz => ?_)
      refine R_aload_n (pc := 57) 1 (dc k_N_readSum 28 rfl) rfl rfl ?_
      refine R_getS (pc := 58) (ci := 3) (k := 1) 28 (dc k_N_readSum 29 rfl) fl_N_12 rfl (lb rfl) (Nat.le_trans (lb rfl) hn) (hE 27 (lb rfl) (lb rfl)) rfl (by decide) rfl ?_
      refine R_iload_n (pc := 61) 0 (dc k_N_readSum 30 rfl) rfl rfl ?_
      refine R_iconst (pc := 62) (a := 0) (dc k_N_readSum 31 rfl) ?_
      refine R_cVV (pc := 63)  (As := [vI l3_11, vI 0]) (S := []) ck_N_221 (dc k_N_readSum 32 rfl) ⟨rfl, ⟨_, rfl, rfl⟩, (lb rfl), (Nat.le_trans (lb rfl) hn)⟩ (by first | exact lb rfl | (dsimp only; omega)) (by first | exact lb rfl | (dsimp only [y_S_add]; omega)) (lb rfl) rfl (ct_S_add hE hn (Z_bind hz)) (fun M_14 hz => ?_)
      obtain ⟨l2_15, hl2_15, hz⟩ := Z_lt hz
      refine R_iincE (pc := 66) (L' := [(2, vI l2_15), (3, vI l3_11), (0, vR 27), (1, vI depth)]) 3 (dc k_N_readSum 33 rfl) rfl (lb rfl) hl2_15 rfl ?_
      refine R_goto (pc := 69) 7 (dc k_N_readSum 34 rfl) rfl ?_
      refine R_sub [2, 3, 0] rfl ?_
      exact hC_8 _ (Z_some hz)
    have hY_17 : ¬ ((n32 (M_3 40 4) = 43) ∨ (n32 (M_3 40 4) = 45)) → Rr y_N_readSum (fr + 1, lo + 23, n, n, E) (qV K) 72 [(0, vR 27), (1, vI depth), (2, vI l2_2)] [] E n M_3 := by
      intro hc
      have hz := Z_neg hc hz
      refine R_sub [] rfl ?_
      exact hX_6 _ (hB_9 _ (Z_some hz))
    refine R_icmp_eq (pc := 22) 37 (dc k_N_readSum 12 rfl) rfl (fun hc => ?_) (fun hc => ?_)
    · have hc_18 : n32 (M_3 40 4) = 43 := hc
      exact hX_16 (Or.inl hc_18)
    · have hc_19 : ¬ n32 (M_3 40 4) = 43 := hc
      refine R_aload_n (pc := 25) 0 (dc k_N_readSum 13 rfl) rfl rfl ?_
      refine R_getS (pc := 26) (ci := 3) (k := 0) 40 (dc k_N_readSum 14 rfl) fl_N_50 rfl (lb rfl) (Nat.le_trans (lb rfl) hn) (hE 27 (lb rfl) (lb rfl)) rfl (by decide) rfl ?_
      refine R_getI (pc := 29) (ci := 2) (k := 4) (dc k_N_readSum 15 rfl) fl_N_82 rfl (lb rfl) (Nat.le_trans (lb rfl) hn) rfl (Or.inl rfl) ?_
      refine R_bipush (pc := 32) (a := 45) (dc k_N_readSum 16 rfl) (by decide) ?_
      refine R_icmp_ne (pc := 34) 72 (dc k_N_readSum 17 rfl) rfl (fun hc => ?_) (fun hc => ?_)
      · have hc_20 : ¬ n32 (M_3 40 4) = 45 := hc
        exact hY_17 (fun z => z.elim hc_19 hc_20)
      · have hc_21 : n32 (M_3 40 4) = 45 := (Decidable.not_not.mp hc)
        exact hX_16 (Or.inr hc_21)

set_option maxRecDepth 20000 in
theorem ct_N_readAny {E : Nat → Bool} {n : Nat} (hE : ∀ c, 1 ≤ c → c ≤ 80 → E c = true) (hn : 80 ≤ n) {rec_ : Int → Mem → Option (Mem)} {fr lo : Nat} (hf : 4 ≤ fr) (hl : 84 ≤ lo) (hrec : ∀ {b0 : Int} {M : Mem} {K : Mem → Prop}, Z (rec_ b0 M) K → Mt y_N_readPart (fr, lo, n, n, E) E [vR 27, vI b0] M (qV K)) {depth : Int} {M : Mem} {K : Mem → Prop} (hz : Z (N_readAny rec_ depth M) K) : Mt y_N_readAny (fr + 2, lo + 46, n, n, E) E [vR 27, vI depth] M (qV K) := by
  refine Mt.of (by decide) (lb rfl) (Nat.le_refl _) rfl ?_
  rw [N_readAny] at hz
  show Rr y_N_readAny (fr + 2, lo + 46, n, n, E) (qV K) 0 [(0, vR 27), (1, vI depth)] [] E n M
  refine R_aload_n (pc := 0) 0 (dc k_N_readAny 0 rfl) rfl rfl ?_
  refine R_iload_n (pc := 1) 1 (dc k_N_readAny 1 rfl) rfl rfl ?_
  refine R_cVV (pc := 2)  (As := [vI depth]) (S := []) ck_N_244 (dc k_N_readAny 2 rfl) ⟨rfl, ⟨_, rfl, rfl⟩, (lb rfl), (Nat.le_trans (lb rfl) hn)⟩ (by first | exact lb rfl | (dsimp only; omega)) (by first | exact lb rfl | (dsimp only [y_N_readSum]; omega)) (lb rfl) rfl (ct_N_readSum hE hn hf hl hrec (Z_bind hz)) (fun M_1 hz => ?_)
  refine R_aload_n (pc := 5) 0 (dc k_N_readAny 3 rfl) rfl rfl ?_
  refine R_getS (pc := 6) (ci := 3) (k := 0) 40 (dc k_N_readAny 4 rfl) fl_N_50 rfl (lb rfl) (Nat.le_trans (lb rfl) hn) (hE 27 (lb rfl) (lb rfl)) rfl (by decide) rfl ?_
  refine R_getI (pc := 9) (ci := 2) (k := 4) (dc k_N_readAny 5 rfl) fl_N_82 rfl (lb rfl) (Nat.le_trans (lb rfl) hn) rfl (Or.inl rfl) ?_
  obtain ⟨l2_2, hl2_2, hz⟩ := Z_lt hz
  refine R_istore_nE (pc := 12) (L' := [(2, vI l2_2), (0, vR 27), (1, vI depth)]) (dc k_N_readAny 6 rfl) rfl (lb rfl) hl2_2 rfl ?_
  refine R_iload_n (pc := 13) 0 (dc k_N_readAny 7 rfl) rfl rfl ?_
  refine R_bipush (pc := 14) (a := 60) (dc k_N_readAny 8 rfl) (by decide) ?_
  have hX_6 : ((n32 l2_2 = 60) ∨ ((n32 l2_2 = 62) ∨ (n32 l2_2 = 61))) → Rr y_N_readAny (fr + 2, lo + 46, n, n, E) (qV K) 31 [(2, vI l2_2), (0, vR 27), (1, vI depth)] [] E n M_1 := by
    intro hc
    have hz := Z_pos hc hz
    refine R_aload_n (pc := 31) 1 (dc k_N_readAny 16 rfl) rfl rfl ?_
    refine R_getS (pc := 32) (ci := 3) (k := 0) 40 (dc k_N_readAny 17 rfl) fl_N_50 rfl (lb rfl) (Nat.le_trans (lb rfl) hn) (hE 27 (lb rfl) (lb rfl)) rfl (by decide) rfl ?_
    refine R_cVV (pc := 35)  (As := []) (S := []) ck_N_109 (dc k_N_readAny 18 rfl) ⟨rfl, ⟨_, rfl, rfl⟩, (lb rfl), (Nat.le_trans (lb rfl) hn)⟩ (by first | exact lb rfl | (dsimp only; omega)) (by first | exact lb rfl | (dsimp only [y_K_pass]; omega)) (lb rfl) rfl (ct_K_pass hE hn (Z_bind hz)) (fun M_3 hz => ?_)
    refine R_aload_n (pc := 38) 1 (dc k_N_readAny 19 rfl) rfl rfl ?_
    refine R_iload_n (pc := 39) 2 (dc k_N_readAny 20 rfl) rfl rfl ?_
    refine R_cVV (pc := 40)  (As := [vI depth]) (S := []) ck_N_244 (dc k_N_readAny 21 rfl) ⟨rfl, ⟨_, rfl, rfl⟩, (lb rfl), (Nat.le_trans (lb rfl) hn)⟩ (by first | exact lb rfl | (dsimp only; omega)) (by first | exact lb rfl | (dsimp only [y_N_readSum]; omega)) (lb rfl) rfl (ct_N_readSum hE hn hf hl hrec (Z_bind hz)) (fun M_4 hz => ?_)
    refine R_aload_n (pc := 43) 1 (dc k_N_readAny 22 rfl) rfl rfl ?_
    refine R_getS (pc := 44) (ci := 3) (k := 1) 28 (dc k_N_readAny 23 rfl) fl_N_12 rfl (lb rfl) (Nat.le_trans (lb rfl) hn) (hE 27 (lb rfl) (lb rfl)) rfl (by decide) rfl ?_
    refine R_iload_n (pc := 47) 0 (dc k_N_readAny 24 rfl) rfl rfl ?_
    refine R_iconst (pc := 48) (a := 0) (dc k_N_readAny 25 rfl) ?_
    refine R_cVV (pc := 49)  (As := [vI l2_2, vI 0]) (S := []) ck_N_221 (dc k_N_readAny 26 rfl) ⟨rfl, ⟨_, rfl, rfl⟩, (lb rfl), (Nat.le_trans (lb rfl) hn)⟩ (by first | exact lb rfl | (dsimp only; omega)) (by first | exact lb rfl | (dsimp only [y_S_add]; omega)) (lb rfl) rfl (ct_S_add hE hn (Z_bind hz)) (fun M_5 hz => ?_)
    exact R_vret (pc := 52) (dc k_N_readAny 27 rfl) rfl rfl rfl ⟨rfl, (Z_some hz)⟩
  have hY_7 : ¬ ((n32 l2_2 = 60) ∨ ((n32 l2_2 = 62) ∨ (n32 l2_2 = 61))) → Rr y_N_readAny (fr + 2, lo + 46, n, n, E) (qV K) 52 [(2, vI l2_2), (0, vR 27), (1, vI depth)] [] E n M_1 := by
    intro hc
    have hz := Z_neg hc hz
    exact R_vret (pc := 52) (dc k_N_readAny 27 rfl) rfl rfl rfl ⟨rfl, (Z_some hz)⟩
  refine R_icmp_eq (pc := 16) 31 (dc k_N_readAny 9 rfl) rfl (fun hc => ?_) (fun hc => ?_)
  · have hc_8 : n32 l2_2 = 60 := hc
    exact hX_6 (Or.inl hc_8)
  · have hc_9 : ¬ n32 l2_2 = 60 := hc
    refine R_iload_n (pc := 19) 0 (dc k_N_readAny 10 rfl) rfl rfl ?_
    refine R_bipush (pc := 20) (a := 62) (dc k_N_readAny 11 rfl) (by decide) ?_
    refine R_icmp_eq (pc := 22) 31 (dc k_N_readAny 12 rfl) rfl (fun hc => ?_) (fun hc => ?_)
    · have hc_10 : n32 l2_2 = 62 := hc
      exact hX_6 (Or.inr (Or.inl hc_10))
    · have hc_11 : ¬ n32 l2_2 = 62 := hc
      refine R_iload_n (pc := 25) 0 (dc k_N_readAny 13 rfl) rfl rfl ?_
      refine R_bipush (pc := 26) (a := 61) (dc k_N_readAny 14 rfl) (by decide) ?_
      refine R_icmp_ne (pc := 28) 52 (dc k_N_readAny 15 rfl) rfl (fun hc => ?_) (fun hc => ?_)
      · have hc_12 : ¬ n32 l2_2 = 61 := hc
        exact hY_7 (fun z => z.elim hc_9 (fun z => z.elim hc_11 hc_12))
      · have hc_13 : n32 l2_2 = 61 := (Decidable.not_not.mp hc)
        exact hX_6 (Or.inr (Or.inr hc_13))

set_option maxRecDepth 20000 in
theorem ct_N_readF {E : Nat → Bool} {n : Nat} (hE : ∀ c, 1 ≤ c → c ≤ 80 → E c = true) (hn : 80 ≤ n) {rec_ : Int → Mem → Option (Mem)} {fr lo : Nat} (hf : 4 ≤ fr) (hl : 84 ≤ lo) (hrec : ∀ {b0 : Int} {M : Mem} {K : Mem → Prop}, Z (rec_ b0 M) K → Mt y_N_readPart (fr, lo, n, n, E) E [vR 27, vI b0] M (qV K)) {depth : Int} {M : Mem} {K : Mem → Prop} (hz : Z (N_readF rec_ depth M) K) : Mt y_N_readF (fr + 3, lo + 68, n, n, E) E [vR 27, vI depth] M (qV K) := by
  refine Mt.of (by decide) (lb rfl) (Nat.le_refl _) rfl ?_
  rw [N_readF] at hz
  show Rr y_N_readF (fr + 3, lo + 68, n, n, E) (qV K) 0 [(0, vR 27), (1, vI depth)] [] E n M
  refine R_aload_n (pc := 0) 0 (dc k_N_readF 0 rfl) rfl rfl ?_
  refine R_iload_n (pc := 1) 1 (dc k_N_readF 1 rfl) rfl rfl ?_
  refine R_cVV (pc := 2)  (As := [vI depth]) (S := []) ck_N_241 (dc k_N_readF 2 rfl) ⟨rfl, ⟨_, rfl, rfl⟩, (lb rfl), (Nat.le_trans (lb rfl) hn)⟩ (by first | exact lb rfl | (dsimp only; omega)) (by first | exact lb rfl | (dsimp only [y_N_readAny]; omega)) (lb rfl) rfl (ct_N_readAny hE hn hf hl hrec (Z_bind hz)) (fun M_1 hz => ?_)
  refine R_iconst (pc := 5) (a := 0) (dc k_N_readF 3 rfl) ?_
  refine R_istore_n (pc := 6) (L' := [(2, vI 0), (0, vR 27), (1, vI depth)]) (dc k_N_readF 4 rfl) rfl (lb rfl) rfl ?_
  obtain ⟨K_4, hK_5, hz⟩ := Z_cut hz
  have hX_6 : ∀ (M_10 : Mem), K_4 M_10 → Rr y_N_readF (fr + 3, lo + 68, n, n, E) (qV K) 53 [] [] E n M_10 := by
    intro M_10 hk
    have hz := hK_5 _ hk
    exact R_vret (pc := 53) (dc k_N_readF 26 rfl) rfl rfl rfl ⟨rfl, (Z_some hz)⟩
  refine R_sub [1, 2, 0] rfl ?_
  refine it_R (C := fun aZ : Int × Mem => Rr y_N_readF (fr + 3, lo + 68, n, n, E) (qV K) 7 [(0, vR 27), (1, vI depth), (2, vI aZ.1)] [] E n aZ.2) (fun aZ K_7 hC_8 hB_9 hz => ?_) FUEL (0, M_1) hz
  obtain ⟨l2_2, M_3⟩ := aZ
  rw [N_readF_b7] at hz
  show Rr y_N_readF (fr + 3, lo + 68, n, n, E) (qV K) 7 [(0, vR 27), (1, vI depth), (2, vI l2_2)] [] E n M_3
  refine R_iload_n (pc := 7) 2 (dc k_N_readF 5 rfl) rfl rfl ?_
  refine R_bipush (pc := 8) (a := 80) (dc k_N_readF 6 rfl) (by decide) ?_
  have hX_15 : ((n32 l2_2 < 80) ∧ (n32 (M_3 40 4) = 13)) → Rr y_N_readF (fr + 3, lo + 68, n, n, E) (qV K) 25 [(0, vR 27), (1, vI depth), (2, vI l2_2)] [] E n M_3 := by
    intro hc
    have hz := Z_pos hc hz
    refine R_aload_n (pc := 25) 0 (dc k_N_readF 13 rfl) rfl rfl ?_
    refine R_getS (pc := 26) (ci := 3) (k := 0) 40 (dc k_N_readF 14 rfl) fl_N_50 rfl (lb rfl) (Nat.le_trans (lb rfl) hn) (hE 27 (lb rfl) (lb rfl)) rfl (by decide) rfl ?_
    refine R_cVV (pc := 29)  (As := []) (S := []) ck_N_109 (dc k_N_readF 15 rfl) ⟨rfl, ⟨_, rfl, rfl⟩, (lb rfl), (Nat.le_trans (lb rfl) hn)⟩ (by first | exact lb rfl | (dsimp only; omega)) (by first | exact lb rfl | (dsimp only [y_K_pass]; omega)) (lb rfl) rfl (ct_K_pass hE hn (Z_bind hz)) (fun M_11 hz => ?_)
    refine R_aload_n (pc := 32) 0 (dc k_N_readF 16 rfl) rfl rfl ?_
    refine R_iload_n (pc := 33) 1 (dc k_N_readF 17 rfl) rfl rfl ?_
    refine R_cVV (pc := 34)  (As := [vI depth]) (S := []) ck_N_241 (dc k_N_readF 18 rfl) ⟨rfl, ⟨_, rfl, rfl⟩, (lb rfl), (Nat.le_trans (lb rfl) hn)⟩ (by first | exact lb rfl | (dsimp only; omega)) (by first | exact lb rfl | (dsimp only [y_N_readAny]; omega)) (lb rfl) rfl (ct_N_readAny hE hn hf hl hrec (Z_bind hz)) (fun M_12 hz => ?_)
    refine R_aload_n (pc := 37) 0 (dc k_N_readF 19 rfl) rfl rfl ?_
    refine R_getS (pc := 38) (ci := 3) (k := 1) 28 (dc k_N_readF 20 rfl) fl_N_12 rfl (lb rfl) (Nat.le_trans (lb rfl) hn) (hE 27 (lb rfl) (lb rfl)) rfl (by decide) rfl ?_
    refine R_bipush (pc := 41) (a := 13) (dc k_N_readF 21 rfl) (by decide) ?_
    refine R_iconst (pc := 43) (a := 0) (dc k_N_readF 22 rfl) ?_
    refine R_cVV (pc := 44)  (As := [vI 13, vI 0]) (S := []) ck_N_221 (dc k_N_readF 23 rfl) ⟨rfl, ⟨_, rfl, rfl⟩, (lb rfl), (Nat.le_trans (lb rfl) hn)⟩ (by first | exact lb rfl | (dsimp only; omega)) (by first | exact lb rfl | (dsimp only [y_S_add]; omega)) (lb rfl) rfl (ct_S_add hE hn (Z_bind hz)) (fun M_13 hz => ?_)
    obtain ⟨l2_14, hl2_14, hz⟩ := Z_lt hz
    refine R_iincE (pc := 47) (L' := [(2, vI l2_14), (0, vR 27), (1, vI depth)]) 2 (dc k_N_readF 24 rfl) rfl (lb rfl) hl2_14 rfl ?_
    refine R_goto (pc := 50) 7 (dc k_N_readF 25 rfl) rfl ?_
    refine R_sub [1, 2, 0] rfl ?_
    exact hC_8 _ (Z_some hz)
  have hY_16 : ¬ ((n32 l2_2 < 80) ∧ (n32 (M_3 40 4) = 13)) → Rr y_N_readF (fr + 3, lo + 68, n, n, E) (qV K) 53 [(0, vR 27), (1, vI depth), (2, vI l2_2)] [] E n M_3 := by
    intro hc
    have hz := Z_neg hc hz
    refine R_sub [] rfl ?_
    exact hX_6 _ (hB_9 _ (Z_some hz))
  refine R_icmp_ge (pc := 10) 53 (dc k_N_readF 7 rfl) rfl (fun hc => ?_) (fun hc => ?_)
  · have hc_17 : 80 ≤ n32 l2_2 := hc
    exact hY_16 (fun z => (Int.not_lt.mpr hc_17) z.1)
  · have hc_18 : n32 l2_2 < 80 := (Int.not_le.mp hc)
    refine R_aload_n (pc := 13) 0 (dc k_N_readF 8 rfl) rfl rfl ?_
    refine R_getS (pc := 14) (ci := 3) (k := 0) 40 (dc k_N_readF 9 rfl) fl_N_50 rfl (lb rfl) (Nat.le_trans (lb rfl) hn) (hE 27 (lb rfl) (lb rfl)) rfl (by decide) rfl ?_
    refine R_getI (pc := 17) (ci := 2) (k := 4) (dc k_N_readF 10 rfl) fl_N_82 rfl (lb rfl) (Nat.le_trans (lb rfl) hn) rfl (Or.inl rfl) ?_
    refine R_bipush (pc := 20) (a := 13) (dc k_N_readF 11 rfl) (by decide) ?_
    refine R_icmp_ne (pc := 22) 53 (dc k_N_readF 12 rfl) rfl (fun hc => ?_) (fun hc => ?_)
    · have hc_19 : ¬ n32 (M_3 40 4) = 13 := hc
      exact hY_16 (fun z => hc_19 z.2)
    · have hc_20 : n32 (M_3 40 4) = 13 := (Decidable.not_not.mp hc)
      exact hX_15 ⟨hc_18, hc_20⟩

set_option maxRecDepth 20000 in
theorem cts_N_readPart {E : Nat → Bool} {n : Nat} (hE : ∀ c, 1 ≤ c → c ≤ 80 → E c = true) (hn : 80 ≤ n) {rec_ : Int → Mem → Option (Mem)} {fr lo : Nat} (hf : 4 ≤ fr) (hl : 84 ≤ lo) (hrec : ∀ {b0 : Int} {M : Mem} {K : Mem → Prop}, Z (rec_ b0 M) K → Mt y_N_readPart (fr, lo, n, n, E) E [vR 27, vI b0] M (qV K)) {depth : Int} {M : Mem} {K : Mem → Prop} (hz : Z (N_readPart_s rec_ depth M) K) : Mt y_N_readPart (fr + 4, lo + 90, n, n, E) E [vR 27, vI depth] M (qV K) := by
  refine Mt.of (by decide) (lb rfl) (Nat.le_refl _) rfl ?_
  rw [N_readPart_s] at hz
  show Rr y_N_readPart (fr + 4, lo + 90, n, n, E) (qV K) 0 [(0, vR 27), (1, vI depth)] [] E n M
  refine R_aload_n (pc := 0) 0 (dc k_N_readPart 0 rfl) rfl rfl ?_
  refine R_getS (pc := 1) (ci := 3) (k := 0) 40 (dc k_N_readPart 1 rfl) fl_N_50 rfl (lb rfl) (Nat.le_trans (lb rfl) hn) (hE 27 (lb rfl) (lb rfl)) rfl (by decide) rfl ?_
  refine R_getI (pc := 4) (ci := 2) (k := 4) (dc k_N_readPart 2 rfl) fl_N_82 rfl (lb rfl) (Nat.le_trans (lb rfl) hn) rfl (Or.inl rfl) ?_
  obtain ⟨l2_1, hl2_1, hz⟩ := Z_lt hz
  refine R_istore_nE (pc := 7) (L' := [(2, vI l2_1), (0, vR 27), (1, vI depth)]) (dc k_N_readPart 3 rfl) rfl (lb rfl) hl2_1 rfl ?_
  refine R_iload_n (pc := 8) 0 (dc k_N_readPart 4 rfl) rfl rfl ?_
  refine R_bipush (pc := 9) (a := 18) (dc k_N_readPart 5 rfl) (by decide) ?_
  obtain ⟨K_3, hK_4, hz⟩ := Z_cut hz
  have hJ_5 : ∀ (v_2 : Int), K_3 v_2 → Rr y_N_readPart (fr + 4, lo + 90, n, n, E) (qV K) 37 [(0, vR 27), (1, vI depth), (2, vI l2_1)] [vI v_2] E n M := by
    intro v_2 hk
    have hz := hK_4 _ hk
    refine R_istore_n (pc := 37) (L' := [(3, vI v_2), (0, vR 27), (1, vI depth), (2, vI l2_1)]) (dc k_N_readPart 19 rfl) rfl (lb rfl) rfl ?_
    refine R_aload_n (pc := 38) 1 (dc k_N_readPart 20 rfl) rfl rfl ?_
    refine R_iload_n (pc := 39) 0 (dc k_N_readPart 21 rfl) rfl rfl ?_
    obtain ⟨K_17, hK_18, hz⟩ := Z_cut hz
    have hJ_19 : ∀ (v_16 : Int), K_17 v_16 → Rr y_N_readPart (fr + 4, lo + 90, n, n, E) (qV K) 60 [(0, vR 27), (1, vI depth), (2, vI l2_1)] [vI v_16, vR 27] E n M := by
      intro v_16 hk
      have hz := hK_18 _ hk
      refine R_iload_n (pc := 60) 1 (dc k_N_readPart 32 rfl) rfl rfl ?_
      refine R_cVM (pc := 61)  (As := [vI v_16, vI depth]) (S := []) ck_N_237 (dc k_N_readPart 33 rfl) ⟨rfl, ⟨_, rfl, rfl⟩, (lb rfl), (Nat.le_trans (lb rfl) hn)⟩ (by first | exact lb rfl | (dsimp only; omega)) (by first | exact lb rfl | (dsimp only [y_N_takesUnit]; omega)) (lb rfl) rfl (ct_N_takesUnit hE hn (Z_bind hz)) (fun r_28 M_29 hz => ?_)
      refine R_if_ne (pc := 64) 68 (dc k_N_readPart 34 rfl) rfl (fun hc => ?_) (fun hc => ?_)
      · have hz := Z_neg (show ¬ (n32 r_28 = 0) from hc) hz
        refine R_iload_n (pc := 68) 2 (dc k_N_readPart 36 rfl) rfl rfl ?_
        refine R_bipush (pc := 69) (a := 40) (dc k_N_readPart 37 rfl) (by decide) ?_
        refine R_icmp_ne (pc := 71) 100 (dc k_N_readPart 38 rfl) rfl (fun hc => ?_) (fun hc => ?_)
        · have hz := Z_neg (show ¬ (n32 l2_1 = 40) from hc) hz
          refine R_aload_n (pc := 100) 0 (dc k_N_readPart 52 rfl) rfl rfl ?_
          refine R_getS (pc := 101) (ci := 3) (k := 1) 28 (dc k_N_readPart 53 rfl) fl_N_12 rfl (lb rfl) (Nat.le_trans (lb rfl) hn) (hE 27 (lb rfl) (lb rfl)) rfl (by decide) rfl ?_
          refine R_iload_n (pc := 104) 2 (dc k_N_readPart 54 rfl) rfl rfl ?_
          refine R_iload_n (pc := 105) 2 (dc k_N_readPart 55 rfl) rfl rfl ?_
          refine R_bipush (pc := 106) (a := 22) (dc k_N_readPart 56 rfl) (by decide) ?_
          obtain ⟨K_34, hK_35, hz⟩ := Z_cut hz
          have hJ_36 : ∀ (v_33 : Int), K_34 v_33 → Rr y_N_readPart (fr + 4, lo + 90, n, n, E) (qV K) 122 [(0, vR 27)] [vI v_33, vI l2_1, vR 28] E n M_29 := by
            intro v_33 hk
            have hz := hK_35 _ hk
            refine R_cVV (pc := 122)  (As := [vI l2_1, vI v_33]) (S := []) ck_N_221 (dc k_N_readPart 63 rfl) ⟨rfl, ⟨_, rfl, rfl⟩, (lb rfl), (Nat.le_trans (lb rfl) hn)⟩ (by first | exact lb rfl | (dsimp only; omega)) (by first | exact lb rfl | (dsimp only [y_S_add]; omega)) (lb rfl) rfl (ct_S_add hE hn (Z_bind hz)) (fun M_38 hz => ?_)
            refine R_aload_n (pc := 125) 0 (dc k_N_readPart 64 rfl) rfl rfl ?_
            refine R_getS (pc := 126) (ci := 3) (k := 0) 40 (dc k_N_readPart 65 rfl) fl_N_50 rfl (lb rfl) (Nat.le_trans (lb rfl) hn) (hE 27 (lb rfl) (lb rfl)) rfl (by decide) rfl ?_
            refine R_cVV (pc := 129)  (As := []) (S := []) ck_N_109 (dc k_N_readPart 66 rfl) ⟨rfl, ⟨_, rfl, rfl⟩, (lb rfl), (Nat.le_trans (lb rfl) hn)⟩ (by first | exact lb rfl | (dsimp only; omega)) (by first | exact lb rfl | (dsimp only [y_K_pass]; omega)) (lb rfl) rfl (ct_K_pass hE hn (Z_bind hz)) (fun M_39 hz => ?_)
            exact R_vret (pc := 132) (dc k_N_readPart 67 rfl) rfl rfl rfl ⟨rfl, (Z_some hz)⟩
          refine R_icmp_ne (pc := 108) 121 (dc k_N_readPart 57 rfl) rfl (fun hc => ?_) (fun hc => ?_)
          · have hz := Z_neg (show ¬ (n32 l2_1 = 22) from hc) hz
            refine R_iconst (pc := 121) (a := 0) (dc k_N_readPart 62 rfl) ?_
            refine R_sub [0] rfl ?_
            exact hJ_36 _ (Z_some hz)
          · have hz := Z_pos (show n32 l2_1 = 22 from (Decidable.not_not.mp hc)) hz
            refine R_aload_n (pc := 111) 0 (dc k_N_readPart 58 rfl) rfl rfl ?_
            refine R_getS (pc := 112) (ci := 3) (k := 0) 40 (dc k_N_readPart 59 rfl) fl_N_50 rfl (lb rfl) (Nat.le_trans (lb rfl) hn) (hE 27 (lb rfl) (lb rfl)) rfl (by decide) rfl ?_
            refine R_getI (pc := 115) (ci := 2) (k := 6) (dc k_N_readPart 60 rfl) fl_N_143 rfl (lb rfl) (Nat.le_trans (lb rfl) hn) rfl (Or.inl rfl) ?_
            refine R_goto (pc := 118) 122 (dc k_N_readPart 61 rfl) rfl ?_
            refine R_sub [0] rfl ?_
            exact hJ_36 _ (Z_some hz)
        · have hz := Z_pos (show n32 l2_1 = 40 from (Decidable.not_not.mp hc)) hz
          refine R_aload_n (pc := 74) 0 (dc k_N_readPart 39 rfl) rfl rfl ?_
          refine R_getS (pc := 75) (ci := 3) (k := 0) 40 (dc k_N_readPart 40 rfl) fl_N_50 rfl (lb rfl) (Nat.le_trans (lb rfl) hn) (hE 27 (lb rfl) (lb rfl)) rfl (by decide) rfl ?_
          refine R_cVV (pc := 78)  (As := []) (S := []) ck_N_109 (dc k_N_readPart 41 rfl) ⟨rfl, ⟨_, rfl, rfl⟩, (lb rfl), (Nat.le_trans (lb rfl) hn)⟩ (by first | exact lb rfl | (dsimp only; omega)) (by first | exact lb rfl | (dsimp only [y_K_pass]; omega)) (lb rfl) rfl (ct_K_pass hE hn (Z_bind hz)) (fun M_30 hz => ?_)
          refine R_aload_n (pc := 81) 0 (dc k_N_readPart 42 rfl) rfl rfl ?_
          refine R_iload_n (pc := 82) 1 (dc k_N_readPart 43 rfl) rfl rfl ?_
          refine R_iconst (pc := 83) (a := 1) (dc k_N_readPart 44 rfl) ?_
          refine R_iadd (pc := 84) (dc k_N_readPart 45 rfl) ?_
          refine R_cVV (pc := 85)  (As := [vI (depth + 1)]) (S := []) ck_N_212 (dc k_N_readPart 46 rfl) ⟨rfl, ⟨_, rfl, rfl⟩, (lb rfl), (Nat.le_trans (lb rfl) hn)⟩ (by first | exact lb rfl | (dsimp only; omega)) (by first | exact lb rfl | (dsimp only [y_N_readF]; omega)) (lb rfl) rfl (ct_N_readF hE hn hf hl hrec (Z_bind hz)) (fun M_31 hz => ?_)
          refine R_aload_n (pc := 88) 0 (dc k_N_readPart 47 rfl) rfl rfl ?_
          refine R_getS (pc := 89) (ci := 3) (k := 0) 40 (dc k_N_readPart 48 rfl) fl_N_50 rfl (lb rfl) (Nat.le_trans (lb rfl) hn) (hE 27 (lb rfl) (lb rfl)) rfl (by decide) rfl ?_
          refine R_bipush (pc := 92) (a := 41) (dc k_N_readPart 49 rfl) (by decide) ?_
          refine R_cVV (pc := 94)  (As := [vI 41]) (S := []) ck_N_153 (dc k_N_readPart 50 rfl) ⟨rfl, ⟨_, rfl, rfl⟩, (lb rfl), (Nat.le_trans (lb rfl) hn)⟩ (by first | exact lb rfl | (dsimp only; omega)) (by first | exact lb rfl | (dsimp only [y_K_expect]; omega)) (lb rfl) rfl (ct_K_expect hE hn (Z_bind hz)) (fun M_32 hz => ?_)
          refine R_goto (pc := 97) 132 (dc k_N_readPart 51 rfl) rfl ?_
          exact R_vret (pc := 132) (dc k_N_readPart 67 rfl) rfl rfl rfl ⟨rfl, (Z_some hz)⟩
      · have hz := Z_pos (show n32 r_28 = 0 from (Decidable.not_not.mp hc)) hz
        exact R_vret (pc := 67) (dc k_N_readPart 35 rfl) rfl rfl rfl ⟨rfl, (Z_some hz)⟩
    have hX_20 : ((¬ n32 v_2 = 0) ∨ ((n32 l2_1 = 22) ∨ (n32 l2_1 = 40))) → Rr y_N_readPart (fr + 4, lo + 90, n, n, E) (qV K) 55 [(3, vI v_2), (0, vR 27), (1, vI depth), (2, vI l2_1)] [vR 27] E n M := by
      intro hc
      have hz := Z_pos hc hz
      refine R_iconst (pc := 55) (a := 1) (dc k_N_readPart 29 rfl) ?_
      refine R_goto (pc := 56) 60 (dc k_N_readPart 30 rfl) rfl ?_
      refine R_sub [1, 2, 3] rfl ?_
      exact hJ_19 _ (Z_some hz)
    have hY_21 : ¬ ((¬ n32 v_2 = 0) ∨ ((n32 l2_1 = 22) ∨ (n32 l2_1 = 40))) → Rr y_N_readPart (fr + 4, lo + 90, n, n, E) (qV K) 59 [(3, vI v_2), (0, vR 27), (1, vI depth), (2, vI l2_1)] [vR 27] E n M := by
      intro hc
      have hz := Z_neg hc hz
      refine R_iconst (pc := 59) (a := 0) (dc k_N_readPart 31 rfl) ?_
      refine R_sub [1, 2, 3] rfl ?_
      exact hJ_19 _ (Z_some hz)
    refine R_if_ne (pc := 40) 55 (dc k_N_readPart 22 rfl) rfl (fun hc => ?_) (fun hc => ?_)
    · have hc_22 : ¬ n32 v_2 = 0 := hc
      exact hX_20 (Or.inl hc_22)
    · have hc_23 : n32 v_2 = 0 := (Decidable.not_not.mp hc)
      refine R_iload_n (pc := 43) 3 (dc k_N_readPart 23 rfl) rfl rfl ?_
      refine R_bipush (pc := 44) (a := 22) (dc k_N_readPart 24 rfl) (by decide) ?_
      refine R_icmp_eq (pc := 46) 55 (dc k_N_readPart 25 rfl) rfl (fun hc => ?_) (fun hc => ?_)
      · have hc_24 : n32 l2_1 = 22 := hc
        exact hX_20 (Or.inr (Or.inl hc_24))
      · have hc_25 : ¬ n32 l2_1 = 22 := hc
        refine R_iload_n (pc := 49) 3 (dc k_N_readPart 26 rfl) rfl rfl ?_
        refine R_bipush (pc := 50) (a := 40) (dc k_N_readPart 27 rfl) (by decide) ?_
        refine R_icmp_ne (pc := 52) 59 (dc k_N_readPart 28 rfl) rfl (fun hc => ?_) (fun hc => ?_)
        · have hc_26 : ¬ n32 l2_1 = 40 := hc
          exact hY_21 (fun z => z.elim (fun z => z hc_23) (fun z => z.elim hc_25 hc_26))
        · have hc_27 : n32 l2_1 = 40 := (Decidable.not_not.mp hc)
          exact hX_20 (Or.inr (Or.inr hc_27))
  have hX_6 : ((n32 l2_1 = 18) ∨ ((n32 l2_1 = 19) ∨ ((n32 l2_1 = 20) ∨ (n32 l2_1 = 17)))) → Rr y_N_readPart (fr + 4, lo + 90, n, n, E) (qV K) 32 [(2, vI l2_1), (0, vR 27), (1, vI depth)] [] E n M := by
    intro hc
    have hz := Z_pos hc hz
    refine R_iconst (pc := 32) (a := 1) (dc k_N_readPart 16 rfl) ?_
    refine R_goto (pc := 33) 37 (dc k_N_readPart 17 rfl) rfl ?_
    refine R_sub [1, 2, 0] rfl ?_
    exact hJ_5 _ (Z_some hz)
  have hY_7 : ¬ ((n32 l2_1 = 18) ∨ ((n32 l2_1 = 19) ∨ ((n32 l2_1 = 20) ∨ (n32 l2_1 = 17)))) → Rr y_N_readPart (fr + 4, lo + 90, n, n, E) (qV K) 36 [(2, vI l2_1), (0, vR 27), (1, vI depth)] [] E n M := by
    intro hc
    have hz := Z_neg hc hz
    refine R_iconst (pc := 36) (a := 0) (dc k_N_readPart 18 rfl) ?_
    refine R_sub [1, 2, 0] rfl ?_
    exact hJ_5 _ (Z_some hz)
  refine R_icmp_eq (pc := 11) 32 (dc k_N_readPart 6 rfl) rfl (fun hc => ?_) (fun hc => ?_)
  · have hc_8 : n32 l2_1 = 18 := hc
    exact hX_6 (Or.inl hc_8)
  · have hc_9 : ¬ n32 l2_1 = 18 := hc
    refine R_iload_n (pc := 14) 0 (dc k_N_readPart 7 rfl) rfl rfl ?_
    refine R_bipush (pc := 15) (a := 19) (dc k_N_readPart 8 rfl) (by decide) ?_
    refine R_icmp_eq (pc := 17) 32 (dc k_N_readPart 9 rfl) rfl (fun hc => ?_) (fun hc => ?_)
    · have hc_10 : n32 l2_1 = 19 := hc
      exact hX_6 (Or.inr (Or.inl hc_10))
    · have hc_11 : ¬ n32 l2_1 = 19 := hc
      refine R_iload_n (pc := 20) 0 (dc k_N_readPart 10 rfl) rfl rfl ?_
      refine R_bipush (pc := 21) (a := 20) (dc k_N_readPart 11 rfl) (by decide) ?_
      refine R_icmp_eq (pc := 23) 32 (dc k_N_readPart 12 rfl) rfl (fun hc => ?_) (fun hc => ?_)
      · have hc_12 : n32 l2_1 = 20 := hc
        exact hX_6 (Or.inr (Or.inr (Or.inl hc_12)))
      · have hc_13 : ¬ n32 l2_1 = 20 := hc
        refine R_iload_n (pc := 26) 0 (dc k_N_readPart 13 rfl) rfl rfl ?_
        refine R_bipush (pc := 27) (a := 17) (dc k_N_readPart 14 rfl) (by decide) ?_
        refine R_icmp_ne (pc := 29) 36 (dc k_N_readPart 15 rfl) rfl (fun hc => ?_) (fun hc => ?_)
        · have hc_14 : ¬ n32 l2_1 = 17 := hc
          exact hY_7 (fun z => z.elim hc_9 (fun z => z.elim hc_11 (fun z => z.elim hc_13 hc_14)))
        · have hc_15 : n32 l2_1 = 17 := (Decidable.not_not.mp hc)
          exact hX_6 (Or.inr (Or.inr (Or.inr hc_15)))
theorem ctd_N_readPart {E : Nat → Bool} {n : Nat} (hE : ∀ c, 1 ≤ c → c ≤ 80 → E c = true) (hn : 80 ≤ n) : ∀ (d : Nat) {depth : Int} {M : Mem} {K : Mem → Prop}, Z (N_readPart d depth M) K → Mt y_N_readPart (4 + 4 * d, 84 + 90 * d, n, n, E) E [vR 27, vI depth] M (qV K)
  | 0, depth, M, K, hz => (Z_none hz).elim
  | d + 1, depth, M, K, hz => by
    have h := cts_N_readPart hE hn (rec_ := N_readPart d) (fr := 4 + 4 * d) (lo := 84 + 90 * d) (by omega) (by omega) (fun hz => ctd_N_readPart hE hn d hz) (show Z (N_readPart_s (N_readPart d) depth M) K from hz)
    rw [show 4 + 4 * (d + 1) = 4 + 4 * d + 4 by omega, show 84 + 90 * (d + 1) = 84 + 90 * d + 90 by omega]
    exact h
theorem ct_N_readPart {E : Nat → Bool} {n : Nat} (hE : ∀ c, 1 ≤ c → c ≤ 80 → E c = true) (hn : 80 ≤ n) {depth : Int} {M : Mem} {K : Mem → Prop} (hz : Z (N_readPart 10 depth M) K) : Mt y_N_readPart (44, 984, n, n, E) E [vR 27, vI depth] M (qV K) := ctd_N_readPart hE hn 10 hz
theorem ctw_N_readSum {E : Nat → Bool} {n : Nat} (hE : ∀ c, 1 ≤ c → c ≤ 80 → E c = true) (hn : 80 ≤ n) {depth : Int} {M : Mem} {K : Mem → Prop} (hz : Z (N_readSum (N_readPart 10) depth M) K) : Mt y_N_readSum (45, 1007, n, n, E) E [vR 27, vI depth] M (qV K) := ct_N_readSum hE hn (rec_ := N_readPart 10) (fr := 44) (lo := 984) (lb rfl) (lb rfl) (fun hz => ct_N_readPart hE hn hz) hz
theorem ctw_N_readAny {E : Nat → Bool} {n : Nat} (hE : ∀ c, 1 ≤ c → c ≤ 80 → E c = true) (hn : 80 ≤ n) {depth : Int} {M : Mem} {K : Mem → Prop} (hz : Z (N_readAny (N_readPart 10) depth M) K) : Mt y_N_readAny (46, 1030, n, n, E) E [vR 27, vI depth] M (qV K) := ct_N_readAny hE hn (rec_ := N_readPart 10) (fr := 44) (lo := 984) (lb rfl) (lb rfl) (fun hz => ct_N_readPart hE hn hz) hz
theorem ctw_N_readF {E : Nat → Bool} {n : Nat} (hE : ∀ c, 1 ≤ c → c ≤ 80 → E c = true) (hn : 80 ≤ n) {depth : Int} {M : Mem} {K : Mem → Prop} (hz : Z (N_readF (N_readPart 10) depth M) K) : Mt y_N_readF (47, 1052, n, n, E) E [vR 27, vI depth] M (qV K) := ct_N_readF hE hn (rec_ := N_readPart 10) (fr := 44) (lo := 984) (lb rfl) (lb rfl) (fun hz => ct_N_readPart hE hn hz) hz

set_option maxRecDepth 20000 in
theorem ct_N_readLaw {E : Nat → Bool} {n : Nat} (hE : ∀ c, 1 ≤ c → c ≤ 80 → E c = true) (hn : 80 ≤ n) {M : Mem} {K : Mem → Prop} (hz : Z (N_readLaw M) K) : Mt y_N_readLaw (48, 1074, n, n, E) E [vR 27] M (qV K) := by
  refine Mt.of (by decide) (lb rfl) (Nat.le_refl _) rfl ?_
  rw [N_readLaw] at hz
  show Rr y_N_readLaw (48, 1074, n, n, E) (qV K) 0 [(0, vR 27)] [] E n M
  refine R_aload_n (pc := 0) 0 (dc k_N_readLaw 0 rfl) rfl rfl ?_
  refine R_aload_n (pc := 1) 0 (dc k_N_readLaw 1 rfl) rfl rfl ?_
  refine R_getI (pc := 2) (ci := 3) (k := 13) (dc k_N_readLaw 2 rfl) fl_N_70 rfl (lb rfl) (Nat.le_trans (lb rfl) hn) rfl (Or.inr rfl) ?_
  obtain ⟨K_2, hK_3, hz⟩ := Z_cut hz
  have hJ_4 : ∀ (v_1 : Int), K_2 v_1 → Rr y_N_readLaw (48, 1074, n, n, E) (qV K) 13 [(0, vR 27)] [vI v_1, vR 27] E n M := by
    intro v_1 hk
    have hz := hK_3 _ hk
    refine R_cVV (pc := 13)  (As := [vI v_1]) (S := []) ck_N_146 (dc k_N_readLaw 7 rfl) ⟨rfl, ⟨_, rfl, rfl⟩, (lb rfl), (Nat.le_trans (lb rfl) hn)⟩ (lb rfl) (lb rfl) (lb rfl) rfl (ct_N_begin hE hn (Z_bind hz)) (fun M_6 hz => ?_)
    refine R_aload_n (pc := 16) 0 (dc k_N_readLaw 8 rfl) rfl rfl ?_
    refine R_iconst (pc := 17) (a := 1) (dc k_N_readLaw 9 rfl) ?_
    obtain ⟨M_7, hM_7, hz⟩ := Z_lt hz
    refine R_putZE (pc := 18) (ci := 3) (k := 13) (dc k_N_readLaw 10 rfl) fl_N_70 rfl (lb rfl) (Nat.le_trans (lb rfl) hn) rfl rfl rfl (Or.inr rfl) hM_7 ?_
    refine R_aload_n (pc := 21) 0 (dc k_N_readLaw 11 rfl) rfl rfl ?_
    refine R_aload_n (pc := 22) 0 (dc k_N_readLaw 12 rfl) rfl rfl ?_
    refine R_getS (pc := 23) (ci := 3) (k := 1) 28 (dc k_N_readLaw 13 rfl) fl_N_12 rfl (lb rfl) (Nat.le_trans (lb rfl) hn) (hE 27 (lb rfl) (lb rfl)) rfl (by decide) rfl ?_
    refine R_getI (pc := 26) (ci := 4) (k := 1) (dc k_N_readLaw 14 rfl) fl_N_63 rfl (lb rfl) (Nat.le_trans (lb rfl) hn) rfl (Or.inl rfl) ?_
    obtain ⟨M_8, hM_8, hz⟩ := Z_lt hz
    refine R_putIE (pc := 29) (ci := 3) (k := 11) (dc k_N_readLaw 15 rfl) fl_N_209 rfl (lb rfl) (Nat.le_trans (lb rfl) hn) rfl rfl rfl hM_8 ?_
    refine R_aload_n (pc := 32) 0 (dc k_N_readLaw 16 rfl) rfl rfl ?_
    refine R_iconst (pc := 33) (a := 0) (dc k_N_readLaw 17 rfl) ?_
    refine R_cVV (pc := 34)  (As := [vI 0]) (S := []) ck_N_212 (dc k_N_readLaw 18 rfl) ⟨rfl, ⟨_, rfl, rfl⟩, (lb rfl), (Nat.le_trans (lb rfl) hn)⟩ (lb rfl) (lb rfl) (lb rfl) rfl (ctw_N_readF hE hn (Z_bind hz)) (fun M_9 hz => ?_)
    refine R_aload_n (pc := 37) 0 (dc k_N_readLaw 19 rfl) rfl rfl ?_
    refine R_aload_n (pc := 38) 0 (dc k_N_readLaw 20 rfl) rfl rfl ?_
    refine R_getS (pc := 39) (ci := 3) (k := 1) 28 (dc k_N_readLaw 21 rfl) fl_N_12 rfl (lb rfl) (Nat.le_trans (lb rfl) hn) (hE 27 (lb rfl) (lb rfl)) rfl (by decide) rfl ?_
    refine R_getI (pc := 42) (ci := 4) (k := 1) (dc k_N_readLaw 22 rfl) fl_N_63 rfl (lb rfl) (Nat.le_trans (lb rfl) hn) rfl (Or.inl rfl) ?_
    obtain ⟨M_10, hM_10, hz⟩ := Z_lt hz
    refine R_putIE (pc := 45) (ci := 3) (k := 12) (dc k_N_readLaw 23 rfl) fl_N_215 rfl (lb rfl) (Nat.le_trans (lb rfl) hn) rfl rfl rfl hM_10 ?_
    refine R_aload_n (pc := 48) 0 (dc k_N_readLaw 24 rfl) rfl rfl ?_
    refine R_getS (pc := 49) (ci := 3) (k := 0) 40 (dc k_N_readLaw 25 rfl) fl_N_50 rfl (lb rfl) (Nat.le_trans (lb rfl) hn) (hE 27 (lb rfl) (lb rfl)) rfl (by decide) rfl ?_
    refine R_bipush (pc := 52) (a := 59) (dc k_N_readLaw 26 rfl) (by decide) ?_
    refine R_cVV (pc := 54)  (As := [vI 59]) (S := []) ck_N_153 (dc k_N_readLaw 27 rfl) ⟨rfl, ⟨_, rfl, rfl⟩, (lb rfl), (Nat.le_trans (lb rfl) hn)⟩ (lb rfl) (lb rfl) (lb rfl) rfl (ct_K_expect hE hn (Z_bind hz)) (fun M_11 hz => ?_)
    exact R_vret (pc := 57) (dc k_N_readLaw 28 rfl) rfl rfl rfl ⟨rfl, (Z_some hz)⟩
  refine R_if_ne (pc := 5) 12 (dc k_N_readLaw 3 rfl) rfl (fun hc => ?_) (fun hc => ?_)
  · have hz := Z_neg (show ¬ (n32 (M 27 13) = 0) from hc) hz
    refine R_iconst (pc := 12) (a := 0) (dc k_N_readLaw 6 rfl) ?_
    exact hJ_4 _ (Z_some hz)
  · have hz := Z_pos (show n32 (M 27 13) = 0 from (Decidable.not_not.mp hc)) hz
    refine R_iconst (pc := 8) (a := 1) (dc k_N_readLaw 4 rfl) ?_
    refine R_goto (pc := 9) 13 (dc k_N_readLaw 5 rfl) rfl ?_
    exact hJ_4 _ (Z_some hz)

set_option maxRecDepth 20000 in
theorem ct_N_readInto {E : Nat → Bool} {n : Nat} (hE : ∀ c, 1 ≤ c → c ≤ 80 → E c = true) (hn : 80 ≤ n) {tinto : Nat} {length : Int} (htinto : isT tinto) {M : Mem} {K : Mem → Prop} (hz : Z (N_readInto tinto length M) K) : Mt y_N_readInto (59, 1327, n, n, E) E [vR 27, vR tinto, vI length] M (qV K) := by
  refine Mt.of (by decide) (lb rfl) (Nat.le_refl _) rfl ?_
  rw [N_readInto] at hz
  have hntinto := qTn htinto hn
  have hEtinto := qTE htinto hE
  show Rr y_N_readInto (59, 1327, n, n, E) (qV K) 0 [(0, vR 27), (1, vR tinto), (2, vI length)] [] E n M
  refine R_aload_n (pc := 0) 0 (dc k_N_readInto 0 rfl) rfl rfl ?_
  refine R_aload_n (pc := 1) 1 (dc k_N_readInto 1 rfl) rfl rfl ?_
  obtain ⟨M_1, hM_1, hz⟩ := Z_lt hz
  refine R_putRE (pc := 2) (ci := 3) (k := 16) (dc k_N_readInto 2 rfl) fl_N_54 rfl (lb rfl) (Nat.le_trans (lb rfl) hn) rfl rfl (qT0 htinto) (qTn_0 hntinto) rfl hM_1 ?_
  refine R_aload_n (pc := 5) 0 (dc k_N_readInto 3 rfl) rfl rfl ?_
  obtain ⟨hg_2, hz⟩ := Z_chk hz
  obtain ⟨t_3, ht_3, hz⟩ := Z_lt hz
  obtain ⟨hq_4, ht_3t⟩ := isTI.at' hg_2 ht_3
  have hnt_3t := qTn ht_3t hn
  have hEt_3t := qTE ht_3t hE
  refine R_getR (pc := 6) (ci := 3) (k := 16) t_3 (dc k_N_readInto 4 rfl) fl_N_54 rfl (lb rfl) (Nat.le_trans (lb rfl) hn) (Or.inr rfl) hq_4 (qT0 ht_3t) rfl ?_
  refine R_cVV (pc := 9)  (As := []) (S := []) ck_N_58 (dc k_N_readInto 5 rfl) ⟨(lT ht_3t), ⟨_, rfl, rfl⟩, (qT1 ht_3t), (qTn_0 hnt_3t)⟩ (lb rfl) (lb rfl) (lb rfl) rfl (ct_T_clear hE hn ht_3t (Z_bind hz)) (fun M_5 hz => ?_)
  refine R_aload_n (pc := 12) 0 (dc k_N_readInto 6 rfl) rfl rfl ?_
  refine R_getS (pc := 13) (ci := 3) (k := 1) 28 (dc k_N_readInto 7 rfl) fl_N_12 rfl (lb rfl) (Nat.le_trans (lb rfl) hn) (hE 27 (lb rfl) (lb rfl)) rfl (by decide) rfl ?_
  refine R_iconst (pc := 16) (a := 0) (dc k_N_readInto 8 rfl) ?_
  obtain ⟨M_6, hM_6, hz⟩ := Z_lt hz
  refine R_putIE (pc := 17) (ci := 4) (k := 1) (dc k_N_readInto 9 rfl) fl_N_63 rfl (lb rfl) (Nat.le_trans (lb rfl) hn) rfl rfl rfl hM_6 ?_
  refine R_aload_n (pc := 20) 0 (dc k_N_readInto 10 rfl) rfl rfl ?_
  refine R_iconst (pc := 21) (a := 0) (dc k_N_readInto 11 rfl) ?_
  obtain ⟨M_7, hM_7, hz⟩ := Z_lt hz
  refine R_putIE (pc := 22) (ci := 3) (k := 10) (dc k_N_readInto 12 rfl) fl_N_67 rfl (lb rfl) (Nat.le_trans (lb rfl) hn) rfl rfl rfl hM_7 ?_
  refine R_aload_n (pc := 25) 0 (dc k_N_readInto 13 rfl) rfl rfl ?_
  refine R_iconst (pc := 26) (a := 0) (dc k_N_readInto 14 rfl) ?_
  obtain ⟨M_8, hM_8, hz⟩ := Z_lt hz
  refine R_putZE (pc := 27) (ci := 3) (k := 13) (dc k_N_readInto 15 rfl) fl_N_70 rfl (lb rfl) (Nat.le_trans (lb rfl) hn) rfl rfl rfl (Or.inl rfl) hM_8 ?_
  refine R_aload_n (pc := 30) 0 (dc k_N_readInto 16 rfl) rfl rfl ?_
  refine R_getS (pc := 31) (ci := 3) (k := 0) 40 (dc k_N_readInto 17 rfl) fl_N_50 rfl (lb rfl) (Nat.le_trans (lb rfl) hn) (hE 27 (lb rfl) (lb rfl)) rfl (by decide) rfl ?_
  refine R_iload_n (pc := 34) 2 (dc k_N_readInto 18 rfl) rfl rfl ?_
  refine R_cVV (pc := 35)  (As := [vI length]) (S := []) ck_N_74 (dc k_N_readInto 19 rfl) ⟨rfl, ⟨_, rfl, rfl⟩, (lb rfl), (Nat.le_trans (lb rfl) hn)⟩ (lb rfl) (lb rfl) (lb rfl) rfl (ct_K_start hE hn (Z_bind hz)) (fun M_9 hz => ?_)
  refine R_iconst (pc := 38) (a := 0) (dc k_N_readInto 20 rfl) ?_
  refine R_istore_n (pc := 39) (L' := [(3, vI 0), (0, vR 27), (1, vR tinto), (2, vI length)]) (dc k_N_readInto 21 rfl) rfl (lb rfl) rfl ?_
  obtain ⟨K_12, hK_13, hz⟩ := Z_cut hz
  have hX_14 : ∀ (M_18 : Mem), K_12 M_18 → Rr y_N_readInto (59, 1327, n, n, E) (qV K) 187 [] [] E n M_18 := by
    intro M_18 hk
    have hz := hK_13 _ hk
    exact R_vret (pc := 187) (dc k_N_readInto 60 rfl) rfl rfl rfl ⟨rfl, (Z_some hz)⟩
  refine R_sub [1, 0] rfl ?_
  refine it_R (C := fun aZ : Int × Mem => Rr y_N_readInto (59, 1327, n, n, E) (qV K) 40 [(0, vR 27), (3, vI aZ.1)] [] E n aZ.2) (fun aZ K_15 hC_16 hB_17 hz => ?_) FUEL (0, M_9) hz
  obtain ⟨l3_10, M_11⟩ := aZ
  rw [N_readInto_b40] at hz
  show Rr y_N_readInto (59, 1327, n, n, E) (qV K) 40 [(0, vR 27), (3, vI l3_10)] [] E n M_11
  refine R_iload_n (pc := 40) 1 (dc k_N_readInto 22 rfl) rfl rfl ?_
  refine R_sipush (pc := 41) (a := 1600) (dc k_N_readInto 23 rfl) (by decide) ?_
  obtain ⟨K_19, hK_20, hz⟩ := Z_cut hz
  have hX_21 : K_19 true → Rr y_N_readInto (59, 1327, n, n, E) (qV K) 57 [(0, vR 27), (3, vI l3_10)] [] E n M_11 := by
    intro hk
    have hz := Z_pos rfl (hK_20 _ hk)
    refine R_aload_n (pc := 57) 0 (dc k_N_readInto 29 rfl) rfl rfl ?_
    refine R_getS (pc := 58) (ci := 3) (k := 0) 40 (dc k_N_readInto 30 rfl) fl_N_50 rfl (lb rfl) (Nat.le_trans (lb rfl) hn) (hE 27 (lb rfl) (lb rfl)) rfl (by decide) rfl ?_
    refine R_getI (pc := 61) (ci := 2) (k := 4) (dc k_N_readInto 31 rfl) fl_N_82 rfl (lb rfl) (Nat.le_trans (lb rfl) hn) rfl (Or.inl rfl) ?_
    obtain ⟨K_26, hK_27, hz⟩ := Z_cut hz
    have hJ_28 : ∀ (M_25 : Mem), K_26 M_25 → Rr y_N_readInto (59, 1327, n, n, E) (qV K) 181 [(0, vR 27), (3, vI l3_10)] [] E n M_25 := by
      intro M_25 hk
      have hz := hK_27 _ hk
      obtain ⟨l3_45, hl3_45, hz⟩ := Z_lt hz
      refine R_iincE (pc := 181) (L' := [(3, vI l3_45), (0, vR 27)]) 1 (dc k_N_readInto 58 rfl) rfl (lb rfl) hl3_45 rfl ?_
      refine R_goto (pc := 184) 40 (dc k_N_readInto 59 rfl) rfl ?_
      refine R_sub [1, 0] rfl ?_
      exact hC_16 _ (Z_some hz)
    by_cases hs_30 : n32 (M_11 40 4) = 1
    · have hz := Z_pos hs_30 hz
      refine R_tabIn (pc := 64) 124 (dc k_N_readInto 32 rfl) hs_30 (by decide) (by decide) rfl rfl ?_
      refine R_aload_n (pc := 124) 0 (dc k_N_readInto 33 rfl) rfl rfl ?_
      refine R_cVV (pc := 125)  (As := []) (S := []) ck_N_85 (dc k_N_readInto 34 rfl) ⟨rfl, ⟨_, rfl, rfl⟩, (lb rfl), (Nat.le_trans (lb rfl) hn)⟩ (lb rfl) (lb rfl) (lb rfl) rfl (ct_N_readFact hE hn (Z_bind hz)) (fun M_29 hz => ?_)
      refine R_goto (pc := 128) 181 (dc k_N_readInto 35 rfl) rfl ?_
      exact hJ_28 _ (Z_some hz)
    · have hz := Z_neg hs_30 hz
      by_cases hs_32 : n32 (M_11 40 4) = 2
      · have hz := Z_pos hs_32 hz
        refine R_tabIn (pc := 64) 131 (dc k_N_readInto 32 rfl) hs_32 (by decide) (by decide) rfl rfl ?_
        refine R_aload_n (pc := 131) 0 (dc k_N_readInto 36 rfl) rfl rfl ?_
        refine R_cVV (pc := 132)  (As := []) (S := []) ck_N_88 (dc k_N_readInto 37 rfl) ⟨rfl, ⟨_, rfl, rfl⟩, (lb rfl), (Nat.le_trans (lb rfl) hn)⟩ (lb rfl) (lb rfl) (lb rfl) rfl (ct_N_readPerson hE hn (Z_bind hz)) (fun M_31 hz => ?_)
        refine R_goto (pc := 135) 181 (dc k_N_readInto 38 rfl) rfl ?_
        exact hJ_28 _ (Z_some hz)
      · have hz := Z_neg hs_32 hz
        by_cases hs_34 : n32 (M_11 40 4) = 5
        · have hz := Z_pos hs_34 hz
          refine R_tabIn (pc := 64) 138 (dc k_N_readInto 32 rfl) hs_34 (by decide) (by decide) rfl rfl ?_
          refine R_aload_n (pc := 138) 0 (dc k_N_readInto 39 rfl) rfl rfl ?_
          refine R_cVV (pc := 139)  (As := []) (S := []) ck_N_91 (dc k_N_readInto 40 rfl) ⟨rfl, ⟨_, rfl, rfl⟩, (lb rfl), (Nat.le_trans (lb rfl) hn)⟩ (lb rfl) (lb rfl) (lb rfl) rfl (ct_N_readRow hE hn (Z_bind hz)) (fun M_33 hz => ?_)
          refine R_goto (pc := 142) 181 (dc k_N_readInto 41 rfl) rfl ?_
          exact hJ_28 _ (Z_some hz)
        · have hz := Z_neg hs_34 hz
          by_cases hs_36 : n32 (M_11 40 4) = 6
          · have hz := Z_pos hs_36 hz
            refine R_tabIn (pc := 64) 145 (dc k_N_readInto 32 rfl) hs_36 (by decide) (by decide) rfl rfl ?_
            refine R_aload_n (pc := 145) 0 (dc k_N_readInto 42 rfl) rfl rfl ?_
            refine R_cVV (pc := 146)  (As := []) (S := []) ck_N_94 (dc k_N_readInto 43 rfl) ⟨rfl, ⟨_, rfl, rfl⟩, (lb rfl), (Nat.le_trans (lb rfl) hn)⟩ (lb rfl) (lb rfl) (lb rfl) rfl (ct_N_readAlways hE hn (Z_bind hz)) (fun M_35 hz => ?_)
            refine R_goto (pc := 149) 181 (dc k_N_readInto 44 rfl) rfl ?_
            exact hJ_28 _ (Z_some hz)
          · have hz := Z_neg hs_36 hz
            by_cases hs_38 : n32 (M_11 40 4) = 7
            · have hz := Z_pos hs_38 hz
              refine R_tabIn (pc := 64) 152 (dc k_N_readInto 32 rfl) hs_38 (by decide) (by decide) rfl rfl ?_
              refine R_aload_n (pc := 152) 0 (dc k_N_readInto 45 rfl) rfl rfl ?_
              refine R_cVV (pc := 153)  (As := []) (S := []) ck_N_97 (dc k_N_readInto 46 rfl) ⟨rfl, ⟨_, rfl, rfl⟩, (lb rfl), (Nat.le_trans (lb rfl) hn)⟩ (lb rfl) (lb rfl) (lb rfl) rfl (ct_N_readTie hE hn (Z_bind hz)) (fun M_37 hz => ?_)
              refine R_goto (pc := 156) 181 (dc k_N_readInto 47 rfl) rfl ?_
              exact hJ_28 _ (Z_some hz)
            · have hz := Z_neg hs_38 hz
              by_cases hs_40 : n32 (M_11 40 4) = 9
              · have hz := Z_pos hs_40 hz
                refine R_tabIn (pc := 64) 159 (dc k_N_readInto 32 rfl) hs_40 (by decide) (by decide) rfl rfl ?_
                refine R_aload_n (pc := 159) 0 (dc k_N_readInto 48 rfl) rfl rfl ?_
                refine R_cVV (pc := 160)  (As := []) (S := []) ck_N_100 (dc k_N_readInto 49 rfl) ⟨rfl, ⟨_, rfl, rfl⟩, (lb rfl), (Nat.le_trans (lb rfl) hn)⟩ (lb rfl) (lb rfl) (lb rfl) rfl (ct_N_readWish hE hn (Z_bind hz)) (fun M_39 hz => ?_)
                refine R_goto (pc := 163) 181 (dc k_N_readInto 50 rfl) rfl ?_
                exact hJ_28 _ (Z_some hz)
              · have hz := Z_neg hs_40 hz
                by_cases hs_42 : n32 (M_11 40 4) = 11
                · have hz := Z_pos hs_42 hz
                  refine R_tabIn (pc := 64) 166 (dc k_N_readInto 32 rfl) hs_42 (by decide) (by decide) rfl rfl ?_
                  refine R_aload_n (pc := 166) 0 (dc k_N_readInto 51 rfl) rfl rfl ?_
                  refine R_cVV (pc := 167)  (As := []) (S := []) ck_N_103 (dc k_N_readInto 52 rfl) ⟨rfl, ⟨_, rfl, rfl⟩, (lb rfl), (Nat.le_trans (lb rfl) hn)⟩ (lb rfl) (lb rfl) (lb rfl) rfl (ct_N_readLaw hE hn (Z_bind hz)) (fun M_41 hz => ?_)
                  refine R_goto (pc := 170) 181 (dc k_N_readInto 53 rfl) rfl ?_
                  exact hJ_28 _ (Z_some hz)
                · have hz := Z_neg hs_42 hz
                  have hr : n32 (M_11 40 4) < 1 ∨ 11 < n32 (M_11 40 4) ∨ n32 (M_11 40 4) = 3 ∨ n32 (M_11 40 4) = 4 ∨ n32 (M_11 40 4) = 8 ∨ n32 (M_11 40 4) = 10 := by omega
                  have hD_44 : Rr y_N_readInto (59, 1327, n, n, E) (qV K) 173 [(0, vR 27), (3, vI l3_10)] [] E n M_11 := by
                    refine R_aload_n (pc := 173) 0 (dc k_N_readInto 54 rfl) rfl rfl ?_
                    refine R_getS (pc := 174) (ci := 3) (k := 0) 40 (dc k_N_readInto 55 rfl) fl_N_50 rfl (lb rfl) (Nat.le_trans (lb rfl) hn) (hE 27 (lb rfl) (lb rfl)) rfl (by decide) rfl ?_
                    refine R_iconst (pc := 177) (a := 2) (dc k_N_readInto 56 rfl) ?_
                    refine R_cVV (pc := 178)  (As := [vI 2]) (S := []) ck_N_106 (dc k_N_readInto 57 rfl) ⟨rfl, ⟨_, rfl, rfl⟩, (lb rfl), (Nat.le_trans (lb rfl) hn)⟩ (lb rfl) (lb rfl) (lb rfl) rfl (ct_K_fail hE hn (Z_bind hz)) (fun M_43 hz => ?_)
                    exact hJ_28 _ (Z_some hz)
                  rcases hr with hr | hr | hr | hr | hr | hr
                  · exact R_tabOut (pc := 64) 173 (dc k_N_readInto 32 rfl) (Or.inl hr) rfl hD_44
                  · exact R_tabOut (pc := 64) 173 (dc k_N_readInto 32 rfl) (Or.inr hr) rfl hD_44
                  · exact R_tabIn (pc := 64) 173 (dc k_N_readInto 32 rfl) hr (by decide) (by decide) rfl rfl hD_44
                  · exact R_tabIn (pc := 64) 173 (dc k_N_readInto 32 rfl) hr (by decide) (by decide) rfl rfl hD_44
                  · exact R_tabIn (pc := 64) 173 (dc k_N_readInto 32 rfl) hr (by decide) (by decide) rfl rfl hD_44
                  · exact R_tabIn (pc := 64) 173 (dc k_N_readInto 32 rfl) hr (by decide) (by decide) rfl rfl hD_44
  have hY_22 : K_19 false → Rr y_N_readInto (59, 1327, n, n, E) (qV K) 187 [(0, vR 27), (3, vI l3_10)] [] E n M_11 := by
    intro hk
    have hz := Z_neg Bool.false_ne_true (hK_20 _ hk)
    refine R_sub [] rfl ?_
    exact hX_14 _ (hB_17 _ (Z_some hz))
  refine R_icmp_gt (pc := 44) 187 (dc k_N_readInto 24 rfl) rfl (fun hc => ?_) (fun hc => ?_)
  · have hz := Z_neg (show ¬ (n32 l3_10 ≤ 1600) from (Int.not_le.mpr hc)) hz
    exact hY_22 (Z_some hz)
  · have hz := Z_pos (show n32 l3_10 ≤ 1600 from (Int.not_lt.mp hc)) hz
    refine R_aload_n (pc := 47) 0 (dc k_N_readInto 25 rfl) rfl rfl ?_
    refine R_getS (pc := 48) (ci := 3) (k := 0) 40 (dc k_N_readInto 26 rfl) fl_N_50 rfl (lb rfl) (Nat.le_trans (lb rfl) hn) (hE 27 (lb rfl) (lb rfl)) rfl (by decide) rfl ?_
    refine R_cVP (pc := 51)  (As := []) (S := []) ck_N_78 (dc k_N_readInto 27 rfl) ⟨rfl, ⟨_, rfl, rfl⟩, (lb rfl), (Nat.le_trans (lb rfl) hn)⟩ (lb rfl) (lb rfl) (lb rfl) rfl (ct_K_goesOn hE hn (Z_bind hz)) (fun r_24 hz => ?_)
    refine R_if_eq (pc := 54) 187 (dc k_N_readInto 28 rfl) rfl (fun hc => ?_) (fun hc => ?_)
    · have hz := Z_neg (show ¬ (¬ n32 r_24 = 0) from (fun z => z hc)) hz
      exact hY_22 (Z_some hz)
    · have hz := Z_pos (show ¬ n32 r_24 = 0 from hc) hz
      exact hX_21 (Z_some hz)

set_option maxRecDepth 20000 in
theorem ct_S_ofWay {E : Nat → Bool} {n : Nat} (hE : ∀ c, 1 ≤ c → c ≤ 80 → E c = true) (hn : 80 ≤ n) {sign : Int} {way : Int} {M : Mem} {K : Int → Prop} (hz : Z (S_ofWay sign way M) K) : Mt y_S_ofWay (0, 0, n, n, E) E [vI sign, vI way] M (qP M K) := by
  refine Mt.of (by decide) (lb rfl) (Nat.le_refl _) rfl ?_
  rw [S_ofWay] at hz
  show Rr y_S_ofWay (0, 0, n, n, E) (qP M K) 0 [(0, vI sign), (1, vI way)] [] E n M
  refine R_iload_n (pc := 0) 0 (dc k_S_ofWay 0 rfl) rfl rfl ?_
  by_cases hs_1 : n32 sign = 18
  · have hz := Z_pos hs_1 hz
    refine R_tabIn (pc := 1) 28 (dc k_S_ofWay 1 rfl) hs_1 (by decide) (by decide) rfl rfl ?_
    refine R_iload_n (pc := 28) 1 (dc k_S_ofWay 2 rfl) rfl rfl ?_
    refine R_iconst (pc := 29) (a := 3) (dc k_S_ofWay 3 rfl) ?_
    refine R_ishr (pc := 30) (dc k_S_ofWay 4 rfl) ?_
    refine R_iconst (pc := 31) (a := 1) (dc k_S_ofWay 5 rfl) ?_
    refine R_iadd (pc := 32) (dc k_S_ofWay 6 rfl) ?_
    exact R_iret (pc := 33) (dc k_S_ofWay 7 rfl) rfl rfl rfl ⟨_, rfl, rfl, (Z_some hz)⟩
  · have hz := Z_neg hs_1 hz
    by_cases hs_2 : n32 sign = 19
    · have hz := Z_pos hs_2 hz
      refine R_tabIn (pc := 1) 34 (dc k_S_ofWay 1 rfl) hs_2 (by decide) (by decide) rfl rfl ?_
      refine R_iload_n (pc := 34) 1 (dc k_S_ofWay 8 rfl) rfl rfl ?_
      refine R_iconst (pc := 35) (a := 2) (dc k_S_ofWay 9 rfl) ?_
      refine R_ishr (pc := 36) (dc k_S_ofWay 10 rfl) ?_
      refine R_iconst (pc := 37) (a := 1) (dc k_S_ofWay 11 rfl) ?_
      refine R_iand (pc := 38) (dc k_S_ofWay 12 rfl) ?_
      exact R_iret (pc := 39) (dc k_S_ofWay 13 rfl) rfl rfl rfl ⟨_, rfl, rfl, (Z_some hz)⟩
    · have hz := Z_neg hs_2 hz
      by_cases hs_3 : n32 sign = 20
      · have hz := Z_pos hs_3 hz
        refine R_tabIn (pc := 1) 40 (dc k_S_ofWay 1 rfl) hs_3 (by decide) (by decide) rfl rfl ?_
        refine R_iload_n (pc := 40) 1 (dc k_S_ofWay 14 rfl) rfl rfl ?_
        refine R_iconst (pc := 41) (a := 1) (dc k_S_ofWay 15 rfl) ?_
        refine R_ishr (pc := 42) (dc k_S_ofWay 16 rfl) ?_
        refine R_iconst (pc := 43) (a := 1) (dc k_S_ofWay 17 rfl) ?_
        refine R_iand (pc := 44) (dc k_S_ofWay 18 rfl) ?_
        exact R_iret (pc := 45) (dc k_S_ofWay 19 rfl) rfl rfl rfl ⟨_, rfl, rfl, (Z_some hz)⟩
      · have hz := Z_neg hs_3 hz
        have hr : n32 sign < 18 ∨ 20 < n32 sign := by omega
        refine R_tabOut (pc := 1) 46 (dc k_S_ofWay 1 rfl) hr rfl ?_
        refine R_iload_n (pc := 46) 1 (dc k_S_ofWay 20 rfl) rfl rfl ?_
        refine R_iconst (pc := 47) (a := 1) (dc k_S_ofWay 21 rfl) ?_
        refine R_iand (pc := 48) (dc k_S_ofWay 22 rfl) ?_
        exact R_iret (pc := 49) (dc k_S_ofWay 23 rfl) rfl rfl rfl ⟨_, rfl, rfl, (Z_some hz)⟩

set_option maxRecDepth 20000 in
theorem ct_S_joined {E : Nat → Bool} {n : Nat} (hE : ∀ c, 1 ≤ c → c ≤ 80 → E c = true) (hn : 80 ≤ n) {sign : Int} {one_ : Int} {other : Int} {M : Mem} {K : Int → Prop} (hz : Z (S_joined sign one_ other M) K) : Mt y_S_joined (0, 0, n, n, E) E [vI sign, vI one_, vI other] M (qP M K) := by
  refine Mt.of (by decide) (lb rfl) (Nat.le_refl _) rfl ?_
  rw [S_joined] at hz
  show Rr y_S_joined (0, 0, n, n, E) (qP M K) 0 [(0, vI sign), (1, vI one_), (2, vI other)] [] E n M
  refine R_iload_n (pc := 0) 0 (dc k_S_joined 0 rfl) rfl rfl ?_
  by_cases hs_1 : n32 sign = 43
  · have hz := Z_pos hs_1 hz
    refine R_lookup (pc := 1) 52 (dc k_S_joined 1 rfl) rfl (by rw [hs_1]) rfl ?_
    refine R_iload_n (pc := 52) 1 (dc k_S_joined 2 rfl) rfl rfl ?_
    refine R_iload_n (pc := 53) 2 (dc k_S_joined 3 rfl) rfl rfl ?_
    refine R_iadd (pc := 54) (dc k_S_joined 4 rfl) ?_
    exact R_iret (pc := 55) (dc k_S_joined 5 rfl) rfl rfl rfl ⟨_, rfl, rfl, (Z_some hz)⟩
  · have hz := Z_neg hs_1 hz
    by_cases hs_2 : n32 sign = 45
    · have hz := Z_pos hs_2 hz
      refine R_lookup (pc := 1) 56 (dc k_S_joined 1 rfl) rfl (by rw [hs_2]) rfl ?_
      refine R_iload_n (pc := 56) 1 (dc k_S_joined 6 rfl) rfl rfl ?_
      refine R_iload_n (pc := 57) 2 (dc k_S_joined 7 rfl) rfl rfl ?_
      refine R_isub (pc := 58) (dc k_S_joined 8 rfl) ?_
      exact R_iret (pc := 59) (dc k_S_joined 9 rfl) rfl rfl rfl ⟨_, rfl, rfl, (Z_some hz)⟩
    · have hz := Z_neg hs_2 hz
      by_cases hs_4 : n32 sign = 60
      · have hz := Z_pos hs_4 hz
        refine R_lookup (pc := 1) 60 (dc k_S_joined 1 rfl) rfl (by rw [hs_4]) rfl ?_
        refine R_iload_n (pc := 60) 1 (dc k_S_joined 10 rfl) rfl rfl ?_
        refine R_iload_n (pc := 61) 2 (dc k_S_joined 11 rfl) rfl rfl ?_
        refine R_icmp_ge (pc := 62) 69 (dc k_S_joined 12 rfl) rfl (fun hc => ?_) (fun hc => ?_)
        · have hz := Z_neg (show ¬ (n32 one_ < n32 other) from (Int.not_lt.mpr hc)) hz
          refine R_iconst (pc := 69) (a := 0) (dc k_S_joined 15 rfl) ?_
          exact R_iret (pc := 70) (dc k_S_joined 16 rfl) rfl rfl rfl ⟨_, rfl, rfl, (Z_some hz)⟩
        · have hz := Z_pos (show n32 one_ < n32 other from (Int.not_le.mp hc)) hz
          refine R_iconst (pc := 65) (a := 1) (dc k_S_joined 13 rfl) ?_
          refine R_goto (pc := 66) 70 (dc k_S_joined 14 rfl) rfl ?_
          exact R_iret (pc := 70) (dc k_S_joined 16 rfl) rfl rfl rfl ⟨_, rfl, rfl, (Z_some hz)⟩
      · have hz := Z_neg hs_4 hz
        by_cases hs_6 : n32 sign = 62
        · have hz := Z_pos hs_6 hz
          refine R_lookup (pc := 1) 71 (dc k_S_joined 1 rfl) rfl (by rw [hs_6]) rfl ?_
          refine R_iload_n (pc := 71) 1 (dc k_S_joined 17 rfl) rfl rfl ?_
          refine R_iload_n (pc := 72) 2 (dc k_S_joined 18 rfl) rfl rfl ?_
          refine R_icmp_le (pc := 73) 80 (dc k_S_joined 19 rfl) rfl (fun hc => ?_) (fun hc => ?_)
          · have hz := Z_neg (show ¬ (n32 other < n32 one_) from (Int.not_lt.mpr hc)) hz
            refine R_iconst (pc := 80) (a := 0) (dc k_S_joined 22 rfl) ?_
            exact R_iret (pc := 81) (dc k_S_joined 23 rfl) rfl rfl rfl ⟨_, rfl, rfl, (Z_some hz)⟩
          · have hz := Z_pos (show n32 other < n32 one_ from (Int.not_le.mp hc)) hz
            refine R_iconst (pc := 76) (a := 1) (dc k_S_joined 20 rfl) ?_
            refine R_goto (pc := 77) 81 (dc k_S_joined 21 rfl) rfl ?_
            exact R_iret (pc := 81) (dc k_S_joined 23 rfl) rfl rfl rfl ⟨_, rfl, rfl, (Z_some hz)⟩
        · have hz := Z_neg hs_6 hz
          by_cases hs_8 : n32 sign = 61
          · have hz := Z_pos hs_8 hz
            refine R_lookup (pc := 1) 82 (dc k_S_joined 1 rfl) rfl (by rw [hs_8]) rfl ?_
            refine R_iload_n (pc := 82) 1 (dc k_S_joined 24 rfl) rfl rfl ?_
            refine R_iload_n (pc := 83) 2 (dc k_S_joined 25 rfl) rfl rfl ?_
            refine R_icmp_ne (pc := 84) 91 (dc k_S_joined 26 rfl) rfl (fun hc => ?_) (fun hc => ?_)
            · have hz := Z_neg (show ¬ (n32 one_ = n32 other) from hc) hz
              refine R_iconst (pc := 91) (a := 0) (dc k_S_joined 29 rfl) ?_
              exact R_iret (pc := 92) (dc k_S_joined 30 rfl) rfl rfl rfl ⟨_, rfl, rfl, (Z_some hz)⟩
            · have hz := Z_pos (show n32 one_ = n32 other from (Decidable.not_not.mp hc)) hz
              refine R_iconst (pc := 87) (a := 1) (dc k_S_joined 27 rfl) ?_
              refine R_goto (pc := 88) 92 (dc k_S_joined 28 rfl) rfl ?_
              exact R_iret (pc := 92) (dc k_S_joined 30 rfl) rfl rfl rfl ⟨_, rfl, rfl, (Z_some hz)⟩
          · have hz := Z_neg hs_8 hz
            refine R_lookup (pc := 1) 93 (dc k_S_joined 1 rfl) rfl (off := 92) (by simp [Op.lookupswitch.offset, Ne.symm hs_1, Ne.symm hs_2, Ne.symm hs_4, Ne.symm hs_6, Ne.symm hs_8]) rfl ?_
            refine R_iload_n (pc := 93) 1 (dc k_S_joined 31 rfl) rfl rfl ?_
            have hX_9 : ((¬ n32 one_ = 0) ∨ (¬ n32 other = 0)) → Rr y_S_joined (0, 0, n, n, E) (qP M K) 101 [(0, vI sign), (1, vI one_), (2, vI other)] [] E n M := by
              intro hc
              have hz := Z_pos hc hz
              refine R_iconst (pc := 101) (a := 1) (dc k_S_joined 35 rfl) ?_
              refine R_goto (pc := 102) 106 (dc k_S_joined 36 rfl) rfl ?_
              exact R_iret (pc := 106) (dc k_S_joined 38 rfl) rfl rfl rfl ⟨_, rfl, rfl, (Z_some hz)⟩
            have hY_10 : ¬ ((¬ n32 one_ = 0) ∨ (¬ n32 other = 0)) → Rr y_S_joined (0, 0, n, n, E) (qP M K) 105 [(0, vI sign), (1, vI one_), (2, vI other)] [] E n M := by
              intro hc
              have hz := Z_neg hc hz
              refine R_iconst (pc := 105) (a := 0) (dc k_S_joined 37 rfl) ?_
              exact R_iret (pc := 106) (dc k_S_joined 38 rfl) rfl rfl rfl ⟨_, rfl, rfl, (Z_some hz)⟩
            refine R_if_ne (pc := 94) 101 (dc k_S_joined 32 rfl) rfl (fun hc => ?_) (fun hc => ?_)
            · have hc_11 : ¬ n32 one_ = 0 := hc
              exact hX_9 (Or.inl hc_11)
            · have hc_12 : n32 one_ = 0 := (Decidable.not_not.mp hc)
              refine R_iload_n (pc := 97) 2 (dc k_S_joined 33 rfl) rfl rfl ?_
              refine R_if_eq (pc := 98) 105 (dc k_S_joined 34 rfl) rfl (fun hc => ?_) (fun hc => ?_)
              · have hc_13 : n32 other = 0 := hc
                exact hY_10 (fun z => z.elim (fun z => z hc_12) (fun z => z hc_13))
              · have hc_14 : ¬ n32 other = 0 := hc
                exact hX_9 (Or.inr hc_14)

set_option maxRecDepth 20000 in
theorem ct_S_value {E : Nat → Bool} {n : Nat} (hE : ∀ c, 1 ≤ c → c ≤ 80 → E c = true) (hn : 80 ≤ n) {start : Int} {end_ : Int} {way : Int} {M : Mem} {K : Int × Mem → Prop} (hz : Z (S_value start end_ way M) K) : Mt y_S_value (1, 22, n, n, E) E [vR 28, vI start, vI end_, vI way] M (qM K) := by
  refine Mt.of (by decide) (lb rfl) (Nat.le_refl _) rfl ?_
  rw [S_value] at hz
  show Rr y_S_value (1, 22, n, n, E) (qM K) 0 [(0, vR 28), (1, vI start), (2, vI end_), (3, vI way)] [] E n M
  refine R_iconst (pc := 0) (a := 0) (dc k_S_value 0 rfl) ?_
  refine R_istore (pc := 1) (L' := [(4, vI 0), (0, vR 28), (1, vI start), (2, vI end_), (3, vI way)]) (dc k_S_value 1 rfl) (lb rfl) rfl ?_
  refine R_iload_n (pc := 3) 2 (dc k_S_value 2 rfl) rfl rfl ?_
  refine R_istore (pc := 4) (L' := [(5, vI start), (4, vI 0), (0, vR 28), (1, vI start), (2, vI end_), (3, vI way)]) (dc k_S_value 3 rfl) (lb rfl) rfl ?_
  obtain ⟨K_4, hK_5, hz⟩ := Z_cut hz
  have hX_6 : ∀ (l4_10 : Int) (M_11 : Mem), K_4 (l4_10, M_11) → Rr y_S_value (1, 22, n, n, E) (qM K) 151 [(0, vR 28), (4, vI l4_10)] [] E n M_11 := by
    intro l4_10 M_11 hk
    have hz := hK_5 _ hk
    refine R_iload (pc := 151) 1 (dc k_S_value 75 rfl) rfl ?_
    refine R_if_le (pc := 153) 165 (dc k_S_value 76 rfl) rfl (fun hc => ?_) (fun hc => ?_)
    · have hz := Z_neg (show ¬ (0 < n32 l4_10) from (Int.not_lt.mpr hc)) hz
      refine R_iconst (pc := 165) (a := 0) (dc k_S_value 82 rfl) ?_
      exact R_iret (pc := 166) (dc k_S_value 83 rfl) rfl rfl rfl ⟨_, rfl, (Z_some hz)⟩
    · have hz := Z_pos (show 0 < n32 l4_10 from (Int.not_le.mp hc)) hz
      refine R_aload_n (pc := 156) 0 (dc k_S_value 77 rfl) rfl rfl ?_
      refine R_getS (pc := 157) (ci := 4) (k := 3) 31 (dc k_S_value 78 rfl) fl_S_19 rfl (lb rfl) (Nat.le_trans (lb rfl) hn) (hE 28 (lb rfl) (lb rfl)) rfl (by decide) rfl ?_
      refine R_iconst (pc := 160) (a := 0) (dc k_S_value 79 rfl) ?_
      refine R_iald (pc := 161) (dc k_S_value 80 rfl) rfl (lb rfl) (Nat.le_trans (lb rfl) hn) (by decide) (by decide) ?_
      refine R_goto (pc := 162) 166 (dc k_S_value 81 rfl) rfl ?_
      exact R_iret (pc := 166) (dc k_S_value 83 rfl) rfl rfl rfl ⟨_, rfl, (Z_some hz)⟩
  refine R_sub [2, 4, 5, 1, 0] rfl ?_
  refine it_R (C := fun aZ : Int × Int × Mem => Rr y_S_value (1, 22, n, n, E) (qM K) 6 [(0, vR 28), (2, vI end_), (3, vI way), (4, vI aZ.1), (5, vI aZ.2.1)] [] E n aZ.2.2) (fun aZ K_7 hC_8 hB_9 hz => ?_) FUEL (0, start, M) hz
  obtain ⟨l4_1, l5_2, M_3⟩ := aZ
  rw [S_value_b6] at hz
  show Rr y_S_value (1, 22, n, n, E) (qM K) 6 [(0, vR 28), (2, vI end_), (3, vI way), (4, vI l4_1), (5, vI l5_2)] [] E n M_3
  refine R_iload (pc := 6) 4 (dc k_S_value 4 rfl) rfl ?_
  refine R_iload_n (pc := 8) 1 (dc k_S_value 5 rfl) rfl rfl ?_
  refine R_icmp_ge (pc := 9) 151 (dc k_S_value 6 rfl) rfl (fun hc => ?_) (fun hc => ?_)
  · have hz := Z_neg (show ¬ (n32 l5_2 < n32 end_) from (Int.not_lt.mpr hc)) hz
    refine R_sub [0, 3] rfl ?_
    exact hX_6 _ _ (hB_9 _ (Z_some hz))
  · have hz := Z_pos (show n32 l5_2 < n32 end_ from (Int.not_le.mp hc)) hz
    refine R_aload_n (pc := 12) 0 (dc k_S_value 7 rfl) rfl rfl ?_
    refine R_getS (pc := 13) (ci := 4) (k := 0) 29 (dc k_S_value 8 rfl) fl_S_9 rfl (lb rfl) (Nat.le_trans (lb rfl) hn) (hE 28 (lb rfl) (lb rfl)) rfl (by decide) rfl ?_
    refine R_iload (pc := 16) 4 (dc k_S_value 9 rfl) rfl ?_
    obtain ⟨⟨hg_12, hg_13⟩, hz⟩ := Z_chk hz
    refine R_iald (pc := 18) (dc k_S_value 10 rfl) rfl (lb rfl) (Nat.le_trans (lb rfl) hn) hg_12 hg_13 ?_
    refine R_sipush (pc := 19) (a := 255) (dc k_S_value 11 rfl) (by decide) ?_
    refine R_iand (pc := 22) (dc k_S_value 12 rfl) ?_
    obtain ⟨l6_14, hl6_14, hz⟩ := Z_lt hz
    refine R_istoreE (pc := 23) (L' := [(6, vI l6_14), (0, vR 28), (2, vI end_), (3, vI way), (4, vI l4_1), (5, vI l5_2)]) (dc k_S_value 13 rfl) (lb rfl) hl6_14 rfl ?_
    refine R_iload (pc := 25) 0 (dc k_S_value 14 rfl) rfl ?_
    refine R_bipush (pc := 27) (a := 22) (dc k_S_value 15 rfl) (by decide) ?_
    obtain ⟨K_17, hK_18, hz⟩ := Z_cut hz
    have hJ_19 : ∀ (l4_15 : Int) (M_16 : Mem), K_17 (l4_15, M_16) → Rr y_S_value (1, 22, n, n, E) (qM K) 145 [(0, vR 28), (2, vI end_), (3, vI way), (4, vI l4_15), (5, vI l5_2)] [] E n M_16 := by
      intro l4_15 M_16 hk
      have hz := hK_18 _ hk
      obtain ⟨l5_51, hl5_51, hz⟩ := Z_lt hz
      refine R_iincE (pc := 145) (L' := [(5, vI l5_51), (0, vR 28), (2, vI end_), (3, vI way), (4, vI l4_15)]) 4 (dc k_S_value 73 rfl) rfl (lb rfl) hl5_51 rfl ?_
      refine R_goto (pc := 148) 6 (dc k_S_value 74 rfl) rfl ?_
      refine R_sub [1, 2, 3, 4, 0] rfl ?_
      exact hC_8 _ (Z_some hz)
    have hX_39 : ((n32 l6_14 = 22) ∨ ((n32 l6_14 = 18) ∨ ((n32 l6_14 = 19) ∨ ((n32 l6_14 = 20) ∨ (n32 l6_14 = 17))))) → Rr y_S_value (1, 22, n, n, E) (qM K) 60 [(6, vI l6_14), (0, vR 28), (2, vI end_), (3, vI way), (4, vI l4_1), (5, vI l5_2)] [] E n M_3 := by
      intro hc
      have hz := Z_pos hc hz
      refine R_iload (pc := 60) 4 (dc k_S_value 29 rfl) rfl ?_
      refine R_bipush (pc := 62) (a := 25) (dc k_S_value 30 rfl) (by decide) ?_
      refine R_icmp_ge (pc := 64) 145 (dc k_S_value 31 rfl) rfl (fun hc => ?_) (fun hc => ?_)
      · have hz := Z_neg (show ¬ (n32 l4_1 < 25) from (Int.not_lt.mpr hc)) hz
        refine R_sub [1, 2, 3, 4, 5] rfl ?_
        exact hJ_19 _ _ (Z_some hz)
      · have hz := Z_pos (show n32 l4_1 < 25 from (Int.not_le.mp hc)) hz
        refine R_aload_n (pc := 67) 1 (dc k_S_value 32 rfl) rfl rfl ?_
        refine R_getS (pc := 68) (ci := 4) (k := 3) 31 (dc k_S_value 33 rfl) fl_S_19 rfl (lb rfl) (Nat.le_trans (lb rfl) hn) (hE 28 (lb rfl) (lb rfl)) rfl (by decide) rfl ?_
        refine R_iload (pc := 71) 4 (dc k_S_value 34 rfl) rfl ?_
        refine R_iload (pc := 73) 0 (dc k_S_value 35 rfl) rfl ?_
        refine R_bipush (pc := 75) (a := 22) (dc k_S_value 36 rfl) (by decide) ?_
        obtain ⟨K_21, hK_22, hz⟩ := Z_cut hz
        have hJ_23 : ∀ (v_20 : Int), K_21 v_20 → Rr y_S_value (1, 22, n, n, E) (qM K) 99 [(0, vR 28), (2, vI end_), (3, vI way), (4, vI l4_1), (5, vI l5_2)] [vI v_20, vI l4_1, vR 31] E n M_3 := by
          intro v_20 hk
          have hz := hK_22 _ hk
          obtain ⟨⟨hg_26, hg_27⟩, hz⟩ := Z_chk hz
          obtain ⟨M_28, hM_28, hz⟩ := Z_lt hz
          refine R_iastE (pc := 99) (dc k_S_value 48 rfl) rfl (lb rfl) (Nat.le_trans (lb rfl) hn) hg_26 hg_27 hM_28 ?_
          obtain ⟨l4_29, hl4_29, hz⟩ := Z_lt hz
          refine R_iincE (pc := 100) (L' := [(4, vI l4_29), (0, vR 28), (2, vI end_), (3, vI way), (5, vI l5_2)]) 3 (dc k_S_value 49 rfl) rfl (lb rfl) hl4_29 rfl ?_
          refine R_goto (pc := 103) 145 (dc k_S_value 50 rfl) rfl ?_
          refine R_sub [1, 2, 3, 0, 4] rfl ?_
          exact hJ_19 _ _ (Z_some hz)
        refine R_icmp_ne (pc := 77) 93 (dc k_S_value 37 rfl) rfl (fun hc => ?_) (fun hc => ?_)
        · have hz := Z_neg (show ¬ (n32 l6_14 = 22) from hc) hz
          refine R_iload (pc := 93) 0 (dc k_S_value 45 rfl) rfl ?_
          refine R_iload_n (pc := 95) 3 (dc k_S_value 46 rfl) rfl rfl ?_
          refine R_cSP (pc := 96)  (As := [vI l6_14, vI way]) (S := [vI l4_1, vR 31]) ck_S_65 (dc k_S_value 47 rfl) (lb rfl) (lb rfl) (lb rfl) rfl (ct_S_ofWay hE hn (Z_bind hz)) (fun r_24 hz => ?_)
          refine R_sub [1, 2, 3, 4, 5] rfl ?_
          exact hJ_23 _ (Z_some hz)
        · have hz := Z_pos (show n32 l6_14 = 22 from (Decidable.not_not.mp hc)) hz
          refine R_aload_n (pc := 80) 1 (dc k_S_value 38 rfl) rfl rfl ?_
          refine R_getS (pc := 81) (ci := 4) (k := 0) 29 (dc k_S_value 39 rfl) fl_S_9 rfl (lb rfl) (Nat.le_trans (lb rfl) hn) (hE 28 (lb rfl) (lb rfl)) rfl (by decide) rfl ?_
          refine R_iload (pc := 84) 5 (dc k_S_value 40 rfl) rfl ?_
          refine R_iald (pc := 86) (dc k_S_value 41 rfl) rfl (lb rfl) (Nat.le_trans (lb rfl) hn) hg_12 hg_13 ?_
          refine R_bipush (pc := 87) (a := 8) (dc k_S_value 42 rfl) (by decide) ?_
          refine R_ishr (pc := 89) (dc k_S_value 43 rfl) ?_
          refine R_goto (pc := 90) 99 (dc k_S_value 44 rfl) rfl ?_
          refine R_sub [1, 2, 3, 4, 5] rfl ?_
          exact hJ_23 _ (Z_some hz)
    have hY_40 : ¬ ((n32 l6_14 = 22) ∨ ((n32 l6_14 = 18) ∨ ((n32 l6_14 = 19) ∨ ((n32 l6_14 = 20) ∨ (n32 l6_14 = 17))))) → Rr y_S_value (1, 22, n, n, E) (qM K) 106 [(6, vI l6_14), (0, vR 28), (2, vI end_), (3, vI way), (4, vI l4_1), (5, vI l5_2)] [] E n M_3 := by
      intro hc
      have hz := Z_neg hc hz
      refine R_iload (pc := 106) 4 (dc k_S_value 51 rfl) rfl ?_
      refine R_iconst (pc := 108) (a := 1) (dc k_S_value 52 rfl) ?_
      refine R_icmp_le (pc := 109) 145 (dc k_S_value 53 rfl) rfl (fun hc => ?_) (fun hc => ?_)
      · have hz := Z_neg (show ¬ (1 < n32 l4_1) from (Int.not_lt.mpr hc)) hz
        refine R_sub [1, 2, 3, 4, 5] rfl ?_
        exact hJ_19 _ _ (Z_some hz)
      · have hz := Z_pos (show 1 < n32 l4_1 from (Int.not_le.mp hc)) hz
        obtain ⟨l4_31, hl4_31, hz⟩ := Z_lt hz
        refine R_iincE (pc := 112) (L' := [(4, vI l4_31), (6, vI l6_14), (0, vR 28), (2, vI end_), (3, vI way), (5, vI l5_2)]) 4 (dc k_S_value 54 rfl) rfl (lb rfl) hl4_31 rfl ?_
        refine R_aload_n (pc := 115) 2 (dc k_S_value 55 rfl) rfl rfl ?_
        refine R_getS (pc := 116) (ci := 4) (k := 3) 31 (dc k_S_value 56 rfl) fl_S_19 rfl (lb rfl) (Nat.le_trans (lb rfl) hn) (hE 28 (lb rfl) (lb rfl)) rfl (by decide) rfl ?_
        refine R_iload (pc := 119) 0 (dc k_S_value 57 rfl) rfl ?_
        refine R_iconst (pc := 121) (a := 1) (dc k_S_value 58 rfl) ?_
        refine R_isub (pc := 122) (dc k_S_value 59 rfl) ?_
        refine R_iload (pc := 123) 1 (dc k_S_value 60 rfl) rfl ?_
        refine R_aload_n (pc := 125) 2 (dc k_S_value 61 rfl) rfl rfl ?_
        refine R_getS (pc := 126) (ci := 4) (k := 3) 31 (dc k_S_value 62 rfl) fl_S_19 rfl (lb rfl) (Nat.le_trans (lb rfl) hn) (hE 28 (lb rfl) (lb rfl)) rfl (by decide) rfl ?_
        refine R_iload (pc := 129) 0 (dc k_S_value 63 rfl) rfl ?_
        refine R_iconst (pc := 131) (a := 1) (dc k_S_value 64 rfl) ?_
        refine R_isub (pc := 132) (dc k_S_value 65 rfl) ?_
        obtain ⟨⟨hg_32, hg_33⟩, hz⟩ := Z_chk hz
        refine R_iald (pc := 133) (dc k_S_value 66 rfl) rfl (lb rfl) (Nat.le_trans (lb rfl) hn) hg_32 hg_33 ?_
        refine R_aload_n (pc := 134) 2 (dc k_S_value 67 rfl) rfl rfl ?_
        refine R_getS (pc := 135) (ci := 4) (k := 3) 31 (dc k_S_value 68 rfl) fl_S_19 rfl (lb rfl) (Nat.le_trans (lb rfl) hn) (hE 28 (lb rfl) (lb rfl)) rfl (by decide) rfl ?_
        refine R_iload (pc := 138) 0 (dc k_S_value 69 rfl) rfl ?_
        obtain ⟨⟨hg_34, hg_35⟩, hz⟩ := Z_chk hz
        refine R_iald (pc := 140) (dc k_S_value 70 rfl) rfl (lb rfl) (Nat.le_trans (lb rfl) hn) hg_34 hg_35 ?_
        refine R_cSP (pc := 141)  (As := [vI l6_14, vI (M_3 31 (Int.toNat (l4_31 - 1))), vI (M_3 31 (Int.toNat l4_31))]) (S := [vI (l4_31 - 1), vR 31]) ck_S_69 (dc k_S_value 71 rfl) (lb rfl) (lb rfl) (lb rfl) rfl (ct_S_joined hE hn (Z_bind hz)) (fun r_36 hz => ?_)
        obtain ⟨M_37, hM_37, hz⟩ := Z_lt hz
        refine R_iastE (pc := 144) (dc k_S_value 72 rfl) rfl (lb rfl) (Nat.le_trans (lb rfl) hn) hg_32 hg_33 hM_37 ?_
        refine R_sub [2, 3, 4, 0, 5] rfl ?_
        exact hJ_19 _ _ (Z_some hz)
    refine R_icmp_eq (pc := 29) 60 (dc k_S_value 16 rfl) rfl (fun hc => ?_) (fun hc => ?_)
    · have hc_41 : n32 l6_14 = 22 := hc
      exact hX_39 (Or.inl hc_41)
    · have hc_42 : ¬ n32 l6_14 = 22 := hc
      refine R_iload (pc := 32) 0 (dc k_S_value 17 rfl) rfl ?_
      refine R_bipush (pc := 34) (a := 18) (dc k_S_value 18 rfl) (by decide) ?_
      refine R_icmp_eq (pc := 36) 60 (dc k_S_value 19 rfl) rfl (fun hc => ?_) (fun hc => ?_)
      · have hc_43 : n32 l6_14 = 18 := hc
        exact hX_39 (Or.inr (Or.inl hc_43))
      · have hc_44 : ¬ n32 l6_14 = 18 := hc
        refine R_iload (pc := 39) 0 (dc k_S_value 20 rfl) rfl ?_
        refine R_bipush (pc := 41) (a := 19) (dc k_S_value 21 rfl) (by decide) ?_
        refine R_icmp_eq (pc := 43) 60 (dc k_S_value 22 rfl) rfl (fun hc => ?_) (fun hc => ?_)
        · have hc_45 : n32 l6_14 = 19 := hc
          exact hX_39 (Or.inr (Or.inr (Or.inl hc_45)))
        · have hc_46 : ¬ n32 l6_14 = 19 := hc
          refine R_iload (pc := 46) 0 (dc k_S_value 23 rfl) rfl ?_
          refine R_bipush (pc := 48) (a := 20) (dc k_S_value 24 rfl) (by decide) ?_
          refine R_icmp_eq (pc := 50) 60 (dc k_S_value 25 rfl) rfl (fun hc => ?_) (fun hc => ?_)
          · have hc_47 : n32 l6_14 = 20 := hc
            exact hX_39 (Or.inr (Or.inr (Or.inr (Or.inl hc_47))))
          · have hc_48 : ¬ n32 l6_14 = 20 := hc
            refine R_iload (pc := 53) 0 (dc k_S_value 26 rfl) rfl ?_
            refine R_bipush (pc := 55) (a := 17) (dc k_S_value 27 rfl) (by decide) ?_
            refine R_icmp_ne (pc := 57) 106 (dc k_S_value 28 rfl) rfl (fun hc => ?_) (fun hc => ?_)
            · have hc_49 : ¬ n32 l6_14 = 17 := hc
              exact hY_40 (fun z => z.elim hc_42 (fun z => z.elim hc_44 (fun z => z.elim hc_46 (fun z => z.elim hc_48 hc_49))))
            · have hc_50 : n32 l6_14 = 17 := (Decidable.not_not.mp hc)
              exact hX_39 (Or.inr (Or.inr (Or.inr (Or.inr hc_50))))
