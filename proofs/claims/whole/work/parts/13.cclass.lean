set_option maxRecDepth 20000 in
theorem ct_N_fillLaw {E : Nat → Bool} {n : Nat} (hE : ∀ c, 1 ≤ c → c ≤ 80 → E c = true) (hn : 80 ≤ n) {M : Mem} {K : Mem → Prop} (hz : Z (N_fillLaw M) K) : Mt y_N_fillLaw (2, 48, n, n, E) E [vR 27] M (qV K) := by
  refine Mt.of (by decide) (lb rfl) (Nat.le_refl _) rfl ?_
  rw [N_fillLaw] at hz
  show Rr y_N_fillLaw (2, 48, n, n, E) (qV K) 0 [(0, vR 27)] [] E n M
  refine R_aload_n (pc := 0) 0 (dc k_N_fillLaw 0 rfl) rfl rfl ?_
  obtain ⟨hg_1, hz⟩ := Z_chk hz
  obtain ⟨t_2, ht_2, hz⟩ := Z_lt hz
  obtain ⟨hq_3, ht_2t⟩ := isTI.at' hg_1 ht_2
  have hnt_2t := qTn ht_2t hn
  have hEt_2t := qTE ht_2t hE
  refine R_getR (pc := 1) (ci := 3) (k := 16) t_2 (dc k_N_fillLaw 1 rfl) fl_N_54 rfl (lb rfl) (Nat.le_trans (lb rfl) hn) (Or.inr rfl) hq_3 (qT0 ht_2t) rfl ?_
  refine R_lconst (pc := 4) (a := 0) (dc k_N_fillLaw 2 rfl) (by decide) ?_
  obtain ⟨M_4, hM_4, hz⟩ := Z_lt hz
  refine R_putJE (pc := 5) (ci := 1) (k := 7) (dc k_N_fillLaw 3 rfl) fl_N_288 (lT ht_2t) (qT1 ht_2t) (qTn_0 hnt_2t) (rT_7 ht_2t) rfl rfl hM_4 ?_
  refine R_iconst (pc := 8) (a := 0) (dc k_N_fillLaw 4 rfl) ?_
  refine R_istore_n (pc := 9) (L' := [(1, vI 0), (0, vR 27)]) (dc k_N_fillLaw 5 rfl) rfl (lb rfl) rfl ?_
  obtain ⟨K_7, hK_8, hz⟩ := Z_cut hz
  have hX_9 : ∀ (M_13 : Mem), K_7 M_13 → Rr y_N_fillLaw (2, 48, n, n, E) (qV K) 94 [] [] E n M_13 := by
    intro M_13 hk
    have hz := hK_8 _ hk
    exact R_vret (pc := 94) (dc k_N_fillLaw 50 rfl) rfl rfl rfl ⟨rfl, (Z_some hz)⟩
  refine R_sub [1, 0] rfl ?_
  refine it_R (C := fun aZ : Int × Mem => Rr y_N_fillLaw (2, 48, n, n, E) (qV K) 10 [(0, vR 27), (1, vI aZ.1)] [] E n aZ.2) (fun aZ K_10 hC_11 hB_12 hz => ?_) FUEL (0, M_4) hz
  obtain ⟨l1_5, M_6⟩ := aZ
  rw [N_fillLaw_b10] at hz
  show Rr y_N_fillLaw (2, 48, n, n, E) (qV K) 10 [(0, vR 27), (1, vI l1_5)] [] E n M_6
  refine R_iload_n (pc := 10) 1 (dc k_N_fillLaw 6 rfl) rfl rfl ?_
  refine R_aload_n (pc := 11) 0 (dc k_N_fillLaw 7 rfl) rfl rfl ?_
  obtain ⟨hg_14, hz⟩ := Z_chk hz
  obtain ⟨t_15, ht_15, hz⟩ := Z_lt hz
  obtain ⟨hq_16, ht_15t⟩ := isTI.at' hg_14 ht_15
  have hnt_15t := qTn ht_15t hn
  have hEt_15t := qTE ht_15t hE
  refine R_getR (pc := 12) (ci := 3) (k := 16) t_15 (dc k_N_fillLaw 8 rfl) fl_N_54 rfl (lb rfl) (Nat.le_trans (lb rfl) hn) (Or.inr rfl) hq_16 (qT0 ht_15t) rfl ?_
  refine R_getI (pc := 15) (ci := 1) (k := 1) (dc k_N_fillLaw 9 rfl) fl_N_140 (lT ht_15t) (qT1 ht_15t) (qTn_0 hnt_15t) (rT_1 ht_15t) (Or.inl rfl) ?_
  refine R_iconst (pc := 18) (a := 3) (dc k_N_fillLaw 10 rfl) ?_
  refine R_ishl (pc := 19) (dc k_N_fillLaw 11 rfl) ?_
  refine R_icmp_ge (pc := 20) 94 (dc k_N_fillLaw 12 rfl) rfl (fun hc => ?_) (fun hc => ?_)
  · have hz := Z_neg (show ¬ (n32 l1_5 < n32 (ishl (M_6 t_15 1) 3)) from (Int.not_lt.mpr hc)) hz
    refine R_sub [] rfl ?_
    exact hX_9 _ (hB_12 _ (Z_some hz))
  · have hz := Z_pos (show n32 l1_5 < n32 (ishl (M_6 t_15 1) 3) from (Int.not_le.mp hc)) hz
    refine R_aload_n (pc := 23) 0 (dc k_N_fillLaw 13 rfl) rfl rfl ?_
    refine R_getI (pc := 24) (ci := 3) (k := 13) (dc k_N_fillLaw 14 rfl) fl_N_70 rfl (lb rfl) (Nat.le_trans (lb rfl) hn) rfl (Or.inr rfl) ?_
    obtain ⟨K_19, hK_20, hz⟩ := Z_cut hz
    have hJ_21 : ∀ (v_17 : Int) (M_18 : Mem), K_19 (v_17, M_18) → Rr y_N_fillLaw (2, 48, n, n, E) (qV K) 68 [(0, vR 27), (1, vI l1_5)] [vI v_17] E n M_18 := by
      intro v_17 M_18 hk
      have hz := hK_20 _ hk
      refine R_istore_n (pc := 68) (L' := [(2, vI v_17), (0, vR 27), (1, vI l1_5)]) (dc k_N_fillLaw 36 rfl) rfl (lb rfl) rfl ?_
      refine R_iload_n (pc := 69) 0 (dc k_N_fillLaw 37 rfl) rfl rfl ?_
      obtain ⟨K_28, hK_29, hz⟩ := Z_cut hz
      have hJ_30 : ∀ (M_27 : Mem), K_28 M_27 → Rr y_N_fillLaw (2, 48, n, n, E) (qV K) 88 [(0, vR 27), (1, vI l1_5)] [] E n M_27 := by
        intro M_27 hk
        have hz := hK_29 _ hk
        obtain ⟨l1_36, hl1_36, hz⟩ := Z_lt hz
        refine R_iincE (pc := 88) (L' := [(1, vI l1_36), (0, vR 27)]) 1 (dc k_N_fillLaw 48 rfl) rfl (lb rfl) hl1_36 rfl ?_
        refine R_goto (pc := 91) 10 (dc k_N_fillLaw 49 rfl) rfl ?_
        refine R_sub [1, 0] rfl ?_
        exact hC_11 _ (Z_some hz)
      refine R_if_eq (pc := 70) 88 (dc k_N_fillLaw 38 rfl) rfl (fun hc => ?_) (fun hc => ?_)
      · have hz := Z_neg (show ¬ (¬ n32 v_17 = 0) from (fun z => z hc)) hz
        refine R_sub [1, 2] rfl ?_
        exact hJ_30 _ (Z_some hz)
      · have hz := Z_pos (show ¬ n32 v_17 = 0 from hc) hz
        refine R_aload_n (pc := 73) 1 (dc k_N_fillLaw 39 rfl) rfl rfl ?_
        obtain ⟨hg_31, hz⟩ := Z_chk hz
        obtain ⟨t_32, ht_32, hz⟩ := Z_lt hz
        obtain ⟨hq_33, ht_32t⟩ := isTI.at' hg_31 ht_32
        have hnt_32t := qTn ht_32t hn
        have hEt_32t := qTE ht_32t hE
        refine R_getR (pc := 74) (ci := 3) (k := 16) t_32 (dc k_N_fillLaw 40 rfl) fl_N_54 rfl (lb rfl) (Nat.le_trans (lb rfl) hn) (Or.inr rfl) hq_33 (qT0 ht_32t) rfl ?_
        refine R_dup (pc := 77) (dc k_N_fillLaw 41 rfl) rfl ?_
        refine R_getJ (pc := 78) (ci := 1) (k := 7) (dc k_N_fillLaw 42 rfl) fl_N_288 (lT ht_32t) (qT1 ht_32t) (qTn_0 hnt_32t) (rT_7 ht_32t) rfl ?_
        refine R_lconst (pc := 81) (a := 1) (dc k_N_fillLaw 43 rfl) (by decide) ?_
        refine R_iload_n (pc := 82) 2 (dc k_N_fillLaw 44 rfl) rfl rfl ?_
        refine R_lshl (pc := 83) (dc k_N_fillLaw 45 rfl) ?_
        refine R_lor (pc := 84) (dc k_N_fillLaw 46 rfl) ?_
        obtain ⟨M_34, hM_34, hz⟩ := Z_lt hz
        refine R_putJE (pc := 85) (ci := 1) (k := 7) (dc k_N_fillLaw 47 rfl) fl_N_288 (lT ht_32t) (qT1 ht_32t) (qTn_0 hnt_32t) (rT_7 ht_32t) rfl rfl hM_34 ?_
        refine R_sub [1, 2] rfl ?_
        exact hJ_30 _ (Z_some hz)
    refine R_if_eq (pc := 27) 57 (dc k_N_fillLaw 15 rfl) rfl (fun hc => ?_) (fun hc => ?_)
    · have hz := Z_neg (show ¬ (¬ n32 (M_6 27 13) = 0) from (fun z => z hc)) hz
      refine R_iload_n (pc := 57) 1 (dc k_N_fillLaw 29 rfl) rfl rfl ?_
      refine R_iconst (pc := 58) (a := 3) (dc k_N_fillLaw 30 rfl) ?_
      refine R_ishr (pc := 59) (dc k_N_fillLaw 31 rfl) ?_
      refine R_if_le (pc := 60) 67 (dc k_N_fillLaw 32 rfl) rfl (fun hc => ?_) (fun hc => ?_)
      · have hz := Z_neg (show ¬ (0 < n32 (ishr l1_5 3)) from (Int.not_lt.mpr hc)) hz
        refine R_iconst (pc := 67) (a := 0) (dc k_N_fillLaw 35 rfl) ?_
        exact hJ_21 _ _ (Z_some hz)
      · have hz := Z_pos (show 0 < n32 (ishr l1_5 3) from (Int.not_le.mp hc)) hz
        refine R_iconst (pc := 63) (a := 1) (dc k_N_fillLaw 33 rfl) ?_
        refine R_goto (pc := 64) 68 (dc k_N_fillLaw 34 rfl) rfl ?_
        exact hJ_21 _ _ (Z_some hz)
    · have hz := Z_pos (show ¬ n32 (M_6 27 13) = 0 from hc) hz
      refine R_aload_n (pc := 30) 0 (dc k_N_fillLaw 16 rfl) rfl rfl ?_
      refine R_getS (pc := 31) (ci := 3) (k := 1) 28 (dc k_N_fillLaw 17 rfl) fl_N_12 rfl (lb rfl) (Nat.le_trans (lb rfl) hn) (hE 27 (lb rfl) (lb rfl)) rfl (by decide) rfl ?_
      refine R_aload_n (pc := 34) 0 (dc k_N_fillLaw 18 rfl) rfl rfl ?_
      refine R_getI (pc := 35) (ci := 3) (k := 11) (dc k_N_fillLaw 19 rfl) fl_N_209 rfl (lb rfl) (Nat.le_trans (lb rfl) hn) rfl (Or.inl rfl) ?_
      refine R_aload_n (pc := 38) 0 (dc k_N_fillLaw 20 rfl) rfl rfl ?_
      refine R_getI (pc := 39) (ci := 3) (k := 12) (dc k_N_fillLaw 21 rfl) fl_N_215 rfl (lb rfl) (Nat.le_trans (lb rfl) hn) rfl (Or.inl rfl) ?_
      refine R_iload_n (pc := 42) 1 (dc k_N_fillLaw 22 rfl) rfl rfl ?_
      refine R_cVM (pc := 43)  (As := [vI (M_6 27 11), vI (M_6 27 12), vI l1_5]) (S := []) ck_N_291 (dc k_N_fillLaw 23 rfl) ⟨rfl, ⟨_, rfl, rfl⟩, (lb rfl), (Nat.le_trans (lb rfl) hn)⟩ (lb rfl) (lb rfl) (lb rfl) rfl (ct_S_value hE hn (Z_bind hz)) (fun r_22 M_23 hz => ?_)
      refine R_if_eq (pc := 46) 53 (dc k_N_fillLaw 24 rfl) rfl (fun hc => ?_) (fun hc => ?_)
      · have hz := Z_neg (show ¬ (¬ n32 r_22 = 0) from (fun z => z hc)) hz
        refine R_iconst (pc := 53) (a := 0) (dc k_N_fillLaw 27 rfl) ?_
        refine R_goto (pc := 54) 68 (dc k_N_fillLaw 28 rfl) rfl ?_
        exact hJ_21 _ _ (Z_some hz)
      · have hz := Z_pos (show ¬ n32 r_22 = 0 from hc) hz
        refine R_iconst (pc := 49) (a := 1) (dc k_N_fillLaw 25 rfl) ?_
        refine R_goto (pc := 50) 68 (dc k_N_fillLaw 26 rfl) rfl ?_
        exact hJ_21 _ _ (Z_some hz)

set_option maxRecDepth 20000 in
theorem ct_T_allOfWord {E : Nat → Bool} {n : Nat} (hE : ∀ c, 1 ≤ c → c ≤ 80 → E c = true) (hn : 80 ≤ n) {t : Nat} (ht : isT t) {M : Mem} {K : Int → Prop} (hz : Z (T_allOfWord t M) K) : Mt y_T_allOfWord (0, 0, n, n, E) E [vR t] M (qJ M K) := by
  refine Mt.of (by decide) (lb rfl) (Nat.le_refl _) rfl ?_
  rw [T_allOfWord] at hz
  have hnt := qTn ht hn
  have hEt := qTE ht hE
  show Rr y_T_allOfWord (0, 0, n, n, E) (qJ M K) 0 [(0, vR t)] [] E n M
  refine R_aload_n (pc := 0) 0 (dc k_T_allOfWord 0 rfl) rfl rfl ?_
  refine R_getI (pc := 1) (ci := 1) (k := 0) (dc k_T_allOfWord 1 rfl) fl_T_49 (lT ht) (qT1 ht) (qTn_0 hnt) (rT_0 ht) (Or.inl rfl) ?_
  refine R_bipush (pc := 4) (a := 6) (dc k_T_allOfWord 2 rfl) (by decide) ?_
  refine R_icmp_lt (pc := 6) 15 (dc k_T_allOfWord 3 rfl) rfl (fun hc => ?_) (fun hc => ?_)
  · have hz := Z_neg (show ¬ (6 ≤ n32 (M t 0)) from (Int.not_le.mpr hc)) hz
    refine R_lconst (pc := 15) (a := 1) (dc k_T_allOfWord 6 rfl) (by decide) ?_
    refine R_iconst (pc := 16) (a := 1) (dc k_T_allOfWord 7 rfl) ?_
    refine R_aload_n (pc := 17) 0 (dc k_T_allOfWord 8 rfl) rfl rfl ?_
    refine R_getI (pc := 18) (ci := 1) (k := 0) (dc k_T_allOfWord 9 rfl) fl_T_49 (lT ht) (qT1 ht) (qTn_0 hnt) (rT_0 ht) (Or.inl rfl) ?_
    refine R_ishl (pc := 21) (dc k_T_allOfWord 10 rfl) ?_
    refine R_lshl (pc := 22) (dc k_T_allOfWord 11 rfl) ?_
    refine R_lconst (pc := 23) (a := 1) (dc k_T_allOfWord 12 rfl) (by decide) ?_
    refine R_lsub (pc := 24) (dc k_T_allOfWord 13 rfl) ?_
    exact R_lret (pc := 25) (dc k_T_allOfWord 14 rfl) rfl rfl rfl ⟨_, rfl, rfl, (Z_some hz)⟩
  · have hz := Z_pos (show 6 ≤ n32 (M t 0) from (Int.not_lt.mp hc)) hz
    refine R_ldc2 (pc := 9) (a := (-1)) (dc k_T_allOfWord 4 rfl) c_T_122 ?_
    refine R_goto (pc := 12) 25 (dc k_T_allOfWord 5 rfl) rfl ?_
    exact R_lret (pc := 25) (dc k_T_allOfWord 14 rfl) rfl rfl rfl ⟨_, rfl, rfl, (Z_some hz)⟩

set_option maxRecDepth 20000 in
theorem ct_S_push {E : Nat → Bool} {n : Nat} (hE : ∀ c, 1 ≤ c → c ≤ 80 → E c = true) (hn : 80 ≤ n) {ttown : Nat} {sign : Int} {of_ : Int} {at_ : Int} (httown : isT ttown) {M : Mem} {K : Mem → Prop} (hz : Z (S_push ttown sign of_ at_ M) K) : Mt y_S_push (1, 21, n, n, E) E [vR 28, vR ttown, vI sign, vI of_, vI at_] M (qV K) := by
  refine Mt.of (by decide) (lb rfl) (Nat.le_refl _) rfl ?_
  rw [S_push] at hz
  have hnttown := qTn httown hn
  have hEttown := qTE httown hE
  show Rr y_S_push (1, 21, n, n, E) (qV K) 0 [(0, vR 28), (1, vR ttown), (2, vI sign), (3, vI of_), (4, vI at_)] [] E n M
  refine R_iconst (pc := 0) (a := 0) (dc k_S_push 0 rfl) ?_
  refine R_istore (pc := 1) (L' := [(5, vI 0), (0, vR 28), (1, vR ttown), (2, vI sign), (3, vI of_), (4, vI at_)]) (dc k_S_push 1 rfl) (lb rfl) rfl ?_
  obtain ⟨K_3, hK_4, hz⟩ := Z_cut hz
  have hX_5 : ∀ (M_9 : Mem), K_3 M_9 → Rr y_S_push (1, 21, n, n, E) (qV K) 105 [] [] E n M_9 := by
    intro M_9 hk
    have hz := hK_4 _ hk
    exact R_vret (pc := 105) (dc k_S_push 57 rfl) rfl rfl rfl ⟨rfl, (Z_some hz)⟩
  refine R_sub [1, 2, 3, 4, 5, 0] rfl ?_
  refine it_R (C := fun aZ : Int × Mem => Rr y_S_push (1, 21, n, n, E) (qV K) 3 [(0, vR 28), (1, vR ttown), (2, vI sign), (3, vI of_), (4, vI at_), (5, vI aZ.1)] [] E n aZ.2) (fun aZ K_6 hC_7 hB_8 hz => ?_) FUEL (0, M) hz
  obtain ⟨l5_1, M_2⟩ := aZ
  rw [S_push_b3] at hz
  show Rr y_S_push (1, 21, n, n, E) (qV K) 3 [(0, vR 28), (1, vR ttown), (2, vI sign), (3, vI of_), (4, vI at_), (5, vI l5_1)] [] E n M_2
  refine R_iload (pc := 3) 5 (dc k_S_push 2 rfl) rfl ?_
  refine R_aload_n (pc := 5) 1 (dc k_S_push 3 rfl) rfl rfl ?_
  refine R_getI (pc := 6) (ci := 1) (k := 6) (dc k_S_push 4 rfl) fl_S_37 (lT httown) (qT1 httown) (qTn_0 hnttown) (rT_6 httown) (Or.inl rfl) ?_
  refine R_icmp_ge (pc := 9) 105 (dc k_S_push 5 rfl) rfl (fun hc => ?_) (fun hc => ?_)
  · have hz := Z_neg (show ¬ (n32 l5_1 < n32 (M_2 ttown 6)) from (Int.not_lt.mpr hc)) hz
    refine R_sub [] rfl ?_
    exact hX_5 _ (hB_8 _ (Z_some hz))
  · have hz := Z_pos (show n32 l5_1 < n32 (M_2 ttown 6) from (Int.not_le.mp hc)) hz
    refine R_iload_n (pc := 12) 2 (dc k_S_push 6 rfl) rfl rfl ?_
    refine R_iconst (pc := 13) (a := 5) (dc k_S_push 7 rfl) ?_
    obtain ⟨K_11, hK_12, hz⟩ := Z_cut hz
    have hJ_13 : ∀ (M_10 : Mem), K_11 M_10 → Rr y_S_push (1, 21, n, n, E) (qV K) 99 [(0, vR 28), (1, vR ttown), (2, vI sign), (3, vI of_), (4, vI at_), (5, vI l5_1)] [] E n M_10 := by
      intro M_10 hk
      have hz := hK_12 _ hk
      obtain ⟨l5_36, hl5_36, hz⟩ := Z_lt hz
      refine R_iincE (pc := 99) (L' := [(5, vI l5_36), (0, vR 28), (1, vR ttown), (2, vI sign), (3, vI of_), (4, vI at_)]) 5 (dc k_S_push 55 rfl) rfl (lb rfl) hl5_36 rfl ?_
      refine R_goto (pc := 102) 3 (dc k_S_push 56 rfl) rfl ?_
      refine R_sub [1, 2, 3, 4, 5, 0] rfl ?_
      exact hC_7 _ (Z_some hz)
    refine R_icmp_ne (pc := 14) 41 (dc k_S_push 8 rfl) rfl (fun hc => ?_) (fun hc => ?_)
    · have hz := Z_neg (show ¬ (n32 sign = 5) from hc) hz
      refine R_iload_n (pc := 41) 3 (dc k_S_push 24 rfl) rfl rfl ?_
      refine R_bipush (pc := 42) (a := 6) (dc k_S_push 25 rfl) (by decide) ?_
      refine R_icmp_ge (pc := 44) 70 (dc k_S_push 26 rfl) rfl (fun hc => ?_) (fun hc => ?_)
      · have hz := Z_neg (show ¬ (n32 of_ < 6) from (Int.not_lt.mpr hc)) hz
        refine R_aload_n (pc := 70) 0 (dc k_S_push 40 rfl) rfl rfl ?_
        refine R_getS (pc := 71) (ci := 4) (k := 2) 30 (dc k_S_push 41 rfl) fl_S_15 rfl (lb rfl) (Nat.le_trans (lb rfl) hn) (hE 28 (lb rfl) (lb rfl)) rfl (by decide) rfl ?_
        refine R_iload (pc := 74) 4 (dc k_S_push 42 rfl) rfl ?_
        refine R_iload (pc := 76) 5 (dc k_S_push 43 rfl) rfl ?_
        refine R_iadd (pc := 78) (dc k_S_push 44 rfl) ?_
        refine R_iload (pc := 79) 5 (dc k_S_push 45 rfl) rfl ?_
        refine R_iload_n (pc := 81) 3 (dc k_S_push 46 rfl) rfl rfl ?_
        refine R_bipush (pc := 82) (a := 6) (dc k_S_push 47 rfl) (by decide) ?_
        refine R_isub (pc := 84) (dc k_S_push 48 rfl) ?_
        refine R_cSP (pc := 85)  (As := [vI l5_1, vI (of_ - 6)]) (S := [vI (at_ + l5_1), vR 30]) ck_S_52 (dc k_S_push 49 rfl) (lb rfl) (lb rfl) (lb rfl) rfl (ct_X_hasBit hE hn (Z_bind hz)) (fun r_25 hz => ?_)
        obtain ⟨K_27, hK_28, hz⟩ := Z_cut hz
        have hJ_29 : ∀ (v_26 : Int), K_27 v_26 → Rr y_S_push (1, 21, n, n, E) (qV K) 98 [(0, vR 28), (1, vR ttown), (2, vI sign), (3, vI of_), (4, vI at_), (5, vI l5_1)] [vJ v_26, vI (at_ + l5_1), vR 30] E n M_2 := by
          intro v_26 hk
          have hz := hK_28 _ hk
          obtain ⟨⟨hg_31, hg_32⟩, hz⟩ := Z_chk hz
          obtain ⟨M_33, hM_33, hz⟩ := Z_lt hz
          refine R_lastE (pc := 98) (dc k_S_push 54 rfl) rfl (lb rfl) (Nat.le_trans (lb rfl) hn) hg_31 hg_32 hM_33 ?_
          exact hJ_13 _ (Z_some hz)
        refine R_if_eq (pc := 88) 97 (dc k_S_push 50 rfl) rfl (fun hc => ?_) (fun hc => ?_)
        · have hz := Z_neg (show ¬ (¬ n32 r_25 = 0) from (fun z => z hc)) hz
          refine R_lconst (pc := 97) (a := 0) (dc k_S_push 53 rfl) (by decide) ?_
          exact hJ_29 _ (Z_some hz)
        · have hz := Z_pos (show ¬ n32 r_25 = 0 from hc) hz
          refine R_ldc2 (pc := 91) (a := (-1)) (dc k_S_push 51 rfl) c_S_56 ?_
          refine R_goto (pc := 94) 98 (dc k_S_push 52 rfl) rfl ?_
          exact hJ_29 _ (Z_some hz)
      · have hz := Z_pos (show n32 of_ < 6 from (Int.not_le.mp hc)) hz
        refine R_aload_n (pc := 47) 0 (dc k_S_push 27 rfl) rfl rfl ?_
        refine R_getS (pc := 48) (ci := 4) (k := 2) 30 (dc k_S_push 28 rfl) fl_S_15 rfl (lb rfl) (Nat.le_trans (lb rfl) hn) (hE 28 (lb rfl) (lb rfl)) rfl (by decide) rfl ?_
        refine R_iload (pc := 51) 4 (dc k_S_push 29 rfl) rfl ?_
        refine R_iload (pc := 53) 5 (dc k_S_push 30 rfl) rfl ?_
        refine R_iadd (pc := 55) (dc k_S_push 31 rfl) ?_
        refine R_gets (pc := 56) (dc k_S_push 32 rfl) fs_S_45 ?_
        refine R_iload_n (pc := 59) 3 (dc k_S_push 33 rfl) rfl rfl ?_
        obtain ⟨⟨hg_19, hg_20⟩, hz⟩ := Z_chk hz
        refine R_tl (pc := 60) (dc k_S_push 34 rfl) hg_19 hg_20 ?_
        refine R_aload_n (pc := 61) 1 (dc k_S_push 35 rfl) rfl rfl ?_
        refine R_cVJ (pc := 62)  (As := []) (S := [vJ (fbI (Int.toNat of_)), vI (at_ + l5_1), vR 30]) ck_S_48 (dc k_S_push 36 rfl) ⟨(lT httown), ⟨_, rfl, rfl⟩, (qT1 httown), (qTn_0 hnttown)⟩ (lb rfl) (lb rfl) (lb rfl) rfl (ct_T_allOfWord hE hn httown (Z_bind hz)) (fun r_21 hz => ?_)
        refine R_land (pc := 65) (dc k_S_push 37 rfl) ?_
        obtain ⟨⟨hg_22, hg_23⟩, hz⟩ := Z_chk hz
        obtain ⟨M_24, hM_24, hz⟩ := Z_lt hz
        refine R_lastE (pc := 66) (dc k_S_push 38 rfl) rfl (lb rfl) (Nat.le_trans (lb rfl) hn) hg_22 hg_23 hM_24 ?_
        refine R_goto (pc := 67) 99 (dc k_S_push 39 rfl) rfl ?_
        exact hJ_13 _ (Z_some hz)
    · have hz := Z_pos (show n32 sign = 5 from (Decidable.not_not.mp hc)) hz
      refine R_aload_n (pc := 17) 0 (dc k_S_push 9 rfl) rfl rfl ?_
      refine R_getS (pc := 18) (ci := 4) (k := 2) 30 (dc k_S_push 10 rfl) fl_S_15 rfl (lb rfl) (Nat.le_trans (lb rfl) hn) (hE 28 (lb rfl) (lb rfl)) rfl (by decide) rfl ?_
      refine R_iload (pc := 21) 4 (dc k_S_push 11 rfl) rfl ?_
      refine R_iload (pc := 23) 5 (dc k_S_push 12 rfl) rfl ?_
      refine R_iadd (pc := 25) (dc k_S_push 13 rfl) ?_
      refine R_aload_n (pc := 26) 1 (dc k_S_push 14 rfl) rfl rfl ?_
      refine R_getS (pc := 27) (ci := 1) (k := 16) (ttown + 9) (dc k_S_push 15 rfl) fl_S_42 (lT httown) (qT1 httown) (qTn_0 hnttown) hEttown (rT_16 httown) (Nat.succ_ne_zero _) rfl ?_
      refine R_iload_n (pc := 30) 3 (dc k_S_push 16 rfl) rfl rfl ?_
      refine R_iconst (pc := 31) (a := 4) (dc k_S_push 17 rfl) ?_
      refine R_imul (pc := 32) (dc k_S_push 18 rfl) ?_
      refine R_iload (pc := 33) 5 (dc k_S_push 19 rfl) rfl ?_
      refine R_iadd (pc := 35) (dc k_S_push 20 rfl) ?_
      obtain ⟨⟨hg_14, hg_15⟩, hz⟩ := Z_chk hz
      refine R_lald (pc := 36) (dc k_S_push 21 rfl) (lT_9 httown) (Nat.le_add_left_of_le (lb rfl)) (qTn_k hnttown (lb rfl)) hg_14 hg_15 ?_
      obtain ⟨⟨hg_16, hg_17⟩, hz⟩ := Z_chk hz
      obtain ⟨M_18, hM_18, hz⟩ := Z_lt hz
      refine R_lastE (pc := 37) (dc k_S_push 22 rfl) rfl (lb rfl) (Nat.le_trans (lb rfl) hn) hg_16 hg_17 hM_18 ?_
      refine R_goto (pc := 38) 99 (dc k_S_push 23 rfl) rfl ?_
      exact hJ_13 _ (Z_some hz)

set_option maxRecDepth 20000 in
theorem ct_S_join {E : Nat → Bool} {n : Nat} (hE : ∀ c, 1 ≤ c → c ≤ 80 → E c = true) (hn : 80 ≤ n) {ttown : Nat} {sign : Int} {at_ : Int} (httown : isT ttown) {M : Mem} {K : Mem → Prop} (hz : Z (S_join ttown sign at_ M) K) : Mt y_S_join (1, 20, n, n, E) E [vR 28, vR ttown, vI sign, vI at_] M (qV K) := by
  refine Mt.of (by decide) (lb rfl) (Nat.le_refl _) rfl ?_
  rw [S_join] at hz
  have hnttown := qTn httown hn
  have hEttown := qTE httown hE
  show Rr y_S_join (1, 20, n, n, E) (qV K) 0 [(0, vR 28), (1, vR ttown), (2, vI sign), (3, vI at_)] [] E n M
  refine R_iconst (pc := 0) (a := 0) (dc k_S_join 0 rfl) ?_
  refine R_istore (pc := 1) (L' := [(4, vI 0), (0, vR 28), (1, vR ttown), (2, vI sign), (3, vI at_)]) (dc k_S_join 1 rfl) (lb rfl) rfl ?_
  obtain ⟨K_3, hK_4, hz⟩ := Z_cut hz
  have hX_5 : ∀ (M_9 : Mem), K_3 M_9 → Rr y_S_join (1, 20, n, n, E) (qV K) 111 [] [] E n M_9 := by
    intro M_9 hk
    have hz := hK_4 _ hk
    exact R_vret (pc := 111) (dc k_S_join 64 rfl) rfl rfl rfl ⟨rfl, (Z_some hz)⟩
  refine R_sub [1, 2, 3, 4, 0] rfl ?_
  refine it_R (C := fun aZ : Int × Mem => Rr y_S_join (1, 20, n, n, E) (qV K) 3 [(0, vR 28), (1, vR ttown), (2, vI sign), (3, vI at_), (4, vI aZ.1)] [] E n aZ.2) (fun aZ K_6 hC_7 hB_8 hz => ?_) FUEL (0, M) hz
  obtain ⟨l4_1, M_2⟩ := aZ
  rw [S_join_b3] at hz
  show Rr y_S_join (1, 20, n, n, E) (qV K) 3 [(0, vR 28), (1, vR ttown), (2, vI sign), (3, vI at_), (4, vI l4_1)] [] E n M_2
  refine R_iload (pc := 3) 4 (dc k_S_join 2 rfl) rfl ?_
  refine R_aload_n (pc := 5) 1 (dc k_S_join 3 rfl) rfl rfl ?_
  refine R_getI (pc := 6) (ci := 1) (k := 6) (dc k_S_join 4 rfl) fl_S_37 (lT httown) (qT1 httown) (qTn_0 hnttown) (rT_6 httown) (Or.inl rfl) ?_
  refine R_icmp_ge (pc := 9) 111 (dc k_S_join 5 rfl) rfl (fun hc => ?_) (fun hc => ?_)
  · have hz := Z_neg (show ¬ (n32 l4_1 < n32 (M_2 ttown 6)) from (Int.not_lt.mpr hc)) hz
    refine R_sub [] rfl ?_
    exact hX_5 _ (hB_8 _ (Z_some hz))
  · have hz := Z_pos (show n32 l4_1 < n32 (M_2 ttown 6) from (Int.not_le.mp hc)) hz
    refine R_aload_n (pc := 12) 0 (dc k_S_join 6 rfl) rfl rfl ?_
    refine R_getS (pc := 13) (ci := 4) (k := 2) 30 (dc k_S_join 7 rfl) fl_S_15 rfl (lb rfl) (Nat.le_trans (lb rfl) hn) (hE 28 (lb rfl) (lb rfl)) rfl (by decide) rfl ?_
    refine R_iload_n (pc := 16) 3 (dc k_S_join 8 rfl) rfl rfl ?_
    refine R_iload (pc := 17) 4 (dc k_S_join 9 rfl) rfl ?_
    refine R_iadd (pc := 19) (dc k_S_join 10 rfl) ?_
    obtain ⟨⟨hg_10, hg_11⟩, hz⟩ := Z_chk hz
    refine R_lald (pc := 20) (dc k_S_join 11 rfl) rfl (lb rfl) (Nat.le_trans (lb rfl) hn) hg_10 hg_11 ?_
    obtain ⟨l5_12, hl5_12, hz⟩ := Z_lt hz
    refine R_lstoreE (pc := 21) (L' := [(5, vJ l5_12), (0, vR 28), (1, vR ttown), (2, vI sign), (3, vI at_), (4, vI l4_1)]) (dc k_S_join 12 rfl) (lb rfl) hl5_12 rfl ?_
    refine R_aload_n (pc := 23) 1 (dc k_S_join 13 rfl) rfl rfl ?_
    refine R_getS (pc := 24) (ci := 4) (k := 2) 30 (dc k_S_join 14 rfl) fl_S_15 rfl (lb rfl) (Nat.le_trans (lb rfl) hn) (hE 28 (lb rfl) (lb rfl)) rfl (by decide) rfl ?_
    refine R_iload_n (pc := 27) 4 (dc k_S_join 15 rfl) rfl rfl ?_
    refine R_iconst (pc := 28) (a := 4) (dc k_S_join 16 rfl) ?_
    refine R_iadd (pc := 29) (dc k_S_join 17 rfl) ?_
    refine R_iload (pc := 30) 5 (dc k_S_join 18 rfl) rfl ?_
    refine R_iadd (pc := 32) (dc k_S_join 19 rfl) ?_
    obtain ⟨⟨hg_13, hg_14⟩, hz⟩ := Z_chk hz
    refine R_lald (pc := 33) (dc k_S_join 20 rfl) rfl (lb rfl) (Nat.le_trans (lb rfl) hn) hg_13 hg_14 ?_
    obtain ⟨l7_15, hl7_15, hz⟩ := Z_lt hz
    refine R_lstoreE (pc := 34) (L' := [(7, vJ l7_15), (5, vJ l5_12), (0, vR 28), (1, vR ttown), (2, vI sign), (3, vI at_), (4, vI l4_1)]) (dc k_S_join 21 rfl) (lb rfl) hl7_15 rfl ?_
    refine R_iload_n (pc := 36) 4 (dc k_S_join 22 rfl) rfl rfl ?_
    refine R_bipush (pc := 37) (a := 14) (dc k_S_join 23 rfl) (by decide) ?_
    obtain ⟨K_17, hK_18, hz⟩ := Z_cut hz
    have hJ_19 : ∀ (M_16 : Mem), K_17 M_16 → Rr y_S_join (1, 20, n, n, E) (qV K) 105 [(0, vR 28), (1, vR ttown), (2, vI sign), (3, vI at_), (4, vI l4_1)] [] E n M_16 := by
      intro M_16 hk
      have hz := hK_18 _ hk
      obtain ⟨l4_26, hl4_26, hz⟩ := Z_lt hz
      refine R_iincE (pc := 105) (L' := [(4, vI l4_26), (0, vR 28), (1, vR ttown), (2, vI sign), (3, vI at_)]) 4 (dc k_S_join 62 rfl) rfl (lb rfl) hl4_26 rfl ?_
      refine R_goto (pc := 108) 3 (dc k_S_join 63 rfl) rfl ?_
      refine R_sub [1, 2, 3, 4, 0] rfl ?_
      exact hC_7 _ (Z_some hz)
    refine R_icmp_ne (pc := 39) 59 (dc k_S_join 24 rfl) rfl (fun hc => ?_) (fun hc => ?_)
    · have hz := Z_neg (show ¬ (n32 sign = 14) from hc) hz
      refine R_iload_n (pc := 59) 4 (dc k_S_join 35 rfl) rfl rfl ?_
      refine R_bipush (pc := 60) (a := 13) (dc k_S_join 36 rfl) (by decide) ?_
      refine R_icmp_ne (pc := 62) 82 (dc k_S_join 37 rfl) rfl (fun hc => ?_) (fun hc => ?_)
      · have hz := Z_neg (show ¬ (n32 sign = 13) from hc) hz
        refine R_aload_n (pc := 82) 2 (dc k_S_join 48 rfl) rfl rfl ?_
        refine R_getS (pc := 83) (ci := 4) (k := 2) 30 (dc k_S_join 49 rfl) fl_S_15 rfl (lb rfl) (Nat.le_trans (lb rfl) hn) (hE 28 (lb rfl) (lb rfl)) rfl (by decide) rfl ?_
        refine R_iload_n (pc := 86) 5 (dc k_S_join 50 rfl) rfl rfl ?_
        refine R_iload (pc := 87) 6 (dc k_S_join 51 rfl) rfl ?_
        refine R_iadd (pc := 89) (dc k_S_join 52 rfl) ?_
        refine R_lload (pc := 90) 1 (dc k_S_join 53 rfl) rfl ?_
        refine R_lload (pc := 92) 0 (dc k_S_join 54 rfl) rfl ?_
        refine R_ldc2 (pc := 94) (a := (-1)) (dc k_S_join 55 rfl) c_S_56 ?_
        refine R_lxor (pc := 97) (dc k_S_join 56 rfl) ?_
        refine R_aload_n (pc := 98) 3 (dc k_S_join 57 rfl) rfl rfl ?_
        refine R_cVJ (pc := 99)  (As := []) (S := [vJ (jxor l7_15 (-1)), vJ l5_12, vI (at_ + l4_1), vR 30]) ck_S_48 (dc k_S_join 58 rfl) ⟨(lT httown), ⟨_, rfl, rfl⟩, (qT1 httown), (qTn_0 hnttown)⟩ (lb rfl) (lb rfl) (lb rfl) rfl (ct_T_allOfWord hE hn httown (Z_bind hz)) (fun r_22 hz => ?_)
        refine R_land (pc := 102) (dc k_S_join 59 rfl) ?_
        refine R_lor (pc := 103) (dc k_S_join 60 rfl) ?_
        obtain ⟨M_23, hM_23, hz⟩ := Z_lt hz
        refine R_lastE (pc := 104) (dc k_S_join 61 rfl) rfl (lb rfl) (Nat.le_trans (lb rfl) hn) hg_10 hg_11 hM_23 ?_
        refine R_sub [2, 3, 4, 5, 6] rfl ?_
        exact hJ_19 _ (Z_some hz)
      · have hz := Z_pos (show n32 sign = 13 from (Decidable.not_not.mp hc)) hz
        refine R_aload_n (pc := 65) 2 (dc k_S_join 38 rfl) rfl rfl ?_
        refine R_getS (pc := 66) (ci := 4) (k := 2) 30 (dc k_S_join 39 rfl) fl_S_15 rfl (lb rfl) (Nat.le_trans (lb rfl) hn) (hE 28 (lb rfl) (lb rfl)) rfl (by decide) rfl ?_
        refine R_iload_n (pc := 69) 5 (dc k_S_join 40 rfl) rfl rfl ?_
        refine R_iload (pc := 70) 6 (dc k_S_join 41 rfl) rfl ?_
        refine R_iadd (pc := 72) (dc k_S_join 42 rfl) ?_
        refine R_lload (pc := 73) 1 (dc k_S_join 43 rfl) rfl ?_
        refine R_lload (pc := 75) 0 (dc k_S_join 44 rfl) rfl ?_
        refine R_lor (pc := 77) (dc k_S_join 45 rfl) ?_
        obtain ⟨M_21, hM_21, hz⟩ := Z_lt hz
        refine R_lastE (pc := 78) (dc k_S_join 46 rfl) rfl (lb rfl) (Nat.le_trans (lb rfl) hn) hg_10 hg_11 hM_21 ?_
        refine R_goto (pc := 79) 105 (dc k_S_join 47 rfl) rfl ?_
        refine R_sub [2, 3, 4, 5, 6] rfl ?_
        exact hJ_19 _ (Z_some hz)
    · have hz := Z_pos (show n32 sign = 14 from (Decidable.not_not.mp hc)) hz
      refine R_aload_n (pc := 42) 2 (dc k_S_join 25 rfl) rfl rfl ?_
      refine R_getS (pc := 43) (ci := 4) (k := 2) 30 (dc k_S_join 26 rfl) fl_S_15 rfl (lb rfl) (Nat.le_trans (lb rfl) hn) (hE 28 (lb rfl) (lb rfl)) rfl (by decide) rfl ?_
      refine R_iload_n (pc := 46) 5 (dc k_S_join 27 rfl) rfl rfl ?_
      refine R_iload (pc := 47) 6 (dc k_S_join 28 rfl) rfl ?_
      refine R_iadd (pc := 49) (dc k_S_join 29 rfl) ?_
      refine R_lload (pc := 50) 1 (dc k_S_join 30 rfl) rfl ?_
      refine R_lload (pc := 52) 0 (dc k_S_join 31 rfl) rfl ?_
      refine R_land (pc := 54) (dc k_S_join 32 rfl) ?_
      obtain ⟨M_20, hM_20, hz⟩ := Z_lt hz
      refine R_lastE (pc := 55) (dc k_S_join 33 rfl) rfl (lb rfl) (Nat.le_trans (lb rfl) hn) hg_10 hg_11 hM_20 ?_
      refine R_goto (pc := 56) 105 (dc k_S_join 34 rfl) rfl ?_
      refine R_sub [2, 3, 4, 5, 6] rfl ?_
      exact hJ_19 _ (Z_some hz)

set_option maxRecDepth 20000 in
theorem ct_T_flip {E : Nat → Bool} {n : Nat} (hE : ∀ c, 1 ≤ c → c ≤ 80 → E c = true) (hn : 80 ≤ n) {t : Nat} {sets : Nat} {at_ : Int} (ht : isT t) {M : Mem} {K : Mem → Prop} (hz : Z (T_flip t sets at_ M) K) : Mt y_T_flip (0, 0, n, n, E) E [vR t, vR sets, vI at_] M (qV K) := by
  refine Mt.of (by decide) (lb rfl) (Nat.le_refl _) rfl ?_
  rw [T_flip] at hz
  have hnt := qTn ht hn
  have hEt := qTE ht hE
  show Rr y_T_flip (0, 0, n, n, E) (qV K) 0 [(0, vR t), (1, vR sets), (2, vI at_)] [] E n M
  refine R_iconst (pc := 0) (a := 0) (dc k_T_flip 0 rfl) ?_
  refine R_istore_n (pc := 1) (L' := [(3, vI 0), (0, vR t), (1, vR sets), (2, vI at_)]) (dc k_T_flip 1 rfl) rfl (lb rfl) rfl ?_
  obtain ⟨K_3, hK_4, hz⟩ := Z_cut hz
  have hX_5 : ∀ (M_9 : Mem), K_3 M_9 → Rr y_T_flip (0, 0, n, n, E) (qV K) 37 [] [] E n M_9 := by
    intro M_9 hk
    have hz := hK_4 _ hk
    exact R_vret (pc := 37) (dc k_T_flip 25 rfl) rfl rfl rfl ⟨rfl, (Z_some hz)⟩
  refine R_sub [1, 2, 3, 0] rfl ?_
  refine it_R (C := fun aZ : Int × Mem => Rr y_T_flip (0, 0, n, n, E) (qV K) 2 [(0, vR t), (1, vR sets), (2, vI at_), (3, vI aZ.1)] [] E n aZ.2) (fun aZ K_6 hC_7 hB_8 hz => ?_) FUEL (0, M) hz
  obtain ⟨l3_1, M_2⟩ := aZ
  rw [T_flip_b2] at hz
  show Rr y_T_flip (0, 0, n, n, E) (qV K) 2 [(0, vR t), (1, vR sets), (2, vI at_), (3, vI l3_1)] [] E n M_2
  refine R_iload_n (pc := 2) 3 (dc k_T_flip 2 rfl) rfl rfl ?_
  refine R_aload_n (pc := 3) 0 (dc k_T_flip 3 rfl) rfl rfl ?_
  refine R_getI (pc := 4) (ci := 1) (k := 6) (dc k_T_flip 4 rfl) fl_T_68 (lT ht) (qT1 ht) (qTn_0 hnt) (rT_6 ht) (Or.inl rfl) ?_
  refine R_icmp_ge (pc := 7) 37 (dc k_T_flip 5 rfl) rfl (fun hc => ?_) (fun hc => ?_)
  · have hz := Z_neg (show ¬ (n32 l3_1 < n32 (M_2 t 6)) from (Int.not_lt.mpr hc)) hz
    refine R_sub [] rfl ?_
    exact hX_5 _ (hB_8 _ (Z_some hz))
  · have hz := Z_pos (show n32 l3_1 < n32 (M_2 t 6) from (Int.not_le.mp hc)) hz
    refine R_aload_n (pc := 10) 1 (dc k_T_flip 6 rfl) rfl rfl ?_
    refine R_iload_n (pc := 11) 2 (dc k_T_flip 7 rfl) rfl rfl ?_
    refine R_iload_n (pc := 12) 3 (dc k_T_flip 8 rfl) rfl rfl ?_
    refine R_iadd (pc := 13) (dc k_T_flip 9 rfl) ?_
    refine R_aload_n (pc := 14) 1 (dc k_T_flip 10 rfl) rfl rfl ?_
    refine R_iload_n (pc := 15) 2 (dc k_T_flip 11 rfl) rfl rfl ?_
    refine R_iload_n (pc := 16) 3 (dc k_T_flip 12 rfl) rfl rfl ?_
    refine R_iadd (pc := 17) (dc k_T_flip 13 rfl) ?_
    obtain ⟨⟨hg_10, hg_11⟩, hz⟩ := Z_chk hz
    obtain ⟨hg_12, hg_13, hg_14, hg_15, hg_16⟩ := aJ_at hg_10 hg_11
    refine R_lald (pc := 18) (dc k_T_flip 14 rfl) hg_13 hg_16 (Nat.le_trans hg_15 hn) hg_10 hg_14 ?_
    refine R_ldc2 (pc := 19) (a := (-1)) (dc k_T_flip 15 rfl) c_T_122 ?_
    refine R_lxor (pc := 22) (dc k_T_flip 16 rfl) ?_
    refine R_aload_n (pc := 23) 0 (dc k_T_flip 17 rfl) rfl rfl ?_
    refine R_getS (pc := 24) (ci := 1) (k := 15) (t + 8) (dc k_T_flip 18 rfl) fl_T_33 (lT ht) (qT1 ht) (qTn_0 hnt) hEt (rT_15 ht) (Nat.succ_ne_zero _) rfl ?_
    refine R_iload_n (pc := 27) 3 (dc k_T_flip 19 rfl) rfl rfl ?_
    obtain ⟨⟨hg_17, hg_18⟩, hz⟩ := Z_chk hz
    refine R_lald (pc := 28) (dc k_T_flip 20 rfl) (lT_8 ht) (Nat.le_add_left_of_le (lb rfl)) (qTn_k hnt (lb rfl)) hg_17 hg_18 ?_
    refine R_land (pc := 29) (dc k_T_flip 21 rfl) ?_
    obtain ⟨M_19, hM_19, hz⟩ := Z_lt hz
    refine R_lastE (pc := 30) (dc k_T_flip 22 rfl) hg_13 hg_16 (Nat.le_trans hg_15 hn) hg_10 hg_14 hM_19 ?_
    obtain ⟨l3_20, hl3_20, hz⟩ := Z_lt hz
    refine R_iincE (pc := 31) (L' := [(3, vI l3_20), (0, vR t), (1, vR sets), (2, vI at_)]) 3 (dc k_T_flip 23 rfl) rfl (lb rfl) hl3_20 rfl ?_
    refine R_goto (pc := 34) 2 (dc k_T_flip 24 rfl) rfl ?_
    refine R_sub [1, 2, 3, 0] rfl ?_
    exact hC_7 _ (Z_some hz)

set_option maxRecDepth 20000 in
theorem ct_T_keepBase {E : Nat → Bool} {n : Nat} (hE : ∀ c, 1 ≤ c → c ≤ 80 → E c = true) (hn : 80 ≤ n) {t : Nat} {sets : Nat} {at_ : Int} (ht : isT t) {M : Mem} {K : Mem → Prop} (hz : Z (T_keepBase t sets at_ M) K) : Mt y_T_keepBase (0, 0, n, n, E) E [vR t, vR sets, vI at_] M (qV K) := by
  refine Mt.of (by decide) (lb rfl) (Nat.le_refl _) rfl ?_
  rw [T_keepBase] at hz
  have hnt := qTn ht hn
  have hEt := qTE ht hE
  show Rr y_T_keepBase (0, 0, n, n, E) (qV K) 0 [(0, vR t), (1, vR sets), (2, vI at_)] [] E n M
  refine R_iconst (pc := 0) (a := 0) (dc k_T_keepBase 0 rfl) ?_
  refine R_istore_n (pc := 1) (L' := [(3, vI 0), (0, vR t), (1, vR sets), (2, vI at_)]) (dc k_T_keepBase 1 rfl) rfl (lb rfl) rfl ?_
  obtain ⟨K_3, hK_4, hz⟩ := Z_cut hz
  have hX_5 : ∀ (M_9 : Mem), K_3 M_9 → Rr y_T_keepBase (0, 0, n, n, E) (qV K) 30 [] [] E n M_9 := by
    intro M_9 hk
    have hz := hK_4 _ hk
    exact R_vret (pc := 30) (dc k_T_keepBase 20 rfl) rfl rfl rfl ⟨rfl, (Z_some hz)⟩
  refine R_sub [1, 2, 3, 0] rfl ?_
  refine it_R (C := fun aZ : Int × Mem => Rr y_T_keepBase (0, 0, n, n, E) (qV K) 2 [(0, vR t), (1, vR sets), (2, vI at_), (3, vI aZ.1)] [] E n aZ.2) (fun aZ K_6 hC_7 hB_8 hz => ?_) FUEL (0, M) hz
  obtain ⟨l3_1, M_2⟩ := aZ
  rw [T_keepBase_b2] at hz
  show Rr y_T_keepBase (0, 0, n, n, E) (qV K) 2 [(0, vR t), (1, vR sets), (2, vI at_), (3, vI l3_1)] [] E n M_2
  refine R_iload_n (pc := 2) 3 (dc k_T_keepBase 2 rfl) rfl rfl ?_
  refine R_aload_n (pc := 3) 0 (dc k_T_keepBase 3 rfl) rfl rfl ?_
  refine R_getI (pc := 4) (ci := 1) (k := 6) (dc k_T_keepBase 4 rfl) fl_T_68 (lT ht) (qT1 ht) (qTn_0 hnt) (rT_6 ht) (Or.inl rfl) ?_
  refine R_icmp_ge (pc := 7) 30 (dc k_T_keepBase 5 rfl) rfl (fun hc => ?_) (fun hc => ?_)
  · have hz := Z_neg (show ¬ (n32 l3_1 < n32 (M_2 t 6)) from (Int.not_lt.mpr hc)) hz
    refine R_sub [] rfl ?_
    exact hX_5 _ (hB_8 _ (Z_some hz))
  · have hz := Z_pos (show n32 l3_1 < n32 (M_2 t 6) from (Int.not_le.mp hc)) hz
    refine R_aload_n (pc := 10) 1 (dc k_T_keepBase 6 rfl) rfl rfl ?_
    refine R_iload_n (pc := 11) 2 (dc k_T_keepBase 7 rfl) rfl rfl ?_
    refine R_iload_n (pc := 12) 3 (dc k_T_keepBase 8 rfl) rfl rfl ?_
    refine R_iadd (pc := 13) (dc k_T_keepBase 9 rfl) ?_
    refine R_dup2 (pc := 14) (dc k_T_keepBase 10 rfl) rfl rfl ?_
    obtain ⟨⟨hg_10, hg_11⟩, hz⟩ := Z_chk hz
    obtain ⟨hg_12, hg_13, hg_14, hg_15, hg_16⟩ := aJ_at hg_10 hg_11
    refine R_lald (pc := 15) (dc k_T_keepBase 11 rfl) hg_13 hg_16 (Nat.le_trans hg_15 hn) hg_10 hg_14 ?_
    refine R_aload_n (pc := 16) 0 (dc k_T_keepBase 12 rfl) rfl rfl ?_
    refine R_getS (pc := 17) (ci := 1) (k := 15) (t + 8) (dc k_T_keepBase 13 rfl) fl_T_33 (lT ht) (qT1 ht) (qTn_0 hnt) hEt (rT_15 ht) (Nat.succ_ne_zero _) rfl ?_
    refine R_iload_n (pc := 20) 3 (dc k_T_keepBase 14 rfl) rfl rfl ?_
    obtain ⟨⟨hg_17, hg_18⟩, hz⟩ := Z_chk hz
    refine R_lald (pc := 21) (dc k_T_keepBase 15 rfl) (lT_8 ht) (Nat.le_add_left_of_le (lb rfl)) (qTn_k hnt (lb rfl)) hg_17 hg_18 ?_
    refine R_land (pc := 22) (dc k_T_keepBase 16 rfl) ?_
    obtain ⟨M_19, hM_19, hz⟩ := Z_lt hz
    refine R_lastE (pc := 23) (dc k_T_keepBase 17 rfl) hg_13 hg_16 (Nat.le_trans hg_15 hn) hg_10 hg_14 hM_19 ?_
    obtain ⟨l3_20, hl3_20, hz⟩ := Z_lt hz
    refine R_iincE (pc := 24) (L' := [(3, vI l3_20), (0, vR t), (1, vR sets), (2, vI at_)]) 3 (dc k_T_keepBase 18 rfl) rfl (lb rfl) hl3_20 rfl ?_
    refine R_goto (pc := 27) 2 (dc k_T_keepBase 19 rfl) rfl ?_
    refine R_sub [1, 2, 3, 0] rfl ?_
    exact hC_7 _ (Z_some hz)

set_option maxRecDepth 20000 in
theorem ct_T_forget {E : Nat → Bool} {n : Nat} (hE : ∀ c, 1 ≤ c → c ≤ 80 → E c = true) (hn : 80 ≤ n) {t : Nat} {sets : Nat} {at_ : Int} {fact : Int} (ht : isT t) {M : Mem} {K : Mem → Prop} (hz : Z (T_forget t sets at_ fact M) K) : Mt y_T_forget (0, 0, n, n, E) E [vR t, vR sets, vI at_, vI fact] M (qV K) := by
  refine Mt.of (by decide) (lb rfl) (Nat.le_refl _) rfl ?_
  rw [T_forget] at hz
  have hnt := qTn ht hn
  have hEt := qTE ht hE
  show Rr y_T_forget (0, 0, n, n, E) (qV K) 0 [(0, vR t), (1, vR sets), (2, vI at_), (3, vI fact)] [] E n M
  refine R_iload_n (pc := 0) 3 (dc k_T_forget 0 rfl) rfl rfl ?_
  refine R_bipush (pc := 1) (a := 6) (dc k_T_forget 1 rfl) (by decide) ?_
  refine R_icmp_ge (pc := 3) 73 (dc k_T_forget 2 rfl) rfl (fun hc => ?_) (fun hc => ?_)
  · have hz := Z_neg (show ¬ (n32 fact < 6) from (Int.not_lt.mpr hc)) hz
    refine R_iconst (pc := 73) (a := 1) (dc k_T_forget 44 rfl) ?_
    refine R_iload_n (pc := 74) 3 (dc k_T_forget 45 rfl) rfl rfl ?_
    refine R_bipush (pc := 75) (a := 6) (dc k_T_forget 46 rfl) (by decide) ?_
    refine R_isub (pc := 77) (dc k_T_forget 47 rfl) ?_
    refine R_ishl (pc := 78) (dc k_T_forget 48 rfl) ?_
    obtain ⟨l4_25, hl4_25, hz⟩ := Z_lt hz
    refine R_istoreE (pc := 79) (L' := [(4, vI l4_25), (0, vR t), (1, vR sets), (2, vI at_), (3, vI fact)]) (dc k_T_forget 49 rfl) (lb rfl) hl4_25 rfl ?_
    refine R_iconst (pc := 81) (a := 0) (dc k_T_forget 50 rfl) ?_
    refine R_istore (pc := 82) (L' := [(5, vI 0), (4, vI l4_25), (0, vR t), (1, vR sets), (2, vI at_), (3, vI fact)]) (dc k_T_forget 51 rfl) (lb rfl) rfl ?_
    obtain ⟨K_28, hK_29, hz⟩ := Z_cut hz
    have hX_30 : ∀ (M_34 : Mem), K_28 M_34 → Rr y_T_forget (0, 0, n, n, E) (qV K) 147 [] [] E n M_34 := by
      intro M_34 hk
      have hz := hK_29 _ hk
      exact R_vret (pc := 147) (dc k_T_forget 92 rfl) rfl rfl rfl ⟨rfl, (Z_some hz)⟩
    refine R_sub [2, 3, 4, 1, 0] rfl ?_
    refine it_R (C := fun aZ : Int × Mem => Rr y_T_forget (0, 0, n, n, E) (qV K) 84 [(0, vR t), (1, vR sets), (2, vI at_), (4, vI l4_25), (5, vI aZ.1)] [] E n aZ.2) (fun aZ K_31 hC_32 hB_33 hz => ?_) FUEL (0, M) hz
    obtain ⟨l5_26, M_27⟩ := aZ
    rw [T_forget_b84] at hz
    show Rr y_T_forget (0, 0, n, n, E) (qV K) 84 [(0, vR t), (1, vR sets), (2, vI at_), (4, vI l4_25), (5, vI l5_26)] [] E n M_27
    refine R_iload (pc := 84) 4 (dc k_T_forget 52 rfl) rfl ?_
    refine R_iload (pc := 86) 3 (dc k_T_forget 53 rfl) rfl ?_
    refine R_iadd (pc := 88) (dc k_T_forget 54 rfl) ?_
    refine R_aload_n (pc := 89) 0 (dc k_T_forget 55 rfl) rfl rfl ?_
    refine R_getI (pc := 90) (ci := 1) (k := 6) (dc k_T_forget 56 rfl) fl_T_68 (lT ht) (qT1 ht) (qTn_0 hnt) (rT_6 ht) (Or.inl rfl) ?_
    refine R_icmp_ge (pc := 93) 147 (dc k_T_forget 57 rfl) rfl (fun hc => ?_) (fun hc => ?_)
    · have hz := Z_neg (show ¬ (n32 (l5_26 + l4_25) < n32 (M_27 t 6)) from (Int.not_lt.mpr hc)) hz
      refine R_sub [] rfl ?_
      exact hX_30 _ (hB_33 _ (Z_some hz))
    · have hz := Z_pos (show n32 (l5_26 + l4_25) < n32 (M_27 t 6) from (Int.not_le.mp hc)) hz
      refine R_iload (pc := 96) 4 (dc k_T_forget 58 rfl) rfl ?_
      refine R_iload (pc := 98) 3 (dc k_T_forget 59 rfl) rfl ?_
      refine R_iand (pc := 100) (dc k_T_forget 60 rfl) ?_
      obtain ⟨K_36, hK_37, hz⟩ := Z_cut hz
      have hJ_38 : ∀ (M_35 : Mem), K_36 M_35 → Rr y_T_forget (0, 0, n, n, E) (qV K) 141 [(0, vR t), (1, vR sets), (2, vI at_), (4, vI l4_25), (5, vI l5_26)] [] E n M_35 := by
        intro M_35 hk
        have hz := hK_37 _ hk
        obtain ⟨l5_57, hl5_57, hz⟩ := Z_lt hz
        refine R_iincE (pc := 141) (L' := [(5, vI l5_57), (0, vR t), (1, vR sets), (2, vI at_), (4, vI l4_25)]) 4 (dc k_T_forget 90 rfl) rfl (lb rfl) hl5_57 rfl ?_
        refine R_goto (pc := 144) 84 (dc k_T_forget 91 rfl) rfl ?_
        refine R_sub [1, 2, 3, 4, 0] rfl ?_
        exact hC_32 _ (Z_some hz)
      refine R_if_ne (pc := 101) 141 (dc k_T_forget 61 rfl) rfl (fun hc => ?_) (fun hc => ?_)
      · have hz := Z_neg (show ¬ (n32 (iand l5_26 l4_25) = 0) from hc) hz
        exact hJ_38 _ (Z_some hz)
      · have hz := Z_pos (show n32 (iand l5_26 l4_25) = 0 from (Decidable.not_not.mp hc)) hz
        refine R_aload_n (pc := 104) 1 (dc k_T_forget 62 rfl) rfl rfl ?_
        refine R_iload_n (pc := 105) 2 (dc k_T_forget 63 rfl) rfl rfl ?_
        refine R_iload (pc := 106) 4 (dc k_T_forget 64 rfl) rfl ?_
        refine R_iadd (pc := 108) (dc k_T_forget 65 rfl) ?_
        obtain ⟨⟨hg_39, hg_40⟩, hz⟩ := Z_chk hz
        obtain ⟨hg_41, hg_42, hg_43, hg_44, hg_45⟩ := aJ_at hg_39 hg_40
        refine R_lald (pc := 109) (dc k_T_forget 66 rfl) hg_42 hg_45 (Nat.le_trans hg_44 hn) hg_39 hg_43 ?_
        refine R_aload_n (pc := 110) 1 (dc k_T_forget 67 rfl) rfl rfl ?_
        refine R_iload_n (pc := 111) 2 (dc k_T_forget 68 rfl) rfl rfl ?_
        refine R_iload (pc := 112) 4 (dc k_T_forget 69 rfl) rfl ?_
        refine R_iadd (pc := 114) (dc k_T_forget 70 rfl) ?_
        refine R_iload (pc := 115) 3 (dc k_T_forget 71 rfl) rfl ?_
        refine R_iadd (pc := 117) (dc k_T_forget 72 rfl) ?_
        obtain ⟨⟨hg_46, hg_47⟩, hz⟩ := Z_chk hz
        obtain ⟨hg_48, hg_49, hg_50, hg_51, hg_52⟩ := aJ_at hg_46 hg_47
        refine R_lald (pc := 118) (dc k_T_forget 73 rfl) hg_49 hg_52 (Nat.le_trans hg_51 hn) hg_46 hg_50 ?_
        refine R_lor (pc := 119) (dc k_T_forget 74 rfl) ?_
        obtain ⟨l6_53, hl6_53, hz⟩ := Z_lt hz
        refine R_lstoreE (pc := 120) (L' := [(6, vJ l6_53), (0, vR t), (1, vR sets), (2, vI at_), (4, vI l4_25), (5, vI l5_26)]) (dc k_T_forget 75 rfl) (lb rfl) hl6_53 rfl ?_
        refine R_aload_n (pc := 122) 2 (dc k_T_forget 76 rfl) rfl rfl ?_
        refine R_iload_n (pc := 123) 3 (dc k_T_forget 77 rfl) rfl rfl ?_
        refine R_iload (pc := 124) 5 (dc k_T_forget 78 rfl) rfl ?_
        refine R_iadd (pc := 126) (dc k_T_forget 79 rfl) ?_
        refine R_lload (pc := 127) 0 (dc k_T_forget 80 rfl) rfl ?_
        obtain ⟨M_54, hM_54, hz⟩ := Z_lt hz
        refine R_lastE (pc := 129) (dc k_T_forget 81 rfl) hg_42 hg_45 (Nat.le_trans hg_44 hn) hg_39 hg_43 hM_54 ?_
        refine R_aload_n (pc := 130) 2 (dc k_T_forget 82 rfl) rfl rfl ?_
        refine R_iload_n (pc := 131) 3 (dc k_T_forget 83 rfl) rfl rfl ?_
        refine R_iload (pc := 132) 5 (dc k_T_forget 84 rfl) rfl ?_
        refine R_iadd (pc := 134) (dc k_T_forget 85 rfl) ?_
        refine R_iload (pc := 135) 4 (dc k_T_forget 86 rfl) rfl ?_
        refine R_iadd (pc := 137) (dc k_T_forget 87 rfl) ?_
        refine R_lload (pc := 138) 0 (dc k_T_forget 88 rfl) rfl ?_
        obtain ⟨M_55, hM_55, hz⟩ := Z_lt hz
        refine R_lastE (pc := 140) (dc k_T_forget 89 rfl) hg_49 hg_52 (Nat.le_trans hg_51 hn) hg_46 hg_50 hM_55 ?_
        refine R_sub [1, 2, 3, 4, 5] rfl ?_
        exact hJ_38 _ (Z_some hz)
  · have hz := Z_pos (show n32 fact < 6 from (Int.not_le.mp hc)) hz
    refine R_iconst (pc := 6) (a := 1) (dc k_T_forget 3 rfl) ?_
    refine R_iload_n (pc := 7) 3 (dc k_T_forget 4 rfl) rfl rfl ?_
    refine R_ishl (pc := 8) (dc k_T_forget 5 rfl) ?_
    obtain ⟨l4_1, hl4_1, hz⟩ := Z_lt hz
    refine R_istoreE (pc := 9) (L' := [(4, vI l4_1), (0, vR t), (1, vR sets), (2, vI at_), (3, vI fact)]) (dc k_T_forget 6 rfl) (lb rfl) hl4_1 rfl ?_
    refine R_gets (pc := 11) (dc k_T_forget 7 rfl) fs_T_149 ?_
    refine R_iload_n (pc := 14) 4 (dc k_T_forget 8 rfl) rfl rfl ?_
    obtain ⟨⟨hg_2, hg_3⟩, hz⟩ := Z_chk hz
    refine R_tl (pc := 15) (dc k_T_forget 9 rfl) hg_2 hg_3 ?_
    obtain ⟨l5_4, hl5_4, hz⟩ := Z_lt hz
    refine R_lstoreE (pc := 16) (L' := [(5, vJ l5_4), (4, vI l4_1), (0, vR t), (1, vR sets), (2, vI at_), (3, vI fact)]) (dc k_T_forget 10 rfl) (lb rfl) hl5_4 rfl ?_
    refine R_iload_n (pc := 18) 4 (dc k_T_forget 11 rfl) rfl rfl ?_
    refine R_istore (pc := 19) (L' := [(7, vI at_), (5, vJ l5_4), (4, vI l4_1), (0, vR t), (1, vR sets), (2, vI at_), (3, vI fact)]) (dc k_T_forget 12 rfl) (lb rfl) rfl ?_
    obtain ⟨K_7, hK_8, hz⟩ := Z_cut hz
    have hX_9 : ∀ (M_13 : Mem), K_7 M_13 → Rr y_T_forget (0, 0, n, n, E) (qV K) 72 [] [] E n M_13 := by
      intro M_13 hk
      have hz := hK_8 _ hk
      exact R_vret (pc := 72) (dc k_T_forget 43 rfl) rfl rfl rfl ⟨rfl, (Z_some hz)⟩
    refine R_sub [3, 4, 5, 2, 1, 0] rfl ?_
    refine it_R (C := fun aZ : Int × Mem => Rr y_T_forget (0, 0, n, n, E) (qV K) 21 [(0, vR t), (1, vR sets), (2, vI at_), (4, vI l4_1), (5, vJ l5_4), (7, vI aZ.1)] [] E n aZ.2) (fun aZ K_10 hC_11 hB_12 hz => ?_) FUEL (at_, M) hz
    obtain ⟨l7_5, M_6⟩ := aZ
    rw [T_forget_b21] at hz
    show Rr y_T_forget (0, 0, n, n, E) (qV K) 21 [(0, vR t), (1, vR sets), (2, vI at_), (4, vI l4_1), (5, vJ l5_4), (7, vI l7_5)] [] E n M_6
    refine R_iload (pc := 21) 5 (dc k_T_forget 13 rfl) rfl ?_
    refine R_iload_n (pc := 23) 2 (dc k_T_forget 14 rfl) rfl rfl ?_
    refine R_aload_n (pc := 24) 0 (dc k_T_forget 15 rfl) rfl rfl ?_
    refine R_getI (pc := 25) (ci := 1) (k := 6) (dc k_T_forget 16 rfl) fl_T_68 (lT ht) (qT1 ht) (qTn_0 hnt) (rT_6 ht) (Or.inl rfl) ?_
    refine R_iadd (pc := 28) (dc k_T_forget 17 rfl) ?_
    refine R_icmp_ge (pc := 29) 72 (dc k_T_forget 18 rfl) rfl (fun hc => ?_) (fun hc => ?_)
    · have hz := Z_neg (show ¬ (n32 l7_5 < n32 (at_ + (M_6 t 6))) from (Int.not_lt.mpr hc)) hz
      refine R_sub [] rfl ?_
      exact hX_9 _ (hB_12 _ (Z_some hz))
    · have hz := Z_pos (show n32 l7_5 < n32 (at_ + (M_6 t 6)) from (Int.not_le.mp hc)) hz
      refine R_aload_n (pc := 32) 1 (dc k_T_forget 19 rfl) rfl rfl ?_
      refine R_iload (pc := 33) 5 (dc k_T_forget 20 rfl) rfl ?_
      obtain ⟨⟨hg_14, hg_15⟩, hz⟩ := Z_chk hz
      obtain ⟨hg_16, hg_17, hg_18, hg_19, hg_20⟩ := aJ_at hg_14 hg_15
      refine R_lald (pc := 35) (dc k_T_forget 21 rfl) hg_17 hg_20 (Nat.le_trans hg_19 hn) hg_14 hg_18 ?_
      obtain ⟨l8_21, hl8_21, hz⟩ := Z_lt hz
      refine R_lstoreE (pc := 36) (L' := [(8, vJ l8_21), (0, vR t), (1, vR sets), (2, vI at_), (4, vI l4_1), (5, vJ l5_4), (7, vI l7_5)]) (dc k_T_forget 22 rfl) (lb rfl) hl8_21 rfl ?_
      refine R_aload_n (pc := 38) 2 (dc k_T_forget 23 rfl) rfl rfl ?_
      refine R_iload (pc := 39) 6 (dc k_T_forget 24 rfl) rfl ?_
      refine R_lload (pc := 41) 0 (dc k_T_forget 25 rfl) rfl ?_
      refine R_lload (pc := 43) 0 (dc k_T_forget 26 rfl) rfl ?_
      refine R_lload (pc := 45) 5 (dc k_T_forget 27 rfl) rfl ?_
      refine R_land (pc := 47) (dc k_T_forget 28 rfl) ?_
      refine R_iload (pc := 48) 4 (dc k_T_forget 29 rfl) rfl ?_
      refine R_lushr (pc := 50) (dc k_T_forget 30 rfl) ?_
      refine R_lor (pc := 51) (dc k_T_forget 31 rfl) ?_
      refine R_lload (pc := 52) 0 (dc k_T_forget 32 rfl) rfl ?_
      refine R_lload (pc := 54) 5 (dc k_T_forget 33 rfl) rfl ?_
      refine R_ldc2 (pc := 56) (a := (-1)) (dc k_T_forget 34 rfl) c_T_122 ?_
      refine R_lxor (pc := 59) (dc k_T_forget 35 rfl) ?_
      refine R_land (pc := 60) (dc k_T_forget 36 rfl) ?_
      refine R_iload (pc := 61) 4 (dc k_T_forget 37 rfl) rfl ?_
      refine R_lshl (pc := 63) (dc k_T_forget 38 rfl) ?_
      refine R_lor (pc := 64) (dc k_T_forget 39 rfl) ?_
      obtain ⟨M_22, hM_22, hz⟩ := Z_lt hz
      refine R_lastE (pc := 65) (dc k_T_forget 40 rfl) hg_17 hg_20 (Nat.le_trans hg_19 hn) hg_14 hg_18 hM_22 ?_
      obtain ⟨l7_23, hl7_23, hz⟩ := Z_lt hz
      refine R_iincE (pc := 66) (L' := [(7, vI l7_23), (8, vJ l8_21), (0, vR t), (1, vR sets), (2, vI at_), (4, vI l4_1), (5, vJ l5_4)]) 6 (dc k_T_forget 41 rfl) rfl (lb rfl) hl7_23 rfl ?_
      refine R_goto (pc := 69) 21 (dc k_T_forget 42 rfl) rfl ?_
      refine R_sub [2, 3, 4, 5, 6, 0] rfl ?_
      exact hC_11 _ (Z_some hz)

set_option maxRecDepth 20000 in
theorem ct_T_widen {E : Nat → Bool} {n : Nat} (hE : ∀ c, 1 ≤ c → c ≤ 80 → E c = true) (hn : 80 ≤ n) {t : Nat} {sets : Nat} {at_ : Int} {person : Int} (ht : isT t) {M : Mem} {K : Mem → Prop} (hz : Z (T_widen t sets at_ person M) K) : Mt y_T_widen (1, 29, n, n, E) E [vR t, vR sets, vI at_, vI person] M (qV K) := by
  refine Mt.of (by decide) (lb rfl) (Nat.le_refl _) rfl ?_
  rw [T_widen] at hz
  have hnt := qTn ht hn
  have hEt := qTE ht hE
  show Rr y_T_widen (1, 29, n, n, E) (qV K) 0 [(0, vR t), (1, vR sets), (2, vI at_), (3, vI person)] [] E n M
  refine R_aload_n (pc := 0) 0 (dc k_T_widen 0 rfl) rfl rfl ?_
  refine R_aload_n (pc := 1) 1 (dc k_T_widen 1 rfl) rfl rfl ?_
  refine R_iload_n (pc := 2) 2 (dc k_T_widen 2 rfl) rfl rfl ?_
  refine R_cVV (pc := 3)  (As := [vR sets, vI at_]) (S := []) ck_T_141 (dc k_T_widen 3 rfl) ⟨(lT ht), ⟨_, rfl, rfl⟩, (qT1 ht), (qTn_0 hnt)⟩ (lb rfl) (lb rfl) (lb rfl) rfl (ct_T_keepBase hE hn ht (Z_bind hz)) (fun M_1 hz => ?_)
  refine R_iconst (pc := 6) (a := 0) (dc k_T_widen 4 rfl) ?_
  refine R_istore (pc := 7) (L' := [(4, vI 0), (0, vR t), (1, vR sets), (2, vI at_), (3, vI person)]) (dc k_T_widen 5 rfl) (lb rfl) rfl ?_
  obtain ⟨K_4, hK_5, hz⟩ := Z_cut hz
  have hX_6 : ∀ (M_10 : Mem), K_4 M_10 → Rr y_T_widen (1, 29, n, n, E) (qV K) 46 [(0, vR t), (1, vR sets), (2, vI at_)] [] E n M_10 := by
    intro M_10 hk
    have hz := hK_5 _ hk
    refine R_aload_n (pc := 46) 0 (dc k_T_widen 24 rfl) rfl rfl ?_
    refine R_aload_n (pc := 47) 1 (dc k_T_widen 25 rfl) rfl rfl ?_
    refine R_iload_n (pc := 48) 2 (dc k_T_widen 26 rfl) rfl rfl ?_
    refine R_cVV (pc := 49)  (As := [vR sets, vI at_]) (S := []) ck_T_141 (dc k_T_widen 27 rfl) ⟨(lT ht), ⟨_, rfl, rfl⟩, (qT1 ht), (qTn_0 hnt)⟩ (lb rfl) (lb rfl) (lb rfl) rfl (ct_T_keepBase hE hn ht (Z_bind hz)) (fun M_22 hz => ?_)
    exact R_vret (pc := 52) (dc k_T_widen 28 rfl) rfl rfl rfl ⟨rfl, (Z_some hz)⟩
  refine R_sub [1, 2, 3, 4, 0] rfl ?_
  refine it_R (C := fun aZ : Int × Mem => Rr y_T_widen (1, 29, n, n, E) (qV K) 9 [(0, vR t), (1, vR sets), (2, vI at_), (3, vI person), (4, vI aZ.1)] [] E n aZ.2) (fun aZ K_7 hC_8 hB_9 hz => ?_) FUEL (0, M_1) hz
  obtain ⟨l4_2, M_3⟩ := aZ
  rw [T_widen_b9] at hz
  show Rr y_T_widen (1, 29, n, n, E) (qV K) 9 [(0, vR t), (1, vR sets), (2, vI at_), (3, vI person), (4, vI l4_2)] [] E n M_3
  refine R_iload (pc := 9) 4 (dc k_T_widen 6 rfl) rfl ?_
  refine R_aload_n (pc := 11) 0 (dc k_T_widen 7 rfl) rfl rfl ?_
  refine R_getI (pc := 12) (ci := 1) (k := 0) (dc k_T_widen 8 rfl) fl_T_49 (lT ht) (qT1 ht) (qTn_0 hnt) (rT_0 ht) (Or.inl rfl) ?_
  refine R_icmp_ge (pc := 15) 46 (dc k_T_widen 9 rfl) rfl (fun hc => ?_) (fun hc => ?_)
  · have hz := Z_neg (show ¬ (n32 l4_2 < n32 (M_3 t 0)) from (Int.not_lt.mpr hc)) hz
    refine R_sub [0, 1, 2] rfl ?_
    exact hX_6 _ (hB_9 _ (Z_some hz))
  · have hz := Z_pos (show n32 l4_2 < n32 (M_3 t 0) from (Int.not_le.mp hc)) hz
    refine R_aload_n (pc := 18) 0 (dc k_T_widen 10 rfl) rfl rfl ?_
    refine R_getS (pc := 19) (ci := 1) (k := 9) (t + 2) (dc k_T_widen 11 rfl) fl_T_15 (lT ht) (qT1 ht) (qTn_0 hnt) hEt (rT_9 ht) (Nat.succ_ne_zero _) rfl ?_
    refine R_iload_n (pc := 22) 3 (dc k_T_widen 12 rfl) rfl rfl ?_
    obtain ⟨⟨hg_11, hg_12⟩, hz⟩ := Z_chk hz
    refine R_iald (pc := 23) (dc k_T_widen 13 rfl) (lT_2 ht) (Nat.le_add_left_of_le (lb rfl)) (qTn_k hnt (lb rfl)) hg_11 hg_12 ?_
    refine R_iload (pc := 24) 4 (dc k_T_widen 14 rfl) rfl ?_
    refine R_cSP (pc := 26)  (As := [vI (M_3 (t + 2) (Int.toNat person)), vI l4_2]) (S := []) ck_T_94 (dc k_T_widen 15 rfl) (lb rfl) (lb rfl) (lb rfl) rfl (ct_X_hasBit hE hn (Z_bind hz)) (fun r_13 hz => ?_)
    obtain ⟨K_15, hK_16, hz⟩ := Z_cut hz
    have hJ_17 : ∀ (M_14 : Mem), K_15 M_14 → Rr y_T_widen (1, 29, n, n, E) (qV K) 40 [(0, vR t), (1, vR sets), (2, vI at_), (3, vI person), (4, vI l4_2)] [] E n M_14 := by
      intro M_14 hk
      have hz := hK_16 _ hk
      obtain ⟨l4_20, hl4_20, hz⟩ := Z_lt hz
      refine R_iincE (pc := 40) (L' := [(4, vI l4_20), (0, vR t), (1, vR sets), (2, vI at_), (3, vI person)]) 4 (dc k_T_widen 22 rfl) rfl (lb rfl) hl4_20 rfl ?_
      refine R_goto (pc := 43) 9 (dc k_T_widen 23 rfl) rfl ?_
      refine R_sub [1, 2, 3, 4, 0] rfl ?_
      exact hC_8 _ (Z_some hz)
    refine R_if_ne (pc := 29) 40 (dc k_T_widen 16 rfl) rfl (fun hc => ?_) (fun hc => ?_)
    · have hz := Z_neg (show ¬ (n32 r_13 = 0) from hc) hz
      exact hJ_17 _ (Z_some hz)
    · have hz := Z_pos (show n32 r_13 = 0 from (Decidable.not_not.mp hc)) hz
      refine R_aload_n (pc := 32) 0 (dc k_T_widen 17 rfl) rfl rfl ?_
      refine R_aload_n (pc := 33) 1 (dc k_T_widen 18 rfl) rfl rfl ?_
      refine R_iload_n (pc := 34) 2 (dc k_T_widen 19 rfl) rfl rfl ?_
      refine R_iload (pc := 35) 4 (dc k_T_widen 20 rfl) rfl ?_
      refine R_cVV (pc := 37)  (As := [vR sets, vI at_, vI l4_2]) (S := []) ck_T_145 (dc k_T_widen 21 rfl) ⟨(lT ht), ⟨_, rfl, rfl⟩, (qT1 ht), (qTn_0 hnt)⟩ (lb rfl) (lb rfl) (lb rfl) rfl (ct_T_forget hE hn ht (Z_bind hz)) (fun M_18 hz => ?_)
      exact hJ_17 _ (Z_some hz)

set_option maxRecDepth 20000 in
theorem ct_T_keepHeld {E : Nat → Bool} {n : Nat} (hE : ∀ c, 1 ≤ c → c ≤ 80 → E c = true) (hn : 80 ≤ n) {t : Nat} {sets : Nat} {at_ : Int} {person : Int} (ht : isT t) {M : Mem} {K : Mem → Prop} (hz : Z (T_keepHeld t sets at_ person M) K) : Mt y_T_keepHeld (2, 53, n, n, E) E [vR t, vR sets, vI at_, vI person] M (qV K) := by
  refine Mt.of (by decide) (lb rfl) (Nat.le_refl _) rfl ?_
  rw [T_keepHeld] at hz
  have hnt := qTn ht hn
  have hEt := qTE ht hE
  show Rr y_T_keepHeld (2, 53, n, n, E) (qV K) 0 [(0, vR t), (1, vR sets), (2, vI at_), (3, vI person)] [] E n M
  refine R_aload_n (pc := 0) 0 (dc k_T_keepHeld 0 rfl) rfl rfl ?_
  refine R_aload_n (pc := 1) 1 (dc k_T_keepHeld 1 rfl) rfl rfl ?_
  refine R_iload_n (pc := 2) 2 (dc k_T_keepHeld 2 rfl) rfl rfl ?_
  refine R_cVV (pc := 3)  (As := [vR sets, vI at_]) (S := []) ck_T_152 (dc k_T_keepHeld 3 rfl) ⟨(lT ht), ⟨_, rfl, rfl⟩, (qT1 ht), (qTn_0 hnt)⟩ (lb rfl) (lb rfl) (lb rfl) rfl (ct_T_flip hE hn ht (Z_bind hz)) (fun M_1 hz => ?_)
  refine R_aload_n (pc := 6) 0 (dc k_T_keepHeld 4 rfl) rfl rfl ?_
  refine R_aload_n (pc := 7) 1 (dc k_T_keepHeld 5 rfl) rfl rfl ?_
  refine R_iload_n (pc := 8) 2 (dc k_T_keepHeld 6 rfl) rfl rfl ?_
  refine R_iload_n (pc := 9) 3 (dc k_T_keepHeld 7 rfl) rfl rfl ?_
  refine R_cVV (pc := 10)  (As := [vR sets, vI at_, vI person]) (S := []) ck_T_155 (dc k_T_keepHeld 8 rfl) ⟨(lT ht), ⟨_, rfl, rfl⟩, (qT1 ht), (qTn_0 hnt)⟩ (lb rfl) (lb rfl) (lb rfl) rfl (ct_T_widen hE hn ht (Z_bind hz)) (fun M_2 hz => ?_)
  refine R_aload_n (pc := 13) 0 (dc k_T_keepHeld 9 rfl) rfl rfl ?_
  refine R_aload_n (pc := 14) 1 (dc k_T_keepHeld 10 rfl) rfl rfl ?_
  refine R_iload_n (pc := 15) 2 (dc k_T_keepHeld 11 rfl) rfl rfl ?_
  refine R_cVV (pc := 16)  (As := [vR sets, vI at_]) (S := []) ck_T_152 (dc k_T_keepHeld 12 rfl) ⟨(lT ht), ⟨_, rfl, rfl⟩, (qT1 ht), (qTn_0 hnt)⟩ (lb rfl) (lb rfl) (lb rfl) rfl (ct_T_flip hE hn ht (Z_bind hz)) (fun M_3 hz => ?_)
  exact R_vret (pc := 19) (dc k_T_keepHeld 13 rfl) rfl rfl rfl ⟨rfl, (Z_some hz)⟩

set_option maxRecDepth 20000 in
theorem ct_S_change {E : Nat → Bool} {n : Nat} (hE : ∀ c, 1 ≤ c → c ≤ 80 → E c = true) (hn : 80 ≤ n) {ttown : Nat} {sign : Int} {of_ : Int} {at_ : Int} (httown : isT ttown) {M : Mem} {K : Mem → Prop} (hz : Z (S_change ttown sign of_ at_ M) K) : Mt y_S_change (3, 76, n, n, E) E [vR 28, vR ttown, vI sign, vI of_, vI at_] M (qV K) := by
  refine Mt.of (by decide) (lb rfl) (Nat.le_refl _) rfl ?_
  rw [S_change] at hz
  have hnttown := qTn httown hn
  have hEttown := qTE httown hE
  show Rr y_S_change (3, 76, n, n, E) (qV K) 0 [(0, vR 28), (1, vR ttown), (2, vI sign), (3, vI of_), (4, vI at_)] [] E n M
  refine R_iload_n (pc := 0) 2 (dc k_S_change 0 rfl) rfl rfl ?_
  refine R_bipush (pc := 1) (a := 16) (dc k_S_change 1 rfl) (by decide) ?_
  refine R_icmp_ne (pc := 3) 20 (dc k_S_change 2 rfl) rfl (fun hc => ?_) (fun hc => ?_)
  · have hz := Z_neg (show ¬ (n32 sign = 16) from hc) hz
    refine R_iload_n (pc := 20) 2 (dc k_S_change 10 rfl) rfl rfl ?_
    refine R_bipush (pc := 21) (a := 17) (dc k_S_change 11 rfl) (by decide) ?_
    refine R_icmp_ne (pc := 23) 40 (dc k_S_change 12 rfl) rfl (fun hc => ?_) (fun hc => ?_)
    · have hz := Z_neg (show ¬ (n32 sign = 17) from hc) hz
      refine R_iconst (pc := 40) (a := 0) (dc k_S_change 20 rfl) ?_
      refine R_istore (pc := 41) (L' := [(5, vI 0), (0, vR 28), (1, vR ttown), (2, vI sign), (3, vI of_), (4, vI at_)]) (dc k_S_change 21 rfl) (lb rfl) rfl ?_
      obtain ⟨K_5, hK_6, hz⟩ := Z_cut hz
      have hX_7 : ∀ (M_11 : Mem), K_5 M_11 → Rr y_S_change (3, 76, n, n, E) (qV K) 87 [] [] E n M_11 := by
        intro M_11 hk
        have hz := hK_6 _ hk
        exact R_vret (pc := 87) (dc k_S_change 45 rfl) rfl rfl rfl ⟨rfl, (Z_some hz)⟩
      refine R_sub [1, 2, 5, 0] rfl ?_
      refine it_R (C := fun aZ : Int × Mem => Rr y_S_change (3, 76, n, n, E) (qV K) 43 [(0, vR 28), (1, vR ttown), (4, vI at_), (5, vI aZ.1)] [] E n aZ.2) (fun aZ K_8 hC_9 hB_10 hz => ?_) FUEL (0, M) hz
      obtain ⟨l5_3, M_4⟩ := aZ
      rw [S_change_b43] at hz
      show Rr y_S_change (3, 76, n, n, E) (qV K) 43 [(0, vR 28), (1, vR ttown), (4, vI at_), (5, vI l5_3)] [] E n M_4
      refine R_iload (pc := 43) 3 (dc k_S_change 22 rfl) rfl ?_
      refine R_aload_n (pc := 45) 1 (dc k_S_change 23 rfl) rfl rfl ?_
      refine R_getI (pc := 46) (ci := 1) (k := 6) (dc k_S_change 24 rfl) fl_S_37 (lT httown) (qT1 httown) (qTn_0 hnttown) (rT_6 httown) (Or.inl rfl) ?_
      refine R_icmp_ge (pc := 49) 87 (dc k_S_change 25 rfl) rfl (fun hc => ?_) (fun hc => ?_)
      · have hz := Z_neg (show ¬ (n32 l5_3 < n32 (M_4 ttown 6)) from (Int.not_lt.mpr hc)) hz
        refine R_sub [] rfl ?_
        exact hX_7 _ (hB_10 _ (Z_some hz))
      · have hz := Z_pos (show n32 l5_3 < n32 (M_4 ttown 6) from (Int.not_le.mp hc)) hz
        refine R_aload_n (pc := 52) 0 (dc k_S_change 26 rfl) rfl rfl ?_
        refine R_getS (pc := 53) (ci := 4) (k := 2) 30 (dc k_S_change 27 rfl) fl_S_15 rfl (lb rfl) (Nat.le_trans (lb rfl) hn) (hE 28 (lb rfl) (lb rfl)) rfl (by decide) rfl ?_
        refine R_iload (pc := 56) 2 (dc k_S_change 28 rfl) rfl ?_
        refine R_iload (pc := 58) 3 (dc k_S_change 29 rfl) rfl ?_
        refine R_iadd (pc := 60) (dc k_S_change 30 rfl) ?_
        refine R_aload_n (pc := 61) 0 (dc k_S_change 31 rfl) rfl rfl ?_
        refine R_getS (pc := 62) (ci := 4) (k := 2) 30 (dc k_S_change 32 rfl) fl_S_15 rfl (lb rfl) (Nat.le_trans (lb rfl) hn) (hE 28 (lb rfl) (lb rfl)) rfl (by decide) rfl ?_
        refine R_iload (pc := 65) 2 (dc k_S_change 33 rfl) rfl ?_
        refine R_iload (pc := 67) 3 (dc k_S_change 34 rfl) rfl ?_
        refine R_iadd (pc := 69) (dc k_S_change 35 rfl) ?_
        obtain ⟨⟨hg_12, hg_13⟩, hz⟩ := Z_chk hz
        refine R_lald (pc := 70) (dc k_S_change 36 rfl) rfl (lb rfl) (Nat.le_trans (lb rfl) hn) hg_12 hg_13 ?_
        refine R_ldc2 (pc := 71) (a := (-1)) (dc k_S_change 37 rfl) c_S_56 ?_
        refine R_lxor (pc := 74) (dc k_S_change 38 rfl) ?_
        refine R_aload_n (pc := 75) 1 (dc k_S_change 39 rfl) rfl rfl ?_
        refine R_cVJ (pc := 76)  (As := []) (S := [vJ (jxor (M_4 30 (Int.toNat (at_ + l5_3))) (-1)), vI (at_ + l5_3), vR 30]) ck_S_48 (dc k_S_change 40 rfl) ⟨(lT httown), ⟨_, rfl, rfl⟩, (qT1 httown), (qTn_0 hnttown)⟩ (lb rfl) (lb rfl) (lb rfl) rfl (ct_T_allOfWord hE hn httown (Z_bind hz)) (fun r_14 hz => ?_)
        refine R_land (pc := 79) (dc k_S_change 41 rfl) ?_
        obtain ⟨M_15, hM_15, hz⟩ := Z_lt hz
        refine R_lastE (pc := 80) (dc k_S_change 42 rfl) rfl (lb rfl) (Nat.le_trans (lb rfl) hn) hg_12 hg_13 hM_15 ?_
        obtain ⟨l5_16, hl5_16, hz⟩ := Z_lt hz
        refine R_iincE (pc := 81) (L' := [(5, vI l5_16), (0, vR 28), (1, vR ttown), (4, vI at_)]) 3 (dc k_S_change 43 rfl) rfl (lb rfl) hl5_16 rfl ?_
        refine R_goto (pc := 84) 43 (dc k_S_change 44 rfl) rfl ?_
        refine R_sub [1, 2, 3, 0] rfl ?_
        exact hC_9 _ (Z_some hz)
    · have hz := Z_pos (show n32 sign = 17 from (Decidable.not_not.mp hc)) hz
      refine R_aload_n (pc := 26) 1 (dc k_S_change 13 rfl) rfl rfl ?_
      refine R_aload_n (pc := 27) 0 (dc k_S_change 14 rfl) rfl rfl ?_
      refine R_getS (pc := 28) (ci := 4) (k := 2) 30 (dc k_S_change 15 rfl) fl_S_15 rfl (lb rfl) (Nat.le_trans (lb rfl) hn) (hE 28 (lb rfl) (lb rfl)) rfl (by decide) rfl ?_
      refine R_iload (pc := 31) 4 (dc k_S_change 16 rfl) rfl ?_
      refine R_iload_n (pc := 33) 3 (dc k_S_change 17 rfl) rfl rfl ?_
      refine R_cVV (pc := 34)  (As := [vR 30, vI at_, vI of_]) (S := []) ck_S_62 (dc k_S_change 18 rfl) ⟨(lT httown), ⟨_, rfl, rfl⟩, (qT1 httown), (qTn_0 hnttown)⟩ (lb rfl) (lb rfl) (lb rfl) rfl (ct_T_widen hE hn httown (Z_bind hz)) (fun M_2 hz => ?_)
      refine R_goto (pc := 37) 87 (dc k_S_change 19 rfl) rfl ?_
      exact R_vret (pc := 87) (dc k_S_change 45 rfl) rfl rfl rfl ⟨rfl, (Z_some hz)⟩
  · have hz := Z_pos (show n32 sign = 16 from (Decidable.not_not.mp hc)) hz
    refine R_aload_n (pc := 6) 1 (dc k_S_change 3 rfl) rfl rfl ?_
    refine R_aload_n (pc := 7) 0 (dc k_S_change 4 rfl) rfl rfl ?_
    refine R_getS (pc := 8) (ci := 4) (k := 2) 30 (dc k_S_change 5 rfl) fl_S_15 rfl (lb rfl) (Nat.le_trans (lb rfl) hn) (hE 28 (lb rfl) (lb rfl)) rfl (by decide) rfl ?_
    refine R_iload (pc := 11) 4 (dc k_S_change 6 rfl) rfl ?_
    refine R_iload_n (pc := 13) 3 (dc k_S_change 7 rfl) rfl rfl ?_
    refine R_cVV (pc := 14)  (As := [vR 30, vI at_, vI of_]) (S := []) ck_S_58 (dc k_S_change 8 rfl) ⟨(lT httown), ⟨_, rfl, rfl⟩, (qT1 httown), (qTn_0 hnttown)⟩ (lb rfl) (lb rfl) (lb rfl) rfl (ct_T_keepHeld hE hn httown (Z_bind hz)) (fun M_1 hz => ?_)
    refine R_goto (pc := 17) 87 (dc k_S_change 9 rfl) rfl ?_
    exact R_vret (pc := 87) (dc k_S_change 45 rfl) rfl rfl rfl ⟨rfl, (Z_some hz)⟩

set_option maxRecDepth 20000 in
theorem ct_S_putSet {E : Nat → Bool} {n : Nat} (hE : ∀ c, 1 ≤ c → c ≤ 80 → E c = true) (hn : 80 ≤ n) {ttown : Nat} {start : Int} {end_ : Int} (httown : isT ttown) {M : Mem} {K : Mem → Prop} (hz : Z (S_putSet ttown start end_ M) K) : Mt y_S_putSet (4, 101, n, n, E) E [vR 28, vR ttown, vI start, vI end_] M (qV K) := by
  refine Mt.of (by decide) (lb rfl) (Nat.le_refl _) rfl ?_
  rw [S_putSet] at hz
  have hnttown := qTn httown hn
  have hEttown := qTE httown hE
  show Rr y_S_putSet (4, 101, n, n, E) (qV K) 0 [(0, vR 28), (1, vR ttown), (2, vI start), (3, vI end_)] [] E n M
  refine R_iconst (pc := 0) (a := 0) (dc k_S_putSet 0 rfl) ?_
  refine R_istore (pc := 1) (L' := [(4, vI 0), (0, vR 28), (1, vR ttown), (2, vI start), (3, vI end_)]) (dc k_S_putSet 1 rfl) (lb rfl) rfl ?_
  refine R_iload_n (pc := 3) 3 (dc k_S_putSet 2 rfl) rfl rfl ?_
  refine R_istore (pc := 4) (L' := [(5, vI start), (4, vI 0), (0, vR 28), (1, vR ttown), (2, vI start), (3, vI end_)]) (dc k_S_putSet 3 rfl) (lb rfl) rfl ?_
  obtain ⟨K_4, hK_5, hz⟩ := Z_cut hz
  have hX_6 : ∀ (M_10 : Mem), K_4 M_10 → Rr y_S_putSet (4, 101, n, n, E) (qV K) 147 [] [] E n M_10 := by
    intro M_10 hk
    have hz := hK_5 _ hk
    exact R_vret (pc := 147) (dc k_S_putSet 77 rfl) rfl rfl rfl ⟨rfl, (Z_some hz)⟩
  refine R_sub [2, 3, 5, 1, 0] rfl ?_
  refine it_R (C := fun aZ : Int × Int × Mem => Rr y_S_putSet (4, 101, n, n, E) (qV K) 6 [(0, vR 28), (1, vR ttown), (3, vI end_), (4, vI aZ.1), (5, vI aZ.2.1)] [] E n aZ.2.2) (fun aZ K_7 hC_8 hB_9 hz => ?_) FUEL (0, start, M) hz
  obtain ⟨l4_1, l5_2, M_3⟩ := aZ
  rw [S_putSet_b6] at hz
  show Rr y_S_putSet (4, 101, n, n, E) (qV K) 6 [(0, vR 28), (1, vR ttown), (3, vI end_), (4, vI l4_1), (5, vI l5_2)] [] E n M_3
  refine R_iload (pc := 6) 4 (dc k_S_putSet 4 rfl) rfl ?_
  refine R_iload_n (pc := 8) 2 (dc k_S_putSet 5 rfl) rfl rfl ?_
  refine R_icmp_ge (pc := 9) 147 (dc k_S_putSet 6 rfl) rfl (fun hc => ?_) (fun hc => ?_)
  · have hz := Z_neg (show ¬ (n32 l5_2 < n32 end_) from (Int.not_lt.mpr hc)) hz
    refine R_sub [] rfl ?_
    exact hX_6 _ (hB_9 _ (Z_some hz))
  · have hz := Z_pos (show n32 l5_2 < n32 end_ from (Int.not_le.mp hc)) hz
    refine R_aload_n (pc := 12) 0 (dc k_S_putSet 7 rfl) rfl rfl ?_
    refine R_getS (pc := 13) (ci := 4) (k := 0) 29 (dc k_S_putSet 8 rfl) fl_S_9 rfl (lb rfl) (Nat.le_trans (lb rfl) hn) (hE 28 (lb rfl) (lb rfl)) rfl (by decide) rfl ?_
    refine R_iload (pc := 16) 4 (dc k_S_putSet 9 rfl) rfl ?_
    obtain ⟨⟨hg_11, hg_12⟩, hz⟩ := Z_chk hz
    refine R_iald (pc := 18) (dc k_S_putSet 10 rfl) rfl (lb rfl) (Nat.le_trans (lb rfl) hn) hg_11 hg_12 ?_
    refine R_sipush (pc := 19) (a := 255) (dc k_S_putSet 11 rfl) (by decide) ?_
    refine R_iand (pc := 22) (dc k_S_putSet 12 rfl) ?_
    obtain ⟨l6_13, hl6_13, hz⟩ := Z_lt hz
    refine R_istoreE (pc := 23) (L' := [(6, vI l6_13), (0, vR 28), (1, vR ttown), (3, vI end_), (4, vI l4_1), (5, vI l5_2)]) (dc k_S_putSet 13 rfl) (lb rfl) hl6_13 rfl ?_
    refine R_aload_n (pc := 25) 1 (dc k_S_putSet 14 rfl) rfl rfl ?_
    refine R_getS (pc := 26) (ci := 4) (k := 0) 29 (dc k_S_putSet 15 rfl) fl_S_9 rfl (lb rfl) (Nat.le_trans (lb rfl) hn) (hE 28 (lb rfl) (lb rfl)) rfl (by decide) rfl ?_
    refine R_iload (pc := 29) 5 (dc k_S_putSet 16 rfl) rfl ?_
    refine R_iald (pc := 31) (dc k_S_putSet 17 rfl) rfl (lb rfl) (Nat.le_trans (lb rfl) hn) hg_11 hg_12 ?_
    refine R_bipush (pc := 32) (a := 8) (dc k_S_putSet 18 rfl) (by decide) ?_
    refine R_ishr (pc := 34) (dc k_S_putSet 19 rfl) ?_
    obtain ⟨l7_14, hl7_14, hz⟩ := Z_lt hz
    refine R_istoreE (pc := 35) (L' := [(7, vI l7_14), (6, vI l6_13), (0, vR 28), (1, vR ttown), (3, vI end_), (4, vI l4_1), (5, vI l5_2)]) (dc k_S_putSet 20 rfl) (lb rfl) hl7_14 rfl ?_
    refine R_iload (pc := 37) 1 (dc k_S_putSet 21 rfl) rfl ?_
    refine R_iconst (pc := 39) (a := 1) (dc k_S_putSet 22 rfl) ?_
    obtain ⟨K_17, hK_18, hz⟩ := Z_cut hz
    have hJ_19 : ∀ (l4_15 : Int) (M_16 : Mem), K_17 (l4_15, M_16) → Rr y_S_putSet (4, 101, n, n, E) (qV K) 141 [(0, vR 28), (1, vR ttown), (3, vI end_), (4, vI l4_15), (5, vI l5_2)] [] E n M_16 := by
      intro l4_15 M_16 hk
      have hz := hK_18 _ hk
      obtain ⟨l5_42, hl5_42, hz⟩ := Z_lt hz
      refine R_iincE (pc := 141) (L' := [(5, vI l5_42), (0, vR 28), (1, vR ttown), (3, vI end_), (4, vI l4_15)]) 4 (dc k_S_putSet 75 rfl) rfl (lb rfl) hl5_42 rfl ?_
      refine R_goto (pc := 144) 6 (dc k_S_putSet 76 rfl) rfl ?_
      refine R_sub [1, 2, 3, 4, 0] rfl ?_
      exact hC_8 _ (Z_some hz)
    have hX_36 : ((n32 l6_13 = 1) ∨ (n32 l6_13 = 5)) → Rr y_S_putSet (4, 101, n, n, E) (qV K) 49 [(7, vI l7_14), (6, vI l6_13), (0, vR 28), (1, vR ttown), (3, vI end_), (4, vI l4_1), (5, vI l5_2)] [] E n M_3 := by
      intro hc
      have hz := Z_pos hc hz
      refine R_iload (pc := 49) 5 (dc k_S_putSet 27 rfl) rfl ?_
      refine R_bipush (pc := 51) (a := 25) (dc k_S_putSet 28 rfl) (by decide) ?_
      refine R_icmp_ge (pc := 53) 141 (dc k_S_putSet 29 rfl) rfl (fun hc => ?_) (fun hc => ?_)
      · have hz := Z_neg (show ¬ (n32 l4_1 < 25) from (Int.not_lt.mpr hc)) hz
        refine R_sub [2, 3, 4, 5, 6] rfl ?_
        exact hJ_19 _ _ (Z_some hz)
      · have hz := Z_pos (show n32 l4_1 < 25 from (Int.not_le.mp hc)) hz
        refine R_aload_n (pc := 56) 2 (dc k_S_putSet 30 rfl) rfl rfl ?_
        refine R_aload_n (pc := 57) 3 (dc k_S_putSet 31 rfl) rfl rfl ?_
        refine R_iload (pc := 58) 1 (dc k_S_putSet 32 rfl) rfl ?_
        refine R_iload (pc := 60) 0 (dc k_S_putSet 33 rfl) rfl ?_
        refine R_iload (pc := 62) 5 (dc k_S_putSet 34 rfl) rfl ?_
        refine R_iconst (pc := 64) (a := 4) (dc k_S_putSet 35 rfl) ?_
        refine R_imul (pc := 65) (dc k_S_putSet 36 rfl) ?_
        refine R_cVV (pc := 66)  (As := [vR ttown, vI l6_13, vI l7_14, vI (l4_1 * 4)]) (S := []) ck_S_26 (dc k_S_putSet 37 rfl) ⟨rfl, ⟨_, rfl, rfl⟩, (lb rfl), (Nat.le_trans (lb rfl) hn)⟩ (lb rfl) (lb rfl) (lb rfl) rfl (ct_S_push hE hn httown (Z_bind hz)) (fun M_20 hz => ?_)
        obtain ⟨l4_21, hl4_21, hz⟩ := Z_lt hz
        refine R_iincE (pc := 69) (L' := [(4, vI l4_21), (7, vI l7_14), (6, vI l6_13), (0, vR 28), (1, vR ttown), (3, vI end_), (5, vI l5_2)]) 5 (dc k_S_putSet 38 rfl) rfl (lb rfl) hl4_21 rfl ?_
        refine R_goto (pc := 72) 141 (dc k_S_putSet 39 rfl) rfl ?_
        refine R_sub [3, 4, 5, 0, 6] rfl ?_
        exact hJ_19 _ _ (Z_some hz)
    have hY_37 : ¬ ((n32 l6_13 = 1) ∨ (n32 l6_13 = 5)) → Rr y_S_putSet (4, 101, n, n, E) (qV K) 75 [(7, vI l7_14), (6, vI l6_13), (0, vR 28), (1, vR ttown), (3, vI end_), (4, vI l4_1), (5, vI l5_2)] [] E n M_3 := by
      intro hc
      have hz := Z_neg hc hz
      refine R_iload (pc := 75) 1 (dc k_S_putSet 40 rfl) rfl ?_
      refine R_bipush (pc := 77) (a := 14) (dc k_S_putSet 41 rfl) (by decide) ?_
      have hX_28 : ((n32 l6_13 = 14) ∨ ((n32 l6_13 = 13) ∨ (n32 l6_13 = 12))) → Rr y_S_putSet (4, 101, n, n, E) (qV K) 96 [(7, vI l7_14), (6, vI l6_13), (0, vR 28), (1, vR ttown), (3, vI end_), (4, vI l4_1), (5, vI l5_2)] [] E n M_3 := by
        intro hc
        have hz := Z_pos hc hz
        refine R_iload (pc := 96) 5 (dc k_S_putSet 49 rfl) rfl ?_
        refine R_iconst (pc := 98) (a := 1) (dc k_S_putSet 50 rfl) ?_
        refine R_icmp_le (pc := 99) 141 (dc k_S_putSet 51 rfl) rfl (fun hc => ?_) (fun hc => ?_)
        · have hz := Z_neg (show ¬ (1 < n32 l4_1) from (Int.not_lt.mpr hc)) hz
          refine R_sub [2, 3, 4, 5, 6] rfl ?_
          exact hJ_19 _ _ (Z_some hz)
        · have hz := Z_pos (show 1 < n32 l4_1 from (Int.not_le.mp hc)) hz
          obtain ⟨l4_23, hl4_23, hz⟩ := Z_lt hz
          refine R_iincE (pc := 102) (L' := [(4, vI l4_23), (7, vI l7_14), (6, vI l6_13), (0, vR 28), (1, vR ttown), (3, vI end_), (5, vI l5_2)]) 5 (dc k_S_putSet 52 rfl) rfl (lb rfl) hl4_23 rfl ?_
          refine R_aload_n (pc := 105) 3 (dc k_S_putSet 53 rfl) rfl rfl ?_
          refine R_aload_n (pc := 106) 4 (dc k_S_putSet 54 rfl) rfl rfl ?_
          refine R_iload (pc := 107) 2 (dc k_S_putSet 55 rfl) rfl ?_
          refine R_iload (pc := 109) 0 (dc k_S_putSet 56 rfl) rfl ?_
          refine R_iconst (pc := 111) (a := 1) (dc k_S_putSet 57 rfl) ?_
          refine R_isub (pc := 112) (dc k_S_putSet 58 rfl) ?_
          refine R_iconst (pc := 113) (a := 4) (dc k_S_putSet 59 rfl) ?_
          refine R_imul (pc := 114) (dc k_S_putSet 60 rfl) ?_
          refine R_cVV (pc := 115)  (As := [vR ttown, vI l6_13, vI ((l4_23 - 1) * 4)]) (S := []) ck_S_30 (dc k_S_putSet 61 rfl) ⟨rfl, ⟨_, rfl, rfl⟩, (lb rfl), (Nat.le_trans (lb rfl) hn)⟩ (lb rfl) (lb rfl) (lb rfl) rfl (ct_S_join hE hn httown (Z_bind hz)) (fun M_24 hz => ?_)
          refine R_goto (pc := 118) 141 (dc k_S_putSet 62 rfl) rfl ?_
          refine R_sub [3, 4, 5, 0, 6] rfl ?_
          exact hJ_19 _ _ (Z_some hz)
      have hY_29 : ¬ ((n32 l6_13 = 14) ∨ ((n32 l6_13 = 13) ∨ (n32 l6_13 = 12))) → Rr y_S_putSet (4, 101, n, n, E) (qV K) 121 [(7, vI l7_14), (6, vI l6_13), (0, vR 28), (1, vR ttown), (3, vI end_), (4, vI l4_1), (5, vI l5_2)] [] E n M_3 := by
        intro hc
        have hz := Z_neg hc hz
        refine R_iload (pc := 121) 5 (dc k_S_putSet 63 rfl) rfl ?_
        refine R_if_le (pc := 123) 141 (dc k_S_putSet 64 rfl) rfl (fun hc => ?_) (fun hc => ?_)
        · have hz := Z_neg (show ¬ (0 < n32 l4_1) from (Int.not_lt.mpr hc)) hz
          refine R_sub [2, 3, 4, 5, 6] rfl ?_
          exact hJ_19 _ _ (Z_some hz)
        · have hz := Z_pos (show 0 < n32 l4_1 from (Int.not_le.mp hc)) hz
          refine R_aload_n (pc := 126) 2 (dc k_S_putSet 65 rfl) rfl rfl ?_
          refine R_aload_n (pc := 127) 3 (dc k_S_putSet 66 rfl) rfl rfl ?_
          refine R_iload (pc := 128) 1 (dc k_S_putSet 67 rfl) rfl ?_
          refine R_iload (pc := 130) 0 (dc k_S_putSet 68 rfl) rfl ?_
          refine R_iload (pc := 132) 5 (dc k_S_putSet 69 rfl) rfl ?_
          refine R_iconst (pc := 134) (a := 1) (dc k_S_putSet 70 rfl) ?_
          refine R_isub (pc := 135) (dc k_S_putSet 71 rfl) ?_
          refine R_iconst (pc := 136) (a := 4) (dc k_S_putSet 72 rfl) ?_
          refine R_imul (pc := 137) (dc k_S_putSet 73 rfl) ?_
          refine R_cVV (pc := 138)  (As := [vR ttown, vI l6_13, vI l7_14, vI ((l4_1 - 1) * 4)]) (S := []) ck_S_34 (dc k_S_putSet 74 rfl) ⟨rfl, ⟨_, rfl, rfl⟩, (lb rfl), (Nat.le_trans (lb rfl) hn)⟩ (lb rfl) (lb rfl) (lb rfl) rfl (ct_S_change hE hn httown (Z_bind hz)) (fun M_26 hz => ?_)
          refine R_sub [2, 3, 4, 5, 6] rfl ?_
          exact hJ_19 _ _ (Z_some hz)
      refine R_icmp_eq (pc := 79) 96 (dc k_S_putSet 42 rfl) rfl (fun hc => ?_) (fun hc => ?_)
      · have hc_30 : n32 l6_13 = 14 := hc
        exact hX_28 (Or.inl hc_30)
      · have hc_31 : ¬ n32 l6_13 = 14 := hc
        refine R_iload (pc := 82) 1 (dc k_S_putSet 43 rfl) rfl ?_
        refine R_bipush (pc := 84) (a := 13) (dc k_S_putSet 44 rfl) (by decide) ?_
        refine R_icmp_eq (pc := 86) 96 (dc k_S_putSet 45 rfl) rfl (fun hc => ?_) (fun hc => ?_)
        · have hc_32 : n32 l6_13 = 13 := hc
          exact hX_28 (Or.inr (Or.inl hc_32))
        · have hc_33 : ¬ n32 l6_13 = 13 := hc
          refine R_iload (pc := 89) 1 (dc k_S_putSet 46 rfl) rfl ?_
          refine R_bipush (pc := 91) (a := 12) (dc k_S_putSet 47 rfl) (by decide) ?_
          refine R_icmp_ne (pc := 93) 121 (dc k_S_putSet 48 rfl) rfl (fun hc => ?_) (fun hc => ?_)
          · have hc_34 : ¬ n32 l6_13 = 12 := hc
            exact hY_29 (fun z => z.elim hc_31 (fun z => z.elim hc_33 hc_34))
          · have hc_35 : n32 l6_13 = 12 := (Decidable.not_not.mp hc)
            exact hX_28 (Or.inr (Or.inr hc_35))
    refine R_icmp_eq (pc := 40) 49 (dc k_S_putSet 23 rfl) rfl (fun hc => ?_) (fun hc => ?_)
    · have hc_38 : n32 l6_13 = 1 := hc
      exact hX_36 (Or.inl hc_38)
    · have hc_39 : ¬ n32 l6_13 = 1 := hc
      refine R_iload (pc := 43) 1 (dc k_S_putSet 24 rfl) rfl ?_
      refine R_iconst (pc := 45) (a := 5) (dc k_S_putSet 25 rfl) ?_
      refine R_icmp_ne (pc := 46) 75 (dc k_S_putSet 26 rfl) rfl (fun hc => ?_) (fun hc => ?_)
      · have hc_40 : ¬ n32 l6_13 = 5 := hc
        exact hY_37 (fun z => z.elim hc_39 hc_40)
      · have hc_41 : n32 l6_13 = 5 := (Decidable.not_not.mp hc)
        exact hX_36 (Or.inr hc_41)

set_option maxRecDepth 20000 in
theorem ct_N_fillRows {E : Nat → Bool} {n : Nat} (hE : ∀ c, 1 ≤ c → c ≤ 80 → E c = true) (hn : 80 ≤ n) {holds_ : Int} {M : Mem} {K : Mem → Prop} (hz : Z (N_fillRows holds_ M) K) : Mt y_N_fillRows (5, 128, n, n, E) E [vR 27, vI holds_] M (qV K) := by
  refine Mt.of (by decide) (lb rfl) (Nat.le_refl _) rfl ?_
  rw [N_fillRows] at hz
  show Rr y_N_fillRows (5, 128, n, n, E) (qV K) 0 [(0, vR 27), (1, vI holds_)] [] E n M
  refine R_iconst (pc := 0) (a := 0) (dc k_N_fillRows 0 rfl) ?_
  refine R_istore_n (pc := 1) (L' := [(2, vI 0), (0, vR 27), (1, vI holds_)]) (dc k_N_fillRows 1 rfl) rfl (lb rfl) rfl ?_
  obtain ⟨K_3, hK_4, hz⟩ := Z_cut hz
  have hX_5 : ∀ (M_9 : Mem), K_3 M_9 → Rr y_N_fillRows (5, 128, n, n, E) (qV K) 80 [] [] E n M_9 := by
    intro M_9 hk
    have hz := hK_4 _ hk
    exact R_vret (pc := 80) (dc k_N_fillRows 42 rfl) rfl rfl rfl ⟨rfl, (Z_some hz)⟩
  refine R_sub [1, 2, 0] rfl ?_
  refine it_R (C := fun aZ : Int × Mem => Rr y_N_fillRows (5, 128, n, n, E) (qV K) 2 [(0, vR 27), (1, vI holds_), (2, vI aZ.1)] [] E n aZ.2) (fun aZ K_6 hC_7 hB_8 hz => ?_) FUEL (0, M) hz
  obtain ⟨l2_1, M_2⟩ := aZ
  rw [N_fillRows_b2] at hz
  show Rr y_N_fillRows (5, 128, n, n, E) (qV K) 2 [(0, vR 27), (1, vI holds_), (2, vI l2_1)] [] E n M_2
  refine R_iload_n (pc := 2) 2 (dc k_N_fillRows 2 rfl) rfl rfl ?_
  refine R_aload_n (pc := 3) 0 (dc k_N_fillRows 3 rfl) rfl rfl ?_
  obtain ⟨hg_10, hz⟩ := Z_chk hz
  obtain ⟨t_11, ht_11, hz⟩ := Z_lt hz
  obtain ⟨hq_12, ht_11t⟩ := isTI.at' hg_10 ht_11
  have hnt_11t := qTn ht_11t hn
  have hEt_11t := qTE ht_11t hE
  refine R_getR (pc := 4) (ci := 3) (k := 16) t_11 (dc k_N_fillRows 4 rfl) fl_N_54 rfl (lb rfl) (Nat.le_trans (lb rfl) hn) (Or.inr rfl) hq_12 (qT0 ht_11t) rfl ?_
  refine R_getI (pc := 7) (ci := 1) (k := 2) (dc k_N_fillRows 5 rfl) fl_N_137 (lT ht_11t) (qT1 ht_11t) (qTn_0 hnt_11t) (rT_2 ht_11t) (Or.inl rfl) ?_
  refine R_icmp_ge (pc := 10) 80 (dc k_N_fillRows 6 rfl) rfl (fun hc => ?_) (fun hc => ?_)
  · have hz := Z_neg (show ¬ (n32 l2_1 < n32 (M_2 t_11 2)) from (Int.not_lt.mpr hc)) hz
    refine R_sub [] rfl ?_
    exact hX_5 _ (hB_8 _ (Z_some hz))
  · have hz := Z_pos (show n32 l2_1 < n32 (M_2 t_11 2) from (Int.not_le.mp hc)) hz
    refine R_aload_n (pc := 13) 0 (dc k_N_fillRows 7 rfl) rfl rfl ?_
    refine R_getS (pc := 14) (ci := 3) (k := 7) 37 (dc k_N_fillRows 8 rfl) fl_N_35 rfl (lb rfl) (Nat.le_trans (lb rfl) hn) (hE 27 (lb rfl) (lb rfl)) rfl (by decide) rfl ?_
    refine R_iload_n (pc := 17) 2 (dc k_N_fillRows 9 rfl) rfl rfl ?_
    obtain ⟨⟨hg_13, hg_14⟩, hz⟩ := Z_chk hz
    refine R_zald (pc := 18) (dc k_N_fillRows 10 rfl) rfl (lb rfl) (Nat.le_trans (lb rfl) hn) hg_13 hg_14 ?_
    refine R_iload_n (pc := 19) 1 (dc k_N_fillRows 11 rfl) rfl rfl ?_
    obtain ⟨K_16, hK_17, hz⟩ := Z_cut hz
    have hJ_18 : ∀ (M_15 : Mem), K_16 M_15 → Rr y_N_fillRows (5, 128, n, n, E) (qV K) 74 [(0, vR 27), (1, vI holds_), (2, vI l2_1)] [] E n M_15 := by
      intro M_15 hk
      have hz := hK_17 _ hk
      obtain ⟨l2_30, hl2_30, hz⟩ := Z_lt hz
      refine R_iincE (pc := 74) (L' := [(2, vI l2_30), (0, vR 27), (1, vI holds_)]) 2 (dc k_N_fillRows 40 rfl) rfl (lb rfl) hl2_30 rfl ?_
      refine R_goto (pc := 77) 2 (dc k_N_fillRows 41 rfl) rfl ?_
      refine R_sub [1, 2, 0] rfl ?_
      exact hC_7 _ (Z_some hz)
    refine R_icmp_ne (pc := 20) 74 (dc k_N_fillRows 12 rfl) rfl (fun hc => ?_) (fun hc => ?_)
    · have hz := Z_neg (show ¬ (n32 (M_2 37 (Int.toNat l2_1)) = n32 holds_) from hc) hz
      exact hJ_18 _ (Z_some hz)
    · have hz := Z_pos (show n32 (M_2 37 (Int.toNat l2_1)) = n32 holds_ from (Decidable.not_not.mp hc)) hz
      refine R_aload_n (pc := 23) 0 (dc k_N_fillRows 13 rfl) rfl rfl ?_
      refine R_getS (pc := 24) (ci := 3) (k := 1) 28 (dc k_N_fillRows 14 rfl) fl_N_12 rfl (lb rfl) (Nat.le_trans (lb rfl) hn) (hE 27 (lb rfl) (lb rfl)) rfl (by decide) rfl ?_
      refine R_aload_n (pc := 27) 0 (dc k_N_fillRows 15 rfl) rfl rfl ?_
      refine R_getR (pc := 28) (ci := 3) (k := 16) t_11 (dc k_N_fillRows 16 rfl) fl_N_54 rfl (lb rfl) (Nat.le_trans (lb rfl) hn) (Or.inr rfl) hq_12 (qT0 ht_11t) rfl ?_
      refine R_aload_n (pc := 31) 0 (dc k_N_fillRows 17 rfl) rfl rfl ?_
      refine R_getS (pc := 32) (ci := 3) (k := 5) 35 (dc k_N_fillRows 18 rfl) fl_N_28 rfl (lb rfl) (Nat.le_trans (lb rfl) hn) (hE 27 (lb rfl) (lb rfl)) rfl (by decide) rfl ?_
      refine R_iload_n (pc := 35) 2 (dc k_N_fillRows 19 rfl) rfl rfl ?_
      refine R_iald (pc := 36) (dc k_N_fillRows 20 rfl) rfl (lb rfl) (Nat.le_trans (lb rfl) hn) hg_13 hg_14 ?_
      refine R_aload_n (pc := 37) 0 (dc k_N_fillRows 21 rfl) rfl rfl ?_
      refine R_getS (pc := 38) (ci := 3) (k := 6) 36 (dc k_N_fillRows 22 rfl) fl_N_32 rfl (lb rfl) (Nat.le_trans (lb rfl) hn) (hE 27 (lb rfl) (lb rfl)) rfl (by decide) rfl ?_
      refine R_iload_n (pc := 41) 2 (dc k_N_fillRows 23 rfl) rfl rfl ?_
      refine R_iald (pc := 42) (dc k_N_fillRows 24 rfl) rfl (lb rfl) (Nat.le_trans (lb rfl) hn) hg_13 hg_14 ?_
      refine R_cVV (pc := 43)  (As := [vR t_11, vI (M_2 35 (Int.toNat l2_1)), vI (M_2 36 (Int.toNat l2_1))]) (S := []) ck_N_265 (dc k_N_fillRows 25 rfl) ⟨rfl, ⟨_, rfl, rfl⟩, (lb rfl), (Nat.le_trans (lb rfl) hn)⟩ (lb rfl) (lb rfl) (lb rfl) rfl (ct_S_putSet hE hn ht_11t (Z_bind hz)) (fun M_19 hz => ?_)
      refine R_aload_n (pc := 46) 0 (dc k_N_fillRows 26 rfl) rfl rfl ?_
      refine R_getS (pc := 47) (ci := 3) (k := 1) 28 (dc k_N_fillRows 27 rfl) fl_N_12 rfl (lb rfl) (Nat.le_trans (lb rfl) hn) (hE 27 (lb rfl) (lb rfl)) rfl (by decide) rfl ?_
      refine R_getS (pc := 50) (ci := 4) (k := 2) 30 (dc k_N_fillRows 28 rfl) fl_N_269 rfl (lb rfl) (Nat.le_trans (lb rfl) hn) (hE 28 (lb rfl) (lb rfl)) rfl (by decide) rfl ?_
      refine R_iconst (pc := 53) (a := 0) (dc k_N_fillRows 29 rfl) ?_
      refine R_aload_n (pc := 54) 0 (dc k_N_fillRows 30 rfl) rfl rfl ?_
      obtain ⟨hg_20, hz⟩ := Z_chk hz
      obtain ⟨t_21, ht_21, hz⟩ := Z_lt hz
      obtain ⟨hq_22, ht_21t⟩ := isTI.at' hg_20 ht_21
      have hnt_21t := qTn ht_21t hn
      have hEt_21t := qTE ht_21t hE
      refine R_getR (pc := 55) (ci := 3) (k := 16) t_21 (dc k_N_fillRows 31 rfl) fl_N_54 rfl (lb rfl) (Nat.le_trans (lb rfl) hn) (Or.inr rfl) hq_22 (qT0 ht_21t) rfl ?_
      refine R_getS (pc := 58) (ci := 1) (k := 16) (t_21 + 9) (dc k_N_fillRows 32 rfl) fl_N_285 (lT ht_21t) (qT1 ht_21t) (qTn_0 hnt_21t) hEt_21t (rT_16 ht_21t) (Nat.succ_ne_zero _) rfl ?_
      refine R_iload_n (pc := 61) 2 (dc k_N_fillRows 33 rfl) rfl rfl ?_
      refine R_iconst (pc := 62) (a := 4) (dc k_N_fillRows 34 rfl) ?_
      refine R_imul (pc := 63) (dc k_N_fillRows 35 rfl) ?_
      refine R_aload_n (pc := 64) 0 (dc k_N_fillRows 36 rfl) rfl rfl ?_
      refine R_getR (pc := 65) (ci := 3) (k := 16) t_21 (dc k_N_fillRows 37 rfl) fl_N_54 rfl (lb rfl) (Nat.le_trans (lb rfl) hn) (Or.inr rfl) hq_22 (qT0 ht_21t) rfl ?_
      refine R_getI (pc := 68) (ci := 1) (k := 6) (dc k_N_fillRows 38 rfl) fl_N_250 (lT ht_21t) (qT1 ht_21t) (qTn_0 hnt_21t) (rT_6 ht_21t) (Or.inl rfl) ?_
      obtain ⟨⟨hg_23, hg_24, hg_25, hg_26, hg_27⟩, hz⟩ := Z_chk hz
      obtain ⟨M_28, hM_28, hz⟩ := Z_lt hz
      refine R_copyJE (pc := 71) (S := []) (dc k_N_fillRows 39 rfl) ml_N_276 rfl (lT_9 ht_21t) (lb rfl) (Nat.le_trans (lb rfl) hn) (Nat.le_add_left_of_le (lb rfl)) (qTn_k hnt_21t (lb rfl)) hg_23 hg_24 hg_25 hg_26 hg_27 (lb rfl) (lb rfl) hM_28 ?_
      exact hJ_18 _ (Z_some hz)

set_option maxRecDepth 20000 in
theorem ct_T_place {E : Nat → Bool} {n : Nat} (hE : ∀ c, 1 ≤ c → c ≤ 80 → E c = true) (hn : 80 ≤ n) {person : Int} {row : Int} {M : Mem} {K : Int → Prop} (hz : Z (T_place person row M) K) : Mt y_T_place (0, 0, n, n, E) E [vI person, vI row] M (qP M K) := by
  refine Mt.of (by decide) (lb rfl) (Nat.le_refl _) rfl ?_
  rw [T_place] at hz
  show Rr y_T_place (0, 0, n, n, E) (qP M K) 0 [(0, vI person), (1, vI row)] [] E n M
  refine R_iload_n (pc := 0) 0 (dc k_T_place 0 rfl) rfl rfl ?_
  refine R_bipush (pc := 1) (a := 12) (dc k_T_place 1 rfl) (by decide) ?_
  refine R_imul (pc := 3) (dc k_T_place 2 rfl) ?_
  refine R_iload_n (pc := 4) 1 (dc k_T_place 3 rfl) rfl rfl ?_
  refine R_iadd (pc := 5) (dc k_T_place 4 rfl) ?_
  refine R_iconst (pc := 6) (a := 4) (dc k_T_place 5 rfl) ?_
  refine R_imul (pc := 7) (dc k_T_place 6 rfl) ?_
  exact R_iret (pc := 8) (dc k_T_place 7 rfl) rfl rfl rfl ⟨_, rfl, rfl, (Z_some hz)⟩

set_option maxRecDepth 20000 in
theorem ct_T_fillAnswers {E : Nat → Bool} {n : Nat} (hE : ∀ c, 1 ≤ c → c ≤ 80 → E c = true) (hn : 80 ≤ n) {t : Nat} (ht : isT t) {M : Mem} {K : Mem → Prop} (hz : Z (T_fillAnswers t M) K) : Mt y_T_fillAnswers (3, 76, n, n, E) E [vR t] M (qV K) := by
  refine Mt.of (by decide) (lb rfl) (Nat.le_refl _) rfl ?_
  rw [T_fillAnswers] at hz
  have hnt := qTn ht hn
  have hEt := qTE ht hE
  show Rr y_T_fillAnswers (3, 76, n, n, E) (qV K) 0 [(0, vR t)] [] E n M
  refine R_iconst (pc := 0) (a := 0) (dc k_T_fillAnswers 0 rfl) ?_
  refine R_istore_n (pc := 1) (L' := [(1, vI 0), (0, vR t)]) (dc k_T_fillAnswers 1 rfl) rfl (lb rfl) rfl ?_
  obtain ⟨K_3, hK_4, hz⟩ := Z_cut hz
  have hX_5 : ∀ (M_9 : Mem), K_3 M_9 → Rr y_T_fillAnswers (3, 76, n, n, E) (qV K) 105 [] [] E n M_9 := by
    intro M_9 hk
    have hz := hK_4 _ hk
    exact R_vret (pc := 105) (dc k_T_fillAnswers 59 rfl) rfl rfl rfl ⟨rfl, (Z_some hz)⟩
  refine R_sub [1, 0] rfl ?_
  refine it_R (C := fun aZ : Int × Mem => Rr y_T_fillAnswers (3, 76, n, n, E) (qV K) 2 [(0, vR t), (1, vI aZ.1)] [] E n aZ.2) (fun aZ K_6 hC_7 hB_8 hz => ?_) FUEL (0, M) hz
  obtain ⟨l1_1, M_2⟩ := aZ
  rw [T_fillAnswers_b2] at hz
  show Rr y_T_fillAnswers (3, 76, n, n, E) (qV K) 2 [(0, vR t), (1, vI l1_1)] [] E n M_2
  refine R_iload_n (pc := 2) 1 (dc k_T_fillAnswers 2 rfl) rfl rfl ?_
  refine R_aload_n (pc := 3) 0 (dc k_T_fillAnswers 3 rfl) rfl rfl ?_
  refine R_getI (pc := 4) (ci := 1) (k := 1) (dc k_T_fillAnswers 4 rfl) fl_T_53 (lT ht) (qT1 ht) (qTn_0 hnt) (rT_1 ht) (Or.inl rfl) ?_
  refine R_icmp_ge (pc := 7) 105 (dc k_T_fillAnswers 5 rfl) rfl (fun hc => ?_) (fun hc => ?_)
  · have hz := Z_neg (show ¬ (n32 l1_1 < n32 (M_2 t 1)) from (Int.not_lt.mpr hc)) hz
    refine R_sub [] rfl ?_
    exact hX_5 _ (hB_8 _ (Z_some hz))
  · have hz := Z_pos (show n32 l1_1 < n32 (M_2 t 1) from (Int.not_le.mp hc)) hz
    refine R_iconst (pc := 10) (a := 0) (dc k_T_fillAnswers 6 rfl) ?_
    refine R_istore_n (pc := 11) (L' := [(2, vI 0), (0, vR t), (1, vI l1_1)]) (dc k_T_fillAnswers 7 rfl) rfl (lb rfl) rfl ?_
    obtain ⟨K_12, hK_13, hz⟩ := Z_cut hz
    have hX_14 : ∀ (M_18 : Mem), K_12 M_18 → Rr y_T_fillAnswers (3, 76, n, n, E) (qV K) 99 [(0, vR t), (1, vI l1_1)] [] E n M_18 := by
      intro M_18 hk
      have hz := hK_13 _ hk
      obtain ⟨l1_37, hl1_37, hz⟩ := Z_lt hz
      refine R_iincE (pc := 99) (L' := [(1, vI l1_37), (0, vR t)]) 1 (dc k_T_fillAnswers 57 rfl) rfl (lb rfl) hl1_37 rfl ?_
      refine R_goto (pc := 102) 2 (dc k_T_fillAnswers 58 rfl) rfl ?_
      refine R_sub [1, 0] rfl ?_
      exact hC_7 _ (Z_some hz)
    refine R_sub [1, 2, 0] rfl ?_
    refine it_R (C := fun aZ : Int × Mem => Rr y_T_fillAnswers (3, 76, n, n, E) (qV K) 12 [(0, vR t), (1, vI l1_1), (2, vI aZ.1)] [] E n aZ.2) (fun aZ K_15 hC_16 hB_17 hz => ?_) FUEL (0, M_2) hz
    obtain ⟨l2_10, M_11⟩ := aZ
    rw [T_fillAnswers_b12] at hz
    show Rr y_T_fillAnswers (3, 76, n, n, E) (qV K) 12 [(0, vR t), (1, vI l1_1), (2, vI l2_10)] [] E n M_11
    refine R_iload_n (pc := 12) 2 (dc k_T_fillAnswers 8 rfl) rfl rfl ?_
    refine R_aload_n (pc := 13) 0 (dc k_T_fillAnswers 9 rfl) rfl rfl ?_
    refine R_getI (pc := 14) (ci := 1) (k := 2) (dc k_T_fillAnswers 10 rfl) fl_T_56 (lT ht) (qT1 ht) (qTn_0 hnt) (rT_2 ht) (Or.inl rfl) ?_
    refine R_icmp_ge (pc := 17) 99 (dc k_T_fillAnswers 11 rfl) rfl (fun hc => ?_) (fun hc => ?_)
    · have hz := Z_neg (show ¬ (n32 l2_10 < n32 (M_11 t 2)) from (Int.not_lt.mpr hc)) hz
      refine R_sub [0, 1] rfl ?_
      exact hX_14 _ (hB_17 _ (Z_some hz))
    · have hz := Z_pos (show n32 l2_10 < n32 (M_11 t 2) from (Int.not_le.mp hc)) hz
      refine R_iload_n (pc := 20) 1 (dc k_T_fillAnswers 12 rfl) rfl rfl ?_
      refine R_iload_n (pc := 21) 2 (dc k_T_fillAnswers 13 rfl) rfl rfl ?_
      refine R_cSP (pc := 22)  (As := [vI l1_1, vI l2_10]) (S := []) ck_T_86 (dc k_T_fillAnswers 14 rfl) (lb rfl) (lb rfl) (lb rfl) rfl (ct_T_place hE hn (Z_bind hz)) (fun r_19 hz => ?_)
      refine R_istore_n (pc := 25) (L' := [(3, vI r_19), (0, vR t), (1, vI l1_1), (2, vI l2_10)]) (dc k_T_fillAnswers 15 rfl) rfl (lb rfl) rfl ?_
      refine R_aload_n (pc := 26) 1 (dc k_T_fillAnswers 16 rfl) rfl rfl ?_
      refine R_getS (pc := 27) (ci := 1) (k := 16) (t + 9) (dc k_T_fillAnswers 17 rfl) fl_T_37 (lT ht) (qT1 ht) (qTn_0 hnt) hEt (rT_16 ht) (Nat.succ_ne_zero _) rfl ?_
      refine R_iload_n (pc := 30) 3 (dc k_T_fillAnswers 18 rfl) rfl rfl ?_
      refine R_iconst (pc := 31) (a := 4) (dc k_T_fillAnswers 19 rfl) ?_
      refine R_imul (pc := 32) (dc k_T_fillAnswers 20 rfl) ?_
      refine R_aload_n (pc := 33) 1 (dc k_T_fillAnswers 21 rfl) rfl rfl ?_
      refine R_getS (pc := 34) (ci := 1) (k := 17) (t + 10) (dc k_T_fillAnswers 22 rfl) fl_T_40 (lT ht) (qT1 ht) (qTn_0 hnt) hEt (rT_17 ht) (Nat.succ_ne_zero _) rfl ?_
      refine R_iload_n (pc := 37) 0 (dc k_T_fillAnswers 23 rfl) rfl rfl ?_
      refine R_aload_n (pc := 38) 1 (dc k_T_fillAnswers 24 rfl) rfl rfl ?_
      refine R_getI (pc := 39) (ci := 1) (k := 6) (dc k_T_fillAnswers 25 rfl) fl_T_68 (lT ht) (qT1 ht) (qTn_0 hnt) (rT_6 ht) (Or.inl rfl) ?_
      obtain ⟨⟨hg_20, hg_21, hg_22, hg_23, hg_24⟩, hz⟩ := Z_chk hz
      obtain ⟨M_25, hM_25, hz⟩ := Z_lt hz
      refine R_copyJE (pc := 42) (S := []) (dc k_T_fillAnswers 26 rfl) ml_T_112 (lT_9 ht) (lT_10 ht) (Nat.le_add_left_of_le (lb rfl)) (qTn_k hnt (lb rfl)) (Nat.le_add_left_of_le (lb rfl)) (qTn_k hnt (lb rfl)) hg_20 hg_21 hg_22 hg_23 hg_24 (lb rfl) (lb rfl) hM_25 ?_
      refine R_aload_n (pc := 45) 1 (dc k_T_fillAnswers 27 rfl) rfl rfl ?_
      refine R_aload_n (pc := 46) 1 (dc k_T_fillAnswers 28 rfl) rfl rfl ?_
      refine R_getS (pc := 47) (ci := 1) (k := 17) (t + 10) (dc k_T_fillAnswers 29 rfl) fl_T_40 (lT ht) (qT1 ht) (qTn_0 hnt) hEt (rT_17 ht) (Nat.succ_ne_zero _) rfl ?_
      refine R_iload_n (pc := 50) 0 (dc k_T_fillAnswers 30 rfl) rfl rfl ?_
      refine R_iload_n (pc := 51) 2 (dc k_T_fillAnswers 31 rfl) rfl rfl ?_
      refine R_cVV (pc := 52)  (As := [vR (t + 10), vI r_19, vI l1_1]) (S := []) ck_T_158 (dc k_T_fillAnswers 32 rfl) ⟨(lT ht), ⟨_, rfl, rfl⟩, (qT1 ht), (qTn_0 hnt)⟩ (lb rfl) (lb rfl) (lb rfl) rfl (ct_T_keepHeld hE hn ht (Z_bind hz)) (fun M_26 hz => ?_)
      refine R_aload_n (pc := 55) 1 (dc k_T_fillAnswers 33 rfl) rfl rfl ?_
      refine R_getS (pc := 56) (ci := 1) (k := 16) (t + 9) (dc k_T_fillAnswers 34 rfl) fl_T_37 (lT ht) (qT1 ht) (qTn_0 hnt) hEt (rT_16 ht) (Nat.succ_ne_zero _) rfl ?_
      refine R_iload_n (pc := 59) 3 (dc k_T_fillAnswers 35 rfl) rfl rfl ?_
      refine R_iconst (pc := 60) (a := 4) (dc k_T_fillAnswers 36 rfl) ?_
      refine R_imul (pc := 61) (dc k_T_fillAnswers 37 rfl) ?_
      refine R_aload_n (pc := 62) 1 (dc k_T_fillAnswers 38 rfl) rfl rfl ?_
      refine R_getS (pc := 63) (ci := 1) (k := 18) (t + 11) (dc k_T_fillAnswers 39 rfl) fl_T_43 (lT ht) (qT1 ht) (qTn_0 hnt) hEt (rT_18 ht) (Nat.succ_ne_zero _) rfl ?_
      refine R_iload_n (pc := 66) 0 (dc k_T_fillAnswers 40 rfl) rfl rfl ?_
      refine R_aload_n (pc := 67) 1 (dc k_T_fillAnswers 41 rfl) rfl rfl ?_
      refine R_getI (pc := 68) (ci := 1) (k := 6) (dc k_T_fillAnswers 42 rfl) fl_T_68 (lT ht) (qT1 ht) (qTn_0 hnt) (rT_6 ht) (Or.inl rfl) ?_
      obtain ⟨⟨hg_27, hg_28, hg_29, hg_30, hg_31⟩, hz⟩ := Z_chk hz
      obtain ⟨M_32, hM_32, hz⟩ := Z_lt hz
      refine R_copyJE (pc := 71) (S := []) (dc k_T_fillAnswers 43 rfl) ml_T_112 (lT_9 ht) (lT_11 ht) (Nat.le_add_left_of_le (lb rfl)) (qTn_k hnt (lb rfl)) (Nat.le_add_left_of_le (lb rfl)) (qTn_k hnt (lb rfl)) hg_27 hg_28 hg_29 hg_30 hg_31 (lb rfl) (lb rfl) hM_32 ?_
      refine R_aload_n (pc := 74) 1 (dc k_T_fillAnswers 44 rfl) rfl rfl ?_
      refine R_aload_n (pc := 75) 1 (dc k_T_fillAnswers 45 rfl) rfl rfl ?_
      refine R_getS (pc := 76) (ci := 1) (k := 18) (t + 11) (dc k_T_fillAnswers 46 rfl) fl_T_43 (lT ht) (qT1 ht) (qTn_0 hnt) hEt (rT_18 ht) (Nat.succ_ne_zero _) rfl ?_
      refine R_iload_n (pc := 79) 0 (dc k_T_fillAnswers 47 rfl) rfl rfl ?_
      refine R_iload_n (pc := 80) 2 (dc k_T_fillAnswers 48 rfl) rfl rfl ?_
      refine R_cVV (pc := 81)  (As := [vR (t + 11), vI r_19, vI l1_1]) (S := []) ck_T_155 (dc k_T_fillAnswers 49 rfl) ⟨(lT ht), ⟨_, rfl, rfl⟩, (qT1 ht), (qTn_0 hnt)⟩ (lb rfl) (lb rfl) (lb rfl) rfl (ct_T_widen hE hn ht (Z_bind hz)) (fun M_33 hz => ?_)
      refine R_aload_n (pc := 84) 1 (dc k_T_fillAnswers 50 rfl) rfl rfl ?_
      refine R_aload_n (pc := 85) 1 (dc k_T_fillAnswers 51 rfl) rfl rfl ?_
      refine R_getS (pc := 86) (ci := 1) (k := 18) (t + 11) (dc k_T_fillAnswers 52 rfl) fl_T_43 (lT ht) (qT1 ht) (qTn_0 hnt) hEt (rT_18 ht) (Nat.succ_ne_zero _) rfl ?_
      refine R_iload_n (pc := 89) 0 (dc k_T_fillAnswers 53 rfl) rfl rfl ?_
      refine R_cVV (pc := 90)  (As := [vR (t + 11), vI r_19]) (S := []) ck_T_152 (dc k_T_fillAnswers 54 rfl) ⟨(lT ht), ⟨_, rfl, rfl⟩, (qT1 ht), (qTn_0 hnt)⟩ (lb rfl) (lb rfl) (lb rfl) rfl (ct_T_flip hE hn ht (Z_bind hz)) (fun M_34 hz => ?_)
      obtain ⟨l2_35, hl2_35, hz⟩ := Z_lt hz
      refine R_iincE (pc := 93) (L' := [(2, vI l2_35), (3, vI r_19), (0, vR t), (1, vI l1_1)]) 3 (dc k_T_fillAnswers 55 rfl) rfl (lb rfl) hl2_35 rfl ?_
      refine R_goto (pc := 96) 12 (dc k_T_fillAnswers 56 rfl) rfl ?_
      refine R_sub [2, 3, 0] rfl ?_
      exact hC_16 _ (Z_some hz)

set_option maxRecDepth 20000 in
theorem ct_N_settle {E : Nat → Bool} {n : Nat} (hE : ∀ c, 1 ≤ c → c ≤ 80 → E c = true) (hn : 80 ≤ n) {M : Mem} {K : Mem → Prop} (hz : Z (N_settle M) K) : Mt y_N_settle (6, 150, n, n, E) E [vR 27] M (qV K) := by
  refine Mt.of (by decide) (lb rfl) (Nat.le_refl _) rfl ?_
  rw [N_settle] at hz
  show Rr y_N_settle (6, 150, n, n, E) (qV K) 0 [(0, vR 27)] [] E n M
  refine R_aload_n (pc := 0) 0 (dc k_N_settle 0 rfl) rfl rfl ?_
  obtain ⟨hg_1, hz⟩ := Z_chk hz
  obtain ⟨t_2, ht_2, hz⟩ := Z_lt hz
  obtain ⟨hq_3, ht_2t⟩ := isTI.at' hg_1 ht_2
  have hnt_2t := qTn ht_2t hn
  have hEt_2t := qTE ht_2t hE
  refine R_getR (pc := 1) (ci := 3) (k := 16) t_2 (dc k_N_settle 1 rfl) fl_N_54 rfl (lb rfl) (Nat.le_trans (lb rfl) hn) (Or.inr rfl) hq_3 (qT0 ht_2t) rfl ?_
  refine R_aload_n (pc := 4) 0 (dc k_N_settle 2 rfl) rfl rfl ?_
  refine R_getR (pc := 5) (ci := 3) (k := 16) t_2 (dc k_N_settle 3 rfl) fl_N_54 rfl (lb rfl) (Nat.le_trans (lb rfl) hn) (Or.inr rfl) hq_3 (qT0 ht_2t) rfl ?_
  refine R_getI (pc := 8) (ci := 1) (k := 0) (dc k_N_settle 4 rfl) fl_N_130 (lT ht_2t) (qT1 ht_2t) (qTn_0 hnt_2t) (rT_0 ht_2t) (Or.inl rfl) ?_
  refine R_bipush (pc := 11) (a := 6) (dc k_N_settle 5 rfl) (by decide) ?_
  obtain ⟨K_5, hK_6, hz⟩ := Z_cut hz
  have hJ_7 : ∀ (v_4 : Int), K_5 v_4 → Rr y_N_settle (6, 150, n, n, E) (qV K) 32 [(0, vR 27)] [vI v_4, vR t_2] E n M := by
    intro v_4 hk
    have hz := hK_6 _ hk
    obtain ⟨M_9, hM_9, hz⟩ := Z_lt hz
    refine R_putIE (pc := 32) (ci := 1) (k := 6) (dc k_N_settle 16 rfl) fl_N_250 (lT ht_2t) (qT1 ht_2t) (qTn_0 hnt_2t) (rT_6 ht_2t) rfl rfl hM_9 ?_
    refine R_aload_n (pc := 35) 0 (dc k_N_settle 17 rfl) rfl rfl ?_
    refine R_cVV (pc := 36)  (As := []) (S := []) ck_N_253 (dc k_N_settle 18 rfl) ⟨rfl, ⟨_, rfl, rfl⟩, (lb rfl), (Nat.le_trans (lb rfl) hn)⟩ (lb rfl) (lb rfl) (lb rfl) rfl (ct_N_fillLaw hE hn (Z_bind hz)) (fun M_10 hz => ?_)
    refine R_aload_n (pc := 39) 0 (dc k_N_settle 19 rfl) rfl rfl ?_
    refine R_iconst (pc := 40) (a := 0) (dc k_N_settle 20 rfl) ?_
    refine R_cVV (pc := 41)  (As := [vI 0]) (S := []) ck_N_256 (dc k_N_settle 21 rfl) ⟨rfl, ⟨_, rfl, rfl⟩, (lb rfl), (Nat.le_trans (lb rfl) hn)⟩ (lb rfl) (lb rfl) (lb rfl) rfl (ct_N_fillRows hE hn (Z_bind hz)) (fun M_11 hz => ?_)
    refine R_iconst (pc := 44) (a := 0) (dc k_N_settle 22 rfl) ?_
    refine R_istore_n (pc := 45) (L' := [(1, vI 0), (0, vR 27)]) (dc k_N_settle 23 rfl) rfl (lb rfl) rfl ?_
    obtain ⟨K_14, hK_15, hz⟩ := Z_cut hz
    have hX_16 : ∀ (M_20 : Mem), K_14 M_20 → Rr y_N_settle (6, 150, n, n, E) (qV K) 79 [(0, vR 27)] [] E n M_20 := by
      intro M_20 hk
      have hz := hK_15 _ hk
      refine R_iconst (pc := 79) (a := 0) (dc k_N_settle 39 rfl) ?_
      refine R_istore_n (pc := 80) (L' := [(1, vI 0), (0, vR 27)]) (dc k_N_settle 40 rfl) rfl (lb rfl) rfl ?_
      obtain ⟨K_32, hK_33, hz⟩ := Z_cut hz
      have hX_34 : ∀ (M_38 : Mem), K_32 M_38 → Rr y_N_settle (6, 150, n, n, E) (qV K) 159 [(0, vR 27)] [] E n M_38 := by
        intro M_38 hk
        have hz := hK_33 _ hk
        refine R_aload_n (pc := 159) 0 (dc k_N_settle 79 rfl) rfl rfl ?_
        refine R_iconst (pc := 160) (a := 1) (dc k_N_settle 80 rfl) ?_
        refine R_cVV (pc := 161)  (As := [vI 1]) (S := []) ck_N_256 (dc k_N_settle 81 rfl) ⟨rfl, ⟨_, rfl, rfl⟩, (lb rfl), (Nat.le_trans (lb rfl) hn)⟩ (lb rfl) (lb rfl) (lb rfl) rfl (ct_N_fillRows hE hn (Z_bind hz)) (fun M_60 hz => ?_)
        refine R_aload_n (pc := 164) 0 (dc k_N_settle 82 rfl) rfl rfl ?_
        obtain ⟨hg_61, hz⟩ := Z_chk hz
        obtain ⟨t_62, ht_62, hz⟩ := Z_lt hz
        obtain ⟨hq_63, ht_62t⟩ := isTI.at' hg_61 ht_62
        have hnt_62t := qTn ht_62t hn
        have hEt_62t := qTE ht_62t hE
        refine R_getR (pc := 165) (ci := 3) (k := 16) t_62 (dc k_N_settle 83 rfl) fl_N_54 rfl (lb rfl) (Nat.le_trans (lb rfl) hn) (Or.inr rfl) hq_63 (qT0 ht_62t) rfl ?_
        refine R_cVV (pc := 168)  (As := []) (S := []) ck_N_282 (dc k_N_settle 84 rfl) ⟨(lT ht_62t), ⟨_, rfl, rfl⟩, (qT1 ht_62t), (qTn_0 hnt_62t)⟩ (lb rfl) (lb rfl) (lb rfl) rfl (ct_T_fillAnswers hE hn ht_62t (Z_bind hz)) (fun M_64 hz => ?_)
        exact R_vret (pc := 171) (dc k_N_settle 85 rfl) rfl rfl rfl ⟨rfl, (Z_some hz)⟩
      refine R_sub [1, 0] rfl ?_
      refine it_R (C := fun aZ : Int × Mem => Rr y_N_settle (6, 150, n, n, E) (qV K) 81 [(0, vR 27), (1, vI aZ.1)] [] E n aZ.2) (fun aZ K_35 hC_36 hB_37 hz => ?_) FUEL (0, M_20) hz
      obtain ⟨l1_30, M_31⟩ := aZ
      rw [N_settle_b81] at hz
      show Rr y_N_settle (6, 150, n, n, E) (qV K) 81 [(0, vR 27), (1, vI l1_30)] [] E n M_31
      refine R_iload_n (pc := 81) 1 (dc k_N_settle 41 rfl) rfl rfl ?_
      refine R_aload_n (pc := 82) 0 (dc k_N_settle 42 rfl) rfl rfl ?_
      refine R_getI (pc := 83) (ci := 3) (k := 10) (dc k_N_settle 43 rfl) fl_N_67 rfl (lb rfl) (Nat.le_trans (lb rfl) hn) rfl (Or.inl rfl) ?_
      refine R_icmp_ge (pc := 86) 159 (dc k_N_settle 44 rfl) rfl (fun hc => ?_) (fun hc => ?_)
      · have hz := Z_neg (show ¬ (n32 l1_30 < n32 (M_31 27 10)) from (Int.not_lt.mpr hc)) hz
        refine R_sub [0] rfl ?_
        exact hX_34 _ (hB_37 _ (Z_some hz))
      · have hz := Z_pos (show n32 l1_30 < n32 (M_31 27 10) from (Int.not_le.mp hc)) hz
        refine R_aload_n (pc := 89) 0 (dc k_N_settle 45 rfl) rfl rfl ?_
        refine R_getS (pc := 90) (ci := 3) (k := 1) 28 (dc k_N_settle 46 rfl) fl_N_12 rfl (lb rfl) (Nat.le_trans (lb rfl) hn) (hE 27 (lb rfl) (lb rfl)) rfl (by decide) rfl ?_
        refine R_aload_n (pc := 93) 0 (dc k_N_settle 47 rfl) rfl rfl ?_
        obtain ⟨hg_39, hz⟩ := Z_chk hz
        obtain ⟨t_40, ht_40, hz⟩ := Z_lt hz
        obtain ⟨hq_41, ht_40t⟩ := isTI.at' hg_39 ht_40
        have hnt_40t := qTn ht_40t hn
        have hEt_40t := qTE ht_40t hE
        refine R_getR (pc := 94) (ci := 3) (k := 16) t_40 (dc k_N_settle 48 rfl) fl_N_54 rfl (lb rfl) (Nat.le_trans (lb rfl) hn) (Or.inr rfl) hq_41 (qT0 ht_40t) rfl ?_
        refine R_aload_n (pc := 97) 0 (dc k_N_settle 49 rfl) rfl rfl ?_
        refine R_getS (pc := 98) (ci := 3) (k := 8) 38 (dc k_N_settle 50 rfl) fl_N_39 rfl (lb rfl) (Nat.le_trans (lb rfl) hn) (hE 27 (lb rfl) (lb rfl)) rfl (by decide) rfl ?_
        refine R_iload_n (pc := 101) 1 (dc k_N_settle 51 rfl) rfl rfl ?_
        obtain ⟨⟨hg_42, hg_43⟩, hz⟩ := Z_chk hz
        refine R_iald (pc := 102) (dc k_N_settle 52 rfl) rfl (lb rfl) (Nat.le_trans (lb rfl) hn) hg_42 hg_43 ?_
        refine R_aload_n (pc := 103) 0 (dc k_N_settle 53 rfl) rfl rfl ?_
        refine R_getS (pc := 104) (ci := 3) (k := 9) 39 (dc k_N_settle 54 rfl) fl_N_42 rfl (lb rfl) (Nat.le_trans (lb rfl) hn) (hE 27 (lb rfl) (lb rfl)) rfl (by decide) rfl ?_
        refine R_iload_n (pc := 107) 1 (dc k_N_settle 55 rfl) rfl rfl ?_
        refine R_iald (pc := 108) (dc k_N_settle 56 rfl) rfl (lb rfl) (Nat.le_trans (lb rfl) hn) hg_42 hg_43 ?_
        refine R_cVV (pc := 109)  (As := [vR t_40, vI (M_31 38 (Int.toNat l1_30)), vI (M_31 39 (Int.toNat l1_30))]) (S := []) ck_N_265 (dc k_N_settle 57 rfl) ⟨rfl, ⟨_, rfl, rfl⟩, (lb rfl), (Nat.le_trans (lb rfl) hn)⟩ (lb rfl) (lb rfl) (lb rfl) rfl (ct_S_putSet hE hn ht_40t (Z_bind hz)) (fun M_44 hz => ?_)
        refine R_aload_n (pc := 112) 0 (dc k_N_settle 58 rfl) rfl rfl ?_
        obtain ⟨hg_45, hz⟩ := Z_chk hz
        obtain ⟨t_46, ht_46, hz⟩ := Z_lt hz
        obtain ⟨hq_47, ht_46t⟩ := isTI.at' hg_45 ht_46
        have hnt_46t := qTn ht_46t hn
        have hEt_46t := qTE ht_46t hE
        refine R_getR (pc := 113) (ci := 3) (k := 16) t_46 (dc k_N_settle 59 rfl) fl_N_54 rfl (lb rfl) (Nat.le_trans (lb rfl) hn) (Or.inr rfl) hq_47 (qT0 ht_46t) rfl ?_
        refine R_aload_n (pc := 116) 0 (dc k_N_settle 60 rfl) rfl rfl ?_
        refine R_getS (pc := 117) (ci := 3) (k := 1) 28 (dc k_N_settle 61 rfl) fl_N_12 rfl (lb rfl) (Nat.le_trans (lb rfl) hn) (hE 27 (lb rfl) (lb rfl)) rfl (by decide) rfl ?_
        refine R_getS (pc := 120) (ci := 4) (k := 2) 30 (dc k_N_settle 62 rfl) fl_N_269 rfl (lb rfl) (Nat.le_trans (lb rfl) hn) (hE 28 (lb rfl) (lb rfl)) rfl (by decide) rfl ?_
        refine R_iconst (pc := 123) (a := 0) (dc k_N_settle 63 rfl) ?_
        refine R_cVV (pc := 124)  (As := [vR 30, vI 0]) (S := []) ck_N_272 (dc k_N_settle 64 rfl) ⟨(lT ht_46t), ⟨_, rfl, rfl⟩, (qT1 ht_46t), (qTn_0 hnt_46t)⟩ (lb rfl) (lb rfl) (lb rfl) rfl (ct_T_keepBase hE hn ht_46t (Z_bind hz)) (fun M_48 hz => ?_)
        refine R_aload_n (pc := 127) 0 (dc k_N_settle 65 rfl) rfl rfl ?_
        refine R_getS (pc := 128) (ci := 3) (k := 1) 28 (dc k_N_settle 66 rfl) fl_N_12 rfl (lb rfl) (Nat.le_trans (lb rfl) hn) (hE 27 (lb rfl) (lb rfl)) rfl (by decide) rfl ?_
        refine R_getS (pc := 131) (ci := 4) (k := 2) 30 (dc k_N_settle 67 rfl) fl_N_269 rfl (lb rfl) (Nat.le_trans (lb rfl) hn) (hE 28 (lb rfl) (lb rfl)) rfl (by decide) rfl ?_
        refine R_iconst (pc := 134) (a := 0) (dc k_N_settle 68 rfl) ?_
        refine R_aload_n (pc := 135) 0 (dc k_N_settle 69 rfl) rfl rfl ?_
        obtain ⟨hg_49, hz⟩ := Z_chk hz
        obtain ⟨t_50, ht_50, hz⟩ := Z_lt hz
        obtain ⟨hq_51, ht_50t⟩ := isTI.at' hg_49 ht_50
        have hnt_50t := qTn ht_50t hn
        have hEt_50t := qTE ht_50t hE
        refine R_getR (pc := 136) (ci := 3) (k := 16) t_50 (dc k_N_settle 70 rfl) fl_N_54 rfl (lb rfl) (Nat.le_trans (lb rfl) hn) (Or.inr rfl) hq_51 (qT0 ht_50t) rfl ?_
        refine R_getS (pc := 139) (ci := 1) (k := 15) (t_50 + 8) (dc k_N_settle 71 rfl) fl_N_259 (lT ht_50t) (qT1 ht_50t) (qTn_0 hnt_50t) hEt_50t (rT_15 ht_50t) (Nat.succ_ne_zero _) rfl ?_
        refine R_iconst (pc := 142) (a := 0) (dc k_N_settle 72 rfl) ?_
        refine R_aload_n (pc := 143) 0 (dc k_N_settle 73 rfl) rfl rfl ?_
        refine R_getR (pc := 144) (ci := 3) (k := 16) t_50 (dc k_N_settle 74 rfl) fl_N_54 rfl (lb rfl) (Nat.le_trans (lb rfl) hn) (Or.inr rfl) hq_51 (qT0 ht_50t) rfl ?_
        refine R_getI (pc := 147) (ci := 1) (k := 6) (dc k_N_settle 75 rfl) fl_N_250 (lT ht_50t) (qT1 ht_50t) (qTn_0 hnt_50t) (rT_6 ht_50t) (Or.inl rfl) ?_
        obtain ⟨⟨hg_52, hg_53, hg_54, hg_55, hg_56⟩, hz⟩ := Z_chk hz
        obtain ⟨M_57, hM_57, hz⟩ := Z_lt hz
        refine R_copyJE (pc := 150) (S := []) (dc k_N_settle 76 rfl) ml_N_276 rfl (lT_8 ht_50t) (lb rfl) (Nat.le_trans (lb rfl) hn) (Nat.le_add_left_of_le (lb rfl)) (qTn_k hnt_50t (lb rfl)) hg_52 hg_53 hg_54 hg_55 hg_56 (lb rfl) (lb rfl) hM_57 ?_
        obtain ⟨l1_58, hl1_58, hz⟩ := Z_lt hz
        refine R_iincE (pc := 153) (L' := [(1, vI l1_58), (0, vR 27)]) 1 (dc k_N_settle 77 rfl) rfl (lb rfl) hl1_58 rfl ?_
        refine R_goto (pc := 156) 81 (dc k_N_settle 78 rfl) rfl ?_
        refine R_sub [1, 0] rfl ?_
        exact hC_36 _ (Z_some hz)
    refine R_sub [1, 0] rfl ?_
    refine it_R (C := fun aZ : Int × Mem => Rr y_N_settle (6, 150, n, n, E) (qV K) 46 [(0, vR 27), (1, vI aZ.1)] [] E n aZ.2) (fun aZ K_17 hC_18 hB_19 hz => ?_) FUEL (0, M_11) hz
    obtain ⟨l1_12, M_13⟩ := aZ
    rw [N_settle_b46] at hz
    show Rr y_N_settle (6, 150, n, n, E) (qV K) 46 [(0, vR 27), (1, vI l1_12)] [] E n M_13
    refine R_iload_n (pc := 46) 1 (dc k_N_settle 24 rfl) rfl rfl ?_
    refine R_aload_n (pc := 47) 0 (dc k_N_settle 25 rfl) rfl rfl ?_
    obtain ⟨hg_21, hz⟩ := Z_chk hz
    obtain ⟨t_22, ht_22, hz⟩ := Z_lt hz
    obtain ⟨hq_23, ht_22t⟩ := isTI.at' hg_21 ht_22
    have hnt_22t := qTn ht_22t hn
    have hEt_22t := qTE ht_22t hE
    refine R_getR (pc := 48) (ci := 3) (k := 16) t_22 (dc k_N_settle 26 rfl) fl_N_54 rfl (lb rfl) (Nat.le_trans (lb rfl) hn) (Or.inr rfl) hq_23 (qT0 ht_22t) rfl ?_
    refine R_getI (pc := 51) (ci := 1) (k := 6) (dc k_N_settle 27 rfl) fl_N_250 (lT ht_22t) (qT1 ht_22t) (qTn_0 hnt_22t) (rT_6 ht_22t) (Or.inl rfl) ?_
    refine R_icmp_ge (pc := 54) 79 (dc k_N_settle 28 rfl) rfl (fun hc => ?_) (fun hc => ?_)
    · have hz := Z_neg (show ¬ (n32 l1_12 < n32 (M_13 t_22 6)) from (Int.not_lt.mpr hc)) hz
      refine R_sub [0] rfl ?_
      exact hX_16 _ (hB_19 _ (Z_some hz))
    · have hz := Z_pos (show n32 l1_12 < n32 (M_13 t_22 6) from (Int.not_le.mp hc)) hz
      refine R_aload_n (pc := 57) 0 (dc k_N_settle 29 rfl) rfl rfl ?_
      refine R_getR (pc := 58) (ci := 3) (k := 16) t_22 (dc k_N_settle 30 rfl) fl_N_54 rfl (lb rfl) (Nat.le_trans (lb rfl) hn) (Or.inr rfl) hq_23 (qT0 ht_22t) rfl ?_
      refine R_getS (pc := 61) (ci := 1) (k := 15) (t_22 + 8) (dc k_N_settle 31 rfl) fl_N_259 (lT ht_22t) (qT1 ht_22t) (qTn_0 hnt_22t) hEt_22t (rT_15 ht_22t) (Nat.succ_ne_zero _) rfl ?_
      refine R_iload_n (pc := 64) 1 (dc k_N_settle 32 rfl) rfl rfl ?_
      refine R_aload_n (pc := 65) 0 (dc k_N_settle 33 rfl) rfl rfl ?_
      refine R_getR (pc := 66) (ci := 3) (k := 16) t_22 (dc k_N_settle 34 rfl) fl_N_54 rfl (lb rfl) (Nat.le_trans (lb rfl) hn) (Or.inr rfl) hq_23 (qT0 ht_22t) rfl ?_
      refine R_cVJ (pc := 69)  (As := []) (S := [vI l1_12, vR (t_22 + 8)]) ck_N_262 (dc k_N_settle 35 rfl) ⟨(lT ht_22t), ⟨_, rfl, rfl⟩, (qT1 ht_22t), (qTn_0 hnt_22t)⟩ (lb rfl) (lb rfl) (lb rfl) rfl (ct_T_allOfWord hE hn ht_22t (Z_bind hz)) (fun r_24 hz => ?_)
      obtain ⟨⟨hg_25, hg_26⟩, hz⟩ := Z_chk hz
      obtain ⟨M_27, hM_27, hz⟩ := Z_lt hz
      refine R_lastE (pc := 72) (dc k_N_settle 36 rfl) (lT_8 ht_22t) (Nat.le_add_left_of_le (lb rfl)) (qTn_k hnt_22t (lb rfl)) hg_25 hg_26 hM_27 ?_
      obtain ⟨l1_28, hl1_28, hz⟩ := Z_lt hz
      refine R_iincE (pc := 73) (L' := [(1, vI l1_28), (0, vR 27)]) 1 (dc k_N_settle 37 rfl) rfl (lb rfl) hl1_28 rfl ?_
      refine R_goto (pc := 76) 46 (dc k_N_settle 38 rfl) rfl ?_
      refine R_sub [1, 0] rfl ?_
      exact hC_18 _ (Z_some hz)
  refine R_icmp_gt (pc := 13) 20 (dc k_N_settle 6 rfl) rfl (fun hc => ?_) (fun hc => ?_)
  · have hz := Z_neg (show ¬ (n32 (M t_2 0) ≤ 6) from (Int.not_le.mpr hc)) hz
    refine R_iconst (pc := 20) (a := 1) (dc k_N_settle 9 rfl) ?_
    refine R_aload_n (pc := 21) 0 (dc k_N_settle 10 rfl) rfl rfl ?_
    refine R_getR (pc := 22) (ci := 3) (k := 16) t_2 (dc k_N_settle 11 rfl) fl_N_54 rfl (lb rfl) (Nat.le_trans (lb rfl) hn) (Or.inr rfl) hq_3 (qT0 ht_2t) rfl ?_
    refine R_getI (pc := 25) (ci := 1) (k := 0) (dc k_N_settle 12 rfl) fl_N_130 (lT ht_2t) (qT1 ht_2t) (qTn_0 hnt_2t) (rT_0 ht_2t) (Or.inl rfl) ?_
    refine R_bipush (pc := 28) (a := 6) (dc k_N_settle 13 rfl) (by decide) ?_
    refine R_isub (pc := 30) (dc k_N_settle 14 rfl) ?_
    refine R_ishl (pc := 31) (dc k_N_settle 15 rfl) ?_
    exact hJ_7 _ (Z_some hz)
  · have hz := Z_pos (show n32 (M t_2 0) ≤ 6 from (Int.not_lt.mp hc)) hz
    refine R_iconst (pc := 16) (a := 1) (dc k_N_settle 7 rfl) ?_
    refine R_goto (pc := 17) 32 (dc k_N_settle 8 rfl) rfl ?_
    exact hJ_7 _ (Z_some hz)

set_option maxRecDepth 20000 in
theorem ct_X_putFour {E : Nat → Bool} {n : Nat} (hE : ∀ c, 1 ≤ c → c ≤ 80 → E c = true) (hn : 80 ≤ n) {number : Int} {M : Mem} {K : Mem → Prop} (hz : Z (X_putFour number M) K) : Mt y_X_putFour (0, 0, n, n, E) E [vR 1, vI number] M (qV K) := by
  refine Mt.of (by decide) (lb rfl) (Nat.le_refl _) rfl ?_
  rw [X_putFour] at hz
  show Rr y_X_putFour (0, 0, n, n, E) (qV K) 0 [(0, vR 1), (1, vI number)] [] E n M
  refine R_bipush (pc := 0) (a := 24) (dc k_X_putFour 0 rfl) (by decide) ?_
  refine R_istore_n (pc := 2) (L' := [(2, vI 24), (0, vR 1), (1, vI number)]) (dc k_X_putFour 1 rfl) rfl (lb rfl) rfl ?_
  obtain ⟨K_3, hK_4, hz⟩ := Z_cut hz
  have hX_5 : ∀ (M_9 : Mem), K_3 M_9 → Rr y_X_putFour (0, 0, n, n, E) (qV K) 46 [] [] E n M_9 := by
    intro M_9 hk
    have hz := hK_4 _ hk
    exact R_vret (pc := 46) (dc k_X_putFour 25 rfl) rfl rfl rfl ⟨rfl, (Z_some hz)⟩
  refine R_sub [1, 2, 0] rfl ?_
  refine it_R (C := fun aZ : Int × Mem => Rr y_X_putFour (0, 0, n, n, E) (qV K) 3 [(0, vR 1), (1, vI number), (2, vI aZ.1)] [] E n aZ.2) (fun aZ K_6 hC_7 hB_8 hz => ?_) FUEL (24, M) hz
  obtain ⟨l2_1, M_2⟩ := aZ
  rw [X_putFour_b3] at hz
  show Rr y_X_putFour (0, 0, n, n, E) (qV K) 3 [(0, vR 1), (1, vI number), (2, vI l2_1)] [] E n M_2
  refine R_iload_n (pc := 3) 2 (dc k_X_putFour 2 rfl) rfl rfl ?_
  have hX_17 : ((0 ≤ n32 l2_1) ∧ (n32 (M_2 1 1) < 1600)) → Rr y_X_putFour (0, 0, n, n, E) (qV K) 17 [(0, vR 1), (1, vI number), (2, vI l2_1)] [] E n M_2 := by
    intro hc
    have hz := Z_pos hc hz
    refine R_aload_n (pc := 17) 0 (dc k_X_putFour 8 rfl) rfl rfl ?_
    refine R_getS (pc := 18) (ci := 0) (k := 0) 2 (dc k_X_putFour 9 rfl) fl_X_9 rfl (lb rfl) (Nat.le_trans (lb rfl) hn) (hE 1 (lb rfl) (lb rfl)) rfl (by decide) rfl ?_
    refine R_aload_n (pc := 21) 0 (dc k_X_putFour 10 rfl) rfl rfl ?_
    refine R_getI (pc := 22) (ci := 0) (k := 1) (dc k_X_putFour 11 rfl) fl_X_82 rfl (lb rfl) (Nat.le_trans (lb rfl) hn) rfl (Or.inl rfl) ?_
    refine R_iload_n (pc := 25) 1 (dc k_X_putFour 12 rfl) rfl rfl ?_
    refine R_iload_n (pc := 26) 2 (dc k_X_putFour 13 rfl) rfl rfl ?_
    refine R_ishr (pc := 27) (dc k_X_putFour 14 rfl) ?_
    refine R_i2b (pc := 28) (dc k_X_putFour 15 rfl) ?_
    obtain ⟨⟨hg_10, hg_11⟩, hz⟩ := Z_chk hz
    obtain ⟨⟨hg_12, hg_13⟩, hz⟩ := Z_chk hz
    obtain ⟨M_14, hM_14, hz⟩ := Z_lt hz
    refine R_bastE (pc := 29) (dc k_X_putFour 16 rfl) rfl (lb rfl) (Nat.le_trans (lb rfl) hn) hg_10 hg_11 ⟨hg_12, hg_13⟩ hM_14 ?_
    refine R_aload_n (pc := 30) 0 (dc k_X_putFour 17 rfl) rfl rfl ?_
    refine R_dup (pc := 31) (dc k_X_putFour 18 rfl) rfl ?_
    refine R_getI (pc := 32) (ci := 0) (k := 1) (dc k_X_putFour 19 rfl) fl_X_82 rfl (lb rfl) (Nat.le_trans (lb rfl) hn) rfl (Or.inl rfl) ?_
    refine R_iconst (pc := 35) (a := 1) (dc k_X_putFour 20 rfl) ?_
    refine R_iadd (pc := 36) (dc k_X_putFour 21 rfl) ?_
    obtain ⟨M_15, hM_15, hz⟩ := Z_lt hz
    refine R_putIE (pc := 37) (ci := 0) (k := 1) (dc k_X_putFour 22 rfl) fl_X_82 rfl (lb rfl) (Nat.le_trans (lb rfl) hn) rfl rfl rfl hM_15 ?_
    obtain ⟨l2_16, hl2_16, hz⟩ := Z_lt hz
    refine R_iincE (pc := 40) (L' := [(2, vI l2_16), (0, vR 1), (1, vI number)]) 2 (dc k_X_putFour 23 rfl) rfl (lb rfl) hl2_16 rfl ?_
    refine R_goto (pc := 43) 3 (dc k_X_putFour 24 rfl) rfl ?_
    refine R_sub [1, 2, 0] rfl ?_
    exact hC_7 _ (Z_some hz)
  have hY_18 : ¬ ((0 ≤ n32 l2_1) ∧ (n32 (M_2 1 1) < 1600)) → Rr y_X_putFour (0, 0, n, n, E) (qV K) 46 [(0, vR 1), (1, vI number), (2, vI l2_1)] [] E n M_2 := by
    intro hc
    have hz := Z_neg hc hz
    refine R_sub [] rfl ?_
    exact hX_5 _ (hB_8 _ (Z_some hz))
  refine R_if_lt (pc := 4) 46 (dc k_X_putFour 3 rfl) rfl (fun hc => ?_) (fun hc => ?_)
  · have hc_19 : n32 l2_1 < 0 := hc
    exact hY_18 (fun z => (Int.not_le.mpr hc_19) z.1)
  · have hc_20 : 0 ≤ n32 l2_1 := (Int.not_lt.mp hc)
    refine R_aload_n (pc := 7) 0 (dc k_X_putFour 4 rfl) rfl rfl ?_
    refine R_getI (pc := 8) (ci := 0) (k := 1) (dc k_X_putFour 5 rfl) fl_X_82 rfl (lb rfl) (Nat.le_trans (lb rfl) hn) rfl (Or.inl rfl) ?_
    refine R_sipush (pc := 11) (a := 1600) (dc k_X_putFour 6 rfl) (by decide) ?_
    refine R_icmp_ge (pc := 14) 46 (dc k_X_putFour 7 rfl) rfl (fun hc => ?_) (fun hc => ?_)
    · have hc_21 : 1600 ≤ n32 (M_2 1 1) := hc
      exact hY_18 (fun z => (Int.not_lt.mpr hc_21) z.2)
    · have hc_22 : n32 (M_2 1 1) < 1600 := (Int.not_le.mp hc)
      exact hX_17 ⟨hc_20, hc_22⟩

set_option maxRecDepth 20000 in
theorem ct_X_feed {E : Nat → Bool} {n : Nat} (hE : ∀ c, 1 ≤ c → c ≤ 80 → E c = true) (hn : 80 ≤ n) {a : Int} {b : Int} {c : Int} {d : Int} {e : Int} {M : Mem} {K : Int × Mem → Prop} (hz : Z (X_feed a b c d e M) K) : Mt y_X_feed (1, 22, n, n, E) E [vR 1, vI a, vI b, vI c, vI d, vI e] M (qM K) := by
  refine Mt.of (by decide) (lb rfl) (Nat.le_refl _) rfl ?_
  rw [X_feed] at hz
  show Rr y_X_feed (1, 22, n, n, E) (qM K) 0 [(0, vR 1), (1, vI a), (2, vI b), (3, vI c), (4, vI d), (5, vI e)] [] E n M
  refine R_aload_n (pc := 0) 0 (dc k_X_feed 0 rfl) rfl rfl ?_
  refine R_getI (pc := 1) (ci := 0) (k := 1) (dc k_X_feed 1 rfl) fl_X_82 rfl (lb rfl) (Nat.le_trans (lb rfl) hn) rfl (Or.inl rfl) ?_
  refine R_bipush (pc := 4) (a := 20) (dc k_X_feed 2 rfl) (by decide) ?_
  refine R_iadd (pc := 6) (dc k_X_feed 3 rfl) ?_
  refine R_sipush (pc := 7) (a := 1600) (dc k_X_feed 4 rfl) (by decide) ?_
  refine R_icmp_le (pc := 10) 15 (dc k_X_feed 5 rfl) rfl (fun hc => ?_) (fun hc => ?_)
  · have hz := Z_neg (show ¬ (1600 < n32 ((M 1 1) + 20)) from (Int.not_lt.mpr hc)) hz
    refine R_aload_n (pc := 15) 0 (dc k_X_feed 8 rfl) rfl rfl ?_
    refine R_iload_n (pc := 16) 1 (dc k_X_feed 9 rfl) rfl rfl ?_
    refine R_cVV (pc := 17)  (As := [vI a]) (S := []) ck_X_86 (dc k_X_feed 10 rfl) ⟨rfl, ⟨_, rfl, rfl⟩, (lb rfl), (Nat.le_trans (lb rfl) hn)⟩ (lb rfl) (lb rfl) (lb rfl) rfl (ct_X_putFour hE hn (Z_bind hz)) (fun M_1 hz => ?_)
    refine R_aload_n (pc := 20) 0 (dc k_X_feed 11 rfl) rfl rfl ?_
    refine R_iload_n (pc := 21) 2 (dc k_X_feed 12 rfl) rfl rfl ?_
    refine R_cVV (pc := 22)  (As := [vI b]) (S := []) ck_X_86 (dc k_X_feed 13 rfl) ⟨rfl, ⟨_, rfl, rfl⟩, (lb rfl), (Nat.le_trans (lb rfl) hn)⟩ (lb rfl) (lb rfl) (lb rfl) rfl (ct_X_putFour hE hn (Z_bind hz)) (fun M_2 hz => ?_)
    refine R_aload_n (pc := 25) 0 (dc k_X_feed 14 rfl) rfl rfl ?_
    refine R_iload_n (pc := 26) 3 (dc k_X_feed 15 rfl) rfl rfl ?_
    refine R_cVV (pc := 27)  (As := [vI c]) (S := []) ck_X_86 (dc k_X_feed 16 rfl) ⟨rfl, ⟨_, rfl, rfl⟩, (lb rfl), (Nat.le_trans (lb rfl) hn)⟩ (lb rfl) (lb rfl) (lb rfl) rfl (ct_X_putFour hE hn (Z_bind hz)) (fun M_3 hz => ?_)
    refine R_aload_n (pc := 30) 0 (dc k_X_feed 17 rfl) rfl rfl ?_
    refine R_iload (pc := 31) 4 (dc k_X_feed 18 rfl) rfl ?_
    refine R_cVV (pc := 33)  (As := [vI d]) (S := []) ck_X_86 (dc k_X_feed 19 rfl) ⟨rfl, ⟨_, rfl, rfl⟩, (lb rfl), (Nat.le_trans (lb rfl) hn)⟩ (lb rfl) (lb rfl) (lb rfl) rfl (ct_X_putFour hE hn (Z_bind hz)) (fun M_4 hz => ?_)
    refine R_aload_n (pc := 36) 0 (dc k_X_feed 20 rfl) rfl rfl ?_
    refine R_iload (pc := 37) 5 (dc k_X_feed 21 rfl) rfl ?_
    refine R_cVV (pc := 39)  (As := [vI e]) (S := []) ck_X_86 (dc k_X_feed 22 rfl) ⟨rfl, ⟨_, rfl, rfl⟩, (lb rfl), (Nat.le_trans (lb rfl) hn)⟩ (lb rfl) (lb rfl) (lb rfl) rfl (ct_X_putFour hE hn (Z_bind hz)) (fun M_5 hz => ?_)
    refine R_aload_n (pc := 42) 0 (dc k_X_feed 23 rfl) rfl rfl ?_
    refine R_getI (pc := 43) (ci := 0) (k := 1) (dc k_X_feed 24 rfl) fl_X_82 rfl (lb rfl) (Nat.le_trans (lb rfl) hn) rfl (Or.inl rfl) ?_
    exact R_iret (pc := 46) (dc k_X_feed 25 rfl) rfl rfl rfl ⟨_, rfl, (Z_some hz)⟩
  · have hz := Z_pos (show 1600 < n32 ((M 1 1) + 20) from (Int.not_le.mp hc)) hz
    refine R_iconst (pc := 13) (a := (-1)) (dc k_X_feed 6 rfl) ?_
    exact R_iret (pc := 14) (dc k_X_feed 7 rfl) rfl rfl rfl ⟨_, rfl, (Z_some hz)⟩

set_option maxRecDepth 20000 in
theorem ct_X_end {E : Nat → Bool} {n : Nat} (hE : ∀ c, 1 ≤ c → c ≤ 80 → E c = true) (hn : 80 ≤ n) {n_ : Int} {M : Mem} {K : Int × Mem → Prop} (hz : Z (X_end n_ M) K) : Mt y_X_end (0, 0, n, n, E) E [vR 1, vI n_] M (qM K) := by
  refine Mt.of (by decide) (lb rfl) (Nat.le_refl _) rfl ?_
  rw [X_end] at hz
  show Rr y_X_end (0, 0, n, n, E) (qM K) 0 [(0, vR 1), (1, vI n_)] [] E n M
  refine R_iload_n (pc := 0) 1 (dc k_X_end 0 rfl) rfl rfl ?_
  have hX_2 : ((n32 n_ < 0) ∨ (n32 (M 1 1) < n32 n_)) → Rr y_X_end (0, 0, n, n, E) (qM K) 12 [(0, vR 1), (1, vI n_)] [] E n M := by
    intro hc
    have hz := Z_pos hc hz
    refine R_iconst (pc := 12) (a := (-1)) (dc k_X_end 6 rfl) ?_
    exact R_iret (pc := 13) (dc k_X_end 7 rfl) rfl rfl rfl ⟨_, rfl, (Z_some hz)⟩
  have hY_3 : ¬ ((n32 n_ < 0) ∨ (n32 (M 1 1) < n32 n_)) → Rr y_X_end (0, 0, n, n, E) (qM K) 14 [(0, vR 1), (1, vI n_)] [] E n M := by
    intro hc
    have hz := Z_neg hc hz
    refine R_aload_n (pc := 14) 0 (dc k_X_end 8 rfl) rfl rfl ?_
    refine R_iload_n (pc := 15) 1 (dc k_X_end 9 rfl) rfl rfl ?_
    obtain ⟨M_1, hM_1, hz⟩ := Z_lt hz
    refine R_putIE (pc := 16) (ci := 0) (k := 1) (dc k_X_end 10 rfl) fl_X_82 rfl (lb rfl) (Nat.le_trans (lb rfl) hn) rfl rfl rfl hM_1 ?_
    refine R_iload_n (pc := 19) 1 (dc k_X_end 11 rfl) rfl rfl ?_
    exact R_iret (pc := 20) (dc k_X_end 12 rfl) rfl rfl rfl ⟨_, rfl, (Z_some hz)⟩
  refine R_if_lt (pc := 1) 12 (dc k_X_end 1 rfl) rfl (fun hc => ?_) (fun hc => ?_)
  · have hc_4 : n32 n_ < 0 := hc
    exact hX_2 (Or.inl hc_4)
  · have hc_5 : 0 ≤ n32 n_ := (Int.not_lt.mp hc)
    refine R_iload_n (pc := 4) 1 (dc k_X_end 2 rfl) rfl rfl ?_
    refine R_aload_n (pc := 5) 0 (dc k_X_end 3 rfl) rfl rfl ?_
    refine R_getI (pc := 6) (ci := 0) (k := 1) (dc k_X_end 4 rfl) fl_X_82 rfl (lb rfl) (Nat.le_trans (lb rfl) hn) rfl (Or.inl rfl) ?_
    refine R_icmp_le (pc := 9) 14 (dc k_X_end 5 rfl) rfl (fun hc => ?_) (fun hc => ?_)
    · have hc_6 : n32 n_ ≤ n32 (M 1 1) := hc
      exact hY_3 (fun z => z.elim (Int.not_lt.mpr hc_5) (Int.not_lt.mpr hc_6))
    · have hc_7 : n32 (M 1 1) < n32 n_ := (Int.not_le.mp hc)
      exact hX_2 (Or.inr hc_7)

set_option maxRecDepth 20000 in
theorem ct_JL_bitCount {E : Nat → Bool} {n : Nat} {a0 : Int} {M : Mem} {K : Int → Prop} (hz : Z (JL_bitCount a0 M) K) : Mt y_JL_bitCount (0, 0, n, n, E) E [vJ a0] M (qP M K) := by
  refine Mt.of (by decide) (lb rfl) (Nat.le_refl _) rfl ?_
  rw [JL_bitCount] at hz
  show Rr y_JL_bitCount (0, 0, n, n, E) (qP M K) 0 [(0, vJ a0)] [] E n M
  refine R_lload_n (pc := 0) 0 (dc k_JL_bitCount 0 rfl) rfl rfl ?_
  refine R_lload_n (pc := 1) 0 (dc k_JL_bitCount 1 rfl) rfl rfl ?_
  refine R_iconst (pc := 2) (a := 1) (dc k_JL_bitCount 2 rfl) ?_
  refine R_lushr (pc := 3) (dc k_JL_bitCount 3 rfl) ?_
  refine R_ldc2 (pc := 4) (a := 6148914691236517205) (dc k_JL_bitCount 4 rfl) c_JL_314 ?_
  refine R_land (pc := 7) (dc k_JL_bitCount 5 rfl) ?_
  refine R_lsub (pc := 8) (dc k_JL_bitCount 6 rfl) ?_
  obtain ⟨l0_1, hl0_1, hz⟩ := Z_lt hz
  refine R_lstore_nE (pc := 9) (L' := [(0, vJ l0_1)]) (dc k_JL_bitCount 7 rfl) rfl (lb rfl) hl0_1 rfl ?_
  refine R_lload_n (pc := 10) 0 (dc k_JL_bitCount 8 rfl) rfl rfl ?_
  refine R_ldc2 (pc := 11) (a := 3689348814741910323) (dc k_JL_bitCount 9 rfl) c_JL_316 ?_
  refine R_land (pc := 14) (dc k_JL_bitCount 10 rfl) ?_
  refine R_lload_n (pc := 15) 0 (dc k_JL_bitCount 11 rfl) rfl rfl ?_
  refine R_iconst (pc := 16) (a := 2) (dc k_JL_bitCount 12 rfl) ?_
  refine R_lushr (pc := 17) (dc k_JL_bitCount 13 rfl) ?_
  refine R_ldc2 (pc := 18) (a := 3689348814741910323) (dc k_JL_bitCount 14 rfl) c_JL_316 ?_
  refine R_land (pc := 21) (dc k_JL_bitCount 15 rfl) ?_
  refine R_ladd (pc := 22) (dc k_JL_bitCount 16 rfl) ?_
  obtain ⟨l0_2, hl0_2, hz⟩ := Z_lt hz
  refine R_lstore_nE (pc := 23) (L' := [(0, vJ l0_2)]) (dc k_JL_bitCount 17 rfl) rfl (lb rfl) hl0_2 rfl ?_
  refine R_lload_n (pc := 24) 0 (dc k_JL_bitCount 18 rfl) rfl rfl ?_
  refine R_lload_n (pc := 25) 0 (dc k_JL_bitCount 19 rfl) rfl rfl ?_
  refine R_iconst (pc := 26) (a := 4) (dc k_JL_bitCount 20 rfl) ?_
  refine R_lushr (pc := 27) (dc k_JL_bitCount 21 rfl) ?_
  refine R_ladd (pc := 28) (dc k_JL_bitCount 22 rfl) ?_
  refine R_ldc2 (pc := 29) (a := 1085102592571150095) (dc k_JL_bitCount 23 rfl) c_JL_318 ?_
  refine R_land (pc := 32) (dc k_JL_bitCount 24 rfl) ?_
  obtain ⟨l0_3, hl0_3, hz⟩ := Z_lt hz
  refine R_lstore_nE (pc := 33) (L' := [(0, vJ l0_3)]) (dc k_JL_bitCount 25 rfl) rfl (lb rfl) hl0_3 rfl ?_
  refine R_lload_n (pc := 34) 0 (dc k_JL_bitCount 26 rfl) rfl rfl ?_
  refine R_lload_n (pc := 35) 0 (dc k_JL_bitCount 27 rfl) rfl rfl ?_
  refine R_bipush (pc := 36) (a := 8) (dc k_JL_bitCount 28 rfl) (by decide) ?_
  refine R_lushr (pc := 38) (dc k_JL_bitCount 29 rfl) ?_
  refine R_ladd (pc := 39) (dc k_JL_bitCount 30 rfl) ?_
  obtain ⟨l0_4, hl0_4, hz⟩ := Z_lt hz
  refine R_lstore_nE (pc := 40) (L' := [(0, vJ l0_4)]) (dc k_JL_bitCount 31 rfl) rfl (lb rfl) hl0_4 rfl ?_
  refine R_lload_n (pc := 41) 0 (dc k_JL_bitCount 32 rfl) rfl rfl ?_
  refine R_lload_n (pc := 42) 0 (dc k_JL_bitCount 33 rfl) rfl rfl ?_
  refine R_bipush (pc := 43) (a := 16) (dc k_JL_bitCount 34 rfl) (by decide) ?_
  refine R_lushr (pc := 45) (dc k_JL_bitCount 35 rfl) ?_
  refine R_ladd (pc := 46) (dc k_JL_bitCount 36 rfl) ?_
  obtain ⟨l0_5, hl0_5, hz⟩ := Z_lt hz
  refine R_lstore_nE (pc := 47) (L' := [(0, vJ l0_5)]) (dc k_JL_bitCount 37 rfl) rfl (lb rfl) hl0_5 rfl ?_
  refine R_lload_n (pc := 48) 0 (dc k_JL_bitCount 38 rfl) rfl rfl ?_
  refine R_lload_n (pc := 49) 0 (dc k_JL_bitCount 39 rfl) rfl rfl ?_
  refine R_bipush (pc := 50) (a := 32) (dc k_JL_bitCount 40 rfl) (by decide) ?_
  refine R_lushr (pc := 52) (dc k_JL_bitCount 41 rfl) ?_
  refine R_ladd (pc := 53) (dc k_JL_bitCount 42 rfl) ?_
  obtain ⟨l0_6, hl0_6, hz⟩ := Z_lt hz
  refine R_lstore_nE (pc := 54) (L' := [(0, vJ l0_6)]) (dc k_JL_bitCount 43 rfl) rfl (lb rfl) hl0_6 rfl ?_
  refine R_lload_n (pc := 55) 0 (dc k_JL_bitCount 44 rfl) rfl rfl ?_
  refine R_l2i (pc := 56) (dc k_JL_bitCount 45 rfl) ?_
  refine R_bipush (pc := 57) (a := 127) (dc k_JL_bitCount 46 rfl) (by decide) ?_
  refine R_iand (pc := 59) (dc k_JL_bitCount 47 rfl) ?_
  exact R_iret (pc := 60) (dc k_JL_bitCount 48 rfl) rfl rfl rfl ⟨_, rfl, rfl, (Z_some hz)⟩

set_option maxRecDepth 20000 in
theorem ct_X_sizeOfSet {E : Nat → Bool} {n : Nat} (hE : ∀ c, 1 ≤ c → c ≤ 80 → E c = true) (hn : 80 ≤ n) {sets : Nat} {at_ : Int} {words : Int} {M : Mem} {K : Int → Prop} (hz : Z (X_sizeOfSet sets at_ words M) K) : Mt y_X_sizeOfSet (1, 21, n, n, E) E [vR sets, vI at_, vI words] M (qP M K) := by
  refine Mt.of (by decide) (lb rfl) (Nat.le_refl _) rfl ?_
  rw [X_sizeOfSet] at hz
  show Rr y_X_sizeOfSet (1, 21, n, n, E) (qP M K) 0 [(0, vR sets), (1, vI at_), (2, vI words)] [] E n M
  refine R_iconst (pc := 0) (a := 0) (dc k_X_sizeOfSet 0 rfl) ?_
  refine R_istore_n (pc := 1) (L' := [(3, vI 0), (0, vR sets), (1, vI at_), (2, vI words)]) (dc k_X_sizeOfSet 1 rfl) rfl (lb rfl) rfl ?_
  refine R_iconst (pc := 2) (a := 0) (dc k_X_sizeOfSet 2 rfl) ?_
  refine R_istore (pc := 3) (L' := [(4, vI 0), (3, vI 0), (0, vR sets), (1, vI at_), (2, vI words)]) (dc k_X_sizeOfSet 3 rfl) (lb rfl) rfl ?_
  obtain ⟨K_3, hK_4, hz⟩ := Z_cut hz
  have hX_5 : ∀ (l3_9 : Int), K_3 l3_9 → Rr y_X_sizeOfSet (1, 21, n, n, E) (qP M K) 29 [(3, vI l3_9)] [] E n M := by
    intro l3_9 hk
    have hz := hK_4 _ hk
    refine R_iload_n (pc := 29) 0 (dc k_X_sizeOfSet 18 rfl) rfl rfl ?_
    exact R_iret (pc := 30) (dc k_X_sizeOfSet 19 rfl) rfl rfl rfl ⟨_, rfl, rfl, (Z_some hz)⟩
  refine R_sub [2, 3, 4, 1, 0] rfl ?_
  refine it_R (C := fun aZ : Int × Int => Rr y_X_sizeOfSet (1, 21, n, n, E) (qP M K) 5 [(0, vR sets), (1, vI at_), (2, vI words), (3, vI aZ.1), (4, vI aZ.2)] [] E n M) (fun aZ K_6 hC_7 hB_8 hz => ?_) FUEL (0, 0) hz
  obtain ⟨l3_1, l4_2⟩ := aZ
  rw [X_sizeOfSet_b5] at hz
  show Rr y_X_sizeOfSet (1, 21, n, n, E) (qP M K) 5 [(0, vR sets), (1, vI at_), (2, vI words), (3, vI l3_1), (4, vI l4_2)] [] E n M
  refine R_iload (pc := 5) 4 (dc k_X_sizeOfSet 4 rfl) rfl ?_
  refine R_iload_n (pc := 7) 2 (dc k_X_sizeOfSet 5 rfl) rfl rfl ?_
  refine R_icmp_ge (pc := 8) 29 (dc k_X_sizeOfSet 6 rfl) rfl (fun hc => ?_) (fun hc => ?_)
  · have hz := Z_neg (show ¬ (n32 l4_2 < n32 words) from (Int.not_lt.mpr hc)) hz
    refine R_sub [3] rfl ?_
    exact hX_5 _ (hB_8 _ (Z_some hz))
  · have hz := Z_pos (show n32 l4_2 < n32 words from (Int.not_le.mp hc)) hz
    refine R_iload_n (pc := 11) 3 (dc k_X_sizeOfSet 7 rfl) rfl rfl ?_
    refine R_aload_n (pc := 12) 0 (dc k_X_sizeOfSet 8 rfl) rfl rfl ?_
    refine R_iload_n (pc := 13) 1 (dc k_X_sizeOfSet 9 rfl) rfl rfl ?_
    refine R_iload (pc := 14) 4 (dc k_X_sizeOfSet 10 rfl) rfl ?_
    refine R_iadd (pc := 16) (dc k_X_sizeOfSet 11 rfl) ?_
    obtain ⟨⟨hg_10, hg_11⟩, hz⟩ := Z_chk hz
    obtain ⟨hg_12, hg_13, hg_14, hg_15, hg_16⟩ := aJ_at hg_10 hg_11
    refine R_lald (pc := 17) (dc k_X_sizeOfSet 12 rfl) hg_13 hg_16 (Nat.le_trans hg_15 hn) hg_10 hg_14 ?_
    refine R_cSP (pc := 18)  (As := [vJ (M sets (Int.toNat (at_ + l4_2)))]) (S := [vI l3_1]) ck_X_256 (dc k_X_sizeOfSet 13 rfl) (lb rfl) (lb rfl) (lb rfl) rfl (ct_JL_bitCount (Z_bind hz)) (fun r_17 hz => ?_)
    refine R_iadd (pc := 21) (dc k_X_sizeOfSet 14 rfl) ?_
    obtain ⟨l3_18, hl3_18, hz⟩ := Z_lt hz
    refine R_istore_nE (pc := 22) (L' := [(3, vI l3_18), (0, vR sets), (1, vI at_), (2, vI words), (4, vI l4_2)]) (dc k_X_sizeOfSet 15 rfl) rfl (lb rfl) hl3_18 rfl ?_
    obtain ⟨l4_19, hl4_19, hz⟩ := Z_lt hz
    refine R_iincE (pc := 23) (L' := [(4, vI l4_19), (3, vI l3_18), (0, vR sets), (1, vI at_), (2, vI words)]) 4 (dc k_X_sizeOfSet 16 rfl) rfl (lb rfl) hl4_19 rfl ?_
    refine R_goto (pc := 26) 5 (dc k_X_sizeOfSet 17 rfl) rfl ?_
    refine R_sub [2, 3, 4, 1, 0] rfl ?_
    exact hC_7 _ (Z_some hz)

set_option maxRecDepth 20000 in
theorem ct_T_size {E : Nat → Bool} {n : Nat} (hE : ∀ c, 1 ≤ c → c ≤ 80 → E c = true) (hn : 80 ≤ n) {t : Nat} (ht : isT t) {M : Mem} {K : Int → Prop} (hz : Z (T_size t M) K) : Mt y_T_size (2, 45, n, n, E) E [vR t] M (qP M K) := by
  refine Mt.of (by decide) (lb rfl) (Nat.le_refl _) rfl ?_
  rw [T_size] at hz
  have hnt := qTn ht hn
  have hEt := qTE ht hE
  show Rr y_T_size (2, 45, n, n, E) (qP M K) 0 [(0, vR t)] [] E n M
  refine R_aload_n (pc := 0) 0 (dc k_T_size 0 rfl) rfl rfl ?_
  refine R_getS (pc := 1) (ci := 1) (k := 15) (t + 8) (dc k_T_size 1 rfl) fl_T_33 (lT ht) (qT1 ht) (qTn_0 hnt) hEt (rT_15 ht) (Nat.succ_ne_zero _) rfl ?_
  refine R_iconst (pc := 4) (a := 0) (dc k_T_size 2 rfl) ?_
  refine R_aload_n (pc := 5) 0 (dc k_T_size 3 rfl) rfl rfl ?_
  refine R_getI (pc := 6) (ci := 1) (k := 6) (dc k_T_size 4 rfl) fl_T_68 (lT ht) (qT1 ht) (qTn_0 hnt) (rT_6 ht) (Or.inl rfl) ?_
  refine R_cSP (pc := 9)  (As := [vR (t + 8), vI 0, vI (M t 6)]) (S := []) ck_T_71 (dc k_T_size 5 rfl) (lb rfl) (lb rfl) (lb rfl) rfl (ct_X_sizeOfSet hE hn (Z_bind hz)) (fun r_1 hz => ?_)
  exact R_iret (pc := 12) (dc k_T_size 6 rfl) rfl rfl rfl ⟨_, rfl, rfl, (Z_some hz)⟩

set_option maxRecDepth 20000 in
theorem ct_X_town {E : Nat → Bool} {n : Nat} (hE : ∀ c, 1 ≤ c → c ≤ 80 → E c = true) (hn : 80 ≤ n) {M : Mem} {K : Int × Mem → Prop} (hz : Z (X_town M) K) : Mt y_X_town (60, 1350, n, n, E) E [vR 1] M (qM K) := by
  refine Mt.of (by decide) (lb rfl) (Nat.le_refl _) rfl ?_
  rw [X_town] at hz
  show Rr y_X_town (60, 1350, n, n, E) (qM K) 0 [(0, vR 1)] [] E n M
  refine R_aload_n (pc := 0) 0 (dc k_X_town 0 rfl) rfl rfl ?_
  refine R_getI (pc := 1) (ci := 0) (k := 1) (dc k_X_town 1 rfl) fl_X_82 rfl (lb rfl) (Nat.le_trans (lb rfl) hn) rfl (Or.inl rfl) ?_
  obtain ⟨l1_1, hl1_1, hz⟩ := Z_lt hz
  refine R_istore_nE (pc := 4) (L' := [(1, vI l1_1), (0, vR 1)]) (dc k_X_town 2 rfl) rfl (lb rfl) hl1_1 rfl ?_
  refine R_aload_n (pc := 5) 1 (dc k_X_town 3 rfl) rfl rfl ?_
  refine R_iconst (pc := 6) (a := 0) (dc k_X_town 4 rfl) ?_
  obtain ⟨M_2, hM_2, hz⟩ := Z_lt hz
  refine R_putIE (pc := 7) (ci := 0) (k := 1) (dc k_X_town 5 rfl) fl_X_82 rfl (lb rfl) (Nat.le_trans (lb rfl) hn) rfl rfl rfl hM_2 ?_
  refine R_aload_n (pc := 10) 1 (dc k_X_town 6 rfl) rfl rfl ?_
  refine R_getS (pc := 11) (ci := 0) (k := 4) 27 (dc k_X_town 7 rfl) fl_X_28 rfl (lb rfl) (Nat.le_trans (lb rfl) hn) (hE 1 (lb rfl) (lb rfl)) rfl (by decide) rfl ?_
  refine R_aload_n (pc := 14) 1 (dc k_X_town 8 rfl) rfl rfl ?_
  obtain ⟨hg_3, hz⟩ := Z_chk hz
  obtain ⟨t_4, ht_4, hz⟩ := Z_lt hz
  obtain ⟨hq_5, ht_4t⟩ := isTI.at' hg_3 ht_4
  have hnt_4t := qTn ht_4t hn
  have hEt_4t := qTE ht_4t hE
  refine R_getR (pc := 15) (ci := 0) (k := 3) t_4 (dc k_X_town 9 rfl) fl_X_20 rfl (lb rfl) (Nat.le_trans (lb rfl) hn) (Or.inr rfl) hq_5 (qT0 ht_4t) rfl ?_
  refine R_iload_n (pc := 18) 0 (dc k_X_town 10 rfl) rfl rfl ?_
  refine R_cVV (pc := 19)  (As := [vR t_4, vI l1_1]) (S := []) ck_X_75 (dc k_X_town 11 rfl) ⟨rfl, ⟨_, rfl, rfl⟩, (lb rfl), (Nat.le_trans (lb rfl) hn)⟩ (lb rfl) (lb rfl) (lb rfl) rfl (ct_N_readInto hE hn ht_4t (Z_bind hz)) (fun M_6 hz => ?_)
  refine R_aload_n (pc := 22) 1 (dc k_X_town 12 rfl) rfl rfl ?_
  refine R_getS (pc := 23) (ci := 0) (k := 4) 27 (dc k_X_town 13 rfl) fl_X_28 rfl (lb rfl) (Nat.le_trans (lb rfl) hn) (hE 1 (lb rfl) (lb rfl)) rfl (by decide) rfl ?_
  refine R_getS (pc := 26) (ci := 3) (k := 0) 40 (dc k_X_town 14 rfl) fl_X_90 rfl (lb rfl) (Nat.le_trans (lb rfl) hn) (hE 27 (lb rfl) (lb rfl)) rfl (by decide) rfl ?_
  refine R_getI (pc := 29) (ci := 2) (k := 8) (dc k_X_town 15 rfl) fl_X_94 rfl (lb rfl) (Nat.le_trans (lb rfl) hn) rfl (Or.inl rfl) ?_
  refine R_if_eq (pc := 32) 37 (dc k_X_town 16 rfl) rfl (fun hc => ?_) (fun hc => ?_)
  · have hz := Z_neg (show ¬ (¬ n32 (M_6 40 8) = 0) from (fun z => z hc)) hz
    refine R_aload_n (pc := 37) 1 (dc k_X_town 19 rfl) rfl rfl ?_
    refine R_getS (pc := 38) (ci := 0) (k := 4) 27 (dc k_X_town 20 rfl) fl_X_28 rfl (lb rfl) (Nat.le_trans (lb rfl) hn) (hE 1 (lb rfl) (lb rfl)) rfl (by decide) rfl ?_
    refine R_cVV (pc := 41)  (As := []) (S := []) ck_X_79 (dc k_X_town 21 rfl) ⟨rfl, ⟨_, rfl, rfl⟩, (lb rfl), (Nat.le_trans (lb rfl) hn)⟩ (lb rfl) (lb rfl) (lb rfl) rfl (ct_N_settle hE hn (Z_bind hz)) (fun M_7 hz => ?_)
    refine R_aload_n (pc := 44) 1 (dc k_X_town 22 rfl) rfl rfl ?_
    obtain ⟨hg_8, hz⟩ := Z_chk hz
    obtain ⟨t_9, ht_9, hz⟩ := Z_lt hz
    obtain ⟨hq_10, ht_9t⟩ := isTI.at' hg_8 ht_9
    have hnt_9t := qTn ht_9t hn
    have hEt_9t := qTE ht_9t hE
    refine R_getR (pc := 45) (ci := 0) (k := 2) t_9 (dc k_X_town 23 rfl) fl_X_16 rfl (lb rfl) (Nat.le_trans (lb rfl) hn) (Or.inr rfl) hq_10 (qT0 ht_9t) rfl ?_
    refine R_astore_n (pc := 48) (L' := [(2, vR t_9), (1, vI l1_1), (0, vR 1)]) (dc k_X_town 24 rfl) rfl (lb rfl) rfl ?_
    refine R_aload_n (pc := 49) 2 (dc k_X_town 25 rfl) rfl rfl ?_
    refine R_aload_n (pc := 50) 2 (dc k_X_town 26 rfl) rfl rfl ?_
    obtain ⟨hg_11, hz⟩ := Z_chk hz
    obtain ⟨t_12, ht_12, hz⟩ := Z_lt hz
    obtain ⟨hq_13, ht_12t⟩ := isTI.at' hg_11 ht_12
    have hnt_12t := qTn ht_12t hn
    have hEt_12t := qTE ht_12t hE
    refine R_getR (pc := 51) (ci := 0) (k := 3) t_12 (dc k_X_town 27 rfl) fl_X_20 rfl (lb rfl) (Nat.le_trans (lb rfl) hn) (Or.inr rfl) hq_13 (qT0 ht_12t) rfl ?_
    obtain ⟨M_14, hM_14, hz⟩ := Z_lt hz
    refine R_putRE (pc := 54) (ci := 0) (k := 2) (dc k_X_town 28 rfl) fl_X_16 rfl (lb rfl) (Nat.le_trans (lb rfl) hn) rfl rfl (qT0 ht_12t) (qTn_0 hnt_12t) rfl hM_14 ?_
    refine R_aload_n (pc := 57) 2 (dc k_X_town 29 rfl) rfl rfl ?_
    refine R_aload_n (pc := 58) 0 (dc k_X_town 30 rfl) rfl rfl ?_
    obtain ⟨M_15, hM_15, hz⟩ := Z_lt hz
    refine R_putRE (pc := 59) (ci := 0) (k := 3) (dc k_X_town 31 rfl) fl_X_20 rfl (lb rfl) (Nat.le_trans (lb rfl) hn) rfl rfl (qT0 ht_9t) (qTn_0 hnt_9t) rfl hM_15 ?_
    refine R_aload_n (pc := 62) 2 (dc k_X_town 32 rfl) rfl rfl ?_
    refine R_getS (pc := 63) (ci := 0) (k := 5) 42 (dc k_X_town 33 rfl) fl_X_35 rfl (lb rfl) (Nat.le_trans (lb rfl) hn) (hE 1 (lb rfl) (lb rfl)) rfl (by decide) rfl ?_
    refine R_iconst (pc := 66) (a := 0) (dc k_X_town 34 rfl) ?_
    obtain ⟨M_16, hM_16, hz⟩ := Z_lt hz
    refine R_putIE (pc := 67) (ci := 5) (k := 0) (dc k_X_town 35 rfl) fl_X_99 rfl (lb rfl) (Nat.le_trans (lb rfl) hn) rfl rfl rfl hM_16 ?_
    refine R_iconst (pc := 70) (a := 0) (dc k_X_town 36 rfl) ?_
    refine R_istore_n (pc := 71) (L' := [(3, vI 0), (2, vR t_9), (1, vI l1_1), (0, vR 1)]) (dc k_X_town 37 rfl) rfl (lb rfl) rfl ?_
    obtain ⟨K_19, hK_20, hz⟩ := Z_cut hz
    have hX_21 : ∀ (M_25 : Mem), K_19 M_25 → Rr y_X_town (60, 1350, n, n, E) (qM K) 93 [(0, vR 1)] [] E n M_25 := by
      intro M_25 hk
      have hz := hK_20 _ hk
      refine R_aload_n (pc := 93) 0 (dc k_X_town 49 rfl) rfl rfl ?_
      obtain ⟨hg_32, hz⟩ := Z_chk hz
      obtain ⟨t_33, ht_33, hz⟩ := Z_lt hz
      obtain ⟨hq_34, ht_33t⟩ := isTI.at' hg_32 ht_33
      have hnt_33t := qTn ht_33t hn
      have hEt_33t := qTE ht_33t hE
      refine R_getR (pc := 94) (ci := 0) (k := 2) t_33 (dc k_X_town 50 rfl) fl_X_16 rfl (lb rfl) (Nat.le_trans (lb rfl) hn) (Or.inr rfl) hq_34 (qT0 ht_33t) rfl ?_
      refine R_cVP (pc := 97)  (As := []) (S := []) ck_X_106 (dc k_X_town 51 rfl) ⟨(lT ht_33t), ⟨_, rfl, rfl⟩, (qT1 ht_33t), (qTn_0 hnt_33t)⟩ (lb rfl) (lb rfl) (lb rfl) rfl (ct_T_size hE hn ht_33t (Z_bind hz)) (fun r_35 hz => ?_)
      exact R_iret (pc := 100) (dc k_X_town 52 rfl) rfl rfl rfl ⟨_, rfl, (Z_some hz)⟩
    refine R_sub [3, 0] rfl ?_
    refine it_R (C := fun aZ : Int × Mem => Rr y_X_town (60, 1350, n, n, E) (qM K) 72 [(0, vR 1), (3, vI aZ.1)] [] E n aZ.2) (fun aZ K_22 hC_23 hB_24 hz => ?_) FUEL (0, M_16) hz
    obtain ⟨l3_17, M_18⟩ := aZ
    rw [X_town_b72] at hz
    show Rr y_X_town (60, 1350, n, n, E) (qM K) 72 [(0, vR 1), (3, vI l3_17)] [] E n M_18
    refine R_iload_n (pc := 72) 1 (dc k_X_town 38 rfl) rfl rfl ?_
    refine R_iconst (pc := 73) (a := 3) (dc k_X_town 39 rfl) ?_
    refine R_icmp_ge (pc := 74) 93 (dc k_X_town 40 rfl) rfl (fun hc => ?_) (fun hc => ?_)
    · have hz := Z_neg (show ¬ (n32 l3_17 < 3) from (Int.not_lt.mpr hc)) hz
      refine R_sub [0] rfl ?_
      exact hX_21 _ (hB_24 _ (Z_some hz))
    · have hz := Z_pos (show n32 l3_17 < 3 from (Int.not_le.mp hc)) hz
      refine R_aload_n (pc := 77) 0 (dc k_X_town 41 rfl) rfl rfl ?_
      refine R_getS (pc := 78) (ci := 0) (k := 6) 49 (dc k_X_town 42 rfl) fl_X_39 rfl (lb rfl) (Nat.le_trans (lb rfl) hn) (hE 1 (lb rfl) (lb rfl)) rfl (by decide) rfl ?_
      refine R_iload_n (pc := 81) 1 (dc k_X_town 43 rfl) rfl rfl ?_
      obtain ⟨⟨hg_26, hg_27⟩, hz⟩ := Z_chk hz
      obtain ⟨s_28, hs_28, hz⟩ := Z_lt hz
      obtain ⟨hqs_28, hs_28t⟩ := box_at hg_26 hg_27 hs_28 (hE 49 (lb rfl) (lb rfl)) M_18
      have hns_28t := qYn hs_28t hn
      have hEs_28t := qYE hs_28t hE
      refine R_aald (pc := 82) s_28 (dc k_X_town 44 rfl) rfl (lb rfl) (Nat.le_trans (lb rfl) hn) hg_26 hg_27 hqs_28 (qY0 hs_28t) ?_
      refine R_iconst (pc := 83) (a := 0) (dc k_X_town 45 rfl) ?_
      obtain ⟨M_29, hM_29, hz⟩ := Z_lt hz
      refine R_putZE (pc := 84) (ci := 5) (k := 1) (dc k_X_town 46 rfl) fl_X_102 (lY hs_28t) (qY1 hs_28t) (qYn_0 hns_28t) (rY_1 hs_28t) rfl rfl (Or.inl rfl) hM_29 ?_
      obtain ⟨l3_30, hl3_30, hz⟩ := Z_lt hz
      refine R_iincE (pc := 87) (L' := [(3, vI l3_30), (0, vR 1)]) 1 (dc k_X_town 47 rfl) rfl (lb rfl) hl3_30 rfl ?_
      refine R_goto (pc := 90) 72 (dc k_X_town 48 rfl) rfl ?_
      refine R_sub [1, 0] rfl ?_
      exact hC_23 _ (Z_some hz)
  · have hz := Z_pos (show ¬ n32 (M_6 40 8) = 0 from hc) hz
    refine R_iconst (pc := 35) (a := (-1)) (dc k_X_town 17 rfl) ?_
    exact R_iret (pc := 36) (dc k_X_town 18 rfl) rfl rfl rfl ⟨_, rfl, (Z_some hz)⟩

set_option maxRecDepth 20000 in
theorem ct_X_fault {E : Nat → Bool} {n : Nat} (hE : ∀ c, 1 ≤ c → c ≤ 80 → E c = true) (hn : 80 ≤ n) {what : Int} {M : Mem} {K : Int → Prop} (hz : Z (X_fault what M) K) : Mt y_X_fault (0, 0, n, n, E) E [vR 1, vI what] M (qP M K) := by
  refine Mt.of (by decide) (lb rfl) (Nat.le_refl _) rfl ?_
  rw [X_fault] at hz
  show Rr y_X_fault (0, 0, n, n, E) (qP M K) 0 [(0, vR 1), (1, vI what)] [] E n M
  refine R_iload_n (pc := 0) 1 (dc k_X_fault 0 rfl) rfl rfl ?_
  refine R_if_ne (pc := 1) 15 (dc k_X_fault 1 rfl) rfl (fun hc => ?_) (fun hc => ?_)
  · have hz := Z_neg (show ¬ (n32 what = 0) from hc) hz
    refine R_iload_n (pc := 15) 1 (dc k_X_fault 7 rfl) rfl rfl ?_
    refine R_iconst (pc := 16) (a := 1) (dc k_X_fault 8 rfl) ?_
    refine R_icmp_ne (pc := 17) 33 (dc k_X_fault 9 rfl) rfl (fun hc => ?_) (fun hc => ?_)
    · have hz := Z_neg (show ¬ (n32 what = 1) from hc) hz
      refine R_iconst (pc := 33) (a := (-1)) (dc k_X_fault 15 rfl) ?_
      exact R_iret (pc := 34) (dc k_X_fault 16 rfl) rfl rfl rfl ⟨_, rfl, rfl, (Z_some hz)⟩
    · have hz := Z_pos (show n32 what = 1 from (Decidable.not_not.mp hc)) hz
      refine R_aload_n (pc := 20) 0 (dc k_X_fault 10 rfl) rfl rfl ?_
      refine R_getS (pc := 21) (ci := 0) (k := 4) 27 (dc k_X_fault 11 rfl) fl_X_28 rfl (lb rfl) (Nat.le_trans (lb rfl) hn) (hE 1 (lb rfl) (lb rfl)) rfl (by decide) rfl ?_
      refine R_getS (pc := 24) (ci := 3) (k := 0) 40 (dc k_X_fault 12 rfl) fl_X_90 rfl (lb rfl) (Nat.le_trans (lb rfl) hn) (hE 27 (lb rfl) (lb rfl)) rfl (by decide) rfl ?_
      refine R_getI (pc := 27) (ci := 2) (k := 9) (dc k_X_fault 13 rfl) fl_X_110 rfl (lb rfl) (Nat.le_trans (lb rfl) hn) rfl (Or.inl rfl) ?_
      refine R_goto (pc := 30) 34 (dc k_X_fault 14 rfl) rfl ?_
      exact R_iret (pc := 34) (dc k_X_fault 16 rfl) rfl rfl rfl ⟨_, rfl, rfl, (Z_some hz)⟩
  · have hz := Z_pos (show n32 what = 0 from (Decidable.not_not.mp hc)) hz
    refine R_aload_n (pc := 4) 0 (dc k_X_fault 2 rfl) rfl rfl ?_
    refine R_getS (pc := 5) (ci := 0) (k := 4) 27 (dc k_X_fault 3 rfl) fl_X_28 rfl (lb rfl) (Nat.le_trans (lb rfl) hn) (hE 1 (lb rfl) (lb rfl)) rfl (by decide) rfl ?_
    refine R_getS (pc := 8) (ci := 3) (k := 0) 40 (dc k_X_fault 4 rfl) fl_X_90 rfl (lb rfl) (Nat.le_trans (lb rfl) hn) (hE 27 (lb rfl) (lb rfl)) rfl (by decide) rfl ?_
    refine R_getI (pc := 11) (ci := 2) (k := 8) (dc k_X_fault 5 rfl) fl_X_94 rfl (lb rfl) (Nat.le_trans (lb rfl) hn) rfl (Or.inl rfl) ?_
    exact R_iret (pc := 14) (dc k_X_fault 6 rfl) rfl rfl rfl ⟨_, rfl, rfl, (Z_some hz)⟩

set_option maxRecDepth 20000 in
theorem ct_T_hasRow {E : Nat → Bool} {n : Nat} (hE : ∀ c, 1 ≤ c → c ≤ 80 → E c = true) (hn : 80 ≤ n) {t : Nat} {row : Int} (ht : isT t) {M : Mem} {K : Int → Prop} (hz : Z (T_hasRow t row M) K) : Mt y_T_hasRow (0, 0, n, n, E) E [vR t, vI row] M (qP M K) := by
  refine Mt.of (by decide) (lb rfl) (Nat.le_refl _) rfl ?_
  rw [T_hasRow] at hz
  have hnt := qTn ht hn
  have hEt := qTE ht hE
  show Rr y_T_hasRow (0, 0, n, n, E) (qP M K) 0 [(0, vR t), (1, vI row)] [] E n M
  refine R_iload_n (pc := 0) 1 (dc k_T_hasRow 0 rfl) rfl rfl ?_
  have hX_1 : ((0 ≤ n32 row) ∧ (n32 row < n32 (M t 2))) → Rr y_T_hasRow (0, 0, n, n, E) (qP M K) 12 [(0, vR t), (1, vI row)] [] E n M := by
    intro hc
    have hz := Z_pos hc hz
    refine R_iconst (pc := 12) (a := 1) (dc k_T_hasRow 6 rfl) ?_
    refine R_goto (pc := 13) 17 (dc k_T_hasRow 7 rfl) rfl ?_
    exact R_zret (pc := 17) (dc k_T_hasRow 9 rfl) rfl (Or.inr rfl) rfl rfl ⟨_, rfl, rfl, (Z_some hz)⟩
  have hY_2 : ¬ ((0 ≤ n32 row) ∧ (n32 row < n32 (M t 2))) → Rr y_T_hasRow (0, 0, n, n, E) (qP M K) 16 [(0, vR t), (1, vI row)] [] E n M := by
    intro hc
    have hz := Z_neg hc hz
    refine R_iconst (pc := 16) (a := 0) (dc k_T_hasRow 8 rfl) ?_
    exact R_zret (pc := 17) (dc k_T_hasRow 9 rfl) rfl (Or.inl rfl) rfl rfl ⟨_, rfl, rfl, (Z_some hz)⟩
  refine R_if_lt (pc := 1) 16 (dc k_T_hasRow 1 rfl) rfl (fun hc => ?_) (fun hc => ?_)
  · have hc_3 : n32 row < 0 := hc
    exact hY_2 (fun z => (Int.not_le.mpr hc_3) z.1)
  · have hc_4 : 0 ≤ n32 row := (Int.not_lt.mp hc)
    refine R_iload_n (pc := 4) 1 (dc k_T_hasRow 2 rfl) rfl rfl ?_
    refine R_aload_n (pc := 5) 0 (dc k_T_hasRow 3 rfl) rfl rfl ?_
    refine R_getI (pc := 6) (ci := 1) (k := 2) (dc k_T_hasRow 4 rfl) fl_T_56 (lT ht) (qT1 ht) (qTn_0 hnt) (rT_2 ht) (Or.inl rfl) ?_
    refine R_icmp_ge (pc := 9) 16 (dc k_T_hasRow 5 rfl) rfl (fun hc => ?_) (fun hc => ?_)
    · have hc_5 : n32 (M t 2) ≤ n32 row := hc
      exact hY_2 (fun z => (Int.not_lt.mpr hc_5) z.2)
    · have hc_6 : n32 row < n32 (M t 2) := (Int.not_le.mp hc)
      exact hX_1 ⟨hc_4, hc_6⟩

set_option maxRecDepth 20000 in
theorem ct_X_has {E : Nat → Bool} {n : Nat} (hE : ∀ c, 1 ≤ c → c ≤ 80 → E c = true) (hn : 80 ≤ n) {sets : Nat} {at_ : Int} {world : Int} {M : Mem} {K : Int → Prop} (hz : Z (X_has sets at_ world M) K) : Mt y_X_has (0, 0, n, n, E) E [vR sets, vI at_, vI world] M (qP M K) := by
  refine Mt.of (by decide) (lb rfl) (Nat.le_refl _) rfl ?_
  rw [X_has] at hz
  show Rr y_X_has (0, 0, n, n, E) (qP M K) 0 [(0, vR sets), (1, vI at_), (2, vI world)] [] E n M
  refine R_aload_n (pc := 0) 0 (dc k_X_has 0 rfl) rfl rfl ?_
  refine R_iload_n (pc := 1) 1 (dc k_X_has 1 rfl) rfl rfl ?_
  refine R_iload_n (pc := 2) 2 (dc k_X_has 2 rfl) rfl rfl ?_
  refine R_bipush (pc := 3) (a := 6) (dc k_X_has 3 rfl) (by decide) ?_
  refine R_ishr (pc := 5) (dc k_X_has 4 rfl) ?_
  refine R_iadd (pc := 6) (dc k_X_has 5 rfl) ?_
  obtain ⟨⟨hg_1, hg_2⟩, hz⟩ := Z_chk hz
  obtain ⟨hg_3, hg_4, hg_5, hg_6, hg_7⟩ := aJ_at hg_1 hg_2
  refine R_lald (pc := 7) (dc k_X_has 6 rfl) hg_4 hg_7 (Nat.le_trans hg_6 hn) hg_1 hg_5 ?_
  refine R_iload_n (pc := 8) 2 (dc k_X_has 7 rfl) rfl rfl ?_
  refine R_bipush (pc := 9) (a := 63) (dc k_X_has 8 rfl) (by decide) ?_
  refine R_iand (pc := 11) (dc k_X_has 9 rfl) ?_
  refine R_lushr (pc := 12) (dc k_X_has 10 rfl) ?_
  refine R_lconst (pc := 13) (a := 1) (dc k_X_has 11 rfl) (by decide) ?_
  refine R_land (pc := 14) (dc k_X_has 12 rfl) ?_
  refine R_lconst (pc := 15) (a := 0) (dc k_X_has 13 rfl) (by decide) ?_
  refine R_lcmp (pc := 16) (dc k_X_has 14 rfl) ?_
  refine R_if_eq (pc := 17) 24 (dc k_X_has 15 rfl) rfl (fun hc => ?_) (fun hc => ?_)
  · have hz := Z_neg (show ¬ (¬ n64 (jand (jushr (M sets (Int.toNat (at_ + (ishr world 6)))) (iand world 63)) 1) = n64 0) from (fun z => z (jcmp_eq.mp hc))) hz
    refine R_iconst (pc := 24) (a := 0) (dc k_X_has 18 rfl) ?_
    exact R_zret (pc := 25) (dc k_X_has 19 rfl) rfl (Or.inl rfl) rfl rfl ⟨_, rfl, rfl, (Z_some hz)⟩
  · have hz := Z_pos (show ¬ n64 (jand (jushr (M sets (Int.toNat (at_ + (ishr world 6)))) (iand world 63)) 1) = n64 0 from (fun z => hc (jcmp_eq.mpr z))) hz
    refine R_iconst (pc := 20) (a := 1) (dc k_X_has 16 rfl) ?_
    refine R_goto (pc := 21) 25 (dc k_X_has 17 rfl) rfl ?_
    exact R_zret (pc := 25) (dc k_X_has 19 rfl) rfl (Or.inr rfl) rfl rfl ⟨_, rfl, rfl, (Z_some hz)⟩

set_option maxRecDepth 20000 in
theorem ct_T_hasWorld {E : Nat → Bool} {n : Nat} (hE : ∀ c, 1 ≤ c → c ≤ 80 → E c = true) (hn : 80 ≤ n) {t : Nat} {world : Int} (ht : isT t) {M : Mem} {K : Int → Prop} (hz : Z (T_hasWorld t world M) K) : Mt y_T_hasWorld (1, 22, n, n, E) E [vR t, vI world] M (qP M K) := by
  refine Mt.of (by decide) (lb rfl) (Nat.le_refl _) rfl ?_
  rw [T_hasWorld] at hz
  have hnt := qTn ht hn
  have hEt := qTE ht hE
  show Rr y_T_hasWorld (1, 22, n, n, E) (qP M K) 0 [(0, vR t), (1, vI world)] [] E n M
  refine R_iload_n (pc := 0) 1 (dc k_T_hasWorld 0 rfl) rfl rfl ?_
  obtain ⟨K_1, hK_2, hz⟩ := Z_cut hz
  have hX_3 : K_1 true → Rr y_T_hasWorld (1, 22, n, n, E) (qP M K) 26 [(0, vR t), (1, vI world)] [] E n M := by
    intro hk
    have hz := Z_pos rfl (hK_2 _ hk)
    refine R_iconst (pc := 26) (a := 1) (dc k_T_hasWorld 14 rfl) ?_
    refine R_goto (pc := 27) 31 (dc k_T_hasWorld 15 rfl) rfl ?_
    exact R_zret (pc := 31) (dc k_T_hasWorld 17 rfl) rfl (Or.inr rfl) rfl rfl ⟨_, rfl, rfl, (Z_some hz)⟩
  have hY_4 : K_1 false → Rr y_T_hasWorld (1, 22, n, n, E) (qP M K) 30 [(0, vR t), (1, vI world)] [] E n M := by
    intro hk
    have hz := Z_neg Bool.false_ne_true (hK_2 _ hk)
    refine R_iconst (pc := 30) (a := 0) (dc k_T_hasWorld 16 rfl) ?_
    exact R_zret (pc := 31) (dc k_T_hasWorld 17 rfl) rfl (Or.inl rfl) rfl rfl ⟨_, rfl, rfl, (Z_some hz)⟩
  refine R_if_lt (pc := 1) 30 (dc k_T_hasWorld 1 rfl) rfl (fun hc => ?_) (fun hc => ?_)
  · have hz := Z_neg (show ¬ (0 ≤ n32 world) from (Int.not_le.mpr hc)) hz
    exact hY_4 (Z_some hz)
  · have hz := Z_pos (show 0 ≤ n32 world from (Int.not_lt.mp hc)) hz
    refine R_iload_n (pc := 4) 1 (dc k_T_hasWorld 2 rfl) rfl rfl ?_
    refine R_iconst (pc := 5) (a := 1) (dc k_T_hasWorld 3 rfl) ?_
    refine R_aload_n (pc := 6) 0 (dc k_T_hasWorld 4 rfl) rfl rfl ?_
    refine R_getI (pc := 7) (ci := 1) (k := 0) (dc k_T_hasWorld 5 rfl) fl_T_49 (lT ht) (qT1 ht) (qTn_0 hnt) (rT_0 ht) (Or.inl rfl) ?_
    refine R_ishl (pc := 10) (dc k_T_hasWorld 6 rfl) ?_
    refine R_icmp_ge (pc := 11) 30 (dc k_T_hasWorld 7 rfl) rfl (fun hc => ?_) (fun hc => ?_)
    · have hz := Z_neg (show ¬ (n32 world < n32 (ishl 1 (M t 0))) from (Int.not_lt.mpr hc)) hz
      exact hY_4 (Z_some hz)
    · have hz := Z_pos (show n32 world < n32 (ishl 1 (M t 0)) from (Int.not_le.mp hc)) hz
      refine R_aload_n (pc := 14) 0 (dc k_T_hasWorld 8 rfl) rfl rfl ?_
      refine R_getS (pc := 15) (ci := 1) (k := 15) (t + 8) (dc k_T_hasWorld 9 rfl) fl_T_33 (lT ht) (qT1 ht) (qTn_0 hnt) hEt (rT_15 ht) (Nat.succ_ne_zero _) rfl ?_
      refine R_iconst (pc := 18) (a := 0) (dc k_T_hasWorld 10 rfl) ?_
      refine R_iload_n (pc := 19) 1 (dc k_T_hasWorld 11 rfl) rfl rfl ?_
      refine R_cSP (pc := 20)  (As := [vR (t + 8), vI 0, vI world]) (S := []) ck_T_75 (dc k_T_hasWorld 12 rfl) (lb rfl) (lb rfl) (lb rfl) rfl (ct_X_has hE hn (Z_bind hz)) (fun r_6 hz => ?_)
      refine R_if_eq (pc := 23) 30 (dc k_T_hasWorld 13 rfl) rfl (fun hc => ?_) (fun hc => ?_)
      · have hz := Z_neg (show ¬ (¬ n32 r_6 = 0) from (fun z => z hc)) hz
        exact hY_4 (Z_some hz)
      · have hz := Z_pos (show ¬ n32 r_6 = 0 from hc) hz
        exact hX_3 (Z_some hz)

set_option maxRecDepth 20000 in
theorem ct_T_canBe {E : Nat → Bool} {n : Nat} (hE : ∀ c, 1 ≤ c → c ≤ 80 → E c = true) (hn : 80 ≤ n) {t : Nat} {row : Int} {world : Int} (ht : isT t) {M : Mem} {K : Int → Prop} (hz : Z (T_canBe t row world M) K) : Mt y_T_canBe (2, 43, n, n, E) E [vR t, vI row, vI world] M (qP M K) := by
  refine Mt.of (by decide) (lb rfl) (Nat.le_refl _) rfl ?_
  rw [T_canBe] at hz
  have hnt := qTn ht hn
  have hEt := qTE ht hE
  show Rr y_T_canBe (2, 43, n, n, E) (qP M K) 0 [(0, vR t), (1, vI row), (2, vI world)] [] E n M
  refine R_aload_n (pc := 0) 0 (dc k_T_canBe 0 rfl) rfl rfl ?_
  refine R_iload_n (pc := 1) 1 (dc k_T_canBe 1 rfl) rfl rfl ?_
  refine R_cVP (pc := 2)  (As := [vI row]) (S := []) ck_T_79 (dc k_T_canBe 2 rfl) ⟨(lT ht), ⟨_, rfl, rfl⟩, (qT1 ht), (qTn_0 hnt)⟩ (lb rfl) (lb rfl) (lb rfl) rfl (ct_T_hasRow hE hn ht (Z_bind hz)) (fun r_1 hz => ?_)
  obtain ⟨K_2, hK_3, hz⟩ := Z_cut hz
  have hX_4 : K_2 true → Rr y_T_canBe (2, 43, n, n, E) (qP M K) 16 [(0, vR t), (1, vI row), (2, vI world)] [] E n M := by
    intro hk
    have hz := Z_pos rfl (hK_3 _ hk)
    refine R_iconst (pc := 16) (a := 1) (dc k_T_canBe 8 rfl) ?_
    refine R_goto (pc := 17) 21 (dc k_T_canBe 9 rfl) rfl ?_
    exact R_zret (pc := 21) (dc k_T_canBe 11 rfl) rfl (Or.inr rfl) rfl rfl ⟨_, rfl, rfl, (Z_some hz)⟩
  have hY_5 : K_2 false → Rr y_T_canBe (2, 43, n, n, E) (qP M K) 20 [(0, vR t), (1, vI row), (2, vI world)] [] E n M := by
    intro hk
    have hz := Z_neg Bool.false_ne_true (hK_3 _ hk)
    refine R_iconst (pc := 20) (a := 0) (dc k_T_canBe 10 rfl) ?_
    exact R_zret (pc := 21) (dc k_T_canBe 11 rfl) rfl (Or.inl rfl) rfl rfl ⟨_, rfl, rfl, (Z_some hz)⟩
  refine R_if_eq (pc := 5) 20 (dc k_T_canBe 3 rfl) rfl (fun hc => ?_) (fun hc => ?_)
  · have hz := Z_neg (show ¬ (¬ n32 r_1 = 0) from (fun z => z hc)) hz
    exact hY_5 (Z_some hz)
  · have hz := Z_pos (show ¬ n32 r_1 = 0 from hc) hz
    refine R_aload_n (pc := 8) 0 (dc k_T_canBe 4 rfl) rfl rfl ?_
    refine R_iload_n (pc := 9) 2 (dc k_T_canBe 5 rfl) rfl rfl ?_
    refine R_cVP (pc := 10)  (As := [vI world]) (S := []) ck_T_83 (dc k_T_canBe 6 rfl) ⟨(lT ht), ⟨_, rfl, rfl⟩, (qT1 ht), (qTn_0 hnt)⟩ (lb rfl) (lb rfl) (lb rfl) rfl (ct_T_hasWorld hE hn ht (Z_bind hz)) (fun r_7 hz => ?_)
    refine R_if_eq (pc := 13) 20 (dc k_T_canBe 7 rfl) rfl (fun hc => ?_) (fun hc => ?_)
    · have hz := Z_neg (show ¬ (¬ n32 r_7 = 0) from (fun z => z hc)) hz
      exact hY_5 (Z_some hz)
    · have hz := Z_pos (show ¬ n32 r_7 = 0 from hc) hz
      exact hX_4 (Z_some hz)

set_option maxRecDepth 20000 in
theorem ct_T_isSo {E : Nat → Bool} {n : Nat} (hE : ∀ c, 1 ≤ c → c ≤ 80 → E c = true) (hn : 80 ≤ n) {t : Nat} {row : Int} {world : Int} (ht : isT t) {M : Mem} {K : Int → Prop} (hz : Z (T_isSo t row world M) K) : Mt y_T_isSo (1, 22, n, n, E) E [vR t, vI row, vI world] M (qP M K) := by
  refine Mt.of (by decide) (lb rfl) (Nat.le_refl _) rfl ?_
  rw [T_isSo] at hz
  have hnt := qTn ht hn
  have hEt := qTE ht hE
  show Rr y_T_isSo (1, 22, n, n, E) (qP M K) 0 [(0, vR t), (1, vI row), (2, vI world)] [] E n M
  refine R_aload_n (pc := 0) 0 (dc k_T_isSo 0 rfl) rfl rfl ?_
  refine R_getS (pc := 1) (ci := 1) (k := 16) (t + 9) (dc k_T_isSo 1 rfl) fl_T_37 (lT ht) (qT1 ht) (qTn_0 hnt) hEt (rT_16 ht) (Nat.succ_ne_zero _) rfl ?_
  refine R_iload_n (pc := 4) 1 (dc k_T_isSo 2 rfl) rfl rfl ?_
  refine R_iconst (pc := 5) (a := 4) (dc k_T_isSo 3 rfl) ?_
  refine R_imul (pc := 6) (dc k_T_isSo 4 rfl) ?_
  refine R_iload_n (pc := 7) 2 (dc k_T_isSo 5 rfl) rfl rfl ?_
  refine R_cSP (pc := 8)  (As := [vR (t + 9), vI (row * 4), vI world]) (S := []) ck_T_75 (dc k_T_isSo 6 rfl) (lb rfl) (lb rfl) (lb rfl) rfl (ct_X_has hE hn (Z_bind hz)) (fun r_1 hz => ?_)
  obtain ⟨hg_2, hz⟩ := Z_chk hz
  exact R_zret (pc := 11) (dc k_T_isSo 7 rfl) rfl hg_2 rfl rfl ⟨_, rfl, rfl, (Z_some hz)⟩

set_option maxRecDepth 20000 in
theorem ct_X_is {E : Nat → Bool} {n : Nat} (hE : ∀ c, 1 ≤ c → c ≤ 80 → E c = true) (hn : 80 ≤ n) {row : Int} {world : Int} {M : Mem} {K : Int → Prop} (hz : Z (X_is row world M) K) : Mt y_X_is (3, 65, n, n, E) E [vR 1, vI row, vI world] M (qP M K) := by
  refine Mt.of (by decide) (lb rfl) (Nat.le_refl _) rfl ?_
  rw [X_is] at hz
  show Rr y_X_is (3, 65, n, n, E) (qP M K) 0 [(0, vR 1), (1, vI row), (2, vI world)] [] E n M
  refine R_aload_n (pc := 0) 0 (dc k_X_is 0 rfl) rfl rfl ?_
  obtain ⟨hg_1, hz⟩ := Z_chk hz
  obtain ⟨t_2, ht_2, hz⟩ := Z_lt hz
  obtain ⟨hq_3, ht_2t⟩ := isTI.at' hg_1 ht_2
  have hnt_2t := qTn ht_2t hn
  have hEt_2t := qTE ht_2t hE
  refine R_getR (pc := 1) (ci := 0) (k := 2) t_2 (dc k_X_is 1 rfl) fl_X_16 rfl (lb rfl) (Nat.le_trans (lb rfl) hn) (Or.inr rfl) hq_3 (qT0 ht_2t) rfl ?_
  refine R_iload_n (pc := 4) 1 (dc k_X_is 2 rfl) rfl rfl ?_
  refine R_iload_n (pc := 5) 2 (dc k_X_is 3 rfl) rfl rfl ?_
  refine R_cVP (pc := 6)  (As := [vI row, vI world]) (S := []) ck_X_113 (dc k_X_is 4 rfl) ⟨(lT ht_2t), ⟨_, rfl, rfl⟩, (qT1 ht_2t), (qTn_0 hnt_2t)⟩ (lb rfl) (lb rfl) (lb rfl) rfl (ct_T_canBe hE hn ht_2t (Z_bind hz)) (fun r_4 hz => ?_)
  refine R_if_ne (pc := 9) 14 (dc k_X_is 5 rfl) rfl (fun hc => ?_) (fun hc => ?_)
  · have hz := Z_neg (show ¬ (n32 r_4 = 0) from hc) hz
    refine R_aload_n (pc := 14) 0 (dc k_X_is 8 rfl) rfl rfl ?_
    refine R_getR (pc := 15) (ci := 0) (k := 2) t_2 (dc k_X_is 9 rfl) fl_X_16 rfl (lb rfl) (Nat.le_trans (lb rfl) hn) (Or.inr rfl) hq_3 (qT0 ht_2t) rfl ?_
    refine R_iload_n (pc := 18) 1 (dc k_X_is 10 rfl) rfl rfl ?_
    refine R_iload_n (pc := 19) 2 (dc k_X_is 11 rfl) rfl rfl ?_
    refine R_cVP (pc := 20)  (As := [vI row, vI world]) (S := []) ck_X_117 (dc k_X_is 12 rfl) ⟨(lT ht_2t), ⟨_, rfl, rfl⟩, (qT1 ht_2t), (qTn_0 hnt_2t)⟩ (lb rfl) (lb rfl) (lb rfl) rfl (ct_T_isSo hE hn ht_2t (Z_bind hz)) (fun r_5 hz => ?_)
    refine R_if_eq (pc := 23) 30 (dc k_X_is 13 rfl) rfl (fun hc => ?_) (fun hc => ?_)
    · have hz := Z_neg (show ¬ (¬ n32 r_5 = 0) from (fun z => z hc)) hz
      refine R_iconst (pc := 30) (a := 0) (dc k_X_is 16 rfl) ?_
      exact R_iret (pc := 31) (dc k_X_is 17 rfl) rfl rfl rfl ⟨_, rfl, rfl, (Z_some hz)⟩
    · have hz := Z_pos (show ¬ n32 r_5 = 0 from hc) hz
      refine R_iconst (pc := 26) (a := 1) (dc k_X_is 14 rfl) ?_
      refine R_goto (pc := 27) 31 (dc k_X_is 15 rfl) rfl ?_
      exact R_iret (pc := 31) (dc k_X_is 17 rfl) rfl rfl rfl ⟨_, rfl, rfl, (Z_some hz)⟩
  · have hz := Z_pos (show n32 r_4 = 0 from (Decidable.not_not.mp hc)) hz
    refine R_iconst (pc := 12) (a := (-1)) (dc k_X_is 6 rfl) ?_
    exact R_iret (pc := 13) (dc k_X_is 7 rfl) rfl rfl rfl ⟨_, rfl, rfl, (Z_some hz)⟩

set_option maxRecDepth 20000 in
theorem ct_T_hasPerson {E : Nat → Bool} {n : Nat} (hE : ∀ c, 1 ≤ c → c ≤ 80 → E c = true) (hn : 80 ≤ n) {t : Nat} {person : Int} (ht : isT t) {M : Mem} {K : Int → Prop} (hz : Z (T_hasPerson t person M) K) : Mt y_T_hasPerson (0, 0, n, n, E) E [vR t, vI person] M (qP M K) := by
  refine Mt.of (by decide) (lb rfl) (Nat.le_refl _) rfl ?_
  rw [T_hasPerson] at hz
  have hnt := qTn ht hn
  have hEt := qTE ht hE
  show Rr y_T_hasPerson (0, 0, n, n, E) (qP M K) 0 [(0, vR t), (1, vI person)] [] E n M
  refine R_iload_n (pc := 0) 1 (dc k_T_hasPerson 0 rfl) rfl rfl ?_
  have hX_1 : ((0 ≤ n32 person) ∧ (n32 person < n32 (M t 1))) → Rr y_T_hasPerson (0, 0, n, n, E) (qP M K) 12 [(0, vR t), (1, vI person)] [] E n M := by
    intro hc
    have hz := Z_pos hc hz
    refine R_iconst (pc := 12) (a := 1) (dc k_T_hasPerson 6 rfl) ?_
    refine R_goto (pc := 13) 17 (dc k_T_hasPerson 7 rfl) rfl ?_
    exact R_zret (pc := 17) (dc k_T_hasPerson 9 rfl) rfl (Or.inr rfl) rfl rfl ⟨_, rfl, rfl, (Z_some hz)⟩
  have hY_2 : ¬ ((0 ≤ n32 person) ∧ (n32 person < n32 (M t 1))) → Rr y_T_hasPerson (0, 0, n, n, E) (qP M K) 16 [(0, vR t), (1, vI person)] [] E n M := by
    intro hc
    have hz := Z_neg hc hz
    refine R_iconst (pc := 16) (a := 0) (dc k_T_hasPerson 8 rfl) ?_
    exact R_zret (pc := 17) (dc k_T_hasPerson 9 rfl) rfl (Or.inl rfl) rfl rfl ⟨_, rfl, rfl, (Z_some hz)⟩
  refine R_if_lt (pc := 1) 16 (dc k_T_hasPerson 1 rfl) rfl (fun hc => ?_) (fun hc => ?_)
  · have hc_3 : n32 person < 0 := hc
    exact hY_2 (fun z => (Int.not_le.mpr hc_3) z.1)
  · have hc_4 : 0 ≤ n32 person := (Int.not_lt.mp hc)
    refine R_iload_n (pc := 4) 1 (dc k_T_hasPerson 2 rfl) rfl rfl ?_
    refine R_aload_n (pc := 5) 0 (dc k_T_hasPerson 3 rfl) rfl rfl ?_
    refine R_getI (pc := 6) (ci := 1) (k := 1) (dc k_T_hasPerson 4 rfl) fl_T_53 (lT ht) (qT1 ht) (qTn_0 hnt) (rT_1 ht) (Or.inl rfl) ?_
    refine R_icmp_ge (pc := 9) 16 (dc k_T_hasPerson 5 rfl) rfl (fun hc => ?_) (fun hc => ?_)
    · have hc_5 : n32 (M t 1) ≤ n32 person := hc
      exact hY_2 (fun z => (Int.not_lt.mpr hc_5) z.2)
    · have hc_6 : n32 person < n32 (M t 1) := (Int.not_le.mp hc)
      exact hX_1 ⟨hc_4, hc_6⟩

set_option maxRecDepth 20000 in
theorem ct_T_answer {E : Nat → Bool} {n : Nat} (hE : ∀ c, 1 ≤ c → c ≤ 80 → E c = true) (hn : 80 ≤ n) {t : Nat} {person : Int} {row : Int} {world : Int} (ht : isT t) {M : Mem} {K : Int → Prop} (hz : Z (T_answer t person row world M) K) : Mt y_T_answer (1, 22, n, n, E) E [vR t, vI person, vI row, vI world] M (qP M K) := by
  refine Mt.of (by decide) (lb rfl) (Nat.le_refl _) rfl ?_
  rw [T_answer] at hz
  have hnt := qTn ht hn
  have hEt := qTE ht hE
  show Rr y_T_answer (1, 22, n, n, E) (qP M K) 0 [(0, vR t), (1, vI person), (2, vI row), (3, vI world)] [] E n M
  refine R_iload_n (pc := 0) 1 (dc k_T_answer 0 rfl) rfl rfl ?_
  refine R_iload_n (pc := 1) 2 (dc k_T_answer 1 rfl) rfl rfl ?_
  refine R_cSP (pc := 2)  (As := [vI person, vI row]) (S := []) ck_T_86 (dc k_T_answer 2 rfl) (lb rfl) (lb rfl) (lb rfl) rfl (ct_T_place hE hn (Z_bind hz)) (fun r_1 hz => ?_)
  refine R_istore (pc := 5) (L' := [(4, vI r_1), (0, vR t), (1, vI person), (2, vI row), (3, vI world)]) (dc k_T_answer 3 rfl) (lb rfl) rfl ?_
  refine R_aload_n (pc := 7) 1 (dc k_T_answer 4 rfl) rfl rfl ?_
  refine R_getS (pc := 8) (ci := 1) (k := 17) (t + 10) (dc k_T_answer 5 rfl) fl_T_40 (lT ht) (qT1 ht) (qTn_0 hnt) hEt (rT_17 ht) (Nat.succ_ne_zero _) rfl ?_
  refine R_iload (pc := 11) 0 (dc k_T_answer 6 rfl) rfl ?_
  refine R_iload_n (pc := 13) 4 (dc k_T_answer 7 rfl) rfl rfl ?_
  refine R_cSP (pc := 14)  (As := [vR (t + 10), vI r_1, vI world]) (S := []) ck_T_75 (dc k_T_answer 8 rfl) (lb rfl) (lb rfl) (lb rfl) rfl (ct_X_has hE hn (Z_bind hz)) (fun r_2 hz => ?_)
  refine R_if_eq (pc := 17) 22 (dc k_T_answer 9 rfl) rfl (fun hc => ?_) (fun hc => ?_)
  · have hz := Z_neg (show ¬ (¬ n32 r_2 = 0) from (fun z => z hc)) hz
    refine R_aload_n (pc := 22) 1 (dc k_T_answer 12 rfl) rfl rfl ?_
    refine R_getS (pc := 23) (ci := 1) (k := 18) (t + 11) (dc k_T_answer 13 rfl) fl_T_43 (lT ht) (qT1 ht) (qTn_0 hnt) hEt (rT_18 ht) (Nat.succ_ne_zero _) rfl ?_
    refine R_iload (pc := 26) 0 (dc k_T_answer 14 rfl) rfl ?_
    refine R_iload_n (pc := 28) 4 (dc k_T_answer 15 rfl) rfl rfl ?_
    refine R_cSP (pc := 29)  (As := [vR (t + 11), vI r_1, vI world]) (S := []) ck_T_75 (dc k_T_answer 16 rfl) (lb rfl) (lb rfl) (lb rfl) rfl (ct_X_has hE hn (Z_bind hz)) (fun r_3 hz => ?_)
    refine R_if_eq (pc := 32) 39 (dc k_T_answer 17 rfl) rfl (fun hc => ?_) (fun hc => ?_)
    · have hz := Z_neg (show ¬ (¬ n32 r_3 = 0) from (fun z => z hc)) hz
      refine R_iconst (pc := 39) (a := 2) (dc k_T_answer 20 rfl) ?_
      exact R_iret (pc := 40) (dc k_T_answer 21 rfl) rfl rfl rfl ⟨_, rfl, rfl, (Z_some hz)⟩
    · have hz := Z_pos (show ¬ n32 r_3 = 0 from hc) hz
      refine R_iconst (pc := 35) (a := 0) (dc k_T_answer 18 rfl) ?_
      refine R_goto (pc := 36) 40 (dc k_T_answer 19 rfl) rfl ?_
      exact R_iret (pc := 40) (dc k_T_answer 21 rfl) rfl rfl rfl ⟨_, rfl, rfl, (Z_some hz)⟩
  · have hz := Z_pos (show ¬ n32 r_2 = 0 from hc) hz
    refine R_iconst (pc := 20) (a := 1) (dc k_T_answer 10 rfl) ?_
    exact R_iret (pc := 21) (dc k_T_answer 11 rfl) rfl rfl rfl ⟨_, rfl, rfl, (Z_some hz)⟩

set_option maxRecDepth 20000 in
theorem ct_X_answers {E : Nat → Bool} {n : Nat} (hE : ∀ c, 1 ≤ c → c ≤ 80 → E c = true) (hn : 80 ≤ n) {person : Int} {row : Int} {world : Int} {M : Mem} {K : Int → Prop} (hz : Z (X_answers person row world M) K) : Mt y_X_answers (3, 65, n, n, E) E [vR 1, vI person, vI row, vI world] M (qP M K) := by
  refine Mt.of (by decide) (lb rfl) (Nat.le_refl _) rfl ?_
  rw [X_answers] at hz
  show Rr y_X_answers (3, 65, n, n, E) (qP M K) 0 [(0, vR 1), (1, vI person), (2, vI row), (3, vI world)] [] E n M
  refine R_aload_n (pc := 0) 0 (dc k_X_answers 0 rfl) rfl rfl ?_
  obtain ⟨hg_1, hz⟩ := Z_chk hz
  obtain ⟨t_2, ht_2, hz⟩ := Z_lt hz
  obtain ⟨hq_3, ht_2t⟩ := isTI.at' hg_1 ht_2
  have hnt_2t := qTn ht_2t hn
  have hEt_2t := qTE ht_2t hE
  refine R_getR (pc := 1) (ci := 0) (k := 2) t_2 (dc k_X_answers 1 rfl) fl_X_16 rfl (lb rfl) (Nat.le_trans (lb rfl) hn) (Or.inr rfl) hq_3 (qT0 ht_2t) rfl ?_
  refine R_iload_n (pc := 4) 1 (dc k_X_answers 2 rfl) rfl rfl ?_
  refine R_cVP (pc := 5)  (As := [vI person]) (S := []) ck_X_120 (dc k_X_answers 3 rfl) ⟨(lT ht_2t), ⟨_, rfl, rfl⟩, (qT1 ht_2t), (qTn_0 hnt_2t)⟩ (lb rfl) (lb rfl) (lb rfl) rfl (ct_T_hasPerson hE hn ht_2t (Z_bind hz)) (fun r_4 hz => ?_)
  obtain ⟨K_5, hK_6, hz⟩ := Z_cut hz
  have hX_7 : K_5 true → Rr y_X_answers (3, 65, n, n, E) (qP M K) 23 [(0, vR 1), (1, vI person), (2, vI row), (3, vI world)] [] E n M := by
    intro hk
    have hz := Z_pos rfl (hK_6 _ hk)
    refine R_iconst (pc := 23) (a := (-1)) (dc k_X_answers 11 rfl) ?_
    exact R_iret (pc := 24) (dc k_X_answers 12 rfl) rfl rfl rfl ⟨_, rfl, rfl, (Z_some hz)⟩
  have hY_8 : K_5 false → Rr y_X_answers (3, 65, n, n, E) (qP M K) 25 [(0, vR 1), (1, vI person), (2, vI row), (3, vI world)] [] E n M := by
    intro hk
    have hz := Z_neg Bool.false_ne_true (hK_6 _ hk)
    refine R_aload_n (pc := 25) 0 (dc k_X_answers 13 rfl) rfl rfl ?_
    refine R_getR (pc := 26) (ci := 0) (k := 2) t_2 (dc k_X_answers 14 rfl) fl_X_16 rfl (lb rfl) (Nat.le_trans (lb rfl) hn) (Or.inr rfl) hq_3 (qT0 ht_2t) rfl ?_
    refine R_iload_n (pc := 29) 1 (dc k_X_answers 15 rfl) rfl rfl ?_
    refine R_iload_n (pc := 30) 2 (dc k_X_answers 16 rfl) rfl rfl ?_
    refine R_iload_n (pc := 31) 3 (dc k_X_answers 17 rfl) rfl rfl ?_
    refine R_cVP (pc := 32)  (As := [vI person, vI row, vI world]) (S := []) ck_X_124 (dc k_X_answers 18 rfl) ⟨(lT ht_2t), ⟨_, rfl, rfl⟩, (qT1 ht_2t), (qTn_0 hnt_2t)⟩ (lb rfl) (lb rfl) (lb rfl) rfl (ct_T_answer hE hn ht_2t (Z_bind hz)) (fun r_11 hz => ?_)
    exact R_iret (pc := 35) (dc k_X_answers 19 rfl) rfl rfl rfl ⟨_, rfl, rfl, (Z_some hz)⟩
  refine R_if_eq (pc := 8) 23 (dc k_X_answers 4 rfl) rfl (fun hc => ?_) (fun hc => ?_)
  · have hz := Z_neg (show ¬ (¬ n32 r_4 = 0) from (fun z => z hc)) hz
    exact hX_7 (Z_some hz)
  · have hz := Z_pos (show ¬ n32 r_4 = 0 from hc) hz
    refine R_aload_n (pc := 11) 0 (dc k_X_answers 5 rfl) rfl rfl ?_
    refine R_getR (pc := 12) (ci := 0) (k := 2) t_2 (dc k_X_answers 6 rfl) fl_X_16 rfl (lb rfl) (Nat.le_trans (lb rfl) hn) (Or.inr rfl) hq_3 (qT0 ht_2t) rfl ?_
    refine R_iload_n (pc := 15) 2 (dc k_X_answers 7 rfl) rfl rfl ?_
    refine R_iload_n (pc := 16) 3 (dc k_X_answers 8 rfl) rfl rfl ?_
    refine R_cVP (pc := 17)  (As := [vI row, vI world]) (S := []) ck_X_113 (dc k_X_answers 9 rfl) ⟨(lT ht_2t), ⟨_, rfl, rfl⟩, (qT1 ht_2t), (qTn_0 hnt_2t)⟩ (lb rfl) (lb rfl) (lb rfl) rfl (ct_T_canBe hE hn ht_2t (Z_bind hz)) (fun r_10 hz => ?_)
    refine R_if_ne (pc := 20) 25 (dc k_X_answers 10 rfl) rfl (fun hc => ?_) (fun hc => ?_)
    · have hz := Z_neg (show ¬ (n32 r_10 = 0) from hc) hz
      exact hY_8 (Z_some hz)
    · have hz := Z_pos (show n32 r_10 = 0 from (Decidable.not_not.mp hc)) hz
      exact hX_7 (Z_some hz)

set_option maxRecDepth 20000 in
theorem ct_T_hasPersons {E : Nat → Bool} {n : Nat} (hE : ∀ c, 1 ≤ c → c ≤ 80 → E c = true) (hn : 80 ≤ n) {t : Nat} {bits : Int} (ht : isT t) {M : Mem} {K : Int → Prop} (hz : Z (T_hasPersons t bits M) K) : Mt y_T_hasPersons (0, 0, n, n, E) E [vR t, vI bits] M (qP M K) := by
  refine Mt.of (by decide) (lb rfl) (Nat.le_refl _) rfl ?_
  rw [T_hasPersons] at hz
  have hnt := qTn ht hn
  have hEt := qTE ht hE
  show Rr y_T_hasPersons (0, 0, n, n, E) (qP M K) 0 [(0, vR t), (1, vI bits)] [] E n M
  refine R_iload_n (pc := 0) 1 (dc k_T_hasPersons 0 rfl) rfl rfl ?_
  have hX_1 : ((0 < n32 bits) ∧ (n32 bits < n32 (ishl 1 (M t 1)))) → Rr y_T_hasPersons (0, 0, n, n, E) (qP M K) 14 [(0, vR t), (1, vI bits)] [] E n M := by
    intro hc
    have hz := Z_pos hc hz
    refine R_iconst (pc := 14) (a := 1) (dc k_T_hasPersons 8 rfl) ?_
    refine R_goto (pc := 15) 19 (dc k_T_hasPersons 9 rfl) rfl ?_
    exact R_zret (pc := 19) (dc k_T_hasPersons 11 rfl) rfl (Or.inr rfl) rfl rfl ⟨_, rfl, rfl, (Z_some hz)⟩
  have hY_2 : ¬ ((0 < n32 bits) ∧ (n32 bits < n32 (ishl 1 (M t 1)))) → Rr y_T_hasPersons (0, 0, n, n, E) (qP M K) 18 [(0, vR t), (1, vI bits)] [] E n M := by
    intro hc
    have hz := Z_neg hc hz
    refine R_iconst (pc := 18) (a := 0) (dc k_T_hasPersons 10 rfl) ?_
    exact R_zret (pc := 19) (dc k_T_hasPersons 11 rfl) rfl (Or.inl rfl) rfl rfl ⟨_, rfl, rfl, (Z_some hz)⟩
  refine R_if_le (pc := 1) 18 (dc k_T_hasPersons 1 rfl) rfl (fun hc => ?_) (fun hc => ?_)
  · have hc_3 : n32 bits ≤ 0 := hc
    exact hY_2 (fun z => (Int.not_lt.mpr hc_3) z.1)
  · have hc_4 : 0 < n32 bits := (Int.not_le.mp hc)
    refine R_iload_n (pc := 4) 1 (dc k_T_hasPersons 2 rfl) rfl rfl ?_
    refine R_iconst (pc := 5) (a := 1) (dc k_T_hasPersons 3 rfl) ?_
    refine R_aload_n (pc := 6) 0 (dc k_T_hasPersons 4 rfl) rfl rfl ?_
    refine R_getI (pc := 7) (ci := 1) (k := 1) (dc k_T_hasPersons 5 rfl) fl_T_53 (lT ht) (qT1 ht) (qTn_0 hnt) (rT_1 ht) (Or.inl rfl) ?_
    refine R_ishl (pc := 10) (dc k_T_hasPersons 6 rfl) ?_
    refine R_icmp_ge (pc := 11) 18 (dc k_T_hasPersons 7 rfl) rfl (fun hc => ?_) (fun hc => ?_)
    · have hc_5 : n32 (ishl 1 (M t 1)) ≤ n32 bits := hc
      exact hY_2 (fun z => (Int.not_lt.mpr hc_5) z.2)
    · have hc_6 : n32 bits < n32 (ishl 1 (M t 1)) := (Int.not_le.mp hc)
      exact hX_1 ⟨hc_4, hc_6⟩

set_option maxRecDepth 20000 in
theorem ct_JI_bitCount {E : Nat → Bool} {n : Nat} {a0 : Int} {M : Mem} {K : Int → Prop} (hz : Z (JI_bitCount a0 M) K) : Mt y_JI_bitCount (0, 0, n, n, E) E [vI a0] M (qP M K) := by
  refine Mt.of (by decide) (lb rfl) (Nat.le_refl _) rfl ?_
  rw [JI_bitCount] at hz
  show Rr y_JI_bitCount (0, 0, n, n, E) (qP M K) 0 [(0, vI a0)] [] E n M
  refine R_iload_n (pc := 0) 0 (dc k_JI_bitCount 0 rfl) rfl rfl ?_
  refine R_iload_n (pc := 1) 0 (dc k_JI_bitCount 1 rfl) rfl rfl ?_
  refine R_iconst (pc := 2) (a := 1) (dc k_JI_bitCount 2 rfl) ?_
  refine R_iushr (pc := 3) (dc k_JI_bitCount 3 rfl) ?_
  refine R_ldcw (pc := 4) (a := 1431655765) (dc k_JI_bitCount 4 rfl) c_JI_265 ?_
  refine R_iand (pc := 7) (dc k_JI_bitCount 5 rfl) ?_
  refine R_isub (pc := 8) (dc k_JI_bitCount 6 rfl) ?_
  obtain ⟨l0_1, hl0_1, hz⟩ := Z_lt hz
  refine R_istore_nE (pc := 9) (L' := [(0, vI l0_1)]) (dc k_JI_bitCount 7 rfl) rfl (lb rfl) hl0_1 rfl ?_
  refine R_iload_n (pc := 10) 0 (dc k_JI_bitCount 8 rfl) rfl rfl ?_
  refine R_ldcw (pc := 11) (a := 858993459) (dc k_JI_bitCount 9 rfl) c_JI_266 ?_
  refine R_iand (pc := 14) (dc k_JI_bitCount 10 rfl) ?_
  refine R_iload_n (pc := 15) 0 (dc k_JI_bitCount 11 rfl) rfl rfl ?_
  refine R_iconst (pc := 16) (a := 2) (dc k_JI_bitCount 12 rfl) ?_
  refine R_iushr (pc := 17) (dc k_JI_bitCount 13 rfl) ?_
  refine R_ldcw (pc := 18) (a := 858993459) (dc k_JI_bitCount 14 rfl) c_JI_266 ?_
  refine R_iand (pc := 21) (dc k_JI_bitCount 15 rfl) ?_
  refine R_iadd (pc := 22) (dc k_JI_bitCount 16 rfl) ?_
  obtain ⟨l0_2, hl0_2, hz⟩ := Z_lt hz
  refine R_istore_nE (pc := 23) (L' := [(0, vI l0_2)]) (dc k_JI_bitCount 17 rfl) rfl (lb rfl) hl0_2 rfl ?_
  refine R_iload_n (pc := 24) 0 (dc k_JI_bitCount 18 rfl) rfl rfl ?_
  refine R_iload_n (pc := 25) 0 (dc k_JI_bitCount 19 rfl) rfl rfl ?_
  refine R_iconst (pc := 26) (a := 4) (dc k_JI_bitCount 20 rfl) ?_
  refine R_iushr (pc := 27) (dc k_JI_bitCount 21 rfl) ?_
  refine R_iadd (pc := 28) (dc k_JI_bitCount 22 rfl) ?_
  refine R_ldcw (pc := 29) (a := 252645135) (dc k_JI_bitCount 23 rfl) c_JI_267 ?_
  refine R_iand (pc := 32) (dc k_JI_bitCount 24 rfl) ?_
  obtain ⟨l0_3, hl0_3, hz⟩ := Z_lt hz
  refine R_istore_nE (pc := 33) (L' := [(0, vI l0_3)]) (dc k_JI_bitCount 25 rfl) rfl (lb rfl) hl0_3 rfl ?_
  refine R_iload_n (pc := 34) 0 (dc k_JI_bitCount 26 rfl) rfl rfl ?_
  refine R_iload_n (pc := 35) 0 (dc k_JI_bitCount 27 rfl) rfl rfl ?_
  refine R_bipush (pc := 36) (a := 8) (dc k_JI_bitCount 28 rfl) (by decide) ?_
  refine R_iushr (pc := 38) (dc k_JI_bitCount 29 rfl) ?_
  refine R_iadd (pc := 39) (dc k_JI_bitCount 30 rfl) ?_
  obtain ⟨l0_4, hl0_4, hz⟩ := Z_lt hz
  refine R_istore_nE (pc := 40) (L' := [(0, vI l0_4)]) (dc k_JI_bitCount 31 rfl) rfl (lb rfl) hl0_4 rfl ?_
  refine R_iload_n (pc := 41) 0 (dc k_JI_bitCount 32 rfl) rfl rfl ?_
  refine R_iload_n (pc := 42) 0 (dc k_JI_bitCount 33 rfl) rfl rfl ?_
  refine R_bipush (pc := 43) (a := 16) (dc k_JI_bitCount 34 rfl) (by decide) ?_
  refine R_iushr (pc := 45) (dc k_JI_bitCount 35 rfl) ?_
  refine R_iadd (pc := 46) (dc k_JI_bitCount 36 rfl) ?_
  obtain ⟨l0_5, hl0_5, hz⟩ := Z_lt hz
  refine R_istore_nE (pc := 47) (L' := [(0, vI l0_5)]) (dc k_JI_bitCount 37 rfl) rfl (lb rfl) hl0_5 rfl ?_
  refine R_iload_n (pc := 48) 0 (dc k_JI_bitCount 38 rfl) rfl rfl ?_
  refine R_bipush (pc := 49) (a := 63) (dc k_JI_bitCount 39 rfl) (by decide) ?_
  refine R_iand (pc := 51) (dc k_JI_bitCount 40 rfl) ?_
  exact R_iret (pc := 52) (dc k_JI_bitCount 41 rfl) rfl rfl rfl ⟨_, rfl, rfl, (Z_some hz)⟩

set_option maxRecDepth 20000 in
theorem ct_T_way {E : Nat → Bool} {n : Nat} (hE : ∀ c, 1 ≤ c → c ≤ 80 → E c = true) (hn : 80 ≤ n) {voices : Int} {apart : Int} {tied : Int} {thinks : Int} {M : Mem} {K : Int → Prop} (hz : Z (T_way voices apart tied thinks M) K) : Mt y_T_way (0, 0, n, n, E) E [vI voices, vI apart, vI tied, vI thinks] M (qP M K) := by
  refine Mt.of (by decide) (lb rfl) (Nat.le_refl _) rfl ?_
  rw [T_way] at hz
  show Rr y_T_way (0, 0, n, n, E) (qP M K) 0 [(0, vI voices), (1, vI apart), (2, vI tied), (3, vI thinks)] [] E n M
  refine R_iload_n (pc := 0) 0 (dc k_T_way 0 rfl) rfl rfl ?_
  refine R_iconst (pc := 1) (a := 1) (dc k_T_way 1 rfl) ?_
  refine R_isub (pc := 2) (dc k_T_way 2 rfl) ?_
  refine R_iconst (pc := 3) (a := 3) (dc k_T_way 3 rfl) ?_
  refine R_ishl (pc := 4) (dc k_T_way 4 rfl) ?_
  refine R_iload_n (pc := 5) 1 (dc k_T_way 5 rfl) rfl rfl ?_
  obtain ⟨K_2, hK_3, hz⟩ := Z_cut hz
  have hJ_4 : ∀ (v_1 : Int), K_2 v_1 → Rr y_T_way (0, 0, n, n, E) (qP M K) 14 [(2, vI tied), (3, vI thinks)] [vI v_1, vI (ishl (voices - 1) 3)] E n M := by
    intro v_1 hk
    have hz := hK_3 _ hk
    refine R_ior (pc := 14) (dc k_T_way 10 rfl) ?_
    refine R_iload_n (pc := 15) 0 (dc k_T_way 11 rfl) rfl rfl ?_
    obtain ⟨K_7, hK_8, hz⟩ := Z_cut hz
    have hJ_9 : ∀ (v_6 : Int), K_7 v_6 → Rr y_T_way (0, 0, n, n, E) (qP M K) 24 [(3, vI thinks)] [vI v_6, vI (ior' (ishl (voices - 1) 3) v_1)] E n M := by
      intro v_6 hk
      have hz := hK_8 _ hk
      refine R_ior (pc := 24) (dc k_T_way 16 rfl) ?_
      refine R_iload_n (pc := 25) 0 (dc k_T_way 17 rfl) rfl rfl ?_
      obtain ⟨K_12, hK_13, hz⟩ := Z_cut hz
      have hJ_14 : ∀ (v_11 : Int), K_12 v_11 → Rr y_T_way (0, 0, n, n, E) (qP M K) 34 [] [vI v_11, vI (ior' (ior' (ishl (voices - 1) 3) v_1) v_6)] E n M := by
        intro v_11 hk
        have hz := hK_13 _ hk
        refine R_ior (pc := 34) (dc k_T_way 22 rfl) ?_
        exact R_iret (pc := 35) (dc k_T_way 23 rfl) rfl rfl rfl ⟨_, rfl, rfl, (Z_some hz)⟩
      refine R_if_eq (pc := 26) 33 (dc k_T_way 18 rfl) rfl (fun hc => ?_) (fun hc => ?_)
      · have hz := Z_neg (show ¬ (¬ n32 thinks = 0) from (fun z => z hc)) hz
        refine R_iconst (pc := 33) (a := 0) (dc k_T_way 21 rfl) ?_
        refine R_sub [] rfl ?_
        exact hJ_14 _ (Z_some hz)
      · have hz := Z_pos (show ¬ n32 thinks = 0 from hc) hz
        refine R_iconst (pc := 29) (a := 1) (dc k_T_way 19 rfl) ?_
        refine R_goto (pc := 30) 34 (dc k_T_way 20 rfl) rfl ?_
        refine R_sub [] rfl ?_
        exact hJ_14 _ (Z_some hz)
    refine R_if_eq (pc := 16) 23 (dc k_T_way 12 rfl) rfl (fun hc => ?_) (fun hc => ?_)
    · have hz := Z_neg (show ¬ (¬ n32 tied = 0) from (fun z => z hc)) hz
      refine R_iconst (pc := 23) (a := 0) (dc k_T_way 15 rfl) ?_
      refine R_sub [1] rfl ?_
      exact hJ_9 _ (Z_some hz)
    · have hz := Z_pos (show ¬ n32 tied = 0 from hc) hz
      refine R_iconst (pc := 19) (a := 2) (dc k_T_way 13 rfl) ?_
      refine R_goto (pc := 20) 24 (dc k_T_way 14 rfl) rfl ?_
      refine R_sub [1] rfl ?_
      exact hJ_9 _ (Z_some hz)
  refine R_if_eq (pc := 6) 13 (dc k_T_way 6 rfl) rfl (fun hc => ?_) (fun hc => ?_)
  · have hz := Z_neg (show ¬ (¬ n32 apart = 0) from (fun z => z hc)) hz
    refine R_iconst (pc := 13) (a := 0) (dc k_T_way 9 rfl) ?_
    refine R_sub [2, 3] rfl ?_
    exact hJ_4 _ (Z_some hz)
  · have hz := Z_pos (show ¬ n32 apart = 0 from hc) hz
    refine R_iconst (pc := 9) (a := 4) (dc k_T_way 7 rfl) ?_
    refine R_goto (pc := 10) 14 (dc k_T_way 8 rfl) rfl ?_
    refine R_sub [2, 3] rfl ?_
    exact hJ_4 _ (Z_some hz)

set_option maxRecDepth 20000 in
theorem ct_T_mayLie {E : Nat → Bool} {n : Nat} (hE : ∀ c, 1 ≤ c → c ≤ 80 → E c = true) (hn : 80 ≤ n) {t : Nat} {bits : Int} {apart : Int} {surely : Int} (ht : isT t) {M : Mem} {K : Int → Prop} (hz : Z (T_mayLie t bits apart surely M) K) : Mt y_T_mayLie (1, 23, n, n, E) E [vR t, vI bits, vI apart, vI surely] M (qP M K) := by
  refine Mt.of (by decide) (lb rfl) (Nat.le_refl _) rfl ?_
  rw [T_mayLie] at hz
  have hnt := qTn ht hn
  have hEt := qTE ht hE
  show Rr y_T_mayLie (1, 23, n, n, E) (qP M K) 0 [(0, vR t), (1, vI bits), (2, vI apart), (3, vI surely)] [] E n M
  refine R_iconst (pc := 0) (a := 0) (dc k_T_mayLie 0 rfl) ?_
  refine R_istore (pc := 1) (L' := [(4, vI 0), (0, vR t), (1, vI bits), (2, vI apart), (3, vI surely)]) (dc k_T_mayLie 1 rfl) (lb rfl) rfl ?_
  refine R_iconst (pc := 3) (a := 0) (dc k_T_mayLie 2 rfl) ?_
  refine R_istore (pc := 4) (L' := [(5, vI 0), (4, vI 0), (0, vR t), (1, vI bits), (2, vI apart), (3, vI surely)]) (dc k_T_mayLie 3 rfl) (lb rfl) rfl ?_
  obtain ⟨K_3, hK_4, hz⟩ := Z_cut hz
  have hX_5 : ∀ (l4_9 : Int), K_3 l4_9 → Rr y_T_mayLie (1, 23, n, n, E) (qP M K) 52 [(0, vR t), (1, vI bits), (2, vI apart), (3, vI surely), (4, vI l4_9)] [] E n M := by
    intro l4_9 hk
    have hz := hK_4 _ hk
    refine R_aload_n (pc := 52) 0 (dc k_T_mayLie 27 rfl) rfl rfl ?_
    refine R_getJ (pc := 53) (ci := 1) (k := 7) (dc k_T_mayLie 28 rfl) fl_T_98 (lT ht) (qT1 ht) (qTn_0 hnt) (rT_7 ht) rfl ?_
    refine R_iload_n (pc := 56) 1 (dc k_T_mayLie 29 rfl) rfl rfl ?_
    refine R_cSP (pc := 57)  (As := [vI bits]) (S := [vJ (M t 7)]) ck_T_102 (dc k_T_mayLie 30 rfl) (lb rfl) (lb rfl) (lb rfl) rfl (ct_JI_bitCount (Z_bind hz)) (fun r_25 hz => ?_)
    refine R_iload_n (pc := 60) 2 (dc k_T_mayLie 31 rfl) rfl rfl ?_
    refine R_iload (pc := 61) 4 (dc k_T_mayLie 32 rfl) rfl ?_
    refine R_iload_n (pc := 63) 3 (dc k_T_mayLie 33 rfl) rfl rfl ?_
    obtain ⟨K_27, hK_28, hz⟩ := Z_cut hz
    have hJ_29 : ∀ (v_26 : Int), K_27 v_26 → Rr y_T_mayLie (1, 23, n, n, E) (qP M K) 72 [] [vI v_26, vI l4_9, vI apart, vI r_25, vJ (M t 7)] E n M := by
      intro v_26 hk
      have hz := hK_28 _ hk
      refine R_cSP (pc := 72)  (As := [vI r_25, vI apart, vI l4_9, vI v_26]) (S := [vJ (M t 7)]) ck_T_108 (dc k_T_mayLie 38 rfl) (lb rfl) (lb rfl) (lb rfl) rfl (ct_T_way hE hn (Z_bind hz)) (fun r_31 hz => ?_)
      refine R_lushr (pc := 75) (dc k_T_mayLie 39 rfl) ?_
      refine R_lconst (pc := 76) (a := 1) (dc k_T_mayLie 40 rfl) (by decide) ?_
      refine R_land (pc := 77) (dc k_T_mayLie 41 rfl) ?_
      refine R_lconst (pc := 78) (a := 0) (dc k_T_mayLie 42 rfl) (by decide) ?_
      refine R_lcmp (pc := 79) (dc k_T_mayLie 43 rfl) ?_
      refine R_if_eq (pc := 80) 87 (dc k_T_mayLie 44 rfl) rfl (fun hc => ?_) (fun hc => ?_)
      · have hz := Z_neg (show ¬ (¬ n64 (jand (jushr (M t 7) r_31) 1) = n64 0) from (fun z => z (jcmp_eq.mp hc))) hz
        refine R_iconst (pc := 87) (a := 0) (dc k_T_mayLie 47 rfl) ?_
        exact R_zret (pc := 88) (dc k_T_mayLie 48 rfl) rfl (Or.inl rfl) rfl rfl ⟨_, rfl, rfl, (Z_some hz)⟩
      · have hz := Z_pos (show ¬ n64 (jand (jushr (M t 7) r_31) 1) = n64 0 from (fun z => hc (jcmp_eq.mpr z))) hz
        refine R_iconst (pc := 83) (a := 1) (dc k_T_mayLie 45 rfl) ?_
        refine R_goto (pc := 84) 88 (dc k_T_mayLie 46 rfl) rfl ?_
        exact R_zret (pc := 88) (dc k_T_mayLie 48 rfl) rfl (Or.inr rfl) rfl rfl ⟨_, rfl, rfl, (Z_some hz)⟩
    refine R_if_ne (pc := 64) 71 (dc k_T_mayLie 34 rfl) rfl (fun hc => ?_) (fun hc => ?_)
    · have hz := Z_neg (show ¬ (n32 surely = 0) from hc) hz
      refine R_iconst (pc := 71) (a := 0) (dc k_T_mayLie 37 rfl) ?_
      refine R_sub [] rfl ?_
      exact hJ_29 _ (Z_some hz)
    · have hz := Z_pos (show n32 surely = 0 from (Decidable.not_not.mp hc)) hz
      refine R_iconst (pc := 67) (a := 1) (dc k_T_mayLie 35 rfl) ?_
      refine R_goto (pc := 68) 72 (dc k_T_mayLie 36 rfl) rfl ?_
      refine R_sub [] rfl ?_
      exact hJ_29 _ (Z_some hz)
  refine R_sub [2, 3, 4, 5, 1, 0] rfl ?_
  refine it_R (C := fun aZ : Int × Int => Rr y_T_mayLie (1, 23, n, n, E) (qP M K) 6 [(0, vR t), (1, vI bits), (2, vI apart), (3, vI surely), (4, vI aZ.1), (5, vI aZ.2)] [] E n M) (fun aZ K_6 hC_7 hB_8 hz => ?_) FUEL (0, 0) hz
  obtain ⟨l4_1, l5_2⟩ := aZ
  rw [T_mayLie_b6] at hz
  show Rr y_T_mayLie (1, 23, n, n, E) (qP M K) 6 [(0, vR t), (1, vI bits), (2, vI apart), (3, vI surely), (4, vI l4_1), (5, vI l5_2)] [] E n M
  refine R_iload (pc := 6) 5 (dc k_T_mayLie 4 rfl) rfl ?_
  refine R_aload_n (pc := 8) 0 (dc k_T_mayLie 5 rfl) rfl rfl ?_
  refine R_getI (pc := 9) (ci := 1) (k := 1) (dc k_T_mayLie 6 rfl) fl_T_53 (lT ht) (qT1 ht) (qTn_0 hnt) (rT_1 ht) (Or.inl rfl) ?_
  refine R_icmp_ge (pc := 12) 52 (dc k_T_mayLie 7 rfl) rfl (fun hc => ?_) (fun hc => ?_)
  · have hz := Z_neg (show ¬ (n32 l5_2 < n32 (M t 1)) from (Int.not_lt.mpr hc)) hz
    refine R_sub [0, 1, 2, 3, 4] rfl ?_
    exact hX_5 _ (hB_8 _ (Z_some hz))
  · have hz := Z_pos (show n32 l5_2 < n32 (M t 1) from (Int.not_le.mp hc)) hz
    refine R_iload (pc := 15) 4 (dc k_T_mayLie 8 rfl) rfl ?_
    refine R_iload_n (pc := 17) 1 (dc k_T_mayLie 9 rfl) rfl rfl ?_
    refine R_iload (pc := 18) 5 (dc k_T_mayLie 10 rfl) rfl ?_
    refine R_cSP (pc := 20)  (As := [vI bits, vI l5_2]) (S := [vI l4_1]) ck_T_94 (dc k_T_mayLie 11 rfl) (lb rfl) (lb rfl) (lb rfl) rfl (ct_X_hasBit hE hn (Z_bind hz)) (fun r_10 hz => ?_)
    obtain ⟨K_12, hK_13, hz⟩ := Z_cut hz
    have hJ_14 : ∀ (v_11 : Int), K_12 v_11 → Rr y_T_mayLie (1, 23, n, n, E) (qP M K) 43 [(0, vR t), (1, vI bits), (2, vI apart), (3, vI surely), (5, vI l5_2)] [vI v_11, vI l4_1] E n M := by
      intro v_11 hk
      have hz := hK_13 _ hk
      refine R_ior (pc := 43) (dc k_T_mayLie 23 rfl) ?_
      obtain ⟨l4_22, hl4_22, hz⟩ := Z_lt hz
      refine R_istoreE (pc := 44) (L' := [(4, vI l4_22), (0, vR t), (1, vI bits), (2, vI apart), (3, vI surely), (5, vI l5_2)]) (dc k_T_mayLie 24 rfl) (lb rfl) hl4_22 rfl ?_
      obtain ⟨l5_23, hl5_23, hz⟩ := Z_lt hz
      refine R_iincE (pc := 46) (L' := [(5, vI l5_23), (4, vI l4_22), (0, vR t), (1, vI bits), (2, vI apart), (3, vI surely)]) 5 (dc k_T_mayLie 25 rfl) rfl (lb rfl) hl5_23 rfl ?_
      refine R_goto (pc := 49) 6 (dc k_T_mayLie 26 rfl) rfl ?_
      refine R_sub [2, 3, 4, 5, 1, 0] rfl ?_
      exact hC_7 _ (Z_some hz)
    obtain ⟨K_15, hK_16, hz⟩ := Z_cut hz
    have hX_17 : K_15 true → Rr y_T_mayLie (1, 23, n, n, E) (qP M K) 38 [(0, vR t), (1, vI bits), (2, vI apart), (3, vI surely), (4, vI l4_1), (5, vI l5_2)] [vI l4_1] E n M := by
      intro hk
      have hz := Z_pos rfl (hK_16 _ hk)
      refine R_iconst (pc := 38) (a := 1) (dc k_T_mayLie 20 rfl) ?_
      refine R_goto (pc := 39) 43 (dc k_T_mayLie 21 rfl) rfl ?_
      refine R_sub [0, 1, 2, 3, 5] rfl ?_
      exact hJ_14 _ (Z_some hz)
    have hY_18 : K_15 false → Rr y_T_mayLie (1, 23, n, n, E) (qP M K) 42 [(0, vR t), (1, vI bits), (2, vI apart), (3, vI surely), (4, vI l4_1), (5, vI l5_2)] [vI l4_1] E n M := by
      intro hk
      have hz := Z_neg Bool.false_ne_true (hK_16 _ hk)
      refine R_iconst (pc := 42) (a := 0) (dc k_T_mayLie 22 rfl) ?_
      refine R_sub [0, 1, 2, 3, 5] rfl ?_
      exact hJ_14 _ (Z_some hz)
    refine R_if_eq (pc := 23) 42 (dc k_T_mayLie 12 rfl) rfl (fun hc => ?_) (fun hc => ?_)
    · have hz := Z_neg (show ¬ (¬ n32 r_10 = 0) from (fun z => z hc)) hz
      exact hY_18 (Z_some hz)
    · have hz := Z_pos (show ¬ n32 r_10 = 0 from hc) hz
      refine R_iload_n (pc := 26) 1 (dc k_T_mayLie 13 rfl) rfl rfl ?_
      refine R_aload_n (pc := 27) 0 (dc k_T_mayLie 14 rfl) rfl rfl ?_
      refine R_getS (pc := 28) (ci := 1) (k := 10) (t + 3) (dc k_T_mayLie 15 rfl) fl_T_18 (lT ht) (qT1 ht) (qTn_0 hnt) hEt (rT_10 ht) (Nat.succ_ne_zero _) rfl ?_
      refine R_iload (pc := 31) 5 (dc k_T_mayLie 16 rfl) rfl ?_
      obtain ⟨⟨hg_20, hg_21⟩, hz⟩ := Z_chk hz
      refine R_iald (pc := 33) (dc k_T_mayLie 17 rfl) (lT_3 ht) (Nat.le_add_left_of_le (lb rfl)) (qTn_k hnt (lb rfl)) hg_20 hg_21 ?_
      refine R_iand (pc := 34) (dc k_T_mayLie 18 rfl) ?_
      refine R_if_eq (pc := 35) 42 (dc k_T_mayLie 19 rfl) rfl (fun hc => ?_) (fun hc => ?_)
      · have hz := Z_neg (show ¬ (¬ n32 (iand bits (M (t + 3) (Int.toNat l5_2))) = 0) from (fun z => z hc)) hz
        exact hY_18 (Z_some hz)
      · have hz := Z_pos (show ¬ n32 (iand bits (M (t + 3) (Int.toNat l5_2))) = 0 from hc) hz
        exact hX_17 (Z_some hz)

set_option maxRecDepth 20000 in
theorem ct_X_lies {E : Nat → Bool} {n : Nat} (hE : ∀ c, 1 ≤ c → c ≤ 80 → E c = true) (hn : 80 ≤ n) {persons : Int} {apart : Int} {surely : Int} {M : Mem} {K : Int → Prop} (hz : Z (X_lies persons apart surely M) K) : Mt y_X_lies (2, 48, n, n, E) E [vR 1, vI persons, vI apart, vI surely] M (qP M K) := by
  refine Mt.of (by decide) (lb rfl) (Nat.le_refl _) rfl ?_
  rw [X_lies] at hz
  show Rr y_X_lies (2, 48, n, n, E) (qP M K) 0 [(0, vR 1), (1, vI persons), (2, vI apart), (3, vI surely)] [] E n M
  refine R_aload_n (pc := 0) 0 (dc k_X_lies 0 rfl) rfl rfl ?_
  obtain ⟨hg_1, hz⟩ := Z_chk hz
  obtain ⟨t_2, ht_2, hz⟩ := Z_lt hz
  obtain ⟨hq_3, ht_2t⟩ := isTI.at' hg_1 ht_2
  have hnt_2t := qTn ht_2t hn
  have hEt_2t := qTE ht_2t hE
  refine R_getR (pc := 1) (ci := 0) (k := 2) t_2 (dc k_X_lies 1 rfl) fl_X_16 rfl (lb rfl) (Nat.le_trans (lb rfl) hn) (Or.inr rfl) hq_3 (qT0 ht_2t) rfl ?_
  refine R_iload_n (pc := 4) 1 (dc k_X_lies 2 rfl) rfl rfl ?_
  refine R_cVP (pc := 5)  (As := [vI persons]) (S := []) ck_X_128 (dc k_X_lies 3 rfl) ⟨(lT ht_2t), ⟨_, rfl, rfl⟩, (qT1 ht_2t), (qTn_0 hnt_2t)⟩ (lb rfl) (lb rfl) (lb rfl) rfl (ct_T_hasPersons hE hn ht_2t (Z_bind hz)) (fun r_4 hz => ?_)
  refine R_if_ne (pc := 8) 13 (dc k_X_lies 4 rfl) rfl (fun hc => ?_) (fun hc => ?_)
  · have hz := Z_neg (show ¬ (n32 r_4 = 0) from hc) hz
    refine R_aload_n (pc := 13) 0 (dc k_X_lies 7 rfl) rfl rfl ?_
    refine R_getR (pc := 14) (ci := 0) (k := 2) t_2 (dc k_X_lies 8 rfl) fl_X_16 rfl (lb rfl) (Nat.le_trans (lb rfl) hn) (Or.inr rfl) hq_3 (qT0 ht_2t) rfl ?_
    refine R_iload_n (pc := 17) 1 (dc k_X_lies 9 rfl) rfl rfl ?_
    refine R_iload_n (pc := 18) 2 (dc k_X_lies 10 rfl) rfl rfl ?_
    refine R_iload_n (pc := 19) 3 (dc k_X_lies 11 rfl) rfl rfl ?_
    refine R_cVP (pc := 20)  (As := [vI persons, vI apart, vI surely]) (S := []) ck_X_131 (dc k_X_lies 12 rfl) ⟨(lT ht_2t), ⟨_, rfl, rfl⟩, (qT1 ht_2t), (qTn_0 hnt_2t)⟩ (lb rfl) (lb rfl) (lb rfl) rfl (ct_T_mayLie hE hn ht_2t (Z_bind hz)) (fun r_5 hz => ?_)
    refine R_if_eq (pc := 23) 30 (dc k_X_lies 13 rfl) rfl (fun hc => ?_) (fun hc => ?_)
    · have hz := Z_neg (show ¬ (¬ n32 r_5 = 0) from (fun z => z hc)) hz
      refine R_iconst (pc := 30) (a := 0) (dc k_X_lies 16 rfl) ?_
      exact R_iret (pc := 31) (dc k_X_lies 17 rfl) rfl rfl rfl ⟨_, rfl, rfl, (Z_some hz)⟩
    · have hz := Z_pos (show ¬ n32 r_5 = 0 from hc) hz
      refine R_iconst (pc := 26) (a := 1) (dc k_X_lies 14 rfl) ?_
      refine R_goto (pc := 27) 31 (dc k_X_lies 15 rfl) rfl ?_
      exact R_iret (pc := 31) (dc k_X_lies 17 rfl) rfl rfl rfl ⟨_, rfl, rfl, (Z_some hz)⟩
  · have hz := Z_pos (show n32 r_4 = 0 from (Decidable.not_not.mp hc)) hz
    refine R_iconst (pc := 11) (a := (-1)) (dc k_X_lies 5 rfl) ?_
    exact R_iret (pc := 12) (dc k_X_lies 6 rfl) rfl rfl rfl ⟨_, rfl, rfl, (Z_some hz)⟩

set_option maxRecDepth 20000 in
theorem ct_T_putSayable {E : Nat → Bool} {n : Nat} (hE : ∀ c, 1 ≤ c → c ≤ 80 → E c = true) (hn : 80 ≤ n) {t : Nat} {bits : Int} {row : Int} {apart : Int} {surely : Int} {to_ : Nat} {at_ : Int} (ht : isT t) {M : Mem} {K : Mem → Prop} (hz : Z (T_putSayable t bits row apart surely to_ at_ M) K) : Mt y_T_putSayable (2, 48, n, n, E) E [vR t, vI bits, vI row, vI apart, vI surely, vR to_, vI at_] M (qV K) := by
  refine Mt.of (by decide) (lb rfl) (Nat.le_refl _) rfl ?_
  rw [T_putSayable] at hz
  have hnt := qTn ht hn
  have hEt := qTE ht hE
  show Rr y_T_putSayable (2, 48, n, n, E) (qV K) 0 [(0, vR t), (1, vI bits), (2, vI row), (3, vI apart), (4, vI surely), (5, vR to_), (6, vI at_)] [] E n M
  refine R_aload_n (pc := 0) 0 (dc k_T_putSayable 0 rfl) rfl rfl ?_
  refine R_getS (pc := 1) (ci := 1) (k := 15) (t + 8) (dc k_T_putSayable 1 rfl) fl_T_33 (lT ht) (qT1 ht) (qTn_0 hnt) hEt (rT_15 ht) (Nat.succ_ne_zero _) rfl ?_
  refine R_iconst (pc := 4) (a := 0) (dc k_T_putSayable 2 rfl) ?_
  refine R_aload (pc := 5) 5 (dc k_T_putSayable 3 rfl) rfl ?_
  refine R_iload (pc := 7) 6 (dc k_T_putSayable 4 rfl) rfl ?_
  refine R_aload_n (pc := 9) 0 (dc k_T_putSayable 5 rfl) rfl rfl ?_
  refine R_getI (pc := 10) (ci := 1) (k := 6) (dc k_T_putSayable 6 rfl) fl_T_68 (lT ht) (qT1 ht) (qTn_0 hnt) (rT_6 ht) (Or.inl rfl) ?_
  obtain ⟨⟨hg_1, hg_2, hg_3, hg_4, hg_5, hg_6⟩, hz⟩ := Z_chk hz
  obtain ⟨M_7, hM_7, hz⟩ := Z_lt hz
  obtain ⟨hg_8, hg_9, hg_10, hg_11, hg_12⟩ := aJ_eq hg_6
  rw [hg_10] at hg_5
  refine R_copyJE (pc := 13) (S := []) (dc k_T_putSayable 7 rfl) ml_T_112 (lT_8 ht) hg_9 (Nat.le_add_left_of_le (lb rfl)) (qTn_k hnt (lb rfl)) hg_12 (Nat.le_trans hg_11 hn) hg_1 hg_2 hg_3 hg_4 hg_5 (lb rfl) (lb rfl) hM_7 ?_
  refine R_aload_n (pc := 16) 0 (dc k_T_putSayable 8 rfl) rfl rfl ?_
  refine R_iload_n (pc := 17) 1 (dc k_T_putSayable 9 rfl) rfl rfl ?_
  refine R_iload_n (pc := 18) 3 (dc k_T_putSayable 10 rfl) rfl rfl ?_
  refine R_iload (pc := 19) 4 (dc k_T_putSayable 11 rfl) rfl ?_
  refine R_cVP (pc := 21)  (As := [vI bits, vI apart, vI surely]) (S := []) ck_T_118 (dc k_T_putSayable 12 rfl) ⟨(lT ht), ⟨_, rfl, rfl⟩, (qT1 ht), (qTn_0 hnt)⟩ (lb rfl) (lb rfl) (lb rfl) rfl (ct_T_mayLie hE hn ht (Z_bind hz)) (fun r_13 hz => ?_)
  refine R_if_eq (pc := 24) 28 (dc k_T_putSayable 13 rfl) rfl (fun hc => ?_) (fun hc => ?_)
  · have hz := Z_neg (show ¬ (¬ n32 r_13 = 0) from (fun z => z hc)) hz
    refine R_iconst (pc := 28) (a := 0) (dc k_T_putSayable 15 rfl) ?_
    refine R_istore (pc := 29) (L' := [(7, vI 0), (0, vR t), (1, vI bits), (2, vI row), (3, vI apart), (4, vI surely), (5, vR to_), (6, vI at_)]) (dc k_T_putSayable 16 rfl) (lb rfl) rfl ?_
    obtain ⟨K_16, hK_17, hz⟩ := Z_cut hz
    have hX_18 : ∀ (M_22 : Mem), K_16 M_22 → Rr y_T_putSayable (2, 48, n, n, E) (qV K) 124 [] [] E n M_22 := by
      intro M_22 hk
      have hz := hK_17 _ hk
      exact R_vret (pc := 124) (dc k_T_putSayable 64 rfl) rfl rfl rfl ⟨rfl, (Z_some hz)⟩
    refine R_sub [1, 2, 3, 5, 6, 7, 0] rfl ?_
    refine it_R (C := fun aZ : Int × Mem => Rr y_T_putSayable (2, 48, n, n, E) (qV K) 31 [(0, vR t), (1, vI bits), (2, vI row), (4, vI surely), (5, vR to_), (6, vI at_), (7, vI aZ.1)] [] E n aZ.2) (fun aZ K_19 hC_20 hB_21 hz => ?_) FUEL (0, M_7) hz
    obtain ⟨l7_14, M_15⟩ := aZ
    rw [T_putSayable_b31] at hz
    show Rr y_T_putSayable (2, 48, n, n, E) (qV K) 31 [(0, vR t), (1, vI bits), (2, vI row), (4, vI surely), (5, vR to_), (6, vI at_), (7, vI l7_14)] [] E n M_15
    refine R_iload (pc := 31) 6 (dc k_T_putSayable 17 rfl) rfl ?_
    refine R_aload_n (pc := 33) 0 (dc k_T_putSayable 18 rfl) rfl rfl ?_
    refine R_getI (pc := 34) (ci := 1) (k := 1) (dc k_T_putSayable 19 rfl) fl_T_53 (lT ht) (qT1 ht) (qTn_0 hnt) (rT_1 ht) (Or.inl rfl) ?_
    refine R_icmp_ge (pc := 37) 124 (dc k_T_putSayable 20 rfl) rfl (fun hc => ?_) (fun hc => ?_)
    · have hz := Z_neg (show ¬ (n32 l7_14 < n32 (M_15 t 1)) from (Int.not_lt.mpr hc)) hz
      refine R_sub [] rfl ?_
      exact hX_18 _ (hB_21 _ (Z_some hz))
    · have hz := Z_pos (show n32 l7_14 < n32 (M_15 t 1) from (Int.not_le.mp hc)) hz
      refine R_iload_n (pc := 40) 1 (dc k_T_putSayable 21 rfl) rfl rfl ?_
      refine R_iload (pc := 41) 6 (dc k_T_putSayable 22 rfl) rfl ?_
      refine R_cSP (pc := 43)  (As := [vI bits, vI l7_14]) (S := []) ck_T_94 (dc k_T_putSayable 23 rfl) (lb rfl) (lb rfl) (lb rfl) rfl (ct_X_hasBit hE hn (Z_bind hz)) (fun r_23 hz => ?_)
      obtain ⟨K_25, hK_26, hz⟩ := Z_cut hz
      have hJ_27 : ∀ (M_24 : Mem), K_25 M_24 → Rr y_T_putSayable (2, 48, n, n, E) (qV K) 118 [(0, vR t), (1, vI bits), (2, vI row), (4, vI surely), (5, vR to_), (6, vI at_), (7, vI l7_14)] [] E n M_24 := by
        intro M_24 hk
        have hz := hK_26 _ hk
        obtain ⟨l7_58, hl7_58, hz⟩ := Z_lt hz
        refine R_iincE (pc := 118) (L' := [(7, vI l7_58), (0, vR t), (1, vI bits), (2, vI row), (4, vI surely), (5, vR to_), (6, vI at_)]) 6 (dc k_T_putSayable 62 rfl) rfl (lb rfl) hl7_58 rfl ?_
        refine R_goto (pc := 121) 31 (dc k_T_putSayable 63 rfl) rfl ?_
        refine R_sub [1, 2, 3, 4, 5, 6, 0] rfl ?_
        exact hC_20 _ (Z_some hz)
      refine R_if_eq (pc := 46) 118 (dc k_T_putSayable 24 rfl) rfl (fun hc => ?_) (fun hc => ?_)
      · have hz := Z_neg (show ¬ (¬ n32 r_23 = 0) from (fun z => z hc)) hz
        exact hJ_27 _ (Z_some hz)
      · have hz := Z_pos (show ¬ n32 r_23 = 0 from hc) hz
        refine R_iload (pc := 49) 6 (dc k_T_putSayable 25 rfl) rfl ?_
        refine R_iload_n (pc := 51) 2 (dc k_T_putSayable 26 rfl) rfl rfl ?_
        refine R_cSP (pc := 52)  (As := [vI l7_14, vI row]) (S := []) ck_T_86 (dc k_T_putSayable 27 rfl) (lb rfl) (lb rfl) (lb rfl) rfl (ct_T_place hE hn (Z_bind hz)) (fun r_28 hz => ?_)
        refine R_istore (pc := 55) (L' := [(8, vI r_28), (0, vR t), (1, vI bits), (2, vI row), (4, vI surely), (5, vR to_), (6, vI at_), (7, vI l7_14)]) (dc k_T_putSayable 28 rfl) (lb rfl) rfl ?_
        refine R_iconst (pc := 57) (a := 0) (dc k_T_putSayable 29 rfl) ?_
        refine R_istore (pc := 58) (L' := [(9, vI 0), (8, vI r_28), (0, vR t), (1, vI bits), (2, vI row), (4, vI surely), (5, vR to_), (6, vI at_), (7, vI l7_14)]) (dc k_T_putSayable 30 rfl) (lb rfl) rfl ?_
        obtain ⟨K_31, hK_32, hz⟩ := Z_cut hz
        have hX_33 : ∀ (M_37 : Mem), K_31 M_37 → Rr y_T_putSayable (2, 48, n, n, E) (qV K) 118 [(0, vR t), (1, vI bits), (2, vI row), (4, vI surely), (5, vR to_), (6, vI at_), (7, vI l7_14)] [] E n M_37 := by
          intro M_37 hk
          have hz := hK_32 _ hk
          exact hJ_27 _ (Z_some hz)
        refine R_sub [2, 3, 4, 5, 6, 7, 8, 1, 0] rfl ?_
        refine it_R (C := fun aZ : Int × Mem => Rr y_T_putSayable (2, 48, n, n, E) (qV K) 60 [(0, vR t), (1, vI bits), (2, vI row), (4, vI surely), (5, vR to_), (6, vI at_), (7, vI l7_14), (8, vI r_28), (9, vI aZ.1)] [] E n aZ.2) (fun aZ K_34 hC_35 hB_36 hz => ?_) FUEL (0, M_15) hz
        obtain ⟨l9_29, M_30⟩ := aZ
        rw [T_putSayable_b60] at hz
        show Rr y_T_putSayable (2, 48, n, n, E) (qV K) 60 [(0, vR t), (1, vI bits), (2, vI row), (4, vI surely), (5, vR to_), (6, vI at_), (7, vI l7_14), (8, vI r_28), (9, vI l9_29)] [] E n M_30
        refine R_iload (pc := 60) 8 (dc k_T_putSayable 31 rfl) rfl ?_
        refine R_aload_n (pc := 62) 0 (dc k_T_putSayable 32 rfl) rfl rfl ?_
        refine R_getI (pc := 63) (ci := 1) (k := 6) (dc k_T_putSayable 33 rfl) fl_T_68 (lT ht) (qT1 ht) (qTn_0 hnt) (rT_6 ht) (Or.inl rfl) ?_
        refine R_icmp_ge (pc := 66) 118 (dc k_T_putSayable 34 rfl) rfl (fun hc => ?_) (fun hc => ?_)
        · have hz := Z_neg (show ¬ (n32 l9_29 < n32 (M_30 t 6)) from (Int.not_lt.mpr hc)) hz
          refine R_sub [0, 1, 2, 3, 4, 5, 6] rfl ?_
          exact hX_33 _ (hB_36 _ (Z_some hz))
        · have hz := Z_pos (show n32 l9_29 < n32 (M_30 t 6) from (Int.not_le.mp hc)) hz
          refine R_aload (pc := 69) 4 (dc k_T_putSayable 35 rfl) rfl ?_
          refine R_iload (pc := 71) 5 (dc k_T_putSayable 36 rfl) rfl ?_
          refine R_iload (pc := 73) 8 (dc k_T_putSayable 37 rfl) rfl ?_
          refine R_iadd (pc := 75) (dc k_T_putSayable 38 rfl) ?_
          refine R_dup2 (pc := 76) (dc k_T_putSayable 39 rfl) rfl rfl ?_
          obtain ⟨⟨hg_38, hg_39⟩, hz⟩ := Z_chk hz
          obtain ⟨hg_40, hg_41, hg_42, hg_43, hg_44⟩ := aJ_at hg_38 hg_39
          refine R_lald (pc := 77) (dc k_T_putSayable 40 rfl) hg_41 hg_44 (Nat.le_trans hg_43 hn) hg_38 hg_42 ?_
          refine R_iload (pc := 78) 3 (dc k_T_putSayable 41 rfl) rfl ?_
          obtain ⟨K_46, hK_47, hz⟩ := Z_cut hz
          have hJ_48 : ∀ (v_45 : Int), K_46 v_45 → Rr y_T_putSayable (2, 48, n, n, E) (qV K) 110 [(0, vR t), (1, vI bits), (2, vI row), (4, vI surely), (5, vR to_), (6, vI at_), (7, vI l7_14), (8, vI r_28), (9, vI l9_29)] [vJ v_45, vJ (M_30 to_ (Int.toNat (at_ + l9_29))), vI (at_ + l9_29), vR to_] E n M_30 := by
            intro v_45 hk
            have hz := hK_47 _ hk
            refine R_land (pc := 110) (dc k_T_putSayable 58 rfl) ?_
            obtain ⟨M_54, hM_54, hz⟩ := Z_lt hz
            refine R_lastE (pc := 111) (dc k_T_putSayable 59 rfl) hg_41 hg_44 (Nat.le_trans hg_43 hn) hg_38 hg_42 hM_54 ?_
            obtain ⟨l9_55, hl9_55, hz⟩ := Z_lt hz
            refine R_iincE (pc := 112) (L' := [(9, vI l9_55), (0, vR t), (1, vI bits), (2, vI row), (4, vI surely), (5, vR to_), (6, vI at_), (7, vI l7_14), (8, vI r_28)]) 8 (dc k_T_putSayable 60 rfl) rfl (lb rfl) hl9_55 rfl ?_
            refine R_goto (pc := 115) 60 (dc k_T_putSayable 61 rfl) rfl ?_
            refine R_sub [1, 2, 3, 4, 5, 6, 7, 8, 0] rfl ?_
            exact hC_35 _ (Z_some hz)
          refine R_if_eq (pc := 80) 96 (dc k_T_putSayable 42 rfl) rfl (fun hc => ?_) (fun hc => ?_)
          · have hz := Z_neg (show ¬ (¬ n32 surely = 0) from (fun z => z hc)) hz
            refine R_aload_n (pc := 96) 0 (dc k_T_putSayable 50 rfl) rfl rfl ?_
            refine R_getS (pc := 97) (ci := 1) (k := 18) (t + 11) (dc k_T_putSayable 51 rfl) fl_T_43 (lT ht) (qT1 ht) (qTn_0 hnt) hEt (rT_18 ht) (Nat.succ_ne_zero _) rfl ?_
            refine R_iload (pc := 100) 7 (dc k_T_putSayable 52 rfl) rfl ?_
            refine R_iload (pc := 102) 8 (dc k_T_putSayable 53 rfl) rfl ?_
            refine R_iadd (pc := 104) (dc k_T_putSayable 54 rfl) ?_
            obtain ⟨⟨hg_51, hg_52⟩, hz⟩ := Z_chk hz
            refine R_lald (pc := 105) (dc k_T_putSayable 55 rfl) (lT_11 ht) (Nat.le_add_left_of_le (lb rfl)) (qTn_k hnt (lb rfl)) hg_51 hg_52 ?_
            refine R_ldc2 (pc := 106) (a := (-1)) (dc k_T_putSayable 56 rfl) c_T_122 ?_
            refine R_lxor (pc := 109) (dc k_T_putSayable 57 rfl) ?_
            exact hJ_48 _ (Z_some hz)
          · have hz := Z_pos (show ¬ n32 surely = 0 from hc) hz
            refine R_aload_n (pc := 83) 0 (dc k_T_putSayable 43 rfl) rfl rfl ?_
            refine R_getS (pc := 84) (ci := 1) (k := 17) (t + 10) (dc k_T_putSayable 44 rfl) fl_T_40 (lT ht) (qT1 ht) (qTn_0 hnt) hEt (rT_17 ht) (Nat.succ_ne_zero _) rfl ?_
            refine R_iload (pc := 87) 7 (dc k_T_putSayable 45 rfl) rfl ?_
            refine R_iload (pc := 89) 8 (dc k_T_putSayable 46 rfl) rfl ?_
            refine R_iadd (pc := 91) (dc k_T_putSayable 47 rfl) ?_
            obtain ⟨⟨hg_49, hg_50⟩, hz⟩ := Z_chk hz
            refine R_lald (pc := 92) (dc k_T_putSayable 48 rfl) (lT_10 ht) (Nat.le_add_left_of_le (lb rfl)) (qTn_k hnt (lb rfl)) hg_49 hg_50 ?_
            refine R_goto (pc := 93) 110 (dc k_T_putSayable 49 rfl) rfl ?_
            exact hJ_48 _ (Z_some hz)
  · have hz := Z_pos (show ¬ n32 r_13 = 0 from hc) hz
    exact R_vret (pc := 27) (dc k_T_putSayable 14 rfl) rfl rfl rfl ⟨rfl, (Z_some hz)⟩

set_option maxRecDepth 20000 in
theorem ct_X_may {E : Nat → Bool} {n : Nat} (hE : ∀ c, 1 ≤ c → c ≤ 80 → E c = true) (hn : 80 ≤ n) {persons : Int} {row : Int} {apart : Int} {surely : Int} {world : Int} {M : Mem} {K : Int × Mem → Prop} (hz : Z (X_may persons row apart surely world M) K) : Mt y_X_may (3, 77, n, n, E) E [vR 1, vI persons, vI row, vI apart, vI surely, vI world] M (qM K) := by
  refine Mt.of (by decide) (lb rfl) (Nat.le_refl _) rfl ?_
  rw [X_may] at hz
  show Rr y_X_may (3, 77, n, n, E) (qM K) 0 [(0, vR 1), (1, vI persons), (2, vI row), (3, vI apart), (4, vI surely), (5, vI world)] [] E n M
  refine R_aload_n (pc := 0) 0 (dc k_X_may 0 rfl) rfl rfl ?_
  obtain ⟨hg_1, hz⟩ := Z_chk hz
  obtain ⟨t_2, ht_2, hz⟩ := Z_lt hz
  obtain ⟨hq_3, ht_2t⟩ := isTI.at' hg_1 ht_2
  have hnt_2t := qTn ht_2t hn
  have hEt_2t := qTE ht_2t hE
  refine R_getR (pc := 1) (ci := 0) (k := 2) t_2 (dc k_X_may 1 rfl) fl_X_16 rfl (lb rfl) (Nat.le_trans (lb rfl) hn) (Or.inr rfl) hq_3 (qT0 ht_2t) rfl ?_
  refine R_iload_n (pc := 4) 1 (dc k_X_may 2 rfl) rfl rfl ?_
  refine R_cVP (pc := 5)  (As := [vI persons]) (S := []) ck_X_128 (dc k_X_may 3 rfl) ⟨(lT ht_2t), ⟨_, rfl, rfl⟩, (qT1 ht_2t), (qTn_0 hnt_2t)⟩ (lb rfl) (lb rfl) (lb rfl) rfl (ct_T_hasPersons hE hn ht_2t (Z_bind hz)) (fun r_4 hz => ?_)
  obtain ⟨K_5, hK_6, hz⟩ := Z_cut hz
  have hX_7 : K_5 true → Rr y_X_may (3, 77, n, n, E) (qM K) 24 [(0, vR 1), (1, vI persons), (2, vI row), (3, vI apart), (4, vI surely), (5, vI world)] [] E n M := by
    intro hk
    have hz := Z_pos rfl (hK_6 _ hk)
    refine R_iconst (pc := 24) (a := (-1)) (dc k_X_may 11 rfl) ?_
    exact R_iret (pc := 25) (dc k_X_may 12 rfl) rfl rfl rfl ⟨_, rfl, (Z_some hz)⟩
  have hY_8 : K_5 false → Rr y_X_may (3, 77, n, n, E) (qM K) 26 [(0, vR 1), (1, vI persons), (2, vI row), (3, vI apart), (4, vI surely), (5, vI world)] [] E n M := by
    intro hk
    have hz := Z_neg Bool.false_ne_true (hK_6 _ hk)
    refine R_aload_n (pc := 26) 0 (dc k_X_may 13 rfl) rfl rfl ?_
    refine R_getR (pc := 27) (ci := 0) (k := 2) t_2 (dc k_X_may 14 rfl) fl_X_16 rfl (lb rfl) (Nat.le_trans (lb rfl) hn) (Or.inr rfl) hq_3 (qT0 ht_2t) rfl ?_
    refine R_iload_n (pc := 30) 1 (dc k_X_may 15 rfl) rfl rfl ?_
    refine R_iload_n (pc := 31) 2 (dc k_X_may 16 rfl) rfl rfl ?_
    refine R_iload_n (pc := 32) 3 (dc k_X_may 17 rfl) rfl rfl ?_
    refine R_iload (pc := 33) 4 (dc k_X_may 18 rfl) rfl ?_
    refine R_aload_n (pc := 35) 0 (dc k_X_may 19 rfl) rfl rfl ?_
    refine R_getS (pc := 36) (ci := 0) (k := 11) 80 (dc k_X_may 20 rfl) fl_X_71 rfl (lb rfl) (Nat.le_trans (lb rfl) hn) (hE 1 (lb rfl) (lb rfl)) rfl (by decide) rfl ?_
    refine R_iconst (pc := 39) (a := 0) (dc k_X_may 21 rfl) ?_
    refine R_cVV (pc := 40)  (As := [vI persons, vI row, vI apart, vI surely, vR 80, vI 0]) (S := []) ck_X_135 (dc k_X_may 22 rfl) ⟨(lT ht_2t), ⟨_, rfl, rfl⟩, (qT1 ht_2t), (qTn_0 hnt_2t)⟩ (lb rfl) (lb rfl) (lb rfl) rfl (ct_T_putSayable hE hn ht_2t (Z_bind hz)) (fun M_11 hz => ?_)
    refine R_aload_n (pc := 43) 0 (dc k_X_may 23 rfl) rfl rfl ?_
    refine R_getS (pc := 44) (ci := 0) (k := 11) 80 (dc k_X_may 24 rfl) fl_X_71 rfl (lb rfl) (Nat.le_trans (lb rfl) hn) (hE 1 (lb rfl) (lb rfl)) rfl (by decide) rfl ?_
    refine R_iconst (pc := 47) (a := 0) (dc k_X_may 25 rfl) ?_
    refine R_iload (pc := 48) 5 (dc k_X_may 26 rfl) rfl ?_
    refine R_cSP (pc := 50)  (As := [vR 80, vI 0, vI world]) (S := []) ck_X_139 (dc k_X_may 27 rfl) (lb rfl) (lb rfl) (lb rfl) rfl (ct_X_has hE hn (Z_bind hz)) (fun r_12 hz => ?_)
    refine R_if_eq (pc := 53) 60 (dc k_X_may 28 rfl) rfl (fun hc => ?_) (fun hc => ?_)
    · have hz := Z_neg (show ¬ (¬ n32 r_12 = 0) from (fun z => z hc)) hz
      refine R_iconst (pc := 60) (a := 0) (dc k_X_may 31 rfl) ?_
      exact R_iret (pc := 61) (dc k_X_may 32 rfl) rfl rfl rfl ⟨_, rfl, (Z_some hz)⟩
    · have hz := Z_pos (show ¬ n32 r_12 = 0 from hc) hz
      refine R_iconst (pc := 56) (a := 1) (dc k_X_may 29 rfl) ?_
      refine R_goto (pc := 57) 61 (dc k_X_may 30 rfl) rfl ?_
      exact R_iret (pc := 61) (dc k_X_may 32 rfl) rfl rfl rfl ⟨_, rfl, (Z_some hz)⟩
  refine R_if_eq (pc := 8) 24 (dc k_X_may 4 rfl) rfl (fun hc => ?_) (fun hc => ?_)
  · have hz := Z_neg (show ¬ (¬ n32 r_4 = 0) from (fun z => z hc)) hz
    exact hX_7 (Z_some hz)
  · have hz := Z_pos (show ¬ n32 r_4 = 0 from hc) hz
    refine R_aload_n (pc := 11) 0 (dc k_X_may 5 rfl) rfl rfl ?_
    refine R_getR (pc := 12) (ci := 0) (k := 2) t_2 (dc k_X_may 6 rfl) fl_X_16 rfl (lb rfl) (Nat.le_trans (lb rfl) hn) (Or.inr rfl) hq_3 (qT0 ht_2t) rfl ?_
    refine R_iload_n (pc := 15) 2 (dc k_X_may 7 rfl) rfl rfl ?_
    refine R_iload (pc := 16) 5 (dc k_X_may 8 rfl) rfl ?_
    refine R_cVP (pc := 18)  (As := [vI row, vI world]) (S := []) ck_X_113 (dc k_X_may 9 rfl) ⟨(lT ht_2t), ⟨_, rfl, rfl⟩, (qT1 ht_2t), (qTn_0 hnt_2t)⟩ (lb rfl) (lb rfl) (lb rfl) rfl (ct_T_canBe hE hn ht_2t (Z_bind hz)) (fun r_10 hz => ?_)
    refine R_if_ne (pc := 21) 26 (dc k_X_may 10 rfl) rfl (fun hc => ?_) (fun hc => ?_)
    · have hz := Z_neg (show ¬ (n32 r_10 = 0) from hc) hz
      exact hY_8 (Z_some hz)
    · have hz := Z_pos (show n32 r_10 = 0 from (Decidable.not_not.mp hc)) hz
      exact hX_7 (Z_some hz)

set_option maxRecDepth 20000 in
theorem ct_Y_add {E : Nat → Bool} {n : Nat} (hE : ∀ c, 1 ≤ c → c ≤ 80 → E c = true) (hn : 80 ≤ n) {s : Nat} {who : Int} {row : Int} {isSure : Int} {time : Int} (hs : isY s) {M : Mem} {K : Mem → Prop} (hz : Z (Y_add s who row isSure time M) K) : Mt y_Y_add (0, 0, n, n, E) E [vR s, vI who, vI row, vI isSure, vI time] M (qV K) := by
  refine Mt.of (by decide) (lb rfl) (Nat.le_refl _) rfl ?_
  rw [Y_add] at hz
  have hns := qYn hs hn
  have hEs := qYE hs hE
  show Rr y_Y_add (0, 0, n, n, E) (qV K) 0 [(0, vR s), (1, vI who), (2, vI row), (3, vI isSure), (4, vI time)] [] E n M
  refine R_aload_n (pc := 0) 0 (dc k_Y_add 0 rfl) rfl rfl ?_
  refine R_getS (pc := 1) (ci := 5) (k := 2) (s + 1) (dc k_Y_add 1 rfl) fl_Y_9 (lY hs) (qY1 hs) (qYn_0 hns) hEs (rY_2 hs) (Nat.succ_ne_zero _) rfl ?_
  refine R_aload_n (pc := 4) 0 (dc k_Y_add 2 rfl) rfl rfl ?_
  refine R_getI (pc := 5) (ci := 5) (k := 0) (dc k_Y_add 3 rfl) fl_Y_32 (lY hs) (qY1 hs) (qYn_0 hns) (rY_0 hs) (Or.inl rfl) ?_
  refine R_iload_n (pc := 8) 1 (dc k_Y_add 4 rfl) rfl rfl ?_
  obtain ⟨⟨hg_1, hg_2⟩, hz⟩ := Z_chk hz
  obtain ⟨M_3, hM_3, hz⟩ := Z_lt hz
  refine R_iastE (pc := 9) (dc k_Y_add 5 rfl) (lY_1 hs) (Nat.le_add_left_of_le (lb rfl)) (qYn_k hns (lb rfl)) hg_1 hg_2 hM_3 ?_
  refine R_aload_n (pc := 10) 0 (dc k_Y_add 6 rfl) rfl rfl ?_
  refine R_getS (pc := 11) (ci := 5) (k := 3) (s + 2) (dc k_Y_add 7 rfl) fl_Y_15 (lY hs) (qY1 hs) (qYn_0 hns) hEs (rY_3 hs) (Nat.succ_ne_zero _) rfl ?_
  refine R_aload_n (pc := 14) 0 (dc k_Y_add 8 rfl) rfl rfl ?_
  refine R_getI (pc := 15) (ci := 5) (k := 0) (dc k_Y_add 9 rfl) fl_Y_32 (lY hs) (qY1 hs) (qYn_0 hns) (rY_0 hs) (Or.inl rfl) ?_
  refine R_iload_n (pc := 18) 2 (dc k_Y_add 10 rfl) rfl rfl ?_
  obtain ⟨⟨hg_4, hg_5⟩, hz⟩ := Z_chk hz
  obtain ⟨M_6, hM_6, hz⟩ := Z_lt hz
  refine R_iastE (pc := 19) (dc k_Y_add 11 rfl) (lY_2 hs) (Nat.le_add_left_of_le (lb rfl)) (qYn_k hns (lb rfl)) hg_4 hg_5 hM_6 ?_
  refine R_aload_n (pc := 20) 0 (dc k_Y_add 12 rfl) rfl rfl ?_
  refine R_getS (pc := 21) (ci := 5) (k := 4) (s + 3) (dc k_Y_add 13 rfl) fl_Y_18 (lY hs) (qY1 hs) (qYn_0 hns) hEs (rY_4 hs) (Nat.succ_ne_zero _) rfl ?_
  refine R_aload_n (pc := 24) 0 (dc k_Y_add 14 rfl) rfl rfl ?_
  refine R_getI (pc := 25) (ci := 5) (k := 0) (dc k_Y_add 15 rfl) fl_Y_32 (lY hs) (qY1 hs) (qYn_0 hns) (rY_0 hs) (Or.inl rfl) ?_
  refine R_iload_n (pc := 28) 3 (dc k_Y_add 16 rfl) rfl rfl ?_
  obtain ⟨⟨hg_7, hg_8⟩, hz⟩ := Z_chk hz
  obtain ⟨hg_9, hz⟩ := Z_chk hz
  obtain ⟨M_10, hM_10, hz⟩ := Z_lt hz
  refine R_zastE (pc := 29) (dc k_Y_add 17 rfl) (lY_3 hs) (Nat.le_add_left_of_le (lb rfl)) (qYn_k hns (lb rfl)) hg_7 hg_8 hg_9 hM_10 ?_
  refine R_aload_n (pc := 30) 0 (dc k_Y_add 18 rfl) rfl rfl ?_
  refine R_getS (pc := 31) (ci := 5) (k := 5) (s + 4) (dc k_Y_add 19 rfl) fl_Y_22 (lY hs) (qY1 hs) (qYn_0 hns) hEs (rY_5 hs) (Nat.succ_ne_zero _) rfl ?_
  refine R_aload_n (pc := 34) 0 (dc k_Y_add 20 rfl) rfl rfl ?_
  refine R_getI (pc := 35) (ci := 5) (k := 0) (dc k_Y_add 21 rfl) fl_Y_32 (lY hs) (qY1 hs) (qYn_0 hns) (rY_0 hs) (Or.inl rfl) ?_
  refine R_iload (pc := 38) 4 (dc k_Y_add 22 rfl) rfl ?_
  obtain ⟨⟨hg_11, hg_12⟩, hz⟩ := Z_chk hz
  obtain ⟨M_13, hM_13, hz⟩ := Z_lt hz
  refine R_iastE (pc := 40) (dc k_Y_add 23 rfl) (lY_4 hs) (Nat.le_add_left_of_le (lb rfl)) (qYn_k hns (lb rfl)) hg_11 hg_12 hM_13 ?_
  refine R_aload_n (pc := 41) 0 (dc k_Y_add 24 rfl) rfl rfl ?_
  refine R_getS (pc := 42) (ci := 5) (k := 6) (s + 5) (dc k_Y_add 25 rfl) fl_Y_25 (lY hs) (qY1 hs) (qYn_0 hns) hEs (rY_6 hs) (Nat.succ_ne_zero _) rfl ?_
  refine R_aload_n (pc := 45) 0 (dc k_Y_add 26 rfl) rfl rfl ?_
  refine R_getI (pc := 46) (ci := 5) (k := 0) (dc k_Y_add 27 rfl) fl_Y_32 (lY hs) (qY1 hs) (qYn_0 hns) (rY_0 hs) (Or.inl rfl) ?_
  refine R_iconst (pc := 49) (a := (-1)) (dc k_Y_add 28 rfl) ?_
  obtain ⟨⟨hg_14, hg_15⟩, hz⟩ := Z_chk hz
  obtain ⟨M_16, hM_16, hz⟩ := Z_lt hz
  refine R_iastE (pc := 50) (dc k_Y_add 29 rfl) (lY_5 hs) (Nat.le_add_left_of_le (lb rfl)) (qYn_k hns (lb rfl)) hg_14 hg_15 hM_16 ?_
  refine R_aload_n (pc := 51) 0 (dc k_Y_add 30 rfl) rfl rfl ?_
  refine R_dup (pc := 52) (dc k_Y_add 31 rfl) rfl ?_
  refine R_getI (pc := 53) (ci := 5) (k := 0) (dc k_Y_add 32 rfl) fl_Y_32 (lY hs) (qY1 hs) (qYn_0 hns) (rY_0 hs) (Or.inl rfl) ?_
  refine R_iconst (pc := 56) (a := 1) (dc k_Y_add 33 rfl) ?_
  refine R_iadd (pc := 57) (dc k_Y_add 34 rfl) ?_
  obtain ⟨M_17, hM_17, hz⟩ := Z_lt hz
  refine R_putIE (pc := 58) (ci := 5) (k := 0) (dc k_Y_add 35 rfl) fl_Y_32 (lY hs) (qY1 hs) (qYn_0 hns) (rY_0 hs) rfl rfl hM_17 ?_
  exact R_vret (pc := 61) (dc k_Y_add 36 rfl) rfl rfl rfl ⟨rfl, (Z_some hz)⟩

set_option maxRecDepth 20000 in
theorem ct_X_say {E : Nat → Bool} {n : Nat} (hE : ∀ c, 1 ≤ c → c ≤ 80 → E c = true) (hn : 80 ≤ n) {persons : Int} {row : Int} {apart : Int} {surely : Int} {M : Mem} {K : Int × Mem → Prop} (hz : Z (X_say persons row apart surely M) K) : Mt y_X_say (3, 77, n, n, E) E [vR 1, vI persons, vI row, vI apart, vI surely] M (qM K) := by
  refine Mt.of (by decide) (lb rfl) (Nat.le_refl _) rfl ?_
  rw [X_say] at hz
  show Rr y_X_say (3, 77, n, n, E) (qM K) 0 [(0, vR 1), (1, vI persons), (2, vI row), (3, vI apart), (4, vI surely)] [] E n M
  refine R_aload_n (pc := 0) 0 (dc k_X_say 0 rfl) rfl rfl ?_
  refine R_getS (pc := 1) (ci := 0) (k := 5) 42 (dc k_X_say 1 rfl) fl_X_35 rfl (lb rfl) (Nat.le_trans (lb rfl) hn) (hE 1 (lb rfl) (lb rfl)) rfl (by decide) rfl ?_
  refine R_getI (pc := 4) (ci := 5) (k := 0) (dc k_X_say 2 rfl) fl_X_99 rfl (lb rfl) (Nat.le_trans (lb rfl) hn) rfl (Or.inl rfl) ?_
  obtain ⟨l5_1, hl5_1, hz⟩ := Z_lt hz
  refine R_istoreE (pc := 7) (L' := [(5, vI l5_1), (0, vR 1), (1, vI persons), (2, vI row), (3, vI apart), (4, vI surely)]) (dc k_X_say 3 rfl) (lb rfl) hl5_1 rfl ?_
  refine R_aload_n (pc := 9) 1 (dc k_X_say 4 rfl) rfl rfl ?_
  obtain ⟨hg_2, hz⟩ := Z_chk hz
  obtain ⟨t_3, ht_3, hz⟩ := Z_lt hz
  obtain ⟨hq_4, ht_3t⟩ := isTI.at' hg_2 ht_3
  have hnt_3t := qTn ht_3t hn
  have hEt_3t := qTE ht_3t hE
  refine R_getR (pc := 10) (ci := 0) (k := 2) t_3 (dc k_X_say 5 rfl) fl_X_16 rfl (lb rfl) (Nat.le_trans (lb rfl) hn) (Or.inr rfl) hq_4 (qT0 ht_3t) rfl ?_
  refine R_iload_n (pc := 13) 2 (dc k_X_say 6 rfl) rfl rfl ?_
  refine R_cVP (pc := 14)  (As := [vI persons]) (S := []) ck_X_128 (dc k_X_say 7 rfl) ⟨(lT ht_3t), ⟨_, rfl, rfl⟩, (qT1 ht_3t), (qTn_0 hnt_3t)⟩ (lb rfl) (lb rfl) (lb rfl) rfl (ct_T_hasPersons hE hn ht_3t (Z_bind hz)) (fun r_5 hz => ?_)
  obtain ⟨K_6, hK_7, hz⟩ := Z_cut hz
  have hX_8 : K_6 true → Rr y_X_say (3, 77, n, n, E) (qM K) 38 [(5, vI l5_1), (0, vR 1), (1, vI persons), (2, vI row), (3, vI apart), (4, vI surely)] [] E n M := by
    intro hk
    have hz := Z_pos rfl (hK_7 _ hk)
    refine R_iconst (pc := 38) (a := (-1)) (dc k_X_say 17 rfl) ?_
    exact R_iret (pc := 39) (dc k_X_say 18 rfl) rfl rfl rfl ⟨_, rfl, (Z_some hz)⟩
  have hY_9 : K_6 false → Rr y_X_say (3, 77, n, n, E) (qM K) 40 [(5, vI l5_1), (0, vR 1), (1, vI persons), (2, vI row), (3, vI apart), (4, vI surely)] [] E n M := by
    intro hk
    have hz := Z_neg Bool.false_ne_true (hK_7 _ hk)
    refine R_aload_n (pc := 40) 1 (dc k_X_say 19 rfl) rfl rfl ?_
    refine R_getS (pc := 41) (ci := 0) (k := 5) 42 (dc k_X_say 20 rfl) fl_X_35 rfl (lb rfl) (Nat.le_trans (lb rfl) hn) (hE 1 (lb rfl) (lb rfl)) rfl (by decide) rfl ?_
    refine R_iload_n (pc := 44) 2 (dc k_X_say 21 rfl) rfl rfl ?_
    refine R_iload_n (pc := 45) 3 (dc k_X_say 22 rfl) rfl rfl ?_
    refine R_iload (pc := 46) 5 (dc k_X_say 23 rfl) rfl ?_
    refine R_aload_n (pc := 48) 1 (dc k_X_say 24 rfl) rfl rfl ?_
    refine R_getI (pc := 49) (ci := 0) (k := 12) (dc k_X_say 25 rfl) fl_X_146 rfl (lb rfl) (Nat.le_trans (lb rfl) hn) rfl (Or.inl rfl) ?_
    refine R_cVV (pc := 52)  (As := [vI persons, vI row, vI surely, vI (M 1 12)]) (S := []) ck_X_149 (dc k_X_say 26 rfl) ⟨rfl, ⟨_, rfl, rfl⟩, (lb rfl), (Nat.le_trans (lb rfl) hn)⟩ (lb rfl) (lb rfl) (lb rfl) rfl (ct_Y_add hE hn qY42 (Z_bind hz)) (fun M_12 hz => ?_)
    refine R_aload_n (pc := 55) 1 (dc k_X_say 27 rfl) rfl rfl ?_
    obtain ⟨hg_13, hz⟩ := Z_chk hz
    obtain ⟨t_14, ht_14, hz⟩ := Z_lt hz
    obtain ⟨hq_15, ht_14t⟩ := isTI.at' hg_13 ht_14
    have hnt_14t := qTn ht_14t hn
    have hEt_14t := qTE ht_14t hE
    refine R_getR (pc := 56) (ci := 0) (k := 2) t_14 (dc k_X_say 28 rfl) fl_X_16 rfl (lb rfl) (Nat.le_trans (lb rfl) hn) (Or.inr rfl) hq_15 (qT0 ht_14t) rfl ?_
    refine R_iload_n (pc := 59) 2 (dc k_X_say 29 rfl) rfl rfl ?_
    refine R_iload_n (pc := 60) 3 (dc k_X_say 30 rfl) rfl rfl ?_
    refine R_iload_n (pc := 61) 4 (dc k_X_say 31 rfl) rfl rfl ?_
    refine R_iload (pc := 62) 5 (dc k_X_say 32 rfl) rfl ?_
    refine R_aload_n (pc := 64) 1 (dc k_X_say 33 rfl) rfl rfl ?_
    refine R_getS (pc := 65) (ci := 0) (k := 5) 42 (dc k_X_say 34 rfl) fl_X_35 rfl (lb rfl) (Nat.le_trans (lb rfl) hn) (hE 1 (lb rfl) (lb rfl)) rfl (by decide) rfl ?_
    refine R_getS (pc := 68) (ci := 5) (k := 7) 48 (dc k_X_say 35 rfl) fl_X_153 rfl (lb rfl) (Nat.le_trans (lb rfl) hn) (hE 42 (lb rfl) (lb rfl)) rfl (by decide) rfl ?_
    refine R_iload (pc := 71) 0 (dc k_X_say 36 rfl) rfl ?_
    refine R_iconst (pc := 73) (a := 4) (dc k_X_say 37 rfl) ?_
    refine R_imul (pc := 74) (dc k_X_say 38 rfl) ?_
    refine R_cVV (pc := 75)  (As := [vI persons, vI row, vI apart, vI surely, vR 48, vI (l5_1 * 4)]) (S := []) ck_X_135 (dc k_X_say 39 rfl) ⟨(lT ht_14t), ⟨_, rfl, rfl⟩, (qT1 ht_14t), (qTn_0 hnt_14t)⟩ (lb rfl) (lb rfl) (lb rfl) rfl (ct_T_putSayable hE hn ht_14t (Z_bind hz)) (fun M_16 hz => ?_)
    refine R_iload (pc := 78) 0 (dc k_X_say 40 rfl) rfl ?_
    exact R_iret (pc := 80) (dc k_X_say 41 rfl) rfl rfl rfl ⟨_, rfl, (Z_some hz)⟩
  refine R_if_eq (pc := 17) 38 (dc k_X_say 8 rfl) rfl (fun hc => ?_) (fun hc => ?_)
  · have hz := Z_neg (show ¬ (¬ n32 r_5 = 0) from (fun z => z hc)) hz
    exact hX_8 (Z_some hz)
  · have hz := Z_pos (show ¬ n32 r_5 = 0 from hc) hz
    refine R_aload_n (pc := 20) 1 (dc k_X_say 9 rfl) rfl rfl ?_
    refine R_getR (pc := 21) (ci := 0) (k := 2) t_3 (dc k_X_say 10 rfl) fl_X_16 rfl (lb rfl) (Nat.le_trans (lb rfl) hn) (Or.inr rfl) hq_4 (qT0 ht_3t) rfl ?_
    refine R_iload_n (pc := 24) 3 (dc k_X_say 11 rfl) rfl rfl ?_
    refine R_cVP (pc := 25)  (As := [vI row]) (S := []) ck_X_143 (dc k_X_say 12 rfl) ⟨(lT ht_3t), ⟨_, rfl, rfl⟩, (qT1 ht_3t), (qTn_0 hnt_3t)⟩ (lb rfl) (lb rfl) (lb rfl) rfl (ct_T_hasRow hE hn ht_3t (Z_bind hz)) (fun r_11 hz => ?_)
    refine R_if_eq (pc := 28) 38 (dc k_X_say 13 rfl) rfl (fun hc => ?_) (fun hc => ?_)
    · have hz := Z_neg (show ¬ (¬ n32 r_11 = 0) from (fun z => z hc)) hz
      exact hX_8 (Z_some hz)
    · have hz := Z_pos (show ¬ n32 r_11 = 0 from hc) hz
      refine R_iload (pc := 31) 0 (dc k_X_say 14 rfl) rfl ?_
      refine R_bipush (pc := 33) (a := 40) (dc k_X_say 15 rfl) (by decide) ?_
      refine R_icmp_lt (pc := 35) 40 (dc k_X_say 16 rfl) rfl (fun hc => ?_) (fun hc => ?_)
      · have hz := Z_neg (show ¬ (40 ≤ n32 l5_1) from (Int.not_le.mpr hc)) hz
        exact hY_9 (Z_some hz)
      · have hz := Z_pos (show 40 ≤ n32 l5_1 from (Int.not_lt.mp hc)) hz
        exact hX_8 (Z_some hz)

set_option maxRecDepth 20000 in
theorem ct_X_untell {E : Nat → Bool} {n : Nat} (hE : ∀ c, 1 ≤ c → c ≤ 80 → E c = true) (hn : 80 ≤ n) {saying : Int} {M : Mem} {K : Int × Mem → Prop} (hz : Z (X_untell saying M) K) : Mt y_X_untell (0, 0, n, n, E) E [vR 1, vI saying] M (qM K) := by
  refine Mt.of (by decide) (lb rfl) (Nat.le_refl _) rfl ?_
  rw [X_untell] at hz
  show Rr y_X_untell (0, 0, n, n, E) (qM K) 0 [(0, vR 1), (1, vI saying)] [] E n M
  refine R_iload_n (pc := 0) 1 (dc k_X_untell 0 rfl) rfl rfl ?_
  obtain ⟨K_1, hK_2, hz⟩ := Z_cut hz
  have hX_3 : K_1 true → Rr y_X_untell (0, 0, n, n, E) (qM K) 28 [(0, vR 1), (1, vI saying)] [] E n M := by
    intro hk
    have hz := Z_pos rfl (hK_2 _ hk)
    refine R_iconst (pc := 28) (a := 0) (dc k_X_untell 14 rfl) ?_
    exact R_zret (pc := 29) (dc k_X_untell 15 rfl) rfl (Or.inl rfl) rfl rfl ⟨_, rfl, (Z_some hz)⟩
  have hY_4 : K_1 false → Rr y_X_untell (0, 0, n, n, E) (qM K) 30 [(0, vR 1), (1, vI saying)] [] E n M := by
    intro hk
    have hz := Z_neg Bool.false_ne_true (hK_2 _ hk)
    refine R_aload_n (pc := 30) 0 (dc k_X_untell 16 rfl) rfl rfl ?_
    refine R_getS (pc := 31) (ci := 0) (k := 5) 42 (dc k_X_untell 17 rfl) fl_X_35 rfl (lb rfl) (Nat.le_trans (lb rfl) hn) (hE 1 (lb rfl) (lb rfl)) rfl (by decide) rfl ?_
    refine R_getS (pc := 34) (ci := 5) (k := 6) 47 (dc k_X_untell 18 rfl) fl_X_156 rfl (lb rfl) (Nat.le_trans (lb rfl) hn) (hE 42 (lb rfl) (lb rfl)) rfl (by decide) rfl ?_
    refine R_iload_n (pc := 37) 1 (dc k_X_untell 19 rfl) rfl rfl ?_
    refine R_aload_n (pc := 38) 0 (dc k_X_untell 20 rfl) rfl rfl ?_
    refine R_getI (pc := 39) (ci := 0) (k := 12) (dc k_X_untell 21 rfl) fl_X_146 rfl (lb rfl) (Nat.le_trans (lb rfl) hn) rfl (Or.inl rfl) ?_
    obtain ⟨⟨hg_8, hg_9⟩, hz⟩ := Z_chk hz
    obtain ⟨M_10, hM_10, hz⟩ := Z_lt hz
    refine R_iastE (pc := 42) (dc k_X_untell 22 rfl) rfl (lb rfl) (Nat.le_trans (lb rfl) hn) hg_8 hg_9 hM_10 ?_
    refine R_iconst (pc := 43) (a := 1) (dc k_X_untell 23 rfl) ?_
    exact R_zret (pc := 44) (dc k_X_untell 24 rfl) rfl (Or.inr rfl) rfl rfl ⟨_, rfl, (Z_some hz)⟩
  refine R_if_lt (pc := 1) 28 (dc k_X_untell 1 rfl) rfl (fun hc => ?_) (fun hc => ?_)
  · have hz := Z_neg (show ¬ (0 ≤ n32 saying) from (Int.not_le.mpr hc)) hz
    exact hX_3 (Z_some hz)
  · have hz := Z_pos (show 0 ≤ n32 saying from (Int.not_lt.mp hc)) hz
    refine R_iload_n (pc := 4) 1 (dc k_X_untell 2 rfl) rfl rfl ?_
    refine R_aload_n (pc := 5) 0 (dc k_X_untell 3 rfl) rfl rfl ?_
    refine R_getS (pc := 6) (ci := 0) (k := 5) 42 (dc k_X_untell 4 rfl) fl_X_35 rfl (lb rfl) (Nat.le_trans (lb rfl) hn) (hE 1 (lb rfl) (lb rfl)) rfl (by decide) rfl ?_
    refine R_getI (pc := 9) (ci := 5) (k := 0) (dc k_X_untell 5 rfl) fl_X_99 rfl (lb rfl) (Nat.le_trans (lb rfl) hn) rfl (Or.inl rfl) ?_
    refine R_icmp_ge (pc := 12) 28 (dc k_X_untell 6 rfl) rfl (fun hc => ?_) (fun hc => ?_)
    · have hz := Z_neg (show ¬ (n32 saying < n32 (M 42 0)) from (Int.not_lt.mpr hc)) hz
      exact hX_3 (Z_some hz)
    · have hz := Z_pos (show n32 saying < n32 (M 42 0) from (Int.not_le.mp hc)) hz
      refine R_aload_n (pc := 15) 0 (dc k_X_untell 7 rfl) rfl rfl ?_
      refine R_getS (pc := 16) (ci := 0) (k := 5) 42 (dc k_X_untell 8 rfl) fl_X_35 rfl (lb rfl) (Nat.le_trans (lb rfl) hn) (hE 1 (lb rfl) (lb rfl)) rfl (by decide) rfl ?_
      refine R_getS (pc := 19) (ci := 5) (k := 6) 47 (dc k_X_untell 9 rfl) fl_X_156 rfl (lb rfl) (Nat.le_trans (lb rfl) hn) (hE 42 (lb rfl) (lb rfl)) rfl (by decide) rfl ?_
      refine R_iload_n (pc := 22) 1 (dc k_X_untell 10 rfl) rfl rfl ?_
      obtain ⟨⟨hg_6, hg_7⟩, hz⟩ := Z_chk hz
      refine R_iald (pc := 23) (dc k_X_untell 11 rfl) rfl (lb rfl) (Nat.le_trans (lb rfl) hn) hg_6 hg_7 ?_
      refine R_iconst (pc := 24) (a := (-1)) (dc k_X_untell 12 rfl) ?_
      refine R_icmp_eq (pc := 25) 30 (dc k_X_untell 13 rfl) rfl (fun hc => ?_) (fun hc => ?_)
      · have hz := Z_neg (show ¬ (¬ n32 (M 47 (Int.toNat saying)) = (-1)) from (fun z => z hc)) hz
        exact hY_4 (Z_some hz)
      · have hz := Z_pos (show ¬ n32 (M 47 (Int.toNat saying)) = (-1) from hc) hz
        exact hX_3 (Z_some hz)

set_option maxRecDepth 20000 in
theorem ct_X_later {E : Nat → Bool} {n : Nat} (hE : ∀ c, 1 ≤ c → c ≤ 80 → E c = true) (hn : 80 ≤ n) {by_ : Int} {M : Mem} {K : Int × Mem → Prop} (hz : Z (X_later by_ M) K) : Mt y_X_later (0, 0, n, n, E) E [vR 1, vI by_] M (qM K) := by
  refine Mt.of (by decide) (lb rfl) (Nat.le_refl _) rfl ?_
  rw [X_later] at hz
  show Rr y_X_later (0, 0, n, n, E) (qM K) 0 [(0, vR 1), (1, vI by_)] [] E n M
  refine R_iload_n (pc := 0) 1 (dc k_X_later 0 rfl) rfl rfl ?_
  have hX_2 : ((n32 by_ < 0) ∨ ((1000 < n32 by_) ∨ (100000 < n32 ((M 1 12) + by_)))) → Rr y_X_later (0, 0, n, n, E) (qM K) 22 [(0, vR 1), (1, vI by_)] [] E n M := by
    intro hc
    have hz := Z_pos hc hz
    refine R_iconst (pc := 22) (a := (-1)) (dc k_X_later 11 rfl) ?_
    exact R_iret (pc := 23) (dc k_X_later 12 rfl) rfl rfl rfl ⟨_, rfl, (Z_some hz)⟩
  have hY_3 : ¬ ((n32 by_ < 0) ∨ ((1000 < n32 by_) ∨ (100000 < n32 ((M 1 12) + by_)))) → Rr y_X_later (0, 0, n, n, E) (qM K) 24 [(0, vR 1), (1, vI by_)] [] E n M := by
    intro hc
    have hz := Z_neg hc hz
    refine R_aload_n (pc := 24) 0 (dc k_X_later 13 rfl) rfl rfl ?_
    refine R_dup (pc := 25) (dc k_X_later 14 rfl) rfl ?_
    refine R_getI (pc := 26) (ci := 0) (k := 12) (dc k_X_later 15 rfl) fl_X_146 rfl (lb rfl) (Nat.le_trans (lb rfl) hn) rfl (Or.inl rfl) ?_
    refine R_iload_n (pc := 29) 1 (dc k_X_later 16 rfl) rfl rfl ?_
    refine R_iadd (pc := 30) (dc k_X_later 17 rfl) ?_
    obtain ⟨M_1, hM_1, hz⟩ := Z_lt hz
    refine R_putIE (pc := 31) (ci := 0) (k := 12) (dc k_X_later 18 rfl) fl_X_146 rfl (lb rfl) (Nat.le_trans (lb rfl) hn) rfl rfl rfl hM_1 ?_
    refine R_aload_n (pc := 34) 0 (dc k_X_later 19 rfl) rfl rfl ?_
    refine R_getI (pc := 35) (ci := 0) (k := 12) (dc k_X_later 20 rfl) fl_X_146 rfl (lb rfl) (Nat.le_trans (lb rfl) hn) rfl (Or.inl rfl) ?_
    exact R_iret (pc := 38) (dc k_X_later 21 rfl) rfl rfl rfl ⟨_, rfl, (Z_some hz)⟩
  refine R_if_lt (pc := 1) 22 (dc k_X_later 1 rfl) rfl (fun hc => ?_) (fun hc => ?_)
  · have hc_4 : n32 by_ < 0 := hc
    exact hX_2 (Or.inl hc_4)
  · have hc_5 : 0 ≤ n32 by_ := (Int.not_lt.mp hc)
    refine R_iload_n (pc := 4) 1 (dc k_X_later 2 rfl) rfl rfl ?_
    refine R_sipush (pc := 5) (a := 1000) (dc k_X_later 3 rfl) (by decide) ?_
    refine R_icmp_gt (pc := 8) 22 (dc k_X_later 4 rfl) rfl (fun hc => ?_) (fun hc => ?_)
    · have hc_6 : 1000 < n32 by_ := hc
      exact hX_2 (Or.inr (Or.inl hc_6))
    · have hc_7 : n32 by_ ≤ 1000 := (Int.not_lt.mp hc)
      refine R_aload_n (pc := 11) 0 (dc k_X_later 5 rfl) rfl rfl ?_
      refine R_getI (pc := 12) (ci := 0) (k := 12) (dc k_X_later 6 rfl) fl_X_146 rfl (lb rfl) (Nat.le_trans (lb rfl) hn) rfl (Or.inl rfl) ?_
      refine R_iload_n (pc := 15) 1 (dc k_X_later 7 rfl) rfl rfl ?_
      refine R_iadd (pc := 16) (dc k_X_later 8 rfl) ?_
      refine R_ldc (pc := 17) (a := 100000) (dc k_X_later 9 rfl) c_X_160 ?_
      refine R_icmp_le (pc := 19) 24 (dc k_X_later 10 rfl) rfl (fun hc => ?_) (fun hc => ?_)
      · have hc_8 : n32 ((M 1 12) + by_) ≤ 100000 := hc
        exact hY_3 (fun z => z.elim (Int.not_lt.mpr hc_5) (fun z => z.elim (Int.not_lt.mpr hc_7) (Int.not_lt.mpr hc_8)))
      · have hc_9 : 100000 < n32 ((M 1 12) + by_) := (Int.not_le.mp hc)
        exact hX_2 (Or.inr (Or.inr hc_9))

set_option maxRecDepth 20000 in
theorem ct_Y_counts {E : Nat → Bool} {n : Nat} (hE : ∀ c, 1 ≤ c → c ≤ 80 → E c = true) (hn : 80 ≤ n) {s : Nat} {saying : Int} {k : Int} (hs : isY s) {M : Mem} {K : Int → Prop} (hz : Z (Y_counts s saying k M) K) : Mt y_Y_counts (0, 0, n, n, E) E [vR s, vI saying, vI k] M (qP M K) := by
  refine Mt.of (by decide) (lb rfl) (Nat.le_refl _) rfl ?_
  rw [Y_counts] at hz
  have hns := qYn hs hn
  have hEs := qYE hs hE
  show Rr y_Y_counts (0, 0, n, n, E) (qP M K) 0 [(0, vR s), (1, vI saying), (2, vI k)] [] E n M
  refine R_aload_n (pc := 0) 0 (dc k_Y_counts 0 rfl) rfl rfl ?_
  refine R_getS (pc := 1) (ci := 5) (k := 6) (s + 5) (dc k_Y_counts 1 rfl) fl_Y_25 (lY hs) (qY1 hs) (qYn_0 hns) hEs (rY_6 hs) (Nat.succ_ne_zero _) rfl ?_
  refine R_iload_n (pc := 4) 1 (dc k_Y_counts 2 rfl) rfl rfl ?_
  obtain ⟨⟨hg_1, hg_2⟩, hz⟩ := Z_chk hz
  refine R_iald (pc := 5) (dc k_Y_counts 3 rfl) (lY_5 hs) (Nat.le_add_left_of_le (lb rfl)) (qYn_k hns (lb rfl)) hg_1 hg_2 ?_
  refine R_iconst (pc := 6) (a := (-1)) (dc k_Y_counts 4 rfl) ?_
  obtain ⟨K_4, hK_5, hz⟩ := Z_cut hz
  have hJ_6 : ∀ (v_3 : Int), K_4 v_3 → Rr y_Y_counts (0, 0, n, n, E) (qP M K) 25 [(0, vR s), (1, vI saying), (2, vI k)] [vI v_3] E n M := by
    intro v_3 hk
    have hz := hK_5 _ hk
    refine R_istore_n (pc := 25) (L' := [(3, vI v_3), (0, vR s), (1, vI saying), (2, vI k)]) (dc k_Y_counts 15 rfl) rfl (lb rfl) rfl ?_
    refine R_aload_n (pc := 26) 1 (dc k_Y_counts 16 rfl) rfl rfl ?_
    refine R_getS (pc := 27) (ci := 5) (k := 5) (s + 4) (dc k_Y_counts 17 rfl) fl_Y_22 (lY hs) (qY1 hs) (qYn_0 hns) hEs (rY_5 hs) (Nat.succ_ne_zero _) rfl ?_
    refine R_iload_n (pc := 30) 2 (dc k_Y_counts 18 rfl) rfl rfl ?_
    refine R_iald (pc := 31) (dc k_Y_counts 19 rfl) (lY_4 hs) (Nat.le_add_left_of_le (lb rfl)) (qYn_k hns (lb rfl)) hg_1 hg_2 ?_
    refine R_iload_n (pc := 32) 3 (dc k_Y_counts 20 rfl) rfl rfl ?_
    have hX_12 : ((n32 (M (s + 4) (Int.toNat saying)) ≤ n32 k) ∧ (n32 v_3 = 0)) → Rr y_Y_counts (0, 0, n, n, E) (qP M K) 40 [(3, vI v_3), (0, vR s), (1, vI saying), (2, vI k)] [] E n M := by
      intro hc
      have hz := Z_pos hc hz
      refine R_iconst (pc := 40) (a := 1) (dc k_Y_counts 24 rfl) ?_
      refine R_goto (pc := 41) 45 (dc k_Y_counts 25 rfl) rfl ?_
      exact R_zret (pc := 45) (dc k_Y_counts 27 rfl) rfl (Or.inr rfl) rfl rfl ⟨_, rfl, rfl, (Z_some hz)⟩
    have hY_13 : ¬ ((n32 (M (s + 4) (Int.toNat saying)) ≤ n32 k) ∧ (n32 v_3 = 0)) → Rr y_Y_counts (0, 0, n, n, E) (qP M K) 44 [(3, vI v_3), (0, vR s), (1, vI saying), (2, vI k)] [] E n M := by
      intro hc
      have hz := Z_neg hc hz
      refine R_iconst (pc := 44) (a := 0) (dc k_Y_counts 26 rfl) ?_
      exact R_zret (pc := 45) (dc k_Y_counts 27 rfl) rfl (Or.inl rfl) rfl rfl ⟨_, rfl, rfl, (Z_some hz)⟩
    refine R_icmp_gt (pc := 33) 44 (dc k_Y_counts 21 rfl) rfl (fun hc => ?_) (fun hc => ?_)
    · have hc_14 : n32 k < n32 (M (s + 4) (Int.toNat saying)) := hc
      exact hY_13 (fun z => (Int.not_le.mpr hc_14) z.1)
    · have hc_15 : n32 (M (s + 4) (Int.toNat saying)) ≤ n32 k := (Int.not_lt.mp hc)
      refine R_iload_n (pc := 36) 0 (dc k_Y_counts 22 rfl) rfl rfl ?_
      refine R_if_ne (pc := 37) 44 (dc k_Y_counts 23 rfl) rfl (fun hc => ?_) (fun hc => ?_)
      · have hc_16 : ¬ n32 v_3 = 0 := hc
        exact hY_13 (fun z => hc_16 z.2)
      · have hc_17 : n32 v_3 = 0 := (Decidable.not_not.mp hc)
        exact hX_12 ⟨hc_15, hc_17⟩
  obtain ⟨K_7, hK_8, hz⟩ := Z_cut hz
  have hX_9 : K_7 true → Rr y_Y_counts (0, 0, n, n, E) (qP M K) 20 [(0, vR s), (1, vI saying), (2, vI k)] [] E n M := by
    intro hk
    have hz := Z_pos rfl (hK_8 _ hk)
    refine R_iconst (pc := 20) (a := 1) (dc k_Y_counts 12 rfl) ?_
    refine R_goto (pc := 21) 25 (dc k_Y_counts 13 rfl) rfl ?_
    exact hJ_6 _ (Z_some hz)
  have hY_10 : K_7 false → Rr y_Y_counts (0, 0, n, n, E) (qP M K) 24 [(0, vR s), (1, vI saying), (2, vI k)] [] E n M := by
    intro hk
    have hz := Z_neg Bool.false_ne_true (hK_8 _ hk)
    refine R_iconst (pc := 24) (a := 0) (dc k_Y_counts 14 rfl) ?_
    exact hJ_6 _ (Z_some hz)
  refine R_icmp_eq (pc := 7) 24 (dc k_Y_counts 5 rfl) rfl (fun hc => ?_) (fun hc => ?_)
  · have hz := Z_neg (show ¬ (¬ n32 (M (s + 5) (Int.toNat saying)) = (-1)) from (fun z => z hc)) hz
    exact hY_10 (Z_some hz)
  · have hz := Z_pos (show ¬ n32 (M (s + 5) (Int.toNat saying)) = (-1) from hc) hz
    refine R_aload_n (pc := 10) 0 (dc k_Y_counts 6 rfl) rfl rfl ?_
    refine R_getS (pc := 11) (ci := 5) (k := 6) (s + 5) (dc k_Y_counts 7 rfl) fl_Y_25 (lY hs) (qY1 hs) (qYn_0 hns) hEs (rY_6 hs) (Nat.succ_ne_zero _) rfl ?_
    refine R_iload_n (pc := 14) 1 (dc k_Y_counts 8 rfl) rfl rfl ?_
    refine R_iald (pc := 15) (dc k_Y_counts 9 rfl) (lY_5 hs) (Nat.le_add_left_of_le (lb rfl)) (qYn_k hns (lb rfl)) hg_1 hg_2 ?_
    refine R_iload_n (pc := 16) 2 (dc k_Y_counts 10 rfl) rfl rfl ?_
    refine R_icmp_gt (pc := 17) 24 (dc k_Y_counts 11 rfl) rfl (fun hc => ?_) (fun hc => ?_)
    · have hz := Z_neg (show ¬ (n32 (M (s + 5) (Int.toNat saying)) ≤ n32 k) from (Int.not_le.mpr hc)) hz
      exact hY_10 (Z_some hz)
    · have hz := Z_pos (show n32 (M (s + 5) (Int.toNat saying)) ≤ n32 k from (Int.not_lt.mp hc)) hz
      exact hX_9 (Z_some hz)

set_option maxRecDepth 20000 in
theorem ct_W_look {E : Nat → Bool} {n : Nat} (hE : ∀ c, 1 ≤ c → c ≤ 80 → E c = true) (hn : 80 ≤ n) {tat_ : Nat} {k : Int} (htat_ : isT tat_) {M : Mem} {K : Mem → Prop} (hz : Z (W_look tat_ k M) K) : Mt y_W_look (2, 45, n, n, E) E [vR 71, vR tat_, vR 42, vI k] M (qV K) := by
  refine Mt.of (by decide) (lb rfl) (Nat.le_refl _) rfl ?_
  rw [W_look] at hz
  have hntat_ := qTn htat_ hn
  have hEtat_ := qTE htat_ hE
  show Rr y_W_look (2, 45, n, n, E) (qV K) 0 [(0, vR 71), (1, vR tat_), (2, vR 42), (3, vI k)] [] E n M
  refine R_aload_n (pc := 0) 0 (dc k_W_look 0 rfl) rfl rfl ?_
  refine R_aload_n (pc := 1) 1 (dc k_W_look 1 rfl) rfl rfl ?_
  obtain ⟨M_1, hM_1, hz⟩ := Z_lt hz
  refine R_putRE (pc := 2) (ci := 6) (k := 0) (dc k_W_look 2 rfl) fl_W_19 rfl (lb rfl) (Nat.le_trans (lb rfl) hn) rfl rfl (qT0 htat_) (qTn_0 hntat_) rfl hM_1 ?_
  refine R_aload_n (pc := 5) 0 (dc k_W_look 3 rfl) rfl rfl ?_
  refine R_aload_n (pc := 6) 2 (dc k_W_look 4 rfl) rfl rfl ?_
  obtain ⟨M_2, hM_2, hz⟩ := Z_lt hz
  refine R_putRE (pc := 7) (ci := 6) (k := 1) (dc k_W_look 5 rfl) fl_W_23 rfl (lb rfl) (Nat.le_trans (lb rfl) hn) rfl rfl (by decide) (Nat.le_trans (lb rfl) hn) rfl hM_2 ?_
  refine R_aload_n (pc := 10) 0 (dc k_W_look 6 rfl) rfl rfl ?_
  refine R_iconst (pc := 11) (a := 0) (dc k_W_look 7 rfl) ?_
  obtain ⟨M_3, hM_3, hz⟩ := Z_lt hz
  refine R_putIE (pc := 12) (ci := 6) (k := 3) (dc k_W_look 8 rfl) fl_W_27 rfl (lb rfl) (Nat.le_trans (lb rfl) hn) rfl rfl rfl hM_3 ?_
  refine R_aload_n (pc := 15) 0 (dc k_W_look 9 rfl) rfl rfl ?_
  obtain ⟨hg_4, hz⟩ := Z_chk hz
  obtain ⟨t_5, ht_5, hz⟩ := Z_lt hz
  obtain ⟨hq_6, ht_5t⟩ := isTI.at' hg_4 ht_5
  have hnt_5t := qTn ht_5t hn
  have hEt_5t := qTE ht_5t hE
  refine R_getR (pc := 16) (ci := 6) (k := 0) t_5 (dc k_W_look 10 rfl) fl_W_19 rfl (lb rfl) (Nat.le_trans (lb rfl) hn) (Or.inr rfl) hq_6 (qT0 ht_5t) rfl ?_
  refine R_getS (pc := 19) (ci := 1) (k := 15) (t_5 + 8) (dc k_W_look 11 rfl) fl_W_31 (lT ht_5t) (qT1 ht_5t) (qTn_0 hnt_5t) hEt_5t (rT_15 ht_5t) (Nat.succ_ne_zero _) rfl ?_
  refine R_iconst (pc := 22) (a := 0) (dc k_W_look 12 rfl) ?_
  refine R_aload_n (pc := 23) 0 (dc k_W_look 13 rfl) rfl rfl ?_
  refine R_getS (pc := 24) (ci := 6) (k := 4) 73 (dc k_W_look 14 rfl) fl_W_15 rfl (lb rfl) (Nat.le_trans (lb rfl) hn) (hE 71 (lb rfl) (lb rfl)) rfl (by decide) rfl ?_
  refine R_iconst (pc := 27) (a := 0) (dc k_W_look 15 rfl) ?_
  refine R_aload_n (pc := 28) 0 (dc k_W_look 16 rfl) rfl rfl ?_
  refine R_getR (pc := 29) (ci := 6) (k := 0) t_5 (dc k_W_look 17 rfl) fl_W_19 rfl (lb rfl) (Nat.le_trans (lb rfl) hn) (Or.inr rfl) hq_6 (qT0 ht_5t) rfl ?_
  refine R_getI (pc := 32) (ci := 1) (k := 6) (dc k_W_look 18 rfl) fl_W_36 (lT ht_5t) (qT1 ht_5t) (qTn_0 hnt_5t) (rT_6 ht_5t) (Or.inl rfl) ?_
  obtain ⟨⟨hg_7, hg_8, hg_9, hg_10, hg_11⟩, hz⟩ := Z_chk hz
  obtain ⟨M_12, hM_12, hz⟩ := Z_lt hz
  refine R_copyJE (pc := 35) (S := []) (dc k_W_look 19 rfl) ml_W_39 (lT_8 ht_5t) rfl (Nat.le_add_left_of_le (lb rfl)) (qTn_k hnt_5t (lb rfl)) (lb rfl) (Nat.le_trans (lb rfl) hn) hg_7 hg_8 hg_9 hg_10 hg_11 (lb rfl) (lb rfl) hM_12 ?_
  refine R_iconst (pc := 38) (a := 0) (dc k_W_look 20 rfl) ?_
  refine R_istore (pc := 39) (L' := [(4, vI 0), (0, vR 71), (1, vR tat_), (2, vR 42), (3, vI k)]) (dc k_W_look 21 rfl) (lb rfl) rfl ?_
  obtain ⟨K_15, hK_16, hz⟩ := Z_cut hz
  have hX_17 : ∀ (M_21 : Mem), K_15 M_21 → Rr y_W_look (2, 45, n, n, E) (qV K) 139 [(0, vR 71)] [] E n M_21 := by
    intro M_21 hk
    have hz := hK_16 _ hk
    refine R_aload_n (pc := 139) 0 (dc k_W_look 72 rfl) rfl rfl ?_
    refine R_aload_n (pc := 140) 0 (dc k_W_look 73 rfl) rfl rfl ?_
    refine R_getS (pc := 141) (ci := 6) (k := 4) 73 (dc k_W_look 74 rfl) fl_W_15 rfl (lb rfl) (Nat.le_trans (lb rfl) hn) (hE 71 (lb rfl) (lb rfl)) rfl (by decide) rfl ?_
    refine R_iconst (pc := 144) (a := 0) (dc k_W_look 75 rfl) ?_
    refine R_aload_n (pc := 145) 0 (dc k_W_look 76 rfl) rfl rfl ?_
    obtain ⟨hg_55, hz⟩ := Z_chk hz
    obtain ⟨t_56, ht_56, hz⟩ := Z_lt hz
    obtain ⟨hq_57, ht_56t⟩ := isTI.at' hg_55 ht_56
    have hnt_56t := qTn ht_56t hn
    have hEt_56t := qTE ht_56t hE
    refine R_getR (pc := 146) (ci := 6) (k := 0) t_56 (dc k_W_look 77 rfl) fl_W_19 rfl (lb rfl) (Nat.le_trans (lb rfl) hn) (Or.inr rfl) hq_57 (qT0 ht_56t) rfl ?_
    refine R_getI (pc := 149) (ci := 1) (k := 6) (dc k_W_look 78 rfl) fl_W_36 (lT ht_56t) (qT1 ht_56t) (qTn_0 hnt_56t) (rT_6 ht_56t) (Or.inl rfl) ?_
    refine R_cSP (pc := 152)  (As := [vR 73, vI 0, vI (M_21 t_56 6)]) (S := [vR 71]) ck_W_55 (dc k_W_look 79 rfl) (lb rfl) (lb rfl) (lb rfl) rfl (ct_X_sizeOfSet hE hn (Z_bind hz)) (fun r_58 hz => ?_)
    obtain ⟨M_59, hM_59, hz⟩ := Z_lt hz
    refine R_putIE (pc := 155) (ci := 6) (k := 5) (dc k_W_look 80 rfl) fl_W_59 rfl (lb rfl) (Nat.le_trans (lb rfl) hn) rfl rfl rfl hM_59 ?_
    exact R_vret (pc := 158) (dc k_W_look 81 rfl) rfl rfl rfl ⟨rfl, (Z_some hz)⟩
  refine R_sub [1, 4, 0] rfl ?_
  refine it_R (C := fun aZ : Int × Mem => Rr y_W_look (2, 45, n, n, E) (qV K) 41 [(0, vR 71), (3, vI k), (4, vI aZ.1)] [] E n aZ.2) (fun aZ K_18 hC_19 hB_20 hz => ?_) FUEL (0, M_12) hz
  obtain ⟨l4_13, M_14⟩ := aZ
  rw [W_look_b41] at hz
  show Rr y_W_look (2, 45, n, n, E) (qV K) 41 [(0, vR 71), (3, vI k), (4, vI l4_13)] [] E n M_14
  refine R_iload (pc := 41) 2 (dc k_W_look 22 rfl) rfl ?_
  refine R_aload_n (pc := 43) 0 (dc k_W_look 23 rfl) rfl rfl ?_
  obtain ⟨hg_22, hz⟩ := Z_chk hz
  refine R_getR (pc := 44) (ci := 6) (k := 1) 42 (dc k_W_look 24 rfl) fl_W_23 rfl (lb rfl) (Nat.le_trans (lb rfl) hn) (Or.inr rfl) hg_22 (by decide) rfl ?_
  refine R_getI (pc := 47) (ci := 5) (k := 0) (dc k_W_look 25 rfl) fl_W_45 rfl (lb rfl) (Nat.le_trans (lb rfl) hn) rfl (Or.inl rfl) ?_
  refine R_icmp_ge (pc := 50) 139 (dc k_W_look 26 rfl) rfl (fun hc => ?_) (fun hc => ?_)
  · have hz := Z_neg (show ¬ (n32 l4_13 < n32 (M_14 42 0)) from (Int.not_lt.mpr hc)) hz
    refine R_sub [0] rfl ?_
    exact hX_17 _ (hB_20 _ (Z_some hz))
  · have hz := Z_pos (show n32 l4_13 < n32 (M_14 42 0) from (Int.not_le.mp hc)) hz
    refine R_aload_n (pc := 53) 0 (dc k_W_look 27 rfl) rfl rfl ?_
    refine R_getR (pc := 54) (ci := 6) (k := 1) 42 (dc k_W_look 28 rfl) fl_W_23 rfl (lb rfl) (Nat.le_trans (lb rfl) hn) (Or.inr rfl) hg_22 (by decide) rfl ?_
    refine R_iload (pc := 57) 2 (dc k_W_look 29 rfl) rfl ?_
    refine R_iload_n (pc := 59) 1 (dc k_W_look 30 rfl) rfl rfl ?_
    refine R_cVP (pc := 60)  (As := [vI l4_13, vI k]) (S := []) ck_W_48 (dc k_W_look 31 rfl) ⟨rfl, ⟨_, rfl, rfl⟩, (lb rfl), (Nat.le_trans (lb rfl) hn)⟩ (lb rfl) (lb rfl) (lb rfl) rfl (ct_Y_counts hE hn qY42 (Z_bind hz)) (fun r_23 hz => ?_)
    obtain ⟨K_25, hK_26, hz⟩ := Z_cut hz
    have hJ_27 : ∀ (M_24 : Mem), K_25 M_24 → Rr y_W_look (2, 45, n, n, E) (qV K) 133 [(0, vR 71), (3, vI k), (4, vI l4_13)] [] E n M_24 := by
      intro M_24 hk
      have hz := hK_26 _ hk
      obtain ⟨l4_53, hl4_53, hz⟩ := Z_lt hz
      refine R_iincE (pc := 133) (L' := [(4, vI l4_53), (0, vR 71), (3, vI k)]) 2 (dc k_W_look 70 rfl) rfl (lb rfl) hl4_53 rfl ?_
      refine R_goto (pc := 136) 41 (dc k_W_look 71 rfl) rfl ?_
      refine R_sub [1, 2, 0] rfl ?_
      exact hC_19 _ (Z_some hz)
    refine R_if_eq (pc := 63) 133 (dc k_W_look 32 rfl) rfl (fun hc => ?_) (fun hc => ?_)
    · have hz := Z_neg (show ¬ (¬ n32 r_23 = 0) from (fun z => z hc)) hz
      exact hJ_27 _ (Z_some hz)
    · have hz := Z_pos (show ¬ n32 r_23 = 0 from hc) hz
      refine R_aload_n (pc := 66) 0 (dc k_W_look 33 rfl) rfl rfl ?_
      refine R_getS (pc := 67) (ci := 6) (k := 2) 72 (dc k_W_look 34 rfl) fl_W_9 rfl (lb rfl) (Nat.le_trans (lb rfl) hn) (hE 71 (lb rfl) (lb rfl)) rfl (by decide) rfl ?_
      refine R_aload_n (pc := 70) 0 (dc k_W_look 35 rfl) rfl rfl ?_
      refine R_getI (pc := 71) (ci := 6) (k := 3) (dc k_W_look 36 rfl) fl_W_27 rfl (lb rfl) (Nat.le_trans (lb rfl) hn) rfl (Or.inl rfl) ?_
      refine R_iload (pc := 74) 2 (dc k_W_look 37 rfl) rfl ?_
      obtain ⟨⟨hg_28, hg_29⟩, hz⟩ := Z_chk hz
      obtain ⟨M_30, hM_30, hz⟩ := Z_lt hz
      refine R_iastE (pc := 76) (dc k_W_look 38 rfl) rfl (lb rfl) (Nat.le_trans (lb rfl) hn) hg_28 hg_29 hM_30 ?_
      refine R_aload_n (pc := 77) 0 (dc k_W_look 39 rfl) rfl rfl ?_
      refine R_dup (pc := 78) (dc k_W_look 40 rfl) rfl ?_
      refine R_getI (pc := 79) (ci := 6) (k := 3) (dc k_W_look 41 rfl) fl_W_27 rfl (lb rfl) (Nat.le_trans (lb rfl) hn) rfl (Or.inl rfl) ?_
      refine R_iconst (pc := 82) (a := 1) (dc k_W_look 42 rfl) ?_
      refine R_iadd (pc := 83) (dc k_W_look 43 rfl) ?_
      obtain ⟨M_31, hM_31, hz⟩ := Z_lt hz
      refine R_putIE (pc := 84) (ci := 6) (k := 3) (dc k_W_look 44 rfl) fl_W_27 rfl (lb rfl) (Nat.le_trans (lb rfl) hn) rfl rfl rfl hM_31 ?_
      refine R_iconst (pc := 87) (a := 0) (dc k_W_look 45 rfl) ?_
      refine R_istore (pc := 88) (L' := [(5, vI 0), (0, vR 71), (3, vI k), (4, vI l4_13)]) (dc k_W_look 46 rfl) (lb rfl) rfl ?_
      obtain ⟨K_34, hK_35, hz⟩ := Z_cut hz
      have hX_36 : ∀ (M_40 : Mem), K_34 M_40 → Rr y_W_look (2, 45, n, n, E) (qV K) 133 [(0, vR 71), (3, vI k), (4, vI l4_13)] [] E n M_40 := by
        intro M_40 hk
        have hz := hK_35 _ hk
        exact hJ_27 _ (Z_some hz)
      refine R_sub [1, 2, 3, 0] rfl ?_
      refine it_R (C := fun aZ : Int × Mem => Rr y_W_look (2, 45, n, n, E) (qV K) 90 [(0, vR 71), (3, vI k), (4, vI l4_13), (5, vI aZ.1)] [] E n aZ.2) (fun aZ K_37 hC_38 hB_39 hz => ?_) FUEL (0, M_31) hz
      obtain ⟨l5_32, M_33⟩ := aZ
      rw [W_look_b90] at hz
      show Rr y_W_look (2, 45, n, n, E) (qV K) 90 [(0, vR 71), (3, vI k), (4, vI l4_13), (5, vI l5_32)] [] E n M_33
      refine R_iload (pc := 90) 3 (dc k_W_look 47 rfl) rfl ?_
      refine R_aload_n (pc := 92) 0 (dc k_W_look 48 rfl) rfl rfl ?_
      obtain ⟨hg_41, hz⟩ := Z_chk hz
      obtain ⟨t_42, ht_42, hz⟩ := Z_lt hz
      obtain ⟨hq_43, ht_42t⟩ := isTI.at' hg_41 ht_42
      have hnt_42t := qTn ht_42t hn
      have hEt_42t := qTE ht_42t hE
      refine R_getR (pc := 93) (ci := 6) (k := 0) t_42 (dc k_W_look 49 rfl) fl_W_19 rfl (lb rfl) (Nat.le_trans (lb rfl) hn) (Or.inr rfl) hq_43 (qT0 ht_42t) rfl ?_
      refine R_getI (pc := 96) (ci := 1) (k := 6) (dc k_W_look 50 rfl) fl_W_36 (lT ht_42t) (qT1 ht_42t) (qTn_0 hnt_42t) (rT_6 ht_42t) (Or.inl rfl) ?_
      refine R_icmp_ge (pc := 99) 133 (dc k_W_look 51 rfl) rfl (fun hc => ?_) (fun hc => ?_)
      · have hz := Z_neg (show ¬ (n32 l5_32 < n32 (M_33 t_42 6)) from (Int.not_lt.mpr hc)) hz
        refine R_sub [0, 1, 2] rfl ?_
        exact hX_36 _ (hB_39 _ (Z_some hz))
      · have hz := Z_pos (show n32 l5_32 < n32 (M_33 t_42 6) from (Int.not_le.mp hc)) hz
        refine R_aload_n (pc := 102) 0 (dc k_W_look 52 rfl) rfl rfl ?_
        refine R_getS (pc := 103) (ci := 6) (k := 4) 73 (dc k_W_look 53 rfl) fl_W_15 rfl (lb rfl) (Nat.le_trans (lb rfl) hn) (hE 71 (lb rfl) (lb rfl)) rfl (by decide) rfl ?_
        refine R_iload (pc := 106) 3 (dc k_W_look 54 rfl) rfl ?_
        refine R_dup2 (pc := 108) (dc k_W_look 55 rfl) rfl rfl ?_
        obtain ⟨⟨hg_44, hg_45⟩, hz⟩ := Z_chk hz
        refine R_lald (pc := 109) (dc k_W_look 56 rfl) rfl (lb rfl) (Nat.le_trans (lb rfl) hn) hg_44 hg_45 ?_
        refine R_aload_n (pc := 110) 0 (dc k_W_look 57 rfl) rfl rfl ?_
        obtain ⟨hg_46, hz⟩ := Z_chk hz
        refine R_getR (pc := 111) (ci := 6) (k := 1) 42 (dc k_W_look 58 rfl) fl_W_23 rfl (lb rfl) (Nat.le_trans (lb rfl) hn) (Or.inr rfl) hg_46 (by decide) rfl ?_
        refine R_getS (pc := 114) (ci := 5) (k := 7) 48 (dc k_W_look 59 rfl) fl_W_52 rfl (lb rfl) (Nat.le_trans (lb rfl) hn) (hE 42 (lb rfl) (lb rfl)) rfl (by decide) rfl ?_
        refine R_iload (pc := 117) 2 (dc k_W_look 60 rfl) rfl ?_
        refine R_iconst (pc := 119) (a := 4) (dc k_W_look 61 rfl) ?_
        refine R_imul (pc := 120) (dc k_W_look 62 rfl) ?_
        refine R_iload (pc := 121) 3 (dc k_W_look 63 rfl) rfl ?_
        refine R_iadd (pc := 123) (dc k_W_look 64 rfl) ?_
        obtain ⟨⟨hg_47, hg_48⟩, hz⟩ := Z_chk hz
        refine R_lald (pc := 124) (dc k_W_look 65 rfl) rfl (lb rfl) (Nat.le_trans (lb rfl) hn) hg_47 hg_48 ?_
        refine R_land (pc := 125) (dc k_W_look 66 rfl) ?_
        obtain ⟨M_49, hM_49, hz⟩ := Z_lt hz
        refine R_lastE (pc := 126) (dc k_W_look 67 rfl) rfl (lb rfl) (Nat.le_trans (lb rfl) hn) hg_44 hg_45 hM_49 ?_
        obtain ⟨l5_50, hl5_50, hz⟩ := Z_lt hz
        refine R_iincE (pc := 127) (L' := [(5, vI l5_50), (0, vR 71), (3, vI k), (4, vI l4_13)]) 3 (dc k_W_look 68 rfl) rfl (lb rfl) hl5_50 rfl ?_
        refine R_goto (pc := 130) 90 (dc k_W_look 69 rfl) rfl ?_
        refine R_sub [1, 2, 3, 0] rfl ?_
        exact hC_38 _ (Z_some hz)

set_option maxRecDepth 20000 in
theorem ct_X_left {E : Nat → Bool} {n : Nat} (hE : ∀ c, 1 ≤ c → c ≤ 80 → E c = true) (hn : 80 ≤ n) {k : Int} {M : Mem} {K : Int × Mem → Prop} (hz : Z (X_left k M) K) : Mt y_X_left (3, 70, n, n, E) E [vR 1, vI k] M (qM K) := by
  refine Mt.of (by decide) (lb rfl) (Nat.le_refl _) rfl ?_
  rw [X_left] at hz
  show Rr y_X_left (3, 70, n, n, E) (qM K) 0 [(0, vR 1), (1, vI k)] [] E n M
  refine R_aload_n (pc := 0) 0 (dc k_X_left 0 rfl) rfl rfl ?_
  refine R_getS (pc := 1) (ci := 0) (k := 7) 71 (dc k_X_left 1 rfl) fl_X_46 rfl (lb rfl) (Nat.le_trans (lb rfl) hn) (hE 1 (lb rfl) (lb rfl)) rfl (by decide) rfl ?_
  refine R_aload_n (pc := 4) 0 (dc k_X_left 2 rfl) rfl rfl ?_
  obtain ⟨hg_1, hz⟩ := Z_chk hz
  obtain ⟨t_2, ht_2, hz⟩ := Z_lt hz
  obtain ⟨hq_3, ht_2t⟩ := isTI.at' hg_1 ht_2
  have hnt_2t := qTn ht_2t hn
  have hEt_2t := qTE ht_2t hE
  refine R_getR (pc := 5) (ci := 0) (k := 2) t_2 (dc k_X_left 3 rfl) fl_X_16 rfl (lb rfl) (Nat.le_trans (lb rfl) hn) (Or.inr rfl) hq_3 (qT0 ht_2t) rfl ?_
  refine R_aload_n (pc := 8) 0 (dc k_X_left 4 rfl) rfl rfl ?_
  refine R_getS (pc := 9) (ci := 0) (k := 5) 42 (dc k_X_left 5 rfl) fl_X_35 rfl (lb rfl) (Nat.le_trans (lb rfl) hn) (hE 1 (lb rfl) (lb rfl)) rfl (by decide) rfl ?_
  refine R_iload_n (pc := 12) 1 (dc k_X_left 6 rfl) rfl rfl ?_
  refine R_cVV (pc := 13)  (As := [vR t_2, vR 42, vI k]) (S := []) ck_X_161 (dc k_X_left 7 rfl) ⟨rfl, ⟨_, rfl, rfl⟩, (lb rfl), (Nat.le_trans (lb rfl) hn)⟩ (lb rfl) (lb rfl) (lb rfl) rfl (ct_W_look hE hn ht_2t (Z_bind hz)) (fun M_4 hz => ?_)
  refine R_aload_n (pc := 16) 0 (dc k_X_left 8 rfl) rfl rfl ?_
  refine R_getS (pc := 17) (ci := 0) (k := 7) 71 (dc k_X_left 9 rfl) fl_X_46 rfl (lb rfl) (Nat.le_trans (lb rfl) hn) (hE 1 (lb rfl) (lb rfl)) rfl (by decide) rfl ?_
  refine R_getI (pc := 20) (ci := 6) (k := 5) (dc k_X_left 10 rfl) fl_X_165 rfl (lb rfl) (Nat.le_trans (lb rfl) hn) rfl (Or.inl rfl) ?_
  exact R_iret (pc := 23) (dc k_X_left 11 rfl) rfl rfl rfl ⟨_, rfl, (Z_some hz)⟩

set_option maxRecDepth 20000 in
theorem ct_X_world {E : Nat → Bool} {n : Nat} (hE : ∀ c, 1 ≤ c → c ≤ 80 → E c = true) (hn : 80 ≤ n) {i : Int} {k : Int} {M : Mem} {K : Int × Mem → Prop} (hz : Z (X_world i k M) K) : Mt y_X_world (3, 70, n, n, E) E [vR 1, vI i, vI k] M (qM K) := by
  refine Mt.of (by decide) (lb rfl) (Nat.le_refl _) rfl ?_
  rw [X_world] at hz
  show Rr y_X_world (3, 70, n, n, E) (qM K) 0 [(0, vR 1), (1, vI i), (2, vI k)] [] E n M
  refine R_aload_n (pc := 0) 0 (dc k_X_world 0 rfl) rfl rfl ?_
  refine R_getS (pc := 1) (ci := 0) (k := 7) 71 (dc k_X_world 1 rfl) fl_X_46 rfl (lb rfl) (Nat.le_trans (lb rfl) hn) (hE 1 (lb rfl) (lb rfl)) rfl (by decide) rfl ?_
  refine R_aload_n (pc := 4) 0 (dc k_X_world 2 rfl) rfl rfl ?_
  obtain ⟨hg_1, hz⟩ := Z_chk hz
  obtain ⟨t_2, ht_2, hz⟩ := Z_lt hz
  obtain ⟨hq_3, ht_2t⟩ := isTI.at' hg_1 ht_2
  have hnt_2t := qTn ht_2t hn
  have hEt_2t := qTE ht_2t hE
  refine R_getR (pc := 5) (ci := 0) (k := 2) t_2 (dc k_X_world 3 rfl) fl_X_16 rfl (lb rfl) (Nat.le_trans (lb rfl) hn) (Or.inr rfl) hq_3 (qT0 ht_2t) rfl ?_
  refine R_aload_n (pc := 8) 0 (dc k_X_world 4 rfl) rfl rfl ?_
  refine R_getS (pc := 9) (ci := 0) (k := 5) 42 (dc k_X_world 5 rfl) fl_X_35 rfl (lb rfl) (Nat.le_trans (lb rfl) hn) (hE 1 (lb rfl) (lb rfl)) rfl (by decide) rfl ?_
  refine R_iload_n (pc := 12) 2 (dc k_X_world 6 rfl) rfl rfl ?_
  refine R_cVV (pc := 13)  (As := [vR t_2, vR 42, vI k]) (S := []) ck_X_161 (dc k_X_world 7 rfl) ⟨rfl, ⟨_, rfl, rfl⟩, (lb rfl), (Nat.le_trans (lb rfl) hn)⟩ (lb rfl) (lb rfl) (lb rfl) rfl (ct_W_look hE hn ht_2t (Z_bind hz)) (fun M_4 hz => ?_)
  refine R_iload_n (pc := 16) 1 (dc k_X_world 8 rfl) rfl rfl ?_
  have hX_27 : ((n32 i < 0) ∨ (n32 (M_4 71 5) ≤ n32 i)) → Rr y_X_world (3, 70, n, n, E) (qM K) 31 [(0, vR 1), (1, vI i), (2, vI k)] [] E n M_4 := by
    intro hc
    have hz := Z_pos hc hz
    refine R_iconst (pc := 31) (a := (-1)) (dc k_X_world 15 rfl) ?_
    exact R_iret (pc := 32) (dc k_X_world 16 rfl) rfl rfl rfl ⟨_, rfl, (Z_some hz)⟩
  have hY_28 : ¬ ((n32 i < 0) ∨ (n32 (M_4 71 5) ≤ n32 i)) → Rr y_X_world (3, 70, n, n, E) (qM K) 33 [(0, vR 1), (1, vI i), (2, vI k)] [] E n M_4 := by
    intro hc
    have hz := Z_neg hc hz
    refine R_iconst (pc := 33) (a := 0) (dc k_X_world 17 rfl) ?_
    refine R_istore_n (pc := 34) (L' := [(3, vI 0), (0, vR 1), (1, vI i), (2, vI k)]) (dc k_X_world 18 rfl) rfl (lb rfl) rfl ?_
    refine R_iconst (pc := 35) (a := 0) (dc k_X_world 19 rfl) ?_
    refine R_istore (pc := 36) (L' := [(4, vI 0), (3, vI 0), (0, vR 1), (1, vI i), (2, vI k)]) (dc k_X_world 20 rfl) (lb rfl) rfl ?_
    obtain ⟨K_7, hK_8, hz⟩ := Z_cut hz
    have hX_9 : K_7 (.inl ()) → Rr y_X_world (3, 70, n, n, E) (qM K) 85 [] [] E n M_4 := by
      intro  hk
      have hz := hK_8 _ hk
      refine R_iconst (pc := 85) (a := (-1)) (dc k_X_world 43 rfl) ?_
      exact R_iret (pc := 86) (dc k_X_world 44 rfl) rfl rfl rfl ⟨_, rfl, (Z_some hz)⟩
    refine R_sub [2, 3, 1, 0] rfl ?_
    refine it_R (C := fun aZ : Int × Int => Rr y_X_world (3, 70, n, n, E) (qM K) 38 [(0, vR 1), (1, vI i), (3, vI aZ.1), (4, vI aZ.2)] [] E n M_4) (fun aZ K_10 hC_11 hB_12 hz => ?_) FUEL (0, 0) hz
    obtain ⟨l3_5, l4_6⟩ := aZ
    rw [X_world_b38] at hz
    show Rr y_X_world (3, 70, n, n, E) (qM K) 38 [(0, vR 1), (1, vI i), (3, vI l3_5), (4, vI l4_6)] [] E n M_4
    refine R_iload (pc := 38) 3 (dc k_X_world 21 rfl) rfl ?_
    refine R_iconst (pc := 40) (a := 1) (dc k_X_world 22 rfl) ?_
    refine R_aload_n (pc := 41) 0 (dc k_X_world 23 rfl) rfl rfl ?_
    obtain ⟨hg_13, hz⟩ := Z_chk hz
    obtain ⟨t_14, ht_14, hz⟩ := Z_lt hz
    obtain ⟨hq_15, ht_14t⟩ := isTI.at' hg_13 ht_14
    have hnt_14t := qTn ht_14t hn
    have hEt_14t := qTE ht_14t hE
    refine R_getR (pc := 42) (ci := 0) (k := 2) t_14 (dc k_X_world 24 rfl) fl_X_16 rfl (lb rfl) (Nat.le_trans (lb rfl) hn) (Or.inr rfl) hq_15 (qT0 ht_14t) rfl ?_
    refine R_getI (pc := 45) (ci := 1) (k := 0) (dc k_X_world 25 rfl) fl_X_167 (lT ht_14t) (qT1 ht_14t) (qTn_0 hnt_14t) (rT_0 ht_14t) (Or.inl rfl) ?_
    refine R_ishl (pc := 48) (dc k_X_world 26 rfl) ?_
    refine R_icmp_ge (pc := 49) 85 (dc k_X_world 27 rfl) rfl (fun hc => ?_) (fun hc => ?_)
    · have hz := Z_neg (show ¬ (n32 l4_6 < n32 (ishl 1 (M_4 t_14 0))) from (Int.not_lt.mpr hc)) hz
      refine R_sub [] rfl ?_
      exact hX_9 (hB_12 _ (Z_some hz))
    · have hz := Z_pos (show n32 l4_6 < n32 (ishl 1 (M_4 t_14 0)) from (Int.not_le.mp hc)) hz
      refine R_aload_n (pc := 52) 0 (dc k_X_world 28 rfl) rfl rfl ?_
      refine R_getS (pc := 53) (ci := 0) (k := 7) 71 (dc k_X_world 29 rfl) fl_X_46 rfl (lb rfl) (Nat.le_trans (lb rfl) hn) (hE 1 (lb rfl) (lb rfl)) rfl (by decide) rfl ?_
      refine R_getS (pc := 56) (ci := 6) (k := 4) 73 (dc k_X_world 30 rfl) fl_X_170 rfl (lb rfl) (Nat.le_trans (lb rfl) hn) (hE 71 (lb rfl) (lb rfl)) rfl (by decide) rfl ?_
      refine R_iconst (pc := 59) (a := 0) (dc k_X_world 31 rfl) ?_
      refine R_iload (pc := 60) 3 (dc k_X_world 32 rfl) rfl ?_
      refine R_cSP (pc := 62)  (As := [vR 73, vI 0, vI l4_6]) (S := []) ck_X_139 (dc k_X_world 33 rfl) (lb rfl) (lb rfl) (lb rfl) rfl (ct_X_has hE hn (Z_bind hz)) (fun r_16 hz => ?_)
      obtain ⟨j_18, hj_19, hz⟩ := Z_jn hz
      have hJ_20 : ∀ (l3_17 : Int), Z (j_18 l3_17) K_10 → Rr y_X_world (3, 70, n, n, E) (qM K) 79 [(0, vR 1), (1, vI i), (3, vI l3_17), (4, vI l4_6)] [] E n M_4 := by
        intro l3_17 hk
        have hz := hj_19 _ hk
        obtain ⟨l4_24, hl4_24, hz⟩ := Z_lt hz
        refine R_iincE (pc := 79) (L' := [(4, vI l4_24), (0, vR 1), (1, vI i), (3, vI l3_17)]) 3 (dc k_X_world 41 rfl) rfl (lb rfl) hl4_24 rfl ?_
        refine R_goto (pc := 82) 38 (dc k_X_world 42 rfl) rfl ?_
        refine R_sub [1, 2, 3, 0] rfl ?_
        exact hC_11 _ (Z_some hz)
      refine R_if_eq (pc := 65) 79 (dc k_X_world 34 rfl) rfl (fun hc => ?_) (fun hc => ?_)
      · have hz := Z_neg (show ¬ (¬ n32 r_16 = 0) from (fun z => z hc)) hz
        exact hJ_20 _ hz
      · have hz := Z_pos (show ¬ n32 r_16 = 0 from hc) hz
        refine R_iload_n (pc := 68) 2 (dc k_X_world 35 rfl) rfl rfl ?_
        refine R_iload_n (pc := 69) 1 (dc k_X_world 36 rfl) rfl rfl ?_
        refine R_icmp_ne (pc := 70) 76 (dc k_X_world 37 rfl) rfl (fun hc => ?_) (fun hc => ?_)
        · have hz := Z_neg (show ¬ (n32 l3_5 = n32 i) from hc) hz
          obtain ⟨l3_21, hl3_21, hz⟩ := Z_lt hz
          refine R_iincE (pc := 76) (L' := [(3, vI l3_21), (0, vR 1), (1, vI i), (4, vI l4_6)]) 2 (dc k_X_world 40 rfl) rfl (lb rfl) hl3_21 rfl ?_
          refine R_sub [1, 2, 0, 3] rfl ?_
          exact hJ_20 _ hz
        · have hz := Z_pos (show n32 l3_5 = n32 i from (Decidable.not_not.mp hc)) hz
          refine R_iload (pc := 73) 3 (dc k_X_world 38 rfl) rfl ?_
          exact R_iret (pc := 75) (dc k_X_world 39 rfl) rfl rfl rfl ⟨_, rfl, (Z_some (hK_8 _ (hB_12 _ (Z_some hz))))⟩
  refine R_if_lt (pc := 17) 31 (dc k_X_world 9 rfl) rfl (fun hc => ?_) (fun hc => ?_)
  · have hc_29 : n32 i < 0 := hc
    exact hX_27 (Or.inl hc_29)
  · have hc_30 : 0 ≤ n32 i := (Int.not_lt.mp hc)
    refine R_iload_n (pc := 20) 1 (dc k_X_world 10 rfl) rfl rfl ?_
    refine R_aload_n (pc := 21) 0 (dc k_X_world 11 rfl) rfl rfl ?_
    refine R_getS (pc := 22) (ci := 0) (k := 7) 71 (dc k_X_world 12 rfl) fl_X_46 rfl (lb rfl) (Nat.le_trans (lb rfl) hn) (hE 1 (lb rfl) (lb rfl)) rfl (by decide) rfl ?_
    refine R_getI (pc := 25) (ci := 6) (k := 5) (dc k_X_world 13 rfl) fl_X_165 rfl (lb rfl) (Nat.le_trans (lb rfl) hn) rfl (Or.inl rfl) ?_
    refine R_icmp_lt (pc := 28) 33 (dc k_X_world 14 rfl) rfl (fun hc => ?_) (fun hc => ?_)
    · have hc_31 : n32 i < n32 (M_4 71 5) := hc
      exact hY_28 (fun z => z.elim (Int.not_lt.mpr hc_30) (Int.not_le.mpr hc_31))
    · have hc_32 : n32 (M_4 71 5) ≤ n32 i := (Int.not_lt.mp hc)
      exact hX_27 (Or.inr hc_32)

set_option maxRecDepth 20000 in
theorem ct_W_sizeWith {E : Nat → Bool} {n : Nat} (hE : ∀ c, 1 ≤ c → c ≤ 80 → E c = true) (hn : 80 ≤ n) {sets : Nat} {at_ : Int} {M : Mem} {K : Int → Prop} (hz : Z (W_sizeWith sets at_ M) K) : Mt y_W_sizeWith (1, 21, n, n, E) E [vR 71, vR sets, vI at_] M (qP M K) := by
  refine Mt.of (by decide) (lb rfl) (Nat.le_refl _) rfl ?_
  rw [W_sizeWith] at hz
  show Rr y_W_sizeWith (1, 21, n, n, E) (qP M K) 0 [(0, vR 71), (1, vR sets), (2, vI at_)] [] E n M
  refine R_iconst (pc := 0) (a := 0) (dc k_W_sizeWith 0 rfl) ?_
  refine R_istore_n (pc := 1) (L' := [(3, vI 0), (0, vR 71), (1, vR sets), (2, vI at_)]) (dc k_W_sizeWith 1 rfl) rfl (lb rfl) rfl ?_
  refine R_iconst (pc := 2) (a := 0) (dc k_W_sizeWith 2 rfl) ?_
  refine R_istore (pc := 3) (L' := [(4, vI 0), (3, vI 0), (0, vR 71), (1, vR sets), (2, vI at_)]) (dc k_W_sizeWith 3 rfl) (lb rfl) rfl ?_
  obtain ⟨K_3, hK_4, hz⟩ := Z_cut hz
  have hX_5 : ∀ (l3_9 : Int), K_3 l3_9 → Rr y_W_sizeWith (1, 21, n, n, E) (qP M K) 43 [(3, vI l3_9)] [] E n M := by
    intro l3_9 hk
    have hz := hK_4 _ hk
    refine R_iload_n (pc := 43) 0 (dc k_W_sizeWith 25 rfl) rfl rfl ?_
    exact R_iret (pc := 44) (dc k_W_sizeWith 26 rfl) rfl rfl rfl ⟨_, rfl, rfl, (Z_some hz)⟩
  refine R_sub [2, 3, 4, 1, 0] rfl ?_
  refine it_R (C := fun aZ : Int × Int => Rr y_W_sizeWith (1, 21, n, n, E) (qP M K) 5 [(0, vR 71), (1, vR sets), (2, vI at_), (3, vI aZ.1), (4, vI aZ.2)] [] E n M) (fun aZ K_6 hC_7 hB_8 hz => ?_) FUEL (0, 0) hz
  obtain ⟨l3_1, l4_2⟩ := aZ
  rw [W_sizeWith_b5] at hz
  show Rr y_W_sizeWith (1, 21, n, n, E) (qP M K) 5 [(0, vR 71), (1, vR sets), (2, vI at_), (3, vI l3_1), (4, vI l4_2)] [] E n M
  refine R_iload (pc := 5) 4 (dc k_W_sizeWith 4 rfl) rfl ?_
  refine R_aload_n (pc := 7) 0 (dc k_W_sizeWith 5 rfl) rfl rfl ?_
  obtain ⟨hg_10, hz⟩ := Z_chk hz
  obtain ⟨t_11, ht_11, hz⟩ := Z_lt hz
  obtain ⟨hq_12, ht_11t⟩ := isTI.at' hg_10 ht_11
  have hnt_11t := qTn ht_11t hn
  have hEt_11t := qTE ht_11t hE
  refine R_getR (pc := 8) (ci := 6) (k := 0) t_11 (dc k_W_sizeWith 6 rfl) fl_W_19 rfl (lb rfl) (Nat.le_trans (lb rfl) hn) (Or.inr rfl) hq_12 (qT0 ht_11t) rfl ?_
  refine R_getI (pc := 11) (ci := 1) (k := 6) (dc k_W_sizeWith 7 rfl) fl_W_36 (lT ht_11t) (qT1 ht_11t) (qTn_0 hnt_11t) (rT_6 ht_11t) (Or.inl rfl) ?_
  refine R_icmp_ge (pc := 14) 43 (dc k_W_sizeWith 8 rfl) rfl (fun hc => ?_) (fun hc => ?_)
  · have hz := Z_neg (show ¬ (n32 l4_2 < n32 (M t_11 6)) from (Int.not_lt.mpr hc)) hz
    refine R_sub [3] rfl ?_
    exact hX_5 _ (hB_8 _ (Z_some hz))
  · have hz := Z_pos (show n32 l4_2 < n32 (M t_11 6) from (Int.not_le.mp hc)) hz
    refine R_iload_n (pc := 17) 3 (dc k_W_sizeWith 9 rfl) rfl rfl ?_
    refine R_aload_n (pc := 18) 0 (dc k_W_sizeWith 10 rfl) rfl rfl ?_
    refine R_getS (pc := 19) (ci := 6) (k := 4) 73 (dc k_W_sizeWith 11 rfl) fl_W_15 rfl (lb rfl) (Nat.le_trans (lb rfl) hn) (hE 71 (lb rfl) (lb rfl)) rfl (by decide) rfl ?_
    refine R_iload (pc := 22) 4 (dc k_W_sizeWith 12 rfl) rfl ?_
    obtain ⟨⟨hg_13, hg_14⟩, hz⟩ := Z_chk hz
    refine R_lald (pc := 24) (dc k_W_sizeWith 13 rfl) rfl (lb rfl) (Nat.le_trans (lb rfl) hn) hg_13 hg_14 ?_
    refine R_aload_n (pc := 25) 1 (dc k_W_sizeWith 14 rfl) rfl rfl ?_
    refine R_iload_n (pc := 26) 2 (dc k_W_sizeWith 15 rfl) rfl rfl ?_
    refine R_iload (pc := 27) 4 (dc k_W_sizeWith 16 rfl) rfl ?_
    refine R_iadd (pc := 29) (dc k_W_sizeWith 17 rfl) ?_
    obtain ⟨⟨hg_15, hg_16⟩, hz⟩ := Z_chk hz
    obtain ⟨hg_17, hg_18, hg_19, hg_20, hg_21⟩ := aJ_at hg_15 hg_16
    refine R_lald (pc := 30) (dc k_W_sizeWith 18 rfl) hg_18 hg_21 (Nat.le_trans hg_20 hn) hg_15 hg_19 ?_
    refine R_land (pc := 31) (dc k_W_sizeWith 19 rfl) ?_
    refine R_cSP (pc := 32)  (As := [vJ (jand (M 73 (Int.toNat l4_2)) (M sets (Int.toNat (at_ + l4_2))))]) (S := [vI l3_1]) ck_W_69 (dc k_W_sizeWith 20 rfl) (lb rfl) (lb rfl) (lb rfl) rfl (ct_JL_bitCount (Z_bind hz)) (fun r_22 hz => ?_)
    refine R_iadd (pc := 35) (dc k_W_sizeWith 21 rfl) ?_
    obtain ⟨l3_23, hl3_23, hz⟩ := Z_lt hz
    refine R_istore_nE (pc := 36) (L' := [(3, vI l3_23), (0, vR 71), (1, vR sets), (2, vI at_), (4, vI l4_2)]) (dc k_W_sizeWith 22 rfl) rfl (lb rfl) hl3_23 rfl ?_
    obtain ⟨l4_24, hl4_24, hz⟩ := Z_lt hz
    refine R_iincE (pc := 37) (L' := [(4, vI l4_24), (3, vI l3_23), (0, vR 71), (1, vR sets), (2, vI at_)]) 4 (dc k_W_sizeWith 23 rfl) rfl (lb rfl) hl4_24 rfl ?_
    refine R_goto (pc := 40) 5 (dc k_W_sizeWith 24 rfl) rfl ?_
    refine R_sub [2, 3, 4, 1, 0] rfl ?_
    exact hC_7 _ (Z_some hz)

set_option maxRecDepth 20000 in
theorem ct_W_sizeOf {E : Nat → Bool} {n : Nat} (hE : ∀ c, 1 ≤ c → c ≤ 80 → E c = true) (hn : 80 ≤ n) {row : Int} {M : Mem} {K : Int → Prop} (hz : Z (W_sizeOf row M) K) : Mt y_W_sizeOf (2, 45, n, n, E) E [vR 71, vI row] M (qP M K) := by
  refine Mt.of (by decide) (lb rfl) (Nat.le_refl _) rfl ?_
  rw [W_sizeOf] at hz
  show Rr y_W_sizeOf (2, 45, n, n, E) (qP M K) 0 [(0, vR 71), (1, vI row)] [] E n M
  refine R_aload_n (pc := 0) 0 (dc k_W_sizeOf 0 rfl) rfl rfl ?_
  refine R_aload_n (pc := 1) 0 (dc k_W_sizeOf 1 rfl) rfl rfl ?_
  obtain ⟨hg_1, hz⟩ := Z_chk hz
  obtain ⟨t_2, ht_2, hz⟩ := Z_lt hz
  obtain ⟨hq_3, ht_2t⟩ := isTI.at' hg_1 ht_2
  have hnt_2t := qTn ht_2t hn
  have hEt_2t := qTE ht_2t hE
  refine R_getR (pc := 2) (ci := 6) (k := 0) t_2 (dc k_W_sizeOf 2 rfl) fl_W_19 rfl (lb rfl) (Nat.le_trans (lb rfl) hn) (Or.inr rfl) hq_3 (qT0 ht_2t) rfl ?_
  refine R_getS (pc := 5) (ci := 1) (k := 16) (t_2 + 9) (dc k_W_sizeOf 3 rfl) fl_W_62 (lT ht_2t) (qT1 ht_2t) (qTn_0 hnt_2t) hEt_2t (rT_16 ht_2t) (Nat.succ_ne_zero _) rfl ?_
  refine R_iload_n (pc := 8) 1 (dc k_W_sizeOf 4 rfl) rfl rfl ?_
  refine R_iconst (pc := 9) (a := 4) (dc k_W_sizeOf 5 rfl) ?_
  refine R_imul (pc := 10) (dc k_W_sizeOf 6 rfl) ?_
  refine R_cVP (pc := 11)  (As := [vR (t_2 + 9), vI (row * 4)]) (S := []) ck_W_65 (dc k_W_sizeOf 7 rfl) ⟨rfl, ⟨_, rfl, rfl⟩, (lb rfl), (Nat.le_trans (lb rfl) hn)⟩ (lb rfl) (lb rfl) (lb rfl) rfl (ct_W_sizeWith hE hn (Z_bind hz)) (fun r_4 hz => ?_)
  exact R_iret (pc := 14) (dc k_W_sizeOf 8 rfl) rfl rfl rfl ⟨_, rfl, rfl, (Z_some hz)⟩

set_option maxRecDepth 20000 in
theorem ct_X_sure {E : Nat → Bool} {n : Nat} (hE : ∀ c, 1 ≤ c → c ≤ 80 → E c = true) (hn : 80 ≤ n) {row : Int} {k : Int} {M : Mem} {K : Int × Mem → Prop} (hz : Z (X_sure row k M) K) : Mt y_X_sure (3, 70, n, n, E) E [vR 1, vI row, vI k] M (qM K) := by
  refine Mt.of (by decide) (lb rfl) (Nat.le_refl _) rfl ?_
  rw [X_sure] at hz
  show Rr y_X_sure (3, 70, n, n, E) (qM K) 0 [(0, vR 1), (1, vI row), (2, vI k)] [] E n M
  refine R_aload_n (pc := 0) 0 (dc k_X_sure 0 rfl) rfl rfl ?_
  refine R_getS (pc := 1) (ci := 0) (k := 7) 71 (dc k_X_sure 1 rfl) fl_X_46 rfl (lb rfl) (Nat.le_trans (lb rfl) hn) (hE 1 (lb rfl) (lb rfl)) rfl (by decide) rfl ?_
  refine R_aload_n (pc := 4) 0 (dc k_X_sure 2 rfl) rfl rfl ?_
  obtain ⟨hg_1, hz⟩ := Z_chk hz
  obtain ⟨t_2, ht_2, hz⟩ := Z_lt hz
  obtain ⟨hq_3, ht_2t⟩ := isTI.at' hg_1 ht_2
  have hnt_2t := qTn ht_2t hn
  have hEt_2t := qTE ht_2t hE
  refine R_getR (pc := 5) (ci := 0) (k := 2) t_2 (dc k_X_sure 3 rfl) fl_X_16 rfl (lb rfl) (Nat.le_trans (lb rfl) hn) (Or.inr rfl) hq_3 (qT0 ht_2t) rfl ?_
  refine R_aload_n (pc := 8) 0 (dc k_X_sure 4 rfl) rfl rfl ?_
  refine R_getS (pc := 9) (ci := 0) (k := 5) 42 (dc k_X_sure 5 rfl) fl_X_35 rfl (lb rfl) (Nat.le_trans (lb rfl) hn) (hE 1 (lb rfl) (lb rfl)) rfl (by decide) rfl ?_
  refine R_iload_n (pc := 12) 2 (dc k_X_sure 6 rfl) rfl rfl ?_
  refine R_cVV (pc := 13)  (As := [vR t_2, vR 42, vI k]) (S := []) ck_X_161 (dc k_X_sure 7 rfl) ⟨rfl, ⟨_, rfl, rfl⟩, (lb rfl), (Nat.le_trans (lb rfl) hn)⟩ (lb rfl) (lb rfl) (lb rfl) rfl (ct_W_look hE hn ht_2t (Z_bind hz)) (fun M_4 hz => ?_)
  refine R_aload_n (pc := 16) 0 (dc k_X_sure 8 rfl) rfl rfl ?_
  obtain ⟨hg_5, hz⟩ := Z_chk hz
  obtain ⟨t_6, ht_6, hz⟩ := Z_lt hz
  obtain ⟨hq_7, ht_6t⟩ := isTI.at' hg_5 ht_6
  have hnt_6t := qTn ht_6t hn
  have hEt_6t := qTE ht_6t hE
  refine R_getR (pc := 17) (ci := 0) (k := 2) t_6 (dc k_X_sure 9 rfl) fl_X_16 rfl (lb rfl) (Nat.le_trans (lb rfl) hn) (Or.inr rfl) hq_7 (qT0 ht_6t) rfl ?_
  refine R_iload_n (pc := 20) 1 (dc k_X_sure 10 rfl) rfl rfl ?_
  refine R_cVP (pc := 21)  (As := [vI row]) (S := []) ck_X_143 (dc k_X_sure 11 rfl) ⟨(lT ht_6t), ⟨_, rfl, rfl⟩, (qT1 ht_6t), (qTn_0 hnt_6t)⟩ (lb rfl) (lb rfl) (lb rfl) rfl (ct_T_hasRow hE hn ht_6t (Z_bind hz)) (fun r_8 hz => ?_)
  have hX_12 : ((n32 r_8 = 0) ∨ (n32 (M_4 71 5) = 0)) → Rr y_X_sure (3, 70, n, n, E) (qM K) 37 [(0, vR 1), (1, vI row), (2, vI k)] [] E n M_4 := by
    intro hc
    have hz := Z_pos hc hz
    refine R_iconst (pc := 37) (a := (-1)) (dc k_X_sure 17 rfl) ?_
    exact R_iret (pc := 38) (dc k_X_sure 18 rfl) rfl rfl rfl ⟨_, rfl, (Z_some hz)⟩
  have hY_13 : ¬ ((n32 r_8 = 0) ∨ (n32 (M_4 71 5) = 0)) → Rr y_X_sure (3, 70, n, n, E) (qM K) 39 [(0, vR 1), (1, vI row), (2, vI k)] [] E n M_4 := by
    intro hc
    have hz := Z_neg hc hz
    refine R_aload_n (pc := 39) 0 (dc k_X_sure 19 rfl) rfl rfl ?_
    refine R_getS (pc := 40) (ci := 0) (k := 7) 71 (dc k_X_sure 20 rfl) fl_X_46 rfl (lb rfl) (Nat.le_trans (lb rfl) hn) (hE 1 (lb rfl) (lb rfl)) rfl (by decide) rfl ?_
    refine R_iload_n (pc := 43) 1 (dc k_X_sure 21 rfl) rfl rfl ?_
    refine R_cVP (pc := 44)  (As := [vI row]) (S := []) ck_X_173 (dc k_X_sure 22 rfl) ⟨rfl, ⟨_, rfl, rfl⟩, (lb rfl), (Nat.le_trans (lb rfl) hn)⟩ (lb rfl) (lb rfl) (lb rfl) rfl (ct_W_sizeOf hE hn (Z_bind hz)) (fun r_9 hz => ?_)
    refine R_istore_n (pc := 47) (L' := [(3, vI r_9), (0, vR 1), (1, vI row), (2, vI k)]) (dc k_X_sure 23 rfl) rfl (lb rfl) rfl ?_
    refine R_iload_n (pc := 48) 0 (dc k_X_sure 24 rfl) rfl rfl ?_
    refine R_if_ne (pc := 49) 54 (dc k_X_sure 25 rfl) rfl (fun hc => ?_) (fun hc => ?_)
    · have hz := Z_neg (show ¬ (n32 r_9 = 0) from hc) hz
      refine R_iload_n (pc := 54) 0 (dc k_X_sure 28 rfl) rfl rfl ?_
      refine R_aload_n (pc := 55) 1 (dc k_X_sure 29 rfl) rfl rfl ?_
      refine R_getS (pc := 56) (ci := 0) (k := 7) 71 (dc k_X_sure 30 rfl) fl_X_46 rfl (lb rfl) (Nat.le_trans (lb rfl) hn) (hE 1 (lb rfl) (lb rfl)) rfl (by decide) rfl ?_
      refine R_getI (pc := 59) (ci := 6) (k := 5) (dc k_X_sure 31 rfl) fl_X_165 rfl (lb rfl) (Nat.le_trans (lb rfl) hn) rfl (Or.inl rfl) ?_
      refine R_icmp_ne (pc := 62) 69 (dc k_X_sure 32 rfl) rfl (fun hc => ?_) (fun hc => ?_)
      · have hz := Z_neg (show ¬ (n32 r_9 = n32 (M_4 71 5)) from hc) hz
        refine R_bipush (pc := 69) (a := (-2)) (dc k_X_sure 35 rfl) (by decide) ?_
        exact R_iret (pc := 71) (dc k_X_sure 36 rfl) rfl rfl rfl ⟨_, rfl, (Z_some hz)⟩
      · have hz := Z_pos (show n32 r_9 = n32 (M_4 71 5) from (Decidable.not_not.mp hc)) hz
        refine R_iconst (pc := 65) (a := 1) (dc k_X_sure 33 rfl) ?_
        refine R_goto (pc := 66) 71 (dc k_X_sure 34 rfl) rfl ?_
        exact R_iret (pc := 71) (dc k_X_sure 36 rfl) rfl rfl rfl ⟨_, rfl, (Z_some hz)⟩
    · have hz := Z_pos (show n32 r_9 = 0 from (Decidable.not_not.mp hc)) hz
      refine R_iconst (pc := 52) (a := 0) (dc k_X_sure 26 rfl) ?_
      exact R_iret (pc := 53) (dc k_X_sure 27 rfl) rfl rfl rfl ⟨_, rfl, (Z_some hz)⟩
  refine R_if_eq (pc := 24) 37 (dc k_X_sure 12 rfl) rfl (fun hc => ?_) (fun hc => ?_)
  · have hc_14 : n32 r_8 = 0 := hc
    exact hX_12 (Or.inl hc_14)
  · have hc_15 : ¬ n32 r_8 = 0 := hc
    refine R_aload_n (pc := 27) 0 (dc k_X_sure 13 rfl) rfl rfl ?_
    refine R_getS (pc := 28) (ci := 0) (k := 7) 71 (dc k_X_sure 14 rfl) fl_X_46 rfl (lb rfl) (Nat.le_trans (lb rfl) hn) (hE 1 (lb rfl) (lb rfl)) rfl (by decide) rfl ?_
    refine R_getI (pc := 31) (ci := 6) (k := 5) (dc k_X_sure 15 rfl) fl_X_165 rfl (lb rfl) (Nat.le_trans (lb rfl) hn) rfl (Or.inl rfl) ?_
    refine R_if_ne (pc := 34) 39 (dc k_X_sure 16 rfl) rfl (fun hc => ?_) (fun hc => ?_)
    · have hc_16 : ¬ n32 (M_4 71 5) = 0 := hc
      exact hY_13 (fun z => z.elim hc_15 hc_16)
    · have hc_17 : n32 (M_4 71 5) = 0 := (Decidable.not_not.mp hc)
      exact hX_12 (Or.inr hc_17)

set_option maxRecDepth 20000 in
theorem ct_W_proves {E : Nat → Bool} {n : Nat} (hE : ∀ c, 1 ≤ c → c ≤ 80 → E c = true) (hn : 80 ≤ n) {set_ : Int} {row : Int} {M : Mem} {K : Int → Prop} (hz : Z (W_proves set_ row M) K) : Mt y_W_proves (1, 21, n, n, E) E [vR 71, vI set_, vI row] M (qP M K) := by
  refine Mt.of (by decide) (lb rfl) (Nat.le_refl _) rfl ?_
  rw [W_proves] at hz
  show Rr y_W_proves (1, 21, n, n, E) (qP M K) 0 [(0, vR 71), (1, vI set_), (2, vI row)] [] E n M
  refine R_iconst (pc := 0) (a := 0) (dc k_W_proves 0 rfl) ?_
  refine R_istore_n (pc := 1) (L' := [(3, vI 0), (0, vR 71), (1, vI set_), (2, vI row)]) (dc k_W_proves 1 rfl) rfl (lb rfl) rfl ?_
  obtain ⟨K_2, hK_3, hz⟩ := Z_cut hz
  have hX_4 : K_2 (.inl ()) → Rr y_W_proves (1, 21, n, n, E) (qP M K) 108 [] [] E n M := by
    intro  hk
    have hz := hK_3 _ hk
    refine R_iconst (pc := 108) (a := 1) (dc k_W_proves 60 rfl) ?_
    exact R_zret (pc := 109) (dc k_W_proves 61 rfl) rfl (Or.inr rfl) rfl rfl ⟨_, rfl, rfl, (Z_some hz)⟩
  refine R_sub [1, 2, 3, 0] rfl ?_
  refine it_R (C := fun aZ : Int => Rr y_W_proves (1, 21, n, n, E) (qP M K) 2 [(0, vR 71), (1, vI set_), (2, vI row), (3, vI aZ)] [] E n M) (fun l3_1 K_5 hC_6 hB_7 hz => ?_) FUEL 0 hz
  rw [W_proves_b2] at hz
  show Rr y_W_proves (1, 21, n, n, E) (qP M K) 2 [(0, vR 71), (1, vI set_), (2, vI row), (3, vI l3_1)] [] E n M
  refine R_iload_n (pc := 2) 3 (dc k_W_proves 2 rfl) rfl rfl ?_
  refine R_aload_n (pc := 3) 0 (dc k_W_proves 3 rfl) rfl rfl ?_
  obtain ⟨hg_8, hz⟩ := Z_chk hz
  obtain ⟨t_9, ht_9, hz⟩ := Z_lt hz
  obtain ⟨hq_10, ht_9t⟩ := isTI.at' hg_8 ht_9
  have hnt_9t := qTn ht_9t hn
  have hEt_9t := qTE ht_9t hE
  refine R_getR (pc := 4) (ci := 6) (k := 0) t_9 (dc k_W_proves 4 rfl) fl_W_19 rfl (lb rfl) (Nat.le_trans (lb rfl) hn) (Or.inr rfl) hq_10 (qT0 ht_9t) rfl ?_
  refine R_getI (pc := 7) (ci := 1) (k := 6) (dc k_W_proves 5 rfl) fl_W_36 (lT ht_9t) (qT1 ht_9t) (qTn_0 hnt_9t) (rT_6 ht_9t) (Or.inl rfl) ?_
  refine R_icmp_ge (pc := 10) 108 (dc k_W_proves 6 rfl) rfl (fun hc => ?_) (fun hc => ?_)
  · have hz := Z_neg (show ¬ (n32 l3_1 < n32 (M t_9 6)) from (Int.not_lt.mpr hc)) hz
    refine R_sub [] rfl ?_
    exact hX_4 (hB_7 _ (Z_some hz))
  · have hz := Z_pos (show n32 l3_1 < n32 (M t_9 6) from (Int.not_le.mp hc)) hz
    refine R_aload_n (pc := 13) 0 (dc k_W_proves 7 rfl) rfl rfl ?_
    refine R_getR (pc := 14) (ci := 6) (k := 0) t_9 (dc k_W_proves 8 rfl) fl_W_19 rfl (lb rfl) (Nat.le_trans (lb rfl) hn) (Or.inr rfl) hq_10 (qT0 ht_9t) rfl ?_
    refine R_getS (pc := 17) (ci := 1) (k := 15) (t_9 + 8) (dc k_W_proves 9 rfl) fl_W_31 (lT ht_9t) (qT1 ht_9t) (qTn_0 hnt_9t) hEt_9t (rT_15 ht_9t) (Nat.succ_ne_zero _) rfl ?_
    refine R_iload_n (pc := 20) 3 (dc k_W_proves 10 rfl) rfl rfl ?_
    obtain ⟨⟨hg_11, hg_12⟩, hz⟩ := Z_chk hz
    refine R_lald (pc := 21) (dc k_W_proves 11 rfl) (lT_8 ht_9t) (Nat.le_add_left_of_le (lb rfl)) (qTn_k hnt_9t (lb rfl)) hg_11 hg_12 ?_
    refine R_aload_n (pc := 22) 0 (dc k_W_proves 12 rfl) rfl rfl ?_
    refine R_getR (pc := 23) (ci := 6) (k := 0) t_9 (dc k_W_proves 13 rfl) fl_W_19 rfl (lb rfl) (Nat.le_trans (lb rfl) hn) (Or.inr rfl) hq_10 (qT0 ht_9t) rfl ?_
    refine R_getS (pc := 26) (ci := 1) (k := 16) (t_9 + 9) (dc k_W_proves 14 rfl) fl_W_62 (lT ht_9t) (qT1 ht_9t) (qTn_0 hnt_9t) hEt_9t (rT_16 ht_9t) (Nat.succ_ne_zero _) rfl ?_
    refine R_iload_n (pc := 29) 2 (dc k_W_proves 15 rfl) rfl rfl ?_
    refine R_iconst (pc := 30) (a := 4) (dc k_W_proves 16 rfl) ?_
    refine R_imul (pc := 31) (dc k_W_proves 17 rfl) ?_
    refine R_iload_n (pc := 32) 3 (dc k_W_proves 18 rfl) rfl rfl ?_
    refine R_iadd (pc := 33) (dc k_W_proves 19 rfl) ?_
    obtain ⟨⟨hg_13, hg_14⟩, hz⟩ := Z_chk hz
    refine R_lald (pc := 34) (dc k_W_proves 20 rfl) (lT_9 ht_9t) (Nat.le_add_left_of_le (lb rfl)) (qTn_k hnt_9t (lb rfl)) hg_13 hg_14 ?_
    refine R_ldc2 (pc := 35) (a := (-1)) (dc k_W_proves 21 rfl) c_W_83 ?_
    refine R_lxor (pc := 38) (dc k_W_proves 22 rfl) ?_
    refine R_land (pc := 39) (dc k_W_proves 23 rfl) ?_
    obtain ⟨l4_15, hl4_15, hz⟩ := Z_lt hz
    refine R_lstoreE (pc := 40) (L' := [(4, vJ l4_15), (0, vR 71), (1, vI set_), (2, vI row), (3, vI l3_1)]) (dc k_W_proves 24 rfl) (lb rfl) hl4_15 rfl ?_
    refine R_iconst (pc := 42) (a := 0) (dc k_W_proves 25 rfl) ?_
    refine R_istore (pc := 43) (L' := [(6, vI 0), (4, vJ l4_15), (0, vR 71), (1, vI set_), (2, vI row), (3, vI l3_1)]) (dc k_W_proves 26 rfl) (lb rfl) rfl ?_
    obtain ⟨K_18, hK_19, hz⟩ := Z_cut hz
    have hX_20 : ∀ (l4_24 : Int), K_18 l4_24 → Rr y_W_proves (1, 21, n, n, E) (qP M K) 93 [(0, vR 71), (1, vI set_), (2, vI row), (3, vI l3_1), (4, vJ l4_24)] [] E n M := by
      intro l4_24 hk
      have hz := hK_19 _ hk
      refine R_lload (pc := 93) 4 (dc k_W_proves 52 rfl) rfl ?_
      refine R_lconst (pc := 95) (a := 0) (dc k_W_proves 53 rfl) (by decide) ?_
      refine R_lcmp (pc := 96) (dc k_W_proves 54 rfl) ?_
      refine R_if_eq (pc := 97) 102 (dc k_W_proves 55 rfl) rfl (fun hc => ?_) (fun hc => ?_)
      · have hz := Z_neg (show ¬ (¬ n64 l4_24 = n64 0) from (fun z => z (jcmp_eq.mp hc))) hz
        obtain ⟨l3_39, hl3_39, hz⟩ := Z_lt hz
        refine R_iincE (pc := 102) (L' := [(3, vI l3_39), (0, vR 71), (1, vI set_), (2, vI row), (4, vJ l4_24)]) 3 (dc k_W_proves 58 rfl) rfl (lb rfl) hl3_39 rfl ?_
        refine R_goto (pc := 105) 2 (dc k_W_proves 59 rfl) rfl ?_
        refine R_sub [1, 2, 3, 0] rfl ?_
        exact hC_6 _ (Z_some hz)
      · have hz := Z_pos (show ¬ n64 l4_24 = n64 0 from (fun z => hc (jcmp_eq.mpr z))) hz
        refine R_iconst (pc := 100) (a := 0) (dc k_W_proves 56 rfl) ?_
        exact R_zret (pc := 101) (dc k_W_proves 57 rfl) rfl (Or.inl rfl) rfl rfl ⟨_, rfl, rfl, (Z_some (hK_3 _ (hB_7 _ (Z_some hz))))⟩
    refine R_sub [2, 3, 4, 5, 1, 0] rfl ?_
    refine it_R (C := fun aZ : Int × Int => Rr y_W_proves (1, 21, n, n, E) (qP M K) 45 [(0, vR 71), (1, vI set_), (2, vI row), (3, vI l3_1), (4, vJ aZ.1), (6, vI aZ.2)] [] E n M) (fun aZ K_21 hC_22 hB_23 hz => ?_) FUEL (l4_15, 0) hz
    obtain ⟨l4_16, l6_17⟩ := aZ
    rw [W_proves_b45] at hz
    show Rr y_W_proves (1, 21, n, n, E) (qP M K) 45 [(0, vR 71), (1, vI set_), (2, vI row), (3, vI l3_1), (4, vJ l4_16), (6, vI l6_17)] [] E n M
    refine R_iload (pc := 45) 5 (dc k_W_proves 27 rfl) rfl ?_
    refine R_aload_n (pc := 47) 0 (dc k_W_proves 28 rfl) rfl rfl ?_
    refine R_getI (pc := 48) (ci := 6) (k := 3) (dc k_W_proves 29 rfl) fl_W_27 rfl (lb rfl) (Nat.le_trans (lb rfl) hn) rfl (Or.inl rfl) ?_
    refine R_icmp_ge (pc := 51) 93 (dc k_W_proves 30 rfl) rfl (fun hc => ?_) (fun hc => ?_)
    · have hz := Z_neg (show ¬ (n32 l6_17 < n32 (M 71 3)) from (Int.not_lt.mpr hc)) hz
      refine R_sub [0, 1, 2, 3, 4] rfl ?_
      exact hX_20 _ (hB_23 _ (Z_some hz))
    · have hz := Z_pos (show n32 l6_17 < n32 (M 71 3) from (Int.not_le.mp hc)) hz
      refine R_iload_n (pc := 54) 1 (dc k_W_proves 31 rfl) rfl rfl ?_
      refine R_iload (pc := 55) 5 (dc k_W_proves 32 rfl) rfl ?_
      refine R_cSP (pc := 57)  (As := [vI set_, vI l6_17]) (S := []) ck_W_85 (dc k_W_proves 33 rfl) (lb rfl) (lb rfl) (lb rfl) rfl (ct_X_hasBit hE hn (Z_bind hz)) (fun r_25 hz => ?_)
      obtain ⟨K_27, hK_28, hz⟩ := Z_cut hz
      have hJ_29 : ∀ (l4_26 : Int), K_27 l4_26 → Rr y_W_proves (1, 21, n, n, E) (qP M K) 87 [(0, vR 71), (1, vI set_), (2, vI row), (3, vI l3_1), (4, vJ l4_26), (6, vI l6_17)] [] E n M := by
        intro l4_26 hk
        have hz := hK_28 _ hk
        obtain ⟨l6_37, hl6_37, hz⟩ := Z_lt hz
        refine R_iincE (pc := 87) (L' := [(6, vI l6_37), (0, vR 71), (1, vI set_), (2, vI row), (3, vI l3_1), (4, vJ l4_26)]) 5 (dc k_W_proves 50 rfl) rfl (lb rfl) hl6_37 rfl ?_
        refine R_goto (pc := 90) 45 (dc k_W_proves 51 rfl) rfl ?_
        refine R_sub [1, 2, 3, 4, 5, 0] rfl ?_
        exact hC_22 _ (Z_some hz)
      refine R_if_eq (pc := 60) 87 (dc k_W_proves 34 rfl) rfl (fun hc => ?_) (fun hc => ?_)
      · have hz := Z_neg (show ¬ (¬ n32 r_25 = 0) from (fun z => z hc)) hz
        exact hJ_29 _ (Z_some hz)
      · have hz := Z_pos (show ¬ n32 r_25 = 0 from hc) hz
        refine R_lload (pc := 63) 4 (dc k_W_proves 35 rfl) rfl ?_
        refine R_aload_n (pc := 65) 0 (dc k_W_proves 36 rfl) rfl rfl ?_
        obtain ⟨hg_30, hz⟩ := Z_chk hz
        refine R_getR (pc := 66) (ci := 6) (k := 1) 42 (dc k_W_proves 37 rfl) fl_W_23 rfl (lb rfl) (Nat.le_trans (lb rfl) hn) (Or.inr rfl) hg_30 (by decide) rfl ?_
        refine R_getS (pc := 69) (ci := 5) (k := 7) 48 (dc k_W_proves 38 rfl) fl_W_52 rfl (lb rfl) (Nat.le_trans (lb rfl) hn) (hE 42 (lb rfl) (lb rfl)) rfl (by decide) rfl ?_
        refine R_aload_n (pc := 72) 0 (dc k_W_proves 39 rfl) rfl rfl ?_
        refine R_getS (pc := 73) (ci := 6) (k := 2) 72 (dc k_W_proves 40 rfl) fl_W_9 rfl (lb rfl) (Nat.le_trans (lb rfl) hn) (hE 71 (lb rfl) (lb rfl)) rfl (by decide) rfl ?_
        refine R_iload (pc := 76) 5 (dc k_W_proves 41 rfl) rfl ?_
        obtain ⟨⟨hg_31, hg_32⟩, hz⟩ := Z_chk hz
        refine R_iald (pc := 78) (dc k_W_proves 42 rfl) rfl (lb rfl) (Nat.le_trans (lb rfl) hn) hg_31 hg_32 ?_
        refine R_iconst (pc := 79) (a := 4) (dc k_W_proves 43 rfl) ?_
        refine R_imul (pc := 80) (dc k_W_proves 44 rfl) ?_
        refine R_iload_n (pc := 81) 3 (dc k_W_proves 45 rfl) rfl rfl ?_
        refine R_iadd (pc := 82) (dc k_W_proves 46 rfl) ?_
        obtain ⟨⟨hg_33, hg_34⟩, hz⟩ := Z_chk hz
        refine R_lald (pc := 83) (dc k_W_proves 47 rfl) rfl (lb rfl) (Nat.le_trans (lb rfl) hn) hg_33 hg_34 ?_
        refine R_land (pc := 84) (dc k_W_proves 48 rfl) ?_
        obtain ⟨l4_35, hl4_35, hz⟩ := Z_lt hz
        refine R_lstoreE (pc := 85) (L' := [(4, vJ l4_35), (0, vR 71), (1, vI set_), (2, vI row), (3, vI l3_1), (6, vI l6_17)]) (dc k_W_proves 49 rfl) (lb rfl) hl4_35 rfl ?_
        refine R_sub [1, 2, 3, 4, 0, 5] rfl ?_
        exact hJ_29 _ (Z_some hz)

set_option maxRecDepth 20000 in
theorem ct_W_fewestProving {E : Nat → Bool} {n : Nat} (hE : ∀ c, 1 ≤ c → c ≤ 80 → E c = true) (hn : 80 ≤ n) {row : Int} {M : Mem} {K : Int → Prop} (hz : Z (W_fewestProving row M) K) : Mt y_W_fewestProving (2, 47, n, n, E) E [vR 71, vI row] M (qP M K) := by
  refine Mt.of (by decide) (lb rfl) (Nat.le_refl _) rfl ?_
  rw [W_fewestProving] at hz
  show Rr y_W_fewestProving (2, 47, n, n, E) (qP M K) 0 [(0, vR 71), (1, vI row)] [] E n M
  refine R_iconst (pc := 0) (a := (-1)) (dc k_W_fewestProving 0 rfl) ?_
  refine R_istore_n (pc := 1) (L' := [(2, vI (-1)), (0, vR 71), (1, vI row)]) (dc k_W_fewestProving 1 rfl) rfl (lb rfl) rfl ?_
  refine R_bipush (pc := 2) (a := 11) (dc k_W_fewestProving 2 rfl) (by decide) ?_
  refine R_istore_n (pc := 4) (L' := [(3, vI 11), (2, vI (-1)), (0, vR 71), (1, vI row)]) (dc k_W_fewestProving 3 rfl) rfl (lb rfl) rfl ?_
  refine R_iconst (pc := 5) (a := 0) (dc k_W_fewestProving 4 rfl) ?_
  refine R_istore (pc := 6) (L' := [(4, vI 0), (3, vI 11), (2, vI (-1)), (0, vR 71), (1, vI row)]) (dc k_W_fewestProving 5 rfl) (lb rfl) rfl ?_
  obtain ⟨K_4, hK_5, hz⟩ := Z_cut hz
  have hX_6 : ∀ (l2_10 : Int), K_4 l2_10 → Rr y_W_fewestProving (2, 47, n, n, E) (qP M K) 54 [(2, vI l2_10)] [] E n M := by
    intro l2_10 hk
    have hz := hK_5 _ hk
    refine R_iload_n (pc := 54) 0 (dc k_W_fewestProving 29 rfl) rfl rfl ?_
    exact R_iret (pc := 55) (dc k_W_fewestProving 30 rfl) rfl rfl rfl ⟨_, rfl, rfl, (Z_some hz)⟩
  refine R_sub [3, 4, 2, 1, 0] rfl ?_
  refine it_R (C := fun aZ : Int × Int × Int => Rr y_W_fewestProving (2, 47, n, n, E) (qP M K) 8 [(0, vR 71), (1, vI row), (2, vI aZ.1), (3, vI aZ.2.1), (4, vI aZ.2.2)] [] E n M) (fun aZ K_7 hC_8 hB_9 hz => ?_) FUEL ((-1), 11, 0) hz
  obtain ⟨l2_1, l3_2, l4_3⟩ := aZ
  rw [W_fewestProving_b8] at hz
  show Rr y_W_fewestProving (2, 47, n, n, E) (qP M K) 8 [(0, vR 71), (1, vI row), (2, vI l2_1), (3, vI l3_2), (4, vI l4_3)] [] E n M
  refine R_iload (pc := 8) 4 (dc k_W_fewestProving 6 rfl) rfl ?_
  refine R_iconst (pc := 10) (a := 1) (dc k_W_fewestProving 7 rfl) ?_
  refine R_aload_n (pc := 11) 0 (dc k_W_fewestProving 8 rfl) rfl rfl ?_
  refine R_getI (pc := 12) (ci := 6) (k := 3) (dc k_W_fewestProving 9 rfl) fl_W_27 rfl (lb rfl) (Nat.le_trans (lb rfl) hn) rfl (Or.inl rfl) ?_
  refine R_ishl (pc := 15) (dc k_W_fewestProving 10 rfl) ?_
  refine R_icmp_ge (pc := 16) 54 (dc k_W_fewestProving 11 rfl) rfl (fun hc => ?_) (fun hc => ?_)
  · have hz := Z_neg (show ¬ (n32 l4_3 < n32 (ishl 1 (M 71 3))) from (Int.not_lt.mpr hc)) hz
    refine R_sub [2] rfl ?_
    exact hX_6 _ (hB_9 _ (Z_some hz))
  · have hz := Z_pos (show n32 l4_3 < n32 (ishl 1 (M 71 3)) from (Int.not_le.mp hc)) hz
    refine R_iload (pc := 19) 4 (dc k_W_fewestProving 12 rfl) rfl ?_
    refine R_cSP (pc := 21)  (As := [vI l4_3]) (S := []) ck_W_75 (dc k_W_fewestProving 13 rfl) (lb rfl) (lb rfl) (lb rfl) rfl (ct_JI_bitCount (Z_bind hz)) (fun r_11 hz => ?_)
    refine R_istore (pc := 24) (L' := [(5, vI r_11), (0, vR 71), (1, vI row), (2, vI l2_1), (3, vI l3_2), (4, vI l4_3)]) (dc k_W_fewestProving 14 rfl) (lb rfl) rfl ?_
    refine R_iload (pc := 26) 0 (dc k_W_fewestProving 15 rfl) rfl ?_
    refine R_iload_n (pc := 28) 4 (dc k_W_fewestProving 16 rfl) rfl rfl ?_
    obtain ⟨K_14, hK_15, hz⟩ := Z_cut hz
    have hJ_16 : ∀ (l2_12 : Int) (l3_13 : Int), K_14 (l2_12, l3_13) → Rr y_W_fewestProving (2, 47, n, n, E) (qP M K) 48 [(0, vR 71), (1, vI row), (2, vI l2_12), (3, vI l3_13), (4, vI l4_3)] [] E n M := by
      intro l2_12 l3_13 hk
      have hz := hK_15 _ hk
      obtain ⟨l4_23, hl4_23, hz⟩ := Z_lt hz
      refine R_iincE (pc := 48) (L' := [(4, vI l4_23), (0, vR 71), (1, vI row), (2, vI l2_12), (3, vI l3_13)]) 4 (dc k_W_fewestProving 27 rfl) rfl (lb rfl) hl4_23 rfl ?_
      refine R_goto (pc := 51) 8 (dc k_W_fewestProving 28 rfl) rfl ?_
      refine R_sub [1, 2, 3, 4, 0] rfl ?_
      exact hC_8 _ (Z_some hz)
    obtain ⟨K_17, hK_18, hz⟩ := Z_cut hz
    have hX_19 : K_17 true → Rr y_W_fewestProving (2, 47, n, n, E) (qP M K) 42 [(5, vI r_11), (0, vR 71), (1, vI row), (2, vI l2_1), (3, vI l3_2), (4, vI l4_3)] [] E n M := by
      intro hk
      have hz := Z_pos rfl (hK_18 _ hk)
      refine R_iload (pc := 42) 5 (dc k_W_fewestProving 23 rfl) rfl ?_
      refine R_istore_n (pc := 44) (L' := [(2, vI l4_3), (5, vI r_11), (0, vR 71), (1, vI row), (3, vI l3_2), (4, vI l4_3)]) (dc k_W_fewestProving 24 rfl) rfl (lb rfl) rfl ?_
      refine R_iload (pc := 45) 1 (dc k_W_fewestProving 25 rfl) rfl ?_
      refine R_istore_n (pc := 47) (L' := [(3, vI r_11), (2, vI l4_3), (5, vI r_11), (0, vR 71), (1, vI row), (4, vI l4_3)]) (dc k_W_fewestProving 26 rfl) rfl (lb rfl) rfl ?_
      refine R_sub [3, 4, 1, 0, 5] rfl ?_
      exact hJ_16 _ _ (Z_some hz)
    have hY_20 : K_17 false → Rr y_W_fewestProving (2, 47, n, n, E) (qP M K) 48 [(5, vI r_11), (0, vR 71), (1, vI row), (2, vI l2_1), (3, vI l3_2), (4, vI l4_3)] [] E n M := by
      intro hk
      have hz := Z_neg Bool.false_ne_true (hK_18 _ hk)
      refine R_sub [1, 2, 3, 4, 5] rfl ?_
      exact hJ_16 _ _ (Z_some hz)
    refine R_icmp_ge (pc := 29) 48 (dc k_W_fewestProving 17 rfl) rfl (fun hc => ?_) (fun hc => ?_)
    · have hz := Z_neg (show ¬ (n32 r_11 < n32 l3_2) from (Int.not_lt.mpr hc)) hz
      exact hY_20 (Z_some hz)
    · have hz := Z_pos (show n32 r_11 < n32 l3_2 from (Int.not_le.mp hc)) hz
      refine R_aload_n (pc := 32) 1 (dc k_W_fewestProving 18 rfl) rfl rfl ?_
      refine R_iload (pc := 33) 5 (dc k_W_fewestProving 19 rfl) rfl ?_
      refine R_iload_n (pc := 35) 2 (dc k_W_fewestProving 20 rfl) rfl rfl ?_
      refine R_cVP (pc := 36)  (As := [vI l4_3, vI row]) (S := []) ck_W_80 (dc k_W_fewestProving 21 rfl) ⟨rfl, ⟨_, rfl, rfl⟩, (lb rfl), (Nat.le_trans (lb rfl) hn)⟩ (lb rfl) (lb rfl) (lb rfl) rfl (ct_W_proves hE hn (Z_bind hz)) (fun r_22 hz => ?_)
      refine R_if_eq (pc := 39) 48 (dc k_W_fewestProving 22 rfl) rfl (fun hc => ?_) (fun hc => ?_)
      · have hz := Z_neg (show ¬ (¬ n32 r_22 = 0) from (fun z => z hc)) hz
        exact hY_20 (Z_some hz)
      · have hz := Z_pos (show ¬ n32 r_22 = 0 from hc) hz
        exact hX_19 (Z_some hz)

set_option maxRecDepth 20000 in
theorem ct_X_proof {E : Nat → Bool} {n : Nat} (hE : ∀ c, 1 ≤ c → c ≤ 80 → E c = true) (hn : 80 ≤ n) {row : Int} {k : Int} {M : Mem} {K : Int × Mem → Prop} (hz : Z (X_proof row k M) K) : Mt y_X_proof (3, 72, n, n, E) E [vR 1, vI row, vI k] M (qM K) := by
  refine Mt.of (by decide) (lb rfl) (Nat.le_refl _) rfl ?_
  rw [X_proof] at hz
  show Rr y_X_proof (3, 72, n, n, E) (qM K) 0 [(0, vR 1), (1, vI row), (2, vI k)] [] E n M
  refine R_aload_n (pc := 0) 0 (dc k_X_proof 0 rfl) rfl rfl ?_
  refine R_getS (pc := 1) (ci := 0) (k := 7) 71 (dc k_X_proof 1 rfl) fl_X_46 rfl (lb rfl) (Nat.le_trans (lb rfl) hn) (hE 1 (lb rfl) (lb rfl)) rfl (by decide) rfl ?_
  refine R_aload_n (pc := 4) 0 (dc k_X_proof 2 rfl) rfl rfl ?_
  obtain ⟨hg_1, hz⟩ := Z_chk hz
  obtain ⟨t_2, ht_2, hz⟩ := Z_lt hz
  obtain ⟨hq_3, ht_2t⟩ := isTI.at' hg_1 ht_2
  have hnt_2t := qTn ht_2t hn
  have hEt_2t := qTE ht_2t hE
  refine R_getR (pc := 5) (ci := 0) (k := 2) t_2 (dc k_X_proof 3 rfl) fl_X_16 rfl (lb rfl) (Nat.le_trans (lb rfl) hn) (Or.inr rfl) hq_3 (qT0 ht_2t) rfl ?_
  refine R_aload_n (pc := 8) 0 (dc k_X_proof 4 rfl) rfl rfl ?_
  refine R_getS (pc := 9) (ci := 0) (k := 5) 42 (dc k_X_proof 5 rfl) fl_X_35 rfl (lb rfl) (Nat.le_trans (lb rfl) hn) (hE 1 (lb rfl) (lb rfl)) rfl (by decide) rfl ?_
  refine R_iload_n (pc := 12) 2 (dc k_X_proof 6 rfl) rfl rfl ?_
  refine R_cVV (pc := 13)  (As := [vR t_2, vR 42, vI k]) (S := []) ck_X_161 (dc k_X_proof 7 rfl) ⟨rfl, ⟨_, rfl, rfl⟩, (lb rfl), (Nat.le_trans (lb rfl) hn)⟩ (lb rfl) (lb rfl) (lb rfl) rfl (ct_W_look hE hn ht_2t (Z_bind hz)) (fun M_4 hz => ?_)
  refine R_aload_n (pc := 16) 0 (dc k_X_proof 8 rfl) rfl rfl ?_
  obtain ⟨hg_5, hz⟩ := Z_chk hz
  obtain ⟨t_6, ht_6, hz⟩ := Z_lt hz
  obtain ⟨hq_7, ht_6t⟩ := isTI.at' hg_5 ht_6
  have hnt_6t := qTn ht_6t hn
  have hEt_6t := qTE ht_6t hE
  refine R_getR (pc := 17) (ci := 0) (k := 2) t_6 (dc k_X_proof 9 rfl) fl_X_16 rfl (lb rfl) (Nat.le_trans (lb rfl) hn) (Or.inr rfl) hq_7 (qT0 ht_6t) rfl ?_
  refine R_iload_n (pc := 20) 1 (dc k_X_proof 10 rfl) rfl rfl ?_
  refine R_cVP (pc := 21)  (As := [vI row]) (S := []) ck_X_143 (dc k_X_proof 11 rfl) ⟨(lT ht_6t), ⟨_, rfl, rfl⟩, (qT1 ht_6t), (qTn_0 hnt_6t)⟩ (lb rfl) (lb rfl) (lb rfl) rfl (ct_T_hasRow hE hn ht_6t (Z_bind hz)) (fun r_8 hz => ?_)
  obtain ⟨K_9, hK_10, hz⟩ := Z_cut hz
  have hX_11 : K_9 true → Rr y_X_proof (3, 72, n, n, E) (qM K) 55 [(0, vR 1), (1, vI row), (2, vI k)] [] E n M_4 := by
    intro hk
    have hz := Z_pos rfl (hK_10 _ hk)
    refine R_iconst (pc := 55) (a := (-1)) (dc k_X_proof 25 rfl) ?_
    exact R_iret (pc := 56) (dc k_X_proof 26 rfl) rfl rfl rfl ⟨_, rfl, (Z_some hz)⟩
  have hY_12 : K_9 false → Rr y_X_proof (3, 72, n, n, E) (qM K) 57 [(0, vR 1), (1, vI row), (2, vI k)] [] E n M_4 := by
    intro hk
    have hz := Z_neg Bool.false_ne_true (hK_10 _ hk)
    refine R_aload_n (pc := 57) 0 (dc k_X_proof 27 rfl) rfl rfl ?_
    refine R_getS (pc := 58) (ci := 0) (k := 7) 71 (dc k_X_proof 28 rfl) fl_X_46 rfl (lb rfl) (Nat.le_trans (lb rfl) hn) (hE 1 (lb rfl) (lb rfl)) rfl (by decide) rfl ?_
    refine R_getI (pc := 61) (ci := 6) (k := 3) (dc k_X_proof 29 rfl) fl_X_177 rfl (lb rfl) (Nat.le_trans (lb rfl) hn) rfl (Or.inl rfl) ?_
    refine R_bipush (pc := 64) (a := 10) (dc k_X_proof 30 rfl) (by decide) ?_
    refine R_icmp_le (pc := 66) 74 (dc k_X_proof 31 rfl) rfl (fun hc => ?_) (fun hc => ?_)
    · have hz := Z_neg (show ¬ (10 < n32 (M_4 71 3)) from (Int.not_lt.mpr hc)) hz
      refine R_aload_n (pc := 74) 0 (dc k_X_proof 34 rfl) rfl rfl ?_
      refine R_getS (pc := 75) (ci := 0) (k := 7) 71 (dc k_X_proof 35 rfl) fl_X_46 rfl (lb rfl) (Nat.le_trans (lb rfl) hn) (hE 1 (lb rfl) (lb rfl)) rfl (by decide) rfl ?_
      refine R_iload_n (pc := 78) 1 (dc k_X_proof 36 rfl) rfl rfl ?_
      refine R_cVP (pc := 79)  (As := [vI row]) (S := []) ck_X_178 (dc k_X_proof 37 rfl) ⟨rfl, ⟨_, rfl, rfl⟩, (lb rfl), (Nat.le_trans (lb rfl) hn)⟩ (lb rfl) (lb rfl) (lb rfl) rfl (ct_W_fewestProving hE hn (Z_bind hz)) (fun r_15 hz => ?_)
      exact R_iret (pc := 82) (dc k_X_proof 38 rfl) rfl rfl rfl ⟨_, rfl, (Z_some hz)⟩
    · have hz := Z_pos (show 10 < n32 (M_4 71 3) from (Int.not_le.mp hc)) hz
      refine R_bipush (pc := 69) (a := (-2)) (dc k_X_proof 32 rfl) (by decide) ?_
      refine R_goto (pc := 71) 82 (dc k_X_proof 33 rfl) rfl ?_
      exact R_iret (pc := 82) (dc k_X_proof 38 rfl) rfl rfl rfl ⟨_, rfl, (Z_some hz)⟩
  refine R_if_eq (pc := 24) 55 (dc k_X_proof 12 rfl) rfl (fun hc => ?_) (fun hc => ?_)
  · have hz := Z_neg (show ¬ (¬ n32 r_8 = 0) from (fun z => z hc)) hz
    exact hX_11 (Z_some hz)
  · have hz := Z_pos (show ¬ n32 r_8 = 0 from hc) hz
    refine R_aload_n (pc := 27) 0 (dc k_X_proof 13 rfl) rfl rfl ?_
    refine R_getS (pc := 28) (ci := 0) (k := 7) 71 (dc k_X_proof 14 rfl) fl_X_46 rfl (lb rfl) (Nat.le_trans (lb rfl) hn) (hE 1 (lb rfl) (lb rfl)) rfl (by decide) rfl ?_
    refine R_getI (pc := 31) (ci := 6) (k := 5) (dc k_X_proof 15 rfl) fl_X_165 rfl (lb rfl) (Nat.le_trans (lb rfl) hn) rfl (Or.inl rfl) ?_
    refine R_if_eq (pc := 34) 55 (dc k_X_proof 16 rfl) rfl (fun hc => ?_) (fun hc => ?_)
    · have hz := Z_neg (show ¬ (¬ n32 (M_4 71 5) = 0) from (fun z => z hc)) hz
      exact hX_11 (Z_some hz)
    · have hz := Z_pos (show ¬ n32 (M_4 71 5) = 0 from hc) hz
      refine R_aload_n (pc := 37) 0 (dc k_X_proof 17 rfl) rfl rfl ?_
      refine R_getS (pc := 38) (ci := 0) (k := 7) 71 (dc k_X_proof 18 rfl) fl_X_46 rfl (lb rfl) (Nat.le_trans (lb rfl) hn) (hE 1 (lb rfl) (lb rfl)) rfl (by decide) rfl ?_
      refine R_iload_n (pc := 41) 1 (dc k_X_proof 19 rfl) rfl rfl ?_
      refine R_cVP (pc := 42)  (As := [vI row]) (S := []) ck_X_173 (dc k_X_proof 20 rfl) ⟨rfl, ⟨_, rfl, rfl⟩, (lb rfl), (Nat.le_trans (lb rfl) hn)⟩ (lb rfl) (lb rfl) (lb rfl) rfl (ct_W_sizeOf hE hn (Z_bind hz)) (fun r_14 hz => ?_)
      refine R_aload_n (pc := 45) 0 (dc k_X_proof 21 rfl) rfl rfl ?_
      refine R_getS (pc := 46) (ci := 0) (k := 7) 71 (dc k_X_proof 22 rfl) fl_X_46 rfl (lb rfl) (Nat.le_trans (lb rfl) hn) (hE 1 (lb rfl) (lb rfl)) rfl (by decide) rfl ?_
      refine R_getI (pc := 49) (ci := 6) (k := 5) (dc k_X_proof 23 rfl) fl_X_165 rfl (lb rfl) (Nat.le_trans (lb rfl) hn) rfl (Or.inl rfl) ?_
      refine R_icmp_eq (pc := 52) 57 (dc k_X_proof 24 rfl) rfl (fun hc => ?_) (fun hc => ?_)
      · have hz := Z_neg (show ¬ (¬ n32 r_14 = n32 (M_4 71 5)) from (fun z => z hc)) hz
        exact hY_12 (Z_some hz)
      · have hz := Z_pos (show ¬ n32 r_14 = n32 (M_4 71 5) from hc) hz
        exact hX_11 (Z_some hz)

set_option maxRecDepth 20000 in
theorem ct_X_judge {E : Nat → Bool} {n : Nat} (hE : ∀ c, 1 ≤ c → c ≤ 80 → E c = true) (hn : 80 ≤ n) {world : Int} {k : Int} {M : Mem} {K : Int × Mem → Prop} (hz : Z (X_judge world k M) K) : Mt y_X_judge (3, 70, n, n, E) E [vR 1, vI world, vI k] M (qM K) := by
  refine Mt.of (by decide) (lb rfl) (Nat.le_refl _) rfl ?_
  rw [X_judge] at hz
  show Rr y_X_judge (3, 70, n, n, E) (qM K) 0 [(0, vR 1), (1, vI world), (2, vI k)] [] E n M
  refine R_aload_n (pc := 0) 0 (dc k_X_judge 0 rfl) rfl rfl ?_
  obtain ⟨hg_1, hz⟩ := Z_chk hz
  obtain ⟨t_2, ht_2, hz⟩ := Z_lt hz
  obtain ⟨hq_3, ht_2t⟩ := isTI.at' hg_1 ht_2
  have hnt_2t := qTn ht_2t hn
  have hEt_2t := qTE ht_2t hE
  refine R_getR (pc := 1) (ci := 0) (k := 2) t_2 (dc k_X_judge 1 rfl) fl_X_16 rfl (lb rfl) (Nat.le_trans (lb rfl) hn) (Or.inr rfl) hq_3 (qT0 ht_2t) rfl ?_
  refine R_iload_n (pc := 4) 1 (dc k_X_judge 2 rfl) rfl rfl ?_
  refine R_cVP (pc := 5)  (As := [vI world]) (S := []) ck_X_181 (dc k_X_judge 3 rfl) ⟨(lT ht_2t), ⟨_, rfl, rfl⟩, (qT1 ht_2t), (qTn_0 hnt_2t)⟩ (lb rfl) (lb rfl) (lb rfl) rfl (ct_T_hasWorld hE hn ht_2t (Z_bind hz)) (fun r_4 hz => ?_)
  refine R_if_ne (pc := 8) 14 (dc k_X_judge 4 rfl) rfl (fun hc => ?_) (fun hc => ?_)
  · have hz := Z_neg (show ¬ (n32 r_4 = 0) from hc) hz
    refine R_aload_n (pc := 14) 0 (dc k_X_judge 7 rfl) rfl rfl ?_
    refine R_getS (pc := 15) (ci := 0) (k := 7) 71 (dc k_X_judge 8 rfl) fl_X_46 rfl (lb rfl) (Nat.le_trans (lb rfl) hn) (hE 1 (lb rfl) (lb rfl)) rfl (by decide) rfl ?_
    refine R_aload_n (pc := 18) 0 (dc k_X_judge 9 rfl) rfl rfl ?_
    refine R_getR (pc := 19) (ci := 0) (k := 2) t_2 (dc k_X_judge 10 rfl) fl_X_16 rfl (lb rfl) (Nat.le_trans (lb rfl) hn) (Or.inr rfl) hq_3 (qT0 ht_2t) rfl ?_
    refine R_aload_n (pc := 22) 0 (dc k_X_judge 11 rfl) rfl rfl ?_
    refine R_getS (pc := 23) (ci := 0) (k := 5) 42 (dc k_X_judge 12 rfl) fl_X_35 rfl (lb rfl) (Nat.le_trans (lb rfl) hn) (hE 1 (lb rfl) (lb rfl)) rfl (by decide) rfl ?_
    refine R_iload_n (pc := 26) 2 (dc k_X_judge 13 rfl) rfl rfl ?_
    refine R_cVV (pc := 27)  (As := [vR t_2, vR 42, vI k]) (S := []) ck_X_161 (dc k_X_judge 14 rfl) ⟨rfl, ⟨_, rfl, rfl⟩, (lb rfl), (Nat.le_trans (lb rfl) hn)⟩ (lb rfl) (lb rfl) (lb rfl) rfl (ct_W_look hE hn ht_2t (Z_bind hz)) (fun M_5 hz => ?_)
    refine R_iconst (pc := 30) (a := 0) (dc k_X_judge 15 rfl) ?_
    refine R_istore_n (pc := 31) (L' := [(3, vI 0), (0, vR 1), (1, vI world), (2, vI k)]) (dc k_X_judge 16 rfl) rfl (lb rfl) rfl ?_
    obtain ⟨K_7, hK_8, hz⟩ := Z_cut hz
    have hX_9 : K_7 (.inl ()) → Rr y_X_judge (3, 70, n, n, E) (qM K) 81 [] [] E n M_5 := by
      intro  hk
      have hz := hK_8 _ hk
      refine R_iconst (pc := 81) (a := (-1)) (dc k_X_judge 41 rfl) ?_
      exact R_iret (pc := 82) (dc k_X_judge 42 rfl) rfl rfl rfl ⟨_, rfl, (Z_some hz)⟩
    refine R_sub [1, 2, 0] rfl ?_
    refine it_R (C := fun aZ : Int => Rr y_X_judge (3, 70, n, n, E) (qM K) 32 [(0, vR 1), (1, vI world), (3, vI aZ)] [] E n M_5) (fun l3_6 K_10 hC_11 hB_12 hz => ?_) FUEL 0 hz
    rw [X_judge_b32] at hz
    show Rr y_X_judge (3, 70, n, n, E) (qM K) 32 [(0, vR 1), (1, vI world), (3, vI l3_6)] [] E n M_5
    refine R_iload_n (pc := 32) 2 (dc k_X_judge 17 rfl) rfl rfl ?_
    refine R_aload_n (pc := 33) 0 (dc k_X_judge 18 rfl) rfl rfl ?_
    refine R_getS (pc := 34) (ci := 0) (k := 7) 71 (dc k_X_judge 19 rfl) fl_X_46 rfl (lb rfl) (Nat.le_trans (lb rfl) hn) (hE 1 (lb rfl) (lb rfl)) rfl (by decide) rfl ?_
    refine R_getI (pc := 37) (ci := 6) (k := 3) (dc k_X_judge 20 rfl) fl_X_177 rfl (lb rfl) (Nat.le_trans (lb rfl) hn) rfl (Or.inl rfl) ?_
    refine R_icmp_ge (pc := 40) 81 (dc k_X_judge 21 rfl) rfl (fun hc => ?_) (fun hc => ?_)
    · have hz := Z_neg (show ¬ (n32 l3_6 < n32 (M_5 71 3)) from (Int.not_lt.mpr hc)) hz
      refine R_sub [] rfl ?_
      exact hX_9 (hB_12 _ (Z_some hz))
    · have hz := Z_pos (show n32 l3_6 < n32 (M_5 71 3) from (Int.not_le.mp hc)) hz
      refine R_aload_n (pc := 43) 0 (dc k_X_judge 22 rfl) rfl rfl ?_
      refine R_getS (pc := 44) (ci := 0) (k := 7) 71 (dc k_X_judge 23 rfl) fl_X_46 rfl (lb rfl) (Nat.le_trans (lb rfl) hn) (hE 1 (lb rfl) (lb rfl)) rfl (by decide) rfl ?_
      refine R_getS (pc := 47) (ci := 6) (k := 2) 72 (dc k_X_judge 24 rfl) fl_X_184 rfl (lb rfl) (Nat.le_trans (lb rfl) hn) (hE 71 (lb rfl) (lb rfl)) rfl (by decide) rfl ?_
      refine R_iload_n (pc := 50) 2 (dc k_X_judge 25 rfl) rfl rfl ?_
      obtain ⟨⟨hg_13, hg_14⟩, hz⟩ := Z_chk hz
      refine R_iald (pc := 51) (dc k_X_judge 26 rfl) rfl (lb rfl) (Nat.le_trans (lb rfl) hn) hg_13 hg_14 ?_
      obtain ⟨l4_15, hl4_15, hz⟩ := Z_lt hz
      refine R_istoreE (pc := 52) (L' := [(4, vI l4_15), (0, vR 1), (1, vI world), (3, vI l3_6)]) (dc k_X_judge 27 rfl) (lb rfl) hl4_15 rfl ?_
      refine R_aload_n (pc := 54) 1 (dc k_X_judge 28 rfl) rfl rfl ?_
      refine R_getS (pc := 55) (ci := 0) (k := 5) 42 (dc k_X_judge 29 rfl) fl_X_35 rfl (lb rfl) (Nat.le_trans (lb rfl) hn) (hE 1 (lb rfl) (lb rfl)) rfl (by decide) rfl ?_
      refine R_getS (pc := 58) (ci := 5) (k := 7) 48 (dc k_X_judge 30 rfl) fl_X_153 rfl (lb rfl) (Nat.le_trans (lb rfl) hn) (hE 42 (lb rfl) (lb rfl)) rfl (by decide) rfl ?_
      refine R_iload (pc := 61) 0 (dc k_X_judge 31 rfl) rfl ?_
      refine R_iconst (pc := 63) (a := 4) (dc k_X_judge 32 rfl) ?_
      refine R_imul (pc := 64) (dc k_X_judge 33 rfl) ?_
      refine R_iload_n (pc := 65) 2 (dc k_X_judge 34 rfl) rfl rfl ?_
      refine R_cSP (pc := 66)  (As := [vR 48, vI (l4_15 * 4), vI world]) (S := []) ck_X_139 (dc k_X_judge 35 rfl) (lb rfl) (lb rfl) (lb rfl) rfl (ct_X_has hE hn (Z_bind hz)) (fun r_16 hz => ?_)
      refine R_if_ne (pc := 69) 75 (dc k_X_judge 36 rfl) rfl (fun hc => ?_) (fun hc => ?_)
      · have hz := Z_neg (show ¬ (n32 r_16 = 0) from hc) hz
        obtain ⟨l3_17, hl3_17, hz⟩ := Z_lt hz
        refine R_iincE (pc := 75) (L' := [(3, vI l3_17), (4, vI l4_15), (0, vR 1), (1, vI world)]) 3 (dc k_X_judge 39 rfl) rfl (lb rfl) hl3_17 rfl ?_
        refine R_goto (pc := 78) 32 (dc k_X_judge 40 rfl) rfl ?_
        refine R_sub [2, 3, 0] rfl ?_
        exact hC_11 _ (Z_some hz)
      · have hz := Z_pos (show n32 r_16 = 0 from (Decidable.not_not.mp hc)) hz
        refine R_iload (pc := 72) 0 (dc k_X_judge 37 rfl) rfl ?_
        exact R_iret (pc := 74) (dc k_X_judge 38 rfl) rfl rfl rfl ⟨_, rfl, (Z_some (hK_8 _ (hB_12 _ (Z_some hz))))⟩
  · have hz := Z_pos (show n32 r_4 = 0 from (Decidable.not_not.mp hc)) hz
    refine R_bipush (pc := 11) (a := (-2)) (dc k_X_judge 5 rfl) (by decide) ?_
    exact R_iret (pc := 13) (dc k_X_judge 6 rfl) rfl rfl rfl ⟨_, rfl, (Z_some hz)⟩

set_option maxRecDepth 20000 in
theorem ct_A_choose {E : Nat → Bool} {n : Nat} (hE : ∀ c, 1 ≤ c → c ≤ 80 → E c = true) (hn : 80 ≤ n) {tat_ : Nat} (htat_ : isT tat_) {M : Mem} {K : Mem → Prop} (hz : Z (A_choose tat_ M) K) : Mt y_A_choose (2, 45, n, n, E) E [vR 74, vR tat_, vR 71] M (qV K) := by
  refine Mt.of (by decide) (lb rfl) (Nat.le_refl _) rfl ?_
  rw [A_choose] at hz
  have hntat_ := qTn htat_ hn
  have hEtat_ := qTE htat_ hE
  show Rr y_A_choose (2, 45, n, n, E) (qV K) 0 [(0, vR 74), (1, vR tat_), (2, vR 71)] [] E n M
  refine R_aload_n (pc := 0) 0 (dc k_A_choose 0 rfl) rfl rfl ?_
  refine R_aload_n (pc := 1) 1 (dc k_A_choose 1 rfl) rfl rfl ?_
  obtain ⟨M_1, hM_1, hz⟩ := Z_lt hz
  refine R_putRE (pc := 2) (ci := 7) (k := 0) (dc k_A_choose 2 rfl) fl_A_15 rfl (lb rfl) (Nat.le_trans (lb rfl) hn) rfl rfl (qT0 htat_) (qTn_0 hntat_) rfl hM_1 ?_
  refine R_aload_n (pc := 5) 0 (dc k_A_choose 3 rfl) rfl rfl ?_
  refine R_iconst (pc := 6) (a := (-1)) (dc k_A_choose 4 rfl) ?_
  obtain ⟨M_2, hM_2, hz⟩ := Z_lt hz
  refine R_putIE (pc := 7) (ci := 7) (k := 1) (dc k_A_choose 5 rfl) fl_A_19 rfl (lb rfl) (Nat.le_trans (lb rfl) hn) rfl rfl rfl hM_2 ?_
  refine R_iconst (pc := 10) (a := 0) (dc k_A_choose 6 rfl) ?_
  refine R_istore_n (pc := 11) (L' := [(3, vI 0), (0, vR 74), (1, vR tat_), (2, vR 71)]) (dc k_A_choose 7 rfl) rfl (lb rfl) rfl ?_
  obtain ⟨K_5, hK_6, hz⟩ := Z_cut hz
  have hX_7 : ∀ (M_11 : Mem), K_5 M_11 → Rr y_A_choose (2, 45, n, n, E) (qV K) 177 [] [] E n M_11 := by
    intro M_11 hk
    have hz := hK_6 _ hk
    exact R_vret (pc := 177) (dc k_A_choose 86 rfl) rfl rfl rfl ⟨rfl, (Z_some hz)⟩
  refine R_sub [1, 3, 0] rfl ?_
  refine it_R (C := fun aZ : Int × Mem => Rr y_A_choose (2, 45, n, n, E) (qV K) 12 [(0, vR 74), (2, vR 71), (3, vI aZ.1)] [] E n aZ.2) (fun aZ K_8 hC_9 hB_10 hz => ?_) FUEL (0, M_2) hz
  obtain ⟨l3_3, M_4⟩ := aZ
  rw [A_choose_b12] at hz
  show Rr y_A_choose (2, 45, n, n, E) (qV K) 12 [(0, vR 74), (2, vR 71), (3, vI l3_3)] [] E n M_4
  refine R_iload_n (pc := 12) 2 (dc k_A_choose 8 rfl) rfl rfl ?_
  refine R_aload_n (pc := 13) 0 (dc k_A_choose 9 rfl) rfl rfl ?_
  obtain ⟨hg_12, hz⟩ := Z_chk hz
  obtain ⟨t_13, ht_13, hz⟩ := Z_lt hz
  obtain ⟨hq_14, ht_13t⟩ := isTI.at' hg_12 ht_13
  have hnt_13t := qTn ht_13t hn
  have hEt_13t := qTE ht_13t hE
  refine R_getR (pc := 14) (ci := 7) (k := 0) t_13 (dc k_A_choose 10 rfl) fl_A_15 rfl (lb rfl) (Nat.le_trans (lb rfl) hn) (Or.inr rfl) hq_14 (qT0 ht_13t) rfl ?_
  refine R_getI (pc := 17) (ci := 1) (k := 1) (dc k_A_choose 11 rfl) fl_A_23 (lT ht_13t) (qT1 ht_13t) (qTn_0 hnt_13t) (rT_1 ht_13t) (Or.inl rfl) ?_
  refine R_icmp_ge (pc := 20) 177 (dc k_A_choose 12 rfl) rfl (fun hc => ?_) (fun hc => ?_)
  · have hz := Z_neg (show ¬ (n32 l3_3 < n32 (M_4 t_13 1)) from (Int.not_lt.mpr hc)) hz
    refine R_sub [] rfl ?_
    exact hX_7 _ (hB_10 _ (Z_some hz))
  · have hz := Z_pos (show n32 l3_3 < n32 (M_4 t_13 1) from (Int.not_le.mp hc)) hz
    refine R_iconst (pc := 23) (a := 0) (dc k_A_choose 13 rfl) ?_
    refine R_istore (pc := 24) (L' := [(4, vI 0), (0, vR 74), (2, vR 71), (3, vI l3_3)]) (dc k_A_choose 14 rfl) (lb rfl) rfl ?_
    obtain ⟨K_17, hK_18, hz⟩ := Z_cut hz
    have hX_19 : ∀ (M_23 : Mem), K_17 M_23 → Rr y_A_choose (2, 45, n, n, E) (qV K) 171 [(0, vR 74), (2, vR 71), (3, vI l3_3)] [] E n M_23 := by
      intro M_23 hk
      have hz := hK_18 _ hk
      obtain ⟨l3_58, hl3_58, hz⟩ := Z_lt hz
      refine R_iincE (pc := 171) (L' := [(3, vI l3_58), (0, vR 74), (2, vR 71)]) 2 (dc k_A_choose 84 rfl) rfl (lb rfl) hl3_58 rfl ?_
      refine R_goto (pc := 174) 12 (dc k_A_choose 85 rfl) rfl ?_
      refine R_sub [1, 2, 0] rfl ?_
      exact hC_9 _ (Z_some hz)
    refine R_sub [1, 2, 3, 0] rfl ?_
    refine it_R (C := fun aZ : Int × Mem => Rr y_A_choose (2, 45, n, n, E) (qV K) 26 [(0, vR 74), (2, vR 71), (3, vI l3_3), (4, vI aZ.1)] [] E n aZ.2) (fun aZ K_20 hC_21 hB_22 hz => ?_) FUEL (0, M_4) hz
    obtain ⟨l4_15, M_16⟩ := aZ
    rw [A_choose_b26] at hz
    show Rr y_A_choose (2, 45, n, n, E) (qV K) 26 [(0, vR 74), (2, vR 71), (3, vI l3_3), (4, vI l4_15)] [] E n M_16
    refine R_iload (pc := 26) 3 (dc k_A_choose 15 rfl) rfl ?_
    refine R_aload_n (pc := 28) 0 (dc k_A_choose 16 rfl) rfl rfl ?_
    obtain ⟨hg_24, hz⟩ := Z_chk hz
    obtain ⟨t_25, ht_25, hz⟩ := Z_lt hz
    obtain ⟨hq_26, ht_25t⟩ := isTI.at' hg_24 ht_25
    have hnt_25t := qTn ht_25t hn
    have hEt_25t := qTE ht_25t hE
    refine R_getR (pc := 29) (ci := 7) (k := 0) t_25 (dc k_A_choose 17 rfl) fl_A_15 rfl (lb rfl) (Nat.le_trans (lb rfl) hn) (Or.inr rfl) hq_26 (qT0 ht_25t) rfl ?_
    refine R_getI (pc := 32) (ci := 1) (k := 2) (dc k_A_choose 18 rfl) fl_A_28 (lT ht_25t) (qT1 ht_25t) (qTn_0 hnt_25t) (rT_2 ht_25t) (Or.inl rfl) ?_
    refine R_icmp_ge (pc := 35) 171 (dc k_A_choose 19 rfl) rfl (fun hc => ?_) (fun hc => ?_)
    · have hz := Z_neg (show ¬ (n32 l4_15 < n32 (M_16 t_25 2)) from (Int.not_lt.mpr hc)) hz
      refine R_sub [0, 1, 2] rfl ?_
      exact hX_19 _ (hB_22 _ (Z_some hz))
    · have hz := Z_pos (show n32 l4_15 < n32 (M_16 t_25 2) from (Int.not_le.mp hc)) hz
      refine R_iload_n (pc := 38) 2 (dc k_A_choose 20 rfl) rfl rfl ?_
      refine R_iload (pc := 39) 3 (dc k_A_choose 21 rfl) rfl ?_
      refine R_cSP (pc := 41)  (As := [vI l3_3, vI l4_15]) (S := []) ck_A_31 (dc k_A_choose 22 rfl) (lb rfl) (lb rfl) (lb rfl) rfl (ct_T_place hE hn (Z_bind hz)) (fun r_27 hz => ?_)
      refine R_istore (pc := 44) (L' := [(5, vI r_27), (0, vR 74), (2, vR 71), (3, vI l3_3), (4, vI l4_15)]) (dc k_A_choose 23 rfl) (lb rfl) rfl ?_
      refine R_aload_n (pc := 46) 2 (dc k_A_choose 24 rfl) rfl rfl ?_
      refine R_aload_n (pc := 47) 1 (dc k_A_choose 25 rfl) rfl rfl ?_
      refine R_getR (pc := 48) (ci := 7) (k := 0) t_25 (dc k_A_choose 26 rfl) fl_A_15 rfl (lb rfl) (Nat.le_trans (lb rfl) hn) (Or.inr rfl) hq_26 (qT0 ht_25t) rfl ?_
      refine R_getS (pc := 51) (ci := 1) (k := 17) (t_25 + 10) (dc k_A_choose 27 rfl) fl_A_35 (lT ht_25t) (qT1 ht_25t) (qTn_0 hnt_25t) hEt_25t (rT_17 ht_25t) (Nat.succ_ne_zero _) rfl ?_
      refine R_iload (pc := 54) 0 (dc k_A_choose 28 rfl) rfl ?_
      refine R_cVP (pc := 56)  (As := [vR (t_25 + 10), vI r_27]) (S := []) ck_A_38 (dc k_A_choose 29 rfl) ⟨rfl, ⟨_, rfl, rfl⟩, (lb rfl), (Nat.le_trans (lb rfl) hn)⟩ (lb rfl) (lb rfl) (lb rfl) rfl (ct_W_sizeWith hE hn (Z_bind hz)) (fun r_28 hz => ?_)
      refine R_istore (pc := 59) (L' := [(6, vI r_28), (5, vI r_27), (0, vR 74), (2, vR 71), (3, vI l3_3), (4, vI l4_15)]) (dc k_A_choose 30 rfl) (lb rfl) rfl ?_
      refine R_aload_n (pc := 61) 3 (dc k_A_choose 31 rfl) rfl rfl ?_
      refine R_aload_n (pc := 62) 2 (dc k_A_choose 32 rfl) rfl rfl ?_
      refine R_getR (pc := 63) (ci := 7) (k := 0) t_25 (dc k_A_choose 33 rfl) fl_A_15 rfl (lb rfl) (Nat.le_trans (lb rfl) hn) (Or.inr rfl) hq_26 (qT0 ht_25t) rfl ?_
      refine R_getS (pc := 66) (ci := 1) (k := 18) (t_25 + 11) (dc k_A_choose 34 rfl) fl_A_44 (lT ht_25t) (qT1 ht_25t) (qTn_0 hnt_25t) hEt_25t (rT_18 ht_25t) (Nat.succ_ne_zero _) rfl ?_
      refine R_iload (pc := 69) 1 (dc k_A_choose 35 rfl) rfl ?_
      refine R_cVP (pc := 71)  (As := [vR (t_25 + 11), vI r_27]) (S := []) ck_A_38 (dc k_A_choose 36 rfl) ⟨rfl, ⟨_, rfl, rfl⟩, (lb rfl), (Nat.le_trans (lb rfl) hn)⟩ (lb rfl) (lb rfl) (lb rfl) rfl (ct_W_sizeWith hE hn (Z_bind hz)) (fun r_29 hz => ?_)
      refine R_istore (pc := 74) (L' := [(7, vI r_29), (6, vI r_28), (5, vI r_27), (0, vR 74), (2, vR 71), (3, vI l3_3), (4, vI l4_15)]) (dc k_A_choose 37 rfl) (lb rfl) rfl ?_
      refine R_iload (pc := 76) 1 (dc k_A_choose 38 rfl) rfl ?_
      refine R_iload (pc := 78) 0 (dc k_A_choose 39 rfl) rfl ?_
      refine R_max (pc := 80) (S := []) (dc k_A_choose 40 rfl) ml_A_47 (lb rfl) (lb rfl) ?_
      refine R_aload_n (pc := 83) 4 (dc k_A_choose 41 rfl) rfl rfl ?_
      refine R_getI (pc := 84) (ci := 6) (k := 5) (dc k_A_choose 42 rfl) fl_A_52 rfl (lb rfl) (Nat.le_trans (lb rfl) hn) rfl (Or.inl rfl) ?_
      refine R_iload (pc := 87) 1 (dc k_A_choose 43 rfl) rfl ?_
      refine R_isub (pc := 89) (dc k_A_choose 44 rfl) ?_
      refine R_iload (pc := 90) 0 (dc k_A_choose 45 rfl) rfl ?_
      refine R_isub (pc := 92) (dc k_A_choose 46 rfl) ?_
      refine R_max (pc := 93) (S := []) (dc k_A_choose 47 rfl) ml_A_47 (lb rfl) (lb rfl) ?_
      obtain ⟨l8_30, hl8_30, hz⟩ := Z_lt hz
      refine R_istoreE (pc := 96) (L' := [(8, vI l8_30), (7, vI r_29), (6, vI r_28), (5, vI r_27), (0, vR 74), (2, vR 71), (3, vI l3_3), (4, vI l4_15)]) (dc k_A_choose 48 rfl) (lb rfl) hl8_30 rfl ?_
      refine R_aload_n (pc := 98) 4 (dc k_A_choose 49 rfl) rfl rfl ?_
      refine R_getI (pc := 99) (ci := 7) (k := 1) (dc k_A_choose 50 rfl) fl_A_19 rfl (lb rfl) (Nat.le_trans (lb rfl) hn) rfl (Or.inl rfl) ?_
      refine R_iconst (pc := 102) (a := (-1)) (dc k_A_choose 51 rfl) ?_
      obtain ⟨K_32, hK_33, hz⟩ := Z_cut hz
      have hJ_34 : ∀ (M_31 : Mem), K_32 M_31 → Rr y_A_choose (2, 45, n, n, E) (qV K) 165 [(0, vR 74), (2, vR 71), (3, vI l3_3), (4, vI l4_15)] [] E n M_31 := by
        intro M_31 hk
        have hz := hK_33 _ hk
        obtain ⟨l4_56, hl4_56, hz⟩ := Z_lt hz
        refine R_iincE (pc := 165) (L' := [(4, vI l4_56), (0, vR 74), (2, vR 71), (3, vI l3_3)]) 3 (dc k_A_choose 82 rfl) rfl (lb rfl) hl4_56 rfl ?_
        refine R_goto (pc := 168) 26 (dc k_A_choose 83 rfl) rfl ?_
        refine R_sub [1, 2, 3, 0] rfl ?_
        exact hC_21 _ (Z_some hz)
      obtain ⟨j_35, hj_36, hz⟩ := Z_jn hz
      have hJ_37 : Z (j_35 ()) K_32 → Rr y_A_choose (2, 45, n, n, E) (qV K) 148 [(0, vR 74), (2, vR 71), (3, vI l3_3), (4, vI l4_15), (8, vI l8_30)] [] E n M_16 := by
        intro  hk
        have hz := hj_36 _ hk
        refine R_aload_n (pc := 148) 0 (dc k_A_choose 73 rfl) rfl rfl ?_
        refine R_iload_n (pc := 149) 2 (dc k_A_choose 74 rfl) rfl rfl ?_
        obtain ⟨M_53, hM_53, hz⟩ := Z_lt hz
        refine R_putIE (pc := 150) (ci := 7) (k := 1) (dc k_A_choose 75 rfl) fl_A_19 rfl (lb rfl) (Nat.le_trans (lb rfl) hn) rfl rfl rfl hM_53 ?_
        refine R_aload_n (pc := 153) 0 (dc k_A_choose 76 rfl) rfl rfl ?_
        refine R_iload (pc := 154) 3 (dc k_A_choose 77 rfl) rfl ?_
        obtain ⟨M_54, hM_54, hz⟩ := Z_lt hz
        refine R_putIE (pc := 156) (ci := 7) (k := 2) (dc k_A_choose 78 rfl) fl_A_62 rfl (lb rfl) (Nat.le_trans (lb rfl) hn) rfl rfl rfl hM_54 ?_
        refine R_aload_n (pc := 159) 0 (dc k_A_choose 79 rfl) rfl rfl ?_
        refine R_iload (pc := 160) 4 (dc k_A_choose 80 rfl) rfl ?_
        obtain ⟨M_55, hM_55, hz⟩ := Z_lt hz
        refine R_putIE (pc := 162) (ci := 7) (k := 3) (dc k_A_choose 81 rfl) fl_A_55 rfl (lb rfl) (Nat.le_trans (lb rfl) hn) rfl rfl rfl hM_55 ?_
        refine R_sub [0, 1, 2, 3] rfl ?_
        exact hJ_34 _ (Z_some hz)
      have hX_47 : ((¬ n32 (M_16 74 1) = (-1)) ∧ (n32 (M_16 74 3) ≤ n32 l8_30)) → Rr y_A_choose (2, 45, n, n, E) (qV K) 115 [(8, vI l8_30), (7, vI r_29), (6, vI r_28), (5, vI r_27), (0, vR 74), (2, vR 71), (3, vI l3_3), (4, vI l4_15)] [] E n M_16 := by
        intro hc
        have hz := Z_pos hc hz
        refine R_iload (pc := 115) 0 (dc k_A_choose 57 rfl) rfl ?_
        refine R_aload_n (pc := 117) 4 (dc k_A_choose 58 rfl) rfl rfl ?_
        refine R_getI (pc := 118) (ci := 7) (k := 3) (dc k_A_choose 59 rfl) fl_A_55 rfl (lb rfl) (Nat.le_trans (lb rfl) hn) rfl (Or.inl rfl) ?_
        obtain ⟨K_38, hK_39, hz⟩ := Z_cut hz
        have hX_40 : K_38 true → Rr y_A_choose (2, 45, n, n, E) (qV K) 148 [(8, vI l8_30), (7, vI r_29), (6, vI r_28), (5, vI r_27), (0, vR 74), (2, vR 71), (3, vI l3_3), (4, vI l4_15)] [] E n M_16 := by
          intro hk
          have hz := Z_pos rfl (hK_39 _ hk)
          refine R_sub [4, 5, 6, 7, 0] rfl ?_
          exact hJ_37 hz
        have hY_41 : K_38 false → Rr y_A_choose (2, 45, n, n, E) (qV K) 165 [(8, vI l8_30), (7, vI r_29), (6, vI r_28), (5, vI r_27), (0, vR 74), (2, vR 71), (3, vI l3_3), (4, vI l4_15)] [] E n M_16 := by
          intro hk
          have hz := Z_neg Bool.false_ne_true (hK_39 _ hk)
          refine R_sub [4, 5, 6, 7] rfl ?_
          exact hJ_34 _ (Z_some hz)
        refine R_icmp_ne (pc := 121) 165 (dc k_A_choose 60 rfl) rfl (fun hc => ?_) (fun hc => ?_)
        · have hz := Z_neg (show ¬ (n32 l8_30 = n32 (M_16 74 3)) from hc) hz
          exact hY_41 (Z_some hz)
        · have hz := Z_pos (show n32 l8_30 = n32 (M_16 74 3) from (Decidable.not_not.mp hc)) hz
          refine R_aload_n (pc := 124) 4 (dc k_A_choose 61 rfl) rfl rfl ?_
          refine R_getR (pc := 125) (ci := 7) (k := 0) t_25 (dc k_A_choose 62 rfl) fl_A_15 rfl (lb rfl) (Nat.le_trans (lb rfl) hn) (Or.inr rfl) hq_26 (qT0 ht_25t) rfl ?_
          refine R_getS (pc := 128) (ci := 1) (k := 8) (t_25 + 1) (dc k_A_choose 63 rfl) fl_A_58 (lT ht_25t) (qT1 ht_25t) (qTn_0 hnt_25t) hEt_25t (rT_8 ht_25t) (Nat.succ_ne_zero _) rfl ?_
          refine R_iload_n (pc := 131) 6 (dc k_A_choose 64 rfl) rfl rfl ?_
          obtain ⟨⟨hg_43, hg_44⟩, hz⟩ := Z_chk hz
          refine R_iald (pc := 132) (dc k_A_choose 65 rfl) (lT_1 ht_25t) (Nat.le_add_left_of_le (lb rfl)) (qTn_k hnt_25t (lb rfl)) hg_43 hg_44 ?_
          refine R_aload_n (pc := 133) 4 (dc k_A_choose 66 rfl) rfl rfl ?_
          refine R_getR (pc := 134) (ci := 7) (k := 0) t_25 (dc k_A_choose 67 rfl) fl_A_15 rfl (lb rfl) (Nat.le_trans (lb rfl) hn) (Or.inr rfl) hq_26 (qT0 ht_25t) rfl ?_
          refine R_getS (pc := 137) (ci := 1) (k := 8) (t_25 + 1) (dc k_A_choose 68 rfl) fl_A_58 (lT ht_25t) (qT1 ht_25t) (qTn_0 hnt_25t) hEt_25t (rT_8 ht_25t) (Nat.succ_ne_zero _) rfl ?_
          refine R_aload_n (pc := 140) 4 (dc k_A_choose 69 rfl) rfl rfl ?_
          refine R_getI (pc := 141) (ci := 7) (k := 1) (dc k_A_choose 70 rfl) fl_A_19 rfl (lb rfl) (Nat.le_trans (lb rfl) hn) rfl (Or.inl rfl) ?_
          obtain ⟨⟨hg_45, hg_46⟩, hz⟩ := Z_chk hz
          refine R_iald (pc := 144) (dc k_A_choose 71 rfl) (lT_1 ht_25t) (Nat.le_add_left_of_le (lb rfl)) (qTn_k hnt_25t (lb rfl)) hg_45 hg_46 ?_
          refine R_icmp_ge (pc := 145) 165 (dc k_A_choose 72 rfl) rfl (fun hc => ?_) (fun hc => ?_)
          · have hz := Z_neg (show ¬ (n32 (M_16 (t_25 + 1) (Int.toNat l3_3)) < n32 (M_16 (t_25 + 1) (Int.toNat (M_16 74 1)))) from (Int.not_lt.mpr hc)) hz
            exact hY_41 (Z_some hz)
          · have hz := Z_pos (show n32 (M_16 (t_25 + 1) (Int.toNat l3_3)) < n32 (M_16 (t_25 + 1) (Int.toNat (M_16 74 1))) from (Int.not_le.mp hc)) hz
            exact hX_40 (Z_some hz)
      have hY_48 : ¬ ((¬ n32 (M_16 74 1) = (-1)) ∧ (n32 (M_16 74 3) ≤ n32 l8_30)) → Rr y_A_choose (2, 45, n, n, E) (qV K) 148 [(8, vI l8_30), (7, vI r_29), (6, vI r_28), (5, vI r_27), (0, vR 74), (2, vR 71), (3, vI l3_3), (4, vI l4_15)] [] E n M_16 := by
        intro hc
        have hz := Z_neg hc hz
        refine R_sub [4, 5, 6, 7, 0] rfl ?_
        exact hJ_37 hz
      refine R_icmp_eq (pc := 103) 148 (dc k_A_choose 52 rfl) rfl (fun hc => ?_) (fun hc => ?_)
      · have hc_49 : n32 (M_16 74 1) = (-1) := hc
        exact hY_48 (fun z => (fun z => z hc_49) z.1)
      · have hc_50 : ¬ n32 (M_16 74 1) = (-1) := hc
        refine R_iload (pc := 106) 0 (dc k_A_choose 53 rfl) rfl ?_
        refine R_aload_n (pc := 108) 4 (dc k_A_choose 54 rfl) rfl rfl ?_
        refine R_getI (pc := 109) (ci := 7) (k := 3) (dc k_A_choose 55 rfl) fl_A_55 rfl (lb rfl) (Nat.le_trans (lb rfl) hn) rfl (Or.inl rfl) ?_
        refine R_icmp_lt (pc := 112) 148 (dc k_A_choose 56 rfl) rfl (fun hc => ?_) (fun hc => ?_)
        · have hc_51 : n32 l8_30 < n32 (M_16 74 3) := hc
          exact hY_48 (fun z => (Int.not_le.mpr hc_51) z.2)
        · have hc_52 : n32 (M_16 74 3) ≤ n32 l8_30 := (Int.not_lt.mp hc)
          exact hX_47 ⟨hc_50, hc_52⟩
