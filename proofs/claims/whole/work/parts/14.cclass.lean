set_option maxRecDepth 20000 in
theorem ct_X_next {E : Nat → Bool} {n : Nat} (hE : ∀ c, 1 ≤ c → c ≤ 80 → E c = true) (hn : 80 ≤ n) {what : Int} {k : Int} {M : Mem} {K : Int × Mem → Prop} (hz : Z (X_next what k M) K) : Mt y_X_next (3, 73, n, n, E) E [vR 1, vI what, vI k] M (qM K) := by
  refine Mt.of (by decide) (lb rfl) (Nat.le_refl _) rfl ?_
  rw [X_next] at hz
  show Rr y_X_next (3, 73, n, n, E) (qM K) 0 [(0, vR 1), (1, vI what), (2, vI k)] [] E n M
  refine R_aload_n (pc := 0) 0 (dc k_X_next 0 rfl) rfl rfl ?_
  refine R_getS (pc := 1) (ci := 0) (k := 7) 71 (dc k_X_next 1 rfl) fl_X_46 rfl (lb rfl) (Nat.le_trans (lb rfl) hn) (hE 1 (lb rfl) (lb rfl)) rfl (by decide) rfl ?_
  refine R_aload_n (pc := 4) 0 (dc k_X_next 2 rfl) rfl rfl ?_
  obtain ⟨hg_1, hz⟩ := Z_chk hz
  obtain ⟨t_2, ht_2, hz⟩ := Z_lt hz
  obtain ⟨hq_3, ht_2t⟩ := isTI.at' hg_1 ht_2
  have hnt_2t := qTn ht_2t hn
  have hEt_2t := qTE ht_2t hE
  refine R_getR (pc := 5) (ci := 0) (k := 2) t_2 (dc k_X_next 3 rfl) fl_X_16 rfl (lb rfl) (Nat.le_trans (lb rfl) hn) (Or.inr rfl) hq_3 (qT0 ht_2t) rfl ?_
  refine R_aload_n (pc := 8) 0 (dc k_X_next 4 rfl) rfl rfl ?_
  refine R_getS (pc := 9) (ci := 0) (k := 5) 42 (dc k_X_next 5 rfl) fl_X_35 rfl (lb rfl) (Nat.le_trans (lb rfl) hn) (hE 1 (lb rfl) (lb rfl)) rfl (by decide) rfl ?_
  refine R_iload_n (pc := 12) 2 (dc k_X_next 6 rfl) rfl rfl ?_
  refine R_cVV (pc := 13)  (As := [vR t_2, vR 42, vI k]) (S := []) ck_X_161 (dc k_X_next 7 rfl) ⟨rfl, ⟨_, rfl, rfl⟩, (lb rfl), (Nat.le_trans (lb rfl) hn)⟩ (lb rfl) (lb rfl) (lb rfl) rfl (ct_W_look hE hn ht_2t (Z_bind hz)) (fun M_4 hz => ?_)
  refine R_iload_n (pc := 16) 1 (dc k_X_next 8 rfl) rfl rfl ?_
  obtain ⟨K_5, hK_6, hz⟩ := Z_cut hz
  have hX_7 : K_5 true → Rr y_X_next (3, 73, n, n, E) (qM K) 55 [(0, vR 1), (1, vI what), (2, vI k)] [] E n M_4 := by
    intro hk
    have hz := Z_pos rfl (hK_6 _ hk)
    refine R_iconst (pc := 55) (a := (-1)) (dc k_X_next 25 rfl) ?_
    exact R_iret (pc := 56) (dc k_X_next 26 rfl) rfl rfl rfl ⟨_, rfl, (Z_some hz)⟩
  have hY_8 : K_5 false → Rr y_X_next (3, 73, n, n, E) (qM K) 57 [(0, vR 1), (1, vI what), (2, vI k)] [] E n M_4 := by
    intro hk
    have hz := Z_neg Bool.false_ne_true (hK_6 _ hk)
    refine R_aload_n (pc := 57) 0 (dc k_X_next 27 rfl) rfl rfl ?_
    refine R_getS (pc := 58) (ci := 0) (k := 8) 74 (dc k_X_next 28 rfl) fl_X_53 rfl (lb rfl) (Nat.le_trans (lb rfl) hn) (hE 1 (lb rfl) (lb rfl)) rfl (by decide) rfl ?_
    refine R_aload_n (pc := 61) 0 (dc k_X_next 29 rfl) rfl rfl ?_
    obtain ⟨hg_13, hz⟩ := Z_chk hz
    obtain ⟨t_14, ht_14, hz⟩ := Z_lt hz
    obtain ⟨hq_15, ht_14t⟩ := isTI.at' hg_13 ht_14
    have hnt_14t := qTn ht_14t hn
    have hEt_14t := qTE ht_14t hE
    refine R_getR (pc := 62) (ci := 0) (k := 2) t_14 (dc k_X_next 30 rfl) fl_X_16 rfl (lb rfl) (Nat.le_trans (lb rfl) hn) (Or.inr rfl) hq_15 (qT0 ht_14t) rfl ?_
    refine R_aload_n (pc := 65) 0 (dc k_X_next 31 rfl) rfl rfl ?_
    refine R_getS (pc := 66) (ci := 0) (k := 7) 71 (dc k_X_next 32 rfl) fl_X_46 rfl (lb rfl) (Nat.le_trans (lb rfl) hn) (hE 1 (lb rfl) (lb rfl)) rfl (by decide) rfl ?_
    refine R_cVV (pc := 69)  (As := [vR t_14, vR 71]) (S := []) ck_X_193 (dc k_X_next 33 rfl) ⟨rfl, ⟨_, rfl, rfl⟩, (lb rfl), (Nat.le_trans (lb rfl) hn)⟩ (lb rfl) (lb rfl) (lb rfl) rfl (ct_A_choose hE hn ht_14t (Z_bind hz)) (fun M_16 hz => ?_)
    refine R_iload_n (pc := 72) 1 (dc k_X_next 34 rfl) rfl rfl ?_
    refine R_if_ne (pc := 73) 84 (dc k_X_next 35 rfl) rfl (fun hc => ?_) (fun hc => ?_)
    · have hz := Z_neg (show ¬ (n32 what = 0) from hc) hz
      refine R_iload_n (pc := 84) 1 (dc k_X_next 40 rfl) rfl rfl ?_
      refine R_iconst (pc := 85) (a := 1) (dc k_X_next 41 rfl) ?_
      refine R_icmp_ne (pc := 86) 99 (dc k_X_next 42 rfl) rfl (fun hc => ?_) (fun hc => ?_)
      · have hz := Z_neg (show ¬ (n32 what = 1) from hc) hz
        refine R_aload_n (pc := 99) 0 (dc k_X_next 47 rfl) rfl rfl ?_
        refine R_getS (pc := 100) (ci := 0) (k := 8) 74 (dc k_X_next 48 rfl) fl_X_53 rfl (lb rfl) (Nat.le_trans (lb rfl) hn) (hE 1 (lb rfl) (lb rfl)) rfl (by decide) rfl ?_
        refine R_getI (pc := 103) (ci := 7) (k := 3) (dc k_X_next 49 rfl) fl_X_203 rfl (lb rfl) (Nat.le_trans (lb rfl) hn) rfl (Or.inl rfl) ?_
        exact R_iret (pc := 106) (dc k_X_next 50 rfl) rfl rfl rfl ⟨_, rfl, (Z_some hz)⟩
      · have hz := Z_pos (show n32 what = 1 from (Decidable.not_not.mp hc)) hz
        refine R_aload_n (pc := 89) 0 (dc k_X_next 43 rfl) rfl rfl ?_
        refine R_getS (pc := 90) (ci := 0) (k := 8) 74 (dc k_X_next 44 rfl) fl_X_53 rfl (lb rfl) (Nat.le_trans (lb rfl) hn) (hE 1 (lb rfl) (lb rfl)) rfl (by decide) rfl ?_
        refine R_getI (pc := 93) (ci := 7) (k := 2) (dc k_X_next 45 rfl) fl_X_200 rfl (lb rfl) (Nat.le_trans (lb rfl) hn) rfl (Or.inl rfl) ?_
        refine R_goto (pc := 96) 106 (dc k_X_next 46 rfl) rfl ?_
        exact R_iret (pc := 106) (dc k_X_next 50 rfl) rfl rfl rfl ⟨_, rfl, (Z_some hz)⟩
    · have hz := Z_pos (show n32 what = 0 from (Decidable.not_not.mp hc)) hz
      refine R_aload_n (pc := 76) 0 (dc k_X_next 36 rfl) rfl rfl ?_
      refine R_getS (pc := 77) (ci := 0) (k := 8) 74 (dc k_X_next 37 rfl) fl_X_53 rfl (lb rfl) (Nat.le_trans (lb rfl) hn) (hE 1 (lb rfl) (lb rfl)) rfl (by decide) rfl ?_
      refine R_getI (pc := 80) (ci := 7) (k := 1) (dc k_X_next 38 rfl) fl_X_197 rfl (lb rfl) (Nat.le_trans (lb rfl) hn) rfl (Or.inl rfl) ?_
      exact R_iret (pc := 83) (dc k_X_next 39 rfl) rfl rfl rfl ⟨_, rfl, (Z_some hz)⟩
  refine R_if_lt (pc := 17) 55 (dc k_X_next 9 rfl) rfl (fun hc => ?_) (fun hc => ?_)
  · have hz := Z_neg (show ¬ (0 ≤ n32 what) from (Int.not_le.mpr hc)) hz
    exact hX_7 (Z_some hz)
  · have hz := Z_pos (show 0 ≤ n32 what from (Int.not_lt.mp hc)) hz
    refine R_iload_n (pc := 20) 1 (dc k_X_next 10 rfl) rfl rfl ?_
    refine R_iconst (pc := 21) (a := 2) (dc k_X_next 11 rfl) ?_
    refine R_icmp_gt (pc := 22) 55 (dc k_X_next 12 rfl) rfl (fun hc => ?_) (fun hc => ?_)
    · have hz := Z_neg (show ¬ (n32 what ≤ 2) from (Int.not_le.mpr hc)) hz
      exact hX_7 (Z_some hz)
    · have hz := Z_pos (show n32 what ≤ 2 from (Int.not_lt.mp hc)) hz
      refine R_aload_n (pc := 25) 0 (dc k_X_next 13 rfl) rfl rfl ?_
      obtain ⟨hg_10, hz⟩ := Z_chk hz
      obtain ⟨t_11, ht_11, hz⟩ := Z_lt hz
      obtain ⟨hq_12, ht_11t⟩ := isTI.at' hg_10 ht_11
      have hnt_11t := qTn ht_11t hn
      have hEt_11t := qTE ht_11t hE
      refine R_getR (pc := 26) (ci := 0) (k := 2) t_11 (dc k_X_next 14 rfl) fl_X_16 rfl (lb rfl) (Nat.le_trans (lb rfl) hn) (Or.inr rfl) hq_12 (qT0 ht_11t) rfl ?_
      refine R_getI (pc := 29) (ci := 1) (k := 1) (dc k_X_next 15 rfl) fl_X_187 (lT ht_11t) (qT1 ht_11t) (qTn_0 hnt_11t) (rT_1 ht_11t) (Or.inl rfl) ?_
      refine R_if_eq (pc := 32) 55 (dc k_X_next 16 rfl) rfl (fun hc => ?_) (fun hc => ?_)
      · have hz := Z_neg (show ¬ (¬ n32 (M_4 t_11 1) = 0) from (fun z => z hc)) hz
        exact hX_7 (Z_some hz)
      · have hz := Z_pos (show ¬ n32 (M_4 t_11 1) = 0 from hc) hz
        refine R_aload_n (pc := 35) 0 (dc k_X_next 17 rfl) rfl rfl ?_
        refine R_getR (pc := 36) (ci := 0) (k := 2) t_11 (dc k_X_next 18 rfl) fl_X_16 rfl (lb rfl) (Nat.le_trans (lb rfl) hn) (Or.inr rfl) hq_12 (qT0 ht_11t) rfl ?_
        refine R_getI (pc := 39) (ci := 1) (k := 2) (dc k_X_next 19 rfl) fl_X_190 (lT ht_11t) (qT1 ht_11t) (qTn_0 hnt_11t) (rT_2 ht_11t) (Or.inl rfl) ?_
        refine R_if_eq (pc := 42) 55 (dc k_X_next 20 rfl) rfl (fun hc => ?_) (fun hc => ?_)
        · have hz := Z_neg (show ¬ (¬ n32 (M_4 t_11 2) = 0) from (fun z => z hc)) hz
          exact hX_7 (Z_some hz)
        · have hz := Z_pos (show ¬ n32 (M_4 t_11 2) = 0 from hc) hz
          refine R_aload_n (pc := 45) 0 (dc k_X_next 21 rfl) rfl rfl ?_
          refine R_getS (pc := 46) (ci := 0) (k := 7) 71 (dc k_X_next 22 rfl) fl_X_46 rfl (lb rfl) (Nat.le_trans (lb rfl) hn) (hE 1 (lb rfl) (lb rfl)) rfl (by decide) rfl ?_
          refine R_getI (pc := 49) (ci := 6) (k := 5) (dc k_X_next 23 rfl) fl_X_165 rfl (lb rfl) (Nat.le_trans (lb rfl) hn) rfl (Or.inl rfl) ?_
          refine R_if_ne (pc := 52) 57 (dc k_X_next 24 rfl) rfl (fun hc => ?_) (fun hc => ?_)
          · have hz := Z_neg (show ¬ (n32 (M_4 71 5) = 0) from hc) hz
            exact hY_8 (Z_some hz)
          · have hz := Z_pos (show n32 (M_4 71 5) = 0 from (Decidable.not_not.mp hc)) hz
            exact hX_7 (Z_some hz)

set_option maxRecDepth 20000 in
theorem ct_A_isTold {E : Nat → Bool} {n : Nat} (hE : ∀ c, 1 ≤ c → c ≤ 80 → E c = true) (hn : 80 ≤ n) {at_ : Int} {M : Mem} {K : Int → Prop} (hz : Z (A_isTold at_ M) K) : Mt y_A_isTold (0, 0, n, n, E) E [vR 74, vI at_] M (qP M K) := by
  refine Mt.of (by decide) (lb rfl) (Nat.le_refl _) rfl ?_
  rw [A_isTold] at hz
  show Rr y_A_isTold (0, 0, n, n, E) (qP M K) 0 [(0, vR 74), (1, vI at_)] [] E n M
  refine R_iconst (pc := 0) (a := 0) (dc k_A_isTold 0 rfl) ?_
  refine R_istore_n (pc := 1) (L' := [(2, vI 0), (0, vR 74), (1, vI at_)]) (dc k_A_isTold 1 rfl) rfl (lb rfl) rfl ?_
  refine R_iconst (pc := 2) (a := 0) (dc k_A_isTold 2 rfl) ?_
  refine R_istore_n (pc := 3) (L' := [(3, vI 0), (2, vI 0), (0, vR 74), (1, vI at_)]) (dc k_A_isTold 3 rfl) rfl (lb rfl) rfl ?_
  refine R_iconst (pc := 4) (a := 0) (dc k_A_isTold 4 rfl) ?_
  refine R_istore (pc := 5) (L' := [(4, vI 0), (3, vI 0), (2, vI 0), (0, vR 74), (1, vI at_)]) (dc k_A_isTold 5 rfl) (lb rfl) rfl ?_
  obtain ⟨K_4, hK_5, hz⟩ := Z_cut hz
  have hX_6 : ∀ (l2_10 : Int) (l3_11 : Int), K_4 (l2_10, l3_11) → Rr y_A_isTold (0, 0, n, n, E) (qP M K) 102 [(2, vI l2_10), (3, vI l3_11)] [] E n M := by
    intro l2_10 l3_11 hk
    have hz := hK_5 _ hk
    refine R_iload_n (pc := 102) 0 (dc k_A_isTold 60 rfl) rfl rfl ?_
    have hX_34 : ((n32 l2_10 = 0) ∨ (n32 l3_11 = 0)) → Rr y_A_isTold (0, 0, n, n, E) (qP M K) 110 [(2, vI l2_10), (3, vI l3_11)] [] E n M := by
      intro hc
      have hz := Z_pos hc hz
      refine R_iconst (pc := 110) (a := 1) (dc k_A_isTold 64 rfl) ?_
      refine R_goto (pc := 111) 115 (dc k_A_isTold 65 rfl) rfl ?_
      exact R_zret (pc := 115) (dc k_A_isTold 67 rfl) rfl (Or.inr rfl) rfl rfl ⟨_, rfl, rfl, (Z_some hz)⟩
    have hY_35 : ¬ ((n32 l2_10 = 0) ∨ (n32 l3_11 = 0)) → Rr y_A_isTold (0, 0, n, n, E) (qP M K) 114 [(2, vI l2_10), (3, vI l3_11)] [] E n M := by
      intro hc
      have hz := Z_neg hc hz
      refine R_iconst (pc := 114) (a := 0) (dc k_A_isTold 66 rfl) ?_
      exact R_zret (pc := 115) (dc k_A_isTold 67 rfl) rfl (Or.inl rfl) rfl rfl ⟨_, rfl, rfl, (Z_some hz)⟩
    refine R_if_eq (pc := 103) 110 (dc k_A_isTold 61 rfl) rfl (fun hc => ?_) (fun hc => ?_)
    · have hc_36 : n32 l2_10 = 0 := hc
      exact hX_34 (Or.inl hc_36)
    · have hc_37 : ¬ n32 l2_10 = 0 := hc
      refine R_iload_n (pc := 106) 1 (dc k_A_isTold 62 rfl) rfl rfl ?_
      refine R_if_ne (pc := 107) 114 (dc k_A_isTold 63 rfl) rfl (fun hc => ?_) (fun hc => ?_)
      · have hc_38 : ¬ n32 l3_11 = 0 := hc
        exact hY_35 (fun z => z.elim hc_37 hc_38)
      · have hc_39 : n32 l3_11 = 0 := (Decidable.not_not.mp hc)
        exact hX_34 (Or.inr hc_39)
  refine R_sub [3, 4, 2, 1, 0] rfl ?_
  refine it_R (C := fun aZ : Int × Int × Int => Rr y_A_isTold (0, 0, n, n, E) (qP M K) 7 [(0, vR 74), (1, vI at_), (2, vI aZ.1), (3, vI aZ.2.1), (4, vI aZ.2.2)] [] E n M) (fun aZ K_7 hC_8 hB_9 hz => ?_) FUEL (0, 0, 0) hz
  obtain ⟨l2_1, l3_2, l4_3⟩ := aZ
  rw [A_isTold_b7] at hz
  show Rr y_A_isTold (0, 0, n, n, E) (qP M K) 7 [(0, vR 74), (1, vI at_), (2, vI l2_1), (3, vI l3_2), (4, vI l4_3)] [] E n M
  refine R_iload (pc := 7) 4 (dc k_A_isTold 6 rfl) rfl ?_
  refine R_aload_n (pc := 9) 0 (dc k_A_isTold 7 rfl) rfl rfl ?_
  obtain ⟨hg_12, hz⟩ := Z_chk hz
  obtain ⟨t_13, ht_13, hz⟩ := Z_lt hz
  obtain ⟨hq_14, ht_13t⟩ := isTI.at' hg_12 ht_13
  have hnt_13t := qTn ht_13t hn
  have hEt_13t := qTE ht_13t hE
  refine R_getR (pc := 10) (ci := 7) (k := 0) t_13 (dc k_A_isTold 8 rfl) fl_A_15 rfl (lb rfl) (Nat.le_trans (lb rfl) hn) (Or.inr rfl) hq_14 (qT0 ht_13t) rfl ?_
  refine R_getI (pc := 13) (ci := 1) (k := 6) (dc k_A_isTold 9 rfl) fl_A_71 (lT ht_13t) (qT1 ht_13t) (qTn_0 hnt_13t) (rT_6 ht_13t) (Or.inl rfl) ?_
  refine R_icmp_ge (pc := 16) 102 (dc k_A_isTold 10 rfl) rfl (fun hc => ?_) (fun hc => ?_)
  · have hz := Z_neg (show ¬ (n32 l4_3 < n32 (M t_13 6)) from (Int.not_lt.mpr hc)) hz
    refine R_sub [2, 3] rfl ?_
    exact hX_6 _ _ (hB_9 _ (Z_some hz))
  · have hz := Z_pos (show n32 l4_3 < n32 (M t_13 6) from (Int.not_le.mp hc)) hz
    refine R_aload_n (pc := 19) 0 (dc k_A_isTold 11 rfl) rfl rfl ?_
    refine R_getS (pc := 20) (ci := 7) (k := 5) 75 (dc k_A_isTold 12 rfl) fl_A_9 rfl (lb rfl) (Nat.le_trans (lb rfl) hn) (hE 74 (lb rfl) (lb rfl)) rfl (by decide) rfl ?_
    refine R_iload_n (pc := 23) 1 (dc k_A_isTold 13 rfl) rfl rfl ?_
    refine R_iload (pc := 24) 4 (dc k_A_isTold 14 rfl) rfl ?_
    refine R_iadd (pc := 26) (dc k_A_isTold 15 rfl) ?_
    obtain ⟨⟨hg_15, hg_16⟩, hz⟩ := Z_chk hz
    refine R_lald (pc := 27) (dc k_A_isTold 16 rfl) rfl (lb rfl) (Nat.le_trans (lb rfl) hn) hg_15 hg_16 ?_
    obtain ⟨l5_17, hl5_17, hz⟩ := Z_lt hz
    refine R_lstoreE (pc := 28) (L' := [(5, vJ l5_17), (0, vR 74), (1, vI at_), (2, vI l2_1), (3, vI l3_2), (4, vI l4_3)]) (dc k_A_isTold 17 rfl) (lb rfl) hl5_17 rfl ?_
    refine R_iload_n (pc := 30) 3 (dc k_A_isTold 18 rfl) rfl rfl ?_
    refine R_lload (pc := 31) 0 (dc k_A_isTold 19 rfl) rfl ?_
    refine R_aload_n (pc := 33) 1 (dc k_A_isTold 20 rfl) rfl rfl ?_
    refine R_getR (pc := 34) (ci := 7) (k := 0) t_13 (dc k_A_isTold 21 rfl) fl_A_15 rfl (lb rfl) (Nat.le_trans (lb rfl) hn) (Or.inr rfl) hq_14 (qT0 ht_13t) rfl ?_
    refine R_getS (pc := 37) (ci := 1) (k := 16) (t_13 + 9) (dc k_A_isTold 22 rfl) fl_A_91 (lT ht_13t) (qT1 ht_13t) (qTn_0 hnt_13t) hEt_13t (rT_16 ht_13t) (Nat.succ_ne_zero _) rfl ?_
    refine R_aload_n (pc := 40) 1 (dc k_A_isTold 23 rfl) rfl rfl ?_
    refine R_getI (pc := 41) (ci := 7) (k := 4) (dc k_A_isTold 24 rfl) fl_A_65 rfl (lb rfl) (Nat.le_trans (lb rfl) hn) rfl (Or.inl rfl) ?_
    refine R_iload (pc := 44) 5 (dc k_A_isTold 25 rfl) rfl ?_
    refine R_iadd (pc := 46) (dc k_A_isTold 26 rfl) ?_
    obtain ⟨⟨hg_18, hg_19⟩, hz⟩ := Z_chk hz
    refine R_lald (pc := 47) (dc k_A_isTold 27 rfl) (lT_9 ht_13t) (Nat.le_add_left_of_le (lb rfl)) (qTn_k hnt_13t (lb rfl)) hg_18 hg_19 ?_
    refine R_land (pc := 48) (dc k_A_isTold 28 rfl) ?_
    refine R_lconst (pc := 49) (a := 0) (dc k_A_isTold 29 rfl) (by decide) ?_
    refine R_lcmp (pc := 50) (dc k_A_isTold 30 rfl) ?_
    obtain ⟨K_21, hK_22, hz⟩ := Z_cut hz
    have hJ_23 : ∀ (v_20 : Int), K_21 v_20 → Rr y_A_isTold (0, 0, n, n, E) (qP M K) 59 [(0, vR 74), (1, vI at_), (3, vI l3_2), (4, vI l4_3), (5, vJ l5_17)] [vI v_20, vI l2_1] E n M := by
      intro v_20 hk
      have hz := hK_22 _ hk
      refine R_ior (pc := 59) (dc k_A_isTold 35 rfl) ?_
      obtain ⟨l2_25, hl2_25, hz⟩ := Z_lt hz
      refine R_istore_nE (pc := 60) (L' := [(2, vI l2_25), (0, vR 74), (1, vI at_), (3, vI l3_2), (4, vI l4_3), (5, vJ l5_17)]) (dc k_A_isTold 36 rfl) rfl (lb rfl) hl2_25 rfl ?_
      refine R_iload_n (pc := 61) 3 (dc k_A_isTold 37 rfl) rfl rfl ?_
      refine R_lload (pc := 62) 5 (dc k_A_isTold 38 rfl) rfl ?_
      refine R_aload_n (pc := 64) 1 (dc k_A_isTold 39 rfl) rfl rfl ?_
      refine R_getR (pc := 65) (ci := 7) (k := 0) t_13 (dc k_A_isTold 40 rfl) fl_A_15 rfl (lb rfl) (Nat.le_trans (lb rfl) hn) (Or.inr rfl) hq_14 (qT0 ht_13t) rfl ?_
      refine R_getS (pc := 68) (ci := 1) (k := 16) (t_13 + 9) (dc k_A_isTold 41 rfl) fl_A_91 (lT ht_13t) (qT1 ht_13t) (qTn_0 hnt_13t) hEt_13t (rT_16 ht_13t) (Nat.succ_ne_zero _) rfl ?_
      refine R_aload_n (pc := 71) 1 (dc k_A_isTold 42 rfl) rfl rfl ?_
      refine R_getI (pc := 72) (ci := 7) (k := 4) (dc k_A_isTold 43 rfl) fl_A_65 rfl (lb rfl) (Nat.le_trans (lb rfl) hn) rfl (Or.inl rfl) ?_
      refine R_iload (pc := 75) 4 (dc k_A_isTold 44 rfl) rfl ?_
      refine R_iadd (pc := 77) (dc k_A_isTold 45 rfl) ?_
      refine R_lald (pc := 78) (dc k_A_isTold 46 rfl) (lT_9 ht_13t) (Nat.le_add_left_of_le (lb rfl)) (qTn_k hnt_13t (lb rfl)) hg_18 hg_19 ?_
      refine R_ldc2 (pc := 79) (a := (-1)) (dc k_A_isTold 47 rfl) c_A_94 ?_
      refine R_lxor (pc := 82) (dc k_A_isTold 48 rfl) ?_
      refine R_land (pc := 83) (dc k_A_isTold 49 rfl) ?_
      refine R_lconst (pc := 84) (a := 0) (dc k_A_isTold 50 rfl) (by decide) ?_
      refine R_lcmp (pc := 85) (dc k_A_isTold 51 rfl) ?_
      obtain ⟨K_27, hK_28, hz⟩ := Z_cut hz
      have hJ_29 : ∀ (v_26 : Int), K_27 v_26 → Rr y_A_isTold (0, 0, n, n, E) (qP M K) 94 [(0, vR 74), (1, vI at_), (2, vI l2_25), (4, vI l4_3)] [vI v_26, vI l3_2] E n M := by
        intro v_26 hk
        have hz := hK_28 _ hk
        refine R_ior (pc := 94) (dc k_A_isTold 56 rfl) ?_
        obtain ⟨l3_31, hl3_31, hz⟩ := Z_lt hz
        refine R_istore_nE (pc := 95) (L' := [(3, vI l3_31), (0, vR 74), (1, vI at_), (2, vI l2_25), (4, vI l4_3)]) (dc k_A_isTold 57 rfl) rfl (lb rfl) hl3_31 rfl ?_
        obtain ⟨l4_32, hl4_32, hz⟩ := Z_lt hz
        refine R_iincE (pc := 96) (L' := [(4, vI l4_32), (3, vI l3_31), (0, vR 74), (1, vI at_), (2, vI l2_25)]) 4 (dc k_A_isTold 58 rfl) rfl (lb rfl) hl4_32 rfl ?_
        refine R_goto (pc := 99) 7 (dc k_A_isTold 59 rfl) rfl ?_
        refine R_sub [2, 3, 4, 1, 0] rfl ?_
        exact hC_8 _ (Z_some hz)
      refine R_if_eq (pc := 86) 93 (dc k_A_isTold 52 rfl) rfl (fun hc => ?_) (fun hc => ?_)
      · have hz := Z_neg (show ¬ (¬ n64 (jand l5_17 (jxor (M (t_13 + 9) (Int.toNat ((M 74 4) + l4_3))) (-1))) = n64 0) from (fun z => z (jcmp_eq.mp hc))) hz
        refine R_iconst (pc := 93) (a := 0) (dc k_A_isTold 55 rfl) ?_
        refine R_sub [1, 2, 0, 4] rfl ?_
        exact hJ_29 _ (Z_some hz)
      · have hz := Z_pos (show ¬ n64 (jand l5_17 (jxor (M (t_13 + 9) (Int.toNat ((M 74 4) + l4_3))) (-1))) = n64 0 from (fun z => hc (jcmp_eq.mpr z))) hz
        refine R_iconst (pc := 89) (a := 1) (dc k_A_isTold 53 rfl) ?_
        refine R_goto (pc := 90) 94 (dc k_A_isTold 54 rfl) rfl ?_
        refine R_sub [1, 2, 0, 4] rfl ?_
        exact hJ_29 _ (Z_some hz)
    refine R_if_eq (pc := 51) 58 (dc k_A_isTold 31 rfl) rfl (fun hc => ?_) (fun hc => ?_)
    · have hz := Z_neg (show ¬ (¬ n64 (jand l5_17 (M (t_13 + 9) (Int.toNat ((M 74 4) + l4_3)))) = n64 0) from (fun z => z (jcmp_eq.mp hc))) hz
      refine R_iconst (pc := 58) (a := 0) (dc k_A_isTold 34 rfl) ?_
      refine R_sub [1, 2, 4, 5, 0] rfl ?_
      exact hJ_23 _ (Z_some hz)
    · have hz := Z_pos (show ¬ n64 (jand l5_17 (M (t_13 + 9) (Int.toNat ((M 74 4) + l4_3)))) = n64 0 from (fun z => hc (jcmp_eq.mpr z))) hz
      refine R_iconst (pc := 54) (a := 1) (dc k_A_isTold 32 rfl) ?_
      refine R_goto (pc := 55) 59 (dc k_A_isTold 33 rfl) rfl ?_
      refine R_sub [1, 2, 4, 5, 0] rfl ?_
      exact hJ_23 _ (Z_some hz)

set_option maxRecDepth 20000 in
theorem ct_A_answersIn {E : Nat → Bool} {n : Nat} (hE : ∀ c, 1 ≤ c → c ≤ 80 → E c = true) (hn : 80 ≤ n) {set_ : Int} {yes : Int} {no : Int} {M : Mem} {K : Int → Prop} (hz : Z (A_answersIn set_ yes no M) K) : Mt y_A_answersIn (0, 0, n, n, E) E [vJ set_, vJ yes, vJ no] M (qP M K) := by
  refine Mt.of (by decide) (lb rfl) (Nat.le_refl _) rfl ?_
  rw [A_answersIn] at hz
  show Rr y_A_answersIn (0, 0, n, n, E) (qP M K) 0 [(0, vJ set_), (2, vJ yes), (4, vJ no)] [] E n M
  refine R_lload_n (pc := 0) 0 (dc k_A_answersIn 0 rfl) rfl rfl ?_
  refine R_lload_n (pc := 1) 1 (dc k_A_answersIn 1 rfl) rfl rfl ?_
  refine R_land (pc := 2) (dc k_A_answersIn 2 rfl) ?_
  refine R_lconst (pc := 3) (a := 0) (dc k_A_answersIn 3 rfl) (by decide) ?_
  refine R_lcmp (pc := 4) (dc k_A_answersIn 4 rfl) ?_
  obtain ⟨K_2, hK_3, hz⟩ := Z_cut hz
  have hJ_4 : ∀ (v_1 : Int), K_2 v_1 → Rr y_A_answersIn (0, 0, n, n, E) (qP M K) 13 [(0, vJ set_), (2, vJ yes), (4, vJ no)] [vI v_1] E n M := by
    intro v_1 hk
    have hz := hK_3 _ hk
    refine R_lload_n (pc := 13) 0 (dc k_A_answersIn 9 rfl) rfl rfl ?_
    refine R_lload (pc := 14) 2 (dc k_A_answersIn 10 rfl) rfl ?_
    refine R_land (pc := 16) (dc k_A_answersIn 11 rfl) ?_
    refine R_lconst (pc := 17) (a := 0) (dc k_A_answersIn 12 rfl) (by decide) ?_
    refine R_lcmp (pc := 18) (dc k_A_answersIn 13 rfl) ?_
    obtain ⟨K_7, hK_8, hz⟩ := Z_cut hz
    have hJ_9 : ∀ (v_6 : Int), K_7 v_6 → Rr y_A_answersIn (0, 0, n, n, E) (qP M K) 27 [(0, vJ set_), (2, vJ yes), (4, vJ no)] [vI v_6, vI v_1] E n M := by
      intro v_6 hk
      have hz := hK_8 _ hk
      refine R_ior (pc := 27) (dc k_A_answersIn 18 rfl) ?_
      refine R_lload_n (pc := 28) 0 (dc k_A_answersIn 19 rfl) rfl rfl ?_
      refine R_lload_n (pc := 29) 1 (dc k_A_answersIn 20 rfl) rfl rfl ?_
      refine R_lload (pc := 30) 2 (dc k_A_answersIn 21 rfl) rfl ?_
      refine R_lor (pc := 32) (dc k_A_answersIn 22 rfl) ?_
      refine R_ldc2 (pc := 33) (a := (-1)) (dc k_A_answersIn 23 rfl) c_A_94 ?_
      refine R_lxor (pc := 36) (dc k_A_answersIn 24 rfl) ?_
      refine R_land (pc := 37) (dc k_A_answersIn 25 rfl) ?_
      refine R_lconst (pc := 38) (a := 0) (dc k_A_answersIn 26 rfl) (by decide) ?_
      refine R_lcmp (pc := 39) (dc k_A_answersIn 27 rfl) ?_
      obtain ⟨K_12, hK_13, hz⟩ := Z_cut hz
      have hJ_14 : ∀ (v_11 : Int), K_12 v_11 → Rr y_A_answersIn (0, 0, n, n, E) (qP M K) 48 [] [vI v_11, vI (ior' v_1 v_6)] E n M := by
        intro v_11 hk
        have hz := hK_13 _ hk
        refine R_ior (pc := 48) (dc k_A_answersIn 32 rfl) ?_
        exact R_iret (pc := 49) (dc k_A_answersIn 33 rfl) rfl rfl rfl ⟨_, rfl, rfl, (Z_some hz)⟩
      refine R_if_eq (pc := 40) 47 (dc k_A_answersIn 28 rfl) rfl (fun hc => ?_) (fun hc => ?_)
      · have hz := Z_neg (show ¬ (¬ n64 (jand set_ (jxor (jor yes no) (-1))) = n64 0) from (fun z => z (jcmp_eq.mp hc))) hz
        refine R_iconst (pc := 47) (a := 0) (dc k_A_answersIn 31 rfl) ?_
        refine R_sub [] rfl ?_
        exact hJ_14 _ (Z_some hz)
      · have hz := Z_pos (show ¬ n64 (jand set_ (jxor (jor yes no) (-1))) = n64 0 from (fun z => hc (jcmp_eq.mpr z))) hz
        refine R_iconst (pc := 43) (a := 4) (dc k_A_answersIn 29 rfl) ?_
        refine R_goto (pc := 44) 48 (dc k_A_answersIn 30 rfl) rfl ?_
        refine R_sub [] rfl ?_
        exact hJ_14 _ (Z_some hz)
    refine R_if_eq (pc := 19) 26 (dc k_A_answersIn 14 rfl) rfl (fun hc => ?_) (fun hc => ?_)
    · have hz := Z_neg (show ¬ (¬ n64 (jand set_ no) = n64 0) from (fun z => z (jcmp_eq.mp hc))) hz
      refine R_iconst (pc := 26) (a := 0) (dc k_A_answersIn 17 rfl) ?_
      exact hJ_9 _ (Z_some hz)
    · have hz := Z_pos (show ¬ n64 (jand set_ no) = n64 0 from (fun z => hc (jcmp_eq.mpr z))) hz
      refine R_iconst (pc := 22) (a := 2) (dc k_A_answersIn 15 rfl) ?_
      refine R_goto (pc := 23) 27 (dc k_A_answersIn 16 rfl) rfl ?_
      exact hJ_9 _ (Z_some hz)
  refine R_if_eq (pc := 5) 12 (dc k_A_answersIn 5 rfl) rfl (fun hc => ?_) (fun hc => ?_)
  · have hz := Z_neg (show ¬ (¬ n64 (jand set_ yes) = n64 0) from (fun z => z (jcmp_eq.mp hc))) hz
    refine R_iconst (pc := 12) (a := 0) (dc k_A_answersIn 8 rfl) ?_
    exact hJ_4 _ (Z_some hz)
  · have hz := Z_pos (show ¬ n64 (jand set_ yes) = n64 0 from (fun z => hc (jcmp_eq.mpr z))) hz
    refine R_iconst (pc := 8) (a := 1) (dc k_A_answersIn 6 rfl) ?_
    refine R_goto (pc := 9) 13 (dc k_A_answersIn 7 rfl) rfl ?_
    exact hJ_4 _ (Z_some hz)

set_option maxRecDepth 20000 in
theorem ct_A_tells {E : Nat → Bool} {n : Nat} (hE : ∀ c, 1 ≤ c → c ≤ 80 → E c = true) (hn : 80 ≤ n) {at_ : Int} {place : Int} {M : Mem} {K : Int → Prop} (hz : Z (A_tells at_ place M) K) : Mt y_A_tells (1, 25, n, n, E) E [vR 74, vI at_, vI place] M (qP M K) := by
  refine Mt.of (by decide) (lb rfl) (Nat.le_refl _) rfl ?_
  rw [A_tells] at hz
  show Rr y_A_tells (1, 25, n, n, E) (qP M K) 0 [(0, vR 74), (1, vI at_), (2, vI place)] [] E n M
  refine R_iconst (pc := 0) (a := 0) (dc k_A_tells 0 rfl) ?_
  refine R_istore_n (pc := 1) (L' := [(3, vI 0), (0, vR 74), (1, vI at_), (2, vI place)]) (dc k_A_tells 1 rfl) rfl (lb rfl) rfl ?_
  refine R_iconst (pc := 2) (a := 0) (dc k_A_tells 2 rfl) ?_
  refine R_istore (pc := 3) (L' := [(4, vI 0), (3, vI 0), (0, vR 74), (1, vI at_), (2, vI place)]) (dc k_A_tells 3 rfl) (lb rfl) rfl ?_
  refine R_iconst (pc := 5) (a := 0) (dc k_A_tells 4 rfl) ?_
  refine R_istore (pc := 6) (L' := [(5, vI 0), (4, vI 0), (3, vI 0), (0, vR 74), (1, vI at_), (2, vI place)]) (dc k_A_tells 5 rfl) (lb rfl) rfl ?_
  obtain ⟨K_4, hK_5, hz⟩ := Z_cut hz
  have hX_6 : K_4 (.inl ()) → Rr y_A_tells (1, 25, n, n, E) (qP M K) 136 [] [] E n M := by
    intro  hk
    have hz := hK_5 _ hk
    refine R_iconst (pc := 136) (a := 1) (dc k_A_tells 76 rfl) ?_
    exact R_zret (pc := 137) (dc k_A_tells 77 rfl) rfl (Or.inr rfl) rfl rfl ⟨_, rfl, rfl, (Z_some hz)⟩
  refine R_sub [3, 4, 5, 2, 1, 0] rfl ?_
  refine it_R (C := fun aZ : Int × Int × Int => Rr y_A_tells (1, 25, n, n, E) (qP M K) 8 [(0, vR 74), (1, vI at_), (2, vI place), (3, vI aZ.1), (4, vI aZ.2.1), (5, vI aZ.2.2)] [] E n M) (fun aZ K_7 hC_8 hB_9 hz => ?_) FUEL (0, 0, 0) hz
  obtain ⟨l3_1, l4_2, l5_3⟩ := aZ
  rw [A_tells_b8] at hz
  show Rr y_A_tells (1, 25, n, n, E) (qP M K) 8 [(0, vR 74), (1, vI at_), (2, vI place), (3, vI l3_1), (4, vI l4_2), (5, vI l5_3)] [] E n M
  refine R_iload (pc := 8) 5 (dc k_A_tells 6 rfl) rfl ?_
  refine R_aload_n (pc := 10) 0 (dc k_A_tells 7 rfl) rfl rfl ?_
  obtain ⟨hg_10, hz⟩ := Z_chk hz
  obtain ⟨t_11, ht_11, hz⟩ := Z_lt hz
  obtain ⟨hq_12, ht_11t⟩ := isTI.at' hg_10 ht_11
  have hnt_11t := qTn ht_11t hn
  have hEt_11t := qTE ht_11t hE
  refine R_getR (pc := 11) (ci := 7) (k := 0) t_11 (dc k_A_tells 8 rfl) fl_A_15 rfl (lb rfl) (Nat.le_trans (lb rfl) hn) (Or.inr rfl) hq_12 (qT0 ht_11t) rfl ?_
  refine R_getI (pc := 14) (ci := 1) (k := 6) (dc k_A_tells 9 rfl) fl_A_71 (lT ht_11t) (qT1 ht_11t) (qTn_0 hnt_11t) (rT_6 ht_11t) (Or.inl rfl) ?_
  refine R_icmp_ge (pc := 17) 136 (dc k_A_tells 10 rfl) rfl (fun hc => ?_) (fun hc => ?_)
  · have hz := Z_neg (show ¬ (n32 l5_3 < n32 (M t_11 6)) from (Int.not_lt.mpr hc)) hz
    refine R_sub [] rfl ?_
    exact hX_6 (hB_9 _ (Z_some hz))
  · have hz := Z_pos (show n32 l5_3 < n32 (M t_11 6) from (Int.not_le.mp hc)) hz
    refine R_aload_n (pc := 20) 0 (dc k_A_tells 11 rfl) rfl rfl ?_
    refine R_getS (pc := 21) (ci := 7) (k := 5) 75 (dc k_A_tells 12 rfl) fl_A_9 rfl (lb rfl) (Nat.le_trans (lb rfl) hn) (hE 74 (lb rfl) (lb rfl)) rfl (by decide) rfl ?_
    refine R_iload_n (pc := 24) 1 (dc k_A_tells 13 rfl) rfl rfl ?_
    refine R_iload (pc := 25) 5 (dc k_A_tells 14 rfl) rfl ?_
    refine R_iadd (pc := 27) (dc k_A_tells 15 rfl) ?_
    obtain ⟨⟨hg_13, hg_14⟩, hz⟩ := Z_chk hz
    refine R_lald (pc := 28) (dc k_A_tells 16 rfl) rfl (lb rfl) (Nat.le_trans (lb rfl) hn) hg_13 hg_14 ?_
    obtain ⟨l6_15, hl6_15, hz⟩ := Z_lt hz
    refine R_lstoreE (pc := 29) (L' := [(6, vJ l6_15), (0, vR 74), (1, vI at_), (2, vI place), (3, vI l3_1), (4, vI l4_2), (5, vI l5_3)]) (dc k_A_tells 17 rfl) (lb rfl) hl6_15 rfl ?_
    refine R_aload_n (pc := 31) 1 (dc k_A_tells 18 rfl) rfl rfl ?_
    refine R_getR (pc := 32) (ci := 7) (k := 0) t_11 (dc k_A_tells 19 rfl) fl_A_15 rfl (lb rfl) (Nat.le_trans (lb rfl) hn) (Or.inr rfl) hq_12 (qT0 ht_11t) rfl ?_
    refine R_getS (pc := 35) (ci := 1) (k := 17) (t_11 + 10) (dc k_A_tells 20 rfl) fl_A_35 (lT ht_11t) (qT1 ht_11t) (qTn_0 hnt_11t) hEt_11t (rT_17 ht_11t) (Nat.succ_ne_zero _) rfl ?_
    refine R_iload_n (pc := 38) 3 (dc k_A_tells 21 rfl) rfl rfl ?_
    refine R_iload (pc := 39) 6 (dc k_A_tells 22 rfl) rfl ?_
    refine R_iadd (pc := 41) (dc k_A_tells 23 rfl) ?_
    obtain ⟨⟨hg_16, hg_17⟩, hz⟩ := Z_chk hz
    refine R_lald (pc := 42) (dc k_A_tells 24 rfl) (lT_10 ht_11t) (Nat.le_add_left_of_le (lb rfl)) (qTn_k hnt_11t (lb rfl)) hg_16 hg_17 ?_
    obtain ⟨l8_18, hl8_18, hz⟩ := Z_lt hz
    refine R_lstoreE (pc := 43) (L' := [(8, vJ l8_18), (6, vJ l6_15), (0, vR 74), (1, vI at_), (2, vI place), (3, vI l3_1), (4, vI l4_2), (5, vI l5_3)]) (dc k_A_tells 25 rfl) (lb rfl) hl8_18 rfl ?_
    refine R_aload_n (pc := 45) 2 (dc k_A_tells 26 rfl) rfl rfl ?_
    refine R_getR (pc := 46) (ci := 7) (k := 0) t_11 (dc k_A_tells 27 rfl) fl_A_15 rfl (lb rfl) (Nat.le_trans (lb rfl) hn) (Or.inr rfl) hq_12 (qT0 ht_11t) rfl ?_
    refine R_getS (pc := 49) (ci := 1) (k := 18) (t_11 + 11) (dc k_A_tells 28 rfl) fl_A_44 (lT ht_11t) (qT1 ht_11t) (qTn_0 hnt_11t) hEt_11t (rT_18 ht_11t) (Nat.succ_ne_zero _) rfl ?_
    refine R_iload_n (pc := 52) 4 (dc k_A_tells 29 rfl) rfl rfl ?_
    refine R_iload (pc := 53) 7 (dc k_A_tells 30 rfl) rfl ?_
    refine R_iadd (pc := 55) (dc k_A_tells 31 rfl) ?_
    refine R_lald (pc := 56) (dc k_A_tells 32 rfl) (lT_11 ht_11t) (Nat.le_add_left_of_le (lb rfl)) (qTn_k hnt_11t (lb rfl)) hg_16 hg_17 ?_
    obtain ⟨l10_19, hl10_19, hz⟩ := Z_lt hz
    refine R_lstoreE (pc := 57) (L' := [(10, vJ l10_19), (8, vJ l8_18), (6, vJ l6_15), (0, vR 74), (1, vI at_), (2, vI place), (3, vI l3_1), (4, vI l4_2), (5, vI l5_3)]) (dc k_A_tells 33 rfl) (lb rfl) hl10_19 rfl ?_
    refine R_iload_n (pc := 59) 6 (dc k_A_tells 34 rfl) rfl rfl ?_
    refine R_lload (pc := 60) 2 (dc k_A_tells 35 rfl) rfl ?_
    refine R_aload_n (pc := 62) 3 (dc k_A_tells 36 rfl) rfl rfl ?_
    refine R_getR (pc := 63) (ci := 7) (k := 0) t_11 (dc k_A_tells 37 rfl) fl_A_15 rfl (lb rfl) (Nat.le_trans (lb rfl) hn) (Or.inr rfl) hq_12 (qT0 ht_11t) rfl ?_
    refine R_getS (pc := 66) (ci := 1) (k := 16) (t_11 + 9) (dc k_A_tells 38 rfl) fl_A_91 (lT ht_11t) (qT1 ht_11t) (qTn_0 hnt_11t) hEt_11t (rT_16 ht_11t) (Nat.succ_ne_zero _) rfl ?_
    refine R_aload_n (pc := 69) 3 (dc k_A_tells 39 rfl) rfl rfl ?_
    refine R_getI (pc := 70) (ci := 7) (k := 4) (dc k_A_tells 40 rfl) fl_A_65 rfl (lb rfl) (Nat.le_trans (lb rfl) hn) rfl (Or.inl rfl) ?_
    refine R_iload (pc := 73) 8 (dc k_A_tells 41 rfl) rfl ?_
    refine R_iadd (pc := 75) (dc k_A_tells 42 rfl) ?_
    obtain ⟨⟨hg_20, hg_21⟩, hz⟩ := Z_chk hz
    refine R_lald (pc := 76) (dc k_A_tells 43 rfl) (lT_9 ht_11t) (Nat.le_add_left_of_le (lb rfl)) (qTn_k hnt_11t (lb rfl)) hg_20 hg_21 ?_
    refine R_land (pc := 77) (dc k_A_tells 44 rfl) ?_
    refine R_lload (pc := 78) 1 (dc k_A_tells 45 rfl) rfl ?_
    refine R_lload (pc := 80) 0 (dc k_A_tells 46 rfl) rfl ?_
    refine R_cSP (pc := 82)  (As := [vJ (jand l6_15 (M (t_11 + 9) (Int.toNat ((M 74 4) + l5_3)))), vJ l8_18, vJ l10_19]) (S := [vI l3_1]) ck_A_100 (dc k_A_tells 47 rfl) (lb rfl) (lb rfl) (lb rfl) rfl (ct_A_answersIn hE hn (Z_bind hz)) (fun r_22 hz => ?_)
    refine R_ior (pc := 85) (dc k_A_tells 48 rfl) ?_
    obtain ⟨l3_23, hl3_23, hz⟩ := Z_lt hz
    refine R_istore_nE (pc := 86) (L' := [(3, vI l3_23), (10, vJ l10_19), (8, vJ l8_18), (6, vJ l6_15), (0, vR 74), (1, vI at_), (2, vI place), (4, vI l4_2), (5, vI l5_3)]) (dc k_A_tells 49 rfl) rfl (lb rfl) hl3_23 rfl ?_
    refine R_iload (pc := 87) 7 (dc k_A_tells 50 rfl) rfl ?_
    refine R_lload (pc := 89) 3 (dc k_A_tells 51 rfl) rfl ?_
    refine R_aload_n (pc := 91) 4 (dc k_A_tells 52 rfl) rfl rfl ?_
    refine R_getR (pc := 92) (ci := 7) (k := 0) t_11 (dc k_A_tells 53 rfl) fl_A_15 rfl (lb rfl) (Nat.le_trans (lb rfl) hn) (Or.inr rfl) hq_12 (qT0 ht_11t) rfl ?_
    refine R_getS (pc := 95) (ci := 1) (k := 16) (t_11 + 9) (dc k_A_tells 54 rfl) fl_A_91 (lT ht_11t) (qT1 ht_11t) (qTn_0 hnt_11t) hEt_11t (rT_16 ht_11t) (Nat.succ_ne_zero _) rfl ?_
    refine R_aload_n (pc := 98) 4 (dc k_A_tells 55 rfl) rfl rfl ?_
    refine R_getI (pc := 99) (ci := 7) (k := 4) (dc k_A_tells 56 rfl) fl_A_65 rfl (lb rfl) (Nat.le_trans (lb rfl) hn) rfl (Or.inl rfl) ?_
    refine R_iload (pc := 102) 8 (dc k_A_tells 57 rfl) rfl ?_
    refine R_iadd (pc := 104) (dc k_A_tells 58 rfl) ?_
    refine R_lald (pc := 105) (dc k_A_tells 59 rfl) (lT_9 ht_11t) (Nat.le_add_left_of_le (lb rfl)) (qTn_k hnt_11t (lb rfl)) hg_20 hg_21 ?_
    refine R_ldc2 (pc := 106) (a := (-1)) (dc k_A_tells 60 rfl) c_A_94 ?_
    refine R_lxor (pc := 109) (dc k_A_tells 61 rfl) ?_
    refine R_land (pc := 110) (dc k_A_tells 62 rfl) ?_
    refine R_lload (pc := 111) 2 (dc k_A_tells 63 rfl) rfl ?_
    refine R_lload (pc := 113) 1 (dc k_A_tells 64 rfl) rfl ?_
    refine R_cSP (pc := 115)  (As := [vJ (jand l6_15 (jxor (M (t_11 + 9) (Int.toNat ((M 74 4) + l5_3))) (-1))), vJ l8_18, vJ l10_19]) (S := [vI l4_2]) ck_A_100 (dc k_A_tells 65 rfl) (lb rfl) (lb rfl) (lb rfl) rfl (ct_A_answersIn hE hn (Z_bind hz)) (fun r_24 hz => ?_)
    refine R_ior (pc := 118) (dc k_A_tells 66 rfl) ?_
    obtain ⟨l4_25, hl4_25, hz⟩ := Z_lt hz
    refine R_istoreE (pc := 119) (L' := [(4, vI l4_25), (3, vI l3_23), (10, vJ l10_19), (8, vJ l8_18), (6, vJ l6_15), (0, vR 74), (1, vI at_), (2, vI place), (5, vI l5_3)]) (dc k_A_tells 67 rfl) (lb rfl) hl4_25 rfl ?_
    refine R_iload_n (pc := 121) 1 (dc k_A_tells 68 rfl) rfl rfl ?_
    refine R_iload (pc := 122) 0 (dc k_A_tells 69 rfl) rfl ?_
    refine R_iand (pc := 124) (dc k_A_tells 70 rfl) ?_
    refine R_if_eq (pc := 125) 130 (dc k_A_tells 71 rfl) rfl (fun hc => ?_) (fun hc => ?_)
    · have hz := Z_neg (show ¬ (¬ n32 (iand l3_23 l4_25) = 0) from (fun z => z hc)) hz
      obtain ⟨l5_26, hl5_26, hz⟩ := Z_lt hz
      refine R_iincE (pc := 130) (L' := [(5, vI l5_26), (4, vI l4_25), (3, vI l3_23), (10, vJ l10_19), (8, vJ l8_18), (6, vJ l6_15), (0, vR 74), (1, vI at_), (2, vI place)]) 8 (dc k_A_tells 74 rfl) rfl (lb rfl) hl5_26 rfl ?_
      refine R_goto (pc := 133) 8 (dc k_A_tells 75 rfl) rfl ?_
      refine R_sub [6, 7, 8, 2, 1, 0] rfl ?_
      exact hC_8 _ (Z_some hz)
    · have hz := Z_pos (show ¬ n32 (iand l3_23 l4_25) = 0 from hc) hz
      refine R_iconst (pc := 128) (a := 0) (dc k_A_tells 72 rfl) ?_
      exact R_zret (pc := 129) (dc k_A_tells 73 rfl) rfl (Or.inl rfl) rfl rfl ⟨_, rfl, rfl, (Z_some (hK_5 _ (hB_9 _ (Z_some hz))))⟩

set_option maxRecDepth 20000 in
theorem ct_A_oneIsEnough {E : Nat → Bool} {n : Nat} (hE : ∀ c, 1 ≤ c → c ≤ 80 → E c = true) (hn : 80 ≤ n) {at_ : Int} {M : Mem} {K : Int → Prop} (hz : Z (A_oneIsEnough at_ M) K) : Mt y_A_oneIsEnough (2, 56, n, n, E) E [vR 74, vI at_] M (qP M K) := by
  refine Mt.of (by decide) (lb rfl) (Nat.le_refl _) rfl ?_
  rw [A_oneIsEnough] at hz
  show Rr y_A_oneIsEnough (2, 56, n, n, E) (qP M K) 0 [(0, vR 74), (1, vI at_)] [] E n M
  refine R_iconst (pc := 0) (a := 0) (dc k_A_oneIsEnough 0 rfl) ?_
  refine R_istore_n (pc := 1) (L' := [(2, vI 0), (0, vR 74), (1, vI at_)]) (dc k_A_oneIsEnough 1 rfl) rfl (lb rfl) rfl ?_
  obtain ⟨K_2, hK_3, hz⟩ := Z_cut hz
  have hX_4 : K_2 (.inl ()) → Rr y_A_oneIsEnough (2, 56, n, n, E) (qP M K) 53 [] [] E n M := by
    intro  hk
    have hz := hK_3 _ hk
    refine R_iconst (pc := 53) (a := 0) (dc k_A_oneIsEnough 27 rfl) ?_
    exact R_zret (pc := 54) (dc k_A_oneIsEnough 28 rfl) rfl (Or.inl rfl) rfl rfl ⟨_, rfl, rfl, (Z_some hz)⟩
  refine R_sub [1, 2, 0] rfl ?_
  refine it_R (C := fun aZ : Int => Rr y_A_oneIsEnough (2, 56, n, n, E) (qP M K) 2 [(0, vR 74), (1, vI at_), (2, vI aZ)] [] E n M) (fun l2_1 K_5 hC_6 hB_7 hz => ?_) FUEL 0 hz
  rw [A_oneIsEnough_b2] at hz
  show Rr y_A_oneIsEnough (2, 56, n, n, E) (qP M K) 2 [(0, vR 74), (1, vI at_), (2, vI l2_1)] [] E n M
  refine R_iload_n (pc := 2) 2 (dc k_A_oneIsEnough 2 rfl) rfl rfl ?_
  refine R_aload_n (pc := 3) 0 (dc k_A_oneIsEnough 3 rfl) rfl rfl ?_
  obtain ⟨hg_8, hz⟩ := Z_chk hz
  obtain ⟨t_9, ht_9, hz⟩ := Z_lt hz
  obtain ⟨hq_10, ht_9t⟩ := isTI.at' hg_8 ht_9
  have hnt_9t := qTn ht_9t hn
  have hEt_9t := qTE ht_9t hE
  refine R_getR (pc := 4) (ci := 7) (k := 0) t_9 (dc k_A_oneIsEnough 4 rfl) fl_A_15 rfl (lb rfl) (Nat.le_trans (lb rfl) hn) (Or.inr rfl) hq_10 (qT0 ht_9t) rfl ?_
  refine R_getI (pc := 7) (ci := 1) (k := 1) (dc k_A_oneIsEnough 5 rfl) fl_A_23 (lT ht_9t) (qT1 ht_9t) (qTn_0 hnt_9t) (rT_1 ht_9t) (Or.inl rfl) ?_
  refine R_icmp_ge (pc := 10) 53 (dc k_A_oneIsEnough 6 rfl) rfl (fun hc => ?_) (fun hc => ?_)
  · have hz := Z_neg (show ¬ (n32 l2_1 < n32 (M t_9 1)) from (Int.not_lt.mpr hc)) hz
    refine R_sub [] rfl ?_
    exact hX_4 (hB_7 _ (Z_some hz))
  · have hz := Z_pos (show n32 l2_1 < n32 (M t_9 1) from (Int.not_le.mp hc)) hz
    refine R_iconst (pc := 13) (a := 0) (dc k_A_oneIsEnough 7 rfl) ?_
    refine R_istore_n (pc := 14) (L' := [(3, vI 0), (0, vR 74), (1, vI at_), (2, vI l2_1)]) (dc k_A_oneIsEnough 8 rfl) rfl (lb rfl) rfl ?_
    obtain ⟨K_12, hK_13, hz⟩ := Z_cut hz
    have hX_14 : K_12 (.inl ()) → Rr y_A_oneIsEnough (2, 56, n, n, E) (qP M K) 47 [(0, vR 74), (1, vI at_), (2, vI l2_1)] [] E n M := by
      intro  hk
      have hz := hK_13 _ hk
      obtain ⟨l2_23, hl2_23, hz⟩ := Z_lt hz
      refine R_iincE (pc := 47) (L' := [(2, vI l2_23), (0, vR 74), (1, vI at_)]) 2 (dc k_A_oneIsEnough 25 rfl) rfl (lb rfl) hl2_23 rfl ?_
      refine R_goto (pc := 50) 2 (dc k_A_oneIsEnough 26 rfl) rfl ?_
      refine R_sub [1, 2, 0] rfl ?_
      exact hC_6 _ (Z_some hz)
    refine R_sub [1, 2, 3, 0] rfl ?_
    refine it_R (C := fun aZ : Int => Rr y_A_oneIsEnough (2, 56, n, n, E) (qP M K) 15 [(0, vR 74), (1, vI at_), (2, vI l2_1), (3, vI aZ)] [] E n M) (fun l3_11 K_15 hC_16 hB_17 hz => ?_) FUEL 0 hz
    rw [A_oneIsEnough_b15] at hz
    show Rr y_A_oneIsEnough (2, 56, n, n, E) (qP M K) 15 [(0, vR 74), (1, vI at_), (2, vI l2_1), (3, vI l3_11)] [] E n M
    refine R_iload_n (pc := 15) 3 (dc k_A_oneIsEnough 9 rfl) rfl rfl ?_
    refine R_aload_n (pc := 16) 0 (dc k_A_oneIsEnough 10 rfl) rfl rfl ?_
    refine R_getR (pc := 17) (ci := 7) (k := 0) t_9 (dc k_A_oneIsEnough 11 rfl) fl_A_15 rfl (lb rfl) (Nat.le_trans (lb rfl) hn) (Or.inr rfl) hq_10 (qT0 ht_9t) rfl ?_
    refine R_getI (pc := 20) (ci := 1) (k := 2) (dc k_A_oneIsEnough 12 rfl) fl_A_28 (lT ht_9t) (qT1 ht_9t) (qTn_0 hnt_9t) (rT_2 ht_9t) (Or.inl rfl) ?_
    refine R_icmp_ge (pc := 23) 47 (dc k_A_oneIsEnough 13 rfl) rfl (fun hc => ?_) (fun hc => ?_)
    · have hz := Z_neg (show ¬ (n32 l3_11 < n32 (M t_9 2)) from (Int.not_lt.mpr hc)) hz
      refine R_sub [0, 1, 2] rfl ?_
      exact hX_14 (hB_17 _ (Z_some hz))
    · have hz := Z_pos (show n32 l3_11 < n32 (M t_9 2) from (Int.not_le.mp hc)) hz
      refine R_aload_n (pc := 26) 0 (dc k_A_oneIsEnough 14 rfl) rfl rfl ?_
      refine R_iload_n (pc := 27) 1 (dc k_A_oneIsEnough 15 rfl) rfl rfl ?_
      refine R_iload_n (pc := 28) 2 (dc k_A_oneIsEnough 16 rfl) rfl rfl ?_
      refine R_iload_n (pc := 29) 3 (dc k_A_oneIsEnough 17 rfl) rfl rfl ?_
      refine R_cSP (pc := 30)  (As := [vI l2_1, vI l3_11]) (S := [vI at_, vR 74]) ck_A_31 (dc k_A_oneIsEnough 18 rfl) (lb rfl) (lb rfl) (lb rfl) rfl (ct_T_place hE hn (Z_bind hz)) (fun r_18 hz => ?_)
      refine R_cVP (pc := 33)  (As := [vI at_, vI r_18]) (S := []) ck_A_96 (dc k_A_oneIsEnough 19 rfl) ⟨rfl, ⟨_, rfl, rfl⟩, (lb rfl), (Nat.le_trans (lb rfl) hn)⟩ (lb rfl) (lb rfl) (lb rfl) rfl (ct_A_tells hE hn (Z_bind hz)) (fun r_19 hz => ?_)
      refine R_if_eq (pc := 36) 41 (dc k_A_oneIsEnough 20 rfl) rfl (fun hc => ?_) (fun hc => ?_)
      · have hz := Z_neg (show ¬ (¬ n32 r_19 = 0) from (fun z => z hc)) hz
        obtain ⟨l3_20, hl3_20, hz⟩ := Z_lt hz
        refine R_iincE (pc := 41) (L' := [(3, vI l3_20), (0, vR 74), (1, vI at_), (2, vI l2_1)]) 3 (dc k_A_oneIsEnough 23 rfl) rfl (lb rfl) hl3_20 rfl ?_
        refine R_goto (pc := 44) 15 (dc k_A_oneIsEnough 24 rfl) rfl ?_
        refine R_sub [1, 2, 3, 0] rfl ?_
        exact hC_16 _ (Z_some hz)
      · have hz := Z_pos (show ¬ n32 r_19 = 0 from hc) hz
        refine R_iconst (pc := 39) (a := 1) (dc k_A_oneIsEnough 21 rfl) ?_
        exact R_zret (pc := 40) (dc k_A_oneIsEnough 22 rfl) rfl (Or.inr rfl) rfl rfl ⟨_, rfl, rfl, (Z_some (hK_3 _ (hB_7 _ (Z_some (hK_13 _ (hB_17 _ (Z_some hz)))))))⟩

set_option maxRecDepth 20000 in
theorem ct_A_split {E : Nat → Bool} {n : Nat} (hE : ∀ c, 1 ≤ c → c ≤ 80 → E c = true) (hn : 80 ≤ n) {place : Int} {M : Mem} {K : Mem → Prop} (hz : Z (A_split place M) K) : Mt y_A_split (0, 0, n, n, E) E [vR 74, vI place] M (qV K) := by
  refine Mt.of (by decide) (lb rfl) (Nat.le_refl _) rfl ?_
  rw [A_split] at hz
  show Rr y_A_split (0, 0, n, n, E) (qV K) 0 [(0, vR 74), (1, vI place)] [] E n M
  refine R_iconst (pc := 0) (a := 0) (dc k_A_split 0 rfl) ?_
  refine R_istore_n (pc := 1) (L' := [(2, vI 0), (0, vR 74), (1, vI place)]) (dc k_A_split 1 rfl) rfl (lb rfl) rfl ?_
  obtain ⟨K_3, hK_4, hz⟩ := Z_cut hz
  have hX_5 : ∀ (M_9 : Mem), K_3 M_9 → Rr y_A_split (0, 0, n, n, E) (qV K) 102 [] [] E n M_9 := by
    intro M_9 hk
    have hz := hK_4 _ hk
    exact R_vret (pc := 102) (dc k_A_split 65 rfl) rfl rfl rfl ⟨rfl, (Z_some hz)⟩
  refine R_sub [1, 2, 0] rfl ?_
  refine it_R (C := fun aZ : Int × Mem => Rr y_A_split (0, 0, n, n, E) (qV K) 2 [(0, vR 74), (1, vI place), (2, vI aZ.1)] [] E n aZ.2) (fun aZ K_6 hC_7 hB_8 hz => ?_) FUEL (0, M) hz
  obtain ⟨l2_1, M_2⟩ := aZ
  rw [A_split_b2] at hz
  show Rr y_A_split (0, 0, n, n, E) (qV K) 2 [(0, vR 74), (1, vI place), (2, vI l2_1)] [] E n M_2
  refine R_iload_n (pc := 2) 2 (dc k_A_split 2 rfl) rfl rfl ?_
  refine R_aload_n (pc := 3) 0 (dc k_A_split 3 rfl) rfl rfl ?_
  obtain ⟨hg_10, hz⟩ := Z_chk hz
  obtain ⟨t_11, ht_11, hz⟩ := Z_lt hz
  obtain ⟨hq_12, ht_11t⟩ := isTI.at' hg_10 ht_11
  have hnt_11t := qTn ht_11t hn
  have hEt_11t := qTE ht_11t hE
  refine R_getR (pc := 4) (ci := 7) (k := 0) t_11 (dc k_A_split 4 rfl) fl_A_15 rfl (lb rfl) (Nat.le_trans (lb rfl) hn) (Or.inr rfl) hq_12 (qT0 ht_11t) rfl ?_
  refine R_getI (pc := 7) (ci := 1) (k := 6) (dc k_A_split 5 rfl) fl_A_71 (lT ht_11t) (qT1 ht_11t) (qTn_0 hnt_11t) (rT_6 ht_11t) (Or.inl rfl) ?_
  refine R_icmp_ge (pc := 10) 102 (dc k_A_split 6 rfl) rfl (fun hc => ?_) (fun hc => ?_)
  · have hz := Z_neg (show ¬ (n32 l2_1 < n32 (M_2 t_11 6)) from (Int.not_lt.mpr hc)) hz
    refine R_sub [] rfl ?_
    exact hX_5 _ (hB_8 _ (Z_some hz))
  · have hz := Z_pos (show n32 l2_1 < n32 (M_2 t_11 6) from (Int.not_le.mp hc)) hz
    refine R_aload_n (pc := 13) 0 (dc k_A_split 7 rfl) rfl rfl ?_
    refine R_getS (pc := 14) (ci := 7) (k := 5) 75 (dc k_A_split 8 rfl) fl_A_9 rfl (lb rfl) (Nat.le_trans (lb rfl) hn) (hE 74 (lb rfl) (lb rfl)) rfl (by decide) rfl ?_
    refine R_iload_n (pc := 17) 2 (dc k_A_split 9 rfl) rfl rfl ?_
    obtain ⟨⟨hg_13, hg_14⟩, hz⟩ := Z_chk hz
    refine R_lald (pc := 18) (dc k_A_split 10 rfl) rfl (lb rfl) (Nat.le_trans (lb rfl) hn) hg_13 hg_14 ?_
    refine R_aload_n (pc := 19) 0 (dc k_A_split 11 rfl) rfl rfl ?_
    refine R_getR (pc := 20) (ci := 7) (k := 0) t_11 (dc k_A_split 12 rfl) fl_A_15 rfl (lb rfl) (Nat.le_trans (lb rfl) hn) (Or.inr rfl) hq_12 (qT0 ht_11t) rfl ?_
    refine R_getS (pc := 23) (ci := 1) (k := 17) (t_11 + 10) (dc k_A_split 13 rfl) fl_A_35 (lT ht_11t) (qT1 ht_11t) (qTn_0 hnt_11t) hEt_11t (rT_17 ht_11t) (Nat.succ_ne_zero _) rfl ?_
    refine R_iload_n (pc := 26) 1 (dc k_A_split 14 rfl) rfl rfl ?_
    refine R_iload_n (pc := 27) 2 (dc k_A_split 15 rfl) rfl rfl ?_
    refine R_iadd (pc := 28) (dc k_A_split 16 rfl) ?_
    obtain ⟨⟨hg_15, hg_16⟩, hz⟩ := Z_chk hz
    refine R_lald (pc := 29) (dc k_A_split 17 rfl) (lT_10 ht_11t) (Nat.le_add_left_of_le (lb rfl)) (qTn_k hnt_11t (lb rfl)) hg_15 hg_16 ?_
    refine R_land (pc := 30) (dc k_A_split 18 rfl) ?_
    obtain ⟨l3_17, hl3_17, hz⟩ := Z_lt hz
    refine R_lstore_nE (pc := 31) (L' := [(3, vJ l3_17), (0, vR 74), (1, vI place), (2, vI l2_1)]) (dc k_A_split 19 rfl) rfl (lb rfl) hl3_17 rfl ?_
    refine R_aload_n (pc := 32) 1 (dc k_A_split 20 rfl) rfl rfl ?_
    refine R_getS (pc := 33) (ci := 7) (k := 5) 75 (dc k_A_split 21 rfl) fl_A_9 rfl (lb rfl) (Nat.le_trans (lb rfl) hn) (hE 74 (lb rfl) (lb rfl)) rfl (by decide) rfl ?_
    refine R_iload_n (pc := 36) 3 (dc k_A_split 22 rfl) rfl rfl ?_
    refine R_lald (pc := 37) (dc k_A_split 23 rfl) rfl (lb rfl) (Nat.le_trans (lb rfl) hn) hg_13 hg_14 ?_
    refine R_aload_n (pc := 38) 1 (dc k_A_split 24 rfl) rfl rfl ?_
    refine R_getR (pc := 39) (ci := 7) (k := 0) t_11 (dc k_A_split 25 rfl) fl_A_15 rfl (lb rfl) (Nat.le_trans (lb rfl) hn) (Or.inr rfl) hq_12 (qT0 ht_11t) rfl ?_
    refine R_getS (pc := 42) (ci := 1) (k := 18) (t_11 + 11) (dc k_A_split 26 rfl) fl_A_44 (lT ht_11t) (qT1 ht_11t) (qTn_0 hnt_11t) hEt_11t (rT_18 ht_11t) (Nat.succ_ne_zero _) rfl ?_
    refine R_iload_n (pc := 45) 2 (dc k_A_split 27 rfl) rfl rfl ?_
    refine R_iload_n (pc := 46) 3 (dc k_A_split 28 rfl) rfl rfl ?_
    refine R_iadd (pc := 47) (dc k_A_split 29 rfl) ?_
    refine R_lald (pc := 48) (dc k_A_split 30 rfl) (lT_11 ht_11t) (Nat.le_add_left_of_le (lb rfl)) (qTn_k hnt_11t (lb rfl)) hg_15 hg_16 ?_
    refine R_land (pc := 49) (dc k_A_split 31 rfl) ?_
    obtain ⟨l5_18, hl5_18, hz⟩ := Z_lt hz
    refine R_lstoreE (pc := 50) (L' := [(5, vJ l5_18), (3, vJ l3_17), (0, vR 74), (1, vI place), (2, vI l2_1)]) (dc k_A_split 32 rfl) (lb rfl) hl5_18 rfl ?_
    refine R_aload_n (pc := 52) 2 (dc k_A_split 33 rfl) rfl rfl ?_
    refine R_getS (pc := 53) (ci := 7) (k := 5) 75 (dc k_A_split 34 rfl) fl_A_9 rfl (lb rfl) (Nat.le_trans (lb rfl) hn) (hE 74 (lb rfl) (lb rfl)) rfl (by decide) rfl ?_
    refine R_iconst (pc := 56) (a := 4) (dc k_A_split 35 rfl) ?_
    refine R_iload_n (pc := 57) 4 (dc k_A_split 36 rfl) rfl rfl ?_
    refine R_iadd (pc := 58) (dc k_A_split 37 rfl) ?_
    refine R_lload_n (pc := 59) 1 (dc k_A_split 38 rfl) rfl rfl ?_
    obtain ⟨⟨hg_19, hg_20⟩, hz⟩ := Z_chk hz
    obtain ⟨M_21, hM_21, hz⟩ := Z_lt hz
    refine R_lastE (pc := 60) (dc k_A_split 39 rfl) rfl (lb rfl) (Nat.le_trans (lb rfl) hn) hg_19 hg_20 hM_21 ?_
    refine R_aload_n (pc := 61) 2 (dc k_A_split 40 rfl) rfl rfl ?_
    refine R_getS (pc := 62) (ci := 7) (k := 5) 75 (dc k_A_split 41 rfl) fl_A_9 rfl (lb rfl) (Nat.le_trans (lb rfl) hn) (hE 74 (lb rfl) (lb rfl)) rfl (by decide) rfl ?_
    refine R_bipush (pc := 65) (a := 8) (dc k_A_split 42 rfl) (by decide) ?_
    refine R_iload_n (pc := 67) 4 (dc k_A_split 43 rfl) rfl rfl ?_
    refine R_iadd (pc := 68) (dc k_A_split 44 rfl) ?_
    refine R_lload (pc := 69) 0 (dc k_A_split 45 rfl) rfl ?_
    obtain ⟨⟨hg_22, hg_23⟩, hz⟩ := Z_chk hz
    obtain ⟨M_24, hM_24, hz⟩ := Z_lt hz
    refine R_lastE (pc := 71) (dc k_A_split 46 rfl) rfl (lb rfl) (Nat.le_trans (lb rfl) hn) hg_22 hg_23 hM_24 ?_
    refine R_aload_n (pc := 72) 2 (dc k_A_split 47 rfl) rfl rfl ?_
    refine R_getS (pc := 73) (ci := 7) (k := 5) 75 (dc k_A_split 48 rfl) fl_A_9 rfl (lb rfl) (Nat.le_trans (lb rfl) hn) (hE 74 (lb rfl) (lb rfl)) rfl (by decide) rfl ?_
    refine R_bipush (pc := 76) (a := 12) (dc k_A_split 49 rfl) (by decide) ?_
    refine R_iload_n (pc := 78) 4 (dc k_A_split 50 rfl) rfl rfl ?_
    refine R_iadd (pc := 79) (dc k_A_split 51 rfl) ?_
    refine R_aload_n (pc := 80) 2 (dc k_A_split 52 rfl) rfl rfl ?_
    refine R_getS (pc := 81) (ci := 7) (k := 5) 75 (dc k_A_split 53 rfl) fl_A_9 rfl (lb rfl) (Nat.le_trans (lb rfl) hn) (hE 74 (lb rfl) (lb rfl)) rfl (by decide) rfl ?_
    refine R_iload_n (pc := 84) 4 (dc k_A_split 54 rfl) rfl rfl ?_
    refine R_lald (pc := 85) (dc k_A_split 55 rfl) rfl (lb rfl) (Nat.le_trans (lb rfl) hn) hg_13 hg_14 ?_
    refine R_lload_n (pc := 86) 1 (dc k_A_split 56 rfl) rfl rfl ?_
    refine R_lload (pc := 87) 0 (dc k_A_split 57 rfl) rfl ?_
    refine R_lor (pc := 89) (dc k_A_split 58 rfl) ?_
    refine R_ldc2 (pc := 90) (a := (-1)) (dc k_A_split 59 rfl) c_A_94 ?_
    refine R_lxor (pc := 93) (dc k_A_split 60 rfl) ?_
    refine R_land (pc := 94) (dc k_A_split 61 rfl) ?_
    obtain ⟨⟨hg_25, hg_26⟩, hz⟩ := Z_chk hz
    obtain ⟨M_27, hM_27, hz⟩ := Z_lt hz
    refine R_lastE (pc := 95) (dc k_A_split 62 rfl) rfl (lb rfl) (Nat.le_trans (lb rfl) hn) hg_25 hg_26 hM_27 ?_
    obtain ⟨l2_28, hl2_28, hz⟩ := Z_lt hz
    refine R_iincE (pc := 96) (L' := [(2, vI l2_28), (5, vJ l5_18), (3, vJ l3_17), (0, vR 74), (1, vI place)]) 4 (dc k_A_split 63 rfl) rfl (lb rfl) hl2_28 rfl ?_
    refine R_goto (pc := 99) 2 (dc k_A_split 64 rfl) rfl ?_
    refine R_sub [3, 4, 0] rfl ?_
    exact hC_7 _ (Z_some hz)

set_option maxRecDepth 20000 in
theorem ct_A_isWhole {E : Nat → Bool} {n : Nat} (hE : ∀ c, 1 ≤ c → c ≤ 80 → E c = true) (hn : 80 ≤ n) {at_ : Int} {M : Mem} {K : Int → Prop} (hz : Z (A_isWhole at_ M) K) : Mt y_A_isWhole (0, 0, n, n, E) E [vR 74, vI at_] M (qP M K) := by
  refine Mt.of (by decide) (lb rfl) (Nat.le_refl _) rfl ?_
  rw [A_isWhole] at hz
  show Rr y_A_isWhole (0, 0, n, n, E) (qP M K) 0 [(0, vR 74), (1, vI at_)] [] E n M
  refine R_iconst (pc := 0) (a := 0) (dc k_A_isWhole 0 rfl) ?_
  refine R_istore_n (pc := 1) (L' := [(2, vI 0), (0, vR 74), (1, vI at_)]) (dc k_A_isWhole 1 rfl) rfl (lb rfl) rfl ?_
  obtain ⟨K_2, hK_3, hz⟩ := Z_cut hz
  have hX_4 : K_2 (.inl ()) → Rr y_A_isWhole (0, 0, n, n, E) (qP M K) 39 [] [] E n M := by
    intro  hk
    have hz := hK_3 _ hk
    refine R_iconst (pc := 39) (a := 1) (dc k_A_isWhole 23 rfl) ?_
    exact R_zret (pc := 40) (dc k_A_isWhole 24 rfl) rfl (Or.inr rfl) rfl rfl ⟨_, rfl, rfl, (Z_some hz)⟩
  refine R_sub [1, 2, 0] rfl ?_
  refine it_R (C := fun aZ : Int => Rr y_A_isWhole (0, 0, n, n, E) (qP M K) 2 [(0, vR 74), (1, vI at_), (2, vI aZ)] [] E n M) (fun l2_1 K_5 hC_6 hB_7 hz => ?_) FUEL 0 hz
  rw [A_isWhole_b2] at hz
  show Rr y_A_isWhole (0, 0, n, n, E) (qP M K) 2 [(0, vR 74), (1, vI at_), (2, vI l2_1)] [] E n M
  refine R_iload_n (pc := 2) 2 (dc k_A_isWhole 2 rfl) rfl rfl ?_
  refine R_aload_n (pc := 3) 0 (dc k_A_isWhole 3 rfl) rfl rfl ?_
  obtain ⟨hg_8, hz⟩ := Z_chk hz
  obtain ⟨t_9, ht_9, hz⟩ := Z_lt hz
  obtain ⟨hq_10, ht_9t⟩ := isTI.at' hg_8 ht_9
  have hnt_9t := qTn ht_9t hn
  have hEt_9t := qTE ht_9t hE
  refine R_getR (pc := 4) (ci := 7) (k := 0) t_9 (dc k_A_isWhole 4 rfl) fl_A_15 rfl (lb rfl) (Nat.le_trans (lb rfl) hn) (Or.inr rfl) hq_10 (qT0 ht_9t) rfl ?_
  refine R_getI (pc := 7) (ci := 1) (k := 6) (dc k_A_isWhole 5 rfl) fl_A_71 (lT ht_9t) (qT1 ht_9t) (qTn_0 hnt_9t) (rT_6 ht_9t) (Or.inl rfl) ?_
  refine R_icmp_ge (pc := 10) 39 (dc k_A_isWhole 6 rfl) rfl (fun hc => ?_) (fun hc => ?_)
  · have hz := Z_neg (show ¬ (n32 l2_1 < n32 (M t_9 6)) from (Int.not_lt.mpr hc)) hz
    refine R_sub [] rfl ?_
    exact hX_4 (hB_7 _ (Z_some hz))
  · have hz := Z_pos (show n32 l2_1 < n32 (M t_9 6) from (Int.not_le.mp hc)) hz
    refine R_aload_n (pc := 13) 0 (dc k_A_isWhole 7 rfl) rfl rfl ?_
    refine R_getS (pc := 14) (ci := 7) (k := 5) 75 (dc k_A_isWhole 8 rfl) fl_A_9 rfl (lb rfl) (Nat.le_trans (lb rfl) hn) (hE 74 (lb rfl) (lb rfl)) rfl (by decide) rfl ?_
    refine R_iload_n (pc := 17) 1 (dc k_A_isWhole 9 rfl) rfl rfl ?_
    refine R_iload_n (pc := 18) 2 (dc k_A_isWhole 10 rfl) rfl rfl ?_
    refine R_iadd (pc := 19) (dc k_A_isWhole 11 rfl) ?_
    obtain ⟨⟨hg_11, hg_12⟩, hz⟩ := Z_chk hz
    refine R_lald (pc := 20) (dc k_A_isWhole 12 rfl) rfl (lb rfl) (Nat.le_trans (lb rfl) hn) hg_11 hg_12 ?_
    refine R_aload_n (pc := 21) 0 (dc k_A_isWhole 13 rfl) rfl rfl ?_
    refine R_getS (pc := 22) (ci := 7) (k := 5) 75 (dc k_A_isWhole 14 rfl) fl_A_9 rfl (lb rfl) (Nat.le_trans (lb rfl) hn) (hE 74 (lb rfl) (lb rfl)) rfl (by decide) rfl ?_
    refine R_iload_n (pc := 25) 2 (dc k_A_isWhole 15 rfl) rfl rfl ?_
    obtain ⟨⟨hg_13, hg_14⟩, hz⟩ := Z_chk hz
    refine R_lald (pc := 26) (dc k_A_isWhole 16 rfl) rfl (lb rfl) (Nat.le_trans (lb rfl) hn) hg_13 hg_14 ?_
    refine R_lcmp (pc := 27) (dc k_A_isWhole 17 rfl) ?_
    refine R_if_eq (pc := 28) 33 (dc k_A_isWhole 18 rfl) rfl (fun hc => ?_) (fun hc => ?_)
    · have hz := Z_neg (show ¬ (¬ n64 (M 75 (Int.toNat (at_ + l2_1))) = n64 (M 75 (Int.toNat l2_1))) from (fun z => z (jcmp_eq.mp hc))) hz
      obtain ⟨l2_15, hl2_15, hz⟩ := Z_lt hz
      refine R_iincE (pc := 33) (L' := [(2, vI l2_15), (0, vR 74), (1, vI at_)]) 2 (dc k_A_isWhole 21 rfl) rfl (lb rfl) hl2_15 rfl ?_
      refine R_goto (pc := 36) 2 (dc k_A_isWhole 22 rfl) rfl ?_
      refine R_sub [1, 2, 0] rfl ?_
      exact hC_6 _ (Z_some hz)
    · have hz := Z_pos (show ¬ n64 (M 75 (Int.toNat (at_ + l2_1))) = n64 (M 75 (Int.toNat l2_1)) from (fun z => hc (jcmp_eq.mpr z))) hz
      refine R_iconst (pc := 31) (a := 0) (dc k_A_isWhole 19 rfl) ?_
      exact R_zret (pc := 32) (dc k_A_isWhole 20 rfl) rfl (Or.inl rfl) rfl rfl ⟨_, rfl, rfl, (Z_some (hK_3 _ (hB_7 _ (Z_some hz))))⟩

set_option maxRecDepth 20000 in
theorem ct_A_eachIsTold {E : Nat → Bool} {n : Nat} (hE : ∀ c, 1 ≤ c → c ≤ 80 → E c = true) (hn : 80 ≤ n) {M : Mem} {K : Int → Prop} (hz : Z (A_eachIsTold M) K) : Mt y_A_eachIsTold (3, 79, n, n, E) E [vR 74] M (qP M K) := by
  refine Mt.of (by decide) (lb rfl) (Nat.le_refl _) rfl ?_
  rw [A_eachIsTold] at hz
  show Rr y_A_eachIsTold (3, 79, n, n, E) (qP M K) 0 [(0, vR 74)] [] E n M
  refine R_iconst (pc := 0) (a := 4) (dc k_A_eachIsTold 0 rfl) ?_
  refine R_istore_n (pc := 1) (L' := [(1, vI 4), (0, vR 74)]) (dc k_A_eachIsTold 1 rfl) rfl (lb rfl) rfl ?_
  obtain ⟨K_2, hK_3, hz⟩ := Z_cut hz
  have hX_4 : K_2 (.inl ()) → Rr y_A_eachIsTold (3, 79, n, n, E) (qP M K) 40 [] [] E n M := by
    intro  hk
    have hz := hK_3 _ hk
    refine R_iconst (pc := 40) (a := 1) (dc k_A_eachIsTold 21 rfl) ?_
    exact R_zret (pc := 41) (dc k_A_eachIsTold 22 rfl) rfl (Or.inr rfl) rfl rfl ⟨_, rfl, rfl, (Z_some hz)⟩
  refine R_sub [1, 0] rfl ?_
  refine it_R (C := fun aZ : Int => Rr y_A_eachIsTold (3, 79, n, n, E) (qP M K) 2 [(0, vR 74), (1, vI aZ)] [] E n M) (fun l1_1 K_5 hC_6 hB_7 hz => ?_) FUEL 4 hz
  rw [A_eachIsTold_b2] at hz
  show Rr y_A_eachIsTold (3, 79, n, n, E) (qP M K) 2 [(0, vR 74), (1, vI l1_1)] [] E n M
  refine R_iload_n (pc := 2) 1 (dc k_A_eachIsTold 2 rfl) rfl rfl ?_
  refine R_bipush (pc := 3) (a := 12) (dc k_A_eachIsTold 3 rfl) (by decide) ?_
  refine R_icmp_gt (pc := 5) 40 (dc k_A_eachIsTold 4 rfl) rfl (fun hc => ?_) (fun hc => ?_)
  · have hz := Z_neg (show ¬ (n32 l1_1 ≤ 12) from (Int.not_le.mpr hc)) hz
    refine R_sub [] rfl ?_
    exact hX_4 (hB_7 _ (Z_some hz))
  · have hz := Z_pos (show n32 l1_1 ≤ 12 from (Int.not_lt.mp hc)) hz
    refine R_aload_n (pc := 8) 0 (dc k_A_eachIsTold 5 rfl) rfl rfl ?_
    refine R_iload_n (pc := 9) 1 (dc k_A_eachIsTold 6 rfl) rfl rfl ?_
    refine R_cVP (pc := 10)  (As := [vI l1_1]) (S := []) ck_A_80 (dc k_A_eachIsTold 7 rfl) ⟨rfl, ⟨_, rfl, rfl⟩, (lb rfl), (Nat.le_trans (lb rfl) hn)⟩ (lb rfl) (lb rfl) (lb rfl) rfl (ct_A_isTold hE hn (Z_bind hz)) (fun r_8 hz => ?_)
    obtain ⟨j_9, hj_10, hz⟩ := Z_jn hz
    have hJ_11 : Z (j_9 ()) K_5 → Rr y_A_eachIsTold (3, 79, n, n, E) (qP M K) 34 [(0, vR 74), (1, vI l1_1)] [] E n M := by
      intro  hk
      have hz := hj_10 _ hk
      obtain ⟨l1_20, hl1_20, hz⟩ := Z_lt hz
      refine R_iincE (pc := 34) (L' := [(1, vI l1_20), (0, vR 74)]) 1 (dc k_A_eachIsTold 19 rfl) rfl (lb rfl) hl1_20 rfl ?_
      refine R_goto (pc := 37) 2 (dc k_A_eachIsTold 20 rfl) rfl ?_
      refine R_sub [1, 0] rfl ?_
      exact hC_6 _ (Z_some hz)
    refine R_if_ne (pc := 13) 34 (dc k_A_eachIsTold 8 rfl) rfl (fun hc => ?_) (fun hc => ?_)
    · have hz := Z_neg (show ¬ (n32 r_8 = 0) from hc) hz
      exact hJ_11 hz
    · have hz := Z_pos (show n32 r_8 = 0 from (Decidable.not_not.mp hc)) hz
      refine R_aload_n (pc := 16) 0 (dc k_A_eachIsTold 9 rfl) rfl rfl ?_
      refine R_iload_n (pc := 17) 1 (dc k_A_eachIsTold 10 rfl) rfl rfl ?_
      refine R_cVP (pc := 18)  (As := [vI l1_1]) (S := []) ck_A_111 (dc k_A_eachIsTold 11 rfl) ⟨rfl, ⟨_, rfl, rfl⟩, (lb rfl), (Nat.le_trans (lb rfl) hn)⟩ (lb rfl) (lb rfl) (lb rfl) rfl (ct_A_isWhole hE hn (Z_bind hz)) (fun r_12 hz => ?_)
      obtain ⟨K_13, hK_14, hz⟩ := Z_cut hz
      have hX_15 : K_13 true → Rr y_A_eachIsTold (3, 79, n, n, E) (qP M K) 32 [(0, vR 74), (1, vI l1_1)] [] E n M := by
        intro hk
        have hz := Z_pos rfl (hK_14 _ hk)
        refine R_iconst (pc := 32) (a := 0) (dc k_A_eachIsTold 17 rfl) ?_
        exact R_zret (pc := 33) (dc k_A_eachIsTold 18 rfl) rfl (Or.inl rfl) rfl rfl ⟨_, rfl, rfl, (Z_some (hK_3 _ (hB_7 _ (Z_some hz))))⟩
      have hY_16 : K_13 false → Rr y_A_eachIsTold (3, 79, n, n, E) (qP M K) 34 [(0, vR 74), (1, vI l1_1)] [] E n M := by
        intro hk
        have hz := Z_neg Bool.false_ne_true (hK_14 _ hk)
        exact hJ_11 hz
      refine R_if_ne (pc := 21) 32 (dc k_A_eachIsTold 12 rfl) rfl (fun hc => ?_) (fun hc => ?_)
      · have hz := Z_neg (show ¬ (n32 r_12 = 0) from hc) hz
        exact hX_15 (Z_some hz)
      · have hz := Z_pos (show n32 r_12 = 0 from (Decidable.not_not.mp hc)) hz
        refine R_aload_n (pc := 24) 0 (dc k_A_eachIsTold 13 rfl) rfl rfl ?_
        refine R_iload_n (pc := 25) 1 (dc k_A_eachIsTold 14 rfl) rfl rfl ?_
        refine R_cVP (pc := 26)  (As := [vI l1_1]) (S := []) ck_A_84 (dc k_A_eachIsTold 15 rfl) ⟨rfl, ⟨_, rfl, rfl⟩, (lb rfl), (Nat.le_trans (lb rfl) hn)⟩ (lb rfl) (lb rfl) (lb rfl) rfl (ct_A_oneIsEnough hE hn (Z_bind hz)) (fun r_18 hz => ?_)
        refine R_if_ne (pc := 29) 34 (dc k_A_eachIsTold 16 rfl) rfl (fun hc => ?_) (fun hc => ?_)
        · have hz := Z_neg (show ¬ (n32 r_18 = 0) from hc) hz
          exact hY_16 (Z_some hz)
        · have hz := Z_pos (show n32 r_18 = 0 from (Decidable.not_not.mp hc)) hz
          exact hX_15 (Z_some hz)

set_option maxRecDepth 20000 in
theorem ct_A_twoAreEnough {E : Nat → Bool} {n : Nat} (hE : ∀ c, 1 ≤ c → c ≤ 80 → E c = true) (hn : 80 ≤ n) {M : Mem} {K : Int × Mem → Prop} (hz : Z (A_twoAreEnough M) K) : Mt y_A_twoAreEnough (4, 100, n, n, E) E [vR 74] M (qM K) := by
  refine Mt.of (by decide) (lb rfl) (Nat.le_refl _) rfl ?_
  rw [A_twoAreEnough] at hz
  show Rr y_A_twoAreEnough (4, 100, n, n, E) (qM K) 0 [(0, vR 74)] [] E n M
  refine R_iconst (pc := 0) (a := 0) (dc k_A_twoAreEnough 0 rfl) ?_
  refine R_istore_n (pc := 1) (L' := [(1, vI 0), (0, vR 74)]) (dc k_A_twoAreEnough 1 rfl) rfl (lb rfl) rfl ?_
  obtain ⟨K_3, hK_4, hz⟩ := Z_cut hz
  have hX_5 : ∀ (M_9 : Mem), K_3 (.inl M_9) → Rr y_A_twoAreEnough (4, 100, n, n, E) (qM K) 56 [] [] E n M_9 := by
    intro M_9 hk
    have hz := hK_4 _ hk
    refine R_iconst (pc := 56) (a := 0) (dc k_A_twoAreEnough 28 rfl) ?_
    exact R_zret (pc := 57) (dc k_A_twoAreEnough 29 rfl) rfl (Or.inl rfl) rfl rfl ⟨_, rfl, (Z_some hz)⟩
  refine R_sub [1, 0] rfl ?_
  refine it_R (C := fun aZ : Int × Mem => Rr y_A_twoAreEnough (4, 100, n, n, E) (qM K) 2 [(0, vR 74), (1, vI aZ.1)] [] E n aZ.2) (fun aZ K_6 hC_7 hB_8 hz => ?_) FUEL (0, M) hz
  obtain ⟨l1_1, M_2⟩ := aZ
  rw [A_twoAreEnough_b2] at hz
  show Rr y_A_twoAreEnough (4, 100, n, n, E) (qM K) 2 [(0, vR 74), (1, vI l1_1)] [] E n M_2
  refine R_iload_n (pc := 2) 1 (dc k_A_twoAreEnough 2 rfl) rfl rfl ?_
  refine R_aload_n (pc := 3) 0 (dc k_A_twoAreEnough 3 rfl) rfl rfl ?_
  obtain ⟨hg_10, hz⟩ := Z_chk hz
  obtain ⟨t_11, ht_11, hz⟩ := Z_lt hz
  obtain ⟨hq_12, ht_11t⟩ := isTI.at' hg_10 ht_11
  have hnt_11t := qTn ht_11t hn
  have hEt_11t := qTE ht_11t hE
  refine R_getR (pc := 4) (ci := 7) (k := 0) t_11 (dc k_A_twoAreEnough 4 rfl) fl_A_15 rfl (lb rfl) (Nat.le_trans (lb rfl) hn) (Or.inr rfl) hq_12 (qT0 ht_11t) rfl ?_
  refine R_getI (pc := 7) (ci := 1) (k := 1) (dc k_A_twoAreEnough 5 rfl) fl_A_23 (lT ht_11t) (qT1 ht_11t) (qTn_0 hnt_11t) (rT_1 ht_11t) (Or.inl rfl) ?_
  refine R_icmp_ge (pc := 10) 56 (dc k_A_twoAreEnough 6 rfl) rfl (fun hc => ?_) (fun hc => ?_)
  · have hz := Z_neg (show ¬ (n32 l1_1 < n32 (M_2 t_11 1)) from (Int.not_lt.mpr hc)) hz
    refine R_sub [] rfl ?_
    exact hX_5 _ (hB_8 _ (Z_some hz))
  · have hz := Z_pos (show n32 l1_1 < n32 (M_2 t_11 1) from (Int.not_le.mp hc)) hz
    refine R_iconst (pc := 13) (a := 0) (dc k_A_twoAreEnough 7 rfl) ?_
    refine R_istore_n (pc := 14) (L' := [(2, vI 0), (0, vR 74), (1, vI l1_1)]) (dc k_A_twoAreEnough 8 rfl) rfl (lb rfl) rfl ?_
    obtain ⟨K_15, hK_16, hz⟩ := Z_cut hz
    have hX_17 : ∀ (M_21 : Mem), K_15 (.inl M_21) → Rr y_A_twoAreEnough (4, 100, n, n, E) (qM K) 50 [(0, vR 74), (1, vI l1_1)] [] E n M_21 := by
      intro M_21 hk
      have hz := hK_16 _ hk
      obtain ⟨l1_31, hl1_31, hz⟩ := Z_lt hz
      refine R_iincE (pc := 50) (L' := [(1, vI l1_31), (0, vR 74)]) 1 (dc k_A_twoAreEnough 26 rfl) rfl (lb rfl) hl1_31 rfl ?_
      refine R_goto (pc := 53) 2 (dc k_A_twoAreEnough 27 rfl) rfl ?_
      refine R_sub [1, 0] rfl ?_
      exact hC_7 _ (Z_some hz)
    refine R_sub [1, 2, 0] rfl ?_
    refine it_R (C := fun aZ : Int × Mem => Rr y_A_twoAreEnough (4, 100, n, n, E) (qM K) 15 [(0, vR 74), (1, vI l1_1), (2, vI aZ.1)] [] E n aZ.2) (fun aZ K_18 hC_19 hB_20 hz => ?_) FUEL (0, M_2) hz
    obtain ⟨l2_13, M_14⟩ := aZ
    rw [A_twoAreEnough_b15] at hz
    show Rr y_A_twoAreEnough (4, 100, n, n, E) (qM K) 15 [(0, vR 74), (1, vI l1_1), (2, vI l2_13)] [] E n M_14
    refine R_iload_n (pc := 15) 2 (dc k_A_twoAreEnough 9 rfl) rfl rfl ?_
    refine R_aload_n (pc := 16) 0 (dc k_A_twoAreEnough 10 rfl) rfl rfl ?_
    obtain ⟨hg_22, hz⟩ := Z_chk hz
    obtain ⟨t_23, ht_23, hz⟩ := Z_lt hz
    obtain ⟨hq_24, ht_23t⟩ := isTI.at' hg_22 ht_23
    have hnt_23t := qTn ht_23t hn
    have hEt_23t := qTE ht_23t hE
    refine R_getR (pc := 17) (ci := 7) (k := 0) t_23 (dc k_A_twoAreEnough 11 rfl) fl_A_15 rfl (lb rfl) (Nat.le_trans (lb rfl) hn) (Or.inr rfl) hq_24 (qT0 ht_23t) rfl ?_
    refine R_getI (pc := 20) (ci := 1) (k := 2) (dc k_A_twoAreEnough 12 rfl) fl_A_28 (lT ht_23t) (qT1 ht_23t) (qTn_0 hnt_23t) (rT_2 ht_23t) (Or.inl rfl) ?_
    refine R_icmp_ge (pc := 23) 50 (dc k_A_twoAreEnough 13 rfl) rfl (fun hc => ?_) (fun hc => ?_)
    · have hz := Z_neg (show ¬ (n32 l2_13 < n32 (M_14 t_23 2)) from (Int.not_lt.mpr hc)) hz
      refine R_sub [0, 1] rfl ?_
      exact hX_17 _ (hB_20 _ (Z_some hz))
    · have hz := Z_pos (show n32 l2_13 < n32 (M_14 t_23 2) from (Int.not_le.mp hc)) hz
      refine R_aload_n (pc := 26) 0 (dc k_A_twoAreEnough 14 rfl) rfl rfl ?_
      refine R_iload_n (pc := 27) 1 (dc k_A_twoAreEnough 15 rfl) rfl rfl ?_
      refine R_iload_n (pc := 28) 2 (dc k_A_twoAreEnough 16 rfl) rfl rfl ?_
      refine R_cSP (pc := 29)  (As := [vI l1_1, vI l2_13]) (S := [vR 74]) ck_A_31 (dc k_A_twoAreEnough 17 rfl) (lb rfl) (lb rfl) (lb rfl) rfl (ct_T_place hE hn (Z_bind hz)) (fun r_25 hz => ?_)
      refine R_cVV (pc := 32)  (As := [vI r_25]) (S := []) ck_A_104 (dc k_A_twoAreEnough 18 rfl) ⟨rfl, ⟨_, rfl, rfl⟩, (lb rfl), (Nat.le_trans (lb rfl) hn)⟩ (lb rfl) (lb rfl) (lb rfl) rfl (ct_A_split hE hn (Z_bind hz)) (fun M_26 hz => ?_)
      refine R_aload_n (pc := 35) 0 (dc k_A_twoAreEnough 19 rfl) rfl rfl ?_
      refine R_cVP (pc := 36)  (As := []) (S := []) ck_A_108 (dc k_A_twoAreEnough 20 rfl) ⟨rfl, ⟨_, rfl, rfl⟩, (lb rfl), (Nat.le_trans (lb rfl) hn)⟩ (lb rfl) (lb rfl) (lb rfl) rfl (ct_A_eachIsTold hE hn (Z_bind hz)) (fun r_27 hz => ?_)
      refine R_if_eq (pc := 39) 44 (dc k_A_twoAreEnough 21 rfl) rfl (fun hc => ?_) (fun hc => ?_)
      · have hz := Z_neg (show ¬ (¬ n32 r_27 = 0) from (fun z => z hc)) hz
        obtain ⟨l2_28, hl2_28, hz⟩ := Z_lt hz
        refine R_iincE (pc := 44) (L' := [(2, vI l2_28), (0, vR 74), (1, vI l1_1)]) 2 (dc k_A_twoAreEnough 24 rfl) rfl (lb rfl) hl2_28 rfl ?_
        refine R_goto (pc := 47) 15 (dc k_A_twoAreEnough 25 rfl) rfl ?_
        refine R_sub [1, 2, 0] rfl ?_
        exact hC_19 _ (Z_some hz)
      · have hz := Z_pos (show ¬ n32 r_27 = 0 from hc) hz
        refine R_iconst (pc := 42) (a := 1) (dc k_A_twoAreEnough 22 rfl) ?_
        exact R_zret (pc := 43) (dc k_A_twoAreEnough 23 rfl) rfl (Or.inr rfl) rfl rfl ⟨_, rfl, (Z_some (hK_4 _ (hB_8 _ (Z_some (hK_16 _ (hB_20 _ (Z_some hz)))))))⟩

set_option maxRecDepth 20000 in
theorem ct_A_countAskings {E : Nat → Bool} {n : Nat} (hE : ∀ c, 1 ≤ c → c ≤ 80 → E c = true) (hn : 80 ≤ n) {tat_ : Nat} {about : Int} (htat_ : isT tat_) {M : Mem} {K : Int × Mem → Prop} (hz : Z (A_countAskings tat_ about M) K) : Mt y_A_countAskings (5, 122, n, n, E) E [vR 74, vR tat_, vR 71, vI about] M (qM K) := by
  refine Mt.of (by decide) (lb rfl) (Nat.le_refl _) rfl ?_
  rw [A_countAskings] at hz
  have hntat_ := qTn htat_ hn
  have hEtat_ := qTE htat_ hE
  show Rr y_A_countAskings (5, 122, n, n, E) (qM K) 0 [(0, vR 74), (1, vR tat_), (2, vR 71), (3, vI about)] [] E n M
  refine R_aload_n (pc := 0) 0 (dc k_A_countAskings 0 rfl) rfl rfl ?_
  refine R_aload_n (pc := 1) 1 (dc k_A_countAskings 1 rfl) rfl rfl ?_
  obtain ⟨M_1, hM_1, hz⟩ := Z_lt hz
  refine R_putRE (pc := 2) (ci := 7) (k := 0) (dc k_A_countAskings 2 rfl) fl_A_15 rfl (lb rfl) (Nat.le_trans (lb rfl) hn) rfl rfl (qT0 htat_) (qTn_0 hntat_) rfl hM_1 ?_
  refine R_aload_n (pc := 5) 0 (dc k_A_countAskings 3 rfl) rfl rfl ?_
  refine R_iload_n (pc := 6) 3 (dc k_A_countAskings 4 rfl) rfl rfl ?_
  refine R_iconst (pc := 7) (a := 4) (dc k_A_countAskings 5 rfl) ?_
  refine R_imul (pc := 8) (dc k_A_countAskings 6 rfl) ?_
  obtain ⟨M_2, hM_2, hz⟩ := Z_lt hz
  refine R_putIE (pc := 9) (ci := 7) (k := 4) (dc k_A_countAskings 7 rfl) fl_A_65 rfl (lb rfl) (Nat.le_trans (lb rfl) hn) rfl rfl rfl hM_2 ?_
  refine R_aload_n (pc := 12) 2 (dc k_A_countAskings 8 rfl) rfl rfl ?_
  refine R_getS (pc := 13) (ci := 6) (k := 4) 73 (dc k_A_countAskings 9 rfl) fl_A_68 rfl (lb rfl) (Nat.le_trans (lb rfl) hn) (hE 71 (lb rfl) (lb rfl)) rfl (by decide) rfl ?_
  refine R_iconst (pc := 16) (a := 0) (dc k_A_countAskings 10 rfl) ?_
  refine R_aload_n (pc := 17) 0 (dc k_A_countAskings 11 rfl) rfl rfl ?_
  refine R_getS (pc := 18) (ci := 7) (k := 5) 75 (dc k_A_countAskings 12 rfl) fl_A_9 rfl (lb rfl) (Nat.le_trans (lb rfl) hn) (hE 74 (lb rfl) (lb rfl)) rfl (by decide) rfl ?_
  refine R_iconst (pc := 21) (a := 0) (dc k_A_countAskings 13 rfl) ?_
  refine R_aload_n (pc := 22) 0 (dc k_A_countAskings 14 rfl) rfl rfl ?_
  obtain ⟨hg_3, hz⟩ := Z_chk hz
  obtain ⟨t_4, ht_4, hz⟩ := Z_lt hz
  obtain ⟨hq_5, ht_4t⟩ := isTI.at' hg_3 ht_4
  have hnt_4t := qTn ht_4t hn
  have hEt_4t := qTE ht_4t hE
  refine R_getR (pc := 23) (ci := 7) (k := 0) t_4 (dc k_A_countAskings 15 rfl) fl_A_15 rfl (lb rfl) (Nat.le_trans (lb rfl) hn) (Or.inr rfl) hq_5 (qT0 ht_4t) rfl ?_
  refine R_getI (pc := 26) (ci := 1) (k := 6) (dc k_A_countAskings 16 rfl) fl_A_71 (lT ht_4t) (qT1 ht_4t) (qTn_0 hnt_4t) (rT_6 ht_4t) (Or.inl rfl) ?_
  obtain ⟨⟨hg_6, hg_7, hg_8, hg_9, hg_10⟩, hz⟩ := Z_chk hz
  obtain ⟨M_11, hM_11, hz⟩ := Z_lt hz
  refine R_copyJE (pc := 29) (S := []) (dc k_A_countAskings 17 rfl) ml_A_74 rfl rfl (lb rfl) (Nat.le_trans (lb rfl) hn) (lb rfl) (Nat.le_trans (lb rfl) hn) hg_6 hg_7 hg_8 hg_9 hg_10 (lb rfl) (lb rfl) hM_11 ?_
  refine R_aload_n (pc := 32) 0 (dc k_A_countAskings 18 rfl) rfl rfl ?_
  refine R_iconst (pc := 33) (a := 0) (dc k_A_countAskings 19 rfl) ?_
  refine R_cVP (pc := 34)  (As := [vI 0]) (S := []) ck_A_80 (dc k_A_countAskings 20 rfl) ⟨rfl, ⟨_, rfl, rfl⟩, (lb rfl), (Nat.le_trans (lb rfl) hn)⟩ (lb rfl) (lb rfl) (lb rfl) rfl (ct_A_isTold hE hn (Z_bind hz)) (fun r_12 hz => ?_)
  refine R_if_eq (pc := 37) 42 (dc k_A_countAskings 21 rfl) rfl (fun hc => ?_) (fun hc => ?_)
  · have hz := Z_neg (show ¬ (¬ n32 r_12 = 0) from (fun z => z hc)) hz
    refine R_aload_n (pc := 42) 0 (dc k_A_countAskings 24 rfl) rfl rfl ?_
    refine R_iconst (pc := 43) (a := 0) (dc k_A_countAskings 25 rfl) ?_
    refine R_cVP (pc := 44)  (As := [vI 0]) (S := []) ck_A_84 (dc k_A_countAskings 26 rfl) ⟨rfl, ⟨_, rfl, rfl⟩, (lb rfl), (Nat.le_trans (lb rfl) hn)⟩ (lb rfl) (lb rfl) (lb rfl) rfl (ct_A_oneIsEnough hE hn (Z_bind hz)) (fun r_13 hz => ?_)
    refine R_if_eq (pc := 47) 52 (dc k_A_countAskings 27 rfl) rfl (fun hc => ?_) (fun hc => ?_)
    · have hz := Z_neg (show ¬ (¬ n32 r_13 = 0) from (fun z => z hc)) hz
      refine R_aload_n (pc := 52) 0 (dc k_A_countAskings 30 rfl) rfl rfl ?_
      refine R_cVM (pc := 53)  (As := []) (S := []) ck_A_87 (dc k_A_countAskings 31 rfl) ⟨rfl, ⟨_, rfl, rfl⟩, (lb rfl), (Nat.le_trans (lb rfl) hn)⟩ (lb rfl) (lb rfl) (lb rfl) rfl (ct_A_twoAreEnough hE hn (Z_bind hz)) (fun r_14 M_15 hz => ?_)
      refine R_if_eq (pc := 56) 63 (dc k_A_countAskings 32 rfl) rfl (fun hc => ?_) (fun hc => ?_)
      · have hz := Z_neg (show ¬ (¬ n32 r_14 = 0) from (fun z => z hc)) hz
        refine R_iconst (pc := 63) (a := (-1)) (dc k_A_countAskings 35 rfl) ?_
        exact R_iret (pc := 64) (dc k_A_countAskings 36 rfl) rfl rfl rfl ⟨_, rfl, (Z_some hz)⟩
      · have hz := Z_pos (show ¬ n32 r_14 = 0 from hc) hz
        refine R_iconst (pc := 59) (a := 2) (dc k_A_countAskings 33 rfl) ?_
        refine R_goto (pc := 60) 64 (dc k_A_countAskings 34 rfl) rfl ?_
        exact R_iret (pc := 64) (dc k_A_countAskings 36 rfl) rfl rfl rfl ⟨_, rfl, (Z_some hz)⟩
    · have hz := Z_pos (show ¬ n32 r_13 = 0 from hc) hz
      refine R_iconst (pc := 50) (a := 1) (dc k_A_countAskings 28 rfl) ?_
      exact R_iret (pc := 51) (dc k_A_countAskings 29 rfl) rfl rfl rfl ⟨_, rfl, (Z_some hz)⟩
  · have hz := Z_pos (show ¬ n32 r_12 = 0 from hc) hz
    refine R_iconst (pc := 40) (a := 0) (dc k_A_countAskings 22 rfl) ?_
    exact R_iret (pc := 41) (dc k_A_countAskings 23 rfl) rfl rfl rfl ⟨_, rfl, (Z_some hz)⟩

set_option maxRecDepth 20000 in
theorem ct_X_askings {E : Nat → Bool} {n : Nat} (hE : ∀ c, 1 ≤ c → c ≤ 80 → E c = true) (hn : 80 ≤ n) {row : Int} {k : Int} {M : Mem} {K : Int × Mem → Prop} (hz : Z (X_askings row k M) K) : Mt y_X_askings (6, 145, n, n, E) E [vR 1, vI row, vI k] M (qM K) := by
  refine Mt.of (by decide) (lb rfl) (Nat.le_refl _) rfl ?_
  rw [X_askings] at hz
  show Rr y_X_askings (6, 145, n, n, E) (qM K) 0 [(0, vR 1), (1, vI row), (2, vI k)] [] E n M
  refine R_aload_n (pc := 0) 0 (dc k_X_askings 0 rfl) rfl rfl ?_
  refine R_getS (pc := 1) (ci := 0) (k := 7) 71 (dc k_X_askings 1 rfl) fl_X_46 rfl (lb rfl) (Nat.le_trans (lb rfl) hn) (hE 1 (lb rfl) (lb rfl)) rfl (by decide) rfl ?_
  refine R_aload_n (pc := 4) 0 (dc k_X_askings 2 rfl) rfl rfl ?_
  obtain ⟨hg_1, hz⟩ := Z_chk hz
  obtain ⟨t_2, ht_2, hz⟩ := Z_lt hz
  obtain ⟨hq_3, ht_2t⟩ := isTI.at' hg_1 ht_2
  have hnt_2t := qTn ht_2t hn
  have hEt_2t := qTE ht_2t hE
  refine R_getR (pc := 5) (ci := 0) (k := 2) t_2 (dc k_X_askings 3 rfl) fl_X_16 rfl (lb rfl) (Nat.le_trans (lb rfl) hn) (Or.inr rfl) hq_3 (qT0 ht_2t) rfl ?_
  refine R_aload_n (pc := 8) 0 (dc k_X_askings 4 rfl) rfl rfl ?_
  refine R_getS (pc := 9) (ci := 0) (k := 5) 42 (dc k_X_askings 5 rfl) fl_X_35 rfl (lb rfl) (Nat.le_trans (lb rfl) hn) (hE 1 (lb rfl) (lb rfl)) rfl (by decide) rfl ?_
  refine R_iload_n (pc := 12) 2 (dc k_X_askings 6 rfl) rfl rfl ?_
  refine R_cVV (pc := 13)  (As := [vR t_2, vR 42, vI k]) (S := []) ck_X_161 (dc k_X_askings 7 rfl) ⟨rfl, ⟨_, rfl, rfl⟩, (lb rfl), (Nat.le_trans (lb rfl) hn)⟩ (lb rfl) (lb rfl) (lb rfl) rfl (ct_W_look hE hn ht_2t (Z_bind hz)) (fun M_4 hz => ?_)
  refine R_aload_n (pc := 16) 0 (dc k_X_askings 8 rfl) rfl rfl ?_
  obtain ⟨hg_5, hz⟩ := Z_chk hz
  obtain ⟨t_6, ht_6, hz⟩ := Z_lt hz
  obtain ⟨hq_7, ht_6t⟩ := isTI.at' hg_5 ht_6
  have hnt_6t := qTn ht_6t hn
  have hEt_6t := qTE ht_6t hE
  refine R_getR (pc := 17) (ci := 0) (k := 2) t_6 (dc k_X_askings 9 rfl) fl_X_16 rfl (lb rfl) (Nat.le_trans (lb rfl) hn) (Or.inr rfl) hq_7 (qT0 ht_6t) rfl ?_
  refine R_iload_n (pc := 20) 1 (dc k_X_askings 10 rfl) rfl rfl ?_
  refine R_cVP (pc := 21)  (As := [vI row]) (S := []) ck_X_143 (dc k_X_askings 11 rfl) ⟨(lT ht_6t), ⟨_, rfl, rfl⟩, (qT1 ht_6t), (qTn_0 hnt_6t)⟩ (lb rfl) (lb rfl) (lb rfl) rfl (ct_T_hasRow hE hn ht_6t (Z_bind hz)) (fun r_8 hz => ?_)
  have hX_11 : ((n32 r_8 = 0) ∨ (n32 (M_4 71 5) = 0)) → Rr y_X_askings (6, 145, n, n, E) (qM K) 37 [(0, vR 1), (1, vI row), (2, vI k)] [] E n M_4 := by
    intro hc
    have hz := Z_pos hc hz
    refine R_bipush (pc := 37) (a := (-2)) (dc k_X_askings 17 rfl) (by decide) ?_
    exact R_iret (pc := 39) (dc k_X_askings 18 rfl) rfl rfl rfl ⟨_, rfl, (Z_some hz)⟩
  have hY_12 : ¬ ((n32 r_8 = 0) ∨ (n32 (M_4 71 5) = 0)) → Rr y_X_askings (6, 145, n, n, E) (qM K) 40 [(0, vR 1), (1, vI row), (2, vI k)] [] E n M_4 := by
    intro hc
    have hz := Z_neg hc hz
    refine R_aload_n (pc := 40) 0 (dc k_X_askings 19 rfl) rfl rfl ?_
    refine R_getS (pc := 41) (ci := 0) (k := 8) 74 (dc k_X_askings 20 rfl) fl_X_53 rfl (lb rfl) (Nat.le_trans (lb rfl) hn) (hE 1 (lb rfl) (lb rfl)) rfl (by decide) rfl ?_
    refine R_aload_n (pc := 44) 0 (dc k_X_askings 21 rfl) rfl rfl ?_
    refine R_getR (pc := 45) (ci := 0) (k := 2) t_6 (dc k_X_askings 22 rfl) fl_X_16 rfl (lb rfl) (Nat.le_trans (lb rfl) hn) (Or.inr rfl) hq_7 (qT0 ht_6t) rfl ?_
    refine R_aload_n (pc := 48) 0 (dc k_X_askings 23 rfl) rfl rfl ?_
    refine R_getS (pc := 49) (ci := 0) (k := 7) 71 (dc k_X_askings 24 rfl) fl_X_46 rfl (lb rfl) (Nat.le_trans (lb rfl) hn) (hE 1 (lb rfl) (lb rfl)) rfl (by decide) rfl ?_
    refine R_iload_n (pc := 52) 1 (dc k_X_askings 25 rfl) rfl rfl ?_
    refine R_cVM (pc := 53)  (As := [vR t_6, vR 71, vI row]) (S := []) ck_X_206 (dc k_X_askings 26 rfl) ⟨rfl, ⟨_, rfl, rfl⟩, (lb rfl), (Nat.le_trans (lb rfl) hn)⟩ (lb rfl) (lb rfl) (lb rfl) rfl (ct_A_countAskings hE hn ht_6t (Z_bind hz)) (fun r_9 M_10 hz => ?_)
    exact R_iret (pc := 56) (dc k_X_askings 27 rfl) rfl rfl rfl ⟨_, rfl, (Z_some hz)⟩
  refine R_if_eq (pc := 24) 37 (dc k_X_askings 12 rfl) rfl (fun hc => ?_) (fun hc => ?_)
  · have hc_13 : n32 r_8 = 0 := hc
    exact hX_11 (Or.inl hc_13)
  · have hc_14 : ¬ n32 r_8 = 0 := hc
    refine R_aload_n (pc := 27) 0 (dc k_X_askings 13 rfl) rfl rfl ?_
    refine R_getS (pc := 28) (ci := 0) (k := 7) 71 (dc k_X_askings 14 rfl) fl_X_46 rfl (lb rfl) (Nat.le_trans (lb rfl) hn) (hE 1 (lb rfl) (lb rfl)) rfl (by decide) rfl ?_
    refine R_getI (pc := 31) (ci := 6) (k := 5) (dc k_X_askings 15 rfl) fl_X_165 rfl (lb rfl) (Nat.le_trans (lb rfl) hn) rfl (Or.inl rfl) ?_
    refine R_if_ne (pc := 34) 40 (dc k_X_askings 16 rfl) rfl (fun hc => ?_) (fun hc => ?_)
    · have hc_15 : ¬ n32 (M_4 71 5) = 0 := hc
      exact hY_12 (fun z => z.elim hc_14 hc_15)
    · have hc_16 : n32 (M_4 71 5) = 0 := (Decidable.not_not.mp hc)
      exact hX_11 (Or.inr hc_16)

set_option maxRecDepth 20000 in
theorem ct_T_fooled {E : Nat → Bool} {n : Nat} (hE : ∀ c, 1 ≤ c → c ≤ 80 → E c = true) (hn : 80 ≤ n) {t : Nat} {liars : Int} {row : Int} {world : Int} (ht : isT t) {M : Mem} {K : Int → Prop} (hz : Z (T_fooled t liars row world M) K) : Mt y_T_fooled (2, 46, n, n, E) E [vR t, vI liars, vI row, vI world] M (qP M K) := by
  refine Mt.of (by decide) (lb rfl) (Nat.le_refl _) rfl ?_
  rw [T_fooled] at hz
  have hnt := qTn ht hn
  have hEt := qTE ht hE
  show Rr y_T_fooled (2, 46, n, n, E) (qP M K) 0 [(0, vR t), (1, vI liars), (2, vI row), (3, vI world)] [] E n M
  refine R_iconst (pc := 0) (a := 0) (dc k_T_fooled 0 rfl) ?_
  refine R_istore (pc := 1) (L' := [(4, vI 0), (0, vR t), (1, vI liars), (2, vI row), (3, vI world)]) (dc k_T_fooled 1 rfl) (lb rfl) rfl ?_
  refine R_iconst (pc := 3) (a := 0) (dc k_T_fooled 2 rfl) ?_
  refine R_istore (pc := 4) (L' := [(5, vI 0), (4, vI 0), (0, vR t), (1, vI liars), (2, vI row), (3, vI world)]) (dc k_T_fooled 3 rfl) (lb rfl) rfl ?_
  obtain ⟨K_3, hK_4, hz⟩ := Z_cut hz
  have hX_5 : ∀ (l4_9 : Int), K_3 l4_9 → Rr y_T_fooled (2, 46, n, n, E) (qP M K) 44 [(4, vI l4_9)] [] E n M := by
    intro l4_9 hk
    have hz := hK_4 _ hk
    refine R_iload (pc := 44) 0 (dc k_T_fooled 21 rfl) rfl ?_
    exact R_iret (pc := 46) (dc k_T_fooled 22 rfl) rfl rfl rfl ⟨_, rfl, rfl, (Z_some hz)⟩
  refine R_sub [2, 3, 4, 5, 1, 0] rfl ?_
  refine it_R (C := fun aZ : Int × Int => Rr y_T_fooled (2, 46, n, n, E) (qP M K) 6 [(0, vR t), (1, vI liars), (2, vI row), (3, vI world), (4, vI aZ.1), (5, vI aZ.2)] [] E n M) (fun aZ K_6 hC_7 hB_8 hz => ?_) FUEL (0, 0) hz
  obtain ⟨l4_1, l5_2⟩ := aZ
  rw [T_fooled_b6] at hz
  show Rr y_T_fooled (2, 46, n, n, E) (qP M K) 6 [(0, vR t), (1, vI liars), (2, vI row), (3, vI world), (4, vI l4_1), (5, vI l5_2)] [] E n M
  refine R_iload (pc := 6) 5 (dc k_T_fooled 4 rfl) rfl ?_
  refine R_aload_n (pc := 8) 0 (dc k_T_fooled 5 rfl) rfl rfl ?_
  refine R_getI (pc := 9) (ci := 1) (k := 1) (dc k_T_fooled 6 rfl) fl_T_53 (lT ht) (qT1 ht) (qTn_0 hnt) (rT_1 ht) (Or.inl rfl) ?_
  refine R_icmp_ge (pc := 12) 44 (dc k_T_fooled 7 rfl) rfl (fun hc => ?_) (fun hc => ?_)
  · have hz := Z_neg (show ¬ (n32 l5_2 < n32 (M t 1)) from (Int.not_lt.mpr hc)) hz
    refine R_sub [4] rfl ?_
    exact hX_5 _ (hB_8 _ (Z_some hz))
  · have hz := Z_pos (show n32 l5_2 < n32 (M t 1) from (Int.not_le.mp hc)) hz
    refine R_iload_n (pc := 15) 1 (dc k_T_fooled 8 rfl) rfl rfl ?_
    refine R_iload (pc := 16) 5 (dc k_T_fooled 9 rfl) rfl ?_
    refine R_cSP (pc := 18)  (As := [vI liars, vI l5_2]) (S := []) ck_T_94 (dc k_T_fooled 10 rfl) (lb rfl) (lb rfl) (lb rfl) rfl (ct_X_hasBit hE hn (Z_bind hz)) (fun r_10 hz => ?_)
    obtain ⟨K_12, hK_13, hz⟩ := Z_cut hz
    have hJ_14 : ∀ (l4_11 : Int), K_12 l4_11 → Rr y_T_fooled (2, 46, n, n, E) (qP M K) 38 [(0, vR t), (1, vI liars), (2, vI row), (3, vI world), (4, vI l4_11), (5, vI l5_2)] [] E n M := by
      intro l4_11 hk
      have hz := hK_13 _ hk
      obtain ⟨l5_22, hl5_22, hz⟩ := Z_lt hz
      refine R_iincE (pc := 38) (L' := [(5, vI l5_22), (0, vR t), (1, vI liars), (2, vI row), (3, vI world), (4, vI l4_11)]) 5 (dc k_T_fooled 19 rfl) rfl (lb rfl) hl5_22 rfl ?_
      refine R_goto (pc := 41) 6 (dc k_T_fooled 20 rfl) rfl ?_
      refine R_sub [1, 2, 3, 4, 5, 0] rfl ?_
      exact hC_7 _ (Z_some hz)
    obtain ⟨K_15, hK_16, hz⟩ := Z_cut hz
    have hX_17 : K_15 true → Rr y_T_fooled (2, 46, n, n, E) (qP M K) 35 [(0, vR t), (1, vI liars), (2, vI row), (3, vI world), (4, vI l4_1), (5, vI l5_2)] [] E n M := by
      intro hk
      have hz := Z_pos rfl (hK_16 _ hk)
      obtain ⟨l4_21, hl4_21, hz⟩ := Z_lt hz
      refine R_iincE (pc := 35) (L' := [(4, vI l4_21), (0, vR t), (1, vI liars), (2, vI row), (3, vI world), (5, vI l5_2)]) 4 (dc k_T_fooled 18 rfl) rfl (lb rfl) hl4_21 rfl ?_
      refine R_sub [1, 2, 3, 4, 0, 5] rfl ?_
      exact hJ_14 _ (Z_some hz)
    have hY_18 : K_15 false → Rr y_T_fooled (2, 46, n, n, E) (qP M K) 38 [(0, vR t), (1, vI liars), (2, vI row), (3, vI world), (4, vI l4_1), (5, vI l5_2)] [] E n M := by
      intro hk
      have hz := Z_neg Bool.false_ne_true (hK_16 _ hk)
      exact hJ_14 _ (Z_some hz)
    refine R_if_ne (pc := 21) 38 (dc k_T_fooled 11 rfl) rfl (fun hc => ?_) (fun hc => ?_)
    · have hz := Z_neg (show ¬ (n32 r_10 = 0) from hc) hz
      exact hY_18 (Z_some hz)
    · have hz := Z_pos (show n32 r_10 = 0 from (Decidable.not_not.mp hc)) hz
      refine R_aload_n (pc := 24) 0 (dc k_T_fooled 12 rfl) rfl rfl ?_
      refine R_iload (pc := 25) 5 (dc k_T_fooled 13 rfl) rfl ?_
      refine R_iload_n (pc := 27) 2 (dc k_T_fooled 14 rfl) rfl rfl ?_
      refine R_iload_n (pc := 28) 3 (dc k_T_fooled 15 rfl) rfl rfl ?_
      refine R_cVP (pc := 29)  (As := [vI l5_2, vI row, vI world]) (S := []) ck_T_90 (dc k_T_fooled 16 rfl) ⟨(lT ht), ⟨_, rfl, rfl⟩, (qT1 ht), (qTn_0 hnt)⟩ (lb rfl) (lb rfl) (lb rfl) rfl (ct_T_answer hE hn ht (Z_bind hz)) (fun r_20 hz => ?_)
      refine R_if_eq (pc := 32) 38 (dc k_T_fooled 17 rfl) rfl (fun hc => ?_) (fun hc => ?_)
      · have hz := Z_neg (show ¬ (¬ n32 r_20 = 0) from (fun z => z hc)) hz
        exact hY_18 (Z_some hz)
      · have hz := Z_pos (show ¬ n32 r_20 = 0 from hc) hz
        exact hX_17 (Z_some hz)

set_option maxRecDepth 20000 in
theorem ct_X_lasts {E : Nat → Bool} {n : Nat} (hE : ∀ c, 1 ≤ c → c ≤ 80 → E c = true) (hn : 80 ≤ n) {a : Int} {b : Int} {row : Int} {world : Int} {M : Mem} {K : Int → Prop} (hz : Z (X_lasts a b row world M) K) : Mt y_X_lasts (3, 71, n, n, E) E [vR 1, vI a, vI b, vI row, vI world] M (qP M K) := by
  refine Mt.of (by decide) (lb rfl) (Nat.le_refl _) rfl ?_
  rw [X_lasts] at hz
  show Rr y_X_lasts (3, 71, n, n, E) (qP M K) 0 [(0, vR 1), (1, vI a), (2, vI b), (3, vI row), (4, vI world)] [] E n M
  refine R_aload_n (pc := 0) 0 (dc k_X_lasts 0 rfl) rfl rfl ?_
  obtain ⟨hg_1, hz⟩ := Z_chk hz
  obtain ⟨t_2, ht_2, hz⟩ := Z_lt hz
  obtain ⟨hq_3, ht_2t⟩ := isTI.at' hg_1 ht_2
  have hnt_2t := qTn ht_2t hn
  have hEt_2t := qTE ht_2t hE
  refine R_getR (pc := 1) (ci := 0) (k := 2) t_2 (dc k_X_lasts 1 rfl) fl_X_16 rfl (lb rfl) (Nat.le_trans (lb rfl) hn) (Or.inr rfl) hq_3 (qT0 ht_2t) rfl ?_
  refine R_iload_n (pc := 4) 1 (dc k_X_lasts 2 rfl) rfl rfl ?_
  refine R_cVP (pc := 5)  (As := [vI a]) (S := []) ck_X_120 (dc k_X_lasts 3 rfl) ⟨(lT ht_2t), ⟨_, rfl, rfl⟩, (qT1 ht_2t), (qTn_0 hnt_2t)⟩ (lb rfl) (lb rfl) (lb rfl) rfl (ct_T_hasPerson hE hn ht_2t (Z_bind hz)) (fun r_4 hz => ?_)
  obtain ⟨K_6, hK_7, hz⟩ := Z_cut hz
  have hJ_8 : ∀ (v_5 : Int), K_6 v_5 → Rr y_X_lasts (3, 71, n, n, E) (qP M K) 32 [(0, vR 1), (1, vI a), (2, vI b), (3, vI row), (4, vI world)] [vI v_5] E n M := by
    intro v_5 hk
    have hz := hK_7 _ hk
    refine R_istore (pc := 32) (L' := [(5, vI v_5), (0, vR 1), (1, vI a), (2, vI b), (3, vI row), (4, vI world)]) (dc k_X_lasts 16 rfl) (lb rfl) rfl ?_
    refine R_iload (pc := 34) 0 (dc k_X_lasts 17 rfl) rfl ?_
    obtain ⟨K_15, hK_16, hz⟩ := Z_cut hz
    have hX_17 : K_15 true → Rr y_X_lasts (3, 71, n, n, E) (qP M K) 65 [(5, vI v_5), (0, vR 1), (1, vI a), (2, vI b), (3, vI row), (4, vI world)] [] E n M := by
      intro hk
      have hz := Z_pos rfl (hK_16 _ hk)
      refine R_iconst (pc := 65) (a := (-1)) (dc k_X_lasts 31 rfl) ?_
      exact R_iret (pc := 66) (dc k_X_lasts 32 rfl) rfl rfl rfl ⟨_, rfl, rfl, (Z_some hz)⟩
    have hY_18 : K_15 false → Rr y_X_lasts (3, 71, n, n, E) (qP M K) 67 [(5, vI v_5), (0, vR 1), (1, vI a), (2, vI b), (3, vI row), (4, vI world)] [] E n M := by
      intro hk
      have hz := Z_neg Bool.false_ne_true (hK_16 _ hk)
      refine R_aload_n (pc := 67) 1 (dc k_X_lasts 33 rfl) rfl rfl ?_
      refine R_getR (pc := 68) (ci := 0) (k := 2) t_2 (dc k_X_lasts 34 rfl) fl_X_16 rfl (lb rfl) (Nat.le_trans (lb rfl) hn) (Or.inr rfl) hq_3 (qT0 ht_2t) rfl ?_
      refine R_iconst (pc := 71) (a := 1) (dc k_X_lasts 35 rfl) ?_
      refine R_iload_n (pc := 72) 2 (dc k_X_lasts 36 rfl) rfl rfl ?_
      refine R_ishl (pc := 73) (dc k_X_lasts 37 rfl) ?_
      refine R_iconst (pc := 74) (a := 1) (dc k_X_lasts 38 rfl) ?_
      refine R_iload_n (pc := 75) 3 (dc k_X_lasts 39 rfl) rfl rfl ?_
      refine R_ishl (pc := 76) (dc k_X_lasts 40 rfl) ?_
      refine R_ior (pc := 77) (dc k_X_lasts 41 rfl) ?_
      refine R_iload_n (pc := 78) 4 (dc k_X_lasts 42 rfl) rfl rfl ?_
      refine R_iload (pc := 79) 5 (dc k_X_lasts 43 rfl) rfl ?_
      refine R_cVP (pc := 81)  (As := [vI (ior' (ishl 1 a) (ishl 1 b)), vI row, vI world]) (S := []) ck_X_210 (dc k_X_lasts 44 rfl) ⟨(lT ht_2t), ⟨_, rfl, rfl⟩, (qT1 ht_2t), (qTn_0 hnt_2t)⟩ (lb rfl) (lb rfl) (lb rfl) rfl (ct_T_fooled hE hn ht_2t (Z_bind hz)) (fun r_22 hz => ?_)
      exact R_iret (pc := 84) (dc k_X_lasts 45 rfl) rfl rfl rfl ⟨_, rfl, rfl, (Z_some hz)⟩
    refine R_if_eq (pc := 36) 65 (dc k_X_lasts 18 rfl) rfl (fun hc => ?_) (fun hc => ?_)
    · have hz := Z_neg (show ¬ (¬ n32 v_5 = 0) from (fun z => z hc)) hz
      exact hX_17 (Z_some hz)
    · have hz := Z_pos (show ¬ n32 v_5 = 0 from hc) hz
      refine R_aload_n (pc := 39) 1 (dc k_X_lasts 19 rfl) rfl rfl ?_
      refine R_getR (pc := 40) (ci := 0) (k := 2) t_2 (dc k_X_lasts 20 rfl) fl_X_16 rfl (lb rfl) (Nat.le_trans (lb rfl) hn) (Or.inr rfl) hq_3 (qT0 ht_2t) rfl ?_
      refine R_iload_n (pc := 43) 4 (dc k_X_lasts 21 rfl) rfl rfl ?_
      refine R_iload (pc := 44) 5 (dc k_X_lasts 22 rfl) rfl ?_
      refine R_cVP (pc := 46)  (As := [vI row, vI world]) (S := []) ck_X_113 (dc k_X_lasts 23 rfl) ⟨(lT ht_2t), ⟨_, rfl, rfl⟩, (qT1 ht_2t), (qTn_0 hnt_2t)⟩ (lb rfl) (lb rfl) (lb rfl) rfl (ct_T_canBe hE hn ht_2t (Z_bind hz)) (fun r_20 hz => ?_)
      refine R_if_eq (pc := 49) 65 (dc k_X_lasts 24 rfl) rfl (fun hc => ?_) (fun hc => ?_)
      · have hz := Z_neg (show ¬ (¬ n32 r_20 = 0) from (fun z => z hc)) hz
        exact hX_17 (Z_some hz)
      · have hz := Z_pos (show ¬ n32 r_20 = 0 from hc) hz
        refine R_aload_n (pc := 52) 1 (dc k_X_lasts 25 rfl) rfl rfl ?_
        refine R_getR (pc := 53) (ci := 0) (k := 2) t_2 (dc k_X_lasts 26 rfl) fl_X_16 rfl (lb rfl) (Nat.le_trans (lb rfl) hn) (Or.inr rfl) hq_3 (qT0 ht_2t) rfl ?_
        refine R_iload_n (pc := 56) 4 (dc k_X_lasts 27 rfl) rfl rfl ?_
        refine R_iload (pc := 57) 5 (dc k_X_lasts 28 rfl) rfl ?_
        refine R_cVP (pc := 59)  (As := [vI row, vI world]) (S := []) ck_X_117 (dc k_X_lasts 29 rfl) ⟨(lT ht_2t), ⟨_, rfl, rfl⟩, (qT1 ht_2t), (qTn_0 hnt_2t)⟩ (lb rfl) (lb rfl) (lb rfl) rfl (ct_T_isSo hE hn ht_2t (Z_bind hz)) (fun r_21 hz => ?_)
        refine R_if_eq (pc := 62) 67 (dc k_X_lasts 30 rfl) rfl (fun hc => ?_) (fun hc => ?_)
        · have hz := Z_neg (show ¬ (¬ n32 r_21 = 0) from (fun z => z hc)) hz
          exact hY_18 (Z_some hz)
        · have hz := Z_pos (show ¬ n32 r_21 = 0 from hc) hz
          exact hX_17 (Z_some hz)
  obtain ⟨K_9, hK_10, hz⟩ := Z_cut hz
  have hX_11 : K_9 true → Rr y_X_lasts (3, 71, n, n, E) (qP M K) 27 [(0, vR 1), (1, vI a), (2, vI b), (3, vI row), (4, vI world)] [] E n M := by
    intro hk
    have hz := Z_pos rfl (hK_10 _ hk)
    refine R_iconst (pc := 27) (a := 1) (dc k_X_lasts 13 rfl) ?_
    refine R_goto (pc := 28) 32 (dc k_X_lasts 14 rfl) rfl ?_
    exact hJ_8 _ (Z_some hz)
  have hY_12 : K_9 false → Rr y_X_lasts (3, 71, n, n, E) (qP M K) 31 [(0, vR 1), (1, vI a), (2, vI b), (3, vI row), (4, vI world)] [] E n M := by
    intro hk
    have hz := Z_neg Bool.false_ne_true (hK_10 _ hk)
    refine R_iconst (pc := 31) (a := 0) (dc k_X_lasts 15 rfl) ?_
    exact hJ_8 _ (Z_some hz)
  refine R_if_eq (pc := 8) 31 (dc k_X_lasts 4 rfl) rfl (fun hc => ?_) (fun hc => ?_)
  · have hz := Z_neg (show ¬ (¬ n32 r_4 = 0) from (fun z => z hc)) hz
    exact hY_12 (Z_some hz)
  · have hz := Z_pos (show ¬ n32 r_4 = 0 from hc) hz
    refine R_aload_n (pc := 11) 0 (dc k_X_lasts 5 rfl) rfl rfl ?_
    refine R_getR (pc := 12) (ci := 0) (k := 2) t_2 (dc k_X_lasts 6 rfl) fl_X_16 rfl (lb rfl) (Nat.le_trans (lb rfl) hn) (Or.inr rfl) hq_3 (qT0 ht_2t) rfl ?_
    refine R_iload_n (pc := 15) 2 (dc k_X_lasts 7 rfl) rfl rfl ?_
    refine R_cVP (pc := 16)  (As := [vI b]) (S := []) ck_X_120 (dc k_X_lasts 8 rfl) ⟨(lT ht_2t), ⟨_, rfl, rfl⟩, (qT1 ht_2t), (qTn_0 hnt_2t)⟩ (lb rfl) (lb rfl) (lb rfl) rfl (ct_T_hasPerson hE hn ht_2t (Z_bind hz)) (fun r_14 hz => ?_)
    refine R_if_eq (pc := 19) 31 (dc k_X_lasts 9 rfl) rfl (fun hc => ?_) (fun hc => ?_)
    · have hz := Z_neg (show ¬ (¬ n32 r_14 = 0) from (fun z => z hc)) hz
      exact hY_12 (Z_some hz)
    · have hz := Z_pos (show ¬ n32 r_14 = 0 from hc) hz
      refine R_iload_n (pc := 22) 1 (dc k_X_lasts 10 rfl) rfl rfl ?_
      refine R_iload_n (pc := 23) 2 (dc k_X_lasts 11 rfl) rfl rfl ?_
      refine R_icmp_eq (pc := 24) 31 (dc k_X_lasts 12 rfl) rfl (fun hc => ?_) (fun hc => ?_)
      · have hz := Z_neg (show ¬ (¬ n32 a = n32 b) from (fun z => z hc)) hz
        exact hY_12 (Z_some hz)
      · have hz := Z_pos (show ¬ n32 a = n32 b from hc) hz
        exact hX_11 (Z_some hz)

set_option maxRecDepth 20000 in
theorem ct_T_pairOf {E : Nat → Bool} {n : Nat} (hE : ∀ c, 1 ≤ c → c ≤ 80 → E c = true) (hn : 80 ≤ n) {t : Nat} {tie : Int} (ht : isT t) {M : Mem} {K : Int → Prop} (hz : Z (T_pairOf t tie M) K) : Mt y_T_pairOf (0, 0, n, n, E) E [vR t, vI tie] M (qP M K) := by
  refine Mt.of (by decide) (lb rfl) (Nat.le_refl _) rfl ?_
  rw [T_pairOf] at hz
  have hnt := qTn ht hn
  have hEt := qTE ht hE
  show Rr y_T_pairOf (0, 0, n, n, E) (qP M K) 0 [(0, vR t), (1, vI tie)] [] E n M
  refine R_iconst (pc := 0) (a := 1) (dc k_T_pairOf 0 rfl) ?_
  refine R_aload_n (pc := 1) 0 (dc k_T_pairOf 1 rfl) rfl rfl ?_
  refine R_getS (pc := 2) (ci := 1) (k := 11) (t + 4) (dc k_T_pairOf 2 rfl) fl_T_21 (lT ht) (qT1 ht) (qTn_0 hnt) hEt (rT_11 ht) (Nat.succ_ne_zero _) rfl ?_
  refine R_iload_n (pc := 5) 1 (dc k_T_pairOf 3 rfl) rfl rfl ?_
  obtain ⟨⟨hg_1, hg_2⟩, hz⟩ := Z_chk hz
  refine R_iald (pc := 6) (dc k_T_pairOf 4 rfl) (lT_4 ht) (Nat.le_add_left_of_le (lb rfl)) (qTn_k hnt (lb rfl)) hg_1 hg_2 ?_
  refine R_ishl (pc := 7) (dc k_T_pairOf 5 rfl) ?_
  refine R_iconst (pc := 8) (a := 1) (dc k_T_pairOf 6 rfl) ?_
  refine R_aload_n (pc := 9) 0 (dc k_T_pairOf 7 rfl) rfl rfl ?_
  refine R_getS (pc := 10) (ci := 1) (k := 12) (t + 5) (dc k_T_pairOf 8 rfl) fl_T_24 (lT ht) (qT1 ht) (qTn_0 hnt) hEt (rT_12 ht) (Nat.succ_ne_zero _) rfl ?_
  refine R_iload_n (pc := 13) 1 (dc k_T_pairOf 9 rfl) rfl rfl ?_
  refine R_iald (pc := 14) (dc k_T_pairOf 10 rfl) (lT_5 ht) (Nat.le_add_left_of_le (lb rfl)) (qTn_k hnt (lb rfl)) hg_1 hg_2 ?_
  refine R_ishl (pc := 15) (dc k_T_pairOf 11 rfl) ?_
  refine R_ior (pc := 16) (dc k_T_pairOf 12 rfl) ?_
  exact R_iret (pc := 17) (dc k_T_pairOf 13 rfl) rfl rfl rfl ⟨_, rfl, rfl, (Z_some hz)⟩

set_option maxRecDepth 20000 in
theorem ct_T_tieOf {E : Nat → Bool} {n : Nat} (hE : ∀ c, 1 ≤ c → c ≤ 80 → E c = true) (hn : 80 ≤ n) {t : Nat} {person : Int} {other : Int} (ht : isT t) {M : Mem} {K : Int → Prop} (hz : Z (T_tieOf t person other M) K) : Mt y_T_tieOf (1, 21, n, n, E) E [vR t, vI person, vI other] M (qP M K) := by
  refine Mt.of (by decide) (lb rfl) (Nat.le_refl _) rfl ?_
  rw [T_tieOf] at hz
  have hnt := qTn ht hn
  have hEt := qTE ht hE
  show Rr y_T_tieOf (1, 21, n, n, E) (qP M K) 0 [(0, vR t), (1, vI person), (2, vI other)] [] E n M
  refine R_iconst (pc := 0) (a := 1) (dc k_T_tieOf 0 rfl) ?_
  refine R_iload_n (pc := 1) 1 (dc k_T_tieOf 1 rfl) rfl rfl ?_
  refine R_ishl (pc := 2) (dc k_T_tieOf 2 rfl) ?_
  refine R_iconst (pc := 3) (a := 1) (dc k_T_tieOf 3 rfl) ?_
  refine R_iload_n (pc := 4) 2 (dc k_T_tieOf 4 rfl) rfl rfl ?_
  refine R_ishl (pc := 5) (dc k_T_tieOf 5 rfl) ?_
  refine R_ior (pc := 6) (dc k_T_tieOf 6 rfl) ?_
  obtain ⟨l3_1, hl3_1, hz⟩ := Z_lt hz
  refine R_istore_nE (pc := 7) (L' := [(3, vI l3_1), (0, vR t), (1, vI person), (2, vI other)]) (dc k_T_tieOf 7 rfl) rfl (lb rfl) hl3_1 rfl ?_
  refine R_iconst (pc := 8) (a := 0) (dc k_T_tieOf 8 rfl) ?_
  refine R_istore (pc := 9) (L' := [(4, vI 0), (3, vI l3_1), (0, vR t), (1, vI person), (2, vI other)]) (dc k_T_tieOf 9 rfl) (lb rfl) rfl ?_
  obtain ⟨K_3, hK_4, hz⟩ := Z_cut hz
  have hX_5 : K_3 (.inl ()) → Rr y_T_tieOf (1, 21, n, n, E) (qP M K) 39 [] [] E n M := by
    intro  hk
    have hz := hK_4 _ hk
    refine R_iconst (pc := 39) (a := 0) (dc k_T_tieOf 23 rfl) ?_
    exact R_iret (pc := 40) (dc k_T_tieOf 24 rfl) rfl rfl rfl ⟨_, rfl, rfl, (Z_some hz)⟩
  refine R_sub [2, 1, 0] rfl ?_
  refine it_R (C := fun aZ : Int => Rr y_T_tieOf (1, 21, n, n, E) (qP M K) 11 [(0, vR t), (3, vI l3_1), (4, vI aZ)] [] E n M) (fun l4_2 K_6 hC_7 hB_8 hz => ?_) FUEL 0 hz
  rw [T_tieOf_b11] at hz
  show Rr y_T_tieOf (1, 21, n, n, E) (qP M K) 11 [(0, vR t), (3, vI l3_1), (4, vI l4_2)] [] E n M
  refine R_iload (pc := 11) 2 (dc k_T_tieOf 10 rfl) rfl ?_
  refine R_aload_n (pc := 13) 0 (dc k_T_tieOf 11 rfl) rfl rfl ?_
  refine R_getI (pc := 14) (ci := 1) (k := 3) (dc k_T_tieOf 12 rfl) fl_T_59 (lT ht) (qT1 ht) (qTn_0 hnt) (rT_3 ht) (Or.inl rfl) ?_
  refine R_icmp_ge (pc := 17) 39 (dc k_T_tieOf 13 rfl) rfl (fun hc => ?_) (fun hc => ?_)
  · have hz := Z_neg (show ¬ (n32 l4_2 < n32 (M t 3)) from (Int.not_lt.mpr hc)) hz
    refine R_sub [] rfl ?_
    exact hX_5 (hB_8 _ (Z_some hz))
  · have hz := Z_pos (show n32 l4_2 < n32 (M t 3) from (Int.not_le.mp hc)) hz
    refine R_aload_n (pc := 20) 0 (dc k_T_tieOf 14 rfl) rfl rfl ?_
    refine R_iload (pc := 21) 2 (dc k_T_tieOf 15 rfl) rfl ?_
    refine R_cVP (pc := 23)  (As := [vI l4_2]) (S := []) ck_T_130 (dc k_T_tieOf 16 rfl) ⟨(lT ht), ⟨_, rfl, rfl⟩, (qT1 ht), (qTn_0 hnt)⟩ (lb rfl) (lb rfl) (lb rfl) rfl (ct_T_pairOf hE hn ht (Z_bind hz)) (fun r_9 hz => ?_)
    refine R_iload_n (pc := 26) 1 (dc k_T_tieOf 17 rfl) rfl rfl ?_
    refine R_icmp_ne (pc := 27) 33 (dc k_T_tieOf 18 rfl) rfl (fun hc => ?_) (fun hc => ?_)
    · have hz := Z_neg (show ¬ (n32 r_9 = n32 l3_1) from hc) hz
      obtain ⟨l4_10, hl4_10, hz⟩ := Z_lt hz
      refine R_iincE (pc := 33) (L' := [(4, vI l4_10), (0, vR t), (3, vI l3_1)]) 2 (dc k_T_tieOf 21 rfl) rfl (lb rfl) hl4_10 rfl ?_
      refine R_goto (pc := 36) 11 (dc k_T_tieOf 22 rfl) rfl ?_
      refine R_sub [1, 2, 0] rfl ?_
      exact hC_7 _ (Z_some hz)
    · have hz := Z_pos (show n32 r_9 = n32 l3_1 from (Decidable.not_not.mp hc)) hz
      refine R_iload (pc := 30) 2 (dc k_T_tieOf 19 rfl) rfl ?_
      exact R_iret (pc := 32) (dc k_T_tieOf 20 rfl) rfl rfl rfl ⟨_, rfl, rfl, (Z_some (hK_4 _ (hB_8 _ (Z_some hz))))⟩

set_option maxRecDepth 20000 in
theorem ct_T_bestPartner {E : Nat → Bool} {n : Nat} (hE : ∀ c, 1 ≤ c → c ≤ 80 → E c = true) (hn : 80 ≤ n) {t : Nat} {person : Int} {row : Int} {world : Int} (ht : isT t) {M : Mem} {K : Int → Prop} (hz : Z (T_bestPartner t person row world M) K) : Mt y_T_bestPartner (3, 71, n, n, E) E [vR t, vI person, vI row, vI world] M (qP M K) := by
  refine Mt.of (by decide) (lb rfl) (Nat.le_refl _) rfl ?_
  rw [T_bestPartner] at hz
  have hnt := qTn ht hn
  have hEt := qTE ht hE
  show Rr y_T_bestPartner (3, 71, n, n, E) (qP M K) 0 [(0, vR t), (1, vI person), (2, vI row), (3, vI world)] [] E n M
  refine R_iconst (pc := 0) (a := (-1)) (dc k_T_bestPartner 0 rfl) ?_
  refine R_istore (pc := 1) (L' := [(4, vI (-1)), (0, vR t), (1, vI person), (2, vI row), (3, vI world)]) (dc k_T_bestPartner 1 rfl) (lb rfl) rfl ?_
  refine R_iconst (pc := 3) (a := 0) (dc k_T_bestPartner 2 rfl) ?_
  refine R_istore (pc := 4) (L' := [(5, vI 0), (4, vI (-1)), (0, vR t), (1, vI person), (2, vI row), (3, vI world)]) (dc k_T_bestPartner 3 rfl) (lb rfl) rfl ?_
  refine R_iconst (pc := 6) (a := 0) (dc k_T_bestPartner 4 rfl) ?_
  refine R_istore (pc := 7) (L' := [(6, vI 0), (5, vI 0), (4, vI (-1)), (0, vR t), (1, vI person), (2, vI row), (3, vI world)]) (dc k_T_bestPartner 5 rfl) (lb rfl) rfl ?_
  obtain ⟨K_4, hK_5, hz⟩ := Z_cut hz
  have hX_6 : ∀ (l4_10 : Int), K_4 l4_10 → Rr y_T_bestPartner (3, 71, n, n, E) (qP M K) 95 [(4, vI l4_10)] [] E n M := by
    intro l4_10 hk
    have hz := hK_5 _ hk
    refine R_iload (pc := 95) 0 (dc k_T_bestPartner 53 rfl) rfl ?_
    exact R_iret (pc := 97) (dc k_T_bestPartner 54 rfl) rfl rfl rfl ⟨_, rfl, rfl, (Z_some hz)⟩
  refine R_sub [3, 4, 5, 6, 2, 1, 0] rfl ?_
  refine it_R (C := fun aZ : Int × Int × Int => Rr y_T_bestPartner (3, 71, n, n, E) (qP M K) 9 [(0, vR t), (1, vI person), (2, vI row), (3, vI world), (4, vI aZ.1), (5, vI aZ.2.1), (6, vI aZ.2.2)] [] E n M) (fun aZ K_7 hC_8 hB_9 hz => ?_) FUEL ((-1), 0, 0) hz
  obtain ⟨l4_1, l5_2, l6_3⟩ := aZ
  rw [T_bestPartner_b9] at hz
  show Rr y_T_bestPartner (3, 71, n, n, E) (qP M K) 9 [(0, vR t), (1, vI person), (2, vI row), (3, vI world), (4, vI l4_1), (5, vI l5_2), (6, vI l6_3)] [] E n M
  refine R_iload (pc := 9) 6 (dc k_T_bestPartner 6 rfl) rfl ?_
  refine R_aload_n (pc := 11) 0 (dc k_T_bestPartner 7 rfl) rfl rfl ?_
  refine R_getI (pc := 12) (ci := 1) (k := 1) (dc k_T_bestPartner 8 rfl) fl_T_53 (lT ht) (qT1 ht) (qTn_0 hnt) (rT_1 ht) (Or.inl rfl) ?_
  refine R_icmp_ge (pc := 15) 95 (dc k_T_bestPartner 9 rfl) rfl (fun hc => ?_) (fun hc => ?_)
  · have hz := Z_neg (show ¬ (n32 l6_3 < n32 (M t 1)) from (Int.not_lt.mpr hc)) hz
    refine R_sub [4] rfl ?_
    exact hX_6 _ (hB_9 _ (Z_some hz))
  · have hz := Z_pos (show n32 l6_3 < n32 (M t 1) from (Int.not_le.mp hc)) hz
    refine R_aload_n (pc := 18) 0 (dc k_T_bestPartner 10 rfl) rfl rfl ?_
    refine R_getS (pc := 19) (ci := 1) (k := 10) (t + 3) (dc k_T_bestPartner 11 rfl) fl_T_18 (lT ht) (qT1 ht) (qTn_0 hnt) hEt (rT_10 ht) (Nat.succ_ne_zero _) rfl ?_
    refine R_iload_n (pc := 22) 1 (dc k_T_bestPartner 12 rfl) rfl rfl ?_
    obtain ⟨⟨hg_11, hg_12⟩, hz⟩ := Z_chk hz
    refine R_iald (pc := 23) (dc k_T_bestPartner 13 rfl) (lT_3 ht) (Nat.le_add_left_of_le (lb rfl)) (qTn_k hnt (lb rfl)) hg_11 hg_12 ?_
    refine R_iload (pc := 24) 6 (dc k_T_bestPartner 14 rfl) rfl ?_
    refine R_cSP (pc := 26)  (As := [vI (M (t + 3) (Int.toNat person)), vI l6_3]) (S := []) ck_T_94 (dc k_T_bestPartner 15 rfl) (lb rfl) (lb rfl) (lb rfl) rfl (ct_X_hasBit hE hn (Z_bind hz)) (fun r_13 hz => ?_)
    obtain ⟨K_16, hK_17, hz⟩ := Z_cut hz
    have hJ_18 : ∀ (l4_14 : Int) (l5_15 : Int), K_16 (l4_14, l5_15) → Rr y_T_bestPartner (3, 71, n, n, E) (qP M K) 89 [(0, vR t), (1, vI person), (2, vI row), (3, vI world), (4, vI l4_14), (5, vI l5_15), (6, vI l6_3)] [] E n M := by
      intro l4_14 l5_15 hk
      have hz := hK_17 _ hk
      obtain ⟨l6_31, hl6_31, hz⟩ := Z_lt hz
      refine R_iincE (pc := 89) (L' := [(6, vI l6_31), (0, vR t), (1, vI person), (2, vI row), (3, vI world), (4, vI l4_14), (5, vI l5_15)]) 6 (dc k_T_bestPartner 51 rfl) rfl (lb rfl) hl6_31 rfl ?_
      refine R_goto (pc := 92) 9 (dc k_T_bestPartner 52 rfl) rfl ?_
      refine R_sub [1, 2, 3, 4, 5, 6, 0] rfl ?_
      exact hC_8 _ (Z_some hz)
    refine R_if_eq (pc := 29) 89 (dc k_T_bestPartner 16 rfl) rfl (fun hc => ?_) (fun hc => ?_)
    · have hz := Z_neg (show ¬ (¬ n32 r_13 = 0) from (fun z => z hc)) hz
      exact hJ_18 _ _ (Z_some hz)
    · have hz := Z_pos (show ¬ n32 r_13 = 0 from hc) hz
      refine R_aload_n (pc := 32) 0 (dc k_T_bestPartner 17 rfl) rfl rfl ?_
      refine R_iconst (pc := 33) (a := 1) (dc k_T_bestPartner 18 rfl) ?_
      refine R_iload_n (pc := 34) 1 (dc k_T_bestPartner 19 rfl) rfl rfl ?_
      refine R_ishl (pc := 35) (dc k_T_bestPartner 20 rfl) ?_
      refine R_iconst (pc := 36) (a := 1) (dc k_T_bestPartner 21 rfl) ?_
      refine R_iload (pc := 37) 6 (dc k_T_bestPartner 22 rfl) rfl ?_
      refine R_ishl (pc := 39) (dc k_T_bestPartner 23 rfl) ?_
      refine R_ior (pc := 40) (dc k_T_bestPartner 24 rfl) ?_
      refine R_iload_n (pc := 41) 2 (dc k_T_bestPartner 25 rfl) rfl rfl ?_
      refine R_iload_n (pc := 42) 3 (dc k_T_bestPartner 26 rfl) rfl rfl ?_
      refine R_cVP (pc := 43)  (As := [vI (ior' (ishl 1 person) (ishl 1 l6_3)), vI row, vI world]) (S := []) ck_T_124 (dc k_T_bestPartner 27 rfl) ⟨(lT ht), ⟨_, rfl, rfl⟩, (qT1 ht), (qTn_0 hnt)⟩ (lb rfl) (lb rfl) (lb rfl) rfl (ct_T_fooled hE hn ht (Z_bind hz)) (fun r_19 hz => ?_)
      refine R_istore (pc := 46) (L' := [(7, vI r_19), (0, vR t), (1, vI person), (2, vI row), (3, vI world), (4, vI l4_1), (5, vI l5_2), (6, vI l6_3)]) (dc k_T_bestPartner 28 rfl) (lb rfl) rfl ?_
      refine R_iload (pc := 48) 0 (dc k_T_bestPartner 29 rfl) rfl ?_
      refine R_bipush (pc := 50) (a := 10) (dc k_T_bestPartner 30 rfl) (by decide) ?_
      refine R_imul (pc := 52) (dc k_T_bestPartner 31 rfl) ?_
      refine R_aload_n (pc := 53) 1 (dc k_T_bestPartner 32 rfl) rfl rfl ?_
      refine R_getS (pc := 54) (ci := 1) (k := 13) (t + 6) (dc k_T_bestPartner 33 rfl) fl_T_27 (lT ht) (qT1 ht) (qTn_0 hnt) hEt (rT_13 ht) (Nat.succ_ne_zero _) rfl ?_
      refine R_aload_n (pc := 57) 1 (dc k_T_bestPartner 34 rfl) rfl rfl ?_
      refine R_iload_n (pc := 58) 2 (dc k_T_bestPartner 35 rfl) rfl rfl ?_
      refine R_iload (pc := 59) 7 (dc k_T_bestPartner 36 rfl) rfl ?_
      refine R_cVP (pc := 61)  (As := [vI person, vI l6_3]) (S := [vR (t + 6), vI (r_19 * 10)]) ck_T_127 (dc k_T_bestPartner 37 rfl) ⟨(lT ht), ⟨_, rfl, rfl⟩, (qT1 ht), (qTn_0 hnt)⟩ (lb rfl) (lb rfl) (lb rfl) rfl (ct_T_tieOf hE hn ht (Z_bind hz)) (fun r_20 hz => ?_)
      obtain ⟨⟨hg_21, hg_22⟩, hz⟩ := Z_chk hz
      refine R_iald (pc := 64) (dc k_T_bestPartner 38 rfl) (lT_6 ht) (Nat.le_add_left_of_le (lb rfl)) (qTn_k hnt (lb rfl)) hg_21 hg_22 ?_
      refine R_isub (pc := 65) (dc k_T_bestPartner 39 rfl) ?_
      obtain ⟨l8_23, hl8_23, hz⟩ := Z_lt hz
      refine R_istoreE (pc := 66) (L' := [(8, vI l8_23), (7, vI r_19), (0, vR t), (1, vI person), (2, vI row), (3, vI world), (4, vI l4_1), (5, vI l5_2), (6, vI l6_3)]) (dc k_T_bestPartner 40 rfl) (lb rfl) hl8_23 rfl ?_
      refine R_iload (pc := 68) 6 (dc k_T_bestPartner 41 rfl) rfl ?_
      refine R_iconst (pc := 70) (a := (-1)) (dc k_T_bestPartner 42 rfl) ?_
      have hX_24 : ((n32 l4_1 = (-1)) ∨ (n32 l5_2 < n32 l8_23)) → Rr y_T_bestPartner (3, 71, n, n, E) (qP M K) 81 [(8, vI l8_23), (7, vI r_19), (0, vR t), (1, vI person), (2, vI row), (3, vI world), (4, vI l4_1), (5, vI l5_2), (6, vI l6_3)] [] E n M := by
        intro hc
        have hz := Z_pos hc hz
        refine R_iload (pc := 81) 8 (dc k_T_bestPartner 47 rfl) rfl ?_
        refine R_istore (pc := 83) (L' := [(4, vI l6_3), (8, vI l8_23), (7, vI r_19), (0, vR t), (1, vI person), (2, vI row), (3, vI world), (5, vI l5_2), (6, vI l6_3)]) (dc k_T_bestPartner 48 rfl) (lb rfl) rfl ?_
        refine R_iload (pc := 85) 1 (dc k_T_bestPartner 49 rfl) rfl ?_
        refine R_istore (pc := 87) (L' := [(5, vI l8_23), (4, vI l6_3), (8, vI l8_23), (7, vI r_19), (0, vR t), (1, vI person), (2, vI row), (3, vI world), (6, vI l6_3)]) (dc k_T_bestPartner 50 rfl) (lb rfl) rfl ?_
        refine R_sub [4, 5, 6, 7, 1, 0, 8] rfl ?_
        exact hJ_18 _ _ (Z_some hz)
      have hY_25 : ¬ ((n32 l4_1 = (-1)) ∨ (n32 l5_2 < n32 l8_23)) → Rr y_T_bestPartner (3, 71, n, n, E) (qP M K) 89 [(8, vI l8_23), (7, vI r_19), (0, vR t), (1, vI person), (2, vI row), (3, vI world), (4, vI l4_1), (5, vI l5_2), (6, vI l6_3)] [] E n M := by
        intro hc
        have hz := Z_neg hc hz
        refine R_sub [2, 3, 4, 5, 6, 7, 8] rfl ?_
        exact hJ_18 _ _ (Z_some hz)
      refine R_icmp_eq (pc := 71) 81 (dc k_T_bestPartner 43 rfl) rfl (fun hc => ?_) (fun hc => ?_)
      · have hc_26 : n32 l4_1 = (-1) := hc
        exact hX_24 (Or.inl hc_26)
      · have hc_27 : ¬ n32 l4_1 = (-1) := hc
        refine R_iload (pc := 74) 0 (dc k_T_bestPartner 44 rfl) rfl ?_
        refine R_iload (pc := 76) 7 (dc k_T_bestPartner 45 rfl) rfl ?_
        refine R_icmp_le (pc := 78) 89 (dc k_T_bestPartner 46 rfl) rfl (fun hc => ?_) (fun hc => ?_)
        · have hc_28 : n32 l8_23 ≤ n32 l5_2 := hc
          exact hY_25 (fun z => z.elim hc_27 (Int.not_lt.mpr hc_28))
        · have hc_29 : n32 l5_2 < n32 l8_23 := (Int.not_le.mp hc)
          exact hX_24 (Or.inr hc_29)

set_option maxRecDepth 20000 in
theorem ct_X_with {E : Nat → Bool} {n : Nat} (hE : ∀ c, 1 ≤ c → c ≤ 80 → E c = true) (hn : 80 ≤ n) {person : Int} {row : Int} {world : Int} {M : Mem} {K : Int → Prop} (hz : Z (X_with person row world M) K) : Mt y_X_with (4, 99, n, n, E) E [vR 1, vI person, vI row, vI world] M (qP M K) := by
  refine Mt.of (by decide) (lb rfl) (Nat.le_refl _) rfl ?_
  rw [X_with] at hz
  show Rr y_X_with (4, 99, n, n, E) (qP M K) 0 [(0, vR 1), (1, vI person), (2, vI row), (3, vI world)] [] E n M
  refine R_aload_n (pc := 0) 0 (dc k_X_with 0 rfl) rfl rfl ?_
  obtain ⟨hg_1, hz⟩ := Z_chk hz
  obtain ⟨t_2, ht_2, hz⟩ := Z_lt hz
  obtain ⟨hq_3, ht_2t⟩ := isTI.at' hg_1 ht_2
  have hnt_2t := qTn ht_2t hn
  have hEt_2t := qTE ht_2t hE
  refine R_getR (pc := 1) (ci := 0) (k := 2) t_2 (dc k_X_with 1 rfl) fl_X_16 rfl (lb rfl) (Nat.le_trans (lb rfl) hn) (Or.inr rfl) hq_3 (qT0 ht_2t) rfl ?_
  refine R_iload_n (pc := 4) 1 (dc k_X_with 2 rfl) rfl rfl ?_
  refine R_cVP (pc := 5)  (As := [vI person]) (S := []) ck_X_120 (dc k_X_with 3 rfl) ⟨(lT ht_2t), ⟨_, rfl, rfl⟩, (qT1 ht_2t), (qTn_0 hnt_2t)⟩ (lb rfl) (lb rfl) (lb rfl) rfl (ct_T_hasPerson hE hn ht_2t (Z_bind hz)) (fun r_4 hz => ?_)
  obtain ⟨K_5, hK_6, hz⟩ := Z_cut hz
  have hX_7 : K_5 true → Rr y_X_with (4, 99, n, n, E) (qP M K) 35 [(0, vR 1), (1, vI person), (2, vI row), (3, vI world)] [] E n M := by
    intro hk
    have hz := Z_pos rfl (hK_6 _ hk)
    refine R_iconst (pc := 35) (a := (-1)) (dc k_X_with 17 rfl) ?_
    exact R_iret (pc := 36) (dc k_X_with 18 rfl) rfl rfl rfl ⟨_, rfl, rfl, (Z_some hz)⟩
  have hY_8 : K_5 false → Rr y_X_with (4, 99, n, n, E) (qP M K) 37 [(0, vR 1), (1, vI person), (2, vI row), (3, vI world)] [] E n M := by
    intro hk
    have hz := Z_neg Bool.false_ne_true (hK_6 _ hk)
    refine R_aload_n (pc := 37) 0 (dc k_X_with 19 rfl) rfl rfl ?_
    refine R_getR (pc := 38) (ci := 0) (k := 2) t_2 (dc k_X_with 20 rfl) fl_X_16 rfl (lb rfl) (Nat.le_trans (lb rfl) hn) (Or.inr rfl) hq_3 (qT0 ht_2t) rfl ?_
    refine R_iload_n (pc := 41) 1 (dc k_X_with 21 rfl) rfl rfl ?_
    refine R_iload_n (pc := 42) 2 (dc k_X_with 22 rfl) rfl rfl ?_
    refine R_iload_n (pc := 43) 3 (dc k_X_with 23 rfl) rfl rfl ?_
    refine R_cVP (pc := 44)  (As := [vI person, vI row, vI world]) (S := []) ck_X_213 (dc k_X_with 24 rfl) ⟨(lT ht_2t), ⟨_, rfl, rfl⟩, (qT1 ht_2t), (qTn_0 hnt_2t)⟩ (lb rfl) (lb rfl) (lb rfl) rfl (ct_T_bestPartner hE hn ht_2t (Z_bind hz)) (fun r_12 hz => ?_)
    exact R_iret (pc := 47) (dc k_X_with 25 rfl) rfl rfl rfl ⟨_, rfl, rfl, (Z_some hz)⟩
  refine R_if_eq (pc := 8) 35 (dc k_X_with 4 rfl) rfl (fun hc => ?_) (fun hc => ?_)
  · have hz := Z_neg (show ¬ (¬ n32 r_4 = 0) from (fun z => z hc)) hz
    exact hX_7 (Z_some hz)
  · have hz := Z_pos (show ¬ n32 r_4 = 0 from hc) hz
    refine R_aload_n (pc := 11) 0 (dc k_X_with 5 rfl) rfl rfl ?_
    refine R_getR (pc := 12) (ci := 0) (k := 2) t_2 (dc k_X_with 6 rfl) fl_X_16 rfl (lb rfl) (Nat.le_trans (lb rfl) hn) (Or.inr rfl) hq_3 (qT0 ht_2t) rfl ?_
    refine R_iload_n (pc := 15) 2 (dc k_X_with 7 rfl) rfl rfl ?_
    refine R_iload_n (pc := 16) 3 (dc k_X_with 8 rfl) rfl rfl ?_
    refine R_cVP (pc := 17)  (As := [vI row, vI world]) (S := []) ck_X_113 (dc k_X_with 9 rfl) ⟨(lT ht_2t), ⟨_, rfl, rfl⟩, (qT1 ht_2t), (qTn_0 hnt_2t)⟩ (lb rfl) (lb rfl) (lb rfl) rfl (ct_T_canBe hE hn ht_2t (Z_bind hz)) (fun r_10 hz => ?_)
    refine R_if_eq (pc := 20) 35 (dc k_X_with 10 rfl) rfl (fun hc => ?_) (fun hc => ?_)
    · have hz := Z_neg (show ¬ (¬ n32 r_10 = 0) from (fun z => z hc)) hz
      exact hX_7 (Z_some hz)
    · have hz := Z_pos (show ¬ n32 r_10 = 0 from hc) hz
      refine R_aload_n (pc := 23) 0 (dc k_X_with 11 rfl) rfl rfl ?_
      refine R_getR (pc := 24) (ci := 0) (k := 2) t_2 (dc k_X_with 12 rfl) fl_X_16 rfl (lb rfl) (Nat.le_trans (lb rfl) hn) (Or.inr rfl) hq_3 (qT0 ht_2t) rfl ?_
      refine R_iload_n (pc := 27) 2 (dc k_X_with 13 rfl) rfl rfl ?_
      refine R_iload_n (pc := 28) 3 (dc k_X_with 14 rfl) rfl rfl ?_
      refine R_cVP (pc := 29)  (As := [vI row, vI world]) (S := []) ck_X_117 (dc k_X_with 15 rfl) ⟨(lT ht_2t), ⟨_, rfl, rfl⟩, (qT1 ht_2t), (qTn_0 hnt_2t)⟩ (lb rfl) (lb rfl) (lb rfl) rfl (ct_T_isSo hE hn ht_2t (Z_bind hz)) (fun r_11 hz => ?_)
      refine R_if_eq (pc := 32) 37 (dc k_X_with 16 rfl) rfl (fun hc => ?_) (fun hc => ?_)
      · have hz := Z_neg (show ¬ (¬ n32 r_11 = 0) from (fun z => z hc)) hz
        exact hY_8 (Z_some hz)
      · have hz := Z_pos (show ¬ n32 r_11 = 0 from hc) hz
        exact hX_7 (Z_some hz)

set_option maxRecDepth 20000 in
theorem ct_T_mostWished {E : Nat → Bool} {n : Nat} (hE : ∀ c, 1 ≤ c → c ≤ 80 → E c = true) (hn : 80 ≤ n) {t : Nat} {tie : Int} {world : Int} (ht : isT t) {M : Mem} {K : Int → Prop} (hz : Z (T_mostWished t tie world M) K) : Mt y_T_mostWished (2, 44, n, n, E) E [vR t, vI tie, vI world] M (qP M K) := by
  refine Mt.of (by decide) (lb rfl) (Nat.le_refl _) rfl ?_
  rw [T_mostWished] at hz
  have hnt := qTn ht hn
  have hEt := qTE ht hE
  show Rr y_T_mostWished (2, 44, n, n, E) (qP M K) 0 [(0, vR t), (1, vI tie), (2, vI world)] [] E n M
  refine R_iconst (pc := 0) (a := 0) (dc k_T_mostWished 0 rfl) ?_
  refine R_istore_n (pc := 1) (L' := [(3, vI 0), (0, vR t), (1, vI tie), (2, vI world)]) (dc k_T_mostWished 1 rfl) rfl (lb rfl) rfl ?_
  refine R_iconst (pc := 2) (a := 0) (dc k_T_mostWished 2 rfl) ?_
  refine R_istore (pc := 3) (L' := [(4, vI 0), (3, vI 0), (0, vR t), (1, vI tie), (2, vI world)]) (dc k_T_mostWished 3 rfl) (lb rfl) rfl ?_
  obtain ⟨K_3, hK_4, hz⟩ := Z_cut hz
  have hX_5 : ∀ (l3_9 : Int), K_3 l3_9 → Rr y_T_mostWished (2, 44, n, n, E) (qP M K) 90 [(3, vI l3_9)] [] E n M := by
    intro l3_9 hk
    have hz := hK_4 _ hk
    refine R_iload_n (pc := 90) 0 (dc k_T_mostWished 51 rfl) rfl rfl ?_
    exact R_iret (pc := 91) (dc k_T_mostWished 52 rfl) rfl rfl rfl ⟨_, rfl, rfl, (Z_some hz)⟩
  refine R_sub [2, 3, 4, 1, 0] rfl ?_
  refine it_R (C := fun aZ : Int × Int => Rr y_T_mostWished (2, 44, n, n, E) (qP M K) 5 [(0, vR t), (1, vI tie), (2, vI world), (3, vI aZ.1), (4, vI aZ.2)] [] E n M) (fun aZ K_6 hC_7 hB_8 hz => ?_) FUEL (0, 0) hz
  obtain ⟨l3_1, l4_2⟩ := aZ
  rw [T_mostWished_b5] at hz
  show Rr y_T_mostWished (2, 44, n, n, E) (qP M K) 5 [(0, vR t), (1, vI tie), (2, vI world), (3, vI l3_1), (4, vI l4_2)] [] E n M
  refine R_iload (pc := 5) 4 (dc k_T_mostWished 4 rfl) rfl ?_
  refine R_aload_n (pc := 7) 0 (dc k_T_mostWished 5 rfl) rfl rfl ?_
  refine R_getI (pc := 8) (ci := 1) (k := 2) (dc k_T_mostWished 6 rfl) fl_T_56 (lT ht) (qT1 ht) (qTn_0 hnt) (rT_2 ht) (Or.inl rfl) ?_
  refine R_icmp_ge (pc := 11) 90 (dc k_T_mostWished 7 rfl) rfl (fun hc => ?_) (fun hc => ?_)
  · have hz := Z_neg (show ¬ (n32 l4_2 < n32 (M t 2)) from (Int.not_lt.mpr hc)) hz
    refine R_sub [3] rfl ?_
    exact hX_5 _ (hB_8 _ (Z_some hz))
  · have hz := Z_pos (show n32 l4_2 < n32 (M t 2) from (Int.not_le.mp hc)) hz
    refine R_aload_n (pc := 14) 0 (dc k_T_mostWished 8 rfl) rfl rfl ?_
    refine R_getS (pc := 15) (ci := 1) (k := 14) (t + 7) (dc k_T_mostWished 9 rfl) fl_T_30 (lT ht) (qT1 ht) (qTn_0 hnt) hEt (rT_14 ht) (Nat.succ_ne_zero _) rfl ?_
    refine R_aload_n (pc := 18) 0 (dc k_T_mostWished 10 rfl) rfl rfl ?_
    refine R_getS (pc := 19) (ci := 1) (k := 11) (t + 4) (dc k_T_mostWished 11 rfl) fl_T_21 (lT ht) (qT1 ht) (qTn_0 hnt) hEt (rT_11 ht) (Nat.succ_ne_zero _) rfl ?_
    refine R_iload_n (pc := 22) 1 (dc k_T_mostWished 12 rfl) rfl rfl ?_
    obtain ⟨⟨hg_10, hg_11⟩, hz⟩ := Z_chk hz
    refine R_iald (pc := 23) (dc k_T_mostWished 13 rfl) (lT_4 ht) (Nat.le_add_left_of_le (lb rfl)) (qTn_k hnt (lb rfl)) hg_10 hg_11 ?_
    refine R_bipush (pc := 24) (a := 12) (dc k_T_mostWished 14 rfl) (by decide) ?_
    refine R_imul (pc := 26) (dc k_T_mostWished 15 rfl) ?_
    refine R_iload (pc := 27) 4 (dc k_T_mostWished 16 rfl) rfl ?_
    refine R_iadd (pc := 29) (dc k_T_mostWished 17 rfl) ?_
    obtain ⟨⟨hg_12, hg_13⟩, hz⟩ := Z_chk hz
    refine R_iald (pc := 30) (dc k_T_mostWished 18 rfl) (lT_7 ht) (Nat.le_add_left_of_le (lb rfl)) (qTn_k hnt (lb rfl)) hg_12 hg_13 ?_
    obtain ⟨l5_14, hl5_14, hz⟩ := Z_lt hz
    refine R_istoreE (pc := 31) (L' := [(5, vI l5_14), (0, vR t), (1, vI tie), (2, vI world), (3, vI l3_1), (4, vI l4_2)]) (dc k_T_mostWished 19 rfl) (lb rfl) hl5_14 rfl ?_
    refine R_aload_n (pc := 33) 1 (dc k_T_mostWished 20 rfl) rfl rfl ?_
    refine R_getS (pc := 34) (ci := 1) (k := 14) (t + 7) (dc k_T_mostWished 21 rfl) fl_T_30 (lT ht) (qT1 ht) (qTn_0 hnt) hEt (rT_14 ht) (Nat.succ_ne_zero _) rfl ?_
    refine R_aload_n (pc := 37) 1 (dc k_T_mostWished 22 rfl) rfl rfl ?_
    refine R_getS (pc := 38) (ci := 1) (k := 12) (t + 5) (dc k_T_mostWished 23 rfl) fl_T_24 (lT ht) (qT1 ht) (qTn_0 hnt) hEt (rT_12 ht) (Nat.succ_ne_zero _) rfl ?_
    refine R_iload_n (pc := 41) 2 (dc k_T_mostWished 24 rfl) rfl rfl ?_
    refine R_iald (pc := 42) (dc k_T_mostWished 25 rfl) (lT_5 ht) (Nat.le_add_left_of_le (lb rfl)) (qTn_k hnt (lb rfl)) hg_10 hg_11 ?_
    refine R_bipush (pc := 43) (a := 12) (dc k_T_mostWished 26 rfl) (by decide) ?_
    refine R_imul (pc := 45) (dc k_T_mostWished 27 rfl) ?_
    refine R_iload (pc := 46) 5 (dc k_T_mostWished 28 rfl) rfl ?_
    refine R_iadd (pc := 48) (dc k_T_mostWished 29 rfl) ?_
    obtain ⟨⟨hg_15, hg_16⟩, hz⟩ := Z_chk hz
    refine R_iald (pc := 49) (dc k_T_mostWished 30 rfl) (lT_7 ht) (Nat.le_add_left_of_le (lb rfl)) (qTn_k hnt (lb rfl)) hg_15 hg_16 ?_
    obtain ⟨l6_17, hl6_17, hz⟩ := Z_lt hz
    refine R_istoreE (pc := 50) (L' := [(6, vI l6_17), (5, vI l5_14), (0, vR t), (1, vI tie), (2, vI world), (3, vI l3_1), (4, vI l4_2)]) (dc k_T_mostWished 31 rfl) (lb rfl) hl6_17 rfl ?_
    refine R_iload (pc := 52) 1 (dc k_T_mostWished 32 rfl) rfl ?_
    refine R_iconst (pc := 54) (a := (-1)) (dc k_T_mostWished 33 rfl) ?_
    obtain ⟨K_19, hK_20, hz⟩ := Z_cut hz
    have hJ_21 : ∀ (l3_18 : Int), K_19 l3_18 → Rr y_T_mostWished (2, 44, n, n, E) (qP M K) 84 [(0, vR t), (1, vI tie), (2, vI world), (3, vI l3_18), (4, vI l4_2)] [] E n M := by
      intro l3_18 hk
      have hz := hK_20 _ hk
      obtain ⟨l4_29, hl4_29, hz⟩ := Z_lt hz
      refine R_iincE (pc := 84) (L' := [(4, vI l4_29), (0, vR t), (1, vI tie), (2, vI world), (3, vI l3_18)]) 4 (dc k_T_mostWished 49 rfl) rfl (lb rfl) hl4_29 rfl ?_
      refine R_goto (pc := 87) 5 (dc k_T_mostWished 50 rfl) rfl ?_
      refine R_sub [1, 2, 3, 4, 0] rfl ?_
      exact hC_7 _ (Z_some hz)
    obtain ⟨K_22, hK_23, hz⟩ := Z_cut hz
    have hX_24 : K_22 true → Rr y_T_mostWished (2, 44, n, n, E) (qP M K) 74 [(6, vI l6_17), (5, vI l5_14), (0, vR t), (1, vI tie), (2, vI world), (3, vI l3_1), (4, vI l4_2)] [] E n M := by
      intro hk
      have hz := Z_pos rfl (hK_23 _ hk)
      refine R_iload_n (pc := 74) 5 (dc k_T_mostWished 43 rfl) rfl rfl ?_
      refine R_iload (pc := 75) 1 (dc k_T_mostWished 44 rfl) rfl ?_
      refine R_iload (pc := 77) 0 (dc k_T_mostWished 45 rfl) rfl ?_
      refine R_iadd (pc := 79) (dc k_T_mostWished 46 rfl) ?_
      refine R_max (pc := 80) (S := []) (dc k_T_mostWished 47 rfl) ml_T_136 (lb rfl) (lb rfl) ?_
      obtain ⟨l3_28, hl3_28, hz⟩ := Z_lt hz
      refine R_istore_nE (pc := 83) (L' := [(3, vI l3_28), (6, vI l6_17), (5, vI l5_14), (0, vR t), (1, vI tie), (2, vI world), (4, vI l4_2)]) (dc k_T_mostWished 48 rfl) rfl (lb rfl) hl3_28 rfl ?_
      refine R_sub [3, 4, 5, 0, 6] rfl ?_
      exact hJ_21 _ (Z_some hz)
    have hY_25 : K_22 false → Rr y_T_mostWished (2, 44, n, n, E) (qP M K) 84 [(6, vI l6_17), (5, vI l5_14), (0, vR t), (1, vI tie), (2, vI world), (3, vI l3_1), (4, vI l4_2)] [] E n M := by
      intro hk
      have hz := Z_neg Bool.false_ne_true (hK_23 _ hk)
      refine R_sub [2, 3, 4, 5, 6] rfl ?_
      exact hJ_21 _ (Z_some hz)
    refine R_icmp_eq (pc := 55) 84 (dc k_T_mostWished 34 rfl) rfl (fun hc => ?_) (fun hc => ?_)
    · have hz := Z_neg (show ¬ (¬ n32 l5_14 = (-1)) from (fun z => z hc)) hz
      exact hY_25 (Z_some hz)
    · have hz := Z_pos (show ¬ n32 l5_14 = (-1) from hc) hz
      refine R_iload (pc := 58) 0 (dc k_T_mostWished 35 rfl) rfl ?_
      refine R_iconst (pc := 60) (a := (-1)) (dc k_T_mostWished 36 rfl) ?_
      refine R_icmp_eq (pc := 61) 84 (dc k_T_mostWished 37 rfl) rfl (fun hc => ?_) (fun hc => ?_)
      · have hz := Z_neg (show ¬ (¬ n32 l6_17 = (-1)) from (fun z => z hc)) hz
        exact hY_25 (Z_some hz)
      · have hz := Z_pos (show ¬ n32 l6_17 = (-1) from hc) hz
        refine R_aload_n (pc := 64) 2 (dc k_T_mostWished 38 rfl) rfl rfl ?_
        refine R_iload (pc := 65) 6 (dc k_T_mostWished 39 rfl) rfl ?_
        refine R_iload_n (pc := 67) 4 (dc k_T_mostWished 40 rfl) rfl rfl ?_
        refine R_cVP (pc := 68)  (As := [vI l4_2, vI world]) (S := []) ck_T_133 (dc k_T_mostWished 41 rfl) ⟨(lT ht), ⟨_, rfl, rfl⟩, (qT1 ht), (qTn_0 hnt)⟩ (lb rfl) (lb rfl) (lb rfl) rfl (ct_T_isSo hE hn ht (Z_bind hz)) (fun r_27 hz => ?_)
        refine R_if_ne (pc := 71) 84 (dc k_T_mostWished 42 rfl) rfl (fun hc => ?_) (fun hc => ?_)
        · have hz := Z_neg (show ¬ (n32 r_27 = 0) from hc) hz
          exact hY_25 (Z_some hz)
        · have hz := Z_pos (show n32 r_27 = 0 from (Decidable.not_not.mp hc)) hz
          exact hX_24 (Z_some hz)

set_option maxRecDepth 20000 in
theorem cts_P_seekMost {E : Nat → Bool} {n : Nat} (hE : ∀ c, 1 ≤ c → c ≤ 80 → E c = true) (hn : 80 ≤ n) {rec_ : Int → Int → Int → Int → Mem → Option (Mem)} {fr lo : Nat} (hf : 1 ≤ fr) (hl : 21 ≤ lo) (hrec : ∀ {b0 b1 b2 b3 : Int} {M : Mem} {K : Mem → Prop}, Z (rec_ b0 b1 b2 b3 M) K → Mt y_P_seekMost (fr, lo, n, n, E) E [vR 76, vI b0, vI b1, vI b2, vI b3] M (qV K)) {tie : Int} {used : Int} {sum : Int} {taken : Int} {M : Mem} {K : Mem → Prop} (hz : Z (P_seekMost_s rec_ tie used sum taken M) K) : Mt y_P_seekMost (fr + 1, lo + 26, n, n, E) E [vR 76, vI tie, vI used, vI sum, vI taken] M (qV K) := by
  refine Mt.of (by decide) (lb rfl) (Nat.le_refl _) rfl ?_
  rw [P_seekMost_s] at hz
  show Rr y_P_seekMost (fr + 1, lo + 26, n, n, E) (qV K) 0 [(0, vR 76), (1, vI tie), (2, vI used), (3, vI sum), (4, vI taken)] [] E n M
  refine R_iload_n (pc := 0) 3 (dc k_P_seekMost 0 rfl) rfl rfl ?_
  refine R_aload_n (pc := 1) 0 (dc k_P_seekMost 1 rfl) rfl rfl ?_
  refine R_getI (pc := 2) (ci := 8) (k := 2) (dc k_P_seekMost 2 rfl) fl_P_32 rfl (lb rfl) (Nat.le_trans (lb rfl) hn) rfl (Or.inl rfl) ?_
  obtain ⟨K_2, hK_3, hz⟩ := Z_cut hz
  have hJ_4 : ∀ (M_1 : Mem), K_2 M_1 → Rr y_P_seekMost (fr + 1, lo + 26, n, n, E) (qV K) 36 [(0, vR 76), (1, vI tie), (2, vI used), (3, vI sum), (4, vI taken)] [] E n M_1 := by
    intro M_1 hk
    have hz := hK_3 _ hk
    refine R_iload_n (pc := 36) 1 (dc k_P_seekMost 18 rfl) rfl rfl ?_
    refine R_istore (pc := 37) (L' := [(5, vI tie), (0, vR 76), (1, vI tie), (2, vI used), (3, vI sum), (4, vI taken)]) (dc k_P_seekMost 19 rfl) (lb rfl) rfl ?_
    obtain ⟨K_19, hK_20, hz⟩ := Z_cut hz
    have hX_21 : ∀ (M_25 : Mem), K_19 M_25 → Rr y_P_seekMost (fr + 1, lo + 26, n, n, E) (qV K) 113 [] [] E n M_25 := by
      intro M_25 hk
      have hz := hK_20 _ hk
      exact R_vret (pc := 113) (dc k_P_seekMost 60 rfl) rfl rfl rfl ⟨rfl, (Z_some hz)⟩
    refine R_sub [1, 3, 4, 5, 0] rfl ?_
    refine it_R (C := fun aZ : Int × Mem => Rr y_P_seekMost (fr + 1, lo + 26, n, n, E) (qV K) 39 [(0, vR 76), (2, vI used), (3, vI sum), (4, vI taken), (5, vI aZ.1)] [] E n aZ.2) (fun aZ K_22 hC_23 hB_24 hz => ?_) FUEL (tie, M_1) hz
    obtain ⟨l5_17, M_18⟩ := aZ
    rw [P_seekMost_b39] at hz
    show Rr y_P_seekMost (fr + 1, lo + 26, n, n, E) (qV K) 39 [(0, vR 76), (2, vI used), (3, vI sum), (4, vI taken), (5, vI l5_17)] [] E n M_18
    refine R_iload (pc := 39) 4 (dc k_P_seekMost 20 rfl) rfl ?_
    refine R_aload_n (pc := 41) 0 (dc k_P_seekMost 21 rfl) rfl rfl ?_
    obtain ⟨hg_26, hz⟩ := Z_chk hz
    obtain ⟨t_27, ht_27, hz⟩ := Z_lt hz
    obtain ⟨hq_28, ht_27t⟩ := isTI.at' hg_26 ht_27
    have hnt_27t := qTn ht_27t hn
    have hEt_27t := qTE ht_27t hE
    refine R_getR (pc := 42) (ci := 8) (k := 0) t_27 (dc k_P_seekMost 22 rfl) fl_P_15 rfl (lb rfl) (Nat.le_trans (lb rfl) hn) (Or.inr rfl) hq_28 (qT0 ht_27t) rfl ?_
    refine R_getI (pc := 45) (ci := 1) (k := 3) (dc k_P_seekMost 23 rfl) fl_P_19 (lT ht_27t) (qT1 ht_27t) (qTn_0 hnt_27t) (rT_3 ht_27t) (Or.inl rfl) ?_
    refine R_icmp_ge (pc := 48) 113 (dc k_P_seekMost 24 rfl) rfl (fun hc => ?_) (fun hc => ?_)
    · have hz := Z_neg (show ¬ (n32 l5_17 < n32 (M_18 t_27 3)) from (Int.not_lt.mpr hc)) hz
      refine R_sub [] rfl ?_
      exact hX_21 _ (hB_24 _ (Z_some hz))
    · have hz := Z_pos (show n32 l5_17 < n32 (M_18 t_27 3) from (Int.not_le.mp hc)) hz
      refine R_aload_n (pc := 51) 0 (dc k_P_seekMost 25 rfl) rfl rfl ?_
      refine R_getR (pc := 52) (ci := 8) (k := 0) t_27 (dc k_P_seekMost 26 rfl) fl_P_15 rfl (lb rfl) (Nat.le_trans (lb rfl) hn) (Or.inr rfl) hq_28 (qT0 ht_27t) rfl ?_
      refine R_iload (pc := 55) 4 (dc k_P_seekMost 27 rfl) rfl ?_
      refine R_cVP (pc := 57)  (As := [vI l5_17]) (S := []) ck_P_42 (dc k_P_seekMost 28 rfl) ⟨(lT ht_27t), ⟨_, rfl, rfl⟩, (qT1 ht_27t), (qTn_0 hnt_27t)⟩ (by first | exact lb rfl | (dsimp only; omega)) (by first | exact lb rfl | (dsimp only [y_T_pairOf]; omega)) (lb rfl) rfl (ct_T_pairOf hE hn ht_27t (Z_bind hz)) (fun r_29 hz => ?_)
      refine R_istore (pc := 60) (L' := [(6, vI r_29), (0, vR 76), (2, vI used), (3, vI sum), (4, vI taken), (5, vI l5_17)]) (dc k_P_seekMost 29 rfl) (lb rfl) rfl ?_
      refine R_aload_n (pc := 62) 1 (dc k_P_seekMost 30 rfl) rfl rfl ?_
      refine R_getS (pc := 63) (ci := 8) (k := 1) 77 (dc k_P_seekMost 31 rfl) fl_P_9 rfl (lb rfl) (Nat.le_trans (lb rfl) hn) (hE 76 (lb rfl) (lb rfl)) rfl (by decide) rfl ?_
      refine R_iload (pc := 66) 5 (dc k_P_seekMost 32 rfl) rfl ?_
      obtain ⟨⟨hg_30, hg_31⟩, hz⟩ := Z_chk hz
      refine R_iald (pc := 68) (dc k_P_seekMost 33 rfl) rfl (lb rfl) (Nat.le_trans (lb rfl) hn) hg_30 hg_31 ?_
      obtain ⟨K_33, hK_34, hz⟩ := Z_cut hz
      have hJ_35 : ∀ (M_32 : Mem), K_33 M_32 → Rr y_P_seekMost (fr + 1, lo + 26, n, n, E) (qV K) 107 [(0, vR 76), (2, vI used), (3, vI sum), (4, vI taken), (5, vI l5_17)] [] E n M_32 := by
        intro M_32 hk
        have hz := hK_34 _ hk
        obtain ⟨l5_43, hl5_43, hz⟩ := Z_lt hz
        refine R_iincE (pc := 107) (L' := [(5, vI l5_43), (0, vR 76), (2, vI used), (3, vI sum), (4, vI taken)]) 4 (dc k_P_seekMost 58 rfl) rfl (lb rfl) hl5_43 rfl ?_
        refine R_goto (pc := 110) 39 (dc k_P_seekMost 59 rfl) rfl ?_
        refine R_sub [1, 2, 3, 4, 0] rfl ?_
        exact hC_23 _ (Z_some hz)
      have hX_37 : ((0 < n32 (M_18 77 (Int.toNat l5_17))) ∧ (n32 (iand used r_29) = 0)) → Rr y_P_seekMost (fr + 1, lo + 26, n, n, E) (qV K) 79 [(6, vI r_29), (0, vR 76), (2, vI used), (3, vI sum), (4, vI taken), (5, vI l5_17)] [] E n M_18 := by
        intro hc
        have hz := Z_pos hc hz
        refine R_aload_n (pc := 79) 1 (dc k_P_seekMost 39 rfl) rfl rfl ?_
        refine R_iload (pc := 80) 5 (dc k_P_seekMost 40 rfl) rfl ?_
        refine R_iconst (pc := 82) (a := 1) (dc k_P_seekMost 41 rfl) ?_
        refine R_iadd (pc := 83) (dc k_P_seekMost 42 rfl) ?_
        refine R_iload_n (pc := 84) 2 (dc k_P_seekMost 43 rfl) rfl rfl ?_
        refine R_iload (pc := 85) 0 (dc k_P_seekMost 44 rfl) rfl ?_
        refine R_ior (pc := 87) (dc k_P_seekMost 45 rfl) ?_
        refine R_iload_n (pc := 88) 3 (dc k_P_seekMost 46 rfl) rfl rfl ?_
        refine R_aload_n (pc := 89) 1 (dc k_P_seekMost 47 rfl) rfl rfl ?_
        refine R_getS (pc := 90) (ci := 8) (k := 1) 77 (dc k_P_seekMost 48 rfl) fl_P_9 rfl (lb rfl) (Nat.le_trans (lb rfl) hn) (hE 76 (lb rfl) (lb rfl)) rfl (by decide) rfl ?_
        refine R_iload (pc := 93) 5 (dc k_P_seekMost 49 rfl) rfl ?_
        refine R_iald (pc := 95) (dc k_P_seekMost 50 rfl) rfl (lb rfl) (Nat.le_trans (lb rfl) hn) hg_30 hg_31 ?_
        refine R_iadd (pc := 96) (dc k_P_seekMost 51 rfl) ?_
        refine R_iload (pc := 97) 4 (dc k_P_seekMost 52 rfl) rfl ?_
        refine R_iconst (pc := 99) (a := 1) (dc k_P_seekMost 53 rfl) ?_
        refine R_iload (pc := 100) 5 (dc k_P_seekMost 54 rfl) rfl ?_
        refine R_ishl (pc := 102) (dc k_P_seekMost 55 rfl) ?_
        refine R_ior (pc := 103) (dc k_P_seekMost 56 rfl) ?_
        refine R_cVV (pc := 104)  (As := [vI (l5_17 + 1), vI (ior' used r_29), vI (sum + (M_18 77 (Int.toNat l5_17))), vI (ior' taken (ishl 1 l5_17))]) (S := []) ck_P_38 (dc k_P_seekMost 57 rfl) ⟨rfl, ⟨_, rfl, rfl⟩, (lb rfl), (Nat.le_trans (lb rfl) hn)⟩ (by first | exact lb rfl | (dsimp only; omega)) (by first | exact lb rfl | (dsimp only [y_P_seekMost]; omega)) (lb rfl) rfl (hrec (Z_bind hz)) (fun M_36 hz => ?_)
        refine R_sub [1, 2, 3, 4, 5] rfl ?_
        exact hJ_35 _ (Z_some hz)
      have hY_38 : ¬ ((0 < n32 (M_18 77 (Int.toNat l5_17))) ∧ (n32 (iand used r_29) = 0)) → Rr y_P_seekMost (fr + 1, lo + 26, n, n, E) (qV K) 107 [(6, vI r_29), (0, vR 76), (2, vI used), (3, vI sum), (4, vI taken), (5, vI l5_17)] [] E n M_18 := by
        intro hc
        have hz := Z_neg hc hz
        refine R_sub [1, 2, 3, 4, 5] rfl ?_
        exact hJ_35 _ (Z_some hz)
      refine R_if_le (pc := 69) 107 (dc k_P_seekMost 34 rfl) rfl (fun hc => ?_) (fun hc => ?_)
      · have hc_39 : n32 (M_18 77 (Int.toNat l5_17)) ≤ 0 := hc
        exact hY_38 (fun z => (Int.not_lt.mpr hc_39) z.1)
      · have hc_40 : 0 < n32 (M_18 77 (Int.toNat l5_17)) := (Int.not_le.mp hc)
        refine R_iload_n (pc := 72) 2 (dc k_P_seekMost 35 rfl) rfl rfl ?_
        refine R_iload (pc := 73) 0 (dc k_P_seekMost 36 rfl) rfl ?_
        refine R_iand (pc := 75) (dc k_P_seekMost 37 rfl) ?_
        refine R_if_ne (pc := 76) 107 (dc k_P_seekMost 38 rfl) rfl (fun hc => ?_) (fun hc => ?_)
        · have hc_41 : ¬ n32 (iand used r_29) = 0 := hc
          exact hY_38 (fun z => hc_41 z.2)
        · have hc_42 : n32 (iand used r_29) = 0 := (Decidable.not_not.mp hc)
          exact hX_37 ⟨hc_40, hc_42⟩
  obtain ⟨j_5, hj_6, hz⟩ := Z_jn hz
  have hJ_7 : Z (j_5 ()) K_2 → Rr y_P_seekMost (fr + 1, lo + 26, n, n, E) (qV K) 25 [(0, vR 76), (1, vI tie), (2, vI used), (3, vI sum), (4, vI taken)] [] E n M := by
    intro  hk
    have hz := hj_6 _ hk
    refine R_aload_n (pc := 25) 0 (dc k_P_seekMost 12 rfl) rfl rfl ?_
    refine R_iload_n (pc := 26) 3 (dc k_P_seekMost 13 rfl) rfl rfl ?_
    obtain ⟨M_15, hM_15, hz⟩ := Z_lt hz
    refine R_putIE (pc := 27) (ci := 8) (k := 2) (dc k_P_seekMost 14 rfl) fl_P_32 rfl (lb rfl) (Nat.le_trans (lb rfl) hn) rfl rfl rfl hM_15 ?_
    refine R_aload_n (pc := 30) 0 (dc k_P_seekMost 15 rfl) rfl rfl ?_
    refine R_iload (pc := 31) 4 (dc k_P_seekMost 16 rfl) rfl ?_
    obtain ⟨M_16, hM_16, hz⟩ := Z_lt hz
    refine R_putIE (pc := 33) (ci := 8) (k := 3) (dc k_P_seekMost 17 rfl) fl_P_35 rfl (lb rfl) (Nat.le_trans (lb rfl) hn) rfl rfl rfl hM_16 ?_
    exact hJ_4 _ (Z_some hz)
  refine R_icmp_gt (pc := 5) 25 (dc k_P_seekMost 3 rfl) rfl (fun hc => ?_) (fun hc => ?_)
  · have hz := Z_neg (show ¬ (n32 sum ≤ n32 (M 76 2)) from (Int.not_le.mpr hc)) hz
    exact hJ_7 hz
  · have hz := Z_pos (show n32 sum ≤ n32 (M 76 2) from (Int.not_lt.mp hc)) hz
    refine R_iload_n (pc := 8) 3 (dc k_P_seekMost 4 rfl) rfl rfl ?_
    refine R_aload_n (pc := 9) 0 (dc k_P_seekMost 5 rfl) rfl rfl ?_
    refine R_getI (pc := 10) (ci := 8) (k := 2) (dc k_P_seekMost 6 rfl) fl_P_32 rfl (lb rfl) (Nat.le_trans (lb rfl) hn) rfl (Or.inl rfl) ?_
    have hX_8 : ((n32 sum = n32 (M 76 2)) ∧ (n32 taken < n32 (M 76 3))) → Rr y_P_seekMost (fr + 1, lo + 26, n, n, E) (qV K) 25 [(0, vR 76), (1, vI tie), (2, vI used), (3, vI sum), (4, vI taken)] [] E n M := by
      intro hc
      have hz := Z_pos hc hz
      exact hJ_7 hz
    have hY_9 : ¬ ((n32 sum = n32 (M 76 2)) ∧ (n32 taken < n32 (M 76 3))) → Rr y_P_seekMost (fr + 1, lo + 26, n, n, E) (qV K) 36 [(0, vR 76), (1, vI tie), (2, vI used), (3, vI sum), (4, vI taken)] [] E n M := by
      intro hc
      have hz := Z_neg hc hz
      exact hJ_4 _ (Z_some hz)
    refine R_icmp_ne (pc := 13) 36 (dc k_P_seekMost 7 rfl) rfl (fun hc => ?_) (fun hc => ?_)
    · have hc_10 : ¬ n32 sum = n32 (M 76 2) := hc
      exact hY_9 (fun z => hc_10 z.1)
    · have hc_11 : n32 sum = n32 (M 76 2) := (Decidable.not_not.mp hc)
      refine R_iload (pc := 16) 4 (dc k_P_seekMost 8 rfl) rfl ?_
      refine R_aload_n (pc := 18) 0 (dc k_P_seekMost 9 rfl) rfl rfl ?_
      refine R_getI (pc := 19) (ci := 8) (k := 3) (dc k_P_seekMost 10 rfl) fl_P_35 rfl (lb rfl) (Nat.le_trans (lb rfl) hn) rfl (Or.inl rfl) ?_
      refine R_icmp_ge (pc := 22) 36 (dc k_P_seekMost 11 rfl) rfl (fun hc => ?_) (fun hc => ?_)
      · have hc_12 : n32 (M 76 3) ≤ n32 taken := hc
        exact hY_9 (fun z => (Int.not_lt.mpr hc_12) z.2)
      · have hc_13 : n32 taken < n32 (M 76 3) := (Int.not_le.mp hc)
        exact hX_8 ⟨hc_11, hc_13⟩
theorem ctd_P_seekMost {E : Nat → Bool} {n : Nat} (hE : ∀ c, 1 ≤ c → c ≤ 80 → E c = true) (hn : 80 ≤ n) : ∀ (d : Nat) {tie used sum taken : Int} {M : Mem} {K : Mem → Prop}, Z (P_seekMost d tie used sum taken M) K → Mt y_P_seekMost (1 + 1 * d, 21 + 26 * d, n, n, E) E [vR 76, vI tie, vI used, vI sum, vI taken] M (qV K)
  | 0, tie, used, sum, taken, M, K, hz => (Z_none hz).elim
  | d + 1, tie, used, sum, taken, M, K, hz => by
    have h := cts_P_seekMost hE hn (rec_ := P_seekMost d) (fr := 1 + 1 * d) (lo := 21 + 26 * d) (by omega) (by omega) (fun hz => ctd_P_seekMost hE hn d hz) (show Z (P_seekMost_s (P_seekMost d) tie used sum taken M) K from hz)
    rw [show 1 + 1 * (d + 1) = 1 + 1 * d + 1 by omega, show 21 + 26 * (d + 1) = 21 + 26 * d + 26 by omega]
    exact h
theorem ct_P_seekMost {E : Nat → Bool} {n : Nat} (hE : ∀ c, 1 ≤ c → c ≤ 80 → E c = true) (hn : 80 ≤ n) {tie used sum taken : Int} {M : Mem} {K : Mem → Prop} (hz : Z (P_seekMost 14 tie used sum taken M) K) : Mt y_P_seekMost (15, 385, n, n, E) E [vR 76, vI tie, vI used, vI sum, vI taken] M (qV K) := ctd_P_seekMost hE hn 14 hz

set_option maxRecDepth 20000 in
theorem ct_P_settleGains {E : Nat → Bool} {n : Nat} (hE : ∀ c, 1 ≤ c → c ≤ 80 → E c = true) (hn : 80 ≤ n) {tat_ : Nat} {world : Int} (htat_ : isT tat_) {M : Mem} {K : Mem → Prop} (hz : Z (P_settleGains tat_ world M) K) : Mt y_P_settleGains (16, 411, n, n, E) E [vR 76, vR tat_, vI world] M (qV K) := by
  refine Mt.of (by decide) (lb rfl) (Nat.le_refl _) rfl ?_
  rw [P_settleGains] at hz
  have hntat_ := qTn htat_ hn
  have hEtat_ := qTE htat_ hE
  show Rr y_P_settleGains (16, 411, n, n, E) (qV K) 0 [(0, vR 76), (1, vR tat_), (2, vI world)] [] E n M
  refine R_aload_n (pc := 0) 0 (dc k_P_settleGains 0 rfl) rfl rfl ?_
  refine R_aload_n (pc := 1) 1 (dc k_P_settleGains 1 rfl) rfl rfl ?_
  obtain ⟨M_1, hM_1, hz⟩ := Z_lt hz
  refine R_putRE (pc := 2) (ci := 8) (k := 0) (dc k_P_settleGains 2 rfl) fl_P_15 rfl (lb rfl) (Nat.le_trans (lb rfl) hn) rfl rfl (qT0 htat_) (qTn_0 hntat_) rfl hM_1 ?_
  refine R_iconst (pc := 5) (a := 0) (dc k_P_settleGains 3 rfl) ?_
  refine R_istore_n (pc := 6) (L' := [(3, vI 0), (0, vR 76), (1, vR tat_), (2, vI world)]) (dc k_P_settleGains 4 rfl) rfl (lb rfl) rfl ?_
  obtain ⟨K_4, hK_5, hz⟩ := Z_cut hz
  have hX_6 : ∀ (M_10 : Mem), K_4 M_10 → Rr y_P_settleGains (16, 411, n, n, E) (qV K) 51 [(0, vR 76)] [] E n M_10 := by
    intro M_10 hk
    have hz := hK_5 _ hk
    refine R_aload_n (pc := 51) 0 (dc k_P_settleGains 29 rfl) rfl rfl ?_
    refine R_iconst (pc := 52) (a := 0) (dc k_P_settleGains 30 rfl) ?_
    obtain ⟨M_20, hM_20, hz⟩ := Z_lt hz
    refine R_putIE (pc := 53) (ci := 8) (k := 2) (dc k_P_settleGains 31 rfl) fl_P_32 rfl (lb rfl) (Nat.le_trans (lb rfl) hn) rfl rfl rfl hM_20 ?_
    refine R_aload_n (pc := 56) 0 (dc k_P_settleGains 32 rfl) rfl rfl ?_
    refine R_iconst (pc := 57) (a := 0) (dc k_P_settleGains 33 rfl) ?_
    obtain ⟨M_21, hM_21, hz⟩ := Z_lt hz
    refine R_putIE (pc := 58) (ci := 8) (k := 3) (dc k_P_settleGains 34 rfl) fl_P_35 rfl (lb rfl) (Nat.le_trans (lb rfl) hn) rfl rfl rfl hM_21 ?_
    refine R_aload_n (pc := 61) 0 (dc k_P_settleGains 35 rfl) rfl rfl ?_
    refine R_iconst (pc := 62) (a := 0) (dc k_P_settleGains 36 rfl) ?_
    refine R_iconst (pc := 63) (a := 0) (dc k_P_settleGains 37 rfl) ?_
    refine R_iconst (pc := 64) (a := 0) (dc k_P_settleGains 38 rfl) ?_
    refine R_iconst (pc := 65) (a := 0) (dc k_P_settleGains 39 rfl) ?_
    refine R_cVV (pc := 66)  (As := [vI 0, vI 0, vI 0, vI 0]) (S := []) ck_P_38 (dc k_P_settleGains 40 rfl) ⟨rfl, ⟨_, rfl, rfl⟩, (lb rfl), (Nat.le_trans (lb rfl) hn)⟩ (lb rfl) (lb rfl) (lb rfl) rfl (ct_P_seekMost hE hn (Z_bind hz)) (fun M_22 hz => ?_)
    exact R_vret (pc := 69) (dc k_P_settleGains 41 rfl) rfl rfl rfl ⟨rfl, (Z_some hz)⟩
  refine R_sub [1, 3, 0] rfl ?_
  refine it_R (C := fun aZ : Int × Mem => Rr y_P_settleGains (16, 411, n, n, E) (qV K) 7 [(0, vR 76), (2, vI world), (3, vI aZ.1)] [] E n aZ.2) (fun aZ K_7 hC_8 hB_9 hz => ?_) FUEL (0, M_1) hz
  obtain ⟨l3_2, M_3⟩ := aZ
  rw [P_settleGains_b7] at hz
  show Rr y_P_settleGains (16, 411, n, n, E) (qV K) 7 [(0, vR 76), (2, vI world), (3, vI l3_2)] [] E n M_3
  refine R_iload_n (pc := 7) 2 (dc k_P_settleGains 5 rfl) rfl rfl ?_
  refine R_aload_n (pc := 8) 0 (dc k_P_settleGains 6 rfl) rfl rfl ?_
  obtain ⟨hg_11, hz⟩ := Z_chk hz
  obtain ⟨t_12, ht_12, hz⟩ := Z_lt hz
  obtain ⟨hq_13, ht_12t⟩ := isTI.at' hg_11 ht_12
  have hnt_12t := qTn ht_12t hn
  have hEt_12t := qTE ht_12t hE
  refine R_getR (pc := 9) (ci := 8) (k := 0) t_12 (dc k_P_settleGains 7 rfl) fl_P_15 rfl (lb rfl) (Nat.le_trans (lb rfl) hn) (Or.inr rfl) hq_13 (qT0 ht_12t) rfl ?_
  refine R_getI (pc := 12) (ci := 1) (k := 3) (dc k_P_settleGains 8 rfl) fl_P_19 (lT ht_12t) (qT1 ht_12t) (qTn_0 hnt_12t) (rT_3 ht_12t) (Or.inl rfl) ?_
  refine R_icmp_ge (pc := 15) 51 (dc k_P_settleGains 9 rfl) rfl (fun hc => ?_) (fun hc => ?_)
  · have hz := Z_neg (show ¬ (n32 l3_2 < n32 (M_3 t_12 3)) from (Int.not_lt.mpr hc)) hz
    refine R_sub [0] rfl ?_
    exact hX_6 _ (hB_9 _ (Z_some hz))
  · have hz := Z_pos (show n32 l3_2 < n32 (M_3 t_12 3) from (Int.not_le.mp hc)) hz
    refine R_aload_n (pc := 18) 0 (dc k_P_settleGains 10 rfl) rfl rfl ?_
    refine R_getS (pc := 19) (ci := 8) (k := 1) 77 (dc k_P_settleGains 11 rfl) fl_P_9 rfl (lb rfl) (Nat.le_trans (lb rfl) hn) (hE 76 (lb rfl) (lb rfl)) rfl (by decide) rfl ?_
    refine R_iload_n (pc := 22) 2 (dc k_P_settleGains 12 rfl) rfl rfl ?_
    refine R_aload_n (pc := 23) 0 (dc k_P_settleGains 13 rfl) rfl rfl ?_
    refine R_getR (pc := 24) (ci := 8) (k := 0) t_12 (dc k_P_settleGains 14 rfl) fl_P_15 rfl (lb rfl) (Nat.le_trans (lb rfl) hn) (Or.inr rfl) hq_13 (qT0 ht_12t) rfl ?_
    refine R_iload_n (pc := 27) 2 (dc k_P_settleGains 15 rfl) rfl rfl ?_
    refine R_iload_n (pc := 28) 1 (dc k_P_settleGains 16 rfl) rfl rfl ?_
    refine R_cVP (pc := 29)  (As := [vI l3_2, vI world]) (S := [vI l3_2, vR 77]) ck_P_25 (dc k_P_settleGains 17 rfl) ⟨(lT ht_12t), ⟨_, rfl, rfl⟩, (qT1 ht_12t), (qTn_0 hnt_12t)⟩ (lb rfl) (lb rfl) (lb rfl) rfl (ct_T_mostWished hE hn ht_12t (Z_bind hz)) (fun r_14 hz => ?_)
    refine R_iconst (pc := 32) (a := 2) (dc k_P_settleGains 18 rfl) ?_
    refine R_aload_n (pc := 33) 0 (dc k_P_settleGains 19 rfl) rfl rfl ?_
    refine R_getR (pc := 34) (ci := 8) (k := 0) t_12 (dc k_P_settleGains 20 rfl) fl_P_15 rfl (lb rfl) (Nat.le_trans (lb rfl) hn) (Or.inr rfl) hq_13 (qT0 ht_12t) rfl ?_
    refine R_getS (pc := 37) (ci := 1) (k := 13) (t_12 + 6) (dc k_P_settleGains 21 rfl) fl_P_29 (lT ht_12t) (qT1 ht_12t) (qTn_0 hnt_12t) hEt_12t (rT_13 ht_12t) (Nat.succ_ne_zero _) rfl ?_
    refine R_iload_n (pc := 40) 2 (dc k_P_settleGains 22 rfl) rfl rfl ?_
    obtain ⟨⟨hg_15, hg_16⟩, hz⟩ := Z_chk hz
    refine R_iald (pc := 41) (dc k_P_settleGains 23 rfl) (lT_6 ht_12t) (Nat.le_add_left_of_le (lb rfl)) (qTn_k hnt_12t (lb rfl)) hg_15 hg_16 ?_
    refine R_imul (pc := 42) (dc k_P_settleGains 24 rfl) ?_
    refine R_isub (pc := 43) (dc k_P_settleGains 25 rfl) ?_
    obtain ⟨M_17, hM_17, hz⟩ := Z_lt hz
    refine R_iastE (pc := 44) (dc k_P_settleGains 26 rfl) rfl (lb rfl) (Nat.le_trans (lb rfl) hn) hg_15 hg_16 hM_17 ?_
    obtain ⟨l3_18, hl3_18, hz⟩ := Z_lt hz
    refine R_iincE (pc := 45) (L' := [(3, vI l3_18), (0, vR 76), (2, vI world)]) 2 (dc k_P_settleGains 27 rfl) rfl (lb rfl) hl3_18 rfl ?_
    refine R_goto (pc := 48) 7 (dc k_P_settleGains 28 rfl) rfl ?_
    refine R_sub [1, 2, 0] rfl ?_
    exact hC_8 _ (Z_some hz)

set_option maxRecDepth 20000 in
theorem ct_X_rest {E : Nat → Bool} {n : Nat} (hE : ∀ c, 1 ≤ c → c ≤ 80 → E c = true) (hn : 80 ≤ n) {world : Int} {what : Int} {M : Mem} {K : Int × Mem → Prop} (hz : Z (X_rest world what M) K) : Mt y_X_rest (17, 434, n, n, E) E [vR 1, vI world, vI what] M (qM K) := by
  refine Mt.of (by decide) (lb rfl) (Nat.le_refl _) rfl ?_
  rw [X_rest] at hz
  show Rr y_X_rest (17, 434, n, n, E) (qM K) 0 [(0, vR 1), (1, vI world), (2, vI what)] [] E n M
  refine R_aload_n (pc := 0) 0 (dc k_X_rest 0 rfl) rfl rfl ?_
  obtain ⟨hg_1, hz⟩ := Z_chk hz
  obtain ⟨t_2, ht_2, hz⟩ := Z_lt hz
  obtain ⟨hq_3, ht_2t⟩ := isTI.at' hg_1 ht_2
  have hnt_2t := qTn ht_2t hn
  have hEt_2t := qTE ht_2t hE
  refine R_getR (pc := 1) (ci := 0) (k := 2) t_2 (dc k_X_rest 1 rfl) fl_X_16 rfl (lb rfl) (Nat.le_trans (lb rfl) hn) (Or.inr rfl) hq_3 (qT0 ht_2t) rfl ?_
  refine R_iload_n (pc := 4) 1 (dc k_X_rest 2 rfl) rfl rfl ?_
  refine R_cVP (pc := 5)  (As := [vI world]) (S := []) ck_X_181 (dc k_X_rest 3 rfl) ⟨(lT ht_2t), ⟨_, rfl, rfl⟩, (qT1 ht_2t), (qTn_0 hnt_2t)⟩ (lb rfl) (lb rfl) (lb rfl) rfl (ct_T_hasWorld hE hn ht_2t (Z_bind hz)) (fun r_4 hz => ?_)
  have hX_7 : ((n32 r_4 = 0) ∨ ((n32 what < 0) ∨ (1 < n32 what))) → Rr y_X_rest (17, 434, n, n, E) (qM K) 20 [(0, vR 1), (1, vI world), (2, vI what)] [] E n M := by
    intro hc
    have hz := Z_pos hc hz
    refine R_iconst (pc := 20) (a := (-1)) (dc k_X_rest 10 rfl) ?_
    exact R_iret (pc := 21) (dc k_X_rest 11 rfl) rfl rfl rfl ⟨_, rfl, (Z_some hz)⟩
  have hY_8 : ¬ ((n32 r_4 = 0) ∨ ((n32 what < 0) ∨ (1 < n32 what))) → Rr y_X_rest (17, 434, n, n, E) (qM K) 22 [(0, vR 1), (1, vI world), (2, vI what)] [] E n M := by
    intro hc
    have hz := Z_neg hc hz
    refine R_aload_n (pc := 22) 0 (dc k_X_rest 12 rfl) rfl rfl ?_
    refine R_getS (pc := 23) (ci := 0) (k := 9) 76 (dc k_X_rest 13 rfl) fl_X_60 rfl (lb rfl) (Nat.le_trans (lb rfl) hn) (hE 1 (lb rfl) (lb rfl)) rfl (by decide) rfl ?_
    refine R_aload_n (pc := 26) 0 (dc k_X_rest 14 rfl) rfl rfl ?_
    refine R_getR (pc := 27) (ci := 0) (k := 2) t_2 (dc k_X_rest 15 rfl) fl_X_16 rfl (lb rfl) (Nat.le_trans (lb rfl) hn) (Or.inr rfl) hq_3 (qT0 ht_2t) rfl ?_
    refine R_iload_n (pc := 30) 1 (dc k_X_rest 16 rfl) rfl rfl ?_
    refine R_cVV (pc := 31)  (As := [vR t_2, vI world]) (S := []) ck_X_216 (dc k_X_rest 17 rfl) ⟨rfl, ⟨_, rfl, rfl⟩, (lb rfl), (Nat.le_trans (lb rfl) hn)⟩ (lb rfl) (lb rfl) (lb rfl) rfl (ct_P_settleGains hE hn ht_2t (Z_bind hz)) (fun M_5 hz => ?_)
    refine R_iload_n (pc := 34) 2 (dc k_X_rest 18 rfl) rfl rfl ?_
    refine R_if_ne (pc := 35) 48 (dc k_X_rest 19 rfl) rfl (fun hc => ?_) (fun hc => ?_)
    · have hz := Z_neg (show ¬ (n32 what = 0) from hc) hz
      refine R_aload_n (pc := 48) 0 (dc k_X_rest 24 rfl) rfl rfl ?_
      refine R_getS (pc := 49) (ci := 0) (k := 9) 76 (dc k_X_rest 25 rfl) fl_X_60 rfl (lb rfl) (Nat.le_trans (lb rfl) hn) (hE 1 (lb rfl) (lb rfl)) rfl (by decide) rfl ?_
      refine R_getI (pc := 52) (ci := 8) (k := 3) (dc k_X_rest 26 rfl) fl_X_222 rfl (lb rfl) (Nat.le_trans (lb rfl) hn) rfl (Or.inl rfl) ?_
      exact R_iret (pc := 55) (dc k_X_rest 27 rfl) rfl rfl rfl ⟨_, rfl, (Z_some hz)⟩
    · have hz := Z_pos (show n32 what = 0 from (Decidable.not_not.mp hc)) hz
      refine R_aload_n (pc := 38) 0 (dc k_X_rest 20 rfl) rfl rfl ?_
      refine R_getS (pc := 39) (ci := 0) (k := 9) 76 (dc k_X_rest 21 rfl) fl_X_60 rfl (lb rfl) (Nat.le_trans (lb rfl) hn) (hE 1 (lb rfl) (lb rfl)) rfl (by decide) rfl ?_
      refine R_getI (pc := 42) (ci := 8) (k := 2) (dc k_X_rest 22 rfl) fl_X_219 rfl (lb rfl) (Nat.le_trans (lb rfl) hn) rfl (Or.inl rfl) ?_
      refine R_goto (pc := 45) 55 (dc k_X_rest 23 rfl) rfl ?_
      exact R_iret (pc := 55) (dc k_X_rest 27 rfl) rfl rfl rfl ⟨_, rfl, (Z_some hz)⟩
  refine R_if_eq (pc := 8) 20 (dc k_X_rest 4 rfl) rfl (fun hc => ?_) (fun hc => ?_)
  · have hc_9 : n32 r_4 = 0 := hc
    exact hX_7 (Or.inl hc_9)
  · have hc_10 : ¬ n32 r_4 = 0 := hc
    refine R_iload_n (pc := 11) 2 (dc k_X_rest 5 rfl) rfl rfl ?_
    refine R_if_lt (pc := 12) 20 (dc k_X_rest 6 rfl) rfl (fun hc => ?_) (fun hc => ?_)
    · have hc_11 : n32 what < 0 := hc
      exact hX_7 (Or.inr (Or.inl hc_11))
    · have hc_12 : 0 ≤ n32 what := (Int.not_lt.mp hc)
      refine R_iload_n (pc := 15) 2 (dc k_X_rest 7 rfl) rfl rfl ?_
      refine R_iconst (pc := 16) (a := 1) (dc k_X_rest 8 rfl) ?_
      refine R_icmp_le (pc := 17) 22 (dc k_X_rest 9 rfl) rfl (fun hc => ?_) (fun hc => ?_)
      · have hc_13 : n32 what ≤ 1 := hc
        exact hY_8 (fun z => z.elim hc_10 (fun z => z.elim (Int.not_lt.mpr hc_12) (Int.not_lt.mpr hc_13)))
      · have hc_14 : 1 < n32 what := (Int.not_le.mp hc)
        exact hX_7 (Or.inr (Or.inr hc_14))

set_option maxRecDepth 20000 in
theorem ct_X_commonDivisor {E : Nat → Bool} {n : Nat} (hE : ∀ c, 1 ≤ c → c ≤ 80 → E c = true) (hn : 80 ≤ n) {a : Int} {b : Int} {M : Mem} {K : Int → Prop} (hz : Z (X_commonDivisor a b M) K) : Mt y_X_commonDivisor (0, 0, n, n, E) E [vI a, vI b] M (qP M K) := by
  refine Mt.of (by decide) (lb rfl) (Nat.le_refl _) rfl ?_
  rw [X_commonDivisor] at hz
  show Rr y_X_commonDivisor (0, 0, n, n, E) (qP M K) 0 [(0, vI a), (1, vI b)] [] E n M
  refine R_iload_n (pc := 0) 0 (dc k_X_commonDivisor 0 rfl) rfl rfl ?_
  refine R_istore_n (pc := 1) (L' := [(2, vI a), (0, vI a), (1, vI b)]) (dc k_X_commonDivisor 1 rfl) rfl (lb rfl) rfl ?_
  refine R_iload_n (pc := 2) 2 (dc k_X_commonDivisor 2 rfl) rfl rfl ?_
  refine R_istore_n (pc := 3) (L' := [(3, vI b), (2, vI a), (0, vI a), (1, vI b)]) (dc k_X_commonDivisor 3 rfl) rfl (lb rfl) rfl ?_
  refine R_iconst (pc := 4) (a := 0) (dc k_X_commonDivisor 4 rfl) ?_
  refine R_istore (pc := 5) (L' := [(4, vI 0), (3, vI b), (2, vI a), (0, vI a), (1, vI b)]) (dc k_X_commonDivisor 5 rfl) (lb rfl) rfl ?_
  obtain ⟨K_4, hK_5, hz⟩ := Z_cut hz
  have hX_6 : ∀ (l2_10 : Int), K_4 l2_10 → Rr y_X_commonDivisor (0, 0, n, n, E) (qP M K) 34 [(2, vI l2_10)] [] E n M := by
    intro l2_10 hk
    have hz := hK_5 _ hk
    refine R_iload_n (pc := 34) 0 (dc k_X_commonDivisor 21 rfl) rfl rfl ?_
    refine R_if_ne (pc := 35) 42 (dc k_X_commonDivisor 22 rfl) rfl (fun hc => ?_) (fun hc => ?_)
    · have hz := Z_neg (show ¬ (n32 l2_10 = 0) from hc) hz
      refine R_iload_n (pc := 42) 0 (dc k_X_commonDivisor 25 rfl) rfl rfl ?_
      exact R_iret (pc := 43) (dc k_X_commonDivisor 26 rfl) rfl rfl rfl ⟨_, rfl, rfl, (Z_some hz)⟩
    · have hz := Z_pos (show n32 l2_10 = 0 from (Decidable.not_not.mp hc)) hz
      refine R_iconst (pc := 38) (a := 1) (dc k_X_commonDivisor 23 rfl) ?_
      refine R_goto (pc := 39) 43 (dc k_X_commonDivisor 24 rfl) rfl ?_
      exact R_iret (pc := 43) (dc k_X_commonDivisor 26 rfl) rfl rfl rfl ⟨_, rfl, rfl, (Z_some hz)⟩
  refine R_sub [2, 1, 0] rfl ?_
  refine it_R (C := fun aZ : Int × Int × Int => Rr y_X_commonDivisor (0, 0, n, n, E) (qP M K) 7 [(2, vI aZ.1), (3, vI aZ.2.1), (4, vI aZ.2.2)] [] E n M) (fun aZ K_7 hC_8 hB_9 hz => ?_) FUEL (a, b, 0) hz
  obtain ⟨l2_1, l3_2, l4_3⟩ := aZ
  rw [X_commonDivisor_b7] at hz
  show Rr y_X_commonDivisor (0, 0, n, n, E) (qP M K) 7 [(2, vI l2_1), (3, vI l3_2), (4, vI l4_3)] [] E n M
  refine R_iload (pc := 7) 2 (dc k_X_commonDivisor 6 rfl) rfl ?_
  refine R_bipush (pc := 9) (a := 64) (dc k_X_commonDivisor 7 rfl) (by decide) ?_
  have hX_14 : ((n32 l4_3 < 64) ∧ (¬ n32 l3_2 = 0)) → Rr y_X_commonDivisor (0, 0, n, n, E) (qP M K) 18 [(2, vI l2_1), (3, vI l3_2), (4, vI l4_3)] [] E n M := by
    intro hc
    have hz := Z_pos hc hz
    refine R_iload_n (pc := 18) 0 (dc k_X_commonDivisor 11 rfl) rfl rfl ?_
    refine R_iload_n (pc := 19) 1 (dc k_X_commonDivisor 12 rfl) rfl rfl ?_
    obtain ⟨hg_11, hz⟩ := Z_chk hz
    refine R_irem (pc := 20) (dc k_X_commonDivisor 13 rfl) hg_11 ?_
    obtain ⟨l5_12, hl5_12, hz⟩ := Z_lt hz
    refine R_istoreE (pc := 21) (L' := [(5, vI l5_12), (2, vI l2_1), (3, vI l3_2), (4, vI l4_3)]) (dc k_X_commonDivisor 14 rfl) (lb rfl) hl5_12 rfl ?_
    refine R_iload_n (pc := 23) 2 (dc k_X_commonDivisor 15 rfl) rfl rfl ?_
    refine R_istore_n (pc := 24) (L' := [(2, vI l3_2), (5, vI l5_12), (3, vI l3_2), (4, vI l4_3)]) (dc k_X_commonDivisor 16 rfl) rfl (lb rfl) rfl ?_
    refine R_iload (pc := 25) 1 (dc k_X_commonDivisor 17 rfl) rfl ?_
    refine R_istore_n (pc := 27) (L' := [(3, vI l5_12), (2, vI l3_2), (5, vI l5_12), (4, vI l4_3)]) (dc k_X_commonDivisor 18 rfl) rfl (lb rfl) rfl ?_
    obtain ⟨l4_13, hl4_13, hz⟩ := Z_lt hz
    refine R_iincE (pc := 28) (L' := [(4, vI l4_13), (3, vI l5_12), (2, vI l3_2), (5, vI l5_12)]) 3 (dc k_X_commonDivisor 19 rfl) rfl (lb rfl) hl4_13 rfl ?_
    refine R_goto (pc := 31) 7 (dc k_X_commonDivisor 20 rfl) rfl ?_
    refine R_sub [2, 1, 0] rfl ?_
    exact hC_8 _ (Z_some hz)
  have hY_15 : ¬ ((n32 l4_3 < 64) ∧ (¬ n32 l3_2 = 0)) → Rr y_X_commonDivisor (0, 0, n, n, E) (qP M K) 34 [(2, vI l2_1), (3, vI l3_2), (4, vI l4_3)] [] E n M := by
    intro hc
    have hz := Z_neg hc hz
    refine R_sub [0] rfl ?_
    exact hX_6 _ (hB_9 _ (Z_some hz))
  refine R_icmp_ge (pc := 11) 34 (dc k_X_commonDivisor 8 rfl) rfl (fun hc => ?_) (fun hc => ?_)
  · have hc_16 : 64 ≤ n32 l4_3 := hc
    exact hY_15 (fun z => (Int.not_lt.mpr hc_16) z.1)
  · have hc_17 : n32 l4_3 < 64 := (Int.not_le.mp hc)
    refine R_iload_n (pc := 14) 1 (dc k_X_commonDivisor 9 rfl) rfl rfl ?_
    refine R_if_eq (pc := 15) 34 (dc k_X_commonDivisor 10 rfl) rfl (fun hc => ?_) (fun hc => ?_)
    · have hc_18 : n32 l3_2 = 0 := hc
      exact hY_15 (fun z => (fun z => z hc_18) z.2)
    · have hc_19 : ¬ n32 l3_2 = 0 := hc
      exact hX_14 ⟨hc_17, hc_19⟩

set_option maxRecDepth 20000 in
theorem ct_X_truth {E : Nat → Bool} {n : Nat} (hE : ∀ c, 1 ≤ c → c ≤ 80 → E c = true) (hn : 80 ≤ n) {row : Int} {c : Int} {d : Int} {part : Int} {k : Int} {M : Mem} {K : Int × Mem → Prop} (hz : Z (X_truth row c d part k M) K) : Mt y_X_truth (3, 70, n, n, E) E [vR 1, vI row, vI c, vI d, vI part, vI k] M (qM K) := by
  refine Mt.of (by decide) (lb rfl) (Nat.le_refl _) rfl ?_
  rw [X_truth] at hz
  show Rr y_X_truth (3, 70, n, n, E) (qM K) 0 [(0, vR 1), (1, vI row), (2, vI c), (3, vI d), (4, vI part), (5, vI k)] [] E n M
  refine R_iload_n (pc := 0) 2 (dc k_X_truth 0 rfl) rfl rfl ?_
  obtain ⟨K_2, hK_3, hz⟩ := Z_cut hz
  have hJ_4 : ∀ (v_1 : Int), K_2 v_1 → Rr y_X_truth (3, 70, n, n, E) (qM K) 25 [(0, vR 1), (1, vI row), (2, vI c), (3, vI d), (4, vI part), (5, vI k)] [vI v_1] E n M := by
    intro v_1 hk
    have hz := hK_3 _ hk
    refine R_istore (pc := 25) (L' := [(6, vI v_1), (0, vR 1), (1, vI row), (2, vI c), (3, vI d), (4, vI part), (5, vI k)]) (dc k_X_truth 13 rfl) (lb rfl) rfl ?_
    refine R_iload (pc := 27) 0 (dc k_X_truth 14 rfl) rfl ?_
    obtain ⟨K_15, hK_16, hz⟩ := Z_cut hz
    have hX_17 : K_15 true → Rr y_X_truth (3, 70, n, n, E) (qM K) 54 [(6, vI v_1), (0, vR 1), (1, vI row), (2, vI c), (3, vI d), (4, vI part), (5, vI k)] [] E n M := by
      intro hk
      have hz := Z_pos rfl (hK_16 _ hk)
      refine R_iconst (pc := 54) (a := (-1)) (dc k_X_truth 26 rfl) ?_
      exact R_iret (pc := 55) (dc k_X_truth 27 rfl) rfl rfl rfl ⟨_, rfl, (Z_some hz)⟩
    have hY_18 : K_15 false → Rr y_X_truth (3, 70, n, n, E) (qM K) 56 [(6, vI v_1), (0, vR 1), (1, vI row), (2, vI c), (3, vI d), (4, vI part), (5, vI k)] [] E n M := by
      intro hk
      have hz := Z_neg Bool.false_ne_true (hK_16 _ hk)
      refine R_aload_n (pc := 56) 1 (dc k_X_truth 28 rfl) rfl rfl ?_
      refine R_getS (pc := 57) (ci := 0) (k := 7) 71 (dc k_X_truth 29 rfl) fl_X_46 rfl (lb rfl) (Nat.le_trans (lb rfl) hn) (hE 1 (lb rfl) (lb rfl)) rfl (by decide) rfl ?_
      refine R_aload_n (pc := 60) 1 (dc k_X_truth 30 rfl) rfl rfl ?_
      obtain ⟨hg_24, hz⟩ := Z_chk hz
      obtain ⟨t_25, ht_25, hz⟩ := Z_lt hz
      obtain ⟨hq_26, ht_25t⟩ := isTI.at' hg_24 ht_25
      have hnt_25t := qTn ht_25t hn
      have hEt_25t := qTE ht_25t hE
      refine R_getR (pc := 61) (ci := 0) (k := 2) t_25 (dc k_X_truth 31 rfl) fl_X_16 rfl (lb rfl) (Nat.le_trans (lb rfl) hn) (Or.inr rfl) hq_26 (qT0 ht_25t) rfl ?_
      refine R_aload_n (pc := 64) 1 (dc k_X_truth 32 rfl) rfl rfl ?_
      refine R_getS (pc := 65) (ci := 0) (k := 5) 42 (dc k_X_truth 33 rfl) fl_X_35 rfl (lb rfl) (Nat.le_trans (lb rfl) hn) (hE 1 (lb rfl) (lb rfl)) rfl (by decide) rfl ?_
      refine R_iload (pc := 68) 6 (dc k_X_truth 34 rfl) rfl ?_
      refine R_cVV (pc := 70)  (As := [vR t_25, vR 42, vI k]) (S := []) ck_X_161 (dc k_X_truth 35 rfl) ⟨rfl, ⟨_, rfl, rfl⟩, (lb rfl), (Nat.le_trans (lb rfl) hn)⟩ (lb rfl) (lb rfl) (lb rfl) rfl (ct_W_look hE hn ht_25t (Z_bind hz)) (fun M_27 hz => ?_)
      refine R_aload_n (pc := 73) 1 (dc k_X_truth 36 rfl) rfl rfl ?_
      refine R_getS (pc := 74) (ci := 0) (k := 7) 71 (dc k_X_truth 37 rfl) fl_X_46 rfl (lb rfl) (Nat.le_trans (lb rfl) hn) (hE 1 (lb rfl) (lb rfl)) rfl (by decide) rfl ?_
      refine R_iload_n (pc := 77) 2 (dc k_X_truth 38 rfl) rfl rfl ?_
      refine R_cVP (pc := 78)  (As := [vI row]) (S := []) ck_X_173 (dc k_X_truth 39 rfl) ⟨rfl, ⟨_, rfl, rfl⟩, (lb rfl), (Nat.le_trans (lb rfl) hn)⟩ (lb rfl) (lb rfl) (lb rfl) rfl (ct_W_sizeOf hE hn (Z_bind hz)) (fun r_28 hz => ?_)
      refine R_istore (pc := 81) (L' := [(7, vI r_28), (6, vI v_1), (0, vR 1), (1, vI row), (2, vI c), (3, vI d), (4, vI part), (5, vI k)]) (dc k_X_truth 40 rfl) (lb rfl) rfl ?_
      refine R_iload (pc := 83) 0 (dc k_X_truth 41 rfl) rfl ?_
      refine R_iload_n (pc := 85) 4 (dc k_X_truth 42 rfl) rfl rfl ?_
      refine R_imul (pc := 86) (dc k_X_truth 43 rfl) ?_
      obtain ⟨l8_29, hl8_29, hz⟩ := Z_lt hz
      refine R_istoreE (pc := 87) (L' := [(8, vI l8_29), (7, vI r_28), (6, vI v_1), (0, vR 1), (1, vI row), (2, vI c), (3, vI d), (4, vI part), (5, vI k)]) (dc k_X_truth 44 rfl) (lb rfl) hl8_29 rfl ?_
      refine R_iload (pc := 89) 0 (dc k_X_truth 45 rfl) rfl ?_
      refine R_aload_n (pc := 91) 3 (dc k_X_truth 46 rfl) rfl rfl ?_
      refine R_getS (pc := 92) (ci := 0) (k := 7) 71 (dc k_X_truth 47 rfl) fl_X_46 rfl (lb rfl) (Nat.le_trans (lb rfl) hn) (hE 1 (lb rfl) (lb rfl)) rfl (by decide) rfl ?_
      refine R_getI (pc := 95) (ci := 6) (k := 5) (dc k_X_truth 48 rfl) fl_X_165 rfl (lb rfl) (Nat.le_trans (lb rfl) hn) rfl (Or.inl rfl) ?_
      refine R_iload (pc := 98) 1 (dc k_X_truth 49 rfl) rfl ?_
      refine R_isub (pc := 100) (dc k_X_truth 50 rfl) ?_
      refine R_iload_n (pc := 101) 6 (dc k_X_truth 51 rfl) rfl rfl ?_
      refine R_imul (pc := 102) (dc k_X_truth 52 rfl) ?_
      refine R_iadd (pc := 103) (dc k_X_truth 53 rfl) ?_
      obtain ⟨l9_30, hl9_30, hz⟩ := Z_lt hz
      refine R_istoreE (pc := 104) (L' := [(9, vI l9_30), (8, vI l8_29), (7, vI r_28), (6, vI v_1), (0, vR 1), (1, vI row), (2, vI c), (3, vI d), (4, vI part), (5, vI k)]) (dc k_X_truth 54 rfl) (lb rfl) hl9_30 rfl ?_
      refine R_iload (pc := 106) 0 (dc k_X_truth 55 rfl) rfl ?_
      refine R_if_ne (pc := 108) 113 (dc k_X_truth 56 rfl) rfl (fun hc => ?_) (fun hc => ?_)
      · have hz := Z_neg (show ¬ (n32 l9_30 = 0) from hc) hz
        refine R_iload (pc := 113) 0 (dc k_X_truth 59 rfl) rfl ?_
        refine R_iload (pc := 115) 1 (dc k_X_truth 60 rfl) rfl ?_
        refine R_cSP (pc := 117)  (As := [vI l9_30, vI l8_29]) (S := []) ck_X_225 (dc k_X_truth 61 rfl) (lb rfl) (lb rfl) (lb rfl) rfl (ct_X_commonDivisor hE hn (Z_bind hz)) (fun r_31 hz => ?_)
        refine R_istore (pc := 120) (L' := [(10, vI r_31), (9, vI l9_30), (8, vI l8_29), (7, vI r_28), (6, vI v_1), (0, vR 1), (1, vI row), (2, vI c), (3, vI d), (4, vI part), (5, vI k)]) (dc k_X_truth 62 rfl) (lb rfl) rfl ?_
        refine R_iload (pc := 122) 9 (dc k_X_truth 63 rfl) rfl ?_
        obtain ⟨K_33, hK_34, hz⟩ := Z_cut hz
        have hJ_35 : ∀ (v_32 : Int), K_33 v_32 → Rr y_X_truth (3, 70, n, n, E) (qM K) 134 [(10, vI r_31)] [vI v_32] E n M_27 := by
          intro v_32 hk
          have hz := hK_34 _ hk
          refine R_iload (pc := 134) 0 (dc k_X_truth 68 rfl) rfl ?_
          obtain ⟨hg_37, hz⟩ := Z_chk hz
          refine R_idiv (pc := 136) (dc k_X_truth 69 rfl) hg_37 ?_
          exact R_iret (pc := 137) (dc k_X_truth 70 rfl) rfl rfl rfl ⟨_, rfl, (Z_some hz)⟩
        refine R_if_ne (pc := 124) 132 (dc k_X_truth 64 rfl) rfl (fun hc => ?_) (fun hc => ?_)
        · have hz := Z_neg (show ¬ (n32 part = 0) from hc) hz
          refine R_iload (pc := 132) 1 (dc k_X_truth 67 rfl) rfl ?_
          refine R_sub [0] rfl ?_
          exact hJ_35 _ (Z_some hz)
        · have hz := Z_pos (show n32 part = 0 from (Decidable.not_not.mp hc)) hz
          refine R_iload (pc := 127) 2 (dc k_X_truth 65 rfl) rfl ?_
          refine R_goto (pc := 129) 134 (dc k_X_truth 66 rfl) rfl ?_
          refine R_sub [0] rfl ?_
          exact hJ_35 _ (Z_some hz)
      · have hz := Z_pos (show n32 l9_30 = 0 from (Decidable.not_not.mp hc)) hz
        refine R_iconst (pc := 111) (a := (-1)) (dc k_X_truth 57 rfl) ?_
        exact R_iret (pc := 112) (dc k_X_truth 58 rfl) rfl rfl rfl ⟨_, rfl, (Z_some hz)⟩
    refine R_if_eq (pc := 29) 54 (dc k_X_truth 15 rfl) rfl (fun hc => ?_) (fun hc => ?_)
    · have hz := Z_neg (show ¬ (¬ n32 v_1 = 0) from (fun z => z hc)) hz
      exact hX_17 (Z_some hz)
    · have hz := Z_pos (show ¬ n32 v_1 = 0 from hc) hz
      refine R_iload (pc := 32) 5 (dc k_X_truth 16 rfl) rfl ?_
      refine R_if_lt (pc := 34) 54 (dc k_X_truth 17 rfl) rfl (fun hc => ?_) (fun hc => ?_)
      · have hz := Z_neg (show ¬ (0 ≤ n32 part) from (Int.not_le.mpr hc)) hz
        exact hX_17 (Z_some hz)
      · have hz := Z_pos (show 0 ≤ n32 part from (Int.not_lt.mp hc)) hz
        refine R_iload (pc := 37) 5 (dc k_X_truth 18 rfl) rfl ?_
        refine R_iconst (pc := 39) (a := 1) (dc k_X_truth 19 rfl) ?_
        refine R_icmp_gt (pc := 40) 54 (dc k_X_truth 20 rfl) rfl (fun hc => ?_) (fun hc => ?_)
        · have hz := Z_neg (show ¬ (n32 part ≤ 1) from (Int.not_le.mpr hc)) hz
          exact hX_17 (Z_some hz)
        · have hz := Z_pos (show n32 part ≤ 1 from (Int.not_lt.mp hc)) hz
          refine R_aload_n (pc := 43) 1 (dc k_X_truth 21 rfl) rfl rfl ?_
          obtain ⟨hg_20, hz⟩ := Z_chk hz
          obtain ⟨t_21, ht_21, hz⟩ := Z_lt hz
          obtain ⟨hq_22, ht_21t⟩ := isTI.at' hg_20 ht_21
          have hnt_21t := qTn ht_21t hn
          have hEt_21t := qTE ht_21t hE
          refine R_getR (pc := 44) (ci := 0) (k := 2) t_21 (dc k_X_truth 22 rfl) fl_X_16 rfl (lb rfl) (Nat.le_trans (lb rfl) hn) (Or.inr rfl) hq_22 (qT0 ht_21t) rfl ?_
          refine R_iload_n (pc := 47) 2 (dc k_X_truth 23 rfl) rfl rfl ?_
          refine R_cVP (pc := 48)  (As := [vI row]) (S := []) ck_X_143 (dc k_X_truth 24 rfl) ⟨(lT ht_21t), ⟨_, rfl, rfl⟩, (qT1 ht_21t), (qTn_0 hnt_21t)⟩ (lb rfl) (lb rfl) (lb rfl) rfl (ct_T_hasRow hE hn ht_21t (Z_bind hz)) (fun r_23 hz => ?_)
          refine R_if_ne (pc := 51) 56 (dc k_X_truth 25 rfl) rfl (fun hc => ?_) (fun hc => ?_)
          · have hz := Z_neg (show ¬ (n32 r_23 = 0) from hc) hz
            exact hY_18 (Z_some hz)
          · have hz := Z_pos (show n32 r_23 = 0 from (Decidable.not_not.mp hc)) hz
            exact hX_17 (Z_some hz)
  have hX_5 : ((0 ≤ n32 c) ∧ ((n32 c ≤ 10) ∧ ((0 ≤ n32 d) ∧ (n32 d ≤ 10)))) → Rr y_X_truth (3, 70, n, n, E) (qM K) 20 [(0, vR 1), (1, vI row), (2, vI c), (3, vI d), (4, vI part), (5, vI k)] [] E n M := by
    intro hc
    have hz := Z_pos hc hz
    refine R_iconst (pc := 20) (a := 1) (dc k_X_truth 10 rfl) ?_
    refine R_goto (pc := 21) 25 (dc k_X_truth 11 rfl) rfl ?_
    exact hJ_4 _ (Z_some hz)
  have hY_6 : ¬ ((0 ≤ n32 c) ∧ ((n32 c ≤ 10) ∧ ((0 ≤ n32 d) ∧ (n32 d ≤ 10)))) → Rr y_X_truth (3, 70, n, n, E) (qM K) 24 [(0, vR 1), (1, vI row), (2, vI c), (3, vI d), (4, vI part), (5, vI k)] [] E n M := by
    intro hc
    have hz := Z_neg hc hz
    refine R_iconst (pc := 24) (a := 0) (dc k_X_truth 12 rfl) ?_
    exact hJ_4 _ (Z_some hz)
  refine R_if_lt (pc := 1) 24 (dc k_X_truth 1 rfl) rfl (fun hc => ?_) (fun hc => ?_)
  · have hc_7 : n32 c < 0 := hc
    exact hY_6 (fun z => (Int.not_le.mpr hc_7) z.1)
  · have hc_8 : 0 ≤ n32 c := (Int.not_lt.mp hc)
    refine R_iload_n (pc := 4) 2 (dc k_X_truth 2 rfl) rfl rfl ?_
    refine R_bipush (pc := 5) (a := 10) (dc k_X_truth 3 rfl) (by decide) ?_
    refine R_icmp_gt (pc := 7) 24 (dc k_X_truth 4 rfl) rfl (fun hc => ?_) (fun hc => ?_)
    · have hc_9 : 10 < n32 c := hc
      exact hY_6 (fun z => (fun z => (Int.not_le.mpr hc_9) z.1) z.2)
    · have hc_10 : n32 c ≤ 10 := (Int.not_lt.mp hc)
      refine R_iload_n (pc := 10) 3 (dc k_X_truth 5 rfl) rfl rfl ?_
      refine R_if_lt (pc := 11) 24 (dc k_X_truth 6 rfl) rfl (fun hc => ?_) (fun hc => ?_)
      · have hc_11 : n32 d < 0 := hc
        exact hY_6 (fun z => (fun z => (fun z => (Int.not_le.mpr hc_11) z.1) z.2) z.2)
      · have hc_12 : 0 ≤ n32 d := (Int.not_lt.mp hc)
        refine R_iload_n (pc := 14) 3 (dc k_X_truth 7 rfl) rfl rfl ?_
        refine R_bipush (pc := 15) (a := 10) (dc k_X_truth 8 rfl) (by decide) ?_
        refine R_icmp_gt (pc := 17) 24 (dc k_X_truth 9 rfl) rfl (fun hc => ?_) (fun hc => ?_)
        · have hc_13 : 10 < n32 d := hc
          exact hY_6 (fun z => (fun z => (fun z => (Int.not_le.mpr hc_13) z.2) z.2) z.2)
        · have hc_14 : n32 d ≤ 10 := (Int.not_lt.mp hc)
          exact hX_5 ⟨hc_8, ⟨hc_10, ⟨hc_12, hc_14⟩⟩⟩

set_option maxRecDepth 20000 in
theorem ct_C_notePairs {E : Nat → Bool} {n : Nat} (hE : ∀ c, 1 ≤ c → c ≤ 80 → E c = true) (hn : 80 ≤ n) {saying : Int} {M : Mem} {K : Mem → Prop} (hz : Z (C_notePairs saying M) K) : Mt y_C_notePairs (1, 21, n, n, E) E [vR 78, vI saying] M (qV K) := by
  refine Mt.of (by decide) (lb rfl) (Nat.le_refl _) rfl ?_
  rw [C_notePairs] at hz
  show Rr y_C_notePairs (1, 21, n, n, E) (qV K) 0 [(0, vR 78), (1, vI saying)] [] E n M
  refine R_aload_n (pc := 0) 0 (dc k_C_notePairs 0 rfl) rfl rfl ?_
  obtain ⟨hg_1, hz⟩ := Z_chk hz
  refine R_getR (pc := 1) (ci := 9) (k := 1) 42 (dc k_C_notePairs 1 rfl) fl_C_19 rfl (lb rfl) (Nat.le_trans (lb rfl) hn) (Or.inr rfl) hg_1 (by decide) rfl ?_
  refine R_getS (pc := 4) (ci := 5) (k := 2) 43 (dc k_C_notePairs 2 rfl) fl_C_47 rfl (lb rfl) (Nat.le_trans (lb rfl) hn) (hE 42 (lb rfl) (lb rfl)) rfl (by decide) rfl ?_
  refine R_iload_n (pc := 7) 1 (dc k_C_notePairs 3 rfl) rfl rfl ?_
  obtain ⟨⟨hg_2, hg_3⟩, hz⟩ := Z_chk hz
  refine R_iald (pc := 8) (dc k_C_notePairs 4 rfl) rfl (lb rfl) (Nat.le_trans (lb rfl) hn) hg_2 hg_3 ?_
  obtain ⟨l2_4, hl2_4, hz⟩ := Z_lt hz
  refine R_istore_nE (pc := 9) (L' := [(2, vI l2_4), (0, vR 78), (1, vI saying)]) (dc k_C_notePairs 5 rfl) rfl (lb rfl) hl2_4 rfl ?_
  refine R_iconst (pc := 10) (a := 0) (dc k_C_notePairs 6 rfl) ?_
  refine R_istore_n (pc := 11) (L' := [(3, vI 0), (2, vI l2_4), (0, vR 78), (1, vI saying)]) (dc k_C_notePairs 7 rfl) rfl (lb rfl) rfl ?_
  obtain ⟨K_7, hK_8, hz⟩ := Z_cut hz
  have hX_9 : ∀ (M_13 : Mem), K_7 M_13 → Rr y_C_notePairs (1, 21, n, n, E) (qV K) 87 [] [] E n M_13 := by
    intro M_13 hk
    have hz := hK_8 _ hk
    exact R_vret (pc := 87) (dc k_C_notePairs 48 rfl) rfl rfl rfl ⟨rfl, (Z_some hz)⟩
  refine R_sub [2, 3, 1, 0] rfl ?_
  refine it_R (C := fun aZ : Int × Mem => Rr y_C_notePairs (1, 21, n, n, E) (qV K) 12 [(0, vR 78), (1, vI saying), (2, vI l2_4), (3, vI aZ.1)] [] E n aZ.2) (fun aZ K_10 hC_11 hB_12 hz => ?_) FUEL (0, M) hz
  obtain ⟨l3_5, M_6⟩ := aZ
  rw [C_notePairs_b12] at hz
  show Rr y_C_notePairs (1, 21, n, n, E) (qV K) 12 [(0, vR 78), (1, vI saying), (2, vI l2_4), (3, vI l3_5)] [] E n M_6
  refine R_iload_n (pc := 12) 3 (dc k_C_notePairs 8 rfl) rfl rfl ?_
  refine R_aload_n (pc := 13) 0 (dc k_C_notePairs 9 rfl) rfl rfl ?_
  obtain ⟨hg_14, hz⟩ := Z_chk hz
  obtain ⟨t_15, ht_15, hz⟩ := Z_lt hz
  obtain ⟨hq_16, ht_15t⟩ := isTI.at' hg_14 ht_15
  have hnt_15t := qTn ht_15t hn
  have hEt_15t := qTE ht_15t hE
  refine R_getR (pc := 14) (ci := 9) (k := 0) t_15 (dc k_C_notePairs 10 rfl) fl_C_15 rfl (lb rfl) (Nat.le_trans (lb rfl) hn) (Or.inr rfl) hq_16 (qT0 ht_15t) rfl ?_
  refine R_getI (pc := 17) (ci := 1) (k := 1) (dc k_C_notePairs 11 rfl) fl_C_60 (lT ht_15t) (qT1 ht_15t) (qTn_0 hnt_15t) (rT_1 ht_15t) (Or.inl rfl) ?_
  refine R_icmp_ge (pc := 20) 87 (dc k_C_notePairs 12 rfl) rfl (fun hc => ?_) (fun hc => ?_)
  · have hz := Z_neg (show ¬ (n32 l3_5 < n32 (M_6 t_15 1)) from (Int.not_lt.mpr hc)) hz
    refine R_sub [] rfl ?_
    exact hX_9 _ (hB_12 _ (Z_some hz))
  · have hz := Z_pos (show n32 l3_5 < n32 (M_6 t_15 1) from (Int.not_le.mp hc)) hz
    refine R_iload_n (pc := 23) 3 (dc k_C_notePairs 13 rfl) rfl rfl ?_
    refine R_iconst (pc := 24) (a := 1) (dc k_C_notePairs 14 rfl) ?_
    refine R_iadd (pc := 25) (dc k_C_notePairs 15 rfl) ?_
    obtain ⟨l4_17, hl4_17, hz⟩ := Z_lt hz
    refine R_istoreE (pc := 26) (L' := [(4, vI l4_17), (0, vR 78), (1, vI saying), (2, vI l2_4), (3, vI l3_5)]) (dc k_C_notePairs 16 rfl) (lb rfl) hl4_17 rfl ?_
    obtain ⟨K_20, hK_21, hz⟩ := Z_cut hz
    have hX_22 : ∀ (M_26 : Mem), K_20 M_26 → Rr y_C_notePairs (1, 21, n, n, E) (qV K) 81 [(0, vR 78), (1, vI saying), (2, vI l2_4), (3, vI l3_5)] [] E n M_26 := by
      intro M_26 hk
      have hz := hK_21 _ hk
      obtain ⟨l3_46, hl3_46, hz⟩ := Z_lt hz
      refine R_iincE (pc := 81) (L' := [(3, vI l3_46), (0, vR 78), (1, vI saying), (2, vI l2_4)]) 3 (dc k_C_notePairs 46 rfl) rfl (lb rfl) hl3_46 rfl ?_
      refine R_goto (pc := 84) 12 (dc k_C_notePairs 47 rfl) rfl ?_
      refine R_sub [1, 2, 3, 0] rfl ?_
      exact hC_11 _ (Z_some hz)
    refine R_sub [1, 2, 3, 4, 0] rfl ?_
    refine it_R (C := fun aZ : Int × Mem => Rr y_C_notePairs (1, 21, n, n, E) (qV K) 28 [(0, vR 78), (1, vI saying), (2, vI l2_4), (3, vI l3_5), (4, vI aZ.1)] [] E n aZ.2) (fun aZ K_23 hC_24 hB_25 hz => ?_) FUEL (l4_17, M_6) hz
    obtain ⟨l4_18, M_19⟩ := aZ
    rw [C_notePairs_b28] at hz
    show Rr y_C_notePairs (1, 21, n, n, E) (qV K) 28 [(0, vR 78), (1, vI saying), (2, vI l2_4), (3, vI l3_5), (4, vI l4_18)] [] E n M_19
    refine R_iload (pc := 28) 4 (dc k_C_notePairs 17 rfl) rfl ?_
    refine R_aload_n (pc := 30) 0 (dc k_C_notePairs 18 rfl) rfl rfl ?_
    obtain ⟨hg_27, hz⟩ := Z_chk hz
    obtain ⟨t_28, ht_28, hz⟩ := Z_lt hz
    obtain ⟨hq_29, ht_28t⟩ := isTI.at' hg_27 ht_28
    have hnt_28t := qTn ht_28t hn
    have hEt_28t := qTE ht_28t hE
    refine R_getR (pc := 31) (ci := 9) (k := 0) t_28 (dc k_C_notePairs 19 rfl) fl_C_15 rfl (lb rfl) (Nat.le_trans (lb rfl) hn) (Or.inr rfl) hq_29 (qT0 ht_28t) rfl ?_
    refine R_getI (pc := 34) (ci := 1) (k := 1) (dc k_C_notePairs 20 rfl) fl_C_60 (lT ht_28t) (qT1 ht_28t) (qTn_0 hnt_28t) (rT_1 ht_28t) (Or.inl rfl) ?_
    refine R_icmp_ge (pc := 37) 81 (dc k_C_notePairs 21 rfl) rfl (fun hc => ?_) (fun hc => ?_)
    · have hz := Z_neg (show ¬ (n32 l4_18 < n32 (M_19 t_28 1)) from (Int.not_lt.mpr hc)) hz
      refine R_sub [0, 1, 2, 3] rfl ?_
      exact hX_22 _ (hB_25 _ (Z_some hz))
    · have hz := Z_pos (show n32 l4_18 < n32 (M_19 t_28 1) from (Int.not_le.mp hc)) hz
      refine R_iload_n (pc := 40) 2 (dc k_C_notePairs 22 rfl) rfl rfl ?_
      refine R_iload_n (pc := 41) 3 (dc k_C_notePairs 23 rfl) rfl rfl ?_
      refine R_cSP (pc := 42)  (As := [vI l2_4, vI l3_5]) (S := []) ck_C_64 (dc k_C_notePairs 24 rfl) (lb rfl) (lb rfl) (lb rfl) rfl (ct_X_hasBit hE hn (Z_bind hz)) (fun r_30 hz => ?_)
      obtain ⟨K_32, hK_33, hz⟩ := Z_cut hz
      have hJ_34 : ∀ (M_31 : Mem), K_32 M_31 → Rr y_C_notePairs (1, 21, n, n, E) (qV K) 75 [(0, vR 78), (1, vI saying), (2, vI l2_4), (3, vI l3_5), (4, vI l4_18)] [] E n M_31 := by
        intro M_31 hk
        have hz := hK_33 _ hk
        obtain ⟨l4_44, hl4_44, hz⟩ := Z_lt hz
        refine R_iincE (pc := 75) (L' := [(4, vI l4_44), (0, vR 78), (1, vI saying), (2, vI l2_4), (3, vI l3_5)]) 4 (dc k_C_notePairs 44 rfl) rfl (lb rfl) hl4_44 rfl ?_
        refine R_goto (pc := 78) 28 (dc k_C_notePairs 45 rfl) rfl ?_
        refine R_sub [1, 2, 3, 4, 0] rfl ?_
        exact hC_24 _ (Z_some hz)
      obtain ⟨K_35, hK_36, hz⟩ := Z_cut hz
      have hX_37 : K_35 true → Rr y_C_notePairs (1, 21, n, n, E) (qV K) 57 [(0, vR 78), (1, vI saying), (2, vI l2_4), (3, vI l3_5), (4, vI l4_18)] [] E n M_19 := by
        intro hk
        have hz := Z_pos rfl (hK_36 _ hk)
        refine R_aload_n (pc := 57) 0 (dc k_C_notePairs 30 rfl) rfl rfl ?_
        refine R_getS (pc := 58) (ci := 9) (k := 3) 79 (dc k_C_notePairs 31 rfl) fl_C_9 rfl (lb rfl) (Nat.le_trans (lb rfl) hn) (hE 78 (lb rfl) (lb rfl)) rfl (by decide) rfl ?_
        refine R_iload_n (pc := 61) 3 (dc k_C_notePairs 32 rfl) rfl rfl ?_
        refine R_bipush (pc := 62) (a := 8) (dc k_C_notePairs 33 rfl) (by decide) ?_
        refine R_imul (pc := 64) (dc k_C_notePairs 34 rfl) ?_
        refine R_iload (pc := 65) 4 (dc k_C_notePairs 35 rfl) rfl ?_
        refine R_iadd (pc := 67) (dc k_C_notePairs 36 rfl) ?_
        refine R_dup2 (pc := 68) (dc k_C_notePairs 37 rfl) rfl rfl ?_
        obtain ⟨⟨hg_41, hg_42⟩, hz⟩ := Z_chk hz
        refine R_lald (pc := 69) (dc k_C_notePairs 38 rfl) rfl (lb rfl) (Nat.le_trans (lb rfl) hn) hg_41 hg_42 ?_
        refine R_lconst (pc := 70) (a := 1) (dc k_C_notePairs 39 rfl) (by decide) ?_
        refine R_iload_n (pc := 71) 1 (dc k_C_notePairs 40 rfl) rfl rfl ?_
        refine R_lshl (pc := 72) (dc k_C_notePairs 41 rfl) ?_
        refine R_lor (pc := 73) (dc k_C_notePairs 42 rfl) ?_
        obtain ⟨M_43, hM_43, hz⟩ := Z_lt hz
        refine R_lastE (pc := 74) (dc k_C_notePairs 43 rfl) rfl (lb rfl) (Nat.le_trans (lb rfl) hn) hg_41 hg_42 hM_43 ?_
        exact hJ_34 _ (Z_some hz)
      have hY_38 : K_35 false → Rr y_C_notePairs (1, 21, n, n, E) (qV K) 75 [(0, vR 78), (1, vI saying), (2, vI l2_4), (3, vI l3_5), (4, vI l4_18)] [] E n M_19 := by
        intro hk
        have hz := Z_neg Bool.false_ne_true (hK_36 _ hk)
        exact hJ_34 _ (Z_some hz)
      refine R_if_eq (pc := 45) 75 (dc k_C_notePairs 25 rfl) rfl (fun hc => ?_) (fun hc => ?_)
      · have hz := Z_neg (show ¬ (¬ n32 r_30 = 0) from (fun z => z hc)) hz
        exact hY_38 (Z_some hz)
      · have hz := Z_pos (show ¬ n32 r_30 = 0 from hc) hz
        refine R_iload_n (pc := 48) 2 (dc k_C_notePairs 26 rfl) rfl rfl ?_
        refine R_iload (pc := 49) 4 (dc k_C_notePairs 27 rfl) rfl ?_
        refine R_cSP (pc := 51)  (As := [vI l2_4, vI l4_18]) (S := []) ck_C_64 (dc k_C_notePairs 28 rfl) (lb rfl) (lb rfl) (lb rfl) rfl (ct_X_hasBit hE hn (Z_bind hz)) (fun r_40 hz => ?_)
        refine R_if_eq (pc := 54) 75 (dc k_C_notePairs 29 rfl) rfl (fun hc => ?_) (fun hc => ?_)
        · have hz := Z_neg (show ¬ (¬ n32 r_40 = 0) from (fun z => z hc)) hz
          exact hY_38 (Z_some hz)
        · have hz := Z_pos (show ¬ n32 r_40 = 0 from hc) hz
          exact hX_37 (Z_some hz)

set_option maxRecDepth 20000 in
theorem ct_C_watch {E : Nat → Bool} {n : Nat} (hE : ∀ c, 1 ≤ c → c ≤ 80 → E c = true) (hn : 80 ≤ n) {tat_ : Nat} (htat_ : isT tat_) {M : Mem} {K : Mem → Prop} (hz : Z (C_watch tat_ M) K) : Mt y_C_watch (2, 45, n, n, E) E [vR 78, vR tat_, vR 42, vR 71] M (qV K) := by
  refine Mt.of (by decide) (lb rfl) (Nat.le_refl _) rfl ?_
  rw [C_watch] at hz
  have hntat_ := qTn htat_ hn
  have hEtat_ := qTE htat_ hE
  show Rr y_C_watch (2, 45, n, n, E) (qV K) 0 [(0, vR 78), (1, vR tat_), (2, vR 42), (3, vR 71)] [] E n M
  refine R_aload_n (pc := 0) 0 (dc k_C_watch 0 rfl) rfl rfl ?_
  refine R_aload_n (pc := 1) 1 (dc k_C_watch 1 rfl) rfl rfl ?_
  obtain ⟨M_1, hM_1, hz⟩ := Z_lt hz
  refine R_putRE (pc := 2) (ci := 9) (k := 0) (dc k_C_watch 2 rfl) fl_C_15 rfl (lb rfl) (Nat.le_trans (lb rfl) hn) rfl rfl (qT0 htat_) (qTn_0 hntat_) rfl hM_1 ?_
  refine R_aload_n (pc := 5) 0 (dc k_C_watch 3 rfl) rfl rfl ?_
  refine R_aload_n (pc := 6) 2 (dc k_C_watch 4 rfl) rfl rfl ?_
  obtain ⟨M_2, hM_2, hz⟩ := Z_lt hz
  refine R_putRE (pc := 7) (ci := 9) (k := 1) (dc k_C_watch 5 rfl) fl_C_19 rfl (lb rfl) (Nat.le_trans (lb rfl) hn) rfl rfl (by decide) (Nat.le_trans (lb rfl) hn) rfl hM_2 ?_
  refine R_aload_n (pc := 10) 0 (dc k_C_watch 6 rfl) rfl rfl ?_
  refine R_aload_n (pc := 11) 3 (dc k_C_watch 7 rfl) rfl rfl ?_
  obtain ⟨M_3, hM_3, hz⟩ := Z_lt hz
  refine R_putRE (pc := 12) (ci := 9) (k := 2) (dc k_C_watch 8 rfl) fl_C_23 rfl (lb rfl) (Nat.le_trans (lb rfl) hn) rfl rfl (by decide) (Nat.le_trans (lb rfl) hn) rfl hM_3 ?_
  refine R_aload_n (pc := 15) 0 (dc k_C_watch 9 rfl) rfl rfl ?_
  refine R_lconst (pc := 16) (a := 0) (dc k_C_watch 10 rfl) (by decide) ?_
  obtain ⟨M_4, hM_4, hz⟩ := Z_lt hz
  refine R_putJE (pc := 17) (ci := 9) (k := 4) (dc k_C_watch 11 rfl) fl_C_27 rfl (lb rfl) (Nat.le_trans (lb rfl) hn) rfl rfl rfl hM_4 ?_
  refine R_iconst (pc := 20) (a := 0) (dc k_C_watch 12 rfl) ?_
  refine R_istore (pc := 21) (L' := [(4, vI 0), (0, vR 78), (1, vR tat_), (2, vR 42), (3, vR 71)]) (dc k_C_watch 13 rfl) (lb rfl) rfl ?_
  obtain ⟨K_7, hK_8, hz⟩ := Z_cut hz
  have hX_9 : ∀ (M_13 : Mem), K_7 M_13 → Rr y_C_watch (2, 45, n, n, E) (qV K) 44 [(0, vR 78)] [] E n M_13 := by
    intro M_13 hk
    have hz := hK_8 _ hk
    refine R_iconst (pc := 44) (a := 0) (dc k_C_watch 24 rfl) ?_
    refine R_istore (pc := 45) (L' := [(4, vI 0), (0, vR 78)]) (dc k_C_watch 25 rfl) (lb rfl) rfl ?_
    obtain ⟨K_21, hK_22, hz⟩ := Z_cut hz
    have hX_23 : ∀ (M_27 : Mem), K_21 M_27 → Rr y_C_watch (2, 45, n, n, E) (qV K) 126 [] [] E n M_27 := by
      intro M_27 hk
      have hz := hK_22 _ hk
      exact R_vret (pc := 126) (dc k_C_watch 64 rfl) rfl rfl rfl ⟨rfl, (Z_some hz)⟩
    refine R_sub [1, 0] rfl ?_
    refine it_R (C := fun aZ : Int × Mem => Rr y_C_watch (2, 45, n, n, E) (qV K) 47 [(0, vR 78), (4, vI aZ.1)] [] E n aZ.2) (fun aZ K_24 hC_25 hB_26 hz => ?_) FUEL (0, M_13) hz
    obtain ⟨l4_19, M_20⟩ := aZ
    rw [C_watch_b47] at hz
    show Rr y_C_watch (2, 45, n, n, E) (qV K) 47 [(0, vR 78), (4, vI l4_19)] [] E n M_20
    refine R_iload (pc := 47) 1 (dc k_C_watch 26 rfl) rfl ?_
    refine R_aload_n (pc := 49) 0 (dc k_C_watch 27 rfl) rfl rfl ?_
    obtain ⟨hg_28, hz⟩ := Z_chk hz
    refine R_getR (pc := 50) (ci := 9) (k := 2) 71 (dc k_C_watch 28 rfl) fl_C_23 rfl (lb rfl) (Nat.le_trans (lb rfl) hn) (Or.inr rfl) hg_28 (by decide) rfl ?_
    refine R_getI (pc := 53) (ci := 6) (k := 3) (dc k_C_watch 29 rfl) fl_C_31 rfl (lb rfl) (Nat.le_trans (lb rfl) hn) rfl (Or.inl rfl) ?_
    refine R_icmp_ge (pc := 56) 126 (dc k_C_watch 30 rfl) rfl (fun hc => ?_) (fun hc => ?_)
    · have hz := Z_neg (show ¬ (n32 l4_19 < n32 (M_20 71 3)) from (Int.not_lt.mpr hc)) hz
      refine R_sub [] rfl ?_
      exact hX_23 _ (hB_26 _ (Z_some hz))
    · have hz := Z_pos (show n32 l4_19 < n32 (M_20 71 3) from (Int.not_le.mp hc)) hz
      refine R_aload_n (pc := 59) 0 (dc k_C_watch 31 rfl) rfl rfl ?_
      refine R_getR (pc := 60) (ci := 9) (k := 2) 71 (dc k_C_watch 32 rfl) fl_C_23 rfl (lb rfl) (Nat.le_trans (lb rfl) hn) (Or.inr rfl) hg_28 (by decide) rfl ?_
      refine R_getS (pc := 63) (ci := 6) (k := 2) 72 (dc k_C_watch 33 rfl) fl_C_37 rfl (lb rfl) (Nat.le_trans (lb rfl) hn) (hE 71 (lb rfl) (lb rfl)) rfl (by decide) rfl ?_
      refine R_iload (pc := 66) 1 (dc k_C_watch 34 rfl) rfl ?_
      obtain ⟨⟨hg_29, hg_30⟩, hz⟩ := Z_chk hz
      refine R_iald (pc := 68) (dc k_C_watch 35 rfl) rfl (lb rfl) (Nat.le_trans (lb rfl) hn) hg_29 hg_30 ?_
      obtain ⟨l5_31, hl5_31, hz⟩ := Z_lt hz
      refine R_istoreE (pc := 69) (L' := [(5, vI l5_31), (0, vR 78), (4, vI l4_19)]) (dc k_C_watch 36 rfl) (lb rfl) hl5_31 rfl ?_
      refine R_aload_n (pc := 71) 1 (dc k_C_watch 37 rfl) rfl rfl ?_
      obtain ⟨hg_32, hz⟩ := Z_chk hz
      refine R_getR (pc := 72) (ci := 9) (k := 1) 42 (dc k_C_watch 38 rfl) fl_C_19 rfl (lb rfl) (Nat.le_trans (lb rfl) hn) (Or.inr rfl) hg_32 (by decide) rfl ?_
      refine R_getS (pc := 75) (ci := 5) (k := 4) 45 (dc k_C_watch 39 rfl) fl_C_41 rfl (lb rfl) (Nat.le_trans (lb rfl) hn) (hE 42 (lb rfl) (lb rfl)) rfl (by decide) rfl ?_
      refine R_iload (pc := 78) 0 (dc k_C_watch 40 rfl) rfl ?_
      obtain ⟨⟨hg_33, hg_34⟩, hz⟩ := Z_chk hz
      refine R_zald (pc := 80) (dc k_C_watch 41 rfl) rfl (lb rfl) (Nat.le_trans (lb rfl) hn) hg_33 hg_34 ?_
      obtain ⟨K_36, hK_37, hz⟩ := Z_cut hz
      have hJ_38 : ∀ (M_35 : Mem), K_36 M_35 → Rr y_C_watch (2, 45, n, n, E) (qV K) 120 [(0, vR 78), (4, vI l4_19)] [] E n M_35 := by
        intro M_35 hk
        have hz := hK_37 _ hk
        obtain ⟨l4_47, hl4_47, hz⟩ := Z_lt hz
        refine R_iincE (pc := 120) (L' := [(4, vI l4_47), (0, vR 78)]) 1 (dc k_C_watch 62 rfl) rfl (lb rfl) hl4_47 rfl ?_
        refine R_goto (pc := 123) 47 (dc k_C_watch 63 rfl) rfl ?_
        refine R_sub [1, 0] rfl ?_
        exact hC_25 _ (Z_some hz)
      obtain ⟨K_39, hK_40, hz⟩ := Z_cut hz
      have hX_41 : K_39 true → Rr y_C_watch (2, 45, n, n, E) (qV K) 101 [(5, vI l5_31), (0, vR 78), (4, vI l4_19)] [] E n M_20 := by
        intro hk
        have hz := Z_pos rfl (hK_40 _ hk)
        refine R_aload_n (pc := 101) 1 (dc k_C_watch 51 rfl) rfl rfl ?_
        refine R_dup (pc := 102) (dc k_C_watch 52 rfl) rfl ?_
        refine R_getJ (pc := 103) (ci := 9) (k := 4) (dc k_C_watch 53 rfl) fl_C_27 rfl (lb rfl) (Nat.le_trans (lb rfl) hn) rfl rfl ?_
        refine R_lconst (pc := 106) (a := 1) (dc k_C_watch 54 rfl) (by decide) ?_
        refine R_iload (pc := 107) 0 (dc k_C_watch 55 rfl) rfl ?_
        refine R_lshl (pc := 109) (dc k_C_watch 56 rfl) ?_
        refine R_lor (pc := 110) (dc k_C_watch 57 rfl) ?_
        obtain ⟨M_45, hM_45, hz⟩ := Z_lt hz
        refine R_putJE (pc := 111) (ci := 9) (k := 4) (dc k_C_watch 58 rfl) fl_C_27 rfl (lb rfl) (Nat.le_trans (lb rfl) hn) rfl rfl rfl hM_45 ?_
        refine R_aload_n (pc := 114) 1 (dc k_C_watch 59 rfl) rfl rfl ?_
        refine R_iload (pc := 115) 0 (dc k_C_watch 60 rfl) rfl ?_
        refine R_cVV (pc := 117)  (As := [vI l5_31]) (S := []) ck_C_56 (dc k_C_watch 61 rfl) ⟨rfl, ⟨_, rfl, rfl⟩, (lb rfl), (Nat.le_trans (lb rfl) hn)⟩ (lb rfl) (lb rfl) (lb rfl) rfl (ct_C_notePairs hE hn (Z_bind hz)) (fun M_46 hz => ?_)
        refine R_sub [1, 2] rfl ?_
        exact hJ_38 _ (Z_some hz)
      have hY_42 : K_39 false → Rr y_C_watch (2, 45, n, n, E) (qV K) 120 [(5, vI l5_31), (0, vR 78), (4, vI l4_19)] [] E n M_20 := by
        intro hk
        have hz := Z_neg Bool.false_ne_true (hK_40 _ hk)
        refine R_sub [1, 2] rfl ?_
        exact hJ_38 _ (Z_some hz)
      refine R_if_eq (pc := 81) 120 (dc k_C_watch 42 rfl) rfl (fun hc => ?_) (fun hc => ?_)
      · have hz := Z_neg (show ¬ (¬ n32 (M_20 45 (Int.toNat l5_31)) = 0) from (fun z => z hc)) hz
        exact hY_42 (Z_some hz)
      · have hz := Z_pos (show ¬ n32 (M_20 45 (Int.toNat l5_31)) = 0 from hc) hz
        refine R_aload_n (pc := 84) 1 (dc k_C_watch 43 rfl) rfl rfl ?_
        refine R_getR (pc := 85) (ci := 9) (k := 1) 42 (dc k_C_watch 44 rfl) fl_C_19 rfl (lb rfl) (Nat.le_trans (lb rfl) hn) (Or.inr rfl) hg_32 (by decide) rfl ?_
        refine R_getS (pc := 88) (ci := 5) (k := 2) 43 (dc k_C_watch 45 rfl) fl_C_47 rfl (lb rfl) (Nat.le_trans (lb rfl) hn) (hE 42 (lb rfl) (lb rfl)) rfl (by decide) rfl ?_
        refine R_iload (pc := 91) 0 (dc k_C_watch 46 rfl) rfl ?_
        refine R_iald (pc := 93) (dc k_C_watch 47 rfl) rfl (lb rfl) (Nat.le_trans (lb rfl) hn) hg_33 hg_34 ?_
        refine R_cSP (pc := 94)  (As := [vI (M_20 43 (Int.toNat l5_31))]) (S := []) ck_C_50 (dc k_C_watch 48 rfl) (lb rfl) (lb rfl) (lb rfl) rfl (ct_JI_bitCount (Z_bind hz)) (fun r_44 hz => ?_)
        refine R_iconst (pc := 97) (a := 1) (dc k_C_watch 49 rfl) ?_
        refine R_icmp_le (pc := 98) 120 (dc k_C_watch 50 rfl) rfl (fun hc => ?_) (fun hc => ?_)
        · have hz := Z_neg (show ¬ (1 < n32 r_44) from (Int.not_lt.mpr hc)) hz
          exact hY_42 (Z_some hz)
        · have hz := Z_pos (show 1 < n32 r_44 from (Int.not_le.mp hc)) hz
          exact hX_41 (Z_some hz)
  refine R_sub [1, 0] rfl ?_
  refine it_R (C := fun aZ : Int × Mem => Rr y_C_watch (2, 45, n, n, E) (qV K) 23 [(0, vR 78), (4, vI aZ.1)] [] E n aZ.2) (fun aZ K_10 hC_11 hB_12 hz => ?_) FUEL (0, M_4) hz
  obtain ⟨l4_5, M_6⟩ := aZ
  rw [C_watch_b23] at hz
  show Rr y_C_watch (2, 45, n, n, E) (qV K) 23 [(0, vR 78), (4, vI l4_5)] [] E n M_6
  refine R_iload (pc := 23) 1 (dc k_C_watch 14 rfl) rfl ?_
  refine R_bipush (pc := 25) (a := 64) (dc k_C_watch 15 rfl) (by decide) ?_
  refine R_icmp_ge (pc := 27) 44 (dc k_C_watch 16 rfl) rfl (fun hc => ?_) (fun hc => ?_)
  · have hz := Z_neg (show ¬ (n32 l4_5 < 64) from (Int.not_lt.mpr hc)) hz
    refine R_sub [0] rfl ?_
    exact hX_9 _ (hB_12 _ (Z_some hz))
  · have hz := Z_pos (show n32 l4_5 < 64 from (Int.not_le.mp hc)) hz
    refine R_aload_n (pc := 30) 0 (dc k_C_watch 17 rfl) rfl rfl ?_
    refine R_getS (pc := 31) (ci := 9) (k := 3) 79 (dc k_C_watch 18 rfl) fl_C_9 rfl (lb rfl) (Nat.le_trans (lb rfl) hn) (hE 78 (lb rfl) (lb rfl)) rfl (by decide) rfl ?_
    refine R_iload (pc := 34) 1 (dc k_C_watch 19 rfl) rfl ?_
    refine R_lconst (pc := 36) (a := 0) (dc k_C_watch 20 rfl) (by decide) ?_
    obtain ⟨⟨hg_14, hg_15⟩, hz⟩ := Z_chk hz
    obtain ⟨M_16, hM_16, hz⟩ := Z_lt hz
    refine R_lastE (pc := 37) (dc k_C_watch 21 rfl) rfl (lb rfl) (Nat.le_trans (lb rfl) hn) hg_14 hg_15 hM_16 ?_
    obtain ⟨l4_17, hl4_17, hz⟩ := Z_lt hz
    refine R_iincE (pc := 38) (L' := [(4, vI l4_17), (0, vR 78)]) 1 (dc k_C_watch 22 rfl) rfl (lb rfl) hl4_17 rfl ?_
    refine R_goto (pc := 41) 23 (dc k_C_watch 23 rfl) rfl ?_
    refine R_sub [1, 0] rfl ?_
    exact hC_11 _ (Z_some hz)

set_option maxRecDepth 20000 in
theorem ct_C_tightest {E : Nat → Bool} {n : Nat} (hE : ∀ c, 1 ≤ c → c ≤ 80 → E c = true) (hn : 80 ≤ n) {open_ : Int} {used : Int} {M : Mem} {K : Int → Prop} (hz : Z (C_tightest open_ used M) K) : Mt y_C_tightest (1, 20, n, n, E) E [vR 78, vJ open_, vI used] M (qP M K) := by
  refine Mt.of (by decide) (lb rfl) (Nat.le_refl _) rfl ?_
  rw [C_tightest] at hz
  show Rr y_C_tightest (1, 20, n, n, E) (qP M K) 0 [(0, vR 78), (1, vJ open_), (3, vI used)] [] E n M
  refine R_iconst (pc := 0) (a := (-1)) (dc k_C_tightest 0 rfl) ?_
  refine R_istore (pc := 1) (L' := [(4, vI (-1)), (0, vR 78), (1, vJ open_), (3, vI used)]) (dc k_C_tightest 1 rfl) (lb rfl) rfl ?_
  refine R_iconst (pc := 3) (a := 0) (dc k_C_tightest 2 rfl) ?_
  refine R_istore (pc := 4) (L' := [(5, vI 0), (4, vI (-1)), (0, vR 78), (1, vJ open_), (3, vI used)]) (dc k_C_tightest 3 rfl) (lb rfl) rfl ?_
  obtain ⟨K_3, hK_4, hz⟩ := Z_cut hz
  have hX_5 : ∀ (l4_9 : Int), K_3 l4_9 → Rr y_C_tightest (1, 20, n, n, E) (qP M K) 86 [(4, vI l4_9)] [] E n M := by
    intro l4_9 hk
    have hz := hK_4 _ hk
    refine R_iload (pc := 86) 0 (dc k_C_tightest 45 rfl) rfl ?_
    exact R_iret (pc := 88) (dc k_C_tightest 46 rfl) rfl rfl rfl ⟨_, rfl, rfl, (Z_some hz)⟩
  refine R_sub [2, 3, 4, 1, 0] rfl ?_
  refine it_R (C := fun aZ : Int × Int => Rr y_C_tightest (1, 20, n, n, E) (qP M K) 6 [(0, vR 78), (1, vJ open_), (3, vI used), (4, vI aZ.1), (5, vI aZ.2)] [] E n M) (fun aZ K_6 hC_7 hB_8 hz => ?_) FUEL ((-1), 0) hz
  obtain ⟨l4_1, l5_2⟩ := aZ
  rw [C_tightest_b6] at hz
  show Rr y_C_tightest (1, 20, n, n, E) (qP M K) 6 [(0, vR 78), (1, vJ open_), (3, vI used), (4, vI l4_1), (5, vI l5_2)] [] E n M
  refine R_iload (pc := 6) 4 (dc k_C_tightest 4 rfl) rfl ?_
  refine R_aload_n (pc := 8) 0 (dc k_C_tightest 5 rfl) rfl rfl ?_
  obtain ⟨hg_10, hz⟩ := Z_chk hz
  refine R_getR (pc := 9) (ci := 9) (k := 2) 71 (dc k_C_tightest 6 rfl) fl_C_23 rfl (lb rfl) (Nat.le_trans (lb rfl) hn) (Or.inr rfl) hg_10 (by decide) rfl ?_
  refine R_getI (pc := 12) (ci := 6) (k := 3) (dc k_C_tightest 7 rfl) fl_C_31 rfl (lb rfl) (Nat.le_trans (lb rfl) hn) rfl (Or.inl rfl) ?_
  refine R_icmp_ge (pc := 15) 86 (dc k_C_tightest 8 rfl) rfl (fun hc => ?_) (fun hc => ?_)
  · have hz := Z_neg (show ¬ (n32 l5_2 < n32 (M 71 3)) from (Int.not_lt.mpr hc)) hz
    refine R_sub [3] rfl ?_
    exact hX_5 _ (hB_8 _ (Z_some hz))
  · have hz := Z_pos (show n32 l5_2 < n32 (M 71 3) from (Int.not_le.mp hc)) hz
    refine R_aload_n (pc := 18) 0 (dc k_C_tightest 9 rfl) rfl rfl ?_
    refine R_getR (pc := 19) (ci := 9) (k := 2) 71 (dc k_C_tightest 10 rfl) fl_C_23 rfl (lb rfl) (Nat.le_trans (lb rfl) hn) (Or.inr rfl) hg_10 (by decide) rfl ?_
    refine R_getS (pc := 22) (ci := 6) (k := 2) 72 (dc k_C_tightest 11 rfl) fl_C_37 rfl (lb rfl) (Nat.le_trans (lb rfl) hn) (hE 71 (lb rfl) (lb rfl)) rfl (by decide) rfl ?_
    refine R_iload (pc := 25) 4 (dc k_C_tightest 12 rfl) rfl ?_
    obtain ⟨⟨hg_11, hg_12⟩, hz⟩ := Z_chk hz
    refine R_iald (pc := 27) (dc k_C_tightest 13 rfl) rfl (lb rfl) (Nat.le_trans (lb rfl) hn) hg_11 hg_12 ?_
    obtain ⟨l6_13, hl6_13, hz⟩ := Z_lt hz
    refine R_istoreE (pc := 28) (L' := [(6, vI l6_13), (0, vR 78), (1, vJ open_), (3, vI used), (4, vI l4_1), (5, vI l5_2)]) (dc k_C_tightest 14 rfl) (lb rfl) hl6_13 rfl ?_
    refine R_lload_n (pc := 30) 2 (dc k_C_tightest 15 rfl) rfl rfl ?_
    refine R_iload (pc := 31) 0 (dc k_C_tightest 16 rfl) rfl ?_
    refine R_lushr (pc := 33) (dc k_C_tightest 17 rfl) ?_
    refine R_lconst (pc := 34) (a := 1) (dc k_C_tightest 18 rfl) (by decide) ?_
    refine R_land (pc := 35) (dc k_C_tightest 19 rfl) ?_
    refine R_lconst (pc := 36) (a := 0) (dc k_C_tightest 20 rfl) (by decide) ?_
    refine R_lcmp (pc := 37) (dc k_C_tightest 21 rfl) ?_
    obtain ⟨K_15, hK_16, hz⟩ := Z_cut hz
    have hJ_17 : ∀ (l4_14 : Int), K_15 l4_14 → Rr y_C_tightest (1, 20, n, n, E) (qP M K) 80 [(0, vR 78), (1, vJ open_), (3, vI used), (4, vI l4_14), (5, vI l5_2)] [] E n M := by
      intro l4_14 hk
      have hz := hK_16 _ hk
      obtain ⟨l5_30, hl5_30, hz⟩ := Z_lt hz
      refine R_iincE (pc := 80) (L' := [(5, vI l5_30), (0, vR 78), (1, vJ open_), (3, vI used), (4, vI l4_14)]) 4 (dc k_C_tightest 43 rfl) rfl (lb rfl) hl5_30 rfl ?_
      refine R_goto (pc := 83) 6 (dc k_C_tightest 44 rfl) rfl ?_
      refine R_sub [1, 2, 3, 4, 0] rfl ?_
      exact hC_7 _ (Z_some hz)
    refine R_if_eq (pc := 38) 80 (dc k_C_tightest 22 rfl) rfl (fun hc => ?_) (fun hc => ?_)
    · have hz := Z_neg (show ¬ (¬ n64 (jand (jushr open_ l6_13) 1) = n64 0) from (fun z => z (jcmp_eq.mp hc))) hz
      refine R_sub [1, 2, 3, 4, 5] rfl ?_
      exact hJ_17 _ (Z_some hz)
    · have hz := Z_pos (show ¬ n64 (jand (jushr open_ l6_13) 1) = n64 0 from (fun z => hc (jcmp_eq.mpr z))) hz
      refine R_aload_n (pc := 41) 1 (dc k_C_tightest 23 rfl) rfl rfl ?_
      obtain ⟨hg_18, hz⟩ := Z_chk hz
      refine R_getR (pc := 42) (ci := 9) (k := 1) 42 (dc k_C_tightest 24 rfl) fl_C_19 rfl (lb rfl) (Nat.le_trans (lb rfl) hn) (Or.inr rfl) hg_18 (by decide) rfl ?_
      refine R_getS (pc := 45) (ci := 5) (k := 2) 43 (dc k_C_tightest 25 rfl) fl_C_47 rfl (lb rfl) (Nat.le_trans (lb rfl) hn) (hE 42 (lb rfl) (lb rfl)) rfl (by decide) rfl ?_
      refine R_iload (pc := 48) 0 (dc k_C_tightest 26 rfl) rfl ?_
      obtain ⟨⟨hg_19, hg_20⟩, hz⟩ := Z_chk hz
      refine R_iald (pc := 50) (dc k_C_tightest 27 rfl) rfl (lb rfl) (Nat.le_trans (lb rfl) hn) hg_19 hg_20 ?_
      refine R_iload_n (pc := 51) 3 (dc k_C_tightest 28 rfl) rfl rfl ?_
      refine R_iconst (pc := 52) (a := (-1)) (dc k_C_tightest 29 rfl) ?_
      refine R_ixor (pc := 53) (dc k_C_tightest 30 rfl) ?_
      refine R_iand (pc := 54) (dc k_C_tightest 31 rfl) ?_
      obtain ⟨l7_21, hl7_21, hz⟩ := Z_lt hz
      refine R_istoreE (pc := 55) (L' := [(7, vI l7_21), (6, vI l6_13), (0, vR 78), (1, vJ open_), (3, vI used), (4, vI l4_1), (5, vI l5_2)]) (dc k_C_tightest 32 rfl) (lb rfl) hl7_21 rfl ?_
      refine R_iload (pc := 57) 5 (dc k_C_tightest 33 rfl) rfl ?_
      refine R_iconst (pc := 59) (a := (-1)) (dc k_C_tightest 34 rfl) ?_
      obtain ⟨K_22, hK_23, hz⟩ := Z_cut hz
      have hX_24 : K_22 true → Rr y_C_tightest (1, 20, n, n, E) (qP M K) 76 [(7, vI l7_21), (6, vI l6_13), (0, vR 78), (1, vJ open_), (3, vI used), (4, vI l4_1), (5, vI l5_2)] [] E n M := by
        intro hk
        have hz := Z_pos rfl (hK_23 _ hk)
        refine R_iload (pc := 76) 0 (dc k_C_tightest 41 rfl) rfl ?_
        refine R_istore (pc := 78) (L' := [(4, vI l7_21), (7, vI l7_21), (6, vI l6_13), (0, vR 78), (1, vJ open_), (3, vI used), (5, vI l5_2)]) (dc k_C_tightest 42 rfl) (lb rfl) rfl ?_
        refine R_sub [3, 4, 5, 0, 6] rfl ?_
        exact hJ_17 _ (Z_some hz)
      have hY_25 : K_22 false → Rr y_C_tightest (1, 20, n, n, E) (qP M K) 80 [(7, vI l7_21), (6, vI l6_13), (0, vR 78), (1, vJ open_), (3, vI used), (4, vI l4_1), (5, vI l5_2)] [] E n M := by
        intro hk
        have hz := Z_neg Bool.false_ne_true (hK_23 _ hk)
        refine R_sub [2, 3, 4, 5, 6] rfl ?_
        exact hJ_17 _ (Z_some hz)
      refine R_icmp_eq (pc := 60) 76 (dc k_C_tightest 35 rfl) rfl (fun hc => ?_) (fun hc => ?_)
      · have hz := Z_neg (show ¬ (¬ n32 l4_1 = (-1)) from (fun z => z hc)) hz
        exact hX_24 (Z_some hz)
      · have hz := Z_pos (show ¬ n32 l4_1 = (-1) from hc) hz
        refine R_iload (pc := 63) 0 (dc k_C_tightest 36 rfl) rfl ?_
        refine R_cSP (pc := 65)  (As := [vI l7_21]) (S := []) ck_C_50 (dc k_C_tightest 37 rfl) (lb rfl) (lb rfl) (lb rfl) rfl (ct_JI_bitCount (Z_bind hz)) (fun r_27 hz => ?_)
        refine R_iload (pc := 68) 5 (dc k_C_tightest 38 rfl) rfl ?_
        refine R_cSP (pc := 70)  (As := [vI l4_1]) (S := [vI r_27]) ck_C_50 (dc k_C_tightest 39 rfl) (lb rfl) (lb rfl) (lb rfl) rfl (ct_JI_bitCount (Z_bind hz)) (fun r_28 hz => ?_)
        refine R_icmp_ge (pc := 73) 80 (dc k_C_tightest 40 rfl) rfl (fun hc => ?_) (fun hc => ?_)
        · have hz := Z_neg (show ¬ (n32 r_27 < n32 r_28) from (Int.not_lt.mpr hc)) hz
          exact hY_25 (Z_some hz)
        · have hz := Z_pos (show n32 r_27 < n32 r_28 from (Int.not_le.mp hc)) hz
          exact hX_24 (Z_some hz)

set_option maxRecDepth 20000 in
theorem cts_C_fewestFor {E : Nat → Bool} {n : Nat} (hE : ∀ c, 1 ≤ c → c ≤ 80 → E c = true) (hn : 80 ≤ n) {rec_ : Int → Int → Int → Mem → Option (Int)} {fr lo : Nat} (hf : 2 ≤ fr) (hl : 47 ≤ lo) (hrec : ∀ {b0 b1 b2 : Int} {M : Mem} {K : Int → Prop}, Z (rec_ b0 b1 b2 M) K → Mt y_C_fewestFor (fr, lo, n, n, E) E [vR 78, vJ b0, vI b1, vI b2] M (qP M K)) {open_ : Int} {used : Int} {most : Int} {M : Mem} {K : Int → Prop} (hz : Z (C_fewestFor_s rec_ open_ used most M) K) : Mt y_C_fewestFor (fr + 1, lo + 32, n, n, E) E [vR 78, vJ open_, vI used, vI most] M (qP M K) := by
  refine Mt.of (by decide) (lb rfl) (Nat.le_refl _) rfl ?_
  rw [C_fewestFor_s] at hz
  show Rr y_C_fewestFor (fr + 1, lo + 32, n, n, E) (qP M K) 0 [(0, vR 78), (1, vJ open_), (3, vI used), (4, vI most)] [] E n M
  refine R_lload_n (pc := 0) 1 (dc k_C_fewestFor 0 rfl) rfl rfl ?_
  refine R_lconst (pc := 1) (a := 0) (dc k_C_fewestFor 1 rfl) (by decide) ?_
  refine R_lcmp (pc := 2) (dc k_C_fewestFor 2 rfl) ?_
  refine R_if_ne (pc := 3) 8 (dc k_C_fewestFor 3 rfl) rfl (fun hc => ?_) (fun hc => ?_)
  · have hz := Z_neg (show ¬ (n64 open_ = n64 0) from (fun z => hc (jcmp_eq.mpr z))) hz
    refine R_iload (pc := 8) 3 (dc k_C_fewestFor 6 rfl) rfl ?_
    obtain ⟨K_2, hK_3, hz⟩ := Z_cut hz
    have hJ_4 : ∀ (v_1 : Int), K_2 v_1 → Rr y_C_fewestFor (fr + 1, lo + 32, n, n, E) (qP M K) 23 [(0, vR 78), (1, vJ open_), (3, vI used), (4, vI most)] [vI v_1] E n M := by
      intro v_1 hk
      have hz := hK_3 _ hk
      refine R_istore (pc := 23) (L' := [(5, vI v_1), (0, vR 78), (1, vJ open_), (3, vI used), (4, vI most)]) (dc k_C_fewestFor 14 rfl) (lb rfl) rfl ?_
      refine R_bipush (pc := 25) (a := 8) (dc k_C_fewestFor 15 rfl) (by decide) ?_
      refine R_istore (pc := 27) (L' := [(6, vI 8), (5, vI v_1), (0, vR 78), (1, vJ open_), (3, vI used), (4, vI most)]) (dc k_C_fewestFor 16 rfl) (lb rfl) rfl ?_
      refine R_iconst (pc := 29) (a := 0) (dc k_C_fewestFor 17 rfl) ?_
      refine R_istore (pc := 30) (L' := [(7, vI 0), (6, vI 8), (5, vI v_1), (0, vR 78), (1, vJ open_), (3, vI used), (4, vI most)]) (dc k_C_fewestFor 18 rfl) (lb rfl) rfl ?_
      obtain ⟨K_9, hK_10, hz⟩ := Z_cut hz
      have hX_11 : ∀ (l6_15 : Int), K_9 l6_15 → Rr y_C_fewestFor (fr + 1, lo + 32, n, n, E) (qP M K) 165 [(6, vI l6_15)] [] E n M := by
        intro l6_15 hk
        have hz := hK_10 _ hk
        refine R_iload (pc := 165) 0 (dc k_C_fewestFor 88 rfl) rfl ?_
        exact R_iret (pc := 167) (dc k_C_fewestFor 89 rfl) rfl rfl rfl ⟨_, rfl, rfl, (Z_some hz)⟩
      refine R_sub [3, 4, 5, 6, 2, 1, 0] rfl ?_
      refine it_R (C := fun aZ : Int × Int => Rr y_C_fewestFor (fr + 1, lo + 32, n, n, E) (qP M K) 32 [(0, vR 78), (1, vJ open_), (3, vI used), (4, vI most), (5, vI v_1), (6, vI aZ.1), (7, vI aZ.2)] [] E n M) (fun aZ K_12 hC_13 hB_14 hz => ?_) FUEL (8, 0) hz
      obtain ⟨l6_7, l7_8⟩ := aZ
      rw [C_fewestFor_b32] at hz
      show Rr y_C_fewestFor (fr + 1, lo + 32, n, n, E) (qP M K) 32 [(0, vR 78), (1, vJ open_), (3, vI used), (4, vI most), (5, vI v_1), (6, vI l6_7), (7, vI l7_8)] [] E n M
      refine R_iload (pc := 32) 6 (dc k_C_fewestFor 19 rfl) rfl ?_
      refine R_aload_n (pc := 34) 0 (dc k_C_fewestFor 20 rfl) rfl rfl ?_
      obtain ⟨hg_16, hz⟩ := Z_chk hz
      obtain ⟨t_17, ht_17, hz⟩ := Z_lt hz
      obtain ⟨hq_18, ht_17t⟩ := isTI.at' hg_16 ht_17
      have hnt_17t := qTn ht_17t hn
      have hEt_17t := qTE ht_17t hE
      refine R_getR (pc := 35) (ci := 9) (k := 0) t_17 (dc k_C_fewestFor 21 rfl) fl_C_15 rfl (lb rfl) (Nat.le_trans (lb rfl) hn) (Or.inr rfl) hq_18 (qT0 ht_17t) rfl ?_
      refine R_getI (pc := 38) (ci := 1) (k := 1) (dc k_C_fewestFor 22 rfl) fl_C_60 (lT ht_17t) (qT1 ht_17t) (qTn_0 hnt_17t) (rT_1 ht_17t) (Or.inl rfl) ?_
      refine R_icmp_ge (pc := 41) 165 (dc k_C_fewestFor 23 rfl) rfl (fun hc => ?_) (fun hc => ?_)
      · have hz := Z_neg (show ¬ (n32 l7_8 < n32 (M t_17 1)) from (Int.not_lt.mpr hc)) hz
        refine R_sub [5] rfl ?_
        exact hX_11 _ (hB_14 _ (Z_some hz))
      · have hz := Z_pos (show n32 l7_8 < n32 (M t_17 1) from (Int.not_le.mp hc)) hz
        refine R_iload (pc := 44) 6 (dc k_C_fewestFor 24 rfl) rfl ?_
        refine R_iconst (pc := 46) (a := 1) (dc k_C_fewestFor 25 rfl) ?_
        refine R_iadd (pc := 47) (dc k_C_fewestFor 26 rfl) ?_
        obtain ⟨l8_19, hl8_19, hz⟩ := Z_lt hz
        refine R_istoreE (pc := 48) (L' := [(8, vI l8_19), (0, vR 78), (1, vJ open_), (3, vI used), (4, vI most), (5, vI v_1), (6, vI l6_7), (7, vI l7_8)]) (dc k_C_fewestFor 27 rfl) (lb rfl) hl8_19 rfl ?_
        obtain ⟨K_22, hK_23, hz⟩ := Z_cut hz
        have hX_24 : ∀ (l6_28 : Int), K_22 l6_28 → Rr y_C_fewestFor (fr + 1, lo + 32, n, n, E) (qP M K) 159 [(0, vR 78), (1, vJ open_), (3, vI used), (4, vI most), (5, vI v_1), (6, vI l6_28), (7, vI l7_8)] [] E n M := by
          intro l6_28 hk
          have hz := hK_23 _ hk
          obtain ⟨l7_50, hl7_50, hz⟩ := Z_lt hz
          refine R_iincE (pc := 159) (L' := [(7, vI l7_50), (0, vR 78), (1, vJ open_), (3, vI used), (4, vI most), (5, vI v_1), (6, vI l6_28)]) 6 (dc k_C_fewestFor 86 rfl) rfl (lb rfl) hl7_50 rfl ?_
          refine R_goto (pc := 162) 32 (dc k_C_fewestFor 87 rfl) rfl ?_
          refine R_sub [1, 2, 3, 4, 5, 6, 0] rfl ?_
          exact hC_13 _ (Z_some hz)
        refine R_sub [1, 2, 3, 4, 5, 6, 7, 0] rfl ?_
        refine it_R (C := fun aZ : Int × Int => Rr y_C_fewestFor (fr + 1, lo + 32, n, n, E) (qP M K) 50 [(0, vR 78), (1, vJ open_), (3, vI used), (4, vI most), (5, vI v_1), (6, vI aZ.1), (7, vI l7_8), (8, vI aZ.2)] [] E n M) (fun aZ K_25 hC_26 hB_27 hz => ?_) FUEL (l6_7, l8_19) hz
        obtain ⟨l6_20, l8_21⟩ := aZ
        rw [C_fewestFor_b50] at hz
        show Rr y_C_fewestFor (fr + 1, lo + 32, n, n, E) (qP M K) 50 [(0, vR 78), (1, vJ open_), (3, vI used), (4, vI most), (5, vI v_1), (6, vI l6_20), (7, vI l7_8), (8, vI l8_21)] [] E n M
        refine R_iload (pc := 50) 7 (dc k_C_fewestFor 28 rfl) rfl ?_
        refine R_aload_n (pc := 52) 0 (dc k_C_fewestFor 29 rfl) rfl rfl ?_
        refine R_getR (pc := 53) (ci := 9) (k := 0) t_17 (dc k_C_fewestFor 30 rfl) fl_C_15 rfl (lb rfl) (Nat.le_trans (lb rfl) hn) (Or.inr rfl) hq_18 (qT0 ht_17t) rfl ?_
        refine R_getI (pc := 56) (ci := 1) (k := 1) (dc k_C_fewestFor 31 rfl) fl_C_60 (lT ht_17t) (qT1 ht_17t) (qTn_0 hnt_17t) (rT_1 ht_17t) (Or.inl rfl) ?_
        refine R_icmp_ge (pc := 59) 159 (dc k_C_fewestFor 32 rfl) rfl (fun hc => ?_) (fun hc => ?_)
        · have hz := Z_neg (show ¬ (n32 l8_21 < n32 (M t_17 1)) from (Int.not_lt.mpr hc)) hz
          refine R_sub [0, 1, 2, 3, 4, 5, 6] rfl ?_
          exact hX_24 _ (hB_27 _ (Z_some hz))
        · have hz := Z_pos (show n32 l8_21 < n32 (M t_17 1) from (Int.not_le.mp hc)) hz
          refine R_iload (pc := 62) 4 (dc k_C_fewestFor 33 rfl) rfl ?_
          refine R_iload (pc := 64) 6 (dc k_C_fewestFor 34 rfl) rfl ?_
          refine R_cSP (pc := 66)  (As := [vI v_1, vI l7_8]) (S := []) ck_C_64 (dc k_C_fewestFor 35 rfl) (by first | exact lb rfl | (dsimp only; omega)) (by first | exact lb rfl | (dsimp only [y_X_hasBit]; omega)) (lb rfl) rfl (ct_X_hasBit hE hn (Z_bind hz)) (fun r_29 hz => ?_)
          obtain ⟨K_31, hK_32, hz⟩ := Z_cut hz
          have hJ_33 : ∀ (l6_30 : Int), K_31 l6_30 → Rr y_C_fewestFor (fr + 1, lo + 32, n, n, E) (qP M K) 153 [(0, vR 78), (1, vJ open_), (3, vI used), (4, vI most), (5, vI v_1), (6, vI l6_30), (7, vI l7_8), (8, vI l8_21)] [] E n M := by
            intro l6_30 hk
            have hz := hK_32 _ hk
            obtain ⟨l8_48, hl8_48, hz⟩ := Z_lt hz
            refine R_iincE (pc := 153) (L' := [(8, vI l8_48), (0, vR 78), (1, vJ open_), (3, vI used), (4, vI most), (5, vI v_1), (6, vI l6_30), (7, vI l7_8)]) 7 (dc k_C_fewestFor 84 rfl) rfl (lb rfl) hl8_48 rfl ?_
            refine R_goto (pc := 156) 50 (dc k_C_fewestFor 85 rfl) rfl ?_
            refine R_sub [1, 2, 3, 4, 5, 6, 7, 0] rfl ?_
            exact hC_26 _ (Z_some hz)
          obtain ⟨K_34, hK_35, hz⟩ := Z_cut hz
          have hX_36 : K_34 true → Rr y_C_fewestFor (fr + 1, lo + 32, n, n, E) (qP M K) 82 [(0, vR 78), (1, vJ open_), (3, vI used), (4, vI most), (5, vI v_1), (6, vI l6_20), (7, vI l7_8), (8, vI l8_21)] [] E n M := by
            intro hk
            have hz := Z_pos rfl (hK_35 _ hk)
            refine R_lload_n (pc := 82) 1 (dc k_C_fewestFor 41 rfl) rfl rfl ?_
            refine R_aload_n (pc := 83) 0 (dc k_C_fewestFor 42 rfl) rfl rfl ?_
            refine R_getS (pc := 84) (ci := 9) (k := 3) 79 (dc k_C_fewestFor 43 rfl) fl_C_9 rfl (lb rfl) (Nat.le_trans (lb rfl) hn) (hE 78 (lb rfl) (lb rfl)) rfl (by decide) rfl ?_
            refine R_iload (pc := 87) 6 (dc k_C_fewestFor 44 rfl) rfl ?_
            refine R_bipush (pc := 89) (a := 8) (dc k_C_fewestFor 45 rfl) (by decide) ?_
            refine R_imul (pc := 91) (dc k_C_fewestFor 46 rfl) ?_
            refine R_iload (pc := 92) 7 (dc k_C_fewestFor 47 rfl) rfl ?_
            refine R_iadd (pc := 94) (dc k_C_fewestFor 48 rfl) ?_
            obtain ⟨⟨hg_40, hg_41⟩, hz⟩ := Z_chk hz
            refine R_lald (pc := 95) (dc k_C_fewestFor 49 rfl) rfl (lb rfl) (Nat.le_trans (lb rfl) hn) hg_40 hg_41 ?_
            refine R_ldc2 (pc := 96) (a := (-1)) (dc k_C_fewestFor 50 rfl) c_C_82 ?_
            refine R_lxor (pc := 99) (dc k_C_fewestFor 51 rfl) ?_
            refine R_land (pc := 100) (dc k_C_fewestFor 52 rfl) ?_
            obtain ⟨l9_42, hl9_42, hz⟩ := Z_lt hz
            refine R_lstoreE (pc := 101) (L' := [(9, vJ l9_42), (0, vR 78), (1, vJ open_), (3, vI used), (4, vI most), (5, vI v_1), (6, vI l6_20), (7, vI l7_8), (8, vI l8_21)]) (dc k_C_fewestFor 53 rfl) (lb rfl) hl9_42 rfl ?_
            refine R_iload (pc := 103) 4 (dc k_C_fewestFor 54 rfl) rfl ?_
            refine R_iload (pc := 105) 6 (dc k_C_fewestFor 55 rfl) rfl ?_
            refine R_iconst (pc := 107) (a := 1) (dc k_C_fewestFor 56 rfl) ?_
            refine R_isub (pc := 108) (dc k_C_fewestFor 57 rfl) ?_
            refine R_min (pc := 109) (S := []) (dc k_C_fewestFor 58 rfl) ml_C_84 (lb rfl) (lb rfl) ?_
            refine R_iconst (pc := 112) (a := 1) (dc k_C_fewestFor 59 rfl) ?_
            refine R_isub (pc := 113) (dc k_C_fewestFor 60 rfl) ?_
            obtain ⟨l11_43, hl11_43, hz⟩ := Z_lt hz
            refine R_istoreE (pc := 114) (L' := [(11, vI l11_43), (9, vJ l9_42), (0, vR 78), (1, vJ open_), (3, vI used), (4, vI most), (5, vI v_1), (6, vI l6_20), (7, vI l7_8), (8, vI l8_21)]) (dc k_C_fewestFor 61 rfl) (lb rfl) hl11_43 rfl ?_
            refine R_iload (pc := 116) 0 (dc k_C_fewestFor 62 rfl) rfl ?_
            refine R_if_lt (pc := 118) 153 (dc k_C_fewestFor 63 rfl) rfl (fun hc => ?_) (fun hc => ?_)
            · have hz := Z_neg (show ¬ (0 ≤ n32 l11_43) from (Int.not_le.mpr hc)) hz
              refine R_sub [2, 3, 4, 5, 6, 7, 8, 9] rfl ?_
              exact hJ_33 _ (Z_some hz)
            · have hz := Z_pos (show 0 ≤ n32 l11_43 from (Int.not_lt.mp hc)) hz
              refine R_iconst (pc := 121) (a := 1) (dc k_C_fewestFor 64 rfl) ?_
              refine R_aload_n (pc := 122) 2 (dc k_C_fewestFor 65 rfl) rfl rfl ?_
              refine R_lload (pc := 123) 1 (dc k_C_fewestFor 66 rfl) rfl ?_
              refine R_iload_n (pc := 125) 4 (dc k_C_fewestFor 67 rfl) rfl rfl ?_
              refine R_iconst (pc := 126) (a := 1) (dc k_C_fewestFor 68 rfl) ?_
              refine R_iload (pc := 127) 8 (dc k_C_fewestFor 69 rfl) rfl ?_
              refine R_ishl (pc := 129) (dc k_C_fewestFor 70 rfl) ?_
              refine R_ior (pc := 130) (dc k_C_fewestFor 71 rfl) ?_
              refine R_iconst (pc := 131) (a := 1) (dc k_C_fewestFor 72 rfl) ?_
              refine R_iload (pc := 132) 9 (dc k_C_fewestFor 73 rfl) rfl ?_
              refine R_ishl (pc := 134) (dc k_C_fewestFor 74 rfl) ?_
              refine R_ior (pc := 135) (dc k_C_fewestFor 75 rfl) ?_
              refine R_iload (pc := 136) 0 (dc k_C_fewestFor 76 rfl) rfl ?_
              refine R_cVP (pc := 138)  (As := [vJ l9_42, vI (ior' (ior' used (ishl 1 l7_8)) (ishl 1 l8_21)), vI l11_43]) (S := [vI 1]) ck_C_74 (dc k_C_fewestFor 77 rfl) ⟨rfl, ⟨_, rfl, rfl⟩, (lb rfl), (Nat.le_trans (lb rfl) hn)⟩ (by first | exact lb rfl | (dsimp only; omega)) (by first | exact lb rfl | (dsimp only [y_C_fewestFor]; omega)) (lb rfl) rfl (hrec (Z_bind hz)) (fun r_44 hz => ?_)
              refine R_iadd (pc := 141) (dc k_C_fewestFor 78 rfl) ?_
              obtain ⟨l12_45, hl12_45, hz⟩ := Z_lt hz
              refine R_istoreE (pc := 142) (L' := [(12, vI l12_45), (11, vI l11_43), (9, vJ l9_42), (0, vR 78), (1, vJ open_), (3, vI used), (4, vI most), (5, vI v_1), (6, vI l6_20), (7, vI l7_8), (8, vI l8_21)]) (dc k_C_fewestFor 79 rfl) (lb rfl) hl12_45 rfl ?_
              refine R_iload (pc := 144) 8 (dc k_C_fewestFor 80 rfl) rfl ?_
              refine R_iload (pc := 146) 0 (dc k_C_fewestFor 81 rfl) rfl ?_
              refine R_min (pc := 148) (S := []) (dc k_C_fewestFor 82 rfl) ml_C_84 (lb rfl) (lb rfl) ?_
              obtain ⟨l6_46, hl6_46, hz⟩ := Z_lt hz
              refine R_istoreE (pc := 151) (L' := [(6, vI l6_46), (12, vI l12_45), (11, vI l11_43), (9, vJ l9_42), (0, vR 78), (1, vJ open_), (3, vI used), (4, vI most), (5, vI v_1), (7, vI l7_8), (8, vI l8_21)]) (dc k_C_fewestFor 83 rfl) (lb rfl) hl6_46 rfl ?_
              refine R_sub [4, 5, 6, 7, 8, 0, 9, 10] rfl ?_
              exact hJ_33 _ (Z_some hz)
          have hY_37 : K_34 false → Rr y_C_fewestFor (fr + 1, lo + 32, n, n, E) (qP M K) 153 [(0, vR 78), (1, vJ open_), (3, vI used), (4, vI most), (5, vI v_1), (6, vI l6_20), (7, vI l7_8), (8, vI l8_21)] [] E n M := by
            intro hk
            have hz := Z_neg Bool.false_ne_true (hK_35 _ hk)
            exact hJ_33 _ (Z_some hz)
          refine R_if_eq (pc := 69) 153 (dc k_C_fewestFor 36 rfl) rfl (fun hc => ?_) (fun hc => ?_)
          · have hz := Z_neg (show ¬ (¬ n32 r_29 = 0) from (fun z => z hc)) hz
            exact hY_37 (Z_some hz)
          · have hz := Z_pos (show ¬ n32 r_29 = 0 from hc) hz
            refine R_iload (pc := 72) 4 (dc k_C_fewestFor 37 rfl) rfl ?_
            refine R_iload (pc := 74) 7 (dc k_C_fewestFor 38 rfl) rfl ?_
            refine R_cSP (pc := 76)  (As := [vI v_1, vI l8_21]) (S := []) ck_C_64 (dc k_C_fewestFor 39 rfl) (by first | exact lb rfl | (dsimp only; omega)) (by first | exact lb rfl | (dsimp only [y_X_hasBit]; omega)) (lb rfl) rfl (ct_X_hasBit hE hn (Z_bind hz)) (fun r_39 hz => ?_)
            refine R_if_eq (pc := 79) 153 (dc k_C_fewestFor 40 rfl) rfl (fun hc => ?_) (fun hc => ?_)
            · have hz := Z_neg (show ¬ (¬ n32 r_39 = 0) from (fun z => z hc)) hz
              exact hY_37 (Z_some hz)
            · have hz := Z_pos (show ¬ n32 r_39 = 0 from hc) hz
              exact hX_36 (Z_some hz)
    refine R_if_le (pc := 10) 22 (dc k_C_fewestFor 7 rfl) rfl (fun hc => ?_) (fun hc => ?_)
    · have hz := Z_neg (show ¬ (0 < n32 most) from (Int.not_lt.mpr hc)) hz
      refine R_iconst (pc := 22) (a := 0) (dc k_C_fewestFor 13 rfl) ?_
      exact hJ_4 _ (Z_some hz)
    · have hz := Z_pos (show 0 < n32 most from (Int.not_le.mp hc)) hz
      refine R_aload_n (pc := 13) 0 (dc k_C_fewestFor 8 rfl) rfl rfl ?_
      refine R_lload_n (pc := 14) 1 (dc k_C_fewestFor 9 rfl) rfl rfl ?_
      refine R_iload_n (pc := 15) 2 (dc k_C_fewestFor 10 rfl) rfl rfl ?_
      refine R_cVP (pc := 16)  (As := [vJ open_, vI used]) (S := []) ck_C_78 (dc k_C_fewestFor 11 rfl) ⟨rfl, ⟨_, rfl, rfl⟩, (lb rfl), (Nat.le_trans (lb rfl) hn)⟩ (by first | exact lb rfl | (dsimp only; omega)) (by first | exact lb rfl | (dsimp only [y_C_tightest]; omega)) (lb rfl) rfl (ct_C_tightest hE hn (Z_bind hz)) (fun r_5 hz => ?_)
      refine R_goto (pc := 19) 23 (dc k_C_fewestFor 12 rfl) rfl ?_
      exact hJ_4 _ (Z_some hz)
  · have hz := Z_pos (show n64 open_ = n64 0 from (jcmp_eq.mp (Decidable.not_not.mp hc))) hz
    refine R_iconst (pc := 6) (a := 0) (dc k_C_fewestFor 4 rfl) ?_
    exact R_iret (pc := 7) (dc k_C_fewestFor 5 rfl) rfl rfl rfl ⟨_, rfl, rfl, (Z_some hz)⟩
theorem ctd_C_fewestFor {E : Nat → Bool} {n : Nat} (hE : ∀ c, 1 ≤ c → c ≤ 80 → E c = true) (hn : 80 ≤ n) : ∀ (d : Nat) {open_ used most : Int} {M : Mem} {K : Int → Prop}, Z (C_fewestFor d open_ used most M) K → Mt y_C_fewestFor (2 + 1 * d, 47 + 32 * d, n, n, E) E [vR 78, vJ open_, vI used, vI most] M (qP M K)
  | 0, open_, used, most, M, K, hz => (Z_none hz).elim
  | d + 1, open_, used, most, M, K, hz => by
    have h := cts_C_fewestFor hE hn (rec_ := C_fewestFor d) (fr := 2 + 1 * d) (lo := 47 + 32 * d) (by omega) (by omega) (fun hz => ctd_C_fewestFor hE hn d hz) (show Z (C_fewestFor_s (C_fewestFor d) open_ used most M) K from hz)
    rw [show 2 + 1 * (d + 1) = 2 + 1 * d + 1 by omega, show 47 + 32 * (d + 1) = 47 + 32 * d + 32 by omega]
    exact h
theorem ct_C_fewestFor {E : Nat → Bool} {n : Nat} (hE : ∀ c, 1 ≤ c → c ≤ 80 → E c = true) (hn : 80 ≤ n) {open_ used most : Int} {M : Mem} {K : Int → Prop} (hz : Z (C_fewestFor 6 open_ used most M) K) : Mt y_C_fewestFor (8, 239, n, n, E) E [vR 78, vJ open_, vI used, vI most] M (qP M K) := ctd_C_fewestFor hE hn 6 hz

set_option maxRecDepth 20000 in
theorem ct_C_fewestIn {E : Nat → Bool} {n : Nat} (hE : ∀ c, 1 ≤ c → c ≤ 80 → E c = true) (hn : 80 ≤ n) {world : Int} {most : Int} {M : Mem} {K : Int → Prop} (hz : Z (C_fewestIn world most M) K) : Mt y_C_fewestIn (9, 271, n, n, E) E [vR 78, vI world, vI most] M (qP M K) := by
  refine Mt.of (by decide) (lb rfl) (Nat.le_refl _) rfl ?_
  rw [C_fewestIn] at hz
  show Rr y_C_fewestIn (9, 271, n, n, E) (qP M K) 0 [(0, vR 78), (1, vI world), (2, vI most)] [] E n M
  refine R_lconst (pc := 0) (a := 0) (dc k_C_fewestIn 0 rfl) (by decide) ?_
  refine R_lstore_n (pc := 1) (L' := [(3, vJ 0), (0, vR 78), (1, vI world), (2, vI most)]) (dc k_C_fewestIn 1 rfl) rfl (lb rfl) rfl ?_
  refine R_iconst (pc := 2) (a := 0) (dc k_C_fewestIn 2 rfl) ?_
  refine R_istore (pc := 3) (L' := [(5, vI 0), (3, vJ 0), (0, vR 78), (1, vI world), (2, vI most)]) (dc k_C_fewestIn 3 rfl) (lb rfl) rfl ?_
  obtain ⟨K_3, hK_4, hz⟩ := Z_cut hz
  have hX_5 : ∀ (l3_9 : Int), K_3 l3_9 → Rr y_C_fewestIn (9, 271, n, n, E) (qP M K) 77 [(0, vR 78), (2, vI most), (3, vJ l3_9)] [] E n M := by
    intro l3_9 hk
    have hz := hK_4 _ hk
    refine R_aload_n (pc := 77) 0 (dc k_C_fewestIn 42 rfl) rfl rfl ?_
    refine R_lload_n (pc := 78) 2 (dc k_C_fewestIn 43 rfl) rfl rfl ?_
    refine R_iconst (pc := 79) (a := 0) (dc k_C_fewestIn 44 rfl) ?_
    refine R_iload_n (pc := 80) 1 (dc k_C_fewestIn 45 rfl) rfl rfl ?_
    refine R_cVP (pc := 81)  (As := [vJ l3_9, vI 0, vI most]) (S := []) ck_C_74 (dc k_C_fewestIn 46 rfl) ⟨rfl, ⟨_, rfl, rfl⟩, (lb rfl), (Nat.le_trans (lb rfl) hn)⟩ (lb rfl) (lb rfl) (lb rfl) rfl (ct_C_fewestFor hE hn (Z_bind hz)) (fun r_33 hz => ?_)
    exact R_iret (pc := 84) (dc k_C_fewestIn 47 rfl) rfl rfl rfl ⟨_, rfl, rfl, (Z_some hz)⟩
  refine R_sub [2, 3, 4, 1, 0] rfl ?_
  refine it_R (C := fun aZ : Int × Int => Rr y_C_fewestIn (9, 271, n, n, E) (qP M K) 5 [(0, vR 78), (1, vI world), (2, vI most), (3, vJ aZ.1), (5, vI aZ.2)] [] E n M) (fun aZ K_6 hC_7 hB_8 hz => ?_) FUEL (0, 0) hz
  obtain ⟨l3_1, l5_2⟩ := aZ
  rw [C_fewestIn_b5] at hz
  show Rr y_C_fewestIn (9, 271, n, n, E) (qP M K) 5 [(0, vR 78), (1, vI world), (2, vI most), (3, vJ l3_1), (5, vI l5_2)] [] E n M
  refine R_iload (pc := 5) 4 (dc k_C_fewestIn 4 rfl) rfl ?_
  refine R_aload_n (pc := 7) 0 (dc k_C_fewestIn 5 rfl) rfl rfl ?_
  obtain ⟨hg_10, hz⟩ := Z_chk hz
  refine R_getR (pc := 8) (ci := 9) (k := 2) 71 (dc k_C_fewestIn 6 rfl) fl_C_23 rfl (lb rfl) (Nat.le_trans (lb rfl) hn) (Or.inr rfl) hg_10 (by decide) rfl ?_
  refine R_getI (pc := 11) (ci := 6) (k := 3) (dc k_C_fewestIn 7 rfl) fl_C_31 rfl (lb rfl) (Nat.le_trans (lb rfl) hn) rfl (Or.inl rfl) ?_
  refine R_icmp_ge (pc := 14) 77 (dc k_C_fewestIn 8 rfl) rfl (fun hc => ?_) (fun hc => ?_)
  · have hz := Z_neg (show ¬ (n32 l5_2 < n32 (M 71 3)) from (Int.not_lt.mpr hc)) hz
    refine R_sub [0, 2, 3] rfl ?_
    exact hX_5 _ (hB_8 _ (Z_some hz))
  · have hz := Z_pos (show n32 l5_2 < n32 (M 71 3) from (Int.not_le.mp hc)) hz
    refine R_aload_n (pc := 17) 0 (dc k_C_fewestIn 9 rfl) rfl rfl ?_
    refine R_getR (pc := 18) (ci := 9) (k := 2) 71 (dc k_C_fewestIn 10 rfl) fl_C_23 rfl (lb rfl) (Nat.le_trans (lb rfl) hn) (Or.inr rfl) hg_10 (by decide) rfl ?_
    refine R_getS (pc := 21) (ci := 6) (k := 2) 72 (dc k_C_fewestIn 11 rfl) fl_C_37 rfl (lb rfl) (Nat.le_trans (lb rfl) hn) (hE 71 (lb rfl) (lb rfl)) rfl (by decide) rfl ?_
    refine R_iload (pc := 24) 4 (dc k_C_fewestIn 12 rfl) rfl ?_
    obtain ⟨⟨hg_11, hg_12⟩, hz⟩ := Z_chk hz
    refine R_iald (pc := 26) (dc k_C_fewestIn 13 rfl) rfl (lb rfl) (Nat.le_trans (lb rfl) hn) hg_11 hg_12 ?_
    obtain ⟨l6_13, hl6_13, hz⟩ := Z_lt hz
    refine R_istoreE (pc := 27) (L' := [(6, vI l6_13), (0, vR 78), (1, vI world), (2, vI most), (3, vJ l3_1), (5, vI l5_2)]) (dc k_C_fewestIn 14 rfl) (lb rfl) hl6_13 rfl ?_
    refine R_aload_n (pc := 29) 1 (dc k_C_fewestIn 15 rfl) rfl rfl ?_
    refine R_getJ (pc := 30) (ci := 9) (k := 4) (dc k_C_fewestIn 16 rfl) fl_C_27 rfl (lb rfl) (Nat.le_trans (lb rfl) hn) rfl rfl ?_
    refine R_iload (pc := 33) 0 (dc k_C_fewestIn 17 rfl) rfl ?_
    refine R_lushr (pc := 35) (dc k_C_fewestIn 18 rfl) ?_
    refine R_lconst (pc := 36) (a := 1) (dc k_C_fewestIn 19 rfl) (by decide) ?_
    refine R_land (pc := 37) (dc k_C_fewestIn 20 rfl) ?_
    refine R_lconst (pc := 38) (a := 0) (dc k_C_fewestIn 21 rfl) (by decide) ?_
    refine R_lcmp (pc := 39) (dc k_C_fewestIn 22 rfl) ?_
    obtain ⟨K_15, hK_16, hz⟩ := Z_cut hz
    have hJ_17 : ∀ (l3_14 : Int), K_15 l3_14 → Rr y_C_fewestIn (9, 271, n, n, E) (qP M K) 71 [(0, vR 78), (1, vI world), (2, vI most), (3, vJ l3_14), (5, vI l5_2)] [] E n M := by
      intro l3_14 hk
      have hz := hK_16 _ hk
      obtain ⟨l5_31, hl5_31, hz⟩ := Z_lt hz
      refine R_iincE (pc := 71) (L' := [(5, vI l5_31), (0, vR 78), (1, vI world), (2, vI most), (3, vJ l3_14)]) 4 (dc k_C_fewestIn 40 rfl) rfl (lb rfl) hl5_31 rfl ?_
      refine R_goto (pc := 74) 5 (dc k_C_fewestIn 41 rfl) rfl ?_
      refine R_sub [1, 2, 3, 4, 0] rfl ?_
      exact hC_7 _ (Z_some hz)
    obtain ⟨K_18, hK_19, hz⟩ := Z_cut hz
    have hX_20 : K_18 true → Rr y_C_fewestIn (9, 271, n, n, E) (qP M K) 64 [(6, vI l6_13), (0, vR 78), (1, vI world), (2, vI most), (3, vJ l3_1), (5, vI l5_2)] [] E n M := by
      intro hk
      have hz := Z_pos rfl (hK_19 _ hk)
      refine R_lload_n (pc := 64) 4 (dc k_C_fewestIn 34 rfl) rfl rfl ?_
      refine R_lconst (pc := 65) (a := 1) (dc k_C_fewestIn 35 rfl) (by decide) ?_
      refine R_iload (pc := 66) 0 (dc k_C_fewestIn 36 rfl) rfl ?_
      refine R_lshl (pc := 68) (dc k_C_fewestIn 37 rfl) ?_
      refine R_lor (pc := 69) (dc k_C_fewestIn 38 rfl) ?_
      obtain ⟨l3_30, hl3_30, hz⟩ := Z_lt hz
      refine R_lstore_nE (pc := 70) (L' := [(3, vJ l3_30), (6, vI l6_13), (0, vR 78), (1, vI world), (2, vI most), (5, vI l5_2)]) (dc k_C_fewestIn 39 rfl) rfl (lb rfl) hl3_30 rfl ?_
      refine R_sub [2, 3, 4, 0, 5] rfl ?_
      exact hJ_17 _ (Z_some hz)
    have hY_21 : K_18 false → Rr y_C_fewestIn (9, 271, n, n, E) (qP M K) 71 [(6, vI l6_13), (0, vR 78), (1, vI world), (2, vI most), (3, vJ l3_1), (5, vI l5_2)] [] E n M := by
      intro hk
      have hz := Z_neg Bool.false_ne_true (hK_19 _ hk)
      refine R_sub [1, 2, 3, 4, 5] rfl ?_
      exact hJ_17 _ (Z_some hz)
    refine R_if_eq (pc := 40) 71 (dc k_C_fewestIn 23 rfl) rfl (fun hc => ?_) (fun hc => ?_)
    · have hz := Z_neg (show ¬ (¬ n64 (jand (jushr (M 78 4) l6_13) 1) = n64 0) from (fun z => z (jcmp_eq.mp hc))) hz
      exact hY_21 (Z_some hz)
    · have hz := Z_pos (show ¬ n64 (jand (jushr (M 78 4) l6_13) 1) = n64 0 from (fun z => hc (jcmp_eq.mpr z))) hz
      refine R_aload_n (pc := 43) 1 (dc k_C_fewestIn 24 rfl) rfl rfl ?_
      obtain ⟨hg_23, hz⟩ := Z_chk hz
      obtain ⟨t_24, ht_24, hz⟩ := Z_lt hz
      obtain ⟨hq_25, ht_24t⟩ := isTI.at' hg_23 ht_24
      have hnt_24t := qTn ht_24t hn
      have hEt_24t := qTE ht_24t hE
      refine R_getR (pc := 44) (ci := 9) (k := 0) t_24 (dc k_C_fewestIn 25 rfl) fl_C_15 rfl (lb rfl) (Nat.le_trans (lb rfl) hn) (Or.inr rfl) hq_25 (qT0 ht_24t) rfl ?_
      refine R_aload_n (pc := 47) 1 (dc k_C_fewestIn 26 rfl) rfl rfl ?_
      obtain ⟨hg_26, hz⟩ := Z_chk hz
      refine R_getR (pc := 48) (ci := 9) (k := 1) 42 (dc k_C_fewestIn 27 rfl) fl_C_19 rfl (lb rfl) (Nat.le_trans (lb rfl) hn) (Or.inr rfl) hg_26 (by decide) rfl ?_
      refine R_getS (pc := 51) (ci := 5) (k := 3) 44 (dc k_C_fewestIn 28 rfl) fl_C_68 rfl (lb rfl) (Nat.le_trans (lb rfl) hn) (hE 42 (lb rfl) (lb rfl)) rfl (by decide) rfl ?_
      refine R_iload (pc := 54) 0 (dc k_C_fewestIn 29 rfl) rfl ?_
      obtain ⟨⟨hg_27, hg_28⟩, hz⟩ := Z_chk hz
      refine R_iald (pc := 56) (dc k_C_fewestIn 30 rfl) rfl (lb rfl) (Nat.le_trans (lb rfl) hn) hg_27 hg_28 ?_
      refine R_iload_n (pc := 57) 2 (dc k_C_fewestIn 31 rfl) rfl rfl ?_
      refine R_cVP (pc := 58)  (As := [vI (M 44 (Int.toNat l6_13)), vI world]) (S := []) ck_C_71 (dc k_C_fewestIn 32 rfl) ⟨(lT ht_24t), ⟨_, rfl, rfl⟩, (qT1 ht_24t), (qTn_0 hnt_24t)⟩ (lb rfl) (lb rfl) (lb rfl) rfl (ct_T_isSo hE hn ht_24t (Z_bind hz)) (fun r_29 hz => ?_)
      refine R_if_ne (pc := 61) 71 (dc k_C_fewestIn 33 rfl) rfl (fun hc => ?_) (fun hc => ?_)
      · have hz := Z_neg (show ¬ (n32 r_29 = 0) from hc) hz
        exact hY_21 (Z_some hz)
      · have hz := Z_pos (show n32 r_29 = 0 from (Decidable.not_not.mp hc)) hz
        exact hX_20 (Z_some hz)

set_option maxRecDepth 20000 in
theorem ct_X_leagues {E : Nat → Bool} {n : Nat} (hE : ∀ c, 1 ≤ c → c ≤ 80 → E c = true) (hn : 80 ≤ n) {world : Int} {k : Int} {M : Mem} {K : Int × Mem → Prop} (hz : Z (X_leagues world k M) K) : Mt y_X_leagues (10, 297, n, n, E) E [vR 1, vI world, vI k] M (qM K) := by
  refine Mt.of (by decide) (lb rfl) (Nat.le_refl _) rfl ?_
  rw [X_leagues] at hz
  show Rr y_X_leagues (10, 297, n, n, E) (qM K) 0 [(0, vR 1), (1, vI world), (2, vI k)] [] E n M
  refine R_aload_n (pc := 0) 0 (dc k_X_leagues 0 rfl) rfl rfl ?_
  obtain ⟨hg_1, hz⟩ := Z_chk hz
  obtain ⟨t_2, ht_2, hz⟩ := Z_lt hz
  obtain ⟨hq_3, ht_2t⟩ := isTI.at' hg_1 ht_2
  have hnt_2t := qTn ht_2t hn
  have hEt_2t := qTE ht_2t hE
  refine R_getR (pc := 1) (ci := 0) (k := 2) t_2 (dc k_X_leagues 1 rfl) fl_X_16 rfl (lb rfl) (Nat.le_trans (lb rfl) hn) (Or.inr rfl) hq_3 (qT0 ht_2t) rfl ?_
  refine R_iload_n (pc := 4) 1 (dc k_X_leagues 2 rfl) rfl rfl ?_
  refine R_cVP (pc := 5)  (As := [vI world]) (S := []) ck_X_181 (dc k_X_leagues 3 rfl) ⟨(lT ht_2t), ⟨_, rfl, rfl⟩, (qT1 ht_2t), (qTn_0 hnt_2t)⟩ (lb rfl) (lb rfl) (lb rfl) rfl (ct_T_hasWorld hE hn ht_2t (Z_bind hz)) (fun r_4 hz => ?_)
  refine R_if_ne (pc := 8) 14 (dc k_X_leagues 4 rfl) rfl (fun hc => ?_) (fun hc => ?_)
  · have hz := Z_neg (show ¬ (n32 r_4 = 0) from hc) hz
    refine R_aload_n (pc := 14) 0 (dc k_X_leagues 7 rfl) rfl rfl ?_
    refine R_getS (pc := 15) (ci := 0) (k := 7) 71 (dc k_X_leagues 8 rfl) fl_X_46 rfl (lb rfl) (Nat.le_trans (lb rfl) hn) (hE 1 (lb rfl) (lb rfl)) rfl (by decide) rfl ?_
    refine R_aload_n (pc := 18) 0 (dc k_X_leagues 9 rfl) rfl rfl ?_
    refine R_getR (pc := 19) (ci := 0) (k := 2) t_2 (dc k_X_leagues 10 rfl) fl_X_16 rfl (lb rfl) (Nat.le_trans (lb rfl) hn) (Or.inr rfl) hq_3 (qT0 ht_2t) rfl ?_
    refine R_aload_n (pc := 22) 0 (dc k_X_leagues 11 rfl) rfl rfl ?_
    refine R_getS (pc := 23) (ci := 0) (k := 5) 42 (dc k_X_leagues 12 rfl) fl_X_35 rfl (lb rfl) (Nat.le_trans (lb rfl) hn) (hE 1 (lb rfl) (lb rfl)) rfl (by decide) rfl ?_
    refine R_iload_n (pc := 26) 2 (dc k_X_leagues 13 rfl) rfl rfl ?_
    refine R_cVV (pc := 27)  (As := [vR t_2, vR 42, vI k]) (S := []) ck_X_161 (dc k_X_leagues 14 rfl) ⟨rfl, ⟨_, rfl, rfl⟩, (lb rfl), (Nat.le_trans (lb rfl) hn)⟩ (lb rfl) (lb rfl) (lb rfl) rfl (ct_W_look hE hn ht_2t (Z_bind hz)) (fun M_5 hz => ?_)
    refine R_aload_n (pc := 30) 0 (dc k_X_leagues 15 rfl) rfl rfl ?_
    refine R_getS (pc := 31) (ci := 0) (k := 10) 78 (dc k_X_leagues 16 rfl) fl_X_67 rfl (lb rfl) (Nat.le_trans (lb rfl) hn) (hE 1 (lb rfl) (lb rfl)) rfl (by decide) rfl ?_
    refine R_aload_n (pc := 34) 0 (dc k_X_leagues 17 rfl) rfl rfl ?_
    obtain ⟨hg_6, hz⟩ := Z_chk hz
    obtain ⟨t_7, ht_7, hz⟩ := Z_lt hz
    obtain ⟨hq_8, ht_7t⟩ := isTI.at' hg_6 ht_7
    have hnt_7t := qTn ht_7t hn
    have hEt_7t := qTE ht_7t hE
    refine R_getR (pc := 35) (ci := 0) (k := 2) t_7 (dc k_X_leagues 18 rfl) fl_X_16 rfl (lb rfl) (Nat.le_trans (lb rfl) hn) (Or.inr rfl) hq_8 (qT0 ht_7t) rfl ?_
    refine R_aload_n (pc := 38) 0 (dc k_X_leagues 19 rfl) rfl rfl ?_
    refine R_getS (pc := 39) (ci := 0) (k := 5) 42 (dc k_X_leagues 20 rfl) fl_X_35 rfl (lb rfl) (Nat.le_trans (lb rfl) hn) (hE 1 (lb rfl) (lb rfl)) rfl (by decide) rfl ?_
    refine R_aload_n (pc := 42) 0 (dc k_X_leagues 21 rfl) rfl rfl ?_
    refine R_getS (pc := 43) (ci := 0) (k := 7) 71 (dc k_X_leagues 22 rfl) fl_X_46 rfl (lb rfl) (Nat.le_trans (lb rfl) hn) (hE 1 (lb rfl) (lb rfl)) rfl (by decide) rfl ?_
    refine R_cVV (pc := 46)  (As := [vR t_7, vR 42, vR 71]) (S := []) ck_X_229 (dc k_X_leagues 23 rfl) ⟨rfl, ⟨_, rfl, rfl⟩, (lb rfl), (Nat.le_trans (lb rfl) hn)⟩ (lb rfl) (lb rfl) (lb rfl) rfl (ct_C_watch hE hn ht_7t (Z_bind hz)) (fun M_9 hz => ?_)
    refine R_aload_n (pc := 49) 0 (dc k_X_leagues 24 rfl) rfl rfl ?_
    refine R_getS (pc := 50) (ci := 0) (k := 10) 78 (dc k_X_leagues 25 rfl) fl_X_67 rfl (lb rfl) (Nat.le_trans (lb rfl) hn) (hE 1 (lb rfl) (lb rfl)) rfl (by decide) rfl ?_
    refine R_iload_n (pc := 53) 1 (dc k_X_leagues 26 rfl) rfl rfl ?_
    refine R_iconst (pc := 54) (a := 4) (dc k_X_leagues 27 rfl) ?_
    refine R_cVP (pc := 55)  (As := [vI world, vI 4]) (S := []) ck_X_233 (dc k_X_leagues 28 rfl) ⟨rfl, ⟨_, rfl, rfl⟩, (lb rfl), (Nat.le_trans (lb rfl) hn)⟩ (lb rfl) (lb rfl) (lb rfl) rfl (ct_C_fewestIn hE hn (Z_bind hz)) (fun r_10 hz => ?_)
    refine R_istore_n (pc := 58) (L' := [(3, vI r_10), (0, vR 1), (1, vI world), (2, vI k)]) (dc k_X_leagues 29 rfl) rfl (lb rfl) rfl ?_
    refine R_iload_n (pc := 59) 0 (dc k_X_leagues 30 rfl) rfl rfl ?_
    refine R_iconst (pc := 60) (a := 4) (dc k_X_leagues 31 rfl) ?_
    refine R_icmp_le (pc := 61) 68 (dc k_X_leagues 32 rfl) rfl (fun hc => ?_) (fun hc => ?_)
    · have hz := Z_neg (show ¬ (4 < n32 r_10) from (Int.not_lt.mpr hc)) hz
      refine R_iload_n (pc := 68) 0 (dc k_X_leagues 35 rfl) rfl rfl ?_
      exact R_iret (pc := 69) (dc k_X_leagues 36 rfl) rfl rfl rfl ⟨_, rfl, (Z_some hz)⟩
    · have hz := Z_pos (show 4 < n32 r_10 from (Int.not_le.mp hc)) hz
      refine R_iconst (pc := 64) (a := (-1)) (dc k_X_leagues 33 rfl) ?_
      refine R_goto (pc := 65) 69 (dc k_X_leagues 34 rfl) rfl ?_
      exact R_iret (pc := 69) (dc k_X_leagues 36 rfl) rfl rfl rfl ⟨_, rfl, (Z_some hz)⟩
  · have hz := Z_pos (show n32 r_4 = 0 from (Decidable.not_not.mp hc)) hz
    refine R_bipush (pc := 11) (a := (-2)) (dc k_X_leagues 5 rfl) (by decide) ?_
    exact R_iret (pc := 13) (dc k_X_leagues 6 rfl) rfl rfl rfl ⟨_, rfl, (Z_some hz)⟩

set_option maxRecDepth 20000 in
theorem ct_X_plain {E : Nat → Bool} {n : Nat} (hE : ∀ c, 1 ≤ c → c ≤ 80 → E c = true) (hn : 80 ≤ n) {k : Int} {M : Mem} {K : Int × Mem → Prop} (hz : Z (X_plain k M) K) : Mt y_X_plain (10, 297, n, n, E) E [vR 1, vI k] M (qM K) := by
  refine Mt.of (by decide) (lb rfl) (Nat.le_refl _) rfl ?_
  rw [X_plain] at hz
  show Rr y_X_plain (10, 297, n, n, E) (qM K) 0 [(0, vR 1), (1, vI k)] [] E n M
  refine R_aload_n (pc := 0) 0 (dc k_X_plain 0 rfl) rfl rfl ?_
  refine R_getS (pc := 1) (ci := 0) (k := 7) 71 (dc k_X_plain 1 rfl) fl_X_46 rfl (lb rfl) (Nat.le_trans (lb rfl) hn) (hE 1 (lb rfl) (lb rfl)) rfl (by decide) rfl ?_
  refine R_aload_n (pc := 4) 0 (dc k_X_plain 2 rfl) rfl rfl ?_
  obtain ⟨hg_1, hz⟩ := Z_chk hz
  obtain ⟨t_2, ht_2, hz⟩ := Z_lt hz
  obtain ⟨hq_3, ht_2t⟩ := isTI.at' hg_1 ht_2
  have hnt_2t := qTn ht_2t hn
  have hEt_2t := qTE ht_2t hE
  refine R_getR (pc := 5) (ci := 0) (k := 2) t_2 (dc k_X_plain 3 rfl) fl_X_16 rfl (lb rfl) (Nat.le_trans (lb rfl) hn) (Or.inr rfl) hq_3 (qT0 ht_2t) rfl ?_
  refine R_aload_n (pc := 8) 0 (dc k_X_plain 4 rfl) rfl rfl ?_
  refine R_getS (pc := 9) (ci := 0) (k := 5) 42 (dc k_X_plain 5 rfl) fl_X_35 rfl (lb rfl) (Nat.le_trans (lb rfl) hn) (hE 1 (lb rfl) (lb rfl)) rfl (by decide) rfl ?_
  refine R_iload_n (pc := 12) 1 (dc k_X_plain 6 rfl) rfl rfl ?_
  refine R_cVV (pc := 13)  (As := [vR t_2, vR 42, vI k]) (S := []) ck_X_161 (dc k_X_plain 7 rfl) ⟨rfl, ⟨_, rfl, rfl⟩, (lb rfl), (Nat.le_trans (lb rfl) hn)⟩ (lb rfl) (lb rfl) (lb rfl) rfl (ct_W_look hE hn ht_2t (Z_bind hz)) (fun M_4 hz => ?_)
  refine R_aload_n (pc := 16) 0 (dc k_X_plain 8 rfl) rfl rfl ?_
  refine R_getS (pc := 17) (ci := 0) (k := 10) 78 (dc k_X_plain 9 rfl) fl_X_67 rfl (lb rfl) (Nat.le_trans (lb rfl) hn) (hE 1 (lb rfl) (lb rfl)) rfl (by decide) rfl ?_
  refine R_aload_n (pc := 20) 0 (dc k_X_plain 10 rfl) rfl rfl ?_
  obtain ⟨hg_5, hz⟩ := Z_chk hz
  obtain ⟨t_6, ht_6, hz⟩ := Z_lt hz
  obtain ⟨hq_7, ht_6t⟩ := isTI.at' hg_5 ht_6
  have hnt_6t := qTn ht_6t hn
  have hEt_6t := qTE ht_6t hE
  refine R_getR (pc := 21) (ci := 0) (k := 2) t_6 (dc k_X_plain 11 rfl) fl_X_16 rfl (lb rfl) (Nat.le_trans (lb rfl) hn) (Or.inr rfl) hq_7 (qT0 ht_6t) rfl ?_
  refine R_aload_n (pc := 24) 0 (dc k_X_plain 12 rfl) rfl rfl ?_
  refine R_getS (pc := 25) (ci := 0) (k := 5) 42 (dc k_X_plain 13 rfl) fl_X_35 rfl (lb rfl) (Nat.le_trans (lb rfl) hn) (hE 1 (lb rfl) (lb rfl)) rfl (by decide) rfl ?_
  refine R_aload_n (pc := 28) 0 (dc k_X_plain 14 rfl) rfl rfl ?_
  refine R_getS (pc := 29) (ci := 0) (k := 7) 71 (dc k_X_plain 15 rfl) fl_X_46 rfl (lb rfl) (Nat.le_trans (lb rfl) hn) (hE 1 (lb rfl) (lb rfl)) rfl (by decide) rfl ?_
  refine R_cVV (pc := 32)  (As := [vR t_6, vR 42, vR 71]) (S := []) ck_X_229 (dc k_X_plain 16 rfl) ⟨rfl, ⟨_, rfl, rfl⟩, (lb rfl), (Nat.le_trans (lb rfl) hn)⟩ (lb rfl) (lb rfl) (lb rfl) rfl (ct_C_watch hE hn ht_6t (Z_bind hz)) (fun M_8 hz => ?_)
  refine R_iconst (pc := 35) (a := (-1)) (dc k_X_plain 17 rfl) ?_
  refine R_istore_n (pc := 36) (L' := [(2, vI (-1)), (0, vR 1), (1, vI k)]) (dc k_X_plain 18 rfl) rfl (lb rfl) rfl ?_
  refine R_iconst (pc := 37) (a := 5) (dc k_X_plain 19 rfl) ?_
  refine R_istore_n (pc := 38) (L' := [(3, vI 5), (2, vI (-1)), (0, vR 1), (1, vI k)]) (dc k_X_plain 20 rfl) rfl (lb rfl) rfl ?_
  refine R_iconst (pc := 39) (a := 0) (dc k_X_plain 21 rfl) ?_
  refine R_istore (pc := 40) (L' := [(4, vI 0), (3, vI 5), (2, vI (-1)), (0, vR 1), (1, vI k)]) (dc k_X_plain 22 rfl) (lb rfl) rfl ?_
  obtain ⟨K_12, hK_13, hz⟩ := Z_cut hz
  have hX_14 : ∀ (l2_18 : Int), K_12 l2_18 → Rr y_X_plain (10, 297, n, n, E) (qM K) 108 [(2, vI l2_18)] [] E n M_8 := by
    intro l2_18 hk
    have hz := hK_13 _ hk
    refine R_iload_n (pc := 108) 0 (dc k_X_plain 56 rfl) rfl rfl ?_
    exact R_iret (pc := 109) (dc k_X_plain 57 rfl) rfl rfl rfl ⟨_, rfl, (Z_some hz)⟩
  refine R_sub [3, 2, 1, 0] rfl ?_
  refine it_R (C := fun aZ : Int × Int × Int => Rr y_X_plain (10, 297, n, n, E) (qM K) 42 [(0, vR 1), (2, vI aZ.1), (3, vI aZ.2.1), (4, vI aZ.2.2)] [] E n M_8) (fun aZ K_15 hC_16 hB_17 hz => ?_) FUEL ((-1), 5, 0) hz
  obtain ⟨l2_9, l3_10, l4_11⟩ := aZ
  rw [X_plain_b42] at hz
  show Rr y_X_plain (10, 297, n, n, E) (qM K) 42 [(0, vR 1), (2, vI l2_9), (3, vI l3_10), (4, vI l4_11)] [] E n M_8
  refine R_iload (pc := 42) 3 (dc k_X_plain 23 rfl) rfl ?_
  refine R_iconst (pc := 44) (a := 1) (dc k_X_plain 24 rfl) ?_
  refine R_aload_n (pc := 45) 0 (dc k_X_plain 25 rfl) rfl rfl ?_
  obtain ⟨hg_19, hz⟩ := Z_chk hz
  obtain ⟨t_20, ht_20, hz⟩ := Z_lt hz
  obtain ⟨hq_21, ht_20t⟩ := isTI.at' hg_19 ht_20
  have hnt_20t := qTn ht_20t hn
  have hEt_20t := qTE ht_20t hE
  refine R_getR (pc := 46) (ci := 0) (k := 2) t_20 (dc k_X_plain 26 rfl) fl_X_16 rfl (lb rfl) (Nat.le_trans (lb rfl) hn) (Or.inr rfl) hq_21 (qT0 ht_20t) rfl ?_
  refine R_getI (pc := 49) (ci := 1) (k := 0) (dc k_X_plain 27 rfl) fl_X_167 (lT ht_20t) (qT1 ht_20t) (qTn_0 hnt_20t) (rT_0 ht_20t) (Or.inl rfl) ?_
  refine R_ishl (pc := 52) (dc k_X_plain 28 rfl) ?_
  have hX_32 : ((n32 l4_11 < n32 (ishl 1 (M_8 t_20 0))) ∧ (0 < n32 l3_10)) → Rr y_X_plain (10, 297, n, n, E) (qM K) 60 [(0, vR 1), (2, vI l2_9), (3, vI l3_10), (4, vI l4_11)] [] E n M_8 := by
    intro hc
    have hz := Z_pos hc hz
    refine R_aload_n (pc := 60) 0 (dc k_X_plain 32 rfl) rfl rfl ?_
    refine R_getS (pc := 61) (ci := 0) (k := 7) 71 (dc k_X_plain 33 rfl) fl_X_46 rfl (lb rfl) (Nat.le_trans (lb rfl) hn) (hE 1 (lb rfl) (lb rfl)) rfl (by decide) rfl ?_
    refine R_getS (pc := 64) (ci := 6) (k := 4) 73 (dc k_X_plain 34 rfl) fl_X_170 rfl (lb rfl) (Nat.le_trans (lb rfl) hn) (hE 71 (lb rfl) (lb rfl)) rfl (by decide) rfl ?_
    refine R_iconst (pc := 67) (a := 0) (dc k_X_plain 35 rfl) ?_
    refine R_iload (pc := 68) 3 (dc k_X_plain 36 rfl) rfl ?_
    refine R_cSP (pc := 70)  (As := [vR 73, vI 0, vI l4_11]) (S := []) ck_X_139 (dc k_X_plain 37 rfl) (lb rfl) (lb rfl) (lb rfl) rfl (ct_X_has hE hn (Z_bind hz)) (fun r_22 hz => ?_)
    obtain ⟨K_25, hK_26, hz⟩ := Z_cut hz
    have hJ_27 : ∀ (l2_23 : Int) (l3_24 : Int), K_25 (l2_23, l3_24) → Rr y_X_plain (10, 297, n, n, E) (qM K) 102 [(0, vR 1), (2, vI l2_23), (3, vI l3_24), (4, vI l4_11)] [] E n M_8 := by
      intro l2_23 l3_24 hk
      have hz := hK_26 _ hk
      obtain ⟨l4_31, hl4_31, hz⟩ := Z_lt hz
      refine R_iincE (pc := 102) (L' := [(4, vI l4_31), (0, vR 1), (2, vI l2_23), (3, vI l3_24)]) 3 (dc k_X_plain 54 rfl) rfl (lb rfl) hl4_31 rfl ?_
      refine R_goto (pc := 105) 42 (dc k_X_plain 55 rfl) rfl ?_
      refine R_sub [1, 2, 3, 0] rfl ?_
      exact hC_16 _ (Z_some hz)
    refine R_if_eq (pc := 73) 102 (dc k_X_plain 38 rfl) rfl (fun hc => ?_) (fun hc => ?_)
    · have hz := Z_neg (show ¬ (¬ n32 r_22 = 0) from (fun z => z hc)) hz
      exact hJ_27 _ _ (Z_some hz)
    · have hz := Z_pos (show ¬ n32 r_22 = 0 from hc) hz
      refine R_aload_n (pc := 76) 0 (dc k_X_plain 39 rfl) rfl rfl ?_
      refine R_getS (pc := 77) (ci := 0) (k := 10) 78 (dc k_X_plain 40 rfl) fl_X_67 rfl (lb rfl) (Nat.le_trans (lb rfl) hn) (hE 1 (lb rfl) (lb rfl)) rfl (by decide) rfl ?_
      refine R_iload (pc := 80) 3 (dc k_X_plain 41 rfl) rfl ?_
      refine R_iload_n (pc := 82) 2 (dc k_X_plain 42 rfl) rfl rfl ?_
      refine R_iconst (pc := 83) (a := 1) (dc k_X_plain 43 rfl) ?_
      refine R_isub (pc := 84) (dc k_X_plain 44 rfl) ?_
      refine R_cVP (pc := 85)  (As := [vI l4_11, vI (l3_10 - 1)]) (S := []) ck_X_233 (dc k_X_plain 45 rfl) ⟨rfl, ⟨_, rfl, rfl⟩, (lb rfl), (Nat.le_trans (lb rfl) hn)⟩ (lb rfl) (lb rfl) (lb rfl) rfl (ct_C_fewestIn hE hn (Z_bind hz)) (fun r_28 hz => ?_)
      refine R_istore (pc := 88) (L' := [(5, vI r_28), (0, vR 1), (2, vI l2_9), (3, vI l3_10), (4, vI l4_11)]) (dc k_X_plain 46 rfl) (lb rfl) rfl ?_
      refine R_iload (pc := 90) 0 (dc k_X_plain 47 rfl) rfl ?_
      refine R_iload_n (pc := 92) 3 (dc k_X_plain 48 rfl) rfl rfl ?_
      refine R_icmp_ge (pc := 93) 102 (dc k_X_plain 49 rfl) rfl (fun hc => ?_) (fun hc => ?_)
      · have hz := Z_neg (show ¬ (n32 r_28 < n32 l3_10) from (Int.not_lt.mpr hc)) hz
        refine R_sub [1, 2, 3, 4] rfl ?_
        exact hJ_27 _ _ (Z_some hz)
      · have hz := Z_pos (show n32 r_28 < n32 l3_10 from (Int.not_le.mp hc)) hz
        refine R_iload (pc := 96) 0 (dc k_X_plain 50 rfl) rfl ?_
        refine R_istore_n (pc := 98) (L' := [(3, vI r_28), (5, vI r_28), (0, vR 1), (2, vI l2_9), (4, vI l4_11)]) (dc k_X_plain 51 rfl) rfl (lb rfl) rfl ?_
        refine R_iload (pc := 99) 4 (dc k_X_plain 52 rfl) rfl ?_
        refine R_istore_n (pc := 101) (L' := [(2, vI l4_11), (3, vI r_28), (5, vI r_28), (0, vR 1), (4, vI l4_11)]) (dc k_X_plain 53 rfl) rfl (lb rfl) rfl ?_
        refine R_sub [3, 0, 1, 4] rfl ?_
        exact hJ_27 _ _ (Z_some hz)
  have hY_33 : ¬ ((n32 l4_11 < n32 (ishl 1 (M_8 t_20 0))) ∧ (0 < n32 l3_10)) → Rr y_X_plain (10, 297, n, n, E) (qM K) 108 [(0, vR 1), (2, vI l2_9), (3, vI l3_10), (4, vI l4_11)] [] E n M_8 := by
    intro hc
    have hz := Z_neg hc hz
    refine R_sub [1] rfl ?_
    exact hX_14 _ (hB_17 _ (Z_some hz))
  refine R_icmp_ge (pc := 53) 108 (dc k_X_plain 29 rfl) rfl (fun hc => ?_) (fun hc => ?_)
  · have hc_34 : n32 (ishl 1 (M_8 t_20 0)) ≤ n32 l4_11 := hc
    exact hY_33 (fun z => (Int.not_lt.mpr hc_34) z.1)
  · have hc_35 : n32 l4_11 < n32 (ishl 1 (M_8 t_20 0)) := (Int.not_le.mp hc)
    refine R_iload_n (pc := 56) 2 (dc k_X_plain 30 rfl) rfl rfl ?_
    refine R_if_le (pc := 57) 108 (dc k_X_plain 31 rfl) rfl (fun hc => ?_) (fun hc => ?_)
    · have hc_36 : n32 l3_10 ≤ 0 := hc
      exact hY_33 (fun z => (Int.not_lt.mpr hc_36) z.2)
    · have hc_37 : 0 < n32 l3_10 := (Int.not_le.mp hc)
      exact hX_32 ⟨hc_35, hc_37⟩

set_option maxRecDepth 20000 in
theorem ct_T_countAnswering {E : Nat → Bool} {n : Nat} (hE : ∀ c, 1 ≤ c → c ≤ 80 → E c = true) (hn : 80 ≤ n) {t : Nat} {row : Int} {world : Int} {answer : Int} (ht : isT t) {M : Mem} {K : Int → Prop} (hz : Z (T_countAnswering t row world answer M) K) : Mt y_T_countAnswering (2, 46, n, n, E) E [vR t, vI row, vI world, vI answer] M (qP M K) := by
  refine Mt.of (by decide) (lb rfl) (Nat.le_refl _) rfl ?_
  rw [T_countAnswering] at hz
  have hnt := qTn ht hn
  have hEt := qTE ht hE
  show Rr y_T_countAnswering (2, 46, n, n, E) (qP M K) 0 [(0, vR t), (1, vI row), (2, vI world), (3, vI answer)] [] E n M
  refine R_iconst (pc := 0) (a := 0) (dc k_T_countAnswering 0 rfl) ?_
  refine R_istore (pc := 1) (L' := [(4, vI 0), (0, vR t), (1, vI row), (2, vI world), (3, vI answer)]) (dc k_T_countAnswering 1 rfl) (lb rfl) rfl ?_
  refine R_iconst (pc := 3) (a := 0) (dc k_T_countAnswering 2 rfl) ?_
  refine R_istore (pc := 4) (L' := [(5, vI 0), (4, vI 0), (0, vR t), (1, vI row), (2, vI world), (3, vI answer)]) (dc k_T_countAnswering 3 rfl) (lb rfl) rfl ?_
  obtain ⟨K_3, hK_4, hz⟩ := Z_cut hz
  have hX_5 : ∀ (l4_9 : Int), K_3 l4_9 → Rr y_T_countAnswering (2, 46, n, n, E) (qP M K) 36 [(4, vI l4_9)] [] E n M := by
    intro l4_9 hk
    have hz := hK_4 _ hk
    refine R_iload (pc := 36) 0 (dc k_T_countAnswering 18 rfl) rfl ?_
    exact R_iret (pc := 38) (dc k_T_countAnswering 19 rfl) rfl rfl rfl ⟨_, rfl, rfl, (Z_some hz)⟩
  refine R_sub [2, 3, 4, 5, 1, 0] rfl ?_
  refine it_R (C := fun aZ : Int × Int => Rr y_T_countAnswering (2, 46, n, n, E) (qP M K) 6 [(0, vR t), (1, vI row), (2, vI world), (3, vI answer), (4, vI aZ.1), (5, vI aZ.2)] [] E n M) (fun aZ K_6 hC_7 hB_8 hz => ?_) FUEL (0, 0) hz
  obtain ⟨l4_1, l5_2⟩ := aZ
  rw [T_countAnswering_b6] at hz
  show Rr y_T_countAnswering (2, 46, n, n, E) (qP M K) 6 [(0, vR t), (1, vI row), (2, vI world), (3, vI answer), (4, vI l4_1), (5, vI l5_2)] [] E n M
  refine R_iload (pc := 6) 5 (dc k_T_countAnswering 4 rfl) rfl ?_
  refine R_aload_n (pc := 8) 0 (dc k_T_countAnswering 5 rfl) rfl rfl ?_
  refine R_getI (pc := 9) (ci := 1) (k := 1) (dc k_T_countAnswering 6 rfl) fl_T_53 (lT ht) (qT1 ht) (qTn_0 hnt) (rT_1 ht) (Or.inl rfl) ?_
  refine R_icmp_ge (pc := 12) 36 (dc k_T_countAnswering 7 rfl) rfl (fun hc => ?_) (fun hc => ?_)
  · have hz := Z_neg (show ¬ (n32 l5_2 < n32 (M t 1)) from (Int.not_lt.mpr hc)) hz
    refine R_sub [4] rfl ?_
    exact hX_5 _ (hB_8 _ (Z_some hz))
  · have hz := Z_pos (show n32 l5_2 < n32 (M t 1) from (Int.not_le.mp hc)) hz
    refine R_aload_n (pc := 15) 0 (dc k_T_countAnswering 8 rfl) rfl rfl ?_
    refine R_iload (pc := 16) 5 (dc k_T_countAnswering 9 rfl) rfl ?_
    refine R_iload_n (pc := 18) 1 (dc k_T_countAnswering 10 rfl) rfl rfl ?_
    refine R_iload_n (pc := 19) 2 (dc k_T_countAnswering 11 rfl) rfl rfl ?_
    refine R_cVP (pc := 20)  (As := [vI l5_2, vI row, vI world]) (S := []) ck_T_90 (dc k_T_countAnswering 12 rfl) ⟨(lT ht), ⟨_, rfl, rfl⟩, (qT1 ht), (qTn_0 hnt)⟩ (lb rfl) (lb rfl) (lb rfl) rfl (ct_T_answer hE hn ht (Z_bind hz)) (fun r_10 hz => ?_)
    refine R_iload_n (pc := 23) 3 (dc k_T_countAnswering 13 rfl) rfl rfl ?_
    obtain ⟨K_12, hK_13, hz⟩ := Z_cut hz
    have hJ_14 : ∀ (l4_11 : Int), K_12 l4_11 → Rr y_T_countAnswering (2, 46, n, n, E) (qP M K) 30 [(0, vR t), (1, vI row), (2, vI world), (3, vI answer), (4, vI l4_11), (5, vI l5_2)] [] E n M := by
      intro l4_11 hk
      have hz := hK_13 _ hk
      obtain ⟨l5_17, hl5_17, hz⟩ := Z_lt hz
      refine R_iincE (pc := 30) (L' := [(5, vI l5_17), (0, vR t), (1, vI row), (2, vI world), (3, vI answer), (4, vI l4_11)]) 5 (dc k_T_countAnswering 16 rfl) rfl (lb rfl) hl5_17 rfl ?_
      refine R_goto (pc := 33) 6 (dc k_T_countAnswering 17 rfl) rfl ?_
      refine R_sub [1, 2, 3, 4, 5, 0] rfl ?_
      exact hC_7 _ (Z_some hz)
    refine R_icmp_ne (pc := 24) 30 (dc k_T_countAnswering 14 rfl) rfl (fun hc => ?_) (fun hc => ?_)
    · have hz := Z_neg (show ¬ (n32 r_10 = n32 answer) from hc) hz
      exact hJ_14 _ (Z_some hz)
    · have hz := Z_pos (show n32 r_10 = n32 answer from (Decidable.not_not.mp hc)) hz
      obtain ⟨l4_15, hl4_15, hz⟩ := Z_lt hz
      refine R_iincE (pc := 27) (L' := [(4, vI l4_15), (0, vR t), (1, vI row), (2, vI world), (3, vI answer), (5, vI l5_2)]) 4 (dc k_T_countAnswering 15 rfl) rfl (lb rfl) hl4_15 rfl ?_
      refine R_sub [1, 2, 3, 4, 0, 5] rfl ?_
      exact hJ_14 _ (Z_some hz)

set_option maxRecDepth 20000 in
theorem ct_P_voice {E : Nat → Bool} {n : Nat} (hE : ∀ c, 1 ≤ c → c ≤ 80 → E c = true) (hn : 80 ≤ n) {person : Int} {row : Int} {world : Int} {M : Mem} {K : Int → Prop} (hz : Z (P_voice person row world M) K) : Mt y_P_voice (2, 46, n, n, E) E [vR 76, vI person, vI row, vI world] M (qP M K) := by
  refine Mt.of (by decide) (lb rfl) (Nat.le_refl _) rfl ?_
  rw [P_voice] at hz
  show Rr y_P_voice (2, 46, n, n, E) (qP M K) 0 [(0, vR 76), (1, vI person), (2, vI row), (3, vI world)] [] E n M
  refine R_aload_n (pc := 0) 0 (dc k_P_voice 0 rfl) rfl rfl ?_
  obtain ⟨hg_1, hz⟩ := Z_chk hz
  obtain ⟨t_2, ht_2, hz⟩ := Z_lt hz
  obtain ⟨hq_3, ht_2t⟩ := isTI.at' hg_1 ht_2
  have hnt_2t := qTn ht_2t hn
  have hEt_2t := qTE ht_2t hE
  refine R_getR (pc := 1) (ci := 8) (k := 0) t_2 (dc k_P_voice 1 rfl) fl_P_15 rfl (lb rfl) (Nat.le_trans (lb rfl) hn) (Or.inr rfl) hq_3 (qT0 ht_2t) rfl ?_
  refine R_iload_n (pc := 4) 1 (dc k_P_voice 2 rfl) rfl rfl ?_
  refine R_iload_n (pc := 5) 2 (dc k_P_voice 3 rfl) rfl rfl ?_
  refine R_iload_n (pc := 6) 3 (dc k_P_voice 4 rfl) rfl rfl ?_
  refine R_cVP (pc := 7)  (As := [vI person, vI row, vI world]) (S := []) ck_P_65 (dc k_P_voice 5 rfl) ⟨(lT ht_2t), ⟨_, rfl, rfl⟩, (qT1 ht_2t), (qTn_0 hnt_2t)⟩ (lb rfl) (lb rfl) (lb rfl) rfl (ct_T_answer hE hn ht_2t (Z_bind hz)) (fun r_4 hz => ?_)
  refine R_istore (pc := 10) (L' := [(4, vI r_4), (0, vR 76), (1, vI person), (2, vI row), (3, vI world)]) (dc k_P_voice 6 rfl) (lb rfl) rfl ?_
  refine R_iload (pc := 12) 0 (dc k_P_voice 7 rfl) rfl ?_
  refine R_iconst (pc := 14) (a := 1) (dc k_P_voice 8 rfl) ?_
  refine R_icmp_ne (pc := 15) 20 (dc k_P_voice 9 rfl) rfl (fun hc => ?_) (fun hc => ?_)
  · have hz := Z_neg (show ¬ (n32 r_4 = 1) from hc) hz
    refine R_iload (pc := 20) 0 (dc k_P_voice 12 rfl) rfl ?_
    refine R_if_ne (pc := 22) 29 (dc k_P_voice 13 rfl) rfl (fun hc => ?_) (fun hc => ?_)
    · have hz := Z_neg (show ¬ (n32 r_4 = 0) from hc) hz
      refine R_iconst (pc := 29) (a := 0) (dc k_P_voice 16 rfl) ?_
      exact R_iret (pc := 30) (dc k_P_voice 17 rfl) rfl rfl rfl ⟨_, rfl, rfl, (Z_some hz)⟩
    · have hz := Z_pos (show n32 r_4 = 0 from (Decidable.not_not.mp hc)) hz
      refine R_iconst (pc := 25) (a := (-1)) (dc k_P_voice 14 rfl) ?_
      refine R_goto (pc := 26) 30 (dc k_P_voice 15 rfl) rfl ?_
      exact R_iret (pc := 30) (dc k_P_voice 17 rfl) rfl rfl rfl ⟨_, rfl, rfl, (Z_some hz)⟩
  · have hz := Z_pos (show n32 r_4 = 1 from (Decidable.not_not.mp hc)) hz
    refine R_iconst (pc := 18) (a := 1) (dc k_P_voice 10 rfl) ?_
    exact R_iret (pc := 19) (dc k_P_voice 11 rfl) rfl rfl rfl ⟨_, rfl, rfl, (Z_some hz)⟩

set_option maxRecDepth 20000 in
theorem cts_P_seekFewest {E : Nat → Bool} {n : Nat} (hE : ∀ c, 1 ≤ c → c ≤ 80 → E c = true) (hn : 80 ≤ n) {rec_ : Int → Int → Int → Int → Mem → Option (Mem)} {fr lo : Nat} (hf : 1 ≤ fr) (hl : 21 ≤ lo) (hrec : ∀ {b0 b1 b2 b3 : Int} {M : Mem} {K : Mem → Prop}, Z (rec_ b0 b1 b2 b3 M) K → Mt y_P_seekFewest (fr, lo, n, n, E) E [vR 76, vI b0, vI b1, vI b2, vI b3] M (qV K)) {tie : Int} {used : Int} {sum : Int} {count : Int} {M : Mem} {K : Mem → Prop} (hz : Z (P_seekFewest_s rec_ tie used sum count M) K) : Mt y_P_seekFewest (fr + 1, lo + 26, n, n, E) E [vR 76, vI tie, vI used, vI sum, vI count] M (qV K) := by
  refine Mt.of (by decide) (lb rfl) (Nat.le_refl _) rfl ?_
  rw [P_seekFewest_s] at hz
  show Rr y_P_seekFewest (fr + 1, lo + 26, n, n, E) (qV K) 0 [(0, vR 76), (1, vI tie), (2, vI used), (3, vI sum), (4, vI count)] [] E n M
  refine R_iload (pc := 0) 4 (dc k_P_seekFewest 0 rfl) rfl ?_
  refine R_aload_n (pc := 2) 0 (dc k_P_seekFewest 1 rfl) rfl rfl ?_
  refine R_getI (pc := 3) (ci := 8) (k := 5) (dc k_P_seekFewest 2 rfl) fl_P_49 rfl (lb rfl) (Nat.le_trans (lb rfl) hn) rfl (Or.inl rfl) ?_
  refine R_icmp_lt (pc := 6) 10 (dc k_P_seekFewest 3 rfl) rfl (fun hc => ?_) (fun hc => ?_)
  · have hz := Z_neg (show ¬ (n32 (M 76 5) ≤ n32 count) from (Int.not_le.mpr hc)) hz
    refine R_iload_n (pc := 10) 3 (dc k_P_seekFewest 5 rfl) rfl rfl ?_
    refine R_aload_n (pc := 11) 0 (dc k_P_seekFewest 6 rfl) rfl rfl ?_
    refine R_getI (pc := 12) (ci := 8) (k := 4) (dc k_P_seekFewest 7 rfl) fl_P_46 rfl (lb rfl) (Nat.le_trans (lb rfl) hn) rfl (Or.inl rfl) ?_
    refine R_icmp_lt (pc := 15) 25 (dc k_P_seekFewest 8 rfl) rfl (fun hc => ?_) (fun hc => ?_)
    · have hz := Z_neg (show ¬ (n32 (M 76 4) ≤ n32 sum) from (Int.not_le.mpr hc)) hz
      refine R_iload_n (pc := 25) 1 (dc k_P_seekFewest 13 rfl) rfl rfl ?_
      refine R_istore (pc := 26) (L' := [(5, vI tie), (0, vR 76), (1, vI tie), (2, vI used), (3, vI sum), (4, vI count)]) (dc k_P_seekFewest 14 rfl) (lb rfl) rfl ?_
      obtain ⟨K_4, hK_5, hz⟩ := Z_cut hz
      have hX_6 : ∀ (M_10 : Mem), K_4 M_10 → Rr y_P_seekFewest (fr + 1, lo + 26, n, n, E) (qV K) 89 [] [] E n M_10 := by
        intro M_10 hk
        have hz := hK_5 _ hk
        exact R_vret (pc := 89) (dc k_P_seekFewest 48 rfl) rfl rfl rfl ⟨rfl, (Z_some hz)⟩
      refine R_sub [1, 3, 4, 5, 0] rfl ?_
      refine it_R (C := fun aZ : Int × Mem => Rr y_P_seekFewest (fr + 1, lo + 26, n, n, E) (qV K) 28 [(0, vR 76), (2, vI used), (3, vI sum), (4, vI count), (5, vI aZ.1)] [] E n aZ.2) (fun aZ K_7 hC_8 hB_9 hz => ?_) FUEL (tie, M) hz
      obtain ⟨l5_2, M_3⟩ := aZ
      rw [P_seekFewest_b28] at hz
      show Rr y_P_seekFewest (fr + 1, lo + 26, n, n, E) (qV K) 28 [(0, vR 76), (2, vI used), (3, vI sum), (4, vI count), (5, vI l5_2)] [] E n M_3
      refine R_iload (pc := 28) 4 (dc k_P_seekFewest 15 rfl) rfl ?_
      refine R_aload_n (pc := 30) 0 (dc k_P_seekFewest 16 rfl) rfl rfl ?_
      obtain ⟨hg_11, hz⟩ := Z_chk hz
      obtain ⟨t_12, ht_12, hz⟩ := Z_lt hz
      obtain ⟨hq_13, ht_12t⟩ := isTI.at' hg_11 ht_12
      have hnt_12t := qTn ht_12t hn
      have hEt_12t := qTE ht_12t hE
      refine R_getR (pc := 31) (ci := 8) (k := 0) t_12 (dc k_P_seekFewest 17 rfl) fl_P_15 rfl (lb rfl) (Nat.le_trans (lb rfl) hn) (Or.inr rfl) hq_13 (qT0 ht_12t) rfl ?_
      refine R_getI (pc := 34) (ci := 1) (k := 3) (dc k_P_seekFewest 18 rfl) fl_P_19 (lT ht_12t) (qT1 ht_12t) (qTn_0 hnt_12t) (rT_3 ht_12t) (Or.inl rfl) ?_
      refine R_icmp_ge (pc := 37) 89 (dc k_P_seekFewest 19 rfl) rfl (fun hc => ?_) (fun hc => ?_)
      · have hz := Z_neg (show ¬ (n32 l5_2 < n32 (M_3 t_12 3)) from (Int.not_lt.mpr hc)) hz
        refine R_sub [] rfl ?_
        exact hX_6 _ (hB_9 _ (Z_some hz))
      · have hz := Z_pos (show n32 l5_2 < n32 (M_3 t_12 3) from (Int.not_le.mp hc)) hz
        refine R_aload_n (pc := 40) 0 (dc k_P_seekFewest 20 rfl) rfl rfl ?_
        refine R_getR (pc := 41) (ci := 8) (k := 0) t_12 (dc k_P_seekFewest 21 rfl) fl_P_15 rfl (lb rfl) (Nat.le_trans (lb rfl) hn) (Or.inr rfl) hq_13 (qT0 ht_12t) rfl ?_
        refine R_iload (pc := 44) 4 (dc k_P_seekFewest 22 rfl) rfl ?_
        refine R_cVP (pc := 46)  (As := [vI l5_2]) (S := []) ck_P_42 (dc k_P_seekFewest 23 rfl) ⟨(lT ht_12t), ⟨_, rfl, rfl⟩, (qT1 ht_12t), (qTn_0 hnt_12t)⟩ (by first | exact lb rfl | (dsimp only; omega)) (by first | exact lb rfl | (dsimp only [y_T_pairOf]; omega)) (lb rfl) rfl (ct_T_pairOf hE hn ht_12t (Z_bind hz)) (fun r_14 hz => ?_)
        refine R_istore (pc := 49) (L' := [(6, vI r_14), (0, vR 76), (2, vI used), (3, vI sum), (4, vI count), (5, vI l5_2)]) (dc k_P_seekFewest 24 rfl) (lb rfl) rfl ?_
        refine R_iload_n (pc := 51) 2 (dc k_P_seekFewest 25 rfl) rfl rfl ?_
        refine R_iload (pc := 52) 0 (dc k_P_seekFewest 26 rfl) rfl ?_
        refine R_iand (pc := 54) (dc k_P_seekFewest 27 rfl) ?_
        obtain ⟨K_16, hK_17, hz⟩ := Z_cut hz
        have hJ_18 : ∀ (M_15 : Mem), K_16 M_15 → Rr y_P_seekFewest (fr + 1, lo + 26, n, n, E) (qV K) 83 [(0, vR 76), (2, vI used), (3, vI sum), (4, vI count), (5, vI l5_2)] [] E n M_15 := by
          intro M_15 hk
          have hz := hK_17 _ hk
          obtain ⟨l5_23, hl5_23, hz⟩ := Z_lt hz
          refine R_iincE (pc := 83) (L' := [(5, vI l5_23), (0, vR 76), (2, vI used), (3, vI sum), (4, vI count)]) 4 (dc k_P_seekFewest 46 rfl) rfl (lb rfl) hl5_23 rfl ?_
          refine R_goto (pc := 86) 28 (dc k_P_seekFewest 47 rfl) rfl ?_
          refine R_sub [1, 2, 3, 4, 0] rfl ?_
          exact hC_8 _ (Z_some hz)
        refine R_if_ne (pc := 55) 83 (dc k_P_seekFewest 28 rfl) rfl (fun hc => ?_) (fun hc => ?_)
        · have hz := Z_neg (show ¬ (n32 (iand used r_14) = 0) from hc) hz
          refine R_sub [1, 2, 3, 4, 5] rfl ?_
          exact hJ_18 _ (Z_some hz)
        · have hz := Z_pos (show n32 (iand used r_14) = 0 from (Decidable.not_not.mp hc)) hz
          refine R_aload_n (pc := 58) 1 (dc k_P_seekFewest 29 rfl) rfl rfl ?_
          refine R_iload (pc := 59) 5 (dc k_P_seekFewest 30 rfl) rfl ?_
          refine R_iconst (pc := 61) (a := 1) (dc k_P_seekFewest 31 rfl) ?_
          refine R_iadd (pc := 62) (dc k_P_seekFewest 32 rfl) ?_
          refine R_iload_n (pc := 63) 2 (dc k_P_seekFewest 33 rfl) rfl rfl ?_
          refine R_iload (pc := 64) 0 (dc k_P_seekFewest 34 rfl) rfl ?_
          refine R_ior (pc := 66) (dc k_P_seekFewest 35 rfl) ?_
          refine R_iload_n (pc := 67) 3 (dc k_P_seekFewest 36 rfl) rfl rfl ?_
          refine R_aload_n (pc := 68) 1 (dc k_P_seekFewest 37 rfl) rfl rfl ?_
          refine R_getS (pc := 69) (ci := 8) (k := 1) 77 (dc k_P_seekFewest 38 rfl) fl_P_9 rfl (lb rfl) (Nat.le_trans (lb rfl) hn) (hE 76 (lb rfl) (lb rfl)) rfl (by decide) rfl ?_
          refine R_iload (pc := 72) 5 (dc k_P_seekFewest 39 rfl) rfl ?_
          obtain ⟨⟨hg_19, hg_20⟩, hz⟩ := Z_chk hz
          refine R_iald (pc := 74) (dc k_P_seekFewest 40 rfl) rfl (lb rfl) (Nat.le_trans (lb rfl) hn) hg_19 hg_20 ?_
          refine R_iadd (pc := 75) (dc k_P_seekFewest 41 rfl) ?_
          refine R_iload (pc := 76) 4 (dc k_P_seekFewest 42 rfl) rfl ?_
          refine R_iconst (pc := 78) (a := 1) (dc k_P_seekFewest 43 rfl) ?_
          refine R_iadd (pc := 79) (dc k_P_seekFewest 44 rfl) ?_
          refine R_cVV (pc := 80)  (As := [vI (l5_2 + 1), vI (ior' used r_14), vI (sum + (M_3 77 (Int.toNat l5_2))), vI (count + 1)]) (S := []) ck_P_62 (dc k_P_seekFewest 45 rfl) ⟨rfl, ⟨_, rfl, rfl⟩, (lb rfl), (Nat.le_trans (lb rfl) hn)⟩ (by first | exact lb rfl | (dsimp only; omega)) (by first | exact lb rfl | (dsimp only [y_P_seekFewest]; omega)) (lb rfl) rfl (hrec (Z_bind hz)) (fun M_21 hz => ?_)
          refine R_sub [1, 2, 3, 4, 5] rfl ?_
          exact hJ_18 _ (Z_some hz)
    · have hz := Z_pos (show n32 (M 76 4) ≤ n32 sum from (Int.not_lt.mp hc)) hz
      refine R_aload_n (pc := 18) 0 (dc k_P_seekFewest 9 rfl) rfl rfl ?_
      refine R_iload (pc := 19) 4 (dc k_P_seekFewest 10 rfl) rfl ?_
      obtain ⟨M_1, hM_1, hz⟩ := Z_lt hz
      refine R_putIE (pc := 21) (ci := 8) (k := 5) (dc k_P_seekFewest 11 rfl) fl_P_49 rfl (lb rfl) (Nat.le_trans (lb rfl) hn) rfl rfl rfl hM_1 ?_
      exact R_vret (pc := 24) (dc k_P_seekFewest 12 rfl) rfl rfl rfl ⟨rfl, (Z_some hz)⟩
  · have hz := Z_pos (show n32 (M 76 5) ≤ n32 count from (Int.not_lt.mp hc)) hz
    exact R_vret (pc := 9) (dc k_P_seekFewest 4 rfl) rfl rfl rfl ⟨rfl, (Z_some hz)⟩
theorem ctd_P_seekFewest {E : Nat → Bool} {n : Nat} (hE : ∀ c, 1 ≤ c → c ≤ 80 → E c = true) (hn : 80 ≤ n) : ∀ (d : Nat) {tie used sum count : Int} {M : Mem} {K : Mem → Prop}, Z (P_seekFewest d tie used sum count M) K → Mt y_P_seekFewest (1 + 1 * d, 21 + 26 * d, n, n, E) E [vR 76, vI tie, vI used, vI sum, vI count] M (qV K)
  | 0, tie, used, sum, count, M, K, hz => (Z_none hz).elim
  | d + 1, tie, used, sum, count, M, K, hz => by
    have h := cts_P_seekFewest hE hn (rec_ := P_seekFewest d) (fr := 1 + 1 * d) (lo := 21 + 26 * d) (by omega) (by omega) (fun hz => ctd_P_seekFewest hE hn d hz) (show Z (P_seekFewest_s (P_seekFewest d) tie used sum count M) K from hz)
    rw [show 1 + 1 * (d + 1) = 1 + 1 * d + 1 by omega, show 21 + 26 * (d + 1) = 21 + 26 * d + 26 by omega]
    exact h
theorem ct_P_seekFewest {E : Nat → Bool} {n : Nat} (hE : ∀ c, 1 ≤ c → c ≤ 80 → E c = true) (hn : 80 ≤ n) {tie used sum count : Int} {M : Mem} {K : Mem → Prop} (hz : Z (P_seekFewest 14 tie used sum count M) K) : Mt y_P_seekFewest (15, 385, n, n, E) E [vR 76, vI tie, vI used, vI sum, vI count] M (qV K) := ctd_P_seekFewest hE hn 14 hz

set_option maxRecDepth 20000 in
theorem ct_P_fewestTurning {E : Nat → Bool} {n : Nat} (hE : ∀ c, 1 ≤ c → c ≤ 80 → E c = true) (hn : 80 ≤ n) {tat_ : Nat} {row : Int} {world : Int} {lead : Int} (htat_ : isT tat_) {M : Mem} {K : Int × Mem → Prop} (hz : Z (P_fewestTurning tat_ row world lead M) K) : Mt y_P_fewestTurning (16, 411, n, n, E) E [vR 76, vR tat_, vI row, vI world, vI lead] M (qM K) := by
  refine Mt.of (by decide) (lb rfl) (Nat.le_refl _) rfl ?_
  rw [P_fewestTurning] at hz
  have hntat_ := qTn htat_ hn
  have hEtat_ := qTE htat_ hE
  show Rr y_P_fewestTurning (16, 411, n, n, E) (qM K) 0 [(0, vR 76), (1, vR tat_), (2, vI row), (3, vI world), (4, vI lead)] [] E n M
  refine R_aload_n (pc := 0) 0 (dc k_P_fewestTurning 0 rfl) rfl rfl ?_
  refine R_aload_n (pc := 1) 1 (dc k_P_fewestTurning 1 rfl) rfl rfl ?_
  obtain ⟨M_1, hM_1, hz⟩ := Z_lt hz
  refine R_putRE (pc := 2) (ci := 8) (k := 0) (dc k_P_fewestTurning 2 rfl) fl_P_15 rfl (lb rfl) (Nat.le_trans (lb rfl) hn) rfl rfl (qT0 htat_) (qTn_0 hntat_) rfl hM_1 ?_
  refine R_iload (pc := 5) 4 (dc k_P_fewestTurning 3 rfl) rfl ?_
  obtain ⟨K_3, hK_4, hz⟩ := Z_cut hz
  have hJ_5 : ∀ (v_2 : Int), K_3 v_2 → Rr y_P_fewestTurning (16, 411, n, n, E) (qM K) 15 [(0, vR 76), (2, vI row), (3, vI world), (4, vI lead)] [vI v_2] E n M_1 := by
    intro v_2 hk
    have hz := hK_4 _ hk
    refine R_istore (pc := 15) (L' := [(5, vI v_2), (0, vR 76), (2, vI row), (3, vI world), (4, vI lead)]) (dc k_P_fewestTurning 8 rfl) (lb rfl) rfl ?_
    refine R_aload_n (pc := 17) 1 (dc k_P_fewestTurning 9 rfl) rfl rfl ?_
    refine R_iload (pc := 18) 0 (dc k_P_fewestTurning 10 rfl) rfl ?_
    obtain ⟨K_8, hK_9, hz⟩ := Z_cut hz
    have hJ_10 : ∀ (v_7 : Int), K_8 v_7 → Rr y_P_fewestTurning (16, 411, n, n, E) (qM K) 32 [(0, vR 76), (2, vI row), (3, vI world), (5, vI v_2)] [vI v_7, vR 76] E n M_1 := by
      intro v_7 hk
      have hz := hK_9 _ hk
      obtain ⟨M_12, hM_12, hz⟩ := Z_lt hz
      refine R_putIE (pc := 32) (ci := 8) (k := 4) (dc k_P_fewestTurning 17 rfl) fl_P_46 rfl (lb rfl) (Nat.le_trans (lb rfl) hn) rfl rfl rfl hM_12 ?_
      refine R_aload_n (pc := 35) 0 (dc k_P_fewestTurning 18 rfl) rfl rfl ?_
      refine R_bipush (pc := 36) (a := 13) (dc k_P_fewestTurning 19 rfl) (by decide) ?_
      obtain ⟨M_13, hM_13, hz⟩ := Z_lt hz
      refine R_putIE (pc := 38) (ci := 8) (k := 5) (dc k_P_fewestTurning 20 rfl) fl_P_49 rfl (lb rfl) (Nat.le_trans (lb rfl) hn) rfl rfl rfl hM_13 ?_
      refine R_iconst (pc := 41) (a := 0) (dc k_P_fewestTurning 21 rfl) ?_
      refine R_istore (pc := 42) (L' := [(6, vI 0), (0, vR 76), (2, vI row), (3, vI world), (5, vI v_2)]) (dc k_P_fewestTurning 22 rfl) (lb rfl) rfl ?_
      obtain ⟨K_16, hK_17, hz⟩ := Z_cut hz
      have hX_18 : ∀ (M_22 : Mem), K_16 M_22 → Rr y_P_fewestTurning (16, 411, n, n, E) (qM K) 120 [(0, vR 76)] [] E n M_22 := by
        intro M_22 hk
        have hz := hK_17 _ hk
        refine R_aload_n (pc := 120) 0 (dc k_P_fewestTurning 63 rfl) rfl rfl ?_
        refine R_iconst (pc := 121) (a := 0) (dc k_P_fewestTurning 64 rfl) ?_
        refine R_iconst (pc := 122) (a := 0) (dc k_P_fewestTurning 65 rfl) ?_
        refine R_iconst (pc := 123) (a := 0) (dc k_P_fewestTurning 66 rfl) ?_
        refine R_iconst (pc := 124) (a := 0) (dc k_P_fewestTurning 67 rfl) ?_
        refine R_cVV (pc := 125)  (As := [vI 0, vI 0, vI 0, vI 0]) (S := []) ck_P_62 (dc k_P_fewestTurning 68 rfl) ⟨rfl, ⟨_, rfl, rfl⟩, (lb rfl), (Nat.le_trans (lb rfl) hn)⟩ (lb rfl) (lb rfl) (lb rfl) rfl (ct_P_seekFewest hE hn (Z_bind hz)) (fun M_39 hz => ?_)
        refine R_aload_n (pc := 128) 0 (dc k_P_fewestTurning 69 rfl) rfl rfl ?_
        refine R_getI (pc := 129) (ci := 8) (k := 5) (dc k_P_fewestTurning 70 rfl) fl_P_49 rfl (lb rfl) (Nat.le_trans (lb rfl) hn) rfl (Or.inl rfl) ?_
        refine R_bipush (pc := 132) (a := 12) (dc k_P_fewestTurning 71 rfl) (by decide) ?_
        refine R_icmp_le (pc := 134) 141 (dc k_P_fewestTurning 72 rfl) rfl (fun hc => ?_) (fun hc => ?_)
        · have hz := Z_neg (show ¬ (12 < n32 (M_39 76 5)) from (Int.not_lt.mpr hc)) hz
          refine R_aload_n (pc := 141) 0 (dc k_P_fewestTurning 75 rfl) rfl rfl ?_
          refine R_getI (pc := 142) (ci := 8) (k := 5) (dc k_P_fewestTurning 76 rfl) fl_P_49 rfl (lb rfl) (Nat.le_trans (lb rfl) hn) rfl (Or.inl rfl) ?_
          exact R_iret (pc := 145) (dc k_P_fewestTurning 77 rfl) rfl rfl rfl ⟨_, rfl, (Z_some hz)⟩
        · have hz := Z_pos (show 12 < n32 (M_39 76 5) from (Int.not_le.mp hc)) hz
          refine R_iconst (pc := 137) (a := (-1)) (dc k_P_fewestTurning 73 rfl) ?_
          refine R_goto (pc := 138) 145 (dc k_P_fewestTurning 74 rfl) rfl ?_
          exact R_iret (pc := 145) (dc k_P_fewestTurning 77 rfl) rfl rfl rfl ⟨_, rfl, (Z_some hz)⟩
      refine R_sub [1, 2, 3, 4, 0] rfl ?_
      refine it_R (C := fun aZ : Int × Mem => Rr y_P_fewestTurning (16, 411, n, n, E) (qM K) 44 [(0, vR 76), (2, vI row), (3, vI world), (5, vI v_2), (6, vI aZ.1)] [] E n aZ.2) (fun aZ K_19 hC_20 hB_21 hz => ?_) FUEL (0, M_13) hz
      obtain ⟨l6_14, M_15⟩ := aZ
      rw [P_fewestTurning_b44] at hz
      show Rr y_P_fewestTurning (16, 411, n, n, E) (qM K) 44 [(0, vR 76), (2, vI row), (3, vI world), (5, vI v_2), (6, vI l6_14)] [] E n M_15
      refine R_iload (pc := 44) 4 (dc k_P_fewestTurning 23 rfl) rfl ?_
      refine R_aload_n (pc := 46) 0 (dc k_P_fewestTurning 24 rfl) rfl rfl ?_
      obtain ⟨hg_23, hz⟩ := Z_chk hz
      obtain ⟨t_24, ht_24, hz⟩ := Z_lt hz
      obtain ⟨hq_25, ht_24t⟩ := isTI.at' hg_23 ht_24
      have hnt_24t := qTn ht_24t hn
      have hEt_24t := qTE ht_24t hE
      refine R_getR (pc := 47) (ci := 8) (k := 0) t_24 (dc k_P_fewestTurning 25 rfl) fl_P_15 rfl (lb rfl) (Nat.le_trans (lb rfl) hn) (Or.inr rfl) hq_25 (qT0 ht_24t) rfl ?_
      refine R_getI (pc := 50) (ci := 1) (k := 3) (dc k_P_fewestTurning 26 rfl) fl_P_19 (lT ht_24t) (qT1 ht_24t) (qTn_0 hnt_24t) (rT_3 ht_24t) (Or.inl rfl) ?_
      refine R_icmp_ge (pc := 53) 120 (dc k_P_fewestTurning 27 rfl) rfl (fun hc => ?_) (fun hc => ?_)
      · have hz := Z_neg (show ¬ (n32 l6_14 < n32 (M_15 t_24 3)) from (Int.not_lt.mpr hc)) hz
        refine R_sub [0] rfl ?_
        exact hX_18 _ (hB_21 _ (Z_some hz))
      · have hz := Z_pos (show n32 l6_14 < n32 (M_15 t_24 3) from (Int.not_le.mp hc)) hz
        refine R_aload_n (pc := 56) 0 (dc k_P_fewestTurning 28 rfl) rfl rfl ?_
        refine R_aload_n (pc := 57) 0 (dc k_P_fewestTurning 29 rfl) rfl rfl ?_
        refine R_getR (pc := 58) (ci := 8) (k := 0) t_24 (dc k_P_fewestTurning 30 rfl) fl_P_15 rfl (lb rfl) (Nat.le_trans (lb rfl) hn) (Or.inr rfl) hq_25 (qT0 ht_24t) rfl ?_
        refine R_getS (pc := 61) (ci := 1) (k := 11) (t_24 + 4) (dc k_P_fewestTurning 31 rfl) fl_P_52 (lT ht_24t) (qT1 ht_24t) (qTn_0 hnt_24t) hEt_24t (rT_11 ht_24t) (Nat.succ_ne_zero _) rfl ?_
        refine R_iload (pc := 64) 4 (dc k_P_fewestTurning 32 rfl) rfl ?_
        obtain ⟨⟨hg_26, hg_27⟩, hz⟩ := Z_chk hz
        refine R_iald (pc := 66) (dc k_P_fewestTurning 33 rfl) (lT_4 ht_24t) (Nat.le_add_left_of_le (lb rfl)) (qTn_k hnt_24t (lb rfl)) hg_26 hg_27 ?_
        refine R_iload_n (pc := 67) 1 (dc k_P_fewestTurning 34 rfl) rfl rfl ?_
        refine R_iload_n (pc := 68) 2 (dc k_P_fewestTurning 35 rfl) rfl rfl ?_
        refine R_cVP (pc := 69)  (As := [vI (M_15 (t_24 + 4) (Int.toNat l6_14)), vI row, vI world]) (S := []) ck_P_55 (dc k_P_fewestTurning 36 rfl) ⟨rfl, ⟨_, rfl, rfl⟩, (lb rfl), (Nat.le_trans (lb rfl) hn)⟩ (lb rfl) (lb rfl) (lb rfl) rfl (ct_P_voice hE hn (Z_bind hz)) (fun r_28 hz => ?_)
        refine R_aload_n (pc := 72) 0 (dc k_P_fewestTurning 37 rfl) rfl rfl ?_
        refine R_aload_n (pc := 73) 0 (dc k_P_fewestTurning 38 rfl) rfl rfl ?_
        refine R_getR (pc := 74) (ci := 8) (k := 0) t_24 (dc k_P_fewestTurning 39 rfl) fl_P_15 rfl (lb rfl) (Nat.le_trans (lb rfl) hn) (Or.inr rfl) hq_25 (qT0 ht_24t) rfl ?_
        refine R_getS (pc := 77) (ci := 1) (k := 12) (t_24 + 5) (dc k_P_fewestTurning 40 rfl) fl_P_59 (lT ht_24t) (qT1 ht_24t) (qTn_0 hnt_24t) hEt_24t (rT_12 ht_24t) (Nat.succ_ne_zero _) rfl ?_
        refine R_iload (pc := 80) 4 (dc k_P_fewestTurning 41 rfl) rfl ?_
        refine R_iald (pc := 82) (dc k_P_fewestTurning 42 rfl) (lT_5 ht_24t) (Nat.le_add_left_of_le (lb rfl)) (qTn_k hnt_24t (lb rfl)) hg_26 hg_27 ?_
        refine R_iload_n (pc := 83) 1 (dc k_P_fewestTurning 43 rfl) rfl rfl ?_
        refine R_iload_n (pc := 84) 2 (dc k_P_fewestTurning 44 rfl) rfl rfl ?_
        refine R_cVP (pc := 85)  (As := [vI (M_15 (t_24 + 5) (Int.toNat l6_14)), vI row, vI world]) (S := [vI r_28]) ck_P_55 (dc k_P_fewestTurning 45 rfl) ⟨rfl, ⟨_, rfl, rfl⟩, (lb rfl), (Nat.le_trans (lb rfl) hn)⟩ (lb rfl) (lb rfl) (lb rfl) rfl (ct_P_voice hE hn (Z_bind hz)) (fun r_29 hz => ?_)
        refine R_iadd (pc := 88) (dc k_P_fewestTurning 46 rfl) ?_
        obtain ⟨l7_30, hl7_30, hz⟩ := Z_lt hz
        refine R_istoreE (pc := 89) (L' := [(7, vI l7_30), (0, vR 76), (2, vI row), (3, vI world), (5, vI v_2), (6, vI l6_14)]) (dc k_P_fewestTurning 47 rfl) (lb rfl) hl7_30 rfl ?_
        refine R_aload_n (pc := 91) 1 (dc k_P_fewestTurning 48 rfl) rfl rfl ?_
        refine R_getS (pc := 92) (ci := 8) (k := 1) 77 (dc k_P_fewestTurning 49 rfl) fl_P_9 rfl (lb rfl) (Nat.le_trans (lb rfl) hn) (hE 76 (lb rfl) (lb rfl)) rfl (by decide) rfl ?_
        refine R_iload (pc := 95) 5 (dc k_P_fewestTurning 50 rfl) rfl ?_
        refine R_iload (pc := 97) 4 (dc k_P_fewestTurning 51 rfl) rfl ?_
        obtain ⟨K_32, hK_33, hz⟩ := Z_cut hz
        have hJ_34 : ∀ (v_31 : Int), K_32 v_31 → Rr y_P_fewestTurning (16, 411, n, n, E) (qM K) 113 [(0, vR 76), (2, vI row), (3, vI world), (5, vI v_2), (6, vI l6_14)] [vI v_31, vI l6_14, vR 77] E n M_15 := by
          intro v_31 hk
          have hz := hK_33 _ hk
          obtain ⟨M_36, hM_36, hz⟩ := Z_lt hz
          refine R_iastE (pc := 113) (dc k_P_fewestTurning 60 rfl) rfl (lb rfl) (Nat.le_trans (lb rfl) hn) hg_26 hg_27 hM_36 ?_
          obtain ⟨l6_37, hl6_37, hz⟩ := Z_lt hz
          refine R_iincE (pc := 114) (L' := [(6, vI l6_37), (0, vR 76), (2, vI row), (3, vI world), (5, vI v_2)]) 4 (dc k_P_fewestTurning 61 rfl) rfl (lb rfl) hl6_37 rfl ?_
          refine R_goto (pc := 117) 44 (dc k_P_fewestTurning 62 rfl) rfl ?_
          refine R_sub [1, 2, 3, 4, 0] rfl ?_
          exact hC_20 _ (Z_some hz)
        refine R_if_eq (pc := 99) 109 (dc k_P_fewestTurning 52 rfl) rfl (fun hc => ?_) (fun hc => ?_)
        · have hz := Z_neg (show ¬ (¬ n32 v_2 = 0) from (fun z => z hc)) hz
          refine R_iconst (pc := 109) (a := 2) (dc k_P_fewestTurning 57 rfl) ?_
          refine R_iload (pc := 110) 0 (dc k_P_fewestTurning 58 rfl) rfl ?_
          refine R_isub (pc := 112) (dc k_P_fewestTurning 59 rfl) ?_
          refine R_sub [1, 2, 3, 4, 5] rfl ?_
          exact hJ_34 _ (Z_some hz)
        · have hz := Z_pos (show ¬ n32 v_2 = 0 from hc) hz
          refine R_iconst (pc := 102) (a := 2) (dc k_P_fewestTurning 53 rfl) ?_
          refine R_iload (pc := 103) 0 (dc k_P_fewestTurning 54 rfl) rfl ?_
          refine R_iadd (pc := 105) (dc k_P_fewestTurning 55 rfl) ?_
          refine R_goto (pc := 106) 113 (dc k_P_fewestTurning 56 rfl) rfl ?_
          refine R_sub [1, 2, 3, 4, 5] rfl ?_
          exact hJ_34 _ (Z_some hz)
    refine R_if_eq (pc := 20) 28 (dc k_P_fewestTurning 11 rfl) rfl (fun hc => ?_) (fun hc => ?_)
    · have hz := Z_neg (show ¬ (¬ n32 v_2 = 0) from (fun z => z hc)) hz
      refine R_iconst (pc := 28) (a := 1) (dc k_P_fewestTurning 14 rfl) ?_
      refine R_iload (pc := 29) 4 (dc k_P_fewestTurning 15 rfl) rfl ?_
      refine R_isub (pc := 31) (dc k_P_fewestTurning 16 rfl) ?_
      refine R_sub [1, 2, 3, 0] rfl ?_
      exact hJ_10 _ (Z_some hz)
    · have hz := Z_pos (show ¬ n32 v_2 = 0 from hc) hz
      refine R_iload (pc := 23) 4 (dc k_P_fewestTurning 12 rfl) rfl ?_
      refine R_goto (pc := 25) 32 (dc k_P_fewestTurning 13 rfl) rfl ?_
      refine R_sub [1, 2, 3, 0] rfl ?_
      exact hJ_10 _ (Z_some hz)
  refine R_if_le (pc := 7) 14 (dc k_P_fewestTurning 4 rfl) rfl (fun hc => ?_) (fun hc => ?_)
  · have hz := Z_neg (show ¬ (0 < n32 lead) from (Int.not_lt.mpr hc)) hz
    refine R_iconst (pc := 14) (a := 0) (dc k_P_fewestTurning 7 rfl) ?_
    refine R_sub [0, 2, 3, 4] rfl ?_
    exact hJ_5 _ (Z_some hz)
  · have hz := Z_pos (show 0 < n32 lead from (Int.not_le.mp hc)) hz
    refine R_iconst (pc := 10) (a := 1) (dc k_P_fewestTurning 5 rfl) ?_
    refine R_goto (pc := 11) 15 (dc k_P_fewestTurning 6 rfl) rfl ?_
    refine R_sub [0, 2, 3, 4] rfl ?_
    exact hJ_5 _ (Z_some hz)

set_option maxRecDepth 20000 in
theorem ct_X_vote {E : Nat → Bool} {n : Nat} (hE : ∀ c, 1 ≤ c → c ≤ 80 → E c = true) (hn : 80 ≤ n) {row : Int} {world : Int} {what : Int} {M : Mem} {K : Int × Mem → Prop} (hz : Z (X_vote row world what M) K) : Mt y_X_vote (17, 438, n, n, E) E [vR 1, vI row, vI world, vI what] M (qM K) := by
  refine Mt.of (by decide) (lb rfl) (Nat.le_refl _) rfl ?_
  rw [X_vote] at hz
  show Rr y_X_vote (17, 438, n, n, E) (qM K) 0 [(0, vR 1), (1, vI row), (2, vI world), (3, vI what)] [] E n M
  refine R_aload_n (pc := 0) 0 (dc k_X_vote 0 rfl) rfl rfl ?_
  obtain ⟨hg_1, hz⟩ := Z_chk hz
  obtain ⟨t_2, ht_2, hz⟩ := Z_lt hz
  obtain ⟨hq_3, ht_2t⟩ := isTI.at' hg_1 ht_2
  have hnt_2t := qTn ht_2t hn
  have hEt_2t := qTE ht_2t hE
  refine R_getR (pc := 1) (ci := 0) (k := 2) t_2 (dc k_X_vote 1 rfl) fl_X_16 rfl (lb rfl) (Nat.le_trans (lb rfl) hn) (Or.inr rfl) hq_3 (qT0 ht_2t) rfl ?_
  refine R_iload_n (pc := 4) 1 (dc k_X_vote 2 rfl) rfl rfl ?_
  refine R_iload_n (pc := 5) 2 (dc k_X_vote 3 rfl) rfl rfl ?_
  refine R_cVP (pc := 6)  (As := [vI row, vI world]) (S := []) ck_X_113 (dc k_X_vote 4 rfl) ⟨(lT ht_2t), ⟨_, rfl, rfl⟩, (qT1 ht_2t), (qTn_0 hnt_2t)⟩ (lb rfl) (lb rfl) (lb rfl) rfl (ct_T_canBe hE hn ht_2t (Z_bind hz)) (fun r_4 hz => ?_)
  have hX_13 : ((n32 r_4 = 0) ∨ ((n32 what < 0) ∨ (3 < n32 what))) → Rr y_X_vote (17, 438, n, n, E) (qM K) 21 [(0, vR 1), (1, vI row), (2, vI world), (3, vI what)] [] E n M := by
    intro hc
    have hz := Z_pos hc hz
    refine R_iconst (pc := 21) (a := (-1)) (dc k_X_vote 11 rfl) ?_
    exact R_iret (pc := 22) (dc k_X_vote 12 rfl) rfl rfl rfl ⟨_, rfl, (Z_some hz)⟩
  have hY_14 : ¬ ((n32 r_4 = 0) ∨ ((n32 what < 0) ∨ (3 < n32 what))) → Rr y_X_vote (17, 438, n, n, E) (qM K) 23 [(0, vR 1), (1, vI row), (2, vI world), (3, vI what)] [] E n M := by
    intro hc
    have hz := Z_neg hc hz
    refine R_aload_n (pc := 23) 0 (dc k_X_vote 13 rfl) rfl rfl ?_
    refine R_getR (pc := 24) (ci := 0) (k := 2) t_2 (dc k_X_vote 14 rfl) fl_X_16 rfl (lb rfl) (Nat.le_trans (lb rfl) hn) (Or.inr rfl) hq_3 (qT0 ht_2t) rfl ?_
    refine R_iload_n (pc := 27) 1 (dc k_X_vote 15 rfl) rfl rfl ?_
    refine R_iload_n (pc := 28) 2 (dc k_X_vote 16 rfl) rfl rfl ?_
    refine R_iconst (pc := 29) (a := 1) (dc k_X_vote 17 rfl) ?_
    refine R_cVP (pc := 30)  (As := [vI row, vI world, vI 1]) (S := []) ck_X_236 (dc k_X_vote 18 rfl) ⟨(lT ht_2t), ⟨_, rfl, rfl⟩, (qT1 ht_2t), (qTn_0 hnt_2t)⟩ (lb rfl) (lb rfl) (lb rfl) rfl (ct_T_countAnswering hE hn ht_2t (Z_bind hz)) (fun r_5 hz => ?_)
    refine R_istore (pc := 33) (L' := [(4, vI r_5), (0, vR 1), (1, vI row), (2, vI world), (3, vI what)]) (dc k_X_vote 19 rfl) (lb rfl) rfl ?_
    refine R_aload_n (pc := 35) 1 (dc k_X_vote 20 rfl) rfl rfl ?_
    refine R_getR (pc := 36) (ci := 0) (k := 2) t_2 (dc k_X_vote 21 rfl) fl_X_16 rfl (lb rfl) (Nat.le_trans (lb rfl) hn) (Or.inr rfl) hq_3 (qT0 ht_2t) rfl ?_
    refine R_iload_n (pc := 39) 2 (dc k_X_vote 22 rfl) rfl rfl ?_
    refine R_iload_n (pc := 40) 3 (dc k_X_vote 23 rfl) rfl rfl ?_
    refine R_iconst (pc := 41) (a := 0) (dc k_X_vote 24 rfl) ?_
    refine R_cVP (pc := 42)  (As := [vI row, vI world, vI 0]) (S := []) ck_X_236 (dc k_X_vote 25 rfl) ⟨(lT ht_2t), ⟨_, rfl, rfl⟩, (qT1 ht_2t), (qTn_0 hnt_2t)⟩ (lb rfl) (lb rfl) (lb rfl) rfl (ct_T_countAnswering hE hn ht_2t (Z_bind hz)) (fun r_6 hz => ?_)
    refine R_istore (pc := 45) (L' := [(5, vI r_6), (4, vI r_5), (0, vR 1), (1, vI row), (2, vI world), (3, vI what)]) (dc k_X_vote 26 rfl) (lb rfl) rfl ?_
    refine R_iload_n (pc := 47) 5 (dc k_X_vote 27 rfl) rfl rfl ?_
    by_cases hs_7 : n32 what = 0
    · have hz := Z_pos hs_7 hz
      refine R_tabIn (pc := 48) 76 (dc k_X_vote 28 rfl) hs_7 (by decide) (by decide) rfl rfl ?_
      refine R_iload (pc := 76) 1 (dc k_X_vote 29 rfl) rfl ?_
      exact R_iret (pc := 78) (dc k_X_vote 30 rfl) rfl rfl rfl ⟨_, rfl, (Z_some hz)⟩
    · have hz := Z_neg hs_7 hz
      by_cases hs_8 : n32 what = 1
      · have hz := Z_pos hs_8 hz
        refine R_tabIn (pc := 48) 79 (dc k_X_vote 28 rfl) hs_8 (by decide) (by decide) rfl rfl ?_
        refine R_iload (pc := 79) 0 (dc k_X_vote 31 rfl) rfl ?_
        exact R_iret (pc := 81) (dc k_X_vote 32 rfl) rfl rfl rfl ⟨_, rfl, (Z_some hz)⟩
      · have hz := Z_neg hs_8 hz
        by_cases hs_10 : n32 what = 2
        · have hz := Z_pos hs_10 hz
          refine R_tabIn (pc := 48) 82 (dc k_X_vote 28 rfl) hs_10 (by decide) (by decide) rfl rfl ?_
          refine R_iload (pc := 82) 1 (dc k_X_vote 33 rfl) rfl ?_
          refine R_iload (pc := 84) 0 (dc k_X_vote 34 rfl) rfl ?_
          refine R_icmp_le (pc := 86) 93 (dc k_X_vote 35 rfl) rfl (fun hc => ?_) (fun hc => ?_)
          · have hz := Z_neg (show ¬ (n32 r_6 < n32 r_5) from (Int.not_lt.mpr hc)) hz
            refine R_iconst (pc := 93) (a := 0) (dc k_X_vote 38 rfl) ?_
            exact R_iret (pc := 94) (dc k_X_vote 39 rfl) rfl rfl rfl ⟨_, rfl, (Z_some hz)⟩
          · have hz := Z_pos (show n32 r_6 < n32 r_5 from (Int.not_le.mp hc)) hz
            refine R_iconst (pc := 89) (a := 1) (dc k_X_vote 36 rfl) ?_
            refine R_goto (pc := 90) 94 (dc k_X_vote 37 rfl) rfl ?_
            exact R_iret (pc := 94) (dc k_X_vote 39 rfl) rfl rfl rfl ⟨_, rfl, (Z_some hz)⟩
        · have hz := Z_neg hs_10 hz
          have hr : n32 what < 0 ∨ 2 < n32 what := by omega
          refine R_tabOut (pc := 48) 95 (dc k_X_vote 28 rfl) hr rfl ?_
          refine R_aload_n (pc := 95) 2 (dc k_X_vote 40 rfl) rfl rfl ?_
          refine R_getS (pc := 96) (ci := 0) (k := 9) 76 (dc k_X_vote 41 rfl) fl_X_60 rfl (lb rfl) (Nat.le_trans (lb rfl) hn) (hE 1 (lb rfl) (lb rfl)) rfl (by decide) rfl ?_
          refine R_aload_n (pc := 99) 2 (dc k_X_vote 42 rfl) rfl rfl ?_
          refine R_getR (pc := 100) (ci := 0) (k := 2) t_2 (dc k_X_vote 43 rfl) fl_X_16 rfl (lb rfl) (Nat.le_trans (lb rfl) hn) (Or.inr rfl) hq_3 (qT0 ht_2t) rfl ?_
          refine R_iload_n (pc := 103) 3 (dc k_X_vote 44 rfl) rfl rfl ?_
          refine R_iload_n (pc := 104) 4 (dc k_X_vote 45 rfl) rfl rfl ?_
          refine R_iload (pc := 105) 1 (dc k_X_vote 46 rfl) rfl ?_
          refine R_iload (pc := 107) 0 (dc k_X_vote 47 rfl) rfl ?_
          refine R_isub (pc := 109) (dc k_X_vote 48 rfl) ?_
          refine R_cVM (pc := 110)  (As := [vR t_2, vI row, vI world, vI (r_5 - r_6)]) (S := []) ck_X_239 (dc k_X_vote 49 rfl) ⟨rfl, ⟨_, rfl, rfl⟩, (lb rfl), (Nat.le_trans (lb rfl) hn)⟩ (lb rfl) (lb rfl) (lb rfl) rfl (ct_P_fewestTurning hE hn ht_2t (Z_bind hz)) (fun r_11 M_12 hz => ?_)
          exact R_iret (pc := 113) (dc k_X_vote 50 rfl) rfl rfl rfl ⟨_, rfl, (Z_some hz)⟩
  refine R_if_eq (pc := 9) 21 (dc k_X_vote 5 rfl) rfl (fun hc => ?_) (fun hc => ?_)
  · have hc_15 : n32 r_4 = 0 := hc
    exact hX_13 (Or.inl hc_15)
  · have hc_16 : ¬ n32 r_4 = 0 := hc
    refine R_iload_n (pc := 12) 3 (dc k_X_vote 6 rfl) rfl rfl ?_
    refine R_if_lt (pc := 13) 21 (dc k_X_vote 7 rfl) rfl (fun hc => ?_) (fun hc => ?_)
    · have hc_17 : n32 what < 0 := hc
      exact hX_13 (Or.inr (Or.inl hc_17))
    · have hc_18 : 0 ≤ n32 what := (Int.not_lt.mp hc)
      refine R_iload_n (pc := 16) 3 (dc k_X_vote 8 rfl) rfl rfl ?_
      refine R_iconst (pc := 17) (a := 3) (dc k_X_vote 9 rfl) ?_
      refine R_icmp_le (pc := 18) 23 (dc k_X_vote 10 rfl) rfl (fun hc => ?_) (fun hc => ?_)
      · have hc_19 : n32 what ≤ 3 := hc
        exact hY_14 (fun z => z.elim hc_16 (fun z => z.elim (Int.not_lt.mpr hc_18) (Int.not_lt.mpr hc_19)))
      · have hc_20 : 3 < n32 what := (Int.not_le.mp hc)
        exact hX_13 (Or.inr (Or.inr hc_20))

set_option maxRecDepth 20000 in
theorem ct_Y_copy {E : Nat → Bool} {n : Nat} (hE : ∀ c, 1 ≤ c → c ≤ 80 → E c = true) (hn : 80 ≤ n) {s : Nat} {sfrom_ : Nat} (hs : isY s) (hsfrom_ : isY sfrom_) {M : Mem} {K : Mem → Prop} (hz : Z (Y_copy s sfrom_ M) K) : Mt y_Y_copy (1, 26, n, n, E) E [vR s, vR sfrom_] M (qV K) := by
  refine Mt.of (by decide) (lb rfl) (Nat.le_refl _) rfl ?_
  rw [Y_copy] at hz
  have hns := qYn hs hn
  have hEs := qYE hs hE
  have hnsfrom_ := qYn hsfrom_ hn
  have hEsfrom_ := qYE hsfrom_ hE
  show Rr y_Y_copy (1, 26, n, n, E) (qV K) 0 [(0, vR s), (1, vR sfrom_)] [] E n M
  refine R_aload_n (pc := 0) 0 (dc k_Y_copy 0 rfl) rfl rfl ?_
  refine R_aload_n (pc := 1) 1 (dc k_Y_copy 1 rfl) rfl rfl ?_
  refine R_getI (pc := 2) (ci := 5) (k := 0) (dc k_Y_copy 2 rfl) fl_Y_32 (lY hsfrom_) (qY1 hsfrom_) (qYn_0 hnsfrom_) (rY_0 hsfrom_) (Or.inl rfl) ?_
  obtain ⟨M_1, hM_1, hz⟩ := Z_lt hz
  refine R_putIE (pc := 5) (ci := 5) (k := 0) (dc k_Y_copy 3 rfl) fl_Y_32 (lY hs) (qY1 hs) (qYn_0 hns) (rY_0 hs) rfl rfl hM_1 ?_
  refine R_aload_n (pc := 8) 1 (dc k_Y_copy 4 rfl) rfl rfl ?_
  refine R_getS (pc := 9) (ci := 5) (k := 2) (sfrom_ + 1) (dc k_Y_copy 5 rfl) fl_Y_9 (lY hsfrom_) (qY1 hsfrom_) (qYn_0 hnsfrom_) hEsfrom_ (rY_2 hsfrom_) (Nat.succ_ne_zero _) rfl ?_
  refine R_iconst (pc := 12) (a := 0) (dc k_Y_copy 6 rfl) ?_
  refine R_aload_n (pc := 13) 0 (dc k_Y_copy 7 rfl) rfl rfl ?_
  refine R_getS (pc := 14) (ci := 5) (k := 2) (s + 1) (dc k_Y_copy 8 rfl) fl_Y_9 (lY hs) (qY1 hs) (qYn_0 hns) hEs (rY_2 hs) (Nat.succ_ne_zero _) rfl ?_
  refine R_iconst (pc := 17) (a := 0) (dc k_Y_copy 9 rfl) ?_
  refine R_aload_n (pc := 18) 0 (dc k_Y_copy 10 rfl) rfl rfl ?_
  refine R_getI (pc := 19) (ci := 5) (k := 0) (dc k_Y_copy 11 rfl) fl_Y_32 (lY hs) (qY1 hs) (qYn_0 hns) (rY_0 hs) (Or.inl rfl) ?_
  obtain ⟨⟨hg_2, hg_3, hg_4, hg_5, hg_6⟩, hz⟩ := Z_chk hz
  obtain ⟨M_7, hM_7, hz⟩ := Z_lt hz
  refine R_copyIE (pc := 22) (S := []) (Or.inl rfl) (dc k_Y_copy 12 rfl) ml_Y_36 (lY_1 hsfrom_) (lY_1 hs) (Nat.le_add_left_of_le (lb rfl)) (qYn_k hnsfrom_ (lb rfl)) (Nat.le_add_left_of_le (lb rfl)) (qYn_k hns (lb rfl)) hg_2 hg_3 hg_4 hg_5 hg_6 (Or.inl rfl) (lb rfl) (lb rfl) hM_7 ?_
  refine R_aload_n (pc := 25) 1 (dc k_Y_copy 13 rfl) rfl rfl ?_
  refine R_getS (pc := 26) (ci := 5) (k := 3) (sfrom_ + 2) (dc k_Y_copy 14 rfl) fl_Y_15 (lY hsfrom_) (qY1 hsfrom_) (qYn_0 hnsfrom_) hEsfrom_ (rY_3 hsfrom_) (Nat.succ_ne_zero _) rfl ?_
  refine R_iconst (pc := 29) (a := 0) (dc k_Y_copy 15 rfl) ?_
  refine R_aload_n (pc := 30) 0 (dc k_Y_copy 16 rfl) rfl rfl ?_
  refine R_getS (pc := 31) (ci := 5) (k := 3) (s + 2) (dc k_Y_copy 17 rfl) fl_Y_15 (lY hs) (qY1 hs) (qYn_0 hns) hEs (rY_3 hs) (Nat.succ_ne_zero _) rfl ?_
  refine R_iconst (pc := 34) (a := 0) (dc k_Y_copy 18 rfl) ?_
  refine R_aload_n (pc := 35) 0 (dc k_Y_copy 19 rfl) rfl rfl ?_
  refine R_getI (pc := 36) (ci := 5) (k := 0) (dc k_Y_copy 20 rfl) fl_Y_32 (lY hs) (qY1 hs) (qYn_0 hns) (rY_0 hs) (Or.inl rfl) ?_
  obtain ⟨⟨hg_8, hg_9, hg_10, hg_11, hg_12⟩, hz⟩ := Z_chk hz
  obtain ⟨M_13, hM_13, hz⟩ := Z_lt hz
  refine R_copyIE (pc := 39) (S := []) (Or.inl rfl) (dc k_Y_copy 21 rfl) ml_Y_36 (lY_2 hsfrom_) (lY_2 hs) (Nat.le_add_left_of_le (lb rfl)) (qYn_k hnsfrom_ (lb rfl)) (Nat.le_add_left_of_le (lb rfl)) (qYn_k hns (lb rfl)) hg_8 hg_9 hg_10 hg_11 hg_12 (Or.inl rfl) (lb rfl) (lb rfl) hM_13 ?_
  refine R_aload_n (pc := 42) 1 (dc k_Y_copy 22 rfl) rfl rfl ?_
  refine R_getS (pc := 43) (ci := 5) (k := 4) (sfrom_ + 3) (dc k_Y_copy 23 rfl) fl_Y_18 (lY hsfrom_) (qY1 hsfrom_) (qYn_0 hnsfrom_) hEsfrom_ (rY_4 hsfrom_) (Nat.succ_ne_zero _) rfl ?_
  refine R_iconst (pc := 46) (a := 0) (dc k_Y_copy 24 rfl) ?_
  refine R_aload_n (pc := 47) 0 (dc k_Y_copy 25 rfl) rfl rfl ?_
  refine R_getS (pc := 48) (ci := 5) (k := 4) (s + 3) (dc k_Y_copy 26 rfl) fl_Y_18 (lY hs) (qY1 hs) (qYn_0 hns) hEs (rY_4 hs) (Nat.succ_ne_zero _) rfl ?_
  refine R_iconst (pc := 51) (a := 0) (dc k_Y_copy 27 rfl) ?_
  refine R_aload_n (pc := 52) 0 (dc k_Y_copy 28 rfl) rfl rfl ?_
  refine R_getI (pc := 53) (ci := 5) (k := 0) (dc k_Y_copy 29 rfl) fl_Y_32 (lY hs) (qY1 hs) (qYn_0 hns) (rY_0 hs) (Or.inl rfl) ?_
  obtain ⟨⟨hg_14, hg_15, hg_16, hg_17, hg_18, hg_19⟩, hz⟩ := Z_chk hz
  obtain ⟨M_20, hM_20, hz⟩ := Z_lt hz
  refine R_copyIE (pc := 56) (S := []) (Or.inr rfl) (dc k_Y_copy 30 rfl) ml_Y_36 (lY_3 hsfrom_) (lY_3 hs) (Nat.le_add_left_of_le (lb rfl)) (qYn_k hnsfrom_ (lb rfl)) (Nat.le_add_left_of_le (lb rfl)) (qYn_k hns (lb rfl)) hg_14 hg_15 hg_16 hg_17 hg_18 (Or.inr hg_19) (lb rfl) (lb rfl) hM_20 ?_
  refine R_aload_n (pc := 59) 1 (dc k_Y_copy 31 rfl) rfl rfl ?_
  refine R_getS (pc := 60) (ci := 5) (k := 5) (sfrom_ + 4) (dc k_Y_copy 32 rfl) fl_Y_22 (lY hsfrom_) (qY1 hsfrom_) (qYn_0 hnsfrom_) hEsfrom_ (rY_5 hsfrom_) (Nat.succ_ne_zero _) rfl ?_
  refine R_iconst (pc := 63) (a := 0) (dc k_Y_copy 33 rfl) ?_
  refine R_aload_n (pc := 64) 0 (dc k_Y_copy 34 rfl) rfl rfl ?_
  refine R_getS (pc := 65) (ci := 5) (k := 5) (s + 4) (dc k_Y_copy 35 rfl) fl_Y_22 (lY hs) (qY1 hs) (qYn_0 hns) hEs (rY_5 hs) (Nat.succ_ne_zero _) rfl ?_
  refine R_iconst (pc := 68) (a := 0) (dc k_Y_copy 36 rfl) ?_
  refine R_aload_n (pc := 69) 0 (dc k_Y_copy 37 rfl) rfl rfl ?_
  refine R_getI (pc := 70) (ci := 5) (k := 0) (dc k_Y_copy 38 rfl) fl_Y_32 (lY hs) (qY1 hs) (qYn_0 hns) (rY_0 hs) (Or.inl rfl) ?_
  obtain ⟨⟨hg_21, hg_22, hg_23, hg_24, hg_25⟩, hz⟩ := Z_chk hz
  obtain ⟨M_26, hM_26, hz⟩ := Z_lt hz
  refine R_copyIE (pc := 73) (S := []) (Or.inl rfl) (dc k_Y_copy 39 rfl) ml_Y_36 (lY_4 hsfrom_) (lY_4 hs) (Nat.le_add_left_of_le (lb rfl)) (qYn_k hnsfrom_ (lb rfl)) (Nat.le_add_left_of_le (lb rfl)) (qYn_k hns (lb rfl)) hg_21 hg_22 hg_23 hg_24 hg_25 (Or.inl rfl) (lb rfl) (lb rfl) hM_26 ?_
  refine R_aload_n (pc := 76) 1 (dc k_Y_copy 40 rfl) rfl rfl ?_
  refine R_getS (pc := 77) (ci := 5) (k := 6) (sfrom_ + 5) (dc k_Y_copy 41 rfl) fl_Y_25 (lY hsfrom_) (qY1 hsfrom_) (qYn_0 hnsfrom_) hEsfrom_ (rY_6 hsfrom_) (Nat.succ_ne_zero _) rfl ?_
  refine R_iconst (pc := 80) (a := 0) (dc k_Y_copy 42 rfl) ?_
  refine R_aload_n (pc := 81) 0 (dc k_Y_copy 43 rfl) rfl rfl ?_
  refine R_getS (pc := 82) (ci := 5) (k := 6) (s + 5) (dc k_Y_copy 44 rfl) fl_Y_25 (lY hs) (qY1 hs) (qYn_0 hns) hEs (rY_6 hs) (Nat.succ_ne_zero _) rfl ?_
  refine R_iconst (pc := 85) (a := 0) (dc k_Y_copy 45 rfl) ?_
  refine R_aload_n (pc := 86) 0 (dc k_Y_copy 46 rfl) rfl rfl ?_
  refine R_getI (pc := 87) (ci := 5) (k := 0) (dc k_Y_copy 47 rfl) fl_Y_32 (lY hs) (qY1 hs) (qYn_0 hns) (rY_0 hs) (Or.inl rfl) ?_
  obtain ⟨⟨hg_27, hg_28, hg_29, hg_30, hg_31⟩, hz⟩ := Z_chk hz
  obtain ⟨M_32, hM_32, hz⟩ := Z_lt hz
  refine R_copyIE (pc := 90) (S := []) (Or.inl rfl) (dc k_Y_copy 48 rfl) ml_Y_36 (lY_5 hsfrom_) (lY_5 hs) (Nat.le_add_left_of_le (lb rfl)) (qYn_k hnsfrom_ (lb rfl)) (Nat.le_add_left_of_le (lb rfl)) (qYn_k hns (lb rfl)) hg_27 hg_28 hg_29 hg_30 hg_31 (Or.inl rfl) (lb rfl) (lb rfl) hM_32 ?_
  refine R_aload_n (pc := 93) 1 (dc k_Y_copy 49 rfl) rfl rfl ?_
  refine R_getS (pc := 94) (ci := 5) (k := 7) (sfrom_ + 6) (dc k_Y_copy 50 rfl) fl_Y_28 (lY hsfrom_) (qY1 hsfrom_) (qYn_0 hnsfrom_) hEsfrom_ (rY_7 hsfrom_) (Nat.succ_ne_zero _) rfl ?_
  refine R_iconst (pc := 97) (a := 0) (dc k_Y_copy 51 rfl) ?_
  refine R_aload_n (pc := 98) 0 (dc k_Y_copy 52 rfl) rfl rfl ?_
  refine R_getS (pc := 99) (ci := 5) (k := 7) (s + 6) (dc k_Y_copy 53 rfl) fl_Y_28 (lY hs) (qY1 hs) (qYn_0 hns) hEs (rY_7 hs) (Nat.succ_ne_zero _) rfl ?_
  refine R_iconst (pc := 102) (a := 0) (dc k_Y_copy 54 rfl) ?_
  refine R_aload_n (pc := 103) 0 (dc k_Y_copy 55 rfl) rfl rfl ?_
  refine R_getI (pc := 104) (ci := 5) (k := 0) (dc k_Y_copy 56 rfl) fl_Y_32 (lY hs) (qY1 hs) (qYn_0 hns) (rY_0 hs) (Or.inl rfl) ?_
  refine R_iconst (pc := 107) (a := 4) (dc k_Y_copy 57 rfl) ?_
  refine R_imul (pc := 108) (dc k_Y_copy 58 rfl) ?_
  obtain ⟨⟨hg_33, hg_34, hg_35, hg_36, hg_37⟩, hz⟩ := Z_chk hz
  obtain ⟨M_38, hM_38, hz⟩ := Z_lt hz
  refine R_copyJE (pc := 109) (S := []) (dc k_Y_copy 59 rfl) ml_Y_36 (lY_6 hsfrom_) (lY_6 hs) (Nat.le_add_left_of_le (lb rfl)) (qYn_k hnsfrom_ (lb rfl)) (Nat.le_add_left_of_le (lb rfl)) (qYn_k hns (lb rfl)) hg_33 hg_34 hg_35 hg_36 hg_37 (lb rfl) (lb rfl) hM_38 ?_
  exact R_vret (pc := 112) (dc k_Y_copy 60 rfl) rfl rfl rfl ⟨rfl, (Z_some hz)⟩

set_option maxRecDepth 20000 in
theorem ct_X_image {E : Nat → Bool} {n : Nat} (hE : ∀ c, 1 ≤ c → c ≤ 80 → E c = true) (hn : 80 ≤ n) {box : Int} {M : Mem} {K : Int × Mem → Prop} (hz : Z (X_image box M) K) : Mt y_X_image (2, 47, n, n, E) E [vR 1, vI box] M (qM K) := by
  refine Mt.of (by decide) (lb rfl) (Nat.le_refl _) rfl ?_
  rw [X_image] at hz
  show Rr y_X_image (2, 47, n, n, E) (qM K) 0 [(0, vR 1), (1, vI box)] [] E n M
  refine R_iload_n (pc := 0) 1 (dc k_X_image 0 rfl) rfl rfl ?_
  have hX_7 : ((n32 box < 0) ∨ (3 ≤ n32 box)) → Rr y_X_image (2, 47, n, n, E) (qM K) 9 [(0, vR 1), (1, vI box)] [] E n M := by
    intro hc
    have hz := Z_pos hc hz
    refine R_iconst (pc := 9) (a := (-1)) (dc k_X_image 5 rfl) ?_
    exact R_iret (pc := 10) (dc k_X_image 6 rfl) rfl rfl rfl ⟨_, rfl, (Z_some hz)⟩
  have hY_8 : ¬ ((n32 box < 0) ∨ (3 ≤ n32 box)) → Rr y_X_image (2, 47, n, n, E) (qM K) 11 [(0, vR 1), (1, vI box)] [] E n M := by
    intro hc
    have hz := Z_neg hc hz
    refine R_aload_n (pc := 11) 0 (dc k_X_image 7 rfl) rfl rfl ?_
    refine R_getS (pc := 12) (ci := 0) (k := 6) 49 (dc k_X_image 8 rfl) fl_X_39 rfl (lb rfl) (Nat.le_trans (lb rfl) hn) (hE 1 (lb rfl) (lb rfl)) rfl (by decide) rfl ?_
    refine R_iload_n (pc := 15) 1 (dc k_X_image 9 rfl) rfl rfl ?_
    obtain ⟨⟨hg_1, hg_2⟩, hz⟩ := Z_chk hz
    obtain ⟨s_3, hs_3, hz⟩ := Z_lt hz
    obtain ⟨hqs_3, hs_3t⟩ := box_at hg_1 hg_2 hs_3 (hE 49 (lb rfl) (lb rfl)) M
    have hns_3t := qYn hs_3t hn
    have hEs_3t := qYE hs_3t hE
    refine R_aald (pc := 16) s_3 (dc k_X_image 10 rfl) rfl (lb rfl) (Nat.le_trans (lb rfl) hn) hg_1 hg_2 hqs_3 (qY0 hs_3t) ?_
    refine R_aload_n (pc := 17) 0 (dc k_X_image 11 rfl) rfl rfl ?_
    refine R_getS (pc := 18) (ci := 0) (k := 5) 42 (dc k_X_image 12 rfl) fl_X_35 rfl (lb rfl) (Nat.le_trans (lb rfl) hn) (hE 1 (lb rfl) (lb rfl)) rfl (by decide) rfl ?_
    refine R_cVV (pc := 21)  (As := [vR 42]) (S := []) ck_X_243 (dc k_X_image 13 rfl) ⟨(lY hs_3t), ⟨_, rfl, rfl⟩, (qY1 hs_3t), (qYn_0 hns_3t)⟩ (lb rfl) (lb rfl) (lb rfl) rfl (ct_Y_copy hE hn hs_3t qY42 (Z_bind hz)) (fun M_4 hz => ?_)
    refine R_aload_n (pc := 24) 0 (dc k_X_image 14 rfl) rfl rfl ?_
    refine R_getS (pc := 25) (ci := 0) (k := 6) 49 (dc k_X_image 15 rfl) fl_X_39 rfl (lb rfl) (Nat.le_trans (lb rfl) hn) (hE 1 (lb rfl) (lb rfl)) rfl (by decide) rfl ?_
    refine R_iload_n (pc := 28) 1 (dc k_X_image 16 rfl) rfl rfl ?_
    obtain ⟨s_5, hs_5, hz⟩ := Z_lt hz
    obtain ⟨hqs_5, hs_5t⟩ := box_at hg_1 hg_2 hs_5 (hE 49 (lb rfl) (lb rfl)) M_4
    have hns_5t := qYn hs_5t hn
    have hEs_5t := qYE hs_5t hE
    refine R_aald (pc := 29) s_5 (dc k_X_image 17 rfl) rfl (lb rfl) (Nat.le_trans (lb rfl) hn) hg_1 hg_2 hqs_5 (qY0 hs_5t) ?_
    refine R_iconst (pc := 30) (a := 1) (dc k_X_image 18 rfl) ?_
    obtain ⟨M_6, hM_6, hz⟩ := Z_lt hz
    refine R_putZE (pc := 31) (ci := 5) (k := 1) (dc k_X_image 19 rfl) fl_X_102 (lY hs_5t) (qY1 hs_5t) (qYn_0 hns_5t) (rY_1 hs_5t) rfl rfl (Or.inr rfl) hM_6 ?_
    refine R_aload_n (pc := 34) 0 (dc k_X_image 20 rfl) rfl rfl ?_
    refine R_getS (pc := 35) (ci := 0) (k := 5) 42 (dc k_X_image 21 rfl) fl_X_35 rfl (lb rfl) (Nat.le_trans (lb rfl) hn) (hE 1 (lb rfl) (lb rfl)) rfl (by decide) rfl ?_
    refine R_getI (pc := 38) (ci := 5) (k := 0) (dc k_X_image 22 rfl) fl_X_99 rfl (lb rfl) (Nat.le_trans (lb rfl) hn) rfl (Or.inl rfl) ?_
    exact R_iret (pc := 41) (dc k_X_image 23 rfl) rfl rfl rfl ⟨_, rfl, (Z_some hz)⟩
  refine R_if_lt (pc := 1) 9 (dc k_X_image 1 rfl) rfl (fun hc => ?_) (fun hc => ?_)
  · have hc_9 : n32 box < 0 := hc
    exact hX_7 (Or.inl hc_9)
  · have hc_10 : 0 ≤ n32 box := (Int.not_lt.mp hc)
    refine R_iload_n (pc := 4) 1 (dc k_X_image 2 rfl) rfl rfl ?_
    refine R_iconst (pc := 5) (a := 3) (dc k_X_image 3 rfl) ?_
    refine R_icmp_lt (pc := 6) 11 (dc k_X_image 4 rfl) rfl (fun hc => ?_) (fun hc => ?_)
    · have hc_11 : n32 box < 3 := hc
      exact hY_8 (fun z => z.elim (Int.not_lt.mpr hc_10) (Int.not_le.mpr hc_11))
    · have hc_12 : 3 ≤ n32 box := (Int.not_lt.mp hc)
      exact hX_7 (Or.inr hc_12)

set_option maxRecDepth 20000 in
theorem ct_X_back {E : Nat → Bool} {n : Nat} (hE : ∀ c, 1 ≤ c → c ≤ 80 → E c = true) (hn : 80 ≤ n) {box : Int} {M : Mem} {K : Int × Mem → Prop} (hz : Z (X_back box M) K) : Mt y_X_back (2, 47, n, n, E) E [vR 1, vI box] M (qM K) := by
  refine Mt.of (by decide) (lb rfl) (Nat.le_refl _) rfl ?_
  rw [X_back] at hz
  show Rr y_X_back (2, 47, n, n, E) (qM K) 0 [(0, vR 1), (1, vI box)] [] E n M
  refine R_iload_n (pc := 0) 1 (dc k_X_back 0 rfl) rfl rfl ?_
  obtain ⟨K_1, hK_2, hz⟩ := Z_cut hz
  have hX_3 : K_1 true → Rr y_X_back (2, 47, n, n, E) (qM K) 21 [(0, vR 1), (1, vI box)] [] E n M := by
    intro hk
    have hz := Z_pos rfl (hK_2 _ hk)
    refine R_iconst (pc := 21) (a := (-1)) (dc k_X_back 11 rfl) ?_
    exact R_iret (pc := 22) (dc k_X_back 12 rfl) rfl rfl rfl ⟨_, rfl, (Z_some hz)⟩
  have hY_4 : K_1 false → Rr y_X_back (2, 47, n, n, E) (qM K) 23 [(0, vR 1), (1, vI box)] [] E n M := by
    intro hk
    have hz := Z_neg Bool.false_ne_true (hK_2 _ hk)
    refine R_aload_n (pc := 23) 0 (dc k_X_back 13 rfl) rfl rfl ?_
    refine R_getS (pc := 24) (ci := 0) (k := 5) 42 (dc k_X_back 14 rfl) fl_X_35 rfl (lb rfl) (Nat.le_trans (lb rfl) hn) (hE 1 (lb rfl) (lb rfl)) rfl (by decide) rfl ?_
    refine R_aload_n (pc := 27) 0 (dc k_X_back 15 rfl) rfl rfl ?_
    refine R_getS (pc := 28) (ci := 0) (k := 6) 49 (dc k_X_back 16 rfl) fl_X_39 rfl (lb rfl) (Nat.le_trans (lb rfl) hn) (hE 1 (lb rfl) (lb rfl)) rfl (by decide) rfl ?_
    refine R_iload_n (pc := 31) 1 (dc k_X_back 17 rfl) rfl rfl ?_
    obtain ⟨⟨hg_9, hg_10⟩, hz⟩ := Z_chk hz
    obtain ⟨s_11, hs_11, hz⟩ := Z_lt hz
    obtain ⟨hqs_11, hs_11t⟩ := box_at hg_9 hg_10 hs_11 (hE 49 (lb rfl) (lb rfl)) M
    have hns_11t := qYn hs_11t hn
    have hEs_11t := qYE hs_11t hE
    refine R_aald (pc := 32) s_11 (dc k_X_back 18 rfl) rfl (lb rfl) (Nat.le_trans (lb rfl) hn) hg_9 hg_10 hqs_11 (qY0 hs_11t) ?_
    refine R_cVV (pc := 33)  (As := [vR s_11]) (S := []) ck_X_243 (dc k_X_back 19 rfl) ⟨rfl, ⟨_, rfl, rfl⟩, (lb rfl), (Nat.le_trans (lb rfl) hn)⟩ (lb rfl) (lb rfl) (lb rfl) rfl (ct_Y_copy hE hn qY42 hs_11t (Z_bind hz)) (fun M_12 hz => ?_)
    refine R_aload_n (pc := 36) 0 (dc k_X_back 20 rfl) rfl rfl ?_
    refine R_getS (pc := 37) (ci := 0) (k := 5) 42 (dc k_X_back 21 rfl) fl_X_35 rfl (lb rfl) (Nat.le_trans (lb rfl) hn) (hE 1 (lb rfl) (lb rfl)) rfl (by decide) rfl ?_
    refine R_getI (pc := 40) (ci := 5) (k := 0) (dc k_X_back 22 rfl) fl_X_99 rfl (lb rfl) (Nat.le_trans (lb rfl) hn) rfl (Or.inl rfl) ?_
    exact R_iret (pc := 43) (dc k_X_back 23 rfl) rfl rfl rfl ⟨_, rfl, (Z_some hz)⟩
  refine R_if_lt (pc := 1) 21 (dc k_X_back 1 rfl) rfl (fun hc => ?_) (fun hc => ?_)
  · have hz := Z_neg (show ¬ (0 ≤ n32 box) from (Int.not_le.mpr hc)) hz
    exact hX_3 (Z_some hz)
  · have hz := Z_pos (show 0 ≤ n32 box from (Int.not_lt.mp hc)) hz
    refine R_iload_n (pc := 4) 1 (dc k_X_back 2 rfl) rfl rfl ?_
    refine R_iconst (pc := 5) (a := 3) (dc k_X_back 3 rfl) ?_
    refine R_icmp_ge (pc := 6) 21 (dc k_X_back 4 rfl) rfl (fun hc => ?_) (fun hc => ?_)
    · have hz := Z_neg (show ¬ (n32 box < 3) from (Int.not_lt.mpr hc)) hz
      exact hX_3 (Z_some hz)
    · have hz := Z_pos (show n32 box < 3 from (Int.not_le.mp hc)) hz
      refine R_aload_n (pc := 9) 0 (dc k_X_back 5 rfl) rfl rfl ?_
      refine R_getS (pc := 10) (ci := 0) (k := 6) 49 (dc k_X_back 6 rfl) fl_X_39 rfl (lb rfl) (Nat.le_trans (lb rfl) hn) (hE 1 (lb rfl) (lb rfl)) rfl (by decide) rfl ?_
      refine R_iload_n (pc := 13) 1 (dc k_X_back 7 rfl) rfl rfl ?_
      obtain ⟨⟨hg_6, hg_7⟩, hz⟩ := Z_chk hz
      obtain ⟨s_8, hs_8, hz⟩ := Z_lt hz
      obtain ⟨hqs_8, hs_8t⟩ := box_at hg_6 hg_7 hs_8 (hE 49 (lb rfl) (lb rfl)) M
      have hns_8t := qYn hs_8t hn
      have hEs_8t := qYE hs_8t hE
      refine R_aald (pc := 14) s_8 (dc k_X_back 8 rfl) rfl (lb rfl) (Nat.le_trans (lb rfl) hn) hg_6 hg_7 hqs_8 (qY0 hs_8t) ?_
      refine R_getI (pc := 15) (ci := 5) (k := 1) (dc k_X_back 9 rfl) fl_X_102 (lY hs_8t) (qY1 hs_8t) (qYn_0 hns_8t) (rY_1 hs_8t) (Or.inr rfl) ?_
      refine R_if_ne (pc := 18) 23 (dc k_X_back 10 rfl) rfl (fun hc => ?_) (fun hc => ?_)
      · have hz := Z_neg (show ¬ (n32 (M s_8 1) = 0) from hc) hz
        exact hY_4 (Z_some hz)
      · have hz := Z_pos (show n32 (M s_8 1) = 0 from (Decidable.not_not.mp hc)) hz
        exact hX_3 (Z_some hz)

set_option maxRecDepth 20000 in
theorem ct_X_about {E : Nat → Bool} {n : Nat} (hE : ∀ c, 1 ≤ c → c ≤ 80 → E c = true) (hn : 80 ≤ n) {what : Int} {M : Mem} {K : Int → Prop} (hz : Z (X_about what M) K) : Mt y_X_about (3, 65, n, n, E) E [vR 1, vI what] M (qP M K) := by
  refine Mt.of (by decide) (lb rfl) (Nat.le_refl _) rfl ?_
  rw [X_about] at hz
  show Rr y_X_about (3, 65, n, n, E) (qP M K) 0 [(0, vR 1), (1, vI what)] [] E n M
  refine R_iload_n (pc := 0) 1 (dc k_X_about 0 rfl) rfl rfl ?_
  by_cases hs_4 : n32 what = 0
  · have hz := Z_pos hs_4 hz
    refine R_tabIn (pc := 1) 56 (dc k_X_about 1 rfl) hs_4 (by decide) (by decide) rfl rfl ?_
    refine R_aload_n (pc := 56) 0 (dc k_X_about 2 rfl) rfl rfl ?_
    obtain ⟨hg_1, hz⟩ := Z_chk hz
    obtain ⟨t_2, ht_2, hz⟩ := Z_lt hz
    obtain ⟨hq_3, ht_2t⟩ := isTI.at' hg_1 ht_2
    have hnt_2t := qTn ht_2t hn
    have hEt_2t := qTE ht_2t hE
    refine R_getR (pc := 57) (ci := 0) (k := 2) t_2 (dc k_X_about 3 rfl) fl_X_16 rfl (lb rfl) (Nat.le_trans (lb rfl) hn) (Or.inr rfl) hq_3 (qT0 ht_2t) rfl ?_
    refine R_getI (pc := 60) (ci := 1) (k := 0) (dc k_X_about 4 rfl) fl_X_167 (lT ht_2t) (qT1 ht_2t) (qTn_0 hnt_2t) (rT_0 ht_2t) (Or.inl rfl) ?_
    exact R_iret (pc := 63) (dc k_X_about 5 rfl) rfl rfl rfl ⟨_, rfl, rfl, (Z_some hz)⟩
  · have hz := Z_neg hs_4 hz
    by_cases hs_8 : n32 what = 1
    · have hz := Z_pos hs_8 hz
      refine R_tabIn (pc := 1) 64 (dc k_X_about 1 rfl) hs_8 (by decide) (by decide) rfl rfl ?_
      refine R_aload_n (pc := 64) 0 (dc k_X_about 6 rfl) rfl rfl ?_
      obtain ⟨hg_5, hz⟩ := Z_chk hz
      obtain ⟨t_6, ht_6, hz⟩ := Z_lt hz
      obtain ⟨hq_7, ht_6t⟩ := isTI.at' hg_5 ht_6
      have hnt_6t := qTn ht_6t hn
      have hEt_6t := qTE ht_6t hE
      refine R_getR (pc := 65) (ci := 0) (k := 2) t_6 (dc k_X_about 7 rfl) fl_X_16 rfl (lb rfl) (Nat.le_trans (lb rfl) hn) (Or.inr rfl) hq_7 (qT0 ht_6t) rfl ?_
      refine R_getI (pc := 68) (ci := 1) (k := 1) (dc k_X_about 8 rfl) fl_X_187 (lT ht_6t) (qT1 ht_6t) (qTn_0 hnt_6t) (rT_1 ht_6t) (Or.inl rfl) ?_
      exact R_iret (pc := 71) (dc k_X_about 9 rfl) rfl rfl rfl ⟨_, rfl, rfl, (Z_some hz)⟩
    · have hz := Z_neg hs_8 hz
      by_cases hs_12 : n32 what = 2
      · have hz := Z_pos hs_12 hz
        refine R_tabIn (pc := 1) 72 (dc k_X_about 1 rfl) hs_12 (by decide) (by decide) rfl rfl ?_
        refine R_aload_n (pc := 72) 0 (dc k_X_about 10 rfl) rfl rfl ?_
        obtain ⟨hg_9, hz⟩ := Z_chk hz
        obtain ⟨t_10, ht_10, hz⟩ := Z_lt hz
        obtain ⟨hq_11, ht_10t⟩ := isTI.at' hg_9 ht_10
        have hnt_10t := qTn ht_10t hn
        have hEt_10t := qTE ht_10t hE
        refine R_getR (pc := 73) (ci := 0) (k := 2) t_10 (dc k_X_about 11 rfl) fl_X_16 rfl (lb rfl) (Nat.le_trans (lb rfl) hn) (Or.inr rfl) hq_11 (qT0 ht_10t) rfl ?_
        refine R_getI (pc := 76) (ci := 1) (k := 2) (dc k_X_about 12 rfl) fl_X_190 (lT ht_10t) (qT1 ht_10t) (qTn_0 hnt_10t) (rT_2 ht_10t) (Or.inl rfl) ?_
        exact R_iret (pc := 79) (dc k_X_about 13 rfl) rfl rfl rfl ⟨_, rfl, rfl, (Z_some hz)⟩
      · have hz := Z_neg hs_12 hz
        by_cases hs_16 : n32 what = 3
        · have hz := Z_pos hs_16 hz
          refine R_tabIn (pc := 1) 80 (dc k_X_about 1 rfl) hs_16 (by decide) (by decide) rfl rfl ?_
          refine R_aload_n (pc := 80) 0 (dc k_X_about 14 rfl) rfl rfl ?_
          obtain ⟨hg_13, hz⟩ := Z_chk hz
          obtain ⟨t_14, ht_14, hz⟩ := Z_lt hz
          obtain ⟨hq_15, ht_14t⟩ := isTI.at' hg_13 ht_14
          have hnt_14t := qTn ht_14t hn
          have hEt_14t := qTE ht_14t hE
          refine R_getR (pc := 81) (ci := 0) (k := 2) t_14 (dc k_X_about 15 rfl) fl_X_16 rfl (lb rfl) (Nat.le_trans (lb rfl) hn) (Or.inr rfl) hq_15 (qT0 ht_14t) rfl ?_
          refine R_getI (pc := 84) (ci := 1) (k := 3) (dc k_X_about 16 rfl) fl_X_247 (lT ht_14t) (qT1 ht_14t) (qTn_0 hnt_14t) (rT_3 ht_14t) (Or.inl rfl) ?_
          exact R_iret (pc := 87) (dc k_X_about 17 rfl) rfl rfl rfl ⟨_, rfl, rfl, (Z_some hz)⟩
        · have hz := Z_neg hs_16 hz
          by_cases hs_20 : n32 what = 4
          · have hz := Z_pos hs_20 hz
            refine R_tabIn (pc := 1) 88 (dc k_X_about 1 rfl) hs_20 (by decide) (by decide) rfl rfl ?_
            refine R_aload_n (pc := 88) 0 (dc k_X_about 18 rfl) rfl rfl ?_
            obtain ⟨hg_17, hz⟩ := Z_chk hz
            obtain ⟨t_18, ht_18, hz⟩ := Z_lt hz
            obtain ⟨hq_19, ht_18t⟩ := isTI.at' hg_17 ht_18
            have hnt_18t := qTn ht_18t hn
            have hEt_18t := qTE ht_18t hE
            refine R_getR (pc := 89) (ci := 0) (k := 2) t_18 (dc k_X_about 19 rfl) fl_X_16 rfl (lb rfl) (Nat.le_trans (lb rfl) hn) (Or.inr rfl) hq_19 (qT0 ht_18t) rfl ?_
            refine R_getI (pc := 92) (ci := 1) (k := 4) (dc k_X_about 20 rfl) fl_X_250 (lT ht_18t) (qT1 ht_18t) (qTn_0 hnt_18t) (rT_4 ht_18t) (Or.inl rfl) ?_
            exact R_iret (pc := 95) (dc k_X_about 21 rfl) rfl rfl rfl ⟨_, rfl, rfl, (Z_some hz)⟩
          · have hz := Z_neg hs_20 hz
            by_cases hs_21 : n32 what = 5
            · have hz := Z_pos hs_21 hz
              refine R_tabIn (pc := 1) 96 (dc k_X_about 1 rfl) hs_21 (by decide) (by decide) rfl rfl ?_
              refine R_aload_n (pc := 96) 0 (dc k_X_about 22 rfl) rfl rfl ?_
              refine R_getS (pc := 97) (ci := 0) (k := 5) 42 (dc k_X_about 23 rfl) fl_X_35 rfl (lb rfl) (Nat.le_trans (lb rfl) hn) (hE 1 (lb rfl) (lb rfl)) rfl (by decide) rfl ?_
              refine R_getI (pc := 100) (ci := 5) (k := 0) (dc k_X_about 24 rfl) fl_X_99 rfl (lb rfl) (Nat.le_trans (lb rfl) hn) rfl (Or.inl rfl) ?_
              exact R_iret (pc := 103) (dc k_X_about 25 rfl) rfl rfl rfl ⟨_, rfl, rfl, (Z_some hz)⟩
            · have hz := Z_neg hs_21 hz
              by_cases hs_22 : n32 what = 6
              · have hz := Z_pos hs_22 hz
                refine R_tabIn (pc := 1) 104 (dc k_X_about 1 rfl) hs_22 (by decide) (by decide) rfl rfl ?_
                refine R_aload_n (pc := 104) 0 (dc k_X_about 26 rfl) rfl rfl ?_
                refine R_getI (pc := 105) (ci := 0) (k := 12) (dc k_X_about 27 rfl) fl_X_146 rfl (lb rfl) (Nat.le_trans (lb rfl) hn) rfl (Or.inl rfl) ?_
                exact R_iret (pc := 108) (dc k_X_about 28 rfl) rfl rfl rfl ⟨_, rfl, rfl, (Z_some hz)⟩
              · have hz := Z_neg hs_22 hz
                by_cases hs_23 : n32 what = 7
                · have hz := Z_pos hs_23 hz
                  refine R_tabIn (pc := 1) 109 (dc k_X_about 1 rfl) hs_23 (by decide) (by decide) rfl rfl ?_
                  refine R_aload_n (pc := 109) 0 (dc k_X_about 29 rfl) rfl rfl ?_
                  refine R_getI (pc := 110) (ci := 0) (k := 1) (dc k_X_about 30 rfl) fl_X_82 rfl (lb rfl) (Nat.le_trans (lb rfl) hn) rfl (Or.inl rfl) ?_
                  exact R_iret (pc := 113) (dc k_X_about 31 rfl) rfl rfl rfl ⟨_, rfl, rfl, (Z_some hz)⟩
                · have hz := Z_neg hs_23 hz
                  by_cases hs_27 : n32 what = 8
                  · have hz := Z_pos hs_27 hz
                    refine R_tabIn (pc := 1) 114 (dc k_X_about 1 rfl) hs_27 (by decide) (by decide) rfl rfl ?_
                    refine R_aload_n (pc := 114) 0 (dc k_X_about 32 rfl) rfl rfl ?_
                    obtain ⟨hg_24, hz⟩ := Z_chk hz
                    obtain ⟨t_25, ht_25, hz⟩ := Z_lt hz
                    obtain ⟨hq_26, ht_25t⟩ := isTI.at' hg_24 ht_25
                    have hnt_25t := qTn ht_25t hn
                    have hEt_25t := qTE ht_25t hE
                    refine R_getR (pc := 115) (ci := 0) (k := 2) t_25 (dc k_X_about 33 rfl) fl_X_16 rfl (lb rfl) (Nat.le_trans (lb rfl) hn) (Or.inr rfl) hq_26 (qT0 ht_25t) rfl ?_
                    refine R_getI (pc := 118) (ci := 1) (k := 5) (dc k_X_about 34 rfl) fl_X_253 (lT ht_25t) (qT1 ht_25t) (qTn_0 hnt_25t) (rT_5 ht_25t) (Or.inl rfl) ?_
                    exact R_iret (pc := 121) (dc k_X_about 35 rfl) rfl rfl rfl ⟨_, rfl, rfl, (Z_some hz)⟩
                  · have hz := Z_neg hs_27 hz
                    by_cases hs_32 : n32 what = 9
                    · have hz := Z_pos hs_32 hz
                      refine R_tabIn (pc := 1) 122 (dc k_X_about 1 rfl) hs_32 (by decide) (by decide) rfl rfl ?_
                      refine R_aload_n (pc := 122) 0 (dc k_X_about 36 rfl) rfl rfl ?_
                      obtain ⟨hg_28, hz⟩ := Z_chk hz
                      obtain ⟨t_29, ht_29, hz⟩ := Z_lt hz
                      obtain ⟨hq_30, ht_29t⟩ := isTI.at' hg_28 ht_29
                      have hnt_29t := qTn ht_29t hn
                      have hEt_29t := qTE ht_29t hE
                      refine R_getR (pc := 123) (ci := 0) (k := 2) t_29 (dc k_X_about 37 rfl) fl_X_16 rfl (lb rfl) (Nat.le_trans (lb rfl) hn) (Or.inr rfl) hq_30 (qT0 ht_29t) rfl ?_
                      refine R_cVP (pc := 126)  (As := []) (S := []) ck_X_106 (dc k_X_about 38 rfl) ⟨(lT ht_29t), ⟨_, rfl, rfl⟩, (qT1 ht_29t), (qTn_0 hnt_29t)⟩ (lb rfl) (lb rfl) (lb rfl) rfl (ct_T_size hE hn ht_29t (Z_bind hz)) (fun r_31 hz => ?_)
                      exact R_iret (pc := 129) (dc k_X_about 39 rfl) rfl rfl rfl ⟨_, rfl, rfl, (Z_some hz)⟩
                    · have hz := Z_neg hs_32 hz
                      have hr : n32 what < 0 ∨ 9 < n32 what := by omega
                      refine R_tabOut (pc := 1) 130 (dc k_X_about 1 rfl) hr rfl ?_
                      refine R_iconst (pc := 130) (a := (-1)) (dc k_X_about 40 rfl) ?_
                      exact R_iret (pc := 131) (dc k_X_about 41 rfl) rfl rfl rfl ⟨_, rfl, rfl, (Z_some hz)⟩
