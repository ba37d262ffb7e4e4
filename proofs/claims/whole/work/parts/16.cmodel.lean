set_option maxRecDepth 20000 in
theorem ct_M_rankHere {E : Nat → Bool} {n : Nat} (hE : ∀ c, 81 ≤ c → c ≤ 138 → E c = true) (hn : 138 ≤ n) {M : Mem} {K : Int → Prop} (hz : Z (M_rankHere M) K) : Mt y_M_rankHere (2, 42, n, n, E) E [vR 81] M (qP M K) := by
  refine Mt.of (by decide) (lb rfl) (Nat.le_refl _) rfl ?_
  rw [M_rankHere] at hz
  show Rr y_M_rankHere (2, 42, n, n, E) (qP M K) 0 [(0, vR 81)] [] E n M
  refine R_aload_n (pc := 0) 0 (dc k_M_rankHere 0 rfl) rfl rfl ?_
  refine R_ldc2 (pc := 1) (a := 28530) (dc k_M_rankHere 1 rfl) c_M_224 ?_
  refine R_cVP (pc := 4)  (As := [vJ 28530]) (S := []) ck_M_288 (dc k_M_rankHere 2 rfl) ⟨rfl, ⟨_, rfl, rfl⟩, (lb rfl), (Nat.le_trans (lb rfl) hn)⟩ (lb rfl) (lb rfl) (lb rfl) rfl (ct_M_isWord hE hn (Z_bind hz)) (fun r_1 hz => ?_)
  refine R_if_eq (pc := 7) 12 (dc k_M_rankHere 3 rfl) rfl (fun hc => ?_) (fun hc => ?_)
  · have hz := Z_neg (show ¬ (¬ n32 r_1 = 0) from (fun z => z hc)) hz
    refine R_aload_n (pc := 12) 0 (dc k_M_rankHere 6 rfl) rfl rfl ?_
    refine R_getI (pc := 13) (ci := 10) (k := 43) (dc k_M_rankHere 7 rfl) fl_M_368 rfl (lb rfl) (Nat.le_trans (lb rfl) hn) rfl (Or.inr rfl) ?_
    refine R_if_eq (pc := 16) 75 (dc k_M_rankHere 8 rfl) rfl (fun hc => ?_) (fun hc => ?_)
    · have hz := Z_neg (show ¬ (¬ n32 (M 81 43) = 0) from (fun z => z hc)) hz
      refine R_aload_n (pc := 75) 0 (dc k_M_rankHere 35 rfl) rfl rfl ?_
      refine R_ldc2 (pc := 76) (a := 26982) (dc k_M_rankHere 36 rfl) c_M_222 ?_
      refine R_cVP (pc := 79)  (As := [vJ 26982]) (S := []) ck_M_288 (dc k_M_rankHere 37 rfl) ⟨rfl, ⟨_, rfl, rfl⟩, (lb rfl), (Nat.le_trans (lb rfl) hn)⟩ (lb rfl) (lb rfl) (lb rfl) rfl (ct_M_isWord hE hn (Z_bind hz)) (fun r_17 hz => ?_)
      refine R_if_eq (pc := 82) 89 (dc k_M_rankHere 38 rfl) rfl (fun hc => ?_) (fun hc => ?_)
      · have hz := Z_neg (show ¬ (¬ n32 r_17 = 0) from (fun z => z hc)) hz
        refine R_aload_n (pc := 89) 0 (dc k_M_rankHere 41 rfl) rfl rfl ?_
        refine R_ldc2 (pc := 90) (a := 6385252) (dc k_M_rankHere 42 rfl) c_M_226 ?_
        refine R_cVP (pc := 93)  (As := [vJ 6385252]) (S := []) ck_M_288 (dc k_M_rankHere 43 rfl) ⟨rfl, ⟨_, rfl, rfl⟩, (lb rfl), (Nat.le_trans (lb rfl) hn)⟩ (lb rfl) (lb rfl) (lb rfl) rfl (ct_M_isWord hE hn (Z_bind hz)) (fun r_18 hz => ?_)
        refine R_if_eq (pc := 96) 103 (dc k_M_rankHere 44 rfl) rfl (fun hc => ?_) (fun hc => ?_)
        · have hz := Z_neg (show ¬ (¬ n32 r_18 = 0) from (fun z => z hc)) hz
          refine R_iconst (pc := 103) (a := 0) (dc k_M_rankHere 47 rfl) ?_
          exact R_iret (pc := 104) (dc k_M_rankHere 48 rfl) rfl rfl rfl ⟨_, rfl, rfl, (Z_some hz)⟩
        · have hz := Z_pos (show ¬ n32 r_18 = 0 from hc) hz
          refine R_iconst (pc := 99) (a := 3) (dc k_M_rankHere 45 rfl) ?_
          refine R_goto (pc := 100) 104 (dc k_M_rankHere 46 rfl) rfl ?_
          exact R_iret (pc := 104) (dc k_M_rankHere 48 rfl) rfl rfl rfl ⟨_, rfl, rfl, (Z_some hz)⟩
      · have hz := Z_pos (show ¬ n32 r_17 = 0 from hc) hz
        refine R_iconst (pc := 85) (a := 1) (dc k_M_rankHere 39 rfl) ?_
        refine R_goto (pc := 86) 104 (dc k_M_rankHere 40 rfl) rfl ?_
        exact R_iret (pc := 104) (dc k_M_rankHere 48 rfl) rfl rfl rfl ⟨_, rfl, rfl, (Z_some hz)⟩
    · have hz := Z_pos (show ¬ n32 (M 81 43) = 0 from hc) hz
      refine R_aload_n (pc := 19) 0 (dc k_M_rankHere 9 rfl) rfl rfl ?_
      refine R_bipush (pc := 20) (a := 60) (dc k_M_rankHere 10 rfl) (by decide) ?_
      refine R_cVP (pc := 22)  (As := [vI 60]) (S := []) ck_M_341 (dc k_M_rankHere 11 rfl) ⟨rfl, ⟨_, rfl, rfl⟩, (lb rfl), (Nat.le_trans (lb rfl) hn)⟩ (lb rfl) (lb rfl) (lb rfl) rfl (ct_M_stands hE hn (Z_bind hz)) (fun r_2 hz => ?_)
      obtain ⟨K_3, hK_4, hz⟩ := Z_cut hz
      have hX_5 : K_3 true → Rr y_M_rankHere (2, 42, n, n, E) (qP M K) 46 [(0, vR 81)] [] E n M := by
        intro hk
        have hz := Z_pos rfl (hK_4 _ hk)
        refine R_iconst (pc := 46) (a := 5) (dc k_M_rankHere 21 rfl) ?_
        refine R_goto (pc := 47) 74 (dc k_M_rankHere 22 rfl) rfl ?_
        exact R_iret (pc := 74) (dc k_M_rankHere 34 rfl) rfl rfl rfl ⟨_, rfl, rfl, (Z_some hz)⟩
      have hY_6 : K_3 false → Rr y_M_rankHere (2, 42, n, n, E) (qP M K) 50 [(0, vR 81)] [] E n M := by
        intro hk
        have hz := Z_neg Bool.false_ne_true (hK_4 _ hk)
        refine R_aload_n (pc := 50) 0 (dc k_M_rankHere 23 rfl) rfl rfl ?_
        refine R_bipush (pc := 51) (a := 43) (dc k_M_rankHere 24 rfl) (by decide) ?_
        refine R_cVP (pc := 53)  (As := [vI 43]) (S := []) ck_M_341 (dc k_M_rankHere 25 rfl) ⟨rfl, ⟨_, rfl, rfl⟩, (lb rfl), (Nat.le_trans (lb rfl) hn)⟩ (lb rfl) (lb rfl) (lb rfl) rfl (ct_M_stands hE hn (Z_bind hz)) (fun r_10 hz => ?_)
        obtain ⟨K_11, hK_12, hz⟩ := Z_cut hz
        have hX_13 : K_11 true → Rr y_M_rankHere (2, 42, n, n, E) (qP M K) 68 [(0, vR 81)] [] E n M := by
          intro hk
          have hz := Z_pos rfl (hK_12 _ hk)
          refine R_bipush (pc := 68) (a := 6) (dc k_M_rankHere 31 rfl) (by decide) ?_
          refine R_goto (pc := 70) 74 (dc k_M_rankHere 32 rfl) rfl ?_
          exact R_iret (pc := 74) (dc k_M_rankHere 34 rfl) rfl rfl rfl ⟨_, rfl, rfl, (Z_some hz)⟩
        have hY_14 : K_11 false → Rr y_M_rankHere (2, 42, n, n, E) (qP M K) 73 [(0, vR 81)] [] E n M := by
          intro hk
          have hz := Z_neg Bool.false_ne_true (hK_12 _ hk)
          refine R_iconst (pc := 73) (a := 0) (dc k_M_rankHere 33 rfl) ?_
          exact R_iret (pc := 74) (dc k_M_rankHere 34 rfl) rfl rfl rfl ⟨_, rfl, rfl, (Z_some hz)⟩
        refine R_if_ne (pc := 56) 68 (dc k_M_rankHere 26 rfl) rfl (fun hc => ?_) (fun hc => ?_)
        · have hz := Z_neg (show ¬ (n32 r_10 = 0) from hc) hz
          exact hX_13 (Z_some hz)
        · have hz := Z_pos (show n32 r_10 = 0 from (Decidable.not_not.mp hc)) hz
          refine R_aload_n (pc := 59) 0 (dc k_M_rankHere 27 rfl) rfl rfl ?_
          refine R_bipush (pc := 60) (a := 45) (dc k_M_rankHere 28 rfl) (by decide) ?_
          refine R_cVP (pc := 62)  (As := [vI 45]) (S := []) ck_M_341 (dc k_M_rankHere 29 rfl) ⟨rfl, ⟨_, rfl, rfl⟩, (lb rfl), (Nat.le_trans (lb rfl) hn)⟩ (lb rfl) (lb rfl) (lb rfl) rfl (ct_M_stands hE hn (Z_bind hz)) (fun r_16 hz => ?_)
          refine R_if_eq (pc := 65) 73 (dc k_M_rankHere 30 rfl) rfl (fun hc => ?_) (fun hc => ?_)
          · have hz := Z_neg (show ¬ (¬ n32 r_16 = 0) from (fun z => z hc)) hz
            exact hY_14 (Z_some hz)
          · have hz := Z_pos (show ¬ n32 r_16 = 0 from hc) hz
            exact hX_13 (Z_some hz)
      refine R_if_ne (pc := 25) 46 (dc k_M_rankHere 12 rfl) rfl (fun hc => ?_) (fun hc => ?_)
      · have hz := Z_neg (show ¬ (n32 r_2 = 0) from hc) hz
        exact hX_5 (Z_some hz)
      · have hz := Z_pos (show n32 r_2 = 0 from (Decidable.not_not.mp hc)) hz
        refine R_aload_n (pc := 28) 0 (dc k_M_rankHere 13 rfl) rfl rfl ?_
        refine R_bipush (pc := 29) (a := 62) (dc k_M_rankHere 14 rfl) (by decide) ?_
        refine R_cVP (pc := 31)  (As := [vI 62]) (S := []) ck_M_341 (dc k_M_rankHere 15 rfl) ⟨rfl, ⟨_, rfl, rfl⟩, (lb rfl), (Nat.le_trans (lb rfl) hn)⟩ (lb rfl) (lb rfl) (lb rfl) rfl (ct_M_stands hE hn (Z_bind hz)) (fun r_8 hz => ?_)
        refine R_if_ne (pc := 34) 46 (dc k_M_rankHere 16 rfl) rfl (fun hc => ?_) (fun hc => ?_)
        · have hz := Z_neg (show ¬ (n32 r_8 = 0) from hc) hz
          exact hX_5 (Z_some hz)
        · have hz := Z_pos (show n32 r_8 = 0 from (Decidable.not_not.mp hc)) hz
          refine R_aload_n (pc := 37) 0 (dc k_M_rankHere 17 rfl) rfl rfl ?_
          refine R_bipush (pc := 38) (a := 61) (dc k_M_rankHere 18 rfl) (by decide) ?_
          refine R_cVP (pc := 40)  (As := [vI 61]) (S := []) ck_M_341 (dc k_M_rankHere 19 rfl) ⟨rfl, ⟨_, rfl, rfl⟩, (lb rfl), (Nat.le_trans (lb rfl) hn)⟩ (lb rfl) (lb rfl) (lb rfl) rfl (ct_M_stands hE hn (Z_bind hz)) (fun r_9 hz => ?_)
          refine R_if_eq (pc := 43) 50 (dc k_M_rankHere 20 rfl) rfl (fun hc => ?_) (fun hc => ?_)
          · have hz := Z_neg (show ¬ (¬ n32 r_9 = 0) from (fun z => z hc)) hz
            exact hY_6 (Z_some hz)
          · have hz := Z_pos (show ¬ n32 r_9 = 0 from hc) hz
            exact hX_5 (Z_some hz)
  · have hz := Z_pos (show ¬ n32 r_1 = 0 from hc) hz
    refine R_iconst (pc := 10) (a := 2) (dc k_M_rankHere 4 rfl) ?_
    exact R_iret (pc := 11) (dc k_M_rankHere 5 rfl) rfl rfl rfl ⟨_, rfl, rfl, (Z_some hz)⟩

set_option maxRecDepth 20000 in
theorem ct_M_isAgain {E : Nat → Bool} {n : Nat} (hE : ∀ c, 81 ≤ c → c ≤ 138 → E c = true) (hn : 138 ≤ n) {rank : Int} {M : Mem} {K : Int → Prop} (hz : Z (M_isAgain rank M) K) : Mt y_M_isAgain (0, 0, n, n, E) E [vR 81, vI rank] M (qP M K) := by
  refine Mt.of (by decide) (lb rfl) (Nat.le_refl _) rfl ?_
  rw [M_isAgain] at hz
  show Rr y_M_isAgain (0, 0, n, n, E) (qP M K) 0 [(0, vR 81), (1, vI rank)] [] E n M
  refine R_aload_n (pc := 0) 0 (dc k_M_isAgain 0 rfl) rfl rfl ?_
  refine R_getI (pc := 1) (ci := 10) (k := 42) (dc k_M_isAgain 1 rfl) fl_M_381 rfl (lb rfl) (Nat.le_trans (lb rfl) hn) rfl (Or.inl rfl) ?_
  refine R_iconst (pc := 4) (a := 1) (dc k_M_isAgain 2 rfl) ?_
  refine R_isub (pc := 5) (dc k_M_isAgain 3 rfl) ?_
  obtain ⟨l2_1, hl2_1, hz⟩ := Z_lt hz
  refine R_istore_nE (pc := 6) (L' := [(2, vI l2_1), (0, vR 81), (1, vI rank)]) (dc k_M_isAgain 4 rfl) rfl (lb rfl) hl2_1 rfl ?_
  obtain ⟨K_3, hK_4, hz⟩ := Z_cut hz
  have hX_5 : ∀ (l2_9 : Int), K_3 l2_9 → Rr y_M_isAgain (0, 0, n, n, E) (qP M K) 53 [(0, vR 81), (1, vI rank), (2, vI l2_9)] [] E n M := by
    intro l2_9 hk
    have hz := hK_4 _ hk
    refine R_aload_n (pc := 53) 0 (dc k_M_isAgain 29 rfl) rfl rfl ?_
    refine R_getS (pc := 54) (ci := 10) (k := 35) 108 (dc k_M_isAgain 30 rfl) fl_M_95 rfl (lb rfl) (Nat.le_trans (lb rfl) hn) (hE 81 (lb rfl) (lb rfl)) rfl (by decide) rfl ?_
    refine R_iload_n (pc := 57) 2 (dc k_M_isAgain 31 rfl) rfl rfl ?_
    obtain ⟨⟨hg_20, hg_21⟩, hz⟩ := Z_chk hz
    refine R_iald (pc := 58) (dc k_M_isAgain 32 rfl) rfl (lb rfl) (Nat.le_trans (lb rfl) hn) hg_20 hg_21 ?_
    refine R_iload_n (pc := 59) 1 (dc k_M_isAgain 33 rfl) rfl rfl ?_
    refine R_icmp_ne (pc := 60) 67 (dc k_M_isAgain 34 rfl) rfl (fun hc => ?_) (fun hc => ?_)
    · have hz := Z_neg (show ¬ (n32 (M 108 (Int.toNat l2_9)) = n32 rank) from hc) hz
      refine R_iconst (pc := 67) (a := 0) (dc k_M_isAgain 37 rfl) ?_
      exact R_zret (pc := 68) (dc k_M_isAgain 38 rfl) rfl (Or.inl rfl) rfl rfl ⟨_, rfl, rfl, (Z_some hz)⟩
    · have hz := Z_pos (show n32 (M 108 (Int.toNat l2_9)) = n32 rank from (Decidable.not_not.mp hc)) hz
      refine R_iconst (pc := 63) (a := 1) (dc k_M_isAgain 35 rfl) ?_
      refine R_goto (pc := 64) 68 (dc k_M_isAgain 36 rfl) rfl ?_
      exact R_zret (pc := 68) (dc k_M_isAgain 38 rfl) rfl (Or.inr rfl) rfl rfl ⟨_, rfl, rfl, (Z_some hz)⟩
  refine R_sub [1, 2, 0] rfl ?_
  refine it_R (C := fun aZ : Int => Rr y_M_isAgain (0, 0, n, n, E) (qP M K) 7 [(0, vR 81), (1, vI rank), (2, vI aZ)] [] E n M) (fun l2_2 K_6 hC_7 hB_8 hz => ?_) FUEL l2_1 hz
  rw [M_isAgain_b7] at hz
  show Rr y_M_isAgain (0, 0, n, n, E) (qP M K) 7 [(0, vR 81), (1, vI rank), (2, vI l2_2)] [] E n M
  refine R_aload_n (pc := 7) 0 (dc k_M_isAgain 5 rfl) rfl rfl ?_
  refine R_getS (pc := 8) (ci := 10) (k := 35) 108 (dc k_M_isAgain 6 rfl) fl_M_95 rfl (lb rfl) (Nat.le_trans (lb rfl) hn) (hE 81 (lb rfl) (lb rfl)) rfl (by decide) rfl ?_
  refine R_iload_n (pc := 11) 2 (dc k_M_isAgain 7 rfl) rfl rfl ?_
  obtain ⟨⟨hg_10, hg_11⟩, hz⟩ := Z_chk hz
  refine R_iald (pc := 12) (dc k_M_isAgain 8 rfl) rfl (lb rfl) (Nat.le_trans (lb rfl) hn) hg_10 hg_11 ?_
  refine R_bipush (pc := 13) (a := 7) (dc k_M_isAgain 9 rfl) (by decide) ?_
  refine R_icmp_ge (pc := 15) 53 (dc k_M_isAgain 10 rfl) rfl (fun hc => ?_) (fun hc => ?_)
  · have hz := Z_neg (show ¬ (n32 (M 108 (Int.toNat l2_2)) < 7) from (Int.not_lt.mpr hc)) hz
    exact hX_5 _ (hB_8 _ (Z_some hz))
  · have hz := Z_pos (show n32 (M 108 (Int.toNat l2_2)) < 7 from (Int.not_le.mp hc)) hz
    refine R_iload_n (pc := 18) 1 (dc k_M_isAgain 11 rfl) rfl rfl ?_
    refine R_iconst (pc := 19) (a := 1) (dc k_M_isAgain 12 rfl) ?_
    obtain ⟨j_12, hj_13, hz⟩ := Z_jn hz
    have hJ_14 : Z (j_12 ()) K_6 → Rr y_M_isAgain (0, 0, n, n, E) (qP M K) 47 [(0, vR 81), (1, vI rank), (2, vI l2_2)] [] E n M := by
      intro  hk
      have hz := hj_13 _ hk
      obtain ⟨l2_18, hl2_18, hz⟩ := Z_lt hz
      refine R_iincE (pc := 47) (L' := [(2, vI l2_18), (0, vR 81), (1, vI rank)]) 2 (dc k_M_isAgain 27 rfl) rfl (lb rfl) hl2_18 rfl ?_
      refine R_goto (pc := 50) 7 (dc k_M_isAgain 28 rfl) rfl ?_
      refine R_sub [1, 2, 0] rfl ?_
      exact hC_7 _ (Z_some hz)
    refine R_icmp_ne (pc := 20) 36 (dc k_M_isAgain 13 rfl) rfl (fun hc => ?_) (fun hc => ?_)
    · have hz := Z_neg (show ¬ (n32 rank = 1) from hc) hz
      refine R_aload_n (pc := 36) 0 (dc k_M_isAgain 21 rfl) rfl rfl ?_
      refine R_getS (pc := 37) (ci := 10) (k := 35) 108 (dc k_M_isAgain 22 rfl) fl_M_95 rfl (lb rfl) (Nat.le_trans (lb rfl) hn) (hE 81 (lb rfl) (lb rfl)) rfl (by decide) rfl ?_
      refine R_iload_n (pc := 40) 2 (dc k_M_isAgain 23 rfl) rfl rfl ?_
      refine R_iald (pc := 41) (dc k_M_isAgain 24 rfl) rfl (lb rfl) (Nat.le_trans (lb rfl) hn) hg_10 hg_11 ?_
      refine R_bipush (pc := 42) (a := 6) (dc k_M_isAgain 25 rfl) (by decide) ?_
      refine R_icmp_ne (pc := 44) 53 (dc k_M_isAgain 26 rfl) rfl (fun hc => ?_) (fun hc => ?_)
      · have hz := Z_neg (show ¬ (n32 (M 108 (Int.toNat l2_2)) = 6) from hc) hz
        exact hX_5 _ (hB_8 _ (Z_some hz))
      · have hz := Z_pos (show n32 (M 108 (Int.toNat l2_2)) = 6 from (Decidable.not_not.mp hc)) hz
        exact hJ_14 hz
    · have hz := Z_pos (show n32 rank = 1 from (Decidable.not_not.mp hc)) hz
      refine R_aload_n (pc := 23) 0 (dc k_M_isAgain 14 rfl) rfl rfl ?_
      refine R_getS (pc := 24) (ci := 10) (k := 35) 108 (dc k_M_isAgain 15 rfl) fl_M_95 rfl (lb rfl) (Nat.le_trans (lb rfl) hn) (hE 81 (lb rfl) (lb rfl)) rfl (by decide) rfl ?_
      refine R_iload_n (pc := 27) 2 (dc k_M_isAgain 16 rfl) rfl rfl ?_
      refine R_iald (pc := 28) (dc k_M_isAgain 17 rfl) rfl (lb rfl) (Nat.le_trans (lb rfl) hn) hg_10 hg_11 ?_
      refine R_iconst (pc := 29) (a := 1) (dc k_M_isAgain 18 rfl) ?_
      refine R_icmp_le (pc := 30) 53 (dc k_M_isAgain 19 rfl) rfl (fun hc => ?_) (fun hc => ?_)
      · have hz := Z_neg (show ¬ (1 < n32 (M 108 (Int.toNat l2_2))) from (Int.not_lt.mpr hc)) hz
        exact hX_5 _ (hB_8 _ (Z_some hz))
      · have hz := Z_pos (show 1 < n32 (M 108 (Int.toNat l2_2)) from (Int.not_le.mp hc)) hz
        refine R_goto (pc := 33) 47 (dc k_M_isAgain 20 rfl) rfl ?_
        exact hJ_14 hz

set_option maxRecDepth 20000 in
theorem ct_M_behindUnit {E : Nat → Bool} {n : Nat} (hE : ∀ c, 81 ≤ c → c ≤ 138 → E c = true) (hn : 138 ≤ n) {M : Mem} {K : Int × Mem → Prop} (hz : Z (M_behindUnit M) K) : Mt y_M_behindUnit (3, 65, n, n, E) E [vR 81] M (qM K) := by
  refine Mt.of (by decide) (lb rfl) (Nat.le_refl _) rfl ?_
  rw [M_behindUnit] at hz
  show Rr y_M_behindUnit (3, 65, n, n, E) (qM K) 0 [(0, vR 81)] [] E n M
  refine R_aload_n (pc := 0) 0 (dc k_M_behindUnit 0 rfl) rfl rfl ?_
  refine R_cVP (pc := 1)  (As := []) (S := []) ck_M_409 (dc k_M_behindUnit 1 rfl) ⟨rfl, ⟨_, rfl, rfl⟩, (lb rfl), (Nat.le_trans (lb rfl) hn)⟩ (lb rfl) (lb rfl) (lb rfl) rfl (ct_M_rankHere hE hn (Z_bind hz)) (fun r_1 hz => ?_)
  refine R_istore_n (pc := 4) (L' := [(1, vI r_1), (0, vR 81)]) (dc k_M_behindUnit 2 rfl) rfl (lb rfl) rfl ?_
  refine R_iload_n (pc := 5) 0 (dc k_M_behindUnit 3 rfl) rfl rfl ?_
  refine R_iconst (pc := 6) (a := 1) (dc k_M_behindUnit 4 rfl) ?_
  obtain ⟨j_3, hj_4, hz⟩ := Z_jn hz
  have hJ_5 : ∀ (M_2 : Mem), Z (j_3 M_2) K → Rr y_M_behindUnit (3, 65, n, n, E) (qM K) 29 [(0, vR 81), (1, vI r_1)] [] E n M_2 := by
    intro M_2 hk
    have hz := hj_4 _ hk
    obtain ⟨K_15, hK_16, hz⟩ := Z_cut hz
    have hX_17 : ∀ (M_21 : Mem), K_15 M_21 → Rr y_M_behindUnit (3, 65, n, n, E) (qM K) 118 [(0, vR 81), (1, vI r_1)] [] E n M_21 := by
      intro M_21 hk
      have hz := hK_16 _ hk
      refine R_iload_n (pc := 118) 1 (dc k_M_behindUnit 67 rfl) rfl rfl ?_
      refine R_if_le (pc := 119) 172 (dc k_M_behindUnit 68 rfl) rfl (fun hc => ?_) (fun hc => ?_)
      · have hz := Z_neg (show ¬ (0 < n32 r_1) from (Int.not_lt.mpr hc)) hz
        refine R_aload_n (pc := 172) 0 (dc k_M_behindUnit 96 rfl) rfl rfl ?_
        refine R_dup (pc := 173) (dc k_M_behindUnit 97 rfl) rfl ?_
        refine R_getI (pc := 174) (ci := 10) (k := 42) (dc k_M_behindUnit 98 rfl) fl_M_381 rfl (lb rfl) (Nat.le_trans (lb rfl) hn) rfl (Or.inl rfl) ?_
        refine R_iconst (pc := 177) (a := 1) (dc k_M_behindUnit 99 rfl) ?_
        refine R_isub (pc := 178) (dc k_M_behindUnit 100 rfl) ?_
        obtain ⟨M_51, hM_51, hz⟩ := Z_lt hz
        refine R_putIE (pc := 179) (ci := 10) (k := 42) (dc k_M_behindUnit 101 rfl) fl_M_381 rfl (lb rfl) (Nat.le_trans (lb rfl) hn) rfl rfl rfl hM_51 ?_
        refine R_aload_n (pc := 182) 0 (dc k_M_behindUnit 102 rfl) rfl rfl ?_
        refine R_getS (pc := 183) (ci := 10) (k := 35) 108 (dc k_M_behindUnit 103 rfl) fl_M_95 rfl (lb rfl) (Nat.le_trans (lb rfl) hn) (hE 81 (lb rfl) (lb rfl)) rfl (by decide) rfl ?_
        refine R_aload_n (pc := 186) 0 (dc k_M_behindUnit 104 rfl) rfl rfl ?_
        refine R_getI (pc := 187) (ci := 10) (k := 42) (dc k_M_behindUnit 105 rfl) fl_M_381 rfl (lb rfl) (Nat.le_trans (lb rfl) hn) rfl (Or.inl rfl) ?_
        obtain ⟨⟨hg_52, hg_53⟩, hz⟩ := Z_chk hz
        refine R_iald (pc := 190) (dc k_M_behindUnit 106 rfl) rfl (lb rfl) (Nat.le_trans (lb rfl) hn) hg_52 hg_53 ?_
        refine R_bipush (pc := 191) (a := 7) (dc k_M_behindUnit 107 rfl) (by decide) ?_
        obtain ⟨K_55, hK_56, hz⟩ := Z_cut hz
        have hJ_57 : ∀ (M_54 : Mem), K_55 M_54 → Rr y_M_behindUnit (3, 65, n, n, E) (qM K) 216 [] [] E n M_54 := by
          intro M_54 hk
          have hz := hK_56 _ hk
          refine R_iconst (pc := 216) (a := 0) (dc k_M_behindUnit 120 rfl) ?_
          exact R_zret (pc := 217) (dc k_M_behindUnit 121 rfl) rfl (Or.inl rfl) rfl rfl ⟨_, rfl, (Z_some hz)⟩
        refine R_icmp_ne (pc := 193) 216 (dc k_M_behindUnit 108 rfl) rfl (fun hc => ?_) (fun hc => ?_)
        · have hz := Z_neg (show ¬ (n32 (M_51 108 (Int.toNat (M_51 81 42))) = 7) from hc) hz
          refine R_sub [] rfl ?_
          exact hJ_57 _ (Z_some hz)
        · have hz := Z_pos (show n32 (M_51 108 (Int.toNat (M_51 81 42))) = 7 from (Decidable.not_not.mp hc)) hz
          refine R_aload_n (pc := 196) 0 (dc k_M_behindUnit 109 rfl) rfl rfl ?_
          refine R_dup (pc := 197) (dc k_M_behindUnit 110 rfl) rfl ?_
          refine R_getI (pc := 198) (ci := 10) (k := 41) (dc k_M_behindUnit 111 rfl) fl_M_384 rfl (lb rfl) (Nat.le_trans (lb rfl) hn) rfl (Or.inl rfl) ?_
          refine R_iconst (pc := 201) (a := 1) (dc k_M_behindUnit 112 rfl) ?_
          refine R_isub (pc := 202) (dc k_M_behindUnit 113 rfl) ?_
          obtain ⟨M_58, hM_58, hz⟩ := Z_lt hz
          refine R_putIE (pc := 203) (ci := 10) (k := 41) (dc k_M_behindUnit 114 rfl) fl_M_384 rfl (lb rfl) (Nat.le_trans (lb rfl) hn) rfl rfl rfl hM_58 ?_
          refine R_aload_n (pc := 206) 0 (dc k_M_behindUnit 115 rfl) rfl rfl ?_
          refine R_aload_n (pc := 207) 0 (dc k_M_behindUnit 116 rfl) rfl rfl ?_
          refine R_bipush (pc := 208) (a := 41) (dc k_M_behindUnit 117 rfl) (by decide) ?_
          refine R_cVP (pc := 210)  (As := [vI 41]) (S := [vR 81]) ck_M_341 (dc k_M_behindUnit 118 rfl) ⟨rfl, ⟨_, rfl, rfl⟩, (lb rfl), (Nat.le_trans (lb rfl) hn)⟩ (lb rfl) (lb rfl) (lb rfl) rfl (ct_M_stands hE hn (Z_bind hz)) (fun r_59 hz => ?_)
          refine R_cVV (pc := 213)  (As := [vI r_59]) (S := []) ck_M_291 (dc k_M_behindUnit 119 rfl) ⟨rfl, ⟨_, rfl, rfl⟩, (lb rfl), (Nat.le_trans (lb rfl) hn)⟩ (lb rfl) (lb rfl) (lb rfl) rfl (ct_M_must hE hn (Z_bind hz)) (fun M_60 hz => ?_)
          refine R_sub [] rfl ?_
          exact hJ_57 _ (Z_some hz)
      · have hz := Z_pos (show 0 < n32 r_1 from (Int.not_le.mp hc)) hz
        refine R_aload_n (pc := 122) 0 (dc k_M_behindUnit 69 rfl) rfl rfl ?_
        refine R_iload_n (pc := 123) 1 (dc k_M_behindUnit 70 rfl) rfl rfl ?_
        refine R_iload_n (pc := 124) 1 (dc k_M_behindUnit 71 rfl) rfl rfl ?_
        refine R_iconst (pc := 125) (a := 1) (dc k_M_behindUnit 72 rfl) ?_
        obtain ⟨K_42, hK_43, hz⟩ := Z_cut hz
        have hJ_44 : ∀ (v_41 : Int), K_42 v_41 → Rr y_M_behindUnit (3, 65, n, n, E) (qM K) 162 [(0, vR 81)] [vI v_41, vI r_1, vR 81] E n M_21 := by
          intro v_41 hk
          have hz := hK_43 _ hk
          refine R_iconst (pc := 162) (a := 0) (dc k_M_behindUnit 90 rfl) ?_
          refine R_cVV (pc := 163)  (As := [vI r_1, vI v_41, vI 0]) (S := []) ck_M_387 (dc k_M_behindUnit 91 rfl) ⟨rfl, ⟨_, rfl, rfl⟩, (lb rfl), (Nat.le_trans (lb rfl) hn)⟩ (lb rfl) (lb rfl) (lb rfl) rfl (ct_M_pushE hE hn (Z_bind hz)) (fun M_49 hz => ?_)
          refine R_aload_n (pc := 166) 0 (dc k_M_behindUnit 92 rfl) rfl rfl ?_
          refine R_cVV (pc := 167)  (As := []) (S := []) ck_M_282 (dc k_M_behindUnit 93 rfl) ⟨rfl, ⟨_, rfl, rfl⟩, (lb rfl), (Nat.le_trans (lb rfl) hn)⟩ (lb rfl) (lb rfl) (lb rfl) rfl (ct_M_goOn hE hn (Z_bind hz)) (fun M_50 hz => ?_)
          refine R_iconst (pc := 170) (a := 1) (dc k_M_behindUnit 94 rfl) ?_
          exact R_zret (pc := 171) (dc k_M_behindUnit 95 rfl) rfl (Or.inr rfl) rfl rfl ⟨_, rfl, (Z_some hz)⟩
        refine R_icmp_ne (pc := 126) 134 (dc k_M_behindUnit 73 rfl) rfl (fun hc => ?_) (fun hc => ?_)
        · have hz := Z_neg (show ¬ (n32 r_1 = 1) from hc) hz
          refine R_iload_n (pc := 134) 1 (dc k_M_behindUnit 76 rfl) rfl rfl ?_
          refine R_iconst (pc := 135) (a := 2) (dc k_M_behindUnit 77 rfl) ?_
          refine R_icmp_ne (pc := 136) 144 (dc k_M_behindUnit 78 rfl) rfl (fun hc => ?_) (fun hc => ?_)
          · have hz := Z_neg (show ¬ (n32 r_1 = 2) from hc) hz
            refine R_iload_n (pc := 144) 1 (dc k_M_behindUnit 81 rfl) rfl rfl ?_
            refine R_iconst (pc := 145) (a := 3) (dc k_M_behindUnit 82 rfl) ?_
            refine R_icmp_ne (pc := 146) 154 (dc k_M_behindUnit 83 rfl) rfl (fun hc => ?_) (fun hc => ?_)
            · have hz := Z_neg (show ¬ (n32 r_1 = 3) from hc) hz
              refine R_aload_n (pc := 154) 0 (dc k_M_behindUnit 86 rfl) rfl rfl ?_
              refine R_aload_n (pc := 155) 0 (dc k_M_behindUnit 87 rfl) rfl rfl ?_
              refine R_getI (pc := 156) (ci := 10) (k := 6) (dc k_M_behindUnit 88 rfl) fl_M_243 rfl (lb rfl) (Nat.le_trans (lb rfl) hn) rfl (Or.inl rfl) ?_
              refine R_cVP (pc := 159)  (As := [vI (M_21 81 6)]) (S := [vI r_1, vR 81]) ck_M_246 (dc k_M_behindUnit 89 rfl) ⟨rfl, ⟨_, rfl, rfl⟩, (lb rfl), (Nat.le_trans (lb rfl) hn)⟩ (lb rfl) (lb rfl) (lb rfl) rfl (ct_M_sign hE hn (Z_bind hz)) (fun r_45 hz => ?_)
              refine R_sub [0] rfl ?_
              exact hJ_44 _ (Z_some hz)
            · have hz := Z_pos (show n32 r_1 = 3 from (Decidable.not_not.mp hc)) hz
              refine R_bipush (pc := 149) (a := 6) (dc k_M_behindUnit 84 rfl) (by decide) ?_
              refine R_goto (pc := 151) 162 (dc k_M_behindUnit 85 rfl) rfl ?_
              refine R_sub [0] rfl ?_
              exact hJ_44 _ (Z_some hz)
          · have hz := Z_pos (show n32 r_1 = 2 from (Decidable.not_not.mp hc)) hz
            refine R_bipush (pc := 139) (a := 7) (dc k_M_behindUnit 79 rfl) (by decide) ?_
            refine R_goto (pc := 141) 162 (dc k_M_behindUnit 80 rfl) rfl ?_
            refine R_sub [0] rfl ?_
            exact hJ_44 _ (Z_some hz)
        · have hz := Z_pos (show n32 r_1 = 1 from (Decidable.not_not.mp hc)) hz
          refine R_bipush (pc := 129) (a := 8) (dc k_M_behindUnit 74 rfl) (by decide) ?_
          refine R_goto (pc := 131) 162 (dc k_M_behindUnit 75 rfl) rfl ?_
          refine R_sub [0] rfl ?_
          exact hJ_44 _ (Z_some hz)
    refine it_R (C := fun aZ : Mem => Rr y_M_behindUnit (3, 65, n, n, E) (qM K) 29 [(0, vR 81), (1, vI r_1)] [] E n aZ) (fun M_14 K_18 hC_19 hB_20 hz => ?_) FUEL M_2 hz
    rw [M_behindUnit_b29] at hz
    show Rr y_M_behindUnit (3, 65, n, n, E) (qM K) 29 [(0, vR 81), (1, vI r_1)] [] E n M_14
    refine R_aload_n (pc := 29) 0 (dc k_M_behindUnit 17 rfl) rfl rfl ?_
    refine R_getS (pc := 30) (ci := 10) (k := 35) 108 (dc k_M_behindUnit 18 rfl) fl_M_95 rfl (lb rfl) (Nat.le_trans (lb rfl) hn) (hE 81 (lb rfl) (lb rfl)) rfl (by decide) rfl ?_
    refine R_aload_n (pc := 33) 0 (dc k_M_behindUnit 19 rfl) rfl rfl ?_
    refine R_getI (pc := 34) (ci := 10) (k := 42) (dc k_M_behindUnit 20 rfl) fl_M_381 rfl (lb rfl) (Nat.le_trans (lb rfl) hn) rfl (Or.inl rfl) ?_
    refine R_iconst (pc := 37) (a := 1) (dc k_M_behindUnit 21 rfl) ?_
    refine R_isub (pc := 38) (dc k_M_behindUnit 22 rfl) ?_
    obtain ⟨⟨hg_22, hg_23⟩, hz⟩ := Z_chk hz
    refine R_iald (pc := 39) (dc k_M_behindUnit 23 rfl) rfl (lb rfl) (Nat.le_trans (lb rfl) hn) hg_22 hg_23 ?_
    refine R_bipush (pc := 40) (a := 7) (dc k_M_behindUnit 24 rfl) (by decide) ?_
    obtain ⟨K_24, hK_25, hz⟩ := Z_cut hz
    have hX_26 : K_24 true → Rr y_M_behindUnit (3, 65, n, n, E) (qM K) 60 [(0, vR 81), (1, vI r_1)] [] E n M_14 := by
      intro hk
      have hz := Z_pos rfl (hK_25 _ hk)
      refine R_aload_n (pc := 60) 0 (dc k_M_behindUnit 35 rfl) rfl rfl ?_
      refine R_dup (pc := 61) (dc k_M_behindUnit 36 rfl) rfl ?_
      refine R_getI (pc := 62) (ci := 10) (k := 42) (dc k_M_behindUnit 37 rfl) fl_M_381 rfl (lb rfl) (Nat.le_trans (lb rfl) hn) rfl (Or.inl rfl) ?_
      refine R_iconst (pc := 65) (a := 1) (dc k_M_behindUnit 38 rfl) ?_
      refine R_isub (pc := 66) (dc k_M_behindUnit 39 rfl) ?_
      obtain ⟨M_29, hM_29, hz⟩ := Z_lt hz
      refine R_putIE (pc := 67) (ci := 10) (k := 42) (dc k_M_behindUnit 40 rfl) fl_M_381 rfl (lb rfl) (Nat.le_trans (lb rfl) hn) rfl rfl rfl hM_29 ?_
      refine R_aload_n (pc := 70) 0 (dc k_M_behindUnit 41 rfl) rfl rfl ?_
      refine R_getS (pc := 71) (ci := 10) (k := 35) 108 (dc k_M_behindUnit 42 rfl) fl_M_95 rfl (lb rfl) (Nat.le_trans (lb rfl) hn) (hE 81 (lb rfl) (lb rfl)) rfl (by decide) rfl ?_
      refine R_aload_n (pc := 74) 0 (dc k_M_behindUnit 43 rfl) rfl rfl ?_
      refine R_getI (pc := 75) (ci := 10) (k := 42) (dc k_M_behindUnit 44 rfl) fl_M_381 rfl (lb rfl) (Nat.le_trans (lb rfl) hn) rfl (Or.inl rfl) ?_
      obtain ⟨⟨hg_30, hg_31⟩, hz⟩ := Z_chk hz
      refine R_iald (pc := 78) (dc k_M_behindUnit 45 rfl) rfl (lb rfl) (Nat.le_trans (lb rfl) hn) hg_30 hg_31 ?_
      refine R_iconst (pc := 79) (a := 4) (dc k_M_behindUnit 46 rfl) ?_
      obtain ⟨K_33, hK_34, hz⟩ := Z_cut hz
      have hJ_35 : ∀ (M_32 : Mem), K_33 M_32 → Rr y_M_behindUnit (3, 65, n, n, E) (qM K) 93 [(0, vR 81), (1, vI r_1)] [] E n M_32 := by
        intro M_32 hk
        have hz := hK_34 _ hk
        refine R_aload_n (pc := 93) 0 (dc k_M_behindUnit 54 rfl) rfl rfl ?_
        refine R_aload_n (pc := 94) 0 (dc k_M_behindUnit 55 rfl) rfl rfl ?_
        refine R_getS (pc := 95) (ci := 10) (k := 36) 109 (dc k_M_behindUnit 56 rfl) fl_M_98 rfl (lb rfl) (Nat.le_trans (lb rfl) hn) (hE 81 (lb rfl) (lb rfl)) rfl (by decide) rfl ?_
        refine R_aload_n (pc := 98) 0 (dc k_M_behindUnit 57 rfl) rfl rfl ?_
        refine R_getI (pc := 99) (ci := 10) (k := 42) (dc k_M_behindUnit 58 rfl) fl_M_381 rfl (lb rfl) (Nat.le_trans (lb rfl) hn) rfl (Or.inl rfl) ?_
        obtain ⟨⟨hg_38, hg_39⟩, hz⟩ := Z_chk hz
        refine R_iald (pc := 102) (dc k_M_behindUnit 59 rfl) rfl (lb rfl) (Nat.le_trans (lb rfl) hn) hg_38 hg_39 ?_
        refine R_aload_n (pc := 103) 0 (dc k_M_behindUnit 60 rfl) rfl rfl ?_
        refine R_getS (pc := 104) (ci := 10) (k := 37) 110 (dc k_M_behindUnit 61 rfl) fl_M_101 rfl (lb rfl) (Nat.le_trans (lb rfl) hn) (hE 81 (lb rfl) (lb rfl)) rfl (by decide) rfl ?_
        refine R_aload_n (pc := 107) 0 (dc k_M_behindUnit 62 rfl) rfl rfl ?_
        refine R_getI (pc := 108) (ci := 10) (k := 42) (dc k_M_behindUnit 63 rfl) fl_M_381 rfl (lb rfl) (Nat.le_trans (lb rfl) hn) rfl (Or.inl rfl) ?_
        refine R_iald (pc := 111) (dc k_M_behindUnit 64 rfl) rfl (lb rfl) (Nat.le_trans (lb rfl) hn) hg_38 hg_39 ?_
        refine R_cVV (pc := 112)  (As := [vI (M_32 109 (Int.toNat (M_32 81 42))), vI (M_32 110 (Int.toNat (M_32 81 42)))]) (S := []) ck_M_406 (dc k_M_behindUnit 65 rfl) ⟨rfl, ⟨_, rfl, rfl⟩, (lb rfl), (Nat.le_trans (lb rfl) hn)⟩ (lb rfl) (lb rfl) (lb rfl) rfl (ct_M_emit hE hn (Z_bind hz)) (fun M_40 hz => ?_)
        refine R_goto (pc := 115) 29 (dc k_M_behindUnit 66 rfl) rfl ?_
        exact hC_19 _ (Z_some hz)
      refine R_icmp_ne (pc := 80) 93 (dc k_M_behindUnit 47 rfl) rfl (fun hc => ?_) (fun hc => ?_)
      · have hz := Z_neg (show ¬ (n32 (M_29 108 (Int.toNat (M_29 81 42))) = 4) from hc) hz
        exact hJ_35 _ (Z_some hz)
      · have hz := Z_pos (show n32 (M_29 108 (Int.toNat (M_29 81 42))) = 4 from (Decidable.not_not.mp hc)) hz
        refine R_aload_n (pc := 83) 0 (dc k_M_behindUnit 48 rfl) rfl rfl ?_
        refine R_dup (pc := 84) (dc k_M_behindUnit 49 rfl) rfl ?_
        refine R_getI (pc := 85) (ci := 10) (k := 41) (dc k_M_behindUnit 50 rfl) fl_M_384 rfl (lb rfl) (Nat.le_trans (lb rfl) hn) rfl (Or.inl rfl) ?_
        refine R_iconst (pc := 88) (a := 1) (dc k_M_behindUnit 51 rfl) ?_
        refine R_isub (pc := 89) (dc k_M_behindUnit 52 rfl) ?_
        obtain ⟨M_36, hM_36, hz⟩ := Z_lt hz
        refine R_putIE (pc := 90) (ci := 10) (k := 41) (dc k_M_behindUnit 53 rfl) fl_M_384 rfl (lb rfl) (Nat.le_trans (lb rfl) hn) rfl rfl rfl hM_36 ?_
        exact hJ_35 _ (Z_some hz)
    have hY_27 : K_24 false → Rr y_M_behindUnit (3, 65, n, n, E) (qM K) 118 [(0, vR 81), (1, vI r_1)] [] E n M_14 := by
      intro hk
      have hz := Z_neg Bool.false_ne_true (hK_25 _ hk)
      exact hX_17 _ (hB_20 _ (Z_some hz))
    refine R_icmp_ge (pc := 42) 118 (dc k_M_behindUnit 25 rfl) rfl (fun hc => ?_) (fun hc => ?_)
    · have hz := Z_neg (show ¬ (n32 (M_14 108 (Int.toNat ((M_14 81 42) - 1))) < 7) from (Int.not_lt.mpr hc)) hz
      exact hY_27 (Z_some hz)
    · have hz := Z_pos (show n32 (M_14 108 (Int.toNat ((M_14 81 42) - 1))) < 7 from (Int.not_le.mp hc)) hz
      refine R_aload_n (pc := 45) 0 (dc k_M_behindUnit 26 rfl) rfl rfl ?_
      refine R_getS (pc := 46) (ci := 10) (k := 35) 108 (dc k_M_behindUnit 27 rfl) fl_M_95 rfl (lb rfl) (Nat.le_trans (lb rfl) hn) (hE 81 (lb rfl) (lb rfl)) rfl (by decide) rfl ?_
      refine R_aload_n (pc := 49) 0 (dc k_M_behindUnit 28 rfl) rfl rfl ?_
      refine R_getI (pc := 50) (ci := 10) (k := 42) (dc k_M_behindUnit 29 rfl) fl_M_381 rfl (lb rfl) (Nat.le_trans (lb rfl) hn) rfl (Or.inl rfl) ?_
      refine R_iconst (pc := 53) (a := 1) (dc k_M_behindUnit 30 rfl) ?_
      refine R_isub (pc := 54) (dc k_M_behindUnit 31 rfl) ?_
      refine R_iald (pc := 55) (dc k_M_behindUnit 32 rfl) rfl (lb rfl) (Nat.le_trans (lb rfl) hn) hg_22 hg_23 ?_
      refine R_iload_n (pc := 56) 1 (dc k_M_behindUnit 33 rfl) rfl rfl ?_
      refine R_icmp_lt (pc := 57) 118 (dc k_M_behindUnit 34 rfl) rfl (fun hc => ?_) (fun hc => ?_)
      · have hz := Z_neg (show ¬ (n32 r_1 ≤ n32 (M_14 108 (Int.toNat ((M_14 81 42) - 1)))) from (Int.not_le.mpr hc)) hz
        exact hY_27 (Z_some hz)
      · have hz := Z_pos (show n32 r_1 ≤ n32 (M_14 108 (Int.toNat ((M_14 81 42) - 1))) from (Int.not_lt.mp hc)) hz
        exact hX_26 (Z_some hz)
  obtain ⟨K_6, hK_7, hz⟩ := Z_cut hz
  have hX_8 : K_6 true → Rr y_M_behindUnit (3, 65, n, n, E) (qM K) 23 [(1, vI r_1), (0, vR 81)] [] E n M := by
    intro hk
    have hz := Z_pos rfl (hK_7 _ hk)
    refine R_aload_n (pc := 23) 1 (dc k_M_behindUnit 13 rfl) rfl rfl ?_
    refine R_cVV (pc := 24)  (As := []) (S := []) ck_M_285 (dc k_M_behindUnit 14 rfl) ⟨rfl, ⟨_, rfl, rfl⟩, (lb rfl), (Nat.le_trans (lb rfl) hn)⟩ (lb rfl) (lb rfl) (lb rfl) rfl (ct_M_misplaced hE hn (Z_bind hz)) (fun M_13 hz => ?_)
    refine R_iconst (pc := 27) (a := 1) (dc k_M_behindUnit 15 rfl) ?_
    exact R_zret (pc := 28) (dc k_M_behindUnit 16 rfl) rfl (Or.inr rfl) rfl rfl ⟨_, rfl, (Z_some hz)⟩
  have hY_9 : K_6 false → Rr y_M_behindUnit (3, 65, n, n, E) (qM K) 29 [(1, vI r_1), (0, vR 81)] [] E n M := by
    intro hk
    have hz := Z_neg Bool.false_ne_true (hK_7 _ hk)
    refine R_sub [1, 0] rfl ?_
    exact hJ_5 _ hz
  refine R_icmp_eq (pc := 7) 15 (dc k_M_behindUnit 5 rfl) rfl (fun hc => ?_) (fun hc => ?_)
  · have hz := Z_neg (show ¬ (¬ n32 r_1 = 1) from (fun z => z hc)) hz
    refine R_aload_n (pc := 15) 1 (dc k_M_behindUnit 9 rfl) rfl rfl ?_
    refine R_iload_n (pc := 16) 0 (dc k_M_behindUnit 10 rfl) rfl rfl ?_
    refine R_cVP (pc := 17)  (As := [vI r_1]) (S := []) ck_M_412 (dc k_M_behindUnit 11 rfl) ⟨rfl, ⟨_, rfl, rfl⟩, (lb rfl), (Nat.le_trans (lb rfl) hn)⟩ (lb rfl) (lb rfl) (lb rfl) rfl (ct_M_isAgain hE hn (Z_bind hz)) (fun r_11 hz => ?_)
    refine R_if_eq (pc := 20) 29 (dc k_M_behindUnit 12 rfl) rfl (fun hc => ?_) (fun hc => ?_)
    · have hz := Z_neg (show ¬ (¬ n32 r_11 = 0) from (fun z => z hc)) hz
      exact hY_9 (Z_some hz)
    · have hz := Z_pos (show ¬ n32 r_11 = 0 from hc) hz
      exact hX_8 (Z_some hz)
  · have hz := Z_pos (show ¬ n32 r_1 = 1 from hc) hz
    refine R_iload_n (pc := 10) 0 (dc k_M_behindUnit 6 rfl) rfl rfl ?_
    refine R_iconst (pc := 11) (a := 5) (dc k_M_behindUnit 7 rfl) ?_
    refine R_icmp_ne (pc := 12) 29 (dc k_M_behindUnit 8 rfl) rfl (fun hc => ?_) (fun hc => ?_)
    · have hz := Z_neg (show ¬ (n32 r_1 = 5) from hc) hz
      exact hY_9 (Z_some hz)
    · have hz := Z_pos (show n32 r_1 = 5 from (Decidable.not_not.mp hc)) hz
      refine R_aload_n (pc := 15) 1 (dc k_M_behindUnit 9 rfl) rfl rfl ?_
      refine R_iload_n (pc := 16) 0 (dc k_M_behindUnit 10 rfl) rfl rfl ?_
      refine R_cVP (pc := 17)  (As := [vI r_1]) (S := []) ck_M_412 (dc k_M_behindUnit 11 rfl) ⟨rfl, ⟨_, rfl, rfl⟩, (lb rfl), (Nat.le_trans (lb rfl) hn)⟩ (lb rfl) (lb rfl) (lb rfl) rfl (ct_M_isAgain hE hn (Z_bind hz)) (fun r_12 hz => ?_)
      refine R_if_eq (pc := 20) 29 (dc k_M_behindUnit 12 rfl) rfl (fun hc => ?_) (fun hc => ?_)
      · have hz := Z_neg (show ¬ (¬ n32 r_12 = 0) from (fun z => z hc)) hz
        exact hY_9 (Z_some hz)
      · have hz := Z_pos (show ¬ n32 r_12 = 0 from hc) hz
        exact hX_8 (Z_some hz)

set_option maxRecDepth 20000 in
theorem ct_M_e {E : Nat → Bool} {n : Nat} (hE : ∀ c, 81 ≤ c → c ≤ 138 → E c = true) (hn : 138 ≤ n) {M : Mem} {K : Mem → Prop} (hz : Z (M_e M) K) : Mt y_M_e (5, 112, n, n, E) E [vR 81] M (qV K) := by
  refine Mt.of (by decide) (lb rfl) (Nat.le_refl _) rfl ?_
  rw [M_e] at hz
  show Rr y_M_e (5, 112, n, n, E) (qV K) 0 [(0, vR 81)] [] E n M
  refine R_aload_n (pc := 0) 0 (dc k_M_e 0 rfl) rfl rfl ?_
  refine R_iconst (pc := 1) (a := 0) (dc k_M_e 1 rfl) ?_
  obtain ⟨M_1, hM_1, hz⟩ := Z_lt hz
  refine R_putIE (pc := 2) (ci := 10) (k := 42) (dc k_M_e 2 rfl) fl_M_381 rfl (lb rfl) (Nat.le_trans (lb rfl) hn) rfl rfl rfl hM_1 ?_
  refine R_aload_n (pc := 5) 0 (dc k_M_e 3 rfl) rfl rfl ?_
  refine R_iconst (pc := 6) (a := 0) (dc k_M_e 4 rfl) ?_
  obtain ⟨M_2, hM_2, hz⟩ := Z_lt hz
  refine R_putIE (pc := 7) (ci := 10) (k := 41) (dc k_M_e 5 rfl) fl_M_384 rfl (lb rfl) (Nat.le_trans (lb rfl) hn) rfl rfl rfl hM_2 ?_
  refine R_aload_n (pc := 10) 0 (dc k_M_e 6 rfl) rfl rfl ?_
  refine R_bipush (pc := 11) (a := 8) (dc k_M_e 7 rfl) (by decide) ?_
  refine R_iconst (pc := 13) (a := 0) (dc k_M_e 8 rfl) ?_
  refine R_iconst (pc := 14) (a := 0) (dc k_M_e 9 rfl) ?_
  refine R_cVV (pc := 15)  (As := [vI 8, vI 0, vI 0]) (S := []) ck_M_387 (dc k_M_e 10 rfl) ⟨rfl, ⟨_, rfl, rfl⟩, (lb rfl), (Nat.le_trans (lb rfl) hn)⟩ (lb rfl) (lb rfl) (lb rfl) rfl (ct_M_pushE hE hn (Z_bind hz)) (fun M_3 hz => ?_)
  refine R_iconst (pc := 18) (a := 1) (dc k_M_e 11 rfl) ?_
  refine R_istore_n (pc := 19) (L' := [(1, vI 1), (0, vR 81)]) (dc k_M_e 12 rfl) rfl (lb rfl) rfl ?_
  obtain ⟨K_6, hK_7, hz⟩ := Z_cut hz
  have hX_8 : ∀ (M_12 : Mem), K_6 M_12 → Rr y_M_e (5, 112, n, n, E) (qV K) 67 [] [] E n M_12 := by
    intro M_12 hk
    have hz := hK_7 _ hk
    exact R_vret (pc := 67) (dc k_M_e 34 rfl) rfl rfl rfl ⟨rfl, (Z_some hz)⟩
  refine R_sub [1, 0] rfl ?_
  refine it_R (C := fun aZ : Int × Mem => Rr y_M_e (5, 112, n, n, E) (qV K) 20 [(0, vR 81), (1, vI aZ.1)] [] E n aZ.2) (fun aZ K_9 hC_10 hB_11 hz => ?_) FUEL (1, M_3) hz
  obtain ⟨l1_4, M_5⟩ := aZ
  rw [M_e_b20] at hz
  show Rr y_M_e (5, 112, n, n, E) (qV K) 20 [(0, vR 81), (1, vI l1_4)] [] E n M_5
  refine R_aload_n (pc := 20) 0 (dc k_M_e 13 rfl) rfl rfl ?_
  refine R_cVP (pc := 21)  (As := []) (S := []) ck_M_278 (dc k_M_e 14 rfl) ⟨rfl, ⟨_, rfl, rfl⟩, (lb rfl), (Nat.le_trans (lb rfl) hn)⟩ (lb rfl) (lb rfl) (lb rfl) rfl (ct_M_isGood hE hn (Z_bind hz)) (fun r_13 hz => ?_)
  have hX_27 : ((¬ n32 r_13 = 0) ∧ (0 < n32 (M_5 81 42))) → Rr y_M_e (5, 112, n, n, E) (qV K) 34 [(0, vR 81), (1, vI l1_4)] [] E n M_5 := by
    intro hc
    have hz := Z_pos hc hz
    refine R_iload_n (pc := 34) 1 (dc k_M_e 19 rfl) rfl rfl ?_
    obtain ⟨K_16, hK_17, hz⟩ := Z_cut hz
    have hJ_18 : ∀ (v_14 : Int) (M_15 : Mem), K_16 (v_14, M_15) → Rr y_M_e (5, 112, n, n, E) (qV K) 63 [(0, vR 81)] [vI v_14] E n M_15 := by
      intro v_14 M_15 hk
      have hz := hK_17 _ hk
      refine R_istore_n (pc := 63) (L' := [(1, vI v_14), (0, vR 81)]) (dc k_M_e 32 rfl) rfl (lb rfl) rfl ?_
      refine R_goto (pc := 64) 20 (dc k_M_e 33 rfl) rfl ?_
      refine R_sub [1, 0] rfl ?_
      exact hC_10 _ (Z_some hz)
    refine R_if_eq (pc := 35) 59 (dc k_M_e 20 rfl) rfl (fun hc => ?_) (fun hc => ?_)
    · have hz := Z_neg (show ¬ (¬ n32 l1_4 = 0) from (fun z => z hc)) hz
      refine R_aload_n (pc := 59) 0 (dc k_M_e 30 rfl) rfl rfl ?_
      refine R_cVM (pc := 60)  (As := []) (S := []) ck_M_396 (dc k_M_e 31 rfl) ⟨rfl, ⟨_, rfl, rfl⟩, (lb rfl), (Nat.le_trans (lb rfl) hn)⟩ (lb rfl) (lb rfl) (lb rfl) rfl (ct_M_behindUnit hE hn (Z_bind hz)) (fun r_24 M_25 hz => ?_)
      refine R_sub [0] rfl ?_
      exact hJ_18 _ _ (Z_some hz)
    · have hz := Z_pos (show ¬ n32 l1_4 = 0 from hc) hz
      refine R_aload_n (pc := 38) 0 (dc k_M_e 21 rfl) rfl rfl ?_
      refine R_getI (pc := 39) (ci := 10) (k := 43) (dc k_M_e 22 rfl) fl_M_368 rfl (lb rfl) (Nat.le_trans (lb rfl) hn) rfl (Or.inr rfl) ?_
      refine R_if_eq (pc := 42) 52 (dc k_M_e 23 rfl) rfl (fun hc => ?_) (fun hc => ?_)
      · have hz := Z_neg (show ¬ (¬ n32 (M_5 81 43) = 0) from (fun z => z hc)) hz
        refine R_aload_n (pc := 52) 0 (dc k_M_e 27 rfl) rfl rfl ?_
        refine R_cVM (pc := 53)  (As := []) (S := []) ck_M_393 (dc k_M_e 28 rfl) ⟨rfl, ⟨_, rfl, rfl⟩, (lb rfl), (Nat.le_trans (lb rfl) hn)⟩ (lb rfl) (lb rfl) (lb rfl) rfl (ct_M_unit hE hn (Z_bind hz)) (fun r_21 M_22 hz => ?_)
        refine R_goto (pc := 56) 63 (dc k_M_e 29 rfl) rfl ?_
        refine R_sub [0] rfl ?_
        exact hJ_18 _ _ (Z_some hz)
      · have hz := Z_pos (show ¬ n32 (M_5 81 43) = 0 from hc) hz
        refine R_aload_n (pc := 45) 0 (dc k_M_e 24 rfl) rfl rfl ?_
        refine R_cVM (pc := 46)  (As := []) (S := []) ck_M_391 (dc k_M_e 25 rfl) ⟨rfl, ⟨_, rfl, rfl⟩, (lb rfl), (Nat.le_trans (lb rfl) hn)⟩ (lb rfl) (lb rfl) (lb rfl) rfl (ct_M_part hE hn (Z_bind hz)) (fun r_19 M_20 hz => ?_)
        refine R_goto (pc := 49) 63 (dc k_M_e 26 rfl) rfl ?_
        refine R_sub [0] rfl ?_
        exact hJ_18 _ _ (Z_some hz)
  have hY_28 : ¬ ((¬ n32 r_13 = 0) ∧ (0 < n32 (M_5 81 42))) → Rr y_M_e (5, 112, n, n, E) (qV K) 67 [(0, vR 81), (1, vI l1_4)] [] E n M_5 := by
    intro hc
    have hz := Z_neg hc hz
    refine R_sub [] rfl ?_
    exact hX_8 _ (hB_11 _ (Z_some hz))
  refine R_if_eq (pc := 24) 67 (dc k_M_e 15 rfl) rfl (fun hc => ?_) (fun hc => ?_)
  · have hc_29 : n32 r_13 = 0 := hc
    exact hY_28 (fun z => (fun z => z hc_29) z.1)
  · have hc_30 : ¬ n32 r_13 = 0 := hc
    refine R_aload_n (pc := 27) 0 (dc k_M_e 16 rfl) rfl rfl ?_
    refine R_getI (pc := 28) (ci := 10) (k := 42) (dc k_M_e 17 rfl) fl_M_381 rfl (lb rfl) (Nat.le_trans (lb rfl) hn) rfl (Or.inl rfl) ?_
    refine R_if_le (pc := 31) 67 (dc k_M_e 18 rfl) rfl (fun hc => ?_) (fun hc => ?_)
    · have hc_31 : n32 (M_5 81 42) ≤ 0 := hc
      exact hY_28 (fun z => (Int.not_lt.mpr hc_31) z.2)
    · have hc_32 : 0 < n32 (M_5 81 42) := (Int.not_le.mp hc)
      exact hX_27 ⟨hc_30, hc_32⟩

set_option maxRecDepth 20000 in
theorem ct_M_readRow {E : Nat → Bool} {n : Nat} (hE : ∀ c, 81 ≤ c → c ≤ 138 → E c = true) (hn : 138 ≤ n) {M : Mem} {K : Mem → Prop} (hz : Z (M_readRow M) K) : Mt y_M_readRow (6, 133, n, n, E) E [vR 81] M (qV K) := by
  refine Mt.of (by decide) (lb rfl) (Nat.le_refl _) rfl ?_
  rw [M_readRow] at hz
  show Rr y_M_readRow (6, 133, n, n, E) (qV K) 0 [(0, vR 81)] [] E n M
  refine R_bipush (pc := 0) (a := 12) (dc k_M_readRow 0 rfl) (by decide) ?_
  refine R_aload_n (pc := 2) 0 (dc k_M_readRow 1 rfl) rfl rfl ?_
  refine R_getI (pc := 3) (ci := 10) (k := 39) (dc k_M_readRow 2 rfl) fl_M_295 rfl (lb rfl) (Nat.le_trans (lb rfl) hn) rfl (Or.inl rfl) ?_
  refine R_imul (pc := 6) (dc k_M_readRow 3 rfl) ?_
  refine R_aload_n (pc := 7) 0 (dc k_M_readRow 4 rfl) rfl rfl ?_
  refine R_getS (pc := 8) (ci := 10) (k := 13) 86 (dc k_M_readRow 5 rfl) fl_M_27 rfl (lb rfl) (Nat.le_trans (lb rfl) hn) (hE 81 (lb rfl) (lb rfl)) rfl (by decide) rfl ?_
  refine R_aload_n (pc := 11) 0 (dc k_M_readRow 6 rfl) rfl rfl ?_
  refine R_getI (pc := 12) (ci := 10) (k := 39) (dc k_M_readRow 7 rfl) fl_M_295 rfl (lb rfl) (Nat.le_trans (lb rfl) hn) rfl (Or.inl rfl) ?_
  obtain ⟨⟨hg_1, hg_2⟩, hz⟩ := Z_chk hz
  refine R_iald (pc := 15) (dc k_M_readRow 8 rfl) rfl (lb rfl) (Nat.le_trans (lb rfl) hn) hg_1 hg_2 ?_
  refine R_iadd (pc := 16) (dc k_M_readRow 9 rfl) ?_
  obtain ⟨l1_3, hl1_3, hz⟩ := Z_lt hz
  refine R_istore_nE (pc := 17) (L' := [(1, vI l1_3), (0, vR 81)]) (dc k_M_readRow 10 rfl) rfl (lb rfl) hl1_3 rfl ?_
  refine R_aload_n (pc := 18) 1 (dc k_M_readRow 11 rfl) rfl rfl ?_
  refine R_getS (pc := 19) (ci := 10) (k := 22) 95 (dc k_M_readRow 12 rfl) fl_M_56 rfl (lb rfl) (Nat.le_trans (lb rfl) hn) (hE 81 (lb rfl) (lb rfl)) rfl (by decide) rfl ?_
  refine R_iload_n (pc := 22) 0 (dc k_M_readRow 13 rfl) rfl rfl ?_
  refine R_aload_n (pc := 23) 1 (dc k_M_readRow 14 rfl) rfl rfl ?_
  refine R_aload_n (pc := 24) 1 (dc k_M_readRow 15 rfl) rfl rfl ?_
  refine R_cVP (pc := 25)  (As := []) (S := [vR 81, vI l1_3, vR 95]) ck_M_348 (dc k_M_readRow 16 rfl) ⟨rfl, ⟨_, rfl, rfl⟩, (lb rfl), (Nat.le_trans (lb rfl) hn)⟩ (lb rfl) (lb rfl) (lb rfl) rfl (ct_M_factHere hE hn (Z_bind hz)) (fun r_4 hz => ?_)
  obtain ⟨K_6, hK_7, hz⟩ := Z_cut hz
  have hJ_8 : ∀ (v_5 : Int), K_6 v_5 → Rr y_M_readRow (6, 133, n, n, E) (qV K) 43 [(0, vR 81), (1, vI l1_3)] [vI v_5, vR 81, vI l1_3, vR 95] E n M := by
    intro v_5 hk
    have hz := hK_7 _ hk
    refine R_cVN (pc := 43)  (As := [vI v_5]) (S := [vI l1_3, vR 95]) ck_M_354 (dc k_M_readRow 24 rfl) ⟨rfl, ⟨_, rfl, rfl⟩, (lb rfl), (Nat.le_trans (lb rfl) hn)⟩ (lb rfl) (lb rfl) (lb rfl) rfl (ct_M_fresh hE hn (Z_bind hz)) (fun r_15 M_16 hz => ?_)
    obtain ⟨⟨hg_17, hg_18⟩, hz⟩ := Z_chk hz
    obtain ⟨M_19, hM_19, hz⟩ := Z_lt hz
    refine R_lastE (pc := 46) (dc k_M_readRow 25 rfl) rfl (lb rfl) (Nat.le_trans (lb rfl) hn) hg_17 hg_18 hM_19 ?_
    refine R_bipush (pc := 47) (a := 17) (dc k_M_readRow 26 rfl) (by decide) ?_
    refine R_aload_n (pc := 49) 0 (dc k_M_readRow 27 rfl) rfl rfl ?_
    refine R_getI (pc := 50) (ci := 10) (k := 39) (dc k_M_readRow 28 rfl) fl_M_295 rfl (lb rfl) (Nat.le_trans (lb rfl) hn) rfl (Or.inl rfl) ?_
    refine R_imul (pc := 53) (dc k_M_readRow 29 rfl) ?_
    refine R_aload_n (pc := 54) 0 (dc k_M_readRow 30 rfl) rfl rfl ?_
    refine R_getS (pc := 55) (ci := 10) (k := 13) 86 (dc k_M_readRow 31 rfl) fl_M_27 rfl (lb rfl) (Nat.le_trans (lb rfl) hn) (hE 81 (lb rfl) (lb rfl)) rfl (by decide) rfl ?_
    refine R_aload_n (pc := 58) 0 (dc k_M_readRow 32 rfl) rfl rfl ?_
    refine R_getI (pc := 59) (ci := 10) (k := 39) (dc k_M_readRow 33 rfl) fl_M_295 rfl (lb rfl) (Nat.le_trans (lb rfl) hn) rfl (Or.inl rfl) ?_
    obtain ⟨⟨hg_20, hg_21⟩, hz⟩ := Z_chk hz
    refine R_iald (pc := 62) (dc k_M_readRow 34 rfl) rfl (lb rfl) (Nat.le_trans (lb rfl) hn) hg_20 hg_21 ?_
    refine R_iadd (pc := 63) (dc k_M_readRow 35 rfl) ?_
    obtain ⟨l2_22, hl2_22, hz⟩ := Z_lt hz
    refine R_istore_nE (pc := 64) (L' := [(2, vI l2_22), (0, vR 81), (1, vI l1_3)]) (dc k_M_readRow 36 rfl) rfl (lb rfl) hl2_22 rfl ?_
    refine R_aload_n (pc := 65) 1 (dc k_M_readRow 37 rfl) rfl rfl ?_
    refine R_getS (pc := 66) (ci := 10) (k := 31) 104 (dc k_M_readRow 38 rfl) fl_M_83 rfl (lb rfl) (Nat.le_trans (lb rfl) hn) (hE 81 (lb rfl) (lb rfl)) rfl (by decide) rfl ?_
    refine R_iload_n (pc := 69) 0 (dc k_M_readRow 39 rfl) rfl rfl ?_
    refine R_aload_n (pc := 70) 1 (dc k_M_readRow 40 rfl) rfl rfl ?_
    refine R_getI (pc := 71) (ci := 10) (k := 40) (dc k_M_readRow 41 rfl) fl_M_298 rfl (lb rfl) (Nat.le_trans (lb rfl) hn) rfl (Or.inl rfl) ?_
    obtain ⟨⟨hg_23, hg_24⟩, hz⟩ := Z_chk hz
    obtain ⟨M_25, hM_25, hz⟩ := Z_lt hz
    refine R_iastE (pc := 74) (dc k_M_readRow 42 rfl) rfl (lb rfl) (Nat.le_trans (lb rfl) hn) hg_23 hg_24 hM_25 ?_
    refine R_aload_n (pc := 75) 1 (dc k_M_readRow 43 rfl) rfl rfl ?_
    refine R_iconst (pc := 76) (a := 0) (dc k_M_readRow 44 rfl) ?_
    obtain ⟨M_26, hM_26, hz⟩ := Z_lt hz
    refine R_putZE (pc := 77) (ci := 10) (k := 43) (dc k_M_readRow 45 rfl) fl_M_368 rfl (lb rfl) (Nat.le_trans (lb rfl) hn) rfl rfl rfl (Or.inl rfl) hM_26 ?_
    refine R_aload_n (pc := 80) 1 (dc k_M_readRow 46 rfl) rfl rfl ?_
    refine R_iconst (pc := 81) (a := 0) (dc k_M_readRow 47 rfl) ?_
    obtain ⟨M_27, hM_27, hz⟩ := Z_lt hz
    refine R_putZE (pc := 82) (ci := 10) (k := 44) (dc k_M_readRow 48 rfl) fl_M_372 rfl (lb rfl) (Nat.le_trans (lb rfl) hn) rfl rfl rfl (Or.inl rfl) hM_27 ?_
    refine R_aload_n (pc := 85) 1 (dc k_M_readRow 49 rfl) rfl rfl ?_
    refine R_iconst (pc := 86) (a := 0) (dc k_M_readRow 50 rfl) ?_
    obtain ⟨M_28, hM_28, hz⟩ := Z_lt hz
    refine R_putZE (pc := 87) (ci := 10) (k := 45) (dc k_M_readRow 51 rfl) fl_M_375 rfl (lb rfl) (Nat.le_trans (lb rfl) hn) rfl rfl rfl (Or.inl rfl) hM_28 ?_
    refine R_aload_n (pc := 90) 1 (dc k_M_readRow 52 rfl) rfl rfl ?_
    refine R_cVP (pc := 91)  (As := []) (S := []) ck_M_278 (dc k_M_readRow 53 rfl) ⟨rfl, ⟨_, rfl, rfl⟩, (lb rfl), (Nat.le_trans (lb rfl) hn)⟩ (lb rfl) (lb rfl) (lb rfl) rfl (ct_M_isGood hE hn (Z_bind hz)) (fun r_29 hz => ?_)
    obtain ⟨K_31, hK_32, hz⟩ := Z_cut hz
    have hJ_33 : ∀ (M_30 : Mem), K_31 M_30 → Rr y_M_readRow (6, 133, n, n, E) (qV K) 101 [(0, vR 81), (1, vI l1_3), (2, vI l2_22)] [] E n M_30 := by
      intro M_30 hk
      have hz := hK_32 _ hk
      refine R_aload_n (pc := 101) 0 (dc k_M_readRow 57 rfl) rfl rfl ?_
      refine R_getS (pc := 102) (ci := 10) (k := 32) 105 (dc k_M_readRow 58 rfl) fl_M_86 rfl (lb rfl) (Nat.le_trans (lb rfl) hn) (hE 81 (lb rfl) (lb rfl)) rfl (by decide) rfl ?_
      refine R_iload_n (pc := 105) 2 (dc k_M_readRow 59 rfl) rfl rfl ?_
      refine R_aload_n (pc := 106) 0 (dc k_M_readRow 60 rfl) rfl rfl ?_
      refine R_getI (pc := 107) (ci := 10) (k := 40) (dc k_M_readRow 61 rfl) fl_M_298 rfl (lb rfl) (Nat.le_trans (lb rfl) hn) rfl (Or.inl rfl) ?_
      obtain ⟨M_36, hM_36, hz⟩ := Z_lt hz
      refine R_iastE (pc := 110) (dc k_M_readRow 62 rfl) rfl (lb rfl) (Nat.le_trans (lb rfl) hn) hg_23 hg_24 hM_36 ?_
      refine R_aload_n (pc := 111) 0 (dc k_M_readRow 63 rfl) rfl rfl ?_
      refine R_getS (pc := 112) (ci := 10) (k := 19) 92 (dc k_M_readRow 64 rfl) fl_M_46 rfl (lb rfl) (Nat.le_trans (lb rfl) hn) (hE 81 (lb rfl) (lb rfl)) rfl (by decide) rfl ?_
      refine R_iload_n (pc := 115) 1 (dc k_M_readRow 65 rfl) rfl rfl ?_
      refine R_aload_n (pc := 116) 0 (dc k_M_readRow 66 rfl) rfl rfl ?_
      refine R_getI (pc := 117) (ci := 10) (k := 45) (dc k_M_readRow 67 rfl) fl_M_375 rfl (lb rfl) (Nat.le_trans (lb rfl) hn) rfl (Or.inr rfl) ?_
      obtain ⟨hg_37, hz⟩ := Z_chk hz
      obtain ⟨M_38, hM_38, hz⟩ := Z_lt hz
      refine R_zastE (pc := 120) (dc k_M_readRow 68 rfl) rfl (lb rfl) (Nat.le_trans (lb rfl) hn) hg_17 hg_18 hg_37 hM_38 ?_
      refine R_aload_n (pc := 121) 0 (dc k_M_readRow 69 rfl) rfl rfl ?_
      refine R_getS (pc := 122) (ci := 10) (k := 13) 86 (dc k_M_readRow 70 rfl) fl_M_27 rfl (lb rfl) (Nat.le_trans (lb rfl) hn) (hE 81 (lb rfl) (lb rfl)) rfl (by decide) rfl ?_
      refine R_aload_n (pc := 125) 0 (dc k_M_readRow 71 rfl) rfl rfl ?_
      refine R_getI (pc := 126) (ci := 10) (k := 39) (dc k_M_readRow 72 rfl) fl_M_295 rfl (lb rfl) (Nat.le_trans (lb rfl) hn) rfl (Or.inl rfl) ?_
      refine R_dup2 (pc := 129) (dc k_M_readRow 73 rfl) rfl rfl ?_
      obtain ⟨⟨hg_39, hg_40⟩, hz⟩ := Z_chk hz
      refine R_iald (pc := 130) (dc k_M_readRow 74 rfl) rfl (lb rfl) (Nat.le_trans (lb rfl) hn) hg_39 hg_40 ?_
      refine R_iconst (pc := 131) (a := 1) (dc k_M_readRow 75 rfl) ?_
      refine R_iadd (pc := 132) (dc k_M_readRow 76 rfl) ?_
      obtain ⟨M_41, hM_41, hz⟩ := Z_lt hz
      refine R_iastE (pc := 133) (dc k_M_readRow 77 rfl) rfl (lb rfl) (Nat.le_trans (lb rfl) hn) hg_39 hg_40 hM_41 ?_
      exact R_vret (pc := 134) (dc k_M_readRow 78 rfl) rfl rfl rfl ⟨rfl, (Z_some hz)⟩
    refine R_if_eq (pc := 94) 101 (dc k_M_readRow 54 rfl) rfl (fun hc => ?_) (fun hc => ?_)
    · have hz := Z_neg (show ¬ (¬ n32 r_29 = 0) from (fun z => z hc)) hz
      refine R_sub [1, 2, 0] rfl ?_
      exact hJ_33 _ (Z_some hz)
    · have hz := Z_pos (show ¬ n32 r_29 = 0 from hc) hz
      refine R_aload_n (pc := 97) 1 (dc k_M_readRow 55 rfl) rfl rfl ?_
      refine R_cVV (pc := 98)  (As := []) (S := []) ck_M_378 (dc k_M_readRow 56 rfl) ⟨rfl, ⟨_, rfl, rfl⟩, (lb rfl), (Nat.le_trans (lb rfl) hn)⟩ (lb rfl) (lb rfl) (lb rfl) rfl (ct_M_e hE hn (Z_bind hz)) (fun M_34 hz => ?_)
      refine R_sub [1, 2, 0] rfl ?_
      exact hJ_33 _ (Z_some hz)
  obtain ⟨K_9, hK_10, hz⟩ := Z_cut hz
  have hX_11 : K_9 true → Rr y_M_readRow (6, 133, n, n, E) (qV K) 38 [(1, vI l1_3), (0, vR 81)] [vR 81, vI l1_3, vR 95] E n M := by
    intro hk
    have hz := Z_pos rfl (hK_10 _ hk)
    refine R_iconst (pc := 38) (a := 1) (dc k_M_readRow 21 rfl) ?_
    refine R_goto (pc := 39) 43 (dc k_M_readRow 22 rfl) rfl ?_
    refine R_sub [1, 0] rfl ?_
    exact hJ_8 _ (Z_some hz)
  have hY_12 : K_9 false → Rr y_M_readRow (6, 133, n, n, E) (qV K) 42 [(1, vI l1_3), (0, vR 81)] [vR 81, vI l1_3, vR 95] E n M := by
    intro hk
    have hz := Z_neg Bool.false_ne_true (hK_10 _ hk)
    refine R_iconst (pc := 42) (a := 0) (dc k_M_readRow 23 rfl) ?_
    refine R_sub [1, 0] rfl ?_
    exact hJ_8 _ (Z_some hz)
  refine R_if_ge (pc := 28) 38 (dc k_M_readRow 17 rfl) rfl (fun hc => ?_) (fun hc => ?_)
  · have hz := Z_neg (show ¬ (n32 r_4 < 0) from (Int.not_lt.mpr hc)) hz
    exact hX_11 (Z_some hz)
  · have hz := Z_pos (show n32 r_4 < 0 from (Int.not_le.mp hc)) hz
    refine R_aload_n (pc := 31) 1 (dc k_M_readRow 18 rfl) rfl rfl ?_
    refine R_cVP (pc := 32)  (As := []) (S := [vR 81, vI l1_3, vR 95]) ck_M_351 (dc k_M_readRow 19 rfl) ⟨rfl, ⟨_, rfl, rfl⟩, (lb rfl), (Nat.le_trans (lb rfl) hn)⟩ (lb rfl) (lb rfl) (lb rfl) rfl (ct_M_rowHere hE hn (Z_bind hz)) (fun r_14 hz => ?_)
    refine R_if_lt (pc := 35) 42 (dc k_M_readRow 20 rfl) rfl (fun hc => ?_) (fun hc => ?_)
    · have hz := Z_neg (show ¬ (0 ≤ n32 r_14) from (Int.not_le.mpr hc)) hz
      exact hY_12 (Z_some hz)
    · have hz := Z_pos (show 0 ≤ n32 r_14 from (Int.not_lt.mp hc)) hz
      exact hX_11 (Z_some hz)

set_option maxRecDepth 20000 in
theorem ct_M_readAlways {E : Nat → Bool} {n : Nat} (hE : ∀ c, 81 ≤ c → c ≤ 138 → E c = true) (hn : 138 ≤ n) {M : Mem} {K : Mem → Prop} (hz : Z (M_readAlways M) K) : Mt y_M_readAlways (6, 133, n, n, E) E [vR 81] M (qV K) := by
  refine Mt.of (by decide) (lb rfl) (Nat.le_refl _) rfl ?_
  rw [M_readAlways] at hz
  show Rr y_M_readAlways (6, 133, n, n, E) (qV K) 0 [(0, vR 81)] [] E n M
  refine R_bipush (pc := 0) (a := 17) (dc k_M_readAlways 0 rfl) (by decide) ?_
  refine R_aload_n (pc := 2) 0 (dc k_M_readAlways 1 rfl) rfl rfl ?_
  refine R_getI (pc := 3) (ci := 10) (k := 39) (dc k_M_readAlways 2 rfl) fl_M_295 rfl (lb rfl) (Nat.le_trans (lb rfl) hn) rfl (Or.inl rfl) ?_
  refine R_imul (pc := 6) (dc k_M_readAlways 3 rfl) ?_
  refine R_bipush (pc := 7) (a := 12) (dc k_M_readAlways 4 rfl) (by decide) ?_
  refine R_iadd (pc := 9) (dc k_M_readAlways 5 rfl) ?_
  refine R_aload_n (pc := 10) 0 (dc k_M_readAlways 6 rfl) rfl rfl ?_
  refine R_getS (pc := 11) (ci := 10) (k := 14) 87 (dc k_M_readAlways 7 rfl) fl_M_30 rfl (lb rfl) (Nat.le_trans (lb rfl) hn) (hE 81 (lb rfl) (lb rfl)) rfl (by decide) rfl ?_
  refine R_aload_n (pc := 14) 0 (dc k_M_readAlways 8 rfl) rfl rfl ?_
  refine R_getI (pc := 15) (ci := 10) (k := 39) (dc k_M_readAlways 9 rfl) fl_M_295 rfl (lb rfl) (Nat.le_trans (lb rfl) hn) rfl (Or.inl rfl) ?_
  obtain ⟨⟨hg_1, hg_2⟩, hz⟩ := Z_chk hz
  refine R_iald (pc := 18) (dc k_M_readAlways 10 rfl) rfl (lb rfl) (Nat.le_trans (lb rfl) hn) hg_1 hg_2 ?_
  refine R_iadd (pc := 19) (dc k_M_readAlways 11 rfl) ?_
  obtain ⟨l1_3, hl1_3, hz⟩ := Z_lt hz
  refine R_istore_nE (pc := 20) (L' := [(1, vI l1_3), (0, vR 81)]) (dc k_M_readAlways 12 rfl) rfl (lb rfl) hl1_3 rfl ?_
  refine R_aload_n (pc := 21) 1 (dc k_M_readAlways 13 rfl) rfl rfl ?_
  refine R_getS (pc := 22) (ci := 10) (k := 31) 104 (dc k_M_readAlways 14 rfl) fl_M_83 rfl (lb rfl) (Nat.le_trans (lb rfl) hn) (hE 81 (lb rfl) (lb rfl)) rfl (by decide) rfl ?_
  refine R_iload_n (pc := 25) 0 (dc k_M_readAlways 15 rfl) rfl rfl ?_
  refine R_aload_n (pc := 26) 1 (dc k_M_readAlways 16 rfl) rfl rfl ?_
  refine R_getI (pc := 27) (ci := 10) (k := 40) (dc k_M_readAlways 17 rfl) fl_M_298 rfl (lb rfl) (Nat.le_trans (lb rfl) hn) rfl (Or.inl rfl) ?_
  obtain ⟨⟨hg_4, hg_5⟩, hz⟩ := Z_chk hz
  obtain ⟨M_6, hM_6, hz⟩ := Z_lt hz
  refine R_iastE (pc := 30) (dc k_M_readAlways 18 rfl) rfl (lb rfl) (Nat.le_trans (lb rfl) hn) hg_4 hg_5 hM_6 ?_
  refine R_aload_n (pc := 31) 1 (dc k_M_readAlways 19 rfl) rfl rfl ?_
  refine R_iconst (pc := 32) (a := 0) (dc k_M_readAlways 20 rfl) ?_
  obtain ⟨M_7, hM_7, hz⟩ := Z_lt hz
  refine R_putZE (pc := 33) (ci := 10) (k := 43) (dc k_M_readAlways 21 rfl) fl_M_368 rfl (lb rfl) (Nat.le_trans (lb rfl) hn) rfl rfl rfl (Or.inl rfl) hM_7 ?_
  refine R_aload_n (pc := 36) 1 (dc k_M_readAlways 22 rfl) rfl rfl ?_
  refine R_iconst (pc := 37) (a := 1) (dc k_M_readAlways 23 rfl) ?_
  obtain ⟨M_8, hM_8, hz⟩ := Z_lt hz
  refine R_putZE (pc := 38) (ci := 10) (k := 44) (dc k_M_readAlways 24 rfl) fl_M_372 rfl (lb rfl) (Nat.le_trans (lb rfl) hn) rfl rfl rfl (Or.inr rfl) hM_8 ?_
  refine R_aload_n (pc := 41) 1 (dc k_M_readAlways 25 rfl) rfl rfl ?_
  refine R_cVV (pc := 42)  (As := []) (S := []) ck_M_378 (dc k_M_readAlways 26 rfl) ⟨rfl, ⟨_, rfl, rfl⟩, (lb rfl), (Nat.le_trans (lb rfl) hn)⟩ (lb rfl) (lb rfl) (lb rfl) rfl (ct_M_e hE hn (Z_bind hz)) (fun M_9 hz => ?_)
  refine R_aload_n (pc := 45) 1 (dc k_M_readAlways 27 rfl) rfl rfl ?_
  refine R_getS (pc := 46) (ci := 10) (k := 32) 105 (dc k_M_readAlways 28 rfl) fl_M_86 rfl (lb rfl) (Nat.le_trans (lb rfl) hn) (hE 81 (lb rfl) (lb rfl)) rfl (by decide) rfl ?_
  refine R_iload_n (pc := 49) 0 (dc k_M_readAlways 29 rfl) rfl rfl ?_
  refine R_aload_n (pc := 50) 1 (dc k_M_readAlways 30 rfl) rfl rfl ?_
  refine R_getI (pc := 51) (ci := 10) (k := 40) (dc k_M_readAlways 31 rfl) fl_M_298 rfl (lb rfl) (Nat.le_trans (lb rfl) hn) rfl (Or.inl rfl) ?_
  obtain ⟨M_10, hM_10, hz⟩ := Z_lt hz
  refine R_iastE (pc := 54) (dc k_M_readAlways 32 rfl) rfl (lb rfl) (Nat.le_trans (lb rfl) hn) hg_4 hg_5 hM_10 ?_
  refine R_aload_n (pc := 55) 1 (dc k_M_readAlways 33 rfl) rfl rfl ?_
  refine R_getS (pc := 56) (ci := 10) (k := 14) 87 (dc k_M_readAlways 34 rfl) fl_M_30 rfl (lb rfl) (Nat.le_trans (lb rfl) hn) (hE 81 (lb rfl) (lb rfl)) rfl (by decide) rfl ?_
  refine R_aload_n (pc := 59) 1 (dc k_M_readAlways 35 rfl) rfl rfl ?_
  refine R_getI (pc := 60) (ci := 10) (k := 39) (dc k_M_readAlways 36 rfl) fl_M_295 rfl (lb rfl) (Nat.le_trans (lb rfl) hn) rfl (Or.inl rfl) ?_
  refine R_dup2 (pc := 63) (dc k_M_readAlways 37 rfl) rfl rfl ?_
  obtain ⟨⟨hg_11, hg_12⟩, hz⟩ := Z_chk hz
  refine R_iald (pc := 64) (dc k_M_readAlways 38 rfl) rfl (lb rfl) (Nat.le_trans (lb rfl) hn) hg_11 hg_12 ?_
  refine R_iconst (pc := 65) (a := 1) (dc k_M_readAlways 39 rfl) ?_
  refine R_iadd (pc := 66) (dc k_M_readAlways 40 rfl) ?_
  obtain ⟨M_13, hM_13, hz⟩ := Z_lt hz
  refine R_iastE (pc := 67) (dc k_M_readAlways 41 rfl) rfl (lb rfl) (Nat.le_trans (lb rfl) hn) hg_11 hg_12 hM_13 ?_
  exact R_vret (pc := 68) (dc k_M_readAlways 42 rfl) rfl rfl rfl ⟨rfl, (Z_some hz)⟩

set_option maxRecDepth 20000 in
theorem ct_M_readTie {E : Nat → Bool} {n : Nat} (hE : ∀ c, 81 ≤ c → c ≤ 138 → E c = true) (hn : 138 ≤ n) {M : Mem} {K : Mem → Prop} (hz : Z (M_readTie M) K) : Mt y_M_readTie (4, 89, n, n, E) E [vR 81] M (qV K) := by
  refine Mt.of (by decide) (lb rfl) (Nat.le_refl _) rfl ?_
  rw [M_readTie] at hz
  show Rr y_M_readTie (4, 89, n, n, E) (qV K) 0 [(0, vR 81)] [] E n M
  refine R_bipush (pc := 0) (a := 12) (dc k_M_readTie 0 rfl) (by decide) ?_
  refine R_aload_n (pc := 2) 0 (dc k_M_readTie 1 rfl) rfl rfl ?_
  refine R_getI (pc := 3) (ci := 10) (k := 39) (dc k_M_readTie 2 rfl) fl_M_295 rfl (lb rfl) (Nat.le_trans (lb rfl) hn) rfl (Or.inl rfl) ?_
  refine R_imul (pc := 6) (dc k_M_readTie 3 rfl) ?_
  refine R_aload_n (pc := 7) 0 (dc k_M_readTie 4 rfl) rfl rfl ?_
  refine R_getS (pc := 8) (ci := 10) (k := 15) 88 (dc k_M_readTie 5 rfl) fl_M_33 rfl (lb rfl) (Nat.le_trans (lb rfl) hn) (hE 81 (lb rfl) (lb rfl)) rfl (by decide) rfl ?_
  refine R_aload_n (pc := 11) 0 (dc k_M_readTie 6 rfl) rfl rfl ?_
  refine R_getI (pc := 12) (ci := 10) (k := 39) (dc k_M_readTie 7 rfl) fl_M_295 rfl (lb rfl) (Nat.le_trans (lb rfl) hn) rfl (Or.inl rfl) ?_
  obtain ⟨⟨hg_1, hg_2⟩, hz⟩ := Z_chk hz
  refine R_iald (pc := 15) (dc k_M_readTie 8 rfl) rfl (lb rfl) (Nat.le_trans (lb rfl) hn) hg_1 hg_2 ?_
  refine R_iadd (pc := 16) (dc k_M_readTie 9 rfl) ?_
  obtain ⟨l1_3, hl1_3, hz⟩ := Z_lt hz
  refine R_istore_nE (pc := 17) (L' := [(1, vI l1_3), (0, vR 81)]) (dc k_M_readTie 10 rfl) rfl (lb rfl) hl1_3 rfl ?_
  refine R_aload_n (pc := 18) 1 (dc k_M_readTie 11 rfl) rfl rfl ?_
  refine R_aload_n (pc := 19) 1 (dc k_M_readTie 12 rfl) rfl rfl ?_
  refine R_cVP (pc := 20)  (As := []) (S := [vR 81]) ck_M_358 (dc k_M_readTie 13 rfl) ⟨rfl, ⟨_, rfl, rfl⟩, (lb rfl), (Nat.le_trans (lb rfl) hn)⟩ (lb rfl) (lb rfl) (lb rfl) rfl (ct_M_personHere hE hn (Z_bind hz)) (fun r_4 hz => ?_)
  refine R_cVM (pc := 23)  (As := [vI r_4]) (S := []) ck_M_365 (dc k_M_readTie 14 rfl) ⟨rfl, ⟨_, rfl, rfl⟩, (lb rfl), (Nat.le_trans (lb rfl) hn)⟩ (lb rfl) (lb rfl) (lb rfl) rfl (ct_M_told hE hn (Z_bind hz)) (fun r_5 M_6 hz => ?_)
  refine R_istore_n (pc := 26) (L' := [(2, vI r_5), (1, vI l1_3), (0, vR 81)]) (dc k_M_readTie 15 rfl) rfl (lb rfl) rfl ?_
  refine R_aload_n (pc := 27) 2 (dc k_M_readTie 16 rfl) rfl rfl ?_
  refine R_cVP (pc := 28)  (As := []) (S := []) ck_M_358 (dc k_M_readTie 17 rfl) ⟨rfl, ⟨_, rfl, rfl⟩, (lb rfl), (Nat.le_trans (lb rfl) hn)⟩ (lb rfl) (lb rfl) (lb rfl) rfl (ct_M_personHere hE hn (Z_bind hz)) (fun r_7 hz => ?_)
  refine R_istore_n (pc := 31) (L' := [(3, vI r_7), (2, vI r_5), (1, vI l1_3), (0, vR 81)]) (dc k_M_readTie 18 rfl) rfl (lb rfl) rfl ?_
  refine R_iload_n (pc := 32) 0 (dc k_M_readTie 19 rfl) rfl rfl ?_
  obtain ⟨K_9, hK_10, hz⟩ := Z_cut hz
  have hJ_11 : ∀ (v_8 : Int), K_9 v_8 → Rr y_M_readTie (4, 89, n, n, E) (qV K) 46 [(0, vR 81), (1, vI l1_3), (2, vI r_5), (3, vI r_7)] [vI v_8] E n M_6 := by
    intro v_8 hk
    have hz := hK_10 _ hk
    refine R_istore (pc := 46) (L' := [(4, vI v_8), (0, vR 81), (1, vI l1_3), (2, vI r_5), (3, vI r_7)]) (dc k_M_readTie 27 rfl) (lb rfl) rfl ?_
    refine R_bipush (pc := 48) (a := 12) (dc k_M_readTie 28 rfl) (by decide) ?_
    refine R_aload_n (pc := 50) 1 (dc k_M_readTie 29 rfl) rfl rfl ?_
    refine R_getI (pc := 51) (ci := 10) (k := 39) (dc k_M_readTie 30 rfl) fl_M_295 rfl (lb rfl) (Nat.le_trans (lb rfl) hn) rfl (Or.inl rfl) ?_
    refine R_imul (pc := 54) (dc k_M_readTie 31 rfl) ?_
    obtain ⟨l5_18, hl5_18, hz⟩ := Z_lt hz
    refine R_istoreE (pc := 55) (L' := [(5, vI l5_18), (4, vI v_8), (0, vR 81), (1, vI l1_3), (2, vI r_5), (3, vI r_7)]) (dc k_M_readTie 32 rfl) (lb rfl) hl5_18 rfl ?_
    obtain ⟨K_21, hK_22, hz⟩ := Z_cut hz
    have hX_23 : ∀ (l4_27 : Int), K_21 l4_27 → Rr y_M_readTie (4, 89, n, n, E) (qV K) 129 [(0, vR 81), (1, vI l1_3), (2, vI r_5), (3, vI r_7), (4, vI l4_27)] [] E n M_6 := by
      intro l4_27 hk
      have hz := hK_22 _ hk
      refine R_aload_n (pc := 129) 0 (dc k_M_readTie 70 rfl) rfl rfl ?_
      refine R_cVP (pc := 130)  (As := []) (S := []) ck_M_278 (dc k_M_readTie 71 rfl) ⟨rfl, ⟨_, rfl, rfl⟩, (lb rfl), (Nat.le_trans (lb rfl) hn)⟩ (lb rfl) (lb rfl) (lb rfl) rfl (ct_M_isGood hE hn (Z_bind hz)) (fun r_54 hz => ?_)
      obtain ⟨K_56, hK_57, hz⟩ := Z_cut hz
      have hJ_58 : ∀ (M_55 : Mem), K_56 M_55 → Rr y_M_readTie (4, 89, n, n, E) (qV K) 150 [(0, vR 81), (1, vI l1_3), (2, vI r_5), (3, vI r_7)] [] E n M_55 := by
        intro M_55 hk
        have hz := hK_57 _ hk
        refine R_aload_n (pc := 150) 0 (dc k_M_readTie 80 rfl) rfl rfl ?_
        refine R_getS (pc := 151) (ci := 10) (k := 25) 98 (dc k_M_readTie 81 rfl) fl_M_65 rfl (lb rfl) (Nat.le_trans (lb rfl) hn) (hE 81 (lb rfl) (lb rfl)) rfl (by decide) rfl ?_
        refine R_iload_n (pc := 154) 1 (dc k_M_readTie 82 rfl) rfl rfl ?_
        refine R_iload_n (pc := 155) 2 (dc k_M_readTie 83 rfl) rfl rfl ?_
        obtain ⟨⟨hg_66, hg_67⟩, hz⟩ := Z_chk hz
        obtain ⟨M_68, hM_68, hz⟩ := Z_lt hz
        refine R_iastE (pc := 156) (dc k_M_readTie 84 rfl) rfl (lb rfl) (Nat.le_trans (lb rfl) hn) hg_66 hg_67 hM_68 ?_
        refine R_aload_n (pc := 157) 0 (dc k_M_readTie 85 rfl) rfl rfl ?_
        refine R_getS (pc := 158) (ci := 10) (k := 26) 99 (dc k_M_readTie 86 rfl) fl_M_68 rfl (lb rfl) (Nat.le_trans (lb rfl) hn) (hE 81 (lb rfl) (lb rfl)) rfl (by decide) rfl ?_
        refine R_iload_n (pc := 161) 1 (dc k_M_readTie 87 rfl) rfl rfl ?_
        refine R_aload_n (pc := 162) 0 (dc k_M_readTie 88 rfl) rfl rfl ?_
        refine R_iload_n (pc := 163) 3 (dc k_M_readTie 89 rfl) rfl rfl ?_
        refine R_cVM (pc := 164)  (As := [vI r_7]) (S := [vI l1_3, vR 99]) ck_M_365 (dc k_M_readTie 90 rfl) ⟨rfl, ⟨_, rfl, rfl⟩, (lb rfl), (Nat.le_trans (lb rfl) hn)⟩ (lb rfl) (lb rfl) (lb rfl) rfl (ct_M_told hE hn (Z_bind hz)) (fun r_69 M_70 hz => ?_)
        obtain ⟨M_71, hM_71, hz⟩ := Z_lt hz
        refine R_iastE (pc := 167) (dc k_M_readTie 91 rfl) rfl (lb rfl) (Nat.le_trans (lb rfl) hn) hg_66 hg_67 hM_71 ?_
        refine R_aload_n (pc := 168) 0 (dc k_M_readTie 92 rfl) rfl rfl ?_
        refine R_getS (pc := 169) (ci := 10) (k := 27) 100 (dc k_M_readTie 93 rfl) fl_M_71 rfl (lb rfl) (Nat.le_trans (lb rfl) hn) (hE 81 (lb rfl) (lb rfl)) rfl (by decide) rfl ?_
        refine R_iload_n (pc := 172) 1 (dc k_M_readTie 94 rfl) rfl rfl ?_
        refine R_aload_n (pc := 173) 0 (dc k_M_readTie 95 rfl) rfl rfl ?_
        refine R_ldc2 (pc := 174) (a := 482955846501) (dc k_M_readTie 96 rfl) c_M_214 ?_
        refine R_bipush (pc := 177) (a := 99) (dc k_M_readTie 97 rfl) (by decide) ?_
        refine R_cVM (pc := 179)  (As := [vJ 482955846501, vI 99]) (S := [vI l1_3, vR 100]) ck_M_361 (dc k_M_readTie 98 rfl) ⟨rfl, ⟨_, rfl, rfl⟩, (lb rfl), (Nat.le_trans (lb rfl) hn)⟩ (lb rfl) (lb rfl) (lb rfl) rfl (ct_M_after hE hn (Z_bind hz)) (fun r_72 M_73 hz => ?_)
        obtain ⟨M_74, hM_74, hz⟩ := Z_lt hz
        refine R_iastE (pc := 182) (dc k_M_readTie 99 rfl) rfl (lb rfl) (Nat.le_trans (lb rfl) hn) hg_66 hg_67 hM_74 ?_
        refine R_aload_n (pc := 183) 0 (dc k_M_readTie 100 rfl) rfl rfl ?_
        refine R_getS (pc := 184) (ci := 10) (k := 15) 88 (dc k_M_readTie 101 rfl) fl_M_33 rfl (lb rfl) (Nat.le_trans (lb rfl) hn) (hE 81 (lb rfl) (lb rfl)) rfl (by decide) rfl ?_
        refine R_aload_n (pc := 187) 0 (dc k_M_readTie 102 rfl) rfl rfl ?_
        refine R_getI (pc := 188) (ci := 10) (k := 39) (dc k_M_readTie 103 rfl) fl_M_295 rfl (lb rfl) (Nat.le_trans (lb rfl) hn) rfl (Or.inl rfl) ?_
        refine R_dup2 (pc := 191) (dc k_M_readTie 104 rfl) rfl rfl ?_
        obtain ⟨⟨hg_75, hg_76⟩, hz⟩ := Z_chk hz
        refine R_iald (pc := 192) (dc k_M_readTie 105 rfl) rfl (lb rfl) (Nat.le_trans (lb rfl) hn) hg_75 hg_76 ?_
        refine R_iconst (pc := 193) (a := 1) (dc k_M_readTie 106 rfl) ?_
        refine R_iadd (pc := 194) (dc k_M_readTie 107 rfl) ?_
        obtain ⟨M_77, hM_77, hz⟩ := Z_lt hz
        refine R_iastE (pc := 195) (dc k_M_readTie 108 rfl) rfl (lb rfl) (Nat.le_trans (lb rfl) hn) hg_75 hg_76 hM_77 ?_
        exact R_vret (pc := 196) (dc k_M_readTie 109 rfl) rfl rfl rfl ⟨rfl, (Z_some hz)⟩
      have hX_60 : ((¬ n32 r_54 = 0) ∧ (¬ n32 l4_27 = 0)) → Rr y_M_readTie (4, 89, n, n, E) (qV K) 141 [(0, vR 81), (1, vI l1_3), (2, vI r_5), (3, vI r_7), (4, vI l4_27)] [] E n M_6 := by
        intro hc
        have hz := Z_pos hc hz
        refine R_aload_n (pc := 141) 0 (dc k_M_readTie 75 rfl) rfl rfl ?_
        refine R_iconst (pc := 142) (a := 3) (dc k_M_readTie 76 rfl) ?_
        refine R_aload_n (pc := 143) 0 (dc k_M_readTie 77 rfl) rfl rfl ?_
        refine R_getI (pc := 144) (ci := 10) (k := 6) (dc k_M_readTie 78 rfl) fl_M_243 rfl (lb rfl) (Nat.le_trans (lb rfl) hn) rfl (Or.inl rfl) ?_
        refine R_cVV (pc := 147)  (As := [vI 3, vI (M_6 81 6)]) (S := []) ck_M_274 (dc k_M_readTie 79 rfl) ⟨rfl, ⟨_, rfl, rfl⟩, (lb rfl), (Nat.le_trans (lb rfl) hn)⟩ (lb rfl) (lb rfl) (lb rfl) rfl (ct_M_fails hE hn (Z_bind hz)) (fun M_59 hz => ?_)
        refine R_sub [0, 1, 2, 3] rfl ?_
        exact hJ_58 _ (Z_some hz)
      have hY_61 : ¬ ((¬ n32 r_54 = 0) ∧ (¬ n32 l4_27 = 0)) → Rr y_M_readTie (4, 89, n, n, E) (qV K) 150 [(0, vR 81), (1, vI l1_3), (2, vI r_5), (3, vI r_7), (4, vI l4_27)] [] E n M_6 := by
        intro hc
        have hz := Z_neg hc hz
        refine R_sub [0, 1, 2, 3] rfl ?_
        exact hJ_58 _ (Z_some hz)
      refine R_if_eq (pc := 133) 150 (dc k_M_readTie 72 rfl) rfl (fun hc => ?_) (fun hc => ?_)
      · have hc_62 : n32 r_54 = 0 := hc
        exact hY_61 (fun z => (fun z => z hc_62) z.1)
      · have hc_63 : ¬ n32 r_54 = 0 := hc
        refine R_iload (pc := 136) 4 (dc k_M_readTie 73 rfl) rfl ?_
        refine R_if_eq (pc := 138) 150 (dc k_M_readTie 74 rfl) rfl (fun hc => ?_) (fun hc => ?_)
        · have hc_64 : n32 l4_27 = 0 := hc
          exact hY_61 (fun z => (fun z => z hc_64) z.2)
        · have hc_65 : ¬ n32 l4_27 = 0 := hc
          exact hX_60 ⟨hc_63, hc_65⟩
    refine R_sub [2, 3, 4, 5, 1, 0] rfl ?_
    refine it_R (C := fun aZ : Int × Int => Rr y_M_readTie (4, 89, n, n, E) (qV K) 57 [(0, vR 81), (1, vI l1_3), (2, vI r_5), (3, vI r_7), (4, vI aZ.1), (5, vI aZ.2)] [] E n M_6) (fun aZ K_24 hC_25 hB_26 hz => ?_) FUEL (v_8, l5_18) hz
    obtain ⟨l4_19, l5_20⟩ := aZ
    rw [M_readTie_b57] at hz
    show Rr y_M_readTie (4, 89, n, n, E) (qV K) 57 [(0, vR 81), (1, vI l1_3), (2, vI r_5), (3, vI r_7), (4, vI l4_19), (5, vI l5_20)] [] E n M_6
    refine R_iload (pc := 57) 5 (dc k_M_readTie 33 rfl) rfl ?_
    refine R_iload_n (pc := 59) 1 (dc k_M_readTie 34 rfl) rfl rfl ?_
    refine R_icmp_ge (pc := 60) 129 (dc k_M_readTie 35 rfl) rfl (fun hc => ?_) (fun hc => ?_)
    · have hz := Z_neg (show ¬ (n32 l5_20 < n32 l1_3) from (Int.not_lt.mpr hc)) hz
      refine R_sub [0, 1, 2, 3, 4] rfl ?_
      exact hX_23 _ (hB_26 _ (Z_some hz))
    · have hz := Z_pos (show n32 l5_20 < n32 l1_3 from (Int.not_le.mp hc)) hz
      refine R_iload (pc := 63) 4 (dc k_M_readTie 36 rfl) rfl ?_
      obtain ⟨K_29, hK_30, hz⟩ := Z_cut hz
      have hJ_31 : ∀ (v_28 : Int), K_29 v_28 → Rr y_M_readTie (4, 89, n, n, E) (qV K) 121 [(0, vR 81), (1, vI l1_3), (2, vI r_5), (3, vI r_7), (5, vI l5_20)] [vI v_28] E n M_6 := by
        intro v_28 hk
        have hz := hK_30 _ hk
        refine R_istore (pc := 121) (L' := [(4, vI v_28), (0, vR 81), (1, vI l1_3), (2, vI r_5), (3, vI r_7), (5, vI l5_20)]) (dc k_M_readTie 67 rfl) (lb rfl) rfl ?_
        obtain ⟨l5_52, hl5_52, hz⟩ := Z_lt hz
        refine R_iincE (pc := 123) (L' := [(5, vI l5_52), (4, vI v_28), (0, vR 81), (1, vI l1_3), (2, vI r_5), (3, vI r_7)]) 5 (dc k_M_readTie 68 rfl) rfl (lb rfl) hl5_52 rfl ?_
        refine R_goto (pc := 126) 57 (dc k_M_readTie 69 rfl) rfl ?_
        refine R_sub [2, 3, 4, 5, 1, 0] rfl ?_
        exact hC_25 _ (Z_some hz)
      obtain ⟨j_32, hj_33, hz⟩ := Z_jn hz
      have hJ_34 : Z (j_32 ()) K_29 → Rr y_M_readTie (4, 89, n, n, E) (qV K) 116 [(0, vR 81), (1, vI l1_3), (2, vI r_5), (3, vI r_7), (5, vI l5_20)] [] E n M_6 := by
        intro  hk
        have hz := hj_33 _ hk
        refine R_iconst (pc := 116) (a := 1) (dc k_M_readTie 64 rfl) ?_
        refine R_goto (pc := 117) 121 (dc k_M_readTie 65 rfl) rfl ?_
        exact hJ_31 _ (Z_some hz)
      refine R_if_ne (pc := 65) 116 (dc k_M_readTie 37 rfl) rfl (fun hc => ?_) (fun hc => ?_)
      · have hz := Z_neg (show ¬ (n32 l4_19 = 0) from hc) hz
        refine R_sub [0, 1, 2, 3, 5] rfl ?_
        exact hJ_34 hz
      · have hz := Z_pos (show n32 l4_19 = 0 from (Decidable.not_not.mp hc)) hz
        refine R_iload_n (pc := 68) 3 (dc k_M_readTie 38 rfl) rfl rfl ?_
        obtain ⟨j_35, hj_36, hz⟩ := Z_jn hz
        have hJ_37 : Z (j_35 ()) K_29 → Rr y_M_readTie (4, 89, n, n, E) (qV K) 120 [(0, vR 81), (1, vI l1_3), (2, vI r_5), (3, vI r_7), (5, vI l5_20)] [] E n M_6 := by
          intro  hk
          have hz := hj_36 _ hk
          refine R_iconst (pc := 120) (a := 0) (dc k_M_readTie 66 rfl) ?_
          exact hJ_31 _ (Z_some hz)
        refine R_if_lt (pc := 69) 120 (dc k_M_readTie 39 rfl) rfl (fun hc => ?_) (fun hc => ?_)
        · have hz := Z_neg (show ¬ (0 ≤ n32 r_7) from (Int.not_le.mpr hc)) hz
          refine R_sub [0, 1, 2, 3, 5] rfl ?_
          exact hJ_37 hz
        · have hz := Z_pos (show 0 ≤ n32 r_7 from (Int.not_lt.mp hc)) hz
          refine R_aload_n (pc := 72) 0 (dc k_M_readTie 40 rfl) rfl rfl ?_
          refine R_getS (pc := 73) (ci := 10) (k := 25) 98 (dc k_M_readTie 41 rfl) fl_M_65 rfl (lb rfl) (Nat.le_trans (lb rfl) hn) (hE 81 (lb rfl) (lb rfl)) rfl (by decide) rfl ?_
          refine R_iload (pc := 76) 5 (dc k_M_readTie 42 rfl) rfl ?_
          obtain ⟨⟨hg_38, hg_39⟩, hz⟩ := Z_chk hz
          refine R_iald (pc := 78) (dc k_M_readTie 43 rfl) rfl (lb rfl) (Nat.le_trans (lb rfl) hn) hg_38 hg_39 ?_
          refine R_iload_n (pc := 79) 2 (dc k_M_readTie 44 rfl) rfl rfl ?_
          obtain ⟨K_40, hK_41, hz⟩ := Z_cut hz
          have hX_42 : K_40 true → Rr y_M_readTie (4, 89, n, n, E) (qV K) 94 [(0, vR 81), (1, vI l1_3), (2, vI r_5), (3, vI r_7), (4, vI l4_19), (5, vI l5_20)] [] E n M_6 := by
            intro hk
            have hz := Z_pos rfl (hK_41 _ hk)
            refine R_aload_n (pc := 94) 0 (dc k_M_readTie 52 rfl) rfl rfl ?_
            refine R_getS (pc := 95) (ci := 10) (k := 25) 98 (dc k_M_readTie 53 rfl) fl_M_65 rfl (lb rfl) (Nat.le_trans (lb rfl) hn) (hE 81 (lb rfl) (lb rfl)) rfl (by decide) rfl ?_
            refine R_iload (pc := 98) 5 (dc k_M_readTie 54 rfl) rfl ?_
            refine R_iald (pc := 100) (dc k_M_readTie 55 rfl) rfl (lb rfl) (Nat.le_trans (lb rfl) hn) hg_38 hg_39 ?_
            refine R_iload_n (pc := 101) 3 (dc k_M_readTie 56 rfl) rfl rfl ?_
            obtain ⟨K_45, hK_46, hz⟩ := Z_cut hz
            have hX_47 : K_45 true → Rr y_M_readTie (4, 89, n, n, E) (qV K) 116 [(0, vR 81), (1, vI l1_3), (2, vI r_5), (3, vI r_7), (4, vI l4_19), (5, vI l5_20)] [] E n M_6 := by
              intro hk
              have hz := Z_pos rfl (hK_46 _ hk)
              refine R_sub [0, 1, 2, 3, 5] rfl ?_
              exact hJ_34 hz
            have hY_48 : K_45 false → Rr y_M_readTie (4, 89, n, n, E) (qV K) 120 [(0, vR 81), (1, vI l1_3), (2, vI r_5), (3, vI r_7), (4, vI l4_19), (5, vI l5_20)] [] E n M_6 := by
              intro hk
              have hz := Z_neg Bool.false_ne_true (hK_46 _ hk)
              refine R_sub [0, 1, 2, 3, 5] rfl ?_
              exact hJ_37 hz
            refine R_icmp_ne (pc := 102) 120 (dc k_M_readTie 57 rfl) rfl (fun hc => ?_) (fun hc => ?_)
            · have hz := Z_neg (show ¬ (n32 (M_6 98 (Int.toNat l5_20)) = n32 r_7) from hc) hz
              exact hY_48 (Z_some hz)
            · have hz := Z_pos (show n32 (M_6 98 (Int.toNat l5_20)) = n32 r_7 from (Decidable.not_not.mp hc)) hz
              refine R_aload_n (pc := 105) 0 (dc k_M_readTie 58 rfl) rfl rfl ?_
              refine R_getS (pc := 106) (ci := 10) (k := 26) 99 (dc k_M_readTie 59 rfl) fl_M_68 rfl (lb rfl) (Nat.le_trans (lb rfl) hn) (hE 81 (lb rfl) (lb rfl)) rfl (by decide) rfl ?_
              refine R_iload (pc := 109) 5 (dc k_M_readTie 60 rfl) rfl ?_
              refine R_iald (pc := 111) (dc k_M_readTie 61 rfl) rfl (lb rfl) (Nat.le_trans (lb rfl) hn) hg_38 hg_39 ?_
              refine R_iload_n (pc := 112) 2 (dc k_M_readTie 62 rfl) rfl rfl ?_
              refine R_icmp_ne (pc := 113) 120 (dc k_M_readTie 63 rfl) rfl (fun hc => ?_) (fun hc => ?_)
              · have hz := Z_neg (show ¬ (n32 (M_6 99 (Int.toNat l5_20)) = n32 r_5) from hc) hz
                exact hY_48 (Z_some hz)
              · have hz := Z_pos (show n32 (M_6 99 (Int.toNat l5_20)) = n32 r_5 from (Decidable.not_not.mp hc)) hz
                exact hX_47 (Z_some hz)
          have hY_43 : K_40 false → Rr y_M_readTie (4, 89, n, n, E) (qV K) 116 [(0, vR 81), (1, vI l1_3), (2, vI r_5), (3, vI r_7), (4, vI l4_19), (5, vI l5_20)] [] E n M_6 := by
            intro hk
            have hz := Z_neg Bool.false_ne_true (hK_41 _ hk)
            refine R_sub [0, 1, 2, 3, 5] rfl ?_
            exact hJ_34 hz
          refine R_icmp_ne (pc := 80) 94 (dc k_M_readTie 45 rfl) rfl (fun hc => ?_) (fun hc => ?_)
          · have hz := Z_neg (show ¬ (n32 (M_6 98 (Int.toNat l5_20)) = n32 r_5) from hc) hz
            exact hX_42 (Z_some hz)
          · have hz := Z_pos (show n32 (M_6 98 (Int.toNat l5_20)) = n32 r_5 from (Decidable.not_not.mp hc)) hz
            refine R_aload_n (pc := 83) 0 (dc k_M_readTie 46 rfl) rfl rfl ?_
            refine R_getS (pc := 84) (ci := 10) (k := 26) 99 (dc k_M_readTie 47 rfl) fl_M_68 rfl (lb rfl) (Nat.le_trans (lb rfl) hn) (hE 81 (lb rfl) (lb rfl)) rfl (by decide) rfl ?_
            refine R_iload (pc := 87) 5 (dc k_M_readTie 48 rfl) rfl ?_
            refine R_iald (pc := 89) (dc k_M_readTie 49 rfl) rfl (lb rfl) (Nat.le_trans (lb rfl) hn) hg_38 hg_39 ?_
            refine R_iload_n (pc := 90) 3 (dc k_M_readTie 50 rfl) rfl rfl ?_
            refine R_icmp_eq (pc := 91) 116 (dc k_M_readTie 51 rfl) rfl (fun hc => ?_) (fun hc => ?_)
            · have hz := Z_neg (show ¬ (¬ n32 (M_6 99 (Int.toNat l5_20)) = n32 r_7) from (fun z => z hc)) hz
              exact hY_43 (Z_some hz)
            · have hz := Z_pos (show ¬ n32 (M_6 99 (Int.toNat l5_20)) = n32 r_7 from hc) hz
              exact hX_42 (Z_some hz)
  have hX_12 : ((0 ≤ n32 r_7) ∧ (n32 r_5 = n32 r_7)) → Rr y_M_readTie (4, 89, n, n, E) (qV K) 41 [(3, vI r_7), (2, vI r_5), (1, vI l1_3), (0, vR 81)] [] E n M_6 := by
    intro hc
    have hz := Z_pos hc hz
    refine R_iconst (pc := 41) (a := 1) (dc k_M_readTie 24 rfl) ?_
    refine R_goto (pc := 42) 46 (dc k_M_readTie 25 rfl) rfl ?_
    refine R_sub [3, 2, 1, 0] rfl ?_
    exact hJ_11 _ (Z_some hz)
  have hY_13 : ¬ ((0 ≤ n32 r_7) ∧ (n32 r_5 = n32 r_7)) → Rr y_M_readTie (4, 89, n, n, E) (qV K) 45 [(3, vI r_7), (2, vI r_5), (1, vI l1_3), (0, vR 81)] [] E n M_6 := by
    intro hc
    have hz := Z_neg hc hz
    refine R_iconst (pc := 45) (a := 0) (dc k_M_readTie 26 rfl) ?_
    refine R_sub [3, 2, 1, 0] rfl ?_
    exact hJ_11 _ (Z_some hz)
  refine R_if_lt (pc := 33) 45 (dc k_M_readTie 20 rfl) rfl (fun hc => ?_) (fun hc => ?_)
  · have hc_14 : n32 r_7 < 0 := hc
    exact hY_13 (fun z => (Int.not_le.mpr hc_14) z.1)
  · have hc_15 : 0 ≤ n32 r_7 := (Int.not_lt.mp hc)
    refine R_iload_n (pc := 36) 1 (dc k_M_readTie 21 rfl) rfl rfl ?_
    refine R_iload_n (pc := 37) 0 (dc k_M_readTie 22 rfl) rfl rfl ?_
    refine R_icmp_ne (pc := 38) 45 (dc k_M_readTie 23 rfl) rfl (fun hc => ?_) (fun hc => ?_)
    · have hc_16 : ¬ n32 r_5 = n32 r_7 := hc
      exact hY_13 (fun z => hc_16 z.2)
    · have hc_17 : n32 r_5 = n32 r_7 := (Decidable.not_not.mp hc)
      exact hX_12 ⟨hc_15, hc_17⟩

set_option maxRecDepth 20000 in
theorem ct_M_readWish {E : Nat → Bool} {n : Nat} (hE : ∀ c, 81 ≤ c → c ≤ 138 → E c = true) (hn : 138 ≤ n) {M : Mem} {K : Mem → Prop} (hz : Z (M_readWish M) K) : Mt y_M_readWish (4, 89, n, n, E) E [vR 81] M (qV K) := by
  refine Mt.of (by decide) (lb rfl) (Nat.le_refl _) rfl ?_
  rw [M_readWish] at hz
  show Rr y_M_readWish (4, 89, n, n, E) (qV K) 0 [(0, vR 81)] [] E n M
  refine R_bipush (pc := 0) (a := 12) (dc k_M_readWish 0 rfl) (by decide) ?_
  refine R_aload_n (pc := 2) 0 (dc k_M_readWish 1 rfl) rfl rfl ?_
  refine R_getI (pc := 3) (ci := 10) (k := 39) (dc k_M_readWish 2 rfl) fl_M_295 rfl (lb rfl) (Nat.le_trans (lb rfl) hn) rfl (Or.inl rfl) ?_
  refine R_imul (pc := 6) (dc k_M_readWish 3 rfl) ?_
  refine R_aload_n (pc := 7) 0 (dc k_M_readWish 4 rfl) rfl rfl ?_
  refine R_getS (pc := 8) (ci := 10) (k := 16) 89 (dc k_M_readWish 5 rfl) fl_M_36 rfl (lb rfl) (Nat.le_trans (lb rfl) hn) (hE 81 (lb rfl) (lb rfl)) rfl (by decide) rfl ?_
  refine R_aload_n (pc := 11) 0 (dc k_M_readWish 6 rfl) rfl rfl ?_
  refine R_getI (pc := 12) (ci := 10) (k := 39) (dc k_M_readWish 7 rfl) fl_M_295 rfl (lb rfl) (Nat.le_trans (lb rfl) hn) rfl (Or.inl rfl) ?_
  obtain ⟨⟨hg_1, hg_2⟩, hz⟩ := Z_chk hz
  refine R_iald (pc := 15) (dc k_M_readWish 8 rfl) rfl (lb rfl) (Nat.le_trans (lb rfl) hn) hg_1 hg_2 ?_
  refine R_iadd (pc := 16) (dc k_M_readWish 9 rfl) ?_
  obtain ⟨l1_3, hl1_3, hz⟩ := Z_lt hz
  refine R_istore_nE (pc := 17) (L' := [(1, vI l1_3), (0, vR 81)]) (dc k_M_readWish 10 rfl) rfl (lb rfl) hl1_3 rfl ?_
  refine R_aload_n (pc := 18) 1 (dc k_M_readWish 11 rfl) rfl rfl ?_
  refine R_aload_n (pc := 19) 1 (dc k_M_readWish 12 rfl) rfl rfl ?_
  refine R_cVP (pc := 20)  (As := []) (S := [vR 81]) ck_M_358 (dc k_M_readWish 13 rfl) ⟨rfl, ⟨_, rfl, rfl⟩, (lb rfl), (Nat.le_trans (lb rfl) hn)⟩ (lb rfl) (lb rfl) (lb rfl) rfl (ct_M_personHere hE hn (Z_bind hz)) (fun r_4 hz => ?_)
  refine R_cVM (pc := 23)  (As := [vI r_4]) (S := []) ck_M_365 (dc k_M_readWish 14 rfl) ⟨rfl, ⟨_, rfl, rfl⟩, (lb rfl), (Nat.le_trans (lb rfl) hn)⟩ (lb rfl) (lb rfl) (lb rfl) rfl (ct_M_told hE hn (Z_bind hz)) (fun r_5 M_6 hz => ?_)
  refine R_istore_n (pc := 26) (L' := [(2, vI r_5), (1, vI l1_3), (0, vR 81)]) (dc k_M_readWish 15 rfl) rfl (lb rfl) rfl ?_
  refine R_aload_n (pc := 27) 2 (dc k_M_readWish 16 rfl) rfl rfl ?_
  refine R_cVP (pc := 28)  (As := []) (S := []) ck_M_351 (dc k_M_readWish 17 rfl) ⟨rfl, ⟨_, rfl, rfl⟩, (lb rfl), (Nat.le_trans (lb rfl) hn)⟩ (lb rfl) (lb rfl) (lb rfl) rfl (ct_M_rowHere hE hn (Z_bind hz)) (fun r_7 hz => ?_)
  refine R_istore_n (pc := 31) (L' := [(3, vI r_7), (2, vI r_5), (1, vI l1_3), (0, vR 81)]) (dc k_M_readWish 18 rfl) rfl (lb rfl) rfl ?_
  refine R_bipush (pc := 32) (a := 12) (dc k_M_readWish 19 rfl) (by decide) ?_
  refine R_aload_n (pc := 34) 3 (dc k_M_readWish 20 rfl) rfl rfl ?_
  refine R_getI (pc := 35) (ci := 10) (k := 39) (dc k_M_readWish 21 rfl) fl_M_295 rfl (lb rfl) (Nat.le_trans (lb rfl) hn) rfl (Or.inl rfl) ?_
  refine R_imul (pc := 38) (dc k_M_readWish 22 rfl) ?_
  obtain ⟨l4_8, hl4_8, hz⟩ := Z_lt hz
  refine R_istoreE (pc := 39) (L' := [(4, vI l4_8), (3, vI r_7), (2, vI r_5), (1, vI l1_3), (0, vR 81)]) (dc k_M_readWish 23 rfl) (lb rfl) hl4_8 rfl ?_
  obtain ⟨K_11, hK_12, hz⟩ := Z_cut hz
  have hX_13 : ∀ (M_17 : Mem), K_11 M_17 → Rr y_M_readWish (4, 89, n, n, E) (qV K) 95 [(0, vR 81), (1, vI l1_3), (2, vI r_5), (3, vI r_7)] [] E n M_17 := by
    intro M_17 hk
    have hz := hK_12 _ hk
    refine R_aload_n (pc := 95) 0 (dc k_M_readWish 51 rfl) rfl rfl ?_
    refine R_getS (pc := 96) (ci := 10) (k := 28) 101 (dc k_M_readWish 52 rfl) fl_M_74 rfl (lb rfl) (Nat.le_trans (lb rfl) hn) (hE 81 (lb rfl) (lb rfl)) rfl (by decide) rfl ?_
    refine R_iload_n (pc := 99) 1 (dc k_M_readWish 53 rfl) rfl rfl ?_
    refine R_iload_n (pc := 100) 2 (dc k_M_readWish 54 rfl) rfl rfl ?_
    obtain ⟨⟨hg_37, hg_38⟩, hz⟩ := Z_chk hz
    obtain ⟨M_39, hM_39, hz⟩ := Z_lt hz
    refine R_iastE (pc := 101) (dc k_M_readWish 55 rfl) rfl (lb rfl) (Nat.le_trans (lb rfl) hn) hg_37 hg_38 hM_39 ?_
    refine R_aload_n (pc := 102) 0 (dc k_M_readWish 56 rfl) rfl rfl ?_
    refine R_getS (pc := 103) (ci := 10) (k := 29) 102 (dc k_M_readWish 57 rfl) fl_M_77 rfl (lb rfl) (Nat.le_trans (lb rfl) hn) (hE 81 (lb rfl) (lb rfl)) rfl (by decide) rfl ?_
    refine R_iload_n (pc := 106) 1 (dc k_M_readWish 58 rfl) rfl rfl ?_
    refine R_aload_n (pc := 107) 0 (dc k_M_readWish 59 rfl) rfl rfl ?_
    refine R_iload_n (pc := 108) 3 (dc k_M_readWish 60 rfl) rfl rfl ?_
    refine R_cVM (pc := 109)  (As := [vI r_7]) (S := [vI l1_3, vR 102]) ck_M_365 (dc k_M_readWish 61 rfl) ⟨rfl, ⟨_, rfl, rfl⟩, (lb rfl), (Nat.le_trans (lb rfl) hn)⟩ (lb rfl) (lb rfl) (lb rfl) rfl (ct_M_told hE hn (Z_bind hz)) (fun r_40 M_41 hz => ?_)
    obtain ⟨M_42, hM_42, hz⟩ := Z_lt hz
    refine R_iastE (pc := 112) (dc k_M_readWish 62 rfl) rfl (lb rfl) (Nat.le_trans (lb rfl) hn) hg_37 hg_38 hM_42 ?_
    refine R_aload_n (pc := 113) 0 (dc k_M_readWish 63 rfl) rfl rfl ?_
    refine R_getS (pc := 114) (ci := 10) (k := 30) 103 (dc k_M_readWish 64 rfl) fl_M_80 rfl (lb rfl) (Nat.le_trans (lb rfl) hn) (hE 81 (lb rfl) (lb rfl)) rfl (by decide) rfl ?_
    refine R_iload_n (pc := 117) 1 (dc k_M_readWish 65 rfl) rfl rfl ?_
    refine R_aload_n (pc := 118) 0 (dc k_M_readWish 66 rfl) rfl rfl ?_
    refine R_ldc2 (pc := 119) (a := 512970880104) (dc k_M_readWish 67 rfl) c_M_218 ?_
    refine R_bipush (pc := 122) (a := 99) (dc k_M_readWish 68 rfl) (by decide) ?_
    refine R_cVM (pc := 124)  (As := [vJ 512970880104, vI 99]) (S := [vI l1_3, vR 103]) ck_M_361 (dc k_M_readWish 69 rfl) ⟨rfl, ⟨_, rfl, rfl⟩, (lb rfl), (Nat.le_trans (lb rfl) hn)⟩ (lb rfl) (lb rfl) (lb rfl) rfl (ct_M_after hE hn (Z_bind hz)) (fun r_43 M_44 hz => ?_)
    obtain ⟨M_45, hM_45, hz⟩ := Z_lt hz
    refine R_iastE (pc := 127) (dc k_M_readWish 70 rfl) rfl (lb rfl) (Nat.le_trans (lb rfl) hn) hg_37 hg_38 hM_45 ?_
    refine R_aload_n (pc := 128) 0 (dc k_M_readWish 71 rfl) rfl rfl ?_
    refine R_getS (pc := 129) (ci := 10) (k := 16) 89 (dc k_M_readWish 72 rfl) fl_M_36 rfl (lb rfl) (Nat.le_trans (lb rfl) hn) (hE 81 (lb rfl) (lb rfl)) rfl (by decide) rfl ?_
    refine R_aload_n (pc := 132) 0 (dc k_M_readWish 73 rfl) rfl rfl ?_
    refine R_getI (pc := 133) (ci := 10) (k := 39) (dc k_M_readWish 74 rfl) fl_M_295 rfl (lb rfl) (Nat.le_trans (lb rfl) hn) rfl (Or.inl rfl) ?_
    refine R_dup2 (pc := 136) (dc k_M_readWish 75 rfl) rfl rfl ?_
    obtain ⟨⟨hg_46, hg_47⟩, hz⟩ := Z_chk hz
    refine R_iald (pc := 137) (dc k_M_readWish 76 rfl) rfl (lb rfl) (Nat.le_trans (lb rfl) hn) hg_46 hg_47 ?_
    refine R_iconst (pc := 138) (a := 1) (dc k_M_readWish 77 rfl) ?_
    refine R_iadd (pc := 139) (dc k_M_readWish 78 rfl) ?_
    obtain ⟨M_48, hM_48, hz⟩ := Z_lt hz
    refine R_iastE (pc := 140) (dc k_M_readWish 79 rfl) rfl (lb rfl) (Nat.le_trans (lb rfl) hn) hg_46 hg_47 hM_48 ?_
    exact R_vret (pc := 141) (dc k_M_readWish 80 rfl) rfl rfl rfl ⟨rfl, (Z_some hz)⟩
  refine R_sub [4, 3, 2, 1, 0] rfl ?_
  refine it_R (C := fun aZ : Int × Mem => Rr y_M_readWish (4, 89, n, n, E) (qV K) 41 [(0, vR 81), (1, vI l1_3), (2, vI r_5), (3, vI r_7), (4, vI aZ.1)] [] E n aZ.2) (fun aZ K_14 hC_15 hB_16 hz => ?_) FUEL (l4_8, M_6) hz
  obtain ⟨l4_9, M_10⟩ := aZ
  rw [M_readWish_b41] at hz
  show Rr y_M_readWish (4, 89, n, n, E) (qV K) 41 [(0, vR 81), (1, vI l1_3), (2, vI r_5), (3, vI r_7), (4, vI l4_9)] [] E n M_10
  refine R_iload (pc := 41) 4 (dc k_M_readWish 24 rfl) rfl ?_
  refine R_iload_n (pc := 43) 1 (dc k_M_readWish 25 rfl) rfl rfl ?_
  obtain ⟨K_18, hK_19, hz⟩ := Z_cut hz
  have hX_20 : K_18 true → Rr y_M_readWish (4, 89, n, n, E) (qV K) 54 [(0, vR 81), (1, vI l1_3), (2, vI r_5), (3, vI r_7), (4, vI l4_9)] [] E n M_10 := by
    intro hk
    have hz := Z_pos rfl (hK_19 _ hk)
    refine R_iload_n (pc := 54) 3 (dc k_M_readWish 30 rfl) rfl rfl ?_
    obtain ⟨K_25, hK_26, hz⟩ := Z_cut hz
    have hJ_27 : ∀ (M_24 : Mem), K_25 M_24 → Rr y_M_readWish (4, 89, n, n, E) (qV K) 89 [(0, vR 81), (1, vI l1_3), (2, vI r_5), (3, vI r_7), (4, vI l4_9)] [] E n M_24 := by
      intro M_24 hk
      have hz := hK_26 _ hk
      obtain ⟨l4_36, hl4_36, hz⟩ := Z_lt hz
      refine R_iincE (pc := 89) (L' := [(4, vI l4_36), (0, vR 81), (1, vI l1_3), (2, vI r_5), (3, vI r_7)]) 4 (dc k_M_readWish 49 rfl) rfl (lb rfl) hl4_36 rfl ?_
      refine R_goto (pc := 92) 41 (dc k_M_readWish 50 rfl) rfl ?_
      refine R_sub [1, 2, 3, 4, 0] rfl ?_
      exact hC_15 _ (Z_some hz)
    obtain ⟨K_28, hK_29, hz⟩ := Z_cut hz
    have hX_30 : K_28 true → Rr y_M_readWish (4, 89, n, n, E) (qV K) 80 [(0, vR 81), (1, vI l1_3), (2, vI r_5), (3, vI r_7), (4, vI l4_9)] [] E n M_10 := by
      intro hk
      have hz := Z_pos rfl (hK_29 _ hk)
      refine R_aload_n (pc := 80) 0 (dc k_M_readWish 44 rfl) rfl rfl ?_
      refine R_iconst (pc := 81) (a := 3) (dc k_M_readWish 45 rfl) ?_
      refine R_aload_n (pc := 82) 0 (dc k_M_readWish 46 rfl) rfl rfl ?_
      refine R_getI (pc := 83) (ci := 10) (k := 6) (dc k_M_readWish 47 rfl) fl_M_243 rfl (lb rfl) (Nat.le_trans (lb rfl) hn) rfl (Or.inl rfl) ?_
      refine R_cVV (pc := 86)  (As := [vI 3, vI (M_10 81 6)]) (S := []) ck_M_274 (dc k_M_readWish 48 rfl) ⟨rfl, ⟨_, rfl, rfl⟩, (lb rfl), (Nat.le_trans (lb rfl) hn)⟩ (lb rfl) (lb rfl) (lb rfl) rfl (ct_M_fails hE hn (Z_bind hz)) (fun M_35 hz => ?_)
      exact hJ_27 _ (Z_some hz)
    have hY_31 : K_28 false → Rr y_M_readWish (4, 89, n, n, E) (qV K) 89 [(0, vR 81), (1, vI l1_3), (2, vI r_5), (3, vI r_7), (4, vI l4_9)] [] E n M_10 := by
      intro hk
      have hz := Z_neg Bool.false_ne_true (hK_29 _ hk)
      exact hJ_27 _ (Z_some hz)
    refine R_if_lt (pc := 55) 89 (dc k_M_readWish 31 rfl) rfl (fun hc => ?_) (fun hc => ?_)
    · have hz := Z_neg (show ¬ (0 ≤ n32 r_7) from (Int.not_le.mpr hc)) hz
      exact hY_31 (Z_some hz)
    · have hz := Z_pos (show 0 ≤ n32 r_7 from (Int.not_lt.mp hc)) hz
      refine R_aload_n (pc := 58) 0 (dc k_M_readWish 32 rfl) rfl rfl ?_
      refine R_getS (pc := 59) (ci := 10) (k := 28) 101 (dc k_M_readWish 33 rfl) fl_M_74 rfl (lb rfl) (Nat.le_trans (lb rfl) hn) (hE 81 (lb rfl) (lb rfl)) rfl (by decide) rfl ?_
      refine R_iload (pc := 62) 4 (dc k_M_readWish 34 rfl) rfl ?_
      obtain ⟨⟨hg_33, hg_34⟩, hz⟩ := Z_chk hz
      refine R_iald (pc := 64) (dc k_M_readWish 35 rfl) rfl (lb rfl) (Nat.le_trans (lb rfl) hn) hg_33 hg_34 ?_
      refine R_iload_n (pc := 65) 2 (dc k_M_readWish 36 rfl) rfl rfl ?_
      refine R_icmp_ne (pc := 66) 89 (dc k_M_readWish 37 rfl) rfl (fun hc => ?_) (fun hc => ?_)
      · have hz := Z_neg (show ¬ (n32 (M_10 101 (Int.toNat l4_9)) = n32 r_5) from hc) hz
        exact hY_31 (Z_some hz)
      · have hz := Z_pos (show n32 (M_10 101 (Int.toNat l4_9)) = n32 r_5 from (Decidable.not_not.mp hc)) hz
        refine R_aload_n (pc := 69) 0 (dc k_M_readWish 38 rfl) rfl rfl ?_
        refine R_getS (pc := 70) (ci := 10) (k := 29) 102 (dc k_M_readWish 39 rfl) fl_M_77 rfl (lb rfl) (Nat.le_trans (lb rfl) hn) (hE 81 (lb rfl) (lb rfl)) rfl (by decide) rfl ?_
        refine R_iload (pc := 73) 4 (dc k_M_readWish 40 rfl) rfl ?_
        refine R_iald (pc := 75) (dc k_M_readWish 41 rfl) rfl (lb rfl) (Nat.le_trans (lb rfl) hn) hg_33 hg_34 ?_
        refine R_iload_n (pc := 76) 3 (dc k_M_readWish 42 rfl) rfl rfl ?_
        refine R_icmp_ne (pc := 77) 89 (dc k_M_readWish 43 rfl) rfl (fun hc => ?_) (fun hc => ?_)
        · have hz := Z_neg (show ¬ (n32 (M_10 102 (Int.toNat l4_9)) = n32 r_7) from hc) hz
          exact hY_31 (Z_some hz)
        · have hz := Z_pos (show n32 (M_10 102 (Int.toNat l4_9)) = n32 r_7 from (Decidable.not_not.mp hc)) hz
          exact hX_30 (Z_some hz)
  have hY_21 : K_18 false → Rr y_M_readWish (4, 89, n, n, E) (qV K) 95 [(0, vR 81), (1, vI l1_3), (2, vI r_5), (3, vI r_7), (4, vI l4_9)] [] E n M_10 := by
    intro hk
    have hz := Z_neg Bool.false_ne_true (hK_19 _ hk)
    refine R_sub [0, 1, 2, 3] rfl ?_
    exact hX_13 _ (hB_16 _ (Z_some hz))
  refine R_icmp_ge (pc := 44) 95 (dc k_M_readWish 26 rfl) rfl (fun hc => ?_) (fun hc => ?_)
  · have hz := Z_neg (show ¬ (n32 l4_9 < n32 l1_3) from (Int.not_lt.mpr hc)) hz
    exact hY_21 (Z_some hz)
  · have hz := Z_pos (show n32 l4_9 < n32 l1_3 from (Int.not_le.mp hc)) hz
    refine R_aload_n (pc := 47) 0 (dc k_M_readWish 27 rfl) rfl rfl ?_
    refine R_cVP (pc := 48)  (As := []) (S := []) ck_M_278 (dc k_M_readWish 28 rfl) ⟨rfl, ⟨_, rfl, rfl⟩, (lb rfl), (Nat.le_trans (lb rfl) hn)⟩ (lb rfl) (lb rfl) (lb rfl) rfl (ct_M_isGood hE hn (Z_bind hz)) (fun r_23 hz => ?_)
    refine R_if_eq (pc := 51) 95 (dc k_M_readWish 29 rfl) rfl (fun hc => ?_) (fun hc => ?_)
    · have hz := Z_neg (show ¬ (¬ n32 r_23 = 0) from (fun z => z hc)) hz
      exact hY_21 (Z_some hz)
    · have hz := Z_pos (show ¬ n32 r_23 = 0 from hc) hz
      exact hX_20 (Z_some hz)

set_option maxRecDepth 20000 in
theorem ct_M_readLaw {E : Nat → Bool} {n : Nat} (hE : ∀ c, 81 ≤ c → c ≤ 138 → E c = true) (hn : 138 ≤ n) {M : Mem} {K : Mem → Prop} (hz : Z (M_readLaw M) K) : Mt y_M_readLaw (6, 133, n, n, E) E [vR 81] M (qV K) := by
  refine Mt.of (by decide) (lb rfl) (Nat.le_refl _) rfl ?_
  rw [M_readLaw] at hz
  show Rr y_M_readLaw (6, 133, n, n, E) (qV K) 0 [(0, vR 81)] [] E n M
  refine R_bipush (pc := 0) (a := 17) (dc k_M_readLaw 0 rfl) (by decide) ?_
  refine R_aload_n (pc := 2) 0 (dc k_M_readLaw 1 rfl) rfl rfl ?_
  refine R_getI (pc := 3) (ci := 10) (k := 39) (dc k_M_readLaw 2 rfl) fl_M_295 rfl (lb rfl) (Nat.le_trans (lb rfl) hn) rfl (Or.inl rfl) ?_
  refine R_imul (pc := 6) (dc k_M_readLaw 3 rfl) ?_
  refine R_bipush (pc := 7) (a := 16) (dc k_M_readLaw 4 rfl) (by decide) ?_
  refine R_iadd (pc := 9) (dc k_M_readLaw 5 rfl) ?_
  obtain ⟨l1_1, hl1_1, hz⟩ := Z_lt hz
  refine R_istore_nE (pc := 10) (L' := [(1, vI l1_1), (0, vR 81)]) (dc k_M_readLaw 6 rfl) rfl (lb rfl) hl1_1 rfl ?_
  refine R_aload_n (pc := 11) 1 (dc k_M_readLaw 7 rfl) rfl rfl ?_
  refine R_getS (pc := 12) (ci := 10) (k := 31) 104 (dc k_M_readLaw 8 rfl) fl_M_83 rfl (lb rfl) (Nat.le_trans (lb rfl) hn) (hE 81 (lb rfl) (lb rfl)) rfl (by decide) rfl ?_
  refine R_iload_n (pc := 15) 0 (dc k_M_readLaw 9 rfl) rfl rfl ?_
  refine R_aload_n (pc := 16) 1 (dc k_M_readLaw 10 rfl) rfl rfl ?_
  refine R_getI (pc := 17) (ci := 10) (k := 40) (dc k_M_readLaw 11 rfl) fl_M_298 rfl (lb rfl) (Nat.le_trans (lb rfl) hn) rfl (Or.inl rfl) ?_
  obtain ⟨⟨hg_2, hg_3⟩, hz⟩ := Z_chk hz
  obtain ⟨M_4, hM_4, hz⟩ := Z_lt hz
  refine R_iastE (pc := 20) (dc k_M_readLaw 12 rfl) rfl (lb rfl) (Nat.le_trans (lb rfl) hn) hg_2 hg_3 hM_4 ?_
  refine R_aload_n (pc := 21) 1 (dc k_M_readLaw 13 rfl) rfl rfl ?_
  refine R_iconst (pc := 22) (a := 1) (dc k_M_readLaw 14 rfl) ?_
  obtain ⟨M_5, hM_5, hz⟩ := Z_lt hz
  refine R_putZE (pc := 23) (ci := 10) (k := 43) (dc k_M_readLaw 15 rfl) fl_M_368 rfl (lb rfl) (Nat.le_trans (lb rfl) hn) rfl rfl rfl (Or.inr rfl) hM_5 ?_
  refine R_aload_n (pc := 26) 1 (dc k_M_readLaw 16 rfl) rfl rfl ?_
  refine R_cVV (pc := 27)  (As := []) (S := []) ck_M_378 (dc k_M_readLaw 17 rfl) ⟨rfl, ⟨_, rfl, rfl⟩, (lb rfl), (Nat.le_trans (lb rfl) hn)⟩ (lb rfl) (lb rfl) (lb rfl) rfl (ct_M_e hE hn (Z_bind hz)) (fun M_6 hz => ?_)
  refine R_aload_n (pc := 30) 1 (dc k_M_readLaw 18 rfl) rfl rfl ?_
  refine R_getS (pc := 31) (ci := 10) (k := 32) 105 (dc k_M_readLaw 19 rfl) fl_M_86 rfl (lb rfl) (Nat.le_trans (lb rfl) hn) (hE 81 (lb rfl) (lb rfl)) rfl (by decide) rfl ?_
  refine R_iload_n (pc := 34) 0 (dc k_M_readLaw 20 rfl) rfl rfl ?_
  refine R_aload_n (pc := 35) 1 (dc k_M_readLaw 21 rfl) rfl rfl ?_
  refine R_getI (pc := 36) (ci := 10) (k := 40) (dc k_M_readLaw 22 rfl) fl_M_298 rfl (lb rfl) (Nat.le_trans (lb rfl) hn) rfl (Or.inl rfl) ?_
  obtain ⟨M_7, hM_7, hz⟩ := Z_lt hz
  refine R_iastE (pc := 39) (dc k_M_readLaw 23 rfl) rfl (lb rfl) (Nat.le_trans (lb rfl) hn) hg_2 hg_3 hM_7 ?_
  refine R_aload_n (pc := 40) 1 (dc k_M_readLaw 24 rfl) rfl rfl ?_
  refine R_getS (pc := 41) (ci := 10) (k := 18) 91 (dc k_M_readLaw 25 rfl) fl_M_42 rfl (lb rfl) (Nat.le_trans (lb rfl) hn) (hE 81 (lb rfl) (lb rfl)) rfl (by decide) rfl ?_
  refine R_aload_n (pc := 44) 1 (dc k_M_readLaw 26 rfl) rfl rfl ?_
  refine R_getI (pc := 45) (ci := 10) (k := 39) (dc k_M_readLaw 27 rfl) fl_M_295 rfl (lb rfl) (Nat.le_trans (lb rfl) hn) rfl (Or.inl rfl) ?_
  refine R_iconst (pc := 48) (a := 1) (dc k_M_readLaw 28 rfl) ?_
  obtain ⟨⟨hg_8, hg_9⟩, hz⟩ := Z_chk hz
  obtain ⟨M_10, hM_10, hz⟩ := Z_lt hz
  refine R_zastE (pc := 49) (dc k_M_readLaw 29 rfl) rfl (lb rfl) (Nat.le_trans (lb rfl) hn) hg_8 hg_9 (Or.inr rfl) hM_10 ?_
  exact R_vret (pc := 50) (dc k_M_readLaw 30 rfl) rfl rfl rfl ⟨rfl, (Z_some hz)⟩

set_option maxRecDepth 20000 in
theorem ct_M_readLine {E : Nat → Bool} {n : Nat} (hE : ∀ c, 81 ≤ c → c ≤ 138 → E c = true) (hn : 138 ≤ n) {M : Mem} {K : Mem → Prop} (hz : Z (M_readLine M) K) : Mt y_M_readLine (7, 155, n, n, E) E [vR 81] M (qV K) := by
  refine Mt.of (by decide) (lb rfl) (Nat.le_refl _) rfl ?_
  rw [M_readLine] at hz
  show Rr y_M_readLine (7, 155, n, n, E) (qV K) 0 [(0, vR 81)] [] E n M
  refine R_aload_n (pc := 0) 0 (dc k_M_readLine 0 rfl) rfl rfl ?_
  refine R_getJ (pc := 1) (ci := 10) (k := 10) (dc k_M_readLine 1 rfl) fl_M_257 rfl (lb rfl) (Nat.le_trans (lb rfl) hn) rfl rfl ?_
  obtain ⟨l1_1, hl1_1, hz⟩ := Z_lt hz
  refine R_lstore_nE (pc := 4) (L' := [(1, vJ l1_1), (0, vR 81)]) (dc k_M_readLine 2 rfl) rfl (lb rfl) hl1_1 rfl ?_
  refine R_aload_n (pc := 5) 1 (dc k_M_readLine 3 rfl) rfl rfl ?_
  refine R_getI (pc := 6) (ci := 10) (k := 8) (dc k_M_readLine 4 rfl) fl_M_250 rfl (lb rfl) (Nat.le_trans (lb rfl) hn) rfl (Or.inl rfl) ?_
  refine R_iconst (pc := 9) (a := 3) (dc k_M_readLine 5 rfl) ?_
  obtain ⟨K_3, hK_4, hz⟩ := Z_cut hz
  have hJ_5 : ∀ (M_2 : Mem), K_3 M_2 → Rr y_M_readLine (7, 155, n, n, E) (qV K) 24 [(0, vR 81), (1, vJ l1_1)] [] E n M_2 := by
    intro M_2 hk
    have hz := hK_4 _ hk
    refine R_aload_n (pc := 24) 0 (dc k_M_readLine 12 rfl) rfl rfl ?_
    refine R_cVP (pc := 25)  (As := []) (S := []) ck_M_278 (dc k_M_readLine 13 rfl) ⟨rfl, ⟨_, rfl, rfl⟩, (lb rfl), (Nat.le_trans (lb rfl) hn)⟩ (lb rfl) (lb rfl) (lb rfl) rfl (ct_M_isGood hE hn (Z_bind hz)) (fun r_13 hz => ?_)
    refine R_if_ne (pc := 28) 32 (dc k_M_readLine 14 rfl) rfl (fun hc => ?_) (fun hc => ?_)
    · have hz := Z_neg (show ¬ (n32 r_13 = 0) from hc) hz
      refine R_aload_n (pc := 32) 0 (dc k_M_readLine 16 rfl) rfl rfl ?_
      refine R_cVV (pc := 33)  (As := []) (S := []) ck_M_282 (dc k_M_readLine 17 rfl) ⟨rfl, ⟨_, rfl, rfl⟩, (lb rfl), (Nat.le_trans (lb rfl) hn)⟩ (lb rfl) (lb rfl) (lb rfl) rfl (ct_M_goOn hE hn (Z_bind hz)) (fun M_14 hz => ?_)
      refine R_lload_n (pc := 36) 1 (dc k_M_readLine 18 rfl) rfl rfl ?_
      refine R_ldc2 (pc := 37) (a := 1717658484) (dc k_M_readLine 19 rfl) c_M_200 ?_
      refine R_lcmp (pc := 40) (dc k_M_readLine 20 rfl) ?_
      obtain ⟨K_16, hK_17, hz⟩ := Z_cut hz
      have hJ_18 : ∀ (M_15 : Mem), K_16 M_15 → Rr y_M_readLine (7, 155, n, n, E) (qV K) 48 [(0, vR 81), (1, vJ l1_1)] [] E n M_15 := by
        intro M_15 hk
        have hz := hK_17 _ hk
        refine R_lload_n (pc := 48) 1 (dc k_M_readLine 24 rfl) rfl rfl ?_
        refine R_ldc2 (pc := 49) (a := 123581014175598) (dc k_M_readLine 25 rfl) c_M_202 ?_
        refine R_lcmp (pc := 52) (dc k_M_readLine 26 rfl) ?_
        obtain ⟨K_22, hK_23, hz⟩ := Z_cut hz
        have hJ_24 : ∀ (M_21 : Mem), K_22 M_21 → Rr y_M_readLine (7, 155, n, n, E) (qV K) 60 [(0, vR 81), (1, vJ l1_1)] [] E n M_21 := by
          intro M_21 hk
          have hz := hK_23 _ hk
          refine R_lload_n (pc := 60) 1 (dc k_M_readLine 30 rfl) rfl rfl ?_
          refine R_ldc2 (pc := 61) (a := 7499639) (dc k_M_readLine 31 rfl) c_M_208 ?_
          refine R_lcmp (pc := 64) (dc k_M_readLine 32 rfl) ?_
          obtain ⟨K_28, hK_29, hz⟩ := Z_cut hz
          have hJ_30 : ∀ (M_27 : Mem), K_28 M_27 → Rr y_M_readLine (7, 155, n, n, E) (qV K) 72 [(0, vR 81), (1, vJ l1_1)] [] E n M_27 := by
            intro M_27 hk
            have hz := hK_29 _ hk
            refine R_lload_n (pc := 72) 1 (dc k_M_readLine 36 rfl) rfl rfl ?_
            refine R_ldc2 (pc := 73) (a := 107118487239027) (dc k_M_readLine 37 rfl) c_M_210 ?_
            refine R_lcmp (pc := 76) (dc k_M_readLine 38 rfl) ?_
            obtain ⟨K_34, hK_35, hz⟩ := Z_cut hz
            have hJ_36 : ∀ (M_33 : Mem), K_34 M_33 → Rr y_M_readLine (7, 155, n, n, E) (qV K) 84 [(0, vR 81), (1, vJ l1_1)] [] E n M_33 := by
              intro M_33 hk
              have hz := hK_35 _ hk
              refine R_lload_n (pc := 84) 1 (dc k_M_readLine 42 rfl) rfl rfl ?_
              refine R_ldc2 (pc := 85) (a := 7629157) (dc k_M_readLine 43 rfl) c_M_212 ?_
              refine R_lcmp (pc := 88) (dc k_M_readLine 44 rfl) ?_
              obtain ⟨K_40, hK_41, hz⟩ := Z_cut hz
              have hJ_42 : ∀ (M_39 : Mem), K_40 M_39 → Rr y_M_readLine (7, 155, n, n, E) (qV K) 96 [(0, vR 81), (1, vJ l1_1)] [] E n M_39 := by
                intro M_39 hk
                have hz := hK_41 _ hk
                refine R_lload_n (pc := 96) 1 (dc k_M_readLine 48 rfl) rfl rfl ?_
                refine R_ldc2 (pc := 97) (a := 2003399528) (dc k_M_readLine 49 rfl) c_M_216 ?_
                refine R_lcmp (pc := 100) (dc k_M_readLine 50 rfl) ?_
                obtain ⟨K_46, hK_47, hz⟩ := Z_cut hz
                have hJ_48 : ∀ (M_45 : Mem), K_46 M_45 → Rr y_M_readLine (7, 155, n, n, E) (qV K) 108 [(0, vR 81), (1, vJ l1_1)] [] E n M_45 := by
                  intro M_45 hk
                  have hz := hK_47 _ hk
                  refine R_lload_n (pc := 108) 1 (dc k_M_readLine 54 rfl) rfl rfl ?_
                  refine R_ldc2 (pc := 109) (a := 7102839) (dc k_M_readLine 55 rfl) c_M_220 ?_
                  refine R_lcmp (pc := 112) (dc k_M_readLine 56 rfl) ?_
                  obtain ⟨K_52, hK_53, hz⟩ := Z_cut hz
                  have hJ_54 : ∀ (M_51 : Mem), K_52 M_51 → Rr y_M_readLine (7, 155, n, n, E) (qV K) 120 [(0, vR 81)] [] E n M_51 := by
                    intro M_51 hk
                    have hz := hK_53 _ hk
                    refine R_aload_n (pc := 120) 0 (dc k_M_readLine 60 rfl) rfl rfl ?_
                    refine R_aload_n (pc := 121) 0 (dc k_M_readLine 61 rfl) rfl rfl ?_
                    refine R_bipush (pc := 122) (a := 59) (dc k_M_readLine 62 rfl) (by decide) ?_
                    refine R_cVP (pc := 124)  (As := [vI 59]) (S := [vR 81]) ck_M_341 (dc k_M_readLine 63 rfl) ⟨rfl, ⟨_, rfl, rfl⟩, (lb rfl), (Nat.le_trans (lb rfl) hn)⟩ (lb rfl) (lb rfl) (lb rfl) rfl (ct_M_stands hE hn (Z_bind hz)) (fun r_57 hz => ?_)
                    refine R_cVV (pc := 127)  (As := [vI r_57]) (S := []) ck_M_291 (dc k_M_readLine 64 rfl) ⟨rfl, ⟨_, rfl, rfl⟩, (lb rfl), (Nat.le_trans (lb rfl) hn)⟩ (lb rfl) (lb rfl) (lb rfl) rfl (ct_M_must hE hn (Z_bind hz)) (fun M_58 hz => ?_)
                    exact R_vret (pc := 130) (dc k_M_readLine 65 rfl) rfl rfl rfl ⟨rfl, (Z_some hz)⟩
                  refine R_if_ne (pc := 113) 120 (dc k_M_readLine 57 rfl) rfl (fun hc => ?_) (fun hc => ?_)
                  · have hz := Z_neg (show ¬ (n64 l1_1 = n64 7102839) from (fun z => hc (jcmp_eq.mpr z))) hz
                    refine R_sub [0] rfl ?_
                    exact hJ_54 _ (Z_some hz)
                  · have hz := Z_pos (show n64 l1_1 = n64 7102839 from (jcmp_eq.mp (Decidable.not_not.mp hc))) hz
                    refine R_aload_n (pc := 116) 0 (dc k_M_readLine 58 rfl) rfl rfl ?_
                    refine R_cVV (pc := 117)  (As := []) (S := []) ck_M_338 (dc k_M_readLine 59 rfl) ⟨rfl, ⟨_, rfl, rfl⟩, (lb rfl), (Nat.le_trans (lb rfl) hn)⟩ (lb rfl) (lb rfl) (lb rfl) rfl (ct_M_readLaw hE hn (Z_bind hz)) (fun M_55 hz => ?_)
                    refine R_sub [0] rfl ?_
                    exact hJ_54 _ (Z_some hz)
                refine R_if_ne (pc := 101) 108 (dc k_M_readLine 51 rfl) rfl (fun hc => ?_) (fun hc => ?_)
                · have hz := Z_neg (show ¬ (n64 l1_1 = n64 2003399528) from (fun z => hc (jcmp_eq.mpr z))) hz
                  exact hJ_48 _ (Z_some hz)
                · have hz := Z_pos (show n64 l1_1 = n64 2003399528 from (jcmp_eq.mp (Decidable.not_not.mp hc))) hz
                  refine R_aload_n (pc := 104) 0 (dc k_M_readLine 52 rfl) rfl rfl ?_
                  refine R_cVV (pc := 105)  (As := []) (S := []) ck_M_335 (dc k_M_readLine 53 rfl) ⟨rfl, ⟨_, rfl, rfl⟩, (lb rfl), (Nat.le_trans (lb rfl) hn)⟩ (lb rfl) (lb rfl) (lb rfl) rfl (ct_M_readWish hE hn (Z_bind hz)) (fun M_49 hz => ?_)
                  exact hJ_48 _ (Z_some hz)
              refine R_if_ne (pc := 89) 96 (dc k_M_readLine 45 rfl) rfl (fun hc => ?_) (fun hc => ?_)
              · have hz := Z_neg (show ¬ (n64 l1_1 = n64 7629157) from (fun z => hc (jcmp_eq.mpr z))) hz
                exact hJ_42 _ (Z_some hz)
              · have hz := Z_pos (show n64 l1_1 = n64 7629157 from (jcmp_eq.mp (Decidable.not_not.mp hc))) hz
                refine R_aload_n (pc := 92) 0 (dc k_M_readLine 46 rfl) rfl rfl ?_
                refine R_cVV (pc := 93)  (As := []) (S := []) ck_M_332 (dc k_M_readLine 47 rfl) ⟨rfl, ⟨_, rfl, rfl⟩, (lb rfl), (Nat.le_trans (lb rfl) hn)⟩ (lb rfl) (lb rfl) (lb rfl) rfl (ct_M_readTie hE hn (Z_bind hz)) (fun M_43 hz => ?_)
                exact hJ_42 _ (Z_some hz)
            refine R_if_ne (pc := 77) 84 (dc k_M_readLine 39 rfl) rfl (fun hc => ?_) (fun hc => ?_)
            · have hz := Z_neg (show ¬ (n64 l1_1 = n64 107118487239027) from (fun z => hc (jcmp_eq.mpr z))) hz
              exact hJ_36 _ (Z_some hz)
            · have hz := Z_pos (show n64 l1_1 = n64 107118487239027 from (jcmp_eq.mp (Decidable.not_not.mp hc))) hz
              refine R_aload_n (pc := 80) 0 (dc k_M_readLine 40 rfl) rfl rfl ?_
              refine R_cVV (pc := 81)  (As := []) (S := []) ck_M_329 (dc k_M_readLine 41 rfl) ⟨rfl, ⟨_, rfl, rfl⟩, (lb rfl), (Nat.le_trans (lb rfl) hn)⟩ (lb rfl) (lb rfl) (lb rfl) rfl (ct_M_readAlways hE hn (Z_bind hz)) (fun M_37 hz => ?_)
              exact hJ_36 _ (Z_some hz)
          refine R_if_ne (pc := 65) 72 (dc k_M_readLine 33 rfl) rfl (fun hc => ?_) (fun hc => ?_)
          · have hz := Z_neg (show ¬ (n64 l1_1 = n64 7499639) from (fun z => hc (jcmp_eq.mpr z))) hz
            exact hJ_30 _ (Z_some hz)
          · have hz := Z_pos (show n64 l1_1 = n64 7499639 from (jcmp_eq.mp (Decidable.not_not.mp hc))) hz
            refine R_aload_n (pc := 68) 0 (dc k_M_readLine 34 rfl) rfl rfl ?_
            refine R_cVV (pc := 69)  (As := []) (S := []) ck_M_326 (dc k_M_readLine 35 rfl) ⟨rfl, ⟨_, rfl, rfl⟩, (lb rfl), (Nat.le_trans (lb rfl) hn)⟩ (lb rfl) (lb rfl) (lb rfl) rfl (ct_M_readRow hE hn (Z_bind hz)) (fun M_31 hz => ?_)
            exact hJ_30 _ (Z_some hz)
        refine R_if_ne (pc := 53) 60 (dc k_M_readLine 27 rfl) rfl (fun hc => ?_) (fun hc => ?_)
        · have hz := Z_neg (show ¬ (n64 l1_1 = n64 123581014175598) from (fun z => hc (jcmp_eq.mpr z))) hz
          exact hJ_24 _ (Z_some hz)
        · have hz := Z_pos (show n64 l1_1 = n64 123581014175598 from (jcmp_eq.mp (Decidable.not_not.mp hc))) hz
          refine R_aload_n (pc := 56) 0 (dc k_M_readLine 28 rfl) rfl rfl ?_
          refine R_cVV (pc := 57)  (As := []) (S := []) ck_M_323 (dc k_M_readLine 29 rfl) ⟨rfl, ⟨_, rfl, rfl⟩, (lb rfl), (Nat.le_trans (lb rfl) hn)⟩ (lb rfl) (lb rfl) (lb rfl) rfl (ct_M_readPerson hE hn (Z_bind hz)) (fun M_25 hz => ?_)
          exact hJ_24 _ (Z_some hz)
      refine R_if_ne (pc := 41) 48 (dc k_M_readLine 21 rfl) rfl (fun hc => ?_) (fun hc => ?_)
      · have hz := Z_neg (show ¬ (n64 l1_1 = n64 1717658484) from (fun z => hc (jcmp_eq.mpr z))) hz
        exact hJ_18 _ (Z_some hz)
      · have hz := Z_pos (show n64 l1_1 = n64 1717658484 from (jcmp_eq.mp (Decidable.not_not.mp hc))) hz
        refine R_aload_n (pc := 44) 0 (dc k_M_readLine 22 rfl) rfl rfl ?_
        refine R_cVV (pc := 45)  (As := []) (S := []) ck_M_320 (dc k_M_readLine 23 rfl) ⟨rfl, ⟨_, rfl, rfl⟩, (lb rfl), (Nat.le_trans (lb rfl) hn)⟩ (lb rfl) (lb rfl) (lb rfl) rfl (ct_M_readFact hE hn (Z_bind hz)) (fun M_19 hz => ?_)
        exact hJ_18 _ (Z_some hz)
    · have hz := Z_pos (show n32 r_13 = 0 from (Decidable.not_not.mp hc)) hz
      exact R_vret (pc := 31) (dc k_M_readLine 15 rfl) rfl rfl rfl ⟨rfl, (Z_some hz)⟩
  obtain ⟨K_6, hK_7, hz⟩ := Z_cut hz
  have hX_8 : K_6 true → Rr y_M_readLine (7, 155, n, n, E) (qV K) 20 [(1, vJ l1_1), (0, vR 81)] [] E n M := by
    intro hk
    have hz := Z_pos rfl (hK_7 _ hk)
    refine R_aload_n (pc := 20) 1 (dc k_M_readLine 10 rfl) rfl rfl ?_
    refine R_cVV (pc := 21)  (As := []) (S := []) ck_M_285 (dc k_M_readLine 11 rfl) ⟨rfl, ⟨_, rfl, rfl⟩, (lb rfl), (Nat.le_trans (lb rfl) hn)⟩ (lb rfl) (lb rfl) (lb rfl) rfl (ct_M_misplaced hE hn (Z_bind hz)) (fun M_12 hz => ?_)
    refine R_sub [1, 0] rfl ?_
    exact hJ_5 _ (Z_some hz)
  have hY_9 : K_6 false → Rr y_M_readLine (7, 155, n, n, E) (qV K) 24 [(1, vJ l1_1), (0, vR 81)] [] E n M := by
    intro hk
    have hz := Z_neg Bool.false_ne_true (hK_7 _ hk)
    refine R_sub [1, 0] rfl ?_
    exact hJ_5 _ (Z_some hz)
  refine R_icmp_ne (pc := 10) 20 (dc k_M_readLine 6 rfl) rfl (fun hc => ?_) (fun hc => ?_)
  · have hz := Z_neg (show ¬ (n32 (M 81 8) = 3) from hc) hz
    exact hX_8 (Z_some hz)
  · have hz := Z_pos (show n32 (M 81 8) = 3 from (Decidable.not_not.mp hc)) hz
    refine R_aload_n (pc := 13) 1 (dc k_M_readLine 7 rfl) rfl rfl ?_
    refine R_cVP (pc := 14)  (As := []) (S := []) ck_M_317 (dc k_M_readLine 8 rfl) ⟨rfl, ⟨_, rfl, rfl⟩, (lb rfl), (Nat.le_trans (lb rfl) hn)⟩ (lb rfl) (lb rfl) (lb rfl) rfl (ct_M_isFull hE hn (Z_bind hz)) (fun r_11 hz => ?_)
    refine R_if_eq (pc := 17) 24 (dc k_M_readLine 9 rfl) rfl (fun hc => ?_) (fun hc => ?_)
    · have hz := Z_neg (show ¬ (¬ n32 r_11 = 0) from (fun z => z hc)) hz
      exact hY_9 (Z_some hz)
    · have hz := Z_pos (show ¬ n32 r_11 = 0 from hc) hz
      exact hX_8 (Z_some hz)

set_option maxRecDepth 20000 in
theorem ct_M_baseMany {E : Nat → Bool} {n : Nat} (hE : ∀ c, 81 ≤ c → c ≤ 138 → E c = true) (hn : 138 ≤ n) {M : Mem} {K : Int → Prop} (hz : Z (M_baseMany M) K) : Mt y_M_baseMany (2, 40, n, n, E) E [vR 81] M (qP M K) := by
  refine Mt.of (by decide) (lb rfl) (Nat.le_refl _) rfl ?_
  rw [M_baseMany] at hz
  show Rr y_M_baseMany (2, 40, n, n, E) (qP M K) 0 [(0, vR 81)] [] E n M
  refine R_iconst (pc := 0) (a := 0) (dc k_M_baseMany 0 rfl) ?_
  refine R_istore_n (pc := 1) (L' := [(1, vI 0), (0, vR 81)]) (dc k_M_baseMany 1 rfl) rfl (lb rfl) rfl ?_
  refine R_iconst (pc := 2) (a := 0) (dc k_M_baseMany 2 rfl) ?_
  refine R_istore_n (pc := 3) (L' := [(2, vI 0), (1, vI 0), (0, vR 81)]) (dc k_M_baseMany 3 rfl) rfl (lb rfl) rfl ?_
  obtain ⟨K_3, hK_4, hz⟩ := Z_cut hz
  have hX_5 : ∀ (l1_9 : Int), K_3 l1_9 → Rr y_M_baseMany (2, 40, n, n, E) (qP M K) 35 [(1, vI l1_9)] [] E n M := by
    intro l1_9 hk
    have hz := hK_4 _ hk
    refine R_iload_n (pc := 35) 0 (dc k_M_baseMany 21 rfl) rfl rfl ?_
    exact R_iret (pc := 36) (dc k_M_baseMany 22 rfl) rfl rfl rfl ⟨_, rfl, rfl, (Z_some hz)⟩
  refine R_sub [2, 1, 0] rfl ?_
  refine it_R (C := fun aZ : Int × Int => Rr y_M_baseMany (2, 40, n, n, E) (qP M K) 4 [(0, vR 81), (1, vI aZ.1), (2, vI aZ.2)] [] E n M) (fun aZ K_6 hC_7 hB_8 hz => ?_) FUEL (0, 0) hz
  obtain ⟨l1_1, l2_2⟩ := aZ
  rw [M_baseMany_b4] at hz
  show Rr y_M_baseMany (2, 40, n, n, E) (qP M K) 4 [(0, vR 81), (1, vI l1_1), (2, vI l2_2)] [] E n M
  refine R_iload_n (pc := 4) 2 (dc k_M_baseMany 4 rfl) rfl rfl ?_
  refine R_aload_n (pc := 5) 0 (dc k_M_baseMany 5 rfl) rfl rfl ?_
  refine R_cVP (pc := 6)  (As := []) (S := [vI l2_2]) ck_M_427 (dc k_M_baseMany 6 rfl) ⟨rfl, ⟨_, rfl, rfl⟩, (lb rfl), (Nat.le_trans (lb rfl) hn)⟩ (lb rfl) (lb rfl) (lb rfl) rfl (ct_M_worldMany hE hn (Z_bind hz)) (fun r_10 hz => ?_)
  refine R_icmp_ge (pc := 9) 35 (dc k_M_baseMany 7 rfl) rfl (fun hc => ?_) (fun hc => ?_)
  · have hz := Z_neg (show ¬ (n32 l2_2 < n32 r_10) from (Int.not_lt.mpr hc)) hz
    refine R_sub [1] rfl ?_
    exact hX_5 _ (hB_8 _ (Z_some hz))
  · have hz := Z_pos (show n32 l2_2 < n32 r_10 from (Int.not_le.mp hc)) hz
    refine R_iload_n (pc := 12) 1 (dc k_M_baseMany 8 rfl) rfl rfl ?_
    refine R_aload_n (pc := 13) 0 (dc k_M_baseMany 9 rfl) rfl rfl ?_
    refine R_getS (pc := 14) (ci := 10) (k := 46) 111 (dc k_M_baseMany 10 rfl) fl_M_104 rfl (lb rfl) (Nat.le_trans (lb rfl) hn) (hE 81 (lb rfl) (lb rfl)) rfl (by decide) rfl ?_
    refine R_iload_n (pc := 17) 2 (dc k_M_baseMany 11 rfl) rfl rfl ?_
    obtain ⟨⟨hg_11, hg_12⟩, hz⟩ := Z_chk hz
    refine R_zald (pc := 18) (dc k_M_baseMany 12 rfl) rfl (lb rfl) (Nat.le_trans (lb rfl) hn) hg_11 hg_12 ?_
    obtain ⟨K_14, hK_15, hz⟩ := Z_cut hz
    have hJ_16 : ∀ (v_13 : Int), K_14 v_13 → Rr y_M_baseMany (2, 40, n, n, E) (qP M K) 27 [(0, vR 81), (2, vI l2_2)] [vI v_13, vI l1_1] E n M := by
      intro v_13 hk
      have hz := hK_15 _ hk
      refine R_iadd (pc := 27) (dc k_M_baseMany 17 rfl) ?_
      obtain ⟨l1_18, hl1_18, hz⟩ := Z_lt hz
      refine R_istore_nE (pc := 28) (L' := [(1, vI l1_18), (0, vR 81), (2, vI l2_2)]) (dc k_M_baseMany 18 rfl) rfl (lb rfl) hl1_18 rfl ?_
      obtain ⟨l2_19, hl2_19, hz⟩ := Z_lt hz
      refine R_iincE (pc := 29) (L' := [(2, vI l2_19), (1, vI l1_18), (0, vR 81)]) 2 (dc k_M_baseMany 19 rfl) rfl (lb rfl) hl2_19 rfl ?_
      refine R_goto (pc := 32) 4 (dc k_M_baseMany 20 rfl) rfl ?_
      refine R_sub [2, 1, 0] rfl ?_
      exact hC_7 _ (Z_some hz)
    refine R_if_eq (pc := 19) 26 (dc k_M_baseMany 13 rfl) rfl (fun hc => ?_) (fun hc => ?_)
    · have hz := Z_neg (show ¬ (¬ n32 (M 111 (Int.toNat l2_2)) = 0) from (fun z => z hc)) hz
      refine R_iconst (pc := 26) (a := 0) (dc k_M_baseMany 16 rfl) ?_
      refine R_sub [0, 2] rfl ?_
      exact hJ_16 _ (Z_some hz)
    · have hz := Z_pos (show ¬ n32 (M 111 (Int.toNat l2_2)) = 0 from hc) hz
      refine R_iconst (pc := 22) (a := 1) (dc k_M_baseMany 14 rfl) ?_
      refine R_goto (pc := 23) 27 (dc k_M_baseMany 15 rfl) rfl ?_
      refine R_sub [0, 2] rfl ?_
      exact hJ_16 _ (Z_some hz)

set_option maxRecDepth 20000 in
theorem ct_M_town {E : Nat → Bool} {n : Nat} (hE : ∀ c, 81 ≤ c → c ≤ 138 → E c = true) (hn : 138 ≤ n) {M : Mem} {K : Int × Mem → Prop} (hz : Z (M_town M) K) : Mt y_M_town (8, 177, n, n, E) E [vR 81] M (qM K) := by
  refine Mt.of (by decide) (lb rfl) (Nat.le_refl _) rfl ?_
  rw [M_town] at hz
  show Rr y_M_town (8, 177, n, n, E) (qM K) 0 [(0, vR 81)] [] E n M
  refine R_aload_n (pc := 0) 0 (dc k_M_town 0 rfl) rfl rfl ?_
  refine R_iconst (pc := 1) (a := 0) (dc k_M_town 1 rfl) ?_
  obtain ⟨M_1, hM_1, hz⟩ := Z_lt hz
  refine R_putIE (pc := 2) (ci := 10) (k := 4) (dc k_M_town 2 rfl) fl_M_197 rfl (lb rfl) (Nat.le_trans (lb rfl) hn) rfl rfl rfl hM_1 ?_
  refine R_aload_n (pc := 5) 0 (dc k_M_town 3 rfl) rfl rfl ?_
  refine R_iconst (pc := 6) (a := (-1)) (dc k_M_town 4 rfl) ?_
  obtain ⟨M_2, hM_2, hz⟩ := Z_lt hz
  refine R_putIE (pc := 7) (ci := 10) (k := 5) (dc k_M_town 5 rfl) fl_M_16 rfl (lb rfl) (Nat.le_trans (lb rfl) hn) rfl rfl rfl hM_2 ?_
  refine R_aload_n (pc := 10) 0 (dc k_M_town 6 rfl) rfl rfl ?_
  refine R_aload_n (pc := 11) 0 (dc k_M_town 7 rfl) rfl rfl ?_
  refine R_getI (pc := 12) (ci := 10) (k := 2) (dc k_M_town 8 rfl) fl_M_301 rfl (lb rfl) (Nat.le_trans (lb rfl) hn) rfl (Or.inl rfl) ?_
  obtain ⟨M_3, hM_3, hz⟩ := Z_lt hz
  refine R_putIE (pc := 15) (ci := 10) (k := 3) (dc k_M_town 9 rfl) fl_M_194 rfl (lb rfl) (Nat.le_trans (lb rfl) hn) rfl rfl rfl hM_3 ?_
  refine R_iconst (pc := 18) (a := 0) (dc k_M_town 10 rfl) ?_
  refine R_istore_n (pc := 19) (L' := [(1, vI 0), (0, vR 81)]) (dc k_M_town 11 rfl) rfl (lb rfl) rfl ?_
  obtain ⟨K_6, hK_7, hz⟩ := Z_cut hz
  have hX_8 : ∀ (M_12 : Mem), K_6 M_12 → Rr y_M_town (8, 177, n, n, E) (qM K) 46 [(0, vR 81)] [] E n M_12 := by
    intro M_12 hk
    have hz := hK_7 _ hk
    refine R_aload_n (pc := 46) 0 (dc k_M_town 26 rfl) rfl rfl ?_
    refine R_iconst (pc := 47) (a := 0) (dc k_M_town 27 rfl) ?_
    obtain ⟨M_22, hM_22, hz⟩ := Z_lt hz
    refine R_putIE (pc := 48) (ci := 10) (k := 2) (dc k_M_town 28 rfl) fl_M_301 rfl (lb rfl) (Nat.le_trans (lb rfl) hn) rfl rfl rfl hM_22 ?_
    refine R_aload_n (pc := 51) 0 (dc k_M_town 29 rfl) rfl rfl ?_
    refine R_iconst (pc := 52) (a := 0) (dc k_M_town 30 rfl) ?_
    obtain ⟨M_23, hM_23, hz⟩ := Z_lt hz
    refine R_putIE (pc := 53) (ci := 10) (k := 7) (dc k_M_town 31 rfl) fl_M_240 rfl (lb rfl) (Nat.le_trans (lb rfl) hn) rfl rfl rfl hM_23 ?_
    refine R_aload_n (pc := 56) 0 (dc k_M_town 32 rfl) rfl rfl ?_
    refine R_iconst (pc := 57) (a := 1) (dc k_M_town 33 rfl) ?_
    refine R_aload_n (pc := 58) 0 (dc k_M_town 34 rfl) rfl rfl ?_
    refine R_getI (pc := 59) (ci := 10) (k := 38) (dc k_M_town 35 rfl) fl_M_304 rfl (lb rfl) (Nat.le_trans (lb rfl) hn) rfl (Or.inl rfl) ?_
    refine R_isub (pc := 62) (dc k_M_town 36 rfl) ?_
    obtain ⟨M_24, hM_24, hz⟩ := Z_lt hz
    refine R_putIE (pc := 63) (ci := 10) (k := 39) (dc k_M_town 37 rfl) fl_M_295 rfl (lb rfl) (Nat.le_trans (lb rfl) hn) rfl rfl rfl hM_24 ?_
    refine R_aload_n (pc := 66) 0 (dc k_M_town 38 rfl) rfl rfl ?_
    refine R_cVV (pc := 67)  (As := []) (S := []) ck_M_188 (dc k_M_town 39 rfl) ⟨rfl, ⟨_, rfl, rfl⟩, (lb rfl), (Nat.le_trans (lb rfl) hn)⟩ (lb rfl) (lb rfl) (lb rfl) rfl (ct_M_clearBank hE hn (Z_bind hz)) (fun M_25 hz => ?_)
    refine R_aload_n (pc := 70) 0 (dc k_M_town 40 rfl) rfl rfl ?_
    refine R_cVV (pc := 71)  (As := []) (S := []) ck_M_282 (dc k_M_town 41 rfl) ⟨rfl, ⟨_, rfl, rfl⟩, (lb rfl), (Nat.le_trans (lb rfl) hn)⟩ (lb rfl) (lb rfl) (lb rfl) rfl (ct_M_goOn hE hn (Z_bind hz)) (fun M_26 hz => ?_)
    obtain ⟨K_28, hK_29, hz⟩ := Z_cut hz
    have hX_30 : ∀ (M_34 : Mem), K_28 M_34 → Rr y_M_town (8, 177, n, n, E) (qM K) 95 [(0, vR 81)] [] E n M_34 := by
      intro M_34 hk
      have hz := hK_29 _ hk
      refine R_aload_n (pc := 95) 0 (dc k_M_town 51 rfl) rfl rfl ?_
      refine R_cVP (pc := 96)  (As := []) (S := []) ck_M_278 (dc k_M_town 52 rfl) ⟨rfl, ⟨_, rfl, rfl⟩, (lb rfl), (Nat.le_trans (lb rfl) hn)⟩ (lb rfl) (lb rfl) (lb rfl) rfl (ct_M_isGood hE hn (Z_bind hz)) (fun r_43 hz => ?_)
      refine R_if_ne (pc := 99) 104 (dc k_M_town 53 rfl) rfl (fun hc => ?_) (fun hc => ?_)
      · have hz := Z_neg (show ¬ (n32 r_43 = 0) from hc) hz
        refine R_aload_n (pc := 104) 0 (dc k_M_town 56 rfl) rfl rfl ?_
        refine R_aload_n (pc := 105) 0 (dc k_M_town 57 rfl) rfl rfl ?_
        refine R_getI (pc := 106) (ci := 10) (k := 39) (dc k_M_town 58 rfl) fl_M_295 rfl (lb rfl) (Nat.le_trans (lb rfl) hn) rfl (Or.inl rfl) ?_
        obtain ⟨M_44, hM_44, hz⟩ := Z_lt hz
        refine R_putIE (pc := 109) (ci := 10) (k := 38) (dc k_M_town 59 rfl) fl_M_304 rfl (lb rfl) (Nat.le_trans (lb rfl) hn) rfl rfl rfl hM_44 ?_
        refine R_aload_n (pc := 112) 0 (dc k_M_town 60 rfl) rfl rfl ?_
        refine R_iconst (pc := 113) (a := 0) (dc k_M_town 61 rfl) ?_
        obtain ⟨M_45, hM_45, hz⟩ := Z_lt hz
        refine R_putIE (pc := 114) (ci := 10) (k := 57) (dc k_M_town 62 rfl) fl_M_310 rfl (lb rfl) (Nat.le_trans (lb rfl) hn) rfl rfl rfl hM_45 ?_
        refine R_iconst (pc := 117) (a := 0) (dc k_M_town 63 rfl) ?_
        refine R_istore_n (pc := 118) (L' := [(1, vI 0), (0, vR 81)]) (dc k_M_town 64 rfl) rfl (lb rfl) rfl ?_
        obtain ⟨K_48, hK_49, hz⟩ := Z_cut hz
        have hX_50 : ∀ (M_54 : Mem), K_48 M_54 → Rr y_M_town (8, 177, n, n, E) (qM K) 137 [(0, vR 81)] [] E n M_54 := by
          intro M_54 hk
          have hz := hK_49 _ hk
          refine R_aload_n (pc := 137) 0 (dc k_M_town 75 rfl) rfl rfl ?_
          refine R_cVV (pc := 138)  (As := []) (S := []) ck_M_191 (dc k_M_town 76 rfl) ⟨rfl, ⟨_, rfl, rfl⟩, (lb rfl), (Nat.le_trans (lb rfl) hn)⟩ (lb rfl) (lb rfl) (lb rfl) rfl (ct_M_layWorlds hE hn (Z_bind hz)) (fun M_60 hz => ?_)
          refine R_aload_n (pc := 141) 0 (dc k_M_town 77 rfl) rfl rfl ?_
          refine R_cVP (pc := 142)  (As := []) (S := []) ck_M_313 (dc k_M_town 78 rfl) ⟨rfl, ⟨_, rfl, rfl⟩, (lb rfl), (Nat.le_trans (lb rfl) hn)⟩ (lb rfl) (lb rfl) (lb rfl) rfl (ct_M_baseMany hE hn (Z_bind hz)) (fun r_61 hz => ?_)
          exact R_iret (pc := 145) (dc k_M_town 79 rfl) rfl rfl rfl ⟨_, rfl, (Z_some hz)⟩
        refine R_sub [1, 0] rfl ?_
        refine it_R (C := fun aZ : Int × Mem => Rr y_M_town (8, 177, n, n, E) (qM K) 119 [(0, vR 81), (1, vI aZ.1)] [] E n aZ.2) (fun aZ K_51 hC_52 hB_53 hz => ?_) FUEL (0, M_45) hz
        obtain ⟨l1_46, M_47⟩ := aZ
        rw [M_town_b119] at hz
        show Rr y_M_town (8, 177, n, n, E) (qM K) 119 [(0, vR 81), (1, vI l1_46)] [] E n M_47
        refine R_iload_n (pc := 119) 1 (dc k_M_town 65 rfl) rfl rfl ?_
        refine R_iconst (pc := 120) (a := 3) (dc k_M_town 66 rfl) ?_
        refine R_icmp_ge (pc := 121) 137 (dc k_M_town 67 rfl) rfl (fun hc => ?_) (fun hc => ?_)
        · have hz := Z_neg (show ¬ (n32 l1_46 < 3) from (Int.not_lt.mpr hc)) hz
          refine R_sub [0] rfl ?_
          exact hX_50 _ (hB_53 _ (Z_some hz))
        · have hz := Z_pos (show n32 l1_46 < 3 from (Int.not_le.mp hc)) hz
          refine R_aload_n (pc := 124) 0 (dc k_M_town 68 rfl) rfl rfl ?_
          refine R_getS (pc := 125) (ci := 10) (k := 71) 132 (dc k_M_town 69 rfl) fl_M_167 rfl (lb rfl) (Nat.le_trans (lb rfl) hn) (hE 81 (lb rfl) (lb rfl)) rfl (by decide) rfl ?_
          refine R_iload_n (pc := 128) 1 (dc k_M_town 70 rfl) rfl rfl ?_
          refine R_iconst (pc := 129) (a := (-1)) (dc k_M_town 71 rfl) ?_
          obtain ⟨⟨hg_55, hg_56⟩, hz⟩ := Z_chk hz
          obtain ⟨M_57, hM_57, hz⟩ := Z_lt hz
          refine R_iastE (pc := 130) (dc k_M_town 72 rfl) rfl (lb rfl) (Nat.le_trans (lb rfl) hn) hg_55 hg_56 hM_57 ?_
          obtain ⟨l1_58, hl1_58, hz⟩ := Z_lt hz
          refine R_iincE (pc := 131) (L' := [(1, vI l1_58), (0, vR 81)]) 1 (dc k_M_town 73 rfl) rfl (lb rfl) hl1_58 rfl ?_
          refine R_goto (pc := 134) 119 (dc k_M_town 74 rfl) rfl ?_
          refine R_sub [1, 0] rfl ?_
          exact hC_52 _ (Z_some hz)
      · have hz := Z_pos (show n32 r_43 = 0 from (Decidable.not_not.mp hc)) hz
        refine R_iconst (pc := 102) (a := (-1)) (dc k_M_town 54 rfl) ?_
        exact R_iret (pc := 103) (dc k_M_town 55 rfl) rfl rfl rfl ⟨_, rfl, (Z_some hz)⟩
    refine it_R (C := fun aZ : Mem => Rr y_M_town (8, 177, n, n, E) (qM K) 74 [(0, vR 81)] [] E n aZ) (fun M_27 K_31 hC_32 hB_33 hz => ?_) FUEL M_26 hz
    rw [M_town_b74] at hz
    show Rr y_M_town (8, 177, n, n, E) (qM K) 74 [(0, vR 81)] [] E n M_27
    refine R_aload_n (pc := 74) 0 (dc k_M_town 42 rfl) rfl rfl ?_
    refine R_cVP (pc := 75)  (As := []) (S := []) ck_M_278 (dc k_M_town 43 rfl) ⟨rfl, ⟨_, rfl, rfl⟩, (lb rfl), (Nat.le_trans (lb rfl) hn)⟩ (lb rfl) (lb rfl) (lb rfl) rfl (ct_M_isGood hE hn (Z_bind hz)) (fun r_35 hz => ?_)
    have hX_37 : ((¬ n32 r_35 = 0) ∧ (¬ n32 (M_27 81 8) = 0)) → Rr y_M_town (8, 177, n, n, E) (qM K) 88 [(0, vR 81)] [] E n M_27 := by
      intro hc
      have hz := Z_pos hc hz
      refine R_aload_n (pc := 88) 0 (dc k_M_town 48 rfl) rfl rfl ?_
      refine R_cVV (pc := 89)  (As := []) (S := []) ck_M_307 (dc k_M_town 49 rfl) ⟨rfl, ⟨_, rfl, rfl⟩, (lb rfl), (Nat.le_trans (lb rfl) hn)⟩ (lb rfl) (lb rfl) (lb rfl) rfl (ct_M_readLine hE hn (Z_bind hz)) (fun M_36 hz => ?_)
      refine R_goto (pc := 92) 74 (dc k_M_town 50 rfl) rfl ?_
      exact hC_32 _ (Z_some hz)
    have hY_38 : ¬ ((¬ n32 r_35 = 0) ∧ (¬ n32 (M_27 81 8) = 0)) → Rr y_M_town (8, 177, n, n, E) (qM K) 95 [(0, vR 81)] [] E n M_27 := by
      intro hc
      have hz := Z_neg hc hz
      exact hX_30 _ (hB_33 _ (Z_some hz))
    refine R_if_eq (pc := 78) 95 (dc k_M_town 44 rfl) rfl (fun hc => ?_) (fun hc => ?_)
    · have hc_39 : n32 r_35 = 0 := hc
      exact hY_38 (fun z => (fun z => z hc_39) z.1)
    · have hc_40 : ¬ n32 r_35 = 0 := hc
      refine R_aload_n (pc := 81) 0 (dc k_M_town 45 rfl) rfl rfl ?_
      refine R_getI (pc := 82) (ci := 10) (k := 8) (dc k_M_town 46 rfl) fl_M_250 rfl (lb rfl) (Nat.le_trans (lb rfl) hn) rfl (Or.inl rfl) ?_
      refine R_if_eq (pc := 85) 95 (dc k_M_town 47 rfl) rfl (fun hc => ?_) (fun hc => ?_)
      · have hc_41 : n32 (M_27 81 8) = 0 := hc
        exact hY_38 (fun z => (fun z => z hc_41) z.2)
      · have hc_42 : ¬ n32 (M_27 81 8) = 0 := hc
        exact hX_37 ⟨hc_40, hc_42⟩
  refine R_sub [1, 0] rfl ?_
  refine it_R (C := fun aZ : Int × Mem => Rr y_M_town (8, 177, n, n, E) (qM K) 20 [(0, vR 81), (1, vI aZ.1)] [] E n aZ.2) (fun aZ K_9 hC_10 hB_11 hz => ?_) FUEL (0, M_3) hz
  obtain ⟨l1_4, M_5⟩ := aZ
  rw [M_town_b20] at hz
  show Rr y_M_town (8, 177, n, n, E) (qM K) 20 [(0, vR 81), (1, vI l1_4)] [] E n M_5
  refine R_iload_n (pc := 20) 1 (dc k_M_town 12 rfl) rfl rfl ?_
  refine R_aload_n (pc := 21) 0 (dc k_M_town 13 rfl) rfl rfl ?_
  refine R_getI (pc := 22) (ci := 10) (k := 3) (dc k_M_town 14 rfl) fl_M_194 rfl (lb rfl) (Nat.le_trans (lb rfl) hn) rfl (Or.inl rfl) ?_
  refine R_icmp_ge (pc := 25) 46 (dc k_M_town 15 rfl) rfl (fun hc => ?_) (fun hc => ?_)
  · have hz := Z_neg (show ¬ (n32 l1_4 < n32 (M_5 81 3)) from (Int.not_lt.mpr hc)) hz
    refine R_sub [0] rfl ?_
    exact hX_8 _ (hB_11 _ (Z_some hz))
  · have hz := Z_pos (show n32 l1_4 < n32 (M_5 81 3) from (Int.not_le.mp hc)) hz
    refine R_aload_n (pc := 28) 0 (dc k_M_town 16 rfl) rfl rfl ?_
    refine R_getS (pc := 29) (ci := 10) (k := 1) 83 (dc k_M_town 17 rfl) fl_M_13 rfl (lb rfl) (Nat.le_trans (lb rfl) hn) (hE 81 (lb rfl) (lb rfl)) rfl (by decide) rfl ?_
    refine R_iload_n (pc := 32) 1 (dc k_M_town 18 rfl) rfl rfl ?_
    refine R_aload_n (pc := 33) 0 (dc k_M_town 19 rfl) rfl rfl ?_
    refine R_getS (pc := 34) (ci := 10) (k := 0) 82 (dc k_M_town 20 rfl) fl_M_7 rfl (lb rfl) (Nat.le_trans (lb rfl) hn) (hE 81 (lb rfl) (lb rfl)) rfl (by decide) rfl ?_
    refine R_iload_n (pc := 37) 1 (dc k_M_town 21 rfl) rfl rfl ?_
    obtain ⟨⟨hg_13, hg_14⟩, hz⟩ := Z_chk hz
    refine R_bald (pc := 38) (dc k_M_town 22 rfl) rfl (lb rfl) (Nat.le_trans (lb rfl) hn) hg_13 hg_14 ?_
    obtain ⟨⟨hg_15, hg_16⟩, hz⟩ := Z_chk hz
    obtain ⟨⟨hg_17, hg_18⟩, hz⟩ := Z_chk hz
    obtain ⟨M_19, hM_19, hz⟩ := Z_lt hz
    refine R_bastE (pc := 39) (dc k_M_town 23 rfl) rfl (lb rfl) (Nat.le_trans (lb rfl) hn) hg_15 hg_16 ⟨hg_17, hg_18⟩ hM_19 ?_
    obtain ⟨l1_20, hl1_20, hz⟩ := Z_lt hz
    refine R_iincE (pc := 40) (L' := [(1, vI l1_20), (0, vR 81)]) 1 (dc k_M_town 24 rfl) rfl (lb rfl) hl1_20 rfl ?_
    refine R_goto (pc := 43) 20 (dc k_M_town 25 rfl) rfl ?_
    refine R_sub [1, 0] rfl ?_
    exact hC_10 _ (Z_some hz)

set_option maxRecDepth 20000 in
theorem ct_M_fault {E : Nat → Bool} {n : Nat} (hE : ∀ c, 81 ≤ c → c ≤ 138 → E c = true) (hn : 138 ≤ n) {what : Int} {M : Mem} {K : Int → Prop} (hz : Z (M_fault what M) K) : Mt y_M_fault (0, 0, n, n, E) E [vR 81, vI what] M (qP M K) := by
  refine Mt.of (by decide) (lb rfl) (Nat.le_refl _) rfl ?_
  rw [M_fault] at hz
  show Rr y_M_fault (0, 0, n, n, E) (qP M K) 0 [(0, vR 81), (1, vI what)] [] E n M
  refine R_iload_n (pc := 0) 1 (dc k_M_fault 0 rfl) rfl rfl ?_
  refine R_if_ne (pc := 1) 11 (dc k_M_fault 1 rfl) rfl (fun hc => ?_) (fun hc => ?_)
  · have hz := Z_neg (show ¬ (n32 what = 0) from hc) hz
    refine R_iload_n (pc := 11) 1 (dc k_M_fault 5 rfl) rfl rfl ?_
    refine R_iconst (pc := 12) (a := 1) (dc k_M_fault 6 rfl) ?_
    refine R_icmp_ne (pc := 13) 23 (dc k_M_fault 7 rfl) rfl (fun hc => ?_) (fun hc => ?_)
    · have hz := Z_neg (show ¬ (n32 what = 1) from hc) hz
      refine R_iconst (pc := 23) (a := (-1)) (dc k_M_fault 11 rfl) ?_
      exact R_iret (pc := 24) (dc k_M_fault 12 rfl) rfl rfl rfl ⟨_, rfl, rfl, (Z_some hz)⟩
    · have hz := Z_pos (show n32 what = 1 from (Decidable.not_not.mp hc)) hz
      refine R_aload_n (pc := 16) 0 (dc k_M_fault 8 rfl) rfl rfl ?_
      refine R_getI (pc := 17) (ci := 10) (k := 5) (dc k_M_fault 9 rfl) fl_M_16 rfl (lb rfl) (Nat.le_trans (lb rfl) hn) rfl (Or.inl rfl) ?_
      refine R_goto (pc := 20) 24 (dc k_M_fault 10 rfl) rfl ?_
      exact R_iret (pc := 24) (dc k_M_fault 12 rfl) rfl rfl rfl ⟨_, rfl, rfl, (Z_some hz)⟩
  · have hz := Z_pos (show n32 what = 0 from (Decidable.not_not.mp hc)) hz
    refine R_aload_n (pc := 4) 0 (dc k_M_fault 2 rfl) rfl rfl ?_
    refine R_getI (pc := 5) (ci := 10) (k := 4) (dc k_M_fault 3 rfl) fl_M_197 rfl (lb rfl) (Nat.le_trans (lb rfl) hn) rfl (Or.inl rfl) ?_
    refine R_goto (pc := 8) 24 (dc k_M_fault 4 rfl) rfl ?_
    exact R_iret (pc := 24) (dc k_M_fault 12 rfl) rfl rfl rfl ⟨_, rfl, rfl, (Z_some hz)⟩

set_option maxRecDepth 20000 in
theorem ct_M_isIn {E : Nat → Bool} {n : Nat} (hE : ∀ c, 81 ≤ c → c ≤ 138 → E c = true) (hn : 138 ≤ n) {v : Int} {least : Int} {most : Int} {M : Mem} {K : Int → Prop} (hz : Z (M_isIn v least most M) K) : Mt y_M_isIn (0, 0, n, n, E) E [vI v, vI least, vI most] M (qP M K) := by
  refine Mt.of (by decide) (lb rfl) (Nat.le_refl _) rfl ?_
  rw [M_isIn] at hz
  show Rr y_M_isIn (0, 0, n, n, E) (qP M K) 0 [(0, vI v), (1, vI least), (2, vI most)] [] E n M
  refine R_iload_n (pc := 0) 0 (dc k_M_isIn 0 rfl) rfl rfl ?_
  refine R_iload_n (pc := 1) 1 (dc k_M_isIn 1 rfl) rfl rfl ?_
  have hX_1 : ((n32 least ≤ n32 v) ∧ (n32 v ≤ n32 most)) → Rr y_M_isIn (0, 0, n, n, E) (qP M K) 10 [(0, vI v), (1, vI least), (2, vI most)] [] E n M := by
    intro hc
    have hz := Z_pos hc hz
    refine R_iconst (pc := 10) (a := 1) (dc k_M_isIn 6 rfl) ?_
    refine R_goto (pc := 11) 15 (dc k_M_isIn 7 rfl) rfl ?_
    exact R_zret (pc := 15) (dc k_M_isIn 9 rfl) rfl (Or.inr rfl) rfl rfl ⟨_, rfl, rfl, (Z_some hz)⟩
  have hY_2 : ¬ ((n32 least ≤ n32 v) ∧ (n32 v ≤ n32 most)) → Rr y_M_isIn (0, 0, n, n, E) (qP M K) 14 [(0, vI v), (1, vI least), (2, vI most)] [] E n M := by
    intro hc
    have hz := Z_neg hc hz
    refine R_iconst (pc := 14) (a := 0) (dc k_M_isIn 8 rfl) ?_
    exact R_zret (pc := 15) (dc k_M_isIn 9 rfl) rfl (Or.inl rfl) rfl rfl ⟨_, rfl, rfl, (Z_some hz)⟩
  refine R_icmp_lt (pc := 2) 14 (dc k_M_isIn 2 rfl) rfl (fun hc => ?_) (fun hc => ?_)
  · have hc_3 : n32 v < n32 least := hc
    exact hY_2 (fun z => (Int.not_le.mpr hc_3) z.1)
  · have hc_4 : n32 least ≤ n32 v := (Int.not_lt.mp hc)
    refine R_iload_n (pc := 5) 0 (dc k_M_isIn 3 rfl) rfl rfl ?_
    refine R_iload_n (pc := 6) 2 (dc k_M_isIn 4 rfl) rfl rfl ?_
    refine R_icmp_gt (pc := 7) 14 (dc k_M_isIn 5 rfl) rfl (fun hc => ?_) (fun hc => ?_)
    · have hc_5 : n32 most < n32 v := hc
      exact hY_2 (fun z => (Int.not_le.mpr hc_5) z.2)
    · have hc_6 : n32 v ≤ n32 most := (Int.not_lt.mp hc)
      exact hX_1 ⟨hc_4, hc_6⟩

set_option maxRecDepth 20000 in
theorem ct_M_isRow {E : Nat → Bool} {n : Nat} (hE : ∀ c, 81 ≤ c → c ≤ 138 → E c = true) (hn : 138 ≤ n) {r : Int} {M : Mem} {K : Int → Prop} (hz : Z (M_isRow r M) K) : Mt y_M_isRow (1, 22, n, n, E) E [vR 81, vI r] M (qP M K) := by
  refine Mt.of (by decide) (lb rfl) (Nat.le_refl _) rfl ?_
  rw [M_isRow] at hz
  show Rr y_M_isRow (1, 22, n, n, E) (qP M K) 0 [(0, vR 81), (1, vI r)] [] E n M
  refine R_iload_n (pc := 0) 1 (dc k_M_isRow 0 rfl) rfl rfl ?_
  refine R_iconst (pc := 1) (a := 0) (dc k_M_isRow 1 rfl) ?_
  refine R_aload_n (pc := 2) 0 (dc k_M_isRow 2 rfl) rfl rfl ?_
  refine R_cVP (pc := 3)  (As := []) (S := [vI 0, vI r]) ck_M_415 (dc k_M_isRow 3 rfl) ⟨rfl, ⟨_, rfl, rfl⟩, (lb rfl), (Nat.le_trans (lb rfl) hn)⟩ (lb rfl) (lb rfl) (lb rfl) rfl (ct_M_rowMany hE hn (Z_bind hz)) (fun r_1 hz => ?_)
  refine R_iconst (pc := 6) (a := 1) (dc k_M_isRow 4 rfl) ?_
  refine R_isub (pc := 7) (dc k_M_isRow 5 rfl) ?_
  refine R_cSP (pc := 8)  (As := [vI r, vI 0, vI (r_1 - 1)]) (S := []) ck_M_418 (dc k_M_isRow 6 rfl) (lb rfl) (lb rfl) (lb rfl) rfl (ct_M_isIn hE hn (Z_bind hz)) (fun r_2 hz => ?_)
  obtain ⟨hg_3, hz⟩ := Z_chk hz
  exact R_zret (pc := 11) (dc k_M_isRow 7 rfl) rfl hg_3 rfl rfl ⟨_, rfl, rfl, (Z_some hz)⟩

set_option maxRecDepth 20000 in
theorem ct_M_isWorld {E : Nat → Bool} {n : Nat} (hE : ∀ c, 81 ≤ c → c ≤ 138 → E c = true) (hn : 138 ≤ n) {w : Int} {M : Mem} {K : Int → Prop} (hz : Z (M_isWorld w M) K) : Mt y_M_isWorld (2, 40, n, n, E) E [vR 81, vI w] M (qP M K) := by
  refine Mt.of (by decide) (lb rfl) (Nat.le_refl _) rfl ?_
  rw [M_isWorld] at hz
  show Rr y_M_isWorld (2, 40, n, n, E) (qP M K) 0 [(0, vR 81), (1, vI w)] [] E n M
  refine R_iload_n (pc := 0) 1 (dc k_M_isWorld 0 rfl) rfl rfl ?_
  refine R_iconst (pc := 1) (a := 0) (dc k_M_isWorld 1 rfl) ?_
  refine R_aload_n (pc := 2) 0 (dc k_M_isWorld 2 rfl) rfl rfl ?_
  refine R_cVP (pc := 3)  (As := []) (S := [vI 0, vI w]) ck_M_427 (dc k_M_isWorld 3 rfl) ⟨rfl, ⟨_, rfl, rfl⟩, (lb rfl), (Nat.le_trans (lb rfl) hn)⟩ (lb rfl) (lb rfl) (lb rfl) rfl (ct_M_worldMany hE hn (Z_bind hz)) (fun r_1 hz => ?_)
  refine R_iconst (pc := 6) (a := 1) (dc k_M_isWorld 4 rfl) ?_
  refine R_isub (pc := 7) (dc k_M_isWorld 5 rfl) ?_
  refine R_cSP (pc := 8)  (As := [vI w, vI 0, vI (r_1 - 1)]) (S := []) ck_M_418 (dc k_M_isWorld 6 rfl) (lb rfl) (lb rfl) (lb rfl) rfl (ct_M_isIn hE hn (Z_bind hz)) (fun r_2 hz => ?_)
  obtain ⟨K_3, hK_4, hz⟩ := Z_cut hz
  have hX_5 : K_3 true → Rr y_M_isWorld (2, 40, n, n, E) (qP M K) 23 [(0, vR 81), (1, vI w)] [] E n M := by
    intro hk
    have hz := Z_pos rfl (hK_4 _ hk)
    refine R_iconst (pc := 23) (a := 1) (dc k_M_isWorld 13 rfl) ?_
    refine R_goto (pc := 24) 28 (dc k_M_isWorld 14 rfl) rfl ?_
    exact R_zret (pc := 28) (dc k_M_isWorld 16 rfl) rfl (Or.inr rfl) rfl rfl ⟨_, rfl, rfl, (Z_some hz)⟩
  have hY_6 : K_3 false → Rr y_M_isWorld (2, 40, n, n, E) (qP M K) 27 [(0, vR 81), (1, vI w)] [] E n M := by
    intro hk
    have hz := Z_neg Bool.false_ne_true (hK_4 _ hk)
    refine R_iconst (pc := 27) (a := 0) (dc k_M_isWorld 15 rfl) ?_
    exact R_zret (pc := 28) (dc k_M_isWorld 16 rfl) rfl (Or.inl rfl) rfl rfl ⟨_, rfl, rfl, (Z_some hz)⟩
  refine R_if_eq (pc := 11) 27 (dc k_M_isWorld 7 rfl) rfl (fun hc => ?_) (fun hc => ?_)
  · have hz := Z_neg (show ¬ (¬ n32 r_2 = 0) from (fun z => z hc)) hz
    exact hY_6 (Z_some hz)
  · have hz := Z_pos (show ¬ n32 r_2 = 0 from hc) hz
    refine R_aload_n (pc := 14) 0 (dc k_M_isWorld 8 rfl) rfl rfl ?_
    refine R_getS (pc := 15) (ci := 10) (k := 46) 111 (dc k_M_isWorld 9 rfl) fl_M_104 rfl (lb rfl) (Nat.le_trans (lb rfl) hn) (hE 81 (lb rfl) (lb rfl)) rfl (by decide) rfl ?_
    refine R_iload_n (pc := 18) 1 (dc k_M_isWorld 10 rfl) rfl rfl ?_
    obtain ⟨⟨hg_8, hg_9⟩, hz⟩ := Z_chk hz
    refine R_zald (pc := 19) (dc k_M_isWorld 11 rfl) rfl (lb rfl) (Nat.le_trans (lb rfl) hn) hg_8 hg_9 ?_
    refine R_if_eq (pc := 20) 27 (dc k_M_isWorld 12 rfl) rfl (fun hc => ?_) (fun hc => ?_)
    · have hz := Z_neg (show ¬ (¬ n32 (M 111 (Int.toNat w)) = 0) from (fun z => z hc)) hz
      exact hY_6 (Z_some hz)
    · have hz := Z_pos (show ¬ n32 (M 111 (Int.toNat w)) = 0 from hc) hz
      exact hX_5 (Z_some hz)

set_option maxRecDepth 20000 in
theorem ct_M_is {E : Nat → Bool} {n : Nat} (hE : ∀ c, 81 ≤ c → c ≤ 138 → E c = true) (hn : 138 ≤ n) {r : Int} {w : Int} {M : Mem} {K : Int → Prop} (hz : Z (M_is r w M) K) : Mt y_M_is (3, 61, n, n, E) E [vR 81, vI r, vI w] M (qP M K) := by
  refine Mt.of (by decide) (lb rfl) (Nat.le_refl _) rfl ?_
  rw [M_is] at hz
  show Rr y_M_is (3, 61, n, n, E) (qP M K) 0 [(0, vR 81), (1, vI r), (2, vI w)] [] E n M
  refine R_aload_n (pc := 0) 0 (dc k_M_is 0 rfl) rfl rfl ?_
  refine R_iload_n (pc := 1) 1 (dc k_M_is 1 rfl) rfl rfl ?_
  refine R_cVP (pc := 2)  (As := [vI r]) (S := []) ck_M_452 (dc k_M_is 2 rfl) ⟨rfl, ⟨_, rfl, rfl⟩, (lb rfl), (Nat.le_trans (lb rfl) hn)⟩ (lb rfl) (lb rfl) (lb rfl) rfl (ct_M_isRow hE hn (Z_bind hz)) (fun r_1 hz => ?_)
  obtain ⟨K_2, hK_3, hz⟩ := Z_cut hz
  have hX_4 : K_2 true → Rr y_M_is (3, 61, n, n, E) (qP M K) 16 [(0, vR 81), (1, vI r), (2, vI w)] [] E n M := by
    intro hk
    have hz := Z_pos rfl (hK_3 _ hk)
    refine R_iconst (pc := 16) (a := (-1)) (dc k_M_is 8 rfl) ?_
    refine R_goto (pc := 17) 38 (dc k_M_is 9 rfl) rfl ?_
    exact R_iret (pc := 38) (dc k_M_is 20 rfl) rfl rfl rfl ⟨_, rfl, rfl, (Z_some hz)⟩
  have hY_5 : K_2 false → Rr y_M_is (3, 61, n, n, E) (qP M K) 20 [(0, vR 81), (1, vI r), (2, vI w)] [] E n M := by
    intro hk
    have hz := Z_neg Bool.false_ne_true (hK_3 _ hk)
    refine R_aload_n (pc := 20) 0 (dc k_M_is 10 rfl) rfl rfl ?_
    refine R_getS (pc := 21) (ci := 10) (k := 47) 112 (dc k_M_is 11 rfl) fl_M_107 rfl (lb rfl) (Nat.le_trans (lb rfl) hn) (hE 81 (lb rfl) (lb rfl)) rfl (by decide) rfl ?_
    refine R_iload_n (pc := 24) 1 (dc k_M_is 12 rfl) rfl rfl ?_
    refine R_iload_n (pc := 25) 2 (dc k_M_is 13 rfl) rfl rfl ?_
    refine R_cSP (pc := 26)  (As := [vI r, vI w]) (S := [vR 112]) ck_M_430 (dc k_M_is 14 rfl) (lb rfl) (lb rfl) (lb rfl) rfl (ct_M_spot hE hn (Z_bind hz)) (fun r_8 hz => ?_)
    obtain ⟨⟨hg_9, hg_10⟩, hz⟩ := Z_chk hz
    refine R_zald (pc := 29) (dc k_M_is 15 rfl) rfl (lb rfl) (Nat.le_trans (lb rfl) hn) hg_9 hg_10 ?_
    refine R_if_eq (pc := 30) 37 (dc k_M_is 16 rfl) rfl (fun hc => ?_) (fun hc => ?_)
    · have hz := Z_neg (show ¬ (¬ n32 (M 112 (Int.toNat r_8)) = 0) from (fun z => z hc)) hz
      refine R_iconst (pc := 37) (a := 0) (dc k_M_is 19 rfl) ?_
      exact R_iret (pc := 38) (dc k_M_is 20 rfl) rfl rfl rfl ⟨_, rfl, rfl, (Z_some hz)⟩
    · have hz := Z_pos (show ¬ n32 (M 112 (Int.toNat r_8)) = 0 from hc) hz
      refine R_iconst (pc := 33) (a := 1) (dc k_M_is 17 rfl) ?_
      refine R_goto (pc := 34) 38 (dc k_M_is 18 rfl) rfl ?_
      exact R_iret (pc := 38) (dc k_M_is 20 rfl) rfl rfl rfl ⟨_, rfl, rfl, (Z_some hz)⟩
  refine R_if_eq (pc := 5) 16 (dc k_M_is 3 rfl) rfl (fun hc => ?_) (fun hc => ?_)
  · have hz := Z_neg (show ¬ (¬ n32 r_1 = 0) from (fun z => z hc)) hz
    exact hX_4 (Z_some hz)
  · have hz := Z_pos (show ¬ n32 r_1 = 0 from hc) hz
    refine R_aload_n (pc := 8) 0 (dc k_M_is 4 rfl) rfl rfl ?_
    refine R_iload_n (pc := 9) 2 (dc k_M_is 5 rfl) rfl rfl ?_
    refine R_cVP (pc := 10)  (As := [vI w]) (S := []) ck_M_455 (dc k_M_is 6 rfl) ⟨rfl, ⟨_, rfl, rfl⟩, (lb rfl), (Nat.le_trans (lb rfl) hn)⟩ (lb rfl) (lb rfl) (lb rfl) rfl (ct_M_isWorld hE hn (Z_bind hz)) (fun r_7 hz => ?_)
    refine R_if_ne (pc := 13) 20 (dc k_M_is 7 rfl) rfl (fun hc => ?_) (fun hc => ?_)
    · have hz := Z_neg (show ¬ (n32 r_7 = 0) from hc) hz
      exact hY_5 (Z_some hz)
    · have hz := Z_pos (show n32 r_7 = 0 from (Decidable.not_not.mp hc)) hz
      exact hX_4 (Z_some hz)

set_option maxRecDepth 20000 in
theorem ct_M_isPerson {E : Nat → Bool} {n : Nat} (hE : ∀ c, 81 ≤ c → c ≤ 138 → E c = true) (hn : 138 ≤ n) {p : Int} {M : Mem} {K : Int → Prop} (hz : Z (M_isPerson p M) K) : Mt y_M_isPerson (1, 22, n, n, E) E [vR 81, vI p] M (qP M K) := by
  refine Mt.of (by decide) (lb rfl) (Nat.le_refl _) rfl ?_
  rw [M_isPerson] at hz
  show Rr y_M_isPerson (1, 22, n, n, E) (qP M K) 0 [(0, vR 81), (1, vI p)] [] E n M
  refine R_iload_n (pc := 0) 1 (dc k_M_isPerson 0 rfl) rfl rfl ?_
  refine R_iconst (pc := 1) (a := 0) (dc k_M_isPerson 1 rfl) ?_
  refine R_aload_n (pc := 2) 0 (dc k_M_isPerson 2 rfl) rfl rfl ?_
  refine R_cVP (pc := 3)  (As := []) (S := [vI 0, vI p]) ck_M_421 (dc k_M_isPerson 3 rfl) ⟨rfl, ⟨_, rfl, rfl⟩, (lb rfl), (Nat.le_trans (lb rfl) hn)⟩ (lb rfl) (lb rfl) (lb rfl) rfl (ct_M_personMany hE hn (Z_bind hz)) (fun r_1 hz => ?_)
  refine R_iconst (pc := 6) (a := 1) (dc k_M_isPerson 4 rfl) ?_
  refine R_isub (pc := 7) (dc k_M_isPerson 5 rfl) ?_
  refine R_cSP (pc := 8)  (As := [vI p, vI 0, vI (r_1 - 1)]) (S := []) ck_M_418 (dc k_M_isPerson 6 rfl) (lb rfl) (lb rfl) (lb rfl) rfl (ct_M_isIn hE hn (Z_bind hz)) (fun r_2 hz => ?_)
  obtain ⟨hg_3, hz⟩ := Z_chk hz
  exact R_zret (pc := 11) (dc k_M_isPerson 7 rfl) rfl hg_3 rfl rfl ⟨_, rfl, rfl, (Z_some hz)⟩

set_option maxRecDepth 20000 in
theorem ct_M_answerAt {E : Nat → Bool} {n : Nat} (hE : ∀ c, 81 ≤ c → c ≤ 138 → E c = true) (hn : 138 ≤ n) {p : Int} {r : Int} {w : Int} {M : Mem} {K : Int → Prop} (hz : Z (M_answerAt p r w M) K) : Mt y_M_answerAt (0, 0, n, n, E) E [vR 81, vI p, vI r, vI w] M (qP M K) := by
  refine Mt.of (by decide) (lb rfl) (Nat.le_refl _) rfl ?_
  rw [M_answerAt] at hz
  show Rr y_M_answerAt (0, 0, n, n, E) (qP M K) 0 [(0, vR 81), (1, vI p), (2, vI r), (3, vI w)] [] E n M
  refine R_aload_n (pc := 0) 0 (dc k_M_answerAt 0 rfl) rfl rfl ?_
  refine R_getS (pc := 1) (ci := 10) (k := 49) 114 (dc k_M_answerAt 1 rfl) fl_M_113 rfl (lb rfl) (Nat.le_trans (lb rfl) hn) (hE 81 (lb rfl) (lb rfl)) rfl (by decide) rfl ?_
  refine R_sipush (pc := 4) (a := 256) (dc k_M_answerAt 2 rfl) (by decide) ?_
  refine R_bipush (pc := 7) (a := 12) (dc k_M_answerAt 3 rfl) (by decide) ?_
  refine R_iload_n (pc := 9) 1 (dc k_M_answerAt 4 rfl) rfl rfl ?_
  refine R_imul (pc := 10) (dc k_M_answerAt 5 rfl) ?_
  refine R_iload_n (pc := 11) 2 (dc k_M_answerAt 6 rfl) rfl rfl ?_
  refine R_iadd (pc := 12) (dc k_M_answerAt 7 rfl) ?_
  refine R_imul (pc := 13) (dc k_M_answerAt 8 rfl) ?_
  refine R_iload_n (pc := 14) 3 (dc k_M_answerAt 9 rfl) rfl rfl ?_
  refine R_iadd (pc := 15) (dc k_M_answerAt 10 rfl) ?_
  obtain ⟨⟨hg_1, hg_2⟩, hz⟩ := Z_chk hz
  refine R_iald (pc := 16) (dc k_M_answerAt 11 rfl) rfl (lb rfl) (Nat.le_trans (lb rfl) hn) hg_1 hg_2 ?_
  exact R_iret (pc := 17) (dc k_M_answerAt 12 rfl) rfl rfl rfl ⟨_, rfl, rfl, (Z_some hz)⟩

set_option maxRecDepth 20000 in
theorem ct_M_answers {E : Nat → Bool} {n : Nat} (hE : ∀ c, 81 ≤ c → c ≤ 138 → E c = true) (hn : 138 ≤ n) {p : Int} {r : Int} {w : Int} {M : Mem} {K : Int → Prop} (hz : Z (M_answers p r w M) K) : Mt y_M_answers (3, 61, n, n, E) E [vR 81, vI p, vI r, vI w] M (qP M K) := by
  refine Mt.of (by decide) (lb rfl) (Nat.le_refl _) rfl ?_
  rw [M_answers] at hz
  show Rr y_M_answers (3, 61, n, n, E) (qP M K) 0 [(0, vR 81), (1, vI p), (2, vI r), (3, vI w)] [] E n M
  refine R_aload_n (pc := 0) 0 (dc k_M_answers 0 rfl) rfl rfl ?_
  refine R_iload_n (pc := 1) 1 (dc k_M_answers 1 rfl) rfl rfl ?_
  refine R_cVP (pc := 2)  (As := [vI p]) (S := []) ck_M_458 (dc k_M_answers 2 rfl) ⟨rfl, ⟨_, rfl, rfl⟩, (lb rfl), (Nat.le_trans (lb rfl) hn)⟩ (lb rfl) (lb rfl) (lb rfl) rfl (ct_M_isPerson hE hn (Z_bind hz)) (fun r_1 hz => ?_)
  obtain ⟨K_2, hK_3, hz⟩ := Z_cut hz
  have hX_4 : K_2 true → Rr y_M_answers (3, 61, n, n, E) (qP M K) 24 [(0, vR 81), (1, vI p), (2, vI r), (3, vI w)] [] E n M := by
    intro hk
    have hz := Z_pos rfl (hK_3 _ hk)
    refine R_aload_n (pc := 24) 0 (dc k_M_answers 12 rfl) rfl rfl ?_
    refine R_iload_n (pc := 25) 1 (dc k_M_answers 13 rfl) rfl rfl ?_
    refine R_iload_n (pc := 26) 2 (dc k_M_answers 14 rfl) rfl rfl ?_
    refine R_iload_n (pc := 27) 3 (dc k_M_answers 15 rfl) rfl rfl ?_
    refine R_cVP (pc := 28)  (As := [vI p, vI r, vI w]) (S := []) ck_M_461 (dc k_M_answers 16 rfl) ⟨rfl, ⟨_, rfl, rfl⟩, (lb rfl), (Nat.le_trans (lb rfl) hn)⟩ (lb rfl) (lb rfl) (lb rfl) rfl (ct_M_answerAt hE hn (Z_bind hz)) (fun r_9 hz => ?_)
    refine R_goto (pc := 31) 35 (dc k_M_answers 17 rfl) rfl ?_
    exact R_iret (pc := 35) (dc k_M_answers 19 rfl) rfl rfl rfl ⟨_, rfl, rfl, (Z_some hz)⟩
  have hY_5 : K_2 false → Rr y_M_answers (3, 61, n, n, E) (qP M K) 34 [(0, vR 81), (1, vI p), (2, vI r), (3, vI w)] [] E n M := by
    intro hk
    have hz := Z_neg Bool.false_ne_true (hK_3 _ hk)
    refine R_iconst (pc := 34) (a := (-1)) (dc k_M_answers 18 rfl) ?_
    exact R_iret (pc := 35) (dc k_M_answers 19 rfl) rfl rfl rfl ⟨_, rfl, rfl, (Z_some hz)⟩
  refine R_if_eq (pc := 5) 34 (dc k_M_answers 3 rfl) rfl (fun hc => ?_) (fun hc => ?_)
  · have hz := Z_neg (show ¬ (¬ n32 r_1 = 0) from (fun z => z hc)) hz
    exact hY_5 (Z_some hz)
  · have hz := Z_pos (show ¬ n32 r_1 = 0 from hc) hz
    refine R_aload_n (pc := 8) 0 (dc k_M_answers 4 rfl) rfl rfl ?_
    refine R_iload_n (pc := 9) 2 (dc k_M_answers 5 rfl) rfl rfl ?_
    refine R_cVP (pc := 10)  (As := [vI r]) (S := []) ck_M_452 (dc k_M_answers 6 rfl) ⟨rfl, ⟨_, rfl, rfl⟩, (lb rfl), (Nat.le_trans (lb rfl) hn)⟩ (lb rfl) (lb rfl) (lb rfl) rfl (ct_M_isRow hE hn (Z_bind hz)) (fun r_7 hz => ?_)
    refine R_if_eq (pc := 13) 34 (dc k_M_answers 7 rfl) rfl (fun hc => ?_) (fun hc => ?_)
    · have hz := Z_neg (show ¬ (¬ n32 r_7 = 0) from (fun z => z hc)) hz
      exact hY_5 (Z_some hz)
    · have hz := Z_pos (show ¬ n32 r_7 = 0 from hc) hz
      refine R_aload_n (pc := 16) 0 (dc k_M_answers 8 rfl) rfl rfl ?_
      refine R_iload_n (pc := 17) 3 (dc k_M_answers 9 rfl) rfl rfl ?_
      refine R_cVP (pc := 18)  (As := [vI w]) (S := []) ck_M_455 (dc k_M_answers 10 rfl) ⟨rfl, ⟨_, rfl, rfl⟩, (lb rfl), (Nat.le_trans (lb rfl) hn)⟩ (lb rfl) (lb rfl) (lb rfl) rfl (ct_M_isWorld hE hn (Z_bind hz)) (fun r_8 hz => ?_)
      refine R_if_eq (pc := 21) 34 (dc k_M_answers 11 rfl) rfl (fun hc => ?_) (fun hc => ?_)
      · have hz := Z_neg (show ¬ (¬ n32 r_8 = 0) from (fun z => z hc)) hz
        exact hY_5 (Z_some hz)
      · have hz := Z_pos (show ¬ n32 r_8 = 0 from hc) hz
        exact hX_4 (Z_some hz)

set_option maxRecDepth 20000 in
theorem ct_M_areSome {E : Nat → Bool} {n : Nat} (hE : ∀ c, 81 ≤ c → c ≤ 138 → E c = true) (hn : 138 ≤ n) {set_ : Int} {M : Mem} {K : Int → Prop} (hz : Z (M_areSome set_ M) K) : Mt y_M_areSome (1, 20, n, n, E) E [vR 81, vI set_] M (qP M K) := by
  refine Mt.of (by decide) (lb rfl) (Nat.le_refl _) rfl ?_
  rw [M_areSome] at hz
  show Rr y_M_areSome (1, 20, n, n, E) (qP M K) 0 [(0, vR 81), (1, vI set_)] [] E n M
  refine R_iload_n (pc := 0) 1 (dc k_M_areSome 0 rfl) rfl rfl ?_
  obtain ⟨K_1, hK_2, hz⟩ := Z_cut hz
  have hX_3 : K_1 true → Rr y_M_areSome (1, 20, n, n, E) (qP M K) 14 [(0, vR 81), (1, vI set_)] [] E n M := by
    intro hk
    have hz := Z_pos rfl (hK_2 _ hk)
    refine R_iconst (pc := 14) (a := 1) (dc k_M_areSome 8 rfl) ?_
    refine R_goto (pc := 15) 19 (dc k_M_areSome 9 rfl) rfl ?_
    exact R_zret (pc := 19) (dc k_M_areSome 11 rfl) rfl (Or.inr rfl) rfl rfl ⟨_, rfl, rfl, (Z_some hz)⟩
  have hY_4 : K_1 false → Rr y_M_areSome (1, 20, n, n, E) (qP M K) 18 [(0, vR 81), (1, vI set_)] [] E n M := by
    intro hk
    have hz := Z_neg Bool.false_ne_true (hK_2 _ hk)
    refine R_iconst (pc := 18) (a := 0) (dc k_M_areSome 10 rfl) ?_
    exact R_zret (pc := 19) (dc k_M_areSome 11 rfl) rfl (Or.inl rfl) rfl rfl ⟨_, rfl, rfl, (Z_some hz)⟩
  refine R_if_le (pc := 1) 18 (dc k_M_areSome 1 rfl) rfl (fun hc => ?_) (fun hc => ?_)
  · have hz := Z_neg (show ¬ (0 < n32 set_) from (Int.not_lt.mpr hc)) hz
    exact hY_4 (Z_some hz)
  · have hz := Z_pos (show 0 < n32 set_ from (Int.not_le.mp hc)) hz
    refine R_iload_n (pc := 4) 1 (dc k_M_areSome 2 rfl) rfl rfl ?_
    refine R_iconst (pc := 5) (a := 1) (dc k_M_areSome 3 rfl) ?_
    refine R_aload_n (pc := 6) 0 (dc k_M_areSome 4 rfl) rfl rfl ?_
    refine R_cVP (pc := 7)  (As := []) (S := [vI 1, vI set_]) ck_M_421 (dc k_M_areSome 5 rfl) ⟨rfl, ⟨_, rfl, rfl⟩, (lb rfl), (Nat.le_trans (lb rfl) hn)⟩ (lb rfl) (lb rfl) (lb rfl) rfl (ct_M_personMany hE hn (Z_bind hz)) (fun r_6 hz => ?_)
    refine R_ishl (pc := 10) (dc k_M_areSome 6 rfl) ?_
    refine R_icmp_ge (pc := 11) 18 (dc k_M_areSome 7 rfl) rfl (fun hc => ?_) (fun hc => ?_)
    · have hz := Z_neg (show ¬ (n32 set_ < n32 (ishl 1 r_6)) from (Int.not_lt.mpr hc)) hz
      exact hY_4 (Z_some hz)
    · have hz := Z_pos (show n32 set_ < n32 (ishl 1 r_6) from (Int.not_le.mp hc)) hz
      exact hX_3 (Z_some hz)

set_option maxRecDepth 20000 in
theorem ct_M_bitsOf {E : Nat → Bool} {n : Nat} (hE : ∀ c, 81 ≤ c → c ≤ 138 → E c = true) (hn : 138 ≤ n) {set_ : Int} {M : Mem} {K : Int → Prop} (hz : Z (M_bitsOf set_ M) K) : Mt y_M_bitsOf (0, 0, n, n, E) E [vI set_] M (qP M K) := by
  refine Mt.of (by decide) (lb rfl) (Nat.le_refl _) rfl ?_
  rw [M_bitsOf] at hz
  show Rr y_M_bitsOf (0, 0, n, n, E) (qP M K) 0 [(0, vI set_)] [] E n M
  refine R_iconst (pc := 0) (a := 0) (dc k_M_bitsOf 0 rfl) ?_
  refine R_istore_n (pc := 1) (L' := [(1, vI 0), (0, vI set_)]) (dc k_M_bitsOf 1 rfl) rfl (lb rfl) rfl ?_
  refine R_iconst (pc := 2) (a := 0) (dc k_M_bitsOf 2 rfl) ?_
  refine R_istore_n (pc := 3) (L' := [(2, vI 0), (1, vI 0), (0, vI set_)]) (dc k_M_bitsOf 3 rfl) rfl (lb rfl) rfl ?_
  obtain ⟨K_3, hK_4, hz⟩ := Z_cut hz
  have hX_5 : ∀ (l1_9 : Int), K_3 l1_9 → Rr y_M_bitsOf (0, 0, n, n, E) (qP M K) 24 [(1, vI l1_9)] [] E n M := by
    intro l1_9 hk
    have hz := hK_4 _ hk
    refine R_iload_n (pc := 24) 0 (dc k_M_bitsOf 17 rfl) rfl rfl ?_
    exact R_iret (pc := 25) (dc k_M_bitsOf 18 rfl) rfl rfl rfl ⟨_, rfl, rfl, (Z_some hz)⟩
  refine R_sub [2, 1, 0] rfl ?_
  refine it_R (C := fun aZ : Int × Int => Rr y_M_bitsOf (0, 0, n, n, E) (qP M K) 4 [(0, vI set_), (1, vI aZ.1), (2, vI aZ.2)] [] E n M) (fun aZ K_6 hC_7 hB_8 hz => ?_) FUEL (0, 0) hz
  obtain ⟨l1_1, l2_2⟩ := aZ
  rw [M_bitsOf_b4] at hz
  show Rr y_M_bitsOf (0, 0, n, n, E) (qP M K) 4 [(0, vI set_), (1, vI l1_1), (2, vI l2_2)] [] E n M
  refine R_iload_n (pc := 4) 2 (dc k_M_bitsOf 4 rfl) rfl rfl ?_
  refine R_bipush (pc := 5) (a := 31) (dc k_M_bitsOf 5 rfl) (by decide) ?_
  refine R_icmp_ge (pc := 7) 24 (dc k_M_bitsOf 6 rfl) rfl (fun hc => ?_) (fun hc => ?_)
  · have hz := Z_neg (show ¬ (n32 l2_2 < 31) from (Int.not_lt.mpr hc)) hz
    refine R_sub [1] rfl ?_
    exact hX_5 _ (hB_8 _ (Z_some hz))
  · have hz := Z_pos (show n32 l2_2 < 31 from (Int.not_le.mp hc)) hz
    refine R_iload_n (pc := 10) 1 (dc k_M_bitsOf 7 rfl) rfl rfl ?_
    refine R_iload_n (pc := 11) 0 (dc k_M_bitsOf 8 rfl) rfl rfl ?_
    refine R_iload_n (pc := 12) 2 (dc k_M_bitsOf 9 rfl) rfl rfl ?_
    refine R_ishr (pc := 13) (dc k_M_bitsOf 10 rfl) ?_
    refine R_iconst (pc := 14) (a := 1) (dc k_M_bitsOf 11 rfl) ?_
    refine R_iand (pc := 15) (dc k_M_bitsOf 12 rfl) ?_
    refine R_iadd (pc := 16) (dc k_M_bitsOf 13 rfl) ?_
    obtain ⟨l1_10, hl1_10, hz⟩ := Z_lt hz
    refine R_istore_nE (pc := 17) (L' := [(1, vI l1_10), (0, vI set_), (2, vI l2_2)]) (dc k_M_bitsOf 14 rfl) rfl (lb rfl) hl1_10 rfl ?_
    obtain ⟨l2_11, hl2_11, hz⟩ := Z_lt hz
    refine R_iincE (pc := 18) (L' := [(2, vI l2_11), (1, vI l1_10), (0, vI set_)]) 2 (dc k_M_bitsOf 15 rfl) rfl (lb rfl) hl2_11 rfl ?_
    refine R_goto (pc := 21) 4 (dc k_M_bitsOf 16 rfl) rfl ?_
    refine R_sub [2, 1, 0] rfl ?_
    exact hC_7 _ (Z_some hz)

set_option maxRecDepth 20000 in
theorem ct_M_tiedIn {E : Nat → Bool} {n : Nat} (hE : ∀ c, 81 ≤ c → c ≤ 138 → E c = true) (hn : 138 ≤ n) {set_ : Int} {M : Mem} {K : Int → Prop} (hz : Z (M_tiedIn set_ M) K) : Mt y_M_tiedIn (0, 0, n, n, E) E [vR 81, vI set_] M (qP M K) := by
  refine Mt.of (by decide) (lb rfl) (Nat.le_refl _) rfl ?_
  rw [M_tiedIn] at hz
  show Rr y_M_tiedIn (0, 0, n, n, E) (qP M K) 0 [(0, vR 81), (1, vI set_)] [] E n M
  refine R_bipush (pc := 0) (a := 12) (dc k_M_tiedIn 0 rfl) (by decide) ?_
  refine R_aload_n (pc := 2) 0 (dc k_M_tiedIn 1 rfl) rfl rfl ?_
  refine R_getI (pc := 3) (ci := 10) (k := 38) (dc k_M_tiedIn 2 rfl) fl_M_304 rfl (lb rfl) (Nat.le_trans (lb rfl) hn) rfl (Or.inl rfl) ?_
  refine R_imul (pc := 6) (dc k_M_tiedIn 3 rfl) ?_
  obtain ⟨l2_1, hl2_1, hz⟩ := Z_lt hz
  refine R_istore_nE (pc := 7) (L' := [(2, vI l2_1), (0, vR 81), (1, vI set_)]) (dc k_M_tiedIn 4 rfl) rfl (lb rfl) hl2_1 rfl ?_
  obtain ⟨K_3, hK_4, hz⟩ := Z_cut hz
  have hX_5 : K_3 (.inl ()) → Rr y_M_tiedIn (0, 0, n, n, E) (qP M K) 60 [] [] E n M := by
    intro  hk
    have hz := hK_4 _ hk
    refine R_iconst (pc := 60) (a := 0) (dc k_M_tiedIn 38 rfl) ?_
    exact R_iret (pc := 61) (dc k_M_tiedIn 39 rfl) rfl rfl rfl ⟨_, rfl, rfl, (Z_some hz)⟩
  refine R_sub [1, 2, 0] rfl ?_
  refine it_R (C := fun aZ : Int => Rr y_M_tiedIn (0, 0, n, n, E) (qP M K) 8 [(0, vR 81), (1, vI set_), (2, vI aZ)] [] E n M) (fun l2_2 K_6 hC_7 hB_8 hz => ?_) FUEL l2_1 hz
  rw [M_tiedIn_b8] at hz
  show Rr y_M_tiedIn (0, 0, n, n, E) (qP M K) 8 [(0, vR 81), (1, vI set_), (2, vI l2_2)] [] E n M
  refine R_iload_n (pc := 8) 2 (dc k_M_tiedIn 5 rfl) rfl rfl ?_
  refine R_bipush (pc := 9) (a := 12) (dc k_M_tiedIn 6 rfl) (by decide) ?_
  refine R_aload_n (pc := 11) 0 (dc k_M_tiedIn 7 rfl) rfl rfl ?_
  refine R_getI (pc := 12) (ci := 10) (k := 38) (dc k_M_tiedIn 8 rfl) fl_M_304 rfl (lb rfl) (Nat.le_trans (lb rfl) hn) rfl (Or.inl rfl) ?_
  refine R_imul (pc := 15) (dc k_M_tiedIn 9 rfl) ?_
  refine R_aload_n (pc := 16) 0 (dc k_M_tiedIn 10 rfl) rfl rfl ?_
  refine R_getS (pc := 17) (ci := 10) (k := 15) 88 (dc k_M_tiedIn 11 rfl) fl_M_33 rfl (lb rfl) (Nat.le_trans (lb rfl) hn) (hE 81 (lb rfl) (lb rfl)) rfl (by decide) rfl ?_
  refine R_aload_n (pc := 20) 0 (dc k_M_tiedIn 12 rfl) rfl rfl ?_
  refine R_getI (pc := 21) (ci := 10) (k := 38) (dc k_M_tiedIn 13 rfl) fl_M_304 rfl (lb rfl) (Nat.le_trans (lb rfl) hn) rfl (Or.inl rfl) ?_
  obtain ⟨⟨hg_9, hg_10⟩, hz⟩ := Z_chk hz
  refine R_iald (pc := 24) (dc k_M_tiedIn 14 rfl) rfl (lb rfl) (Nat.le_trans (lb rfl) hn) hg_9 hg_10 ?_
  refine R_iadd (pc := 25) (dc k_M_tiedIn 15 rfl) ?_
  refine R_icmp_ge (pc := 26) 60 (dc k_M_tiedIn 16 rfl) rfl (fun hc => ?_) (fun hc => ?_)
  · have hz := Z_neg (show ¬ (n32 l2_2 < n32 ((12 * (M 81 38)) + (M 88 (Int.toNat (M 81 38))))) from (Int.not_lt.mpr hc)) hz
    refine R_sub [] rfl ?_
    exact hX_5 (hB_8 _ (Z_some hz))
  · have hz := Z_pos (show n32 l2_2 < n32 ((12 * (M 81 38)) + (M 88 (Int.toNat (M 81 38)))) from (Int.not_le.mp hc)) hz
    refine R_iload_n (pc := 29) 1 (dc k_M_tiedIn 17 rfl) rfl rfl ?_
    refine R_aload_n (pc := 30) 0 (dc k_M_tiedIn 18 rfl) rfl rfl ?_
    refine R_getS (pc := 31) (ci := 10) (k := 25) 98 (dc k_M_tiedIn 19 rfl) fl_M_65 rfl (lb rfl) (Nat.le_trans (lb rfl) hn) (hE 81 (lb rfl) (lb rfl)) rfl (by decide) rfl ?_
    refine R_iload_n (pc := 34) 2 (dc k_M_tiedIn 20 rfl) rfl rfl ?_
    obtain ⟨⟨hg_11, hg_12⟩, hz⟩ := Z_chk hz
    refine R_iald (pc := 35) (dc k_M_tiedIn 21 rfl) rfl (lb rfl) (Nat.le_trans (lb rfl) hn) hg_11 hg_12 ?_
    refine R_ishr (pc := 36) (dc k_M_tiedIn 22 rfl) ?_
    refine R_iload_n (pc := 37) 1 (dc k_M_tiedIn 23 rfl) rfl rfl ?_
    refine R_aload_n (pc := 38) 0 (dc k_M_tiedIn 24 rfl) rfl rfl ?_
    refine R_getS (pc := 39) (ci := 10) (k := 26) 99 (dc k_M_tiedIn 25 rfl) fl_M_68 rfl (lb rfl) (Nat.le_trans (lb rfl) hn) (hE 81 (lb rfl) (lb rfl)) rfl (by decide) rfl ?_
    refine R_iload_n (pc := 42) 2 (dc k_M_tiedIn 26 rfl) rfl rfl ?_
    refine R_iald (pc := 43) (dc k_M_tiedIn 27 rfl) rfl (lb rfl) (Nat.le_trans (lb rfl) hn) hg_11 hg_12 ?_
    refine R_ishr (pc := 44) (dc k_M_tiedIn 28 rfl) ?_
    refine R_iand (pc := 45) (dc k_M_tiedIn 29 rfl) ?_
    refine R_iconst (pc := 46) (a := 1) (dc k_M_tiedIn 30 rfl) ?_
    refine R_iand (pc := 47) (dc k_M_tiedIn 31 rfl) ?_
    refine R_iconst (pc := 48) (a := 1) (dc k_M_tiedIn 32 rfl) ?_
    refine R_icmp_ne (pc := 49) 54 (dc k_M_tiedIn 33 rfl) rfl (fun hc => ?_) (fun hc => ?_)
    · have hz := Z_neg (show ¬ (n32 (iand (iand (ishr set_ (M 98 (Int.toNat l2_2))) (ishr set_ (M 99 (Int.toNat l2_2)))) 1) = 1) from hc) hz
      obtain ⟨l2_13, hl2_13, hz⟩ := Z_lt hz
      refine R_iincE (pc := 54) (L' := [(2, vI l2_13), (0, vR 81), (1, vI set_)]) 2 (dc k_M_tiedIn 36 rfl) rfl (lb rfl) hl2_13 rfl ?_
      refine R_goto (pc := 57) 8 (dc k_M_tiedIn 37 rfl) rfl ?_
      refine R_sub [1, 2, 0] rfl ?_
      exact hC_7 _ (Z_some hz)
    · have hz := Z_pos (show n32 (iand (iand (ishr set_ (M 98 (Int.toNat l2_2))) (ishr set_ (M 99 (Int.toNat l2_2)))) 1) = 1 from (Decidable.not_not.mp hc)) hz
      refine R_iconst (pc := 52) (a := 1) (dc k_M_tiedIn 34 rfl) ?_
      exact R_iret (pc := 53) (dc k_M_tiedIn 35 rfl) rfl rfl rfl ⟨_, rfl, rfl, (Z_some (hK_4 _ (hB_8 _ (Z_some hz))))⟩

set_option maxRecDepth 20000 in
theorem ct_M_partOf {E : Nat → Bool} {n : Nat} (hE : ∀ c, 81 ≤ c → c ≤ 138 → E c = true) (hn : 138 ≤ n) {k : Int} {set_ : Int} {apart : Int} {surely : Int} {M : Mem} {K : Int → Prop} (hz : Z (M_partOf k set_ apart surely M) K) : Mt y_M_partOf (1, 22, n, n, E) E [vR 81, vI k, vI set_, vI apart, vI surely] M (qP M K) := by
  refine Mt.of (by decide) (lb rfl) (Nat.le_refl _) rfl ?_
  rw [M_partOf] at hz
  show Rr y_M_partOf (1, 22, n, n, E) (qP M K) 0 [(0, vR 81), (1, vI k), (2, vI set_), (3, vI apart), (4, vI surely)] [] E n M
  refine R_aload_n (pc := 0) 0 (dc k_M_partOf 0 rfl) rfl rfl ?_
  refine R_getS (pc := 1) (ci := 10) (k := 33) 106 (dc k_M_partOf 1 rfl) fl_M_89 rfl (lb rfl) (Nat.le_trans (lb rfl) hn) (hE 81 (lb rfl) (lb rfl)) rfl (by decide) rfl ?_
  refine R_iload_n (pc := 4) 1 (dc k_M_partOf 2 rfl) rfl rfl ?_
  obtain ⟨⟨hg_1, hg_2⟩, hz⟩ := Z_chk hz
  refine R_iald (pc := 5) (dc k_M_partOf 3 rfl) rfl (lb rfl) (Nat.le_trans (lb rfl) hn) hg_1 hg_2 ?_
  by_cases hs_3 : n32 (M 106 (Int.toNat k)) = 11
  · have hz := Z_pos hs_3 hz
    refine R_tabIn (pc := 6) 36 (dc k_M_partOf 4 rfl) hs_3 (by decide) (by decide) rfl rfl ?_
    refine R_aload_n (pc := 36) 0 (dc k_M_partOf 5 rfl) rfl rfl ?_
    refine R_getS (pc := 37) (ci := 10) (k := 34) 107 (dc k_M_partOf 6 rfl) fl_M_92 rfl (lb rfl) (Nat.le_trans (lb rfl) hn) (hE 81 (lb rfl) (lb rfl)) rfl (by decide) rfl ?_
    refine R_iload_n (pc := 40) 1 (dc k_M_partOf 7 rfl) rfl rfl ?_
    refine R_iald (pc := 41) (dc k_M_partOf 8 rfl) rfl (lb rfl) (Nat.le_trans (lb rfl) hn) hg_1 hg_2 ?_
    exact R_iret (pc := 42) (dc k_M_partOf 9 rfl) rfl rfl rfl ⟨_, rfl, rfl, (Z_some hz)⟩
  · have hz := Z_neg hs_3 hz
    by_cases hs_5 : n32 (M 106 (Int.toNat k)) = 12
    · have hz := Z_pos hs_5 hz
      refine R_tabIn (pc := 6) 43 (dc k_M_partOf 4 rfl) hs_5 (by decide) (by decide) rfl rfl ?_
      refine R_iload_n (pc := 43) 2 (dc k_M_partOf 10 rfl) rfl rfl ?_
      refine R_cSP (pc := 44)  (As := [vI set_]) (S := []) ck_M_464 (dc k_M_partOf 11 rfl) (lb rfl) (lb rfl) (lb rfl) rfl (ct_M_bitsOf hE hn (Z_bind hz)) (fun r_4 hz => ?_)
      exact R_iret (pc := 47) (dc k_M_partOf 12 rfl) rfl rfl rfl ⟨_, rfl, rfl, (Z_some hz)⟩
    · have hz := Z_neg hs_5 hz
      by_cases hs_7 : n32 (M 106 (Int.toNat k)) = 13
      · have hz := Z_pos hs_7 hz
        refine R_tabIn (pc := 6) 48 (dc k_M_partOf 4 rfl) hs_7 (by decide) (by decide) rfl rfl ?_
        refine R_iload_n (pc := 48) 3 (dc k_M_partOf 13 rfl) rfl rfl ?_
        refine R_if_eq (pc := 49) 56 (dc k_M_partOf 14 rfl) rfl (fun hc => ?_) (fun hc => ?_)
        · have hz := Z_neg (show ¬ (¬ n32 apart = 0) from (fun z => z hc)) hz
          refine R_iconst (pc := 56) (a := 0) (dc k_M_partOf 17 rfl) ?_
          exact R_iret (pc := 57) (dc k_M_partOf 18 rfl) rfl rfl rfl ⟨_, rfl, rfl, (Z_some hz)⟩
        · have hz := Z_pos (show ¬ n32 apart = 0 from hc) hz
          refine R_iconst (pc := 52) (a := 1) (dc k_M_partOf 15 rfl) ?_
          refine R_goto (pc := 53) 57 (dc k_M_partOf 16 rfl) rfl ?_
          exact R_iret (pc := 57) (dc k_M_partOf 18 rfl) rfl rfl rfl ⟨_, rfl, rfl, (Z_some hz)⟩
      · have hz := Z_neg hs_7 hz
        by_cases hs_9 : n32 (M 106 (Int.toNat k)) = 14
        · have hz := Z_pos hs_9 hz
          refine R_tabIn (pc := 6) 58 (dc k_M_partOf 4 rfl) hs_9 (by decide) (by decide) rfl rfl ?_
          refine R_aload_n (pc := 58) 0 (dc k_M_partOf 19 rfl) rfl rfl ?_
          refine R_iload_n (pc := 59) 2 (dc k_M_partOf 20 rfl) rfl rfl ?_
          refine R_cVP (pc := 60)  (As := [vI set_]) (S := []) ck_M_467 (dc k_M_partOf 21 rfl) ⟨rfl, ⟨_, rfl, rfl⟩, (lb rfl), (Nat.le_trans (lb rfl) hn)⟩ (lb rfl) (lb rfl) (lb rfl) rfl (ct_M_tiedIn hE hn (Z_bind hz)) (fun r_8 hz => ?_)
          exact R_iret (pc := 63) (dc k_M_partOf 22 rfl) rfl rfl rfl ⟨_, rfl, rfl, (Z_some hz)⟩
        · have hz := Z_neg hs_9 hz
          have hr : n32 (M 106 (Int.toNat k)) < 11 ∨ 14 < n32 (M 106 (Int.toNat k)) := by omega
          refine R_tabOut (pc := 6) 64 (dc k_M_partOf 4 rfl) hr rfl ?_
          refine R_iload (pc := 64) 4 (dc k_M_partOf 23 rfl) rfl ?_
          refine R_if_eq (pc := 66) 73 (dc k_M_partOf 24 rfl) rfl (fun hc => ?_) (fun hc => ?_)
          · have hz := Z_neg (show ¬ (¬ n32 surely = 0) from (fun z => z hc)) hz
            refine R_iconst (pc := 73) (a := 1) (dc k_M_partOf 27 rfl) ?_
            exact R_iret (pc := 74) (dc k_M_partOf 28 rfl) rfl rfl rfl ⟨_, rfl, rfl, (Z_some hz)⟩
          · have hz := Z_pos (show ¬ n32 surely = 0 from hc) hz
            refine R_iconst (pc := 69) (a := 0) (dc k_M_partOf 25 rfl) ?_
            refine R_goto (pc := 70) 74 (dc k_M_partOf 26 rfl) rfl ?_
            exact R_iret (pc := 74) (dc k_M_partOf 28 rfl) rfl rfl rfl ⟨_, rfl, rfl, (Z_some hz)⟩

set_option maxRecDepth 20000 in
theorem ct_M_two {E : Nat → Bool} {n : Nat} (hE : ∀ c, 81 ≤ c → c ≤ 138 → E c = true) (hn : 138 ≤ n) {c : Int} {a : Int} {b : Int} {M : Mem} {K : Int → Prop} (hz : Z (M_two c a b M) K) : Mt y_M_two (0, 0, n, n, E) E [vI c, vI a, vI b] M (qP M K) := by
  refine Mt.of (by decide) (lb rfl) (Nat.le_refl _) rfl ?_
  rw [M_two] at hz
  show Rr y_M_two (0, 0, n, n, E) (qP M K) 0 [(0, vI c), (1, vI a), (2, vI b)] [] E n M
  refine R_iload_n (pc := 0) 0 (dc k_M_two 0 rfl) rfl rfl ?_
  by_cases hs_7 : n32 c = 7
  · have hz := Z_pos hs_7 hz
    refine R_lookup (pc := 1) 52 (dc k_M_two 1 rfl) rfl (by rw [hs_7]) rfl ?_
    refine R_iload_n (pc := 52) 1 (dc k_M_two 2 rfl) rfl rfl ?_
    have hX_1 : ((¬ n32 a = 0) ∨ (¬ n32 b = 0)) → Rr y_M_two (0, 0, n, n, E) (qP M K) 60 [(0, vI c), (1, vI a), (2, vI b)] [] E n M := by
      intro hc
      have hz := Z_pos hc hz
      refine R_iconst (pc := 60) (a := 1) (dc k_M_two 6 rfl) ?_
      refine R_goto (pc := 61) 65 (dc k_M_two 7 rfl) rfl ?_
      exact R_iret (pc := 65) (dc k_M_two 9 rfl) rfl rfl rfl ⟨_, rfl, rfl, (Z_some hz)⟩
    have hY_2 : ¬ ((¬ n32 a = 0) ∨ (¬ n32 b = 0)) → Rr y_M_two (0, 0, n, n, E) (qP M K) 64 [(0, vI c), (1, vI a), (2, vI b)] [] E n M := by
      intro hc
      have hz := Z_neg hc hz
      refine R_iconst (pc := 64) (a := 0) (dc k_M_two 8 rfl) ?_
      exact R_iret (pc := 65) (dc k_M_two 9 rfl) rfl rfl rfl ⟨_, rfl, rfl, (Z_some hz)⟩
    refine R_if_ne (pc := 53) 60 (dc k_M_two 3 rfl) rfl (fun hc => ?_) (fun hc => ?_)
    · have hc_3 : ¬ n32 a = 0 := hc
      exact hX_1 (Or.inl hc_3)
    · have hc_4 : n32 a = 0 := (Decidable.not_not.mp hc)
      refine R_iload_n (pc := 56) 2 (dc k_M_two 4 rfl) rfl rfl ?_
      refine R_if_eq (pc := 57) 64 (dc k_M_two 5 rfl) rfl (fun hc => ?_) (fun hc => ?_)
      · have hc_5 : n32 b = 0 := hc
        exact hY_2 (fun z => z.elim (fun z => z hc_4) (fun z => z hc_5))
      · have hc_6 : ¬ n32 b = 0 := hc
        exact hX_1 (Or.inr hc_6)
  · have hz := Z_neg hs_7 hz
    by_cases hs_8 : n32 c = 43
    · have hz := Z_pos hs_8 hz
      refine R_lookup (pc := 1) 66 (dc k_M_two 1 rfl) rfl (by rw [hs_8]) rfl ?_
      refine R_iload_n (pc := 66) 1 (dc k_M_two 10 rfl) rfl rfl ?_
      refine R_iload_n (pc := 67) 2 (dc k_M_two 11 rfl) rfl rfl ?_
      refine R_iadd (pc := 68) (dc k_M_two 12 rfl) ?_
      exact R_iret (pc := 69) (dc k_M_two 13 rfl) rfl rfl rfl ⟨_, rfl, rfl, (Z_some hz)⟩
    · have hz := Z_neg hs_8 hz
      by_cases hs_9 : n32 c = 45
      · have hz := Z_pos hs_9 hz
        refine R_lookup (pc := 1) 70 (dc k_M_two 1 rfl) rfl (by rw [hs_9]) rfl ?_
        refine R_iload_n (pc := 70) 1 (dc k_M_two 14 rfl) rfl rfl ?_
        refine R_iload_n (pc := 71) 2 (dc k_M_two 15 rfl) rfl rfl ?_
        refine R_isub (pc := 72) (dc k_M_two 16 rfl) ?_
        exact R_iret (pc := 73) (dc k_M_two 17 rfl) rfl rfl rfl ⟨_, rfl, rfl, (Z_some hz)⟩
      · have hz := Z_neg hs_9 hz
        by_cases hs_11 : n32 c = 60
        · have hz := Z_pos hs_11 hz
          refine R_lookup (pc := 1) 74 (dc k_M_two 1 rfl) rfl (by rw [hs_11]) rfl ?_
          refine R_iload_n (pc := 74) 1 (dc k_M_two 18 rfl) rfl rfl ?_
          refine R_iload_n (pc := 75) 2 (dc k_M_two 19 rfl) rfl rfl ?_
          refine R_icmp_ge (pc := 76) 83 (dc k_M_two 20 rfl) rfl (fun hc => ?_) (fun hc => ?_)
          · have hz := Z_neg (show ¬ (n32 a < n32 b) from (Int.not_lt.mpr hc)) hz
            refine R_iconst (pc := 83) (a := 0) (dc k_M_two 23 rfl) ?_
            exact R_iret (pc := 84) (dc k_M_two 24 rfl) rfl rfl rfl ⟨_, rfl, rfl, (Z_some hz)⟩
          · have hz := Z_pos (show n32 a < n32 b from (Int.not_le.mp hc)) hz
            refine R_iconst (pc := 79) (a := 1) (dc k_M_two 21 rfl) ?_
            refine R_goto (pc := 80) 84 (dc k_M_two 22 rfl) rfl ?_
            exact R_iret (pc := 84) (dc k_M_two 24 rfl) rfl rfl rfl ⟨_, rfl, rfl, (Z_some hz)⟩
        · have hz := Z_neg hs_11 hz
          by_cases hs_13 : n32 c = 62
          · have hz := Z_pos hs_13 hz
            refine R_lookup (pc := 1) 85 (dc k_M_two 1 rfl) rfl (by rw [hs_13]) rfl ?_
            refine R_iload_n (pc := 85) 1 (dc k_M_two 25 rfl) rfl rfl ?_
            refine R_iload_n (pc := 86) 2 (dc k_M_two 26 rfl) rfl rfl ?_
            refine R_icmp_le (pc := 87) 94 (dc k_M_two 27 rfl) rfl (fun hc => ?_) (fun hc => ?_)
            · have hz := Z_neg (show ¬ (n32 b < n32 a) from (Int.not_lt.mpr hc)) hz
              refine R_iconst (pc := 94) (a := 0) (dc k_M_two 30 rfl) ?_
              exact R_iret (pc := 95) (dc k_M_two 31 rfl) rfl rfl rfl ⟨_, rfl, rfl, (Z_some hz)⟩
            · have hz := Z_pos (show n32 b < n32 a from (Int.not_le.mp hc)) hz
              refine R_iconst (pc := 90) (a := 1) (dc k_M_two 28 rfl) ?_
              refine R_goto (pc := 91) 95 (dc k_M_two 29 rfl) rfl ?_
              exact R_iret (pc := 95) (dc k_M_two 31 rfl) rfl rfl rfl ⟨_, rfl, rfl, (Z_some hz)⟩
          · have hz := Z_neg hs_13 hz
            refine R_lookup (pc := 1) 96 (dc k_M_two 1 rfl) rfl (off := 95) (by simp [Op.lookupswitch.offset, Ne.symm hs_7, Ne.symm hs_8, Ne.symm hs_9, Ne.symm hs_11, Ne.symm hs_13]) rfl ?_
            refine R_iload_n (pc := 96) 1 (dc k_M_two 32 rfl) rfl rfl ?_
            refine R_iload_n (pc := 97) 2 (dc k_M_two 33 rfl) rfl rfl ?_
            refine R_icmp_ne (pc := 98) 105 (dc k_M_two 34 rfl) rfl (fun hc => ?_) (fun hc => ?_)
            · have hz := Z_neg (show ¬ (n32 a = n32 b) from hc) hz
              refine R_iconst (pc := 105) (a := 0) (dc k_M_two 37 rfl) ?_
              exact R_iret (pc := 106) (dc k_M_two 38 rfl) rfl rfl rfl ⟨_, rfl, rfl, (Z_some hz)⟩
            · have hz := Z_pos (show n32 a = n32 b from (Decidable.not_not.mp hc)) hz
              refine R_iconst (pc := 101) (a := 1) (dc k_M_two 35 rfl) ?_
              refine R_goto (pc := 102) 106 (dc k_M_two 36 rfl) rfl ?_
              exact R_iret (pc := 106) (dc k_M_two 38 rfl) rfl rfl rfl ⟨_, rfl, rfl, (Z_some hz)⟩

set_option maxRecDepth 20000 in
theorem ct_M_mayLie {E : Nat → Bool} {n : Nat} (hE : ∀ c, 81 ≤ c → c ≤ 138 → E c = true) (hn : 138 ≤ n) {set_ : Int} {apart : Int} {surely : Int} {M : Mem} {K : Int × Mem → Prop} (hz : Z (M_mayLie set_ apart surely M) K) : Mt y_M_mayLie (2, 46, n, n, E) E [vR 81, vI set_, vI apart, vI surely] M (qM K) := by
  refine Mt.of (by decide) (lb rfl) (Nat.le_refl _) rfl ?_
  rw [M_mayLie] at hz
  show Rr y_M_mayLie (2, 46, n, n, E) (qM K) 0 [(0, vR 81), (1, vI set_), (2, vI apart), (3, vI surely)] [] E n M
  refine R_aload_n (pc := 0) 0 (dc k_M_mayLie 0 rfl) rfl rfl ?_
  refine R_getS (pc := 1) (ci := 10) (k := 18) 91 (dc k_M_mayLie 1 rfl) fl_M_42 rfl (lb rfl) (Nat.le_trans (lb rfl) hn) (hE 81 (lb rfl) (lb rfl)) rfl (by decide) rfl ?_
  refine R_aload_n (pc := 4) 0 (dc k_M_mayLie 2 rfl) rfl rfl ?_
  refine R_getI (pc := 5) (ci := 10) (k := 38) (dc k_M_mayLie 3 rfl) fl_M_304 rfl (lb rfl) (Nat.le_trans (lb rfl) hn) rfl (Or.inl rfl) ?_
  obtain ⟨⟨hg_1, hg_2⟩, hz⟩ := Z_chk hz
  refine R_zald (pc := 8) (dc k_M_mayLie 4 rfl) rfl (lb rfl) (Nat.le_trans (lb rfl) hn) hg_1 hg_2 ?_
  refine R_if_ne (pc := 9) 26 (dc k_M_mayLie 5 rfl) rfl (fun hc => ?_) (fun hc => ?_)
  · have hz := Z_neg (show ¬ (n32 (M 91 (Int.toNat (M 81 38))) = 0) from hc) hz
    refine R_bipush (pc := 26) (a := 17) (dc k_M_mayLie 14 rfl) (by decide) ?_
    refine R_aload_n (pc := 28) 0 (dc k_M_mayLie 15 rfl) rfl rfl ?_
    refine R_getI (pc := 29) (ci := 10) (k := 38) (dc k_M_mayLie 16 rfl) fl_M_304 rfl (lb rfl) (Nat.le_trans (lb rfl) hn) rfl (Or.inl rfl) ?_
    refine R_imul (pc := 32) (dc k_M_mayLie 17 rfl) ?_
    refine R_bipush (pc := 33) (a := 16) (dc k_M_mayLie 18 rfl) (by decide) ?_
    refine R_iadd (pc := 35) (dc k_M_mayLie 19 rfl) ?_
    obtain ⟨l4_5, hl4_5, hz⟩ := Z_lt hz
    refine R_istoreE (pc := 36) (L' := [(4, vI l4_5), (0, vR 81), (1, vI set_), (2, vI apart), (3, vI surely)]) (dc k_M_mayLie 20 rfl) (lb rfl) hl4_5 rfl ?_
    refine R_iconst (pc := 38) (a := 0) (dc k_M_mayLie 21 rfl) ?_
    refine R_istore (pc := 39) (L' := [(5, vI 0), (4, vI l4_5), (0, vR 81), (1, vI set_), (2, vI apart), (3, vI surely)]) (dc k_M_mayLie 22 rfl) (lb rfl) rfl ?_
    refine R_aload_n (pc := 41) 2 (dc k_M_mayLie 23 rfl) rfl rfl ?_
    refine R_getS (pc := 42) (ci := 10) (k := 31) 104 (dc k_M_mayLie 24 rfl) fl_M_83 rfl (lb rfl) (Nat.le_trans (lb rfl) hn) (hE 81 (lb rfl) (lb rfl)) rfl (by decide) rfl ?_
    refine R_iload (pc := 45) 1 (dc k_M_mayLie 25 rfl) rfl ?_
    obtain ⟨⟨hg_6, hg_7⟩, hz⟩ := Z_chk hz
    refine R_iald (pc := 47) (dc k_M_mayLie 26 rfl) rfl (lb rfl) (Nat.le_trans (lb rfl) hn) hg_6 hg_7 ?_
    obtain ⟨l6_8, hl6_8, hz⟩ := Z_lt hz
    refine R_istoreE (pc := 48) (L' := [(6, vI l6_8), (5, vI 0), (4, vI l4_5), (0, vR 81), (1, vI set_), (2, vI apart), (3, vI surely)]) (dc k_M_mayLie 27 rfl) (lb rfl) hl6_8 rfl ?_
    obtain ⟨K_12, hK_13, hz⟩ := Z_cut hz
    have hX_14 : ∀ (M_18 : Mem), K_12 M_18 → Rr y_M_mayLie (2, 46, n, n, E) (qM K) 145 [(0, vR 81)] [] E n M_18 := by
      intro M_18 hk
      have hz := hK_13 _ hk
      refine R_aload_n (pc := 145) 0 (dc k_M_mayLie 78 rfl) rfl rfl ?_
      refine R_getS (pc := 146) (ci := 10) (k := 50) 115 (dc k_M_mayLie 79 rfl) fl_M_116 rfl (lb rfl) (Nat.le_trans (lb rfl) hn) (hE 81 (lb rfl) (lb rfl)) rfl (by decide) rfl ?_
      refine R_iconst (pc := 149) (a := 0) (dc k_M_mayLie 80 rfl) ?_
      refine R_iald (pc := 150) (dc k_M_mayLie 81 rfl) rfl (lb rfl) (Nat.le_trans (lb rfl) hn) (by decide) (by decide) ?_
      refine R_if_eq (pc := 151) 158 (dc k_M_mayLie 82 rfl) rfl (fun hc => ?_) (fun hc => ?_)
      · have hz := Z_neg (show ¬ (¬ n32 (M_18 115 (Int.toNat 0)) = 0) from (fun z => z hc)) hz
        refine R_iconst (pc := 158) (a := 0) (dc k_M_mayLie 85 rfl) ?_
        exact R_zret (pc := 159) (dc k_M_mayLie 86 rfl) rfl (Or.inl rfl) rfl rfl ⟨_, rfl, (Z_some hz)⟩
      · have hz := Z_pos (show ¬ n32 (M_18 115 (Int.toNat 0)) = 0 from hc) hz
        refine R_iconst (pc := 154) (a := 1) (dc k_M_mayLie 83 rfl) ?_
        refine R_goto (pc := 155) 159 (dc k_M_mayLie 84 rfl) rfl ?_
        exact R_zret (pc := 159) (dc k_M_mayLie 86 rfl) rfl (Or.inr rfl) rfl rfl ⟨_, rfl, (Z_some hz)⟩
    refine R_sub [3, 4, 5, 6, 2, 1, 0] rfl ?_
    refine it_R (C := fun aZ : Int × Int × Mem => Rr y_M_mayLie (2, 46, n, n, E) (qM K) 50 [(0, vR 81), (1, vI set_), (2, vI apart), (3, vI surely), (4, vI l4_5), (5, vI aZ.1), (6, vI aZ.2.1)] [] E n aZ.2.2) (fun aZ K_15 hC_16 hB_17 hz => ?_) FUEL (0, l6_8, M) hz
    obtain ⟨l5_9, l6_10, M_11⟩ := aZ
    rw [M_mayLie_b50] at hz
    show Rr y_M_mayLie (2, 46, n, n, E) (qM K) 50 [(0, vR 81), (1, vI set_), (2, vI apart), (3, vI surely), (4, vI l4_5), (5, vI l5_9), (6, vI l6_10)] [] E n M_11
    refine R_iload (pc := 50) 6 (dc k_M_mayLie 28 rfl) rfl ?_
    refine R_aload_n (pc := 52) 0 (dc k_M_mayLie 29 rfl) rfl rfl ?_
    refine R_getS (pc := 53) (ci := 10) (k := 32) 105 (dc k_M_mayLie 30 rfl) fl_M_86 rfl (lb rfl) (Nat.le_trans (lb rfl) hn) (hE 81 (lb rfl) (lb rfl)) rfl (by decide) rfl ?_
    refine R_iload (pc := 56) 4 (dc k_M_mayLie 31 rfl) rfl ?_
    refine R_iald (pc := 58) (dc k_M_mayLie 32 rfl) rfl (lb rfl) (Nat.le_trans (lb rfl) hn) hg_6 hg_7 ?_
    refine R_icmp_ge (pc := 59) 145 (dc k_M_mayLie 33 rfl) rfl (fun hc => ?_) (fun hc => ?_)
    · have hz := Z_neg (show ¬ (n32 l6_10 < n32 (M_11 105 (Int.toNat l4_5))) from (Int.not_lt.mpr hc)) hz
      refine R_sub [0] rfl ?_
      exact hX_14 _ (hB_17 _ (Z_some hz))
    · have hz := Z_pos (show n32 l6_10 < n32 (M_11 105 (Int.toNat l4_5)) from (Int.not_le.mp hc)) hz
      refine R_aload_n (pc := 62) 0 (dc k_M_mayLie 34 rfl) rfl rfl ?_
      refine R_getS (pc := 63) (ci := 10) (k := 33) 106 (dc k_M_mayLie 35 rfl) fl_M_89 rfl (lb rfl) (Nat.le_trans (lb rfl) hn) (hE 81 (lb rfl) (lb rfl)) rfl (by decide) rfl ?_
      refine R_iload (pc := 66) 6 (dc k_M_mayLie 36 rfl) rfl ?_
      obtain ⟨⟨hg_19, hg_20⟩, hz⟩ := Z_chk hz
      refine R_iald (pc := 68) (dc k_M_mayLie 37 rfl) rfl (lb rfl) (Nat.le_trans (lb rfl) hn) hg_19 hg_20 ?_
      refine R_bipush (pc := 69) (a := 11) (dc k_M_mayLie 38 rfl) (by decide) ?_
      refine R_bipush (pc := 71) (a := 15) (dc k_M_mayLie 39 rfl) (by decide) ?_
      refine R_cSP (pc := 73)  (As := [vI (M_11 106 (Int.toNat l6_10)), vI 11, vI 15]) (S := []) ck_M_418 (dc k_M_mayLie 40 rfl) (lb rfl) (lb rfl) (lb rfl) rfl (ct_M_isIn hE hn (Z_bind hz)) (fun r_21 hz => ?_)
      obtain ⟨K_24, hK_25, hz⟩ := Z_cut hz
      have hJ_26 : ∀ (l5_22 : Int) (M_23 : Mem), K_24 (l5_22, M_23) → Rr y_M_mayLie (2, 46, n, n, E) (qM K) 139 [(0, vR 81), (1, vI set_), (2, vI apart), (3, vI surely), (4, vI l4_5), (5, vI l5_22), (6, vI l6_10)] [] E n M_23 := by
        intro l5_22 M_23 hk
        have hz := hK_25 _ hk
        obtain ⟨l6_40, hl6_40, hz⟩ := Z_lt hz
        refine R_iincE (pc := 139) (L' := [(6, vI l6_40), (0, vR 81), (1, vI set_), (2, vI apart), (3, vI surely), (4, vI l4_5), (5, vI l5_22)]) 6 (dc k_M_mayLie 76 rfl) rfl (lb rfl) hl6_40 rfl ?_
        refine R_goto (pc := 142) 50 (dc k_M_mayLie 77 rfl) rfl ?_
        refine R_sub [1, 2, 3, 4, 5, 6, 0] rfl ?_
        exact hC_16 _ (Z_some hz)
      refine R_if_eq (pc := 76) 101 (dc k_M_mayLie 41 rfl) rfl (fun hc => ?_) (fun hc => ?_)
      · have hz := Z_neg (show ¬ (¬ n32 r_21 = 0) from (fun z => z hc)) hz
        obtain ⟨l5_32, hl5_32, hz⟩ := Z_lt hz
        refine R_iincE (pc := 101) (L' := [(5, vI l5_32), (0, vR 81), (1, vI set_), (2, vI apart), (3, vI surely), (4, vI l4_5), (6, vI l6_10)]) 5 (dc k_M_mayLie 54 rfl) rfl (lb rfl) hl5_32 rfl ?_
        refine R_aload_n (pc := 104) 1 (dc k_M_mayLie 55 rfl) rfl rfl ?_
        refine R_getS (pc := 105) (ci := 10) (k := 50) 115 (dc k_M_mayLie 56 rfl) fl_M_116 rfl (lb rfl) (Nat.le_trans (lb rfl) hn) (hE 81 (lb rfl) (lb rfl)) rfl (by decide) rfl ?_
        refine R_iload (pc := 108) 0 (dc k_M_mayLie 57 rfl) rfl ?_
        refine R_iconst (pc := 110) (a := 1) (dc k_M_mayLie 58 rfl) ?_
        refine R_isub (pc := 111) (dc k_M_mayLie 59 rfl) ?_
        refine R_aload_n (pc := 112) 1 (dc k_M_mayLie 60 rfl) rfl rfl ?_
        refine R_getS (pc := 113) (ci := 10) (k := 33) 106 (dc k_M_mayLie 61 rfl) fl_M_89 rfl (lb rfl) (Nat.le_trans (lb rfl) hn) (hE 81 (lb rfl) (lb rfl)) rfl (by decide) rfl ?_
        refine R_iload (pc := 116) 6 (dc k_M_mayLie 62 rfl) rfl ?_
        refine R_iald (pc := 118) (dc k_M_mayLie 63 rfl) rfl (lb rfl) (Nat.le_trans (lb rfl) hn) hg_19 hg_20 ?_
        refine R_aload_n (pc := 119) 1 (dc k_M_mayLie 64 rfl) rfl rfl ?_
        refine R_getS (pc := 120) (ci := 10) (k := 50) 115 (dc k_M_mayLie 65 rfl) fl_M_116 rfl (lb rfl) (Nat.le_trans (lb rfl) hn) (hE 81 (lb rfl) (lb rfl)) rfl (by decide) rfl ?_
        refine R_iload (pc := 123) 0 (dc k_M_mayLie 66 rfl) rfl ?_
        refine R_iconst (pc := 125) (a := 1) (dc k_M_mayLie 67 rfl) ?_
        refine R_isub (pc := 126) (dc k_M_mayLie 68 rfl) ?_
        obtain ⟨⟨hg_33, hg_34⟩, hz⟩ := Z_chk hz
        refine R_iald (pc := 127) (dc k_M_mayLie 69 rfl) rfl (lb rfl) (Nat.le_trans (lb rfl) hn) hg_33 hg_34 ?_
        refine R_aload_n (pc := 128) 1 (dc k_M_mayLie 70 rfl) rfl rfl ?_
        refine R_getS (pc := 129) (ci := 10) (k := 50) 115 (dc k_M_mayLie 71 rfl) fl_M_116 rfl (lb rfl) (Nat.le_trans (lb rfl) hn) (hE 81 (lb rfl) (lb rfl)) rfl (by decide) rfl ?_
        refine R_iload (pc := 132) 0 (dc k_M_mayLie 72 rfl) rfl ?_
        obtain ⟨⟨hg_35, hg_36⟩, hz⟩ := Z_chk hz
        refine R_iald (pc := 134) (dc k_M_mayLie 73 rfl) rfl (lb rfl) (Nat.le_trans (lb rfl) hn) hg_35 hg_36 ?_
        refine R_cSP (pc := 135)  (As := [vI (M_11 106 (Int.toNat l6_10)), vI (M_11 115 (Int.toNat (l5_32 - 1))), vI (M_11 115 (Int.toNat l5_32))]) (S := [vI (l5_32 - 1), vR 115]) ck_M_474 (dc k_M_mayLie 74 rfl) (lb rfl) (lb rfl) (lb rfl) rfl (ct_M_two hE hn (Z_bind hz)) (fun r_37 hz => ?_)
        obtain ⟨M_38, hM_38, hz⟩ := Z_lt hz
        refine R_iastE (pc := 138) (dc k_M_mayLie 75 rfl) rfl (lb rfl) (Nat.le_trans (lb rfl) hn) hg_33 hg_34 hM_38 ?_
        refine R_sub [1, 2, 3, 4, 5, 0, 6] rfl ?_
        exact hJ_26 _ _ (Z_some hz)
      · have hz := Z_pos (show ¬ n32 r_21 = 0 from hc) hz
        refine R_aload_n (pc := 79) 0 (dc k_M_mayLie 42 rfl) rfl rfl ?_
        refine R_getS (pc := 80) (ci := 10) (k := 50) 115 (dc k_M_mayLie 43 rfl) fl_M_116 rfl (lb rfl) (Nat.le_trans (lb rfl) hn) (hE 81 (lb rfl) (lb rfl)) rfl (by decide) rfl ?_
        refine R_iload (pc := 83) 5 (dc k_M_mayLie 44 rfl) rfl ?_
        refine R_aload_n (pc := 85) 0 (dc k_M_mayLie 45 rfl) rfl rfl ?_
        refine R_iload (pc := 86) 6 (dc k_M_mayLie 46 rfl) rfl ?_
        refine R_iload_n (pc := 88) 1 (dc k_M_mayLie 47 rfl) rfl rfl ?_
        refine R_iload_n (pc := 89) 2 (dc k_M_mayLie 48 rfl) rfl rfl ?_
        refine R_iload_n (pc := 90) 3 (dc k_M_mayLie 49 rfl) rfl rfl ?_
        refine R_cVP (pc := 91)  (As := [vI l6_10, vI set_, vI apart, vI surely]) (S := [vI l5_9, vR 115]) ck_M_470 (dc k_M_mayLie 50 rfl) ⟨rfl, ⟨_, rfl, rfl⟩, (lb rfl), (Nat.le_trans (lb rfl) hn)⟩ (lb rfl) (lb rfl) (lb rfl) rfl (ct_M_partOf hE hn (Z_bind hz)) (fun r_27 hz => ?_)
        obtain ⟨⟨hg_28, hg_29⟩, hz⟩ := Z_chk hz
        obtain ⟨M_30, hM_30, hz⟩ := Z_lt hz
        refine R_iastE (pc := 94) (dc k_M_mayLie 51 rfl) rfl (lb rfl) (Nat.le_trans (lb rfl) hn) hg_28 hg_29 hM_30 ?_
        obtain ⟨l5_31, hl5_31, hz⟩ := Z_lt hz
        refine R_iincE (pc := 95) (L' := [(5, vI l5_31), (0, vR 81), (1, vI set_), (2, vI apart), (3, vI surely), (4, vI l4_5), (6, vI l6_10)]) 5 (dc k_M_mayLie 52 rfl) rfl (lb rfl) hl5_31 rfl ?_
        refine R_goto (pc := 98) 139 (dc k_M_mayLie 53 rfl) rfl ?_
        refine R_sub [1, 2, 3, 4, 5, 0, 6] rfl ?_
        exact hJ_26 _ _ (Z_some hz)
  · have hz := Z_pos (show n32 (M 91 (Int.toNat (M 81 38))) = 0 from (Decidable.not_not.mp hc)) hz
    refine R_iload_n (pc := 12) 1 (dc k_M_mayLie 6 rfl) rfl rfl ?_
    refine R_cSP (pc := 13)  (As := [vI set_]) (S := []) ck_M_464 (dc k_M_mayLie 7 rfl) (lb rfl) (lb rfl) (lb rfl) rfl (ct_M_bitsOf hE hn (Z_bind hz)) (fun r_3 hz => ?_)
    refine R_iconst (pc := 16) (a := 1) (dc k_M_mayLie 8 rfl) ?_
    refine R_icmp_le (pc := 17) 24 (dc k_M_mayLie 9 rfl) rfl (fun hc => ?_) (fun hc => ?_)
    · have hz := Z_neg (show ¬ (1 < n32 r_3) from (Int.not_lt.mpr hc)) hz
      refine R_iconst (pc := 24) (a := 0) (dc k_M_mayLie 12 rfl) ?_
      exact R_zret (pc := 25) (dc k_M_mayLie 13 rfl) rfl (Or.inl rfl) rfl rfl ⟨_, rfl, (Z_some hz)⟩
    · have hz := Z_pos (show 1 < n32 r_3 from (Int.not_le.mp hc)) hz
      refine R_iconst (pc := 20) (a := 1) (dc k_M_mayLie 10 rfl) ?_
      refine R_goto (pc := 21) 25 (dc k_M_mayLie 11 rfl) rfl ?_
      exact R_zret (pc := 25) (dc k_M_mayLie 13 rfl) rfl (Or.inr rfl) rfl rfl ⟨_, rfl, (Z_some hz)⟩

set_option maxRecDepth 20000 in
theorem ct_M_lies {E : Nat → Bool} {n : Nat} (hE : ∀ c, 81 ≤ c → c ≤ 138 → E c = true) (hn : 138 ≤ n) {set_ : Int} {apart : Int} {surely : Int} {M : Mem} {K : Int × Mem → Prop} (hz : Z (M_lies set_ apart surely M) K) : Mt y_M_lies (3, 72, n, n, E) E [vR 81, vI set_, vI apart, vI surely] M (qM K) := by
  refine Mt.of (by decide) (lb rfl) (Nat.le_refl _) rfl ?_
  rw [M_lies] at hz
  show Rr y_M_lies (3, 72, n, n, E) (qM K) 0 [(0, vR 81), (1, vI set_), (2, vI apart), (3, vI surely)] [] E n M
  refine R_aload_n (pc := 0) 0 (dc k_M_lies 0 rfl) rfl rfl ?_
  refine R_iload_n (pc := 1) 1 (dc k_M_lies 1 rfl) rfl rfl ?_
  refine R_cVP (pc := 2)  (As := [vI set_]) (S := []) ck_M_481 (dc k_M_lies 2 rfl) ⟨rfl, ⟨_, rfl, rfl⟩, (lb rfl), (Nat.le_trans (lb rfl) hn)⟩ (lb rfl) (lb rfl) (lb rfl) rfl (ct_M_areSome hE hn (Z_bind hz)) (fun r_1 hz => ?_)
  refine R_if_ne (pc := 5) 12 (dc k_M_lies 3 rfl) rfl (fun hc => ?_) (fun hc => ?_)
  · have hz := Z_neg (show ¬ (n32 r_1 = 0) from hc) hz
    refine R_aload_n (pc := 12) 0 (dc k_M_lies 6 rfl) rfl rfl ?_
    refine R_iload_n (pc := 13) 1 (dc k_M_lies 7 rfl) rfl rfl ?_
    refine R_iload_n (pc := 14) 2 (dc k_M_lies 8 rfl) rfl rfl ?_
    refine R_iload_n (pc := 15) 3 (dc k_M_lies 9 rfl) rfl rfl ?_
    refine R_cVM (pc := 16)  (As := [vI set_, vI apart, vI surely]) (S := []) ck_M_477 (dc k_M_lies 10 rfl) ⟨rfl, ⟨_, rfl, rfl⟩, (lb rfl), (Nat.le_trans (lb rfl) hn)⟩ (lb rfl) (lb rfl) (lb rfl) rfl (ct_M_mayLie hE hn (Z_bind hz)) (fun r_2 M_3 hz => ?_)
    refine R_if_eq (pc := 19) 26 (dc k_M_lies 11 rfl) rfl (fun hc => ?_) (fun hc => ?_)
    · have hz := Z_neg (show ¬ (¬ n32 r_2 = 0) from (fun z => z hc)) hz
      refine R_iconst (pc := 26) (a := 0) (dc k_M_lies 14 rfl) ?_
      exact R_iret (pc := 27) (dc k_M_lies 15 rfl) rfl rfl rfl ⟨_, rfl, (Z_some hz)⟩
    · have hz := Z_pos (show ¬ n32 r_2 = 0 from hc) hz
      refine R_iconst (pc := 22) (a := 1) (dc k_M_lies 12 rfl) ?_
      refine R_goto (pc := 23) 27 (dc k_M_lies 13 rfl) rfl ?_
      exact R_iret (pc := 27) (dc k_M_lies 15 rfl) rfl rfl rfl ⟨_, rfl, (Z_some hz)⟩
  · have hz := Z_pos (show n32 r_1 = 0 from (Decidable.not_not.mp hc)) hz
    refine R_iconst (pc := 8) (a := (-1)) (dc k_M_lies 4 rfl) ?_
    refine R_goto (pc := 9) 27 (dc k_M_lies 5 rfl) rfl ?_
    exact R_iret (pc := 27) (dc k_M_lies 15 rfl) rfl rfl rfl ⟨_, rfl, (Z_some hz)⟩

set_option maxRecDepth 20000 in
theorem ct_M_canSay {E : Nat → Bool} {n : Nat} (hE : ∀ c, 81 ≤ c → c ≤ 138 → E c = true) (hn : 138 ≤ n) {set_ : Int} {r : Int} {apart : Int} {surely : Int} {w : Int} {M : Mem} {K : Int × Mem → Prop} (hz : Z (M_canSay set_ r apart surely w M) K) : Mt y_M_canSay (3, 72, n, n, E) E [vR 81, vI set_, vI r, vI apart, vI surely, vI w] M (qM K) := by
  refine Mt.of (by decide) (lb rfl) (Nat.le_refl _) rfl ?_
  rw [M_canSay] at hz
  show Rr y_M_canSay (3, 72, n, n, E) (qM K) 0 [(0, vR 81), (1, vI set_), (2, vI r), (3, vI apart), (4, vI surely), (5, vI w)] [] E n M
  refine R_aload_n (pc := 0) 0 (dc k_M_canSay 0 rfl) rfl rfl ?_
  refine R_iload_n (pc := 1) 1 (dc k_M_canSay 1 rfl) rfl rfl ?_
  refine R_iload_n (pc := 2) 3 (dc k_M_canSay 2 rfl) rfl rfl ?_
  refine R_iload (pc := 3) 4 (dc k_M_canSay 3 rfl) rfl ?_
  refine R_cVM (pc := 5)  (As := [vI set_, vI apart, vI surely]) (S := []) ck_M_477 (dc k_M_canSay 4 rfl) ⟨rfl, ⟨_, rfl, rfl⟩, (lb rfl), (Nat.le_trans (lb rfl) hn)⟩ (lb rfl) (lb rfl) (lb rfl) rfl (ct_M_mayLie hE hn (Z_bind hz)) (fun r_1 M_2 hz => ?_)
  refine R_if_eq (pc := 8) 13 (dc k_M_canSay 5 rfl) rfl (fun hc => ?_) (fun hc => ?_)
  · have hz := Z_neg (show ¬ (¬ n32 r_1 = 0) from (fun z => z hc)) hz
    refine R_iconst (pc := 13) (a := 0) (dc k_M_canSay 8 rfl) ?_
    refine R_istore (pc := 14) (L' := [(6, vI 0), (0, vR 81), (1, vI set_), (2, vI r), (3, vI apart), (4, vI surely), (5, vI w)]) (dc k_M_canSay 9 rfl) (lb rfl) rfl ?_
    obtain ⟨K_4, hK_5, hz⟩ := Z_cut hz
    have hX_6 : K_4 (.inl ()) → Rr y_M_canSay (3, 72, n, n, E) (qM K) 76 [] [] E n M_2 := by
      intro  hk
      have hz := hK_5 _ hk
      refine R_iconst (pc := 76) (a := 1) (dc k_M_canSay 41 rfl) ?_
      exact R_zret (pc := 77) (dc k_M_canSay 42 rfl) rfl (Or.inr rfl) rfl rfl ⟨_, rfl, (Z_some hz)⟩
    refine R_sub [1, 2, 3, 5, 6, 0] rfl ?_
    refine it_R (C := fun aZ : Int => Rr y_M_canSay (3, 72, n, n, E) (qM K) 16 [(0, vR 81), (1, vI set_), (2, vI r), (4, vI surely), (5, vI w), (6, vI aZ)] [] E n M_2) (fun l6_3 K_7 hC_8 hB_9 hz => ?_) FUEL 0 hz
    rw [M_canSay_b16] at hz
    show Rr y_M_canSay (3, 72, n, n, E) (qM K) 16 [(0, vR 81), (1, vI set_), (2, vI r), (4, vI surely), (5, vI w), (6, vI l6_3)] [] E n M_2
    refine R_iload (pc := 16) 5 (dc k_M_canSay 10 rfl) rfl ?_
    refine R_aload_n (pc := 18) 0 (dc k_M_canSay 11 rfl) rfl rfl ?_
    refine R_cVP (pc := 19)  (As := []) (S := [vI l6_3]) ck_M_421 (dc k_M_canSay 12 rfl) ⟨rfl, ⟨_, rfl, rfl⟩, (lb rfl), (Nat.le_trans (lb rfl) hn)⟩ (lb rfl) (lb rfl) (lb rfl) rfl (ct_M_personMany hE hn (Z_bind hz)) (fun r_10 hz => ?_)
    refine R_icmp_ge (pc := 22) 76 (dc k_M_canSay 13 rfl) rfl (fun hc => ?_) (fun hc => ?_)
    · have hz := Z_neg (show ¬ (n32 l6_3 < n32 r_10) from (Int.not_lt.mpr hc)) hz
      refine R_sub [] rfl ?_
      exact hX_6 (hB_9 _ (Z_some hz))
    · have hz := Z_pos (show n32 l6_3 < n32 r_10 from (Int.not_le.mp hc)) hz
      refine R_iload_n (pc := 25) 1 (dc k_M_canSay 14 rfl) rfl rfl ?_
      refine R_iload (pc := 26) 5 (dc k_M_canSay 15 rfl) rfl ?_
      refine R_ishr (pc := 28) (dc k_M_canSay 16 rfl) ?_
      refine R_iconst (pc := 29) (a := 1) (dc k_M_canSay 17 rfl) ?_
      refine R_iand (pc := 30) (dc k_M_canSay 18 rfl) ?_
      refine R_iconst (pc := 31) (a := 1) (dc k_M_canSay 19 rfl) ?_
      obtain ⟨j_11, hj_12, hz⟩ := Z_jn hz
      have hJ_13 : Z (j_11 ()) K_7 → Rr y_M_canSay (3, 72, n, n, E) (qM K) 70 [(0, vR 81), (1, vI set_), (2, vI r), (4, vI surely), (5, vI w), (6, vI l6_3)] [] E n M_2 := by
        intro  hk
        have hz := hj_12 _ hk
        obtain ⟨l6_23, hl6_23, hz⟩ := Z_lt hz
        refine R_iincE (pc := 70) (L' := [(6, vI l6_23), (0, vR 81), (1, vI set_), (2, vI r), (4, vI surely), (5, vI w)]) 5 (dc k_M_canSay 39 rfl) rfl (lb rfl) hl6_23 rfl ?_
        refine R_goto (pc := 73) 16 (dc k_M_canSay 40 rfl) rfl ?_
        refine R_sub [1, 2, 3, 4, 5, 0] rfl ?_
        exact hC_8 _ (Z_some hz)
      refine R_icmp_ne (pc := 32) 70 (dc k_M_canSay 20 rfl) rfl (fun hc => ?_) (fun hc => ?_)
      · have hz := Z_neg (show ¬ (n32 (iand (ishr set_ l6_3) 1) = 1) from hc) hz
        exact hJ_13 hz
      · have hz := Z_pos (show n32 (iand (ishr set_ l6_3) 1) = 1 from (Decidable.not_not.mp hc)) hz
        refine R_iload (pc := 35) 3 (dc k_M_canSay 21 rfl) rfl ?_
        obtain ⟨j_14, hj_15, hz⟩ := Z_jn hz
        have hJ_16 : Z (j_14 ()) K_7 → Rr y_M_canSay (3, 72, n, n, E) (qM K) 68 [] [] E n M_2 := by
          intro  hk
          have hz := hj_15 _ hk
          refine R_iconst (pc := 68) (a := 0) (dc k_M_canSay 37 rfl) ?_
          exact R_zret (pc := 69) (dc k_M_canSay 38 rfl) rfl (Or.inl rfl) rfl rfl ⟨_, rfl, (Z_some (hK_5 _ (hB_9 _ (Z_some hz))))⟩
        refine R_if_eq (pc := 37) 56 (dc k_M_canSay 22 rfl) rfl (fun hc => ?_) (fun hc => ?_)
        · have hz := Z_neg (show ¬ (¬ n32 surely = 0) from (fun z => z hc)) hz
          refine R_aload_n (pc := 56) 0 (dc k_M_canSay 31 rfl) rfl rfl ?_
          refine R_iload (pc := 57) 5 (dc k_M_canSay 32 rfl) rfl ?_
          refine R_iload_n (pc := 59) 2 (dc k_M_canSay 33 rfl) rfl rfl ?_
          refine R_iload (pc := 60) 4 (dc k_M_canSay 34 rfl) rfl ?_
          refine R_cVP (pc := 62)  (As := [vI l6_3, vI r, vI w]) (S := []) ck_M_461 (dc k_M_canSay 35 rfl) ⟨rfl, ⟨_, rfl, rfl⟩, (lb rfl), (Nat.le_trans (lb rfl) hn)⟩ (lb rfl) (lb rfl) (lb rfl) rfl (ct_M_answerAt hE hn (Z_bind hz)) (fun r_19 hz => ?_)
          refine R_if_ne (pc := 65) 70 (dc k_M_canSay 36 rfl) rfl (fun hc => ?_) (fun hc => ?_)
          · have hz := Z_neg (show ¬ (n32 r_19 = 0) from hc) hz
            exact hJ_13 hz
          · have hz := Z_pos (show n32 r_19 = 0 from (Decidable.not_not.mp hc)) hz
            refine R_sub [] rfl ?_
            exact hJ_16 hz
        · have hz := Z_pos (show ¬ n32 surely = 0 from hc) hz
          refine R_aload_n (pc := 40) 0 (dc k_M_canSay 23 rfl) rfl rfl ?_
          refine R_iload (pc := 41) 5 (dc k_M_canSay 24 rfl) rfl ?_
          refine R_iload_n (pc := 43) 2 (dc k_M_canSay 25 rfl) rfl rfl ?_
          refine R_iload (pc := 44) 4 (dc k_M_canSay 26 rfl) rfl ?_
          refine R_cVP (pc := 46)  (As := [vI l6_3, vI r, vI w]) (S := []) ck_M_461 (dc k_M_canSay 27 rfl) ⟨rfl, ⟨_, rfl, rfl⟩, (lb rfl), (Nat.le_trans (lb rfl) hn)⟩ (lb rfl) (lb rfl) (lb rfl) rfl (ct_M_answerAt hE hn (Z_bind hz)) (fun r_17 hz => ?_)
          refine R_iconst (pc := 49) (a := 1) (dc k_M_canSay 28 rfl) ?_
          refine R_icmp_eq (pc := 50) 70 (dc k_M_canSay 29 rfl) rfl (fun hc => ?_) (fun hc => ?_)
          · have hz := Z_neg (show ¬ (¬ n32 r_17 = 1) from (fun z => z hc)) hz
            exact hJ_13 hz
          · have hz := Z_pos (show ¬ n32 r_17 = 1 from hc) hz
            refine R_goto (pc := 53) 68 (dc k_M_canSay 30 rfl) rfl ?_
            refine R_sub [] rfl ?_
            exact hJ_16 hz
  · have hz := Z_pos (show ¬ n32 r_1 = 0 from hc) hz
    refine R_iconst (pc := 11) (a := 1) (dc k_M_canSay 6 rfl) ?_
    exact R_zret (pc := 12) (dc k_M_canSay 7 rfl) rfl (Or.inr rfl) rfl rfl ⟨_, rfl, (Z_some hz)⟩

set_option maxRecDepth 20000 in
theorem ct_M_may {E : Nat → Bool} {n : Nat} (hE : ∀ c, 81 ≤ c → c ≤ 138 → E c = true) (hn : 138 ≤ n) {set_ : Int} {r : Int} {apart : Int} {surely : Int} {w : Int} {M : Mem} {K : Int × Mem → Prop} (hz : Z (M_may set_ r apart surely w M) K) : Mt y_M_may (4, 98, n, n, E) E [vR 81, vI set_, vI r, vI apart, vI surely, vI w] M (qM K) := by
  refine Mt.of (by decide) (lb rfl) (Nat.le_refl _) rfl ?_
  rw [M_may] at hz
  show Rr y_M_may (4, 98, n, n, E) (qM K) 0 [(0, vR 81), (1, vI set_), (2, vI r), (3, vI apart), (4, vI surely), (5, vI w)] [] E n M
  refine R_aload_n (pc := 0) 0 (dc k_M_may 0 rfl) rfl rfl ?_
  refine R_iload_n (pc := 1) 1 (dc k_M_may 1 rfl) rfl rfl ?_
  refine R_cVP (pc := 2)  (As := [vI set_]) (S := []) ck_M_481 (dc k_M_may 2 rfl) ⟨rfl, ⟨_, rfl, rfl⟩, (lb rfl), (Nat.le_trans (lb rfl) hn)⟩ (lb rfl) (lb rfl) (lb rfl) rfl (ct_M_areSome hE hn (Z_bind hz)) (fun r_1 hz => ?_)
  obtain ⟨K_2, hK_3, hz⟩ := Z_cut hz
  have hX_4 : K_2 true → Rr y_M_may (4, 98, n, n, E) (qM K) 25 [(0, vR 81), (1, vI set_), (2, vI r), (3, vI apart), (4, vI surely), (5, vI w)] [] E n M := by
    intro hk
    have hz := Z_pos rfl (hK_3 _ hk)
    refine R_iconst (pc := 25) (a := (-1)) (dc k_M_may 12 rfl) ?_
    refine R_goto (pc := 26) 48 (dc k_M_may 13 rfl) rfl ?_
    exact R_iret (pc := 48) (dc k_M_may 25 rfl) rfl rfl rfl ⟨_, rfl, (Z_some hz)⟩
  have hY_5 : K_2 false → Rr y_M_may (4, 98, n, n, E) (qM K) 29 [(0, vR 81), (1, vI set_), (2, vI r), (3, vI apart), (4, vI surely), (5, vI w)] [] E n M := by
    intro hk
    have hz := Z_neg Bool.false_ne_true (hK_3 _ hk)
    refine R_aload_n (pc := 29) 0 (dc k_M_may 14 rfl) rfl rfl ?_
    refine R_iload_n (pc := 30) 1 (dc k_M_may 15 rfl) rfl rfl ?_
    refine R_iload_n (pc := 31) 2 (dc k_M_may 16 rfl) rfl rfl ?_
    refine R_iload_n (pc := 32) 3 (dc k_M_may 17 rfl) rfl rfl ?_
    refine R_iload (pc := 33) 4 (dc k_M_may 18 rfl) rfl ?_
    refine R_iload (pc := 35) 5 (dc k_M_may 19 rfl) rfl ?_
    refine R_cVM (pc := 37)  (As := [vI set_, vI r, vI apart, vI surely, vI w]) (S := []) ck_M_484 (dc k_M_may 20 rfl) ⟨rfl, ⟨_, rfl, rfl⟩, (lb rfl), (Nat.le_trans (lb rfl) hn)⟩ (lb rfl) (lb rfl) (lb rfl) rfl (ct_M_canSay hE hn (Z_bind hz)) (fun r_9 M_10 hz => ?_)
    refine R_if_eq (pc := 40) 47 (dc k_M_may 21 rfl) rfl (fun hc => ?_) (fun hc => ?_)
    · have hz := Z_neg (show ¬ (¬ n32 r_9 = 0) from (fun z => z hc)) hz
      refine R_iconst (pc := 47) (a := 0) (dc k_M_may 24 rfl) ?_
      exact R_iret (pc := 48) (dc k_M_may 25 rfl) rfl rfl rfl ⟨_, rfl, (Z_some hz)⟩
    · have hz := Z_pos (show ¬ n32 r_9 = 0 from hc) hz
      refine R_iconst (pc := 43) (a := 1) (dc k_M_may 22 rfl) ?_
      refine R_goto (pc := 44) 48 (dc k_M_may 23 rfl) rfl ?_
      exact R_iret (pc := 48) (dc k_M_may 25 rfl) rfl rfl rfl ⟨_, rfl, (Z_some hz)⟩
  refine R_if_eq (pc := 5) 25 (dc k_M_may 3 rfl) rfl (fun hc => ?_) (fun hc => ?_)
  · have hz := Z_neg (show ¬ (¬ n32 r_1 = 0) from (fun z => z hc)) hz
    exact hX_4 (Z_some hz)
  · have hz := Z_pos (show ¬ n32 r_1 = 0 from hc) hz
    refine R_aload_n (pc := 8) 0 (dc k_M_may 4 rfl) rfl rfl ?_
    refine R_iload_n (pc := 9) 2 (dc k_M_may 5 rfl) rfl rfl ?_
    refine R_cVP (pc := 10)  (As := [vI r]) (S := []) ck_M_452 (dc k_M_may 6 rfl) ⟨rfl, ⟨_, rfl, rfl⟩, (lb rfl), (Nat.le_trans (lb rfl) hn)⟩ (lb rfl) (lb rfl) (lb rfl) rfl (ct_M_isRow hE hn (Z_bind hz)) (fun r_7 hz => ?_)
    refine R_if_eq (pc := 13) 25 (dc k_M_may 7 rfl) rfl (fun hc => ?_) (fun hc => ?_)
    · have hz := Z_neg (show ¬ (¬ n32 r_7 = 0) from (fun z => z hc)) hz
      exact hX_4 (Z_some hz)
    · have hz := Z_pos (show ¬ n32 r_7 = 0 from hc) hz
      refine R_aload_n (pc := 16) 0 (dc k_M_may 8 rfl) rfl rfl ?_
      refine R_iload (pc := 17) 5 (dc k_M_may 9 rfl) rfl ?_
      refine R_cVP (pc := 19)  (As := [vI w]) (S := []) ck_M_455 (dc k_M_may 10 rfl) ⟨rfl, ⟨_, rfl, rfl⟩, (lb rfl), (Nat.le_trans (lb rfl) hn)⟩ (lb rfl) (lb rfl) (lb rfl) rfl (ct_M_isWorld hE hn (Z_bind hz)) (fun r_8 hz => ?_)
      refine R_if_ne (pc := 22) 29 (dc k_M_may 11 rfl) rfl (fun hc => ?_) (fun hc => ?_)
      · have hz := Z_neg (show ¬ (n32 r_8 = 0) from hc) hz
        exact hY_5 (Z_some hz)
      · have hz := Z_pos (show n32 r_8 = 0 from (Decidable.not_not.mp hc)) hz
        exact hX_4 (Z_some hz)

set_option maxRecDepth 20000 in
theorem ct_M_say {E : Nat → Bool} {n : Nat} (hE : ∀ c, 81 ≤ c → c ≤ 138 → E c = true) (hn : 138 ≤ n) {set_ : Int} {r : Int} {apart : Int} {surely : Int} {M : Mem} {K : Int × Mem → Prop} (hz : Z (M_say set_ r apart surely M) K) : Mt y_M_say (2, 43, n, n, E) E [vR 81, vI set_, vI r, vI apart, vI surely] M (qM K) := by
  refine Mt.of (by decide) (lb rfl) (Nat.le_refl _) rfl ?_
  rw [M_say] at hz
  show Rr y_M_say (2, 43, n, n, E) (qM K) 0 [(0, vR 81), (1, vI set_), (2, vI r), (3, vI apart), (4, vI surely)] [] E n M
  refine R_aload_n (pc := 0) 0 (dc k_M_say 0 rfl) rfl rfl ?_
  refine R_iload_n (pc := 1) 1 (dc k_M_say 1 rfl) rfl rfl ?_
  refine R_cVP (pc := 2)  (As := [vI set_]) (S := []) ck_M_481 (dc k_M_say 2 rfl) ⟨rfl, ⟨_, rfl, rfl⟩, (lb rfl), (Nat.le_trans (lb rfl) hn)⟩ (lb rfl) (lb rfl) (lb rfl) rfl (ct_M_areSome hE hn (Z_bind hz)) (fun r_1 hz => ?_)
  obtain ⟨K_2, hK_3, hz⟩ := Z_cut hz
  have hX_4 : K_2 true → Rr y_M_say (2, 43, n, n, E) (qM K) 25 [(0, vR 81), (1, vI set_), (2, vI r), (3, vI apart), (4, vI surely)] [] E n M := by
    intro hk
    have hz := Z_pos rfl (hK_3 _ hk)
    refine R_iconst (pc := 25) (a := (-1)) (dc k_M_say 12 rfl) ?_
    exact R_iret (pc := 26) (dc k_M_say 13 rfl) rfl rfl rfl ⟨_, rfl, (Z_some hz)⟩
  have hY_5 : K_2 false → Rr y_M_say (2, 43, n, n, E) (qM K) 27 [(0, vR 81), (1, vI set_), (2, vI r), (3, vI apart), (4, vI surely)] [] E n M := by
    intro hk
    have hz := Z_neg Bool.false_ne_true (hK_3 _ hk)
    refine R_aload_n (pc := 27) 0 (dc k_M_say 14 rfl) rfl rfl ?_
    refine R_getS (pc := 28) (ci := 10) (k := 51) 116 (dc k_M_say 15 rfl) fl_M_119 rfl (lb rfl) (Nat.le_trans (lb rfl) hn) (hE 81 (lb rfl) (lb rfl)) rfl (by decide) rfl ?_
    refine R_aload_n (pc := 31) 0 (dc k_M_say 16 rfl) rfl rfl ?_
    refine R_getI (pc := 32) (ci := 10) (k := 57) (dc k_M_say 17 rfl) fl_M_310 rfl (lb rfl) (Nat.le_trans (lb rfl) hn) rfl (Or.inl rfl) ?_
    refine R_iload_n (pc := 35) 1 (dc k_M_say 18 rfl) rfl rfl ?_
    obtain ⟨⟨hg_8, hg_9⟩, hz⟩ := Z_chk hz
    obtain ⟨M_10, hM_10, hz⟩ := Z_lt hz
    refine R_iastE (pc := 36) (dc k_M_say 19 rfl) rfl (lb rfl) (Nat.le_trans (lb rfl) hn) hg_8 hg_9 hM_10 ?_
    refine R_aload_n (pc := 37) 0 (dc k_M_say 20 rfl) rfl rfl ?_
    refine R_getS (pc := 38) (ci := 10) (k := 52) 117 (dc k_M_say 21 rfl) fl_M_122 rfl (lb rfl) (Nat.le_trans (lb rfl) hn) (hE 81 (lb rfl) (lb rfl)) rfl (by decide) rfl ?_
    refine R_aload_n (pc := 41) 0 (dc k_M_say 22 rfl) rfl rfl ?_
    refine R_getI (pc := 42) (ci := 10) (k := 57) (dc k_M_say 23 rfl) fl_M_310 rfl (lb rfl) (Nat.le_trans (lb rfl) hn) rfl (Or.inl rfl) ?_
    refine R_iload_n (pc := 45) 2 (dc k_M_say 24 rfl) rfl rfl ?_
    obtain ⟨⟨hg_11, hg_12⟩, hz⟩ := Z_chk hz
    obtain ⟨M_13, hM_13, hz⟩ := Z_lt hz
    refine R_iastE (pc := 46) (dc k_M_say 25 rfl) rfl (lb rfl) (Nat.le_trans (lb rfl) hn) hg_11 hg_12 hM_13 ?_
    refine R_aload_n (pc := 47) 0 (dc k_M_say 26 rfl) rfl rfl ?_
    refine R_getS (pc := 48) (ci := 10) (k := 55) 120 (dc k_M_say 27 rfl) fl_M_131 rfl (lb rfl) (Nat.le_trans (lb rfl) hn) (hE 81 (lb rfl) (lb rfl)) rfl (by decide) rfl ?_
    refine R_aload_n (pc := 51) 0 (dc k_M_say 28 rfl) rfl rfl ?_
    refine R_getI (pc := 52) (ci := 10) (k := 57) (dc k_M_say 29 rfl) fl_M_310 rfl (lb rfl) (Nat.le_trans (lb rfl) hn) rfl (Or.inl rfl) ?_
    refine R_iload_n (pc := 55) 3 (dc k_M_say 30 rfl) rfl rfl ?_
    obtain ⟨⟨hg_14, hg_15⟩, hz⟩ := Z_chk hz
    obtain ⟨hg_16, hz⟩ := Z_chk hz
    obtain ⟨M_17, hM_17, hz⟩ := Z_lt hz
    refine R_zastE (pc := 56) (dc k_M_say 31 rfl) rfl (lb rfl) (Nat.le_trans (lb rfl) hn) hg_14 hg_15 hg_16 hM_17 ?_
    refine R_aload_n (pc := 57) 0 (dc k_M_say 32 rfl) rfl rfl ?_
    refine R_getS (pc := 58) (ci := 10) (k := 56) 121 (dc k_M_say 33 rfl) fl_M_134 rfl (lb rfl) (Nat.le_trans (lb rfl) hn) (hE 81 (lb rfl) (lb rfl)) rfl (by decide) rfl ?_
    refine R_aload_n (pc := 61) 0 (dc k_M_say 34 rfl) rfl rfl ?_
    refine R_getI (pc := 62) (ci := 10) (k := 57) (dc k_M_say 35 rfl) fl_M_310 rfl (lb rfl) (Nat.le_trans (lb rfl) hn) rfl (Or.inl rfl) ?_
    refine R_iload (pc := 65) 4 (dc k_M_say 36 rfl) rfl ?_
    obtain ⟨⟨hg_18, hg_19⟩, hz⟩ := Z_chk hz
    obtain ⟨hg_20, hz⟩ := Z_chk hz
    obtain ⟨M_21, hM_21, hz⟩ := Z_lt hz
    refine R_zastE (pc := 67) (dc k_M_say 37 rfl) rfl (lb rfl) (Nat.le_trans (lb rfl) hn) hg_18 hg_19 hg_20 hM_21 ?_
    refine R_aload_n (pc := 68) 0 (dc k_M_say 38 rfl) rfl rfl ?_
    refine R_getS (pc := 69) (ci := 10) (k := 53) 118 (dc k_M_say 39 rfl) fl_M_125 rfl (lb rfl) (Nat.le_trans (lb rfl) hn) (hE 81 (lb rfl) (lb rfl)) rfl (by decide) rfl ?_
    refine R_aload_n (pc := 72) 0 (dc k_M_say 40 rfl) rfl rfl ?_
    refine R_getI (pc := 73) (ci := 10) (k := 57) (dc k_M_say 41 rfl) fl_M_310 rfl (lb rfl) (Nat.le_trans (lb rfl) hn) rfl (Or.inl rfl) ?_
    refine R_aload_n (pc := 76) 0 (dc k_M_say 42 rfl) rfl rfl ?_
    refine R_getI (pc := 77) (ci := 10) (k := 58) (dc k_M_say 43 rfl) fl_M_488 rfl (lb rfl) (Nat.le_trans (lb rfl) hn) rfl (Or.inl rfl) ?_
    obtain ⟨⟨hg_22, hg_23⟩, hz⟩ := Z_chk hz
    obtain ⟨M_24, hM_24, hz⟩ := Z_lt hz
    refine R_iastE (pc := 80) (dc k_M_say 44 rfl) rfl (lb rfl) (Nat.le_trans (lb rfl) hn) hg_22 hg_23 hM_24 ?_
    refine R_aload_n (pc := 81) 0 (dc k_M_say 45 rfl) rfl rfl ?_
    refine R_getS (pc := 82) (ci := 10) (k := 54) 119 (dc k_M_say 46 rfl) fl_M_128 rfl (lb rfl) (Nat.le_trans (lb rfl) hn) (hE 81 (lb rfl) (lb rfl)) rfl (by decide) rfl ?_
    refine R_aload_n (pc := 85) 0 (dc k_M_say 47 rfl) rfl rfl ?_
    refine R_getI (pc := 86) (ci := 10) (k := 57) (dc k_M_say 48 rfl) fl_M_310 rfl (lb rfl) (Nat.le_trans (lb rfl) hn) rfl (Or.inl rfl) ?_
    refine R_iconst (pc := 89) (a := (-1)) (dc k_M_say 49 rfl) ?_
    obtain ⟨⟨hg_25, hg_26⟩, hz⟩ := Z_chk hz
    obtain ⟨M_27, hM_27, hz⟩ := Z_lt hz
    refine R_iastE (pc := 90) (dc k_M_say 50 rfl) rfl (lb rfl) (Nat.le_trans (lb rfl) hn) hg_25 hg_26 hM_27 ?_
    refine R_aload_n (pc := 91) 0 (dc k_M_say 51 rfl) rfl rfl ?_
    refine R_dup (pc := 92) (dc k_M_say 52 rfl) rfl ?_
    refine R_getI (pc := 93) (ci := 10) (k := 57) (dc k_M_say 53 rfl) fl_M_310 rfl (lb rfl) (Nat.le_trans (lb rfl) hn) rfl (Or.inl rfl) ?_
    refine R_iconst (pc := 96) (a := 1) (dc k_M_say 54 rfl) ?_
    refine R_iadd (pc := 97) (dc k_M_say 55 rfl) ?_
    obtain ⟨M_28, hM_28, hz⟩ := Z_lt hz
    refine R_putIE (pc := 98) (ci := 10) (k := 57) (dc k_M_say 56 rfl) fl_M_310 rfl (lb rfl) (Nat.le_trans (lb rfl) hn) rfl rfl rfl hM_28 ?_
    refine R_aload_n (pc := 101) 0 (dc k_M_say 57 rfl) rfl rfl ?_
    refine R_getI (pc := 102) (ci := 10) (k := 57) (dc k_M_say 58 rfl) fl_M_310 rfl (lb rfl) (Nat.le_trans (lb rfl) hn) rfl (Or.inl rfl) ?_
    refine R_iconst (pc := 105) (a := 1) (dc k_M_say 59 rfl) ?_
    refine R_isub (pc := 106) (dc k_M_say 60 rfl) ?_
    exact R_iret (pc := 107) (dc k_M_say 61 rfl) rfl rfl rfl ⟨_, rfl, (Z_some hz)⟩
  refine R_if_eq (pc := 5) 25 (dc k_M_say 3 rfl) rfl (fun hc => ?_) (fun hc => ?_)
  · have hz := Z_neg (show ¬ (¬ n32 r_1 = 0) from (fun z => z hc)) hz
    exact hX_4 (Z_some hz)
  · have hz := Z_pos (show ¬ n32 r_1 = 0 from hc) hz
    refine R_aload_n (pc := 8) 0 (dc k_M_say 4 rfl) rfl rfl ?_
    refine R_iload_n (pc := 9) 2 (dc k_M_say 5 rfl) rfl rfl ?_
    refine R_cVP (pc := 10)  (As := [vI r]) (S := []) ck_M_452 (dc k_M_say 6 rfl) ⟨rfl, ⟨_, rfl, rfl⟩, (lb rfl), (Nat.le_trans (lb rfl) hn)⟩ (lb rfl) (lb rfl) (lb rfl) rfl (ct_M_isRow hE hn (Z_bind hz)) (fun r_7 hz => ?_)
    refine R_if_eq (pc := 13) 25 (dc k_M_say 7 rfl) rfl (fun hc => ?_) (fun hc => ?_)
    · have hz := Z_neg (show ¬ (¬ n32 r_7 = 0) from (fun z => z hc)) hz
      exact hX_4 (Z_some hz)
    · have hz := Z_pos (show ¬ n32 r_7 = 0 from hc) hz
      refine R_aload_n (pc := 16) 0 (dc k_M_say 8 rfl) rfl rfl ?_
      refine R_getI (pc := 17) (ci := 10) (k := 57) (dc k_M_say 9 rfl) fl_M_310 rfl (lb rfl) (Nat.le_trans (lb rfl) hn) rfl (Or.inl rfl) ?_
      refine R_bipush (pc := 20) (a := 40) (dc k_M_say 10 rfl) (by decide) ?_
      refine R_icmp_ne (pc := 22) 27 (dc k_M_say 11 rfl) rfl (fun hc => ?_) (fun hc => ?_)
      · have hz := Z_neg (show ¬ (n32 (M 81 57) = 40) from hc) hz
        exact hY_5 (Z_some hz)
      · have hz := Z_pos (show n32 (M 81 57) = 40 from (Decidable.not_not.mp hc)) hz
        exact hX_4 (Z_some hz)

set_option maxRecDepth 20000 in
theorem ct_M_untell {E : Nat → Bool} {n : Nat} (hE : ∀ c, 81 ≤ c → c ≤ 138 → E c = true) (hn : 138 ≤ n) {n_ : Int} {M : Mem} {K : Int × Mem → Prop} (hz : Z (M_untell n_ M) K) : Mt y_M_untell (1, 22, n, n, E) E [vR 81, vI n_] M (qM K) := by
  refine Mt.of (by decide) (lb rfl) (Nat.le_refl _) rfl ?_
  rw [M_untell] at hz
  show Rr y_M_untell (1, 22, n, n, E) (qM K) 0 [(0, vR 81), (1, vI n_)] [] E n M
  refine R_iload_n (pc := 0) 1 (dc k_M_untell 0 rfl) rfl rfl ?_
  refine R_iconst (pc := 1) (a := 0) (dc k_M_untell 1 rfl) ?_
  refine R_aload_n (pc := 2) 0 (dc k_M_untell 2 rfl) rfl rfl ?_
  refine R_getI (pc := 3) (ci := 10) (k := 57) (dc k_M_untell 3 rfl) fl_M_310 rfl (lb rfl) (Nat.le_trans (lb rfl) hn) rfl (Or.inl rfl) ?_
  refine R_iconst (pc := 6) (a := 1) (dc k_M_untell 4 rfl) ?_
  refine R_isub (pc := 7) (dc k_M_untell 5 rfl) ?_
  refine R_cSP (pc := 8)  (As := [vI n_, vI 0, vI ((M 81 57) - 1)]) (S := []) ck_M_418 (dc k_M_untell 6 rfl) (lb rfl) (lb rfl) (lb rfl) rfl (ct_M_isIn hE hn (Z_bind hz)) (fun r_1 hz => ?_)
  obtain ⟨K_2, hK_3, hz⟩ := Z_cut hz
  have hX_4 : K_2 true → Rr y_M_untell (1, 22, n, n, E) (qM K) 23 [(0, vR 81), (1, vI n_)] [] E n M := by
    intro hk
    have hz := Z_pos rfl (hK_3 _ hk)
    refine R_iconst (pc := 23) (a := 0) (dc k_M_untell 13 rfl) ?_
    exact R_zret (pc := 24) (dc k_M_untell 14 rfl) rfl (Or.inl rfl) rfl rfl ⟨_, rfl, (Z_some hz)⟩
  have hY_5 : K_2 false → Rr y_M_untell (1, 22, n, n, E) (qM K) 25 [(0, vR 81), (1, vI n_)] [] E n M := by
    intro hk
    have hz := Z_neg Bool.false_ne_true (hK_3 _ hk)
    refine R_aload_n (pc := 25) 0 (dc k_M_untell 15 rfl) rfl rfl ?_
    refine R_getS (pc := 26) (ci := 10) (k := 54) 119 (dc k_M_untell 16 rfl) fl_M_128 rfl (lb rfl) (Nat.le_trans (lb rfl) hn) (hE 81 (lb rfl) (lb rfl)) rfl (by decide) rfl ?_
    refine R_iload_n (pc := 29) 1 (dc k_M_untell 17 rfl) rfl rfl ?_
    refine R_aload_n (pc := 30) 0 (dc k_M_untell 18 rfl) rfl rfl ?_
    refine R_getI (pc := 31) (ci := 10) (k := 58) (dc k_M_untell 19 rfl) fl_M_488 rfl (lb rfl) (Nat.le_trans (lb rfl) hn) rfl (Or.inl rfl) ?_
    obtain ⟨⟨hg_9, hg_10⟩, hz⟩ := Z_chk hz
    obtain ⟨M_11, hM_11, hz⟩ := Z_lt hz
    refine R_iastE (pc := 34) (dc k_M_untell 20 rfl) rfl (lb rfl) (Nat.le_trans (lb rfl) hn) hg_9 hg_10 hM_11 ?_
    refine R_iconst (pc := 35) (a := 1) (dc k_M_untell 21 rfl) ?_
    exact R_zret (pc := 36) (dc k_M_untell 22 rfl) rfl (Or.inr rfl) rfl rfl ⟨_, rfl, (Z_some hz)⟩
  refine R_if_eq (pc := 11) 23 (dc k_M_untell 7 rfl) rfl (fun hc => ?_) (fun hc => ?_)
  · have hz := Z_neg (show ¬ (¬ n32 r_1 = 0) from (fun z => z hc)) hz
    exact hX_4 (Z_some hz)
  · have hz := Z_pos (show ¬ n32 r_1 = 0 from hc) hz
    refine R_aload_n (pc := 14) 0 (dc k_M_untell 8 rfl) rfl rfl ?_
    refine R_getS (pc := 15) (ci := 10) (k := 54) 119 (dc k_M_untell 9 rfl) fl_M_128 rfl (lb rfl) (Nat.le_trans (lb rfl) hn) (hE 81 (lb rfl) (lb rfl)) rfl (by decide) rfl ?_
    refine R_iload_n (pc := 18) 1 (dc k_M_untell 10 rfl) rfl rfl ?_
    obtain ⟨⟨hg_7, hg_8⟩, hz⟩ := Z_chk hz
    refine R_iald (pc := 19) (dc k_M_untell 11 rfl) rfl (lb rfl) (Nat.le_trans (lb rfl) hn) hg_7 hg_8 ?_
    refine R_if_lt (pc := 20) 25 (dc k_M_untell 12 rfl) rfl (fun hc => ?_) (fun hc => ?_)
    · have hz := Z_neg (show ¬ (0 ≤ n32 (M 119 (Int.toNat n_))) from (Int.not_le.mpr hc)) hz
      exact hY_5 (Z_some hz)
    · have hz := Z_pos (show 0 ≤ n32 (M 119 (Int.toNat n_)) from (Int.not_lt.mp hc)) hz
      exact hX_4 (Z_some hz)

set_option maxRecDepth 20000 in
theorem ct_M_later {E : Nat → Bool} {n : Nat} (hE : ∀ c, 81 ≤ c → c ≤ 138 → E c = true) (hn : 138 ≤ n) {by_ : Int} {M : Mem} {K : Int × Mem → Prop} (hz : Z (M_later by_ M) K) : Mt y_M_later (1, 22, n, n, E) E [vR 81, vI by_] M (qM K) := by
  refine Mt.of (by decide) (lb rfl) (Nat.le_refl _) rfl ?_
  rw [M_later] at hz
  show Rr y_M_later (1, 22, n, n, E) (qM K) 0 [(0, vR 81), (1, vI by_)] [] E n M
  refine R_iload_n (pc := 0) 1 (dc k_M_later 0 rfl) rfl rfl ?_
  refine R_iconst (pc := 1) (a := 0) (dc k_M_later 1 rfl) ?_
  refine R_sipush (pc := 2) (a := 1000) (dc k_M_later 2 rfl) (by decide) ?_
  refine R_cSP (pc := 5)  (As := [vI by_, vI 0, vI 1000]) (S := []) ck_M_418 (dc k_M_later 3 rfl) (lb rfl) (lb rfl) (lb rfl) rfl (ct_M_isIn hE hn (Z_bind hz)) (fun r_1 hz => ?_)
  have hX_3 : ((n32 r_1 = 0) ∨ (100000 < n32 ((M 81 58) + by_))) → Rr y_M_later (1, 22, n, n, E) (qM K) 23 [(0, vR 81), (1, vI by_)] [] E n M := by
    intro hc
    have hz := Z_pos hc hz
    refine R_iconst (pc := 23) (a := (-1)) (dc k_M_later 11 rfl) ?_
    exact R_iret (pc := 24) (dc k_M_later 12 rfl) rfl rfl rfl ⟨_, rfl, (Z_some hz)⟩
  have hY_4 : ¬ ((n32 r_1 = 0) ∨ (100000 < n32 ((M 81 58) + by_))) → Rr y_M_later (1, 22, n, n, E) (qM K) 25 [(0, vR 81), (1, vI by_)] [] E n M := by
    intro hc
    have hz := Z_neg hc hz
    refine R_aload_n (pc := 25) 0 (dc k_M_later 13 rfl) rfl rfl ?_
    refine R_dup (pc := 26) (dc k_M_later 14 rfl) rfl ?_
    refine R_getI (pc := 27) (ci := 10) (k := 58) (dc k_M_later 15 rfl) fl_M_488 rfl (lb rfl) (Nat.le_trans (lb rfl) hn) rfl (Or.inl rfl) ?_
    refine R_iload_n (pc := 30) 1 (dc k_M_later 16 rfl) rfl rfl ?_
    refine R_iadd (pc := 31) (dc k_M_later 17 rfl) ?_
    obtain ⟨M_2, hM_2, hz⟩ := Z_lt hz
    refine R_putIE (pc := 32) (ci := 10) (k := 58) (dc k_M_later 18 rfl) fl_M_488 rfl (lb rfl) (Nat.le_trans (lb rfl) hn) rfl rfl rfl hM_2 ?_
    refine R_aload_n (pc := 35) 0 (dc k_M_later 19 rfl) rfl rfl ?_
    refine R_getI (pc := 36) (ci := 10) (k := 58) (dc k_M_later 20 rfl) fl_M_488 rfl (lb rfl) (Nat.le_trans (lb rfl) hn) rfl (Or.inl rfl) ?_
    exact R_iret (pc := 39) (dc k_M_later 21 rfl) rfl rfl rfl ⟨_, rfl, (Z_some hz)⟩
  refine R_if_eq (pc := 8) 23 (dc k_M_later 4 rfl) rfl (fun hc => ?_) (fun hc => ?_)
  · have hc_5 : n32 r_1 = 0 := hc
    exact hX_3 (Or.inl hc_5)
  · have hc_6 : ¬ n32 r_1 = 0 := hc
    refine R_aload_n (pc := 11) 0 (dc k_M_later 5 rfl) rfl rfl ?_
    refine R_getI (pc := 12) (ci := 10) (k := 58) (dc k_M_later 6 rfl) fl_M_488 rfl (lb rfl) (Nat.le_trans (lb rfl) hn) rfl (Or.inl rfl) ?_
    refine R_iload_n (pc := 15) 1 (dc k_M_later 7 rfl) rfl rfl ?_
    refine R_iadd (pc := 16) (dc k_M_later 8 rfl) ?_
    refine R_ldcw (pc := 17) (a := 100000) (dc k_M_later 9 rfl) c_M_491 ?_
    refine R_icmp_le (pc := 20) 25 (dc k_M_later 10 rfl) rfl (fun hc => ?_) (fun hc => ?_)
    · have hc_7 : n32 ((M 81 58) + by_) ≤ 100000 := hc
      exact hY_4 (fun z => z.elim hc_6 (Int.not_lt.mpr hc_7))
    · have hc_8 : 100000 < n32 ((M 81 58) + by_) := (Int.not_le.mp hc)
      exact hX_3 (Or.inr hc_8)

set_option maxRecDepth 20000 in
theorem ct_M_counts {E : Nat → Bool} {n : Nat} (hE : ∀ c, 81 ≤ c → c ≤ 138 → E c = true) (hn : 138 ≤ n) {n_ : Int} {k : Int} {M : Mem} {K : Int → Prop} (hz : Z (M_counts n_ k M) K) : Mt y_M_counts (0, 0, n, n, E) E [vR 81, vI n_, vI k] M (qP M K) := by
  refine Mt.of (by decide) (lb rfl) (Nat.le_refl _) rfl ?_
  rw [M_counts] at hz
  show Rr y_M_counts (0, 0, n, n, E) (qP M K) 0 [(0, vR 81), (1, vI n_), (2, vI k)] [] E n M
  refine R_aload_n (pc := 0) 0 (dc k_M_counts 0 rfl) rfl rfl ?_
  refine R_getS (pc := 1) (ci := 10) (k := 53) 118 (dc k_M_counts 1 rfl) fl_M_125 rfl (lb rfl) (Nat.le_trans (lb rfl) hn) (hE 81 (lb rfl) (lb rfl)) rfl (by decide) rfl ?_
  refine R_iload_n (pc := 4) 1 (dc k_M_counts 2 rfl) rfl rfl ?_
  obtain ⟨⟨hg_1, hg_2⟩, hz⟩ := Z_chk hz
  refine R_iald (pc := 5) (dc k_M_counts 3 rfl) rfl (lb rfl) (Nat.le_trans (lb rfl) hn) hg_1 hg_2 ?_
  refine R_iload_n (pc := 6) 2 (dc k_M_counts 4 rfl) rfl rfl ?_
  obtain ⟨j_3, hj_4, hz⟩ := Z_jn hz
  have hJ_5 : Z (j_3 ()) K → Rr y_M_counts (0, 0, n, n, E) (qP M K) 33 [] [] E n M := by
    intro  hk
    have hz := hj_4 _ hk
    refine R_iconst (pc := 33) (a := 0) (dc k_M_counts 19 rfl) ?_
    exact R_zret (pc := 34) (dc k_M_counts 20 rfl) rfl (Or.inl rfl) rfl rfl ⟨_, rfl, rfl, (Z_some hz)⟩
  refine R_icmp_gt (pc := 7) 33 (dc k_M_counts 5 rfl) rfl (fun hc => ?_) (fun hc => ?_)
  · have hz := Z_neg (show ¬ (n32 (M 118 (Int.toNat n_)) ≤ n32 k) from (Int.not_le.mpr hc)) hz
    refine R_sub [] rfl ?_
    exact hJ_5 hz
  · have hz := Z_pos (show n32 (M 118 (Int.toNat n_)) ≤ n32 k from (Int.not_lt.mp hc)) hz
    refine R_aload_n (pc := 10) 0 (dc k_M_counts 6 rfl) rfl rfl ?_
    refine R_getS (pc := 11) (ci := 10) (k := 54) 119 (dc k_M_counts 7 rfl) fl_M_128 rfl (lb rfl) (Nat.le_trans (lb rfl) hn) (hE 81 (lb rfl) (lb rfl)) rfl (by decide) rfl ?_
    refine R_iload_n (pc := 14) 1 (dc k_M_counts 8 rfl) rfl rfl ?_
    refine R_iald (pc := 15) (dc k_M_counts 9 rfl) rfl (lb rfl) (Nat.le_trans (lb rfl) hn) hg_1 hg_2 ?_
    obtain ⟨K_6, hK_7, hz⟩ := Z_cut hz
    have hX_8 : K_6 true → Rr y_M_counts (0, 0, n, n, E) (qP M K) 29 [(0, vR 81), (1, vI n_), (2, vI k)] [] E n M := by
      intro hk
      have hz := Z_pos rfl (hK_7 _ hk)
      refine R_iconst (pc := 29) (a := 1) (dc k_M_counts 17 rfl) ?_
      refine R_goto (pc := 30) 34 (dc k_M_counts 18 rfl) rfl ?_
      exact R_zret (pc := 34) (dc k_M_counts 20 rfl) rfl (Or.inr rfl) rfl rfl ⟨_, rfl, rfl, (Z_some hz)⟩
    have hY_9 : K_6 false → Rr y_M_counts (0, 0, n, n, E) (qP M K) 33 [(0, vR 81), (1, vI n_), (2, vI k)] [] E n M := by
      intro hk
      have hz := Z_neg Bool.false_ne_true (hK_7 _ hk)
      refine R_sub [] rfl ?_
      exact hJ_5 hz
    refine R_if_lt (pc := 16) 29 (dc k_M_counts 10 rfl) rfl (fun hc => ?_) (fun hc => ?_)
    · have hz := Z_neg (show ¬ (0 ≤ n32 (M 119 (Int.toNat n_))) from (Int.not_le.mpr hc)) hz
      exact hX_8 (Z_some hz)
    · have hz := Z_pos (show 0 ≤ n32 (M 119 (Int.toNat n_)) from (Int.not_lt.mp hc)) hz
      refine R_aload_n (pc := 19) 0 (dc k_M_counts 11 rfl) rfl rfl ?_
      refine R_getS (pc := 20) (ci := 10) (k := 54) 119 (dc k_M_counts 12 rfl) fl_M_128 rfl (lb rfl) (Nat.le_trans (lb rfl) hn) (hE 81 (lb rfl) (lb rfl)) rfl (by decide) rfl ?_
      refine R_iload_n (pc := 23) 1 (dc k_M_counts 13 rfl) rfl rfl ?_
      refine R_iald (pc := 24) (dc k_M_counts 14 rfl) rfl (lb rfl) (Nat.le_trans (lb rfl) hn) hg_1 hg_2 ?_
      refine R_iload_n (pc := 25) 2 (dc k_M_counts 15 rfl) rfl rfl ?_
      refine R_icmp_le (pc := 26) 33 (dc k_M_counts 16 rfl) rfl (fun hc => ?_) (fun hc => ?_)
      · have hz := Z_neg (show ¬ (n32 k < n32 (M 119 (Int.toNat n_))) from (Int.not_lt.mpr hc)) hz
        exact hY_9 (Z_some hz)
      · have hz := Z_pos (show n32 k < n32 (M 119 (Int.toNat n_)) from (Int.not_le.mp hc)) hz
        exact hX_8 (Z_some hz)

set_option maxRecDepth 20000 in
theorem ct_M_canBe {E : Nat → Bool} {n : Nat} (hE : ∀ c, 81 ≤ c → c ≤ 138 → E c = true) (hn : 138 ≤ n) {n_ : Int} {w : Int} {M : Mem} {K : Int × Mem → Prop} (hz : Z (M_canBe n_ w M) K) : Mt y_M_canBe (4, 98, n, n, E) E [vR 81, vI n_, vI w] M (qM K) := by
  refine Mt.of (by decide) (lb rfl) (Nat.le_refl _) rfl ?_
  rw [M_canBe] at hz
  show Rr y_M_canBe (4, 98, n, n, E) (qM K) 0 [(0, vR 81), (1, vI n_), (2, vI w)] [] E n M
  refine R_aload_n (pc := 0) 0 (dc k_M_canBe 0 rfl) rfl rfl ?_
  refine R_aload_n (pc := 1) 0 (dc k_M_canBe 1 rfl) rfl rfl ?_
  refine R_getS (pc := 2) (ci := 10) (k := 51) 116 (dc k_M_canBe 2 rfl) fl_M_119 rfl (lb rfl) (Nat.le_trans (lb rfl) hn) (hE 81 (lb rfl) (lb rfl)) rfl (by decide) rfl ?_
  refine R_iload_n (pc := 5) 1 (dc k_M_canBe 3 rfl) rfl rfl ?_
  obtain ⟨⟨hg_1, hg_2⟩, hz⟩ := Z_chk hz
  refine R_iald (pc := 6) (dc k_M_canBe 4 rfl) rfl (lb rfl) (Nat.le_trans (lb rfl) hn) hg_1 hg_2 ?_
  refine R_aload_n (pc := 7) 0 (dc k_M_canBe 5 rfl) rfl rfl ?_
  refine R_getS (pc := 8) (ci := 10) (k := 52) 117 (dc k_M_canBe 6 rfl) fl_M_122 rfl (lb rfl) (Nat.le_trans (lb rfl) hn) (hE 81 (lb rfl) (lb rfl)) rfl (by decide) rfl ?_
  refine R_iload_n (pc := 11) 1 (dc k_M_canBe 7 rfl) rfl rfl ?_
  refine R_iald (pc := 12) (dc k_M_canBe 8 rfl) rfl (lb rfl) (Nat.le_trans (lb rfl) hn) hg_1 hg_2 ?_
  refine R_aload_n (pc := 13) 0 (dc k_M_canBe 9 rfl) rfl rfl ?_
  refine R_getS (pc := 14) (ci := 10) (k := 55) 120 (dc k_M_canBe 10 rfl) fl_M_131 rfl (lb rfl) (Nat.le_trans (lb rfl) hn) (hE 81 (lb rfl) (lb rfl)) rfl (by decide) rfl ?_
  refine R_iload_n (pc := 17) 1 (dc k_M_canBe 11 rfl) rfl rfl ?_
  refine R_zald (pc := 18) (dc k_M_canBe 12 rfl) rfl (lb rfl) (Nat.le_trans (lb rfl) hn) hg_1 hg_2 ?_
  refine R_aload_n (pc := 19) 0 (dc k_M_canBe 13 rfl) rfl rfl ?_
  refine R_getS (pc := 20) (ci := 10) (k := 56) 121 (dc k_M_canBe 14 rfl) fl_M_134 rfl (lb rfl) (Nat.le_trans (lb rfl) hn) (hE 81 (lb rfl) (lb rfl)) rfl (by decide) rfl ?_
  refine R_iload_n (pc := 23) 1 (dc k_M_canBe 15 rfl) rfl rfl ?_
  refine R_zald (pc := 24) (dc k_M_canBe 16 rfl) rfl (lb rfl) (Nat.le_trans (lb rfl) hn) hg_1 hg_2 ?_
  refine R_iload_n (pc := 25) 2 (dc k_M_canBe 17 rfl) rfl rfl ?_
  refine R_cVM (pc := 26)  (As := [vI (M 116 (Int.toNat n_)), vI (M 117 (Int.toNat n_)), vI (M 120 (Int.toNat n_)), vI (M 121 (Int.toNat n_)), vI w]) (S := []) ck_M_484 (dc k_M_canBe 18 rfl) ⟨rfl, ⟨_, rfl, rfl⟩, (lb rfl), (Nat.le_trans (lb rfl) hn)⟩ (lb rfl) (lb rfl) (lb rfl) rfl (ct_M_canSay hE hn (Z_bind hz)) (fun r_3 M_4 hz => ?_)
  obtain ⟨hg_5, hz⟩ := Z_chk hz
  exact R_zret (pc := 29) (dc k_M_canBe 19 rfl) rfl hg_5 rfl rfl ⟨_, rfl, (Z_some hz)⟩

set_option maxRecDepth 20000 in
theorem ct_M_findLeft {E : Nat → Bool} {n : Nat} (hE : ∀ c, 81 ≤ c → c ≤ 138 → E c = true) (hn : 138 ≤ n) {k : Int} {M : Mem} {K : Mem → Prop} (hz : Z (M_findLeft k M) K) : Mt y_M_findLeft (5, 120, n, n, E) E [vR 81, vI k] M (qV K) := by
  refine Mt.of (by decide) (lb rfl) (Nat.le_refl _) rfl ?_
  rw [M_findLeft] at hz
  show Rr y_M_findLeft (5, 120, n, n, E) (qV K) 0 [(0, vR 81), (1, vI k)] [] E n M
  refine R_aload_n (pc := 0) 0 (dc k_M_findLeft 0 rfl) rfl rfl ?_
  refine R_iconst (pc := 1) (a := 0) (dc k_M_findLeft 1 rfl) ?_
  obtain ⟨M_1, hM_1, hz⟩ := Z_lt hz
  refine R_putIE (pc := 2) (ci := 10) (k := 60) (dc k_M_findLeft 2 rfl) fl_M_492 rfl (lb rfl) (Nat.le_trans (lb rfl) hn) rfl rfl rfl hM_1 ?_
  refine R_iconst (pc := 5) (a := 0) (dc k_M_findLeft 3 rfl) ?_
  refine R_istore_n (pc := 6) (L' := [(2, vI 0), (0, vR 81), (1, vI k)]) (dc k_M_findLeft 4 rfl) rfl (lb rfl) rfl ?_
  obtain ⟨K_4, hK_5, hz⟩ := Z_cut hz
  have hX_6 : ∀ (M_10 : Mem), K_4 M_10 → Rr y_M_findLeft (5, 120, n, n, E) (qV K) 101 [] [] E n M_10 := by
    intro M_10 hk
    have hz := hK_5 _ hk
    exact R_vret (pc := 101) (dc k_M_findLeft 55 rfl) rfl rfl rfl ⟨rfl, (Z_some hz)⟩
  refine R_sub [1, 2, 0] rfl ?_
  refine it_R (C := fun aZ : Int × Mem => Rr y_M_findLeft (5, 120, n, n, E) (qV K) 7 [(0, vR 81), (1, vI k), (2, vI aZ.1)] [] E n aZ.2) (fun aZ K_7 hC_8 hB_9 hz => ?_) FUEL (0, M_1) hz
  obtain ⟨l2_2, M_3⟩ := aZ
  rw [M_findLeft_b7] at hz
  show Rr y_M_findLeft (5, 120, n, n, E) (qV K) 7 [(0, vR 81), (1, vI k), (2, vI l2_2)] [] E n M_3
  refine R_iload_n (pc := 7) 2 (dc k_M_findLeft 5 rfl) rfl rfl ?_
  refine R_aload_n (pc := 8) 0 (dc k_M_findLeft 6 rfl) rfl rfl ?_
  refine R_cVP (pc := 9)  (As := []) (S := [vI l2_2]) ck_M_427 (dc k_M_findLeft 7 rfl) ⟨rfl, ⟨_, rfl, rfl⟩, (lb rfl), (Nat.le_trans (lb rfl) hn)⟩ (lb rfl) (lb rfl) (lb rfl) rfl (ct_M_worldMany hE hn (Z_bind hz)) (fun r_11 hz => ?_)
  refine R_icmp_ge (pc := 12) 101 (dc k_M_findLeft 8 rfl) rfl (fun hc => ?_) (fun hc => ?_)
  · have hz := Z_neg (show ¬ (n32 l2_2 < n32 r_11) from (Int.not_lt.mpr hc)) hz
    refine R_sub [] rfl ?_
    exact hX_6 _ (hB_9 _ (Z_some hz))
  · have hz := Z_pos (show n32 l2_2 < n32 r_11 from (Int.not_le.mp hc)) hz
    refine R_aload_n (pc := 15) 0 (dc k_M_findLeft 9 rfl) rfl rfl ?_
    refine R_getS (pc := 16) (ci := 10) (k := 46) 111 (dc k_M_findLeft 10 rfl) fl_M_104 rfl (lb rfl) (Nat.le_trans (lb rfl) hn) (hE 81 (lb rfl) (lb rfl)) rfl (by decide) rfl ?_
    refine R_iload_n (pc := 19) 2 (dc k_M_findLeft 11 rfl) rfl rfl ?_
    obtain ⟨⟨hg_12, hg_13⟩, hz⟩ := Z_chk hz
    refine R_zald (pc := 20) (dc k_M_findLeft 12 rfl) rfl (lb rfl) (Nat.le_trans (lb rfl) hn) hg_12 hg_13 ?_
    obtain ⟨l3_14, hl3_14, hz⟩ := Z_lt hz
    refine R_istore_nE (pc := 21) (L' := [(3, vI l3_14), (0, vR 81), (1, vI k), (2, vI l2_2)]) (dc k_M_findLeft 13 rfl) rfl (lb rfl) hl3_14 rfl ?_
    refine R_iconst (pc := 22) (a := 0) (dc k_M_findLeft 14 rfl) ?_
    refine R_istore (pc := 23) (L' := [(4, vI 0), (3, vI l3_14), (0, vR 81), (1, vI k), (2, vI l2_2)]) (dc k_M_findLeft 15 rfl) (lb rfl) rfl ?_
    obtain ⟨K_18, hK_19, hz⟩ := Z_cut hz
    have hX_20 : ∀ (l3_24 : Int) (M_25 : Mem), K_18 (l3_24, M_25) → Rr y_M_findLeft (5, 120, n, n, E) (qV K) 70 [(0, vR 81), (1, vI k), (2, vI l2_2), (3, vI l3_24)] [] E n M_25 := by
      intro l3_24 M_25 hk
      have hz := hK_19 _ hk
      refine R_aload_n (pc := 70) 0 (dc k_M_findLeft 38 rfl) rfl rfl ?_
      refine R_getS (pc := 71) (ci := 10) (k := 59) 122 (dc k_M_findLeft 39 rfl) fl_M_137 rfl (lb rfl) (Nat.le_trans (lb rfl) hn) (hE 81 (lb rfl) (lb rfl)) rfl (by decide) rfl ?_
      refine R_iload_n (pc := 74) 2 (dc k_M_findLeft 40 rfl) rfl rfl ?_
      refine R_iload_n (pc := 75) 3 (dc k_M_findLeft 41 rfl) rfl rfl ?_
      obtain ⟨hg_47, hz⟩ := Z_chk hz
      obtain ⟨M_48, hM_48, hz⟩ := Z_lt hz
      refine R_zastE (pc := 76) (dc k_M_findLeft 42 rfl) rfl (lb rfl) (Nat.le_trans (lb rfl) hn) hg_12 hg_13 hg_47 hM_48 ?_
      refine R_aload_n (pc := 77) 0 (dc k_M_findLeft 43 rfl) rfl rfl ?_
      refine R_dup (pc := 78) (dc k_M_findLeft 44 rfl) rfl ?_
      refine R_getI (pc := 79) (ci := 10) (k := 60) (dc k_M_findLeft 45 rfl) fl_M_492 rfl (lb rfl) (Nat.le_trans (lb rfl) hn) rfl (Or.inl rfl) ?_
      refine R_iload_n (pc := 82) 3 (dc k_M_findLeft 46 rfl) rfl rfl ?_
      obtain ⟨K_50, hK_51, hz⟩ := Z_cut hz
      have hJ_52 : ∀ (v_49 : Int), K_50 v_49 → Rr y_M_findLeft (5, 120, n, n, E) (qV K) 91 [(0, vR 81), (1, vI k), (2, vI l2_2)] [vI v_49, vI (M_48 81 60), vR 81] E n M_48 := by
        intro v_49 hk
        have hz := hK_51 _ hk
        refine R_iadd (pc := 91) (dc k_M_findLeft 51 rfl) ?_
        obtain ⟨M_54, hM_54, hz⟩ := Z_lt hz
        refine R_putIE (pc := 92) (ci := 10) (k := 60) (dc k_M_findLeft 52 rfl) fl_M_492 rfl (lb rfl) (Nat.le_trans (lb rfl) hn) rfl rfl rfl hM_54 ?_
        obtain ⟨l2_55, hl2_55, hz⟩ := Z_lt hz
        refine R_iincE (pc := 95) (L' := [(2, vI l2_55), (0, vR 81), (1, vI k)]) 2 (dc k_M_findLeft 53 rfl) rfl (lb rfl) hl2_55 rfl ?_
        refine R_goto (pc := 98) 7 (dc k_M_findLeft 54 rfl) rfl ?_
        refine R_sub [1, 2, 0] rfl ?_
        exact hC_8 _ (Z_some hz)
      refine R_if_eq (pc := 83) 90 (dc k_M_findLeft 47 rfl) rfl (fun hc => ?_) (fun hc => ?_)
      · have hz := Z_neg (show ¬ (¬ n32 l3_24 = 0) from (fun z => z hc)) hz
        refine R_iconst (pc := 90) (a := 0) (dc k_M_findLeft 50 rfl) ?_
        refine R_sub [0, 1, 2] rfl ?_
        exact hJ_52 _ (Z_some hz)
      · have hz := Z_pos (show ¬ n32 l3_24 = 0 from hc) hz
        refine R_iconst (pc := 86) (a := 1) (dc k_M_findLeft 48 rfl) ?_
        refine R_goto (pc := 87) 91 (dc k_M_findLeft 49 rfl) rfl ?_
        refine R_sub [0, 1, 2] rfl ?_
        exact hJ_52 _ (Z_some hz)
    refine R_sub [2, 3, 4, 1, 0] rfl ?_
    refine it_R (C := fun aZ : Int × Int × Mem => Rr y_M_findLeft (5, 120, n, n, E) (qV K) 25 [(0, vR 81), (1, vI k), (2, vI l2_2), (3, vI aZ.1), (4, vI aZ.2.1)] [] E n aZ.2.2) (fun aZ K_21 hC_22 hB_23 hz => ?_) FUEL (l3_14, 0, M_3) hz
    obtain ⟨l3_15, l4_16, M_17⟩ := aZ
    rw [M_findLeft_b25] at hz
    show Rr y_M_findLeft (5, 120, n, n, E) (qV K) 25 [(0, vR 81), (1, vI k), (2, vI l2_2), (3, vI l3_15), (4, vI l4_16)] [] E n M_17
    refine R_iload (pc := 25) 4 (dc k_M_findLeft 16 rfl) rfl ?_
    refine R_aload_n (pc := 27) 0 (dc k_M_findLeft 17 rfl) rfl rfl ?_
    refine R_getI (pc := 28) (ci := 10) (k := 57) (dc k_M_findLeft 18 rfl) fl_M_310 rfl (lb rfl) (Nat.le_trans (lb rfl) hn) rfl (Or.inl rfl) ?_
    have hX_41 : ((n32 l4_16 < n32 (M_17 81 57)) ∧ (¬ n32 l3_15 = 0)) → Rr y_M_findLeft (5, 120, n, n, E) (qV K) 38 [(0, vR 81), (1, vI k), (2, vI l2_2), (3, vI l3_15), (4, vI l4_16)] [] E n M_17 := by
      intro hc
      have hz := Z_pos hc hz
      refine R_aload_n (pc := 38) 0 (dc k_M_findLeft 22 rfl) rfl rfl ?_
      refine R_iload (pc := 39) 4 (dc k_M_findLeft 23 rfl) rfl ?_
      refine R_iload_n (pc := 41) 1 (dc k_M_findLeft 24 rfl) rfl rfl ?_
      refine R_cVP (pc := 42)  (As := [vI l4_16, vI k]) (S := []) ck_M_495 (dc k_M_findLeft 25 rfl) ⟨rfl, ⟨_, rfl, rfl⟩, (lb rfl), (Nat.le_trans (lb rfl) hn)⟩ (lb rfl) (lb rfl) (lb rfl) rfl (ct_M_counts hE hn (Z_bind hz)) (fun r_26 hz => ?_)
      obtain ⟨K_29, hK_30, hz⟩ := Z_cut hz
      have hJ_31 : ∀ (v_27 : Int) (M_28 : Mem), K_29 (v_27, M_28) → Rr y_M_findLeft (5, 120, n, n, E) (qV K) 63 [(0, vR 81), (1, vI k), (2, vI l2_2), (4, vI l4_16)] [vI v_27] E n M_28 := by
        intro v_27 M_28 hk
        have hz := hK_30 _ hk
        refine R_istore_n (pc := 63) (L' := [(3, vI v_27), (0, vR 81), (1, vI k), (2, vI l2_2), (4, vI l4_16)]) (dc k_M_findLeft 35 rfl) rfl (lb rfl) rfl ?_
        obtain ⟨l4_40, hl4_40, hz⟩ := Z_lt hz
        refine R_iincE (pc := 64) (L' := [(4, vI l4_40), (3, vI v_27), (0, vR 81), (1, vI k), (2, vI l2_2)]) 4 (dc k_M_findLeft 36 rfl) rfl (lb rfl) hl4_40 rfl ?_
        refine R_goto (pc := 67) 25 (dc k_M_findLeft 37 rfl) rfl ?_
        refine R_sub [2, 3, 4, 1, 0] rfl ?_
        exact hC_22 _ (Z_some hz)
      obtain ⟨j_33, hj_34, hz⟩ := Z_jn hz
      have hJ_35 : ∀ (M_32 : Mem), Z (j_33 M_32) K_29 → Rr y_M_findLeft (5, 120, n, n, E) (qV K) 58 [(0, vR 81), (1, vI k), (2, vI l2_2), (4, vI l4_16)] [] E n M_32 := by
        intro M_32 hk
        have hz := hj_34 _ hk
        refine R_iconst (pc := 58) (a := 1) (dc k_M_findLeft 32 rfl) ?_
        refine R_goto (pc := 59) 63 (dc k_M_findLeft 33 rfl) rfl ?_
        exact hJ_31 _ _ (Z_some hz)
      refine R_if_eq (pc := 45) 58 (dc k_M_findLeft 26 rfl) rfl (fun hc => ?_) (fun hc => ?_)
      · have hz := Z_neg (show ¬ (¬ n32 r_26 = 0) from (fun z => z hc)) hz
        refine R_sub [0, 1, 2, 4] rfl ?_
        exact hJ_35 _ hz
      · have hz := Z_pos (show ¬ n32 r_26 = 0 from hc) hz
        refine R_aload_n (pc := 48) 0 (dc k_M_findLeft 27 rfl) rfl rfl ?_
        refine R_iload (pc := 49) 4 (dc k_M_findLeft 28 rfl) rfl ?_
        refine R_iload_n (pc := 51) 2 (dc k_M_findLeft 29 rfl) rfl rfl ?_
        refine R_cVM (pc := 52)  (As := [vI l4_16, vI l2_2]) (S := []) ck_M_499 (dc k_M_findLeft 30 rfl) ⟨rfl, ⟨_, rfl, rfl⟩, (lb rfl), (Nat.le_trans (lb rfl) hn)⟩ (lb rfl) (lb rfl) (lb rfl) rfl (ct_M_canBe hE hn (Z_bind hz)) (fun r_36 M_37 hz => ?_)
        refine R_if_eq (pc := 55) 62 (dc k_M_findLeft 31 rfl) rfl (fun hc => ?_) (fun hc => ?_)
        · have hz := Z_neg (show ¬ (¬ n32 r_36 = 0) from (fun z => z hc)) hz
          refine R_iconst (pc := 62) (a := 0) (dc k_M_findLeft 34 rfl) ?_
          refine R_sub [0, 1, 2, 4] rfl ?_
          exact hJ_31 _ _ (Z_some hz)
        · have hz := Z_pos (show ¬ n32 r_36 = 0 from hc) hz
          refine R_sub [0, 1, 2, 4] rfl ?_
          exact hJ_35 _ hz
    have hY_42 : ¬ ((n32 l4_16 < n32 (M_17 81 57)) ∧ (¬ n32 l3_15 = 0)) → Rr y_M_findLeft (5, 120, n, n, E) (qV K) 70 [(0, vR 81), (1, vI k), (2, vI l2_2), (3, vI l3_15), (4, vI l4_16)] [] E n M_17 := by
      intro hc
      have hz := Z_neg hc hz
      refine R_sub [0, 1, 2, 3] rfl ?_
      exact hX_20 _ _ (hB_23 _ (Z_some hz))
    refine R_icmp_ge (pc := 31) 70 (dc k_M_findLeft 19 rfl) rfl (fun hc => ?_) (fun hc => ?_)
    · have hc_43 : n32 (M_17 81 57) ≤ n32 l4_16 := hc
      exact hY_42 (fun z => (Int.not_lt.mpr hc_43) z.1)
    · have hc_44 : n32 l4_16 < n32 (M_17 81 57) := (Int.not_le.mp hc)
      refine R_iload_n (pc := 34) 3 (dc k_M_findLeft 20 rfl) rfl rfl ?_
      refine R_if_eq (pc := 35) 70 (dc k_M_findLeft 21 rfl) rfl (fun hc => ?_) (fun hc => ?_)
      · have hc_45 : n32 l3_15 = 0 := hc
        exact hY_42 (fun z => (fun z => z hc_45) z.2)
      · have hc_46 : ¬ n32 l3_15 = 0 := hc
        exact hX_41 ⟨hc_44, hc_46⟩

set_option maxRecDepth 20000 in
theorem ct_M_left {E : Nat → Bool} {n : Nat} (hE : ∀ c, 81 ≤ c → c ≤ 138 → E c = true) (hn : 138 ≤ n) {k : Int} {M : Mem} {K : Int × Mem → Prop} (hz : Z (M_left k M) K) : Mt y_M_left (6, 144, n, n, E) E [vR 81, vI k] M (qM K) := by
  refine Mt.of (by decide) (lb rfl) (Nat.le_refl _) rfl ?_
  rw [M_left] at hz
  show Rr y_M_left (6, 144, n, n, E) (qM K) 0 [(0, vR 81), (1, vI k)] [] E n M
  refine R_aload_n (pc := 0) 0 (dc k_M_left 0 rfl) rfl rfl ?_
  refine R_iload_n (pc := 1) 1 (dc k_M_left 1 rfl) rfl rfl ?_
  refine R_cVV (pc := 2)  (As := [vI k]) (S := []) ck_M_502 (dc k_M_left 2 rfl) ⟨rfl, ⟨_, rfl, rfl⟩, (lb rfl), (Nat.le_trans (lb rfl) hn)⟩ (lb rfl) (lb rfl) (lb rfl) rfl (ct_M_findLeft hE hn (Z_bind hz)) (fun M_1 hz => ?_)
  refine R_aload_n (pc := 5) 0 (dc k_M_left 3 rfl) rfl rfl ?_
  refine R_getI (pc := 6) (ci := 10) (k := 60) (dc k_M_left 4 rfl) fl_M_492 rfl (lb rfl) (Nat.le_trans (lb rfl) hn) rfl (Or.inl rfl) ?_
  exact R_iret (pc := 9) (dc k_M_left 5 rfl) rfl rfl rfl ⟨_, rfl, (Z_some hz)⟩

set_option maxRecDepth 20000 in
theorem ct_M_world {E : Nat → Bool} {n : Nat} (hE : ∀ c, 81 ≤ c → c ≤ 138 → E c = true) (hn : 138 ≤ n) {i : Int} {k : Int} {M : Mem} {K : Int × Mem → Prop} (hz : Z (M_world i k M) K) : Mt y_M_world (6, 144, n, n, E) E [vR 81, vI i, vI k] M (qM K) := by
  refine Mt.of (by decide) (lb rfl) (Nat.le_refl _) rfl ?_
  rw [M_world] at hz
  show Rr y_M_world (6, 144, n, n, E) (qM K) 0 [(0, vR 81), (1, vI i), (2, vI k)] [] E n M
  refine R_aload_n (pc := 0) 0 (dc k_M_world 0 rfl) rfl rfl ?_
  refine R_iload_n (pc := 1) 2 (dc k_M_world 1 rfl) rfl rfl ?_
  refine R_cVV (pc := 2)  (As := [vI k]) (S := []) ck_M_502 (dc k_M_world 2 rfl) ⟨rfl, ⟨_, rfl, rfl⟩, (lb rfl), (Nat.le_trans (lb rfl) hn)⟩ (lb rfl) (lb rfl) (lb rfl) rfl (ct_M_findLeft hE hn (Z_bind hz)) (fun M_1 hz => ?_)
  refine R_iload_n (pc := 5) 1 (dc k_M_world 3 rfl) rfl rfl ?_
  refine R_istore_n (pc := 6) (L' := [(3, vI i), (0, vR 81), (1, vI i), (2, vI k)]) (dc k_M_world 4 rfl) rfl (lb rfl) rfl ?_
  refine R_iconst (pc := 7) (a := 0) (dc k_M_world 5 rfl) ?_
  refine R_istore (pc := 8) (L' := [(4, vI 0), (3, vI i), (0, vR 81), (1, vI i), (2, vI k)]) (dc k_M_world 6 rfl) (lb rfl) rfl ?_
  obtain ⟨K_4, hK_5, hz⟩ := Z_cut hz
  have hX_6 : K_4 (.inl ()) → Rr y_M_world (6, 144, n, n, E) (qM K) 52 [] [] E n M_1 := by
    intro  hk
    have hz := hK_5 _ hk
    refine R_iconst (pc := 52) (a := (-1)) (dc k_M_world 26 rfl) ?_
    exact R_iret (pc := 53) (dc k_M_world 27 rfl) rfl rfl rfl ⟨_, rfl, (Z_some hz)⟩
  refine R_sub [2, 1, 0] rfl ?_
  refine it_R (C := fun aZ : Int × Int => Rr y_M_world (6, 144, n, n, E) (qM K) 10 [(0, vR 81), (3, vI aZ.1), (4, vI aZ.2)] [] E n M_1) (fun aZ K_7 hC_8 hB_9 hz => ?_) FUEL (i, 0) hz
  obtain ⟨l3_2, l4_3⟩ := aZ
  rw [M_world_b10] at hz
  show Rr y_M_world (6, 144, n, n, E) (qM K) 10 [(0, vR 81), (3, vI l3_2), (4, vI l4_3)] [] E n M_1
  refine R_iload (pc := 10) 2 (dc k_M_world 7 rfl) rfl ?_
  refine R_aload_n (pc := 12) 0 (dc k_M_world 8 rfl) rfl rfl ?_
  refine R_cVP (pc := 13)  (As := []) (S := [vI l4_3]) ck_M_427 (dc k_M_world 9 rfl) ⟨rfl, ⟨_, rfl, rfl⟩, (lb rfl), (Nat.le_trans (lb rfl) hn)⟩ (lb rfl) (lb rfl) (lb rfl) rfl (ct_M_worldMany hE hn (Z_bind hz)) (fun r_10 hz => ?_)
  have hX_21 : ((n32 l4_3 < n32 r_10) ∧ (0 ≤ n32 l3_2)) → Rr y_M_world (6, 144, n, n, E) (qM K) 23 [(0, vR 81), (3, vI l3_2), (4, vI l4_3)] [] E n M_1 := by
    intro hc
    have hz := Z_pos hc hz
    refine R_aload_n (pc := 23) 0 (dc k_M_world 13 rfl) rfl rfl ?_
    refine R_getS (pc := 24) (ci := 10) (k := 59) 122 (dc k_M_world 14 rfl) fl_M_137 rfl (lb rfl) (Nat.le_trans (lb rfl) hn) (hE 81 (lb rfl) (lb rfl)) rfl (by decide) rfl ?_
    refine R_iload (pc := 27) 2 (dc k_M_world 15 rfl) rfl ?_
    obtain ⟨⟨hg_11, hg_12⟩, hz⟩ := Z_chk hz
    refine R_zald (pc := 29) (dc k_M_world 16 rfl) rfl (lb rfl) (Nat.le_trans (lb rfl) hn) hg_11 hg_12 ?_
    obtain ⟨j_14, hj_15, hz⟩ := Z_jn hz
    have hJ_16 : ∀ (l3_13 : Int), Z (j_14 l3_13) K_7 → Rr y_M_world (6, 144, n, n, E) (qM K) 46 [(0, vR 81), (3, vI l3_13), (4, vI l4_3)] [] E n M_1 := by
      intro l3_13 hk
      have hz := hj_15 _ hk
      obtain ⟨l4_20, hl4_20, hz⟩ := Z_lt hz
      refine R_iincE (pc := 46) (L' := [(4, vI l4_20), (0, vR 81), (3, vI l3_13)]) 2 (dc k_M_world 24 rfl) rfl (lb rfl) hl4_20 rfl ?_
      refine R_goto (pc := 49) 10 (dc k_M_world 25 rfl) rfl ?_
      refine R_sub [1, 2, 0] rfl ?_
      exact hC_8 _ (Z_some hz)
    refine R_if_ne (pc := 30) 36 (dc k_M_world 17 rfl) rfl (fun hc => ?_) (fun hc => ?_)
    · have hz := Z_neg (show ¬ (n32 (M_1 122 (Int.toNat l4_3)) = 0) from hc) hz
      refine R_iload_n (pc := 36) 1 (dc k_M_world 19 rfl) rfl rfl ?_
      refine R_if_ne (pc := 37) 43 (dc k_M_world 20 rfl) rfl (fun hc => ?_) (fun hc => ?_)
      · have hz := Z_neg (show ¬ (n32 l3_2 = 0) from hc) hz
        obtain ⟨l3_17, hl3_17, hz⟩ := Z_lt hz
        refine R_iincE (pc := 43) (L' := [(3, vI l3_17), (0, vR 81), (4, vI l4_3)]) 1 (dc k_M_world 23 rfl) rfl (lb rfl) hl3_17 rfl ?_
        refine R_sub [1, 0, 2] rfl ?_
        exact hJ_16 _ hz
      · have hz := Z_pos (show n32 l3_2 = 0 from (Decidable.not_not.mp hc)) hz
        refine R_iload (pc := 40) 2 (dc k_M_world 21 rfl) rfl ?_
        exact R_iret (pc := 42) (dc k_M_world 22 rfl) rfl rfl rfl ⟨_, rfl, (Z_some (hK_5 _ (hB_9 _ (Z_some hz))))⟩
    · have hz := Z_pos (show n32 (M_1 122 (Int.toNat l4_3)) = 0 from (Decidable.not_not.mp hc)) hz
      refine R_goto (pc := 33) 46 (dc k_M_world 18 rfl) rfl ?_
      exact hJ_16 _ hz
  have hY_22 : ¬ ((n32 l4_3 < n32 r_10) ∧ (0 ≤ n32 l3_2)) → Rr y_M_world (6, 144, n, n, E) (qM K) 52 [(0, vR 81), (3, vI l3_2), (4, vI l4_3)] [] E n M_1 := by
    intro hc
    have hz := Z_neg hc hz
    refine R_sub [] rfl ?_
    exact hX_6 (hB_9 _ (Z_some hz))
  refine R_icmp_ge (pc := 16) 52 (dc k_M_world 10 rfl) rfl (fun hc => ?_) (fun hc => ?_)
  · have hc_23 : n32 r_10 ≤ n32 l4_3 := hc
    exact hY_22 (fun z => (Int.not_lt.mpr hc_23) z.1)
  · have hc_24 : n32 l4_3 < n32 r_10 := (Int.not_le.mp hc)
    refine R_iload_n (pc := 19) 1 (dc k_M_world 11 rfl) rfl rfl ?_
    refine R_if_lt (pc := 20) 52 (dc k_M_world 12 rfl) rfl (fun hc => ?_) (fun hc => ?_)
    · have hc_25 : n32 l3_2 < 0 := hc
      exact hY_22 (fun z => (Int.not_le.mpr hc_25) z.2)
    · have hc_26 : 0 ≤ n32 l3_2 := (Int.not_lt.mp hc)
      exact hX_21 ⟨hc_24, hc_26⟩

set_option maxRecDepth 20000 in
theorem ct_M_soMany {E : Nat → Bool} {n : Nat} (hE : ∀ c, 81 ≤ c → c ≤ 138 → E c = true) (hn : 138 ≤ n) {r : Int} {M : Mem} {K : Int → Prop} (hz : Z (M_soMany r M) K) : Mt y_M_soMany (2, 40, n, n, E) E [vR 81, vI r] M (qP M K) := by
  refine Mt.of (by decide) (lb rfl) (Nat.le_refl _) rfl ?_
  rw [M_soMany] at hz
  show Rr y_M_soMany (2, 40, n, n, E) (qP M K) 0 [(0, vR 81), (1, vI r)] [] E n M
  refine R_iconst (pc := 0) (a := 0) (dc k_M_soMany 0 rfl) ?_
  refine R_istore_n (pc := 1) (L' := [(2, vI 0), (0, vR 81), (1, vI r)]) (dc k_M_soMany 1 rfl) rfl (lb rfl) rfl ?_
  refine R_iconst (pc := 2) (a := 0) (dc k_M_soMany 2 rfl) ?_
  refine R_istore_n (pc := 3) (L' := [(3, vI 0), (2, vI 0), (0, vR 81), (1, vI r)]) (dc k_M_soMany 3 rfl) rfl (lb rfl) rfl ?_
  obtain ⟨K_3, hK_4, hz⟩ := Z_cut hz
  have hX_5 : ∀ (l2_9 : Int), K_3 l2_9 → Rr y_M_soMany (2, 40, n, n, E) (qP M K) 48 [(2, vI l2_9)] [] E n M := by
    intro l2_9 hk
    have hz := hK_4 _ hk
    refine R_iload_n (pc := 48) 0 (dc k_M_soMany 28 rfl) rfl rfl ?_
    exact R_iret (pc := 49) (dc k_M_soMany 29 rfl) rfl rfl rfl ⟨_, rfl, rfl, (Z_some hz)⟩
  refine R_sub [2, 3, 1, 0] rfl ?_
  refine it_R (C := fun aZ : Int × Int => Rr y_M_soMany (2, 40, n, n, E) (qP M K) 4 [(0, vR 81), (1, vI r), (2, vI aZ.1), (3, vI aZ.2)] [] E n M) (fun aZ K_6 hC_7 hB_8 hz => ?_) FUEL (0, 0) hz
  obtain ⟨l2_1, l3_2⟩ := aZ
  rw [M_soMany_b4] at hz
  show Rr y_M_soMany (2, 40, n, n, E) (qP M K) 4 [(0, vR 81), (1, vI r), (2, vI l2_1), (3, vI l3_2)] [] E n M
  refine R_iload_n (pc := 4) 3 (dc k_M_soMany 4 rfl) rfl rfl ?_
  refine R_aload_n (pc := 5) 0 (dc k_M_soMany 5 rfl) rfl rfl ?_
  refine R_cVP (pc := 6)  (As := []) (S := [vI l3_2]) ck_M_427 (dc k_M_soMany 6 rfl) ⟨rfl, ⟨_, rfl, rfl⟩, (lb rfl), (Nat.le_trans (lb rfl) hn)⟩ (lb rfl) (lb rfl) (lb rfl) rfl (ct_M_worldMany hE hn (Z_bind hz)) (fun r_10 hz => ?_)
  refine R_icmp_ge (pc := 9) 48 (dc k_M_soMany 7 rfl) rfl (fun hc => ?_) (fun hc => ?_)
  · have hz := Z_neg (show ¬ (n32 l3_2 < n32 r_10) from (Int.not_lt.mpr hc)) hz
    refine R_sub [2] rfl ?_
    exact hX_5 _ (hB_8 _ (Z_some hz))
  · have hz := Z_pos (show n32 l3_2 < n32 r_10 from (Int.not_le.mp hc)) hz
    refine R_iload_n (pc := 12) 2 (dc k_M_soMany 8 rfl) rfl rfl ?_
    refine R_aload_n (pc := 13) 0 (dc k_M_soMany 9 rfl) rfl rfl ?_
    refine R_getS (pc := 14) (ci := 10) (k := 59) 122 (dc k_M_soMany 10 rfl) fl_M_137 rfl (lb rfl) (Nat.le_trans (lb rfl) hn) (hE 81 (lb rfl) (lb rfl)) rfl (by decide) rfl ?_
    refine R_iload_n (pc := 17) 3 (dc k_M_soMany 11 rfl) rfl rfl ?_
    obtain ⟨⟨hg_11, hg_12⟩, hz⟩ := Z_chk hz
    refine R_zald (pc := 18) (dc k_M_soMany 12 rfl) rfl (lb rfl) (Nat.le_trans (lb rfl) hn) hg_11 hg_12 ?_
    obtain ⟨K_14, hK_15, hz⟩ := Z_cut hz
    have hJ_16 : ∀ (v_13 : Int), K_14 v_13 → Rr y_M_soMany (2, 40, n, n, E) (qP M K) 40 [(0, vR 81), (1, vI r), (3, vI l3_2)] [vI v_13, vI l2_1] E n M := by
      intro v_13 hk
      have hz := hK_15 _ hk
      refine R_iadd (pc := 40) (dc k_M_soMany 24 rfl) ?_
      obtain ⟨l2_25, hl2_25, hz⟩ := Z_lt hz
      refine R_istore_nE (pc := 41) (L' := [(2, vI l2_25), (0, vR 81), (1, vI r), (3, vI l3_2)]) (dc k_M_soMany 25 rfl) rfl (lb rfl) hl2_25 rfl ?_
      obtain ⟨l3_26, hl3_26, hz⟩ := Z_lt hz
      refine R_iincE (pc := 42) (L' := [(3, vI l3_26), (2, vI l2_25), (0, vR 81), (1, vI r)]) 3 (dc k_M_soMany 26 rfl) rfl (lb rfl) hl3_26 rfl ?_
      refine R_goto (pc := 45) 4 (dc k_M_soMany 27 rfl) rfl ?_
      refine R_sub [2, 3, 1, 0] rfl ?_
      exact hC_7 _ (Z_some hz)
    obtain ⟨K_17, hK_18, hz⟩ := Z_cut hz
    have hX_19 : K_17 true → Rr y_M_soMany (2, 40, n, n, E) (qP M K) 35 [(0, vR 81), (1, vI r), (2, vI l2_1), (3, vI l3_2)] [vI l2_1] E n M := by
      intro hk
      have hz := Z_pos rfl (hK_18 _ hk)
      refine R_iconst (pc := 35) (a := 1) (dc k_M_soMany 21 rfl) ?_
      refine R_goto (pc := 36) 40 (dc k_M_soMany 22 rfl) rfl ?_
      refine R_sub [0, 1, 3] rfl ?_
      exact hJ_16 _ (Z_some hz)
    have hY_20 : K_17 false → Rr y_M_soMany (2, 40, n, n, E) (qP M K) 39 [(0, vR 81), (1, vI r), (2, vI l2_1), (3, vI l3_2)] [vI l2_1] E n M := by
      intro hk
      have hz := Z_neg Bool.false_ne_true (hK_18 _ hk)
      refine R_iconst (pc := 39) (a := 0) (dc k_M_soMany 23 rfl) ?_
      refine R_sub [0, 1, 3] rfl ?_
      exact hJ_16 _ (Z_some hz)
    refine R_if_eq (pc := 19) 39 (dc k_M_soMany 13 rfl) rfl (fun hc => ?_) (fun hc => ?_)
    · have hz := Z_neg (show ¬ (¬ n32 (M 122 (Int.toNat l3_2)) = 0) from (fun z => z hc)) hz
      exact hY_20 (Z_some hz)
    · have hz := Z_pos (show ¬ n32 (M 122 (Int.toNat l3_2)) = 0 from hc) hz
      refine R_aload_n (pc := 22) 0 (dc k_M_soMany 14 rfl) rfl rfl ?_
      refine R_getS (pc := 23) (ci := 10) (k := 47) 112 (dc k_M_soMany 15 rfl) fl_M_107 rfl (lb rfl) (Nat.le_trans (lb rfl) hn) (hE 81 (lb rfl) (lb rfl)) rfl (by decide) rfl ?_
      refine R_iload_n (pc := 26) 1 (dc k_M_soMany 16 rfl) rfl rfl ?_
      refine R_iload_n (pc := 27) 3 (dc k_M_soMany 17 rfl) rfl rfl ?_
      refine R_cSP (pc := 28)  (As := [vI r, vI l3_2]) (S := [vR 112, vI l2_1]) ck_M_430 (dc k_M_soMany 18 rfl) (lb rfl) (lb rfl) (lb rfl) rfl (ct_M_spot hE hn (Z_bind hz)) (fun r_22 hz => ?_)
      obtain ⟨⟨hg_23, hg_24⟩, hz⟩ := Z_chk hz
      refine R_zald (pc := 31) (dc k_M_soMany 19 rfl) rfl (lb rfl) (Nat.le_trans (lb rfl) hn) hg_23 hg_24 ?_
      refine R_if_eq (pc := 32) 39 (dc k_M_soMany 20 rfl) rfl (fun hc => ?_) (fun hc => ?_)
      · have hz := Z_neg (show ¬ (¬ n32 (M 112 (Int.toNat r_22)) = 0) from (fun z => z hc)) hz
        exact hY_20 (Z_some hz)
      · have hz := Z_pos (show ¬ n32 (M 112 (Int.toNat r_22)) = 0 from hc) hz
        exact hX_19 (Z_some hz)

set_option maxRecDepth 20000 in
theorem ct_M_sure {E : Nat → Bool} {n : Nat} (hE : ∀ c, 81 ≤ c → c ≤ 138 → E c = true) (hn : 138 ≤ n) {r : Int} {k : Int} {M : Mem} {K : Int × Mem → Prop} (hz : Z (M_sure r k M) K) : Mt y_M_sure (6, 144, n, n, E) E [vR 81, vI r, vI k] M (qM K) := by
  refine Mt.of (by decide) (lb rfl) (Nat.le_refl _) rfl ?_
  rw [M_sure] at hz
  show Rr y_M_sure (6, 144, n, n, E) (qM K) 0 [(0, vR 81), (1, vI r), (2, vI k)] [] E n M
  refine R_aload_n (pc := 0) 0 (dc k_M_sure 0 rfl) rfl rfl ?_
  refine R_iload_n (pc := 1) 1 (dc k_M_sure 1 rfl) rfl rfl ?_
  refine R_cVP (pc := 2)  (As := [vI r]) (S := []) ck_M_452 (dc k_M_sure 2 rfl) ⟨rfl, ⟨_, rfl, rfl⟩, (lb rfl), (Nat.le_trans (lb rfl) hn)⟩ (lb rfl) (lb rfl) (lb rfl) rfl (ct_M_isRow hE hn (Z_bind hz)) (fun r_1 hz => ?_)
  refine R_if_ne (pc := 5) 10 (dc k_M_sure 3 rfl) rfl (fun hc => ?_) (fun hc => ?_)
  · have hz := Z_neg (show ¬ (n32 r_1 = 0) from hc) hz
    refine R_aload_n (pc := 10) 0 (dc k_M_sure 6 rfl) rfl rfl ?_
    refine R_iload_n (pc := 11) 2 (dc k_M_sure 7 rfl) rfl rfl ?_
    refine R_cVV (pc := 12)  (As := [vI k]) (S := []) ck_M_502 (dc k_M_sure 8 rfl) ⟨rfl, ⟨_, rfl, rfl⟩, (lb rfl), (Nat.le_trans (lb rfl) hn)⟩ (lb rfl) (lb rfl) (lb rfl) rfl (ct_M_findLeft hE hn (Z_bind hz)) (fun M_2 hz => ?_)
    refine R_aload_n (pc := 15) 0 (dc k_M_sure 9 rfl) rfl rfl ?_
    refine R_iload_n (pc := 16) 1 (dc k_M_sure 10 rfl) rfl rfl ?_
    refine R_cVP (pc := 17)  (As := [vI r]) (S := []) ck_M_505 (dc k_M_sure 11 rfl) ⟨rfl, ⟨_, rfl, rfl⟩, (lb rfl), (Nat.le_trans (lb rfl) hn)⟩ (lb rfl) (lb rfl) (lb rfl) rfl (ct_M_soMany hE hn (Z_bind hz)) (fun r_3 hz => ?_)
    refine R_istore_n (pc := 20) (L' := [(3, vI r_3), (0, vR 81), (1, vI r), (2, vI k)]) (dc k_M_sure 12 rfl) rfl (lb rfl) rfl ?_
    refine R_aload_n (pc := 21) 1 (dc k_M_sure 13 rfl) rfl rfl ?_
    refine R_getI (pc := 22) (ci := 10) (k := 60) (dc k_M_sure 14 rfl) fl_M_492 rfl (lb rfl) (Nat.le_trans (lb rfl) hn) rfl (Or.inl rfl) ?_
    refine R_if_ne (pc := 25) 32 (dc k_M_sure 15 rfl) rfl (fun hc => ?_) (fun hc => ?_)
    · have hz := Z_neg (show ¬ (n32 (M_2 81 60) = 0) from hc) hz
      refine R_iload_n (pc := 32) 0 (dc k_M_sure 18 rfl) rfl rfl ?_
      refine R_aload_n (pc := 33) 1 (dc k_M_sure 19 rfl) rfl rfl ?_
      refine R_getI (pc := 34) (ci := 10) (k := 60) (dc k_M_sure 20 rfl) fl_M_492 rfl (lb rfl) (Nat.le_trans (lb rfl) hn) rfl (Or.inl rfl) ?_
      refine R_icmp_ne (pc := 37) 44 (dc k_M_sure 21 rfl) rfl (fun hc => ?_) (fun hc => ?_)
      · have hz := Z_neg (show ¬ (n32 r_3 = n32 (M_2 81 60)) from hc) hz
        refine R_iload_n (pc := 44) 0 (dc k_M_sure 24 rfl) rfl rfl ?_
        refine R_if_ne (pc := 45) 52 (dc k_M_sure 25 rfl) rfl (fun hc => ?_) (fun hc => ?_)
        · have hz := Z_neg (show ¬ (n32 r_3 = 0) from hc) hz
          refine R_bipush (pc := 52) (a := (-2)) (dc k_M_sure 28 rfl) (by decide) ?_
          exact R_iret (pc := 54) (dc k_M_sure 29 rfl) rfl rfl rfl ⟨_, rfl, (Z_some hz)⟩
        · have hz := Z_pos (show n32 r_3 = 0 from (Decidable.not_not.mp hc)) hz
          refine R_iconst (pc := 48) (a := 0) (dc k_M_sure 26 rfl) ?_
          refine R_goto (pc := 49) 54 (dc k_M_sure 27 rfl) rfl ?_
          exact R_iret (pc := 54) (dc k_M_sure 29 rfl) rfl rfl rfl ⟨_, rfl, (Z_some hz)⟩
      · have hz := Z_pos (show n32 r_3 = n32 (M_2 81 60) from (Decidable.not_not.mp hc)) hz
        refine R_iconst (pc := 40) (a := 1) (dc k_M_sure 22 rfl) ?_
        refine R_goto (pc := 41) 54 (dc k_M_sure 23 rfl) rfl ?_
        exact R_iret (pc := 54) (dc k_M_sure 29 rfl) rfl rfl rfl ⟨_, rfl, (Z_some hz)⟩
    · have hz := Z_pos (show n32 (M_2 81 60) = 0 from (Decidable.not_not.mp hc)) hz
      refine R_iconst (pc := 28) (a := (-1)) (dc k_M_sure 16 rfl) ?_
      refine R_goto (pc := 29) 54 (dc k_M_sure 17 rfl) rfl ?_
      exact R_iret (pc := 54) (dc k_M_sure 29 rfl) rfl rfl rfl ⟨_, rfl, (Z_some hz)⟩
  · have hz := Z_pos (show n32 r_1 = 0 from (Decidable.not_not.mp hc)) hz
    refine R_iconst (pc := 8) (a := (-1)) (dc k_M_sure 4 rfl) ?_
    exact R_iret (pc := 9) (dc k_M_sure 5 rfl) rfl rfl rfl ⟨_, rfl, (Z_some hz)⟩

set_option maxRecDepth 20000 in
theorem ct_M_isProved {E : Nat → Bool} {n : Nat} (hE : ∀ c, 81 ≤ c → c ≤ 138 → E c = true) (hn : 138 ≤ n) {r : Int} {set_ : Int} {many : Int} {M : Mem} {K : Int → Prop} (hz : Z (M_isProved r set_ many M) K) : Mt y_M_isProved (2, 40, n, n, E) E [vR 81, vI r, vI set_, vI many] M (qP M K) := by
  refine Mt.of (by decide) (lb rfl) (Nat.le_refl _) rfl ?_
  rw [M_isProved] at hz
  show Rr y_M_isProved (2, 40, n, n, E) (qP M K) 0 [(0, vR 81), (1, vI r), (2, vI set_), (3, vI many)] [] E n M
  refine R_iconst (pc := 0) (a := 0) (dc k_M_isProved 0 rfl) ?_
  refine R_istore (pc := 1) (L' := [(4, vI 0), (0, vR 81), (1, vI r), (2, vI set_), (3, vI many)]) (dc k_M_isProved 1 rfl) (lb rfl) rfl ?_
  obtain ⟨K_2, hK_3, hz⟩ := Z_cut hz
  have hX_4 : K_2 (.inl ()) → Rr y_M_isProved (2, 40, n, n, E) (qP M K) 107 [] [] E n M := by
    intro  hk
    have hz := hK_3 _ hk
    refine R_iconst (pc := 107) (a := 1) (dc k_M_isProved 54 rfl) ?_
    exact R_zret (pc := 108) (dc k_M_isProved 55 rfl) rfl (Or.inr rfl) rfl rfl ⟨_, rfl, rfl, (Z_some hz)⟩
  refine R_sub [1, 2, 3, 4, 0] rfl ?_
  refine it_R (C := fun aZ : Int => Rr y_M_isProved (2, 40, n, n, E) (qP M K) 3 [(0, vR 81), (1, vI r), (2, vI set_), (3, vI many), (4, vI aZ)] [] E n M) (fun l4_1 K_5 hC_6 hB_7 hz => ?_) FUEL 0 hz
  rw [M_isProved_b3] at hz
  show Rr y_M_isProved (2, 40, n, n, E) (qP M K) 3 [(0, vR 81), (1, vI r), (2, vI set_), (3, vI many), (4, vI l4_1)] [] E n M
  refine R_iload (pc := 3) 4 (dc k_M_isProved 2 rfl) rfl ?_
  refine R_aload_n (pc := 5) 0 (dc k_M_isProved 3 rfl) rfl rfl ?_
  refine R_cVP (pc := 6)  (As := []) (S := [vI l4_1]) ck_M_427 (dc k_M_isProved 4 rfl) ⟨rfl, ⟨_, rfl, rfl⟩, (lb rfl), (Nat.le_trans (lb rfl) hn)⟩ (lb rfl) (lb rfl) (lb rfl) rfl (ct_M_worldMany hE hn (Z_bind hz)) (fun r_8 hz => ?_)
  refine R_icmp_ge (pc := 9) 107 (dc k_M_isProved 5 rfl) rfl (fun hc => ?_) (fun hc => ?_)
  · have hz := Z_neg (show ¬ (n32 l4_1 < n32 r_8) from (Int.not_lt.mpr hc)) hz
    refine R_sub [] rfl ?_
    exact hX_4 (hB_7 _ (Z_some hz))
  · have hz := Z_pos (show n32 l4_1 < n32 r_8 from (Int.not_le.mp hc)) hz
    refine R_aload_n (pc := 12) 0 (dc k_M_isProved 6 rfl) rfl rfl ?_
    refine R_getS (pc := 13) (ci := 10) (k := 46) 111 (dc k_M_isProved 7 rfl) fl_M_104 rfl (lb rfl) (Nat.le_trans (lb rfl) hn) (hE 81 (lb rfl) (lb rfl)) rfl (by decide) rfl ?_
    refine R_iload (pc := 16) 4 (dc k_M_isProved 8 rfl) rfl ?_
    obtain ⟨⟨hg_9, hg_10⟩, hz⟩ := Z_chk hz
    refine R_zald (pc := 18) (dc k_M_isProved 9 rfl) rfl (lb rfl) (Nat.le_trans (lb rfl) hn) hg_9 hg_10 ?_
    obtain ⟨K_12, hK_13, hz⟩ := Z_cut hz
    have hJ_14 : ∀ (v_11 : Int), K_12 v_11 → Rr y_M_isProved (2, 40, n, n, E) (qP M K) 41 [(0, vR 81), (1, vI r), (2, vI set_), (3, vI many), (4, vI l4_1)] [vI v_11] E n M := by
      intro v_11 hk
      have hz := hK_13 _ hk
      refine R_istore (pc := 41) (L' := [(5, vI v_11), (0, vR 81), (1, vI r), (2, vI set_), (3, vI many), (4, vI l4_1)]) (dc k_M_isProved 21 rfl) (lb rfl) rfl ?_
      refine R_iconst (pc := 43) (a := 0) (dc k_M_isProved 22 rfl) ?_
      refine R_istore (pc := 44) (L' := [(6, vI 0), (5, vI v_11), (0, vR 81), (1, vI r), (2, vI set_), (3, vI many), (4, vI l4_1)]) (dc k_M_isProved 23 rfl) (lb rfl) rfl ?_
      obtain ⟨K_25, hK_26, hz⟩ := Z_cut hz
      have hX_27 : ∀ (l5_31 : Int), K_25 l5_31 → Rr y_M_isProved (2, 40, n, n, E) (qP M K) 94 [(0, vR 81), (1, vI r), (2, vI set_), (3, vI many), (4, vI l4_1), (5, vI l5_31)] [] E n M := by
        intro l5_31 hk
        have hz := hK_26 _ hk
        refine R_iload (pc := 94) 5 (dc k_M_isProved 48 rfl) rfl ?_
        refine R_if_eq (pc := 96) 101 (dc k_M_isProved 49 rfl) rfl (fun hc => ?_) (fun hc => ?_)
        · have hz := Z_neg (show ¬ (¬ n32 l5_31 = 0) from (fun z => z hc)) hz
          obtain ⟨l4_51, hl4_51, hz⟩ := Z_lt hz
          refine R_iincE (pc := 101) (L' := [(4, vI l4_51), (0, vR 81), (1, vI r), (2, vI set_), (3, vI many), (5, vI l5_31)]) 4 (dc k_M_isProved 52 rfl) rfl (lb rfl) hl4_51 rfl ?_
          refine R_goto (pc := 104) 3 (dc k_M_isProved 53 rfl) rfl ?_
          refine R_sub [1, 2, 3, 4, 0] rfl ?_
          exact hC_6 _ (Z_some hz)
        · have hz := Z_pos (show ¬ n32 l5_31 = 0 from hc) hz
          refine R_iconst (pc := 99) (a := 0) (dc k_M_isProved 50 rfl) ?_
          exact R_zret (pc := 100) (dc k_M_isProved 51 rfl) rfl (Or.inl rfl) rfl rfl ⟨_, rfl, rfl, (Z_some (hK_3 _ (hB_7 _ (Z_some hz))))⟩
      refine R_sub [2, 3, 4, 5, 6, 1, 0] rfl ?_
      refine it_R (C := fun aZ : Int × Int => Rr y_M_isProved (2, 40, n, n, E) (qP M K) 46 [(0, vR 81), (1, vI r), (2, vI set_), (3, vI many), (4, vI l4_1), (5, vI aZ.1), (6, vI aZ.2)] [] E n M) (fun aZ K_28 hC_29 hB_30 hz => ?_) FUEL (v_11, 0) hz
      obtain ⟨l5_23, l6_24⟩ := aZ
      rw [M_isProved_b46] at hz
      show Rr y_M_isProved (2, 40, n, n, E) (qP M K) 46 [(0, vR 81), (1, vI r), (2, vI set_), (3, vI many), (4, vI l4_1), (5, vI l5_23), (6, vI l6_24)] [] E n M
      refine R_iload (pc := 46) 6 (dc k_M_isProved 24 rfl) rfl ?_
      refine R_iload_n (pc := 48) 3 (dc k_M_isProved 25 rfl) rfl rfl ?_
      have hX_45 : ((n32 l6_24 < n32 many) ∧ (¬ n32 l5_23 = 0)) → Rr y_M_isProved (2, 40, n, n, E) (qP M K) 57 [(0, vR 81), (1, vI r), (2, vI set_), (3, vI many), (4, vI l4_1), (5, vI l5_23), (6, vI l6_24)] [] E n M := by
        intro hc
        have hz := Z_pos hc hz
        refine R_iload_n (pc := 57) 2 (dc k_M_isProved 29 rfl) rfl rfl ?_
        refine R_iload (pc := 58) 6 (dc k_M_isProved 30 rfl) rfl ?_
        refine R_ishr (pc := 60) (dc k_M_isProved 31 rfl) ?_
        refine R_iconst (pc := 61) (a := 1) (dc k_M_isProved 32 rfl) ?_
        refine R_iand (pc := 62) (dc k_M_isProved 33 rfl) ?_
        obtain ⟨K_33, hK_34, hz⟩ := Z_cut hz
        have hJ_35 : ∀ (v_32 : Int), K_33 v_32 → Rr y_M_isProved (2, 40, n, n, E) (qP M K) 86 [(0, vR 81), (1, vI r), (2, vI set_), (3, vI many), (4, vI l4_1), (6, vI l6_24)] [vI v_32] E n M := by
          intro v_32 hk
          have hz := hK_34 _ hk
          refine R_istore (pc := 86) (L' := [(5, vI v_32), (0, vR 81), (1, vI r), (2, vI set_), (3, vI many), (4, vI l4_1), (6, vI l6_24)]) (dc k_M_isProved 45 rfl) (lb rfl) rfl ?_
          obtain ⟨l6_44, hl6_44, hz⟩ := Z_lt hz
          refine R_iincE (pc := 88) (L' := [(6, vI l6_44), (5, vI v_32), (0, vR 81), (1, vI r), (2, vI set_), (3, vI many), (4, vI l4_1)]) 6 (dc k_M_isProved 46 rfl) rfl (lb rfl) hl6_44 rfl ?_
          refine R_goto (pc := 91) 46 (dc k_M_isProved 47 rfl) rfl ?_
          refine R_sub [2, 3, 4, 5, 6, 1, 0] rfl ?_
          exact hC_29 _ (Z_some hz)
        obtain ⟨K_36, hK_37, hz⟩ := Z_cut hz
        have hX_38 : K_36 true → Rr y_M_isProved (2, 40, n, n, E) (qP M K) 81 [(0, vR 81), (1, vI r), (2, vI set_), (3, vI many), (4, vI l4_1), (5, vI l5_23), (6, vI l6_24)] [] E n M := by
          intro hk
          have hz := Z_pos rfl (hK_37 _ hk)
          refine R_iconst (pc := 81) (a := 1) (dc k_M_isProved 42 rfl) ?_
          refine R_goto (pc := 82) 86 (dc k_M_isProved 43 rfl) rfl ?_
          refine R_sub [0, 1, 2, 3, 4, 6] rfl ?_
          exact hJ_35 _ (Z_some hz)
        have hY_39 : K_36 false → Rr y_M_isProved (2, 40, n, n, E) (qP M K) 85 [(0, vR 81), (1, vI r), (2, vI set_), (3, vI many), (4, vI l4_1), (5, vI l5_23), (6, vI l6_24)] [] E n M := by
          intro hk
          have hz := Z_neg Bool.false_ne_true (hK_37 _ hk)
          refine R_iconst (pc := 85) (a := 0) (dc k_M_isProved 44 rfl) ?_
          refine R_sub [0, 1, 2, 3, 4, 6] rfl ?_
          exact hJ_35 _ (Z_some hz)
        refine R_if_eq (pc := 63) 81 (dc k_M_isProved 34 rfl) rfl (fun hc => ?_) (fun hc => ?_)
        · have hz := Z_neg (show ¬ (¬ n32 (iand (ishr set_ l6_24) 1) = 0) from (fun z => z hc)) hz
          exact hX_38 (Z_some hz)
        · have hz := Z_pos (show ¬ n32 (iand (ishr set_ l6_24) 1) = 0 from hc) hz
          refine R_aload_n (pc := 66) 0 (dc k_M_isProved 35 rfl) rfl rfl ?_
          refine R_getS (pc := 67) (ci := 10) (k := 62) 124 (dc k_M_isProved 36 rfl) fl_M_143 rfl (lb rfl) (Nat.le_trans (lb rfl) hn) (hE 81 (lb rfl) (lb rfl)) rfl (by decide) rfl ?_
          refine R_iload (pc := 70) 6 (dc k_M_isProved 37 rfl) rfl ?_
          refine R_iload (pc := 72) 4 (dc k_M_isProved 38 rfl) rfl ?_
          refine R_cSP (pc := 74)  (As := [vI l6_24, vI l4_1]) (S := [vR 124]) ck_M_430 (dc k_M_isProved 39 rfl) (lb rfl) (lb rfl) (lb rfl) rfl (ct_M_spot hE hn (Z_bind hz)) (fun r_41 hz => ?_)
          obtain ⟨⟨hg_42, hg_43⟩, hz⟩ := Z_chk hz
          refine R_zald (pc := 77) (dc k_M_isProved 40 rfl) rfl (lb rfl) (Nat.le_trans (lb rfl) hn) hg_42 hg_43 ?_
          refine R_if_eq (pc := 78) 85 (dc k_M_isProved 41 rfl) rfl (fun hc => ?_) (fun hc => ?_)
          · have hz := Z_neg (show ¬ (¬ n32 (M 124 (Int.toNat r_41)) = 0) from (fun z => z hc)) hz
            exact hY_39 (Z_some hz)
          · have hz := Z_pos (show ¬ n32 (M 124 (Int.toNat r_41)) = 0 from hc) hz
            exact hX_38 (Z_some hz)
      have hY_46 : ¬ ((n32 l6_24 < n32 many) ∧ (¬ n32 l5_23 = 0)) → Rr y_M_isProved (2, 40, n, n, E) (qP M K) 94 [(0, vR 81), (1, vI r), (2, vI set_), (3, vI many), (4, vI l4_1), (5, vI l5_23), (6, vI l6_24)] [] E n M := by
        intro hc
        have hz := Z_neg hc hz
        refine R_sub [0, 1, 2, 3, 4, 5] rfl ?_
        exact hX_27 _ (hB_30 _ (Z_some hz))
      refine R_icmp_ge (pc := 49) 94 (dc k_M_isProved 26 rfl) rfl (fun hc => ?_) (fun hc => ?_)
      · have hc_47 : n32 many ≤ n32 l6_24 := hc
        exact hY_46 (fun z => (Int.not_lt.mpr hc_47) z.1)
      · have hc_48 : n32 l6_24 < n32 many := (Int.not_le.mp hc)
        refine R_iload (pc := 52) 5 (dc k_M_isProved 27 rfl) rfl ?_
        refine R_if_eq (pc := 54) 94 (dc k_M_isProved 28 rfl) rfl (fun hc => ?_) (fun hc => ?_)
        · have hc_49 : n32 l5_23 = 0 := hc
          exact hY_46 (fun z => (fun z => z hc_49) z.2)
        · have hc_50 : ¬ n32 l5_23 = 0 := hc
          exact hX_45 ⟨hc_48, hc_50⟩
    obtain ⟨K_15, hK_16, hz⟩ := Z_cut hz
    have hX_17 : K_15 true → Rr y_M_isProved (2, 40, n, n, E) (qP M K) 36 [(0, vR 81), (1, vI r), (2, vI set_), (3, vI many), (4, vI l4_1)] [] E n M := by
      intro hk
      have hz := Z_pos rfl (hK_16 _ hk)
      refine R_iconst (pc := 36) (a := 1) (dc k_M_isProved 18 rfl) ?_
      refine R_goto (pc := 37) 41 (dc k_M_isProved 19 rfl) rfl ?_
      exact hJ_14 _ (Z_some hz)
    have hY_18 : K_15 false → Rr y_M_isProved (2, 40, n, n, E) (qP M K) 40 [(0, vR 81), (1, vI r), (2, vI set_), (3, vI many), (4, vI l4_1)] [] E n M := by
      intro hk
      have hz := Z_neg Bool.false_ne_true (hK_16 _ hk)
      refine R_iconst (pc := 40) (a := 0) (dc k_M_isProved 20 rfl) ?_
      exact hJ_14 _ (Z_some hz)
    refine R_if_eq (pc := 19) 40 (dc k_M_isProved 10 rfl) rfl (fun hc => ?_) (fun hc => ?_)
    · have hz := Z_neg (show ¬ (¬ n32 (M 111 (Int.toNat l4_1)) = 0) from (fun z => z hc)) hz
      exact hY_18 (Z_some hz)
    · have hz := Z_pos (show ¬ n32 (M 111 (Int.toNat l4_1)) = 0 from hc) hz
      refine R_aload_n (pc := 22) 0 (dc k_M_isProved 11 rfl) rfl rfl ?_
      refine R_getS (pc := 23) (ci := 10) (k := 47) 112 (dc k_M_isProved 12 rfl) fl_M_107 rfl (lb rfl) (Nat.le_trans (lb rfl) hn) (hE 81 (lb rfl) (lb rfl)) rfl (by decide) rfl ?_
      refine R_iload_n (pc := 26) 1 (dc k_M_isProved 13 rfl) rfl rfl ?_
      refine R_iload (pc := 27) 4 (dc k_M_isProved 14 rfl) rfl ?_
      refine R_cSP (pc := 29)  (As := [vI r, vI l4_1]) (S := [vR 112]) ck_M_430 (dc k_M_isProved 15 rfl) (lb rfl) (lb rfl) (lb rfl) rfl (ct_M_spot hE hn (Z_bind hz)) (fun r_20 hz => ?_)
      obtain ⟨⟨hg_21, hg_22⟩, hz⟩ := Z_chk hz
      refine R_zald (pc := 32) (dc k_M_isProved 16 rfl) rfl (lb rfl) (Nat.le_trans (lb rfl) hn) hg_21 hg_22 ?_
      refine R_if_ne (pc := 33) 40 (dc k_M_isProved 17 rfl) rfl (fun hc => ?_) (fun hc => ?_)
      · have hz := Z_neg (show ¬ (n32 (M 112 (Int.toNat r_20)) = 0) from hc) hz
        exact hY_18 (Z_some hz)
      · have hz := Z_pos (show n32 (M 112 (Int.toNat r_20)) = 0 from (Decidable.not_not.mp hc)) hz
        exact hX_17 (Z_some hz)

set_option maxRecDepth 20000 in
theorem ct_M_proof {E : Nat → Bool} {n : Nat} (hE : ∀ c, 81 ≤ c → c ≤ 138 → E c = true) (hn : 138 ≤ n) {r : Int} {k : Int} {M : Mem} {K : Int × Mem → Prop} (hz : Z (M_proof r k M) K) : Mt y_M_proof (7, 167, n, n, E) E [vR 81, vI r, vI k] M (qM K) := by
  refine Mt.of (by decide) (lb rfl) (Nat.le_refl _) rfl ?_
  rw [M_proof] at hz
  show Rr y_M_proof (7, 167, n, n, E) (qM K) 0 [(0, vR 81), (1, vI r), (2, vI k)] [] E n M
  refine R_aload_n (pc := 0) 0 (dc k_M_proof 0 rfl) rfl rfl ?_
  refine R_iload_n (pc := 1) 1 (dc k_M_proof 1 rfl) rfl rfl ?_
  refine R_iload_n (pc := 2) 2 (dc k_M_proof 2 rfl) rfl rfl ?_
  refine R_cVM (pc := 3)  (As := [vI r, vI k]) (S := []) ck_M_508 (dc k_M_proof 3 rfl) ⟨rfl, ⟨_, rfl, rfl⟩, (lb rfl), (Nat.le_trans (lb rfl) hn)⟩ (lb rfl) (lb rfl) (lb rfl) rfl (ct_M_sure hE hn (Z_bind hz)) (fun r_1 M_2 hz => ?_)
  refine R_iconst (pc := 6) (a := 1) (dc k_M_proof 4 rfl) ?_
  refine R_icmp_eq (pc := 7) 12 (dc k_M_proof 5 rfl) rfl (fun hc => ?_) (fun hc => ?_)
  · have hz := Z_neg (show ¬ (¬ n32 r_1 = 1) from (fun z => z hc)) hz
    refine R_iconst (pc := 12) (a := 0) (dc k_M_proof 8 rfl) ?_
    refine R_istore_n (pc := 13) (L' := [(3, vI 0), (0, vR 81), (1, vI r), (2, vI k)]) (dc k_M_proof 9 rfl) rfl (lb rfl) rfl ?_
    refine R_iconst (pc := 14) (a := 0) (dc k_M_proof 10 rfl) ?_
    refine R_istore (pc := 15) (L' := [(4, vI 0), (3, vI 0), (0, vR 81), (1, vI r), (2, vI k)]) (dc k_M_proof 11 rfl) (lb rfl) rfl ?_
    obtain ⟨K_6, hK_7, hz⟩ := Z_cut hz
    have hX_8 : ∀ (l3_12 : Int) (M_13 : Mem), K_6 (l3_12, M_13) → Rr y_M_proof (7, 167, n, n, E) (qM K) 56 [(0, vR 81), (1, vI r), (3, vI l3_12)] [] E n M_13 := by
      intro l3_12 M_13 hk
      have hz := hK_7 _ hk
      refine R_iload_n (pc := 56) 2 (dc k_M_proof 30 rfl) rfl rfl ?_
      refine R_bipush (pc := 57) (a := 10) (dc k_M_proof 31 rfl) (by decide) ?_
      refine R_icmp_le (pc := 59) 65 (dc k_M_proof 32 rfl) rfl (fun hc => ?_) (fun hc => ?_)
      · have hz := Z_neg (show ¬ (10 < n32 l3_12) from (Int.not_lt.mpr hc)) hz
        refine R_iconst (pc := 65) (a := 0) (dc k_M_proof 35 rfl) ?_
        refine R_istore (pc := 66) (L' := [(4, vI 0), (0, vR 81), (1, vI r), (3, vI l3_12)]) (dc k_M_proof 36 rfl) (lb rfl) rfl ?_
        obtain ⟨K_29, hK_30, hz⟩ := Z_cut hz
        have hX_31 : ∀ (M_35 : Mem), K_29 M_35 → Rr y_M_proof (7, 167, n, n, E) (qM K) 141 [(0, vR 81), (1, vI r), (3, vI l3_12)] [] E n M_35 := by
          intro M_35 hk
          have hz := hK_30 _ hk
          refine R_iconst (pc := 141) (a := (-1)) (dc k_M_proof 72 rfl) ?_
          refine R_istore (pc := 142) (L' := [(4, vI (-1)), (0, vR 81), (1, vI r), (3, vI l3_12)]) (dc k_M_proof 73 rfl) (lb rfl) rfl ?_
          refine R_iconst (pc := 144) (a := 0) (dc k_M_proof 74 rfl) ?_
          refine R_istore (pc := 145) (L' := [(5, vI 0), (4, vI (-1)), (0, vR 81), (1, vI r), (3, vI l3_12)]) (dc k_M_proof 75 rfl) (lb rfl) rfl ?_
          obtain ⟨K_74, hK_75, hz⟩ := Z_cut hz
          have hX_76 : ∀ (l4_80 : Int), K_74 l4_80 → Rr y_M_proof (7, 167, n, n, E) (qM K) 194 [(4, vI l4_80)] [] E n M_35 := by
            intro l4_80 hk
            have hz := hK_75 _ hk
            refine R_iload (pc := 194) 0 (dc k_M_proof 98 rfl) rfl ?_
            exact R_iret (pc := 196) (dc k_M_proof 99 rfl) rfl rfl rfl ⟨_, rfl, (Z_some hz)⟩
          refine R_sub [2, 3, 4, 1, 0] rfl ?_
          refine it_R (C := fun aZ : Int × Int => Rr y_M_proof (7, 167, n, n, E) (qM K) 147 [(0, vR 81), (1, vI r), (3, vI l3_12), (4, vI aZ.1), (5, vI aZ.2)] [] E n M_35) (fun aZ K_77 hC_78 hB_79 hz => ?_) FUEL ((-1), 0) hz
          obtain ⟨l4_72, l5_73⟩ := aZ
          rw [M_proof_b147] at hz
          show Rr y_M_proof (7, 167, n, n, E) (qM K) 147 [(0, vR 81), (1, vI r), (3, vI l3_12), (4, vI l4_72), (5, vI l5_73)] [] E n M_35
          refine R_iload (pc := 147) 4 (dc k_M_proof 76 rfl) rfl ?_
          refine R_iconst (pc := 149) (a := 1) (dc k_M_proof 77 rfl) ?_
          refine R_iload_n (pc := 150) 2 (dc k_M_proof 78 rfl) rfl rfl ?_
          refine R_ishl (pc := 151) (dc k_M_proof 79 rfl) ?_
          refine R_icmp_ge (pc := 152) 194 (dc k_M_proof 80 rfl) rfl (fun hc => ?_) (fun hc => ?_)
          · have hz := Z_neg (show ¬ (n32 l5_73 < n32 (ishl 1 l3_12)) from (Int.not_lt.mpr hc)) hz
            refine R_sub [3] rfl ?_
            exact hX_76 _ (hB_79 _ (Z_some hz))
          · have hz := Z_pos (show n32 l5_73 < n32 (ishl 1 l3_12) from (Int.not_le.mp hc)) hz
            refine R_iload (pc := 155) 3 (dc k_M_proof 81 rfl) rfl ?_
            obtain ⟨K_82, hK_83, hz⟩ := Z_cut hz
            have hJ_84 : ∀ (l4_81 : Int), K_82 l4_81 → Rr y_M_proof (7, 167, n, n, E) (qM K) 188 [(0, vR 81), (1, vI r), (3, vI l3_12), (4, vI l4_81), (5, vI l5_73)] [] E n M_35 := by
              intro l4_81 hk
              have hz := hK_83 _ hk
              obtain ⟨l5_94, hl5_94, hz⟩ := Z_lt hz
              refine R_iincE (pc := 188) (L' := [(5, vI l5_94), (0, vR 81), (1, vI r), (3, vI l3_12), (4, vI l4_81)]) 4 (dc k_M_proof 96 rfl) rfl (lb rfl) hl5_94 rfl ?_
              refine R_goto (pc := 191) 147 (dc k_M_proof 97 rfl) rfl ?_
              refine R_sub [1, 2, 3, 4, 0] rfl ?_
              exact hC_78 _ (Z_some hz)
            obtain ⟨K_85, hK_86, hz⟩ := Z_cut hz
            have hX_87 : K_85 true → Rr y_M_proof (7, 167, n, n, E) (qM K) 184 [(0, vR 81), (1, vI r), (3, vI l3_12), (4, vI l4_72), (5, vI l5_73)] [] E n M_35 := by
              intro hk
              have hz := Z_pos rfl (hK_86 _ hk)
              refine R_iload (pc := 184) 4 (dc k_M_proof 94 rfl) rfl ?_
              refine R_istore (pc := 186) (L' := [(4, vI l5_73), (0, vR 81), (1, vI r), (3, vI l3_12), (5, vI l5_73)]) (dc k_M_proof 95 rfl) (lb rfl) rfl ?_
              refine R_sub [1, 2, 3, 0, 4] rfl ?_
              exact hJ_84 _ (Z_some hz)
            have hY_88 : K_85 false → Rr y_M_proof (7, 167, n, n, E) (qM K) 188 [(0, vR 81), (1, vI r), (3, vI l3_12), (4, vI l4_72), (5, vI l5_73)] [] E n M_35 := by
              intro hk
              have hz := Z_neg Bool.false_ne_true (hK_86 _ hk)
              exact hJ_84 _ (Z_some hz)
            refine R_if_lt (pc := 157) 173 (dc k_M_proof 82 rfl) rfl (fun hc => ?_) (fun hc => ?_)
            · have hz := Z_neg (show ¬ (0 ≤ n32 l4_72) from (Int.not_le.mpr hc)) hz
              refine R_aload_n (pc := 173) 0 (dc k_M_proof 88 rfl) rfl rfl ?_
              refine R_iload_n (pc := 174) 1 (dc k_M_proof 89 rfl) rfl rfl ?_
              refine R_iload (pc := 175) 4 (dc k_M_proof 90 rfl) rfl ?_
              refine R_iload_n (pc := 177) 2 (dc k_M_proof 91 rfl) rfl rfl ?_
              refine R_cVP (pc := 178)  (As := [vI r, vI l5_73, vI l3_12]) (S := []) ck_M_511 (dc k_M_proof 92 rfl) ⟨rfl, ⟨_, rfl, rfl⟩, (lb rfl), (Nat.le_trans (lb rfl) hn)⟩ (lb rfl) (lb rfl) (lb rfl) rfl (ct_M_isProved hE hn (Z_bind hz)) (fun r_90 hz => ?_)
              refine R_if_eq (pc := 181) 188 (dc k_M_proof 93 rfl) rfl (fun hc => ?_) (fun hc => ?_)
              · have hz := Z_neg (show ¬ (¬ n32 r_90 = 0) from (fun z => z hc)) hz
                exact hY_88 (Z_some hz)
              · have hz := Z_pos (show ¬ n32 r_90 = 0 from hc) hz
                exact hX_87 (Z_some hz)
            · have hz := Z_pos (show 0 ≤ n32 l4_72 from (Int.not_lt.mp hc)) hz
              refine R_iload (pc := 160) 4 (dc k_M_proof 83 rfl) rfl ?_
              refine R_cSP (pc := 162)  (As := [vI l5_73]) (S := []) ck_M_464 (dc k_M_proof 84 rfl) (lb rfl) (lb rfl) (lb rfl) rfl (ct_M_bitsOf hE hn (Z_bind hz)) (fun r_91 hz => ?_)
              refine R_iload (pc := 165) 3 (dc k_M_proof 85 rfl) rfl ?_
              refine R_cSP (pc := 167)  (As := [vI l4_72]) (S := [vI r_91]) ck_M_464 (dc k_M_proof 86 rfl) (lb rfl) (lb rfl) (lb rfl) rfl (ct_M_bitsOf hE hn (Z_bind hz)) (fun r_92 hz => ?_)
              refine R_icmp_ge (pc := 170) 188 (dc k_M_proof 87 rfl) rfl (fun hc => ?_) (fun hc => ?_)
              · have hz := Z_neg (show ¬ (n32 r_91 < n32 r_92) from (Int.not_lt.mpr hc)) hz
                exact hY_88 (Z_some hz)
              · have hz := Z_pos (show n32 r_91 < n32 r_92 from (Int.not_le.mp hc)) hz
                refine R_aload_n (pc := 173) 0 (dc k_M_proof 88 rfl) rfl rfl ?_
                refine R_iload_n (pc := 174) 1 (dc k_M_proof 89 rfl) rfl rfl ?_
                refine R_iload (pc := 175) 4 (dc k_M_proof 90 rfl) rfl ?_
                refine R_iload_n (pc := 177) 2 (dc k_M_proof 91 rfl) rfl rfl ?_
                refine R_cVP (pc := 178)  (As := [vI r, vI l5_73, vI l3_12]) (S := []) ck_M_511 (dc k_M_proof 92 rfl) ⟨rfl, ⟨_, rfl, rfl⟩, (lb rfl), (Nat.le_trans (lb rfl) hn)⟩ (lb rfl) (lb rfl) (lb rfl) rfl (ct_M_isProved hE hn (Z_bind hz)) (fun r_93 hz => ?_)
                refine R_if_eq (pc := 181) 188 (dc k_M_proof 93 rfl) rfl (fun hc => ?_) (fun hc => ?_)
                · have hz := Z_neg (show ¬ (¬ n32 r_93 = 0) from (fun z => z hc)) hz
                  exact hY_88 (Z_some hz)
                · have hz := Z_pos (show ¬ n32 r_93 = 0 from hc) hz
                  exact hX_87 (Z_some hz)
        refine R_sub [1, 2, 3, 0] rfl ?_
        refine it_R (C := fun aZ : Int × Mem => Rr y_M_proof (7, 167, n, n, E) (qM K) 68 [(0, vR 81), (1, vI r), (3, vI l3_12), (4, vI aZ.1)] [] E n aZ.2) (fun aZ K_32 hC_33 hB_34 hz => ?_) FUEL (0, M_13) hz
        obtain ⟨l4_27, M_28⟩ := aZ
        rw [M_proof_b68] at hz
        show Rr y_M_proof (7, 167, n, n, E) (qM K) 68 [(0, vR 81), (1, vI r), (3, vI l3_12), (4, vI l4_27)] [] E n M_28
        refine R_iload (pc := 68) 3 (dc k_M_proof 37 rfl) rfl ?_
        refine R_iload_n (pc := 70) 2 (dc k_M_proof 38 rfl) rfl rfl ?_
        refine R_icmp_ge (pc := 71) 141 (dc k_M_proof 39 rfl) rfl (fun hc => ?_) (fun hc => ?_)
        · have hz := Z_neg (show ¬ (n32 l4_27 < n32 l3_12) from (Int.not_lt.mpr hc)) hz
          refine R_sub [0, 1, 2] rfl ?_
          exact hX_31 _ (hB_34 _ (Z_some hz))
        · have hz := Z_pos (show n32 l4_27 < n32 l3_12 from (Int.not_le.mp hc)) hz
          refine R_iconst (pc := 74) (a := 0) (dc k_M_proof 40 rfl) ?_
          refine R_istore (pc := 75) (L' := [(5, vI 0), (0, vR 81), (1, vI r), (3, vI l3_12), (4, vI l4_27)]) (dc k_M_proof 41 rfl) (lb rfl) rfl ?_
          obtain ⟨K_38, hK_39, hz⟩ := Z_cut hz
          have hX_40 : ∀ (M_44 : Mem), K_38 M_44 → Rr y_M_proof (7, 167, n, n, E) (qM K) 135 [(0, vR 81), (1, vI r), (3, vI l3_12), (4, vI l4_27)] [] E n M_44 := by
            intro M_44 hk
            have hz := hK_39 _ hk
            obtain ⟨l4_70, hl4_70, hz⟩ := Z_lt hz
            refine R_iincE (pc := 135) (L' := [(4, vI l4_70), (0, vR 81), (1, vI r), (3, vI l3_12)]) 3 (dc k_M_proof 70 rfl) rfl (lb rfl) hl4_70 rfl ?_
            refine R_goto (pc := 138) 68 (dc k_M_proof 71 rfl) rfl ?_
            refine R_sub [1, 2, 3, 0] rfl ?_
            exact hC_33 _ (Z_some hz)
          refine R_sub [1, 2, 3, 4, 0] rfl ?_
          refine it_R (C := fun aZ : Int × Mem => Rr y_M_proof (7, 167, n, n, E) (qM K) 77 [(0, vR 81), (1, vI r), (3, vI l3_12), (4, vI l4_27), (5, vI aZ.1)] [] E n aZ.2) (fun aZ K_41 hC_42 hB_43 hz => ?_) FUEL (0, M_28) hz
          obtain ⟨l5_36, M_37⟩ := aZ
          rw [M_proof_b77] at hz
          show Rr y_M_proof (7, 167, n, n, E) (qM K) 77 [(0, vR 81), (1, vI r), (3, vI l3_12), (4, vI l4_27), (5, vI l5_36)] [] E n M_37
          refine R_iload (pc := 77) 4 (dc k_M_proof 42 rfl) rfl ?_
          refine R_aload_n (pc := 79) 0 (dc k_M_proof 43 rfl) rfl rfl ?_
          refine R_cVP (pc := 80)  (As := []) (S := [vI l5_36]) ck_M_427 (dc k_M_proof 44 rfl) ⟨rfl, ⟨_, rfl, rfl⟩, (lb rfl), (Nat.le_trans (lb rfl) hn)⟩ (lb rfl) (lb rfl) (lb rfl) rfl (ct_M_worldMany hE hn (Z_bind hz)) (fun r_45 hz => ?_)
          refine R_icmp_ge (pc := 83) 135 (dc k_M_proof 45 rfl) rfl (fun hc => ?_) (fun hc => ?_)
          · have hz := Z_neg (show ¬ (n32 l5_36 < n32 r_45) from (Int.not_lt.mpr hc)) hz
            refine R_sub [0, 1, 2, 3] rfl ?_
            exact hX_40 _ (hB_43 _ (Z_some hz))
          · have hz := Z_pos (show n32 l5_36 < n32 r_45 from (Int.not_le.mp hc)) hz
            refine R_aload_n (pc := 86) 0 (dc k_M_proof 46 rfl) rfl rfl ?_
            refine R_getS (pc := 87) (ci := 10) (k := 62) 124 (dc k_M_proof 47 rfl) fl_M_143 rfl (lb rfl) (Nat.le_trans (lb rfl) hn) (hE 81 (lb rfl) (lb rfl)) rfl (by decide) rfl ?_
            refine R_iload (pc := 90) 3 (dc k_M_proof 48 rfl) rfl ?_
            refine R_iload (pc := 92) 4 (dc k_M_proof 49 rfl) rfl ?_
            refine R_cSP (pc := 94)  (As := [vI l4_27, vI l5_36]) (S := [vR 124]) ck_M_430 (dc k_M_proof 50 rfl) (lb rfl) (lb rfl) (lb rfl) rfl (ct_M_spot hE hn (Z_bind hz)) (fun r_46 hz => ?_)
            refine R_aload_n (pc := 97) 0 (dc k_M_proof 51 rfl) rfl rfl ?_
            refine R_getS (pc := 98) (ci := 10) (k := 46) 111 (dc k_M_proof 52 rfl) fl_M_104 rfl (lb rfl) (Nat.le_trans (lb rfl) hn) (hE 81 (lb rfl) (lb rfl)) rfl (by decide) rfl ?_
            refine R_iload (pc := 101) 4 (dc k_M_proof 53 rfl) rfl ?_
            obtain ⟨⟨hg_47, hg_48⟩, hz⟩ := Z_chk hz
            refine R_zald (pc := 103) (dc k_M_proof 54 rfl) rfl (lb rfl) (Nat.le_trans (lb rfl) hn) hg_47 hg_48 ?_
            obtain ⟨K_51, hK_52, hz⟩ := Z_cut hz
            have hJ_53 : ∀ (v_49 : Int) (M_50 : Mem), K_51 (v_49, M_50) → Rr y_M_proof (7, 167, n, n, E) (qM K) 128 [(0, vR 81), (1, vI r), (3, vI l3_12), (4, vI l4_27), (5, vI l5_36)] [vI v_49, vI r_46, vR 124] E n M_50 := by
              intro v_49 M_50 hk
              have hz := hK_52 _ hk
              obtain ⟨⟨hg_64, hg_65⟩, hz⟩ := Z_chk hz
              obtain ⟨hg_66, hz⟩ := Z_chk hz
              obtain ⟨M_67, hM_67, hz⟩ := Z_lt hz
              refine R_zastE (pc := 128) (dc k_M_proof 67 rfl) rfl (lb rfl) (Nat.le_trans (lb rfl) hn) hg_64 hg_65 hg_66 hM_67 ?_
              obtain ⟨l5_68, hl5_68, hz⟩ := Z_lt hz
              refine R_iincE (pc := 129) (L' := [(5, vI l5_68), (0, vR 81), (1, vI r), (3, vI l3_12), (4, vI l4_27)]) 4 (dc k_M_proof 68 rfl) rfl (lb rfl) hl5_68 rfl ?_
              refine R_goto (pc := 132) 77 (dc k_M_proof 69 rfl) rfl ?_
              refine R_sub [1, 2, 3, 4, 0] rfl ?_
              exact hC_42 _ (Z_some hz)
            obtain ⟨j_55, hj_56, hz⟩ := Z_jn hz
            have hJ_57 : ∀ (M_54 : Mem), Z (j_55 M_54) K_51 → Rr y_M_proof (7, 167, n, n, E) (qM K) 127 [(0, vR 81), (1, vI r), (3, vI l3_12), (4, vI l4_27), (5, vI l5_36)] [vI r_46, vR 124] E n M_54 := by
              intro M_54 hk
              have hz := hj_56 _ hk
              refine R_iconst (pc := 127) (a := 0) (dc k_M_proof 66 rfl) ?_
              exact hJ_53 _ _ (Z_some hz)
            refine R_if_eq (pc := 104) 127 (dc k_M_proof 55 rfl) rfl (fun hc => ?_) (fun hc => ?_)
            · have hz := Z_neg (show ¬ (¬ n32 (M_37 111 (Int.toNat l5_36)) = 0) from (fun z => z hc)) hz
              exact hJ_57 _ hz
            · have hz := Z_pos (show ¬ n32 (M_37 111 (Int.toNat l5_36)) = 0 from hc) hz
              refine R_aload_n (pc := 107) 0 (dc k_M_proof 56 rfl) rfl rfl ?_
              refine R_aload_n (pc := 108) 0 (dc k_M_proof 57 rfl) rfl rfl ?_
              refine R_getS (pc := 109) (ci := 10) (k := 61) 123 (dc k_M_proof 58 rfl) fl_M_140 rfl (lb rfl) (Nat.le_trans (lb rfl) hn) (hE 81 (lb rfl) (lb rfl)) rfl (by decide) rfl ?_
              refine R_iload (pc := 112) 3 (dc k_M_proof 59 rfl) rfl ?_
              obtain ⟨⟨hg_58, hg_59⟩, hz⟩ := Z_chk hz
              refine R_iald (pc := 114) (dc k_M_proof 60 rfl) rfl (lb rfl) (Nat.le_trans (lb rfl) hn) hg_58 hg_59 ?_
              refine R_iload (pc := 115) 4 (dc k_M_proof 61 rfl) rfl ?_
              refine R_cVM (pc := 117)  (As := [vI (M_37 123 (Int.toNat l4_27)), vI l5_36]) (S := [vI r_46, vR 124]) ck_M_499 (dc k_M_proof 62 rfl) ⟨rfl, ⟨_, rfl, rfl⟩, (lb rfl), (Nat.le_trans (lb rfl) hn)⟩ (lb rfl) (lb rfl) (lb rfl) rfl (ct_M_canBe hE hn (Z_bind hz)) (fun r_60 M_61 hz => ?_)
              refine R_if_eq (pc := 120) 127 (dc k_M_proof 63 rfl) rfl (fun hc => ?_) (fun hc => ?_)
              · have hz := Z_neg (show ¬ (¬ n32 r_60 = 0) from (fun z => z hc)) hz
                exact hJ_57 _ hz
              · have hz := Z_pos (show ¬ n32 r_60 = 0 from hc) hz
                refine R_iconst (pc := 123) (a := 1) (dc k_M_proof 64 rfl) ?_
                refine R_goto (pc := 124) 128 (dc k_M_proof 65 rfl) rfl ?_
                exact hJ_53 _ _ (Z_some hz)
      · have hz := Z_pos (show 10 < n32 l3_12 from (Int.not_le.mp hc)) hz
        refine R_bipush (pc := 62) (a := (-2)) (dc k_M_proof 33 rfl) (by decide) ?_
        exact R_iret (pc := 64) (dc k_M_proof 34 rfl) rfl rfl rfl ⟨_, rfl, (Z_some hz)⟩
    refine R_sub [2, 3, 4, 1, 0] rfl ?_
    refine it_R (C := fun aZ : Int × Int × Mem => Rr y_M_proof (7, 167, n, n, E) (qM K) 17 [(0, vR 81), (1, vI r), (2, vI k), (3, vI aZ.1), (4, vI aZ.2.1)] [] E n aZ.2.2) (fun aZ K_9 hC_10 hB_11 hz => ?_) FUEL (0, 0, M_2) hz
    obtain ⟨l3_3, l4_4, M_5⟩ := aZ
    rw [M_proof_b17] at hz
    show Rr y_M_proof (7, 167, n, n, E) (qM K) 17 [(0, vR 81), (1, vI r), (2, vI k), (3, vI l3_3), (4, vI l4_4)] [] E n M_5
    refine R_iload (pc := 17) 4 (dc k_M_proof 12 rfl) rfl ?_
    refine R_aload_n (pc := 19) 0 (dc k_M_proof 13 rfl) rfl rfl ?_
    refine R_getI (pc := 20) (ci := 10) (k := 57) (dc k_M_proof 14 rfl) fl_M_310 rfl (lb rfl) (Nat.le_trans (lb rfl) hn) rfl (Or.inl rfl) ?_
    refine R_icmp_ge (pc := 23) 56 (dc k_M_proof 15 rfl) rfl (fun hc => ?_) (fun hc => ?_)
    · have hz := Z_neg (show ¬ (n32 l4_4 < n32 (M_5 81 57)) from (Int.not_lt.mpr hc)) hz
      refine R_sub [0, 1, 3] rfl ?_
      exact hX_8 _ _ (hB_11 _ (Z_some hz))
    · have hz := Z_pos (show n32 l4_4 < n32 (M_5 81 57) from (Int.not_le.mp hc)) hz
      refine R_aload_n (pc := 26) 0 (dc k_M_proof 16 rfl) rfl rfl ?_
      refine R_iload (pc := 27) 4 (dc k_M_proof 17 rfl) rfl ?_
      refine R_iload_n (pc := 29) 2 (dc k_M_proof 18 rfl) rfl rfl ?_
      refine R_cVP (pc := 30)  (As := [vI l4_4, vI k]) (S := []) ck_M_495 (dc k_M_proof 19 rfl) ⟨rfl, ⟨_, rfl, rfl⟩, (lb rfl), (Nat.le_trans (lb rfl) hn)⟩ (lb rfl) (lb rfl) (lb rfl) rfl (ct_M_counts hE hn (Z_bind hz)) (fun r_14 hz => ?_)
      obtain ⟨K_17, hK_18, hz⟩ := Z_cut hz
      have hJ_19 : ∀ (l3_15 : Int) (M_16 : Mem), K_17 (l3_15, M_16) → Rr y_M_proof (7, 167, n, n, E) (qM K) 50 [(0, vR 81), (1, vI r), (2, vI k), (3, vI l3_15), (4, vI l4_4)] [] E n M_16 := by
        intro l3_15 M_16 hk
        have hz := hK_18 _ hk
        obtain ⟨l4_25, hl4_25, hz⟩ := Z_lt hz
        refine R_iincE (pc := 50) (L' := [(4, vI l4_25), (0, vR 81), (1, vI r), (2, vI k), (3, vI l3_15)]) 4 (dc k_M_proof 28 rfl) rfl (lb rfl) hl4_25 rfl ?_
        refine R_goto (pc := 53) 17 (dc k_M_proof 29 rfl) rfl ?_
        refine R_sub [1, 2, 3, 4, 0] rfl ?_
        exact hC_10 _ (Z_some hz)
      refine R_if_ne (pc := 33) 39 (dc k_M_proof 20 rfl) rfl (fun hc => ?_) (fun hc => ?_)
      · have hz := Z_neg (show ¬ (n32 r_14 = 0) from hc) hz
        refine R_aload_n (pc := 39) 0 (dc k_M_proof 22 rfl) rfl rfl ?_
        refine R_getS (pc := 40) (ci := 10) (k := 61) 123 (dc k_M_proof 23 rfl) fl_M_140 rfl (lb rfl) (Nat.le_trans (lb rfl) hn) (hE 81 (lb rfl) (lb rfl)) rfl (by decide) rfl ?_
        refine R_iload_n (pc := 43) 3 (dc k_M_proof 24 rfl) rfl rfl ?_
        refine R_iload (pc := 44) 4 (dc k_M_proof 25 rfl) rfl ?_
        obtain ⟨⟨hg_20, hg_21⟩, hz⟩ := Z_chk hz
        obtain ⟨M_22, hM_22, hz⟩ := Z_lt hz
        refine R_iastE (pc := 46) (dc k_M_proof 26 rfl) rfl (lb rfl) (Nat.le_trans (lb rfl) hn) hg_20 hg_21 hM_22 ?_
        obtain ⟨l3_23, hl3_23, hz⟩ := Z_lt hz
        refine R_iincE (pc := 47) (L' := [(3, vI l3_23), (0, vR 81), (1, vI r), (2, vI k), (4, vI l4_4)]) 3 (dc k_M_proof 27 rfl) rfl (lb rfl) hl3_23 rfl ?_
        refine R_sub [1, 2, 3, 0, 4] rfl ?_
        exact hJ_19 _ _ (Z_some hz)
      · have hz := Z_pos (show n32 r_14 = 0 from (Decidable.not_not.mp hc)) hz
        refine R_goto (pc := 36) 50 (dc k_M_proof 21 rfl) rfl ?_
        exact hJ_19 _ _ (Z_some hz)
  · have hz := Z_pos (show ¬ n32 r_1 = 1 from hc) hz
    refine R_iconst (pc := 10) (a := (-1)) (dc k_M_proof 6 rfl) ?_
    exact R_iret (pc := 11) (dc k_M_proof 7 rfl) rfl rfl rfl ⟨_, rfl, (Z_some hz)⟩

set_option maxRecDepth 20000 in
theorem ct_M_judge {E : Nat → Bool} {n : Nat} (hE : ∀ c, 81 ≤ c → c ≤ 138 → E c = true) (hn : 138 ≤ n) {w : Int} {k : Int} {M : Mem} {K : Int × Mem → Prop} (hz : Z (M_judge w k M) K) : Mt y_M_judge (5, 120, n, n, E) E [vR 81, vI w, vI k] M (qM K) := by
  refine Mt.of (by decide) (lb rfl) (Nat.le_refl _) rfl ?_
  rw [M_judge] at hz
  show Rr y_M_judge (5, 120, n, n, E) (qM K) 0 [(0, vR 81), (1, vI w), (2, vI k)] [] E n M
  refine R_aload_n (pc := 0) 0 (dc k_M_judge 0 rfl) rfl rfl ?_
  refine R_iload_n (pc := 1) 1 (dc k_M_judge 1 rfl) rfl rfl ?_
  refine R_cVP (pc := 2)  (As := [vI w]) (S := []) ck_M_455 (dc k_M_judge 2 rfl) ⟨rfl, ⟨_, rfl, rfl⟩, (lb rfl), (Nat.le_trans (lb rfl) hn)⟩ (lb rfl) (lb rfl) (lb rfl) rfl (ct_M_isWorld hE hn (Z_bind hz)) (fun r_1 hz => ?_)
  refine R_if_ne (pc := 5) 11 (dc k_M_judge 3 rfl) rfl (fun hc => ?_) (fun hc => ?_)
  · have hz := Z_neg (show ¬ (n32 r_1 = 0) from hc) hz
    refine R_iconst (pc := 11) (a := 0) (dc k_M_judge 6 rfl) ?_
    refine R_istore_n (pc := 12) (L' := [(3, vI 0), (0, vR 81), (1, vI w), (2, vI k)]) (dc k_M_judge 7 rfl) rfl (lb rfl) rfl ?_
    obtain ⟨K_4, hK_5, hz⟩ := Z_cut hz
    have hX_6 : ∀ (M_10 : Mem), K_4 (.inl M_10) → Rr y_M_judge (5, 120, n, n, E) (qM K) 47 [] [] E n M_10 := by
      intro M_10 hk
      have hz := hK_5 _ hk
      refine R_iconst (pc := 47) (a := (-1)) (dc k_M_judge 26 rfl) ?_
      exact R_iret (pc := 48) (dc k_M_judge 27 rfl) rfl rfl rfl ⟨_, rfl, (Z_some hz)⟩
    refine R_sub [1, 2, 3, 0] rfl ?_
    refine it_R (C := fun aZ : Int × Mem => Rr y_M_judge (5, 120, n, n, E) (qM K) 13 [(0, vR 81), (1, vI w), (2, vI k), (3, vI aZ.1)] [] E n aZ.2) (fun aZ K_7 hC_8 hB_9 hz => ?_) FUEL (0, M) hz
    obtain ⟨l3_2, M_3⟩ := aZ
    rw [M_judge_b13] at hz
    show Rr y_M_judge (5, 120, n, n, E) (qM K) 13 [(0, vR 81), (1, vI w), (2, vI k), (3, vI l3_2)] [] E n M_3
    refine R_iload_n (pc := 13) 3 (dc k_M_judge 8 rfl) rfl rfl ?_
    refine R_aload_n (pc := 14) 0 (dc k_M_judge 9 rfl) rfl rfl ?_
    refine R_getI (pc := 15) (ci := 10) (k := 57) (dc k_M_judge 10 rfl) fl_M_310 rfl (lb rfl) (Nat.le_trans (lb rfl) hn) rfl (Or.inl rfl) ?_
    refine R_icmp_ge (pc := 18) 47 (dc k_M_judge 11 rfl) rfl (fun hc => ?_) (fun hc => ?_)
    · have hz := Z_neg (show ¬ (n32 l3_2 < n32 (M_3 81 57)) from (Int.not_lt.mpr hc)) hz
      refine R_sub [] rfl ?_
      exact hX_6 _ (hB_9 _ (Z_some hz))
    · have hz := Z_pos (show n32 l3_2 < n32 (M_3 81 57) from (Int.not_le.mp hc)) hz
      refine R_aload_n (pc := 21) 0 (dc k_M_judge 12 rfl) rfl rfl ?_
      refine R_iload_n (pc := 22) 3 (dc k_M_judge 13 rfl) rfl rfl ?_
      refine R_iload_n (pc := 23) 2 (dc k_M_judge 14 rfl) rfl rfl ?_
      refine R_cVP (pc := 24)  (As := [vI l3_2, vI k]) (S := []) ck_M_495 (dc k_M_judge 15 rfl) ⟨rfl, ⟨_, rfl, rfl⟩, (lb rfl), (Nat.le_trans (lb rfl) hn)⟩ (lb rfl) (lb rfl) (lb rfl) rfl (ct_M_counts hE hn (Z_bind hz)) (fun r_11 hz => ?_)
      obtain ⟨j_13, hj_14, hz⟩ := Z_jn hz
      have hJ_15 : ∀ (M_12 : Mem), Z (j_13 M_12) K_7 → Rr y_M_judge (5, 120, n, n, E) (qM K) 41 [(0, vR 81), (1, vI w), (2, vI k), (3, vI l3_2)] [] E n M_12 := by
        intro M_12 hk
        have hz := hj_14 _ hk
        obtain ⟨l3_20, hl3_20, hz⟩ := Z_lt hz
        refine R_iincE (pc := 41) (L' := [(3, vI l3_20), (0, vR 81), (1, vI w), (2, vI k)]) 3 (dc k_M_judge 24 rfl) rfl (lb rfl) hl3_20 rfl ?_
        refine R_goto (pc := 44) 13 (dc k_M_judge 25 rfl) rfl ?_
        refine R_sub [1, 2, 3, 0] rfl ?_
        exact hC_8 _ (Z_some hz)
      refine R_if_eq (pc := 27) 41 (dc k_M_judge 16 rfl) rfl (fun hc => ?_) (fun hc => ?_)
      · have hz := Z_neg (show ¬ (¬ n32 r_11 = 0) from (fun z => z hc)) hz
        exact hJ_15 _ hz
      · have hz := Z_pos (show ¬ n32 r_11 = 0 from hc) hz
        refine R_aload_n (pc := 30) 0 (dc k_M_judge 17 rfl) rfl rfl ?_
        refine R_iload_n (pc := 31) 3 (dc k_M_judge 18 rfl) rfl rfl ?_
        refine R_iload_n (pc := 32) 1 (dc k_M_judge 19 rfl) rfl rfl ?_
        refine R_cVM (pc := 33)  (As := [vI l3_2, vI w]) (S := []) ck_M_499 (dc k_M_judge 20 rfl) ⟨rfl, ⟨_, rfl, rfl⟩, (lb rfl), (Nat.le_trans (lb rfl) hn)⟩ (lb rfl) (lb rfl) (lb rfl) rfl (ct_M_canBe hE hn (Z_bind hz)) (fun r_16 M_17 hz => ?_)
        refine R_if_ne (pc := 36) 41 (dc k_M_judge 21 rfl) rfl (fun hc => ?_) (fun hc => ?_)
        · have hz := Z_neg (show ¬ (n32 r_16 = 0) from hc) hz
          exact hJ_15 _ hz
        · have hz := Z_pos (show n32 r_16 = 0 from (Decidable.not_not.mp hc)) hz
          refine R_iload_n (pc := 39) 3 (dc k_M_judge 22 rfl) rfl rfl ?_
          exact R_iret (pc := 40) (dc k_M_judge 23 rfl) rfl rfl rfl ⟨_, rfl, (Z_some (hK_5 _ (hB_9 _ (Z_some hz))))⟩
  · have hz := Z_pos (show n32 r_1 = 0 from (Decidable.not_not.mp hc)) hz
    refine R_bipush (pc := 8) (a := (-2)) (dc k_M_judge 4 rfl) (by decide) ?_
    exact R_iret (pc := 10) (dc k_M_judge 5 rfl) rfl rfl rfl ⟨_, rfl, (Z_some hz)⟩

set_option maxRecDepth 20000 in
theorem ct_M_next {E : Nat → Bool} {n : Nat} (hE : ∀ c, 81 ≤ c → c ≤ 138 → E c = true) (hn : 138 ≤ n) {what : Int} {k : Int} {M : Mem} {K : Int × Mem → Prop} (hz : Z (M_next what k M) K) : Mt y_M_next (6, 144, n, n, E) E [vR 81, vI what, vI k] M (qM K) := by
  refine Mt.of (by decide) (lb rfl) (Nat.le_refl _) rfl ?_
  rw [M_next] at hz
  show Rr y_M_next (6, 144, n, n, E) (qM K) 0 [(0, vR 81), (1, vI what), (2, vI k)] [] E n M
  refine R_iload_n (pc := 0) 1 (dc k_M_next 0 rfl) rfl rfl ?_
  refine R_iconst (pc := 1) (a := 0) (dc k_M_next 1 rfl) ?_
  refine R_iconst (pc := 2) (a := 2) (dc k_M_next 2 rfl) ?_
  refine R_cSP (pc := 3)  (As := [vI what, vI 0, vI 2]) (S := []) ck_M_418 (dc k_M_next 3 rfl) (lb rfl) (lb rfl) (lb rfl) rfl (ct_M_isIn hE hn (Z_bind hz)) (fun r_1 hz => ?_)
  refine R_if_ne (pc := 6) 11 (dc k_M_next 4 rfl) rfl (fun hc => ?_) (fun hc => ?_)
  · have hz := Z_neg (show ¬ (n32 r_1 = 0) from hc) hz
    refine R_aload_n (pc := 11) 0 (dc k_M_next 7 rfl) rfl rfl ?_
    refine R_iload_n (pc := 12) 2 (dc k_M_next 8 rfl) rfl rfl ?_
    refine R_cVV (pc := 13)  (As := [vI k]) (S := []) ck_M_502 (dc k_M_next 9 rfl) ⟨rfl, ⟨_, rfl, rfl⟩, (lb rfl), (Nat.le_trans (lb rfl) hn)⟩ (lb rfl) (lb rfl) (lb rfl) rfl (ct_M_findLeft hE hn (Z_bind hz)) (fun M_2 hz => ?_)
    refine R_iconst (pc := 16) (a := (-1)) (dc k_M_next 10 rfl) ?_
    refine R_istore_n (pc := 17) (L' := [(3, vI (-1)), (0, vR 81), (1, vI what), (2, vI k)]) (dc k_M_next 11 rfl) rfl (lb rfl) rfl ?_
    refine R_iconst (pc := 18) (a := (-1)) (dc k_M_next 12 rfl) ?_
    refine R_istore (pc := 19) (L' := [(4, vI (-1)), (3, vI (-1)), (0, vR 81), (1, vI what), (2, vI k)]) (dc k_M_next 13 rfl) (lb rfl) rfl ?_
    refine R_iconst (pc := 21) (a := 0) (dc k_M_next 14 rfl) ?_
    refine R_istore (pc := 22) (L' := [(5, vI 0), (4, vI (-1)), (3, vI (-1)), (0, vR 81), (1, vI what), (2, vI k)]) (dc k_M_next 15 rfl) (lb rfl) rfl ?_
    refine R_iconst (pc := 24) (a := 0) (dc k_M_next 16 rfl) ?_
    refine R_istore (pc := 25) (L' := [(6, vI 0), (5, vI 0), (4, vI (-1)), (3, vI (-1)), (0, vR 81), (1, vI what), (2, vI k)]) (dc k_M_next 17 rfl) (lb rfl) rfl ?_
    obtain ⟨K_8, hK_9, hz⟩ := Z_cut hz
    have hX_10 : ∀ (l3_14 : Int) (l4_15 : Int) (l5_16 : Int) (M_17 : Mem), K_8 (l3_14, l4_15, l5_16, M_17) → Rr y_M_next (6, 144, n, n, E) (qM K) 273 [(1, vI what), (3, vI l3_14), (4, vI l4_15), (5, vI l5_16)] [] E n M_17 := by
      intro l3_14 l4_15 l5_16 M_17 hk
      have hz := hK_9 _ hk
      refine R_iload_n (pc := 273) 1 (dc k_M_next 146 rfl) rfl rfl ?_
      refine R_if_ge (pc := 274) 281 (dc k_M_next 147 rfl) rfl (fun hc => ?_) (fun hc => ?_)
      · have hz := Z_neg (show ¬ (n32 l3_14 < 0) from (Int.not_lt.mpr hc)) hz
        refine R_iload_n (pc := 281) 0 (dc k_M_next 150 rfl) rfl rfl ?_
        refine R_if_ne (pc := 282) 289 (dc k_M_next 151 rfl) rfl (fun hc => ?_) (fun hc => ?_)
        · have hz := Z_neg (show ¬ (n32 what = 0) from hc) hz
          refine R_iload_n (pc := 289) 0 (dc k_M_next 154 rfl) rfl rfl ?_
          refine R_iconst (pc := 290) (a := 1) (dc k_M_next 155 rfl) ?_
          refine R_icmp_ne (pc := 291) 299 (dc k_M_next 156 rfl) rfl (fun hc => ?_) (fun hc => ?_)
          · have hz := Z_neg (show ¬ (n32 what = 1) from hc) hz
            refine R_iload (pc := 299) 3 (dc k_M_next 159 rfl) rfl ?_
            exact R_iret (pc := 301) (dc k_M_next 160 rfl) rfl rfl rfl ⟨_, rfl, (Z_some hz)⟩
          · have hz := Z_pos (show n32 what = 1 from (Decidable.not_not.mp hc)) hz
            refine R_iload (pc := 294) 2 (dc k_M_next 157 rfl) rfl ?_
            refine R_goto (pc := 296) 301 (dc k_M_next 158 rfl) rfl ?_
            exact R_iret (pc := 301) (dc k_M_next 160 rfl) rfl rfl rfl ⟨_, rfl, (Z_some hz)⟩
        · have hz := Z_pos (show n32 what = 0 from (Decidable.not_not.mp hc)) hz
          refine R_iload_n (pc := 285) 1 (dc k_M_next 152 rfl) rfl rfl ?_
          refine R_goto (pc := 286) 301 (dc k_M_next 153 rfl) rfl ?_
          exact R_iret (pc := 301) (dc k_M_next 160 rfl) rfl rfl rfl ⟨_, rfl, (Z_some hz)⟩
      · have hz := Z_pos (show n32 l3_14 < 0 from (Int.not_le.mp hc)) hz
        refine R_iconst (pc := 277) (a := (-1)) (dc k_M_next 148 rfl) ?_
        refine R_goto (pc := 278) 301 (dc k_M_next 149 rfl) rfl ?_
        exact R_iret (pc := 301) (dc k_M_next 160 rfl) rfl rfl rfl ⟨_, rfl, (Z_some hz)⟩
    refine R_sub [4, 5, 3, 2, 1, 0] rfl ?_
    refine it_R (C := fun aZ : Int × Int × Int × Int × Mem => Rr y_M_next (6, 144, n, n, E) (qM K) 27 [(0, vR 81), (1, vI what), (3, vI aZ.1), (4, vI aZ.2.1), (5, vI aZ.2.2.1), (6, vI aZ.2.2.2.1)] [] E n aZ.2.2.2.2) (fun aZ K_11 hC_12 hB_13 hz => ?_) FUEL ((-1), (-1), 0, 0, M_2) hz
    obtain ⟨l3_3, l4_4, l5_5, l6_6, M_7⟩ := aZ
    rw [M_next_b27] at hz
    show Rr y_M_next (6, 144, n, n, E) (qM K) 27 [(0, vR 81), (1, vI what), (3, vI l3_3), (4, vI l4_4), (5, vI l5_5), (6, vI l6_6)] [] E n M_7
    refine R_iload (pc := 27) 5 (dc k_M_next 18 rfl) rfl ?_
    refine R_aload_n (pc := 29) 0 (dc k_M_next 19 rfl) rfl rfl ?_
    refine R_cVP (pc := 30)  (As := []) (S := [vI l6_6]) ck_M_421 (dc k_M_next 20 rfl) ⟨rfl, ⟨_, rfl, rfl⟩, (lb rfl), (Nat.le_trans (lb rfl) hn)⟩ (lb rfl) (lb rfl) (lb rfl) rfl (ct_M_personMany hE hn (Z_bind hz)) (fun r_18 hz => ?_)
    have hX_112 : ((n32 l6_6 < n32 r_18) ∧ (0 < n32 (M_7 81 60))) → Rr y_M_next (6, 144, n, n, E) (qM K) 43 [(0, vR 81), (1, vI what), (3, vI l3_3), (4, vI l4_4), (5, vI l5_5), (6, vI l6_6)] [] E n M_7 := by
      intro hc
      have hz := Z_pos hc hz
      refine R_iconst (pc := 43) (a := 0) (dc k_M_next 25 rfl) ?_
      refine R_istore (pc := 44) (L' := [(7, vI 0), (0, vR 81), (1, vI what), (3, vI l3_3), (4, vI l4_4), (5, vI l5_5), (6, vI l6_6)]) (dc k_M_next 26 rfl) (lb rfl) rfl ?_
      obtain ⟨K_24, hK_25, hz⟩ := Z_cut hz
      have hX_26 : ∀ (l3_30 : Int) (l4_31 : Int) (l5_32 : Int) (M_33 : Mem), K_24 (l3_30, l4_31, l5_32, M_33) → Rr y_M_next (6, 144, n, n, E) (qM K) 267 [(0, vR 81), (1, vI what), (3, vI l3_30), (4, vI l4_31), (5, vI l5_32), (6, vI l6_6)] [] E n M_33 := by
        intro l3_30 l4_31 l5_32 M_33 hk
        have hz := hK_25 _ hk
        obtain ⟨l6_111, hl6_111, hz⟩ := Z_lt hz
        refine R_iincE (pc := 267) (L' := [(6, vI l6_111), (0, vR 81), (1, vI what), (3, vI l3_30), (4, vI l4_31), (5, vI l5_32)]) 5 (dc k_M_next 144 rfl) rfl (lb rfl) hl6_111 rfl ?_
        refine R_goto (pc := 270) 27 (dc k_M_next 145 rfl) rfl ?_
        refine R_sub [1, 2, 3, 4, 5, 0] rfl ?_
        exact hC_12 _ (Z_some hz)
      refine R_sub [1, 2, 3, 4, 5, 6, 0] rfl ?_
      refine it_R (C := fun aZ : Int × Int × Int × Int × Mem => Rr y_M_next (6, 144, n, n, E) (qM K) 46 [(0, vR 81), (1, vI what), (3, vI aZ.1), (4, vI aZ.2.1), (5, vI aZ.2.2.1), (6, vI l6_6), (7, vI aZ.2.2.2.1)] [] E n aZ.2.2.2.2) (fun aZ K_27 hC_28 hB_29 hz => ?_) FUEL (l3_3, l4_4, l5_5, 0, M_7) hz
      obtain ⟨l3_19, l4_20, l5_21, l7_22, M_23⟩ := aZ
      rw [M_next_b46] at hz
      show Rr y_M_next (6, 144, n, n, E) (qM K) 46 [(0, vR 81), (1, vI what), (3, vI l3_19), (4, vI l4_20), (5, vI l5_21), (6, vI l6_6), (7, vI l7_22)] [] E n M_23
      refine R_iload (pc := 46) 6 (dc k_M_next 27 rfl) rfl ?_
      refine R_aload_n (pc := 48) 0 (dc k_M_next 28 rfl) rfl rfl ?_
      refine R_cVP (pc := 49)  (As := []) (S := [vI l7_22]) ck_M_415 (dc k_M_next 29 rfl) ⟨rfl, ⟨_, rfl, rfl⟩, (lb rfl), (Nat.le_trans (lb rfl) hn)⟩ (lb rfl) (lb rfl) (lb rfl) rfl (ct_M_rowMany hE hn (Z_bind hz)) (fun r_34 hz => ?_)
      refine R_icmp_ge (pc := 52) 267 (dc k_M_next 30 rfl) rfl (fun hc => ?_) (fun hc => ?_)
      · have hz := Z_neg (show ¬ (n32 l7_22 < n32 r_34) from (Int.not_lt.mpr hc)) hz
        refine R_sub [0, 1, 2, 3, 4, 5] rfl ?_
        exact hX_26 _ _ _ _ (hB_29 _ (Z_some hz))
      · have hz := Z_pos (show n32 l7_22 < n32 r_34 from (Int.not_le.mp hc)) hz
        refine R_iconst (pc := 55) (a := 0) (dc k_M_next 31 rfl) ?_
        refine R_istore (pc := 56) (L' := [(8, vI 0), (0, vR 81), (1, vI what), (3, vI l3_19), (4, vI l4_20), (5, vI l5_21), (6, vI l6_6), (7, vI l7_22)]) (dc k_M_next 32 rfl) (lb rfl) rfl ?_
        obtain ⟨K_37, hK_38, hz⟩ := Z_cut hz
        have hX_39 : ∀ (M_43 : Mem), K_37 M_43 → Rr y_M_next (6, 144, n, n, E) (qM K) 78 [(0, vR 81), (1, vI what), (3, vI l3_19), (4, vI l4_20), (5, vI l5_21), (6, vI l6_6), (7, vI l7_22)] [] E n M_43 := by
          intro M_43 hk
          have hz := hK_38 _ hk
          refine R_iconst (pc := 78) (a := 0) (dc k_M_next 43 rfl) ?_
          refine R_istore (pc := 79) (L' := [(8, vI 0), (0, vR 81), (1, vI what), (3, vI l3_19), (4, vI l4_20), (5, vI l5_21), (6, vI l6_6), (7, vI l7_22)]) (dc k_M_next 44 rfl) (lb rfl) rfl ?_
          obtain ⟨K_51, hK_52, hz⟩ := Z_cut hz
          have hX_53 : ∀ (M_57 : Mem), K_51 M_57 → Rr y_M_next (6, 144, n, n, E) (qM K) 125 [(0, vR 81), (1, vI what), (3, vI l3_19), (4, vI l4_20), (5, vI l5_21), (6, vI l6_6), (7, vI l7_22)] [] E n M_57 := by
            intro M_57 hk
            have hz := hK_52 _ hk
            refine R_aload_n (pc := 125) 0 (dc k_M_next 68 rfl) rfl rfl ?_
            refine R_getS (pc := 126) (ci := 10) (k := 63) 125 (dc k_M_next 69 rfl) fl_M_146 rfl (lb rfl) (Nat.le_trans (lb rfl) hn) (hE 81 (lb rfl) (lb rfl)) rfl (by decide) rfl ?_
            refine R_iconst (pc := 129) (a := 0) (dc k_M_next 70 rfl) ?_
            refine R_iald (pc := 130) (dc k_M_next 71 rfl) rfl (lb rfl) (Nat.le_trans (lb rfl) hn) (by decide) (by decide) ?_
            refine R_aload_n (pc := 131) 0 (dc k_M_next 72 rfl) rfl rfl ?_
            refine R_getS (pc := 132) (ci := 10) (k := 63) 125 (dc k_M_next 73 rfl) fl_M_146 rfl (lb rfl) (Nat.le_trans (lb rfl) hn) (hE 81 (lb rfl) (lb rfl)) rfl (by decide) rfl ?_
            refine R_iconst (pc := 135) (a := 1) (dc k_M_next 74 rfl) ?_
            refine R_iald (pc := 136) (dc k_M_next 75 rfl) rfl (lb rfl) (Nat.le_trans (lb rfl) hn) (by decide) (by decide) ?_
            obtain ⟨K_73, hK_74, hz⟩ := Z_cut hz
            have hJ_75 : ∀ (v_72 : Int), K_73 v_72 → Rr y_M_next (6, 144, n, n, E) (qM K) 155 [(0, vR 81), (1, vI what), (3, vI l3_19), (4, vI l4_20), (5, vI l5_21), (6, vI l6_6), (7, vI l7_22)] [vI v_72] E n M_57 := by
              intro v_72 hk
              have hz := hK_74 _ hk
              refine R_istore (pc := 155) (L' := [(8, vI v_72), (0, vR 81), (1, vI what), (3, vI l3_19), (4, vI l4_20), (5, vI l5_21), (6, vI l6_6), (7, vI l7_22)]) (dc k_M_next 86 rfl) (lb rfl) rfl ?_
              refine R_aload_n (pc := 157) 1 (dc k_M_next 87 rfl) rfl rfl ?_
              refine R_getS (pc := 158) (ci := 10) (k := 63) 125 (dc k_M_next 88 rfl) fl_M_146 rfl (lb rfl) (Nat.le_trans (lb rfl) hn) (hE 81 (lb rfl) (lb rfl)) rfl (by decide) rfl ?_
              refine R_iconst (pc := 161) (a := 2) (dc k_M_next 89 rfl) ?_
              refine R_iald (pc := 162) (dc k_M_next 90 rfl) rfl (lb rfl) (Nat.le_trans (lb rfl) hn) (by decide) (by decide) ?_
              refine R_iload (pc := 163) 0 (dc k_M_next 91 rfl) rfl ?_
              obtain ⟨K_78, hK_79, hz⟩ := Z_cut hz
              have hJ_80 : ∀ (v_77 : Int), K_78 v_77 → Rr y_M_next (6, 144, n, n, E) (qM K) 179 [(0, vR 81), (1, vI what), (3, vI l3_19), (4, vI l4_20), (5, vI l5_21), (6, vI l6_6), (7, vI l7_22)] [vI v_77] E n M_57 := by
                intro v_77 hk
                have hz := hK_79 _ hk
                refine R_istore (pc := 179) (L' := [(8, vI v_77), (0, vR 81), (1, vI what), (3, vI l3_19), (4, vI l4_20), (5, vI l5_21), (6, vI l6_6), (7, vI l7_22)]) (dc k_M_next 99 rfl) (lb rfl) rfl ?_
                refine R_iload (pc := 181) 0 (dc k_M_next 100 rfl) rfl ?_
                refine R_iload (pc := 183) 5 (dc k_M_next 101 rfl) rfl ?_
                obtain ⟨K_83, hK_84, hz⟩ := Z_cut hz
                have hJ_85 : ∀ (v_82 : Int), K_83 v_82 → Rr y_M_next (6, 144, n, n, E) (qM K) 229 [(0, vR 81), (1, vI what), (3, vI l3_19), (4, vI l4_20), (5, vI l5_21), (6, vI l6_6), (7, vI l7_22), (8, vI v_77)] [vI v_82] E n M_57 := by
                  intro v_82 hk
                  have hz := hK_84 _ hk
                  refine R_istore (pc := 229) (L' := [(9, vI v_82), (0, vR 81), (1, vI what), (3, vI l3_19), (4, vI l4_20), (5, vI l5_21), (6, vI l6_6), (7, vI l7_22), (8, vI v_77)]) (dc k_M_next 127 rfl) (lb rfl) rfl ?_
                  refine R_iload_n (pc := 231) 3 (dc k_M_next 128 rfl) rfl rfl ?_
                  obtain ⟨K_98, hK_99, hz⟩ := Z_cut hz
                  have hJ_100 : ∀ (l3_95 : Int) (l4_96 : Int) (l5_97 : Int), K_98 (l3_95, l4_96, l5_97) → Rr y_M_next (6, 144, n, n, E) (qM K) 261 [(0, vR 81), (1, vI what), (3, vI l3_95), (4, vI l4_96), (5, vI l5_97), (6, vI l6_6), (7, vI l7_22)] [] E n M_57 := by
                    intro l3_95 l4_96 l5_97 hk
                    have hz := hK_99 _ hk
                    obtain ⟨l7_109, hl7_109, hz⟩ := Z_lt hz
                    refine R_iincE (pc := 261) (L' := [(7, vI l7_109), (0, vR 81), (1, vI what), (3, vI l3_95), (4, vI l4_96), (5, vI l5_97), (6, vI l6_6)]) 6 (dc k_M_next 142 rfl) rfl (lb rfl) hl7_109 rfl ?_
                    refine R_goto (pc := 264) 46 (dc k_M_next 143 rfl) rfl ?_
                    refine R_sub [1, 2, 3, 4, 5, 6, 0] rfl ?_
                    exact hC_28 _ (Z_some hz)
                  have hX_101 : ((0 ≤ n32 l3_19) ∧ ((n32 l5_21 ≤ n32 v_77) ∧ (n32 v_82 = 0))) → Rr y_M_next (6, 144, n, n, E) (qM K) 247 [(9, vI v_82), (0, vR 81), (1, vI what), (3, vI l3_19), (4, vI l4_20), (5, vI l5_21), (6, vI l6_6), (7, vI l7_22), (8, vI v_77)] [] E n M_57 := by
                    intro hc
                    have hz := Z_pos hc hz
                    refine R_goto (pc := 247) 261 (dc k_M_next 135 rfl) rfl ?_
                    refine R_sub [1, 2, 3, 4, 5, 6, 7] rfl ?_
                    exact hJ_100 _ _ _ (Z_some hz)
                  have hY_102 : ¬ ((0 ≤ n32 l3_19) ∧ ((n32 l5_21 ≤ n32 v_77) ∧ (n32 v_82 = 0))) → Rr y_M_next (6, 144, n, n, E) (qM K) 250 [(9, vI v_82), (0, vR 81), (1, vI what), (3, vI l3_19), (4, vI l4_20), (5, vI l5_21), (6, vI l6_6), (7, vI l7_22), (8, vI v_77)] [] E n M_57 := by
                    intro hc
                    have hz := Z_neg hc hz
                    refine R_iload (pc := 250) 6 (dc k_M_next 136 rfl) rfl ?_
                    refine R_istore_n (pc := 252) (L' := [(3, vI l6_6), (9, vI v_82), (0, vR 81), (1, vI what), (4, vI l4_20), (5, vI l5_21), (6, vI l6_6), (7, vI l7_22), (8, vI v_77)]) (dc k_M_next 137 rfl) rfl (lb rfl) rfl ?_
                    refine R_iload (pc := 253) 7 (dc k_M_next 138 rfl) rfl ?_
                    refine R_istore (pc := 255) (L' := [(4, vI l7_22), (3, vI l6_6), (9, vI v_82), (0, vR 81), (1, vI what), (5, vI l5_21), (6, vI l6_6), (7, vI l7_22), (8, vI v_77)]) (dc k_M_next 139 rfl) (lb rfl) rfl ?_
                    refine R_iload (pc := 257) 8 (dc k_M_next 140 rfl) rfl ?_
                    refine R_istore (pc := 259) (L' := [(5, vI v_77), (4, vI l7_22), (3, vI l6_6), (9, vI v_82), (0, vR 81), (1, vI what), (6, vI l6_6), (7, vI l7_22), (8, vI v_77)]) (dc k_M_next 141 rfl) (lb rfl) rfl ?_
                    refine R_sub [4, 5, 2, 1, 0, 6, 7] rfl ?_
                    exact hJ_100 _ _ _ (Z_some hz)
                  refine R_if_lt (pc := 232) 250 (dc k_M_next 129 rfl) rfl (fun hc => ?_) (fun hc => ?_)
                  · have hc_103 : n32 l3_19 < 0 := hc
                    exact hY_102 (fun z => (Int.not_le.mpr hc_103) z.1)
                  · have hc_104 : 0 ≤ n32 l3_19 := (Int.not_lt.mp hc)
                    refine R_iload (pc := 235) 8 (dc k_M_next 130 rfl) rfl ?_
                    refine R_iload (pc := 237) 5 (dc k_M_next 131 rfl) rfl ?_
                    refine R_icmp_lt (pc := 239) 250 (dc k_M_next 132 rfl) rfl (fun hc => ?_) (fun hc => ?_)
                    · have hc_105 : n32 v_77 < n32 l5_21 := hc
                      exact hY_102 (fun z => (fun z => (Int.not_le.mpr hc_105) z.1) z.2)
                    · have hc_106 : n32 l5_21 ≤ n32 v_77 := (Int.not_lt.mp hc)
                      refine R_iload (pc := 242) 0 (dc k_M_next 133 rfl) rfl ?_
                      refine R_if_ne (pc := 244) 250 (dc k_M_next 134 rfl) rfl (fun hc => ?_) (fun hc => ?_)
                      · have hc_107 : ¬ n32 v_82 = 0 := hc
                        exact hY_102 (fun z => (fun z => hc_107 z.2) z.2)
                      · have hc_108 : n32 v_82 = 0 := (Decidable.not_not.mp hc)
                        exact hX_101 ⟨hc_104, ⟨hc_106, hc_108⟩⟩
                obtain ⟨K_86, hK_87, hz⟩ := Z_cut hz
                have hX_88 : K_86 true → Rr y_M_next (6, 144, n, n, E) (qM K) 224 [(8, vI v_77), (0, vR 81), (1, vI what), (3, vI l3_19), (4, vI l4_20), (5, vI l5_21), (6, vI l6_6), (7, vI l7_22)] [] E n M_57 := by
                  intro hk
                  have hz := Z_pos rfl (hK_87 _ hk)
                  refine R_iconst (pc := 224) (a := 1) (dc k_M_next 124 rfl) ?_
                  refine R_goto (pc := 225) 229 (dc k_M_next 125 rfl) rfl ?_
                  refine R_sub [1, 2, 3, 4, 5, 6, 7, 0] rfl ?_
                  exact hJ_85 _ (Z_some hz)
                have hY_89 : K_86 false → Rr y_M_next (6, 144, n, n, E) (qM K) 228 [(8, vI v_77), (0, vR 81), (1, vI what), (3, vI l3_19), (4, vI l4_20), (5, vI l5_21), (6, vI l6_6), (7, vI l7_22)] [] E n M_57 := by
                  intro hk
                  have hz := Z_neg Bool.false_ne_true (hK_87 _ hk)
                  refine R_iconst (pc := 228) (a := 0) (dc k_M_next 126 rfl) ?_
                  refine R_sub [1, 2, 3, 4, 5, 6, 7, 0] rfl ?_
                  exact hJ_85 _ (Z_some hz)
                refine R_icmp_ne (pc := 185) 228 (dc k_M_next 102 rfl) rfl (fun hc => ?_) (fun hc => ?_)
                · have hz := Z_neg (show ¬ (n32 v_77 = n32 l5_21) from hc) hz
                  exact hY_89 (Z_some hz)
                · have hz := Z_pos (show n32 v_77 = n32 l5_21 from (Decidable.not_not.mp hc)) hz
                  refine R_iload_n (pc := 188) 3 (dc k_M_next 103 rfl) rfl rfl ?_
                  refine R_if_lt (pc := 189) 228 (dc k_M_next 104 rfl) rfl (fun hc => ?_) (fun hc => ?_)
                  · have hz := Z_neg (show ¬ (0 ≤ n32 l3_19) from (Int.not_le.mpr hc)) hz
                    exact hY_89 (Z_some hz)
                  · have hz := Z_pos (show 0 ≤ n32 l3_19 from (Int.not_lt.mp hc)) hz
                    refine R_aload_n (pc := 192) 1 (dc k_M_next 105 rfl) rfl rfl ?_
                    refine R_getS (pc := 193) (ci := 10) (k := 23) 96 (dc k_M_next 106 rfl) fl_M_59 rfl (lb rfl) (Nat.le_trans (lb rfl) hn) (hE 81 (lb rfl) (lb rfl)) rfl (by decide) rfl ?_
                    refine R_bipush (pc := 196) (a := 8) (dc k_M_next 107 rfl) (by decide) ?_
                    refine R_aload_n (pc := 198) 1 (dc k_M_next 108 rfl) rfl rfl ?_
                    refine R_getI (pc := 199) (ci := 10) (k := 38) (dc k_M_next 109 rfl) fl_M_304 rfl (lb rfl) (Nat.le_trans (lb rfl) hn) rfl (Or.inl rfl) ?_
                    refine R_imul (pc := 202) (dc k_M_next 110 rfl) ?_
                    refine R_iload (pc := 203) 6 (dc k_M_next 111 rfl) rfl ?_
                    refine R_iadd (pc := 205) (dc k_M_next 112 rfl) ?_
                    obtain ⟨⟨hg_91, hg_92⟩, hz⟩ := Z_chk hz
                    refine R_iald (pc := 206) (dc k_M_next 113 rfl) rfl (lb rfl) (Nat.le_trans (lb rfl) hn) hg_91 hg_92 ?_
                    refine R_aload_n (pc := 207) 1 (dc k_M_next 114 rfl) rfl rfl ?_
                    refine R_getS (pc := 208) (ci := 10) (k := 23) 96 (dc k_M_next 115 rfl) fl_M_59 rfl (lb rfl) (Nat.le_trans (lb rfl) hn) (hE 81 (lb rfl) (lb rfl)) rfl (by decide) rfl ?_
                    refine R_bipush (pc := 211) (a := 8) (dc k_M_next 116 rfl) (by decide) ?_
                    refine R_aload_n (pc := 213) 1 (dc k_M_next 117 rfl) rfl rfl ?_
                    refine R_getI (pc := 214) (ci := 10) (k := 38) (dc k_M_next 118 rfl) fl_M_304 rfl (lb rfl) (Nat.le_trans (lb rfl) hn) rfl (Or.inl rfl) ?_
                    refine R_imul (pc := 217) (dc k_M_next 119 rfl) ?_
                    refine R_iload_n (pc := 218) 3 (dc k_M_next 120 rfl) rfl rfl ?_
                    refine R_iadd (pc := 219) (dc k_M_next 121 rfl) ?_
                    obtain ⟨⟨hg_93, hg_94⟩, hz⟩ := Z_chk hz
                    refine R_iald (pc := 220) (dc k_M_next 122 rfl) rfl (lb rfl) (Nat.le_trans (lb rfl) hn) hg_93 hg_94 ?_
                    refine R_icmp_ge (pc := 221) 228 (dc k_M_next 123 rfl) rfl (fun hc => ?_) (fun hc => ?_)
                    · have hz := Z_neg (show ¬ (n32 (M_57 96 (Int.toNat ((8 * (M_57 81 38)) + l6_6))) < n32 (M_57 96 (Int.toNat ((8 * (M_57 81 38)) + l3_19)))) from (Int.not_lt.mpr hc)) hz
                      exact hY_89 (Z_some hz)
                    · have hz := Z_pos (show n32 (M_57 96 (Int.toNat ((8 * (M_57 81 38)) + l6_6))) < n32 (M_57 96 (Int.toNat ((8 * (M_57 81 38)) + l3_19))) from (Int.not_le.mp hc)) hz
                      exact hX_88 (Z_some hz)
              refine R_icmp_le (pc := 165) 177 (dc k_M_next 92 rfl) rfl (fun hc => ?_) (fun hc => ?_)
              · have hz := Z_neg (show ¬ (n32 v_72 < n32 (M_57 125 (Int.toNat 2))) from (Int.not_lt.mpr hc)) hz
                refine R_iload (pc := 177) 0 (dc k_M_next 98 rfl) rfl ?_
                refine R_sub [1, 2, 3, 4, 5, 6, 7] rfl ?_
                exact hJ_80 _ (Z_some hz)
              · have hz := Z_pos (show n32 v_72 < n32 (M_57 125 (Int.toNat 2)) from (Int.not_le.mp hc)) hz
                refine R_aload_n (pc := 168) 1 (dc k_M_next 93 rfl) rfl rfl ?_
                refine R_getS (pc := 169) (ci := 10) (k := 63) 125 (dc k_M_next 94 rfl) fl_M_146 rfl (lb rfl) (Nat.le_trans (lb rfl) hn) (hE 81 (lb rfl) (lb rfl)) rfl (by decide) rfl ?_
                refine R_iconst (pc := 172) (a := 2) (dc k_M_next 95 rfl) ?_
                refine R_iald (pc := 173) (dc k_M_next 96 rfl) rfl (lb rfl) (Nat.le_trans (lb rfl) hn) (by decide) (by decide) ?_
                refine R_goto (pc := 174) 179 (dc k_M_next 97 rfl) rfl ?_
                refine R_sub [1, 2, 3, 4, 5, 6, 7] rfl ?_
                exact hJ_80 _ (Z_some hz)
            refine R_icmp_le (pc := 137) 149 (dc k_M_next 76 rfl) rfl (fun hc => ?_) (fun hc => ?_)
            · have hz := Z_neg (show ¬ (n32 (M_57 125 (Int.toNat 1)) < n32 (M_57 125 (Int.toNat 0))) from (Int.not_lt.mpr hc)) hz
              refine R_aload_n (pc := 149) 0 (dc k_M_next 82 rfl) rfl rfl ?_
              refine R_getS (pc := 150) (ci := 10) (k := 63) 125 (dc k_M_next 83 rfl) fl_M_146 rfl (lb rfl) (Nat.le_trans (lb rfl) hn) (hE 81 (lb rfl) (lb rfl)) rfl (by decide) rfl ?_
              refine R_iconst (pc := 153) (a := 1) (dc k_M_next 84 rfl) ?_
              refine R_iald (pc := 154) (dc k_M_next 85 rfl) rfl (lb rfl) (Nat.le_trans (lb rfl) hn) (by decide) (by decide) ?_
              exact hJ_75 _ (Z_some hz)
            · have hz := Z_pos (show n32 (M_57 125 (Int.toNat 1)) < n32 (M_57 125 (Int.toNat 0)) from (Int.not_le.mp hc)) hz
              refine R_aload_n (pc := 140) 0 (dc k_M_next 77 rfl) rfl rfl ?_
              refine R_getS (pc := 141) (ci := 10) (k := 63) 125 (dc k_M_next 78 rfl) fl_M_146 rfl (lb rfl) (Nat.le_trans (lb rfl) hn) (hE 81 (lb rfl) (lb rfl)) rfl (by decide) rfl ?_
              refine R_iconst (pc := 144) (a := 0) (dc k_M_next 79 rfl) ?_
              refine R_iald (pc := 145) (dc k_M_next 80 rfl) rfl (lb rfl) (Nat.le_trans (lb rfl) hn) (by decide) (by decide) ?_
              refine R_goto (pc := 146) 155 (dc k_M_next 81 rfl) rfl ?_
              exact hJ_75 _ (Z_some hz)
          refine R_sub [1, 2, 3, 4, 5, 6, 7, 0] rfl ?_
          refine it_R (C := fun aZ : Int × Mem => Rr y_M_next (6, 144, n, n, E) (qM K) 81 [(0, vR 81), (1, vI what), (3, vI l3_19), (4, vI l4_20), (5, vI l5_21), (6, vI l6_6), (7, vI l7_22), (8, vI aZ.1)] [] E n aZ.2) (fun aZ K_54 hC_55 hB_56 hz => ?_) FUEL (0, M_43) hz
          obtain ⟨l8_49, M_50⟩ := aZ
          rw [M_next_b81] at hz
          show Rr y_M_next (6, 144, n, n, E) (qM K) 81 [(0, vR 81), (1, vI what), (3, vI l3_19), (4, vI l4_20), (5, vI l5_21), (6, vI l6_6), (7, vI l7_22), (8, vI l8_49)] [] E n M_50
          refine R_iload (pc := 81) 7 (dc k_M_next 45 rfl) rfl ?_
          refine R_aload_n (pc := 83) 0 (dc k_M_next 46 rfl) rfl rfl ?_
          refine R_cVP (pc := 84)  (As := []) (S := [vI l8_49]) ck_M_427 (dc k_M_next 47 rfl) ⟨rfl, ⟨_, rfl, rfl⟩, (lb rfl), (Nat.le_trans (lb rfl) hn)⟩ (lb rfl) (lb rfl) (lb rfl) rfl (ct_M_worldMany hE hn (Z_bind hz)) (fun r_58 hz => ?_)
          refine R_icmp_ge (pc := 87) 125 (dc k_M_next 48 rfl) rfl (fun hc => ?_) (fun hc => ?_)
          · have hz := Z_neg (show ¬ (n32 l8_49 < n32 r_58) from (Int.not_lt.mpr hc)) hz
            refine R_sub [0, 1, 2, 3, 4, 5, 6] rfl ?_
            exact hX_53 _ (hB_56 _ (Z_some hz))
          · have hz := Z_pos (show n32 l8_49 < n32 r_58 from (Int.not_le.mp hc)) hz
            refine R_aload_n (pc := 90) 0 (dc k_M_next 49 rfl) rfl rfl ?_
            refine R_getS (pc := 91) (ci := 10) (k := 59) 122 (dc k_M_next 50 rfl) fl_M_137 rfl (lb rfl) (Nat.le_trans (lb rfl) hn) (hE 81 (lb rfl) (lb rfl)) rfl (by decide) rfl ?_
            refine R_iload (pc := 94) 7 (dc k_M_next 51 rfl) rfl ?_
            obtain ⟨⟨hg_59, hg_60⟩, hz⟩ := Z_chk hz
            refine R_zald (pc := 96) (dc k_M_next 52 rfl) rfl (lb rfl) (Nat.le_trans (lb rfl) hn) hg_59 hg_60 ?_
            obtain ⟨K_62, hK_63, hz⟩ := Z_cut hz
            have hJ_64 : ∀ (M_61 : Mem), K_62 M_61 → Rr y_M_next (6, 144, n, n, E) (qM K) 119 [(0, vR 81), (1, vI what), (3, vI l3_19), (4, vI l4_20), (5, vI l5_21), (6, vI l6_6), (7, vI l7_22), (8, vI l8_49)] [] E n M_61 := by
              intro M_61 hk
              have hz := hK_63 _ hk
              obtain ⟨l8_70, hl8_70, hz⟩ := Z_lt hz
              refine R_iincE (pc := 119) (L' := [(8, vI l8_70), (0, vR 81), (1, vI what), (3, vI l3_19), (4, vI l4_20), (5, vI l5_21), (6, vI l6_6), (7, vI l7_22)]) 7 (dc k_M_next 66 rfl) rfl (lb rfl) hl8_70 rfl ?_
              refine R_goto (pc := 122) 81 (dc k_M_next 67 rfl) rfl ?_
              refine R_sub [1, 2, 3, 4, 5, 6, 7, 0] rfl ?_
              exact hC_55 _ (Z_some hz)
            refine R_if_eq (pc := 97) 119 (dc k_M_next 53 rfl) rfl (fun hc => ?_) (fun hc => ?_)
            · have hz := Z_neg (show ¬ (¬ n32 (M_50 122 (Int.toNat l8_49)) = 0) from (fun z => z hc)) hz
              exact hJ_64 _ (Z_some hz)
            · have hz := Z_pos (show ¬ n32 (M_50 122 (Int.toNat l8_49)) = 0 from hc) hz
              refine R_aload_n (pc := 100) 0 (dc k_M_next 54 rfl) rfl rfl ?_
              refine R_getS (pc := 101) (ci := 10) (k := 63) 125 (dc k_M_next 55 rfl) fl_M_146 rfl (lb rfl) (Nat.le_trans (lb rfl) hn) (hE 81 (lb rfl) (lb rfl)) rfl (by decide) rfl ?_
              refine R_aload_n (pc := 104) 0 (dc k_M_next 56 rfl) rfl rfl ?_
              refine R_iload (pc := 105) 5 (dc k_M_next 57 rfl) rfl ?_
              refine R_iload (pc := 107) 6 (dc k_M_next 58 rfl) rfl ?_
              refine R_iload (pc := 109) 7 (dc k_M_next 59 rfl) rfl ?_
              refine R_cVP (pc := 111)  (As := [vI l6_6, vI l7_22, vI l8_49]) (S := [vR 125]) ck_M_461 (dc k_M_next 60 rfl) ⟨rfl, ⟨_, rfl, rfl⟩, (lb rfl), (Nat.le_trans (lb rfl) hn)⟩ (lb rfl) (lb rfl) (lb rfl) rfl (ct_M_answerAt hE hn (Z_bind hz)) (fun r_65 hz => ?_)
              refine R_dup2 (pc := 114) (dc k_M_next 61 rfl) rfl rfl ?_
              obtain ⟨⟨hg_66, hg_67⟩, hz⟩ := Z_chk hz
              refine R_iald (pc := 115) (dc k_M_next 62 rfl) rfl (lb rfl) (Nat.le_trans (lb rfl) hn) hg_66 hg_67 ?_
              refine R_iconst (pc := 116) (a := 1) (dc k_M_next 63 rfl) ?_
              refine R_iadd (pc := 117) (dc k_M_next 64 rfl) ?_
              obtain ⟨M_68, hM_68, hz⟩ := Z_lt hz
              refine R_iastE (pc := 118) (dc k_M_next 65 rfl) rfl (lb rfl) (Nat.le_trans (lb rfl) hn) hg_66 hg_67 hM_68 ?_
              exact hJ_64 _ (Z_some hz)
        refine R_sub [1, 2, 3, 4, 5, 6, 7, 0] rfl ?_
        refine it_R (C := fun aZ : Int × Mem => Rr y_M_next (6, 144, n, n, E) (qM K) 58 [(0, vR 81), (1, vI what), (3, vI l3_19), (4, vI l4_20), (5, vI l5_21), (6, vI l6_6), (7, vI l7_22), (8, vI aZ.1)] [] E n aZ.2) (fun aZ K_40 hC_41 hB_42 hz => ?_) FUEL (0, M_23) hz
        obtain ⟨l8_35, M_36⟩ := aZ
        rw [M_next_b58] at hz
        show Rr y_M_next (6, 144, n, n, E) (qM K) 58 [(0, vR 81), (1, vI what), (3, vI l3_19), (4, vI l4_20), (5, vI l5_21), (6, vI l6_6), (7, vI l7_22), (8, vI l8_35)] [] E n M_36
        refine R_iload (pc := 58) 7 (dc k_M_next 33 rfl) rfl ?_
        refine R_iconst (pc := 60) (a := 3) (dc k_M_next 34 rfl) ?_
        refine R_icmp_ge (pc := 61) 78 (dc k_M_next 35 rfl) rfl (fun hc => ?_) (fun hc => ?_)
        · have hz := Z_neg (show ¬ (n32 l8_35 < 3) from (Int.not_lt.mpr hc)) hz
          refine R_sub [0, 1, 2, 3, 4, 5, 6] rfl ?_
          exact hX_39 _ (hB_42 _ (Z_some hz))
        · have hz := Z_pos (show n32 l8_35 < 3 from (Int.not_le.mp hc)) hz
          refine R_aload_n (pc := 64) 0 (dc k_M_next 36 rfl) rfl rfl ?_
          refine R_getS (pc := 65) (ci := 10) (k := 63) 125 (dc k_M_next 37 rfl) fl_M_146 rfl (lb rfl) (Nat.le_trans (lb rfl) hn) (hE 81 (lb rfl) (lb rfl)) rfl (by decide) rfl ?_
          refine R_iload (pc := 68) 7 (dc k_M_next 38 rfl) rfl ?_
          refine R_iconst (pc := 70) (a := 0) (dc k_M_next 39 rfl) ?_
          obtain ⟨⟨hg_44, hg_45⟩, hz⟩ := Z_chk hz
          obtain ⟨M_46, hM_46, hz⟩ := Z_lt hz
          refine R_iastE (pc := 71) (dc k_M_next 40 rfl) rfl (lb rfl) (Nat.le_trans (lb rfl) hn) hg_44 hg_45 hM_46 ?_
          obtain ⟨l8_47, hl8_47, hz⟩ := Z_lt hz
          refine R_iincE (pc := 72) (L' := [(8, vI l8_47), (0, vR 81), (1, vI what), (3, vI l3_19), (4, vI l4_20), (5, vI l5_21), (6, vI l6_6), (7, vI l7_22)]) 7 (dc k_M_next 41 rfl) rfl (lb rfl) hl8_47 rfl ?_
          refine R_goto (pc := 75) 58 (dc k_M_next 42 rfl) rfl ?_
          refine R_sub [1, 2, 3, 4, 5, 6, 7, 0] rfl ?_
          exact hC_41 _ (Z_some hz)
    have hY_113 : ¬ ((n32 l6_6 < n32 r_18) ∧ (0 < n32 (M_7 81 60))) → Rr y_M_next (6, 144, n, n, E) (qM K) 273 [(0, vR 81), (1, vI what), (3, vI l3_3), (4, vI l4_4), (5, vI l5_5), (6, vI l6_6)] [] E n M_7 := by
      intro hc
      have hz := Z_neg hc hz
      refine R_sub [1, 2, 3, 4] rfl ?_
      exact hX_10 _ _ _ _ (hB_13 _ (Z_some hz))
    refine R_icmp_ge (pc := 33) 273 (dc k_M_next 21 rfl) rfl (fun hc => ?_) (fun hc => ?_)
    · have hc_114 : n32 r_18 ≤ n32 l6_6 := hc
      exact hY_113 (fun z => (Int.not_lt.mpr hc_114) z.1)
    · have hc_115 : n32 l6_6 < n32 r_18 := (Int.not_le.mp hc)
      refine R_aload_n (pc := 36) 0 (dc k_M_next 22 rfl) rfl rfl ?_
      refine R_getI (pc := 37) (ci := 10) (k := 60) (dc k_M_next 23 rfl) fl_M_492 rfl (lb rfl) (Nat.le_trans (lb rfl) hn) rfl (Or.inl rfl) ?_
      refine R_if_le (pc := 40) 273 (dc k_M_next 24 rfl) rfl (fun hc => ?_) (fun hc => ?_)
      · have hc_116 : n32 (M_7 81 60) ≤ 0 := hc
        exact hY_113 (fun z => (Int.not_lt.mpr hc_116) z.2)
      · have hc_117 : 0 < n32 (M_7 81 60) := (Int.not_le.mp hc)
        exact hX_112 ⟨hc_115, hc_117⟩
  · have hz := Z_pos (show n32 r_1 = 0 from (Decidable.not_not.mp hc)) hz
    refine R_iconst (pc := 9) (a := (-1)) (dc k_M_next 5 rfl) ?_
    exact R_iret (pc := 10) (dc k_M_next 6 rfl) rfl rfl rfl ⟨_, rfl, (Z_some hz)⟩
