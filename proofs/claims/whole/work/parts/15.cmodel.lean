set_option maxRecDepth 20000 in
theorem ct_M_clearBank {E : Nat → Bool} {n : Nat} (hE : ∀ c, 81 ≤ c → c ≤ 138 → E c = true) (hn : 138 ≤ n) {M : Mem} {K : Mem → Prop} (hz : Z (M_clearBank M) K) : Mt y_M_clearBank (0, 0, n, n, E) E [vR 81] M (qV K) := by
  refine Mt.of (by decide) (lb rfl) (Nat.le_refl _) rfl ?_
  rw [M_clearBank] at hz
  show Rr y_M_clearBank (0, 0, n, n, E) (qV K) 0 [(0, vR 81)] [] E n M
  refine R_aload_n (pc := 0) 0 (dc k_M_clearBank 0 rfl) rfl rfl ?_
  refine R_getS (pc := 1) (ci := 10) (k := 11) 84 (dc k_M_clearBank 1 rfl) fl_M_20 rfl (lb rfl) (Nat.le_trans (lb rfl) hn) (hE 81 (lb rfl) (lb rfl)) rfl (by decide) rfl ?_
  refine R_aload_n (pc := 4) 0 (dc k_M_clearBank 2 rfl) rfl rfl ?_
  refine R_getI (pc := 5) (ci := 10) (k := 39) (dc k_M_clearBank 3 rfl) fl_M_295 rfl (lb rfl) (Nat.le_trans (lb rfl) hn) rfl (Or.inl rfl) ?_
  refine R_iconst (pc := 8) (a := 0) (dc k_M_clearBank 4 rfl) ?_
  obtain ⟨⟨hg_1, hg_2⟩, hz⟩ := Z_chk hz
  obtain ⟨M_3, hM_3, hz⟩ := Z_lt hz
  refine R_iastE (pc := 9) (dc k_M_clearBank 5 rfl) rfl (lb rfl) (Nat.le_trans (lb rfl) hn) hg_1 hg_2 hM_3 ?_
  refine R_aload_n (pc := 10) 0 (dc k_M_clearBank 6 rfl) rfl rfl ?_
  refine R_getS (pc := 11) (ci := 10) (k := 12) 85 (dc k_M_clearBank 7 rfl) fl_M_24 rfl (lb rfl) (Nat.le_trans (lb rfl) hn) (hE 81 (lb rfl) (lb rfl)) rfl (by decide) rfl ?_
  refine R_aload_n (pc := 14) 0 (dc k_M_clearBank 8 rfl) rfl rfl ?_
  refine R_getI (pc := 15) (ci := 10) (k := 39) (dc k_M_clearBank 9 rfl) fl_M_295 rfl (lb rfl) (Nat.le_trans (lb rfl) hn) rfl (Or.inl rfl) ?_
  refine R_iconst (pc := 18) (a := 0) (dc k_M_clearBank 10 rfl) ?_
  obtain ⟨⟨hg_4, hg_5⟩, hz⟩ := Z_chk hz
  obtain ⟨M_6, hM_6, hz⟩ := Z_lt hz
  refine R_iastE (pc := 19) (dc k_M_clearBank 11 rfl) rfl (lb rfl) (Nat.le_trans (lb rfl) hn) hg_4 hg_5 hM_6 ?_
  refine R_aload_n (pc := 20) 0 (dc k_M_clearBank 12 rfl) rfl rfl ?_
  refine R_getS (pc := 21) (ci := 10) (k := 13) 86 (dc k_M_clearBank 13 rfl) fl_M_27 rfl (lb rfl) (Nat.le_trans (lb rfl) hn) (hE 81 (lb rfl) (lb rfl)) rfl (by decide) rfl ?_
  refine R_aload_n (pc := 24) 0 (dc k_M_clearBank 14 rfl) rfl rfl ?_
  refine R_getI (pc := 25) (ci := 10) (k := 39) (dc k_M_clearBank 15 rfl) fl_M_295 rfl (lb rfl) (Nat.le_trans (lb rfl) hn) rfl (Or.inl rfl) ?_
  refine R_iconst (pc := 28) (a := 0) (dc k_M_clearBank 16 rfl) ?_
  obtain ⟨⟨hg_7, hg_8⟩, hz⟩ := Z_chk hz
  obtain ⟨M_9, hM_9, hz⟩ := Z_lt hz
  refine R_iastE (pc := 29) (dc k_M_clearBank 17 rfl) rfl (lb rfl) (Nat.le_trans (lb rfl) hn) hg_7 hg_8 hM_9 ?_
  refine R_aload_n (pc := 30) 0 (dc k_M_clearBank 18 rfl) rfl rfl ?_
  refine R_getS (pc := 31) (ci := 10) (k := 14) 87 (dc k_M_clearBank 19 rfl) fl_M_30 rfl (lb rfl) (Nat.le_trans (lb rfl) hn) (hE 81 (lb rfl) (lb rfl)) rfl (by decide) rfl ?_
  refine R_aload_n (pc := 34) 0 (dc k_M_clearBank 20 rfl) rfl rfl ?_
  refine R_getI (pc := 35) (ci := 10) (k := 39) (dc k_M_clearBank 21 rfl) fl_M_295 rfl (lb rfl) (Nat.le_trans (lb rfl) hn) rfl (Or.inl rfl) ?_
  refine R_iconst (pc := 38) (a := 0) (dc k_M_clearBank 22 rfl) ?_
  obtain ⟨⟨hg_10, hg_11⟩, hz⟩ := Z_chk hz
  obtain ⟨M_12, hM_12, hz⟩ := Z_lt hz
  refine R_iastE (pc := 39) (dc k_M_clearBank 23 rfl) rfl (lb rfl) (Nat.le_trans (lb rfl) hn) hg_10 hg_11 hM_12 ?_
  refine R_aload_n (pc := 40) 0 (dc k_M_clearBank 24 rfl) rfl rfl ?_
  refine R_getS (pc := 41) (ci := 10) (k := 15) 88 (dc k_M_clearBank 25 rfl) fl_M_33 rfl (lb rfl) (Nat.le_trans (lb rfl) hn) (hE 81 (lb rfl) (lb rfl)) rfl (by decide) rfl ?_
  refine R_aload_n (pc := 44) 0 (dc k_M_clearBank 26 rfl) rfl rfl ?_
  refine R_getI (pc := 45) (ci := 10) (k := 39) (dc k_M_clearBank 27 rfl) fl_M_295 rfl (lb rfl) (Nat.le_trans (lb rfl) hn) rfl (Or.inl rfl) ?_
  refine R_iconst (pc := 48) (a := 0) (dc k_M_clearBank 28 rfl) ?_
  obtain ⟨⟨hg_13, hg_14⟩, hz⟩ := Z_chk hz
  obtain ⟨M_15, hM_15, hz⟩ := Z_lt hz
  refine R_iastE (pc := 49) (dc k_M_clearBank 29 rfl) rfl (lb rfl) (Nat.le_trans (lb rfl) hn) hg_13 hg_14 hM_15 ?_
  refine R_aload_n (pc := 50) 0 (dc k_M_clearBank 30 rfl) rfl rfl ?_
  refine R_getS (pc := 51) (ci := 10) (k := 16) 89 (dc k_M_clearBank 31 rfl) fl_M_36 rfl (lb rfl) (Nat.le_trans (lb rfl) hn) (hE 81 (lb rfl) (lb rfl)) rfl (by decide) rfl ?_
  refine R_aload_n (pc := 54) 0 (dc k_M_clearBank 32 rfl) rfl rfl ?_
  refine R_getI (pc := 55) (ci := 10) (k := 39) (dc k_M_clearBank 33 rfl) fl_M_295 rfl (lb rfl) (Nat.le_trans (lb rfl) hn) rfl (Or.inl rfl) ?_
  refine R_iconst (pc := 58) (a := 0) (dc k_M_clearBank 34 rfl) ?_
  obtain ⟨⟨hg_16, hg_17⟩, hz⟩ := Z_chk hz
  obtain ⟨M_18, hM_18, hz⟩ := Z_lt hz
  refine R_iastE (pc := 59) (dc k_M_clearBank 35 rfl) rfl (lb rfl) (Nat.le_trans (lb rfl) hn) hg_16 hg_17 hM_18 ?_
  refine R_aload_n (pc := 60) 0 (dc k_M_clearBank 36 rfl) rfl rfl ?_
  refine R_getS (pc := 61) (ci := 10) (k := 17) 90 (dc k_M_clearBank 37 rfl) fl_M_39 rfl (lb rfl) (Nat.le_trans (lb rfl) hn) (hE 81 (lb rfl) (lb rfl)) rfl (by decide) rfl ?_
  refine R_aload_n (pc := 64) 0 (dc k_M_clearBank 38 rfl) rfl rfl ?_
  refine R_getI (pc := 65) (ci := 10) (k := 39) (dc k_M_clearBank 39 rfl) fl_M_295 rfl (lb rfl) (Nat.le_trans (lb rfl) hn) rfl (Or.inl rfl) ?_
  refine R_iconst (pc := 68) (a := 0) (dc k_M_clearBank 40 rfl) ?_
  obtain ⟨⟨hg_19, hg_20⟩, hz⟩ := Z_chk hz
  obtain ⟨M_21, hM_21, hz⟩ := Z_lt hz
  refine R_iastE (pc := 69) (dc k_M_clearBank 41 rfl) rfl (lb rfl) (Nat.le_trans (lb rfl) hn) hg_19 hg_20 hM_21 ?_
  refine R_aload_n (pc := 70) 0 (dc k_M_clearBank 42 rfl) rfl rfl ?_
  refine R_getS (pc := 71) (ci := 10) (k := 18) 91 (dc k_M_clearBank 43 rfl) fl_M_42 rfl (lb rfl) (Nat.le_trans (lb rfl) hn) (hE 81 (lb rfl) (lb rfl)) rfl (by decide) rfl ?_
  refine R_aload_n (pc := 74) 0 (dc k_M_clearBank 44 rfl) rfl rfl ?_
  refine R_getI (pc := 75) (ci := 10) (k := 39) (dc k_M_clearBank 45 rfl) fl_M_295 rfl (lb rfl) (Nat.le_trans (lb rfl) hn) rfl (Or.inl rfl) ?_
  refine R_iconst (pc := 78) (a := 0) (dc k_M_clearBank 46 rfl) ?_
  obtain ⟨⟨hg_22, hg_23⟩, hz⟩ := Z_chk hz
  obtain ⟨M_24, hM_24, hz⟩ := Z_lt hz
  refine R_zastE (pc := 79) (dc k_M_clearBank 47 rfl) rfl (lb rfl) (Nat.le_trans (lb rfl) hn) hg_22 hg_23 (Or.inl rfl) hM_24 ?_
  refine R_aload_n (pc := 80) 0 (dc k_M_clearBank 48 rfl) rfl rfl ?_
  refine R_sipush (pc := 81) (a := 900) (dc k_M_clearBank 49 rfl) (by decide) ?_
  refine R_aload_n (pc := 84) 0 (dc k_M_clearBank 50 rfl) rfl rfl ?_
  refine R_getI (pc := 85) (ci := 10) (k := 39) (dc k_M_clearBank 51 rfl) fl_M_295 rfl (lb rfl) (Nat.le_trans (lb rfl) hn) rfl (Or.inl rfl) ?_
  refine R_imul (pc := 88) (dc k_M_clearBank 52 rfl) ?_
  obtain ⟨M_25, hM_25, hz⟩ := Z_lt hz
  refine R_putIE (pc := 89) (ci := 10) (k := 40) (dc k_M_clearBank 53 rfl) fl_M_298 rfl (lb rfl) (Nat.le_trans (lb rfl) hn) rfl rfl rfl hM_25 ?_
  exact R_vret (pc := 92) (dc k_M_clearBank 54 rfl) rfl rfl rfl ⟨rfl, (Z_some hz)⟩

set_option maxRecDepth 20000 in
theorem ct_M_factMany {E : Nat → Bool} {n : Nat} (hE : ∀ c, 81 ≤ c → c ≤ 138 → E c = true) (hn : 138 ≤ n) {M : Mem} {K : Int → Prop} (hz : Z (M_factMany M) K) : Mt y_M_factMany (0, 0, n, n, E) E [vR 81] M (qP M K) := by
  refine Mt.of (by decide) (lb rfl) (Nat.le_refl _) rfl ?_
  rw [M_factMany] at hz
  show Rr y_M_factMany (0, 0, n, n, E) (qP M K) 0 [(0, vR 81)] [] E n M
  refine R_aload_n (pc := 0) 0 (dc k_M_factMany 0 rfl) rfl rfl ?_
  refine R_getS (pc := 1) (ci := 10) (k := 11) 84 (dc k_M_factMany 1 rfl) fl_M_20 rfl (lb rfl) (Nat.le_trans (lb rfl) hn) (hE 81 (lb rfl) (lb rfl)) rfl (by decide) rfl ?_
  refine R_aload_n (pc := 4) 0 (dc k_M_factMany 2 rfl) rfl rfl ?_
  refine R_getI (pc := 5) (ci := 10) (k := 38) (dc k_M_factMany 3 rfl) fl_M_304 rfl (lb rfl) (Nat.le_trans (lb rfl) hn) rfl (Or.inl rfl) ?_
  obtain ⟨⟨hg_1, hg_2⟩, hz⟩ := Z_chk hz
  refine R_iald (pc := 8) (dc k_M_factMany 4 rfl) rfl (lb rfl) (Nat.le_trans (lb rfl) hn) hg_1 hg_2 ?_
  exact R_iret (pc := 9) (dc k_M_factMany 5 rfl) rfl rfl rfl ⟨_, rfl, rfl, (Z_some hz)⟩

set_option maxRecDepth 20000 in
theorem ct_M_worldMany {E : Nat → Bool} {n : Nat} (hE : ∀ c, 81 ≤ c → c ≤ 138 → E c = true) (hn : 138 ≤ n) {M : Mem} {K : Int → Prop} (hz : Z (M_worldMany M) K) : Mt y_M_worldMany (1, 20, n, n, E) E [vR 81] M (qP M K) := by
  refine Mt.of (by decide) (lb rfl) (Nat.le_refl _) rfl ?_
  rw [M_worldMany] at hz
  show Rr y_M_worldMany (1, 20, n, n, E) (qP M K) 0 [(0, vR 81)] [] E n M
  refine R_iconst (pc := 0) (a := 1) (dc k_M_worldMany 0 rfl) ?_
  refine R_aload_n (pc := 1) 0 (dc k_M_worldMany 1 rfl) rfl rfl ?_
  refine R_cVP (pc := 2)  (As := []) (S := [vI 1]) ck_M_424 (dc k_M_worldMany 2 rfl) ⟨rfl, ⟨_, rfl, rfl⟩, (lb rfl), (Nat.le_trans (lb rfl) hn)⟩ (lb rfl) (lb rfl) (lb rfl) rfl (ct_M_factMany hE hn (Z_bind hz)) (fun r_1 hz => ?_)
  refine R_ishl (pc := 5) (dc k_M_worldMany 3 rfl) ?_
  exact R_iret (pc := 6) (dc k_M_worldMany 4 rfl) rfl rfl rfl ⟨_, rfl, rfl, (Z_some hz)⟩

set_option maxRecDepth 20000 in
theorem ct_M_rowMany {E : Nat → Bool} {n : Nat} (hE : ∀ c, 81 ≤ c → c ≤ 138 → E c = true) (hn : 138 ≤ n) {M : Mem} {K : Int → Prop} (hz : Z (M_rowMany M) K) : Mt y_M_rowMany (0, 0, n, n, E) E [vR 81] M (qP M K) := by
  refine Mt.of (by decide) (lb rfl) (Nat.le_refl _) rfl ?_
  rw [M_rowMany] at hz
  show Rr y_M_rowMany (0, 0, n, n, E) (qP M K) 0 [(0, vR 81)] [] E n M
  refine R_aload_n (pc := 0) 0 (dc k_M_rowMany 0 rfl) rfl rfl ?_
  refine R_getS (pc := 1) (ci := 10) (k := 13) 86 (dc k_M_rowMany 1 rfl) fl_M_27 rfl (lb rfl) (Nat.le_trans (lb rfl) hn) (hE 81 (lb rfl) (lb rfl)) rfl (by decide) rfl ?_
  refine R_aload_n (pc := 4) 0 (dc k_M_rowMany 2 rfl) rfl rfl ?_
  refine R_getI (pc := 5) (ci := 10) (k := 38) (dc k_M_rowMany 3 rfl) fl_M_304 rfl (lb rfl) (Nat.le_trans (lb rfl) hn) rfl (Or.inl rfl) ?_
  obtain ⟨⟨hg_1, hg_2⟩, hz⟩ := Z_chk hz
  refine R_iald (pc := 8) (dc k_M_rowMany 4 rfl) rfl (lb rfl) (Nat.le_trans (lb rfl) hn) hg_1 hg_2 ?_
  exact R_iret (pc := 9) (dc k_M_rowMany 5 rfl) rfl rfl rfl ⟨_, rfl, rfl, (Z_some hz)⟩

set_option maxRecDepth 20000 in
theorem ct_M_spot {E : Nat → Bool} {n : Nat} (hE : ∀ c, 81 ≤ c → c ≤ 138 → E c = true) (hn : 138 ≤ n) {r : Int} {w : Int} {M : Mem} {K : Int → Prop} (hz : Z (M_spot r w M) K) : Mt y_M_spot (0, 0, n, n, E) E [vI r, vI w] M (qP M K) := by
  refine Mt.of (by decide) (lb rfl) (Nat.le_refl _) rfl ?_
  rw [M_spot] at hz
  show Rr y_M_spot (0, 0, n, n, E) (qP M K) 0 [(0, vI r), (1, vI w)] [] E n M
  refine R_sipush (pc := 0) (a := 256) (dc k_M_spot 0 rfl) (by decide) ?_
  refine R_iload_n (pc := 3) 0 (dc k_M_spot 1 rfl) rfl rfl ?_
  refine R_imul (pc := 4) (dc k_M_spot 2 rfl) ?_
  refine R_iload_n (pc := 5) 1 (dc k_M_spot 3 rfl) rfl rfl ?_
  refine R_iadd (pc := 6) (dc k_M_spot 4 rfl) ?_
  exact R_iret (pc := 7) (dc k_M_spot 5 rfl) rfl rfl rfl ⟨_, rfl, rfl, (Z_some hz)⟩

set_option maxRecDepth 20000 in
theorem ct_M_minds {E : Nat → Bool} {n : Nat} (hE : ∀ c, 81 ≤ c → c ≤ 138 → E c = true) (hn : 138 ≤ n) {top : Int} {p : Int} {holds_ : Int} {M : Mem} {K : Mem → Prop} (hz : Z (M_minds top p holds_ M) K) : Mt y_M_minds (2, 40, n, n, E) E [vR 81, vI top, vI p, vI holds_] M (qV K) := by
  refine Mt.of (by decide) (lb rfl) (Nat.le_refl _) rfl ?_
  rw [M_minds] at hz
  show Rr y_M_minds (2, 40, n, n, E) (qV K) 0 [(0, vR 81), (1, vI top), (2, vI p), (3, vI holds_)] [] E n M
  refine R_aload_n (pc := 0) 0 (dc k_M_minds 0 rfl) rfl rfl ?_
  refine R_getS (pc := 1) (ci := 10) (k := 24) 97 (dc k_M_minds 1 rfl) fl_M_62 rfl (lb rfl) (Nat.le_trans (lb rfl) hn) (hE 81 (lb rfl) (lb rfl)) rfl (by decide) rfl ?_
  refine R_bipush (pc := 4) (a := 8) (dc k_M_minds 2 rfl) (by decide) ?_
  refine R_aload_n (pc := 6) 0 (dc k_M_minds 3 rfl) rfl rfl ?_
  refine R_getI (pc := 7) (ci := 10) (k := 38) (dc k_M_minds 4 rfl) fl_M_304 rfl (lb rfl) (Nat.le_trans (lb rfl) hn) rfl (Or.inl rfl) ?_
  refine R_imul (pc := 10) (dc k_M_minds 5 rfl) ?_
  refine R_iload_n (pc := 11) 2 (dc k_M_minds 6 rfl) rfl rfl ?_
  refine R_iadd (pc := 12) (dc k_M_minds 7 rfl) ?_
  obtain ⟨⟨hg_1, hg_2⟩, hz⟩ := Z_chk hz
  refine R_iald (pc := 13) (dc k_M_minds 8 rfl) rfl (lb rfl) (Nat.le_trans (lb rfl) hn) hg_1 hg_2 ?_
  obtain ⟨l4_3, hl4_3, hz⟩ := Z_lt hz
  refine R_istoreE (pc := 14) (L' := [(4, vI l4_3), (0, vR 81), (1, vI top), (2, vI p), (3, vI holds_)]) (dc k_M_minds 9 rfl) (lb rfl) hl4_3 rfl ?_
  refine R_iconst (pc := 16) (a := 0) (dc k_M_minds 10 rfl) ?_
  refine R_istore (pc := 17) (L' := [(5, vI 0), (4, vI l4_3), (0, vR 81), (1, vI top), (2, vI p), (3, vI holds_)]) (dc k_M_minds 11 rfl) (lb rfl) rfl ?_
  obtain ⟨K_6, hK_7, hz⟩ := Z_cut hz
  have hX_8 : ∀ (M_12 : Mem), K_6 M_12 → Rr y_M_minds (2, 40, n, n, E) (qV K) 151 [(0, vR 81), (1, vI top)] [] E n M_12 := by
    intro M_12 hk
    have hz := hK_7 _ hk
    refine R_iconst (pc := 151) (a := 0) (dc k_M_minds 77 rfl) ?_
    refine R_istore (pc := 152) (L' := [(5, vI 0), (0, vR 81), (1, vI top)]) (dc k_M_minds 78 rfl) (lb rfl) rfl ?_
    obtain ⟨K_64, hK_65, hz⟩ := Z_cut hz
    have hX_66 : ∀ (M_70 : Mem), K_64 M_70 → Rr y_M_minds (2, 40, n, n, E) (qV K) 193 [] [] E n M_70 := by
      intro M_70 hk
      have hz := hK_65 _ hk
      exact R_vret (pc := 193) (dc k_M_minds 99 rfl) rfl rfl rfl ⟨rfl, (Z_some hz)⟩
    refine R_sub [1, 2, 0] rfl ?_
    refine it_R (C := fun aZ : Int × Mem => Rr y_M_minds (2, 40, n, n, E) (qV K) 154 [(0, vR 81), (1, vI top), (5, vI aZ.1)] [] E n aZ.2) (fun aZ K_67 hC_68 hB_69 hz => ?_) FUEL (0, M_12) hz
    obtain ⟨l5_62, M_63⟩ := aZ
    rw [M_minds_b154] at hz
    show Rr y_M_minds (2, 40, n, n, E) (qV K) 154 [(0, vR 81), (1, vI top), (5, vI l5_62)] [] E n M_63
    refine R_iload (pc := 154) 2 (dc k_M_minds 79 rfl) rfl ?_
    refine R_aload_n (pc := 156) 0 (dc k_M_minds 80 rfl) rfl rfl ?_
    refine R_cVP (pc := 157)  (As := []) (S := [vI l5_62]) ck_M_427 (dc k_M_minds 81 rfl) ⟨rfl, ⟨_, rfl, rfl⟩, (lb rfl), (Nat.le_trans (lb rfl) hn)⟩ (lb rfl) (lb rfl) (lb rfl) rfl (ct_M_worldMany hE hn (Z_bind hz)) (fun r_71 hz => ?_)
    refine R_icmp_ge (pc := 160) 193 (dc k_M_minds 82 rfl) rfl (fun hc => ?_) (fun hc => ?_)
    · have hz := Z_neg (show ¬ (n32 l5_62 < n32 r_71) from (Int.not_lt.mpr hc)) hz
      refine R_sub [] rfl ?_
      exact hX_66 _ (hB_69 _ (Z_some hz))
    · have hz := Z_pos (show n32 l5_62 < n32 r_71 from (Int.not_le.mp hc)) hz
      refine R_aload_n (pc := 163) 0 (dc k_M_minds 83 rfl) rfl rfl ?_
      refine R_getS (pc := 164) (ci := 10) (k := 48) 113 (dc k_M_minds 84 rfl) fl_M_110 rfl (lb rfl) (Nat.le_trans (lb rfl) hn) (hE 81 (lb rfl) (lb rfl)) rfl (by decide) rfl ?_
      refine R_iload_n (pc := 167) 1 (dc k_M_minds 85 rfl) rfl rfl ?_
      refine R_iload (pc := 168) 2 (dc k_M_minds 86 rfl) rfl ?_
      refine R_cSP (pc := 170)  (As := [vI top, vI l5_62]) (S := [vR 113]) ck_M_430 (dc k_M_minds 87 rfl) (lb rfl) (lb rfl) (lb rfl) rfl (ct_M_spot hE hn (Z_bind hz)) (fun r_72 hz => ?_)
      refine R_aload_n (pc := 173) 0 (dc k_M_minds 88 rfl) rfl rfl ?_
      refine R_getS (pc := 174) (ci := 10) (k := 48) 113 (dc k_M_minds 89 rfl) fl_M_110 rfl (lb rfl) (Nat.le_trans (lb rfl) hn) (hE 81 (lb rfl) (lb rfl)) rfl (by decide) rfl ?_
      refine R_iload_n (pc := 177) 1 (dc k_M_minds 90 rfl) rfl rfl ?_
      refine R_iconst (pc := 178) (a := 1) (dc k_M_minds 91 rfl) ?_
      refine R_iadd (pc := 179) (dc k_M_minds 92 rfl) ?_
      refine R_iload (pc := 180) 2 (dc k_M_minds 93 rfl) rfl ?_
      refine R_cSP (pc := 182)  (As := [vI (top + 1), vI l5_62]) (S := [vR 113, vI r_72, vR 113]) ck_M_430 (dc k_M_minds 94 rfl) (lb rfl) (lb rfl) (lb rfl) rfl (ct_M_spot hE hn (Z_bind hz)) (fun r_73 hz => ?_)
      obtain ⟨⟨hg_74, hg_75⟩, hz⟩ := Z_chk hz
      refine R_zald (pc := 185) (dc k_M_minds 95 rfl) rfl (lb rfl) (Nat.le_trans (lb rfl) hn) hg_74 hg_75 ?_
      obtain ⟨⟨hg_76, hg_77⟩, hz⟩ := Z_chk hz
      obtain ⟨hg_78, hz⟩ := Z_chk hz
      obtain ⟨M_79, hM_79, hz⟩ := Z_lt hz
      refine R_zastE (pc := 186) (dc k_M_minds 96 rfl) rfl (lb rfl) (Nat.le_trans (lb rfl) hn) hg_76 hg_77 hg_78 hM_79 ?_
      obtain ⟨l5_80, hl5_80, hz⟩ := Z_lt hz
      refine R_iincE (pc := 187) (L' := [(5, vI l5_80), (0, vR 81), (1, vI top)]) 2 (dc k_M_minds 97 rfl) rfl (lb rfl) hl5_80 rfl ?_
      refine R_goto (pc := 190) 154 (dc k_M_minds 98 rfl) rfl ?_
      refine R_sub [1, 2, 0] rfl ?_
      exact hC_68 _ (Z_some hz)
  refine R_sub [2, 3, 5, 1, 0] rfl ?_
  refine it_R (C := fun aZ : Int × Mem => Rr y_M_minds (2, 40, n, n, E) (qV K) 19 [(0, vR 81), (1, vI top), (3, vI holds_), (4, vI l4_3), (5, vI aZ.1)] [] E n aZ.2) (fun aZ K_9 hC_10 hB_11 hz => ?_) FUEL (0, M) hz
  obtain ⟨l5_4, M_5⟩ := aZ
  rw [M_minds_b19] at hz
  show Rr y_M_minds (2, 40, n, n, E) (qV K) 19 [(0, vR 81), (1, vI top), (3, vI holds_), (4, vI l4_3), (5, vI l5_4)] [] E n M_5
  refine R_iload (pc := 19) 4 (dc k_M_minds 12 rfl) rfl ?_
  refine R_aload_n (pc := 21) 0 (dc k_M_minds 13 rfl) rfl rfl ?_
  refine R_cVP (pc := 22)  (As := []) (S := [vI l5_4]) ck_M_427 (dc k_M_minds 14 rfl) ⟨rfl, ⟨_, rfl, rfl⟩, (lb rfl), (Nat.le_trans (lb rfl) hn)⟩ (lb rfl) (lb rfl) (lb rfl) rfl (ct_M_worldMany hE hn (Z_bind hz)) (fun r_13 hz => ?_)
  refine R_icmp_ge (pc := 25) 151 (dc k_M_minds 15 rfl) rfl (fun hc => ?_) (fun hc => ?_)
  · have hz := Z_neg (show ¬ (n32 l5_4 < n32 r_13) from (Int.not_lt.mpr hc)) hz
    refine R_sub [0, 1] rfl ?_
    exact hX_8 _ (hB_11 _ (Z_some hz))
  · have hz := Z_pos (show n32 l5_4 < n32 r_13 from (Int.not_le.mp hc)) hz
    refine R_iload_n (pc := 28) 2 (dc k_M_minds 16 rfl) rfl rfl ?_
    refine R_istore (pc := 29) (L' := [(6, vI holds_), (0, vR 81), (1, vI top), (3, vI holds_), (4, vI l4_3), (5, vI l5_4)]) (dc k_M_minds 17 rfl) (lb rfl) rfl ?_
    refine R_iconst (pc := 31) (a := 0) (dc k_M_minds 18 rfl) ?_
    refine R_istore (pc := 32) (L' := [(7, vI 0), (6, vI holds_), (0, vR 81), (1, vI top), (3, vI holds_), (4, vI l4_3), (5, vI l5_4)]) (dc k_M_minds 19 rfl) (lb rfl) rfl ?_
    obtain ⟨K_16, hK_17, hz⟩ := Z_cut hz
    have hX_18 : ∀ (l6_22 : Int), K_16 l6_22 → Rr y_M_minds (2, 40, n, n, E) (qV K) 130 [(0, vR 81), (1, vI top), (3, vI holds_), (4, vI l4_3), (5, vI l5_4), (6, vI l6_22)] [] E n M_5 := by
      intro l6_22 hk
      have hz := hK_17 _ hk
      refine R_aload_n (pc := 130) 0 (dc k_M_minds 66 rfl) rfl rfl ?_
      refine R_getS (pc := 131) (ci := 10) (k := 48) 113 (dc k_M_minds 67 rfl) fl_M_110 rfl (lb rfl) (Nat.le_trans (lb rfl) hn) (hE 81 (lb rfl) (lb rfl)) rfl (by decide) rfl ?_
      refine R_iload_n (pc := 134) 1 (dc k_M_minds 68 rfl) rfl rfl ?_
      refine R_iconst (pc := 135) (a := 1) (dc k_M_minds 69 rfl) ?_
      refine R_iadd (pc := 136) (dc k_M_minds 70 rfl) ?_
      refine R_iload (pc := 137) 4 (dc k_M_minds 71 rfl) rfl ?_
      refine R_cSP (pc := 139)  (As := [vI (top + 1), vI l5_4]) (S := [vR 113]) ck_M_430 (dc k_M_minds 72 rfl) (lb rfl) (lb rfl) (lb rfl) rfl (ct_M_spot hE hn (Z_bind hz)) (fun r_55 hz => ?_)
      refine R_iload (pc := 142) 5 (dc k_M_minds 73 rfl) rfl ?_
      obtain ⟨⟨hg_56, hg_57⟩, hz⟩ := Z_chk hz
      obtain ⟨hg_58, hz⟩ := Z_chk hz
      obtain ⟨M_59, hM_59, hz⟩ := Z_lt hz
      refine R_zastE (pc := 144) (dc k_M_minds 74 rfl) rfl (lb rfl) (Nat.le_trans (lb rfl) hn) hg_56 hg_57 hg_58 hM_59 ?_
      obtain ⟨l5_60, hl5_60, hz⟩ := Z_lt hz
      refine R_iincE (pc := 145) (L' := [(5, vI l5_60), (0, vR 81), (1, vI top), (3, vI holds_), (4, vI l4_3), (6, vI l6_22)]) 4 (dc k_M_minds 75 rfl) rfl (lb rfl) hl5_60 rfl ?_
      refine R_goto (pc := 148) 19 (dc k_M_minds 76 rfl) rfl ?_
      refine R_sub [1, 2, 3, 4, 0] rfl ?_
      exact hC_10 _ (Z_some hz)
    refine R_sub [2, 3, 4, 5, 6, 1, 0] rfl ?_
    refine it_R (C := fun aZ : Int × Int => Rr y_M_minds (2, 40, n, n, E) (qV K) 34 [(0, vR 81), (1, vI top), (3, vI holds_), (4, vI l4_3), (5, vI l5_4), (6, vI aZ.1), (7, vI aZ.2)] [] E n M_5) (fun aZ K_19 hC_20 hB_21 hz => ?_) FUEL (holds_, 0) hz
    obtain ⟨l6_14, l7_15⟩ := aZ
    rw [M_minds_b34] at hz
    show Rr y_M_minds (2, 40, n, n, E) (qV K) 34 [(0, vR 81), (1, vI top), (3, vI holds_), (4, vI l4_3), (5, vI l5_4), (6, vI l6_14), (7, vI l7_15)] [] E n M_5
    refine R_iload (pc := 34) 6 (dc k_M_minds 20 rfl) rfl ?_
    refine R_aload_n (pc := 36) 0 (dc k_M_minds 21 rfl) rfl rfl ?_
    refine R_cVP (pc := 37)  (As := []) (S := [vI l7_15]) ck_M_427 (dc k_M_minds 22 rfl) ⟨rfl, ⟨_, rfl, rfl⟩, (lb rfl), (Nat.le_trans (lb rfl) hn)⟩ (lb rfl) (lb rfl) (lb rfl) rfl (ct_M_worldMany hE hn (Z_bind hz)) (fun r_23 hz => ?_)
    refine R_icmp_ge (pc := 40) 130 (dc k_M_minds 23 rfl) rfl (fun hc => ?_) (fun hc => ?_)
    · have hz := Z_neg (show ¬ (n32 l7_15 < n32 r_23) from (Int.not_lt.mpr hc)) hz
      refine R_sub [0, 1, 2, 3, 4, 5] rfl ?_
      exact hX_18 _ (hB_21 _ (Z_some hz))
    · have hz := Z_pos (show n32 l7_15 < n32 r_23 from (Int.not_le.mp hc)) hz
      refine R_aload_n (pc := 43) 0 (dc k_M_minds 24 rfl) rfl rfl ?_
      refine R_getS (pc := 44) (ci := 10) (k := 46) 111 (dc k_M_minds 25 rfl) fl_M_104 rfl (lb rfl) (Nat.le_trans (lb rfl) hn) (hE 81 (lb rfl) (lb rfl)) rfl (by decide) rfl ?_
      refine R_iload (pc := 47) 6 (dc k_M_minds 26 rfl) rfl ?_
      obtain ⟨⟨hg_24, hg_25⟩, hz⟩ := Z_chk hz
      refine R_zald (pc := 49) (dc k_M_minds 27 rfl) rfl (lb rfl) (Nat.le_trans (lb rfl) hn) hg_24 hg_25 ?_
      obtain ⟨K_27, hK_28, hz⟩ := Z_cut hz
      have hJ_29 : ∀ (l6_26 : Int), K_27 l6_26 → Rr y_M_minds (2, 40, n, n, E) (qV K) 124 [(0, vR 81), (1, vI top), (3, vI holds_), (4, vI l4_3), (5, vI l5_4), (6, vI l6_26), (7, vI l7_15)] [] E n M_5 := by
        intro l6_26 hk
        have hz := hK_28 _ hk
        obtain ⟨l7_53, hl7_53, hz⟩ := Z_lt hz
        refine R_iincE (pc := 124) (L' := [(7, vI l7_53), (0, vR 81), (1, vI top), (3, vI holds_), (4, vI l4_3), (5, vI l5_4), (6, vI l6_26)]) 6 (dc k_M_minds 64 rfl) rfl (lb rfl) hl7_53 rfl ?_
        refine R_goto (pc := 127) 34 (dc k_M_minds 65 rfl) rfl ?_
        refine R_sub [1, 2, 3, 4, 5, 6, 0] rfl ?_
        exact hC_20 _ (Z_some hz)
      refine R_if_eq (pc := 50) 124 (dc k_M_minds 28 rfl) rfl (fun hc => ?_) (fun hc => ?_)
      · have hz := Z_neg (show ¬ (¬ n32 (M_5 111 (Int.toNat l7_15)) = 0) from (fun z => z hc)) hz
        exact hJ_29 _ (Z_some hz)
      · have hz := Z_pos (show ¬ n32 (M_5 111 (Int.toNat l7_15)) = 0 from hc) hz
        refine R_iload (pc := 53) 6 (dc k_M_minds 29 rfl) rfl ?_
        refine R_iload (pc := 55) 4 (dc k_M_minds 30 rfl) rfl ?_
        refine R_ixor (pc := 57) (dc k_M_minds 31 rfl) ?_
        refine R_iload (pc := 58) 3 (dc k_M_minds 32 rfl) rfl ?_
        refine R_iand (pc := 60) (dc k_M_minds 33 rfl) ?_
        refine R_if_eq (pc := 61) 67 (dc k_M_minds 34 rfl) rfl (fun hc => ?_) (fun hc => ?_)
        · have hz := Z_neg (show ¬ (¬ n32 (iand (ixor' l7_15 l5_4) l4_3) = 0) from (fun z => z hc)) hz
          refine R_iload_n (pc := 67) 2 (dc k_M_minds 36 rfl) rfl rfl ?_
          obtain ⟨K_31, hK_32, hz⟩ := Z_cut hz
          have hJ_33 : ∀ (v_30 : Int), K_31 v_30 → Rr y_M_minds (2, 40, n, n, E) (qV K) 122 [(0, vR 81), (1, vI top), (3, vI holds_), (4, vI l4_3), (5, vI l5_4), (7, vI l7_15)] [vI v_30] E n M_5 := by
            intro v_30 hk
            have hz := hK_32 _ hk
            refine R_istore (pc := 122) (L' := [(6, vI v_30), (0, vR 81), (1, vI top), (3, vI holds_), (4, vI l4_3), (5, vI l5_4), (7, vI l7_15)]) (dc k_M_minds 63 rfl) (lb rfl) rfl ?_
            refine R_sub [1, 2, 3, 4, 5, 0, 6] rfl ?_
            exact hJ_29 _ (Z_some hz)
          refine R_if_eq (pc := 68) 98 (dc k_M_minds 37 rfl) rfl (fun hc => ?_) (fun hc => ?_)
          · have hz := Z_neg (show ¬ (¬ n32 holds_ = 0) from (fun z => z hc)) hz
            refine R_iload (pc := 98) 5 (dc k_M_minds 51 rfl) rfl ?_
            obtain ⟨K_42, hK_43, hz⟩ := Z_cut hz
            have hX_44 : K_42 true → Rr y_M_minds (2, 40, n, n, E) (qV K) 117 [(0, vR 81), (1, vI top), (3, vI holds_), (4, vI l4_3), (5, vI l5_4), (6, vI l6_14), (7, vI l7_15)] [] E n M_5 := by
              intro hk
              have hz := Z_pos rfl (hK_43 _ hk)
              refine R_iconst (pc := 117) (a := 1) (dc k_M_minds 60 rfl) ?_
              refine R_goto (pc := 118) 122 (dc k_M_minds 61 rfl) rfl ?_
              refine R_sub [0, 1, 2, 3, 4, 6] rfl ?_
              exact hJ_33 _ (Z_some hz)
            have hY_45 : K_42 false → Rr y_M_minds (2, 40, n, n, E) (qV K) 121 [(0, vR 81), (1, vI top), (3, vI holds_), (4, vI l4_3), (5, vI l5_4), (6, vI l6_14), (7, vI l7_15)] [] E n M_5 := by
              intro hk
              have hz := Z_neg Bool.false_ne_true (hK_43 _ hk)
              refine R_iconst (pc := 121) (a := 0) (dc k_M_minds 62 rfl) ?_
              refine R_sub [0, 1, 2, 3, 4, 6] rfl ?_
              exact hJ_33 _ (Z_some hz)
            refine R_if_ne (pc := 100) 117 (dc k_M_minds 52 rfl) rfl (fun hc => ?_) (fun hc => ?_)
            · have hz := Z_neg (show ¬ (n32 l6_14 = 0) from hc) hz
              exact hX_44 (Z_some hz)
            · have hz := Z_pos (show n32 l6_14 = 0 from (Decidable.not_not.mp hc)) hz
              refine R_aload_n (pc := 103) 0 (dc k_M_minds 53 rfl) rfl rfl ?_
              refine R_getS (pc := 104) (ci := 10) (k := 48) 113 (dc k_M_minds 54 rfl) fl_M_110 rfl (lb rfl) (Nat.le_trans (lb rfl) hn) (hE 81 (lb rfl) (lb rfl)) rfl (by decide) rfl ?_
              refine R_iload_n (pc := 107) 1 (dc k_M_minds 55 rfl) rfl rfl ?_
              refine R_iload (pc := 108) 6 (dc k_M_minds 56 rfl) rfl ?_
              refine R_cSP (pc := 110)  (As := [vI top, vI l7_15]) (S := [vR 113]) ck_M_430 (dc k_M_minds 57 rfl) (lb rfl) (lb rfl) (lb rfl) rfl (ct_M_spot hE hn (Z_bind hz)) (fun r_47 hz => ?_)
              obtain ⟨⟨hg_48, hg_49⟩, hz⟩ := Z_chk hz
              refine R_zald (pc := 113) (dc k_M_minds 58 rfl) rfl (lb rfl) (Nat.le_trans (lb rfl) hn) hg_48 hg_49 ?_
              refine R_if_eq (pc := 114) 121 (dc k_M_minds 59 rfl) rfl (fun hc => ?_) (fun hc => ?_)
              · have hz := Z_neg (show ¬ (¬ n32 (M_5 113 (Int.toNat r_47)) = 0) from (fun z => z hc)) hz
                exact hY_45 (Z_some hz)
              · have hz := Z_pos (show ¬ n32 (M_5 113 (Int.toNat r_47)) = 0 from hc) hz
                exact hX_44 (Z_some hz)
          · have hz := Z_pos (show ¬ n32 holds_ = 0 from hc) hz
            refine R_iload (pc := 71) 5 (dc k_M_minds 38 rfl) rfl ?_
            obtain ⟨K_34, hK_35, hz⟩ := Z_cut hz
            have hX_36 : K_34 true → Rr y_M_minds (2, 40, n, n, E) (qV K) 90 [(0, vR 81), (1, vI top), (3, vI holds_), (4, vI l4_3), (5, vI l5_4), (6, vI l6_14), (7, vI l7_15)] [] E n M_5 := by
              intro hk
              have hz := Z_pos rfl (hK_35 _ hk)
              refine R_iconst (pc := 90) (a := 1) (dc k_M_minds 47 rfl) ?_
              refine R_goto (pc := 91) 122 (dc k_M_minds 48 rfl) rfl ?_
              refine R_sub [0, 1, 2, 3, 4, 6] rfl ?_
              exact hJ_33 _ (Z_some hz)
            have hY_37 : K_34 false → Rr y_M_minds (2, 40, n, n, E) (qV K) 94 [(0, vR 81), (1, vI top), (3, vI holds_), (4, vI l4_3), (5, vI l5_4), (6, vI l6_14), (7, vI l7_15)] [] E n M_5 := by
              intro hk
              have hz := Z_neg Bool.false_ne_true (hK_35 _ hk)
              refine R_iconst (pc := 94) (a := 0) (dc k_M_minds 49 rfl) ?_
              refine R_goto (pc := 95) 122 (dc k_M_minds 50 rfl) rfl ?_
              refine R_sub [0, 1, 2, 3, 4, 6] rfl ?_
              exact hJ_33 _ (Z_some hz)
            refine R_if_eq (pc := 73) 94 (dc k_M_minds 39 rfl) rfl (fun hc => ?_) (fun hc => ?_)
            · have hz := Z_neg (show ¬ (¬ n32 l6_14 = 0) from (fun z => z hc)) hz
              exact hY_37 (Z_some hz)
            · have hz := Z_pos (show ¬ n32 l6_14 = 0 from hc) hz
              refine R_aload_n (pc := 76) 0 (dc k_M_minds 40 rfl) rfl rfl ?_
              refine R_getS (pc := 77) (ci := 10) (k := 48) 113 (dc k_M_minds 41 rfl) fl_M_110 rfl (lb rfl) (Nat.le_trans (lb rfl) hn) (hE 81 (lb rfl) (lb rfl)) rfl (by decide) rfl ?_
              refine R_iload_n (pc := 80) 1 (dc k_M_minds 42 rfl) rfl rfl ?_
              refine R_iload (pc := 81) 6 (dc k_M_minds 43 rfl) rfl ?_
              refine R_cSP (pc := 83)  (As := [vI top, vI l7_15]) (S := [vR 113]) ck_M_430 (dc k_M_minds 44 rfl) (lb rfl) (lb rfl) (lb rfl) rfl (ct_M_spot hE hn (Z_bind hz)) (fun r_39 hz => ?_)
              obtain ⟨⟨hg_40, hg_41⟩, hz⟩ := Z_chk hz
              refine R_zald (pc := 86) (dc k_M_minds 45 rfl) rfl (lb rfl) (Nat.le_trans (lb rfl) hn) hg_40 hg_41 ?_
              refine R_if_eq (pc := 87) 94 (dc k_M_minds 46 rfl) rfl (fun hc => ?_) (fun hc => ?_)
              · have hz := Z_neg (show ¬ (¬ n32 (M_5 113 (Int.toNat r_39)) = 0) from (fun z => z hc)) hz
                exact hY_37 (Z_some hz)
              · have hz := Z_pos (show ¬ n32 (M_5 113 (Int.toNat r_39)) = 0 from hc) hz
                exact hX_36 (Z_some hz)
        · have hz := Z_pos (show ¬ n32 (iand (ixor' l7_15 l5_4) l4_3) = 0 from hc) hz
          refine R_goto (pc := 64) 124 (dc k_M_minds 35 rfl) rfl ?_
          exact hJ_29 _ (Z_some hz)

set_option maxRecDepth 20000 in
theorem ct_M_bothOf {E : Nat → Bool} {n : Nat} (hE : ∀ c, 81 ≤ c → c ≤ 138 → E c = true) (hn : 138 ≤ n) {c : Int} {top : Int} {M : Mem} {K : Mem → Prop} (hz : Z (M_bothOf c top M) K) : Mt y_M_bothOf (2, 40, n, n, E) E [vR 81, vI c, vI top] M (qV K) := by
  refine Mt.of (by decide) (lb rfl) (Nat.le_refl _) rfl ?_
  rw [M_bothOf] at hz
  show Rr y_M_bothOf (2, 40, n, n, E) (qV K) 0 [(0, vR 81), (1, vI c), (2, vI top)] [] E n M
  refine R_iconst (pc := 0) (a := 0) (dc k_M_bothOf 0 rfl) ?_
  refine R_istore_n (pc := 1) (L' := [(3, vI 0), (0, vR 81), (1, vI c), (2, vI top)]) (dc k_M_bothOf 1 rfl) rfl (lb rfl) rfl ?_
  obtain ⟨K_3, hK_4, hz⟩ := Z_cut hz
  have hX_5 : ∀ (M_9 : Mem), K_3 M_9 → Rr y_M_bothOf (2, 40, n, n, E) (qV K) 117 [] [] E n M_9 := by
    intro M_9 hk
    have hz := hK_4 _ hk
    exact R_vret (pc := 117) (dc k_M_bothOf 61 rfl) rfl rfl rfl ⟨rfl, (Z_some hz)⟩
  refine R_sub [1, 2, 3, 0] rfl ?_
  refine it_R (C := fun aZ : Int × Mem => Rr y_M_bothOf (2, 40, n, n, E) (qV K) 2 [(0, vR 81), (1, vI c), (2, vI top), (3, vI aZ.1)] [] E n aZ.2) (fun aZ K_6 hC_7 hB_8 hz => ?_) FUEL (0, M) hz
  obtain ⟨l3_1, M_2⟩ := aZ
  rw [M_bothOf_b2] at hz
  show Rr y_M_bothOf (2, 40, n, n, E) (qV K) 2 [(0, vR 81), (1, vI c), (2, vI top), (3, vI l3_1)] [] E n M_2
  refine R_iload_n (pc := 2) 3 (dc k_M_bothOf 2 rfl) rfl rfl ?_
  refine R_aload_n (pc := 3) 0 (dc k_M_bothOf 3 rfl) rfl rfl ?_
  refine R_cVP (pc := 4)  (As := []) (S := [vI l3_1]) ck_M_427 (dc k_M_bothOf 4 rfl) ⟨rfl, ⟨_, rfl, rfl⟩, (lb rfl), (Nat.le_trans (lb rfl) hn)⟩ (lb rfl) (lb rfl) (lb rfl) rfl (ct_M_worldMany hE hn (Z_bind hz)) (fun r_10 hz => ?_)
  refine R_icmp_ge (pc := 7) 117 (dc k_M_bothOf 5 rfl) rfl (fun hc => ?_) (fun hc => ?_)
  · have hz := Z_neg (show ¬ (n32 l3_1 < n32 r_10) from (Int.not_lt.mpr hc)) hz
    refine R_sub [] rfl ?_
    exact hX_5 _ (hB_8 _ (Z_some hz))
  · have hz := Z_pos (show n32 l3_1 < n32 r_10 from (Int.not_le.mp hc)) hz
    refine R_aload_n (pc := 10) 0 (dc k_M_bothOf 6 rfl) rfl rfl ?_
    refine R_getS (pc := 11) (ci := 10) (k := 48) 113 (dc k_M_bothOf 7 rfl) fl_M_110 rfl (lb rfl) (Nat.le_trans (lb rfl) hn) (hE 81 (lb rfl) (lb rfl)) rfl (by decide) rfl ?_
    refine R_iload_n (pc := 14) 2 (dc k_M_bothOf 8 rfl) rfl rfl ?_
    refine R_iconst (pc := 15) (a := 1) (dc k_M_bothOf 9 rfl) ?_
    refine R_isub (pc := 16) (dc k_M_bothOf 10 rfl) ?_
    refine R_iload_n (pc := 17) 3 (dc k_M_bothOf 11 rfl) rfl rfl ?_
    refine R_cSP (pc := 18)  (As := [vI (top - 1), vI l3_1]) (S := [vR 113]) ck_M_430 (dc k_M_bothOf 12 rfl) (lb rfl) (lb rfl) (lb rfl) rfl (ct_M_spot hE hn (Z_bind hz)) (fun r_11 hz => ?_)
    obtain ⟨⟨hg_12, hg_13⟩, hz⟩ := Z_chk hz
    refine R_zald (pc := 21) (dc k_M_bothOf 13 rfl) rfl (lb rfl) (Nat.le_trans (lb rfl) hn) hg_12 hg_13 ?_
    obtain ⟨l4_14, hl4_14, hz⟩ := Z_lt hz
    refine R_istoreE (pc := 22) (L' := [(4, vI l4_14), (0, vR 81), (1, vI c), (2, vI top), (3, vI l3_1)]) (dc k_M_bothOf 14 rfl) (lb rfl) hl4_14 rfl ?_
    refine R_aload_n (pc := 24) 1 (dc k_M_bothOf 15 rfl) rfl rfl ?_
    refine R_getS (pc := 25) (ci := 10) (k := 48) 113 (dc k_M_bothOf 16 rfl) fl_M_110 rfl (lb rfl) (Nat.le_trans (lb rfl) hn) (hE 81 (lb rfl) (lb rfl)) rfl (by decide) rfl ?_
    refine R_iload_n (pc := 28) 3 (dc k_M_bothOf 17 rfl) rfl rfl ?_
    refine R_iload_n (pc := 29) 4 (dc k_M_bothOf 18 rfl) rfl rfl ?_
    refine R_cSP (pc := 30)  (As := [vI top, vI l3_1]) (S := [vR 113]) ck_M_430 (dc k_M_bothOf 19 rfl) (lb rfl) (lb rfl) (lb rfl) rfl (ct_M_spot hE hn (Z_bind hz)) (fun r_15 hz => ?_)
    obtain ⟨⟨hg_16, hg_17⟩, hz⟩ := Z_chk hz
    refine R_zald (pc := 33) (dc k_M_bothOf 20 rfl) rfl (lb rfl) (Nat.le_trans (lb rfl) hn) hg_16 hg_17 ?_
    obtain ⟨l5_18, hl5_18, hz⟩ := Z_lt hz
    refine R_istoreE (pc := 34) (L' := [(5, vI l5_18), (4, vI l4_14), (0, vR 81), (1, vI c), (2, vI top), (3, vI l3_1)]) (dc k_M_bothOf 21 rfl) (lb rfl) hl5_18 rfl ?_
    refine R_aload_n (pc := 36) 2 (dc k_M_bothOf 22 rfl) rfl rfl ?_
    refine R_getS (pc := 37) (ci := 10) (k := 48) 113 (dc k_M_bothOf 23 rfl) fl_M_110 rfl (lb rfl) (Nat.le_trans (lb rfl) hn) (hE 81 (lb rfl) (lb rfl)) rfl (by decide) rfl ?_
    refine R_iload_n (pc := 40) 4 (dc k_M_bothOf 24 rfl) rfl rfl ?_
    refine R_iconst (pc := 41) (a := 1) (dc k_M_bothOf 25 rfl) ?_
    refine R_isub (pc := 42) (dc k_M_bothOf 26 rfl) ?_
    refine R_iload_n (pc := 43) 5 (dc k_M_bothOf 27 rfl) rfl rfl ?_
    refine R_cSP (pc := 44)  (As := [vI (top - 1), vI l3_1]) (S := [vR 113]) ck_M_430 (dc k_M_bothOf 28 rfl) (lb rfl) (lb rfl) (lb rfl) rfl (ct_M_spot hE hn (Z_bind hz)) (fun r_19 hz => ?_)
    refine R_iload_n (pc := 47) 3 (dc k_M_bothOf 29 rfl) rfl rfl ?_
    refine R_bipush (pc := 48) (a := 6) (dc k_M_bothOf 30 rfl) (by decide) ?_
    obtain ⟨K_21, hK_22, hz⟩ := Z_cut hz
    have hJ_23 : ∀ (v_20 : Int), K_21 v_20 → Rr y_M_bothOf (2, 40, n, n, E) (qV K) 110 [(0, vR 81), (1, vI c), (2, vI top), (3, vI l3_1)] [vI v_20, vI r_19, vR 113] E n M_2 := by
      intro v_20 hk
      have hz := hK_22 _ hk
      obtain ⟨⟨hg_44, hg_45⟩, hz⟩ := Z_chk hz
      obtain ⟨hg_46, hz⟩ := Z_chk hz
      obtain ⟨M_47, hM_47, hz⟩ := Z_lt hz
      refine R_zastE (pc := 110) (dc k_M_bothOf 58 rfl) rfl (lb rfl) (Nat.le_trans (lb rfl) hn) hg_44 hg_45 hg_46 hM_47 ?_
      obtain ⟨l3_48, hl3_48, hz⟩ := Z_lt hz
      refine R_iincE (pc := 111) (L' := [(3, vI l3_48), (0, vR 81), (1, vI c), (2, vI top)]) 3 (dc k_M_bothOf 59 rfl) rfl (lb rfl) hl3_48 rfl ?_
      refine R_goto (pc := 114) 2 (dc k_M_bothOf 60 rfl) rfl ?_
      refine R_sub [1, 2, 3, 0] rfl ?_
      exact hC_7 _ (Z_some hz)
    refine R_icmp_ne (pc := 50) 71 (dc k_M_bothOf 31 rfl) rfl (fun hc => ?_) (fun hc => ?_)
    · have hz := Z_neg (show ¬ (n32 c = 6) from hc) hz
      refine R_iload_n (pc := 71) 3 (dc k_M_bothOf 40 rfl) rfl rfl ?_
      refine R_bipush (pc := 72) (a := 7) (dc k_M_bothOf 41 rfl) (by decide) ?_
      refine R_icmp_ne (pc := 74) 95 (dc k_M_bothOf 42 rfl) rfl (fun hc => ?_) (fun hc => ?_)
      · have hz := Z_neg (show ¬ (n32 c = 7) from hc) hz
        refine R_iload (pc := 95) 1 (dc k_M_bothOf 51 rfl) rfl ?_
        have hX_36 : ((¬ n32 l4_14 = 0) ∨ (n32 l5_18 = 0)) → Rr y_M_bothOf (2, 40, n, n, E) (qV K) 105 [(5, vI l5_18), (4, vI l4_14), (0, vR 81), (1, vI c), (2, vI top), (3, vI l3_1)] [vI r_19, vR 113] E n M_2 := by
          intro hc
          have hz := Z_pos hc hz
          refine R_iconst (pc := 105) (a := 1) (dc k_M_bothOf 55 rfl) ?_
          refine R_goto (pc := 106) 110 (dc k_M_bothOf 56 rfl) rfl ?_
          refine R_sub [2, 3, 4, 5] rfl ?_
          exact hJ_23 _ (Z_some hz)
        have hY_37 : ¬ ((¬ n32 l4_14 = 0) ∨ (n32 l5_18 = 0)) → Rr y_M_bothOf (2, 40, n, n, E) (qV K) 109 [(5, vI l5_18), (4, vI l4_14), (0, vR 81), (1, vI c), (2, vI top), (3, vI l3_1)] [vI r_19, vR 113] E n M_2 := by
          intro hc
          have hz := Z_neg hc hz
          refine R_iconst (pc := 109) (a := 0) (dc k_M_bothOf 57 rfl) ?_
          refine R_sub [2, 3, 4, 5] rfl ?_
          exact hJ_23 _ (Z_some hz)
        refine R_if_ne (pc := 97) 105 (dc k_M_bothOf 52 rfl) rfl (fun hc => ?_) (fun hc => ?_)
        · have hc_38 : ¬ n32 l4_14 = 0 := hc
          exact hX_36 (Or.inl hc_38)
        · have hc_39 : n32 l4_14 = 0 := (Decidable.not_not.mp hc)
          refine R_iload (pc := 100) 0 (dc k_M_bothOf 53 rfl) rfl ?_
          refine R_if_ne (pc := 102) 109 (dc k_M_bothOf 54 rfl) rfl (fun hc => ?_) (fun hc => ?_)
          · have hc_40 : ¬ n32 l5_18 = 0 := hc
            exact hY_37 (fun z => z.elim (fun z => z hc_39) hc_40)
          · have hc_41 : n32 l5_18 = 0 := (Decidable.not_not.mp hc)
            exact hX_36 (Or.inr hc_41)
      · have hz := Z_pos (show n32 c = 7 from (Decidable.not_not.mp hc)) hz
        refine R_iload (pc := 77) 1 (dc k_M_bothOf 43 rfl) rfl ?_
        have hX_30 : ((¬ n32 l4_14 = 0) ∨ (¬ n32 l5_18 = 0)) → Rr y_M_bothOf (2, 40, n, n, E) (qV K) 87 [(5, vI l5_18), (4, vI l4_14), (0, vR 81), (1, vI c), (2, vI top), (3, vI l3_1)] [vI r_19, vR 113] E n M_2 := by
          intro hc
          have hz := Z_pos hc hz
          refine R_iconst (pc := 87) (a := 1) (dc k_M_bothOf 47 rfl) ?_
          refine R_goto (pc := 88) 110 (dc k_M_bothOf 48 rfl) rfl ?_
          refine R_sub [2, 3, 4, 5] rfl ?_
          exact hJ_23 _ (Z_some hz)
        have hY_31 : ¬ ((¬ n32 l4_14 = 0) ∨ (¬ n32 l5_18 = 0)) → Rr y_M_bothOf (2, 40, n, n, E) (qV K) 91 [(5, vI l5_18), (4, vI l4_14), (0, vR 81), (1, vI c), (2, vI top), (3, vI l3_1)] [vI r_19, vR 113] E n M_2 := by
          intro hc
          have hz := Z_neg hc hz
          refine R_iconst (pc := 91) (a := 0) (dc k_M_bothOf 49 rfl) ?_
          refine R_goto (pc := 92) 110 (dc k_M_bothOf 50 rfl) rfl ?_
          refine R_sub [2, 3, 4, 5] rfl ?_
          exact hJ_23 _ (Z_some hz)
        refine R_if_ne (pc := 79) 87 (dc k_M_bothOf 44 rfl) rfl (fun hc => ?_) (fun hc => ?_)
        · have hc_32 : ¬ n32 l4_14 = 0 := hc
          exact hX_30 (Or.inl hc_32)
        · have hc_33 : n32 l4_14 = 0 := (Decidable.not_not.mp hc)
          refine R_iload (pc := 82) 0 (dc k_M_bothOf 45 rfl) rfl ?_
          refine R_if_eq (pc := 84) 91 (dc k_M_bothOf 46 rfl) rfl (fun hc => ?_) (fun hc => ?_)
          · have hc_34 : n32 l5_18 = 0 := hc
            exact hY_31 (fun z => z.elim (fun z => z hc_33) (fun z => z hc_34))
          · have hc_35 : ¬ n32 l5_18 = 0 := hc
            exact hX_30 (Or.inr hc_35)
    · have hz := Z_pos (show n32 c = 6 from (Decidable.not_not.mp hc)) hz
      refine R_iload (pc := 53) 1 (dc k_M_bothOf 32 rfl) rfl ?_
      have hX_24 : ((¬ n32 l4_14 = 0) ∧ (¬ n32 l5_18 = 0)) → Rr y_M_bothOf (2, 40, n, n, E) (qV K) 63 [(5, vI l5_18), (4, vI l4_14), (0, vR 81), (1, vI c), (2, vI top), (3, vI l3_1)] [vI r_19, vR 113] E n M_2 := by
        intro hc
        have hz := Z_pos hc hz
        refine R_iconst (pc := 63) (a := 1) (dc k_M_bothOf 36 rfl) ?_
        refine R_goto (pc := 64) 110 (dc k_M_bothOf 37 rfl) rfl ?_
        refine R_sub [2, 3, 4, 5] rfl ?_
        exact hJ_23 _ (Z_some hz)
      have hY_25 : ¬ ((¬ n32 l4_14 = 0) ∧ (¬ n32 l5_18 = 0)) → Rr y_M_bothOf (2, 40, n, n, E) (qV K) 67 [(5, vI l5_18), (4, vI l4_14), (0, vR 81), (1, vI c), (2, vI top), (3, vI l3_1)] [vI r_19, vR 113] E n M_2 := by
        intro hc
        have hz := Z_neg hc hz
        refine R_iconst (pc := 67) (a := 0) (dc k_M_bothOf 38 rfl) ?_
        refine R_goto (pc := 68) 110 (dc k_M_bothOf 39 rfl) rfl ?_
        refine R_sub [2, 3, 4, 5] rfl ?_
        exact hJ_23 _ (Z_some hz)
      refine R_if_eq (pc := 55) 67 (dc k_M_bothOf 33 rfl) rfl (fun hc => ?_) (fun hc => ?_)
      · have hc_26 : n32 l4_14 = 0 := hc
        exact hY_25 (fun z => (fun z => z hc_26) z.1)
      · have hc_27 : ¬ n32 l4_14 = 0 := hc
        refine R_iload (pc := 58) 0 (dc k_M_bothOf 34 rfl) rfl ?_
        refine R_if_eq (pc := 60) 67 (dc k_M_bothOf 35 rfl) rfl (fun hc => ?_) (fun hc => ?_)
        · have hc_28 : n32 l5_18 = 0 := hc
          exact hY_25 (fun z => (fun z => z hc_28) z.2)
        · have hc_29 : ¬ n32 l5_18 = 0 := hc
          exact hX_24 ⟨hc_27, hc_29⟩

set_option maxRecDepth 20000 in
theorem ct_M_layColumn {E : Nat → Bool} {n : Nat} (hE : ∀ c, 81 ≤ c → c ≤ 138 → E c = true) (hn : 138 ≤ n) {u : Int} {M : Mem} {K : Mem → Prop} (hz : Z (M_layColumn u M) K) : Mt y_M_layColumn (3, 67, n, n, E) E [vR 81, vI u] M (qV K) := by
  refine Mt.of (by decide) (lb rfl) (Nat.le_refl _) rfl ?_
  rw [M_layColumn] at hz
  show Rr y_M_layColumn (3, 67, n, n, E) (qV K) 0 [(0, vR 81), (1, vI u)] [] E n M
  refine R_iconst (pc := 0) (a := 0) (dc k_M_layColumn 0 rfl) ?_
  refine R_istore_n (pc := 1) (L' := [(2, vI 0), (0, vR 81), (1, vI u)]) (dc k_M_layColumn 1 rfl) rfl (lb rfl) rfl ?_
  refine R_aload_n (pc := 2) 1 (dc k_M_layColumn 2 rfl) rfl rfl ?_
  refine R_getS (pc := 3) (ci := 10) (k := 31) 104 (dc k_M_layColumn 3 rfl) fl_M_83 rfl (lb rfl) (Nat.le_trans (lb rfl) hn) (hE 81 (lb rfl) (lb rfl)) rfl (by decide) rfl ?_
  refine R_iload_n (pc := 6) 2 (dc k_M_layColumn 4 rfl) rfl rfl ?_
  obtain ⟨⟨hg_1, hg_2⟩, hz⟩ := Z_chk hz
  refine R_iald (pc := 7) (dc k_M_layColumn 5 rfl) rfl (lb rfl) (Nat.le_trans (lb rfl) hn) hg_1 hg_2 ?_
  obtain ⟨l3_3, hl3_3, hz⟩ := Z_lt hz
  refine R_istore_nE (pc := 8) (L' := [(3, vI l3_3), (2, vI 0), (0, vR 81), (1, vI u)]) (dc k_M_layColumn 6 rfl) rfl (lb rfl) hl3_3 rfl ?_
  obtain ⟨K_7, hK_8, hz⟩ := Z_cut hz
  have hX_9 : ∀ (M_13 : Mem), K_7 M_13 → Rr y_M_layColumn (3, 67, n, n, E) (qV K) 233 [] [] E n M_13 := by
    intro M_13 hk
    have hz := hK_8 _ hk
    exact R_vret (pc := 233) (dc k_M_layColumn 125 rfl) rfl rfl rfl ⟨rfl, (Z_some hz)⟩
  refine R_sub [2, 3, 1, 0] rfl ?_
  refine it_R (C := fun aZ : Int × Int × Mem => Rr y_M_layColumn (3, 67, n, n, E) (qV K) 9 [(0, vR 81), (1, vI u), (2, vI aZ.1), (3, vI aZ.2.1)] [] E n aZ.2.2) (fun aZ K_10 hC_11 hB_12 hz => ?_) FUEL (0, l3_3, M) hz
  obtain ⟨l2_4, l3_5, M_6⟩ := aZ
  rw [M_layColumn_b9] at hz
  show Rr y_M_layColumn (3, 67, n, n, E) (qV K) 9 [(0, vR 81), (1, vI u), (2, vI l2_4), (3, vI l3_5)] [] E n M_6
  refine R_iload_n (pc := 9) 3 (dc k_M_layColumn 7 rfl) rfl rfl ?_
  refine R_aload_n (pc := 10) 0 (dc k_M_layColumn 8 rfl) rfl rfl ?_
  refine R_getS (pc := 11) (ci := 10) (k := 32) 105 (dc k_M_layColumn 9 rfl) fl_M_86 rfl (lb rfl) (Nat.le_trans (lb rfl) hn) (hE 81 (lb rfl) (lb rfl)) rfl (by decide) rfl ?_
  refine R_iload_n (pc := 14) 1 (dc k_M_layColumn 10 rfl) rfl rfl ?_
  refine R_iald (pc := 15) (dc k_M_layColumn 11 rfl) rfl (lb rfl) (Nat.le_trans (lb rfl) hn) hg_1 hg_2 ?_
  refine R_icmp_ge (pc := 16) 233 (dc k_M_layColumn 12 rfl) rfl (fun hc => ?_) (fun hc => ?_)
  · have hz := Z_neg (show ¬ (n32 l3_5 < n32 (M_6 105 (Int.toNat u))) from (Int.not_lt.mpr hc)) hz
    refine R_sub [] rfl ?_
    exact hX_9 _ (hB_12 _ (Z_some hz))
  · have hz := Z_pos (show n32 l3_5 < n32 (M_6 105 (Int.toNat u)) from (Int.not_le.mp hc)) hz
    refine R_aload_n (pc := 19) 0 (dc k_M_layColumn 13 rfl) rfl rfl ?_
    refine R_getS (pc := 20) (ci := 10) (k := 33) 106 (dc k_M_layColumn 14 rfl) fl_M_89 rfl (lb rfl) (Nat.le_trans (lb rfl) hn) (hE 81 (lb rfl) (lb rfl)) rfl (by decide) rfl ?_
    refine R_iload_n (pc := 23) 3 (dc k_M_layColumn 15 rfl) rfl rfl ?_
    obtain ⟨⟨hg_14, hg_15⟩, hz⟩ := Z_chk hz
    refine R_iald (pc := 24) (dc k_M_layColumn 16 rfl) rfl (lb rfl) (Nat.le_trans (lb rfl) hn) hg_14 hg_15 ?_
    obtain ⟨l4_16, hl4_16, hz⟩ := Z_lt hz
    refine R_istoreE (pc := 25) (L' := [(4, vI l4_16), (0, vR 81), (1, vI u), (2, vI l2_4), (3, vI l3_5)]) (dc k_M_layColumn 17 rfl) (lb rfl) hl4_16 rfl ?_
    refine R_aload_n (pc := 27) 1 (dc k_M_layColumn 18 rfl) rfl rfl ?_
    refine R_getS (pc := 28) (ci := 10) (k := 34) 107 (dc k_M_layColumn 19 rfl) fl_M_92 rfl (lb rfl) (Nat.le_trans (lb rfl) hn) (hE 81 (lb rfl) (lb rfl)) rfl (by decide) rfl ?_
    refine R_iload_n (pc := 31) 4 (dc k_M_layColumn 20 rfl) rfl rfl ?_
    refine R_iald (pc := 32) (dc k_M_layColumn 21 rfl) rfl (lb rfl) (Nat.le_trans (lb rfl) hn) hg_14 hg_15 ?_
    obtain ⟨l5_17, hl5_17, hz⟩ := Z_lt hz
    refine R_istoreE (pc := 33) (L' := [(5, vI l5_17), (4, vI l4_16), (0, vR 81), (1, vI u), (2, vI l2_4), (3, vI l3_5)]) (dc k_M_layColumn 22 rfl) (lb rfl) hl5_17 rfl ?_
    refine R_iload (pc := 35) 1 (dc k_M_layColumn 23 rfl) rfl ?_
    refine R_iconst (pc := 37) (a := 1) (dc k_M_layColumn 24 rfl) ?_
    obtain ⟨K_20, hK_21, hz⟩ := Z_cut hz
    have hJ_22 : ∀ (l2_18 : Int) (M_19 : Mem), K_20 (l2_18, M_19) → Rr y_M_layColumn (3, 67, n, n, E) (qV K) 227 [(0, vR 81), (1, vI u), (2, vI l2_18), (3, vI l3_5)] [] E n M_19 := by
      intro l2_18 M_19 hk
      have hz := hK_21 _ hk
      obtain ⟨l3_96, hl3_96, hz⟩ := Z_lt hz
      refine R_iincE (pc := 227) (L' := [(3, vI l3_96), (0, vR 81), (1, vI u), (2, vI l2_18)]) 3 (dc k_M_layColumn 123 rfl) rfl (lb rfl) hl3_96 rfl ?_
      refine R_goto (pc := 230) 9 (dc k_M_layColumn 124 rfl) rfl ?_
      refine R_sub [1, 2, 3, 0] rfl ?_
      exact hC_11 _ (Z_some hz)
    have hX_90 : ((n32 l4_16 = 1) ∨ (n32 l4_16 = 2)) → Rr y_M_layColumn (3, 67, n, n, E) (qV K) 47 [(5, vI l5_17), (4, vI l4_16), (0, vR 81), (1, vI u), (2, vI l2_4), (3, vI l3_5)] [] E n M_6 := by
      intro hc
      have hz := Z_pos hc hz
      refine R_iconst (pc := 47) (a := 0) (dc k_M_layColumn 29 rfl) ?_
      refine R_istore (pc := 48) (L' := [(6, vI 0), (5, vI l5_17), (4, vI l4_16), (0, vR 81), (1, vI u), (2, vI l2_4), (3, vI l3_5)]) (dc k_M_layColumn 30 rfl) (lb rfl) rfl ?_
      obtain ⟨K_25, hK_26, hz⟩ := Z_cut hz
      have hX_27 : ∀ (M_31 : Mem), K_25 M_31 → Rr y_M_layColumn (3, 67, n, n, E) (qV K) 113 [(0, vR 81), (1, vI u), (2, vI l2_4), (3, vI l3_5)] [] E n M_31 := by
        intro M_31 hk
        have hz := hK_26 _ hk
        obtain ⟨l2_49, hl2_49, hz⟩ := Z_lt hz
        refine R_iincE (pc := 113) (L' := [(2, vI l2_49), (0, vR 81), (1, vI u), (3, vI l3_5)]) 2 (dc k_M_layColumn 63 rfl) rfl (lb rfl) hl2_49 rfl ?_
        refine R_goto (pc := 116) 227 (dc k_M_layColumn 64 rfl) rfl ?_
        refine R_sub [1, 2, 0, 3] rfl ?_
        exact hJ_22 _ _ (Z_some hz)
      refine R_sub [3, 4, 5, 6, 2, 1, 0] rfl ?_
      refine it_R (C := fun aZ : Int × Mem => Rr y_M_layColumn (3, 67, n, n, E) (qV K) 50 [(0, vR 81), (1, vI u), (2, vI l2_4), (3, vI l3_5), (4, vI l4_16), (5, vI l5_17), (6, vI aZ.1)] [] E n aZ.2) (fun aZ K_28 hC_29 hB_30 hz => ?_) FUEL (0, M_6) hz
      obtain ⟨l6_23, M_24⟩ := aZ
      rw [M_layColumn_b50] at hz
      show Rr y_M_layColumn (3, 67, n, n, E) (qV K) 50 [(0, vR 81), (1, vI u), (2, vI l2_4), (3, vI l3_5), (4, vI l4_16), (5, vI l5_17), (6, vI l6_23)] [] E n M_24
      refine R_iload (pc := 50) 6 (dc k_M_layColumn 31 rfl) rfl ?_
      refine R_aload_n (pc := 52) 0 (dc k_M_layColumn 32 rfl) rfl rfl ?_
      refine R_cVP (pc := 53)  (As := []) (S := [vI l6_23]) ck_M_427 (dc k_M_layColumn 33 rfl) ⟨rfl, ⟨_, rfl, rfl⟩, (lb rfl), (Nat.le_trans (lb rfl) hn)⟩ (lb rfl) (lb rfl) (lb rfl) rfl (ct_M_worldMany hE hn (Z_bind hz)) (fun r_32 hz => ?_)
      refine R_icmp_ge (pc := 56) 113 (dc k_M_layColumn 34 rfl) rfl (fun hc => ?_) (fun hc => ?_)
      · have hz := Z_neg (show ¬ (n32 l6_23 < n32 r_32) from (Int.not_lt.mpr hc)) hz
        refine R_sub [0, 1, 2, 3] rfl ?_
        exact hX_27 _ (hB_30 _ (Z_some hz))
      · have hz := Z_pos (show n32 l6_23 < n32 r_32 from (Int.not_le.mp hc)) hz
        refine R_aload_n (pc := 59) 0 (dc k_M_layColumn 35 rfl) rfl rfl ?_
        refine R_getS (pc := 60) (ci := 10) (k := 48) 113 (dc k_M_layColumn 36 rfl) fl_M_110 rfl (lb rfl) (Nat.le_trans (lb rfl) hn) (hE 81 (lb rfl) (lb rfl)) rfl (by decide) rfl ?_
        refine R_iload_n (pc := 63) 2 (dc k_M_layColumn 37 rfl) rfl rfl ?_
        refine R_iload (pc := 64) 6 (dc k_M_layColumn 38 rfl) rfl ?_
        refine R_cSP (pc := 66)  (As := [vI l2_4, vI l6_23]) (S := [vR 113]) ck_M_430 (dc k_M_layColumn 39 rfl) (lb rfl) (lb rfl) (lb rfl) rfl (ct_M_spot hE hn (Z_bind hz)) (fun r_33 hz => ?_)
        refine R_iload (pc := 69) 4 (dc k_M_layColumn 40 rfl) rfl ?_
        refine R_iconst (pc := 71) (a := 1) (dc k_M_layColumn 41 rfl) ?_
        obtain ⟨K_35, hK_36, hz⟩ := Z_cut hz
        have hJ_37 : ∀ (v_34 : Int), K_35 v_34 → Rr y_M_layColumn (3, 67, n, n, E) (qV K) 106 [(0, vR 81), (1, vI u), (2, vI l2_4), (3, vI l3_5), (4, vI l4_16), (5, vI l5_17), (6, vI l6_23)] [vI v_34, vI r_33, vR 113] E n M_24 := by
          intro v_34 hk
          have hz := hK_36 _ hk
          obtain ⟨⟨hg_43, hg_44⟩, hz⟩ := Z_chk hz
          obtain ⟨hg_45, hz⟩ := Z_chk hz
          obtain ⟨M_46, hM_46, hz⟩ := Z_lt hz
          refine R_zastE (pc := 106) (dc k_M_layColumn 60 rfl) rfl (lb rfl) (Nat.le_trans (lb rfl) hn) hg_43 hg_44 hg_45 hM_46 ?_
          obtain ⟨l6_47, hl6_47, hz⟩ := Z_lt hz
          refine R_iincE (pc := 107) (L' := [(6, vI l6_47), (0, vR 81), (1, vI u), (2, vI l2_4), (3, vI l3_5), (4, vI l4_16), (5, vI l5_17)]) 6 (dc k_M_layColumn 61 rfl) rfl (lb rfl) hl6_47 rfl ?_
          refine R_goto (pc := 110) 50 (dc k_M_layColumn 62 rfl) rfl ?_
          refine R_sub [1, 2, 3, 4, 5, 6, 0] rfl ?_
          exact hC_29 _ (Z_some hz)
        refine R_icmp_ne (pc := 72) 94 (dc k_M_layColumn 42 rfl) rfl (fun hc => ?_) (fun hc => ?_)
        · have hz := Z_neg (show ¬ (n32 l4_16 = 1) from hc) hz
          refine R_aload_n (pc := 94) 0 (dc k_M_layColumn 54 rfl) rfl rfl ?_
          refine R_getS (pc := 95) (ci := 10) (k := 47) 112 (dc k_M_layColumn 55 rfl) fl_M_107 rfl (lb rfl) (Nat.le_trans (lb rfl) hn) (hE 81 (lb rfl) (lb rfl)) rfl (by decide) rfl ?_
          refine R_iload (pc := 98) 5 (dc k_M_layColumn 56 rfl) rfl ?_
          refine R_iload (pc := 100) 6 (dc k_M_layColumn 57 rfl) rfl ?_
          refine R_cSP (pc := 102)  (As := [vI l5_17, vI l6_23]) (S := [vR 112, vI r_33, vR 113]) ck_M_430 (dc k_M_layColumn 58 rfl) (lb rfl) (lb rfl) (lb rfl) rfl (ct_M_spot hE hn (Z_bind hz)) (fun r_39 hz => ?_)
          obtain ⟨⟨hg_40, hg_41⟩, hz⟩ := Z_chk hz
          refine R_zald (pc := 105) (dc k_M_layColumn 59 rfl) rfl (lb rfl) (Nat.le_trans (lb rfl) hn) hg_40 hg_41 ?_
          exact hJ_37 _ (Z_some hz)
        · have hz := Z_pos (show n32 l4_16 = 1 from (Decidable.not_not.mp hc)) hz
          refine R_iload (pc := 75) 6 (dc k_M_layColumn 43 rfl) rfl ?_
          refine R_iload (pc := 77) 5 (dc k_M_layColumn 44 rfl) rfl ?_
          refine R_ishr (pc := 79) (dc k_M_layColumn 45 rfl) ?_
          refine R_iconst (pc := 80) (a := 1) (dc k_M_layColumn 46 rfl) ?_
          refine R_iand (pc := 81) (dc k_M_layColumn 47 rfl) ?_
          refine R_iconst (pc := 82) (a := 1) (dc k_M_layColumn 48 rfl) ?_
          refine R_icmp_ne (pc := 83) 90 (dc k_M_layColumn 49 rfl) rfl (fun hc => ?_) (fun hc => ?_)
          · have hz := Z_neg (show ¬ (n32 (iand (ishr l6_23 l5_17) 1) = 1) from hc) hz
            refine R_iconst (pc := 90) (a := 0) (dc k_M_layColumn 52 rfl) ?_
            refine R_goto (pc := 91) 106 (dc k_M_layColumn 53 rfl) rfl ?_
            exact hJ_37 _ (Z_some hz)
          · have hz := Z_pos (show n32 (iand (ishr l6_23 l5_17) 1) = 1 from (Decidable.not_not.mp hc)) hz
            refine R_iconst (pc := 86) (a := 1) (dc k_M_layColumn 50 rfl) ?_
            refine R_goto (pc := 87) 106 (dc k_M_layColumn 51 rfl) rfl ?_
            exact hJ_37 _ (Z_some hz)
    have hY_91 : ¬ ((n32 l4_16 = 1) ∨ (n32 l4_16 = 2)) → Rr y_M_layColumn (3, 67, n, n, E) (qV K) 119 [(5, vI l5_17), (4, vI l4_16), (0, vR 81), (1, vI u), (2, vI l2_4), (3, vI l3_5)] [] E n M_6 := by
      intro hc
      have hz := Z_neg hc hz
      refine R_iload (pc := 119) 1 (dc k_M_layColumn 65 rfl) rfl ?_
      refine R_iconst (pc := 121) (a := 3) (dc k_M_layColumn 66 rfl) ?_
      refine R_icmp_ne (pc := 122) 180 (dc k_M_layColumn 67 rfl) rfl (fun hc => ?_) (fun hc => ?_)
      · have hz := Z_neg (show ¬ (n32 l4_16 = 3) from hc) hz
        refine R_iload (pc := 180) 1 (dc k_M_layColumn 97 rfl) rfl ?_
        refine R_iconst (pc := 182) (a := 4) (dc k_M_layColumn 98 rfl) ?_
        have hX_83 : ((n32 l4_16 = 4) ∨ (n32 l4_16 = 5)) → Rr y_M_layColumn (3, 67, n, n, E) (qV K) 192 [(5, vI l5_17), (4, vI l4_16), (0, vR 81), (1, vI u), (2, vI l2_4), (3, vI l3_5)] [] E n M_6 := by
          intro hc
          have hz := Z_pos hc hz
          refine R_aload_n (pc := 192) 2 (dc k_M_layColumn 103 rfl) rfl rfl ?_
          refine R_iload_n (pc := 193) 4 (dc k_M_layColumn 104 rfl) rfl rfl ?_
          refine R_iconst (pc := 194) (a := 1) (dc k_M_layColumn 105 rfl) ?_
          refine R_isub (pc := 195) (dc k_M_layColumn 106 rfl) ?_
          refine R_iload (pc := 196) 0 (dc k_M_layColumn 107 rfl) rfl ?_
          refine R_iload (pc := 198) 1 (dc k_M_layColumn 108 rfl) rfl ?_
          refine R_iconst (pc := 200) (a := 4) (dc k_M_layColumn 109 rfl) ?_
          obtain ⟨K_76, hK_77, hz⟩ := Z_cut hz
          have hJ_78 : ∀ (v_75 : Int), K_76 v_75 → Rr y_M_layColumn (3, 67, n, n, E) (qV K) 209 [(0, vR 81), (1, vI u), (2, vI l2_4), (3, vI l3_5)] [vI v_75, vI l5_17, vI (l2_4 - 1), vR 81] E n M_6 := by
            intro v_75 hk
            have hz := hK_77 _ hk
            refine R_cVV (pc := 209)  (As := [vI (l2_4 - 1), vI l5_17, vI v_75]) (S := []) ck_M_434 (dc k_M_layColumn 114 rfl) ⟨rfl, ⟨_, rfl, rfl⟩, (lb rfl), (Nat.le_trans (lb rfl) hn)⟩ (lb rfl) (lb rfl) (lb rfl) rfl (ct_M_minds hE hn (Z_bind hz)) (fun M_80 hz => ?_)
            refine R_goto (pc := 212) 227 (dc k_M_layColumn 115 rfl) rfl ?_
            exact hJ_22 _ _ (Z_some hz)
          refine R_icmp_ne (pc := 201) 208 (dc k_M_layColumn 110 rfl) rfl (fun hc => ?_) (fun hc => ?_)
          · have hz := Z_neg (show ¬ (n32 l4_16 = 4) from hc) hz
            refine R_iconst (pc := 208) (a := 0) (dc k_M_layColumn 113 rfl) ?_
            refine R_sub [2, 3, 4, 5] rfl ?_
            exact hJ_78 _ (Z_some hz)
          · have hz := Z_pos (show n32 l4_16 = 4 from (Decidable.not_not.mp hc)) hz
            refine R_iconst (pc := 204) (a := 1) (dc k_M_layColumn 111 rfl) ?_
            refine R_goto (pc := 205) 209 (dc k_M_layColumn 112 rfl) rfl ?_
            refine R_sub [2, 3, 4, 5] rfl ?_
            exact hJ_78 _ (Z_some hz)
        have hY_84 : ¬ ((n32 l4_16 = 4) ∨ (n32 l4_16 = 5)) → Rr y_M_layColumn (3, 67, n, n, E) (qV K) 215 [(5, vI l5_17), (4, vI l4_16), (0, vR 81), (1, vI u), (2, vI l2_4), (3, vI l3_5)] [] E n M_6 := by
          intro hc
          have hz := Z_neg hc hz
          refine R_aload_n (pc := 215) 2 (dc k_M_layColumn 116 rfl) rfl rfl ?_
          refine R_iload (pc := 216) 1 (dc k_M_layColumn 117 rfl) rfl ?_
          refine R_iload_n (pc := 218) 4 (dc k_M_layColumn 118 rfl) rfl rfl ?_
          refine R_iconst (pc := 219) (a := 1) (dc k_M_layColumn 119 rfl) ?_
          refine R_isub (pc := 220) (dc k_M_layColumn 120 rfl) ?_
          refine R_cVV (pc := 221)  (As := [vI l4_16, vI (l2_4 - 1)]) (S := []) ck_M_438 (dc k_M_layColumn 121 rfl) ⟨rfl, ⟨_, rfl, rfl⟩, (lb rfl), (Nat.le_trans (lb rfl) hn)⟩ (lb rfl) (lb rfl) (lb rfl) rfl (ct_M_bothOf hE hn (Z_bind hz)) (fun M_81 hz => ?_)
          obtain ⟨l2_82, hl2_82, hz⟩ := Z_lt hz
          refine R_iincE (pc := 224) (L' := [(2, vI l2_82), (5, vI l5_17), (4, vI l4_16), (0, vR 81), (1, vI u), (3, vI l3_5)]) 4 (dc k_M_layColumn 122 rfl) rfl (lb rfl) hl2_82 rfl ?_
          refine R_sub [3, 4, 0, 5] rfl ?_
          exact hJ_22 _ _ (Z_some hz)
        refine R_icmp_eq (pc := 183) 192 (dc k_M_layColumn 99 rfl) rfl (fun hc => ?_) (fun hc => ?_)
        · have hc_85 : n32 l4_16 = 4 := hc
          exact hX_83 (Or.inl hc_85)
        · have hc_86 : ¬ n32 l4_16 = 4 := hc
          refine R_iload (pc := 186) 1 (dc k_M_layColumn 100 rfl) rfl ?_
          refine R_iconst (pc := 188) (a := 5) (dc k_M_layColumn 101 rfl) ?_
          refine R_icmp_ne (pc := 189) 215 (dc k_M_layColumn 102 rfl) rfl (fun hc => ?_) (fun hc => ?_)
          · have hc_87 : ¬ n32 l4_16 = 5 := hc
            exact hY_84 (fun z => z.elim hc_86 hc_87)
          · have hc_88 : n32 l4_16 = 5 := (Decidable.not_not.mp hc)
            exact hX_83 (Or.inr hc_88)
      · have hz := Z_pos (show n32 l4_16 = 3 from (Decidable.not_not.mp hc)) hz
        refine R_iconst (pc := 125) (a := 0) (dc k_M_layColumn 68 rfl) ?_
        refine R_istore (pc := 126) (L' := [(6, vI 0), (5, vI l5_17), (4, vI l4_16), (0, vR 81), (1, vI u), (2, vI l2_4), (3, vI l3_5)]) (dc k_M_layColumn 69 rfl) (lb rfl) rfl ?_
        obtain ⟨K_52, hK_53, hz⟩ := Z_cut hz
        have hX_54 : ∀ (M_58 : Mem), K_52 M_58 → Rr y_M_layColumn (3, 67, n, n, E) (qV K) 177 [(0, vR 81), (1, vI u), (2, vI l2_4), (3, vI l3_5)] [] E n M_58 := by
          intro M_58 hk
          have hz := hK_53 _ hk
          refine R_goto (pc := 177) 227 (dc k_M_layColumn 96 rfl) rfl ?_
          exact hJ_22 _ _ (Z_some hz)
        refine R_sub [3, 4, 5, 6, 0] rfl ?_
        refine it_R (C := fun aZ : Int × Mem => Rr y_M_layColumn (3, 67, n, n, E) (qV K) 128 [(0, vR 81), (1, vI u), (2, vI l2_4), (3, vI l3_5), (6, vI aZ.1)] [] E n aZ.2) (fun aZ K_55 hC_56 hB_57 hz => ?_) FUEL (0, M_6) hz
        obtain ⟨l6_50, M_51⟩ := aZ
        rw [M_layColumn_b128] at hz
        show Rr y_M_layColumn (3, 67, n, n, E) (qV K) 128 [(0, vR 81), (1, vI u), (2, vI l2_4), (3, vI l3_5), (6, vI l6_50)] [] E n M_51
        refine R_iload (pc := 128) 4 (dc k_M_layColumn 70 rfl) rfl ?_
        refine R_aload_n (pc := 130) 0 (dc k_M_layColumn 71 rfl) rfl rfl ?_
        refine R_cVP (pc := 131)  (As := []) (S := [vI l6_50]) ck_M_427 (dc k_M_layColumn 72 rfl) ⟨rfl, ⟨_, rfl, rfl⟩, (lb rfl), (Nat.le_trans (lb rfl) hn)⟩ (lb rfl) (lb rfl) (lb rfl) rfl (ct_M_worldMany hE hn (Z_bind hz)) (fun r_59 hz => ?_)
        refine R_icmp_ge (pc := 134) 177 (dc k_M_layColumn 73 rfl) rfl (fun hc => ?_) (fun hc => ?_)
        · have hz := Z_neg (show ¬ (n32 l6_50 < n32 r_59) from (Int.not_lt.mpr hc)) hz
          refine R_sub [0, 1, 2, 3] rfl ?_
          exact hX_54 _ (hB_57 _ (Z_some hz))
        · have hz := Z_pos (show n32 l6_50 < n32 r_59 from (Int.not_le.mp hc)) hz
          refine R_aload_n (pc := 137) 0 (dc k_M_layColumn 74 rfl) rfl rfl ?_
          refine R_getS (pc := 138) (ci := 10) (k := 48) 113 (dc k_M_layColumn 75 rfl) fl_M_110 rfl (lb rfl) (Nat.le_trans (lb rfl) hn) (hE 81 (lb rfl) (lb rfl)) rfl (by decide) rfl ?_
          refine R_iload_n (pc := 141) 2 (dc k_M_layColumn 76 rfl) rfl rfl ?_
          refine R_iconst (pc := 142) (a := 1) (dc k_M_layColumn 77 rfl) ?_
          refine R_isub (pc := 143) (dc k_M_layColumn 78 rfl) ?_
          refine R_iload (pc := 144) 4 (dc k_M_layColumn 79 rfl) rfl ?_
          refine R_cSP (pc := 146)  (As := [vI (l2_4 - 1), vI l6_50]) (S := [vR 113]) ck_M_430 (dc k_M_layColumn 80 rfl) (lb rfl) (lb rfl) (lb rfl) rfl (ct_M_spot hE hn (Z_bind hz)) (fun r_60 hz => ?_)
          refine R_aload_n (pc := 149) 0 (dc k_M_layColumn 81 rfl) rfl rfl ?_
          refine R_getS (pc := 150) (ci := 10) (k := 48) 113 (dc k_M_layColumn 82 rfl) fl_M_110 rfl (lb rfl) (Nat.le_trans (lb rfl) hn) (hE 81 (lb rfl) (lb rfl)) rfl (by decide) rfl ?_
          refine R_iload_n (pc := 153) 2 (dc k_M_layColumn 83 rfl) rfl rfl ?_
          refine R_iconst (pc := 154) (a := 1) (dc k_M_layColumn 84 rfl) ?_
          refine R_isub (pc := 155) (dc k_M_layColumn 85 rfl) ?_
          refine R_iload (pc := 156) 4 (dc k_M_layColumn 86 rfl) rfl ?_
          refine R_cSP (pc := 158)  (As := [vI (l2_4 - 1), vI l6_50]) (S := [vR 113, vI r_60, vR 113]) ck_M_430 (dc k_M_layColumn 87 rfl) (lb rfl) (lb rfl) (lb rfl) rfl (ct_M_spot hE hn (Z_bind hz)) (fun r_61 hz => ?_)
          obtain ⟨⟨hg_62, hg_63⟩, hz⟩ := Z_chk hz
          refine R_zald (pc := 161) (dc k_M_layColumn 88 rfl) rfl (lb rfl) (Nat.le_trans (lb rfl) hn) hg_62 hg_63 ?_
          obtain ⟨K_65, hK_66, hz⟩ := Z_cut hz
          have hJ_67 : ∀ (v_64 : Int), K_65 v_64 → Rr y_M_layColumn (3, 67, n, n, E) (qV K) 170 [(0, vR 81), (1, vI u), (2, vI l2_4), (3, vI l3_5), (6, vI l6_50)] [vI v_64, vI r_60, vR 113] E n M_51 := by
            intro v_64 hk
            have hz := hK_66 _ hk
            obtain ⟨⟨hg_69, hg_70⟩, hz⟩ := Z_chk hz
            obtain ⟨hg_71, hz⟩ := Z_chk hz
            obtain ⟨M_72, hM_72, hz⟩ := Z_lt hz
            refine R_zastE (pc := 170) (dc k_M_layColumn 93 rfl) rfl (lb rfl) (Nat.le_trans (lb rfl) hn) hg_69 hg_70 hg_71 hM_72 ?_
            obtain ⟨l6_73, hl6_73, hz⟩ := Z_lt hz
            refine R_iincE (pc := 171) (L' := [(6, vI l6_73), (0, vR 81), (1, vI u), (2, vI l2_4), (3, vI l3_5)]) 4 (dc k_M_layColumn 94 rfl) rfl (lb rfl) hl6_73 rfl ?_
            refine R_goto (pc := 174) 128 (dc k_M_layColumn 95 rfl) rfl ?_
            refine R_sub [1, 2, 3, 4, 0] rfl ?_
            exact hC_56 _ (Z_some hz)
          refine R_if_ne (pc := 162) 169 (dc k_M_layColumn 89 rfl) rfl (fun hc => ?_) (fun hc => ?_)
          · have hz := Z_neg (show ¬ (n32 (M_51 113 (Int.toNat r_61)) = 0) from hc) hz
            refine R_iconst (pc := 169) (a := 0) (dc k_M_layColumn 92 rfl) ?_
            exact hJ_67 _ (Z_some hz)
          · have hz := Z_pos (show n32 (M_51 113 (Int.toNat r_61)) = 0 from (Decidable.not_not.mp hc)) hz
            refine R_iconst (pc := 165) (a := 1) (dc k_M_layColumn 90 rfl) ?_
            refine R_goto (pc := 166) 170 (dc k_M_layColumn 91 rfl) rfl ?_
            exact hJ_67 _ (Z_some hz)
    refine R_icmp_eq (pc := 38) 47 (dc k_M_layColumn 25 rfl) rfl (fun hc => ?_) (fun hc => ?_)
    · have hc_92 : n32 l4_16 = 1 := hc
      exact hX_90 (Or.inl hc_92)
    · have hc_93 : ¬ n32 l4_16 = 1 := hc
      refine R_iload (pc := 41) 1 (dc k_M_layColumn 26 rfl) rfl ?_
      refine R_iconst (pc := 43) (a := 2) (dc k_M_layColumn 27 rfl) ?_
      refine R_icmp_ne (pc := 44) 119 (dc k_M_layColumn 28 rfl) rfl (fun hc => ?_) (fun hc => ?_)
      · have hc_94 : ¬ n32 l4_16 = 2 := hc
        exact hY_91 (fun z => z.elim hc_93 hc_94)
      · have hc_95 : n32 l4_16 = 2 := (Decidable.not_not.mp hc)
        exact hX_90 (Or.inr hc_95)

set_option maxRecDepth 20000 in
theorem ct_M_layRows {E : Nat → Bool} {n : Nat} (hE : ∀ c, 81 ≤ c → c ≤ 138 → E c = true) (hn : 138 ≤ n) {thinkingOnes : Int} {M : Mem} {K : Mem → Prop} (hz : Z (M_layRows thinkingOnes M) K) : Mt y_M_layRows (4, 93, n, n, E) E [vR 81, vI thinkingOnes] M (qV K) := by
  refine Mt.of (by decide) (lb rfl) (Nat.le_refl _) rfl ?_
  rw [M_layRows] at hz
  show Rr y_M_layRows (4, 93, n, n, E) (qV K) 0 [(0, vR 81), (1, vI thinkingOnes)] [] E n M
  refine R_iconst (pc := 0) (a := 0) (dc k_M_layRows 0 rfl) ?_
  refine R_istore_n (pc := 1) (L' := [(2, vI 0), (0, vR 81), (1, vI thinkingOnes)]) (dc k_M_layRows 1 rfl) rfl (lb rfl) rfl ?_
  obtain ⟨K_3, hK_4, hz⟩ := Z_cut hz
  have hX_5 : ∀ (M_9 : Mem), K_3 M_9 → Rr y_M_layRows (4, 93, n, n, E) (qV K) 82 [] [] E n M_9 := by
    intro M_9 hk
    have hz := hK_4 _ hk
    exact R_vret (pc := 82) (dc k_M_layRows 46 rfl) rfl rfl rfl ⟨rfl, (Z_some hz)⟩
  refine R_sub [1, 2, 0] rfl ?_
  refine it_R (C := fun aZ : Int × Mem => Rr y_M_layRows (4, 93, n, n, E) (qV K) 2 [(0, vR 81), (1, vI thinkingOnes), (2, vI aZ.1)] [] E n aZ.2) (fun aZ K_6 hC_7 hB_8 hz => ?_) FUEL (0, M) hz
  obtain ⟨l2_1, M_2⟩ := aZ
  rw [M_layRows_b2] at hz
  show Rr y_M_layRows (4, 93, n, n, E) (qV K) 2 [(0, vR 81), (1, vI thinkingOnes), (2, vI l2_1)] [] E n M_2
  refine R_iload_n (pc := 2) 2 (dc k_M_layRows 2 rfl) rfl rfl ?_
  refine R_aload_n (pc := 3) 0 (dc k_M_layRows 3 rfl) rfl rfl ?_
  refine R_cVP (pc := 4)  (As := []) (S := [vI l2_1]) ck_M_415 (dc k_M_layRows 4 rfl) ⟨rfl, ⟨_, rfl, rfl⟩, (lb rfl), (Nat.le_trans (lb rfl) hn)⟩ (lb rfl) (lb rfl) (lb rfl) rfl (ct_M_rowMany hE hn (Z_bind hz)) (fun r_10 hz => ?_)
  refine R_icmp_ge (pc := 7) 82 (dc k_M_layRows 5 rfl) rfl (fun hc => ?_) (fun hc => ?_)
  · have hz := Z_neg (show ¬ (n32 l2_1 < n32 r_10) from (Int.not_lt.mpr hc)) hz
    refine R_sub [] rfl ?_
    exact hX_5 _ (hB_8 _ (Z_some hz))
  · have hz := Z_pos (show n32 l2_1 < n32 r_10 from (Int.not_le.mp hc)) hz
    refine R_aload_n (pc := 10) 0 (dc k_M_layRows 6 rfl) rfl rfl ?_
    refine R_getS (pc := 11) (ci := 10) (k := 19) 92 (dc k_M_layRows 7 rfl) fl_M_46 rfl (lb rfl) (Nat.le_trans (lb rfl) hn) (hE 81 (lb rfl) (lb rfl)) rfl (by decide) rfl ?_
    refine R_bipush (pc := 14) (a := 12) (dc k_M_layRows 8 rfl) (by decide) ?_
    refine R_aload_n (pc := 16) 0 (dc k_M_layRows 9 rfl) rfl rfl ?_
    refine R_getI (pc := 17) (ci := 10) (k := 38) (dc k_M_layRows 10 rfl) fl_M_304 rfl (lb rfl) (Nat.le_trans (lb rfl) hn) rfl (Or.inl rfl) ?_
    refine R_imul (pc := 20) (dc k_M_layRows 11 rfl) ?_
    refine R_iload_n (pc := 21) 2 (dc k_M_layRows 12 rfl) rfl rfl ?_
    refine R_iadd (pc := 22) (dc k_M_layRows 13 rfl) ?_
    obtain ⟨⟨hg_11, hg_12⟩, hz⟩ := Z_chk hz
    refine R_zald (pc := 23) (dc k_M_layRows 14 rfl) rfl (lb rfl) (Nat.le_trans (lb rfl) hn) hg_11 hg_12 ?_
    refine R_iload_n (pc := 24) 1 (dc k_M_layRows 15 rfl) rfl rfl ?_
    obtain ⟨K_14, hK_15, hz⟩ := Z_cut hz
    have hJ_16 : ∀ (M_13 : Mem), K_14 M_13 → Rr y_M_layRows (4, 93, n, n, E) (qV K) 76 [(0, vR 81), (1, vI thinkingOnes), (2, vI l2_1)] [] E n M_13 := by
      intro M_13 hk
      have hz := hK_15 _ hk
      obtain ⟨l2_38, hl2_38, hz⟩ := Z_lt hz
      refine R_iincE (pc := 76) (L' := [(2, vI l2_38), (0, vR 81), (1, vI thinkingOnes)]) 2 (dc k_M_layRows 44 rfl) rfl (lb rfl) hl2_38 rfl ?_
      refine R_goto (pc := 79) 2 (dc k_M_layRows 45 rfl) rfl ?_
      refine R_sub [1, 2, 0] rfl ?_
      exact hC_7 _ (Z_some hz)
    refine R_icmp_eq (pc := 25) 31 (dc k_M_layRows 16 rfl) rfl (fun hc => ?_) (fun hc => ?_)
    · have hz := Z_neg (show ¬ (¬ n32 (M_2 92 (Int.toNat ((12 * (M_2 81 38)) + l2_1))) = n32 thinkingOnes) from (fun z => z hc)) hz
      refine R_aload_n (pc := 31) 0 (dc k_M_layRows 18 rfl) rfl rfl ?_
      refine R_bipush (pc := 32) (a := 17) (dc k_M_layRows 19 rfl) (by decide) ?_
      refine R_aload_n (pc := 34) 0 (dc k_M_layRows 20 rfl) rfl rfl ?_
      refine R_getI (pc := 35) (ci := 10) (k := 38) (dc k_M_layRows 21 rfl) fl_M_304 rfl (lb rfl) (Nat.le_trans (lb rfl) hn) rfl (Or.inl rfl) ?_
      refine R_imul (pc := 38) (dc k_M_layRows 22 rfl) ?_
      refine R_iload_n (pc := 39) 2 (dc k_M_layRows 23 rfl) rfl rfl ?_
      refine R_iadd (pc := 40) (dc k_M_layRows 24 rfl) ?_
      refine R_cVV (pc := 41)  (As := [vI ((17 * (M_2 81 38)) + l2_1)]) (S := []) ck_M_441 (dc k_M_layRows 25 rfl) ⟨rfl, ⟨_, rfl, rfl⟩, (lb rfl), (Nat.le_trans (lb rfl) hn)⟩ (lb rfl) (lb rfl) (lb rfl) rfl (ct_M_layColumn hE hn (Z_bind hz)) (fun M_17 hz => ?_)
      refine R_iconst (pc := 44) (a := 0) (dc k_M_layRows 26 rfl) ?_
      refine R_istore_n (pc := 45) (L' := [(3, vI 0), (0, vR 81), (1, vI thinkingOnes), (2, vI l2_1)]) (dc k_M_layRows 27 rfl) rfl (lb rfl) rfl ?_
      obtain ⟨K_20, hK_21, hz⟩ := Z_cut hz
      have hX_22 : ∀ (M_26 : Mem), K_20 M_26 → Rr y_M_layRows (4, 93, n, n, E) (qV K) 76 [(0, vR 81), (1, vI thinkingOnes), (2, vI l2_1)] [] E n M_26 := by
        intro M_26 hk
        have hz := hK_21 _ hk
        exact hJ_16 _ (Z_some hz)
      refine R_sub [1, 2, 3, 0] rfl ?_
      refine it_R (C := fun aZ : Int × Mem => Rr y_M_layRows (4, 93, n, n, E) (qV K) 46 [(0, vR 81), (1, vI thinkingOnes), (2, vI l2_1), (3, vI aZ.1)] [] E n aZ.2) (fun aZ K_23 hC_24 hB_25 hz => ?_) FUEL (0, M_17) hz
      obtain ⟨l3_18, M_19⟩ := aZ
      rw [M_layRows_b46] at hz
      show Rr y_M_layRows (4, 93, n, n, E) (qV K) 46 [(0, vR 81), (1, vI thinkingOnes), (2, vI l2_1), (3, vI l3_18)] [] E n M_19
      refine R_iload_n (pc := 46) 3 (dc k_M_layRows 28 rfl) rfl rfl ?_
      refine R_aload_n (pc := 47) 0 (dc k_M_layRows 29 rfl) rfl rfl ?_
      refine R_cVP (pc := 48)  (As := []) (S := [vI l3_18]) ck_M_427 (dc k_M_layRows 30 rfl) ⟨rfl, ⟨_, rfl, rfl⟩, (lb rfl), (Nat.le_trans (lb rfl) hn)⟩ (lb rfl) (lb rfl) (lb rfl) rfl (ct_M_worldMany hE hn (Z_bind hz)) (fun r_27 hz => ?_)
      refine R_icmp_ge (pc := 51) 76 (dc k_M_layRows 31 rfl) rfl (fun hc => ?_) (fun hc => ?_)
      · have hz := Z_neg (show ¬ (n32 l3_18 < n32 r_27) from (Int.not_lt.mpr hc)) hz
        refine R_sub [0, 1, 2] rfl ?_
        exact hX_22 _ (hB_25 _ (Z_some hz))
      · have hz := Z_pos (show n32 l3_18 < n32 r_27 from (Int.not_le.mp hc)) hz
        refine R_aload_n (pc := 54) 0 (dc k_M_layRows 32 rfl) rfl rfl ?_
        refine R_getS (pc := 55) (ci := 10) (k := 47) 112 (dc k_M_layRows 33 rfl) fl_M_107 rfl (lb rfl) (Nat.le_trans (lb rfl) hn) (hE 81 (lb rfl) (lb rfl)) rfl (by decide) rfl ?_
        refine R_iload_n (pc := 58) 2 (dc k_M_layRows 34 rfl) rfl rfl ?_
        refine R_iload_n (pc := 59) 3 (dc k_M_layRows 35 rfl) rfl rfl ?_
        refine R_cSP (pc := 60)  (As := [vI l2_1, vI l3_18]) (S := [vR 112]) ck_M_430 (dc k_M_layRows 36 rfl) (lb rfl) (lb rfl) (lb rfl) rfl (ct_M_spot hE hn (Z_bind hz)) (fun r_28 hz => ?_)
        refine R_aload_n (pc := 63) 0 (dc k_M_layRows 37 rfl) rfl rfl ?_
        refine R_getS (pc := 64) (ci := 10) (k := 48) 113 (dc k_M_layRows 38 rfl) fl_M_110 rfl (lb rfl) (Nat.le_trans (lb rfl) hn) (hE 81 (lb rfl) (lb rfl)) rfl (by decide) rfl ?_
        refine R_iload_n (pc := 67) 3 (dc k_M_layRows 39 rfl) rfl rfl ?_
        obtain ⟨⟨hg_29, hg_30⟩, hz⟩ := Z_chk hz
        refine R_zald (pc := 68) (dc k_M_layRows 40 rfl) rfl (lb rfl) (Nat.le_trans (lb rfl) hn) hg_29 hg_30 ?_
        obtain ⟨⟨hg_31, hg_32⟩, hz⟩ := Z_chk hz
        obtain ⟨hg_33, hz⟩ := Z_chk hz
        obtain ⟨M_34, hM_34, hz⟩ := Z_lt hz
        refine R_zastE (pc := 69) (dc k_M_layRows 41 rfl) rfl (lb rfl) (Nat.le_trans (lb rfl) hn) hg_31 hg_32 hg_33 hM_34 ?_
        obtain ⟨l3_35, hl3_35, hz⟩ := Z_lt hz
        refine R_iincE (pc := 70) (L' := [(3, vI l3_35), (0, vR 81), (1, vI thinkingOnes), (2, vI l2_1)]) 3 (dc k_M_layRows 42 rfl) rfl (lb rfl) hl3_35 rfl ?_
        refine R_goto (pc := 73) 46 (dc k_M_layRows 43 rfl) rfl ?_
        refine R_sub [1, 2, 3, 0] rfl ?_
        exact hC_24 _ (Z_some hz)
    · have hz := Z_pos (show ¬ n32 (M_2 92 (Int.toNat ((12 * (M_2 81 38)) + l2_1))) = n32 thinkingOnes from hc) hz
      refine R_goto (pc := 28) 76 (dc k_M_layRows 17 rfl) rfl ?_
      exact hJ_16 _ (Z_some hz)

set_option maxRecDepth 20000 in
theorem ct_M_personMany {E : Nat → Bool} {n : Nat} (hE : ∀ c, 81 ≤ c → c ≤ 138 → E c = true) (hn : 138 ≤ n) {M : Mem} {K : Int → Prop} (hz : Z (M_personMany M) K) : Mt y_M_personMany (0, 0, n, n, E) E [vR 81] M (qP M K) := by
  refine Mt.of (by decide) (lb rfl) (Nat.le_refl _) rfl ?_
  rw [M_personMany] at hz
  show Rr y_M_personMany (0, 0, n, n, E) (qP M K) 0 [(0, vR 81)] [] E n M
  refine R_aload_n (pc := 0) 0 (dc k_M_personMany 0 rfl) rfl rfl ?_
  refine R_getS (pc := 1) (ci := 10) (k := 12) 85 (dc k_M_personMany 1 rfl) fl_M_24 rfl (lb rfl) (Nat.le_trans (lb rfl) hn) (hE 81 (lb rfl) (lb rfl)) rfl (by decide) rfl ?_
  refine R_aload_n (pc := 4) 0 (dc k_M_personMany 2 rfl) rfl rfl ?_
  refine R_getI (pc := 5) (ci := 10) (k := 38) (dc k_M_personMany 3 rfl) fl_M_304 rfl (lb rfl) (Nat.le_trans (lb rfl) hn) rfl (Or.inl rfl) ?_
  obtain ⟨⟨hg_1, hg_2⟩, hz⟩ := Z_chk hz
  refine R_iald (pc := 8) (dc k_M_personMany 4 rfl) rfl (lb rfl) (Nat.le_trans (lb rfl) hn) hg_1 hg_2 ?_
  exact R_iret (pc := 9) (dc k_M_personMany 5 rfl) rfl rfl rfl ⟨_, rfl, rfl, (Z_some hz)⟩

set_option maxRecDepth 20000 in
theorem ct_M_answerOf {E : Nat → Bool} {n : Nat} (hE : ∀ c, 81 ≤ c → c ≤ 138 → E c = true) (hn : 138 ≤ n) {p : Int} {r : Int} {w : Int} {M : Mem} {K : Int → Prop} (hz : Z (M_answerOf p r w M) K) : Mt y_M_answerOf (2, 40, n, n, E) E [vR 81, vI p, vI r, vI w] M (qP M K) := by
  refine Mt.of (by decide) (lb rfl) (Nat.le_refl _) rfl ?_
  rw [M_answerOf] at hz
  show Rr y_M_answerOf (2, 40, n, n, E) (qP M K) 0 [(0, vR 81), (1, vI p), (2, vI r), (3, vI w)] [] E n M
  refine R_aload_n (pc := 0) 0 (dc k_M_answerOf 0 rfl) rfl rfl ?_
  refine R_getS (pc := 1) (ci := 10) (k := 24) 97 (dc k_M_answerOf 1 rfl) fl_M_62 rfl (lb rfl) (Nat.le_trans (lb rfl) hn) (hE 81 (lb rfl) (lb rfl)) rfl (by decide) rfl ?_
  refine R_bipush (pc := 4) (a := 8) (dc k_M_answerOf 2 rfl) (by decide) ?_
  refine R_aload_n (pc := 6) 0 (dc k_M_answerOf 3 rfl) rfl rfl ?_
  refine R_getI (pc := 7) (ci := 10) (k := 38) (dc k_M_answerOf 4 rfl) fl_M_304 rfl (lb rfl) (Nat.le_trans (lb rfl) hn) rfl (Or.inl rfl) ?_
  refine R_imul (pc := 10) (dc k_M_answerOf 5 rfl) ?_
  refine R_iload_n (pc := 11) 1 (dc k_M_answerOf 6 rfl) rfl rfl ?_
  refine R_iadd (pc := 12) (dc k_M_answerOf 7 rfl) ?_
  obtain ⟨⟨hg_1, hg_2⟩, hz⟩ := Z_chk hz
  refine R_iald (pc := 13) (dc k_M_answerOf 8 rfl) rfl (lb rfl) (Nat.le_trans (lb rfl) hn) hg_1 hg_2 ?_
  obtain ⟨l4_3, hl4_3, hz⟩ := Z_lt hz
  refine R_istoreE (pc := 14) (L' := [(4, vI l4_3), (0, vR 81), (1, vI p), (2, vI r), (3, vI w)]) (dc k_M_answerOf 9 rfl) (lb rfl) hl4_3 rfl ?_
  refine R_iconst (pc := 16) (a := 0) (dc k_M_answerOf 10 rfl) ?_
  refine R_istore (pc := 17) (L' := [(5, vI 0), (4, vI l4_3), (0, vR 81), (1, vI p), (2, vI r), (3, vI w)]) (dc k_M_answerOf 11 rfl) (lb rfl) rfl ?_
  refine R_iconst (pc := 19) (a := 1) (dc k_M_answerOf 12 rfl) ?_
  refine R_istore (pc := 20) (L' := [(6, vI 1), (5, vI 0), (4, vI l4_3), (0, vR 81), (1, vI p), (2, vI r), (3, vI w)]) (dc k_M_answerOf 13 rfl) (lb rfl) rfl ?_
  refine R_iconst (pc := 22) (a := 0) (dc k_M_answerOf 14 rfl) ?_
  refine R_istore (pc := 23) (L' := [(7, vI 0), (6, vI 1), (5, vI 0), (4, vI l4_3), (0, vR 81), (1, vI p), (2, vI r), (3, vI w)]) (dc k_M_answerOf 15 rfl) (lb rfl) rfl ?_
  obtain ⟨K_7, hK_8, hz⟩ := Z_cut hz
  have hX_9 : ∀ (l5_13 : Int) (l6_14 : Int), K_7 (l5_13, l6_14) → Rr y_M_answerOf (2, 40, n, n, E) (qP M K) 115 [(5, vI l5_13), (6, vI l6_14)] [] E n M := by
    intro l5_13 l6_14 hk
    have hz := hK_8 _ hk
    refine R_iload (pc := 115) 1 (dc k_M_answerOf 60 rfl) rfl ?_
    refine R_if_eq (pc := 117) 124 (dc k_M_answerOf 61 rfl) rfl (fun hc => ?_) (fun hc => ?_)
    · have hz := Z_neg (show ¬ (¬ n32 l6_14 = 0) from (fun z => z hc)) hz
      refine R_iload (pc := 124) 0 (dc k_M_answerOf 64 rfl) rfl ?_
      refine R_if_eq (pc := 126) 133 (dc k_M_answerOf 65 rfl) rfl (fun hc => ?_) (fun hc => ?_)
      · have hz := Z_neg (show ¬ (¬ n32 l5_13 = 0) from (fun z => z hc)) hz
        refine R_iconst (pc := 133) (a := 0) (dc k_M_answerOf 68 rfl) ?_
        exact R_iret (pc := 134) (dc k_M_answerOf 69 rfl) rfl rfl rfl ⟨_, rfl, rfl, (Z_some hz)⟩
      · have hz := Z_pos (show ¬ n32 l5_13 = 0 from hc) hz
        refine R_iconst (pc := 129) (a := 2) (dc k_M_answerOf 66 rfl) ?_
        refine R_goto (pc := 130) 134 (dc k_M_answerOf 67 rfl) rfl ?_
        exact R_iret (pc := 134) (dc k_M_answerOf 69 rfl) rfl rfl rfl ⟨_, rfl, rfl, (Z_some hz)⟩
    · have hz := Z_pos (show ¬ n32 l6_14 = 0 from hc) hz
      refine R_iconst (pc := 120) (a := 1) (dc k_M_answerOf 62 rfl) ?_
      refine R_goto (pc := 121) 134 (dc k_M_answerOf 63 rfl) rfl ?_
      exact R_iret (pc := 134) (dc k_M_answerOf 69 rfl) rfl rfl rfl ⟨_, rfl, rfl, (Z_some hz)⟩
  refine R_sub [4, 6, 7, 3, 2, 1, 0] rfl ?_
  refine it_R (C := fun aZ : Int × Int × Int => Rr y_M_answerOf (2, 40, n, n, E) (qP M K) 25 [(0, vR 81), (2, vI r), (3, vI w), (4, vI l4_3), (5, vI aZ.1), (6, vI aZ.2.1), (7, vI aZ.2.2)] [] E n M) (fun aZ K_10 hC_11 hB_12 hz => ?_) FUEL (0, 1, 0) hz
  obtain ⟨l5_4, l6_5, l7_6⟩ := aZ
  rw [M_answerOf_b25] at hz
  show Rr y_M_answerOf (2, 40, n, n, E) (qP M K) 25 [(0, vR 81), (2, vI r), (3, vI w), (4, vI l4_3), (5, vI l5_4), (6, vI l6_5), (7, vI l7_6)] [] E n M
  refine R_iload (pc := 25) 6 (dc k_M_answerOf 16 rfl) rfl ?_
  refine R_aload_n (pc := 27) 0 (dc k_M_answerOf 17 rfl) rfl rfl ?_
  refine R_cVP (pc := 28)  (As := []) (S := [vI l7_6]) ck_M_427 (dc k_M_answerOf 18 rfl) ⟨rfl, ⟨_, rfl, rfl⟩, (lb rfl), (Nat.le_trans (lb rfl) hn)⟩ (lb rfl) (lb rfl) (lb rfl) rfl (ct_M_worldMany hE hn (Z_bind hz)) (fun r_15 hz => ?_)
  refine R_icmp_ge (pc := 31) 115 (dc k_M_answerOf 19 rfl) rfl (fun hc => ?_) (fun hc => ?_)
  · have hz := Z_neg (show ¬ (n32 l7_6 < n32 r_15) from (Int.not_lt.mpr hc)) hz
    refine R_sub [4, 5] rfl ?_
    exact hX_9 _ _ (hB_12 _ (Z_some hz))
  · have hz := Z_pos (show n32 l7_6 < n32 r_15 from (Int.not_le.mp hc)) hz
    refine R_aload_n (pc := 34) 0 (dc k_M_answerOf 20 rfl) rfl rfl ?_
    refine R_getS (pc := 35) (ci := 10) (k := 46) 111 (dc k_M_answerOf 21 rfl) fl_M_104 rfl (lb rfl) (Nat.le_trans (lb rfl) hn) (hE 81 (lb rfl) (lb rfl)) rfl (by decide) rfl ?_
    refine R_iload (pc := 38) 6 (dc k_M_answerOf 22 rfl) rfl ?_
    obtain ⟨⟨hg_16, hg_17⟩, hz⟩ := Z_chk hz
    refine R_zald (pc := 40) (dc k_M_answerOf 23 rfl) rfl (lb rfl) (Nat.le_trans (lb rfl) hn) hg_16 hg_17 ?_
    obtain ⟨K_20, hK_21, hz⟩ := Z_cut hz
    have hJ_22 : ∀ (l5_18 : Int) (l6_19 : Int), K_20 (l5_18, l6_19) → Rr y_M_answerOf (2, 40, n, n, E) (qP M K) 109 [(0, vR 81), (2, vI r), (3, vI w), (4, vI l4_3), (5, vI l5_18), (6, vI l6_19), (7, vI l7_6)] [] E n M := by
      intro l5_18 l6_19 hk
      have hz := hK_21 _ hk
      obtain ⟨l7_49, hl7_49, hz⟩ := Z_lt hz
      refine R_iincE (pc := 109) (L' := [(7, vI l7_49), (0, vR 81), (2, vI r), (3, vI w), (4, vI l4_3), (5, vI l5_18), (6, vI l6_19)]) 6 (dc k_M_answerOf 58 rfl) rfl (lb rfl) hl7_49 rfl ?_
      refine R_goto (pc := 112) 25 (dc k_M_answerOf 59 rfl) rfl ?_
      refine R_sub [1, 2, 3, 4, 5, 6, 0] rfl ?_
      exact hC_11 _ (Z_some hz)
    refine R_if_eq (pc := 41) 109 (dc k_M_answerOf 24 rfl) rfl (fun hc => ?_) (fun hc => ?_)
    · have hz := Z_neg (show ¬ (¬ n32 (M 111 (Int.toNat l7_6)) = 0) from (fun z => z hc)) hz
      exact hJ_22 _ _ (Z_some hz)
    · have hz := Z_pos (show ¬ n32 (M 111 (Int.toNat l7_6)) = 0 from hc) hz
      refine R_iload (pc := 44) 6 (dc k_M_answerOf 25 rfl) rfl ?_
      refine R_iload_n (pc := 46) 2 (dc k_M_answerOf 26 rfl) rfl rfl ?_
      refine R_ixor (pc := 47) (dc k_M_answerOf 27 rfl) ?_
      refine R_iload (pc := 48) 3 (dc k_M_answerOf 28 rfl) rfl ?_
      refine R_iand (pc := 50) (dc k_M_answerOf 29 rfl) ?_
      refine R_if_eq (pc := 51) 57 (dc k_M_answerOf 30 rfl) rfl (fun hc => ?_) (fun hc => ?_)
      · have hz := Z_neg (show ¬ (¬ n32 (iand (ixor' l7_6 w) l4_3) = 0) from (fun z => z hc)) hz
        refine R_iload (pc := 57) 4 (dc k_M_answerOf 32 rfl) rfl ?_
        obtain ⟨K_24, hK_25, hz⟩ := Z_cut hz
        have hJ_26 : ∀ (v_23 : Int), K_24 v_23 → Rr y_M_answerOf (2, 40, n, n, E) (qP M K) 81 [(0, vR 81), (2, vI r), (3, vI w), (4, vI l4_3), (6, vI l6_5), (7, vI l7_6)] [vI v_23] E n M := by
          intro v_23 hk
          have hz := hK_25 _ hk
          refine R_istore (pc := 81) (L' := [(5, vI v_23), (0, vR 81), (2, vI r), (3, vI w), (4, vI l4_3), (6, vI l6_5), (7, vI l7_6)]) (dc k_M_answerOf 44 rfl) (lb rfl) rfl ?_
          refine R_iload (pc := 83) 5 (dc k_M_answerOf 45 rfl) rfl ?_
          obtain ⟨K_36, hK_37, hz⟩ := Z_cut hz
          have hJ_38 : ∀ (v_35 : Int), K_36 v_35 → Rr y_M_answerOf (2, 40, n, n, E) (qP M K) 107 [(0, vR 81), (2, vI r), (3, vI w), (4, vI l4_3), (5, vI v_23), (7, vI l7_6)] [vI v_35] E n M := by
            intro v_35 hk
            have hz := hK_37 _ hk
            refine R_istore (pc := 107) (L' := [(6, vI v_35), (0, vR 81), (2, vI r), (3, vI w), (4, vI l4_3), (5, vI v_23), (7, vI l7_6)]) (dc k_M_answerOf 57 rfl) (lb rfl) rfl ?_
            refine R_sub [1, 2, 3, 4, 5, 0, 6] rfl ?_
            exact hJ_22 _ _ (Z_some hz)
          obtain ⟨K_39, hK_40, hz⟩ := Z_cut hz
          have hX_41 : K_39 true → Rr y_M_answerOf (2, 40, n, n, E) (qP M K) 102 [(5, vI v_23), (0, vR 81), (2, vI r), (3, vI w), (4, vI l4_3), (6, vI l6_5), (7, vI l7_6)] [] E n M := by
            intro hk
            have hz := Z_pos rfl (hK_40 _ hk)
            refine R_iconst (pc := 102) (a := 1) (dc k_M_answerOf 54 rfl) ?_
            refine R_goto (pc := 103) 107 (dc k_M_answerOf 55 rfl) rfl ?_
            refine R_sub [1, 2, 3, 4, 0, 6] rfl ?_
            exact hJ_38 _ (Z_some hz)
          have hY_42 : K_39 false → Rr y_M_answerOf (2, 40, n, n, E) (qP M K) 106 [(5, vI v_23), (0, vR 81), (2, vI r), (3, vI w), (4, vI l4_3), (6, vI l6_5), (7, vI l7_6)] [] E n M := by
            intro hk
            have hz := Z_neg Bool.false_ne_true (hK_40 _ hk)
            refine R_iconst (pc := 106) (a := 0) (dc k_M_answerOf 56 rfl) ?_
            refine R_sub [1, 2, 3, 4, 0, 6] rfl ?_
            exact hJ_38 _ (Z_some hz)
          refine R_if_eq (pc := 85) 106 (dc k_M_answerOf 46 rfl) rfl (fun hc => ?_) (fun hc => ?_)
          · have hz := Z_neg (show ¬ (¬ n32 l6_5 = 0) from (fun z => z hc)) hz
            exact hY_42 (Z_some hz)
          · have hz := Z_pos (show ¬ n32 l6_5 = 0 from hc) hz
            refine R_aload_n (pc := 88) 1 (dc k_M_answerOf 47 rfl) rfl rfl ?_
            refine R_getS (pc := 89) (ci := 10) (k := 47) 112 (dc k_M_answerOf 48 rfl) fl_M_107 rfl (lb rfl) (Nat.le_trans (lb rfl) hn) (hE 81 (lb rfl) (lb rfl)) rfl (by decide) rfl ?_
            refine R_iload_n (pc := 92) 2 (dc k_M_answerOf 49 rfl) rfl rfl ?_
            refine R_iload (pc := 93) 6 (dc k_M_answerOf 50 rfl) rfl ?_
            refine R_cSP (pc := 95)  (As := [vI r, vI l7_6]) (S := [vR 112]) ck_M_430 (dc k_M_answerOf 51 rfl) (lb rfl) (lb rfl) (lb rfl) rfl (ct_M_spot hE hn (Z_bind hz)) (fun r_44 hz => ?_)
            obtain ⟨⟨hg_45, hg_46⟩, hz⟩ := Z_chk hz
            refine R_zald (pc := 98) (dc k_M_answerOf 52 rfl) rfl (lb rfl) (Nat.le_trans (lb rfl) hn) hg_45 hg_46 ?_
            refine R_if_eq (pc := 99) 106 (dc k_M_answerOf 53 rfl) rfl (fun hc => ?_) (fun hc => ?_)
            · have hz := Z_neg (show ¬ (¬ n32 (M 112 (Int.toNat r_44)) = 0) from (fun z => z hc)) hz
              exact hY_42 (Z_some hz)
            · have hz := Z_pos (show ¬ n32 (M 112 (Int.toNat r_44)) = 0 from hc) hz
              exact hX_41 (Z_some hz)
        obtain ⟨K_27, hK_28, hz⟩ := Z_cut hz
        have hX_29 : K_27 true → Rr y_M_answerOf (2, 40, n, n, E) (qP M K) 76 [(0, vR 81), (2, vI r), (3, vI w), (4, vI l4_3), (5, vI l5_4), (6, vI l6_5), (7, vI l7_6)] [] E n M := by
          intro hk
          have hz := Z_pos rfl (hK_28 _ hk)
          refine R_iconst (pc := 76) (a := 1) (dc k_M_answerOf 41 rfl) ?_
          refine R_goto (pc := 77) 81 (dc k_M_answerOf 42 rfl) rfl ?_
          refine R_sub [0, 1, 2, 3, 5, 6] rfl ?_
          exact hJ_26 _ (Z_some hz)
        have hY_30 : K_27 false → Rr y_M_answerOf (2, 40, n, n, E) (qP M K) 80 [(0, vR 81), (2, vI r), (3, vI w), (4, vI l4_3), (5, vI l5_4), (6, vI l6_5), (7, vI l7_6)] [] E n M := by
          intro hk
          have hz := Z_neg Bool.false_ne_true (hK_28 _ hk)
          refine R_iconst (pc := 80) (a := 0) (dc k_M_answerOf 43 rfl) ?_
          refine R_sub [0, 1, 2, 3, 5, 6] rfl ?_
          exact hJ_26 _ (Z_some hz)
        refine R_if_ne (pc := 59) 76 (dc k_M_answerOf 33 rfl) rfl (fun hc => ?_) (fun hc => ?_)
        · have hz := Z_neg (show ¬ (n32 l5_4 = 0) from hc) hz
          exact hX_29 (Z_some hz)
        · have hz := Z_pos (show n32 l5_4 = 0 from (Decidable.not_not.mp hc)) hz
          refine R_aload_n (pc := 62) 0 (dc k_M_answerOf 34 rfl) rfl rfl ?_
          refine R_getS (pc := 63) (ci := 10) (k := 47) 112 (dc k_M_answerOf 35 rfl) fl_M_107 rfl (lb rfl) (Nat.le_trans (lb rfl) hn) (hE 81 (lb rfl) (lb rfl)) rfl (by decide) rfl ?_
          refine R_iload_n (pc := 66) 1 (dc k_M_answerOf 36 rfl) rfl rfl ?_
          refine R_iload (pc := 67) 6 (dc k_M_answerOf 37 rfl) rfl ?_
          refine R_cSP (pc := 69)  (As := [vI r, vI l7_6]) (S := [vR 112]) ck_M_430 (dc k_M_answerOf 38 rfl) (lb rfl) (lb rfl) (lb rfl) rfl (ct_M_spot hE hn (Z_bind hz)) (fun r_32 hz => ?_)
          obtain ⟨⟨hg_33, hg_34⟩, hz⟩ := Z_chk hz
          refine R_zald (pc := 72) (dc k_M_answerOf 39 rfl) rfl (lb rfl) (Nat.le_trans (lb rfl) hn) hg_33 hg_34 ?_
          refine R_if_eq (pc := 73) 80 (dc k_M_answerOf 40 rfl) rfl (fun hc => ?_) (fun hc => ?_)
          · have hz := Z_neg (show ¬ (¬ n32 (M 112 (Int.toNat r_32)) = 0) from (fun z => z hc)) hz
            exact hY_30 (Z_some hz)
          · have hz := Z_pos (show ¬ n32 (M 112 (Int.toNat r_32)) = 0 from hc) hz
            exact hX_29 (Z_some hz)
      · have hz := Z_pos (show ¬ n32 (iand (ixor' l7_6 w) l4_3) = 0 from hc) hz
        refine R_goto (pc := 54) 109 (dc k_M_answerOf 31 rfl) rfl ?_
        exact hJ_22 _ _ (Z_some hz)

set_option maxRecDepth 20000 in
theorem ct_M_layWorlds {E : Nat → Bool} {n : Nat} (hE : ∀ c, 81 ≤ c → c ≤ 138 → E c = true) (hn : 138 ≤ n) {M : Mem} {K : Mem → Prop} (hz : Z (M_layWorlds M) K) : Mt y_M_layWorlds (5, 116, n, n, E) E [vR 81] M (qV K) := by
  refine Mt.of (by decide) (lb rfl) (Nat.le_refl _) rfl ?_
  rw [M_layWorlds] at hz
  show Rr y_M_layWorlds (5, 116, n, n, E) (qV K) 0 [(0, vR 81)] [] E n M
  refine R_iconst (pc := 0) (a := 0) (dc k_M_layWorlds 0 rfl) ?_
  refine R_istore_n (pc := 1) (L' := [(1, vI 0), (0, vR 81)]) (dc k_M_layWorlds 1 rfl) rfl (lb rfl) rfl ?_
  obtain ⟨K_3, hK_4, hz⟩ := Z_cut hz
  have hX_5 : ∀ (M_9 : Mem), K_3 M_9 → Rr y_M_layWorlds (5, 116, n, n, E) (qV K) 34 [(0, vR 81)] [] E n M_9 := by
    intro M_9 hk
    have hz := hK_4 _ hk
    refine R_aload_n (pc := 34) 0 (dc k_M_layWorlds 18 rfl) rfl rfl ?_
    refine R_iconst (pc := 35) (a := 0) (dc k_M_layWorlds 19 rfl) ?_
    refine R_cVV (pc := 36)  (As := [vI 0]) (S := []) ck_M_445 (dc k_M_layWorlds 20 rfl) ⟨rfl, ⟨_, rfl, rfl⟩, (lb rfl), (Nat.le_trans (lb rfl) hn)⟩ (lb rfl) (lb rfl) (lb rfl) rfl (ct_M_layRows hE hn (Z_bind hz)) (fun M_22 hz => ?_)
    refine R_iconst (pc := 39) (a := 0) (dc k_M_layWorlds 21 rfl) ?_
    refine R_istore_n (pc := 40) (L' := [(1, vI 0), (0, vR 81)]) (dc k_M_layWorlds 22 rfl) rfl (lb rfl) rfl ?_
    obtain ⟨K_25, hK_26, hz⟩ := Z_cut hz
    have hX_27 : ∀ (M_31 : Mem), K_25 M_31 → Rr y_M_layWorlds (5, 116, n, n, E) (qV K) 121 [(0, vR 81)] [] E n M_31 := by
      intro M_31 hk
      have hz := hK_26 _ hk
      refine R_aload_n (pc := 121) 0 (dc k_M_layWorlds 67 rfl) rfl rfl ?_
      refine R_iconst (pc := 122) (a := 1) (dc k_M_layWorlds 68 rfl) ?_
      refine R_cVV (pc := 123)  (As := [vI 1]) (S := []) ck_M_445 (dc k_M_layWorlds 69 rfl) ⟨rfl, ⟨_, rfl, rfl⟩, (lb rfl), (Nat.le_trans (lb rfl) hn)⟩ (lb rfl) (lb rfl) (lb rfl) rfl (ct_M_layRows hE hn (Z_bind hz)) (fun M_64 hz => ?_)
      refine R_iconst (pc := 126) (a := 0) (dc k_M_layWorlds 70 rfl) ?_
      refine R_istore_n (pc := 127) (L' := [(1, vI 0), (0, vR 81)]) (dc k_M_layWorlds 71 rfl) rfl (lb rfl) rfl ?_
      obtain ⟨K_67, hK_68, hz⟩ := Z_cut hz
      have hX_69 : ∀ (M_73 : Mem), K_67 M_73 → Rr y_M_layWorlds (5, 116, n, n, E) (qV K) 207 [] [] E n M_73 := by
        intro M_73 hk
        have hz := hK_68 _ hk
        exact R_vret (pc := 207) (dc k_M_layWorlds 116 rfl) rfl rfl rfl ⟨rfl, (Z_some hz)⟩
      refine R_sub [1, 0] rfl ?_
      refine it_R (C := fun aZ : Int × Mem => Rr y_M_layWorlds (5, 116, n, n, E) (qV K) 128 [(0, vR 81), (1, vI aZ.1)] [] E n aZ.2) (fun aZ K_70 hC_71 hB_72 hz => ?_) FUEL (0, M_64) hz
      obtain ⟨l1_65, M_66⟩ := aZ
      rw [M_layWorlds_b128] at hz
      show Rr y_M_layWorlds (5, 116, n, n, E) (qV K) 128 [(0, vR 81), (1, vI l1_65)] [] E n M_66
      refine R_iload_n (pc := 128) 1 (dc k_M_layWorlds 72 rfl) rfl rfl ?_
      refine R_aload_n (pc := 129) 0 (dc k_M_layWorlds 73 rfl) rfl rfl ?_
      refine R_cVP (pc := 130)  (As := []) (S := [vI l1_65]) ck_M_421 (dc k_M_layWorlds 74 rfl) ⟨rfl, ⟨_, rfl, rfl⟩, (lb rfl), (Nat.le_trans (lb rfl) hn)⟩ (lb rfl) (lb rfl) (lb rfl) rfl (ct_M_personMany hE hn (Z_bind hz)) (fun r_74 hz => ?_)
      refine R_icmp_ge (pc := 133) 207 (dc k_M_layWorlds 75 rfl) rfl (fun hc => ?_) (fun hc => ?_)
      · have hz := Z_neg (show ¬ (n32 l1_65 < n32 r_74) from (Int.not_lt.mpr hc)) hz
        refine R_sub [] rfl ?_
        exact hX_69 _ (hB_72 _ (Z_some hz))
      · have hz := Z_pos (show n32 l1_65 < n32 r_74 from (Int.not_le.mp hc)) hz
        refine R_iconst (pc := 136) (a := 0) (dc k_M_layWorlds 76 rfl) ?_
        refine R_istore_n (pc := 137) (L' := [(2, vI 0), (0, vR 81), (1, vI l1_65)]) (dc k_M_layWorlds 77 rfl) rfl (lb rfl) rfl ?_
        obtain ⟨K_77, hK_78, hz⟩ := Z_cut hz
        have hX_79 : ∀ (M_83 : Mem), K_77 M_83 → Rr y_M_layWorlds (5, 116, n, n, E) (qV K) 201 [(0, vR 81), (1, vI l1_65)] [] E n M_83 := by
          intro M_83 hk
          have hz := hK_78 _ hk
          obtain ⟨l1_110, hl1_110, hz⟩ := Z_lt hz
          refine R_iincE (pc := 201) (L' := [(1, vI l1_110), (0, vR 81)]) 1 (dc k_M_layWorlds 114 rfl) rfl (lb rfl) hl1_110 rfl ?_
          refine R_goto (pc := 204) 128 (dc k_M_layWorlds 115 rfl) rfl ?_
          refine R_sub [1, 0] rfl ?_
          exact hC_71 _ (Z_some hz)
        refine R_sub [1, 2, 0] rfl ?_
        refine it_R (C := fun aZ : Int × Mem => Rr y_M_layWorlds (5, 116, n, n, E) (qV K) 138 [(0, vR 81), (1, vI l1_65), (2, vI aZ.1)] [] E n aZ.2) (fun aZ K_80 hC_81 hB_82 hz => ?_) FUEL (0, M_66) hz
        obtain ⟨l2_75, M_76⟩ := aZ
        rw [M_layWorlds_b138] at hz
        show Rr y_M_layWorlds (5, 116, n, n, E) (qV K) 138 [(0, vR 81), (1, vI l1_65), (2, vI l2_75)] [] E n M_76
        refine R_iload_n (pc := 138) 2 (dc k_M_layWorlds 78 rfl) rfl rfl ?_
        refine R_aload_n (pc := 139) 0 (dc k_M_layWorlds 79 rfl) rfl rfl ?_
        refine R_cVP (pc := 140)  (As := []) (S := [vI l2_75]) ck_M_415 (dc k_M_layWorlds 80 rfl) ⟨rfl, ⟨_, rfl, rfl⟩, (lb rfl), (Nat.le_trans (lb rfl) hn)⟩ (lb rfl) (lb rfl) (lb rfl) rfl (ct_M_rowMany hE hn (Z_bind hz)) (fun r_84 hz => ?_)
        refine R_icmp_ge (pc := 143) 201 (dc k_M_layWorlds 81 rfl) rfl (fun hc => ?_) (fun hc => ?_)
        · have hz := Z_neg (show ¬ (n32 l2_75 < n32 r_84) from (Int.not_lt.mpr hc)) hz
          refine R_sub [0, 1] rfl ?_
          exact hX_79 _ (hB_82 _ (Z_some hz))
        · have hz := Z_pos (show n32 l2_75 < n32 r_84 from (Int.not_le.mp hc)) hz
          refine R_iconst (pc := 146) (a := 0) (dc k_M_layWorlds 82 rfl) ?_
          refine R_istore_n (pc := 147) (L' := [(3, vI 0), (0, vR 81), (1, vI l1_65), (2, vI l2_75)]) (dc k_M_layWorlds 83 rfl) rfl (lb rfl) rfl ?_
          obtain ⟨K_87, hK_88, hz⟩ := Z_cut hz
          have hX_89 : ∀ (M_93 : Mem), K_87 M_93 → Rr y_M_layWorlds (5, 116, n, n, E) (qV K) 195 [(0, vR 81), (1, vI l1_65), (2, vI l2_75)] [] E n M_93 := by
            intro M_93 hk
            have hz := hK_88 _ hk
            obtain ⟨l2_108, hl2_108, hz⟩ := Z_lt hz
            refine R_iincE (pc := 195) (L' := [(2, vI l2_108), (0, vR 81), (1, vI l1_65)]) 2 (dc k_M_layWorlds 112 rfl) rfl (lb rfl) hl2_108 rfl ?_
            refine R_goto (pc := 198) 138 (dc k_M_layWorlds 113 rfl) rfl ?_
            refine R_sub [1, 2, 0] rfl ?_
            exact hC_81 _ (Z_some hz)
          refine R_sub [1, 2, 3, 0] rfl ?_
          refine it_R (C := fun aZ : Int × Mem => Rr y_M_layWorlds (5, 116, n, n, E) (qV K) 148 [(0, vR 81), (1, vI l1_65), (2, vI l2_75), (3, vI aZ.1)] [] E n aZ.2) (fun aZ K_90 hC_91 hB_92 hz => ?_) FUEL (0, M_76) hz
          obtain ⟨l3_85, M_86⟩ := aZ
          rw [M_layWorlds_b148] at hz
          show Rr y_M_layWorlds (5, 116, n, n, E) (qV K) 148 [(0, vR 81), (1, vI l1_65), (2, vI l2_75), (3, vI l3_85)] [] E n M_86
          refine R_iload_n (pc := 148) 3 (dc k_M_layWorlds 84 rfl) rfl rfl ?_
          refine R_aload_n (pc := 149) 0 (dc k_M_layWorlds 85 rfl) rfl rfl ?_
          refine R_cVP (pc := 150)  (As := []) (S := [vI l3_85]) ck_M_427 (dc k_M_layWorlds 86 rfl) ⟨rfl, ⟨_, rfl, rfl⟩, (lb rfl), (Nat.le_trans (lb rfl) hn)⟩ (lb rfl) (lb rfl) (lb rfl) rfl (ct_M_worldMany hE hn (Z_bind hz)) (fun r_94 hz => ?_)
          refine R_icmp_ge (pc := 153) 195 (dc k_M_layWorlds 87 rfl) rfl (fun hc => ?_) (fun hc => ?_)
          · have hz := Z_neg (show ¬ (n32 l3_85 < n32 r_94) from (Int.not_lt.mpr hc)) hz
            refine R_sub [0, 1, 2] rfl ?_
            exact hX_89 _ (hB_92 _ (Z_some hz))
          · have hz := Z_pos (show n32 l3_85 < n32 r_94 from (Int.not_le.mp hc)) hz
            refine R_aload_n (pc := 156) 0 (dc k_M_layWorlds 88 rfl) rfl rfl ?_
            refine R_getS (pc := 157) (ci := 10) (k := 46) 111 (dc k_M_layWorlds 89 rfl) fl_M_104 rfl (lb rfl) (Nat.le_trans (lb rfl) hn) (hE 81 (lb rfl) (lb rfl)) rfl (by decide) rfl ?_
            refine R_iload_n (pc := 160) 3 (dc k_M_layWorlds 90 rfl) rfl rfl ?_
            obtain ⟨⟨hg_95, hg_96⟩, hz⟩ := Z_chk hz
            refine R_zald (pc := 161) (dc k_M_layWorlds 91 rfl) rfl (lb rfl) (Nat.le_trans (lb rfl) hn) hg_95 hg_96 ?_
            obtain ⟨K_98, hK_99, hz⟩ := Z_cut hz
            have hJ_100 : ∀ (M_97 : Mem), K_98 M_97 → Rr y_M_layWorlds (5, 116, n, n, E) (qV K) 189 [(0, vR 81), (1, vI l1_65), (2, vI l2_75), (3, vI l3_85)] [] E n M_97 := by
              intro M_97 hk
              have hz := hK_99 _ hk
              obtain ⟨l3_106, hl3_106, hz⟩ := Z_lt hz
              refine R_iincE (pc := 189) (L' := [(3, vI l3_106), (0, vR 81), (1, vI l1_65), (2, vI l2_75)]) 3 (dc k_M_layWorlds 110 rfl) rfl (lb rfl) hl3_106 rfl ?_
              refine R_goto (pc := 192) 148 (dc k_M_layWorlds 111 rfl) rfl ?_
              refine R_sub [1, 2, 3, 0] rfl ?_
              exact hC_91 _ (Z_some hz)
            refine R_if_eq (pc := 162) 189 (dc k_M_layWorlds 92 rfl) rfl (fun hc => ?_) (fun hc => ?_)
            · have hz := Z_neg (show ¬ (¬ n32 (M_86 111 (Int.toNat l3_85)) = 0) from (fun z => z hc)) hz
              exact hJ_100 _ (Z_some hz)
            · have hz := Z_pos (show ¬ n32 (M_86 111 (Int.toNat l3_85)) = 0 from hc) hz
              refine R_aload_n (pc := 165) 0 (dc k_M_layWorlds 93 rfl) rfl rfl ?_
              refine R_getS (pc := 166) (ci := 10) (k := 49) 114 (dc k_M_layWorlds 94 rfl) fl_M_113 rfl (lb rfl) (Nat.le_trans (lb rfl) hn) (hE 81 (lb rfl) (lb rfl)) rfl (by decide) rfl ?_
              refine R_sipush (pc := 169) (a := 256) (dc k_M_layWorlds 95 rfl) (by decide) ?_
              refine R_bipush (pc := 172) (a := 12) (dc k_M_layWorlds 96 rfl) (by decide) ?_
              refine R_iload_n (pc := 174) 1 (dc k_M_layWorlds 97 rfl) rfl rfl ?_
              refine R_imul (pc := 175) (dc k_M_layWorlds 98 rfl) ?_
              refine R_iload_n (pc := 176) 2 (dc k_M_layWorlds 99 rfl) rfl rfl ?_
              refine R_iadd (pc := 177) (dc k_M_layWorlds 100 rfl) ?_
              refine R_imul (pc := 178) (dc k_M_layWorlds 101 rfl) ?_
              refine R_iload_n (pc := 179) 3 (dc k_M_layWorlds 102 rfl) rfl rfl ?_
              refine R_iadd (pc := 180) (dc k_M_layWorlds 103 rfl) ?_
              refine R_aload_n (pc := 181) 0 (dc k_M_layWorlds 104 rfl) rfl rfl ?_
              refine R_iload_n (pc := 182) 1 (dc k_M_layWorlds 105 rfl) rfl rfl ?_
              refine R_iload_n (pc := 183) 2 (dc k_M_layWorlds 106 rfl) rfl rfl ?_
              refine R_iload_n (pc := 184) 3 (dc k_M_layWorlds 107 rfl) rfl rfl ?_
              refine R_cVP (pc := 185)  (As := [vI l1_65, vI l2_75, vI l3_85]) (S := [vI ((256 * ((12 * l1_65) + l2_75)) + l3_85), vR 114]) ck_M_448 (dc k_M_layWorlds 108 rfl) ⟨rfl, ⟨_, rfl, rfl⟩, (lb rfl), (Nat.le_trans (lb rfl) hn)⟩ (lb rfl) (lb rfl) (lb rfl) rfl (ct_M_answerOf hE hn (Z_bind hz)) (fun r_101 hz => ?_)
              obtain ⟨⟨hg_102, hg_103⟩, hz⟩ := Z_chk hz
              obtain ⟨M_104, hM_104, hz⟩ := Z_lt hz
              refine R_iastE (pc := 188) (dc k_M_layWorlds 109 rfl) rfl (lb rfl) (Nat.le_trans (lb rfl) hn) hg_102 hg_103 hM_104 ?_
              exact hJ_100 _ (Z_some hz)
    refine R_sub [1, 0] rfl ?_
    refine it_R (C := fun aZ : Int × Mem => Rr y_M_layWorlds (5, 116, n, n, E) (qV K) 41 [(0, vR 81), (1, vI aZ.1)] [] E n aZ.2) (fun aZ K_28 hC_29 hB_30 hz => ?_) FUEL (0, M_22) hz
    obtain ⟨l1_23, M_24⟩ := aZ
    rw [M_layWorlds_b41] at hz
    show Rr y_M_layWorlds (5, 116, n, n, E) (qV K) 41 [(0, vR 81), (1, vI l1_23)] [] E n M_24
    refine R_iload_n (pc := 41) 1 (dc k_M_layWorlds 23 rfl) rfl rfl ?_
    refine R_aload_n (pc := 42) 0 (dc k_M_layWorlds 24 rfl) rfl rfl ?_
    refine R_getS (pc := 43) (ci := 10) (k := 14) 87 (dc k_M_layWorlds 25 rfl) fl_M_30 rfl (lb rfl) (Nat.le_trans (lb rfl) hn) (hE 81 (lb rfl) (lb rfl)) rfl (by decide) rfl ?_
    refine R_aload_n (pc := 46) 0 (dc k_M_layWorlds 26 rfl) rfl rfl ?_
    refine R_getI (pc := 47) (ci := 10) (k := 38) (dc k_M_layWorlds 27 rfl) fl_M_304 rfl (lb rfl) (Nat.le_trans (lb rfl) hn) rfl (Or.inl rfl) ?_
    obtain ⟨⟨hg_32, hg_33⟩, hz⟩ := Z_chk hz
    refine R_iald (pc := 50) (dc k_M_layWorlds 28 rfl) rfl (lb rfl) (Nat.le_trans (lb rfl) hn) hg_32 hg_33 ?_
    refine R_icmp_ge (pc := 51) 121 (dc k_M_layWorlds 29 rfl) rfl (fun hc => ?_) (fun hc => ?_)
    · have hz := Z_neg (show ¬ (n32 l1_23 < n32 (M_24 87 (Int.toNat (M_24 81 38)))) from (Int.not_lt.mpr hc)) hz
      refine R_sub [0] rfl ?_
      exact hX_27 _ (hB_30 _ (Z_some hz))
    · have hz := Z_pos (show n32 l1_23 < n32 (M_24 87 (Int.toNat (M_24 81 38))) from (Int.not_le.mp hc)) hz
      refine R_aload_n (pc := 54) 0 (dc k_M_layWorlds 30 rfl) rfl rfl ?_
      refine R_bipush (pc := 55) (a := 17) (dc k_M_layWorlds 31 rfl) (by decide) ?_
      refine R_aload_n (pc := 57) 0 (dc k_M_layWorlds 32 rfl) rfl rfl ?_
      refine R_getI (pc := 58) (ci := 10) (k := 38) (dc k_M_layWorlds 33 rfl) fl_M_304 rfl (lb rfl) (Nat.le_trans (lb rfl) hn) rfl (Or.inl rfl) ?_
      refine R_imul (pc := 61) (dc k_M_layWorlds 34 rfl) ?_
      refine R_bipush (pc := 62) (a := 12) (dc k_M_layWorlds 35 rfl) (by decide) ?_
      refine R_iadd (pc := 64) (dc k_M_layWorlds 36 rfl) ?_
      refine R_iload_n (pc := 65) 1 (dc k_M_layWorlds 37 rfl) rfl rfl ?_
      refine R_iadd (pc := 66) (dc k_M_layWorlds 38 rfl) ?_
      refine R_cVV (pc := 67)  (As := [vI (((17 * (M_24 81 38)) + 12) + l1_23)]) (S := []) ck_M_441 (dc k_M_layWorlds 39 rfl) ⟨rfl, ⟨_, rfl, rfl⟩, (lb rfl), (Nat.le_trans (lb rfl) hn)⟩ (lb rfl) (lb rfl) (lb rfl) rfl (ct_M_layColumn hE hn (Z_bind hz)) (fun M_34 hz => ?_)
      refine R_iconst (pc := 70) (a := 0) (dc k_M_layWorlds 40 rfl) ?_
      refine R_istore_n (pc := 71) (L' := [(2, vI 0), (0, vR 81), (1, vI l1_23)]) (dc k_M_layWorlds 41 rfl) rfl (lb rfl) rfl ?_
      obtain ⟨K_37, hK_38, hz⟩ := Z_cut hz
      have hX_39 : ∀ (M_43 : Mem), K_37 M_43 → Rr y_M_layWorlds (5, 116, n, n, E) (qV K) 115 [(0, vR 81), (1, vI l1_23)] [] E n M_43 := by
        intro M_43 hk
        have hz := hK_38 _ hk
        obtain ⟨l1_62, hl1_62, hz⟩ := Z_lt hz
        refine R_iincE (pc := 115) (L' := [(1, vI l1_62), (0, vR 81)]) 1 (dc k_M_layWorlds 65 rfl) rfl (lb rfl) hl1_62 rfl ?_
        refine R_goto (pc := 118) 41 (dc k_M_layWorlds 66 rfl) rfl ?_
        refine R_sub [1, 0] rfl ?_
        exact hC_29 _ (Z_some hz)
      refine R_sub [1, 2, 0] rfl ?_
      refine it_R (C := fun aZ : Int × Mem => Rr y_M_layWorlds (5, 116, n, n, E) (qV K) 72 [(0, vR 81), (1, vI l1_23), (2, vI aZ.1)] [] E n aZ.2) (fun aZ K_40 hC_41 hB_42 hz => ?_) FUEL (0, M_34) hz
      obtain ⟨l2_35, M_36⟩ := aZ
      rw [M_layWorlds_b72] at hz
      show Rr y_M_layWorlds (5, 116, n, n, E) (qV K) 72 [(0, vR 81), (1, vI l1_23), (2, vI l2_35)] [] E n M_36
      refine R_iload_n (pc := 72) 2 (dc k_M_layWorlds 42 rfl) rfl rfl ?_
      refine R_aload_n (pc := 73) 0 (dc k_M_layWorlds 43 rfl) rfl rfl ?_
      refine R_cVP (pc := 74)  (As := []) (S := [vI l2_35]) ck_M_427 (dc k_M_layWorlds 44 rfl) ⟨rfl, ⟨_, rfl, rfl⟩, (lb rfl), (Nat.le_trans (lb rfl) hn)⟩ (lb rfl) (lb rfl) (lb rfl) rfl (ct_M_worldMany hE hn (Z_bind hz)) (fun r_44 hz => ?_)
      refine R_icmp_ge (pc := 77) 115 (dc k_M_layWorlds 45 rfl) rfl (fun hc => ?_) (fun hc => ?_)
      · have hz := Z_neg (show ¬ (n32 l2_35 < n32 r_44) from (Int.not_lt.mpr hc)) hz
        refine R_sub [0, 1] rfl ?_
        exact hX_39 _ (hB_42 _ (Z_some hz))
      · have hz := Z_pos (show n32 l2_35 < n32 r_44 from (Int.not_le.mp hc)) hz
        refine R_aload_n (pc := 80) 0 (dc k_M_layWorlds 46 rfl) rfl rfl ?_
        refine R_getS (pc := 81) (ci := 10) (k := 46) 111 (dc k_M_layWorlds 47 rfl) fl_M_104 rfl (lb rfl) (Nat.le_trans (lb rfl) hn) (hE 81 (lb rfl) (lb rfl)) rfl (by decide) rfl ?_
        refine R_iload_n (pc := 84) 2 (dc k_M_layWorlds 48 rfl) rfl rfl ?_
        refine R_aload_n (pc := 85) 0 (dc k_M_layWorlds 49 rfl) rfl rfl ?_
        refine R_getS (pc := 86) (ci := 10) (k := 46) 111 (dc k_M_layWorlds 50 rfl) fl_M_104 rfl (lb rfl) (Nat.le_trans (lb rfl) hn) (hE 81 (lb rfl) (lb rfl)) rfl (by decide) rfl ?_
        refine R_iload_n (pc := 89) 2 (dc k_M_layWorlds 51 rfl) rfl rfl ?_
        obtain ⟨⟨hg_45, hg_46⟩, hz⟩ := Z_chk hz
        refine R_zald (pc := 90) (dc k_M_layWorlds 52 rfl) rfl (lb rfl) (Nat.le_trans (lb rfl) hn) hg_45 hg_46 ?_
        obtain ⟨K_48, hK_49, hz⟩ := Z_cut hz
        have hJ_50 : ∀ (v_47 : Int), K_48 v_47 → Rr y_M_layWorlds (5, 116, n, n, E) (qV K) 108 [(0, vR 81), (1, vI l1_23), (2, vI l2_35)] [vI v_47, vI l2_35, vR 111] E n M_36 := by
          intro v_47 hk
          have hz := hK_49 _ hk
          obtain ⟨hg_58, hz⟩ := Z_chk hz
          obtain ⟨M_59, hM_59, hz⟩ := Z_lt hz
          refine R_zastE (pc := 108) (dc k_M_layWorlds 62 rfl) rfl (lb rfl) (Nat.le_trans (lb rfl) hn) hg_45 hg_46 hg_58 hM_59 ?_
          obtain ⟨l2_60, hl2_60, hz⟩ := Z_lt hz
          refine R_iincE (pc := 109) (L' := [(2, vI l2_60), (0, vR 81), (1, vI l1_23)]) 2 (dc k_M_layWorlds 63 rfl) rfl (lb rfl) hl2_60 rfl ?_
          refine R_goto (pc := 112) 72 (dc k_M_layWorlds 64 rfl) rfl ?_
          refine R_sub [1, 2, 0] rfl ?_
          exact hC_41 _ (Z_some hz)
        obtain ⟨K_51, hK_52, hz⟩ := Z_cut hz
        have hX_53 : K_51 true → Rr y_M_layWorlds (5, 116, n, n, E) (qV K) 103 [(0, vR 81), (1, vI l1_23), (2, vI l2_35)] [vI l2_35, vR 111] E n M_36 := by
          intro hk
          have hz := Z_pos rfl (hK_52 _ hk)
          refine R_iconst (pc := 103) (a := 1) (dc k_M_layWorlds 59 rfl) ?_
          refine R_goto (pc := 104) 108 (dc k_M_layWorlds 60 rfl) rfl ?_
          exact hJ_50 _ (Z_some hz)
        have hY_54 : K_51 false → Rr y_M_layWorlds (5, 116, n, n, E) (qV K) 107 [(0, vR 81), (1, vI l1_23), (2, vI l2_35)] [vI l2_35, vR 111] E n M_36 := by
          intro hk
          have hz := Z_neg Bool.false_ne_true (hK_52 _ hk)
          refine R_iconst (pc := 107) (a := 0) (dc k_M_layWorlds 61 rfl) ?_
          exact hJ_50 _ (Z_some hz)
        refine R_if_eq (pc := 91) 107 (dc k_M_layWorlds 53 rfl) rfl (fun hc => ?_) (fun hc => ?_)
        · have hz := Z_neg (show ¬ (¬ n32 (M_36 111 (Int.toNat l2_35)) = 0) from (fun z => z hc)) hz
          exact hY_54 (Z_some hz)
        · have hz := Z_pos (show ¬ n32 (M_36 111 (Int.toNat l2_35)) = 0 from hc) hz
          refine R_aload_n (pc := 94) 0 (dc k_M_layWorlds 54 rfl) rfl rfl ?_
          refine R_getS (pc := 95) (ci := 10) (k := 48) 113 (dc k_M_layWorlds 55 rfl) fl_M_110 rfl (lb rfl) (Nat.le_trans (lb rfl) hn) (hE 81 (lb rfl) (lb rfl)) rfl (by decide) rfl ?_
          refine R_iload_n (pc := 98) 2 (dc k_M_layWorlds 56 rfl) rfl rfl ?_
          obtain ⟨⟨hg_56, hg_57⟩, hz⟩ := Z_chk hz
          refine R_zald (pc := 99) (dc k_M_layWorlds 57 rfl) rfl (lb rfl) (Nat.le_trans (lb rfl) hn) hg_56 hg_57 ?_
          refine R_if_eq (pc := 100) 107 (dc k_M_layWorlds 58 rfl) rfl (fun hc => ?_) (fun hc => ?_)
          · have hz := Z_neg (show ¬ (¬ n32 (M_36 113 (Int.toNat l2_35)) = 0) from (fun z => z hc)) hz
            exact hY_54 (Z_some hz)
          · have hz := Z_pos (show ¬ n32 (M_36 113 (Int.toNat l2_35)) = 0 from hc) hz
            exact hX_53 (Z_some hz)
  refine R_sub [1, 0] rfl ?_
  refine it_R (C := fun aZ : Int × Mem => Rr y_M_layWorlds (5, 116, n, n, E) (qV K) 2 [(0, vR 81), (1, vI aZ.1)] [] E n aZ.2) (fun aZ K_6 hC_7 hB_8 hz => ?_) FUEL (0, M) hz
  obtain ⟨l1_1, M_2⟩ := aZ
  rw [M_layWorlds_b2] at hz
  show Rr y_M_layWorlds (5, 116, n, n, E) (qV K) 2 [(0, vR 81), (1, vI l1_1)] [] E n M_2
  refine R_iload_n (pc := 2) 1 (dc k_M_layWorlds 2 rfl) rfl rfl ?_
  refine R_sipush (pc := 3) (a := 256) (dc k_M_layWorlds 3 rfl) (by decide) ?_
  refine R_icmp_ge (pc := 6) 34 (dc k_M_layWorlds 4 rfl) rfl (fun hc => ?_) (fun hc => ?_)
  · have hz := Z_neg (show ¬ (n32 l1_1 < 256) from (Int.not_lt.mpr hc)) hz
    refine R_sub [0] rfl ?_
    exact hX_5 _ (hB_8 _ (Z_some hz))
  · have hz := Z_pos (show n32 l1_1 < 256 from (Int.not_le.mp hc)) hz
    refine R_aload_n (pc := 9) 0 (dc k_M_layWorlds 5 rfl) rfl rfl ?_
    refine R_getS (pc := 10) (ci := 10) (k := 46) 111 (dc k_M_layWorlds 6 rfl) fl_M_104 rfl (lb rfl) (Nat.le_trans (lb rfl) hn) (hE 81 (lb rfl) (lb rfl)) rfl (by decide) rfl ?_
    refine R_iload_n (pc := 13) 1 (dc k_M_layWorlds 7 rfl) rfl rfl ?_
    refine R_iload_n (pc := 14) 1 (dc k_M_layWorlds 8 rfl) rfl rfl ?_
    refine R_aload_n (pc := 15) 0 (dc k_M_layWorlds 9 rfl) rfl rfl ?_
    refine R_cVP (pc := 16)  (As := []) (S := [vI l1_1, vI l1_1, vR 111]) ck_M_427 (dc k_M_layWorlds 10 rfl) ⟨rfl, ⟨_, rfl, rfl⟩, (lb rfl), (Nat.le_trans (lb rfl) hn)⟩ (lb rfl) (lb rfl) (lb rfl) rfl (ct_M_worldMany hE hn (Z_bind hz)) (fun r_10 hz => ?_)
    obtain ⟨K_12, hK_13, hz⟩ := Z_cut hz
    have hJ_14 : ∀ (v_11 : Int), K_12 v_11 → Rr y_M_layWorlds (5, 116, n, n, E) (qV K) 27 [(0, vR 81), (1, vI l1_1)] [vI v_11, vI l1_1, vR 111] E n M_2 := by
      intro v_11 hk
      have hz := hK_13 _ hk
      obtain ⟨⟨hg_16, hg_17⟩, hz⟩ := Z_chk hz
      obtain ⟨hg_18, hz⟩ := Z_chk hz
      obtain ⟨M_19, hM_19, hz⟩ := Z_lt hz
      refine R_zastE (pc := 27) (dc k_M_layWorlds 15 rfl) rfl (lb rfl) (Nat.le_trans (lb rfl) hn) hg_16 hg_17 hg_18 hM_19 ?_
      obtain ⟨l1_20, hl1_20, hz⟩ := Z_lt hz
      refine R_iincE (pc := 28) (L' := [(1, vI l1_20), (0, vR 81)]) 1 (dc k_M_layWorlds 16 rfl) rfl (lb rfl) hl1_20 rfl ?_
      refine R_goto (pc := 31) 2 (dc k_M_layWorlds 17 rfl) rfl ?_
      refine R_sub [1, 0] rfl ?_
      exact hC_7 _ (Z_some hz)
    refine R_icmp_ge (pc := 19) 26 (dc k_M_layWorlds 11 rfl) rfl (fun hc => ?_) (fun hc => ?_)
    · have hz := Z_neg (show ¬ (n32 l1_1 < n32 r_10) from (Int.not_lt.mpr hc)) hz
      refine R_iconst (pc := 26) (a := 0) (dc k_M_layWorlds 14 rfl) ?_
      exact hJ_14 _ (Z_some hz)
    · have hz := Z_pos (show n32 l1_1 < n32 r_10 from (Int.not_le.mp hc)) hz
      refine R_iconst (pc := 22) (a := 1) (dc k_M_layWorlds 12 rfl) ?_
      refine R_goto (pc := 23) 27 (dc k_M_layWorlds 13 rfl) rfl ?_
      exact hJ_14 _ (Z_some hz)

set_option maxRecDepth 20000 in
theorem ct_M_sign {E : Nat → Bool} {n : Nat} (hE : ∀ c, 81 ≤ c → c ≤ 138 → E c = true) (hn : 138 ≤ n) {k : Int} {M : Mem} {K : Int → Prop} (hz : Z (M_sign k M) K) : Mt y_M_sign (0, 0, n, n, E) E [vR 81, vI k] M (qP M K) := by
  refine Mt.of (by decide) (lb rfl) (Nat.le_refl _) rfl ?_
  rw [M_sign] at hz
  show Rr y_M_sign (0, 0, n, n, E) (qP M K) 0 [(0, vR 81), (1, vI k)] [] E n M
  refine R_iload_n (pc := 0) 1 (dc k_M_sign 0 rfl) rfl rfl ?_
  refine R_aload_n (pc := 1) 0 (dc k_M_sign 1 rfl) rfl rfl ?_
  refine R_getI (pc := 2) (ci := 10) (k := 3) (dc k_M_sign 2 rfl) fl_M_194 rfl (lb rfl) (Nat.le_trans (lb rfl) hn) rfl (Or.inl rfl) ?_
  refine R_icmp_ge (pc := 5) 21 (dc k_M_sign 3 rfl) rfl (fun hc => ?_) (fun hc => ?_)
  · have hz := Z_neg (show ¬ (n32 k < n32 (M 81 3)) from (Int.not_lt.mpr hc)) hz
    refine R_iconst (pc := 21) (a := 0) (dc k_M_sign 11 rfl) ?_
    exact R_iret (pc := 22) (dc k_M_sign 12 rfl) rfl rfl rfl ⟨_, rfl, rfl, (Z_some hz)⟩
  · have hz := Z_pos (show n32 k < n32 (M 81 3) from (Int.not_le.mp hc)) hz
    refine R_aload_n (pc := 8) 0 (dc k_M_sign 4 rfl) rfl rfl ?_
    refine R_getS (pc := 9) (ci := 10) (k := 1) 83 (dc k_M_sign 5 rfl) fl_M_13 rfl (lb rfl) (Nat.le_trans (lb rfl) hn) (hE 81 (lb rfl) (lb rfl)) rfl (by decide) rfl ?_
    refine R_iload_n (pc := 12) 1 (dc k_M_sign 6 rfl) rfl rfl ?_
    obtain ⟨⟨hg_1, hg_2⟩, hz⟩ := Z_chk hz
    refine R_bald (pc := 13) (dc k_M_sign 7 rfl) rfl (lb rfl) (Nat.le_trans (lb rfl) hn) hg_1 hg_2 ?_
    refine R_sipush (pc := 14) (a := 255) (dc k_M_sign 8 rfl) (by decide) ?_
    refine R_iand (pc := 17) (dc k_M_sign 9 rfl) ?_
    refine R_goto (pc := 18) 22 (dc k_M_sign 10 rfl) rfl ?_
    exact R_iret (pc := 22) (dc k_M_sign 12 rfl) rfl rfl rfl ⟨_, rfl, rfl, (Z_some hz)⟩

set_option maxRecDepth 20000 in
theorem ct_M_isLetter {E : Nat → Bool} {n : Nat} (hE : ∀ c, 81 ≤ c → c ≤ 138 → E c = true) (hn : 138 ≤ n) {c : Int} {M : Mem} {K : Int → Prop} (hz : Z (M_isLetter c M) K) : Mt y_M_isLetter (0, 0, n, n, E) E [vI c] M (qP M K) := by
  refine Mt.of (by decide) (lb rfl) (Nat.le_refl _) rfl ?_
  rw [M_isLetter] at hz
  show Rr y_M_isLetter (0, 0, n, n, E) (qP M K) 0 [(0, vI c)] [] E n M
  refine R_iload_n (pc := 0) 0 (dc k_M_isLetter 0 rfl) rfl rfl ?_
  refine R_bipush (pc := 1) (a := 97) (dc k_M_isLetter 1 rfl) (by decide) ?_
  have hX_1 : ((97 ≤ n32 c) ∧ (n32 c ≤ 122)) → Rr y_M_isLetter (0, 0, n, n, E) (qP M K) 12 [(0, vI c)] [] E n M := by
    intro hc
    have hz := Z_pos hc hz
    refine R_iconst (pc := 12) (a := 1) (dc k_M_isLetter 6 rfl) ?_
    refine R_goto (pc := 13) 17 (dc k_M_isLetter 7 rfl) rfl ?_
    exact R_zret (pc := 17) (dc k_M_isLetter 9 rfl) rfl (Or.inr rfl) rfl rfl ⟨_, rfl, rfl, (Z_some hz)⟩
  have hY_2 : ¬ ((97 ≤ n32 c) ∧ (n32 c ≤ 122)) → Rr y_M_isLetter (0, 0, n, n, E) (qP M K) 16 [(0, vI c)] [] E n M := by
    intro hc
    have hz := Z_neg hc hz
    refine R_iconst (pc := 16) (a := 0) (dc k_M_isLetter 8 rfl) ?_
    exact R_zret (pc := 17) (dc k_M_isLetter 9 rfl) rfl (Or.inl rfl) rfl rfl ⟨_, rfl, rfl, (Z_some hz)⟩
  refine R_icmp_lt (pc := 3) 16 (dc k_M_isLetter 2 rfl) rfl (fun hc => ?_) (fun hc => ?_)
  · have hc_3 : n32 c < 97 := hc
    exact hY_2 (fun z => (Int.not_le.mpr hc_3) z.1)
  · have hc_4 : 97 ≤ n32 c := (Int.not_lt.mp hc)
    refine R_iload_n (pc := 6) 0 (dc k_M_isLetter 3 rfl) rfl rfl ?_
    refine R_bipush (pc := 7) (a := 122) (dc k_M_isLetter 4 rfl) (by decide) ?_
    refine R_icmp_gt (pc := 9) 16 (dc k_M_isLetter 5 rfl) rfl (fun hc => ?_) (fun hc => ?_)
    · have hc_5 : 122 < n32 c := hc
      exact hY_2 (fun z => (Int.not_le.mpr hc_5) z.2)
    · have hc_6 : n32 c ≤ 122 := (Int.not_lt.mp hc)
      exact hX_1 ⟨hc_4, hc_6⟩

set_option maxRecDepth 20000 in
theorem ct_M_isKept {E : Nat → Bool} {n : Nat} (hE : ∀ c, 81 ≤ c → c ≤ 138 → E c = true) (hn : 138 ≤ n) {v : Int} {M : Mem} {K : Int → Prop} (hz : Z (M_isKept v M) K) : Mt y_M_isKept (0, 0, n, n, E) E [vJ v] M (qP M K) := by
  refine Mt.of (by decide) (lb rfl) (Nat.le_refl _) rfl ?_
  rw [M_isKept] at hz
  show Rr y_M_isKept (0, 0, n, n, E) (qP M K) 0 [(0, vJ v)] [] E n M
  refine R_lload_n (pc := 0) 0 (dc k_M_isKept 0 rfl) rfl rfl ?_
  refine R_ldc2 (pc := 1) (a := 1717658484) (dc k_M_isKept 1 rfl) c_M_200 ?_
  refine R_lcmp (pc := 4) (dc k_M_isKept 2 rfl) ?_
  obtain ⟨K_2, hK_3, hz⟩ := Z_cut hz
  have hJ_4 : ∀ (v_1 : Int), K_2 v_1 → Rr y_M_isKept (0, 0, n, n, E) (qP M K) 85 [(0, vJ v)] [vI v_1] E n M := by
    intro v_1 hk
    have hz := hK_3 _ hk
    refine R_istore_n (pc := 85) (L' := [(2, vI v_1), (0, vJ v)]) (dc k_M_isKept 43 rfl) rfl (lb rfl) rfl ?_
    refine R_iload_n (pc := 86) 0 (dc k_M_isKept 44 rfl) rfl rfl ?_
    have hX_27 : ((¬ n32 v_1 = 0) ∨ ((n64 v = n64 7102839) ∨ ((n64 v = n64 26982) ∨ ((n64 v = n64 28530) ∨ ((n64 v = n64 6385252) ∨ ((n64 v = n64 7237492) ∨ ((n64 v = n64 448545973363) ∨ ((n64 v = n64 127991794264947) ∨ ((n64 v = n64 130220881569139) ∨ ((n64 v = n64 418497262196) ∨ (n64 v = n64 1953064292))))))))))) → Rr y_M_isKept (0, 0, n, n, E) (qP M K) 170 [(2, vI v_1), (0, vJ v)] [] E n M := by
      intro hc
      have hz := Z_pos hc hz
      refine R_iconst (pc := 170) (a := 1) (dc k_M_isKept 86 rfl) ?_
      refine R_goto (pc := 171) 175 (dc k_M_isKept 87 rfl) rfl ?_
      exact R_zret (pc := 175) (dc k_M_isKept 89 rfl) rfl (Or.inr rfl) rfl rfl ⟨_, rfl, rfl, (Z_some hz)⟩
    have hY_28 : ¬ ((¬ n32 v_1 = 0) ∨ ((n64 v = n64 7102839) ∨ ((n64 v = n64 26982) ∨ ((n64 v = n64 28530) ∨ ((n64 v = n64 6385252) ∨ ((n64 v = n64 7237492) ∨ ((n64 v = n64 448545973363) ∨ ((n64 v = n64 127991794264947) ∨ ((n64 v = n64 130220881569139) ∨ ((n64 v = n64 418497262196) ∨ (n64 v = n64 1953064292))))))))))) → Rr y_M_isKept (0, 0, n, n, E) (qP M K) 174 [(2, vI v_1), (0, vJ v)] [] E n M := by
      intro hc
      have hz := Z_neg hc hz
      refine R_iconst (pc := 174) (a := 0) (dc k_M_isKept 88 rfl) ?_
      exact R_zret (pc := 175) (dc k_M_isKept 89 rfl) rfl (Or.inl rfl) rfl rfl ⟨_, rfl, rfl, (Z_some hz)⟩
    refine R_if_ne (pc := 87) 170 (dc k_M_isKept 45 rfl) rfl (fun hc => ?_) (fun hc => ?_)
    · have hc_29 : ¬ n32 v_1 = 0 := hc
      exact hX_27 (Or.inl hc_29)
    · have hc_30 : n32 v_1 = 0 := (Decidable.not_not.mp hc)
      refine R_lload_n (pc := 90) 1 (dc k_M_isKept 46 rfl) rfl rfl ?_
      refine R_ldc2 (pc := 91) (a := 7102839) (dc k_M_isKept 47 rfl) c_M_220 ?_
      refine R_lcmp (pc := 94) (dc k_M_isKept 48 rfl) ?_
      refine R_if_eq (pc := 95) 170 (dc k_M_isKept 49 rfl) rfl (fun hc => ?_) (fun hc => ?_)
      · have hc_31 : n64 v = n64 7102839 := (jcmp_eq.mp hc)
        exact hX_27 (Or.inr (Or.inl hc_31))
      · have hc_32 : ¬ n64 v = n64 7102839 := (fun z => hc (jcmp_eq.mpr z))
        refine R_lload_n (pc := 98) 1 (dc k_M_isKept 50 rfl) rfl rfl ?_
        refine R_ldc2 (pc := 99) (a := 26982) (dc k_M_isKept 51 rfl) c_M_222 ?_
        refine R_lcmp (pc := 102) (dc k_M_isKept 52 rfl) ?_
        refine R_if_eq (pc := 103) 170 (dc k_M_isKept 53 rfl) rfl (fun hc => ?_) (fun hc => ?_)
        · have hc_33 : n64 v = n64 26982 := (jcmp_eq.mp hc)
          exact hX_27 (Or.inr (Or.inr (Or.inl hc_33)))
        · have hc_34 : ¬ n64 v = n64 26982 := (fun z => hc (jcmp_eq.mpr z))
          refine R_lload_n (pc := 106) 1 (dc k_M_isKept 54 rfl) rfl rfl ?_
          refine R_ldc2 (pc := 107) (a := 28530) (dc k_M_isKept 55 rfl) c_M_224 ?_
          refine R_lcmp (pc := 110) (dc k_M_isKept 56 rfl) ?_
          refine R_if_eq (pc := 111) 170 (dc k_M_isKept 57 rfl) rfl (fun hc => ?_) (fun hc => ?_)
          · have hc_35 : n64 v = n64 28530 := (jcmp_eq.mp hc)
            exact hX_27 (Or.inr (Or.inr (Or.inr (Or.inl hc_35))))
          · have hc_36 : ¬ n64 v = n64 28530 := (fun z => hc (jcmp_eq.mpr z))
            refine R_lload_n (pc := 114) 1 (dc k_M_isKept 58 rfl) rfl rfl ?_
            refine R_ldc2 (pc := 115) (a := 6385252) (dc k_M_isKept 59 rfl) c_M_226 ?_
            refine R_lcmp (pc := 118) (dc k_M_isKept 60 rfl) ?_
            refine R_if_eq (pc := 119) 170 (dc k_M_isKept 61 rfl) rfl (fun hc => ?_) (fun hc => ?_)
            · have hc_37 : n64 v = n64 6385252 := (jcmp_eq.mp hc)
              exact hX_27 (Or.inr (Or.inr (Or.inr (Or.inr (Or.inl hc_37)))))
            · have hc_38 : ¬ n64 v = n64 6385252 := (fun z => hc (jcmp_eq.mpr z))
              refine R_lload_n (pc := 122) 1 (dc k_M_isKept 62 rfl) rfl rfl ?_
              refine R_ldc2 (pc := 123) (a := 7237492) (dc k_M_isKept 63 rfl) c_M_228 ?_
              refine R_lcmp (pc := 126) (dc k_M_isKept 64 rfl) ?_
              refine R_if_eq (pc := 127) 170 (dc k_M_isKept 65 rfl) rfl (fun hc => ?_) (fun hc => ?_)
              · have hc_39 : n64 v = n64 7237492 := (jcmp_eq.mp hc)
                exact hX_27 (Or.inr (Or.inr (Or.inr (Or.inr (Or.inr (Or.inl hc_39))))))
              · have hc_40 : ¬ n64 v = n64 7237492 := (fun z => hc (jcmp_eq.mpr z))
                refine R_lload_n (pc := 130) 1 (dc k_M_isKept 66 rfl) rfl rfl ?_
                refine R_ldc2 (pc := 131) (a := 448545973363) (dc k_M_isKept 67 rfl) c_M_230 ?_
                refine R_lcmp (pc := 134) (dc k_M_isKept 68 rfl) ?_
                refine R_if_eq (pc := 135) 170 (dc k_M_isKept 69 rfl) rfl (fun hc => ?_) (fun hc => ?_)
                · have hc_41 : n64 v = n64 448545973363 := (jcmp_eq.mp hc)
                  exact hX_27 (Or.inr (Or.inr (Or.inr (Or.inr (Or.inr (Or.inr (Or.inl hc_41)))))))
                · have hc_42 : ¬ n64 v = n64 448545973363 := (fun z => hc (jcmp_eq.mpr z))
                  refine R_lload_n (pc := 138) 1 (dc k_M_isKept 70 rfl) rfl rfl ?_
                  refine R_ldc2 (pc := 139) (a := 127991794264947) (dc k_M_isKept 71 rfl) c_M_232 ?_
                  refine R_lcmp (pc := 142) (dc k_M_isKept 72 rfl) ?_
                  refine R_if_eq (pc := 143) 170 (dc k_M_isKept 73 rfl) rfl (fun hc => ?_) (fun hc => ?_)
                  · have hc_43 : n64 v = n64 127991794264947 := (jcmp_eq.mp hc)
                    exact hX_27 (Or.inr (Or.inr (Or.inr (Or.inr (Or.inr (Or.inr (Or.inr (Or.inl hc_43))))))))
                  · have hc_44 : ¬ n64 v = n64 127991794264947 := (fun z => hc (jcmp_eq.mpr z))
                    refine R_lload_n (pc := 146) 1 (dc k_M_isKept 74 rfl) rfl rfl ?_
                    refine R_ldc2 (pc := 147) (a := 130220881569139) (dc k_M_isKept 75 rfl) c_M_234 ?_
                    refine R_lcmp (pc := 150) (dc k_M_isKept 76 rfl) ?_
                    refine R_if_eq (pc := 151) 170 (dc k_M_isKept 77 rfl) rfl (fun hc => ?_) (fun hc => ?_)
                    · have hc_45 : n64 v = n64 130220881569139 := (jcmp_eq.mp hc)
                      exact hX_27 (Or.inr (Or.inr (Or.inr (Or.inr (Or.inr (Or.inr (Or.inr (Or.inr (Or.inl hc_45)))))))))
                    · have hc_46 : ¬ n64 v = n64 130220881569139 := (fun z => hc (jcmp_eq.mpr z))
                      refine R_lload_n (pc := 154) 1 (dc k_M_isKept 78 rfl) rfl rfl ?_
                      refine R_ldc2 (pc := 155) (a := 418497262196) (dc k_M_isKept 79 rfl) c_M_236 ?_
                      refine R_lcmp (pc := 158) (dc k_M_isKept 80 rfl) ?_
                      refine R_if_eq (pc := 159) 170 (dc k_M_isKept 81 rfl) rfl (fun hc => ?_) (fun hc => ?_)
                      · have hc_47 : n64 v = n64 418497262196 := (jcmp_eq.mp hc)
                        exact hX_27 (Or.inr (Or.inr (Or.inr (Or.inr (Or.inr (Or.inr (Or.inr (Or.inr (Or.inr (Or.inl hc_47))))))))))
                      · have hc_48 : ¬ n64 v = n64 418497262196 := (fun z => hc (jcmp_eq.mpr z))
                        refine R_lload_n (pc := 162) 1 (dc k_M_isKept 82 rfl) rfl rfl ?_
                        refine R_ldc2 (pc := 163) (a := 1953064292) (dc k_M_isKept 83 rfl) c_M_238 ?_
                        refine R_lcmp (pc := 166) (dc k_M_isKept 84 rfl) ?_
                        refine R_if_ne (pc := 167) 174 (dc k_M_isKept 85 rfl) rfl (fun hc => ?_) (fun hc => ?_)
                        · have hc_49 : ¬ n64 v = n64 1953064292 := (fun z => hc (jcmp_eq.mpr z))
                          exact hY_28 (fun z => z.elim (fun z => z hc_30) (fun z => z.elim hc_32 (fun z => z.elim hc_34 (fun z => z.elim hc_36 (fun z => z.elim hc_38 (fun z => z.elim hc_40 (fun z => z.elim hc_42 (fun z => z.elim hc_44 (fun z => z.elim hc_46 (fun z => z.elim hc_48 hc_49))))))))))
                        · have hc_50 : n64 v = n64 1953064292 := (jcmp_eq.mp (Decidable.not_not.mp hc))
                          exact hX_27 (Or.inr (Or.inr (Or.inr (Or.inr (Or.inr (Or.inr (Or.inr (Or.inr (Or.inr (Or.inr hc_50))))))))))
  have hX_5 : ((n64 v = n64 1717658484) ∨ ((n64 v = n64 123581014175598) ∨ ((n64 v = n64 1668248436) ∨ ((n64 v = n64 461414299507) ∨ ((n64 v = n64 7499639) ∨ ((n64 v = n64 107118487239027) ∨ ((n64 v = n64 7629157) ∨ ((n64 v = n64 482955846501) ∨ ((n64 v = n64 2003399528) ∨ (n64 v = n64 512970880104)))))))))) → Rr y_M_isKept (0, 0, n, n, E) (qP M K) 80 [(0, vJ v)] [] E n M := by
    intro hc
    have hz := Z_pos hc hz
    refine R_iconst (pc := 80) (a := 1) (dc k_M_isKept 40 rfl) ?_
    refine R_goto (pc := 81) 85 (dc k_M_isKept 41 rfl) rfl ?_
    exact hJ_4 _ (Z_some hz)
  have hY_6 : ¬ ((n64 v = n64 1717658484) ∨ ((n64 v = n64 123581014175598) ∨ ((n64 v = n64 1668248436) ∨ ((n64 v = n64 461414299507) ∨ ((n64 v = n64 7499639) ∨ ((n64 v = n64 107118487239027) ∨ ((n64 v = n64 7629157) ∨ ((n64 v = n64 482955846501) ∨ ((n64 v = n64 2003399528) ∨ (n64 v = n64 512970880104)))))))))) → Rr y_M_isKept (0, 0, n, n, E) (qP M K) 84 [(0, vJ v)] [] E n M := by
    intro hc
    have hz := Z_neg hc hz
    refine R_iconst (pc := 84) (a := 0) (dc k_M_isKept 42 rfl) ?_
    exact hJ_4 _ (Z_some hz)
  refine R_if_eq (pc := 5) 80 (dc k_M_isKept 3 rfl) rfl (fun hc => ?_) (fun hc => ?_)
  · have hc_7 : n64 v = n64 1717658484 := (jcmp_eq.mp hc)
    exact hX_5 (Or.inl hc_7)
  · have hc_8 : ¬ n64 v = n64 1717658484 := (fun z => hc (jcmp_eq.mpr z))
    refine R_lload_n (pc := 8) 0 (dc k_M_isKept 4 rfl) rfl rfl ?_
    refine R_ldc2 (pc := 9) (a := 123581014175598) (dc k_M_isKept 5 rfl) c_M_202 ?_
    refine R_lcmp (pc := 12) (dc k_M_isKept 6 rfl) ?_
    refine R_if_eq (pc := 13) 80 (dc k_M_isKept 7 rfl) rfl (fun hc => ?_) (fun hc => ?_)
    · have hc_9 : n64 v = n64 123581014175598 := (jcmp_eq.mp hc)
      exact hX_5 (Or.inr (Or.inl hc_9))
    · have hc_10 : ¬ n64 v = n64 123581014175598 := (fun z => hc (jcmp_eq.mpr z))
      refine R_lload_n (pc := 16) 0 (dc k_M_isKept 8 rfl) rfl rfl ?_
      refine R_ldc2 (pc := 17) (a := 1668248436) (dc k_M_isKept 9 rfl) c_M_204 ?_
      refine R_lcmp (pc := 20) (dc k_M_isKept 10 rfl) ?_
      refine R_if_eq (pc := 21) 80 (dc k_M_isKept 11 rfl) rfl (fun hc => ?_) (fun hc => ?_)
      · have hc_11 : n64 v = n64 1668248436 := (jcmp_eq.mp hc)
        exact hX_5 (Or.inr (Or.inr (Or.inl hc_11)))
      · have hc_12 : ¬ n64 v = n64 1668248436 := (fun z => hc (jcmp_eq.mpr z))
        refine R_lload_n (pc := 24) 0 (dc k_M_isKept 12 rfl) rfl rfl ?_
        refine R_ldc2 (pc := 25) (a := 461414299507) (dc k_M_isKept 13 rfl) c_M_206 ?_
        refine R_lcmp (pc := 28) (dc k_M_isKept 14 rfl) ?_
        refine R_if_eq (pc := 29) 80 (dc k_M_isKept 15 rfl) rfl (fun hc => ?_) (fun hc => ?_)
        · have hc_13 : n64 v = n64 461414299507 := (jcmp_eq.mp hc)
          exact hX_5 (Or.inr (Or.inr (Or.inr (Or.inl hc_13))))
        · have hc_14 : ¬ n64 v = n64 461414299507 := (fun z => hc (jcmp_eq.mpr z))
          refine R_lload_n (pc := 32) 0 (dc k_M_isKept 16 rfl) rfl rfl ?_
          refine R_ldc2 (pc := 33) (a := 7499639) (dc k_M_isKept 17 rfl) c_M_208 ?_
          refine R_lcmp (pc := 36) (dc k_M_isKept 18 rfl) ?_
          refine R_if_eq (pc := 37) 80 (dc k_M_isKept 19 rfl) rfl (fun hc => ?_) (fun hc => ?_)
          · have hc_15 : n64 v = n64 7499639 := (jcmp_eq.mp hc)
            exact hX_5 (Or.inr (Or.inr (Or.inr (Or.inr (Or.inl hc_15)))))
          · have hc_16 : ¬ n64 v = n64 7499639 := (fun z => hc (jcmp_eq.mpr z))
            refine R_lload_n (pc := 40) 0 (dc k_M_isKept 20 rfl) rfl rfl ?_
            refine R_ldc2 (pc := 41) (a := 107118487239027) (dc k_M_isKept 21 rfl) c_M_210 ?_
            refine R_lcmp (pc := 44) (dc k_M_isKept 22 rfl) ?_
            refine R_if_eq (pc := 45) 80 (dc k_M_isKept 23 rfl) rfl (fun hc => ?_) (fun hc => ?_)
            · have hc_17 : n64 v = n64 107118487239027 := (jcmp_eq.mp hc)
              exact hX_5 (Or.inr (Or.inr (Or.inr (Or.inr (Or.inr (Or.inl hc_17))))))
            · have hc_18 : ¬ n64 v = n64 107118487239027 := (fun z => hc (jcmp_eq.mpr z))
              refine R_lload_n (pc := 48) 0 (dc k_M_isKept 24 rfl) rfl rfl ?_
              refine R_ldc2 (pc := 49) (a := 7629157) (dc k_M_isKept 25 rfl) c_M_212 ?_
              refine R_lcmp (pc := 52) (dc k_M_isKept 26 rfl) ?_
              refine R_if_eq (pc := 53) 80 (dc k_M_isKept 27 rfl) rfl (fun hc => ?_) (fun hc => ?_)
              · have hc_19 : n64 v = n64 7629157 := (jcmp_eq.mp hc)
                exact hX_5 (Or.inr (Or.inr (Or.inr (Or.inr (Or.inr (Or.inr (Or.inl hc_19)))))))
              · have hc_20 : ¬ n64 v = n64 7629157 := (fun z => hc (jcmp_eq.mpr z))
                refine R_lload_n (pc := 56) 0 (dc k_M_isKept 28 rfl) rfl rfl ?_
                refine R_ldc2 (pc := 57) (a := 482955846501) (dc k_M_isKept 29 rfl) c_M_214 ?_
                refine R_lcmp (pc := 60) (dc k_M_isKept 30 rfl) ?_
                refine R_if_eq (pc := 61) 80 (dc k_M_isKept 31 rfl) rfl (fun hc => ?_) (fun hc => ?_)
                · have hc_21 : n64 v = n64 482955846501 := (jcmp_eq.mp hc)
                  exact hX_5 (Or.inr (Or.inr (Or.inr (Or.inr (Or.inr (Or.inr (Or.inr (Or.inl hc_21))))))))
                · have hc_22 : ¬ n64 v = n64 482955846501 := (fun z => hc (jcmp_eq.mpr z))
                  refine R_lload_n (pc := 64) 0 (dc k_M_isKept 32 rfl) rfl rfl ?_
                  refine R_ldc2 (pc := 65) (a := 2003399528) (dc k_M_isKept 33 rfl) c_M_216 ?_
                  refine R_lcmp (pc := 68) (dc k_M_isKept 34 rfl) ?_
                  refine R_if_eq (pc := 69) 80 (dc k_M_isKept 35 rfl) rfl (fun hc => ?_) (fun hc => ?_)
                  · have hc_23 : n64 v = n64 2003399528 := (jcmp_eq.mp hc)
                    exact hX_5 (Or.inr (Or.inr (Or.inr (Or.inr (Or.inr (Or.inr (Or.inr (Or.inr (Or.inl hc_23)))))))))
                  · have hc_24 : ¬ n64 v = n64 2003399528 := (fun z => hc (jcmp_eq.mpr z))
                    refine R_lload_n (pc := 72) 0 (dc k_M_isKept 36 rfl) rfl rfl ?_
                    refine R_ldc2 (pc := 73) (a := 512970880104) (dc k_M_isKept 37 rfl) c_M_218 ?_
                    refine R_lcmp (pc := 76) (dc k_M_isKept 38 rfl) ?_
                    refine R_if_ne (pc := 77) 84 (dc k_M_isKept 39 rfl) rfl (fun hc => ?_) (fun hc => ?_)
                    · have hc_25 : ¬ n64 v = n64 512970880104 := (fun z => hc (jcmp_eq.mpr z))
                      exact hY_6 (fun z => z.elim hc_8 (fun z => z.elim hc_10 (fun z => z.elim hc_12 (fun z => z.elim hc_14 (fun z => z.elim hc_16 (fun z => z.elim hc_18 (fun z => z.elim hc_20 (fun z => z.elim hc_22 (fun z => z.elim hc_24 hc_25)))))))))
                    · have hc_26 : n64 v = n64 512970880104 := (jcmp_eq.mp (Decidable.not_not.mp hc))
                      exact hX_5 (Or.inr (Or.inr (Or.inr (Or.inr (Or.inr (Or.inr (Or.inr (Or.inr (Or.inr hc_26)))))))))

set_option maxRecDepth 20000 in
theorem ct_M_isDigit {E : Nat → Bool} {n : Nat} (hE : ∀ c, 81 ≤ c → c ≤ 138 → E c = true) (hn : 138 ≤ n) {c : Int} {M : Mem} {K : Int → Prop} (hz : Z (M_isDigit c M) K) : Mt y_M_isDigit (0, 0, n, n, E) E [vI c] M (qP M K) := by
  refine Mt.of (by decide) (lb rfl) (Nat.le_refl _) rfl ?_
  rw [M_isDigit] at hz
  show Rr y_M_isDigit (0, 0, n, n, E) (qP M K) 0 [(0, vI c)] [] E n M
  refine R_iload_n (pc := 0) 0 (dc k_M_isDigit 0 rfl) rfl rfl ?_
  refine R_bipush (pc := 1) (a := 48) (dc k_M_isDigit 1 rfl) (by decide) ?_
  have hX_1 : ((48 ≤ n32 c) ∧ (n32 c ≤ 57)) → Rr y_M_isDigit (0, 0, n, n, E) (qP M K) 12 [(0, vI c)] [] E n M := by
    intro hc
    have hz := Z_pos hc hz
    refine R_iconst (pc := 12) (a := 1) (dc k_M_isDigit 6 rfl) ?_
    refine R_goto (pc := 13) 17 (dc k_M_isDigit 7 rfl) rfl ?_
    exact R_zret (pc := 17) (dc k_M_isDigit 9 rfl) rfl (Or.inr rfl) rfl rfl ⟨_, rfl, rfl, (Z_some hz)⟩
  have hY_2 : ¬ ((48 ≤ n32 c) ∧ (n32 c ≤ 57)) → Rr y_M_isDigit (0, 0, n, n, E) (qP M K) 16 [(0, vI c)] [] E n M := by
    intro hc
    have hz := Z_neg hc hz
    refine R_iconst (pc := 16) (a := 0) (dc k_M_isDigit 8 rfl) ?_
    exact R_zret (pc := 17) (dc k_M_isDigit 9 rfl) rfl (Or.inl rfl) rfl rfl ⟨_, rfl, rfl, (Z_some hz)⟩
  refine R_icmp_lt (pc := 3) 16 (dc k_M_isDigit 2 rfl) rfl (fun hc => ?_) (fun hc => ?_)
  · have hc_3 : n32 c < 48 := hc
    exact hY_2 (fun z => (Int.not_le.mpr hc_3) z.1)
  · have hc_4 : 48 ≤ n32 c := (Int.not_lt.mp hc)
    refine R_iload_n (pc := 6) 0 (dc k_M_isDigit 3 rfl) rfl rfl ?_
    refine R_bipush (pc := 7) (a := 57) (dc k_M_isDigit 4 rfl) (by decide) ?_
    refine R_icmp_gt (pc := 9) 16 (dc k_M_isDigit 5 rfl) rfl (fun hc => ?_) (fun hc => ?_)
    · have hc_5 : 57 < n32 c := hc
      exact hY_2 (fun z => (Int.not_le.mpr hc_5) z.2)
    · have hc_6 : n32 c ≤ 57 := (Int.not_lt.mp hc)
      exact hX_1 ⟨hc_4, hc_6⟩

set_option maxRecDepth 20000 in
theorem ct_M_isSign {E : Nat → Bool} {n : Nat} (hE : ∀ c, 81 ≤ c → c ≤ 138 → E c = true) (hn : 138 ≤ n) {c : Int} {M : Mem} {K : Int → Prop} (hz : Z (M_isSign c M) K) : Mt y_M_isSign (0, 0, n, n, E) E [vI c] M (qP M K) := by
  refine Mt.of (by decide) (lb rfl) (Nat.le_refl _) rfl ?_
  rw [M_isSign] at hz
  show Rr y_M_isSign (0, 0, n, n, E) (qP M K) 0 [(0, vI c)] [] E n M
  refine R_iload_n (pc := 0) 0 (dc k_M_isSign 0 rfl) rfl rfl ?_
  refine R_bipush (pc := 1) (a := 59) (dc k_M_isSign 1 rfl) (by decide) ?_
  have hX_1 : ((n32 c = 59) ∨ ((n32 c = 40) ∨ ((n32 c = 41) ∨ ((n32 c = 60) ∨ ((n32 c = 62) ∨ ((n32 c = 61) ∨ ((n32 c = 43) ∨ (n32 c = 45)))))))) → Rr y_M_isSign (0, 0, n, n, E) (qP M K) 48 [(0, vI c)] [] E n M := by
    intro hc
    have hz := Z_pos hc hz
    refine R_iconst (pc := 48) (a := 1) (dc k_M_isSign 24 rfl) ?_
    refine R_goto (pc := 49) 53 (dc k_M_isSign 25 rfl) rfl ?_
    exact R_zret (pc := 53) (dc k_M_isSign 27 rfl) rfl (Or.inr rfl) rfl rfl ⟨_, rfl, rfl, (Z_some hz)⟩
  have hY_2 : ¬ ((n32 c = 59) ∨ ((n32 c = 40) ∨ ((n32 c = 41) ∨ ((n32 c = 60) ∨ ((n32 c = 62) ∨ ((n32 c = 61) ∨ ((n32 c = 43) ∨ (n32 c = 45)))))))) → Rr y_M_isSign (0, 0, n, n, E) (qP M K) 52 [(0, vI c)] [] E n M := by
    intro hc
    have hz := Z_neg hc hz
    refine R_iconst (pc := 52) (a := 0) (dc k_M_isSign 26 rfl) ?_
    exact R_zret (pc := 53) (dc k_M_isSign 27 rfl) rfl (Or.inl rfl) rfl rfl ⟨_, rfl, rfl, (Z_some hz)⟩
  refine R_icmp_eq (pc := 3) 48 (dc k_M_isSign 2 rfl) rfl (fun hc => ?_) (fun hc => ?_)
  · have hc_3 : n32 c = 59 := hc
    exact hX_1 (Or.inl hc_3)
  · have hc_4 : ¬ n32 c = 59 := hc
    refine R_iload_n (pc := 6) 0 (dc k_M_isSign 3 rfl) rfl rfl ?_
    refine R_bipush (pc := 7) (a := 40) (dc k_M_isSign 4 rfl) (by decide) ?_
    refine R_icmp_eq (pc := 9) 48 (dc k_M_isSign 5 rfl) rfl (fun hc => ?_) (fun hc => ?_)
    · have hc_5 : n32 c = 40 := hc
      exact hX_1 (Or.inr (Or.inl hc_5))
    · have hc_6 : ¬ n32 c = 40 := hc
      refine R_iload_n (pc := 12) 0 (dc k_M_isSign 6 rfl) rfl rfl ?_
      refine R_bipush (pc := 13) (a := 41) (dc k_M_isSign 7 rfl) (by decide) ?_
      refine R_icmp_eq (pc := 15) 48 (dc k_M_isSign 8 rfl) rfl (fun hc => ?_) (fun hc => ?_)
      · have hc_7 : n32 c = 41 := hc
        exact hX_1 (Or.inr (Or.inr (Or.inl hc_7)))
      · have hc_8 : ¬ n32 c = 41 := hc
        refine R_iload_n (pc := 18) 0 (dc k_M_isSign 9 rfl) rfl rfl ?_
        refine R_bipush (pc := 19) (a := 60) (dc k_M_isSign 10 rfl) (by decide) ?_
        refine R_icmp_eq (pc := 21) 48 (dc k_M_isSign 11 rfl) rfl (fun hc => ?_) (fun hc => ?_)
        · have hc_9 : n32 c = 60 := hc
          exact hX_1 (Or.inr (Or.inr (Or.inr (Or.inl hc_9))))
        · have hc_10 : ¬ n32 c = 60 := hc
          refine R_iload_n (pc := 24) 0 (dc k_M_isSign 12 rfl) rfl rfl ?_
          refine R_bipush (pc := 25) (a := 62) (dc k_M_isSign 13 rfl) (by decide) ?_
          refine R_icmp_eq (pc := 27) 48 (dc k_M_isSign 14 rfl) rfl (fun hc => ?_) (fun hc => ?_)
          · have hc_11 : n32 c = 62 := hc
            exact hX_1 (Or.inr (Or.inr (Or.inr (Or.inr (Or.inl hc_11)))))
          · have hc_12 : ¬ n32 c = 62 := hc
            refine R_iload_n (pc := 30) 0 (dc k_M_isSign 15 rfl) rfl rfl ?_
            refine R_bipush (pc := 31) (a := 61) (dc k_M_isSign 16 rfl) (by decide) ?_
            refine R_icmp_eq (pc := 33) 48 (dc k_M_isSign 17 rfl) rfl (fun hc => ?_) (fun hc => ?_)
            · have hc_13 : n32 c = 61 := hc
              exact hX_1 (Or.inr (Or.inr (Or.inr (Or.inr (Or.inr (Or.inl hc_13))))))
            · have hc_14 : ¬ n32 c = 61 := hc
              refine R_iload_n (pc := 36) 0 (dc k_M_isSign 18 rfl) rfl rfl ?_
              refine R_bipush (pc := 37) (a := 43) (dc k_M_isSign 19 rfl) (by decide) ?_
              refine R_icmp_eq (pc := 39) 48 (dc k_M_isSign 20 rfl) rfl (fun hc => ?_) (fun hc => ?_)
              · have hc_15 : n32 c = 43 := hc
                exact hX_1 (Or.inr (Or.inr (Or.inr (Or.inr (Or.inr (Or.inr (Or.inl hc_15)))))))
              · have hc_16 : ¬ n32 c = 43 := hc
                refine R_iload_n (pc := 42) 0 (dc k_M_isSign 21 rfl) rfl rfl ?_
                refine R_bipush (pc := 43) (a := 45) (dc k_M_isSign 22 rfl) (by decide) ?_
                refine R_icmp_ne (pc := 45) 52 (dc k_M_isSign 23 rfl) rfl (fun hc => ?_) (fun hc => ?_)
                · have hc_17 : ¬ n32 c = 45 := hc
                  exact hY_2 (fun z => z.elim hc_4 (fun z => z.elim hc_6 (fun z => z.elim hc_8 (fun z => z.elim hc_10 (fun z => z.elim hc_12 (fun z => z.elim hc_14 (fun z => z.elim hc_16 hc_17)))))))
                · have hc_18 : n32 c = 45 := (Decidable.not_not.mp hc)
                  exact hX_1 (Or.inr (Or.inr (Or.inr (Or.inr (Or.inr (Or.inr (Or.inr hc_18)))))))

set_option maxRecDepth 20000 in
theorem ct_M_goOn {E : Nat → Bool} {n : Nat} (hE : ∀ c, 81 ≤ c → c ≤ 138 → E c = true) (hn : 138 ≤ n) {M : Mem} {K : Mem → Prop} (hz : Z (M_goOn M) K) : Mt y_M_goOn (1, 22, n, n, E) E [vR 81] M (qV K) := by
  refine Mt.of (by decide) (lb rfl) (Nat.le_refl _) rfl ?_
  rw [M_goOn] at hz
  show Rr y_M_goOn (1, 22, n, n, E) (qV K) 0 [(0, vR 81)] [] E n M
  refine R_aload_n (pc := 0) 0 (dc k_M_goOn 0 rfl) rfl rfl ?_
  refine R_aload_n (pc := 1) 0 (dc k_M_goOn 1 rfl) rfl rfl ?_
  refine R_getI (pc := 2) (ci := 10) (k := 7) (dc k_M_goOn 2 rfl) fl_M_240 rfl (lb rfl) (Nat.le_trans (lb rfl) hn) rfl (Or.inl rfl) ?_
  obtain ⟨M_1, hM_1, hz⟩ := Z_lt hz
  refine R_putIE (pc := 5) (ci := 10) (k := 6) (dc k_M_goOn 3 rfl) fl_M_243 rfl (lb rfl) (Nat.le_trans (lb rfl) hn) rfl rfl rfl hM_1 ?_
  obtain ⟨K_3, hK_4, hz⟩ := Z_cut hz
  have hX_5 : ∀ (M_9 : Mem), K_3 M_9 → Rr y_M_goOn (1, 22, n, n, E) (qV K) 58 [(0, vR 81)] [] E n M_9 := by
    intro M_9 hk
    have hz := hK_4 _ hk
    refine R_aload_n (pc := 58) 0 (dc k_M_goOn 28 rfl) rfl rfl ?_
    refine R_aload_n (pc := 59) 0 (dc k_M_goOn 29 rfl) rfl rfl ?_
    refine R_getI (pc := 60) (ci := 10) (k := 6) (dc k_M_goOn 30 rfl) fl_M_243 rfl (lb rfl) (Nat.le_trans (lb rfl) hn) rfl (Or.inl rfl) ?_
    refine R_cVP (pc := 63)  (As := [vI (M_9 81 6)]) (S := []) ck_M_246 (dc k_M_goOn 31 rfl) ⟨rfl, ⟨_, rfl, rfl⟩, (lb rfl), (Nat.le_trans (lb rfl) hn)⟩ (lb rfl) (lb rfl) (lb rfl) rfl (ct_M_sign hE hn (Z_bind hz)) (fun r_19 hz => ?_)
    refine R_istore_n (pc := 66) (L' := [(1, vI r_19), (0, vR 81)]) (dc k_M_goOn 32 rfl) rfl (lb rfl) rfl ?_
    refine R_aload_n (pc := 67) 1 (dc k_M_goOn 33 rfl) rfl rfl ?_
    refine R_aload_n (pc := 68) 1 (dc k_M_goOn 34 rfl) rfl rfl ?_
    refine R_getI (pc := 69) (ci := 10) (k := 6) (dc k_M_goOn 35 rfl) fl_M_243 rfl (lb rfl) (Nat.le_trans (lb rfl) hn) rfl (Or.inl rfl) ?_
    refine R_iconst (pc := 72) (a := 1) (dc k_M_goOn 36 rfl) ?_
    refine R_iadd (pc := 73) (dc k_M_goOn 37 rfl) ?_
    obtain ⟨M_20, hM_20, hz⟩ := Z_lt hz
    refine R_putIE (pc := 74) (ci := 10) (k := 7) (dc k_M_goOn 38 rfl) fl_M_240 rfl (lb rfl) (Nat.le_trans (lb rfl) hn) rfl rfl rfl hM_20 ?_
    refine R_aload_n (pc := 77) 1 (dc k_M_goOn 39 rfl) rfl rfl ?_
    refine R_getI (pc := 78) (ci := 10) (k := 6) (dc k_M_goOn 40 rfl) fl_M_243 rfl (lb rfl) (Nat.le_trans (lb rfl) hn) rfl (Or.inl rfl) ?_
    refine R_aload_n (pc := 81) 1 (dc k_M_goOn 41 rfl) rfl rfl ?_
    refine R_getI (pc := 82) (ci := 10) (k := 3) (dc k_M_goOn 42 rfl) fl_M_194 rfl (lb rfl) (Nat.le_trans (lb rfl) hn) rfl (Or.inl rfl) ?_
    refine R_icmp_lt (pc := 85) 112 (dc k_M_goOn 43 rfl) rfl (fun hc => ?_) (fun hc => ?_)
    · have hz := Z_neg (show ¬ (n32 (M_20 81 3) ≤ n32 (M_20 81 6)) from (Int.not_le.mpr hc)) hz
      refine R_iload_n (pc := 112) 0 (dc k_M_goOn 56 rfl) rfl rfl ?_
      refine R_cSP (pc := 113)  (As := [vI r_19]) (S := []) ck_M_253 (dc k_M_goOn 57 rfl) (lb rfl) (lb rfl) (lb rfl) rfl (ct_M_isLetter hE hn (Z_bind hz)) (fun r_24 hz => ?_)
      refine R_if_eq (pc := 116) 239 (dc k_M_goOn 58 rfl) rfl (fun hc => ?_) (fun hc => ?_)
      · have hz := Z_neg (show ¬ (¬ n32 r_24 = 0) from (fun z => z hc)) hz
        refine R_iload_n (pc := 239) 0 (dc k_M_goOn 120 rfl) rfl rfl ?_
        refine R_cSP (pc := 240)  (As := [vI r_19]) (S := []) ck_M_265 (dc k_M_goOn 121 rfl) (lb rfl) (lb rfl) (lb rfl) rfl (ct_M_isDigit hE hn (Z_bind hz)) (fun r_65 hz => ?_)
        refine R_if_eq (pc := 243) 361 (dc k_M_goOn 122 rfl) rfl (fun hc => ?_) (fun hc => ?_)
        · have hz := Z_neg (show ¬ (¬ n32 r_65 = 0) from (fun z => z hc)) hz
          refine R_aload_n (pc := 361) 1 (dc k_M_goOn 182 rfl) rfl rfl ?_
          refine R_iload_n (pc := 362) 0 (dc k_M_goOn 183 rfl) rfl rfl ?_
          refine R_cSP (pc := 363)  (As := [vI r_19]) (S := [vR 81]) ck_M_271 (dc k_M_goOn 184 rfl) (lb rfl) (lb rfl) (lb rfl) rfl (ct_M_isSign hE hn (Z_bind hz)) (fun r_99 hz => ?_)
          obtain ⟨K_101, hK_102, hz⟩ := Z_cut hz
          have hJ_103 : ∀ (v_100 : Int), K_101 v_100 → Rr y_M_goOn (1, 22, n, n, E) (qV K) 374 [] [vI v_100, vR 81] E n M_20 := by
            intro v_100 hk
            have hz := hK_102 _ hk
            obtain ⟨M_105, hM_105, hz⟩ := Z_lt hz
            refine R_putIE (pc := 374) (ci := 10) (k := 8) (dc k_M_goOn 189 rfl) fl_M_250 rfl (lb rfl) (Nat.le_trans (lb rfl) hn) rfl rfl rfl hM_105 ?_
            exact R_vret (pc := 377) (dc k_M_goOn 190 rfl) rfl rfl rfl ⟨rfl, (Z_some hz)⟩
          refine R_if_eq (pc := 366) 373 (dc k_M_goOn 185 rfl) rfl (fun hc => ?_) (fun hc => ?_)
          · have hz := Z_neg (show ¬ (¬ n32 r_99 = 0) from (fun z => z hc)) hz
            refine R_iconst (pc := 373) (a := 1) (dc k_M_goOn 188 rfl) ?_
            refine R_sub [] rfl ?_
            exact hJ_103 _ (Z_some hz)
          · have hz := Z_pos (show ¬ n32 r_99 = 0 from hc) hz
            refine R_iconst (pc := 369) (a := 5) (dc k_M_goOn 186 rfl) ?_
            refine R_goto (pc := 370) 374 (dc k_M_goOn 187 rfl) rfl ?_
            refine R_sub [] rfl ?_
            exact hJ_103 _ (Z_some hz)
        · have hz := Z_pos (show ¬ n32 r_65 = 0 from hc) hz
          refine R_aload_n (pc := 246) 1 (dc k_M_goOn 123 rfl) rfl rfl ?_
          refine R_iconst (pc := 247) (a := 0) (dc k_M_goOn 124 rfl) ?_
          obtain ⟨M_66, hM_66, hz⟩ := Z_lt hz
          refine R_putIE (pc := 248) (ci := 10) (k := 9) (dc k_M_goOn 125 rfl) fl_M_268 rfl (lb rfl) (Nat.le_trans (lb rfl) hn) rfl rfl rfl hM_66 ?_
          refine R_aload_n (pc := 251) 1 (dc k_M_goOn 126 rfl) rfl rfl ?_
          refine R_aload_n (pc := 252) 1 (dc k_M_goOn 127 rfl) rfl rfl ?_
          refine R_getI (pc := 253) (ci := 10) (k := 6) (dc k_M_goOn 128 rfl) fl_M_243 rfl (lb rfl) (Nat.le_trans (lb rfl) hn) rfl (Or.inl rfl) ?_
          obtain ⟨M_67, hM_67, hz⟩ := Z_lt hz
          refine R_putIE (pc := 256) (ci := 10) (k := 7) (dc k_M_goOn 129 rfl) fl_M_240 rfl (lb rfl) (Nat.le_trans (lb rfl) hn) rfl rfl rfl hM_67 ?_
          obtain ⟨K_69, hK_70, hz⟩ := Z_cut hz
          have hX_71 : ∀ (M_75 : Mem), K_69 M_75 → Rr y_M_goOn (1, 22, n, n, E) (qV K) 322 [(0, vR 81)] [] E n M_75 := by
            intro M_75 hk
            have hz := hK_70 _ hk
            refine R_aload_n (pc := 322) 0 (dc k_M_goOn 163 rfl) rfl rfl ?_
            refine R_aload_n (pc := 323) 0 (dc k_M_goOn 164 rfl) rfl rfl ?_
            refine R_getI (pc := 324) (ci := 10) (k := 7) (dc k_M_goOn 165 rfl) fl_M_240 rfl (lb rfl) (Nat.le_trans (lb rfl) hn) rfl (Or.inl rfl) ?_
            refine R_aload_n (pc := 327) 0 (dc k_M_goOn 166 rfl) rfl rfl ?_
            refine R_getI (pc := 328) (ci := 10) (k := 6) (dc k_M_goOn 167 rfl) fl_M_243 rfl (lb rfl) (Nat.le_trans (lb rfl) hn) rfl (Or.inl rfl) ?_
            refine R_isub (pc := 331) (dc k_M_goOn 168 rfl) ?_
            refine R_iconst (pc := 332) (a := 4) (dc k_M_goOn 169 rfl) ?_
            obtain ⟨K_88, hK_89, hz⟩ := Z_cut hz
            have hJ_90 : ∀ (v_87 : Int), K_88 v_87 → Rr y_M_goOn (1, 22, n, n, E) (qV K) 355 [] [vI v_87, vR 81] E n M_75 := by
              intro v_87 hk
              have hz := hK_89 _ hk
              obtain ⟨M_98, hM_98, hz⟩ := Z_lt hz
              refine R_putIE (pc := 355) (ci := 10) (k := 8) (dc k_M_goOn 180 rfl) fl_M_250 rfl (lb rfl) (Nat.le_trans (lb rfl) hn) rfl rfl rfl hM_98 ?_
              refine R_goto (pc := 358) 377 (dc k_M_goOn 181 rfl) rfl ?_
              exact R_vret (pc := 377) (dc k_M_goOn 190 rfl) rfl rfl rfl ⟨rfl, (Z_some hz)⟩
            obtain ⟨K_91, hK_92, hz⟩ := Z_cut hz
            have hX_93 : K_91 true → Rr y_M_goOn (1, 22, n, n, E) (qV K) 350 [(0, vR 81)] [vR 81] E n M_75 := by
              intro hk
              have hz := Z_pos rfl (hK_92 _ hk)
              refine R_iconst (pc := 350) (a := 1) (dc k_M_goOn 177 rfl) ?_
              refine R_goto (pc := 351) 355 (dc k_M_goOn 178 rfl) rfl ?_
              refine R_sub [] rfl ?_
              exact hJ_90 _ (Z_some hz)
            have hY_94 : K_91 false → Rr y_M_goOn (1, 22, n, n, E) (qV K) 354 [(0, vR 81)] [vR 81] E n M_75 := by
              intro hk
              have hz := Z_neg Bool.false_ne_true (hK_92 _ hk)
              refine R_iconst (pc := 354) (a := 4) (dc k_M_goOn 179 rfl) ?_
              refine R_sub [] rfl ?_
              exact hJ_90 _ (Z_some hz)
            refine R_icmp_gt (pc := 333) 350 (dc k_M_goOn 170 rfl) rfl (fun hc => ?_) (fun hc => ?_)
            · have hz := Z_neg (show ¬ (n32 ((M_75 81 7) - (M_75 81 6)) ≤ 4) from (Int.not_le.mpr hc)) hz
              exact hX_93 (Z_some hz)
            · have hz := Z_pos (show n32 ((M_75 81 7) - (M_75 81 6)) ≤ 4 from (Int.not_lt.mp hc)) hz
              refine R_aload_n (pc := 336) 0 (dc k_M_goOn 171 rfl) rfl rfl ?_
              refine R_aload_n (pc := 337) 0 (dc k_M_goOn 172 rfl) rfl rfl ?_
              refine R_getI (pc := 338) (ci := 10) (k := 7) (dc k_M_goOn 173 rfl) fl_M_240 rfl (lb rfl) (Nat.le_trans (lb rfl) hn) rfl (Or.inl rfl) ?_
              refine R_cVP (pc := 341)  (As := [vI (M_75 81 7)]) (S := [vR 81]) ck_M_246 (dc k_M_goOn 174 rfl) ⟨rfl, ⟨_, rfl, rfl⟩, (lb rfl), (Nat.le_trans (lb rfl) hn)⟩ (lb rfl) (lb rfl) (lb rfl) rfl (ct_M_sign hE hn (Z_bind hz)) (fun r_96 hz => ?_)
              refine R_cSP (pc := 344)  (As := [vI r_96]) (S := [vR 81]) ck_M_253 (dc k_M_goOn 175 rfl) (lb rfl) (lb rfl) (lb rfl) rfl (ct_M_isLetter hE hn (Z_bind hz)) (fun r_97 hz => ?_)
              refine R_if_eq (pc := 347) 354 (dc k_M_goOn 176 rfl) rfl (fun hc => ?_) (fun hc => ?_)
              · have hz := Z_neg (show ¬ (¬ n32 r_97 = 0) from (fun z => z hc)) hz
                exact hY_94 (Z_some hz)
              · have hz := Z_pos (show ¬ n32 r_97 = 0 from hc) hz
                exact hX_93 (Z_some hz)
          refine R_sub [1] rfl ?_
          refine it_R (C := fun aZ : Mem => Rr y_M_goOn (1, 22, n, n, E) (qV K) 259 [(0, vR 81)] [] E n aZ) (fun M_68 K_72 hC_73 hB_74 hz => ?_) FUEL M_67 hz
          rw [M_goOn_b259] at hz
          show Rr y_M_goOn (1, 22, n, n, E) (qV K) 259 [(0, vR 81)] [] E n M_68
          refine R_aload_n (pc := 259) 0 (dc k_M_goOn 130 rfl) rfl rfl ?_
          refine R_aload_n (pc := 260) 0 (dc k_M_goOn 131 rfl) rfl rfl ?_
          refine R_getI (pc := 261) (ci := 10) (k := 7) (dc k_M_goOn 132 rfl) fl_M_240 rfl (lb rfl) (Nat.le_trans (lb rfl) hn) rfl (Or.inl rfl) ?_
          refine R_cVP (pc := 264)  (As := [vI (M_68 81 7)]) (S := []) ck_M_246 (dc k_M_goOn 133 rfl) ⟨rfl, ⟨_, rfl, rfl⟩, (lb rfl), (Nat.le_trans (lb rfl) hn)⟩ (lb rfl) (lb rfl) (lb rfl) rfl (ct_M_sign hE hn (Z_bind hz)) (fun r_76 hz => ?_)
          refine R_cSP (pc := 267)  (As := [vI r_76]) (S := []) ck_M_265 (dc k_M_goOn 134 rfl) (lb rfl) (lb rfl) (lb rfl) rfl (ct_M_isDigit hE hn (Z_bind hz)) (fun r_77 hz => ?_)
          refine R_if_eq (pc := 270) 322 (dc k_M_goOn 135 rfl) rfl (fun hc => ?_) (fun hc => ?_)
          · have hz := Z_neg (show ¬ (¬ n32 r_77 = 0) from (fun z => z hc)) hz
            exact hX_71 _ (hB_74 _ (Z_some hz))
          · have hz := Z_pos (show ¬ n32 r_77 = 0 from hc) hz
            refine R_aload_n (pc := 273) 0 (dc k_M_goOn 136 rfl) rfl rfl ?_
            refine R_getI (pc := 274) (ci := 10) (k := 7) (dc k_M_goOn 137 rfl) fl_M_240 rfl (lb rfl) (Nat.le_trans (lb rfl) hn) rfl (Or.inl rfl) ?_
            refine R_aload_n (pc := 277) 0 (dc k_M_goOn 138 rfl) rfl rfl ?_
            refine R_getI (pc := 278) (ci := 10) (k := 6) (dc k_M_goOn 139 rfl) fl_M_243 rfl (lb rfl) (Nat.le_trans (lb rfl) hn) rfl (Or.inl rfl) ?_
            refine R_isub (pc := 281) (dc k_M_goOn 140 rfl) ?_
            refine R_iconst (pc := 282) (a := 4) (dc k_M_goOn 141 rfl) ?_
            obtain ⟨K_79, hK_80, hz⟩ := Z_cut hz
            have hJ_81 : ∀ (M_78 : Mem), K_79 M_78 → Rr y_M_goOn (1, 22, n, n, E) (qV K) 309 [(0, vR 81)] [] E n M_78 := by
              intro M_78 hk
              have hz := hK_80 _ hk
              refine R_aload_n (pc := 309) 0 (dc k_M_goOn 156 rfl) rfl rfl ?_
              refine R_dup (pc := 310) (dc k_M_goOn 157 rfl) rfl ?_
              refine R_getI (pc := 311) (ci := 10) (k := 7) (dc k_M_goOn 158 rfl) fl_M_240 rfl (lb rfl) (Nat.le_trans (lb rfl) hn) rfl (Or.inl rfl) ?_
              refine R_iconst (pc := 314) (a := 1) (dc k_M_goOn 159 rfl) ?_
              refine R_iadd (pc := 315) (dc k_M_goOn 160 rfl) ?_
              obtain ⟨M_85, hM_85, hz⟩ := Z_lt hz
              refine R_putIE (pc := 316) (ci := 10) (k := 7) (dc k_M_goOn 161 rfl) fl_M_240 rfl (lb rfl) (Nat.le_trans (lb rfl) hn) rfl rfl rfl hM_85 ?_
              refine R_goto (pc := 319) 259 (dc k_M_goOn 162 rfl) rfl ?_
              exact hC_73 _ (Z_some hz)
            refine R_icmp_ge (pc := 283) 309 (dc k_M_goOn 142 rfl) rfl (fun hc => ?_) (fun hc => ?_)
            · have hz := Z_neg (show ¬ (n32 ((M_68 81 7) - (M_68 81 6)) < 4) from (Int.not_lt.mpr hc)) hz
              exact hJ_81 _ (Z_some hz)
            · have hz := Z_pos (show n32 ((M_68 81 7) - (M_68 81 6)) < 4 from (Int.not_le.mp hc)) hz
              refine R_aload_n (pc := 286) 0 (dc k_M_goOn 143 rfl) rfl rfl ?_
              refine R_bipush (pc := 287) (a := 10) (dc k_M_goOn 144 rfl) (by decide) ?_
              refine R_aload_n (pc := 289) 0 (dc k_M_goOn 145 rfl) rfl rfl ?_
              refine R_getI (pc := 290) (ci := 10) (k := 9) (dc k_M_goOn 146 rfl) fl_M_268 rfl (lb rfl) (Nat.le_trans (lb rfl) hn) rfl (Or.inl rfl) ?_
              refine R_imul (pc := 293) (dc k_M_goOn 147 rfl) ?_
              refine R_aload_n (pc := 294) 0 (dc k_M_goOn 148 rfl) rfl rfl ?_
              refine R_aload_n (pc := 295) 0 (dc k_M_goOn 149 rfl) rfl rfl ?_
              refine R_getI (pc := 296) (ci := 10) (k := 7) (dc k_M_goOn 150 rfl) fl_M_240 rfl (lb rfl) (Nat.le_trans (lb rfl) hn) rfl (Or.inl rfl) ?_
              refine R_cVP (pc := 299)  (As := [vI (M_68 81 7)]) (S := [vI (10 * (M_68 81 9)), vR 81]) ck_M_246 (dc k_M_goOn 151 rfl) ⟨rfl, ⟨_, rfl, rfl⟩, (lb rfl), (Nat.le_trans (lb rfl) hn)⟩ (lb rfl) (lb rfl) (lb rfl) rfl (ct_M_sign hE hn (Z_bind hz)) (fun r_82 hz => ?_)
              refine R_iadd (pc := 302) (dc k_M_goOn 152 rfl) ?_
              refine R_bipush (pc := 303) (a := 48) (dc k_M_goOn 153 rfl) (by decide) ?_
              refine R_isub (pc := 305) (dc k_M_goOn 154 rfl) ?_
              obtain ⟨M_83, hM_83, hz⟩ := Z_lt hz
              refine R_putIE (pc := 306) (ci := 10) (k := 9) (dc k_M_goOn 155 rfl) fl_M_268 rfl (lb rfl) (Nat.le_trans (lb rfl) hn) rfl rfl rfl hM_83 ?_
              exact hJ_81 _ (Z_some hz)
      · have hz := Z_pos (show ¬ n32 r_24 = 0 from hc) hz
        obtain ⟨K_26, hK_27, hz⟩ := Z_cut hz
        have hX_28 : ∀ (M_32 : Mem), K_26 M_32 → Rr y_M_goOn (1, 22, n, n, E) (qV K) 146 [(0, vR 81)] [] E n M_32 := by
          intro M_32 hk
          have hz := hK_27 _ hk
          refine R_aload_n (pc := 146) 0 (dc k_M_goOn 72 rfl) rfl rfl ?_
          refine R_lconst (pc := 147) (a := 0) (dc k_M_goOn 73 rfl) (by decide) ?_
          obtain ⟨M_37, hM_37, hz⟩ := Z_lt hz
          refine R_putJE (pc := 148) (ci := 10) (k := 10) (dc k_M_goOn 74 rfl) fl_M_257 rfl (lb rfl) (Nat.le_trans (lb rfl) hn) rfl rfl rfl hM_37 ?_
          refine R_aload_n (pc := 151) 0 (dc k_M_goOn 75 rfl) rfl rfl ?_
          refine R_getI (pc := 152) (ci := 10) (k := 6) (dc k_M_goOn 76 rfl) fl_M_243 rfl (lb rfl) (Nat.le_trans (lb rfl) hn) rfl (Or.inl rfl) ?_
          obtain ⟨l2_38, hl2_38, hz⟩ := Z_lt hz
          refine R_istore_nE (pc := 155) (L' := [(2, vI l2_38), (0, vR 81)]) (dc k_M_goOn 77 rfl) rfl (lb rfl) hl2_38 rfl ?_
          obtain ⟨K_41, hK_42, hz⟩ := Z_cut hz
          have hX_43 : ∀ (M_47 : Mem), K_41 M_47 → Rr y_M_goOn (1, 22, n, n, E) (qV K) 199 [(0, vR 81)] [] E n M_47 := by
            intro M_47 hk
            have hz := hK_42 _ hk
            refine R_aload_n (pc := 199) 0 (dc k_M_goOn 101 rfl) rfl rfl ?_
            refine R_aload_n (pc := 200) 0 (dc k_M_goOn 102 rfl) rfl rfl ?_
            refine R_getI (pc := 201) (ci := 10) (k := 7) (dc k_M_goOn 103 rfl) fl_M_240 rfl (lb rfl) (Nat.le_trans (lb rfl) hn) rfl (Or.inl rfl) ?_
            refine R_aload_n (pc := 204) 0 (dc k_M_goOn 104 rfl) rfl rfl ?_
            refine R_getI (pc := 205) (ci := 10) (k := 6) (dc k_M_goOn 105 rfl) fl_M_243 rfl (lb rfl) (Nat.le_trans (lb rfl) hn) rfl (Or.inl rfl) ?_
            refine R_isub (pc := 208) (dc k_M_goOn 106 rfl) ?_
            refine R_bipush (pc := 209) (a := 8) (dc k_M_goOn 107 rfl) (by decide) ?_
            obtain ⟨K_58, hK_59, hz⟩ := Z_cut hz
            have hJ_60 : ∀ (v_57 : Int), K_58 v_57 → Rr y_M_goOn (1, 22, n, n, E) (qV K) 233 [] [vI v_57, vR 81] E n M_47 := by
              intro v_57 hk
              have hz := hK_59 _ hk
              obtain ⟨M_64, hM_64, hz⟩ := Z_lt hz
              refine R_putIE (pc := 233) (ci := 10) (k := 8) (dc k_M_goOn 118 rfl) fl_M_250 rfl (lb rfl) (Nat.le_trans (lb rfl) hn) rfl rfl rfl hM_64 ?_
              refine R_goto (pc := 236) 377 (dc k_M_goOn 119 rfl) rfl ?_
              exact R_vret (pc := 377) (dc k_M_goOn 190 rfl) rfl rfl rfl ⟨rfl, (Z_some hz)⟩
            refine R_icmp_le (pc := 211) 218 (dc k_M_goOn 108 rfl) rfl (fun hc => ?_) (fun hc => ?_)
            · have hz := Z_neg (show ¬ (8 < n32 ((M_47 81 7) - (M_47 81 6))) from (Int.not_lt.mpr hc)) hz
              refine R_aload_n (pc := 218) 0 (dc k_M_goOn 111 rfl) rfl rfl ?_
              refine R_getJ (pc := 219) (ci := 10) (k := 10) (dc k_M_goOn 112 rfl) fl_M_257 rfl (lb rfl) (Nat.le_trans (lb rfl) hn) rfl rfl ?_
              refine R_cSP (pc := 222)  (As := [vJ (M_47 81 10)]) (S := [vR 81]) ck_M_261 (dc k_M_goOn 113 rfl) (lb rfl) (lb rfl) (lb rfl) rfl (ct_M_isKept hE hn (Z_bind hz)) (fun r_61 hz => ?_)
              refine R_if_eq (pc := 225) 232 (dc k_M_goOn 114 rfl) rfl (fun hc => ?_) (fun hc => ?_)
              · have hz := Z_neg (show ¬ (¬ n32 r_61 = 0) from (fun z => z hc)) hz
                refine R_iconst (pc := 232) (a := 2) (dc k_M_goOn 117 rfl) ?_
                refine R_sub [] rfl ?_
                exact hJ_60 _ (Z_some hz)
              · have hz := Z_pos (show ¬ n32 r_61 = 0 from hc) hz
                refine R_iconst (pc := 228) (a := 3) (dc k_M_goOn 115 rfl) ?_
                refine R_goto (pc := 229) 233 (dc k_M_goOn 116 rfl) rfl ?_
                refine R_sub [] rfl ?_
                exact hJ_60 _ (Z_some hz)
            · have hz := Z_pos (show 8 < n32 ((M_47 81 7) - (M_47 81 6)) from (Int.not_le.mp hc)) hz
              refine R_iconst (pc := 214) (a := 1) (dc k_M_goOn 109 rfl) ?_
              refine R_goto (pc := 215) 233 (dc k_M_goOn 110 rfl) rfl ?_
              refine R_sub [] rfl ?_
              exact hJ_60 _ (Z_some hz)
          refine R_sub [1, 0] rfl ?_
          refine it_R (C := fun aZ : Int × Mem => Rr y_M_goOn (1, 22, n, n, E) (qV K) 156 [(0, vR 81), (2, vI aZ.1)] [] E n aZ.2) (fun aZ K_44 hC_45 hB_46 hz => ?_) FUEL (l2_38, M_37) hz
          obtain ⟨l2_39, M_40⟩ := aZ
          rw [M_goOn_b156] at hz
          show Rr y_M_goOn (1, 22, n, n, E) (qV K) 156 [(0, vR 81), (2, vI l2_39)] [] E n M_40
          refine R_iload_n (pc := 156) 1 (dc k_M_goOn 78 rfl) rfl rfl ?_
          refine R_aload_n (pc := 157) 0 (dc k_M_goOn 79 rfl) rfl rfl ?_
          refine R_getI (pc := 158) (ci := 10) (k := 7) (dc k_M_goOn 80 rfl) fl_M_240 rfl (lb rfl) (Nat.le_trans (lb rfl) hn) rfl (Or.inl rfl) ?_
          have hX_51 : ((n32 l2_39 < n32 (M_40 81 7)) ∧ (n32 l2_39 < n32 ((M_40 81 6) + 8))) → Rr y_M_goOn (1, 22, n, n, E) (qV K) 175 [(0, vR 81), (2, vI l2_39)] [] E n M_40 := by
            intro hc
            have hz := Z_pos hc hz
            refine R_aload_n (pc := 175) 0 (dc k_M_goOn 88 rfl) rfl rfl ?_
            refine R_aload_n (pc := 176) 0 (dc k_M_goOn 89 rfl) rfl rfl ?_
            refine R_getJ (pc := 177) (ci := 10) (k := 10) (dc k_M_goOn 90 rfl) fl_M_257 rfl (lb rfl) (Nat.le_trans (lb rfl) hn) rfl rfl ?_
            refine R_bipush (pc := 180) (a := 8) (dc k_M_goOn 91 rfl) (by decide) ?_
            refine R_lshl (pc := 182) (dc k_M_goOn 92 rfl) ?_
            refine R_aload_n (pc := 183) 0 (dc k_M_goOn 93 rfl) rfl rfl ?_
            refine R_iload_n (pc := 184) 1 (dc k_M_goOn 94 rfl) rfl rfl ?_
            refine R_cVP (pc := 185)  (As := [vI l2_39]) (S := [vJ (jshl (M_40 81 10) 8), vR 81]) ck_M_246 (dc k_M_goOn 95 rfl) ⟨rfl, ⟨_, rfl, rfl⟩, (lb rfl), (Nat.le_trans (lb rfl) hn)⟩ (lb rfl) (lb rfl) (lb rfl) rfl (ct_M_sign hE hn (Z_bind hz)) (fun r_48 hz => ?_)
            refine R_i2l (pc := 188) (dc k_M_goOn 96 rfl) ?_
            refine R_lor (pc := 189) (dc k_M_goOn 97 rfl) ?_
            obtain ⟨M_49, hM_49, hz⟩ := Z_lt hz
            refine R_putJE (pc := 190) (ci := 10) (k := 10) (dc k_M_goOn 98 rfl) fl_M_257 rfl (lb rfl) (Nat.le_trans (lb rfl) hn) rfl rfl rfl hM_49 ?_
            obtain ⟨l2_50, hl2_50, hz⟩ := Z_lt hz
            refine R_iincE (pc := 193) (L' := [(2, vI l2_50), (0, vR 81)]) 1 (dc k_M_goOn 99 rfl) rfl (lb rfl) hl2_50 rfl ?_
            refine R_goto (pc := 196) 156 (dc k_M_goOn 100 rfl) rfl ?_
            refine R_sub [1, 0] rfl ?_
            exact hC_45 _ (Z_some hz)
          have hY_52 : ¬ ((n32 l2_39 < n32 (M_40 81 7)) ∧ (n32 l2_39 < n32 ((M_40 81 6) + 8))) → Rr y_M_goOn (1, 22, n, n, E) (qV K) 199 [(0, vR 81), (2, vI l2_39)] [] E n M_40 := by
            intro hc
            have hz := Z_neg hc hz
            refine R_sub [0] rfl ?_
            exact hX_43 _ (hB_46 _ (Z_some hz))
          refine R_icmp_ge (pc := 161) 199 (dc k_M_goOn 81 rfl) rfl (fun hc => ?_) (fun hc => ?_)
          · have hc_53 : n32 (M_40 81 7) ≤ n32 l2_39 := hc
            exact hY_52 (fun z => (Int.not_lt.mpr hc_53) z.1)
          · have hc_54 : n32 l2_39 < n32 (M_40 81 7) := (Int.not_le.mp hc)
            refine R_iload_n (pc := 164) 1 (dc k_M_goOn 82 rfl) rfl rfl ?_
            refine R_aload_n (pc := 165) 0 (dc k_M_goOn 83 rfl) rfl rfl ?_
            refine R_getI (pc := 166) (ci := 10) (k := 6) (dc k_M_goOn 84 rfl) fl_M_243 rfl (lb rfl) (Nat.le_trans (lb rfl) hn) rfl (Or.inl rfl) ?_
            refine R_bipush (pc := 169) (a := 8) (dc k_M_goOn 85 rfl) (by decide) ?_
            refine R_iadd (pc := 171) (dc k_M_goOn 86 rfl) ?_
            refine R_icmp_ge (pc := 172) 199 (dc k_M_goOn 87 rfl) rfl (fun hc => ?_) (fun hc => ?_)
            · have hc_55 : n32 ((M_40 81 6) + 8) ≤ n32 l2_39 := hc
              exact hY_52 (fun z => (Int.not_lt.mpr hc_55) z.2)
            · have hc_56 : n32 l2_39 < n32 ((M_40 81 6) + 8) := (Int.not_le.mp hc)
              exact hX_51 ⟨hc_54, hc_56⟩
        refine R_sub [1] rfl ?_
        refine it_R (C := fun aZ : Mem => Rr y_M_goOn (1, 22, n, n, E) (qV K) 119 [(0, vR 81)] [] E n aZ) (fun M_25 K_29 hC_30 hB_31 hz => ?_) FUEL M_20 hz
        rw [M_goOn_b119] at hz
        show Rr y_M_goOn (1, 22, n, n, E) (qV K) 119 [(0, vR 81)] [] E n M_25
        refine R_aload_n (pc := 119) 0 (dc k_M_goOn 59 rfl) rfl rfl ?_
        refine R_aload_n (pc := 120) 0 (dc k_M_goOn 60 rfl) rfl rfl ?_
        refine R_getI (pc := 121) (ci := 10) (k := 7) (dc k_M_goOn 61 rfl) fl_M_240 rfl (lb rfl) (Nat.le_trans (lb rfl) hn) rfl (Or.inl rfl) ?_
        refine R_cVP (pc := 124)  (As := [vI (M_25 81 7)]) (S := []) ck_M_246 (dc k_M_goOn 62 rfl) ⟨rfl, ⟨_, rfl, rfl⟩, (lb rfl), (Nat.le_trans (lb rfl) hn)⟩ (lb rfl) (lb rfl) (lb rfl) rfl (ct_M_sign hE hn (Z_bind hz)) (fun r_33 hz => ?_)
        refine R_cSP (pc := 127)  (As := [vI r_33]) (S := []) ck_M_253 (dc k_M_goOn 63 rfl) (lb rfl) (lb rfl) (lb rfl) rfl (ct_M_isLetter hE hn (Z_bind hz)) (fun r_34 hz => ?_)
        refine R_if_eq (pc := 130) 146 (dc k_M_goOn 64 rfl) rfl (fun hc => ?_) (fun hc => ?_)
        · have hz := Z_neg (show ¬ (¬ n32 r_34 = 0) from (fun z => z hc)) hz
          exact hX_28 _ (hB_31 _ (Z_some hz))
        · have hz := Z_pos (show ¬ n32 r_34 = 0 from hc) hz
          refine R_aload_n (pc := 133) 0 (dc k_M_goOn 65 rfl) rfl rfl ?_
          refine R_dup (pc := 134) (dc k_M_goOn 66 rfl) rfl ?_
          refine R_getI (pc := 135) (ci := 10) (k := 7) (dc k_M_goOn 67 rfl) fl_M_240 rfl (lb rfl) (Nat.le_trans (lb rfl) hn) rfl (Or.inl rfl) ?_
          refine R_iconst (pc := 138) (a := 1) (dc k_M_goOn 68 rfl) ?_
          refine R_iadd (pc := 139) (dc k_M_goOn 69 rfl) ?_
          obtain ⟨M_35, hM_35, hz⟩ := Z_lt hz
          refine R_putIE (pc := 140) (ci := 10) (k := 7) (dc k_M_goOn 70 rfl) fl_M_240 rfl (lb rfl) (Nat.le_trans (lb rfl) hn) rfl rfl rfl hM_35 ?_
          refine R_goto (pc := 143) 119 (dc k_M_goOn 71 rfl) rfl ?_
          exact hC_30 _ (Z_some hz)
    · have hz := Z_pos (show n32 (M_20 81 3) ≤ n32 (M_20 81 6) from (Int.not_lt.mp hc)) hz
      refine R_aload_n (pc := 88) 1 (dc k_M_goOn 44 rfl) rfl rfl ?_
      refine R_iconst (pc := 89) (a := 0) (dc k_M_goOn 45 rfl) ?_
      obtain ⟨M_21, hM_21, hz⟩ := Z_lt hz
      refine R_putIE (pc := 90) (ci := 10) (k := 8) (dc k_M_goOn 46 rfl) fl_M_250 rfl (lb rfl) (Nat.le_trans (lb rfl) hn) rfl rfl rfl hM_21 ?_
      refine R_aload_n (pc := 93) 1 (dc k_M_goOn 47 rfl) rfl rfl ?_
      refine R_aload_n (pc := 94) 1 (dc k_M_goOn 48 rfl) rfl rfl ?_
      refine R_getI (pc := 95) (ci := 10) (k := 3) (dc k_M_goOn 49 rfl) fl_M_194 rfl (lb rfl) (Nat.le_trans (lb rfl) hn) rfl (Or.inl rfl) ?_
      obtain ⟨M_22, hM_22, hz⟩ := Z_lt hz
      refine R_putIE (pc := 98) (ci := 10) (k := 6) (dc k_M_goOn 50 rfl) fl_M_243 rfl (lb rfl) (Nat.le_trans (lb rfl) hn) rfl rfl rfl hM_22 ?_
      refine R_aload_n (pc := 101) 1 (dc k_M_goOn 51 rfl) rfl rfl ?_
      refine R_aload_n (pc := 102) 1 (dc k_M_goOn 52 rfl) rfl rfl ?_
      refine R_getI (pc := 103) (ci := 10) (k := 3) (dc k_M_goOn 53 rfl) fl_M_194 rfl (lb rfl) (Nat.le_trans (lb rfl) hn) rfl (Or.inl rfl) ?_
      obtain ⟨M_23, hM_23, hz⟩ := Z_lt hz
      refine R_putIE (pc := 106) (ci := 10) (k := 7) (dc k_M_goOn 54 rfl) fl_M_240 rfl (lb rfl) (Nat.le_trans (lb rfl) hn) rfl rfl rfl hM_23 ?_
      refine R_goto (pc := 109) 377 (dc k_M_goOn 55 rfl) rfl ?_
      exact R_vret (pc := 377) (dc k_M_goOn 190 rfl) rfl rfl rfl ⟨rfl, (Z_some hz)⟩
  refine it_R (C := fun aZ : Mem => Rr y_M_goOn (1, 22, n, n, E) (qV K) 8 [(0, vR 81)] [] E n aZ) (fun M_2 K_6 hC_7 hB_8 hz => ?_) FUEL M_1 hz
  rw [M_goOn_b8] at hz
  show Rr y_M_goOn (1, 22, n, n, E) (qV K) 8 [(0, vR 81)] [] E n M_2
  refine R_aload_n (pc := 8) 0 (dc k_M_goOn 4 rfl) rfl rfl ?_
  refine R_getI (pc := 9) (ci := 10) (k := 6) (dc k_M_goOn 5 rfl) fl_M_243 rfl (lb rfl) (Nat.le_trans (lb rfl) hn) rfl (Or.inl rfl) ?_
  refine R_aload_n (pc := 12) 0 (dc k_M_goOn 6 rfl) rfl rfl ?_
  refine R_getI (pc := 13) (ci := 10) (k := 3) (dc k_M_goOn 7 rfl) fl_M_194 rfl (lb rfl) (Nat.le_trans (lb rfl) hn) rfl (Or.inl rfl) ?_
  refine R_icmp_ge (pc := 16) 58 (dc k_M_goOn 8 rfl) rfl (fun hc => ?_) (fun hc => ?_)
  · have hz := Z_neg (show ¬ (n32 (M_2 81 6) < n32 (M_2 81 3)) from (Int.not_lt.mpr hc)) hz
    exact hX_5 _ (hB_8 _ (Z_some hz))
  · have hz := Z_pos (show n32 (M_2 81 6) < n32 (M_2 81 3) from (Int.not_le.mp hc)) hz
    refine R_aload_n (pc := 19) 0 (dc k_M_goOn 9 rfl) rfl rfl ?_
    refine R_aload_n (pc := 20) 0 (dc k_M_goOn 10 rfl) rfl rfl ?_
    refine R_getI (pc := 21) (ci := 10) (k := 6) (dc k_M_goOn 11 rfl) fl_M_243 rfl (lb rfl) (Nat.le_trans (lb rfl) hn) rfl (Or.inl rfl) ?_
    refine R_cVP (pc := 24)  (As := [vI (M_2 81 6)]) (S := []) ck_M_246 (dc k_M_goOn 12 rfl) ⟨rfl, ⟨_, rfl, rfl⟩, (lb rfl), (Nat.le_trans (lb rfl) hn)⟩ (lb rfl) (lb rfl) (lb rfl) rfl (ct_M_sign hE hn (Z_bind hz)) (fun r_10 hz => ?_)
    refine R_bipush (pc := 27) (a := 32) (dc k_M_goOn 13 rfl) (by decide) ?_
    obtain ⟨K_11, hK_12, hz⟩ := Z_cut hz
    have hX_13 : K_11 true → Rr y_M_goOn (1, 22, n, n, E) (qV K) 45 [(0, vR 81)] [] E n M_2 := by
      intro hk
      have hz := Z_pos rfl (hK_12 _ hk)
      refine R_aload_n (pc := 45) 0 (dc k_M_goOn 21 rfl) rfl rfl ?_
      refine R_dup (pc := 46) (dc k_M_goOn 22 rfl) rfl ?_
      refine R_getI (pc := 47) (ci := 10) (k := 6) (dc k_M_goOn 23 rfl) fl_M_243 rfl (lb rfl) (Nat.le_trans (lb rfl) hn) rfl (Or.inl rfl) ?_
      refine R_iconst (pc := 50) (a := 1) (dc k_M_goOn 24 rfl) ?_
      refine R_iadd (pc := 51) (dc k_M_goOn 25 rfl) ?_
      obtain ⟨M_17, hM_17, hz⟩ := Z_lt hz
      refine R_putIE (pc := 52) (ci := 10) (k := 6) (dc k_M_goOn 26 rfl) fl_M_243 rfl (lb rfl) (Nat.le_trans (lb rfl) hn) rfl rfl rfl hM_17 ?_
      refine R_goto (pc := 55) 8 (dc k_M_goOn 27 rfl) rfl ?_
      exact hC_7 _ (Z_some hz)
    have hY_14 : K_11 false → Rr y_M_goOn (1, 22, n, n, E) (qV K) 58 [(0, vR 81)] [] E n M_2 := by
      intro hk
      have hz := Z_neg Bool.false_ne_true (hK_12 _ hk)
      exact hX_5 _ (hB_8 _ (Z_some hz))
    refine R_icmp_eq (pc := 29) 45 (dc k_M_goOn 14 rfl) rfl (fun hc => ?_) (fun hc => ?_)
    · have hz := Z_neg (show ¬ (¬ n32 r_10 = 32) from (fun z => z hc)) hz
      exact hX_13 (Z_some hz)
    · have hz := Z_pos (show ¬ n32 r_10 = 32 from hc) hz
      refine R_aload_n (pc := 32) 0 (dc k_M_goOn 15 rfl) rfl rfl ?_
      refine R_aload_n (pc := 33) 0 (dc k_M_goOn 16 rfl) rfl rfl ?_
      refine R_getI (pc := 34) (ci := 10) (k := 6) (dc k_M_goOn 17 rfl) fl_M_243 rfl (lb rfl) (Nat.le_trans (lb rfl) hn) rfl (Or.inl rfl) ?_
      refine R_cVP (pc := 37)  (As := [vI (M_2 81 6)]) (S := []) ck_M_246 (dc k_M_goOn 18 rfl) ⟨rfl, ⟨_, rfl, rfl⟩, (lb rfl), (Nat.le_trans (lb rfl) hn)⟩ (lb rfl) (lb rfl) (lb rfl) rfl (ct_M_sign hE hn (Z_bind hz)) (fun r_16 hz => ?_)
      refine R_bipush (pc := 40) (a := 10) (dc k_M_goOn 19 rfl) (by decide) ?_
      refine R_icmp_ne (pc := 42) 58 (dc k_M_goOn 20 rfl) rfl (fun hc => ?_) (fun hc => ?_)
      · have hz := Z_neg (show ¬ (n32 r_16 = 10) from hc) hz
        exact hY_14 (Z_some hz)
      · have hz := Z_pos (show n32 r_16 = 10 from (Decidable.not_not.mp hc)) hz
        exact hX_13 (Z_some hz)

set_option maxRecDepth 20000 in
theorem ct_M_isGood {E : Nat → Bool} {n : Nat} (hE : ∀ c, 81 ≤ c → c ≤ 138 → E c = true) (hn : 138 ≤ n) {M : Mem} {K : Int → Prop} (hz : Z (M_isGood M) K) : Mt y_M_isGood (0, 0, n, n, E) E [vR 81] M (qP M K) := by
  refine Mt.of (by decide) (lb rfl) (Nat.le_refl _) rfl ?_
  rw [M_isGood] at hz
  show Rr y_M_isGood (0, 0, n, n, E) (qP M K) 0 [(0, vR 81)] [] E n M
  refine R_aload_n (pc := 0) 0 (dc k_M_isGood 0 rfl) rfl rfl ?_
  refine R_getI (pc := 1) (ci := 10) (k := 4) (dc k_M_isGood 1 rfl) fl_M_197 rfl (lb rfl) (Nat.le_trans (lb rfl) hn) rfl (Or.inl rfl) ?_
  refine R_if_ne (pc := 4) 11 (dc k_M_isGood 2 rfl) rfl (fun hc => ?_) (fun hc => ?_)
  · have hz := Z_neg (show ¬ (n32 (M 81 4) = 0) from hc) hz
    refine R_iconst (pc := 11) (a := 0) (dc k_M_isGood 5 rfl) ?_
    exact R_zret (pc := 12) (dc k_M_isGood 6 rfl) rfl (Or.inl rfl) rfl rfl ⟨_, rfl, rfl, (Z_some hz)⟩
  · have hz := Z_pos (show n32 (M 81 4) = 0 from (Decidable.not_not.mp hc)) hz
    refine R_iconst (pc := 7) (a := 1) (dc k_M_isGood 3 rfl) ?_
    refine R_goto (pc := 8) 12 (dc k_M_isGood 4 rfl) rfl ?_
    exact R_zret (pc := 12) (dc k_M_isGood 6 rfl) rfl (Or.inr rfl) rfl rfl ⟨_, rfl, rfl, (Z_some hz)⟩

set_option maxRecDepth 20000 in
theorem ct_M_isWord {E : Nat → Bool} {n : Nat} (hE : ∀ c, 81 ≤ c → c ≤ 138 → E c = true) (hn : 138 ≤ n) {w : Int} {M : Mem} {K : Int → Prop} (hz : Z (M_isWord w M) K) : Mt y_M_isWord (0, 0, n, n, E) E [vR 81, vJ w] M (qP M K) := by
  refine Mt.of (by decide) (lb rfl) (Nat.le_refl _) rfl ?_
  rw [M_isWord] at hz
  show Rr y_M_isWord (0, 0, n, n, E) (qP M K) 0 [(0, vR 81), (1, vJ w)] [] E n M
  refine R_aload_n (pc := 0) 0 (dc k_M_isWord 0 rfl) rfl rfl ?_
  refine R_getI (pc := 1) (ci := 10) (k := 8) (dc k_M_isWord 1 rfl) fl_M_250 rfl (lb rfl) (Nat.le_trans (lb rfl) hn) rfl (Or.inl rfl) ?_
  refine R_iconst (pc := 4) (a := 3) (dc k_M_isWord 2 rfl) ?_
  have hX_1 : ((n32 (M 81 8) = 3) ∧ (n64 (M 81 10) = n64 w)) → Rr y_M_isWord (0, 0, n, n, E) (qP M K) 17 [(0, vR 81), (1, vJ w)] [] E n M := by
    intro hc
    have hz := Z_pos hc hz
    refine R_iconst (pc := 17) (a := 1) (dc k_M_isWord 9 rfl) ?_
    refine R_goto (pc := 18) 22 (dc k_M_isWord 10 rfl) rfl ?_
    exact R_zret (pc := 22) (dc k_M_isWord 12 rfl) rfl (Or.inr rfl) rfl rfl ⟨_, rfl, rfl, (Z_some hz)⟩
  have hY_2 : ¬ ((n32 (M 81 8) = 3) ∧ (n64 (M 81 10) = n64 w)) → Rr y_M_isWord (0, 0, n, n, E) (qP M K) 21 [(0, vR 81), (1, vJ w)] [] E n M := by
    intro hc
    have hz := Z_neg hc hz
    refine R_iconst (pc := 21) (a := 0) (dc k_M_isWord 11 rfl) ?_
    exact R_zret (pc := 22) (dc k_M_isWord 12 rfl) rfl (Or.inl rfl) rfl rfl ⟨_, rfl, rfl, (Z_some hz)⟩
  refine R_icmp_ne (pc := 5) 21 (dc k_M_isWord 3 rfl) rfl (fun hc => ?_) (fun hc => ?_)
  · have hc_3 : ¬ n32 (M 81 8) = 3 := hc
    exact hY_2 (fun z => hc_3 z.1)
  · have hc_4 : n32 (M 81 8) = 3 := (Decidable.not_not.mp hc)
    refine R_aload_n (pc := 8) 0 (dc k_M_isWord 4 rfl) rfl rfl ?_
    refine R_getJ (pc := 9) (ci := 10) (k := 10) (dc k_M_isWord 5 rfl) fl_M_257 rfl (lb rfl) (Nat.le_trans (lb rfl) hn) rfl rfl ?_
    refine R_lload_n (pc := 12) 1 (dc k_M_isWord 6 rfl) rfl rfl ?_
    refine R_lcmp (pc := 13) (dc k_M_isWord 7 rfl) ?_
    refine R_if_ne (pc := 14) 21 (dc k_M_isWord 8 rfl) rfl (fun hc => ?_) (fun hc => ?_)
    · have hc_5 : ¬ n64 (M 81 10) = n64 w := (fun z => hc (jcmp_eq.mpr z))
      exact hY_2 (fun z => hc_5 z.2)
    · have hc_6 : n64 (M 81 10) = n64 w := (jcmp_eq.mp (Decidable.not_not.mp hc))
      exact hX_1 ⟨hc_4, hc_6⟩

set_option maxRecDepth 20000 in
theorem ct_M_isFull {E : Nat → Bool} {n : Nat} (hE : ∀ c, 81 ≤ c → c ≤ 138 → E c = true) (hn : 138 ≤ n) {M : Mem} {K : Int → Prop} (hz : Z (M_isFull M) K) : Mt y_M_isFull (1, 22, n, n, E) E [vR 81] M (qP M K) := by
  refine Mt.of (by decide) (lb rfl) (Nat.le_refl _) rfl ?_
  rw [M_isFull] at hz
  show Rr y_M_isFull (1, 22, n, n, E) (qP M K) 0 [(0, vR 81)] [] E n M
  refine R_aload_n (pc := 0) 0 (dc k_M_isFull 0 rfl) rfl rfl ?_
  refine R_ldc2 (pc := 1) (a := 1717658484) (dc k_M_isFull 1 rfl) c_M_200 ?_
  refine R_cVP (pc := 4)  (As := [vJ 1717658484]) (S := []) ck_M_288 (dc k_M_isFull 2 rfl) ⟨rfl, ⟨_, rfl, rfl⟩, (lb rfl), (Nat.le_trans (lb rfl) hn)⟩ (lb rfl) (lb rfl) (lb rfl) rfl (ct_M_isWord hE hn (Z_bind hz)) (fun r_1 hz => ?_)
  refine R_if_eq (pc := 7) 30 (dc k_M_isFull 3 rfl) rfl (fun hc => ?_) (fun hc => ?_)
  · have hz := Z_neg (show ¬ (¬ n32 r_1 = 0) from (fun z => z hc)) hz
    refine R_aload_n (pc := 30) 0 (dc k_M_isFull 15 rfl) rfl rfl ?_
    refine R_ldc2 (pc := 31) (a := 123581014175598) (dc k_M_isFull 16 rfl) c_M_202 ?_
    refine R_cVP (pc := 34)  (As := [vJ 123581014175598]) (S := []) ck_M_288 (dc k_M_isFull 17 rfl) ⟨rfl, ⟨_, rfl, rfl⟩, (lb rfl), (Nat.le_trans (lb rfl) hn)⟩ (lb rfl) (lb rfl) (lb rfl) rfl (ct_M_isWord hE hn (Z_bind hz)) (fun r_5 hz => ?_)
    refine R_if_eq (pc := 37) 60 (dc k_M_isFull 18 rfl) rfl (fun hc => ?_) (fun hc => ?_)
    · have hz := Z_neg (show ¬ (¬ n32 r_5 = 0) from (fun z => z hc)) hz
      refine R_aload_n (pc := 60) 0 (dc k_M_isFull 30 rfl) rfl rfl ?_
      refine R_ldc2 (pc := 61) (a := 7499639) (dc k_M_isFull 31 rfl) c_M_208 ?_
      refine R_cVP (pc := 64)  (As := [vJ 7499639]) (S := []) ck_M_288 (dc k_M_isFull 32 rfl) ⟨rfl, ⟨_, rfl, rfl⟩, (lb rfl), (Nat.le_trans (lb rfl) hn)⟩ (lb rfl) (lb rfl) (lb rfl) rfl (ct_M_isWord hE hn (Z_bind hz)) (fun r_9 hz => ?_)
      refine R_if_eq (pc := 67) 90 (dc k_M_isFull 33 rfl) rfl (fun hc => ?_) (fun hc => ?_)
      · have hz := Z_neg (show ¬ (¬ n32 r_9 = 0) from (fun z => z hc)) hz
        refine R_aload_n (pc := 90) 0 (dc k_M_isFull 45 rfl) rfl rfl ?_
        refine R_ldc2 (pc := 91) (a := 107118487239027) (dc k_M_isFull 46 rfl) c_M_210 ?_
        refine R_cVP (pc := 94)  (As := [vJ 107118487239027]) (S := []) ck_M_288 (dc k_M_isFull 47 rfl) ⟨rfl, ⟨_, rfl, rfl⟩, (lb rfl), (Nat.le_trans (lb rfl) hn)⟩ (lb rfl) (lb rfl) (lb rfl) rfl (ct_M_isWord hE hn (Z_bind hz)) (fun r_13 hz => ?_)
        refine R_if_eq (pc := 97) 119 (dc k_M_isFull 48 rfl) rfl (fun hc => ?_) (fun hc => ?_)
        · have hz := Z_neg (show ¬ (¬ n32 r_13 = 0) from (fun z => z hc)) hz
          refine R_aload_n (pc := 119) 0 (dc k_M_isFull 60 rfl) rfl rfl ?_
          refine R_ldc2 (pc := 120) (a := 7629157) (dc k_M_isFull 61 rfl) c_M_212 ?_
          refine R_cVP (pc := 123)  (As := [vJ 7629157]) (S := []) ck_M_288 (dc k_M_isFull 62 rfl) ⟨rfl, ⟨_, rfl, rfl⟩, (lb rfl), (Nat.le_trans (lb rfl) hn)⟩ (lb rfl) (lb rfl) (lb rfl) rfl (ct_M_isWord hE hn (Z_bind hz)) (fun r_17 hz => ?_)
          refine R_if_eq (pc := 126) 149 (dc k_M_isFull 63 rfl) rfl (fun hc => ?_) (fun hc => ?_)
          · have hz := Z_neg (show ¬ (¬ n32 r_17 = 0) from (fun z => z hc)) hz
            refine R_aload_n (pc := 149) 0 (dc k_M_isFull 75 rfl) rfl rfl ?_
            refine R_ldc2 (pc := 150) (a := 2003399528) (dc k_M_isFull 76 rfl) c_M_216 ?_
            refine R_cVP (pc := 153)  (As := [vJ 2003399528]) (S := []) ck_M_288 (dc k_M_isFull 77 rfl) ⟨rfl, ⟨_, rfl, rfl⟩, (lb rfl), (Nat.le_trans (lb rfl) hn)⟩ (lb rfl) (lb rfl) (lb rfl) rfl (ct_M_isWord hE hn (Z_bind hz)) (fun r_21 hz => ?_)
            refine R_if_eq (pc := 156) 179 (dc k_M_isFull 78 rfl) rfl (fun hc => ?_) (fun hc => ?_)
            · have hz := Z_neg (show ¬ (¬ n32 r_21 = 0) from (fun z => z hc)) hz
              refine R_aload_n (pc := 179) 0 (dc k_M_isFull 90 rfl) rfl rfl ?_
              refine R_ldc2 (pc := 180) (a := 7102839) (dc k_M_isFull 91 rfl) c_M_220 ?_
              refine R_cVP (pc := 183)  (As := [vJ 7102839]) (S := []) ck_M_288 (dc k_M_isFull 92 rfl) ⟨rfl, ⟨_, rfl, rfl⟩, (lb rfl), (Nat.le_trans (lb rfl) hn)⟩ (lb rfl) (lb rfl) (lb rfl) rfl (ct_M_isWord hE hn (Z_bind hz)) (fun r_25 hz => ?_)
              obtain ⟨K_26, hK_27, hz⟩ := Z_cut hz
              have hX_28 : K_26 true → Rr y_M_isFull (1, 22, n, n, E) (qP M K) 201 [(0, vR 81)] [] E n M := by
                intro hk
                have hz := Z_pos rfl (hK_27 _ hk)
                refine R_iconst (pc := 201) (a := 1) (dc k_M_isFull 100 rfl) ?_
                refine R_goto (pc := 202) 206 (dc k_M_isFull 101 rfl) rfl ?_
                exact R_zret (pc := 206) (dc k_M_isFull 103 rfl) rfl (Or.inr rfl) rfl rfl ⟨_, rfl, rfl, (Z_some hz)⟩
              have hY_29 : K_26 false → Rr y_M_isFull (1, 22, n, n, E) (qP M K) 205 [(0, vR 81)] [] E n M := by
                intro hk
                have hz := Z_neg Bool.false_ne_true (hK_27 _ hk)
                refine R_iconst (pc := 205) (a := 0) (dc k_M_isFull 102 rfl) ?_
                exact R_zret (pc := 206) (dc k_M_isFull 103 rfl) rfl (Or.inl rfl) rfl rfl ⟨_, rfl, rfl, (Z_some hz)⟩
              refine R_if_eq (pc := 186) 201 (dc k_M_isFull 93 rfl) rfl (fun hc => ?_) (fun hc => ?_)
              · have hz := Z_neg (show ¬ (¬ n32 r_25 = 0) from (fun z => z hc)) hz
                exact hX_28 (Z_some hz)
              · have hz := Z_pos (show ¬ n32 r_25 = 0 from hc) hz
                refine R_aload_n (pc := 189) 0 (dc k_M_isFull 94 rfl) rfl rfl ?_
                refine R_getS (pc := 190) (ci := 10) (k := 18) 91 (dc k_M_isFull 95 rfl) fl_M_42 rfl (lb rfl) (Nat.le_trans (lb rfl) hn) (hE 81 (lb rfl) (lb rfl)) rfl (by decide) rfl ?_
                refine R_aload_n (pc := 193) 0 (dc k_M_isFull 96 rfl) rfl rfl ?_
                refine R_getI (pc := 194) (ci := 10) (k := 39) (dc k_M_isFull 97 rfl) fl_M_295 rfl (lb rfl) (Nat.le_trans (lb rfl) hn) rfl (Or.inl rfl) ?_
                obtain ⟨⟨hg_31, hg_32⟩, hz⟩ := Z_chk hz
                refine R_zald (pc := 197) (dc k_M_isFull 98 rfl) rfl (lb rfl) (Nat.le_trans (lb rfl) hn) hg_31 hg_32 ?_
                refine R_if_eq (pc := 198) 205 (dc k_M_isFull 99 rfl) rfl (fun hc => ?_) (fun hc => ?_)
                · have hz := Z_neg (show ¬ (¬ n32 (M 91 (Int.toNat (M 81 39))) = 0) from (fun z => z hc)) hz
                  exact hY_29 (Z_some hz)
                · have hz := Z_pos (show ¬ n32 (M 91 (Int.toNat (M 81 39))) = 0 from hc) hz
                  exact hX_28 (Z_some hz)
            · have hz := Z_pos (show ¬ n32 r_21 = 0 from hc) hz
              refine R_aload_n (pc := 159) 0 (dc k_M_isFull 79 rfl) rfl rfl ?_
              refine R_getS (pc := 160) (ci := 10) (k := 16) 89 (dc k_M_isFull 80 rfl) fl_M_36 rfl (lb rfl) (Nat.le_trans (lb rfl) hn) (hE 81 (lb rfl) (lb rfl)) rfl (by decide) rfl ?_
              refine R_aload_n (pc := 163) 0 (dc k_M_isFull 81 rfl) rfl rfl ?_
              refine R_getI (pc := 164) (ci := 10) (k := 39) (dc k_M_isFull 82 rfl) fl_M_295 rfl (lb rfl) (Nat.le_trans (lb rfl) hn) rfl (Or.inl rfl) ?_
              obtain ⟨⟨hg_22, hg_23⟩, hz⟩ := Z_chk hz
              refine R_iald (pc := 167) (dc k_M_isFull 83 rfl) rfl (lb rfl) (Nat.le_trans (lb rfl) hn) hg_22 hg_23 ?_
              refine R_bipush (pc := 168) (a := 12) (dc k_M_isFull 84 rfl) (by decide) ?_
              refine R_icmp_ne (pc := 170) 177 (dc k_M_isFull 85 rfl) rfl (fun hc => ?_) (fun hc => ?_)
              · have hz := Z_neg (show ¬ (n32 (M 89 (Int.toNat (M 81 39))) = 12) from hc) hz
                refine R_iconst (pc := 177) (a := 0) (dc k_M_isFull 88 rfl) ?_
                exact R_zret (pc := 178) (dc k_M_isFull 89 rfl) rfl (Or.inl rfl) rfl rfl ⟨_, rfl, rfl, (Z_some hz)⟩
              · have hz := Z_pos (show n32 (M 89 (Int.toNat (M 81 39))) = 12 from (Decidable.not_not.mp hc)) hz
                refine R_iconst (pc := 173) (a := 1) (dc k_M_isFull 86 rfl) ?_
                refine R_goto (pc := 174) 178 (dc k_M_isFull 87 rfl) rfl ?_
                exact R_zret (pc := 178) (dc k_M_isFull 89 rfl) rfl (Or.inr rfl) rfl rfl ⟨_, rfl, rfl, (Z_some hz)⟩
          · have hz := Z_pos (show ¬ n32 r_17 = 0 from hc) hz
            refine R_aload_n (pc := 129) 0 (dc k_M_isFull 64 rfl) rfl rfl ?_
            refine R_getS (pc := 130) (ci := 10) (k := 15) 88 (dc k_M_isFull 65 rfl) fl_M_33 rfl (lb rfl) (Nat.le_trans (lb rfl) hn) (hE 81 (lb rfl) (lb rfl)) rfl (by decide) rfl ?_
            refine R_aload_n (pc := 133) 0 (dc k_M_isFull 66 rfl) rfl rfl ?_
            refine R_getI (pc := 134) (ci := 10) (k := 39) (dc k_M_isFull 67 rfl) fl_M_295 rfl (lb rfl) (Nat.le_trans (lb rfl) hn) rfl (Or.inl rfl) ?_
            obtain ⟨⟨hg_18, hg_19⟩, hz⟩ := Z_chk hz
            refine R_iald (pc := 137) (dc k_M_isFull 68 rfl) rfl (lb rfl) (Nat.le_trans (lb rfl) hn) hg_18 hg_19 ?_
            refine R_bipush (pc := 138) (a := 12) (dc k_M_isFull 69 rfl) (by decide) ?_
            refine R_icmp_ne (pc := 140) 147 (dc k_M_isFull 70 rfl) rfl (fun hc => ?_) (fun hc => ?_)
            · have hz := Z_neg (show ¬ (n32 (M 88 (Int.toNat (M 81 39))) = 12) from hc) hz
              refine R_iconst (pc := 147) (a := 0) (dc k_M_isFull 73 rfl) ?_
              exact R_zret (pc := 148) (dc k_M_isFull 74 rfl) rfl (Or.inl rfl) rfl rfl ⟨_, rfl, rfl, (Z_some hz)⟩
            · have hz := Z_pos (show n32 (M 88 (Int.toNat (M 81 39))) = 12 from (Decidable.not_not.mp hc)) hz
              refine R_iconst (pc := 143) (a := 1) (dc k_M_isFull 71 rfl) ?_
              refine R_goto (pc := 144) 148 (dc k_M_isFull 72 rfl) rfl ?_
              exact R_zret (pc := 148) (dc k_M_isFull 74 rfl) rfl (Or.inr rfl) rfl rfl ⟨_, rfl, rfl, (Z_some hz)⟩
        · have hz := Z_pos (show ¬ n32 r_13 = 0 from hc) hz
          refine R_aload_n (pc := 100) 0 (dc k_M_isFull 49 rfl) rfl rfl ?_
          refine R_getS (pc := 101) (ci := 10) (k := 14) 87 (dc k_M_isFull 50 rfl) fl_M_30 rfl (lb rfl) (Nat.le_trans (lb rfl) hn) (hE 81 (lb rfl) (lb rfl)) rfl (by decide) rfl ?_
          refine R_aload_n (pc := 104) 0 (dc k_M_isFull 51 rfl) rfl rfl ?_
          refine R_getI (pc := 105) (ci := 10) (k := 39) (dc k_M_isFull 52 rfl) fl_M_295 rfl (lb rfl) (Nat.le_trans (lb rfl) hn) rfl (Or.inl rfl) ?_
          obtain ⟨⟨hg_14, hg_15⟩, hz⟩ := Z_chk hz
          refine R_iald (pc := 108) (dc k_M_isFull 53 rfl) rfl (lb rfl) (Nat.le_trans (lb rfl) hn) hg_14 hg_15 ?_
          refine R_iconst (pc := 109) (a := 4) (dc k_M_isFull 54 rfl) ?_
          refine R_icmp_ne (pc := 110) 117 (dc k_M_isFull 55 rfl) rfl (fun hc => ?_) (fun hc => ?_)
          · have hz := Z_neg (show ¬ (n32 (M 87 (Int.toNat (M 81 39))) = 4) from hc) hz
            refine R_iconst (pc := 117) (a := 0) (dc k_M_isFull 58 rfl) ?_
            exact R_zret (pc := 118) (dc k_M_isFull 59 rfl) rfl (Or.inl rfl) rfl rfl ⟨_, rfl, rfl, (Z_some hz)⟩
          · have hz := Z_pos (show n32 (M 87 (Int.toNat (M 81 39))) = 4 from (Decidable.not_not.mp hc)) hz
            refine R_iconst (pc := 113) (a := 1) (dc k_M_isFull 56 rfl) ?_
            refine R_goto (pc := 114) 118 (dc k_M_isFull 57 rfl) rfl ?_
            exact R_zret (pc := 118) (dc k_M_isFull 59 rfl) rfl (Or.inr rfl) rfl rfl ⟨_, rfl, rfl, (Z_some hz)⟩
      · have hz := Z_pos (show ¬ n32 r_9 = 0 from hc) hz
        refine R_aload_n (pc := 70) 0 (dc k_M_isFull 34 rfl) rfl rfl ?_
        refine R_getS (pc := 71) (ci := 10) (k := 13) 86 (dc k_M_isFull 35 rfl) fl_M_27 rfl (lb rfl) (Nat.le_trans (lb rfl) hn) (hE 81 (lb rfl) (lb rfl)) rfl (by decide) rfl ?_
        refine R_aload_n (pc := 74) 0 (dc k_M_isFull 36 rfl) rfl rfl ?_
        refine R_getI (pc := 75) (ci := 10) (k := 39) (dc k_M_isFull 37 rfl) fl_M_295 rfl (lb rfl) (Nat.le_trans (lb rfl) hn) rfl (Or.inl rfl) ?_
        obtain ⟨⟨hg_10, hg_11⟩, hz⟩ := Z_chk hz
        refine R_iald (pc := 78) (dc k_M_isFull 38 rfl) rfl (lb rfl) (Nat.le_trans (lb rfl) hn) hg_10 hg_11 ?_
        refine R_bipush (pc := 79) (a := 12) (dc k_M_isFull 39 rfl) (by decide) ?_
        refine R_icmp_ne (pc := 81) 88 (dc k_M_isFull 40 rfl) rfl (fun hc => ?_) (fun hc => ?_)
        · have hz := Z_neg (show ¬ (n32 (M 86 (Int.toNat (M 81 39))) = 12) from hc) hz
          refine R_iconst (pc := 88) (a := 0) (dc k_M_isFull 43 rfl) ?_
          exact R_zret (pc := 89) (dc k_M_isFull 44 rfl) rfl (Or.inl rfl) rfl rfl ⟨_, rfl, rfl, (Z_some hz)⟩
        · have hz := Z_pos (show n32 (M 86 (Int.toNat (M 81 39))) = 12 from (Decidable.not_not.mp hc)) hz
          refine R_iconst (pc := 84) (a := 1) (dc k_M_isFull 41 rfl) ?_
          refine R_goto (pc := 85) 89 (dc k_M_isFull 42 rfl) rfl ?_
          exact R_zret (pc := 89) (dc k_M_isFull 44 rfl) rfl (Or.inr rfl) rfl rfl ⟨_, rfl, rfl, (Z_some hz)⟩
    · have hz := Z_pos (show ¬ n32 r_5 = 0 from hc) hz
      refine R_aload_n (pc := 40) 0 (dc k_M_isFull 19 rfl) rfl rfl ?_
      refine R_getS (pc := 41) (ci := 10) (k := 12) 85 (dc k_M_isFull 20 rfl) fl_M_24 rfl (lb rfl) (Nat.le_trans (lb rfl) hn) (hE 81 (lb rfl) (lb rfl)) rfl (by decide) rfl ?_
      refine R_aload_n (pc := 44) 0 (dc k_M_isFull 21 rfl) rfl rfl ?_
      refine R_getI (pc := 45) (ci := 10) (k := 39) (dc k_M_isFull 22 rfl) fl_M_295 rfl (lb rfl) (Nat.le_trans (lb rfl) hn) rfl (Or.inl rfl) ?_
      obtain ⟨⟨hg_6, hg_7⟩, hz⟩ := Z_chk hz
      refine R_iald (pc := 48) (dc k_M_isFull 23 rfl) rfl (lb rfl) (Nat.le_trans (lb rfl) hn) hg_6 hg_7 ?_
      refine R_bipush (pc := 49) (a := 8) (dc k_M_isFull 24 rfl) (by decide) ?_
      refine R_icmp_ne (pc := 51) 58 (dc k_M_isFull 25 rfl) rfl (fun hc => ?_) (fun hc => ?_)
      · have hz := Z_neg (show ¬ (n32 (M 85 (Int.toNat (M 81 39))) = 8) from hc) hz
        refine R_iconst (pc := 58) (a := 0) (dc k_M_isFull 28 rfl) ?_
        exact R_zret (pc := 59) (dc k_M_isFull 29 rfl) rfl (Or.inl rfl) rfl rfl ⟨_, rfl, rfl, (Z_some hz)⟩
      · have hz := Z_pos (show n32 (M 85 (Int.toNat (M 81 39))) = 8 from (Decidable.not_not.mp hc)) hz
        refine R_iconst (pc := 54) (a := 1) (dc k_M_isFull 26 rfl) ?_
        refine R_goto (pc := 55) 59 (dc k_M_isFull 27 rfl) rfl ?_
        exact R_zret (pc := 59) (dc k_M_isFull 29 rfl) rfl (Or.inr rfl) rfl rfl ⟨_, rfl, rfl, (Z_some hz)⟩
  · have hz := Z_pos (show ¬ n32 r_1 = 0 from hc) hz
    refine R_aload_n (pc := 10) 0 (dc k_M_isFull 4 rfl) rfl rfl ?_
    refine R_getS (pc := 11) (ci := 10) (k := 11) 84 (dc k_M_isFull 5 rfl) fl_M_20 rfl (lb rfl) (Nat.le_trans (lb rfl) hn) (hE 81 (lb rfl) (lb rfl)) rfl (by decide) rfl ?_
    refine R_aload_n (pc := 14) 0 (dc k_M_isFull 6 rfl) rfl rfl ?_
    refine R_getI (pc := 15) (ci := 10) (k := 39) (dc k_M_isFull 7 rfl) fl_M_295 rfl (lb rfl) (Nat.le_trans (lb rfl) hn) rfl (Or.inl rfl) ?_
    obtain ⟨⟨hg_2, hg_3⟩, hz⟩ := Z_chk hz
    refine R_iald (pc := 18) (dc k_M_isFull 8 rfl) rfl (lb rfl) (Nat.le_trans (lb rfl) hn) hg_2 hg_3 ?_
    refine R_bipush (pc := 19) (a := 8) (dc k_M_isFull 9 rfl) (by decide) ?_
    refine R_icmp_ne (pc := 21) 28 (dc k_M_isFull 10 rfl) rfl (fun hc => ?_) (fun hc => ?_)
    · have hz := Z_neg (show ¬ (n32 (M 84 (Int.toNat (M 81 39))) = 8) from hc) hz
      refine R_iconst (pc := 28) (a := 0) (dc k_M_isFull 13 rfl) ?_
      exact R_zret (pc := 29) (dc k_M_isFull 14 rfl) rfl (Or.inl rfl) rfl rfl ⟨_, rfl, rfl, (Z_some hz)⟩
    · have hz := Z_pos (show n32 (M 84 (Int.toNat (M 81 39))) = 8 from (Decidable.not_not.mp hc)) hz
      refine R_iconst (pc := 24) (a := 1) (dc k_M_isFull 11 rfl) ?_
      refine R_goto (pc := 25) 29 (dc k_M_isFull 12 rfl) rfl ?_
      exact R_zret (pc := 29) (dc k_M_isFull 14 rfl) rfl (Or.inr rfl) rfl rfl ⟨_, rfl, rfl, (Z_some hz)⟩

set_option maxRecDepth 20000 in
theorem ct_M_fails {E : Nat → Bool} {n : Nat} (hE : ∀ c, 81 ≤ c → c ≤ 138 → E c = true) (hn : 138 ≤ n) {kind : Int} {place : Int} {M : Mem} {K : Mem → Prop} (hz : Z (M_fails kind place M) K) : Mt y_M_fails (0, 0, n, n, E) E [vR 81, vI kind, vI place] M (qV K) := by
  refine Mt.of (by decide) (lb rfl) (Nat.le_refl _) rfl ?_
  rw [M_fails] at hz
  show Rr y_M_fails (0, 0, n, n, E) (qV K) 0 [(0, vR 81), (1, vI kind), (2, vI place)] [] E n M
  refine R_aload_n (pc := 0) 0 (dc k_M_fails 0 rfl) rfl rfl ?_
  refine R_getI (pc := 1) (ci := 10) (k := 4) (dc k_M_fails 1 rfl) fl_M_197 rfl (lb rfl) (Nat.le_trans (lb rfl) hn) rfl (Or.inl rfl) ?_
  refine R_if_le (pc := 4) 8 (dc k_M_fails 2 rfl) rfl (fun hc => ?_) (fun hc => ?_)
  · have hz := Z_neg (show ¬ (0 < n32 (M 81 4)) from (Int.not_lt.mpr hc)) hz
    refine R_aload_n (pc := 8) 0 (dc k_M_fails 4 rfl) rfl rfl ?_
    refine R_iload_n (pc := 9) 1 (dc k_M_fails 5 rfl) rfl rfl ?_
    obtain ⟨M_1, hM_1, hz⟩ := Z_lt hz
    refine R_putIE (pc := 10) (ci := 10) (k := 4) (dc k_M_fails 6 rfl) fl_M_197 rfl (lb rfl) (Nat.le_trans (lb rfl) hn) rfl rfl rfl hM_1 ?_
    refine R_aload_n (pc := 13) 0 (dc k_M_fails 7 rfl) rfl rfl ?_
    refine R_iload_n (pc := 14) 2 (dc k_M_fails 8 rfl) rfl rfl ?_
    obtain ⟨M_2, hM_2, hz⟩ := Z_lt hz
    refine R_putIE (pc := 15) (ci := 10) (k := 5) (dc k_M_fails 9 rfl) fl_M_16 rfl (lb rfl) (Nat.le_trans (lb rfl) hn) rfl rfl rfl hM_2 ?_
    exact R_vret (pc := 18) (dc k_M_fails 10 rfl) rfl rfl rfl ⟨rfl, (Z_some hz)⟩
  · have hz := Z_pos (show 0 < n32 (M 81 4) from (Int.not_le.mp hc)) hz
    exact R_vret (pc := 7) (dc k_M_fails 3 rfl) rfl rfl rfl ⟨rfl, (Z_some hz)⟩

set_option maxRecDepth 20000 in
theorem ct_M_misplaced {E : Nat → Bool} {n : Nat} (hE : ∀ c, 81 ≤ c → c ≤ 138 → E c = true) (hn : 138 ≤ n) {M : Mem} {K : Mem → Prop} (hz : Z (M_misplaced M) K) : Mt y_M_misplaced (1, 22, n, n, E) E [vR 81] M (qV K) := by
  refine Mt.of (by decide) (lb rfl) (Nat.le_refl _) rfl ?_
  rw [M_misplaced] at hz
  show Rr y_M_misplaced (1, 22, n, n, E) (qV K) 0 [(0, vR 81)] [] E n M
  refine R_aload_n (pc := 0) 0 (dc k_M_misplaced 0 rfl) rfl rfl ?_
  refine R_aload_n (pc := 1) 0 (dc k_M_misplaced 1 rfl) rfl rfl ?_
  refine R_getI (pc := 2) (ci := 10) (k := 8) (dc k_M_misplaced 2 rfl) fl_M_250 rfl (lb rfl) (Nat.le_trans (lb rfl) hn) rfl (Or.inl rfl) ?_
  refine R_iconst (pc := 5) (a := 1) (dc k_M_misplaced 3 rfl) ?_
  obtain ⟨K_2, hK_3, hz⟩ := Z_cut hz
  have hJ_4 : ∀ (v_1 : Int), K_2 v_1 → Rr y_M_misplaced (1, 22, n, n, E) (qV K) 14 [(0, vR 81)] [vI v_1, vR 81] E n M := by
    intro v_1 hk
    have hz := hK_3 _ hk
    refine R_aload_n (pc := 14) 0 (dc k_M_misplaced 8 rfl) rfl rfl ?_
    refine R_getI (pc := 15) (ci := 10) (k := 6) (dc k_M_misplaced 9 rfl) fl_M_243 rfl (lb rfl) (Nat.le_trans (lb rfl) hn) rfl (Or.inl rfl) ?_
    refine R_cVV (pc := 18)  (As := [vI v_1, vI (M 81 6)]) (S := []) ck_M_274 (dc k_M_misplaced 10 rfl) ⟨rfl, ⟨_, rfl, rfl⟩, (lb rfl), (Nat.le_trans (lb rfl) hn)⟩ (lb rfl) (lb rfl) (lb rfl) rfl (ct_M_fails hE hn (Z_bind hz)) (fun M_6 hz => ?_)
    exact R_vret (pc := 21) (dc k_M_misplaced 11 rfl) rfl rfl rfl ⟨rfl, (Z_some hz)⟩
  refine R_icmp_ne (pc := 6) 13 (dc k_M_misplaced 4 rfl) rfl (fun hc => ?_) (fun hc => ?_)
  · have hz := Z_neg (show ¬ (n32 (M 81 8) = 1) from hc) hz
    refine R_iconst (pc := 13) (a := 2) (dc k_M_misplaced 7 rfl) ?_
    exact hJ_4 _ (Z_some hz)
  · have hz := Z_pos (show n32 (M 81 8) = 1 from (Decidable.not_not.mp hc)) hz
    refine R_iconst (pc := 9) (a := 1) (dc k_M_misplaced 5 rfl) ?_
    refine R_goto (pc := 10) 14 (dc k_M_misplaced 6 rfl) rfl ?_
    exact hJ_4 _ (Z_some hz)

set_option maxRecDepth 20000 in
theorem ct_M_here {E : Nat → Bool} {n : Nat} (hE : ∀ c, 81 ≤ c → c ≤ 138 → E c = true) (hn : 138 ≤ n) {row : Nat} {from_ : Int} {many : Int} {M : Mem} {K : Int → Prop} (hz : Z (M_here row from_ many M) K) : Mt y_M_here (0, 0, n, n, E) E [vR 81, vR row, vI from_, vI many] M (qP M K) := by
  refine Mt.of (by decide) (lb rfl) (Nat.le_refl _) rfl ?_
  rw [M_here] at hz
  show Rr y_M_here (0, 0, n, n, E) (qP M K) 0 [(0, vR 81), (1, vR row), (2, vI from_), (3, vI many)] [] E n M
  refine R_iconst (pc := 0) (a := 0) (dc k_M_here 0 rfl) ?_
  refine R_istore (pc := 1) (L' := [(4, vI 0), (0, vR 81), (1, vR row), (2, vI from_), (3, vI many)]) (dc k_M_here 1 rfl) (lb rfl) rfl ?_
  obtain ⟨K_2, hK_3, hz⟩ := Z_cut hz
  have hX_4 : K_2 (.inl ()) → Rr y_M_here (0, 0, n, n, E) (qP M K) 40 [] [] E n M := by
    intro  hk
    have hz := hK_3 _ hk
    refine R_iconst (pc := 40) (a := (-1)) (dc k_M_here 22 rfl) ?_
    exact R_iret (pc := 41) (dc k_M_here 23 rfl) rfl rfl rfl ⟨_, rfl, rfl, (Z_some hz)⟩
  refine R_sub [1, 2, 3, 4, 0] rfl ?_
  refine it_R (C := fun aZ : Int => Rr y_M_here (0, 0, n, n, E) (qP M K) 3 [(0, vR 81), (1, vR row), (2, vI from_), (3, vI many), (4, vI aZ)] [] E n M) (fun l4_1 K_5 hC_6 hB_7 hz => ?_) FUEL 0 hz
  rw [M_here_b3] at hz
  show Rr y_M_here (0, 0, n, n, E) (qP M K) 3 [(0, vR 81), (1, vR row), (2, vI from_), (3, vI many), (4, vI l4_1)] [] E n M
  refine R_iload (pc := 3) 4 (dc k_M_here 2 rfl) rfl ?_
  refine R_iload_n (pc := 5) 3 (dc k_M_here 3 rfl) rfl rfl ?_
  refine R_icmp_ge (pc := 6) 40 (dc k_M_here 4 rfl) rfl (fun hc => ?_) (fun hc => ?_)
  · have hz := Z_neg (show ¬ (n32 l4_1 < n32 many) from (Int.not_lt.mpr hc)) hz
    refine R_sub [] rfl ?_
    exact hX_4 (hB_7 _ (Z_some hz))
  · have hz := Z_pos (show n32 l4_1 < n32 many from (Int.not_le.mp hc)) hz
    refine R_aload_n (pc := 9) 0 (dc k_M_here 5 rfl) rfl rfl ?_
    refine R_getI (pc := 10) (ci := 10) (k := 8) (dc k_M_here 6 rfl) fl_M_250 rfl (lb rfl) (Nat.le_trans (lb rfl) hn) rfl (Or.inl rfl) ?_
    refine R_iconst (pc := 13) (a := 2) (dc k_M_here 7 rfl) ?_
    obtain ⟨K_8, hK_9, hz⟩ := Z_cut hz
    have hX_10 : K_8 true → Rr y_M_here (0, 0, n, n, E) (qP M K) 31 [(0, vR 81), (1, vR row), (2, vI from_), (3, vI many), (4, vI l4_1)] [] E n M := by
      intro hk
      have hz := Z_pos rfl (hK_9 _ hk)
      refine R_iload (pc := 31) 4 (dc k_M_here 18 rfl) rfl ?_
      exact R_iret (pc := 33) (dc k_M_here 19 rfl) rfl rfl rfl ⟨_, rfl, rfl, (Z_some (hK_3 _ (hB_7 _ (Z_some hz))))⟩
    have hY_11 : K_8 false → Rr y_M_here (0, 0, n, n, E) (qP M K) 34 [(0, vR 81), (1, vR row), (2, vI from_), (3, vI many), (4, vI l4_1)] [] E n M := by
      intro hk
      have hz := Z_neg Bool.false_ne_true (hK_9 _ hk)
      obtain ⟨l4_20, hl4_20, hz⟩ := Z_lt hz
      refine R_iincE (pc := 34) (L' := [(4, vI l4_20), (0, vR 81), (1, vR row), (2, vI from_), (3, vI many)]) 4 (dc k_M_here 20 rfl) rfl (lb rfl) hl4_20 rfl ?_
      refine R_goto (pc := 37) 3 (dc k_M_here 21 rfl) rfl ?_
      refine R_sub [1, 2, 3, 4, 0] rfl ?_
      exact hC_6 _ (Z_some hz)
    refine R_icmp_ne (pc := 14) 34 (dc k_M_here 8 rfl) rfl (fun hc => ?_) (fun hc => ?_)
    · have hz := Z_neg (show ¬ (n32 (M 81 8) = 2) from hc) hz
      exact hY_11 (Z_some hz)
    · have hz := Z_pos (show n32 (M 81 8) = 2 from (Decidable.not_not.mp hc)) hz
      refine R_aload_n (pc := 17) 1 (dc k_M_here 9 rfl) rfl rfl ?_
      refine R_iload_n (pc := 18) 2 (dc k_M_here 10 rfl) rfl rfl ?_
      refine R_iload (pc := 19) 4 (dc k_M_here 11 rfl) rfl ?_
      refine R_iadd (pc := 21) (dc k_M_here 12 rfl) ?_
      obtain ⟨⟨hg_13, hg_14⟩, hz⟩ := Z_chk hz
      obtain ⟨hg_15, hg_16, hg_17, hg_18, hg_19⟩ := aJ_at hg_13 hg_14
      refine R_lald (pc := 22) (dc k_M_here 13 rfl) hg_16 hg_19 (Nat.le_trans hg_18 hn) hg_13 hg_17 ?_
      refine R_aload_n (pc := 23) 0 (dc k_M_here 14 rfl) rfl rfl ?_
      refine R_getJ (pc := 24) (ci := 10) (k := 10) (dc k_M_here 15 rfl) fl_M_257 rfl (lb rfl) (Nat.le_trans (lb rfl) hn) rfl rfl ?_
      refine R_lcmp (pc := 27) (dc k_M_here 16 rfl) ?_
      refine R_if_ne (pc := 28) 34 (dc k_M_here 17 rfl) rfl (fun hc => ?_) (fun hc => ?_)
      · have hz := Z_neg (show ¬ (n64 (M row (Int.toNat (from_ + l4_1))) = n64 (M 81 10)) from (fun z => hc (jcmp_eq.mpr z))) hz
        exact hY_11 (Z_some hz)
      · have hz := Z_pos (show n64 (M row (Int.toNat (from_ + l4_1))) = n64 (M 81 10) from (jcmp_eq.mp (Decidable.not_not.mp hc))) hz
        exact hX_10 (Z_some hz)

set_option maxRecDepth 20000 in
theorem ct_M_factHere {E : Nat → Bool} {n : Nat} (hE : ∀ c, 81 ≤ c → c ≤ 138 → E c = true) (hn : 138 ≤ n) {M : Mem} {K : Int → Prop} (hz : Z (M_factHere M) K) : Mt y_M_factHere (1, 24, n, n, E) E [vR 81] M (qP M K) := by
  refine Mt.of (by decide) (lb rfl) (Nat.le_refl _) rfl ?_
  rw [M_factHere] at hz
  show Rr y_M_factHere (1, 24, n, n, E) (qP M K) 0 [(0, vR 81)] [] E n M
  refine R_aload_n (pc := 0) 0 (dc k_M_factHere 0 rfl) rfl rfl ?_
  refine R_aload_n (pc := 1) 0 (dc k_M_factHere 1 rfl) rfl rfl ?_
  refine R_getS (pc := 2) (ci := 10) (k := 20) 93 (dc k_M_factHere 2 rfl) fl_M_49 rfl (lb rfl) (Nat.le_trans (lb rfl) hn) (hE 81 (lb rfl) (lb rfl)) rfl (by decide) rfl ?_
  refine R_bipush (pc := 5) (a := 8) (dc k_M_factHere 3 rfl) (by decide) ?_
  refine R_aload_n (pc := 7) 0 (dc k_M_factHere 4 rfl) rfl rfl ?_
  refine R_getI (pc := 8) (ci := 10) (k := 39) (dc k_M_factHere 5 rfl) fl_M_295 rfl (lb rfl) (Nat.le_trans (lb rfl) hn) rfl (Or.inl rfl) ?_
  refine R_imul (pc := 11) (dc k_M_factHere 6 rfl) ?_
  refine R_aload_n (pc := 12) 0 (dc k_M_factHere 7 rfl) rfl rfl ?_
  refine R_getS (pc := 13) (ci := 10) (k := 11) 84 (dc k_M_factHere 8 rfl) fl_M_20 rfl (lb rfl) (Nat.le_trans (lb rfl) hn) (hE 81 (lb rfl) (lb rfl)) rfl (by decide) rfl ?_
  refine R_aload_n (pc := 16) 0 (dc k_M_factHere 9 rfl) rfl rfl ?_
  refine R_getI (pc := 17) (ci := 10) (k := 39) (dc k_M_factHere 10 rfl) fl_M_295 rfl (lb rfl) (Nat.le_trans (lb rfl) hn) rfl (Or.inl rfl) ?_
  obtain ⟨⟨hg_1, hg_2⟩, hz⟩ := Z_chk hz
  refine R_iald (pc := 20) (dc k_M_factHere 11 rfl) rfl (lb rfl) (Nat.le_trans (lb rfl) hn) hg_1 hg_2 ?_
  refine R_cVP (pc := 21)  (As := [vR 93, vI (8 * (M 81 39)), vI (M 84 (Int.toNat (M 81 39)))]) (S := []) ck_M_344 (dc k_M_factHere 12 rfl) ⟨rfl, ⟨_, rfl, rfl⟩, (lb rfl), (Nat.le_trans (lb rfl) hn)⟩ (lb rfl) (lb rfl) (lb rfl) rfl (ct_M_here hE hn (Z_bind hz)) (fun r_3 hz => ?_)
  exact R_iret (pc := 24) (dc k_M_factHere 13 rfl) rfl rfl rfl ⟨_, rfl, rfl, (Z_some hz)⟩

set_option maxRecDepth 20000 in
theorem ct_M_rowHere {E : Nat → Bool} {n : Nat} (hE : ∀ c, 81 ≤ c → c ≤ 138 → E c = true) (hn : 138 ≤ n) {M : Mem} {K : Int → Prop} (hz : Z (M_rowHere M) K) : Mt y_M_rowHere (1, 24, n, n, E) E [vR 81] M (qP M K) := by
  refine Mt.of (by decide) (lb rfl) (Nat.le_refl _) rfl ?_
  rw [M_rowHere] at hz
  show Rr y_M_rowHere (1, 24, n, n, E) (qP M K) 0 [(0, vR 81)] [] E n M
  refine R_aload_n (pc := 0) 0 (dc k_M_rowHere 0 rfl) rfl rfl ?_
  refine R_aload_n (pc := 1) 0 (dc k_M_rowHere 1 rfl) rfl rfl ?_
  refine R_getS (pc := 2) (ci := 10) (k := 22) 95 (dc k_M_rowHere 2 rfl) fl_M_56 rfl (lb rfl) (Nat.le_trans (lb rfl) hn) (hE 81 (lb rfl) (lb rfl)) rfl (by decide) rfl ?_
  refine R_bipush (pc := 5) (a := 12) (dc k_M_rowHere 3 rfl) (by decide) ?_
  refine R_aload_n (pc := 7) 0 (dc k_M_rowHere 4 rfl) rfl rfl ?_
  refine R_getI (pc := 8) (ci := 10) (k := 39) (dc k_M_rowHere 5 rfl) fl_M_295 rfl (lb rfl) (Nat.le_trans (lb rfl) hn) rfl (Or.inl rfl) ?_
  refine R_imul (pc := 11) (dc k_M_rowHere 6 rfl) ?_
  refine R_aload_n (pc := 12) 0 (dc k_M_rowHere 7 rfl) rfl rfl ?_
  refine R_getS (pc := 13) (ci := 10) (k := 13) 86 (dc k_M_rowHere 8 rfl) fl_M_27 rfl (lb rfl) (Nat.le_trans (lb rfl) hn) (hE 81 (lb rfl) (lb rfl)) rfl (by decide) rfl ?_
  refine R_aload_n (pc := 16) 0 (dc k_M_rowHere 9 rfl) rfl rfl ?_
  refine R_getI (pc := 17) (ci := 10) (k := 39) (dc k_M_rowHere 10 rfl) fl_M_295 rfl (lb rfl) (Nat.le_trans (lb rfl) hn) rfl (Or.inl rfl) ?_
  obtain ⟨⟨hg_1, hg_2⟩, hz⟩ := Z_chk hz
  refine R_iald (pc := 20) (dc k_M_rowHere 11 rfl) rfl (lb rfl) (Nat.le_trans (lb rfl) hn) hg_1 hg_2 ?_
  refine R_cVP (pc := 21)  (As := [vR 95, vI (12 * (M 81 39)), vI (M 86 (Int.toNat (M 81 39)))]) (S := []) ck_M_344 (dc k_M_rowHere 12 rfl) ⟨rfl, ⟨_, rfl, rfl⟩, (lb rfl), (Nat.le_trans (lb rfl) hn)⟩ (lb rfl) (lb rfl) (lb rfl) rfl (ct_M_here hE hn (Z_bind hz)) (fun r_3 hz => ?_)
  exact R_iret (pc := 24) (dc k_M_rowHere 13 rfl) rfl rfl rfl ⟨_, rfl, rfl, (Z_some hz)⟩

set_option maxRecDepth 20000 in
theorem ct_M_fresh {E : Nat → Bool} {n : Nat} (hE : ∀ c, 81 ≤ c → c ≤ 138 → E c = true) (hn : 138 ≤ n) {has_ : Int} {M : Mem} {K : Int × Mem → Prop} (hz : Z (M_fresh has_ M) K) : Mt y_M_fresh (2, 44, n, n, E) E [vR 81, vI has_] M (qN K) := by
  refine Mt.of (by decide) (lb rfl) (Nat.le_refl _) rfl ?_
  rw [M_fresh] at hz
  show Rr y_M_fresh (2, 44, n, n, E) (qN K) 0 [(0, vR 81), (1, vI has_)] [] E n M
  refine R_aload_n (pc := 0) 0 (dc k_M_fresh 0 rfl) rfl rfl ?_
  refine R_cVP (pc := 1)  (As := []) (S := []) ck_M_278 (dc k_M_fresh 1 rfl) ⟨rfl, ⟨_, rfl, rfl⟩, (lb rfl), (Nat.le_trans (lb rfl) hn)⟩ (lb rfl) (lb rfl) (lb rfl) rfl (ct_M_isGood hE hn (Z_bind hz)) (fun r_1 hz => ?_)
  refine R_if_ne (pc := 4) 9 (dc k_M_fresh 2 rfl) rfl (fun hc => ?_) (fun hc => ?_)
  · have hz := Z_neg (show ¬ (n32 r_1 = 0) from hc) hz
    refine R_aload_n (pc := 9) 0 (dc k_M_fresh 5 rfl) rfl rfl ?_
    refine R_getI (pc := 10) (ci := 10) (k := 8) (dc k_M_fresh 6 rfl) fl_M_250 rfl (lb rfl) (Nat.le_trans (lb rfl) hn) rfl (Or.inl rfl) ?_
    refine R_iconst (pc := 13) (a := 2) (dc k_M_fresh 7 rfl) ?_
    obtain ⟨K_3, hK_4, hz⟩ := Z_cut hz
    have hJ_5 : ∀ (M_2 : Mem), K_3 M_2 → Rr y_M_fresh (2, 44, n, n, E) (qN K) 37 [(0, vR 81)] [] E n M_2 := by
      intro M_2 hk
      have hz := hK_4 _ hk
      refine R_aload_n (pc := 37) 0 (dc k_M_fresh 19 rfl) rfl rfl ?_
      refine R_getJ (pc := 38) (ci := 10) (k := 10) (dc k_M_fresh 20 rfl) fl_M_257 rfl (lb rfl) (Nat.le_trans (lb rfl) hn) rfl rfl ?_
      obtain ⟨l2_10, hl2_10, hz⟩ := Z_lt hz
      refine R_lstore_nE (pc := 41) (L' := [(2, vJ l2_10), (0, vR 81)]) (dc k_M_fresh 21 rfl) rfl (lb rfl) hl2_10 rfl ?_
      refine R_aload_n (pc := 42) 1 (dc k_M_fresh 22 rfl) rfl rfl ?_
      refine R_cVP (pc := 43)  (As := []) (S := []) ck_M_278 (dc k_M_fresh 23 rfl) ⟨rfl, ⟨_, rfl, rfl⟩, (lb rfl), (Nat.le_trans (lb rfl) hn)⟩ (lb rfl) (lb rfl) (lb rfl) rfl (ct_M_isGood hE hn (Z_bind hz)) (fun r_11 hz => ?_)
      obtain ⟨K_13, hK_14, hz⟩ := Z_cut hz
      have hJ_15 : ∀ (M_12 : Mem), K_13 M_12 → Rr y_M_fresh (2, 44, n, n, E) (qN K) 53 [(2, vJ l2_10)] [] E n M_12 := by
        intro M_12 hk
        have hz := hK_14 _ hk
        refine R_lload_n (pc := 53) 0 (dc k_M_fresh 27 rfl) rfl rfl ?_
        exact R_lret (pc := 54) (dc k_M_fresh 28 rfl) rfl rfl rfl ⟨_, rfl, (Z_some hz)⟩
      refine R_if_eq (pc := 46) 53 (dc k_M_fresh 24 rfl) rfl (fun hc => ?_) (fun hc => ?_)
      · have hz := Z_neg (show ¬ (¬ n32 r_11 = 0) from (fun z => z hc)) hz
        refine R_sub [0] rfl ?_
        exact hJ_15 _ (Z_some hz)
      · have hz := Z_pos (show ¬ n32 r_11 = 0 from hc) hz
        refine R_aload_n (pc := 49) 1 (dc k_M_fresh 25 rfl) rfl rfl ?_
        refine R_cVV (pc := 50)  (As := []) (S := []) ck_M_282 (dc k_M_fresh 26 rfl) ⟨rfl, ⟨_, rfl, rfl⟩, (lb rfl), (Nat.le_trans (lb rfl) hn)⟩ (lb rfl) (lb rfl) (lb rfl) rfl (ct_M_goOn hE hn (Z_bind hz)) (fun M_16 hz => ?_)
        refine R_sub [0] rfl ?_
        exact hJ_15 _ (Z_some hz)
    refine R_icmp_eq (pc := 14) 24 (dc k_M_fresh 8 rfl) rfl (fun hc => ?_) (fun hc => ?_)
    · have hz := Z_neg (show ¬ (¬ n32 (M 81 8) = 2) from (fun z => z hc)) hz
      refine R_iload_n (pc := 24) 1 (dc k_M_fresh 12 rfl) rfl rfl ?_
      refine R_if_eq (pc := 25) 37 (dc k_M_fresh 13 rfl) rfl (fun hc => ?_) (fun hc => ?_)
      · have hz := Z_neg (show ¬ (¬ n32 has_ = 0) from (fun z => z hc)) hz
        refine R_sub [0] rfl ?_
        exact hJ_5 _ (Z_some hz)
      · have hz := Z_pos (show ¬ n32 has_ = 0 from hc) hz
        refine R_aload_n (pc := 28) 0 (dc k_M_fresh 14 rfl) rfl rfl ?_
        refine R_iconst (pc := 29) (a := 3) (dc k_M_fresh 15 rfl) ?_
        refine R_aload_n (pc := 30) 0 (dc k_M_fresh 16 rfl) rfl rfl ?_
        refine R_getI (pc := 31) (ci := 10) (k := 6) (dc k_M_fresh 17 rfl) fl_M_243 rfl (lb rfl) (Nat.le_trans (lb rfl) hn) rfl (Or.inl rfl) ?_
        refine R_cVV (pc := 34)  (As := [vI 3, vI (M 81 6)]) (S := []) ck_M_274 (dc k_M_fresh 18 rfl) ⟨rfl, ⟨_, rfl, rfl⟩, (lb rfl), (Nat.le_trans (lb rfl) hn)⟩ (lb rfl) (lb rfl) (lb rfl) rfl (ct_M_fails hE hn (Z_bind hz)) (fun M_7 hz => ?_)
        refine R_sub [0] rfl ?_
        exact hJ_5 _ (Z_some hz)
    · have hz := Z_pos (show ¬ n32 (M 81 8) = 2 from hc) hz
      refine R_aload_n (pc := 17) 0 (dc k_M_fresh 9 rfl) rfl rfl ?_
      refine R_cVV (pc := 18)  (As := []) (S := []) ck_M_285 (dc k_M_fresh 10 rfl) ⟨rfl, ⟨_, rfl, rfl⟩, (lb rfl), (Nat.le_trans (lb rfl) hn)⟩ (lb rfl) (lb rfl) (lb rfl) rfl (ct_M_misplaced hE hn (Z_bind hz)) (fun M_6 hz => ?_)
      refine R_goto (pc := 21) 37 (dc k_M_fresh 11 rfl) rfl ?_
      refine R_sub [0] rfl ?_
      exact hJ_5 _ (Z_some hz)
  · have hz := Z_pos (show n32 r_1 = 0 from (Decidable.not_not.mp hc)) hz
    refine R_lconst (pc := 7) (a := 0) (dc k_M_fresh 3 rfl) (by decide) ?_
    exact R_lret (pc := 8) (dc k_M_fresh 4 rfl) rfl rfl rfl ⟨_, rfl, (Z_some hz)⟩

set_option maxRecDepth 20000 in
theorem ct_M_readFact {E : Nat → Bool} {n : Nat} (hE : ∀ c, 81 ≤ c → c ≤ 138 → E c = true) (hn : 138 ≤ n) {M : Mem} {K : Mem → Prop} (hz : Z (M_readFact M) K) : Mt y_M_readFact (3, 67, n, n, E) E [vR 81] M (qV K) := by
  refine Mt.of (by decide) (lb rfl) (Nat.le_refl _) rfl ?_
  rw [M_readFact] at hz
  show Rr y_M_readFact (3, 67, n, n, E) (qV K) 0 [(0, vR 81)] [] E n M
  refine R_aload_n (pc := 0) 0 (dc k_M_readFact 0 rfl) rfl rfl ?_
  refine R_getS (pc := 1) (ci := 10) (k := 20) 93 (dc k_M_readFact 1 rfl) fl_M_49 rfl (lb rfl) (Nat.le_trans (lb rfl) hn) (hE 81 (lb rfl) (lb rfl)) rfl (by decide) rfl ?_
  refine R_bipush (pc := 4) (a := 8) (dc k_M_readFact 2 rfl) (by decide) ?_
  refine R_aload_n (pc := 6) 0 (dc k_M_readFact 3 rfl) rfl rfl ?_
  refine R_getI (pc := 7) (ci := 10) (k := 39) (dc k_M_readFact 4 rfl) fl_M_295 rfl (lb rfl) (Nat.le_trans (lb rfl) hn) rfl (Or.inl rfl) ?_
  refine R_imul (pc := 10) (dc k_M_readFact 5 rfl) ?_
  refine R_aload_n (pc := 11) 0 (dc k_M_readFact 6 rfl) rfl rfl ?_
  refine R_getS (pc := 12) (ci := 10) (k := 11) 84 (dc k_M_readFact 7 rfl) fl_M_20 rfl (lb rfl) (Nat.le_trans (lb rfl) hn) (hE 81 (lb rfl) (lb rfl)) rfl (by decide) rfl ?_
  refine R_aload_n (pc := 15) 0 (dc k_M_readFact 8 rfl) rfl rfl ?_
  refine R_getI (pc := 16) (ci := 10) (k := 39) (dc k_M_readFact 9 rfl) fl_M_295 rfl (lb rfl) (Nat.le_trans (lb rfl) hn) rfl (Or.inl rfl) ?_
  obtain ⟨⟨hg_1, hg_2⟩, hz⟩ := Z_chk hz
  refine R_iald (pc := 19) (dc k_M_readFact 10 rfl) rfl (lb rfl) (Nat.le_trans (lb rfl) hn) hg_1 hg_2 ?_
  refine R_iadd (pc := 20) (dc k_M_readFact 11 rfl) ?_
  refine R_aload_n (pc := 21) 0 (dc k_M_readFact 12 rfl) rfl rfl ?_
  refine R_aload_n (pc := 22) 0 (dc k_M_readFact 13 rfl) rfl rfl ?_
  refine R_cVP (pc := 23)  (As := []) (S := [vR 81, vI ((8 * (M 81 39)) + (M 84 (Int.toNat (M 81 39)))), vR 93]) ck_M_348 (dc k_M_readFact 14 rfl) ⟨rfl, ⟨_, rfl, rfl⟩, (lb rfl), (Nat.le_trans (lb rfl) hn)⟩ (lb rfl) (lb rfl) (lb rfl) rfl (ct_M_factHere hE hn (Z_bind hz)) (fun r_3 hz => ?_)
  obtain ⟨K_5, hK_6, hz⟩ := Z_cut hz
  have hJ_7 : ∀ (v_4 : Int), K_5 v_4 → Rr y_M_readFact (3, 67, n, n, E) (qV K) 41 [(0, vR 81)] [vI v_4, vR 81, vI ((8 * (M 81 39)) + (M 84 (Int.toNat (M 81 39)))), vR 93] E n M := by
    intro v_4 hk
    have hz := hK_6 _ hk
    refine R_cVN (pc := 41)  (As := [vI v_4]) (S := [vI ((8 * (M 81 39)) + (M 84 (Int.toNat (M 81 39)))), vR 93]) ck_M_354 (dc k_M_readFact 22 rfl) ⟨rfl, ⟨_, rfl, rfl⟩, (lb rfl), (Nat.le_trans (lb rfl) hn)⟩ (lb rfl) (lb rfl) (lb rfl) rfl (ct_M_fresh hE hn (Z_bind hz)) (fun r_14 M_15 hz => ?_)
    obtain ⟨⟨hg_16, hg_17⟩, hz⟩ := Z_chk hz
    obtain ⟨M_18, hM_18, hz⟩ := Z_lt hz
    refine R_lastE (pc := 44) (dc k_M_readFact 23 rfl) rfl (lb rfl) (Nat.le_trans (lb rfl) hn) hg_16 hg_17 hM_18 ?_
    refine R_aload_n (pc := 45) 0 (dc k_M_readFact 24 rfl) rfl rfl ?_
    refine R_getS (pc := 46) (ci := 10) (k := 11) 84 (dc k_M_readFact 25 rfl) fl_M_20 rfl (lb rfl) (Nat.le_trans (lb rfl) hn) (hE 81 (lb rfl) (lb rfl)) rfl (by decide) rfl ?_
    refine R_aload_n (pc := 49) 0 (dc k_M_readFact 26 rfl) rfl rfl ?_
    refine R_getI (pc := 50) (ci := 10) (k := 39) (dc k_M_readFact 27 rfl) fl_M_295 rfl (lb rfl) (Nat.le_trans (lb rfl) hn) rfl (Or.inl rfl) ?_
    refine R_dup2 (pc := 53) (dc k_M_readFact 28 rfl) rfl rfl ?_
    obtain ⟨⟨hg_19, hg_20⟩, hz⟩ := Z_chk hz
    refine R_iald (pc := 54) (dc k_M_readFact 29 rfl) rfl (lb rfl) (Nat.le_trans (lb rfl) hn) hg_19 hg_20 ?_
    refine R_iconst (pc := 55) (a := 1) (dc k_M_readFact 30 rfl) ?_
    refine R_iadd (pc := 56) (dc k_M_readFact 31 rfl) ?_
    obtain ⟨M_21, hM_21, hz⟩ := Z_lt hz
    refine R_iastE (pc := 57) (dc k_M_readFact 32 rfl) rfl (lb rfl) (Nat.le_trans (lb rfl) hn) hg_19 hg_20 hM_21 ?_
    exact R_vret (pc := 58) (dc k_M_readFact 33 rfl) rfl rfl rfl ⟨rfl, (Z_some hz)⟩
  obtain ⟨K_8, hK_9, hz⟩ := Z_cut hz
  have hX_10 : K_8 true → Rr y_M_readFact (3, 67, n, n, E) (qV K) 36 [(0, vR 81)] [vR 81, vI ((8 * (M 81 39)) + (M 84 (Int.toNat (M 81 39)))), vR 93] E n M := by
    intro hk
    have hz := Z_pos rfl (hK_9 _ hk)
    refine R_iconst (pc := 36) (a := 1) (dc k_M_readFact 19 rfl) ?_
    refine R_goto (pc := 37) 41 (dc k_M_readFact 20 rfl) rfl ?_
    exact hJ_7 _ (Z_some hz)
  have hY_11 : K_8 false → Rr y_M_readFact (3, 67, n, n, E) (qV K) 40 [(0, vR 81)] [vR 81, vI ((8 * (M 81 39)) + (M 84 (Int.toNat (M 81 39)))), vR 93] E n M := by
    intro hk
    have hz := Z_neg Bool.false_ne_true (hK_9 _ hk)
    refine R_iconst (pc := 40) (a := 0) (dc k_M_readFact 21 rfl) ?_
    exact hJ_7 _ (Z_some hz)
  refine R_if_ge (pc := 26) 36 (dc k_M_readFact 15 rfl) rfl (fun hc => ?_) (fun hc => ?_)
  · have hz := Z_neg (show ¬ (n32 r_3 < 0) from (Int.not_lt.mpr hc)) hz
    exact hX_10 (Z_some hz)
  · have hz := Z_pos (show n32 r_3 < 0 from (Int.not_le.mp hc)) hz
    refine R_aload_n (pc := 29) 0 (dc k_M_readFact 16 rfl) rfl rfl ?_
    refine R_cVP (pc := 30)  (As := []) (S := [vR 81, vI ((8 * (M 81 39)) + (M 84 (Int.toNat (M 81 39)))), vR 93]) ck_M_351 (dc k_M_readFact 17 rfl) ⟨rfl, ⟨_, rfl, rfl⟩, (lb rfl), (Nat.le_trans (lb rfl) hn)⟩ (lb rfl) (lb rfl) (lb rfl) rfl (ct_M_rowHere hE hn (Z_bind hz)) (fun r_13 hz => ?_)
    refine R_if_lt (pc := 33) 40 (dc k_M_readFact 18 rfl) rfl (fun hc => ?_) (fun hc => ?_)
    · have hz := Z_neg (show ¬ (0 ≤ n32 r_13) from (Int.not_le.mpr hc)) hz
      exact hY_11 (Z_some hz)
    · have hz := Z_pos (show 0 ≤ n32 r_13 from (Int.not_lt.mp hc)) hz
      exact hX_10 (Z_some hz)

set_option maxRecDepth 20000 in
theorem ct_M_personHere {E : Nat → Bool} {n : Nat} (hE : ∀ c, 81 ≤ c → c ≤ 138 → E c = true) (hn : 138 ≤ n) {M : Mem} {K : Int → Prop} (hz : Z (M_personHere M) K) : Mt y_M_personHere (1, 24, n, n, E) E [vR 81] M (qP M K) := by
  refine Mt.of (by decide) (lb rfl) (Nat.le_refl _) rfl ?_
  rw [M_personHere] at hz
  show Rr y_M_personHere (1, 24, n, n, E) (qP M K) 0 [(0, vR 81)] [] E n M
  refine R_aload_n (pc := 0) 0 (dc k_M_personHere 0 rfl) rfl rfl ?_
  refine R_aload_n (pc := 1) 0 (dc k_M_personHere 1 rfl) rfl rfl ?_
  refine R_getS (pc := 2) (ci := 10) (k := 21) 94 (dc k_M_personHere 2 rfl) fl_M_53 rfl (lb rfl) (Nat.le_trans (lb rfl) hn) (hE 81 (lb rfl) (lb rfl)) rfl (by decide) rfl ?_
  refine R_bipush (pc := 5) (a := 8) (dc k_M_personHere 3 rfl) (by decide) ?_
  refine R_aload_n (pc := 7) 0 (dc k_M_personHere 4 rfl) rfl rfl ?_
  refine R_getI (pc := 8) (ci := 10) (k := 39) (dc k_M_personHere 5 rfl) fl_M_295 rfl (lb rfl) (Nat.le_trans (lb rfl) hn) rfl (Or.inl rfl) ?_
  refine R_imul (pc := 11) (dc k_M_personHere 6 rfl) ?_
  refine R_aload_n (pc := 12) 0 (dc k_M_personHere 7 rfl) rfl rfl ?_
  refine R_getS (pc := 13) (ci := 10) (k := 12) 85 (dc k_M_personHere 8 rfl) fl_M_24 rfl (lb rfl) (Nat.le_trans (lb rfl) hn) (hE 81 (lb rfl) (lb rfl)) rfl (by decide) rfl ?_
  refine R_aload_n (pc := 16) 0 (dc k_M_personHere 9 rfl) rfl rfl ?_
  refine R_getI (pc := 17) (ci := 10) (k := 39) (dc k_M_personHere 10 rfl) fl_M_295 rfl (lb rfl) (Nat.le_trans (lb rfl) hn) rfl (Or.inl rfl) ?_
  obtain ⟨⟨hg_1, hg_2⟩, hz⟩ := Z_chk hz
  refine R_iald (pc := 20) (dc k_M_personHere 11 rfl) rfl (lb rfl) (Nat.le_trans (lb rfl) hn) hg_1 hg_2 ?_
  refine R_cVP (pc := 21)  (As := [vR 94, vI (8 * (M 81 39)), vI (M 85 (Int.toNat (M 81 39)))]) (S := []) ck_M_344 (dc k_M_personHere 12 rfl) ⟨rfl, ⟨_, rfl, rfl⟩, (lb rfl), (Nat.le_trans (lb rfl) hn)⟩ (lb rfl) (lb rfl) (lb rfl) rfl (ct_M_here hE hn (Z_bind hz)) (fun r_3 hz => ?_)
  exact R_iret (pc := 24) (dc k_M_personHere 13 rfl) rfl rfl rfl ⟨_, rfl, rfl, (Z_some hz)⟩

set_option maxRecDepth 20000 in
theorem ct_M_must {E : Nat → Bool} {n : Nat} (hE : ∀ c, 81 ≤ c → c ≤ 138 → E c = true) (hn : 138 ≤ n) {is_ : Int} {M : Mem} {K : Mem → Prop} (hz : Z (M_must is_ M) K) : Mt y_M_must (2, 44, n, n, E) E [vR 81, vI is_] M (qV K) := by
  refine Mt.of (by decide) (lb rfl) (Nat.le_refl _) rfl ?_
  rw [M_must] at hz
  show Rr y_M_must (2, 44, n, n, E) (qV K) 0 [(0, vR 81), (1, vI is_)] [] E n M
  refine R_aload_n (pc := 0) 0 (dc k_M_must 0 rfl) rfl rfl ?_
  refine R_cVP (pc := 1)  (As := []) (S := []) ck_M_278 (dc k_M_must 1 rfl) ⟨rfl, ⟨_, rfl, rfl⟩, (lb rfl), (Nat.le_trans (lb rfl) hn)⟩ (lb rfl) (lb rfl) (lb rfl) rfl (ct_M_isGood hE hn (Z_bind hz)) (fun r_1 hz => ?_)
  refine R_if_ne (pc := 4) 8 (dc k_M_must 2 rfl) rfl (fun hc => ?_) (fun hc => ?_)
  · have hz := Z_neg (show ¬ (n32 r_1 = 0) from hc) hz
    refine R_iload_n (pc := 8) 1 (dc k_M_must 4 rfl) rfl rfl ?_
    refine R_if_eq (pc := 9) 19 (dc k_M_must 5 rfl) rfl (fun hc => ?_) (fun hc => ?_)
    · have hz := Z_neg (show ¬ (¬ n32 is_ = 0) from (fun z => z hc)) hz
      refine R_aload_n (pc := 19) 0 (dc k_M_must 9 rfl) rfl rfl ?_
      refine R_cVV (pc := 20)  (As := []) (S := []) ck_M_285 (dc k_M_must 10 rfl) ⟨rfl, ⟨_, rfl, rfl⟩, (lb rfl), (Nat.le_trans (lb rfl) hn)⟩ (lb rfl) (lb rfl) (lb rfl) rfl (ct_M_misplaced hE hn (Z_bind hz)) (fun M_3 hz => ?_)
      exact R_vret (pc := 23) (dc k_M_must 11 rfl) rfl rfl rfl ⟨rfl, (Z_some hz)⟩
    · have hz := Z_pos (show ¬ n32 is_ = 0 from hc) hz
      refine R_aload_n (pc := 12) 0 (dc k_M_must 6 rfl) rfl rfl ?_
      refine R_cVV (pc := 13)  (As := []) (S := []) ck_M_282 (dc k_M_must 7 rfl) ⟨rfl, ⟨_, rfl, rfl⟩, (lb rfl), (Nat.le_trans (lb rfl) hn)⟩ (lb rfl) (lb rfl) (lb rfl) rfl (ct_M_goOn hE hn (Z_bind hz)) (fun M_2 hz => ?_)
      refine R_goto (pc := 16) 23 (dc k_M_must 8 rfl) rfl ?_
      exact R_vret (pc := 23) (dc k_M_must 11 rfl) rfl rfl rfl ⟨rfl, (Z_some hz)⟩
  · have hz := Z_pos (show n32 r_1 = 0 from (Decidable.not_not.mp hc)) hz
    exact R_vret (pc := 7) (dc k_M_must 3 rfl) rfl rfl rfl ⟨rfl, (Z_some hz)⟩

set_option maxRecDepth 20000 in
theorem ct_M_after {E : Nat → Bool} {n : Nat} (hE : ∀ c, 81 ≤ c → c ≤ 138 → E c = true) (hn : 138 ≤ n) {word : Int} {most : Int} {M : Mem} {K : Int × Mem → Prop} (hz : Z (M_after word most M) K) : Mt y_M_after (3, 65, n, n, E) E [vR 81, vJ word, vI most] M (qM K) := by
  refine Mt.of (by decide) (lb rfl) (Nat.le_refl _) rfl ?_
  rw [M_after] at hz
  show Rr y_M_after (3, 65, n, n, E) (qM K) 0 [(0, vR 81), (1, vJ word), (3, vI most)] [] E n M
  refine R_aload_n (pc := 0) 0 (dc k_M_after 0 rfl) rfl rfl ?_
  refine R_aload_n (pc := 1) 0 (dc k_M_after 1 rfl) rfl rfl ?_
  refine R_lload_n (pc := 2) 1 (dc k_M_after 2 rfl) rfl rfl ?_
  refine R_cVP (pc := 3)  (As := [vJ word]) (S := [vR 81]) ck_M_288 (dc k_M_after 3 rfl) ⟨rfl, ⟨_, rfl, rfl⟩, (lb rfl), (Nat.le_trans (lb rfl) hn)⟩ (lb rfl) (lb rfl) (lb rfl) rfl (ct_M_isWord hE hn (Z_bind hz)) (fun r_1 hz => ?_)
  refine R_cVV (pc := 6)  (As := [vI r_1]) (S := []) ck_M_291 (dc k_M_after 4 rfl) ⟨rfl, ⟨_, rfl, rfl⟩, (lb rfl), (Nat.le_trans (lb rfl) hn)⟩ (lb rfl) (lb rfl) (lb rfl) rfl (ct_M_must hE hn (Z_bind hz)) (fun M_2 hz => ?_)
  refine R_aload_n (pc := 9) 0 (dc k_M_after 5 rfl) rfl rfl ?_
  refine R_cVP (pc := 10)  (As := []) (S := []) ck_M_278 (dc k_M_after 6 rfl) ⟨rfl, ⟨_, rfl, rfl⟩, (lb rfl), (Nat.le_trans (lb rfl) hn)⟩ (lb rfl) (lb rfl) (lb rfl) rfl (ct_M_isGood hE hn (Z_bind hz)) (fun r_3 hz => ?_)
  refine R_if_ne (pc := 13) 18 (dc k_M_after 7 rfl) rfl (fun hc => ?_) (fun hc => ?_)
  · have hz := Z_neg (show ¬ (n32 r_3 = 0) from hc) hz
    refine R_aload_n (pc := 18) 0 (dc k_M_after 10 rfl) rfl rfl ?_
    refine R_getI (pc := 19) (ci := 10) (k := 8) (dc k_M_after 11 rfl) fl_M_250 rfl (lb rfl) (Nat.le_trans (lb rfl) hn) rfl (Or.inl rfl) ?_
    refine R_iconst (pc := 22) (a := 4) (dc k_M_after 12 rfl) ?_
    obtain ⟨K_5, hK_6, hz⟩ := Z_cut hz
    have hJ_7 : ∀ (M_4 : Mem), K_5 M_4 → Rr y_M_after (3, 65, n, n, E) (qM K) 50 [(0, vR 81)] [] E n M_4 := by
      intro M_4 hk
      have hz := hK_6 _ hk
      refine R_aload_n (pc := 50) 0 (dc k_M_after 26 rfl) rfl rfl ?_
      refine R_getI (pc := 51) (ci := 10) (k := 9) (dc k_M_after 27 rfl) fl_M_268 rfl (lb rfl) (Nat.le_trans (lb rfl) hn) rfl (Or.inl rfl) ?_
      obtain ⟨l4_12, hl4_12, hz⟩ := Z_lt hz
      refine R_istoreE (pc := 54) (L' := [(4, vI l4_12), (0, vR 81)]) (dc k_M_after 28 rfl) (lb rfl) hl4_12 rfl ?_
      refine R_aload_n (pc := 56) 1 (dc k_M_after 29 rfl) rfl rfl ?_
      refine R_cVP (pc := 57)  (As := []) (S := []) ck_M_278 (dc k_M_after 30 rfl) ⟨rfl, ⟨_, rfl, rfl⟩, (lb rfl), (Nat.le_trans (lb rfl) hn)⟩ (lb rfl) (lb rfl) (lb rfl) rfl (ct_M_isGood hE hn (Z_bind hz)) (fun r_13 hz => ?_)
      obtain ⟨K_15, hK_16, hz⟩ := Z_cut hz
      have hJ_17 : ∀ (M_14 : Mem), K_15 M_14 → Rr y_M_after (3, 65, n, n, E) (qM K) 67 [(4, vI l4_12)] [] E n M_14 := by
        intro M_14 hk
        have hz := hK_16 _ hk
        refine R_iload (pc := 67) 0 (dc k_M_after 34 rfl) rfl ?_
        exact R_iret (pc := 69) (dc k_M_after 35 rfl) rfl rfl rfl ⟨_, rfl, (Z_some hz)⟩
      refine R_if_eq (pc := 60) 67 (dc k_M_after 31 rfl) rfl (fun hc => ?_) (fun hc => ?_)
      · have hz := Z_neg (show ¬ (¬ n32 r_13 = 0) from (fun z => z hc)) hz
        refine R_sub [0] rfl ?_
        exact hJ_17 _ (Z_some hz)
      · have hz := Z_pos (show ¬ n32 r_13 = 0 from hc) hz
        refine R_aload_n (pc := 63) 1 (dc k_M_after 32 rfl) rfl rfl ?_
        refine R_cVV (pc := 64)  (As := []) (S := []) ck_M_282 (dc k_M_after 33 rfl) ⟨rfl, ⟨_, rfl, rfl⟩, (lb rfl), (Nat.le_trans (lb rfl) hn)⟩ (lb rfl) (lb rfl) (lb rfl) rfl (ct_M_goOn hE hn (Z_bind hz)) (fun M_18 hz => ?_)
        refine R_sub [0] rfl ?_
        exact hJ_17 _ (Z_some hz)
    refine R_icmp_eq (pc := 23) 33 (dc k_M_after 13 rfl) rfl (fun hc => ?_) (fun hc => ?_)
    · have hz := Z_neg (show ¬ (¬ n32 (M_2 81 8) = 4) from (fun z => z hc)) hz
      refine R_aload_n (pc := 33) 0 (dc k_M_after 17 rfl) rfl rfl ?_
      refine R_getI (pc := 34) (ci := 10) (k := 9) (dc k_M_after 18 rfl) fl_M_268 rfl (lb rfl) (Nat.le_trans (lb rfl) hn) rfl (Or.inl rfl) ?_
      refine R_iload_n (pc := 37) 2 (dc k_M_after 19 rfl) rfl rfl ?_
      refine R_icmp_le (pc := 38) 50 (dc k_M_after 20 rfl) rfl (fun hc => ?_) (fun hc => ?_)
      · have hz := Z_neg (show ¬ (n32 most < n32 (M_2 81 9)) from (Int.not_lt.mpr hc)) hz
        refine R_sub [0] rfl ?_
        exact hJ_7 _ (Z_some hz)
      · have hz := Z_pos (show n32 most < n32 (M_2 81 9) from (Int.not_le.mp hc)) hz
        refine R_aload_n (pc := 41) 0 (dc k_M_after 21 rfl) rfl rfl ?_
        refine R_iconst (pc := 42) (a := 4) (dc k_M_after 22 rfl) ?_
        refine R_aload_n (pc := 43) 0 (dc k_M_after 23 rfl) rfl rfl ?_
        refine R_getI (pc := 44) (ci := 10) (k := 6) (dc k_M_after 24 rfl) fl_M_243 rfl (lb rfl) (Nat.le_trans (lb rfl) hn) rfl (Or.inl rfl) ?_
        refine R_cVV (pc := 47)  (As := [vI 4, vI (M_2 81 6)]) (S := []) ck_M_274 (dc k_M_after 25 rfl) ⟨rfl, ⟨_, rfl, rfl⟩, (lb rfl), (Nat.le_trans (lb rfl) hn)⟩ (lb rfl) (lb rfl) (lb rfl) rfl (ct_M_fails hE hn (Z_bind hz)) (fun M_9 hz => ?_)
        refine R_sub [0] rfl ?_
        exact hJ_7 _ (Z_some hz)
    · have hz := Z_pos (show ¬ n32 (M_2 81 8) = 4 from hc) hz
      refine R_aload_n (pc := 26) 0 (dc k_M_after 14 rfl) rfl rfl ?_
      refine R_cVV (pc := 27)  (As := []) (S := []) ck_M_285 (dc k_M_after 15 rfl) ⟨rfl, ⟨_, rfl, rfl⟩, (lb rfl), (Nat.le_trans (lb rfl) hn)⟩ (lb rfl) (lb rfl) (lb rfl) rfl (ct_M_misplaced hE hn (Z_bind hz)) (fun M_8 hz => ?_)
      refine R_goto (pc := 30) 50 (dc k_M_after 16 rfl) rfl ?_
      refine R_sub [0] rfl ?_
      exact hJ_7 _ (Z_some hz)
  · have hz := Z_pos (show n32 r_3 = 0 from (Decidable.not_not.mp hc)) hz
    refine R_iconst (pc := 16) (a := 0) (dc k_M_after 8 rfl) ?_
    exact R_iret (pc := 17) (dc k_M_after 9 rfl) rfl rfl rfl ⟨_, rfl, (Z_some hz)⟩

set_option maxRecDepth 20000 in
theorem ct_M_told {E : Nat → Bool} {n : Nat} (hE : ∀ c, 81 ≤ c → c ≤ 138 → E c = true) (hn : 138 ≤ n) {which : Int} {M : Mem} {K : Int × Mem → Prop} (hz : Z (M_told which M) K) : Mt y_M_told (2, 44, n, n, E) E [vR 81, vI which] M (qM K) := by
  refine Mt.of (by decide) (lb rfl) (Nat.le_refl _) rfl ?_
  rw [M_told] at hz
  show Rr y_M_told (2, 44, n, n, E) (qM K) 0 [(0, vR 81), (1, vI which)] [] E n M
  refine R_aload_n (pc := 0) 0 (dc k_M_told 0 rfl) rfl rfl ?_
  refine R_cVP (pc := 1)  (As := []) (S := []) ck_M_278 (dc k_M_told 1 rfl) ⟨rfl, ⟨_, rfl, rfl⟩, (lb rfl), (Nat.le_trans (lb rfl) hn)⟩ (lb rfl) (lb rfl) (lb rfl) rfl (ct_M_isGood hE hn (Z_bind hz)) (fun r_1 hz => ?_)
  refine R_if_ne (pc := 4) 9 (dc k_M_told 2 rfl) rfl (fun hc => ?_) (fun hc => ?_)
  · have hz := Z_neg (show ¬ (n32 r_1 = 0) from hc) hz
    refine R_aload_n (pc := 9) 0 (dc k_M_told 5 rfl) rfl rfl ?_
    refine R_getI (pc := 10) (ci := 10) (k := 8) (dc k_M_told 6 rfl) fl_M_250 rfl (lb rfl) (Nat.le_trans (lb rfl) hn) rfl (Or.inl rfl) ?_
    refine R_iconst (pc := 13) (a := 2) (dc k_M_told 7 rfl) ?_
    obtain ⟨K_3, hK_4, hz⟩ := Z_cut hz
    have hJ_5 : ∀ (M_2 : Mem), K_3 M_2 → Rr y_M_told (2, 44, n, n, E) (qM K) 37 [(0, vR 81), (1, vI which)] [] E n M_2 := by
      intro M_2 hk
      have hz := hK_4 _ hk
      refine R_aload_n (pc := 37) 0 (dc k_M_told 19 rfl) rfl rfl ?_
      refine R_cVP (pc := 38)  (As := []) (S := []) ck_M_278 (dc k_M_told 20 rfl) ⟨rfl, ⟨_, rfl, rfl⟩, (lb rfl), (Nat.le_trans (lb rfl) hn)⟩ (lb rfl) (lb rfl) (lb rfl) rfl (ct_M_isGood hE hn (Z_bind hz)) (fun r_10 hz => ?_)
      obtain ⟨K_12, hK_13, hz⟩ := Z_cut hz
      have hJ_14 : ∀ (M_11 : Mem), K_12 M_11 → Rr y_M_told (2, 44, n, n, E) (qM K) 48 [(1, vI which)] [] E n M_11 := by
        intro M_11 hk
        have hz := hK_13 _ hk
        refine R_iload_n (pc := 48) 0 (dc k_M_told 24 rfl) rfl rfl ?_
        refine R_if_ge (pc := 49) 56 (dc k_M_told 25 rfl) rfl (fun hc => ?_) (fun hc => ?_)
        · have hz := Z_neg (show ¬ (n32 which < 0) from (Int.not_lt.mpr hc)) hz
          refine R_iload_n (pc := 56) 0 (dc k_M_told 28 rfl) rfl rfl ?_
          exact R_iret (pc := 57) (dc k_M_told 29 rfl) rfl rfl rfl ⟨_, rfl, (Z_some hz)⟩
        · have hz := Z_pos (show n32 which < 0 from (Int.not_le.mp hc)) hz
          refine R_iconst (pc := 52) (a := 0) (dc k_M_told 26 rfl) ?_
          refine R_goto (pc := 53) 57 (dc k_M_told 27 rfl) rfl ?_
          exact R_iret (pc := 57) (dc k_M_told 29 rfl) rfl rfl rfl ⟨_, rfl, (Z_some hz)⟩
      refine R_if_eq (pc := 41) 48 (dc k_M_told 21 rfl) rfl (fun hc => ?_) (fun hc => ?_)
      · have hz := Z_neg (show ¬ (¬ n32 r_10 = 0) from (fun z => z hc)) hz
        refine R_sub [1] rfl ?_
        exact hJ_14 _ (Z_some hz)
      · have hz := Z_pos (show ¬ n32 r_10 = 0 from hc) hz
        refine R_aload_n (pc := 44) 0 (dc k_M_told 22 rfl) rfl rfl ?_
        refine R_cVV (pc := 45)  (As := []) (S := []) ck_M_282 (dc k_M_told 23 rfl) ⟨rfl, ⟨_, rfl, rfl⟩, (lb rfl), (Nat.le_trans (lb rfl) hn)⟩ (lb rfl) (lb rfl) (lb rfl) rfl (ct_M_goOn hE hn (Z_bind hz)) (fun M_15 hz => ?_)
        refine R_sub [1] rfl ?_
        exact hJ_14 _ (Z_some hz)
    refine R_icmp_eq (pc := 14) 24 (dc k_M_told 8 rfl) rfl (fun hc => ?_) (fun hc => ?_)
    · have hz := Z_neg (show ¬ (¬ n32 (M 81 8) = 2) from (fun z => z hc)) hz
      refine R_iload_n (pc := 24) 1 (dc k_M_told 12 rfl) rfl rfl ?_
      refine R_if_ge (pc := 25) 37 (dc k_M_told 13 rfl) rfl (fun hc => ?_) (fun hc => ?_)
      · have hz := Z_neg (show ¬ (n32 which < 0) from (Int.not_lt.mpr hc)) hz
        exact hJ_5 _ (Z_some hz)
      · have hz := Z_pos (show n32 which < 0 from (Int.not_le.mp hc)) hz
        refine R_aload_n (pc := 28) 0 (dc k_M_told 14 rfl) rfl rfl ?_
        refine R_iconst (pc := 29) (a := 5) (dc k_M_told 15 rfl) ?_
        refine R_aload_n (pc := 30) 0 (dc k_M_told 16 rfl) rfl rfl ?_
        refine R_getI (pc := 31) (ci := 10) (k := 6) (dc k_M_told 17 rfl) fl_M_243 rfl (lb rfl) (Nat.le_trans (lb rfl) hn) rfl (Or.inl rfl) ?_
        refine R_cVV (pc := 34)  (As := [vI 5, vI (M 81 6)]) (S := []) ck_M_274 (dc k_M_told 18 rfl) ⟨rfl, ⟨_, rfl, rfl⟩, (lb rfl), (Nat.le_trans (lb rfl) hn)⟩ (lb rfl) (lb rfl) (lb rfl) rfl (ct_M_fails hE hn (Z_bind hz)) (fun M_7 hz => ?_)
        exact hJ_5 _ (Z_some hz)
    · have hz := Z_pos (show ¬ n32 (M 81 8) = 2 from hc) hz
      refine R_aload_n (pc := 17) 0 (dc k_M_told 9 rfl) rfl rfl ?_
      refine R_cVV (pc := 18)  (As := []) (S := []) ck_M_285 (dc k_M_told 10 rfl) ⟨rfl, ⟨_, rfl, rfl⟩, (lb rfl), (Nat.le_trans (lb rfl) hn)⟩ (lb rfl) (lb rfl) (lb rfl) rfl (ct_M_misplaced hE hn (Z_bind hz)) (fun M_6 hz => ?_)
      refine R_goto (pc := 21) 37 (dc k_M_told 11 rfl) rfl ?_
      exact hJ_5 _ (Z_some hz)
  · have hz := Z_pos (show n32 r_1 = 0 from (Decidable.not_not.mp hc)) hz
    refine R_iconst (pc := 7) (a := 0) (dc k_M_told 3 rfl) ?_
    exact R_iret (pc := 8) (dc k_M_told 4 rfl) rfl rfl rfl ⟨_, rfl, (Z_some hz)⟩

set_option maxRecDepth 20000 in
theorem ct_M_readPerson {E : Nat → Bool} {n : Nat} (hE : ∀ c, 81 ≤ c → c ≤ 138 → E c = true) (hn : 138 ≤ n) {M : Mem} {K : Mem → Prop} (hz : Z (M_readPerson M) K) : Mt y_M_readPerson (4, 89, n, n, E) E [vR 81] M (qV K) := by
  refine Mt.of (by decide) (lb rfl) (Nat.le_refl _) rfl ?_
  rw [M_readPerson] at hz
  show Rr y_M_readPerson (4, 89, n, n, E) (qV K) 0 [(0, vR 81)] [] E n M
  refine R_bipush (pc := 0) (a := 8) (dc k_M_readPerson 0 rfl) (by decide) ?_
  refine R_aload_n (pc := 2) 0 (dc k_M_readPerson 1 rfl) rfl rfl ?_
  refine R_getI (pc := 3) (ci := 10) (k := 39) (dc k_M_readPerson 2 rfl) fl_M_295 rfl (lb rfl) (Nat.le_trans (lb rfl) hn) rfl (Or.inl rfl) ?_
  refine R_imul (pc := 6) (dc k_M_readPerson 3 rfl) ?_
  refine R_aload_n (pc := 7) 0 (dc k_M_readPerson 4 rfl) rfl rfl ?_
  refine R_getS (pc := 8) (ci := 10) (k := 12) 85 (dc k_M_readPerson 5 rfl) fl_M_24 rfl (lb rfl) (Nat.le_trans (lb rfl) hn) (hE 81 (lb rfl) (lb rfl)) rfl (by decide) rfl ?_
  refine R_aload_n (pc := 11) 0 (dc k_M_readPerson 6 rfl) rfl rfl ?_
  refine R_getI (pc := 12) (ci := 10) (k := 39) (dc k_M_readPerson 7 rfl) fl_M_295 rfl (lb rfl) (Nat.le_trans (lb rfl) hn) rfl (Or.inl rfl) ?_
  obtain ⟨⟨hg_1, hg_2⟩, hz⟩ := Z_chk hz
  refine R_iald (pc := 15) (dc k_M_readPerson 8 rfl) rfl (lb rfl) (Nat.le_trans (lb rfl) hn) hg_1 hg_2 ?_
  refine R_iadd (pc := 16) (dc k_M_readPerson 9 rfl) ?_
  obtain ⟨l1_3, hl1_3, hz⟩ := Z_lt hz
  refine R_istore_nE (pc := 17) (L' := [(1, vI l1_3), (0, vR 81)]) (dc k_M_readPerson 10 rfl) rfl (lb rfl) hl1_3 rfl ?_
  refine R_aload_n (pc := 18) 1 (dc k_M_readPerson 11 rfl) rfl rfl ?_
  refine R_getS (pc := 19) (ci := 10) (k := 21) 94 (dc k_M_readPerson 12 rfl) fl_M_53 rfl (lb rfl) (Nat.le_trans (lb rfl) hn) (hE 81 (lb rfl) (lb rfl)) rfl (by decide) rfl ?_
  refine R_iload_n (pc := 22) 0 (dc k_M_readPerson 13 rfl) rfl rfl ?_
  refine R_aload_n (pc := 23) 1 (dc k_M_readPerson 14 rfl) rfl rfl ?_
  refine R_aload_n (pc := 24) 1 (dc k_M_readPerson 15 rfl) rfl rfl ?_
  refine R_cVP (pc := 25)  (As := []) (S := [vR 81, vI l1_3, vR 94]) ck_M_358 (dc k_M_readPerson 16 rfl) ⟨rfl, ⟨_, rfl, rfl⟩, (lb rfl), (Nat.le_trans (lb rfl) hn)⟩ (lb rfl) (lb rfl) (lb rfl) rfl (ct_M_personHere hE hn (Z_bind hz)) (fun r_4 hz => ?_)
  obtain ⟨K_6, hK_7, hz⟩ := Z_cut hz
  have hJ_8 : ∀ (v_5 : Int), K_6 v_5 → Rr y_M_readPerson (4, 89, n, n, E) (qV K) 36 [(0, vR 81), (1, vI l1_3)] [vI v_5, vR 81, vI l1_3, vR 94] E n M := by
    intro v_5 hk
    have hz := hK_7 _ hk
    refine R_cVN (pc := 36)  (As := [vI v_5]) (S := [vI l1_3, vR 94]) ck_M_354 (dc k_M_readPerson 21 rfl) ⟨rfl, ⟨_, rfl, rfl⟩, (lb rfl), (Nat.le_trans (lb rfl) hn)⟩ (lb rfl) (lb rfl) (lb rfl) rfl (ct_M_fresh hE hn (Z_bind hz)) (fun r_10 M_11 hz => ?_)
    obtain ⟨⟨hg_12, hg_13⟩, hz⟩ := Z_chk hz
    obtain ⟨M_14, hM_14, hz⟩ := Z_lt hz
    refine R_lastE (pc := 39) (dc k_M_readPerson 22 rfl) rfl (lb rfl) (Nat.le_trans (lb rfl) hn) hg_12 hg_13 hM_14 ?_
    refine R_aload_n (pc := 40) 0 (dc k_M_readPerson 23 rfl) rfl rfl ?_
    refine R_getS (pc := 41) (ci := 10) (k := 23) 96 (dc k_M_readPerson 24 rfl) fl_M_59 rfl (lb rfl) (Nat.le_trans (lb rfl) hn) (hE 81 (lb rfl) (lb rfl)) rfl (by decide) rfl ?_
    refine R_iload_n (pc := 44) 1 (dc k_M_readPerson 25 rfl) rfl rfl ?_
    refine R_aload_n (pc := 45) 0 (dc k_M_readPerson 26 rfl) rfl rfl ?_
    refine R_ldc2 (pc := 46) (a := 1668248436) (dc k_M_readPerson 27 rfl) c_M_204 ?_
    refine R_bipush (pc := 49) (a := 99) (dc k_M_readPerson 28 rfl) (by decide) ?_
    refine R_cVM (pc := 51)  (As := [vJ 1668248436, vI 99]) (S := [vI l1_3, vR 96]) ck_M_361 (dc k_M_readPerson 29 rfl) ⟨rfl, ⟨_, rfl, rfl⟩, (lb rfl), (Nat.le_trans (lb rfl) hn)⟩ (lb rfl) (lb rfl) (lb rfl) rfl (ct_M_after hE hn (Z_bind hz)) (fun r_15 M_16 hz => ?_)
    obtain ⟨M_17, hM_17, hz⟩ := Z_lt hz
    refine R_iastE (pc := 54) (dc k_M_readPerson 30 rfl) rfl (lb rfl) (Nat.le_trans (lb rfl) hn) hg_12 hg_13 hM_17 ?_
    refine R_aload_n (pc := 55) 0 (dc k_M_readPerson 31 rfl) rfl rfl ?_
    refine R_getS (pc := 56) (ci := 10) (k := 24) 97 (dc k_M_readPerson 32 rfl) fl_M_62 rfl (lb rfl) (Nat.le_trans (lb rfl) hn) (hE 81 (lb rfl) (lb rfl)) rfl (by decide) rfl ?_
    refine R_iload_n (pc := 59) 1 (dc k_M_readPerson 33 rfl) rfl rfl ?_
    refine R_iconst (pc := 60) (a := 0) (dc k_M_readPerson 34 rfl) ?_
    obtain ⟨M_18, hM_18, hz⟩ := Z_lt hz
    refine R_iastE (pc := 61) (dc k_M_readPerson 35 rfl) rfl (lb rfl) (Nat.le_trans (lb rfl) hn) hg_12 hg_13 hM_18 ?_
    refine R_aload_n (pc := 62) 0 (dc k_M_readPerson 36 rfl) rfl rfl ?_
    refine R_getS (pc := 63) (ci := 10) (k := 12) 85 (dc k_M_readPerson 37 rfl) fl_M_24 rfl (lb rfl) (Nat.le_trans (lb rfl) hn) (hE 81 (lb rfl) (lb rfl)) rfl (by decide) rfl ?_
    refine R_aload_n (pc := 66) 0 (dc k_M_readPerson 38 rfl) rfl rfl ?_
    refine R_getI (pc := 67) (ci := 10) (k := 39) (dc k_M_readPerson 39 rfl) fl_M_295 rfl (lb rfl) (Nat.le_trans (lb rfl) hn) rfl (Or.inl rfl) ?_
    refine R_dup2 (pc := 70) (dc k_M_readPerson 40 rfl) rfl rfl ?_
    obtain ⟨⟨hg_19, hg_20⟩, hz⟩ := Z_chk hz
    refine R_iald (pc := 71) (dc k_M_readPerson 41 rfl) rfl (lb rfl) (Nat.le_trans (lb rfl) hn) hg_19 hg_20 ?_
    refine R_iconst (pc := 72) (a := 1) (dc k_M_readPerson 42 rfl) ?_
    refine R_iadd (pc := 73) (dc k_M_readPerson 43 rfl) ?_
    obtain ⟨M_21, hM_21, hz⟩ := Z_lt hz
    refine R_iastE (pc := 74) (dc k_M_readPerson 44 rfl) rfl (lb rfl) (Nat.le_trans (lb rfl) hn) hg_19 hg_20 hM_21 ?_
    refine R_aload_n (pc := 75) 0 (dc k_M_readPerson 45 rfl) rfl rfl ?_
    refine R_cVP (pc := 76)  (As := []) (S := []) ck_M_278 (dc k_M_readPerson 46 rfl) ⟨rfl, ⟨_, rfl, rfl⟩, (lb rfl), (Nat.le_trans (lb rfl) hn)⟩ (lb rfl) (lb rfl) (lb rfl) rfl (ct_M_isGood hE hn (Z_bind hz)) (fun r_22 hz => ?_)
    obtain ⟨K_23, hK_24, hz⟩ := Z_cut hz
    have hX_25 : K_23 true → Rr y_M_readPerson (4, 89, n, n, E) (qV K) 92 [(0, vR 81), (1, vI l1_3)] [] E n M_21 := by
      intro hk
      have hz := Z_pos rfl (hK_24 _ hk)
      exact R_vret (pc := 92) (dc k_M_readPerson 52 rfl) rfl rfl rfl ⟨rfl, (Z_some hz)⟩
    have hY_26 : K_23 false → Rr y_M_readPerson (4, 89, n, n, E) (qV K) 93 [(0, vR 81), (1, vI l1_3)] [] E n M_21 := by
      intro hk
      have hz := Z_neg Bool.false_ne_true (hK_24 _ hk)
      refine R_aload_n (pc := 93) 0 (dc k_M_readPerson 53 rfl) rfl rfl ?_
      refine R_cVV (pc := 94)  (As := []) (S := []) ck_M_282 (dc k_M_readPerson 54 rfl) ⟨rfl, ⟨_, rfl, rfl⟩, (lb rfl), (Nat.le_trans (lb rfl) hn)⟩ (lb rfl) (lb rfl) (lb rfl) rfl (ct_M_goOn hE hn (Z_bind hz)) (fun M_29 hz => ?_)
      refine R_iconst (pc := 97) (a := 1) (dc k_M_readPerson 55 rfl) ?_
      refine R_istore_n (pc := 98) (L' := [(2, vI 1), (0, vR 81), (1, vI l1_3)]) (dc k_M_readPerson 56 rfl) rfl (lb rfl) rfl ?_
      obtain ⟨K_32, hK_33, hz⟩ := Z_cut hz
      have hX_34 : ∀ (M_38 : Mem), K_32 M_38 → Rr y_M_readPerson (4, 89, n, n, E) (qV K) 171 [] [] E n M_38 := by
        intro M_38 hk
        have hz := hK_33 _ hk
        exact R_vret (pc := 171) (dc k_M_readPerson 101 rfl) rfl rfl rfl ⟨rfl, (Z_some hz)⟩
      refine R_sub [1, 2, 0] rfl ?_
      refine it_R (C := fun aZ : Int × Mem => Rr y_M_readPerson (4, 89, n, n, E) (qV K) 99 [(0, vR 81), (1, vI l1_3), (2, vI aZ.1)] [] E n aZ.2) (fun aZ K_35 hC_36 hB_37 hz => ?_) FUEL (1, M_29) hz
      obtain ⟨l2_30, M_31⟩ := aZ
      rw [M_readPerson_b99] at hz
      show Rr y_M_readPerson (4, 89, n, n, E) (qV K) 99 [(0, vR 81), (1, vI l1_3), (2, vI l2_30)] [] E n M_31
      refine R_aload_n (pc := 99) 0 (dc k_M_readPerson 57 rfl) rfl rfl ?_
      refine R_cVP (pc := 100)  (As := []) (S := []) ck_M_278 (dc k_M_readPerson 58 rfl) ⟨rfl, ⟨_, rfl, rfl⟩, (lb rfl), (Nat.le_trans (lb rfl) hn)⟩ (lb rfl) (lb rfl) (lb rfl) rfl (ct_M_isGood hE hn (Z_bind hz)) (fun r_39 hz => ?_)
      refine R_if_eq (pc := 103) 171 (dc k_M_readPerson 59 rfl) rfl (fun hc => ?_) (fun hc => ?_)
      · have hz := Z_neg (show ¬ (¬ n32 r_39 = 0) from (fun z => z hc)) hz
        refine R_sub [] rfl ?_
        exact hX_34 _ (hB_37 _ (Z_some hz))
      · have hz := Z_pos (show ¬ n32 r_39 = 0 from hc) hz
        refine R_iload_n (pc := 106) 2 (dc k_M_readPerson 60 rfl) rfl rfl ?_
        have hX_54 : ((¬ n32 l2_30 = 0) ∨ (n32 (M_31 81 8) = 2)) → Rr y_M_readPerson (4, 89, n, n, E) (qV K) 118 [(0, vR 81), (1, vI l1_3), (2, vI l2_30)] [] E n M_31 := by
          intro hc
          have hz := Z_pos hc hz
          refine R_aload_n (pc := 118) 0 (dc k_M_readPerson 66 rfl) rfl rfl ?_
          refine R_cVP (pc := 119)  (As := []) (S := []) ck_M_348 (dc k_M_readPerson 67 rfl) ⟨rfl, ⟨_, rfl, rfl⟩, (lb rfl), (Nat.le_trans (lb rfl) hn)⟩ (lb rfl) (lb rfl) (lb rfl) rfl (ct_M_factHere hE hn (Z_bind hz)) (fun r_40 hz => ?_)
          refine R_istore_n (pc := 122) (L' := [(3, vI r_40), (0, vR 81), (1, vI l1_3), (2, vI l2_30)]) (dc k_M_readPerson 68 rfl) rfl (lb rfl) rfl ?_
          refine R_iload_n (pc := 123) 0 (dc k_M_readPerson 69 rfl) rfl rfl ?_
          obtain ⟨K_42, hK_43, hz⟩ := Z_cut hz
          have hJ_44 : ∀ (M_41 : Mem), K_42 M_41 → Rr y_M_readPerson (4, 89, n, n, E) (qV K) 150 [(0, vR 81), (1, vI l1_3), (3, vI r_40)] [] E n M_41 := by
            intro M_41 hk
            have hz := hK_43 _ hk
            refine R_aload_n (pc := 150) 0 (dc k_M_readPerson 86 rfl) rfl rfl ?_
            refine R_getS (pc := 151) (ci := 10) (k := 24) 97 (dc k_M_readPerson 87 rfl) fl_M_62 rfl (lb rfl) (Nat.le_trans (lb rfl) hn) (hE 81 (lb rfl) (lb rfl)) rfl (by decide) rfl ?_
            refine R_iload_n (pc := 154) 1 (dc k_M_readPerson 88 rfl) rfl rfl ?_
            refine R_dup2 (pc := 155) (dc k_M_readPerson 89 rfl) rfl rfl ?_
            refine R_iald (pc := 156) (dc k_M_readPerson 90 rfl) rfl (lb rfl) (Nat.le_trans (lb rfl) hn) hg_12 hg_13 ?_
            refine R_iconst (pc := 157) (a := 1) (dc k_M_readPerson 91 rfl) ?_
            refine R_aload_n (pc := 158) 0 (dc k_M_readPerson 92 rfl) rfl rfl ?_
            refine R_iload_n (pc := 159) 2 (dc k_M_readPerson 93 rfl) rfl rfl ?_
            refine R_cVM (pc := 160)  (As := [vI r_40]) (S := [vI 1, vI (M_41 97 (Int.toNat l1_3)), vI l1_3, vR 97]) ck_M_365 (dc k_M_readPerson 94 rfl) ⟨rfl, ⟨_, rfl, rfl⟩, (lb rfl), (Nat.le_trans (lb rfl) hn)⟩ (lb rfl) (lb rfl) (lb rfl) rfl (ct_M_told hE hn (Z_bind hz)) (fun r_51 M_52 hz => ?_)
            refine R_ishl (pc := 163) (dc k_M_readPerson 95 rfl) ?_
            refine R_ior (pc := 164) (dc k_M_readPerson 96 rfl) ?_
            obtain ⟨M_53, hM_53, hz⟩ := Z_lt hz
            refine R_iastE (pc := 165) (dc k_M_readPerson 97 rfl) rfl (lb rfl) (Nat.le_trans (lb rfl) hn) hg_12 hg_13 hM_53 ?_
            refine R_iconst (pc := 166) (a := 0) (dc k_M_readPerson 98 rfl) ?_
            refine R_istore_n (pc := 167) (L' := [(2, vI 0), (0, vR 81), (1, vI l1_3), (3, vI r_40)]) (dc k_M_readPerson 99 rfl) rfl (lb rfl) rfl ?_
            refine R_goto (pc := 168) 99 (dc k_M_readPerson 100 rfl) rfl ?_
            refine R_sub [1, 2, 0] rfl ?_
            exact hC_36 _ (Z_some hz)
          obtain ⟨K_45, hK_46, hz⟩ := Z_cut hz
          have hX_47 : K_45 true → Rr y_M_readPerson (4, 89, n, n, E) (qV K) 141 [(3, vI r_40), (0, vR 81), (1, vI l1_3), (2, vI l2_30)] [] E n M_31 := by
            intro hk
            have hz := Z_pos rfl (hK_46 _ hk)
            refine R_aload_n (pc := 141) 1 (dc k_M_readPerson 81 rfl) rfl rfl ?_
            refine R_iconst (pc := 142) (a := 3) (dc k_M_readPerson 82 rfl) ?_
            refine R_aload_n (pc := 143) 1 (dc k_M_readPerson 83 rfl) rfl rfl ?_
            refine R_getI (pc := 144) (ci := 10) (k := 6) (dc k_M_readPerson 84 rfl) fl_M_243 rfl (lb rfl) (Nat.le_trans (lb rfl) hn) rfl (Or.inl rfl) ?_
            refine R_cVV (pc := 147)  (As := [vI 3, vI (M_31 81 6)]) (S := []) ck_M_274 (dc k_M_readPerson 85 rfl) ⟨rfl, ⟨_, rfl, rfl⟩, (lb rfl), (Nat.le_trans (lb rfl) hn)⟩ (lb rfl) (lb rfl) (lb rfl) rfl (ct_M_fails hE hn (Z_bind hz)) (fun M_50 hz => ?_)
            refine R_sub [1, 2, 0] rfl ?_
            exact hJ_44 _ (Z_some hz)
          have hY_48 : K_45 false → Rr y_M_readPerson (4, 89, n, n, E) (qV K) 150 [(3, vI r_40), (0, vR 81), (1, vI l1_3), (2, vI l2_30)] [] E n M_31 := by
            intro hk
            have hz := Z_neg Bool.false_ne_true (hK_46 _ hk)
            refine R_sub [1, 2, 0] rfl ?_
            exact hJ_44 _ (Z_some hz)
          refine R_if_lt (pc := 124) 150 (dc k_M_readPerson 70 rfl) rfl (fun hc => ?_) (fun hc => ?_)
          · have hz := Z_neg (show ¬ (0 ≤ n32 r_40) from (Int.not_le.mpr hc)) hz
            exact hY_48 (Z_some hz)
          · have hz := Z_pos (show 0 ≤ n32 r_40 from (Int.not_lt.mp hc)) hz
            refine R_aload_n (pc := 127) 1 (dc k_M_readPerson 71 rfl) rfl rfl ?_
            refine R_getS (pc := 128) (ci := 10) (k := 24) 97 (dc k_M_readPerson 72 rfl) fl_M_62 rfl (lb rfl) (Nat.le_trans (lb rfl) hn) (hE 81 (lb rfl) (lb rfl)) rfl (by decide) rfl ?_
            refine R_iload_n (pc := 131) 2 (dc k_M_readPerson 73 rfl) rfl rfl ?_
            refine R_iald (pc := 132) (dc k_M_readPerson 74 rfl) rfl (lb rfl) (Nat.le_trans (lb rfl) hn) hg_12 hg_13 ?_
            refine R_iload_n (pc := 133) 0 (dc k_M_readPerson 75 rfl) rfl rfl ?_
            refine R_ishr (pc := 134) (dc k_M_readPerson 76 rfl) ?_
            refine R_iconst (pc := 135) (a := 1) (dc k_M_readPerson 77 rfl) ?_
            refine R_iand (pc := 136) (dc k_M_readPerson 78 rfl) ?_
            refine R_iconst (pc := 137) (a := 1) (dc k_M_readPerson 79 rfl) ?_
            refine R_icmp_ne (pc := 138) 150 (dc k_M_readPerson 80 rfl) rfl (fun hc => ?_) (fun hc => ?_)
            · have hz := Z_neg (show ¬ (n32 (iand (ishr (M_31 97 (Int.toNat l1_3)) r_40) 1) = 1) from hc) hz
              exact hY_48 (Z_some hz)
            · have hz := Z_pos (show n32 (iand (ishr (M_31 97 (Int.toNat l1_3)) r_40) 1) = 1 from (Decidable.not_not.mp hc)) hz
              exact hX_47 (Z_some hz)
        have hY_55 : ¬ ((¬ n32 l2_30 = 0) ∨ (n32 (M_31 81 8) = 2)) → Rr y_M_readPerson (4, 89, n, n, E) (qV K) 171 [(0, vR 81), (1, vI l1_3), (2, vI l2_30)] [] E n M_31 := by
          intro hc
          have hz := Z_neg hc hz
          refine R_sub [] rfl ?_
          exact hX_34 _ (hB_37 _ (Z_some hz))
        refine R_if_ne (pc := 107) 118 (dc k_M_readPerson 61 rfl) rfl (fun hc => ?_) (fun hc => ?_)
        · have hc_56 : ¬ n32 l2_30 = 0 := hc
          exact hX_54 (Or.inl hc_56)
        · have hc_57 : n32 l2_30 = 0 := (Decidable.not_not.mp hc)
          refine R_aload_n (pc := 110) 0 (dc k_M_readPerson 62 rfl) rfl rfl ?_
          refine R_getI (pc := 111) (ci := 10) (k := 8) (dc k_M_readPerson 63 rfl) fl_M_250 rfl (lb rfl) (Nat.le_trans (lb rfl) hn) rfl (Or.inl rfl) ?_
          refine R_iconst (pc := 114) (a := 2) (dc k_M_readPerson 64 rfl) ?_
          refine R_icmp_ne (pc := 115) 171 (dc k_M_readPerson 65 rfl) rfl (fun hc => ?_) (fun hc => ?_)
          · have hc_58 : ¬ n32 (M_31 81 8) = 2 := hc
            exact hY_55 (fun z => z.elim (fun z => z hc_57) hc_58)
          · have hc_59 : n32 (M_31 81 8) = 2 := (Decidable.not_not.mp hc)
            exact hX_54 (Or.inr hc_59)
    refine R_if_eq (pc := 79) 92 (dc k_M_readPerson 47 rfl) rfl (fun hc => ?_) (fun hc => ?_)
    · have hz := Z_neg (show ¬ (¬ n32 r_22 = 0) from (fun z => z hc)) hz
      exact hX_25 (Z_some hz)
    · have hz := Z_pos (show ¬ n32 r_22 = 0 from hc) hz
      refine R_aload_n (pc := 82) 0 (dc k_M_readPerson 48 rfl) rfl rfl ?_
      refine R_ldc2 (pc := 83) (a := 461414299507) (dc k_M_readPerson 49 rfl) c_M_206 ?_
      refine R_cVP (pc := 86)  (As := [vJ 461414299507]) (S := []) ck_M_288 (dc k_M_readPerson 50 rfl) ⟨rfl, ⟨_, rfl, rfl⟩, (lb rfl), (Nat.le_trans (lb rfl) hn)⟩ (lb rfl) (lb rfl) (lb rfl) rfl (ct_M_isWord hE hn (Z_bind hz)) (fun r_28 hz => ?_)
      refine R_if_ne (pc := 89) 93 (dc k_M_readPerson 51 rfl) rfl (fun hc => ?_) (fun hc => ?_)
      · have hz := Z_neg (show ¬ (n32 r_28 = 0) from hc) hz
        exact hY_26 (Z_some hz)
      · have hz := Z_pos (show n32 r_28 = 0 from (Decidable.not_not.mp hc)) hz
        exact hX_25 (Z_some hz)
  refine R_if_lt (pc := 28) 35 (dc k_M_readPerson 17 rfl) rfl (fun hc => ?_) (fun hc => ?_)
  · have hz := Z_neg (show ¬ (0 ≤ n32 r_4) from (Int.not_le.mpr hc)) hz
    refine R_iconst (pc := 35) (a := 0) (dc k_M_readPerson 20 rfl) ?_
    refine R_sub [1, 0] rfl ?_
    exact hJ_8 _ (Z_some hz)
  · have hz := Z_pos (show 0 ≤ n32 r_4 from (Int.not_lt.mp hc)) hz
    refine R_iconst (pc := 31) (a := 1) (dc k_M_readPerson 18 rfl) ?_
    refine R_goto (pc := 32) 36 (dc k_M_readPerson 19 rfl) rfl ?_
    refine R_sub [1, 0] rfl ?_
    exact hJ_8 _ (Z_some hz)

set_option maxRecDepth 20000 in
theorem ct_M_pushE {E : Nat → Bool} {n : Nat} (hE : ∀ c, 81 ≤ c → c ≤ 138 → E c = true) (hn : 138 ≤ n) {what : Int} {sign : Int} {n_ : Int} {M : Mem} {K : Mem → Prop} (hz : Z (M_pushE what sign n_ M) K) : Mt y_M_pushE (0, 0, n, n, E) E [vR 81, vI what, vI sign, vI n_] M (qV K) := by
  refine Mt.of (by decide) (lb rfl) (Nat.le_refl _) rfl ?_
  rw [M_pushE] at hz
  show Rr y_M_pushE (0, 0, n, n, E) (qV K) 0 [(0, vR 81), (1, vI what), (2, vI sign), (3, vI n_)] [] E n M
  refine R_aload_n (pc := 0) 0 (dc k_M_pushE 0 rfl) rfl rfl ?_
  refine R_getS (pc := 1) (ci := 10) (k := 35) 108 (dc k_M_pushE 1 rfl) fl_M_95 rfl (lb rfl) (Nat.le_trans (lb rfl) hn) (hE 81 (lb rfl) (lb rfl)) rfl (by decide) rfl ?_
  refine R_aload_n (pc := 4) 0 (dc k_M_pushE 2 rfl) rfl rfl ?_
  refine R_getI (pc := 5) (ci := 10) (k := 42) (dc k_M_pushE 3 rfl) fl_M_381 rfl (lb rfl) (Nat.le_trans (lb rfl) hn) rfl (Or.inl rfl) ?_
  refine R_iload_n (pc := 8) 1 (dc k_M_pushE 4 rfl) rfl rfl ?_
  obtain ⟨⟨hg_1, hg_2⟩, hz⟩ := Z_chk hz
  obtain ⟨M_3, hM_3, hz⟩ := Z_lt hz
  refine R_iastE (pc := 9) (dc k_M_pushE 5 rfl) rfl (lb rfl) (Nat.le_trans (lb rfl) hn) hg_1 hg_2 hM_3 ?_
  refine R_aload_n (pc := 10) 0 (dc k_M_pushE 6 rfl) rfl rfl ?_
  refine R_getS (pc := 11) (ci := 10) (k := 36) 109 (dc k_M_pushE 7 rfl) fl_M_98 rfl (lb rfl) (Nat.le_trans (lb rfl) hn) (hE 81 (lb rfl) (lb rfl)) rfl (by decide) rfl ?_
  refine R_aload_n (pc := 14) 0 (dc k_M_pushE 8 rfl) rfl rfl ?_
  refine R_getI (pc := 15) (ci := 10) (k := 42) (dc k_M_pushE 9 rfl) fl_M_381 rfl (lb rfl) (Nat.le_trans (lb rfl) hn) rfl (Or.inl rfl) ?_
  refine R_iload_n (pc := 18) 2 (dc k_M_pushE 10 rfl) rfl rfl ?_
  obtain ⟨⟨hg_4, hg_5⟩, hz⟩ := Z_chk hz
  obtain ⟨M_6, hM_6, hz⟩ := Z_lt hz
  refine R_iastE (pc := 19) (dc k_M_pushE 11 rfl) rfl (lb rfl) (Nat.le_trans (lb rfl) hn) hg_4 hg_5 hM_6 ?_
  refine R_aload_n (pc := 20) 0 (dc k_M_pushE 12 rfl) rfl rfl ?_
  refine R_getS (pc := 21) (ci := 10) (k := 37) 110 (dc k_M_pushE 13 rfl) fl_M_101 rfl (lb rfl) (Nat.le_trans (lb rfl) hn) (hE 81 (lb rfl) (lb rfl)) rfl (by decide) rfl ?_
  refine R_aload_n (pc := 24) 0 (dc k_M_pushE 14 rfl) rfl rfl ?_
  refine R_getI (pc := 25) (ci := 10) (k := 42) (dc k_M_pushE 15 rfl) fl_M_381 rfl (lb rfl) (Nat.le_trans (lb rfl) hn) rfl (Or.inl rfl) ?_
  refine R_iload_n (pc := 28) 3 (dc k_M_pushE 16 rfl) rfl rfl ?_
  obtain ⟨⟨hg_7, hg_8⟩, hz⟩ := Z_chk hz
  obtain ⟨M_9, hM_9, hz⟩ := Z_lt hz
  refine R_iastE (pc := 29) (dc k_M_pushE 17 rfl) rfl (lb rfl) (Nat.le_trans (lb rfl) hn) hg_7 hg_8 hM_9 ?_
  refine R_aload_n (pc := 30) 0 (dc k_M_pushE 18 rfl) rfl rfl ?_
  refine R_dup (pc := 31) (dc k_M_pushE 19 rfl) rfl ?_
  refine R_getI (pc := 32) (ci := 10) (k := 42) (dc k_M_pushE 20 rfl) fl_M_381 rfl (lb rfl) (Nat.le_trans (lb rfl) hn) rfl (Or.inl rfl) ?_
  refine R_iconst (pc := 35) (a := 1) (dc k_M_pushE 21 rfl) ?_
  refine R_iadd (pc := 36) (dc k_M_pushE 22 rfl) ?_
  obtain ⟨M_10, hM_10, hz⟩ := Z_lt hz
  refine R_putIE (pc := 37) (ci := 10) (k := 42) (dc k_M_pushE 23 rfl) fl_M_381 rfl (lb rfl) (Nat.le_trans (lb rfl) hn) rfl rfl rfl hM_10 ?_
  exact R_vret (pc := 40) (dc k_M_pushE 24 rfl) rfl rfl rfl ⟨rfl, (Z_some hz)⟩

set_option maxRecDepth 20000 in
theorem ct_M_stands {E : Nat → Bool} {n : Nat} (hE : ∀ c, 81 ≤ c → c ≤ 138 → E c = true) (hn : 138 ≤ n) {c : Int} {M : Mem} {K : Int → Prop} (hz : Z (M_stands c M) K) : Mt y_M_stands (1, 21, n, n, E) E [vR 81, vI c] M (qP M K) := by
  refine Mt.of (by decide) (lb rfl) (Nat.le_refl _) rfl ?_
  rw [M_stands] at hz
  show Rr y_M_stands (1, 21, n, n, E) (qP M K) 0 [(0, vR 81), (1, vI c)] [] E n M
  refine R_aload_n (pc := 0) 0 (dc k_M_stands 0 rfl) rfl rfl ?_
  refine R_getI (pc := 1) (ci := 10) (k := 8) (dc k_M_stands 1 rfl) fl_M_250 rfl (lb rfl) (Nat.le_trans (lb rfl) hn) rfl (Or.inl rfl) ?_
  refine R_iconst (pc := 4) (a := 5) (dc k_M_stands 2 rfl) ?_
  obtain ⟨K_1, hK_2, hz⟩ := Z_cut hz
  have hX_3 : K_1 true → Rr y_M_stands (1, 21, n, n, E) (qP M K) 20 [(0, vR 81), (1, vI c)] [] E n M := by
    intro hk
    have hz := Z_pos rfl (hK_2 _ hk)
    refine R_iconst (pc := 20) (a := 1) (dc k_M_stands 10 rfl) ?_
    refine R_goto (pc := 21) 25 (dc k_M_stands 11 rfl) rfl ?_
    exact R_zret (pc := 25) (dc k_M_stands 13 rfl) rfl (Or.inr rfl) rfl rfl ⟨_, rfl, rfl, (Z_some hz)⟩
  have hY_4 : K_1 false → Rr y_M_stands (1, 21, n, n, E) (qP M K) 24 [(0, vR 81), (1, vI c)] [] E n M := by
    intro hk
    have hz := Z_neg Bool.false_ne_true (hK_2 _ hk)
    refine R_iconst (pc := 24) (a := 0) (dc k_M_stands 12 rfl) ?_
    exact R_zret (pc := 25) (dc k_M_stands 13 rfl) rfl (Or.inl rfl) rfl rfl ⟨_, rfl, rfl, (Z_some hz)⟩
  refine R_icmp_ne (pc := 5) 24 (dc k_M_stands 3 rfl) rfl (fun hc => ?_) (fun hc => ?_)
  · have hz := Z_neg (show ¬ (n32 (M 81 8) = 5) from hc) hz
    exact hY_4 (Z_some hz)
  · have hz := Z_pos (show n32 (M 81 8) = 5 from (Decidable.not_not.mp hc)) hz
    refine R_aload_n (pc := 8) 0 (dc k_M_stands 4 rfl) rfl rfl ?_
    refine R_aload_n (pc := 9) 0 (dc k_M_stands 5 rfl) rfl rfl ?_
    refine R_getI (pc := 10) (ci := 10) (k := 6) (dc k_M_stands 6 rfl) fl_M_243 rfl (lb rfl) (Nat.le_trans (lb rfl) hn) rfl (Or.inl rfl) ?_
    refine R_cVP (pc := 13)  (As := [vI (M 81 6)]) (S := []) ck_M_246 (dc k_M_stands 7 rfl) ⟨rfl, ⟨_, rfl, rfl⟩, (lb rfl), (Nat.le_trans (lb rfl) hn)⟩ (lb rfl) (lb rfl) (lb rfl) rfl (ct_M_sign hE hn (Z_bind hz)) (fun r_6 hz => ?_)
    refine R_iload_n (pc := 16) 1 (dc k_M_stands 8 rfl) rfl rfl ?_
    refine R_icmp_ne (pc := 17) 24 (dc k_M_stands 9 rfl) rfl (fun hc => ?_) (fun hc => ?_)
    · have hz := Z_neg (show ¬ (n32 r_6 = n32 c) from hc) hz
      exact hY_4 (Z_some hz)
    · have hz := Z_pos (show n32 r_6 = n32 c from (Decidable.not_not.mp hc)) hz
      exact hX_3 (Z_some hz)

set_option maxRecDepth 20000 in
theorem ct_M_opens {E : Nat → Bool} {n : Nat} (hE : ∀ c, 81 ≤ c → c ≤ 138 → E c = true) (hn : 138 ≤ n) {what : Int} {sign : Int} {n_ : Int} {M : Mem} {K : Int × Mem → Prop} (hz : Z (M_opens what sign n_ M) K) : Mt y_M_opens (1, 23, n, n, E) E [vR 81, vI what, vI sign, vI n_] M (qM K) := by
  refine Mt.of (by decide) (lb rfl) (Nat.le_refl _) rfl ?_
  rw [M_opens] at hz
  show Rr y_M_opens (1, 23, n, n, E) (qM K) 0 [(0, vR 81), (1, vI what), (2, vI sign), (3, vI n_)] [] E n M
  refine R_aload_n (pc := 0) 0 (dc k_M_opens 0 rfl) rfl rfl ?_
  refine R_iload_n (pc := 1) 1 (dc k_M_opens 1 rfl) rfl rfl ?_
  refine R_iload_n (pc := 2) 2 (dc k_M_opens 2 rfl) rfl rfl ?_
  refine R_iload_n (pc := 3) 3 (dc k_M_opens 3 rfl) rfl rfl ?_
  refine R_cVV (pc := 4)  (As := [vI what, vI sign, vI n_]) (S := []) ck_M_387 (dc k_M_opens 4 rfl) ⟨rfl, ⟨_, rfl, rfl⟩, (lb rfl), (Nat.le_trans (lb rfl) hn)⟩ (lb rfl) (lb rfl) (lb rfl) rfl (ct_M_pushE hE hn (Z_bind hz)) (fun M_1 hz => ?_)
  refine R_aload_n (pc := 7) 0 (dc k_M_opens 5 rfl) rfl rfl ?_
  refine R_dup (pc := 8) (dc k_M_opens 6 rfl) rfl ?_
  refine R_getI (pc := 9) (ci := 10) (k := 41) (dc k_M_opens 7 rfl) fl_M_384 rfl (lb rfl) (Nat.le_trans (lb rfl) hn) rfl (Or.inl rfl) ?_
  refine R_iconst (pc := 12) (a := 1) (dc k_M_opens 8 rfl) ?_
  refine R_iadd (pc := 13) (dc k_M_opens 9 rfl) ?_
  obtain ⟨M_2, hM_2, hz⟩ := Z_lt hz
  refine R_putIE (pc := 14) (ci := 10) (k := 41) (dc k_M_opens 10 rfl) fl_M_384 rfl (lb rfl) (Nat.le_trans (lb rfl) hn) rfl rfl rfl hM_2 ?_
  refine R_iconst (pc := 17) (a := 1) (dc k_M_opens 11 rfl) ?_
  exact R_zret (pc := 18) (dc k_M_opens 12 rfl) rfl (Or.inr rfl) rfl rfl ⟨_, rfl, (Z_some hz)⟩

set_option maxRecDepth 20000 in
theorem ct_M_emit {E : Nat → Bool} {n : Nat} (hE : ∀ c, 81 ≤ c → c ≤ 138 → E c = true) (hn : 138 ≤ n) {c : Int} {n_ : Int} {M : Mem} {K : Mem → Prop} (hz : Z (M_emit c n_ M) K) : Mt y_M_emit (0, 0, n, n, E) E [vR 81, vI c, vI n_] M (qV K) := by
  refine Mt.of (by decide) (lb rfl) (Nat.le_refl _) rfl ?_
  rw [M_emit] at hz
  show Rr y_M_emit (0, 0, n, n, E) (qV K) 0 [(0, vR 81), (1, vI c), (2, vI n_)] [] E n M
  refine R_aload_n (pc := 0) 0 (dc k_M_emit 0 rfl) rfl rfl ?_
  refine R_getS (pc := 1) (ci := 10) (k := 33) 106 (dc k_M_emit 1 rfl) fl_M_89 rfl (lb rfl) (Nat.le_trans (lb rfl) hn) (hE 81 (lb rfl) (lb rfl)) rfl (by decide) rfl ?_
  refine R_aload_n (pc := 4) 0 (dc k_M_emit 2 rfl) rfl rfl ?_
  refine R_getI (pc := 5) (ci := 10) (k := 40) (dc k_M_emit 3 rfl) fl_M_298 rfl (lb rfl) (Nat.le_trans (lb rfl) hn) rfl (Or.inl rfl) ?_
  refine R_iload_n (pc := 8) 1 (dc k_M_emit 4 rfl) rfl rfl ?_
  obtain ⟨⟨hg_1, hg_2⟩, hz⟩ := Z_chk hz
  obtain ⟨M_3, hM_3, hz⟩ := Z_lt hz
  refine R_iastE (pc := 9) (dc k_M_emit 5 rfl) rfl (lb rfl) (Nat.le_trans (lb rfl) hn) hg_1 hg_2 hM_3 ?_
  refine R_aload_n (pc := 10) 0 (dc k_M_emit 6 rfl) rfl rfl ?_
  refine R_getS (pc := 11) (ci := 10) (k := 34) 107 (dc k_M_emit 7 rfl) fl_M_92 rfl (lb rfl) (Nat.le_trans (lb rfl) hn) (hE 81 (lb rfl) (lb rfl)) rfl (by decide) rfl ?_
  refine R_aload_n (pc := 14) 0 (dc k_M_emit 8 rfl) rfl rfl ?_
  refine R_getI (pc := 15) (ci := 10) (k := 40) (dc k_M_emit 9 rfl) fl_M_298 rfl (lb rfl) (Nat.le_trans (lb rfl) hn) rfl (Or.inl rfl) ?_
  refine R_iload_n (pc := 18) 2 (dc k_M_emit 10 rfl) rfl rfl ?_
  obtain ⟨⟨hg_4, hg_5⟩, hz⟩ := Z_chk hz
  obtain ⟨M_6, hM_6, hz⟩ := Z_lt hz
  refine R_iastE (pc := 19) (dc k_M_emit 11 rfl) rfl (lb rfl) (Nat.le_trans (lb rfl) hn) hg_4 hg_5 hM_6 ?_
  refine R_aload_n (pc := 20) 0 (dc k_M_emit 12 rfl) rfl rfl ?_
  refine R_dup (pc := 21) (dc k_M_emit 13 rfl) rfl ?_
  refine R_getI (pc := 22) (ci := 10) (k := 40) (dc k_M_emit 14 rfl) fl_M_298 rfl (lb rfl) (Nat.le_trans (lb rfl) hn) rfl (Or.inl rfl) ?_
  refine R_iconst (pc := 25) (a := 1) (dc k_M_emit 15 rfl) ?_
  refine R_iadd (pc := 26) (dc k_M_emit 16 rfl) ?_
  obtain ⟨M_7, hM_7, hz⟩ := Z_lt hz
  refine R_putIE (pc := 27) (ci := 10) (k := 40) (dc k_M_emit 17 rfl) fl_M_298 rfl (lb rfl) (Nat.le_trans (lb rfl) hn) rfl rfl rfl hM_7 ?_
  exact R_vret (pc := 30) (dc k_M_emit 18 rfl) rfl rfl rfl ⟨rfl, (Z_some hz)⟩

set_option maxRecDepth 20000 in
theorem ct_M_part {E : Nat → Bool} {n : Nat} (hE : ∀ c, 81 ≤ c → c ≤ 138 → E c = true) (hn : 138 ≤ n) {M : Mem} {K : Int × Mem → Prop} (hz : Z (M_part M) K) : Mt y_M_part (2, 46, n, n, E) E [vR 81] M (qM K) := by
  refine Mt.of (by decide) (lb rfl) (Nat.le_refl _) rfl ?_
  rw [M_part] at hz
  show Rr y_M_part (2, 46, n, n, E) (qM K) 0 [(0, vR 81)] [] E n M
  refine R_aload_n (pc := 0) 0 (dc k_M_part 0 rfl) rfl rfl ?_
  refine R_bipush (pc := 1) (a := 40) (dc k_M_part 1 rfl) (by decide) ?_
  refine R_cVP (pc := 3)  (As := [vI 40]) (S := []) ck_M_341 (dc k_M_part 2 rfl) ⟨rfl, ⟨_, rfl, rfl⟩, (lb rfl), (Nat.le_trans (lb rfl) hn)⟩ (lb rfl) (lb rfl) (lb rfl) rfl (ct_M_stands hE hn (Z_bind hz)) (fun r_1 hz => ?_)
  refine R_istore_n (pc := 6) (L' := [(1, vI r_1), (0, vR 81)]) (dc k_M_part 3 rfl) rfl (lb rfl) rfl ?_
  refine R_aload_n (pc := 7) 1 (dc k_M_part 4 rfl) rfl rfl ?_
  refine R_getI (pc := 8) (ci := 10) (k := 8) (dc k_M_part 5 rfl) fl_M_250 rfl (lb rfl) (Nat.le_trans (lb rfl) hn) rfl (Or.inl rfl) ?_
  refine R_iconst (pc := 11) (a := 4) (dc k_M_part 6 rfl) ?_
  obtain ⟨K_3, hK_4, hz⟩ := Z_cut hz
  have hJ_5 : ∀ (v_2 : Int), K_3 v_2 → Rr y_M_part (2, 46, n, n, E) (qM K) 81 [(0, vR 81), (1, vI r_1)] [vI v_2] E n M := by
    intro v_2 hk
    have hz := hK_4 _ hk
    refine R_istore_n (pc := 81) (L' := [(2, vI v_2), (0, vR 81), (1, vI r_1)]) (dc k_M_part 35 rfl) rfl (lb rfl) rfl ?_
    refine R_iload_n (pc := 82) 0 (dc k_M_part 36 rfl) rfl rfl ?_
    obtain ⟨K_16, hK_17, hz⟩ := Z_cut hz
    have hJ_18 : ∀ (M_15 : Mem), K_16 M_15 → Rr y_M_part (2, 46, n, n, E) (qM K) 121 [(0, vR 81), (1, vI r_1), (2, vI v_2)] [] E n M_15 := by
      intro M_15 hk
      have hz := hK_17 _ hk
      refine R_aload_n (pc := 121) 0 (dc k_M_part 55 rfl) rfl rfl ?_
      refine R_cVP (pc := 122)  (As := []) (S := []) ck_M_278 (dc k_M_part 56 rfl) ⟨rfl, ⟨_, rfl, rfl⟩, (lb rfl), (Nat.le_trans (lb rfl) hn)⟩ (lb rfl) (lb rfl) (lb rfl) rfl (ct_M_isGood hE hn (Z_bind hz)) (fun r_38 hz => ?_)
      refine R_if_ne (pc := 125) 130 (dc k_M_part 57 rfl) rfl (fun hc => ?_) (fun hc => ?_)
      · have hz := Z_neg (show ¬ (n32 r_38 = 0) from hc) hz
        refine R_aload_n (pc := 130) 0 (dc k_M_part 60 rfl) rfl rfl ?_
        refine R_getS (pc := 131) (ci := 10) (k := 17) 90 (dc k_M_part 61 rfl) fl_M_39 rfl (lb rfl) (Nat.le_trans (lb rfl) hn) (hE 81 (lb rfl) (lb rfl)) rfl (by decide) rfl ?_
        refine R_aload_n (pc := 134) 0 (dc k_M_part 62 rfl) rfl rfl ?_
        refine R_getI (pc := 135) (ci := 10) (k := 39) (dc k_M_part 63 rfl) fl_M_295 rfl (lb rfl) (Nat.le_trans (lb rfl) hn) rfl (Or.inl rfl) ?_
        refine R_dup2 (pc := 138) (dc k_M_part 64 rfl) rfl rfl ?_
        obtain ⟨⟨hg_39, hg_40⟩, hz⟩ := Z_chk hz
        refine R_iald (pc := 139) (dc k_M_part 65 rfl) rfl (lb rfl) (Nat.le_trans (lb rfl) hn) hg_39 hg_40 ?_
        refine R_iconst (pc := 140) (a := 1) (dc k_M_part 66 rfl) ?_
        refine R_iadd (pc := 141) (dc k_M_part 67 rfl) ?_
        obtain ⟨M_41, hM_41, hz⟩ := Z_lt hz
        refine R_iastE (pc := 142) (dc k_M_part 68 rfl) rfl (lb rfl) (Nat.le_trans (lb rfl) hn) hg_39 hg_40 hM_41 ?_
        refine R_aload_n (pc := 143) 0 (dc k_M_part 69 rfl) rfl rfl ?_
        refine R_getI (pc := 144) (ci := 10) (k := 9) (dc k_M_part 70 rfl) fl_M_268 rfl (lb rfl) (Nat.le_trans (lb rfl) hn) rfl (Or.inl rfl) ?_
        obtain ⟨l3_42, hl3_42, hz⟩ := Z_lt hz
        refine R_istore_nE (pc := 147) (L' := [(3, vI l3_42), (0, vR 81), (1, vI r_1), (2, vI v_2)]) (dc k_M_part 71 rfl) rfl (lb rfl) hl3_42 rfl ?_
        refine R_aload_n (pc := 148) 1 (dc k_M_part 72 rfl) rfl rfl ?_
        refine R_cVV (pc := 149)  (As := []) (S := []) ck_M_282 (dc k_M_part 73 rfl) ⟨rfl, ⟨_, rfl, rfl⟩, (lb rfl), (Nat.le_trans (lb rfl) hn)⟩ (lb rfl) (lb rfl) (lb rfl) rfl (ct_M_goOn hE hn (Z_bind hz)) (fun M_43 hz => ?_)
        refine R_iload_n (pc := 152) 2 (dc k_M_part 74 rfl) rfl rfl ?_
        refine R_if_eq (pc := 153) 165 (dc k_M_part 75 rfl) rfl (fun hc => ?_) (fun hc => ?_)
        · have hz := Z_neg (show ¬ (¬ n32 r_1 = 0) from (fun z => z hc)) hz
          refine R_aload_n (pc := 165) 1 (dc k_M_part 82 rfl) rfl rfl ?_
          refine R_iload_n (pc := 166) 3 (dc k_M_part 83 rfl) rfl rfl ?_
          refine R_iload_n (pc := 167) 0 (dc k_M_part 84 rfl) rfl rfl ?_
          refine R_cVV (pc := 168)  (As := [vI v_2, vI l3_42]) (S := []) ck_M_406 (dc k_M_part 85 rfl) ⟨rfl, ⟨_, rfl, rfl⟩, (lb rfl), (Nat.le_trans (lb rfl) hn)⟩ (lb rfl) (lb rfl) (lb rfl) rfl (ct_M_emit hE hn (Z_bind hz)) (fun M_47 hz => ?_)
          refine R_iconst (pc := 171) (a := 0) (dc k_M_part 86 rfl) ?_
          exact R_zret (pc := 172) (dc k_M_part 87 rfl) rfl (Or.inl rfl) rfl rfl ⟨_, rfl, (Z_some hz)⟩
        · have hz := Z_pos (show ¬ n32 r_1 = 0 from hc) hz
          refine R_aload_n (pc := 156) 1 (dc k_M_part 76 rfl) rfl rfl ?_
          refine R_bipush (pc := 157) (a := 7) (dc k_M_part 77 rfl) (by decide) ?_
          refine R_iconst (pc := 159) (a := 0) (dc k_M_part 78 rfl) ?_
          refine R_iconst (pc := 160) (a := 0) (dc k_M_part 79 rfl) ?_
          refine R_cVM (pc := 161)  (As := [vI 7, vI 0, vI 0]) (S := []) ck_M_402 (dc k_M_part 80 rfl) ⟨rfl, ⟨_, rfl, rfl⟩, (lb rfl), (Nat.le_trans (lb rfl) hn)⟩ (lb rfl) (lb rfl) (lb rfl) rfl (ct_M_opens hE hn (Z_bind hz)) (fun r_44 M_45 hz => ?_)
          obtain ⟨hg_46, hz⟩ := Z_chk hz
          exact R_zret (pc := 164) (dc k_M_part 81 rfl) rfl hg_46 rfl rfl ⟨_, rfl, (Z_some hz)⟩
      · have hz := Z_pos (show n32 r_38 = 0 from (Decidable.not_not.mp hc)) hz
        refine R_iconst (pc := 128) (a := 1) (dc k_M_part 58 rfl) ?_
        exact R_zret (pc := 129) (dc k_M_part 59 rfl) rfl (Or.inr rfl) rfl rfl ⟨_, rfl, (Z_some hz)⟩
    obtain ⟨j_19, hj_20, hz⟩ := Z_jn hz
    have hJ_21 : Z (j_19 ()) K_16 → Rr y_M_part (2, 46, n, n, E) (qM K) 117 [(0, vR 81), (1, vI r_1), (2, vI v_2)] [] E n M := by
      intro  hk
      have hz := hj_20 _ hk
      refine R_aload_n (pc := 117) 0 (dc k_M_part 53 rfl) rfl rfl ?_
      refine R_cVV (pc := 118)  (As := []) (S := []) ck_M_285 (dc k_M_part 54 rfl) ⟨rfl, ⟨_, rfl, rfl⟩, (lb rfl), (Nat.le_trans (lb rfl) hn)⟩ (lb rfl) (lb rfl) (lb rfl) rfl (ct_M_misplaced hE hn (Z_bind hz)) (fun M_37 hz => ?_)
      exact hJ_18 _ (Z_some hz)
    obtain ⟨K_22, hK_23, hz⟩ := Z_cut hz
    have hX_24 : K_22 true → Rr y_M_part (2, 46, n, n, E) (qM K) 104 [(2, vI v_2), (0, vR 81), (1, vI r_1)] [] E n M := by
      intro hk
      have hz := Z_pos rfl (hK_23 _ hk)
      refine R_iload_n (pc := 104) 2 (dc k_M_part 47 rfl) rfl rfl ?_
      have hX_31 : ((¬ n32 r_1 = 0) ∧ (n32 (M 81 41) = 7)) → Rr y_M_part (2, 46, n, n, E) (qM K) 117 [(2, vI v_2), (0, vR 81), (1, vI r_1)] [] E n M := by
        intro hc
        have hz := Z_pos hc hz
        refine R_sub [1, 2, 0] rfl ?_
        exact hJ_21 hz
      have hY_32 : ¬ ((¬ n32 r_1 = 0) ∧ (n32 (M 81 41) = 7)) → Rr y_M_part (2, 46, n, n, E) (qM K) 121 [(2, vI v_2), (0, vR 81), (1, vI r_1)] [] E n M := by
        intro hc
        have hz := Z_neg hc hz
        refine R_sub [1, 2, 0] rfl ?_
        exact hJ_18 _ (Z_some hz)
      refine R_if_eq (pc := 105) 121 (dc k_M_part 48 rfl) rfl (fun hc => ?_) (fun hc => ?_)
      · have hc_33 : n32 r_1 = 0 := hc
        exact hY_32 (fun z => (fun z => z hc_33) z.1)
      · have hc_34 : ¬ n32 r_1 = 0 := hc
        refine R_aload_n (pc := 108) 1 (dc k_M_part 49 rfl) rfl rfl ?_
        refine R_getI (pc := 109) (ci := 10) (k := 41) (dc k_M_part 50 rfl) fl_M_384 rfl (lb rfl) (Nat.le_trans (lb rfl) hn) rfl (Or.inl rfl) ?_
        refine R_bipush (pc := 112) (a := 7) (dc k_M_part 51 rfl) (by decide) ?_
        refine R_icmp_ne (pc := 114) 121 (dc k_M_part 52 rfl) rfl (fun hc => ?_) (fun hc => ?_)
        · have hc_35 : ¬ n32 (M 81 41) = 7 := hc
          exact hY_32 (fun z => hc_35 z.2)
        · have hc_36 : n32 (M 81 41) = 7 := (Decidable.not_not.mp hc)
          exact hX_31 ⟨hc_34, hc_36⟩
    have hY_25 : K_22 false → Rr y_M_part (2, 46, n, n, E) (qM K) 117 [(2, vI v_2), (0, vR 81), (1, vI r_1)] [] E n M := by
      intro hk
      have hz := Z_neg Bool.false_ne_true (hK_23 _ hk)
      refine R_sub [1, 2, 0] rfl ?_
      exact hJ_21 hz
    refine R_if_ne (pc := 83) 90 (dc k_M_part 37 rfl) rfl (fun hc => ?_) (fun hc => ?_)
    · have hz := Z_neg (show ¬ (n32 v_2 = 0) from hc) hz
      refine R_aload_n (pc := 90) 1 (dc k_M_part 40 rfl) rfl rfl ?_
      refine R_getS (pc := 91) (ci := 10) (k := 17) 90 (dc k_M_part 41 rfl) fl_M_39 rfl (lb rfl) (Nat.le_trans (lb rfl) hn) (hE 81 (lb rfl) (lb rfl)) rfl (by decide) rfl ?_
      refine R_aload_n (pc := 94) 1 (dc k_M_part 42 rfl) rfl rfl ?_
      refine R_getI (pc := 95) (ci := 10) (k := 39) (dc k_M_part 43 rfl) fl_M_295 rfl (lb rfl) (Nat.le_trans (lb rfl) hn) rfl (Or.inl rfl) ?_
      obtain ⟨⟨hg_27, hg_28⟩, hz⟩ := Z_chk hz
      refine R_iald (pc := 98) (dc k_M_part 44 rfl) rfl (lb rfl) (Nat.le_trans (lb rfl) hn) hg_27 hg_28 ?_
      refine R_bipush (pc := 99) (a := 80) (dc k_M_part 45 rfl) (by decide) ?_
      refine R_icmp_eq (pc := 101) 117 (dc k_M_part 46 rfl) rfl (fun hc => ?_) (fun hc => ?_)
      · have hz := Z_neg (show ¬ (¬ n32 (M 90 (Int.toNat (M 81 39))) = 80) from (fun z => z hc)) hz
        exact hY_25 (Z_some hz)
      · have hz := Z_pos (show ¬ n32 (M 90 (Int.toNat (M 81 39))) = 80 from hc) hz
        exact hX_24 (Z_some hz)
    · have hz := Z_pos (show n32 v_2 = 0 from (Decidable.not_not.mp hc)) hz
      refine R_iload_n (pc := 86) 2 (dc k_M_part 38 rfl) rfl rfl ?_
      refine R_if_eq (pc := 87) 117 (dc k_M_part 39 rfl) rfl (fun hc => ?_) (fun hc => ?_)
      · have hz := Z_neg (show ¬ (¬ n32 r_1 = 0) from (fun z => z hc)) hz
        exact hY_25 (Z_some hz)
      · have hz := Z_pos (show ¬ n32 r_1 = 0 from hc) hz
        refine R_aload_n (pc := 90) 1 (dc k_M_part 40 rfl) rfl rfl ?_
        refine R_getS (pc := 91) (ci := 10) (k := 17) 90 (dc k_M_part 41 rfl) fl_M_39 rfl (lb rfl) (Nat.le_trans (lb rfl) hn) (hE 81 (lb rfl) (lb rfl)) rfl (by decide) rfl ?_
        refine R_aload_n (pc := 94) 1 (dc k_M_part 42 rfl) rfl rfl ?_
        refine R_getI (pc := 95) (ci := 10) (k := 39) (dc k_M_part 43 rfl) fl_M_295 rfl (lb rfl) (Nat.le_trans (lb rfl) hn) rfl (Or.inl rfl) ?_
        obtain ⟨⟨hg_29, hg_30⟩, hz⟩ := Z_chk hz
        refine R_iald (pc := 98) (dc k_M_part 44 rfl) rfl (lb rfl) (Nat.le_trans (lb rfl) hn) hg_29 hg_30 ?_
        refine R_bipush (pc := 99) (a := 80) (dc k_M_part 45 rfl) (by decide) ?_
        refine R_icmp_eq (pc := 101) 117 (dc k_M_part 46 rfl) rfl (fun hc => ?_) (fun hc => ?_)
        · have hz := Z_neg (show ¬ (¬ n32 (M 90 (Int.toNat (M 81 39))) = 80) from (fun z => z hc)) hz
          exact hY_25 (Z_some hz)
        · have hz := Z_pos (show ¬ n32 (M 90 (Int.toNat (M 81 39))) = 80 from hc) hz
          exact hX_24 (Z_some hz)
  refine R_icmp_ne (pc := 12) 20 (dc k_M_part 7 rfl) rfl (fun hc => ?_) (fun hc => ?_)
  · have hz := Z_neg (show ¬ (n32 (M 81 8) = 4) from hc) hz
    refine R_aload_n (pc := 20) 1 (dc k_M_part 10 rfl) rfl rfl ?_
    refine R_ldc2 (pc := 21) (a := 130220881569139) (dc k_M_part 11 rfl) c_M_234 ?_
    refine R_cVP (pc := 24)  (As := [vJ 130220881569139]) (S := []) ck_M_288 (dc k_M_part 12 rfl) ⟨rfl, ⟨_, rfl, rfl⟩, (lb rfl), (Nat.le_trans (lb rfl) hn)⟩ (lb rfl) (lb rfl) (lb rfl) rfl (ct_M_isWord hE hn (Z_bind hz)) (fun r_6 hz => ?_)
    refine R_if_eq (pc := 27) 35 (dc k_M_part 13 rfl) rfl (fun hc => ?_) (fun hc => ?_)
    · have hz := Z_neg (show ¬ (¬ n32 r_6 = 0) from (fun z => z hc)) hz
      refine R_aload_n (pc := 35) 1 (dc k_M_part 16 rfl) rfl rfl ?_
      refine R_ldc2 (pc := 36) (a := 418497262196) (dc k_M_part 17 rfl) c_M_236 ?_
      refine R_cVP (pc := 39)  (As := [vJ 418497262196]) (S := []) ck_M_288 (dc k_M_part 18 rfl) ⟨rfl, ⟨_, rfl, rfl⟩, (lb rfl), (Nat.le_trans (lb rfl) hn)⟩ (lb rfl) (lb rfl) (lb rfl) rfl (ct_M_isWord hE hn (Z_bind hz)) (fun r_7 hz => ?_)
      refine R_if_eq (pc := 42) 50 (dc k_M_part 19 rfl) rfl (fun hc => ?_) (fun hc => ?_)
      · have hz := Z_neg (show ¬ (¬ n32 r_7 = 0) from (fun z => z hc)) hz
        refine R_aload_n (pc := 50) 1 (dc k_M_part 22 rfl) rfl rfl ?_
        refine R_ldc2 (pc := 51) (a := 1953064292) (dc k_M_part 23 rfl) c_M_238 ?_
        refine R_cVP (pc := 54)  (As := [vJ 1953064292]) (S := []) ck_M_288 (dc k_M_part 24 rfl) ⟨rfl, ⟨_, rfl, rfl⟩, (lb rfl), (Nat.le_trans (lb rfl) hn)⟩ (lb rfl) (lb rfl) (lb rfl) rfl (ct_M_isWord hE hn (Z_bind hz)) (fun r_8 hz => ?_)
        refine R_if_eq (pc := 57) 65 (dc k_M_part 25 rfl) rfl (fun hc => ?_) (fun hc => ?_)
        · have hz := Z_neg (show ¬ (¬ n32 r_8 = 0) from (fun z => z hc)) hz
          refine R_aload_n (pc := 65) 1 (dc k_M_part 28 rfl) rfl rfl ?_
          refine R_ldc2 (pc := 66) (a := 127991794264947) (dc k_M_part 29 rfl) c_M_232 ?_
          refine R_cVP (pc := 69)  (As := [vJ 127991794264947]) (S := []) ck_M_288 (dc k_M_part 30 rfl) ⟨rfl, ⟨_, rfl, rfl⟩, (lb rfl), (Nat.le_trans (lb rfl) hn)⟩ (lb rfl) (lb rfl) (lb rfl) rfl (ct_M_isWord hE hn (Z_bind hz)) (fun r_9 hz => ?_)
          refine R_if_eq (pc := 72) 80 (dc k_M_part 31 rfl) rfl (fun hc => ?_) (fun hc => ?_)
          · have hz := Z_neg (show ¬ (¬ n32 r_9 = 0) from (fun z => z hc)) hz
            refine R_iconst (pc := 80) (a := 0) (dc k_M_part 34 rfl) ?_
            refine R_sub [1, 0] rfl ?_
            exact hJ_5 _ (Z_some hz)
          · have hz := Z_pos (show ¬ n32 r_9 = 0 from hc) hz
            refine R_bipush (pc := 75) (a := 15) (dc k_M_part 32 rfl) (by decide) ?_
            refine R_goto (pc := 77) 81 (dc k_M_part 33 rfl) rfl ?_
            refine R_sub [1, 0] rfl ?_
            exact hJ_5 _ (Z_some hz)
        · have hz := Z_pos (show ¬ n32 r_8 = 0 from hc) hz
          refine R_bipush (pc := 60) (a := 14) (dc k_M_part 26 rfl) (by decide) ?_
          refine R_goto (pc := 62) 81 (dc k_M_part 27 rfl) rfl ?_
          refine R_sub [1, 0] rfl ?_
          exact hJ_5 _ (Z_some hz)
      · have hz := Z_pos (show ¬ n32 r_7 = 0 from hc) hz
        refine R_bipush (pc := 45) (a := 13) (dc k_M_part 20 rfl) (by decide) ?_
        refine R_goto (pc := 47) 81 (dc k_M_part 21 rfl) rfl ?_
        refine R_sub [1, 0] rfl ?_
        exact hJ_5 _ (Z_some hz)
    · have hz := Z_pos (show ¬ n32 r_6 = 0 from hc) hz
      refine R_bipush (pc := 30) (a := 12) (dc k_M_part 14 rfl) (by decide) ?_
      refine R_goto (pc := 32) 81 (dc k_M_part 15 rfl) rfl ?_
      refine R_sub [1, 0] rfl ?_
      exact hJ_5 _ (Z_some hz)
  · have hz := Z_pos (show n32 (M 81 8) = 4 from (Decidable.not_not.mp hc)) hz
    refine R_bipush (pc := 15) (a := 11) (dc k_M_part 8 rfl) (by decide) ?_
    refine R_goto (pc := 17) 81 (dc k_M_part 9 rfl) rfl ?_
    refine R_sub [1, 0] rfl ?_
    exact hJ_5 _ (Z_some hz)

set_option maxRecDepth 20000 in
theorem ct_M_mindful {E : Nat → Bool} {n : Nat} (hE : ∀ c, 81 ≤ c → c ≤ 138 → E c = true) (hn : 138 ≤ n) {sign : Int} {M : Mem} {K : Int × Mem → Prop} (hz : Z (M_mindful sign M) K) : Mt y_M_mindful (3, 65, n, n, E) E [vR 81, vI sign] M (qM K) := by
  refine Mt.of (by decide) (lb rfl) (Nat.le_refl _) rfl ?_
  rw [M_mindful] at hz
  show Rr y_M_mindful (3, 65, n, n, E) (qM K) 0 [(0, vR 81), (1, vI sign)] [] E n M
  refine R_aload_n (pc := 0) 0 (dc k_M_mindful 0 rfl) rfl rfl ?_
  refine R_cVV (pc := 1)  (As := []) (S := []) ck_M_282 (dc k_M_mindful 1 rfl) ⟨rfl, ⟨_, rfl, rfl⟩, (lb rfl), (Nat.le_trans (lb rfl) hn)⟩ (lb rfl) (lb rfl) (lb rfl) rfl (ct_M_goOn hE hn (Z_bind hz)) (fun M_1 hz => ?_)
  refine R_aload_n (pc := 4) 0 (dc k_M_mindful 2 rfl) rfl rfl ?_
  refine R_iconst (pc := 5) (a := 1) (dc k_M_mindful 3 rfl) ?_
  obtain ⟨M_2, hM_2, hz⟩ := Z_lt hz
  refine R_putZE (pc := 6) (ci := 10) (k := 45) (dc k_M_mindful 4 rfl) fl_M_375 rfl (lb rfl) (Nat.le_trans (lb rfl) hn) rfl rfl rfl (Or.inr rfl) hM_2 ?_
  refine R_aload_n (pc := 9) 0 (dc k_M_mindful 5 rfl) rfl rfl ?_
  refine R_iconst (pc := 10) (a := 4) (dc k_M_mindful 6 rfl) ?_
  refine R_iload_n (pc := 11) 1 (dc k_M_mindful 7 rfl) rfl rfl ?_
  refine R_aload_n (pc := 12) 0 (dc k_M_mindful 8 rfl) rfl rfl ?_
  refine R_aload_n (pc := 13) 0 (dc k_M_mindful 9 rfl) rfl rfl ?_
  refine R_cVP (pc := 14)  (As := []) (S := [vR 81, vI sign, vI 4, vR 81]) ck_M_358 (dc k_M_mindful 10 rfl) ⟨rfl, ⟨_, rfl, rfl⟩, (lb rfl), (Nat.le_trans (lb rfl) hn)⟩ (lb rfl) (lb rfl) (lb rfl) rfl (ct_M_personHere hE hn (Z_bind hz)) (fun r_3 hz => ?_)
  refine R_cVM (pc := 17)  (As := [vI r_3]) (S := [vI sign, vI 4, vR 81]) ck_M_365 (dc k_M_mindful 11 rfl) ⟨rfl, ⟨_, rfl, rfl⟩, (lb rfl), (Nat.le_trans (lb rfl) hn)⟩ (lb rfl) (lb rfl) (lb rfl) rfl (ct_M_told hE hn (Z_bind hz)) (fun r_4 M_5 hz => ?_)
  refine R_cVM (pc := 20)  (As := [vI 4, vI sign, vI r_4]) (S := []) ck_M_402 (dc k_M_mindful 12 rfl) ⟨rfl, ⟨_, rfl, rfl⟩, (lb rfl), (Nat.le_trans (lb rfl) hn)⟩ (lb rfl) (lb rfl) (lb rfl) rfl (ct_M_opens hE hn (Z_bind hz)) (fun r_6 M_7 hz => ?_)
  obtain ⟨hg_8, hz⟩ := Z_chk hz
  exact R_zret (pc := 23) (dc k_M_mindful 13 rfl) rfl hg_8 rfl rfl ⟨_, rfl, (Z_some hz)⟩

set_option maxRecDepth 20000 in
theorem ct_M_unit {E : Nat → Bool} {n : Nat} (hE : ∀ c, 81 ≤ c → c ≤ 138 → E c = true) (hn : 138 ≤ n) {M : Mem} {K : Int × Mem → Prop} (hz : Z (M_unit M) K) : Mt y_M_unit (4, 86, n, n, E) E [vR 81] M (qM K) := by
  refine Mt.of (by decide) (lb rfl) (Nat.le_refl _) rfl ?_
  rw [M_unit] at hz
  show Rr y_M_unit (4, 86, n, n, E) (qM K) 0 [(0, vR 81)] [] E n M
  refine R_aload_n (pc := 0) 0 (dc k_M_unit 0 rfl) rfl rfl ?_
  refine R_ldc2 (pc := 1) (a := 7237492) (dc k_M_unit 1 rfl) c_M_228 ?_
  refine R_cVP (pc := 4)  (As := [vJ 7237492]) (S := []) ck_M_288 (dc k_M_unit 2 rfl) ⟨rfl, ⟨_, rfl, rfl⟩, (lb rfl), (Nat.le_trans (lb rfl) hn)⟩ (lb rfl) (lb rfl) (lb rfl) rfl (ct_M_isWord hE hn (Z_bind hz)) (fun r_1 hz => ?_)
  refine R_istore_n (pc := 7) (L' := [(1, vI r_1), (0, vR 81)]) (dc k_M_unit 3 rfl) rfl (lb rfl) rfl ?_
  refine R_aload_n (pc := 8) 1 (dc k_M_unit 4 rfl) rfl rfl ?_
  refine R_ldc2 (pc := 9) (a := 448545973363) (dc k_M_unit 5 rfl) c_M_230 ?_
  refine R_cVP (pc := 12)  (As := [vJ 448545973363]) (S := []) ck_M_288 (dc k_M_unit 6 rfl) ⟨rfl, ⟨_, rfl, rfl⟩, (lb rfl), (Nat.le_trans (lb rfl) hn)⟩ (lb rfl) (lb rfl) (lb rfl) rfl (ct_M_isWord hE hn (Z_bind hz)) (fun r_2 hz => ?_)
  obtain ⟨K_4, hK_5, hz⟩ := Z_cut hz
  have hJ_6 : ∀ (v_3 : Int), K_4 v_3 → Rr y_M_unit (4, 86, n, n, E) (qM K) 33 [(0, vR 81), (1, vI r_1)] [vI v_3] E n M := by
    intro v_3 hk
    have hz := hK_5 _ hk
    refine R_istore_n (pc := 33) (L' := [(2, vI v_3), (0, vR 81), (1, vI r_1)]) (dc k_M_unit 15 rfl) rfl (lb rfl) rfl ?_
    refine R_aload_n (pc := 34) 1 (dc k_M_unit 16 rfl) rfl rfl ?_
    refine R_bipush (pc := 35) (a := 40) (dc k_M_unit 17 rfl) (by decide) ?_
    refine R_cVP (pc := 37)  (As := [vI 40]) (S := []) ck_M_341 (dc k_M_unit 18 rfl) ⟨rfl, ⟨_, rfl, rfl⟩, (lb rfl), (Nat.le_trans (lb rfl) hn)⟩ (lb rfl) (lb rfl) (lb rfl) rfl (ct_M_stands hE hn (Z_bind hz)) (fun r_13 hz => ?_)
    refine R_istore_n (pc := 40) (L' := [(3, vI r_13), (2, vI v_3), (0, vR 81), (1, vI r_1)]) (dc k_M_unit 19 rfl) rfl (lb rfl) rfl ?_
    refine R_iload_n (pc := 41) 3 (dc k_M_unit 20 rfl) rfl rfl ?_
    obtain ⟨K_15, hK_16, hz⟩ := Z_cut hz
    have hJ_17 : ∀ (v_14 : Int), K_15 v_14 → Rr y_M_unit (4, 86, n, n, E) (qM K) 54 [(0, vR 81), (1, vI r_1), (2, vI v_3), (3, vI r_13)] [vI v_14] E n M := by
      intro v_14 hk
      have hz := hK_16 _ hk
      refine R_istore (pc := 54) (L' := [(4, vI v_14), (0, vR 81), (1, vI r_1), (2, vI v_3), (3, vI r_13)]) (dc k_M_unit 27 rfl) (lb rfl) rfl ?_
      refine R_iload (pc := 56) 0 (dc k_M_unit 28 rfl) rfl ?_
      obtain ⟨K_25, hK_26, hz⟩ := Z_cut hz
      have hJ_27 : ∀ (M_24 : Mem), K_25 M_24 → Rr y_M_unit (4, 86, n, n, E) (qM K) 120 [(0, vR 81), (1, vI r_1), (2, vI v_3), (3, vI r_13)] [] E n M_24 := by
        intro M_24 hk
        have hz := hK_26 _ hk
        refine R_aload_n (pc := 120) 0 (dc k_M_unit 58 rfl) rfl rfl ?_
        refine R_cVP (pc := 121)  (As := []) (S := []) ck_M_278 (dc k_M_unit 59 rfl) ⟨rfl, ⟨_, rfl, rfl⟩, (lb rfl), (Nat.le_trans (lb rfl) hn)⟩ (lb rfl) (lb rfl) (lb rfl) rfl (ct_M_isGood hE hn (Z_bind hz)) (fun r_61 hz => ?_)
        refine R_if_ne (pc := 124) 129 (dc k_M_unit 60 rfl) rfl (fun hc => ?_) (fun hc => ?_)
        · have hz := Z_neg (show ¬ (n32 r_61 = 0) from hc) hz
          refine R_iload_n (pc := 129) 2 (dc k_M_unit 63 rfl) rfl rfl ?_
          refine R_if_eq (pc := 130) 153 (dc k_M_unit 64 rfl) rfl (fun hc => ?_) (fun hc => ?_)
          · have hz := Z_neg (show ¬ (¬ n32 v_3 = 0) from (fun z => z hc)) hz
            refine R_iload_n (pc := 153) 1 (dc k_M_unit 75 rfl) rfl rfl ?_
            refine R_if_eq (pc := 154) 169 (dc k_M_unit 76 rfl) rfl (fun hc => ?_) (fun hc => ?_)
            · have hz := Z_neg (show ¬ (¬ n32 r_1 = 0) from (fun z => z hc)) hz
              refine R_aload_n (pc := 169) 0 (dc k_M_unit 85 rfl) rfl rfl ?_
              refine R_getS (pc := 170) (ci := 10) (k := 17) 90 (dc k_M_unit 86 rfl) fl_M_39 rfl (lb rfl) (Nat.le_trans (lb rfl) hn) (hE 81 (lb rfl) (lb rfl)) rfl (by decide) rfl ?_
              refine R_aload_n (pc := 173) 0 (dc k_M_unit 87 rfl) rfl rfl ?_
              refine R_getI (pc := 174) (ci := 10) (k := 39) (dc k_M_unit 88 rfl) fl_M_295 rfl (lb rfl) (Nat.le_trans (lb rfl) hn) rfl (Or.inl rfl) ?_
              refine R_dup2 (pc := 177) (dc k_M_unit 89 rfl) rfl rfl ?_
              obtain ⟨⟨hg_75, hg_76⟩, hz⟩ := Z_chk hz
              refine R_iald (pc := 178) (dc k_M_unit 90 rfl) rfl (lb rfl) (Nat.le_trans (lb rfl) hn) hg_75 hg_76 ?_
              refine R_iconst (pc := 179) (a := 1) (dc k_M_unit 91 rfl) ?_
              refine R_iadd (pc := 180) (dc k_M_unit 92 rfl) ?_
              obtain ⟨M_77, hM_77, hz⟩ := Z_lt hz
              refine R_iastE (pc := 181) (dc k_M_unit 93 rfl) rfl (lb rfl) (Nat.le_trans (lb rfl) hn) hg_75 hg_76 hM_77 ?_
              refine R_iload_n (pc := 182) 3 (dc k_M_unit 94 rfl) rfl rfl ?_
              refine R_if_eq (pc := 183) 199 (dc k_M_unit 95 rfl) rfl (fun hc => ?_) (fun hc => ?_)
              · have hz := Z_neg (show ¬ (¬ n32 r_13 = 0) from (fun z => z hc)) hz
                refine R_aload_n (pc := 199) 0 (dc k_M_unit 104 rfl) rfl rfl ?_
                refine R_cVP (pc := 200)  (As := []) (S := []) ck_M_348 (dc k_M_unit 105 rfl) ⟨rfl, ⟨_, rfl, rfl⟩, (lb rfl), (Nat.le_trans (lb rfl) hn)⟩ (lb rfl) (lb rfl) (lb rfl) rfl (ct_M_factHere hE hn (Z_bind hz)) (fun r_82 hz => ?_)
                refine R_istore (pc := 203) (L' := [(5, vI r_82), (0, vR 81), (1, vI r_1), (2, vI v_3), (3, vI r_13)]) (dc k_M_unit 106 rfl) (lb rfl) rfl ?_
                refine R_aload_n (pc := 205) 1 (dc k_M_unit 107 rfl) rfl rfl ?_
                refine R_cVP (pc := 206)  (As := []) (S := []) ck_M_351 (dc k_M_unit 108 rfl) ⟨rfl, ⟨_, rfl, rfl⟩, (lb rfl), (Nat.le_trans (lb rfl) hn)⟩ (lb rfl) (lb rfl) (lb rfl) rfl (ct_M_rowHere hE hn (Z_bind hz)) (fun r_83 hz => ?_)
                refine R_istore (pc := 209) (L' := [(6, vI r_83), (5, vI r_82), (0, vR 81), (1, vI r_1), (2, vI v_3), (3, vI r_13)]) (dc k_M_unit 109 rfl) (lb rfl) rfl ?_
                refine R_iload (pc := 211) 1 (dc k_M_unit 110 rfl) rfl ?_
                obtain ⟨K_85, hK_86, hz⟩ := Z_cut hz
                have hJ_87 : ∀ (M_84 : Mem), K_85 M_84 → Rr y_M_unit (4, 86, n, n, E) (qM K) 255 [(0, vR 81), (5, vI r_82), (6, vI r_83)] [] E n M_84 := by
                  intro M_84 hk
                  have hz := hK_86 _ hk
                  refine R_aload_n (pc := 255) 0 (dc k_M_unit 132 rfl) rfl rfl ?_
                  refine R_cVP (pc := 256)  (As := []) (S := []) ck_M_278 (dc k_M_unit 133 rfl) ⟨rfl, ⟨_, rfl, rfl⟩, (lb rfl), (Nat.le_trans (lb rfl) hn)⟩ (lb rfl) (lb rfl) (lb rfl) rfl (ct_M_isGood hE hn (Z_bind hz)) (fun r_101 hz => ?_)
                  refine R_if_ne (pc := 259) 264 (dc k_M_unit 134 rfl) rfl (fun hc => ?_) (fun hc => ?_)
                  · have hz := Z_neg (show ¬ (n32 r_101 = 0) from hc) hz
                    refine R_aload_n (pc := 264) 0 (dc k_M_unit 137 rfl) rfl rfl ?_
                    refine R_aload_n (pc := 265) 0 (dc k_M_unit 138 rfl) rfl rfl ?_
                    refine R_getI (pc := 266) (ci := 10) (k := 45) (dc k_M_unit 139 rfl) fl_M_375 rfl (lb rfl) (Nat.le_trans (lb rfl) hn) rfl (Or.inr rfl) ?_
                    obtain ⟨K_103, hK_104, hz⟩ := Z_cut hz
                    have hJ_105 : ∀ (v_102 : Int), K_103 v_102 → Rr y_M_unit (4, 86, n, n, E) (qM K) 300 [(0, vR 81), (5, vI r_82), (6, vI r_83)] [vI v_102, vR 81] E n M_84 := by
                      intro v_102 hk
                      have hz := hK_104 _ hk
                      obtain ⟨hg_117, hz⟩ := Z_chk hz
                      obtain ⟨M_118, hM_118, hz⟩ := Z_lt hz
                      refine R_putZE (pc := 300) (ci := 10) (k := 45) (dc k_M_unit 156 rfl) fl_M_375 rfl (lb rfl) (Nat.le_trans (lb rfl) hn) rfl rfl rfl hg_117 hM_118 ?_
                      refine R_aload_n (pc := 303) 0 (dc k_M_unit 157 rfl) rfl rfl ?_
                      refine R_iload (pc := 304) 1 (dc k_M_unit 158 rfl) rfl ?_
                      obtain ⟨K_120, hK_121, hz⟩ := Z_cut hz
                      have hJ_122 : ∀ (v_119 : Int), K_120 v_119 → Rr y_M_unit (4, 86, n, n, E) (qM K) 314 [(0, vR 81), (5, vI r_82), (6, vI r_83)] [vI v_119, vR 81] E n M_118 := by
                        intro v_119 hk
                        have hz := hK_121 _ hk
                        refine R_iload (pc := 314) 1 (dc k_M_unit 163 rfl) rfl ?_
                        obtain ⟨K_125, hK_126, hz⟩ := Z_cut hz
                        have hJ_127 : ∀ (v_124 : Int), K_125 v_124 → Rr y_M_unit (4, 86, n, n, E) (qM K) 326 [(0, vR 81)] [vI v_124, vI v_119, vR 81] E n M_118 := by
                          intro v_124 hk
                          have hz := hK_126 _ hk
                          refine R_cVV (pc := 326)  (As := [vI v_119, vI v_124]) (S := []) ck_M_406 (dc k_M_unit 168 rfl) ⟨rfl, ⟨_, rfl, rfl⟩, (lb rfl), (Nat.le_trans (lb rfl) hn)⟩ (lb rfl) (lb rfl) (lb rfl) rfl (ct_M_emit hE hn (Z_bind hz)) (fun M_129 hz => ?_)
                          refine R_aload_n (pc := 329) 0 (dc k_M_unit 169 rfl) rfl rfl ?_
                          refine R_cVV (pc := 330)  (As := []) (S := []) ck_M_282 (dc k_M_unit 170 rfl) ⟨rfl, ⟨_, rfl, rfl⟩, (lb rfl), (Nat.le_trans (lb rfl) hn)⟩ (lb rfl) (lb rfl) (lb rfl) rfl (ct_M_goOn hE hn (Z_bind hz)) (fun M_130 hz => ?_)
                          refine R_iconst (pc := 333) (a := 0) (dc k_M_unit 171 rfl) ?_
                          exact R_zret (pc := 334) (dc k_M_unit 172 rfl) rfl (Or.inl rfl) rfl rfl ⟨_, rfl, (Z_some hz)⟩
                        refine R_if_ge (pc := 316) 324 (dc k_M_unit 164 rfl) rfl (fun hc => ?_) (fun hc => ?_)
                        · have hz := Z_neg (show ¬ (n32 r_82 < 0) from (Int.not_lt.mpr hc)) hz
                          refine R_iload (pc := 324) 1 (dc k_M_unit 167 rfl) rfl ?_
                          refine R_sub [0] rfl ?_
                          exact hJ_127 _ (Z_some hz)
                        · have hz := Z_pos (show n32 r_82 < 0 from (Int.not_le.mp hc)) hz
                          refine R_iload (pc := 319) 2 (dc k_M_unit 165 rfl) rfl ?_
                          refine R_goto (pc := 321) 326 (dc k_M_unit 166 rfl) rfl ?_
                          refine R_sub [0] rfl ?_
                          exact hJ_127 _ (Z_some hz)
                      refine R_if_ge (pc := 306) 313 (dc k_M_unit 159 rfl) rfl (fun hc => ?_) (fun hc => ?_)
                      · have hz := Z_neg (show ¬ (n32 r_82 < 0) from (Int.not_lt.mpr hc)) hz
                        refine R_iconst (pc := 313) (a := 1) (dc k_M_unit 162 rfl) ?_
                        exact hJ_122 _ (Z_some hz)
                      · have hz := Z_pos (show n32 r_82 < 0 from (Int.not_le.mp hc)) hz
                        refine R_iconst (pc := 309) (a := 2) (dc k_M_unit 160 rfl) ?_
                        refine R_goto (pc := 310) 314 (dc k_M_unit 161 rfl) rfl ?_
                        exact hJ_122 _ (Z_some hz)
                    obtain ⟨j_106, hj_107, hz⟩ := Z_jn hz
                    have hJ_108 : Z (j_106 ()) K_103 → Rr y_M_unit (4, 86, n, n, E) (qM K) 295 [(0, vR 81), (5, vI r_82), (6, vI r_83)] [vR 81] E n M_84 := by
                      intro  hk
                      have hz := hj_107 _ hk
                      refine R_iconst (pc := 295) (a := 1) (dc k_M_unit 153 rfl) ?_
                      refine R_goto (pc := 296) 300 (dc k_M_unit 154 rfl) rfl ?_
                      exact hJ_105 _ (Z_some hz)
                    refine R_if_ne (pc := 269) 295 (dc k_M_unit 140 rfl) rfl (fun hc => ?_) (fun hc => ?_)
                    · have hz := Z_neg (show ¬ (n32 (M_84 81 45) = 0) from hc) hz
                      exact hJ_108 hz
                    · have hz := Z_pos (show n32 (M_84 81 45) = 0 from (Decidable.not_not.mp hc)) hz
                      refine R_iload (pc := 272) 1 (dc k_M_unit 141 rfl) rfl ?_
                      obtain ⟨K_109, hK_110, hz⟩ := Z_cut hz
                      have hX_111 : K_109 true → Rr y_M_unit (4, 86, n, n, E) (qM K) 295 [(0, vR 81), (5, vI r_82), (6, vI r_83)] [vR 81] E n M_84 := by
                        intro hk
                        have hz := Z_pos rfl (hK_110 _ hk)
                        exact hJ_108 hz
                      have hY_112 : K_109 false → Rr y_M_unit (4, 86, n, n, E) (qM K) 299 [(0, vR 81), (5, vI r_82), (6, vI r_83)] [vR 81] E n M_84 := by
                        intro hk
                        have hz := Z_neg Bool.false_ne_true (hK_110 _ hk)
                        refine R_iconst (pc := 299) (a := 0) (dc k_M_unit 155 rfl) ?_
                        exact hJ_105 _ (Z_some hz)
                      refine R_if_ge (pc := 274) 299 (dc k_M_unit 142 rfl) rfl (fun hc => ?_) (fun hc => ?_)
                      · have hz := Z_neg (show ¬ (n32 r_82 < 0) from (Int.not_lt.mpr hc)) hz
                        exact hY_112 (Z_some hz)
                      · have hz := Z_pos (show n32 r_82 < 0 from (Int.not_le.mp hc)) hz
                        refine R_aload_n (pc := 277) 0 (dc k_M_unit 143 rfl) rfl rfl ?_
                        refine R_getS (pc := 278) (ci := 10) (k := 19) 92 (dc k_M_unit 144 rfl) fl_M_46 rfl (lb rfl) (Nat.le_trans (lb rfl) hn) (hE 81 (lb rfl) (lb rfl)) rfl (by decide) rfl ?_
                        refine R_bipush (pc := 281) (a := 12) (dc k_M_unit 145 rfl) (by decide) ?_
                        refine R_aload_n (pc := 283) 0 (dc k_M_unit 146 rfl) rfl rfl ?_
                        refine R_getI (pc := 284) (ci := 10) (k := 39) (dc k_M_unit 147 rfl) fl_M_295 rfl (lb rfl) (Nat.le_trans (lb rfl) hn) rfl (Or.inl rfl) ?_
                        refine R_imul (pc := 287) (dc k_M_unit 148 rfl) ?_
                        refine R_iload (pc := 288) 2 (dc k_M_unit 149 rfl) rfl ?_
                        refine R_iadd (pc := 290) (dc k_M_unit 150 rfl) ?_
                        obtain ⟨⟨hg_114, hg_115⟩, hz⟩ := Z_chk hz
                        refine R_zald (pc := 291) (dc k_M_unit 151 rfl) rfl (lb rfl) (Nat.le_trans (lb rfl) hn) hg_114 hg_115 ?_
                        refine R_if_eq (pc := 292) 299 (dc k_M_unit 152 rfl) rfl (fun hc => ?_) (fun hc => ?_)
                        · have hz := Z_neg (show ¬ (¬ n32 (M_84 92 (Int.toNat ((12 * (M_84 81 39)) + r_83))) = 0) from (fun z => z hc)) hz
                          exact hY_112 (Z_some hz)
                        · have hz := Z_pos (show ¬ n32 (M_84 92 (Int.toNat ((12 * (M_84 81 39)) + r_83))) = 0 from hc) hz
                          exact hX_111 (Z_some hz)
                  · have hz := Z_pos (show n32 r_101 = 0 from (Decidable.not_not.mp hc)) hz
                    refine R_iconst (pc := 262) (a := 1) (dc k_M_unit 135 rfl) ?_
                    exact R_zret (pc := 263) (dc k_M_unit 136 rfl) rfl (Or.inr rfl) rfl rfl ⟨_, rfl, (Z_some hz)⟩
                refine R_if_ge (pc := 213) 255 (dc k_M_unit 111 rfl) rfl (fun hc => ?_) (fun hc => ?_)
                · have hz := Z_neg (show ¬ (n32 r_82 < 0) from (Int.not_lt.mpr hc)) hz
                  refine R_sub [2, 1, 0] rfl ?_
                  exact hJ_87 _ (Z_some hz)
                · have hz := Z_pos (show n32 r_82 < 0 from (Int.not_le.mp hc)) hz
                  refine R_iload (pc := 216) 0 (dc k_M_unit 112 rfl) rfl ?_
                  obtain ⟨j_88, hj_89, hz⟩ := Z_jn hz
                  have hJ_90 : Z (j_88 ()) K_85 → Rr y_M_unit (4, 86, n, n, E) (qM K) 246 [(0, vR 81), (5, vI r_82), (6, vI r_83)] [] E n M_77 := by
                    intro  hk
                    have hz := hj_89 _ hk
                    refine R_aload_n (pc := 246) 0 (dc k_M_unit 127 rfl) rfl rfl ?_
                    refine R_iconst (pc := 247) (a := 5) (dc k_M_unit 128 rfl) ?_
                    refine R_aload_n (pc := 248) 0 (dc k_M_unit 129 rfl) rfl rfl ?_
                    refine R_getI (pc := 249) (ci := 10) (k := 6) (dc k_M_unit 130 rfl) fl_M_243 rfl (lb rfl) (Nat.le_trans (lb rfl) hn) rfl (Or.inl rfl) ?_
                    refine R_cVV (pc := 252)  (As := [vI 5, vI (M_77 81 6)]) (S := []) ck_M_274 (dc k_M_unit 131 rfl) ⟨rfl, ⟨_, rfl, rfl⟩, (lb rfl), (Nat.le_trans (lb rfl) hn)⟩ (lb rfl) (lb rfl) (lb rfl) rfl (ct_M_fails hE hn (Z_bind hz)) (fun M_99 hz => ?_)
                    exact hJ_87 _ (Z_some hz)
                  refine R_if_lt (pc := 218) 246 (dc k_M_unit 113 rfl) rfl (fun hc => ?_) (fun hc => ?_)
                  · have hz := Z_neg (show ¬ (0 ≤ n32 r_83) from (Int.not_le.mpr hc)) hz
                    refine R_sub [2, 1, 0] rfl ?_
                    exact hJ_90 hz
                  · have hz := Z_pos (show 0 ≤ n32 r_83 from (Int.not_lt.mp hc)) hz
                    refine R_aload_n (pc := 221) 2 (dc k_M_unit 114 rfl) rfl rfl ?_
                    refine R_getI (pc := 222) (ci := 10) (k := 44) (dc k_M_unit 115 rfl) fl_M_372 rfl (lb rfl) (Nat.le_trans (lb rfl) hn) rfl (Or.inr rfl) ?_
                    obtain ⟨K_91, hK_92, hz⟩ := Z_cut hz
                    have hX_93 : K_91 true → Rr y_M_unit (4, 86, n, n, E) (qM K) 246 [(6, vI r_83), (5, vI r_82), (0, vR 81), (1, vI r_1), (2, vI v_3), (3, vI r_13)] [] E n M_77 := by
                      intro hk
                      have hz := Z_pos rfl (hK_92 _ hk)
                      refine R_sub [2, 1, 0] rfl ?_
                      exact hJ_90 hz
                    have hY_94 : K_91 false → Rr y_M_unit (4, 86, n, n, E) (qM K) 255 [(6, vI r_83), (5, vI r_82), (0, vR 81), (1, vI r_1), (2, vI v_3), (3, vI r_13)] [] E n M_77 := by
                      intro hk
                      have hz := Z_neg Bool.false_ne_true (hK_92 _ hk)
                      refine R_sub [2, 1, 0] rfl ?_
                      exact hJ_87 _ (Z_some hz)
                    refine R_if_eq (pc := 225) 255 (dc k_M_unit 116 rfl) rfl (fun hc => ?_) (fun hc => ?_)
                    · have hz := Z_neg (show ¬ (¬ n32 (M_77 81 44) = 0) from (fun z => z hc)) hz
                      exact hY_94 (Z_some hz)
                    · have hz := Z_pos (show ¬ n32 (M_77 81 44) = 0 from hc) hz
                      refine R_aload_n (pc := 228) 2 (dc k_M_unit 117 rfl) rfl rfl ?_
                      refine R_getS (pc := 229) (ci := 10) (k := 19) 92 (dc k_M_unit 118 rfl) fl_M_46 rfl (lb rfl) (Nat.le_trans (lb rfl) hn) (hE 81 (lb rfl) (lb rfl)) rfl (by decide) rfl ?_
                      refine R_bipush (pc := 232) (a := 12) (dc k_M_unit 119 rfl) (by decide) ?_
                      refine R_aload_n (pc := 234) 2 (dc k_M_unit 120 rfl) rfl rfl ?_
                      refine R_getI (pc := 235) (ci := 10) (k := 39) (dc k_M_unit 121 rfl) fl_M_295 rfl (lb rfl) (Nat.le_trans (lb rfl) hn) rfl (Or.inl rfl) ?_
                      refine R_imul (pc := 238) (dc k_M_unit 122 rfl) ?_
                      refine R_iload (pc := 239) 0 (dc k_M_unit 123 rfl) rfl ?_
                      refine R_iadd (pc := 241) (dc k_M_unit 124 rfl) ?_
                      obtain ⟨⟨hg_96, hg_97⟩, hz⟩ := Z_chk hz
                      refine R_zald (pc := 242) (dc k_M_unit 125 rfl) rfl (lb rfl) (Nat.le_trans (lb rfl) hn) hg_96 hg_97 ?_
                      refine R_if_eq (pc := 243) 255 (dc k_M_unit 126 rfl) rfl (fun hc => ?_) (fun hc => ?_)
                      · have hz := Z_neg (show ¬ (¬ n32 (M_77 92 (Int.toNat ((12 * (M_77 81 39)) + r_83))) = 0) from (fun z => z hc)) hz
                        exact hY_94 (Z_some hz)
                      · have hz := Z_pos (show ¬ n32 (M_77 92 (Int.toNat ((12 * (M_77 81 39)) + r_83))) = 0 from hc) hz
                        exact hX_93 (Z_some hz)
              · have hz := Z_pos (show ¬ n32 r_13 = 0 from hc) hz
                refine R_aload_n (pc := 186) 0 (dc k_M_unit 96 rfl) rfl rfl ?_
                refine R_cVV (pc := 187)  (As := []) (S := []) ck_M_282 (dc k_M_unit 97 rfl) ⟨rfl, ⟨_, rfl, rfl⟩, (lb rfl), (Nat.le_trans (lb rfl) hn)⟩ (lb rfl) (lb rfl) (lb rfl) rfl (ct_M_goOn hE hn (Z_bind hz)) (fun M_78 hz => ?_)
                refine R_aload_n (pc := 190) 0 (dc k_M_unit 98 rfl) rfl rfl ?_
                refine R_bipush (pc := 191) (a := 7) (dc k_M_unit 99 rfl) (by decide) ?_
                refine R_iconst (pc := 193) (a := 0) (dc k_M_unit 100 rfl) ?_
                refine R_iconst (pc := 194) (a := 0) (dc k_M_unit 101 rfl) ?_
                refine R_cVM (pc := 195)  (As := [vI 7, vI 0, vI 0]) (S := []) ck_M_402 (dc k_M_unit 102 rfl) ⟨rfl, ⟨_, rfl, rfl⟩, (lb rfl), (Nat.le_trans (lb rfl) hn)⟩ (lb rfl) (lb rfl) (lb rfl) rfl (ct_M_opens hE hn (Z_bind hz)) (fun r_79 M_80 hz => ?_)
                obtain ⟨hg_81, hz⟩ := Z_chk hz
                exact R_zret (pc := 198) (dc k_M_unit 103 rfl) rfl hg_81 rfl rfl ⟨_, rfl, (Z_some hz)⟩
            · have hz := Z_pos (show ¬ n32 r_1 = 0 from hc) hz
              refine R_aload_n (pc := 157) 0 (dc k_M_unit 77 rfl) rfl rfl ?_
              refine R_cVV (pc := 158)  (As := []) (S := []) ck_M_282 (dc k_M_unit 78 rfl) ⟨rfl, ⟨_, rfl, rfl⟩, (lb rfl), (Nat.le_trans (lb rfl) hn)⟩ (lb rfl) (lb rfl) (lb rfl) rfl (ct_M_goOn hE hn (Z_bind hz)) (fun M_71 hz => ?_)
              refine R_aload_n (pc := 161) 0 (dc k_M_unit 79 rfl) rfl rfl ?_
              refine R_iconst (pc := 162) (a := 4) (dc k_M_unit 80 rfl) ?_
              refine R_iconst (pc := 163) (a := 3) (dc k_M_unit 81 rfl) ?_
              refine R_iconst (pc := 164) (a := 0) (dc k_M_unit 82 rfl) ?_
              refine R_cVM (pc := 165)  (As := [vI 4, vI 3, vI 0]) (S := []) ck_M_402 (dc k_M_unit 83 rfl) ⟨rfl, ⟨_, rfl, rfl⟩, (lb rfl), (Nat.le_trans (lb rfl) hn)⟩ (lb rfl) (lb rfl) (lb rfl) rfl (ct_M_opens hE hn (Z_bind hz)) (fun r_72 M_73 hz => ?_)
              obtain ⟨hg_74, hz⟩ := Z_chk hz
              exact R_zret (pc := 168) (dc k_M_unit 84 rfl) rfl hg_74 rfl rfl ⟨_, rfl, (Z_some hz)⟩
          · have hz := Z_pos (show ¬ n32 v_3 = 0 from hc) hz
            refine R_aload_n (pc := 133) 0 (dc k_M_unit 65 rfl) rfl rfl ?_
            refine R_aload_n (pc := 134) 0 (dc k_M_unit 66 rfl) rfl rfl ?_
            refine R_ldc2 (pc := 135) (a := 448545973363) (dc k_M_unit 67 rfl) c_M_230 ?_
            refine R_cVP (pc := 138)  (As := [vJ 448545973363]) (S := [vR 81]) ck_M_288 (dc k_M_unit 68 rfl) ⟨rfl, ⟨_, rfl, rfl⟩, (lb rfl), (Nat.le_trans (lb rfl) hn)⟩ (lb rfl) (lb rfl) (lb rfl) rfl (ct_M_isWord hE hn (Z_bind hz)) (fun r_62 hz => ?_)
            obtain ⟨K_64, hK_65, hz⟩ := Z_cut hz
            have hJ_66 : ∀ (v_63 : Int), K_64 v_63 → Rr y_M_unit (4, 86, n, n, E) (qM K) 149 [] [vI v_63, vR 81] E n M_24 := by
              intro v_63 hk
              have hz := hK_65 _ hk
              refine R_cVM (pc := 149)  (As := [vI v_63]) (S := []) ck_M_399 (dc k_M_unit 73 rfl) ⟨rfl, ⟨_, rfl, rfl⟩, (lb rfl), (Nat.le_trans (lb rfl) hn)⟩ (lb rfl) (lb rfl) (lb rfl) rfl (ct_M_mindful hE hn (Z_bind hz)) (fun r_68 M_69 hz => ?_)
              obtain ⟨hg_70, hz⟩ := Z_chk hz
              exact R_zret (pc := 152) (dc k_M_unit 74 rfl) rfl hg_70 rfl rfl ⟨_, rfl, (Z_some hz)⟩
            refine R_if_eq (pc := 141) 148 (dc k_M_unit 69 rfl) rfl (fun hc => ?_) (fun hc => ?_)
            · have hz := Z_neg (show ¬ (¬ n32 r_62 = 0) from (fun z => z hc)) hz
              refine R_iconst (pc := 148) (a := 5) (dc k_M_unit 72 rfl) ?_
              refine R_sub [] rfl ?_
              exact hJ_66 _ (Z_some hz)
            · have hz := Z_pos (show ¬ n32 r_62 = 0 from hc) hz
              refine R_iconst (pc := 144) (a := 4) (dc k_M_unit 70 rfl) ?_
              refine R_goto (pc := 145) 149 (dc k_M_unit 71 rfl) rfl ?_
              refine R_sub [] rfl ?_
              exact hJ_66 _ (Z_some hz)
        · have hz := Z_pos (show n32 r_61 = 0 from (Decidable.not_not.mp hc)) hz
          refine R_iconst (pc := 127) (a := 1) (dc k_M_unit 61 rfl) ?_
          exact R_zret (pc := 128) (dc k_M_unit 62 rfl) rfl (Or.inr rfl) rfl rfl ⟨_, rfl, (Z_some hz)⟩
      obtain ⟨j_28, hj_29, hz⟩ := Z_jn hz
      have hJ_30 : Z (j_28 ()) K_25 → Rr y_M_unit (4, 86, n, n, E) (qM K) 116 [(0, vR 81), (1, vI r_1), (2, vI v_3), (3, vI r_13)] [] E n M := by
        intro  hk
        have hz := hj_29 _ hk
        refine R_aload_n (pc := 116) 0 (dc k_M_unit 56 rfl) rfl rfl ?_
        refine R_cVV (pc := 117)  (As := []) (S := []) ck_M_285 (dc k_M_unit 57 rfl) ⟨rfl, ⟨_, rfl, rfl⟩, (lb rfl), (Nat.le_trans (lb rfl) hn)⟩ (lb rfl) (lb rfl) (lb rfl) rfl (ct_M_misplaced hE hn (Z_bind hz)) (fun M_60 hz => ?_)
        exact hJ_27 _ (Z_some hz)
      obtain ⟨j_31, hj_32, hz⟩ := Z_jn hz
      have hJ_33 : Z (j_31 ()) K_25 → Rr y_M_unit (4, 86, n, n, E) (qM K) 87 [(0, vR 81), (1, vI r_1), (2, vI v_3), (3, vI r_13), (4, vI v_14)] [] E n M := by
        intro  hk
        have hz := hj_32 _ hk
        refine R_iload (pc := 87) 4 (dc k_M_unit 43 rfl) rfl ?_
        have hX_50 : (((n32 v_14 = 0) ∧ ((n32 r_13 = 0) ∨ (¬ n32 (M 81 41) = 7))) ∨ ((¬ n32 v_14 = 0) ∧ (¬ n32 (M 81 41) = 7))) → Rr y_M_unit (4, 86, n, n, E) (qM K) 105 [(0, vR 81), (1, vI r_1), (2, vI v_3), (3, vI r_13), (4, vI v_14)] [] E n M := by
          intro hc
          have hz := Z_pos hc hz
          refine R_iload_n (pc := 105) 2 (dc k_M_unit 51 rfl) rfl rfl ?_
          have hX_44 : ((¬ n32 v_3 = 0) ∧ (¬ n32 (M 81 44) = 0)) → Rr y_M_unit (4, 86, n, n, E) (qM K) 116 [(0, vR 81), (1, vI r_1), (2, vI v_3), (3, vI r_13), (4, vI v_14)] [] E n M := by
            intro hc
            have hz := Z_pos hc hz
            refine R_sub [0, 1, 2, 3] rfl ?_
            exact hJ_30 hz
          have hY_45 : ¬ ((¬ n32 v_3 = 0) ∧ (¬ n32 (M 81 44) = 0)) → Rr y_M_unit (4, 86, n, n, E) (qM K) 120 [(0, vR 81), (1, vI r_1), (2, vI v_3), (3, vI r_13), (4, vI v_14)] [] E n M := by
            intro hc
            have hz := Z_neg hc hz
            refine R_sub [0, 1, 2, 3] rfl ?_
            exact hJ_27 _ (Z_some hz)
          refine R_if_eq (pc := 106) 120 (dc k_M_unit 52 rfl) rfl (fun hc => ?_) (fun hc => ?_)
          · have hc_46 : n32 v_3 = 0 := hc
            exact hY_45 (fun z => (fun z => z hc_46) z.1)
          · have hc_47 : ¬ n32 v_3 = 0 := hc
            refine R_aload_n (pc := 109) 0 (dc k_M_unit 53 rfl) rfl rfl ?_
            refine R_getI (pc := 110) (ci := 10) (k := 44) (dc k_M_unit 54 rfl) fl_M_372 rfl (lb rfl) (Nat.le_trans (lb rfl) hn) rfl (Or.inr rfl) ?_
            refine R_if_eq (pc := 113) 120 (dc k_M_unit 55 rfl) rfl (fun hc => ?_) (fun hc => ?_)
            · have hc_48 : n32 (M 81 44) = 0 := hc
              exact hY_45 (fun z => (fun z => z hc_48) z.2)
            · have hc_49 : ¬ n32 (M 81 44) = 0 := hc
              exact hX_44 ⟨hc_47, hc_49⟩
        have hY_51 : ¬ (((n32 v_14 = 0) ∧ ((n32 r_13 = 0) ∨ (¬ n32 (M 81 41) = 7))) ∨ ((¬ n32 v_14 = 0) ∧ (¬ n32 (M 81 41) = 7))) → Rr y_M_unit (4, 86, n, n, E) (qM K) 116 [(0, vR 81), (1, vI r_1), (2, vI v_3), (3, vI r_13), (4, vI v_14)] [] E n M := by
          intro hc
          have hz := Z_neg hc hz
          refine R_sub [0, 1, 2, 3] rfl ?_
          exact hJ_30 hz
        refine R_if_ne (pc := 89) 96 (dc k_M_unit 44 rfl) rfl (fun hc => ?_) (fun hc => ?_)
        · have hc_52 : ¬ n32 v_14 = 0 := hc
          refine R_aload_n (pc := 96) 0 (dc k_M_unit 47 rfl) rfl rfl ?_
          refine R_getI (pc := 97) (ci := 10) (k := 41) (dc k_M_unit 48 rfl) fl_M_384 rfl (lb rfl) (Nat.le_trans (lb rfl) hn) rfl (Or.inl rfl) ?_
          refine R_bipush (pc := 100) (a := 7) (dc k_M_unit 49 rfl) (by decide) ?_
          refine R_icmp_eq (pc := 102) 116 (dc k_M_unit 50 rfl) rfl (fun hc => ?_) (fun hc => ?_)
          · have hc_54 : n32 (M 81 41) = 7 := hc
            exact hY_51 (fun z => z.elim (fun z => hc_52 z.1) (fun z => (fun z => z hc_54) z.2))
          · have hc_55 : ¬ n32 (M 81 41) = 7 := hc
            exact hX_50 (Or.inr ⟨hc_52, hc_55⟩)
        · have hc_53 : n32 v_14 = 0 := (Decidable.not_not.mp hc)
          refine R_iload_n (pc := 92) 3 (dc k_M_unit 45 rfl) rfl rfl ?_
          refine R_if_eq (pc := 93) 105 (dc k_M_unit 46 rfl) rfl (fun hc => ?_) (fun hc => ?_)
          · have hc_56 : n32 r_13 = 0 := hc
            exact hX_50 (Or.inl ⟨hc_53, (Or.inl hc_56)⟩)
          · have hc_57 : ¬ n32 r_13 = 0 := hc
            refine R_aload_n (pc := 96) 0 (dc k_M_unit 47 rfl) rfl rfl ?_
            refine R_getI (pc := 97) (ci := 10) (k := 41) (dc k_M_unit 48 rfl) fl_M_384 rfl (lb rfl) (Nat.le_trans (lb rfl) hn) rfl (Or.inl rfl) ?_
            refine R_bipush (pc := 100) (a := 7) (dc k_M_unit 49 rfl) (by decide) ?_
            refine R_icmp_eq (pc := 102) 116 (dc k_M_unit 50 rfl) rfl (fun hc => ?_) (fun hc => ?_)
            · have hc_58 : n32 (M 81 41) = 7 := hc
              exact hY_51 (fun z => z.elim (fun z => (fun z => z.elim hc_57 (fun z => z hc_58)) z.2) (fun z => (fun z => z hc_53) z.1))
            · have hc_59 : ¬ n32 (M 81 41) = 7 := hc
              exact hX_50 (Or.inl ⟨hc_53, (Or.inr hc_59)⟩)
      refine R_if_ne (pc := 58) 87 (dc k_M_unit 29 rfl) rfl (fun hc => ?_) (fun hc => ?_)
      · have hz := Z_neg (show ¬ (n32 v_14 = 0) from hc) hz
        refine R_sub [1, 2, 3, 4, 0] rfl ?_
        exact hJ_33 hz
      · have hz := Z_pos (show n32 v_14 = 0 from (Decidable.not_not.mp hc)) hz
        refine R_aload_n (pc := 61) 1 (dc k_M_unit 30 rfl) rfl rfl ?_
        refine R_getI (pc := 62) (ci := 10) (k := 8) (dc k_M_unit 31 rfl) fl_M_250 rfl (lb rfl) (Nat.le_trans (lb rfl) hn) rfl (Or.inl rfl) ?_
        refine R_iconst (pc := 65) (a := 2) (dc k_M_unit 32 rfl) ?_
        obtain ⟨K_34, hK_35, hz⟩ := Z_cut hz
        have hX_36 : K_34 true → Rr y_M_unit (4, 86, n, n, E) (qM K) 87 [(4, vI v_14), (0, vR 81), (1, vI r_1), (2, vI v_3), (3, vI r_13)] [] E n M := by
          intro hk
          have hz := Z_pos rfl (hK_35 _ hk)
          refine R_sub [1, 2, 3, 4, 0] rfl ?_
          exact hJ_33 hz
        have hY_37 : K_34 false → Rr y_M_unit (4, 86, n, n, E) (qM K) 116 [(4, vI v_14), (0, vR 81), (1, vI r_1), (2, vI v_3), (3, vI r_13)] [] E n M := by
          intro hk
          have hz := Z_neg Bool.false_ne_true (hK_35 _ hk)
          refine R_sub [1, 2, 3, 4] rfl ?_
          exact hJ_30 hz
        refine R_icmp_eq (pc := 66) 73 (dc k_M_unit 33 rfl) rfl (fun hc => ?_) (fun hc => ?_)
        · have hz := Z_neg (show ¬ (¬ n32 (M 81 8) = 2) from (fun z => z hc)) hz
          refine R_aload_n (pc := 73) 1 (dc k_M_unit 36 rfl) rfl rfl ?_
          refine R_getS (pc := 74) (ci := 10) (k := 17) 90 (dc k_M_unit 37 rfl) fl_M_39 rfl (lb rfl) (Nat.le_trans (lb rfl) hn) (hE 81 (lb rfl) (lb rfl)) rfl (by decide) rfl ?_
          refine R_aload_n (pc := 77) 1 (dc k_M_unit 38 rfl) rfl rfl ?_
          refine R_getI (pc := 78) (ci := 10) (k := 39) (dc k_M_unit 39 rfl) fl_M_295 rfl (lb rfl) (Nat.le_trans (lb rfl) hn) rfl (Or.inl rfl) ?_
          obtain ⟨⟨hg_39, hg_40⟩, hz⟩ := Z_chk hz
          refine R_iald (pc := 81) (dc k_M_unit 40 rfl) rfl (lb rfl) (Nat.le_trans (lb rfl) hn) hg_39 hg_40 ?_
          refine R_bipush (pc := 82) (a := 80) (dc k_M_unit 41 rfl) (by decide) ?_
          refine R_icmp_eq (pc := 84) 116 (dc k_M_unit 42 rfl) rfl (fun hc => ?_) (fun hc => ?_)
          · have hz := Z_neg (show ¬ (¬ n32 (M 90 (Int.toNat (M 81 39))) = 80) from (fun z => z hc)) hz
            exact hY_37 (Z_some hz)
          · have hz := Z_pos (show ¬ n32 (M 90 (Int.toNat (M 81 39))) = 80 from hc) hz
            exact hX_36 (Z_some hz)
        · have hz := Z_pos (show ¬ n32 (M 81 8) = 2 from hc) hz
          refine R_iload_n (pc := 69) 4 (dc k_M_unit 34 rfl) rfl rfl ?_
          refine R_if_eq (pc := 70) 116 (dc k_M_unit 35 rfl) rfl (fun hc => ?_) (fun hc => ?_)
          · have hz := Z_neg (show ¬ (¬ n32 r_13 = 0) from (fun z => z hc)) hz
            exact hY_37 (Z_some hz)
          · have hz := Z_pos (show ¬ n32 r_13 = 0 from hc) hz
            refine R_aload_n (pc := 73) 1 (dc k_M_unit 36 rfl) rfl rfl ?_
            refine R_getS (pc := 74) (ci := 10) (k := 17) 90 (dc k_M_unit 37 rfl) fl_M_39 rfl (lb rfl) (Nat.le_trans (lb rfl) hn) (hE 81 (lb rfl) (lb rfl)) rfl (by decide) rfl ?_
            refine R_aload_n (pc := 77) 1 (dc k_M_unit 38 rfl) rfl rfl ?_
            refine R_getI (pc := 78) (ci := 10) (k := 39) (dc k_M_unit 39 rfl) fl_M_295 rfl (lb rfl) (Nat.le_trans (lb rfl) hn) rfl (Or.inl rfl) ?_
            obtain ⟨⟨hg_41, hg_42⟩, hz⟩ := Z_chk hz
            refine R_iald (pc := 81) (dc k_M_unit 40 rfl) rfl (lb rfl) (Nat.le_trans (lb rfl) hn) hg_41 hg_42 ?_
            refine R_bipush (pc := 82) (a := 80) (dc k_M_unit 41 rfl) (by decide) ?_
            refine R_icmp_eq (pc := 84) 116 (dc k_M_unit 42 rfl) rfl (fun hc => ?_) (fun hc => ?_)
            · have hz := Z_neg (show ¬ (¬ n32 (M 90 (Int.toNat (M 81 39))) = 80) from (fun z => z hc)) hz
              exact hY_37 (Z_some hz)
            · have hz := Z_pos (show ¬ n32 (M 90 (Int.toNat (M 81 39))) = 80 from hc) hz
              exact hX_36 (Z_some hz)
    have hX_18 : ((¬ n32 r_1 = 0) ∨ (¬ n32 v_3 = 0)) → Rr y_M_unit (4, 86, n, n, E) (qM K) 49 [(3, vI r_13), (2, vI v_3), (0, vR 81), (1, vI r_1)] [] E n M := by
      intro hc
      have hz := Z_pos hc hz
      refine R_iconst (pc := 49) (a := 1) (dc k_M_unit 24 rfl) ?_
      refine R_goto (pc := 50) 54 (dc k_M_unit 25 rfl) rfl ?_
      refine R_sub [2, 3, 1, 0] rfl ?_
      exact hJ_17 _ (Z_some hz)
    have hY_19 : ¬ ((¬ n32 r_1 = 0) ∨ (¬ n32 v_3 = 0)) → Rr y_M_unit (4, 86, n, n, E) (qM K) 53 [(3, vI r_13), (2, vI v_3), (0, vR 81), (1, vI r_1)] [] E n M := by
      intro hc
      have hz := Z_neg hc hz
      refine R_iconst (pc := 53) (a := 0) (dc k_M_unit 26 rfl) ?_
      refine R_sub [2, 3, 1, 0] rfl ?_
      exact hJ_17 _ (Z_some hz)
    refine R_if_ne (pc := 42) 49 (dc k_M_unit 21 rfl) rfl (fun hc => ?_) (fun hc => ?_)
    · have hc_20 : ¬ n32 r_1 = 0 := hc
      exact hX_18 (Or.inl hc_20)
    · have hc_21 : n32 r_1 = 0 := (Decidable.not_not.mp hc)
      refine R_iload_n (pc := 45) 1 (dc k_M_unit 22 rfl) rfl rfl ?_
      refine R_if_eq (pc := 46) 53 (dc k_M_unit 23 rfl) rfl (fun hc => ?_) (fun hc => ?_)
      · have hc_22 : n32 v_3 = 0 := hc
        exact hY_19 (fun z => z.elim (fun z => z hc_21) (fun z => z hc_22))
      · have hc_23 : ¬ n32 v_3 = 0 := hc
        exact hX_18 (Or.inr hc_23)
  obtain ⟨K_7, hK_8, hz⟩ := Z_cut hz
  have hX_9 : K_7 true → Rr y_M_unit (4, 86, n, n, E) (qM K) 28 [(1, vI r_1), (0, vR 81)] [] E n M := by
    intro hk
    have hz := Z_pos rfl (hK_8 _ hk)
    refine R_iconst (pc := 28) (a := 1) (dc k_M_unit 12 rfl) ?_
    refine R_goto (pc := 29) 33 (dc k_M_unit 13 rfl) rfl ?_
    refine R_sub [1, 0] rfl ?_
    exact hJ_6 _ (Z_some hz)
  have hY_10 : K_7 false → Rr y_M_unit (4, 86, n, n, E) (qM K) 32 [(1, vI r_1), (0, vR 81)] [] E n M := by
    intro hk
    have hz := Z_neg Bool.false_ne_true (hK_8 _ hk)
    refine R_iconst (pc := 32) (a := 0) (dc k_M_unit 14 rfl) ?_
    refine R_sub [1, 0] rfl ?_
    exact hJ_6 _ (Z_some hz)
  refine R_if_ne (pc := 15) 28 (dc k_M_unit 7 rfl) rfl (fun hc => ?_) (fun hc => ?_)
  · have hz := Z_neg (show ¬ (n32 r_2 = 0) from hc) hz
    exact hX_9 (Z_some hz)
  · have hz := Z_pos (show n32 r_2 = 0 from (Decidable.not_not.mp hc)) hz
    refine R_aload_n (pc := 18) 1 (dc k_M_unit 8 rfl) rfl rfl ?_
    refine R_ldc2 (pc := 19) (a := 127991794264947) (dc k_M_unit 9 rfl) c_M_232 ?_
    refine R_cVP (pc := 22)  (As := [vJ 127991794264947]) (S := []) ck_M_288 (dc k_M_unit 10 rfl) ⟨rfl, ⟨_, rfl, rfl⟩, (lb rfl), (Nat.le_trans (lb rfl) hn)⟩ (lb rfl) (lb rfl) (lb rfl) rfl (ct_M_isWord hE hn (Z_bind hz)) (fun r_12 hz => ?_)
    refine R_if_eq (pc := 25) 32 (dc k_M_unit 11 rfl) rfl (fun hc => ?_) (fun hc => ?_)
    · have hz := Z_neg (show ¬ (¬ n32 r_12 = 0) from (fun z => z hc)) hz
      exact hY_10 (Z_some hz)
    · have hz := Z_pos (show ¬ n32 r_12 = 0 from hc) hz
      exact hX_9 (Z_some hz)
