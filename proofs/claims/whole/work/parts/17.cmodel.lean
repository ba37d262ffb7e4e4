set_option maxRecDepth 20000 in
theorem ct_M_layHeard {E : Nat → Bool} {n : Nat} (hE : ∀ c, 81 ≤ c → c ≤ 138 → E c = true) (hn : 138 ≤ n) {r : Int} {M : Mem} {K : Mem → Prop} (hz : Z (M_layHeard r M) K) : Mt y_M_layHeard (2, 40, n, n, E) E [vR 81, vI r] M (qV K) := by
  refine Mt.of (by decide) (lb rfl) (Nat.le_refl _) rfl ?_
  rw [M_layHeard] at hz
  show Rr y_M_layHeard (2, 40, n, n, E) (qV K) 0 [(0, vR 81), (1, vI r)] [] E n M
  refine R_iconst (pc := 0) (a := 0) (dc k_M_layHeard 0 rfl) ?_
  refine R_istore_n (pc := 1) (L' := [(2, vI 0), (0, vR 81), (1, vI r)]) (dc k_M_layHeard 1 rfl) rfl (lb rfl) rfl ?_
  obtain ⟨K_3, hK_4, hz⟩ := Z_cut hz
  have hX_5 : ∀ (M_9 : Mem), K_3 M_9 → Rr y_M_layHeard (2, 40, n, n, E) (qV K) 22 [(0, vR 81), (1, vI r)] [] E n M_9 := by
    intro M_9 hk
    have hz := hK_4 _ hk
    refine R_iconst (pc := 22) (a := 0) (dc k_M_layHeard 12 rfl) ?_
    refine R_istore_n (pc := 23) (L' := [(2, vI 0), (0, vR 81), (1, vI r)]) (dc k_M_layHeard 13 rfl) rfl (lb rfl) rfl ?_
    obtain ⟨K_17, hK_18, hz⟩ := Z_cut hz
    have hX_19 : ∀ (M_23 : Mem), K_17 M_23 → Rr y_M_layHeard (2, 40, n, n, E) (qV K) 49 [(0, vR 81), (1, vI r)] [] E n M_23 := by
      intro M_23 hk
      have hz := hK_18 _ hk
      refine R_iconst (pc := 49) (a := 0) (dc k_M_layHeard 29 rfl) ?_
      refine R_istore_n (pc := 50) (L' := [(2, vI 0), (0, vR 81), (1, vI r)]) (dc k_M_layHeard 30 rfl) rfl (lb rfl) rfl ?_
      obtain ⟨K_34, hK_35, hz⟩ := Z_cut hz
      have hX_36 : ∀ (M_40 : Mem), K_34 M_40 → Rr y_M_layHeard (2, 40, n, n, E) (qV K) 204 [] [] E n M_40 := by
        intro M_40 hk
        have hz := hK_35 _ hk
        exact R_vret (pc := 204) (dc k_M_layHeard 126 rfl) rfl rfl rfl ⟨rfl, (Z_some hz)⟩
      refine R_sub [1, 2, 0] rfl ?_
      refine it_R (C := fun aZ : Int × Mem => Rr y_M_layHeard (2, 40, n, n, E) (qV K) 51 [(0, vR 81), (1, vI r), (2, vI aZ.1)] [] E n aZ.2) (fun aZ K_37 hC_38 hB_39 hz => ?_) FUEL (0, M_23) hz
      obtain ⟨l2_32, M_33⟩ := aZ
      rw [M_layHeard_b51] at hz
      show Rr y_M_layHeard (2, 40, n, n, E) (qV K) 51 [(0, vR 81), (1, vI r), (2, vI l2_32)] [] E n M_33
      refine R_iload_n (pc := 51) 2 (dc k_M_layHeard 31 rfl) rfl rfl ?_
      refine R_aload_n (pc := 52) 0 (dc k_M_layHeard 32 rfl) rfl rfl ?_
      refine R_cVP (pc := 53)  (As := []) (S := [vI l2_32]) ck_M_427 (dc k_M_layHeard 33 rfl) ⟨rfl, ⟨_, rfl, rfl⟩, (lb rfl), (Nat.le_trans (lb rfl) hn)⟩ (lb rfl) (lb rfl) (lb rfl) rfl (ct_M_worldMany hE hn (Z_bind hz)) (fun r_41 hz => ?_)
      refine R_icmp_ge (pc := 56) 204 (dc k_M_layHeard 34 rfl) rfl (fun hc => ?_) (fun hc => ?_)
      · have hz := Z_neg (show ¬ (n32 l2_32 < n32 r_41) from (Int.not_lt.mpr hc)) hz
        refine R_sub [] rfl ?_
        exact hX_36 _ (hB_39 _ (Z_some hz))
      · have hz := Z_pos (show n32 l2_32 < n32 r_41 from (Int.not_le.mp hc)) hz
        refine R_aload_n (pc := 59) 0 (dc k_M_layHeard 35 rfl) rfl rfl ?_
        refine R_getS (pc := 60) (ci := 10) (k := 59) 122 (dc k_M_layHeard 36 rfl) fl_M_137 rfl (lb rfl) (Nat.le_trans (lb rfl) hn) (hE 81 (lb rfl) (lb rfl)) rfl (by decide) rfl ?_
        refine R_iload_n (pc := 63) 2 (dc k_M_layHeard 37 rfl) rfl rfl ?_
        obtain ⟨⟨hg_42, hg_43⟩, hz⟩ := Z_chk hz
        refine R_zald (pc := 64) (dc k_M_layHeard 38 rfl) rfl (lb rfl) (Nat.le_trans (lb rfl) hn) hg_42 hg_43 ?_
        obtain ⟨K_45, hK_46, hz⟩ := Z_cut hz
        have hJ_47 : ∀ (M_44 : Mem), K_45 M_44 → Rr y_M_layHeard (2, 40, n, n, E) (qV K) 198 [(0, vR 81), (1, vI r), (2, vI l2_32)] [] E n M_44 := by
          intro M_44 hk
          have hz := hK_46 _ hk
          obtain ⟨l2_91, hl2_91, hz⟩ := Z_lt hz
          refine R_iincE (pc := 198) (L' := [(2, vI l2_91), (0, vR 81), (1, vI r)]) 2 (dc k_M_layHeard 124 rfl) rfl (lb rfl) hl2_91 rfl ?_
          refine R_goto (pc := 201) 51 (dc k_M_layHeard 125 rfl) rfl ?_
          refine R_sub [1, 2, 0] rfl ?_
          exact hC_38 _ (Z_some hz)
        refine R_if_ne (pc := 65) 71 (dc k_M_layHeard 39 rfl) rfl (fun hc => ?_) (fun hc => ?_)
        · have hz := Z_neg (show ¬ (n32 (M_33 122 (Int.toNat l2_32)) = 0) from hc) hz
          refine R_aload_n (pc := 71) 0 (dc k_M_layHeard 41 rfl) rfl rfl ?_
          refine R_getS (pc := 72) (ci := 10) (k := 64) 126 (dc k_M_layHeard 42 rfl) fl_M_149 rfl (lb rfl) (Nat.le_trans (lb rfl) hn) (hE 81 (lb rfl) (lb rfl)) rfl (by decide) rfl ?_
          refine R_iload_n (pc := 75) 2 (dc k_M_layHeard 43 rfl) rfl rfl ?_
          refine R_bipush (pc := 76) (a := 64) (dc k_M_layHeard 44 rfl) (by decide) ?_
          refine R_idiv (pc := 78) (dc k_M_layHeard 45 rfl) (by decide) ?_
          refine R_dup2 (pc := 79) (dc k_M_layHeard 46 rfl) rfl rfl ?_
          obtain ⟨⟨hg_48, hg_49⟩, hz⟩ := Z_chk hz
          refine R_lald (pc := 80) (dc k_M_layHeard 47 rfl) rfl (lb rfl) (Nat.le_trans (lb rfl) hn) hg_48 hg_49 ?_
          refine R_lconst (pc := 81) (a := 1) (dc k_M_layHeard 48 rfl) (by decide) ?_
          refine R_iload_n (pc := 82) 2 (dc k_M_layHeard 49 rfl) rfl rfl ?_
          refine R_bipush (pc := 83) (a := 64) (dc k_M_layHeard 50 rfl) (by decide) ?_
          refine R_irem (pc := 85) (dc k_M_layHeard 51 rfl) (by decide) ?_
          refine R_lshl (pc := 86) (dc k_M_layHeard 52 rfl) ?_
          refine R_lor (pc := 87) (dc k_M_layHeard 53 rfl) ?_
          obtain ⟨M_50, hM_50, hz⟩ := Z_lt hz
          refine R_lastE (pc := 88) (dc k_M_layHeard 54 rfl) rfl (lb rfl) (Nat.le_trans (lb rfl) hn) hg_48 hg_49 hM_50 ?_
          refine R_aload_n (pc := 89) 0 (dc k_M_layHeard 55 rfl) rfl rfl ?_
          refine R_getS (pc := 90) (ci := 10) (k := 66) 128 (dc k_M_layHeard 56 rfl) fl_M_155 rfl (lb rfl) (Nat.le_trans (lb rfl) hn) (hE 81 (lb rfl) (lb rfl)) rfl (by decide) rfl ?_
          refine R_iload_n (pc := 93) 2 (dc k_M_layHeard 57 rfl) rfl rfl ?_
          refine R_bipush (pc := 94) (a := 64) (dc k_M_layHeard 58 rfl) (by decide) ?_
          refine R_idiv (pc := 96) (dc k_M_layHeard 59 rfl) (by decide) ?_
          refine R_dup2 (pc := 97) (dc k_M_layHeard 60 rfl) rfl rfl ?_
          obtain ⟨⟨hg_51, hg_52⟩, hz⟩ := Z_chk hz
          refine R_lald (pc := 98) (dc k_M_layHeard 61 rfl) rfl (lb rfl) (Nat.le_trans (lb rfl) hn) hg_51 hg_52 ?_
          refine R_aload_n (pc := 99) 0 (dc k_M_layHeard 62 rfl) rfl rfl ?_
          refine R_getS (pc := 100) (ci := 10) (k := 47) 112 (dc k_M_layHeard 63 rfl) fl_M_107 rfl (lb rfl) (Nat.le_trans (lb rfl) hn) (hE 81 (lb rfl) (lb rfl)) rfl (by decide) rfl ?_
          refine R_iload_n (pc := 103) 1 (dc k_M_layHeard 64 rfl) rfl rfl ?_
          refine R_iload_n (pc := 104) 2 (dc k_M_layHeard 65 rfl) rfl rfl ?_
          refine R_cSP (pc := 105)  (As := [vI r, vI l2_32]) (S := [vR 112, vJ (M_50 128 (Int.toNat (idiv' l2_32 64))), vI (idiv' l2_32 64), vR 128]) ck_M_430 (dc k_M_layHeard 66 rfl) (lb rfl) (lb rfl) (lb rfl) rfl (ct_M_spot hE hn (Z_bind hz)) (fun r_53 hz => ?_)
          obtain ⟨⟨hg_54, hg_55⟩, hz⟩ := Z_chk hz
          refine R_zald (pc := 108) (dc k_M_layHeard 67 rfl) rfl (lb rfl) (Nat.le_trans (lb rfl) hn) hg_54 hg_55 ?_
          obtain ⟨K_57, hK_58, hz⟩ := Z_cut hz
          have hJ_59 : ∀ (v_56 : Int), K_57 v_56 → Rr y_M_layHeard (2, 40, n, n, E) (qV K) 122 [(0, vR 81), (1, vI r), (2, vI l2_32)] [vJ v_56, vJ (M_50 128 (Int.toNat (idiv' l2_32 64))), vI (idiv' l2_32 64), vR 128] E n M_50 := by
            intro v_56 hk
            have hz := hK_58 _ hk
            refine R_lor (pc := 122) (dc k_M_layHeard 76 rfl) ?_
            obtain ⟨M_61, hM_61, hz⟩ := Z_lt hz
            refine R_lastE (pc := 123) (dc k_M_layHeard 77 rfl) rfl (lb rfl) (Nat.le_trans (lb rfl) hn) hg_51 hg_52 hM_61 ?_
            refine R_iconst (pc := 124) (a := 0) (dc k_M_layHeard 78 rfl) ?_
            refine R_istore_n (pc := 125) (L' := [(3, vI 0), (0, vR 81), (1, vI r), (2, vI l2_32)]) (dc k_M_layHeard 79 rfl) rfl (lb rfl) rfl ?_
            obtain ⟨K_64, hK_65, hz⟩ := Z_cut hz
            have hX_66 : ∀ (M_70 : Mem), K_64 M_70 → Rr y_M_layHeard (2, 40, n, n, E) (qV K) 198 [(0, vR 81), (1, vI r), (2, vI l2_32)] [] E n M_70 := by
              intro M_70 hk
              have hz := hK_65 _ hk
              exact hJ_47 _ (Z_some hz)
            refine R_sub [1, 2, 3, 0] rfl ?_
            refine it_R (C := fun aZ : Int × Mem => Rr y_M_layHeard (2, 40, n, n, E) (qV K) 126 [(0, vR 81), (1, vI r), (2, vI l2_32), (3, vI aZ.1)] [] E n aZ.2) (fun aZ K_67 hC_68 hB_69 hz => ?_) FUEL (0, M_61) hz
            obtain ⟨l3_62, M_63⟩ := aZ
            rw [M_layHeard_b126] at hz
            show Rr y_M_layHeard (2, 40, n, n, E) (qV K) 126 [(0, vR 81), (1, vI r), (2, vI l2_32), (3, vI l3_62)] [] E n M_63
            refine R_iload_n (pc := 126) 3 (dc k_M_layHeard 80 rfl) rfl rfl ?_
            refine R_aload_n (pc := 127) 0 (dc k_M_layHeard 81 rfl) rfl rfl ?_
            refine R_cVP (pc := 128)  (As := []) (S := [vI l3_62]) ck_M_421 (dc k_M_layHeard 82 rfl) ⟨rfl, ⟨_, rfl, rfl⟩, (lb rfl), (Nat.le_trans (lb rfl) hn)⟩ (lb rfl) (lb rfl) (lb rfl) rfl (ct_M_personMany hE hn (Z_bind hz)) (fun r_71 hz => ?_)
            refine R_icmp_ge (pc := 131) 198 (dc k_M_layHeard 83 rfl) rfl (fun hc => ?_) (fun hc => ?_)
            · have hz := Z_neg (show ¬ (n32 l3_62 < n32 r_71) from (Int.not_lt.mpr hc)) hz
              refine R_sub [0, 1, 2] rfl ?_
              exact hX_66 _ (hB_69 _ (Z_some hz))
            · have hz := Z_pos (show n32 l3_62 < n32 r_71 from (Int.not_le.mp hc)) hz
              refine R_iconst (pc := 134) (a := 0) (dc k_M_layHeard 84 rfl) ?_
              refine R_istore (pc := 135) (L' := [(4, vI 0), (0, vR 81), (1, vI r), (2, vI l2_32), (3, vI l3_62)]) (dc k_M_layHeard 85 rfl) (lb rfl) rfl ?_
              obtain ⟨K_74, hK_75, hz⟩ := Z_cut hz
              have hX_76 : ∀ (M_80 : Mem), K_74 M_80 → Rr y_M_layHeard (2, 40, n, n, E) (qV K) 192 [(0, vR 81), (1, vI r), (2, vI l2_32), (3, vI l3_62)] [] E n M_80 := by
                intro M_80 hk
                have hz := hK_75 _ hk
                obtain ⟨l3_88, hl3_88, hz⟩ := Z_lt hz
                refine R_iincE (pc := 192) (L' := [(3, vI l3_88), (0, vR 81), (1, vI r), (2, vI l2_32)]) 3 (dc k_M_layHeard 122 rfl) rfl (lb rfl) hl3_88 rfl ?_
                refine R_goto (pc := 195) 126 (dc k_M_layHeard 123 rfl) rfl ?_
                refine R_sub [1, 2, 3, 0] rfl ?_
                exact hC_68 _ (Z_some hz)
              refine R_sub [1, 2, 3, 4, 0] rfl ?_
              refine it_R (C := fun aZ : Int × Mem => Rr y_M_layHeard (2, 40, n, n, E) (qV K) 137 [(0, vR 81), (1, vI r), (2, vI l2_32), (3, vI l3_62), (4, vI aZ.1)] [] E n aZ.2) (fun aZ K_77 hC_78 hB_79 hz => ?_) FUEL (0, M_63) hz
              obtain ⟨l4_72, M_73⟩ := aZ
              rw [M_layHeard_b137] at hz
              show Rr y_M_layHeard (2, 40, n, n, E) (qV K) 137 [(0, vR 81), (1, vI r), (2, vI l2_32), (3, vI l3_62), (4, vI l4_72)] [] E n M_73
              refine R_iload (pc := 137) 4 (dc k_M_layHeard 86 rfl) rfl ?_
              refine R_aload_n (pc := 139) 0 (dc k_M_layHeard 87 rfl) rfl rfl ?_
              refine R_cVP (pc := 140)  (As := []) (S := [vI l4_72]) ck_M_415 (dc k_M_layHeard 88 rfl) ⟨rfl, ⟨_, rfl, rfl⟩, (lb rfl), (Nat.le_trans (lb rfl) hn)⟩ (lb rfl) (lb rfl) (lb rfl) rfl (ct_M_rowMany hE hn (Z_bind hz)) (fun r_81 hz => ?_)
              refine R_icmp_ge (pc := 143) 192 (dc k_M_layHeard 89 rfl) rfl (fun hc => ?_) (fun hc => ?_)
              · have hz := Z_neg (show ¬ (n32 l4_72 < n32 r_81) from (Int.not_lt.mpr hc)) hz
                refine R_sub [0, 1, 2, 3] rfl ?_
                exact hX_76 _ (hB_79 _ (Z_some hz))
              · have hz := Z_pos (show n32 l4_72 < n32 r_81 from (Int.not_le.mp hc)) hz
                refine R_aload_n (pc := 146) 0 (dc k_M_layHeard 90 rfl) rfl rfl ?_
                refine R_getS (pc := 147) (ci := 10) (k := 65) 127 (dc k_M_layHeard 91 rfl) fl_M_152 rfl (lb rfl) (Nat.le_trans (lb rfl) hn) (hE 81 (lb rfl) (lb rfl)) rfl (by decide) rfl ?_
                refine R_bipush (pc := 150) (a := 12) (dc k_M_layHeard 92 rfl) (by decide) ?_
                refine R_bipush (pc := 152) (a := 12) (dc k_M_layHeard 93 rfl) (by decide) ?_
                refine R_iload_n (pc := 154) 3 (dc k_M_layHeard 94 rfl) rfl rfl ?_
                refine R_imul (pc := 155) (dc k_M_layHeard 95 rfl) ?_
                refine R_iload (pc := 156) 4 (dc k_M_layHeard 96 rfl) rfl ?_
                refine R_iadd (pc := 158) (dc k_M_layHeard 97 rfl) ?_
                refine R_imul (pc := 159) (dc k_M_layHeard 98 rfl) ?_
                refine R_iconst (pc := 160) (a := 4) (dc k_M_layHeard 99 rfl) ?_
                refine R_aload_n (pc := 161) 0 (dc k_M_layHeard 100 rfl) rfl rfl ?_
                refine R_iload_n (pc := 162) 3 (dc k_M_layHeard 101 rfl) rfl rfl ?_
                refine R_iload (pc := 163) 4 (dc k_M_layHeard 102 rfl) rfl ?_
                refine R_iload_n (pc := 165) 2 (dc k_M_layHeard 103 rfl) rfl rfl ?_
                refine R_cVP (pc := 166)  (As := [vI l3_62, vI l4_72, vI l2_32]) (S := [vI 4, vI (12 * ((12 * l3_62) + l4_72)), vR 127]) ck_M_461 (dc k_M_layHeard 104 rfl) ⟨rfl, ⟨_, rfl, rfl⟩, (lb rfl), (Nat.le_trans (lb rfl) hn)⟩ (lb rfl) (lb rfl) (lb rfl) rfl (ct_M_answerAt hE hn (Z_bind hz)) (fun r_82 hz => ?_)
                refine R_imul (pc := 169) (dc k_M_layHeard 105 rfl) ?_
                refine R_iadd (pc := 170) (dc k_M_layHeard 106 rfl) ?_
                refine R_iload_n (pc := 171) 2 (dc k_M_layHeard 107 rfl) rfl rfl ?_
                refine R_bipush (pc := 172) (a := 64) (dc k_M_layHeard 108 rfl) (by decide) ?_
                refine R_idiv (pc := 174) (dc k_M_layHeard 109 rfl) (by decide) ?_
                refine R_iadd (pc := 175) (dc k_M_layHeard 110 rfl) ?_
                refine R_dup2 (pc := 176) (dc k_M_layHeard 111 rfl) rfl rfl ?_
                obtain ⟨⟨hg_83, hg_84⟩, hz⟩ := Z_chk hz
                refine R_lald (pc := 177) (dc k_M_layHeard 112 rfl) rfl (lb rfl) (Nat.le_trans (lb rfl) hn) hg_83 hg_84 ?_
                refine R_lconst (pc := 178) (a := 1) (dc k_M_layHeard 113 rfl) (by decide) ?_
                refine R_iload_n (pc := 179) 2 (dc k_M_layHeard 114 rfl) rfl rfl ?_
                refine R_bipush (pc := 180) (a := 64) (dc k_M_layHeard 115 rfl) (by decide) ?_
                refine R_irem (pc := 182) (dc k_M_layHeard 116 rfl) (by decide) ?_
                refine R_lshl (pc := 183) (dc k_M_layHeard 117 rfl) ?_
                refine R_lor (pc := 184) (dc k_M_layHeard 118 rfl) ?_
                obtain ⟨M_85, hM_85, hz⟩ := Z_lt hz
                refine R_lastE (pc := 185) (dc k_M_layHeard 119 rfl) rfl (lb rfl) (Nat.le_trans (lb rfl) hn) hg_83 hg_84 hM_85 ?_
                obtain ⟨l4_86, hl4_86, hz⟩ := Z_lt hz
                refine R_iincE (pc := 186) (L' := [(4, vI l4_86), (0, vR 81), (1, vI r), (2, vI l2_32), (3, vI l3_62)]) 4 (dc k_M_layHeard 120 rfl) rfl (lb rfl) hl4_86 rfl ?_
                refine R_goto (pc := 189) 137 (dc k_M_layHeard 121 rfl) rfl ?_
                refine R_sub [1, 2, 3, 4, 0] rfl ?_
                exact hC_78 _ (Z_some hz)
          refine R_if_eq (pc := 109) 121 (dc k_M_layHeard 68 rfl) rfl (fun hc => ?_) (fun hc => ?_)
          · have hz := Z_neg (show ¬ (¬ n32 (M_50 112 (Int.toNat r_53)) = 0) from (fun z => z hc)) hz
            refine R_lconst (pc := 121) (a := 0) (dc k_M_layHeard 75 rfl) (by decide) ?_
            exact hJ_59 _ (Z_some hz)
          · have hz := Z_pos (show ¬ n32 (M_50 112 (Int.toNat r_53)) = 0 from hc) hz
            refine R_lconst (pc := 112) (a := 1) (dc k_M_layHeard 69 rfl) (by decide) ?_
            refine R_iload_n (pc := 113) 2 (dc k_M_layHeard 70 rfl) rfl rfl ?_
            refine R_bipush (pc := 114) (a := 64) (dc k_M_layHeard 71 rfl) (by decide) ?_
            refine R_irem (pc := 116) (dc k_M_layHeard 72 rfl) (by decide) ?_
            refine R_lshl (pc := 117) (dc k_M_layHeard 73 rfl) ?_
            refine R_goto (pc := 118) 122 (dc k_M_layHeard 74 rfl) rfl ?_
            exact hJ_59 _ (Z_some hz)
        · have hz := Z_pos (show n32 (M_33 122 (Int.toNat l2_32)) = 0 from (Decidable.not_not.mp hc)) hz
          refine R_goto (pc := 68) 198 (dc k_M_layHeard 40 rfl) rfl ?_
          exact hJ_47 _ (Z_some hz)
    refine R_sub [1, 2, 0] rfl ?_
    refine it_R (C := fun aZ : Int × Mem => Rr y_M_layHeard (2, 40, n, n, E) (qV K) 24 [(0, vR 81), (1, vI r), (2, vI aZ.1)] [] E n aZ.2) (fun aZ K_20 hC_21 hB_22 hz => ?_) FUEL (0, M_9) hz
    obtain ⟨l2_15, M_16⟩ := aZ
    rw [M_layHeard_b24] at hz
    show Rr y_M_layHeard (2, 40, n, n, E) (qV K) 24 [(0, vR 81), (1, vI r), (2, vI l2_15)] [] E n M_16
    refine R_iload_n (pc := 24) 2 (dc k_M_layHeard 14 rfl) rfl rfl ?_
    refine R_iconst (pc := 25) (a := 4) (dc k_M_layHeard 15 rfl) ?_
    refine R_icmp_ge (pc := 26) 49 (dc k_M_layHeard 16 rfl) rfl (fun hc => ?_) (fun hc => ?_)
    · have hz := Z_neg (show ¬ (n32 l2_15 < 4) from (Int.not_lt.mpr hc)) hz
      refine R_sub [0, 1] rfl ?_
      exact hX_19 _ (hB_22 _ (Z_some hz))
    · have hz := Z_pos (show n32 l2_15 < 4 from (Int.not_le.mp hc)) hz
      refine R_aload_n (pc := 29) 0 (dc k_M_layHeard 17 rfl) rfl rfl ?_
      refine R_getS (pc := 30) (ci := 10) (k := 66) 128 (dc k_M_layHeard 18 rfl) fl_M_155 rfl (lb rfl) (Nat.le_trans (lb rfl) hn) (hE 81 (lb rfl) (lb rfl)) rfl (by decide) rfl ?_
      refine R_iload_n (pc := 33) 2 (dc k_M_layHeard 19 rfl) rfl rfl ?_
      refine R_lconst (pc := 34) (a := 0) (dc k_M_layHeard 20 rfl) (by decide) ?_
      obtain ⟨⟨hg_24, hg_25⟩, hz⟩ := Z_chk hz
      obtain ⟨M_26, hM_26, hz⟩ := Z_lt hz
      refine R_lastE (pc := 35) (dc k_M_layHeard 21 rfl) rfl (lb rfl) (Nat.le_trans (lb rfl) hn) hg_24 hg_25 hM_26 ?_
      refine R_aload_n (pc := 36) 0 (dc k_M_layHeard 22 rfl) rfl rfl ?_
      refine R_getS (pc := 37) (ci := 10) (k := 64) 126 (dc k_M_layHeard 23 rfl) fl_M_149 rfl (lb rfl) (Nat.le_trans (lb rfl) hn) (hE 81 (lb rfl) (lb rfl)) rfl (by decide) rfl ?_
      refine R_iload_n (pc := 40) 2 (dc k_M_layHeard 24 rfl) rfl rfl ?_
      refine R_lconst (pc := 41) (a := 0) (dc k_M_layHeard 25 rfl) (by decide) ?_
      obtain ⟨⟨hg_27, hg_28⟩, hz⟩ := Z_chk hz
      obtain ⟨M_29, hM_29, hz⟩ := Z_lt hz
      refine R_lastE (pc := 42) (dc k_M_layHeard 26 rfl) rfl (lb rfl) (Nat.le_trans (lb rfl) hn) hg_27 hg_28 hM_29 ?_
      obtain ⟨l2_30, hl2_30, hz⟩ := Z_lt hz
      refine R_iincE (pc := 43) (L' := [(2, vI l2_30), (0, vR 81), (1, vI r)]) 2 (dc k_M_layHeard 27 rfl) rfl (lb rfl) hl2_30 rfl ?_
      refine R_goto (pc := 46) 24 (dc k_M_layHeard 28 rfl) rfl ?_
      refine R_sub [1, 2, 0] rfl ?_
      exact hC_21 _ (Z_some hz)
  refine R_sub [1, 2, 0] rfl ?_
  refine it_R (C := fun aZ : Int × Mem => Rr y_M_layHeard (2, 40, n, n, E) (qV K) 2 [(0, vR 81), (1, vI r), (2, vI aZ.1)] [] E n aZ.2) (fun aZ K_6 hC_7 hB_8 hz => ?_) FUEL (0, M) hz
  obtain ⟨l2_1, M_2⟩ := aZ
  rw [M_layHeard_b2] at hz
  show Rr y_M_layHeard (2, 40, n, n, E) (qV K) 2 [(0, vR 81), (1, vI r), (2, vI l2_1)] [] E n M_2
  refine R_iload_n (pc := 2) 2 (dc k_M_layHeard 2 rfl) rfl rfl ?_
  refine R_sipush (pc := 3) (a := 1152) (dc k_M_layHeard 3 rfl) (by decide) ?_
  refine R_icmp_ge (pc := 6) 22 (dc k_M_layHeard 4 rfl) rfl (fun hc => ?_) (fun hc => ?_)
  · have hz := Z_neg (show ¬ (n32 l2_1 < 1152) from (Int.not_lt.mpr hc)) hz
    refine R_sub [0, 1] rfl ?_
    exact hX_5 _ (hB_8 _ (Z_some hz))
  · have hz := Z_pos (show n32 l2_1 < 1152 from (Int.not_le.mp hc)) hz
    refine R_aload_n (pc := 9) 0 (dc k_M_layHeard 5 rfl) rfl rfl ?_
    refine R_getS (pc := 10) (ci := 10) (k := 65) 127 (dc k_M_layHeard 6 rfl) fl_M_152 rfl (lb rfl) (Nat.le_trans (lb rfl) hn) (hE 81 (lb rfl) (lb rfl)) rfl (by decide) rfl ?_
    refine R_iload_n (pc := 13) 2 (dc k_M_layHeard 7 rfl) rfl rfl ?_
    refine R_lconst (pc := 14) (a := 0) (dc k_M_layHeard 8 rfl) (by decide) ?_
    obtain ⟨⟨hg_10, hg_11⟩, hz⟩ := Z_chk hz
    obtain ⟨M_12, hM_12, hz⟩ := Z_lt hz
    refine R_lastE (pc := 15) (dc k_M_layHeard 9 rfl) rfl (lb rfl) (Nat.le_trans (lb rfl) hn) hg_10 hg_11 hM_12 ?_
    obtain ⟨l2_13, hl2_13, hz⟩ := Z_lt hz
    refine R_iincE (pc := 16) (L' := [(2, vI l2_13), (0, vR 81), (1, vI r)]) 2 (dc k_M_layHeard 10 rfl) rfl (lb rfl) hl2_13 rfl ?_
    refine R_goto (pc := 19) 2 (dc k_M_layHeard 11 rfl) rfl ?_
    refine R_sub [1, 2, 0] rfl ?_
    exact hC_7 _ (Z_some hz)

set_option maxRecDepth 20000 in
theorem ct_M_isOne {E : Nat → Bool} {n : Nat} (hE : ∀ c, 81 ≤ c → c ≤ 138 → E c = true) (hn : 138 ≤ n) {level : Int} {M : Mem} {K : Int → Prop} (hz : Z (M_isOne level M) K) : Mt y_M_isOne (0, 0, n, n, E) E [vR 81, vI level] M (qP M K) := by
  refine Mt.of (by decide) (lb rfl) (Nat.le_refl _) rfl ?_
  rw [M_isOne] at hz
  show Rr y_M_isOne (0, 0, n, n, E) (qP M K) 0 [(0, vR 81), (1, vI level)] [] E n M
  refine R_iconst (pc := 0) (a := 0) (dc k_M_isOne 0 rfl) ?_
  refine R_istore_n (pc := 1) (L' := [(2, vI 0), (0, vR 81), (1, vI level)]) (dc k_M_isOne 1 rfl) rfl (lb rfl) rfl ?_
  refine R_iconst (pc := 2) (a := 0) (dc k_M_isOne 2 rfl) ?_
  refine R_istore_n (pc := 3) (L' := [(3, vI 0), (2, vI 0), (0, vR 81), (1, vI level)]) (dc k_M_isOne 3 rfl) rfl (lb rfl) rfl ?_
  refine R_iconst (pc := 4) (a := 0) (dc k_M_isOne 4 rfl) ?_
  refine R_istore (pc := 5) (L' := [(4, vI 0), (3, vI 0), (2, vI 0), (0, vR 81), (1, vI level)]) (dc k_M_isOne 5 rfl) (lb rfl) rfl ?_
  obtain ⟨K_4, hK_5, hz⟩ := Z_cut hz
  have hX_6 : ∀ (l2_10 : Int) (l3_11 : Int), K_4 (l2_10, l3_11) → Rr y_M_isOne (0, 0, n, n, E) (qP M K) 91 [(2, vI l2_10), (3, vI l3_11)] [] E n M := by
    intro l2_10 l3_11 hk
    have hz := hK_5 _ hk
    refine R_iload_n (pc := 91) 0 (dc k_M_isOne 57 rfl) rfl rfl ?_
    have hX_40 : ((n32 l2_10 = 0) ∨ (n32 l3_11 = 0)) → Rr y_M_isOne (0, 0, n, n, E) (qP M K) 99 [(2, vI l2_10), (3, vI l3_11)] [] E n M := by
      intro hc
      have hz := Z_pos hc hz
      refine R_iconst (pc := 99) (a := 1) (dc k_M_isOne 61 rfl) ?_
      refine R_goto (pc := 100) 104 (dc k_M_isOne 62 rfl) rfl ?_
      exact R_zret (pc := 104) (dc k_M_isOne 64 rfl) rfl (Or.inr rfl) rfl rfl ⟨_, rfl, rfl, (Z_some hz)⟩
    have hY_41 : ¬ ((n32 l2_10 = 0) ∨ (n32 l3_11 = 0)) → Rr y_M_isOne (0, 0, n, n, E) (qP M K) 103 [(2, vI l2_10), (3, vI l3_11)] [] E n M := by
      intro hc
      have hz := Z_neg hc hz
      refine R_iconst (pc := 103) (a := 0) (dc k_M_isOne 63 rfl) ?_
      exact R_zret (pc := 104) (dc k_M_isOne 64 rfl) rfl (Or.inl rfl) rfl rfl ⟨_, rfl, rfl, (Z_some hz)⟩
    refine R_if_eq (pc := 92) 99 (dc k_M_isOne 58 rfl) rfl (fun hc => ?_) (fun hc => ?_)
    · have hc_42 : n32 l2_10 = 0 := hc
      exact hX_40 (Or.inl hc_42)
    · have hc_43 : ¬ n32 l2_10 = 0 := hc
      refine R_iload_n (pc := 95) 1 (dc k_M_isOne 59 rfl) rfl rfl ?_
      refine R_if_ne (pc := 96) 103 (dc k_M_isOne 60 rfl) rfl (fun hc => ?_) (fun hc => ?_)
      · have hc_44 : ¬ n32 l3_11 = 0 := hc
        exact hY_41 (fun z => z.elim hc_43 hc_44)
      · have hc_45 : n32 l3_11 = 0 := (Decidable.not_not.mp hc)
        exact hX_40 (Or.inr hc_45)
  refine R_sub [3, 4, 2, 1, 0] rfl ?_
  refine it_R (C := fun aZ : Int × Int × Int => Rr y_M_isOne (0, 0, n, n, E) (qP M K) 7 [(0, vR 81), (1, vI level), (2, vI aZ.1), (3, vI aZ.2.1), (4, vI aZ.2.2)] [] E n M) (fun aZ K_7 hC_8 hB_9 hz => ?_) FUEL (0, 0, 0) hz
  obtain ⟨l2_1, l3_2, l4_3⟩ := aZ
  rw [M_isOne_b7] at hz
  show Rr y_M_isOne (0, 0, n, n, E) (qP M K) 7 [(0, vR 81), (1, vI level), (2, vI l2_1), (3, vI l3_2), (4, vI l4_3)] [] E n M
  refine R_iload (pc := 7) 4 (dc k_M_isOne 6 rfl) rfl ?_
  refine R_iconst (pc := 9) (a := 4) (dc k_M_isOne 7 rfl) ?_
  refine R_icmp_ge (pc := 10) 91 (dc k_M_isOne 8 rfl) rfl (fun hc => ?_) (fun hc => ?_)
  · have hz := Z_neg (show ¬ (n32 l4_3 < 4) from (Int.not_lt.mpr hc)) hz
    refine R_sub [2, 3] rfl ?_
    exact hX_6 _ _ (hB_9 _ (Z_some hz))
  · have hz := Z_pos (show n32 l4_3 < 4 from (Int.not_le.mp hc)) hz
    refine R_iload_n (pc := 13) 2 (dc k_M_isOne 9 rfl) rfl rfl ?_
    obtain ⟨K_13, hK_14, hz⟩ := Z_cut hz
    have hJ_15 : ∀ (v_12 : Int), K_13 v_12 → Rr y_M_isOne (0, 0, n, n, E) (qP M K) 46 [(0, vR 81), (1, vI level), (3, vI l3_2), (4, vI l4_3)] [vI v_12] E n M := by
      intro v_12 hk
      have hz := hK_14 _ hk
      refine R_istore_n (pc := 46) (L' := [(2, vI v_12), (0, vR 81), (1, vI level), (3, vI l3_2), (4, vI l4_3)]) (dc k_M_isOne 30 rfl) rfl (lb rfl) rfl ?_
      refine R_iload_n (pc := 47) 3 (dc k_M_isOne 31 rfl) rfl rfl ?_
      obtain ⟨K_26, hK_27, hz⟩ := Z_cut hz
      have hJ_28 : ∀ (v_25 : Int), K_26 v_25 → Rr y_M_isOne (0, 0, n, n, E) (qP M K) 84 [(0, vR 81), (1, vI level), (2, vI v_12), (4, vI l4_3)] [vI v_25] E n M := by
        intro v_25 hk
        have hz := hK_27 _ hk
        refine R_istore_n (pc := 84) (L' := [(3, vI v_25), (0, vR 81), (1, vI level), (2, vI v_12), (4, vI l4_3)]) (dc k_M_isOne 54 rfl) rfl (lb rfl) rfl ?_
        obtain ⟨l4_38, hl4_38, hz⟩ := Z_lt hz
        refine R_iincE (pc := 85) (L' := [(4, vI l4_38), (3, vI v_25), (0, vR 81), (1, vI level), (2, vI v_12)]) 4 (dc k_M_isOne 55 rfl) rfl (lb rfl) hl4_38 rfl ?_
        refine R_goto (pc := 88) 7 (dc k_M_isOne 56 rfl) rfl ?_
        refine R_sub [2, 3, 4, 1, 0] rfl ?_
        exact hC_8 _ (Z_some hz)
      obtain ⟨K_29, hK_30, hz⟩ := Z_cut hz
      have hX_31 : K_29 true → Rr y_M_isOne (0, 0, n, n, E) (qP M K) 79 [(2, vI v_12), (0, vR 81), (1, vI level), (3, vI l3_2), (4, vI l4_3)] [] E n M := by
        intro hk
        have hz := Z_pos rfl (hK_30 _ hk)
        refine R_iconst (pc := 79) (a := 1) (dc k_M_isOne 51 rfl) ?_
        refine R_goto (pc := 80) 84 (dc k_M_isOne 52 rfl) rfl ?_
        refine R_sub [1, 2, 0, 4] rfl ?_
        exact hJ_28 _ (Z_some hz)
      have hY_32 : K_29 false → Rr y_M_isOne (0, 0, n, n, E) (qP M K) 83 [(2, vI v_12), (0, vR 81), (1, vI level), (3, vI l3_2), (4, vI l4_3)] [] E n M := by
        intro hk
        have hz := Z_neg Bool.false_ne_true (hK_30 _ hk)
        refine R_iconst (pc := 83) (a := 0) (dc k_M_isOne 53 rfl) ?_
        refine R_sub [1, 2, 0, 4] rfl ?_
        exact hJ_28 _ (Z_some hz)
      refine R_if_ne (pc := 48) 79 (dc k_M_isOne 32 rfl) rfl (fun hc => ?_) (fun hc => ?_)
      · have hz := Z_neg (show ¬ (n32 l3_2 = 0) from hc) hz
        exact hX_31 (Z_some hz)
      · have hz := Z_pos (show n32 l3_2 = 0 from (Decidable.not_not.mp hc)) hz
        refine R_aload_n (pc := 51) 1 (dc k_M_isOne 33 rfl) rfl rfl ?_
        refine R_getS (pc := 52) (ci := 10) (k := 64) 126 (dc k_M_isOne 34 rfl) fl_M_149 rfl (lb rfl) (Nat.le_trans (lb rfl) hn) (hE 81 (lb rfl) (lb rfl)) rfl (by decide) rfl ?_
        refine R_iconst (pc := 55) (a := 4) (dc k_M_isOne 35 rfl) ?_
        refine R_iload_n (pc := 56) 2 (dc k_M_isOne 36 rfl) rfl rfl ?_
        refine R_imul (pc := 57) (dc k_M_isOne 37 rfl) ?_
        refine R_iload (pc := 58) 4 (dc k_M_isOne 38 rfl) rfl ?_
        refine R_iadd (pc := 60) (dc k_M_isOne 39 rfl) ?_
        obtain ⟨⟨hg_34, hg_35⟩, hz⟩ := Z_chk hz
        refine R_lald (pc := 61) (dc k_M_isOne 40 rfl) rfl (lb rfl) (Nat.le_trans (lb rfl) hn) hg_34 hg_35 ?_
        refine R_aload_n (pc := 62) 1 (dc k_M_isOne 41 rfl) rfl rfl ?_
        refine R_getS (pc := 63) (ci := 10) (k := 66) 128 (dc k_M_isOne 42 rfl) fl_M_155 rfl (lb rfl) (Nat.le_trans (lb rfl) hn) (hE 81 (lb rfl) (lb rfl)) rfl (by decide) rfl ?_
        refine R_iload (pc := 66) 4 (dc k_M_isOne 43 rfl) rfl ?_
        obtain ⟨⟨hg_36, hg_37⟩, hz⟩ := Z_chk hz
        refine R_lald (pc := 68) (dc k_M_isOne 44 rfl) rfl (lb rfl) (Nat.le_trans (lb rfl) hn) hg_36 hg_37 ?_
        refine R_ldc2 (pc := 69) (a := (-1)) (dc k_M_isOne 45 rfl) c_M_514 ?_
        refine R_lxor (pc := 72) (dc k_M_isOne 46 rfl) ?_
        refine R_land (pc := 73) (dc k_M_isOne 47 rfl) ?_
        refine R_lconst (pc := 74) (a := 0) (dc k_M_isOne 48 rfl) (by decide) ?_
        refine R_lcmp (pc := 75) (dc k_M_isOne 49 rfl) ?_
        refine R_if_eq (pc := 76) 83 (dc k_M_isOne 50 rfl) rfl (fun hc => ?_) (fun hc => ?_)
        · have hz := Z_neg (show ¬ (¬ n64 (jand (M 126 (Int.toNat ((4 * level) + l4_3))) (jxor (M 128 (Int.toNat l4_3)) (-1))) = n64 0) from (fun z => z (jcmp_eq.mp hc))) hz
          exact hY_32 (Z_some hz)
        · have hz := Z_pos (show ¬ n64 (jand (M 126 (Int.toNat ((4 * level) + l4_3))) (jxor (M 128 (Int.toNat l4_3)) (-1))) = n64 0 from (fun z => hc (jcmp_eq.mpr z))) hz
          exact hX_31 (Z_some hz)
    obtain ⟨K_16, hK_17, hz⟩ := Z_cut hz
    have hX_18 : K_16 true → Rr y_M_isOne (0, 0, n, n, E) (qP M K) 41 [(0, vR 81), (1, vI level), (2, vI l2_1), (3, vI l3_2), (4, vI l4_3)] [] E n M := by
      intro hk
      have hz := Z_pos rfl (hK_17 _ hk)
      refine R_iconst (pc := 41) (a := 1) (dc k_M_isOne 27 rfl) ?_
      refine R_goto (pc := 42) 46 (dc k_M_isOne 28 rfl) rfl ?_
      refine R_sub [0, 1, 3, 4] rfl ?_
      exact hJ_15 _ (Z_some hz)
    have hY_19 : K_16 false → Rr y_M_isOne (0, 0, n, n, E) (qP M K) 45 [(0, vR 81), (1, vI level), (2, vI l2_1), (3, vI l3_2), (4, vI l4_3)] [] E n M := by
      intro hk
      have hz := Z_neg Bool.false_ne_true (hK_17 _ hk)
      refine R_iconst (pc := 45) (a := 0) (dc k_M_isOne 29 rfl) ?_
      refine R_sub [0, 1, 3, 4] rfl ?_
      exact hJ_15 _ (Z_some hz)
    refine R_if_ne (pc := 14) 41 (dc k_M_isOne 10 rfl) rfl (fun hc => ?_) (fun hc => ?_)
    · have hz := Z_neg (show ¬ (n32 l2_1 = 0) from hc) hz
      exact hX_18 (Z_some hz)
    · have hz := Z_pos (show n32 l2_1 = 0 from (Decidable.not_not.mp hc)) hz
      refine R_aload_n (pc := 17) 0 (dc k_M_isOne 11 rfl) rfl rfl ?_
      refine R_getS (pc := 18) (ci := 10) (k := 64) 126 (dc k_M_isOne 12 rfl) fl_M_149 rfl (lb rfl) (Nat.le_trans (lb rfl) hn) (hE 81 (lb rfl) (lb rfl)) rfl (by decide) rfl ?_
      refine R_iconst (pc := 21) (a := 4) (dc k_M_isOne 13 rfl) ?_
      refine R_iload_n (pc := 22) 1 (dc k_M_isOne 14 rfl) rfl rfl ?_
      refine R_imul (pc := 23) (dc k_M_isOne 15 rfl) ?_
      refine R_iload (pc := 24) 4 (dc k_M_isOne 16 rfl) rfl ?_
      refine R_iadd (pc := 26) (dc k_M_isOne 17 rfl) ?_
      obtain ⟨⟨hg_21, hg_22⟩, hz⟩ := Z_chk hz
      refine R_lald (pc := 27) (dc k_M_isOne 18 rfl) rfl (lb rfl) (Nat.le_trans (lb rfl) hn) hg_21 hg_22 ?_
      refine R_aload_n (pc := 28) 0 (dc k_M_isOne 19 rfl) rfl rfl ?_
      refine R_getS (pc := 29) (ci := 10) (k := 66) 128 (dc k_M_isOne 20 rfl) fl_M_155 rfl (lb rfl) (Nat.le_trans (lb rfl) hn) (hE 81 (lb rfl) (lb rfl)) rfl (by decide) rfl ?_
      refine R_iload (pc := 32) 4 (dc k_M_isOne 21 rfl) rfl ?_
      obtain ⟨⟨hg_23, hg_24⟩, hz⟩ := Z_chk hz
      refine R_lald (pc := 34) (dc k_M_isOne 22 rfl) rfl (lb rfl) (Nat.le_trans (lb rfl) hn) hg_23 hg_24 ?_
      refine R_land (pc := 35) (dc k_M_isOne 23 rfl) ?_
      refine R_lconst (pc := 36) (a := 0) (dc k_M_isOne 24 rfl) (by decide) ?_
      refine R_lcmp (pc := 37) (dc k_M_isOne 25 rfl) ?_
      refine R_if_eq (pc := 38) 45 (dc k_M_isOne 26 rfl) rfl (fun hc => ?_) (fun hc => ?_)
      · have hz := Z_neg (show ¬ (¬ n64 (jand (M 126 (Int.toNat ((4 * level) + l4_3))) (M 128 (Int.toNat l4_3))) = n64 0) from (fun z => z (jcmp_eq.mp hc))) hz
        exact hY_19 (Z_some hz)
      · have hz := Z_pos (show ¬ n64 (jand (M 126 (Int.toNat ((4 * level) + l4_3))) (M 128 (Int.toNat l4_3))) = n64 0 from (fun z => hc (jcmp_eq.mpr z))) hz
        exact hX_18 (Z_some hz)

set_option maxRecDepth 20000 in
theorem ct_M_splits {E : Nat → Bool} {n : Nat} (hE : ∀ c, 81 ≤ c → c ≤ 138 → E c = true) (hn : 138 ≤ n) {level : Int} {asked : Int} {M : Mem} {K : Int → Prop} (hz : Z (M_splits level asked M) K) : Mt y_M_splits (1, 20, n, n, E) E [vR 81, vI level, vI asked] M (qP M K) := by
  refine Mt.of (by decide) (lb rfl) (Nat.le_refl _) rfl ?_
  rw [M_splits] at hz
  show Rr y_M_splits (1, 20, n, n, E) (qP M K) 0 [(0, vR 81), (1, vI level), (2, vI asked)] [] E n M
  refine R_iload_n (pc := 0) 2 (dc k_M_splits 0 rfl) rfl rfl ?_
  refine R_bipush (pc := 1) (a := 12) (dc k_M_splits 1 rfl) (by decide) ?_
  refine R_irem (pc := 3) (dc k_M_splits 2 rfl) (by decide) ?_
  refine R_aload_n (pc := 4) 0 (dc k_M_splits 3 rfl) rfl rfl ?_
  refine R_cVP (pc := 5)  (As := []) (S := [vI (irem' asked 12)]) ck_M_415 (dc k_M_splits 4 rfl) ⟨rfl, ⟨_, rfl, rfl⟩, (lb rfl), (Nat.le_trans (lb rfl) hn)⟩ (lb rfl) (lb rfl) (lb rfl) rfl (ct_M_rowMany hE hn (Z_bind hz)) (fun r_1 hz => ?_)
  refine R_icmp_lt (pc := 8) 13 (dc k_M_splits 5 rfl) rfl (fun hc => ?_) (fun hc => ?_)
  · have hz := Z_neg (show ¬ (n32 r_1 ≤ n32 (irem' asked 12)) from (Int.not_le.mpr hc)) hz
    refine R_iconst (pc := 13) (a := 0) (dc k_M_splits 8 rfl) ?_
    refine R_istore_n (pc := 14) (L' := [(3, vI 0), (0, vR 81), (1, vI level), (2, vI asked)]) (dc k_M_splits 9 rfl) rfl (lb rfl) rfl ?_
    obtain ⟨K_3, hK_4, hz⟩ := Z_cut hz
    have hX_5 : K_3 (.inl ()) → Rr y_M_splits (1, 20, n, n, E) (qP M K) 100 [] [] E n M := by
      intro  hk
      have hz := hK_4 _ hk
      refine R_iconst (pc := 100) (a := 1) (dc k_M_splits 60 rfl) ?_
      exact R_zret (pc := 101) (dc k_M_splits 61 rfl) rfl (Or.inr rfl) rfl rfl ⟨_, rfl, rfl, (Z_some hz)⟩
    refine R_sub [1, 2, 3, 0] rfl ?_
    refine it_R (C := fun aZ : Int => Rr y_M_splits (1, 20, n, n, E) (qP M K) 15 [(0, vR 81), (1, vI level), (2, vI asked), (3, vI aZ)] [] E n M) (fun l3_2 K_6 hC_7 hB_8 hz => ?_) FUEL 0 hz
    rw [M_splits_b15] at hz
    show Rr y_M_splits (1, 20, n, n, E) (qP M K) 15 [(0, vR 81), (1, vI level), (2, vI asked), (3, vI l3_2)] [] E n M
    refine R_iload_n (pc := 15) 3 (dc k_M_splits 10 rfl) rfl rfl ?_
    refine R_iconst (pc := 16) (a := 3) (dc k_M_splits 11 rfl) ?_
    refine R_icmp_ge (pc := 17) 100 (dc k_M_splits 12 rfl) rfl (fun hc => ?_) (fun hc => ?_)
    · have hz := Z_neg (show ¬ (n32 l3_2 < 3) from (Int.not_lt.mpr hc)) hz
      refine R_sub [] rfl ?_
      exact hX_5 (hB_8 _ (Z_some hz))
    · have hz := Z_pos (show n32 l3_2 < 3 from (Int.not_le.mp hc)) hz
      refine R_iconst (pc := 20) (a := 1) (dc k_M_splits 13 rfl) ?_
      refine R_istore (pc := 21) (L' := [(4, vI 1), (0, vR 81), (1, vI level), (2, vI asked), (3, vI l3_2)]) (dc k_M_splits 14 rfl) (lb rfl) rfl ?_
      refine R_iconst (pc := 23) (a := 0) (dc k_M_splits 15 rfl) ?_
      refine R_istore (pc := 24) (L' := [(5, vI 0), (4, vI 1), (0, vR 81), (1, vI level), (2, vI asked), (3, vI l3_2)]) (dc k_M_splits 16 rfl) (lb rfl) rfl ?_
      obtain ⟨K_11, hK_12, hz⟩ := Z_cut hz
      have hX_13 : ∀ (l4_17 : Int), K_11 l4_17 → Rr y_M_splits (1, 20, n, n, E) (qP M K) 87 [(0, vR 81), (1, vI level), (2, vI asked), (3, vI l3_2), (4, vI l4_17)] [] E n M := by
        intro l4_17 hk
        have hz := hK_12 _ hk
        refine R_iload (pc := 87) 4 (dc k_M_splits 54 rfl) rfl ?_
        refine R_if_eq (pc := 89) 94 (dc k_M_splits 55 rfl) rfl (fun hc => ?_) (fun hc => ?_)
        · have hz := Z_neg (show ¬ (¬ n32 l4_17 = 0) from (fun z => z hc)) hz
          obtain ⟨l3_33, hl3_33, hz⟩ := Z_lt hz
          refine R_iincE (pc := 94) (L' := [(3, vI l3_33), (0, vR 81), (1, vI level), (2, vI asked), (4, vI l4_17)]) 3 (dc k_M_splits 58 rfl) rfl (lb rfl) hl3_33 rfl ?_
          refine R_goto (pc := 97) 15 (dc k_M_splits 59 rfl) rfl ?_
          refine R_sub [1, 2, 3, 0] rfl ?_
          exact hC_7 _ (Z_some hz)
        · have hz := Z_pos (show ¬ n32 l4_17 = 0 from hc) hz
          refine R_iconst (pc := 92) (a := 0) (dc k_M_splits 56 rfl) ?_
          exact R_zret (pc := 93) (dc k_M_splits 57 rfl) rfl (Or.inl rfl) rfl rfl ⟨_, rfl, rfl, (Z_some (hK_4 _ (hB_8 _ (Z_some hz))))⟩
      refine R_sub [2, 3, 4, 5, 1, 0] rfl ?_
      refine it_R (C := fun aZ : Int × Int => Rr y_M_splits (1, 20, n, n, E) (qP M K) 26 [(0, vR 81), (1, vI level), (2, vI asked), (3, vI l3_2), (4, vI aZ.1), (5, vI aZ.2)] [] E n M) (fun aZ K_14 hC_15 hB_16 hz => ?_) FUEL (1, 0) hz
      obtain ⟨l4_9, l5_10⟩ := aZ
      rw [M_splits_b26] at hz
      show Rr y_M_splits (1, 20, n, n, E) (qP M K) 26 [(0, vR 81), (1, vI level), (2, vI asked), (3, vI l3_2), (4, vI l4_9), (5, vI l5_10)] [] E n M
      refine R_iload (pc := 26) 5 (dc k_M_splits 17 rfl) rfl ?_
      refine R_iconst (pc := 28) (a := 4) (dc k_M_splits 18 rfl) ?_
      refine R_icmp_ge (pc := 29) 87 (dc k_M_splits 19 rfl) rfl (fun hc => ?_) (fun hc => ?_)
      · have hz := Z_neg (show ¬ (n32 l5_10 < 4) from (Int.not_lt.mpr hc)) hz
        refine R_sub [0, 1, 2, 3, 4] rfl ?_
        exact hX_13 _ (hB_16 _ (Z_some hz))
      · have hz := Z_pos (show n32 l5_10 < 4 from (Int.not_le.mp hc)) hz
        refine R_iload (pc := 32) 4 (dc k_M_splits 20 rfl) rfl ?_
        obtain ⟨K_19, hK_20, hz⟩ := Z_cut hz
        have hJ_21 : ∀ (v_18 : Int), K_19 v_18 → Rr y_M_splits (1, 20, n, n, E) (qP M K) 79 [(0, vR 81), (1, vI level), (2, vI asked), (3, vI l3_2), (5, vI l5_10)] [vI v_18] E n M := by
          intro v_18 hk
          have hz := hK_20 _ hk
          refine R_istore (pc := 79) (L' := [(4, vI v_18), (0, vR 81), (1, vI level), (2, vI asked), (3, vI l3_2), (5, vI l5_10)]) (dc k_M_splits 51 rfl) (lb rfl) rfl ?_
          obtain ⟨l5_31, hl5_31, hz⟩ := Z_lt hz
          refine R_iincE (pc := 81) (L' := [(5, vI l5_31), (4, vI v_18), (0, vR 81), (1, vI level), (2, vI asked), (3, vI l3_2)]) 5 (dc k_M_splits 52 rfl) rfl (lb rfl) hl5_31 rfl ?_
          refine R_goto (pc := 84) 26 (dc k_M_splits 53 rfl) rfl ?_
          refine R_sub [2, 3, 4, 5, 1, 0] rfl ?_
          exact hC_15 _ (Z_some hz)
        obtain ⟨K_22, hK_23, hz⟩ := Z_cut hz
        have hX_24 : K_22 true → Rr y_M_splits (1, 20, n, n, E) (qP M K) 74 [(0, vR 81), (1, vI level), (2, vI asked), (3, vI l3_2), (4, vI l4_9), (5, vI l5_10)] [] E n M := by
          intro hk
          have hz := Z_pos rfl (hK_23 _ hk)
          refine R_iconst (pc := 74) (a := 1) (dc k_M_splits 48 rfl) ?_
          refine R_goto (pc := 75) 79 (dc k_M_splits 49 rfl) rfl ?_
          refine R_sub [0, 1, 2, 3, 5] rfl ?_
          exact hJ_21 _ (Z_some hz)
        have hY_25 : K_22 false → Rr y_M_splits (1, 20, n, n, E) (qP M K) 78 [(0, vR 81), (1, vI level), (2, vI asked), (3, vI l3_2), (4, vI l4_9), (5, vI l5_10)] [] E n M := by
          intro hk
          have hz := Z_neg Bool.false_ne_true (hK_23 _ hk)
          refine R_iconst (pc := 78) (a := 0) (dc k_M_splits 50 rfl) ?_
          refine R_sub [0, 1, 2, 3, 5] rfl ?_
          exact hJ_21 _ (Z_some hz)
        refine R_if_eq (pc := 34) 78 (dc k_M_splits 21 rfl) rfl (fun hc => ?_) (fun hc => ?_)
        · have hz := Z_neg (show ¬ (¬ n32 l4_9 = 0) from (fun z => z hc)) hz
          exact hY_25 (Z_some hz)
        · have hz := Z_pos (show ¬ n32 l4_9 = 0 from hc) hz
          refine R_aload_n (pc := 37) 0 (dc k_M_splits 22 rfl) rfl rfl ?_
          refine R_getS (pc := 38) (ci := 10) (k := 64) 126 (dc k_M_splits 23 rfl) fl_M_149 rfl (lb rfl) (Nat.le_trans (lb rfl) hn) (hE 81 (lb rfl) (lb rfl)) rfl (by decide) rfl ?_
          refine R_iconst (pc := 41) (a := 4) (dc k_M_splits 24 rfl) ?_
          refine R_iload_n (pc := 42) 1 (dc k_M_splits 25 rfl) rfl rfl ?_
          refine R_imul (pc := 43) (dc k_M_splits 26 rfl) ?_
          refine R_iload (pc := 44) 5 (dc k_M_splits 27 rfl) rfl ?_
          refine R_iadd (pc := 46) (dc k_M_splits 28 rfl) ?_
          obtain ⟨⟨hg_27, hg_28⟩, hz⟩ := Z_chk hz
          refine R_lald (pc := 47) (dc k_M_splits 29 rfl) rfl (lb rfl) (Nat.le_trans (lb rfl) hn) hg_27 hg_28 ?_
          refine R_aload_n (pc := 48) 0 (dc k_M_splits 30 rfl) rfl rfl ?_
          refine R_getS (pc := 49) (ci := 10) (k := 65) 127 (dc k_M_splits 31 rfl) fl_M_152 rfl (lb rfl) (Nat.le_trans (lb rfl) hn) (hE 81 (lb rfl) (lb rfl)) rfl (by decide) rfl ?_
          refine R_bipush (pc := 52) (a := 12) (dc k_M_splits 32 rfl) (by decide) ?_
          refine R_iload_n (pc := 54) 2 (dc k_M_splits 33 rfl) rfl rfl ?_
          refine R_imul (pc := 55) (dc k_M_splits 34 rfl) ?_
          refine R_iconst (pc := 56) (a := 4) (dc k_M_splits 35 rfl) ?_
          refine R_iload_n (pc := 57) 3 (dc k_M_splits 36 rfl) rfl rfl ?_
          refine R_imul (pc := 58) (dc k_M_splits 37 rfl) ?_
          refine R_iadd (pc := 59) (dc k_M_splits 38 rfl) ?_
          refine R_iload (pc := 60) 5 (dc k_M_splits 39 rfl) rfl ?_
          refine R_iadd (pc := 62) (dc k_M_splits 40 rfl) ?_
          obtain ⟨⟨hg_29, hg_30⟩, hz⟩ := Z_chk hz
          refine R_lald (pc := 63) (dc k_M_splits 41 rfl) rfl (lb rfl) (Nat.le_trans (lb rfl) hn) hg_29 hg_30 ?_
          refine R_ldc2 (pc := 64) (a := (-1)) (dc k_M_splits 42 rfl) c_M_514 ?_
          refine R_lxor (pc := 67) (dc k_M_splits 43 rfl) ?_
          refine R_land (pc := 68) (dc k_M_splits 44 rfl) ?_
          refine R_lconst (pc := 69) (a := 0) (dc k_M_splits 45 rfl) (by decide) ?_
          refine R_lcmp (pc := 70) (dc k_M_splits 46 rfl) ?_
          refine R_if_ne (pc := 71) 78 (dc k_M_splits 47 rfl) rfl (fun hc => ?_) (fun hc => ?_)
          · have hz := Z_neg (show ¬ (n64 (jand (M 126 (Int.toNat ((4 * level) + l5_10))) (jxor (M 127 (Int.toNat (((12 * asked) + (4 * l3_2)) + l5_10))) (-1))) = n64 0) from (fun z => hc (jcmp_eq.mpr z))) hz
            exact hY_25 (Z_some hz)
          · have hz := Z_pos (show n64 (jand (M 126 (Int.toNat ((4 * level) + l5_10))) (jxor (M 127 (Int.toNat (((12 * asked) + (4 * l3_2)) + l5_10))) (-1))) = n64 0 from (jcmp_eq.mp (Decidable.not_not.mp hc))) hz
            exact hX_24 (Z_some hz)
  · have hz := Z_pos (show n32 r_1 ≤ n32 (irem' asked 12) from (Int.not_lt.mp hc)) hz
    refine R_iconst (pc := 11) (a := 0) (dc k_M_splits 6 rfl) ?_
    exact R_zret (pc := 12) (dc k_M_splits 7 rfl) rfl (Or.inl rfl) rfl rfl ⟨_, rfl, rfl, (Z_some hz)⟩

set_option maxRecDepth 20000 in
theorem ct_M_take {E : Nat → Bool} {n : Nat} (hE : ∀ c, 81 ≤ c → c ≤ 138 → E c = true) (hn : 138 ≤ n) {level : Int} {asked : Int} {a : Int} {M : Mem} {K : Mem → Prop} (hz : Z (M_take level asked a M) K) : Mt y_M_take (0, 0, n, n, E) E [vR 81, vI level, vI asked, vI a] M (qV K) := by
  refine Mt.of (by decide) (lb rfl) (Nat.le_refl _) rfl ?_
  rw [M_take] at hz
  show Rr y_M_take (0, 0, n, n, E) (qV K) 0 [(0, vR 81), (1, vI level), (2, vI asked), (3, vI a)] [] E n M
  refine R_iconst (pc := 0) (a := 0) (dc k_M_take 0 rfl) ?_
  refine R_istore (pc := 1) (L' := [(4, vI 0), (0, vR 81), (1, vI level), (2, vI asked), (3, vI a)]) (dc k_M_take 1 rfl) (lb rfl) rfl ?_
  obtain ⟨K_3, hK_4, hz⟩ := Z_cut hz
  have hX_5 : ∀ (M_9 : Mem), K_3 M_9 → Rr y_M_take (0, 0, n, n, E) (qV K) 56 [] [] E n M_9 := by
    intro M_9 hk
    have hz := hK_4 _ hk
    exact R_vret (pc := 56) (dc k_M_take 38 rfl) rfl rfl rfl ⟨rfl, (Z_some hz)⟩
  refine R_sub [1, 2, 3, 4, 0] rfl ?_
  refine it_R (C := fun aZ : Int × Mem => Rr y_M_take (0, 0, n, n, E) (qV K) 3 [(0, vR 81), (1, vI level), (2, vI asked), (3, vI a), (4, vI aZ.1)] [] E n aZ.2) (fun aZ K_6 hC_7 hB_8 hz => ?_) FUEL (0, M) hz
  obtain ⟨l4_1, M_2⟩ := aZ
  rw [M_take_b3] at hz
  show Rr y_M_take (0, 0, n, n, E) (qV K) 3 [(0, vR 81), (1, vI level), (2, vI asked), (3, vI a), (4, vI l4_1)] [] E n M_2
  refine R_iload (pc := 3) 4 (dc k_M_take 2 rfl) rfl ?_
  refine R_iconst (pc := 5) (a := 4) (dc k_M_take 3 rfl) ?_
  refine R_icmp_ge (pc := 6) 56 (dc k_M_take 4 rfl) rfl (fun hc => ?_) (fun hc => ?_)
  · have hz := Z_neg (show ¬ (n32 l4_1 < 4) from (Int.not_lt.mpr hc)) hz
    refine R_sub [] rfl ?_
    exact hX_5 _ (hB_8 _ (Z_some hz))
  · have hz := Z_pos (show n32 l4_1 < 4 from (Int.not_le.mp hc)) hz
    refine R_aload_n (pc := 9) 0 (dc k_M_take 5 rfl) rfl rfl ?_
    refine R_getS (pc := 10) (ci := 10) (k := 64) 126 (dc k_M_take 6 rfl) fl_M_149 rfl (lb rfl) (Nat.le_trans (lb rfl) hn) (hE 81 (lb rfl) (lb rfl)) rfl (by decide) rfl ?_
    refine R_iconst (pc := 13) (a := 4) (dc k_M_take 7 rfl) ?_
    refine R_iload_n (pc := 14) 1 (dc k_M_take 8 rfl) rfl rfl ?_
    refine R_imul (pc := 15) (dc k_M_take 9 rfl) ?_
    refine R_iconst (pc := 16) (a := 4) (dc k_M_take 10 rfl) ?_
    refine R_iadd (pc := 17) (dc k_M_take 11 rfl) ?_
    refine R_iload (pc := 18) 4 (dc k_M_take 12 rfl) rfl ?_
    refine R_iadd (pc := 20) (dc k_M_take 13 rfl) ?_
    refine R_aload_n (pc := 21) 0 (dc k_M_take 14 rfl) rfl rfl ?_
    refine R_getS (pc := 22) (ci := 10) (k := 64) 126 (dc k_M_take 15 rfl) fl_M_149 rfl (lb rfl) (Nat.le_trans (lb rfl) hn) (hE 81 (lb rfl) (lb rfl)) rfl (by decide) rfl ?_
    refine R_iconst (pc := 25) (a := 4) (dc k_M_take 16 rfl) ?_
    refine R_iload_n (pc := 26) 1 (dc k_M_take 17 rfl) rfl rfl ?_
    refine R_imul (pc := 27) (dc k_M_take 18 rfl) ?_
    refine R_iload (pc := 28) 4 (dc k_M_take 19 rfl) rfl ?_
    refine R_iadd (pc := 30) (dc k_M_take 20 rfl) ?_
    obtain ⟨⟨hg_10, hg_11⟩, hz⟩ := Z_chk hz
    refine R_lald (pc := 31) (dc k_M_take 21 rfl) rfl (lb rfl) (Nat.le_trans (lb rfl) hn) hg_10 hg_11 ?_
    refine R_aload_n (pc := 32) 0 (dc k_M_take 22 rfl) rfl rfl ?_
    refine R_getS (pc := 33) (ci := 10) (k := 65) 127 (dc k_M_take 23 rfl) fl_M_152 rfl (lb rfl) (Nat.le_trans (lb rfl) hn) (hE 81 (lb rfl) (lb rfl)) rfl (by decide) rfl ?_
    refine R_bipush (pc := 36) (a := 12) (dc k_M_take 24 rfl) (by decide) ?_
    refine R_iload_n (pc := 38) 2 (dc k_M_take 25 rfl) rfl rfl ?_
    refine R_imul (pc := 39) (dc k_M_take 26 rfl) ?_
    refine R_iconst (pc := 40) (a := 4) (dc k_M_take 27 rfl) ?_
    refine R_iload_n (pc := 41) 3 (dc k_M_take 28 rfl) rfl rfl ?_
    refine R_imul (pc := 42) (dc k_M_take 29 rfl) ?_
    refine R_iadd (pc := 43) (dc k_M_take 30 rfl) ?_
    refine R_iload (pc := 44) 4 (dc k_M_take 31 rfl) rfl ?_
    refine R_iadd (pc := 46) (dc k_M_take 32 rfl) ?_
    obtain ⟨⟨hg_12, hg_13⟩, hz⟩ := Z_chk hz
    refine R_lald (pc := 47) (dc k_M_take 33 rfl) rfl (lb rfl) (Nat.le_trans (lb rfl) hn) hg_12 hg_13 ?_
    refine R_land (pc := 48) (dc k_M_take 34 rfl) ?_
    obtain ⟨⟨hg_14, hg_15⟩, hz⟩ := Z_chk hz
    obtain ⟨M_16, hM_16, hz⟩ := Z_lt hz
    refine R_lastE (pc := 49) (dc k_M_take 35 rfl) rfl (lb rfl) (Nat.le_trans (lb rfl) hn) hg_14 hg_15 hM_16 ?_
    obtain ⟨l4_17, hl4_17, hz⟩ := Z_lt hz
    refine R_iincE (pc := 50) (L' := [(4, vI l4_17), (0, vR 81), (1, vI level), (2, vI asked), (3, vI a)]) 4 (dc k_M_take 36 rfl) rfl (lb rfl) hl4_17 rfl ?_
    refine R_goto (pc := 53) 3 (dc k_M_take 37 rfl) rfl ?_
    refine R_sub [1, 2, 3, 4, 0] rfl ?_
    exact hC_7 _ (Z_some hz)

set_option maxRecDepth 20000 in
theorem ct_M_byOne {E : Nat → Bool} {n : Nat} (hE : ∀ c, 81 ≤ c → c ≤ 138 → E c = true) (hn : 138 ≤ n) {level : Int} {M : Mem} {K : Int × Mem → Prop} (hz : Z (M_byOne level M) K) : Mt y_M_byOne (2, 45, n, n, E) E [vR 81, vI level] M (qM K) := by
  refine Mt.of (by decide) (lb rfl) (Nat.le_refl _) rfl ?_
  rw [M_byOne] at hz
  show Rr y_M_byOne (2, 45, n, n, E) (qM K) 0 [(0, vR 81), (1, vI level)] [] E n M
  refine R_aload_n (pc := 0) 0 (dc k_M_byOne 0 rfl) rfl rfl ?_
  refine R_iload_n (pc := 1) 1 (dc k_M_byOne 1 rfl) rfl rfl ?_
  refine R_cVP (pc := 2)  (As := [vI level]) (S := []) ck_M_516 (dc k_M_byOne 2 rfl) ⟨rfl, ⟨_, rfl, rfl⟩, (lb rfl), (Nat.le_trans (lb rfl) hn)⟩ (lb rfl) (lb rfl) (lb rfl) rfl (ct_M_isOne hE hn (Z_bind hz)) (fun r_1 hz => ?_)
  refine R_if_eq (pc := 5) 10 (dc k_M_byOne 3 rfl) rfl (fun hc => ?_) (fun hc => ?_)
  · have hz := Z_neg (show ¬ (¬ n32 r_1 = 0) from (fun z => z hc)) hz
    refine R_iconst (pc := 10) (a := 0) (dc k_M_byOne 6 rfl) ?_
    refine R_istore_n (pc := 11) (L' := [(2, vI 0), (0, vR 81), (1, vI level)]) (dc k_M_byOne 7 rfl) rfl (lb rfl) rfl ?_
    obtain ⟨K_4, hK_5, hz⟩ := Z_cut hz
    have hX_6 : ∀ (M_10 : Mem), K_4 (.inl M_10) → Rr y_M_byOne (2, 45, n, n, E) (qM K) 84 [] [] E n M_10 := by
      intro M_10 hk
      have hz := hK_5 _ hk
      refine R_iconst (pc := 84) (a := 0) (dc k_M_byOne 48 rfl) ?_
      exact R_zret (pc := 85) (dc k_M_byOne 49 rfl) rfl (Or.inl rfl) rfl rfl ⟨_, rfl, (Z_some hz)⟩
    refine R_sub [1, 2, 0] rfl ?_
    refine it_R (C := fun aZ : Int × Mem => Rr y_M_byOne (2, 45, n, n, E) (qM K) 12 [(0, vR 81), (1, vI level), (2, vI aZ.1)] [] E n aZ.2) (fun aZ K_7 hC_8 hB_9 hz => ?_) FUEL (0, M) hz
    obtain ⟨l2_2, M_3⟩ := aZ
    rw [M_byOne_b12] at hz
    show Rr y_M_byOne (2, 45, n, n, E) (qM K) 12 [(0, vR 81), (1, vI level), (2, vI l2_2)] [] E n M_3
    refine R_iload_n (pc := 12) 2 (dc k_M_byOne 8 rfl) rfl rfl ?_
    refine R_bipush (pc := 13) (a := 12) (dc k_M_byOne 9 rfl) (by decide) ?_
    refine R_aload_n (pc := 15) 0 (dc k_M_byOne 10 rfl) rfl rfl ?_
    refine R_cVP (pc := 16)  (As := []) (S := [vI 12, vI l2_2]) ck_M_421 (dc k_M_byOne 11 rfl) ⟨rfl, ⟨_, rfl, rfl⟩, (lb rfl), (Nat.le_trans (lb rfl) hn)⟩ (lb rfl) (lb rfl) (lb rfl) rfl (ct_M_personMany hE hn (Z_bind hz)) (fun r_11 hz => ?_)
    refine R_imul (pc := 19) (dc k_M_byOne 12 rfl) ?_
    refine R_icmp_ge (pc := 20) 84 (dc k_M_byOne 13 rfl) rfl (fun hc => ?_) (fun hc => ?_)
    · have hz := Z_neg (show ¬ (n32 l2_2 < n32 (12 * r_11)) from (Int.not_lt.mpr hc)) hz
      refine R_sub [] rfl ?_
      exact hX_6 _ (hB_9 _ (Z_some hz))
    · have hz := Z_pos (show n32 l2_2 < n32 (12 * r_11) from (Int.not_le.mp hc)) hz
      refine R_aload_n (pc := 23) 0 (dc k_M_byOne 14 rfl) rfl rfl ?_
      refine R_iload_n (pc := 24) 1 (dc k_M_byOne 15 rfl) rfl rfl ?_
      refine R_iload_n (pc := 25) 2 (dc k_M_byOne 16 rfl) rfl rfl ?_
      refine R_cVP (pc := 26)  (As := [vI level, vI l2_2]) (S := []) ck_M_519 (dc k_M_byOne 17 rfl) ⟨rfl, ⟨_, rfl, rfl⟩, (lb rfl), (Nat.le_trans (lb rfl) hn)⟩ (lb rfl) (lb rfl) (lb rfl) rfl (ct_M_splits hE hn (Z_bind hz)) (fun r_12 hz => ?_)
      obtain ⟨j_14, hj_15, hz⟩ := Z_jn hz
      have hJ_16 : ∀ (M_13 : Mem), Z (j_14 M_13) K_7 → Rr y_M_byOne (2, 45, n, n, E) (qM K) 78 [(0, vR 81), (1, vI level), (2, vI l2_2)] [] E n M_13 := by
        intro M_13 hk
        have hz := hj_15 _ hk
        obtain ⟨l2_39, hl2_39, hz⟩ := Z_lt hz
        refine R_iincE (pc := 78) (L' := [(2, vI l2_39), (0, vR 81), (1, vI level)]) 2 (dc k_M_byOne 46 rfl) rfl (lb rfl) hl2_39 rfl ?_
        refine R_goto (pc := 81) 12 (dc k_M_byOne 47 rfl) rfl ?_
        refine R_sub [1, 2, 0] rfl ?_
        exact hC_8 _ (Z_some hz)
      refine R_if_ne (pc := 29) 35 (dc k_M_byOne 18 rfl) rfl (fun hc => ?_) (fun hc => ?_)
      · have hz := Z_neg (show ¬ (n32 r_12 = 0) from hc) hz
        refine R_iconst (pc := 35) (a := 1) (dc k_M_byOne 20 rfl) ?_
        refine R_istore_n (pc := 36) (L' := [(3, vI 1), (0, vR 81), (1, vI level), (2, vI l2_2)]) (dc k_M_byOne 21 rfl) rfl (lb rfl) rfl ?_
        refine R_iconst (pc := 37) (a := 0) (dc k_M_byOne 22 rfl) ?_
        refine R_istore (pc := 38) (L' := [(4, vI 0), (3, vI 1), (0, vR 81), (1, vI level), (2, vI l2_2)]) (dc k_M_byOne 23 rfl) (lb rfl) rfl ?_
        obtain ⟨K_20, hK_21, hz⟩ := Z_cut hz
        have hX_22 : ∀ (l3_26 : Int) (M_27 : Mem), K_20 (l3_26, M_27) → Rr y_M_byOne (2, 45, n, n, E) (qM K) 72 [(0, vR 81), (1, vI level), (2, vI l2_2), (3, vI l3_26)] [] E n M_27 := by
          intro l3_26 M_27 hk
          have hz := hK_21 _ hk
          refine R_iload_n (pc := 72) 3 (dc k_M_byOne 42 rfl) rfl rfl ?_
          refine R_if_eq (pc := 73) 78 (dc k_M_byOne 43 rfl) rfl (fun hc => ?_) (fun hc => ?_)
          · have hz := Z_neg (show ¬ (¬ n32 l3_26 = 0) from (fun z => z hc)) hz
            refine R_sub [0, 1, 2] rfl ?_
            exact hJ_16 _ hz
          · have hz := Z_pos (show ¬ n32 l3_26 = 0 from hc) hz
            refine R_iconst (pc := 76) (a := 1) (dc k_M_byOne 44 rfl) ?_
            exact R_zret (pc := 77) (dc k_M_byOne 45 rfl) rfl (Or.inr rfl) rfl rfl ⟨_, rfl, (Z_some (hK_5 _ (hB_9 _ (Z_some hz))))⟩
        refine R_sub [2, 3, 4, 1, 0] rfl ?_
        refine it_R (C := fun aZ : Int × Int × Mem => Rr y_M_byOne (2, 45, n, n, E) (qM K) 40 [(0, vR 81), (1, vI level), (2, vI l2_2), (3, vI aZ.1), (4, vI aZ.2.1)] [] E n aZ.2.2) (fun aZ K_23 hC_24 hB_25 hz => ?_) FUEL (1, 0, M_3) hz
        obtain ⟨l3_17, l4_18, M_19⟩ := aZ
        rw [M_byOne_b40] at hz
        show Rr y_M_byOne (2, 45, n, n, E) (qM K) 40 [(0, vR 81), (1, vI level), (2, vI l2_2), (3, vI l3_17), (4, vI l4_18)] [] E n M_19
        refine R_iload (pc := 40) 4 (dc k_M_byOne 24 rfl) rfl ?_
        refine R_iconst (pc := 42) (a := 3) (dc k_M_byOne 25 rfl) ?_
        have hX_31 : ((n32 l4_18 < 3) ∧ (¬ n32 l3_17 = 0)) → Rr y_M_byOne (2, 45, n, n, E) (qM K) 50 [(0, vR 81), (1, vI level), (2, vI l2_2), (3, vI l3_17), (4, vI l4_18)] [] E n M_19 := by
          intro hc
          have hz := Z_pos hc hz
          refine R_aload_n (pc := 50) 0 (dc k_M_byOne 29 rfl) rfl rfl ?_
          refine R_iload_n (pc := 51) 1 (dc k_M_byOne 30 rfl) rfl rfl ?_
          refine R_iload_n (pc := 52) 2 (dc k_M_byOne 31 rfl) rfl rfl ?_
          refine R_iload (pc := 53) 4 (dc k_M_byOne 32 rfl) rfl ?_
          refine R_cVV (pc := 55)  (As := [vI level, vI l2_2, vI l4_18]) (S := []) ck_M_522 (dc k_M_byOne 33 rfl) ⟨rfl, ⟨_, rfl, rfl⟩, (lb rfl), (Nat.le_trans (lb rfl) hn)⟩ (lb rfl) (lb rfl) (lb rfl) rfl (ct_M_take hE hn (Z_bind hz)) (fun M_28 hz => ?_)
          refine R_aload_n (pc := 58) 0 (dc k_M_byOne 34 rfl) rfl rfl ?_
          refine R_iload_n (pc := 59) 1 (dc k_M_byOne 35 rfl) rfl rfl ?_
          refine R_iconst (pc := 60) (a := 1) (dc k_M_byOne 36 rfl) ?_
          refine R_iadd (pc := 61) (dc k_M_byOne 37 rfl) ?_
          refine R_cVP (pc := 62)  (As := [vI (level + 1)]) (S := []) ck_M_516 (dc k_M_byOne 38 rfl) ⟨rfl, ⟨_, rfl, rfl⟩, (lb rfl), (Nat.le_trans (lb rfl) hn)⟩ (lb rfl) (lb rfl) (lb rfl) rfl (ct_M_isOne hE hn (Z_bind hz)) (fun r_29 hz => ?_)
          refine R_istore_n (pc := 65) (L' := [(3, vI r_29), (0, vR 81), (1, vI level), (2, vI l2_2), (4, vI l4_18)]) (dc k_M_byOne 39 rfl) rfl (lb rfl) rfl ?_
          obtain ⟨l4_30, hl4_30, hz⟩ := Z_lt hz
          refine R_iincE (pc := 66) (L' := [(4, vI l4_30), (3, vI r_29), (0, vR 81), (1, vI level), (2, vI l2_2)]) 4 (dc k_M_byOne 40 rfl) rfl (lb rfl) hl4_30 rfl ?_
          refine R_goto (pc := 69) 40 (dc k_M_byOne 41 rfl) rfl ?_
          refine R_sub [2, 3, 4, 1, 0] rfl ?_
          exact hC_24 _ (Z_some hz)
        have hY_32 : ¬ ((n32 l4_18 < 3) ∧ (¬ n32 l3_17 = 0)) → Rr y_M_byOne (2, 45, n, n, E) (qM K) 72 [(0, vR 81), (1, vI level), (2, vI l2_2), (3, vI l3_17), (4, vI l4_18)] [] E n M_19 := by
          intro hc
          have hz := Z_neg hc hz
          refine R_sub [0, 1, 2, 3] rfl ?_
          exact hX_22 _ _ (hB_25 _ (Z_some hz))
        refine R_icmp_ge (pc := 43) 72 (dc k_M_byOne 26 rfl) rfl (fun hc => ?_) (fun hc => ?_)
        · have hc_33 : 3 ≤ n32 l4_18 := hc
          exact hY_32 (fun z => (Int.not_lt.mpr hc_33) z.1)
        · have hc_34 : n32 l4_18 < 3 := (Int.not_le.mp hc)
          refine R_iload_n (pc := 46) 3 (dc k_M_byOne 27 rfl) rfl rfl ?_
          refine R_if_eq (pc := 47) 72 (dc k_M_byOne 28 rfl) rfl (fun hc => ?_) (fun hc => ?_)
          · have hc_35 : n32 l3_17 = 0 := hc
            exact hY_32 (fun z => (fun z => z hc_35) z.2)
          · have hc_36 : ¬ n32 l3_17 = 0 := hc
            exact hX_31 ⟨hc_34, hc_36⟩
      · have hz := Z_pos (show n32 r_12 = 0 from (Decidable.not_not.mp hc)) hz
        refine R_goto (pc := 32) 78 (dc k_M_byOne 19 rfl) rfl ?_
        exact hJ_16 _ hz
  · have hz := Z_pos (show ¬ n32 r_1 = 0 from hc) hz
    refine R_iconst (pc := 8) (a := 1) (dc k_M_byOne 4 rfl) ?_
    exact R_zret (pc := 9) (dc k_M_byOne 5 rfl) rfl (Or.inr rfl) rfl rfl ⟨_, rfl, (Z_some hz)⟩

set_option maxRecDepth 20000 in
theorem ct_M_byTwo {E : Nat → Bool} {n : Nat} (hE : ∀ c, 81 ≤ c → c ≤ 138 → E c = true) (hn : 138 ≤ n) {level : Int} {M : Mem} {K : Int × Mem → Prop} (hz : Z (M_byTwo level M) K) : Mt y_M_byTwo (3, 69, n, n, E) E [vR 81, vI level] M (qM K) := by
  refine Mt.of (by decide) (lb rfl) (Nat.le_refl _) rfl ?_
  rw [M_byTwo] at hz
  show Rr y_M_byTwo (3, 69, n, n, E) (qM K) 0 [(0, vR 81), (1, vI level)] [] E n M
  refine R_aload_n (pc := 0) 0 (dc k_M_byTwo 0 rfl) rfl rfl ?_
  refine R_iload_n (pc := 1) 1 (dc k_M_byTwo 1 rfl) rfl rfl ?_
  refine R_cVM (pc := 2)  (As := [vI level]) (S := []) ck_M_525 (dc k_M_byTwo 2 rfl) ⟨rfl, ⟨_, rfl, rfl⟩, (lb rfl), (Nat.le_trans (lb rfl) hn)⟩ (lb rfl) (lb rfl) (lb rfl) rfl (ct_M_byOne hE hn (Z_bind hz)) (fun r_1 M_2 hz => ?_)
  refine R_if_eq (pc := 5) 10 (dc k_M_byTwo 3 rfl) rfl (fun hc => ?_) (fun hc => ?_)
  · have hz := Z_neg (show ¬ (¬ n32 r_1 = 0) from (fun z => z hc)) hz
    refine R_iconst (pc := 10) (a := 0) (dc k_M_byTwo 6 rfl) ?_
    refine R_istore_n (pc := 11) (L' := [(2, vI 0), (0, vR 81), (1, vI level)]) (dc k_M_byTwo 7 rfl) rfl (lb rfl) rfl ?_
    obtain ⟨K_5, hK_6, hz⟩ := Z_cut hz
    have hX_7 : ∀ (M_11 : Mem), K_5 (.inl M_11) → Rr y_M_byTwo (3, 69, n, n, E) (qM K) 84 [] [] E n M_11 := by
      intro M_11 hk
      have hz := hK_6 _ hk
      refine R_iconst (pc := 84) (a := 0) (dc k_M_byTwo 48 rfl) ?_
      exact R_zret (pc := 85) (dc k_M_byTwo 49 rfl) rfl (Or.inl rfl) rfl rfl ⟨_, rfl, (Z_some hz)⟩
    refine R_sub [1, 2, 0] rfl ?_
    refine it_R (C := fun aZ : Int × Mem => Rr y_M_byTwo (3, 69, n, n, E) (qM K) 12 [(0, vR 81), (1, vI level), (2, vI aZ.1)] [] E n aZ.2) (fun aZ K_8 hC_9 hB_10 hz => ?_) FUEL (0, M_2) hz
    obtain ⟨l2_3, M_4⟩ := aZ
    rw [M_byTwo_b12] at hz
    show Rr y_M_byTwo (3, 69, n, n, E) (qM K) 12 [(0, vR 81), (1, vI level), (2, vI l2_3)] [] E n M_4
    refine R_iload_n (pc := 12) 2 (dc k_M_byTwo 8 rfl) rfl rfl ?_
    refine R_bipush (pc := 13) (a := 12) (dc k_M_byTwo 9 rfl) (by decide) ?_
    refine R_aload_n (pc := 15) 0 (dc k_M_byTwo 10 rfl) rfl rfl ?_
    refine R_cVP (pc := 16)  (As := []) (S := [vI 12, vI l2_3]) ck_M_421 (dc k_M_byTwo 11 rfl) ⟨rfl, ⟨_, rfl, rfl⟩, (lb rfl), (Nat.le_trans (lb rfl) hn)⟩ (lb rfl) (lb rfl) (lb rfl) rfl (ct_M_personMany hE hn (Z_bind hz)) (fun r_12 hz => ?_)
    refine R_imul (pc := 19) (dc k_M_byTwo 12 rfl) ?_
    refine R_icmp_ge (pc := 20) 84 (dc k_M_byTwo 13 rfl) rfl (fun hc => ?_) (fun hc => ?_)
    · have hz := Z_neg (show ¬ (n32 l2_3 < n32 (12 * r_12)) from (Int.not_lt.mpr hc)) hz
      refine R_sub [] rfl ?_
      exact hX_7 _ (hB_10 _ (Z_some hz))
    · have hz := Z_pos (show n32 l2_3 < n32 (12 * r_12) from (Int.not_le.mp hc)) hz
      refine R_aload_n (pc := 23) 0 (dc k_M_byTwo 14 rfl) rfl rfl ?_
      refine R_iload_n (pc := 24) 1 (dc k_M_byTwo 15 rfl) rfl rfl ?_
      refine R_iload_n (pc := 25) 2 (dc k_M_byTwo 16 rfl) rfl rfl ?_
      refine R_cVP (pc := 26)  (As := [vI level, vI l2_3]) (S := []) ck_M_519 (dc k_M_byTwo 17 rfl) ⟨rfl, ⟨_, rfl, rfl⟩, (lb rfl), (Nat.le_trans (lb rfl) hn)⟩ (lb rfl) (lb rfl) (lb rfl) rfl (ct_M_splits hE hn (Z_bind hz)) (fun r_13 hz => ?_)
      obtain ⟨j_15, hj_16, hz⟩ := Z_jn hz
      have hJ_17 : ∀ (M_14 : Mem), Z (j_15 M_14) K_8 → Rr y_M_byTwo (3, 69, n, n, E) (qM K) 78 [(0, vR 81), (1, vI level), (2, vI l2_3)] [] E n M_14 := by
        intro M_14 hk
        have hz := hj_16 _ hk
        obtain ⟨l2_41, hl2_41, hz⟩ := Z_lt hz
        refine R_iincE (pc := 78) (L' := [(2, vI l2_41), (0, vR 81), (1, vI level)]) 2 (dc k_M_byTwo 46 rfl) rfl (lb rfl) hl2_41 rfl ?_
        refine R_goto (pc := 81) 12 (dc k_M_byTwo 47 rfl) rfl ?_
        refine R_sub [1, 2, 0] rfl ?_
        exact hC_9 _ (Z_some hz)
      refine R_if_ne (pc := 29) 35 (dc k_M_byTwo 18 rfl) rfl (fun hc => ?_) (fun hc => ?_)
      · have hz := Z_neg (show ¬ (n32 r_13 = 0) from hc) hz
        refine R_iconst (pc := 35) (a := 1) (dc k_M_byTwo 20 rfl) ?_
        refine R_istore_n (pc := 36) (L' := [(3, vI 1), (0, vR 81), (1, vI level), (2, vI l2_3)]) (dc k_M_byTwo 21 rfl) rfl (lb rfl) rfl ?_
        refine R_iconst (pc := 37) (a := 0) (dc k_M_byTwo 22 rfl) ?_
        refine R_istore (pc := 38) (L' := [(4, vI 0), (3, vI 1), (0, vR 81), (1, vI level), (2, vI l2_3)]) (dc k_M_byTwo 23 rfl) (lb rfl) rfl ?_
        obtain ⟨K_21, hK_22, hz⟩ := Z_cut hz
        have hX_23 : ∀ (l3_27 : Int) (M_28 : Mem), K_21 (l3_27, M_28) → Rr y_M_byTwo (3, 69, n, n, E) (qM K) 72 [(0, vR 81), (1, vI level), (2, vI l2_3), (3, vI l3_27)] [] E n M_28 := by
          intro l3_27 M_28 hk
          have hz := hK_22 _ hk
          refine R_iload_n (pc := 72) 3 (dc k_M_byTwo 42 rfl) rfl rfl ?_
          refine R_if_eq (pc := 73) 78 (dc k_M_byTwo 43 rfl) rfl (fun hc => ?_) (fun hc => ?_)
          · have hz := Z_neg (show ¬ (¬ n32 l3_27 = 0) from (fun z => z hc)) hz
            refine R_sub [0, 1, 2] rfl ?_
            exact hJ_17 _ hz
          · have hz := Z_pos (show ¬ n32 l3_27 = 0 from hc) hz
            refine R_iconst (pc := 76) (a := 1) (dc k_M_byTwo 44 rfl) ?_
            exact R_zret (pc := 77) (dc k_M_byTwo 45 rfl) rfl (Or.inr rfl) rfl rfl ⟨_, rfl, (Z_some (hK_6 _ (hB_10 _ (Z_some hz))))⟩
        refine R_sub [2, 3, 4, 1, 0] rfl ?_
        refine it_R (C := fun aZ : Int × Int × Mem => Rr y_M_byTwo (3, 69, n, n, E) (qM K) 40 [(0, vR 81), (1, vI level), (2, vI l2_3), (3, vI aZ.1), (4, vI aZ.2.1)] [] E n aZ.2.2) (fun aZ K_24 hC_25 hB_26 hz => ?_) FUEL (1, 0, M_4) hz
        obtain ⟨l3_18, l4_19, M_20⟩ := aZ
        rw [M_byTwo_b40] at hz
        show Rr y_M_byTwo (3, 69, n, n, E) (qM K) 40 [(0, vR 81), (1, vI level), (2, vI l2_3), (3, vI l3_18), (4, vI l4_19)] [] E n M_20
        refine R_iload (pc := 40) 4 (dc k_M_byTwo 24 rfl) rfl ?_
        refine R_iconst (pc := 42) (a := 3) (dc k_M_byTwo 25 rfl) ?_
        have hX_33 : ((n32 l4_19 < 3) ∧ (¬ n32 l3_18 = 0)) → Rr y_M_byTwo (3, 69, n, n, E) (qM K) 50 [(0, vR 81), (1, vI level), (2, vI l2_3), (3, vI l3_18), (4, vI l4_19)] [] E n M_20 := by
          intro hc
          have hz := Z_pos hc hz
          refine R_aload_n (pc := 50) 0 (dc k_M_byTwo 29 rfl) rfl rfl ?_
          refine R_iload_n (pc := 51) 1 (dc k_M_byTwo 30 rfl) rfl rfl ?_
          refine R_iload_n (pc := 52) 2 (dc k_M_byTwo 31 rfl) rfl rfl ?_
          refine R_iload (pc := 53) 4 (dc k_M_byTwo 32 rfl) rfl ?_
          refine R_cVV (pc := 55)  (As := [vI level, vI l2_3, vI l4_19]) (S := []) ck_M_522 (dc k_M_byTwo 33 rfl) ⟨rfl, ⟨_, rfl, rfl⟩, (lb rfl), (Nat.le_trans (lb rfl) hn)⟩ (lb rfl) (lb rfl) (lb rfl) rfl (ct_M_take hE hn (Z_bind hz)) (fun M_29 hz => ?_)
          refine R_aload_n (pc := 58) 0 (dc k_M_byTwo 34 rfl) rfl rfl ?_
          refine R_iload_n (pc := 59) 1 (dc k_M_byTwo 35 rfl) rfl rfl ?_
          refine R_iconst (pc := 60) (a := 1) (dc k_M_byTwo 36 rfl) ?_
          refine R_iadd (pc := 61) (dc k_M_byTwo 37 rfl) ?_
          refine R_cVM (pc := 62)  (As := [vI (level + 1)]) (S := []) ck_M_525 (dc k_M_byTwo 38 rfl) ⟨rfl, ⟨_, rfl, rfl⟩, (lb rfl), (Nat.le_trans (lb rfl) hn)⟩ (lb rfl) (lb rfl) (lb rfl) rfl (ct_M_byOne hE hn (Z_bind hz)) (fun r_30 M_31 hz => ?_)
          refine R_istore_n (pc := 65) (L' := [(3, vI r_30), (0, vR 81), (1, vI level), (2, vI l2_3), (4, vI l4_19)]) (dc k_M_byTwo 39 rfl) rfl (lb rfl) rfl ?_
          obtain ⟨l4_32, hl4_32, hz⟩ := Z_lt hz
          refine R_iincE (pc := 66) (L' := [(4, vI l4_32), (3, vI r_30), (0, vR 81), (1, vI level), (2, vI l2_3)]) 4 (dc k_M_byTwo 40 rfl) rfl (lb rfl) hl4_32 rfl ?_
          refine R_goto (pc := 69) 40 (dc k_M_byTwo 41 rfl) rfl ?_
          refine R_sub [2, 3, 4, 1, 0] rfl ?_
          exact hC_25 _ (Z_some hz)
        have hY_34 : ¬ ((n32 l4_19 < 3) ∧ (¬ n32 l3_18 = 0)) → Rr y_M_byTwo (3, 69, n, n, E) (qM K) 72 [(0, vR 81), (1, vI level), (2, vI l2_3), (3, vI l3_18), (4, vI l4_19)] [] E n M_20 := by
          intro hc
          have hz := Z_neg hc hz
          refine R_sub [0, 1, 2, 3] rfl ?_
          exact hX_23 _ _ (hB_26 _ (Z_some hz))
        refine R_icmp_ge (pc := 43) 72 (dc k_M_byTwo 26 rfl) rfl (fun hc => ?_) (fun hc => ?_)
        · have hc_35 : 3 ≤ n32 l4_19 := hc
          exact hY_34 (fun z => (Int.not_lt.mpr hc_35) z.1)
        · have hc_36 : n32 l4_19 < 3 := (Int.not_le.mp hc)
          refine R_iload_n (pc := 46) 3 (dc k_M_byTwo 27 rfl) rfl rfl ?_
          refine R_if_eq (pc := 47) 72 (dc k_M_byTwo 28 rfl) rfl (fun hc => ?_) (fun hc => ?_)
          · have hc_37 : n32 l3_18 = 0 := hc
            exact hY_34 (fun z => (fun z => z hc_37) z.2)
          · have hc_38 : ¬ n32 l3_18 = 0 := hc
            exact hX_33 ⟨hc_36, hc_38⟩
      · have hz := Z_pos (show n32 r_13 = 0 from (Decidable.not_not.mp hc)) hz
        refine R_goto (pc := 32) 78 (dc k_M_byTwo 19 rfl) rfl ?_
        exact hJ_17 _ hz
  · have hz := Z_pos (show ¬ n32 r_1 = 0 from hc) hz
    refine R_iconst (pc := 8) (a := 1) (dc k_M_byTwo 4 rfl) ?_
    exact R_zret (pc := 9) (dc k_M_byTwo 5 rfl) rfl (Or.inr rfl) rfl rfl ⟨_, rfl, (Z_some hz)⟩

set_option maxRecDepth 20000 in
theorem ct_M_askings {E : Nat → Bool} {n : Nat} (hE : ∀ c, 81 ≤ c → c ≤ 138 → E c = true) (hn : 138 ≤ n) {r : Int} {k : Int} {M : Mem} {K : Int × Mem → Prop} (hz : Z (M_askings r k M) K) : Mt y_M_askings (6, 144, n, n, E) E [vR 81, vI r, vI k] M (qM K) := by
  refine Mt.of (by decide) (lb rfl) (Nat.le_refl _) rfl ?_
  rw [M_askings] at hz
  show Rr y_M_askings (6, 144, n, n, E) (qM K) 0 [(0, vR 81), (1, vI r), (2, vI k)] [] E n M
  refine R_aload_n (pc := 0) 0 (dc k_M_askings 0 rfl) rfl rfl ?_
  refine R_iload_n (pc := 1) 1 (dc k_M_askings 1 rfl) rfl rfl ?_
  refine R_cVP (pc := 2)  (As := [vI r]) (S := []) ck_M_452 (dc k_M_askings 2 rfl) ⟨rfl, ⟨_, rfl, rfl⟩, (lb rfl), (Nat.le_trans (lb rfl) hn)⟩ (lb rfl) (lb rfl) (lb rfl) rfl (ct_M_isRow hE hn (Z_bind hz)) (fun r_1 hz => ?_)
  refine R_if_ne (pc := 5) 11 (dc k_M_askings 3 rfl) rfl (fun hc => ?_) (fun hc => ?_)
  · have hz := Z_neg (show ¬ (n32 r_1 = 0) from hc) hz
    refine R_aload_n (pc := 11) 0 (dc k_M_askings 6 rfl) rfl rfl ?_
    refine R_iload_n (pc := 12) 2 (dc k_M_askings 7 rfl) rfl rfl ?_
    refine R_cVV (pc := 13)  (As := [vI k]) (S := []) ck_M_502 (dc k_M_askings 8 rfl) ⟨rfl, ⟨_, rfl, rfl⟩, (lb rfl), (Nat.le_trans (lb rfl) hn)⟩ (lb rfl) (lb rfl) (lb rfl) rfl (ct_M_findLeft hE hn (Z_bind hz)) (fun M_2 hz => ?_)
    refine R_aload_n (pc := 16) 0 (dc k_M_askings 9 rfl) rfl rfl ?_
    refine R_getI (pc := 17) (ci := 10) (k := 60) (dc k_M_askings 10 rfl) fl_M_492 rfl (lb rfl) (Nat.le_trans (lb rfl) hn) rfl (Or.inl rfl) ?_
    refine R_if_ne (pc := 20) 26 (dc k_M_askings 11 rfl) rfl (fun hc => ?_) (fun hc => ?_)
    · have hz := Z_neg (show ¬ (n32 (M_2 81 60) = 0) from hc) hz
      refine R_aload_n (pc := 26) 0 (dc k_M_askings 14 rfl) rfl rfl ?_
      refine R_iload_n (pc := 27) 1 (dc k_M_askings 15 rfl) rfl rfl ?_
      refine R_cVV (pc := 28)  (As := [vI r]) (S := []) ck_M_528 (dc k_M_askings 16 rfl) ⟨rfl, ⟨_, rfl, rfl⟩, (lb rfl), (Nat.le_trans (lb rfl) hn)⟩ (lb rfl) (lb rfl) (lb rfl) rfl (ct_M_layHeard hE hn (Z_bind hz)) (fun M_3 hz => ?_)
      refine R_aload_n (pc := 31) 0 (dc k_M_askings 17 rfl) rfl rfl ?_
      refine R_iconst (pc := 32) (a := 0) (dc k_M_askings 18 rfl) ?_
      refine R_cVP (pc := 33)  (As := [vI 0]) (S := []) ck_M_516 (dc k_M_askings 19 rfl) ⟨rfl, ⟨_, rfl, rfl⟩, (lb rfl), (Nat.le_trans (lb rfl) hn)⟩ (lb rfl) (lb rfl) (lb rfl) rfl (ct_M_isOne hE hn (Z_bind hz)) (fun r_4 hz => ?_)
      refine R_if_eq (pc := 36) 43 (dc k_M_askings 20 rfl) rfl (fun hc => ?_) (fun hc => ?_)
      · have hz := Z_neg (show ¬ (¬ n32 r_4 = 0) from (fun z => z hc)) hz
        refine R_aload_n (pc := 43) 0 (dc k_M_askings 23 rfl) rfl rfl ?_
        refine R_iconst (pc := 44) (a := 0) (dc k_M_askings 24 rfl) ?_
        refine R_cVM (pc := 45)  (As := [vI 0]) (S := []) ck_M_525 (dc k_M_askings 25 rfl) ⟨rfl, ⟨_, rfl, rfl⟩, (lb rfl), (Nat.le_trans (lb rfl) hn)⟩ (lb rfl) (lb rfl) (lb rfl) rfl (ct_M_byOne hE hn (Z_bind hz)) (fun r_5 M_6 hz => ?_)
        refine R_if_eq (pc := 48) 55 (dc k_M_askings 26 rfl) rfl (fun hc => ?_) (fun hc => ?_)
        · have hz := Z_neg (show ¬ (¬ n32 r_5 = 0) from (fun z => z hc)) hz
          refine R_aload_n (pc := 55) 0 (dc k_M_askings 29 rfl) rfl rfl ?_
          refine R_iconst (pc := 56) (a := 0) (dc k_M_askings 30 rfl) ?_
          refine R_cVM (pc := 57)  (As := [vI 0]) (S := []) ck_M_531 (dc k_M_askings 31 rfl) ⟨rfl, ⟨_, rfl, rfl⟩, (lb rfl), (Nat.le_trans (lb rfl) hn)⟩ (lb rfl) (lb rfl) (lb rfl) rfl (ct_M_byTwo hE hn (Z_bind hz)) (fun r_7 M_8 hz => ?_)
          refine R_if_eq (pc := 60) 67 (dc k_M_askings 32 rfl) rfl (fun hc => ?_) (fun hc => ?_)
          · have hz := Z_neg (show ¬ (¬ n32 r_7 = 0) from (fun z => z hc)) hz
            refine R_iconst (pc := 67) (a := (-1)) (dc k_M_askings 35 rfl) ?_
            exact R_iret (pc := 68) (dc k_M_askings 36 rfl) rfl rfl rfl ⟨_, rfl, (Z_some hz)⟩
          · have hz := Z_pos (show ¬ n32 r_7 = 0 from hc) hz
            refine R_iconst (pc := 63) (a := 2) (dc k_M_askings 33 rfl) ?_
            refine R_goto (pc := 64) 68 (dc k_M_askings 34 rfl) rfl ?_
            exact R_iret (pc := 68) (dc k_M_askings 36 rfl) rfl rfl rfl ⟨_, rfl, (Z_some hz)⟩
        · have hz := Z_pos (show ¬ n32 r_5 = 0 from hc) hz
          refine R_iconst (pc := 51) (a := 1) (dc k_M_askings 27 rfl) ?_
          refine R_goto (pc := 52) 68 (dc k_M_askings 28 rfl) rfl ?_
          exact R_iret (pc := 68) (dc k_M_askings 36 rfl) rfl rfl rfl ⟨_, rfl, (Z_some hz)⟩
      · have hz := Z_pos (show ¬ n32 r_4 = 0 from hc) hz
        refine R_iconst (pc := 39) (a := 0) (dc k_M_askings 21 rfl) ?_
        refine R_goto (pc := 40) 68 (dc k_M_askings 22 rfl) rfl ?_
        exact R_iret (pc := 68) (dc k_M_askings 36 rfl) rfl rfl rfl ⟨_, rfl, (Z_some hz)⟩
    · have hz := Z_pos (show n32 (M_2 81 60) = 0 from (Decidable.not_not.mp hc)) hz
      refine R_bipush (pc := 23) (a := (-2)) (dc k_M_askings 12 rfl) (by decide) ?_
      exact R_iret (pc := 25) (dc k_M_askings 13 rfl) rfl rfl rfl ⟨_, rfl, (Z_some hz)⟩
  · have hz := Z_pos (show n32 r_1 = 0 from (Decidable.not_not.mp hc)) hz
    refine R_bipush (pc := 8) (a := (-2)) (dc k_M_askings 4 rfl) (by decide) ?_
    exact R_iret (pc := 10) (dc k_M_askings 5 rfl) rfl rfl rfl ⟨_, rfl, (Z_some hz)⟩

set_option maxRecDepth 20000 in
theorem ct_M_isLie {E : Nat → Bool} {n : Nat} (hE : ∀ c, 81 ≤ c → c ≤ 138 → E c = true) (hn : 138 ≤ n) {r : Int} {w : Int} {M : Mem} {K : Int → Prop} (hz : Z (M_isLie r w M) K) : Mt y_M_isLie (3, 61, n, n, E) E [vR 81, vI r, vI w] M (qP M K) := by
  refine Mt.of (by decide) (lb rfl) (Nat.le_refl _) rfl ?_
  rw [M_isLie] at hz
  show Rr y_M_isLie (3, 61, n, n, E) (qP M K) 0 [(0, vR 81), (1, vI r), (2, vI w)] [] E n M
  refine R_aload_n (pc := 0) 0 (dc k_M_isLie 0 rfl) rfl rfl ?_
  refine R_iload_n (pc := 1) 1 (dc k_M_isLie 1 rfl) rfl rfl ?_
  refine R_cVP (pc := 2)  (As := [vI r]) (S := []) ck_M_452 (dc k_M_isLie 2 rfl) ⟨rfl, ⟨_, rfl, rfl⟩, (lb rfl), (Nat.le_trans (lb rfl) hn)⟩ (lb rfl) (lb rfl) (lb rfl) rfl (ct_M_isRow hE hn (Z_bind hz)) (fun r_1 hz => ?_)
  obtain ⟨K_2, hK_3, hz⟩ := Z_cut hz
  have hX_4 : K_2 true → Rr y_M_isLie (3, 61, n, n, E) (qP M K) 29 [(0, vR 81), (1, vI r), (2, vI w)] [] E n M := by
    intro hk
    have hz := Z_pos rfl (hK_3 _ hk)
    refine R_iconst (pc := 29) (a := 1) (dc k_M_isLie 15 rfl) ?_
    refine R_goto (pc := 30) 34 (dc k_M_isLie 16 rfl) rfl ?_
    exact R_zret (pc := 34) (dc k_M_isLie 18 rfl) rfl (Or.inr rfl) rfl rfl ⟨_, rfl, rfl, (Z_some hz)⟩
  have hY_5 : K_2 false → Rr y_M_isLie (3, 61, n, n, E) (qP M K) 33 [(0, vR 81), (1, vI r), (2, vI w)] [] E n M := by
    intro hk
    have hz := Z_neg Bool.false_ne_true (hK_3 _ hk)
    refine R_iconst (pc := 33) (a := 0) (dc k_M_isLie 17 rfl) ?_
    exact R_zret (pc := 34) (dc k_M_isLie 18 rfl) rfl (Or.inl rfl) rfl rfl ⟨_, rfl, rfl, (Z_some hz)⟩
  refine R_if_eq (pc := 5) 33 (dc k_M_isLie 3 rfl) rfl (fun hc => ?_) (fun hc => ?_)
  · have hz := Z_neg (show ¬ (¬ n32 r_1 = 0) from (fun z => z hc)) hz
    exact hY_5 (Z_some hz)
  · have hz := Z_pos (show ¬ n32 r_1 = 0 from hc) hz
    refine R_aload_n (pc := 8) 0 (dc k_M_isLie 4 rfl) rfl rfl ?_
    refine R_iload_n (pc := 9) 2 (dc k_M_isLie 5 rfl) rfl rfl ?_
    refine R_cVP (pc := 10)  (As := [vI w]) (S := []) ck_M_455 (dc k_M_isLie 6 rfl) ⟨rfl, ⟨_, rfl, rfl⟩, (lb rfl), (Nat.le_trans (lb rfl) hn)⟩ (lb rfl) (lb rfl) (lb rfl) rfl (ct_M_isWorld hE hn (Z_bind hz)) (fun r_7 hz => ?_)
    refine R_if_eq (pc := 13) 33 (dc k_M_isLie 7 rfl) rfl (fun hc => ?_) (fun hc => ?_)
    · have hz := Z_neg (show ¬ (¬ n32 r_7 = 0) from (fun z => z hc)) hz
      exact hY_5 (Z_some hz)
    · have hz := Z_pos (show ¬ n32 r_7 = 0 from hc) hz
      refine R_aload_n (pc := 16) 0 (dc k_M_isLie 8 rfl) rfl rfl ?_
      refine R_getS (pc := 17) (ci := 10) (k := 47) 112 (dc k_M_isLie 9 rfl) fl_M_107 rfl (lb rfl) (Nat.le_trans (lb rfl) hn) (hE 81 (lb rfl) (lb rfl)) rfl (by decide) rfl ?_
      refine R_iload_n (pc := 20) 1 (dc k_M_isLie 10 rfl) rfl rfl ?_
      refine R_iload_n (pc := 21) 2 (dc k_M_isLie 11 rfl) rfl rfl ?_
      refine R_cSP (pc := 22)  (As := [vI r, vI w]) (S := [vR 112]) ck_M_430 (dc k_M_isLie 12 rfl) (lb rfl) (lb rfl) (lb rfl) rfl (ct_M_spot hE hn (Z_bind hz)) (fun r_8 hz => ?_)
      obtain ⟨⟨hg_9, hg_10⟩, hz⟩ := Z_chk hz
      refine R_zald (pc := 25) (dc k_M_isLie 13 rfl) rfl (lb rfl) (Nat.le_trans (lb rfl) hn) hg_9 hg_10 ?_
      refine R_if_ne (pc := 26) 33 (dc k_M_isLie 14 rfl) rfl (fun hc => ?_) (fun hc => ?_)
      · have hz := Z_neg (show ¬ (n32 (M 112 (Int.toNat r_8)) = 0) from hc) hz
        exact hY_5 (Z_some hz)
      · have hz := Z_pos (show n32 (M 112 (Int.toNat r_8)) = 0 from (Decidable.not_not.mp hc)) hz
        exact hX_4 (Z_some hz)

set_option maxRecDepth 20000 in
theorem ct_M_lastsOf {E : Nat → Bool} {n : Nat} (hE : ∀ c, 81 ≤ c → c ≤ 138 → E c = true) (hn : 138 ≤ n) {a : Int} {b : Int} {r : Int} {w : Int} {M : Mem} {K : Int → Prop} (hz : Z (M_lastsOf a b r w M) K) : Mt y_M_lastsOf (1, 23, n, n, E) E [vR 81, vI a, vI b, vI r, vI w] M (qP M K) := by
  refine Mt.of (by decide) (lb rfl) (Nat.le_refl _) rfl ?_
  rw [M_lastsOf] at hz
  show Rr y_M_lastsOf (1, 23, n, n, E) (qP M K) 0 [(0, vR 81), (1, vI a), (2, vI b), (3, vI r), (4, vI w)] [] E n M
  refine R_iconst (pc := 0) (a := 0) (dc k_M_lastsOf 0 rfl) ?_
  refine R_istore (pc := 1) (L' := [(5, vI 0), (0, vR 81), (1, vI a), (2, vI b), (3, vI r), (4, vI w)]) (dc k_M_lastsOf 1 rfl) (lb rfl) rfl ?_
  refine R_iconst (pc := 3) (a := 0) (dc k_M_lastsOf 2 rfl) ?_
  refine R_istore (pc := 4) (L' := [(6, vI 0), (5, vI 0), (0, vR 81), (1, vI a), (2, vI b), (3, vI r), (4, vI w)]) (dc k_M_lastsOf 3 rfl) (lb rfl) rfl ?_
  obtain ⟨K_3, hK_4, hz⟩ := Z_cut hz
  have hX_5 : ∀ (l5_9 : Int), K_3 l5_9 → Rr y_M_lastsOf (1, 23, n, n, E) (qP M K) 55 [(5, vI l5_9)] [] E n M := by
    intro l5_9 hk
    have hz := hK_4 _ hk
    refine R_iload (pc := 55) 0 (dc k_M_lastsOf 28 rfl) rfl ?_
    exact R_iret (pc := 57) (dc k_M_lastsOf 29 rfl) rfl rfl rfl ⟨_, rfl, rfl, (Z_some hz)⟩
  refine R_sub [2, 3, 4, 5, 6, 1, 0] rfl ?_
  refine it_R (C := fun aZ : Int × Int => Rr y_M_lastsOf (1, 23, n, n, E) (qP M K) 6 [(0, vR 81), (1, vI a), (2, vI b), (3, vI r), (4, vI w), (5, vI aZ.1), (6, vI aZ.2)] [] E n M) (fun aZ K_6 hC_7 hB_8 hz => ?_) FUEL (0, 0) hz
  obtain ⟨l5_1, l6_2⟩ := aZ
  rw [M_lastsOf_b6] at hz
  show Rr y_M_lastsOf (1, 23, n, n, E) (qP M K) 6 [(0, vR 81), (1, vI a), (2, vI b), (3, vI r), (4, vI w), (5, vI l5_1), (6, vI l6_2)] [] E n M
  refine R_iload (pc := 6) 6 (dc k_M_lastsOf 4 rfl) rfl ?_
  refine R_aload_n (pc := 8) 0 (dc k_M_lastsOf 5 rfl) rfl rfl ?_
  refine R_cVP (pc := 9)  (As := []) (S := [vI l6_2]) ck_M_421 (dc k_M_lastsOf 6 rfl) ⟨rfl, ⟨_, rfl, rfl⟩, (lb rfl), (Nat.le_trans (lb rfl) hn)⟩ (lb rfl) (lb rfl) (lb rfl) rfl (ct_M_personMany hE hn (Z_bind hz)) (fun r_10 hz => ?_)
  refine R_icmp_ge (pc := 12) 55 (dc k_M_lastsOf 7 rfl) rfl (fun hc => ?_) (fun hc => ?_)
  · have hz := Z_neg (show ¬ (n32 l6_2 < n32 r_10) from (Int.not_lt.mpr hc)) hz
    refine R_sub [5] rfl ?_
    exact hX_5 _ (hB_8 _ (Z_some hz))
  · have hz := Z_pos (show n32 l6_2 < n32 r_10 from (Int.not_le.mp hc)) hz
    refine R_iload (pc := 15) 5 (dc k_M_lastsOf 8 rfl) rfl ?_
    refine R_iload (pc := 17) 6 (dc k_M_lastsOf 9 rfl) rfl ?_
    refine R_iload_n (pc := 19) 1 (dc k_M_lastsOf 10 rfl) rfl rfl ?_
    obtain ⟨K_12, hK_13, hz⟩ := Z_cut hz
    have hJ_14 : ∀ (v_11 : Int), K_12 v_11 → Rr y_M_lastsOf (1, 23, n, n, E) (qP M K) 46 [(0, vR 81), (1, vI a), (2, vI b), (3, vI r), (4, vI w), (6, vI l6_2)] [vI v_11, vI l5_1] E n M := by
      intro v_11 hk
      have hz := hK_13 _ hk
      refine R_iadd (pc := 46) (dc k_M_lastsOf 24 rfl) ?_
      obtain ⟨l5_21, hl5_21, hz⟩ := Z_lt hz
      refine R_istoreE (pc := 47) (L' := [(5, vI l5_21), (0, vR 81), (1, vI a), (2, vI b), (3, vI r), (4, vI w), (6, vI l6_2)]) (dc k_M_lastsOf 25 rfl) (lb rfl) hl5_21 rfl ?_
      obtain ⟨l6_22, hl6_22, hz⟩ := Z_lt hz
      refine R_iincE (pc := 49) (L' := [(6, vI l6_22), (5, vI l5_21), (0, vR 81), (1, vI a), (2, vI b), (3, vI r), (4, vI w)]) 6 (dc k_M_lastsOf 26 rfl) rfl (lb rfl) hl6_22 rfl ?_
      refine R_goto (pc := 52) 6 (dc k_M_lastsOf 27 rfl) rfl ?_
      refine R_sub [2, 3, 4, 5, 6, 1, 0] rfl ?_
      exact hC_7 _ (Z_some hz)
    obtain ⟨K_15, hK_16, hz⟩ := Z_cut hz
    have hX_17 : K_15 true → Rr y_M_lastsOf (1, 23, n, n, E) (qP M K) 41 [(0, vR 81), (1, vI a), (2, vI b), (3, vI r), (4, vI w), (5, vI l5_1), (6, vI l6_2)] [vI l5_1] E n M := by
      intro hk
      have hz := Z_pos rfl (hK_16 _ hk)
      refine R_iconst (pc := 41) (a := 1) (dc k_M_lastsOf 21 rfl) ?_
      refine R_goto (pc := 42) 46 (dc k_M_lastsOf 22 rfl) rfl ?_
      refine R_sub [0, 1, 2, 3, 4, 6] rfl ?_
      exact hJ_14 _ (Z_some hz)
    have hY_18 : K_15 false → Rr y_M_lastsOf (1, 23, n, n, E) (qP M K) 45 [(0, vR 81), (1, vI a), (2, vI b), (3, vI r), (4, vI w), (5, vI l5_1), (6, vI l6_2)] [vI l5_1] E n M := by
      intro hk
      have hz := Z_neg Bool.false_ne_true (hK_16 _ hk)
      refine R_iconst (pc := 45) (a := 0) (dc k_M_lastsOf 23 rfl) ?_
      refine R_sub [0, 1, 2, 3, 4, 6] rfl ?_
      exact hJ_14 _ (Z_some hz)
    refine R_icmp_eq (pc := 20) 45 (dc k_M_lastsOf 11 rfl) rfl (fun hc => ?_) (fun hc => ?_)
    · have hz := Z_neg (show ¬ (¬ n32 l6_2 = n32 a) from (fun z => z hc)) hz
      exact hY_18 (Z_some hz)
    · have hz := Z_pos (show ¬ n32 l6_2 = n32 a from hc) hz
      refine R_iload (pc := 23) 6 (dc k_M_lastsOf 12 rfl) rfl ?_
      refine R_iload_n (pc := 25) 2 (dc k_M_lastsOf 13 rfl) rfl rfl ?_
      refine R_icmp_eq (pc := 26) 45 (dc k_M_lastsOf 14 rfl) rfl (fun hc => ?_) (fun hc => ?_)
      · have hz := Z_neg (show ¬ (¬ n32 l6_2 = n32 b) from (fun z => z hc)) hz
        exact hY_18 (Z_some hz)
      · have hz := Z_pos (show ¬ n32 l6_2 = n32 b from hc) hz
        refine R_aload_n (pc := 29) 0 (dc k_M_lastsOf 15 rfl) rfl rfl ?_
        refine R_iload (pc := 30) 6 (dc k_M_lastsOf 16 rfl) rfl ?_
        refine R_iload_n (pc := 32) 3 (dc k_M_lastsOf 17 rfl) rfl rfl ?_
        refine R_iload (pc := 33) 4 (dc k_M_lastsOf 18 rfl) rfl ?_
        refine R_cVP (pc := 35)  (As := [vI l6_2, vI r, vI w]) (S := [vI l5_1]) ck_M_461 (dc k_M_lastsOf 19 rfl) ⟨rfl, ⟨_, rfl, rfl⟩, (lb rfl), (Nat.le_trans (lb rfl) hn)⟩ (lb rfl) (lb rfl) (lb rfl) rfl (ct_M_answerAt hE hn (Z_bind hz)) (fun r_20 hz => ?_)
        refine R_if_eq (pc := 38) 45 (dc k_M_lastsOf 20 rfl) rfl (fun hc => ?_) (fun hc => ?_)
        · have hz := Z_neg (show ¬ (¬ n32 r_20 = 0) from (fun z => z hc)) hz
          exact hY_18 (Z_some hz)
        · have hz := Z_pos (show ¬ n32 r_20 = 0 from hc) hz
          exact hX_17 (Z_some hz)

set_option maxRecDepth 20000 in
theorem ct_M_lasts {E : Nat → Bool} {n : Nat} (hE : ∀ c, 81 ≤ c → c ≤ 138 → E c = true) (hn : 138 ≤ n) {a : Int} {b : Int} {r : Int} {w : Int} {M : Mem} {K : Int → Prop} (hz : Z (M_lasts a b r w M) K) : Mt y_M_lasts (4, 83, n, n, E) E [vR 81, vI a, vI b, vI r, vI w] M (qP M K) := by
  refine Mt.of (by decide) (lb rfl) (Nat.le_refl _) rfl ?_
  rw [M_lasts] at hz
  show Rr y_M_lasts (4, 83, n, n, E) (qP M K) 0 [(0, vR 81), (1, vI a), (2, vI b), (3, vI r), (4, vI w)] [] E n M
  refine R_aload_n (pc := 0) 0 (dc k_M_lasts 0 rfl) rfl rfl ?_
  refine R_iload_n (pc := 1) 1 (dc k_M_lasts 1 rfl) rfl rfl ?_
  refine R_cVP (pc := 2)  (As := [vI a]) (S := []) ck_M_458 (dc k_M_lasts 2 rfl) ⟨rfl, ⟨_, rfl, rfl⟩, (lb rfl), (Nat.le_trans (lb rfl) hn)⟩ (lb rfl) (lb rfl) (lb rfl) rfl (ct_M_isPerson hE hn (Z_bind hz)) (fun r_1 hz => ?_)
  obtain ⟨K_2, hK_3, hz⟩ := Z_cut hz
  have hX_4 : K_2 true → Rr y_M_lasts (4, 83, n, n, E) (qP M K) 31 [(0, vR 81), (1, vI a), (2, vI b), (3, vI r), (4, vI w)] [] E n M := by
    intro hk
    have hz := Z_pos rfl (hK_3 _ hk)
    refine R_aload_n (pc := 31) 0 (dc k_M_lasts 16 rfl) rfl rfl ?_
    refine R_iload_n (pc := 32) 1 (dc k_M_lasts 17 rfl) rfl rfl ?_
    refine R_iload_n (pc := 33) 2 (dc k_M_lasts 18 rfl) rfl rfl ?_
    refine R_iload_n (pc := 34) 3 (dc k_M_lasts 19 rfl) rfl rfl ?_
    refine R_iload (pc := 35) 4 (dc k_M_lasts 20 rfl) rfl ?_
    refine R_cVP (pc := 37)  (As := [vI a, vI b, vI r, vI w]) (S := []) ck_M_537 (dc k_M_lasts 21 rfl) ⟨rfl, ⟨_, rfl, rfl⟩, (lb rfl), (Nat.le_trans (lb rfl) hn)⟩ (lb rfl) (lb rfl) (lb rfl) rfl (ct_M_lastsOf hE hn (Z_bind hz)) (fun r_9 hz => ?_)
    refine R_goto (pc := 40) 44 (dc k_M_lasts 22 rfl) rfl ?_
    exact R_iret (pc := 44) (dc k_M_lasts 24 rfl) rfl rfl rfl ⟨_, rfl, rfl, (Z_some hz)⟩
  have hY_5 : K_2 false → Rr y_M_lasts (4, 83, n, n, E) (qP M K) 43 [(0, vR 81), (1, vI a), (2, vI b), (3, vI r), (4, vI w)] [] E n M := by
    intro hk
    have hz := Z_neg Bool.false_ne_true (hK_3 _ hk)
    refine R_iconst (pc := 43) (a := (-1)) (dc k_M_lasts 23 rfl) ?_
    exact R_iret (pc := 44) (dc k_M_lasts 24 rfl) rfl rfl rfl ⟨_, rfl, rfl, (Z_some hz)⟩
  refine R_if_eq (pc := 5) 43 (dc k_M_lasts 3 rfl) rfl (fun hc => ?_) (fun hc => ?_)
  · have hz := Z_neg (show ¬ (¬ n32 r_1 = 0) from (fun z => z hc)) hz
    exact hY_5 (Z_some hz)
  · have hz := Z_pos (show ¬ n32 r_1 = 0 from hc) hz
    refine R_aload_n (pc := 8) 0 (dc k_M_lasts 4 rfl) rfl rfl ?_
    refine R_iload_n (pc := 9) 2 (dc k_M_lasts 5 rfl) rfl rfl ?_
    refine R_cVP (pc := 10)  (As := [vI b]) (S := []) ck_M_458 (dc k_M_lasts 6 rfl) ⟨rfl, ⟨_, rfl, rfl⟩, (lb rfl), (Nat.le_trans (lb rfl) hn)⟩ (lb rfl) (lb rfl) (lb rfl) rfl (ct_M_isPerson hE hn (Z_bind hz)) (fun r_7 hz => ?_)
    refine R_if_eq (pc := 13) 43 (dc k_M_lasts 7 rfl) rfl (fun hc => ?_) (fun hc => ?_)
    · have hz := Z_neg (show ¬ (¬ n32 r_7 = 0) from (fun z => z hc)) hz
      exact hY_5 (Z_some hz)
    · have hz := Z_pos (show ¬ n32 r_7 = 0 from hc) hz
      refine R_iload_n (pc := 16) 1 (dc k_M_lasts 8 rfl) rfl rfl ?_
      refine R_iload_n (pc := 17) 2 (dc k_M_lasts 9 rfl) rfl rfl ?_
      refine R_icmp_eq (pc := 18) 43 (dc k_M_lasts 10 rfl) rfl (fun hc => ?_) (fun hc => ?_)
      · have hz := Z_neg (show ¬ (¬ n32 a = n32 b) from (fun z => z hc)) hz
        exact hY_5 (Z_some hz)
      · have hz := Z_pos (show ¬ n32 a = n32 b from hc) hz
        refine R_aload_n (pc := 21) 0 (dc k_M_lasts 11 rfl) rfl rfl ?_
        refine R_iload_n (pc := 22) 3 (dc k_M_lasts 12 rfl) rfl rfl ?_
        refine R_iload (pc := 23) 4 (dc k_M_lasts 13 rfl) rfl ?_
        refine R_cVP (pc := 25)  (As := [vI r, vI w]) (S := []) ck_M_534 (dc k_M_lasts 14 rfl) ⟨rfl, ⟨_, rfl, rfl⟩, (lb rfl), (Nat.le_trans (lb rfl) hn)⟩ (lb rfl) (lb rfl) (lb rfl) rfl (ct_M_isLie hE hn (Z_bind hz)) (fun r_8 hz => ?_)
        refine R_if_eq (pc := 28) 43 (dc k_M_lasts 15 rfl) rfl (fun hc => ?_) (fun hc => ?_)
        · have hz := Z_neg (show ¬ (¬ n32 r_8 = 0) from (fun z => z hc)) hz
          exact hY_5 (Z_some hz)
        · have hz := Z_pos (show ¬ n32 r_8 = 0 from hc) hz
          exact hX_4 (Z_some hz)

set_option maxRecDepth 20000 in
theorem ct_M_with {E : Nat → Bool} {n : Nat} (hE : ∀ c, 81 ≤ c → c ≤ 138 → E c = true) (hn : 138 ≤ n) {p : Int} {r : Int} {w : Int} {M : Mem} {K : Int → Prop} (hz : Z (M_with p r w M) K) : Mt y_M_with (4, 83, n, n, E) E [vR 81, vI p, vI r, vI w] M (qP M K) := by
  refine Mt.of (by decide) (lb rfl) (Nat.le_refl _) rfl ?_
  rw [M_with] at hz
  show Rr y_M_with (4, 83, n, n, E) (qP M K) 0 [(0, vR 81), (1, vI p), (2, vI r), (3, vI w)] [] E n M
  refine R_aload_n (pc := 0) 0 (dc k_M_with 0 rfl) rfl rfl ?_
  refine R_iload_n (pc := 1) 1 (dc k_M_with 1 rfl) rfl rfl ?_
  refine R_cVP (pc := 2)  (As := [vI p]) (S := []) ck_M_458 (dc k_M_with 2 rfl) ⟨rfl, ⟨_, rfl, rfl⟩, (lb rfl), (Nat.le_trans (lb rfl) hn)⟩ (lb rfl) (lb rfl) (lb rfl) rfl (ct_M_isPerson hE hn (Z_bind hz)) (fun r_1 hz => ?_)
  obtain ⟨K_2, hK_3, hz⟩ := Z_cut hz
  have hX_4 : K_2 true → Rr y_M_with (4, 83, n, n, E) (qP M K) 17 [(0, vR 81), (1, vI p), (2, vI r), (3, vI w)] [] E n M := by
    intro hk
    have hz := Z_pos rfl (hK_3 _ hk)
    refine R_iconst (pc := 17) (a := (-1)) (dc k_M_with 9 rfl) ?_
    exact R_iret (pc := 18) (dc k_M_with 10 rfl) rfl rfl rfl ⟨_, rfl, rfl, (Z_some hz)⟩
  have hY_5 : K_2 false → Rr y_M_with (4, 83, n, n, E) (qP M K) 19 [(0, vR 81), (1, vI p), (2, vI r), (3, vI w)] [] E n M := by
    intro hk
    have hz := Z_neg Bool.false_ne_true (hK_3 _ hk)
    refine R_iconst (pc := 19) (a := (-1)) (dc k_M_with 11 rfl) ?_
    refine R_istore (pc := 20) (L' := [(4, vI (-1)), (0, vR 81), (1, vI p), (2, vI r), (3, vI w)]) (dc k_M_with 12 rfl) (lb rfl) rfl ?_
    refine R_iconst (pc := 22) (a := 0) (dc k_M_with 13 rfl) ?_
    refine R_istore (pc := 23) (L' := [(5, vI 0), (4, vI (-1)), (0, vR 81), (1, vI p), (2, vI r), (3, vI w)]) (dc k_M_with 14 rfl) (lb rfl) rfl ?_
    refine R_iconst (pc := 25) (a := 0) (dc k_M_with 15 rfl) ?_
    refine R_istore (pc := 26) (L' := [(6, vI 0), (5, vI 0), (4, vI (-1)), (0, vR 81), (1, vI p), (2, vI r), (3, vI w)]) (dc k_M_with 16 rfl) (lb rfl) rfl ?_
    obtain ⟨K_11, hK_12, hz⟩ := Z_cut hz
    have hX_13 : ∀ (l4_17 : Int), K_11 l4_17 → Rr y_M_with (4, 83, n, n, E) (qP M K) 174 [(4, vI l4_17)] [] E n M := by
      intro l4_17 hk
      have hz := hK_12 _ hk
      refine R_iload (pc := 174) 0 (dc k_M_with 91 rfl) rfl ?_
      exact R_iret (pc := 176) (dc k_M_with 92 rfl) rfl rfl rfl ⟨_, rfl, rfl, (Z_some hz)⟩
    refine R_sub [3, 4, 5, 6, 2, 1, 0] rfl ?_
    refine it_R (C := fun aZ : Int × Int × Int => Rr y_M_with (4, 83, n, n, E) (qP M K) 28 [(0, vR 81), (1, vI p), (2, vI r), (3, vI w), (4, vI aZ.1), (5, vI aZ.2.1), (6, vI aZ.2.2)] [] E n M) (fun aZ K_14 hC_15 hB_16 hz => ?_) FUEL ((-1), 0, 0) hz
    obtain ⟨l4_8, l5_9, l6_10⟩ := aZ
    rw [M_with_b28] at hz
    show Rr y_M_with (4, 83, n, n, E) (qP M K) 28 [(0, vR 81), (1, vI p), (2, vI r), (3, vI w), (4, vI l4_8), (5, vI l5_9), (6, vI l6_10)] [] E n M
    refine R_iload (pc := 28) 6 (dc k_M_with 17 rfl) rfl ?_
    refine R_aload_n (pc := 30) 0 (dc k_M_with 18 rfl) rfl rfl ?_
    refine R_cVP (pc := 31)  (As := []) (S := [vI l6_10]) ck_M_421 (dc k_M_with 19 rfl) ⟨rfl, ⟨_, rfl, rfl⟩, (lb rfl), (Nat.le_trans (lb rfl) hn)⟩ (lb rfl) (lb rfl) (lb rfl) rfl (ct_M_personMany hE hn (Z_bind hz)) (fun r_18 hz => ?_)
    refine R_icmp_ge (pc := 34) 174 (dc k_M_with 20 rfl) rfl (fun hc => ?_) (fun hc => ?_)
    · have hz := Z_neg (show ¬ (n32 l6_10 < n32 r_18) from (Int.not_lt.mpr hc)) hz
      refine R_sub [4] rfl ?_
      exact hX_13 _ (hB_16 _ (Z_some hz))
    · have hz := Z_pos (show n32 l6_10 < n32 r_18 from (Int.not_le.mp hc)) hz
      refine R_bipush (pc := 37) (a := 12) (dc k_M_with 21 rfl) (by decide) ?_
      refine R_aload_n (pc := 39) 0 (dc k_M_with 22 rfl) rfl rfl ?_
      refine R_getI (pc := 40) (ci := 10) (k := 38) (dc k_M_with 23 rfl) fl_M_304 rfl (lb rfl) (Nat.le_trans (lb rfl) hn) rfl (Or.inl rfl) ?_
      refine R_imul (pc := 43) (dc k_M_with 24 rfl) ?_
      obtain ⟨l7_19, hl7_19, hz⟩ := Z_lt hz
      refine R_istoreE (pc := 44) (L' := [(7, vI l7_19), (0, vR 81), (1, vI p), (2, vI r), (3, vI w), (4, vI l4_8), (5, vI l5_9), (6, vI l6_10)]) (dc k_M_with 25 rfl) (lb rfl) hl7_19 rfl ?_
      obtain ⟨K_23, hK_24, hz⟩ := Z_cut hz
      have hX_25 : ∀ (l4_29 : Int) (l5_30 : Int), K_23 (l4_29, l5_30) → Rr y_M_with (4, 83, n, n, E) (qP M K) 168 [(0, vR 81), (1, vI p), (2, vI r), (3, vI w), (4, vI l4_29), (5, vI l5_30), (6, vI l6_10)] [] E n M := by
        intro l4_29 l5_30 hk
        have hz := hK_24 _ hk
        obtain ⟨l6_60, hl6_60, hz⟩ := Z_lt hz
        refine R_iincE (pc := 168) (L' := [(6, vI l6_60), (0, vR 81), (1, vI p), (2, vI r), (3, vI w), (4, vI l4_29), (5, vI l5_30)]) 6 (dc k_M_with 89 rfl) rfl (lb rfl) hl6_60 rfl ?_
        refine R_goto (pc := 171) 28 (dc k_M_with 90 rfl) rfl ?_
        refine R_sub [1, 2, 3, 4, 5, 6, 0] rfl ?_
        exact hC_15 _ (Z_some hz)
      refine R_sub [1, 2, 3, 4, 5, 6, 7, 0] rfl ?_
      refine it_R (C := fun aZ : Int × Int × Int => Rr y_M_with (4, 83, n, n, E) (qP M K) 46 [(0, vR 81), (1, vI p), (2, vI r), (3, vI w), (4, vI aZ.1), (5, vI aZ.2.1), (6, vI l6_10), (7, vI aZ.2.2)] [] E n M) (fun aZ K_26 hC_27 hB_28 hz => ?_) FUEL (l4_8, l5_9, l7_19) hz
      obtain ⟨l4_20, l5_21, l7_22⟩ := aZ
      rw [M_with_b46] at hz
      show Rr y_M_with (4, 83, n, n, E) (qP M K) 46 [(0, vR 81), (1, vI p), (2, vI r), (3, vI w), (4, vI l4_20), (5, vI l5_21), (6, vI l6_10), (7, vI l7_22)] [] E n M
      refine R_iload (pc := 46) 7 (dc k_M_with 26 rfl) rfl ?_
      refine R_bipush (pc := 48) (a := 12) (dc k_M_with 27 rfl) (by decide) ?_
      refine R_aload_n (pc := 50) 0 (dc k_M_with 28 rfl) rfl rfl ?_
      refine R_getI (pc := 51) (ci := 10) (k := 38) (dc k_M_with 29 rfl) fl_M_304 rfl (lb rfl) (Nat.le_trans (lb rfl) hn) rfl (Or.inl rfl) ?_
      refine R_imul (pc := 54) (dc k_M_with 30 rfl) ?_
      refine R_aload_n (pc := 55) 0 (dc k_M_with 31 rfl) rfl rfl ?_
      refine R_getS (pc := 56) (ci := 10) (k := 15) 88 (dc k_M_with 32 rfl) fl_M_33 rfl (lb rfl) (Nat.le_trans (lb rfl) hn) (hE 81 (lb rfl) (lb rfl)) rfl (by decide) rfl ?_
      refine R_aload_n (pc := 59) 0 (dc k_M_with 33 rfl) rfl rfl ?_
      refine R_getI (pc := 60) (ci := 10) (k := 38) (dc k_M_with 34 rfl) fl_M_304 rfl (lb rfl) (Nat.le_trans (lb rfl) hn) rfl (Or.inl rfl) ?_
      obtain ⟨⟨hg_31, hg_32⟩, hz⟩ := Z_chk hz
      refine R_iald (pc := 63) (dc k_M_with 35 rfl) rfl (lb rfl) (Nat.le_trans (lb rfl) hn) hg_31 hg_32 ?_
      refine R_iadd (pc := 64) (dc k_M_with 36 rfl) ?_
      refine R_icmp_ge (pc := 65) 168 (dc k_M_with 37 rfl) rfl (fun hc => ?_) (fun hc => ?_)
      · have hz := Z_neg (show ¬ (n32 l7_22 < n32 ((12 * (M 81 38)) + (M 88 (Int.toNat (M 81 38))))) from (Int.not_lt.mpr hc)) hz
        refine R_sub [0, 1, 2, 3, 4, 5, 6] rfl ?_
        exact hX_25 _ _ (hB_28 _ (Z_some hz))
      · have hz := Z_pos (show n32 l7_22 < n32 ((12 * (M 81 38)) + (M 88 (Int.toNat (M 81 38)))) from (Int.not_le.mp hc)) hz
        refine R_aload_n (pc := 68) 0 (dc k_M_with 38 rfl) rfl rfl ?_
        refine R_getS (pc := 69) (ci := 10) (k := 25) 98 (dc k_M_with 39 rfl) fl_M_65 rfl (lb rfl) (Nat.le_trans (lb rfl) hn) (hE 81 (lb rfl) (lb rfl)) rfl (by decide) rfl ?_
        refine R_iload (pc := 72) 7 (dc k_M_with 40 rfl) rfl ?_
        obtain ⟨⟨hg_33, hg_34⟩, hz⟩ := Z_chk hz
        refine R_iald (pc := 74) (dc k_M_with 41 rfl) rfl (lb rfl) (Nat.le_trans (lb rfl) hn) hg_33 hg_34 ?_
        refine R_iload_n (pc := 75) 1 (dc k_M_with 42 rfl) rfl rfl ?_
        obtain ⟨K_37, hK_38, hz⟩ := Z_cut hz
        have hJ_39 : ∀ (l4_35 : Int) (l5_36 : Int), K_37 (l4_35, l5_36) → Rr y_M_with (4, 83, n, n, E) (qP M K) 162 [(0, vR 81), (1, vI p), (2, vI r), (3, vI w), (4, vI l4_35), (5, vI l5_36), (6, vI l6_10), (7, vI l7_22)] [] E n M := by
          intro l4_35 l5_36 hk
          have hz := hK_38 _ hk
          obtain ⟨l7_58, hl7_58, hz⟩ := Z_lt hz
          refine R_iincE (pc := 162) (L' := [(7, vI l7_58), (0, vR 81), (1, vI p), (2, vI r), (3, vI w), (4, vI l4_35), (5, vI l5_36), (6, vI l6_10)]) 7 (dc k_M_with 87 rfl) rfl (lb rfl) hl7_58 rfl ?_
          refine R_goto (pc := 165) 46 (dc k_M_with 88 rfl) rfl ?_
          refine R_sub [1, 2, 3, 4, 5, 6, 7, 0] rfl ?_
          exact hC_27 _ (Z_some hz)
        obtain ⟨j_40, hj_41, hz⟩ := Z_jn hz
        have hJ_42 : Z (j_40 ()) K_37 → Rr y_M_with (4, 83, n, n, E) (qP M K) 117 [(0, vR 81), (1, vI p), (2, vI r), (3, vI w), (4, vI l4_20), (5, vI l5_21), (6, vI l6_10), (7, vI l7_22)] [] E n M := by
          intro  hk
          have hz := hj_41 _ hk
          refine R_bipush (pc := 117) (a := 10) (dc k_M_with 63 rfl) (by decide) ?_
          refine R_aload_n (pc := 119) 0 (dc k_M_with 64 rfl) rfl rfl ?_
          refine R_iload_n (pc := 120) 1 (dc k_M_with 65 rfl) rfl rfl ?_
          refine R_iload (pc := 121) 6 (dc k_M_with 66 rfl) rfl ?_
          refine R_iload_n (pc := 123) 2 (dc k_M_with 67 rfl) rfl rfl ?_
          refine R_iload_n (pc := 124) 3 (dc k_M_with 68 rfl) rfl rfl ?_
          refine R_cVP (pc := 125)  (As := [vI p, vI l6_10, vI r, vI w]) (S := [vI 10]) ck_M_537 (dc k_M_with 69 rfl) ⟨rfl, ⟨_, rfl, rfl⟩, (lb rfl), (Nat.le_trans (lb rfl) hn)⟩ (lb rfl) (lb rfl) (lb rfl) rfl (ct_M_lastsOf hE hn (Z_bind hz)) (fun r_50 hz => ?_)
          refine R_imul (pc := 128) (dc k_M_with 70 rfl) ?_
          refine R_aload_n (pc := 129) 0 (dc k_M_with 71 rfl) rfl rfl ?_
          refine R_getS (pc := 130) (ci := 10) (k := 27) 100 (dc k_M_with 72 rfl) fl_M_71 rfl (lb rfl) (Nat.le_trans (lb rfl) hn) (hE 81 (lb rfl) (lb rfl)) rfl (by decide) rfl ?_
          refine R_iload (pc := 133) 7 (dc k_M_with 73 rfl) rfl ?_
          refine R_iald (pc := 135) (dc k_M_with 74 rfl) rfl (lb rfl) (Nat.le_trans (lb rfl) hn) hg_33 hg_34 ?_
          refine R_isub (pc := 136) (dc k_M_with 75 rfl) ?_
          obtain ⟨l8_51, hl8_51, hz⟩ := Z_lt hz
          refine R_istoreE (pc := 137) (L' := [(8, vI l8_51), (0, vR 81), (1, vI p), (2, vI r), (3, vI w), (4, vI l4_20), (5, vI l5_21), (6, vI l6_10), (7, vI l7_22)]) (dc k_M_with 76 rfl) (lb rfl) hl8_51 rfl ?_
          refine R_iload (pc := 139) 5 (dc k_M_with 77 rfl) rfl ?_
          have hX_52 : ((0 ≤ n32 l4_20) ∧ (n32 l8_51 ≤ n32 l5_21)) → Rr y_M_with (4, 83, n, n, E) (qP M K) 151 [(8, vI l8_51), (0, vR 81), (1, vI p), (2, vI r), (3, vI w), (4, vI l4_20), (5, vI l5_21), (6, vI l6_10), (7, vI l7_22)] [] E n M := by
            intro hc
            have hz := Z_pos hc hz
            refine R_goto (pc := 151) 162 (dc k_M_with 82 rfl) rfl ?_
            refine R_sub [1, 2, 3, 4, 5, 6, 7, 8] rfl ?_
            exact hJ_39 _ _ (Z_some hz)
          have hY_53 : ¬ ((0 ≤ n32 l4_20) ∧ (n32 l8_51 ≤ n32 l5_21)) → Rr y_M_with (4, 83, n, n, E) (qP M K) 154 [(8, vI l8_51), (0, vR 81), (1, vI p), (2, vI r), (3, vI w), (4, vI l4_20), (5, vI l5_21), (6, vI l6_10), (7, vI l7_22)] [] E n M := by
            intro hc
            have hz := Z_neg hc hz
            refine R_iload (pc := 154) 7 (dc k_M_with 83 rfl) rfl ?_
            refine R_istore (pc := 156) (L' := [(4, vI l6_10), (8, vI l8_51), (0, vR 81), (1, vI p), (2, vI r), (3, vI w), (5, vI l5_21), (6, vI l6_10), (7, vI l7_22)]) (dc k_M_with 84 rfl) (lb rfl) rfl ?_
            refine R_iload (pc := 158) 1 (dc k_M_with 85 rfl) rfl ?_
            refine R_istore (pc := 160) (L' := [(5, vI l8_51), (4, vI l6_10), (8, vI l8_51), (0, vR 81), (1, vI p), (2, vI r), (3, vI w), (6, vI l6_10), (7, vI l7_22)]) (dc k_M_with 86 rfl) (lb rfl) rfl ?_
            refine R_sub [3, 4, 5, 6, 1, 0, 7, 8] rfl ?_
            exact hJ_39 _ _ (Z_some hz)
          refine R_if_lt (pc := 141) 154 (dc k_M_with 78 rfl) rfl (fun hc => ?_) (fun hc => ?_)
          · have hc_54 : n32 l4_20 < 0 := hc
            exact hY_53 (fun z => (Int.not_le.mpr hc_54) z.1)
          · have hc_55 : 0 ≤ n32 l4_20 := (Int.not_lt.mp hc)
            refine R_iload (pc := 144) 0 (dc k_M_with 79 rfl) rfl ?_
            refine R_iload (pc := 146) 6 (dc k_M_with 80 rfl) rfl ?_
            refine R_icmp_gt (pc := 148) 154 (dc k_M_with 81 rfl) rfl (fun hc => ?_) (fun hc => ?_)
            · have hc_56 : n32 l5_21 < n32 l8_51 := hc
              exact hY_53 (fun z => (Int.not_le.mpr hc_56) z.2)
            · have hc_57 : n32 l8_51 ≤ n32 l5_21 := (Int.not_lt.mp hc)
              exact hX_52 ⟨hc_55, hc_57⟩
        obtain ⟨K_43, hK_44, hz⟩ := Z_cut hz
        have hX_45 : K_43 true → Rr y_M_with (4, 83, n, n, E) (qP M K) 91 [(0, vR 81), (1, vI p), (2, vI r), (3, vI w), (4, vI l4_20), (5, vI l5_21), (6, vI l6_10), (7, vI l7_22)] [] E n M := by
          intro hk
          have hz := Z_pos rfl (hK_44 _ hk)
          refine R_aload_n (pc := 91) 0 (dc k_M_with 50 rfl) rfl rfl ?_
          refine R_getS (pc := 92) (ci := 10) (k := 25) 98 (dc k_M_with 51 rfl) fl_M_65 rfl (lb rfl) (Nat.le_trans (lb rfl) hn) (hE 81 (lb rfl) (lb rfl)) rfl (by decide) rfl ?_
          refine R_iload (pc := 95) 7 (dc k_M_with 52 rfl) rfl ?_
          refine R_iald (pc := 97) (dc k_M_with 53 rfl) rfl (lb rfl) (Nat.le_trans (lb rfl) hn) hg_33 hg_34 ?_
          refine R_iload (pc := 98) 6 (dc k_M_with 54 rfl) rfl ?_
          refine R_icmp_ne (pc := 100) 162 (dc k_M_with 55 rfl) rfl (fun hc => ?_) (fun hc => ?_)
          · have hz := Z_neg (show ¬ (n32 (M 98 (Int.toNat l7_22)) = n32 l6_10) from hc) hz
            exact hJ_39 _ _ (Z_some hz)
          · have hz := Z_pos (show n32 (M 98 (Int.toNat l7_22)) = n32 l6_10 from (Decidable.not_not.mp hc)) hz
            refine R_aload_n (pc := 103) 0 (dc k_M_with 56 rfl) rfl rfl ?_
            refine R_getS (pc := 104) (ci := 10) (k := 26) 99 (dc k_M_with 57 rfl) fl_M_68 rfl (lb rfl) (Nat.le_trans (lb rfl) hn) (hE 81 (lb rfl) (lb rfl)) rfl (by decide) rfl ?_
            refine R_iload (pc := 107) 7 (dc k_M_with 58 rfl) rfl ?_
            refine R_iald (pc := 109) (dc k_M_with 59 rfl) rfl (lb rfl) (Nat.le_trans (lb rfl) hn) hg_33 hg_34 ?_
            refine R_iload_n (pc := 110) 1 (dc k_M_with 60 rfl) rfl rfl ?_
            refine R_icmp_eq (pc := 111) 117 (dc k_M_with 61 rfl) rfl (fun hc => ?_) (fun hc => ?_)
            · have hz := Z_neg (show ¬ (¬ n32 (M 99 (Int.toNat l7_22)) = n32 p) from (fun z => z hc)) hz
              exact hJ_42 hz
            · have hz := Z_pos (show ¬ n32 (M 99 (Int.toNat l7_22)) = n32 p from hc) hz
              refine R_goto (pc := 114) 162 (dc k_M_with 62 rfl) rfl ?_
              exact hJ_39 _ _ (Z_some hz)
        have hY_46 : K_43 false → Rr y_M_with (4, 83, n, n, E) (qP M K) 117 [(0, vR 81), (1, vI p), (2, vI r), (3, vI w), (4, vI l4_20), (5, vI l5_21), (6, vI l6_10), (7, vI l7_22)] [] E n M := by
          intro hk
          have hz := Z_neg Bool.false_ne_true (hK_44 _ hk)
          exact hJ_42 hz
        refine R_icmp_ne (pc := 76) 91 (dc k_M_with 43 rfl) rfl (fun hc => ?_) (fun hc => ?_)
        · have hz := Z_neg (show ¬ (n32 (M 98 (Int.toNat l7_22)) = n32 p) from hc) hz
          exact hX_45 (Z_some hz)
        · have hz := Z_pos (show n32 (M 98 (Int.toNat l7_22)) = n32 p from (Decidable.not_not.mp hc)) hz
          refine R_aload_n (pc := 79) 0 (dc k_M_with 44 rfl) rfl rfl ?_
          refine R_getS (pc := 80) (ci := 10) (k := 26) 99 (dc k_M_with 45 rfl) fl_M_68 rfl (lb rfl) (Nat.le_trans (lb rfl) hn) (hE 81 (lb rfl) (lb rfl)) rfl (by decide) rfl ?_
          refine R_iload (pc := 83) 7 (dc k_M_with 46 rfl) rfl ?_
          refine R_iald (pc := 85) (dc k_M_with 47 rfl) rfl (lb rfl) (Nat.le_trans (lb rfl) hn) hg_33 hg_34 ?_
          refine R_iload (pc := 86) 6 (dc k_M_with 48 rfl) rfl ?_
          refine R_icmp_eq (pc := 88) 117 (dc k_M_with 49 rfl) rfl (fun hc => ?_) (fun hc => ?_)
          · have hz := Z_neg (show ¬ (¬ n32 (M 99 (Int.toNat l7_22)) = n32 l6_10) from (fun z => z hc)) hz
            exact hY_46 (Z_some hz)
          · have hz := Z_pos (show ¬ n32 (M 99 (Int.toNat l7_22)) = n32 l6_10 from hc) hz
            exact hX_45 (Z_some hz)
  refine R_if_eq (pc := 5) 17 (dc k_M_with 3 rfl) rfl (fun hc => ?_) (fun hc => ?_)
  · have hz := Z_neg (show ¬ (¬ n32 r_1 = 0) from (fun z => z hc)) hz
    exact hX_4 (Z_some hz)
  · have hz := Z_pos (show ¬ n32 r_1 = 0 from hc) hz
    refine R_aload_n (pc := 8) 0 (dc k_M_with 4 rfl) rfl rfl ?_
    refine R_iload_n (pc := 9) 2 (dc k_M_with 5 rfl) rfl rfl ?_
    refine R_iload_n (pc := 10) 3 (dc k_M_with 6 rfl) rfl rfl ?_
    refine R_cVP (pc := 11)  (As := [vI r, vI w]) (S := []) ck_M_534 (dc k_M_with 7 rfl) ⟨rfl, ⟨_, rfl, rfl⟩, (lb rfl), (Nat.le_trans (lb rfl) hn)⟩ (lb rfl) (lb rfl) (lb rfl) rfl (ct_M_isLie hE hn (Z_bind hz)) (fun r_7 hz => ?_)
    refine R_if_ne (pc := 14) 19 (dc k_M_with 8 rfl) rfl (fun hc => ?_) (fun hc => ?_)
    · have hz := Z_neg (show ¬ (n32 r_7 = 0) from hc) hz
      exact hY_5 (Z_some hz)
    · have hz := Z_pos (show n32 r_7 = 0 from (Decidable.not_not.mp hc)) hz
      exact hX_4 (Z_some hz)

set_option maxRecDepth 20000 in
theorem ct_M_areApart {E : Nat → Bool} {n : Nat} (hE : ∀ c, 81 ≤ c → c ≤ 138 → E c = true) (hn : 138 ≤ n) {set_ : Int} {M : Mem} {K : Int → Prop} (hz : Z (M_areApart set_ M) K) : Mt y_M_areApart (0, 0, n, n, E) E [vR 81, vI set_] M (qP M K) := by
  refine Mt.of (by decide) (lb rfl) (Nat.le_refl _) rfl ?_
  rw [M_areApart] at hz
  show Rr y_M_areApart (0, 0, n, n, E) (qP M K) 0 [(0, vR 81), (1, vI set_)] [] E n M
  refine R_iconst (pc := 0) (a := 0) (dc k_M_areApart 0 rfl) ?_
  refine R_istore_n (pc := 1) (L' := [(2, vI 0), (0, vR 81), (1, vI set_)]) (dc k_M_areApart 1 rfl) rfl (lb rfl) rfl ?_
  refine R_iconst (pc := 2) (a := 0) (dc k_M_areApart 2 rfl) ?_
  refine R_istore_n (pc := 3) (L' := [(3, vI 0), (2, vI 0), (0, vR 81), (1, vI set_)]) (dc k_M_areApart 3 rfl) rfl (lb rfl) rfl ?_
  obtain ⟨K_3, hK_4, hz⟩ := Z_cut hz
  have hX_5 : K_3 (.inl ()) → Rr y_M_areApart (0, 0, n, n, E) (qP M K) 83 [] [] E n M := by
    intro  hk
    have hz := hK_4 _ hk
    refine R_iconst (pc := 83) (a := 1) (dc k_M_areApart 54 rfl) ?_
    exact R_zret (pc := 84) (dc k_M_areApart 55 rfl) rfl (Or.inr rfl) rfl rfl ⟨_, rfl, rfl, (Z_some hz)⟩
  refine R_sub [2, 3, 1, 0] rfl ?_
  refine it_R (C := fun aZ : Int × Int => Rr y_M_areApart (0, 0, n, n, E) (qP M K) 4 [(0, vR 81), (1, vI set_), (2, vI aZ.1), (3, vI aZ.2)] [] E n M) (fun aZ K_6 hC_7 hB_8 hz => ?_) FUEL (0, 0) hz
  obtain ⟨l2_1, l3_2⟩ := aZ
  rw [M_areApart_b4] at hz
  show Rr y_M_areApart (0, 0, n, n, E) (qP M K) 4 [(0, vR 81), (1, vI set_), (2, vI l2_1), (3, vI l3_2)] [] E n M
  refine R_iload_n (pc := 4) 3 (dc k_M_areApart 4 rfl) rfl rfl ?_
  refine R_aload_n (pc := 5) 0 (dc k_M_areApart 5 rfl) rfl rfl ?_
  refine R_getS (pc := 6) (ci := 10) (k := 15) 88 (dc k_M_areApart 6 rfl) fl_M_33 rfl (lb rfl) (Nat.le_trans (lb rfl) hn) (hE 81 (lb rfl) (lb rfl)) rfl (by decide) rfl ?_
  refine R_aload_n (pc := 9) 0 (dc k_M_areApart 7 rfl) rfl rfl ?_
  refine R_getI (pc := 10) (ci := 10) (k := 38) (dc k_M_areApart 8 rfl) fl_M_304 rfl (lb rfl) (Nat.le_trans (lb rfl) hn) rfl (Or.inl rfl) ?_
  obtain ⟨⟨hg_9, hg_10⟩, hz⟩ := Z_chk hz
  refine R_iald (pc := 13) (dc k_M_areApart 9 rfl) rfl (lb rfl) (Nat.le_trans (lb rfl) hn) hg_9 hg_10 ?_
  refine R_icmp_ge (pc := 14) 83 (dc k_M_areApart 10 rfl) rfl (fun hc => ?_) (fun hc => ?_)
  · have hz := Z_neg (show ¬ (n32 l3_2 < n32 (M 88 (Int.toNat (M 81 38)))) from (Int.not_lt.mpr hc)) hz
    refine R_sub [] rfl ?_
    exact hX_5 (hB_8 _ (Z_some hz))
  · have hz := Z_pos (show n32 l3_2 < n32 (M 88 (Int.toNat (M 81 38))) from (Int.not_le.mp hc)) hz
    refine R_iload_n (pc := 17) 1 (dc k_M_areApart 11 rfl) rfl rfl ?_
    refine R_iload_n (pc := 18) 3 (dc k_M_areApart 12 rfl) rfl rfl ?_
    refine R_ishr (pc := 19) (dc k_M_areApart 13 rfl) ?_
    refine R_iconst (pc := 20) (a := 1) (dc k_M_areApart 14 rfl) ?_
    refine R_iand (pc := 21) (dc k_M_areApart 15 rfl) ?_
    obtain ⟨j_12, hj_13, hz⟩ := Z_jn hz
    have hJ_14 : ∀ (l2_11 : Int), Z (j_12 l2_11) K_6 → Rr y_M_areApart (0, 0, n, n, E) (qP M K) 77 [(0, vR 81), (1, vI set_), (2, vI l2_11), (3, vI l3_2)] [] E n M := by
      intro l2_11 hk
      have hz := hj_13 _ hk
      obtain ⟨l3_21, hl3_21, hz⟩ := Z_lt hz
      refine R_iincE (pc := 77) (L' := [(3, vI l3_21), (0, vR 81), (1, vI set_), (2, vI l2_11)]) 3 (dc k_M_areApart 52 rfl) rfl (lb rfl) hl3_21 rfl ?_
      refine R_goto (pc := 80) 4 (dc k_M_areApart 53 rfl) rfl ?_
      refine R_sub [1, 2, 3, 0] rfl ?_
      exact hC_7 _ (Z_some hz)
    refine R_if_ne (pc := 22) 28 (dc k_M_areApart 16 rfl) rfl (fun hc => ?_) (fun hc => ?_)
    · have hz := Z_neg (show ¬ (n32 (iand (ishr set_ l3_2) 1) = 0) from hc) hz
      refine R_iconst (pc := 28) (a := 1) (dc k_M_areApart 18 rfl) ?_
      refine R_aload_n (pc := 29) 0 (dc k_M_areApart 19 rfl) rfl rfl ?_
      refine R_getS (pc := 30) (ci := 10) (k := 25) 98 (dc k_M_areApart 20 rfl) fl_M_65 rfl (lb rfl) (Nat.le_trans (lb rfl) hn) (hE 81 (lb rfl) (lb rfl)) rfl (by decide) rfl ?_
      refine R_bipush (pc := 33) (a := 12) (dc k_M_areApart 21 rfl) (by decide) ?_
      refine R_aload_n (pc := 35) 0 (dc k_M_areApart 22 rfl) rfl rfl ?_
      refine R_getI (pc := 36) (ci := 10) (k := 38) (dc k_M_areApart 23 rfl) fl_M_304 rfl (lb rfl) (Nat.le_trans (lb rfl) hn) rfl (Or.inl rfl) ?_
      refine R_imul (pc := 39) (dc k_M_areApart 24 rfl) ?_
      refine R_iload_n (pc := 40) 3 (dc k_M_areApart 25 rfl) rfl rfl ?_
      refine R_iadd (pc := 41) (dc k_M_areApart 26 rfl) ?_
      obtain ⟨⟨hg_15, hg_16⟩, hz⟩ := Z_chk hz
      refine R_iald (pc := 42) (dc k_M_areApart 27 rfl) rfl (lb rfl) (Nat.le_trans (lb rfl) hn) hg_15 hg_16 ?_
      refine R_ishl (pc := 43) (dc k_M_areApart 28 rfl) ?_
      refine R_iconst (pc := 44) (a := 1) (dc k_M_areApart 29 rfl) ?_
      refine R_aload_n (pc := 45) 0 (dc k_M_areApart 30 rfl) rfl rfl ?_
      refine R_getS (pc := 46) (ci := 10) (k := 26) 99 (dc k_M_areApart 31 rfl) fl_M_68 rfl (lb rfl) (Nat.le_trans (lb rfl) hn) (hE 81 (lb rfl) (lb rfl)) rfl (by decide) rfl ?_
      refine R_bipush (pc := 49) (a := 12) (dc k_M_areApart 32 rfl) (by decide) ?_
      refine R_aload_n (pc := 51) 0 (dc k_M_areApart 33 rfl) rfl rfl ?_
      refine R_getI (pc := 52) (ci := 10) (k := 38) (dc k_M_areApart 34 rfl) fl_M_304 rfl (lb rfl) (Nat.le_trans (lb rfl) hn) rfl (Or.inl rfl) ?_
      refine R_imul (pc := 55) (dc k_M_areApart 35 rfl) ?_
      refine R_iload_n (pc := 56) 3 (dc k_M_areApart 36 rfl) rfl rfl ?_
      refine R_iadd (pc := 57) (dc k_M_areApart 37 rfl) ?_
      refine R_iald (pc := 58) (dc k_M_areApart 38 rfl) rfl (lb rfl) (Nat.le_trans (lb rfl) hn) hg_15 hg_16 ?_
      refine R_ishl (pc := 59) (dc k_M_areApart 39 rfl) ?_
      refine R_ior (pc := 60) (dc k_M_areApart 40 rfl) ?_
      obtain ⟨l4_17, hl4_17, hz⟩ := Z_lt hz
      refine R_istoreE (pc := 61) (L' := [(4, vI l4_17), (0, vR 81), (1, vI set_), (2, vI l2_1), (3, vI l3_2)]) (dc k_M_areApart 41 rfl) (lb rfl) hl4_17 rfl ?_
      refine R_iload_n (pc := 63) 3 (dc k_M_areApart 42 rfl) rfl rfl ?_
      refine R_iload (pc := 64) 0 (dc k_M_areApart 43 rfl) rfl ?_
      refine R_iand (pc := 66) (dc k_M_areApart 44 rfl) ?_
      refine R_if_eq (pc := 67) 72 (dc k_M_areApart 45 rfl) rfl (fun hc => ?_) (fun hc => ?_)
      · have hz := Z_neg (show ¬ (¬ n32 (iand l2_1 l4_17) = 0) from (fun z => z hc)) hz
        refine R_iload_n (pc := 72) 3 (dc k_M_areApart 48 rfl) rfl rfl ?_
        refine R_iload (pc := 73) 0 (dc k_M_areApart 49 rfl) rfl ?_
        refine R_ior (pc := 75) (dc k_M_areApart 50 rfl) ?_
        obtain ⟨l2_18, hl2_18, hz⟩ := Z_lt hz
        refine R_istore_nE (pc := 76) (L' := [(2, vI l2_18), (4, vI l4_17), (0, vR 81), (1, vI set_), (3, vI l3_2)]) (dc k_M_areApart 51 rfl) rfl (lb rfl) hl2_18 rfl ?_
        refine R_sub [2, 3, 0, 4] rfl ?_
        exact hJ_14 _ hz
      · have hz := Z_pos (show ¬ n32 (iand l2_1 l4_17) = 0 from hc) hz
        refine R_iconst (pc := 70) (a := 0) (dc k_M_areApart 46 rfl) ?_
        exact R_zret (pc := 71) (dc k_M_areApart 47 rfl) rfl (Or.inl rfl) rfl rfl ⟨_, rfl, rfl, (Z_some (hK_4 _ (hB_8 _ (Z_some hz))))⟩
    · have hz := Z_pos (show n32 (iand (ishr set_ l3_2) 1) = 0 from (Decidable.not_not.mp hc)) hz
      refine R_goto (pc := 25) 77 (dc k_M_areApart 17 rfl) rfl ?_
      exact hJ_14 _ hz

set_option maxRecDepth 20000 in
theorem ct_M_wished {E : Nat → Bool} {n : Nat} (hE : ∀ c, 81 ≤ c → c ≤ 138 → E c = true) (hn : 138 ≤ n) {p : Int} {r : Int} {M : Mem} {K : Int → Prop} (hz : Z (M_wished p r M) K) : Mt y_M_wished (0, 0, n, n, E) E [vR 81, vI p, vI r] M (qP M K) := by
  refine Mt.of (by decide) (lb rfl) (Nat.le_refl _) rfl ?_
  rw [M_wished] at hz
  show Rr y_M_wished (0, 0, n, n, E) (qP M K) 0 [(0, vR 81), (1, vI p), (2, vI r)] [] E n M
  refine R_bipush (pc := 0) (a := 12) (dc k_M_wished 0 rfl) (by decide) ?_
  refine R_aload_n (pc := 2) 0 (dc k_M_wished 1 rfl) rfl rfl ?_
  refine R_getI (pc := 3) (ci := 10) (k := 38) (dc k_M_wished 2 rfl) fl_M_304 rfl (lb rfl) (Nat.le_trans (lb rfl) hn) rfl (Or.inl rfl) ?_
  refine R_imul (pc := 6) (dc k_M_wished 3 rfl) ?_
  obtain ⟨l3_1, hl3_1, hz⟩ := Z_lt hz
  refine R_istore_nE (pc := 7) (L' := [(3, vI l3_1), (0, vR 81), (1, vI p), (2, vI r)]) (dc k_M_wished 4 rfl) rfl (lb rfl) hl3_1 rfl ?_
  obtain ⟨K_3, hK_4, hz⟩ := Z_cut hz
  have hX_5 : K_3 (.inl ()) → Rr y_M_wished (0, 0, n, n, E) (qP M K) 62 [] [] E n M := by
    intro  hk
    have hz := hK_4 _ hk
    refine R_iconst (pc := 62) (a := (-1)) (dc k_M_wished 36 rfl) ?_
    exact R_iret (pc := 63) (dc k_M_wished 37 rfl) rfl rfl rfl ⟨_, rfl, rfl, (Z_some hz)⟩
  refine R_sub [1, 2, 3, 0] rfl ?_
  refine it_R (C := fun aZ : Int => Rr y_M_wished (0, 0, n, n, E) (qP M K) 8 [(0, vR 81), (1, vI p), (2, vI r), (3, vI aZ)] [] E n M) (fun l3_2 K_6 hC_7 hB_8 hz => ?_) FUEL l3_1 hz
  rw [M_wished_b8] at hz
  show Rr y_M_wished (0, 0, n, n, E) (qP M K) 8 [(0, vR 81), (1, vI p), (2, vI r), (3, vI l3_2)] [] E n M
  refine R_iload_n (pc := 8) 3 (dc k_M_wished 5 rfl) rfl rfl ?_
  refine R_bipush (pc := 9) (a := 12) (dc k_M_wished 6 rfl) (by decide) ?_
  refine R_aload_n (pc := 11) 0 (dc k_M_wished 7 rfl) rfl rfl ?_
  refine R_getI (pc := 12) (ci := 10) (k := 38) (dc k_M_wished 8 rfl) fl_M_304 rfl (lb rfl) (Nat.le_trans (lb rfl) hn) rfl (Or.inl rfl) ?_
  refine R_imul (pc := 15) (dc k_M_wished 9 rfl) ?_
  refine R_aload_n (pc := 16) 0 (dc k_M_wished 10 rfl) rfl rfl ?_
  refine R_getS (pc := 17) (ci := 10) (k := 16) 89 (dc k_M_wished 11 rfl) fl_M_36 rfl (lb rfl) (Nat.le_trans (lb rfl) hn) (hE 81 (lb rfl) (lb rfl)) rfl (by decide) rfl ?_
  refine R_aload_n (pc := 20) 0 (dc k_M_wished 12 rfl) rfl rfl ?_
  refine R_getI (pc := 21) (ci := 10) (k := 38) (dc k_M_wished 13 rfl) fl_M_304 rfl (lb rfl) (Nat.le_trans (lb rfl) hn) rfl (Or.inl rfl) ?_
  obtain ⟨⟨hg_9, hg_10⟩, hz⟩ := Z_chk hz
  refine R_iald (pc := 24) (dc k_M_wished 14 rfl) rfl (lb rfl) (Nat.le_trans (lb rfl) hn) hg_9 hg_10 ?_
  refine R_iadd (pc := 25) (dc k_M_wished 15 rfl) ?_
  refine R_icmp_ge (pc := 26) 62 (dc k_M_wished 16 rfl) rfl (fun hc => ?_) (fun hc => ?_)
  · have hz := Z_neg (show ¬ (n32 l3_2 < n32 ((12 * (M 81 38)) + (M 89 (Int.toNat (M 81 38))))) from (Int.not_lt.mpr hc)) hz
    refine R_sub [] rfl ?_
    exact hX_5 (hB_8 _ (Z_some hz))
  · have hz := Z_pos (show n32 l3_2 < n32 ((12 * (M 81 38)) + (M 89 (Int.toNat (M 81 38)))) from (Int.not_le.mp hc)) hz
    refine R_aload_n (pc := 29) 0 (dc k_M_wished 17 rfl) rfl rfl ?_
    refine R_getS (pc := 30) (ci := 10) (k := 28) 101 (dc k_M_wished 18 rfl) fl_M_74 rfl (lb rfl) (Nat.le_trans (lb rfl) hn) (hE 81 (lb rfl) (lb rfl)) rfl (by decide) rfl ?_
    refine R_iload_n (pc := 33) 3 (dc k_M_wished 19 rfl) rfl rfl ?_
    obtain ⟨⟨hg_11, hg_12⟩, hz⟩ := Z_chk hz
    refine R_iald (pc := 34) (dc k_M_wished 20 rfl) rfl (lb rfl) (Nat.le_trans (lb rfl) hn) hg_11 hg_12 ?_
    refine R_iload_n (pc := 35) 1 (dc k_M_wished 21 rfl) rfl rfl ?_
    obtain ⟨K_13, hK_14, hz⟩ := Z_cut hz
    have hX_15 : K_13 true → Rr y_M_wished (0, 0, n, n, E) (qP M K) 49 [(0, vR 81), (1, vI p), (2, vI r), (3, vI l3_2)] [] E n M := by
      intro hk
      have hz := Z_pos rfl (hK_14 _ hk)
      refine R_aload_n (pc := 49) 0 (dc k_M_wished 29 rfl) rfl rfl ?_
      refine R_getS (pc := 50) (ci := 10) (k := 30) 103 (dc k_M_wished 30 rfl) fl_M_80 rfl (lb rfl) (Nat.le_trans (lb rfl) hn) (hE 81 (lb rfl) (lb rfl)) rfl (by decide) rfl ?_
      refine R_iload_n (pc := 53) 3 (dc k_M_wished 31 rfl) rfl rfl ?_
      refine R_iald (pc := 54) (dc k_M_wished 32 rfl) rfl (lb rfl) (Nat.le_trans (lb rfl) hn) hg_11 hg_12 ?_
      exact R_iret (pc := 55) (dc k_M_wished 33 rfl) rfl rfl rfl ⟨_, rfl, rfl, (Z_some (hK_4 _ (hB_8 _ (Z_some hz))))⟩
    have hY_16 : K_13 false → Rr y_M_wished (0, 0, n, n, E) (qP M K) 56 [(0, vR 81), (1, vI p), (2, vI r), (3, vI l3_2)] [] E n M := by
      intro hk
      have hz := Z_neg Bool.false_ne_true (hK_14 _ hk)
      obtain ⟨l3_18, hl3_18, hz⟩ := Z_lt hz
      refine R_iincE (pc := 56) (L' := [(3, vI l3_18), (0, vR 81), (1, vI p), (2, vI r)]) 3 (dc k_M_wished 34 rfl) rfl (lb rfl) hl3_18 rfl ?_
      refine R_goto (pc := 59) 8 (dc k_M_wished 35 rfl) rfl ?_
      refine R_sub [1, 2, 3, 0] rfl ?_
      exact hC_7 _ (Z_some hz)
    refine R_icmp_ne (pc := 36) 56 (dc k_M_wished 22 rfl) rfl (fun hc => ?_) (fun hc => ?_)
    · have hz := Z_neg (show ¬ (n32 (M 101 (Int.toNat l3_2)) = n32 p) from hc) hz
      exact hY_16 (Z_some hz)
    · have hz := Z_pos (show n32 (M 101 (Int.toNat l3_2)) = n32 p from (Decidable.not_not.mp hc)) hz
      refine R_aload_n (pc := 39) 0 (dc k_M_wished 23 rfl) rfl rfl ?_
      refine R_getS (pc := 40) (ci := 10) (k := 29) 102 (dc k_M_wished 24 rfl) fl_M_77 rfl (lb rfl) (Nat.le_trans (lb rfl) hn) (hE 81 (lb rfl) (lb rfl)) rfl (by decide) rfl ?_
      refine R_iload_n (pc := 43) 3 (dc k_M_wished 25 rfl) rfl rfl ?_
      refine R_iald (pc := 44) (dc k_M_wished 26 rfl) rfl (lb rfl) (Nat.le_trans (lb rfl) hn) hg_11 hg_12 ?_
      refine R_iload_n (pc := 45) 2 (dc k_M_wished 27 rfl) rfl rfl ?_
      refine R_icmp_ne (pc := 46) 56 (dc k_M_wished 28 rfl) rfl (fun hc => ?_) (fun hc => ?_)
      · have hz := Z_neg (show ¬ (n32 (M 102 (Int.toNat l3_2)) = n32 r) from hc) hz
        exact hY_16 (Z_some hz)
      · have hz := Z_pos (show n32 (M 102 (Int.toNat l3_2)) = n32 r from (Decidable.not_not.mp hc)) hz
        exact hX_15 (Z_some hz)

set_option maxRecDepth 20000 in
theorem ct_M_gainOf {E : Nat → Bool} {n : Nat} (hE : ∀ c, 81 ≤ c → c ≤ 138 → E c = true) (hn : 138 ≤ n) {t : Int} {w : Int} {M : Mem} {K : Int → Prop} (hz : Z (M_gainOf t w M) K) : Mt y_M_gainOf (1, 23, n, n, E) E [vR 81, vI t, vI w] M (qP M K) := by
  refine Mt.of (by decide) (lb rfl) (Nat.le_refl _) rfl ?_
  rw [M_gainOf] at hz
  show Rr y_M_gainOf (1, 23, n, n, E) (qP M K) 0 [(0, vR 81), (1, vI t), (2, vI w)] [] E n M
  refine R_iconst (pc := 0) (a := 0) (dc k_M_gainOf 0 rfl) ?_
  refine R_istore_n (pc := 1) (L' := [(3, vI 0), (0, vR 81), (1, vI t), (2, vI w)]) (dc k_M_gainOf 1 rfl) rfl (lb rfl) rfl ?_
  refine R_iconst (pc := 2) (a := 0) (dc k_M_gainOf 2 rfl) ?_
  refine R_istore (pc := 3) (L' := [(4, vI 0), (3, vI 0), (0, vR 81), (1, vI t), (2, vI w)]) (dc k_M_gainOf 3 rfl) (lb rfl) rfl ?_
  obtain ⟨K_3, hK_4, hz⟩ := Z_cut hz
  have hX_5 : ∀ (l3_9 : Int), K_3 l3_9 → Rr y_M_gainOf (1, 23, n, n, E) (qP M K) 87 [(0, vR 81), (1, vI t), (3, vI l3_9)] [] E n M := by
    intro l3_9 hk
    have hz := hK_4 _ hk
    refine R_iload_n (pc := 87) 2 (dc k_M_gainOf 46 rfl) rfl rfl ?_
    refine R_iconst (pc := 88) (a := 2) (dc k_M_gainOf 47 rfl) ?_
    refine R_aload_n (pc := 89) 0 (dc k_M_gainOf 48 rfl) rfl rfl ?_
    refine R_getS (pc := 90) (ci := 10) (k := 27) 100 (dc k_M_gainOf 49 rfl) fl_M_71 rfl (lb rfl) (Nat.le_trans (lb rfl) hn) (hE 81 (lb rfl) (lb rfl)) rfl (by decide) rfl ?_
    refine R_iload_n (pc := 93) 1 (dc k_M_gainOf 50 rfl) rfl rfl ?_
    obtain ⟨⟨hg_30, hg_31⟩, hz⟩ := Z_chk hz
    refine R_iald (pc := 94) (dc k_M_gainOf 51 rfl) rfl (lb rfl) (Nat.le_trans (lb rfl) hn) hg_30 hg_31 ?_
    refine R_imul (pc := 95) (dc k_M_gainOf 52 rfl) ?_
    refine R_isub (pc := 96) (dc k_M_gainOf 53 rfl) ?_
    exact R_iret (pc := 97) (dc k_M_gainOf 54 rfl) rfl rfl rfl ⟨_, rfl, rfl, (Z_some hz)⟩
  refine R_sub [2, 3, 4, 1, 0] rfl ?_
  refine it_R (C := fun aZ : Int × Int => Rr y_M_gainOf (1, 23, n, n, E) (qP M K) 5 [(0, vR 81), (1, vI t), (2, vI w), (3, vI aZ.1), (4, vI aZ.2)] [] E n M) (fun aZ K_6 hC_7 hB_8 hz => ?_) FUEL (0, 0) hz
  obtain ⟨l3_1, l4_2⟩ := aZ
  rw [M_gainOf_b5] at hz
  show Rr y_M_gainOf (1, 23, n, n, E) (qP M K) 5 [(0, vR 81), (1, vI t), (2, vI w), (3, vI l3_1), (4, vI l4_2)] [] E n M
  refine R_iload (pc := 5) 4 (dc k_M_gainOf 4 rfl) rfl ?_
  refine R_aload_n (pc := 7) 0 (dc k_M_gainOf 5 rfl) rfl rfl ?_
  refine R_cVP (pc := 8)  (As := []) (S := [vI l4_2]) ck_M_415 (dc k_M_gainOf 6 rfl) ⟨rfl, ⟨_, rfl, rfl⟩, (lb rfl), (Nat.le_trans (lb rfl) hn)⟩ (lb rfl) (lb rfl) (lb rfl) rfl (ct_M_rowMany hE hn (Z_bind hz)) (fun r_10 hz => ?_)
  refine R_icmp_ge (pc := 11) 87 (dc k_M_gainOf 7 rfl) rfl (fun hc => ?_) (fun hc => ?_)
  · have hz := Z_neg (show ¬ (n32 l4_2 < n32 r_10) from (Int.not_lt.mpr hc)) hz
    refine R_sub [0, 1, 3] rfl ?_
    exact hX_5 _ (hB_8 _ (Z_some hz))
  · have hz := Z_pos (show n32 l4_2 < n32 r_10 from (Int.not_le.mp hc)) hz
    refine R_aload_n (pc := 14) 0 (dc k_M_gainOf 8 rfl) rfl rfl ?_
    refine R_aload_n (pc := 15) 0 (dc k_M_gainOf 9 rfl) rfl rfl ?_
    refine R_getS (pc := 16) (ci := 10) (k := 25) 98 (dc k_M_gainOf 10 rfl) fl_M_65 rfl (lb rfl) (Nat.le_trans (lb rfl) hn) (hE 81 (lb rfl) (lb rfl)) rfl (by decide) rfl ?_
    refine R_iload_n (pc := 19) 1 (dc k_M_gainOf 11 rfl) rfl rfl ?_
    obtain ⟨⟨hg_11, hg_12⟩, hz⟩ := Z_chk hz
    refine R_iald (pc := 20) (dc k_M_gainOf 12 rfl) rfl (lb rfl) (Nat.le_trans (lb rfl) hn) hg_11 hg_12 ?_
    refine R_iload (pc := 21) 4 (dc k_M_gainOf 13 rfl) rfl ?_
    refine R_cVP (pc := 23)  (As := [vI (M 98 (Int.toNat t)), vI l4_2]) (S := []) ck_M_541 (dc k_M_gainOf 14 rfl) ⟨rfl, ⟨_, rfl, rfl⟩, (lb rfl), (Nat.le_trans (lb rfl) hn)⟩ (lb rfl) (lb rfl) (lb rfl) rfl (ct_M_wished hE hn (Z_bind hz)) (fun r_13 hz => ?_)
    refine R_istore (pc := 26) (L' := [(5, vI r_13), (0, vR 81), (1, vI t), (2, vI w), (3, vI l3_1), (4, vI l4_2)]) (dc k_M_gainOf 15 rfl) (lb rfl) rfl ?_
    refine R_aload_n (pc := 28) 1 (dc k_M_gainOf 16 rfl) rfl rfl ?_
    refine R_aload_n (pc := 29) 1 (dc k_M_gainOf 17 rfl) rfl rfl ?_
    refine R_getS (pc := 30) (ci := 10) (k := 26) 99 (dc k_M_gainOf 18 rfl) fl_M_68 rfl (lb rfl) (Nat.le_trans (lb rfl) hn) (hE 81 (lb rfl) (lb rfl)) rfl (by decide) rfl ?_
    refine R_iload_n (pc := 33) 2 (dc k_M_gainOf 19 rfl) rfl rfl ?_
    refine R_iald (pc := 34) (dc k_M_gainOf 20 rfl) rfl (lb rfl) (Nat.le_trans (lb rfl) hn) hg_11 hg_12 ?_
    refine R_iload (pc := 35) 5 (dc k_M_gainOf 21 rfl) rfl ?_
    refine R_cVP (pc := 37)  (As := [vI (M 99 (Int.toNat t)), vI l4_2]) (S := []) ck_M_541 (dc k_M_gainOf 22 rfl) ⟨rfl, ⟨_, rfl, rfl⟩, (lb rfl), (Nat.le_trans (lb rfl) hn)⟩ (lb rfl) (lb rfl) (lb rfl) rfl (ct_M_wished hE hn (Z_bind hz)) (fun r_14 hz => ?_)
    refine R_istore (pc := 40) (L' := [(6, vI r_14), (5, vI r_13), (0, vR 81), (1, vI t), (2, vI w), (3, vI l3_1), (4, vI l4_2)]) (dc k_M_gainOf 23 rfl) (lb rfl) rfl ?_
    refine R_iload (pc := 42) 1 (dc k_M_gainOf 24 rfl) rfl ?_
    obtain ⟨K_16, hK_17, hz⟩ := Z_cut hz
    have hJ_18 : ∀ (l3_15 : Int), K_16 l3_15 → Rr y_M_gainOf (1, 23, n, n, E) (qP M K) 81 [(0, vR 81), (1, vI t), (2, vI w), (3, vI l3_15), (4, vI l4_2)] [] E n M := by
      intro l3_15 hk
      have hz := hK_17 _ hk
      obtain ⟨l4_28, hl4_28, hz⟩ := Z_lt hz
      refine R_iincE (pc := 81) (L' := [(4, vI l4_28), (0, vR 81), (1, vI t), (2, vI w), (3, vI l3_15)]) 4 (dc k_M_gainOf 44 rfl) rfl (lb rfl) hl4_28 rfl ?_
      refine R_goto (pc := 84) 5 (dc k_M_gainOf 45 rfl) rfl ?_
      refine R_sub [1, 2, 3, 4, 0] rfl ?_
      exact hC_7 _ (Z_some hz)
    obtain ⟨K_19, hK_20, hz⟩ := Z_cut hz
    have hX_21 : K_19 true → Rr y_M_gainOf (1, 23, n, n, E) (qP M K) 75 [(6, vI r_14), (5, vI r_13), (0, vR 81), (1, vI t), (2, vI w), (3, vI l3_1), (4, vI l4_2)] [] E n M := by
      intro hk
      have hz := Z_pos rfl (hK_20 _ hk)
      refine R_iload (pc := 75) 1 (dc k_M_gainOf 40 rfl) rfl ?_
      refine R_iload (pc := 77) 0 (dc k_M_gainOf 41 rfl) rfl ?_
      refine R_iadd (pc := 79) (dc k_M_gainOf 42 rfl) ?_
      obtain ⟨l3_27, hl3_27, hz⟩ := Z_lt hz
      refine R_istore_nE (pc := 80) (L' := [(3, vI l3_27), (6, vI r_14), (5, vI r_13), (0, vR 81), (1, vI t), (2, vI w), (4, vI l4_2)]) (dc k_M_gainOf 43 rfl) rfl (lb rfl) hl3_27 rfl ?_
      refine R_sub [3, 4, 5, 0, 6] rfl ?_
      exact hJ_18 _ (Z_some hz)
    have hY_22 : K_19 false → Rr y_M_gainOf (1, 23, n, n, E) (qP M K) 81 [(6, vI r_14), (5, vI r_13), (0, vR 81), (1, vI t), (2, vI w), (3, vI l3_1), (4, vI l4_2)] [] E n M := by
      intro hk
      have hz := Z_neg Bool.false_ne_true (hK_20 _ hk)
      refine R_sub [2, 3, 4, 5, 6] rfl ?_
      exact hJ_18 _ (Z_some hz)
    refine R_if_lt (pc := 44) 81 (dc k_M_gainOf 25 rfl) rfl (fun hc => ?_) (fun hc => ?_)
    · have hz := Z_neg (show ¬ (0 ≤ n32 r_13) from (Int.not_le.mpr hc)) hz
      exact hY_22 (Z_some hz)
    · have hz := Z_pos (show 0 ≤ n32 r_13 from (Int.not_lt.mp hc)) hz
      refine R_iload (pc := 47) 0 (dc k_M_gainOf 26 rfl) rfl ?_
      refine R_if_lt (pc := 49) 81 (dc k_M_gainOf 27 rfl) rfl (fun hc => ?_) (fun hc => ?_)
      · have hz := Z_neg (show ¬ (0 ≤ n32 r_14) from (Int.not_le.mpr hc)) hz
        exact hY_22 (Z_some hz)
      · have hz := Z_pos (show 0 ≤ n32 r_14 from (Int.not_lt.mp hc)) hz
        refine R_aload_n (pc := 52) 2 (dc k_M_gainOf 28 rfl) rfl rfl ?_
        refine R_getS (pc := 53) (ci := 10) (k := 47) 112 (dc k_M_gainOf 29 rfl) fl_M_107 rfl (lb rfl) (Nat.le_trans (lb rfl) hn) (hE 81 (lb rfl) (lb rfl)) rfl (by decide) rfl ?_
        refine R_iload (pc := 56) 6 (dc k_M_gainOf 30 rfl) rfl ?_
        refine R_iload_n (pc := 58) 4 (dc k_M_gainOf 31 rfl) rfl rfl ?_
        refine R_cSP (pc := 59)  (As := [vI l4_2, vI w]) (S := [vR 112]) ck_M_430 (dc k_M_gainOf 32 rfl) (lb rfl) (lb rfl) (lb rfl) rfl (ct_M_spot hE hn (Z_bind hz)) (fun r_24 hz => ?_)
        obtain ⟨⟨hg_25, hg_26⟩, hz⟩ := Z_chk hz
        refine R_zald (pc := 62) (dc k_M_gainOf 33 rfl) rfl (lb rfl) (Nat.le_trans (lb rfl) hn) hg_25 hg_26 ?_
        refine R_if_ne (pc := 63) 81 (dc k_M_gainOf 34 rfl) rfl (fun hc => ?_) (fun hc => ?_)
        · have hz := Z_neg (show ¬ (n32 (M 112 (Int.toNat r_24)) = 0) from hc) hz
          exact hY_22 (Z_some hz)
        · have hz := Z_pos (show n32 (M 112 (Int.toNat r_24)) = 0 from (Decidable.not_not.mp hc)) hz
          refine R_iload (pc := 66) 1 (dc k_M_gainOf 35 rfl) rfl ?_
          refine R_iload (pc := 68) 0 (dc k_M_gainOf 36 rfl) rfl ?_
          refine R_iadd (pc := 70) (dc k_M_gainOf 37 rfl) ?_
          refine R_iload_n (pc := 71) 5 (dc k_M_gainOf 38 rfl) rfl rfl ?_
          refine R_icmp_le (pc := 72) 81 (dc k_M_gainOf 39 rfl) rfl (fun hc => ?_) (fun hc => ?_)
          · have hz := Z_neg (show ¬ (n32 l3_1 < n32 (r_13 + r_14)) from (Int.not_lt.mpr hc)) hz
            exact hY_22 (Z_some hz)
          · have hz := Z_pos (show n32 l3_1 < n32 (r_13 + r_14) from (Int.not_le.mp hc)) hz
            exact hX_21 (Z_some hz)

set_option maxRecDepth 20000 in
theorem ct_M_rest {E : Nat → Bool} {n : Nat} (hE : ∀ c, 81 ≤ c → c ≤ 138 → E c = true) (hn : 138 ≤ n) {w : Int} {what : Int} {M : Mem} {K : Int → Prop} (hz : Z (M_rest w what M) K) : Mt y_M_rest (3, 61, n, n, E) E [vR 81, vI w, vI what] M (qP M K) := by
  refine Mt.of (by decide) (lb rfl) (Nat.le_refl _) rfl ?_
  rw [M_rest] at hz
  show Rr y_M_rest (3, 61, n, n, E) (qP M K) 0 [(0, vR 81), (1, vI w), (2, vI what)] [] E n M
  refine R_aload_n (pc := 0) 0 (dc k_M_rest 0 rfl) rfl rfl ?_
  refine R_iload_n (pc := 1) 1 (dc k_M_rest 1 rfl) rfl rfl ?_
  refine R_cVP (pc := 2)  (As := [vI w]) (S := []) ck_M_455 (dc k_M_rest 2 rfl) ⟨rfl, ⟨_, rfl, rfl⟩, (lb rfl), (Nat.le_trans (lb rfl) hn)⟩ (lb rfl) (lb rfl) (lb rfl) rfl (ct_M_isWorld hE hn (Z_bind hz)) (fun r_1 hz => ?_)
  obtain ⟨K_2, hK_3, hz⟩ := Z_cut hz
  have hX_4 : K_2 true → Rr y_M_rest (3, 61, n, n, E) (qP M K) 17 [(0, vR 81), (1, vI w), (2, vI what)] [] E n M := by
    intro hk
    have hz := Z_pos rfl (hK_3 _ hk)
    refine R_iconst (pc := 17) (a := (-1)) (dc k_M_rest 9 rfl) ?_
    exact R_iret (pc := 18) (dc k_M_rest 10 rfl) rfl rfl rfl ⟨_, rfl, rfl, (Z_some hz)⟩
  have hY_5 : K_2 false → Rr y_M_rest (3, 61, n, n, E) (qP M K) 19 [(0, vR 81), (1, vI w), (2, vI what)] [] E n M := by
    intro hk
    have hz := Z_neg Bool.false_ne_true (hK_3 _ hk)
    refine R_iconst (pc := 19) (a := 0) (dc k_M_rest 11 rfl) ?_
    refine R_istore_n (pc := 20) (L' := [(3, vI 0), (0, vR 81), (1, vI w), (2, vI what)]) (dc k_M_rest 12 rfl) rfl (lb rfl) rfl ?_
    refine R_iconst (pc := 21) (a := 0) (dc k_M_rest 13 rfl) ?_
    refine R_istore (pc := 22) (L' := [(4, vI 0), (3, vI 0), (0, vR 81), (1, vI w), (2, vI what)]) (dc k_M_rest 14 rfl) (lb rfl) rfl ?_
    refine R_iconst (pc := 24) (a := 1) (dc k_M_rest 15 rfl) ?_
    refine R_istore (pc := 25) (L' := [(5, vI 1), (4, vI 0), (3, vI 0), (0, vR 81), (1, vI w), (2, vI what)]) (dc k_M_rest 16 rfl) (lb rfl) rfl ?_
    obtain ⟨K_11, hK_12, hz⟩ := Z_cut hz
    have hX_13 : ∀ (l3_17 : Int) (l4_18 : Int), K_11 (l3_17, l4_18) → Rr y_M_rest (3, 61, n, n, E) (qP M K) 139 [(2, vI what), (3, vI l3_17), (4, vI l4_18)] [] E n M := by
      intro l3_17 l4_18 hk
      have hz := hK_12 _ hk
      refine R_iload_n (pc := 139) 0 (dc k_M_rest 75 rfl) rfl rfl ?_
      refine R_if_ne (pc := 140) 148 (dc k_M_rest 76 rfl) rfl (fun hc => ?_) (fun hc => ?_)
      · have hz := Z_neg (show ¬ (n32 what = 0) from hc) hz
        refine R_iload_n (pc := 148) 1 (dc k_M_rest 79 rfl) rfl rfl ?_
        exact R_iret (pc := 149) (dc k_M_rest 80 rfl) rfl rfl rfl ⟨_, rfl, rfl, (Z_some hz)⟩
      · have hz := Z_pos (show n32 what = 0 from (Decidable.not_not.mp hc)) hz
        refine R_iload (pc := 143) 2 (dc k_M_rest 77 rfl) rfl ?_
        refine R_goto (pc := 145) 149 (dc k_M_rest 78 rfl) rfl ?_
        exact R_iret (pc := 149) (dc k_M_rest 80 rfl) rfl rfl rfl ⟨_, rfl, rfl, (Z_some hz)⟩
    refine R_sub [3, 4, 5, 2, 1, 0] rfl ?_
    refine it_R (C := fun aZ : Int × Int × Int => Rr y_M_rest (3, 61, n, n, E) (qP M K) 27 [(0, vR 81), (1, vI w), (2, vI what), (3, vI aZ.1), (4, vI aZ.2.1), (5, vI aZ.2.2)] [] E n M) (fun aZ K_14 hC_15 hB_16 hz => ?_) FUEL (0, 0, 1) hz
    obtain ⟨l3_8, l4_9, l5_10⟩ := aZ
    rw [M_rest_b27] at hz
    show Rr y_M_rest (3, 61, n, n, E) (qP M K) 27 [(0, vR 81), (1, vI w), (2, vI what), (3, vI l3_8), (4, vI l4_9), (5, vI l5_10)] [] E n M
    refine R_iload (pc := 27) 5 (dc k_M_rest 17 rfl) rfl ?_
    refine R_iconst (pc := 29) (a := 1) (dc k_M_rest 18 rfl) ?_
    refine R_aload_n (pc := 30) 0 (dc k_M_rest 19 rfl) rfl rfl ?_
    refine R_getS (pc := 31) (ci := 10) (k := 15) 88 (dc k_M_rest 20 rfl) fl_M_33 rfl (lb rfl) (Nat.le_trans (lb rfl) hn) (hE 81 (lb rfl) (lb rfl)) rfl (by decide) rfl ?_
    refine R_aload_n (pc := 34) 0 (dc k_M_rest 21 rfl) rfl rfl ?_
    refine R_getI (pc := 35) (ci := 10) (k := 38) (dc k_M_rest 22 rfl) fl_M_304 rfl (lb rfl) (Nat.le_trans (lb rfl) hn) rfl (Or.inl rfl) ?_
    obtain ⟨⟨hg_19, hg_20⟩, hz⟩ := Z_chk hz
    refine R_iald (pc := 38) (dc k_M_rest 23 rfl) rfl (lb rfl) (Nat.le_trans (lb rfl) hn) hg_19 hg_20 ?_
    refine R_ishl (pc := 39) (dc k_M_rest 24 rfl) ?_
    refine R_icmp_ge (pc := 40) 139 (dc k_M_rest 25 rfl) rfl (fun hc => ?_) (fun hc => ?_)
    · have hz := Z_neg (show ¬ (n32 l5_10 < n32 (ishl 1 (M 88 (Int.toNat (M 81 38))))) from (Int.not_lt.mpr hc)) hz
      refine R_sub [2, 3, 4] rfl ?_
      exact hX_13 _ _ (hB_16 _ (Z_some hz))
    · have hz := Z_pos (show n32 l5_10 < n32 (ishl 1 (M 88 (Int.toNat (M 81 38)))) from (Int.not_le.mp hc)) hz
      refine R_aload_n (pc := 43) 0 (dc k_M_rest 26 rfl) rfl rfl ?_
      refine R_iload (pc := 44) 5 (dc k_M_rest 27 rfl) rfl ?_
      refine R_cVP (pc := 46)  (As := [vI l5_10]) (S := []) ck_M_544 (dc k_M_rest 28 rfl) ⟨rfl, ⟨_, rfl, rfl⟩, (lb rfl), (Nat.le_trans (lb rfl) hn)⟩ (lb rfl) (lb rfl) (lb rfl) rfl (ct_M_areApart hE hn (Z_bind hz)) (fun r_21 hz => ?_)
      obtain ⟨K_24, hK_25, hz⟩ := Z_cut hz
      have hJ_26 : ∀ (l3_22 : Int) (l4_23 : Int), K_24 (l3_22, l4_23) → Rr y_M_rest (3, 61, n, n, E) (qP M K) 133 [(0, vR 81), (1, vI w), (2, vI what), (3, vI l3_22), (4, vI l4_23), (5, vI l5_10)] [] E n M := by
        intro l3_22 l4_23 hk
        have hz := hK_25 _ hk
        obtain ⟨l5_47, hl5_47, hz⟩ := Z_lt hz
        refine R_iincE (pc := 133) (L' := [(5, vI l5_47), (0, vR 81), (1, vI w), (2, vI what), (3, vI l3_22), (4, vI l4_23)]) 5 (dc k_M_rest 73 rfl) rfl (lb rfl) hl5_47 rfl ?_
        refine R_goto (pc := 136) 27 (dc k_M_rest 74 rfl) rfl ?_
        refine R_sub [1, 2, 3, 4, 5, 0] rfl ?_
        exact hC_15 _ (Z_some hz)
      refine R_if_ne (pc := 49) 55 (dc k_M_rest 29 rfl) rfl (fun hc => ?_) (fun hc => ?_)
      · have hz := Z_neg (show ¬ (n32 r_21 = 0) from hc) hz
        refine R_iconst (pc := 55) (a := 0) (dc k_M_rest 31 rfl) ?_
        refine R_istore (pc := 56) (L' := [(6, vI 0), (0, vR 81), (1, vI w), (2, vI what), (3, vI l3_8), (4, vI l4_9), (5, vI l5_10)]) (dc k_M_rest 32 rfl) (lb rfl) rfl ?_
        refine R_iconst (pc := 58) (a := 0) (dc k_M_rest 33 rfl) ?_
        refine R_istore (pc := 59) (L' := [(7, vI 0), (6, vI 0), (0, vR 81), (1, vI w), (2, vI what), (3, vI l3_8), (4, vI l4_9), (5, vI l5_10)]) (dc k_M_rest 34 rfl) (lb rfl) rfl ?_
        obtain ⟨K_29, hK_30, hz⟩ := Z_cut hz
        have hX_31 : ∀ (l6_35 : Int), K_29 l6_35 → Rr y_M_rest (3, 61, n, n, E) (qP M K) 116 [(0, vR 81), (1, vI w), (2, vI what), (3, vI l3_8), (4, vI l4_9), (5, vI l5_10), (6, vI l6_35)] [] E n M := by
          intro l6_35 hk
          have hz := hK_30 _ hk
          refine R_iload (pc := 116) 6 (dc k_M_rest 65 rfl) rfl ?_
          refine R_iload (pc := 118) 4 (dc k_M_rest 66 rfl) rfl ?_
          refine R_icmp_gt (pc := 120) 126 (dc k_M_rest 67 rfl) rfl (fun hc => ?_) (fun hc => ?_)
          · have hz := Z_neg (show ¬ (n32 l6_35 ≤ n32 l4_9) from (Int.not_le.mpr hc)) hz
            refine R_iload (pc := 126) 5 (dc k_M_rest 69 rfl) rfl ?_
            refine R_istore_n (pc := 128) (L' := [(3, vI l5_10), (0, vR 81), (1, vI w), (2, vI what), (4, vI l4_9), (5, vI l5_10), (6, vI l6_35)]) (dc k_M_rest 70 rfl) rfl (lb rfl) rfl ?_
            refine R_iload (pc := 129) 6 (dc k_M_rest 71 rfl) rfl ?_
            refine R_istore (pc := 131) (L' := [(4, vI l6_35), (3, vI l5_10), (0, vR 81), (1, vI w), (2, vI what), (5, vI l5_10), (6, vI l6_35)]) (dc k_M_rest 72 rfl) (lb rfl) rfl ?_
            refine R_sub [2, 3, 4, 1, 0, 5] rfl ?_
            exact hJ_26 _ _ (Z_some hz)
          · have hz := Z_pos (show n32 l6_35 ≤ n32 l4_9 from (Int.not_lt.mp hc)) hz
            refine R_goto (pc := 123) 133 (dc k_M_rest 68 rfl) rfl ?_
            refine R_sub [0, 1, 2, 3, 4, 5] rfl ?_
            exact hJ_26 _ _ (Z_some hz)
        refine R_sub [2, 3, 4, 5, 6, 7, 1, 0] rfl ?_
        refine it_R (C := fun aZ : Int × Int => Rr y_M_rest (3, 61, n, n, E) (qP M K) 61 [(0, vR 81), (1, vI w), (2, vI what), (3, vI l3_8), (4, vI l4_9), (5, vI l5_10), (6, vI aZ.1), (7, vI aZ.2)] [] E n M) (fun aZ K_32 hC_33 hB_34 hz => ?_) FUEL (0, 0) hz
        obtain ⟨l6_27, l7_28⟩ := aZ
        rw [M_rest_b61] at hz
        show Rr y_M_rest (3, 61, n, n, E) (qP M K) 61 [(0, vR 81), (1, vI w), (2, vI what), (3, vI l3_8), (4, vI l4_9), (5, vI l5_10), (6, vI l6_27), (7, vI l7_28)] [] E n M
        refine R_iload (pc := 61) 7 (dc k_M_rest 35 rfl) rfl ?_
        refine R_aload_n (pc := 63) 0 (dc k_M_rest 36 rfl) rfl rfl ?_
        refine R_getS (pc := 64) (ci := 10) (k := 15) 88 (dc k_M_rest 37 rfl) fl_M_33 rfl (lb rfl) (Nat.le_trans (lb rfl) hn) (hE 81 (lb rfl) (lb rfl)) rfl (by decide) rfl ?_
        refine R_aload_n (pc := 67) 0 (dc k_M_rest 38 rfl) rfl rfl ?_
        refine R_getI (pc := 68) (ci := 10) (k := 38) (dc k_M_rest 39 rfl) fl_M_304 rfl (lb rfl) (Nat.le_trans (lb rfl) hn) rfl (Or.inl rfl) ?_
        refine R_iald (pc := 71) (dc k_M_rest 40 rfl) rfl (lb rfl) (Nat.le_trans (lb rfl) hn) hg_19 hg_20 ?_
        refine R_icmp_ge (pc := 72) 116 (dc k_M_rest 41 rfl) rfl (fun hc => ?_) (fun hc => ?_)
        · have hz := Z_neg (show ¬ (n32 l7_28 < n32 (M 88 (Int.toNat (M 81 38)))) from (Int.not_lt.mpr hc)) hz
          refine R_sub [0, 1, 2, 3, 4, 5, 6] rfl ?_
          exact hX_31 _ (hB_34 _ (Z_some hz))
        · have hz := Z_pos (show n32 l7_28 < n32 (M 88 (Int.toNat (M 81 38))) from (Int.not_le.mp hc)) hz
          refine R_iload (pc := 75) 6 (dc k_M_rest 42 rfl) rfl ?_
          refine R_iload (pc := 77) 5 (dc k_M_rest 43 rfl) rfl ?_
          refine R_iload (pc := 79) 7 (dc k_M_rest 44 rfl) rfl ?_
          refine R_ishr (pc := 81) (dc k_M_rest 45 rfl) ?_
          refine R_iconst (pc := 82) (a := 1) (dc k_M_rest 46 rfl) ?_
          refine R_iand (pc := 83) (dc k_M_rest 47 rfl) ?_
          refine R_iconst (pc := 84) (a := 1) (dc k_M_rest 48 rfl) ?_
          obtain ⟨K_37, hK_38, hz⟩ := Z_cut hz
          have hJ_39 : ∀ (v_36 : Int), K_37 v_36 → Rr y_M_rest (3, 61, n, n, E) (qP M K) 107 [(0, vR 81), (1, vI w), (2, vI what), (3, vI l3_8), (4, vI l4_9), (5, vI l5_10), (7, vI l7_28)] [vI v_36, vI l6_27] E n M := by
            intro v_36 hk
            have hz := hK_38 _ hk
            refine R_iadd (pc := 107) (dc k_M_rest 61 rfl) ?_
            obtain ⟨l6_42, hl6_42, hz⟩ := Z_lt hz
            refine R_istoreE (pc := 108) (L' := [(6, vI l6_42), (0, vR 81), (1, vI w), (2, vI what), (3, vI l3_8), (4, vI l4_9), (5, vI l5_10), (7, vI l7_28)]) (dc k_M_rest 62 rfl) (lb rfl) hl6_42 rfl ?_
            obtain ⟨l7_43, hl7_43, hz⟩ := Z_lt hz
            refine R_iincE (pc := 110) (L' := [(7, vI l7_43), (6, vI l6_42), (0, vR 81), (1, vI w), (2, vI what), (3, vI l3_8), (4, vI l4_9), (5, vI l5_10)]) 7 (dc k_M_rest 63 rfl) rfl (lb rfl) hl7_43 rfl ?_
            refine R_goto (pc := 113) 61 (dc k_M_rest 64 rfl) rfl ?_
            refine R_sub [2, 3, 4, 5, 6, 7, 1, 0] rfl ?_
            exact hC_33 _ (Z_some hz)
          refine R_icmp_ne (pc := 85) 106 (dc k_M_rest 49 rfl) rfl (fun hc => ?_) (fun hc => ?_)
          · have hz := Z_neg (show ¬ (n32 (iand (ishr l5_10 l7_28) 1) = 1) from hc) hz
            refine R_iconst (pc := 106) (a := 0) (dc k_M_rest 60 rfl) ?_
            refine R_sub [0, 1, 2, 3, 4, 5, 7] rfl ?_
            exact hJ_39 _ (Z_some hz)
          · have hz := Z_pos (show n32 (iand (ishr l5_10 l7_28) 1) = 1 from (Decidable.not_not.mp hc)) hz
            refine R_aload_n (pc := 88) 0 (dc k_M_rest 50 rfl) rfl rfl ?_
            refine R_bipush (pc := 89) (a := 12) (dc k_M_rest 51 rfl) (by decide) ?_
            refine R_aload_n (pc := 91) 0 (dc k_M_rest 52 rfl) rfl rfl ?_
            refine R_getI (pc := 92) (ci := 10) (k := 38) (dc k_M_rest 53 rfl) fl_M_304 rfl (lb rfl) (Nat.le_trans (lb rfl) hn) rfl (Or.inl rfl) ?_
            refine R_imul (pc := 95) (dc k_M_rest 54 rfl) ?_
            refine R_iload (pc := 96) 7 (dc k_M_rest 55 rfl) rfl ?_
            refine R_iadd (pc := 98) (dc k_M_rest 56 rfl) ?_
            refine R_iload_n (pc := 99) 1 (dc k_M_rest 57 rfl) rfl rfl ?_
            refine R_cVP (pc := 100)  (As := [vI ((12 * (M 81 38)) + l7_28), vI w]) (S := [vI l6_27]) ck_M_547 (dc k_M_rest 58 rfl) ⟨rfl, ⟨_, rfl, rfl⟩, (lb rfl), (Nat.le_trans (lb rfl) hn)⟩ (lb rfl) (lb rfl) (lb rfl) rfl (ct_M_gainOf hE hn (Z_bind hz)) (fun r_40 hz => ?_)
            refine R_goto (pc := 103) 107 (dc k_M_rest 59 rfl) rfl ?_
            refine R_sub [0, 1, 2, 3, 4, 5, 7] rfl ?_
            exact hJ_39 _ (Z_some hz)
      · have hz := Z_pos (show n32 r_21 = 0 from (Decidable.not_not.mp hc)) hz
        refine R_goto (pc := 52) 133 (dc k_M_rest 30 rfl) rfl ?_
        exact hJ_26 _ _ (Z_some hz)
  refine R_if_eq (pc := 5) 17 (dc k_M_rest 3 rfl) rfl (fun hc => ?_) (fun hc => ?_)
  · have hz := Z_neg (show ¬ (¬ n32 r_1 = 0) from (fun z => z hc)) hz
    exact hX_4 (Z_some hz)
  · have hz := Z_pos (show ¬ n32 r_1 = 0 from hc) hz
    refine R_iload_n (pc := 8) 2 (dc k_M_rest 4 rfl) rfl rfl ?_
    refine R_iconst (pc := 9) (a := 0) (dc k_M_rest 5 rfl) ?_
    refine R_iconst (pc := 10) (a := 1) (dc k_M_rest 6 rfl) ?_
    refine R_cSP (pc := 11)  (As := [vI what, vI 0, vI 1]) (S := []) ck_M_418 (dc k_M_rest 7 rfl) (lb rfl) (lb rfl) (lb rfl) rfl (ct_M_isIn hE hn (Z_bind hz)) (fun r_7 hz => ?_)
    refine R_if_ne (pc := 14) 19 (dc k_M_rest 8 rfl) rfl (fun hc => ?_) (fun hc => ?_)
    · have hz := Z_neg (show ¬ (n32 r_7 = 0) from hc) hz
      exact hY_5 (Z_some hz)
    · have hz := Z_pos (show n32 r_7 = 0 from (Decidable.not_not.mp hc)) hz
      exact hX_4 (Z_some hz)

set_option maxRecDepth 20000 in
theorem ct_M_common {E : Nat → Bool} {n : Nat} (hE : ∀ c, 81 ≤ c → c ≤ 138 → E c = true) (hn : 138 ≤ n) {a : Int} {b : Int} {M : Mem} {K : Int → Prop} (hz : Z (M_common a b M) K) : Mt y_M_common (0, 0, n, n, E) E [vI a, vI b] M (qP M K) := by
  refine Mt.of (by decide) (lb rfl) (Nat.le_refl _) rfl ?_
  rw [M_common] at hz
  show Rr y_M_common (0, 0, n, n, E) (qP M K) 0 [(0, vI a), (1, vI b)] [] E n M
  refine R_iload_n (pc := 0) 0 (dc k_M_common 0 rfl) rfl rfl ?_
  refine R_istore_n (pc := 1) (L' := [(2, vI a), (0, vI a), (1, vI b)]) (dc k_M_common 1 rfl) rfl (lb rfl) rfl ?_
  refine R_iload_n (pc := 2) 2 (dc k_M_common 2 rfl) rfl rfl ?_
  refine R_istore_n (pc := 3) (L' := [(3, vI b), (2, vI a), (0, vI a), (1, vI b)]) (dc k_M_common 3 rfl) rfl (lb rfl) rfl ?_
  obtain ⟨K_3, hK_4, hz⟩ := Z_cut hz
  have hX_5 : ∀ (l2_9 : Int), K_3 l2_9 → Rr y_M_common (0, 0, n, n, E) (qP M K) 21 [(2, vI l2_9)] [] E n M := by
    intro l2_9 hk
    have hz := hK_4 _ hk
    refine R_iload_n (pc := 21) 0 (dc k_M_common 15 rfl) rfl rfl ?_
    exact R_iret (pc := 22) (dc k_M_common 16 rfl) rfl rfl rfl ⟨_, rfl, rfl, (Z_some hz)⟩
  refine R_sub [1, 0] rfl ?_
  refine it_R (C := fun aZ : Int × Int => Rr y_M_common (0, 0, n, n, E) (qP M K) 4 [(2, vI aZ.1), (3, vI aZ.2)] [] E n M) (fun aZ K_6 hC_7 hB_8 hz => ?_) FUEL (a, b) hz
  obtain ⟨l2_1, l3_2⟩ := aZ
  rw [M_common_b4] at hz
  show Rr y_M_common (0, 0, n, n, E) (qP M K) 4 [(2, vI l2_1), (3, vI l3_2)] [] E n M
  refine R_iload_n (pc := 4) 1 (dc k_M_common 4 rfl) rfl rfl ?_
  refine R_if_eq (pc := 5) 21 (dc k_M_common 5 rfl) rfl (fun hc => ?_) (fun hc => ?_)
  · have hz := Z_neg (show ¬ (¬ n32 l3_2 = 0) from (fun z => z hc)) hz
    refine R_sub [0] rfl ?_
    exact hX_5 _ (hB_8 _ (Z_some hz))
  · have hz := Z_pos (show ¬ n32 l3_2 = 0 from hc) hz
    refine R_iload_n (pc := 8) 0 (dc k_M_common 6 rfl) rfl rfl ?_
    refine R_iload_n (pc := 9) 1 (dc k_M_common 7 rfl) rfl rfl ?_
    obtain ⟨hg_10, hz⟩ := Z_chk hz
    refine R_irem (pc := 10) (dc k_M_common 8 rfl) hg_10 ?_
    obtain ⟨l4_11, hl4_11, hz⟩ := Z_lt hz
    refine R_istoreE (pc := 11) (L' := [(4, vI l4_11), (2, vI l2_1), (3, vI l3_2)]) (dc k_M_common 9 rfl) (lb rfl) hl4_11 rfl ?_
    refine R_iload_n (pc := 13) 2 (dc k_M_common 10 rfl) rfl rfl ?_
    refine R_istore_n (pc := 14) (L' := [(2, vI l3_2), (4, vI l4_11), (3, vI l3_2)]) (dc k_M_common 11 rfl) rfl (lb rfl) rfl ?_
    refine R_iload (pc := 15) 1 (dc k_M_common 12 rfl) rfl ?_
    refine R_istore_n (pc := 17) (L' := [(3, vI l4_11), (2, vI l3_2), (4, vI l4_11)]) (dc k_M_common 13 rfl) rfl (lb rfl) rfl ?_
    refine R_goto (pc := 18) 4 (dc k_M_common 14 rfl) rfl ?_
    refine R_sub [1, 0] rfl ?_
    exact hC_7 _ (Z_some hz)

set_option maxRecDepth 20000 in
theorem ct_M_truth {E : Nat → Bool} {n : Nat} (hE : ∀ c, 81 ≤ c → c ≤ 138 → E c = true) (hn : 138 ≤ n) {r : Int} {c : Int} {d : Int} {half_ : Int} {k : Int} {M : Mem} {K : Int × Mem → Prop} (hz : Z (M_truth r c d half_ k M) K) : Mt y_M_truth (6, 144, n, n, E) E [vR 81, vI r, vI c, vI d, vI half_, vI k] M (qM K) := by
  refine Mt.of (by decide) (lb rfl) (Nat.le_refl _) rfl ?_
  rw [M_truth] at hz
  show Rr y_M_truth (6, 144, n, n, E) (qM K) 0 [(0, vR 81), (1, vI r), (2, vI c), (3, vI d), (4, vI half_), (5, vI k)] [] E n M
  refine R_aload_n (pc := 0) 0 (dc k_M_truth 0 rfl) rfl rfl ?_
  refine R_iload_n (pc := 1) 1 (dc k_M_truth 1 rfl) rfl rfl ?_
  refine R_cVP (pc := 2)  (As := [vI r]) (S := []) ck_M_452 (dc k_M_truth 2 rfl) ⟨rfl, ⟨_, rfl, rfl⟩, (lb rfl), (Nat.le_trans (lb rfl) hn)⟩ (lb rfl) (lb rfl) (lb rfl) rfl (ct_M_isRow hE hn (Z_bind hz)) (fun r_1 hz => ?_)
  obtain ⟨K_2, hK_3, hz⟩ := Z_cut hz
  have hX_4 : K_2 true → Rr y_M_truth (6, 144, n, n, E) (qM K) 38 [(0, vR 81), (1, vI r), (2, vI c), (3, vI d), (4, vI half_), (5, vI k)] [] E n M := by
    intro hk
    have hz := Z_pos rfl (hK_3 _ hk)
    refine R_iconst (pc := 38) (a := (-1)) (dc k_M_truth 19 rfl) ?_
    exact R_iret (pc := 39) (dc k_M_truth 20 rfl) rfl rfl rfl ⟨_, rfl, (Z_some hz)⟩
  have hY_5 : K_2 false → Rr y_M_truth (6, 144, n, n, E) (qM K) 40 [(0, vR 81), (1, vI r), (2, vI c), (3, vI d), (4, vI half_), (5, vI k)] [] E n M := by
    intro hk
    have hz := Z_neg Bool.false_ne_true (hK_3 _ hk)
    refine R_aload_n (pc := 40) 0 (dc k_M_truth 21 rfl) rfl rfl ?_
    refine R_iload (pc := 41) 5 (dc k_M_truth 22 rfl) rfl ?_
    refine R_cVV (pc := 43)  (As := [vI k]) (S := []) ck_M_502 (dc k_M_truth 23 rfl) ⟨rfl, ⟨_, rfl, rfl⟩, (lb rfl), (Nat.le_trans (lb rfl) hn)⟩ (lb rfl) (lb rfl) (lb rfl) rfl (ct_M_findLeft hE hn (Z_bind hz)) (fun M_10 hz => ?_)
    refine R_iload_n (pc := 46) 2 (dc k_M_truth 24 rfl) rfl rfl ?_
    refine R_aload_n (pc := 47) 0 (dc k_M_truth 25 rfl) rfl rfl ?_
    refine R_iload_n (pc := 48) 1 (dc k_M_truth 26 rfl) rfl rfl ?_
    refine R_cVP (pc := 49)  (As := [vI r]) (S := [vI c]) ck_M_505 (dc k_M_truth 27 rfl) ⟨rfl, ⟨_, rfl, rfl⟩, (lb rfl), (Nat.le_trans (lb rfl) hn)⟩ (lb rfl) (lb rfl) (lb rfl) rfl (ct_M_soMany hE hn (Z_bind hz)) (fun r_11 hz => ?_)
    refine R_imul (pc := 52) (dc k_M_truth 28 rfl) ?_
    obtain ⟨l6_12, hl6_12, hz⟩ := Z_lt hz
    refine R_istoreE (pc := 53) (L' := [(6, vI l6_12), (0, vR 81), (1, vI r), (2, vI c), (3, vI d), (4, vI half_), (5, vI k)]) (dc k_M_truth 29 rfl) (lb rfl) hl6_12 rfl ?_
    refine R_iload (pc := 55) 0 (dc k_M_truth 30 rfl) rfl ?_
    refine R_iload_n (pc := 57) 4 (dc k_M_truth 31 rfl) rfl rfl ?_
    refine R_aload_n (pc := 58) 1 (dc k_M_truth 32 rfl) rfl rfl ?_
    refine R_getI (pc := 59) (ci := 10) (k := 60) (dc k_M_truth 33 rfl) fl_M_492 rfl (lb rfl) (Nat.le_trans (lb rfl) hn) rfl (Or.inl rfl) ?_
    refine R_aload_n (pc := 62) 1 (dc k_M_truth 34 rfl) rfl rfl ?_
    refine R_iload_n (pc := 63) 2 (dc k_M_truth 35 rfl) rfl rfl ?_
    refine R_cVP (pc := 64)  (As := [vI r]) (S := [vI (M_10 81 60), vI d, vI l6_12]) ck_M_505 (dc k_M_truth 36 rfl) ⟨rfl, ⟨_, rfl, rfl⟩, (lb rfl), (Nat.le_trans (lb rfl) hn)⟩ (lb rfl) (lb rfl) (lb rfl) rfl (ct_M_soMany hE hn (Z_bind hz)) (fun r_13 hz => ?_)
    refine R_isub (pc := 67) (dc k_M_truth 37 rfl) ?_
    refine R_imul (pc := 68) (dc k_M_truth 38 rfl) ?_
    refine R_iadd (pc := 69) (dc k_M_truth 39 rfl) ?_
    obtain ⟨l7_14, hl7_14, hz⟩ := Z_lt hz
    refine R_istoreE (pc := 70) (L' := [(7, vI l7_14), (6, vI l6_12), (0, vR 81), (1, vI r), (2, vI c), (3, vI d), (4, vI half_), (5, vI k)]) (dc k_M_truth 40 rfl) (lb rfl) hl7_14 rfl ?_
    refine R_iload (pc := 72) 0 (dc k_M_truth 41 rfl) rfl ?_
    refine R_if_ne (pc := 74) 79 (dc k_M_truth 42 rfl) rfl (fun hc => ?_) (fun hc => ?_)
    · have hz := Z_neg (show ¬ (n32 l7_14 = 0) from hc) hz
      refine R_iload (pc := 79) 1 (dc k_M_truth 45 rfl) rfl ?_
      refine R_iload (pc := 81) 0 (dc k_M_truth 46 rfl) rfl ?_
      refine R_cSP (pc := 83)  (As := [vI l6_12, vI l7_14]) (S := []) ck_M_550 (dc k_M_truth 47 rfl) (lb rfl) (lb rfl) (lb rfl) rfl (ct_M_common hE hn (Z_bind hz)) (fun r_15 hz => ?_)
      refine R_istore (pc := 86) (L' := [(8, vI r_15), (7, vI l7_14), (6, vI l6_12), (0, vR 81), (1, vI r), (2, vI c), (3, vI d), (4, vI half_), (5, vI k)]) (dc k_M_truth 48 rfl) (lb rfl) rfl ?_
      refine R_iload (pc := 88) 7 (dc k_M_truth 49 rfl) rfl ?_
      refine R_if_ne (pc := 90) 101 (dc k_M_truth 50 rfl) rfl (fun hc => ?_) (fun hc => ?_)
      · have hz := Z_neg (show ¬ (n32 half_ = 0) from hc) hz
        refine R_iload (pc := 101) 1 (dc k_M_truth 55 rfl) rfl ?_
        refine R_iload (pc := 103) 0 (dc k_M_truth 56 rfl) rfl ?_
        obtain ⟨hg_17, hz⟩ := Z_chk hz
        refine R_idiv (pc := 105) (dc k_M_truth 57 rfl) hg_17 ?_
        exact R_iret (pc := 106) (dc k_M_truth 58 rfl) rfl rfl rfl ⟨_, rfl, (Z_some hz)⟩
      · have hz := Z_pos (show n32 half_ = 0 from (Decidable.not_not.mp hc)) hz
        refine R_iload (pc := 93) 2 (dc k_M_truth 51 rfl) rfl ?_
        refine R_iload (pc := 95) 0 (dc k_M_truth 52 rfl) rfl ?_
        obtain ⟨hg_16, hz⟩ := Z_chk hz
        refine R_idiv (pc := 97) (dc k_M_truth 53 rfl) hg_16 ?_
        refine R_goto (pc := 98) 106 (dc k_M_truth 54 rfl) rfl ?_
        exact R_iret (pc := 106) (dc k_M_truth 58 rfl) rfl rfl rfl ⟨_, rfl, (Z_some hz)⟩
    · have hz := Z_pos (show n32 l7_14 = 0 from (Decidable.not_not.mp hc)) hz
      refine R_iconst (pc := 77) (a := (-1)) (dc k_M_truth 43 rfl) ?_
      exact R_iret (pc := 78) (dc k_M_truth 44 rfl) rfl rfl rfl ⟨_, rfl, (Z_some hz)⟩
  refine R_if_eq (pc := 5) 38 (dc k_M_truth 3 rfl) rfl (fun hc => ?_) (fun hc => ?_)
  · have hz := Z_neg (show ¬ (¬ n32 r_1 = 0) from (fun z => z hc)) hz
    exact hX_4 (Z_some hz)
  · have hz := Z_pos (show ¬ n32 r_1 = 0 from hc) hz
    refine R_iload_n (pc := 8) 2 (dc k_M_truth 4 rfl) rfl rfl ?_
    refine R_iconst (pc := 9) (a := 0) (dc k_M_truth 5 rfl) ?_
    refine R_bipush (pc := 10) (a := 10) (dc k_M_truth 6 rfl) (by decide) ?_
    refine R_cSP (pc := 12)  (As := [vI c, vI 0, vI 10]) (S := []) ck_M_418 (dc k_M_truth 7 rfl) (lb rfl) (lb rfl) (lb rfl) rfl (ct_M_isIn hE hn (Z_bind hz)) (fun r_7 hz => ?_)
    refine R_if_eq (pc := 15) 38 (dc k_M_truth 8 rfl) rfl (fun hc => ?_) (fun hc => ?_)
    · have hz := Z_neg (show ¬ (¬ n32 r_7 = 0) from (fun z => z hc)) hz
      exact hX_4 (Z_some hz)
    · have hz := Z_pos (show ¬ n32 r_7 = 0 from hc) hz
      refine R_iload_n (pc := 18) 3 (dc k_M_truth 9 rfl) rfl rfl ?_
      refine R_iconst (pc := 19) (a := 0) (dc k_M_truth 10 rfl) ?_
      refine R_bipush (pc := 20) (a := 10) (dc k_M_truth 11 rfl) (by decide) ?_
      refine R_cSP (pc := 22)  (As := [vI d, vI 0, vI 10]) (S := []) ck_M_418 (dc k_M_truth 12 rfl) (lb rfl) (lb rfl) (lb rfl) rfl (ct_M_isIn hE hn (Z_bind hz)) (fun r_8 hz => ?_)
      refine R_if_eq (pc := 25) 38 (dc k_M_truth 13 rfl) rfl (fun hc => ?_) (fun hc => ?_)
      · have hz := Z_neg (show ¬ (¬ n32 r_8 = 0) from (fun z => z hc)) hz
        exact hX_4 (Z_some hz)
      · have hz := Z_pos (show ¬ n32 r_8 = 0 from hc) hz
        refine R_iload (pc := 28) 4 (dc k_M_truth 14 rfl) rfl ?_
        refine R_iconst (pc := 30) (a := 0) (dc k_M_truth 15 rfl) ?_
        refine R_iconst (pc := 31) (a := 1) (dc k_M_truth 16 rfl) ?_
        refine R_cSP (pc := 32)  (As := [vI half_, vI 0, vI 1]) (S := []) ck_M_418 (dc k_M_truth 17 rfl) (lb rfl) (lb rfl) (lb rfl) rfl (ct_M_isIn hE hn (Z_bind hz)) (fun r_9 hz => ?_)
        refine R_if_ne (pc := 35) 40 (dc k_M_truth 18 rfl) rfl (fun hc => ?_) (fun hc => ?_)
        · have hz := Z_neg (show ¬ (n32 r_9 = 0) from hc) hz
          exact hY_5 (Z_some hz)
        · have hz := Z_pos (show n32 r_9 = 0 from (Decidable.not_not.mp hc)) hz
          exact hX_4 (Z_some hz)

set_option maxRecDepth 20000 in
theorem ct_M_areMet {E : Nat → Bool} {n : Nat} (hE : ∀ c, 81 ≤ c → c ≤ 138 → E c = true) (hn : 138 ≤ n) {M : Mem} {K : Int → Prop} (hz : Z (M_areMet M) K) : Mt y_M_areMet (1, 20, n, n, E) E [vR 81] M (qP M K) := by
  refine Mt.of (by decide) (lb rfl) (Nat.le_refl _) rfl ?_
  rw [M_areMet] at hz
  show Rr y_M_areMet (1, 20, n, n, E) (qP M K) 0 [(0, vR 81)] [] E n M
  refine R_iconst (pc := 0) (a := 0) (dc k_M_areMet 0 rfl) ?_
  refine R_istore_n (pc := 1) (L' := [(1, vI 0), (0, vR 81)]) (dc k_M_areMet 1 rfl) rfl (lb rfl) rfl ?_
  obtain ⟨K_2, hK_3, hz⟩ := Z_cut hz
  have hX_4 : K_2 (.inl ()) → Rr y_M_areMet (1, 20, n, n, E) (qP M K) 88 [] [] E n M := by
    intro  hk
    have hz := hK_3 _ hk
    refine R_iconst (pc := 88) (a := 1) (dc k_M_areMet 54 rfl) ?_
    exact R_zret (pc := 89) (dc k_M_areMet 55 rfl) rfl (Or.inr rfl) rfl rfl ⟨_, rfl, rfl, (Z_some hz)⟩
  refine R_sub [1, 0] rfl ?_
  refine it_R (C := fun aZ : Int => Rr y_M_areMet (1, 20, n, n, E) (qP M K) 2 [(0, vR 81), (1, vI aZ)] [] E n M) (fun l1_1 K_5 hC_6 hB_7 hz => ?_) FUEL 0 hz
  rw [M_areMet_b2] at hz
  show Rr y_M_areMet (1, 20, n, n, E) (qP M K) 2 [(0, vR 81), (1, vI l1_1)] [] E n M
  refine R_iload_n (pc := 2) 1 (dc k_M_areMet 2 rfl) rfl rfl ?_
  refine R_aload_n (pc := 3) 0 (dc k_M_areMet 3 rfl) rfl rfl ?_
  refine R_getI (pc := 4) (ci := 10) (k := 70) (dc k_M_areMet 4 rfl) fl_M_553 rfl (lb rfl) (Nat.le_trans (lb rfl) hn) rfl (Or.inl rfl) ?_
  refine R_icmp_ge (pc := 7) 88 (dc k_M_areMet 5 rfl) rfl (fun hc => ?_) (fun hc => ?_)
  · have hz := Z_neg (show ¬ (n32 l1_1 < n32 (M 81 70)) from (Int.not_lt.mpr hc)) hz
    refine R_sub [] rfl ?_
    exact hX_4 (hB_7 _ (Z_some hz))
  · have hz := Z_pos (show n32 l1_1 < n32 (M 81 70) from (Int.not_le.mp hc)) hz
    refine R_iconst (pc := 10) (a := 0) (dc k_M_areMet 6 rfl) ?_
    refine R_istore_n (pc := 11) (L' := [(2, vI 0), (0, vR 81), (1, vI l1_1)]) (dc k_M_areMet 7 rfl) rfl (lb rfl) rfl ?_
    refine R_iconst (pc := 12) (a := 0) (dc k_M_areMet 8 rfl) ?_
    refine R_istore_n (pc := 13) (L' := [(3, vI 0), (2, vI 0), (0, vR 81), (1, vI l1_1)]) (dc k_M_areMet 9 rfl) rfl (lb rfl) rfl ?_
    obtain ⟨K_10, hK_11, hz⟩ := Z_cut hz
    have hX_12 : ∀ (l2_16 : Int), K_10 l2_16 → Rr y_M_areMet (1, 20, n, n, E) (qP M K) 76 [(0, vR 81), (1, vI l1_1), (2, vI l2_16)] [] E n M := by
      intro l2_16 hk
      have hz := hK_11 _ hk
      refine R_iload_n (pc := 76) 2 (dc k_M_areMet 48 rfl) rfl rfl ?_
      refine R_if_ne (pc := 77) 82 (dc k_M_areMet 49 rfl) rfl (fun hc => ?_) (fun hc => ?_)
      · have hz := Z_neg (show ¬ (n32 l2_16 = 0) from hc) hz
        obtain ⟨l1_37, hl1_37, hz⟩ := Z_lt hz
        refine R_iincE (pc := 82) (L' := [(1, vI l1_37), (0, vR 81), (2, vI l2_16)]) 1 (dc k_M_areMet 52 rfl) rfl (lb rfl) hl1_37 rfl ?_
        refine R_goto (pc := 85) 2 (dc k_M_areMet 53 rfl) rfl ?_
        refine R_sub [1, 0] rfl ?_
        exact hC_6 _ (Z_some hz)
      · have hz := Z_pos (show n32 l2_16 = 0 from (Decidable.not_not.mp hc)) hz
        refine R_iconst (pc := 80) (a := 0) (dc k_M_areMet 50 rfl) ?_
        exact R_zret (pc := 81) (dc k_M_areMet 51 rfl) rfl (Or.inl rfl) rfl rfl ⟨_, rfl, rfl, (Z_some (hK_3 _ (hB_7 _ (Z_some hz))))⟩
    refine R_sub [2, 3, 1, 0] rfl ?_
    refine it_R (C := fun aZ : Int × Int => Rr y_M_areMet (1, 20, n, n, E) (qP M K) 14 [(0, vR 81), (1, vI l1_1), (2, vI aZ.1), (3, vI aZ.2)] [] E n M) (fun aZ K_13 hC_14 hB_15 hz => ?_) FUEL (0, 0) hz
    obtain ⟨l2_8, l3_9⟩ := aZ
    rw [M_areMet_b14] at hz
    show Rr y_M_areMet (1, 20, n, n, E) (qP M K) 14 [(0, vR 81), (1, vI l1_1), (2, vI l2_8), (3, vI l3_9)] [] E n M
    refine R_iload_n (pc := 14) 3 (dc k_M_areMet 10 rfl) rfl rfl ?_
    refine R_aload_n (pc := 15) 0 (dc k_M_areMet 11 rfl) rfl rfl ?_
    refine R_cVP (pc := 16)  (As := []) (S := [vI l3_9]) ck_M_421 (dc k_M_areMet 12 rfl) ⟨rfl, ⟨_, rfl, rfl⟩, (lb rfl), (Nat.le_trans (lb rfl) hn)⟩ (lb rfl) (lb rfl) (lb rfl) rfl (ct_M_personMany hE hn (Z_bind hz)) (fun r_17 hz => ?_)
    refine R_icmp_ge (pc := 19) 76 (dc k_M_areMet 13 rfl) rfl (fun hc => ?_) (fun hc => ?_)
    · have hz := Z_neg (show ¬ (n32 l3_9 < n32 r_17) from (Int.not_lt.mpr hc)) hz
      refine R_sub [0, 1, 2] rfl ?_
      exact hX_12 _ (hB_15 _ (Z_some hz))
    · have hz := Z_pos (show n32 l3_9 < n32 r_17 from (Int.not_le.mp hc)) hz
      refine R_iload_n (pc := 22) 2 (dc k_M_areMet 14 rfl) rfl rfl ?_
      obtain ⟨K_19, hK_20, hz⟩ := Z_cut hz
      have hJ_21 : ∀ (v_18 : Int), K_19 v_18 → Rr y_M_areMet (1, 20, n, n, E) (qP M K) 69 [(0, vR 81), (1, vI l1_1), (3, vI l3_9)] [vI v_18] E n M := by
        intro v_18 hk
        have hz := hK_20 _ hk
        refine R_istore_n (pc := 69) (L' := [(2, vI v_18), (0, vR 81), (1, vI l1_1), (3, vI l3_9)]) (dc k_M_areMet 45 rfl) rfl (lb rfl) rfl ?_
        obtain ⟨l3_35, hl3_35, hz⟩ := Z_lt hz
        refine R_iincE (pc := 70) (L' := [(3, vI l3_35), (2, vI v_18), (0, vR 81), (1, vI l1_1)]) 3 (dc k_M_areMet 46 rfl) rfl (lb rfl) hl3_35 rfl ?_
        refine R_goto (pc := 73) 14 (dc k_M_areMet 47 rfl) rfl ?_
        refine R_sub [2, 3, 1, 0] rfl ?_
        exact hC_14 _ (Z_some hz)
      obtain ⟨j_22, hj_23, hz⟩ := Z_jn hz
      have hJ_24 : Z (j_22 ()) K_19 → Rr y_M_areMet (1, 20, n, n, E) (qP M K) 64 [(0, vR 81), (1, vI l1_1), (3, vI l3_9)] [] E n M := by
        intro  hk
        have hz := hj_23 _ hk
        refine R_iconst (pc := 64) (a := 1) (dc k_M_areMet 42 rfl) ?_
        refine R_goto (pc := 65) 69 (dc k_M_areMet 43 rfl) rfl ?_
        exact hJ_21 _ (Z_some hz)
      refine R_if_ne (pc := 23) 64 (dc k_M_areMet 15 rfl) rfl (fun hc => ?_) (fun hc => ?_)
      · have hz := Z_neg (show ¬ (n32 l2_8 = 0) from hc) hz
        refine R_sub [0, 1, 3] rfl ?_
        exact hJ_24 hz
      · have hz := Z_pos (show n32 l2_8 = 0 from (Decidable.not_not.mp hc)) hz
        refine R_aload_n (pc := 26) 0 (dc k_M_areMet 16 rfl) rfl rfl ?_
        refine R_getS (pc := 27) (ci := 10) (k := 68) 130 (dc k_M_areMet 17 rfl) fl_M_161 rfl (lb rfl) (Nat.le_trans (lb rfl) hn) (hE 81 (lb rfl) (lb rfl)) rfl (by decide) rfl ?_
        refine R_iload_n (pc := 30) 3 (dc k_M_areMet 18 rfl) rfl rfl ?_
        obtain ⟨⟨hg_25, hg_26⟩, hz⟩ := Z_chk hz
        refine R_iald (pc := 31) (dc k_M_areMet 19 rfl) rfl (lb rfl) (Nat.le_trans (lb rfl) hn) hg_25 hg_26 ?_
        refine R_iload_n (pc := 32) 3 (dc k_M_areMet 20 rfl) rfl rfl ?_
        obtain ⟨K_27, hK_28, hz⟩ := Z_cut hz
        have hX_29 : K_27 true → Rr y_M_areMet (1, 20, n, n, E) (qP M K) 64 [(0, vR 81), (1, vI l1_1), (2, vI l2_8), (3, vI l3_9)] [] E n M := by
          intro hk
          have hz := Z_pos rfl (hK_28 _ hk)
          refine R_sub [0, 1, 3] rfl ?_
          exact hJ_24 hz
        have hY_30 : K_27 false → Rr y_M_areMet (1, 20, n, n, E) (qP M K) 68 [(0, vR 81), (1, vI l1_1), (2, vI l2_8), (3, vI l3_9)] [] E n M := by
          intro hk
          have hz := Z_neg Bool.false_ne_true (hK_28 _ hk)
          refine R_iconst (pc := 68) (a := 0) (dc k_M_areMet 44 rfl) ?_
          refine R_sub [0, 1, 3] rfl ?_
          exact hJ_21 _ (Z_some hz)
        refine R_icmp_le (pc := 33) 68 (dc k_M_areMet 21 rfl) rfl (fun hc => ?_) (fun hc => ?_)
        · have hz := Z_neg (show ¬ (n32 l3_9 < n32 (M 130 (Int.toNat l3_9))) from (Int.not_lt.mpr hc)) hz
          exact hY_30 (Z_some hz)
        · have hz := Z_pos (show n32 l3_9 < n32 (M 130 (Int.toNat l3_9)) from (Int.not_le.mp hc)) hz
          refine R_aload_n (pc := 36) 0 (dc k_M_areMet 22 rfl) rfl rfl ?_
          refine R_getS (pc := 37) (ci := 10) (k := 67) 129 (dc k_M_areMet 23 rfl) fl_M_158 rfl (lb rfl) (Nat.le_trans (lb rfl) hn) (hE 81 (lb rfl) (lb rfl)) rfl (by decide) rfl ?_
          refine R_iload_n (pc := 40) 1 (dc k_M_areMet 24 rfl) rfl rfl ?_
          obtain ⟨⟨hg_32, hg_33⟩, hz⟩ := Z_chk hz
          refine R_iald (pc := 41) (dc k_M_areMet 25 rfl) rfl (lb rfl) (Nat.le_trans (lb rfl) hn) hg_32 hg_33 ?_
          refine R_iload_n (pc := 42) 3 (dc k_M_areMet 26 rfl) rfl rfl ?_
          refine R_ishr (pc := 43) (dc k_M_areMet 27 rfl) ?_
          refine R_aload_n (pc := 44) 0 (dc k_M_areMet 28 rfl) rfl rfl ?_
          refine R_getS (pc := 45) (ci := 10) (k := 67) 129 (dc k_M_areMet 29 rfl) fl_M_158 rfl (lb rfl) (Nat.le_trans (lb rfl) hn) (hE 81 (lb rfl) (lb rfl)) rfl (by decide) rfl ?_
          refine R_iload_n (pc := 48) 1 (dc k_M_areMet 30 rfl) rfl rfl ?_
          refine R_iald (pc := 49) (dc k_M_areMet 31 rfl) rfl (lb rfl) (Nat.le_trans (lb rfl) hn) hg_32 hg_33 ?_
          refine R_aload_n (pc := 50) 0 (dc k_M_areMet 32 rfl) rfl rfl ?_
          refine R_getS (pc := 51) (ci := 10) (k := 68) 130 (dc k_M_areMet 33 rfl) fl_M_161 rfl (lb rfl) (Nat.le_trans (lb rfl) hn) (hE 81 (lb rfl) (lb rfl)) rfl (by decide) rfl ?_
          refine R_iload_n (pc := 54) 3 (dc k_M_areMet 34 rfl) rfl rfl ?_
          refine R_iald (pc := 55) (dc k_M_areMet 35 rfl) rfl (lb rfl) (Nat.le_trans (lb rfl) hn) hg_25 hg_26 ?_
          refine R_ishr (pc := 56) (dc k_M_areMet 36 rfl) ?_
          refine R_iand (pc := 57) (dc k_M_areMet 37 rfl) ?_
          refine R_iconst (pc := 58) (a := 1) (dc k_M_areMet 38 rfl) ?_
          refine R_iand (pc := 59) (dc k_M_areMet 39 rfl) ?_
          refine R_iconst (pc := 60) (a := 1) (dc k_M_areMet 40 rfl) ?_
          refine R_icmp_ne (pc := 61) 68 (dc k_M_areMet 41 rfl) rfl (fun hc => ?_) (fun hc => ?_)
          · have hz := Z_neg (show ¬ (n32 (iand (iand (ishr (M 129 (Int.toNat l1_1)) l3_9) (ishr (M 129 (Int.toNat l1_1)) (M 130 (Int.toNat l3_9)))) 1) = 1) from hc) hz
            exact hY_30 (Z_some hz)
          · have hz := Z_pos (show n32 (iand (iand (ishr (M 129 (Int.toNat l1_1)) l3_9) (ishr (M 129 (Int.toNat l1_1)) (M 130 (Int.toNat l3_9)))) 1) = 1 from (Decidable.not_not.mp hc)) hz
            exact hX_29 (Z_some hz)

set_option maxRecDepth 20000 in
theorem ct_M_pairs {E : Nat → Bool} {n : Nat} (hE : ∀ c, 81 ≤ c → c ≤ 138 → E c = true) (hn : 138 ≤ n) {M : Mem} {K : Int → Prop} (hz : Z (M_pairs M) K) : Mt y_M_pairs (1, 20, n, n, E) E [vR 81] M (qP M K) := by
  refine Mt.of (by decide) (lb rfl) (Nat.le_refl _) rfl ?_
  rw [M_pairs] at hz
  show Rr y_M_pairs (1, 20, n, n, E) (qP M K) 0 [(0, vR 81)] [] E n M
  refine R_iconst (pc := 0) (a := 0) (dc k_M_pairs 0 rfl) ?_
  refine R_istore_n (pc := 1) (L' := [(1, vI 0), (0, vR 81)]) (dc k_M_pairs 1 rfl) rfl (lb rfl) rfl ?_
  refine R_iconst (pc := 2) (a := 0) (dc k_M_pairs 2 rfl) ?_
  refine R_istore_n (pc := 3) (L' := [(2, vI 0), (1, vI 0), (0, vR 81)]) (dc k_M_pairs 3 rfl) rfl (lb rfl) rfl ?_
  obtain ⟨K_3, hK_4, hz⟩ := Z_cut hz
  have hX_5 : ∀ (l1_9 : Int), K_3 l1_9 → Rr y_M_pairs (1, 20, n, n, E) (qP M K) 36 [(1, vI l1_9)] [] E n M := by
    intro l1_9 hk
    have hz := hK_4 _ hk
    refine R_iload_n (pc := 36) 0 (dc k_M_pairs 22 rfl) rfl rfl ?_
    exact R_iret (pc := 37) (dc k_M_pairs 23 rfl) rfl rfl rfl ⟨_, rfl, rfl, (Z_some hz)⟩
  refine R_sub [2, 1, 0] rfl ?_
  refine it_R (C := fun aZ : Int × Int => Rr y_M_pairs (1, 20, n, n, E) (qP M K) 4 [(0, vR 81), (1, vI aZ.1), (2, vI aZ.2)] [] E n M) (fun aZ K_6 hC_7 hB_8 hz => ?_) FUEL (0, 0) hz
  obtain ⟨l1_1, l2_2⟩ := aZ
  rw [M_pairs_b4] at hz
  show Rr y_M_pairs (1, 20, n, n, E) (qP M K) 4 [(0, vR 81), (1, vI l1_1), (2, vI l2_2)] [] E n M
  refine R_iload_n (pc := 4) 2 (dc k_M_pairs 4 rfl) rfl rfl ?_
  refine R_aload_n (pc := 5) 0 (dc k_M_pairs 5 rfl) rfl rfl ?_
  refine R_cVP (pc := 6)  (As := []) (S := [vI l2_2]) ck_M_421 (dc k_M_pairs 6 rfl) ⟨rfl, ⟨_, rfl, rfl⟩, (lb rfl), (Nat.le_trans (lb rfl) hn)⟩ (lb rfl) (lb rfl) (lb rfl) rfl (ct_M_personMany hE hn (Z_bind hz)) (fun r_10 hz => ?_)
  refine R_icmp_ge (pc := 9) 36 (dc k_M_pairs 7 rfl) rfl (fun hc => ?_) (fun hc => ?_)
  · have hz := Z_neg (show ¬ (n32 l2_2 < n32 r_10) from (Int.not_lt.mpr hc)) hz
    refine R_sub [1] rfl ?_
    exact hX_5 _ (hB_8 _ (Z_some hz))
  · have hz := Z_pos (show n32 l2_2 < n32 r_10 from (Int.not_le.mp hc)) hz
    refine R_iload_n (pc := 12) 1 (dc k_M_pairs 8 rfl) rfl rfl ?_
    refine R_aload_n (pc := 13) 0 (dc k_M_pairs 9 rfl) rfl rfl ?_
    refine R_getS (pc := 14) (ci := 10) (k := 68) 130 (dc k_M_pairs 10 rfl) fl_M_161 rfl (lb rfl) (Nat.le_trans (lb rfl) hn) (hE 81 (lb rfl) (lb rfl)) rfl (by decide) rfl ?_
    refine R_iload_n (pc := 17) 2 (dc k_M_pairs 11 rfl) rfl rfl ?_
    obtain ⟨⟨hg_11, hg_12⟩, hz⟩ := Z_chk hz
    refine R_iald (pc := 18) (dc k_M_pairs 12 rfl) rfl (lb rfl) (Nat.le_trans (lb rfl) hn) hg_11 hg_12 ?_
    refine R_iload_n (pc := 19) 2 (dc k_M_pairs 13 rfl) rfl rfl ?_
    obtain ⟨K_14, hK_15, hz⟩ := Z_cut hz
    have hJ_16 : ∀ (v_13 : Int), K_14 v_13 → Rr y_M_pairs (1, 20, n, n, E) (qP M K) 28 [(0, vR 81), (2, vI l2_2)] [vI v_13, vI l1_1] E n M := by
      intro v_13 hk
      have hz := hK_15 _ hk
      refine R_iadd (pc := 28) (dc k_M_pairs 18 rfl) ?_
      obtain ⟨l1_18, hl1_18, hz⟩ := Z_lt hz
      refine R_istore_nE (pc := 29) (L' := [(1, vI l1_18), (0, vR 81), (2, vI l2_2)]) (dc k_M_pairs 19 rfl) rfl (lb rfl) hl1_18 rfl ?_
      obtain ⟨l2_19, hl2_19, hz⟩ := Z_lt hz
      refine R_iincE (pc := 30) (L' := [(2, vI l2_19), (1, vI l1_18), (0, vR 81)]) 2 (dc k_M_pairs 20 rfl) rfl (lb rfl) hl2_19 rfl ?_
      refine R_goto (pc := 33) 4 (dc k_M_pairs 21 rfl) rfl ?_
      refine R_sub [2, 1, 0] rfl ?_
      exact hC_7 _ (Z_some hz)
    refine R_icmp_le (pc := 20) 27 (dc k_M_pairs 14 rfl) rfl (fun hc => ?_) (fun hc => ?_)
    · have hz := Z_neg (show ¬ (n32 l2_2 < n32 (M 130 (Int.toNat l2_2))) from (Int.not_lt.mpr hc)) hz
      refine R_iconst (pc := 27) (a := 0) (dc k_M_pairs 17 rfl) ?_
      refine R_sub [0, 2] rfl ?_
      exact hJ_16 _ (Z_some hz)
    · have hz := Z_pos (show n32 l2_2 < n32 (M 130 (Int.toNat l2_2)) from (Int.not_le.mp hc)) hz
      refine R_iconst (pc := 23) (a := 1) (dc k_M_pairs 15 rfl) ?_
      refine R_goto (pc := 24) 28 (dc k_M_pairs 16 rfl) rfl ?_
      refine R_sub [0, 2] rfl ?_
      exact hJ_16 _ (Z_some hz)

set_option maxRecDepth 20000 in
theorem ct_M_stepPair {E : Nat → Bool} {n : Nat} (hE : ∀ c, 81 ≤ c → c ≤ 138 → E c = true) (hn : 138 ≤ n) {p : Int} {M : Mem} {K : Int × Mem → Prop} (hz : Z (M_stepPair p M) K) : Mt y_M_stepPair (1, 20, n, n, E) E [vR 81, vI p] M (qM K) := by
  refine Mt.of (by decide) (lb rfl) (Nat.le_refl _) rfl ?_
  rw [M_stepPair] at hz
  show Rr y_M_stepPair (1, 20, n, n, E) (qM K) 0 [(0, vR 81), (1, vI p)] [] E n M
  refine R_aload_n (pc := 0) 0 (dc k_M_stepPair 0 rfl) rfl rfl ?_
  refine R_getS (pc := 1) (ci := 10) (k := 69) 131 (dc k_M_stepPair 1 rfl) fl_M_164 rfl (lb rfl) (Nat.le_trans (lb rfl) hn) (hE 81 (lb rfl) (lb rfl)) rfl (by decide) rfl ?_
  refine R_iload_n (pc := 4) 1 (dc k_M_stepPair 2 rfl) rfl rfl ?_
  obtain ⟨⟨hg_1, hg_2⟩, hz⟩ := Z_chk hz
  refine R_iald (pc := 5) (dc k_M_stepPair 3 rfl) rfl (lb rfl) (Nat.le_trans (lb rfl) hn) hg_1 hg_2 ?_
  obtain ⟨l2_3, hl2_3, hz⟩ := Z_lt hz
  refine R_istore_nE (pc := 6) (L' := [(2, vI l2_3), (0, vR 81), (1, vI p)]) (dc k_M_stepPair 4 rfl) rfl (lb rfl) hl2_3 rfl ?_
  refine R_iload_n (pc := 7) 0 (dc k_M_stepPair 5 rfl) rfl rfl ?_
  obtain ⟨K_5, hK_6, hz⟩ := Z_cut hz
  have hJ_7 : ∀ (M_4 : Mem), K_5 M_4 → Rr y_M_stepPair (1, 20, n, n, E) (qM K) 30 [(0, vR 81), (1, vI p), (2, vI l2_3)] [] E n M_4 := by
    intro M_4 hk
    have hz := hK_6 _ hk
    refine R_iload_n (pc := 30) 2 (dc k_M_stepPair 20 rfl) rfl rfl ?_
    refine R_if_ge (pc := 31) 43 (dc k_M_stepPair 21 rfl) rfl (fun hc => ?_) (fun hc => ?_)
    · have hz := Z_neg (show ¬ (n32 l2_3 < 0) from (Int.not_lt.mpr hc)) hz
      refine R_iload_n (pc := 43) 2 (dc k_M_stepPair 29 rfl) rfl rfl ?_
      refine R_iconst (pc := 44) (a := 1) (dc k_M_stepPair 30 rfl) ?_
      refine R_iadd (pc := 45) (dc k_M_stepPair 31 rfl) ?_
      obtain ⟨l3_21, hl3_21, hz⟩ := Z_lt hz
      refine R_istore_nE (pc := 46) (L' := [(3, vI l3_21), (0, vR 81), (1, vI p), (2, vI l2_3)]) (dc k_M_stepPair 32 rfl) rfl (lb rfl) hl3_21 rfl ?_
      obtain ⟨K_23, hK_24, hz⟩ := Z_cut hz
      have hX_25 : ∀ (l3_29 : Int), K_23 l3_29 → Rr y_M_stepPair (1, 20, n, n, E) (qM K) 79 [(0, vR 81), (1, vI p), (3, vI l3_29)] [] E n M_4 := by
        intro l3_29 hk
        have hz := hK_24 _ hk
        refine R_iload_n (pc := 79) 2 (dc k_M_stepPair 49 rfl) rfl rfl ?_
        refine R_aload_n (pc := 80) 0 (dc k_M_stepPair 50 rfl) rfl rfl ?_
        refine R_cVP (pc := 81)  (As := []) (S := [vI l3_29]) ck_M_421 (dc k_M_stepPair 51 rfl) ⟨rfl, ⟨_, rfl, rfl⟩, (lb rfl), (Nat.le_trans (lb rfl) hn)⟩ (lb rfl) (lb rfl) (lb rfl) rfl (ct_M_personMany hE hn (Z_bind hz)) (fun r_42 hz => ?_)
        obtain ⟨K_43, hK_44, hz⟩ := Z_cut hz
        have hX_45 : K_43 true → Rr y_M_stepPair (1, 20, n, n, E) (qM K) 96 [(0, vR 81), (1, vI p), (3, vI l3_29)] [] E n M_4 := by
          intro hk
          have hz := Z_pos rfl (hK_44 _ hk)
          refine R_aload_n (pc := 96) 0 (dc k_M_stepPair 58 rfl) rfl rfl ?_
          refine R_getS (pc := 97) (ci := 10) (k := 69) 131 (dc k_M_stepPair 59 rfl) fl_M_164 rfl (lb rfl) (Nat.le_trans (lb rfl) hn) (hE 81 (lb rfl) (lb rfl)) rfl (by decide) rfl ?_
          refine R_iload_n (pc := 100) 1 (dc k_M_stepPair 60 rfl) rfl rfl ?_
          refine R_iconst (pc := 101) (a := (-1)) (dc k_M_stepPair 61 rfl) ?_
          obtain ⟨M_50, hM_50, hz⟩ := Z_lt hz
          refine R_iastE (pc := 102) (dc k_M_stepPair 62 rfl) rfl (lb rfl) (Nat.le_trans (lb rfl) hn) hg_1 hg_2 hM_50 ?_
          refine R_iconst (pc := 103) (a := 0) (dc k_M_stepPair 63 rfl) ?_
          exact R_zret (pc := 104) (dc k_M_stepPair 64 rfl) rfl (Or.inl rfl) rfl rfl ⟨_, rfl, (Z_some hz)⟩
        have hY_46 : K_43 false → Rr y_M_stepPair (1, 20, n, n, E) (qM K) 105 [(0, vR 81), (1, vI p), (3, vI l3_29)] [] E n M_4 := by
          intro hk
          have hz := Z_neg Bool.false_ne_true (hK_44 _ hk)
          refine R_aload_n (pc := 105) 0 (dc k_M_stepPair 65 rfl) rfl rfl ?_
          refine R_getS (pc := 106) (ci := 10) (k := 69) 131 (dc k_M_stepPair 66 rfl) fl_M_164 rfl (lb rfl) (Nat.le_trans (lb rfl) hn) (hE 81 (lb rfl) (lb rfl)) rfl (by decide) rfl ?_
          refine R_iload_n (pc := 109) 1 (dc k_M_stepPair 67 rfl) rfl rfl ?_
          refine R_iload_n (pc := 110) 2 (dc k_M_stepPair 68 rfl) rfl rfl ?_
          obtain ⟨M_51, hM_51, hz⟩ := Z_lt hz
          refine R_iastE (pc := 111) (dc k_M_stepPair 69 rfl) rfl (lb rfl) (Nat.le_trans (lb rfl) hn) hg_1 hg_2 hM_51 ?_
          refine R_aload_n (pc := 112) 0 (dc k_M_stepPair 70 rfl) rfl rfl ?_
          refine R_getS (pc := 113) (ci := 10) (k := 68) 130 (dc k_M_stepPair 71 rfl) fl_M_161 rfl (lb rfl) (Nat.le_trans (lb rfl) hn) (hE 81 (lb rfl) (lb rfl)) rfl (by decide) rfl ?_
          refine R_iload_n (pc := 116) 1 (dc k_M_stepPair 72 rfl) rfl rfl ?_
          refine R_iload_n (pc := 117) 2 (dc k_M_stepPair 73 rfl) rfl rfl ?_
          obtain ⟨⟨hg_52, hg_53⟩, hz⟩ := Z_chk hz
          obtain ⟨M_54, hM_54, hz⟩ := Z_lt hz
          refine R_iastE (pc := 118) (dc k_M_stepPair 74 rfl) rfl (lb rfl) (Nat.le_trans (lb rfl) hn) hg_52 hg_53 hM_54 ?_
          refine R_aload_n (pc := 119) 0 (dc k_M_stepPair 75 rfl) rfl rfl ?_
          refine R_getS (pc := 120) (ci := 10) (k := 68) 130 (dc k_M_stepPair 76 rfl) fl_M_161 rfl (lb rfl) (Nat.le_trans (lb rfl) hn) (hE 81 (lb rfl) (lb rfl)) rfl (by decide) rfl ?_
          refine R_iload_n (pc := 123) 2 (dc k_M_stepPair 77 rfl) rfl rfl ?_
          refine R_iload_n (pc := 124) 1 (dc k_M_stepPair 78 rfl) rfl rfl ?_
          obtain ⟨⟨hg_55, hg_56⟩, hz⟩ := Z_chk hz
          obtain ⟨M_57, hM_57, hz⟩ := Z_lt hz
          refine R_iastE (pc := 125) (dc k_M_stepPair 79 rfl) rfl (lb rfl) (Nat.le_trans (lb rfl) hn) hg_55 hg_56 hM_57 ?_
          refine R_iconst (pc := 126) (a := 1) (dc k_M_stepPair 80 rfl) ?_
          exact R_zret (pc := 127) (dc k_M_stepPair 81 rfl) rfl (Or.inr rfl) rfl rfl ⟨_, rfl, (Z_some hz)⟩
        refine R_icmp_ge (pc := 84) 96 (dc k_M_stepPair 52 rfl) rfl (fun hc => ?_) (fun hc => ?_)
        · have hz := Z_neg (show ¬ (n32 l3_29 < n32 r_42) from (Int.not_lt.mpr hc)) hz
          exact hX_45 (Z_some hz)
        · have hz := Z_pos (show n32 l3_29 < n32 r_42 from (Int.not_le.mp hc)) hz
          refine R_aload_n (pc := 87) 0 (dc k_M_stepPair 53 rfl) rfl rfl ?_
          refine R_getS (pc := 88) (ci := 10) (k := 68) 130 (dc k_M_stepPair 54 rfl) fl_M_161 rfl (lb rfl) (Nat.le_trans (lb rfl) hn) (hE 81 (lb rfl) (lb rfl)) rfl (by decide) rfl ?_
          refine R_iload_n (pc := 91) 1 (dc k_M_stepPair 55 rfl) rfl rfl ?_
          obtain ⟨⟨hg_48, hg_49⟩, hz⟩ := Z_chk hz
          refine R_iald (pc := 92) (dc k_M_stepPair 56 rfl) rfl (lb rfl) (Nat.le_trans (lb rfl) hn) hg_48 hg_49 ?_
          refine R_if_lt (pc := 93) 105 (dc k_M_stepPair 57 rfl) rfl (fun hc => ?_) (fun hc => ?_)
          · have hz := Z_neg (show ¬ (0 ≤ n32 (M_4 130 (Int.toNat p))) from (Int.not_le.mpr hc)) hz
            exact hY_46 (Z_some hz)
          · have hz := Z_pos (show 0 ≤ n32 (M_4 130 (Int.toNat p)) from (Int.not_lt.mp hc)) hz
            exact hX_45 (Z_some hz)
      refine R_sub [1, 2, 0] rfl ?_
      refine it_R (C := fun aZ : Int => Rr y_M_stepPair (1, 20, n, n, E) (qM K) 47 [(0, vR 81), (1, vI p), (3, vI aZ)] [] E n M_4) (fun l3_22 K_26 hC_27 hB_28 hz => ?_) FUEL l3_21 hz
      rw [M_stepPair_b47] at hz
      show Rr y_M_stepPair (1, 20, n, n, E) (qM K) 47 [(0, vR 81), (1, vI p), (3, vI l3_22)] [] E n M_4
      refine R_iload_n (pc := 47) 2 (dc k_M_stepPair 33 rfl) rfl rfl ?_
      refine R_aload_n (pc := 48) 0 (dc k_M_stepPair 34 rfl) rfl rfl ?_
      refine R_cVP (pc := 49)  (As := []) (S := [vI l3_22]) ck_M_421 (dc k_M_stepPair 35 rfl) ⟨rfl, ⟨_, rfl, rfl⟩, (lb rfl), (Nat.le_trans (lb rfl) hn)⟩ (lb rfl) (lb rfl) (lb rfl) rfl (ct_M_personMany hE hn (Z_bind hz)) (fun r_30 hz => ?_)
      refine R_icmp_ge (pc := 52) 79 (dc k_M_stepPair 36 rfl) rfl (fun hc => ?_) (fun hc => ?_)
      · have hz := Z_neg (show ¬ (n32 l3_22 < n32 r_30) from (Int.not_lt.mpr hc)) hz
        exact hX_25 _ (hB_28 _ (Z_some hz))
      · have hz := Z_pos (show n32 l3_22 < n32 r_30 from (Int.not_le.mp hc)) hz
        refine R_aload_n (pc := 55) 0 (dc k_M_stepPair 37 rfl) rfl rfl ?_
        refine R_getS (pc := 56) (ci := 10) (k := 68) 130 (dc k_M_stepPair 38 rfl) fl_M_161 rfl (lb rfl) (Nat.le_trans (lb rfl) hn) (hE 81 (lb rfl) (lb rfl)) rfl (by decide) rfl ?_
        refine R_iload_n (pc := 59) 2 (dc k_M_stepPair 39 rfl) rfl rfl ?_
        obtain ⟨⟨hg_31, hg_32⟩, hz⟩ := Z_chk hz
        refine R_iald (pc := 60) (dc k_M_stepPair 40 rfl) rfl (lb rfl) (Nat.le_trans (lb rfl) hn) hg_31 hg_32 ?_
        obtain ⟨K_33, hK_34, hz⟩ := Z_cut hz
        have hX_35 : K_33 true → Rr y_M_stepPair (1, 20, n, n, E) (qM K) 73 [(0, vR 81), (1, vI p), (3, vI l3_22)] [] E n M_4 := by
          intro hk
          have hz := Z_pos rfl (hK_34 _ hk)
          obtain ⟨l3_40, hl3_40, hz⟩ := Z_lt hz
          refine R_iincE (pc := 73) (L' := [(3, vI l3_40), (0, vR 81), (1, vI p)]) 2 (dc k_M_stepPair 47 rfl) rfl (lb rfl) hl3_40 rfl ?_
          refine R_goto (pc := 76) 47 (dc k_M_stepPair 48 rfl) rfl ?_
          refine R_sub [1, 2, 0] rfl ?_
          exact hC_27 _ (Z_some hz)
        have hY_36 : K_33 false → Rr y_M_stepPair (1, 20, n, n, E) (qM K) 79 [(0, vR 81), (1, vI p), (3, vI l3_22)] [] E n M_4 := by
          intro hk
          have hz := Z_neg Bool.false_ne_true (hK_34 _ hk)
          exact hX_25 _ (hB_28 _ (Z_some hz))
        refine R_if_ge (pc := 61) 73 (dc k_M_stepPair 41 rfl) rfl (fun hc => ?_) (fun hc => ?_)
        · have hz := Z_neg (show ¬ (n32 (M_4 130 (Int.toNat l3_22)) < 0) from (Int.not_lt.mpr hc)) hz
          exact hX_35 (Z_some hz)
        · have hz := Z_pos (show n32 (M_4 130 (Int.toNat l3_22)) < 0 from (Int.not_le.mp hc)) hz
          refine R_aload_n (pc := 64) 0 (dc k_M_stepPair 42 rfl) rfl rfl ?_
          refine R_getS (pc := 65) (ci := 10) (k := 68) 130 (dc k_M_stepPair 43 rfl) fl_M_161 rfl (lb rfl) (Nat.le_trans (lb rfl) hn) (hE 81 (lb rfl) (lb rfl)) rfl (by decide) rfl ?_
          refine R_iload_n (pc := 68) 1 (dc k_M_stepPair 44 rfl) rfl rfl ?_
          obtain ⟨⟨hg_38, hg_39⟩, hz⟩ := Z_chk hz
          refine R_iald (pc := 69) (dc k_M_stepPair 45 rfl) rfl (lb rfl) (Nat.le_trans (lb rfl) hn) hg_38 hg_39 ?_
          refine R_if_lt (pc := 70) 79 (dc k_M_stepPair 46 rfl) rfl (fun hc => ?_) (fun hc => ?_)
          · have hz := Z_neg (show ¬ (0 ≤ n32 (M_4 130 (Int.toNat p))) from (Int.not_le.mpr hc)) hz
            exact hY_36 (Z_some hz)
          · have hz := Z_pos (show 0 ≤ n32 (M_4 130 (Int.toNat p)) from (Int.not_lt.mp hc)) hz
            exact hX_35 (Z_some hz)
    · have hz := Z_pos (show n32 l2_3 < 0 from (Int.not_le.mp hc)) hz
      refine R_aload_n (pc := 34) 0 (dc k_M_stepPair 22 rfl) rfl rfl ?_
      refine R_getS (pc := 35) (ci := 10) (k := 69) 131 (dc k_M_stepPair 23 rfl) fl_M_164 rfl (lb rfl) (Nat.le_trans (lb rfl) hn) (hE 81 (lb rfl) (lb rfl)) rfl (by decide) rfl ?_
      refine R_iload_n (pc := 38) 1 (dc k_M_stepPair 24 rfl) rfl rfl ?_
      refine R_iload_n (pc := 39) 1 (dc k_M_stepPair 25 rfl) rfl rfl ?_
      obtain ⟨M_20, hM_20, hz⟩ := Z_lt hz
      refine R_iastE (pc := 40) (dc k_M_stepPair 26 rfl) rfl (lb rfl) (Nat.le_trans (lb rfl) hn) hg_1 hg_2 hM_20 ?_
      refine R_iconst (pc := 41) (a := 1) (dc k_M_stepPair 27 rfl) ?_
      exact R_zret (pc := 42) (dc k_M_stepPair 28 rfl) rfl (Or.inr rfl) rfl rfl ⟨_, rfl, (Z_some hz)⟩
  have hX_14 : ((0 ≤ n32 l2_3) ∧ (¬ n32 l2_3 = n32 p)) → Rr y_M_stepPair (1, 20, n, n, E) (qM K) 16 [(2, vI l2_3), (0, vR 81), (1, vI p)] [] E n M := by
    intro hc
    have hz := Z_pos hc hz
    refine R_aload_n (pc := 16) 1 (dc k_M_stepPair 10 rfl) rfl rfl ?_
    refine R_getS (pc := 17) (ci := 10) (k := 68) 130 (dc k_M_stepPair 11 rfl) fl_M_161 rfl (lb rfl) (Nat.le_trans (lb rfl) hn) (hE 81 (lb rfl) (lb rfl)) rfl (by decide) rfl ?_
    refine R_iload_n (pc := 20) 2 (dc k_M_stepPair 12 rfl) rfl rfl ?_
    refine R_iconst (pc := 21) (a := (-1)) (dc k_M_stepPair 13 rfl) ?_
    obtain ⟨⟨hg_8, hg_9⟩, hz⟩ := Z_chk hz
    obtain ⟨M_10, hM_10, hz⟩ := Z_lt hz
    refine R_iastE (pc := 22) (dc k_M_stepPair 14 rfl) rfl (lb rfl) (Nat.le_trans (lb rfl) hn) hg_8 hg_9 hM_10 ?_
    refine R_aload_n (pc := 23) 1 (dc k_M_stepPair 15 rfl) rfl rfl ?_
    refine R_getS (pc := 24) (ci := 10) (k := 68) 130 (dc k_M_stepPair 16 rfl) fl_M_161 rfl (lb rfl) (Nat.le_trans (lb rfl) hn) (hE 81 (lb rfl) (lb rfl)) rfl (by decide) rfl ?_
    refine R_iload_n (pc := 27) 0 (dc k_M_stepPair 17 rfl) rfl rfl ?_
    refine R_iconst (pc := 28) (a := (-1)) (dc k_M_stepPair 18 rfl) ?_
    obtain ⟨⟨hg_11, hg_12⟩, hz⟩ := Z_chk hz
    obtain ⟨M_13, hM_13, hz⟩ := Z_lt hz
    refine R_iastE (pc := 29) (dc k_M_stepPair 19 rfl) rfl (lb rfl) (Nat.le_trans (lb rfl) hn) hg_11 hg_12 hM_13 ?_
    refine R_sub [1, 2, 0] rfl ?_
    exact hJ_7 _ (Z_some hz)
  have hY_15 : ¬ ((0 ≤ n32 l2_3) ∧ (¬ n32 l2_3 = n32 p)) → Rr y_M_stepPair (1, 20, n, n, E) (qM K) 30 [(2, vI l2_3), (0, vR 81), (1, vI p)] [] E n M := by
    intro hc
    have hz := Z_neg hc hz
    refine R_sub [1, 2, 0] rfl ?_
    exact hJ_7 _ (Z_some hz)
  refine R_if_lt (pc := 8) 30 (dc k_M_stepPair 6 rfl) rfl (fun hc => ?_) (fun hc => ?_)
  · have hc_16 : n32 l2_3 < 0 := hc
    exact hY_15 (fun z => (Int.not_le.mpr hc_16) z.1)
  · have hc_17 : 0 ≤ n32 l2_3 := (Int.not_lt.mp hc)
    refine R_iload_n (pc := 11) 0 (dc k_M_stepPair 7 rfl) rfl rfl ?_
    refine R_iload_n (pc := 12) 2 (dc k_M_stepPair 8 rfl) rfl rfl ?_
    refine R_icmp_eq (pc := 13) 30 (dc k_M_stepPair 9 rfl) rfl (fun hc => ?_) (fun hc => ?_)
    · have hc_18 : n32 l2_3 = n32 p := hc
      exact hY_15 (fun z => (fun z => z hc_18) z.2)
    · have hc_19 : ¬ n32 l2_3 = n32 p := hc
      exact hX_14 ⟨hc_17, hc_19⟩

set_option maxRecDepth 20000 in
theorem ct_M_leaguesOf {E : Nat → Bool} {n : Nat} (hE : ∀ c, 81 ≤ c → c ≤ 138 → E c = true) (hn : 138 ≤ n) {w : Int} {k : Int} {M : Mem} {K : Int × Mem → Prop} (hz : Z (M_leaguesOf w k M) K) : Mt y_M_leaguesOf (2, 43, n, n, E) E [vR 81, vI w, vI k] M (qM K) := by
  refine Mt.of (by decide) (lb rfl) (Nat.le_refl _) rfl ?_
  rw [M_leaguesOf] at hz
  show Rr y_M_leaguesOf (2, 43, n, n, E) (qM K) 0 [(0, vR 81), (1, vI w), (2, vI k)] [] E n M
  refine R_aload_n (pc := 0) 0 (dc k_M_leaguesOf 0 rfl) rfl rfl ?_
  refine R_iconst (pc := 1) (a := 0) (dc k_M_leaguesOf 1 rfl) ?_
  obtain ⟨M_1, hM_1, hz⟩ := Z_lt hz
  refine R_putIE (pc := 2) (ci := 10) (k := 70) (dc k_M_leaguesOf 2 rfl) fl_M_553 rfl (lb rfl) (Nat.le_trans (lb rfl) hn) rfl rfl rfl hM_1 ?_
  refine R_iconst (pc := 5) (a := 0) (dc k_M_leaguesOf 3 rfl) ?_
  refine R_istore_n (pc := 6) (L' := [(3, vI 0), (0, vR 81), (1, vI w), (2, vI k)]) (dc k_M_leaguesOf 4 rfl) rfl (lb rfl) rfl ?_
  obtain ⟨K_4, hK_5, hz⟩ := Z_cut hz
  have hX_6 : ∀ (M_10 : Mem), K_4 M_10 → Rr y_M_leaguesOf (2, 43, n, n, E) (qM K) 98 [(0, vR 81)] [] E n M_10 := by
    intro M_10 hk
    have hz := hK_5 _ hk
    refine R_iconst (pc := 98) (a := 0) (dc k_M_leaguesOf 54 rfl) ?_
    refine R_istore_n (pc := 99) (L' := [(3, vI 0), (0, vR 81)]) (dc k_M_leaguesOf 55 rfl) rfl (lb rfl) rfl ?_
    obtain ⟨K_38, hK_39, hz⟩ := Z_cut hz
    have hX_40 : ∀ (M_44 : Mem), K_38 M_44 → Rr y_M_leaguesOf (2, 43, n, n, E) (qM K) 126 [(0, vR 81)] [] E n M_44 := by
      intro M_44 hk
      have hz := hK_39 _ hk
      refine R_aload_n (pc := 126) 0 (dc k_M_leaguesOf 71 rfl) rfl rfl ?_
      refine R_cVP (pc := 127)  (As := []) (S := []) ck_M_556 (dc k_M_leaguesOf 72 rfl) ⟨rfl, ⟨_, rfl, rfl⟩, (lb rfl), (Nat.le_trans (lb rfl) hn)⟩ (lb rfl) (lb rfl) (lb rfl) rfl (ct_M_areMet hE hn (Z_bind hz)) (fun r_53 hz => ?_)
      obtain ⟨K_55, hK_56, hz⟩ := Z_cut hz
      have hJ_57 : ∀ (v_54 : Int), K_55 v_54 → Rr y_M_leaguesOf (2, 43, n, n, E) (qM K) 138 [(0, vR 81)] [vI v_54] E n M_44 := by
        intro v_54 hk
        have hz := hK_56 _ hk
        refine R_istore_n (pc := 138) (L' := [(3, vI v_54), (0, vR 81)]) (dc k_M_leaguesOf 77 rfl) rfl (lb rfl) rfl ?_
        refine R_iconst (pc := 139) (a := 0) (dc k_M_leaguesOf 78 rfl) ?_
        refine R_istore (pc := 140) (L' := [(4, vI 0), (3, vI v_54), (0, vR 81)]) (dc k_M_leaguesOf 79 rfl) (lb rfl) rfl ?_
        obtain ⟨K_62, hK_63, hz⟩ := Z_cut hz
        have hX_64 : ∀ (l3_68 : Int) (M_69 : Mem), K_62 (l3_68, M_69) → Rr y_M_leaguesOf (2, 43, n, n, E) (qM K) 215 [(3, vI l3_68)] [] E n M_69 := by
          intro l3_68 M_69 hk
          have hz := hK_63 _ hk
          refine R_iload_n (pc := 215) 0 (dc k_M_leaguesOf 115 rfl) rfl rfl ?_
          exact R_iret (pc := 216) (dc k_M_leaguesOf 116 rfl) rfl rfl rfl ⟨_, rfl, (Z_some hz)⟩
        refine R_sub [2, 1, 0] rfl ?_
        refine it_R (C := fun aZ : Int × Int × Mem => Rr y_M_leaguesOf (2, 43, n, n, E) (qM K) 142 [(0, vR 81), (3, vI aZ.1), (4, vI aZ.2.1)] [] E n aZ.2.2) (fun aZ K_65 hC_66 hB_67 hz => ?_) FUEL (v_54, 0, M_44) hz
        obtain ⟨l3_59, l4_60, M_61⟩ := aZ
        rw [M_leaguesOf_b142] at hz
        show Rr y_M_leaguesOf (2, 43, n, n, E) (qM K) 142 [(0, vR 81), (3, vI l3_59), (4, vI l4_60)] [] E n M_61
        refine R_iload (pc := 142) 2 (dc k_M_leaguesOf 80 rfl) rfl ?_
        have hX_93 : ((0 ≤ n32 l4_60) ∧ (¬ n32 l3_59 = 0)) → Rr y_M_leaguesOf (2, 43, n, n, E) (qM K) 151 [(0, vR 81), (3, vI l3_59), (4, vI l4_60)] [] E n M_61 := by
          intro hc
          have hz := Z_pos hc hz
          refine R_iload (pc := 151) 2 (dc k_M_leaguesOf 84 rfl) rfl ?_
          refine R_aload_n (pc := 153) 0 (dc k_M_leaguesOf 85 rfl) rfl rfl ?_
          refine R_cVP (pc := 154)  (As := []) (S := [vI l4_60]) ck_M_421 (dc k_M_leaguesOf 86 rfl) ⟨rfl, ⟨_, rfl, rfl⟩, (lb rfl), (Nat.le_trans (lb rfl) hn)⟩ (lb rfl) (lb rfl) (lb rfl) rfl (ct_M_personMany hE hn (Z_bind hz)) (fun r_70 hz => ?_)
          refine R_icmp_ne (pc := 157) 190 (dc k_M_leaguesOf 87 rfl) rfl (fun hc => ?_) (fun hc => ?_)
          · have hz := Z_neg (show ¬ (n32 l4_60 = n32 r_70) from hc) hz
            refine R_aload_n (pc := 190) 0 (dc k_M_leaguesOf 102 rfl) rfl rfl ?_
            refine R_iload (pc := 191) 2 (dc k_M_leaguesOf 103 rfl) rfl ?_
            refine R_cVM (pc := 193)  (As := [vI l4_60]) (S := []) ck_M_562 (dc k_M_leaguesOf 104 rfl) ⟨rfl, ⟨_, rfl, rfl⟩, (lb rfl), (Nat.le_trans (lb rfl) hn)⟩ (lb rfl) (lb rfl) (lb rfl) rfl (ct_M_stepPair hE hn (Z_bind hz)) (fun r_85 M_86 hz => ?_)
            obtain ⟨K_88, hK_89, hz⟩ := Z_cut hz
            have hJ_90 : ∀ (v_87 : Int), K_88 v_87 → Rr y_M_leaguesOf (2, 43, n, n, E) (qM K) 210 [(0, vR 81), (3, vI l3_59)] [vI v_87] E n M_86 := by
              intro v_87 hk
              have hz := hK_89 _ hk
              refine R_istore (pc := 210) (L' := [(4, vI v_87), (0, vR 81), (3, vI l3_59)]) (dc k_M_leaguesOf 113 rfl) (lb rfl) rfl ?_
              refine R_goto (pc := 212) 142 (dc k_M_leaguesOf 114 rfl) rfl ?_
              refine R_sub [1, 2, 0] rfl ?_
              exact hC_66 _ (Z_some hz)
            refine R_if_eq (pc := 196) 206 (dc k_M_leaguesOf 105 rfl) rfl (fun hc => ?_) (fun hc => ?_)
            · have hz := Z_neg (show ¬ (¬ n32 r_85 = 0) from (fun z => z hc)) hz
              refine R_iload (pc := 206) 2 (dc k_M_leaguesOf 110 rfl) rfl ?_
              refine R_iconst (pc := 208) (a := 1) (dc k_M_leaguesOf 111 rfl) ?_
              refine R_isub (pc := 209) (dc k_M_leaguesOf 112 rfl) ?_
              refine R_sub [0, 1] rfl ?_
              exact hJ_90 _ (Z_some hz)
            · have hz := Z_pos (show ¬ n32 r_85 = 0 from hc) hz
              refine R_iload (pc := 199) 2 (dc k_M_leaguesOf 106 rfl) rfl ?_
              refine R_iconst (pc := 201) (a := 1) (dc k_M_leaguesOf 107 rfl) ?_
              refine R_iadd (pc := 202) (dc k_M_leaguesOf 108 rfl) ?_
              refine R_goto (pc := 203) 210 (dc k_M_leaguesOf 109 rfl) rfl ?_
              refine R_sub [0, 1] rfl ?_
              exact hJ_90 _ (Z_some hz)
          · have hz := Z_pos (show n32 l4_60 = n32 r_70 from (Decidable.not_not.mp hc)) hz
            refine R_aload_n (pc := 160) 0 (dc k_M_leaguesOf 88 rfl) rfl rfl ?_
            refine R_cVP (pc := 161)  (As := []) (S := []) ck_M_556 (dc k_M_leaguesOf 89 rfl) ⟨rfl, ⟨_, rfl, rfl⟩, (lb rfl), (Nat.le_trans (lb rfl) hn)⟩ (lb rfl) (lb rfl) (lb rfl) rfl (ct_M_areMet hE hn (Z_bind hz)) (fun r_71 hz => ?_)
            obtain ⟨K_73, hK_74, hz⟩ := Z_cut hz
            have hJ_75 : ∀ (l3_72 : Int), K_73 l3_72 → Rr y_M_leaguesOf (2, 43, n, n, E) (qM K) 184 [(0, vR 81), (3, vI l3_72), (4, vI l4_60)] [] E n M_61 := by
              intro l3_72 hk
              have hz := hK_74 _ hk
              obtain ⟨l4_84, hl4_84, hz⟩ := Z_lt hz
              refine R_iincE (pc := 184) (L' := [(4, vI l4_84), (0, vR 81), (3, vI l3_72)]) 2 (dc k_M_leaguesOf 100 rfl) rfl (lb rfl) hl4_84 rfl ?_
              refine R_goto (pc := 187) 142 (dc k_M_leaguesOf 101 rfl) rfl ?_
              refine R_sub [1, 2, 0] rfl ?_
              exact hC_66 _ (Z_some hz)
            refine R_if_eq (pc := 164) 184 (dc k_M_leaguesOf 90 rfl) rfl (fun hc => ?_) (fun hc => ?_)
            · have hz := Z_neg (show ¬ (¬ n32 r_71 = 0) from (fun z => z hc)) hz
              exact hJ_75 _ (Z_some hz)
            · have hz := Z_pos (show ¬ n32 r_71 = 0 from hc) hz
              refine R_iload_n (pc := 167) 1 (dc k_M_leaguesOf 91 rfl) rfl rfl ?_
              obtain ⟨K_76, hK_77, hz⟩ := Z_cut hz
              have hX_78 : K_76 true → Rr y_M_leaguesOf (2, 43, n, n, E) (qM K) 179 [(0, vR 81), (3, vI l3_59), (4, vI l4_60)] [] E n M_61 := by
                intro hk
                have hz := Z_pos rfl (hK_77 _ hk)
                refine R_aload_n (pc := 179) 0 (dc k_M_leaguesOf 97 rfl) rfl rfl ?_
                refine R_cVP (pc := 180)  (As := []) (S := []) ck_M_559 (dc k_M_leaguesOf 98 rfl) ⟨rfl, ⟨_, rfl, rfl⟩, (lb rfl), (Nat.le_trans (lb rfl) hn)⟩ (lb rfl) (lb rfl) (lb rfl) rfl (ct_M_pairs hE hn (Z_bind hz)) (fun r_82 hz => ?_)
                refine R_istore_n (pc := 183) (L' := [(3, vI r_82), (0, vR 81), (4, vI l4_60)]) (dc k_M_leaguesOf 99 rfl) rfl (lb rfl) rfl ?_
                refine R_sub [1, 0, 2] rfl ?_
                exact hJ_75 _ (Z_some hz)
              have hY_79 : K_76 false → Rr y_M_leaguesOf (2, 43, n, n, E) (qM K) 184 [(0, vR 81), (3, vI l3_59), (4, vI l4_60)] [] E n M_61 := by
                intro hk
                have hz := Z_neg Bool.false_ne_true (hK_77 _ hk)
                exact hJ_75 _ (Z_some hz)
              refine R_if_lt (pc := 168) 179 (dc k_M_leaguesOf 92 rfl) rfl (fun hc => ?_) (fun hc => ?_)
              · have hz := Z_neg (show ¬ (0 ≤ n32 l3_59) from (Int.not_le.mpr hc)) hz
                exact hX_78 (Z_some hz)
              · have hz := Z_pos (show 0 ≤ n32 l3_59 from (Int.not_lt.mp hc)) hz
                refine R_aload_n (pc := 171) 0 (dc k_M_leaguesOf 93 rfl) rfl rfl ?_
                refine R_cVP (pc := 172)  (As := []) (S := []) ck_M_559 (dc k_M_leaguesOf 94 rfl) ⟨rfl, ⟨_, rfl, rfl⟩, (lb rfl), (Nat.le_trans (lb rfl) hn)⟩ (lb rfl) (lb rfl) (lb rfl) rfl (ct_M_pairs hE hn (Z_bind hz)) (fun r_81 hz => ?_)
                refine R_iload_n (pc := 175) 1 (dc k_M_leaguesOf 95 rfl) rfl rfl ?_
                refine R_icmp_ge (pc := 176) 184 (dc k_M_leaguesOf 96 rfl) rfl (fun hc => ?_) (fun hc => ?_)
                · have hz := Z_neg (show ¬ (n32 r_81 < n32 l3_59) from (Int.not_lt.mpr hc)) hz
                  exact hY_79 (Z_some hz)
                · have hz := Z_pos (show n32 r_81 < n32 l3_59 from (Int.not_le.mp hc)) hz
                  exact hX_78 (Z_some hz)
        have hY_94 : ¬ ((0 ≤ n32 l4_60) ∧ (¬ n32 l3_59 = 0)) → Rr y_M_leaguesOf (2, 43, n, n, E) (qM K) 215 [(0, vR 81), (3, vI l3_59), (4, vI l4_60)] [] E n M_61 := by
          intro hc
          have hz := Z_neg hc hz
          refine R_sub [1] rfl ?_
          exact hX_64 _ _ (hB_67 _ (Z_some hz))
        refine R_if_lt (pc := 144) 215 (dc k_M_leaguesOf 81 rfl) rfl (fun hc => ?_) (fun hc => ?_)
        · have hc_95 : n32 l4_60 < 0 := hc
          exact hY_94 (fun z => (Int.not_le.mpr hc_95) z.1)
        · have hc_96 : 0 ≤ n32 l4_60 := (Int.not_lt.mp hc)
          refine R_iload_n (pc := 147) 1 (dc k_M_leaguesOf 82 rfl) rfl rfl ?_
          refine R_if_eq (pc := 148) 215 (dc k_M_leaguesOf 83 rfl) rfl (fun hc => ?_) (fun hc => ?_)
          · have hc_97 : n32 l3_59 = 0 := hc
            exact hY_94 (fun z => (fun z => z hc_97) z.2)
          · have hc_98 : ¬ n32 l3_59 = 0 := hc
            exact hX_93 ⟨hc_96, hc_98⟩
      refine R_if_eq (pc := 130) 137 (dc k_M_leaguesOf 73 rfl) rfl (fun hc => ?_) (fun hc => ?_)
      · have hz := Z_neg (show ¬ (¬ n32 r_53 = 0) from (fun z => z hc)) hz
        refine R_iconst (pc := 137) (a := (-1)) (dc k_M_leaguesOf 76 rfl) ?_
        exact hJ_57 _ (Z_some hz)
      · have hz := Z_pos (show ¬ n32 r_53 = 0 from hc) hz
        refine R_iconst (pc := 133) (a := 0) (dc k_M_leaguesOf 74 rfl) ?_
        refine R_goto (pc := 134) 138 (dc k_M_leaguesOf 75 rfl) rfl ?_
        exact hJ_57 _ (Z_some hz)
    refine R_sub [1, 0] rfl ?_
    refine it_R (C := fun aZ : Int × Mem => Rr y_M_leaguesOf (2, 43, n, n, E) (qM K) 100 [(0, vR 81), (3, vI aZ.1)] [] E n aZ.2) (fun aZ K_41 hC_42 hB_43 hz => ?_) FUEL (0, M_10) hz
    obtain ⟨l3_36, M_37⟩ := aZ
    rw [M_leaguesOf_b100] at hz
    show Rr y_M_leaguesOf (2, 43, n, n, E) (qM K) 100 [(0, vR 81), (3, vI l3_36)] [] E n M_37
    refine R_iload_n (pc := 100) 1 (dc k_M_leaguesOf 56 rfl) rfl rfl ?_
    refine R_bipush (pc := 101) (a := 8) (dc k_M_leaguesOf 57 rfl) (by decide) ?_
    refine R_icmp_ge (pc := 103) 126 (dc k_M_leaguesOf 58 rfl) rfl (fun hc => ?_) (fun hc => ?_)
    · have hz := Z_neg (show ¬ (n32 l3_36 < 8) from (Int.not_lt.mpr hc)) hz
      refine R_sub [0] rfl ?_
      exact hX_40 _ (hB_43 _ (Z_some hz))
    · have hz := Z_pos (show n32 l3_36 < 8 from (Int.not_le.mp hc)) hz
      refine R_aload_n (pc := 106) 0 (dc k_M_leaguesOf 59 rfl) rfl rfl ?_
      refine R_getS (pc := 107) (ci := 10) (k := 68) 130 (dc k_M_leaguesOf 60 rfl) fl_M_161 rfl (lb rfl) (Nat.le_trans (lb rfl) hn) (hE 81 (lb rfl) (lb rfl)) rfl (by decide) rfl ?_
      refine R_iload_n (pc := 110) 1 (dc k_M_leaguesOf 61 rfl) rfl rfl ?_
      refine R_iconst (pc := 111) (a := (-1)) (dc k_M_leaguesOf 62 rfl) ?_
      obtain ⟨⟨hg_45, hg_46⟩, hz⟩ := Z_chk hz
      obtain ⟨M_47, hM_47, hz⟩ := Z_lt hz
      refine R_iastE (pc := 112) (dc k_M_leaguesOf 63 rfl) rfl (lb rfl) (Nat.le_trans (lb rfl) hn) hg_45 hg_46 hM_47 ?_
      refine R_aload_n (pc := 113) 0 (dc k_M_leaguesOf 64 rfl) rfl rfl ?_
      refine R_getS (pc := 114) (ci := 10) (k := 69) 131 (dc k_M_leaguesOf 65 rfl) fl_M_164 rfl (lb rfl) (Nat.le_trans (lb rfl) hn) (hE 81 (lb rfl) (lb rfl)) rfl (by decide) rfl ?_
      refine R_iload_n (pc := 117) 1 (dc k_M_leaguesOf 66 rfl) rfl rfl ?_
      refine R_iconst (pc := 118) (a := (-1)) (dc k_M_leaguesOf 67 rfl) ?_
      obtain ⟨⟨hg_48, hg_49⟩, hz⟩ := Z_chk hz
      obtain ⟨M_50, hM_50, hz⟩ := Z_lt hz
      refine R_iastE (pc := 119) (dc k_M_leaguesOf 68 rfl) rfl (lb rfl) (Nat.le_trans (lb rfl) hn) hg_48 hg_49 hM_50 ?_
      obtain ⟨l3_51, hl3_51, hz⟩ := Z_lt hz
      refine R_iincE (pc := 120) (L' := [(3, vI l3_51), (0, vR 81)]) 1 (dc k_M_leaguesOf 69 rfl) rfl (lb rfl) hl3_51 rfl ?_
      refine R_goto (pc := 123) 100 (dc k_M_leaguesOf 70 rfl) rfl ?_
      refine R_sub [1, 0] rfl ?_
      exact hC_42 _ (Z_some hz)
  refine R_sub [1, 2, 3, 0] rfl ?_
  refine it_R (C := fun aZ : Int × Mem => Rr y_M_leaguesOf (2, 43, n, n, E) (qM K) 7 [(0, vR 81), (1, vI w), (2, vI k), (3, vI aZ.1)] [] E n aZ.2) (fun aZ K_7 hC_8 hB_9 hz => ?_) FUEL (0, M_1) hz
  obtain ⟨l3_2, M_3⟩ := aZ
  rw [M_leaguesOf_b7] at hz
  show Rr y_M_leaguesOf (2, 43, n, n, E) (qM K) 7 [(0, vR 81), (1, vI w), (2, vI k), (3, vI l3_2)] [] E n M_3
  refine R_iload_n (pc := 7) 3 (dc k_M_leaguesOf 5 rfl) rfl rfl ?_
  refine R_aload_n (pc := 8) 0 (dc k_M_leaguesOf 6 rfl) rfl rfl ?_
  refine R_getI (pc := 9) (ci := 10) (k := 57) (dc k_M_leaguesOf 7 rfl) fl_M_310 rfl (lb rfl) (Nat.le_trans (lb rfl) hn) rfl (Or.inl rfl) ?_
  refine R_icmp_ge (pc := 12) 98 (dc k_M_leaguesOf 8 rfl) rfl (fun hc => ?_) (fun hc => ?_)
  · have hz := Z_neg (show ¬ (n32 l3_2 < n32 (M_3 81 57)) from (Int.not_lt.mpr hc)) hz
    refine R_sub [0] rfl ?_
    exact hX_6 _ (hB_9 _ (Z_some hz))
  · have hz := Z_pos (show n32 l3_2 < n32 (M_3 81 57) from (Int.not_le.mp hc)) hz
    refine R_aload_n (pc := 15) 0 (dc k_M_leaguesOf 9 rfl) rfl rfl ?_
    refine R_iload_n (pc := 16) 3 (dc k_M_leaguesOf 10 rfl) rfl rfl ?_
    refine R_iload_n (pc := 17) 2 (dc k_M_leaguesOf 11 rfl) rfl rfl ?_
    refine R_cVP (pc := 18)  (As := [vI l3_2, vI k]) (S := []) ck_M_495 (dc k_M_leaguesOf 12 rfl) ⟨rfl, ⟨_, rfl, rfl⟩, (lb rfl), (Nat.le_trans (lb rfl) hn)⟩ (lb rfl) (lb rfl) (lb rfl) rfl (ct_M_counts hE hn (Z_bind hz)) (fun r_11 hz => ?_)
    obtain ⟨K_13, hK_14, hz⟩ := Z_cut hz
    have hJ_15 : ∀ (M_12 : Mem), K_13 M_12 → Rr y_M_leaguesOf (2, 43, n, n, E) (qM K) 92 [(0, vR 81), (1, vI w), (2, vI k), (3, vI l3_2)] [] E n M_12 := by
      intro M_12 hk
      have hz := hK_14 _ hk
      obtain ⟨l3_34, hl3_34, hz⟩ := Z_lt hz
      refine R_iincE (pc := 92) (L' := [(3, vI l3_34), (0, vR 81), (1, vI w), (2, vI k)]) 3 (dc k_M_leaguesOf 52 rfl) rfl (lb rfl) hl3_34 rfl ?_
      refine R_goto (pc := 95) 7 (dc k_M_leaguesOf 53 rfl) rfl ?_
      refine R_sub [1, 2, 3, 0] rfl ?_
      exact hC_8 _ (Z_some hz)
    obtain ⟨K_16, hK_17, hz⟩ := Z_cut hz
    have hX_18 : K_16 true → Rr y_M_leaguesOf (2, 43, n, n, E) (qM K) 46 [(0, vR 81), (1, vI w), (2, vI k), (3, vI l3_2)] [] E n M_3 := by
      intro hk
      have hz := Z_pos rfl (hK_17 _ hk)
      refine R_aload_n (pc := 46) 0 (dc k_M_leaguesOf 26 rfl) rfl rfl ?_
      refine R_getS (pc := 47) (ci := 10) (k := 47) 112 (dc k_M_leaguesOf 27 rfl) fl_M_107 rfl (lb rfl) (Nat.le_trans (lb rfl) hn) (hE 81 (lb rfl) (lb rfl)) rfl (by decide) rfl ?_
      refine R_aload_n (pc := 50) 0 (dc k_M_leaguesOf 28 rfl) rfl rfl ?_
      refine R_getS (pc := 51) (ci := 10) (k := 52) 117 (dc k_M_leaguesOf 29 rfl) fl_M_122 rfl (lb rfl) (Nat.le_trans (lb rfl) hn) (hE 81 (lb rfl) (lb rfl)) rfl (by decide) rfl ?_
      refine R_iload_n (pc := 54) 3 (dc k_M_leaguesOf 30 rfl) rfl rfl ?_
      obtain ⟨⟨hg_24, hg_25⟩, hz⟩ := Z_chk hz
      refine R_iald (pc := 55) (dc k_M_leaguesOf 31 rfl) rfl (lb rfl) (Nat.le_trans (lb rfl) hn) hg_24 hg_25 ?_
      refine R_iload_n (pc := 56) 1 (dc k_M_leaguesOf 32 rfl) rfl rfl ?_
      refine R_cSP (pc := 57)  (As := [vI (M_3 117 (Int.toNat l3_2)), vI w]) (S := [vR 112]) ck_M_430 (dc k_M_leaguesOf 33 rfl) (lb rfl) (lb rfl) (lb rfl) rfl (ct_M_spot hE hn (Z_bind hz)) (fun r_26 hz => ?_)
      obtain ⟨⟨hg_27, hg_28⟩, hz⟩ := Z_chk hz
      refine R_zald (pc := 60) (dc k_M_leaguesOf 34 rfl) rfl (lb rfl) (Nat.le_trans (lb rfl) hn) hg_27 hg_28 ?_
      refine R_if_eq (pc := 61) 67 (dc k_M_leaguesOf 35 rfl) rfl (fun hc => ?_) (fun hc => ?_)
      · have hz := Z_neg (show ¬ (¬ n32 (M_3 112 (Int.toNat r_26)) = 0) from (fun z => z hc)) hz
        refine R_aload_n (pc := 67) 0 (dc k_M_leaguesOf 37 rfl) rfl rfl ?_
        refine R_getS (pc := 68) (ci := 10) (k := 67) 129 (dc k_M_leaguesOf 38 rfl) fl_M_158 rfl (lb rfl) (Nat.le_trans (lb rfl) hn) (hE 81 (lb rfl) (lb rfl)) rfl (by decide) rfl ?_
        refine R_aload_n (pc := 71) 0 (dc k_M_leaguesOf 39 rfl) rfl rfl ?_
        refine R_getI (pc := 72) (ci := 10) (k := 70) (dc k_M_leaguesOf 40 rfl) fl_M_553 rfl (lb rfl) (Nat.le_trans (lb rfl) hn) rfl (Or.inl rfl) ?_
        refine R_aload_n (pc := 75) 0 (dc k_M_leaguesOf 41 rfl) rfl rfl ?_
        refine R_getS (pc := 76) (ci := 10) (k := 51) 116 (dc k_M_leaguesOf 42 rfl) fl_M_119 rfl (lb rfl) (Nat.le_trans (lb rfl) hn) (hE 81 (lb rfl) (lb rfl)) rfl (by decide) rfl ?_
        refine R_iload_n (pc := 79) 3 (dc k_M_leaguesOf 43 rfl) rfl rfl ?_
        refine R_iald (pc := 80) (dc k_M_leaguesOf 44 rfl) rfl (lb rfl) (Nat.le_trans (lb rfl) hn) hg_24 hg_25 ?_
        obtain ⟨⟨hg_29, hg_30⟩, hz⟩ := Z_chk hz
        obtain ⟨M_31, hM_31, hz⟩ := Z_lt hz
        refine R_iastE (pc := 81) (dc k_M_leaguesOf 45 rfl) rfl (lb rfl) (Nat.le_trans (lb rfl) hn) hg_29 hg_30 hM_31 ?_
        refine R_aload_n (pc := 82) 0 (dc k_M_leaguesOf 46 rfl) rfl rfl ?_
        refine R_dup (pc := 83) (dc k_M_leaguesOf 47 rfl) rfl ?_
        refine R_getI (pc := 84) (ci := 10) (k := 70) (dc k_M_leaguesOf 48 rfl) fl_M_553 rfl (lb rfl) (Nat.le_trans (lb rfl) hn) rfl (Or.inl rfl) ?_
        refine R_iconst (pc := 87) (a := 1) (dc k_M_leaguesOf 49 rfl) ?_
        refine R_iadd (pc := 88) (dc k_M_leaguesOf 50 rfl) ?_
        obtain ⟨M_32, hM_32, hz⟩ := Z_lt hz
        refine R_putIE (pc := 89) (ci := 10) (k := 70) (dc k_M_leaguesOf 51 rfl) fl_M_553 rfl (lb rfl) (Nat.le_trans (lb rfl) hn) rfl rfl rfl hM_32 ?_
        exact hJ_15 _ (Z_some hz)
      · have hz := Z_pos (show ¬ n32 (M_3 112 (Int.toNat r_26)) = 0 from hc) hz
        refine R_goto (pc := 64) 92 (dc k_M_leaguesOf 36 rfl) rfl ?_
        exact hJ_15 _ (Z_some hz)
    have hY_19 : K_16 false → Rr y_M_leaguesOf (2, 43, n, n, E) (qM K) 92 [(0, vR 81), (1, vI w), (2, vI k), (3, vI l3_2)] [] E n M_3 := by
      intro hk
      have hz := Z_neg Bool.false_ne_true (hK_17 _ hk)
      exact hJ_15 _ (Z_some hz)
    refine R_if_eq (pc := 21) 92 (dc k_M_leaguesOf 13 rfl) rfl (fun hc => ?_) (fun hc => ?_)
    · have hz := Z_neg (show ¬ (¬ n32 r_11 = 0) from (fun z => z hc)) hz
      exact hY_19 (Z_some hz)
    · have hz := Z_pos (show ¬ n32 r_11 = 0 from hc) hz
      refine R_aload_n (pc := 24) 0 (dc k_M_leaguesOf 14 rfl) rfl rfl ?_
      refine R_getS (pc := 25) (ci := 10) (k := 56) 121 (dc k_M_leaguesOf 15 rfl) fl_M_134 rfl (lb rfl) (Nat.le_trans (lb rfl) hn) (hE 81 (lb rfl) (lb rfl)) rfl (by decide) rfl ?_
      refine R_iload_n (pc := 28) 3 (dc k_M_leaguesOf 16 rfl) rfl rfl ?_
      obtain ⟨⟨hg_21, hg_22⟩, hz⟩ := Z_chk hz
      refine R_zald (pc := 29) (dc k_M_leaguesOf 17 rfl) rfl (lb rfl) (Nat.le_trans (lb rfl) hn) hg_21 hg_22 ?_
      refine R_if_eq (pc := 30) 92 (dc k_M_leaguesOf 18 rfl) rfl (fun hc => ?_) (fun hc => ?_)
      · have hz := Z_neg (show ¬ (¬ n32 (M_3 121 (Int.toNat l3_2)) = 0) from (fun z => z hc)) hz
        exact hY_19 (Z_some hz)
      · have hz := Z_pos (show ¬ n32 (M_3 121 (Int.toNat l3_2)) = 0 from hc) hz
        refine R_aload_n (pc := 33) 0 (dc k_M_leaguesOf 19 rfl) rfl rfl ?_
        refine R_getS (pc := 34) (ci := 10) (k := 51) 116 (dc k_M_leaguesOf 20 rfl) fl_M_119 rfl (lb rfl) (Nat.le_trans (lb rfl) hn) (hE 81 (lb rfl) (lb rfl)) rfl (by decide) rfl ?_
        refine R_iload_n (pc := 37) 3 (dc k_M_leaguesOf 21 rfl) rfl rfl ?_
        refine R_iald (pc := 38) (dc k_M_leaguesOf 22 rfl) rfl (lb rfl) (Nat.le_trans (lb rfl) hn) hg_21 hg_22 ?_
        refine R_cSP (pc := 39)  (As := [vI (M_3 116 (Int.toNat l3_2))]) (S := []) ck_M_464 (dc k_M_leaguesOf 23 rfl) (lb rfl) (lb rfl) (lb rfl) rfl (ct_M_bitsOf hE hn (Z_bind hz)) (fun r_23 hz => ?_)
        refine R_iconst (pc := 42) (a := 2) (dc k_M_leaguesOf 24 rfl) ?_
        refine R_icmp_lt (pc := 43) 92 (dc k_M_leaguesOf 25 rfl) rfl (fun hc => ?_) (fun hc => ?_)
        · have hz := Z_neg (show ¬ (2 ≤ n32 r_23) from (Int.not_le.mpr hc)) hz
          exact hY_19 (Z_some hz)
        · have hz := Z_pos (show 2 ≤ n32 r_23 from (Int.not_lt.mp hc)) hz
          exact hX_18 (Z_some hz)

set_option maxRecDepth 20000 in
theorem ct_M_leagues {E : Nat → Bool} {n : Nat} (hE : ∀ c, 81 ≤ c → c ≤ 138 → E c = true) (hn : 138 ≤ n) {w : Int} {k : Int} {M : Mem} {K : Int × Mem → Prop} (hz : Z (M_leagues w k M) K) : Mt y_M_leagues (3, 67, n, n, E) E [vR 81, vI w, vI k] M (qM K) := by
  refine Mt.of (by decide) (lb rfl) (Nat.le_refl _) rfl ?_
  rw [M_leagues] at hz
  show Rr y_M_leagues (3, 67, n, n, E) (qM K) 0 [(0, vR 81), (1, vI w), (2, vI k)] [] E n M
  refine R_aload_n (pc := 0) 0 (dc k_M_leagues 0 rfl) rfl rfl ?_
  refine R_iload_n (pc := 1) 1 (dc k_M_leagues 1 rfl) rfl rfl ?_
  refine R_cVP (pc := 2)  (As := [vI w]) (S := []) ck_M_455 (dc k_M_leagues 2 rfl) ⟨rfl, ⟨_, rfl, rfl⟩, (lb rfl), (Nat.le_trans (lb rfl) hn)⟩ (lb rfl) (lb rfl) (lb rfl) rfl (ct_M_isWorld hE hn (Z_bind hz)) (fun r_1 hz => ?_)
  refine R_if_eq (pc := 5) 17 (dc k_M_leagues 3 rfl) rfl (fun hc => ?_) (fun hc => ?_)
  · have hz := Z_neg (show ¬ (¬ n32 r_1 = 0) from (fun z => z hc)) hz
    refine R_bipush (pc := 17) (a := (-2)) (dc k_M_leagues 9 rfl) (by decide) ?_
    exact R_iret (pc := 19) (dc k_M_leagues 10 rfl) rfl rfl rfl ⟨_, rfl, (Z_some hz)⟩
  · have hz := Z_pos (show ¬ n32 r_1 = 0 from hc) hz
    refine R_aload_n (pc := 8) 0 (dc k_M_leagues 4 rfl) rfl rfl ?_
    refine R_iload_n (pc := 9) 1 (dc k_M_leagues 5 rfl) rfl rfl ?_
    refine R_iload_n (pc := 10) 2 (dc k_M_leagues 6 rfl) rfl rfl ?_
    refine R_cVM (pc := 11)  (As := [vI w, vI k]) (S := []) ck_M_565 (dc k_M_leagues 7 rfl) ⟨rfl, ⟨_, rfl, rfl⟩, (lb rfl), (Nat.le_trans (lb rfl) hn)⟩ (lb rfl) (lb rfl) (lb rfl) rfl (ct_M_leaguesOf hE hn (Z_bind hz)) (fun r_2 M_3 hz => ?_)
    refine R_goto (pc := 14) 19 (dc k_M_leagues 8 rfl) rfl ?_
    exact R_iret (pc := 19) (dc k_M_leagues 10 rfl) rfl rfl rfl ⟨_, rfl, (Z_some hz)⟩

set_option maxRecDepth 20000 in
theorem ct_M_plain {E : Nat → Bool} {n : Nat} (hE : ∀ c, 81 ≤ c → c ≤ 138 → E c = true) (hn : 138 ≤ n) {k : Int} {M : Mem} {K : Int × Mem → Prop} (hz : Z (M_plain k M) K) : Mt y_M_plain (6, 144, n, n, E) E [vR 81, vI k] M (qM K) := by
  refine Mt.of (by decide) (lb rfl) (Nat.le_refl _) rfl ?_
  rw [M_plain] at hz
  show Rr y_M_plain (6, 144, n, n, E) (qM K) 0 [(0, vR 81), (1, vI k)] [] E n M
  refine R_aload_n (pc := 0) 0 (dc k_M_plain 0 rfl) rfl rfl ?_
  refine R_iload_n (pc := 1) 1 (dc k_M_plain 1 rfl) rfl rfl ?_
  refine R_cVV (pc := 2)  (As := [vI k]) (S := []) ck_M_502 (dc k_M_plain 2 rfl) ⟨rfl, ⟨_, rfl, rfl⟩, (lb rfl), (Nat.le_trans (lb rfl) hn)⟩ (lb rfl) (lb rfl) (lb rfl) rfl (ct_M_findLeft hE hn (Z_bind hz)) (fun M_1 hz => ?_)
  refine R_iconst (pc := 5) (a := (-1)) (dc k_M_plain 3 rfl) ?_
  refine R_istore_n (pc := 6) (L' := [(2, vI (-1)), (0, vR 81), (1, vI k)]) (dc k_M_plain 4 rfl) rfl (lb rfl) rfl ?_
  refine R_iconst (pc := 7) (a := 0) (dc k_M_plain 5 rfl) ?_
  refine R_istore_n (pc := 8) (L' := [(3, vI 0), (2, vI (-1)), (0, vR 81), (1, vI k)]) (dc k_M_plain 6 rfl) rfl (lb rfl) rfl ?_
  refine R_iconst (pc := 9) (a := 0) (dc k_M_plain 7 rfl) ?_
  refine R_istore (pc := 10) (L' := [(4, vI 0), (3, vI 0), (2, vI (-1)), (0, vR 81), (1, vI k)]) (dc k_M_plain 8 rfl) (lb rfl) rfl ?_
  obtain ⟨K_6, hK_7, hz⟩ := Z_cut hz
  have hX_8 : ∀ (l2_12 : Int) (M_13 : Mem), K_6 (l2_12, M_13) → Rr y_M_plain (6, 144, n, n, E) (qM K) 74 [(2, vI l2_12)] [] E n M_13 := by
    intro l2_12 M_13 hk
    have hz := hK_7 _ hk
    refine R_iload_n (pc := 74) 0 (dc k_M_plain 39 rfl) rfl rfl ?_
    exact R_iret (pc := 75) (dc k_M_plain 40 rfl) rfl rfl rfl ⟨_, rfl, (Z_some hz)⟩
  refine R_sub [3, 4, 2, 1, 0] rfl ?_
  refine it_R (C := fun aZ : Int × Int × Int × Mem => Rr y_M_plain (6, 144, n, n, E) (qM K) 12 [(0, vR 81), (1, vI k), (2, vI aZ.1), (3, vI aZ.2.1), (4, vI aZ.2.2.1)] [] E n aZ.2.2.2) (fun aZ K_9 hC_10 hB_11 hz => ?_) FUEL ((-1), 0, 0, M_1) hz
  obtain ⟨l2_2, l3_3, l4_4, M_5⟩ := aZ
  rw [M_plain_b12] at hz
  show Rr y_M_plain (6, 144, n, n, E) (qM K) 12 [(0, vR 81), (1, vI k), (2, vI l2_2), (3, vI l3_3), (4, vI l4_4)] [] E n M_5
  refine R_iload (pc := 12) 4 (dc k_M_plain 9 rfl) rfl ?_
  refine R_aload_n (pc := 14) 0 (dc k_M_plain 10 rfl) rfl rfl ?_
  refine R_cVP (pc := 15)  (As := []) (S := [vI l4_4]) ck_M_427 (dc k_M_plain 11 rfl) ⟨rfl, ⟨_, rfl, rfl⟩, (lb rfl), (Nat.le_trans (lb rfl) hn)⟩ (lb rfl) (lb rfl) (lb rfl) rfl (ct_M_worldMany hE hn (Z_bind hz)) (fun r_14 hz => ?_)
  refine R_icmp_ge (pc := 18) 74 (dc k_M_plain 12 rfl) rfl (fun hc => ?_) (fun hc => ?_)
  · have hz := Z_neg (show ¬ (n32 l4_4 < n32 r_14) from (Int.not_lt.mpr hc)) hz
    refine R_sub [2] rfl ?_
    exact hX_8 _ _ (hB_11 _ (Z_some hz))
  · have hz := Z_pos (show n32 l4_4 < n32 r_14 from (Int.not_le.mp hc)) hz
    refine R_aload_n (pc := 21) 0 (dc k_M_plain 13 rfl) rfl rfl ?_
    refine R_getS (pc := 22) (ci := 10) (k := 59) 122 (dc k_M_plain 14 rfl) fl_M_137 rfl (lb rfl) (Nat.le_trans (lb rfl) hn) (hE 81 (lb rfl) (lb rfl)) rfl (by decide) rfl ?_
    refine R_iload (pc := 25) 4 (dc k_M_plain 15 rfl) rfl ?_
    obtain ⟨⟨hg_15, hg_16⟩, hz⟩ := Z_chk hz
    refine R_zald (pc := 27) (dc k_M_plain 16 rfl) rfl (lb rfl) (Nat.le_trans (lb rfl) hn) hg_15 hg_16 ?_
    obtain ⟨K_19, hK_20, hz⟩ := Z_cut hz
    have hJ_21 : ∀ (v_17 : Int) (M_18 : Mem), K_19 (v_17, M_18) → Rr y_M_plain (6, 144, n, n, E) (qM K) 42 [(0, vR 81), (1, vI k), (2, vI l2_2), (3, vI l3_3), (4, vI l4_4)] [vI v_17] E n M_18 := by
      intro v_17 M_18 hk
      have hz := hK_20 _ hk
      refine R_istore (pc := 42) (L' := [(5, vI v_17), (0, vR 81), (1, vI k), (2, vI l2_2), (3, vI l3_3), (4, vI l4_4)]) (dc k_M_plain 24 rfl) (lb rfl) rfl ?_
      refine R_iload (pc := 44) 0 (dc k_M_plain 25 rfl) rfl ?_
      obtain ⟨K_27, hK_28, hz⟩ := Z_cut hz
      have hJ_29 : ∀ (l2_25 : Int) (l3_26 : Int), K_27 (l2_25, l3_26) → Rr y_M_plain (6, 144, n, n, E) (qM K) 68 [(0, vR 81), (1, vI k), (2, vI l2_25), (3, vI l3_26), (4, vI l4_4)] [] E n M_18 := by
        intro l2_25 l3_26 hk
        have hz := hK_28 _ hk
        obtain ⟨l4_37, hl4_37, hz⟩ := Z_lt hz
        refine R_iincE (pc := 68) (L' := [(4, vI l4_37), (0, vR 81), (1, vI k), (2, vI l2_25), (3, vI l3_26)]) 4 (dc k_M_plain 37 rfl) rfl (lb rfl) hl4_37 rfl ?_
        refine R_goto (pc := 71) 12 (dc k_M_plain 38 rfl) rfl ?_
        refine R_sub [1, 2, 3, 4, 0] rfl ?_
        exact hC_10 _ (Z_some hz)
      refine R_if_lt (pc := 46) 68 (dc k_M_plain 26 rfl) rfl (fun hc => ?_) (fun hc => ?_)
      · have hz := Z_neg (show ¬ (0 ≤ n32 v_17) from (Int.not_le.mpr hc)) hz
        refine R_sub [1, 2, 3, 4, 5] rfl ?_
        exact hJ_29 _ _ (Z_some hz)
      · have hz := Z_pos (show 0 ≤ n32 v_17 from (Int.not_lt.mp hc)) hz
        refine R_iload_n (pc := 49) 3 (dc k_M_plain 27 rfl) rfl rfl ?_
        have hX_30 : ((0 ≤ n32 l2_2) ∧ (n32 l3_3 ≤ n32 v_17)) → Rr y_M_plain (6, 144, n, n, E) (qM K) 59 [(5, vI v_17), (0, vR 81), (1, vI k), (2, vI l2_2), (3, vI l3_3), (4, vI l4_4)] [] E n M_18 := by
          intro hc
          have hz := Z_pos hc hz
          refine R_goto (pc := 59) 68 (dc k_M_plain 32 rfl) rfl ?_
          refine R_sub [1, 2, 3, 4, 5] rfl ?_
          exact hJ_29 _ _ (Z_some hz)
        have hY_31 : ¬ ((0 ≤ n32 l2_2) ∧ (n32 l3_3 ≤ n32 v_17)) → Rr y_M_plain (6, 144, n, n, E) (qM K) 62 [(5, vI v_17), (0, vR 81), (1, vI k), (2, vI l2_2), (3, vI l3_3), (4, vI l4_4)] [] E n M_18 := by
          intro hc
          have hz := Z_neg hc hz
          refine R_iload (pc := 62) 5 (dc k_M_plain 33 rfl) rfl ?_
          refine R_istore_n (pc := 64) (L' := [(2, vI l4_4), (5, vI v_17), (0, vR 81), (1, vI k), (3, vI l3_3), (4, vI l4_4)]) (dc k_M_plain 34 rfl) rfl (lb rfl) rfl ?_
          refine R_iload (pc := 65) 1 (dc k_M_plain 35 rfl) rfl ?_
          refine R_istore_n (pc := 67) (L' := [(3, vI v_17), (2, vI l4_4), (5, vI v_17), (0, vR 81), (1, vI k), (4, vI l4_4)]) (dc k_M_plain 36 rfl) rfl (lb rfl) rfl ?_
          refine R_sub [3, 4, 1, 0, 5] rfl ?_
          exact hJ_29 _ _ (Z_some hz)
        refine R_if_lt (pc := 50) 62 (dc k_M_plain 28 rfl) rfl (fun hc => ?_) (fun hc => ?_)
        · have hc_32 : n32 l2_2 < 0 := hc
          exact hY_31 (fun z => (Int.not_le.mpr hc_32) z.1)
        · have hc_33 : 0 ≤ n32 l2_2 := (Int.not_lt.mp hc)
          refine R_iload (pc := 53) 0 (dc k_M_plain 29 rfl) rfl ?_
          refine R_iload_n (pc := 55) 4 (dc k_M_plain 30 rfl) rfl rfl ?_
          refine R_icmp_lt (pc := 56) 62 (dc k_M_plain 31 rfl) rfl (fun hc => ?_) (fun hc => ?_)
          · have hc_34 : n32 v_17 < n32 l3_3 := hc
            exact hY_31 (fun z => (Int.not_le.mpr hc_34) z.2)
          · have hc_35 : n32 l3_3 ≤ n32 v_17 := (Int.not_lt.mp hc)
            exact hX_30 ⟨hc_33, hc_35⟩
    refine R_if_eq (pc := 28) 41 (dc k_M_plain 17 rfl) rfl (fun hc => ?_) (fun hc => ?_)
    · have hz := Z_neg (show ¬ (¬ n32 (M_5 122 (Int.toNat l4_4)) = 0) from (fun z => z hc)) hz
      refine R_iconst (pc := 41) (a := (-1)) (dc k_M_plain 23 rfl) ?_
      exact hJ_21 _ _ (Z_some hz)
    · have hz := Z_pos (show ¬ n32 (M_5 122 (Int.toNat l4_4)) = 0 from hc) hz
      refine R_aload_n (pc := 31) 0 (dc k_M_plain 18 rfl) rfl rfl ?_
      refine R_iload (pc := 32) 4 (dc k_M_plain 19 rfl) rfl ?_
      refine R_iload_n (pc := 34) 1 (dc k_M_plain 20 rfl) rfl rfl ?_
      refine R_cVM (pc := 35)  (As := [vI l4_4, vI k]) (S := []) ck_M_565 (dc k_M_plain 21 rfl) ⟨rfl, ⟨_, rfl, rfl⟩, (lb rfl), (Nat.le_trans (lb rfl) hn)⟩ (lb rfl) (lb rfl) (lb rfl) rfl (ct_M_leaguesOf hE hn (Z_bind hz)) (fun r_22 M_23 hz => ?_)
      refine R_goto (pc := 38) 42 (dc k_M_plain 22 rfl) rfl ?_
      exact hJ_21 _ _ (Z_some hz)

set_option maxRecDepth 20000 in
theorem ct_M_turns {E : Nat → Bool} {n : Nat} (hE : ∀ c, 81 ≤ c → c ≤ 138 → E c = true) (hn : 138 ≤ n) {answered : Int} {toYes : Int} {M : Mem} {K : Int → Prop} (hz : Z (M_turns answered toYes M) K) : Mt y_M_turns (0, 0, n, n, E) E [vI answered, vI toYes] M (qP M K) := by
  refine Mt.of (by decide) (lb rfl) (Nat.le_refl _) rfl ?_
  rw [M_turns] at hz
  show Rr y_M_turns (0, 0, n, n, E) (qP M K) 0 [(0, vI answered), (1, vI toYes)] [] E n M
  refine R_iload_n (pc := 0) 1 (dc k_M_turns 0 rfl) rfl rfl ?_
  obtain ⟨K_2, hK_3, hz⟩ := Z_cut hz
  have hJ_4 : ∀ (v_1 : Int), K_2 v_1 → Rr y_M_turns (0, 0, n, n, E) (qP M K) 9 [(0, vI answered)] [vI v_1] E n M := by
    intro v_1 hk
    have hz := hK_3 _ hk
    refine R_iload_n (pc := 9) 0 (dc k_M_turns 5 rfl) rfl rfl ?_
    refine R_iconst (pc := 10) (a := 2) (dc k_M_turns 6 rfl) ?_
    obtain ⟨K_7, hK_8, hz⟩ := Z_cut hz
    have hJ_9 : ∀ (v_6 : Int), K_7 v_6 → Rr y_M_turns (0, 0, n, n, E) (qP M K) 28 [] [vI v_6, vI v_1] E n M := by
      intro v_6 hk
      have hz := hK_8 _ hk
      refine R_isub (pc := 28) (dc k_M_turns 16 rfl) ?_
      exact R_iret (pc := 29) (dc k_M_turns 17 rfl) rfl rfl rfl ⟨_, rfl, rfl, (Z_some hz)⟩
    refine R_icmp_ne (pc := 11) 18 (dc k_M_turns 7 rfl) rfl (fun hc => ?_) (fun hc => ?_)
    · have hz := Z_neg (show ¬ (n32 answered = 2) from hc) hz
      refine R_iload_n (pc := 18) 0 (dc k_M_turns 10 rfl) rfl rfl ?_
      refine R_iconst (pc := 19) (a := 1) (dc k_M_turns 11 rfl) ?_
      refine R_icmp_ne (pc := 20) 27 (dc k_M_turns 12 rfl) rfl (fun hc => ?_) (fun hc => ?_)
      · have hz := Z_neg (show ¬ (n32 answered = 1) from hc) hz
        refine R_iconst (pc := 27) (a := (-1)) (dc k_M_turns 15 rfl) ?_
        refine R_sub [] rfl ?_
        exact hJ_9 _ (Z_some hz)
      · have hz := Z_pos (show n32 answered = 1 from (Decidable.not_not.mp hc)) hz
        refine R_iconst (pc := 23) (a := 1) (dc k_M_turns 13 rfl) ?_
        refine R_goto (pc := 24) 28 (dc k_M_turns 14 rfl) rfl ?_
        refine R_sub [] rfl ?_
        exact hJ_9 _ (Z_some hz)
    · have hz := Z_pos (show n32 answered = 2 from (Decidable.not_not.mp hc)) hz
      refine R_iconst (pc := 14) (a := 0) (dc k_M_turns 8 rfl) ?_
      refine R_goto (pc := 15) 28 (dc k_M_turns 9 rfl) rfl ?_
      refine R_sub [] rfl ?_
      exact hJ_9 _ (Z_some hz)
  refine R_if_eq (pc := 1) 8 (dc k_M_turns 1 rfl) rfl (fun hc => ?_) (fun hc => ?_)
  · have hz := Z_neg (show ¬ (¬ n32 toYes = 0) from (fun z => z hc)) hz
    refine R_iconst (pc := 8) (a := (-1)) (dc k_M_turns 4 rfl) ?_
    refine R_sub [0] rfl ?_
    exact hJ_4 _ (Z_some hz)
  · have hz := Z_pos (show ¬ n32 toYes = 0 from hc) hz
    refine R_iconst (pc := 4) (a := 1) (dc k_M_turns 2 rfl) ?_
    refine R_goto (pc := 5) 9 (dc k_M_turns 3 rfl) rfl ?_
    refine R_sub [0] rfl ?_
    exact hJ_4 _ (Z_some hz)

set_option maxRecDepth 20000 in
theorem ct_M_turned {E : Nat → Bool} {n : Nat} (hE : ∀ c, 81 ≤ c → c ≤ 138 → E c = true) (hn : 138 ≤ n) {r : Int} {w : Int} {over : Int} {M : Mem} {K : Int → Prop} (hz : Z (M_turned r w over M) K) : Mt y_M_turned (1, 24, n, n, E) E [vR 81, vI r, vI w, vI over] M (qP M K) := by
  refine Mt.of (by decide) (lb rfl) (Nat.le_refl _) rfl ?_
  rw [M_turned] at hz
  show Rr y_M_turned (1, 24, n, n, E) (qP M K) 0 [(0, vR 81), (1, vI r), (2, vI w), (3, vI over)] [] E n M
  refine R_iload_n (pc := 0) 3 (dc k_M_turned 0 rfl) rfl rfl ?_
  obtain ⟨K_2, hK_3, hz⟩ := Z_cut hz
  have hJ_4 : ∀ (v_1 : Int), K_2 v_1 → Rr y_M_turned (1, 24, n, n, E) (qP M K) 9 [(0, vR 81), (1, vI r), (2, vI w), (3, vI over)] [vI v_1] E n M := by
    intro v_1 hk
    have hz := hK_3 _ hk
    refine R_istore (pc := 9) (L' := [(4, vI v_1), (0, vR 81), (1, vI r), (2, vI w), (3, vI over)]) (dc k_M_turned 5 rfl) (lb rfl) rfl ?_
    refine R_iconst (pc := 11) (a := (-1)) (dc k_M_turned 6 rfl) ?_
    refine R_istore (pc := 12) (L' := [(5, vI (-1)), (4, vI v_1), (0, vR 81), (1, vI r), (2, vI w), (3, vI over)]) (dc k_M_turned 7 rfl) (lb rfl) rfl ?_
    refine R_iconst (pc := 14) (a := 1) (dc k_M_turned 8 rfl) ?_
    refine R_istore (pc := 15) (L' := [(6, vI 1), (5, vI (-1)), (4, vI v_1), (0, vR 81), (1, vI r), (2, vI w), (3, vI over)]) (dc k_M_turned 9 rfl) (lb rfl) rfl ?_
    obtain ⟨K_8, hK_9, hz⟩ := Z_cut hz
    have hX_10 : ∀ (l5_14 : Int), K_8 l5_14 → Rr y_M_turned (1, 24, n, n, E) (qP M K) 183 [(5, vI l5_14)] [] E n M := by
      intro l5_14 hk
      have hz := hK_9 _ hk
      refine R_iload (pc := 183) 0 (dc k_M_turned 96 rfl) rfl ?_
      exact R_iret (pc := 185) (dc k_M_turned 97 rfl) rfl rfl rfl ⟨_, rfl, rfl, (Z_some hz)⟩
    refine R_sub [3, 4, 5, 6, 2, 1, 0] rfl ?_
    refine it_R (C := fun aZ : Int × Int => Rr y_M_turned (1, 24, n, n, E) (qP M K) 17 [(0, vR 81), (1, vI r), (2, vI w), (3, vI over), (4, vI v_1), (5, vI aZ.1), (6, vI aZ.2)] [] E n M) (fun aZ K_11 hC_12 hB_13 hz => ?_) FUEL ((-1), 1) hz
    obtain ⟨l5_6, l6_7⟩ := aZ
    rw [M_turned_b17] at hz
    show Rr y_M_turned (1, 24, n, n, E) (qP M K) 17 [(0, vR 81), (1, vI r), (2, vI w), (3, vI over), (4, vI v_1), (5, vI l5_6), (6, vI l6_7)] [] E n M
    refine R_iload (pc := 17) 6 (dc k_M_turned 10 rfl) rfl ?_
    refine R_iconst (pc := 19) (a := 1) (dc k_M_turned 11 rfl) ?_
    refine R_aload_n (pc := 20) 0 (dc k_M_turned 12 rfl) rfl rfl ?_
    refine R_getS (pc := 21) (ci := 10) (k := 15) 88 (dc k_M_turned 13 rfl) fl_M_33 rfl (lb rfl) (Nat.le_trans (lb rfl) hn) (hE 81 (lb rfl) (lb rfl)) rfl (by decide) rfl ?_
    refine R_aload_n (pc := 24) 0 (dc k_M_turned 14 rfl) rfl rfl ?_
    refine R_getI (pc := 25) (ci := 10) (k := 38) (dc k_M_turned 15 rfl) fl_M_304 rfl (lb rfl) (Nat.le_trans (lb rfl) hn) rfl (Or.inl rfl) ?_
    obtain ⟨⟨hg_15, hg_16⟩, hz⟩ := Z_chk hz
    refine R_iald (pc := 28) (dc k_M_turned 16 rfl) rfl (lb rfl) (Nat.le_trans (lb rfl) hn) hg_15 hg_16 ?_
    refine R_ishl (pc := 29) (dc k_M_turned 17 rfl) ?_
    refine R_icmp_ge (pc := 30) 183 (dc k_M_turned 18 rfl) rfl (fun hc => ?_) (fun hc => ?_)
    · have hz := Z_neg (show ¬ (n32 l6_7 < n32 (ishl 1 (M 88 (Int.toNat (M 81 38))))) from (Int.not_lt.mpr hc)) hz
      refine R_sub [5] rfl ?_
      exact hX_10 _ (hB_13 _ (Z_some hz))
    · have hz := Z_pos (show n32 l6_7 < n32 (ishl 1 (M 88 (Int.toNat (M 81 38)))) from (Int.not_le.mp hc)) hz
      refine R_iload (pc := 33) 5 (dc k_M_turned 19 rfl) rfl ?_
      obtain ⟨K_18, hK_19, hz⟩ := Z_cut hz
      have hJ_20 : ∀ (l5_17 : Int), K_18 l5_17 → Rr y_M_turned (1, 24, n, n, E) (qP M K) 177 [(0, vR 81), (1, vI r), (2, vI w), (3, vI over), (4, vI v_1), (5, vI l5_17), (6, vI l6_7)] [] E n M := by
        intro l5_17 hk
        have hz := hK_19 _ hk
        obtain ⟨l6_59, hl6_59, hz⟩ := Z_lt hz
        refine R_iincE (pc := 177) (L' := [(6, vI l6_59), (0, vR 81), (1, vI r), (2, vI w), (3, vI over), (4, vI v_1), (5, vI l5_17)]) 6 (dc k_M_turned 94 rfl) rfl (lb rfl) hl6_59 rfl ?_
        refine R_goto (pc := 180) 17 (dc k_M_turned 95 rfl) rfl ?_
        refine R_sub [1, 2, 3, 4, 5, 6, 0] rfl ?_
        exact hC_12 _ (Z_some hz)
      obtain ⟨K_21, hK_22, hz⟩ := Z_cut hz
      have hX_23 : K_21 true → Rr y_M_turned (1, 24, n, n, E) (qP M K) 48 [(0, vR 81), (1, vI r), (2, vI w), (3, vI over), (4, vI v_1), (5, vI l5_6), (6, vI l6_7)] [] E n M := by
        intro hk
        have hz := Z_pos rfl (hK_22 _ hk)
        refine R_aload_n (pc := 48) 0 (dc k_M_turned 25 rfl) rfl rfl ?_
        refine R_iload (pc := 49) 6 (dc k_M_turned 26 rfl) rfl ?_
        refine R_cVP (pc := 51)  (As := [vI l6_7]) (S := []) ck_M_544 (dc k_M_turned 27 rfl) ⟨rfl, ⟨_, rfl, rfl⟩, (lb rfl), (Nat.le_trans (lb rfl) hn)⟩ (lb rfl) (lb rfl) (lb rfl) rfl (ct_M_areApart hE hn (Z_bind hz)) (fun r_27 hz => ?_)
        refine R_if_ne (pc := 54) 60 (dc k_M_turned 28 rfl) rfl (fun hc => ?_) (fun hc => ?_)
        · have hz := Z_neg (show ¬ (n32 r_27 = 0) from hc) hz
          refine R_iload_n (pc := 60) 3 (dc k_M_turned 30 rfl) rfl rfl ?_
          refine R_istore (pc := 61) (L' := [(7, vI over), (0, vR 81), (1, vI r), (2, vI w), (3, vI over), (4, vI v_1), (5, vI l5_6), (6, vI l6_7)]) (dc k_M_turned 31 rfl) (lb rfl) rfl ?_
          refine R_iconst (pc := 63) (a := 0) (dc k_M_turned 32 rfl) ?_
          refine R_istore (pc := 64) (L' := [(8, vI 0), (7, vI over), (0, vR 81), (1, vI r), (2, vI w), (3, vI over), (4, vI v_1), (5, vI l5_6), (6, vI l6_7)]) (dc k_M_turned 33 rfl) (lb rfl) rfl ?_
          obtain ⟨K_30, hK_31, hz⟩ := Z_cut hz
          have hX_32 : ∀ (l7_36 : Int), K_30 l7_36 → Rr y_M_turned (1, 24, n, n, E) (qP M K) 155 [(0, vR 81), (1, vI r), (2, vI w), (3, vI over), (4, vI v_1), (5, vI l5_6), (6, vI l6_7), (7, vI l7_36)] [] E n M := by
            intro l7_36 hk
            have hz := hK_31 _ hk
            refine R_iload (pc := 155) 7 (dc k_M_turned 84 rfl) rfl ?_
            obtain ⟨K_52, hK_53, hz⟩ := Z_cut hz
            have hJ_54 : ∀ (v_51 : Int), K_52 v_51 → Rr y_M_turned (1, 24, n, n, E) (qP M K) 165 [(0, vR 81), (1, vI r), (2, vI w), (3, vI over), (4, vI v_1), (5, vI l5_6), (6, vI l6_7)] [vI v_51] E n M := by
              intro v_51 hk
              have hz := hK_53 _ hk
              refine R_iload (pc := 165) 4 (dc k_M_turned 89 rfl) rfl ?_
              refine R_icmp_ne (pc := 167) 177 (dc k_M_turned 90 rfl) rfl (fun hc => ?_) (fun hc => ?_)
              · have hz := Z_neg (show ¬ (n32 v_51 = n32 v_1) from hc) hz
                exact hJ_20 _ (Z_some hz)
              · have hz := Z_pos (show n32 v_51 = n32 v_1 from (Decidable.not_not.mp hc)) hz
                refine R_iload (pc := 170) 6 (dc k_M_turned 91 rfl) rfl ?_
                refine R_cSP (pc := 172)  (As := [vI l6_7]) (S := []) ck_M_464 (dc k_M_turned 92 rfl) (lb rfl) (lb rfl) (lb rfl) rfl (ct_M_bitsOf hE hn (Z_bind hz)) (fun r_56 hz => ?_)
                refine R_istore (pc := 175) (L' := [(5, vI r_56), (0, vR 81), (1, vI r), (2, vI w), (3, vI over), (4, vI v_1), (6, vI l6_7)]) (dc k_M_turned 93 rfl) (lb rfl) rfl ?_
                refine R_sub [1, 2, 3, 4, 5, 0, 6] rfl ?_
                exact hJ_20 _ (Z_some hz)
            refine R_if_le (pc := 157) 164 (dc k_M_turned 85 rfl) rfl (fun hc => ?_) (fun hc => ?_)
            · have hz := Z_neg (show ¬ (0 < n32 l7_36) from (Int.not_lt.mpr hc)) hz
              refine R_iconst (pc := 164) (a := 0) (dc k_M_turned 88 rfl) ?_
              refine R_sub [0, 1, 2, 3, 4, 5, 6] rfl ?_
              exact hJ_54 _ (Z_some hz)
            · have hz := Z_pos (show 0 < n32 l7_36 from (Int.not_le.mp hc)) hz
              refine R_iconst (pc := 160) (a := 1) (dc k_M_turned 86 rfl) ?_
              refine R_goto (pc := 161) 165 (dc k_M_turned 87 rfl) rfl ?_
              refine R_sub [0, 1, 2, 3, 4, 5, 6] rfl ?_
              exact hJ_54 _ (Z_some hz)
          refine R_sub [2, 3, 4, 5, 6, 7, 8, 1, 0] rfl ?_
          refine it_R (C := fun aZ : Int × Int => Rr y_M_turned (1, 24, n, n, E) (qP M K) 66 [(0, vR 81), (1, vI r), (2, vI w), (3, vI over), (4, vI v_1), (5, vI l5_6), (6, vI l6_7), (7, vI aZ.1), (8, vI aZ.2)] [] E n M) (fun aZ K_33 hC_34 hB_35 hz => ?_) FUEL (over, 0) hz
          obtain ⟨l7_28, l8_29⟩ := aZ
          rw [M_turned_b66] at hz
          show Rr y_M_turned (1, 24, n, n, E) (qP M K) 66 [(0, vR 81), (1, vI r), (2, vI w), (3, vI over), (4, vI v_1), (5, vI l5_6), (6, vI l6_7), (7, vI l7_28), (8, vI l8_29)] [] E n M
          refine R_iload (pc := 66) 8 (dc k_M_turned 34 rfl) rfl ?_
          refine R_aload_n (pc := 68) 0 (dc k_M_turned 35 rfl) rfl rfl ?_
          refine R_getS (pc := 69) (ci := 10) (k := 15) 88 (dc k_M_turned 36 rfl) fl_M_33 rfl (lb rfl) (Nat.le_trans (lb rfl) hn) (hE 81 (lb rfl) (lb rfl)) rfl (by decide) rfl ?_
          refine R_aload_n (pc := 72) 0 (dc k_M_turned 37 rfl) rfl rfl ?_
          refine R_getI (pc := 73) (ci := 10) (k := 38) (dc k_M_turned 38 rfl) fl_M_304 rfl (lb rfl) (Nat.le_trans (lb rfl) hn) rfl (Or.inl rfl) ?_
          refine R_iald (pc := 76) (dc k_M_turned 39 rfl) rfl (lb rfl) (Nat.le_trans (lb rfl) hn) hg_15 hg_16 ?_
          refine R_icmp_ge (pc := 77) 155 (dc k_M_turned 40 rfl) rfl (fun hc => ?_) (fun hc => ?_)
          · have hz := Z_neg (show ¬ (n32 l8_29 < n32 (M 88 (Int.toNat (M 81 38)))) from (Int.not_lt.mpr hc)) hz
            refine R_sub [0, 1, 2, 3, 4, 5, 6, 7] rfl ?_
            exact hX_32 _ (hB_35 _ (Z_some hz))
          · have hz := Z_pos (show n32 l8_29 < n32 (M 88 (Int.toNat (M 81 38))) from (Int.not_le.mp hc)) hz
            refine R_iload (pc := 80) 6 (dc k_M_turned 41 rfl) rfl ?_
            refine R_iload (pc := 82) 8 (dc k_M_turned 42 rfl) rfl ?_
            refine R_ishr (pc := 84) (dc k_M_turned 43 rfl) ?_
            refine R_iconst (pc := 85) (a := 1) (dc k_M_turned 44 rfl) ?_
            refine R_iand (pc := 86) (dc k_M_turned 45 rfl) ?_
            refine R_iconst (pc := 87) (a := 1) (dc k_M_turned 46 rfl) ?_
            obtain ⟨K_38, hK_39, hz⟩ := Z_cut hz
            have hJ_40 : ∀ (l7_37 : Int), K_38 l7_37 → Rr y_M_turned (1, 24, n, n, E) (qP M K) 149 [(0, vR 81), (1, vI r), (2, vI w), (3, vI over), (4, vI v_1), (5, vI l5_6), (6, vI l6_7), (7, vI l7_37), (8, vI l8_29)] [] E n M := by
              intro l7_37 hk
              have hz := hK_39 _ hk
              obtain ⟨l8_49, hl8_49, hz⟩ := Z_lt hz
              refine R_iincE (pc := 149) (L' := [(8, vI l8_49), (0, vR 81), (1, vI r), (2, vI w), (3, vI over), (4, vI v_1), (5, vI l5_6), (6, vI l6_7), (7, vI l7_37)]) 8 (dc k_M_turned 82 rfl) rfl (lb rfl) hl8_49 rfl ?_
              refine R_goto (pc := 152) 66 (dc k_M_turned 83 rfl) rfl ?_
              refine R_sub [1, 2, 3, 4, 5, 6, 7, 8, 0] rfl ?_
              exact hC_34 _ (Z_some hz)
            refine R_icmp_ne (pc := 88) 149 (dc k_M_turned 47 rfl) rfl (fun hc => ?_) (fun hc => ?_)
            · have hz := Z_neg (show ¬ (n32 (iand (ishr l6_7 l8_29) 1) = 1) from hc) hz
              exact hJ_40 _ (Z_some hz)
            · have hz := Z_pos (show n32 (iand (ishr l6_7 l8_29) 1) = 1 from (Decidable.not_not.mp hc)) hz
              refine R_iload (pc := 91) 7 (dc k_M_turned 48 rfl) rfl ?_
              refine R_aload_n (pc := 93) 0 (dc k_M_turned 49 rfl) rfl rfl ?_
              refine R_aload_n (pc := 94) 0 (dc k_M_turned 50 rfl) rfl rfl ?_
              refine R_getS (pc := 95) (ci := 10) (k := 25) 98 (dc k_M_turned 51 rfl) fl_M_65 rfl (lb rfl) (Nat.le_trans (lb rfl) hn) (hE 81 (lb rfl) (lb rfl)) rfl (by decide) rfl ?_
              refine R_bipush (pc := 98) (a := 12) (dc k_M_turned 52 rfl) (by decide) ?_
              refine R_aload_n (pc := 100) 0 (dc k_M_turned 53 rfl) rfl rfl ?_
              refine R_getI (pc := 101) (ci := 10) (k := 38) (dc k_M_turned 54 rfl) fl_M_304 rfl (lb rfl) (Nat.le_trans (lb rfl) hn) rfl (Or.inl rfl) ?_
              refine R_imul (pc := 104) (dc k_M_turned 55 rfl) ?_
              refine R_iload (pc := 105) 8 (dc k_M_turned 56 rfl) rfl ?_
              refine R_iadd (pc := 107) (dc k_M_turned 57 rfl) ?_
              obtain ⟨⟨hg_41, hg_42⟩, hz⟩ := Z_chk hz
              refine R_iald (pc := 108) (dc k_M_turned 58 rfl) rfl (lb rfl) (Nat.le_trans (lb rfl) hn) hg_41 hg_42 ?_
              refine R_iload_n (pc := 109) 1 (dc k_M_turned 59 rfl) rfl rfl ?_
              refine R_iload_n (pc := 110) 2 (dc k_M_turned 60 rfl) rfl rfl ?_
              refine R_cVP (pc := 111)  (As := [vI (M 98 (Int.toNat ((12 * (M 81 38)) + l8_29))), vI r, vI w]) (S := [vI l7_28]) ck_M_461 (dc k_M_turned 61 rfl) ⟨rfl, ⟨_, rfl, rfl⟩, (lb rfl), (Nat.le_trans (lb rfl) hn)⟩ (lb rfl) (lb rfl) (lb rfl) rfl (ct_M_answerAt hE hn (Z_bind hz)) (fun r_43 hz => ?_)
              refine R_iload (pc := 114) 4 (dc k_M_turned 62 rfl) rfl ?_
              refine R_cSP (pc := 116)  (As := [vI r_43, vI v_1]) (S := [vI l7_28]) ck_M_568 (dc k_M_turned 63 rfl) (lb rfl) (lb rfl) (lb rfl) rfl (ct_M_turns hE hn (Z_bind hz)) (fun r_44 hz => ?_)
              refine R_aload_n (pc := 119) 0 (dc k_M_turned 64 rfl) rfl rfl ?_
              refine R_aload_n (pc := 120) 0 (dc k_M_turned 65 rfl) rfl rfl ?_
              refine R_getS (pc := 121) (ci := 10) (k := 26) 99 (dc k_M_turned 66 rfl) fl_M_68 rfl (lb rfl) (Nat.le_trans (lb rfl) hn) (hE 81 (lb rfl) (lb rfl)) rfl (by decide) rfl ?_
              refine R_bipush (pc := 124) (a := 12) (dc k_M_turned 67 rfl) (by decide) ?_
              refine R_aload_n (pc := 126) 0 (dc k_M_turned 68 rfl) rfl rfl ?_
              refine R_getI (pc := 127) (ci := 10) (k := 38) (dc k_M_turned 69 rfl) fl_M_304 rfl (lb rfl) (Nat.le_trans (lb rfl) hn) rfl (Or.inl rfl) ?_
              refine R_imul (pc := 130) (dc k_M_turned 70 rfl) ?_
              refine R_iload (pc := 131) 8 (dc k_M_turned 71 rfl) rfl ?_
              refine R_iadd (pc := 133) (dc k_M_turned 72 rfl) ?_
              refine R_iald (pc := 134) (dc k_M_turned 73 rfl) rfl (lb rfl) (Nat.le_trans (lb rfl) hn) hg_41 hg_42 ?_
              refine R_iload_n (pc := 135) 1 (dc k_M_turned 74 rfl) rfl rfl ?_
              refine R_iload_n (pc := 136) 2 (dc k_M_turned 75 rfl) rfl rfl ?_
              refine R_cVP (pc := 137)  (As := [vI (M 99 (Int.toNat ((12 * (M 81 38)) + l8_29))), vI r, vI w]) (S := [vI r_44, vI l7_28]) ck_M_461 (dc k_M_turned 76 rfl) ⟨rfl, ⟨_, rfl, rfl⟩, (lb rfl), (Nat.le_trans (lb rfl) hn)⟩ (lb rfl) (lb rfl) (lb rfl) rfl (ct_M_answerAt hE hn (Z_bind hz)) (fun r_45 hz => ?_)
              refine R_iload (pc := 140) 4 (dc k_M_turned 77 rfl) rfl ?_
              refine R_cSP (pc := 142)  (As := [vI r_45, vI v_1]) (S := [vI r_44, vI l7_28]) ck_M_568 (dc k_M_turned 78 rfl) (lb rfl) (lb rfl) (lb rfl) rfl (ct_M_turns hE hn (Z_bind hz)) (fun r_46 hz => ?_)
              refine R_iadd (pc := 145) (dc k_M_turned 79 rfl) ?_
              refine R_iadd (pc := 146) (dc k_M_turned 80 rfl) ?_
              obtain ⟨l7_47, hl7_47, hz⟩ := Z_lt hz
              refine R_istoreE (pc := 147) (L' := [(7, vI l7_47), (0, vR 81), (1, vI r), (2, vI w), (3, vI over), (4, vI v_1), (5, vI l5_6), (6, vI l6_7), (8, vI l8_29)]) (dc k_M_turned 81 rfl) (lb rfl) hl7_47 rfl ?_
              refine R_sub [1, 2, 3, 4, 5, 6, 7, 0, 8] rfl ?_
              exact hJ_40 _ (Z_some hz)
        · have hz := Z_pos (show n32 r_27 = 0 from (Decidable.not_not.mp hc)) hz
          refine R_goto (pc := 57) 177 (dc k_M_turned 29 rfl) rfl ?_
          exact hJ_20 _ (Z_some hz)
      have hY_24 : K_21 false → Rr y_M_turned (1, 24, n, n, E) (qP M K) 177 [(0, vR 81), (1, vI r), (2, vI w), (3, vI over), (4, vI v_1), (5, vI l5_6), (6, vI l6_7)] [] E n M := by
        intro hk
        have hz := Z_neg Bool.false_ne_true (hK_22 _ hk)
        exact hJ_20 _ (Z_some hz)
      refine R_if_lt (pc := 35) 48 (dc k_M_turned 20 rfl) rfl (fun hc => ?_) (fun hc => ?_)
      · have hz := Z_neg (show ¬ (0 ≤ n32 l5_6) from (Int.not_le.mpr hc)) hz
        exact hX_23 (Z_some hz)
      · have hz := Z_pos (show 0 ≤ n32 l5_6 from (Int.not_lt.mp hc)) hz
        refine R_iload (pc := 38) 6 (dc k_M_turned 21 rfl) rfl ?_
        refine R_cSP (pc := 40)  (As := [vI l6_7]) (S := []) ck_M_464 (dc k_M_turned 22 rfl) (lb rfl) (lb rfl) (lb rfl) rfl (ct_M_bitsOf hE hn (Z_bind hz)) (fun r_26 hz => ?_)
        refine R_iload (pc := 43) 5 (dc k_M_turned 23 rfl) rfl ?_
        refine R_icmp_ge (pc := 45) 177 (dc k_M_turned 24 rfl) rfl (fun hc => ?_) (fun hc => ?_)
        · have hz := Z_neg (show ¬ (n32 r_26 < n32 l5_6) from (Int.not_lt.mpr hc)) hz
          exact hY_24 (Z_some hz)
        · have hz := Z_pos (show n32 r_26 < n32 l5_6 from (Int.not_le.mp hc)) hz
          exact hX_23 (Z_some hz)
  refine R_if_gt (pc := 1) 8 (dc k_M_turned 1 rfl) rfl (fun hc => ?_) (fun hc => ?_)
  · have hz := Z_neg (show ¬ (n32 over ≤ 0) from (Int.not_le.mpr hc)) hz
    refine R_iconst (pc := 8) (a := 0) (dc k_M_turned 4 rfl) ?_
    exact hJ_4 _ (Z_some hz)
  · have hz := Z_pos (show n32 over ≤ 0 from (Int.not_lt.mp hc)) hz
    refine R_iconst (pc := 4) (a := 1) (dc k_M_turned 2 rfl) ?_
    refine R_goto (pc := 5) 9 (dc k_M_turned 3 rfl) rfl ?_
    exact hJ_4 _ (Z_some hz)

set_option maxRecDepth 20000 in
theorem ct_M_vote {E : Nat → Bool} {n : Nat} (hE : ∀ c, 81 ≤ c → c ≤ 138 → E c = true) (hn : 138 ≤ n) {r : Int} {w : Int} {what : Int} {M : Mem} {K : Int → Prop} (hz : Z (M_vote r w what M) K) : Mt y_M_vote (3, 61, n, n, E) E [vR 81, vI r, vI w, vI what] M (qP M K) := by
  refine Mt.of (by decide) (lb rfl) (Nat.le_refl _) rfl ?_
  rw [M_vote] at hz
  show Rr y_M_vote (3, 61, n, n, E) (qP M K) 0 [(0, vR 81), (1, vI r), (2, vI w), (3, vI what)] [] E n M
  refine R_aload_n (pc := 0) 0 (dc k_M_vote 0 rfl) rfl rfl ?_
  refine R_iload_n (pc := 1) 1 (dc k_M_vote 1 rfl) rfl rfl ?_
  refine R_cVP (pc := 2)  (As := [vI r]) (S := []) ck_M_452 (dc k_M_vote 2 rfl) ⟨rfl, ⟨_, rfl, rfl⟩, (lb rfl), (Nat.le_trans (lb rfl) hn)⟩ (lb rfl) (lb rfl) (lb rfl) rfl (ct_M_isRow hE hn (Z_bind hz)) (fun r_1 hz => ?_)
  obtain ⟨K_2, hK_3, hz⟩ := Z_cut hz
  have hX_4 : K_2 true → Rr y_M_vote (3, 61, n, n, E) (qP M K) 25 [(0, vR 81), (1, vI r), (2, vI w), (3, vI what)] [] E n M := by
    intro hk
    have hz := Z_pos rfl (hK_3 _ hk)
    refine R_iconst (pc := 25) (a := (-1)) (dc k_M_vote 13 rfl) ?_
    exact R_iret (pc := 26) (dc k_M_vote 14 rfl) rfl rfl rfl ⟨_, rfl, rfl, (Z_some hz)⟩
  have hY_5 : K_2 false → Rr y_M_vote (3, 61, n, n, E) (qP M K) 27 [(0, vR 81), (1, vI r), (2, vI w), (3, vI what)] [] E n M := by
    intro hk
    have hz := Z_neg Bool.false_ne_true (hK_3 _ hk)
    refine R_iconst (pc := 27) (a := 0) (dc k_M_vote 15 rfl) ?_
    refine R_istore (pc := 28) (L' := [(4, vI 0), (0, vR 81), (1, vI r), (2, vI w), (3, vI what)]) (dc k_M_vote 16 rfl) (lb rfl) rfl ?_
    refine R_iconst (pc := 30) (a := 0) (dc k_M_vote 17 rfl) ?_
    refine R_istore (pc := 31) (L' := [(5, vI 0), (4, vI 0), (0, vR 81), (1, vI r), (2, vI w), (3, vI what)]) (dc k_M_vote 18 rfl) (lb rfl) rfl ?_
    refine R_iconst (pc := 33) (a := 0) (dc k_M_vote 19 rfl) ?_
    refine R_istore (pc := 34) (L' := [(6, vI 0), (5, vI 0), (4, vI 0), (0, vR 81), (1, vI r), (2, vI w), (3, vI what)]) (dc k_M_vote 20 rfl) (lb rfl) rfl ?_
    obtain ⟨K_12, hK_13, hz⟩ := Z_cut hz
    have hX_14 : ∀ (l4_18 : Int) (l5_19 : Int), K_12 (l4_18, l5_19) → Rr y_M_vote (3, 61, n, n, E) (qP M K) 94 [(0, vR 81), (1, vI r), (2, vI w), (3, vI what), (4, vI l4_18), (5, vI l5_19)] [] E n M := by
      intro l4_18 l5_19 hk
      have hz := hK_13 _ hk
      refine R_iload_n (pc := 94) 3 (dc k_M_vote 52 rfl) rfl rfl ?_
      refine R_if_ne (pc := 95) 103 (dc k_M_vote 53 rfl) rfl (fun hc => ?_) (fun hc => ?_)
      · have hz := Z_neg (show ¬ (n32 what = 0) from hc) hz
        refine R_iload_n (pc := 103) 3 (dc k_M_vote 56 rfl) rfl rfl ?_
        refine R_iconst (pc := 104) (a := 1) (dc k_M_vote 57 rfl) ?_
        refine R_icmp_ne (pc := 105) 113 (dc k_M_vote 58 rfl) rfl (fun hc => ?_) (fun hc => ?_)
        · have hz := Z_neg (show ¬ (n32 what = 1) from hc) hz
          refine R_iload_n (pc := 113) 3 (dc k_M_vote 61 rfl) rfl rfl ?_
          refine R_iconst (pc := 114) (a := 2) (dc k_M_vote 62 rfl) ?_
          refine R_icmp_ne (pc := 115) 133 (dc k_M_vote 63 rfl) rfl (fun hc => ?_) (fun hc => ?_)
          · have hz := Z_neg (show ¬ (n32 what = 2) from hc) hz
            refine R_aload_n (pc := 133) 0 (dc k_M_vote 71 rfl) rfl rfl ?_
            refine R_iload_n (pc := 134) 1 (dc k_M_vote 72 rfl) rfl rfl ?_
            refine R_iload_n (pc := 135) 2 (dc k_M_vote 73 rfl) rfl rfl ?_
            refine R_iload (pc := 136) 4 (dc k_M_vote 74 rfl) rfl ?_
            refine R_iload (pc := 138) 5 (dc k_M_vote 75 rfl) rfl ?_
            refine R_isub (pc := 140) (dc k_M_vote 76 rfl) ?_
            refine R_cVP (pc := 141)  (As := [vI r, vI w, vI (l4_18 - l5_19)]) (S := []) ck_M_572 (dc k_M_vote 77 rfl) ⟨rfl, ⟨_, rfl, rfl⟩, (lb rfl), (Nat.le_trans (lb rfl) hn)⟩ (lb rfl) (lb rfl) (lb rfl) rfl (ct_M_turned hE hn (Z_bind hz)) (fun r_38 hz => ?_)
            exact R_iret (pc := 144) (dc k_M_vote 78 rfl) rfl rfl rfl ⟨_, rfl, rfl, (Z_some hz)⟩
          · have hz := Z_pos (show n32 what = 2 from (Decidable.not_not.mp hc)) hz
            refine R_iload (pc := 118) 4 (dc k_M_vote 64 rfl) rfl ?_
            refine R_iload (pc := 120) 5 (dc k_M_vote 65 rfl) rfl ?_
            refine R_icmp_le (pc := 122) 129 (dc k_M_vote 66 rfl) rfl (fun hc => ?_) (fun hc => ?_)
            · have hz := Z_neg (show ¬ (n32 l5_19 < n32 l4_18) from (Int.not_lt.mpr hc)) hz
              refine R_iconst (pc := 129) (a := 0) (dc k_M_vote 69 rfl) ?_
              refine R_goto (pc := 130) 144 (dc k_M_vote 70 rfl) rfl ?_
              exact R_iret (pc := 144) (dc k_M_vote 78 rfl) rfl rfl rfl ⟨_, rfl, rfl, (Z_some hz)⟩
            · have hz := Z_pos (show n32 l5_19 < n32 l4_18 from (Int.not_le.mp hc)) hz
              refine R_iconst (pc := 125) (a := 1) (dc k_M_vote 67 rfl) ?_
              refine R_goto (pc := 126) 144 (dc k_M_vote 68 rfl) rfl ?_
              exact R_iret (pc := 144) (dc k_M_vote 78 rfl) rfl rfl rfl ⟨_, rfl, rfl, (Z_some hz)⟩
        · have hz := Z_pos (show n32 what = 1 from (Decidable.not_not.mp hc)) hz
          refine R_iload (pc := 108) 5 (dc k_M_vote 59 rfl) rfl ?_
          refine R_goto (pc := 110) 144 (dc k_M_vote 60 rfl) rfl ?_
          exact R_iret (pc := 144) (dc k_M_vote 78 rfl) rfl rfl rfl ⟨_, rfl, rfl, (Z_some hz)⟩
      · have hz := Z_pos (show n32 what = 0 from (Decidable.not_not.mp hc)) hz
        refine R_iload (pc := 98) 4 (dc k_M_vote 54 rfl) rfl ?_
        refine R_goto (pc := 100) 144 (dc k_M_vote 55 rfl) rfl ?_
        exact R_iret (pc := 144) (dc k_M_vote 78 rfl) rfl rfl rfl ⟨_, rfl, rfl, (Z_some hz)⟩
    refine R_sub [3, 4, 5, 6, 2, 1, 0] rfl ?_
    refine it_R (C := fun aZ : Int × Int × Int => Rr y_M_vote (3, 61, n, n, E) (qP M K) 36 [(0, vR 81), (1, vI r), (2, vI w), (3, vI what), (4, vI aZ.1), (5, vI aZ.2.1), (6, vI aZ.2.2)] [] E n M) (fun aZ K_15 hC_16 hB_17 hz => ?_) FUEL (0, 0, 0) hz
    obtain ⟨l4_9, l5_10, l6_11⟩ := aZ
    rw [M_vote_b36] at hz
    show Rr y_M_vote (3, 61, n, n, E) (qP M K) 36 [(0, vR 81), (1, vI r), (2, vI w), (3, vI what), (4, vI l4_9), (5, vI l5_10), (6, vI l6_11)] [] E n M
    refine R_iload (pc := 36) 6 (dc k_M_vote 21 rfl) rfl ?_
    refine R_aload_n (pc := 38) 0 (dc k_M_vote 22 rfl) rfl rfl ?_
    refine R_cVP (pc := 39)  (As := []) (S := [vI l6_11]) ck_M_421 (dc k_M_vote 23 rfl) ⟨rfl, ⟨_, rfl, rfl⟩, (lb rfl), (Nat.le_trans (lb rfl) hn)⟩ (lb rfl) (lb rfl) (lb rfl) rfl (ct_M_personMany hE hn (Z_bind hz)) (fun r_20 hz => ?_)
    refine R_icmp_ge (pc := 42) 94 (dc k_M_vote 24 rfl) rfl (fun hc => ?_) (fun hc => ?_)
    · have hz := Z_neg (show ¬ (n32 l6_11 < n32 r_20) from (Int.not_lt.mpr hc)) hz
      refine R_sub [0, 1, 2, 3, 4, 5] rfl ?_
      exact hX_14 _ _ (hB_17 _ (Z_some hz))
    · have hz := Z_pos (show n32 l6_11 < n32 r_20 from (Int.not_le.mp hc)) hz
      refine R_iload (pc := 45) 4 (dc k_M_vote 25 rfl) rfl ?_
      refine R_aload_n (pc := 47) 0 (dc k_M_vote 26 rfl) rfl rfl ?_
      refine R_iload (pc := 48) 6 (dc k_M_vote 27 rfl) rfl ?_
      refine R_iload_n (pc := 50) 1 (dc k_M_vote 28 rfl) rfl rfl ?_
      refine R_iload_n (pc := 51) 2 (dc k_M_vote 29 rfl) rfl rfl ?_
      refine R_cVP (pc := 52)  (As := [vI l6_11, vI r, vI w]) (S := [vI l4_9]) ck_M_461 (dc k_M_vote 30 rfl) ⟨rfl, ⟨_, rfl, rfl⟩, (lb rfl), (Nat.le_trans (lb rfl) hn)⟩ (lb rfl) (lb rfl) (lb rfl) rfl (ct_M_answerAt hE hn (Z_bind hz)) (fun r_21 hz => ?_)
      refine R_iconst (pc := 55) (a := 1) (dc k_M_vote 31 rfl) ?_
      obtain ⟨K_23, hK_24, hz⟩ := Z_cut hz
      have hJ_25 : ∀ (v_22 : Int), K_23 v_22 → Rr y_M_vote (3, 61, n, n, E) (qP M K) 64 [(0, vR 81), (1, vI r), (2, vI w), (3, vI what), (5, vI l5_10), (6, vI l6_11)] [vI v_22, vI l4_9] E n M := by
        intro v_22 hk
        have hz := hK_24 _ hk
        refine R_iadd (pc := 64) (dc k_M_vote 36 rfl) ?_
        obtain ⟨l4_27, hl4_27, hz⟩ := Z_lt hz
        refine R_istoreE (pc := 65) (L' := [(4, vI l4_27), (0, vR 81), (1, vI r), (2, vI w), (3, vI what), (5, vI l5_10), (6, vI l6_11)]) (dc k_M_vote 37 rfl) (lb rfl) hl4_27 rfl ?_
        refine R_iload (pc := 67) 5 (dc k_M_vote 38 rfl) rfl ?_
        refine R_aload_n (pc := 69) 1 (dc k_M_vote 39 rfl) rfl rfl ?_
        refine R_iload (pc := 70) 6 (dc k_M_vote 40 rfl) rfl ?_
        refine R_iload_n (pc := 72) 2 (dc k_M_vote 41 rfl) rfl rfl ?_
        refine R_iload_n (pc := 73) 3 (dc k_M_vote 42 rfl) rfl rfl ?_
        refine R_cVP (pc := 74)  (As := [vI l6_11, vI r, vI w]) (S := [vI l5_10]) ck_M_461 (dc k_M_vote 43 rfl) ⟨rfl, ⟨_, rfl, rfl⟩, (lb rfl), (Nat.le_trans (lb rfl) hn)⟩ (lb rfl) (lb rfl) (lb rfl) rfl (ct_M_answerAt hE hn (Z_bind hz)) (fun r_28 hz => ?_)
        obtain ⟨K_30, hK_31, hz⟩ := Z_cut hz
        have hJ_32 : ∀ (v_29 : Int), K_30 v_29 → Rr y_M_vote (3, 61, n, n, E) (qP M K) 85 [(0, vR 81), (1, vI r), (2, vI w), (3, vI what), (4, vI l4_27), (6, vI l6_11)] [vI v_29, vI l5_10] E n M := by
          intro v_29 hk
          have hz := hK_31 _ hk
          refine R_iadd (pc := 85) (dc k_M_vote 48 rfl) ?_
          obtain ⟨l5_34, hl5_34, hz⟩ := Z_lt hz
          refine R_istoreE (pc := 86) (L' := [(5, vI l5_34), (0, vR 81), (1, vI r), (2, vI w), (3, vI what), (4, vI l4_27), (6, vI l6_11)]) (dc k_M_vote 49 rfl) (lb rfl) hl5_34 rfl ?_
          obtain ⟨l6_35, hl6_35, hz⟩ := Z_lt hz
          refine R_iincE (pc := 88) (L' := [(6, vI l6_35), (5, vI l5_34), (0, vR 81), (1, vI r), (2, vI w), (3, vI what), (4, vI l4_27)]) 6 (dc k_M_vote 50 rfl) rfl (lb rfl) hl6_35 rfl ?_
          refine R_goto (pc := 91) 36 (dc k_M_vote 51 rfl) rfl ?_
          refine R_sub [2, 3, 4, 5, 6, 1, 0] rfl ?_
          exact hC_16 _ (Z_some hz)
        refine R_if_ne (pc := 77) 84 (dc k_M_vote 44 rfl) rfl (fun hc => ?_) (fun hc => ?_)
        · have hz := Z_neg (show ¬ (n32 r_28 = 0) from hc) hz
          refine R_iconst (pc := 84) (a := 0) (dc k_M_vote 47 rfl) ?_
          refine R_sub [1, 2, 3, 4, 0, 6] rfl ?_
          exact hJ_32 _ (Z_some hz)
        · have hz := Z_pos (show n32 r_28 = 0 from (Decidable.not_not.mp hc)) hz
          refine R_iconst (pc := 80) (a := 1) (dc k_M_vote 45 rfl) ?_
          refine R_goto (pc := 81) 85 (dc k_M_vote 46 rfl) rfl ?_
          refine R_sub [1, 2, 3, 4, 0, 6] rfl ?_
          exact hJ_32 _ (Z_some hz)
      refine R_icmp_ne (pc := 56) 63 (dc k_M_vote 32 rfl) rfl (fun hc => ?_) (fun hc => ?_)
      · have hz := Z_neg (show ¬ (n32 r_21 = 1) from hc) hz
        refine R_iconst (pc := 63) (a := 0) (dc k_M_vote 35 rfl) ?_
        refine R_sub [0, 1, 2, 3, 5, 6] rfl ?_
        exact hJ_25 _ (Z_some hz)
      · have hz := Z_pos (show n32 r_21 = 1 from (Decidable.not_not.mp hc)) hz
        refine R_iconst (pc := 59) (a := 1) (dc k_M_vote 33 rfl) ?_
        refine R_goto (pc := 60) 64 (dc k_M_vote 34 rfl) rfl ?_
        refine R_sub [0, 1, 2, 3, 5, 6] rfl ?_
        exact hJ_25 _ (Z_some hz)
  refine R_if_eq (pc := 5) 25 (dc k_M_vote 3 rfl) rfl (fun hc => ?_) (fun hc => ?_)
  · have hz := Z_neg (show ¬ (¬ n32 r_1 = 0) from (fun z => z hc)) hz
    exact hX_4 (Z_some hz)
  · have hz := Z_pos (show ¬ n32 r_1 = 0 from hc) hz
    refine R_aload_n (pc := 8) 0 (dc k_M_vote 4 rfl) rfl rfl ?_
    refine R_iload_n (pc := 9) 2 (dc k_M_vote 5 rfl) rfl rfl ?_
    refine R_cVP (pc := 10)  (As := [vI w]) (S := []) ck_M_455 (dc k_M_vote 6 rfl) ⟨rfl, ⟨_, rfl, rfl⟩, (lb rfl), (Nat.le_trans (lb rfl) hn)⟩ (lb rfl) (lb rfl) (lb rfl) rfl (ct_M_isWorld hE hn (Z_bind hz)) (fun r_7 hz => ?_)
    refine R_if_eq (pc := 13) 25 (dc k_M_vote 7 rfl) rfl (fun hc => ?_) (fun hc => ?_)
    · have hz := Z_neg (show ¬ (¬ n32 r_7 = 0) from (fun z => z hc)) hz
      exact hX_4 (Z_some hz)
    · have hz := Z_pos (show ¬ n32 r_7 = 0 from hc) hz
      refine R_iload_n (pc := 16) 3 (dc k_M_vote 8 rfl) rfl rfl ?_
      refine R_iconst (pc := 17) (a := 0) (dc k_M_vote 9 rfl) ?_
      refine R_iconst (pc := 18) (a := 3) (dc k_M_vote 10 rfl) ?_
      refine R_cSP (pc := 19)  (As := [vI what, vI 0, vI 3]) (S := []) ck_M_418 (dc k_M_vote 11 rfl) (lb rfl) (lb rfl) (lb rfl) rfl (ct_M_isIn hE hn (Z_bind hz)) (fun r_8 hz => ?_)
      refine R_if_ne (pc := 22) 27 (dc k_M_vote 12 rfl) rfl (fun hc => ?_) (fun hc => ?_)
      · have hz := Z_neg (show ¬ (n32 r_8 = 0) from hc) hz
        exact hY_5 (Z_some hz)
      · have hz := Z_pos (show n32 r_8 = 0 from (Decidable.not_not.mp hc)) hz
        exact hX_4 (Z_some hz)

set_option maxRecDepth 20000 in
theorem ct_M_image {E : Nat → Bool} {n : Nat} (hE : ∀ c, 81 ≤ c → c ≤ 138 → E c = true) (hn : 138 ≤ n) {box : Int} {M : Mem} {K : Int × Mem → Prop} (hz : Z (M_image box M) K) : Mt y_M_image (1, 22, n, n, E) E [vR 81, vI box] M (qM K) := by
  refine Mt.of (by decide) (lb rfl) (Nat.le_refl _) rfl ?_
  rw [M_image] at hz
  show Rr y_M_image (1, 22, n, n, E) (qM K) 0 [(0, vR 81), (1, vI box)] [] E n M
  refine R_iload_n (pc := 0) 1 (dc k_M_image 0 rfl) rfl rfl ?_
  refine R_iconst (pc := 1) (a := 0) (dc k_M_image 1 rfl) ?_
  refine R_iconst (pc := 2) (a := 2) (dc k_M_image 2 rfl) ?_
  refine R_cSP (pc := 3)  (As := [vI box, vI 0, vI 2]) (S := []) ck_M_418 (dc k_M_image 3 rfl) (lb rfl) (lb rfl) (lb rfl) rfl (ct_M_isIn hE hn (Z_bind hz)) (fun r_1 hz => ?_)
  refine R_if_ne (pc := 6) 11 (dc k_M_image 4 rfl) rfl (fun hc => ?_) (fun hc => ?_)
  · have hz := Z_neg (show ¬ (n32 r_1 = 0) from hc) hz
    refine R_aload_n (pc := 11) 0 (dc k_M_image 7 rfl) rfl rfl ?_
    refine R_getS (pc := 12) (ci := 10) (k := 71) 132 (dc k_M_image 8 rfl) fl_M_167 rfl (lb rfl) (Nat.le_trans (lb rfl) hn) (hE 81 (lb rfl) (lb rfl)) rfl (by decide) rfl ?_
    refine R_iload_n (pc := 15) 1 (dc k_M_image 9 rfl) rfl rfl ?_
    refine R_aload_n (pc := 16) 0 (dc k_M_image 10 rfl) rfl rfl ?_
    refine R_getI (pc := 17) (ci := 10) (k := 57) (dc k_M_image 11 rfl) fl_M_310 rfl (lb rfl) (Nat.le_trans (lb rfl) hn) rfl (Or.inl rfl) ?_
    obtain ⟨⟨hg_2, hg_3⟩, hz⟩ := Z_chk hz
    obtain ⟨M_4, hM_4, hz⟩ := Z_lt hz
    refine R_iastE (pc := 20) (dc k_M_image 12 rfl) rfl (lb rfl) (Nat.le_trans (lb rfl) hn) hg_2 hg_3 hM_4 ?_
    refine R_iconst (pc := 21) (a := 0) (dc k_M_image 13 rfl) ?_
    refine R_istore_n (pc := 22) (L' := [(2, vI 0), (0, vR 81), (1, vI box)]) (dc k_M_image 14 rfl) rfl (lb rfl) rfl ?_
    obtain ⟨K_7, hK_8, hz⟩ := Z_cut hz
    have hX_9 : ∀ (M_13 : Mem), K_7 M_13 → Rr y_M_image (1, 22, n, n, E) (qM K) 116 [(0, vR 81)] [] E n M_13 := by
      intro M_13 hk
      have hz := hK_8 _ hk
      refine R_aload_n (pc := 116) 0 (dc k_M_image 75 rfl) rfl rfl ?_
      refine R_getI (pc := 117) (ci := 10) (k := 57) (dc k_M_image 76 rfl) fl_M_310 rfl (lb rfl) (Nat.le_trans (lb rfl) hn) rfl (Or.inl rfl) ?_
      exact R_iret (pc := 120) (dc k_M_image 77 rfl) rfl rfl rfl ⟨_, rfl, (Z_some hz)⟩
    refine R_sub [1, 2, 0] rfl ?_
    refine it_R (C := fun aZ : Int × Mem => Rr y_M_image (1, 22, n, n, E) (qM K) 23 [(0, vR 81), (1, vI box), (2, vI aZ.1)] [] E n aZ.2) (fun aZ K_10 hC_11 hB_12 hz => ?_) FUEL (0, M_4) hz
    obtain ⟨l2_5, M_6⟩ := aZ
    rw [M_image_b23] at hz
    show Rr y_M_image (1, 22, n, n, E) (qM K) 23 [(0, vR 81), (1, vI box), (2, vI l2_5)] [] E n M_6
    refine R_iload_n (pc := 23) 2 (dc k_M_image 15 rfl) rfl rfl ?_
    refine R_aload_n (pc := 24) 0 (dc k_M_image 16 rfl) rfl rfl ?_
    refine R_getI (pc := 25) (ci := 10) (k := 57) (dc k_M_image 17 rfl) fl_M_310 rfl (lb rfl) (Nat.le_trans (lb rfl) hn) rfl (Or.inl rfl) ?_
    refine R_icmp_ge (pc := 28) 116 (dc k_M_image 18 rfl) rfl (fun hc => ?_) (fun hc => ?_)
    · have hz := Z_neg (show ¬ (n32 l2_5 < n32 (M_6 81 57)) from (Int.not_lt.mpr hc)) hz
      refine R_sub [0] rfl ?_
      exact hX_9 _ (hB_12 _ (Z_some hz))
    · have hz := Z_pos (show n32 l2_5 < n32 (M_6 81 57) from (Int.not_le.mp hc)) hz
      refine R_bipush (pc := 31) (a := 40) (dc k_M_image 19 rfl) (by decide) ?_
      refine R_iload_n (pc := 33) 1 (dc k_M_image 20 rfl) rfl rfl ?_
      refine R_imul (pc := 34) (dc k_M_image 21 rfl) ?_
      refine R_iload_n (pc := 35) 2 (dc k_M_image 22 rfl) rfl rfl ?_
      refine R_iadd (pc := 36) (dc k_M_image 23 rfl) ?_
      obtain ⟨l3_14, hl3_14, hz⟩ := Z_lt hz
      refine R_istore_nE (pc := 37) (L' := [(3, vI l3_14), (0, vR 81), (1, vI box), (2, vI l2_5)]) (dc k_M_image 24 rfl) rfl (lb rfl) hl3_14 rfl ?_
      refine R_aload_n (pc := 38) 1 (dc k_M_image 25 rfl) rfl rfl ?_
      refine R_getS (pc := 39) (ci := 10) (k := 72) 133 (dc k_M_image 26 rfl) fl_M_170 rfl (lb rfl) (Nat.le_trans (lb rfl) hn) (hE 81 (lb rfl) (lb rfl)) rfl (by decide) rfl ?_
      refine R_iload_n (pc := 42) 0 (dc k_M_image 27 rfl) rfl rfl ?_
      refine R_aload_n (pc := 43) 1 (dc k_M_image 28 rfl) rfl rfl ?_
      refine R_getS (pc := 44) (ci := 10) (k := 51) 116 (dc k_M_image 29 rfl) fl_M_119 rfl (lb rfl) (Nat.le_trans (lb rfl) hn) (hE 81 (lb rfl) (lb rfl)) rfl (by decide) rfl ?_
      refine R_iload_n (pc := 47) 3 (dc k_M_image 30 rfl) rfl rfl ?_
      obtain ⟨⟨hg_15, hg_16⟩, hz⟩ := Z_chk hz
      refine R_iald (pc := 48) (dc k_M_image 31 rfl) rfl (lb rfl) (Nat.le_trans (lb rfl) hn) hg_15 hg_16 ?_
      obtain ⟨⟨hg_17, hg_18⟩, hz⟩ := Z_chk hz
      obtain ⟨M_19, hM_19, hz⟩ := Z_lt hz
      refine R_iastE (pc := 49) (dc k_M_image 32 rfl) rfl (lb rfl) (Nat.le_trans (lb rfl) hn) hg_17 hg_18 hM_19 ?_
      refine R_aload_n (pc := 50) 1 (dc k_M_image 33 rfl) rfl rfl ?_
      refine R_getS (pc := 51) (ci := 10) (k := 73) 134 (dc k_M_image 34 rfl) fl_M_173 rfl (lb rfl) (Nat.le_trans (lb rfl) hn) (hE 81 (lb rfl) (lb rfl)) rfl (by decide) rfl ?_
      refine R_iload_n (pc := 54) 0 (dc k_M_image 35 rfl) rfl rfl ?_
      refine R_aload_n (pc := 55) 1 (dc k_M_image 36 rfl) rfl rfl ?_
      refine R_getS (pc := 56) (ci := 10) (k := 52) 117 (dc k_M_image 37 rfl) fl_M_122 rfl (lb rfl) (Nat.le_trans (lb rfl) hn) (hE 81 (lb rfl) (lb rfl)) rfl (by decide) rfl ?_
      refine R_iload_n (pc := 59) 3 (dc k_M_image 38 rfl) rfl rfl ?_
      refine R_iald (pc := 60) (dc k_M_image 39 rfl) rfl (lb rfl) (Nat.le_trans (lb rfl) hn) hg_15 hg_16 ?_
      obtain ⟨M_20, hM_20, hz⟩ := Z_lt hz
      refine R_iastE (pc := 61) (dc k_M_image 40 rfl) rfl (lb rfl) (Nat.le_trans (lb rfl) hn) hg_17 hg_18 hM_20 ?_
      refine R_aload_n (pc := 62) 1 (dc k_M_image 41 rfl) rfl rfl ?_
      refine R_getS (pc := 63) (ci := 10) (k := 74) 135 (dc k_M_image 42 rfl) fl_M_176 rfl (lb rfl) (Nat.le_trans (lb rfl) hn) (hE 81 (lb rfl) (lb rfl)) rfl (by decide) rfl ?_
      refine R_iload_n (pc := 66) 0 (dc k_M_image 43 rfl) rfl rfl ?_
      refine R_aload_n (pc := 67) 1 (dc k_M_image 44 rfl) rfl rfl ?_
      refine R_getS (pc := 68) (ci := 10) (k := 53) 118 (dc k_M_image 45 rfl) fl_M_125 rfl (lb rfl) (Nat.le_trans (lb rfl) hn) (hE 81 (lb rfl) (lb rfl)) rfl (by decide) rfl ?_
      refine R_iload_n (pc := 71) 3 (dc k_M_image 46 rfl) rfl rfl ?_
      refine R_iald (pc := 72) (dc k_M_image 47 rfl) rfl (lb rfl) (Nat.le_trans (lb rfl) hn) hg_15 hg_16 ?_
      obtain ⟨M_21, hM_21, hz⟩ := Z_lt hz
      refine R_iastE (pc := 73) (dc k_M_image 48 rfl) rfl (lb rfl) (Nat.le_trans (lb rfl) hn) hg_17 hg_18 hM_21 ?_
      refine R_aload_n (pc := 74) 1 (dc k_M_image 49 rfl) rfl rfl ?_
      refine R_getS (pc := 75) (ci := 10) (k := 75) 136 (dc k_M_image 50 rfl) fl_M_179 rfl (lb rfl) (Nat.le_trans (lb rfl) hn) (hE 81 (lb rfl) (lb rfl)) rfl (by decide) rfl ?_
      refine R_iload_n (pc := 78) 0 (dc k_M_image 51 rfl) rfl rfl ?_
      refine R_aload_n (pc := 79) 1 (dc k_M_image 52 rfl) rfl rfl ?_
      refine R_getS (pc := 80) (ci := 10) (k := 54) 119 (dc k_M_image 53 rfl) fl_M_128 rfl (lb rfl) (Nat.le_trans (lb rfl) hn) (hE 81 (lb rfl) (lb rfl)) rfl (by decide) rfl ?_
      refine R_iload_n (pc := 83) 3 (dc k_M_image 54 rfl) rfl rfl ?_
      refine R_iald (pc := 84) (dc k_M_image 55 rfl) rfl (lb rfl) (Nat.le_trans (lb rfl) hn) hg_15 hg_16 ?_
      obtain ⟨M_22, hM_22, hz⟩ := Z_lt hz
      refine R_iastE (pc := 85) (dc k_M_image 56 rfl) rfl (lb rfl) (Nat.le_trans (lb rfl) hn) hg_17 hg_18 hM_22 ?_
      refine R_aload_n (pc := 86) 1 (dc k_M_image 57 rfl) rfl rfl ?_
      refine R_getS (pc := 87) (ci := 10) (k := 76) 137 (dc k_M_image 58 rfl) fl_M_182 rfl (lb rfl) (Nat.le_trans (lb rfl) hn) (hE 81 (lb rfl) (lb rfl)) rfl (by decide) rfl ?_
      refine R_iload_n (pc := 90) 0 (dc k_M_image 59 rfl) rfl rfl ?_
      refine R_aload_n (pc := 91) 1 (dc k_M_image 60 rfl) rfl rfl ?_
      refine R_getS (pc := 92) (ci := 10) (k := 55) 120 (dc k_M_image 61 rfl) fl_M_131 rfl (lb rfl) (Nat.le_trans (lb rfl) hn) (hE 81 (lb rfl) (lb rfl)) rfl (by decide) rfl ?_
      refine R_iload_n (pc := 95) 3 (dc k_M_image 62 rfl) rfl rfl ?_
      refine R_zald (pc := 96) (dc k_M_image 63 rfl) rfl (lb rfl) (Nat.le_trans (lb rfl) hn) hg_15 hg_16 ?_
      obtain ⟨hg_23, hz⟩ := Z_chk hz
      obtain ⟨M_24, hM_24, hz⟩ := Z_lt hz
      refine R_zastE (pc := 97) (dc k_M_image 64 rfl) rfl (lb rfl) (Nat.le_trans (lb rfl) hn) hg_17 hg_18 hg_23 hM_24 ?_
      refine R_aload_n (pc := 98) 1 (dc k_M_image 65 rfl) rfl rfl ?_
      refine R_getS (pc := 99) (ci := 10) (k := 77) 138 (dc k_M_image 66 rfl) fl_M_185 rfl (lb rfl) (Nat.le_trans (lb rfl) hn) (hE 81 (lb rfl) (lb rfl)) rfl (by decide) rfl ?_
      refine R_iload_n (pc := 102) 0 (dc k_M_image 67 rfl) rfl rfl ?_
      refine R_aload_n (pc := 103) 1 (dc k_M_image 68 rfl) rfl rfl ?_
      refine R_getS (pc := 104) (ci := 10) (k := 56) 121 (dc k_M_image 69 rfl) fl_M_134 rfl (lb rfl) (Nat.le_trans (lb rfl) hn) (hE 81 (lb rfl) (lb rfl)) rfl (by decide) rfl ?_
      refine R_iload_n (pc := 107) 3 (dc k_M_image 70 rfl) rfl rfl ?_
      refine R_zald (pc := 108) (dc k_M_image 71 rfl) rfl (lb rfl) (Nat.le_trans (lb rfl) hn) hg_15 hg_16 ?_
      obtain ⟨hg_25, hz⟩ := Z_chk hz
      obtain ⟨M_26, hM_26, hz⟩ := Z_lt hz
      refine R_zastE (pc := 109) (dc k_M_image 72 rfl) rfl (lb rfl) (Nat.le_trans (lb rfl) hn) hg_17 hg_18 hg_25 hM_26 ?_
      obtain ⟨l2_27, hl2_27, hz⟩ := Z_lt hz
      refine R_iincE (pc := 110) (L' := [(2, vI l2_27), (3, vI l3_14), (0, vR 81), (1, vI box)]) 3 (dc k_M_image 73 rfl) rfl (lb rfl) hl2_27 rfl ?_
      refine R_goto (pc := 113) 23 (dc k_M_image 74 rfl) rfl ?_
      refine R_sub [2, 3, 0] rfl ?_
      exact hC_11 _ (Z_some hz)
  · have hz := Z_pos (show n32 r_1 = 0 from (Decidable.not_not.mp hc)) hz
    refine R_iconst (pc := 9) (a := (-1)) (dc k_M_image 5 rfl) ?_
    exact R_iret (pc := 10) (dc k_M_image 6 rfl) rfl rfl rfl ⟨_, rfl, (Z_some hz)⟩

set_option maxRecDepth 20000 in
theorem ct_M_back {E : Nat → Bool} {n : Nat} (hE : ∀ c, 81 ≤ c → c ≤ 138 → E c = true) (hn : 138 ≤ n) {box : Int} {M : Mem} {K : Int × Mem → Prop} (hz : Z (M_back box M) K) : Mt y_M_back (1, 22, n, n, E) E [vR 81, vI box] M (qM K) := by
  refine Mt.of (by decide) (lb rfl) (Nat.le_refl _) rfl ?_
  rw [M_back] at hz
  show Rr y_M_back (1, 22, n, n, E) (qM K) 0 [(0, vR 81), (1, vI box)] [] E n M
  refine R_iload_n (pc := 0) 1 (dc k_M_back 0 rfl) rfl rfl ?_
  refine R_iconst (pc := 1) (a := 0) (dc k_M_back 1 rfl) ?_
  refine R_iconst (pc := 2) (a := 2) (dc k_M_back 2 rfl) ?_
  refine R_cSP (pc := 3)  (As := [vI box, vI 0, vI 2]) (S := []) ck_M_418 (dc k_M_back 3 rfl) (lb rfl) (lb rfl) (lb rfl) rfl (ct_M_isIn hE hn (Z_bind hz)) (fun r_1 hz => ?_)
  obtain ⟨K_2, hK_3, hz⟩ := Z_cut hz
  have hX_4 : K_2 true → Rr y_M_back (1, 22, n, n, E) (qM K) 18 [(0, vR 81), (1, vI box)] [] E n M := by
    intro hk
    have hz := Z_pos rfl (hK_3 _ hk)
    refine R_iconst (pc := 18) (a := (-1)) (dc k_M_back 10 rfl) ?_
    exact R_iret (pc := 19) (dc k_M_back 11 rfl) rfl rfl rfl ⟨_, rfl, (Z_some hz)⟩
  have hY_5 : K_2 false → Rr y_M_back (1, 22, n, n, E) (qM K) 20 [(0, vR 81), (1, vI box)] [] E n M := by
    intro hk
    have hz := Z_neg Bool.false_ne_true (hK_3 _ hk)
    refine R_aload_n (pc := 20) 0 (dc k_M_back 12 rfl) rfl rfl ?_
    refine R_aload_n (pc := 21) 0 (dc k_M_back 13 rfl) rfl rfl ?_
    refine R_getS (pc := 22) (ci := 10) (k := 71) 132 (dc k_M_back 14 rfl) fl_M_167 rfl (lb rfl) (Nat.le_trans (lb rfl) hn) (hE 81 (lb rfl) (lb rfl)) rfl (by decide) rfl ?_
    refine R_iload_n (pc := 25) 1 (dc k_M_back 15 rfl) rfl rfl ?_
    obtain ⟨⟨hg_9, hg_10⟩, hz⟩ := Z_chk hz
    refine R_iald (pc := 26) (dc k_M_back 16 rfl) rfl (lb rfl) (Nat.le_trans (lb rfl) hn) hg_9 hg_10 ?_
    obtain ⟨M_11, hM_11, hz⟩ := Z_lt hz
    refine R_putIE (pc := 27) (ci := 10) (k := 57) (dc k_M_back 17 rfl) fl_M_310 rfl (lb rfl) (Nat.le_trans (lb rfl) hn) rfl rfl rfl hM_11 ?_
    refine R_iconst (pc := 30) (a := 0) (dc k_M_back 18 rfl) ?_
    refine R_istore_n (pc := 31) (L' := [(2, vI 0), (0, vR 81), (1, vI box)]) (dc k_M_back 19 rfl) rfl (lb rfl) rfl ?_
    obtain ⟨K_14, hK_15, hz⟩ := Z_cut hz
    have hX_16 : ∀ (M_20 : Mem), K_14 M_20 → Rr y_M_back (1, 22, n, n, E) (qM K) 125 [(0, vR 81)] [] E n M_20 := by
      intro M_20 hk
      have hz := hK_15 _ hk
      refine R_aload_n (pc := 125) 0 (dc k_M_back 80 rfl) rfl rfl ?_
      refine R_getI (pc := 126) (ci := 10) (k := 57) (dc k_M_back 81 rfl) fl_M_310 rfl (lb rfl) (Nat.le_trans (lb rfl) hn) rfl (Or.inl rfl) ?_
      exact R_iret (pc := 129) (dc k_M_back 82 rfl) rfl rfl rfl ⟨_, rfl, (Z_some hz)⟩
    refine R_sub [1, 2, 0] rfl ?_
    refine it_R (C := fun aZ : Int × Mem => Rr y_M_back (1, 22, n, n, E) (qM K) 32 [(0, vR 81), (1, vI box), (2, vI aZ.1)] [] E n aZ.2) (fun aZ K_17 hC_18 hB_19 hz => ?_) FUEL (0, M_11) hz
    obtain ⟨l2_12, M_13⟩ := aZ
    rw [M_back_b32] at hz
    show Rr y_M_back (1, 22, n, n, E) (qM K) 32 [(0, vR 81), (1, vI box), (2, vI l2_12)] [] E n M_13
    refine R_iload_n (pc := 32) 2 (dc k_M_back 20 rfl) rfl rfl ?_
    refine R_aload_n (pc := 33) 0 (dc k_M_back 21 rfl) rfl rfl ?_
    refine R_getI (pc := 34) (ci := 10) (k := 57) (dc k_M_back 22 rfl) fl_M_310 rfl (lb rfl) (Nat.le_trans (lb rfl) hn) rfl (Or.inl rfl) ?_
    refine R_icmp_ge (pc := 37) 125 (dc k_M_back 23 rfl) rfl (fun hc => ?_) (fun hc => ?_)
    · have hz := Z_neg (show ¬ (n32 l2_12 < n32 (M_13 81 57)) from (Int.not_lt.mpr hc)) hz
      refine R_sub [0] rfl ?_
      exact hX_16 _ (hB_19 _ (Z_some hz))
    · have hz := Z_pos (show n32 l2_12 < n32 (M_13 81 57) from (Int.not_le.mp hc)) hz
      refine R_bipush (pc := 40) (a := 40) (dc k_M_back 24 rfl) (by decide) ?_
      refine R_iload_n (pc := 42) 1 (dc k_M_back 25 rfl) rfl rfl ?_
      refine R_imul (pc := 43) (dc k_M_back 26 rfl) ?_
      refine R_iload_n (pc := 44) 2 (dc k_M_back 27 rfl) rfl rfl ?_
      refine R_iadd (pc := 45) (dc k_M_back 28 rfl) ?_
      obtain ⟨l3_21, hl3_21, hz⟩ := Z_lt hz
      refine R_istore_nE (pc := 46) (L' := [(3, vI l3_21), (0, vR 81), (1, vI box), (2, vI l2_12)]) (dc k_M_back 29 rfl) rfl (lb rfl) hl3_21 rfl ?_
      refine R_aload_n (pc := 47) 1 (dc k_M_back 30 rfl) rfl rfl ?_
      refine R_getS (pc := 48) (ci := 10) (k := 51) 116 (dc k_M_back 31 rfl) fl_M_119 rfl (lb rfl) (Nat.le_trans (lb rfl) hn) (hE 81 (lb rfl) (lb rfl)) rfl (by decide) rfl ?_
      refine R_iload_n (pc := 51) 3 (dc k_M_back 32 rfl) rfl rfl ?_
      refine R_aload_n (pc := 52) 1 (dc k_M_back 33 rfl) rfl rfl ?_
      refine R_getS (pc := 53) (ci := 10) (k := 72) 133 (dc k_M_back 34 rfl) fl_M_170 rfl (lb rfl) (Nat.le_trans (lb rfl) hn) (hE 81 (lb rfl) (lb rfl)) rfl (by decide) rfl ?_
      refine R_iload_n (pc := 56) 0 (dc k_M_back 35 rfl) rfl rfl ?_
      obtain ⟨⟨hg_22, hg_23⟩, hz⟩ := Z_chk hz
      refine R_iald (pc := 57) (dc k_M_back 36 rfl) rfl (lb rfl) (Nat.le_trans (lb rfl) hn) hg_22 hg_23 ?_
      obtain ⟨⟨hg_24, hg_25⟩, hz⟩ := Z_chk hz
      obtain ⟨M_26, hM_26, hz⟩ := Z_lt hz
      refine R_iastE (pc := 58) (dc k_M_back 37 rfl) rfl (lb rfl) (Nat.le_trans (lb rfl) hn) hg_24 hg_25 hM_26 ?_
      refine R_aload_n (pc := 59) 1 (dc k_M_back 38 rfl) rfl rfl ?_
      refine R_getS (pc := 60) (ci := 10) (k := 52) 117 (dc k_M_back 39 rfl) fl_M_122 rfl (lb rfl) (Nat.le_trans (lb rfl) hn) (hE 81 (lb rfl) (lb rfl)) rfl (by decide) rfl ?_
      refine R_iload_n (pc := 63) 3 (dc k_M_back 40 rfl) rfl rfl ?_
      refine R_aload_n (pc := 64) 1 (dc k_M_back 41 rfl) rfl rfl ?_
      refine R_getS (pc := 65) (ci := 10) (k := 73) 134 (dc k_M_back 42 rfl) fl_M_173 rfl (lb rfl) (Nat.le_trans (lb rfl) hn) (hE 81 (lb rfl) (lb rfl)) rfl (by decide) rfl ?_
      refine R_iload_n (pc := 68) 0 (dc k_M_back 43 rfl) rfl rfl ?_
      refine R_iald (pc := 69) (dc k_M_back 44 rfl) rfl (lb rfl) (Nat.le_trans (lb rfl) hn) hg_22 hg_23 ?_
      obtain ⟨M_27, hM_27, hz⟩ := Z_lt hz
      refine R_iastE (pc := 70) (dc k_M_back 45 rfl) rfl (lb rfl) (Nat.le_trans (lb rfl) hn) hg_24 hg_25 hM_27 ?_
      refine R_aload_n (pc := 71) 1 (dc k_M_back 46 rfl) rfl rfl ?_
      refine R_getS (pc := 72) (ci := 10) (k := 53) 118 (dc k_M_back 47 rfl) fl_M_125 rfl (lb rfl) (Nat.le_trans (lb rfl) hn) (hE 81 (lb rfl) (lb rfl)) rfl (by decide) rfl ?_
      refine R_iload_n (pc := 75) 3 (dc k_M_back 48 rfl) rfl rfl ?_
      refine R_aload_n (pc := 76) 1 (dc k_M_back 49 rfl) rfl rfl ?_
      refine R_getS (pc := 77) (ci := 10) (k := 74) 135 (dc k_M_back 50 rfl) fl_M_176 rfl (lb rfl) (Nat.le_trans (lb rfl) hn) (hE 81 (lb rfl) (lb rfl)) rfl (by decide) rfl ?_
      refine R_iload_n (pc := 80) 0 (dc k_M_back 51 rfl) rfl rfl ?_
      refine R_iald (pc := 81) (dc k_M_back 52 rfl) rfl (lb rfl) (Nat.le_trans (lb rfl) hn) hg_22 hg_23 ?_
      obtain ⟨M_28, hM_28, hz⟩ := Z_lt hz
      refine R_iastE (pc := 82) (dc k_M_back 53 rfl) rfl (lb rfl) (Nat.le_trans (lb rfl) hn) hg_24 hg_25 hM_28 ?_
      refine R_aload_n (pc := 83) 1 (dc k_M_back 54 rfl) rfl rfl ?_
      refine R_getS (pc := 84) (ci := 10) (k := 54) 119 (dc k_M_back 55 rfl) fl_M_128 rfl (lb rfl) (Nat.le_trans (lb rfl) hn) (hE 81 (lb rfl) (lb rfl)) rfl (by decide) rfl ?_
      refine R_iload_n (pc := 87) 3 (dc k_M_back 56 rfl) rfl rfl ?_
      refine R_aload_n (pc := 88) 1 (dc k_M_back 57 rfl) rfl rfl ?_
      refine R_getS (pc := 89) (ci := 10) (k := 75) 136 (dc k_M_back 58 rfl) fl_M_179 rfl (lb rfl) (Nat.le_trans (lb rfl) hn) (hE 81 (lb rfl) (lb rfl)) rfl (by decide) rfl ?_
      refine R_iload_n (pc := 92) 0 (dc k_M_back 59 rfl) rfl rfl ?_
      refine R_iald (pc := 93) (dc k_M_back 60 rfl) rfl (lb rfl) (Nat.le_trans (lb rfl) hn) hg_22 hg_23 ?_
      obtain ⟨M_29, hM_29, hz⟩ := Z_lt hz
      refine R_iastE (pc := 94) (dc k_M_back 61 rfl) rfl (lb rfl) (Nat.le_trans (lb rfl) hn) hg_24 hg_25 hM_29 ?_
      refine R_aload_n (pc := 95) 1 (dc k_M_back 62 rfl) rfl rfl ?_
      refine R_getS (pc := 96) (ci := 10) (k := 55) 120 (dc k_M_back 63 rfl) fl_M_131 rfl (lb rfl) (Nat.le_trans (lb rfl) hn) (hE 81 (lb rfl) (lb rfl)) rfl (by decide) rfl ?_
      refine R_iload_n (pc := 99) 3 (dc k_M_back 64 rfl) rfl rfl ?_
      refine R_aload_n (pc := 100) 1 (dc k_M_back 65 rfl) rfl rfl ?_
      refine R_getS (pc := 101) (ci := 10) (k := 76) 137 (dc k_M_back 66 rfl) fl_M_182 rfl (lb rfl) (Nat.le_trans (lb rfl) hn) (hE 81 (lb rfl) (lb rfl)) rfl (by decide) rfl ?_
      refine R_iload_n (pc := 104) 0 (dc k_M_back 67 rfl) rfl rfl ?_
      refine R_zald (pc := 105) (dc k_M_back 68 rfl) rfl (lb rfl) (Nat.le_trans (lb rfl) hn) hg_22 hg_23 ?_
      obtain ⟨hg_30, hz⟩ := Z_chk hz
      obtain ⟨M_31, hM_31, hz⟩ := Z_lt hz
      refine R_zastE (pc := 106) (dc k_M_back 69 rfl) rfl (lb rfl) (Nat.le_trans (lb rfl) hn) hg_24 hg_25 hg_30 hM_31 ?_
      refine R_aload_n (pc := 107) 1 (dc k_M_back 70 rfl) rfl rfl ?_
      refine R_getS (pc := 108) (ci := 10) (k := 56) 121 (dc k_M_back 71 rfl) fl_M_134 rfl (lb rfl) (Nat.le_trans (lb rfl) hn) (hE 81 (lb rfl) (lb rfl)) rfl (by decide) rfl ?_
      refine R_iload_n (pc := 111) 3 (dc k_M_back 72 rfl) rfl rfl ?_
      refine R_aload_n (pc := 112) 1 (dc k_M_back 73 rfl) rfl rfl ?_
      refine R_getS (pc := 113) (ci := 10) (k := 77) 138 (dc k_M_back 74 rfl) fl_M_185 rfl (lb rfl) (Nat.le_trans (lb rfl) hn) (hE 81 (lb rfl) (lb rfl)) rfl (by decide) rfl ?_
      refine R_iload_n (pc := 116) 0 (dc k_M_back 75 rfl) rfl rfl ?_
      refine R_zald (pc := 117) (dc k_M_back 76 rfl) rfl (lb rfl) (Nat.le_trans (lb rfl) hn) hg_22 hg_23 ?_
      obtain ⟨hg_32, hz⟩ := Z_chk hz
      obtain ⟨M_33, hM_33, hz⟩ := Z_lt hz
      refine R_zastE (pc := 118) (dc k_M_back 77 rfl) rfl (lb rfl) (Nat.le_trans (lb rfl) hn) hg_24 hg_25 hg_32 hM_33 ?_
      obtain ⟨l2_34, hl2_34, hz⟩ := Z_lt hz
      refine R_iincE (pc := 119) (L' := [(2, vI l2_34), (3, vI l3_21), (0, vR 81), (1, vI box)]) 3 (dc k_M_back 78 rfl) rfl (lb rfl) hl2_34 rfl ?_
      refine R_goto (pc := 122) 32 (dc k_M_back 79 rfl) rfl ?_
      refine R_sub [2, 3, 0] rfl ?_
      exact hC_18 _ (Z_some hz)
  refine R_if_eq (pc := 6) 18 (dc k_M_back 4 rfl) rfl (fun hc => ?_) (fun hc => ?_)
  · have hz := Z_neg (show ¬ (¬ n32 r_1 = 0) from (fun z => z hc)) hz
    exact hX_4 (Z_some hz)
  · have hz := Z_pos (show ¬ n32 r_1 = 0 from hc) hz
    refine R_aload_n (pc := 9) 0 (dc k_M_back 5 rfl) rfl rfl ?_
    refine R_getS (pc := 10) (ci := 10) (k := 71) 132 (dc k_M_back 6 rfl) fl_M_167 rfl (lb rfl) (Nat.le_trans (lb rfl) hn) (hE 81 (lb rfl) (lb rfl)) rfl (by decide) rfl ?_
    refine R_iload_n (pc := 13) 1 (dc k_M_back 7 rfl) rfl rfl ?_
    obtain ⟨⟨hg_7, hg_8⟩, hz⟩ := Z_chk hz
    refine R_iald (pc := 14) (dc k_M_back 8 rfl) rfl (lb rfl) (Nat.le_trans (lb rfl) hn) hg_7 hg_8 ?_
    refine R_if_ge (pc := 15) 20 (dc k_M_back 9 rfl) rfl (fun hc => ?_) (fun hc => ?_)
    · have hz := Z_neg (show ¬ (n32 (M 132 (Int.toNat box)) < 0) from (Int.not_lt.mpr hc)) hz
      exact hY_5 (Z_some hz)
    · have hz := Z_pos (show n32 (M 132 (Int.toNat box)) < 0 from (Int.not_le.mp hc)) hz
      exact hX_4 (Z_some hz)

set_option maxRecDepth 20000 in
theorem ct_M_about {E : Nat → Bool} {n : Nat} (hE : ∀ c, 81 ≤ c → c ≤ 138 → E c = true) (hn : 138 ≤ n) {what : Int} {M : Mem} {K : Int → Prop} (hz : Z (M_about what M) K) : Mt y_M_about (3, 62, n, n, E) E [vR 81, vI what] M (qP M K) := by
  refine Mt.of (by decide) (lb rfl) (Nat.le_refl _) rfl ?_
  rw [M_about] at hz
  show Rr y_M_about (3, 62, n, n, E) (qP M K) 0 [(0, vR 81), (1, vI what)] [] E n M
  refine R_iload_n (pc := 0) 1 (dc k_M_about 0 rfl) rfl rfl ?_
  by_cases hs_2 : n32 what = 0
  · have hz := Z_pos hs_2 hz
    refine R_tabIn (pc := 1) 56 (dc k_M_about 1 rfl) hs_2 (by decide) (by decide) rfl rfl ?_
    refine R_aload_n (pc := 56) 0 (dc k_M_about 2 rfl) rfl rfl ?_
    refine R_cVP (pc := 57)  (As := []) (S := []) ck_M_424 (dc k_M_about 3 rfl) ⟨rfl, ⟨_, rfl, rfl⟩, (lb rfl), (Nat.le_trans (lb rfl) hn)⟩ (lb rfl) (lb rfl) (lb rfl) rfl (ct_M_factMany hE hn (Z_bind hz)) (fun r_1 hz => ?_)
    exact R_iret (pc := 60) (dc k_M_about 4 rfl) rfl rfl rfl ⟨_, rfl, rfl, (Z_some hz)⟩
  · have hz := Z_neg hs_2 hz
    by_cases hs_4 : n32 what = 1
    · have hz := Z_pos hs_4 hz
      refine R_tabIn (pc := 1) 61 (dc k_M_about 1 rfl) hs_4 (by decide) (by decide) rfl rfl ?_
      refine R_aload_n (pc := 61) 0 (dc k_M_about 5 rfl) rfl rfl ?_
      refine R_cVP (pc := 62)  (As := []) (S := []) ck_M_421 (dc k_M_about 6 rfl) ⟨rfl, ⟨_, rfl, rfl⟩, (lb rfl), (Nat.le_trans (lb rfl) hn)⟩ (lb rfl) (lb rfl) (lb rfl) rfl (ct_M_personMany hE hn (Z_bind hz)) (fun r_3 hz => ?_)
      exact R_iret (pc := 65) (dc k_M_about 7 rfl) rfl rfl rfl ⟨_, rfl, rfl, (Z_some hz)⟩
    · have hz := Z_neg hs_4 hz
      by_cases hs_6 : n32 what = 2
      · have hz := Z_pos hs_6 hz
        refine R_tabIn (pc := 1) 66 (dc k_M_about 1 rfl) hs_6 (by decide) (by decide) rfl rfl ?_
        refine R_aload_n (pc := 66) 0 (dc k_M_about 8 rfl) rfl rfl ?_
        refine R_cVP (pc := 67)  (As := []) (S := []) ck_M_415 (dc k_M_about 9 rfl) ⟨rfl, ⟨_, rfl, rfl⟩, (lb rfl), (Nat.le_trans (lb rfl) hn)⟩ (lb rfl) (lb rfl) (lb rfl) rfl (ct_M_rowMany hE hn (Z_bind hz)) (fun r_5 hz => ?_)
        exact R_iret (pc := 70) (dc k_M_about 10 rfl) rfl rfl rfl ⟨_, rfl, rfl, (Z_some hz)⟩
      · have hz := Z_neg hs_6 hz
        by_cases hs_9 : n32 what = 3
        · have hz := Z_pos hs_9 hz
          refine R_tabIn (pc := 1) 71 (dc k_M_about 1 rfl) hs_9 (by decide) (by decide) rfl rfl ?_
          refine R_aload_n (pc := 71) 0 (dc k_M_about 11 rfl) rfl rfl ?_
          refine R_getS (pc := 72) (ci := 10) (k := 15) 88 (dc k_M_about 12 rfl) fl_M_33 rfl (lb rfl) (Nat.le_trans (lb rfl) hn) (hE 81 (lb rfl) (lb rfl)) rfl (by decide) rfl ?_
          refine R_aload_n (pc := 75) 0 (dc k_M_about 13 rfl) rfl rfl ?_
          refine R_getI (pc := 76) (ci := 10) (k := 38) (dc k_M_about 14 rfl) fl_M_304 rfl (lb rfl) (Nat.le_trans (lb rfl) hn) rfl (Or.inl rfl) ?_
          obtain ⟨⟨hg_7, hg_8⟩, hz⟩ := Z_chk hz
          refine R_iald (pc := 79) (dc k_M_about 15 rfl) rfl (lb rfl) (Nat.le_trans (lb rfl) hn) hg_7 hg_8 ?_
          exact R_iret (pc := 80) (dc k_M_about 16 rfl) rfl rfl rfl ⟨_, rfl, rfl, (Z_some hz)⟩
        · have hz := Z_neg hs_9 hz
          by_cases hs_12 : n32 what = 4
          · have hz := Z_pos hs_12 hz
            refine R_tabIn (pc := 1) 81 (dc k_M_about 1 rfl) hs_12 (by decide) (by decide) rfl rfl ?_
            refine R_aload_n (pc := 81) 0 (dc k_M_about 17 rfl) rfl rfl ?_
            refine R_getS (pc := 82) (ci := 10) (k := 16) 89 (dc k_M_about 18 rfl) fl_M_36 rfl (lb rfl) (Nat.le_trans (lb rfl) hn) (hE 81 (lb rfl) (lb rfl)) rfl (by decide) rfl ?_
            refine R_aload_n (pc := 85) 0 (dc k_M_about 19 rfl) rfl rfl ?_
            refine R_getI (pc := 86) (ci := 10) (k := 38) (dc k_M_about 20 rfl) fl_M_304 rfl (lb rfl) (Nat.le_trans (lb rfl) hn) rfl (Or.inl rfl) ?_
            obtain ⟨⟨hg_10, hg_11⟩, hz⟩ := Z_chk hz
            refine R_iald (pc := 89) (dc k_M_about 21 rfl) rfl (lb rfl) (Nat.le_trans (lb rfl) hn) hg_10 hg_11 ?_
            exact R_iret (pc := 90) (dc k_M_about 22 rfl) rfl rfl rfl ⟨_, rfl, rfl, (Z_some hz)⟩
          · have hz := Z_neg hs_12 hz
            by_cases hs_13 : n32 what = 5
            · have hz := Z_pos hs_13 hz
              refine R_tabIn (pc := 1) 91 (dc k_M_about 1 rfl) hs_13 (by decide) (by decide) rfl rfl ?_
              refine R_aload_n (pc := 91) 0 (dc k_M_about 23 rfl) rfl rfl ?_
              refine R_getI (pc := 92) (ci := 10) (k := 57) (dc k_M_about 24 rfl) fl_M_310 rfl (lb rfl) (Nat.le_trans (lb rfl) hn) rfl (Or.inl rfl) ?_
              exact R_iret (pc := 95) (dc k_M_about 25 rfl) rfl rfl rfl ⟨_, rfl, rfl, (Z_some hz)⟩
            · have hz := Z_neg hs_13 hz
              by_cases hs_14 : n32 what = 6
              · have hz := Z_pos hs_14 hz
                refine R_tabIn (pc := 1) 96 (dc k_M_about 1 rfl) hs_14 (by decide) (by decide) rfl rfl ?_
                refine R_aload_n (pc := 96) 0 (dc k_M_about 26 rfl) rfl rfl ?_
                refine R_getI (pc := 97) (ci := 10) (k := 58) (dc k_M_about 27 rfl) fl_M_488 rfl (lb rfl) (Nat.le_trans (lb rfl) hn) rfl (Or.inl rfl) ?_
                exact R_iret (pc := 100) (dc k_M_about 28 rfl) rfl rfl rfl ⟨_, rfl, rfl, (Z_some hz)⟩
              · have hz := Z_neg hs_14 hz
                by_cases hs_15 : n32 what = 7
                · have hz := Z_pos hs_15 hz
                  refine R_tabIn (pc := 1) 101 (dc k_M_about 1 rfl) hs_15 (by decide) (by decide) rfl rfl ?_
                  refine R_aload_n (pc := 101) 0 (dc k_M_about 29 rfl) rfl rfl ?_
                  refine R_getI (pc := 102) (ci := 10) (k := 2) (dc k_M_about 30 rfl) fl_M_301 rfl (lb rfl) (Nat.le_trans (lb rfl) hn) rfl (Or.inl rfl) ?_
                  exact R_iret (pc := 105) (dc k_M_about 31 rfl) rfl rfl rfl ⟨_, rfl, rfl, (Z_some hz)⟩
                · have hz := Z_neg hs_15 hz
                  by_cases hs_18 : n32 what = 8
                  · have hz := Z_pos hs_18 hz
                    refine R_tabIn (pc := 1) 106 (dc k_M_about 1 rfl) hs_18 (by decide) (by decide) rfl rfl ?_
                    refine R_aload_n (pc := 106) 0 (dc k_M_about 32 rfl) rfl rfl ?_
                    refine R_getS (pc := 107) (ci := 10) (k := 17) 90 (dc k_M_about 33 rfl) fl_M_39 rfl (lb rfl) (Nat.le_trans (lb rfl) hn) (hE 81 (lb rfl) (lb rfl)) rfl (by decide) rfl ?_
                    refine R_aload_n (pc := 110) 0 (dc k_M_about 34 rfl) rfl rfl ?_
                    refine R_getI (pc := 111) (ci := 10) (k := 38) (dc k_M_about 35 rfl) fl_M_304 rfl (lb rfl) (Nat.le_trans (lb rfl) hn) rfl (Or.inl rfl) ?_
                    obtain ⟨⟨hg_16, hg_17⟩, hz⟩ := Z_chk hz
                    refine R_iald (pc := 114) (dc k_M_about 36 rfl) rfl (lb rfl) (Nat.le_trans (lb rfl) hn) hg_16 hg_17 ?_
                    exact R_iret (pc := 115) (dc k_M_about 37 rfl) rfl rfl rfl ⟨_, rfl, rfl, (Z_some hz)⟩
                  · have hz := Z_neg hs_18 hz
                    by_cases hs_20 : n32 what = 9
                    · have hz := Z_pos hs_20 hz
                      refine R_tabIn (pc := 1) 116 (dc k_M_about 1 rfl) hs_20 (by decide) (by decide) rfl rfl ?_
                      refine R_aload_n (pc := 116) 0 (dc k_M_about 38 rfl) rfl rfl ?_
                      refine R_cVP (pc := 117)  (As := []) (S := []) ck_M_313 (dc k_M_about 39 rfl) ⟨rfl, ⟨_, rfl, rfl⟩, (lb rfl), (Nat.le_trans (lb rfl) hn)⟩ (lb rfl) (lb rfl) (lb rfl) rfl (ct_M_baseMany hE hn (Z_bind hz)) (fun r_19 hz => ?_)
                      exact R_iret (pc := 120) (dc k_M_about 40 rfl) rfl rfl rfl ⟨_, rfl, rfl, (Z_some hz)⟩
                    · have hz := Z_neg hs_20 hz
                      have hr : n32 what < 0 ∨ 9 < n32 what := by omega
                      refine R_tabOut (pc := 1) 121 (dc k_M_about 1 rfl) hr rfl ?_
                      refine R_iconst (pc := 121) (a := (-1)) (dc k_M_about 41 rfl) ?_
                      exact R_iret (pc := 122) (dc k_M_about 42 rfl) rfl rfl rfl ⟨_, rfl, rfl, (Z_some hz)⟩

set_option maxRecDepth 20000 in
theorem ct_M_feed {E : Nat → Bool} {n : Nat} (hE : ∀ c, 81 ≤ c → c ≤ 138 → E c = true) (hn : 138 ≤ n) {a : Int} {b : Int} {c : Int} {d : Int} {e : Int} {M : Mem} {K : Int × Mem → Prop} (hz : Z (M_feed a b c d e M) K) : Mt y_M_feed (0, 0, n, n, E) E [vR 81, vI a, vI b, vI c, vI d, vI e] M (qM K) := by
  refine Mt.of (by decide) (lb rfl) (Nat.le_refl _) rfl ?_
  rw [M_feed] at hz
  show Rr y_M_feed (0, 0, n, n, E) (qM K) 0 [(0, vR 81), (1, vI a), (2, vI b), (3, vI c), (4, vI d), (5, vI e)] [] E n M
  refine R_aload_n (pc := 0) 0 (dc k_M_feed 0 rfl) rfl rfl ?_
  refine R_getI (pc := 1) (ci := 10) (k := 2) (dc k_M_feed 1 rfl) fl_M_301 rfl (lb rfl) (Nat.le_trans (lb rfl) hn) rfl (Or.inl rfl) ?_
  refine R_bipush (pc := 4) (a := 20) (dc k_M_feed 2 rfl) (by decide) ?_
  refine R_iadd (pc := 6) (dc k_M_feed 3 rfl) ?_
  refine R_sipush (pc := 7) (a := 1600) (dc k_M_feed 4 rfl) (by decide) ?_
  refine R_icmp_le (pc := 10) 15 (dc k_M_feed 5 rfl) rfl (fun hc => ?_) (fun hc => ?_)
  · have hz := Z_neg (show ¬ (1600 < n32 ((M 81 2) + 20)) from (Int.not_lt.mpr hc)) hz
    refine R_iconst (pc := 15) (a := 0) (dc k_M_feed 8 rfl) ?_
    refine R_istore (pc := 16) (L' := [(6, vI 0), (0, vR 81), (1, vI a), (2, vI b), (3, vI c), (4, vI d), (5, vI e)]) (dc k_M_feed 9 rfl) (lb rfl) rfl ?_
    obtain ⟨K_3, hK_4, hz⟩ := Z_cut hz
    have hX_5 : ∀ (M_9 : Mem), K_3 M_9 → Rr y_M_feed (0, 0, n, n, E) (qM K) 105 [(0, vR 81)] [] E n M_9 := by
      intro M_9 hk
      have hz := hK_4 _ hk
      refine R_aload_n (pc := 105) 0 (dc k_M_feed 54 rfl) rfl rfl ?_
      refine R_dup (pc := 106) (dc k_M_feed 55 rfl) rfl ?_
      refine R_getI (pc := 107) (ci := 10) (k := 2) (dc k_M_feed 56 rfl) fl_M_301 rfl (lb rfl) (Nat.le_trans (lb rfl) hn) rfl (Or.inl rfl) ?_
      refine R_bipush (pc := 110) (a := 20) (dc k_M_feed 57 rfl) (by decide) ?_
      refine R_iadd (pc := 112) (dc k_M_feed 58 rfl) ?_
      obtain ⟨M_25, hM_25, hz⟩ := Z_lt hz
      refine R_putIE (pc := 113) (ci := 10) (k := 2) (dc k_M_feed 59 rfl) fl_M_301 rfl (lb rfl) (Nat.le_trans (lb rfl) hn) rfl rfl rfl hM_25 ?_
      refine R_aload_n (pc := 116) 0 (dc k_M_feed 60 rfl) rfl rfl ?_
      refine R_getI (pc := 117) (ci := 10) (k := 2) (dc k_M_feed 61 rfl) fl_M_301 rfl (lb rfl) (Nat.le_trans (lb rfl) hn) rfl (Or.inl rfl) ?_
      exact R_iret (pc := 120) (dc k_M_feed 62 rfl) rfl rfl rfl ⟨_, rfl, (Z_some hz)⟩
    refine R_sub [1, 2, 3, 4, 5, 6, 0] rfl ?_
    refine it_R (C := fun aZ : Int × Mem => Rr y_M_feed (0, 0, n, n, E) (qM K) 18 [(0, vR 81), (1, vI a), (2, vI b), (3, vI c), (4, vI d), (5, vI e), (6, vI aZ.1)] [] E n aZ.2) (fun aZ K_6 hC_7 hB_8 hz => ?_) FUEL (0, M) hz
    obtain ⟨l6_1, M_2⟩ := aZ
    rw [M_feed_b18] at hz
    show Rr y_M_feed (0, 0, n, n, E) (qM K) 18 [(0, vR 81), (1, vI a), (2, vI b), (3, vI c), (4, vI d), (5, vI e), (6, vI l6_1)] [] E n M_2
    refine R_iload (pc := 18) 6 (dc k_M_feed 10 rfl) rfl ?_
    refine R_bipush (pc := 20) (a := 20) (dc k_M_feed 11 rfl) (by decide) ?_
    refine R_icmp_ge (pc := 22) 105 (dc k_M_feed 12 rfl) rfl (fun hc => ?_) (fun hc => ?_)
    · have hz := Z_neg (show ¬ (n32 l6_1 < 20) from (Int.not_lt.mpr hc)) hz
      refine R_sub [0] rfl ?_
      exact hX_5 _ (hB_8 _ (Z_some hz))
    · have hz := Z_pos (show n32 l6_1 < 20 from (Int.not_le.mp hc)) hz
      refine R_iload (pc := 25) 6 (dc k_M_feed 13 rfl) rfl ?_
      refine R_iconst (pc := 27) (a := 4) (dc k_M_feed 14 rfl) ?_
      obtain ⟨K_11, hK_12, hz⟩ := Z_cut hz
      have hJ_13 : ∀ (v_10 : Int), K_11 v_10 → Rr y_M_feed (0, 0, n, n, E) (qM K) 71 [(0, vR 81), (1, vI a), (2, vI b), (3, vI c), (4, vI d), (5, vI e), (6, vI l6_1)] [vI v_10] E n M_2 := by
        intro v_10 hk
        have hz := hK_12 _ hk
        refine R_istore (pc := 71) (L' := [(7, vI v_10), (0, vR 81), (1, vI a), (2, vI b), (3, vI c), (4, vI d), (5, vI e), (6, vI l6_1)]) (dc k_M_feed 34 rfl) (lb rfl) rfl ?_
        refine R_aload_n (pc := 73) 1 (dc k_M_feed 35 rfl) rfl rfl ?_
        refine R_getS (pc := 74) (ci := 10) (k := 0) 82 (dc k_M_feed 36 rfl) fl_M_7 rfl (lb rfl) (Nat.le_trans (lb rfl) hn) (hE 81 (lb rfl) (lb rfl)) rfl (by decide) rfl ?_
        refine R_aload_n (pc := 77) 1 (dc k_M_feed 37 rfl) rfl rfl ?_
        refine R_getI (pc := 78) (ci := 10) (k := 2) (dc k_M_feed 38 rfl) fl_M_301 rfl (lb rfl) (Nat.le_trans (lb rfl) hn) rfl (Or.inl rfl) ?_
        refine R_iload (pc := 81) 7 (dc k_M_feed 39 rfl) rfl ?_
        refine R_iadd (pc := 83) (dc k_M_feed 40 rfl) ?_
        refine R_iload (pc := 84) 0 (dc k_M_feed 41 rfl) rfl ?_
        refine R_bipush (pc := 86) (a := 24) (dc k_M_feed 42 rfl) (by decide) ?_
        refine R_bipush (pc := 88) (a := 8) (dc k_M_feed 43 rfl) (by decide) ?_
        refine R_iload (pc := 90) 7 (dc k_M_feed 44 rfl) rfl ?_
        refine R_iconst (pc := 92) (a := 3) (dc k_M_feed 45 rfl) ?_
        refine R_iand (pc := 93) (dc k_M_feed 46 rfl) ?_
        refine R_imul (pc := 94) (dc k_M_feed 47 rfl) ?_
        refine R_isub (pc := 95) (dc k_M_feed 48 rfl) ?_
        refine R_ishr (pc := 96) (dc k_M_feed 49 rfl) ?_
        refine R_i2b (pc := 97) (dc k_M_feed 50 rfl) ?_
        obtain ⟨⟨hg_18, hg_19⟩, hz⟩ := Z_chk hz
        obtain ⟨⟨hg_20, hg_21⟩, hz⟩ := Z_chk hz
        obtain ⟨M_22, hM_22, hz⟩ := Z_lt hz
        refine R_bastE (pc := 98) (dc k_M_feed 51 rfl) rfl (lb rfl) (Nat.le_trans (lb rfl) hn) hg_18 hg_19 ⟨hg_20, hg_21⟩ hM_22 ?_
        obtain ⟨l6_23, hl6_23, hz⟩ := Z_lt hz
        refine R_iincE (pc := 99) (L' := [(6, vI l6_23), (7, vI v_10), (0, vR 81), (1, vI a), (2, vI b), (3, vI c), (4, vI d), (5, vI e)]) 7 (dc k_M_feed 52 rfl) rfl (lb rfl) hl6_23 rfl ?_
        refine R_goto (pc := 102) 18 (dc k_M_feed 53 rfl) rfl ?_
        refine R_sub [2, 3, 4, 5, 6, 7, 0] rfl ?_
        exact hC_7 _ (Z_some hz)
      refine R_icmp_ge (pc := 28) 35 (dc k_M_feed 15 rfl) rfl (fun hc => ?_) (fun hc => ?_)
      · have hz := Z_neg (show ¬ (n32 l6_1 < 4) from (Int.not_lt.mpr hc)) hz
        refine R_iload (pc := 35) 6 (dc k_M_feed 18 rfl) rfl ?_
        refine R_bipush (pc := 37) (a := 8) (dc k_M_feed 19 rfl) (by decide) ?_
        refine R_icmp_ge (pc := 39) 46 (dc k_M_feed 20 rfl) rfl (fun hc => ?_) (fun hc => ?_)
        · have hz := Z_neg (show ¬ (n32 l6_1 < 8) from (Int.not_lt.mpr hc)) hz
          refine R_iload (pc := 46) 6 (dc k_M_feed 23 rfl) rfl ?_
          refine R_bipush (pc := 48) (a := 12) (dc k_M_feed 24 rfl) (by decide) ?_
          refine R_icmp_ge (pc := 50) 57 (dc k_M_feed 25 rfl) rfl (fun hc => ?_) (fun hc => ?_)
          · have hz := Z_neg (show ¬ (n32 l6_1 < 12) from (Int.not_lt.mpr hc)) hz
            refine R_iload (pc := 57) 6 (dc k_M_feed 28 rfl) rfl ?_
            refine R_bipush (pc := 59) (a := 16) (dc k_M_feed 29 rfl) (by decide) ?_
            refine R_icmp_ge (pc := 61) 69 (dc k_M_feed 30 rfl) rfl (fun hc => ?_) (fun hc => ?_)
            · have hz := Z_neg (show ¬ (n32 l6_1 < 16) from (Int.not_lt.mpr hc)) hz
              refine R_iload (pc := 69) 5 (dc k_M_feed 33 rfl) rfl ?_
              exact hJ_13 _ (Z_some hz)
            · have hz := Z_pos (show n32 l6_1 < 16 from (Int.not_le.mp hc)) hz
              refine R_iload (pc := 64) 4 (dc k_M_feed 31 rfl) rfl ?_
              refine R_goto (pc := 66) 71 (dc k_M_feed 32 rfl) rfl ?_
              exact hJ_13 _ (Z_some hz)
          · have hz := Z_pos (show n32 l6_1 < 12 from (Int.not_le.mp hc)) hz
            refine R_iload_n (pc := 53) 3 (dc k_M_feed 26 rfl) rfl rfl ?_
            refine R_goto (pc := 54) 71 (dc k_M_feed 27 rfl) rfl ?_
            exact hJ_13 _ (Z_some hz)
        · have hz := Z_pos (show n32 l6_1 < 8 from (Int.not_le.mp hc)) hz
          refine R_iload_n (pc := 42) 2 (dc k_M_feed 21 rfl) rfl rfl ?_
          refine R_goto (pc := 43) 71 (dc k_M_feed 22 rfl) rfl ?_
          exact hJ_13 _ (Z_some hz)
      · have hz := Z_pos (show n32 l6_1 < 4 from (Int.not_le.mp hc)) hz
        refine R_iload_n (pc := 31) 1 (dc k_M_feed 16 rfl) rfl rfl ?_
        refine R_goto (pc := 32) 71 (dc k_M_feed 17 rfl) rfl ?_
        exact hJ_13 _ (Z_some hz)
  · have hz := Z_pos (show 1600 < n32 ((M 81 2) + 20) from (Int.not_le.mp hc)) hz
    refine R_iconst (pc := 13) (a := (-1)) (dc k_M_feed 6 rfl) ?_
    exact R_iret (pc := 14) (dc k_M_feed 7 rfl) rfl rfl rfl ⟨_, rfl, (Z_some hz)⟩

set_option maxRecDepth 20000 in
theorem ct_M_end {E : Nat → Bool} {n : Nat} (hE : ∀ c, 81 ≤ c → c ≤ 138 → E c = true) (hn : 138 ≤ n) {n_ : Int} {M : Mem} {K : Int × Mem → Prop} (hz : Z (M_end n_ M) K) : Mt y_M_end (0, 0, n, n, E) E [vR 81, vI n_] M (qM K) := by
  refine Mt.of (by decide) (lb rfl) (Nat.le_refl _) rfl ?_
  rw [M_end] at hz
  show Rr y_M_end (0, 0, n, n, E) (qM K) 0 [(0, vR 81), (1, vI n_)] [] E n M
  refine R_iload_n (pc := 0) 1 (dc k_M_end 0 rfl) rfl rfl ?_
  have hX_2 : ((n32 n_ < 0) ∨ (n32 (M 81 2) < n32 n_)) → Rr y_M_end (0, 0, n, n, E) (qM K) 12 [(0, vR 81), (1, vI n_)] [] E n M := by
    intro hc
    have hz := Z_pos hc hz
    refine R_iconst (pc := 12) (a := (-1)) (dc k_M_end 6 rfl) ?_
    exact R_iret (pc := 13) (dc k_M_end 7 rfl) rfl rfl rfl ⟨_, rfl, (Z_some hz)⟩
  have hY_3 : ¬ ((n32 n_ < 0) ∨ (n32 (M 81 2) < n32 n_)) → Rr y_M_end (0, 0, n, n, E) (qM K) 14 [(0, vR 81), (1, vI n_)] [] E n M := by
    intro hc
    have hz := Z_neg hc hz
    refine R_aload_n (pc := 14) 0 (dc k_M_end 8 rfl) rfl rfl ?_
    refine R_iload_n (pc := 15) 1 (dc k_M_end 9 rfl) rfl rfl ?_
    obtain ⟨M_1, hM_1, hz⟩ := Z_lt hz
    refine R_putIE (pc := 16) (ci := 10) (k := 2) (dc k_M_end 10 rfl) fl_M_301 rfl (lb rfl) (Nat.le_trans (lb rfl) hn) rfl rfl rfl hM_1 ?_
    refine R_iload_n (pc := 19) 1 (dc k_M_end 11 rfl) rfl rfl ?_
    exact R_iret (pc := 20) (dc k_M_end 12 rfl) rfl rfl rfl ⟨_, rfl, (Z_some hz)⟩
  refine R_if_lt (pc := 1) 12 (dc k_M_end 1 rfl) rfl (fun hc => ?_) (fun hc => ?_)
  · have hc_4 : n32 n_ < 0 := hc
    exact hX_2 (Or.inl hc_4)
  · have hc_5 : 0 ≤ n32 n_ := (Int.not_lt.mp hc)
    refine R_iload_n (pc := 4) 1 (dc k_M_end 2 rfl) rfl rfl ?_
    refine R_aload_n (pc := 5) 0 (dc k_M_end 3 rfl) rfl rfl ?_
    refine R_getI (pc := 6) (ci := 10) (k := 2) (dc k_M_end 4 rfl) fl_M_301 rfl (lb rfl) (Nat.le_trans (lb rfl) hn) rfl (Or.inl rfl) ?_
    refine R_icmp_le (pc := 9) 14 (dc k_M_end 5 rfl) rfl (fun hc => ?_) (fun hc => ?_)
    · have hc_6 : n32 n_ ≤ n32 (M 81 2) := hc
      exact hY_3 (fun z => z.elim (Int.not_lt.mpr hc_5) (Int.not_lt.mpr hc_6))
    · have hc_7 : n32 (M 81 2) < n32 n_ := (Int.not_le.mp hc)
      exact hX_2 (Or.inr hc_7)
