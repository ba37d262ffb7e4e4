/-! ===== lines: ties, the whole ===== -/
section LTIE2
variable {n t b s : Nat} {C R : Mem}
theorem TieQ_add (h : TieQ t b C R) (hT12 : nT R b < 12) {C' R' : Mem} (hn : nT R' b = nT R b + 1) (hP : nP R' b = nP R b) (hP8 : nP R b ≤ 8) {i j v : Nat} (hi : i < nP R b) (hj : j < nP R b) (hij : i ≠ j) (hno : noTie b R i j) (hv : v ≤ 99) (h4 : ∀ k, k < nT R b → C' (t + 4) k = C (t + 4) k ∧ C' (t + 5) k = C (t + 5) k ∧ C' (t + 6) k = C (t + 6) k) (h98 : ∀ k, k < nT R b → R' 98 (12 * b + k) = R 98 (12 * b + k) ∧ R' 99 (12 * b + k) = R 99 (12 * b + k) ∧ R' 100 (12 * b + k) = R 100 (12 * b + k)) (n4 : C' (t + 4) (nT R b) = (i : Int) ∧ C' (t + 5) (nT R b) = (j : Int) ∧ C' (t + 6) (nT R b) = (v : Int)) (n98 : R' 98 (12 * b + nT R b) = (i : Int) ∧ R' 99 (12 * b + nT R b) = (j : Int) ∧ R' 100 (12 * b + nT R b) = (v : Int)) (h3i : C' (t + 3) i = (((C (t + 3) i).toNat ||| 2 ^ j : Nat) : Int)) (h3j : C' (t + 3) j = (((C (t + 3) j).toNat ||| 2 ^ i : Nat) : Int)) (h3o : ∀ p, p ≠ i → p ≠ j → C' (t + 3) p = C (t + 3) p) : TieQ t b C' R' := by
  obtain ⟨q1, q2, q3⟩ := h
  have e1 : ∀ k, k < nT R b → tOne R' b k = tOne R b k := fun k hk => by unfold tOne; rw [(h98 k hk).1]
  have e2 : ∀ k, k < nT R b → tTwo R' b k = tTwo R b k := fun k hk => by unfold tTwo; rw [(h98 k hk).2.1]
  have m1 : tOne R' b (nT R b) = i := by unfold tOne; rw [n98.1]; rfl
  have m2 : tTwo R' b (nT R b) = j := by unfold tTwo; rw [n98.2.1]; rfl
  refine ⟨fun k hk => ?_, fun k l hkl hl => ?_, fun p hp => ?_⟩
  · by_cases e : k = nT R b
    · subst e
      rw [n4.1, n4.2.1, n4.2.2, n98.1, n98.2.1, n98.2.2, m1, m2, hP]
      refine ⟨⟨rfl, rfl, rfl⟩, ⟨by omega, hi⟩, ⟨by omega, hj⟩, hij, by omega, by omega⟩
    · have hk' : k < nT R b := by omega
      obtain ⟨y1, y2, y3⟩ := h4 k hk'
      obtain ⟨y4, y5, y6⟩ := h98 k hk'
      rw [y1, y2, y3, y4, y5, y6, e1 k hk', e2 k hk', hP]
      exact q1 k hk'
  · by_cases e : l = nT R b
    · subst e
      rw [m1, m2, e1 k hkl, e2 k hkl]
      obtain ⟨z1, z2⟩ := hno k hkl
      exact ⟨z1, fun z => z2 z⟩
    · rw [e1 k (by omega), e1 l (by omega), e2 k (by omega), e2 l (by omega)]
      exact q2 k l hkl (by omega)
  · obtain ⟨⟨a1, a2⟩, a3⟩ := q3 p hp
    have hany : ∀ q, anyB (fun k => (decide (tOne R' b k = p) && decide (tTwo R' b k = q)) || (decide (tOne R' b k = q) && decide (tTwo R' b k = p))) (nT R' b) = ((C (t + 3) p).toNat.testBit q || ((decide (i = p) && decide (j = q)) || (decide (i = q) && decide (j = p)))) := fun q => by
      rw [hn, anyB_s, m1, m2, a3 q]
      congr 1
      exact anyB_congr (fun k hk => by rw [e1 k hk, e2 k hk])
    by_cases ei : p = i
    · subst ei
      have hb := Nat.or_lt_two_pow (n := 8) (show (C (t + 3) p).toNat < 2 ^ 8 by omega) (show 2 ^ j < 2 ^ 8 from Nat.pow_lt_pow_right (by omega) (by omega))
      rw [h3i]
      refine ⟨⟨by omega, by omega⟩, fun q => ?_⟩
      rw [hany q, show Int.toNat (((C (t + 3) p).toNat ||| 2 ^ j : Nat) : Int) = (C (t + 3) p).toNat ||| 2 ^ j from rfl, Nat.testBit_or, Nat.testBit_two_pow, decide_eq_true (show p = p from rfl), Bool.true_and, decide_eq_false (show ¬ j = p by omega), Bool.and_false, Bool.or_false]
    · by_cases ej : p = j
      · subst ej
        have hb := Nat.or_lt_two_pow (n := 8) (show (C (t + 3) p).toNat < 2 ^ 8 by omega) (show 2 ^ i < 2 ^ 8 from Nat.pow_lt_pow_right (by omega) (by omega))
        rw [h3j]
        refine ⟨⟨by omega, by omega⟩, fun q => ?_⟩
        rw [hany q, show Int.toNat (((C (t + 3) p).toNat ||| 2 ^ i : Nat) : Int) = (C (t + 3) p).toNat ||| 2 ^ i from rfl, Nat.testBit_or, Nat.testBit_two_pow, decide_eq_false (show ¬ i = p by omega), Bool.false_and, Bool.false_or, decide_eq_true (show p = p from rfl), Bool.and_true]
      · rw [h3o p ei ej]
        refine ⟨⟨a1, a2⟩, fun q => ?_⟩
        rw [hany q, decide_eq_false (show ¬ i = p by omega), decide_eq_false (show ¬ j = p by omega), Bool.false_and, Bool.and_false, Bool.or_false, Bool.or_false]
theorem tie_store {M : Mem} (ht : isT t) {T i j v di dj : Nat} (hT : T < 12) (hi : i < 8) (hj : j < 8) (hij : i ≠ j) (h27 : M 27 16 = (t : Int)) (h3 : M t 3 = (T : Int)) (hdi : M (t + 3) i = (di : Int)) (hdj : M (t + 3) j = (dj : Int)) (bi : di < 256) (bj : dj < 256) : (chk (isTI (M 27 16)) <| lt1 (M 27 16).toNat fun t_43 => chk (0 ≤ (M t_43 3) ∧ (M t_43 3) < 12) <| lt1 (up M (t_43 + 4) (Int.toNat (M t_43 3)) (i : Int)) fun M_47 => chk (isTI (M_47 27 16)) <| lt1 (M_47 27 16).toNat fun t_49 => chk (0 ≤ (M_47 t_49 3) ∧ (M_47 t_49 3) < 12) <| lt1 (up M_47 (t_49 + 5) (Int.toNat (M_47 t_49 3)) (j : Int)) fun M_53 => chk (isTI (M_53 27 16)) <| lt1 (M_53 27 16).toNat fun t_55 => chk (0 ≤ (M_53 t_55 3) ∧ (M_53 t_55 3) < 12) <| lt1 (up M_53 (t_55 + 6) (Int.toNat (M_53 t_55 3)) (v : Int)) fun M_59 => chk (isTI (M_59 27 16)) <| lt1 (M_59 27 16).toNat fun t_61 => chk (0 ≤ (i : Int) ∧ (i : Int) < 8) <| lt1 (up M_59 (t_61 + 3) (Int.toNat (i : Int)) (ior' (M_59 (t_61 + 3) (Int.toNat (i : Int))) (ishl 1 (j : Int)))) fun M_65 => chk (isTI (M_65 27 16)) <| lt1 (M_65 27 16).toNat fun t_67 => chk (0 ≤ (j : Int) ∧ (j : Int) < 8) <| lt1 (up M_65 (t_67 + 3) (Int.toNat (j : Int)) (ior' (M_65 (t_67 + 3) (Int.toNat (j : Int))) (ishl 1 (i : Int)))) fun M_71 => chk (isTI (M_71 27 16)) <| lt1 (M_71 27 16).toNat fun t_73 => lt1 (up M_71 t_73 3 ((M_71 t_73 3) + 1)) fun M_75 => some M_75) = some (up (up (up (up (up (up M (t + 4) T (i : Int)) (t + 5) T (j : Int)) (t + 6) T (v : Int)) (t + 3) i ((di ||| 2 ^ j : Nat) : Int)) (t + 3) j ((dj ||| 2 ^ i : Nat) : Int)) t 3 ((T : Int) + 1)) := by
  have ht2 : t ≤ 15 := by unfold isT at ht; omega
  have ht3 : 3 ≤ t := by unfold isT at ht; omega
  have p8 : ∀ k, k < 8 → 2 ^ k < 2147483648 := fun k hk => Nat.lt_of_lt_of_le (Nat.pow_lt_pow_right (by omega) (show k < 31 by omega)) (by decide)
  have f27 : ∀ (M : Mem) c k v, c ≠ 27 → M 27 16 = (t : Int) → up M c k v 27 16 = (t : Int) := fun M c k v z h => by rw [up_c (Ne.symm z)]; exact h
  have ft1 : ∀ (M : Mem) c k v, c ≠ t → M t 3 = (T : Int) → up M c k v t 3 = (T : Int) := fun M c k v z h => by rw [up_c (Ne.symm z)]; exact h
  have i1 : ior' (di : Int) (ishl 1 (j : Int)) = ((di ||| 2 ^ j : Nat) : Int) := by rw [ishl_1 (by omega), ior_nat (by omega) (p8 j hj)]
  have i2 : ior' (dj : Int) (ishl 1 (i : Int)) = ((dj ||| 2 ^ i : Nat) : Int) := by rw [ishl_1 (by omega), ior_nat (by omega) (p8 i hi)]
  have cT : (0 : Int) ≤ (T : Int) ∧ (T : Int) < 12 := by omega
  have ci : (0 : Int) ≤ (i : Int) ∧ (i : Int) < 8 := by omega
  have cj : (0 : Int) ≤ (j : Int) ∧ (j : Int) < 8 := by omega
  rw [h27, chk_pos (isTI_of rfl ht), lt1_eq, tn_nat, h3, chk_pos cT, lt1_eq, tn_nat]
  have q1 := f27 M (t + 4) T (i : Int) (by omega) h27
  have q2 := ft1 M (t + 4) T (i : Int) (by omega) h3
  have d1 : up M (t + 4) T (i : Int) (t + 3) i = (di : Int) := by rw [up_c (by omega)]; exact hdi
  have d2 : up M (t + 4) T (i : Int) (t + 3) j = (dj : Int) := by rw [up_c (by omega)]; exact hdj
  generalize up M (t + 4) T (i : Int) = M1 at *
  rw [q1, chk_pos (isTI_of rfl ht), lt1_eq, tn_nat, q2, chk_pos cT, lt1_eq, tn_nat]
  have q3 := f27 M1 (t + 5) T (j : Int) (by omega) q1
  have q4 := ft1 M1 (t + 5) T (j : Int) (by omega) q2
  have d3 : up M1 (t + 5) T (j : Int) (t + 3) i = (di : Int) := by rw [up_c (by omega)]; exact d1
  have d4 : up M1 (t + 5) T (j : Int) (t + 3) j = (dj : Int) := by rw [up_c (by omega)]; exact d2
  generalize up M1 (t + 5) T (j : Int) = M2 at *
  rw [q3, chk_pos (isTI_of rfl ht), lt1_eq, tn_nat, q4, chk_pos cT, lt1_eq, tn_nat]
  have q5 := f27 M2 (t + 6) T (v : Int) (by omega) q3
  have q6 := ft1 M2 (t + 6) T (v : Int) (by omega) q4
  have d5 : up M2 (t + 6) T (v : Int) (t + 3) i = (di : Int) := by rw [up_c (by omega)]; exact d3
  have d6 : up M2 (t + 6) T (v : Int) (t + 3) j = (dj : Int) := by rw [up_c (by omega)]; exact d4
  generalize up M2 (t + 6) T (v : Int) = M3 at *
  rw [q5, chk_pos (isTI_of rfl ht), lt1_eq, tn_nat, chk_pos ci, lt1_eq, tn_nat, d5, i1]
  have q7 := f27 M3 (t + 3) i ((di ||| 2 ^ j : Nat) : Int) (by omega) q5
  have q8 := ft1 M3 (t + 3) i ((di ||| 2 ^ j : Nat) : Int) (by omega) q6
  have d7 : up M3 (t + 3) i ((di ||| 2 ^ j : Nat) : Int) (t + 3) j = (dj : Int) := by rw [up_k (Ne.symm hij)]; exact d6
  generalize up M3 (t + 3) i ((di ||| 2 ^ j : Nat) : Int) = M4 at *
  rw [q7, chk_pos (isTI_of rfl ht), lt1_eq, tn_nat, chk_pos cj, lt1_eq, tn_nat, d7, i2]
  have q9 := f27 M4 (t + 3) j ((dj ||| 2 ^ i : Nat) : Int) (by omega) q7
  have q10 := ft1 M4 (t + 3) j ((dj ||| 2 ^ i : Nat) : Int) (by omega) q8
  rw [q9, chk_pos (isTI_of rfl ht), lt1_eq, lt1_eq, tn_nat, q10]
theorem line_tie (hB : TB n C R) (hI : PI t b s C R) {p : Nat} (g : Gd n 7 p C R) : ∃ C' R', N_readTie C = some C' ∧ M_readLine R = some R' ∧ LRes n t b (p + 1) C' R' := by
  have hI0 := hI
  obtain ⟨⟨ht, hb, h27, h39⟩, hN, ⟨n1, n2, n3⟩, hCo, hTi, hWi, hKn, hCn, hRo, hAl, hLw⟩ := hI
  have ht2 : t ≤ 15 := by unfold isT at ht; omega
  have ht3 : 3 ≤ t := by unfold isT at ht; omega
  have hF := num_F hN
  have hP := num_P hN
  have hR := num_R hN
  have hTn := num_T hN
  have hWn := num_W hN
  have gT := g.2.2.2.2.2
  have hfull := full_eq gT hb h39 hLw.2.1
  rw [if_neg (by decide), if_neg (by decide), if_neg (by decide), if_neg (by decide), if_pos rfl, hTn.1, n32_nat (by omega)] at hfull
  have h8 : R 81 8 = 3 ∧ R 81 10 = 7629157 := by
    obtain ⟨-, hT⟩ := gT
    rcases hT with ⟨z, -⟩ | ⟨z, -⟩ | ⟨-, -, z3, z4⟩ | ⟨z, -⟩ | ⟨z, -⟩
    · omega
    · omega
    · exact ⟨z3, by rw [z4]; exact wconst.2.2.2.2.2.2.1⟩
    · omega
    · exact absurd z (by decide)
  have hon : OnT C R C R := ⟨fun _ _ _ => rfl, fun _ _ _ => rfl⟩
  have bk59 : ∀ M : Mem, M 40 4 = 24 → K_expect 59 M = some M := fun M h => bk_expect (w := 59) h (by decide) (by decide)
  have bk8 : ∀ M : Mem, M 40 4 = 24 → K_expect 8 M = some M := fun M h => bk_expect (w := 8) h (by decide) (by decide)
  unfold N_readTie
  rw [h27, chk_pos (isTI_of rfl ht), lt1_eq, tn_nat, hTn.2.1, n32_nat (by omega)]
  by_cases hfu : nT R b = 12
  · rw [decide_eq_true (by omega)] at hfull
    rw [if_neg (by omega), bind_some', begin_no g, bind_some', bk_person failC_at.1, bind_some']
    dsimp only
    rw [bk_pass failC_at.1, bind_some', bk_person failC_at.1, bind_some']
    dsimp only
    rw [if_neg (fun z => z.1 (by decide)), bind_some', bk_pass failC_at.1, bind_some', bk8 _ failC_at.1, bind_some', bk_small failC_at.1, bind_some']
    dsimp only
    rw [bk59 _ failC_at.1, bind_some', if_neg (show ¬ ((¬ n32 (failC C 2 40 4) = 24) ∧ ((¬ n32 (-1) = (-1)) ∧ (¬ n32 (-1) = (-1)))) from fun z => z.2.1 (by decide)), line_no g (fun _ => hfull)]
    exact ⟨_, _, rfl, rfl, Or.inr (both_fail hB g (by decide) (by decide))⟩
  · rw [decide_eq_false (by omega)] at hfull
    obtain ⟨C1, R1, k1, k2, k3⟩ := pass_ok hB hon g
    rw [if_neg (by decide)] at k3
    obtain ⟨x, Ca, Cb, r4, y, R2, a1, a2, a3, a4, a5, a6⟩ := person_pass hB (HN_of hI0) k3
    obtain ⟨z, Cc, Cd, Ce, r7, l4, M55, r69, R3, d1, d2, d3, d4, d5, d6, d7, d8, d9⟩ := tie2 hB hI0 a5 a6
    have e39 : R1 81 39 = (b : Int) := (k3.1.2 _ _ (by omega)).trans h39
    have e39' : R2 81 39 = (b : Int) := (a6.1.2 _ _ (by omega)).trans h39
    have e88 : R1 88 b = (nT R b : Int) := (k3.1.2 _ _ (by omega)).trans hTn.1
    clear a5 d8
    have hl24 : 12 * b + nT R b < 24 := by omega
    obtain ⟨gd, d6a, d6b⟩ := Option.bind_eq_some_iff.mp d6
    rw [if_pos (show (nT R b : Int) < 12 by omega), bind_some', begin_yes, k1, bind_some', a1, bind_some']
    dsimp only
    rw [a2, bind_some', d1, bind_some']
    dsimp only
    rw [d2, bind_some', d3, bind_some', rl_Tie h8.1 h8.2 hfull (gd_good g.2.1.1), k2, bind_some']
    unfold M_readTie
    rw [e39, chk_pos (by omega), lt1_eq, tn_nat, e88, show 12 * (b : Int) + (nT R b : Int) = ((12 * b + nT R b : Nat) : Int) by omega, a3, bind_some', a4, bind_some']
    dsimp only
    rw [d4, bind_some', b1_ite, bind_some', lt1_eq, e39', show 12 * (b : Int) = ((12 * b : Nat) : Int) by omega, d5, bind_some', d6a, bind_some', d6b, bind_some', chk_pos (by omega), lt1_eq, tn_nat, d7, bind_some']
    dsimp only
    rw [lt1_eq]
    have w1 := S3_up d9 (c := 99) (k := 12 * b + nT R b) (v := r69) (by decide)
    have hB1 := TB_up (TB_up hB (c := 98) (k := 12 * b + nT R b) (v := y) (by decide) (by decide)) (c := 99) (k := 12 * b + nT R b) (v := r69) (by decide) (by decide)
    obtain ⟨C3, xs, C4, ys, R4, f1, f2, f3, f4⟩ := after_ok hB1 (j := 7) (by decide) w1
    rw [wconst.2.2.2.2.2.2.2.1] at f3
    rw [show ((7 + 1 : Nat) : Int) = 8 from rfl] at f1
    rw [f1, bind_some', f2, bind_some', f3, bind_some']
    dsimp only
    rw [lt1_eq]
    have e39'' : up R4 100 (12 * b + nT R b) ys 81 39 = (b : Int) := by rw [up_c (by decide), f4.1.2 _ _ (by omega), up_c (by decide), up_c (by decide)]; exact h39
    have e88'' : up R4 100 (12 * b + nT R b) ys 88 b = (nT R b : Int) := by rw [up_c (by decide), f4.1.2 _ _ (by omega), up_c (by decide), up_c (by decide)]; exact hTn.1
    rw [e39'', chk_pos (by omega), lt1_eq, tn_nat, e88'', bind_some']
    have w2 := S3_up (S3_up f4 (c := 100) (k := 12 * b + nT R b) (v := ys) (by decide)) (c := 88) (k := b) (v := (nT R b : Int) + 1) (by decide)
    have hB2 := TB_up (TB_up hB1 (c := 100) (k := 12 * b + nT R b) (v := ys) (by decide) (by decide)) (c := 88) (k := b) (v := (nT R b : Int) + 1) (by decide) (by decide)
    obtain ⟨r, C7, R7, x1, x2, x3, x4⟩ := must_sign hB2 (w := 59) (by decide) w2
    rw [show ((59 : Nat) : Int) = 59 from rfl] at x1 x2
    rw [x2, bind_some', x1, bind_some', x3, bind_some']
    clear d9 w1 w2 f4 a6 d2
    obtain ⟨⟨on1, on2⟩, ⟨kd, p', hp', g', ⟨i, j, hi, hj, rfl, rfl, rfl, rfl, hij, hno⟩, cv, hcv, rfl, rfl⟩ | hfb⟩ := x4
    · have hk := Tok_kd g'.2.2.2.2.2
      have e27 : C7 27 16 = (t : Int) := (on1 _ _ (by omega)).trans h27
      have et1 : C7 t 3 = (nT R b : Int) := (on1 _ _ (by omega)).trans hTn.2.1
      obtain ⟨bi1, bi2⟩ := (hTi.2.2 i (by omega)).1
      obtain ⟨bj1, bj2⟩ := (hTi.2.2 j (by omega)).1
      have hst := tie_store (M := C7) ht (T := nT R b) (i := i) (j := j) (v := cv) (di := (C (t + 3) i).toNat) (dj := (C (t + 3) j).toNat) (by omega) (by omega) (by omega) hij e27 et1 (by rw [on1 _ _ (by omega)]; omega) (by rw [on1 _ _ (by omega)]; omega) (by omega) (by omega)
      have hif : (¬ n32 (C7 40 4) = 24) ∧ ((¬ n32 (i : Int) = (-1)) ∧ (¬ n32 (j : Int) = (-1))) := by
        rw [Tok_4 g'.2.2.2.2.2, n32_nat (show i < 2147483648 by omega), n32_nat (show j < 2147483648 by omega)]
        omega
      rw [if_pos hif, hst]
      clear hst
      generalize hM3 : up (up (up C7 (t + 4) (nT R b) (i : Int)) (t + 5) (nT R b) (j : Int)) (t + 6) (nT R b) (cv : Int) = M3
      refine ⟨_, _, rfl, rfl, Or.inl ?_⟩
      generalize hC8 : up (up (up M3 (t + 3) i (((C (t + 3) i).toNat ||| 2 ^ j : Nat) : Int)) (t + 3) j (((C (t + 3) j).toNat ||| 2 ^ i : Nat) : Int)) t 3 ((nT R b : Int) + 1) = C8
      have cM : ∀ a k, ¬ (a = t + 3 ∧ (k = i ∨ k = j)) ∧ ¬ (a = t ∧ k = 3) → C8 a k = M3 a k := fun a k z => by rw [← hC8, up_at, if_neg z.2, up_at, if_neg (by omega), up_at, if_neg (by omega)]
      have cS : ∀ a k, a ≠ 40 ∧ ¬ (a = t + 4 ∧ k = nT R b) ∧ ¬ (a = t + 5 ∧ k = nT R b) ∧ ¬ (a = t + 6 ∧ k = nT R b) ∧ ¬ (a = t ∧ k = 3) ∧ ¬ (a = t + 3 ∧ (k = i ∨ k = j)) → C8 a k = C a k := fun a k z => by rw [cM a k ⟨z.2.2.2.2.2, z.2.2.2.2.1⟩, ← hM3, up_at, if_neg z.2.2.2.1, up_at, if_neg z.2.2.1, up_at, if_neg z.2.1]; exact on1 a k z.1
      have c40 : ∀ k, C8 40 k = C7 40 k := fun k => by rw [cM _ _ (by omega), ← hM3, up_c (by omega), up_c (by omega), up_c (by omega)]
      have e2 : ∀ k, C8 2 k = C7 2 k := fun k => by rw [cM _ _ (by omega), ← hM3, up_c (by omega), up_c (by omega), up_c (by omega)]
      have cc4 : C8 (t + 4) (nT R b) = (i : Int) := by rw [cM _ _ (by omega), ← hM3, up_c (by omega), up_c (by omega), up_eq]
      have cc5 : C8 (t + 5) (nT R b) = (j : Int) := by rw [cM _ _ (by omega), ← hM3, up_c (by omega), up_eq]
      have cc6 : C8 (t + 6) (nT R b) = (cv : Int) := by rw [cM _ _ (by omega), ← hM3, up_eq]
      have cci : C8 (t + 3) i = (((C (t + 3) i).toNat ||| 2 ^ j : Nat) : Int) := by rw [← hC8, up_c (by omega), up_k hij, up_eq]
      have ccj : C8 (t + 3) j = (((C (t + 3) j).toNat ||| 2 ^ i : Nat) : Int) := by rw [← hC8, up_c (by omega), up_eq]
      have ct : C8 t 3 = ((nT R b + 1 : Nat) : Int) := by rw [← hC8, up_eq]; omega
      have rS : ∀ a k, ¬ (a = 81 ∧ 4 ≤ k ∧ k ≤ 10) ∧ ¬ (a = 98 ∧ k = 12 * b + nT R b) ∧ ¬ (a = 99 ∧ k = 12 * b + nT R b) ∧ ¬ (a = 100 ∧ k = 12 * b + nT R b) ∧ ¬ (a = 88 ∧ k = b) → R7 a k = R a k := fun a k z => by rw [on2 a k z.1, up_at, if_neg z.2.2.2.2, up_at, if_neg z.2.2.2.1, up_at, if_neg z.2.2.1, up_at, if_neg z.2.1]
      have r88 : R7 88 b = ((nT R b + 1 : Nat) : Int) := by rw [on2 _ _ (by omega), up_eq]; omega
      have r98 : R7 98 (12 * b + nT R b) = (i : Int) := by rw [on2 _ _ (by omega), up_c (by decide), up_c (by decide), up_c (by decide), up_eq]
      have r99 : R7 99 (12 * b + nT R b) = (j : Int) := by rw [on2 _ _ (by omega), up_c (by decide), up_c (by decide), up_eq]
      have r100 : R7 100 (12 * b + nT R b) = (cv : Int) := by rw [on2 _ _ (by omega), up_c (by decide), up_eq]
      have eF : nF R7 b = nF R b := by unfold nF; rw [rS 84 _ (by omega)]
      have eP : nP R7 b = nP R b := by unfold nP; rw [rS 85 _ (by omega)]
      have eR : nR R7 b = nR R b := by unfold nR; rw [rS 86 _ (by omega)]
      have eTn : nT R7 b = nT R b + 1 := by unfold nT; rw [r88]; rfl
      have eWn : nW R7 b = nW R b := by unfold nW; rw [rS 89 _ (by omega)]
      refine ⟨s, kd, p', hp', ⟨⟨ht, hb, (cS _ _ (by omega)).trans h27, (rS _ _ (by omega)).trans h39⟩, ?_, ⟨?_, ?_, ?_⟩, ?_, ?_, ?_, ?_, ?_, ?_, ?_, ?_⟩, ?_, ?_⟩
      · obtain ⟨y1, y2, y3, y4, y5, y6⟩ := hN
        unfold NumR
        rw [cS t 0 (by omega), rS 84 _ (by omega), cS t 1 (by omega), rS 85 _ (by omega), cS t 2 (by omega), rS 86 _ (by omega), ct, r88, cS t 4 (by omega), rS 89 _ (by omega), cS t 5 (by omega), rS 90 _ (by omega)]
        exact ⟨y1, y2, y3, ⟨rfl, by omega, by omega⟩, y5, y6⟩
      · rw [eF]
        exact NmQ_keep n1 (fun i hi => cS _ _ (by omega)) (fun i hi => rS _ _ (by omega))
      · rw [eP]
        exact NmQ_keep n2 (fun i hi => cS _ _ (by omega)) (fun i hi => rS _ _ (by omega))
      · rw [eR]
        exact NmQ_keep n3 (fun i hi => cS _ _ (by omega)) (fun i hi => rS _ _ (by omega))
      · exact CostR_keep hCo eP (fun k hk => cS _ _ (by omega)) (fun k hk => rS _ _ (by omega))
      · exact TieQ_add hTi (by omega) eTn eP hP.2.2 hi hj hij hno hcv (fun k hk => ⟨cS _ _ (by omega), cS _ _ (by omega), cS _ _ (by omega)⟩) (fun k hk => ⟨rS _ _ (by omega), rS _ _ (by omega), rS _ _ (by omega)⟩) ⟨cc4, cc5, cc6⟩ ⟨r98, r99, r100⟩ cci ccj (fun p z1 z2 => cS _ _ (by omega))
      · exact WishQ_keep hWi hb hWn.2.2 eWn (fun k => cS _ _ (by omega)) (fun k hk => ⟨rS _ _ (by omega), rS _ _ (by omega), rS _ _ (by omega)⟩)
      · exact KnoP_keep hKn eP (fun k hk => cS _ _ (by omega)) (fun k hk => rS _ _ (by omega))
      · exact ⟨hCn.1, (cS _ _ (by omega)).trans hCn.2.1, (rS _ _ (by omega)).trans hCn.2.2.1, by rw [rS 90 _ (by omega)]; exact hCn.2.2.2⟩
      · exact RowsQ_keep hRo (Nat.le_refl _) hb hR.2.2 eR (by omega) (by omega) (fun k hk => ⟨cS _ _ (by omega), cS _ _ (by omega), cS _ _ (by omega)⟩) (fun k hk => cS _ _ (by omega)) (fun k hk => ⟨rS _ _ (by omega), rS _ _ (by omega), rS _ _ (by omega)⟩) (fun k hk => ⟨rS _ _ (by omega), rS _ _ (by omega)⟩)
      · exact AlwQ_keep hAl (Nat.le_refl _) hb (by omega) (by omega) (by omega) (cS _ _ (by omega)) (rS _ _ (by omega)) (fun k hk => cS _ _ (by omega)) (fun k hk => ⟨cS _ _ (by omega), cS _ _ (by omega)⟩) (fun k hk => cS _ _ (by omega)) (fun k hk hk2 => ⟨rS _ _ (by omega), rS _ _ (by omega)⟩) (fun k hk => ⟨rS _ _ (by omega), rS _ _ (by omega)⟩)
      · exact LwQ_keep hLw (Nat.le_refl _) ⟨cS _ _ (by omega), cS _ _ (by omega), cS _ _ (by omega)⟩ (rS _ _ (by omega)) (fun k hk => cS _ _ (by omega)) ⟨rS _ _ (by omega), rS _ _ (by omega)⟩ (fun k hk => ⟨rS _ _ (by omega), rS _ _ (by omega)⟩)
      · obtain ⟨y1, y2, y3, y4, y5⟩ := hB
        exact ⟨y1, fun i hi => by rw [cS _ _ (by omega)]; exact y2 i hi, (rS _ _ (by omega)).trans y3, fun i hi => by rw [rS _ _ (by omega), cS _ _ (by omega)]; exact y4 i hi, fun i hi => by rw [cS _ _ (by omega)]; exact y5 i hi⟩
      · unfold Gd Tok at g' ⊢
        simp only [c40, e2]
        exact g'
    · obtain ⟨fv, fp, ⟨z1, z2, z3⟩, z4⟩ := hfb
      rw [if_neg (show ¬ ((¬ n32 (C7 40 4) = 24) ∧ ((¬ n32 x = (-1)) ∧ (¬ n32 z = (-1)))) from fun w => w.1 (by rw [z1]; rfl))]
      exact ⟨_, _, rfl, rfl, Or.inr ⟨fv, fp, ⟨z1, z2, z3⟩, z4⟩⟩
end LTIE2
