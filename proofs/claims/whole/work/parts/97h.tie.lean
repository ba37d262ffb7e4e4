/-! ===== lines: ties ===== -/
section LTIE
variable {n t b s : Nat} {C R : Mem}
theorem b1_ite (p : Prop) [Decidable p] : (if p then some (1 : Int) else some 0) = some (b1 (decide p)) := by
  by_cases q : p
  · rw [if_pos q, decide_eq_true q]; rfl
  · rw [if_neg q, decide_eq_false q]; rfl
/-- is there such a tie already -/
theorem tie_loop {M : Mem} {cnt0 : Nat} (hb : b < 2) (hc : cnt0 ≤ 12) (r5 r7 : Int) (v : Bool) : it (M_readTie_b57 ((12 * b + cnt0 : Nat) : Int) r5 M r7) FUEL (b1 v, ((12 * b : Nat) : Int)) = some (b1 (v || (decide (0 ≤ n32 r7) && anyB (fun i => decide ((n32 (M 98 (12 * b + i)) = n32 r5 ∧ n32 (M 99 (12 * b + i)) = n32 r7) ∨ (n32 (M 98 (12 * b + i)) = n32 r7 ∧ n32 (M 99 (12 * b + i)) = n32 r5))) cnt0))) := by
  refine it_for (fun j => (b1 (v || (decide (0 ≤ n32 r7) && anyB (fun i => decide ((n32 (M 98 (12 * b + i)) = n32 r5 ∧ n32 (M 99 (12 * b + i)) = n32 r7) ∨ (n32 (M 98 (12 * b + i)) = n32 r7 ∧ n32 (M 99 (12 * b + i)) = n32 r5))) j)), ((12 * b + j : Nat) : Int))) cnt0 (by unfold FUEL; omega) (by show (b1 (v || (_ && false)), _) = _; rw [Bool.and_false, Bool.or_false]; rfl) ?_ ?_
  · intro j hj
    rw [anyB_s]
    generalize anyB (fun i => decide ((n32 (M 98 (12 * b + i)) = n32 r5 ∧ n32 (M 99 (12 * b + i)) = n32 r7) ∨ (n32 (M 98 (12 * b + i)) = n32 r7 ∧ n32 (M 99 (12 * b + i)) = n32 r5))) j = w
    unfold M_readTie_b57
    dsimp only
    rw [n32_nat (by omega), n32_nat (by omega), if_pos (by omega), jn_eq, jn_eq, tn_nat]
    dsimp only
    by_cases q7 : 0 ≤ n32 r7
    · rw [decide_eq_true q7, if_pos q7, chk_pos (by omega), Bool.true_and, Bool.true_and]
      cases hvw : (v || w) with
      | true =>
        have e : (v || (w || decide ((n32 (M 98 (12 * b + j)) = n32 r5 ∧ n32 (M 99 (12 * b + j)) = n32 r7) ∨ (n32 (M 98 (12 * b + j)) = n32 r7 ∧ n32 (M 99 (12 * b + j)) = n32 r5)))) = true := by
          rw [← Bool.or_assoc, hvw]; rfl
        rw [e, show b1 true = 1 from rfl, if_neg nz1, bind_some', lt1_eq]
        rfl
      | false =>
        rw [Bool.or_eq_false_iff] at hvw
        rw [hvw.1, hvw.2, Bool.false_or, Bool.false_or, show b1 false = 0 from rfl, if_pos (by decide)]
        by_cases a1 : n32 (M 98 (12 * b + j)) = n32 r5
        · by_cases a2 : n32 (M 99 (12 * b + j)) = n32 r7
          · rw [if_pos a1, if_neg (not_not_intro a2), bind_some', if_neg (by decide), bind_some', lt1_eq, decide_eq_true (Or.inl ⟨a1, a2⟩)]
            rfl
          · rw [if_pos a1, if_pos a2, bind_some', if_pos rfl]
            by_cases a3 : n32 (M 98 (12 * b + j)) = n32 r7
            · by_cases a4 : n32 (M 99 (12 * b + j)) = n32 r5
              · rw [if_pos a3, if_pos a4, bind_some', if_pos rfl, bind_some', lt1_eq, decide_eq_true (Or.inr ⟨a3, a4⟩)]
                rfl
              · rw [if_pos a3, if_neg a4, bind_some', if_neg (by decide), bind_some', lt1_eq, decide_eq_false (by rintro (z | z); exact a2 z.2; exact a4 z.2)]
                rfl
            · rw [if_neg a3, bind_some', if_neg (by decide), bind_some', lt1_eq, decide_eq_false (by rintro (z | z); exact a2 z.2; exact a3 z.1)]
              rfl
        · rw [if_neg a1, bind_some', if_pos rfl]
          by_cases a3 : n32 (M 98 (12 * b + j)) = n32 r7
          · by_cases a4 : n32 (M 99 (12 * b + j)) = n32 r5
            · rw [if_pos a3, if_pos a4, bind_some', if_pos rfl, bind_some', lt1_eq, decide_eq_true (Or.inr ⟨a3, a4⟩)]
              rfl
            · rw [if_pos a3, if_neg a4, bind_some', if_neg (by decide), bind_some', lt1_eq, decide_eq_false (by rintro (z | z); exact a1 z.1; exact a4 z.2)]
              rfl
          · rw [if_neg a3, bind_some', if_neg (by decide), bind_some', lt1_eq, decide_eq_false (by rintro (z | z); exact a1 z.1; exact a3 z.1)]
            rfl
    · rw [decide_eq_false q7, if_neg q7, Bool.false_and, Bool.false_and, Bool.or_false]
      cases v with
      | true => rw [show b1 true = 1 from rfl, if_neg nz1, bind_some', lt1_eq]; rfl
      | false => rw [show b1 false = 0 from rfl, if_pos (by decide), bind_some', lt1_eq]; rfl
  · unfold M_readTie_b57
    dsimp only
    rw [if_neg (by omega)]
def noTie (b : Nat) (R : Mem) (i j : Nat) : Prop := ∀ k, k < nT R b → ¬ (tOne R b k = i ∧ tTwo R b k = j) ∧ ¬ (tOne R b k = j ∧ tTwo R b k = i)
/-- the second person of a tie -/
theorem tie2 (hB : TB n C R) (hI : PI t b s C R) {q : Nat} {P : Prop} {x y : Int} {C1 R1 : Mem} (hx : x = -1 ∨ ∃ i : Nat, i < nP R b ∧ x = (i : Int)) (h : S3 n q (P ∧ ∃ i : Nat, i < nP R b ∧ x = (i : Int) ∧ y = (i : Int)) C R C1 R1) : ∃ z Ca Cb Cc r7 l4 M55 r69 R2, N_seePerson C1 = some (z, Ca) ∧ (if (¬ n32 x = (-1)) ∧ (¬ n32 z = (-1)) then ((if ¬ n32 x = n32 z then chk (isTI (Ca 27 16)) (lt1 (Ca 27 16).toNat fun t_25 => chk (0 ≤ x ∧ x < 8) ((X_hasBit (Ca (t_25 + 3) (Int.toNat x)) z Ca).bind fun r_29 => if ¬ n32 r_29 = 0 then some true else some false)) else some true).bind fun c_23 => if c_23 = true then (K_fail 3 Ca).bind fun M_30 => some M_30 else some Ca) else some Ca) = some Cb ∧ K_pass Cb = some Cc ∧ M_personHere R1 = some r7 ∧ it (M_readTie_b57 ((12 * b + nT R b : Nat) : Int) y R1 r7) FUEL (b1 (decide (0 ≤ n32 r7 ∧ n32 y = n32 r7)), ((12 * b : Nat) : Int)) = some l4 ∧ ((M_isGood R1).bind fun r_54 => if (¬ n32 r_54 = 0) ∧ (¬ n32 l4 = 0) then (M_fails 3 (R1 81 6) R1).bind fun M_59 => some M_59 else some R1) = some M55 ∧ M_told r7 (up M55 98 (12 * b + nT R b) y) = some (r69, R2) ∧ (z = -1 ∨ ∃ j : Nat, j < nP R b ∧ z = (j : Int)) ∧ S3 n q (∃ i j : Nat, i < nP R b ∧ j < nP R b ∧ x = (i : Int) ∧ y = (i : Int) ∧ z = (j : Int) ∧ r69 = (j : Int) ∧ i ≠ j ∧ noTie b R i j) C (up R 98 (12 * b + nT R b) y) Cc R2 := by
  obtain ⟨⟨ht, hb, h27, h39⟩, hN, -, -, hTi, -⟩ := id hI
  have hI' := HN_of hI
  have ht2 : t ≤ 15 := by unfold isT at ht; omega
  have hP8 := (num_P hN).2.2
  have hT12 := (num_T hN).2.2
  obtain ⟨hon, hst⟩ := h
  have upf : ∀ {f p : Int}, Flt R1 f p → Flt (up R1 98 (12 * b + nT R b) y) f p := fun h => by
    unfold Flt at h ⊢
    rw [up_c (by decide), up_c (by decide)]
    exact h
  have upon : ∀ {Cx Rx : Mem}, OnT C R Cx Rx → OnT C (up R 98 (12 * b + nT R b) y) Cx (up Rx 98 (12 * b + nT R b) y) := fun h => ⟨h.1, fun c k z => by
    by_cases z2 : c = 98 ∧ k = 12 * b + nT R b
    · rw [up_at, if_pos z2, up_at, if_pos z2]
    · rw [up_at, if_neg z2, up_at, if_neg z2]; exact h.2 c k z⟩
  have up81 : ∀ (Rx : Mem) k, up Rx 98 (12 * b + nT R b) y 81 k = Rx 81 k := fun Rx k => up_c (by decide)
  rcases hst with ⟨kd, p, hq, g, hP, i, hi, rfl, rfl⟩ | ⟨f, p, ⟨c1, c2, c3⟩, ⟨q2, q3, q4⟩, hf⟩
  · have gup : Gd n kd p C1 (up R1 98 (12 * b + nT R b) (i : Int)) := by
      unfold Gd Tok at g ⊢
      simp only [up81]
      exact g
    have ni : n32 (i : Int) = (i : Int) := n32_nat (by omega)
    rcases see_gd hI' hon g with ⟨j, rfl, hj, w1, w2⟩ | ⟨rfl, w1, w2⟩ | ⟨hk, w1, w2⟩
    · have nj : n32 (j : Int) = (j : Int) := n32_nat (by omega)
      have eL := tie_loop (b := b) (M := R1) (cnt0 := nT R b) hb hT12 (i : Int) (j : Int) (decide (0 ≤ n32 (j : Int) ∧ n32 (i : Int) = n32 (j : Int)))
      rw [ni, nj] at eL
      have eAny : anyB (fun k => decide ((n32 (R1 98 (12 * b + k)) = (i : Int) ∧ n32 (R1 99 (12 * b + k)) = (j : Int)) ∨ (n32 (R1 98 (12 * b + k)) = (j : Int) ∧ n32 (R1 99 (12 * b + k)) = (i : Int)))) (nT R b) = anyB (fun k => (decide (tOne R b k = i) && decide (tTwo R b k = j)) || (decide (tOne R b k = j) && decide (tTwo R b k = i))) (nT R b) := by
        refine anyB_congr (fun k hk => ?_)
        obtain ⟨-, ⟨z1, z2⟩, ⟨z3, z4⟩, -⟩ := hTi.1 k hk
        have o1 : R 98 (12 * b + k) = (tOne R b k : Int) := by unfold tOne; omega
        have o2 : R 99 (12 * b + k) = (tTwo R b k : Int) := by unfold tTwo; omega
        rw [hon.2 98 _ (by omega), hon.2 99 _ (by omega), o1, o2, n32_nat (by omega), n32_nat (by omega), ← Bool.decide_and, ← Bool.decide_and, ← Bool.decide_or, decide_eq_decide]
        omega
      rw [eAny] at eL
      have hbit := (hTi.2.2 i (by omega)).2 j
      obtain ⟨z0, z1⟩ := (hTi.2.2 i (by omega)).1
      have e3 : C1 (t + 3) i = (((C (t + 3) i).toNat : Nat) : Int) := by rw [hon.1 _ _ (by omega)]; omega
      rw [← hbit] at eL
      have e27 : C1 27 16 = (t : Int) := (hon.1 _ _ (by omega)).trans h27
      have hdup : (if (¬ n32 (i : Int) = (-1)) ∧ (¬ n32 (j : Int) = (-1)) then ((if ¬ n32 (i : Int) = n32 (j : Int) then chk (isTI (C1 27 16)) (lt1 (C1 27 16).toNat fun t_25 => chk (0 ≤ (i : Int) ∧ (i : Int) < 8) ((X_hasBit (C1 (t_25 + 3) (Int.toNat (i : Int))) (j : Int) C1).bind fun r_29 => if ¬ n32 r_29 = 0 then some true else some false)) else some true).bind fun c_23 => if c_23 = true then (K_fail 3 C1).bind fun M_30 => some M_30 else some C1) else some C1) = (if (decide (i = j) || (C (t + 3) i).toNat.testBit j) = true then some (failC C1 3) else some C1) := by
        rw [ni, nj, if_pos (by omega), e27, chk_pos (isTI_of rfl ht), lt1_eq, tn_nat, chk_pos (by omega), tn_nat, e3, X_hasBit_eq (by omega) (by omega), bind_some', gd_failC g]
        by_cases e : i = j
        · rw [if_neg (by omega), decide_eq_true e]
          rfl
        · rw [if_pos (by omega), decide_eq_false e]
          cases (C (t + 3) i).toNat.testBit j <;> rfl
      cases hd : (decide (i = j) || (C (t + 3) i).toNat.testBit j) with
      | true =>
        rw [hd, if_pos rfl] at hdup
        have hl4 : (decide (0 ≤ (j : Int) ∧ (i : Int) = (j : Int)) || (decide (0 ≤ (j : Int)) && (C (t + 3) i).toNat.testBit j)) = true := by
          rw [← hd, decide_eq_true (show (0 : Int) ≤ (j : Int) by omega), Bool.true_and]
          congr 1
          rw [decide_eq_decide]
          omega
        rw [hl4] at eL
        refine ⟨_, _, _, _, _, _, _, _, _, w1, hdup, bk_pass failC_at.1, w2, by rw [ni, nj]; exact eL, ?_, told_fl (f := 3) (p := (p : Int)) ?_ _, Or.inr ⟨j, hj, rfl⟩, upon (up45_on (failC_on hon 3) 3 (p : Int)), Or.inr ?_⟩
        · rw [gd_good g.2.1.1, bind_some', if_pos ⟨nz1, nz1⟩, gd_fails g.2.1.1, g.2.2.2.1]
          rfl
        · unfold Flt
          rw [up81, up81]
          exact up45_flt (by decide) (by decide)
        · obtain ⟨fv, fp, y1, y2, y3⟩ := both_fail hB g (f := 3) (by decide) (by decide)
          refine ⟨fv, fp, y1, ?_⟩
          unfold FBr Flt BadT
          simp only [up81]
          exact ⟨y2, y3⟩
      | false =>
        rw [hd, if_neg (show ¬ (false = true) by decide)] at hdup
        rw [Bool.or_eq_false_iff, decide_eq_false_iff_not] at hd
        have hl4 : (decide (0 ≤ (j : Int) ∧ (i : Int) = (j : Int)) || (decide (0 ≤ (j : Int)) && (C (t + 3) i).toNat.testBit j)) = false := by
          rw [hd.2, Bool.and_false, Bool.or_false, decide_eq_false_iff_not]
          omega
        rw [hl4] at eL
        obtain ⟨C', R', k1, k2, k3⟩ := pass_ok (TB_up hB (c := 98) (k := 12 * b + nT R b) (v := (i : Int)) (by decide) (by decide)) (upon hon) gup
        refine ⟨_, _, _, _, _, _, _, _, _, w1, hdup, k1, w2, by rw [ni, nj]; exact eL, ?_, told_i gup (by omega) k2, Or.inr ⟨j, hj, rfl⟩, S3_mono k3 (by rw [if_neg (by decide)]; omega) (fun _ => ⟨i, j, hi, hj, rfl, rfl, rfl, rfl, hd.1, fun k hk => ?_⟩)⟩
        · rw [gd_good g.2.1.1, bind_some', if_neg (fun z => nz0 z.2)]
        · have := hd.2
          rw [hbit, anyB_no] at this
          have h2 := this k hk
          rw [Bool.or_eq_false_iff, Bool.and_eq_false_iff, Bool.and_eq_false_iff, decide_eq_false_iff_not, decide_eq_false_iff_not, decide_eq_false_iff_not, decide_eq_false_iff_not] at h2
          omega
    · have eL := tie_loop (b := b) (M := R1) (cnt0 := nT R b) hb hT12 (i : Int) (-1) (decide (0 ≤ n32 (-1) ∧ n32 (i : Int) = n32 (-1)))
      rw [decide_eq_false (show ¬ (0 ≤ n32 (-1) ∧ n32 (i : Int) = n32 (-1)) from fun z => absurd z.1 (by decide)), decide_eq_false (show ¬ (0 ≤ n32 (-1)) by decide), Bool.false_and, Bool.or_false] at eL
      refine ⟨_, _, _, _, _, _, _, _, _, w1, by rw [if_neg (fun z => z.2 (by decide))], bk_pass failC_at.1, w2, by rw [decide_eq_false (show ¬ (0 ≤ n32 (-1) ∧ n32 (i : Int) = n32 (-1)) from fun z => absurd z.1 (by decide))]; exact eL, by rw [gd_good g.2.1.1, bind_some', if_neg (fun z => nz0 z.2)], told_m1 gup, Or.inl rfl, up45_on (failC_on (upon hon) _) _ _, Or.inr (both_fail (TB_up hB (c := 98) (k := 12 * b + nT R b) (v := (i : Int)) (by decide) (by decide)) gup (by decide) (by decide))⟩
    · have eL := tie_loop (b := b) (M := R1) (cnt0 := nT R b) hb hT12 (i : Int) (-1) (decide (0 ≤ n32 (-1) ∧ n32 (i : Int) = n32 (-1)))
      rw [decide_eq_false (show ¬ (0 ≤ n32 (-1) ∧ n32 (i : Int) = n32 (-1)) from fun z => absurd z.1 (by decide)), decide_eq_false (show ¬ (0 ≤ n32 (-1)) by decide), Bool.false_and, Bool.or_false] at eL
      obtain ⟨y, k1⟩ := told_no gup hk (w := -1)
      refine ⟨_, _, _, _, _, _, _, _, _, w1, by rw [if_neg (fun z => z.2 (by decide))], bk_pass failC_at.1, w2, by rw [decide_eq_false (show ¬ (0 ≤ n32 (-1) ∧ n32 (i : Int) = n32 (-1)) from fun z => absurd z.1 (by decide))]; exact eL, by rw [gd_good g.2.1.1, bind_some', if_neg (fun z => nz0 z.2)], k1, Or.inl rfl, up45_on (failC_on (upon hon) _) _ _, Or.inr (both_fail (TB_up hB (c := 98) (k := 12 * b + nT R b) (v := (i : Int)) (by decide) (by decide)) gup (by decide) (by decide))⟩
  · obtain ⟨-, ⟨r7, w1, -, w3⟩, -⟩ := hereN hI' hon
    have eL := tie_loop (b := b) (M := R1) (cnt0 := nT R b) hb hT12 y r7 (decide (0 ≤ n32 r7 ∧ n32 y = n32 r7))
    have fb98 : FB C1 (up R1 98 (12 * b + nT R b) y) := by
      refine ⟨f, p, ⟨c1, c2, c3⟩, ?_⟩
      unfold FBr Flt BadT
      simp only [up81]
      exact ⟨⟨q2, q3, q4⟩, hf⟩
    rcases hf with hf | ⟨rfl, hbad⟩
    · exact ⟨_, _, _, _, _, _, _, _, _, bk_person c1, by rw [if_neg (fun z => z.2 (by decide))], bk_pass c1, w1, eL, by rw [fl_good hf, bind_some', if_neg (fun z => nz0 z.1)], told_fl (upf hf) _, Or.inl rfl, upon hon, Or.inr fb98⟩
    · have hr7 : r7 = -1 := w3 (by rw [hbad.2.1]; decide)
      subst hr7
      rw [decide_eq_false (show ¬ (0 ≤ n32 (-1) ∧ n32 y = n32 (-1)) from fun z => absurd z.1 (by decide)), decide_eq_false (show ¬ (0 ≤ n32 (-1)) by decide), Bool.false_and, Bool.or_false] at eL
      have hbup : BadT (up R1 98 (12 * b + nT R b) y) p := by
        unfold BadT at hbad ⊢
        simp only [up81]
        exact hbad
      obtain ⟨yy, k1⟩ := told_bad hbup (w := -1)
      refine ⟨_, _, _, _, _, _, _, _, _, bk_person c1, by rw [if_neg (fun z => z.2 (by decide))], bk_pass c1, w1, by rw [decide_eq_false (show ¬ (0 ≤ n32 (-1) ∧ n32 y = n32 (-1)) from fun z => absurd z.1 (by decide))]; exact eL, by rw [gd_good hbad.1, bind_some', if_neg (fun z => nz0 z.2)], k1, Or.inl rfl, up45_on (upon hon) _ _, Or.inr ⟨1, p, ⟨c1, c2, c3⟩, ⟨q2, q3, by rw [up45_6, up81]; exact q4⟩, Or.inl (up45_flt (by decide) (by decide))⟩⟩
end LTIE
