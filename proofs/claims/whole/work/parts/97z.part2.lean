/-! ===== expressions: part, all of it ===== -/
section PART2
variable {t b n s0 bare : Nat} {C0 R0 C R : Mem}
def PartG (t b n s0 bare : Nat) (C0 R0 : Mem) (k d u s h m p : Nat) (C R : Mem) : Prop := ∃ C', N_readPart (k + 1) (d : Int) C = some C' ∧ (GoodG 1 t b n s0 bare C0 R0 (3 * (7 - d) + 1) (1 + d) ExN u s h m d p C R 1 C' ∨ FailG (DW 1 0 m R) b s0 R0 p R 1 C')
theorem part_bad (hEnv : EnvX 1 t b n bare C0 R0) {k d u s h m kd p : Nat} (hd : d ≤ 7) (hX : XS t b s0 C0 R0 u s m d C R) (g : Gd n kd p C R) (hm : m ≤ 4 + 4 * d) (hbad : (kd = 40 ∧ (d = 7 ∨ u = 80)) ∨ (isL kd ∧ u = 80) ∨ (kd ≠ 40 ∧ ¬ isL kd)) : PartG t b n s0 bare C0 R0 k d u s h m p C R := by
  have ht := hEnv.2.1.1.1
  obtain ⟨e27, e39, hb, e43, -⟩ := XS_at hEnv hX
  have hB := XF_TB hEnv.1 ht hX.1
  obtain ⟨n1, n2, n3⟩ := hX.2.1.1
  have hu1 := part_bad_r hB g hX.2.1.2.2.2 hd e39 hb n2 n3 hbad
  have hstep := e_part g.2.1.1 hX.2.1.2.2.1 (by have := hX.2.2.1.1; omega) (by omega) e43
  rw [hu1, bind_some'] at hstep
  refine ⟨failC C 2, ?_, Or.inr (unit_fail hEnv hX g (by decide) (by decide) rfl rfl hstep)⟩
  have e4 : n32 (C 40 4) = (kd : Int) := Tok_4 g.2.2.2.2.2
  show N_readPart_s (N_readPart k) (d : Int) C = _
  unfold N_readPart_s
  rw [lt1_eq, e4]
  have hv : (if ((kd : Int) = 18) ∨ (((kd : Int) = 19) ∨ (((kd : Int) = 20) ∨ ((kd : Int) = 17))) then some (1 : Int) else some (0 : Int)) = some (if (kd = 17 ∨ kd = 18 ∨ kd = 19 ∨ kd = 20 ∨ kd = 22) ∧ kd ≠ 22 then 1 else 0) := by
    by_cases q : (kd = 17 ∨ kd = 18 ∨ kd = 19 ∨ kd = 20 ∨ kd = 22) ∧ kd ≠ 22
    · rw [if_pos q, if_pos (by omega)]
    · rw [if_neg q, if_neg (by omega)]
  rw [hv, bind_some']
  have hv2 : (if (¬ n32 (if (kd = 17 ∨ kd = 18 ∨ kd = 19 ∨ kd = 20 ∨ kd = 22) ∧ kd ≠ 22 then (1 : Int) else 0) = 0) ∨ (((kd : Int) = 22) ∨ ((kd : Int) = 40)) then some (1 : Int) else some (0 : Int)) = some (if (kd = 17 ∨ kd = 18 ∨ kd = 19 ∨ kd = 20 ∨ kd = 22) ∨ kd = 40 then 1 else 0) := by
    have hz : n32 (if (kd = 17 ∨ kd = 18 ∨ kd = 19 ∨ kd = 20 ∨ kd = 22) ∧ kd ≠ 22 then (1 : Int) else 0) = 0 ↔ ¬ ((kd = 17 ∨ kd = 18 ∨ kd = 19 ∨ kd = 20 ∨ kd = 22) ∧ kd ≠ 22) := n32_ite
    by_cases q : (kd = 17 ∨ kd = 18 ∨ kd = 19 ∨ kd = 20 ∨ kd = 22) ∨ kd = 40
    · rw [if_pos q, if_pos (by rw [hz]; omega)]
    · rw [if_neg q, if_neg (by rw [hz]; omega)]
  rw [hv2, bind_some', takes_no ht g e27 n1 n3 hd (bg := if (kd = 17 ∨ kd = 18 ∨ kd = 19 ∨ kd = 20 ∨ kd = 22) ∨ kd = 40 then 1 else 0) (by
    by_cases q : (kd = 17 ∨ kd = 18 ∨ kd = 19 ∨ kd = 20 ∨ kd = 22) ∨ kd = 40
    · rw [if_pos q]
      refine Or.inr ⟨rfl, ?_⟩
      rcases hbad with ⟨z1, z2⟩ | ⟨-, z⟩ | ⟨z1, z2⟩
      · omega
      · exact Or.inr z
      · rcases q with q | q
        · exact absurd q z2
        · exact absurd q z1
    · rw [if_neg q]
      exact Or.inl rfl), bind_some']
  dsimp only
  rw [if_pos (by decide)]
theorem part_open (hEnv : EnvX 1 t b n bare C0 R0) {k d u s h m p : Nat} (hd : d < 7) (hu : u < 80) (hsub : SimG 1 t b n s0 bare C0 R0 (d + 1) (4 + 4 * (d + 1)) (3 * (7 - (d + 1)) + 1) (1 + (d + 1)) TpA ExN 0 (N_readPart k ((d + 1 : Nat) : Int))) (hk : 0 < k) (hX : XS t b s0 C0 R0 u s m d C R) (hh : h ≤ 1) (g : Gd n 40 p C R) (hm : m ≤ 4 + 4 * d) (hs9 : s ≤ 9 * u) : PartG t b n s0 bare C0 R0 k d u s h m p C R := by
  have ht := hEnv.2.1.1.1
  have ht2 : t = 3 ∨ t = 15 := ht
  obtain ⟨e27, e39, hb, e43, -⟩ := XS_at hEnv hX
  have hB := XF_TB hEnv.1 ht hX.1
  have hm1 := hX.2.2.1.1
  have hXu := XS_up ht hX hu
  have hBu := XF_TB hEnv.1 ht hXu.1
  have gu : Gd n 40 p (up C t 5 ((u + 1 : Nat) : Int)) (up R 90 b ((u + 1 : Nat) : Int)) := Gd_same g (fun k => up_c (by omega)) (fun k => up_c (by omega)) (fun k z1 z2 => up_c (by decide))
  obtain ⟨C1, R1, k1, k2, hon, k3⟩ := pass_ok hBu on_self gu
  rw [if_neg (by decide)] at k3
  have hX1 := XS_on ht hXu hon
  have hX2 := XS_opR (w := 7) (sg := 0) (v := 0) hX1 (by omega)
  have hgf : GF n (p + 1) True C1 (opR m d 7 0 0 R1) := GF_opR k3 (fun z => z)
  have hu1 := part_open_r hB g hX.2.1.2.2.2 hd e39 hb hX.2.1.1.2.1 hu k2 hX1.2.1.2.2.1 hX1.2.1.2.2.2 (by omega)
  have hstep := e_part g.2.1.1 hX.2.1.2.2.1 (by omega) (by omega) e43
  rw [hu1, bind_some'] at hstep
  dsimp only at hstep
  have e45 : opR m d 7 0 0 R1 81 45 = R 81 45 := by rw [opR_o (by omega), hon.2 81 45 (by omega), up_c (by decide)]
  have hp16 : p + 1 ≤ 1605 := by
    obtain ⟨-, -, -, -, ⟨e, y1, y2, -⟩, -⟩ := g
    have := hB.1
    omega
  have hb1 : ∀ C, C 40 4 = 24 → N_readPart k ((d + 1 : Nat) : Int) C = some C := fun C => brk_part k _ C hk
  have sF := f_sim hEnv (by omega) (any_sim hEnv (by omega) (sum_sim hEnv (by omega) (by omega) hsub hb1) (brk_sum hb1)) (brk_any hb1)
  obtain ⟨C3, C4, w1, w2, w3⟩ := opens_tail hEnv hb (by omega) sF (brk_f hb1) hX2 (h := h) (fun z => absurd z (by decide)) hh hm hm1 (by omega) hp16 opR_m.1 hgf
  refine ⟨C4, ?_, sim_comp (Reach_1 hstep) (Nat.le_refl _) (fun j hj => ?_) ⟨fun j hj => ?_, fun j hj => ?_⟩ (fun z => by show opR m d 7 0 0 R1 81 45 = 0 ∨ opR m d 7 0 0 R1 81 45 = 1; rw [e45]; exact z) (Nat.le_refl _) (by omega) (by omega) (by omega) w3⟩
  · have e4 : n32 (C 40 4) = 40 := Tok_4 g.2.2.2.2.2
    have edd : (d : Int) + 1 = ((d + 1 : Nat) : Int) := rfl
    have tk := takes_ok ht g e27 hX.2.1.1.1 hu (by omega) (Or.inr hd)
    show N_readPart_s (N_readPart k) (d : Int) C = _
    unfold N_readPart_s
    simp only [e4, tk, k1, edd, w1, w2, bind_some', jn_eq, n32_0, n32_1, lt1_eq, reduceIte, not_true, not_false_eq_true, and_true, true_and, or_true, true_or, false_or, or_false, and_false, false_and, Bool.false_eq_true, Nat.reduceEqDiff, Int.reduceEq, Int.reduceNeg, Int.reduceLT, Int.reduceLE, and_self, or_self]
  · rw [opR_o (by omega), opR_o (by omega), opR_o (by omega), hon.2 108 _ (by omega), hon.2 109 _ (by omega), hon.2 110 _ (by omega), up_c (by decide), up_c (by decide), up_c (by decide)]
    exact ⟨rfl, rfl, rfl⟩
  · rw [hon.1 29 _ (by decide), up_at, if_neg (by omega)]
  · rw [opR_o (by omega), opR_o (by omega), hon.2 106 _ (by omega), hon.2 107 _ (by omega), up_c (by decide), up_c (by decide)]
    exact ⟨rfl, rfl⟩
theorem part_leaf (hEnv : EnvX 1 t b n bare C0 R0) {k d u s h m kd p : Nat} (hd : d ≤ 7) (hk : isL kd) (hu : u < 80) (hX : XS t b s0 C0 R0 u s m d C R) (hh : h ≤ 1) (g : Gd n kd p C R) (hm : m ≤ 4 + 4 * d) (hs9 : s ≤ 9 * u) : PartG t b n s0 bare C0 R0 k d u s h m p C R := by
  have ht := hEnv.2.1.1.1
  have ht2 : t = 3 ∨ t = 15 := ht
  obtain ⟨e27, e39, hb, e43, -⟩ := XS_at hEnv hX
  have hB := XF_TB hEnv.1 ht hX.1
  have hm1 := hX.2.2.1.1
  have hXu := XS_up ht hX hu
  have hs28 := hXu.2.1.2.1.1
  have hs720 : s < 720 := by omega
  have hkk : kd = 17 ∨ kd = 18 ∨ kd = 19 ∨ kd = 20 ∨ kd = 22 := hk
  have tk := takes_ok ht g e27 hX.2.1.1.1 hu hd (Or.inl (by omega))
  have e4 : n32 (C 40 4) = (kd : Int) := Tok_4 g.2.2.2.2.2
  obtain ⟨o, ho1, ho2, ho3⟩ : ∃ o : Nat, o < 10000 ∧ (if kd = 22 then C 40 6 else 0) = (o : Int) ∧ (cL kd = 11 → R 81 9 = (o : Int)) := by
    by_cases q : kd = 22
    · subst q
      obtain ⟨-, hT⟩ := g.2.2.2.2.2
      rcases hT with ⟨z, -⟩ | ⟨z, -⟩ | ⟨z1, z2, -⟩ | ⟨-, -, v, z1, z2, z3⟩ | ⟨z, -⟩
      · omega
      · omega
      · omega
      · exact ⟨v, z1, by rw [if_pos rfl]; exact z2, fun _ => z3⟩
      · exact absurd z (by decide)
    · refine ⟨0, by decide, by rw [if_neg q]; rfl, fun z => ?_⟩
      exfalso
      unfold cL at z
      rw [if_neg q] at z
      split at z <;> (try omega)
      split at z <;> (try omega)
      split at z <;> omega
  have gu : Gd n kd p (up C t 5 ((u + 1 : Nat) : Int)) (up R 90 b ((u + 1 : Nat) : Int)) := Gd_same g (fun k => up_c (by omega)) (fun k => up_c (by omega)) (fun k z1 z2 => up_c (by decide))
  have h6 : up C t 5 ((u + 1 : Nat) : Int) 40 6 = C 40 6 := up_c (by omega)
  generalize hC1 : up C t 5 ((u + 1 : Nat) : Int) = C1 at tk hXu gu hs28 h6
  generalize hR1 : up R 90 b ((u + 1 : Nat) : Int) = R1 at hXu gu
  have c1 : ∀ a k, ¬ (a = t ∧ k = 5) → C1 a k = C a k := fun a k z => by rw [← hC1, up_at, if_neg z]
  have r1 : ∀ a k, ¬ (a = 90 ∧ k = b) → R1 a k = R a k := fun a k z => by rw [← hR1, up_at, if_neg z]
  have hadd := add_eq hs28 hs720 kd o (by omega) ho1
  generalize hC2 : up (up C1 29 s ((256 * o + kd : Nat) : Int)) 28 1 ((s + 1 : Nat) : Int) = C2 at hadd
  have c2 : ∀ a k, ¬ (a = 29 ∧ k = s) → ¬ (a = 28 ∧ k = 1) → C2 a k = C1 a k := fun a k z1 z2 => by rw [← hC2, up_at, if_neg z2, up_at, if_neg z1]
  have c2s : C2 29 s = ((256 * o + kd : Nat) : Int) := by rw [← hC2, up_c (by decide), up_eq]
  have c2n : C2 28 1 = ((s + 1 : Nat) : Int) := by rw [← hC2, up_eq]
  have g2 : Gd n kd p C2 R1 := Gd_same gu (fun k => c2 _ _ (by omega) (by omega)) (fun k => c2 _ _ (by omega) (by omega)) (fun k _ _ => rfl)
  have hB1 := XF_TB hEnv.1 ht hXu.1
  have hB2 : TB n C2 R1 := by
    obtain ⟨h1, h2, h3, h4, h5⟩ := hB1
    exact ⟨h1, fun i hi => by rw [c2 _ _ (by omega) (by omega)]; exact h2 i hi, h3, fun i hi => by rw [c2 _ _ (by omega) (by omega)]; exact h4 i hi, fun i hi => by rw [c2 _ _ (by omega) (by omega)]; exact h5 i hi⟩
  obtain ⟨C3, R2, k1, k2, hon, k3⟩ := pass_ok hB2 on_self g2
  rw [if_neg (by omega)] at k3
  have h40 : R2 81 40 = ((900 * b + s : Nat) : Int) := (hon.2 _ _ (by omega)).trans hXu.2.1.2.1.2.1
  rw [← hR1] at k2
  have hM := part_leaf_r hB g hk e39 hb hX.2.1.1.2.1 hu k2 h40 (by omega)
  rw [hR1] at k2
  have hstep := e_part g.2.1.1 hX.2.1.2.2.1 (by omega) (by omega) e43
  rw [hM, bind_some'] at hstep
  dsimp only at hstep
  obtain ⟨at1, at2, at3⟩ := emR_at (b := b) (s := s) (c := ((cL kd : Nat) : Int)) (o := R 81 9) (R := R2)
  generalize hR3 : emR b s ((cL kd : Nat) : Int) (R 81 9) R2 = R3 at hstep at1 at2 at3
  have r3 : ∀ a k, ¬ ((a = 106 ∨ a = 107) ∧ k = 900 * b + s) → ¬ (a = 81 ∧ ((4 ≤ k ∧ k ≤ 10) ∨ k = 40)) → R3 a k = R1 a k := fun a k z1 z2 => by
    rw [← hR3, emR_o (by omega), hon.2 a k (by omega)]
  have c3 : ∀ a k, a ≠ 40 → ¬ (a = 29 ∧ k = s) → ¬ (a = 28 ∧ k = 1) → C3 a k = C1 a k := fun a k z0 z1 z2 => by
    rw [hon.1 a k z0, c2 a k z1 z2]
  have gf : GF n (p + 1) True C3 R3 := GF_same k3 (fun k => rfl) (fun k => rfl) (fun k z1 z2 => by rw [← hR3, emR_o (by omega)])
  have hX3 : XS t b s0 C0 R0 (u + 1) (s + 1) m d C3 R3 := by
    obtain ⟨⟨f1, f2⟩, ⟨⟨n1, n2, n3⟩, ⟨n4, n5, n6⟩, n7, n8⟩, ⟨p1, p2, p3⟩, hs⟩ := hXu
    exact ⟨⟨fun a k z => by rw [c3 a k (by omega) (by omega) (by omega)]; exact f1 a k z, fun a k z => by rw [r3 a k (by omega) (by omega)]; exact f2 a k z⟩, ⟨⟨(c3 _ _ (by omega) (by omega) (by omega)).trans n1, (r3 _ _ (by omega) (by omega)).trans n2, n3⟩, ⟨(hon.1 _ _ (by decide)).trans c2n, at3, by omega⟩, (r3 _ _ (by omega) (by omega)).trans n7, (r3 _ _ (by omega) (by omega)).trans n8⟩, ⟨p1, by rw [r3 _ _ (by omega) (by omega)]; exact p2, fun k z1 z2 => by rw [r3 _ _ (by omega) (by omega)]; exact p3 k z1 z2⟩, by omega⟩
  have hpil : Pil m R R3 := fun j hj => by
    rw [r3 _ _ (by omega) (by omega), r3 _ _ (by omega) (by omega), r3 _ _ (by omega) (by omega), r1 _ _ (by omega), r1 _ _ (by omega), r1 _ _ (by omega)]
    exact ⟨rfl, rfl, rfl⟩
  have eag : ∀ r, agR r R3 m = agR r R m := fun r => agR_congr (fun k hk => (hpil k hk).1)
  have e45 : R3 81 45 = R 81 45 := (r3 _ _ (by omega) (by omega)).trans (r1 _ _ (by omega))
  have hp16 : p + 1 ≤ 1605 := by
    obtain ⟨-, -, -, -, ⟨e, y1, y2, -⟩, -⟩ := g
    have := hB.1
    omega
  have hcl : 11 ≤ cL kd ∧ cL kd ≤ 15 ∧ sgL (cL kd) = kd ∧ okL (cL kd) := by
    rcases hkk with z | z | z | z | z <;> subst z <;> exact ⟨by decide, by decide, rfl, by unfold okL; decide⟩
  have hcI : ((cL kd : Nat) : Int) = 1 ∨ ((cL kd : Nat) : Int) = 2 ∨ (11 ≤ ((cL kd : Nat) : Int) ∧ ((cL kd : Nat) : Int) ≤ 15) := by omega
  have hlt : ∀ y, y + (3 * (7 - d) + 1) ≤ 25 → y < 25 := fun y hy => by omega
  refine ⟨C3, ?_, ?_⟩
  · have hadd' : S_add (C 40 4) (o : Int) C1 = some C2 := by rw [g.2.2.2.2.2.1]; exact hadd
    rw [← h6] at ho2
    show N_readPart_s (N_readPart k) (d : Int) C = _
    unfold N_readPart_s
    clear k3 gf
    rcases hkk with z | z | z | z | z
    · have e5 : n32 (C 40 4) = 17 := by rw [e4, z]; rfl
      have eo : (o : Int) = 0 := by rw [← ho2, if_neg (by omega)]
      rw [eo] at hadd'
      simp only [e5, tk, hadd', k1, bind_some', jn_eq, n32_0, n32_1, lt1_eq, reduceIte, not_true, not_false_eq_true, and_true, true_and, or_true, true_or, false_or, or_false, and_false, false_and, Bool.false_eq_true, Nat.reduceEqDiff, Int.reduceEq, Int.reduceNeg, Int.reduceLT, Int.reduceLE, and_self, or_self]
    · have e5 : n32 (C 40 4) = 18 := by rw [e4, z]; rfl
      have eo : (o : Int) = 0 := by rw [← ho2, if_neg (by omega)]
      rw [eo] at hadd'
      simp only [e5, tk, hadd', k1, bind_some', jn_eq, n32_0, n32_1, lt1_eq, reduceIte, not_true, not_false_eq_true, and_true, true_and, or_true, true_or, false_or, or_false, and_false, false_and, Bool.false_eq_true, Nat.reduceEqDiff, Int.reduceEq, Int.reduceNeg, Int.reduceLT, Int.reduceLE, and_self, or_self]
    · have e5 : n32 (C 40 4) = 19 := by rw [e4, z]; rfl
      have eo : (o : Int) = 0 := by rw [← ho2, if_neg (by omega)]
      rw [eo] at hadd'
      simp only [e5, tk, hadd', k1, bind_some', jn_eq, n32_0, n32_1, lt1_eq, reduceIte, not_true, not_false_eq_true, and_true, true_and, or_true, true_or, false_or, or_false, and_false, false_and, Bool.false_eq_true, Nat.reduceEqDiff, Int.reduceEq, Int.reduceNeg, Int.reduceLT, Int.reduceLE, and_self, or_self]
    · have e5 : n32 (C 40 4) = 20 := by rw [e4, z]; rfl
      have eo : (o : Int) = 0 := by rw [← ho2, if_neg (by omega)]
      rw [eo] at hadd'
      simp only [e5, tk, hadd', k1, bind_some', jn_eq, n32_0, n32_1, lt1_eq, reduceIte, not_true, not_false_eq_true, and_true, true_and, or_true, true_or, false_or, or_false, and_false, false_and, Bool.false_eq_true, Nat.reduceEqDiff, Int.reduceEq, Int.reduceNeg, Int.reduceLT, Int.reduceLE, and_self, or_self]
    · have e5 : n32 (C 40 4) = 22 := by rw [e4, z]; rfl
      have eo : (o : Int) = C1 40 6 := by rw [← ho2, if_pos z]
      rw [eo] at hadd'
      simp only [e5, tk, hadd', k1, bind_some', jn_eq, n32_0, n32_1, lt1_eq, reduceIte, not_true, not_false_eq_true, and_true, true_and, or_true, true_or, false_or, or_false, and_false, false_and, Bool.false_eq_true, Nat.reduceEqDiff, Int.reduceEq, Int.reduceNeg, Int.reduceLT, Int.reduceLE, and_self, or_self]
  · clear k3
    rcases unit_end hEnv hb hX3 (by clear gf; omega) hp16 gf with ⟨kd4, p4, y1, y2, -, y4⟩ | ⟨f, q', y1, y2⟩
    · clear gf
      rw [eag] at y4
      refine Or.inl ⟨R3, u + 1, s + 1, h, kd4, p4, 1, hX3, fun z => absurd z (by decide), fun z => by rw [e45]; exact z, hh, y1, Reach_1 hstep, y2, by omega, hpil, ⟨fun j hj => ?_, fun j hj => ?_⟩, by omega, fun i hi1 hi2 => ?_, fun y hy => ?_, by omega, by omega, Nat.le_refl _, fun z => z, y4⟩
      · rw [c3 _ _ (by omega) (by omega) (by omega), c1 _ _ (by omega)]
      · rw [r3 _ _ (by omega) (by omega), r3 _ _ (by omega) (by omega), r1 _ _ (by omega), r1 _ _ (by omega)]
        exact ⟨rfl, rfl⟩
      · have ei : i = s := by omega
        subst ei
        exact ⟨fun z => absurd z (by decide), fun _ => ⟨cL kd, o, at1, fun z => at2.trans (ho3 z), by rw [hon.1 _ _ (by decide), c2s, hcl.2.2.1], ho1, hcl.2.2.2⟩⟩
      · rw [show s + 1 - s = 0 + 1 by omega]
        show (some y).bind (hS (R3 106 (900 * b + s + 0))) = _
        rw [bind_some', show 900 * b + s + 0 = 900 * b + s by omega, at1]
        unfold hS
        rw [if_pos hcI, if_pos (hlt y hy)]
    · refine Or.inr ⟨f, q', DmC_mono y1 (fun kd z => ?_), Dn_reach (Reach_1 hstep) (Nat.le_refl _) (fun z => ?_) y2⟩
      · unfold DW at z ⊢
        rw [eag] at z
        exact z
      · dsimp only at z ⊢
        rw [e45]
        exact z
theorem part_sim (hEnv : EnvX 1 t b n bare C0 R0) : ∀ (e d : Nat), d + e = 7 → SimG 1 t b n s0 bare C0 R0 d (4 + 4 * d) (3 * (7 - d) + 1) (1 + d) TpA ExN 0 (N_readPart (e + 3) (d : Int)) := by
  intro e
  induction e with
  | zero =>
    intro d hde C R u s h m kd p hX hH hh g hm hT hs9
    have hu := hX.2.1.1.2.2
    by_cases q : isL kd
    · by_cases q2 : u < 80
      · exact part_leaf hEnv (by omega) q q2 hX hh g hm hs9
      · exact part_bad hEnv (by omega) hX g hm (Or.inr (Or.inl ⟨q, by omega⟩))
    · by_cases q2 : kd = 40
      · exact part_bad hEnv (by omega) hX g hm (Or.inl ⟨q2, by omega⟩)
      · exact part_bad hEnv (by omega) hX g hm (Or.inr (Or.inr ⟨q2, q⟩))
  | succ e ih =>
    intro d hde C R u s h m kd p hX hH hh g hm hT hs9
    have hu := hX.2.1.1.2.2
    have hsub := ih (d + 1) (by omega)
    by_cases q : isL kd
    · by_cases q2 : u < 80
      · exact part_leaf hEnv (by omega) q q2 hX hh g hm hs9
      · exact part_bad hEnv (by omega) hX g hm (Or.inr (Or.inl ⟨q, by omega⟩))
    · by_cases q2 : kd = 40
      · by_cases q3 : u < 80
        · subst q2
          exact part_open hEnv (by omega) q3 hsub (by omega) hX hh g hm hs9
        · exact part_bad hEnv (by omega) hX g hm (Or.inl ⟨q2, by omega⟩)
      · exact part_bad hEnv (by omega) hX g hm (Or.inr (Or.inr ⟨q2, q⟩))
end PART2
