/-! ===== expressions: one ===== -/
section ONE
variable {t b n s0 bare : Nat} {C0 R0 C R : Mem}
theorem takes_no {kd p d u : Nat} (ht : isT t) (g : Gd n kd p C R) (h27 : C 27 16 = (t : Int)) (h5 : C t 5 = (u : Int)) (hu : u ≤ 80) (hd : d ≤ 7) {bg : Int} (hbg : bg = 0 ∨ (bg = 1 ∧ ((kd = 40 ∧ d = 7) ∨ u = 80))) : N_takesUnit bg (d : Int) C = some (0, failC C 2) := by
  have e4 : n32 (C 40 4) = (kd : Int) := Tok_4 g.2.2.2.2.2
  have ed : n32 (d : Int) = (d : Int) := n32_nat (by omega)
  have hf := gd_failC g 2
  have hch : isTI (C 27 16) := isTI_of h27 ht
  have e5 : n32 (C (C 27 16).toNat 5) = (u : Int) := by rw [h27, tn_nat, h5, n32_nat (by omega)]
  unfold N_takesUnit
  have ev : (if (n32 (C 40 4) = 40) ∧ (7 ≤ n32 (d : Int)) then some (1 : Int) else some (0 : Int)) = some (if kd = 40 ∧ d = 7 then 1 else 0) := by
    rw [e4, ed]
    by_cases q : kd = 40 ∧ d = 7
    · rw [if_pos q, if_pos (by omega)]
    · rw [if_neg q, if_neg (by omega)]
  rw [ev]
  rcases hbg with rfl | ⟨rfl, hbg⟩
  · simp only [hf, bind_some', jn_eq, n32_0, n32_1, lt1_eq, reduceIte, not_true, not_false_eq_true, and_true, true_and, or_true, true_or, false_or, or_false, and_false, false_and, Bool.false_eq_true, Nat.reduceEqDiff, Int.reduceEq, Int.reduceLT, Int.reduceLE, and_self, or_self]
  · by_cases q : kd = 40 ∧ d = 7
    · simp only [q, hf, bind_some', jn_eq, n32_0, n32_1, lt1_eq, reduceIte, not_true, not_false_eq_true, and_true, true_and, or_true, true_or, false_or, or_false, and_false, false_and, Bool.false_eq_true, Nat.reduceEqDiff, Int.reduceEq, Int.reduceLT, Int.reduceLE, and_self, or_self]
    · have hu80 : u = 80 := by omega
      have h80 : (80 : Int) ≤ n32 (C (C 27 16).toNat 5) := by rw [e5]; omega
      simp only [q, hf, chk_pos hch, h80, bind_some', jn_eq, n32_0, n32_1, lt1_eq, reduceIte, not_true, not_false_eq_true, and_true, true_and, or_true, true_or, false_or, or_false, and_false, false_and, Bool.false_eq_true, Nat.reduceEqDiff, Int.reduceEq, Int.reduceLT, Int.reduceLE, and_self, or_self]
theorem takes_ok {kd p d u : Nat} (ht : isT t) (g : Gd n kd p C R) (h27 : C 27 16 = (t : Int)) (h5 : C t 5 = (u : Int)) (hu : u < 80) (hd : d ≤ 7) (hk : kd ≠ 40 ∨ d < 7) : N_takesUnit 1 (d : Int) C = some (1, up C t 5 ((u + 1 : Nat) : Int)) := by
  have e4 : n32 (C 40 4) = (kd : Int) := Tok_4 g.2.2.2.2.2
  have ed : n32 (d : Int) = (d : Int) := n32_nat (by omega)
  have hch : isTI (C 27 16) := isTI_of h27 ht
  have e5 : n32 (C (C 27 16).toNat 5) = (u : Int) := by rw [h27, tn_nat, h5, n32_nat (by omega)]
  have h80 : ¬ (80 : Int) ≤ n32 (C (C 27 16).toNat 5) := by rw [e5]; omega
  have eu : up C (C 27 16).toNat 5 (C (C 27 16).toNat 5 + 1) = up C t 5 ((u + 1 : Nat) : Int) := by rw [h27, tn_nat, h5]; rfl
  unfold N_takesUnit
  rw [if_neg (show ¬ (n32 (C 40 4) = 40 ∧ 7 ≤ n32 (d : Int)) by rw [e4, ed]; omega)]
  simp only [chk_pos hch, h80, eu, bind_some', jn_eq, n32_0, n32_1, lt1_eq, reduceIte, not_true, not_false_eq_true, and_true, true_and, or_true, true_or, false_or, or_false, and_false, false_and, Bool.false_eq_true, Nat.reduceEqDiff, Int.reduceEq, Int.reduceLT, Int.reduceLE, and_self, or_self]
theorem one_word {kd : Nat} (hk : kd < 100) (h4 : C 40 4 = (kd : Int)) : n32 (C 40 4) = (kd : Int) := by rw [h4, n32_nat (by omega)]
theorem cls_bad {k kd p d u : Nat} (ht : isT t) (g : Gd n kd p C R) (h27 : C 27 16 = (t : Int)) (h5 : C t 5 = (u : Int)) (hu : u ≤ 80) (hd : d ≤ 7) (h14 : C 27 14 = (bare : Int)) (hbare : bare ≤ 1) (hbad : (kd = 15 ∧ d = 7) ∨ ((kd = 16 ∨ kd = 17) ∧ (d = 7 ∨ bare = 1)) ∨ (kd = 40 ∧ (d = 7 ∨ u = 80)) ∨ (kd = 21 ∧ u = 80) ∨ (kd ≠ 15 ∧ kd ≠ 16 ∧ kd ≠ 17 ∧ kd ≠ 40 ∧ kd ≠ 21)) : N_readOne (k + 1) (d : Int) C = some (failC C 2) := by
  have e4 : n32 (C 40 4) = (kd : Int) := Tok_4 g.2.2.2.2.2
  have ed : n32 (d : Int) = (d : Int) := n32_nat (by omega)
  have hf := gd_failC g 2
  show N_readOne_s (N_readOne k) (d : Int) C = _
  unfold N_readOne_s
  rw [lt1_eq, e4]
  by_cases c1 : kd = 15 ∨ kd = 16 ∨ kd = 17
  · have hv : (if ((kd : Int) = 16) ∨ ((kd : Int) = 17) then some (1 : Int) else some (0 : Int)) = some (if kd = 16 ∨ kd = 17 then 1 else 0) := by
      by_cases q : kd = 16 ∨ kd = 17
      · rw [if_pos q, if_pos (by omega)]
      · rw [if_neg q, if_neg (by omega)]
    rw [hv, bind_some', if_neg (by
      rintro ⟨z1, z2⟩
      by_cases q : kd = 16 ∨ kd = 17
      · rw [if_pos q] at z2
        exact absurd z2 (by decide)
      · omega), jn_eq, ed]
    by_cases q7 : d = 7
    · rw [if_neg (by omega)]
      dsimp only
      rw [hf, bind_some']
    · have q1 : (kd = 16 ∨ kd = 17) ∧ bare = 1 := by omega
      rw [if_pos (by omega), if_pos q1.1, if_pos ⟨nz1, by rw [h14, q1.2]; exact nz1⟩]
      dsimp only
      rw [hf, bind_some']
  · rw [if_neg (by omega), bind_some', if_pos ⟨by omega, by decide⟩]
    unfold N_readUnit
    rw [e4]
    by_cases c40 : kd = 40
    · rw [if_pos (by omega), bind_some', if_pos (Or.inl nz1), bind_some', takes_no ht g h27 h5 hu hd (Or.inr ⟨rfl, by omega⟩), bind_some']
      dsimp only
      rw [if_pos (by decide), bind_some']
    · rw [if_neg (by omega), bind_some']
      by_cases c21 : kd = 21
      · rw [if_pos (Or.inr (by omega)), bind_some', takes_no ht g h27 h5 hu hd (Or.inr ⟨rfl, by omega⟩), bind_some']
        dsimp only
        rw [if_pos (by decide), bind_some']
      · rw [if_neg (by rintro (z | z); exact nz0 z; omega), bind_some', takes_no ht g h27 h5 hu hd (Or.inl rfl), bind_some']
        dsimp only
        rw [if_pos (by decide), bind_some']
/-- what stands at hand, of a state within an expression -/
theorem XS_at {md u s m d : Nat} (hEnv : EnvX md t b n bare C0 R0) (hX : XS t b s0 C0 R0 u s m d C R) : C 27 16 = (t : Int) ∧ R 81 39 = (b : Int) ∧ b < 2 ∧ R 81 43 = (md : Int) ∧ (∀ r, C 37 r = C0 37 r) ∧ (∀ k, R 92 k = R0 92 k) ∧ C 27 14 = C0 27 14 ∧ R 81 44 = R0 81 44 := by
  obtain ⟨ht, hb, h27, h39⟩ := hEnv.2.1.1
  have ht2 : t = 3 ∨ t = 15 := ht
  obtain ⟨f1, f2⟩ := hX.1
  exact ⟨(f1 _ _ (by omega)).trans h27, (f2 _ _ (by omega)).trans h39, hb, (f2 _ _ (by omega)).trans hEnv.2.2.1, fun r => f1 _ _ (by omega), fun k => f2 _ _ (by omega), f1 _ _ (by omega), f2 _ _ (by omega)⟩
/-- the goal of a piece -/
def OneG (t b n s0 bare : Nat) (C0 R0 : Mem) (k d u s h m p : Nat) (C R : Mem) : Prop := ∃ C', N_readOne (k + 1) (d : Int) C = some C' ∧ (GoodG 0 t b n s0 bare C0 R0 (3 * (7 - d) + 1) (1 + d) ExN u s h m d p C R 1 C' ∨ FailG (DW 0 0 m R) b s0 R0 p R 1 C')
theorem one_bad (hEnv : EnvX 0 t b n bare C0 R0) {k d u s h m kd p : Nat} (hd : d ≤ 7) (hX : XS t b s0 C0 R0 u s m d C R) (g : Gd n kd p C R) (hm : m ≤ 4 + 4 * d) (hbad : (kd = 15 ∧ d = 7) ∨ ((kd = 16 ∨ kd = 17) ∧ (d = 7 ∨ bare = 1)) ∨ (kd = 40 ∧ (d = 7 ∨ u = 80)) ∨ (kd = 21 ∧ u = 80) ∨ (kd ≠ 15 ∧ kd ≠ 16 ∧ kd ≠ 17 ∧ kd ≠ 40 ∧ kd ≠ 21)) : OneG t b n s0 bare C0 R0 k d u s h m p C R := by
  obtain ⟨e27, e39, hb, e43, e37, e92, e14, e44⟩ := XS_at hEnv hX
  obtain ⟨⟨z1, z2, z3⟩, z4⟩ := hEnv.2.2.2.2 rfl
  have hB := XF_TB hEnv.1 hEnv.2.1.1.1 hX.1
  obtain ⟨n1, n2, n3⟩ := hX.2.1.1
  have hu1 := unit_bad hB g hX.2.1.2.2.2 hd e39 hb n2 n3 (e44.trans z2) z3 hbad
  have hstep := e_unit g.2.1.1 hX.2.1.2.2.1 (by have := hX.2.2.1.1; omega) (by omega) e43
  rw [hu1, bind_some'] at hstep
  exact ⟨_, cls_bad hEnv.2.1.1.1 g e27 n1 n3 hd (e14.trans z1) z3 hbad, Or.inr (unit_fail hEnv hX g (by decide) (by decide) rfl rfl hstep)⟩
theorem one_not (hEnv : EnvX 0 t b n bare C0 R0) {k d u s h m p : Nat} (hd : d < 7) (hsub : SimG 0 t b n s0 bare C0 R0 (d + 1) (4 + 4 * (d + 1)) (3 * (7 - (d + 1)) + 1) (1 + (d + 1)) TpA ExN 0 (N_readOne k ((d + 1 : Nat) : Int))) (hk : 0 < k) (hX : XS t b s0 C0 R0 u s m d C R) (hH : XHm 0 bare h C R) (hh : h ≤ 1) (g : Gd n 15 p C R) (hm : m ≤ 4 + 4 * d) (hs9 : s ≤ 9 * u) : OneG t b n s0 bare C0 R0 k d u s h m p C R := by
  have ht := hEnv.2.1.1.1
  have ht2 : t = 3 ∨ t = 15 := ht
  obtain ⟨e27, e39, hb, e43, e37, e92, e14, e44⟩ := XS_at hEnv hX
  have hB := XF_TB hEnv.1 ht hX.1
  have hm1 := hX.2.2.1.1
  obtain ⟨C1, R1, k1, k2, hon, k3⟩ := pass_ok hB on_self g
  rw [if_neg (by decide)] at k3
  have hX1 := XS_on ht hX hon
  have hX2 := XS_opR (w := 4) (sg := 3) (v := 0) hX1 (by omega)
  have hgf : GF n (p + 1) (∃ o : Nat, opR m d 4 3 0 R1 110 m = (o : Int) ∧ (0 : Int) = (o : Int) ∧ o < 100 ∧ (3 = 3 ∨ (o < nP R0 b ∧ h = 1 ∧ bare = 0))) C1 (opR m d 4 3 0 R1) := GF_opR k3 (fun _ => ⟨0, opR_m.2.2, rfl, by decide, Or.inl rfl⟩)
  have hu1 := unit_not hB g hX.2.1.2.2.2 hd k2 hX1.2.1.2.2.1 hX1.2.1.2.2.2 (by omega)
  have hstep := e_unit g.2.1.1 hX.2.1.2.2.1 (by omega) (by omega) e43
  rw [hu1, bind_some'] at hstep
  dsimp only at hstep
  have e45 : opR m d 4 3 0 R1 81 45 = R 81 45 := (opR_o (by omega)).trans (hon.2 _ _ (by omega))
  have hH2 : XHm 0 bare h C1 (opR m d 4 3 0 R1) := fun z => by
    obtain ⟨a0, a1⟩ := hH z
    exact ⟨by rw [hon.1 _ _ (by decide)]; exact a0, fun y => ⟨(hon.1 _ _ (by decide)).trans (a1 y).1, e45.trans (a1 y).2.1, (a1 y).2.2⟩⟩
  have hp16 : p + 1 ≤ 1605 := by
    obtain ⟨-, -, -, -, ⟨e, y1, y2, -⟩, -⟩ := g
    have := hB.1
    omega
  obtain ⟨C3, C4, w1, w2, w3⟩ := pre_tail hEnv hb (by omega) (by rw [show 2 + d = 1 + (d + 1) by omega]; exact hsub) (brk_one k _ · hk) hX2 hH2 hh hm hm1 hs9 hp16 opR_m.1 opR_m.2.1 ⟨Or.inl rfl, rfl⟩ hgf
  refine ⟨C4, ?_, sim_comp (Reach_1 hstep) (Nat.le_refl _) (fun j hj => ?_) ⟨fun j hj => hon.1 _ _ (by decide), fun j hj => ?_⟩ (fun z => by show opR m d 4 3 0 R1 81 45 = 0 ∨ opR m d 4 3 0 R1 81 45 = 1; rw [e45]; exact z) (Nat.le_refl _) (by omega) (Nat.le_refl _) (Nat.le_refl _) w3⟩
  · have e4 : n32 (C 40 4) = 15 := Tok_4 g.2.2.2.2.2
    have e4' : C 40 4 = ((15 : Nat) : Int) := g.2.2.2.2.2.1
    have ed : n32 (d : Int) < 7 := by rw [n32_nat (by omega)]; omega
    have edd : (d : Int) + 1 = ((d + 1 : Nat) : Int) := rfl
    show N_readOne_s (N_readOne k) (d : Int) C = _
    unfold N_readOne_s
    have w2' : S_add (C 40 4) 0 C3 = some C4 := by rw [e4']; exact w2
    simp only [e4, ed, k1, edd, w1, w2', bind_some', jn_eq, n32_0, n32_1, lt1_eq, reduceIte, not_true, not_false_eq_true, and_true, true_and, or_true, true_or, false_or, or_false, and_false, false_and, Bool.false_eq_true, Nat.reduceEqDiff, Int.reduceEq, Int.reduceLT, Int.reduceLE, and_self, or_self]
  · rw [opR_o (by omega), opR_o (by omega), opR_o (by omega), hon.2 108 _ (by omega), hon.2 109 _ (by omega), hon.2 110 _ (by omega)]
    exact ⟨rfl, rfl, rfl⟩
  · rw [opR_o (by omega), opR_o (by omega), hon.2 106 _ (by omega), hon.2 107 _ (by omega)]
    exact ⟨rfl, rfl⟩
end ONE
