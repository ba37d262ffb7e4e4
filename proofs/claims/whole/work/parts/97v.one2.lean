/-! ===== expressions: one, of a person's mind and in brackets ===== -/
section ONE2
variable {t b n s0 bare : Nat} {C0 R0 C R : Mem}
theorem XS_h {u s m d : Nat} {v w : Int} (ht : isT t) (h : XS t b s0 C0 R0 u s m d C R) : XS t b s0 C0 R0 u s m d (up C 27 15 v) (up R 81 45 w) := by
  have ht2 : t = 3 ∨ t = 15 := ht
  obtain ⟨⟨f1, f2⟩, ⟨⟨n1, n2, n3⟩, ⟨n4, n5, n6⟩, n7, n8⟩, ⟨p1, p2, p3⟩, hs⟩ := h
  exact ⟨⟨fun a k z => by rw [up_at, if_neg (by omega)]; exact f1 a k z, fun a k z => by rw [up_at, if_neg (by omega)]; exact f2 a k z⟩, ⟨⟨by rw [up_at, if_neg (by omega)]; exact n1, by rw [up_c (by decide)]; exact n2, by omega⟩, ⟨by rw [up_at, if_neg (by omega)]; exact n4, by rw [up_k (by decide)]; exact n5, n6⟩, by rw [up_k (by decide)]; exact n7, by rw [up_k (by decide)]; exact n8⟩, ⟨p1, by rw [up_c (by decide)]; exact p2, fun k z1 z2 => by rw [up_c (by decide)]; exact p3 k z1 z2⟩, hs⟩
theorem GF_same {q : Nat} {P : Prop} {C' R' : Mem} (h : GF n q P C R) (hc : ∀ k, C' 40 k = C 40 k) (hc2 : ∀ k, C' 2 k = C 2 k) (hr : ∀ k, 4 ≤ k → k ≤ 10 → R' 81 k = R 81 k) : GF n q P C' R' := by
  rcases h with ⟨kd, p, z1, g, z3⟩ | ⟨f, p, z1, ⟨z2, z3, z4⟩, hf⟩
  · exact Or.inl ⟨kd, p, z1, Gd_same g hc hc2 hr, z3⟩
  · refine Or.inr ⟨f, p, by rw [hc, hc, hc]; exact z1, ⟨z2, z3, by rw [hr 6 (by decide) (by decide)]; exact z4⟩, ?_⟩
    unfold Flt BadT at hf ⊢
    rw [hr 4 (by decide) (by decide), hr 5 (by decide) (by decide), hr 6 (by decide) (by decide), hr 8 (by decide) (by decide)]
    exact hf
theorem one_mind (hEnv : EnvX 0 t b n bare C0 R0) {k d u s h m kd p : Nat} (hd : d < 7) (hk2 : kd = 16 ∨ kd = 17) (hbare : bare = 0) (hsub : SimG 0 t b n s0 bare C0 R0 (d + 1) (4 + 4 * (d + 1)) (3 * (7 - (d + 1)) + 1) (1 + (d + 1)) TpA ExN 0 (N_readOne k ((d + 1 : Nat) : Int))) (hk : 0 < k) (hX : XS t b s0 C0 R0 u s m d C R) (hh : h ≤ 1) (g : Gd n kd p C R) (hm : m ≤ 4 + 4 * d) (hs9 : s ≤ 9 * u) : OneG t b n s0 bare C0 R0 k d u s h m p C R := by
  have hkc : kd - 12 = 3 ∨ kd - 12 = 4 ∨ kd - 12 = 5 := by omega
  have ht := hEnv.2.1.1.1
  have ht2 : t = 3 ∨ t = 15 := ht
  obtain ⟨e27, e39, hb, e43, e37, e92, e14, e44⟩ := XS_at hEnv hX
  obtain ⟨⟨y1, y2, y3⟩, y4⟩ := hEnv.2.2.2.2 rfl
  have hB := XF_TB hEnv.1 ht hX.1
  have hm1 := hX.2.2.1.1
  obtain ⟨C1, R1, k1, k2, hon, k3⟩ := pass_ok hB on_self g
  rw [if_neg (by omega)] at k3
  have hX1 := XS_on ht hX hon
  have hX1' := XS_h (v := 1) (w := 1) ht hX1
  have hB1' := XF_TB hEnv.1 ht hX1'.1
  have hN1' := XF_HN hEnv.2.1 hX1'.1
  have gf1 : GF n (p + 1) True (up C1 27 15 1) (up R1 81 45 1) := GF_same k3 (fun k => up_c (by decide)) (fun k => up_c (by decide)) (fun k z1 z2 => up_k (by omega))
  obtain ⟨x, C2, C3, r, y, R3, q1, q2, q3, q4, -, hon3, q6⟩ := person_pass hB1' hN1' (P := True) ⟨on_self, gf1⟩
  have hX3 := XS_on ht hX1' hon3
  have hX4 := XS_opR (w := 4) (sg := ((kd - 12 : Nat) : Int)) (v := y) hX3 (by omega)
  have enP : nP (up R1 81 45 1) b = nP R0 b := by
    unfold nP
    rw [hX1'.1.2 85 b (by omega)]
  have hP8 := hEnv.2.1.2.2.1.2.2
  have hgf : GF n (p + 1) (∃ o : Nat, opR m d 4 ((kd - 12 : Nat) : Int) y R3 110 m = (o : Int) ∧ x = (o : Int) ∧ o < 100 ∧ (kd - 12 = 3 ∨ (o < nP R0 b ∧ 1 = 1 ∧ bare = 0))) C3 (opR m d 4 ((kd - 12 : Nat) : Int) y R3) := GF_opR q6 (fun z => by
    obtain ⟨-, i, i1, i2, i3⟩ := z
    rw [enP] at i1
    exact ⟨i, opR_m.2.2.trans i3, i2, by omega, Or.inr ⟨i1, rfl, hbare⟩⟩)
  have hu1 := unit_mind hB g hk2 hX.2.1.2.2.2 hd (by rw [e44, y2, hbare]; rfl) k2 q3 q4 hX3.2.1.2.2.1 hX3.2.1.2.2.2 (by omega)
  have hstep := e_unit g.2.1.1 hX.2.1.2.2.1 (by omega) (by omega) e43
  rw [hu1, bind_some'] at hstep
  dsimp only at hstep
  have e45 : opR m d 4 ((kd - 12 : Nat) : Int) y R3 81 45 = 1 := by
    rw [opR_o (by omega), hon3.2 81 45 (by omega), up_eq]
  have c27 : C3 27 15 = 1 := by rw [hon3.1 27 15 (by decide), up_eq]
  have hH2 : XHm 0 bare 1 C3 (opR m d 4 ((kd - 12 : Nat) : Int) y R3) := fun z => ⟨Or.inr c27, fun y => ⟨c27, e45, by decide⟩⟩
  have hp16 : p + 1 ≤ 1605 := by
    obtain ⟨-, -, -, -, ⟨e, y1, y2, -⟩, -⟩ := g
    have := hB.1
    omega
  obtain ⟨C5, C4, w1, w2, w3⟩ := pre_tail hEnv hb (by omega) (by rw [show 2 + d = 1 + (d + 1) by omega]; exact hsub) (fun C => brk_one k _ C hk) hX4 hH2 (by decide) hm hm1 hs9 hp16 opR_m.1 opR_m.2.1 (kd := kd) ⟨hkc, by rcases hk2 with rfl | rfl <;> rfl⟩ hgf
  refine ⟨C4, ?_, sim_comp (Reach_1 hstep) (Nat.le_refl _) (fun j hj => ?_) ⟨fun j hj => ?_, fun j hj => ?_⟩ (fun z => ?_) hh (by omega) (Nat.le_refl _) (Nat.le_refl _) w3⟩
  · have e4 : n32 (C 40 4) = (kd : Int) := Tok_4 g.2.2.2.2.2
    have e4' : C 40 4 = (kd : Int) := g.2.2.2.2.2.1
    have ed : n32 (d : Int) < 7 := by rw [n32_nat (by omega)]; omega
    have edd : (d : Int) + 1 = ((d + 1 : Nat) : Int) := rfl
    have h14 : n32 (C 27 14) = 0 := by rw [e14, y1, hbare]; rfl
    have w2' : S_add (C 40 4) x C5 = some C4 := by rw [e4']; exact w2
    show N_readOne_s (N_readOne k) (d : Int) C = _
    unfold N_readOne_s
    rcases hk2 with rfl | rfl
    · have e5 : n32 (C 40 4) = 16 := e4
      simp only [e5, ed, h14, k1, q1, q2, edd, w1, w2', bind_some', jn_eq, n32_0, n32_1, lt1_eq, reduceIte, not_true, not_false_eq_true, and_true, true_and, or_true, true_or, false_or, or_false, and_false, false_and, Bool.false_eq_true, Nat.reduceEqDiff, Int.reduceEq, Int.reduceLT, Int.reduceLE, and_self, or_self]
    · have e5 : n32 (C 40 4) = 17 := e4
      simp only [e5, ed, h14, k1, q1, q2, edd, w1, w2', bind_some', jn_eq, n32_0, n32_1, lt1_eq, reduceIte, not_true, not_false_eq_true, and_true, true_and, or_true, true_or, false_or, or_false, and_false, false_and, Bool.false_eq_true, Nat.reduceEqDiff, Int.reduceEq, Int.reduceLT, Int.reduceLE, and_self, or_self]
  · rw [opR_o (by omega), opR_o (by omega), opR_o (by omega), hon3.2 108 _ (by omega), hon3.2 109 _ (by omega), hon3.2 110 _ (by omega), up_c (by decide), up_c (by decide), up_c (by decide), hon.2 108 _ (by omega), hon.2 109 _ (by omega), hon.2 110 _ (by omega)]
    exact ⟨rfl, rfl, rfl⟩
  · rw [hon3.1 29 _ (by decide), up_c (by decide), hon.1 29 _ (by decide)]
  · rw [opR_o (by omega), opR_o (by omega), hon3.2 106 _ (by omega), hon3.2 107 _ (by omega), up_c (by decide), up_c (by decide), hon.2 106 _ (by omega), hon.2 107 _ (by omega)]
    exact ⟨rfl, rfl⟩
  · exact Or.inr e45
theorem one_open (hEnv : EnvX 0 t b n bare C0 R0) {k d u s h m p : Nat} (hd : d < 7) (hu : u < 80) (hsub : SimG 0 t b n s0 bare C0 R0 (d + 1) (4 + 4 * (d + 1)) (3 * (7 - (d + 1)) + 1) (1 + (d + 1)) TpA ExN 0 (N_readOne k ((d + 1 : Nat) : Int))) (hk : 0 < k) (hX : XS t b s0 C0 R0 u s m d C R) (hH : XHm 0 bare h C R) (hh : h ≤ 1) (g : Gd n 40 p C R) (hm : m ≤ 4 + 4 * d) (hs9 : s ≤ 9 * u) : OneG t b n s0 bare C0 R0 k d u s h m p C R := by
  have ht := hEnv.2.1.1.1
  have ht2 : t = 3 ∨ t = 15 := ht
  obtain ⟨e27, e39, hb, e43, e37, e92, e14, e44⟩ := XS_at hEnv hX
  have hB := XF_TB hEnv.1 ht hX.1
  have hm1 := hX.2.2.1.1
  have hXu := XS_up ht hX hu
  have hBu := XF_TB hEnv.1 ht hXu.1
  have gu : Gd n 40 p (up C t 5 ((u + 1 : Nat) : Int)) (up R 90 b ((u + 1 : Nat) : Int)) := Gd_same g (fun k => up_c (by omega)) (fun k => up_c (by omega)) (fun k z1 z2 => up_c (by decide))
  obtain ⟨C1, R1, k1, k2, hon, k3⟩ := pass_ok hBu on_self gu
  rw [if_neg (by decide)] at k3
  have hX1 := XS_on ht hXu hon
  have hX2 := XS_opR (w := 7) (sg := 0) (v := 0) hX1 (by omega)
  have hgf : GF n (p + 1) True C1 (opR m d 7 0 0 R1) := GF_opR k3 (fun z => z)
  have hu1 := unit_open hB g hX.2.1.2.2.2 hd e39 hb hX.2.1.1.2.1 hu k2 hX1.2.1.2.2.1 hX1.2.1.2.2.2 (by omega)
  have hstep := e_unit g.2.1.1 hX.2.1.2.2.1 (by omega) (by omega) e43
  rw [hu1, bind_some'] at hstep
  dsimp only at hstep
  have e45 : opR m d 7 0 0 R1 81 45 = R 81 45 := by rw [opR_o (by omega), hon.2 81 45 (by omega), up_c (by decide)]
  have c27 : C1 27 15 = C 27 15 := by rw [hon.1 27 15 (by decide), up_at, if_neg (by omega)]
  have hH2 : XHm 0 bare h C1 (opR m d 7 0 0 R1) := fun z => by
    obtain ⟨a0, a1⟩ := hH z
    exact ⟨by rw [c27]; exact a0, fun y => ⟨c27.trans (a1 y).1, e45.trans (a1 y).2.1, (a1 y).2.2⟩⟩
  have hp16 : p + 1 ≤ 1605 := by
    obtain ⟨-, -, -, -, ⟨e, y1, y2, -⟩, -⟩ := g
    have := hB.1
    omega
  have hb1 : ∀ C, C 40 4 = 24 → N_readOne k ((d + 1 : Nat) : Int) C = some C := fun C => brk_one k _ C hk
  have sE := e_sim hEnv (by omega) (alt_sim hEnv (by omega) (both_sim hEnv (by omega) (by omega) hsub hb1) (brk_both hb1)) (brk_alt hb1)
  obtain ⟨C3, C4, w1, w2, w3⟩ := opens_tail hEnv hb (by omega) sE (brk_e hb1) hX2 hH2 hh hm hm1 (by omega) hp16 opR_m.1 hgf
  refine ⟨C4, ?_, sim_comp (Reach_1 hstep) (Nat.le_refl _) (fun j hj => ?_) ⟨fun j hj => ?_, fun j hj => ?_⟩ (fun z => by show opR m d 7 0 0 R1 81 45 = 0 ∨ opR m d 7 0 0 R1 81 45 = 1; rw [e45]; exact z) (Nat.le_refl _) (by omega) (by omega) (by omega) w3⟩
  · have e4 : n32 (C 40 4) = 40 := Tok_4 g.2.2.2.2.2
    have edd : (d : Int) + 1 = ((d + 1 : Nat) : Int) := rfl
    have tk := takes_ok ht g e27 hX.2.1.1.1 hu (by omega) (Or.inr hd)
    show N_readOne_s (N_readOne k) (d : Int) C = _
    unfold N_readOne_s N_readUnit
    simp only [e4, tk, k1, edd, w1, w2, bind_some', jn_eq, n32_0, n32_1, lt1_eq, reduceIte, not_true, not_false_eq_true, and_true, true_and, or_true, true_or, false_or, or_false, and_false, false_and, Bool.false_eq_true, Nat.reduceEqDiff, Int.reduceEq, Int.reduceLT, Int.reduceLE, and_self, or_self]
  · rw [opR_o (by omega), opR_o (by omega), opR_o (by omega), hon.2 108 _ (by omega), hon.2 109 _ (by omega), hon.2 110 _ (by omega), up_c (by decide), up_c (by decide), up_c (by decide)]
    exact ⟨rfl, rfl, rfl⟩
  · rw [hon.1 29 _ (by decide), up_at, if_neg (by omega)]
  · rw [opR_o (by omega), opR_o (by omega), hon.2 106 _ (by omega), hon.2 107 _ (by omega), up_c (by decide), up_c (by decide)]
    exact ⟨rfl, rfl⟩
end ONE2
