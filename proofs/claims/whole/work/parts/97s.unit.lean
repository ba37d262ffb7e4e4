/-! ===== expressions: the reference reads a unit ===== -/
def opR (m d : Nat) (w sg v : Int) (R : Mem) : Mem := up (pushR m w sg v R) 81 41 ((d + 1 : Nat) : Int)
section UNIT
variable {md t b n s0 bare : Nat} {C0 R0 C R : Mem}
theorem opR_o {m d : Nat} {w sg v : Int} {a k : Nat} (h : ¬ ((a = 108 ∨ a = 109 ∨ a = 110) ∧ k = m) ∧ ¬ (a = 81 ∧ (k = 41 ∨ k = 42))) : opR m d w sg v R a k = R a k := by
  unfold opR
  rw [up_at, if_neg (by omega), pushR_o (by omega)]
theorem opR_m {m d : Nat} {w sg v : Int} : opR m d w sg v R 108 m = w ∧ opR m d w sg v R 109 m = sg ∧ opR m d w sg v R 110 m = v := by
  unfold opR
  rw [up_c (by decide), up_c (by decide), up_c (by decide)]
  exact ⟨pushR_m.1, pushR_m.2.1, pushR_m.2.2.1⟩
theorem XS_opR {u s m d : Nat} {w sg v : Int} (h : XS t b s0 C0 R0 u s m d C R) (hw : 1 ≤ w ∧ w ≤ 7) : XS t b s0 C0 R0 u s (m + 1) (d + 1) C (opR m d w sg v R) := by
  obtain ⟨⟨f1, f2⟩, ⟨⟨n1, n2, n3⟩, ⟨n4, n5, n6⟩, n7, n8⟩, ⟨p1, p2, p3⟩, hs⟩ := XS_pushR (sg := sg) (v := v) h hw
  unfold opR
  refine ⟨⟨f1, fun a k z => by rw [up_at, if_neg (by omega)]; exact f2 a k z⟩, ⟨⟨n1, by rw [up_c (by decide)]; exact n2, n3⟩, ⟨n4, by rw [up_k (by decide)]; exact n5, n6⟩, by rw [up_k (by decide)]; exact n7, up_eq⟩, ⟨p1, by rw [up_c (by decide)]; exact p2, fun k z1 z2 => by rw [up_c (by decide)]; exact p3 k z1 z2⟩, hs⟩
theorem GF_opR {m d q : Nat} {w sg v : Int} {P P' : Prop} (h : GF n q P C R) (hP : P → P') : GF n q P' C (opR m d w sg v R) := by
  have e : ∀ k, k ≠ 41 → k ≠ 42 → opR m d w sg v R 81 k = R 81 k := fun k h1 h2 => opR_o (by omega)
  rcases h with ⟨kd, p, z1, g, z3⟩ | ⟨f, p, z1, ⟨z2, z3, z4⟩, hf⟩
  · refine Or.inl ⟨kd, p, z1, ?_, hP z3⟩
    unfold Gd Tok at g ⊢
    rw [e 4 (by decide) (by decide), e 5 (by decide) (by decide), e 6 (by decide) (by decide), e 7 (by decide) (by decide), e 8 (by decide) (by decide), e 9 (by decide) (by decide), e 10 (by decide) (by decide)]
    exact g
  · refine Or.inr ⟨f, p, z1, ⟨z2, z3, by rw [e 6 (by decide) (by decide)]; exact z4⟩, ?_⟩
    unfold Flt BadT at hf ⊢
    rw [e 4 (by decide) (by decide), e 5 (by decide) (by decide), e 6 (by decide) (by decide), e 8 (by decide) (by decide)]
    exact hf
theorem opens_eq {m d : Nat} (h42 : R 81 42 = (m : Int)) (h41 : R 81 41 = (d : Int)) (hm : m < 118) (w sg v : Int) : M_opens w sg v R = some (1, opR m d w sg v R) := by
  unfold M_opens
  rw [push_eq (what := 0) (sign := 0) (nn := 0) h42 hm, bind_some', lt1_eq, show up (up (up (up R 108 m w) 109 m sg) 110 m v) 81 42 ((m + 1 : Nat) : Int) = pushR m w sg v R from rfl, pushR_o (by omega), h41]
  rfl
/-- what the token is, to the reference's unit -/
theorem unit_words (hB : TB n C R) {kd p : Nat} (g : Gd n kd p C R) : M_isWord 7237492 R = some (if kd = 15 then 1 else 0) ∧ M_isWord 448545973363 R = some (if kd = 16 then 1 else 0) ∧ M_isWord 127991794264947 R = some (if kd = 17 then 1 else 0) ∧ M_isWord 130220881569139 R = some (if kd = 18 then 1 else 0) ∧ M_isWord 418497262196 R = some (if kd = 19 then 1 else 0) ∧ M_isWord 1953064292 R = some (if kd = 20 then 1 else 0) ∧ M_stands 40 R = some (if kd = 40 then 1 else 0) := by
  have gT := g.2.2.2.2.2
  obtain ⟨-, -, -, w14, w15, w16, w17, w18, w19⟩ := wconst2
  have i14 := isWord_tok gT (j := 14) (by decide)
  have i15 := isWord_tok gT (j := 15) (by decide)
  have i16 := isWord_tok gT (j := 16) (by decide)
  have i17 := isWord_tok gT (j := 17) (by decide)
  have i18 := isWord_tok gT (j := 18) (by decide)
  have i19 := isWord_tok gT (j := 19) (by decide)
  rw [w14] at i14
  rw [w15] at i15
  rw [w16] at i16
  rw [w17] at i17
  rw [w18] at i18
  rw [w19] at i19
  have hst := stands_tok hB on_self gT (q := p) (by obtain ⟨-, -, -, -, ⟨e, e1, e2, -⟩, -⟩ := g; have := hB.1; omega) g.2.2.2.1 (c := 40) (by decide)
  exact ⟨i14, i15, i16, i17, i18, i19, hst⟩
theorem unit_not (hB : TB n C R) {p m d : Nat} (g : Gd n 15 p C R) (h41 : R 81 41 = (d : Int)) (hd : d < 7) {R1 : Mem} (h1 : M_goOn R = some R1) (h42 : R1 81 42 = (m : Int)) (h41' : R1 81 41 = (d : Int)) (hm : m < 118) : M_unit R = some (1, opR m d 4 3 0 R1) := by
  obtain ⟨i14, i15, i16, -, -, -, s40⟩ := unit_words hB g
  have hd7 : ¬ n32 (R 81 41) = 7 := by rw [h41, n32_nat (by omega)]; omega
  unfold M_unit
  rw [i14, i15, i16, s40]
  simp only [bind_some', jn_eq, n32_0, n32_1, hd7, gd_good g.2.1.1, h1, opens_eq h42 h41' hm, reduceIte, not_true, not_false_eq_true, and_true, true_and, or_true, true_or, false_or, or_false, and_false, false_and, Bool.false_eq_true, Nat.reduceEqDiff, Int.reduceEq]
  rfl
theorem unit_bad (hB : TB n C R) {kd p d u : Nat} (g : Gd n kd p C R) (h41 : R 81 41 = (d : Int)) (hd : d ≤ 7) (h39 : R 81 39 = (b : Int)) (hb : b < 2) (h90 : R 90 b = (u : Int)) (hu : u ≤ 80) (h44 : R 81 44 = (bare : Int)) (hbare : bare ≤ 1) (hbad : (kd = 15 ∧ d = 7) ∨ ((kd = 16 ∨ kd = 17) ∧ (d = 7 ∨ bare = 1)) ∨ (kd = 40 ∧ (d = 7 ∨ u = 80)) ∨ (kd = 21 ∧ u = 80) ∨ (kd ≠ 15 ∧ kd ≠ 16 ∧ kd ≠ 17 ∧ kd ≠ 40 ∧ kd ≠ 21)) : M_unit R = some (1, up (up R 81 4 2) 81 5 (p : Int)) := by
  obtain ⟨i14, i15, i16, -, -, -, s40⟩ := unit_words hB g
  have gT := g.2.2.2.2.2
  have hm := tok_misp g.2.1.1 gT g.2.2.2.1
  have hf := fl_good (up45_flt (R := R) (f := 2) (p := (p : Int)) (by decide) (by decide))
  have hch : 0 ≤ R 81 39 ∧ R 81 39 < 2 := by omega
  have e41 : n32 (R 81 41) = (d : Int) := by rw [h41, n32_nat (by omega)]
  have e90 : n32 (R 90 (Int.toNat (R 81 39))) = (u : Int) := by rw [h39, tn_nat, h90, n32_nat (by omega)]
  have e44 : n32 (R 81 44) = (bare : Int) := by rw [h44, n32_nat (by omega)]
  have c7 : ((7 : Nat) : Int) = 7 := rfl
  have c80 : ((80 : Nat) : Int) = 80 := rfl
  have c1 : ((1 : Nat) : Int) = 1 := rfl
  have h8 : kd ≠ 21 → ¬ n32 (R 81 8) = 2 := fun z y => z ((Tok_2 gT).mp y)
  have h82 : kd = 21 → n32 (R 81 8) = 2 := fun z => (Tok_2 gT).mpr z
  unfold M_unit
  rw [i14, i15, i16, s40]
  rcases hbad with ⟨rfl, rfl⟩ | ⟨rfl | rfl, rfl | rfl⟩ | ⟨rfl, rfl | rfl⟩ | ⟨rfl, rfl⟩ | ⟨k1, k2, k3, k4, k5⟩
  · simp only [e41, c7, hm, hf, bind_some', jn_eq, n32_0, n32_1, lt1_eq, reduceIte, not_true, not_false_eq_true, and_true, true_and, or_true, true_or, false_or, or_false, and_false, false_and, Bool.false_eq_true, Nat.reduceEqDiff, Int.reduceEq, and_self, or_self]
  · simp only [e41, c7, hm, hf, bind_some', jn_eq, n32_0, n32_1, lt1_eq, reduceIte, not_true, not_false_eq_true, and_true, true_and, or_true, true_or, false_or, or_false, and_false, false_and, Bool.false_eq_true, Nat.reduceEqDiff, Int.reduceEq, and_self, or_self]
  · by_cases q : d = 7
    · subst q
      simp only [e41, c7, hm, hf, bind_some', jn_eq, n32_0, n32_1, lt1_eq, reduceIte, not_true, not_false_eq_true, and_true, true_and, or_true, true_or, false_or, or_false, and_false, false_and, Bool.false_eq_true, Nat.reduceEqDiff, Int.reduceEq, and_self, or_self]
    · have q2 : ¬ (d : Int) = 7 := by omega
      simp only [e41, q2, e44, c1, hm, hf, bind_some', jn_eq, n32_0, n32_1, lt1_eq, reduceIte, not_true, not_false_eq_true, and_true, true_and, or_true, true_or, false_or, or_false, and_false, false_and, Bool.false_eq_true, Nat.reduceEqDiff, Int.reduceEq, and_self, or_self]
  · simp only [e41, c7, hm, hf, bind_some', jn_eq, n32_0, n32_1, lt1_eq, reduceIte, not_true, not_false_eq_true, and_true, true_and, or_true, true_or, false_or, or_false, and_false, false_and, Bool.false_eq_true, Nat.reduceEqDiff, Int.reduceEq, and_self, or_self]
  · by_cases q : d = 7
    · subst q
      simp only [e41, c7, hm, hf, bind_some', jn_eq, n32_0, n32_1, lt1_eq, reduceIte, not_true, not_false_eq_true, and_true, true_and, or_true, true_or, false_or, or_false, and_false, false_and, Bool.false_eq_true, Nat.reduceEqDiff, Int.reduceEq, and_self, or_self]
    · have q2 : ¬ (d : Int) = 7 := by omega
      simp only [e41, q2, e44, c1, hm, hf, bind_some', jn_eq, n32_0, n32_1, lt1_eq, reduceIte, not_true, not_false_eq_true, and_true, true_and, or_true, true_or, false_or, or_false, and_false, false_and, Bool.false_eq_true, Nat.reduceEqDiff, Int.reduceEq, and_self, or_self]
  · have h9 := h8 (by decide)
    by_cases q : (u : Int) = 80
    · simp only [h9, chk_pos hch, e90, q, e41, c7, hm, hf, bind_some', jn_eq, n32_0, n32_1, lt1_eq, reduceIte, not_true, not_false_eq_true, and_true, true_and, or_true, true_or, false_or, or_false, and_false, false_and, Bool.false_eq_true, Nat.reduceEqDiff, Int.reduceEq, and_self, or_self]
    · simp only [h9, chk_pos hch, e90, q, e41, c7, hm, hf, bind_some', jn_eq, n32_0, n32_1, lt1_eq, reduceIte, not_true, not_false_eq_true, and_true, true_and, or_true, true_or, false_or, or_false, and_false, false_and, Bool.false_eq_true, Nat.reduceEqDiff, Int.reduceEq, and_self, or_self]
  · have h9 := h8 (by decide)
    simp only [h9, chk_pos hch, e90, c80, e41, hm, hf, bind_some', jn_eq, n32_0, n32_1, lt1_eq, reduceIte, not_true, not_false_eq_true, and_true, true_and, or_true, true_or, false_or, or_false, and_false, false_and, Bool.false_eq_true, Nat.reduceEqDiff, Int.reduceEq, and_self, or_self]
  · have h9 := h82 rfl
    simp only [h9, chk_pos hch, e90, c80, e41, hm, hf, bind_some', jn_eq, n32_0, n32_1, lt1_eq, reduceIte, not_true, not_false_eq_true, and_true, true_and, or_true, true_or, false_or, or_false, and_false, false_and, Bool.false_eq_true, Nat.reduceEqDiff, Int.reduceEq, and_self, or_self]
  · have h9 := h8 k5
    simp only [h9, k1, k2, k3, k4, hm, hf, bind_some', jn_eq, n32_0, n32_1, lt1_eq, reduceIte, not_true, not_false_eq_true, and_true, true_and, or_true, true_or, false_or, or_false, and_false, false_and, Bool.false_eq_true, Nat.reduceEqDiff, Int.reduceEq, and_self, or_self]
theorem unit_mind (hB : TB n C R) {kd p m d : Nat} (g : Gd n kd p C R) (hk : kd = 16 ∨ kd = 17) (h41 : R 81 41 = (d : Int)) (hd : d < 7) (h44 : R 81 44 = 0) {R1 R5 : Mem} {r3 r4 : Int} (h1 : M_goOn R = some R1) (h3 : M_personHere (up R1 81 45 1) = some r3) (h4 : M_told r3 (up R1 81 45 1) = some (r4, R5)) (h42 : R5 81 42 = (m : Int)) (h41' : R5 81 41 = (d : Int)) (hm : m < 118) : M_unit R = some (1, opR m d 4 ((kd - 12 : Nat) : Int) r4 R5) := by
  obtain ⟨i14, i15, i16, -, -, -, s40⟩ := unit_words hB g
  have hd7 : ¬ n32 (R 81 41) = 7 := by rw [h41, n32_nat (by omega)]; omega
  have e44 : n32 (R 81 44) = 0 := by rw [h44]; rfl
  have hmf : ∀ sg : Int, M_mindful sg R = some (1, opR m d 4 sg r4 R5) := fun sg => by
    unfold M_mindful
    rw [h1, bind_some', lt1_eq, h3, bind_some', h4, bind_some']
    dsimp only
    rw [opens_eq h42 h41' hm, bind_some']
    rfl
  unfold M_unit
  rw [i14, i15, i16, s40]
  have c1 : chk ((1 : Int) = 0 ∨ (1 : Int) = 1) = fun (e : Option (Int × Mem)) => e := by
    funext e
    exact chk_pos (Or.inr rfl)
  rcases hk with rfl | rfl
  · simp only [hd7, e44, i15, hmf, gd_good g.2.1.1, bind_some', jn_eq, n32_0, n32_1, lt1_eq, reduceIte, not_true, not_false_eq_true, and_true, true_and, or_true, true_or, false_or, or_false, and_false, false_and, Bool.false_eq_true, Nat.reduceEqDiff, Int.reduceEq, and_self, or_self]
    rfl
  · simp only [hd7, e44, i15, hmf, gd_good g.2.1.1, bind_some', jn_eq, n32_0, n32_1, lt1_eq, reduceIte, not_true, not_false_eq_true, and_true, true_and, or_true, true_or, false_or, or_false, and_false, false_and, Bool.false_eq_true, Nat.reduceEqDiff, Int.reduceEq, and_self, or_self]
    rfl
theorem unit_open (hB : TB n C R) {p m d u : Nat} (g : Gd n 40 p C R) (h41 : R 81 41 = (d : Int)) (hd : d < 7) (h39 : R 81 39 = (b : Int)) (hb : b < 2) (h90 : R 90 b = (u : Int)) (hu : u < 80) {R1 : Mem} (h1 : M_goOn (up R 90 b ((u + 1 : Nat) : Int)) = some R1) (h42 : R1 81 42 = (m : Int)) (h41' : R1 81 41 = (d : Int)) (hm : m < 118) : M_unit R = some (1, opR m d 7 0 0 R1) := by
  obtain ⟨i14, i15, i16, -, -, -, s40⟩ := unit_words hB g
  have gT := g.2.2.2.2.2
  have hch : 0 ≤ R 81 39 ∧ R 81 39 < 2 := by omega
  have hd7 : ¬ n32 (R 81 41) = 7 := by rw [h41, n32_nat (by omega)]; omega
  have e90 : ¬ n32 (R 90 (Int.toNat (R 81 39))) = 80 := by rw [h39, tn_nat, h90, n32_nat (by omega)]; omega
  have h8 : ¬ n32 (R 81 8) = 2 := fun y => absurd ((Tok_2 gT).mp y) (by decide)
  have eu : up R 90 (Int.toNat (R 81 39)) ((R 90 (Int.toNat (R 81 39))) + 1) = up R 90 b ((u + 1 : Nat) : Int) := by rw [h39, tn_nat, h90]; rfl
  unfold M_unit
  rw [i14, i15, i16, s40]
  simp only [h8, chk_pos hch, e90, hd7, eu, h1, opens_eq h42 h41' hm, gd_good g.2.1.1, bind_some', jn_eq, n32_0, n32_1, lt1_eq, reduceIte, not_true, not_false_eq_true, and_true, true_and, or_true, true_or, false_or, or_false, and_false, false_and, Bool.false_eq_true, Nat.reduceEqDiff, Int.reduceEq, and_self, or_self]
  rfl
end UNIT
