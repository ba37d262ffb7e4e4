/-! ===== expressions: part ===== -/
def cL (kd : Nat) : Nat := if kd = 22 then 11 else if kd = 18 then 12 else if kd = 19 then 13 else if kd = 20 then 14 else 15
def isL (kd : Nat) : Prop := kd = 17 ∨ kd = 18 ∨ kd = 19 ∨ kd = 20 ∨ kd = 22
def emR (b s : Nat) (c o : Int) (R : Mem) : Mem := up (up (up R 106 (900 * b + s) c) 107 (900 * b + s) o) 81 40 ((900 * b + (s + 1) : Nat) : Int)
section PART
variable {t b n s0 bare : Nat} {C0 R0 C R : Mem}
theorem emit_eq2 {s : Nat} (h40 : R 81 40 = ((900 * b + s : Nat) : Int)) (hb : b < 2) (hs : s < 900) (c o : Int) : M_emit c o R = some (emR b s c o R) := by
  unfold M_emit emR
  rw [h40, chk_pos (by omega), lt1_eq, tn_nat, up_c (show (81 : Nat) ≠ 106 by decide), h40, chk_pos (by omega), lt1_eq, tn_nat, up_c (show (81 : Nat) ≠ 107 by decide), up_c (show (81 : Nat) ≠ 106 by decide), h40, lt1_eq]
  rfl
theorem emR_o {s : Nat} {c o : Int} {a k : Nat} (h : ¬ ((a = 106 ∨ a = 107) ∧ k = 900 * b + s) ∧ ¬ (a = 81 ∧ k = 40)) : emR b s c o R a k = R a k := by
  unfold emR
  rw [up_at, if_neg (by omega), up_at, if_neg (by omega), up_at, if_neg (by omega)]
theorem emR_at {s : Nat} {c o : Int} : emR b s c o R 106 (900 * b + s) = c ∧ emR b s c o R 107 (900 * b + s) = o ∧ emR b s c o R 81 40 = ((900 * b + (s + 1) : Nat) : Int) := by
  unfold emR
  exact ⟨by rw [up_c (by decide), up_c (by decide), up_eq], by rw [up_c (by decide), up_eq], up_eq⟩
theorem part_bad_r (hB : TB n C R) {kd p d u : Nat} (g : Gd n kd p C R) (h41 : R 81 41 = (d : Int)) (hd : d ≤ 7) (h39 : R 81 39 = (b : Int)) (hb : b < 2) (h90 : R 90 b = (u : Int)) (hu : u ≤ 80) (hbad : (kd = 40 ∧ (d = 7 ∨ u = 80)) ∨ (isL kd ∧ u = 80) ∨ (kd ≠ 40 ∧ ¬ isL kd)) : M_part R = some (1, up (up R 81 4 2) 81 5 (p : Int)) := by
  obtain ⟨-, -, i16, i17, i18, i19, s40⟩ := unit_words hB g
  have gT := g.2.2.2.2.2
  have hm := tok_misp g.2.1.1 gT g.2.2.2.1
  have hf := fl_good (up45_flt (R := R) (f := 2) (p := (p : Int)) (by decide) (by decide))
  have hch : 0 ≤ R 81 39 ∧ R 81 39 < 2 := by omega
  have e41 : n32 (R 81 41) = (d : Int) := by rw [h41, n32_nat (by omega)]
  have e90 : n32 (R 90 (Int.toNat (R 81 39))) = (u : Int) := by rw [h39, tn_nat, h90, n32_nat (by omega)]
  have c7 : ((7 : Nat) : Int) = 7 := rfl
  have c80 : ((80 : Nat) : Int) = 80 := rfl
  obtain ⟨k8, k81, -, k83, -, -, k84, -⟩ := Tok_8 gT
  have h8 : n32 (R 81 8) = (k8 : Int) := by rw [k81, n32_nat (by omega)]
  have h84 : n32 (R 81 8) = 4 ↔ kd = 22 := by rw [h8, ← k84]; omega
  unfold M_part
  rw [s40, i17, i18, i19, i16]
  rcases hbad with ⟨rfl, hq⟩ | ⟨hl, rfl⟩ | ⟨k1, k2⟩
  · have h9 : ¬ n32 (R 81 8) = 4 := fun z => absurd (h84.mp z) (by decide)
    by_cases q : u = 80
    · subst q
      simp only [h9, chk_pos hch, e90, c80, e41, hm, hf, bind_some', jn_eq, n32_0, n32_1, lt1_eq, reduceIte, not_true, not_false_eq_true, and_true, true_and, or_true, true_or, false_or, or_false, and_false, false_and, Bool.false_eq_true, Nat.reduceEqDiff, Int.reduceEq, Int.reduceNeg, Int.reduceLT, Int.reduceLE, and_self, or_self]
    · have q2 : ¬ (u : Int) = 80 := by omega
      have q3 : d = 7 := by omega
      subst q3
      simp only [h9, chk_pos hch, e90, q2, e41, c7, hm, hf, bind_some', jn_eq, n32_0, n32_1, lt1_eq, reduceIte, not_true, not_false_eq_true, and_true, true_and, or_true, true_or, false_or, or_false, and_false, false_and, Bool.false_eq_true, Nat.reduceEqDiff, Int.reduceEq, Int.reduceNeg, Int.reduceLT, Int.reduceLE, and_self, or_self]
  · rcases hl with rfl | rfl | rfl | rfl | rfl
    · have h9 : ¬ n32 (R 81 8) = 4 := fun z => absurd (h84.mp z) (by decide)
      simp only [h9, chk_pos hch, e90, c80, e41, hm, hf, show n32 15 = 15 from rfl, bind_some', jn_eq, n32_0, n32_1, lt1_eq, reduceIte, not_true, not_false_eq_true, and_true, true_and, or_true, true_or, false_or, or_false, and_false, false_and, Bool.false_eq_true, Nat.reduceEqDiff, Int.reduceEq, Int.reduceNeg, Int.reduceLT, Int.reduceLE, and_self, or_self]
    · have h9 : ¬ n32 (R 81 8) = 4 := fun z => absurd (h84.mp z) (by decide)
      simp only [h9, chk_pos hch, e90, c80, e41, hm, hf, show n32 12 = 12 from rfl, bind_some', jn_eq, n32_0, n32_1, lt1_eq, reduceIte, not_true, not_false_eq_true, and_true, true_and, or_true, true_or, false_or, or_false, and_false, false_and, Bool.false_eq_true, Nat.reduceEqDiff, Int.reduceEq, Int.reduceNeg, Int.reduceLT, Int.reduceLE, and_self, or_self]
    · have h9 : ¬ n32 (R 81 8) = 4 := fun z => absurd (h84.mp z) (by decide)
      simp only [h9, chk_pos hch, e90, c80, e41, hm, hf, show n32 13 = 13 from rfl, bind_some', jn_eq, n32_0, n32_1, lt1_eq, reduceIte, not_true, not_false_eq_true, and_true, true_and, or_true, true_or, false_or, or_false, and_false, false_and, Bool.false_eq_true, Nat.reduceEqDiff, Int.reduceEq, Int.reduceNeg, Int.reduceLT, Int.reduceLE, and_self, or_self]
    · have h9 : ¬ n32 (R 81 8) = 4 := fun z => absurd (h84.mp z) (by decide)
      simp only [h9, chk_pos hch, e90, c80, e41, hm, hf, show n32 14 = 14 from rfl, bind_some', jn_eq, n32_0, n32_1, lt1_eq, reduceIte, not_true, not_false_eq_true, and_true, true_and, or_true, true_or, false_or, or_false, and_false, false_and, Bool.false_eq_true, Nat.reduceEqDiff, Int.reduceEq, Int.reduceNeg, Int.reduceLT, Int.reduceLE, and_self, or_self]
    · have h9 : n32 (R 81 8) = 4 := h84.mpr rfl
      simp only [h9, chk_pos hch, e90, c80, e41, hm, hf, show n32 11 = 11 from rfl, bind_some', jn_eq, n32_0, n32_1, lt1_eq, reduceIte, not_true, not_false_eq_true, and_true, true_and, or_true, true_or, false_or, or_false, and_false, false_and, Bool.false_eq_true, Nat.reduceEqDiff, Int.reduceEq, Int.reduceNeg, Int.reduceLT, Int.reduceLE, and_self, or_self]
  · unfold isL at k2
    have h9 : ¬ n32 (R 81 8) = 4 := fun z => k2 (by have := h84.mp z; omega)
    have k3 : kd ≠ 17 ∧ kd ≠ 18 ∧ kd ≠ 19 ∧ kd ≠ 20 := by omega
    simp only [h9, k1, k3, hm, hf, bind_some', jn_eq, n32_0, n32_1, lt1_eq, reduceIte, not_true, not_false_eq_true, and_true, true_and, or_true, true_or, false_or, or_false, and_false, false_and, Bool.false_eq_true, Nat.reduceEqDiff, Int.reduceEq, Int.reduceNeg, Int.reduceLT, Int.reduceLE, and_self, or_self]
theorem part_open_r (hB : TB n C R) {p m d u : Nat} (g : Gd n 40 p C R) (h41 : R 81 41 = (d : Int)) (hd : d < 7) (h39 : R 81 39 = (b : Int)) (hb : b < 2) (h90 : R 90 b = (u : Int)) (hu : u < 80) {R1 : Mem} (h1 : M_goOn (up R 90 b ((u + 1 : Nat) : Int)) = some R1) (h42 : R1 81 42 = (m : Int)) (h41' : R1 81 41 = (d : Int)) (hm : m < 118) : M_part R = some (1, opR m d 7 0 0 R1) := by
  obtain ⟨-, -, i16, i17, i18, i19, s40⟩ := unit_words hB g
  have gT := g.2.2.2.2.2
  have hch : 0 ≤ R 81 39 ∧ R 81 39 < 2 := by omega
  have hd7 : ¬ n32 (R 81 41) = 7 := by rw [h41, n32_nat (by omega)]; omega
  have e90 : ¬ n32 (R 90 (Int.toNat (R 81 39))) = 80 := by rw [h39, tn_nat, h90, n32_nat (by omega)]; omega
  obtain ⟨k8, k81, -, k83, -, -, k84, -⟩ := Tok_8 gT
  have h8 : ¬ n32 (R 81 8) = 4 := by rw [k81, n32_nat (by omega)]; omega
  have eu : up R 90 (Int.toNat (R 81 39)) ((R 90 (Int.toNat (R 81 39))) + 1) = up R 90 b ((u + 1 : Nat) : Int) := by rw [h39, tn_nat, h90]; rfl
  unfold M_part
  rw [s40, i17, i18, i19, i16]
  simp only [h8, chk_pos hch, e90, hd7, eu, h1, opens_eq h42 h41' hm, gd_good g.2.1.1, bind_some', jn_eq, n32_0, n32_1, lt1_eq, reduceIte, not_true, not_false_eq_true, and_true, true_and, or_true, true_or, false_or, or_false, and_false, false_and, Bool.false_eq_true, Nat.reduceEqDiff, Int.reduceEq, Int.reduceNeg, Int.reduceLT, Int.reduceLE, and_self, or_self]
  rfl
theorem part_leaf_r (hB : TB n C R) {kd p s u : Nat} (g : Gd n kd p C R) (hk : isL kd) (h39 : R 81 39 = (b : Int)) (hb : b < 2) (h90 : R 90 b = (u : Int)) (hu : u < 80) {R1 : Mem} (h1 : M_goOn (up R 90 b ((u + 1 : Nat) : Int)) = some R1) (h40 : R1 81 40 = ((900 * b + s : Nat) : Int)) (hs : s < 900) : M_part R = some (0, emR b s ((cL kd : Nat) : Int) (R 81 9) R1) := by
  obtain ⟨-, -, i16, i17, i18, i19, s40⟩ := unit_words hB g
  have gT := g.2.2.2.2.2
  have hch : 0 ≤ R 81 39 ∧ R 81 39 < 2 := by omega
  have e90 : ¬ n32 (R 90 (Int.toNat (R 81 39))) = 80 := by rw [h39, tn_nat, h90, n32_nat (by omega)]; omega
  obtain ⟨k8, k81, -, k83, -, -, k84, -⟩ := Tok_8 gT
  have h8 : n32 (R 81 8) = (k8 : Int) := by rw [k81, n32_nat (by omega)]
  have h84 : n32 (R 81 8) = 4 ↔ kd = 22 := by rw [h8, ← k84]; omega
  have eu : up R 90 (Int.toNat (R 81 39)) ((R 90 (Int.toNat (R 81 39))) + 1) = up R 90 b ((u + 1 : Nat) : Int) := by rw [h39, tn_nat, h90]; rfl
  have e9 : up R 90 b ((u + 1 : Nat) : Int) 81 9 = R 81 9 := up_c (by decide)
  unfold M_part
  rw [s40, i17, i18, i19, i16]
  rcases hk with rfl | rfl | rfl | rfl | rfl
  · have h9 : ¬ n32 (R 81 8) = 4 := fun z => absurd (h84.mp z) (by decide)
    simp only [h9, chk_pos hch, e90, eu, e9, h1, emit_eq2 h40 hb hs, gd_good g.2.1.1, show n32 15 = 15 from rfl, bind_some', jn_eq, n32_0, n32_1, lt1_eq, reduceIte, not_true, not_false_eq_true, and_true, true_and, or_true, true_or, false_or, or_false, and_false, false_and, Bool.false_eq_true, Nat.reduceEqDiff, Int.reduceEq, Int.reduceNeg, Int.reduceLT, Int.reduceLE, and_self, or_self]
    rfl
  · have h9 : ¬ n32 (R 81 8) = 4 := fun z => absurd (h84.mp z) (by decide)
    simp only [h9, chk_pos hch, e90, eu, e9, h1, emit_eq2 h40 hb hs, gd_good g.2.1.1, show n32 12 = 12 from rfl, bind_some', jn_eq, n32_0, n32_1, lt1_eq, reduceIte, not_true, not_false_eq_true, and_true, true_and, or_true, true_or, false_or, or_false, and_false, false_and, Bool.false_eq_true, Nat.reduceEqDiff, Int.reduceEq, Int.reduceNeg, Int.reduceLT, Int.reduceLE, and_self, or_self]
    rfl
  · have h9 : ¬ n32 (R 81 8) = 4 := fun z => absurd (h84.mp z) (by decide)
    simp only [h9, chk_pos hch, e90, eu, e9, h1, emit_eq2 h40 hb hs, gd_good g.2.1.1, show n32 13 = 13 from rfl, bind_some', jn_eq, n32_0, n32_1, lt1_eq, reduceIte, not_true, not_false_eq_true, and_true, true_and, or_true, true_or, false_or, or_false, and_false, false_and, Bool.false_eq_true, Nat.reduceEqDiff, Int.reduceEq, Int.reduceNeg, Int.reduceLT, Int.reduceLE, and_self, or_self]
    rfl
  · have h9 : ¬ n32 (R 81 8) = 4 := fun z => absurd (h84.mp z) (by decide)
    simp only [h9, chk_pos hch, e90, eu, e9, h1, emit_eq2 h40 hb hs, gd_good g.2.1.1, show n32 14 = 14 from rfl, bind_some', jn_eq, n32_0, n32_1, lt1_eq, reduceIte, not_true, not_false_eq_true, and_true, true_and, or_true, true_or, false_or, or_false, and_false, false_and, Bool.false_eq_true, Nat.reduceEqDiff, Int.reduceEq, Int.reduceNeg, Int.reduceLT, Int.reduceLE, and_self, or_self]
    rfl
  · have h9 : n32 (R 81 8) = 4 := h84.mpr rfl
    simp only [h9, chk_pos hch, e90, eu, e9, h1, emit_eq2 h40 hb hs, gd_good g.2.1.1, show n32 11 = 11 from rfl, bind_some', jn_eq, n32_0, n32_1, lt1_eq, reduceIte, not_true, not_false_eq_true, and_true, true_and, or_true, true_or, false_or, or_false, and_false, false_and, Bool.false_eq_true, Nat.reduceEqDiff, Int.reduceEq, Int.reduceNeg, Int.reduceLT, Int.reduceLE, and_self, or_self]
    rfl
end PART
