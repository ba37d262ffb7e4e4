/-! ===== expressions: a name is read ===== -/
def nmR (b s : Nat) (x c o : Int) (R : Mem) : Mem := up (up (up (up R 81 45 x) 106 (900 * b + s) c) 107 (900 * b + s) o) 81 40 ((900 * b + (s + 1) : Nat) : Int)
section NAME
variable {md t b n s0 bare : Nat} {C0 R0 C R : Mem}
theorem emit_eq {s : Nat} {x : Int} (h40 : R 81 40 = ((900 * b + s : Nat) : Int)) (hb : b < 2) (hs : s < 900) (c o : Int) : M_emit c o (up R 81 45 x) = some (nmR b s x c o R) := by
  unfold M_emit nmR
  rw [up_k (show (40 : Nat) ≠ 45 by decide), h40, chk_pos (by omega), lt1_eq, tn_nat, up_c (show (81 : Nat) ≠ 106 by decide), up_k (show (40 : Nat) ≠ 45 by decide), h40, chk_pos (by omega), lt1_eq, tn_nat, up_c (show (81 : Nat) ≠ 107 by decide), up_c (show (81 : Nat) ≠ 106 by decide), up_k (show (40 : Nat) ≠ 45 by decide), h40, lt1_eq]
  rfl
theorem XS_up {u s m d : Nat} (ht : isT t) (h : XS t b s0 C0 R0 u s m d C R) (hu : u < 80) : XS t b s0 C0 R0 (u + 1) s m d (up C t 5 ((u + 1 : Nat) : Int)) (up R 90 b ((u + 1 : Nat) : Int)) := by
  have ht2 : t = 3 ∨ t = 15 := ht
  obtain ⟨⟨f1, f2⟩, ⟨⟨n1, n2, n3⟩, ⟨n4, n5, n6⟩, n7, n8⟩, ⟨p1, p2, p3⟩, hs⟩ := h
  exact ⟨⟨fun a k z => by rw [up_at, if_neg (by omega)]; exact f1 a k z, fun a k z => by rw [up_at, if_neg (by omega)]; exact f2 a k z⟩, ⟨⟨up_eq, up_eq, by omega⟩, ⟨by rw [up_at, if_neg (by omega)]; exact n4, by rw [up_c (by decide)]; exact n5, n6⟩, by rw [up_c (by decide)]; exact n7, by rw [up_c (by decide)]; exact n8⟩, ⟨p1, by rw [up_c (by decide)]; exact p2, fun k z1 z2 => by rw [up_c (by decide)]; exact p3 k z1 z2⟩, hs⟩
theorem Gd_same {kd p : Nat} {C' R' : Mem} (g : Gd n kd p C R) (hc : ∀ k, C' 40 k = C 40 k) (hc2 : ∀ k, C' 2 k = C 2 k) (hr : ∀ k, 4 ≤ k → k ≤ 10 → R' 81 k = R 81 k) : Gd n kd p C' R' := by
  unfold Gd Tok at g ⊢
  simp only [hc, hc2]
  rw [hr 4 (by decide) (by decide), hr 5 (by decide) (by decide), hr 6 (by decide) (by decide), hr 7 (by decide) (by decide), hr 8 (by decide) (by decide), hr 9 (by decide) (by decide), hr 10 (by decide) (by decide)]
  exact g
theorem unit_name (hB : TB n C R) {p s u : Nat} (g : Gd n 21 p C R) (h39 : R 81 39 = (b : Int)) (hb : b < 2) (h90 : R 90 b = (u : Int)) (hu : u < 80) (h44 : R 81 44 = (bare : Int)) (hbare : bare ≤ 1) (h40 : R 81 40 = ((900 * b + s : Nat) : Int)) (hs : s < 900) {v w : Int} (hv : M_factHere (up R 90 b ((u + 1 : Nat) : Int)) = some v) (hw : M_rowHere (up R 90 b ((u + 1 : Nat) : Int)) = some w) : (∀ (i : Nat) (R1 : Mem), v = (i : Int) → i < 8 → M_goOn (nmR b s (if n32 (R 81 45) = 0 then 0 else 1) 1 (i : Int) (up R 90 b ((u + 1 : Nat) : Int))) = some R1 → M_unit R = some (0, R1)) ∧ (∀ (r y : Nat) (R1 : Mem), v = -1 → w = (r : Int) → r < 12 → R 92 (12 * b + r) = (y : Int) → y ≤ 1 → ¬ (bare = 1 ∧ y = 1) → M_goOn (nmR b s (if n32 (R 81 45) = 0 then (y : Int) else 1) 2 (r : Int) (up R 90 b ((u + 1 : Nat) : Int))) = some R1 → M_unit R = some (0, R1)) ∧ (v = -1 → (w = -1 ∨ ∃ r : Nat, w = (r : Int) ∧ r < 12 ∧ bare = 1 ∧ R 92 (12 * b + r) = 1) → M_unit R = some (1, up (up (up R 90 b ((u + 1 : Nat) : Int)) 81 4 5) 81 5 (p : Int))) := by
  obtain ⟨i14, i15, i16, -, -, -, s40⟩ := unit_words hB g
  have gT := g.2.2.2.2.2
  have hch : 0 ≤ R 81 39 ∧ R 81 39 < 2 := by omega
  have e90 : ¬ n32 (R 90 (Int.toNat (R 81 39))) = 80 := by rw [h39, tn_nat, h90, n32_nat (by omega)]; omega
  have h8 : n32 (R 81 8) = 2 := (Tok_2 gT).mpr rfl
  have eu : up R 90 (Int.toNat (R 81 39)) ((R 90 (Int.toNat (R 81 39))) + 1) = up R 90 b ((u + 1 : Nat) : Int) := by rw [h39, tn_nat, h90]; rfl
  generalize hR' : up R 90 b ((u + 1 : Nat) : Int) = R' at hv hw eu ⊢
  have o81 : ∀ k, R' 81 k = R 81 k := fun k => by rw [← hR', up_c (by decide)]
  have o92 : ∀ k, R' 92 k = R 92 k := fun k => by rw [← hR', up_c (by decide)]
  have hgd : R' 81 4 = 0 := (o81 4).trans g.2.1.1
  have h40' : R' 81 40 = ((900 * b + s : Nat) : Int) := (o81 40).trans h40
  have e44 : n32 (R' 81 44) = (bare : Int) := by rw [o81, h44, n32_nat (by omega)]
  have e45 : n32 (R' 81 45) = n32 (R 81 45) := by rw [o81]
  have e39 : R' 81 39 = (b : Int) := (o81 39).trans h39
  have nm1 : n32 (-1) = -1 := by decide
  refine ⟨fun i R1 hvi hi h1 => ?_, fun r y R1 hv1 hwr hr hy hy1 hby h1 => ?_, fun hv1 hw1 => ?_⟩
  · subst hvi
    have hi0 : ¬ n32 (i : Int) < 0 := by rw [n32_nat (by omega)]; omega
    unfold M_unit
    rw [i14, i15, i16, s40]
    by_cases q : n32 (R 81 45) = 0
    · rw [if_pos q] at h1
      have c1 : (0 : Int) = 0 ∨ (0 : Int) = 1 := Or.inl rfl
      simp only [h8, chk_pos hch, e90, eu, hv, hw, hi0, e45, q, gd_good hgd, gd_good g.2.1.1, chk_pos c1, emit_eq h40' hb hs, h1, bind_some', jn_eq, n32_0, n32_1, lt1_eq, reduceIte, not_true, not_false_eq_true, and_true, true_and, or_true, true_or, false_or, or_false, and_false, false_and, Bool.false_eq_true, Nat.reduceEqDiff, Int.reduceEq, and_self, or_self]
      exact chk_pos trivial
    · rw [if_neg q] at h1
      have c1 : (1 : Int) = 0 ∨ (1 : Int) = 1 := Or.inr rfl
      simp only [h8, chk_pos hch, e90, eu, hv, hw, hi0, e45, q, gd_good hgd, gd_good g.2.1.1, chk_pos c1, emit_eq h40' hb hs, h1, bind_some', jn_eq, n32_0, n32_1, lt1_eq, reduceIte, not_true, not_false_eq_true, and_true, true_and, or_true, true_or, false_or, or_false, and_false, false_and, Bool.false_eq_true, Nat.reduceEqDiff, Int.reduceEq, and_self, or_self]
      exact chk_pos trivial
  · subst hv1 hwr
    have hi0 : n32 (-1) < 0 := by decide
    have hr0 : 0 ≤ n32 (r : Int) := by rw [n32_nat (by omega)]; omega
    have hc2 : 0 ≤ (12 * (R' 81 39)) + (r : Int) ∧ (12 * (R' 81 39)) + (r : Int) < 24 := by rw [e39]; omega
    have e92 : n32 (R' 92 (Int.toNat ((12 * (R' 81 39)) + (r : Int)))) = (y : Int) := by
      rw [e39, show (12 * (b : Int)) + (r : Int) = ((12 * b + r : Nat) : Int) by omega, tn_nat, o92, hy, n32_nat (by omega)]
    unfold M_unit
    rw [i14, i15, i16, s40]
    have hyy : y = 0 ∨ y = 1 := by omega
    have hbb : bare = 0 ∨ bare = 1 := by omega
    have z0 : ((0 : Nat) : Int) = 0 := rfl
    have z1 : ((1 : Nat) : Int) = 1 := rfl
    have c0 : (0 : Int) = 0 ∨ (0 : Int) = 1 := Or.inl rfl
    have c1 : (1 : Int) = 0 ∨ (1 : Int) = 1 := Or.inr rfl
    by_cases q : n32 (R 81 45) = 0
    · rw [if_pos q] at h1
      rcases hyy with rfl | rfl
      · rw [z0] at h1
        rcases hbb with rfl | rfl
        · simp only [h8, chk_pos hch, e90, eu, hv, hw, hi0, hr0, chk_pos hc2, e92, e44, e45, q, z0, z1, gd_good hgd, gd_good g.2.1.1, chk_pos c0, chk_pos c1, emit_eq h40' hb hs, h1, bind_some', jn_eq, n32_0, n32_1, lt1_eq, reduceIte, not_true, not_false_eq_true, and_true, true_and, or_true, true_or, false_or, or_false, and_false, false_and, Bool.false_eq_true, Nat.reduceEqDiff, Int.reduceEq, and_self, or_self]
          exact chk_pos trivial
        · simp only [h8, chk_pos hch, e90, eu, hv, hw, hi0, hr0, chk_pos hc2, e92, e44, e45, q, z0, z1, gd_good hgd, gd_good g.2.1.1, chk_pos c0, chk_pos c1, emit_eq h40' hb hs, h1, bind_some', jn_eq, n32_0, n32_1, lt1_eq, reduceIte, not_true, not_false_eq_true, and_true, true_and, or_true, true_or, false_or, or_false, and_false, false_and, Bool.false_eq_true, Nat.reduceEqDiff, Int.reduceEq, and_self, or_self]
          exact chk_pos trivial
      · rw [z1] at h1
        rcases hbb with rfl | rfl
        · simp only [h8, chk_pos hch, e90, eu, hv, hw, hi0, hr0, chk_pos hc2, e92, e44, e45, q, z0, z1, gd_good hgd, gd_good g.2.1.1, chk_pos c0, chk_pos c1, emit_eq h40' hb hs, h1, bind_some', jn_eq, n32_0, n32_1, lt1_eq, reduceIte, not_true, not_false_eq_true, and_true, true_and, or_true, true_or, false_or, or_false, and_false, false_and, Bool.false_eq_true, Nat.reduceEqDiff, Int.reduceEq, and_self, or_self]
          exact chk_pos trivial
        · omega
    · rw [if_neg q] at h1
      rcases hyy with rfl | rfl
      · rcases hbb with rfl | rfl
        · simp only [h8, chk_pos hch, e90, eu, hv, hw, hi0, hr0, chk_pos hc2, e92, e44, e45, q, z0, z1, gd_good hgd, gd_good g.2.1.1, chk_pos c0, chk_pos c1, emit_eq h40' hb hs, h1, bind_some', jn_eq, n32_0, n32_1, lt1_eq, reduceIte, not_true, not_false_eq_true, and_true, true_and, or_true, true_or, false_or, or_false, and_false, false_and, Bool.false_eq_true, Nat.reduceEqDiff, Int.reduceEq, and_self, or_self]
          exact chk_pos trivial
        · simp only [h8, chk_pos hch, e90, eu, hv, hw, hi0, hr0, chk_pos hc2, e92, e44, e45, q, z0, z1, gd_good hgd, gd_good g.2.1.1, chk_pos c0, chk_pos c1, emit_eq h40' hb hs, h1, bind_some', jn_eq, n32_0, n32_1, lt1_eq, reduceIte, not_true, not_false_eq_true, and_true, true_and, or_true, true_or, false_or, or_false, and_false, false_and, Bool.false_eq_true, Nat.reduceEqDiff, Int.reduceEq, and_self, or_self]
          exact chk_pos trivial
      · rcases hbb with rfl | rfl
        · simp only [h8, chk_pos hch, e90, eu, hv, hw, hi0, hr0, chk_pos hc2, e92, e44, e45, q, z0, z1, gd_good hgd, gd_good g.2.1.1, chk_pos c0, chk_pos c1, emit_eq h40' hb hs, h1, bind_some', jn_eq, n32_0, n32_1, lt1_eq, reduceIte, not_true, not_false_eq_true, and_true, true_and, or_true, true_or, false_or, or_false, and_false, false_and, Bool.false_eq_true, Nat.reduceEqDiff, Int.reduceEq, and_self, or_self]
          exact chk_pos trivial
        · omega
  · subst hv1
    have hi0 : n32 (-1) < 0 := by decide
    have hm0 : ¬ (0 : Int) ≤ n32 (-1) := by decide
    have hff := gd_fails hgd 5 (R' 81 6)
    have h6 : R' 81 6 = (p : Int) := (o81 6).trans g.2.2.2.1
    have hfl := fl_good (up45_flt (R := R') (f := 5) (p := (p : Int)) (by decide) (by decide))
    rw [h6] at hff
    unfold M_unit
    rw [i14, i15, i16, s40]
    rcases hw1 with rfl | ⟨r, rfl, hr, rfl, hy⟩
    · simp only [h8, chk_pos hch, e90, eu, hv, hw, hi0, hm0, gd_good g.2.1.1, h6, hff, hfl, bind_some', jn_eq, n32_0, n32_1, lt1_eq, reduceIte, not_true, not_false_eq_true, and_true, true_and, or_true, true_or, false_or, or_false, and_false, false_and, Bool.false_eq_true, Nat.reduceEqDiff, Int.reduceEq, and_self, or_self]
    · have hr0 : 0 ≤ n32 (r : Int) := by rw [n32_nat (by omega)]; omega
      have hc2 : 0 ≤ (12 * (R' 81 39)) + (r : Int) ∧ (12 * (R' 81 39)) + (r : Int) < 24 := by rw [e39]; omega
      have e92 : n32 (R' 92 (Int.toNat ((12 * (R' 81 39)) + (r : Int)))) = 1 := by
        rw [e39, show (12 * (b : Int)) + (r : Int) = ((12 * b + r : Nat) : Int) by omega, tn_nat, o92, hy]
        rfl
      have z1 : ((1 : Nat) : Int) = 1 := rfl
      simp only [h8, chk_pos hch, e90, eu, hv, hw, hi0, hr0, chk_pos hc2, e92, e44, z1, gd_good g.2.1.1, h6, hff, hfl, bind_some', jn_eq, n32_0, n32_1, lt1_eq, reduceIte, not_true, not_false_eq_true, and_true, true_and, or_true, true_or, false_or, or_false, and_false, false_and, Bool.false_eq_true, Nat.reduceEqDiff, Int.reduceEq, and_self, or_self]
end NAME
