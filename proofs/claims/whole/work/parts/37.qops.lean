/-! ===== the small questions ===== -/
theorem two_pow8 {n : Nat} (h : n ≤ 8) : 2 ^ n ≤ 256 := Nat.le_trans (Nat.pow_le_pow_right (by omega) h) (by decide)
theorem pow_wd {n : Nat} (h : n ≤ 8) : 2 ^ n ≤ 64 * nwd n ∧ nwd n ≤ 4 ∧ 1 ≤ nwd n := by
  have : ∀ n, n < 9 → 2 ^ n ≤ 64 * nwd n ∧ nwd n ≤ 4 ∧ 1 ≤ nwd n := by decide
  exact this n (by omega)
theorem wd_pow {n : Nat} (h : n ≤ 8) (h6 : 6 ≤ n) : 64 * nwd n = 2 ^ n := by
  have : ∀ n, n < 9 → 6 ≤ n → 64 * nwd n = 2 ^ n := by decide
  exact this n (by omega) h6
theorem testBit_lt8 {s n p : Nat} (h : s < 2 ^ n) (hp : n ≤ p) : s.testBit p = false := Nat.testBit_lt_two_pow (Nat.lt_of_lt_of_le h (Nat.pow_le_pow_right (by omega) hp))
section NUM
variable {t b : Nat} {C R : Mem}
/-- the numbers of a town as natural numbers -/
theorem num_F (h : NumR t b C R) : R 84 b = (nF R b : Int) ∧ C t 0 = (nF R b : Int) ∧ nF R b ≤ 8 := by
  obtain ⟨⟨h1, h2, h3⟩, -⟩ := h
  unfold nF
  omega
theorem num_P (h : NumR t b C R) : R 85 b = (nP R b : Int) ∧ C t 1 = (nP R b : Int) ∧ nP R b ≤ 8 := by
  obtain ⟨-, ⟨h1, h2, h3⟩, -⟩ := h
  unfold nP
  omega
theorem num_R (h : NumR t b C R) : R 86 b = (nR R b : Int) ∧ C t 2 = (nR R b : Int) ∧ nR R b ≤ 12 := by
  obtain ⟨-, -, ⟨h1, h2, h3⟩, -⟩ := h
  unfold nR
  omega
theorem num_T (h : NumR t b C R) : R 88 b = (nT R b : Int) ∧ C t 3 = (nT R b : Int) ∧ nT R b ≤ 12 := by
  obtain ⟨-, -, -, ⟨h1, h2, h3⟩, -⟩ := h
  unfold nT
  omega
theorem num_W (h : NumR t b C R) : R 89 b = (nW R b : Int) ∧ C t 4 = (nW R b : Int) ∧ nW R b ≤ 12 := by
  obtain ⟨-, -, -, -, ⟨h1, h2, h3⟩, -⟩ := h
  unfold nW
  omega
/-! the reference's numbers -/
theorem M_worldMany_eq (hb : b < 2) (h38 : R 81 38 = (b : Int)) (h : NumR t b C R) : M_worldMany R = some ((2 ^ nF R b : Nat) : Int) := by
  have h1 := num_F h
  unfold M_worldMany M_factMany
  rw [h38, chk_pos (by omega), bind_some', tn_nat, h1.1, ishl_1 (by omega)]
theorem M_rowMany_eq (hb : b < 2) (h38 : R 81 38 = (b : Int)) (h : NumR t b C R) : M_rowMany R = some (nR R b : Int) := by
  unfold M_rowMany
  rw [h38, chk_pos (by omega), tn_nat, (num_R h).1]
theorem M_personMany_eq (hb : b < 2) (h38 : R 81 38 = (b : Int)) (h : NumR t b C R) : M_personMany R = some (nP R b : Int) := by
  unfold M_personMany
  rw [h38, chk_pos (by omega), tn_nat, (num_P h).1]
theorem M_isIn_eq (v lo hi : Int) (M : Mem) (h1 : n32 v = v) (h2 : n32 lo = lo) (h3 : n32 hi = hi) : M_isIn v lo hi M = some (if lo ≤ v ∧ v ≤ hi then 1 else 0) := by
  unfold M_isIn
  rw [h1, h2, h3]
  split <;> rfl
theorem M_isRow_eq (hb : b < 2) (h38 : R 81 38 = (b : Int)) (h : NumR t b C R) {r : Int} (hr : n32 r = r) : M_isRow r R = some (if 0 ≤ r ∧ r < (nR R b : Int) then 1 else 0) := by
  have h1 := num_R h
  unfold M_isRow
  rw [M_rowMany_eq hb h38 h, bind_some', M_isIn_eq _ _ _ _ hr rfl (n32_of (by omega) (by omega)), bind_some', chk_pos (by split <;> simp)]
  by_cases q : 0 ≤ r ∧ r < (nR R b : Int)
  · rw [if_pos q, if_pos (by omega)]
  · rw [if_neg q, if_neg (by omega)]
theorem M_isPerson_eq (hb : b < 2) (h38 : R 81 38 = (b : Int)) (h : NumR t b C R) {r : Int} (hr : n32 r = r) : M_isPerson r R = some (if 0 ≤ r ∧ r < (nP R b : Int) then 1 else 0) := by
  have h1 := num_P h
  unfold M_isPerson
  rw [M_personMany_eq hb h38 h, bind_some', M_isIn_eq _ _ _ _ hr rfl (n32_of (by omega) (by omega)), bind_some', chk_pos (by split <;> simp)]
  by_cases q : 0 ≤ r ∧ r < (nP R b : Int)
  · rw [if_pos q, if_pos (by omega)]
  · rw [if_neg q, if_neg (by omega)]
/-- a world of base -/
def wOK (R : Mem) (b : Nat) (w : Int) : Prop := 0 ≤ w ∧ w < ((2 ^ nF R b : Nat) : Int) ∧ isB R w.toNat = true
theorem M_isWorld_eq (hb : b < 2) (h38 : R 81 38 = (b : Int)) (h : NumR t b C R) (hB : BaseR t b C R) {w : Int} (hw : n32 w = w) : (wOK R b w ∧ M_isWorld w R = some 1) ∨ (¬ wOK R b w ∧ M_isWorld w R = some 0) := by
  have h1 := num_F h
  have h2 := two_pow8 h1.2.2
  have hp2 := Nat.two_pow_pos (nF R b)
  unfold M_isWorld
  rw [M_worldMany_eq hb h38 h, bind_some', M_isIn_eq _ _ _ _ hw rfl (n32_of (by omega) (by omega)), bind_some']
  by_cases q : 0 ≤ w ∧ w < ((2 ^ nF R b : Nat) : Int)
  · rw [if_pos (by omega : 0 ≤ w ∧ w ≤ ((2 ^ nF R b : Nat) : Int) - 1), if_pos (by decide), chk_pos (by omega)]
    rcases hB.1 w.toNat (by omega) with e | e
    · rw [e, if_neg (by decide)]
      refine Or.inr ⟨fun k => ?_, rfl⟩
      have := k.2.2
      unfold isB at this
      rw [e] at this
      exact absurd this (by decide)
    · rw [e, if_pos (by decide)]
      refine Or.inl ⟨⟨q.1, q.2, ?_⟩, rfl⟩
      unfold isB
      rw [e]; rfl
  · rw [if_neg (by omega : ¬ (0 ≤ w ∧ w ≤ ((2 ^ nF R b : Nat) : Int) - 1)), if_neg (by decide)]
    exact Or.inr ⟨fun k => q ⟨k.1, k.2.1⟩, rfl⟩
theorem M_answerAt_eq {p r w : Nat} (hp : p < 8) (hr : r < 12) (hw : w < 256) : M_answerAt (p : Int) (r : Int) (w : Int) R = some (ansV R p r w) := by
  unfold M_answerAt
  rw [chk_pos (by omega), show Int.toNat (256 * (12 * (p : Int) + (r : Int)) + (w : Int)) = 256 * (12 * p + r) + w from by omega]
  rfl
/-! the class's -/
theorem T_hasRow_eq (h : NumR t b C R) {r : Int} (hr : n32 r = r) : T_hasRow t r C = some (if 0 ≤ r ∧ r < (nR R b : Int) then 1 else 0) := by
  have h1 := num_R h
  unfold T_hasRow
  rw [hr, h1.2.1, n32_nat (by omega)]
  split <;> rfl
theorem T_hasPerson_eq (h : NumR t b C R) {r : Int} (hr : n32 r = r) : T_hasPerson t r C = some (if 0 ≤ r ∧ r < (nP R b : Int) then 1 else 0) := by
  have h1 := num_P h
  unfold T_hasPerson
  rw [hr, h1.2.1, n32_nat (by omega)]
  split <;> rfl
theorem T_hasWorld_eq (ht : isT t) (h : NumR t b C R) (hB : BaseR t b C R) {w : Int} (hw : n32 w = w) : (wOK R b w ∧ T_hasWorld t w C = some 1) ∨ (¬ wOK R b w ∧ T_hasWorld t w C = some 0) := by
  have h1 := num_F h
  have h2 := two_pow8 h1.2.2
  have hp2 := Nat.two_pow_pos (nF R b)
  have h3 := pow_wd h1.2.2
  unfold T_hasWorld
  rw [h1.2.1, ishl_1 (by omega), hw, n32_nat (by omega)]
  by_cases q : 0 ≤ w ∧ w < ((2 ^ nF R b : Nat) : Int)
  · rw [if_pos q.1, if_pos q.2]
    obtain ⟨v, rfl⟩ : ∃ v : Nat, w = (v : Int) := ⟨w.toNat, by omega⟩
    have e : X_has (t + 8) 0 (v : Int) C = _ := X_has_eq (o := 0) C (aJ1 ht).1 (w := v) (by omega) (by omega)
    rw [e, hB.2.2 v (by omega), bind_some']
    by_cases k : isB R v = true
    · rw [if_pos k, if_pos (by decide)]
      exact Or.inl ⟨⟨q.1, q.2, k⟩, rfl⟩
    · rw [if_neg k, if_neg (by decide)]
      exact Or.inr ⟨fun z => k z.2.2, rfl⟩
  · refine Or.inr ⟨fun k => q ⟨k.1, k.2.1⟩, ?_⟩
    by_cases q1 : 0 ≤ w
    · rw [if_pos q1, if_neg (fun q2 => q ⟨q1, q2⟩)]; rfl
    · rw [if_neg q1]; rfl
/-- a row, a world of base -/
def rwOK (R : Mem) (b : Nat) (r w : Int) : Prop := (0 ≤ r ∧ r < (nR R b : Int)) ∧ wOK R b w
theorem T_canBe_eq (ht : isT t) (h : NumR t b C R) (hB : BaseR t b C R) {r w : Int} (hr : n32 r = r) (hw : n32 w = w) : (rwOK R b r w ∧ T_canBe t r w C = some 1) ∨ (¬ rwOK R b r w ∧ T_canBe t r w C = some 0) := by
  unfold T_canBe
  rw [T_hasRow_eq h hr, bind_some']
  by_cases q : 0 ≤ r ∧ r < (nR R b : Int)
  · rw [if_pos q, if_pos (by decide)]
    rcases T_hasWorld_eq ht h hB hw with ⟨k, e⟩ | ⟨k, e⟩
    · rw [e]; exact Or.inl ⟨⟨q, k⟩, rfl⟩
    · rw [e]; exact Or.inr ⟨fun z => k z.2, rfl⟩
  · rw [if_neg q, if_neg (by decide)]
    exact Or.inr ⟨fun z => q z.1, rfl⟩
theorem T_isSo_eq (ht : isT t) (h : NumR t b C R) (hR : RowR t b C R) {r w : Nat} (hr : r < nR R b) (hw : w < 2 ^ nF R b) (hb : isB R w = true) : T_isSo t (r : Int) (w : Int) C = some (if rowI R r w = true then 1 else 0) := by
  have h1 := num_F h
  have h2 := two_pow8 h1.2.2
  have hp2 := Nat.two_pow_pos (nF R b)
  have h3 := num_R h
  unfold T_isSo
  have e := X_has_eq (c := t + 9) (o := 4 * r) (w := w) C (aJ1 ht).2.1 (by omega) (by omega)
  rw [show ((4 * r : Nat) : Int) = (r : Int) * 4 from by omega] at e
  rw [e, (hR r w hr hw hb).2, bind_some', chk_pos (by split <;> simp)]
theorem T_answer_eq (ht : isT t) (h : NumR t b C R) (hA : AnsR t b C R) {p r w : Nat} (hp : p < nP R b) (hr : r < nR R b) (hw : w < 2 ^ nF R b) (hb : isB R w = true) : T_answer t (p : Int) (r : Int) (w : Int) C = some (ansV R p r w) := by
  have h1 := num_F h
  have h2 := two_pow8 h1.2.2
  have hp2 := Nat.two_pow_pos (nF R b)
  have h3 := num_R h
  have h4 := num_P h
  have h5 := pow_wd h1.2.2
  obtain ⟨k1, k2, k3⟩ := hA p r w hp hr (by omega)
  unfold T_answer T_place
  rw [bind_some']
  have e1 := X_has_eq (c := t + 10) (o := 4 * (12 * p + r)) (w := w) C (aJ1 ht).2.2.1 (by omega) (by omega)
  have e2 := X_has_eq (c := t + 11) (o := 4 * (12 * p + r)) (w := w) C (aJ1 ht).2.2.2 (by omega) (by omega)
  rw [show ((4 * (12 * p + r) : Nat) : Int) = ((p : Int) * 12 + (r : Int)) * 4 from by omega] at e1 e2
  rw [e1, e2, k2, k3, hb, bind_some', bind_some']
  rcases k1 hb with e | e | e <;> rw [e] <;> rfl
end NUM
theorem nz1 : ¬ n32 1 = 0 := by decide
theorem nz0 : ¬ ¬ n32 0 = 0 := by decide
