/-! ===== tokens: the reference's loops ===== -/
def TXr (n : Nat) (C R : Mem) : Prop := R 81 3 = (n : Int) ∧ ∀ i, i < n → R 83 i = C 2 i
theorem jor_nat {a b : Nat} (ha : a < 2 ^ 63) (hb : b < 2 ^ 63) : jor (a : Int) (b : Int) = ((a ||| b : Nat) : Int) := by
  have h : (Int64.ofInt (a : Int) ||| Int64.ofInt (b : Int)).toBitVec.toNat = a ||| b := by
    rw [Int64.toBitVec_or, Int64.toBitVec_ofInt, Int64.toBitVec_ofInt, BitVec.toNat_or, bv_nat (by omega), bv_nat (by omega)]
  have h2 : a ||| b < 2 ^ 63 := Nat.or_lt_two_pow ha hb
  unfold jor
  show (Int64.ofInt (a : Int) ||| Int64.ofInt (b : Int)).toBitVec.toInt = _
  rw [BitVec.toInt_eq_toNat_cond, if_pos (by rw [h]; omega), h]
theorem jshl8_nat {a : Nat} (ha : a < 2 ^ 55) : jshl (a : Int) 8 = ((256 * a : Nat) : Int) := by
  have e := bv_shl (a : Int) (k := 8) (by omega)
  have h : (BitVec.ofInt 64 (a : Int) <<< 8).toNat = 256 * a := by
    rw [BitVec.toNat_shiftLeft, bv_nat (by omega), Nat.shiftLeft_eq]
    omega
  have h2 : jshl (a : Int) 8 = (BitVec.ofInt 64 (jshl (a : Int) 8)).toInt := by
    unfold jshl
    rw [bvj]
    rfl
  rw [h2]
  rw [show ((8 : Nat) : Int) = 8 from rfl] at e
  rw [e, BitVec.toInt_eq_toNat_cond, if_pos (by rw [h]; omega), h]
theorem add_let {x y : Nat} (hx : x < 2 ^ 55) (hy : y < 128) : jor (jshl (x : Int) 8) (n32 (y : Int)) = ((256 * x + y : Nat) : Int) := by
  rw [jshl8_nat hx, n32_nat (by omega), jor_nat (by omega) (by omega)]
  congr 1
  have := Nat.shiftLeft_add_eq_or_of_lt (b := y) (i := 8) (by omega) x
  rw [Nat.shiftLeft_eq] at this
  rw [show 256 * x = x * 2 ^ 8 by omega]
  exact this.symm
section LEXR
variable {n : Nat} {C R : Mem}
theorem TXr_keep {M : Mem} (h : TXr n C R) (f : ∀ c j, ¬ (c = 81 ∧ 6 ≤ j ∧ j ≤ 10) → M c j = R c j) : TXr n C M := ⟨by rw [f _ _ (by omega)]; exact h.1, fun i hi => by rw [f _ _ (by omega)]; exact h.2 i hi⟩
theorem sign_eq (hT : TXc n C) (h : TXr n C R) (k : Nat) (hk : k < 2000) : M_sign (k : Int) R = some (if k < n then u8 (C 2 k) else 0) := by
  unfold M_sign
  rw [h.1, n32_nat (by omega), n32_nat (by have := hT.1; omega)]
  by_cases q : k < n
  · obtain ⟨t1, t2⟩ := hT.2.2 k q
    rw [if_pos (by omega), if_pos q, chk_pos (by have := hT.1; omega), tn_nat, h.2 k q, u8_eq t1 t2]
  · rw [if_neg (by omega), if_neg q]
theorem sg_cls (hT : TXc n C) (k : Nat) (M : Mem) : M_isLetter (if k < n then u8 (C 2 k) else 0) M = some (b1 (decide (k < n) && isLe (C 2 k))) ∧ M_isDigit (if k < n then u8 (C 2 k) else 0) M = some (b1 (decide (k < n) && isDi (C 2 k))) ∧ M_isSign (if k < n then u8 (C 2 k) else 0) M = some (b1 (decide (k < n) && isSg (C 2 k))) := by
  by_cases q : k < n
  · obtain ⟨t1, t2⟩ := hT.2.2 k q
    rw [if_pos q, decide_eq_true q, Bool.true_and, Bool.true_and, Bool.true_and]
    have hu : -128 ≤ u8 (C 2 k) ∧ u8 (C 2 k) < 256 := by unfold u8; split <;> omega
    obtain ⟨-, -, -, -, k5, k6, k7⟩ := K_bl hu.1 hu.2 M
    obtain ⟨z1, z2, z3, z4⟩ := u8_bl t1 t2
    rw [k5, k6, k7, z2, z3, z4]
    exact ⟨rfl, rfl, rfl⟩
  · rw [if_neg q, decide_eq_false q]
    exact ⟨rfl, rfl, rfl⟩
theorem r_blank (hT : TXc n C) (h : TXr n C R) {a k : Nat} (h6 : R 81 6 = (a : Int)) (hr : Run n C isBl a k) : Z (it M_goOn_b8 FUEL R) (fun M => M 81 6 = ((a + k : Nat) : Int) ∧ ∀ c j, ¬ (c = 81 ∧ j = 6) → M c j = R c j) := by
  have hn := hT.1
  have hk := hr.1
  refine it_Z (fun i M => M 81 6 = ((a + i : Nat) : Int) ∧ ∀ c j, ¬ (c = 81 ∧ j = 6) → M c j = R c j) k (by unfold FUEL; omega) ⟨h6, fun _ _ _ => rfl⟩ ?_ ?_
  · rintro i M hi ⟨e, f⟩
    have hlt := Run_lt hr hi
    obtain ⟨t1, t2⟩ := hT.2.2 _ hlt
    have hM := TXr_keep (M := M) h (fun c j z => f c j (by omega))
    have hb := hr.2.1 i hi
    obtain ⟨z1, -⟩ := u8_bl t1 t2
    rw [← z1] at hb
    unfold isBl at hb
    rw [Bool.or_eq_true, decide_eq_true_eq, decide_eq_true_eq] at hb
    unfold M_goOn_b8
    dsimp only
    rw [e, hM.1, n32_nat (by omega), n32_nat (by omega), if_pos (by omega), sign_eq hT hM _ (by omega), if_pos hlt, bind_some', bind_some']
    have e2 : (if ¬ n32 (u8 (C 2 (a + i))) = 32 then (if n32 (u8 (C 2 (a + i))) = 10 then some true else some false) else some true) = some true := by
      rcases hb with z | z <;> rw [z] <;> rfl
    rw [e2, bind_some', if_pos rfl, lt1_eq]
    refine Z_of (Or.inl ⟨_, rfl, by rw [up_eq]; omega, fun c j z => by rw [up_at, if_neg z]; exact f c j z⟩)
  · rintro M ⟨e, f⟩
    have hM := TXr_keep (M := M) h (fun c j z => f c j (by omega))
    unfold M_goOn_b8
    dsimp only
    rw [e, hM.1, n32_nat (by omega), n32_nat (by omega)]
    by_cases q : a + k < n
    · obtain ⟨t1, t2⟩ := hT.2.2 _ q
      have hb := hr.2.2 q
      obtain ⟨z1, -⟩ := u8_bl t1 t2
      rw [← z1] at hb
      unfold isBl at hb
      rw [Bool.or_eq_false_iff, decide_eq_false_iff_not, decide_eq_false_iff_not] at hb
      have hu : -128 ≤ u8 (C 2 (a + k)) ∧ u8 (C 2 (a + k)) < 256 := by unfold u8; split <;> omega
      rw [if_pos (by omega), sign_eq hT hM _ (by omega), if_pos q, bind_some', bind_some', n32_of (by omega) (by omega), if_pos hb.1, if_neg hb.2, bind_some', if_neg (by decide)]
      exact Z_of ⟨_, rfl, e, f⟩
    · rw [if_neg (by omega)]
      exact Z_of ⟨_, rfl, e, f⟩
theorem r_wend (hT : TXc n C) (h : TXr n C R) {p L : Nat} (h7 : R 81 7 = ((p + 1 : Nat) : Int)) (hL : 0 < L) (hr : Run n C isLe p L) : Z (it M_goOn_b119 FUEL R) (fun M => M 81 7 = ((p + L : Nat) : Int) ∧ ∀ c j, ¬ (c = 81 ∧ j = 7) → M c j = R c j) := by
  have hn := hT.1
  have hk := hr.1
  refine it_Z (fun i M => M 81 7 = ((p + 1 + i : Nat) : Int) ∧ ∀ c j, ¬ (c = 81 ∧ j = 7) → M c j = R c j) (L - 1) (by unfold FUEL; omega) ⟨h7, fun _ _ _ => rfl⟩ ?_ ?_
  · rintro i M hi ⟨e, f⟩
    have hlt := Run_lt hr (j := 1 + i) (by omega)
    have hM := TXr_keep (M := M) h (fun c j z => f c j (by omega))
    have hb := hr.2.1 (1 + i) (by omega)
    rw [← Nat.add_assoc] at hb hlt
    unfold M_goOn_b119
    dsimp only
    rw [e, sign_eq hT hM _ (by omega), bind_some', (sg_cls hT _ M).1, decide_eq_true hlt, hb, bind_some', show b1 (true && true) = 1 from rfl, if_pos nz1, lt1_eq]
    refine Z_of (Or.inl ⟨_, rfl, by rw [up_eq]; omega, fun c j z => by rw [up_at, if_neg z]; exact f c j z⟩)
  · rintro M ⟨e, f⟩
    have hM := TXr_keep (M := M) h (fun c j z => f c j (by omega))
    rw [show p + 1 + (L - 1) = p + L by omega] at e
    unfold M_goOn_b119
    dsimp only
    have hz : (decide (p + L < n) && isLe (C 2 (p + L))) = false := by
      by_cases q : p + L < n
      · rw [hr.2.2 q, Bool.and_false]
      · rw [decide_eq_false q]; rfl
    rw [e, sign_eq hT hM _ (by omega), bind_some', (sg_cls hT _ M).1, hz, bind_some', show b1 false = 0 from rfl, if_neg nz0]
    exact Z_of ⟨_, rfl, e, f⟩
theorem r_wname (hT : TXc n C) (h : TXr n C R) {p L : Nat} (h6 : R 81 6 = (p : Int)) (h7 : R 81 7 = ((p + L : Nat) : Int)) (h10 : R 81 10 = 0) (hr : Run n C isLe p L) : Z (it M_goOn_b156 FUEL ((p : Int), R)) (fun M => (L ≤ 8 → M 81 10 = ((w256 (nmN C p L) : Nat) : Int)) ∧ ∀ c j, ¬ (c = 81 ∧ j = 10) → M c j = R c j) := by
  have hn := hT.1
  have hk := hr.1
  refine it_Z (fun i st => st.1 = ((p + i : Nat) : Int) ∧ st.2 81 10 = ((w256 (nmN C p i) : Nat) : Int) ∧ ∀ c j, ¬ (c = 81 ∧ j = 10) → st.2 c j = R c j) (min L 8) (by unfold FUEL; omega) ⟨rfl, by rw [show nmN C p 0 = 0 from rfl, w256_0]; exact h10, fun _ _ _ => rfl⟩ ?_ ?_
  · rintro i ⟨l, M⟩ hi ⟨el, e, f⟩
    dsimp only at el e f
    subst el
    have hlt := Run_lt hr (j := i) (by omega)
    obtain ⟨t1, t2⟩ := hT.2.2 _ hlt
    have hM := TXr_keep (M := M) h (fun c j z => f c j (by omega))
    have hb := hr.2.1 i (by omega)
    unfold isLe at hb
    rw [decide_eq_true_eq] at hb
    have hlt2 : nmN C p i < 32 ^ i := nmN_lt hr i (by omega)
    have hw : w256 (nmN C p i) < 2 ^ 55 := by
      have := w256_lt 6 (nmN C p i) (Nat.lt_of_lt_of_le hlt2 (Nat.pow_le_pow_right (by omega) (by omega)))
      rw [show (128 : Nat) * 256 ^ 6 = 2 ^ 55 by decide] at this
      exact this
    unfold M_goOn_b156
    dsimp only
    rw [f 81 7 (by omega), h7, f 81 6 (by omega), h6, show (p : Int) + 8 = ((p + 8 : Nat) : Int) by omega, n32_nat (by omega), n32_nat (by omega), n32_nat (by omega), if_pos (by omega), sign_eq hT hM _ (by omega), if_pos hlt, bind_some', lt1_eq, lt1_eq, e]
    have eu : u8 (C 2 (p + i)) = (((C 2 (p + i)).toNat : Nat) : Int) := by
      unfold u8
      rw [if_pos (by omega)]
      omega
    rw [eu, add_let hw (by omega)]
    refine Z_of (Or.inl ⟨_, rfl, by dsimp only; omega, ?_, fun c j z => by dsimp only; rw [up_at, if_neg z]; exact f c j z⟩)
    dsimp only
    rw [up_eq]
    have e9 := w256_s (m := nmN C p i) (d := (C 2 (p + i) - 96).toNat) (by omega) (by omega)
    show _ = ((w256 (32 * nmN C p i + (C 2 (p + i) - 96).toNat) : Nat) : Int)
    rw [e9]
    omega
  · rintro ⟨l, M⟩ ⟨el, e, f⟩
    dsimp only at el e f
    subst el
    unfold M_goOn_b156
    dsimp only
    rw [f 81 7 (by omega), h7, f 81 6 (by omega), h6, show (p : Int) + 8 = ((p + 8 : Nat) : Int) by omega, n32_nat (by omega), n32_nat (by omega), n32_nat (by omega), if_neg (by omega)]
    refine Z_of ⟨_, rfl, fun h8 => ?_, f⟩
    rw [Nat.min_eq_left h8] at e
    exact e
theorem r_num (hT : TXc n C) (h : TXr n C R) {p L : Nat} (h6 : R 81 6 = (p : Int)) (h7 : R 81 7 = (p : Int)) (h9 : R 81 9 = 0) (hr : Run n C isDi p L) : Z (it M_goOn_b259 FUEL R) (fun M => M 81 7 = ((p + L : Nat) : Int) ∧ (L ≤ 4 → M 81 9 = ((vlN C p L : Nat) : Int)) ∧ ∀ c j, ¬ (c = 81 ∧ (j = 7 ∨ j = 9)) → M c j = R c j) := by
  have hn := hT.1
  have hk := hr.1
  refine it_Z (fun i M => M 81 7 = ((p + i : Nat) : Int) ∧ (i ≤ 4 → M 81 9 = ((vlN C p i : Nat) : Int)) ∧ ∀ c j, ¬ (c = 81 ∧ (j = 7 ∨ j = 9)) → M c j = R c j) L (by unfold FUEL; omega) ⟨h7, fun _ => h9, fun _ _ _ => rfl⟩ ?_ ?_
  · rintro i M hi ⟨e, e9, f⟩
    have hlt := Run_lt hr (j := i) (by omega)
    obtain ⟨t1, t2⟩ := hT.2.2 _ hlt
    have hM := TXr_keep (M := M) h (fun c j z => f c j (by omega))
    have hb := hr.2.1 i (by omega)
    have hb2 := hb
    unfold isDi at hb2
    rw [decide_eq_true_eq] at hb2
    unfold M_goOn_b259
    dsimp only
    rw [e, sign_eq hT hM _ (by omega), bind_some', (sg_cls hT _ M).2.1, decide_eq_true hlt, hb, bind_some', show b1 (true && true) = 1 from rfl, if_pos nz1, f 81 6 (by omega), h6, show ((p + i : Nat) : Int) - (p : Int) = (i : Int) by omega, n32_nat (by omega), if_pos hlt]
    by_cases q : i < 4
    · rw [if_pos (by omega), bind_some', lt1_eq, bind_some', lt1_eq, e9 (by omega)]
      refine Z_of (Or.inl ⟨_, rfl, by rw [up_eq, up_k (by decide), e]; omega, fun _ => ?_, fun c j z => by rw [up_at, if_neg (by omega), up_at, if_neg (by omega)]; exact f c j z⟩)
      rw [up_k (by decide), up_eq]
      show _ = ((10 * vlN C p i + (C 2 (p + i) - 48).toNat : Nat) : Int)
      unfold u8
      rw [if_pos (by omega)]
      omega
    · rw [if_neg (by omega), bind_some', lt1_eq]
      refine Z_of (Or.inl ⟨_, rfl, by rw [up_eq, e]; omega, fun z => by omega, fun c j z => by rw [up_at, if_neg (by omega)]; exact f c j z⟩)
  · rintro M ⟨e, e9, f⟩
    have hM := TXr_keep (M := M) h (fun c j z => f c j (by omega))
    unfold M_goOn_b259
    dsimp only
    have hz : (decide (p + L < n) && isDi (C 2 (p + L))) = false := by
      by_cases q : p + L < n
      · rw [hr.2.2 q, Bool.and_false]
      · rw [decide_eq_false q]; rfl
    rw [e, sign_eq hT hM _ (by omega), bind_some', (sg_cls hT _ M).2.1, hz, bind_some', show b1 false = 0 from rfl, if_neg nz0]
    exact Z_of ⟨_, rfl, e, e9, f⟩
end LEXR
