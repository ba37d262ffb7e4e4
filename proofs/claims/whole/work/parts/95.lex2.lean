/-! ===== tokens: the class's loops ===== -/
def TXc (n : Nat) (C : Mem) : Prop := n ≤ 1600 ∧ C 40 2 = (n : Int) ∧ ∀ i, i < n → -128 ≤ C 2 i ∧ C 2 i < 128
/-- a run of k signs from a on, all with f, and none behind -/
def Run (n : Nat) (C : Mem) (f : Int → Bool) (a k : Nat) : Prop := a + k ≤ n ∧ (∀ j, j < k → f (C 2 (a + j)) = true) ∧ (a + k < n → f (C 2 (a + k)) = false)
theorem Run_ex {n : Nat} {C : Mem} {f : Int → Bool} {a : Nat} (ha : a ≤ n) : ∃ k, Run n C f a k := by
  obtain ⟨k, h1, h2, h3⟩ := ex_run (fun j => decide (a + j < n) && f (C 2 (a + j))) (N := n - a) (by rw [decide_eq_false (by omega)]; rfl)
  refine ⟨k, by omega, fun j hj => ?_, fun h => ?_⟩
  · have := h2 j hj
    rw [Bool.and_eq_true] at this
    exact this.2
  · rw [decide_eq_true h, Bool.true_and] at h3
    exact h3
theorem Run_lt {n : Nat} {C : Mem} {f : Int → Bool} {a k : Nat} (h : Run n C f a k) {j : Nat} (hj : j < k) : a + j < n := by
  have := h.1
  omega
def nmN (C : Mem) (p : Nat) : Nat → Nat
  | 0 => 0
  | k + 1 => 32 * nmN C p k + (C 2 (p + k) - 96).toNat
def vlN (C : Mem) (p : Nat) : Nat → Nat
  | 0 => 0
  | k + 1 => 10 * vlN C p k + (C 2 (p + k) - 48).toNat
theorem nmN_lt {n p : Nat} {C : Mem} {L : Nat} (h : Run n C isLe p L) : ∀ k, k ≤ L → nmN C p k < 32 ^ k
  | 0, _ => by show 0 < 1; omega
  | k + 1, hk => by
    have h1 := nmN_lt h k (by omega)
    have h2 := h.2.1 k (by omega)
    unfold isLe at h2
    rw [decide_eq_true_eq] at h2
    show 32 * nmN C p k + (C 2 (p + k) - 96).toNat < 32 ^ (k + 1)
    rw [Nat.pow_succ]
    omega
theorem vlN_lt {n p : Nat} {C : Mem} {L : Nat} (h : Run n C isDi p L) : ∀ k, k ≤ L → vlN C p k < 10 ^ k
  | 0, _ => by show 0 < 1; omega
  | k + 1, hk => by
    have h1 := vlN_lt h k (by omega)
    have h2 := h.2.1 k (by omega)
    unfold isDi at h2
    rw [decide_eq_true_eq] at h2
    show 10 * vlN C p k + (C 2 (p + k) - 48).toNat < 10 ^ (k + 1)
    rw [Nat.pow_succ]
    omega
section LEXC
variable {n : Nat} {C : Mem}
theorem c_blank (hT : TXc n C) {a k : Nat} (h3 : C 40 3 = (a : Int)) (hr : Run n C isBl a k) : Z (it K_pass_b10 FUEL C) (fun M => M 40 3 = ((a + k : Nat) : Int) ∧ ∀ c j, ¬ (c = 40 ∧ j = 3) → M c j = C c j) := by
  obtain ⟨hn, h2, ht⟩ := hT
  have hk := hr.1
  refine it_Z (fun i M => M 40 3 = ((a + i : Nat) : Int) ∧ ∀ c j, ¬ (c = 40 ∧ j = 3) → M c j = C c j) k (by unfold FUEL; omega) ⟨h3, fun _ _ _ => rfl⟩ ?_ ?_
  · rintro i M hi ⟨e, f⟩
    have hlt := Run_lt hr hi
    obtain ⟨t1, t2⟩ := ht _ hlt
    unfold K_pass_b10
    dsimp only
    rw [e, f 40 2 (by omega), h2, n32_nat (by omega), n32_nat (by omega), if_pos (by omega), chk_pos (by omega), tn_nat, f 2 _ (by omega), (K_bl t1 (by omega) M).1, hr.2.1 i hi, bind_some', show b1 true = 1 from rfl, if_pos nz1, bind_some', if_pos rfl, lt1_eq]
    refine Z_of (Or.inl ⟨_, rfl, by rw [up_eq]; omega, fun c j z => by rw [up_at, if_neg z]; exact f c j z⟩)
  · rintro M ⟨e, f⟩
    unfold K_pass_b10
    dsimp only
    rw [e, f 40 2 (by omega), h2, n32_nat (by omega), n32_nat (by omega)]
    by_cases q : a + k < n
    · obtain ⟨t1, t2⟩ := ht _ q
      rw [if_pos (by omega), chk_pos (by omega), tn_nat, f 2 _ (by omega), (K_bl t1 (by omega) M).1, hr.2.2 q, bind_some', show b1 false = 0 from rfl, if_neg nz0, bind_some', if_neg (by decide)]
      exact Z_of ⟨_, rfl, e, f⟩
    · rw [if_neg (by omega), bind_some', if_neg (by decide)]
      exact Z_of ⟨_, rfl, e, f⟩
theorem c_word (hT : TXc n C) (hK : KeptR C) {p L : Nat} (h3 : C 40 3 = (p : Int)) (h5 : C 40 5 = (p : Int)) (hr : Run n C isLe p L) (h4 : ¬ n32 (C 40 4) = 24) : Z (K_readWord C) (fun M => (∀ c j, c ≠ 40 → M c j = C c j) ∧ M 40 2 = C 40 2 ∧ M 40 5 = (p : Int) ∧ ((L ≤ 8 ∧ M 40 3 = ((p + L : Nat) : Int) ∧ M 40 4 = ((kf (nmN C p L) 20 : Nat) : Int) ∧ M 40 7 = ((nmN C p L : Nat) : Int) ∧ M 40 8 = C 40 8 ∧ M 40 9 = C 40 9) ∨ (8 < L ∧ M 40 4 = 24 ∧ M 40 8 = 1 ∧ M 40 9 = (p : Int)))) := by
  obtain ⟨hn, h2, ht⟩ := hT
  have hk := hr.1
  unfold K_readWord
  rw [lt1_eq, Z_bind_iff]
  refine Z_mono (it_Z (J := fun M => M 40 3 = ((p + L : Nat) : Int) ∧ M 40 7 = ((nmN C p L : Nat) : Int) ∧ ∀ c j, ¬ (c = 40 ∧ (j = 3 ∨ j = 7)) → M c j = C c j) (fun i M => M 40 3 = ((p + i : Nat) : Int) ∧ M 40 7 = ((nmN C p i : Nat) : Int) ∧ ∀ c j, ¬ (c = 40 ∧ (j = 3 ∨ j = 7)) → M c j = C c j) L (by unfold FUEL; omega) ⟨by rw [up_k (by decide)]; exact h3, by rw [up_eq]; rfl, fun c j z => by rw [up_at, if_neg (by omega)]⟩ ?_ ?_) ?_
  · rintro i M hi ⟨e, e7, f⟩
    have hlt := Run_lt hr hi
    obtain ⟨t1, t2⟩ := ht _ hlt
    have hl := hr.2.1 i hi
    unfold K_readWord_b5 K_spell
    dsimp only
    rw [e, f 40 2 (by omega), h2, n32_nat (by omega), n32_nat (by omega), if_pos (by omega), chk_pos (by omega), tn_nat, f 2 _ (by omega), (K_bl t1 (by omega) M).2.1, hl, bind_some', show b1 true = 1 from rfl, if_pos nz1, bind_some', if_pos rfl, chk_pos (by omega), bind_some', lt1_eq, lt1_eq, e7]
    unfold isLe at hl
    rw [decide_eq_true_eq] at hl
    rw [n32_of (by omega) (by omega)]
    refine Z_of (Or.inl ⟨_, rfl, ?_, ?_, fun c j z => ?_⟩)
    · rw [up_eq, up_k (by decide), e]; omega
    · rw [up_k (by decide), up_eq]
      show _ = ((32 * nmN C p i + (C 2 (p + i) - 96).toNat : Nat) : Int)
      omega
    · rw [up_at, if_neg (by omega), up_at, if_neg (by omega)]; exact f c j z
  · rintro M ⟨e, e7, f⟩
    unfold K_readWord_b5
    dsimp only
    rw [e, f 40 2 (by omega), h2, n32_nat (by omega), n32_nat (by omega)]
    by_cases q : p + L < n
    · obtain ⟨t1, t2⟩ := ht _ q
      rw [if_pos (by omega), chk_pos (by omega), tn_nat, f 2 _ (by omega), (K_bl t1 (by omega) M).2.1, hr.2.2 q, bind_some', show b1 false = 0 from rfl, if_neg nz0, bind_some', if_neg (by decide)]
      exact Z_of ⟨_, rfl, e, e7, f⟩
    · rw [if_neg (by omega), bind_some', if_neg (by decide)]
      exact Z_of ⟨_, rfl, e, e7, f⟩
  · rintro M ⟨e, e7, f⟩
    rw [e, f 40 5 (by omega), h5, show ((p + L : Nat) : Int) - (p : Int) = (L : Int) by omega, n32_nat (by omega)]
    by_cases q : 8 < L
    · rw [if_pos (by omega)]
      unfold K_fail
      rw [f 40 4 (by omega), if_pos h4, lt1_eq, lt1_eq, lt1_eq, bind_some']
      refine Z_of ⟨fun c j z => ?_, ?_, ?_, Or.inr ⟨q, ?_, ?_, ?_⟩⟩
      · rw [up_c z, up_c z, up_c z]; exact f c j (by omega)
      · rw [up_k (by decide), up_k (by decide), up_k (by decide)]; exact f _ _ (by omega)
      · rw [up_k (by decide), up_k (by decide), up_k (by decide), f _ _ (by omega)]; exact h5
      · rw [up_k (by decide), up_k (by decide), up_eq]
      · rw [up_k (by decide), up_eq]
      · rw [up_eq, up_k (by decide), up_k (by decide), f _ _ (by omega)]; exact h5
    · rw [if_neg (by omega), lt1_eq, Z_bind_iff]
      have hm40 : nmN C p L < 2 ^ 40 := by
        have h1 := nmN_lt hr L (Nat.le_refl _)
        have h2 : 32 ^ L ≤ 32 ^ 8 := Nat.pow_le_pow_right (by omega) (by omega)
        rw [show (32 : Nat) ^ 8 = 2 ^ 40 by decide] at h2
        omega
      refine Z_mono (it_Z (J := fun M2 => M2 40 4 = ((kf (nmN C p L) 20 : Nat) : Int) ∧ ∀ c j, ¬ (c = 40 ∧ j = 4) → M2 c j = M c j) (fun i st => st.1 = (i : Int) ∧ st.2 40 4 = ((kf (nmN C p L) i : Nat) : Int) ∧ ∀ c j, ¬ (c = 40 ∧ j = 4) → st.2 c j = M c j) 20 (by unfold FUEL; omega) ⟨rfl, by show up M 40 4 21 40 4 = _; rw [up_eq]; rfl, fun c j z => by show up M 40 4 21 c j = _; rw [up_at, if_neg z]⟩ ?_ ?_) ?_
      · rintro i ⟨l, M2⟩ hi ⟨el, e4, f2⟩
        dsimp only at el e4 f2
        subst el
        obtain ⟨k1, k2⟩ := kw_tab i hi
        unfold K_readWord_b92
        dsimp only
        rw [n32_nat (by omega), if_pos (by omega), chk_pos (by omega), tn_nat, f2 41 _ (by omega), f 41 _ (by omega), hK i hi, k1, f2 40 7 (by omega), e7]
        have hiff := n64_nat (a := kwN i) (b := nmN C p L) (by omega) (by omega)
        by_cases qq : kwN i = nmN C p L
        · rw [if_pos (hiff.mpr qq), lt1_eq, bind_some', lt1_eq]
          refine Z_of (Or.inl ⟨_, rfl, rfl, ?_, fun c j z => ?_⟩)
          · dsimp only
            rw [up_eq]
            show _ = (((if kwN i = nmN C p L then i + 1 else kf (nmN C p L) i) : Nat) : Int)
            rw [if_pos qq]
            rfl
          · dsimp only
            rw [up_at, if_neg z]
            exact f2 c j z
        · rw [if_neg (fun z => qq (hiff.mp z)), bind_some', lt1_eq]
          refine Z_of (Or.inl ⟨_, rfl, rfl, ?_, f2⟩)
          dsimp only
          rw [e4]
          show _ = (((if kwN i = nmN C p L then i + 1 else kf (nmN C p L) i) : Nat) : Int)
          rw [if_neg qq]
      · rintro ⟨l, M2⟩ ⟨el, e4, f2⟩
        dsimp only at el e4 f2
        subst el
        unfold K_readWord_b92
        dsimp only
        rw [if_neg (by decide)]
        exact Z_of ⟨_, rfl, e4, f2⟩
      · rintro M2 ⟨e4, f2⟩
        refine Z_of ⟨fun c j z => (f2 c j (by omega)).trans (f c j (by omega)), (f2 _ _ (by omega)).trans (f _ _ (by omega)), ((f2 _ _ (by omega)).trans (f _ _ (by omega))).trans h5, Or.inl ⟨by omega, (f2 _ _ (by omega)).trans e, e4, (f2 _ _ (by omega)).trans e7, (f2 _ _ (by omega)).trans (f _ _ (by omega)), (f2 _ _ (by omega)).trans (f _ _ (by omega))⟩⟩
theorem c_num (hT : TXc n C) {p L : Nat} (h3 : C 40 3 = (p : Int)) (h5 : C 40 5 = (p : Int)) (hr : Run n C isDi p L) (h4 : ¬ n32 (C 40 4) = 24) : Z (K_readNumber C) (fun M => (∀ c j, c ≠ 40 → M c j = C c j) ∧ M 40 2 = C 40 2 ∧ M 40 5 = (p : Int) ∧ ((L ≤ 4 ∧ ¬ (p + L < n ∧ isLe (C 2 (p + L)) = true) ∧ M 40 3 = ((p + L : Nat) : Int) ∧ M 40 4 = 22 ∧ M 40 6 = ((vlN C p L : Nat) : Int) ∧ M 40 8 = C 40 8 ∧ M 40 9 = C 40 9) ∨ ((4 < L ∨ (p + L < n ∧ isLe (C 2 (p + L)) = true)) ∧ M 40 4 = 24 ∧ M 40 8 = 1 ∧ M 40 9 = (p : Int)))) := by
  obtain ⟨hn, h2, ht⟩ := hT
  have hk := hr.1
  unfold K_readNumber
  rw [lt1_eq, Z_bind_iff]
  refine Z_mono (it_Z (J := fun M => M 40 3 = ((p + L : Nat) : Int) ∧ M 40 6 = ((vlN C p L : Nat) : Int) ∧ ∀ c j, ¬ (c = 40 ∧ (j = 3 ∨ j = 6)) → M c j = C c j) (fun i M => M 40 3 = ((p + i : Nat) : Int) ∧ M 40 6 = ((vlN C p i : Nat) : Int) ∧ ∀ c j, ¬ (c = 40 ∧ (j = 3 ∨ j = 6)) → M c j = C c j) L (by unfold FUEL; omega) ⟨by rw [up_k (by decide)]; exact h3, by rw [up_eq]; rfl, fun c j z => by rw [up_at, if_neg (by omega)]⟩ ?_ ?_) ?_
  · rintro i M hi ⟨e, e7, f⟩
    have hlt := Run_lt hr hi
    obtain ⟨t1, t2⟩ := ht _ hlt
    have hl := hr.2.1 i hi
    unfold K_readNumber_b5
    dsimp only
    rw [e, f 40 2 (by omega), h2, n32_nat (by omega), n32_nat (by omega), if_pos (by omega), chk_pos (by omega), tn_nat, f 2 _ (by omega), (K_bl t1 (by omega) M).2.2.1, hl, bind_some', show b1 true = 1 from rfl, if_pos nz1, bind_some', if_pos rfl, chk_pos (by omega), lt1_eq, lt1_eq, e7]
    unfold isDi at hl
    rw [decide_eq_true_eq] at hl
    refine Z_of (Or.inl ⟨_, rfl, ?_, ?_, fun c j z => ?_⟩)
    · rw [up_eq, up_k (by decide), e]; omega
    · rw [up_k (by decide), up_eq]
      show _ = ((10 * vlN C p i + (C 2 (p + i) - 48).toNat : Nat) : Int)
      omega
    · rw [up_at, if_neg (by omega), up_at, if_neg (by omega)]; exact f c j z
  · rintro M ⟨e, e7, f⟩
    unfold K_readNumber_b5
    dsimp only
    rw [e, f 40 2 (by omega), h2, n32_nat (by omega), n32_nat (by omega)]
    by_cases q : p + L < n
    · obtain ⟨t1, t2⟩ := ht _ q
      rw [if_pos (by omega), chk_pos (by omega), tn_nat, f 2 _ (by omega), (K_bl t1 (by omega) M).2.2.1, hr.2.2 q, bind_some', show b1 false = 0 from rfl, if_neg nz0, bind_some', if_neg (by decide)]
      exact Z_of ⟨_, rfl, e, e7, f⟩
    · rw [if_neg (by omega), bind_some', if_neg (by decide)]
      exact Z_of ⟨_, rfl, e, e7, f⟩
  · rintro M ⟨e, e7, f⟩
    have bad : (4 < L ∨ (p + L < n ∧ isLe (C 2 (p + L)) = true)) → Z ((K_fail 1 M).bind fun M_36 => some M_36) (fun M => (∀ c j, c ≠ 40 → M c j = C c j) ∧ M 40 2 = C 40 2 ∧ M 40 5 = (p : Int) ∧ ((L ≤ 4 ∧ ¬ (p + L < n ∧ isLe (C 2 (p + L)) = true) ∧ M 40 3 = ((p + L : Nat) : Int) ∧ M 40 4 = 22 ∧ M 40 6 = ((vlN C p L : Nat) : Int) ∧ M 40 8 = C 40 8 ∧ M 40 9 = C 40 9) ∨ ((4 < L ∨ (p + L < n ∧ isLe (C 2 (p + L)) = true)) ∧ M 40 4 = 24 ∧ M 40 8 = 1 ∧ M 40 9 = (p : Int)))) := by
      intro hb
      unfold K_fail
      rw [f 40 4 (by omega), if_pos h4, lt1_eq, lt1_eq, lt1_eq, bind_some']
      refine Z_of ⟨fun c j z => ?_, ?_, ?_, Or.inr ⟨hb, ?_, ?_, ?_⟩⟩
      · rw [up_c z, up_c z, up_c z]; exact f c j (by omega)
      · rw [up_k (by decide), up_k (by decide), up_k (by decide)]; exact f _ _ (by omega)
      · rw [up_k (by decide), up_k (by decide), up_k (by decide), f _ _ (by omega)]; exact h5
      · rw [up_k (by decide), up_k (by decide), up_eq]
      · rw [up_k (by decide), up_eq]
      · rw [up_eq, up_k (by decide), up_k (by decide), f _ _ (by omega)]; exact h5
    have good : L ≤ 4 → ¬ (p + L < n ∧ isLe (C 2 (p + L)) = true) → Z (lt1 (up M 40 4 22) fun M_34 => some M_34) (fun M => (∀ c j, c ≠ 40 → M c j = C c j) ∧ M 40 2 = C 40 2 ∧ M 40 5 = (p : Int) ∧ ((L ≤ 4 ∧ ¬ (p + L < n ∧ isLe (C 2 (p + L)) = true) ∧ M 40 3 = ((p + L : Nat) : Int) ∧ M 40 4 = 22 ∧ M 40 6 = ((vlN C p L : Nat) : Int) ∧ M 40 8 = C 40 8 ∧ M 40 9 = C 40 9) ∨ ((4 < L ∨ (p + L < n ∧ isLe (C 2 (p + L)) = true)) ∧ M 40 4 = 24 ∧ M 40 8 = 1 ∧ M 40 9 = (p : Int)))) := by
      intro h1 h2
      rw [lt1_eq]
      refine Z_of ⟨fun c j z => ?_, ?_, ?_, Or.inl ⟨h1, h2, ?_, up_eq, ?_, ?_, ?_⟩⟩
      · rw [up_c z]; exact f c j (by omega)
      · rw [up_k (by decide)]; exact f _ _ (by omega)
      · rw [up_k (by decide), f _ _ (by omega)]; exact h5
      · rw [up_k (by decide)]; exact e
      · rw [up_k (by decide)]; exact e7
      · rw [up_k (by decide)]; exact f _ _ (by omega)
      · rw [up_k (by decide)]; exact f _ _ (by omega)
    rw [jn_eq, e, f 40 5 (by omega), h5, show ((p + L : Nat) : Int) - (p : Int) = (L : Int) by omega, n32_nat (by omega), f 40 2 (by omega), h2, n32_nat (by omega), n32_nat (by omega)]
    rw [h2] at bad good
    by_cases q4 : L ≤ 4
    · rw [if_pos (by omega)]
      by_cases q : p + L < n
      · obtain ⟨t1, t2⟩ := ht _ q
        rw [if_pos (by omega), chk_pos (by omega), tn_nat, f 2 _ (by omega), (K_bl t1 (by omega) M).2.1, bind_some']
        cases hl : isLe (C 2 (p + L)) with
        | true =>
          rw [show b1 true = 1 from rfl, if_pos nz1, bind_some', if_pos rfl]
          rw [hl] at bad
          exact bad (Or.inr ⟨q, rfl⟩)
        | false =>
          rw [show b1 false = 0 from rfl, if_neg nz0, bind_some', if_neg (by decide)]
          rw [hl] at good
          exact good q4 (fun z => by cases z.2)
      · rw [if_neg (by omega), bind_some', if_neg (by decide)]
        exact good q4 (fun z => q z.1)
    · rw [if_neg (by omega)]
      exact bad (Or.inl (by omega))
end LEXC
