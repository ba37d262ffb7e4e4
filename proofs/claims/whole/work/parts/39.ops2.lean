/-! ===== operations: feed image back ===== -/
theorem up_self {M : Mem} {c k : Nat} {v : Int} (h : M c k = v) : up M c k v = M := by
  funext a b
  rw [up_at]
  split
  · rename_i e; rw [e.1, e.2, h]
  · rfl
theorem up_up {M : Mem} {c k : Nat} {v w : Int} : up (up M c k v) c k w = up M c k w := by
  funext a b
  rw [up_at, up_at, up_at]
  split
  · rfl
  · rfl
theorem up_com {M : Mem} {c k c' k' : Nat} {v w : Int} (h : c ≠ c') : up (up M c k v) c' k' w = up (up M c' k' w) c k v := by
  funext a b
  rw [up_at, up_at, up_at, up_at]
  by_cases e : a = c' ∧ b = k'
  · rw [if_pos e, if_neg (by omega), if_pos e]
  · rw [if_neg e, if_neg e]
theorem wup_up {M : Mem} {c o n c' k' : Nat} {f : Nat → Int} {w : Int} (h : c ≠ c') : wup (up M c' k' w) c o n f = up (wup M c o n f) c' k' w := by
  funext a b
  rw [wup_at, up_at, up_at, wup_at]
  by_cases e : a = c' ∧ b = k'
  · rw [if_neg (by omega), if_pos e, if_pos e]
  · rw [if_neg e, if_neg e]
theorem i2b_rng (x : Int) : -128 ≤ i2b x ∧ i2b x < 128 := by
  unfold i2b
  have h := Int8.le_toInt (Int32.ofInt x).toInt8
  have h2 := Int8.toInt_lt (Int32.ofInt x).toInt8
  rw [Int8.toInt_toInt32]
  exact ⟨h, h2⟩
theorem putFour {C : Mem} {n : Nat} (a : Int) (hn : n + 4 ≤ 1600) (h : C 1 1 = (n : Int)) : X_putFour a C = some (up (wup C 2 n 4 (fun j => i2b (ishr a (24 - 8 * (j : Int))))) 1 1 ((n + 4 : Nat) : Int)) := by
  have L := it_for (body := X_putFour_b3 a) (a := (24, C)) (b := up (wup C 2 n 4 (fun j => i2b (ishr a (24 - 8 * (j : Int))))) 1 1 ((n + 4 : Nat) : Int)) (fun j => (24 - 8 * (j : Int), up (wup C 2 n j (fun j => i2b (ishr a (24 - 8 * (j : Int))))) 1 1 ((n + j : Nat) : Int))) 4 (by unfold FUEL; omega) ?_ ?_ ?_
  · unfold X_putFour
    rw [L]; rfl
  · show (_, _) = _
    rw [Nat.add_zero, wup_0, up_self h]
    rfl
  · intro j hj
    unfold X_putFour_b3
    dsimp only
    rw [n32_of (by omega) (by omega), up_eq, n32_nat (by omega), if_pos (by omega), chk_pos (by omega), chk_pos (i2b_rng _), tn_nat, lt1_eq, lt1_eq, lt1_eq, up_c (show (1 : Nat) ≠ 2 by decide), up_eq, up_com (by decide), up_up, up_com (by decide), wup_s (by rfl)]
    rw [show 24 - 8 * (j : Int) + -8 = 24 - 8 * ((j + 1 : Nat) : Int) from by omega, show ((n + j : Nat) : Int) + 1 = ((n + (j + 1) : Nat) : Int) from by omega]
  · unfold X_putFour_b3
    dsimp only
    rw [if_neg (fun e => absurd e.1 (by decide))]
theorem iand3 {k : Nat} (h : k < 20) : iand (k : Int) 3 = ((k % 4 : Nat) : Int) := by
  have := iand_nat (a := k) (b := 3) (by omega) (by omega)
  rw [show (3 : Nat) = 2 ^ 2 - 1 from rfl, Nat.and_two_pow_sub_one_eq_mod] at this
  exact this
def fd (a b c d e : Int) (k : Nat) : Int := i2b (ishr (if k < 4 then a else if k < 8 then b else if k < 12 then c else if k < 16 then d else e) (24 - 8 * ((k % 4 : Nat) : Int)))
theorem Mfeed {R : Mem} {n : Nat} (a b c d e : Int) (hn : n + 20 ≤ 1600) (h : R 81 2 = (n : Int)) : it (M_feed_b18 a b c d e) FUEL (0, R) = some (wup R 82 n 20 (fd a b c d e)) := by
  refine it_for (fun k => ((k : Int), wup R 82 n k (fd a b c d e))) 20 (by unfold FUEL; omega) (by rw [wup_0]; rfl) ?_ ?_
  · intro k hk
    unfold M_feed_b18
    dsimp only
    rw [n32_nat (by omega), if_pos (by omega)]
    have e1 : (if (k : Int) < 4 then some a else if (k : Int) < 8 then some b else if (k : Int) < 12 then some c else if (k : Int) < 16 then some d else some e) = some (if k < 4 then a else if k < 8 then b else if k < 12 then c else if k < 16 then d else e) := by
      by_cases q1 : k < 4
      · rw [if_pos q1, if_pos (by omega)]
      · rw [if_neg q1, if_neg (by omega)]
        by_cases q2 : k < 8
        · rw [if_pos q2, if_pos (by omega)]
        · rw [if_neg q2, if_neg (by omega)]
          by_cases q3 : k < 12
          · rw [if_pos q3, if_pos (by omega)]
          · rw [if_neg q3, if_neg (by omega)]
            by_cases q4 : k < 16
            · rw [if_pos q4, if_pos (by omega)]
            · rw [if_neg q4, if_neg (by omega)]
    rw [e1, bind_some', iand3 hk, wup_c (by omega), h, chk_pos (by omega), chk_pos (i2b_rng _), tn_add, lt1_eq, lt1_eq, wup_s (by rfl)]
    rfl
  · unfold M_feed_b18
    dsimp only
    rw [if_neg (by decide)]
theorem op_feed {C R : Mem} (h : Inv C R) (a b c d e : Int) : ∃ v C' R', X_feed a b c d e C = some (v, C') ∧ M_feed a b c d e R = some (v, R') ∧ Inv C' R' := by
  have h0 := h
  obtain ⟨t, bb, ht, h12, h13, hb, h38, ⟨n, a1, a2, a3, a4⟩, a5, a6, a7, a8, a9, a10⟩ := h
  unfold X_feed M_feed
  rw [a1, a2, n32_of (by omega) (by omega)]
  by_cases q : 1600 < (n : Int) + 20
  · rw [if_pos q, if_pos q]
    exact ⟨_, _, _, rfl, rfl, h0⟩
  · rw [if_neg q, if_neg q, putFour a (n := n) (by omega) a1, bind_some', putFour b (n := n + 4) (by omega) up_eq, bind_some', putFour c (n := n + 4 + 4) (by omega) up_eq, bind_some', putFour d (n := n + 4 + 4 + 4) (by omega) up_eq, bind_some', putFour e (n := n + 4 + 4 + 4 + 4) (by omega) up_eq, bind_some', Mfeed a b c d e (by omega) a2, bind_some', lt1_eq, up_eq, up_eq, wup_c (by omega), a2]
    generalize hC : up (wup (up (wup (up (wup (up (wup (up (wup C 2 n 4 fun j => i2b (ishr a (24 - 8 * (j : Int)))) 1 1 ((n + 4 : Nat) : Int)) 2 (n + 4) 4 fun j => i2b (ishr b (24 - 8 * (j : Int)))) 1 1 ((n + 4 + 4 : Nat) : Int)) 2 (n + 4 + 4) 4 fun j => i2b (ishr c (24 - 8 * (j : Int)))) 1 1 ((n + 4 + 4 + 4 : Nat) : Int)) 2 (n + 4 + 4 + 4) 4 fun j => i2b (ishr d (24 - 8 * (j : Int)))) 1 1 ((n + 4 + 4 + 4 + 4 : Nat) : Int)) 2 (n + 4 + 4 + 4 + 4) 4 fun j => i2b (ishr e (24 - 8 * (j : Int)))) 1 1 ((n + 4 + 4 + 4 + 4 + 4 : Nat) : Int) = C'
    have k0 : ∀ c k, ¬ (c = 1 ∧ k = 1) → c ≠ 2 → C' c k = C c k := by
      intro c k h1 h2
      rw [← hC]
      simp only [up_at, wup_at]
      simp only [if_neg h1, if_neg (fun e : c = 2 ∧ _ => h2 e.1)]
    have k1 : ∀ i, i < n → C' 2 i = C 2 i := by
      intro i hi
      rw [← hC]
      simp only [up_at, wup_at]
      rw [if_neg (by omega), if_neg (by omega), if_neg (by omega), if_neg (by omega), if_neg (by omega), if_neg (by omega), if_neg (by omega), if_neg (by omega), if_neg (by omega), if_neg (by omega)]
    have k2 : ∀ i, i < 20 → C' 2 (n + i) = fd a b c d e i := by
      intro i hi
      rw [← hC]
      unfold fd
      simp only [up_at, wup_at]
      by_cases q1 : i < 4
      · simp (disch := omega) only [true_and, if_pos, if_neg]
        rw [show n + i - n = i % 4 from by omega]
      · by_cases q2 : i < 8
        · simp (disch := omega) only [true_and, if_pos, if_neg]
          rw [show n + i - (n + 4) = i % 4 from by omega]
        · by_cases q3 : i < 12
          · simp (disch := omega) only [true_and, if_pos, if_neg]
            rw [show n + i - (n + 4 + 4) = i % 4 from by omega]
          · by_cases q4 : i < 16
            · simp (disch := omega) only [true_and, if_pos, if_neg]
              rw [show n + i - (n + 4 + 4 + 4) = i % 4 from by omega]
            · simp (disch := omega) only [true_and, if_pos, if_neg]
              rw [show n + i - (n + 4 + 4 + 4 + 4) = i % 4 from by omega]
    have k3 : C' 1 1 = ((n + 20 : Nat) : Int) := by rw [← hC, up_eq]
    clear hC
    refine ⟨_, C', up (wup R 82 n 20 (fd a b c d e)) 81 2 ((n : Int) + 20), rfl, by rw [show ((n + 4 + 4 + 4 + 4 + 4 : Nat) : Int) = (n : Int) + 20 from by omega], ?_⟩
    have hS : SameR R (up (wup R 82 n 20 (fd a b c d e)) 81 2 ((n : Int) + 20)) := SameR_of (fun c k h1 h2 h3 => by rw [up_c (by omega), wup_c (by omega)])
    refine Inv_gen ht h12 h13 hb h38 a8 (k0 _ _ (by omega) (by omega)) (k0 _ _ (by omega) (by omega)) rfl hS (fun c k h1 h2 => k0 _ _ (by omega) (by omega)) ⟨n + 20, k3, ?_, by omega, fun i hi => ?_⟩ (Time_keep (k0 _ _ (by omega) (by omega)) rfl a5) (Fault_keep (k0 _ _ (by omega) (by omega)) (k0 _ _ (by omega) (by omega)) rfl rfl a6) (Kept_keep (fun k => k0 _ _ (by omega) (by omega)) a7) (Says_keep hS (fun c k h1 h2 => k0 _ _ (by omega) (by omega)) rfl (fun c k h1 h2 => by rw [up_c (by omega), wup_c (by omega)]) a9) (Box_keep hS (fun c k h1 h2 => k0 _ _ (by omega) (by omega)) (fun c k h1 h2 => by rw [up_c (by omega), wup_c (by omega)]) a10)
    · rw [up_eq]; push_cast; rfl
    · rw [up_c (by omega)]
      by_cases q : i < n
      · rw [wup_out (by omega), k1 i q]
        exact a4 i q
      · have e2 := k2 (i - n) (by omega)
        rw [show n + (i - n) = i from by omega] at e2
        have e3 : wup R 82 n 20 (fd a b c d e) 82 i = fd a b c d e (i - n) := by
          have := wup_in (M := R) (c := 82) (o := n) (n := 20) (i := i - n) (f := fd a b c d e) (by omega)
          rw [show n + (i - n) = i from by omega] at this
          exact this
        rw [e2, e3]
        exact ⟨rfl, i2b_rng _⟩
