/-! ===== askings: the set left by one answer, the reference ===== -/
theorem M_take_eq {M : Mem} {lv q a : Nat} (hlv : lv < 3) (hq : q < 96) (ha : a < 3) : M_take (lv : Int) (q : Int) (a : Int) M = some (wup M 126 (4 * lv + 4) 4 (fun i => jand (M 126 (4 * lv + i)) (M 127 (12 * q + 4 * a + i)))) := by
  have L := it_for (body := M_take_b3 (lv : Int) (q : Int) (a : Int)) (a := (0, M)) (b := wup M 126 (4 * lv + 4) 4 (fun i => jand (M 126 (4 * lv + i)) (M 127 (12 * q + 4 * a + i)))) (fun i => ((i : Int), wup M 126 (4 * lv + 4) i (fun i => jand (M 126 (4 * lv + i)) (M 127 (12 * q + 4 * a + i))))) 4 (by unfold FUEL; omega) (by rw [wup_0]; rfl) ?_ ?_
  · unfold M_take
    rw [L]
    rfl
  · intro i hi
    unfold M_take_b3
    dsimp only
    rw [n32_nat (by omega), if_pos (by omega), chk_pos (by omega), chk_pos (by omega), chk_pos (by omega), lt1_eq, lt1_eq, show Int.toNat (4 * (lv : Int) + 4 + (i : Int)) = 4 * lv + 4 + i by omega, show Int.toNat (4 * (lv : Int) + (i : Int)) = 4 * lv + i by omega, show Int.toNat (12 * (q : Int) + 4 * (a : Int) + (i : Int)) = 12 * q + 4 * a + i by omega, wup_out (Or.inl (by omega)), wup_c (show (127 : Nat) ≠ 126 by decide), wup_s rfl]
    rfl
  · unfold M_take_b3
    dsimp only
    rw [if_neg (by decide)]
theorem take_sb {M : Mem} {lv q a : Nat} {S H : Nat → Bool} (hS : ∀ w, w < 256 → sb M 126 (4 * lv) w = S w) (hH : ∀ w, w < 256 → sb M 127 (12 * q + 4 * a) w = H w) : ∀ w, w < 256 → sb (wup M 126 (4 * lv + 4) 4 (fun i => jand (M 126 (4 * lv + i)) (M 127 (12 * q + 4 * a + i)))) 126 (4 * (lv + 1)) w = (S w && H w) := by
  intro w hw
  rw [show 4 * (lv + 1) = 4 * lv + 4 by omega, sb_wup (by omega), qb_and, ← hS w hw, ← hH w hw]
  rfl
