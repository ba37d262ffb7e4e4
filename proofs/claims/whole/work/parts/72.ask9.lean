/-! ===== askings: does an answer hold the whole set, the reference ===== -/
def suB (S H : Nat → Bool) (W : Nat) : Bool := allB (fun w => !S w || H w) W
theorem suB_iff {S H : Nat → Bool} {W : Nat} : suB S H W = true ↔ ∀ w, w < W → S w = true → H w = true := by
  unfold suB
  rw [allB_iff]
  constructor
  · intro h w hw hs
    have := h w hw
    rw [hs] at this
    simpa using this
  · intro h w hw
    cases hs : S w with
    | false => rfl
    | true => rw [h w hw hs]; rfl
theorem splits_in {M : Mem} {lv q a : Nat} {S H : Nat → Bool} (hlv : lv < 4) (hq : q < 96) (ha : a < 3) (hS : ∀ w, w < 256 → sb M 126 (4 * lv) w = S w) (hH : ∀ w, w < 256 → sb M 127 (12 * q + 4 * a) w = H w) : it (M_splits_b26 (lv : Int) (q : Int) M (a : Int)) FUEL (1, 0) = some (b1 (suB S H 256)) := by
  refine it_for (fun i => (b1 (suB S H (64 * i)), (i : Int))) 4 (by unfold FUEL; omega) rfl ?_ ?_
  · intro i hi
    have key : (n64 (jand (M 126 (4 * lv + i)) (jxor (M 127 (12 * q + 4 * a + i)) (-1))) = n64 0) ↔ ∀ j, j < 64 → S (64 * i + j) = true → H (64 * i + j) = true := by
      rw [n64_z]
      have e : ∀ j, j < 64 → qb (jand (M 126 (4 * lv + i)) (jxor (M 127 (12 * q + 4 * a + i)) (-1))) j = (S (64 * i + j) && !H (64 * i + j)) := by
        intro j hj
        rw [qb_and, qb_not _ hj, ← hS (64 * i + j) (by omega), ← hH (64 * i + j) (by omega)]
        unfold sb
        rw [show (64 * i + j) / 64 = i by omega, show (64 * i + j) % 64 = j by omega]
      constructor
      · intro h j hj hs
        have := h j hj
        rw [e j hj, hs] at this
        simpa using this
      · intro h j hj
        rw [e j hj]
        cases hs : S (64 * i + j) with
        | false => rfl
        | true => rw [h j hj hs]; rfl
    have nx : suB S H (64 * (i + 1)) = true ↔ (suB S H (64 * i) = true ∧ ∀ j, j < 64 → S (64 * i + j) = true → H (64 * i + j) = true) := by
      rw [suB_iff, suB_iff]
      constructor
      · intro h
        exact ⟨fun w hw => h w (by omega), fun j hj => h _ (by omega)⟩
      · rintro ⟨h1, h2⟩ w hw hs
        by_cases y : w < 64 * i
        · exact h1 w y hs
        · have := h2 (w - 64 * i) (by omega)
          rw [show 64 * i + (w - 64 * i) = w by omega] at this
          exact this hs
    unfold M_splits_b26
    dsimp only
    rw [n32_nat (by omega), if_pos (by omega)]
    cases hs : suB S H (64 * i) with
    | false =>
      have : suB S H (64 * (i + 1)) = false := by
        cases h : suB S H (64 * (i + 1)) with
        | false => rfl
        | true => rw [(nx.mp h).1] at hs; cases hs
      rw [this]
      rfl
    | true =>
      rw [show b1 true = 1 from rfl, if_pos nz1, chk_pos (by omega), chk_pos (by omega), show Int.toNat (4 * (lv : Int) + (i : Int)) = 4 * lv + i by omega, show Int.toNat (12 * (q : Int) + 4 * (a : Int) + (i : Int)) = 12 * q + 4 * a + i by omega]
      by_cases y : n64 (jand (M 126 (4 * lv + i)) (jxor (M 127 (12 * q + 4 * a + i)) (-1))) = n64 0
      · rw [if_pos y, nx.mpr ⟨hs, key.mp y⟩]
        rfl
      · have : suB S H (64 * (i + 1)) = false := by
          cases h : suB S H (64 * (i + 1)) with
          | false => rfl
          | true => exact absurd (key.mpr (nx.mp h).2) y
        rw [if_neg y, this]
        rfl
  · unfold M_splits_b26
    dsimp only
    rw [if_neg (by decide)]
theorem splits_eq {M : Mem} {lv q n : Nat} {S : Nat → Bool} {H : Nat → Nat → Bool} (hlv : lv < 4) (hq : q < 96) (hn : n ≤ 12) (hR : M_rowMany M = some (n : Int)) (hqn : q % 12 < n) (hS : ∀ w, w < 256 → sb M 126 (4 * lv) w = S w) (hH : ∀ a, a < 3 → ∀ w, w < 256 → sb M 127 (12 * q + 4 * a) w = H a w) : M_splits (lv : Int) (q : Int) M = some (b1 (!anyB (fun a => suB S (H a) 256) 3)) := by
  have F := it_find (body := M_splits_b15 (lv : Int) (q : Int) M) (p := fun a => suB S (H a) 256) (v := fun _ => (0 : Int)) 3 (by unfold FUEL; omega) ?_ ?_ ?_
  · unfold M_splits
    rw [hR, bind_some', show (12 : Int) = ((12 : Nat) : Int) from rfl, irem_nat (by omega) (by omega) (by omega), n32_nat (by omega), n32_nat (by omega), if_neg (by omega)]
    cases hA : anyB (fun a => suB S (H a) 256) 3 with
    | false =>
      rw [F.1 hA, bind_some']
      rfl
    | true =>
      obtain ⟨i, -, -, -, e2⟩ := F.2 hA
      rw [e2, bind_some']
      rfl
  · intro a ha hy
    unfold M_splits_b15
    dsimp only
    rw [n32_nat (by omega), if_pos (by omega), splits_in hlv hq ha hS (hH a ha), bind_some', hy]
    rfl
  · intro a ha hy
    unfold M_splits_b15
    dsimp only
    rw [n32_nat (by omega), if_pos (by omega), splits_in hlv hq ha hS (hH a ha), bind_some', hy]
    rfl
  · unfold M_splits_b15
    dsimp only
    rw [if_neg (by decide)]
