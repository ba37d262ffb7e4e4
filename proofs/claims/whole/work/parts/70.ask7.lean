/-! ===== askings: what a set tells, the reference ===== -/
theorem tolB_cut {R : Mem} {r V W : Nat} {S : Nat → Bool} (hV : V ≤ W) (h : ∀ w, V ≤ w → w < W → S w = false) : tolB R r W S = tolB R r V S := by
  unfold tolB
  have cut : ∀ f : Nat → Bool, (∀ w, V ≤ w → w < W → f w = false) → anyB f W = anyB f V := by
    intro f hf
    refine bool_iff ?_
    rw [anyB_iff, anyB_iff]
    constructor
    · rintro ⟨w, h1, h2⟩
      refine ⟨w, Classical.byContradiction (fun z => ?_), h2⟩
      rw [hf w (by omega) h1] at h2
      cases h2
    · rintro ⟨w, h1, h2⟩
      exact ⟨w, by omega, h2⟩
  rw [cut _ (fun w h1 h2 => by rw [h w h1 h2]; rfl), cut (fun w => S w && !rowI R r w) (fun w h1 h2 => by rw [h w h1 h2]; rfl)]
theorem M_isOne_eq {R M : Mem} {r lv : Nat} {S : Nat → Bool} (hlv : lv < 4) (hS : ∀ w, w < 256 → sb M 126 (4 * lv) w = S w) (hrow : ∀ w, w < 256 → S w = true → sb M 128 0 w = rowI R r w) : M_isOne (lv : Int) M = some (b1 (tolB R r 256 S)) := by
  have L := it_for (body := M_isOne_b7 (lv : Int) M) (a := (0, 0, 0)) (b := (b1 (anyB (fun w => S w && rowI R r w) (64 * 4)), b1 (anyB (fun w => S w && !rowI R r w) (64 * 4)))) (fun i => (b1 (anyB (fun w => S w && rowI R r w) (64 * i)), b1 (anyB (fun w => S w && !rowI R r w) (64 * i)), (i : Int))) 4 (by unfold FUEL; omega) rfl ?_ ?_
  · unfold M_isOne
    rw [L, bind_some']
    dsimp only
    unfold tolB
    show _ = some (b1 (!(anyB (fun w => S w && rowI R r w) (64 * 4) && anyB (fun w => S w && !rowI R r w) (64 * 4))))
    cases anyB (fun w => S w && rowI R r w) (64 * 4) <;> cases anyB (fun w => S w && !rowI R r w) (64 * 4) <;> rfl
  · intro i hi
    have tst : ∀ (x : Int) (c : Bool), ((if n32 (b1 c) = 0 then (chk (0 ≤ (4 * (lv : Int)) + (i : Int) ∧ (4 * (lv : Int)) + (i : Int) < 16) <| chk (0 ≤ (i : Int) ∧ (i : Int) < 4) <| if ¬ n64 x = n64 0 then some true else some false) else some true).bind fun c_20 => if c_20 = true then some (1 : Int) else some (0 : Int)) = some (b1 (c || anyB (fun j => qb x j) 64)) := by
      intro x c
      cases c with
      | true => rfl
      | false =>
        rw [show b1 false = 0 from rfl, if_pos (by decide), chk_pos (by omega), chk_pos (by omega), bind_ite, Bool.false_or]
        exact word_any x
    have e1 : ∀ j, j < 64 → qb (M 126 (4 * lv + i)) j = S (64 * i + j) := by
      intro j hj
      rw [← hS (64 * i + j) (by omega)]
      unfold sb
      rw [show (64 * i + j) / 64 = i by omega, show (64 * i + j) % 64 = j by omega]
    have e2 : ∀ j, j < 64 → S (64 * i + j) = true → qb (M 128 i) j = rowI R r (64 * i + j) := by
      intro j hj hs
      rw [← hrow (64 * i + j) (by omega) hs]
      unfold sb
      rw [show (64 * i + j) / 64 = i by omega, show (64 * i + j) % 64 = j by omega, Nat.zero_add]
    have g1 : anyB (fun w => S w && rowI R r w) (64 * (i + 1)) = (anyB (fun w => S w && rowI R r w) (64 * i) || anyB (fun j => qb (jand (M 126 (4 * lv + i)) (M 128 i)) j) 64) := by
      rw [show 64 * (i + 1) = 64 * i + 64 by omega, anyB_add]
      congr 1
      refine anyB_congr (fun j hj => ?_)
      rw [qb_and, e1 j hj]
      cases hs : S (64 * i + j) with
      | false => rfl
      | true => rw [e2 j hj hs]
    have g2 : anyB (fun w => S w && !rowI R r w) (64 * (i + 1)) = (anyB (fun w => S w && !rowI R r w) (64 * i) || anyB (fun j => qb (jand (M 126 (4 * lv + i)) (jxor (M 128 i) (-1))) j) 64) := by
      rw [show 64 * (i + 1) = 64 * i + 64 by omega, anyB_add]
      congr 1
      refine anyB_congr (fun j hj => ?_)
      rw [qb_and, qb_not _ hj, e1 j hj]
      cases hs : S (64 * i + j) with
      | false => rfl
      | true => rw [e2 j hj hs]
    unfold M_isOne_b7
    dsimp only
    rw [n32_nat (by omega), if_pos (by omega), show Int.toNat (4 * (lv : Int) + (i : Int)) = 4 * lv + i by omega, tn_nat, tst, bind_some', tst, bind_some', lt1_eq, g1, g2]
    rfl
  · unfold M_isOne_b7
    dsimp only
    rw [if_neg (by decide)]
