/-! ===== askings: what a set of worlds tells ===== -/
def tolB (R : Mem) (r W : Nat) (S : Nat → Bool) : Bool := !(anyB (fun w => S w && rowI R r w) W && anyB (fun w => S w && !rowI R r w) W)
def aks (R : Mem) (S : Nat → Bool) (p q : Nat) (a : Nat) : Nat → Bool := fun w => S w && decide (ansV R p q w = (a : Int))
def onB (R : Mem) (b r W : Nat) (S : Nat → Bool) : Bool := anyB (fun p => anyB (fun q => allB (fun a => tolB R r W (aks R S p q a)) 3) (nR R b)) (nP R b)
def twB (R : Mem) (b r W : Nat) (S : Nat → Bool) : Bool := anyB (fun p => anyB (fun q => allB (fun a => tolB R r W (aks R S p q a) || onB R b r W (aks R S p q a)) 3) (nR R b)) (nP R b)
theorem anyB_add {p : Nat → Bool} {m : Nat} : ∀ n, anyB p (m + n) = (anyB p m || anyB (fun j => p (m + j)) n)
  | 0 => by simp [anyB]
  | n + 1 => by
    show (anyB p (m + n) || p (m + n)) = (anyB p m || (anyB (fun j => p (m + j)) n || p (m + n)))
    rw [anyB_add n, Bool.or_assoc]
theorem word_any (x : Int) : (if ¬ n64 x = n64 0 then some (1 : Int) else some (0 : Int)) = some (b1 (anyB (fun j => qb x j) 64)) := by
  cases h : anyB (fun j => qb x j) 64 with
  | false =>
    rw [if_neg (fun z => z (n64_z.mpr (fun i hi => anyB_no.mp h i hi)))]
    rfl
  | true =>
    obtain ⟨i, hi, hq⟩ := anyB_iff.mp h
    rw [if_pos (fun z => by have := n64_z.mp z i hi; rw [hq] at this; cases this)]
    rfl
section ASK
variable {t b : Nat} {C R : Mem}
theorem A_isTold_eq (ht : isT t) {r o W : Nat} {S : Nat → Bool} (h0 : C 74 0 = (t : Int)) (h4 : C 74 4 = ((4 * r : Nat) : Int)) (hW : C t 6 = (W : Int)) (hW4 : W ≤ 4) (hr : r < 12) (ho : o + W ≤ 16) (hS : ∀ w, w < 64 * W → sb C 75 o w = S w) (hrow : ∀ w, w < 64 * W → S w = true → sb C (t + 9) (4 * r) w = rowI R r w) : A_isTold (o : Int) C = some (b1 (tolB R r (64 * W) S)) := by
  have L := it_for (body := A_isTold_b7 (o : Int) C) (a := (0, 0, 0)) (b := (b1 (anyB (fun w => S w && rowI R r w) (64 * W)), b1 (anyB (fun w => S w && !rowI R r w) (64 * W)))) (fun i => (b1 (anyB (fun w => S w && rowI R r w) (64 * i)), b1 (anyB (fun w => S w && !rowI R r w) (64 * i)), (i : Int))) W (by unfold FUEL; omega) rfl ?_ ?_
  · unfold A_isTold
    rw [L, bind_some']
    dsimp only
    unfold tolB
    cases anyB (fun w => S w && rowI R r w) (64 * W) <;> cases anyB (fun w => S w && !rowI R r w) (64 * W) <;> rfl
  · intro i hi
    unfold A_isTold_b7
    dsimp only
    rw [h0, chk_pos (isTI_of rfl ht), lt1_eq, tn_nat, hW, n32_nat (by omega), n32_nat (by omega), if_pos (by omega), h4, chk_pos (by omega), lt1_eq, chk_pos (by omega), tn_add, tn_add, word_any, bind_some', lt1_eq, ior_b1, word_any, bind_some', lt1_eq, ior_b1, lt1_eq]
    have e1 : ∀ j, j < 64 → qb (C 75 (o + i)) j = S (64 * i + j) := by
      intro j hj
      rw [← hS (64 * i + j) (by omega)]
      unfold sb
      rw [show (64 * i + j) / 64 = i by omega, show (64 * i + j) % 64 = j by omega]
    have e2 : ∀ j, j < 64 → S (64 * i + j) = true → qb (C (t + 9) (4 * r + i)) j = rowI R r (64 * i + j) := by
      intro j hj hs
      rw [← hrow (64 * i + j) (by omega) hs]
      unfold sb
      rw [show (64 * i + j) / 64 = i by omega, show (64 * i + j) % 64 = j by omega]
    have g1 : anyB (fun w => S w && rowI R r w) (64 * (i + 1)) = (anyB (fun w => S w && rowI R r w) (64 * i) || anyB (fun j => qb (jand (C 75 (o + i)) (C (t + 9) (4 * r + i))) j) 64) := by
      rw [show 64 * (i + 1) = 64 * i + 64 by omega, anyB_add]
      congr 1
      refine anyB_congr (fun j hj => ?_)
      rw [qb_and, e1 j hj]
      cases hs : S (64 * i + j) with
      | false => rfl
      | true => rw [e2 j hj hs]
    have g2 : anyB (fun w => S w && !rowI R r w) (64 * (i + 1)) = (anyB (fun w => S w && !rowI R r w) (64 * i) || anyB (fun j => qb (jand (C 75 (o + i)) (jxor (C (t + 9) (4 * r + i)) (-1))) j) 64) := by
      rw [show 64 * (i + 1) = 64 * i + 64 by omega, anyB_add]
      congr 1
      refine anyB_congr (fun j hj => ?_)
      rw [qb_and, qb_not _ hj, e1 j hj]
      cases hs : S (64 * i + j) with
      | false => rfl
      | true => rw [e2 j hj hs]
    rw [g1, g2]
    rfl
  · unfold A_isTold_b7
    dsimp only
    rw [h0, chk_pos (isTI_of rfl ht), lt1_eq, tn_nat, hW, if_neg (by omega)]
end ASK
