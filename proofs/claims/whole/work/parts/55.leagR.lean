/-! ===== leagues: the reference's search ===== -/
def its {α β : Type} (body : α → Option (α ⊕ β)) : Nat → α → α → Prop
  | 0, a, b => a = b
  | k + 1, a, b => ∃ a1, body a = some (.inl a1) ∧ its body k a1 b
theorem its_add {α β : Type} {body : α → Option (α ⊕ β)} : ∀ {k l : Nat} {a b c : α}, its body k a b → its body l b c → its body (k + l) a c
  | 0, l, a, b, c, h1, h2 => by rw [Nat.zero_add, show a = b from h1]; exact h2
  | k + 1, l, a, b, c, ⟨a1, e, h1⟩, h2 => by
    rw [show k + 1 + l = (k + l) + 1 by omega]
    exact ⟨a1, e, its_add h1 h2⟩
theorem its_one {α β : Type} {body : α → Option (α ⊕ β)} {a b : α} (h : body a = some (.inl b)) : its body 1 a b := ⟨b, h, rfl⟩
theorem its_it {α β : Type} {body : α → Option (α ⊕ β)} : ∀ {k f : Nat} {a b : α}, its body k a b → it body (f + k) a = it body f b
  | 0, f, a, b, h => by rw [show a = b from h]; rfl
  | k + 1, f, a, b, ⟨a1, e, h1⟩ => by
    rw [show f + (k + 1) = (f + k) + 1 by omega, it_step e]
    exact its_it h1
theorem and1 {D p c : Nat} : ((D >>> p) &&& (D >>> c)) &&& 1 = if D.testBit p && D.testBit c then 1 else 0 := by
  rw [Nat.and_assoc, tb_shr]
  cases D.testBit c
  · simp
  · rw [if_pos rfl, tb_shr]
    simp
def metB (N L : Nat) (D : Nat → Nat) (m : Nat → Int) : Bool := allB (fun i => cvM m N (D i)) L
section RM
variable {N L : Nat} {D : Nat → Nat} {M : Mem}
theorem areMet_eq (hN : N ≤ 8) (hL : L ≤ 40) (hPM : M_personMany M = some (N : Int)) (h70 : M 81 70 = (L : Int)) (hD : ∀ i, i < L → M 129 i = (D i : Int) ∧ D i < 256) (hm : MT N (M 130)) : M_areMet M = some (b1 (metB N L D (M 130))) := by
  have inner : ∀ i, i < L → it (M_areMet_b14 M (i : Int)) FUEL (0, 0) = some (b1 (cvM (M 130) N (D i))) := by
    intro i hi
    refine it_for (fun p => (b1 (anyB (fun p => decide ((p : Int) < M 130 p) && ((D i).testBit p && (D i).testBit (M 130 p).toNat)) p), (p : Int))) N (by unfold FUEL; omega) rfl ?_ ?_
    · intro p hp
      obtain ⟨d1, d2⟩ := hD i hi
      have ec : ∀ q : Nat → Bool, anyB q (p + 1) = (anyB q p || q p) := fun q => rfl
      unfold M_areMet_b14
      dsimp only
      rw [hPM, bind_some', n32_nat (by omega), n32_nat (by omega), if_pos (by omega), jn_eq, ec]
      have hcond : (chk (0 ≤ (p : Int) ∧ (p : Int) < 8) <| (if (p : Int) < n32 (M 130 (Int.toNat (p : Int))) then chk (0 ≤ (i : Int) ∧ (i : Int) < 40) <| if n32 (iand (iand (ishr (M 129 (Int.toNat (i : Int))) (p : Int)) (ishr (M 129 (Int.toNat (i : Int))) (M 130 (Int.toNat (p : Int))))) 1) = 1 then some true else some false else some false).bind fun c_31 => if c_31 = true then some (1 : Int) else some (0 : Int)) = some (b1 (decide ((p : Int) < M 130 p) && ((D i).testBit p && (D i).testBit (M 130 p).toNat))) := by
        rw [chk_pos (by omega), tn_nat, tn_nat, d1]
        rcases hm p hp with e | ⟨c, c1, c2, c3, c4⟩
        · rw [e, n32_m1, if_neg (by omega), decide_eq_false (by omega)]
          rfl
        · rw [c3, n32_nat (by omega)]
          by_cases q : (p : Int) < (c : Int)
          · rw [if_pos q, chk_pos (by omega), ishr_nat (by omega) (by omega), ishr_nat (by omega) (by omega), iand_nat (Nat.lt_of_le_of_lt (Nat.shiftRight_le _ _) (by omega)) (Nat.lt_of_le_of_lt (Nat.shiftRight_le _ _) (by omega))]
            rw [show (1 : Int) = ((1 : Nat) : Int) from rfl, iand_nat (Nat.lt_of_le_of_lt Nat.and_le_left (Nat.lt_of_le_of_lt (Nat.shiftRight_le _ _) (by omega))) (by omega), and1, decide_eq_true q, tn_nat]
            cases (D i).testBit p <;> cases (D i).testBit c <;> rfl
          · rw [if_neg q, decide_eq_false q]
            rfl
      cases hA : anyB (fun p => decide ((p : Int) < M 130 p) && ((D i).testBit p && (D i).testBit (M 130 p).toNat)) p with
      | true =>
        rw [show b1 true = 1 from rfl, if_neg (by decide), bind_some', lt1_eq]
        rfl
      | false =>
        rw [show b1 false = 0 from rfl, if_pos (by decide), hcond, bind_some', lt1_eq]
        rfl
    · unfold M_areMet_b14
      dsimp only
      rw [hPM, bind_some', if_neg (by omega)]
      rfl
  have F := it_find (body := M_areMet_b2 M) (p := fun i => !cvM (M 130) N (D i)) (v := fun _ => (0 : Int)) L (by unfold FUEL; omega) ?_ ?_ ?_
  · unfold M_areMet metB allB
    cases hA : anyB (fun i => !cvM (M 130) N (D i)) L with
    | false =>
      rw [F.1 hA, bind_some']
      rfl
    | true =>
      obtain ⟨i, q1, q2, q3, q4⟩ := F.2 hA
      rw [q4, bind_some']
      rfl
  · intro i hi hp
    unfold M_areMet_b2
    dsimp only
    rw [h70, n32_nat (by omega), n32_nat (by omega), if_pos (by omega), inner i hi, bind_some']
    have : cvM (M 130) N (D i) = false := by simpa using hp
    rw [this]
    rfl
  · intro i hi hp
    unfold M_areMet_b2
    dsimp only
    rw [h70, n32_nat (by omega), n32_nat (by omega), if_pos (by omega), inner i hi, bind_some']
    have : cvM (M 130) N (D i) = true := by simpa using hp
    rw [this]
    rfl
  · unfold M_areMet_b2
    dsimp only
    rw [h70, if_neg (by omega)]
theorem pairs_eq (hN : N ≤ 8) (hPM : M_personMany M = some (N : Int)) (hm : MT N (M 130)) : M_pairs M = some ((npM (M 130) N : Nat) : Int) := by
  have F := it_for (body := M_pairs_b4 M) (a := (0, 0)) (b := ((npM (M 130) N : Nat) : Int)) (fun p => (((cnt (fun p => decide ((p : Int) < M 130 p)) p : Nat) : Int), (p : Int))) N (by unfold FUEL; omega) rfl ?_ ?_
  · unfold M_pairs
    rw [F]
    rfl
  · intro p hp
    have ec : ∀ q : Nat → Bool, cnt q (p + 1) = cnt q p + (if q p = true then 1 else 0) := fun q => rfl
    unfold M_pairs_b4
    dsimp only
    have hr : n32 (M 130 p) = M 130 p := by
      rcases hm p hp with e | ⟨c, c1, c2, c3, c4⟩
      · rw [e]; rfl
      · rw [c3, n32_nat (by omega)]
    rw [hPM, bind_some', n32_nat (by omega), n32_nat (by omega), if_pos (by omega), chk_pos (by omega), tn_nat, hr, ec]
    by_cases q : (p : Int) < M 130 p
    · rw [if_pos q, bind_some', decide_eq_true q]
      rfl
    · rw [if_neg q, bind_some', decide_eq_false q]
      rfl
  · unfold M_pairs_b4
    dsimp only
    rw [hPM, bind_some', if_neg (by omega)]
    rfl
end RM
