theorem splits_no {M : Mem} {lv q n : Nat} (hq : q < 96) (hn : n ≤ 12) (hR : M_rowMany M = some (n : Int)) (hqn : n ≤ q % 12) : M_splits (lv : Int) (q : Int) M = some 0 := by
  unfold M_splits
  rw [hR, bind_some', show (12 : Int) = ((12 : Nat) : Int) from rfl, irem_nat (by omega) (by omega) (by omega), n32_nat (by omega), n32_nat (by omega), if_pos (by omega)]
/-- where one answer holds the whole set, the question tells no more than the set itself -/
theorem prune {R : Mem} {p q r : Nat} {S L : Nat → Bool} (hno : tolB R r 256 S = false) (h : anyB (fun a => suB S (fun w => L w && decide (ansV R p q w = (a : Int))) 256) 3 = true) : allB (fun a => tolB R r 256 (aks R S p q a)) 3 = false := by
  obtain ⟨a, ha, hs⟩ := anyB_iff.mp h
  have hs := suB_iff.mp hs
  have e : tolB R r 256 (aks R S p q a) = tolB R r 256 S := tolB_congr (fun w hw => by
    unfold aks
    cases hS : S w with
    | false => rfl
    | true =>
      have := hs w hw hS
      rw [Bool.and_eq_true] at this
      rw [this.2]; rfl)
  cases h2 : allB (fun a => tolB R r 256 (aks R S p q a)) 3 with
  | false => rfl
  | true =>
    have := allB_iff.mp h2 a ha
    rw [e, hno] at this
    cases this
