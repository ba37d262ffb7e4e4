/-! ===== operation: plain ===== -/
theorem fL_rL {N : Nat} {R : Mem} {k : Int} {w : Nat} {v u most : Int} (hr : rL N R k w v) (hf : fL N R k w most u) : (u ≤ most ∧ v = u) ∨ (most < u ∧ (v = -1 ∨ most < v)) := by
  obtain ⟨f1, f2, f3⟩ := hf
  rcases hr with ⟨e, no⟩ | ⟨⟨m, m1, m2⟩, m3⟩
  · refine Or.inr ⟨?_, Or.inl e⟩
    refine Classical.byContradiction (fun z => ?_)
    obtain ⟨m, h1, -⟩ := f3 (by omega)
    exact no m h1
  · by_cases q : u ≤ most
    · obtain ⟨m', h6, h7⟩ := f3 q
      have h8 := m3 m' h6
      have := f2 m m1 (by omega)
      exact Or.inl ⟨q, by omega⟩
    · refine Or.inr ⟨by omega, Or.inr ?_⟩
      refine Classical.byContradiction (fun z => ?_)
      have := f2 m m1 (by omega)
      omega
theorem rL_uniq {N : Nat} {R : Mem} {k : Int} {w : Nat} {v u : Int} (h1 : rL N R k w v) (h2 : rL N R k w u) : v = u := by
  rcases h1 with ⟨e, no⟩ | ⟨⟨m, m1, m2⟩, m3⟩
  · rcases h2 with ⟨e2, no2⟩ | ⟨⟨m', n1, n2⟩, n3⟩
    · omega
    · exact absurd n1 (no m')
  · rcases h2 with ⟨e2, no2⟩ | ⟨⟨m', n1, n2⟩, n3⟩
    · exact absurd m1 (no2 m)
    · have := m3 m' n1
      have := n3 m m1
      omega
theorem rL_rng {N : Nat} {R : Mem} {k : Int} {w : Nat} {v : Int} (hN : N ≤ 8) (h : rL N R k w v) : -1 ≤ v ∧ v ≤ 4 := by
  rcases h with ⟨e, no⟩ | ⟨⟨m, m1, m2⟩, m3⟩
  · omega
  · have := MT_half _ m m1.1 rfl
    omega
noncomputable def gW (N : Nat) (R : Mem) (k : Int) (w : Nat) : Int := @dite Int (∃ v, rL N R k w v) (Classical.propDecidable _) (fun h => h.choose) (fun _ => -1)
theorem gW_eq {N : Nat} {R : Mem} {k : Int} {w : Nat} {v : Int} (h : rL N R k w v) : gW N R k w = v := by
  unfold gW
  rw [dif_pos ⟨v, h⟩]
  exact rL_uniq (Exists.choose_spec (⟨v, h⟩ : ∃ v, rL N R k w v)) h
/-- the first world left with the fewest leagues, among the first n -/
noncomputable def pl (N b : Nat) (R : Mem) (k : Int) : Nat → Int × Int
  | 0 => (-1, 5)
  | n + 1 => if lfB R b k n = true ∧ 0 ≤ gW N R k n ∧ gW N R k n < (pl N b R k n).2 then ((n : Int), gW N R k n) else pl N b R k n
theorem pl_rng (N b : Nat) (R : Mem) (k : Int) : ∀ n, (((pl N b R k n).1 = -1 ∧ (pl N b R k n).2 = 5) ∨ (0 ≤ (pl N b R k n).1 ∧ (pl N b R k n).1 < (n : Int))) ∧ 0 ≤ (pl N b R k n).2 ∧ (pl N b R k n).2 ≤ 5
  | 0 => ⟨Or.inl ⟨rfl, rfl⟩, by show (0 : Int) ≤ 5; decide, by show (5 : Int) ≤ 5; decide⟩
  | n + 1 => by
    have ih := pl_rng N b R k n
    show (((if lfB R b k n = true ∧ 0 ≤ gW N R k n ∧ gW N R k n < (pl N b R k n).2 then ((n : Int), gW N R k n) else pl N b R k n).1 = -1 ∧ (if lfB R b k n = true ∧ 0 ≤ gW N R k n ∧ gW N R k n < (pl N b R k n).2 then ((n : Int), gW N R k n) else pl N b R k n).2 = 5) ∨ _) ∧ _
    by_cases q : lfB R b k n = true ∧ 0 ≤ gW N R k n ∧ gW N R k n < (pl N b R k n).2
    · simp only [pl, if_pos q]
      omega
    · simp only [pl, if_neg q]
      omega
theorem pl_zero {N b : Nat} {R : Mem} {k : Int} {n : Nat} (h : (pl N b R k n).2 = 0) : ∀ d, pl N b R k (n + d) = pl N b R k n
  | 0 => rfl
  | d + 1 => by
    have ih := pl_zero h d
    rw [← Nat.add_assoc]
    simp only [pl]
    rw [if_neg (by rw [ih]; omega), ih]
