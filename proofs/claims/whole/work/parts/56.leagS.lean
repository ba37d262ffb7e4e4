/-! ===== leagues: one step of the reference's search ===== -/
def PMk (b N : Nat) (M : Mem) : Prop := b < 2 ∧ M 81 38 = (b : Int) ∧ M 85 b = (N : Int)
theorem PM_eq {b N : Nat} {M : Mem} (h : PMk b N M) : M_personMany M = some (N : Int) := by
  obtain ⟨h1, h2, h3⟩ := h
  unfold M_personMany
  rw [h2, chk_pos (by omega), tn_nat, h3]
theorem PMk_up {b N : Nat} {M : Mem} (h : PMk b N M) {c k : Nat} {v : Int} (hc : c = 130 ∨ c = 131) : PMk b N (up M c k v) := by
  refine ⟨h.1, ?_, ?_⟩
  · rw [up_c (by omega)]; exact h.2.1
  · rw [up_c (by omega)]; exact h.2.2
def MSt (M : Mem) (p x : Nat) : Mem := if x = p then up M 131 p (p : Int) else up (up (up M 131 p (x : Int)) 130 p (x : Int)) 130 x (p : Int)
theorem mate_n32 {N : Nat} {m : Nat → Int} (hN : N ≤ 8) (h : MT N m) {p : Nat} (hp : p < N) : n32 (m p) = m p ∧ -1 ≤ m p ∧ m p < 8 := by
  rcases h p hp with e | ⟨c, c1, c2, c3, c4⟩
  · rw [e]; exact ⟨rfl, by omega, by omega⟩
  · rw [c3]; exact ⟨n32_nat (by omega), by omega, by omega⟩
section RS
variable {b N : Nat} {M : Mem}
theorem seekP_eq (hN : N ≤ 8) (hM : PMk b N M) (hm : MT N (M 130)) {p x : Nat} (hp : p < N) (hx : x < N) : ∃ c : Nat, x < c ∧ c ≤ N ∧ it (M_stepPair_b47 (p : Int) M) FUEL ((x : Int) + 1) = some (c : Int) ∧ (c < N → M 130 c = -1 ∧ M 130 p = -1) ∧ ∀ y, x < y → y < c → (0 ≤ M 130 y ∨ 0 ≤ M 130 p) := by
  have hpm := mate_n32 hN hm hp
  have L : Z (it (M_stepPair_b47 (p : Int) M) FUEL ((x : Int) + 1)) (fun v => ∃ c : Nat, x < c ∧ c ≤ N ∧ v = (c : Int) ∧ (c < N → M 130 c = -1 ∧ M 130 p = -1) ∧ ∀ y, x < y → y < c → (0 ≤ M 130 y ∨ 0 ≤ M 130 p)) := by
    refine it_Z (fun i v => v = ((x + 1 + i : Nat) : Int) ∧ ∀ y, x < y → y < x + 1 + i → (0 ≤ M 130 y ∨ 0 ≤ M 130 p)) (N - (x + 1)) (by unfold FUEL; omega) ⟨by omega, fun y h1 h2 => by omega⟩ ?_ ?_
    · rintro i v hi ⟨rfl, hI⟩
      generalize hc : x + 1 + i = c at *
      have hcm := mate_n32 hN hm (p := c) (by omega)
      unfold M_stepPair_b47
      dsimp only
      rw [PM_eq hM, bind_some', n32_nat (by omega), n32_nat (by omega), if_pos (by omega), chk_pos (by omega), tn_nat, tn_nat, hcm.1, hpm.1]
      by_cases q : M 130 c < 0
      · rw [if_pos q, chk_pos (by omega)]
        by_cases q2 : 0 ≤ M 130 p
        · rw [if_pos q2, bind_some', if_pos rfl, lt1_eq]
          refine Z_of (Or.inl ⟨_, rfl, by omega, fun y h1 h2 => ?_⟩)
          by_cases e : y = c
          · subst e; exact Or.inr q2
          · exact hI y h1 (by omega)
        · rw [if_neg q2, bind_some', if_neg (by decide)]
          exact Z_of (Or.inr ⟨_, rfl, c, by omega, by omega, rfl, fun _ => ⟨by omega, by omega⟩, hI⟩)
      · rw [if_neg q, bind_some', if_pos rfl, lt1_eq]
        refine Z_of (Or.inl ⟨_, rfl, by omega, fun y h1 h2 => ?_⟩)
        by_cases e : y = c
        · subst e; exact Or.inl (by omega)
        · exact hI y h1 (by omega)
    · rintro v ⟨rfl, hI⟩
      unfold M_stepPair_b47
      dsimp only
      rw [PM_eq hM, bind_some', n32_nat (by omega), n32_nat (by omega), if_neg (by omega)]
      exact Z_of ⟨_, rfl, x + 1 + (N - (x + 1)), by omega, by omega, rfl, fun z => by omega, hI⟩
  obtain ⟨v, e, c, h1, h2, rfl, h4, h5⟩ := L
  exact ⟨c, h1, h2, e, h4, h5⟩
theorem step_first {p : Nat} (hp : p < 8) (h : M 131 p = -1) : M_stepPair (p : Int) M = some (1, up M 131 p (p : Int)) := by
  unfold M_stepPair
  rw [chk_pos (by omega), lt1_eq, tn_nat, h, n32_m1, if_neg (by omega), bind_some', if_pos (by decide), lt1_eq]
theorem step_next (hN : N ≤ 8) (hM : PMk b N M) (hm : MT N (M 130)) {p x : Nat} (hp : p < N) (hpx : p ≤ x) (hx : x < N) (h131 : M 131 p = -1) (hxx : x = p ∨ (M 130 p = -1 ∧ M 130 x = -1)) : (M_stepPair (p : Int) (MSt M p x) = some (0, M) ∧ ∀ y, x < y → y < N → (0 ≤ M 130 y ∨ 0 ≤ M 130 p)) ∨ ∃ c : Nat, x < c ∧ c < N ∧ M 130 c = -1 ∧ M 130 p = -1 ∧ (∀ y, x < y → y < c → 0 ≤ M 130 y) ∧ M_stepPair (p : Int) (MSt M p x) = some (1, MSt M p c) := by
  have e131 : MSt M p x 131 p = (x : Int) := by
    unfold MSt
    by_cases e : x = p
    · rw [if_pos e, up_eq, e]
    · rw [if_neg e, up_c (by decide), up_c (by decide), up_eq]
  have hM4 : PMk b N (up M 131 p (x : Int)) := PMk_up hM (Or.inr rfl)
  have hmm : ∀ y, up M 131 p (x : Int) 130 y = M 130 y := fun y => up_c (by decide)
  have hm4 : MT N (up M 131 p (x : Int) 130) := by
    intro q hq
    rw [hmm]
    rcases hm q hq with e | ⟨c, c1, c2, c3, c4⟩
    · exact Or.inl e
    · exact Or.inr ⟨c, c1, c2, c3, by rw [hmm]; exact c4⟩
  obtain ⟨c, c1, c2, c3, c4, c5⟩ := seekP_eq hN hM4 hm4 (p := p) (x := x) hp hx
  simp only [hmm] at c4 c5
  have hpm := mate_n32 hN hm hp
  have first : (if (0 ≤ n32 (x : Int)) ∧ (¬ n32 (x : Int) = n32 (p : Int)) then chk (0 ≤ (p : Int) ∧ (p : Int) < 8) <| lt1 (up (MSt M p x) 130 p (-1)) fun M_10 => chk (0 ≤ (x : Int) ∧ (x : Int) < 8) <| lt1 (up M_10 130 (Int.toNat (x : Int)) (-1)) fun M_13 => some M_13 else some (MSt M p x)) = some (up M 131 p (x : Int)) := by
    rw [n32_nat (by omega), n32_nat (by omega)]
    by_cases e : x = p
    · subst e
      rw [if_neg (by omega)]
      unfold MSt
      rw [if_pos rfl]
    · rw [if_pos (by omega), chk_pos (by omega), lt1_eq, chk_pos (by omega), lt1_eq, tn_nat]
      unfold MSt
      rw [if_neg e]
      congr 1
      funext c k
      simp only [up_at]
      rcases hxx with z | ⟨z1, z2⟩
      · exact absurd z e
      · by_cases a1 : c = 130 ∧ k = x
        · obtain ⟨rfl, rfl⟩ := a1
          rw [if_pos ⟨rfl, rfl⟩, if_neg (by omega), z2]
        · rw [if_neg a1]
          by_cases a2 : c = 130 ∧ k = p
          · obtain ⟨rfl, rfl⟩ := a2
            rw [if_pos ⟨rfl, rfl⟩, if_neg (by omega), z1]
          · rw [if_neg a2, if_neg a1, if_neg a2]
  have back : up (up M 131 p (x : Int)) 131 p (-1) = M := by
    funext c k
    simp only [up_at]
    by_cases a1 : c = 131 ∧ k = p
    · obtain ⟨rfl, rfl⟩ := a1
      rw [if_pos ⟨rfl, rfl⟩, h131]
    · rw [if_neg a1, if_neg a1]
  have nxt : c ≠ p → up (up (up (up M 131 p (x : Int)) 131 p (c : Int)) 130 p (c : Int)) 130 c (p : Int) = MSt M p c := by
    intro e
    unfold MSt
    rw [if_neg e]
    congr 2
    funext c k
    simp only [up_at]
    by_cases a1 : c = 131 ∧ k = p
    · rw [if_pos a1, if_pos a1]
    · rw [if_neg a1, if_neg a1, if_neg a1]
  unfold M_stepPair
  rw [chk_pos (by omega), lt1_eq, tn_nat, e131, first, bind_some', n32_nat (by omega), if_neg (by omega), lt1_eq, c3, bind_some', PM_eq hM4, bind_some', n32_nat (by omega), n32_nat (by omega), tn_nat, hmm, hpm.1]
  by_cases q : c < N
  · obtain ⟨z1, z2⟩ := c4 q
    rw [if_pos (by omega), chk_pos (by omega), if_neg (by omega), bind_some', if_neg (by decide), lt1_eq, chk_pos (by omega), lt1_eq, chk_pos (by omega), lt1_eq, nxt (by omega)]
    refine Or.inr ⟨c, c1, q, z1, z2, fun y h1 h2 => ?_, rfl⟩
    have := c5 y h1 h2
    omega
  · rw [if_neg (by omega), bind_some', if_pos rfl, lt1_eq, back]
    exact Or.inl ⟨rfl, fun y h1 h2 => c5 y h1 (by omega)⟩
end RS
