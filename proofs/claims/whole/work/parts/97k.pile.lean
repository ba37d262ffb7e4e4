/-! ===== expressions: the reference's pile ===== -/
def XP (m : Nat) (R : Mem) : Prop := 1 ≤ m ∧ R 108 0 = 8 ∧ ∀ k, 0 < k → k < m → 1 ≤ R 108 k ∧ R 108 k ≤ 7
def agR (rk : Nat) (R : Mem) : Nat → Bool
  | 0 => false
  | m + 1 => if R 108 m < 7 ∧ (if rk = 1 then 1 < R 108 m else R 108 m = 6) then agR rk R m else decide (R 108 m = (rk : Int))
theorem agR_congr {rk : Nat} {R R' : Mem} : ∀ {m : Nat}, (∀ k, k < m → R' 108 k = R 108 k) → agR rk R' m = agR rk R m
  | 0, _ => rfl
  | m + 1, h => by
    unfold agR
    rw [h m (by omega), agR_congr (fun k hk => h k (by omega))]
theorem XP_rng {m : Nat} {R : Mem} (h : XP m R) {k : Nat} (hk : k < m) : 1 ≤ R 108 k ∧ R 108 k ≤ 8 := by
  obtain ⟨h1, h2, h3⟩ := h
  by_cases e : k = 0
  · subst e; omega
  · have := h3 k (by omega) hk; omega
theorem isAgain_eq {m rk : Nat} {R : Mem} (h : XP m R) (hm : m ≤ 110) (h42 : R 81 42 = (m : Int)) (hrk : rk = 1 ∨ rk = 5) : M_isAgain (rk : Int) R = some (b1 (agR rk R m)) := by
  have loop : ∀ l : Nat, l < m → ∀ f, l + 1 ≤ f → ∃ x : Nat, x < 120 ∧ it (M_isAgain_b7 (rk : Int) R) f (l : Int) = some (x : Int) ∧ decide (R 108 x = (rk : Int)) = agR rk R (l + 1) := by
    intro l
    induction l with
    | zero =>
      intro hl f hf
      obtain ⟨f, rfl⟩ : ∃ f', f = f' + 1 := ⟨f - 1, by omega⟩
      refine ⟨0, by omega, it_last ?_, ?_⟩
      · unfold M_isAgain_b7
        dsimp only
        rw [chk_pos (by omega), tn_nat, h.2.1, if_neg (by decide)]
      · unfold agR
        rw [h.2.1, if_neg (by rintro ⟨z, -⟩; omega)]
    | succ l ih =>
      intro hl f hf
      obtain ⟨f, rfl⟩ : ∃ f', f = f' + 1 := ⟨f - 1, by omega⟩
      obtain ⟨g1, g2⟩ := XP_rng h hl
      have nb : n32 (R 108 (l + 1)) = R 108 (l + 1) := n32_of (by omega) (by omega)
      by_cases q : R 108 (l + 1) < 7 ∧ (if rk = 1 then 1 < R 108 (l + 1) else R 108 (l + 1) = 6)
      · obtain ⟨x, x1, x2, x3⟩ := ih (by omega) f (by omega)
        refine ⟨x, x1, ?_, ?_⟩
        · rw [it_step (a' := (l : Int)) ?_]
          · exact x2
          · unfold M_isAgain_b7
            dsimp only
            rw [chk_pos (by omega), tn_nat, nb, if_pos q.1, jn_eq, lt1_eq, show ((l + 1 : Nat) : Int) + -1 = (l : Int) by omega]
            rcases hrk with rfl | rfl
            · rw [if_pos rfl] at q
              rw [if_pos (by decide), if_pos q.2]
            · rw [if_neg (by decide)] at q
              rw [if_neg (by decide), if_pos q.2]
        · rw [x3]
          rw [show agR rk R (l + 1 + 1) = (if R 108 (l + 1) < 7 ∧ (if rk = 1 then 1 < R 108 (l + 1) else R 108 (l + 1) = 6) then agR rk R (l + 1) else decide (R 108 (l + 1) = (rk : Int))) from rfl, if_pos q]
      · refine ⟨l + 1, by omega, it_last ?_, ?_⟩
        · unfold M_isAgain_b7
          dsimp only
          rw [chk_pos (by omega), tn_nat, nb]
          by_cases q7 : R 108 (l + 1) < 7
          · rw [if_pos q7, jn_eq]
            rcases hrk with rfl | rfl
            · rw [if_pos rfl] at q
              rw [if_pos (by decide), if_neg (fun z => q ⟨q7, z⟩)]
            · rw [if_neg (by decide)] at q
              rw [if_neg (by decide), if_neg (fun z => q ⟨q7, z⟩)]
          · rw [if_neg q7]
        · rw [show agR rk R (l + 1 + 1) = (if R 108 (l + 1) < 7 ∧ (if rk = 1 then 1 < R 108 (l + 1) else R 108 (l + 1) = 6) then agR rk R (l + 1) else decide (R 108 (l + 1) = (rk : Int))) from rfl, if_neg q]
  have hm1 := h.1
  obtain ⟨x, x1, x2, x3⟩ := loop (m - 1) (by omega) FUEL (by unfold FUEL; omega)
  unfold M_isAgain
  rw [lt1_eq, h42, show (m : Int) - 1 = ((m - 1 : Nat) : Int) by omega, x2, bind_some', chk_pos (by omega), tn_nat]
  rw [show m - 1 + 1 = m by omega] at x3
  rw [← x3]
  have nx : n32 (rk : Int) = (rk : Int) := n32_nat (by omega)
  by_cases e : R 108 x = (rk : Int)
  · rw [e, if_pos rfl, decide_eq_true rfl]; rfl
  · have hne : ¬ n32 (R 108 x) = n32 (rk : Int) := by
      rw [nx]
      intro z
      have hx : x < m ∨ m ≤ x := by omega
      rcases hx with hx | hx
      · obtain ⟨g1, g2⟩ := XP_rng h hx
        rw [n32_of (by omega) (by omega)] at z
        exact e z
      · -- the walk never leaves the pile
        have : ∀ l : Nat, l < m → ∀ f (y : Int), it (M_isAgain_b7 (rk : Int) R) f (l : Int) = some y → y < (m : Int) ∧ 0 ≤ y := by
          intro l
          induction l with
          | zero =>
            intro hl f y hy
            cases f with
            | zero => cases hy
            | succ f =>
              have e0 : M_isAgain_b7 (rk : Int) R ((0 : Nat) : Int) = some (.inr 0) := by
                unfold M_isAgain_b7
                dsimp only
                rw [chk_pos (by omega), tn_nat, h.2.1, if_neg (by decide)]
                rfl
              rw [it_last e0] at hy
              cases hy
              omega
          | succ l ih =>
            intro hl f y hy
            cases f with
            | zero => cases hy
            | succ f =>
              obtain ⟨g1, g2⟩ := XP_rng h hl
              have e0 : M_isAgain_b7 (rk : Int) R ((l + 1 : Nat) : Int) = some (.inr ((l + 1 : Nat) : Int)) ∨ M_isAgain_b7 (rk : Int) R ((l + 1 : Nat) : Int) = some (.inl (l : Int)) := by
                unfold M_isAgain_b7
                dsimp only
                rw [chk_pos (by omega), tn_nat, n32_of (a := R 108 (l + 1)) (by omega) (by omega), jn_eq, lt1_eq, show ((l + 1 : Nat) : Int) + -1 = (l : Int) by omega]
                by_cases a1 : R 108 (l + 1) < 7
                · rw [if_pos a1]
                  by_cases a2 : n32 (rk : Int) = 1
                  · rw [if_pos a2]
                    by_cases a3 : 1 < R 108 (l + 1)
                    · rw [if_pos a3]; exact Or.inr rfl
                    · rw [if_neg a3]; exact Or.inl rfl
                  · rw [if_neg a2]
                    by_cases a3 : R 108 (l + 1) = 6
                    · rw [if_pos a3]; exact Or.inr rfl
                    · rw [if_neg a3]; exact Or.inl rfl
                · rw [if_neg a1]; exact Or.inl rfl
              rcases e0 with e0 | e0
              · rw [it_last e0] at hy
                cases hy
                omega
              · rw [it_step e0] at hy
                exact ih (by omega) f y hy
        have := this (m - 1) (by omega) FUEL _ x2
        omega
    rw [if_neg hne, decide_eq_false e]; rfl
/-! popping -/
def popR (b s m : Nat) (R : Mem) : Mem := up (up (up (if R 108 (m - 1) = 4 then up (up R 81 42 ((m - 1 : Nat) : Int)) 81 41 (R 81 41 - 1) else up R 81 42 ((m - 1 : Nat) : Int)) 106 (900 * b + s) (R 109 (m - 1))) 107 (900 * b + s) (R 110 (m - 1))) 81 40 ((900 * b + s + 1 : Nat) : Int)
section POP
variable {b s m : Nat} {R : Mem}
theorem popR_o {a k : Nat} (h : ¬ (a = 81 ∧ (k = 40 ∨ k = 41 ∨ k = 42)) ∧ ¬ ((a = 106 ∨ a = 107) ∧ k = 900 * b + s)) : popR b s m R a k = R a k := by
  unfold popR
  rw [up_at, if_neg (by omega), up_at, if_neg (by omega), up_at, if_neg (by omega)]
  split
  · rw [up_at, if_neg (by omega), up_at, if_neg (by omega)]
  · rw [up_at, if_neg (by omega)]
theorem popR_40 : popR b s m R 81 40 = ((900 * b + s + 1 : Nat) : Int) := by unfold popR; rw [up_eq]
theorem popR_42 : popR b s m R 81 42 = ((m - 1 : Nat) : Int) := by
  unfold popR
  rw [up_k (by decide), up_c (by decide), up_c (by decide)]
  split
  · rw [up_k (by decide), up_eq]
  · rw [up_eq]
theorem popR_41 : popR b s m R 81 41 = if R 108 (m - 1) = 4 then R 81 41 - 1 else R 81 41 := by
  unfold popR
  rw [up_k (by decide), up_c (by decide), up_c (by decide)]
  by_cases q : R 108 (m - 1) = 4
  · rw [if_pos q, if_pos q, up_eq]
  · rw [if_neg q, if_neg q, up_k (by decide)]
theorem popR_106 : popR b s m R 106 (900 * b + s) = R 109 (m - 1) ∧ popR b s m R 107 (900 * b + s) = R 110 (m - 1) := by
  unfold popR
  rw [up_c (by decide), up_c (by decide), up_eq, up_c (by decide), up_eq]
  exact ⟨rfl, rfl⟩
theorem pop_step (h : XP m R) (hm : 2 ≤ m) (hm2 : m ≤ 110) (hb : b < 2) (hs : s < 900) (h42 : R 81 42 = (m : Int)) (h40 : R 81 40 = ((900 * b + s : Nat) : Int)) {r : Nat} (hr : r < 10) (ht : R 108 (m - 1) < 7) (hr2 : (r : Int) ≤ R 108 (m - 1)) : M_behindUnit_b29 (r : Int) R = some (.inl (popR b s m R)) := by
  obtain ⟨g1, g2⟩ := XP_rng h (show m - 1 < m by omega)
  have nb : n32 (R 108 (m - 1)) = R 108 (m - 1) := n32_of (by omega) (by omega)
  unfold M_behindUnit_b29 M_emit popR
  dsimp only
  rw [h42, show (m : Int) - 1 = ((m - 1 : Nat) : Int) by omega, chk_pos (by omega), tn_nat, nb, if_pos ht, n32_nat (by omega), if_pos hr2, bind_some', if_pos rfl, lt1_eq, up_eq, chk_pos (by omega), tn_nat, up_c (show (108 : Nat) ≠ 81 by decide), nb]
  by_cases q : R 108 (m - 1) = 4
  · have a42 : up (up R 81 42 ((m - 1 : Nat) : Int)) 81 41 (R 81 41 - 1) 81 42 = ((m - 1 : Nat) : Int) := by rw [up_k (by decide), up_eq]
    have a40 : up (up R 81 42 ((m - 1 : Nat) : Int)) 81 41 (R 81 41 - 1) 81 40 = ((900 * b + s : Nat) : Int) := by rw [up_k (by decide), up_k (by decide)]; exact h40
    rw [if_pos q, if_pos q, lt1_eq, up_k (show (41 : Nat) ≠ 42 by decide), bind_some', a42, chk_pos (by omega), tn_nat, a40, chk_pos (by omega), lt1_eq, tn_nat, up_c (show (81 : Nat) ≠ 106 by decide), a40, chk_pos (by omega), lt1_eq, tn_nat, lt1_eq, bind_some', up_c (show (81 : Nat) ≠ 107 by decide), up_c (show (81 : Nat) ≠ 106 by decide), a40, up_c (show (109 : Nat) ≠ 81 by decide), up_c (show (109 : Nat) ≠ 81 by decide), up_c (show (110 : Nat) ≠ 81 by decide), up_c (show (110 : Nat) ≠ 81 by decide)]
    rfl
  · have a42 : up R 81 42 ((m - 1 : Nat) : Int) 81 42 = ((m - 1 : Nat) : Int) := up_eq
    have a40 : up R 81 42 ((m - 1 : Nat) : Int) 81 40 = ((900 * b + s : Nat) : Int) := by rw [up_k (by decide)]; exact h40
    rw [if_neg q, if_neg q, bind_some', a42, chk_pos (by omega), tn_nat, a40, chk_pos (by omega), lt1_eq, tn_nat, up_c (show (81 : Nat) ≠ 106 by decide), a40, chk_pos (by omega), lt1_eq, tn_nat, lt1_eq, bind_some', up_c (show (81 : Nat) ≠ 107 by decide), up_c (show (81 : Nat) ≠ 106 by decide), a40, up_c (show (109 : Nat) ≠ 81 by decide), up_c (show (110 : Nat) ≠ 81 by decide)]
    rfl
theorem pop_end (h : XP m R) (hm2 : m ≤ 110) (h42 : R 81 42 = (m : Int)) {r : Nat} (hr : r < 10) (ht : ¬ (R 108 (m - 1) < 7 ∧ (r : Int) ≤ R 108 (m - 1))) : M_behindUnit_b29 (r : Int) R = some (.inr R) := by
  have h1 := h.1
  obtain ⟨g1, g2⟩ := XP_rng h (show m - 1 < m by omega)
  have nb : n32 (R 108 (m - 1)) = R 108 (m - 1) := n32_of (by omega) (by omega)
  unfold M_behindUnit_b29
  dsimp only
  rw [h42, show (m : Int) - 1 = ((m - 1 : Nat) : Int) by omega, chk_pos (by omega), tn_nat, nb, n32_nat (by omega)]
  by_cases q : R 108 (m - 1) < 7
  · rw [if_pos q, if_neg (fun z => ht ⟨q, z⟩), bind_some', if_neg (by decide)]
  · rw [if_neg q, bind_some', if_neg (by decide)]
theorem popR_XP (h : XP m R) (hm : 2 ≤ m) : XP (m - 1) (popR b s m R) := by
  obtain ⟨h1, h2, h3⟩ := h
  refine ⟨by omega, by rw [popR_o (by omega)]; exact h2, fun k hk hk2 => by rw [popR_o (by omega)]; exact h3 k hk (by omega)⟩
/-- the pops end -/
theorem pops_end {r : Nat} (hr : r < 10) (hb : b < 2) : ∀ (m s : Nat) (R : Mem), XP m R → m ≤ 110 → s + m < 900 → R 81 42 = (m : Int) → R 81 40 = ((900 * b + s : Nat) : Int) → ∃ R2, ∀ f, m + 1 ≤ f → it (M_behindUnit_b29 (r : Int)) f R = some R2
  | 0, _, _, h, _, _, _, _ => by have := h.1; omega
  | m + 1, s, R, h, hm, hs, h42, h40 => by
    by_cases q : R 108 m < 7 ∧ (r : Int) ≤ R 108 m
    · have hm1 : 1 ≤ m := by
        refine Classical.byContradiction (fun z => ?_)
        obtain rfl : m = 0 := by omega
        have := h.2.1
        omega
      obtain ⟨R2, h2⟩ := pops_end hr hb m (s + 1) (popR b s (m + 1) R) (popR_XP h (by omega)) (by omega) (by omega) popR_42 popR_40
      refine ⟨R2, fun f hf => ?_⟩
      obtain ⟨f, rfl⟩ : ∃ f', f = f' + 1 := ⟨f - 1, by omega⟩
      rw [it_step (pop_step h (by omega) hm hb (by omega) h42 h40 hr q.1 q.2)]
      exact h2 f (by omega)
    · refine ⟨R, fun f hf => ?_⟩
      obtain ⟨f, rfl⟩ : ∃ f', f = f' + 1 := ⟨f - 1, by omega⟩
      exact it_last (pop_end h hm h42 hr q)
theorem pop_eq (h : XP m R) (hm : 2 ≤ m) (hm2 : m ≤ 110) (hb : b < 2) (hs : s + m < 900) (h42 : R 81 42 = (m : Int)) (h40 : R 81 40 = ((900 * b + s : Nat) : Int)) {r : Nat} (hr : r < 10) (ht : R 108 (m - 1) < 7) (hr2 : (r : Int) ≤ R 108 (m - 1)) : it (M_behindUnit_b29 (r : Int)) FUEL R = it (M_behindUnit_b29 (r : Int)) FUEL (popR b s m R) := by
  obtain ⟨R2, h2⟩ := pops_end hr hb (m - 1) (s + 1) (popR b s m R) (popR_XP h hm) (by omega) (by omega) popR_42 popR_40
  rw [h2 FUEL (by unfold FUEL; omega), show FUEL = 9999999 + 1 from rfl, it_step (pop_step h hm hm2 hb (by omega) h42 h40 hr ht hr2)]
  exact h2 _ (by omega)
end POP
