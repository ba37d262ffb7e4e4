/-! ===== leagues: the reference's search, by depth ===== -/
def exX (N p : Nat) (m : Nat → Int) (m' : Nat → Int) : Prop := MT N m' ∧ ∀ q, q < p → m' q = m q
section EY
variable {b N L : Nat} {D : Nat → Nat}
theorem cands_eq (hN : N ≤ 8) {d p : Nat} (hpN : p < N) {M : Mem} (hM : SEx b N L D p M)
    (ih : ∀ (M : Mem) (best : Int), SEx b N L D (p + 1) M → bOK best → ∃ k best', k ≤ Bd d ∧ its M_leaguesOf_b142 k (best, ((p + 1 : Nat) : Int), M) (best', (p : Int), M) ∧ uS N L D (exX N (p + 1) (M 130)) best best' ∧ bOK best') :
    ∀ (n x : Nat) (best : Int), N - x ≤ n + 1 → p ≤ x → x < N → (x = p ∨ (M 130 p = -1 ∧ M 130 x = -1)) → bOK best → ∃ k best', k ≤ n * (Bd d + 1) + 1 ∧ its M_leaguesOf_b142 k (best, (p : Int), MSt M p x) (best', (p : Int) - 1, M) ∧ uS N L D (fun m' => exX N p (M 130) m' ∧ (x : Int) < m' p) best best' ∧ bOK best' := by
  intro n
  induction n with
  | zero =>
    intro x best hn hpx hx hxx hb
    obtain ⟨e1, e2, e3, e4, e5, e6⟩ := hM
    have hMx : PMk b N (MSt M p x) := by
      unfold MSt
      split
      · exact PMk_up e1 (Or.inr rfl)
      · exact PMk_up (PMk_up (PMk_up e1 (Or.inr rfl)) (Or.inl rfl)) (Or.inl rfl)
    rcases step_next hN e1 e4 hpN hpx hx (e5 p (Nat.le_refl _) hpN) hxx with ⟨s1, s2⟩ | ⟨c, c1, c2, -⟩
    · refine ⟨1, best, by omega, its_one (b142_back hN hb hMx hpN s1), uS_none ?_, hb⟩
      rintro m' ⟨⟨m1, m2⟩, m3⟩
      rcases m1 p hpN with z | ⟨q, q1, q2, q3, q4⟩
      · omega
      · omega
    · omega
  | succ n ihn =>
    intro x best hn hpx hx hxx hb
    have hM' := hM
    obtain ⟨e1, e2, e3, e4, e5, e6⟩ := hM
    have hMx : PMk b N (MSt M p x) := by
      unfold MSt
      split
      · exact PMk_up e1 (Or.inr rfl)
      · exact PMk_up (PMk_up (PMk_up e1 (Or.inr rfl)) (Or.inl rfl)) (Or.inl rfl)
    -- an extension pairs p with nobody whose mate stands
    have taken : ∀ m', exX N p (M 130) m' → ∀ y : Nat, p < y → y < N → m' p = (y : Int) → ¬ (0 ≤ M 130 y ∨ 0 ≤ M 130 p) := by
      rintro m' ⟨m1, m2⟩ y hy hyN hmy hor
      have hyp : m' y = (p : Int) := by
        rcases m1 p hpN with z | ⟨q, q1, q2, q3, q4⟩
        · omega
        · have : q = y := by omega
          subst this; exact q4
      rcases hor with z | z
      · have h1 := ext_mate e4 m1 e6 m2 (c := y) (by omega) hyN z
        have h2 := e6 y (by omega) hyN
        omega
      · have h1 := ext_mate e4 m1 e6 m2 (c := p) (by omega) hpN z
        have h2 := e6 p (by omega) hpN
        omega
    rcases step_next hN e1 e4 hpN hpx hx (e5 p (Nat.le_refl _) hpN) hxx with ⟨s1, s2⟩ | ⟨c, c1, c2, c3, c4, c5, c6⟩
    · refine ⟨1, best, by omega, its_one (b142_back hN hb hMx hpN s1), uS_none ?_, hb⟩
      rintro m' ⟨m1, m3⟩
      rcases m1.1 p hpN with z | ⟨q, q1, q2, q3, q4⟩
      · omega
      · exact taken m' m1 q (by omega) q1 q3 (s2 q (by omega) q1)
    · have hSc := SEx_c hM' (by omega : p < c) c2 c4 c3
      obtain ⟨k1, b1', k1b, t1, u1, o1⟩ := ih (MSt M p c) best hSc hb
      obtain ⟨k2, b2', k2b, t2, u2, o2⟩ := ihn c b1' (by omega) (by omega) c2 (Or.inr ⟨c4, c3⟩) o1
      have t0 := its_one (b142_go hN hb hMx hpN c6)
      refine ⟨1 + (k1 + k2), b2', ?_, its_add t0 (its_add t1 t2), ?_, o2⟩
      · rw [Nat.succ_mul]; omega
      · have e130 : ∀ q, q < p + 1 → MSt M p c 130 q = if q = p then (c : Int) else M 130 q := by
          intro q hq
          rw [MSt_130 (by omega)]
          unfold mAd
          by_cases y : q = p
          · rw [if_pos y, if_pos y]
          · rw [if_neg y, if_neg y, if_neg (by omega)]
        refine uS_comp u1 u2 ?_ ?_ ?_
        · rintro m' ⟨m1, m3⟩
          rcases m1.1 p hpN with z | ⟨q, q1, q2, q3, q4⟩
          · omega
          · by_cases y : q = c
            · subst y
              refine Or.inl ⟨m1.1, fun q' hq' => ?_⟩
              rw [e130 q' hq']
              by_cases y : q' = p
              · rw [if_pos y, y]; exact q3
              · rw [if_neg y]; exact m1.2 q' (by omega)
            · by_cases y2 : q < c
              · exact absurd (Or.inl (c5 q (by omega) y2)) (taken m' m1 q (by omega) q1 q3)
              · exact Or.inr ⟨m1, by omega⟩
        · rintro m' ⟨m1, m2⟩
          refine ⟨⟨m1, fun q hq => ?_⟩, ?_⟩
          · rw [m2 q (by omega), e130 q (by omega), if_neg (by omega)]
          · rw [m2 p (by omega), e130 p (by omega), if_pos rfl]; omega
        · rintro m' ⟨m1, m2⟩
          exact ⟨m1, by omega⟩
theorem explore (hN : N ≤ 8) (hL : L ≤ 40) (hpos : ∀ m, MT N m → metB N L D m = true → 1 ≤ npM m N) : ∀ (d p : Nat) (M : Mem) (best : Int), p + d = N → SEx b N L D p M → bOK best → ∃ k best', k ≤ Bd d ∧ its M_leaguesOf_b142 k (best, (p : Int), M) (best', (p : Int) - 1, M) ∧ uS N L D (exX N p (M 130)) best best' ∧ bOK best'
  | 0, p, M, best, hp, hM, hb => by
    have : p = N := by omega
    subst this
    obtain ⟨best', h1, h2⟩ := b142_full hN hL hpos hb hM
    exact ⟨1, best', Nat.le_refl _, its_one h1, h2, uS_ok hN h2 hb⟩
  | d + 1, p, M, best, hp, hM, hb => by
    have hpN : p < N := by omega
    have hM' := hM
    obtain ⟨e1, e2, e3, e4, e5, e6⟩ := hM
    have ih : ∀ (M : Mem) (best : Int), SEx b N L D (p + 1) M → bOK best → ∃ k best', k ≤ Bd d ∧ its M_leaguesOf_b142 k (best, ((p + 1 : Nat) : Int), M) (best', (p : Int), M) ∧ uS N L D (exX N (p + 1) (M 130)) best best' ∧ bOK best' := by
      intro M best h1 h2
      obtain ⟨k, best', z1, z2, z3, z4⟩ := explore hN hL hpos d (p + 1) M best (by omega) h1 h2
      rw [show ((p + 1 : Nat) : Int) - 1 = (p : Int) by omega] at z2
      exact ⟨k, best', z1, z2, z3, z4⟩
    obtain ⟨hSp, e130⟩ := SEx_p hM'
    have s0 := step_first (M := M) (p := p) (by omega) (e5 p (Nat.le_refl _) hpN)
    have t0 := its_one (b142_go hN hb e1 hpN s0)
    rw [show up M 131 p (p : Int) = MSt M p p by unfold MSt; rw [if_pos rfl]] at t0
    obtain ⟨k1, b1', k1b, t1, u1, o1⟩ := ih (MSt M p p) best hSp hb
    obtain ⟨k2, b2', k2b, t2, u2, o2⟩ := cands_eq hN hpN hM' ih d p b1' (by omega) (Nat.le_refl _) hpN (Or.inl rfl) o1
    refine ⟨1 + (k1 + k2), b2', ?_, its_add t0 (its_add t1 t2), ?_, o2⟩
    · show _ ≤ d * (Bd d + 1) + Bd d + 2
      omega
    · rw [e130] at u1
      refine uS_comp u1 u2 ?_ ?_ ?_
      · rintro m' ⟨m1, m2⟩
        by_cases y : m' p = M 130 p
        · refine Or.inl ⟨m1, fun q hq => ?_⟩
          by_cases y2 : q = p
          · subst y2; exact y
          · exact m2 q (by omega)
        · refine Or.inr ⟨⟨m1, m2⟩, ?_⟩
          have hno : M 130 p = -1 := by
            rcases e4 p hpN with z | ⟨q, q1, q2, q3, q4⟩
            · exact z
            · exact absurd (ext_mate e4 m1 e6 m2 (Nat.le_refl _) hpN (by omega)) y
          rcases m1 p hpN with z | ⟨q, q1, q2, q3, q4⟩
          · exact absurd (z.trans hno.symm) y
          · by_cases y3 : q < p
            · have h5 := m2 q y3
              rw [q4] at h5
              rcases e4 q q1 with z | ⟨s, s1, s2, s3, s4⟩
              · omega
              · have : s = p := by omega
                subst this
                omega
            · omega
      · rintro m' ⟨m1, m2⟩
        exact ⟨m1, fun q hq => m2 q (by omega)⟩
      · rintro m' ⟨m1, m2⟩
        exact m1
end EY
