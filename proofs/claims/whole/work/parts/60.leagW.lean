/-! ===== leagues: the reference's answer, whole ===== -/
section LW
variable {t b : Nat} {C R : Mem}
theorem Bd_le : ∀ d, d ≤ 8 → Bd d ≤ 219201 := by decide
theorem clear_eq (M : Mem) : Z (it M_leaguesOf_b100 FUEL (0, M)) (fun M' => (∀ q, q < 8 → M' 130 q = -1 ∧ M' 131 q = -1) ∧ ∀ c j, c ≠ 130 → c ≠ 131 → M' c j = M c j) := by
  refine it_Z (fun i st => st.1 = (i : Int) ∧ (∀ q, q < i → st.2 130 q = -1 ∧ st.2 131 q = -1) ∧ ∀ c j, c ≠ 130 → c ≠ 131 → st.2 c j = M c j) 8 (by unfold FUEL; omega) ⟨rfl, fun q hq => by omega, fun _ _ _ _ => rfl⟩ ?_ ?_
  · rintro i ⟨l, M1⟩ hi ⟨el, h1, h2⟩
    dsimp only at el h1 h2
    subst el
    unfold M_leaguesOf_b100
    dsimp only
    rw [n32_nat (by omega), if_pos (by omega), chk_pos (by omega), lt1_eq, chk_pos (by omega), lt1_eq, lt1_eq, tn_nat]
    refine Z_of (Or.inl ⟨_, rfl, rfl, fun q hq => ?_, fun c j z1 z2 => ?_⟩)
    · dsimp only
      by_cases y : q = i
      · subst y
        rw [up_c (by decide), up_eq, up_eq]
        exact ⟨rfl, rfl⟩
      · rw [up_c (by decide), up_k y, up_k y, up_c (by decide)]
        exact h1 q (by omega)
    · dsimp only
      rw [up_c z2, up_c z1]
      exact h2 c j z1 z2
  · rintro ⟨l, M1⟩ ⟨el, h1, h2⟩
    dsimp only at el h1 h2
    subst el
    unfold M_leaguesOf_b100
    dsimp only
    rw [n32_nat (by omega), if_neg (by omega)]
    exact Z_of ⟨_, rfl, h1, h2⟩
theorem leaguesOf_eq (hb : b < 2) {m : Nat} (hm : m ≤ 40) (eS : R 81 57 = (m : Int)) (hS : SayR 42 116 117 118 119 120 121 0 m t b C R) (hT : Town t b C R) {M : Mem} (hM : ∀ c j, (c = 112 ∨ (116 ≤ c ∧ c ≤ 121) ∨ (c = 81 ∧ (j = 57 ∨ j = 38)) ∨ c = 85) → M c j = R c j) (h38 : R 81 38 = (b : Int)) {k : Int} (hk : n32 k = k) {w : Nat} (hw : w < 2 ^ nF R b) (hwb : isB R w = true) : Z (M_leaguesOf (w : Int) k M) (fun r => rL (nP R b) R k w r.1 ∧ ∀ c j, c ≠ 129 → c ≠ 130 → c ≠ 131 → ¬ (c = 81 ∧ j = 70) → r.2 c j = M c j) := by
  have hP := num_P hT.1
  have eN : nS R = m := by unfold nS; rw [eS]; rfl
  unfold M_leaguesOf
  rw [lt1_eq, Z_bind_iff]
  refine Z_mono (lone_eq hm eS hS hT (fun c j hc => hM c j (by omega)) hk hw hwb) ?_
  rintro M1 ⟨a1, a2, a3⟩
  rw [Z_bind_iff]
  refine Z_mono (clear_eq M1) ?_
  rintro M2 ⟨c1, c2⟩
  have hcl := cnt_le (opW R k w) m
  have hf : ∀ c j, c ≠ 129 → c ≠ 130 → c ≠ 131 → ¬ (c = 81 ∧ j = 70) → M2 c j = M c j := fun c j z1 z2 z3 z4 => (c2 c j z2 z3).trans (a3 c j z1 z4)
  have hPM : PMk b (nP R b) M2 := by
    refine ⟨hb, ?_, ?_⟩
    · rw [hf _ _ (by decide) (by decide) (by decide) (by omega), hM _ _ (by omega)]; exact h38
    · rw [hf _ _ (by decide) (by decide) (by decide) (by omega), hM _ _ (by omega)]; exact hP.1
  have h70 : M2 81 70 = ((cnt (opW R k w) m : Nat) : Int) := by rw [c2 _ _ (by decide) (by decide)]; exact a1
  have hD : ∀ i, i < cnt (opW R k w) m → M2 129 i = ((sP R (clG (opW R k w) m i) : Nat) : Int) ∧ sP R (clG (opW R k w) m i) < 256 := fun i hi => by rw [c2 _ _ (by decide) (by decide)]; exact a2 i hi
  have hmt : MT (nP R b) (M2 130) := fun p hp => Or.inl (c1 p (by omega)).1
  have hSE : SEx b (nP R b) (cnt (opW R k w) m) (fun i => sP R (clG (opW R k w) m i)) 0 M2 := ⟨hPM, h70, hD, hmt, fun q _ hq => (c1 q (by omega)).2, fun q _ hq => by rw [(c1 q (by omega)).1]; omega⟩
  have e0 : npM (M2 130) (nP R b) = 0 := cnt_none (fun i hi => decide_eq_false (by rw [(c1 i (by omega)).1]; omega))
  rw [areMet_eq (D := fun i => sP R (clG (opW R k w) m i)) (by omega) (by omega) (PM_eq hPM) h70 hD hmt, bind_some']
  cases hme : metB (nP R b) (cnt (opW R k w) m) (fun i => sP R (clG (opW R k w) m i)) (M2 130) with
  | true =>
    rw [show b1 true = 1 from rfl, if_pos nz1, bind_some']
    have e : it M_leaguesOf_b142 FUEL (0, 0, M2) = some (0, M2) := by
      unfold FUEL
      refine it_last ?_
      unfold M_leaguesOf_b142
      dsimp only
      rw [if_neg (by decide)]
    rw [e, bind_some']
    refine Z_of ⟨Or.inr ⟨⟨M2 130, (gM_met eN hm).mpr ⟨hmt, hme⟩, by rw [e0]; rfl⟩, fun m' _ => by dsimp only; omega⟩, hf⟩
  | false =>
    rw [show b1 false = 0 from rfl, if_neg nz0, bind_some']
    have hpos : ∀ m', MT (nP R b) m' → metB (nP R b) (cnt (opW R k w) m) (fun i => sP R (clG (opW R k w) m i)) m' = true → 1 ≤ npM m' (nP R b) := by
      intro m' h1 h2
      have hL : 0 < cnt (opW R k w) m := by
        refine Classical.byContradiction (fun hno => ?_)
        have : cnt (opW R k w) m = 0 := by omega
        rw [this] at hme
        cases hme
      have h3 := allB_iff.mp h2 0 hL
      unfold cvM at h3
      obtain ⟨p, hp, hh⟩ := anyB_iff.mp h3
      simp only [Bool.and_eq_true, decide_eq_true_eq] at hh
      obtain ⟨q, q1, q2, q3, q4⟩ := MT_mate h1 hp hh.1
      have := mRm_np hp q2 q3 q4
      omega
    obtain ⟨n, best', n1, n2, n3, n4⟩ := explore (by omega) (by omega) hpos (nP R b) 0 M2 (-1) (by omega) hSE (Or.inl rfl)
    have hB := Bd_le (nP R b) hP.2.2
    have e : it M_leaguesOf_b142 FUEL (-1, 0, M2) = some (best', M2) := by
      have hfu : FUEL = (FUEL - n - 1 + 1) + n := by unfold FUEL; omega
      rw [hfu]
      have := its_it (f := FUEL - n - 1 + 1) n2
      rw [show ((0 : Nat) : Int) = 0 from rfl] at this
      rw [this]
      refine it_last ?_
      unfold M_leaguesOf_b142
      dsimp only
      rw [if_neg (by rintro ⟨z, -⟩; revert z; decide)]
    rw [e, bind_some']
    refine Z_of ⟨?_, hf⟩
    obtain ⟨u1, u2, u3⟩ := n3
    have eX : ∀ m', gM (nP R b) R k w m' ↔ (exX (nP R b) 0 (M2 130) m' ∧ metB (nP R b) (cnt (opW R k w) m) (fun i => sP R (clG (opW R k w) m i)) m' = true) := by
      intro m'
      rw [gM_met eN hm]
      constructor
      · rintro ⟨z1, z2⟩
        exact ⟨⟨z1, fun q hq => by omega⟩, z2⟩
      · rintro ⟨⟨z1, -⟩, z2⟩
        exact ⟨z1, z2⟩
    rcases u1 with z | ⟨m', m1, m2, m3⟩
    · refine Or.inl ⟨z, fun m' hm' => ?_⟩
      obtain ⟨y1, y2⟩ := (eX m').mp hm'
      have := u2 m' y1 y2
      omega
    · refine Or.inr ⟨⟨m', (eX m').mpr ⟨m1, m2⟩, m3.symm⟩, fun m2 hm2 => ?_⟩
      obtain ⟨y1, y2⟩ := (eX m2).mp hm2
      exact (u2 m2 y1 y2).2
end LW
