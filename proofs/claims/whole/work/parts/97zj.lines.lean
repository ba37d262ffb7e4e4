/-! ===== all lines of a text ===== -/
theorem into_b {l : Int} {C C1 : Mem} (hl : 0 ≤ l ∧ l ≤ 1600) (hgo : K_goesOn C = some 1) (e : (if n32 (C 40 4) = 1 then N_readFact C else if n32 (C 40 4) = 2 then N_readPerson C else if n32 (C 40 4) = 5 then N_readRow C else if n32 (C 40 4) = 6 then N_readAlways C else if n32 (C 40 4) = 7 then N_readTie C else if n32 (C 40 4) = 9 then N_readWish C else if n32 (C 40 4) = 11 then N_readLaw C else K_fail 2 C) = some C1) : N_readInto_b40 (l, C) = some (.inl (l + 1, C1)) := by
  unfold N_readInto_b40
  dsimp only
  have bs : ∀ x : Option Mem, (x.bind fun M => some M) = x := fun x => by cases x <;> rfl
  simp only [bs]
  rw [n32_of (by omega) (by omega), if_pos hl.2, hgo, bind_some', if_pos nz1, bind_some', if_pos rfl, e, bind_some', lt1_eq]
theorem into_end {l : Int} {C : Mem} (hgo : K_goesOn C = some 0) : N_readInto_b40 (l, C) = some (.inr C) := by
  unfold N_readInto_b40
  dsimp only
  by_cases q : n32 l ≤ 1600
  · rw [if_pos q, hgo, bind_some', if_neg (by decide), bind_some', if_neg (by decide)]
  · rw [if_neg q, bind_some', if_neg (by decide)]
theorem goes_24 {C : Mem} (h : C 40 4 = 24) : K_goesOn C = some 0 := by
  unfold K_goesOn
  rw [h, if_neg (by decide)]
theorem town_go {R R1 : Mem} (h4 : R 81 4 = 0) (h8 : ¬ n32 (R 81 8) = 0) (e : M_readLine R = some R1) : M_town_b74 R = some (.inl R1) := by
  unfold M_town_b74
  dsimp only
  rw [gd_good h4, bind_some', if_pos ⟨nz1, h8⟩, e, bind_some']
theorem town_flt {R : Mem} {f p : Int} (h : Flt R f p) : M_town_b74 R = some (.inr R) := by
  unfold M_town_b74
  dsimp only
  rw [fl_good h, bind_some', if_neg (by rintro ⟨z, -⟩; exact nz0 z)]
theorem town_zero {R : Mem} (h8 : R 81 8 = 0) (h4 : R 81 4 = 0) : M_town_b74 R = some (.inr R) := by
  unfold M_town_b74
  dsimp only
  rw [gd_good h4, bind_some', h8, if_neg (by rintro ⟨-, z⟩; exact nz0 z)]
theorem bad_line {R : Mem} {p : Int} (h : BadT R p) : M_readLine R = some (up (up R 81 4 1) 81 5 p) := by
  unfold M_readLine
  rw [lt1_eq, show (if n32 (R 81 8) = 3 then (M_isFull R).bind fun r_11 => if ¬ n32 r_11 = 0 then some true else some false else some true) = some true by rw [h.2.1, if_neg (by decide)], bind_some', if_pos rfl, bad_misp h, bind_some', bind_some', fl_good (up45_flt (by decide) (by decide)), bind_some', if_pos (by decide)]
def TEnd (n t b : Nat) (C R : Mem) : Prop := (∃ s p, PI t b s C R ∧ TB n C R ∧ Gd n 23 p C R) ∨ (∃ f p : Int, C 40 4 = 24 ∧ C 40 8 = f ∧ C 40 9 = p ∧ Flt R f p)
section LOOP
variable {n t b : Nat}
theorem town_fb {C R : Mem} {l : Int} (h : FB C R) (m : Nat) : ∃ C' R', it N_readInto_b40 (m + 2) (l, C) = some C' ∧ it M_town_b74 (m + 2) R = some R' ∧ TEnd n t b C' R' := by
  obtain ⟨f, p, ⟨c1, c2, c3⟩, -, hf | ⟨rfl, hbad⟩⟩ := h
  · exact ⟨C, R, it_last (into_end (goes_24 c1)), it_last (town_flt hf), Or.inr ⟨f, p, c1, c2, c3, hf⟩⟩
  · have hf : Flt (up (up R 81 4 1) 81 5 p) 1 p := up45_flt (by decide) (by decide)
    refine ⟨C, _, it_last (into_end (goes_24 c1)), ?_, Or.inr ⟨1, p, c1, c2, c3, hf⟩⟩
    rw [it_step (town_go hbad.1 (by rw [hbad.2.1]; decide) (bad_line hbad))]
    exact it_last (town_flt hf)
theorem one_line {C R : Mem} {kd p s : Nat} (hk : kd ≠ 23) (hB : TB n C R) (hI : PI t b s C R) (g : Gd n kd p C R) (h15 : C 27 15 = 0 ∨ C 27 15 = 1) : ∃ C1 R1, (if n32 (C 40 4) = 1 then N_readFact C else if n32 (C 40 4) = 2 then N_readPerson C else if n32 (C 40 4) = 5 then N_readRow C else if n32 (C 40 4) = 6 then N_readAlways C else if n32 (C 40 4) = 7 then N_readTie C else if n32 (C 40 4) = 9 then N_readWish C else if n32 (C 40 4) = 11 then N_readLaw C else K_fail 2 C) = some C1 ∧ M_readLine R = some R1 ∧ LRes n t b (p + 1) C1 R1 := by
  have e4 := Tok_4 g.2.2.2.2.2
  rw [e4]
  by_cases q1 : kd = 1
  · subst q1
    rw [if_pos (show ((1 : Nat) : Int) = 1 from rfl)]
    exact line_fact hB hI g
  by_cases q2 : kd = 2
  · subst q2
    rw [if_neg (by decide), if_pos (show ((2 : Nat) : Int) = 2 from rfl)]
    exact line_person hB hI g
  by_cases q5 : kd = 5
  · subst q5
    rw [if_neg (by decide), if_neg (by decide), if_pos (show ((5 : Nat) : Int) = 5 from rfl)]
    obtain ⟨C1, R1, a1, a2, a3, -⟩ := line_row hB hI g
    exact ⟨C1, R1, a1, a2, a3⟩
  by_cases q6 : kd = 6
  · subst q6
    rw [if_neg (by decide), if_neg (by decide), if_neg (by decide), if_pos (show ((6 : Nat) : Int) = 6 from rfl)]
    obtain ⟨C1, R1, a1, a2, a3, -⟩ := line_always hB hI h15 g
    exact ⟨C1, R1, a1, a2, a3⟩
  by_cases q7 : kd = 7
  · subst q7
    rw [if_neg (by decide), if_neg (by decide), if_neg (by decide), if_neg (by decide), if_pos (show ((7 : Nat) : Int) = 7 from rfl)]
    exact line_tie hB hI g
  by_cases q9 : kd = 9
  · subst q9
    rw [if_neg (by decide), if_neg (by decide), if_neg (by decide), if_neg (by decide), if_neg (by decide), if_pos (show ((9 : Nat) : Int) = 9 from rfl)]
    exact line_wish hB hI g
  by_cases q11 : kd = 11
  · subst q11
    rw [if_neg (by decide), if_neg (by decide), if_neg (by decide), if_neg (by decide), if_neg (by decide), if_neg (by decide), if_pos (show ((11 : Nat) : Int) = 11 from rfl)]
    exact line_law hB hI g
  rw [if_neg (by omega), if_neg (by omega), if_neg (by omega), if_neg (by omega), if_neg (by omega), if_neg (by omega), if_neg (by omega), gd_failC g]
  refine ⟨_, _, rfl, line_no g (fun _ => ?_), Or.inr (both_fail hB g (by decide) (by decide))⟩
  obtain ⟨⟨ht, hb, h27, h39⟩, -, -, -, -, -, -, -, -, -, hLw⟩ := hI
  rw [full_eq g.2.2.2.2.2 hb h39 hLw.2.1, if_neg q1, if_neg q2, if_neg q5, if_neg q6, if_neg q7, if_neg q9, if_neg q11]
  rfl
theorem town_loop : ∀ (k : Nat) (C R : Mem) (kd p s : Nat) (l : Int), n - p ≤ k → 0 ≤ l → l ≤ (p : Int) → TB n C R → PI t b s C R → Gd n kd p C R → (C 27 15 = 0 ∨ C 27 15 = 1) → ∀ m, k + 3 ≤ m → ∃ C' R', it N_readInto_b40 m (l, C) = some C' ∧ it M_town_b74 m R = some R' ∧ TEnd n t b C' R' := by
  intro k
  induction k with
  | zero =>
    intro C R kd p s l hk hl0 hl hB hI g h15 m hm
    obtain ⟨m, rfl⟩ : ∃ m', m = m' + 1 := ⟨m - 1, by omega⟩
    have e4 := Tok_4 g.2.2.2.2.2
    obtain ⟨g2, ⟨g3, g4, g5, g6⟩, g7, g8, ⟨e, e1, e2, e3, e4', e5⟩, gT⟩ := id g
    have hkd : kd = 23 := Decidable.byContradiction (fun q => by have := e3 q; omega)
    subst hkd
    obtain ⟨kk, h8, -, -, -, h0, -⟩ := Tok_8 gT
    have : kk = 0 := h0.mpr rfl
    subst this
    refine ⟨C, R, it_last (into_end ?_), it_last (town_zero h8 g3), Or.inl ⟨s, p, hI, hB, g⟩⟩
    unfold K_goesOn
    rw [e4, if_neg (by rintro ⟨z, -⟩; exact z rfl)]
  | succ k ih =>
    intro C R kd p s l hk hl0 hl hB hI g h15 m hm
    obtain ⟨m, rfl⟩ : ∃ m', m = m' + 1 := ⟨m - 1, by omega⟩
    have e4 := Tok_4 g.2.2.2.2.2
    have hkk := Tok_kd g.2.2.2.2.2
    obtain ⟨g2, ⟨g3, g4, g5, g6⟩, g7, g8, ⟨e, e1, e2, e3, e4', e5⟩, gT⟩ := id g
    by_cases hkd : kd = 23
    · subst hkd
      obtain ⟨kk, h8, -, -, -, h0, -⟩ := Tok_8 gT
      have : kk = 0 := h0.mpr rfl
      subst this
      refine ⟨C, R, it_last (into_end ?_), it_last (town_zero h8 g3), Or.inl ⟨s, p, hI, hB, g⟩⟩
      unfold K_goesOn
      rw [e4, if_neg (by rintro ⟨z, -⟩; exact z rfl)]
    · have hn := hB.1
      have hgo : K_goesOn C = some 1 := by
        unfold K_goesOn
        rw [e4, if_pos ⟨by omega, by omega⟩]
      obtain ⟨C1, R1, a1, a2, a3⟩ := one_line hkd hB hI g h15
      have hb1 := into_b (l := l) (C := C) (C1 := C1) ⟨hl0, by have := e3 hkd; omega⟩ hgo a1
      have hb2 := town_go g3 (by
        obtain ⟨kk, h8, -, hlt, -⟩ := Tok_8 gT
        have := Tok_not23 gT hkd
        rw [h8, n32_nat (by omega)]
        omega) a2
      rw [it_step hb1, it_step hb2]
      rcases a3 with ⟨s', kd', p', y1, y2, y3, y4⟩ | hfb
      · have h15' := keepC_1 hI.1.1 hI.1.2.2.1 h15 hb1
        exact ih C1 R1 kd' p' s' (l + 1) (by omega) (by omega) (by omega) y3 y2 y4 h15' m (by omega)
      · obtain ⟨m, rfl⟩ : ∃ m', m = m' + 2 := ⟨m - 2, by omega⟩
        exact town_fb hfb m
end LOOP
