/-! ===== persons told ===== -/
/-- what the finding of names rests on -/
def HN (t b : Nat) (C0 R0 : Mem) : Prop := HdP t b C0 R0 ∧ (C0 t 0 = (nF R0 b : Int) ∧ R0 84 b = (nF R0 b : Int) ∧ nF R0 b ≤ 8) ∧ (C0 t 1 = (nP R0 b : Int) ∧ R0 85 b = (nP R0 b : Int) ∧ nP R0 b ≤ 8) ∧ (C0 t 2 = (nR R0 b : Int) ∧ R0 86 b = (nR R0 b : Int) ∧ nR R0 b ≤ 12) ∧ NmP b C0 R0
section TOLD
variable {n t b s : Nat} {C0 R0 C R : Mem}
theorem HN_of (hI : PI t b s C0 R0) : HN t b C0 R0 := ⟨hI.1, ⟨(num_F hI.2.1).2.1, (num_F hI.2.1).1, (num_F hI.2.1).2.2⟩, ⟨(num_P hI.2.1).2.1, (num_P hI.2.1).1, (num_P hI.2.1).2.2⟩, ⟨(num_R hI.2.1).2.1, (num_R hI.2.1).1, (num_R hI.2.1).2.2⟩, hI.2.2.1⟩
theorem HN_keep {C1 R1 : Mem} (h : HN t b C0 R0) (hC : ∀ a k, (a = 27 ∧ k = 16) ∨ (a = t ∧ k < 3) ∨ a = 32 ∨ a = 33 ∨ a = 34 → C1 a k = C0 a k) (hR : ∀ a k, (a = 81 ∧ k = 39) ∨ (84 ≤ a ∧ a ≤ 86) ∨ (93 ≤ a ∧ a ≤ 95) → R1 a k = R0 a k) : HN t b C1 R1 := by
  obtain ⟨⟨q1, q2, q3, q4⟩, ⟨q5, q6, q7⟩, ⟨q8, q9, q10⟩, ⟨q11, q12, q13⟩, q14, q15, q16⟩ := h
  have eF : nF R1 b = nF R0 b := by unfold nF; rw [hR _ _ (by omega)]
  have eP : nP R1 b = nP R0 b := by unfold nP; rw [hR _ _ (by omega)]
  have eR : nR R1 b = nR R0 b := by unfold nR; rw [hR _ _ (by omega)]
  refine ⟨⟨q1, q2, (hC _ _ (by omega)).trans q3, (hR _ _ (by omega)).trans q4⟩, ?_, ?_, ?_, ?_, ?_, ?_⟩
  · rw [eF]; exact ⟨(hC _ _ (by omega)).trans q5, (hR _ _ (by omega)).trans q6, q7⟩
  · rw [eP]; exact ⟨(hC _ _ (by omega)).trans q8, (hR _ _ (by omega)).trans q9, q10⟩
  · rw [eR]; exact ⟨(hC _ _ (by omega)).trans q11, (hR _ _ (by omega)).trans q12, q13⟩
  · rw [eF]; exact NmQ_keep q14 (fun _ _ => hC _ _ (by omega)) (fun _ _ => hR _ _ (by omega))
  · rw [eP]; exact NmQ_keep q15 (fun _ _ => hC _ _ (by omega)) (fun _ _ => hR _ _ (by omega))
  · rw [eR]; exact NmQ_keep q16 (fun _ _ => hC _ _ (by omega)) (fun _ _ => hR _ _ (by omega))
theorem hereN (hI : HN t b C0 R0) (h : OnT C0 R0 C R) : (∃ v, M_factHere R = some v ∧ (v = -1 ∨ ∃ i : Nat, i < nF R0 b ∧ v = (i : Int)) ∧ (n32 (R 81 8) ≠ 2 → v = -1)) ∧ (∃ v, M_personHere R = some v ∧ (v = -1 ∨ ∃ i : Nat, i < nP R0 b ∧ v = (i : Int)) ∧ (n32 (R 81 8) ≠ 2 → v = -1)) ∧ ∃ v, M_rowHere R = some v ∧ (v = -1 ∨ ∃ i : Nat, i < nR R0 b ∧ v = (i : Int)) ∧ (n32 (R 81 8) ≠ 2 → v = -1) := by
  obtain ⟨⟨ht, hb, h27, h39⟩, hF, hP, hR, -⟩ := hI
  obtain ⟨a1, a2, a3, a4, a5, a6⟩ := facts_aJ
  have e39 : R 81 39 = (b : Int) := (h.2 _ _ (by omega)).trans h39
  refine ⟨?_, ?_, ?_⟩
  · obtain ⟨v, e, q1, q2⟩ := here_any (C0 := C0) (R0 := R0) (C := C) (R := R) h (rc := 93) (off := 8 * b) (cnt := nF R0 b) a4 (by omega) (by omega)
    refine ⟨v, ?_, q1, q2⟩
    unfold M_factHere
    rw [e39, chk_pos (by omega), tn_nat, h.2 84 _ (by omega), hF.2.1, show 8 * (b : Int) = ((8 * b : Nat) : Int) by omega, e]
    rfl
  · obtain ⟨v, e, q1, q2⟩ := here_any (C0 := C0) (R0 := R0) (C := C) (R := R) h (rc := 94) (off := 8 * b) (cnt := nP R0 b) a5 (by omega) (by omega)
    refine ⟨v, ?_, q1, q2⟩
    unfold M_personHere
    rw [e39, chk_pos (by omega), tn_nat, h.2 85 _ (by omega), hP.2.1, show 8 * (b : Int) = ((8 * b : Nat) : Int) by omega, e]
    rfl
  · obtain ⟨v, e, q1, q2⟩ := here_any (C0 := C0) (R0 := R0) (C := C) (R := R) h (rc := 95) (off := 12 * b) (cnt := nR R0 b) a6 (by omega) (by omega)
    refine ⟨v, ?_, q1, q2⟩
    unfold M_rowHere
    rw [e39, chk_pos (by omega), tn_nat, h.2 86 _ (by omega), hR.2.1, show 12 * (b : Int) = ((12 * b : Nat) : Int) by omega, e]
    rfl
theorem foundN (hI : HN t b C0 R0) (h : OnT C0 R0 C R) (hT : Tok n 21 C R) : (∃ v, N_findFact C = some v ∧ M_factHere R = some v ∧ (v = -1 ∨ ∃ i : Nat, i < nF R0 b ∧ v = (i : Int))) ∧ (∃ v, N_find 33 (nP R0 b : Int) C = some v ∧ M_personHere R = some v ∧ (v = -1 ∨ ∃ i : Nat, i < nP R0 b ∧ v = (i : Int))) ∧ ∃ v, N_findRow C = some v ∧ M_rowHere R = some v ∧ (v = -1 ∨ ∃ i : Nat, i < nR R0 b ∧ v = (i : Int)) := by
  obtain ⟨⟨ht, hb, h27, h39⟩, hF, hP, hR, n1, n2, n3⟩ := hI
  obtain ⟨a1, a2, a3, a4, a5, a6⟩ := facts_aJ
  have ht2 : t ≤ 15 := by unfold isT at ht; omega
  have e39 : R 81 39 = (b : Int) := (h.2 _ _ (by omega)).trans h39
  have e27 : C 27 16 = (t : Int) := (h.1 _ _ (by omega)).trans h27
  refine ⟨?_, ?_, ?_⟩
  · obtain ⟨v, e1, e2, q1⟩ := find_here h hT (cc := 32) (rc := 93) (off := 8 * b) (cnt := nF R0 b) (by decide) (by decide) n1 a1 (by omega) a4 (by omega) (by omega) (by omega)
    refine ⟨v, ?_, ?_, q1⟩
    · unfold N_findFact
      rw [e27, chk_pos (isTI_of rfl ht), lt1_eq, tn_nat, h.1 t _ (by omega), hF.1, e1]
      rfl
    · unfold M_factHere
      rw [e39, chk_pos (by omega), tn_nat, h.2 84 _ (by omega), hF.2.1, show 8 * (b : Int) = ((8 * b : Nat) : Int) by omega, e2]
      rfl
  · obtain ⟨v, e1, e2, q1⟩ := find_here h hT (cc := 33) (rc := 94) (off := 8 * b) (cnt := nP R0 b) (by decide) (by decide) n2 a2 (by omega) a5 (by omega) (by omega) (by omega)
    refine ⟨v, e1, ?_, q1⟩
    unfold M_personHere
    rw [e39, chk_pos (by omega), tn_nat, h.2 85 _ (by omega), hP.2.1, show 8 * (b : Int) = ((8 * b : Nat) : Int) by omega, e2]
    rfl
  · obtain ⟨v, e1, e2, q1⟩ := find_here h hT (cc := 34) (rc := 95) (off := 12 * b) (cnt := nR R0 b) (by decide) (by decide) n3 a3 (by omega) a6 (by omega) (by omega) (by omega)
    refine ⟨v, ?_, ?_, q1⟩
    · unfold N_findRow
      rw [e27, chk_pos (isTI_of rfl ht), lt1_eq, tn_nat, h.1 t _ (by omega), hR.1, e1]
      rfl
    · unfold M_rowHere
      rw [e39, chk_pos (by omega), tn_nat, h.2 86 _ (by omega), hR.2.1, show 12 * (b : Int) = ((12 * b : Nat) : Int) by omega, e2]
      rfl
/-- the class's look at a person: found, or failing -/
theorem see_gd (hI : HN t b C0 R0) (hon : OnT C0 R0 C R) {kd p : Nat} (g : Gd n kd p C R) : (∃ i, kd = 21 ∧ i < nP R0 b ∧ N_seePerson C = some ((i : Int), C) ∧ M_personHere R = some (i : Int)) ∨ (kd = 21 ∧ N_seePerson C = some (-1, failC C 5) ∧ M_personHere R = some (-1)) ∨ (kd ≠ 21 ∧ N_seePerson C = some (-1, failC C 2) ∧ M_personHere R = some (-1)) := by
  have gT := g.2.2.2.2.2
  unfold N_seePerson
  rw [sees_gd g]
  by_cases e : kd = 21
  · subst e
    obtain ⟨-, ⟨f, w1, w2, w3⟩, -⟩ := foundN hI hon gT
    obtain ⟨⟨ht, hb, h27, h39⟩, hF, hP, -⟩ := hI
    have ht2 : t ≤ 15 := by unfold isT at ht; omega
    have e27 : C 27 16 = (t : Int) := (hon.1 _ _ (by omega)).trans h27
    rw [if_pos rfl, bind_some']
    dsimp only
    rw [if_pos nz1, e27, chk_pos (isTI_of rfl ht), lt1_eq, tn_nat, hon.1 t _ (by omega), hP.1, w1, bind_some', bind_some', w2]
    rcases w3 with rfl | ⟨i, hi, rfl⟩
    · rw [if_pos (by decide), gd_failC g]
      exact Or.inr (Or.inl ⟨rfl, rfl, rfl⟩)
    · rw [n32_nat (by omega), if_neg (by omega)]
      exact Or.inl ⟨i, rfl, hi, rfl, rfl⟩
  · have h8 : n32 (R 81 8) ≠ 2 := fun z => e ((Tok_2 gT).mp z)
    obtain ⟨-, ⟨f, w1, w2, w3⟩, -⟩ := hereN hI hon
    rw [if_neg e, bind_some']
    dsimp only
    rw [if_neg nz0, bind_some', if_pos (by decide), bk_fail failC_at.1, w1, w3 h8]
    exact Or.inr (Or.inr ⟨e, rfl, rfl⟩)
theorem person_pass (hB : TB n C0 R0) (hI : HN t b C0 R0) {q : Nat} {P : Prop} (h : S3 n q P C0 R0 C R) : ∃ x C1 C' r y R', N_seePerson C = some (x, C1) ∧ K_pass C1 = some C' ∧ M_personHere R = some r ∧ M_told r R = some (y, R') ∧ (x = -1 ∨ ∃ i : Nat, i < nP R0 b ∧ x = (i : Int)) ∧ S3 n q (P ∧ ∃ i : Nat, i < nP R0 b ∧ x = (i : Int) ∧ y = (i : Int)) C0 R0 C' R' := by
  obtain ⟨hon, ⟨kd, p, hq, g, hP⟩ | ⟨f, p, ⟨c1, c2, c3⟩, ⟨q2, q3, q4⟩, hf | ⟨rfl, hbad⟩⟩⟩ := h
  · have hP8 := hI.2.2.1.2.2
    rcases see_gd hI hon g with ⟨i, rfl, hi, w1, w2⟩ | ⟨rfl, w1, w2⟩ | ⟨hk, w1, w2⟩
    · obtain ⟨C', R', k1, k2, k3⟩ := pass_ok hB hon g
      exact ⟨_, _, _, _, _, _, w1, k1, w2, told_i g (by omega) k2, Or.inr ⟨i, hi, rfl⟩, S3_mono k3 (by rw [if_neg (by decide)]; omega) (fun _ => ⟨hP, i, hi, rfl, rfl⟩)⟩
    · exact ⟨_, _, _, _, _, _, w1, bk_pass failC_at.1, w2, told_m1 g, Or.inl rfl, up45_on (failC_on hon _) _ _, Or.inr (both_fail hB g (by decide) (by decide))⟩
    · obtain ⟨y, k1⟩ := told_no g hk (w := -1)
      exact ⟨_, _, _, _, _, _, w1, bk_pass failC_at.1, w2, k1, Or.inl rfl, up45_on (failC_on hon _) _ _, Or.inr (both_fail hB g (by decide) (by decide))⟩
  · obtain ⟨-, ⟨v, w1, -⟩, -⟩ := hereN hI hon
    exact ⟨_, _, _, _, _, _, bk_person c1, bk_pass c1, w1, told_fl hf v, Or.inl rfl, hon, Or.inr ⟨f, p, ⟨c1, c2, c3⟩, ⟨q2, q3, q4⟩, Or.inl hf⟩⟩
  · obtain ⟨-, ⟨v, w1, -⟩, -⟩ := hereN hI hon
    obtain ⟨y, k1⟩ := told_bad hbad (w := v)
    exact ⟨_, _, _, _, _, _, bk_person c1, bk_pass c1, w1, k1, Or.inl rfl, up45_on hon _ _, Or.inr ⟨1, p, ⟨c1, c2, c3⟩, ⟨q2, q3, by rw [up45_6]; exact q4⟩, Or.inl (up45_flt (by decide) (by decide))⟩⟩
end TOLD
