/-! ===== lines: how they begin; facts ===== -/
theorem rl_Fact {R : Mem} (h8 : R 81 8 = 3) (h10 : R 81 10 = 1717658484) (hf : M_isFull R = some 0) (hg : M_isGood R = some 1) : M_readLine R = (M_goOn R).bind fun M => (M_readFact M).bind fun M1 => (M_stands 59 M1).bind fun r => (M_must r M1).bind fun M2 => some M2 := by
  unfold M_readLine
  rw [lt1_eq, h8, if_pos (by decide), hf, bind_some', if_neg nz0, bind_some', if_neg (by decide), bind_some', hg, bind_some', if_neg nz1, h10]
  congr 1
  funext M
  rw [if_pos rfl]
  cases M_readFact M with
  | none => rfl
  | some M1 =>
    rw [bind_some', bind_some', if_neg (by decide +kernel), bind_some', if_neg (by decide +kernel), bind_some', if_neg (by decide +kernel), bind_some', if_neg (by decide +kernel), bind_some', if_neg (by decide +kernel), bind_some', if_neg (by decide +kernel), bind_some']
theorem rl_Person {R : Mem} (h8 : R 81 8 = 3) (h10 : R 81 10 = 123581014175598) (hf : M_isFull R = some 0) (hg : M_isGood R = some 1) : M_readLine R = (M_goOn R).bind fun M => (M_readPerson M).bind fun M1 => (M_stands 59 M1).bind fun r => (M_must r M1).bind fun M2 => some M2 := by
  unfold M_readLine
  rw [lt1_eq, h8, if_pos (by decide), hf, bind_some', if_neg nz0, bind_some', if_neg (by decide), bind_some', hg, bind_some', if_neg nz1, h10]
  congr 1
  funext M
  rw [if_neg (by decide +kernel), bind_some', if_pos rfl]
  cases M_readPerson M with
  | none => rfl
  | some M1 =>
    rw [bind_some', bind_some', if_neg (by decide +kernel), bind_some', if_neg (by decide +kernel), bind_some', if_neg (by decide +kernel), bind_some', if_neg (by decide +kernel), bind_some', if_neg (by decide +kernel), bind_some']
theorem rl_Row {R : Mem} (h8 : R 81 8 = 3) (h10 : R 81 10 = 7499639) (hf : M_isFull R = some 0) (hg : M_isGood R = some 1) : M_readLine R = (M_goOn R).bind fun M => (M_readRow M).bind fun M1 => (M_stands 59 M1).bind fun r => (M_must r M1).bind fun M2 => some M2 := by
  unfold M_readLine
  rw [lt1_eq, h8, if_pos (by decide), hf, bind_some', if_neg nz0, bind_some', if_neg (by decide), bind_some', hg, bind_some', if_neg nz1, h10]
  congr 1
  funext M
  rw [if_neg (by decide +kernel), bind_some', if_neg (by decide +kernel), bind_some', if_pos rfl]
  cases M_readRow M with
  | none => rfl
  | some M1 =>
    rw [bind_some', bind_some', if_neg (by decide +kernel), bind_some', if_neg (by decide +kernel), bind_some', if_neg (by decide +kernel), bind_some', if_neg (by decide +kernel), bind_some']
theorem rl_Always {R : Mem} (h8 : R 81 8 = 3) (h10 : R 81 10 = 107118487239027) (hf : M_isFull R = some 0) (hg : M_isGood R = some 1) : M_readLine R = (M_goOn R).bind fun M => (M_readAlways M).bind fun M1 => (M_stands 59 M1).bind fun r => (M_must r M1).bind fun M2 => some M2 := by
  unfold M_readLine
  rw [lt1_eq, h8, if_pos (by decide), hf, bind_some', if_neg nz0, bind_some', if_neg (by decide), bind_some', hg, bind_some', if_neg nz1, h10]
  congr 1
  funext M
  rw [if_neg (by decide +kernel), bind_some', if_neg (by decide +kernel), bind_some', if_neg (by decide +kernel), bind_some', if_pos rfl]
  cases M_readAlways M with
  | none => rfl
  | some M1 =>
    rw [bind_some', bind_some', if_neg (by decide +kernel), bind_some', if_neg (by decide +kernel), bind_some', if_neg (by decide +kernel), bind_some']
theorem rl_Tie {R : Mem} (h8 : R 81 8 = 3) (h10 : R 81 10 = 7629157) (hf : M_isFull R = some 0) (hg : M_isGood R = some 1) : M_readLine R = (M_goOn R).bind fun M => (M_readTie M).bind fun M1 => (M_stands 59 M1).bind fun r => (M_must r M1).bind fun M2 => some M2 := by
  unfold M_readLine
  rw [lt1_eq, h8, if_pos (by decide), hf, bind_some', if_neg nz0, bind_some', if_neg (by decide), bind_some', hg, bind_some', if_neg nz1, h10]
  congr 1
  funext M
  rw [if_neg (by decide +kernel), bind_some', if_neg (by decide +kernel), bind_some', if_neg (by decide +kernel), bind_some', if_neg (by decide +kernel), bind_some', if_pos rfl]
  cases M_readTie M with
  | none => rfl
  | some M1 =>
    rw [bind_some', bind_some', if_neg (by decide +kernel), bind_some', if_neg (by decide +kernel), bind_some']
theorem rl_Wish {R : Mem} (h8 : R 81 8 = 3) (h10 : R 81 10 = 2003399528) (hf : M_isFull R = some 0) (hg : M_isGood R = some 1) : M_readLine R = (M_goOn R).bind fun M => (M_readWish M).bind fun M1 => (M_stands 59 M1).bind fun r => (M_must r M1).bind fun M2 => some M2 := by
  unfold M_readLine
  rw [lt1_eq, h8, if_pos (by decide), hf, bind_some', if_neg nz0, bind_some', if_neg (by decide), bind_some', hg, bind_some', if_neg nz1, h10]
  congr 1
  funext M
  rw [if_neg (by decide +kernel), bind_some', if_neg (by decide +kernel), bind_some', if_neg (by decide +kernel), bind_some', if_neg (by decide +kernel), bind_some', if_neg (by decide +kernel), bind_some', if_pos rfl]
  cases M_readWish M with
  | none => rfl
  | some M1 =>
    rw [bind_some', bind_some', if_neg (by decide +kernel), bind_some']
theorem rl_Law {R : Mem} (h8 : R 81 8 = 3) (h10 : R 81 10 = 7102839) (hf : M_isFull R = some 0) (hg : M_isGood R = some 1) : M_readLine R = (M_goOn R).bind fun M => (M_readLaw M).bind fun M1 => (M_stands 59 M1).bind fun r => (M_must r M1).bind fun M2 => some M2 := by
  unfold M_readLine
  rw [lt1_eq, h8, if_pos (by decide), hf, bind_some', if_neg nz0, bind_some', if_neg (by decide), bind_some', hg, bind_some', if_neg nz1, h10]
  congr 1
  funext M
  rw [if_neg (by decide +kernel), bind_some', if_neg (by decide +kernel), bind_some', if_neg (by decide +kernel), bind_some', if_neg (by decide +kernel), bind_some', if_neg (by decide +kernel), bind_some', if_neg (by decide +kernel), bind_some', if_pos rfl]
  cases M_readLaw M with
  | none => rfl
  | some M1 =>
    rw [bind_some', bind_some']
theorem wconst : ((WN 0 : Nat) : Int) = 1717658484 ∧ ((WN 1 : Nat) : Int) = 123581014175598 ∧ ((WN 2 : Nat) : Int) = 1668248436 ∧ ((WN 3 : Nat) : Int) = 461414299507 ∧ ((WN 4 : Nat) : Int) = 7499639 ∧ ((WN 5 : Nat) : Int) = 107118487239027 ∧ ((WN 6 : Nat) : Int) = 7629157 ∧ ((WN 7 : Nat) : Int) = 482955846501 ∧ ((WN 8 : Nat) : Int) = 2003399528 ∧ ((WN 9 : Nat) : Int) = 512970880104 ∧ ((WN 10 : Nat) : Int) = 7102839 := by
  obtain ⟨w0, w1, w2, w3, w4, w5, w6, w7, w8, w9, w10, -⟩ := WN_tab
  rw [w0, w1, w2, w3, w4, w5, w6, w7, w8, w9, w10]
  exact ⟨rfl, rfl, rfl, rfl, rfl, rfl, rfl, rfl, rfl, rfl, rfl⟩
section LINES
variable {n t b s : Nat} {C0 R0 C R : Mem}
theorem full_eq {kd : Nat} (hT : Tok n kd C R) (hb : b < 2) (h39 : R 81 39 = (b : Int)) (h91 : R 91 b = 0 ∨ R 91 b = 1) : M_isFull R = some (b1 (if kd = 1 then decide (n32 (R 84 b) = 8) else if kd = 2 then decide (n32 (R 85 b) = 8) else if kd = 5 then decide (n32 (R 86 b) = 12) else if kd = 6 then decide (n32 (R 87 b) = 4) else if kd = 7 then decide (n32 (R 88 b) = 12) else if kd = 9 then decide (n32 (R 89 b) = 12) else if kd = 11 then decide (R 91 b = 1) else true)) := by
  obtain ⟨c0, c1, c2, c3, c4, c5, c6, c7, c8, c9, c10⟩ := wconst
  have i0 := isWord_tok hT (j := 0) (by decide)
  have i1 := isWord_tok hT (j := 1) (by decide)
  have i4 := isWord_tok hT (j := 4) (by decide)
  have i5 := isWord_tok hT (j := 5) (by decide)
  have i6 := isWord_tok hT (j := 6) (by decide)
  have i8 := isWord_tok hT (j := 8) (by decide)
  have i10 := isWord_tok hT (j := 10) (by decide)
  rw [c0] at i0; rw [c1] at i1; rw [c4] at i4; rw [c5] at i5; rw [c6] at i6; rw [c8] at i8; rw [c10] at i10
  have g : ∀ (p : Prop) [Decidable p], (if p then some (1 : Int) else some 0) = some (b1 (decide p)) := by
    intro p _
    by_cases q : p
    · rw [if_pos q, decide_eq_true q]; rfl
    · rw [if_neg q, decide_eq_false q]; rfl
  have z1 : ∀ (p : Prop) [Decidable p], p → ¬ n32 (if p then (1 : Int) else 0) = 0 := by
    intro p _ hp
    rw [if_pos hp]; exact nz1
  have z0 : ∀ (p : Prop) [Decidable p], ¬ p → ¬ ¬ n32 (if p then (1 : Int) else 0) = 0 := by
    intro p _ hp
    rw [if_neg hp]; exact nz0
  unfold M_isFull
  rw [i0, bind_some', h39, tn_nat]
  by_cases q0 : kd = 0 + 1
  · rw [if_pos (z1 _ q0), chk_pos (by omega), g, if_pos q0]
  rw [if_neg (z0 _ q0), if_neg q0, i1, bind_some']
  by_cases q1 : kd = 1 + 1
  · rw [if_pos (z1 _ q1), chk_pos (by omega), g, if_pos q1]
  rw [if_neg (z0 _ q1), if_neg q1, i4, bind_some']
  by_cases q4 : kd = 4 + 1
  · rw [if_pos (z1 _ q4), chk_pos (by omega), g, if_pos q4]
  rw [if_neg (z0 _ q4), if_neg q4, i5, bind_some']
  by_cases q5 : kd = 5 + 1
  · rw [if_pos (z1 _ q5), chk_pos (by omega), g, if_pos q5]
  rw [if_neg (z0 _ q5), if_neg q5, i6, bind_some']
  by_cases q6 : kd = 6 + 1
  · rw [if_pos (z1 _ q6), chk_pos (by omega), g, if_pos q6]
  rw [if_neg (z0 _ q6), if_neg q6, i8, bind_some']
  by_cases q8 : kd = 8 + 1
  · rw [if_pos (z1 _ q8), chk_pos (by omega), g, if_pos q8]
  rw [if_neg (z0 _ q8), if_neg q8, i10, bind_some']
  by_cases q10 : kd = 10 + 1
  · rw [if_pos (z1 _ q10), chk_pos (by omega), if_pos q10]
    rcases h91 with e | e <;> rw [e] <;> rfl
  rw [if_neg (z0 _ q10), if_neg q10]
  rfl
theorem line_no {kd p : Nat} (g : Gd n kd p C R) (h : n32 (R 81 8) = 3 → M_isFull R = some 1) : M_readLine R = some (up (up R 81 4 2) 81 5 (p : Int)) := by
  unfold M_readLine
  have e : (if n32 (R 81 8) = 3 then (M_isFull R).bind fun r_11 => if ¬ n32 r_11 = 0 then some true else some false else some true) = some true := by
    by_cases q : n32 (R 81 8) = 3
    · rw [if_pos q, h q]; rfl
    · rw [if_neg q]
  rw [lt1_eq, e, bind_some', if_pos rfl, tok_misp g.2.1.1 g.2.2.2.2.2 g.2.2.2.1, bind_some', bind_some', fl_good (up45_flt (by decide) (by decide)), bind_some', if_pos (by decide)]
theorem S3_up {q : Nat} {P : Prop} (h : S3 n q P C0 R0 C R) {c k : Nat} {v : Int} (hc : c ≠ 81) : S3 n q P C0 (up R0 c k v) C (up R c k v) := by
  have e : ∀ j, up R c k v 81 j = R 81 j := fun j => up_c (Ne.symm hc)
  obtain ⟨⟨h1, h2⟩, h3⟩ := h
  refine ⟨⟨h1, fun a j z => ?_⟩, ?_⟩
  · rw [up_at, up_at]
    by_cases q : a = c ∧ j = k
    · rw [if_pos q, if_pos q]
    · rw [if_neg q, if_neg q]; exact h2 a j z
  · rcases h3 with ⟨kd, p, hq, g, hP⟩ | ⟨f, p, c1, q1, q2⟩
    · refine Or.inl ⟨kd, p, hq, ?_, hP⟩
      unfold Gd Tok at g ⊢
      simp only [e]
      exact g
    · refine Or.inr ⟨f, p, c1, ?_⟩
      unfold FBr Flt BadT
      simp only [e]
      exact ⟨q1, q2⟩
theorem TB_up (h : TB n C0 R0) {c k : Nat} {v : Int} (hc : c ≠ 81) (hc2 : c ≠ 83) : TB n C0 (up R0 c k v) := by
  obtain ⟨h1, h2, h3, h4, h5⟩ := h
  exact ⟨h1, h2, by rw [up_c (Ne.symm hc)]; exact h3, fun i hi => by rw [up_c (Ne.symm hc2)]; exact h4 i hi, h5⟩
theorem begin_no {kd p : Nat} (g : Gd n kd p C R) : N_begin 0 C = some (failC C 2) := by
  unfold N_begin
  rw [if_neg nz0, gd_failC g]
  rfl
theorem begin_yes : N_begin 1 C = K_pass C := by
  unfold N_begin
  rw [if_pos nz1]
  cases K_pass C <;> rfl
theorem facts_aJ : aJ 80 32 = ((8 : Nat) : Int) ∧ aJ 80 33 = ((8 : Nat) : Int) ∧ aJ 80 34 = ((12 : Nat) : Int) ∧ aJ 138 93 = ((16 : Nat) : Int) ∧ aJ 138 94 = ((16 : Nat) : Int) ∧ aJ 138 95 = ((24 : Nat) : Int) := by decide
/-- where the names are found, reference, any state -/
theorem hereF (hI : PI t b s C0 R0) (h : OnT C0 R0 C R) : (∃ v, M_factHere R = some v ∧ (v = -1 ∨ ∃ i : Nat, i < nF R0 b ∧ v = (i : Int)) ∧ (n32 (R 81 8) ≠ 2 → v = -1)) ∧ (∃ v, M_personHere R = some v ∧ (v = -1 ∨ ∃ i : Nat, i < nP R0 b ∧ v = (i : Int)) ∧ (n32 (R 81 8) ≠ 2 → v = -1)) ∧ ∃ v, M_rowHere R = some v ∧ (v = -1 ∨ ∃ i : Nat, i < nR R0 b ∧ v = (i : Int)) ∧ (n32 (R 81 8) ≠ 2 → v = -1) := by
  obtain ⟨⟨ht, hb, h27, h39⟩, hN, -⟩ := hI
  obtain ⟨a1, a2, a3, a4, a5, a6⟩ := facts_aJ
  have hF := num_F hN
  have hP := num_P hN
  have hR := num_R hN
  have e39 : R 81 39 = (b : Int) := (h.2 _ _ (by omega)).trans h39
  refine ⟨?_, ?_, ?_⟩
  · obtain ⟨v, e, q1, q2⟩ := here_any (C0 := C0) (R0 := R0) (C := C) (R := R) h (rc := 93) (off := 8 * b) (cnt := nF R0 b) a4 (by omega) (by omega)
    refine ⟨v, ?_, q1, q2⟩
    unfold M_factHere
    rw [e39, chk_pos (by omega), tn_nat, h.2 84 _ (by omega), hF.1, show 8 * (b : Int) = ((8 * b : Nat) : Int) by omega, e]
    rfl
  · obtain ⟨v, e, q1, q2⟩ := here_any (C0 := C0) (R0 := R0) (C := C) (R := R) h (rc := 94) (off := 8 * b) (cnt := nP R0 b) a5 (by omega) (by omega)
    refine ⟨v, ?_, q1, q2⟩
    unfold M_personHere
    rw [e39, chk_pos (by omega), tn_nat, h.2 85 _ (by omega), hP.1, show 8 * (b : Int) = ((8 * b : Nat) : Int) by omega, e]
    rfl
  · obtain ⟨v, e, q1, q2⟩ := here_any (C0 := C0) (R0 := R0) (C := C) (R := R) h (rc := 95) (off := 12 * b) (cnt := nR R0 b) a6 (by omega) (by omega)
    refine ⟨v, ?_, q1, q2⟩
    unfold M_rowHere
    rw [e39, chk_pos (by omega), tn_nat, h.2 86 _ (by omega), hR.1, show 12 * (b : Int) = ((12 * b : Nat) : Int) by omega, e]
    rfl
/-- where the names are found, both, at a name -/
theorem foundF (hI : PI t b s C0 R0) (h : OnT C0 R0 C R) (hT : Tok n 21 C R) : (∃ v, N_findFact C = some v ∧ M_factHere R = some v ∧ (v = -1 ∨ ∃ i : Nat, i < nF R0 b ∧ v = (i : Int))) ∧ (∃ v, N_find 33 (nP R0 b : Int) C = some v ∧ M_personHere R = some v ∧ (v = -1 ∨ ∃ i : Nat, i < nP R0 b ∧ v = (i : Int))) ∧ ∃ v, N_findRow C = some v ∧ M_rowHere R = some v ∧ (v = -1 ∨ ∃ i : Nat, i < nR R0 b ∧ v = (i : Int)) := by
  obtain ⟨⟨ht, hb, h27, h39⟩, hN, ⟨n1, n2, n3⟩, -⟩ := hI
  obtain ⟨a1, a2, a3, a4, a5, a6⟩ := facts_aJ
  have ht2 : t ≤ 15 := by unfold isT at ht; omega
  have hF := num_F hN
  have hP := num_P hN
  have hR := num_R hN
  have e39 : R 81 39 = (b : Int) := (h.2 _ _ (by omega)).trans h39
  have e27 : C 27 16 = (t : Int) := (h.1 _ _ (by omega)).trans h27
  refine ⟨?_, ?_, ?_⟩
  · obtain ⟨v, e1, e2, q1⟩ := find_here h hT (cc := 32) (rc := 93) (off := 8 * b) (cnt := nF R0 b) (by decide) (by decide) n1 a1 (by omega) a4 (by omega) (by omega) (by omega)
    refine ⟨v, ?_, ?_, q1⟩
    · unfold N_findFact
      rw [e27, chk_pos (isTI_of rfl ht), lt1_eq, tn_nat, h.1 t _ (by omega), hF.2.1, e1]
      rfl
    · unfold M_factHere
      rw [e39, chk_pos (by omega), tn_nat, h.2 84 _ (by omega), hF.1, show 8 * (b : Int) = ((8 * b : Nat) : Int) by omega, e2]
      rfl
  · obtain ⟨v, e1, e2, q1⟩ := find_here h hT (cc := 33) (rc := 94) (off := 8 * b) (cnt := nP R0 b) (by decide) (by decide) n2 a2 (by omega) a5 (by omega) (by omega) (by omega)
    refine ⟨v, e1, ?_, q1⟩
    unfold M_personHere
    rw [e39, chk_pos (by omega), tn_nat, h.2 85 _ (by omega), hP.1, show 8 * (b : Int) = ((8 * b : Nat) : Int) by omega, e2]
    rfl
  · obtain ⟨v, e1, e2, q1⟩ := find_here h hT (cc := 34) (rc := 95) (off := 12 * b) (cnt := nR R0 b) (by decide) (by decide) n3 a3 (by omega) a6 (by omega) (by omega) (by omega)
    refine ⟨v, ?_, ?_, q1⟩
    · unfold N_findRow
      rw [e27, chk_pos (isTI_of rfl ht), lt1_eq, tn_nat, h.1 t _ (by omega), hR.2.1, e1]
      rfl
    · unfold M_rowHere
      rw [e39, chk_pos (by omega), tn_nat, h.2 86 _ (by omega), hR.1, show 12 * (b : Int) = ((12 * b : Nat) : Int) by omega, e2]
      rfl
/-- a name that is new among facts and rows -/
theorem newFR (hB : TB n C0 R0) (hI : PI t b s C0 R0) {q : Nat} {P : Prop} (h : S3 n q P C0 R0 C R) : ∃ f v x C' y R', M_factHere R = some f ∧ ((if n32 f < 0 then (M_rowHere R).bind fun r_13 => if 0 ≤ n32 r_13 then some true else some false else some true).bind fun c_12 => if c_12 = true then some (1 : Int) else some (0 : Int)) = some v ∧ N_readNewOfFactsAndRows C = some (x, C') ∧ M_fresh v R = some (y, R') ∧ S3 n q (P ∧ ∃ m : Nat, m < 2 ^ 40 ∧ x = (m : Int) ∧ y = ((w256 m : Nat) : Int)) C0 R0 C' R' := by
  have hF := num_F hI.2.1
  have hR := num_R hI.2.1
  obtain ⟨⟨f, ef, vf, -⟩, -, r, er, vr, -⟩ := hereF hI h.1
  have nf : n32 f = f := by rcases vf with e | ⟨i, hi, e⟩ <;> rw [e] <;> first | rfl | exact n32_nat (by omega)
  have nr : n32 r = r := by rcases vr with e | ⟨i, hi, e⟩ <;> rw [e] <;> first | rfl | exact n32_nat (by omega)
  have ev : ((if n32 f < 0 then (M_rowHere R).bind fun r_13 => if 0 ≤ n32 r_13 then some true else some false else some true).bind fun c_12 => if c_12 = true then some (1 : Int) else some (0 : Int)) = some (b1 (decide (¬ (f = -1 ∧ r = -1)))) := by
    rw [er, bind_some', nf, nr]
    by_cases q1 : f < 0
    · rw [if_pos q1]
      by_cases q2 : 0 ≤ r
      · rw [if_pos q2, decide_eq_true (by omega)]; rfl
      · have hf1 : f = -1 := by rcases vf with e | ⟨i, -, e⟩ <;> omega
        have hr1 : r = -1 := by rcases vr with e | ⟨i, -, e⟩ <;> omega
        rw [if_neg q2, decide_eq_false (fun z => z ⟨hf1, hr1⟩)]; rfl
    · rw [if_neg q1, decide_eq_true (by omega)]; rfl
  obtain ⟨s1, C1, C2, x, C', y, R', k1, k2, k3, k4, k5, k6, k7⟩ := fresh_ok hB (v := b1 (decide (¬ (f = -1 ∧ r = -1)))) (dup := decide (¬ (f = -1 ∧ r = -1))) h (fun _ _ => rfl)
  refine ⟨f, _, x, C', y, R', ef, ev, ?_, k6, k7⟩
  unfold N_readNewOfFactsAndRows
  rw [k1, bind_some']
  dsimp only
  rcases k2 with rfl | ⟨rfl, rfl, p, g⟩
  · rw [if_neg nz0, bind_some', ← k3 rfl, k5]
    rfl
  · have k4 := k4 rfl
    obtain ⟨⟨f', w1, w2, -⟩, -, r', w3, w4, -⟩ := foundF hI h.1 g.2.2.2.2.2
    rw [ef] at w2
    rw [er] at w4
    cases w2
    cases w4
    rw [if_pos nz1, w1, bind_some', w3, bind_some', nf, nr]
    have ec : (if f = -1 then (if ¬ r = -1 then some true else some false) else some true) = some (decide (¬ (f = -1 ∧ r = -1))) := by
      by_cases q1 : f = -1
      · rw [if_pos q1]
        by_cases q2 : r = -1
        · rw [if_neg (not_not_intro q2), decide_eq_false (fun z => z ⟨q1, q2⟩)]
        · rw [if_pos q2, decide_eq_true (show ¬ (f = -1 ∧ r = -1) from fun z => q2 z.2)]
      · rw [if_neg q1, decide_eq_true (show ¬ (f = -1 ∧ r = -1) from fun z => q1 z.1)]
    rw [ec, bind_some']
    cases hd : decide (¬ (f = -1 ∧ r = -1)) with
    | true =>
      rw [hd, if_pos rfl] at k4
      rw [if_pos rfl, k4, bind_some', bind_some', k5]
      rfl
    | false =>
      rw [hd, if_neg (by decide)] at k4
      cases k4
      rw [if_neg (by decide), bind_some', k5]
      rfl
def LRes (n t b q : Nat) (C R : Mem) : Prop := (∃ s kd p, q ≤ p ∧ PI t b s C R ∧ TB n C R ∧ Gd n kd p C R) ∨ FB C R
theorem line_fact (hB : TB n C R) (hI : PI t b s C R) {p : Nat} (g : Gd n 1 p C R) : ∃ C' R', N_readFact C = some C' ∧ M_readLine R = some R' ∧ LRes n t b (p + 1) C' R' := by
  have hI0 := hI
  obtain ⟨⟨ht, hb, h27, h39⟩, hN, ⟨n1, n2, n3⟩, hCo, hTi, hWi, hKn, hCn, hRo, hAl, hLw⟩ := hI
  have ht2 : t ≤ 15 := by unfold isT at ht; omega
  have ht3 : 3 ≤ t := by unfold isT at ht; omega
  have hF := num_F hN
  have hR := num_R hN
  have hTn := num_T hN
  have hWn := num_W hN
  have gT := g.2.2.2.2.2
  have hfull := full_eq gT hb h39 hLw.2.1
  rw [if_pos rfl, hF.1, n32_nat (by omega)] at hfull
  have h8 : R 81 8 = 3 ∧ R 81 10 = 1717658484 := by
    obtain ⟨-, hT⟩ := gT
    rcases hT with ⟨z, -⟩ | ⟨z, -⟩ | ⟨-, -, z3, z4⟩ | ⟨z, -⟩ | ⟨z, -⟩
    · omega
    · omega
    · exact ⟨z3, by rw [z4]; exact wconst.1⟩
    · omega
    · exact absurd z (by decide)
  have hon : OnT C R C R := ⟨fun _ _ _ => rfl, fun _ _ _ => rfl⟩
  unfold N_readFact
  rw [h27, chk_pos (isTI_of rfl ht), lt1_eq, tn_nat, hF.2.1, n32_nat (by omega)]
  by_cases hfu : nF R b = 8
  · rw [decide_eq_true (by omega)] at hfull
    rw [if_neg (by omega), bind_some', begin_no g, bind_some', bk_new failC_at.1, bind_some']
    dsimp only
    have he := bk_expect (C := failC C 2) failC_at.1 (w := 59) (by decide) (by decide)
    rw [show ((59 : Nat) : Int) = 59 from rfl] at he
    rw [he, bind_some', failC_at.1, if_neg (by decide), line_no g (fun _ => hfull)]
    exact ⟨_, _, rfl, rfl, Or.inr (both_fail hB g (by decide) (by decide))⟩
  · rw [decide_eq_false (by omega)] at hfull
    obtain ⟨C1, R1, k1, k2, k3⟩ := pass_ok hB hon g
    rw [if_neg (by decide)] at k3
    obtain ⟨f, v, x, C2, y, R2, w1, w2, w3, w4, w5⟩ := newFR hB hI0 k3
    rw [if_pos (by omega), bind_some', begin_yes, k1, bind_some', w3, bind_some']
    dsimp only
    rw [rl_Fact h8.1 h8.2 hfull (gd_good g.2.1.1), k2, bind_some']
    have e84 : R1 84 b = (nF R b : Int) := (k3.1.2 _ _ (by omega)).trans hF.1
    have e39 : R1 81 39 = (b : Int) := (k3.1.2 _ _ (by omega)).trans h39
    unfold M_readFact
    rw [e39, chk_pos (by omega), w1, bind_some', w2, bind_some', w4, bind_some']
    dsimp only
    rw [tn_nat, e84, show 8 * (b : Int) + (nF R b : Int) = ((8 * b + nF R b : Nat) : Int) by omega, chk_pos (by omega), lt1_eq, tn_nat]
    have e39' : up R2 93 (8 * b + nF R b) y 81 39 = (b : Int) := by rw [up_c (by decide)]; exact (w5.1.2 _ _ (by omega)).trans h39
    rw [e39', chk_pos (by omega), lt1_eq, tn_nat, bind_some', up_c (by decide), w5.1.2 84 _ (by omega), hF.1]
    have w6 := S3_up (S3_up w5 (c := 93) (k := 8 * b + nF R b) (v := y) (by decide)) (c := 84) (k := b) (v := (nF R b : Int) + 1) (by decide)
    have hB2 := TB_up (TB_up hB (c := 93) (k := 8 * b + nF R b) (v := y) (by decide) (by decide)) (c := 84) (k := b) (v := (nF R b : Int) + 1) (by decide) (by decide)
    obtain ⟨r, C3, R3, x1, x2, x3, x4⟩ := must_sign hB2 (w := 59) (by decide) w6
    rw [show ((59 : Nat) : Int) = 59 from rfl] at x1 x2
    rw [x2, bind_some', x1, bind_some', x3, bind_some']
    obtain ⟨⟨on1, on2⟩, ⟨kd, p', hp', g', -, m, hm, rfl, rfl⟩ | hfb⟩ := x4
    · have hk := Tok_kd g'.2.2.2.2.2
      have e27 : C3 27 16 = (t : Int) := (on1 _ _ (by omega)).trans h27
      have et0 : C3 t 0 = (nF R b : Int) := (on1 _ _ (by omega)).trans hF.2.1
      rw [Tok_4 g'.2.2.2.2.2, if_pos (by omega), e27, chk_pos (isTI_of rfl ht), lt1_eq, tn_nat, et0, chk_pos (by omega), lt1_eq, tn_nat]
      have e27' : up C3 32 (nF R b) (m : Int) 27 16 = (t : Int) := by rw [up_c (by decide)]; exact e27
      rw [e27', chk_pos (isTI_of rfl ht), lt1_eq, lt1_eq, tn_nat, up_c (by omega), et0]
      refine ⟨_, _, rfl, rfl, Or.inl ?_⟩
      generalize hC4 : up (up C3 32 (nF R b) (m : Int)) t 0 ((nF R b : Int) + 1) = C4
      have cS : ∀ a k, a ≠ 40 → ¬ (a = 32 ∧ k = nF R b) → ¬ (a = t ∧ k = 0) → C4 a k = C a k := fun a k z1 z2 z3 => by rw [← hC4, up_at, if_neg z3, up_at, if_neg z2]; exact on1 a k z1
      have c40 : ∀ k, C4 40 k = C3 40 k := fun k => by rw [← hC4, up_c (by omega), up_c (by decide)]
      have c32 : C4 32 (nF R b) = (m : Int) := by rw [← hC4, up_c (by omega), up_eq]
      have ct : C4 t 0 = ((nF R b + 1 : Nat) : Int) := by rw [← hC4, up_eq]; omega
      have rS : ∀ a k, ¬ (a = 81 ∧ 4 ≤ k ∧ k ≤ 10) → ¬ (a = 93 ∧ k = 8 * b + nF R b) → ¬ (a = 84 ∧ k = b) → R3 a k = R a k := fun a k z1 z2 z3 => by rw [on2 a k z1, up_at, if_neg z3, up_at, if_neg z2]
      have r84 : R3 84 b = ((nF R b + 1 : Nat) : Int) := by rw [on2 _ _ (by omega), up_eq]; omega
      have r93 : R3 93 (8 * b + nF R b) = ((w256 m : Nat) : Int) := by rw [on2 _ _ (by omega), up_c (by decide), up_eq]
      have eF : nF R3 b = nF R b + 1 := by unfold nF; rw [r84]; rfl
      have eP : nP R3 b = nP R b := by unfold nP; rw [rS 85 _ (by omega) (by omega) (by omega)]
      have eR : nR R3 b = nR R b := by unfold nR; rw [rS 86 _ (by omega) (by omega) (by omega)]
      have eTn : nT R3 b = nT R b := by unfold nT; rw [rS 88 _ (by omega) (by omega) (by omega)]
      have eWn : nW R3 b = nW R b := by unfold nW; rw [rS 89 _ (by omega) (by omega) (by omega)]
      refine ⟨s, kd, p', hp', ⟨⟨ht, hb, (cS _ _ (by omega) (by omega) (by omega)).trans h27, (rS _ _ (by omega) (by omega) (by omega)).trans h39⟩, ?_, ⟨?_, ?_, ?_⟩, ?_, ?_, ?_, ?_, ?_, ?_, ?_, ?_⟩, ?_, ?_⟩
      · obtain ⟨y1, y2, y3, y4, y5, y6⟩ := hN
        unfold NumR
        rw [ct, r84, cS t 1 (by omega) (by omega) (by omega), cS t 2 (by omega) (by omega) (by omega), cS t 3 (by omega) (by omega) (by omega), cS t 4 (by omega) (by omega) (by omega), cS t 5 (by omega) (by omega) (by omega), rS 85 _ (by omega) (by omega) (by omega), rS 86 _ (by omega) (by omega) (by omega), rS 88 _ (by omega) (by omega) (by omega), rS 89 _ (by omega) (by omega) (by omega), rS 90 _ (by omega) (by omega) (by omega)]
        exact ⟨⟨rfl, by omega, by omega⟩, y2, y3, y4, y5, y6⟩
      · rw [eF]
        exact NmQ_add n1 (fun i hi => cS _ _ (by omega) (by omega) (by omega)) (fun i hi => rS _ _ (by omega) (by omega) (by omega)) ⟨m, hm, c32, r93⟩
      · rw [eP]
        exact NmQ_keep n2 (fun i hi => cS _ _ (by omega) (by omega) (by omega)) (fun i hi => rS _ _ (by omega) (by omega) (by omega))
      · rw [eR]
        exact NmQ_keep n3 (fun i hi => cS _ _ (by omega) (by omega) (by omega)) (fun i hi => rS _ _ (by omega) (by omega) (by omega))
      · exact CostR_keep hCo eP (fun k hk => cS _ _ (by omega) (by omega) (by omega)) (fun k hk => rS _ _ (by omega) (by omega) (by omega))
      · exact TieQ_keep hTi hb hTn.2.2 eTn (by omega) (fun a k z => cS _ _ (by omega) (by omega) (by omega)) (fun k hk => ⟨rS _ _ (by omega) (by omega) (by omega), rS _ _ (by omega) (by omega) (by omega), rS _ _ (by omega) (by omega) (by omega)⟩)
      · exact WishQ_keep hWi hb hWn.2.2 eWn (fun k => cS _ _ (by omega) (by omega) (by omega)) (fun k hk => ⟨rS _ _ (by omega) (by omega) (by omega), rS _ _ (by omega) (by omega) (by omega), rS _ _ (by omega) (by omega) (by omega)⟩)
      · exact KnoP_keep hKn eP (fun k hk => cS _ _ (by omega) (by omega) (by omega)) (fun k hk => rS _ _ (by omega) (by omega) (by omega))
      · exact ⟨hCn.1, (cS _ _ (by omega) (by omega) (by omega)).trans hCn.2.1, (rS _ _ (by omega) (by omega) (by omega)).trans hCn.2.2.1, by rw [rS 90 _ (by omega) (by omega) (by omega)]; exact hCn.2.2.2⟩
      · exact RowsQ_keep hRo (Nat.le_refl _) hb hR.2.2 eR (by omega) (by omega) (fun k hk => ⟨cS _ _ (by omega) (by omega) (by omega), cS _ _ (by omega) (by omega) (by omega), cS _ _ (by omega) (by omega) (by omega)⟩) (fun k hk => cS _ _ (by omega) (by omega) (by omega)) (fun k hk => ⟨rS _ _ (by omega) (by omega) (by omega), rS _ _ (by omega) (by omega) (by omega), rS _ _ (by omega) (by omega) (by omega)⟩) (fun k hk => ⟨rS _ _ (by omega) (by omega) (by omega), rS _ _ (by omega) (by omega) (by omega)⟩)
      · exact AlwQ_keep hAl (Nat.le_refl _) hb (by omega) (by omega) (by omega) (cS _ _ (by omega) (by omega) (by omega)) (rS _ _ (by omega) (by omega) (by omega)) (fun k hk => cS _ _ (by omega) (by omega) (by omega)) (fun k hk => ⟨cS _ _ (by omega) (by omega) (by omega), cS _ _ (by omega) (by omega) (by omega)⟩) (fun k hk => cS _ _ (by omega) (by omega) (by omega)) (fun k hk hk2 => ⟨rS _ _ (by omega) (by omega) (by omega), rS _ _ (by omega) (by omega) (by omega)⟩) (fun k hk => ⟨rS _ _ (by omega) (by omega) (by omega), rS _ _ (by omega) (by omega) (by omega)⟩)
      · exact LwQ_keep hLw (Nat.le_refl _) ⟨cS _ _ (by omega) (by omega) (by omega), cS _ _ (by omega) (by omega) (by omega), cS _ _ (by omega) (by omega) (by omega)⟩ (rS _ _ (by omega) (by omega) (by omega)) (fun k hk => cS _ _ (by omega) (by omega) (by omega)) ⟨rS _ _ (by omega) (by omega) (by omega), rS _ _ (by omega) (by omega) (by omega)⟩ (fun k hk => ⟨rS _ _ (by omega) (by omega) (by omega), rS _ _ (by omega) (by omega) (by omega)⟩)
      · obtain ⟨y1, y2, y3, y4, y5⟩ := hB
        exact ⟨y1, fun i hi => by rw [cS _ _ (by omega) (by omega) (by omega)]; exact y2 i hi, (rS _ _ (by omega) (by omega) (by omega)).trans y3, fun i hi => by rw [rS _ _ (by omega) (by omega) (by omega), cS _ _ (by omega) (by omega) (by omega)]; exact y4 i hi, fun i hi => by rw [cS _ _ (by omega) (by omega) (by omega)]; exact y5 i hi⟩
      · unfold Gd Tok at g' ⊢
        have e2 : ∀ k, C4 2 k = C3 2 k := fun k => by rw [← hC4, up_c (by omega), up_c (by decide)]
        simp only [c40, e2]
        exact g'
    · obtain ⟨fv, fp, ⟨z1, z2, z3⟩, z4⟩ := hfb
      rw [z1, if_neg (by decide)]
      exact ⟨_, _, rfl, rfl, Or.inr ⟨fv, fp, ⟨z1, z2, z3⟩, z4⟩⟩
end LINES
