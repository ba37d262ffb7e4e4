/-! ===== the law: each call (by gen_law2.py) ===== -/
section LAWB
variable {Ls : Nat} {xs : Nat → Int32} {l3_3 : Int} {M_4 : Mem} {K : ((Int × Mem) ⊕ ((Mem) ⊕ (Int × Mem))) → Prop} {j_15 : Mem → Option ((Int × Mem) ⊕ ((Mem) ⊕ (Int × Mem)))}
theorem br_0 (hl : 0 ≤ l3_3 ∧ l3_3 + 6 ≤ (Ls : Int)) (h : OKm M_4) (hj : ∀ R, OKm R → Z (j_15 R) K) : Z (
      chk (0 ≤ (l3_3 + 1) ∧ (l3_3 + 1) < (Ls : Int)) <|
      chk (0 ≤ (l3_3 + 2) ∧ (l3_3 + 2) < (Ls : Int)) <|
      chk (0 ≤ (l3_3 + 3) ∧ (l3_3 + 3) < (Ls : Int)) <|
      chk (0 ≤ (l3_3 + 4) ∧ (l3_3 + 4) < (Ls : Int)) <|
      chk (0 ≤ (l3_3 + 5) ∧ (l3_3 + 5) < (Ls : Int)) <|
      (X_feed (Int32.toInt (xs (Int.toNat (l3_3 + 1)))) (Int32.toInt (xs (Int.toNat (l3_3 + 2)))) (Int32.toInt (xs (Int.toNat (l3_3 + 3)))) (Int32.toInt (xs (Int.toNat (l3_3 + 4)))) (Int32.toInt (xs (Int.toNat (l3_3 + 5)))) M_4).bind fun (r_28, M_29) =>
      (M_feed (Int32.toInt (xs (Int.toNat (l3_3 + 1)))) (Int32.toInt (xs (Int.toNat (l3_3 + 2)))) (Int32.toInt (xs (Int.toNat (l3_3 + 3)))) (Int32.toInt (xs (Int.toNat (l3_3 + 4)))) (Int32.toInt (xs (Int.toNat (l3_3 + 5)))) M_29).bind fun (r_30, M_31) =>
      if ¬ n32 r_28 = n32 r_30 then
        some (.inr (.inr (0, M_31)))
      else
        j_15 M_31) K := by
  rw [chk_pos (by omega), chk_pos (by omega), chk_pos (by omega), chk_pos (by omega), chk_pos (by omega)]
  obtain ⟨v, C', R', e1, e2, hok⟩ := st_feed (a := (Int32.toInt (xs (Int.toNat (l3_3 + 1))))) (b := (Int32.toInt (xs (Int.toNat (l3_3 + 2))))) (c := (Int32.toInt (xs (Int.toNat (l3_3 + 3))))) (d := (Int32.toInt (xs (Int.toNat (l3_3 + 4))))) (e := (Int32.toInt (xs (Int.toNat (l3_3 + 5)))))  h
  rw [e1, bind_some']
  try dsimp only
  rw [e2, bind_some']
  try dsimp only
  rw [if_neg (fun z => z rfl)]
  exact hj _ hok
theorem br_1 (hl : 0 ≤ l3_3 ∧ l3_3 + 6 ≤ (Ls : Int)) (h : OKm M_4) (hj : ∀ R, OKm R → Z (j_15 R) K) : Z (
      chk (0 ≤ (l3_3 + 1) ∧ (l3_3 + 1) < (Ls : Int)) <|
      (X_end (Int32.toInt (xs (Int.toNat (l3_3 + 1)))) M_4).bind fun (r_36, M_37) =>
      (M_end (Int32.toInt (xs (Int.toNat (l3_3 + 1)))) M_37).bind fun (r_38, M_39) =>
      if ¬ n32 r_36 = n32 r_38 then
        some (.inr (.inr (0, M_39)))
      else
        j_15 M_39) K := by
  rw [chk_pos (by omega)]
  obtain ⟨v, C', R', e1, e2, hok⟩ := st_end (x := (Int32.toInt (xs (Int.toNat (l3_3 + 1))))) (n32_raw _) h
  rw [e1, bind_some']
  try dsimp only
  rw [e2, bind_some']
  try dsimp only
  rw [if_neg (fun z => z rfl)]
  exact hj _ hok
theorem br_2 (hl : 0 ≤ l3_3 ∧ l3_3 + 6 ≤ (Ls : Int)) (h : OKm M_4) (hj : ∀ R, OKm R → Z (j_15 R) K) : Z (
      (X_town M_4).bind fun (r_42, M_43) =>
      (M_town M_43).bind fun (r_44, M_45) =>
      if ¬ n32 r_42 = n32 r_44 then
        some (.inr (.inr (0, M_45)))
      else
        j_15 M_45) K := by
  obtain ⟨v, C', R', e1, e2, hok⟩ := st_town   h
  rw [e1, bind_some']
  try dsimp only
  rw [e2, bind_some']
  try dsimp only
  rw [if_neg (fun z => z rfl)]
  exact hj _ hok
theorem br_3 (hl : 0 ≤ l3_3 ∧ l3_3 + 6 ≤ (Ls : Int)) (h : OKm M_4) (hj : ∀ R, OKm R → Z (j_15 R) K) : Z (
      chk (0 ≤ (l3_3 + 1) ∧ (l3_3 + 1) < (Ls : Int)) <|
      (X_fault (Int32.toInt (xs (Int.toNat (l3_3 + 1)))) M_4).bind fun r_50 =>
      (M_fault (Int32.toInt (xs (Int.toNat (l3_3 + 1)))) M_4).bind fun r_51 =>
      if ¬ n32 r_50 = n32 r_51 then
        some (.inr (.inr (0, M_4)))
      else
        j_15 M_4) K := by
  rw [chk_pos (by omega)]
  obtain ⟨v, e1, e2⟩ := op_fault (C := M_4) (R := M_4) h.1 (x := (Int32.toInt (xs (Int.toNat (l3_3 + 1)))))
  rw [e1, bind_some', e2, bind_some', if_neg (fun z => z rfl)]
  exact hj _ h
theorem br_4 (hl : 0 ≤ l3_3 ∧ l3_3 + 6 ≤ (Ls : Int)) (h : OKm M_4) (hj : ∀ R, OKm R → Z (j_15 R) K) : Z (
      chk (0 ≤ (l3_3 + 1) ∧ (l3_3 + 1) < (Ls : Int)) <|
      chk (0 ≤ (l3_3 + 2) ∧ (l3_3 + 2) < (Ls : Int)) <|
      (X_is (Int32.toInt (xs (Int.toNat (l3_3 + 1)))) (Int32.toInt (xs (Int.toNat (l3_3 + 2)))) M_4).bind fun r_58 =>
      (M_is (Int32.toInt (xs (Int.toNat (l3_3 + 1)))) (Int32.toInt (xs (Int.toNat (l3_3 + 2)))) M_4).bind fun r_59 =>
      if ¬ n32 r_58 = n32 r_59 then
        some (.inr (.inr (0, M_4)))
      else
        j_15 M_4) K := by
  rw [chk_pos (by omega), chk_pos (by omega)]
  obtain ⟨v, e1, e2⟩ := op_is (C := M_4) (R := M_4) h.1 (r := (Int32.toInt (xs (Int.toNat (l3_3 + 1))))) (w := (Int32.toInt (xs (Int.toNat (l3_3 + 2))))) (n32_raw _) (n32_raw _)
  rw [e1, bind_some', e2, bind_some', if_neg (fun z => z rfl)]
  exact hj _ h
theorem br_5 (hl : 0 ≤ l3_3 ∧ l3_3 + 6 ≤ (Ls : Int)) (h : OKm M_4) (hj : ∀ R, OKm R → Z (j_15 R) K) : Z (
      chk (0 ≤ (l3_3 + 1) ∧ (l3_3 + 1) < (Ls : Int)) <|
      chk (0 ≤ (l3_3 + 2) ∧ (l3_3 + 2) < (Ls : Int)) <|
      chk (0 ≤ (l3_3 + 3) ∧ (l3_3 + 3) < (Ls : Int)) <|
      (X_answers (Int32.toInt (xs (Int.toNat (l3_3 + 1)))) (Int32.toInt (xs (Int.toNat (l3_3 + 2)))) (Int32.toInt (xs (Int.toNat (l3_3 + 3)))) M_4).bind fun r_68 =>
      (M_answers (Int32.toInt (xs (Int.toNat (l3_3 + 1)))) (Int32.toInt (xs (Int.toNat (l3_3 + 2)))) (Int32.toInt (xs (Int.toNat (l3_3 + 3)))) M_4).bind fun r_69 =>
      if ¬ n32 r_68 = n32 r_69 then
        some (.inr (.inr (0, M_4)))
      else
        j_15 M_4) K := by
  rw [chk_pos (by omega), chk_pos (by omega), chk_pos (by omega)]
  obtain ⟨v, e1, e2⟩ := op_answers (C := M_4) (R := M_4) h.1 (p := (Int32.toInt (xs (Int.toNat (l3_3 + 1))))) (r := (Int32.toInt (xs (Int.toNat (l3_3 + 2))))) (w := (Int32.toInt (xs (Int.toNat (l3_3 + 3))))) (n32_raw _) (n32_raw _) (n32_raw _)
  rw [e1, bind_some', e2, bind_some', if_neg (fun z => z rfl)]
  exact hj _ h
theorem br_6 (hl : 0 ≤ l3_3 ∧ l3_3 + 6 ≤ (Ls : Int)) (h : OKm M_4) (hj : ∀ R, OKm R → Z (j_15 R) K) : Z (
      chk (0 ≤ (l3_3 + 1) ∧ (l3_3 + 1) < (Ls : Int)) <|
      chk (0 ≤ (l3_3 + 2) ∧ (l3_3 + 2) < (Ls : Int)) <|
      (
        if ¬ n32 (Int32.toInt (xs (Int.toNat (l3_3 + 2)))) = 0 then
          some (1 : Int)
        else
          some (0 : Int)
      ).bind fun v_76 =>
      chk (0 ≤ (l3_3 + 3) ∧ (l3_3 + 3) < (Ls : Int)) <|
      (
        if ¬ n32 (Int32.toInt (xs (Int.toNat (l3_3 + 3)))) = 0 then
          some (1 : Int)
        else
          some (0 : Int)
      ).bind fun v_83 =>
      (X_lies (Int32.toInt (xs (Int.toNat (l3_3 + 1)))) v_76 v_83 M_4).bind fun r_88 =>
      (
        if ¬ n32 (Int32.toInt (xs (Int.toNat (l3_3 + 2)))) = 0 then
          some (1 : Int)
        else
          some (0 : Int)
      ).bind fun v_89 =>
      (
        if ¬ n32 (Int32.toInt (xs (Int.toNat (l3_3 + 3)))) = 0 then
          some (1 : Int)
        else
          some (0 : Int)
      ).bind fun v_94 =>
      (M_lies (Int32.toInt (xs (Int.toNat (l3_3 + 1)))) v_89 v_94 M_4).bind fun (r_99, M_100) =>
      if ¬ n32 r_88 = n32 r_99 then
        some (.inr (.inr (0, M_100)))
      else
        j_15 M_100) K := by
  obtain ⟨v0, hv0, ev0⟩ := bo_ex (a := (Int32.toInt (xs (Int.toNat (l3_3 + 2)))))
  obtain ⟨v1, hv1, ev1⟩ := bo_ex (a := (Int32.toInt (xs (Int.toNat (l3_3 + 3)))))
  simp only [ev0, ev1]
  rw [chk_pos (by omega), chk_pos (by omega), bind_some', chk_pos (by omega), bind_some']
  obtain ⟨v, R', e1, e2, hok⟩ := st_lies (x := (Int32.toInt (xs (Int.toNat (l3_3 + 1))))) (a := v0) (s := v1) (n32_raw _) hv0 hv1 h
  rw [e1, bind_some']
  try dsimp only
  rw [bind_some', bind_some']
  rw [e2, bind_some']
  try dsimp only
  rw [if_neg (fun z => z rfl)]
  exact hj _ hok
theorem br_7 (hl : 0 ≤ l3_3 ∧ l3_3 + 6 ≤ (Ls : Int)) (h : OKm M_4) (hj : ∀ R, OKm R → Z (j_15 R) K) : Z (
      chk (0 ≤ (l3_3 + 1) ∧ (l3_3 + 1) < (Ls : Int)) <|
      chk (0 ≤ (l3_3 + 2) ∧ (l3_3 + 2) < (Ls : Int)) <|
      chk (0 ≤ (l3_3 + 3) ∧ (l3_3 + 3) < (Ls : Int)) <|
      (
        if ¬ n32 (Int32.toInt (xs (Int.toNat (l3_3 + 3)))) = 0 then
          some (1 : Int)
        else
          some (0 : Int)
      ).bind fun v_109 =>
      chk (0 ≤ (l3_3 + 4) ∧ (l3_3 + 4) < (Ls : Int)) <|
      (
        if ¬ n32 (Int32.toInt (xs (Int.toNat (l3_3 + 4)))) = 0 then
          some (1 : Int)
        else
          some (0 : Int)
      ).bind fun v_116 =>
      chk (0 ≤ (l3_3 + 5) ∧ (l3_3 + 5) < (Ls : Int)) <|
      (X_may (Int32.toInt (xs (Int.toNat (l3_3 + 1)))) (Int32.toInt (xs (Int.toNat (l3_3 + 2)))) v_109 v_116 (Int32.toInt (xs (Int.toNat (l3_3 + 5)))) M_4).bind fun (r_123, M_124) =>
      (
        if ¬ n32 (Int32.toInt (xs (Int.toNat (l3_3 + 3)))) = 0 then
          some (1 : Int)
        else
          some (0 : Int)
      ).bind fun v_125 =>
      (
        if ¬ n32 (Int32.toInt (xs (Int.toNat (l3_3 + 4)))) = 0 then
          some (1 : Int)
        else
          some (0 : Int)
      ).bind fun v_130 =>
      (M_may (Int32.toInt (xs (Int.toNat (l3_3 + 1)))) (Int32.toInt (xs (Int.toNat (l3_3 + 2)))) v_125 v_130 (Int32.toInt (xs (Int.toNat (l3_3 + 5)))) M_124).bind fun (r_135, M_136) =>
      if ¬ n32 r_123 = n32 r_135 then
        some (.inr (.inr (0, M_136)))
      else
        j_15 M_136) K := by
  obtain ⟨v0, hv0, ev0⟩ := bo_ex (a := (Int32.toInt (xs (Int.toNat (l3_3 + 3)))))
  obtain ⟨v1, hv1, ev1⟩ := bo_ex (a := (Int32.toInt (xs (Int.toNat (l3_3 + 4)))))
  simp only [ev0, ev1]
  rw [chk_pos (by omega), chk_pos (by omega), chk_pos (by omega), bind_some', chk_pos (by omega), bind_some', chk_pos (by omega)]
  obtain ⟨v, C', R', e1, e2, hok⟩ := st_may (x := (Int32.toInt (xs (Int.toNat (l3_3 + 1))))) (y := (Int32.toInt (xs (Int.toNat (l3_3 + 2))))) (a := v0) (s := v1) (w := (Int32.toInt (xs (Int.toNat (l3_3 + 5))))) (n32_raw _) (n32_raw _) (n32_raw _) hv0 hv1 h
  rw [e1, bind_some']
  try dsimp only
  rw [bind_some', bind_some']
  rw [e2, bind_some']
  try dsimp only
  rw [if_neg (fun z => z rfl)]
  exact hj _ hok
theorem br_8 (hl : 0 ≤ l3_3 ∧ l3_3 + 6 ≤ (Ls : Int)) (h : OKm M_4) (hj : ∀ R, OKm R → Z (j_15 R) K) : Z (
      chk (0 ≤ (l3_3 + 1) ∧ (l3_3 + 1) < (Ls : Int)) <|
      chk (0 ≤ (l3_3 + 2) ∧ (l3_3 + 2) < (Ls : Int)) <|
      chk (0 ≤ (l3_3 + 3) ∧ (l3_3 + 3) < (Ls : Int)) <|
      (
        if ¬ n32 (Int32.toInt (xs (Int.toNat (l3_3 + 3)))) = 0 then
          some (1 : Int)
        else
          some (0 : Int)
      ).bind fun v_145 =>
      chk (0 ≤ (l3_3 + 4) ∧ (l3_3 + 4) < (Ls : Int)) <|
      (
        if ¬ n32 (Int32.toInt (xs (Int.toNat (l3_3 + 4)))) = 0 then
          some (1 : Int)
        else
          some (0 : Int)
      ).bind fun v_152 =>
      (X_say (Int32.toInt (xs (Int.toNat (l3_3 + 1)))) (Int32.toInt (xs (Int.toNat (l3_3 + 2)))) v_145 v_152 M_4).bind fun (r_157, M_158) =>
      (
        if ¬ n32 (Int32.toInt (xs (Int.toNat (l3_3 + 3)))) = 0 then
          some (1 : Int)
        else
          some (0 : Int)
      ).bind fun v_159 =>
      (
        if ¬ n32 (Int32.toInt (xs (Int.toNat (l3_3 + 4)))) = 0 then
          some (1 : Int)
        else
          some (0 : Int)
      ).bind fun v_164 =>
      (M_say (Int32.toInt (xs (Int.toNat (l3_3 + 1)))) (Int32.toInt (xs (Int.toNat (l3_3 + 2)))) v_159 v_164 M_158).bind fun (r_169, M_170) =>
      if ¬ n32 r_157 = n32 r_169 then
        some (.inr (.inr (0, M_170)))
      else
        j_15 M_170) K := by
  obtain ⟨v0, hv0, ev0⟩ := bo_ex (a := (Int32.toInt (xs (Int.toNat (l3_3 + 3)))))
  obtain ⟨v1, hv1, ev1⟩ := bo_ex (a := (Int32.toInt (xs (Int.toNat (l3_3 + 4)))))
  simp only [ev0, ev1]
  rw [chk_pos (by omega), chk_pos (by omega), chk_pos (by omega), bind_some', chk_pos (by omega), bind_some']
  obtain ⟨v, C', R', e1, e2, hok⟩ := st_say (x := (Int32.toInt (xs (Int.toNat (l3_3 + 1))))) (y := (Int32.toInt (xs (Int.toNat (l3_3 + 2))))) (a := v0) (s := v1) (n32_raw _) (n32_raw _) hv0 hv1 h
  rw [e1, bind_some']
  try dsimp only
  rw [bind_some', bind_some']
  rw [e2, bind_some']
  try dsimp only
  rw [if_neg (fun z => z rfl)]
  exact hj _ hok
theorem br_9 (hl : 0 ≤ l3_3 ∧ l3_3 + 6 ≤ (Ls : Int)) (h : OKm M_4) (hj : ∀ R, OKm R → Z (j_15 R) K) : Z (
      chk (0 ≤ (l3_3 + 1) ∧ (l3_3 + 1) < (Ls : Int)) <|
      (X_untell (Int32.toInt (xs (Int.toNat (l3_3 + 1)))) M_4).bind fun (r_175, M_176) =>
      (M_untell (Int32.toInt (xs (Int.toNat (l3_3 + 1)))) M_176).bind fun (r_177, M_178) =>
      if ¬ n32 r_175 = n32 r_177 then
        some (.inr (.inr (0, M_178)))
      else
        j_15 M_178) K := by
  rw [chk_pos (by omega)]
  obtain ⟨v, C', R', e1, e2, hok⟩ := st_untell (x := (Int32.toInt (xs (Int.toNat (l3_3 + 1))))) (n32_raw _) h
  rw [e1, bind_some']
  try dsimp only
  rw [e2, bind_some']
  try dsimp only
  rw [if_neg (fun z => z rfl)]
  exact hj _ hok
theorem br_10 (hl : 0 ≤ l3_3 ∧ l3_3 + 6 ≤ (Ls : Int)) (h : OKm M_4) (hj : ∀ R, OKm R → Z (j_15 R) K) : Z (
      chk (0 ≤ (l3_3 + 1) ∧ (l3_3 + 1) < (Ls : Int)) <|
      (X_later (Int32.toInt (xs (Int.toNat (l3_3 + 1)))) M_4).bind fun (r_183, M_184) =>
      (M_later (Int32.toInt (xs (Int.toNat (l3_3 + 1)))) M_184).bind fun (r_185, M_186) =>
      if ¬ n32 r_183 = n32 r_185 then
        some (.inr (.inr (0, M_186)))
      else
        j_15 M_186) K := by
  rw [chk_pos (by omega)]
  obtain ⟨v, C', R', e1, e2, hok⟩ := st_later (x := (Int32.toInt (xs (Int.toNat (l3_3 + 1))))) (n32_raw _) h
  rw [e1, bind_some']
  try dsimp only
  rw [e2, bind_some']
  try dsimp only
  rw [if_neg (fun z => z rfl)]
  exact hj _ hok
theorem br_11 (hl : 0 ≤ l3_3 ∧ l3_3 + 6 ≤ (Ls : Int)) (h : OKm M_4) (hj : ∀ R, OKm R → Z (j_15 R) K) : Z (
      chk (0 ≤ (l3_3 + 1) ∧ (l3_3 + 1) < (Ls : Int)) <|
      (X_left (Int32.toInt (xs (Int.toNat (l3_3 + 1)))) M_4).bind fun (r_191, M_192) =>
      (M_left (Int32.toInt (xs (Int.toNat (l3_3 + 1)))) M_192).bind fun (r_193, M_194) =>
      if ¬ n32 r_191 = n32 r_193 then
        some (.inr (.inr (0, M_194)))
      else
        j_15 M_194) K := by
  rw [chk_pos (by omega)]
  obtain ⟨v, C', R', e1, e2, hok⟩ := st_left (x := (Int32.toInt (xs (Int.toNat (l3_3 + 1))))) (n32_raw _) h
  rw [e1, bind_some']
  try dsimp only
  rw [e2, bind_some']
  try dsimp only
  rw [if_neg (fun z => z rfl)]
  exact hj _ hok
theorem br_12 (hl : 0 ≤ l3_3 ∧ l3_3 + 6 ≤ (Ls : Int)) (h : OKm M_4) (hj : ∀ R, OKm R → Z (j_15 R) K) : Z (
      chk (0 ≤ (l3_3 + 1) ∧ (l3_3 + 1) < (Ls : Int)) <|
      chk (0 ≤ (l3_3 + 2) ∧ (l3_3 + 2) < (Ls : Int)) <|
      (X_world (Int32.toInt (xs (Int.toNat (l3_3 + 1)))) (Int32.toInt (xs (Int.toNat (l3_3 + 2)))) M_4).bind fun (r_201, M_202) =>
      (M_world (Int32.toInt (xs (Int.toNat (l3_3 + 1)))) (Int32.toInt (xs (Int.toNat (l3_3 + 2)))) M_202).bind fun (r_203, M_204) =>
      if ¬ n32 r_201 = n32 r_203 then
        some (.inr (.inr (0, M_204)))
      else
        j_15 M_204) K := by
  rw [chk_pos (by omega), chk_pos (by omega)]
  obtain ⟨v, C', R', e1, e2, hok⟩ := st_world (x := (Int32.toInt (xs (Int.toNat (l3_3 + 1))))) (y := (Int32.toInt (xs (Int.toNat (l3_3 + 2))))) (n32_raw _) (n32_raw _) h
  rw [e1, bind_some']
  try dsimp only
  rw [e2, bind_some']
  try dsimp only
  rw [if_neg (fun z => z rfl)]
  exact hj _ hok
theorem br_13 (hl : 0 ≤ l3_3 ∧ l3_3 + 6 ≤ (Ls : Int)) (h : OKm M_4) (hj : ∀ R, OKm R → Z (j_15 R) K) : Z (
      chk (0 ≤ (l3_3 + 1) ∧ (l3_3 + 1) < (Ls : Int)) <|
      chk (0 ≤ (l3_3 + 2) ∧ (l3_3 + 2) < (Ls : Int)) <|
      (X_sure (Int32.toInt (xs (Int.toNat (l3_3 + 1)))) (Int32.toInt (xs (Int.toNat (l3_3 + 2)))) M_4).bind fun (r_211, M_212) =>
      (M_sure (Int32.toInt (xs (Int.toNat (l3_3 + 1)))) (Int32.toInt (xs (Int.toNat (l3_3 + 2)))) M_212).bind fun (r_213, M_214) =>
      if ¬ n32 r_211 = n32 r_213 then
        some (.inr (.inr (0, M_214)))
      else
        j_15 M_214) K := by
  rw [chk_pos (by omega), chk_pos (by omega)]
  obtain ⟨v, C', R', e1, e2, hok⟩ := st_sure (x := (Int32.toInt (xs (Int.toNat (l3_3 + 1))))) (y := (Int32.toInt (xs (Int.toNat (l3_3 + 2))))) (n32_raw _) (n32_raw _) h
  rw [e1, bind_some']
  try dsimp only
  rw [e2, bind_some']
  try dsimp only
  rw [if_neg (fun z => z rfl)]
  exact hj _ hok
theorem br_14 (hl : 0 ≤ l3_3 ∧ l3_3 + 6 ≤ (Ls : Int)) (h : OKm M_4) (hj : ∀ R, OKm R → Z (j_15 R) K) : Z (
      chk (0 ≤ (l3_3 + 1) ∧ (l3_3 + 1) < (Ls : Int)) <|
      chk (0 ≤ (l3_3 + 2) ∧ (l3_3 + 2) < (Ls : Int)) <|
      (X_proof (Int32.toInt (xs (Int.toNat (l3_3 + 1)))) (Int32.toInt (xs (Int.toNat (l3_3 + 2)))) M_4).bind fun (r_221, M_222) =>
      (M_proof (Int32.toInt (xs (Int.toNat (l3_3 + 1)))) (Int32.toInt (xs (Int.toNat (l3_3 + 2)))) M_222).bind fun (r_223, M_224) =>
      if ¬ n32 r_221 = n32 r_223 then
        some (.inr (.inr (0, M_224)))
      else
        j_15 M_224) K := by
  rw [chk_pos (by omega), chk_pos (by omega)]
  obtain ⟨v, C', R', e1, e2, hok⟩ := st_proof (x := (Int32.toInt (xs (Int.toNat (l3_3 + 1))))) (y := (Int32.toInt (xs (Int.toNat (l3_3 + 2))))) (n32_raw _) (n32_raw _) h
  rw [e1, bind_some']
  try dsimp only
  rw [e2, bind_some']
  try dsimp only
  rw [if_neg (fun z => z rfl)]
  exact hj _ hok
theorem br_15 (hl : 0 ≤ l3_3 ∧ l3_3 + 6 ≤ (Ls : Int)) (h : OKm M_4) (hj : ∀ R, OKm R → Z (j_15 R) K) : Z (
      chk (0 ≤ (l3_3 + 1) ∧ (l3_3 + 1) < (Ls : Int)) <|
      chk (0 ≤ (l3_3 + 2) ∧ (l3_3 + 2) < (Ls : Int)) <|
      (X_judge (Int32.toInt (xs (Int.toNat (l3_3 + 1)))) (Int32.toInt (xs (Int.toNat (l3_3 + 2)))) M_4).bind fun (r_231, M_232) =>
      (M_judge (Int32.toInt (xs (Int.toNat (l3_3 + 1)))) (Int32.toInt (xs (Int.toNat (l3_3 + 2)))) M_232).bind fun (r_233, M_234) =>
      if ¬ n32 r_231 = n32 r_233 then
        some (.inr (.inr (0, M_234)))
      else
        j_15 M_234) K := by
  rw [chk_pos (by omega), chk_pos (by omega)]
  obtain ⟨v, C', R', e1, e2, hok⟩ := st_judge (x := (Int32.toInt (xs (Int.toNat (l3_3 + 1))))) (y := (Int32.toInt (xs (Int.toNat (l3_3 + 2))))) (n32_raw _) (n32_raw _) h
  rw [e1, bind_some']
  try dsimp only
  rw [e2, bind_some']
  try dsimp only
  rw [if_neg (fun z => z rfl)]
  exact hj _ hok
theorem br_16 (hl : 0 ≤ l3_3 ∧ l3_3 + 6 ≤ (Ls : Int)) (h : OKm M_4) (hj : ∀ R, OKm R → Z (j_15 R) K) : Z (
      chk (0 ≤ (l3_3 + 1) ∧ (l3_3 + 1) < (Ls : Int)) <|
      chk (0 ≤ (l3_3 + 2) ∧ (l3_3 + 2) < (Ls : Int)) <|
      (X_next (Int32.toInt (xs (Int.toNat (l3_3 + 1)))) (Int32.toInt (xs (Int.toNat (l3_3 + 2)))) M_4).bind fun (r_241, M_242) =>
      (M_next (Int32.toInt (xs (Int.toNat (l3_3 + 1)))) (Int32.toInt (xs (Int.toNat (l3_3 + 2)))) M_242).bind fun (r_243, M_244) =>
      if ¬ n32 r_241 = n32 r_243 then
        some (.inr (.inr (0, M_244)))
      else
        j_15 M_244) K := by
  rw [chk_pos (by omega), chk_pos (by omega)]
  obtain ⟨v, C', R', e1, e2, hok⟩ := st_next (x := (Int32.toInt (xs (Int.toNat (l3_3 + 1))))) (y := (Int32.toInt (xs (Int.toNat (l3_3 + 2))))) (n32_raw _) (n32_raw _) h
  rw [e1, bind_some']
  try dsimp only
  rw [e2, bind_some']
  try dsimp only
  rw [if_neg (fun z => z rfl)]
  exact hj _ hok
theorem br_17 (hl : 0 ≤ l3_3 ∧ l3_3 + 6 ≤ (Ls : Int)) (h : OKm M_4) (hj : ∀ R, OKm R → Z (j_15 R) K) : Z (
      chk (0 ≤ (l3_3 + 1) ∧ (l3_3 + 1) < (Ls : Int)) <|
      chk (0 ≤ (l3_3 + 2) ∧ (l3_3 + 2) < (Ls : Int)) <|
      (X_askings (Int32.toInt (xs (Int.toNat (l3_3 + 1)))) (Int32.toInt (xs (Int.toNat (l3_3 + 2)))) M_4).bind fun (r_251, M_252) =>
      (M_askings (Int32.toInt (xs (Int.toNat (l3_3 + 1)))) (Int32.toInt (xs (Int.toNat (l3_3 + 2)))) M_252).bind fun (r_253, M_254) =>
      if ¬ n32 r_251 = n32 r_253 then
        some (.inr (.inr (0, M_254)))
      else
        j_15 M_254) K := by
  rw [chk_pos (by omega), chk_pos (by omega)]
  obtain ⟨v, C', R', e1, e2, hok⟩ := st_askings (x := (Int32.toInt (xs (Int.toNat (l3_3 + 1))))) (y := (Int32.toInt (xs (Int.toNat (l3_3 + 2))))) (n32_raw _) (n32_raw _) h
  rw [e1, bind_some']
  try dsimp only
  rw [e2, bind_some']
  try dsimp only
  rw [if_neg (fun z => z rfl)]
  exact hj _ hok
theorem br_18 (hl : 0 ≤ l3_3 ∧ l3_3 + 6 ≤ (Ls : Int)) (h : OKm M_4) (hj : ∀ R, OKm R → Z (j_15 R) K) : Z (
      chk (0 ≤ (l3_3 + 1) ∧ (l3_3 + 1) < (Ls : Int)) <|
      chk (0 ≤ (l3_3 + 2) ∧ (l3_3 + 2) < (Ls : Int)) <|
      chk (0 ≤ (l3_3 + 3) ∧ (l3_3 + 3) < (Ls : Int)) <|
      chk (0 ≤ (l3_3 + 4) ∧ (l3_3 + 4) < (Ls : Int)) <|
      (X_lasts (Int32.toInt (xs (Int.toNat (l3_3 + 1)))) (Int32.toInt (xs (Int.toNat (l3_3 + 2)))) (Int32.toInt (xs (Int.toNat (l3_3 + 3)))) (Int32.toInt (xs (Int.toNat (l3_3 + 4)))) M_4).bind fun r_265 =>
      (M_lasts (Int32.toInt (xs (Int.toNat (l3_3 + 1)))) (Int32.toInt (xs (Int.toNat (l3_3 + 2)))) (Int32.toInt (xs (Int.toNat (l3_3 + 3)))) (Int32.toInt (xs (Int.toNat (l3_3 + 4)))) M_4).bind fun r_266 =>
      if ¬ n32 r_265 = n32 r_266 then
        some (.inr (.inr (0, M_4)))
      else
        j_15 M_4) K := by
  rw [chk_pos (by omega), chk_pos (by omega), chk_pos (by omega), chk_pos (by omega)]
  obtain ⟨v, e1, e2⟩ := op_lasts (C := M_4) (R := M_4) h.1 (a := (Int32.toInt (xs (Int.toNat (l3_3 + 1))))) (c := (Int32.toInt (xs (Int.toNat (l3_3 + 2))))) (r := (Int32.toInt (xs (Int.toNat (l3_3 + 3))))) (w := (Int32.toInt (xs (Int.toNat (l3_3 + 4))))) (n32_raw _) (n32_raw _) (n32_raw _) (n32_raw _)
  rw [e1, bind_some', e2, bind_some', if_neg (fun z => z rfl)]
  exact hj _ h
theorem br_19 (hl : 0 ≤ l3_3 ∧ l3_3 + 6 ≤ (Ls : Int)) (h : OKm M_4) (hj : ∀ R, OKm R → Z (j_15 R) K) : Z (
      chk (0 ≤ (l3_3 + 1) ∧ (l3_3 + 1) < (Ls : Int)) <|
      chk (0 ≤ (l3_3 + 2) ∧ (l3_3 + 2) < (Ls : Int)) <|
      chk (0 ≤ (l3_3 + 3) ∧ (l3_3 + 3) < (Ls : Int)) <|
      (X_with (Int32.toInt (xs (Int.toNat (l3_3 + 1)))) (Int32.toInt (xs (Int.toNat (l3_3 + 2)))) (Int32.toInt (xs (Int.toNat (l3_3 + 3)))) M_4).bind fun r_275 =>
      (M_with (Int32.toInt (xs (Int.toNat (l3_3 + 1)))) (Int32.toInt (xs (Int.toNat (l3_3 + 2)))) (Int32.toInt (xs (Int.toNat (l3_3 + 3)))) M_4).bind fun r_276 =>
      if ¬ n32 r_275 = n32 r_276 then
        some (.inr (.inr (0, M_4)))
      else
        j_15 M_4) K := by
  rw [chk_pos (by omega), chk_pos (by omega), chk_pos (by omega)]
  obtain ⟨v, e1, e2⟩ := op_with (C := M_4) (R := M_4) h.1 (p := (Int32.toInt (xs (Int.toNat (l3_3 + 1))))) (r := (Int32.toInt (xs (Int.toNat (l3_3 + 2))))) (w := (Int32.toInt (xs (Int.toNat (l3_3 + 3))))) (n32_raw _) (n32_raw _) (n32_raw _)
  rw [e1, bind_some', e2, bind_some', if_neg (fun z => z rfl)]
  exact hj _ h
theorem br_20 (hl : 0 ≤ l3_3 ∧ l3_3 + 6 ≤ (Ls : Int)) (h : OKm M_4) (hj : ∀ R, OKm R → Z (j_15 R) K) : Z (
      chk (0 ≤ (l3_3 + 1) ∧ (l3_3 + 1) < (Ls : Int)) <|
      chk (0 ≤ (l3_3 + 2) ∧ (l3_3 + 2) < (Ls : Int)) <|
      (X_rest (Int32.toInt (xs (Int.toNat (l3_3 + 1)))) (Int32.toInt (xs (Int.toNat (l3_3 + 2)))) M_4).bind fun (r_283, M_284) =>
      (M_rest (Int32.toInt (xs (Int.toNat (l3_3 + 1)))) (Int32.toInt (xs (Int.toNat (l3_3 + 2)))) M_284).bind fun r_285 =>
      if ¬ n32 r_283 = n32 r_285 then
        some (.inr (.inr (0, M_284)))
      else
        j_15 M_284) K := by
  rw [chk_pos (by omega), chk_pos (by omega)]
  obtain ⟨v, R', e1, e2, hok⟩ := st_rest (x := (Int32.toInt (xs (Int.toNat (l3_3 + 1))))) (y := (Int32.toInt (xs (Int.toNat (l3_3 + 2))))) (n32_raw _) (n32_raw _) h
  rw [e1, bind_some']
  try dsimp only
  rw [e2, bind_some']
  try dsimp only
  rw [if_neg (fun z => z rfl)]
  exact hj _ hok
theorem br_21 (hl : 0 ≤ l3_3 ∧ l3_3 + 6 ≤ (Ls : Int)) (h : OKm M_4) (hj : ∀ R, OKm R → Z (j_15 R) K) : Z (
      chk (0 ≤ (l3_3 + 1) ∧ (l3_3 + 1) < (Ls : Int)) <|
      chk (0 ≤ (l3_3 + 2) ∧ (l3_3 + 2) < (Ls : Int)) <|
      chk (0 ≤ (l3_3 + 3) ∧ (l3_3 + 3) < (Ls : Int)) <|
      chk (0 ≤ (l3_3 + 4) ∧ (l3_3 + 4) < (Ls : Int)) <|
      chk (0 ≤ (l3_3 + 5) ∧ (l3_3 + 5) < (Ls : Int)) <|
      (X_truth (Int32.toInt (xs (Int.toNat (l3_3 + 1)))) (Int32.toInt (xs (Int.toNat (l3_3 + 2)))) (Int32.toInt (xs (Int.toNat (l3_3 + 3)))) (Int32.toInt (xs (Int.toNat (l3_3 + 4)))) (Int32.toInt (xs (Int.toNat (l3_3 + 5)))) M_4).bind fun (r_298, M_299) =>
      (M_truth (Int32.toInt (xs (Int.toNat (l3_3 + 1)))) (Int32.toInt (xs (Int.toNat (l3_3 + 2)))) (Int32.toInt (xs (Int.toNat (l3_3 + 3)))) (Int32.toInt (xs (Int.toNat (l3_3 + 4)))) (Int32.toInt (xs (Int.toNat (l3_3 + 5)))) M_299).bind fun (r_300, M_301) =>
      if ¬ n32 r_298 = n32 r_300 then
        some (.inr (.inr (0, M_301)))
      else
        j_15 M_301) K := by
  rw [chk_pos (by omega), chk_pos (by omega), chk_pos (by omega), chk_pos (by omega), chk_pos (by omega)]
  obtain ⟨v, C', R', e1, e2, hok⟩ := st_truth (x := (Int32.toInt (xs (Int.toNat (l3_3 + 1))))) (y := (Int32.toInt (xs (Int.toNat (l3_3 + 2))))) (z := (Int32.toInt (xs (Int.toNat (l3_3 + 3))))) (u := (Int32.toInt (xs (Int.toNat (l3_3 + 4))))) (w := (Int32.toInt (xs (Int.toNat (l3_3 + 5))))) (n32_raw _) (n32_raw _) (n32_raw _) (n32_raw _) (n32_raw _) h
  rw [e1, bind_some']
  try dsimp only
  rw [e2, bind_some']
  try dsimp only
  rw [if_neg (fun z => z rfl)]
  exact hj _ hok
theorem br_22 (hl : 0 ≤ l3_3 ∧ l3_3 + 6 ≤ (Ls : Int)) (h : OKm M_4) (hj : ∀ R, OKm R → Z (j_15 R) K) : Z (
      chk (0 ≤ (l3_3 + 1) ∧ (l3_3 + 1) < (Ls : Int)) <|
      chk (0 ≤ (l3_3 + 2) ∧ (l3_3 + 2) < (Ls : Int)) <|
      (X_leagues (Int32.toInt (xs (Int.toNat (l3_3 + 1)))) (Int32.toInt (xs (Int.toNat (l3_3 + 2)))) M_4).bind fun (r_308, M_309) =>
      (M_leagues (Int32.toInt (xs (Int.toNat (l3_3 + 1)))) (Int32.toInt (xs (Int.toNat (l3_3 + 2)))) M_309).bind fun (r_310, M_311) =>
      if ¬ n32 r_308 = n32 r_310 then
        some (.inr (.inr (0, M_311)))
      else
        j_15 M_311) K := by
  rw [chk_pos (by omega), chk_pos (by omega)]
  obtain ⟨v, C', R', e1, e2, hok⟩ := st_leagues (x := (Int32.toInt (xs (Int.toNat (l3_3 + 1))))) (y := (Int32.toInt (xs (Int.toNat (l3_3 + 2))))) (n32_raw _) (n32_raw _) h
  rw [e1, bind_some']
  try dsimp only
  rw [e2, bind_some']
  try dsimp only
  rw [if_neg (fun z => z rfl)]
  exact hj _ hok
theorem br_23 (hl : 0 ≤ l3_3 ∧ l3_3 + 6 ≤ (Ls : Int)) (h : OKm M_4) (hj : ∀ R, OKm R → Z (j_15 R) K) : Z (
      chk (0 ≤ (l3_3 + 1) ∧ (l3_3 + 1) < (Ls : Int)) <|
      (X_plain (Int32.toInt (xs (Int.toNat (l3_3 + 1)))) M_4).bind fun (r_316, M_317) =>
      (M_plain (Int32.toInt (xs (Int.toNat (l3_3 + 1)))) M_317).bind fun (r_318, M_319) =>
      if ¬ n32 r_316 = n32 r_318 then
        some (.inr (.inr (0, M_319)))
      else
        j_15 M_319) K := by
  rw [chk_pos (by omega)]
  obtain ⟨v, C', R', e1, e2, hok⟩ := st_plain (x := (Int32.toInt (xs (Int.toNat (l3_3 + 1))))) (n32_raw _) h
  rw [e1, bind_some']
  try dsimp only
  rw [e2, bind_some']
  try dsimp only
  rw [if_neg (fun z => z rfl)]
  exact hj _ hok
theorem br_24 (hl : 0 ≤ l3_3 ∧ l3_3 + 6 ≤ (Ls : Int)) (h : OKm M_4) (hj : ∀ R, OKm R → Z (j_15 R) K) : Z (
      chk (0 ≤ (l3_3 + 1) ∧ (l3_3 + 1) < (Ls : Int)) <|
      chk (0 ≤ (l3_3 + 2) ∧ (l3_3 + 2) < (Ls : Int)) <|
      chk (0 ≤ (l3_3 + 3) ∧ (l3_3 + 3) < (Ls : Int)) <|
      (X_vote (Int32.toInt (xs (Int.toNat (l3_3 + 1)))) (Int32.toInt (xs (Int.toNat (l3_3 + 2)))) (Int32.toInt (xs (Int.toNat (l3_3 + 3)))) M_4).bind fun (r_328, M_329) =>
      (M_vote (Int32.toInt (xs (Int.toNat (l3_3 + 1)))) (Int32.toInt (xs (Int.toNat (l3_3 + 2)))) (Int32.toInt (xs (Int.toNat (l3_3 + 3)))) M_329).bind fun r_330 =>
      if ¬ n32 r_328 = n32 r_330 then
        some (.inr (.inr (0, M_329)))
      else
        j_15 M_329) K := by
  rw [chk_pos (by omega), chk_pos (by omega), chk_pos (by omega)]
  obtain ⟨v, R', e1, e2, hok⟩ := st_vote (x := (Int32.toInt (xs (Int.toNat (l3_3 + 1))))) (y := (Int32.toInt (xs (Int.toNat (l3_3 + 2))))) (z := (Int32.toInt (xs (Int.toNat (l3_3 + 3))))) (n32_raw _) (n32_raw _) (n32_raw _) h
  rw [e1, bind_some']
  try dsimp only
  rw [e2, bind_some']
  try dsimp only
  rw [if_neg (fun z => z rfl)]
  exact hj _ hok
theorem br_25 (hl : 0 ≤ l3_3 ∧ l3_3 + 6 ≤ (Ls : Int)) (h : OKm M_4) (hj : ∀ R, OKm R → Z (j_15 R) K) : Z (
      chk (0 ≤ (l3_3 + 1) ∧ (l3_3 + 1) < (Ls : Int)) <|
      (X_image (Int32.toInt (xs (Int.toNat (l3_3 + 1)))) M_4).bind fun (r_335, M_336) =>
      (M_image (Int32.toInt (xs (Int.toNat (l3_3 + 1)))) M_336).bind fun (r_337, M_338) =>
      if ¬ n32 r_335 = n32 r_337 then
        some (.inr (.inr (0, M_338)))
      else
        j_15 M_338) K := by
  rw [chk_pos (by omega)]
  obtain ⟨v, C', R', e1, e2, hok⟩ := st_image (x := (Int32.toInt (xs (Int.toNat (l3_3 + 1))))) (n32_raw _) h
  rw [e1, bind_some']
  try dsimp only
  rw [e2, bind_some']
  try dsimp only
  rw [if_neg (fun z => z rfl)]
  exact hj _ hok
theorem br_26 (hl : 0 ≤ l3_3 ∧ l3_3 + 6 ≤ (Ls : Int)) (h : OKm M_4) (hj : ∀ R, OKm R → Z (j_15 R) K) : Z (
      chk (0 ≤ (l3_3 + 1) ∧ (l3_3 + 1) < (Ls : Int)) <|
      (X_back (Int32.toInt (xs (Int.toNat (l3_3 + 1)))) M_4).bind fun (r_343, M_344) =>
      (M_back (Int32.toInt (xs (Int.toNat (l3_3 + 1)))) M_344).bind fun (r_345, M_346) =>
      if ¬ n32 r_343 = n32 r_345 then
        some (.inr (.inr (0, M_346)))
      else
        j_15 M_346) K := by
  rw [chk_pos (by omega)]
  obtain ⟨v, C', R', e1, e2, hok⟩ := st_back (x := (Int32.toInt (xs (Int.toNat (l3_3 + 1))))) (n32_raw _) h
  rw [e1, bind_some']
  try dsimp only
  rw [e2, bind_some']
  try dsimp only
  rw [if_neg (fun z => z rfl)]
  exact hj _ hok
theorem br_27 (hl : 0 ≤ l3_3 ∧ l3_3 + 6 ≤ (Ls : Int)) (h : OKm M_4) (hj : ∀ R, OKm R → Z (j_15 R) K) : Z (
      chk (0 ≤ (l3_3 + 1) ∧ (l3_3 + 1) < (Ls : Int)) <|
      (X_about (Int32.toInt (xs (Int.toNat (l3_3 + 1)))) M_4).bind fun r_351 =>
      (M_about (Int32.toInt (xs (Int.toNat (l3_3 + 1)))) M_4).bind fun r_352 =>
      if ¬ n32 r_351 = n32 r_352 then
        some (.inr (.inr (0, M_4)))
      else
        j_15 M_4) K := by
  rw [chk_pos (by omega)]
  obtain ⟨v, e1, e2⟩ := op_about (C := M_4) (R := M_4) h.1 (x := (Int32.toInt (xs (Int.toNat (l3_3 + 1)))))
  rw [e1, bind_some', e2, bind_some', if_neg (fun z => z rfl)]
  exact hj _ h
end LAWB
