/-! ===== a row's line, read ===== -/
section ROWL2
variable {n t b s : Nat} {C R : Mem}
theorem row_fr {s nr : Nat} {R R3 R4 R5 R6 : Mem} (h6 : ∀ a k, ¬ (a = 81 ∧ 4 ≤ k ∧ k ≤ 10) → R6 a k = R5 a k) (h5 : ∀ a k, ¬ (a = 105 ∧ k = 17 * b + nr) → ¬ (a = 92 ∧ k = 12 * b + nr) → ¬ (a = 86 ∧ k = b) → R5 a k = R4 a k) (h4 : ∀ a k, ¬ ((a = 81 ∧ ((4 ≤ k ∧ k ≤ 10) ∨ (40 ≤ k ∧ k ≤ 42) ∨ k = 45)) ∨ ((a = 106 ∨ a = 107) ∧ 900 * b + s ≤ k) ∨ (a = 90 ∧ k = b) ∨ a = 108 ∨ a = 109 ∨ a = 110) → R4 a k = R3 a k) (h3 : ∀ a k, ¬ (a = 81 ∧ ((4 ≤ k ∧ k ≤ 10) ∨ k = 43 ∨ k = 44 ∨ k = 45)) → ¬ (a = 95 ∧ k = 12 * b + nr) → ¬ (a = 104 ∧ k = 17 * b + nr) → R3 a k = R a k) : ∀ a k, ¬ (a = 81 ∧ ((4 ≤ k ∧ k ≤ 10) ∨ (40 ≤ k ∧ k ≤ 45))) → ¬ ((a = 106 ∨ a = 107) ∧ 900 * b + s ≤ k) → ¬ ((a = 90 ∨ a = 86) ∧ k = b) → ¬ (a = 108 ∨ a = 109 ∨ a = 110) → ¬ ((a = 104 ∨ a = 105) ∧ k = 17 * b + nr) → ¬ ((a = 92 ∨ a = 95) ∧ k = 12 * b + nr) → R6 a k = R a k := fun a k z1 z2 z3 z4 z5 z6 => by
  rw [h6 a k (by omega), h5 a k (by omega) (by omega) (by omega), h4 a k (by omega), h3 a k (by omega) (by omega) (by omega)]
theorem line_row (hB : TB n C R) (hI : PI t b s C R) {p : Nat} (g : Gd n 5 p C R) : ∃ C' R', N_readRow C = some C' ∧ M_readLine R = some R' ∧ LRes n t b (p + 1) C' R' ∧ (FB C' R' ∨ C' 27 15 = 0 ∨ C' 27 15 = 1) := by
  have hI0 := hI
  have hHN := HN_of hI
  obtain ⟨⟨ht, hb, h27, h39⟩, hN, hNm, hCo, hTi, hWi, hKn, hCn, hRo, hAl, hLw⟩ := hI
  have ht2 : t = 3 ∨ t = 15 := ht
  have gT := g.2.2.2.2.2
  have hR12 := num_R hN
  have hfull := full_eq gT hb h39 hLw.2.1
  rw [if_neg (by decide), if_neg (by decide), if_pos rfl, hR12.1, n32_nat (by omega)] at hfull
  have h8 : R 81 8 = 3 ∧ R 81 10 = 7499639 := by
    obtain ⟨-, hT⟩ := gT
    rcases hT with ⟨z, -⟩ | ⟨z, -⟩ | ⟨-, -, z3, z4⟩ | ⟨z, -⟩ | ⟨z, -⟩
    · omega
    · omega
    · refine ⟨z3, ?_⟩
      obtain ⟨-, -, -, -, w4, -⟩ := wconst
      rw [z4]
      exact w4
    · omega
    · exact absurd z (by decide)
  obtain ⟨hn5, hn5a, hn5b⟩ := hN.2.2.2.2.2
  obtain ⟨u, hu⟩ : ∃ u : Nat, R 90 b = (u : Int) := ⟨(R 90 b).toNat, by omega⟩
  have hu80 : u ≤ 80 := by omega
  have hs9 : s ≤ 9 * u := by have := hCn.2.2.2; omega
  have hb1 : ∀ C, C 40 4 = 24 → N_readOne 10 (0 : Int) C = some C := fun C => brk_one 10 _ C (by decide)
  generalize hnr : nR R b = nr at hfull hR12
  unfold N_readRow
  rw [h27, chk_pos (isTI_of rfl ht), lt1_eq, tn_nat, hR12.2.1, n32_nat (by omega)]
  by_cases hfu : nr = 12
  · rw [decide_eq_true (by omega)] at hfull
    rw [if_neg (by omega), bind_some', begin_no g, bind_some', bk_new failC_at.1, bind_some']
    dsimp only
    rw [lt1_eq, lt1_eq, lt1_eq]
    have hk : ∀ k, up (up (failC C 2) 27 14 0) 27 15 0 40 k = failC C 2 40 k := fun k => by rw [up_c (by decide), up_c (by decide)]
    rw [brk_e hb1 _ ((hk 4).trans failC_at.1), bind_some', lt1_eq]
    generalize hC1 : up (up (failC C 2) 27 14 0) 27 15 0 = C1 at hk
    have he := bk_expect (C := C1) ((hk 4).trans failC_at.1) (w := 59) (by decide) (by decide)
    rw [show ((59 : Nat) : Int) = 59 from rfl] at he
    rw [he, bind_some', (hk 4).trans failC_at.1, if_neg (by decide), line_no g (fun _ => hfull)]
    obtain ⟨f, q, z1, z2⟩ := both_fail hB g (f := 2) (by decide) (by decide)
    have hfb : FB C1 (up (up R 81 4 2) 81 5 (p : Int)) := ⟨f, q, by rw [hk, hk, hk]; exact z1, z2⟩
    exact ⟨_, _, rfl, rfl, Or.inr hfb, Or.inl hfb⟩
  · rw [decide_eq_false (by omega)] at hfull
    obtain ⟨C1, R1, k1, k2, k3⟩ := pass_ok hB on_self g
    rw [if_neg (by decide)] at k3
    have e39 : R1 81 39 = (b : Int) := (k3.1.2 _ _ (by omega)).trans h39
    have e86 : R1 86 b = (nr : Int) := (k3.1.2 _ _ (by omega)).trans hR12.1
    obtain ⟨f0, v, x, C2, y, R2, w1, w2, w3, w4, hon, w5⟩ := newFR hB hI0 k3
    clear k3
    rw [if_pos (by omega), bind_some', begin_yes, k1, bind_some', w3, bind_some']
    dsimp only
    rw [rl_Row h8.1 h8.2 hfull (gd_good g.2.1.1), k2, bind_some']
    have c28 : C2 28 1 = (s : Int) := (hon.1 _ _ (by decide)).trans hCn.2.1
    have e39b : R2 81 39 = (b : Int) := (hon.2 _ _ (by omega)).trans h39
    have e86b : R2 86 b = (nr : Int) := (hon.2 _ _ (by omega)).trans hR12.1
    have e40 : R2 81 40 = ((900 * b + s : Nat) : Int) := (hon.2 _ _ (by omega)).trans hCn.2.2.1
    rw [lt1_eq, lt1_eq, lt1_eq, c28]
    generalize hC3 : up (up C2 27 14 0) 27 15 0 = C3
    have c3 : ∀ a k, ¬ (a = 27 ∧ (k = 14 ∨ k = 15)) → C3 a k = C2 a k := fun a k z => by rw [← hC3, up_at, if_neg (by omega), up_at, if_neg (by omega)]
    have c3a : C3 27 14 = ((0 : Nat) : Int) ∧ C3 27 15 = ((0 : Nat) : Int) := by rw [← hC3]; exact ⟨by rw [up_k (by decide), up_eq]; rfl, by rw [up_eq]; rfl⟩
    unfold M_readRow
    rw [e39, chk_pos (by omega), tn_nat, e86, lt1_eq, show 12 * (b : Int) + (nr : Int) = ((12 * b + nr : Nat) : Int) by omega, w1, bind_some', w2, bind_some', w4, bind_some']
    dsimp only
    rw [chk_pos (by omega), lt1_eq, tn_nat, up_c (show (81 : Nat) ≠ 95 by decide), e39b, chk_pos (by omega), lt1_eq, tn_nat, up_c (show (86 : Nat) ≠ 95 by decide), e86b, show 17 * (b : Int) + (nr : Int) = ((17 * b + nr : Nat) : Int) by omega, chk_pos (by omega), lt1_eq, tn_nat, up_c (show (81 : Nat) ≠ 95 by decide), e40, lt1_eq, lt1_eq, lt1_eq]
    generalize hR3 : up (up (up (up (up R2 95 (12 * b + nr) y) 104 (17 * b + nr) ((900 * b + s : Nat) : Int)) 81 43 0) 81 44 0) 81 45 0 = R3
    have r3 : ∀ a k, ¬ (a = 95 ∧ k = 12 * b + nr) → ¬ (a = 104 ∧ k = 17 * b + nr) → ¬ (a = 81 ∧ (k = 43 ∨ k = 44 ∨ k = 45)) → R3 a k = R2 a k := fun a k z1 z2 z3 => by rw [← hR3, up_at, if_neg (by omega), up_at, if_neg (by omega), up_at, if_neg (by omega), up_at, if_neg z2, up_at, if_neg z1]
    have r3a : R3 95 (12 * b + nr) = y ∧ R3 104 (17 * b + nr) = ((900 * b + s : Nat) : Int) ∧ R3 81 43 = ((0 : Nat) : Int) ∧ R3 81 44 = ((0 : Nat) : Int) ∧ R3 81 45 = ((0 : Nat) : Int) := by
      rw [← hR3]
      exact ⟨by rw [up_c (by decide), up_c (by decide), up_c (by decide), up_c (by decide), up_eq], by rw [up_c (by decide), up_c (by decide), up_c (by decide), up_eq], by rw [up_k (by decide), up_k (by decide), up_eq]; rfl, by rw [up_k (by decide), up_eq]; rfl, by rw [up_eq]; rfl⟩
    have cc : ∀ a k, a ≠ 40 → ¬ (a = 27 ∧ (k = 14 ∨ k = 15)) → C3 a k = C a k := fun a k z1 z2 => (c3 a k z2).trans (hon.1 a k z1)
    have rr : ∀ a k, ¬ (a = 81 ∧ ((4 ≤ k ∧ k ≤ 10) ∨ k = 43 ∨ k = 44 ∨ k = 45)) → ¬ (a = 95 ∧ k = 12 * b + nr) → ¬ (a = 104 ∧ k = 17 * b + nr) → R3 a k = R a k := fun a k z1 z2 z3 => (r3 a k z2 z3 (by omega)).trans (hon.2 a k (by omega))
    have gf3 : GF n (p + 1) (True ∧ ∃ m : Nat, m < 2 ^ 40 ∧ x = (m : Int) ∧ y = ((w256 m : Nat) : Int)) C3 R3 := GF_same w5 (fun k => c3 _ _ (by omega)) (fun k => c3 _ _ (by omega)) (fun k z1 z2 => r3 _ _ (by omega) (by omega) (by omega))
    have enR : nR R3 b = nr := by rw [← hnr]; unfold nR; rw [rr 86 _ (by omega) (by omega) (by omega)]
    have enF : nF R3 b = nF R b := by unfold nF; rw [rr 84 _ (by omega) (by omega) (by omega)]
    have enP : nP R3 b = nP R b := by unfold nP; rw [rr 85 _ (by omega) (by omega) (by omega)]
    have hB3 : TB n C3 R3 := by
      obtain ⟨y1, y2, y3, y4, y5⟩ := hB
      exact ⟨y1, fun i hi => by rw [cc _ _ (by omega) (by omega)]; exact y2 i hi, (rr _ _ (by omega) (by omega) (by omega)).trans y3, fun i hi => by rw [rr _ _ (by omega) (by omega) (by omega), cc _ _ (by omega) (by omega)]; exact y4 i hi, fun i hi => by rw [cc _ _ (by omega) (by omega)]; exact y5 i hi⟩
    have n95 : ∀ i, i < nr → R3 95 (12 * b + i) = R 95 (12 * b + i) := fun i hi => rr _ _ (by omega) (by omega) (by omega)
    have hHN3 : HN t b C3 R3 := by
      obtain ⟨-, q2, q3, q4, m1, m2, m3⟩ := hHN
      rw [hnr] at m3 q4
      refine ⟨⟨ht, hb, (cc _ _ (by omega) (by omega)).trans h27, (rr _ _ (by omega) (by omega) (by omega)).trans h39⟩, ?_, ?_, ?_, ?_, ?_, ?_⟩
      · rw [enF, cc _ _ (by omega) (by omega), rr 84 _ (by omega) (by omega) (by omega)]; exact q2
      · rw [enP, cc _ _ (by omega) (by omega), rr 85 _ (by omega) (by omega) (by omega)]; exact q3
      · rw [enR, cc _ _ (by omega) (by omega), rr 86 _ (by omega) (by omega) (by omega)]; exact q4
      · rw [enF]; exact NmQ_keep m1 (fun i hi => cc _ _ (by omega) (by omega)) (fun i hi => rr _ _ (by omega) (by omega) (by omega))
      · rw [enP]; exact NmQ_keep m2 (fun i hi => cc _ _ (by omega) (by omega)) (fun i hi => rr _ _ (by omega) (by omega) (by omega))
      · rw [enR]; exact NmQ_keep m3 (fun i hi => cc _ _ (by omega) (by omega)) n95
    have hEnv : EnvX 0 t b n 0 C3 R3 := ⟨hB3, hHN3, r3a.2.2.1, by decide, fun _ => ⟨⟨c3a.1, r3a.2.2.2.1, by decide⟩, fun r hr => by
      rw [enR] at hr
      obtain ⟨lc, len, -, -, -, -, -, q1, q2, -⟩ := hRo r (by omega)
      rw [cc 37 r (by decide) (by omega), rr 92 _ (by omega) (by omega) (by omega)]
      exact ⟨q1, q2⟩⟩⟩
    have hp16 : p + 1 ≤ 1605 := by
      obtain ⟨-, -, -, -, ⟨e, y1, y2, -⟩, -⟩ := g
      have := hB.1
      omega
    have hcnt : C3 28 1 = (s : Int) ∧ R3 81 40 = ((900 * b + s : Nat) : Int) ∧ s ≤ 720 := ⟨(cc _ _ (by omega) (by omega)).trans hCn.2.1, (rr _ _ (by omega) (by omega) (by omega)).trans hCn.2.2.1, hCn.1⟩
    have hmain : ∃ C4 R4, N_readE (N_readOne 10) 0 C3 = some C4 ∧ (∃ gd, M_isGood R3 = some gd ∧ (if ¬ n32 gd = 0 then (M_e R3).bind fun M_34 => some M_34 else some R3) = some R4) ∧ (EG 0 t b n 0 C3 R3 s 0 (p + 1) C4 R4 ∧ (∃ m : Nat, m < 2 ^ 40 ∧ x = (m : Int) ∧ y = ((w256 m : Nat) : Int)) ∨ EF 0 b R3 s C4 R4) := by
      obtain ⟨C4, R4, w1, w2, w3⟩ := e_always hEnv hb (h := 0) (u := u) (s := s) ⟨by rw [cc _ _ (by omega) (by omega), hn5, hu], (rr _ _ (by omega) (by omega) (by omega)).trans hu, hu80⟩ hcnt hs9 (fun _ => ⟨Or.inl c3a.2, fun _ => ⟨c3a.2, r3a.2.2.2.2, by decide⟩⟩) (by decide) hp16 gf3
      rcases gf3 with ⟨kd, p2, z1, g2, -, z3⟩ | ⟨f, q, ⟨z1, z2, z3⟩, z4, hf | ⟨rfl, hbad⟩⟩
      · refine ⟨C4, R4, w1, ⟨1, gd_good g2.2.1.1, by rw [if_pos nz1, w2, bind_some']⟩, ?_⟩
        rcases w3 with w3 | w3
        · exact Or.inl ⟨w3, z3⟩
        · exact Or.inr w3
      · exact ⟨C3, R3, brk_e hb1 _ z1, ⟨0, fl_good hf, by rw [if_neg nz0]⟩, Or.inr ⟨f, q, ⟨⟨s, hCn.1, hcnt.1⟩, Or.inl ⟨z1, z2, z3⟩⟩, ⟨z4, Or.inl hf⟩, fun _ _ _ => rfl, fun z => z⟩⟩
      · refine ⟨C4, R4, w1, ⟨1, gd_good hbad.1, by rw [if_pos nz1, w2, bind_some']⟩, ?_⟩
        rcases w3 with ⟨u', s', h', kd', p', -, -, -, -, -, -, g3, -⟩ | w3
        · have e := brk_e hb1 _ z1
          rw [w1] at e
          cases e
          have := Tok_kd g3.2.2.2.2.2
          have e4 := g3.2.2.2.2.2.1
          rw [z1] at e4
          omega
        · exact Or.inr w3
    clear gf3 w5
    obtain ⟨C4, R4, m1, ⟨gd, m2, m2b⟩, m3⟩ := hmain
    rw [m1, bind_some', lt1_eq, m2, bind_some', m2b, bind_some', lt1_eq]
    have h45 : R4 81 45 = 0 ∨ R4 81 45 = 1 := by
      rcases m3 with ⟨⟨u', s', h', kd', p', -, -, -, -, k45, -⟩, -⟩ | ⟨f, q, -, -, -, k45⟩
      · exact k45 (Or.inl r3a.2.2.2.2)
      · exact k45 (Or.inl r3a.2.2.2.2)
    have hre : ∀ a k, ¬ (a = 81 ∧ ((4 ≤ k ∧ k ≤ 10) ∨ (40 ≤ k ∧ k ≤ 42) ∨ k = 45)) → ¬ ((a = 106 ∨ a = 107) ∧ 900 * b + s ≤ k) → ¬ (a = 90 ∧ k = b) → ¬ (a = 108 ∨ a = 109 ∨ a = 110) → R4 a k = R3 a k := by
      rcases m3 with ⟨⟨u', s', h', kd', p', ⟨-, xf2⟩, -⟩, -⟩ | ⟨f, q, -, -, hre, -⟩
      · exact fun a k z1 z2 z3 z4 => xf2 a k (by omega)
      · exact fun a k z1 z2 z3 z4 => hre a k (by omega)
    have e39c : R4 81 39 = (b : Int) := by rw [hre _ _ (by omega) (by omega) (by omega) (by omega)]; exact (rr _ _ (by omega) (by omega) (by omega)).trans h39
    have e86c : R4 86 b = (nr : Int) := by rw [hre _ _ (by omega) (by omega) (by omega) (by omega)]; exact (rr _ _ (by omega) (by omega) (by omega)).trans hR12.1
    rw [up_c (show (81 : Nat) ≠ 105 by decide), chk_pos h45, lt1_eq, up_c (show (81 : Nat) ≠ 92 by decide), up_c (show (81 : Nat) ≠ 105 by decide), e39c, chk_pos (by clear m3 h45; omega), lt1_eq, tn_nat, up_c (show (86 : Nat) ≠ 92 by decide), up_c (show (86 : Nat) ≠ 105 by decide), e86c, bind_some', show (nr : Int) + 1 = ((nr + 1 : Nat) : Int) by clear m3 h45; omega]
    generalize hR5 : up (up (up R4 105 (17 * b + nr) (R4 81 40)) 92 (12 * b + nr) (R4 81 45)) 86 b ((nr + 1 : Nat) : Int) = R5
    have r5 : ∀ a k, ¬ (a = 105 ∧ k = 17 * b + nr) → ¬ (a = 92 ∧ k = 12 * b + nr) → ¬ (a = 86 ∧ k = b) → R5 a k = R4 a k := fun a k z1 z2 z3 => by rw [← hR5, up_at, if_neg z3, up_at, if_neg z2, up_at, if_neg z1]
    have r5a : R5 105 (17 * b + nr) = R4 81 40 ∧ R5 92 (12 * b + nr) = R4 81 45 ∧ R5 86 b = ((nr + 1 : Nat) : Int) := by rw [← hR5]; exact ⟨by rw [up_c (by decide), up_c (by decide), up_eq], by rw [up_c (by decide), up_eq], up_eq⟩
    clear h45
    rcases m3 with ⟨⟨u', s', h', kd', p', ⟨xf1, xf2⟩, ⟨u1, u2, u3⟩, ⟨s1, s2, s3⟩, hxm, -, hh', g4, hp', ⟨o1, o2⟩, hss, hst, hhr, hs9', -⟩, m, hm, hxm2, hym⟩ | ⟨f, q, hD, hf, hre2, -⟩
    · obtain ⟨hx1, hx2, -⟩ := (hxm rfl).2 rfl
      have cF4 : ∀ a k, ¬ (a = 40) → ¬ (a = 28 ∧ k = 1) → ¬ (a = 29 ∧ s ≤ k) → ¬ (a = 27 ∧ (k = 14 ∨ k = 15)) → ¬ (a = t ∧ k = 5) → C4 a k = C a k := fun a k z1 z2 z3 z4 z5 => by
        rw [xf1 a k (by omega), cc a k z1 (by omega)]
      have hB5 : TB n C4 R5 := by
        obtain ⟨y1, y2, y3, y4, y5⟩ := hB3
        exact ⟨y1, fun i hi => by rw [xf1 _ _ (by omega)]; exact y2 i hi, by rw [r5 _ _ (by omega) (by omega) (by omega), xf2 _ _ (by omega)]; exact y3, fun i hi => by rw [r5 _ _ (by omega) (by omega) (by omega), xf2 _ _ (by omega), xf1 _ _ (by omega)]; exact y4 i hi, fun i hi => by rw [xf1 _ _ (by omega)]; exact y5 i hi⟩
      have g5 : Gd n kd' p' C4 R5 := Gd_same g4 (fun k => rfl) (fun k => rfl) (fun k z1 z2 => r5 _ _ (by omega) (by omega) (by omega))
      obtain ⟨r, C5, R6, x1, x2, x3, hon6, x4⟩ := must_sign (C0 := C4) (R0 := R5) (q := p') (P := True) hB5 (w := 59) (by decide) ⟨on_self, Or.inl ⟨kd', p', Nat.le_refl _, g5, trivial⟩⟩
      rw [show ((59 : Nat) : Int) = 59 from rfl] at x1 x2
      rw [x2, bind_some', x1, bind_some', x3, bind_some']
      rcases x4 with ⟨kd6, p6, hp6, g6, -⟩ | hfb
      · have hk6 := Tok_kd g6.2.2.2.2.2
        have e27 : C5 27 16 = (t : Int) := by rw [hon6.1 _ _ (by decide), cF4 _ _ (by omega) (by omega) (by omega) (by omega) (by omega)]; exact h27
        have et2 : C5 t 2 = (nr : Int) := by rw [hon6.1 _ _ (by omega), cF4 _ _ (by omega) (by omega) (by omega) (by omega) (by omega)]; exact hR12.2.1
        have e15 : C5 27 15 = (h' : Int) := (hon6.1 _ _ (by decide)).trans hx1
        have hti : isTI ((t : Nat) : Int) := isTI_of rfl ht
        have h12 : 0 ≤ ((nr : Nat) : Int) ∧ ((nr : Nat) : Int) < 12 := by omega
        have h15 : (h' : Int) = 0 ∨ (h' : Int) = 1 := by omega
        have ua : ∀ (M : Mem) (a : Nat) (v : Int) (k : Nat), 34 ≤ a → up M a nr v 27 k = M 27 k := fun M a v k z => up_c (by omega)
        have ub : ∀ (M : Mem) (a : Nat) (v : Int) (k : Nat), 34 ≤ a → up M a nr v t k = M t k := fun M a v k z => up_c (by omega)
        have a34 : ∀ (M : Mem) v k, up M 34 nr v 27 k = M 27 k ∧ up M 34 nr v t k = M t k := fun M v k => ⟨ua M 34 v k (by decide), ub M 34 v k (by decide)⟩
        have a35 : ∀ (M : Mem) v k, up M 35 nr v 27 k = M 27 k ∧ up M 35 nr v t k = M t k := fun M v k => ⟨ua M 35 v k (by decide), ub M 35 v k (by decide)⟩
        have a36 : ∀ (M : Mem) v k, up M 36 nr v 27 k = M 27 k ∧ up M 36 nr v t k = M t k := fun M v k => ⟨ua M 36 v k (by decide), ub M 36 v k (by decide)⟩
        have a37 : ∀ (M : Mem) v k, up M 37 nr v 27 k = M 27 k ∧ up M 37 nr v t k = M t k := fun M v k => ⟨ua M 37 v k (by decide), ub M 37 v k (by decide)⟩
        rw [Tok_4 g6.2.2.2.2.2, if_pos (by omega)]
        simp only [lt1_eq, a34, a35, a36, a37, e27, et2, e15, tn_nat, chk_pos hti, chk_pos h12, chk_pos h15]
        rw [s1]
        generalize hC6 : up (up (up (up (up C5 34 nr x) 35 nr (s : Int)) 36 nr (s' : Int)) 37 nr (h' : Int)) t 2 ((nr : Int) + 1) = C6
        have c6 : ∀ a k, ¬ ((34 ≤ a ∧ a ≤ 37) ∧ k = nr) → ¬ (a = t ∧ k = 2) → C6 a k = C5 a k := fun a k z1 z2 => by rw [← hC6, up_at, if_neg z2, up_at, if_neg (by omega), up_at, if_neg (by omega), up_at, if_neg (by omega), up_at, if_neg (by omega)]
        have c34 : C6 34 nr = x := by rw [← hC6, up_c (by omega), up_c (by decide), up_c (by decide), up_c (by decide), up_eq]
        have c35 : C6 35 nr = (s : Int) := by rw [← hC6, up_c (by omega), up_c (by decide), up_c (by decide), up_eq]
        have c36 : C6 36 nr = (s' : Int) := by rw [← hC6, up_c (by omega), up_c (by decide), up_eq]
        have c37 : C6 37 nr = (h' : Int) := by rw [← hC6, up_c (by omega), up_eq]
        have ct2 : C6 t 2 = ((nr + 1 : Nat) : Int) := by rw [← hC6, up_eq]; rfl
        have e5 : R6 90 b = (u' : Int) := by rw [hon6.2 _ _ (by omega), r5 _ _ (by omega) (by omega) (by omega)]; exact u2
        have cF : ∀ a k, ¬ (a = 40) → ¬ (a = 28 ∧ k = 1) → ¬ (a = 29 ∧ s ≤ k) → ¬ (a = 27 ∧ (k = 14 ∨ k = 15)) → ¬ (a = t ∧ (k = 2 ∨ k = 5)) → ¬ ((34 ≤ a ∧ a ≤ 37) ∧ k = nr) → C6 a k = C a k := fun a k z1 z2 z3 z4 z5 z6 => by
          rw [c6 a k z6 (by omega), hon6.1 a k z1, cF4 a k z1 z2 z3 z4 (by omega)]
        have rF := row_fr (s := s) hon6.2 r5 xf2 rr
        have a106 : ∀ i, R6 106 i = R4 106 i ∧ R6 107 i = R4 107 i := fun i => ⟨(hon6.2 _ _ (by omega)).trans (r5 _ _ (by omega) (by omega) (by omega)), (hon6.2 _ _ (by omega)).trans (r5 _ _ (by omega) (by omega) (by omega))⟩
        have a29 : ∀ i, C6 29 i = C4 29 i := fun i => (c6 _ _ (by omega) (by omega)).trans (hon6.1 _ _ (by omega))
        have eF6 : nF R6 b = nF R b := by unfold nF; rw [rF 84 _ (by omega) (by omega) (by omega) (by omega) (by omega) (by omega)]
        have eP6 : nP R6 b = nP R b := by unfold nP; rw [rF 85 _ (by omega) (by omega) (by omega) (by omega) (by omega) (by omega)]
        have hCn6 : CntP b s' C6 R6 := ⟨s3, by rw [c6 _ _ (by omega) (by omega), hon6.1 _ _ (by omega)]; exact s1, by rw [hon6.2 _ _ (by omega), r5 _ _ (by omega) (by omega) (by omega)]; exact s2, by rw [e5]; omega⟩
        have hrow : ∃ lc len : Nat, C6 35 nr = (lc : Int) ∧ C6 36 nr = ((lc + len : Nat) : Int) ∧ R6 104 (17 * b + nr) = ((900 * b + lc : Nat) : Int) ∧ R6 105 (17 * b + nr) = ((900 * b + lc + len : Nat) : Int) ∧ lc + len ≤ s' ∧ (C6 37 nr = 0 ∨ C6 37 nr = 1) ∧ R6 92 (12 * b + nr) = C6 37 nr ∧ hR (R6 106) (900 * b + lc) len 0 = some 1 ∧ SegE t b (C6 37 nr = 1) nr lc len C6 R6 := by
          refine ⟨s, s' - s, c35, by rw [c36]; omega, ?_, ?_, by omega, by rw [c37]; exact h15, ?_, ?_, fun i hi => ?_⟩
          · rw [hon6.2 _ _ (by omega), r5 _ _ (by omega) (by omega) (by omega), xf2 _ _ (by omega)]
            exact r3a.2.1
          · rw [hon6.2 _ _ (by omega), r5a.1, s2]
            omega
          · rw [hon6.2 _ _ (by omega), r5a.2.1, hx2, c37]
          · rw [hR_congr (fun i hi => (a106 _).1)]
            exact hhr
          · obtain ⟨c, o, q1, q2, q3, q4, q5, q6, q7, q8⟩ := (hst (s + i) (by omega) (by omega)).1 rfl
            refine ⟨c, o, ?_, ?_, ?_, q4, q5, fun z => by have := q6 z; omega, fun z => ?_, fun z => ?_⟩
            · rw [(a106 _).1, show 900 * b + s + i = 900 * b + (s + i) by omega]; exact q1
            · rw [(a106 _).2, show 900 * b + s + i = 900 * b + (s + i) by omega]; exact q2
            · rw [a29]; exact q3
            · obtain ⟨y1, y2⟩ := q7 z
              rw [enR] at y1
              refine ⟨y1, fun nf => ?_⟩
              rw [cF 37 o (by omega) (by omega) (by omega) (by omega) (by omega) (by omega)]
              rw [cc 37 o (by omega) (by omega)] at y2
              obtain ⟨lc, len, -, -, -, -, -, v1, -⟩ := hRo o (by omega)
              rcases v1 with v1 | v1
              · exact v1
              · exact absurd (by rw [c37, (y2 v1).1]; rfl) nf
            · obtain ⟨y1, y2, -⟩ := q8 z
              exact ⟨by omega, by rw [c37, y2]; rfl⟩
        refine ⟨_, _, rfl, rfl, Or.inl ⟨s', kd6, p6, by omega, PR_step hI0 hnr.symm (by omega) hss ⟨by rw [e5, c6 _ _ (by omega) (by omega), hon6.1 _ _ (by omega)]; exact u1, by omega, by omega⟩ hCn6 ct2 (by rw [hon6.2 _ _ (by omega)]; exact r5a.2.2) ⟨m, hm, c34.trans hxm2, by rw [hon6.2 _ _ (by omega), r5 _ _ (by omega) (by omega) (by omega), xf2 _ _ (by omega)]; exact r3a.1.trans hym⟩ hrow cF rF, ?_, ?_⟩, Or.inr ?_⟩
        · obtain ⟨y1, y2, y3, y4, y5⟩ := hB5
          exact ⟨y1, fun i hi => by rw [c6 _ _ (by omega) (by omega), hon6.1 _ _ (by omega)]; exact y2 i hi, (hon6.2 _ _ (by omega)).trans y3, fun i hi => by rw [hon6.2 _ _ (by omega), c6 _ _ (by omega) (by omega), hon6.1 _ _ (by omega)]; exact y4 i hi, fun i hi => by rw [c6 _ _ (by omega) (by omega), hon6.1 _ _ (by omega)]; exact y5 i hi⟩
        · exact Gd_same g6 (fun k => c6 _ _ (by omega) (by omega)) (fun k => c6 _ _ (by omega) (by omega)) (fun k _ _ => rfl)
        · rw [c6 _ _ (by omega) (by omega), e15]
          exact h15
      · have z1 : C5 40 4 = 24 := by
          obtain ⟨fv, fp, ⟨z1, -⟩, -⟩ := hfb
          exact z1
        rw [z1, if_neg (by decide)]
        exact ⟨_, _, rfl, rfl, Or.inr hfb, Or.inl hfb⟩
    · have hB5 : TB n C3 R5 := by
        obtain ⟨y1, y2, y3, y4, y5⟩ := hB3
        exact ⟨y1, y2, by rw [r5 _ _ (by omega) (by omega) (by omega), hre2 _ _ (by omega)]; exact y3, fun i hi => by rw [r5 _ _ (by omega) (by omega) (by omega), hre2 _ _ (by omega)]; exact y4 i hi, y5⟩
      have hf5 : FBr R5 f q := by
        unfold FBr Flt BadT at hf ⊢
        rw [r5 81 4 (by omega) (by omega) (by omega), r5 81 5 (by omega) (by omega) (by omega), r5 81 6 (by omega) (by omega) (by omega), r5 81 8 (by omega) (by omega) (by omega)]
        exact hf
      obtain ⟨r, C5, R6, x1, x2, x3, x4⟩ := end_fail hB5 hD hf5
      have z1 : C5 40 4 = 24 := by
        obtain ⟨fv, fp, ⟨z1, -⟩, -⟩ := x4
        exact z1
      rw [x2, bind_some', x1, bind_some', x3, bind_some', z1, if_neg (by decide)]
      exact ⟨_, _, rfl, rfl, Or.inr x4, Or.inl x4⟩
end ROWL2
