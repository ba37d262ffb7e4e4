/-! ===== always' line, read ===== -/
section ALWL2
variable {n t b s : Nat} {C R : Mem}
theorem line_always (hB : TB n C R) (hI : PI t b s C R) (h15 : C 27 15 = 0 ∨ C 27 15 = 1) {p : Nat} (g : Gd n 6 p C R) : ∃ C' R', N_readAlways C = some C' ∧ M_readLine R = some R' ∧ LRes n t b (p + 1) C' R' ∧ (FB C' R' ∨ C' 27 15 = 0 ∨ C' 27 15 = 1) := by
  have hI0 := hI
  have hHN := HN_of hI
  obtain ⟨⟨ht, hb, h27, h39⟩, hN, hNm, hCo, hTi, hWi, hKn, hCn, hRo, hAl, hLw⟩ := hI
  have ht2 : t = 3 ∨ t = 15 := ht
  have gT := g.2.2.2.2.2
  have hR12 := num_R hN
  have hfull := full_eq gT hb h39 hLw.2.1
  rw [if_neg (by decide), if_neg (by decide), if_neg (by decide), if_pos rfl] at hfull
  obtain ⟨na, hna, a10, a87, hal⟩ := hAl
  rw [a87, n32_nat (by omega)] at hfull
  have h8 : R 81 8 = 3 ∧ R 81 10 = 107118487239027 := by
    obtain ⟨-, hT⟩ := gT
    rcases hT with ⟨z, -⟩ | ⟨z, -⟩ | ⟨-, -, z3, z4⟩ | ⟨z, -⟩ | ⟨z, -⟩
    · omega
    · omega
    · refine ⟨z3, ?_⟩
      obtain ⟨-, -, -, -, -, w5, -⟩ := wconst
      rw [z4]
      exact w5
    · omega
    · exact absurd z (by decide)
  obtain ⟨hn5, hn5a, hn5b⟩ := hN.2.2.2.2.2
  obtain ⟨u, hu⟩ : ∃ u : Nat, R 90 b = (u : Int) := ⟨(R 90 b).toNat, by omega⟩
  have hu80 : u ≤ 80 := by omega
  have hs9 : s ≤ 9 * u := by have := hCn.2.2.2; omega
  have hb1 : ∀ C, C 40 4 = 24 → N_readOne 10 (0 : Int) C = some C := fun C => brk_one 10 _ C (by decide)
  unfold N_readAlways
  by_cases hfu : na = 4
  · subst hfu
    rw [decide_eq_true (show ((4 : Nat) : Int) = 4 from rfl)] at hfull
    have e10 : ¬ n32 (C 27 10) < 4 := by rw [a10]; decide
    rw [if_neg e10, bind_some', begin_no g, bind_some', lt1_eq, lt1_eq]
    have hk : ∀ k, up (failC C 2) 27 14 1 40 k = failC C 2 40 k := fun k => up_c (by decide)
    rw [brk_e hb1 _ ((hk 4).trans failC_at.1), bind_some', lt1_eq]
    generalize hC1 : up (failC C 2) 27 14 1 = C1 at hk
    have he := bk_expect (C := C1) ((hk 4).trans failC_at.1) (w := 59) (by decide) (by decide)
    rw [show ((59 : Nat) : Int) = 59 from rfl] at he
    rw [he, bind_some', (hk 4).trans failC_at.1, if_neg (by decide), line_no g (fun _ => hfull)]
    obtain ⟨f, q, z1, z2⟩ := both_fail hB g (f := 2) (by decide) (by decide)
    have hfb : FB C1 (up (up R 81 4 2) 81 5 (p : Int)) := ⟨f, q, by rw [hk, hk, hk]; exact z1, z2⟩
    exact ⟨_, _, rfl, rfl, Or.inr hfb, Or.inl hfb⟩
  · rw [decide_eq_false (by omega)] at hfull
    have e10 : n32 (C 27 10) < 4 := by rw [a10, n32_nat (by omega)]; omega
    obtain ⟨C1, R1, k1, k2, hon, k3⟩ := pass_ok hB on_self g
    rw [if_neg (by decide)] at k3
    rw [if_pos e10, bind_some', begin_yes, k1, bind_some', lt1_eq, lt1_eq]
    rw [rl_Always h8.1 h8.2 hfull (gd_good g.2.1.1), k2, bind_some']
    have c28 : C1 28 1 = (s : Int) := (hon.1 _ _ (by decide)).trans hCn.2.1
    have e39 : R1 81 39 = (b : Int) := (hon.2 _ _ (by omega)).trans h39
    have e87 : R1 87 b = (na : Int) := (hon.2 _ _ (by omega)).trans a87
    have e40 : R1 81 40 = ((900 * b + s : Nat) : Int) := (hon.2 _ _ (by omega)).trans hCn.2.2.1
    rw [c28]
    generalize hC2 : up C1 27 14 1 = C2
    have c2 : ∀ a k, ¬ (a = 27 ∧ k = 14) → C2 a k = C1 a k := fun a k z => by rw [← hC2, up_at, if_neg z]
    have c2a : C2 27 14 = ((1 : Nat) : Int) := by rw [← hC2]; exact up_eq
    unfold M_readAlways
    rw [e39, chk_pos (by omega), tn_nat, e87, lt1_eq, show 17 * (b : Int) + 12 + (na : Int) = ((17 * b + 12 + na : Nat) : Int) by omega, chk_pos (by omega), lt1_eq, lt1_eq, lt1_eq, tn_nat, e40]
    generalize hR2 : up (up (up R1 104 (17 * b + 12 + na) ((900 * b + s : Nat) : Int)) 81 43 0) 81 44 1 = R2
    have r2 : ∀ a k, ¬ (a = 104 ∧ k = 17 * b + 12 + na) → ¬ (a = 81 ∧ (k = 43 ∨ k = 44)) → R2 a k = R1 a k := fun a k z1 z2 => by rw [← hR2, up_at, if_neg (by omega), up_at, if_neg (by omega), up_at, if_neg z1]
    have r2a : R2 104 (17 * b + 12 + na) = ((900 * b + s : Nat) : Int) ∧ R2 81 43 = ((0 : Nat) : Int) ∧ R2 81 44 = ((1 : Nat) : Int) := by rw [← hR2]; exact ⟨by rw [up_c (by decide), up_c (by decide), up_eq], by rw [up_k (by decide), up_eq]; rfl, by rw [up_eq]; rfl⟩
    have cc : ∀ a k, a ≠ 40 → ¬ (a = 27 ∧ k = 14) → C2 a k = C a k := fun a k z1 z2 => (c2 a k z2).trans (hon.1 a k z1)
    have rr : ∀ a k, ¬ (a = 81 ∧ ((4 ≤ k ∧ k ≤ 10) ∨ k = 43 ∨ k = 44)) → ¬ (a = 104 ∧ k = 17 * b + 12 + na) → R2 a k = R a k := fun a k z1 z2 => (r2 a k z2 (by omega)).trans (hon.2 a k (by omega))
    have enR : nR R2 b = nR R b := by unfold nR; rw [rr 86 _ (by omega) (by omega)]
    have enF : nF R2 b = nF R b := by unfold nF; rw [rr 84 _ (by omega) (by omega)]
    have enP : nP R2 b = nP R b := by unfold nP; rw [rr 85 _ (by omega) (by omega)]
    have hB2 : TB n C2 R2 := by
      obtain ⟨y1, y2, y3, y4, y5⟩ := hB
      exact ⟨y1, fun i hi => by rw [cc _ _ (by omega) (by omega)]; exact y2 i hi, (rr _ _ (by omega) (by omega)).trans y3, fun i hi => by rw [rr _ _ (by omega) (by omega), cc _ _ (by omega) (by omega)]; exact y4 i hi, fun i hi => by rw [cc _ _ (by omega) (by omega)]; exact y5 i hi⟩
    have hHN2 := HN_keep (C1 := C2) (R1 := R2) hHN (fun a k z => cc a k (by omega) (by omega)) (fun a k z => rr a k (by omega) (by omega))
    have hEnv : EnvX 0 t b n 1 C2 R2 := ⟨hB2, hHN2, r2a.2.1, by decide, fun _ => ⟨⟨c2a, r2a.2.2, by decide⟩, fun r hr => by
      rw [enR] at hr
      obtain ⟨lc, len, -, -, -, -, -, q1, q2, -⟩ := hRo r hr
      rw [cc 37 r (by decide) (by omega), rr 92 _ (by omega) (by omega)]
      exact ⟨q1, q2⟩⟩⟩
    have gf2 : GF n (p + 1) True C2 R2 := GF_same k3 (fun k => c2 _ _ (by omega)) (fun k => c2 _ _ (by omega)) (fun k z1 z2 => r2 _ _ (by omega) (by omega))
    clear k3
    have hp16 : p + 1 ≤ 1605 := by
      obtain ⟨-, -, -, -, ⟨e, y1, y2, -⟩, -⟩ := g
      have := hB.1
      omega
    obtain ⟨C3, R3, w1, w2, w3⟩ := e_always hEnv hb (h := 0) (u := u) (s := s) ⟨by rw [cc _ _ (by omega) (by omega), hn5, hu], (rr _ _ (by omega) (by omega)).trans hu, hu80⟩ ⟨(cc _ _ (by omega) (by omega)).trans hCn.2.1, (rr _ _ (by omega) (by omega)).trans hCn.2.2.1, hCn.1⟩ hs9 (fun _ => ⟨by rw [cc _ _ (by omega) (by omega)]; exact h15, fun z => absurd z (by decide)⟩) (by decide) hp16 gf2
    rw [w1, bind_some', lt1_eq, w2, bind_some', lt1_eq]
    rcases w3 with ⟨u', s', h', kd', p', ⟨xf1, xf2⟩, ⟨u1, u2, u3⟩, ⟨s1, s2, s3⟩, hxm, -, -, g3, hp', ⟨o1, o2⟩, hss, hst, hhr, hs9', -⟩ | ⟨f, q, hD, hf, hre, -⟩
    · rw [s1, s2]
      have e39' : up R3 105 (17 * b + 12 + na) ((900 * b + s' : Nat) : Int) 81 39 = (b : Int) := by
        rw [up_c (by decide), xf2 _ _ (by omega)]
        exact (rr _ _ (by omega) (by omega)).trans h39
      have e87' : up R3 105 (17 * b + 12 + na) ((900 * b + s' : Nat) : Int) 87 b = (na : Int) := by
        rw [up_c (by decide), xf2 _ _ (by omega)]
        exact (rr _ _ (by omega) (by omega)).trans a87
      rw [e39', chk_pos (by omega), lt1_eq, tn_nat, bind_some', e87', show (na : Int) + 1 = ((na + 1 : Nat) : Int) by omega]
      generalize hR4 : up (up R3 105 (17 * b + 12 + na) ((900 * b + s' : Nat) : Int)) 87 b ((na + 1 : Nat) : Int) = R4
      have r4 : ∀ a k, ¬ (a = 105 ∧ k = 17 * b + 12 + na) → ¬ (a = 87 ∧ k = b) → R4 a k = R3 a k := fun a k z1 z2 => by rw [← hR4, up_at, if_neg z2, up_at, if_neg z1]
      have r4a : R4 105 (17 * b + 12 + na) = ((900 * b + s' : Nat) : Int) ∧ R4 87 b = ((na + 1 : Nat) : Int) := by rw [← hR4]; exact ⟨by rw [up_c (by decide), up_eq], up_eq⟩
      have rF : ∀ a k, ¬ (a = 81 ∧ ((4 ≤ k ∧ k ≤ 10) ∨ (40 ≤ k ∧ k ≤ 45))) → ¬ ((a = 106 ∨ a = 107) ∧ 900 * b + s ≤ k) → ¬ (a = 90 ∧ k = b) → ¬ (a = 108 ∨ a = 109 ∨ a = 110) → ¬ ((a = 104 ∨ a = 105) ∧ k = 17 * b + 12 + na) → ¬ (a = 87 ∧ k = b) → R4 a k = R a k := fun a k z1 z2 z3 z4 z5 z6 => by
        rw [r4 a k (by omega) z6, xf2 a k (by omega), rr a k (by omega) (by omega)]
      have cF3 : ∀ a k, ¬ (a = 40) → ¬ (a = 28 ∧ k = 1) → ¬ (a = 29 ∧ s ≤ k) → ¬ (a = 27 ∧ (k = 14 ∨ k = 15)) → ¬ (a = t ∧ k = 5) → C3 a k = C a k := fun a k z1 z2 z3 z4 z5 => by
        rw [xf1 a k (by omega), cc a k z1 (by omega)]
      have hB4 : TB n C3 R4 := by
        obtain ⟨y1, y2, y3, y4, y5⟩ := hB
        exact ⟨y1, fun i hi => by rw [cF3 _ _ (by omega) (by omega) (by omega) (by omega) (by omega)]; exact y2 i hi, (rF _ _ (by omega) (by omega) (by omega) (by omega) (by omega) (by omega)).trans y3, fun i hi => by rw [rF _ _ (by omega) (by omega) (by omega) (by omega) (by omega) (by omega), cF3 _ _ (by omega) (by omega) (by omega) (by omega) (by omega)]; exact y4 i hi, fun i hi => by rw [cF3 _ _ (by omega) (by omega) (by omega) (by omega) (by omega)]; exact y5 i hi⟩
      have g4 : Gd n kd' p' C3 R4 := Gd_same g3 (fun k => rfl) (fun k => rfl) (fun k z1 z2 => r4 _ _ (by omega) (by omega))
      obtain ⟨r, C5, R5, x1, x2, x3, hon5, x4⟩ := must_sign (C0 := C3) (R0 := R4) (q := p') (P := True) hB4 (w := 59) (by decide) ⟨on_self, Or.inl ⟨kd', p', Nat.le_refl _, g4, trivial⟩⟩
      rw [show ((59 : Nat) : Int) = 59 from rfl] at x1 x2
      rw [x2, bind_some', x1, bind_some', x3, bind_some']
      rcases x4 with ⟨kd5, p5, hp5, g5, -⟩ | hfb
      · have hk5 := Tok_kd g5.2.2.2.2.2
        have c10 : C5 27 10 = (na : Int) := by rw [hon5.1 _ _ (by omega), cF3 _ _ (by omega) (by omega) (by omega) (by omega) (by omega)]; exact a10
        rw [Tok_4 g5.2.2.2.2.2, if_pos (by omega), c10, chk_pos (by omega), lt1_eq, tn_nat, up_c (show (27 : Nat) ≠ 38 by decide), c10, chk_pos (by omega), lt1_eq, tn_nat, lt1_eq, up_c (show (27 : Nat) ≠ 39 by decide), up_c (show (27 : Nat) ≠ 38 by decide), c10, show (na : Int) + 1 = ((na + 1 : Nat) : Int) by omega]
        generalize hC6 : up (up (up C5 38 na (s : Int)) 39 na (s' : Int)) 27 10 ((na + 1 : Nat) : Int) = C6
        have c6 : ∀ a k, ¬ (a = 38 ∧ k = na) → ¬ (a = 39 ∧ k = na) → ¬ (a = 27 ∧ k = 10) → C6 a k = C5 a k := fun a k z1 z2 z3 => by rw [← hC6, up_at, if_neg z3, up_at, if_neg z2, up_at, if_neg z1]
        have c6a : C6 38 na = (s : Int) ∧ C6 39 na = (s' : Int) ∧ C6 27 10 = ((na + 1 : Nat) : Int) := by rw [← hC6]; exact ⟨by rw [up_c (by decide), up_c (by decide), up_eq], by rw [up_c (by decide), up_eq], up_eq⟩
        have e5 : R5 90 b = (u' : Int) := by rw [hon5.2 _ _ (by omega), r4 _ _ (by omega) (by omega)]; exact u2
        have cF : ∀ a k, ¬ (a = 40) → ¬ (a = 28 ∧ k = 1) → ¬ (a = 29 ∧ s ≤ k) → ¬ (a = 27 ∧ (k = 10 ∨ k = 14 ∨ k = 15)) → ¬ (a = t ∧ k = 5) → ¬ ((a = 38 ∨ a = 39) ∧ k = na) → C6 a k = C a k := fun a k z1 z2 z3 z4 z5 z6 => by
          rw [c6 a k (by omega) (by omega) (by omega), hon5.1 a k z1, cF3 a k z1 z2 z3 (by omega) z5]
        have rF5 : ∀ a k, ¬ (a = 81 ∧ ((4 ≤ k ∧ k ≤ 10) ∨ (40 ≤ k ∧ k ≤ 45))) → ¬ ((a = 106 ∨ a = 107) ∧ 900 * b + s ≤ k) → ¬ (a = 90 ∧ k = b) → ¬ (a = 108 ∨ a = 109 ∨ a = 110) → ¬ ((a = 104 ∨ a = 105) ∧ k = 17 * b + 12 + na) → ¬ (a = 87 ∧ k = b) → R5 a k = R a k := fun a k z1 z2 z3 z4 z5 z6 => (hon5.2 a k (by omega)).trans (rF a k z1 z2 z3 z4 z5 z6)
        have hCn5 : CntP b s' C6 R5 := ⟨s3, by rw [c6 _ _ (by omega) (by omega) (by omega), hon5.1 _ _ (by omega)]; exact s1, by rw [hon5.2 _ _ (by omega), r4 _ _ (by omega) (by omega)]; exact s2, by rw [e5]; omega⟩
        obtain ⟨j1, j2, j3, j4, j5, j6, j7, j8, j9, j10⟩ := PM_step (C' := C6) (R' := R5) hI0 hss ⟨by rw [e5, c6 _ _ (by omega) (by omega) (by omega), hon5.1 _ _ (by omega)]; exact u1, by omega, by omega⟩ hCn5 (fun a k z1 z2 z3 z4 z5 z6 => cF a k z1 z2 z3 z4 z5 (fun z => z6 z.1)) (fun a k z1 z2 z3 z4 z5 z6 => rF5 a k z1 z2 z3 z4 (by omega) z6)
        have eF5 : nF R5 b = nF R b := by unfold nF; rw [rF5 84 _ (by omega) (by omega) (by omega) (by omega) (by omega) (by omega)]
        have eP5 : nP R5 b = nP R b := by unfold nP; rw [rF5 85 _ (by omega) (by omega) (by omega) (by omega) (by omega) (by omega)]
        have eR5 : nR R5 b = nR R b := by unfold nR; rw [rF5 86 _ (by omega) (by omega) (by omega) (by omega) (by omega) (by omega)]
        have a106 : ∀ i, R5 106 i = R3 106 i ∧ R5 107 i = R3 107 i := fun i => ⟨(hon5.2 _ _ (by omega)).trans (r4 _ _ (by omega) (by omega)), (hon5.2 _ _ (by omega)).trans (r4 _ _ (by omega) (by omega))⟩
        have a29 : ∀ i, C6 29 i = C3 29 i := fun i => (c6 _ _ (by omega) (by omega) (by omega)).trans (hon5.1 _ _ (by omega))
        have hA : AlwQ t b s' C6 R5 := by
          refine ⟨na + 1, by omega, c6a.2.2, (hon5.2 _ _ (by omega)).trans r4a.2, fun a ha => ?_⟩
          by_cases ea : a < na
          · obtain ⟨lc, len, q1, q2, q3, q4, q5, q8, q9⟩ := hal a ea
            refine ⟨lc, len, (cF 38 a (by omega) (by omega) (by omega) (by omega) (by omega) (by omega)).trans q1, (cF 39 a (by omega) (by omega) (by omega) (by omega) (by omega) (by omega)).trans q2, (rF5 _ _ (by omega) (by omega) (by omega) (by omega) (by omega) (by omega)).trans q3, (rF5 _ _ (by omega) (by omega) (by omega) (by omega) (by omega) (by omega)).trans q4, by omega, ?_, ?_⟩
            · rw [hR_congr (fun i hi => rF5 106 _ (by omega) (by omega) (by omega) (by omega) (by omega) (by omega))]
              exact q8
            · exact SegE_keep q9 (by omega) q5 (fun k hk => cF _ _ (by omega) (by omega) (by omega) (by omega) (by omega) (by omega)) (fun k hk => ⟨rF5 _ _ (by omega) (by omega) (by omega) (by omega) (by omega) (by omega), rF5 _ _ (by omega) (by omega) (by omega) (by omega) (by omega) (by omega)⟩) (by omega) (by omega) (fun o ho => cF _ _ (by omega) (by omega) (by omega) (by omega) (by omega) (by omega))
          · have ea2 : a = na := by omega
            subst ea2
            refine ⟨s, s' - s, c6a.1, by rw [c6a.2.1]; omega, ?_, ?_, by omega, ?_, fun i hi => ?_⟩
            · rw [hon5.2 _ _ (by omega), r4 _ _ (by omega) (by omega), xf2 _ _ (by omega)]
              exact r2a.1
            · rw [hon5.2 _ _ (by omega), r4a.1]
              omega
            · rw [hR_congr (fun i hi => (a106 _).1)]
              exact hhr
            · obtain ⟨c, o, q1, q2, q3, q4, q5, q6, q7, q8⟩ := (hst (s + i) (by omega) (by omega)).1 rfl
              refine ⟨c, o, ?_, ?_, ?_, q4, q5, fun z => by have := q6 z; omega, fun z => ?_, fun z => absurd (q8 z).2.2 (by decide)⟩
              · rw [(a106 _).1, show 900 * b + s + i = 900 * b + (s + i) by omega]; exact q1
              · rw [(a106 _).2, show 900 * b + s + i = 900 * b + (s + i) by omega]; exact q2
              · rw [a29]; exact q3
              · obtain ⟨y1, y2⟩ := q7 z
                refine ⟨by omega, fun _ => ?_⟩
                rw [cF 37 o (by omega) (by omega) (by omega) (by omega) (by omega) (by omega)]
                rw [cc 37 o (by omega) (by omega)] at y2
                obtain ⟨lc, len, -, -, -, -, -, w1, -⟩ := hRo o (by omega)
                rcases w1 with w1 | w1
                · exact w1
                · exact absurd (y2 w1).2 (by decide)
        have hB6 : TB n C6 R5 := by
          obtain ⟨y1, y2, y3, y4, y5⟩ := hB4
          exact ⟨y1, fun i hi => by rw [c6 _ _ (by omega) (by omega) (by omega), hon5.1 _ _ (by omega)]; exact y2 i hi, (hon5.2 _ _ (by omega)).trans y3, fun i hi => by rw [hon5.2 _ _ (by omega), c6 _ _ (by omega) (by omega) (by omega), hon5.1 _ _ (by omega)]; exact y4 i hi, fun i hi => by rw [c6 _ _ (by omega) (by omega) (by omega), hon5.1 _ _ (by omega)]; exact y5 i hi⟩
        have g6 : Gd n kd5 p5 C6 R5 := Gd_same g5 (fun k => c6 _ _ (by omega) (by omega) (by omega)) (fun k => c6 _ _ (by omega) (by omega) (by omega)) (fun k _ _ => rfl)
        refine ⟨_, _, rfl, rfl, Or.inl ⟨s', kd5, p5, by omega, ⟨j1, j2, j3, j4, j5, j6, j7, j8, j9, hA, j10⟩, hB6, g6⟩, Or.inr ?_⟩
        rw [c6 _ _ (by omega) (by omega) (by omega), hon5.1 _ _ (by omega)]
        exact (hxm rfl).1
      · obtain ⟨fv, fp, ⟨z1, z2, z3⟩, z4⟩ := hfb
        rw [z1, if_neg (by decide)]
        have hfb : FB C5 R5 := ⟨fv, fp, ⟨z1, z2, z3⟩, z4⟩
        exact ⟨_, _, rfl, rfl, Or.inr hfb, Or.inl hfb⟩
    · obtain ⟨⟨sx, sx1, sx2⟩, hD2⟩ := id hD
      have e39' : ∀ v, up R3 105 (17 * b + 12 + na) v 81 39 = (b : Int) := fun v => by
        rw [up_c (by decide), hre _ _ (by omega)]
        exact (rr _ _ (by omega) (by omega)).trans h39
      rw [e39', chk_pos (by omega), lt1_eq, tn_nat, bind_some']
      generalize hR4 : up (up R3 105 (17 * b + 12 + na) (R3 81 40)) 87 b (up R3 105 (17 * b + 12 + na) (R3 81 40) 87 b + 1) = R4
      have r4 : ∀ a k, ¬ (a = 105 ∧ k = 17 * b + 12 + na) → ¬ (a = 87 ∧ k = b) → R4 a k = R3 a k := fun a k z1 z2 => by rw [← hR4, up_at, if_neg z2, up_at, if_neg z1]
      have hB4 : TB n C2 R4 := by
        obtain ⟨y1, y2, y3, y4, y5⟩ := hB2
        exact ⟨y1, y2, by rw [r4 _ _ (by omega) (by omega), hre _ _ (by omega)]; exact y3, fun i hi => by rw [r4 _ _ (by omega) (by omega), hre _ _ (by omega)]; exact y4 i hi, y5⟩
      have hf4 : FBr R4 f q := by
        unfold FBr Flt BadT at hf ⊢
        rw [r4 81 4 (by omega) (by omega), r4 81 5 (by omega) (by omega), r4 81 6 (by omega) (by omega), r4 81 8 (by omega) (by omega)]
        exact hf
      obtain ⟨r, C5, R5, x1, x2, x3, x4⟩ := end_fail hB4 hD hf4
      have z1 : C5 40 4 = 24 := by
        obtain ⟨fv, fp, ⟨z1, -⟩, -⟩ := x4
        exact z1
      rw [x2, bind_some', x1, bind_some', x3, bind_some', z1, if_neg (by decide)]
      exact ⟨_, _, rfl, rfl, Or.inr x4, Or.inl x4⟩
end ALWL2
