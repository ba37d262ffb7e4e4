/-! ===== the law's line, read ===== -/
section LAWL2
variable {n t b s : Nat} {C R : Mem}
theorem line_law (hB : TB n C R) (hI : PI t b s C R) {p : Nat} (g : Gd n 11 p C R) : ∃ C' R', N_readLaw C = some C' ∧ M_readLine R = some R' ∧ LRes n t b (p + 1) C' R' := by
  have hI0 := hI
  have hHN := HN_of hI
  obtain ⟨⟨ht, hb, h27, h39⟩, hN, hNm, hCo, hTi, hWi, hKn, hCn, hRo, hAl, hLw⟩ := hI
  have hJ : PJ t b s C R := ⟨⟨ht, hb, h27, h39⟩, hN, hNm, hCo, hTi, hWi, hKn, hCn, hRo, hAl⟩
  have ht2 : t = 3 ∨ t = 15 := ht
  have gT := g.2.2.2.2.2
  have hfull := full_eq gT hb h39 hLw.2.1
  rw [if_neg (by decide), if_neg (by decide), if_neg (by decide), if_neg (by decide), if_neg (by decide), if_neg (by decide), if_pos rfl] at hfull
  have h8 : R 81 8 = 3 ∧ R 81 10 = 7102839 := by
    obtain ⟨-, hT⟩ := gT
    rcases hT with ⟨z, -⟩ | ⟨z, -⟩ | ⟨-, -, z3, z4⟩ | ⟨z, -⟩ | ⟨z, -⟩
    · omega
    · omega
    · refine ⟨z3, ?_⟩
      obtain ⟨-, -, -, -, -, -, -, -, -, -, w10⟩ := wconst
      rw [z4]
      exact w10
    · omega
    · exact absurd z (by decide)
  obtain ⟨hn5, hn5a, hn5b⟩ := hN.2.2.2.2.2
  obtain ⟨u, hu⟩ : ∃ u : Nat, R 90 b = (u : Int) := ⟨(R 90 b).toNat, by omega⟩
  have hu80 : u ≤ 80 := by omega
  have hs9 : s ≤ 9 * u := by have := hCn.2.2.2; omega
  have hb1 : ∀ C, C 40 4 = 24 → N_readPart 10 (0 : Int) C = some C := fun C => brk_part 10 _ C (by decide)
  unfold N_readLaw
  by_cases hfu : R 91 b = 1
  · rw [decide_eq_true hfu] at hfull
    have e13 : n32 (C 27 13) = 1 := by rw [hLw.1, hfu]; rfl
    rw [e13, if_neg (by decide), bind_some', begin_no g, bind_some', lt1_eq, lt1_eq]
    have hk : ∀ k, up (up (failC C 2) 27 13 1) 27 11 (up (failC C 2) 27 13 1 28 1) 40 k = failC C 2 40 k := fun k => by rw [up_c (by decide), up_c (by decide)]
    rw [brk_f hb1 _ ((hk 4).trans failC_at.1), bind_some', lt1_eq]
    generalize hC1 : up (up (up (failC C 2) 27 13 1) 27 11 (up (failC C 2) 27 13 1 28 1)) 27 12 (up (up (failC C 2) 27 13 1) 27 11 (up (failC C 2) 27 13 1 28 1) 28 1) = C1
    have hk1 : ∀ k, C1 40 k = failC C 2 40 k := fun k => by rw [← hC1, up_c (by decide)]; exact hk k
    have he := bk_expect (C := C1) ((hk1 4).trans failC_at.1) (w := 59) (by decide) (by decide)
    rw [show ((59 : Nat) : Int) = 59 from rfl] at he
    rw [he, bind_some', line_no g (fun _ => hfull)]
    obtain ⟨f, q, z1, z2⟩ := both_fail hB g (f := 2) (by decide) (by decide)
    exact ⟨_, _, rfl, rfl, Or.inr ⟨f, q, by rw [hk1, hk1, hk1]; exact z1, z2⟩⟩
  · rw [decide_eq_false hfu] at hfull
    have e13 : n32 (C 27 13) = 0 := by
      rw [hLw.1]
      rcases hLw.2.1 with z | z
      · rw [z]; rfl
      · exact absurd z hfu
    obtain ⟨C1, R1, k1, k2, hon, k3⟩ := pass_ok hB on_self g
    rw [if_neg (by decide)] at k3
    rw [e13, if_pos rfl, bind_some', begin_yes, k1, bind_some', lt1_eq, lt1_eq, up_c (show (28 : Nat) ≠ 27 by decide)]
    rw [rl_Law h8.1 h8.2 hfull (gd_good g.2.1.1), k2, bind_some']
    have c28 : C1 28 1 = (s : Int) := (hon.1 _ _ (by decide)).trans hCn.2.1
    have e39 : R1 81 39 = (b : Int) := (hon.2 _ _ (by omega)).trans h39
    have e40 : R1 81 40 = ((900 * b + s : Nat) : Int) := (hon.2 _ _ (by omega)).trans hCn.2.2.1
    rw [c28]
    generalize hC2 : up (up C1 27 13 1) 27 11 (s : Int) = C2
    have c2 : ∀ a k, ¬ (a = 27 ∧ (k = 11 ∨ k = 13)) → C2 a k = C1 a k := fun a k z => by rw [← hC2, up_at, if_neg (by omega), up_at, if_neg (by omega)]
    have c2a : C2 27 13 = 1 ∧ C2 27 11 = (s : Int) := by rw [← hC2]; exact ⟨by rw [up_k (by decide), up_eq], up_eq⟩
    unfold M_readLaw
    rw [lt1_eq, e39, show 17 * (b : Int) + 16 = ((17 * b + 16 : Nat) : Int) by omega, chk_pos (by omega), lt1_eq, lt1_eq, tn_nat, e40]
    generalize hR2 : up (up R1 104 (17 * b + 16) ((900 * b + s : Nat) : Int)) 81 43 1 = R2
    have r2 : ∀ a k, ¬ (a = 104 ∧ k = 17 * b + 16) → ¬ (a = 81 ∧ k = 43) → R2 a k = R1 a k := fun a k z1 z2 => by rw [← hR2, up_at, if_neg z2, up_at, if_neg z1]
    have r2a : R2 104 (17 * b + 16) = ((900 * b + s : Nat) : Int) ∧ R2 81 43 = ((1 : Nat) : Int) := by rw [← hR2]; exact ⟨by rw [up_c (by decide), up_eq], up_eq⟩
    have cc : ∀ a k, a ≠ 40 → ¬ (a = 27 ∧ (k = 11 ∨ k = 13)) → C2 a k = C a k := fun a k z1 z2 => (c2 a k z2).trans (hon.1 a k z1)
    have rr : ∀ a k, ¬ (a = 81 ∧ ((4 ≤ k ∧ k ≤ 10) ∨ k = 43)) → ¬ (a = 104 ∧ k = 17 * b + 16) → R2 a k = R a k := fun a k z1 z2 => (r2 a k z2 (by omega)).trans (hon.2 a k (by omega))
    have hB2 : TB n C2 R2 := by
      obtain ⟨y1, y2, y3, y4, y5⟩ := hB
      exact ⟨y1, fun i hi => by rw [cc _ _ (by omega) (by omega)]; exact y2 i hi, (rr _ _ (by omega) (by omega)).trans y3, fun i hi => by rw [rr _ _ (by omega) (by omega), cc _ _ (by omega) (by omega)]; exact y4 i hi, fun i hi => by rw [cc _ _ (by omega) (by omega)]; exact y5 i hi⟩
    have hHN2 := HN_keep (C1 := C2) (R1 := R2) hHN (fun a k z => cc a k (by omega) (by omega)) (fun a k z => rr a k (by omega) (by omega))
    have hEnv : EnvX 1 t b n 0 C2 R2 := ⟨hB2, hHN2, r2a.2, by decide, fun z => absurd z (by decide)⟩
    have gf2 : GF n (p + 1) True C2 R2 := GF_same k3 (fun k => c2 _ _ (by omega)) (fun k => c2 _ _ (by omega)) (fun k z1 z2 => r2 _ _ (by omega) (by omega))
    have hp16 : p + 1 ≤ 1605 := by
      obtain ⟨-, -, -, -, ⟨e, y1, y2, -⟩, -⟩ := g
      have := hB.1
      omega
    obtain ⟨C3, R3, w1, w2, w3⟩ := e_law hEnv hb (u := u) (s := s) ⟨by rw [cc _ _ (by omega) (by omega), hn5, hu], (rr _ _ (by omega) (by omega)).trans hu, hu80⟩ ⟨(cc _ _ (by omega) (by omega)).trans hCn.2.1, (rr _ _ (by omega) (by omega)).trans hCn.2.2.1, hCn.1⟩ hs9 hp16 gf2
    rw [w1, bind_some', lt1_eq, w2, bind_some', lt1_eq]
    rcases w3 with ⟨u', s', h', kd', p', ⟨xf1, xf2⟩, ⟨u1, u2, u3⟩, ⟨s1, s2, s3⟩, -, -, -, g3, hp', ⟨o1, o2⟩, hss, hst, hhr, hs9', -⟩ | ⟨f, q, hD, hf, hre, -⟩
    · rw [s1, s2]
      generalize hC4 : up C3 27 12 (s' : Int) = C4
      have c4 : ∀ a k, ¬ (a = 27 ∧ k = 12) → C4 a k = C3 a k := fun a k z => by rw [← hC4, up_at, if_neg z]
      have c4a : C4 27 12 = (s' : Int) := by rw [← hC4, up_eq]
      have e39' : up R3 105 (17 * b + 16) ((900 * b + s' : Nat) : Int) 81 39 = (b : Int) := by
        rw [up_c (by decide), xf2 _ _ (by omega)]
        exact (rr _ _ (by omega) (by omega)).trans h39
      rw [e39', chk_pos (by omega), lt1_eq, tn_nat, bind_some']
      generalize hR4 : up (up R3 105 (17 * b + 16) ((900 * b + s' : Nat) : Int)) 91 b 1 = R4
      have r4 : ∀ a k, ¬ (a = 105 ∧ k = 17 * b + 16) → ¬ (a = 91 ∧ k = b) → R4 a k = R3 a k := fun a k z1 z2 => by rw [← hR4, up_at, if_neg z2, up_at, if_neg z1]
      have r4a : R4 105 (17 * b + 16) = ((900 * b + s' : Nat) : Int) ∧ R4 91 b = 1 := by rw [← hR4]; exact ⟨by rw [up_c (by decide), up_eq], up_eq⟩
      have cF : ∀ a k, ¬ (a = 40) → ¬ (a = 28 ∧ k = 1) → ¬ (a = 29 ∧ s ≤ k) → ¬ (a = 27 ∧ 11 ≤ k ∧ k ≤ 15) → ¬ (a = t ∧ k = 5) → C4 a k = C a k := fun a k z1 z2 z3 z4 z5 => by
        rw [c4 a k (by omega), xf1 a k (by omega), cc a k z1 (by omega)]
      have rF : ∀ a k, ¬ (a = 81 ∧ ((4 ≤ k ∧ k ≤ 10) ∨ (40 ≤ k ∧ k ≤ 45))) → ¬ ((a = 106 ∨ a = 107) ∧ 900 * b + s ≤ k) → ¬ (a = 90 ∧ k = b) → ¬ (a = 108 ∨ a = 109 ∨ a = 110) → ¬ ((a = 104 ∨ a = 105) ∧ k = 17 * b + 16) → ¬ (a = 91 ∧ k = b) → R4 a k = R a k := fun a k z1 z2 z3 z4 z5 z6 => by
        rw [r4 a k (by omega) z6, xf2 a k (by omega), rr a k (by omega) (by omega)]
      have hB4 : TB n C4 R4 := by
        obtain ⟨y1, y2, y3, y4, y5⟩ := hB
        exact ⟨y1, fun i hi => by rw [cF _ _ (by omega) (by omega) (by omega) (by omega) (by omega)]; exact y2 i hi, (rF _ _ (by omega) (by omega) (by omega) (by omega) (by omega) (by omega)).trans y3, fun i hi => by rw [rF _ _ (by omega) (by omega) (by omega) (by omega) (by omega) (by omega), cF _ _ (by omega) (by omega) (by omega) (by omega) (by omega)]; exact y4 i hi, fun i hi => by rw [cF _ _ (by omega) (by omega) (by omega) (by omega) (by omega)]; exact y5 i hi⟩
      have g4 : Gd n kd' p' C4 R4 := Gd_same g3 (fun k => c4 _ _ (by omega)) (fun k => c4 _ _ (by omega)) (fun k z1 z2 => r4 _ _ (by omega) (by omega))
      obtain ⟨r, C5, R5, x1, x2, x3, hon5, x4⟩ := must_sign (C0 := C4) (R0 := R4) (q := p') (P := True) hB4 (w := 59) (by decide) ⟨on_self, Or.inl ⟨kd', p', Nat.le_refl _, g4, trivial⟩⟩
      rw [show ((59 : Nat) : Int) = 59 from rfl] at x1 x2
      rw [x2, bind_some', x1, bind_some', x3, bind_some']
      refine ⟨_, _, rfl, rfl, ?_⟩
      rcases x4 with ⟨kd5, p5, hp5, g5, -⟩ | hfb
      · left
        have e5 : R5 90 b = (u' : Int) := by rw [hon5.2 _ _ (by omega), r4 _ _ (by omega) (by omega)]; exact u2
        have hCn5 : CntP b s' C5 R5 := ⟨s3, by rw [hon5.1 _ _ (by omega), c4 _ _ (by omega)]; exact s1, by rw [hon5.2 _ _ (by omega), r4 _ _ (by omega) (by omega)]; exact s2, by rw [e5]; omega⟩
        have hJ5 := PJ_step (C' := C5) (R' := R5) hJ hss ⟨by rw [e5, hon5.1 _ _ (by omega), c4 _ _ (by omega)]; exact u1, by omega, by omega⟩ hCn5 (fun a k z1 z2 z3 z4 z5 => (hon5.1 a k z1).trans (cF a k z1 z2 z3 z4 z5)) (fun a k z1 z2 z3 z4 z5 z6 => (hon5.2 a k (by omega)).trans (rF a k z1 z2 z3 z4 z5 z6))
        obtain ⟨j1, j2, j3, j4, j5, j6, j7, j8, j9, j10⟩ := hJ5
        refine ⟨s', kd5, p5, by omega, ⟨j1, j2, j3, j4, j5, j6, j7, j8, j9, j10, ?_⟩, ?_, g5⟩
        · have a91 : R5 91 b = 1 := (hon5.2 _ _ (by omega)).trans r4a.2
          have a106 : ∀ i, R5 106 i = R3 106 i ∧ R5 107 i = R3 107 i := fun i => ⟨(hon5.2 _ _ (by omega)).trans (r4 _ _ (by omega) (by omega)), (hon5.2 _ _ (by omega)).trans (r4 _ _ (by omega) (by omega))⟩
          have a29 : ∀ i, C5 29 i = C3 29 i := fun i => (hon5.1 _ _ (by omega)).trans (c4 _ _ (by omega))
          refine ⟨?_, Or.inr a91, fun _ => ⟨s, s' - s, ?_, ?_, ?_, ?_, by omega, ?_, fun i hi => ?_⟩⟩
          · rw [a91, hon5.1 _ _ (by omega), c4 _ _ (by omega), xf1 _ _ (by omega)]
            exact c2a.1
          · rw [hon5.1 _ _ (by omega), c4 _ _ (by omega), xf1 _ _ (by omega)]
            exact c2a.2
          · rw [hon5.1 _ _ (by omega), c4a]
            omega
          · rw [hon5.2 _ _ (by omega), r4 _ _ (by omega) (by omega), xf2 _ _ (by omega)]
            exact r2a.1
          · rw [hon5.2 _ _ (by omega), r4a.1]
            omega
          · refine hR_lH (s' - s) (fun i hi => ?_) ?_
            · obtain ⟨c, o, q1, q2, q3, q4, q5⟩ := (hst (s + i) (by omega) (by omega)).2 rfl
              exact ⟨c, by rw [(a106 _).1, show 900 * b + s + i = 900 * b + (s + i) by omega]; exact q1, q5⟩
            · rw [hR_congr (fun i hi => (a106 _).1)]
              exact hhr
          · obtain ⟨c, o, q1, q2, q3, q4, q5⟩ := (hst (s + i) (by omega) (by omega)).2 rfl
            refine ⟨c, o, ?_, fun q => ?_, ?_, q4, q5⟩
            · rw [(a106 _).1, show 900 * b + s + i = 900 * b + (s + i) by omega]; exact q1
            · rw [(a106 _).2, show 900 * b + s + i = 900 * b + (s + i) by omega]; exact q2 q
            · rw [a29]; exact q3
        · obtain ⟨y1, y2, y3, y4, y5⟩ := hB4
          exact ⟨y1, fun i hi => by rw [hon5.1 _ _ (by omega)]; exact y2 i hi, (hon5.2 _ _ (by omega)).trans y3, fun i hi => by rw [hon5.2 _ _ (by omega), hon5.1 _ _ (by omega)]; exact y4 i hi, fun i hi => by rw [hon5.1 _ _ (by omega)]; exact y5 i hi⟩
      · exact Or.inr hfb
    · obtain ⟨⟨sx, sx1, sx2⟩, hD2⟩ := id hD
      have e39' : ∀ v, up R3 105 (17 * b + 16) v 81 39 = (b : Int) := fun v => by
        rw [up_c (by decide), hre _ _ (by omega)]
        exact (rr _ _ (by omega) (by omega)).trans h39
      rw [e39', chk_pos (by omega), lt1_eq, tn_nat, bind_some']
      generalize hC4 : up C3 27 12 (C3 28 1) = C4
      have c4 : ∀ a k, ¬ (a = 27 ∧ k = 12) → C4 a k = C3 a k := fun a k z => by rw [← hC4, up_at, if_neg z]
      generalize hR4 : up (up R3 105 (17 * b + 16) (R3 81 40)) 91 b 1 = R4
      have r4 : ∀ a k, ¬ (a = 105 ∧ k = 17 * b + 16) → ¬ (a = 91 ∧ k = b) → R4 a k = R3 a k := fun a k z1 z2 => by rw [← hR4, up_at, if_neg z2, up_at, if_neg z1]
      have hB4 : TB n C2 R4 := by
        obtain ⟨y1, y2, y3, y4, y5⟩ := hB2
        exact ⟨y1, y2, by rw [r4 _ _ (by omega) (by omega), hre _ _ (by omega)]; exact y3, fun i hi => by rw [r4 _ _ (by omega) (by omega), hre _ _ (by omega)]; exact y4 i hi, y5⟩
      have hD4 : DmC (DM 1) C4 f q := by
        refine ⟨⟨sx, sx1, (c4 _ _ (by omega)).trans sx2⟩, ?_⟩
        rw [c4 40 4 (by omega), c4 40 5 (by omega), c4 40 8 (by omega), c4 40 9 (by omega)]
        exact hD2
      have hf4 : FBr R4 f q := by
        unfold FBr Flt BadT at hf ⊢
        rw [r4 81 4 (by omega) (by omega), r4 81 5 (by omega) (by omega), r4 81 6 (by omega) (by omega), r4 81 8 (by omega) (by omega)]
        exact hf
      obtain ⟨r, C5, R5, x1, x2, x3, x4⟩ := end_fail hB4 hD4 hf4
      rw [x2, bind_some', x1, bind_some', x3, bind_some']
      exact ⟨_, _, rfl, rfl, Or.inr x4⟩
end LAWL2
