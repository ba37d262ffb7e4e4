/-! ===== expressions: what stands ahead of a unit, brackets ===== -/
section PRE
variable {md t b n s0 bare : Nat} {C0 R0 C R : Mem}
theorem pre_tail (hEnv : EnvX 0 t b n bare C0 R0) (hb : b < 2) {d mx : Nat} {sub : Mem → Option Mem} (hd : d + 1 ≤ 7) (hsub : SimG 0 t b n s0 bare C0 R0 (d + 1) (4 + 4 * (d + 1)) mx (2 + d) TpA ExN 0 sub) (hbrk : ∀ C, C 40 4 = 24 → sub C = some C) {u s h m q c kd : Nat} {x : Int} (hX : XS t b s0 C0 R0 u s (m + 1) (d + 1) C R) (hH : XHm 0 bare h C R) (hh : h ≤ 1) (hm : m ≤ 4 + 4 * d) (hm1 : 1 ≤ m) (hs9 : s ≤ 9 * u) (hq : q ≤ 1605) (t8 : R 108 m = ((4 : Nat) : Int)) (t9 : R 109 m = (c : Int)) (hc : (c = 3 ∨ c = 4 ∨ c = 5) ∧ sgE c = kd) (hst : GF n q (∃ o : Nat, R 110 m = (o : Int) ∧ x = (o : Int) ∧ o < 100 ∧ (c = 3 ∨ (o < nP R0 b ∧ h = 1 ∧ bare = 0))) C R) : ∃ C3 C4, sub C = some C3 ∧ S_add (kd : Int) x C3 = some C4 ∧ (GoodG 0 t b n s0 bare C0 R0 mx (1 + d) ExN u s h m d q C R 1 C4 ∨ FailG (DW 0 0 m R) b s0 R0 q R 1 C4) := by
  have ht2 : t = 3 ∨ t = 15 := hEnv.2.1.1.1
  have hkd : kd < 256 := by rw [← hc.2]; rcases hc.1 with z | z | z <;> subst z <;> decide
  have eag : agR 1 R (m + 1) = agR 1 R m := by rw [agR1 t8, if_pos (by decide)]
  rcases hst with ⟨kd2, p2, z1, z2, o, z3, z4, z5, z6⟩ | ⟨f, q', ⟨c1, c2, c3⟩, hf⟩
  · obtain ⟨C3, w1, hw⟩ := hsub C R u s h (m + 1) kd2 p2 hX hH hh z2 (by omega) ⟨4, by rw [show m + 1 - 1 = m by omega]; exact t8, trivial⟩ hs9
    rcases hw with ⟨R3, u3, s3, h3, kd3, p3, k, v1, v2, v2k, v2b, v3, v4, v5, v6, v7, v8, v9, v10, v11, v12, v13, v14, v15, v16⟩ | ⟨f, q', v1, v2⟩
    · obtain ⟨hXF3, ⟨⟨a1, a2, a3⟩, ⟨a4, a5, a6⟩, a7, a8⟩, hP3, hs3⟩ := id v1
      have hadd := add_eq a4 (by omega) kd o hkd (by omega)
      obtain ⟨pt1, pt2, pt3⟩ := v7 m (by omega)
      have hrank3 := rank_m hEnv v1 v3
      refine ⟨C3, _, w1, by rw [z4]; exact hadd, Or.inl ?_⟩
      generalize hC4 : up (up C3 29 s3 ((256 * o + kd : Nat) : Int)) 28 1 ((s3 + 1 : Nat) : Int) = C4
      have c4 : ∀ a k, ¬ (a = 29 ∧ k = s3) → ¬ (a = 28 ∧ k = 1) → C4 a k = C3 a k := fun a k z1 z2 => by rw [← hC4, up_at, if_neg z2, up_at, if_neg z1]
      have c429 : C4 29 s3 = ((256 * o + kd : Nat) : Int) := by rw [← hC4, up_c (by decide), up_eq]
      have c428 : C4 28 1 = ((s3 + 1 : Nat) : Int) := by rw [← hC4, up_eq]
      generalize hR4 : popR b s3 (m + 1) R3 = R4
      have r4 : ∀ a k, ¬ (a = 81 ∧ (k = 40 ∨ k = 41 ∨ k = 42)) ∧ ¬ ((a = 106 ∨ a = 107) ∧ k = 900 * b + s3) → R4 a k = R3 a k := fun a k z => by rw [← hR4]; exact popR_o z
      have t108 : R3 108 (m + 1 - 1) = ((4 : Nat) : Int) := by rw [show m + 1 - 1 = m by omega]; exact pt1.trans t8
      have r442 : R4 81 42 = (m : Int) := by rw [← hR4]; exact popR_42
      have r440 : R4 81 40 = ((900 * b + (s3 + 1) : Nat) : Int) := by rw [← hR4]; exact popR_40
      have r441 : R4 81 41 = (d : Int) := by
        rw [← hR4, popR_41, t108, if_pos (by decide), a8]
        omega
      have r4106 : R4 106 (900 * b + s3) = (c : Int) ∧ R4 107 (900 * b + s3) = (o : Int) := by
        rw [← hR4]
        have := popR_106 (b := b) (s := s3) (m := m + 1) (R := R3)
        rw [show m + 1 - 1 = m by omega, pt2, pt3, t9, z3] at this
        exact this
      have eg : ∀ k, k ≠ 40 → k ≠ 41 → k ≠ 42 → R4 81 k = R3 81 k := fun k z1 z2 z3 => r4 _ _ (by omega)
      have g4 : Gd n kd3 p3 C4 R4 := by
        have ec : ∀ k, C4 40 k = C3 40 k := fun k => c4 _ _ (by omega) (by omega)
        have ec2 : ∀ k, C4 2 k = C3 2 k := fun k => c4 _ _ (by omega) (by omega)
        unfold Gd Tok at v3 ⊢
        simp only [ec, ec2]
        rw [eg 4 (by decide) (by decide) (by decide), eg 5 (by decide) (by decide) (by decide), eg 6 (by decide) (by decide) (by decide), eg 7 (by decide) (by decide) (by decide), eg 8 (by decide) (by decide) (by decide), eg 9 (by decide) (by decide) (by decide), eg 10 (by decide) (by decide) (by decide)]
        exact v3
      have hX4 : XS t b s0 C0 R0 u3 (s3 + 1) m d C4 R4 := by
        refine ⟨⟨fun a k z => by rw [c4 _ _ (by omega) (by omega)]; exact hXF3.1 a k z, fun a k z => by rw [r4 _ _ (by omega)]; exact hXF3.2 a k z⟩, ⟨⟨by rw [c4 _ _ (by omega) (by omega)]; exact a1, by rw [r4 _ _ (by omega)]; exact a2, a3⟩, ⟨c428, r440, by omega⟩, r442, r441⟩, ?_, by omega⟩
        have := popR_XP (b := b) (s := s3) hP3 (by omega)
        rw [hR4, show m + 1 - 1 = m by omega] at this
        exact this
      have hrk4 : rkM 0 kd3 ≤ 3 := by
        unfold rkM rkE
        rw [if_pos rfl]
        split <;> (try omega)
        split <;> (try omega)
        split <;> omega
      have eag3 : agR 1 R3 (m + 1) = agR 1 R (m + 1) := agR_congr (fun k hk => (v7 k hk).1)
      have hreach : Reach 0 (0, R3) (0, R4) := by
        refine Reach_0 ?_
        rw [← hR4]
        refine e_pop hP3 (by omega) (by omega) hb (by omega) a7 a5 v3.2.1.1 (r := rkM 0 kd3) (by omega) (by rw [t108]; omega) (by rw [t108]; omega) hrank3 ?_ ?_
        · rw [hR4]
          exact rank_m hEnv hX4 g4
        · intro hrr
          have hr1 : rkM 0 kd3 = 1 := by omega
          have hdm : DM 0 kd3 := by
            refine Or.inl ⟨rfl, ?_⟩
            unfold rkM rkE at hr1
            rw [if_pos rfl] at hr1
            by_cases y1 : kd3 = 13
            · rw [if_pos y1] at hr1; omega
            · rw [if_neg y1] at hr1
              by_cases y2 : kd3 = 12
              · exact y2
              · rw [if_neg y2] at hr1
                split at hr1 <;> omega
          rw [hr1, eag3]
          cases hz : agR 1 R (m + 1) with
          | false => rfl
          | true => exact absurd ⟨hdm, hz⟩ v16
      have hk' := Reach_trans v4 hreach
      have hseg : hR (R4 106) (900 * b + s) (s3 - s) = hR (R3 106) (900 * b + s) (s3 - s) := by
        funext x
        exact hR_congr (fun i hi => r4 _ _ (by omega))
      refine ⟨R4, u3, s3 + 1, h3, kd3, p3, k + 0, hX4, fun z => ?_, fun z => ?_, v2b, g4, hk', by omega, by omega, fun j hj => ?_, ⟨fun j hj => ?_, fun j hj => ?_⟩, by omega, fun i hi1 hi2 => ?_, fun x hx => ?_, by omega, v13, v14, v15, fun z => ?_⟩
      · obtain ⟨y0, y1⟩ := v2 z
        exact ⟨by rw [c4 _ _ (by omega) (by omega)]; exact y0, fun y => ⟨by rw [c4 _ _ (by omega) (by omega)]; exact (y1 y).1, by rw [r4 _ _ (by omega)]; exact (y1 y).2.1, (y1 y).2.2⟩⟩
      · rw [r4 _ _ (by omega)]
        exact v2k z
      · obtain ⟨y1, y2, y3⟩ := v7 j (by omega)
        rw [r4 108 _ (by omega), r4 109 _ (by omega), r4 110 _ (by omega)]
        exact ⟨y1, y2, y3⟩
      · rw [c4 _ _ (by omega) (by omega), v8.1 j hj]
      · rw [r4 106 _ (by omega), r4 107 _ (by omega)]
        exact v8.2 j hj
      · by_cases e : i = s3
        · subst e
          refine ⟨fun _ => ⟨c, o, r4106.1, r4106.2, by rw [c429, hc.2], by omega, z5, fun y => by omega, fun y => by omega, fun y => ?_⟩, fun z => by omega⟩
          have : o < nP R0 b ∧ h = 1 ∧ bare = 0 := by omega
          exact ⟨this.1, by omega, this.2.2⟩
        · exact Stp_mono (v10 i hi1 (by omega)) (Nat.le_refl _) v2b (c4 _ _ (by omega) (by omega)) ⟨r4 _ _ (by omega), r4 _ _ (by omega)⟩
      · rw [show s3 + 1 - s = (s3 - s) + 1 by omega]
        show (hR (R4 106) (900 * b + s) (s3 - s) x).bind (hS (R4 106 (900 * b + s + (s3 - s)))) = _
        rw [hseg, v11 x hx, bind_some', show 900 * b + s + (s3 - s) = 900 * b + s3 by omega, r4106.1]
        unfold hS
        rw [if_neg (by omega), if_pos (by omega), if_pos (by omega)]
      · refine v16 ⟨z.1, ?_⟩
        have z2 := z.2
        rw [arM_0] at z2 ⊢
        rw [eag]
        exact z2
    · have hm2 : DmC (DW 0 0 m R) C3 f q' := DmC_mono v1 (fun kd' z => by
        refine ⟨z.1, z.2.imp (fun y => y) (fun y => ?_)⟩
        rw [arM_0] at y ⊢
        rw [← eag]
        exact y)
      obtain ⟨C4, x1, x2, x3⟩ := DmC_add hm2 (kd : Int) x
      obtain ⟨j, R', j1, j2, j3⟩ := v2
      exact ⟨C3, C4, w1, x1, Or.inr ⟨f, q', x2, j, R', by omega, j2, j3⟩⟩
  · have hD : DmC (DW 0 0 m R) C f q' := ⟨⟨s, hX.2.1.2.1.2.2, hX.2.1.2.1.1⟩, Or.inl ⟨c1, c2, c3⟩⟩
    obtain ⟨C4, x1, x2, x3⟩ := DmC_add hD (kd : Int) x
    exact ⟨C, C4, hbrk C c1, x1, Or.inr ⟨f, q', x2, FB_Dn1 (p := q) hX hEnv hb (by omega) hq hf⟩⟩
/-- a bracket closes: the reference's step, the class's expecting -/
theorem close_step (hEnv : EnvX md t b n bare C0 R0) {u s m d kd p : Nat} (hX : XS t b s0 C0 R0 u s (m + 1) (d + 1) C R) (hm1 : 1 ≤ m) (hm : m ≤ 90) (t8 : R 108 m = 7) (g : Gd n kd p C R) (hr : rkM md kd = 0) : ∃ C' R', K_expect 41 C = some C' ∧ M_e_b20 (0, R) = some (.inl (0, R')) ∧ XS t b s0 C0 R0 u s m d C' R' ∧ GF n (p + 1) True C' R' ∧ OnT C (up (up R 81 42 ((m : Nat) : Int)) 81 41 ((d : Nat) : Int)) C' R' := by
  have ht := hEnv.2.1.1.1
  have hB := XF_TB hEnv.1 ht hX.1
  have hrank := rank_m hEnv hX g
  rw [hr] at hrank
  obtain ⟨⟨f1, f2⟩, ⟨⟨n1, n2, n3⟩, ⟨n4, n5, n6⟩, n7, n8⟩, hP, hs0⟩ := id hX
  have e29 : it (M_behindUnit_b29 ((0 : Nat) : Int)) FUEL R = some R := by
    rw [show FUEL = 9999999 + 1 from rfl]
    exact it_last (pop_end hP (by omega) n7 (by decide) (by rw [show m + 1 - 1 = m by omega, t8]; omega))
  have hstep := e_beh g.2.1.1 n7 (by omega) (by omega)
  rw [beh_go hrank (by decide) (fun z => by omega), e29, bind_some'] at hstep
  unfold behK at hstep
  rw [if_neg (by decide), lt1_eq, n7, up_eq, show ((m + 1 : Nat) : Int) - 1 = ((m : Nat) : Int) by omega, chk_pos (by omega), tn_nat, up_c (show (108 : Nat) ≠ 81 by decide), t8, if_pos (by decide), lt1_eq, up_k (show (41 : Nat) ≠ 42 by decide), n8, show ((d + 1 : Nat) : Int) - 1 = ((d : Nat) : Int) by omega] at hstep
  generalize hR2 : up (up R 81 42 ((m : Nat) : Int)) 81 41 ((d : Nat) : Int) = R2 at hstep ⊢
  have o2 : ∀ a k, ¬ (a = 81 ∧ (k = 41 ∨ k = 42)) → R2 a k = R a k := fun a k z => by rw [← hR2, up_at, if_neg (by omega), up_at, if_neg (by omega)]
  have g2 : Gd n kd p C R2 := by
    have e : ∀ k, k ≠ 41 → k ≠ 42 → R2 81 k = R 81 k := fun k z1 z2 => o2 _ _ (by omega)
    unfold Gd Tok at g ⊢
    rw [e 4 (by decide) (by decide), e 5 (by decide) (by decide), e 6 (by decide) (by decide), e 7 (by decide) (by decide), e 8 (by decide) (by decide), e 9 (by decide) (by decide), e 10 (by decide) (by decide)]
    exact g
  have hB2 : TB n C R2 := by
    obtain ⟨h1, h2, h3, h4, h5⟩ := hB
    exact ⟨h1, h2, by rw [o2 _ _ (by omega)]; exact h3, fun i hi => by rw [o2 _ _ (by omega)]; exact h4 i hi, h5⟩
  have hX2 : XS t b s0 C0 R0 u s m d C R2 := by
    refine ⟨⟨f1, fun a k z => by rw [o2 _ _ (by omega)]; exact f2 a k z⟩, ⟨⟨n1, by rw [o2 _ _ (by omega)]; exact n2, n3⟩, ⟨n4, by rw [o2 _ _ (by omega)]; exact n5, n6⟩, by rw [← hR2, up_k (by decide), up_eq], by rw [← hR2, up_eq]⟩, ⟨hm1, by rw [o2 _ _ (by omega)]; exact hP.2.1, fun k z1 z2 => by rw [o2 _ _ (by omega)]; exact hP.2.2 k z1 (by omega)⟩, hs0⟩
  have hst := stands_tok hB2 on_self g2.2.2.2.2.2 (q := p) (by obtain ⟨-, -, -, -, ⟨e, e1, e2, -⟩, -⟩ := g; have := hB.1; omega) g2.2.2.2.1 (c := 41) (by decide)
  rw [show ((41 : Nat) : Int) = 41 from rfl] at hst
  rw [hst, bind_some'] at hstep
  by_cases e : kd = 41
  · subst e
    obtain ⟨C', R', k1, k2, hon, k3⟩ := pass_ok hB2 on_self g2
    rw [if_neg (by decide)] at k3
    unfold M_must at hstep
    rw [if_pos rfl, gd_good g2.2.1.1, bind_some', if_neg nz1, if_pos nz1, k2, bind_some', bind_some', bind_some', bind_some'] at hstep
    refine ⟨C', R', ?_, hstep, XS_on ht hX2 hon, k3, hon⟩
    unfold K_expect
    rw [if_pos (by rw [g.2.2.2.2.2.1]; rfl), k1, bind_some']
  · unfold M_must at hstep
    rw [if_neg e, gd_good g2.2.1.1, bind_some', if_neg nz1, if_neg nz0, tok_misp g2.2.1.1 g2.2.2.2.2.2 g2.2.2.2.1, bind_some', bind_some', bind_some', bind_some'] at hstep
    have hon : OnT C R2 (failC C 2) (up (up R2 81 4 2) 81 5 (p : Int)) := up45_on (failC_on on_self _) _ _
    refine ⟨failC C 2, _, ?_, hstep, XS_on ht hX2 hon, Or.inr (both_fail hB2 g2 (by decide) (by decide)), hon⟩
    unfold K_expect
    have hk := Tok_kd g.2.2.2.2.2
    rw [g.2.2.2.2.2.1, n32_nat (by omega), if_neg (show ¬ ((kd : Int) = n32 41) from fun z => e (by have : n32 41 = 41 := rfl; omega)), gd_failC g, bind_some']
theorem opens_tail (hEnv : EnvX md t b n bare C0 R0) (hb : b < 2) {d mx : Nat} {sub : Mem → Option Mem} (hd : d + 1 ≤ 7) (hsub : SimG md t b n s0 bare C0 R0 (d + 1) (1 + 4 * (d + 1)) mx 1 Tp1 (fun k => rkM md k ≠ 0) 1 sub) (hbrk : ∀ C, C 40 4 = 24 → sub C = some C) {u s h m q : Nat} {P : Prop} (hX : XS t b s0 C0 R0 u s (m + 1) (d + 1) C R) (hH : XHm md bare h C R) (hh : h ≤ 1) (hm : m ≤ 4 + 4 * d) (hm1 : 1 ≤ m) (hs9 : s ≤ 9 * u) (hq : q ≤ 1605) (t8 : R 108 m = 7) (hst : GF n q P C R) : ∃ C3 C4, sub C = some C3 ∧ K_expect 41 C3 = some C4 ∧ (GoodG md t b n s0 bare C0 R0 mx 1 ExN u s h m d q C R 1 C4 ∨ FailG (DW md 0 m R) b s0 R0 q R 1 C4) := by
  have ht2 : t = 3 ∨ t = 15 := hEnv.2.1.1.1
  rcases hst with ⟨kd2, p2, z1, z2, z3⟩ | ⟨f, q', ⟨c1, c2, c3⟩, hf⟩
  · obtain ⟨C3, w1, hw⟩ := hsub C R u s h (m + 1) kd2 p2 hX hH hh z2 (by omega) ⟨7, by rw [show m + 1 - 1 = m by omega]; exact t8, Or.inl rfl⟩ hs9
    rcases hw with ⟨R3, u3, s3, h3, kd3, p3, k, v1, v2, v2k, v2b, v3, v4, v5, v6, v7, v8, v9, v10, v11, v12, v13, v14, v15, v16⟩ | ⟨f, q', v1, v2⟩
    · obtain ⟨pt1, pt2, pt3⟩ := v7 m (by omega)
      obtain ⟨C4, R4, e1, e2, e3, e4, e5⟩ := close_step hEnv v1 hm1 (by omega) (pt1.trans t8) v3 (Classical.byContradiction v15)
      have r4 : ∀ a k, ¬ (a = 81 ∧ ((4 ≤ k ∧ k ≤ 10) ∨ k = 41 ∨ k = 42)) → R4 a k = R3 a k := fun a k z => by
        rw [e5.2 a k (by omega), up_at, if_neg (by omega), up_at, if_neg (by omega)]
      have c4 : ∀ a k, a ≠ 40 → C4 a k = C3 a k := e5.1
      have hB := XF_TB hEnv.1 hEnv.2.1.1.1 v1.1
      have hp3 : p3 + 1 ≤ 1601 := by
        obtain ⟨-, -, -, -, ⟨e, y1, y2, -⟩, -⟩ := v3
        have := hB.1
        omega
      have hreach := Reach_trans v4 (Reach_1 e2)
      have hpil : Pil m R R4 := fun j hj => by
        obtain ⟨y1, y2, y3⟩ := v7 j (by omega)
        rw [r4 108 _ (by omega), r4 109 _ (by omega), r4 110 _ (by omega)]
        exact ⟨y1, y2, y3⟩
      have eag : ∀ r, agR r R4 m = agR r R m := fun r => agR_congr (fun k hk => (hpil k hk).1)
      refine ⟨C3, C4, w1, e1, ?_⟩
      rcases unit_end hEnv hb e3 (q := p3 + 1) (by omega) (by omega) e4 with ⟨kd4, p4, y1, y2, -, y4⟩ | ⟨f, q', y1, y2⟩
      · rw [eag] at y4
        refine Or.inl ⟨R4, u3, s3, h3, kd4, p4, k + 1, e3, fun z => ?_, fun z => ?_, v2b, y1, hreach, by omega, by omega, hpil, ⟨fun j hj => ?_, fun j hj => ?_⟩, v9, fun i hi1 hi2 => ?_, fun x hx => ?_, v12, v13, v14, fun z => z, y4⟩
        · obtain ⟨y0, y1⟩ := v2 z
          exact ⟨by rw [c4 _ _ (by omega)]; exact y0, fun y => ⟨by rw [c4 _ _ (by omega)]; exact (y1 y).1, by rw [r4 _ _ (by omega)]; exact (y1 y).2.1, (y1 y).2.2⟩⟩
        · rw [r4 _ _ (by omega)]
          exact v2k z
        · rw [c4 _ _ (by omega), v8.1 j hj]
        · rw [r4 106 _ (by omega), r4 107 _ (by omega)]
          exact v8.2 j hj
        · exact Stp_mono (v10 i hi1 hi2) (Nat.le_refl _) v2b (c4 _ _ (by omega)) ⟨r4 _ _ (by omega), r4 _ _ (by omega)⟩
        · rw [hR_congr (fun i hi => r4 106 _ (by omega))]
          exact v11 x hx
      · refine Or.inr ⟨f, q', DmC_mono y1 (fun kd z => ?_), Dn_reach hreach (by omega) (fun z => ?_) y2⟩
        · unfold DW at z ⊢
          rw [eag] at z
          exact z
        · dsimp only at z ⊢
          rw [r4 _ _ (by omega)]
          exact v2k z
    · obtain ⟨⟨s', s1, s2⟩, hh2⟩ := id v1
      obtain ⟨j, R', j1, j2, j3⟩ := v2
      rcases hh2 with ⟨c1, c2, c3⟩ | ⟨rfl, ⟨kd', y1, y2⟩, y3⟩
      · exact ⟨C3, C3, w1, bk_expect c1 (w := 41) (by decide) (by decide), Or.inr ⟨f, q', ⟨⟨s', s1, s2⟩, Or.inl ⟨c1, c2, c3⟩⟩, j, R', by omega, j2, j3⟩⟩
      · have hr := DM_rng y1.1
        have h41 : kd' ≠ 41 ∧ kd' ≠ 24 := by
          have := y1.1
          unfold DM at this
          omega
        obtain ⟨q1, q2, q3⟩ := failC_at (C := C3) (f := 2)
        refine ⟨C3, failC C3 2, w1, ?_, Or.inr ⟨2, q', ⟨⟨s', s1, ?_⟩, Or.inl ⟨q1, q2, by rw [q3]; exact y3⟩⟩, j, R', by omega, j2, j3⟩⟩
        · unfold K_expect
          rw [y2, n32_nat (by omega), if_neg (show ¬ ((kd' : Int) = n32 41) from fun z => by have : n32 41 = 41 := rfl; omega)]
          unfold K_fail failC
          rw [y2, n32_nat (by omega), if_pos (by omega), lt1_eq, lt1_eq, lt1_eq, up_k (by decide), up_k (by decide)]
          rfl
        · unfold failC
          rw [up_c (by decide), up_c (by decide), up_c (by decide)]
          exact s2
  · have hD : DmC (DW md 0 m R) C f q' := ⟨⟨s, hX.2.1.2.1.2.2, hX.2.1.2.1.1⟩, Or.inl ⟨c1, c2, c3⟩⟩
    exact ⟨C, C, hbrk C c1, bk_expect c1 (w := 41) (by decide) (by decide), Or.inr ⟨f, q', hD, FB_Dn1 (p := q) hX hEnv hb (by omega) hq hf⟩⟩
end PRE
