/-! ===== joint readers of names, persons, numbers ===== -/
def NmQ (cc rc off cnt : Nat) (C0 R0 : Mem) : Prop := ∀ i, i < cnt → ∃ m : Nat, m < 2 ^ 40 ∧ C0 cc i = (m : Int) ∧ R0 rc (off + i) = ((w256 m : Nat) : Int)
section PRIM
variable {n : Nat} {C0 R0 C R : Mem}
theorem here_any (h : OnT C0 R0 C R) {rc off cnt L : Nat} (hL : aJ 138 rc = (L : Int)) (hL2 : off + cnt ≤ L) (hL3 : L < 1000) : ∃ v, M_here rc (off : Int) (cnt : Int) R = some v ∧ (v = -1 ∨ ∃ i : Nat, i < cnt ∧ v = (i : Int)) ∧ (n32 (R 81 8) ≠ 2 → v = -1) := by
  have F := it_find (body := M_here_b3 rc (off : Int) (cnt : Int) R) (p := fun i => decide (n32 (R 81 8) = 2 ∧ n64 (R rc (off + i)) = n64 (R 81 10))) (v := fun i => (i : Int)) cnt (by unfold FUEL; omega) ?_ ?_ ?_
  · unfold M_here
    cases hA : anyB (fun i => decide (n32 (R 81 8) = 2 ∧ n64 (R rc (off + i)) = n64 (R 81 10))) cnt with
    | false =>
      rw [F.1 hA]
      exact ⟨-1, rfl, Or.inl rfl, fun _ => rfl⟩
    | true =>
      obtain ⟨i, q1, q2, -, q3⟩ := F.2 hA
      rw [q3]
      rw [decide_eq_true_eq] at q2
      exact ⟨_, rfl, Or.inr ⟨i, q1, rfl⟩, fun z => absurd q2.1 z⟩
  · intro i hi hp
    rw [decide_eq_true_eq] at hp
    unfold M_here_b3
    dsimp only
    rw [n32_nat (by omega), n32_nat (by omega), if_pos (by omega), if_pos hp.1, hL, chk_pos (by omega), tn_add, if_pos hp.2, bind_some', if_pos rfl]
  · intro i hi hp
    rw [decide_eq_false_iff_not] at hp
    unfold M_here_b3
    dsimp only
    rw [n32_nat (by omega), n32_nat (by omega), if_pos (by omega)]
    by_cases q : n32 (R 81 8) = 2
    · rw [if_pos q, hL, chk_pos (by omega), tn_add, if_neg (fun z => hp ⟨q, z⟩), bind_some', if_neg (by decide), lt1_eq]
    · rw [if_neg q, bind_some', if_neg (by decide), lt1_eq]
  · unfold M_here_b3
    rw [if_neg (by omega)]
theorem find_here (h : OnT C0 R0 C R) (hT : Tok n 21 C R) {cc rc off cnt L1 L : Nat} (hcc : cc ≠ 40) (hrc : rc ≠ 81) (hn : NmQ cc rc off cnt C0 R0) (hL1 : aJ 80 cc = (L1 : Int)) (hc1 : cnt ≤ L1) (hL : aJ 138 rc = (L : Int)) (hL2 : off + cnt ≤ L) (hL3 : L < 1000) (hL4 : L1 < 1000) : ∃ v, N_find cc (cnt : Int) C = some v ∧ M_here rc (off : Int) (cnt : Int) R = some v ∧ (v = -1 ∨ ∃ i : Nat, i < cnt ∧ v = (i : Int)) := by
  obtain ⟨m0, hm0, h7, h10⟩ : ∃ m : Nat, m < 2 ^ 40 ∧ C 40 7 = (m : Int) ∧ R 81 10 = ((w256 m : Nat) : Int) := by
    obtain ⟨-, hT⟩ := hT
    rcases hT with ⟨z, -⟩ | ⟨-, -, z⟩ | ⟨z1, z2, -⟩ | ⟨z, -⟩ | ⟨z, -⟩
    · omega
    · exact z
    · omega
    · omega
    · exact absurd z (by decide)
  have h8 : n32 (R 81 8) = 2 := by
    obtain ⟨k, e, -, -, h2, -⟩ := Tok_8 hT
    rw [e, h2.mpr rfl]
    rfl
  have hiff : ∀ i, i < cnt → ((n64 (C cc i) = n64 (C 40 7)) ↔ (n64 (R rc (off + i)) = n64 (R 81 10))) := by
    intro i hi
    obtain ⟨m, hm, e1, e2⟩ := hn i hi
    rw [h.1 _ _ hcc, e1, h7, h.2 _ _ (fun z => hrc z.1), e2, h10]
    exact (name_iff hm hm0).symm
  have F := it_find (body := N_find_b2 cc (cnt : Int) C) (p := fun i => decide (n64 (C cc i) = n64 (C 40 7))) (v := fun i => (i : Int)) cnt (by unfold FUEL; omega) ?_ ?_ ?_
  · have G := it_find (body := M_here_b3 rc (off : Int) (cnt : Int) R) (p := fun i => decide (n64 (R rc (off + i)) = n64 (R 81 10))) (v := fun i => (i : Int)) cnt (by unfold FUEL; omega) ?_ ?_ ?_
    · have e : anyB (fun i => decide (n64 (R rc (off + i)) = n64 (R 81 10))) cnt = anyB (fun i => decide (n64 (C cc i) = n64 (C 40 7))) cnt := anyB_congr (fun i hi => by rw [decide_eq_decide]; exact (hiff i hi).symm)
      unfold N_find M_here
      cases hA : anyB (fun i => decide (n64 (C cc i) = n64 (C 40 7))) cnt with
      | false =>
        rw [F.1 hA, G.1 (e.trans hA)]
        exact ⟨-1, rfl, rfl, Or.inl rfl⟩
      | true =>
        obtain ⟨i, q1, q2, q3, q4⟩ := F.2 hA
        obtain ⟨j, w1, w2, w3, w4⟩ := G.2 (e.trans hA)
        rw [decide_eq_true_eq] at q2 w2
        have hij : i = j := by
          refine Nat.le_antisymm (Nat.not_lt.mp (fun z => ?_)) (Nat.not_lt.mp (fun z => ?_))
          · have := q3 j z
            rw [decide_eq_false_iff_not] at this
            exact this ((hiff j w1).mpr w2)
          · have := w3 i z
            rw [decide_eq_false_iff_not] at this
            exact this ((hiff i q1).mp q2)
        subst hij
        rw [q4, w4]
        exact ⟨_, rfl, rfl, Or.inr ⟨i, q1, rfl⟩⟩
    · intro i hi hp
      rw [decide_eq_true_eq] at hp
      unfold M_here_b3
      dsimp only
      rw [n32_nat (by omega), n32_nat (by omega), if_pos (by omega), if_pos h8, hL, chk_pos (by omega), tn_add, if_pos hp, bind_some', if_pos rfl]
    · intro i hi hp
      rw [decide_eq_false_iff_not] at hp
      unfold M_here_b3
      dsimp only
      rw [n32_nat (by omega), n32_nat (by omega), if_pos (by omega), if_pos h8, hL, chk_pos (by omega), tn_add, if_neg hp, bind_some', if_neg (by decide), lt1_eq]
    · unfold M_here_b3
      rw [if_neg (by omega)]
  · intro i hi hp
    rw [decide_eq_true_eq] at hp
    unfold N_find_b2
    dsimp only
    rw [n32_nat (by omega), n32_nat (by omega), if_pos (by omega), hL1, chk_pos (by omega), tn_nat, if_pos hp]
  · intro i hi hp
    rw [decide_eq_false_iff_not] at hp
    unfold N_find_b2
    dsimp only
    rw [n32_nat (by omega), n32_nat (by omega), if_pos (by omega), hL1, chk_pos (by omega), tn_nat, if_neg hp, lt1_eq]
  · unfold N_find_b2
    rw [if_neg (by omega)]
theorem sees_gd {kd p : Nat} (g : Gd n kd p C R) : N_seesName C = some (if kd = 21 then (1, C) else (0, failC C 2)) := by
  unfold N_seesName
  rw [Tok_4 g.2.2.2.2.2]
  by_cases e : kd = 21
  · subst e
    rw [if_neg (by decide), bind_some', Tok_4 g.2.2.2.2.2, if_pos (by decide), if_pos rfl]
  · rw [if_pos (by omega), gd_failC g, bind_some', bind_some', (failC_at (C := C) (f := 2)).1, if_neg (by decide), if_neg e]
theorem Tok_2 {kd : Nat} (h : Tok n kd C R) : (n32 (R 81 8) = 2) ↔ kd = 21 := by
  obtain ⟨k, e, -, h6, h2, -⟩ := Tok_8 h
  rw [e, n32_nat (by omega)]
  exact ⟨fun z => h2.mp (by omega), fun z => by rw [h2.mpr z]; rfl⟩
/-- a new name -/
theorem fresh_ok (hB : TB n C0 R0) {q : Nat} {P : Prop} {v : Int} {dup : Bool} (h : S3 n q P C0 R0 C R) (hv : ∀ p, Gd n 21 p C R → v = b1 dup) : ∃ s C1 C2 x C' y R', N_seesName C = some (s, C1) ∧ (s = 0 ∨ (s = 1 ∧ C1 = C ∧ ∃ p, Gd n 21 p C R)) ∧ (s = 0 → C2 = C1) ∧ (s = 1 → (if dup = true then K_fail 3 C else some C) = some C2) ∧ N_takeName C2 = some (x, C') ∧ M_fresh v R = some (y, R') ∧ S3 n q (P ∧ ∃ m : Nat, m < 2 ^ 40 ∧ x = (m : Int) ∧ y = ((w256 m : Nat) : Int)) C0 R0 C' R' := by
  obtain ⟨hon, ⟨kd, p, hq, g, hP⟩ | ⟨f, p, ⟨c1, c2, c3⟩, ⟨q2, q3, q4⟩, hf | ⟨rfl, hbad⟩⟩⟩ := h
  · have hg1 := g.2.1.1
    have gT := g.2.2.2.2.2
    have h6 := g.2.2.2.1
    by_cases e : kd = 21
    · subst e
      have hv' := hv p g
      have h8 := (Tok_2 gT).mpr rfl
      cases hd : dup with
      | true =>
        rw [hd] at hv'
        refine ⟨1, C, failC C 3, failC C 3 40 7, failC C 3, up (up R 81 4 3) 81 5 (p : Int) 81 10, up (up R 81 4 3) 81 5 (p : Int), by rw [sees_gd g, if_pos rfl], Or.inr ⟨rfl, rfl, p, g⟩, fun z => absurd z (by decide), fun _ => by rw [if_pos rfl, gd_failC g], bk_take failC_at.1, ?_, up45_on (failC_on hon _) _ _, Or.inr (both_fail hB g (by decide) (by decide))⟩
        unfold M_fresh
        rw [gd_good hg1, bind_some', if_neg nz1, if_neg (not_not_intro h8), hv', show b1 true = 1 from rfl, if_pos nz1, gd_fails hg1, h6, bind_some', bind_some', lt1_eq, fl_good (up45_flt (by decide) (by decide)), bind_some', if_neg nz0, bind_some']
      | false =>
        rw [hd] at hv'
        obtain ⟨C', R', k1, k2, k3⟩ := pass_ok hB hon g
        obtain ⟨m0, hm0, h7, h10⟩ : ∃ m : Nat, m < 2 ^ 40 ∧ C 40 7 = (m : Int) ∧ R 81 10 = ((w256 m : Nat) : Int) := by
          obtain ⟨-, hT⟩ := gT
          rcases hT with ⟨z, -⟩ | ⟨-, -, z⟩ | ⟨z1, z2, -⟩ | ⟨z, -⟩ | ⟨z, -⟩
          · omega
          · exact z
          · omega
          · omega
          · exact absurd z (by decide)
        refine ⟨1, C, C, C 40 7, C', R 81 10, R', by rw [sees_gd g, if_pos rfl], Or.inr ⟨rfl, rfl, p, g⟩, fun z => absurd z (by decide), fun _ => by rw [if_neg (by decide)], by unfold N_takeName; rw [lt1_eq, k1]; rfl, ?_, S3_mono k3 (by rw [if_neg (by decide)]; omega) (fun _ => ⟨hP, m0, hm0, h7, h10⟩)⟩
        unfold M_fresh
        rw [gd_good hg1, bind_some', if_neg nz1, if_neg (not_not_intro h8), hv', show b1 false = 0 from rfl, if_neg nz0, bind_some', lt1_eq, gd_good hg1, bind_some', if_pos nz1, k2]
        rfl
    · have h8 : ¬ n32 (R 81 8) = 2 := fun z => e ((Tok_2 gT).mp z)
      refine ⟨0, failC C 2, failC C 2, failC C 2 40 7, failC C 2, up (up R 81 4 2) 81 5 (p : Int) 81 10, up (up R 81 4 2) 81 5 (p : Int), by rw [sees_gd g, if_neg e], Or.inl rfl, fun _ => rfl, fun z => absurd z (by decide), bk_take failC_at.1, ?_, up45_on (failC_on hon _) _ _, Or.inr (both_fail hB g (by decide) (by decide))⟩
      unfold M_fresh
      rw [gd_good hg1, bind_some', if_neg nz1, if_pos h8, tok_misp hg1 gT h6, bind_some', bind_some', lt1_eq, fl_good (up45_flt (by decide) (by decide)), bind_some', if_neg nz0, bind_some']
  · refine ⟨0, C, C, C 40 7, C, 0, R, bk_sees c1, Or.inl rfl, fun _ => rfl, fun z => absurd z (by decide), bk_take c1, ?_, hon, Or.inr ⟨f, p, ⟨c1, c2, c3⟩, ⟨q2, q3, q4⟩, Or.inl hf⟩⟩
    unfold M_fresh
    rw [fl_good hf, bind_some', if_pos (by decide)]
  · refine ⟨0, C, C, C 40 7, C, up (up R 81 4 1) 81 5 p 81 10, up (up R 81 4 1) 81 5 p, bk_sees c1, Or.inl rfl, fun _ => rfl, fun z => absurd z (by decide), bk_take c1, ?_, up45_on hon _ _, Or.inr ⟨1, p, ⟨c1, c2, c3⟩, ⟨q2, q3, by rw [up45_6]; exact q4⟩, Or.inl (up45_flt (by decide) (by decide))⟩⟩
    unfold M_fresh
    rw [gd_good hbad.1, bind_some', if_neg nz1, hbad.2.1, if_pos (by decide), bad_misp hbad, bind_some', bind_some', lt1_eq, fl_good (up45_flt (by decide) (by decide)), bind_some', if_neg nz0, bind_some']
/-- a word, and a number that is not too big behind it -/
theorem after_ok (hB : TB n C0 R0) {q j : Nat} {P : Prop} (hj : j < 20) (h : S3 n q P C0 R0 C R) : ∃ C1 x C' y R', K_expect ((j + 1 : Nat) : Int) C = some C1 ∧ N_readSmall C1 = some (x, C') ∧ M_after ((WN j : Nat) : Int) 99 R = some (y, R') ∧ S3 n q (P ∧ ∃ v : Nat, v ≤ 99 ∧ x = (v : Int) ∧ y = (v : Int)) C0 R0 C' R' := by
  obtain ⟨r, C1, R1, k1, k2, k3, k4⟩ := must_word hB hj h
  unfold M_after
  rw [k1, bind_some', k3, bind_some']
  obtain ⟨hon, ⟨kd, p, hq, g, hP⟩ | ⟨f, p, ⟨c1, c2, c3⟩, ⟨q2, q3, q4⟩, hf | ⟨rfl, hbad⟩⟩⟩ := k4
  · have hg1 := g.2.1.1
    have gT := g.2.2.2.2.2
    have h6 := g.2.2.2.1
    obtain ⟨k, e8, -, hk6, -, -, h4, -⟩ := Tok_8 gT
    have hk := Tok_kd gT
    rw [gd_good hg1, bind_some', if_neg nz1, e8, n32_nat (by omega)]
    by_cases e : kd = 22
    · subst e
      obtain ⟨v, hv, h40, h81⟩ : ∃ v : Nat, v < 10000 ∧ C1 40 6 = (v : Int) ∧ R1 81 9 = (v : Int) := by
        obtain ⟨-, hT⟩ := gT
        rcases hT with ⟨z, -⟩ | ⟨z, -⟩ | ⟨z1, z2, -⟩ | ⟨-, -, z⟩ | ⟨z, -⟩
        · omega
        · omega
        · omega
        · exact z
        · exact absurd z (by decide)
      rw [h4.mpr rfl, if_neg (by decide), h81, n32_nat (by omega), show n32 99 = 99 from rfl]
      by_cases hb : v ≤ 99
      · obtain ⟨C', R', w1, w2, w3⟩ := pass_ok hB hon g
        refine ⟨C1, (v : Int), C', (v : Int), R', k2, ?_, ?_, S3_mono w3 (by rw [if_neg (by decide)]; omega) (fun _ => ⟨hP, v, hb, rfl, rfl⟩)⟩
        · unfold N_readSmall
          rw [Tok_4 gT, if_neg (by decide), h40, n32_nat (by omega), if_neg (by omega), bind_some', lt1_eq, w1, h40]
          rfl
        · rw [if_neg (by omega), bind_some', lt1_eq, gd_good hg1, bind_some', if_pos nz1, w2, h81]
          rfl
      · refine ⟨C1, failC C1 4 40 6, failC C1 4, up (up R1 81 4 4) 81 5 (p : Int) 81 9, up (up R1 81 4 4) 81 5 (p : Int), k2, ?_, ?_, up45_on (failC_on hon _) _ _, Or.inr (both_fail hB g (by decide) (by decide))⟩
        · unfold N_readSmall
          rw [Tok_4 gT, if_neg (by decide), h40, n32_nat (by omega), if_pos (by omega), gd_failC g, bind_some', bind_some', lt1_eq, bk_pass failC_at.1]
          rfl
        · rw [if_pos (by omega), gd_fails hg1, h6, bind_some', bind_some', lt1_eq, fl_good (up45_flt (by decide) (by decide)), bind_some', if_neg nz0, bind_some']
    · have hk4 : k ≠ 4 := fun z => e (h4.mp z)
      refine ⟨C1, failC C1 2 40 6, failC C1 2, up (up R1 81 4 2) 81 5 (p : Int) 81 9, up (up R1 81 4 2) 81 5 (p : Int), k2, ?_, ?_, up45_on (failC_on hon _) _ _, Or.inr (both_fail hB g (by decide) (by decide))⟩
      · unfold N_readSmall
        rw [Tok_4 gT, if_pos (by omega), gd_failC g, bind_some', bind_some', lt1_eq, bk_pass failC_at.1]
        rfl
      · rw [if_pos (by omega), tok_misp hg1 gT h6, bind_some', bind_some', lt1_eq, fl_good (up45_flt (by decide) (by decide)), bind_some', if_neg nz0, bind_some']
  · refine ⟨C1, C1 40 6, C1, 0, R1, k2, bk_small c1, ?_, hon, Or.inr ⟨f, p, ⟨c1, c2, c3⟩, ⟨q2, q3, q4⟩, Or.inl hf⟩⟩
    rw [fl_good hf, bind_some', if_pos (by decide)]
  · refine ⟨C1, C1 40 6, C1, up (up R1 81 4 1) 81 5 p 81 9, up (up R1 81 4 1) 81 5 p, k2, bk_small c1, ?_, up45_on hon _ _, Or.inr ⟨1, p, ⟨c1, c2, c3⟩, ⟨q2, q3, by rw [up45_6]; exact q4⟩, Or.inl (up45_flt (by decide) (by decide))⟩⟩
    rw [gd_good hbad.1, bind_some', if_neg nz1, hbad.2.1, if_pos (by decide), bad_misp hbad, bind_some', bind_some', lt1_eq, fl_good (up45_flt (by decide) (by decide)), bind_some', if_neg nz0, bind_some']
/-- the reference's told, of a place that is no good name or of a good one -/
theorem told_fl {f p : Int} (h : Flt R f p) (w : Int) : M_told w R = some (0, R) := by
  unfold M_told
  rw [fl_good h, bind_some', if_pos (by decide)]
theorem told_bad {p : Int} (h : BadT R p) {w : Int} : ∃ y, M_told w R = some (y, up (up R 81 4 1) 81 5 p) := by
  unfold M_told
  rw [gd_good h.1, bind_some', if_neg nz1, h.2.1, if_pos (by decide), bad_misp h, bind_some', bind_some', fl_good (up45_flt (by decide) (by decide)), bind_some', if_neg nz0, bind_some']
  by_cases q : n32 w < 0
  · rw [if_pos q]; exact ⟨_, rfl⟩
  · rw [if_neg q]; exact ⟨_, rfl⟩
theorem told_no {kd p : Nat} (g : Gd n kd p C R) (hk : kd ≠ 21) {w : Int} : ∃ y, M_told w R = some (y, up (up R 81 4 2) 81 5 (p : Int)) := by
  have gT := g.2.2.2.2.2
  have h8 : ¬ n32 (R 81 8) = 2 := fun z => hk ((Tok_2 gT).mp z)
  unfold M_told
  rw [gd_good g.2.1.1, bind_some', if_neg nz1, if_pos h8, tok_misp g.2.1.1 gT g.2.2.2.1, bind_some', bind_some', fl_good (up45_flt (by decide) (by decide)), bind_some', if_neg nz0, bind_some']
  by_cases q : n32 w < 0
  · rw [if_pos q]; exact ⟨_, rfl⟩
  · rw [if_neg q]; exact ⟨_, rfl⟩
theorem told_m1 {p : Nat} (g : Gd n 21 p C R) : M_told (-1) R = some (0, up (up R 81 4 5) 81 5 (p : Int)) := by
  have h8 := (Tok_2 g.2.2.2.2.2).mpr rfl
  unfold M_told
  rw [gd_good g.2.1.1, bind_some', if_neg nz1, if_neg (not_not_intro h8), if_pos (by decide), gd_fails g.2.1.1, g.2.2.2.1, bind_some', bind_some', fl_good (up45_flt (by decide) (by decide)), bind_some', if_neg nz0, bind_some', if_pos (by decide)]
theorem told_i {p : Nat} (g : Gd n 21 p C R) {i : Nat} (hi : i < 100) {R' : Mem} (hgo : M_goOn R = some R') : M_told (i : Int) R = some ((i : Int), R') := by
  have h8 := (Tok_2 g.2.2.2.2.2).mpr rfl
  unfold M_told
  rw [gd_good g.2.1.1, bind_some', if_neg nz1, if_neg (not_not_intro h8), n32_nat (by omega), if_neg (by omega), bind_some', gd_good g.2.1.1, bind_some', if_pos nz1, hgo, bind_some', bind_some', if_neg (by omega)]
end PRIM
