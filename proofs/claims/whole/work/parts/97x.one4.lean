/-! ===== expressions: one, all of it ===== -/
section ONE4
variable {t b n s0 bare : Nat} {C0 R0 C R : Mem}
theorem ior01 {x y : Int} (hx : x = 0 ∨ x = 1) (hy : y = 0 ∨ y = 1) : ior' x y = (if y = 1 then 1 else x) := by
  rcases hx with rfl | rfl <;> rcases hy with rfl | rfl <;> decide
theorem one_name (hEnv : EnvX 0 t b n bare C0 R0) {k d u s h m p : Nat} (hd : d ≤ 7) (hu : u < 80) (hX : XS t b s0 C0 R0 u s m d C R) (hH : XHm 0 bare h C R) (hh : h ≤ 1) (g : Gd n 21 p C R) (hm : m ≤ 4 + 4 * d) (hs9 : s ≤ 9 * u) : OneG t b n s0 bare C0 R0 k d u s h m p C R := by
  have ht := hEnv.2.1.1.1
  have ht2 : t = 3 ∨ t = 15 := ht
  obtain ⟨e27, e39, hb, e43, e37, e92, e14, e44⟩ := XS_at hEnv hX
  obtain ⟨⟨y1, y2, y3⟩, y4⟩ := hEnv.2.2.2.2 rfl
  have hB := XF_TB hEnv.1 ht hX.1
  have hF8 := hEnv.2.1.2.1.2.2
  have hR12 := hEnv.2.1.2.2.2.1.2.2
  have hm1 := hX.2.2.1.1
  have hXu := XS_up ht hX hu
  have hNu := XF_HN hEnv.2.1 hXu.1
  have gu : Gd n 21 p (up C t 5 ((u + 1 : Nat) : Int)) (up R 90 b ((u + 1 : Nat) : Int)) := Gd_same g (fun k => up_c (by omega)) (fun k => up_c (by omega)) (fun k z1 z2 => up_c (by decide))
  obtain ⟨⟨v, v1, v2, v3⟩, -, ⟨w, w1, w2, w3⟩⟩ := foundN hNu on_self gu.2.2.2.2.2
  have enF : nF (up R 90 b ((u + 1 : Nat) : Int)) b = nF R0 b := by
    unfold nF
    rw [hXu.1.2 84 b (by omega)]
  have enR : nR (up R 90 b ((u + 1 : Nat) : Int)) b = nR R0 b := by
    unfold nR
    rw [hXu.1.2 86 b (by omega)]
  rw [enF] at v3
  rw [enR] at w3
  obtain ⟨un1, un2, un3⟩ := unit_name hB g e39 hb hX.2.1.1.2.1 hu (e44.trans y2) y3 hX.2.1.2.1.2.1 (s := s) (by omega) v2 w2
  have tk := takes_ok ht g e27 hX.2.1.1.1 hu hd (Or.inl (by decide))
  have e4 : n32 (C 40 4) = 21 := Tok_4 g.2.2.2.2.2
  obtain ⟨hH1, hH2⟩ := hH rfl
  have hs28 := hX.2.1.2.1.1
  generalize hC1 : up C t 5 ((u + 1 : Nat) : Int) = C1 at v1 w1 tk hXu gu
  have c1 : ∀ a k, ¬ (a = t ∧ k = 5) → C1 a k = C a k := fun a k z => by rw [← hC1, up_at, if_neg z]
  have c1t : C1 t 5 = ((u + 1 : Nat) : Int) := by rw [← hC1, up_eq]
  have hs28' : C1 28 1 = (s : Int) := (c1 _ _ (by omega)).trans hs28
  have hs720 : s < 720 := by omega
  have hx45 : (if n32 (R 81 45) = 0 then (0 : Int) else 1) = 0 ∨ (if n32 (R 81 45) = 0 then (0 : Int) else 1) = 1 := by
    split
    · exact Or.inl rfl
    · exact Or.inr rfl
  have hh45 : bare = 0 → C 27 15 = (h : Int) ∧ n32 (R 81 45) = (h : Int) := fun z => ⟨(hH2 z).1, by rw [(hH2 z).2.1, n32_nat (by omega)]⟩
  have enm1 : n32 (-1) = -1 := by decide
  rcases v3 with rfl | ⟨i, hi, rfl⟩
  · rcases w3 with rfl | ⟨r, hr, rfl⟩
    · -- no such name
      have hstep := e_unit g.2.1.1 hX.2.1.2.2.1 (by omega) (by omega) e43
      rw [un3 rfl (Or.inl rfl), bind_some'] at hstep
      have gf := gd_failC gu 5
      have bp := bk_pass (C := failC C1 5) failC_at.1
      obtain ⟨-, -, -, -, ⟨e, z1, z2, -⟩, -⟩ := id g
      have hn := hB.1
      refine ⟨failC C1 5, ?_, Or.inr (unit_fail2 (md := 0) hX ⟨_, hXu⟩ rfl (by decide) (by decide) (by omega) gu.2.2.1 gu.2.2.2.1 (up_c (by decide)) hstep)⟩
      show N_readOne_s (N_readOne k) (d : Int) C = _
      unfold N_readOne_s N_readUnit
      simp only [e4, tk, v1, w1, enm1, gf, bp, bind_some', jn_eq, n32_0, n32_1, lt1_eq, reduceIte, not_true, not_false_eq_true, and_true, true_and, or_true, true_or, false_or, or_false, and_false, false_and, Bool.false_eq_true, Nat.reduceEqDiff, Int.reduceEq, Int.reduceNeg, Int.reduceLT, Int.reduceLE, and_self, or_self]
    · -- a row
      have hy := y4 r hr
      obtain ⟨hy1, hy2⟩ := hy
      have e37' : C1 37 r = C0 37 r := (c1 _ _ (by omega)).trans (e37 r)
      have hc12 : 0 ≤ (r : Int) ∧ (r : Int) < 12 := by omega
      have hnr : ¬ n32 (r : Int) = -1 := by rw [n32_nat (by omega)]; omega
      have e14' : C1 27 14 = (bare : Int) := ((c1 _ _ (by omega)).trans e14).trans y1
      have e15' : C1 27 15 = C 27 15 := c1 _ _ (by omega)
      have hbb : bare = 0 ∨ bare = 1 := by omega
      by_cases hbad : bare = 1 ∧ C0 37 r = 1
      · have hstep := e_unit g.2.1.1 hX.2.1.2.2.1 (by omega) (by omega) e43
        rw [un3 rfl (Or.inr ⟨r, rfl, by omega, hbad.1, by rw [e92, hy2]; exact hbad.2⟩), bind_some'] at hstep
        have gf := gd_failC gu 5
        have bp := bk_pass (C := failC C1 5) failC_at.1
        obtain ⟨-, -, -, -, ⟨e, z1, z2, -⟩, -⟩ := id g
        have hn := hB.1
        have h14 : ¬ n32 (C1 27 14) = 0 := by rw [e14', hbad.1]; decide
        have h37 : ¬ n32 (C1 37 (Int.toNat (r : Int))) = 0 := by rw [tn_nat, e37', hbad.2]; decide
        refine ⟨failC C1 5, ?_, Or.inr (unit_fail2 (md := 0) hX ⟨_, hXu⟩ rfl (by decide) (by decide) (by omega) gu.2.2.1 gu.2.2.2.1 (up_c (by decide)) hstep)⟩
        show N_readOne_s (N_readOne k) (d : Int) C = _
        unfold N_readOne_s N_readUnit
        simp only [e4, tk, v1, w1, enm1, hnr, h14, h37, chk_pos hc12, gf, bp, bind_some', jn_eq, n32_0, n32_1, lt1_eq, reduceIte, not_true, not_false_eq_true, and_true, true_and, or_true, true_or, false_or, or_false, and_false, false_and, Bool.false_eq_true, Nat.reduceEqDiff, Int.reduceEq, Int.reduceNeg, Int.reduceLT, Int.reduceLE, and_self, or_self]
      · obtain ⟨y, hyn, hyy⟩ : ∃ y : Nat, y ≤ 1 ∧ C0 37 r = (y : Int) := by
          rcases hy1 with z | z
          · exact ⟨0, by omega, z⟩
          · exact ⟨1, by omega, z⟩
        have hnb : ¬ (bare = 1 ∧ y = 1) := fun z => hbad ⟨z.1, by rw [hyy, z.2]; rfl⟩
        have hior := ior01 (x := C1 27 15) (y := C1 37 r) (by rw [e15']; exact hH1) (by rw [e37']; exact hy1)
        have hior01 : ior' (C1 27 15) (C1 37 r) = 0 ∨ ior' (C1 27 15) (C1 37 r) = 1 := by
          rw [hior]
          split
          · exact Or.inr rfl
          · rw [e15']; exact hH1
        generalize hV : ior' (C1 27 15) (C1 37 r) = V at hior hior01
        have hadd := add_eq (C := up C1 27 15 V) (s := s) (by rw [up_c (by decide)]; exact hs28') hs720 5 r (by decide) (by omega)
        generalize hC2 : up (up (up C1 27 15 V) 29 s ((256 * r + 5 : Nat) : Int)) 28 1 ((s + 1 : Nat) : Int) = C2 at hadd
        have c215 : C2 27 15 = V := by rw [← hC2, up_c (by decide), up_c (by decide), up_eq]
        refine name_tail hEnv hd (h' := if y = 1 then 1 else h) (c := 2) (o := r) (x := if n32 (R 81 45) = 0 then (y : Int) else 1) (C2 := C2) hX hu g hm hs9 (fun a k z1 z2 z3 z4 => ?_) ?_ ?_ ?_ (Or.inr ⟨rfl, hr, fun z => ?_⟩) ?_ (by rw [c215]; exact hior01) (fun z => ?_) ?_ ?_ (fun C3 z => ?_) (fun R1 z => un2 r y R1 rfl rfl (by omega) (by rw [e92, hy2, hyy]) hyn hnb z)
        · rw [← hC2, up_at, if_neg (by omega), up_at, if_neg (by omega), up_at, if_neg (by omega), c1 a k (by omega)]
        · rw [← hC2, up_eq]
        · rw [← hC2, up_at, if_neg (by omega), up_at, if_neg (by omega), up_at, if_neg (by omega), c1t]
        · rw [← hC2, up_c (by decide), up_eq]
          rfl
        · have hy11 : y = 1 := by omega
          rw [if_pos hy11]
          exact ⟨rfl, by omega⟩
        · split
          · rcases hy1 with q | q
            · exact Or.inl (by omega)
            · exact Or.inr (by omega)
          · exact Or.inr rfl
        · obtain ⟨h1, h2⟩ := hh45 z
          rw [c215, hior, h2, e37', hyy, e15', h1]
          have hy01 : y = 0 ∨ y = 1 := by omega
          have hh01 : h = 0 ∨ h = 1 := by omega
          rcases hy01 with rfl | rfl <;> rcases hh01 with rfl | rfl <;> exact ⟨rfl, rfl⟩
        · split <;> omega
        · split <;> omega
        · have h14 : bare = 1 → n32 (C1 37 (Int.toNat (r : Int))) = 0 := fun q => by
            have : y = 0 := by omega
            rw [tn_nat, e37', hyy, this]
            rfl
          have hcc : ior' (C1 27 15) (C1 37 (Int.toNat (r : Int))) = 0 ∨ ior' (C1 27 15) (C1 37 (Int.toNat (r : Int))) = 1 := by rw [tn_nat, hV]; exact hior01
          have hVV : up C1 27 15 (ior' (C1 27 15) (C1 37 (Int.toNat (r : Int)))) = up C1 27 15 V := by rw [tn_nat, hV]
          have hadd' : S_add 5 (r : Int) (up C1 27 15 V) = some C2 := hadd
          show N_readOne_s (N_readOne k) (d : Int) C = _
          unfold N_readOne_s N_readUnit
          rcases hbb with q | q
          · have h14 : n32 (C1 27 14) = 0 := by rw [e14', q]; rfl
            simp only [e4, tk, v1, w1, enm1, hnr, h14, chk_pos hc12, chk_pos hcc, hVV, hadd', z, bind_some', jn_eq, n32_0, n32_1, lt1_eq, reduceIte, not_true, not_false_eq_true, and_true, true_and, or_true, true_or, false_or, or_false, and_false, false_and, Bool.false_eq_true, Nat.reduceEqDiff, Int.reduceEq, Int.reduceNeg, Int.reduceLT, Int.reduceLE, and_self, or_self]
          · have h15 : ¬ n32 (C1 27 14) = 0 := by rw [e14', q]; decide
            simp only [e4, tk, v1, w1, enm1, hnr, h15, h14 q, chk_pos hc12, chk_pos hcc, hVV, hadd', z, bind_some', jn_eq, n32_0, n32_1, lt1_eq, reduceIte, not_true, not_false_eq_true, and_true, true_and, or_true, true_or, false_or, or_false, and_false, false_and, Bool.false_eq_true, Nat.reduceEqDiff, Int.reduceEq, Int.reduceNeg, Int.reduceLT, Int.reduceLE, and_self, or_self]
  · -- a fact
    clear w3
    have hadd := add_eq hs28' hs720 1 i (by decide) (by omega)
    have hni : ¬ n32 (i : Int) = -1 := by rw [n32_nat (by omega)]; omega
    generalize hC2 : up (up C1 29 s ((256 * i + 1 : Nat) : Int)) 28 1 ((s + 1 : Nat) : Int) = C2 at hadd
    have c215 : C2 27 15 = C 27 15 := by rw [← hC2, up_c (by decide), up_c (by decide), c1 _ _ (by omega)]
    refine name_tail hEnv hd (h' := h) (c := 1) (o := i) (x := if n32 (R 81 45) = 0 then 0 else 1) (C2 := C2) hX hu g hm hs9 (fun a k z1 z2 z3 z4 => ?_) ?_ ?_ ?_ (Or.inl ⟨rfl, hi⟩) hx45 (by rw [c215]; exact hH1) (fun z => ?_) hh (Nat.le_refl _) (fun C3 z => ?_) (fun R1 z => un1 i R1 rfl (by omega) z)
    · rw [← hC2, up_at, if_neg (by omega), up_at, if_neg (by omega), c1 a k (by omega)]
    · rw [← hC2, up_eq]
    · rw [← hC2, up_at, if_neg (by omega), up_at, if_neg (by omega), c1t]
    · rw [← hC2, up_c (by decide), up_eq]
      rfl
    · obtain ⟨h1, h2⟩ := hh45 z
      rw [c215, h1, h2]
      have hh01 : h = 0 ∨ h = 1 := by omega
      rcases hh01 with rfl | rfl <;> exact ⟨rfl, rfl⟩
    · have hadd' : S_add 1 (i : Int) C1 = some C2 := hadd
      show N_readOne_s (N_readOne k) (d : Int) C = _
      unfold N_readOne_s N_readUnit
      simp only [e4, tk, v1, w1, hni, hadd', z, bind_some', jn_eq, n32_0, n32_1, lt1_eq, reduceIte, not_true, not_false_eq_true, and_true, true_and, or_true, true_or, false_or, or_false, and_false, false_and, Bool.false_eq_true, Nat.reduceEqDiff, Int.reduceEq, Int.reduceNeg, Int.reduceLT, Int.reduceLE, and_self, or_self]
theorem one_sim (hEnv : EnvX 0 t b n bare C0 R0) : ∀ (e d : Nat), d + e = 7 → SimG 0 t b n s0 bare C0 R0 d (4 + 4 * d) (3 * (7 - d) + 1) (1 + d) TpA ExN 0 (N_readOne (e + 3) (d : Int)) := by
  intro e
  induction e with
  | zero =>
    intro d hde C R u s h m kd p hX hH hh g hm hT hs9
    have hu := hX.2.1.1.2.2
    obtain ⟨⟨y1, y2, y3⟩, y4⟩ := hEnv.2.2.2.2 rfl
    by_cases q : kd = 21 ∧ u < 80
    · obtain ⟨rfl, q2⟩ := q
      exact one_name hEnv (by omega) q2 hX hH hh g hm hs9
    · exact one_bad hEnv (by omega) hX g hm (by omega)
  | succ e ih =>
    intro d hde C R u s h m kd p hX hH hh g hm hT hs9
    have hu := hX.2.1.1.2.2
    obtain ⟨⟨y1, y2, y3⟩, y4⟩ := hEnv.2.2.2.2 rfl
    have hsub := ih (d + 1) (by omega)
    by_cases q1 : kd = 15
    · subst q1
      exact one_not hEnv (by omega) hsub (by omega) hX hH hh g hm hs9
    · by_cases q2 : (kd = 16 ∨ kd = 17) ∧ bare = 0
      · exact one_mind hEnv (by omega) q2.1 q2.2 hsub (by omega) hX hh g hm hs9
      · by_cases q3 : kd = 40 ∧ u < 80
        · obtain ⟨rfl, q4⟩ := q3
          exact one_open hEnv (by omega) q4 hsub (by omega) hX hH hh g hm hs9
        · by_cases q5 : kd = 21 ∧ u < 80
          · obtain ⟨rfl, q6⟩ := q5
            exact one_name hEnv (by omega) q6 hX hH hh g hm hs9
          · exact one_bad hEnv (by omega) hX g hm (by omega)
end ONE4
