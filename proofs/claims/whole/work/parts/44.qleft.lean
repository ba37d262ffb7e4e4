/-! ===== operations: left world sure judge truth ===== -/
section QL
variable {t b : Nat} {C R : Mem}
theorem W_sizeWith_eq (ht : isT t) (h0 : C 71 0 = (t : Int)) {wd : Nat} (hW : C t 6 = (wd : Int)) (hwd : wd ≤ 4) {c o L : Nat} (hL : aJ 80 c = (L : Int)) (ho : o + 4 ≤ L) : W_sizeWith c (o : Int) C = some ((cnt (fun w => sb C 73 0 w && sb C c o w) (64 * wd) : Nat) : Int) := by
  have L1 := it_for (body := W_sizeWith_b5 c (o : Int) C) (a := (0, 0)) (b := ((cnt (fun w => sb C 73 0 w && sb C c o w) (64 * wd) : Nat) : Int)) (fun i => (((cnt (fun w => sb C 73 0 w && sb C c o w) (64 * i) : Nat) : Int), (i : Int))) wd (by unfold FUEL; omega) rfl ?_ ?_
  · unfold W_sizeWith
    rw [L1]; rfl
  · intro i hi
    unfold W_sizeWith_b5
    dsimp only
    rw [h0, chk_pos (isTI_of rfl ht), lt1_eq, tn_nat, hW, n32_nat (by omega), n32_nat (by omega), if_pos (by omega), chk_pos (by omega), hL, chk_pos (by omega), tn_nat, tn_add, JL_bit, bind_some', lt1_eq, lt1_eq]
    have e : cnt (fun w => sb C 73 0 w && sb C c o w) (64 * (i + 1)) = cnt (fun w => sb C 73 0 w && sb C c o w) (64 * i) + cnt (qb (jand (C 73 i) (C c (o + i)))) 64 := by
      rw [show 64 * (i + 1) = 64 * i + 64 from by omega, cnt_add]
      congr 1
      refine cnt_congr (fun j hj => ?_)
      unfold sb
      rw [qb_and, show (64 * i + j) / 64 = i from by omega, show (64 * i + j) % 64 = j from by omega, Nat.zero_add]
    rw [e]
    rfl
  · unfold W_sizeWith_b5
    dsimp only
    rw [h0, chk_pos (isTI_of rfl ht), lt1_eq, tn_nat, hW, if_neg (by omega)]
theorem lfB_base {k : Int} {w : Nat} (h : lfB R b k w = true) : isB R w = true := by
  unfold lfB at h
  rw [Bool.and_eq_true] at h
  exact h.1
theorem W_sizeOf_eq (ht : isT t) (hT : Town t b C R) {k : Int} (hk : KnR t b k C R) {r : Nat} (hr : r < nR R b) : W_sizeOf (r : Int) C = some ((cnt (fun w => lfB R b k w && rowI R r w) (2 ^ nF R b) : Nat) : Int) := by
  obtain ⟨k0, -, -, -, k4, -⟩ := hk
  obtain ⟨h, hW, -, -, -, hB, hRo, -, -⟩ := hT
  have hF := num_F h
  have hR := num_R h
  have h3 := pow_wd hF.2.2
  unfold W_sizeOf
  rw [k0, chk_pos (isTI_of rfl ht), lt1_eq, tn_nat, show (r : Int) * 4 = ((4 * r : Nat) : Int) from by omega, W_sizeWith_eq ht k0 (wd := nwd (nF R b)) hW (by omega) (aJ1 ht).2.1 (by omega), bind_some']
  have e : ∀ w, w < 2 ^ nF R b → (sb C 73 0 w && sb C (t + 9) (4 * r) w) = (lfB R b k w && rowI R r w) := by
    intro w hw
    rw [k4 w (by omega)]
    cases hl : lfB R b k w with
    | false => rfl
    | true => rw [(hRo r w hr hw (lfB_base hl)).2]
  have e9 : cnt (fun w => sb C 73 0 w && sb C (t + 9) (4 * r) w) (64 * nwd (nF R b)) = cnt (fun w => lfB R b k w && rowI R r w) (2 ^ nF R b) := by
    rw [cnt_cut h3.1 (fun w h1 h2 => ?_), cnt_congr e]
    rw [k4 w h2]
    have : lfB R b k w = false := by
      unfold lfB isB
      rw [hB.2.1 w h1 (by omega)]
      rfl
    rw [this]
    rfl
  rw [e9]
theorem dummy44 : True := by
  trivial
/-
-/
/-- what findLeft leaves -/
def LfR (b : Nat) (k : Int) (R R' : Mem) : Prop := (∀ w, w < 2 ^ nF R b → R' 122 w = b1 (lfB R b k w)) ∧ R' 81 60 = ((cnt (lfB R b k) (2 ^ nF R b) : Nat) : Int) ∧ ∀ c j, ¬ (c = 115 ∨ c = 122 ∨ (c = 81 ∧ j = 60)) → R' c j = R c j
theorem M_soMany_eq (hb : b < 2) (h38 : R 81 38 = (b : Int)) (hT : Town t b C R) {k : Int} {R' : Mem} (hL : LfR b k R R') {r : Nat} (hr : r < nR R b) : M_soMany (r : Int) R' = some ((cnt (fun w => lfB R b k w && rowI R r w) (2 ^ nF R b) : Nat) : Int) := by
  obtain ⟨g1, g2, gf⟩ := hL
  have hSR : SameR R R' := SameR_of (fun c j q1 q2 q3 => gf c j (by omega))
  have hN : NumR t b C R' := (Town_keep hSR (fun _ _ _ _ => rfl) hT).1
  have h38' : R' 81 38 = (b : Int) := (gf _ _ (by omega)).trans h38
  obtain ⟨h, hW, -, -, -, hB, hRo, -, -⟩ := hT
  have hF := num_F h
  have hR := num_R h
  have h6 := two_pow8 hF.2.2
  have L := it_for (body := M_soMany_b4 (r : Int) R') (a := (0, 0)) (b := ((cnt (fun w => lfB R b k w && rowI R r w) (2 ^ nF R b) : Nat) : Int)) (fun i => (((cnt (fun w => lfB R b k w && rowI R r w) i : Nat) : Int), (i : Int))) (2 ^ nF R b) (by unfold FUEL; omega) rfl ?_ ?_
  · unfold M_soMany
    rw [L]; rfl
  · intro i hi
    unfold M_soMany_b4
    dsimp only
    rw [M_worldMany_eq hb h38' hN, bind_some', keep_nF hSR, n32_nat (by omega), n32_nat (by omega), if_pos (by omega), chk_pos (by omega), tn_nat, g1 i hi]
    show _ = some (Sum.inl (((cnt (fun w => lfB R b k w && rowI R r w) i + (if (lfB R b k i && rowI R r i) = true then 1 else 0) : Nat) : Int), _))
    cases hl : lfB R b k i with
    | false => rfl
    | true =>
      obtain ⟨k8, -⟩ := hRo r i hr hi (lfB_base hl)
      rw [if_pos (by decide)]
      unfold M_spot rowI
      rw [bind_some', chk_pos (by omega), tn_256, gf 112 _ (by omega)]
      rcases k8 with e | e <;> rw [e] <;> rfl
  · unfold M_soMany_b4
    dsimp only
    rw [M_worldMany_eq hb h38' hN, bind_some', keep_nF hSR, if_neg (by omega)]
/-! after both have looked -/
theorem looked (hI : Inv C R) {t b : Nat} (ht : isT t) (h12 : C 1 2 = (t : Int)) (hb : b < 2) (h38 : R 81 38 = (b : Int)) (hT : Town t b C R) (hS : Says t b C R) {k : Int} (hk : n32 k = k) : ∃ C' R', W_look t k C = some C' ∧ M_findLeft k R = some R' ∧ Inv C' R' ∧ KnR t b k C' R ∧ LfR b k R R' ∧ Town t b C' R ∧ (∀ c k, c ≤ 70 → C' c k = C c k) ∧ SameR R R' ∧ R' 81 38 = (b : Int) ∧ Inv C' R := by
  obtain ⟨C', e1, h1, h2⟩ := look_eq ht hT hS hk
  obtain ⟨R', e2, h3⟩ := left_eq hb h38 hT hS hk
  have hSR : SameR R R' := SameR_of (fun c j q1 q2 q3 => h3.2.2 c j (by omega))
  have hI1 : Inv C' R := Inv_q h2 (fun _ _ _ => rfl) hI
  refine ⟨C', R', e1, e2, ?_, h1, h3, Town_tw (fun c j q1 q2 => h2 c j (by unfold isT at ht; omega)) hT, h2, hSR, (h3.2.2 _ _ (by omega)).trans h38, hI1⟩
  refine Inv_q h2 (fun c j hp => h3.2.2 c j ?_) hI
  rintro (rfl | rfl | ⟨rfl, rfl⟩)
  · simp [prR] at hp
  · simp [prR] at hp
  · simp [prR] at hp
end QL
theorem op_left {C R : Mem} (h : Inv C R) {k : Int} (hk : n32 k = k) : ∃ v C' R', X_left k C = some (v, C') ∧ M_left k R = some (v, R') ∧ Inv C' R' := by
  have h0 := h
  obtain ⟨t, b, ht, h12, h13, hb, h38, -, -, -, -, hT, hS, -⟩ := h
  obtain ⟨C', R', e1, e2, hI, hK, hL, -⟩ := looked h0 ht h12 hb h38 hT hS hk
  unfold X_left M_left
  rw [h12, chk_pos (isTI_of rfl ht), lt1_eq, tn_nat, e1, e2, bind_some', bind_some', hK.2.2.2.2.2, hL.2.1]
  exact ⟨_, _, _, rfl, rfl, hI⟩
theorem op_sure {C R : Mem} (h : Inv C R) {r k : Int} (hr : n32 r = r) (hk : n32 k = k) : ∃ v C' R', X_sure r k C = some (v, C') ∧ M_sure r k R = some (v, R') ∧ Inv C' R' := by
  have h0 := h
  obtain ⟨t, b, ht, h12, h13, hb, h38, -, -, -, -, hT, hS, -⟩ := h
  obtain ⟨C', R', e1, e2, hI, hK, hL, hT1, hC, hSR, h38', hI1⟩ := looked h0 ht h12 hb h38 hT hS hk
  have hF := num_F hT.1
  have h6 := two_pow8 hF.2.2
  unfold X_sure M_sure
  rw [h12, chk_pos (isTI_of rfl ht), lt1_eq, tn_nat, e1, bind_some', hC _ _ (by omega), h12, chk_pos (isTI_of rfl ht), lt1_eq, tn_nat, T_hasRow_eq hT1.1 hr, bind_some', M_isRow_eq hb h38 hT.1 hr, bind_some', hK.2.2.2.2.2]
  by_cases q : 0 ≤ r ∧ r < (nR R b : Int)
  · rw [if_pos q, if_neg nz1, e2, bind_some', hL.2.1]
    obtain ⟨r, rfl⟩ : ∃ y : Nat, r = (y : Int) := ⟨r.toNat, by omega⟩
    rw [M_soMany_eq hb h38 hT hL (by omega), bind_some', W_sizeOf_eq ht hT1 hK (by omega), bind_some']
    have c1 := cnt_le (lfB R b k) (2 ^ nF R b)
    have c2 := cnt_le (fun w => lfB R b k w && rowI R r w) (2 ^ nF R b)
    rw [n32_nat (by omega), n32_nat (by omega)]
    generalize cnt (lfB R b k) (2 ^ nF R b) = x at *
    generalize cnt (fun w => lfB R b k w && rowI R r w) (2 ^ nF R b) = y at *
    by_cases q1 : x = 0
    · rw [if_pos (show n32 1 = 0 ∨ (x : Int) = 0 from Or.inr (by omega)), if_pos (show (x : Int) = 0 by omega)]
      exact ⟨_, _, _, rfl, rfl, hI⟩
    · rw [if_neg (show ¬ (n32 1 = 0 ∨ (x : Int) = 0) by rintro (z | z); exact nz1 z; omega), if_neg (show ¬ (x : Int) = 0 by omega)]
      by_cases q2 : y = x
      · have hh : (y : Int) = (x : Int) := by omega
        have hz : ¬ (y : Int) = 0 := by omega
        simp only [if_neg hz, if_pos hh]
        exact ⟨_, _, _, rfl, rfl, hI⟩
      · have hh : ¬ (y : Int) = (x : Int) := by omega
        simp only [if_neg hh]
        by_cases q3 : y = 0
        · have hz : (y : Int) = 0 := by omega
          simp only [if_pos hz]
          exact ⟨_, _, _, rfl, rfl, hI⟩
        · have hz : ¬ (y : Int) = 0 := by omega
          simp only [if_neg hz]
          exact ⟨_, _, _, rfl, rfl, hI⟩
  · rw [if_neg q, if_pos (Or.inl (show n32 0 = 0 by decide)), if_pos (show n32 0 = 0 by decide)]
    exact ⟨_, _, _, rfl, rfl, hI1⟩
theorem op_world {C R : Mem} (h : Inv C R) {i k : Int} (hi : n32 i = i) (hk : n32 k = k) : ∃ v C' R', X_world i k C = some (v, C') ∧ M_world i k R = some (v, R') ∧ Inv C' R' := by
  have h0 := h
  obtain ⟨t, b, ht, h12, h13, hb, h38, -, -, -, -, hT, hS, -⟩ := h
  obtain ⟨C', R', e1, e2, hI, hK, hL, hT1, hC, hSR, h38', hI1⟩ := looked h0 ht h12 hb h38 hT hS hk
  have hF := num_F hT.1
  have h6 := two_pow8 hF.2.2
  have h3 := pow_wd hF.2.2
  have hN' : NumR t b C' R' := (Town_keep hSR (fun _ _ _ _ => rfl) hT1).1
  have h12' : C' 1 2 = (t : Int) := (hC _ _ (by omega)).trans h12
  have c1 := cnt_le (lfB R b k) (2 ^ nF R b)
  unfold X_world M_world
  rw [h12, chk_pos (isTI_of rfl ht), lt1_eq, tn_nat, e1, bind_some', e2, bind_some', hi, hK.2.2.2.2.2, n32_nat (by omega)]
  by_cases q0 : i < 0
  · rw [if_pos (Or.inl q0)]
    have L := it_last (body := M_world_b10 R') (a := (i, 0)) (b := .inl ()) (f := FUEL - 1) (by
      unfold M_world_b10
      dsimp only
      rw [M_worldMany_eq hb h38' hN', bind_some', hi, if_neg (by omega)])
    rw [show it (M_world_b10 R') FUEL (i, 0) = some (.inl ()) from L]
    exact ⟨_, _, _, rfl, rfl, hI⟩
  · obtain ⟨i, rfl⟩ : ∃ y : Nat, i = (y : Int) := ⟨i.toNat, by omega⟩
    have hi2 := ineg_lt hi
    have S2 := it_seekS (body := M_world_b10 R') (fun w => ((i : Int) - ((cnt (lfB R b k) w : Nat) : Int), (w : Int))) (p := fun w => lfB R b k w && decide (cnt (lfB R b k) w = i)) (v := fun w => ((w : Int), R')) (2 ^ nF R b) (by unfold FUEL; omega) ?_ ?_ ?_
    · rw [show ((i : Int) - ((cnt (lfB R b k) 0 : Nat) : Int), ((0 : Nat) : Int)) = ((i : Int), (0 : Int)) from by simp [cnt]] at S2
      have S1 := it_seekS (body := X_world_b38 (i : Int) C') (fun w => (((cnt (lfB R b k) w : Nat) : Int), (w : Int))) (p := fun w => lfB R b k w && decide (cnt (lfB R b k) w = i)) (v := fun w => ((w : Int), C')) (2 ^ nF R b) (by unfold FUEL; omega) ?_ ?_ ?_
      · rw [show (((cnt (lfB R b k) 0 : Nat) : Int), ((0 : Nat) : Int)) = ((0 : Int), (0 : Int)) from rfl] at S1
        cases ha : anyB (fun w => lfB R b k w && decide (cnt (lfB R b k) w = i)) (2 ^ nF R b) with
        | false =>
          rw [S2.1 ha, S1.1 ha]
          split
          · exact ⟨_, _, _, rfl, rfl, hI⟩
          · exact ⟨_, _, _, rfl, rfl, hI⟩
        | true =>
          obtain ⟨w, w1, w2, w3, w4⟩ := S2.2 ha
          obtain ⟨v, v1, v2, v3, v4⟩ := S1.2 ha
          have e : v = w := by
            rcases Nat.lt_trichotomy v w with z | z | z
            · rw [w3 v z] at v2; cases v2
            · exact z
            · rw [v3 w z] at w2; cases w2
          subst e
          rw [Bool.and_eq_true] at v2
          have := cnt_lt (p := lfB R b k) v1 v2.1
          have e3 : cnt (lfB R b k) v = i := of_decide_eq_true v2.2
          rw [v4, w4, if_neg (by omega)]
          exact ⟨_, _, _, rfl, rfl, hI⟩
      all_goals (try intro w hw hj hp)
      · rw [Bool.and_eq_true] at hp
        have e3 : cnt (lfB R b k) w = i := of_decide_eq_true hp.2
        unfold X_world_b38
        dsimp only
        have e5 := X_has_eq (c := 73) (o := 0) (w := w) C' aJ73 (by omega) (by omega)
        rw [show ((0 : Nat) : Int) = 0 from rfl] at e5
        rw [h12', chk_pos (isTI_of rfl ht), lt1_eq, tn_nat, (num_F hT1.1).2.1, ishl_1 (by omega), n32_nat (by omega), n32_nat (by omega), if_pos (by omega), e5, bind_some', jn_eq, hK.2.2.2.2.1 w (by omega), hp.1, if_pos rfl, if_pos nz1, e3, if_pos rfl]
      · have cw := cnt_le (lfB R b k) w
        unfold X_world_b38
        dsimp only
        have e5 := X_has_eq (c := 73) (o := 0) (w := w) C' aJ73 (by omega) (by omega)
        rw [show ((0 : Nat) : Int) = 0 from rfl] at e5
        rw [h12', chk_pos (isTI_of rfl ht), lt1_eq, tn_nat, (num_F hT1.1).2.1, ishl_1 (by omega), n32_nat (by omega), n32_nat (by omega), if_pos (by omega), e5, bind_some', jn_eq, hK.2.2.2.2.1 w (by omega)]
        have ec : cnt (lfB R b k) (w + 1) = cnt (lfB R b k) w + (if lfB R b k w = true then 1 else 0) := rfl
        cases hl : lfB R b k w with
        | false =>
          rw [if_neg (by decide), ec, hl]
          rfl
        | true =>
          rw [hl, Bool.true_and] at hp
          have hne : ¬ cnt (lfB R b k) w = i := of_decide_eq_false hp
          rw [if_pos rfl, if_pos nz1, n32_nat (by omega), hi, if_neg (by omega), lt1_eq, ec, hl]
          rfl
      · intro _
        unfold X_world_b38
        dsimp only
        rw [h12', chk_pos (isTI_of rfl ht), lt1_eq, tn_nat, (num_F hT1.1).2.1, ishl_1 (by omega), if_neg (by omega)]
    · intro w hw hj hp
      rw [Bool.and_eq_true] at hp
      have e3 : cnt (lfB R b k) w = i := of_decide_eq_true hp.2
      unfold M_world_b10
      dsimp only
      rw [M_worldMany_eq hb h38' hN', bind_some', keep_nF hSR, n32_nat (by omega), n32_nat (by omega), e3, Int.sub_self, if_pos ⟨by omega, by decide⟩, chk_pos (by omega), jn_eq, tn_nat, hL.1 w hw, hp.1, if_neg (by decide), if_pos (by decide)]
    · intro w hw hj hp
      have cw := cnt_le (lfB R b k) w
      have hle : cnt (lfB R b k) w ≤ i := by
        rcases Nat.lt_or_ge i (cnt (lfB R b k) w) with z | z
        · exfalso
          obtain ⟨m1, m2, m3⟩ := clG_mem (p := lfB R b k) z
          have := hj _ m1
          rw [m2, Bool.true_and] at this
          exact of_decide_eq_false this m3
        · exact z
      unfold M_world_b10
      dsimp only
      rw [M_worldMany_eq hb h38' hN', bind_some', keep_nF hSR, n32_nat (by omega), n32_nat (by omega), n32_of (a := (i : Int) - _) (by omega) (by omega), if_pos ⟨by omega, by omega⟩, chk_pos (by omega), jn_eq, tn_nat, hL.1 w hw]
      have ec : cnt (lfB R b k) (w + 1) = cnt (lfB R b k) w + (if lfB R b k w = true then 1 else 0) := rfl
      cases hl : lfB R b k w with
      | false =>
        rw [if_pos (by decide), ec, hl]
        rfl
      | true =>
        rw [hl, Bool.true_and] at hp
        have hne : ¬ cnt (lfB R b k) w = i := of_decide_eq_false hp
        rw [if_neg (by decide), if_neg (by omega), lt1_eq, ec, hl]
        show some (Sum.inl ((i : Int) - ((cnt (lfB R b k) w : Nat) : Int) + -1, (w : Int) + 1)) = some (Sum.inl ((i : Int) - ((cnt (lfB R b k) w + 1 : Nat) : Int), ((w + 1 : Nat) : Int)))
        rw [show (i : Int) - ((cnt (lfB R b k) w : Nat) : Int) + -1 = (i : Int) - ((cnt (lfB R b k) w + 1 : Nat) : Int) from by omega]
        rfl
    · intro _
      unfold M_world_b10
      dsimp only
      rw [M_worldMany_eq hb h38' hN', bind_some', keep_nF hSR, if_neg (by omega)]
