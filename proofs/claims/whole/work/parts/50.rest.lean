/-! ===== operation: rest ===== -/
def wvC (C : Mem) (t p r : Nat) : Int := C (t + 7) (12 * p + r)
def gmC (C R : Mem) (t b w i : Nat) : Nat → Int
  | 0 => 0
  | r + 1 => if (¬ wvC C t (tOne R b i) r = -1 ∧ ¬ wvC C t (tTwo R b i) r = -1) ∧ rowI R r w = false then (if gmC C R t b w i r < wvC C t (tOne R b i) r + wvC C t (tTwo R b i) r then wvC C t (tOne R b i) r + wvC C t (tTwo R b i) r else gmC C R t b w i r) else gmC C R t b w i r
def gnC (C R : Mem) (t b w i : Nat) : Int := gmC C R t b w i (nR R b) - 2 * R 100 (12 * b + i)
def rst (R : Mem) (b : Nat) (g : Nat → Int) : Nat → Nat × Int
  | 0 => (0, 0)
  | n + 1 => if apB R b n = true ∧ (rst R b g n).2 < sumG g n (nT R b) then (n, sumG g n (nT R b)) else rst R b g n
section REST
variable {t b : Nat} {C R : Mem}
theorem wv_rng (hW : WishR t b C R) {p r : Nat} (hp : p < nP R b) (hr : r < nR R b) : -1 ≤ wvC C t p r ∧ wvC C t p r ≤ 99 := by
  obtain ⟨w1, w2⟩ := hW
  obtain ⟨w3, w4⟩ := w2 p r hp hr
  unfold wvC
  cases hh : anyB (fun k => decide (R 101 (12 * b + k) = (p : Int)) && decide (R 102 (12 * b + k) = (r : Int))) (nW R b) with
  | true =>
    obtain ⟨k, k1, k2⟩ := anyB_iff.mp hh
    simp only [Bool.and_eq_true, decide_eq_true_eq] at k2
    have := w3 k k1 k2.1 k2.2
    have := w1 k k1
    omega
  | false =>
    have := w4 (fun k hk h => by
      have := anyB_no.mp hh k hk
      rw [decide_eq_true h.1, decide_eq_true h.2] at this
      cases this)
    omega
theorem M_wished_eq (hb : b < 2) (h38 : R 81 38 = (b : Int)) (h : NumR t b C R) (hW : WishR t b C R) {p r : Nat} (hp : p < nP R b) (hr : r < nR R b) : M_wished (p : Int) (r : Int) R = some (wvC C t p r) := by
  have hWn := num_W h
  have hP := num_P h
  have hR := num_R h
  obtain ⟨w1, w2⟩ := hW
  obtain ⟨w3, w4⟩ := w2 p r hp hr
  have hbody : ∀ i : Nat, 12 * b ≤ i → i < 12 * b + nW R b → M_wished_b8 (p : Int) (r : Int) R (i : Int) = if (decide (R 101 i = (p : Int)) && decide (R 102 i = (r : Int))) = true then some (.inr (.inr (R 103 i))) else some (.inl ((i : Int) + 1)) := by
    intro i h1 h2
    obtain ⟨j, rfl⟩ := Nat.exists_eq_add_of_le h1
    obtain ⟨k1, k2, k3, k4, k5, k6⟩ := w1 j (by omega)
    unfold M_wished_b8
    dsimp only
    rw [h38, chk_pos (by omega), tn_nat, hWn.1, n32_nat (by omega), n32_of (by omega) (by omega), if_pos (by omega), chk_pos (by omega), tn_nat, n32_of (a := R 101 (12 * b + j)) (by omega) (by omega), n32_of (a := R 102 (12 * b + j)) (by omega) (by omega), n32_nat (a := p) (by omega), n32_nat (a := r) (by omega)]
    by_cases q1 : R 101 (12 * b + j) = (p : Int)
    · rw [if_pos q1, decide_eq_true q1]
      by_cases q2 : R 102 (12 * b + j) = (r : Int)
      · rw [if_pos q2, decide_eq_true q2]; rfl
      · rw [if_neg q2, decide_eq_false q2]; rfl
    · rw [if_neg q1, decide_eq_false q1]; rfl
  have S := it_seek (body := M_wished_b8 (p : Int) (r : Int) R) (p := fun i => decide (R 101 i = (p : Int)) && decide (R 102 i = (r : Int))) (v := fun i => R 103 i) (12 * b) (12 * b + nW R b) (fun i h1 h2 hq => by rw [hbody i h1 h2, if_pos hq]) (fun i h1 h2 hq => by rw [hbody i h1 h2, if_neg (by rw [hq]; decide)]) ?_ (nW R b) (12 * b) FUEL (Nat.le_refl _) rfl (by unfold FUEL; omega)
  · unfold M_wished
    rw [h38, lt1_eq, show 12 * (b : Int) = ((12 * b : Nat) : Int) from by omega]
    cases ha : anyB (fun i => decide (R 101 (12 * b + i) = (p : Int)) && decide (R 102 (12 * b + i) = (r : Int))) (nW R b) with
    | false =>
      have e := w4 (fun k hk h => by
        have := anyB_no.mp ha k hk
        rw [decide_eq_true h.1, decide_eq_true h.2] at this
        cases this)
      rw [S.1 ha]
      unfold wvC
      rw [e]; rfl
    | true =>
      obtain ⟨i, i1, i2, i3, -, q⟩ := S.2 ha
      obtain ⟨j, rfl⟩ := Nat.exists_eq_add_of_le i1
      simp only [Bool.and_eq_true, decide_eq_true_eq] at i3
      have e := w3 j (by omega) i3.1 i3.2
      rw [q]
      unfold wvC
      rw [e]; rfl
  · unfold M_wished_b8
    dsimp only
    rw [h38, chk_pos (by omega), tn_nat, hWn.1, n32_nat (by omega), n32_of (by omega) (by omega), if_neg (by omega)]
theorem gm_rng (hT : Town t b C R) {w i : Nat} (hi : i < nT R b) : ∀ r, r ≤ nR R b → 0 ≤ gmC C R t b w i r ∧ gmC C R t b w i r ≤ 198
  | 0, _ => by show (0 : Int) ≤ 0 ∧ (0 : Int) ≤ 198; decide
  | r + 1, h => by
    have ih := gm_rng hT (w := w) hi r (by omega)
    obtain ⟨-, ⟨-, k4⟩, ⟨-, k6⟩, -⟩ := hT.2.2.2.1.1 i hi
    have h1 := wv_rng hT.2.2.2.2.1 k4 (show r < nR R b by omega)
    have h2 := wv_rng hT.2.2.2.2.1 k6 (show r < nR R b by omega)
    unfold gmC
    split
    · split <;> omega
    · exact ih
theorem gn_rng (hT : Town t b C R) {w i : Nat} (hi : i < nT R b) : -198 ≤ gnC C R t b w i ∧ gnC C R t b w i ≤ 198 := by
  have h1 := gm_rng hT (w := w) hi _ (Nat.le_refl _)
  obtain ⟨-, -, -, -, h2, h3⟩ := hT.2.2.2.1.1 i hi
  unfold gnC
  omega
theorem sumG_rng (hT : Town t b C R) (w s : Nat) : ∀ n, n ≤ nT R b → -198 * (n : Int) ≤ sumG (gnC C R t b w) s n ∧ sumG (gnC C R t b w) s n ≤ 198 * (n : Int)
  | 0, _ => by show -198 * ((0 : Nat) : Int) ≤ 0 ∧ (0 : Int) ≤ 198 * ((0 : Nat) : Int); decide
  | n + 1, h => by
    have ih := sumG_rng hT w s n (by omega)
    have h1 := gn_rng hT (w := w) (show n < nT R b by omega)
    show _ ≤ sumG (gnC C R t b w) s n + (if s.testBit n then gnC C R t b w n else 0) ∧ sumG (gnC C R t b w) s n + (if s.testBit n then gnC C R t b w n else 0) ≤ _
    split <;> push_cast <;> omega
theorem T_mostWished_eq (ht : isT t) (hT : Town t b C R) {M : Mem} (hM : ∀ c k, c ≤ 70 → M c k = C c k) {w i : Nat} (hi : i < nT R b) (hw : w < 2 ^ nF R b) (hwb : isB R w = true) : T_mostWished t (i : Int) (w : Int) M = some (gmC C R t b w i (nR R b)) := by
  have hP := num_P hT.1
  have hR := num_R hT.1
  have ht2 : t ≤ 15 := by unfold isT at ht; omega
  have hTM : Town t b M R := Town_tw (fun c k q1 q2 => hM c k (by omega)) hT
  have L := it_for (body := T_mostWished_b5 t (i : Int) (w : Int) M) (a := (0, 0)) (b := gmC C R t b w i (nR R b)) (fun r => (gmC C R t b w i r, (r : Int))) (nR R b) (by unfold FUEL; omega) rfl ?_ ?_
  · unfold T_mostWished
    rw [L]; rfl
  · intro r hr
    have ih := gm_rng hT (w := w) hi r (by omega)
    have hTn := num_T hT.1
    obtain ⟨⟨k1, k2, -⟩, ⟨k3, k4⟩, ⟨k5, k6⟩, -⟩ := hT.2.2.2.1.1 i hi
    have h1 := wv_rng hT.2.2.2.2.1 k4 hr
    have h2 := wv_rng hT.2.2.2.2.1 k6 hr
    have hnx : gmC C R t b w i (r + 1) = if (¬ wvC C t (tOne R b i) r = -1 ∧ ¬ wvC C t (tTwo R b i) r = -1) ∧ rowI R r w = false then (if gmC C R t b w i r < wvC C t (tOne R b i) r + wvC C t (tTwo R b i) r then wvC C t (tOne R b i) r + wvC C t (tTwo R b i) r else gmC C R t b w i r) else gmC C R t b w i r := rfl
    unfold T_mostWished_b5
    dsimp only
    rw [hM t _ (by omega), hR.2.1, n32_nat (by omega), n32_nat (by omega), if_pos (by omega), chk_pos (by omega), tn_nat, hM (t + 4) _ (by omega), hM (t + 5) _ (by omega), k1, k2, show R 98 (12 * b + i) = (tOne R b i : Int) from by unfold tOne; omega, show R 99 (12 * b + i) = (tTwo R b i : Int) from by unfold tTwo; omega, chk_pos (by omega), lt1_eq, chk_pos (by omega), lt1_eq, show Int.toNat ((tOne R b i : Int) * 12 + (r : Int)) = 12 * tOne R b i + r from by omega, show Int.toNat ((tTwo R b i : Int) * 12 + (r : Int)) = 12 * tTwo R b i + r from by omega, hM (t + 7) _ (by omega), hM (t + 7) _ (by omega)]
    rw [show C (t + 7) (12 * tOne R b i + r) = wvC C t (tOne R b i) r from rfl, show C (t + 7) (12 * tTwo R b i + r) = wvC C t (tTwo R b i) r from rfl, n32_of (a := wvC C t (tOne R b i) r) (by omega) (by omega), n32_of (a := wvC C t (tTwo R b i) r) (by omega) (by omega), T_isSo_eq ht hTM.1 hTM.2.2.2.2.2.2.1 hr hw hwb, bind_some', hnx]
    by_cases q1 : wvC C t (tOne R b i) r = -1
    · rw [if_neg (show ¬ ¬ _ from not_not_intro q1), if_neg (fun z => z.1.1 q1)]; rfl
    · rw [if_pos q1]
      by_cases q2 : wvC C t (tTwo R b i) r = -1
      · rw [if_neg (show ¬ ¬ _ from not_not_intro q2), if_neg (fun z => z.1.2 q2)]; rfl
      · rw [if_pos q2]
        cases hri : rowI R r w with
        | true => rw [if_neg (show ¬ ((¬ wvC C t (tOne R b i) r = -1 ∧ ¬ wvC C t (tTwo R b i) r = -1) ∧ true = false) by simp)]; rfl
        | false =>
          rw [if_pos (show ((¬ wvC C t (tOne R b i) r = -1 ∧ ¬ wvC C t (tTwo R b i) r = -1) ∧ false = false) from ⟨⟨q1, q2⟩, rfl⟩)]
          unfold imax
          rw [n32_of (a := gmC C R t b w i r) (by omega) (by omega), n32_of (a := wvC C t (tOne R b i) r + wvC C t (tTwo R b i) r) (by omega) (by omega)]
          rfl
  · unfold T_mostWished_b5
    dsimp only
    rw [hM t _ (by omega), hR.2.1, if_neg (by omega)]
theorem M_gainOf_eq (hb : b < 2) (h38 : R 81 38 = (b : Int)) (hT : Town t b C R) {w i : Nat} (hi : i < nT R b) (hw : w < 2 ^ nF R b) (hwb : isB R w = true) : M_gainOf (12 * (b : Int) + (i : Int)) (w : Int) R = some (gnC C R t b w i) := by
  have hP := num_P hT.1
  have hR := num_R hT.1
  have hTn := num_T hT.1
  have hF := num_F hT.1
  have h6 := two_pow8 hF.2.2
  have L := it_for (body := M_gainOf_b5 (12 * (b : Int) + (i : Int)) (w : Int) R) (a := (0, 0)) (b := gmC C R t b w i (nR R b)) (fun r => (gmC C R t b w i r, (r : Int))) (nR R b) (by unfold FUEL; omega) rfl ?_ ?_
  · unfold M_gainOf
    rw [L, bind_some', chk_pos (by omega), tn_12]
    rfl
  · intro r hr
    have ih := gm_rng hT (w := w) hi r (by omega)
    obtain ⟨-, ⟨k3, k4⟩, ⟨k5, k6⟩, -⟩ := hT.2.2.2.1.1 i hi
    have h1 := wv_rng hT.2.2.2.2.1 k4 hr
    have h2 := wv_rng hT.2.2.2.2.1 k6 hr
    obtain ⟨k8, -⟩ := hT.2.2.2.2.2.2.1 r w hr hw hwb
    have hnx : gmC C R t b w i (r + 1) = if (¬ wvC C t (tOne R b i) r = -1 ∧ ¬ wvC C t (tTwo R b i) r = -1) ∧ rowI R r w = false then (if gmC C R t b w i r < wvC C t (tOne R b i) r + wvC C t (tTwo R b i) r then wvC C t (tOne R b i) r + wvC C t (tTwo R b i) r else gmC C R t b w i r) else gmC C R t b w i r := rfl
    unfold M_gainOf_b5
    dsimp only
    rw [M_rowMany_eq hb h38 hT.1, bind_some', n32_nat (by omega), n32_nat (by omega), if_pos (by omega), chk_pos (by omega), tn_12, show R 98 (12 * b + i) = (tOne R b i : Int) from by unfold tOne; omega, show R 99 (12 * b + i) = (tTwo R b i : Int) from by unfold tTwo; omega, M_wished_eq hb h38 hT.1 hT.2.2.2.2.1 k4 hr, M_wished_eq hb h38 hT.1 hT.2.2.2.2.1 k6 hr, bind_some', bind_some', n32_of (a := wvC C t (tOne R b i) r) (by omega) (by omega), n32_of (a := wvC C t (tTwo R b i) r) (by omega) (by omega), hnx]
    by_cases q1 : wvC C t (tOne R b i) r = -1
    · rw [if_neg (show ¬ 0 ≤ wvC C t (tOne R b i) r by omega), if_neg (fun z => z.1.1 q1)]; rfl
    · rw [if_pos (show 0 ≤ wvC C t (tOne R b i) r by omega)]
      by_cases q2 : wvC C t (tTwo R b i) r = -1
      · rw [if_neg (show ¬ 0 ≤ wvC C t (tTwo R b i) r by omega), if_neg (fun z => z.1.2 q2)]; rfl
      · rw [if_pos (show 0 ≤ wvC C t (tTwo R b i) r by omega)]
        unfold M_spot rowI
        rw [bind_some', chk_pos (by omega), tn_256, n32_of (a := gmC C R t b w i r) (by omega) (by omega), n32_of (a := wvC C t (tOne R b i) r + wvC C t (tTwo R b i) r) (by omega) (by omega)]
        rcases k8 with e | e
        · rw [e, if_pos (show n32 0 = 0 by decide), if_pos (show ((¬ wvC C t (tOne R b i) r = -1 ∧ ¬ wvC C t (tTwo R b i) r = -1) ∧ decide ((0 : Int) = 1) = false) from ⟨⟨q1, q2⟩, rfl⟩)]
          by_cases q3 : gmC C R t b w i r < wvC C t (tOne R b i) r + wvC C t (tTwo R b i) r
          · rw [if_pos q3, if_pos q3]; rfl
          · rw [if_neg q3, if_neg q3]; rfl
        · rw [e, if_neg nz1, if_neg (fun z => absurd z.2 (by decide))]
          rfl
  · unfold M_gainOf_b5
    dsimp only
    rw [M_rowMany_eq hb h38 hT.1, bind_some', if_neg (by omega)]
theorem rst_rng (hT : Town t b C R) (w : Nat) : ∀ n, (rst R b (gnC C R t b w) n).1 ≤ n ∧ 0 ≤ (rst R b (gnC C R t b w) n).2 ∧ (rst R b (gnC C R t b w) n).2 ≤ 2376
  | 0 => by show 0 ≤ 0 ∧ (0 : Int) ≤ 0 ∧ (0 : Int) ≤ 2376; decide
  | n + 1 => by
    have ih := rst_rng hT w n
    have h1 := sumG_rng hT w n (nT R b) (Nat.le_refl _)
    have hTn := num_T hT.1
    unfold rst
    split
    · dsimp only; omega
    · omega
theorem M_rest_eq (hb : b < 2) (h38 : R 81 38 = (b : Int)) (hT : Town t b C R) {w : Nat} (hw : w < 2 ^ nF R b) (hwb : isB R w = true) : it (M_rest_b27 (w : Int) R) FUEL (0, 0, 1) = some (((rst R b (gnC C R t b w) (2 ^ nT R b)).1 : Int), (rst R b (gnC C R t b w) (2 ^ nT R b)).2) := by
  have hP := num_P hT.1
  have hTn := num_T hT.1
  have hp2 : 2 ^ nT R b ≤ 4096 := Nat.le_trans (Nat.pow_le_pow_right (by omega) hTn.2.2) (by decide)
  have hp0 := Nat.two_pow_pos (nT R b)
  refine it_for (fun i => (((rst R b (gnC C R t b w) (i + 1)).1 : Int), (rst R b (gnC C R t b w) (i + 1)).2, ((i + 1 : Nat) : Int))) (2 ^ nT R b - 1) (by unfold FUEL; omega) ?_ ?_ ?_
  · have e : rst R b (gnC C R t b w) 1 = (0, 0) := by
      show (if apB R b 0 = true ∧ (0 : Int) < sumG (gnC C R t b w) 0 (nT R b) then _ else _) = _
      rw [if_neg]
      · rfl
      · rintro ⟨-, z⟩
        rw [sumG_stop (m := 0) (by omega) (fun i _ _ => Nat.zero_testBit i)] at z
        exact absurd (show (0 : Int) < 0 from z) (by decide)
    rw [e]; rfl
  · intro i hi
    have g := rst_rng hT w (i + 1)
    have h1 := sumG_rng hT w (i + 1) (nT R b) (Nat.le_refl _)
    have hnx : rst R b (gnC C R t b w) (i + 1 + 1) = if apB R b (i + 1) = true ∧ (rst R b (gnC C R t b w) (i + 1)).2 < sumG (gnC C R t b w) (i + 1) (nT R b) then (i + 1, sumG (gnC C R t b w) (i + 1) (nT R b)) else rst R b (gnC C R t b w) (i + 1) := rfl
    unfold M_rest_b27
    dsimp only
    rw [h38, chk_pos (by omega), tn_nat, hTn.1, ishl_1 (by omega), n32_nat (by omega), n32_nat (by omega), if_pos (by omega), M_areApart_eq hb h38 hT.1 hT.2.2.2.1 (by omega), bind_some']
    cases hap : apB R b (i + 1) with
    | false =>
      have e0 : rst R b (gnC C R t b w) (i + 1 + 1) = rst R b (gnC C R t b w) (i + 1) := by rw [hnx, hap]; exact if_neg (fun z => absurd z.1 (by decide))
      rw [e0]; rfl
    | true =>
      have L : it (M_rest_b61 (w : Int) R ((i + 1 : Nat) : Int)) FUEL (0, 0) = some (sumG (gnC C R t b w) (i + 1) (nT R b)) := by
        refine it_for (fun n => (sumG (gnC C R t b w) (i + 1) n, (n : Int))) (nT R b) (by unfold FUEL; omega) rfl ?_ ?_
        · intro n hn
          unfold M_rest_b61
          dsimp only
          rw [h38, tn_nat, hTn.1, n32_nat (by omega), n32_nat (by omega), if_pos (by omega), hb_eq (by omega) (by omega)]
          have es : sumG (gnC C R t b w) (i + 1) (n + 1) = sumG (gnC C R t b w) (i + 1) n + (if (i + 1).testBit n then gnC C R t b w n else 0) := rfl
          rw [es]
          cases (i + 1).testBit n with
          | false => rfl
          | true =>
            rw [if_pos rfl, if_pos (by decide), M_gainOf_eq hb h38 hT hn hw hwb]
            rfl
        · unfold M_rest_b61
          dsimp only
          rw [h38, tn_nat, hTn.1, if_neg (by omega)]
      rw [if_neg (by decide), L, bind_some', n32_of (a := sumG _ _ _) (by omega) (by omega), n32_of (a := (rst R b (gnC C R t b w) (i + 1)).2) (by omega) (by omega)]
      by_cases q : (rst R b (gnC C R t b w) (i + 1)).2 < sumG (gnC C R t b w) (i + 1) (nT R b)
      · have e0 : rst R b (gnC C R t b w) (i + 1 + 1) = (i + 1, sumG (gnC C R t b w) (i + 1) (nT R b)) := by rw [hnx, hap]; exact if_pos ⟨rfl, q⟩
        rw [if_neg (by omega), e0]; rfl
      · have e0 : rst R b (gnC C R t b w) (i + 1 + 1) = rst R b (gnC C R t b w) (i + 1) := by rw [hnx, hap]; exact if_neg (fun z => q z.2)
        rw [if_pos (by omega), e0]; rfl
  · unfold M_rest_b27
    dsimp only
    rw [h38, chk_pos (by omega), tn_nat, hTn.1, ishl_1 (by omega), n32_nat (by omega), n32_nat (by omega), if_neg (by omega), show 2 ^ nT R b - 1 + 1 = 2 ^ nT R b from by omega]
/-- what the reference's search finds -/
theorem rst_spec (g : Nat → Int) : ∀ n, apB R b (rst R b g n).1 = true ∧ (rst R b g n).2 = sumG g (rst R b g n).1 (nT R b) ∧ (∀ T, T < n → apB R b T = true → sumG g T (nT R b) ≤ (rst R b g n).2) ∧ ∀ T, T < (rst R b g n).1 → apB R b T = true → sumG g T (nT R b) < (rst R b g n).2
  | 0 => by
    have e0 : sumG g 0 (nT R b) = 0 := sumG_stop (m := 0) (by omega) (fun i _ _ => Nat.zero_testBit i)
    refine ⟨?_, e0.symm, fun T hT => by omega, fun T hT => ?_⟩
    · show apB R b 0 = true
      unfold apB
      rw [allB_iff]
      intro i _
      rw [Nat.zero_testBit]
      rfl
    · exact absurd hT (Nat.not_lt_zero _)
  | n + 1 => by
    obtain ⟨h1, h2, h3, h4⟩ := rst_spec g n
    by_cases q : apB R b n = true ∧ (rst R b g n).2 < sumG g n (nT R b)
    · have e : rst R b g (n + 1) = (n, sumG g n (nT R b)) := by unfold rst; rw [if_pos q]
      rw [e]
      refine ⟨q.1, rfl, fun T hT ha => ?_, fun T hT ha => ?_⟩
      · dsimp only
        by_cases z : T = n
        · subst z; exact Int.le_refl _
        · have := h3 T (by omega) ha
          omega
      · dsimp only at hT ⊢
        have := h3 T hT ha
        omega
    · have e : rst R b g (n + 1) = rst R b g n := by
        show (if apB R b n = true ∧ (rst R b g n).2 < sumG g n (nT R b) then _ else _) = _
        rw [if_neg q]
      rw [e]
      refine ⟨h1, h2, fun T hT ha => ?_, h4⟩
      by_cases z : T = n
      · subst z
        rcases Int.lt_or_le (rst R b g T).2 (sumG g T (nT R b)) with y | y
        · exact absurd ⟨ha, y⟩ q
        · exact y
      · exact h3 T (by omega) ha
/-! the class's search -/
def vlB (R : Mem) (b : Nat) (g : Nat → Int) (T : Nat) : Prop := apB R b T = true ∧ ∀ i, i < nT R b → T.testBit i = true → 0 < g i
def dom (s T m t : Int) : Prop := s < m ∨ (s = m ∧ t ≤ T)
theorem dom_rf (s T : Int) : dom s T s T := Or.inr ⟨rfl, Int.le_refl _⟩
theorem dom_tr {a b c d e f : Int} (h1 : dom a b c d) (h2 : dom c d e f) : dom a b e f := by
  unfold dom at *
  omega
theorem apB_add (hTb : True) {s j : Nat} (hs : s < 2 ^ j) (hj : j < nT R b) (ha : apB R b s = true) (hd : umB R b s j &&& prM R b j = 0) : apB R b (s + 2 ^ j) = true := by
  unfold apB at ha ⊢
  rw [allB_iff] at ha ⊢
  intro i hi
  rw [add_tb hs]
  by_cases q : i < j
  · have e := umB_congr (R := R) (b := b) (s := s + 2 ^ j) (s' := s) (n := i) (fun l hl => by rw [add_tb hs, decide_eq_false (by omega), Bool.or_false])
    rw [e, decide_eq_false (show ¬ i = j by omega), Bool.or_false]
    exact ha i hi
  · by_cases q2 : i = j
    · subst q2
      have e := umB_congr (R := R) (b := b) (s := s + 2 ^ i) (s' := s) (n := i) (fun l hl => by rw [add_tb hs, decide_eq_false (by omega), Bool.or_false])
      rw [e, hd]
      simp
    · rw [testBit_lt8 hs (by omega), decide_eq_false q2]
      rfl
theorem apB_at {T j : Nat} (ha : apB R b T = true) (hj : j < nT R b) (hb : T.testBit j = true) : umB R b T j &&& prM R b j = 0 := by
  unfold apB at ha
  have := allB_iff.mp ha j hj
  rw [hb] at this
  simpa using this
def SK (t b w : Nat) (C R M : Mem) : Prop := M 76 0 = (t : Int) ∧ (∀ i, i < nT R b → M 77 i = gnC C R t b w i) ∧ ∀ c k, c ≠ 76 → c ≠ 77 → M c k = C c k
theorem seek_eq (ht : isT t) (hT : Town t b C R) (w : Nat) : ∀ (d tie s : Nat) (M : Mem), tie ≤ nT R b → nT R b - tie < d → s < 2 ^ tie → vlB R b (gnC C R t b w) s → SK t b w C R M → (0 ≤ M 76 2 ∧ M 76 2 ≤ 2376) → (0 ≤ M 76 3 ∧ M 76 3 < 4096) → Z (P_seekMost d (tie : Int) (umB R b s tie : Int) (sumG (gnC C R t b w) s tie) (s : Int) M) (fun M' => SK t b w C R M' ∧ ((0 ≤ M' 76 2 ∧ M' 76 2 ≤ 2376) ∧ (0 ≤ M' 76 3 ∧ M' 76 3 < 4096)) ∧ dom (M 76 2) (M 76 3) (M' 76 2) (M' 76 3) ∧ (∀ T, T < 2 ^ nT R b → vlB R b (gnC C R t b w) T → T % 2 ^ tie = s → dom (sumG (gnC C R t b w) T (nT R b)) (T : Int) (M' 76 2) (M' 76 3)) ∧ ((M' 76 2 = M 76 2 ∧ M' 76 3 = M 76 3) ∨ ∃ T, T < 2 ^ nT R b ∧ vlB R b (gnC C R t b w) T ∧ M' 76 2 = sumG (gnC C R t b w) T (nT R b) ∧ M' 76 3 = (T : Int)))
  | 0, tie, s, M, h1, h2, _, _, _, _, _ => by omega
  | d + 1, tie, s, M, h1, h2, hs, hv, hK, hr2, hr3 => by
    have hTn := num_T hT.1
    have hP := num_P hT.1
    have hp2 : 2 ^ nT R b ≤ 4096 := Nat.le_trans (Nat.pow_le_pow_right (by omega) hTn.2.2) (by decide)
    have hpt : 2 ^ tie ≤ 2 ^ nT R b := Nat.pow_le_pow_right (by omega) h1
    have hstop : sumG (gnC C R t b w) s (nT R b) = sumG (gnC C R t b w) s tie := sumG_stop h1 (fun i q1 q2 => testBit_lt8 hs q1)
    have hsr := sumG_rng hT w s (nT R b) (Nat.le_refl _)
    rw [hstop] at hsr
    have ht2 : t ≤ 15 := by unfold isT at ht; omega
    show Z (P_seekMost_s (P_seekMost d) _ _ _ _ M) _
    unfold P_seekMost_s
    rw [jn_eq, Z_bind_iff]
    -- the set itself
    have J0 : Z (if n32 (sumG (gnC C R t b w) s tie) ≤ n32 (M 76 2) then if n32 (sumG (gnC C R t b w) s tie) = n32 (M 76 2) ∧ n32 (s : Int) < n32 (M 76 3) then (fun (_ : Unit) => lt1 (up M 76 2 (sumG (gnC C R t b w) s tie)) fun M_15 => lt1 (up M_15 76 3 (s : Int)) fun M_16 => some M_16) () else some M else (fun (_ : Unit) => lt1 (up M 76 2 (sumG (gnC C R t b w) s tie)) fun M_15 => lt1 (up M_15 76 3 (s : Int)) fun M_16 => some M_16) ()) (fun M1 => SK t b w C R M1 ∧ ((0 ≤ M1 76 2 ∧ M1 76 2 ≤ 2376) ∧ (0 ≤ M1 76 3 ∧ M1 76 3 < 4096)) ∧ dom (M 76 2) (M 76 3) (M1 76 2) (M1 76 3) ∧ dom (sumG (gnC C R t b w) s (nT R b)) (s : Int) (M1 76 2) (M1 76 3) ∧ ((M1 76 2 = M 76 2 ∧ M1 76 3 = M 76 3) ∨ (M1 76 2 = sumG (gnC C R t b w) s (nT R b) ∧ M1 76 3 = (s : Int)))) := by
      rw [n32_of (a := sumG _ _ _) (by omega) (by omega), n32_of (a := M 76 2) (by omega) (by omega), n32_nat (by omega), n32_of (a := M 76 3) (by omega) (by omega)]
      have put : (M 76 2 < sumG (gnC C R t b w) s tie ∨ (sumG (gnC C R t b w) s tie = M 76 2 ∧ (s : Int) < M 76 3)) → Z (lt1 (up M 76 2 (sumG (gnC C R t b w) s tie)) fun M_15 => lt1 (up M_15 76 3 (s : Int)) fun M_16 => some M_16) (fun M1 => SK t b w C R M1 ∧ ((0 ≤ M1 76 2 ∧ M1 76 2 ≤ 2376) ∧ (0 ≤ M1 76 3 ∧ M1 76 3 < 4096)) ∧ dom (M 76 2) (M 76 3) (M1 76 2) (M1 76 3) ∧ dom (sumG (gnC C R t b w) s (nT R b)) (s : Int) (M1 76 2) (M1 76 3) ∧ ((M1 76 2 = M 76 2 ∧ M1 76 3 = M 76 3) ∨ (M1 76 2 = sumG (gnC C R t b w) s (nT R b) ∧ M1 76 3 = (s : Int)))) := by
        intro hb
        have e2 : up (up M 76 2 (sumG (gnC C R t b w) s tie)) 76 3 (s : Int) 76 2 = sumG (gnC C R t b w) s tie := by rw [up_k (by decide), up_eq]
        have e3 : up (up M 76 2 (sumG (gnC C R t b w) s tie)) 76 3 (s : Int) 76 3 = (s : Int) := up_eq
        refine Z_of ⟨⟨?_, fun i hi => ?_, fun c k q1 q2 => ?_⟩, ?_, ?_, ?_, ?_⟩
        · rw [up_k (by decide), up_k (by decide)]; exact hK.1
        · rw [up_c (by decide), up_c (by decide)]; exact hK.2.1 i hi
        · rw [up_c q1, up_c q1]; exact hK.2.2 c k q1 q2
        · rw [e2, e3]; omega
        · rw [e2, e3]; unfold dom; omega
        · rw [e2, e3, hstop]; exact dom_rf _ _
        · rw [e2, e3, hstop]; exact Or.inr ⟨rfl, rfl⟩
      by_cases q1 : sumG (gnC C R t b w) s tie ≤ M 76 2
      · rw [if_pos q1]
        by_cases q2 : sumG (gnC C R t b w) s tie = M 76 2 ∧ (s : Int) < M 76 3
        · rw [if_pos q2]
          exact put (Or.inr q2)
        · rw [if_neg q2]
          refine Z_of ⟨hK, ⟨hr2, hr3⟩, dom_rf _ _, ?_, Or.inl ⟨rfl, rfl⟩⟩
          rw [hstop]
          unfold dom
          omega
      · rw [if_neg q1]
        exact put (Or.inl (by omega))
    refine Z_mono J0 ?_
    rintro M1 ⟨hK1, ⟨hb2, hb3⟩, hd1, hd2, hor1⟩
    rw [Z_bind_iff]
    refine it_Z (fun k st => st.1 = ((tie + k : Nat) : Int) ∧ SK t b w C R st.2 ∧ ((0 ≤ st.2 76 2 ∧ st.2 76 2 ≤ 2376) ∧ (0 ≤ st.2 76 3 ∧ st.2 76 3 < 4096)) ∧ dom (M1 76 2) (M1 76 3) (st.2 76 2) (st.2 76 3) ∧ (∀ m T, tie ≤ m → m < tie + k → T < 2 ^ nT R b → vlB R b (gnC C R t b w) T → T % 2 ^ (m + 1) = s + 2 ^ m → dom (sumG (gnC C R t b w) T (nT R b)) (T : Int) (st.2 76 2) (st.2 76 3)) ∧ ((st.2 76 2 = M1 76 2 ∧ st.2 76 3 = M1 76 3) ∨ ∃ T, T < 2 ^ nT R b ∧ vlB R b (gnC C R t b w) T ∧ st.2 76 2 = sumG (gnC C R t b w) T (nT R b) ∧ st.2 76 3 = (T : Int))) (nT R b - tie) (by unfold FUEL; omega) ⟨rfl, hK1, ⟨hb2, hb3⟩, dom_rf _ _, fun m T q1 q2 => by omega, Or.inl ⟨rfl, rfl⟩⟩ ?_ ?_
    · rintro k ⟨l, M2⟩ hk ⟨el, gK, ⟨gb2, gb3⟩, gd, gT, gor⟩
      dsimp only at el gK gb2 gb3 gd gT gor
      subst el
      generalize hj : tie + k = j at *
      have hjn : j < nT R b := by omega
      have hs2 : s < 2 ^ j := Nat.lt_of_lt_of_le hs (Nat.pow_le_pow_right (by omega) (by omega))
      have hpj : 2 ^ (j + 1) ≤ 2 ^ nT R b := Nat.pow_le_pow_right (by omega) hjn
      have hpj2 : 2 ^ (j + 1) = 2 * 2 ^ j := by rw [Nat.pow_succ]; omega
      have hTM : Town t b M2 R := Town_tw (fun c z q1 q2 => gK.2.2 c z (by omega) (by omega)) hT
      have hum : umB R b s j = umB R b s tie := umB_stop (by omega) (fun i q1 q2 => testBit_lt8 hs q1)
      have hsm : sumG (gnC C R t b w) s j = sumG (gnC C R t b w) s tie := sumG_stop (by omega) (fun i q1 q2 => testBit_lt8 hs q1)
      have u1 := umB_lt hT.2.2.2.1 hP.2.2 s j (by omega)
      have u2 := prM_lt hT.2.2.2.1 hP.2.2 hjn
      have hg := gn_rng hT (w := w) hjn
      unfold P_seekMost_b39
      dsimp only
      rw [gK.1, chk_pos (isTI_of rfl ht), lt1_eq, tn_nat, gK.2.2 t 3 (by omega) (by omega), hTn.2.1, n32_nat (by omega), n32_nat (by omega), if_pos (by omega), T_pairOf_eq hTM.2.2.2.1 hP.2.2 hTn.2.2 hjn, bind_some', chk_pos (by omega), tn_nat, gK.2.1 j hjn, n32_of (a := gnC C R t b w j) (by omega) (by omega), ← hum, iand_nat (by omega) (by omega)]
      have hand : umB R b s j &&& prM R b j < 256 := Nat.lt_of_le_of_lt Nat.and_le_left u1
      rw [n32_nat (by omega)]
      by_cases q : 0 < gnC C R t b w j ∧ ((umB R b s j &&& prM R b j : Nat) : Int) = 0
      · rw [if_pos q]
        have hd0 : umB R b s j &&& prM R b j = 0 := by omega
        have hv2 : vlB R b (gnC C R t b w) (s + 2 ^ j) := by
          refine ⟨apB_add trivial hs2 hjn hv.1 hd0, fun i hi hbi => ?_⟩
          rw [add_tb hs2, Bool.or_eq_true] at hbi
          rcases hbi with z | z
          · exact hv.2 i hi z
          · rw [of_decide_eq_true z]; exact q.1
        have e1 : ior' (umB R b s j : Int) (prM R b j : Int) = (umB R b (s + 2 ^ j) (j + 1) : Int) := by rw [ior_nat (by omega) (by omega), umB_add hs2]
        have e2 : sumG (gnC C R t b w) s tie + gnC C R t b w j = sumG (gnC C R t b w) (s + 2 ^ j) (j + 1) := by rw [sumG_add hs2, hsm]
        have e3 : ior' (s : Int) (ishl 1 (j : Int)) = ((s + 2 ^ j : Nat) : Int) := by rw [ishl_1 (by omega), ior_nat (by omega) (by omega), or_add hs2]
        rw [e1, e2, e3, show (j : Int) + 1 = ((j + 1 : Nat) : Int) from rfl]
        have IH := seek_eq ht hT w d (j + 1) (s + 2 ^ j) M2 (by omega) (by omega) (by omega) hv2 gK gb2 gb3
        obtain ⟨M3, e4, i1, ⟨i2, i3⟩, i4, i5, i6⟩ := IH
        rw [e4, bind_some', bind_some', lt1_eq]
        refine Z_of (Or.inl ⟨_, rfl, ?_, i1, ⟨i2, i3⟩, dom_tr gd i4, fun m T q1 q2 hT2 hv3 hm => ?_, ?_⟩)
        · dsimp only; omega
        · dsimp only
          by_cases z : m = j
          · subst z
            exact i5 T hT2 hv3 hm
          · exact dom_tr (gT m T q1 (by omega) hT2 hv3 hm) i4
        · dsimp only
          rcases i6 with ⟨z1, z2⟩ | z
          · rw [z1, z2]; exact gor
          · exact Or.inr z
      · rw [if_neg q, bind_some', lt1_eq]
        refine Z_of (Or.inl ⟨_, rfl, ?_, gK, ⟨gb2, gb3⟩, gd, fun m T q1 q2 hT2 hv3 hm => ?_, gor⟩)
        · dsimp only; omega
        · dsimp only
          by_cases z : m = j
          · subst z
            exfalso
            apply q
            have hbj : T.testBit m = true := by
              rw [← mod_tb (n := m + 1) (by omega), hm, add_tb hs2]
              simp
            have hlow : ∀ i, i < m → T.testBit i = s.testBit i := by
              intro i hi
              rw [← mod_tb (n := m + 1) (by omega), hm, add_tb hs2, decide_eq_false (by omega), Bool.or_false]
            have h0 := apB_at hv3.1 hjn hbj
            rw [umB_congr hlow] at h0
            exact ⟨hv3.2 m hjn hbj, by rw [h0]; rfl⟩
          · exact gT m T q1 (by omega) hT2 hv3 hm
    · rintro ⟨l, M2⟩ ⟨el, gK, ⟨gb2, gb3⟩, gd, gT, gor⟩
      dsimp only at el gK gb2 gb3 gd gT gor
      subst el
      unfold P_seekMost_b39
      dsimp only
      rw [gK.1, chk_pos (isTI_of rfl ht), lt1_eq, tn_nat, gK.2.2 t 3 (by omega) (by omega), hTn.2.1, n32_nat (by omega), n32_nat (by omega), if_neg (by omega)]
      refine Z_of ⟨_, rfl, Z_of ⟨gK, ⟨gb2, gb3⟩, dom_tr hd1 gd, fun T hT2 hv3 hm => ?_, ?_⟩⟩
      · by_cases z : T = T % 2 ^ tie
        · rw [hm] at z
          subst z
          exact dom_tr hd2 gd
        · obtain ⟨m, m1, m2, m3⟩ := least_bit hT2 z
          rw [hm] at m3
          have hlt : m < tie + (nT R b - tie) := by rw [Nat.add_sub_cancel' h1]; exact m2
          exact gT m T m1 hlt hT2 hv3 m3
      · rcases gor with ⟨z1, z2⟩ | z
        · rcases hor1 with ⟨y1, y2⟩ | ⟨y1, y2⟩
          · exact Or.inl ⟨z1.trans y1, z2.trans y2⟩
          · exact Or.inr ⟨s, by omega, hv, z1.trans y1, z2.trans y2⟩
        · exact Or.inr z
/-- the ties of a set that gain something -/
def ppB (g : Nat → Int) (T : Nat) : Nat → Nat
  | 0 => 0
  | n + 1 => if T.testBit n = true ∧ 0 < g n then ppB g T n + 2 ^ n else ppB g T n
theorem ppB_lt (g : Nat → Int) (T : Nat) : ∀ n, ppB g T n < 2 ^ n
  | 0 => by show 0 < 1; decide
  | n + 1 => by
    have := ppB_lt g T n
    unfold ppB
    rw [Nat.pow_succ]
    split <;> omega
theorem ppB_tb (g : Nat → Int) (T : Nat) : ∀ n i, (ppB g T n).testBit i = (decide (i < n) && (T.testBit i && decide (0 < g i)))
  | 0, i => by
    show (0 : Nat).testBit i = _
    rw [Nat.zero_testBit, decide_eq_false (by omega)]
    rfl
  | n + 1, i => by
    have ih := ppB_tb g T n i
    have hl := ppB_lt g T n
    unfold ppB
    by_cases q : T.testBit n = true ∧ 0 < g n
    · rw [if_pos q, add_tb hl, ih]
      by_cases z : i = n
      · subst z
        rw [q.1, decide_eq_true q.2]
        simp
      · rw [decide_eq_false z, Bool.or_false]
        by_cases y : i < n
        · rw [decide_eq_true y, decide_eq_true (show i < n + 1 by omega)]
        · rw [decide_eq_false y, decide_eq_false (show ¬ i < n + 1 by omega)]
    · rw [if_neg q, ih]
      by_cases z : i = n
      · subst z
        rw [decide_eq_false (show ¬ i < i by omega), decide_eq_true (show i < i + 1 by omega)]
        cases hb : T.testBit i with
        | false => rfl
        | true =>
          rw [decide_eq_false (fun y => q ⟨hb, y⟩)]
          rfl
      · by_cases y : i < n
        · rw [decide_eq_true y, decide_eq_true (show i < n + 1 by omega)]
        · rw [decide_eq_false y, decide_eq_false (show ¬ i < n + 1 by omega)]
theorem ppB_le (g : Nat → Int) (T : Nat) : ∀ n, ppB g T n ≤ T % 2 ^ n
  | 0 => Nat.zero_le _
  | n + 1 => by
    have ih := ppB_le g T n
    rw [mod_succ rfl]
    unfold ppB
    by_cases q : T.testBit n = true
    · rw [if_pos q]
      split <;> omega
    · rw [if_neg q, if_neg (fun z => q z.1)]
      exact ih
theorem umB_sub {s s' : Nat} (h : ∀ i, s.testBit i = true → s'.testBit i = true) : ∀ n i, (umB R b s n).testBit i = true → (umB R b s' n).testBit i = true
  | 0, i, hb => hb
  | n + 1, i, hb => by
    have ih := umB_sub h n i
    have hb' : (if s.testBit n then umB R b s n ||| prM R b n else umB R b s n).testBit i = true := hb
    show (if s'.testBit n then umB R b s' n ||| prM R b n else umB R b s' n).testBit i = true
    by_cases q : s.testBit n = true
    · rw [if_pos q, Nat.testBit_or, Bool.or_eq_true] at hb'
      rw [if_pos (h n q), Nat.testBit_or, Bool.or_eq_true]
      exact hb'.imp ih id
    · rw [if_neg q] at hb'
      by_cases q2 : s'.testBit n = true
      · rw [if_pos q2, Nat.testBit_or, ih hb', Bool.true_or]
      · rw [if_neg q2]; exact ih hb'
theorem apB_sub {s s' : Nat} (h : ∀ i, s.testBit i = true → s'.testBit i = true) (ha : apB R b s' = true) : apB R b s = true := by
  unfold apB
  rw [allB_iff]
  intro i hi
  cases hb : s.testBit i with
  | false => rfl
  | true =>
    have h0 := apB_at ha hi (h i hb)
    have : umB R b s i &&& prM R b i = 0 := by
      apply Nat.eq_of_testBit_eq
      intro j
      rw [Nat.zero_testBit, Nat.testBit_and]
      cases hu : (umB R b s i).testBit j with
      | false => rfl
      | true =>
        have h1 := umB_sub h i j hu
        have h2 : (umB R b s' i &&& prM R b i).testBit j = false := by rw [h0, Nat.zero_testBit]
        rw [Nat.testBit_and, h1, Bool.true_and] at h2
        rw [h2]
        rfl
    rw [this]
    rfl
theorem sumG_pp (g : Nat → Int) (T N : Nat) : ∀ n, n ≤ N → sumG g T n ≤ sumG g (ppB g T N) n
  | 0, _ => Int.le_refl _
  | n + 1, h => by
    have ih := sumG_pp g T N n (by omega)
    show sumG g T n + (if T.testBit n then g n else 0) ≤ sumG g (ppB g T N) n + (if (ppB g T N).testBit n then g n else 0)
    rw [ppB_tb, decide_eq_true (show n < N by omega), Bool.true_and]
    cases T.testBit n with
    | false => simpa using ih
    | true =>
      by_cases q : 0 < g n
      · rw [decide_eq_true q]; simp only [Bool.and_self, if_true]; omega
      · rw [decide_eq_false q]; simp only [Bool.and_false, if_true, Bool.false_eq_true, if_false]; omega
theorem vl_pp (g : Nat → Int) {T : Nat} (ha : apB R b T = true) : vlB R b g (ppB g T (nT R b)) := by
  refine ⟨apB_sub (s' := T) (fun i hi => ?_) ha, fun i hi hb => ?_⟩
  · rw [ppB_tb, Bool.and_eq_true, Bool.and_eq_true] at hi
    exact hi.2.1
  · rw [ppB_tb, Bool.and_eq_true, Bool.and_eq_true] at hb
    exact of_decide_eq_true hb.2.2
theorem P_settle_eq (ht : isT t) (hT : Town t b C R) {w : Nat} (hw : w < 2 ^ nF R b) (hwb : isB R w = true) : Z (P_settleGains t (w : Int) C) (fun C' => C' 76 2 = (rst R b (gnC C R t b w) (2 ^ nT R b)).2 ∧ C' 76 3 = ((rst R b (gnC C R t b w) (2 ^ nT R b)).1 : Int) ∧ ∀ c k, c ≠ 76 → c ≠ 77 → C' c k = C c k) := by
  have hTn := num_T hT.1
  have hP := num_P hT.1
  have ht2 : t ≤ 15 := by unfold isT at ht; omega
  have hp2 : 2 ^ nT R b ≤ 4096 := Nat.le_trans (Nat.pow_le_pow_right (by omega) hTn.2.2) (by decide)
  have hp0 := Nat.two_pow_pos (nT R b)
  unfold P_settleGains
  rw [lt1_eq, Z_bind_iff]
  refine it_Z (fun i st => st.1 = (i : Int) ∧ st.2 76 0 = (t : Int) ∧ (∀ j, j < i → st.2 77 j = gnC C R t b w j) ∧ ∀ c k, c ≠ 76 → c ≠ 77 → st.2 c k = C c k) (nT R b) (by unfold FUEL; omega) ⟨rfl, by dsimp only; exact up_eq, fun j hj => by omega, fun c k q1 q2 => by dsimp only; exact up_c q1⟩ ?_ ?_
  · rintro i ⟨l, M⟩ hi ⟨el, g0, g1, gf⟩
    dsimp only at el g0 g1 gf
    subst el
    obtain ⟨⟨-, -, k3⟩, -, -, -, k8, k9⟩ := hT.2.2.2.1.1 i hi
    unfold P_settleGains_b7
    dsimp only
    rw [g0, chk_pos (isTI_of rfl ht), lt1_eq, tn_nat, gf t 3 (by omega) (by omega), hTn.2.1, n32_nat (by omega), n32_nat (by omega), if_pos (by omega), T_mostWished_eq ht hT (fun c k hc => gf c k (by omega) (by omega)) hi hw hwb, bind_some', chk_pos (by omega), lt1_eq, lt1_eq, tn_nat, gf (t + 6) _ (by omega) (by omega), k3]
    refine Z_of (Or.inl ⟨_, rfl, rfl, ?_, fun j hj => ?_, fun c k q1 q2 => ?_⟩)
    · dsimp only; rw [up_c (by decide)]; exact g0
    · dsimp only
      by_cases e : j = i
      · subst e; rw [up_eq]; rfl
      · rw [up_k e]; exact g1 j (by omega)
    · dsimp only; rw [up_c q2]; exact gf c k q1 q2
  · rintro ⟨l, M⟩ ⟨el, g0, g1, gf⟩
    dsimp only at el g0 g1 gf
    subst el
    unfold P_settleGains_b7
    dsimp only
    rw [g0, chk_pos (isTI_of rfl ht), lt1_eq, tn_nat, gf t 3 (by omega) (by omega), hTn.2.1, if_neg (by omega)]
    refine Z_of ⟨_, rfl, ?_⟩
    rw [lt1_eq, lt1_eq]
    have hv0 : vlB R b (gnC C R t b w) 0 := ⟨(by
      unfold apB
      rw [allB_iff]
      intro i _
      rw [Nat.zero_testBit]
      rfl), fun i _ h => by rw [Nat.zero_testBit] at h; cases h⟩
    have hK : SK t b w C R (up (up M 76 2 0) 76 3 0) := ⟨by rw [up_k (by decide), up_k (by decide)]; exact g0, fun i hi => by rw [up_c (by decide), up_c (by decide)]; exact g1 i hi, fun c k q1 q2 => by rw [up_c q1, up_c q1]; exact gf c k q1 q2⟩
    have e2 : up (up M 76 2 0) 76 3 0 76 2 = 0 := by rw [up_k (by decide), up_eq]
    have e3 : up (up M 76 2 0) 76 3 0 76 3 = 0 := up_eq
    obtain ⟨M', em, s1, s2, s3, s4, s5⟩ := seek_eq ht hT w 14 0 0 (up (up M 76 2 0) 76 3 0) (by omega) (by omega) (by decide) hv0 hK (by rw [e2]; decide) (by rw [e3]; decide)
    rw [show P_seekMost 14 0 0 0 0 (up (up M 76 2 0) 76 3 0) = some M' from em, bind_some']
    rw [e2, e3] at s3 s5
    have hz : sumG (gnC C R t b w) 0 (nT R b) = 0 := sumG_stop (m := 0) (by omega) (fun i _ _ => Nat.zero_testBit i)
    obtain ⟨T, hT1, hT2, hT3, hT4⟩ : ∃ T, T < 2 ^ nT R b ∧ vlB R b (gnC C R t b w) T ∧ M' 76 2 = sumG (gnC C R t b w) T (nT R b) ∧ M' 76 3 = (T : Int) := by
      rcases s5 with ⟨z1, z2⟩ | z
      · exact ⟨0, hp0, hv0, by rw [hz]; exact z1, z2⟩
      · exact z
    obtain ⟨r1, r2, r3, r4⟩ := rst_spec (R := R) (b := b) (gnC C R t b w) (2 ^ nT R b)
    have rr := rst_rng hT w (2 ^ nT R b)
    generalize hbest : (rst R b (gnC C R t b w) (2 ^ nT R b)).1 = B at *
    generalize hmost : (rst R b (gnC C R t b w) (2 ^ nT R b)).2 = m at *
    have hBlt : B < 2 ^ nT R b := by
      rcases Nat.lt_or_ge B (2 ^ nT R b) with z | z
      · exact z
      · have : B = 2 ^ nT R b := by omega
        have e0 : sumG (gnC C R t b w) B (nT R b) = 0 := by
          rw [this]
          exact sumG_stop (m := 0) (by omega) (fun i _ hi => by rw [Nat.testBit_two_pow]; exact decide_eq_false (by omega))
        have := r4 0 (by omega) hv0.1
        rw [hz, r2, e0] at this
        omega
    -- the gaining part of the reference's best
    have p1 := vl_pp (R := R) (b := b) (gnC C R t b w) r1
    have p2 := sumG_pp (gnC C R t b w) B (nT R b) (nT R b) (Nat.le_refl _)
    have p3 : ppB (gnC C R t b w) B (nT R b) ≤ B := by
      have := ppB_le (gnC C R t b w) B (nT R b)
      rw [Nat.mod_eq_of_lt hBlt] at this
      exact this
    have p4 := s4 _ (by omega) p1 (Nat.mod_one _)
    have p5 := r3 _ (by omega : ppB (gnC C R t b w) B (nT R b) < 2 ^ nT R b) p1.1
    have p6 := r3 T hT1 hT2.1
    rw [← r2] at p2
    unfold dom at p4
    have hm : M' 76 2 = m := by omega
    have hle : (T : Int) ≤ ((ppB (gnC C R t b w) B (nT R b) : Nat) : Int) := by omega
    have hge : B ≤ T := by
      rcases Nat.lt_or_ge T B with z | z
      · have := r4 T z hT2.1
        omega
      · exact z
    refine Z_of ⟨hm, by rw [hT4]; omega, s1.2.2⟩
end REST
theorem op_rest {C R : Mem} (h : Inv C R) {w x : Int} (hw : n32 w = w) (hx : n32 x = x) : ∃ v C', X_rest w x C = some (v, C') ∧ M_rest w x R = some v ∧ Inv C' R := by
  have h0 := h
  obtain ⟨t, b, ht, h12, h13, hb, h38, -, -, -, -, hT, -, -⟩ := h
  have hF := num_F hT.1
  unfold X_rest M_rest
  rw [h12, chk_pos (isTI_of rfl ht), lt1_eq, tn_nat, hx, M_isIn_eq _ _ _ _ hx rfl rfl, bind_some']
  rcases T_hasWorld_eq ht hT.1 hT.2.2.2.2.2.1 hw with ⟨q, e⟩ | ⟨q, e⟩
  · rcases M_isWorld_eq hb h38 hT.1 hT.2.2.2.2.2.1 hw with ⟨q2, e2⟩ | ⟨q2, e2⟩
    · rw [e, e2, bind_some', bind_some', if_pos nz1]
      by_cases z : 0 ≤ x ∧ x ≤ 1
      · rw [if_pos z, if_neg nz1, bind_some', if_neg (show ¬ (false = true) by decide), if_neg (by rintro (y | y | y); exact nz1 y; omega; omega)]
        obtain ⟨w, rfl⟩ : ∃ y : Nat, w = (y : Int) := ⟨w.toNat, by have := q.1; omega⟩
        obtain ⟨-, w2, w3⟩ := q
        change isB R w = true at w3
        obtain ⟨C', e3, g1, g2, g3⟩ := P_settle_eq ht hT (w := w) (by omega) w3
        rw [e3, bind_some', M_rest_eq hb h38 hT (w := w) (by omega) w3, bind_some', g1, g2]
        have hI : Inv C' R := Inv_q (fun c k hc => g3 c k (by omega) (by omega)) (fun _ _ _ => rfl) h0
        by_cases y : x = 0
        · simp only [if_pos y]
          exact ⟨_, _, rfl, rfl, hI⟩
        · simp only [if_neg y]
          exact ⟨_, _, rfl, rfl, hI⟩
      · rw [if_neg z, if_pos (show n32 0 = 0 by decide), bind_some', if_pos rfl, if_pos (Or.inr (by omega))]
        exact ⟨_, _, rfl, rfl, h0⟩
    · exact absurd q q2
  · rcases M_isWorld_eq hb h38 hT.1 hT.2.2.2.2.2.1 hw with ⟨q2, e2⟩ | ⟨q2, e2⟩
    · exact absurd q2 q
    · rw [e, e2, bind_some', bind_some', if_pos (Or.inl (show n32 0 = 0 by decide)), if_neg nz0, bind_some', if_pos rfl]
      exact ⟨_, _, rfl, rfl, h0⟩
