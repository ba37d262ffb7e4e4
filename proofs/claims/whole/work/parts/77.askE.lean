/-! ===== askings: what would be heard, all worlds ===== -/
theorem sb_or0 {M : Mem} {c w w' : Nat} : sb (up M c (w / 64) (jor (M c (w / 64)) (jshl 1 ((w % 64 : Nat) : Int)))) c 0 w' = (sb M c 0 w' || decide (w' = w)) := by
  have := sb_or (M := M) (c := c) (o := 0) (w := w) (w' := w')
  rw [Nat.zero_add] at this
  exact this
theorem sb_orz {M : Mem} {c w w' : Nat} : sb (up M c (w / 64) (jor (M c (w / 64)) 0)) c 0 w' = sb M c 0 w' := by
  unfold sb
  rw [Nat.zero_add]
  by_cases e : w' / 64 = w / 64
  · rw [e, up_eq, qb_or, qb_0, Bool.or_false]
  · rw [up_k e]
theorem dec_succ {i w : Nat} {x : Bool} : (decide (w < i + 1) && x) = ((decide (w < i) && x) || (decide (w = i) && x)) := by
  by_cases h : w = i
  · subst h
    rw [decide_eq_true (show w < w + 1 by omega), decide_eq_false (show ¬ w < w by omega), decide_eq_true (show w = w from rfl)]
    cases x <;> rfl
  · rw [decide_eq_false h]
    by_cases h2 : w < i
    · rw [decide_eq_true h2, decide_eq_true (show w < i + 1 by omega)]
      cases x <;> rfl
    · rw [decide_eq_false h2, decide_eq_false (show ¬ w < i + 1 by omega)]
      cases x <;> rfl
section HRE
variable {b : Nat}
theorem heard_w (hb : b < 2) {M : Mem} {lf : Nat → Bool} {F m n r : Nat} (hF : F ≤ 8) (hm : m ≤ 8) (hn : n ≤ 12) (hr : r < n) (h38 : M 81 38 = (b : Int)) (h84 : M 84 b = (F : Int)) (h85 : M 85 b = (m : Int)) (h86 : M 86 b = (n : Int)) (h122 : ∀ w, w < 2 ^ F → M 122 w = b1 (lf w)) (hrow : ∀ w, w < 2 ^ F → lf w = true → M 112 (256 * r + w) = 0 ∨ M 112 (256 * r + w) = 1) (ha : ∀ w, w < 2 ^ F → lf w = true → ∀ p q, p < m → q < n → ∃ a : Nat, a < 3 ∧ M 114 (256 * (12 * p + q) + w) = (a : Int)) (z126 : ∀ w, w < 256 → sb M 126 0 w = false) (z128 : ∀ w, w < 256 → sb M 128 0 w = false) (z127 : ∀ p q a w, p < 8 → q < 12 → a < 3 → w < 256 → sb M 127 (12 * (12 * p + q) + 4 * a) w = false) : Z (it (M_layHeard_b51 (r : Int)) FUEL (0, M)) (fun M' => (∀ c j, c ≠ 126 → c ≠ 127 → c ≠ 128 → M' c j = M c j) ∧ (∀ w, w < 256 → sb M' 126 0 w = (decide (w < 2 ^ F) && lf w)) ∧ (∀ w, w < 256 → sb M' 128 0 w = (decide (w < 2 ^ F) && (lf w && decide (M 112 (256 * r + w) = 1)))) ∧ ∀ p q a w, p < m → q < n → a < 3 → w < 256 → sb M' 127 (12 * (12 * p + q) + 4 * a) w = (decide (w < 2 ^ F) && (lf w && decide (M 114 (256 * (12 * p + q) + w) = (a : Int))))) := by
  have h8 := two_pow8 hF
  have hWM : ∀ M1 : Mem, (∀ c j, c ≠ 126 → c ≠ 127 → c ≠ 128 → M1 c j = M c j) → M_worldMany M1 = some ((2 ^ F : Nat) : Int) := by
    intro M1 f1
    unfold M_worldMany M_factMany
    rw [f1 81 _ (by decide) (by decide) (by decide), h38, chk_pos (by omega), tn_nat, f1 84 _ (by decide) (by decide) (by decide), h84, bind_some', ishl_1 (by omega)]
  refine it_Z (fun i st => st.1 = (i : Int) ∧ (∀ c j, c ≠ 126 → c ≠ 127 → c ≠ 128 → st.2 c j = M c j) ∧ (∀ w, w < 256 → sb st.2 126 0 w = (decide (w < i) && lf w)) ∧ (∀ w, w < 256 → sb st.2 128 0 w = (decide (w < i) && (lf w && decide (M 112 (256 * r + w) = 1)))) ∧ ∀ p q a w, p < m → q < n → a < 3 → w < 256 → sb st.2 127 (12 * (12 * p + q) + 4 * a) w = (decide (w < i) && (lf w && decide (M 114 (256 * (12 * p + q) + w) = (a : Int))))) (2 ^ F) (by unfold FUEL; omega) ⟨rfl, fun _ _ _ _ _ => rfl, fun w hw => z126 w hw, fun w hw => z128 w hw, fun p q a w h1 h2 h3 h4 => z127 p q a w (by omega) (by omega) h3 h4⟩ ?_ ?_
  · rintro i ⟨l, M1⟩ hi ⟨el, f1, g1, g2, g3⟩
    dsimp only at el f1 g1 g2 g3
    subst el
    unfold M_layHeard_b51
    dsimp only
    rw [hWM M1 f1, bind_some', n32_nat (by omega), n32_nat (by omega), if_pos (by omega), chk_pos (by omega), tn_nat, f1 122 _ (by decide) (by decide) (by decide), h122 i hi]
    cases hl : lf i with
    | false =>
      rw [show b1 false = 0 from rfl, if_pos (by decide), bind_some', lt1_eq]
      refine Z_of (Or.inl ⟨_, rfl, rfl, f1, fun w hw => ?_, fun w hw => ?_, fun p q a w h1 h2 h3 h4 => ?_⟩)
      · dsimp only
        rw [g1 w hw, dec_succ]
        by_cases e : w = i
        · subst e; rw [hl]; simp
        · rw [decide_eq_false e]; simp
      · dsimp only
        rw [g2 w hw, dec_succ]
        by_cases e : w = i
        · subst e; rw [hl]; simp
        · rw [decide_eq_false e]; simp
      · dsimp only
        rw [g3 p q a w h1 h2 h3 h4, dec_succ]
        by_cases e : w = i
        · subst e; rw [hl]; simp
        · rw [decide_eq_false e]; simp
    | true =>
      have hv : ∃ v, (if ¬ n32 (M 112 (256 * r + i)) = 0 then some (jshl 1 ((i % 64 : Nat) : Int)) else some 0) = some v ∧ ∀ (M2 : Mem) w, sb (up M2 128 (i / 64) (jor (M2 128 (i / 64)) v)) 128 0 w = (sb M2 128 0 w || (decide (w = i) && decide (M 112 (256 * r + i) = 1))) := by
        rcases hrow i hi hl with e | e
        · refine ⟨0, by rw [e]; rfl, fun M2 w => ?_⟩
          rw [sb_orz, e, show decide ((0 : Int) = 1) = false from rfl, Bool.and_false, Bool.or_false]
        · refine ⟨_, by rw [e]; rfl, fun M2 w => ?_⟩
          rw [sb_or0, e, show decide ((1 : Int) = 1) = true from rfl, Bool.and_true]
      obtain ⟨v, hv1, hv2⟩ := hv
      rw [show b1 true = 1 from rfl, if_neg nz1, idiv64 (by omega), irem64 (by omega), chk_pos (by omega), tn_nat, lt1_eq, chk_pos (by omega)]
      unfold M_spot
      rw [bind_some', chk_pos (by omega), show Int.toNat (256 * (r : Int) + (i : Int)) = 256 * r + i by omega, up_c (by decide), f1 112 _ (by decide) (by decide) (by decide), hv1, bind_some', lt1_eq, Z_bind_iff, Z_bind_iff]
      generalize hM3 : up (up M1 126 (i / 64) (jor (M1 126 (i / 64)) (jshl 1 ((i % 64 : Nat) : Int)))) 128 (i / 64) (jor (up M1 126 (i / 64) (jor (M1 126 (i / 64)) (jshl 1 ((i % 64 : Nat) : Int))) 128 (i / 64)) v) = M3
      have k1 : ∀ w, w < 256 → sb M3 126 0 w = (sb M1 126 0 w || decide (w = i)) := fun w hw => by rw [← hM3, sb_up_c (by decide), sb_or0]
      have k2 : ∀ w, w < 256 → sb M3 128 0 w = (sb M1 128 0 w || (decide (w = i) && decide (M 112 (256 * r + i) = 1))) := fun w hw => by rw [← hM3, hv2, sb_up_c (by decide)]
      have k3 : ∀ c j, c ≠ 126 → c ≠ 128 → M3 c j = M1 c j := fun c j h1 h2 => by rw [← hM3, up_c h2, up_c h1]
      clear hM3
      have k4 : ∀ c j, c ≠ 126 → c ≠ 127 → c ≠ 128 → M3 c j = M c j := fun c j h1 h2 h3 => (k3 c j h1 h3).trans (f1 c j h1 h2 h3)
      refine Z_mono (heard_p (b := b) (M := M3) (w := i) hb (by omega) hm hn (by rw [k4 81 _ (by decide) (by decide) (by decide)]; exact h38) (by rw [k4 85 _ (by decide) (by decide) (by decide)]; exact h85) (by rw [k4 86 _ (by decide) (by decide) (by decide)]; exact h86) (fun p q hp hq => by rw [k4 114 _ (by decide) (by decide) (by decide)]; exact ha i hi hl p q hp hq)) ?_
      rintro M4 ⟨q1, q2⟩
      refine Z_of ?_
      rw [lt1_eq]
      refine Z_of (Or.inl ⟨_, rfl, rfl, fun c j h1 h2 h3 => (q1 c j h2).trans (k4 c j h1 h2 h3), fun w hw => ?_, fun w hw => ?_, fun p q a w h1 h2 h3 h4 => ?_⟩)
      · dsimp only
        rw [sb_eq (q1 126 _ (by decide)), k1 w hw, g1 w hw, dec_succ]
        congr 1
        by_cases e : w = i
        · subst e; rw [hl]; simp
        · rw [decide_eq_false e]; rfl
      · dsimp only
        rw [sb_eq (q1 128 _ (by decide)), k2 w hw, g2 w hw, dec_succ]
        congr 1
        by_cases e : w = i
        · subst e; rw [hl]; rfl
        · rw [decide_eq_false e]; rfl
      · dsimp only
        rw [q2 p q a w (by omega) (by omega) h3 h4, sb_eq (k3 127 _ (by decide) (by decide)), g3 p q a w h1 h2 h3 h4, dec_succ, k4 114 _ (by decide) (by decide) (by decide)]
        congr 1
        by_cases e : w = i
        · subst e
          rw [hl, decide_eq_true (show w = w from rfl), Bool.true_and, Bool.true_and, decide_eq_decide]
          exact ⟨fun z => z.2.2.2, fun z => ⟨h1, h2, rfl, z⟩⟩
        · rw [decide_eq_false e, Bool.false_and, decide_eq_false (fun z => e z.2.2.1)]
  · rintro ⟨l, M1⟩ ⟨el, f1, g1, g2, g3⟩
    dsimp only at el f1 g1 g2 g3
    subst el
    unfold M_layHeard_b51
    dsimp only
    rw [hWM M1 f1, bind_some', if_neg (by omega)]
    exact Z_of ⟨_, rfl, f1, g1, g2, g3⟩
theorem zero127 {M : Mem} : it M_layHeard_b2 FUEL (0, M) = some (wup M 127 0 1152 (fun _ => 0)) := by
  refine it_for (fun i => ((i : Int), wup M 127 0 i (fun _ => 0))) 1152 (by unfold FUEL; omega) (by rw [wup_0]; rfl) ?_ ?_
  · intro i hi
    have e := wup_s (M := M) (c := 127) (o := 0) (i := i) (f := fun _ => 0) (v := 0) rfl
    rw [Nat.zero_add] at e
    unfold M_layHeard_b2
    dsimp only
    rw [n32_nat (by omega), if_pos (by omega), chk_pos (by omega), lt1_eq, lt1_eq, tn_nat, e]
    rfl
  · unfold M_layHeard_b2
    dsimp only
    rw [if_neg (by decide)]
theorem zero128 {M : Mem} : Z (it M_layHeard_b24 FUEL (0, M)) (fun M' => (∀ c j, c ≠ 126 → c ≠ 128 → M' c j = M c j) ∧ ∀ j, j < 4 → M' 126 j = 0 ∧ M' 128 j = 0) := by
  refine it_Z (fun i st => st.1 = (i : Int) ∧ (∀ c j, c ≠ 126 → c ≠ 128 → st.2 c j = M c j) ∧ ∀ j, j < i → st.2 126 j = 0 ∧ st.2 128 j = 0) 4 (by unfold FUEL; omega) ⟨rfl, fun _ _ _ _ => rfl, fun j hj => by omega⟩ ?_ ?_
  · rintro i ⟨l, M1⟩ hi ⟨el, f1, f2⟩
    dsimp only at el f1 f2
    subst el
    unfold M_layHeard_b24
    dsimp only
    rw [n32_nat (by omega), if_pos (by omega), chk_pos (by omega), lt1_eq, chk_pos (by omega), lt1_eq, lt1_eq, tn_nat]
    refine Z_of (Or.inl ⟨_, rfl, rfl, fun c j h1 h2 => ?_, fun j hj => ?_⟩)
    · dsimp only
      rw [up_c h1, up_c h2]
      exact f1 c j h1 h2
    · dsimp only
      rw [up_at, up_at, up_at, up_at]
      by_cases e : j = i
      · subst e
        rw [if_pos ⟨rfl, rfl⟩, if_neg (by omega), if_pos ⟨rfl, rfl⟩]
        exact ⟨rfl, rfl⟩
      · rw [if_neg (by omega), if_neg (by omega), if_neg (by omega), if_neg (by omega)]
        exact f2 j (by omega)
  · rintro ⟨l, M1⟩ ⟨el, f1, f2⟩
    dsimp only at el f1 f2
    subst el
    unfold M_layHeard_b24
    dsimp only
    rw [if_neg (by decide)]
    exact Z_of ⟨_, rfl, f1, f2⟩
theorem sb_zero {M : Mem} {c o w : Nat} (h : M c (o + w / 64) = 0) : sb M c o w = false := by
  unfold sb
  rw [h, qb_0]
theorem heard_eq {t : Nat} {C R R' : Mem} {k : Int} {r : Nat} (hb : b < 2) (h38 : R' 81 38 = (b : Int)) (hT : Town t b C R) (hL : LfR b k R R') (hr : r < nR R b) : Z (M_layHeard (r : Int) R') (fun M' => AM t b C R r (lfB R b k) M' ∧ (∀ w, w < 256 → lfB R b k w = true → sb M' 128 0 w = rowI R r w) ∧ ∀ w, w < 256 → sb M' 126 0 w = lfB R b k w) := by
  have hN := hT.1
  have hF := num_F hN
  have hP := num_P hN
  have hR := num_R hN
  obtain ⟨-, -, -, -, -, hB, hRo, hAn, -⟩ := hT
  obtain ⟨g1, g2, gf⟩ := hL
  have hlt : ∀ w, w < 256 → lfB R b k w = true → w < 2 ^ nF R b := by
    intro w hw h
    refine Classical.byContradiction (fun z => ?_)
    have h1 := lfB_base h
    unfold isB at h1
    rw [hB.2.1 w (by omega) hw] at h1
    cases h1
  have hdl : ∀ w, w < 256 → (decide (w < 2 ^ nF R b) && lfB R b k w) = lfB R b k w := by
    intro w hw
    cases h : lfB R b k w with
    | false => rw [Bool.and_false]
    | true => rw [decide_eq_true (hlt w hw h)]; rfl
  have hwd := pow_wd hF.2.2
  unfold M_layHeard
  rw [zero127, bind_some', Z_bind_iff]
  refine Z_mono zero128 ?_
  rintro M2 ⟨f1, f2⟩
  have f3 : ∀ c j, c ≠ 126 → c ≠ 127 → c ≠ 128 → M2 c j = R' c j := fun c j h1 h2 h3 => by rw [f1 c j h1 h3, wup_c h2]
  have f4 : ∀ c j, 84 ≤ c → c ≤ 114 → M2 c j = R c j := fun c j h1 h2 => (f3 c j (by omega) (by omega) (by omega)).trans (gf c j (by omega))
  rw [Z_bind_iff]
  refine Z_mono (heard_w (b := b) (M := M2) (lf := lfB R b k) (F := nF R b) (m := nP R b) (n := nR R b) (r := r) hb hF.2.2 hP.2.2 hR.2.2 hr (by rw [f3 81 _ (by decide) (by decide) (by decide)]; exact h38) (by rw [f4 84 _ (by decide) (by decide)]; exact hF.1) (by rw [f4 85 _ (by decide) (by decide)]; exact hP.1) (by rw [f4 86 _ (by decide) (by decide)]; exact hR.1) (fun w hw => by rw [f3 122 _ (by decide) (by decide) (by decide)]; exact g1 w hw) (fun w hw hl => by rw [f4 112 _ (by decide) (by decide)]; exact (hRo r w hr hw (lfB_base hl)).1) (fun w hw hl p q hp hq => ?_) (fun w hw => sb_zero (by rw [Nat.zero_add]; exact (f2 _ (by omega)).1)) (fun w hw => sb_zero (by rw [Nat.zero_add]; exact (f2 _ (by omega)).2)) (fun p q a w h1 h2 h3 h4 => sb_zero ?_)) ?_
  · rw [f4 114 _ (by decide) (by decide)]
    have e := (hAn p q w hp hq (by omega)).1 (lfB_base hl)
    unfold ansV at e
    rcases e with e | e | e
    · exact ⟨0, by omega, e⟩
    · exact ⟨1, by omega, e⟩
    · exact ⟨2, by omega, e⟩
  · rw [f1 127 _ (by decide) (by decide)]
    have e := wup_in (M := R') (c := 127) (o := 0) (n := 1152) (f := fun _ => (0 : Int)) (i := 12 * (12 * p + q) + 4 * a + w / 64) (by omega)
    rw [Nat.zero_add] at e
    exact e
  · rintro M3 ⟨q1, q2, q3, q4⟩
    refine Z_of ?_
    have hrow : ∀ w, w < 256 → lfB R b k w = true → sb M3 128 0 w = rowI R r w := by
      intro w hw hl
      rw [q3 w hw, decide_eq_true (hlt w hw hl), hl, f4 112 _ (by decide) (by decide)]
      rfl
    refine ⟨⟨hN, ⟨?_, ?_, ?_⟩, fun p q hp hq => ⟨fun a ha w hw => ?_, hrow⟩⟩, hrow, fun w hw => ?_⟩
    · rw [q1 81 _ (by decide) (by decide) (by decide), f3 81 _ (by decide) (by decide) (by decide)]; exact h38
    · rw [q1 85 _ (by decide) (by decide) (by decide), f4 85 _ (by decide) (by decide)]
    · rw [q1 86 _ (by decide) (by decide) (by decide), f4 86 _ (by decide) (by decide)]
    · rw [q4 p q a w hp hq ha hw, ← Bool.and_assoc, hdl w hw, f4 114 _ (by decide) (by decide)]
      rfl
    · rw [q2 w hw]
      exact hdl w hw
end HRE
