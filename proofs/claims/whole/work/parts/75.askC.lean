/-! ===== askings: one question is enough, the reference ===== -/
section ASKC
variable {t b r : Nat} {C R : Mem} {L : Nat → Bool}
def AM (t b : Nat) (C R : Mem) (r : Nat) (L : Nat → Bool) (M : Mem) : Prop := NumR t b C R ∧ (M 81 38 = (b : Int) ∧ M 85 b = R 85 b ∧ M 86 b = R 86 b) ∧ ∀ p q, p < nP R b → q < nR R b → RH R p q r L M
theorem AM_keep {M M' : Mem} (h : AM t b C R r L M) (hc : ∀ c j, c ≠ 126 → M' c j = M c j) : AM t b C R r L M' := by
  obtain ⟨h1, ⟨h2, h3, h4⟩, h5⟩ := h
  refine ⟨h1, ⟨by rw [hc _ _ (by decide)]; exact h2, by rw [hc _ _ (by decide)]; exact h3, by rw [hc _ _ (by decide)]; exact h4⟩, fun p q hp hq => ⟨fun a ha w hw => ?_, fun w hw hl => ?_⟩⟩
  · rw [← (h5 p q hp hq).1 a ha w hw]; exact sb_eq (hc _ _ (by decide))
  · rw [← (h5 p q hp hq).2 w hw hl]; exact sb_eq (hc _ _ (by decide))
theorem AM_P {M : Mem} (hb : b < 2) (h : AM t b C R r L M) : M_personMany M = some (nP R b : Int) := by
  obtain ⟨h1, ⟨h2, h3, -⟩, -⟩ := h
  unfold M_personMany
  rw [h2, chk_pos (by omega), tn_nat, h3, (num_P h1).1]
theorem AM_R {M : Mem} (hb : b < 2) (h : AM t b C R r L M) : M_rowMany M = some (nR R b : Int) := by
  obtain ⟨h1, ⟨h2, -, h3⟩, -⟩ := h
  unfold M_rowMany
  rw [h2, chk_pos (by omega), tn_nat, h3, (num_R h1).1]
/-- what the question of number l does: it is of some person and row, and each answer leaves a set with g -/
def qB (R : Mem) (b : Nat) (g : Nat → Nat → Nat → Bool) (l : Nat) : Bool := decide (l % 12 < nR R b) && allB (fun a => g (l / 12) (l % 12) a) 3
theorem qB_any {g : Nat → Nat → Nat → Bool} (hR : nR R b ≤ 12) : anyB (qB R b g) (12 * nP R b) = anyB (fun p => anyB (fun q => allB (fun a => g p q a) 3) (nR R b)) (nP R b) := by
  refine bool_iff ?_
  rw [anyB_iff, anyB_iff]
  constructor
  · rintro ⟨l, h1, h2⟩
    unfold qB at h2
    rw [Bool.and_eq_true, decide_eq_true_eq] at h2
    exact ⟨l / 12, by omega, anyB_iff.mpr ⟨l % 12, h2.1, h2.2⟩⟩
  · rintro ⟨p, h1, h2⟩
    obtain ⟨q, h3, h4⟩ := anyB_iff.mp h2
    refine ⟨12 * p + q, by omega, ?_⟩
    unfold qB
    rw [show (12 * p + q) / 12 = p by omega, show (12 * p + q) % 12 = q by omega, Bool.and_eq_true, decide_eq_true_eq]
    exact ⟨h3, h4⟩
def g1B (R : Mem) (r : Nat) (S : Nat → Bool) (p q a : Nat) : Bool := tolB R r 256 (aks R S p q a)
theorem byOne_eq (hb : b < 2) {lv : Nat} (hlv : lv < 3) {S : Nat → Bool} {M : Mem} (hA : AM t b C R r L M) (hrow : ∀ w, w < 256 → L w = true → sb M 128 0 w = rowI R r w) (hSL : ∀ w, w < 256 → S w = true → L w = true) (hS : ∀ w, w < 256 → sb M 126 (4 * lv) w = S w) : Z (M_byOne (lv : Int) M) (fun x => x.1 = b1 (tolB R r 256 S || onB R b r 256 S) ∧ (∀ c j, c ≠ 126 → x.2 c j = M c j) ∧ ∀ j, j < 4 * lv + 4 → x.2 126 j = M 126 j) := by
  have hP8 := (num_P hA.1).2.2
  have hR12 := (num_R hA.1).2.2
  have hO := M_isOne_eq (R := R) (r := r) (lv := lv) (M := M) (S := S) (by omega) hS (fun w hw hs => hrow w hw (hSL w hw hs))
  unfold M_byOne
  rw [hO, bind_some']
  cases hT : tolB R r 256 S with
  | true =>
    rw [show b1 true = 1 from rfl, if_pos nz1]
    exact Z_of ⟨rfl, fun _ _ _ => rfl, fun _ _ => rfl⟩
  | false =>
    rw [show b1 false = 0 from rfl, if_neg nz0, Bool.false_or, Z_bind_iff]
    have eon : onB R b r 256 S = anyB (qB R b (g1B R r S)) (12 * nP R b) := (qB_any hR12).symm
    rw [eon]
    have key : Z (it (M_byOne_b12 (lv : Int)) FUEL (0, M)) (fun x => (∃ M2, x = .inl M2 ∧ anyB (qB R b (g1B R r S)) (12 * nP R b) = false ∧ (∀ c j, c ≠ 126 → M2 c j = M c j) ∧ ∀ j, j < 4 * lv + 4 → M2 126 j = M 126 j) ∨ (∃ M2, x = .inr (1, M2) ∧ anyB (qB R b (g1B R r S)) (12 * nP R b) = true ∧ (∀ c j, c ≠ 126 → M2 c j = M c j) ∧ ∀ j, j < 4 * lv + 4 → M2 126 j = M 126 j)) := by
      refine it_Z (fun i st => st.1 = (i : Int) ∧ (∀ l, l < i → qB R b (g1B R r S) l = false) ∧ (∀ c j, c ≠ 126 → st.2 c j = M c j) ∧ ∀ j, j < 4 * lv + 4 → st.2 126 j = M 126 j) (12 * nP R b) (by unfold FUEL; omega) ⟨rfl, fun _ h => by omega, fun _ _ _ => rfl, fun _ _ => rfl⟩ ?_ ?_
      · rintro i ⟨l, M1⟩ hi ⟨el, hn, f1, f2⟩
        dsimp only at el hn f1 f2
        subst el
        have hA1 := AM_keep hA f1
        have hS1 : ∀ w, w < 256 → sb M1 126 (4 * lv) w = S w := fun w hw => by rw [← hS w hw]; exact sb_eq (f2 _ (by omega))
        unfold M_byOne_b12
        dsimp only
        rw [AM_P hb hA1, bind_some', show (12 : Int) * (nP R b : Int) = ((12 * nP R b : Nat) : Int) by omega, n32_nat (by omega), n32_nat (by omega), if_pos (by omega)]
        have next : qB R b (g1B R r S) i = false → ∀ M2 : Mem, (∀ c j, c ≠ 126 → M2 c j = M c j) → (∀ j, j < 4 * lv + 4 → M2 126 j = M 126 j) → Z (some (Sum.inl ((i : Int) + 1, M2)) : Option ((Int × Mem) ⊕ (Mem ⊕ (Int × Mem)))) (fun r_1 => (∃ a', r_1 = Sum.inl a' ∧ a'.1 = ((i + 1 : Nat) : Int) ∧ (∀ l, l < i + 1 → qB R b (g1B R r S) l = false) ∧ (∀ c j, c ≠ 126 → a'.2 c j = M c j) ∧ ∀ j, j < 4 * lv + 4 → a'.2 126 j = M 126 j) ∨ ∃ b_1, r_1 = Sum.inr b_1 ∧ ((∃ M2, b_1 = Sum.inl M2 ∧ anyB (qB R b (g1B R r S)) (12 * nP R b) = false ∧ (∀ c j, c ≠ 126 → M2 c j = M c j) ∧ ∀ j, j < 4 * lv + 4 → M2 126 j = M 126 j) ∨ ∃ M2, b_1 = Sum.inr (1, M2) ∧ anyB (qB R b (g1B R r S)) (12 * nP R b) = true ∧ (∀ c j, c ≠ 126 → M2 c j = M c j) ∧ ∀ j, j < 4 * lv + 4 → M2 126 j = M 126 j)) := by
          intro hq M2 g1 g2
          refine Z_of (Or.inl ⟨_, rfl, rfl, fun l hl => ?_, g1, g2⟩)
          by_cases e : l = i
          · subst e; exact hq
          · exact hn l (by omega)
        by_cases hq : i % 12 < nR R b
        · have hRH := hA1.2.2 (i / 12) (i % 12) (by omega) hq
          have ei : 12 * (i / 12) + i % 12 = i := by omega
          have hH : ∀ a, a < 3 → ∀ w, w < 256 → sb M1 127 (12 * i + 4 * a) w = (L w && decide (ansV R (i / 12) (i % 12) w = (a : Int))) := fun a ha w hw => by
            have := hRH.1 a ha w hw
            rw [ei] at this
            exact this
          rw [splits_eq (S := S) (H := fun a w => L w && decide (ansV R (i / 12) (i % 12) w = (a : Int))) (by omega) (by omega) hR12 (AM_R hb hA1) hq hS1 hH, bind_some', jn_eq]
          cases hs : anyB (fun a => suB S (fun w => L w && decide (ansV R (i / 12) (i % 12) w = (a : Int))) 256) 3 with
          | true =>
            rw [show b1 (!true) = 0 from rfl, if_pos (by decide)]
            refine next ?_ M1 f1 f2
            have := prune (r := r) hT hs
            unfold qB g1B
            rw [this, Bool.and_false]
          | false =>
            rw [show b1 (!false) = 1 from rfl, if_neg nz1, Z_bind_iff]
            have hin := byOne_in (lv := lv) (p := i / 12) (q := i % 12) (r := r) hlv (by omega) (by omega) hRH hSL hS1
            rw [ei] at hin
            refine Z_mono hin ?_
            rintro ⟨x, M2⟩ ⟨e1, g1, g2⟩
            dsimp only at e1 g1 g2
            dsimp only
            have g1' : ∀ c j, c ≠ 126 → M2 c j = M c j := fun c j hc => (g1 c j hc).trans (f1 c j hc)
            have g2' : ∀ j, j < 4 * lv + 4 → M2 126 j = M 126 j := fun j hj => (g2 j hj).trans (f2 j hj)
            rw [e1]
            cases hb : allB (fun a => tolB R r 256 (aks R S (i / 12) (i % 12) a)) 3 with
            | true =>
              rw [show b1 true = 1 from rfl, if_pos nz1]
              refine Z_of (Or.inr ⟨_, rfl, Or.inr ⟨_, rfl, anyB_iff.mpr ⟨i, hi, ?_⟩, g1', g2'⟩⟩)
              unfold qB g1B
              rw [hb, decide_eq_true hq]
              rfl
            | false =>
              rw [show b1 false = 0 from rfl, if_neg nz0, lt1_eq]
              refine next ?_ M2 g1' g2'
              unfold qB g1B
              rw [hb, Bool.and_false]
        · rw [splits_no (by omega) hR12 (AM_R hb hA1) (by omega), bind_some', jn_eq, if_pos (by decide)]
          refine next ?_ M1 f1 f2
          unfold qB
          rw [decide_eq_false hq]
          rfl
      · rintro ⟨l, M1⟩ ⟨el, hn, f1, f2⟩
        dsimp only at el hn f1 f2
        subst el
        unfold M_byOne_b12
        dsimp only
        rw [AM_P hb (AM_keep hA f1), bind_some', show (12 : Int) * (nP R b : Int) = ((12 * nP R b : Nat) : Int) by omega, if_neg (by omega)]
        exact Z_of ⟨_, rfl, Or.inl ⟨_, rfl, anyB_no.mpr hn, f1, f2⟩⟩
    refine Z_mono key ?_
    rintro x (⟨M2, rfl, e, g1, g2⟩ | ⟨M2, rfl, e, g1, g2⟩)
    · dsimp only
      rw [e]
      exact Z_of ⟨rfl, g1, g2⟩
    · dsimp only
      rw [e]
      exact Z_of ⟨rfl, g1, g2⟩
end ASKC
