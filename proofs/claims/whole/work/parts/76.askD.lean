/-! ===== askings: what would be heard, the reference ===== -/
theorem idiv64 {w : Nat} (h : w < 256) : idiv' (w : Int) 64 = ((w / 64 : Nat) : Int) := by
  have : ∀ w : Nat, w < 256 → idiv' (w : Int) 64 = ((w / 64 : Nat) : Int) := by decide +kernel
  exact this w h
theorem irem64 {w : Nat} (h : w < 256) : irem' (w : Int) 64 = ((w % 64 : Nat) : Int) := by
  have : ∀ w : Nat, w < 256 → irem' (w : Int) 64 = ((w % 64 : Nat) : Int) := by decide +kernel
  exact this w h
theorem sb_or {M : Mem} {c o w w' : Nat} : sb (up M c (o + w / 64) (jor (M c (o + w / 64)) (jshl 1 ((w % 64 : Nat) : Int)))) c o w' = (sb M c o w' || decide (w' = w)) := by
  unfold sb
  by_cases e : w' / 64 = w / 64
  · rw [e, up_eq, qb_or, qb_bit (by omega)]
    congr 1
    by_cases q : w' = w
    · rw [decide_eq_true (by omega), decide_eq_true q]
    · rw [decide_eq_false (by omega), decide_eq_false q]
  · rw [up_k (by omega), decide_eq_false (by rintro rfl; exact e rfl), Bool.or_false]
theorem sb_up_o {M : Mem} {c o k w : Nat} {v : Int} (h : o + w / 64 ≠ k) : sb (up M c k v) c o w = sb M c o w := by
  unfold sb
  rw [up_k h]
theorem sb_up_c {M : Mem} {c c' o k w : Nat} {v : Int} (h : c' ≠ c) : sb (up M c k v) c' o w = sb M c' o w := by
  unfold sb
  rw [up_c h]
section HRD
variable {b : Nat}
theorem heard_q (hb : b < 2) {M : Mem} {w p n : Nat} (hw : w < 256) (hp : p < 8) (hn : n ≤ 12) (h38 : M 81 38 = (b : Int)) (h86 : M 86 b = (n : Int)) (ha : ∀ q, q < n → ∃ a : Nat, a < 3 ∧ M 114 (256 * (12 * p + q) + w) = (a : Int)) : Z (it (M_layHeard_b137 (w : Int) (p : Int)) FUEL (0, M)) (fun M' => (∀ c j, c ≠ 127 → M' c j = M c j) ∧ ∀ p' q a w', p' < 8 → q < 12 → a < 3 → w' < 256 → sb M' 127 (12 * (12 * p' + q) + 4 * a) w' = (sb M 127 (12 * (12 * p' + q) + 4 * a) w' || decide (p' = p ∧ q < n ∧ w' = w ∧ M 114 (256 * (12 * p' + q) + w) = (a : Int)))) := by
  refine it_Z (fun i st => st.1 = (i : Int) ∧ (∀ c j, c ≠ 127 → st.2 c j = M c j) ∧ ∀ p' q a w', p' < 8 → q < 12 → a < 3 → w' < 256 → sb st.2 127 (12 * (12 * p' + q) + 4 * a) w' = (sb M 127 (12 * (12 * p' + q) + 4 * a) w' || decide (p' = p ∧ q < i ∧ w' = w ∧ M 114 (256 * (12 * p' + q) + w) = (a : Int)))) n (by unfold FUEL; omega) ⟨rfl, fun _ _ _ => rfl, fun p' q a w' _ _ _ _ => by rw [decide_eq_false (by omega), Bool.or_false]⟩ ?_ ?_
  · rintro i ⟨l, M1⟩ hi ⟨el, f1, f2⟩
    dsimp only at el f1 f2
    subst el
    obtain ⟨a0, ha0, ea⟩ := ha i hi
    unfold M_layHeard_b137 M_rowMany M_answerAt
    dsimp only
    rw [f1 81 _ (by decide), h38, chk_pos (by omega), tn_nat, f1 86 _ (by decide), h86, bind_some', n32_nat (by omega), n32_nat (by omega), if_pos (by omega), chk_pos (by omega), bind_some', show Int.toNat (256 * (12 * (p : Int) + (i : Int)) + (w : Int)) = 256 * (12 * p + i) + w by omega, f1 114 _ (by decide), ea, idiv64 hw, irem64 hw, chk_pos (by omega), lt1_eq, lt1_eq, show Int.toNat (12 * (12 * (p : Int) + (i : Int)) + 4 * (a0 : Int) + ((w / 64 : Nat) : Int)) = 12 * (12 * p + i) + 4 * a0 + w / 64 by omega]
    refine Z_of (Or.inl ⟨_, rfl, rfl, fun c j hc => ?_, fun p' q a w' h1 h2 h3 h4 => ?_⟩)
    · dsimp only
      rw [up_c hc]
      exact f1 c j hc
    · dsimp only
      by_cases e : p' = p ∧ q = i ∧ a = a0
      · obtain ⟨rfl, rfl, rfl⟩ := e
        rw [sb_or, f2 p' q a w' h1 h2 h3 h4, Bool.or_assoc]
        congr 1
        rw [decide_eq_false (show ¬ (p' = p' ∧ q < q ∧ w' = w ∧ M 114 (256 * (12 * p' + q) + w) = (a : Int)) by omega), Bool.false_or, decide_eq_decide]
        exact ⟨fun z => ⟨rfl, by omega, z, ea⟩, fun z => z.2.2.1⟩
      · rw [sb_up_o (by omega), f2 p' q a w' h1 h2 h3 h4]
        congr 1
        rw [decide_eq_decide]
        constructor
        · rintro ⟨z1, z2, z3, z4⟩
          exact ⟨z1, by omega, z3, z4⟩
        · rintro ⟨z1, z2, z3, z4⟩
          refine ⟨z1, ?_, z3, z4⟩
          refine Classical.byContradiction (fun z => e ⟨z1, by omega, ?_⟩)
          have : q = i := by omega
          subst this z1
          rw [ea] at z4
          omega
  · rintro ⟨l, M1⟩ ⟨el, f1, f2⟩
    dsimp only at el f1 f2
    subst el
    unfold M_layHeard_b137 M_rowMany
    dsimp only
    rw [f1 81 _ (by decide), h38, chk_pos (by omega), tn_nat, f1 86 _ (by decide), h86, bind_some', if_neg (by omega)]
    exact Z_of ⟨_, rfl, f1, f2⟩
theorem heard_p (hb : b < 2) {M : Mem} {w m n : Nat} (hw : w < 256) (hm : m ≤ 8) (hn : n ≤ 12) (h38 : M 81 38 = (b : Int)) (h85 : M 85 b = (m : Int)) (h86 : M 86 b = (n : Int)) (ha : ∀ p q, p < m → q < n → ∃ a : Nat, a < 3 ∧ M 114 (256 * (12 * p + q) + w) = (a : Int)) : Z (it (M_layHeard_b126 (w : Int)) FUEL (0, M)) (fun M' => (∀ c j, c ≠ 127 → M' c j = M c j) ∧ ∀ p' q a w', p' < 8 → q < 12 → a < 3 → w' < 256 → sb M' 127 (12 * (12 * p' + q) + 4 * a) w' = (sb M 127 (12 * (12 * p' + q) + 4 * a) w' || decide (p' < m ∧ q < n ∧ w' = w ∧ M 114 (256 * (12 * p' + q) + w) = (a : Int)))) := by
  refine it_Z (fun i st => st.1 = (i : Int) ∧ (∀ c j, c ≠ 127 → st.2 c j = M c j) ∧ ∀ p' q a w', p' < 8 → q < 12 → a < 3 → w' < 256 → sb st.2 127 (12 * (12 * p' + q) + 4 * a) w' = (sb M 127 (12 * (12 * p' + q) + 4 * a) w' || decide (p' < i ∧ q < n ∧ w' = w ∧ M 114 (256 * (12 * p' + q) + w) = (a : Int)))) m (by unfold FUEL; omega) ⟨rfl, fun _ _ _ => rfl, fun p' q a w' _ _ _ _ => by rw [decide_eq_false (by omega), Bool.or_false]⟩ ?_ ?_
  · rintro i ⟨l, M1⟩ hi ⟨el, f1, f2⟩
    dsimp only at el f1 f2
    subst el
    unfold M_layHeard_b126 M_personMany
    dsimp only
    rw [f1 81 _ (by decide), h38, chk_pos (by omega), tn_nat, f1 85 _ (by decide), h85, bind_some', n32_nat (by omega), n32_nat (by omega), if_pos (by omega), Z_bind_iff]
    refine Z_mono (heard_q (M := M1) hb hw (show i < 8 by omega) hn (by rw [f1 81 _ (by decide)]; exact h38) (by rw [f1 86 _ (by decide)]; exact h86) (fun q hq => by rw [f1 114 _ (by decide)]; exact ha i q hi hq)) ?_
    rintro M2 ⟨g1, g2⟩
    rw [lt1_eq]
    refine Z_of (Or.inl ⟨_, rfl, rfl, fun c j hc => (g1 c j hc).trans (f1 c j hc), fun p' q a w' h1 h2 h3 h4 => ?_⟩)
    dsimp only
    rw [g2 p' q a w' h1 h2 h3 h4, f2 p' q a w' h1 h2 h3 h4, Bool.or_assoc, f1 114 _ (by decide)]
    congr 1
    rw [← Bool.decide_or, decide_eq_decide]
    constructor
    · rintro (⟨z1, z2, z3, z4⟩ | ⟨z1, z2, z3, z4⟩)
      · exact ⟨by omega, z2, z3, z4⟩
      · exact ⟨by omega, z2, z3, z4⟩
    · rintro ⟨z1, z2, z3, z4⟩
      by_cases z : p' = i
      · exact Or.inr ⟨z, z2, z3, z4⟩
      · exact Or.inl ⟨by omega, z2, z3, z4⟩
  · rintro ⟨l, M1⟩ ⟨el, f1, f2⟩
    dsimp only at el f1 f2
    subst el
    unfold M_layHeard_b126 M_personMany
    dsimp only
    rw [f1 81 _ (by decide), h38, chk_pos (by omega), tn_nat, f1 85 _ (by decide), h85, bind_some', if_neg (by omega)]
    exact Z_of ⟨_, rfl, f1, f2⟩
end HRD
