/-! ===== the town's sets: what one can't tell apart ===== -/
/-- worlds differ at most in facts below k that are not known -/
def agr (kn k v w : Nat) : Bool := allB (fun f => (v.testBit f == w.testBit f) || (decide (f < k) && !kn.testBit f)) 8
def eqv (kn v w : Nat) : Bool := decide ((v ^^^ w) &&& kn = 0)
theorem agr_0 {kn v w : Nat} (hv : v < 256) (hw : w < 256) : agr kn 0 v w = true ↔ v = w := by
  unfold agr
  rw [allB_iff]
  constructor
  · intro h
    apply Nat.eq_of_testBit_eq
    intro i
    by_cases hi : i < 8
    · have := h i hi
      simpa using this
    · rw [testBit_lt8 (n := 8) hv (by omega), testBit_lt8 (n := 8) hw (by omega)]
  · rintro rfl i _
    simp
theorem agr_s1 {kn k v w : Nat} (h : kn.testBit k = true) : agr kn (k + 1) v w = agr kn k v w := by
  unfold agr
  refine allB_congr (fun f _ => ?_)
  congr 1
  by_cases e : f = k
  · subst e; rw [h]; simp
  · congr 1
    rw [decide_eq_decide]
    omega
theorem agr_s0 {kn k v w : Nat} (h : kn.testBit k = false) (hk : k < 8) : agr kn (k + 1) v w = (agr kn k v w || agr kn k v (w ^^^ 2 ^ k)) := by
  refine bool_iff ?_
  rw [Bool.or_eq_true]
  unfold agr
  rw [allB_iff, allB_iff, allB_iff]
  have hx : ∀ f, (w ^^^ 2 ^ k).testBit f = (w.testBit f ^^ decide (k = f)) := fun f => by rw [Nat.testBit_xor, Nat.testBit_two_pow]
  constructor
  · intro hh
    by_cases e : v.testBit k = w.testBit k
    · refine Or.inl (fun f hf => ?_)
      have := hh f hf
      by_cases q : f = k
      · subst q; rw [e]; simp
      · rw [decide_eq_decide.mpr (show f < k + 1 ↔ f < k by omega)] at this
        exact this
    · refine Or.inr (fun f hf => ?_)
      have := hh f hf
      rw [hx]
      by_cases q : f = k
      · subst q
        rw [decide_eq_true rfl]
        cases h1 : v.testBit f <;> cases h2 : w.testBit f <;> rw [h1, h2] at e <;> simp at e ⊢
      · rw [decide_eq_false (fun z => q z.symm), Bool.xor_false]
        rw [decide_eq_decide.mpr (show f < k + 1 ↔ f < k by omega)] at this
        exact this
  · rintro (hh | hh) f hf
    · have := hh f hf
      by_cases q : f = k
      · subst q; rw [h, decide_eq_true (show f < f + 1 by omega)]; simp
      · rw [decide_eq_decide.mpr (show f < k + 1 ↔ f < k by omega)]
        exact this
    · have := hh f hf
      by_cases q : f = k
      · subst q; rw [h, decide_eq_true (show f < f + 1 by omega)]; simp
      · rw [hx, decide_eq_false (fun z => q z.symm), Bool.xor_false] at this
        rw [decide_eq_decide.mpr (show f < k + 1 ↔ f < k by omega)]
        exact this
theorem agr_F {kn F v w : Nat} (hF : F ≤ 8) (hkn : kn < 256) (hv : v < 2 ^ F) (hw : w < 2 ^ F) : agr kn F v w = eqv kn v w := by
  refine bool_iff ?_
  unfold agr eqv
  rw [allB_iff, decide_eq_true_eq]
  have h0 : (v ^^^ w) &&& kn = 0 ↔ ∀ i, ((v ^^^ w) &&& kn).testBit i = false := by
    constructor
    · intro h i; rw [h]; exact Nat.zero_testBit i
    · intro h
      apply Nat.eq_of_testBit_eq
      intro i
      rw [h i, Nat.zero_testBit]
  rw [h0]
  constructor
  · intro h i
    rw [Nat.testBit_and, Nat.testBit_xor]
    by_cases hi : i < 8
    · have := h i hi
      cases h1 : v.testBit i <;> cases h2 : w.testBit i <;> cases h3 : kn.testBit i <;> rw [h1, h2, h3] at this <;> simp at this ⊢
    · rw [testBit_lt8 (n := 8) hkn (by omega)]; simp
  · intro h i hi
    have := h i
    rw [Nat.testBit_and, Nat.testBit_xor] at this
    by_cases q : i < F
    · rw [decide_eq_true q]
      cases h1 : v.testBit i <;> cases h2 : w.testBit i <;> cases h3 : kn.testBit i <;> rw [h1, h2, h3] at this <;> simp at this ⊢
    · rw [testBit_lt8 hv (by omega), testBit_lt8 hw (by omega)]; simp
theorem xor_lt {F w f : Nat} (hw : w < 2 ^ F) (hf : f < F) : w ^^^ 2 ^ f < 2 ^ F := Nat.xor_lt_two_pow hw (Nat.pow_lt_pow_right (by omega) hf)
section BSETC
variable {t c o L F : Nat} {M : Mem}
theorem T_flip_eq (ht : isT t) (hc : c ≠ t) (hc8 : c ≠ t + 8) (h6 : M t 6 = (nwd F : Int)) (hF : F ≤ 8) (hL : aJ 80 c = (L : Int)) (hL4 : L ≤ 384) (ho : o + nwd F ≤ L) : Z (T_flip t c (o : Int) M) (fun M' => onlyW c o (nwd F) M M' ∧ ∀ w, w < 64 * nwd F → sb M' c o w = (!sb M c o w && sb M (t + 8) 0 w)) := by
  have hw := pow_wd hF
  have L1 := it_for (body := T_flip_b2 t c (o : Int)) (a := (0, M)) (b := wup M c o (nwd F) (fun i => jand (jxor (M c (o + i)) (-1)) (M (t + 8) i))) (fun i => ((i : Int), wup M c o i (fun i => jand (jxor (M c (o + i)) (-1)) (M (t + 8) i)))) (nwd F) (by unfold FUEL; omega) (by rw [wup_0]; rfl) ?_ ?_
  · unfold T_flip
    rw [L1]
    refine Z_of ⟨onlyW_wup, fun w hw2 => ?_⟩
    rw [sb_wup hw2, qb_and, qb_not _ (by omega)]
    unfold sb
    rw [Nat.zero_add]
  · intro i hi
    unfold T_flip_b2
    dsimp only
    rw [wup_c (by omega), h6, n32_nat (by omega), n32_nat (by omega), if_pos (by omega), hL, chk_pos (by omega), chk_pos (by omega), lt1_eq, lt1_eq, tn_nat, tn_add, wup_out (Or.inr (by omega)), wup_c (by omega), wup_s rfl]
    rfl
  · unfold T_flip_b2
    dsimp only
    rw [wup_c (by omega), h6, if_neg (by omega)]
theorem T_keepBase_eq (ht : isT t) (hc : c ≠ t) (hc8 : c ≠ t + 8) (h6 : M t 6 = (nwd F : Int)) (hF : F ≤ 8) (hL : aJ 80 c = (L : Int)) (hL4 : L ≤ 384) (ho : o + nwd F ≤ L) : Z (T_keepBase t c (o : Int) M) (fun M' => onlyW c o (nwd F) M M' ∧ ∀ w, w < 64 * nwd F → sb M' c o w = (sb M c o w && sb M (t + 8) 0 w)) := by
  have hw := pow_wd hF
  have L1 := it_for (body := T_keepBase_b2 t c (o : Int)) (a := (0, M)) (b := wup M c o (nwd F) (fun i => jand (M c (o + i)) (M (t + 8) i))) (fun i => ((i : Int), wup M c o i (fun i => jand (M c (o + i)) (M (t + 8) i)))) (nwd F) (by unfold FUEL; omega) (by rw [wup_0]; rfl) ?_ ?_
  · unfold T_keepBase
    rw [L1]
    refine Z_of ⟨onlyW_wup, fun w hw2 => ?_⟩
    rw [sb_wup hw2, qb_and]
    unfold sb
    rw [Nat.zero_add]
  · intro i hi
    unfold T_keepBase_b2
    dsimp only
    rw [wup_c (by omega), h6, n32_nat (by omega), n32_nat (by omega), if_pos (by omega), hL, chk_pos (by omega), chk_pos (by omega), lt1_eq, lt1_eq, tn_nat, tn_add, wup_out (Or.inr (by omega)), wup_c (by omega), wup_s rfl]
    rfl
  · unfold T_keepBase_b2
    dsimp only
    rw [wup_c (by omega), h6, if_neg (by omega)]
/-- the worlds of base that can't be told from one of base in S -/
def widB (B S : Nat → Bool) (kn F w : Nat) : Bool := B w && anyB (fun v => B v && S v && eqv kn v w) (2 ^ F)
def hldB (B S : Nat → Bool) (kn F w : Nat) : Bool := B w && allB (fun v => !(B v && eqv kn v w) || S v) (2 ^ F)
theorem T_widen_eq (ht : isT t) (hc : c ≠ t) (hc8 : c ≠ t + 8) (hc2 : c ≠ t + 2) (h0 : M t 0 = (F : Int)) (h6 : M t 6 = (nwd F : Int)) (hF : F ≤ 8) (hL : aJ 80 c = (L : Int)) (hL4 : L ≤ 384) (ho : o + nwd F ≤ L) {p kn : Nat} (hp : p < 8) (hkn : kn < 256) (hk : M (t + 2) p = (kn : Int)) (hB : ∀ w, 2 ^ F ≤ w → w < 64 * nwd F → sb M (t + 8) 0 w = false) : Z (T_widen t c (o : Int) (p : Int) M) (fun M' => onlyW c o (nwd F) M M' ∧ ∀ w, w < 64 * nwd F → sb M' c o w = widB (sb M (t + 8) 0) (sb M c o) kn F w) := by
  have hw := pow_wd hF
  have h8 := two_pow8 hF
  have ht2 : t ≤ 15 := by unfold isT at ht; omega
  unfold T_widen
  rw [Z_bind_iff]
  refine Z_mono (T_keepBase_eq ht hc hc8 h6 hF hL hL4 ho) ?_
  rintro M1 ⟨f1, g1⟩
  rw [Z_bind_iff]
  have loop : Z (it (T_widen_b9 t c (o : Int) (p : Int)) FUEL (0, M1)) (fun M' => onlyW c o (nwd F) M M' ∧ ∀ w, w < 2 ^ F → sb M' c o w = anyB (fun v => (sb M (t + 8) 0 v && sb M c o v) && agr kn F v w) (2 ^ F)) := by
    refine it_Z (fun i st => st.1 = (i : Int) ∧ onlyW c o (nwd F) M st.2 ∧ ∀ w, w < 2 ^ F → sb st.2 c o w = anyB (fun v => (sb M (t + 8) 0 v && sb M c o v) && agr kn i v w) (2 ^ F)) F (by unfold FUEL; omega) ⟨rfl, f1, fun w hw2 => ?_⟩ ?_ ?_
    · rw [g1 w (by omega)]
      refine bool_iff ?_
      rw [anyB_iff, Bool.and_eq_true]
      constructor
      · rintro ⟨q1, q2⟩
        refine ⟨w, hw2, ?_⟩
        rw [q1, q2, (agr_0 (by omega) (by omega)).mpr rfl]
        rfl
      · rintro ⟨v, q1, q2⟩
        rw [Bool.and_eq_true, agr_0 (by omega) (by omega), Bool.and_eq_true] at q2
        obtain ⟨⟨q3, q4⟩, rfl⟩ := q2
        exact ⟨q4, q3⟩
    · rintro i ⟨l, M2⟩ hi ⟨el, f2, g2⟩
      dsimp only at el f2 g2
      subst el
      unfold T_widen_b9
      dsimp only
      rw [onlyW_c f2 (by omega), h0, n32_nat (by omega), n32_nat (by omega), if_pos (by omega), chk_pos (by omega), tn_nat, onlyW_c f2 (by omega), hk, X_hasBit_eq (by omega) (by omega), bind_some', Z_bind_iff]
      cases hb : kn.testBit i with
      | true =>
        rw [if_pos rfl, if_neg (by decide)]
        refine Z_of ?_
        rw [lt1_eq]
        refine Z_of (Or.inl ⟨_, rfl, rfl, f2, fun w hw2 => ?_⟩)
        dsimp only
        rw [g2 w hw2]
        refine anyB_congr (fun v _ => ?_)
        rw [agr_s1 hb]
      | false =>
        rw [if_pos (by decide), Z_bind_iff]
        refine Z_mono (T_forget_eq (M := M2) ht hc (by rw [onlyW_c f2 (by omega)]; exact h6) hF hL hL4 ho hi) ?_
        rintro M3 ⟨f3, g3⟩
        refine Z_of ?_
        rw [lt1_eq]
        refine Z_of (Or.inl ⟨_, rfl, rfl, onlyW_trans f2 f3, fun w hw2 => ?_⟩)
        dsimp only
        rw [g3 w (by omega), g2 w hw2, g2 _ (xor_lt hw2 hi)]
        refine bool_iff ?_
        rw [Bool.or_eq_true, anyB_iff, anyB_iff, anyB_iff]
        constructor
        · rintro (⟨v, q1, q2⟩ | ⟨v, q1, q2⟩)
          · rw [Bool.and_eq_true] at q2
            exact ⟨v, q1, by rw [agr_s0 hb (by omega), q2.1, q2.2]; rfl⟩
          · rw [Bool.and_eq_true] at q2
            exact ⟨v, q1, by rw [agr_s0 hb (by omega), q2.1, q2.2, Bool.or_true]; rfl⟩
        · rintro ⟨v, q1, q2⟩
          rw [agr_s0 hb (by omega), Bool.and_eq_true, Bool.or_eq_true] at q2
          rcases q2.2 with z | z
          · exact Or.inl ⟨v, q1, by rw [q2.1, z]; rfl⟩
          · exact Or.inr ⟨v, q1, by rw [q2.1, z]; rfl⟩
    · rintro ⟨l, M2⟩ ⟨el, f2, g2⟩
      dsimp only at el f2 g2
      subst el
      unfold T_widen_b9
      dsimp only
      rw [onlyW_c f2 (by omega), h0, if_neg (by omega)]
      exact Z_of ⟨_, rfl, f2, g2⟩
  refine Z_mono loop ?_
  rintro M2 ⟨f2, g2⟩
  rw [Z_bind_iff]
  refine Z_mono (T_keepBase_eq (M := M2) ht hc hc8 (by rw [onlyW_c f2 (by omega)]; exact h6) hF hL hL4 ho) ?_
  rintro M3 ⟨f3, g3⟩
  refine Z_of ⟨onlyW_trans f2 f3, fun w hw2 => ?_⟩
  have e8 : ∀ w, sb M2 (t + 8) 0 w = sb M (t + 8) 0 w := fun w => sb_eq (onlyW_c f2 (by omega))
  rw [g3 w hw2, e8 w]
  unfold widB
  by_cases q : w < 2 ^ F
  · rw [g2 w q, Bool.and_comm]
    congr 1
    refine bool_iff ?_
    rw [anyB_iff, anyB_iff]
    constructor
    · rintro ⟨v, q1, q2⟩
      rw [agr_F hF hkn q1 q] at q2
      exact ⟨v, q1, q2⟩
    · rintro ⟨v, q1, q2⟩
      rw [← agr_F hF hkn q1 q] at q2
      exact ⟨v, q1, q2⟩
  · rw [hB w (by omega) hw2, Bool.and_false, Bool.false_and]
theorem T_keepHeld_eq (ht : isT t) (hc : c ≠ t) (hc8 : c ≠ t + 8) (hc2 : c ≠ t + 2) (h0 : M t 0 = (F : Int)) (h6 : M t 6 = (nwd F : Int)) (hF : F ≤ 8) (hL : aJ 80 c = (L : Int)) (hL4 : L ≤ 384) (ho : o + nwd F ≤ L) {p kn : Nat} (hp : p < 8) (hkn : kn < 256) (hk : M (t + 2) p = (kn : Int)) (hB : ∀ w, 2 ^ F ≤ w → w < 64 * nwd F → sb M (t + 8) 0 w = false) : Z (T_keepHeld t c (o : Int) (p : Int) M) (fun M' => onlyW c o (nwd F) M M' ∧ ∀ w, w < 64 * nwd F → sb M' c o w = hldB (sb M (t + 8) 0) (sb M c o) kn F w) := by
  have hw := pow_wd hF
  have h8 := two_pow8 hF
  unfold T_keepHeld
  rw [Z_bind_iff]
  refine Z_mono (T_flip_eq ht hc hc8 h6 hF hL hL4 ho) ?_
  rintro M1 ⟨f1, g1⟩
  have e1 : ∀ w, sb M1 (t + 8) 0 w = sb M (t + 8) 0 w := fun w => sb_eq (onlyW_c f1 (by omega))
  rw [Z_bind_iff]
  refine Z_mono (T_widen_eq (M := M1) ht hc hc8 hc2 (by rw [onlyW_c f1 (by omega)]; exact h0) (by rw [onlyW_c f1 (by omega)]; exact h6) hF hL hL4 ho hp hkn (by rw [onlyW_c f1 (by omega)]; exact hk) (fun w h1 h2 => by rw [e1]; exact hB w h1 h2)) ?_
  rintro M2 ⟨f2, g2⟩
  have e2 : ∀ w, sb M2 (t + 8) 0 w = sb M (t + 8) 0 w := fun w => (sb_eq (onlyW_c f2 (by omega))).trans (e1 w)
  rw [Z_bind_iff]
  refine Z_mono (T_flip_eq (M := M2) ht hc hc8 (by rw [onlyW_c f2 (by omega), onlyW_c f1 (by omega)]; exact h6) hF hL hL4 ho) ?_
  rintro M3 ⟨f3, g3⟩
  refine Z_of ⟨onlyW_trans f1 (onlyW_trans f2 f3), fun w hw2 => ?_⟩
  rw [g3 w hw2, e2, g2 w hw2]
  unfold widB hldB
  rw [e1]
  cases hb : sb M (t + 8) 0 w with
  | false => simp
  | true =>
    rw [Bool.true_and, Bool.and_true, Bool.true_and]
    unfold allB
    congr 1
    refine anyB_congr (fun v hv => ?_)
    rw [e1, g1 v (by omega)]
    dsimp only
    cases sb M (t + 8) 0 v <;> cases sb M c o v <;> cases eqv kn v w <;> rfl
end BSETC
