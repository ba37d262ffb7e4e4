/-! ===== a new object: the kept words ===== -/
def chrK (k : Nat) : Int := i2c (iand (keptC k) 255)
def stK : Nat → Nat × Int
  | 0 => (0, 0)
  | k + 1 => match stK k with
    | (a, l) => if n32 (chrK k) = 32 then (a + 1, 0) else (a, l * 32 + n32 ((chrK k - 97) + 1))
theorem kept_1 : ∀ k, k < 104 → i2c (chrK k) = chrK k := by decide +kernel
theorem kept_2 : ∀ k, k < 104 → (stK k).1 < 20 := by decide +kernel
theorem kept_3 : ∀ k, k < 104 → n32 (chrK k) = 32 → (stK k).2 = kw (stK k).1 := by decide +kernel
theorem kept_4 : (stK 104).1 = 20 := by decide +kernel
theorem JS_len {M : Mem} : JS_length M = some 104 := by
  unfold JS_length JS_coder
  rw [if_pos (by decide), bind_some']
  exact congrArg some (by decide +kernel)
theorem JS_chr {k : Nat} {M : Mem} (hk : k < 104) : JS_charAt (k : Int) M = some (chrK k) := by
  unfold JS_charAt JS_isLatin1 JT_charAt
  have h1 := kept_1 k hk
  unfold chrK at h1 ⊢
  rw [if_pos ⟨by decide, rfl⟩, bind_some', if_pos nz1, chk_pos (by omega), tn_nat, chk_pos h1, bind_some', chk_pos h1]
theorem stK_s (k : Nat) : stK (k + 1) = if n32 (chrK k) = 32 then ((stK k).1 + 1, 0) else ((stK k).1, (stK k).2 * 32 + n32 ((chrK k - 97) + 1)) := by
  rw [stK]
theorem kept_loop {M : Mem} : Z (it K_init40_b29 FUEL (0, 0, 0, M)) KeptR := by
  refine it_Z (fun k x => x.1 = ((stK k).1 : Int) ∧ x.2.1 = (stK k).2 ∧ x.2.2.1 = (k : Int) ∧ ∀ i, i < (stK k).1 → x.2.2.2 41 i = kw i) 104 (by unfold FUEL; omega) ⟨rfl, rfl, rfl, fun i hi => absurd hi (by show ¬ i < 0; omega)⟩ ?_ ?_
  · rintro k ⟨l2, l3, l5, M7⟩ hk ⟨h1, h2, h3, h4⟩
    dsimp only at h1 h2 h3 h4
    subst h1 h2 h3
    have g2 := kept_2 k hk
    have g3 := kept_3 k hk
    unfold K_init40_b29
    dsimp only
    rw [JS_len, bind_some', n32_nat (by omega), n32_nat (by omega), if_pos ⟨by rw [n32_of (by omega) (by omega)]; omega, by omega⟩, JS_chr hk, bind_some']
    have hs := stK_s k
    by_cases q : n32 (chrK k) = 32
    · rw [if_pos q] at hs
      rw [if_pos q, chk_pos (by omega), lt1_eq, lt1_eq, tn_nat, bind_some', lt1_eq]
      refine Z_of (Or.inl ⟨_, rfl, ?_, ?_, ?_, fun i hi => ?_⟩)
      · rw [hs]; dsimp only; omega
      · rw [hs]
      · dsimp only; omega
      · rw [hs] at hi
        dsimp only at hi ⊢
        by_cases e : i = (stK k).1
        · subst e
          rw [up_eq]
          exact g3 q
        · rw [up_k e]
          exact h4 i (by omega)
    · rw [if_neg q] at hs
      unfold K_spell
      rw [if_neg q, bind_some', bind_some', bind_some', lt1_eq]
      refine Z_of (Or.inl ⟨_, rfl, ?_, ?_, ?_, fun i hi => ?_⟩)
      · rw [hs]
      · rw [hs]
      · dsimp only; omega
      · rw [hs] at hi
        exact h4 i hi
  · rintro ⟨l2, l3, l5, M7⟩ ⟨h1, h2, h3, h4⟩
    dsimp only at h1 h2 h3 h4
    subst h1 h2 h3
    unfold K_init40_b29
    dsimp only
    rw [JS_len, bind_some', if_neg (by rintro ⟨z, -⟩; rw [n32_nat (by omega), n32_of (by omega) (by omega)] at z; omega)]
    refine Z_of ⟨_, rfl, fun i hi => h4 i ?_⟩
    rw [kept_4]
    exact hi
theorem ex_K40 {M : Mem} : ∃ M', K_init40 M = some M' ∧ KeptR M' := by
  unfold K_init40
  simp only [lt1_eq]
  obtain ⟨M', e, hK⟩ := kept_loop (M := up (up (up M 40 0 ((41 : Nat) : Int)) 40 9 (-1)) 40 1 ((2 : Nat) : Int))
  rw [e, bind_some']
  exact ⟨M', rfl, hK⟩
