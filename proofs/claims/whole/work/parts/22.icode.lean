theorem it_inv {α β : Type} {body : α → Option (α ⊕ β)} {I : α → Prop} {J : β → Prop} (h1 : ∀ a a', I a → body a = some (.inl a') → I a') (h2 : ∀ a b, I a → body a = some (.inr b) → J b) : ∀ (fuel : Nat) (a : α) (b : β), I a → it body fuel a = some b → J b
  | 0, a, b, _, h => by cases h
  | k + 1, a, b, hI, h => by
    obtain ⟨x, hx, hr⟩ := Option.bind_eq_some_iff.mp h
    cases x with
    | inl a' => exact it_inv h1 h2 k a' b (h1 a a' hI hx) hr
    | inr b' => cases hr; exact h2 a b hI hx
theorem chk_some {α : Type} {p : Prop} [Decidable p] {e : Option α} {a : α} (h : chk p e = some a) : p ∧ e = some a := by
  unfold chk at h
  by_cases hp : p
  · rw [if_pos hp] at h; exact ⟨hp, h⟩
  · rw [if_neg hp] at h; cases h
theorem fr_T_clear {t : Nat} {M M' : Mem} (h : T_clear t M = some M') : ∀ c k, ¬ (t ≤ c ∧ c ≤ t + 7) → M' c k = M c k := by
  intro c k hc
  simp only [T_clear, lt1] at h
  obtain ⟨M1, h1, h⟩ := Option.bind_eq_some_iff.mp h
  obtain ⟨M2, h2, h⟩ := Option.bind_eq_some_iff.mp h
  cases h
  have hn : c ≠ t := by omega
  have hn3 : c ≠ t + 3 := by omega
  have hn7 : c ≠ t + 7 := by omega
  have e1 : M1 c k = M c k := by
    refine it_inv (I := fun a => a.2 c k = M c k) (J := fun b => b c k = M c k) ?_ ?_ FUEL _ _ ?_ h1
    · rintro ⟨i, Ma⟩ a' hI hb
      simp only [T_clear_b32] at hb
      split at hb
      · obtain ⟨-, hb⟩ := chk_some hb
        simp only [lt1] at hb
        cases hb
        simpa [up, hn3] using hI
      · cases hb
    · rintro ⟨i, Ma⟩ b hI hb
      simp only [T_clear_b32] at hb
      split at hb
      · obtain ⟨-, hb⟩ := chk_some hb
        simp only [lt1] at hb
        cases hb
      · cases hb; exact hI
    · simp [up, hn]
  rw [← e1]
  refine it_inv (I := fun a => a.2 c k = M1 c k) (J := fun b => b c k = M1 c k) ?_ ?_ FUEL _ _ rfl h2
  · rintro ⟨i, Ma⟩ a' hI hb
    simp only [T_clear_b53] at hb
    split at hb
    · obtain ⟨-, hb⟩ := chk_some hb
      simp only [lt1] at hb
      cases hb
      simpa [up, hn7] using hI
    · cases hb
  · rintro ⟨i, Ma⟩ b hI hb
    simp only [T_clear_b53] at hb
    split at hb
    · obtain ⟨-, hb⟩ := chk_some hb
      simp only [lt1] at hb
      cases hb
    · cases hb; exact hI

theorem fr_T_init3 {M : Mem} : ∀ M', T_init3 M = some M' → ∀ c k, c < 3 ∨ 14 < c → M' c k = M c k := by
  intro M' h c k hc
  simp only [T_init3, lt1] at h
  obtain ⟨M1, h1, h2⟩ := Option.bind_eq_some_iff.mp h
  cases h2
  have hn : c ≠ 3 := by omega
  rw [fr_T_clear h1 c k (by omega)]
  simp [up, hn]

theorem fr_T_init15 {M : Mem} : ∀ M', T_init15 M = some M' → ∀ c k, c < 15 ∨ 26 < c → M' c k = M c k := by
  intro M' h c k hc
  simp only [T_init15, lt1] at h
  obtain ⟨M1, h1, h2⟩ := Option.bind_eq_some_iff.mp h
  cases h2
  have hn : c ≠ 15 := by omega
  rw [fr_T_clear h1 c k (by omega)]
  simp [up, hn]

theorem fr_S_init28 {M : Mem} : ∀ M', S_init28 M = some M' → ∀ c k, c < 28 ∨ 31 < c → M' c k = M c k := by
  intro M' h c k hc
  simp only [S_init28, lt1] at h
  cases h
  have hn : c ≠ 28 := by omega
  simp [up, hn]

theorem fr_K_init40 {M : Mem} : ∀ M', K_init40 M = some M' → ∀ c k, c < 40 ∨ 41 < c → M' c k = M c k := by
  intro M' h c k hc
  simp only [K_init40, lt1] at h
  obtain ⟨M1, h1, h2⟩ := Option.bind_eq_some_iff.mp h
  cases h2
  have hn : c ≠ 40 := by omega
  have hn1 : c ≠ 41 := by omega
  refine it_inv (I := fun a => a.2.2.2 c k = M c k) (J := fun b => b c k = M c k) ?_ ?_ FUEL _ _ ?_ h1
  · rintro ⟨u, v, i, Ma⟩ a' hI hb
    simp only [K_init40_b29] at hb
    obtain ⟨r, -, hb⟩ := Option.bind_eq_some_iff.mp hb
    split at hb
    · obtain ⟨r2, -, hb⟩ := Option.bind_eq_some_iff.mp hb
      obtain ⟨⟨x, y, Mx⟩, hx, hb⟩ := Option.bind_eq_some_iff.mp hb
      simp only [lt1] at hb
      cases hb
      show Mx c k = M c k
      split at hx
      · obtain ⟨-, hx⟩ := chk_some hx
        simp only [lt1] at hx
        cases hx
        simpa [up, hn1] using hI
      · obtain ⟨r3, -, hx⟩ := Option.bind_eq_some_iff.mp hx
        obtain ⟨r4, -, hx⟩ := Option.bind_eq_some_iff.mp hx
        cases hx
        exact hI
    · cases hb
  · rintro ⟨u, v, i, Ma⟩ b hI hb
    simp only [K_init40_b29] at hb
    obtain ⟨r, -, hb⟩ := Option.bind_eq_some_iff.mp hb
    split at hb
    · obtain ⟨r2, -, hb⟩ := Option.bind_eq_some_iff.mp hb
      obtain ⟨⟨x, y, Mx⟩, hx, hb⟩ := Option.bind_eq_some_iff.mp hb
      simp only [lt1] at hb
      cases hb
    · cases hb
      exact hI
  · simp [up, hn]

theorem fr_N_init27 {M : Mem} : ∀ M', N_init27 M = some M' → ∀ c k, c < 27 ∨ 41 < c → M' c k = M c k := by
  intro M' h c k hc
  simp only [N_init27, lt1] at h
  obtain ⟨M1, h1, h2⟩ := Option.bind_eq_some_iff.mp h
  obtain ⟨M2, h3, h4⟩ := Option.bind_eq_some_iff.mp h2
  cases h4
  have hn : c ≠ 27 := by omega
  have e1 := fr_S_init28 _ h1 c k (by omega)
  have e2 := fr_K_init40 _ h3 c k (by omega)
  simp [up, hn, e1, e2]

theorem fr_Y_init42 {M : Mem} : ∀ M', Y_init42 M = some M' → ∀ c k, c < 42 ∨ 48 < c → M' c k = M c k := by
  intro M' h c k hc
  simp only [Y_init42, lt1] at h
  cases h
  have hn : c ≠ 42 := by omega
  simp [up, hn]

theorem fr_Y_init50 {M : Mem} : ∀ M', Y_init50 M = some M' → ∀ c k, c < 50 ∨ 56 < c → M' c k = M c k := by
  intro M' h c k hc
  simp only [Y_init50, lt1] at h
  cases h
  have hn : c ≠ 50 := by omega
  simp [up, hn]

theorem fr_Y_init57 {M : Mem} : ∀ M', Y_init57 M = some M' → ∀ c k, c < 57 ∨ 63 < c → M' c k = M c k := by
  intro M' h c k hc
  simp only [Y_init57, lt1] at h
  cases h
  have hn : c ≠ 57 := by omega
  simp [up, hn]

theorem fr_Y_init64 {M : Mem} : ∀ M', Y_init64 M = some M' → ∀ c k, c < 64 ∨ 70 < c → M' c k = M c k := by
  intro M' h c k hc
  simp only [Y_init64, lt1] at h
  cases h
  have hn : c ≠ 64 := by omega
  simp [up, hn]

theorem fr_W_init71 {M : Mem} : ∀ M', W_init71 M = some M' → ∀ c k, c < 71 ∨ 73 < c → M' c k = M c k := by
  intro M' h c k hc
  simp only [W_init71, lt1] at h
  cases h
  have hn : c ≠ 71 := by omega
  simp [up, hn]

theorem fr_A_init74 {M : Mem} : ∀ M', A_init74 M = some M' → ∀ c k, c < 74 ∨ 75 < c → M' c k = M c k := by
  intro M' h c k hc
  simp only [A_init74, lt1] at h
  cases h
  have hn : c ≠ 74 := by omega
  simp [up, hn]

theorem fr_P_init76 {M : Mem} : ∀ M', P_init76 M = some M' → ∀ c k, c < 76 ∨ 77 < c → M' c k = M c k := by
  intro M' h c k hc
  simp only [P_init76, lt1] at h
  cases h
  have hn : c ≠ 76 := by omega
  simp [up, hn]

theorem fr_C_init78 {M : Mem} : ∀ M', C_init78 M = some M' → ∀ c k, c < 78 ∨ 79 < c → M' c k = M c k := by
  intro M' h c k hc
  simp only [C_init78, lt1] at h
  cases h
  have hn : c ≠ 78 := by omega
  simp [up, hn]

theorem fr_X_init1 {M : Mem} : ∀ M', X_init1 M = some M' → True := fun _ _ => trivial

theorem fr_M_init81 {M : Mem} : ∀ M', M_init81 M = some M' → True := fun _ _ => trivial

set_option maxRecDepth 20000 in
theorem ct0_T_clear {E : Nat → Bool} {n : Nat} {t : Nat} (ht : isT t) (hEt : E t = true) (hnt : t + 11 ≤ n) {M : Mem} {K : Mem → Prop} (hz : Z (T_clear t M) K) : Mt y_T_clear (0, 0, n, n, E) E [vR t] M (qV K) := by
  refine Mt.of (by decide) (lb rfl) (Nat.le_refl _) rfl ?_
  rw [T_clear] at hz
  show Rr y_T_clear (0, 0, n, n, E) (qV K) 0 [(0, vR t)] [] E n M
  refine R_aload_n (pc := 0) 0 (dc k_T_clear 0 rfl) rfl rfl ?_
  refine R_iconst (pc := 1) (a := 0) (dc k_T_clear 1 rfl) ?_
  obtain ⟨M_1, hM_1, hz⟩ := Z_lt hz
  refine R_putIE (pc := 2) (ci := 1) (k := 0) (dc k_T_clear 2 rfl) fl_T_49 (lT ht) (qT1 ht) (qTn_0 hnt) (rT_0 ht) rfl rfl hM_1 ?_
  refine R_aload_n (pc := 5) 0 (dc k_T_clear 3 rfl) rfl rfl ?_
  refine R_iconst (pc := 6) (a := 0) (dc k_T_clear 4 rfl) ?_
  obtain ⟨M_2, hM_2, hz⟩ := Z_lt hz
  refine R_putIE (pc := 7) (ci := 1) (k := 1) (dc k_T_clear 5 rfl) fl_T_53 (lT ht) (qT1 ht) (qTn_0 hnt) (rT_1 ht) rfl rfl hM_2 ?_
  refine R_aload_n (pc := 10) 0 (dc k_T_clear 6 rfl) rfl rfl ?_
  refine R_iconst (pc := 11) (a := 0) (dc k_T_clear 7 rfl) ?_
  obtain ⟨M_3, hM_3, hz⟩ := Z_lt hz
  refine R_putIE (pc := 12) (ci := 1) (k := 2) (dc k_T_clear 8 rfl) fl_T_56 (lT ht) (qT1 ht) (qTn_0 hnt) (rT_2 ht) rfl rfl hM_3 ?_
  refine R_aload_n (pc := 15) 0 (dc k_T_clear 9 rfl) rfl rfl ?_
  refine R_iconst (pc := 16) (a := 0) (dc k_T_clear 10 rfl) ?_
  obtain ⟨M_4, hM_4, hz⟩ := Z_lt hz
  refine R_putIE (pc := 17) (ci := 1) (k := 3) (dc k_T_clear 11 rfl) fl_T_59 (lT ht) (qT1 ht) (qTn_0 hnt) (rT_3 ht) rfl rfl hM_4 ?_
  refine R_aload_n (pc := 20) 0 (dc k_T_clear 12 rfl) rfl rfl ?_
  refine R_iconst (pc := 21) (a := 0) (dc k_T_clear 13 rfl) ?_
  obtain ⟨M_5, hM_5, hz⟩ := Z_lt hz
  refine R_putIE (pc := 22) (ci := 1) (k := 4) (dc k_T_clear 14 rfl) fl_T_62 (lT ht) (qT1 ht) (qTn_0 hnt) (rT_4 ht) rfl rfl hM_5 ?_
  refine R_aload_n (pc := 25) 0 (dc k_T_clear 15 rfl) rfl rfl ?_
  refine R_iconst (pc := 26) (a := 0) (dc k_T_clear 16 rfl) ?_
  obtain ⟨M_6, hM_6, hz⟩ := Z_lt hz
  refine R_putIE (pc := 27) (ci := 1) (k := 5) (dc k_T_clear 17 rfl) fl_T_65 (lT ht) (qT1 ht) (qTn_0 hnt) (rT_5 ht) rfl rfl hM_6 ?_
  refine R_iconst (pc := 30) (a := 0) (dc k_T_clear 18 rfl) ?_
  refine R_istore_n (pc := 31) (L' := [(1, vI 0), (0, vR t)]) (dc k_T_clear 19 rfl) rfl (lb rfl) rfl ?_
  obtain ⟨K_9, hK_10, hz⟩ := Z_cut hz
  have hX_11 : ∀ (M_15 : Mem), K_9 M_15 → Rr y_T_clear (0, 0, n, n, E) (qV K) 51 [(0, vR t)] [] E n M_15 := by
    intro M_15 hk
    have hz := hK_10 _ hk
    refine R_iconst (pc := 51) (a := 0) (dc k_T_clear 30 rfl) ?_
    refine R_istore_n (pc := 52) (L' := [(1, vI 0), (0, vR t)]) (dc k_T_clear 31 rfl) rfl (lb rfl) rfl ?_
    obtain ⟨K_23, hK_24, hz⟩ := Z_cut hz
    have hX_25 : ∀ (M_29 : Mem), K_23 M_29 → Rr y_T_clear (0, 0, n, n, E) (qV K) 72 [] [] E n M_29 := by
      intro M_29 hk
      have hz := hK_24 _ hk
      exact R_vret (pc := 72) (dc k_T_clear 42 rfl) rfl rfl rfl ⟨rfl, (Z_some hz)⟩
    refine R_sub [1, 0] rfl ?_
    refine it_R (C := fun aZ : Int × Mem => Rr y_T_clear (0, 0, n, n, E) (qV K) 53 [(0, vR t), (1, vI aZ.1)] [] E n aZ.2) (fun aZ K_26 hC_27 hB_28 hz => ?_) FUEL (0, M_15) hz
    obtain ⟨l1_21, M_22⟩ := aZ
    rw [T_clear_b53] at hz
    show Rr y_T_clear (0, 0, n, n, E) (qV K) 53 [(0, vR t), (1, vI l1_21)] [] E n M_22
    refine R_iload_n (pc := 53) 1 (dc k_T_clear 32 rfl) rfl rfl ?_
    refine R_bipush (pc := 54) (a := 96) (dc k_T_clear 33 rfl) (by decide) ?_
    refine R_icmp_ge (pc := 56) 72 (dc k_T_clear 34 rfl) rfl (fun hc => ?_) (fun hc => ?_)
    · have hz := Z_neg (show ¬ (n32 l1_21 < 96) from (Int.not_lt.mpr hc)) hz
      refine R_sub [] rfl ?_
      exact hX_25 _ (hB_28 _ (Z_some hz))
    · have hz := Z_pos (show n32 l1_21 < 96 from (Int.not_le.mp hc)) hz
      refine R_aload_n (pc := 59) 0 (dc k_T_clear 35 rfl) rfl rfl ?_
      refine R_getS (pc := 60) (ci := 1) (k := 14) (t + 7) (dc k_T_clear 36 rfl) fl_T_30 (lT ht) (qT1 ht) (qTn_0 hnt) hEt (rT_14 ht) (Nat.succ_ne_zero _) rfl ?_
      refine R_iload_n (pc := 63) 1 (dc k_T_clear 37 rfl) rfl rfl ?_
      refine R_iconst (pc := 64) (a := (-1)) (dc k_T_clear 38 rfl) ?_
      obtain ⟨⟨hg_30, hg_31⟩, hz⟩ := Z_chk hz
      obtain ⟨M_32, hM_32, hz⟩ := Z_lt hz
      refine R_iastE (pc := 65) (dc k_T_clear 39 rfl) (lT_7 ht) (Nat.le_add_left_of_le (lb rfl)) (qTn_k hnt (lb rfl)) hg_30 hg_31 hM_32 ?_
      obtain ⟨l1_33, hl1_33, hz⟩ := Z_lt hz
      refine R_iincE (pc := 66) (L' := [(1, vI l1_33), (0, vR t)]) 1 (dc k_T_clear 40 rfl) rfl (lb rfl) hl1_33 rfl ?_
      refine R_goto (pc := 69) 53 (dc k_T_clear 41 rfl) rfl ?_
      refine R_sub [1, 0] rfl ?_
      exact hC_27 _ (Z_some hz)
  refine R_sub [1, 0] rfl ?_
  refine it_R (C := fun aZ : Int × Mem => Rr y_T_clear (0, 0, n, n, E) (qV K) 32 [(0, vR t), (1, vI aZ.1)] [] E n aZ.2) (fun aZ K_12 hC_13 hB_14 hz => ?_) FUEL (0, M_6) hz
  obtain ⟨l1_7, M_8⟩ := aZ
  rw [T_clear_b32] at hz
  show Rr y_T_clear (0, 0, n, n, E) (qV K) 32 [(0, vR t), (1, vI l1_7)] [] E n M_8
  refine R_iload_n (pc := 32) 1 (dc k_T_clear 20 rfl) rfl rfl ?_
  refine R_bipush (pc := 33) (a := 8) (dc k_T_clear 21 rfl) (by decide) ?_
  refine R_icmp_ge (pc := 35) 51 (dc k_T_clear 22 rfl) rfl (fun hc => ?_) (fun hc => ?_)
  · have hz := Z_neg (show ¬ (n32 l1_7 < 8) from (Int.not_lt.mpr hc)) hz
    refine R_sub [0] rfl ?_
    exact hX_11 _ (hB_14 _ (Z_some hz))
  · have hz := Z_pos (show n32 l1_7 < 8 from (Int.not_le.mp hc)) hz
    refine R_aload_n (pc := 38) 0 (dc k_T_clear 23 rfl) rfl rfl ?_
    refine R_getS (pc := 39) (ci := 1) (k := 10) (t + 3) (dc k_T_clear 24 rfl) fl_T_18 (lT ht) (qT1 ht) (qTn_0 hnt) hEt (rT_10 ht) (Nat.succ_ne_zero _) rfl ?_
    refine R_iload_n (pc := 42) 1 (dc k_T_clear 25 rfl) rfl rfl ?_
    refine R_iconst (pc := 43) (a := 0) (dc k_T_clear 26 rfl) ?_
    obtain ⟨⟨hg_16, hg_17⟩, hz⟩ := Z_chk hz
    obtain ⟨M_18, hM_18, hz⟩ := Z_lt hz
    refine R_iastE (pc := 44) (dc k_T_clear 27 rfl) (lT_3 ht) (Nat.le_add_left_of_le (lb rfl)) (qTn_k hnt (lb rfl)) hg_16 hg_17 hM_18 ?_
    obtain ⟨l1_19, hl1_19, hz⟩ := Z_lt hz
    refine R_iincE (pc := 45) (L' := [(1, vI l1_19), (0, vR t)]) 1 (dc k_T_clear 28 rfl) rfl (lb rfl) hl1_19 rfl ?_
    refine R_goto (pc := 48) 32 (dc k_T_clear 29 rfl) rfl ?_
    refine R_sub [1, 0] rfl ?_
    exact hC_13 _ (Z_some hz)

set_option maxRecDepth 20000 in
theorem ct0_K_spell {E : Nat → Bool} {n : Nat} {ahead : Int} {letter : Int} {M : Mem} {K : Int → Prop} (hz : Z (K_spell ahead letter M) K) : Mt y_K_spell (0, 0, n, n, E) E [vJ ahead, vI letter] M (qJ M K) := by
  refine Mt.of (by decide) (lb rfl) (Nat.le_refl _) rfl ?_
  rw [K_spell] at hz
  show Rr y_K_spell (0, 0, n, n, E) (qJ M K) 0 [(0, vJ ahead), (2, vI letter)] [] E n M
  refine R_lload_n (pc := 0) 0 (dc k_K_spell 0 rfl) rfl rfl ?_
  refine R_ldc2 (pc := 1) (a := 32) (dc k_K_spell 1 rfl) c_K_39 ?_
  refine R_lmul (pc := 4) (dc k_K_spell 2 rfl) ?_
  refine R_iload_n (pc := 5) 1 (dc k_K_spell 3 rfl) rfl rfl ?_
  refine R_bipush (pc := 6) (a := 97) (dc k_K_spell 4 rfl) (by decide) ?_
  refine R_isub (pc := 8) (dc k_K_spell 5 rfl) ?_
  refine R_iconst (pc := 9) (a := 1) (dc k_K_spell 6 rfl) ?_
  refine R_iadd (pc := 10) (dc k_K_spell 7 rfl) ?_
  refine R_i2l (pc := 11) (dc k_K_spell 8 rfl) ?_
  refine R_ladd (pc := 12) (dc k_K_spell 9 rfl) ?_
  exact R_lret (pc := 13) (dc k_K_spell 10 rfl) rfl rfl rfl ⟨_, rfl, rfl, (Z_some hz)⟩

set_option maxRecDepth 20000 in
set_option maxHeartbeats 4000000 in
theorem ct_T_init3 {M : Mem} {K : Mem → Prop} (hz : Z (T_init3 M) K) : Mt y_T_init (1, 21, 3, 14, (eI [(3, 14)])) (eI []) [vR 3] M (qV K) := by
  refine Mt.of (by decide) (lb rfl) (lb rfl) rfl ?_
  rw [T_init3] at hz
  show Rr y_T_init (1, 21, 3, 14, (eI [(3, 14)])) (qV K) 0 [(0, vR 3)] [] (eI []) 3 M
  refine R_aload_n (pc := 0) 0 (dc k_T_init 0 rfl) rfl rfl ?_
  refine R_objInit (pc := 1) (dc k_T_init 1 rfl) wo_T_3 oi_words (lb rfl) (lb rfl) ?_
  refine R_aload_n (pc := 4) 0 (dc k_T_init 2 rfl) rfl rfl ?_
  refine R_bipush (pc := 5) (a := 8) (dc k_T_init 3 rfl) (by decide) ?_
  refine R_newa (pc := 7) (n := 3) (ty := .int) (len := 8) (dc k_T_init 4 rfl) rfl ⟨rfl, rfl⟩ wa_int rfl (lb rfl) rfl rfl (lb rfl) (lb rfl) rfl rfl ?_
  obtain ⟨M_1, hM_1, hz⟩ := Z_lt hz
  refine R_putF (pc := 9) (ci := 1) (k := 8) (v := 4) (dc k_T_init 5 rfl) ff_T_9 rfl rfl (lb rfl) (lb rfl) rfl rfl rfl (by decide) (lb rfl) rfl ?_
  rw [← hM_1]
  refine R_aload_n (pc := 12) 0 (dc k_T_init 6 rfl) rfl rfl ?_
  refine R_bipush (pc := 13) (a := 8) (dc k_T_init 7 rfl) (by decide) ?_
  refine R_newa (pc := 15) (n := 4) (ty := .int) (len := 8) (dc k_T_init 8 rfl) rfl ⟨rfl, rfl⟩ wa_int rfl (lb rfl) rfl rfl (lb rfl) (lb rfl) rfl rfl ?_
  obtain ⟨M_2, hM_2, hz⟩ := Z_lt hz
  refine R_putF (pc := 17) (ci := 1) (k := 9) (v := 5) (dc k_T_init 9 rfl) ff_T_15 rfl rfl (lb rfl) (lb rfl) rfl rfl rfl (by decide) (lb rfl) rfl ?_
  rw [← hM_2]
  refine R_aload_n (pc := 20) 0 (dc k_T_init 10 rfl) rfl rfl ?_
  refine R_bipush (pc := 21) (a := 8) (dc k_T_init 11 rfl) (by decide) ?_
  refine R_newa (pc := 23) (n := 5) (ty := .int) (len := 8) (dc k_T_init 12 rfl) rfl ⟨rfl, rfl⟩ wa_int rfl (lb rfl) rfl rfl (lb rfl) (lb rfl) rfl rfl ?_
  obtain ⟨M_3, hM_3, hz⟩ := Z_lt hz
  refine R_putF (pc := 25) (ci := 1) (k := 10) (v := 6) (dc k_T_init 13 rfl) ff_T_18 rfl rfl (lb rfl) (lb rfl) rfl rfl rfl (by decide) (lb rfl) rfl ?_
  rw [← hM_3]
  refine R_aload_n (pc := 28) 0 (dc k_T_init 14 rfl) rfl rfl ?_
  refine R_bipush (pc := 29) (a := 12) (dc k_T_init 15 rfl) (by decide) ?_
  refine R_newa (pc := 31) (n := 6) (ty := .int) (len := 12) (dc k_T_init 16 rfl) rfl ⟨rfl, rfl⟩ wa_int rfl (lb rfl) rfl rfl (lb rfl) (lb rfl) rfl rfl ?_
  obtain ⟨M_4, hM_4, hz⟩ := Z_lt hz
  refine R_putF (pc := 33) (ci := 1) (k := 11) (v := 7) (dc k_T_init 17 rfl) ff_T_21 rfl rfl (lb rfl) (lb rfl) rfl rfl rfl (by decide) (lb rfl) rfl ?_
  rw [← hM_4]
  refine R_aload_n (pc := 36) 0 (dc k_T_init 18 rfl) rfl rfl ?_
  refine R_bipush (pc := 37) (a := 12) (dc k_T_init 19 rfl) (by decide) ?_
  refine R_newa (pc := 39) (n := 7) (ty := .int) (len := 12) (dc k_T_init 20 rfl) rfl ⟨rfl, rfl⟩ wa_int rfl (lb rfl) rfl rfl (lb rfl) (lb rfl) rfl rfl ?_
  obtain ⟨M_5, hM_5, hz⟩ := Z_lt hz
  refine R_putF (pc := 41) (ci := 1) (k := 12) (v := 8) (dc k_T_init 21 rfl) ff_T_24 rfl rfl (lb rfl) (lb rfl) rfl rfl rfl (by decide) (lb rfl) rfl ?_
  rw [← hM_5]
  refine R_aload_n (pc := 44) 0 (dc k_T_init 22 rfl) rfl rfl ?_
  refine R_bipush (pc := 45) (a := 12) (dc k_T_init 23 rfl) (by decide) ?_
  refine R_newa (pc := 47) (n := 8) (ty := .int) (len := 12) (dc k_T_init 24 rfl) rfl ⟨rfl, rfl⟩ wa_int rfl (lb rfl) rfl rfl (lb rfl) (lb rfl) rfl rfl ?_
  obtain ⟨M_6, hM_6, hz⟩ := Z_lt hz
  refine R_putF (pc := 49) (ci := 1) (k := 13) (v := 9) (dc k_T_init 25 rfl) ff_T_27 rfl rfl (lb rfl) (lb rfl) rfl rfl rfl (by decide) (lb rfl) rfl ?_
  rw [← hM_6]
  refine R_aload_n (pc := 52) 0 (dc k_T_init 26 rfl) rfl rfl ?_
  refine R_bipush (pc := 53) (a := 96) (dc k_T_init 27 rfl) (by decide) ?_
  refine R_newa (pc := 55) (n := 9) (ty := .int) (len := 96) (dc k_T_init 28 rfl) rfl ⟨rfl, rfl⟩ wa_int rfl (lb rfl) rfl rfl (lb rfl) (lb rfl) rfl rfl ?_
  obtain ⟨M_7, hM_7, hz⟩ := Z_lt hz
  refine R_putF (pc := 57) (ci := 1) (k := 14) (v := 10) (dc k_T_init 29 rfl) ff_T_30 rfl rfl (lb rfl) (lb rfl) rfl rfl rfl (by decide) (lb rfl) rfl ?_
  rw [← hM_7]
  refine R_aload_n (pc := 60) 0 (dc k_T_init 30 rfl) rfl rfl ?_
  refine R_iconst (pc := 61) (a := 4) (dc k_T_init 31 rfl) ?_
  refine R_newa (pc := 62) (n := 10) (ty := .long) (len := 4) (dc k_T_init 32 rfl) rfl ⟨rfl, rfl⟩ wa_long rfl (lb rfl) rfl rfl (lb rfl) (lb rfl) rfl rfl ?_
  obtain ⟨M_8, hM_8, hz⟩ := Z_lt hz
  refine R_putF (pc := 64) (ci := 1) (k := 15) (v := 11) (dc k_T_init 33 rfl) ff_T_33 rfl rfl (lb rfl) (lb rfl) rfl rfl rfl (by decide) (lb rfl) rfl ?_
  rw [← hM_8]
  refine R_aload_n (pc := 67) 0 (dc k_T_init 34 rfl) rfl rfl ?_
  refine R_bipush (pc := 68) (a := 48) (dc k_T_init 35 rfl) (by decide) ?_
  refine R_newa (pc := 70) (n := 11) (ty := .long) (len := 48) (dc k_T_init 36 rfl) rfl ⟨rfl, rfl⟩ wa_long rfl (lb rfl) rfl rfl (lb rfl) (lb rfl) rfl rfl ?_
  obtain ⟨M_9, hM_9, hz⟩ := Z_lt hz
  refine R_putF (pc := 72) (ci := 1) (k := 16) (v := 12) (dc k_T_init 37 rfl) ff_T_37 rfl rfl (lb rfl) (lb rfl) rfl rfl rfl (by decide) (lb rfl) rfl ?_
  rw [← hM_9]
  refine R_aload_n (pc := 75) 0 (dc k_T_init 38 rfl) rfl rfl ?_
  refine R_sipush (pc := 76) (a := 384) (dc k_T_init 39 rfl) (by decide) ?_
  refine R_newa (pc := 79) (n := 12) (ty := .long) (len := 384) (dc k_T_init 40 rfl) rfl ⟨rfl, rfl⟩ wa_long rfl (lb rfl) rfl rfl (lb rfl) (lb rfl) rfl rfl ?_
  obtain ⟨M_10, hM_10, hz⟩ := Z_lt hz
  refine R_putF (pc := 81) (ci := 1) (k := 17) (v := 13) (dc k_T_init 41 rfl) ff_T_40 rfl rfl (lb rfl) (lb rfl) rfl rfl rfl (by decide) (lb rfl) rfl ?_
  rw [← hM_10]
  refine R_aload_n (pc := 84) 0 (dc k_T_init 42 rfl) rfl rfl ?_
  refine R_sipush (pc := 85) (a := 384) (dc k_T_init 43 rfl) (by decide) ?_
  refine R_newa (pc := 88) (n := 13) (ty := .long) (len := 384) (dc k_T_init 44 rfl) rfl ⟨rfl, rfl⟩ wa_long rfl (lb rfl) rfl rfl (lb rfl) (lb rfl) rfl rfl ?_
  obtain ⟨M_11, hM_11, hz⟩ := Z_lt hz
  refine R_putF (pc := 90) (ci := 1) (k := 18) (v := 14) (dc k_T_init 45 rfl) ff_T_43 rfl rfl (lb rfl) (lb rfl) rfl rfl rfl (by decide) (lb rfl) rfl ?_
  rw [← hM_11]
  refine R_est (E' := (eI [(3, 14)])) (est_of 3 3 (by decide) (by decide) (by decide) ?_ ?_) ?_
  · exact ⟨Or.inl rfl, Or.inl rfl, Or.inl rfl, Or.inl rfl, Or.inl rfl, Or.inl rfl, Or.inl rfl, Or.inl rfl, Or.inr (by simp [up, Int.toNat, hM_11, hM_10, hM_9, hM_8, hM_7, hM_6, hM_5, hM_4, hM_3, hM_2, hM_1]), Or.inr (by simp [up, Int.toNat, hM_11, hM_10, hM_9, hM_8, hM_7, hM_6, hM_5, hM_4, hM_3, hM_2, hM_1]), Or.inr (by simp [up, Int.toNat, hM_11, hM_10, hM_9, hM_8, hM_7, hM_6, hM_5, hM_4, hM_3, hM_2, hM_1]), Or.inr (by simp [up, Int.toNat, hM_11, hM_10, hM_9, hM_8, hM_7, hM_6, hM_5, hM_4, hM_3, hM_2, hM_1]), Or.inr (by simp [up, Int.toNat, hM_11, hM_10, hM_9, hM_8, hM_7, hM_6, hM_5, hM_4, hM_3, hM_2, hM_1]), Or.inr (by simp [up, Int.toNat, hM_11, hM_10, hM_9, hM_8, hM_7, hM_6, hM_5, hM_4, hM_3, hM_2, hM_1]), Or.inr (by simp [up, Int.toNat, hM_11, hM_10, hM_9, hM_8, hM_7, hM_6, hM_5, hM_4, hM_3, hM_2, hM_1]), Or.inr (by simp [up, Int.toNat, hM_11, hM_10, hM_9, hM_8, hM_7, hM_6, hM_5, hM_4, hM_3, hM_2, hM_1]), Or.inr (by simp [up, Int.toNat, hM_11, hM_10, hM_9, hM_8, hM_7, hM_6, hM_5, hM_4, hM_3, hM_2, hM_1]), Or.inr (by simp [up, Int.toNat, hM_11, hM_10, hM_9, hM_8, hM_7, hM_6, hM_5, hM_4, hM_3, hM_2, hM_1]), Or.inr (by simp [up, Int.toNat, hM_11, hM_10, hM_9, hM_8, hM_7, hM_6, hM_5, hM_4, hM_3, hM_2, hM_1]), trivial⟩
  · exact ⟨Or.inl rfl, Or.inl rfl, Or.inl rfl, Or.inl rfl, Or.inl rfl, Or.inl rfl, Or.inl rfl, Or.inl rfl, Or.inr (by simp [up, Int.toNat, hM_11, hM_10, hM_9, hM_8, hM_7, hM_6, hM_5, hM_4, hM_3, hM_2, hM_1]), Or.inr (by simp [up, Int.toNat, hM_11, hM_10, hM_9, hM_8, hM_7, hM_6, hM_5, hM_4, hM_3, hM_2, hM_1]), Or.inr (by simp [up, Int.toNat, hM_11, hM_10, hM_9, hM_8, hM_7, hM_6, hM_5, hM_4, hM_3, hM_2, hM_1]), Or.inr (by simp [up, Int.toNat, hM_11, hM_10, hM_9, hM_8, hM_7, hM_6, hM_5, hM_4, hM_3, hM_2, hM_1]), Or.inr (by simp [up, Int.toNat, hM_11, hM_10, hM_9, hM_8, hM_7, hM_6, hM_5, hM_4, hM_3, hM_2, hM_1]), Or.inr (by simp [up, Int.toNat, hM_11, hM_10, hM_9, hM_8, hM_7, hM_6, hM_5, hM_4, hM_3, hM_2, hM_1]), Or.inr (by simp [up, Int.toNat, hM_11, hM_10, hM_9, hM_8, hM_7, hM_6, hM_5, hM_4, hM_3, hM_2, hM_1]), Or.inr (by simp [up, Int.toNat, hM_11, hM_10, hM_9, hM_8, hM_7, hM_6, hM_5, hM_4, hM_3, hM_2, hM_1]), Or.inr (by simp [up, Int.toNat, hM_11, hM_10, hM_9, hM_8, hM_7, hM_6, hM_5, hM_4, hM_3, hM_2, hM_1]), Or.inr (by simp [up, Int.toNat, hM_11, hM_10, hM_9, hM_8, hM_7, hM_6, hM_5, hM_4, hM_3, hM_2, hM_1]), Or.inr (by simp [up, Int.toNat, hM_11, hM_10, hM_9, hM_8, hM_7, hM_6, hM_5, hM_4, hM_3, hM_2, hM_1]), trivial⟩
  refine R_aload_n (pc := 93) 0 (dc k_T_init 46 rfl) rfl rfl ?_
  refine R_cVV (pc := 94) (As := []) (S := []) ck_T_46 (dc k_T_init 47 rfl) ⟨rfl, ⟨_, rfl, rfl⟩, (lb rfl), (lb rfl)⟩ (lb rfl) (lb rfl) (lb rfl) rfl (ct0_T_clear (t := 3) (by unfold isT; omega) rfl (lb rfl) (Z_bind hz)) (fun M_12 hz => ?_)
  exact R_vret (pc := 97) (dc k_T_init 48 rfl) rfl rfl rfl ⟨rfl, (Z_some hz)⟩

set_option maxRecDepth 20000 in
set_option maxHeartbeats 4000000 in
theorem ct_T_init15 {M : Mem} {K : Mem → Prop} (hz : Z (T_init15 M) K) : Mt y_T_init (1, 21, 15, 26, (eI [(15, 26), (3, 14)])) (eI [(3, 14)]) [vR 15] M (qV K) := by
  refine Mt.of (by decide) (lb rfl) (lb rfl) rfl ?_
  rw [T_init15] at hz
  show Rr y_T_init (1, 21, 15, 26, (eI [(15, 26), (3, 14)])) (qV K) 0 [(0, vR 15)] [] (eI [(3, 14)]) 15 M
  refine R_aload_n (pc := 0) 0 (dc k_T_init 0 rfl) rfl rfl ?_
  refine R_objInit (pc := 1) (dc k_T_init 1 rfl) wo_T_3 oi_words (lb rfl) (lb rfl) ?_
  refine R_aload_n (pc := 4) 0 (dc k_T_init 2 rfl) rfl rfl ?_
  refine R_bipush (pc := 5) (a := 8) (dc k_T_init 3 rfl) (by decide) ?_
  refine R_newa (pc := 7) (n := 15) (ty := .int) (len := 8) (dc k_T_init 4 rfl) rfl ⟨rfl, rfl⟩ wa_int rfl (lb rfl) rfl rfl (lb rfl) (lb rfl) rfl rfl ?_
  obtain ⟨M_1, hM_1, hz⟩ := Z_lt hz
  refine R_putF (pc := 9) (ci := 1) (k := 8) (v := 16) (dc k_T_init 5 rfl) ff_T_9 rfl rfl (lb rfl) (lb rfl) rfl rfl rfl (by decide) (lb rfl) rfl ?_
  rw [← hM_1]
  refine R_aload_n (pc := 12) 0 (dc k_T_init 6 rfl) rfl rfl ?_
  refine R_bipush (pc := 13) (a := 8) (dc k_T_init 7 rfl) (by decide) ?_
  refine R_newa (pc := 15) (n := 16) (ty := .int) (len := 8) (dc k_T_init 8 rfl) rfl ⟨rfl, rfl⟩ wa_int rfl (lb rfl) rfl rfl (lb rfl) (lb rfl) rfl rfl ?_
  obtain ⟨M_2, hM_2, hz⟩ := Z_lt hz
  refine R_putF (pc := 17) (ci := 1) (k := 9) (v := 17) (dc k_T_init 9 rfl) ff_T_15 rfl rfl (lb rfl) (lb rfl) rfl rfl rfl (by decide) (lb rfl) rfl ?_
  rw [← hM_2]
  refine R_aload_n (pc := 20) 0 (dc k_T_init 10 rfl) rfl rfl ?_
  refine R_bipush (pc := 21) (a := 8) (dc k_T_init 11 rfl) (by decide) ?_
  refine R_newa (pc := 23) (n := 17) (ty := .int) (len := 8) (dc k_T_init 12 rfl) rfl ⟨rfl, rfl⟩ wa_int rfl (lb rfl) rfl rfl (lb rfl) (lb rfl) rfl rfl ?_
  obtain ⟨M_3, hM_3, hz⟩ := Z_lt hz
  refine R_putF (pc := 25) (ci := 1) (k := 10) (v := 18) (dc k_T_init 13 rfl) ff_T_18 rfl rfl (lb rfl) (lb rfl) rfl rfl rfl (by decide) (lb rfl) rfl ?_
  rw [← hM_3]
  refine R_aload_n (pc := 28) 0 (dc k_T_init 14 rfl) rfl rfl ?_
  refine R_bipush (pc := 29) (a := 12) (dc k_T_init 15 rfl) (by decide) ?_
  refine R_newa (pc := 31) (n := 18) (ty := .int) (len := 12) (dc k_T_init 16 rfl) rfl ⟨rfl, rfl⟩ wa_int rfl (lb rfl) rfl rfl (lb rfl) (lb rfl) rfl rfl ?_
  obtain ⟨M_4, hM_4, hz⟩ := Z_lt hz
  refine R_putF (pc := 33) (ci := 1) (k := 11) (v := 19) (dc k_T_init 17 rfl) ff_T_21 rfl rfl (lb rfl) (lb rfl) rfl rfl rfl (by decide) (lb rfl) rfl ?_
  rw [← hM_4]
  refine R_aload_n (pc := 36) 0 (dc k_T_init 18 rfl) rfl rfl ?_
  refine R_bipush (pc := 37) (a := 12) (dc k_T_init 19 rfl) (by decide) ?_
  refine R_newa (pc := 39) (n := 19) (ty := .int) (len := 12) (dc k_T_init 20 rfl) rfl ⟨rfl, rfl⟩ wa_int rfl (lb rfl) rfl rfl (lb rfl) (lb rfl) rfl rfl ?_
  obtain ⟨M_5, hM_5, hz⟩ := Z_lt hz
  refine R_putF (pc := 41) (ci := 1) (k := 12) (v := 20) (dc k_T_init 21 rfl) ff_T_24 rfl rfl (lb rfl) (lb rfl) rfl rfl rfl (by decide) (lb rfl) rfl ?_
  rw [← hM_5]
  refine R_aload_n (pc := 44) 0 (dc k_T_init 22 rfl) rfl rfl ?_
  refine R_bipush (pc := 45) (a := 12) (dc k_T_init 23 rfl) (by decide) ?_
  refine R_newa (pc := 47) (n := 20) (ty := .int) (len := 12) (dc k_T_init 24 rfl) rfl ⟨rfl, rfl⟩ wa_int rfl (lb rfl) rfl rfl (lb rfl) (lb rfl) rfl rfl ?_
  obtain ⟨M_6, hM_6, hz⟩ := Z_lt hz
  refine R_putF (pc := 49) (ci := 1) (k := 13) (v := 21) (dc k_T_init 25 rfl) ff_T_27 rfl rfl (lb rfl) (lb rfl) rfl rfl rfl (by decide) (lb rfl) rfl ?_
  rw [← hM_6]
  refine R_aload_n (pc := 52) 0 (dc k_T_init 26 rfl) rfl rfl ?_
  refine R_bipush (pc := 53) (a := 96) (dc k_T_init 27 rfl) (by decide) ?_
  refine R_newa (pc := 55) (n := 21) (ty := .int) (len := 96) (dc k_T_init 28 rfl) rfl ⟨rfl, rfl⟩ wa_int rfl (lb rfl) rfl rfl (lb rfl) (lb rfl) rfl rfl ?_
  obtain ⟨M_7, hM_7, hz⟩ := Z_lt hz
  refine R_putF (pc := 57) (ci := 1) (k := 14) (v := 22) (dc k_T_init 29 rfl) ff_T_30 rfl rfl (lb rfl) (lb rfl) rfl rfl rfl (by decide) (lb rfl) rfl ?_
  rw [← hM_7]
  refine R_aload_n (pc := 60) 0 (dc k_T_init 30 rfl) rfl rfl ?_
  refine R_iconst (pc := 61) (a := 4) (dc k_T_init 31 rfl) ?_
  refine R_newa (pc := 62) (n := 22) (ty := .long) (len := 4) (dc k_T_init 32 rfl) rfl ⟨rfl, rfl⟩ wa_long rfl (lb rfl) rfl rfl (lb rfl) (lb rfl) rfl rfl ?_
  obtain ⟨M_8, hM_8, hz⟩ := Z_lt hz
  refine R_putF (pc := 64) (ci := 1) (k := 15) (v := 23) (dc k_T_init 33 rfl) ff_T_33 rfl rfl (lb rfl) (lb rfl) rfl rfl rfl (by decide) (lb rfl) rfl ?_
  rw [← hM_8]
  refine R_aload_n (pc := 67) 0 (dc k_T_init 34 rfl) rfl rfl ?_
  refine R_bipush (pc := 68) (a := 48) (dc k_T_init 35 rfl) (by decide) ?_
  refine R_newa (pc := 70) (n := 23) (ty := .long) (len := 48) (dc k_T_init 36 rfl) rfl ⟨rfl, rfl⟩ wa_long rfl (lb rfl) rfl rfl (lb rfl) (lb rfl) rfl rfl ?_
  obtain ⟨M_9, hM_9, hz⟩ := Z_lt hz
  refine R_putF (pc := 72) (ci := 1) (k := 16) (v := 24) (dc k_T_init 37 rfl) ff_T_37 rfl rfl (lb rfl) (lb rfl) rfl rfl rfl (by decide) (lb rfl) rfl ?_
  rw [← hM_9]
  refine R_aload_n (pc := 75) 0 (dc k_T_init 38 rfl) rfl rfl ?_
  refine R_sipush (pc := 76) (a := 384) (dc k_T_init 39 rfl) (by decide) ?_
  refine R_newa (pc := 79) (n := 24) (ty := .long) (len := 384) (dc k_T_init 40 rfl) rfl ⟨rfl, rfl⟩ wa_long rfl (lb rfl) rfl rfl (lb rfl) (lb rfl) rfl rfl ?_
  obtain ⟨M_10, hM_10, hz⟩ := Z_lt hz
  refine R_putF (pc := 81) (ci := 1) (k := 17) (v := 25) (dc k_T_init 41 rfl) ff_T_40 rfl rfl (lb rfl) (lb rfl) rfl rfl rfl (by decide) (lb rfl) rfl ?_
  rw [← hM_10]
  refine R_aload_n (pc := 84) 0 (dc k_T_init 42 rfl) rfl rfl ?_
  refine R_sipush (pc := 85) (a := 384) (dc k_T_init 43 rfl) (by decide) ?_
  refine R_newa (pc := 88) (n := 25) (ty := .long) (len := 384) (dc k_T_init 44 rfl) rfl ⟨rfl, rfl⟩ wa_long rfl (lb rfl) rfl rfl (lb rfl) (lb rfl) rfl rfl ?_
  obtain ⟨M_11, hM_11, hz⟩ := Z_lt hz
  refine R_putF (pc := 90) (ci := 1) (k := 18) (v := 26) (dc k_T_init 45 rfl) ff_T_43 rfl rfl (lb rfl) (lb rfl) rfl rfl rfl (by decide) (lb rfl) rfl ?_
  rw [← hM_11]
  refine R_est (E' := (eI [(15, 26), (3, 14)])) (est_of 15 15 (by decide) (by decide) (by decide) ?_ ?_) ?_
  · exact ⟨Or.inl rfl, Or.inl rfl, Or.inl rfl, Or.inl rfl, Or.inl rfl, Or.inl rfl, Or.inl rfl, Or.inl rfl, Or.inr (by simp [up, Int.toNat, hM_11, hM_10, hM_9, hM_8, hM_7, hM_6, hM_5, hM_4, hM_3, hM_2, hM_1]), Or.inr (by simp [up, Int.toNat, hM_11, hM_10, hM_9, hM_8, hM_7, hM_6, hM_5, hM_4, hM_3, hM_2, hM_1]), Or.inr (by simp [up, Int.toNat, hM_11, hM_10, hM_9, hM_8, hM_7, hM_6, hM_5, hM_4, hM_3, hM_2, hM_1]), Or.inr (by simp [up, Int.toNat, hM_11, hM_10, hM_9, hM_8, hM_7, hM_6, hM_5, hM_4, hM_3, hM_2, hM_1]), Or.inr (by simp [up, Int.toNat, hM_11, hM_10, hM_9, hM_8, hM_7, hM_6, hM_5, hM_4, hM_3, hM_2, hM_1]), Or.inr (by simp [up, Int.toNat, hM_11, hM_10, hM_9, hM_8, hM_7, hM_6, hM_5, hM_4, hM_3, hM_2, hM_1]), Or.inr (by simp [up, Int.toNat, hM_11, hM_10, hM_9, hM_8, hM_7, hM_6, hM_5, hM_4, hM_3, hM_2, hM_1]), Or.inr (by simp [up, Int.toNat, hM_11, hM_10, hM_9, hM_8, hM_7, hM_6, hM_5, hM_4, hM_3, hM_2, hM_1]), Or.inr (by simp [up, Int.toNat, hM_11, hM_10, hM_9, hM_8, hM_7, hM_6, hM_5, hM_4, hM_3, hM_2, hM_1]), Or.inr (by simp [up, Int.toNat, hM_11, hM_10, hM_9, hM_8, hM_7, hM_6, hM_5, hM_4, hM_3, hM_2, hM_1]), Or.inr (by simp [up, Int.toNat, hM_11, hM_10, hM_9, hM_8, hM_7, hM_6, hM_5, hM_4, hM_3, hM_2, hM_1]), trivial⟩
  · exact ⟨Or.inl rfl, Or.inl rfl, Or.inl rfl, Or.inl rfl, Or.inl rfl, Or.inl rfl, Or.inl rfl, Or.inl rfl, Or.inr (by simp [up, Int.toNat, hM_11, hM_10, hM_9, hM_8, hM_7, hM_6, hM_5, hM_4, hM_3, hM_2, hM_1]), Or.inr (by simp [up, Int.toNat, hM_11, hM_10, hM_9, hM_8, hM_7, hM_6, hM_5, hM_4, hM_3, hM_2, hM_1]), Or.inr (by simp [up, Int.toNat, hM_11, hM_10, hM_9, hM_8, hM_7, hM_6, hM_5, hM_4, hM_3, hM_2, hM_1]), Or.inr (by simp [up, Int.toNat, hM_11, hM_10, hM_9, hM_8, hM_7, hM_6, hM_5, hM_4, hM_3, hM_2, hM_1]), Or.inr (by simp [up, Int.toNat, hM_11, hM_10, hM_9, hM_8, hM_7, hM_6, hM_5, hM_4, hM_3, hM_2, hM_1]), Or.inr (by simp [up, Int.toNat, hM_11, hM_10, hM_9, hM_8, hM_7, hM_6, hM_5, hM_4, hM_3, hM_2, hM_1]), Or.inr (by simp [up, Int.toNat, hM_11, hM_10, hM_9, hM_8, hM_7, hM_6, hM_5, hM_4, hM_3, hM_2, hM_1]), Or.inr (by simp [up, Int.toNat, hM_11, hM_10, hM_9, hM_8, hM_7, hM_6, hM_5, hM_4, hM_3, hM_2, hM_1]), Or.inr (by simp [up, Int.toNat, hM_11, hM_10, hM_9, hM_8, hM_7, hM_6, hM_5, hM_4, hM_3, hM_2, hM_1]), Or.inr (by simp [up, Int.toNat, hM_11, hM_10, hM_9, hM_8, hM_7, hM_6, hM_5, hM_4, hM_3, hM_2, hM_1]), Or.inr (by simp [up, Int.toNat, hM_11, hM_10, hM_9, hM_8, hM_7, hM_6, hM_5, hM_4, hM_3, hM_2, hM_1]), trivial⟩
  refine R_aload_n (pc := 93) 0 (dc k_T_init 46 rfl) rfl rfl ?_
  refine R_cVV (pc := 94) (As := []) (S := []) ck_T_46 (dc k_T_init 47 rfl) ⟨rfl, ⟨_, rfl, rfl⟩, (lb rfl), (lb rfl)⟩ (lb rfl) (lb rfl) (lb rfl) rfl (ct0_T_clear (t := 15) (by unfold isT; omega) rfl (lb rfl) (Z_bind hz)) (fun M_12 hz => ?_)
  exact R_vret (pc := 97) (dc k_T_init 48 rfl) rfl rfl rfl ⟨rfl, (Z_some hz)⟩

set_option maxRecDepth 20000 in
set_option maxHeartbeats 4000000 in
theorem ct_S_init28 {M : Mem} {K : Mem → Prop} (hz : Z (S_init28 M) K) : Mt y_S_init (1, 20, 28, 31, (eI [(28, 31), (15, 26), (3, 14)])) (eI [(15, 26), (3, 14)]) [vR 28] M (qV K) := by
  refine Mt.of (by decide) (lb rfl) (lb rfl) rfl ?_
  rw [S_init28] at hz
  show Rr y_S_init (1, 20, 28, 31, (eI [(28, 31), (15, 26), (3, 14)])) (qV K) 0 [(0, vR 28)] [] (eI [(15, 26), (3, 14)]) 28 M
  refine R_aload_n (pc := 0) 0 (dc k_S_init 0 rfl) rfl rfl ?_
  refine R_objInit (pc := 1) (dc k_S_init 1 rfl) wo_S_3 oi_words (lb rfl) (lb rfl) ?_
  refine R_aload_n (pc := 4) 0 (dc k_S_init 2 rfl) rfl rfl ?_
  refine R_sipush (pc := 5) (a := 720) (dc k_S_init 3 rfl) (by decide) ?_
  refine R_newa (pc := 8) (n := 28) (ty := .int) (len := 720) (dc k_S_init 4 rfl) rfl ⟨rfl, rfl⟩ wa_int rfl (lb rfl) rfl rfl (lb rfl) (lb rfl) rfl rfl ?_
  obtain ⟨M_1, hM_1, hz⟩ := Z_lt hz
  refine R_putF (pc := 10) (ci := 4) (k := 0) (v := 29) (dc k_S_init 5 rfl) ff_S_9 rfl rfl (lb rfl) (lb rfl) rfl rfl rfl (by decide) (lb rfl) rfl ?_
  rw [← hM_1]
  refine R_aload_n (pc := 13) 0 (dc k_S_init 6 rfl) rfl rfl ?_
  refine R_bipush (pc := 14) (a := 100) (dc k_S_init 7 rfl) (by decide) ?_
  refine R_newa (pc := 16) (n := 29) (ty := .long) (len := 100) (dc k_S_init 8 rfl) rfl ⟨rfl, rfl⟩ wa_long rfl (lb rfl) rfl rfl (lb rfl) (lb rfl) rfl rfl ?_
  obtain ⟨M_2, hM_2, hz⟩ := Z_lt hz
  refine R_putF (pc := 18) (ci := 4) (k := 2) (v := 30) (dc k_S_init 9 rfl) ff_S_15 rfl rfl (lb rfl) (lb rfl) rfl rfl rfl (by decide) (lb rfl) rfl ?_
  rw [← hM_2]
  refine R_aload_n (pc := 21) 0 (dc k_S_init 10 rfl) rfl rfl ?_
  refine R_bipush (pc := 22) (a := 25) (dc k_S_init 11 rfl) (by decide) ?_
  refine R_newa (pc := 24) (n := 30) (ty := .int) (len := 25) (dc k_S_init 12 rfl) rfl ⟨rfl, rfl⟩ wa_int rfl (lb rfl) rfl rfl (lb rfl) (lb rfl) rfl rfl ?_
  obtain ⟨M_3, hM_3, hz⟩ := Z_lt hz
  refine R_putF (pc := 26) (ci := 4) (k := 3) (v := 31) (dc k_S_init 13 rfl) ff_S_19 rfl rfl (lb rfl) (lb rfl) rfl rfl rfl (by decide) (lb rfl) rfl ?_
  rw [← hM_3]
  refine R_est (E' := (eI [(28, 31), (15, 26), (3, 14)])) (est_of 28 28 (by decide) (by decide) (by decide) ?_ ?_) ?_
  · exact ⟨Or.inr (by simp [up, Int.toNat, hM_3, hM_2, hM_1]), Or.inl rfl, Or.inr (by simp [up, Int.toNat, hM_3, hM_2, hM_1]), Or.inr (by simp [up, Int.toNat, hM_3, hM_2, hM_1]), trivial⟩
  · exact ⟨Or.inr (by simp [up, Int.toNat, hM_3, hM_2, hM_1]), Or.inl rfl, Or.inr (by simp [up, Int.toNat, hM_3, hM_2, hM_1]), Or.inr (by simp [up, Int.toNat, hM_3, hM_2, hM_1]), trivial⟩
  exact R_vret (pc := 29) (dc k_S_init 14 rfl) rfl rfl rfl ⟨rfl, (Z_some hz)⟩

set_option maxRecDepth 20000 in
theorem ct_JS_coder {E : Nat → Bool} {n : Nat} {M : Mem} {K : Int → Prop} (hz : Z (JS_coder M) K) : Mt y_JS_coder (0, 0, n, n, E) E [vR 998] M (qP M K) := by
  refine Mt.of (by decide) (lb rfl) (Nat.le_refl _) rfl ?_
  rw [JS_coder] at hz
  show Rr y_JS_coder (0, 0, n, n, E) (qP M K) 0 [(0, vR 998)] [] E n M
  refine R_cmpct (pc := 0) (dc k_JS_coder 0 rfl) wf_JS_38 ?_
  refine R_if_eq (pc := 3) 13 (dc k_JS_coder 1 rfl) rfl (fun hc => ?_) (fun hc => ?_)
  · have hz := Z_neg (show ¬ (¬ (1 : Int) = 0) from (fun z => z hc)) hz
    refine R_iconst (pc := 13) (a := 1) (dc k_JS_coder 5 rfl) ?_
    exact R_cret (pc := 14) (dc k_JS_coder 6 rfl) rfl rfl rfl rfl ⟨_, rfl, rfl, (Z_some hz)⟩
  · have hz := Z_pos (show ¬ (1 : Int) = 0 from hc) hz
    refine R_aload_n (pc := 6) 0 (dc k_JS_coder 2 rfl) rfl rfl ?_
    refine R_strC (pc := 7) (dc k_JS_coder 3 rfl) wf_JS_15 ?_
    refine R_goto (pc := 10) 14 (dc k_JS_coder 4 rfl) rfl ?_
    exact R_cret (pc := 14) (dc k_JS_coder 6 rfl) rfl rfl rfl rfl ⟨_, rfl, rfl, (Z_some hz)⟩

set_option maxRecDepth 20000 in
theorem ct_JS_length {E : Nat → Bool} {n : Nat} {M : Mem} {K : Int → Prop} (hz : Z (JS_length M) K) : Mt y_JS_length (1, 20, n, n, E) E [vR 998] M (qP M K) := by
  refine Mt.of (by decide) (lb rfl) (Nat.le_refl _) rfl ?_
  rw [JS_length] at hz
  show Rr y_JS_length (1, 20, n, n, E) (qP M K) 0 [(0, vR 998)] [] E n M
  refine R_aload_n (pc := 0) 0 (dc k_JS_length 0 rfl) rfl rfl ?_
  refine R_strV (pc := 1) (dc k_JS_length 1 rfl) wf_JS_9 ?_
  refine R_strLen (pc := 4) (dc k_JS_length 2 rfl) ?_
  refine R_aload_n (pc := 5) 0 (dc k_JS_length 3 rfl) rfl rfl ?_
  refine R_cstrP (pc := 6) (As := []) (S := [vI 104]) ck_JS_335 (dc k_JS_length 4 rfl) rfl (lb rfl) (lb rfl) (lb rfl) rfl (ct_JS_coder (Z_bind hz)) (fun r_1 hz => ?_)
  refine R_ishr (pc := 9) (dc k_JS_length 5 rfl) ?_
  exact R_iret (pc := 10) (dc k_JS_length 6 rfl) rfl rfl rfl ⟨_, rfl, rfl, (Z_some hz)⟩

set_option maxRecDepth 20000 in
theorem ct_JS_isLatin1 {E : Nat → Bool} {n : Nat} {M : Mem} {K : Int → Prop} (hz : Z (JS_isLatin1 M) K) : Mt y_JS_isLatin1 (0, 0, n, n, E) E [vR 998] M (qP M K) := by
  refine Mt.of (by decide) (lb rfl) (Nat.le_refl _) rfl ?_
  rw [JS_isLatin1] at hz
  show Rr y_JS_isLatin1 (0, 0, n, n, E) (qP M K) 0 [(0, vR 998)] [] E n M
  refine R_cmpct (pc := 0) (dc k_JS_isLatin1 0 rfl) wf_JS_38 ?_
  have hX_1 : ((¬ (1 : Int) = 0) ∧ ((0 : Int) = 0)) → Rr y_JS_isLatin1 (0, 0, n, n, E) (qP M K) 13 [(0, vR 998)] [] E n M := by
    intro hc
    have hz := Z_pos hc hz
    refine R_iconst (pc := 13) (a := 1) (dc k_JS_isLatin1 5 rfl) ?_
    refine R_goto (pc := 14) 18 (dc k_JS_isLatin1 6 rfl) rfl ?_
    exact R_zret (pc := 18) (dc k_JS_isLatin1 8 rfl) rfl (Or.inr rfl) rfl rfl ⟨_, rfl, rfl, (Z_some hz)⟩
  have hY_2 : ¬ ((¬ (1 : Int) = 0) ∧ ((0 : Int) = 0)) → Rr y_JS_isLatin1 (0, 0, n, n, E) (qP M K) 17 [(0, vR 998)] [] E n M := by
    intro hc
    have hz := Z_neg hc hz
    refine R_iconst (pc := 17) (a := 0) (dc k_JS_isLatin1 7 rfl) ?_
    exact R_zret (pc := 18) (dc k_JS_isLatin1 8 rfl) rfl (Or.inl rfl) rfl rfl ⟨_, rfl, rfl, (Z_some hz)⟩
  refine R_if_eq (pc := 3) 17 (dc k_JS_isLatin1 1 rfl) rfl (fun hc => ?_) (fun hc => ?_)
  · have hc_3 : (1 : Int) = 0 := hc
    exact hY_2 (fun z => (fun z => z hc_3) z.1)
  · have hc_4 : ¬ (1 : Int) = 0 := hc
    refine R_aload_n (pc := 6) 0 (dc k_JS_isLatin1 2 rfl) rfl rfl ?_
    refine R_strC (pc := 7) (dc k_JS_isLatin1 3 rfl) wf_JS_15 ?_
    refine R_if_ne (pc := 10) 17 (dc k_JS_isLatin1 4 rfl) rfl (fun hc => ?_) (fun hc => ?_)
    · have hc_5 : ¬ (0 : Int) = 0 := hc
      exact hY_2 (fun z => hc_5 z.2)
    · have hc_6 : (0 : Int) = 0 := (Decidable.not_not.mp hc)
      exact hX_1 ⟨hc_4, hc_6⟩

set_option maxRecDepth 20000 in
theorem ct_JT_charAt {E : Nat → Bool} {n : Nat} {ix1 : Int} {M : Mem} {K : Int → Prop} (hz : Z (JT_charAt ix1 M) K) : Mt y_JT_charAt (2, 43, n, n, E) E [vR 997, vI ix1] M (qP M K) := by
  refine Mt.of (by decide) (lb rfl) (Nat.le_refl _) rfl ?_
  rw [JT_charAt] at hz
  show Rr y_JT_charAt (2, 43, n, n, E) (qP M K) 0 [(0, vR 997), (1, vI ix1)] [] E n M
  refine R_iload_n (pc := 0) 1 (dc k_JT_charAt 0 rfl) rfl rfl ?_
  refine R_aload_n (pc := 1) 0 (dc k_JT_charAt 1 rfl) rfl rfl ?_
  refine R_strLen (pc := 2) (dc k_JT_charAt 2 rfl) ?_
  obtain ⟨⟨hg_1, hg_2⟩, hz⟩ := Z_chk hz
  refine R_chkIdx' (pc := 3) [] rfl (dc k_JT_charAt 3 rfl) hg_1 hg_2 (by decide) (lb rfl) (lb rfl) (lb rfl) ?_
  refine R_aload_n (pc := 6) 0 (dc k_JT_charAt 4 rfl) rfl rfl ?_
  refine R_iload_n (pc := 7) 1 (dc k_JT_charAt 5 rfl) rfl rfl ?_
  refine R_strB (pc := 8) (dc k_JT_charAt 6 rfl) hg_1 hg_2 ?_
  refine R_sipush (pc := 9) (a := 255) (dc k_JT_charAt 7 rfl) (by decide) ?_
  refine R_iand (pc := 12) (dc k_JT_charAt 8 rfl) ?_
  refine R_i2c (pc := 13) (dc k_JT_charAt 9 rfl) ?_
  obtain ⟨hg_3, hz⟩ := Z_chk hz
  exact R_cret (pc := 14) (dc k_JT_charAt 10 rfl) rfl (nar_char hg_3) rfl rfl ⟨_, rfl, rfl, (Z_some hz)⟩

set_option maxRecDepth 20000 in
theorem ct_JS_charAt {E : Nat → Bool} {n : Nat} {ix0 : Int} {M : Mem} {K : Int → Prop} (hz : Z (JS_charAt ix0 M) K) : Mt y_JS_charAt (3, 64, n, n, E) E [vR 998, vI ix0] M (qP M K) := by
  refine Mt.of (by decide) (lb rfl) (Nat.le_refl _) rfl ?_
  rw [JS_charAt] at hz
  show Rr y_JS_charAt (3, 64, n, n, E) (qP M K) 0 [(0, vR 998), (1, vI ix0)] [] E n M
  refine R_aload_n (pc := 0) 0 (dc k_JS_charAt 0 rfl) rfl rfl ?_
  refine R_cstrP (pc := 1) (As := []) (S := []) ck_JS_492 (dc k_JS_charAt 1 rfl) rfl (lb rfl) (lb rfl) (lb rfl) rfl (ct_JS_isLatin1 (Z_bind hz)) (fun r_1 hz => ?_)
  refine R_if_eq (pc := 4) 16 (dc k_JS_charAt 2 rfl) rfl (fun hc => ?_) (fun hc => ?_)
  · have hz := Z_neg (show ¬ (¬ n32 r_1 = 0) from (fun z => z hc)) hz
    exact (Z_none hz).elim
  · have hz := Z_pos (show ¬ n32 r_1 = 0 from hc) hz
    refine R_aload_n (pc := 7) 0 (dc k_JS_charAt 3 rfl) rfl rfl ?_
    refine R_strV (pc := 8) (dc k_JS_charAt 4 rfl) wf_JS_9 ?_
    refine R_iload_n (pc := 11) 1 (dc k_JS_charAt 5 rfl) rfl rfl ?_
    refine R_cSP (pc := 12) (As := [vR 997, vI ix0]) (S := []) ck_JS_495 (dc k_JS_charAt 6 rfl) (lb rfl) (lb rfl) (lb rfl) rfl (ct_JT_charAt (Z_bind hz)) (fun r_2 hz => ?_)
    obtain ⟨hg_3, hz⟩ := Z_chk hz
    exact R_cret (pc := 15) (dc k_JS_charAt 7 rfl) rfl (nar_char hg_3) rfl rfl ⟨_, rfl, rfl, (Z_some hz)⟩

set_option maxRecDepth 20000 in
set_option maxHeartbeats 4000000 in
theorem ct_K_init40 {M : Mem} {K : Mem → Prop} (hz : Z (K_init40 M) K) : Mt y_K_init (4, 85, 40, 41, (eI [(40, 41), (28, 31), (15, 26), (3, 14)])) (eI [(28, 31), (15, 26), (3, 14)]) [vR 40, vR 2] M (qV K) := by
  refine Mt.of (by decide) (lb rfl) (lb rfl) rfl ?_
  rw [K_init40] at hz
  show Rr y_K_init (4, 85, 40, 41, (eI [(40, 41), (28, 31), (15, 26), (3, 14)])) (qV K) 0 [(0, vR 40), (1, vR 2)] [] (eI [(28, 31), (15, 26), (3, 14)]) 40 M
  refine R_aload_n (pc := 0) 0 (dc k_K_init 0 rfl) rfl rfl ?_
  refine R_objInit (pc := 1) (dc k_K_init 1 rfl) wo_K_3 oi_words (lb rfl) (lb rfl) ?_
  refine R_aload_n (pc := 4) 0 (dc k_K_init 2 rfl) rfl rfl ?_
  refine R_bipush (pc := 5) (a := 20) (dc k_K_init 3 rfl) (by decide) ?_
  refine R_newa (pc := 7) (n := 40) (ty := .long) (len := 20) (dc k_K_init 4 rfl) rfl ⟨rfl, rfl⟩ wa_long rfl (lb rfl) rfl rfl (lb rfl) (lb rfl) rfl rfl ?_
  obtain ⟨M_1, hM_1, hz⟩ := Z_lt hz
  refine R_putF (pc := 9) (ci := 2) (k := 0) (v := 41) (dc k_K_init 5 rfl) ff_K_9 rfl rfl (lb rfl) (lb rfl) rfl rfl rfl (by decide) (lb rfl) rfl ?_
  rw [← hM_1]
  refine R_aload_n (pc := 12) 0 (dc k_K_init 6 rfl) rfl rfl ?_
  refine R_iconst (pc := 13) (a := (-1)) (dc k_K_init 7 rfl) ?_
  obtain ⟨M_2, hM_2, hz⟩ := Z_lt hz
  refine R_putIE (pc := 14) (ci := 2) (k := 9) (dc k_K_init 8 rfl) fl_K_15 rfl (lb rfl) (lb rfl) rfl rfl rfl hM_2 ?_
  refine R_aload_n (pc := 17) 0 (dc k_K_init 9 rfl) rfl rfl ?_
  refine R_aload_n (pc := 18) 1 (dc k_K_init 10 rfl) rfl rfl ?_
  obtain ⟨M_3, hM_3, hz⟩ := Z_lt hz
  refine R_putF (pc := 19) (ci := 2) (k := 1) (v := 2) (dc k_K_init 11 rfl) ff_K_19 rfl rfl (lb rfl) (lb rfl) rfl rfl rfl (by decide) (lb rfl) rfl ?_
  rw [← hM_3]
  refine R_est (E' := (eI [(40, 41), (28, 31), (15, 26), (3, 14)])) (est_of 40 40 (by decide) (by decide) (by decide) ?_ ?_) ?_
  · exact ⟨Or.inr (by simp [up, Int.toNat, hM_3, hM_2, hM_1]), Or.inr (by simp [up, Int.toNat, hM_3, hM_2, hM_1]), trivial⟩
  · exact ⟨Or.inr (by simp [up, Int.toNat, hM_3, hM_2, hM_1]), Or.inr (by simp [up, Int.toNat, hM_3, hM_2, hM_1]), trivial⟩
  refine R_iconst (pc := 22) (a := 0) (dc k_K_init 12 rfl) ?_
  refine R_istore_n (pc := 23) (L' := [(2, vI 0), (0, vR 40), (1, vR 2)]) (dc k_K_init 13 rfl) rfl (lb rfl) rfl ?_
  refine R_lconst (pc := 24) (a := 0) (dc k_K_init 14 rfl) (by decide) ?_
  refine R_lstore_n (pc := 25) (L' := [(3, vJ 0), (2, vI 0), (0, vR 40), (1, vR 2)]) (dc k_K_init 15 rfl) rfl (lb rfl) rfl ?_
  refine R_iconst (pc := 26) (a := 0) (dc k_K_init 16 rfl) ?_
  refine R_istore (pc := 27) (L' := [(5, vI 0), (3, vJ 0), (2, vI 0), (0, vR 40), (1, vR 2)]) (dc k_K_init 17 rfl) (lb rfl) rfl ?_
  obtain ⟨K_8, hK_9, hz⟩ := Z_cut hz
  have hX_10 : ∀ (M_14 : Mem), K_8 M_14 → Rr y_K_init (4, 85, 40, 41, (eI [(40, 41), (28, 31), (15, 26), (3, 14)])) (qV K) 90 [] [] (eI [(40, 41), (28, 31), (15, 26), (3, 14)]) 41 M_14 := by
    intro M_14 hk
    have hz := hK_9 _ hk
    exact R_vret (pc := 90) (dc k_K_init 47 rfl) rfl rfl rfl ⟨rfl, (Z_some hz)⟩
  refine R_sub [3, 2, 1, 0] rfl ?_
  refine it_R (C := fun aZ : Int × Int × Int × Mem => Rr y_K_init (4, 85, 40, 41, (eI [(40, 41), (28, 31), (15, 26), (3, 14)])) (qV K) 29 [(0, vR 40), (2, vI aZ.1), (3, vJ aZ.2.1), (5, vI aZ.2.2.1)] [] (eI [(40, 41), (28, 31), (15, 26), (3, 14)]) 41 aZ.2.2.2) (fun aZ K_11 hC_12 hB_13 hz => ?_) FUEL (0, 0, 0, M_3) hz
  obtain ⟨l2_4, l3_5, l5_6, M_7⟩ := aZ
  rw [K_init40_b29] at hz
  show Rr y_K_init (4, 85, 40, 41, (eI [(40, 41), (28, 31), (15, 26), (3, 14)])) (qV K) 29 [(0, vR 40), (2, vI l2_4), (3, vJ l3_5), (5, vI l5_6)] [] (eI [(40, 41), (28, 31), (15, 26), (3, 14)]) 41 M_7
  refine R_iload (pc := 29) 3 (dc k_K_init 18 rfl) rfl ?_
  refine R_ldcS (pc := 31) rfl (dc k_K_init 19 rfl) ?_
  refine R_cstrP (pc := 33) (As := []) (S := [vI l5_6]) ck_K_25 (dc k_K_init 20 rfl) rfl (lb rfl) (lb rfl) (lb rfl) rfl (ct_JS_length (Z_bind hz)) (fun r_15 hz => ?_)
  have hX_31 : ((n32 l5_6 < n32 r_15) ∧ (n32 l2_4 < 20)) → Rr y_K_init (4, 85, 40, 41, (eI [(40, 41), (28, 31), (15, 26), (3, 14)])) (qV K) 45 [(0, vR 40), (2, vI l2_4), (3, vJ l3_5), (5, vI l5_6)] [] (eI [(40, 41), (28, 31), (15, 26), (3, 14)]) 41 M_7 := by
    intro hc
    have hz := Z_pos hc hz
    refine R_ldcS (pc := 45) rfl (dc k_K_init 25 rfl) ?_
    refine R_iload (pc := 47) 3 (dc k_K_init 26 rfl) rfl ?_
    refine R_cstrP (pc := 49) (As := [vI l5_6]) (S := []) ck_K_31 (dc k_K_init 27 rfl) rfl (lb rfl) (lb rfl) (lb rfl) rfl (ct_JS_charAt (Z_bind hz)) (fun r_16 hz => ?_)
    refine R_bipush (pc := 52) (a := 32) (dc k_K_init 28 rfl) (by decide) ?_
    obtain ⟨K_20, hK_21, hz⟩ := Z_cut hz
    have hJ_22 : ∀ (l2_17 : Int) (l3_18 : Int) (M_19 : Mem), K_20 (l2_17, l3_18, M_19) → Rr y_K_init (4, 85, 40, 41, (eI [(40, 41), (28, 31), (15, 26), (3, 14)])) (qV K) 84 [(0, vR 40), (2, vI l2_17), (3, vJ l3_18), (5, vI l5_6)] [] (eI [(40, 41), (28, 31), (15, 26), (3, 14)]) 41 M_19 := by
      intro l2_17 l3_18 M_19 hk
      have hz := hK_21 _ hk
      obtain ⟨l5_30, hl5_30, hz⟩ := Z_lt hz
      refine R_iincE (pc := 84) (L' := [(5, vI l5_30), (0, vR 40), (2, vI l2_17), (3, vJ l3_18)]) 3 (dc k_K_init 45 rfl) rfl (lb rfl) hl5_30 rfl ?_
      refine R_goto (pc := 87) 29 (dc k_K_init 46 rfl) rfl ?_
      refine R_sub [1, 2, 3, 0] rfl ?_
      exact hC_12 _ (Z_some hz)
    refine R_icmp_ne (pc := 54) 72 (dc k_K_init 29 rfl) rfl (fun hc => ?_) (fun hc => ?_)
    · have hz := Z_neg (show ¬ (n32 r_16 = 32) from hc) hz
      refine R_lload_n (pc := 72) 2 (dc k_K_init 39 rfl) rfl rfl ?_
      refine R_ldcS (pc := 73) rfl (dc k_K_init 40 rfl) ?_
      refine R_iload (pc := 75) 3 (dc k_K_init 41 rfl) rfl ?_
      refine R_cstrP (pc := 77) (As := [vI l5_6]) (S := [vJ l3_5]) ck_K_31 (dc k_K_init 42 rfl) rfl (lb rfl) (lb rfl) (lb rfl) rfl (ct_JS_charAt (Z_bind hz)) (fun r_27 hz => ?_)
      refine R_cSJ (pc := 80)  (As := [vJ l3_5, vI r_27]) (S := []) ck_K_35 (dc k_K_init 43 rfl) (lb rfl) (lb rfl) (lb rfl) rfl (ct0_K_spell (Z_bind hz)) (fun r_28 hz => ?_)
      refine R_lstore_n (pc := 83) (L' := [(3, vJ r_28), (0, vR 40), (2, vI l2_4), (5, vI l5_6)]) (dc k_K_init 44 rfl) rfl (lb rfl) rfl ?_
      refine R_sub [1, 2, 0, 3] rfl ?_
      exact hJ_22 _ _ _ (Z_some hz)
    · have hz := Z_pos (show n32 r_16 = 32 from (Decidable.not_not.mp hc)) hz
      refine R_aload_n (pc := 57) 0 (dc k_K_init 30 rfl) rfl rfl ?_
      refine R_getS (pc := 58) (ci := 2) (k := 0) 41 (dc k_K_init 31 rfl) fl_K_9 rfl (lb rfl) (lb rfl) rfl rfl (by decide) rfl ?_
      refine R_iload_n (pc := 61) 1 (dc k_K_init 32 rfl) rfl rfl ?_
      refine R_lload_n (pc := 62) 2 (dc k_K_init 33 rfl) rfl rfl ?_
      obtain ⟨⟨hg_23, hg_24⟩, hz⟩ := Z_chk hz
      obtain ⟨M_25, hM_25, hz⟩ := Z_lt hz
      refine R_lastE (pc := 63) (dc k_K_init 34 rfl) rfl (lb rfl) (lb rfl) hg_23 hg_24 hM_25 ?_
      obtain ⟨l2_26, hl2_26, hz⟩ := Z_lt hz
      refine R_iincE (pc := 64) (L' := [(2, vI l2_26), (0, vR 40), (3, vJ l3_5), (5, vI l5_6)]) 1 (dc k_K_init 35 rfl) rfl (lb rfl) hl2_26 rfl ?_
      refine R_lconst (pc := 67) (a := 0) (dc k_K_init 36 rfl) (by decide) ?_
      refine R_lstore_n (pc := 68) (L' := [(3, vJ 0), (2, vI l2_26), (0, vR 40), (5, vI l5_6)]) (dc k_K_init 37 rfl) rfl (lb rfl) rfl ?_
      refine R_goto (pc := 69) 84 (dc k_K_init 38 rfl) rfl ?_
      refine R_sub [2, 1, 0, 3] rfl ?_
      exact hJ_22 _ _ _ (Z_some hz)
  have hY_32 : ¬ ((n32 l5_6 < n32 r_15) ∧ (n32 l2_4 < 20)) → Rr y_K_init (4, 85, 40, 41, (eI [(40, 41), (28, 31), (15, 26), (3, 14)])) (qV K) 90 [(0, vR 40), (2, vI l2_4), (3, vJ l3_5), (5, vI l5_6)] [] (eI [(40, 41), (28, 31), (15, 26), (3, 14)]) 41 M_7 := by
    intro hc
    have hz := Z_neg hc hz
    refine R_sub [] rfl ?_
    exact hX_10 _ (hB_13 _ (Z_some hz))
  refine R_icmp_ge (pc := 36) 90 (dc k_K_init 21 rfl) rfl (fun hc => ?_) (fun hc => ?_)
  · have hc_33 : n32 r_15 ≤ n32 l5_6 := hc
    exact hY_32 (fun z => (Int.not_lt.mpr hc_33) z.1)
  · have hc_34 : n32 l5_6 < n32 r_15 := (Int.not_le.mp hc)
    refine R_iload_n (pc := 39) 1 (dc k_K_init 22 rfl) rfl rfl ?_
    refine R_bipush (pc := 40) (a := 20) (dc k_K_init 23 rfl) (by decide) ?_
    refine R_icmp_ge (pc := 42) 90 (dc k_K_init 24 rfl) rfl (fun hc => ?_) (fun hc => ?_)
    · have hc_35 : 20 ≤ n32 l2_4 := hc
      exact hY_32 (fun z => (Int.not_lt.mpr hc_35) z.2)
    · have hc_36 : n32 l2_4 < 20 := (Int.not_le.mp hc)
      exact hX_31 ⟨hc_34, hc_36⟩

set_option maxRecDepth 20000 in
set_option maxHeartbeats 4000000 in
theorem ct_N_init27 {M : Mem} {K : Mem → Prop} (hz : Z (N_init27 M) K) : Mt y_N_init (5, 110, 27, 41, (eI [(27, 41), (15, 26), (3, 14)])) (eI [(15, 26), (3, 14)]) [vR 27, vR 2] M (qV K) := by
  refine Mt.of (by decide) (lb rfl) (lb rfl) rfl ?_
  rw [N_init27] at hz
  show Rr y_N_init (5, 110, 27, 41, (eI [(27, 41), (15, 26), (3, 14)])) (qV K) 0 [(0, vR 27), (1, vR 2)] [] (eI [(15, 26), (3, 14)]) 27 M
  refine R_aload_n (pc := 0) 0 (dc k_N_init 0 rfl) rfl rfl ?_
  refine R_objInit (pc := 1) (dc k_N_init 1 rfl) wo_N_3 oi_words (lb rfl) (lb rfl) ?_
  refine R_aload_n (pc := 4) 0 (dc k_N_init 2 rfl) rfl rfl ?_
  refine R_new (pc := 5) (n := 27) (ci := 4) (dc k_N_init 3 rfl) rfl wk_N_9 wn_S wz_S rfl rfl (lb rfl) (lb rfl) rfl rfl ?_
  refine R_dup (pc := 8) (dc k_N_init 4 rfl) rfl ?_
  refine R_callA (pc := 9) (n := 28) (n' := 31) (E' := (eI [(28, 31), (15, 26), (3, 14)])) (As := []) (S := [vR 28, vR 27]) ck_N_11 (dc k_N_init 5 rfl) (lb rfl) (lb rfl) (lb rfl) (lb rfl) (lb rfl) rfl rfl (ct_S_init28 (Z_and (fr_S_init28 (M := M)) (Z_bind hz))) rfl (fun M_1 hz => ?_)
  obtain ⟨hfM_1, hz⟩ := hz
  obtain ⟨M_2, hM_2, hz⟩ := Z_lt hz
  refine R_putF (pc := 12) (ci := 3) (k := 1) (v := 28) (dc k_N_init 6 rfl) ff_N_12 rfl rfl (lb rfl) (lb rfl) rfl rfl rfl (by decide) (lb rfl) rfl ?_
  rw [← hM_2]
  refine R_aload_n (pc := 15) 0 (dc k_N_init 7 rfl) rfl rfl ?_
  refine R_bipush (pc := 16) (a := 8) (dc k_N_init 8 rfl) (by decide) ?_
  refine R_newa (pc := 18) (n := 31) (ty := .long) (len := 8) (dc k_N_init 9 rfl) rfl ⟨rfl, rfl⟩ wa_long rfl (lb rfl) rfl rfl (lb rfl) (lb rfl) rfl rfl ?_
  obtain ⟨M_3, hM_3, hz⟩ := Z_lt hz
  refine R_putF (pc := 20) (ci := 3) (k := 2) (v := 32) (dc k_N_init 10 rfl) ff_N_18 rfl rfl (lb rfl) (lb rfl) rfl rfl rfl (by decide) (lb rfl) rfl ?_
  rw [← hM_3]
  refine R_aload_n (pc := 23) 0 (dc k_N_init 11 rfl) rfl rfl ?_
  refine R_bipush (pc := 24) (a := 8) (dc k_N_init 12 rfl) (by decide) ?_
  refine R_newa (pc := 26) (n := 32) (ty := .long) (len := 8) (dc k_N_init 13 rfl) rfl ⟨rfl, rfl⟩ wa_long rfl (lb rfl) rfl rfl (lb rfl) (lb rfl) rfl rfl ?_
  obtain ⟨M_4, hM_4, hz⟩ := Z_lt hz
  refine R_putF (pc := 28) (ci := 3) (k := 3) (v := 33) (dc k_N_init 14 rfl) ff_N_22 rfl rfl (lb rfl) (lb rfl) rfl rfl rfl (by decide) (lb rfl) rfl ?_
  rw [← hM_4]
  refine R_aload_n (pc := 31) 0 (dc k_N_init 15 rfl) rfl rfl ?_
  refine R_bipush (pc := 32) (a := 12) (dc k_N_init 16 rfl) (by decide) ?_
  refine R_newa (pc := 34) (n := 33) (ty := .long) (len := 12) (dc k_N_init 17 rfl) rfl ⟨rfl, rfl⟩ wa_long rfl (lb rfl) rfl rfl (lb rfl) (lb rfl) rfl rfl ?_
  obtain ⟨M_5, hM_5, hz⟩ := Z_lt hz
  refine R_putF (pc := 36) (ci := 3) (k := 4) (v := 34) (dc k_N_init 18 rfl) ff_N_25 rfl rfl (lb rfl) (lb rfl) rfl rfl rfl (by decide) (lb rfl) rfl ?_
  rw [← hM_5]
  refine R_aload_n (pc := 39) 0 (dc k_N_init 19 rfl) rfl rfl ?_
  refine R_bipush (pc := 40) (a := 12) (dc k_N_init 20 rfl) (by decide) ?_
  refine R_newa (pc := 42) (n := 34) (ty := .int) (len := 12) (dc k_N_init 21 rfl) rfl ⟨rfl, rfl⟩ wa_int rfl (lb rfl) rfl rfl (lb rfl) (lb rfl) rfl rfl ?_
  obtain ⟨M_6, hM_6, hz⟩ := Z_lt hz
  refine R_putF (pc := 44) (ci := 3) (k := 5) (v := 35) (dc k_N_init 22 rfl) ff_N_28 rfl rfl (lb rfl) (lb rfl) rfl rfl rfl (by decide) (lb rfl) rfl ?_
  rw [← hM_6]
  refine R_aload_n (pc := 47) 0 (dc k_N_init 23 rfl) rfl rfl ?_
  refine R_bipush (pc := 48) (a := 12) (dc k_N_init 24 rfl) (by decide) ?_
  refine R_newa (pc := 50) (n := 35) (ty := .int) (len := 12) (dc k_N_init 25 rfl) rfl ⟨rfl, rfl⟩ wa_int rfl (lb rfl) rfl rfl (lb rfl) (lb rfl) rfl rfl ?_
  obtain ⟨M_7, hM_7, hz⟩ := Z_lt hz
  refine R_putF (pc := 52) (ci := 3) (k := 6) (v := 36) (dc k_N_init 26 rfl) ff_N_32 rfl rfl (lb rfl) (lb rfl) rfl rfl rfl (by decide) (lb rfl) rfl ?_
  rw [← hM_7]
  refine R_aload_n (pc := 55) 0 (dc k_N_init 27 rfl) rfl rfl ?_
  refine R_bipush (pc := 56) (a := 12) (dc k_N_init 28 rfl) (by decide) ?_
  refine R_newa (pc := 58) (n := 36) (ty := .boolean) (len := 12) (dc k_N_init 29 rfl) rfl ⟨rfl, rfl⟩ wa_boolean rfl (lb rfl) rfl rfl (lb rfl) (lb rfl) rfl rfl ?_
  obtain ⟨M_8, hM_8, hz⟩ := Z_lt hz
  refine R_putF (pc := 60) (ci := 3) (k := 7) (v := 37) (dc k_N_init 30 rfl) ff_N_35 rfl rfl (lb rfl) (lb rfl) rfl rfl rfl (by decide) (lb rfl) rfl ?_
  rw [← hM_8]
  refine R_aload_n (pc := 63) 0 (dc k_N_init 31 rfl) rfl rfl ?_
  refine R_iconst (pc := 64) (a := 4) (dc k_N_init 32 rfl) ?_
  refine R_newa (pc := 65) (n := 37) (ty := .int) (len := 4) (dc k_N_init 33 rfl) rfl ⟨rfl, rfl⟩ wa_int rfl (lb rfl) rfl rfl (lb rfl) (lb rfl) rfl rfl ?_
  obtain ⟨M_9, hM_9, hz⟩ := Z_lt hz
  refine R_putF (pc := 67) (ci := 3) (k := 8) (v := 38) (dc k_N_init 34 rfl) ff_N_39 rfl rfl (lb rfl) (lb rfl) rfl rfl rfl (by decide) (lb rfl) rfl ?_
  rw [← hM_9]
  refine R_aload_n (pc := 70) 0 (dc k_N_init 35 rfl) rfl rfl ?_
  refine R_iconst (pc := 71) (a := 4) (dc k_N_init 36 rfl) ?_
  refine R_newa (pc := 72) (n := 38) (ty := .int) (len := 4) (dc k_N_init 37 rfl) rfl ⟨rfl, rfl⟩ wa_int rfl (lb rfl) rfl rfl (lb rfl) (lb rfl) rfl rfl ?_
  obtain ⟨M_10, hM_10, hz⟩ := Z_lt hz
  refine R_putF (pc := 74) (ci := 3) (k := 9) (v := 39) (dc k_N_init 38 rfl) ff_N_42 rfl rfl (lb rfl) (lb rfl) rfl rfl rfl (by decide) (lb rfl) rfl ?_
  rw [← hM_10]
  refine R_aload_n (pc := 77) 0 (dc k_N_init 39 rfl) rfl rfl ?_
  refine R_new (pc := 78) (n := 39) (ci := 2) (dc k_N_init 40 rfl) rfl wk_N_45 wn_K wz_K rfl rfl (lb rfl) (lb rfl) rfl rfl ?_
  refine R_dup (pc := 81) (dc k_N_init 41 rfl) rfl ?_
  refine R_aload_n (pc := 82) 1 (dc k_N_init 42 rfl) rfl rfl ?_
  refine R_callA (pc := 83) (n := 40) (n' := 41) (E' := (eI [(40, 41), (28, 31), (15, 26), (3, 14)])) (As := [vR 2]) (S := [vR 40, vR 27]) ck_N_47 (dc k_N_init 43 rfl) (lb rfl) (lb rfl) (lb rfl) (lb rfl) (lb rfl) rfl rfl (ct_K_init40 (Z_and (fr_K_init40 (M := M_10)) (Z_bind hz))) rfl (fun M_11 hz => ?_)
  obtain ⟨hfM_11, hz⟩ := hz
  obtain ⟨M_12, hM_12, hz⟩ := Z_lt hz
  refine R_putF (pc := 86) (ci := 3) (k := 0) (v := 40) (dc k_N_init 44 rfl) ff_N_50 rfl rfl (lb rfl) (lb rfl) rfl rfl rfl (by decide) (lb rfl) rfl ?_
  rw [← hM_12]
  refine R_est (E' := (eI [(27, 41), (15, 26), (3, 14)])) (est_of 27 27 (by decide) (by decide) (by decide) ?_ ?_) ?_
  · exact ⟨Or.inr (by simp [up, Int.toNat, hM_12, hfM_11, hM_10, hM_9, hM_8, hM_7, hM_6, hM_5, hM_4, hM_3, hM_2, hfM_1]), Or.inr (by simp [up, Int.toNat, hM_12, hfM_11, hM_10, hM_9, hM_8, hM_7, hM_6, hM_5, hM_4, hM_3, hM_2, hfM_1]), Or.inr (by simp [up, Int.toNat, hM_12, hfM_11, hM_10, hM_9, hM_8, hM_7, hM_6, hM_5, hM_4, hM_3, hM_2, hfM_1]), Or.inr (by simp [up, Int.toNat, hM_12, hfM_11, hM_10, hM_9, hM_8, hM_7, hM_6, hM_5, hM_4, hM_3, hM_2, hfM_1]), Or.inr (by simp [up, Int.toNat, hM_12, hfM_11, hM_10, hM_9, hM_8, hM_7, hM_6, hM_5, hM_4, hM_3, hM_2, hfM_1]), Or.inr (by simp [up, Int.toNat, hM_12, hfM_11, hM_10, hM_9, hM_8, hM_7, hM_6, hM_5, hM_4, hM_3, hM_2, hfM_1]), Or.inr (by simp [up, Int.toNat, hM_12, hfM_11, hM_10, hM_9, hM_8, hM_7, hM_6, hM_5, hM_4, hM_3, hM_2, hfM_1]), Or.inr (by simp [up, Int.toNat, hM_12, hfM_11, hM_10, hM_9, hM_8, hM_7, hM_6, hM_5, hM_4, hM_3, hM_2, hfM_1]), Or.inr (by simp [up, Int.toNat, hM_12, hfM_11, hM_10, hM_9, hM_8, hM_7, hM_6, hM_5, hM_4, hM_3, hM_2, hfM_1]), Or.inr (by simp [up, Int.toNat, hM_12, hfM_11, hM_10, hM_9, hM_8, hM_7, hM_6, hM_5, hM_4, hM_3, hM_2, hfM_1]), trivial⟩
  · exact ⟨Or.inr (by simp [up, Int.toNat, hM_12, hfM_11, hM_10, hM_9, hM_8, hM_7, hM_6, hM_5, hM_4, hM_3, hM_2, hfM_1]), Or.inr (by simp [up, Int.toNat, hM_12, hfM_11, hM_10, hM_9, hM_8, hM_7, hM_6, hM_5, hM_4, hM_3, hM_2, hfM_1]), Or.inr (by simp [up, Int.toNat, hM_12, hfM_11, hM_10, hM_9, hM_8, hM_7, hM_6, hM_5, hM_4, hM_3, hM_2, hfM_1]), Or.inr (by simp [up, Int.toNat, hM_12, hfM_11, hM_10, hM_9, hM_8, hM_7, hM_6, hM_5, hM_4, hM_3, hM_2, hfM_1]), Or.inr (by simp [up, Int.toNat, hM_12, hfM_11, hM_10, hM_9, hM_8, hM_7, hM_6, hM_5, hM_4, hM_3, hM_2, hfM_1]), Or.inr (by simp [up, Int.toNat, hM_12, hfM_11, hM_10, hM_9, hM_8, hM_7, hM_6, hM_5, hM_4, hM_3, hM_2, hfM_1]), Or.inr (by simp [up, Int.toNat, hM_12, hfM_11, hM_10, hM_9, hM_8, hM_7, hM_6, hM_5, hM_4, hM_3, hM_2, hfM_1]), Or.inr (by simp [up, Int.toNat, hM_12, hfM_11, hM_10, hM_9, hM_8, hM_7, hM_6, hM_5, hM_4, hM_3, hM_2, hfM_1]), Or.inr (by simp [up, Int.toNat, hM_12, hfM_11, hM_10, hM_9, hM_8, hM_7, hM_6, hM_5, hM_4, hM_3, hM_2, hfM_1]), Or.inr (by simp [up, Int.toNat, hM_12, hfM_11, hM_10, hM_9, hM_8, hM_7, hM_6, hM_5, hM_4, hM_3, hM_2, hfM_1]), trivial⟩
  exact R_vret (pc := 89) (dc k_N_init 45 rfl) rfl rfl rfl ⟨rfl, (Z_some hz)⟩

set_option maxRecDepth 20000 in
set_option maxHeartbeats 4000000 in
theorem ct_Y_init42 {M : Mem} {K : Mem → Prop} (hz : Z (Y_init42 M) K) : Mt y_Y_init (1, 20, 42, 48, (eI [(42, 48), (27, 41), (15, 26), (3, 14)])) (eI [(27, 41), (15, 26), (3, 14)]) [vR 42] M (qV K) := by
  refine Mt.of (by decide) (lb rfl) (lb rfl) rfl ?_
  rw [Y_init42] at hz
  show Rr y_Y_init (1, 20, 42, 48, (eI [(42, 48), (27, 41), (15, 26), (3, 14)])) (qV K) 0 [(0, vR 42)] [] (eI [(27, 41), (15, 26), (3, 14)]) 42 M
  refine R_aload_n (pc := 0) 0 (dc k_Y_init 0 rfl) rfl rfl ?_
  refine R_objInit (pc := 1) (dc k_Y_init 1 rfl) wo_Y_3 oi_words (lb rfl) (lb rfl) ?_
  refine R_aload_n (pc := 4) 0 (dc k_Y_init 2 rfl) rfl rfl ?_
  refine R_bipush (pc := 5) (a := 40) (dc k_Y_init 3 rfl) (by decide) ?_
  refine R_newa (pc := 7) (n := 42) (ty := .int) (len := 40) (dc k_Y_init 4 rfl) rfl ⟨rfl, rfl⟩ wa_int rfl (lb rfl) rfl rfl (lb rfl) (lb rfl) rfl rfl ?_
  obtain ⟨M_1, hM_1, hz⟩ := Z_lt hz
  refine R_putF (pc := 9) (ci := 5) (k := 2) (v := 43) (dc k_Y_init 5 rfl) ff_Y_9 rfl rfl (lb rfl) (lb rfl) rfl rfl rfl (by decide) (lb rfl) rfl ?_
  rw [← hM_1]
  refine R_aload_n (pc := 12) 0 (dc k_Y_init 6 rfl) rfl rfl ?_
  refine R_bipush (pc := 13) (a := 40) (dc k_Y_init 7 rfl) (by decide) ?_
  refine R_newa (pc := 15) (n := 43) (ty := .int) (len := 40) (dc k_Y_init 8 rfl) rfl ⟨rfl, rfl⟩ wa_int rfl (lb rfl) rfl rfl (lb rfl) (lb rfl) rfl rfl ?_
  obtain ⟨M_2, hM_2, hz⟩ := Z_lt hz
  refine R_putF (pc := 17) (ci := 5) (k := 3) (v := 44) (dc k_Y_init 9 rfl) ff_Y_15 rfl rfl (lb rfl) (lb rfl) rfl rfl rfl (by decide) (lb rfl) rfl ?_
  rw [← hM_2]
  refine R_aload_n (pc := 20) 0 (dc k_Y_init 10 rfl) rfl rfl ?_
  refine R_bipush (pc := 21) (a := 40) (dc k_Y_init 11 rfl) (by decide) ?_
  refine R_newa (pc := 23) (n := 44) (ty := .boolean) (len := 40) (dc k_Y_init 12 rfl) rfl ⟨rfl, rfl⟩ wa_boolean rfl (lb rfl) rfl rfl (lb rfl) (lb rfl) rfl rfl ?_
  obtain ⟨M_3, hM_3, hz⟩ := Z_lt hz
  refine R_putF (pc := 25) (ci := 5) (k := 4) (v := 45) (dc k_Y_init 13 rfl) ff_Y_18 rfl rfl (lb rfl) (lb rfl) rfl rfl rfl (by decide) (lb rfl) rfl ?_
  rw [← hM_3]
  refine R_aload_n (pc := 28) 0 (dc k_Y_init 14 rfl) rfl rfl ?_
  refine R_bipush (pc := 29) (a := 40) (dc k_Y_init 15 rfl) (by decide) ?_
  refine R_newa (pc := 31) (n := 45) (ty := .int) (len := 40) (dc k_Y_init 16 rfl) rfl ⟨rfl, rfl⟩ wa_int rfl (lb rfl) rfl rfl (lb rfl) (lb rfl) rfl rfl ?_
  obtain ⟨M_4, hM_4, hz⟩ := Z_lt hz
  refine R_putF (pc := 33) (ci := 5) (k := 5) (v := 46) (dc k_Y_init 17 rfl) ff_Y_22 rfl rfl (lb rfl) (lb rfl) rfl rfl rfl (by decide) (lb rfl) rfl ?_
  rw [← hM_4]
  refine R_aload_n (pc := 36) 0 (dc k_Y_init 18 rfl) rfl rfl ?_
  refine R_bipush (pc := 37) (a := 40) (dc k_Y_init 19 rfl) (by decide) ?_
  refine R_newa (pc := 39) (n := 46) (ty := .int) (len := 40) (dc k_Y_init 20 rfl) rfl ⟨rfl, rfl⟩ wa_int rfl (lb rfl) rfl rfl (lb rfl) (lb rfl) rfl rfl ?_
  obtain ⟨M_5, hM_5, hz⟩ := Z_lt hz
  refine R_putF (pc := 41) (ci := 5) (k := 6) (v := 47) (dc k_Y_init 21 rfl) ff_Y_25 rfl rfl (lb rfl) (lb rfl) rfl rfl rfl (by decide) (lb rfl) rfl ?_
  rw [← hM_5]
  refine R_aload_n (pc := 44) 0 (dc k_Y_init 22 rfl) rfl rfl ?_
  refine R_sipush (pc := 45) (a := 160) (dc k_Y_init 23 rfl) (by decide) ?_
  refine R_newa (pc := 48) (n := 47) (ty := .long) (len := 160) (dc k_Y_init 24 rfl) rfl ⟨rfl, rfl⟩ wa_long rfl (lb rfl) rfl rfl (lb rfl) (lb rfl) rfl rfl ?_
  obtain ⟨M_6, hM_6, hz⟩ := Z_lt hz
  refine R_putF (pc := 50) (ci := 5) (k := 7) (v := 48) (dc k_Y_init 25 rfl) ff_Y_28 rfl rfl (lb rfl) (lb rfl) rfl rfl rfl (by decide) (lb rfl) rfl ?_
  rw [← hM_6]
  refine R_est (E' := (eI [(42, 48), (27, 41), (15, 26), (3, 14)])) (est_of 42 42 (by decide) (by decide) (by decide) ?_ ?_) ?_
  · exact ⟨Or.inl rfl, Or.inl rfl, Or.inr (by simp [up, Int.toNat, hM_6, hM_5, hM_4, hM_3, hM_2, hM_1]), Or.inr (by simp [up, Int.toNat, hM_6, hM_5, hM_4, hM_3, hM_2, hM_1]), Or.inr (by simp [up, Int.toNat, hM_6, hM_5, hM_4, hM_3, hM_2, hM_1]), Or.inr (by simp [up, Int.toNat, hM_6, hM_5, hM_4, hM_3, hM_2, hM_1]), Or.inr (by simp [up, Int.toNat, hM_6, hM_5, hM_4, hM_3, hM_2, hM_1]), Or.inr (by simp [up, Int.toNat, hM_6, hM_5, hM_4, hM_3, hM_2, hM_1]), trivial⟩
  · exact ⟨Or.inl rfl, Or.inl rfl, Or.inr (by simp [up, Int.toNat, hM_6, hM_5, hM_4, hM_3, hM_2, hM_1]), Or.inr (by simp [up, Int.toNat, hM_6, hM_5, hM_4, hM_3, hM_2, hM_1]), Or.inr (by simp [up, Int.toNat, hM_6, hM_5, hM_4, hM_3, hM_2, hM_1]), Or.inr (by simp [up, Int.toNat, hM_6, hM_5, hM_4, hM_3, hM_2, hM_1]), Or.inr (by simp [up, Int.toNat, hM_6, hM_5, hM_4, hM_3, hM_2, hM_1]), Or.inr (by simp [up, Int.toNat, hM_6, hM_5, hM_4, hM_3, hM_2, hM_1]), trivial⟩
  exact R_vret (pc := 53) (dc k_Y_init 26 rfl) rfl rfl rfl ⟨rfl, (Z_some hz)⟩

set_option maxRecDepth 20000 in
set_option maxHeartbeats 4000000 in
theorem ct_Y_init50 {M : Mem} {K : Mem → Prop} (hz : Z (Y_init50 M) K) : Mt y_Y_init (1, 20, 50, 56, (eI [(50, 56), (42, 48), (27, 41), (15, 26), (3, 14)])) (eI [(42, 48), (27, 41), (15, 26), (3, 14)]) [vR 50] M (qV K) := by
  refine Mt.of (by decide) (lb rfl) (lb rfl) rfl ?_
  rw [Y_init50] at hz
  show Rr y_Y_init (1, 20, 50, 56, (eI [(50, 56), (42, 48), (27, 41), (15, 26), (3, 14)])) (qV K) 0 [(0, vR 50)] [] (eI [(42, 48), (27, 41), (15, 26), (3, 14)]) 50 M
  refine R_aload_n (pc := 0) 0 (dc k_Y_init 0 rfl) rfl rfl ?_
  refine R_objInit (pc := 1) (dc k_Y_init 1 rfl) wo_Y_3 oi_words (lb rfl) (lb rfl) ?_
  refine R_aload_n (pc := 4) 0 (dc k_Y_init 2 rfl) rfl rfl ?_
  refine R_bipush (pc := 5) (a := 40) (dc k_Y_init 3 rfl) (by decide) ?_
  refine R_newa (pc := 7) (n := 50) (ty := .int) (len := 40) (dc k_Y_init 4 rfl) rfl ⟨rfl, rfl⟩ wa_int rfl (lb rfl) rfl rfl (lb rfl) (lb rfl) rfl rfl ?_
  obtain ⟨M_1, hM_1, hz⟩ := Z_lt hz
  refine R_putF (pc := 9) (ci := 5) (k := 2) (v := 51) (dc k_Y_init 5 rfl) ff_Y_9 rfl rfl (lb rfl) (lb rfl) rfl rfl rfl (by decide) (lb rfl) rfl ?_
  rw [← hM_1]
  refine R_aload_n (pc := 12) 0 (dc k_Y_init 6 rfl) rfl rfl ?_
  refine R_bipush (pc := 13) (a := 40) (dc k_Y_init 7 rfl) (by decide) ?_
  refine R_newa (pc := 15) (n := 51) (ty := .int) (len := 40) (dc k_Y_init 8 rfl) rfl ⟨rfl, rfl⟩ wa_int rfl (lb rfl) rfl rfl (lb rfl) (lb rfl) rfl rfl ?_
  obtain ⟨M_2, hM_2, hz⟩ := Z_lt hz
  refine R_putF (pc := 17) (ci := 5) (k := 3) (v := 52) (dc k_Y_init 9 rfl) ff_Y_15 rfl rfl (lb rfl) (lb rfl) rfl rfl rfl (by decide) (lb rfl) rfl ?_
  rw [← hM_2]
  refine R_aload_n (pc := 20) 0 (dc k_Y_init 10 rfl) rfl rfl ?_
  refine R_bipush (pc := 21) (a := 40) (dc k_Y_init 11 rfl) (by decide) ?_
  refine R_newa (pc := 23) (n := 52) (ty := .boolean) (len := 40) (dc k_Y_init 12 rfl) rfl ⟨rfl, rfl⟩ wa_boolean rfl (lb rfl) rfl rfl (lb rfl) (lb rfl) rfl rfl ?_
  obtain ⟨M_3, hM_3, hz⟩ := Z_lt hz
  refine R_putF (pc := 25) (ci := 5) (k := 4) (v := 53) (dc k_Y_init 13 rfl) ff_Y_18 rfl rfl (lb rfl) (lb rfl) rfl rfl rfl (by decide) (lb rfl) rfl ?_
  rw [← hM_3]
  refine R_aload_n (pc := 28) 0 (dc k_Y_init 14 rfl) rfl rfl ?_
  refine R_bipush (pc := 29) (a := 40) (dc k_Y_init 15 rfl) (by decide) ?_
  refine R_newa (pc := 31) (n := 53) (ty := .int) (len := 40) (dc k_Y_init 16 rfl) rfl ⟨rfl, rfl⟩ wa_int rfl (lb rfl) rfl rfl (lb rfl) (lb rfl) rfl rfl ?_
  obtain ⟨M_4, hM_4, hz⟩ := Z_lt hz
  refine R_putF (pc := 33) (ci := 5) (k := 5) (v := 54) (dc k_Y_init 17 rfl) ff_Y_22 rfl rfl (lb rfl) (lb rfl) rfl rfl rfl (by decide) (lb rfl) rfl ?_
  rw [← hM_4]
  refine R_aload_n (pc := 36) 0 (dc k_Y_init 18 rfl) rfl rfl ?_
  refine R_bipush (pc := 37) (a := 40) (dc k_Y_init 19 rfl) (by decide) ?_
  refine R_newa (pc := 39) (n := 54) (ty := .int) (len := 40) (dc k_Y_init 20 rfl) rfl ⟨rfl, rfl⟩ wa_int rfl (lb rfl) rfl rfl (lb rfl) (lb rfl) rfl rfl ?_
  obtain ⟨M_5, hM_5, hz⟩ := Z_lt hz
  refine R_putF (pc := 41) (ci := 5) (k := 6) (v := 55) (dc k_Y_init 21 rfl) ff_Y_25 rfl rfl (lb rfl) (lb rfl) rfl rfl rfl (by decide) (lb rfl) rfl ?_
  rw [← hM_5]
  refine R_aload_n (pc := 44) 0 (dc k_Y_init 22 rfl) rfl rfl ?_
  refine R_sipush (pc := 45) (a := 160) (dc k_Y_init 23 rfl) (by decide) ?_
  refine R_newa (pc := 48) (n := 55) (ty := .long) (len := 160) (dc k_Y_init 24 rfl) rfl ⟨rfl, rfl⟩ wa_long rfl (lb rfl) rfl rfl (lb rfl) (lb rfl) rfl rfl ?_
  obtain ⟨M_6, hM_6, hz⟩ := Z_lt hz
  refine R_putF (pc := 50) (ci := 5) (k := 7) (v := 56) (dc k_Y_init 25 rfl) ff_Y_28 rfl rfl (lb rfl) (lb rfl) rfl rfl rfl (by decide) (lb rfl) rfl ?_
  rw [← hM_6]
  refine R_est (E' := (eI [(50, 56), (42, 48), (27, 41), (15, 26), (3, 14)])) (est_of 50 50 (by decide) (by decide) (by decide) ?_ ?_) ?_
  · exact ⟨Or.inl rfl, Or.inl rfl, Or.inr (by simp [up, Int.toNat, hM_6, hM_5, hM_4, hM_3, hM_2, hM_1]), Or.inr (by simp [up, Int.toNat, hM_6, hM_5, hM_4, hM_3, hM_2, hM_1]), Or.inr (by simp [up, Int.toNat, hM_6, hM_5, hM_4, hM_3, hM_2, hM_1]), Or.inr (by simp [up, Int.toNat, hM_6, hM_5, hM_4, hM_3, hM_2, hM_1]), Or.inr (by simp [up, Int.toNat, hM_6, hM_5, hM_4, hM_3, hM_2, hM_1]), Or.inr (by simp [up, Int.toNat, hM_6, hM_5, hM_4, hM_3, hM_2, hM_1]), trivial⟩
  · exact ⟨Or.inl rfl, Or.inl rfl, Or.inr (by simp [up, Int.toNat, hM_6, hM_5, hM_4, hM_3, hM_2, hM_1]), Or.inr (by simp [up, Int.toNat, hM_6, hM_5, hM_4, hM_3, hM_2, hM_1]), Or.inr (by simp [up, Int.toNat, hM_6, hM_5, hM_4, hM_3, hM_2, hM_1]), Or.inr (by simp [up, Int.toNat, hM_6, hM_5, hM_4, hM_3, hM_2, hM_1]), Or.inr (by simp [up, Int.toNat, hM_6, hM_5, hM_4, hM_3, hM_2, hM_1]), Or.inr (by simp [up, Int.toNat, hM_6, hM_5, hM_4, hM_3, hM_2, hM_1]), trivial⟩
  exact R_vret (pc := 53) (dc k_Y_init 26 rfl) rfl rfl rfl ⟨rfl, (Z_some hz)⟩

set_option maxRecDepth 20000 in
set_option maxHeartbeats 4000000 in
theorem ct_Y_init57 {M : Mem} {K : Mem → Prop} (hz : Z (Y_init57 M) K) : Mt y_Y_init (1, 20, 57, 63, (eI [(57, 63), (50, 56), (42, 48), (27, 41), (15, 26), (3, 14)])) (eI [(50, 56), (42, 48), (27, 41), (15, 26), (3, 14)]) [vR 57] M (qV K) := by
  refine Mt.of (by decide) (lb rfl) (lb rfl) rfl ?_
  rw [Y_init57] at hz
  show Rr y_Y_init (1, 20, 57, 63, (eI [(57, 63), (50, 56), (42, 48), (27, 41), (15, 26), (3, 14)])) (qV K) 0 [(0, vR 57)] [] (eI [(50, 56), (42, 48), (27, 41), (15, 26), (3, 14)]) 57 M
  refine R_aload_n (pc := 0) 0 (dc k_Y_init 0 rfl) rfl rfl ?_
  refine R_objInit (pc := 1) (dc k_Y_init 1 rfl) wo_Y_3 oi_words (lb rfl) (lb rfl) ?_
  refine R_aload_n (pc := 4) 0 (dc k_Y_init 2 rfl) rfl rfl ?_
  refine R_bipush (pc := 5) (a := 40) (dc k_Y_init 3 rfl) (by decide) ?_
  refine R_newa (pc := 7) (n := 57) (ty := .int) (len := 40) (dc k_Y_init 4 rfl) rfl ⟨rfl, rfl⟩ wa_int rfl (lb rfl) rfl rfl (lb rfl) (lb rfl) rfl rfl ?_
  obtain ⟨M_1, hM_1, hz⟩ := Z_lt hz
  refine R_putF (pc := 9) (ci := 5) (k := 2) (v := 58) (dc k_Y_init 5 rfl) ff_Y_9 rfl rfl (lb rfl) (lb rfl) rfl rfl rfl (by decide) (lb rfl) rfl ?_
  rw [← hM_1]
  refine R_aload_n (pc := 12) 0 (dc k_Y_init 6 rfl) rfl rfl ?_
  refine R_bipush (pc := 13) (a := 40) (dc k_Y_init 7 rfl) (by decide) ?_
  refine R_newa (pc := 15) (n := 58) (ty := .int) (len := 40) (dc k_Y_init 8 rfl) rfl ⟨rfl, rfl⟩ wa_int rfl (lb rfl) rfl rfl (lb rfl) (lb rfl) rfl rfl ?_
  obtain ⟨M_2, hM_2, hz⟩ := Z_lt hz
  refine R_putF (pc := 17) (ci := 5) (k := 3) (v := 59) (dc k_Y_init 9 rfl) ff_Y_15 rfl rfl (lb rfl) (lb rfl) rfl rfl rfl (by decide) (lb rfl) rfl ?_
  rw [← hM_2]
  refine R_aload_n (pc := 20) 0 (dc k_Y_init 10 rfl) rfl rfl ?_
  refine R_bipush (pc := 21) (a := 40) (dc k_Y_init 11 rfl) (by decide) ?_
  refine R_newa (pc := 23) (n := 59) (ty := .boolean) (len := 40) (dc k_Y_init 12 rfl) rfl ⟨rfl, rfl⟩ wa_boolean rfl (lb rfl) rfl rfl (lb rfl) (lb rfl) rfl rfl ?_
  obtain ⟨M_3, hM_3, hz⟩ := Z_lt hz
  refine R_putF (pc := 25) (ci := 5) (k := 4) (v := 60) (dc k_Y_init 13 rfl) ff_Y_18 rfl rfl (lb rfl) (lb rfl) rfl rfl rfl (by decide) (lb rfl) rfl ?_
  rw [← hM_3]
  refine R_aload_n (pc := 28) 0 (dc k_Y_init 14 rfl) rfl rfl ?_
  refine R_bipush (pc := 29) (a := 40) (dc k_Y_init 15 rfl) (by decide) ?_
  refine R_newa (pc := 31) (n := 60) (ty := .int) (len := 40) (dc k_Y_init 16 rfl) rfl ⟨rfl, rfl⟩ wa_int rfl (lb rfl) rfl rfl (lb rfl) (lb rfl) rfl rfl ?_
  obtain ⟨M_4, hM_4, hz⟩ := Z_lt hz
  refine R_putF (pc := 33) (ci := 5) (k := 5) (v := 61) (dc k_Y_init 17 rfl) ff_Y_22 rfl rfl (lb rfl) (lb rfl) rfl rfl rfl (by decide) (lb rfl) rfl ?_
  rw [← hM_4]
  refine R_aload_n (pc := 36) 0 (dc k_Y_init 18 rfl) rfl rfl ?_
  refine R_bipush (pc := 37) (a := 40) (dc k_Y_init 19 rfl) (by decide) ?_
  refine R_newa (pc := 39) (n := 61) (ty := .int) (len := 40) (dc k_Y_init 20 rfl) rfl ⟨rfl, rfl⟩ wa_int rfl (lb rfl) rfl rfl (lb rfl) (lb rfl) rfl rfl ?_
  obtain ⟨M_5, hM_5, hz⟩ := Z_lt hz
  refine R_putF (pc := 41) (ci := 5) (k := 6) (v := 62) (dc k_Y_init 21 rfl) ff_Y_25 rfl rfl (lb rfl) (lb rfl) rfl rfl rfl (by decide) (lb rfl) rfl ?_
  rw [← hM_5]
  refine R_aload_n (pc := 44) 0 (dc k_Y_init 22 rfl) rfl rfl ?_
  refine R_sipush (pc := 45) (a := 160) (dc k_Y_init 23 rfl) (by decide) ?_
  refine R_newa (pc := 48) (n := 62) (ty := .long) (len := 160) (dc k_Y_init 24 rfl) rfl ⟨rfl, rfl⟩ wa_long rfl (lb rfl) rfl rfl (lb rfl) (lb rfl) rfl rfl ?_
  obtain ⟨M_6, hM_6, hz⟩ := Z_lt hz
  refine R_putF (pc := 50) (ci := 5) (k := 7) (v := 63) (dc k_Y_init 25 rfl) ff_Y_28 rfl rfl (lb rfl) (lb rfl) rfl rfl rfl (by decide) (lb rfl) rfl ?_
  rw [← hM_6]
  refine R_est (E' := (eI [(57, 63), (50, 56), (42, 48), (27, 41), (15, 26), (3, 14)])) (est_of 57 57 (by decide) (by decide) (by decide) ?_ ?_) ?_
  · exact ⟨Or.inl rfl, Or.inl rfl, Or.inr (by simp [up, Int.toNat, hM_6, hM_5, hM_4, hM_3, hM_2, hM_1]), Or.inr (by simp [up, Int.toNat, hM_6, hM_5, hM_4, hM_3, hM_2, hM_1]), Or.inr (by simp [up, Int.toNat, hM_6, hM_5, hM_4, hM_3, hM_2, hM_1]), Or.inr (by simp [up, Int.toNat, hM_6, hM_5, hM_4, hM_3, hM_2, hM_1]), Or.inr (by simp [up, Int.toNat, hM_6, hM_5, hM_4, hM_3, hM_2, hM_1]), Or.inr (by simp [up, Int.toNat, hM_6, hM_5, hM_4, hM_3, hM_2, hM_1]), trivial⟩
  · exact ⟨Or.inl rfl, Or.inl rfl, Or.inr (by simp [up, Int.toNat, hM_6, hM_5, hM_4, hM_3, hM_2, hM_1]), Or.inr (by simp [up, Int.toNat, hM_6, hM_5, hM_4, hM_3, hM_2, hM_1]), Or.inr (by simp [up, Int.toNat, hM_6, hM_5, hM_4, hM_3, hM_2, hM_1]), Or.inr (by simp [up, Int.toNat, hM_6, hM_5, hM_4, hM_3, hM_2, hM_1]), Or.inr (by simp [up, Int.toNat, hM_6, hM_5, hM_4, hM_3, hM_2, hM_1]), Or.inr (by simp [up, Int.toNat, hM_6, hM_5, hM_4, hM_3, hM_2, hM_1]), trivial⟩
  exact R_vret (pc := 53) (dc k_Y_init 26 rfl) rfl rfl rfl ⟨rfl, (Z_some hz)⟩

set_option maxRecDepth 20000 in
set_option maxHeartbeats 4000000 in
theorem ct_Y_init64 {M : Mem} {K : Mem → Prop} (hz : Z (Y_init64 M) K) : Mt y_Y_init (1, 20, 64, 70, (eI [(64, 70), (57, 63), (50, 56), (42, 48), (27, 41), (15, 26), (3, 14)])) (eI [(57, 63), (50, 56), (42, 48), (27, 41), (15, 26), (3, 14)]) [vR 64] M (qV K) := by
  refine Mt.of (by decide) (lb rfl) (lb rfl) rfl ?_
  rw [Y_init64] at hz
  show Rr y_Y_init (1, 20, 64, 70, (eI [(64, 70), (57, 63), (50, 56), (42, 48), (27, 41), (15, 26), (3, 14)])) (qV K) 0 [(0, vR 64)] [] (eI [(57, 63), (50, 56), (42, 48), (27, 41), (15, 26), (3, 14)]) 64 M
  refine R_aload_n (pc := 0) 0 (dc k_Y_init 0 rfl) rfl rfl ?_
  refine R_objInit (pc := 1) (dc k_Y_init 1 rfl) wo_Y_3 oi_words (lb rfl) (lb rfl) ?_
  refine R_aload_n (pc := 4) 0 (dc k_Y_init 2 rfl) rfl rfl ?_
  refine R_bipush (pc := 5) (a := 40) (dc k_Y_init 3 rfl) (by decide) ?_
  refine R_newa (pc := 7) (n := 64) (ty := .int) (len := 40) (dc k_Y_init 4 rfl) rfl ⟨rfl, rfl⟩ wa_int rfl (lb rfl) rfl rfl (lb rfl) (lb rfl) rfl rfl ?_
  obtain ⟨M_1, hM_1, hz⟩ := Z_lt hz
  refine R_putF (pc := 9) (ci := 5) (k := 2) (v := 65) (dc k_Y_init 5 rfl) ff_Y_9 rfl rfl (lb rfl) (lb rfl) rfl rfl rfl (by decide) (lb rfl) rfl ?_
  rw [← hM_1]
  refine R_aload_n (pc := 12) 0 (dc k_Y_init 6 rfl) rfl rfl ?_
  refine R_bipush (pc := 13) (a := 40) (dc k_Y_init 7 rfl) (by decide) ?_
  refine R_newa (pc := 15) (n := 65) (ty := .int) (len := 40) (dc k_Y_init 8 rfl) rfl ⟨rfl, rfl⟩ wa_int rfl (lb rfl) rfl rfl (lb rfl) (lb rfl) rfl rfl ?_
  obtain ⟨M_2, hM_2, hz⟩ := Z_lt hz
  refine R_putF (pc := 17) (ci := 5) (k := 3) (v := 66) (dc k_Y_init 9 rfl) ff_Y_15 rfl rfl (lb rfl) (lb rfl) rfl rfl rfl (by decide) (lb rfl) rfl ?_
  rw [← hM_2]
  refine R_aload_n (pc := 20) 0 (dc k_Y_init 10 rfl) rfl rfl ?_
  refine R_bipush (pc := 21) (a := 40) (dc k_Y_init 11 rfl) (by decide) ?_
  refine R_newa (pc := 23) (n := 66) (ty := .boolean) (len := 40) (dc k_Y_init 12 rfl) rfl ⟨rfl, rfl⟩ wa_boolean rfl (lb rfl) rfl rfl (lb rfl) (lb rfl) rfl rfl ?_
  obtain ⟨M_3, hM_3, hz⟩ := Z_lt hz
  refine R_putF (pc := 25) (ci := 5) (k := 4) (v := 67) (dc k_Y_init 13 rfl) ff_Y_18 rfl rfl (lb rfl) (lb rfl) rfl rfl rfl (by decide) (lb rfl) rfl ?_
  rw [← hM_3]
  refine R_aload_n (pc := 28) 0 (dc k_Y_init 14 rfl) rfl rfl ?_
  refine R_bipush (pc := 29) (a := 40) (dc k_Y_init 15 rfl) (by decide) ?_
  refine R_newa (pc := 31) (n := 67) (ty := .int) (len := 40) (dc k_Y_init 16 rfl) rfl ⟨rfl, rfl⟩ wa_int rfl (lb rfl) rfl rfl (lb rfl) (lb rfl) rfl rfl ?_
  obtain ⟨M_4, hM_4, hz⟩ := Z_lt hz
  refine R_putF (pc := 33) (ci := 5) (k := 5) (v := 68) (dc k_Y_init 17 rfl) ff_Y_22 rfl rfl (lb rfl) (lb rfl) rfl rfl rfl (by decide) (lb rfl) rfl ?_
  rw [← hM_4]
  refine R_aload_n (pc := 36) 0 (dc k_Y_init 18 rfl) rfl rfl ?_
  refine R_bipush (pc := 37) (a := 40) (dc k_Y_init 19 rfl) (by decide) ?_
  refine R_newa (pc := 39) (n := 68) (ty := .int) (len := 40) (dc k_Y_init 20 rfl) rfl ⟨rfl, rfl⟩ wa_int rfl (lb rfl) rfl rfl (lb rfl) (lb rfl) rfl rfl ?_
  obtain ⟨M_5, hM_5, hz⟩ := Z_lt hz
  refine R_putF (pc := 41) (ci := 5) (k := 6) (v := 69) (dc k_Y_init 21 rfl) ff_Y_25 rfl rfl (lb rfl) (lb rfl) rfl rfl rfl (by decide) (lb rfl) rfl ?_
  rw [← hM_5]
  refine R_aload_n (pc := 44) 0 (dc k_Y_init 22 rfl) rfl rfl ?_
  refine R_sipush (pc := 45) (a := 160) (dc k_Y_init 23 rfl) (by decide) ?_
  refine R_newa (pc := 48) (n := 69) (ty := .long) (len := 160) (dc k_Y_init 24 rfl) rfl ⟨rfl, rfl⟩ wa_long rfl (lb rfl) rfl rfl (lb rfl) (lb rfl) rfl rfl ?_
  obtain ⟨M_6, hM_6, hz⟩ := Z_lt hz
  refine R_putF (pc := 50) (ci := 5) (k := 7) (v := 70) (dc k_Y_init 25 rfl) ff_Y_28 rfl rfl (lb rfl) (lb rfl) rfl rfl rfl (by decide) (lb rfl) rfl ?_
  rw [← hM_6]
  refine R_est (E' := (eI [(64, 70), (57, 63), (50, 56), (42, 48), (27, 41), (15, 26), (3, 14)])) (est_of 64 64 (by decide) (by decide) (by decide) ?_ ?_) ?_
  · exact ⟨Or.inl rfl, Or.inl rfl, Or.inr (by simp [up, Int.toNat, hM_6, hM_5, hM_4, hM_3, hM_2, hM_1]), Or.inr (by simp [up, Int.toNat, hM_6, hM_5, hM_4, hM_3, hM_2, hM_1]), Or.inr (by simp [up, Int.toNat, hM_6, hM_5, hM_4, hM_3, hM_2, hM_1]), Or.inr (by simp [up, Int.toNat, hM_6, hM_5, hM_4, hM_3, hM_2, hM_1]), Or.inr (by simp [up, Int.toNat, hM_6, hM_5, hM_4, hM_3, hM_2, hM_1]), Or.inr (by simp [up, Int.toNat, hM_6, hM_5, hM_4, hM_3, hM_2, hM_1]), trivial⟩
  · exact ⟨Or.inl rfl, Or.inl rfl, Or.inr (by simp [up, Int.toNat, hM_6, hM_5, hM_4, hM_3, hM_2, hM_1]), Or.inr (by simp [up, Int.toNat, hM_6, hM_5, hM_4, hM_3, hM_2, hM_1]), Or.inr (by simp [up, Int.toNat, hM_6, hM_5, hM_4, hM_3, hM_2, hM_1]), Or.inr (by simp [up, Int.toNat, hM_6, hM_5, hM_4, hM_3, hM_2, hM_1]), Or.inr (by simp [up, Int.toNat, hM_6, hM_5, hM_4, hM_3, hM_2, hM_1]), Or.inr (by simp [up, Int.toNat, hM_6, hM_5, hM_4, hM_3, hM_2, hM_1]), trivial⟩
  exact R_vret (pc := 53) (dc k_Y_init 26 rfl) rfl rfl rfl ⟨rfl, (Z_some hz)⟩

set_option maxRecDepth 20000 in
set_option maxHeartbeats 4000000 in
theorem ct_W_init71 {M : Mem} {K : Mem → Prop} (hz : Z (W_init71 M) K) : Mt y_W_init (1, 20, 71, 73, (eI [(71, 73), (64, 70), (57, 63), (50, 56), (42, 48), (27, 41), (15, 26), (3, 14)])) (eI [(64, 70), (57, 63), (50, 56), (42, 48), (27, 41), (15, 26), (3, 14)]) [vR 71] M (qV K) := by
  refine Mt.of (by decide) (lb rfl) (lb rfl) rfl ?_
  rw [W_init71] at hz
  show Rr y_W_init (1, 20, 71, 73, (eI [(71, 73), (64, 70), (57, 63), (50, 56), (42, 48), (27, 41), (15, 26), (3, 14)])) (qV K) 0 [(0, vR 71)] [] (eI [(64, 70), (57, 63), (50, 56), (42, 48), (27, 41), (15, 26), (3, 14)]) 71 M
  refine R_aload_n (pc := 0) 0 (dc k_W_init 0 rfl) rfl rfl ?_
  refine R_objInit (pc := 1) (dc k_W_init 1 rfl) wo_W_3 oi_words (lb rfl) (lb rfl) ?_
  refine R_aload_n (pc := 4) 0 (dc k_W_init 2 rfl) rfl rfl ?_
  refine R_bipush (pc := 5) (a := 40) (dc k_W_init 3 rfl) (by decide) ?_
  refine R_newa (pc := 7) (n := 71) (ty := .int) (len := 40) (dc k_W_init 4 rfl) rfl ⟨rfl, rfl⟩ wa_int rfl (lb rfl) rfl rfl (lb rfl) (lb rfl) rfl rfl ?_
  obtain ⟨M_1, hM_1, hz⟩ := Z_lt hz
  refine R_putF (pc := 9) (ci := 6) (k := 2) (v := 72) (dc k_W_init 5 rfl) ff_W_9 rfl rfl (lb rfl) (lb rfl) rfl rfl rfl (by decide) (lb rfl) rfl ?_
  rw [← hM_1]
  refine R_aload_n (pc := 12) 0 (dc k_W_init 6 rfl) rfl rfl ?_
  refine R_iconst (pc := 13) (a := 4) (dc k_W_init 7 rfl) ?_
  refine R_newa (pc := 14) (n := 72) (ty := .long) (len := 4) (dc k_W_init 8 rfl) rfl ⟨rfl, rfl⟩ wa_long rfl (lb rfl) rfl rfl (lb rfl) (lb rfl) rfl rfl ?_
  obtain ⟨M_2, hM_2, hz⟩ := Z_lt hz
  refine R_putF (pc := 16) (ci := 6) (k := 4) (v := 73) (dc k_W_init 9 rfl) ff_W_15 rfl rfl (lb rfl) (lb rfl) rfl rfl rfl (by decide) (lb rfl) rfl ?_
  rw [← hM_2]
  refine R_est (E' := (eI [(71, 73), (64, 70), (57, 63), (50, 56), (42, 48), (27, 41), (15, 26), (3, 14)])) (est_of 71 71 (by decide) (by decide) (by decide) ?_ ?_) ?_
  · exact ⟨Or.inl rfl, Or.inl rfl, Or.inr (by simp [up, Int.toNat, hM_2, hM_1]), Or.inl rfl, Or.inr (by simp [up, Int.toNat, hM_2, hM_1]), trivial⟩
  · exact ⟨Or.inl rfl, Or.inl rfl, Or.inr (by simp [up, Int.toNat, hM_2, hM_1]), Or.inl rfl, Or.inr (by simp [up, Int.toNat, hM_2, hM_1]), trivial⟩
  exact R_vret (pc := 19) (dc k_W_init 10 rfl) rfl rfl rfl ⟨rfl, (Z_some hz)⟩

set_option maxRecDepth 20000 in
set_option maxHeartbeats 4000000 in
theorem ct_A_init74 {M : Mem} {K : Mem → Prop} (hz : Z (A_init74 M) K) : Mt y_A_init (1, 20, 74, 75, (eI [(74, 75), (71, 73), (64, 70), (57, 63), (50, 56), (42, 48), (27, 41), (15, 26), (3, 14)])) (eI [(71, 73), (64, 70), (57, 63), (50, 56), (42, 48), (27, 41), (15, 26), (3, 14)]) [vR 74] M (qV K) := by
  refine Mt.of (by decide) (lb rfl) (lb rfl) rfl ?_
  rw [A_init74] at hz
  show Rr y_A_init (1, 20, 74, 75, (eI [(74, 75), (71, 73), (64, 70), (57, 63), (50, 56), (42, 48), (27, 41), (15, 26), (3, 14)])) (qV K) 0 [(0, vR 74)] [] (eI [(71, 73), (64, 70), (57, 63), (50, 56), (42, 48), (27, 41), (15, 26), (3, 14)]) 74 M
  refine R_aload_n (pc := 0) 0 (dc k_A_init 0 rfl) rfl rfl ?_
  refine R_objInit (pc := 1) (dc k_A_init 1 rfl) wo_A_3 oi_words (lb rfl) (lb rfl) ?_
  refine R_aload_n (pc := 4) 0 (dc k_A_init 2 rfl) rfl rfl ?_
  refine R_bipush (pc := 5) (a := 16) (dc k_A_init 3 rfl) (by decide) ?_
  refine R_newa (pc := 7) (n := 74) (ty := .long) (len := 16) (dc k_A_init 4 rfl) rfl ⟨rfl, rfl⟩ wa_long rfl (lb rfl) rfl rfl (lb rfl) (lb rfl) rfl rfl ?_
  obtain ⟨M_1, hM_1, hz⟩ := Z_lt hz
  refine R_putF (pc := 9) (ci := 7) (k := 5) (v := 75) (dc k_A_init 5 rfl) ff_A_9 rfl rfl (lb rfl) (lb rfl) rfl rfl rfl (by decide) (lb rfl) rfl ?_
  rw [← hM_1]
  refine R_est (E' := (eI [(74, 75), (71, 73), (64, 70), (57, 63), (50, 56), (42, 48), (27, 41), (15, 26), (3, 14)])) (est_of 74 74 (by decide) (by decide) (by decide) ?_ ?_) ?_
  · exact ⟨Or.inl rfl, Or.inl rfl, Or.inl rfl, Or.inl rfl, Or.inl rfl, Or.inr (by simp [up, Int.toNat, hM_1]), trivial⟩
  · exact ⟨Or.inl rfl, Or.inl rfl, Or.inl rfl, Or.inl rfl, Or.inl rfl, Or.inr (by simp [up, Int.toNat, hM_1]), trivial⟩
  exact R_vret (pc := 12) (dc k_A_init 6 rfl) rfl rfl rfl ⟨rfl, (Z_some hz)⟩

set_option maxRecDepth 20000 in
set_option maxHeartbeats 4000000 in
theorem ct_P_init76 {M : Mem} {K : Mem → Prop} (hz : Z (P_init76 M) K) : Mt y_P_init (1, 20, 76, 77, (eI [(76, 77), (74, 75), (71, 73), (64, 70), (57, 63), (50, 56), (42, 48), (27, 41), (15, 26), (3, 14)])) (eI [(74, 75), (71, 73), (64, 70), (57, 63), (50, 56), (42, 48), (27, 41), (15, 26), (3, 14)]) [vR 76] M (qV K) := by
  refine Mt.of (by decide) (lb rfl) (lb rfl) rfl ?_
  rw [P_init76] at hz
  show Rr y_P_init (1, 20, 76, 77, (eI [(76, 77), (74, 75), (71, 73), (64, 70), (57, 63), (50, 56), (42, 48), (27, 41), (15, 26), (3, 14)])) (qV K) 0 [(0, vR 76)] [] (eI [(74, 75), (71, 73), (64, 70), (57, 63), (50, 56), (42, 48), (27, 41), (15, 26), (3, 14)]) 76 M
  refine R_aload_n (pc := 0) 0 (dc k_P_init 0 rfl) rfl rfl ?_
  refine R_objInit (pc := 1) (dc k_P_init 1 rfl) wo_P_3 oi_words (lb rfl) (lb rfl) ?_
  refine R_aload_n (pc := 4) 0 (dc k_P_init 2 rfl) rfl rfl ?_
  refine R_bipush (pc := 5) (a := 12) (dc k_P_init 3 rfl) (by decide) ?_
  refine R_newa (pc := 7) (n := 76) (ty := .int) (len := 12) (dc k_P_init 4 rfl) rfl ⟨rfl, rfl⟩ wa_int rfl (lb rfl) rfl rfl (lb rfl) (lb rfl) rfl rfl ?_
  obtain ⟨M_1, hM_1, hz⟩ := Z_lt hz
  refine R_putF (pc := 9) (ci := 8) (k := 1) (v := 77) (dc k_P_init 5 rfl) ff_P_9 rfl rfl (lb rfl) (lb rfl) rfl rfl rfl (by decide) (lb rfl) rfl ?_
  rw [← hM_1]
  refine R_est (E' := (eI [(76, 77), (74, 75), (71, 73), (64, 70), (57, 63), (50, 56), (42, 48), (27, 41), (15, 26), (3, 14)])) (est_of 76 76 (by decide) (by decide) (by decide) ?_ ?_) ?_
  · exact ⟨Or.inl rfl, Or.inr (by simp [up, Int.toNat, hM_1]), trivial⟩
  · exact ⟨Or.inl rfl, Or.inr (by simp [up, Int.toNat, hM_1]), trivial⟩
  exact R_vret (pc := 12) (dc k_P_init 6 rfl) rfl rfl rfl ⟨rfl, (Z_some hz)⟩

set_option maxRecDepth 20000 in
set_option maxHeartbeats 4000000 in
theorem ct_C_init78 {M : Mem} {K : Mem → Prop} (hz : Z (C_init78 M) K) : Mt y_C_init (1, 20, 78, 79, (eI [(78, 79), (76, 77), (74, 75), (71, 73), (64, 70), (57, 63), (50, 56), (42, 48), (27, 41), (15, 26), (3, 14)])) (eI [(76, 77), (74, 75), (71, 73), (64, 70), (57, 63), (50, 56), (42, 48), (27, 41), (15, 26), (3, 14)]) [vR 78] M (qV K) := by
  refine Mt.of (by decide) (lb rfl) (lb rfl) rfl ?_
  rw [C_init78] at hz
  show Rr y_C_init (1, 20, 78, 79, (eI [(78, 79), (76, 77), (74, 75), (71, 73), (64, 70), (57, 63), (50, 56), (42, 48), (27, 41), (15, 26), (3, 14)])) (qV K) 0 [(0, vR 78)] [] (eI [(76, 77), (74, 75), (71, 73), (64, 70), (57, 63), (50, 56), (42, 48), (27, 41), (15, 26), (3, 14)]) 78 M
  refine R_aload_n (pc := 0) 0 (dc k_C_init 0 rfl) rfl rfl ?_
  refine R_objInit (pc := 1) (dc k_C_init 1 rfl) wo_C_3 oi_words (lb rfl) (lb rfl) ?_
  refine R_aload_n (pc := 4) 0 (dc k_C_init 2 rfl) rfl rfl ?_
  refine R_bipush (pc := 5) (a := 64) (dc k_C_init 3 rfl) (by decide) ?_
  refine R_newa (pc := 7) (n := 78) (ty := .long) (len := 64) (dc k_C_init 4 rfl) rfl ⟨rfl, rfl⟩ wa_long rfl (lb rfl) rfl rfl (lb rfl) (lb rfl) rfl rfl ?_
  obtain ⟨M_1, hM_1, hz⟩ := Z_lt hz
  refine R_putF (pc := 9) (ci := 9) (k := 3) (v := 79) (dc k_C_init 5 rfl) ff_C_9 rfl rfl (lb rfl) (lb rfl) rfl rfl rfl (by decide) (lb rfl) rfl ?_
  rw [← hM_1]
  refine R_est (E' := (eI [(78, 79), (76, 77), (74, 75), (71, 73), (64, 70), (57, 63), (50, 56), (42, 48), (27, 41), (15, 26), (3, 14)])) (est_of 78 78 (by decide) (by decide) (by decide) ?_ ?_) ?_
  · exact ⟨Or.inl rfl, Or.inl rfl, Or.inl rfl, Or.inr (by simp [up, Int.toNat, hM_1]), trivial⟩
  · exact ⟨Or.inl rfl, Or.inl rfl, Or.inl rfl, Or.inr (by simp [up, Int.toNat, hM_1]), trivial⟩
  exact R_vret (pc := 12) (dc k_C_init 6 rfl) rfl rfl rfl ⟨rfl, (Z_some hz)⟩

set_option maxRecDepth 20000 in
set_option maxHeartbeats 4000000 in
theorem ct_X_init1 {M : Mem} {K : Mem → Prop} (hz : Z (X_init1 M) K) : Mt y_X_init (60, 1350, 1, 80, (eI [(1, 80)])) (eI []) [vR 1] M (qV K) := by
  refine Mt.of (by decide) (lb rfl) (lb rfl) rfl ?_
  rw [X_init1] at hz
  show Rr y_X_init (60, 1350, 1, 80, (eI [(1, 80)])) (qV K) 0 [(0, vR 1)] [] (eI []) 1 M
  refine R_aload_n (pc := 0) 0 (dc k_X_init 0 rfl) rfl rfl ?_
  refine R_objInit (pc := 1) (dc k_X_init 1 rfl) wo_X_3 oi_words (lb rfl) (lb rfl) ?_
  refine R_aload_n (pc := 4) 0 (dc k_X_init 2 rfl) rfl rfl ?_
  refine R_sipush (pc := 5) (a := 1600) (dc k_X_init 3 rfl) (by decide) ?_
  refine R_newa (pc := 8) (n := 1) (ty := .byte) (len := 1600) (dc k_X_init 4 rfl) rfl ⟨rfl, rfl⟩ wa_byte rfl (lb rfl) rfl rfl (lb rfl) (lb rfl) rfl rfl ?_
  obtain ⟨M_1, hM_1, hz⟩ := Z_lt hz
  refine R_putF (pc := 10) (ci := 0) (k := 0) (v := 2) (dc k_X_init 5 rfl) ff_X_9 rfl rfl (lb rfl) (lb rfl) rfl rfl rfl (by decide) (lb rfl) rfl ?_
  rw [← hM_1]
  refine R_aload_n (pc := 13) 0 (dc k_X_init 6 rfl) rfl rfl ?_
  refine R_new (pc := 14) (n := 2) (ci := 1) (dc k_X_init 7 rfl) rfl wk_X_13 wn_T wz_T rfl rfl (lb rfl) (lb rfl) rfl rfl ?_
  refine R_dup (pc := 17) (dc k_X_init 8 rfl) rfl ?_
  refine R_callA (pc := 18) (n := 3) (n' := 14) (E' := (eI [(3, 14)])) (As := []) (S := [vR 3, vR 1]) ck_X_15 (dc k_X_init 9 rfl) (lb rfl) (lb rfl) (lb rfl) (lb rfl) (lb rfl) rfl rfl (ct_T_init3 (Z_and (fr_T_init3 (M := M_1)) (Z_bind hz))) rfl (fun M_2 hz => ?_)
  obtain ⟨hfM_2, hz⟩ := hz
  obtain ⟨M_3, hM_3, hz⟩ := Z_lt hz
  refine R_putRE (pc := 21) (ci := 0) (k := 2) (dc k_X_init 10 rfl) fl_X_16 rfl (lb rfl) (lb rfl) rfl rfl (by decide) (lb rfl) rfl hM_3 ?_
  refine R_aload_n (pc := 24) 0 (dc k_X_init 11 rfl) rfl rfl ?_
  refine R_new (pc := 25) (n := 14) (ci := 1) (dc k_X_init 12 rfl) rfl wk_X_13 wn_T wz_T rfl rfl (lb rfl) (lb rfl) rfl rfl ?_
  refine R_dup (pc := 28) (dc k_X_init 13 rfl) rfl ?_
  refine R_callA (pc := 29) (n := 15) (n' := 26) (E' := (eI [(15, 26), (3, 14)])) (As := []) (S := [vR 15, vR 1]) ck_X_15 (dc k_X_init 14 rfl) (lb rfl) (lb rfl) (lb rfl) (lb rfl) (lb rfl) rfl rfl (ct_T_init15 (Z_and (fr_T_init15 (M := M_3)) (Z_bind hz))) rfl (fun M_4 hz => ?_)
  obtain ⟨hfM_4, hz⟩ := hz
  obtain ⟨M_5, hM_5, hz⟩ := Z_lt hz
  refine R_putRE (pc := 32) (ci := 0) (k := 3) (dc k_X_init 15 rfl) fl_X_20 rfl (lb rfl) (lb rfl) rfl rfl (by decide) (lb rfl) rfl hM_5 ?_
  refine R_aload_n (pc := 35) 0 (dc k_X_init 16 rfl) rfl rfl ?_
  refine R_new (pc := 36) (n := 26) (ci := 3) (dc k_X_init 17 rfl) rfl wk_X_23 wn_N wz_N rfl rfl (lb rfl) (lb rfl) rfl rfl ?_
  refine R_dup (pc := 39) (dc k_X_init 18 rfl) rfl ?_
  refine R_aload_n (pc := 40) 0 (dc k_X_init 19 rfl) rfl rfl ?_
  refine R_getR (pc := 41) (ci := 0) (k := 0) 2 (dc k_X_init 20 rfl) fl_X_9 rfl (lb rfl) (lb rfl) (Or.inl rfl) (by simp [up, Int.toNat, hM_5, hfM_4, hM_3, hfM_2, hM_1]) (by decide) rfl ?_
  refine R_callA (pc := 44) (n := 27) (n' := 41) (E' := (eI [(27, 41), (15, 26), (3, 14)])) (As := [vR 2]) (S := [vR 27, vR 1]) ck_X_25 (dc k_X_init 21 rfl) (lb rfl) (lb rfl) (lb rfl) (lb rfl) (lb rfl) rfl rfl (ct_N_init27 (Z_and (fr_N_init27 (M := M_5)) (Z_bind hz))) rfl (fun M_6 hz => ?_)
  obtain ⟨hfM_6, hz⟩ := hz
  obtain ⟨M_7, hM_7, hz⟩ := Z_lt hz
  refine R_putF (pc := 47) (ci := 0) (k := 4) (v := 27) (dc k_X_init 22 rfl) ff_X_28 rfl rfl (lb rfl) (lb rfl) rfl rfl rfl (by decide) (lb rfl) rfl ?_
  rw [← hM_7]
  refine R_aload_n (pc := 50) 0 (dc k_X_init 23 rfl) rfl rfl ?_
  refine R_new (pc := 51) (n := 41) (ci := 5) (dc k_X_init 24 rfl) rfl wk_X_32 wn_Y wz_Y rfl rfl (lb rfl) (lb rfl) rfl rfl ?_
  refine R_dup (pc := 54) (dc k_X_init 25 rfl) rfl ?_
  refine R_callA (pc := 55) (n := 42) (n' := 48) (E' := (eI [(42, 48), (27, 41), (15, 26), (3, 14)])) (As := []) (S := [vR 42, vR 1]) ck_X_34 (dc k_X_init 26 rfl) (lb rfl) (lb rfl) (lb rfl) (lb rfl) (lb rfl) rfl rfl (ct_Y_init42 (Z_and (fr_Y_init42 (M := M_7)) (Z_bind hz))) rfl (fun M_8 hz => ?_)
  obtain ⟨hfM_8, hz⟩ := hz
  obtain ⟨M_9, hM_9, hz⟩ := Z_lt hz
  refine R_putF (pc := 58) (ci := 0) (k := 5) (v := 42) (dc k_X_init 27 rfl) ff_X_35 rfl rfl (lb rfl) (lb rfl) rfl rfl rfl (by decide) (lb rfl) rfl ?_
  rw [← hM_9]
  refine R_aload_n (pc := 61) 0 (dc k_X_init 28 rfl) rfl rfl ?_
  refine R_iconst (pc := 62) (a := 3) (dc k_X_init 29 rfl) ?_
  refine R_newq (pc := 63) (n := 48) (len := 3) (dc k_X_init 30 rfl) wk_X_32 rfl (lb rfl) rfl rfl (lb rfl) (lb rfl) rfl rfl ?_
  refine R_dup (pc := 66) (dc k_X_init 31 rfl) rfl ?_
  refine R_iconst (pc := 67) (a := 0) (dc k_X_init 32 rfl) ?_
  refine R_new (pc := 68) (n := 49) (ci := 5) (dc k_X_init 33 rfl) rfl wk_X_32 wn_Y wz_Y rfl rfl (lb rfl) (lb rfl) rfl rfl ?_
  refine R_dup (pc := 71) (dc k_X_init 34 rfl) rfl ?_
  refine R_callA (pc := 72) (n := 50) (n' := 56) (E' := (eI [(50, 56), (42, 48), (27, 41), (15, 26), (3, 14)])) (As := []) (S := [vR 50, vI 0, vR 49, vR 49, vR 1]) ck_X_34 (dc k_X_init 35 rfl) (lb rfl) (lb rfl) (lb rfl) (lb rfl) (lb rfl) rfl rfl (ct_Y_init50 (Z_and (fr_Y_init50 (M := M_9)) (Z_bind hz))) rfl (fun M_10 hz => ?_)
  obtain ⟨hfM_10, hz⟩ := hz
  obtain ⟨M_11, hM_11, hz⟩ := Z_lt hz
  refine R_aast (pc := 75) (C := "") (v := 50) (ci := 5) (dc k_X_init 36 rfl) rfl (lb rfl) (lb rfl) rfl rfl (lb rfl) (lb rfl) (by decide) (by decide) rfl ?_
  rw [← hM_11]
  refine R_dup (pc := 76) (dc k_X_init 37 rfl) rfl ?_
  refine R_iconst (pc := 77) (a := 1) (dc k_X_init 38 rfl) ?_
  refine R_new (pc := 78) (n := 56) (ci := 5) (dc k_X_init 39 rfl) rfl wk_X_32 wn_Y wz_Y rfl rfl (lb rfl) (lb rfl) rfl rfl ?_
  refine R_dup (pc := 81) (dc k_X_init 40 rfl) rfl ?_
  refine R_callA (pc := 82) (n := 57) (n' := 63) (E' := (eI [(57, 63), (50, 56), (42, 48), (27, 41), (15, 26), (3, 14)])) (As := []) (S := [vR 57, vI 1, vR 49, vR 49, vR 1]) ck_X_34 (dc k_X_init 41 rfl) (lb rfl) (lb rfl) (lb rfl) (lb rfl) (lb rfl) rfl rfl (ct_Y_init57 (Z_and (fr_Y_init57 (M := M_11)) (Z_bind hz))) rfl (fun M_12 hz => ?_)
  obtain ⟨hfM_12, hz⟩ := hz
  obtain ⟨M_13, hM_13, hz⟩ := Z_lt hz
  refine R_aast (pc := 85) (C := "") (v := 57) (ci := 5) (dc k_X_init 42 rfl) rfl (lb rfl) (lb rfl) rfl rfl (lb rfl) (lb rfl) (by decide) (by decide) rfl ?_
  rw [← hM_13]
  refine R_dup (pc := 86) (dc k_X_init 43 rfl) rfl ?_
  refine R_iconst (pc := 87) (a := 2) (dc k_X_init 44 rfl) ?_
  refine R_new (pc := 88) (n := 63) (ci := 5) (dc k_X_init 45 rfl) rfl wk_X_32 wn_Y wz_Y rfl rfl (lb rfl) (lb rfl) rfl rfl ?_
  refine R_dup (pc := 91) (dc k_X_init 46 rfl) rfl ?_
  refine R_callA (pc := 92) (n := 64) (n' := 70) (E' := (eI [(64, 70), (57, 63), (50, 56), (42, 48), (27, 41), (15, 26), (3, 14)])) (As := []) (S := [vR 64, vI 2, vR 49, vR 49, vR 1]) ck_X_34 (dc k_X_init 47 rfl) (lb rfl) (lb rfl) (lb rfl) (lb rfl) (lb rfl) rfl rfl (ct_Y_init64 (Z_and (fr_Y_init64 (M := M_13)) (Z_bind hz))) rfl (fun M_14 hz => ?_)
  obtain ⟨hfM_14, hz⟩ := hz
  obtain ⟨M_15, hM_15, hz⟩ := Z_lt hz
  refine R_aast (pc := 95) (C := "") (v := 64) (ci := 5) (dc k_X_init 48 rfl) rfl (lb rfl) (lb rfl) rfl rfl (lb rfl) (lb rfl) (by decide) (by decide) rfl ?_
  rw [← hM_15]
  obtain ⟨M_16, hM_16, hz⟩ := Z_lt hz
  refine R_putF (pc := 96) (ci := 0) (k := 6) (v := 49) (dc k_X_init 49 rfl) ff_X_39 rfl rfl (lb rfl) (lb rfl) rfl rfl rfl (by decide) (lb rfl) rfl ?_
  rw [← hM_16]
  refine R_aload_n (pc := 99) 0 (dc k_X_init 50 rfl) rfl rfl ?_
  refine R_new (pc := 100) (n := 70) (ci := 6) (dc k_X_init 51 rfl) rfl wk_X_43 wn_W wz_W rfl rfl (lb rfl) (lb rfl) rfl rfl ?_
  refine R_dup (pc := 103) (dc k_X_init 52 rfl) rfl ?_
  refine R_callA (pc := 104) (n := 71) (n' := 73) (E' := (eI [(71, 73), (64, 70), (57, 63), (50, 56), (42, 48), (27, 41), (15, 26), (3, 14)])) (As := []) (S := [vR 71, vR 1]) ck_X_45 (dc k_X_init 53 rfl) (lb rfl) (lb rfl) (lb rfl) (lb rfl) (lb rfl) rfl rfl (ct_W_init71 (Z_and (fr_W_init71 (M := M_16)) (Z_bind hz))) rfl (fun M_17 hz => ?_)
  obtain ⟨hfM_17, hz⟩ := hz
  obtain ⟨M_18, hM_18, hz⟩ := Z_lt hz
  refine R_putF (pc := 107) (ci := 0) (k := 7) (v := 71) (dc k_X_init 54 rfl) ff_X_46 rfl rfl (lb rfl) (lb rfl) rfl rfl rfl (by decide) (lb rfl) rfl ?_
  rw [← hM_18]
  refine R_aload_n (pc := 110) 0 (dc k_X_init 55 rfl) rfl rfl ?_
  refine R_new (pc := 111) (n := 73) (ci := 7) (dc k_X_init 56 rfl) rfl wk_X_50 wn_A wz_A rfl rfl (lb rfl) (lb rfl) rfl rfl ?_
  refine R_dup (pc := 114) (dc k_X_init 57 rfl) rfl ?_
  refine R_callA (pc := 115) (n := 74) (n' := 75) (E' := (eI [(74, 75), (71, 73), (64, 70), (57, 63), (50, 56), (42, 48), (27, 41), (15, 26), (3, 14)])) (As := []) (S := [vR 74, vR 1]) ck_X_52 (dc k_X_init 58 rfl) (lb rfl) (lb rfl) (lb rfl) (lb rfl) (lb rfl) rfl rfl (ct_A_init74 (Z_and (fr_A_init74 (M := M_18)) (Z_bind hz))) rfl (fun M_19 hz => ?_)
  obtain ⟨hfM_19, hz⟩ := hz
  obtain ⟨M_20, hM_20, hz⟩ := Z_lt hz
  refine R_putF (pc := 118) (ci := 0) (k := 8) (v := 74) (dc k_X_init 59 rfl) ff_X_53 rfl rfl (lb rfl) (lb rfl) rfl rfl rfl (by decide) (lb rfl) rfl ?_
  rw [← hM_20]
  refine R_aload_n (pc := 121) 0 (dc k_X_init 60 rfl) rfl rfl ?_
  refine R_new (pc := 122) (n := 75) (ci := 8) (dc k_X_init 61 rfl) rfl wk_X_57 wn_P wz_P rfl rfl (lb rfl) (lb rfl) rfl rfl ?_
  refine R_dup (pc := 125) (dc k_X_init 62 rfl) rfl ?_
  refine R_callA (pc := 126) (n := 76) (n' := 77) (E' := (eI [(76, 77), (74, 75), (71, 73), (64, 70), (57, 63), (50, 56), (42, 48), (27, 41), (15, 26), (3, 14)])) (As := []) (S := [vR 76, vR 1]) ck_X_59 (dc k_X_init 63 rfl) (lb rfl) (lb rfl) (lb rfl) (lb rfl) (lb rfl) rfl rfl (ct_P_init76 (Z_and (fr_P_init76 (M := M_20)) (Z_bind hz))) rfl (fun M_21 hz => ?_)
  obtain ⟨hfM_21, hz⟩ := hz
  obtain ⟨M_22, hM_22, hz⟩ := Z_lt hz
  refine R_putF (pc := 129) (ci := 0) (k := 9) (v := 76) (dc k_X_init 64 rfl) ff_X_60 rfl rfl (lb rfl) (lb rfl) rfl rfl rfl (by decide) (lb rfl) rfl ?_
  rw [← hM_22]
  refine R_aload_n (pc := 132) 0 (dc k_X_init 65 rfl) rfl rfl ?_
  refine R_new (pc := 133) (n := 77) (ci := 9) (dc k_X_init 66 rfl) rfl wk_X_64 wn_C wz_C rfl rfl (lb rfl) (lb rfl) rfl rfl ?_
  refine R_dup (pc := 136) (dc k_X_init 67 rfl) rfl ?_
  refine R_callA (pc := 137) (n := 78) (n' := 79) (E' := (eI [(78, 79), (76, 77), (74, 75), (71, 73), (64, 70), (57, 63), (50, 56), (42, 48), (27, 41), (15, 26), (3, 14)])) (As := []) (S := [vR 78, vR 1]) ck_X_66 (dc k_X_init 68 rfl) (lb rfl) (lb rfl) (lb rfl) (lb rfl) (lb rfl) rfl rfl (ct_C_init78 (Z_and (fr_C_init78 (M := M_22)) (Z_bind hz))) rfl (fun M_23 hz => ?_)
  obtain ⟨hfM_23, hz⟩ := hz
  obtain ⟨M_24, hM_24, hz⟩ := Z_lt hz
  refine R_putF (pc := 140) (ci := 0) (k := 10) (v := 78) (dc k_X_init 69 rfl) ff_X_67 rfl rfl (lb rfl) (lb rfl) rfl rfl rfl (by decide) (lb rfl) rfl ?_
  rw [← hM_24]
  refine R_aload_n (pc := 143) 0 (dc k_X_init 70 rfl) rfl rfl ?_
  refine R_iconst (pc := 144) (a := 4) (dc k_X_init 71 rfl) ?_
  refine R_newa (pc := 145) (n := 79) (ty := .long) (len := 4) (dc k_X_init 72 rfl) rfl ⟨rfl, rfl⟩ wa_long rfl (lb rfl) rfl rfl (lb rfl) (lb rfl) rfl rfl ?_
  obtain ⟨M_25, hM_25, hz⟩ := Z_lt hz
  refine R_putF (pc := 147) (ci := 0) (k := 11) (v := 80) (dc k_X_init 73 rfl) ff_X_71 rfl rfl (lb rfl) (lb rfl) rfl rfl rfl (by decide) (lb rfl) rfl ?_
  rw [← hM_25]
  refine R_est (E' := (eI [(1, 80)])) (est_of 1 49 (by decide) (by decide) (by decide) ?_ ?_) ?_
  · exact ⟨Or.inr (by simp [up, Int.toNat, hM_25, hM_24, hfM_23, hM_22, hfM_21, hM_20, hfM_19, hM_18, hfM_17, hM_16, hM_15, hfM_14, hM_13, hfM_12, hM_11, hfM_10, hM_9, hfM_8, hM_7, hfM_6, hM_5, hfM_4, hM_3, hfM_2, hM_1]), Or.inl rfl, Or.inl rfl, Or.inl rfl, Or.inr (by simp [up, Int.toNat, hM_25, hM_24, hfM_23, hM_22, hfM_21, hM_20, hfM_19, hM_18, hfM_17, hM_16, hM_15, hfM_14, hM_13, hfM_12, hM_11, hfM_10, hM_9, hfM_8, hM_7, hfM_6, hM_5, hfM_4, hM_3, hfM_2, hM_1]), Or.inr (by simp [up, Int.toNat, hM_25, hM_24, hfM_23, hM_22, hfM_21, hM_20, hfM_19, hM_18, hfM_17, hM_16, hM_15, hfM_14, hM_13, hfM_12, hM_11, hfM_10, hM_9, hfM_8, hM_7, hfM_6, hM_5, hfM_4, hM_3, hfM_2, hM_1]), Or.inr (by simp [up, Int.toNat, hM_25, hM_24, hfM_23, hM_22, hfM_21, hM_20, hfM_19, hM_18, hfM_17, hM_16, hM_15, hfM_14, hM_13, hfM_12, hM_11, hfM_10, hM_9, hfM_8, hM_7, hfM_6, hM_5, hfM_4, hM_3, hfM_2, hM_1]), Or.inr (by simp [up, Int.toNat, hM_25, hM_24, hfM_23, hM_22, hfM_21, hM_20, hfM_19, hM_18, hfM_17, hM_16, hM_15, hfM_14, hM_13, hfM_12, hM_11, hfM_10, hM_9, hfM_8, hM_7, hfM_6, hM_5, hfM_4, hM_3, hfM_2, hM_1]), Or.inr (by simp [up, Int.toNat, hM_25, hM_24, hfM_23, hM_22, hfM_21, hM_20, hfM_19, hM_18, hfM_17, hM_16, hM_15, hfM_14, hM_13, hfM_12, hM_11, hfM_10, hM_9, hfM_8, hM_7, hfM_6, hM_5, hfM_4, hM_3, hfM_2, hM_1]), Or.inr (by simp [up, Int.toNat, hM_25, hM_24, hfM_23, hM_22, hfM_21, hM_20, hfM_19, hM_18, hfM_17, hM_16, hM_15, hfM_14, hM_13, hfM_12, hM_11, hfM_10, hM_9, hfM_8, hM_7, hfM_6, hM_5, hfM_4, hM_3, hfM_2, hM_1]), Or.inr (by simp [up, Int.toNat, hM_25, hM_24, hfM_23, hM_22, hfM_21, hM_20, hfM_19, hM_18, hfM_17, hM_16, hM_15, hfM_14, hM_13, hfM_12, hM_11, hfM_10, hM_9, hfM_8, hM_7, hfM_6, hM_5, hfM_4, hM_3, hfM_2, hM_1]), Or.inr (by simp [up, Int.toNat, hM_25, hM_24, hfM_23, hM_22, hfM_21, hM_20, hfM_19, hM_18, hfM_17, hM_16, hM_15, hfM_14, hM_13, hfM_12, hM_11, hfM_10, hM_9, hfM_8, hM_7, hfM_6, hM_5, hfM_4, hM_3, hfM_2, hM_1]), trivial⟩
  · exact ⟨Or.inr (by simp [up, Int.toNat, hM_25, hM_24, hfM_23, hM_22, hfM_21, hM_20, hfM_19, hM_18, hfM_17, hM_16, hM_15, hfM_14, hM_13, hfM_12, hM_11, hfM_10, hM_9, hfM_8, hM_7, hfM_6, hM_5, hfM_4, hM_3, hfM_2, hM_1]), Or.inr (by simp [up, Int.toNat, hM_25, hM_24, hfM_23, hM_22, hfM_21, hM_20, hfM_19, hM_18, hfM_17, hM_16, hM_15, hfM_14, hM_13, hfM_12, hM_11, hfM_10, hM_9, hfM_8, hM_7, hfM_6, hM_5, hfM_4, hM_3, hfM_2, hM_1]), Or.inr (by simp [up, Int.toNat, hM_25, hM_24, hfM_23, hM_22, hfM_21, hM_20, hfM_19, hM_18, hfM_17, hM_16, hM_15, hfM_14, hM_13, hfM_12, hM_11, hfM_10, hM_9, hfM_8, hM_7, hfM_6, hM_5, hfM_4, hM_3, hfM_2, hM_1]), trivial⟩
  have hn : 80 ≤ 80 := lb rfl
  have hE := hE_c_1_80
  refine R_aload_n (pc := 150) 0 (dc k_X_init 74 rfl) rfl rfl ?_
  refine R_getS (pc := 151) (ci := 0) (k := 4) 27 (dc k_X_init 75 rfl) fl_X_28 rfl (lb rfl) (lb rfl) rfl rfl (by decide) rfl ?_
  refine R_aload_n (pc := 154) 0 (dc k_X_init 76 rfl) rfl rfl ?_
  obtain ⟨hg_26, hz⟩ := Z_chk hz
  obtain ⟨t_27, ht_27, hz⟩ := Z_lt hz
  obtain ⟨hq_28, ht_27t⟩ := isTI.at' hg_26 ht_27
  have hnt_27t := qTn ht_27t hn
  have hEt_27t := qTE ht_27t hE
  refine R_getR (pc := 155) (ci := 0) (k := 2) t_27 (dc k_X_init 77 rfl) fl_X_16 rfl (lb rfl) (lb rfl) (Or.inr rfl) hq_28 (qT0 ht_27t) rfl ?_
  refine R_iconst (pc := 158) (a := 0) (dc k_X_init 78 rfl) ?_
  refine R_cVV (pc := 159)  (As := [vR t_27, vI 0]) (S := []) ck_X_75 (dc k_X_init 79 rfl) ⟨rfl, ⟨_, rfl, rfl⟩, (lb rfl), (lb rfl)⟩ (lb rfl) (lb rfl) (lb rfl) rfl (ct_N_readInto hE_c_1_80 (lb rfl) ht_27t (Z_bind hz)) (fun M_29 hz => ?_)
  refine R_aload_n (pc := 162) 0 (dc k_X_init 80 rfl) rfl rfl ?_
  refine R_getS (pc := 163) (ci := 0) (k := 4) 27 (dc k_X_init 81 rfl) fl_X_28 rfl (lb rfl) (lb rfl) rfl rfl (by decide) rfl ?_
  refine R_cVV (pc := 166)  (As := []) (S := []) ck_X_79 (dc k_X_init 82 rfl) ⟨rfl, ⟨_, rfl, rfl⟩, (lb rfl), (lb rfl)⟩ (lb rfl) (lb rfl) (lb rfl) rfl (ct_N_settle hE_c_1_80 (lb rfl) (Z_bind hz)) (fun M_30 hz => ?_)
  exact R_vret (pc := 169) (dc k_X_init 83 rfl) rfl rfl rfl ⟨rfl, (Z_some hz)⟩

set_option maxRecDepth 20000 in
set_option maxHeartbeats 4000000 in
theorem ct_M_init81 {M : Mem} {K : Mem → Prop} (hz : Z (M_init81 M) K) : Mt y_M_init (6, 139, 81, 138, (eI [(81, 138), (1, 80)])) (eI [(1, 80)]) [vR 81] M (qV K) := by
  refine Mt.of (by decide) (lb rfl) (lb rfl) rfl ?_
  rw [M_init81] at hz
  show Rr y_M_init (6, 139, 81, 138, (eI [(81, 138), (1, 80)])) (qV K) 0 [(0, vR 81)] [] (eI [(1, 80)]) 81 M
  refine R_aload_n (pc := 0) 0 (dc k_M_init 0 rfl) rfl rfl ?_
  refine R_objInit (pc := 1) (dc k_M_init 1 rfl) wo_M_1 oi_words (lb rfl) (lb rfl) ?_
  refine R_aload_n (pc := 4) 0 (dc k_M_init 2 rfl) rfl rfl ?_
  refine R_sipush (pc := 5) (a := 1620) (dc k_M_init 3 rfl) (by decide) ?_
  refine R_newa (pc := 8) (n := 81) (ty := .byte) (len := 1620) (dc k_M_init 4 rfl) rfl ⟨rfl, rfl⟩ wa_byte rfl (lb rfl) rfl rfl (lb rfl) (lb rfl) rfl rfl ?_
  obtain ⟨M_1, hM_1, hz⟩ := Z_lt hz
  refine R_putF (pc := 10) (ci := 10) (k := 0) (v := 82) (dc k_M_init 5 rfl) ff_M_7 rfl rfl (lb rfl) (lb rfl) rfl rfl rfl (by decide) (lb rfl) rfl ?_
  rw [← hM_1]
  refine R_aload_n (pc := 13) 0 (dc k_M_init 6 rfl) rfl rfl ?_
  refine R_sipush (pc := 14) (a := 1600) (dc k_M_init 7 rfl) (by decide) ?_
  refine R_newa (pc := 17) (n := 82) (ty := .byte) (len := 1600) (dc k_M_init 8 rfl) rfl ⟨rfl, rfl⟩ wa_byte rfl (lb rfl) rfl rfl (lb rfl) (lb rfl) rfl rfl ?_
  obtain ⟨M_2, hM_2, hz⟩ := Z_lt hz
  refine R_putF (pc := 19) (ci := 10) (k := 1) (v := 83) (dc k_M_init 9 rfl) ff_M_13 rfl rfl (lb rfl) (lb rfl) rfl rfl rfl (by decide) (lb rfl) rfl ?_
  rw [← hM_2]
  refine R_aload_n (pc := 22) 0 (dc k_M_init 10 rfl) rfl rfl ?_
  refine R_iconst (pc := 23) (a := (-1)) (dc k_M_init 11 rfl) ?_
  obtain ⟨M_3, hM_3, hz⟩ := Z_lt hz
  refine R_putIE (pc := 24) (ci := 10) (k := 5) (dc k_M_init 12 rfl) fl_M_16 rfl (lb rfl) (lb rfl) rfl rfl rfl hM_3 ?_
  refine R_aload_n (pc := 27) 0 (dc k_M_init 13 rfl) rfl rfl ?_
  refine R_iconst (pc := 28) (a := 2) (dc k_M_init 14 rfl) ?_
  refine R_newa (pc := 29) (n := 83) (ty := .int) (len := 2) (dc k_M_init 15 rfl) rfl ⟨rfl, rfl⟩ wa_int rfl (lb rfl) rfl rfl (lb rfl) (lb rfl) rfl rfl ?_
  obtain ⟨M_4, hM_4, hz⟩ := Z_lt hz
  refine R_putF (pc := 31) (ci := 10) (k := 11) (v := 84) (dc k_M_init 16 rfl) ff_M_20 rfl rfl (lb rfl) (lb rfl) rfl rfl rfl (by decide) (lb rfl) rfl ?_
  rw [← hM_4]
  refine R_aload_n (pc := 34) 0 (dc k_M_init 17 rfl) rfl rfl ?_
  refine R_iconst (pc := 35) (a := 2) (dc k_M_init 18 rfl) ?_
  refine R_newa (pc := 36) (n := 84) (ty := .int) (len := 2) (dc k_M_init 19 rfl) rfl ⟨rfl, rfl⟩ wa_int rfl (lb rfl) rfl rfl (lb rfl) (lb rfl) rfl rfl ?_
  obtain ⟨M_5, hM_5, hz⟩ := Z_lt hz
  refine R_putF (pc := 38) (ci := 10) (k := 12) (v := 85) (dc k_M_init 20 rfl) ff_M_24 rfl rfl (lb rfl) (lb rfl) rfl rfl rfl (by decide) (lb rfl) rfl ?_
  rw [← hM_5]
  refine R_aload_n (pc := 41) 0 (dc k_M_init 21 rfl) rfl rfl ?_
  refine R_iconst (pc := 42) (a := 2) (dc k_M_init 22 rfl) ?_
  refine R_newa (pc := 43) (n := 85) (ty := .int) (len := 2) (dc k_M_init 23 rfl) rfl ⟨rfl, rfl⟩ wa_int rfl (lb rfl) rfl rfl (lb rfl) (lb rfl) rfl rfl ?_
  obtain ⟨M_6, hM_6, hz⟩ := Z_lt hz
  refine R_putF (pc := 45) (ci := 10) (k := 13) (v := 86) (dc k_M_init 24 rfl) ff_M_27 rfl rfl (lb rfl) (lb rfl) rfl rfl rfl (by decide) (lb rfl) rfl ?_
  rw [← hM_6]
  refine R_aload_n (pc := 48) 0 (dc k_M_init 25 rfl) rfl rfl ?_
  refine R_iconst (pc := 49) (a := 2) (dc k_M_init 26 rfl) ?_
  refine R_newa (pc := 50) (n := 86) (ty := .int) (len := 2) (dc k_M_init 27 rfl) rfl ⟨rfl, rfl⟩ wa_int rfl (lb rfl) rfl rfl (lb rfl) (lb rfl) rfl rfl ?_
  obtain ⟨M_7, hM_7, hz⟩ := Z_lt hz
  refine R_putF (pc := 52) (ci := 10) (k := 14) (v := 87) (dc k_M_init 28 rfl) ff_M_30 rfl rfl (lb rfl) (lb rfl) rfl rfl rfl (by decide) (lb rfl) rfl ?_
  rw [← hM_7]
  refine R_aload_n (pc := 55) 0 (dc k_M_init 29 rfl) rfl rfl ?_
  refine R_iconst (pc := 56) (a := 2) (dc k_M_init 30 rfl) ?_
  refine R_newa (pc := 57) (n := 87) (ty := .int) (len := 2) (dc k_M_init 31 rfl) rfl ⟨rfl, rfl⟩ wa_int rfl (lb rfl) rfl rfl (lb rfl) (lb rfl) rfl rfl ?_
  obtain ⟨M_8, hM_8, hz⟩ := Z_lt hz
  refine R_putF (pc := 59) (ci := 10) (k := 15) (v := 88) (dc k_M_init 32 rfl) ff_M_33 rfl rfl (lb rfl) (lb rfl) rfl rfl rfl (by decide) (lb rfl) rfl ?_
  rw [← hM_8]
  refine R_aload_n (pc := 62) 0 (dc k_M_init 33 rfl) rfl rfl ?_
  refine R_iconst (pc := 63) (a := 2) (dc k_M_init 34 rfl) ?_
  refine R_newa (pc := 64) (n := 88) (ty := .int) (len := 2) (dc k_M_init 35 rfl) rfl ⟨rfl, rfl⟩ wa_int rfl (lb rfl) rfl rfl (lb rfl) (lb rfl) rfl rfl ?_
  obtain ⟨M_9, hM_9, hz⟩ := Z_lt hz
  refine R_putF (pc := 66) (ci := 10) (k := 16) (v := 89) (dc k_M_init 36 rfl) ff_M_36 rfl rfl (lb rfl) (lb rfl) rfl rfl rfl (by decide) (lb rfl) rfl ?_
  rw [← hM_9]
  refine R_aload_n (pc := 69) 0 (dc k_M_init 37 rfl) rfl rfl ?_
  refine R_iconst (pc := 70) (a := 2) (dc k_M_init 38 rfl) ?_
  refine R_newa (pc := 71) (n := 89) (ty := .int) (len := 2) (dc k_M_init 39 rfl) rfl ⟨rfl, rfl⟩ wa_int rfl (lb rfl) rfl rfl (lb rfl) (lb rfl) rfl rfl ?_
  obtain ⟨M_10, hM_10, hz⟩ := Z_lt hz
  refine R_putF (pc := 73) (ci := 10) (k := 17) (v := 90) (dc k_M_init 40 rfl) ff_M_39 rfl rfl (lb rfl) (lb rfl) rfl rfl rfl (by decide) (lb rfl) rfl ?_
  rw [← hM_10]
  refine R_aload_n (pc := 76) 0 (dc k_M_init 41 rfl) rfl rfl ?_
  refine R_iconst (pc := 77) (a := 2) (dc k_M_init 42 rfl) ?_
  refine R_newa (pc := 78) (n := 90) (ty := .boolean) (len := 2) (dc k_M_init 43 rfl) rfl ⟨rfl, rfl⟩ wa_boolean rfl (lb rfl) rfl rfl (lb rfl) (lb rfl) rfl rfl ?_
  obtain ⟨M_11, hM_11, hz⟩ := Z_lt hz
  refine R_putF (pc := 80) (ci := 10) (k := 18) (v := 91) (dc k_M_init 44 rfl) ff_M_42 rfl rfl (lb rfl) (lb rfl) rfl rfl rfl (by decide) (lb rfl) rfl ?_
  rw [← hM_11]
  refine R_aload_n (pc := 83) 0 (dc k_M_init 45 rfl) rfl rfl ?_
  refine R_bipush (pc := 84) (a := 24) (dc k_M_init 46 rfl) (by decide) ?_
  refine R_newa (pc := 86) (n := 91) (ty := .boolean) (len := 24) (dc k_M_init 47 rfl) rfl ⟨rfl, rfl⟩ wa_boolean rfl (lb rfl) rfl rfl (lb rfl) (lb rfl) rfl rfl ?_
  obtain ⟨M_12, hM_12, hz⟩ := Z_lt hz
  refine R_putF (pc := 88) (ci := 10) (k := 19) (v := 92) (dc k_M_init 48 rfl) ff_M_46 rfl rfl (lb rfl) (lb rfl) rfl rfl rfl (by decide) (lb rfl) rfl ?_
  rw [← hM_12]
  refine R_aload_n (pc := 91) 0 (dc k_M_init 49 rfl) rfl rfl ?_
  refine R_bipush (pc := 92) (a := 16) (dc k_M_init 50 rfl) (by decide) ?_
  refine R_newa (pc := 94) (n := 92) (ty := .long) (len := 16) (dc k_M_init 51 rfl) rfl ⟨rfl, rfl⟩ wa_long rfl (lb rfl) rfl rfl (lb rfl) (lb rfl) rfl rfl ?_
  obtain ⟨M_13, hM_13, hz⟩ := Z_lt hz
  refine R_putF (pc := 96) (ci := 10) (k := 20) (v := 93) (dc k_M_init 52 rfl) ff_M_49 rfl rfl (lb rfl) (lb rfl) rfl rfl rfl (by decide) (lb rfl) rfl ?_
  rw [← hM_13]
  refine R_aload_n (pc := 99) 0 (dc k_M_init 53 rfl) rfl rfl ?_
  refine R_bipush (pc := 100) (a := 16) (dc k_M_init 54 rfl) (by decide) ?_
  refine R_newa (pc := 102) (n := 93) (ty := .long) (len := 16) (dc k_M_init 55 rfl) rfl ⟨rfl, rfl⟩ wa_long rfl (lb rfl) rfl rfl (lb rfl) (lb rfl) rfl rfl ?_
  obtain ⟨M_14, hM_14, hz⟩ := Z_lt hz
  refine R_putF (pc := 104) (ci := 10) (k := 21) (v := 94) (dc k_M_init 56 rfl) ff_M_53 rfl rfl (lb rfl) (lb rfl) rfl rfl rfl (by decide) (lb rfl) rfl ?_
  rw [← hM_14]
  refine R_aload_n (pc := 107) 0 (dc k_M_init 57 rfl) rfl rfl ?_
  refine R_bipush (pc := 108) (a := 24) (dc k_M_init 58 rfl) (by decide) ?_
  refine R_newa (pc := 110) (n := 94) (ty := .long) (len := 24) (dc k_M_init 59 rfl) rfl ⟨rfl, rfl⟩ wa_long rfl (lb rfl) rfl rfl (lb rfl) (lb rfl) rfl rfl ?_
  obtain ⟨M_15, hM_15, hz⟩ := Z_lt hz
  refine R_putF (pc := 112) (ci := 10) (k := 22) (v := 95) (dc k_M_init 60 rfl) ff_M_56 rfl rfl (lb rfl) (lb rfl) rfl rfl rfl (by decide) (lb rfl) rfl ?_
  rw [← hM_15]
  refine R_aload_n (pc := 115) 0 (dc k_M_init 61 rfl) rfl rfl ?_
  refine R_bipush (pc := 116) (a := 16) (dc k_M_init 62 rfl) (by decide) ?_
  refine R_newa (pc := 118) (n := 95) (ty := .int) (len := 16) (dc k_M_init 63 rfl) rfl ⟨rfl, rfl⟩ wa_int rfl (lb rfl) rfl rfl (lb rfl) (lb rfl) rfl rfl ?_
  obtain ⟨M_16, hM_16, hz⟩ := Z_lt hz
  refine R_putF (pc := 120) (ci := 10) (k := 23) (v := 96) (dc k_M_init 64 rfl) ff_M_59 rfl rfl (lb rfl) (lb rfl) rfl rfl rfl (by decide) (lb rfl) rfl ?_
  rw [← hM_16]
  refine R_aload_n (pc := 123) 0 (dc k_M_init 65 rfl) rfl rfl ?_
  refine R_bipush (pc := 124) (a := 16) (dc k_M_init 66 rfl) (by decide) ?_
  refine R_newa (pc := 126) (n := 96) (ty := .int) (len := 16) (dc k_M_init 67 rfl) rfl ⟨rfl, rfl⟩ wa_int rfl (lb rfl) rfl rfl (lb rfl) (lb rfl) rfl rfl ?_
  obtain ⟨M_17, hM_17, hz⟩ := Z_lt hz
  refine R_putF (pc := 128) (ci := 10) (k := 24) (v := 97) (dc k_M_init 68 rfl) ff_M_62 rfl rfl (lb rfl) (lb rfl) rfl rfl rfl (by decide) (lb rfl) rfl ?_
  rw [← hM_17]
  refine R_aload_n (pc := 131) 0 (dc k_M_init 69 rfl) rfl rfl ?_
  refine R_bipush (pc := 132) (a := 24) (dc k_M_init 70 rfl) (by decide) ?_
  refine R_newa (pc := 134) (n := 97) (ty := .int) (len := 24) (dc k_M_init 71 rfl) rfl ⟨rfl, rfl⟩ wa_int rfl (lb rfl) rfl rfl (lb rfl) (lb rfl) rfl rfl ?_
  obtain ⟨M_18, hM_18, hz⟩ := Z_lt hz
  refine R_putF (pc := 136) (ci := 10) (k := 25) (v := 98) (dc k_M_init 72 rfl) ff_M_65 rfl rfl (lb rfl) (lb rfl) rfl rfl rfl (by decide) (lb rfl) rfl ?_
  rw [← hM_18]
  refine R_aload_n (pc := 139) 0 (dc k_M_init 73 rfl) rfl rfl ?_
  refine R_bipush (pc := 140) (a := 24) (dc k_M_init 74 rfl) (by decide) ?_
  refine R_newa (pc := 142) (n := 98) (ty := .int) (len := 24) (dc k_M_init 75 rfl) rfl ⟨rfl, rfl⟩ wa_int rfl (lb rfl) rfl rfl (lb rfl) (lb rfl) rfl rfl ?_
  obtain ⟨M_19, hM_19, hz⟩ := Z_lt hz
  refine R_putF (pc := 144) (ci := 10) (k := 26) (v := 99) (dc k_M_init 76 rfl) ff_M_68 rfl rfl (lb rfl) (lb rfl) rfl rfl rfl (by decide) (lb rfl) rfl ?_
  rw [← hM_19]
  refine R_aload_n (pc := 147) 0 (dc k_M_init 77 rfl) rfl rfl ?_
  refine R_bipush (pc := 148) (a := 24) (dc k_M_init 78 rfl) (by decide) ?_
  refine R_newa (pc := 150) (n := 99) (ty := .int) (len := 24) (dc k_M_init 79 rfl) rfl ⟨rfl, rfl⟩ wa_int rfl (lb rfl) rfl rfl (lb rfl) (lb rfl) rfl rfl ?_
  obtain ⟨M_20, hM_20, hz⟩ := Z_lt hz
  refine R_putF (pc := 152) (ci := 10) (k := 27) (v := 100) (dc k_M_init 80 rfl) ff_M_71 rfl rfl (lb rfl) (lb rfl) rfl rfl rfl (by decide) (lb rfl) rfl ?_
  rw [← hM_20]
  refine R_aload_n (pc := 155) 0 (dc k_M_init 81 rfl) rfl rfl ?_
  refine R_bipush (pc := 156) (a := 24) (dc k_M_init 82 rfl) (by decide) ?_
  refine R_newa (pc := 158) (n := 100) (ty := .int) (len := 24) (dc k_M_init 83 rfl) rfl ⟨rfl, rfl⟩ wa_int rfl (lb rfl) rfl rfl (lb rfl) (lb rfl) rfl rfl ?_
  obtain ⟨M_21, hM_21, hz⟩ := Z_lt hz
  refine R_putF (pc := 160) (ci := 10) (k := 28) (v := 101) (dc k_M_init 84 rfl) ff_M_74 rfl rfl (lb rfl) (lb rfl) rfl rfl rfl (by decide) (lb rfl) rfl ?_
  rw [← hM_21]
  refine R_aload_n (pc := 163) 0 (dc k_M_init 85 rfl) rfl rfl ?_
  refine R_bipush (pc := 164) (a := 24) (dc k_M_init 86 rfl) (by decide) ?_
  refine R_newa (pc := 166) (n := 101) (ty := .int) (len := 24) (dc k_M_init 87 rfl) rfl ⟨rfl, rfl⟩ wa_int rfl (lb rfl) rfl rfl (lb rfl) (lb rfl) rfl rfl ?_
  obtain ⟨M_22, hM_22, hz⟩ := Z_lt hz
  refine R_putF (pc := 168) (ci := 10) (k := 29) (v := 102) (dc k_M_init 88 rfl) ff_M_77 rfl rfl (lb rfl) (lb rfl) rfl rfl rfl (by decide) (lb rfl) rfl ?_
  rw [← hM_22]
  refine R_aload_n (pc := 171) 0 (dc k_M_init 89 rfl) rfl rfl ?_
  refine R_bipush (pc := 172) (a := 24) (dc k_M_init 90 rfl) (by decide) ?_
  refine R_newa (pc := 174) (n := 102) (ty := .int) (len := 24) (dc k_M_init 91 rfl) rfl ⟨rfl, rfl⟩ wa_int rfl (lb rfl) rfl rfl (lb rfl) (lb rfl) rfl rfl ?_
  obtain ⟨M_23, hM_23, hz⟩ := Z_lt hz
  refine R_putF (pc := 176) (ci := 10) (k := 30) (v := 103) (dc k_M_init 92 rfl) ff_M_80 rfl rfl (lb rfl) (lb rfl) rfl rfl rfl (by decide) (lb rfl) rfl ?_
  rw [← hM_23]
  refine R_aload_n (pc := 179) 0 (dc k_M_init 93 rfl) rfl rfl ?_
  refine R_bipush (pc := 180) (a := 34) (dc k_M_init 94 rfl) (by decide) ?_
  refine R_newa (pc := 182) (n := 103) (ty := .int) (len := 34) (dc k_M_init 95 rfl) rfl ⟨rfl, rfl⟩ wa_int rfl (lb rfl) rfl rfl (lb rfl) (lb rfl) rfl rfl ?_
  obtain ⟨M_24, hM_24, hz⟩ := Z_lt hz
  refine R_putF (pc := 184) (ci := 10) (k := 31) (v := 104) (dc k_M_init 96 rfl) ff_M_83 rfl rfl (lb rfl) (lb rfl) rfl rfl rfl (by decide) (lb rfl) rfl ?_
  rw [← hM_24]
  refine R_aload_n (pc := 187) 0 (dc k_M_init 97 rfl) rfl rfl ?_
  refine R_bipush (pc := 188) (a := 34) (dc k_M_init 98 rfl) (by decide) ?_
  refine R_newa (pc := 190) (n := 104) (ty := .int) (len := 34) (dc k_M_init 99 rfl) rfl ⟨rfl, rfl⟩ wa_int rfl (lb rfl) rfl rfl (lb rfl) (lb rfl) rfl rfl ?_
  obtain ⟨M_25, hM_25, hz⟩ := Z_lt hz
  refine R_putF (pc := 192) (ci := 10) (k := 32) (v := 105) (dc k_M_init 100 rfl) ff_M_86 rfl rfl (lb rfl) (lb rfl) rfl rfl rfl (by decide) (lb rfl) rfl ?_
  rw [← hM_25]
  refine R_aload_n (pc := 195) 0 (dc k_M_init 101 rfl) rfl rfl ?_
  refine R_sipush (pc := 196) (a := 1800) (dc k_M_init 102 rfl) (by decide) ?_
  refine R_newa (pc := 199) (n := 105) (ty := .int) (len := 1800) (dc k_M_init 103 rfl) rfl ⟨rfl, rfl⟩ wa_int rfl (lb rfl) rfl rfl (lb rfl) (lb rfl) rfl rfl ?_
  obtain ⟨M_26, hM_26, hz⟩ := Z_lt hz
  refine R_putF (pc := 201) (ci := 10) (k := 33) (v := 106) (dc k_M_init 104 rfl) ff_M_89 rfl rfl (lb rfl) (lb rfl) rfl rfl rfl (by decide) (lb rfl) rfl ?_
  rw [← hM_26]
  refine R_aload_n (pc := 204) 0 (dc k_M_init 105 rfl) rfl rfl ?_
  refine R_sipush (pc := 205) (a := 1800) (dc k_M_init 106 rfl) (by decide) ?_
  refine R_newa (pc := 208) (n := 106) (ty := .int) (len := 1800) (dc k_M_init 107 rfl) rfl ⟨rfl, rfl⟩ wa_int rfl (lb rfl) rfl rfl (lb rfl) (lb rfl) rfl rfl ?_
  obtain ⟨M_27, hM_27, hz⟩ := Z_lt hz
  refine R_putF (pc := 210) (ci := 10) (k := 34) (v := 107) (dc k_M_init 108 rfl) ff_M_92 rfl rfl (lb rfl) (lb rfl) rfl rfl rfl (by decide) (lb rfl) rfl ?_
  rw [← hM_27]
  refine R_aload_n (pc := 213) 0 (dc k_M_init 109 rfl) rfl rfl ?_
  refine R_bipush (pc := 214) (a := 120) (dc k_M_init 110 rfl) (by decide) ?_
  refine R_newa (pc := 216) (n := 107) (ty := .int) (len := 120) (dc k_M_init 111 rfl) rfl ⟨rfl, rfl⟩ wa_int rfl (lb rfl) rfl rfl (lb rfl) (lb rfl) rfl rfl ?_
  obtain ⟨M_28, hM_28, hz⟩ := Z_lt hz
  refine R_putF (pc := 218) (ci := 10) (k := 35) (v := 108) (dc k_M_init 112 rfl) ff_M_95 rfl rfl (lb rfl) (lb rfl) rfl rfl rfl (by decide) (lb rfl) rfl ?_
  rw [← hM_28]
  refine R_aload_n (pc := 221) 0 (dc k_M_init 113 rfl) rfl rfl ?_
  refine R_bipush (pc := 222) (a := 120) (dc k_M_init 114 rfl) (by decide) ?_
  refine R_newa (pc := 224) (n := 108) (ty := .int) (len := 120) (dc k_M_init 115 rfl) rfl ⟨rfl, rfl⟩ wa_int rfl (lb rfl) rfl rfl (lb rfl) (lb rfl) rfl rfl ?_
  obtain ⟨M_29, hM_29, hz⟩ := Z_lt hz
  refine R_putF (pc := 226) (ci := 10) (k := 36) (v := 109) (dc k_M_init 116 rfl) ff_M_98 rfl rfl (lb rfl) (lb rfl) rfl rfl rfl (by decide) (lb rfl) rfl ?_
  rw [← hM_29]
  refine R_aload_n (pc := 229) 0 (dc k_M_init 117 rfl) rfl rfl ?_
  refine R_bipush (pc := 230) (a := 120) (dc k_M_init 118 rfl) (by decide) ?_
  refine R_newa (pc := 232) (n := 109) (ty := .int) (len := 120) (dc k_M_init 119 rfl) rfl ⟨rfl, rfl⟩ wa_int rfl (lb rfl) rfl rfl (lb rfl) (lb rfl) rfl rfl ?_
  obtain ⟨M_30, hM_30, hz⟩ := Z_lt hz
  refine R_putF (pc := 234) (ci := 10) (k := 37) (v := 110) (dc k_M_init 120 rfl) ff_M_101 rfl rfl (lb rfl) (lb rfl) rfl rfl rfl (by decide) (lb rfl) rfl ?_
  rw [← hM_30]
  refine R_aload_n (pc := 237) 0 (dc k_M_init 121 rfl) rfl rfl ?_
  refine R_sipush (pc := 238) (a := 256) (dc k_M_init 122 rfl) (by decide) ?_
  refine R_newa (pc := 241) (n := 110) (ty := .boolean) (len := 256) (dc k_M_init 123 rfl) rfl ⟨rfl, rfl⟩ wa_boolean rfl (lb rfl) rfl rfl (lb rfl) (lb rfl) rfl rfl ?_
  obtain ⟨M_31, hM_31, hz⟩ := Z_lt hz
  refine R_putF (pc := 243) (ci := 10) (k := 46) (v := 111) (dc k_M_init 124 rfl) ff_M_104 rfl rfl (lb rfl) (lb rfl) rfl rfl rfl (by decide) (lb rfl) rfl ?_
  rw [← hM_31]
  refine R_aload_n (pc := 246) 0 (dc k_M_init 125 rfl) rfl rfl ?_
  refine R_sipush (pc := 247) (a := 3072) (dc k_M_init 126 rfl) (by decide) ?_
  refine R_newa (pc := 250) (n := 111) (ty := .boolean) (len := 3072) (dc k_M_init 127 rfl) rfl ⟨rfl, rfl⟩ wa_boolean rfl (lb rfl) rfl rfl (lb rfl) (lb rfl) rfl rfl ?_
  obtain ⟨M_32, hM_32, hz⟩ := Z_lt hz
  refine R_putF (pc := 252) (ci := 10) (k := 47) (v := 112) (dc k_M_init 128 rfl) ff_M_107 rfl rfl (lb rfl) (lb rfl) rfl rfl rfl (by decide) (lb rfl) rfl ?_
  rw [← hM_32]
  refine R_aload_n (pc := 255) 0 (dc k_M_init 129 rfl) rfl rfl ?_
  refine R_sipush (pc := 256) (a := 20480) (dc k_M_init 130 rfl) (by decide) ?_
  refine R_newa (pc := 259) (n := 112) (ty := .boolean) (len := 20480) (dc k_M_init 131 rfl) rfl ⟨rfl, rfl⟩ wa_boolean rfl (lb rfl) rfl rfl (lb rfl) (lb rfl) rfl rfl ?_
  obtain ⟨M_33, hM_33, hz⟩ := Z_lt hz
  refine R_putF (pc := 261) (ci := 10) (k := 48) (v := 113) (dc k_M_init 132 rfl) ff_M_110 rfl rfl (lb rfl) (lb rfl) rfl rfl rfl (by decide) (lb rfl) rfl ?_
  rw [← hM_33]
  refine R_aload_n (pc := 264) 0 (dc k_M_init 133 rfl) rfl rfl ?_
  refine R_sipush (pc := 265) (a := 24576) (dc k_M_init 134 rfl) (by decide) ?_
  refine R_newa (pc := 268) (n := 113) (ty := .int) (len := 24576) (dc k_M_init 135 rfl) rfl ⟨rfl, rfl⟩ wa_int rfl (lb rfl) rfl rfl (lb rfl) (lb rfl) rfl rfl ?_
  obtain ⟨M_34, hM_34, hz⟩ := Z_lt hz
  refine R_putF (pc := 270) (ci := 10) (k := 49) (v := 114) (dc k_M_init 136 rfl) ff_M_113 rfl rfl (lb rfl) (lb rfl) rfl rfl rfl (by decide) (lb rfl) rfl ?_
  rw [← hM_34]
  refine R_aload_n (pc := 273) 0 (dc k_M_init 137 rfl) rfl rfl ?_
  refine R_bipush (pc := 274) (a := 120) (dc k_M_init 138 rfl) (by decide) ?_
  refine R_newa (pc := 276) (n := 114) (ty := .int) (len := 120) (dc k_M_init 139 rfl) rfl ⟨rfl, rfl⟩ wa_int rfl (lb rfl) rfl rfl (lb rfl) (lb rfl) rfl rfl ?_
  obtain ⟨M_35, hM_35, hz⟩ := Z_lt hz
  refine R_putF (pc := 278) (ci := 10) (k := 50) (v := 115) (dc k_M_init 140 rfl) ff_M_116 rfl rfl (lb rfl) (lb rfl) rfl rfl rfl (by decide) (lb rfl) rfl ?_
  rw [← hM_35]
  refine R_aload_n (pc := 281) 0 (dc k_M_init 141 rfl) rfl rfl ?_
  refine R_bipush (pc := 282) (a := 40) (dc k_M_init 142 rfl) (by decide) ?_
  refine R_newa (pc := 284) (n := 115) (ty := .int) (len := 40) (dc k_M_init 143 rfl) rfl ⟨rfl, rfl⟩ wa_int rfl (lb rfl) rfl rfl (lb rfl) (lb rfl) rfl rfl ?_
  obtain ⟨M_36, hM_36, hz⟩ := Z_lt hz
  refine R_putF (pc := 286) (ci := 10) (k := 51) (v := 116) (dc k_M_init 144 rfl) ff_M_119 rfl rfl (lb rfl) (lb rfl) rfl rfl rfl (by decide) (lb rfl) rfl ?_
  rw [← hM_36]
  refine R_aload_n (pc := 289) 0 (dc k_M_init 145 rfl) rfl rfl ?_
  refine R_bipush (pc := 290) (a := 40) (dc k_M_init 146 rfl) (by decide) ?_
  refine R_newa (pc := 292) (n := 116) (ty := .int) (len := 40) (dc k_M_init 147 rfl) rfl ⟨rfl, rfl⟩ wa_int rfl (lb rfl) rfl rfl (lb rfl) (lb rfl) rfl rfl ?_
  obtain ⟨M_37, hM_37, hz⟩ := Z_lt hz
  refine R_putF (pc := 294) (ci := 10) (k := 52) (v := 117) (dc k_M_init 148 rfl) ff_M_122 rfl rfl (lb rfl) (lb rfl) rfl rfl rfl (by decide) (lb rfl) rfl ?_
  rw [← hM_37]
  refine R_aload_n (pc := 297) 0 (dc k_M_init 149 rfl) rfl rfl ?_
  refine R_bipush (pc := 298) (a := 40) (dc k_M_init 150 rfl) (by decide) ?_
  refine R_newa (pc := 300) (n := 117) (ty := .int) (len := 40) (dc k_M_init 151 rfl) rfl ⟨rfl, rfl⟩ wa_int rfl (lb rfl) rfl rfl (lb rfl) (lb rfl) rfl rfl ?_
  obtain ⟨M_38, hM_38, hz⟩ := Z_lt hz
  refine R_putF (pc := 302) (ci := 10) (k := 53) (v := 118) (dc k_M_init 152 rfl) ff_M_125 rfl rfl (lb rfl) (lb rfl) rfl rfl rfl (by decide) (lb rfl) rfl ?_
  rw [← hM_38]
  refine R_aload_n (pc := 305) 0 (dc k_M_init 153 rfl) rfl rfl ?_
  refine R_bipush (pc := 306) (a := 40) (dc k_M_init 154 rfl) (by decide) ?_
  refine R_newa (pc := 308) (n := 118) (ty := .int) (len := 40) (dc k_M_init 155 rfl) rfl ⟨rfl, rfl⟩ wa_int rfl (lb rfl) rfl rfl (lb rfl) (lb rfl) rfl rfl ?_
  obtain ⟨M_39, hM_39, hz⟩ := Z_lt hz
  refine R_putF (pc := 310) (ci := 10) (k := 54) (v := 119) (dc k_M_init 156 rfl) ff_M_128 rfl rfl (lb rfl) (lb rfl) rfl rfl rfl (by decide) (lb rfl) rfl ?_
  rw [← hM_39]
  refine R_aload_n (pc := 313) 0 (dc k_M_init 157 rfl) rfl rfl ?_
  refine R_bipush (pc := 314) (a := 40) (dc k_M_init 158 rfl) (by decide) ?_
  refine R_newa (pc := 316) (n := 119) (ty := .boolean) (len := 40) (dc k_M_init 159 rfl) rfl ⟨rfl, rfl⟩ wa_boolean rfl (lb rfl) rfl rfl (lb rfl) (lb rfl) rfl rfl ?_
  obtain ⟨M_40, hM_40, hz⟩ := Z_lt hz
  refine R_putF (pc := 318) (ci := 10) (k := 55) (v := 120) (dc k_M_init 160 rfl) ff_M_131 rfl rfl (lb rfl) (lb rfl) rfl rfl rfl (by decide) (lb rfl) rfl ?_
  rw [← hM_40]
  refine R_aload_n (pc := 321) 0 (dc k_M_init 161 rfl) rfl rfl ?_
  refine R_bipush (pc := 322) (a := 40) (dc k_M_init 162 rfl) (by decide) ?_
  refine R_newa (pc := 324) (n := 120) (ty := .boolean) (len := 40) (dc k_M_init 163 rfl) rfl ⟨rfl, rfl⟩ wa_boolean rfl (lb rfl) rfl rfl (lb rfl) (lb rfl) rfl rfl ?_
  obtain ⟨M_41, hM_41, hz⟩ := Z_lt hz
  refine R_putF (pc := 326) (ci := 10) (k := 56) (v := 121) (dc k_M_init 164 rfl) ff_M_134 rfl rfl (lb rfl) (lb rfl) rfl rfl rfl (by decide) (lb rfl) rfl ?_
  rw [← hM_41]
  refine R_aload_n (pc := 329) 0 (dc k_M_init 165 rfl) rfl rfl ?_
  refine R_sipush (pc := 330) (a := 256) (dc k_M_init 166 rfl) (by decide) ?_
  refine R_newa (pc := 333) (n := 121) (ty := .boolean) (len := 256) (dc k_M_init 167 rfl) rfl ⟨rfl, rfl⟩ wa_boolean rfl (lb rfl) rfl rfl (lb rfl) (lb rfl) rfl rfl ?_
  obtain ⟨M_42, hM_42, hz⟩ := Z_lt hz
  refine R_putF (pc := 335) (ci := 10) (k := 59) (v := 122) (dc k_M_init 168 rfl) ff_M_137 rfl rfl (lb rfl) (lb rfl) rfl rfl rfl (by decide) (lb rfl) rfl ?_
  rw [← hM_42]
  refine R_aload_n (pc := 338) 0 (dc k_M_init 169 rfl) rfl rfl ?_
  refine R_bipush (pc := 339) (a := 40) (dc k_M_init 170 rfl) (by decide) ?_
  refine R_newa (pc := 341) (n := 122) (ty := .int) (len := 40) (dc k_M_init 171 rfl) rfl ⟨rfl, rfl⟩ wa_int rfl (lb rfl) rfl rfl (lb rfl) (lb rfl) rfl rfl ?_
  obtain ⟨M_43, hM_43, hz⟩ := Z_lt hz
  refine R_putF (pc := 343) (ci := 10) (k := 61) (v := 123) (dc k_M_init 172 rfl) ff_M_140 rfl rfl (lb rfl) (lb rfl) rfl rfl rfl (by decide) (lb rfl) rfl ?_
  rw [← hM_43]
  refine R_aload_n (pc := 346) 0 (dc k_M_init 173 rfl) rfl rfl ?_
  refine R_sipush (pc := 347) (a := 2560) (dc k_M_init 174 rfl) (by decide) ?_
  refine R_newa (pc := 350) (n := 123) (ty := .boolean) (len := 2560) (dc k_M_init 175 rfl) rfl ⟨rfl, rfl⟩ wa_boolean rfl (lb rfl) rfl rfl (lb rfl) (lb rfl) rfl rfl ?_
  obtain ⟨M_44, hM_44, hz⟩ := Z_lt hz
  refine R_putF (pc := 352) (ci := 10) (k := 62) (v := 124) (dc k_M_init 176 rfl) ff_M_143 rfl rfl (lb rfl) (lb rfl) rfl rfl rfl (by decide) (lb rfl) rfl ?_
  rw [← hM_44]
  refine R_aload_n (pc := 355) 0 (dc k_M_init 177 rfl) rfl rfl ?_
  refine R_iconst (pc := 356) (a := 3) (dc k_M_init 178 rfl) ?_
  refine R_newa (pc := 357) (n := 124) (ty := .int) (len := 3) (dc k_M_init 179 rfl) rfl ⟨rfl, rfl⟩ wa_int rfl (lb rfl) rfl rfl (lb rfl) (lb rfl) rfl rfl ?_
  obtain ⟨M_45, hM_45, hz⟩ := Z_lt hz
  refine R_putF (pc := 359) (ci := 10) (k := 63) (v := 125) (dc k_M_init 180 rfl) ff_M_146 rfl rfl (lb rfl) (lb rfl) rfl rfl rfl (by decide) (lb rfl) rfl ?_
  rw [← hM_45]
  refine R_aload_n (pc := 362) 0 (dc k_M_init 181 rfl) rfl rfl ?_
  refine R_bipush (pc := 363) (a := 16) (dc k_M_init 182 rfl) (by decide) ?_
  refine R_newa (pc := 365) (n := 125) (ty := .long) (len := 16) (dc k_M_init 183 rfl) rfl ⟨rfl, rfl⟩ wa_long rfl (lb rfl) rfl rfl (lb rfl) (lb rfl) rfl rfl ?_
  obtain ⟨M_46, hM_46, hz⟩ := Z_lt hz
  refine R_putF (pc := 367) (ci := 10) (k := 64) (v := 126) (dc k_M_init 184 rfl) ff_M_149 rfl rfl (lb rfl) (lb rfl) rfl rfl rfl (by decide) (lb rfl) rfl ?_
  rw [← hM_46]
  refine R_aload_n (pc := 370) 0 (dc k_M_init 185 rfl) rfl rfl ?_
  refine R_sipush (pc := 371) (a := 1152) (dc k_M_init 186 rfl) (by decide) ?_
  refine R_newa (pc := 374) (n := 126) (ty := .long) (len := 1152) (dc k_M_init 187 rfl) rfl ⟨rfl, rfl⟩ wa_long rfl (lb rfl) rfl rfl (lb rfl) (lb rfl) rfl rfl ?_
  obtain ⟨M_47, hM_47, hz⟩ := Z_lt hz
  refine R_putF (pc := 376) (ci := 10) (k := 65) (v := 127) (dc k_M_init 188 rfl) ff_M_152 rfl rfl (lb rfl) (lb rfl) rfl rfl rfl (by decide) (lb rfl) rfl ?_
  rw [← hM_47]
  refine R_aload_n (pc := 379) 0 (dc k_M_init 189 rfl) rfl rfl ?_
  refine R_iconst (pc := 380) (a := 4) (dc k_M_init 190 rfl) ?_
  refine R_newa (pc := 381) (n := 127) (ty := .long) (len := 4) (dc k_M_init 191 rfl) rfl ⟨rfl, rfl⟩ wa_long rfl (lb rfl) rfl rfl (lb rfl) (lb rfl) rfl rfl ?_
  obtain ⟨M_48, hM_48, hz⟩ := Z_lt hz
  refine R_putF (pc := 383) (ci := 10) (k := 66) (v := 128) (dc k_M_init 192 rfl) ff_M_155 rfl rfl (lb rfl) (lb rfl) rfl rfl rfl (by decide) (lb rfl) rfl ?_
  rw [← hM_48]
  refine R_aload_n (pc := 386) 0 (dc k_M_init 193 rfl) rfl rfl ?_
  refine R_bipush (pc := 387) (a := 40) (dc k_M_init 194 rfl) (by decide) ?_
  refine R_newa (pc := 389) (n := 128) (ty := .int) (len := 40) (dc k_M_init 195 rfl) rfl ⟨rfl, rfl⟩ wa_int rfl (lb rfl) rfl rfl (lb rfl) (lb rfl) rfl rfl ?_
  obtain ⟨M_49, hM_49, hz⟩ := Z_lt hz
  refine R_putF (pc := 391) (ci := 10) (k := 67) (v := 129) (dc k_M_init 196 rfl) ff_M_158 rfl rfl (lb rfl) (lb rfl) rfl rfl rfl (by decide) (lb rfl) rfl ?_
  rw [← hM_49]
  refine R_aload_n (pc := 394) 0 (dc k_M_init 197 rfl) rfl rfl ?_
  refine R_bipush (pc := 395) (a := 8) (dc k_M_init 198 rfl) (by decide) ?_
  refine R_newa (pc := 397) (n := 129) (ty := .int) (len := 8) (dc k_M_init 199 rfl) rfl ⟨rfl, rfl⟩ wa_int rfl (lb rfl) rfl rfl (lb rfl) (lb rfl) rfl rfl ?_
  obtain ⟨M_50, hM_50, hz⟩ := Z_lt hz
  refine R_putF (pc := 399) (ci := 10) (k := 68) (v := 130) (dc k_M_init 200 rfl) ff_M_161 rfl rfl (lb rfl) (lb rfl) rfl rfl rfl (by decide) (lb rfl) rfl ?_
  rw [← hM_50]
  refine R_aload_n (pc := 402) 0 (dc k_M_init 201 rfl) rfl rfl ?_
  refine R_bipush (pc := 403) (a := 9) (dc k_M_init 202 rfl) (by decide) ?_
  refine R_newa (pc := 405) (n := 130) (ty := .int) (len := 9) (dc k_M_init 203 rfl) rfl ⟨rfl, rfl⟩ wa_int rfl (lb rfl) rfl rfl (lb rfl) (lb rfl) rfl rfl ?_
  obtain ⟨M_51, hM_51, hz⟩ := Z_lt hz
  refine R_putF (pc := 407) (ci := 10) (k := 69) (v := 131) (dc k_M_init 204 rfl) ff_M_164 rfl rfl (lb rfl) (lb rfl) rfl rfl rfl (by decide) (lb rfl) rfl ?_
  rw [← hM_51]
  refine R_aload_n (pc := 410) 0 (dc k_M_init 205 rfl) rfl rfl ?_
  refine R_iconst (pc := 411) (a := 3) (dc k_M_init 206 rfl) ?_
  refine R_newa (pc := 412) (n := 131) (ty := .int) (len := 3) (dc k_M_init 207 rfl) rfl ⟨rfl, rfl⟩ wa_int rfl (lb rfl) rfl rfl (lb rfl) (lb rfl) rfl rfl ?_
  obtain ⟨M_52, hM_52, hz⟩ := Z_lt hz
  refine R_putF (pc := 414) (ci := 10) (k := 71) (v := 132) (dc k_M_init 208 rfl) ff_M_167 rfl rfl (lb rfl) (lb rfl) rfl rfl rfl (by decide) (lb rfl) rfl ?_
  rw [← hM_52]
  refine R_aload_n (pc := 417) 0 (dc k_M_init 209 rfl) rfl rfl ?_
  refine R_bipush (pc := 418) (a := 120) (dc k_M_init 210 rfl) (by decide) ?_
  refine R_newa (pc := 420) (n := 132) (ty := .int) (len := 120) (dc k_M_init 211 rfl) rfl ⟨rfl, rfl⟩ wa_int rfl (lb rfl) rfl rfl (lb rfl) (lb rfl) rfl rfl ?_
  obtain ⟨M_53, hM_53, hz⟩ := Z_lt hz
  refine R_putF (pc := 422) (ci := 10) (k := 72) (v := 133) (dc k_M_init 212 rfl) ff_M_170 rfl rfl (lb rfl) (lb rfl) rfl rfl rfl (by decide) (lb rfl) rfl ?_
  rw [← hM_53]
  refine R_aload_n (pc := 425) 0 (dc k_M_init 213 rfl) rfl rfl ?_
  refine R_bipush (pc := 426) (a := 120) (dc k_M_init 214 rfl) (by decide) ?_
  refine R_newa (pc := 428) (n := 133) (ty := .int) (len := 120) (dc k_M_init 215 rfl) rfl ⟨rfl, rfl⟩ wa_int rfl (lb rfl) rfl rfl (lb rfl) (lb rfl) rfl rfl ?_
  obtain ⟨M_54, hM_54, hz⟩ := Z_lt hz
  refine R_putF (pc := 430) (ci := 10) (k := 73) (v := 134) (dc k_M_init 216 rfl) ff_M_173 rfl rfl (lb rfl) (lb rfl) rfl rfl rfl (by decide) (lb rfl) rfl ?_
  rw [← hM_54]
  refine R_aload_n (pc := 433) 0 (dc k_M_init 217 rfl) rfl rfl ?_
  refine R_bipush (pc := 434) (a := 120) (dc k_M_init 218 rfl) (by decide) ?_
  refine R_newa (pc := 436) (n := 134) (ty := .int) (len := 120) (dc k_M_init 219 rfl) rfl ⟨rfl, rfl⟩ wa_int rfl (lb rfl) rfl rfl (lb rfl) (lb rfl) rfl rfl ?_
  obtain ⟨M_55, hM_55, hz⟩ := Z_lt hz
  refine R_putF (pc := 438) (ci := 10) (k := 74) (v := 135) (dc k_M_init 220 rfl) ff_M_176 rfl rfl (lb rfl) (lb rfl) rfl rfl rfl (by decide) (lb rfl) rfl ?_
  rw [← hM_55]
  refine R_aload_n (pc := 441) 0 (dc k_M_init 221 rfl) rfl rfl ?_
  refine R_bipush (pc := 442) (a := 120) (dc k_M_init 222 rfl) (by decide) ?_
  refine R_newa (pc := 444) (n := 135) (ty := .int) (len := 120) (dc k_M_init 223 rfl) rfl ⟨rfl, rfl⟩ wa_int rfl (lb rfl) rfl rfl (lb rfl) (lb rfl) rfl rfl ?_
  obtain ⟨M_56, hM_56, hz⟩ := Z_lt hz
  refine R_putF (pc := 446) (ci := 10) (k := 75) (v := 136) (dc k_M_init 224 rfl) ff_M_179 rfl rfl (lb rfl) (lb rfl) rfl rfl rfl (by decide) (lb rfl) rfl ?_
  rw [← hM_56]
  refine R_aload_n (pc := 449) 0 (dc k_M_init 225 rfl) rfl rfl ?_
  refine R_bipush (pc := 450) (a := 120) (dc k_M_init 226 rfl) (by decide) ?_
  refine R_newa (pc := 452) (n := 136) (ty := .boolean) (len := 120) (dc k_M_init 227 rfl) rfl ⟨rfl, rfl⟩ wa_boolean rfl (lb rfl) rfl rfl (lb rfl) (lb rfl) rfl rfl ?_
  obtain ⟨M_57, hM_57, hz⟩ := Z_lt hz
  refine R_putF (pc := 454) (ci := 10) (k := 76) (v := 137) (dc k_M_init 228 rfl) ff_M_182 rfl rfl (lb rfl) (lb rfl) rfl rfl rfl (by decide) (lb rfl) rfl ?_
  rw [← hM_57]
  refine R_aload_n (pc := 457) 0 (dc k_M_init 229 rfl) rfl rfl ?_
  refine R_bipush (pc := 458) (a := 120) (dc k_M_init 230 rfl) (by decide) ?_
  refine R_newa (pc := 460) (n := 137) (ty := .boolean) (len := 120) (dc k_M_init 231 rfl) rfl ⟨rfl, rfl⟩ wa_boolean rfl (lb rfl) rfl rfl (lb rfl) (lb rfl) rfl rfl ?_
  obtain ⟨M_58, hM_58, hz⟩ := Z_lt hz
  refine R_putF (pc := 462) (ci := 10) (k := 77) (v := 138) (dc k_M_init 232 rfl) ff_M_185 rfl rfl (lb rfl) (lb rfl) rfl rfl rfl (by decide) (lb rfl) rfl ?_
  rw [← hM_58]
  refine R_est (E' := (eI [(81, 138), (1, 80)])) (est_of 81 81 (by decide) (by decide) (by decide) ?_ ?_) ?_
  · exact ⟨Or.inr (by simp [up, Int.toNat, hM_58, hM_57, hM_56, hM_55, hM_54, hM_53, hM_52, hM_51, hM_50, hM_49, hM_48, hM_47, hM_46, hM_45, hM_44, hM_43, hM_42, hM_41, hM_40, hM_39, hM_38, hM_37, hM_36, hM_35, hM_34, hM_33, hM_32, hM_31, hM_30, hM_29, hM_28, hM_27, hM_26, hM_25, hM_24, hM_23, hM_22, hM_21, hM_20, hM_19, hM_18, hM_17, hM_16, hM_15, hM_14, hM_13, hM_12, hM_11, hM_10, hM_9, hM_8, hM_7, hM_6, hM_5, hM_4, hM_3, hM_2, hM_1]), Or.inr (by simp [up, Int.toNat, hM_58, hM_57, hM_56, hM_55, hM_54, hM_53, hM_52, hM_51, hM_50, hM_49, hM_48, hM_47, hM_46, hM_45, hM_44, hM_43, hM_42, hM_41, hM_40, hM_39, hM_38, hM_37, hM_36, hM_35, hM_34, hM_33, hM_32, hM_31, hM_30, hM_29, hM_28, hM_27, hM_26, hM_25, hM_24, hM_23, hM_22, hM_21, hM_20, hM_19, hM_18, hM_17, hM_16, hM_15, hM_14, hM_13, hM_12, hM_11, hM_10, hM_9, hM_8, hM_7, hM_6, hM_5, hM_4, hM_3, hM_2, hM_1]), Or.inl rfl, Or.inl rfl, Or.inl rfl, Or.inl rfl, Or.inl rfl, Or.inl rfl, Or.inl rfl, Or.inl rfl, Or.inl rfl, Or.inr (by simp [up, Int.toNat, hM_58, hM_57, hM_56, hM_55, hM_54, hM_53, hM_52, hM_51, hM_50, hM_49, hM_48, hM_47, hM_46, hM_45, hM_44, hM_43, hM_42, hM_41, hM_40, hM_39, hM_38, hM_37, hM_36, hM_35, hM_34, hM_33, hM_32, hM_31, hM_30, hM_29, hM_28, hM_27, hM_26, hM_25, hM_24, hM_23, hM_22, hM_21, hM_20, hM_19, hM_18, hM_17, hM_16, hM_15, hM_14, hM_13, hM_12, hM_11, hM_10, hM_9, hM_8, hM_7, hM_6, hM_5, hM_4, hM_3, hM_2, hM_1]), Or.inr (by simp [up, Int.toNat, hM_58, hM_57, hM_56, hM_55, hM_54, hM_53, hM_52, hM_51, hM_50, hM_49, hM_48, hM_47, hM_46, hM_45, hM_44, hM_43, hM_42, hM_41, hM_40, hM_39, hM_38, hM_37, hM_36, hM_35, hM_34, hM_33, hM_32, hM_31, hM_30, hM_29, hM_28, hM_27, hM_26, hM_25, hM_24, hM_23, hM_22, hM_21, hM_20, hM_19, hM_18, hM_17, hM_16, hM_15, hM_14, hM_13, hM_12, hM_11, hM_10, hM_9, hM_8, hM_7, hM_6, hM_5, hM_4, hM_3, hM_2, hM_1]), Or.inr (by simp [up, Int.toNat, hM_58, hM_57, hM_56, hM_55, hM_54, hM_53, hM_52, hM_51, hM_50, hM_49, hM_48, hM_47, hM_46, hM_45, hM_44, hM_43, hM_42, hM_41, hM_40, hM_39, hM_38, hM_37, hM_36, hM_35, hM_34, hM_33, hM_32, hM_31, hM_30, hM_29, hM_28, hM_27, hM_26, hM_25, hM_24, hM_23, hM_22, hM_21, hM_20, hM_19, hM_18, hM_17, hM_16, hM_15, hM_14, hM_13, hM_12, hM_11, hM_10, hM_9, hM_8, hM_7, hM_6, hM_5, hM_4, hM_3, hM_2, hM_1]), Or.inr (by simp [up, Int.toNat, hM_58, hM_57, hM_56, hM_55, hM_54, hM_53, hM_52, hM_51, hM_50, hM_49, hM_48, hM_47, hM_46, hM_45, hM_44, hM_43, hM_42, hM_41, hM_40, hM_39, hM_38, hM_37, hM_36, hM_35, hM_34, hM_33, hM_32, hM_31, hM_30, hM_29, hM_28, hM_27, hM_26, hM_25, hM_24, hM_23, hM_22, hM_21, hM_20, hM_19, hM_18, hM_17, hM_16, hM_15, hM_14, hM_13, hM_12, hM_11, hM_10, hM_9, hM_8, hM_7, hM_6, hM_5, hM_4, hM_3, hM_2, hM_1]), Or.inr (by simp [up, Int.toNat, hM_58, hM_57, hM_56, hM_55, hM_54, hM_53, hM_52, hM_51, hM_50, hM_49, hM_48, hM_47, hM_46, hM_45, hM_44, hM_43, hM_42, hM_41, hM_40, hM_39, hM_38, hM_37, hM_36, hM_35, hM_34, hM_33, hM_32, hM_31, hM_30, hM_29, hM_28, hM_27, hM_26, hM_25, hM_24, hM_23, hM_22, hM_21, hM_20, hM_19, hM_18, hM_17, hM_16, hM_15, hM_14, hM_13, hM_12, hM_11, hM_10, hM_9, hM_8, hM_7, hM_6, hM_5, hM_4, hM_3, hM_2, hM_1]), Or.inr (by simp [up, Int.toNat, hM_58, hM_57, hM_56, hM_55, hM_54, hM_53, hM_52, hM_51, hM_50, hM_49, hM_48, hM_47, hM_46, hM_45, hM_44, hM_43, hM_42, hM_41, hM_40, hM_39, hM_38, hM_37, hM_36, hM_35, hM_34, hM_33, hM_32, hM_31, hM_30, hM_29, hM_28, hM_27, hM_26, hM_25, hM_24, hM_23, hM_22, hM_21, hM_20, hM_19, hM_18, hM_17, hM_16, hM_15, hM_14, hM_13, hM_12, hM_11, hM_10, hM_9, hM_8, hM_7, hM_6, hM_5, hM_4, hM_3, hM_2, hM_1]), Or.inr (by simp [up, Int.toNat, hM_58, hM_57, hM_56, hM_55, hM_54, hM_53, hM_52, hM_51, hM_50, hM_49, hM_48, hM_47, hM_46, hM_45, hM_44, hM_43, hM_42, hM_41, hM_40, hM_39, hM_38, hM_37, hM_36, hM_35, hM_34, hM_33, hM_32, hM_31, hM_30, hM_29, hM_28, hM_27, hM_26, hM_25, hM_24, hM_23, hM_22, hM_21, hM_20, hM_19, hM_18, hM_17, hM_16, hM_15, hM_14, hM_13, hM_12, hM_11, hM_10, hM_9, hM_8, hM_7, hM_6, hM_5, hM_4, hM_3, hM_2, hM_1]), Or.inr (by simp [up, Int.toNat, hM_58, hM_57, hM_56, hM_55, hM_54, hM_53, hM_52, hM_51, hM_50, hM_49, hM_48, hM_47, hM_46, hM_45, hM_44, hM_43, hM_42, hM_41, hM_40, hM_39, hM_38, hM_37, hM_36, hM_35, hM_34, hM_33, hM_32, hM_31, hM_30, hM_29, hM_28, hM_27, hM_26, hM_25, hM_24, hM_23, hM_22, hM_21, hM_20, hM_19, hM_18, hM_17, hM_16, hM_15, hM_14, hM_13, hM_12, hM_11, hM_10, hM_9, hM_8, hM_7, hM_6, hM_5, hM_4, hM_3, hM_2, hM_1]), Or.inr (by simp [up, Int.toNat, hM_58, hM_57, hM_56, hM_55, hM_54, hM_53, hM_52, hM_51, hM_50, hM_49, hM_48, hM_47, hM_46, hM_45, hM_44, hM_43, hM_42, hM_41, hM_40, hM_39, hM_38, hM_37, hM_36, hM_35, hM_34, hM_33, hM_32, hM_31, hM_30, hM_29, hM_28, hM_27, hM_26, hM_25, hM_24, hM_23, hM_22, hM_21, hM_20, hM_19, hM_18, hM_17, hM_16, hM_15, hM_14, hM_13, hM_12, hM_11, hM_10, hM_9, hM_8, hM_7, hM_6, hM_5, hM_4, hM_3, hM_2, hM_1]), Or.inr (by simp [up, Int.toNat, hM_58, hM_57, hM_56, hM_55, hM_54, hM_53, hM_52, hM_51, hM_50, hM_49, hM_48, hM_47, hM_46, hM_45, hM_44, hM_43, hM_42, hM_41, hM_40, hM_39, hM_38, hM_37, hM_36, hM_35, hM_34, hM_33, hM_32, hM_31, hM_30, hM_29, hM_28, hM_27, hM_26, hM_25, hM_24, hM_23, hM_22, hM_21, hM_20, hM_19, hM_18, hM_17, hM_16, hM_15, hM_14, hM_13, hM_12, hM_11, hM_10, hM_9, hM_8, hM_7, hM_6, hM_5, hM_4, hM_3, hM_2, hM_1]), Or.inr (by simp [up, Int.toNat, hM_58, hM_57, hM_56, hM_55, hM_54, hM_53, hM_52, hM_51, hM_50, hM_49, hM_48, hM_47, hM_46, hM_45, hM_44, hM_43, hM_42, hM_41, hM_40, hM_39, hM_38, hM_37, hM_36, hM_35, hM_34, hM_33, hM_32, hM_31, hM_30, hM_29, hM_28, hM_27, hM_26, hM_25, hM_24, hM_23, hM_22, hM_21, hM_20, hM_19, hM_18, hM_17, hM_16, hM_15, hM_14, hM_13, hM_12, hM_11, hM_10, hM_9, hM_8, hM_7, hM_6, hM_5, hM_4, hM_3, hM_2, hM_1]), Or.inr (by simp [up, Int.toNat, hM_58, hM_57, hM_56, hM_55, hM_54, hM_53, hM_52, hM_51, hM_50, hM_49, hM_48, hM_47, hM_46, hM_45, hM_44, hM_43, hM_42, hM_41, hM_40, hM_39, hM_38, hM_37, hM_36, hM_35, hM_34, hM_33, hM_32, hM_31, hM_30, hM_29, hM_28, hM_27, hM_26, hM_25, hM_24, hM_23, hM_22, hM_21, hM_20, hM_19, hM_18, hM_17, hM_16, hM_15, hM_14, hM_13, hM_12, hM_11, hM_10, hM_9, hM_8, hM_7, hM_6, hM_5, hM_4, hM_3, hM_2, hM_1]), Or.inr (by simp [up, Int.toNat, hM_58, hM_57, hM_56, hM_55, hM_54, hM_53, hM_52, hM_51, hM_50, hM_49, hM_48, hM_47, hM_46, hM_45, hM_44, hM_43, hM_42, hM_41, hM_40, hM_39, hM_38, hM_37, hM_36, hM_35, hM_34, hM_33, hM_32, hM_31, hM_30, hM_29, hM_28, hM_27, hM_26, hM_25, hM_24, hM_23, hM_22, hM_21, hM_20, hM_19, hM_18, hM_17, hM_16, hM_15, hM_14, hM_13, hM_12, hM_11, hM_10, hM_9, hM_8, hM_7, hM_6, hM_5, hM_4, hM_3, hM_2, hM_1]), Or.inr (by simp [up, Int.toNat, hM_58, hM_57, hM_56, hM_55, hM_54, hM_53, hM_52, hM_51, hM_50, hM_49, hM_48, hM_47, hM_46, hM_45, hM_44, hM_43, hM_42, hM_41, hM_40, hM_39, hM_38, hM_37, hM_36, hM_35, hM_34, hM_33, hM_32, hM_31, hM_30, hM_29, hM_28, hM_27, hM_26, hM_25, hM_24, hM_23, hM_22, hM_21, hM_20, hM_19, hM_18, hM_17, hM_16, hM_15, hM_14, hM_13, hM_12, hM_11, hM_10, hM_9, hM_8, hM_7, hM_6, hM_5, hM_4, hM_3, hM_2, hM_1]), Or.inr (by simp [up, Int.toNat, hM_58, hM_57, hM_56, hM_55, hM_54, hM_53, hM_52, hM_51, hM_50, hM_49, hM_48, hM_47, hM_46, hM_45, hM_44, hM_43, hM_42, hM_41, hM_40, hM_39, hM_38, hM_37, hM_36, hM_35, hM_34, hM_33, hM_32, hM_31, hM_30, hM_29, hM_28, hM_27, hM_26, hM_25, hM_24, hM_23, hM_22, hM_21, hM_20, hM_19, hM_18, hM_17, hM_16, hM_15, hM_14, hM_13, hM_12, hM_11, hM_10, hM_9, hM_8, hM_7, hM_6, hM_5, hM_4, hM_3, hM_2, hM_1]), Or.inr (by simp [up, Int.toNat, hM_58, hM_57, hM_56, hM_55, hM_54, hM_53, hM_52, hM_51, hM_50, hM_49, hM_48, hM_47, hM_46, hM_45, hM_44, hM_43, hM_42, hM_41, hM_40, hM_39, hM_38, hM_37, hM_36, hM_35, hM_34, hM_33, hM_32, hM_31, hM_30, hM_29, hM_28, hM_27, hM_26, hM_25, hM_24, hM_23, hM_22, hM_21, hM_20, hM_19, hM_18, hM_17, hM_16, hM_15, hM_14, hM_13, hM_12, hM_11, hM_10, hM_9, hM_8, hM_7, hM_6, hM_5, hM_4, hM_3, hM_2, hM_1]), Or.inr (by simp [up, Int.toNat, hM_58, hM_57, hM_56, hM_55, hM_54, hM_53, hM_52, hM_51, hM_50, hM_49, hM_48, hM_47, hM_46, hM_45, hM_44, hM_43, hM_42, hM_41, hM_40, hM_39, hM_38, hM_37, hM_36, hM_35, hM_34, hM_33, hM_32, hM_31, hM_30, hM_29, hM_28, hM_27, hM_26, hM_25, hM_24, hM_23, hM_22, hM_21, hM_20, hM_19, hM_18, hM_17, hM_16, hM_15, hM_14, hM_13, hM_12, hM_11, hM_10, hM_9, hM_8, hM_7, hM_6, hM_5, hM_4, hM_3, hM_2, hM_1]), Or.inr (by simp [up, Int.toNat, hM_58, hM_57, hM_56, hM_55, hM_54, hM_53, hM_52, hM_51, hM_50, hM_49, hM_48, hM_47, hM_46, hM_45, hM_44, hM_43, hM_42, hM_41, hM_40, hM_39, hM_38, hM_37, hM_36, hM_35, hM_34, hM_33, hM_32, hM_31, hM_30, hM_29, hM_28, hM_27, hM_26, hM_25, hM_24, hM_23, hM_22, hM_21, hM_20, hM_19, hM_18, hM_17, hM_16, hM_15, hM_14, hM_13, hM_12, hM_11, hM_10, hM_9, hM_8, hM_7, hM_6, hM_5, hM_4, hM_3, hM_2, hM_1]), Or.inr (by simp [up, Int.toNat, hM_58, hM_57, hM_56, hM_55, hM_54, hM_53, hM_52, hM_51, hM_50, hM_49, hM_48, hM_47, hM_46, hM_45, hM_44, hM_43, hM_42, hM_41, hM_40, hM_39, hM_38, hM_37, hM_36, hM_35, hM_34, hM_33, hM_32, hM_31, hM_30, hM_29, hM_28, hM_27, hM_26, hM_25, hM_24, hM_23, hM_22, hM_21, hM_20, hM_19, hM_18, hM_17, hM_16, hM_15, hM_14, hM_13, hM_12, hM_11, hM_10, hM_9, hM_8, hM_7, hM_6, hM_5, hM_4, hM_3, hM_2, hM_1]), Or.inr (by simp [up, Int.toNat, hM_58, hM_57, hM_56, hM_55, hM_54, hM_53, hM_52, hM_51, hM_50, hM_49, hM_48, hM_47, hM_46, hM_45, hM_44, hM_43, hM_42, hM_41, hM_40, hM_39, hM_38, hM_37, hM_36, hM_35, hM_34, hM_33, hM_32, hM_31, hM_30, hM_29, hM_28, hM_27, hM_26, hM_25, hM_24, hM_23, hM_22, hM_21, hM_20, hM_19, hM_18, hM_17, hM_16, hM_15, hM_14, hM_13, hM_12, hM_11, hM_10, hM_9, hM_8, hM_7, hM_6, hM_5, hM_4, hM_3, hM_2, hM_1]), Or.inr (by simp [up, Int.toNat, hM_58, hM_57, hM_56, hM_55, hM_54, hM_53, hM_52, hM_51, hM_50, hM_49, hM_48, hM_47, hM_46, hM_45, hM_44, hM_43, hM_42, hM_41, hM_40, hM_39, hM_38, hM_37, hM_36, hM_35, hM_34, hM_33, hM_32, hM_31, hM_30, hM_29, hM_28, hM_27, hM_26, hM_25, hM_24, hM_23, hM_22, hM_21, hM_20, hM_19, hM_18, hM_17, hM_16, hM_15, hM_14, hM_13, hM_12, hM_11, hM_10, hM_9, hM_8, hM_7, hM_6, hM_5, hM_4, hM_3, hM_2, hM_1]), Or.inr (by simp [up, Int.toNat, hM_58, hM_57, hM_56, hM_55, hM_54, hM_53, hM_52, hM_51, hM_50, hM_49, hM_48, hM_47, hM_46, hM_45, hM_44, hM_43, hM_42, hM_41, hM_40, hM_39, hM_38, hM_37, hM_36, hM_35, hM_34, hM_33, hM_32, hM_31, hM_30, hM_29, hM_28, hM_27, hM_26, hM_25, hM_24, hM_23, hM_22, hM_21, hM_20, hM_19, hM_18, hM_17, hM_16, hM_15, hM_14, hM_13, hM_12, hM_11, hM_10, hM_9, hM_8, hM_7, hM_6, hM_5, hM_4, hM_3, hM_2, hM_1]), Or.inr (by simp [up, Int.toNat, hM_58, hM_57, hM_56, hM_55, hM_54, hM_53, hM_52, hM_51, hM_50, hM_49, hM_48, hM_47, hM_46, hM_45, hM_44, hM_43, hM_42, hM_41, hM_40, hM_39, hM_38, hM_37, hM_36, hM_35, hM_34, hM_33, hM_32, hM_31, hM_30, hM_29, hM_28, hM_27, hM_26, hM_25, hM_24, hM_23, hM_22, hM_21, hM_20, hM_19, hM_18, hM_17, hM_16, hM_15, hM_14, hM_13, hM_12, hM_11, hM_10, hM_9, hM_8, hM_7, hM_6, hM_5, hM_4, hM_3, hM_2, hM_1]), Or.inr (by simp [up, Int.toNat, hM_58, hM_57, hM_56, hM_55, hM_54, hM_53, hM_52, hM_51, hM_50, hM_49, hM_48, hM_47, hM_46, hM_45, hM_44, hM_43, hM_42, hM_41, hM_40, hM_39, hM_38, hM_37, hM_36, hM_35, hM_34, hM_33, hM_32, hM_31, hM_30, hM_29, hM_28, hM_27, hM_26, hM_25, hM_24, hM_23, hM_22, hM_21, hM_20, hM_19, hM_18, hM_17, hM_16, hM_15, hM_14, hM_13, hM_12, hM_11, hM_10, hM_9, hM_8, hM_7, hM_6, hM_5, hM_4, hM_3, hM_2, hM_1]), Or.inr (by simp [up, Int.toNat, hM_58, hM_57, hM_56, hM_55, hM_54, hM_53, hM_52, hM_51, hM_50, hM_49, hM_48, hM_47, hM_46, hM_45, hM_44, hM_43, hM_42, hM_41, hM_40, hM_39, hM_38, hM_37, hM_36, hM_35, hM_34, hM_33, hM_32, hM_31, hM_30, hM_29, hM_28, hM_27, hM_26, hM_25, hM_24, hM_23, hM_22, hM_21, hM_20, hM_19, hM_18, hM_17, hM_16, hM_15, hM_14, hM_13, hM_12, hM_11, hM_10, hM_9, hM_8, hM_7, hM_6, hM_5, hM_4, hM_3, hM_2, hM_1]), Or.inr (by simp [up, Int.toNat, hM_58, hM_57, hM_56, hM_55, hM_54, hM_53, hM_52, hM_51, hM_50, hM_49, hM_48, hM_47, hM_46, hM_45, hM_44, hM_43, hM_42, hM_41, hM_40, hM_39, hM_38, hM_37, hM_36, hM_35, hM_34, hM_33, hM_32, hM_31, hM_30, hM_29, hM_28, hM_27, hM_26, hM_25, hM_24, hM_23, hM_22, hM_21, hM_20, hM_19, hM_18, hM_17, hM_16, hM_15, hM_14, hM_13, hM_12, hM_11, hM_10, hM_9, hM_8, hM_7, hM_6, hM_5, hM_4, hM_3, hM_2, hM_1]), Or.inr (by simp [up, Int.toNat, hM_58, hM_57, hM_56, hM_55, hM_54, hM_53, hM_52, hM_51, hM_50, hM_49, hM_48, hM_47, hM_46, hM_45, hM_44, hM_43, hM_42, hM_41, hM_40, hM_39, hM_38, hM_37, hM_36, hM_35, hM_34, hM_33, hM_32, hM_31, hM_30, hM_29, hM_28, hM_27, hM_26, hM_25, hM_24, hM_23, hM_22, hM_21, hM_20, hM_19, hM_18, hM_17, hM_16, hM_15, hM_14, hM_13, hM_12, hM_11, hM_10, hM_9, hM_8, hM_7, hM_6, hM_5, hM_4, hM_3, hM_2, hM_1]), Or.inl rfl, Or.inl rfl, Or.inl rfl, Or.inl rfl, Or.inl rfl, Or.inl rfl, Or.inl rfl, Or.inl rfl, Or.inr (by simp [up, Int.toNat, hM_58, hM_57, hM_56, hM_55, hM_54, hM_53, hM_52, hM_51, hM_50, hM_49, hM_48, hM_47, hM_46, hM_45, hM_44, hM_43, hM_42, hM_41, hM_40, hM_39, hM_38, hM_37, hM_36, hM_35, hM_34, hM_33, hM_32, hM_31, hM_30, hM_29, hM_28, hM_27, hM_26, hM_25, hM_24, hM_23, hM_22, hM_21, hM_20, hM_19, hM_18, hM_17, hM_16, hM_15, hM_14, hM_13, hM_12, hM_11, hM_10, hM_9, hM_8, hM_7, hM_6, hM_5, hM_4, hM_3, hM_2, hM_1]), Or.inr (by simp [up, Int.toNat, hM_58, hM_57, hM_56, hM_55, hM_54, hM_53, hM_52, hM_51, hM_50, hM_49, hM_48, hM_47, hM_46, hM_45, hM_44, hM_43, hM_42, hM_41, hM_40, hM_39, hM_38, hM_37, hM_36, hM_35, hM_34, hM_33, hM_32, hM_31, hM_30, hM_29, hM_28, hM_27, hM_26, hM_25, hM_24, hM_23, hM_22, hM_21, hM_20, hM_19, hM_18, hM_17, hM_16, hM_15, hM_14, hM_13, hM_12, hM_11, hM_10, hM_9, hM_8, hM_7, hM_6, hM_5, hM_4, hM_3, hM_2, hM_1]), Or.inr (by simp [up, Int.toNat, hM_58, hM_57, hM_56, hM_55, hM_54, hM_53, hM_52, hM_51, hM_50, hM_49, hM_48, hM_47, hM_46, hM_45, hM_44, hM_43, hM_42, hM_41, hM_40, hM_39, hM_38, hM_37, hM_36, hM_35, hM_34, hM_33, hM_32, hM_31, hM_30, hM_29, hM_28, hM_27, hM_26, hM_25, hM_24, hM_23, hM_22, hM_21, hM_20, hM_19, hM_18, hM_17, hM_16, hM_15, hM_14, hM_13, hM_12, hM_11, hM_10, hM_9, hM_8, hM_7, hM_6, hM_5, hM_4, hM_3, hM_2, hM_1]), Or.inr (by simp [up, Int.toNat, hM_58, hM_57, hM_56, hM_55, hM_54, hM_53, hM_52, hM_51, hM_50, hM_49, hM_48, hM_47, hM_46, hM_45, hM_44, hM_43, hM_42, hM_41, hM_40, hM_39, hM_38, hM_37, hM_36, hM_35, hM_34, hM_33, hM_32, hM_31, hM_30, hM_29, hM_28, hM_27, hM_26, hM_25, hM_24, hM_23, hM_22, hM_21, hM_20, hM_19, hM_18, hM_17, hM_16, hM_15, hM_14, hM_13, hM_12, hM_11, hM_10, hM_9, hM_8, hM_7, hM_6, hM_5, hM_4, hM_3, hM_2, hM_1]), Or.inr (by simp [up, Int.toNat, hM_58, hM_57, hM_56, hM_55, hM_54, hM_53, hM_52, hM_51, hM_50, hM_49, hM_48, hM_47, hM_46, hM_45, hM_44, hM_43, hM_42, hM_41, hM_40, hM_39, hM_38, hM_37, hM_36, hM_35, hM_34, hM_33, hM_32, hM_31, hM_30, hM_29, hM_28, hM_27, hM_26, hM_25, hM_24, hM_23, hM_22, hM_21, hM_20, hM_19, hM_18, hM_17, hM_16, hM_15, hM_14, hM_13, hM_12, hM_11, hM_10, hM_9, hM_8, hM_7, hM_6, hM_5, hM_4, hM_3, hM_2, hM_1]), Or.inr (by simp [up, Int.toNat, hM_58, hM_57, hM_56, hM_55, hM_54, hM_53, hM_52, hM_51, hM_50, hM_49, hM_48, hM_47, hM_46, hM_45, hM_44, hM_43, hM_42, hM_41, hM_40, hM_39, hM_38, hM_37, hM_36, hM_35, hM_34, hM_33, hM_32, hM_31, hM_30, hM_29, hM_28, hM_27, hM_26, hM_25, hM_24, hM_23, hM_22, hM_21, hM_20, hM_19, hM_18, hM_17, hM_16, hM_15, hM_14, hM_13, hM_12, hM_11, hM_10, hM_9, hM_8, hM_7, hM_6, hM_5, hM_4, hM_3, hM_2, hM_1]), Or.inr (by simp [up, Int.toNat, hM_58, hM_57, hM_56, hM_55, hM_54, hM_53, hM_52, hM_51, hM_50, hM_49, hM_48, hM_47, hM_46, hM_45, hM_44, hM_43, hM_42, hM_41, hM_40, hM_39, hM_38, hM_37, hM_36, hM_35, hM_34, hM_33, hM_32, hM_31, hM_30, hM_29, hM_28, hM_27, hM_26, hM_25, hM_24, hM_23, hM_22, hM_21, hM_20, hM_19, hM_18, hM_17, hM_16, hM_15, hM_14, hM_13, hM_12, hM_11, hM_10, hM_9, hM_8, hM_7, hM_6, hM_5, hM_4, hM_3, hM_2, hM_1]), Or.inr (by simp [up, Int.toNat, hM_58, hM_57, hM_56, hM_55, hM_54, hM_53, hM_52, hM_51, hM_50, hM_49, hM_48, hM_47, hM_46, hM_45, hM_44, hM_43, hM_42, hM_41, hM_40, hM_39, hM_38, hM_37, hM_36, hM_35, hM_34, hM_33, hM_32, hM_31, hM_30, hM_29, hM_28, hM_27, hM_26, hM_25, hM_24, hM_23, hM_22, hM_21, hM_20, hM_19, hM_18, hM_17, hM_16, hM_15, hM_14, hM_13, hM_12, hM_11, hM_10, hM_9, hM_8, hM_7, hM_6, hM_5, hM_4, hM_3, hM_2, hM_1]), Or.inr (by simp [up, Int.toNat, hM_58, hM_57, hM_56, hM_55, hM_54, hM_53, hM_52, hM_51, hM_50, hM_49, hM_48, hM_47, hM_46, hM_45, hM_44, hM_43, hM_42, hM_41, hM_40, hM_39, hM_38, hM_37, hM_36, hM_35, hM_34, hM_33, hM_32, hM_31, hM_30, hM_29, hM_28, hM_27, hM_26, hM_25, hM_24, hM_23, hM_22, hM_21, hM_20, hM_19, hM_18, hM_17, hM_16, hM_15, hM_14, hM_13, hM_12, hM_11, hM_10, hM_9, hM_8, hM_7, hM_6, hM_5, hM_4, hM_3, hM_2, hM_1]), Or.inr (by simp [up, Int.toNat, hM_58, hM_57, hM_56, hM_55, hM_54, hM_53, hM_52, hM_51, hM_50, hM_49, hM_48, hM_47, hM_46, hM_45, hM_44, hM_43, hM_42, hM_41, hM_40, hM_39, hM_38, hM_37, hM_36, hM_35, hM_34, hM_33, hM_32, hM_31, hM_30, hM_29, hM_28, hM_27, hM_26, hM_25, hM_24, hM_23, hM_22, hM_21, hM_20, hM_19, hM_18, hM_17, hM_16, hM_15, hM_14, hM_13, hM_12, hM_11, hM_10, hM_9, hM_8, hM_7, hM_6, hM_5, hM_4, hM_3, hM_2, hM_1]), Or.inr (by simp [up, Int.toNat, hM_58, hM_57, hM_56, hM_55, hM_54, hM_53, hM_52, hM_51, hM_50, hM_49, hM_48, hM_47, hM_46, hM_45, hM_44, hM_43, hM_42, hM_41, hM_40, hM_39, hM_38, hM_37, hM_36, hM_35, hM_34, hM_33, hM_32, hM_31, hM_30, hM_29, hM_28, hM_27, hM_26, hM_25, hM_24, hM_23, hM_22, hM_21, hM_20, hM_19, hM_18, hM_17, hM_16, hM_15, hM_14, hM_13, hM_12, hM_11, hM_10, hM_9, hM_8, hM_7, hM_6, hM_5, hM_4, hM_3, hM_2, hM_1]), Or.inl rfl, Or.inl rfl, Or.inr (by simp [up, Int.toNat, hM_58, hM_57, hM_56, hM_55, hM_54, hM_53, hM_52, hM_51, hM_50, hM_49, hM_48, hM_47, hM_46, hM_45, hM_44, hM_43, hM_42, hM_41, hM_40, hM_39, hM_38, hM_37, hM_36, hM_35, hM_34, hM_33, hM_32, hM_31, hM_30, hM_29, hM_28, hM_27, hM_26, hM_25, hM_24, hM_23, hM_22, hM_21, hM_20, hM_19, hM_18, hM_17, hM_16, hM_15, hM_14, hM_13, hM_12, hM_11, hM_10, hM_9, hM_8, hM_7, hM_6, hM_5, hM_4, hM_3, hM_2, hM_1]), Or.inl rfl, Or.inr (by simp [up, Int.toNat, hM_58, hM_57, hM_56, hM_55, hM_54, hM_53, hM_52, hM_51, hM_50, hM_49, hM_48, hM_47, hM_46, hM_45, hM_44, hM_43, hM_42, hM_41, hM_40, hM_39, hM_38, hM_37, hM_36, hM_35, hM_34, hM_33, hM_32, hM_31, hM_30, hM_29, hM_28, hM_27, hM_26, hM_25, hM_24, hM_23, hM_22, hM_21, hM_20, hM_19, hM_18, hM_17, hM_16, hM_15, hM_14, hM_13, hM_12, hM_11, hM_10, hM_9, hM_8, hM_7, hM_6, hM_5, hM_4, hM_3, hM_2, hM_1]), Or.inr (by simp [up, Int.toNat, hM_58, hM_57, hM_56, hM_55, hM_54, hM_53, hM_52, hM_51, hM_50, hM_49, hM_48, hM_47, hM_46, hM_45, hM_44, hM_43, hM_42, hM_41, hM_40, hM_39, hM_38, hM_37, hM_36, hM_35, hM_34, hM_33, hM_32, hM_31, hM_30, hM_29, hM_28, hM_27, hM_26, hM_25, hM_24, hM_23, hM_22, hM_21, hM_20, hM_19, hM_18, hM_17, hM_16, hM_15, hM_14, hM_13, hM_12, hM_11, hM_10, hM_9, hM_8, hM_7, hM_6, hM_5, hM_4, hM_3, hM_2, hM_1]), Or.inr (by simp [up, Int.toNat, hM_58, hM_57, hM_56, hM_55, hM_54, hM_53, hM_52, hM_51, hM_50, hM_49, hM_48, hM_47, hM_46, hM_45, hM_44, hM_43, hM_42, hM_41, hM_40, hM_39, hM_38, hM_37, hM_36, hM_35, hM_34, hM_33, hM_32, hM_31, hM_30, hM_29, hM_28, hM_27, hM_26, hM_25, hM_24, hM_23, hM_22, hM_21, hM_20, hM_19, hM_18, hM_17, hM_16, hM_15, hM_14, hM_13, hM_12, hM_11, hM_10, hM_9, hM_8, hM_7, hM_6, hM_5, hM_4, hM_3, hM_2, hM_1]), Or.inr (by simp [up, Int.toNat, hM_58, hM_57, hM_56, hM_55, hM_54, hM_53, hM_52, hM_51, hM_50, hM_49, hM_48, hM_47, hM_46, hM_45, hM_44, hM_43, hM_42, hM_41, hM_40, hM_39, hM_38, hM_37, hM_36, hM_35, hM_34, hM_33, hM_32, hM_31, hM_30, hM_29, hM_28, hM_27, hM_26, hM_25, hM_24, hM_23, hM_22, hM_21, hM_20, hM_19, hM_18, hM_17, hM_16, hM_15, hM_14, hM_13, hM_12, hM_11, hM_10, hM_9, hM_8, hM_7, hM_6, hM_5, hM_4, hM_3, hM_2, hM_1]), Or.inr (by simp [up, Int.toNat, hM_58, hM_57, hM_56, hM_55, hM_54, hM_53, hM_52, hM_51, hM_50, hM_49, hM_48, hM_47, hM_46, hM_45, hM_44, hM_43, hM_42, hM_41, hM_40, hM_39, hM_38, hM_37, hM_36, hM_35, hM_34, hM_33, hM_32, hM_31, hM_30, hM_29, hM_28, hM_27, hM_26, hM_25, hM_24, hM_23, hM_22, hM_21, hM_20, hM_19, hM_18, hM_17, hM_16, hM_15, hM_14, hM_13, hM_12, hM_11, hM_10, hM_9, hM_8, hM_7, hM_6, hM_5, hM_4, hM_3, hM_2, hM_1]), Or.inr (by simp [up, Int.toNat, hM_58, hM_57, hM_56, hM_55, hM_54, hM_53, hM_52, hM_51, hM_50, hM_49, hM_48, hM_47, hM_46, hM_45, hM_44, hM_43, hM_42, hM_41, hM_40, hM_39, hM_38, hM_37, hM_36, hM_35, hM_34, hM_33, hM_32, hM_31, hM_30, hM_29, hM_28, hM_27, hM_26, hM_25, hM_24, hM_23, hM_22, hM_21, hM_20, hM_19, hM_18, hM_17, hM_16, hM_15, hM_14, hM_13, hM_12, hM_11, hM_10, hM_9, hM_8, hM_7, hM_6, hM_5, hM_4, hM_3, hM_2, hM_1]), Or.inr (by simp [up, Int.toNat, hM_58, hM_57, hM_56, hM_55, hM_54, hM_53, hM_52, hM_51, hM_50, hM_49, hM_48, hM_47, hM_46, hM_45, hM_44, hM_43, hM_42, hM_41, hM_40, hM_39, hM_38, hM_37, hM_36, hM_35, hM_34, hM_33, hM_32, hM_31, hM_30, hM_29, hM_28, hM_27, hM_26, hM_25, hM_24, hM_23, hM_22, hM_21, hM_20, hM_19, hM_18, hM_17, hM_16, hM_15, hM_14, hM_13, hM_12, hM_11, hM_10, hM_9, hM_8, hM_7, hM_6, hM_5, hM_4, hM_3, hM_2, hM_1]), Or.inr (by simp [up, Int.toNat, hM_58, hM_57, hM_56, hM_55, hM_54, hM_53, hM_52, hM_51, hM_50, hM_49, hM_48, hM_47, hM_46, hM_45, hM_44, hM_43, hM_42, hM_41, hM_40, hM_39, hM_38, hM_37, hM_36, hM_35, hM_34, hM_33, hM_32, hM_31, hM_30, hM_29, hM_28, hM_27, hM_26, hM_25, hM_24, hM_23, hM_22, hM_21, hM_20, hM_19, hM_18, hM_17, hM_16, hM_15, hM_14, hM_13, hM_12, hM_11, hM_10, hM_9, hM_8, hM_7, hM_6, hM_5, hM_4, hM_3, hM_2, hM_1]), Or.inr (by simp [up, Int.toNat, hM_58, hM_57, hM_56, hM_55, hM_54, hM_53, hM_52, hM_51, hM_50, hM_49, hM_48, hM_47, hM_46, hM_45, hM_44, hM_43, hM_42, hM_41, hM_40, hM_39, hM_38, hM_37, hM_36, hM_35, hM_34, hM_33, hM_32, hM_31, hM_30, hM_29, hM_28, hM_27, hM_26, hM_25, hM_24, hM_23, hM_22, hM_21, hM_20, hM_19, hM_18, hM_17, hM_16, hM_15, hM_14, hM_13, hM_12, hM_11, hM_10, hM_9, hM_8, hM_7, hM_6, hM_5, hM_4, hM_3, hM_2, hM_1]), Or.inl rfl, Or.inr (by simp [up, Int.toNat, hM_58, hM_57, hM_56, hM_55, hM_54, hM_53, hM_52, hM_51, hM_50, hM_49, hM_48, hM_47, hM_46, hM_45, hM_44, hM_43, hM_42, hM_41, hM_40, hM_39, hM_38, hM_37, hM_36, hM_35, hM_34, hM_33, hM_32, hM_31, hM_30, hM_29, hM_28, hM_27, hM_26, hM_25, hM_24, hM_23, hM_22, hM_21, hM_20, hM_19, hM_18, hM_17, hM_16, hM_15, hM_14, hM_13, hM_12, hM_11, hM_10, hM_9, hM_8, hM_7, hM_6, hM_5, hM_4, hM_3, hM_2, hM_1]), Or.inr (by simp [up, Int.toNat, hM_58, hM_57, hM_56, hM_55, hM_54, hM_53, hM_52, hM_51, hM_50, hM_49, hM_48, hM_47, hM_46, hM_45, hM_44, hM_43, hM_42, hM_41, hM_40, hM_39, hM_38, hM_37, hM_36, hM_35, hM_34, hM_33, hM_32, hM_31, hM_30, hM_29, hM_28, hM_27, hM_26, hM_25, hM_24, hM_23, hM_22, hM_21, hM_20, hM_19, hM_18, hM_17, hM_16, hM_15, hM_14, hM_13, hM_12, hM_11, hM_10, hM_9, hM_8, hM_7, hM_6, hM_5, hM_4, hM_3, hM_2, hM_1]), Or.inr (by simp [up, Int.toNat, hM_58, hM_57, hM_56, hM_55, hM_54, hM_53, hM_52, hM_51, hM_50, hM_49, hM_48, hM_47, hM_46, hM_45, hM_44, hM_43, hM_42, hM_41, hM_40, hM_39, hM_38, hM_37, hM_36, hM_35, hM_34, hM_33, hM_32, hM_31, hM_30, hM_29, hM_28, hM_27, hM_26, hM_25, hM_24, hM_23, hM_22, hM_21, hM_20, hM_19, hM_18, hM_17, hM_16, hM_15, hM_14, hM_13, hM_12, hM_11, hM_10, hM_9, hM_8, hM_7, hM_6, hM_5, hM_4, hM_3, hM_2, hM_1]), Or.inr (by simp [up, Int.toNat, hM_58, hM_57, hM_56, hM_55, hM_54, hM_53, hM_52, hM_51, hM_50, hM_49, hM_48, hM_47, hM_46, hM_45, hM_44, hM_43, hM_42, hM_41, hM_40, hM_39, hM_38, hM_37, hM_36, hM_35, hM_34, hM_33, hM_32, hM_31, hM_30, hM_29, hM_28, hM_27, hM_26, hM_25, hM_24, hM_23, hM_22, hM_21, hM_20, hM_19, hM_18, hM_17, hM_16, hM_15, hM_14, hM_13, hM_12, hM_11, hM_10, hM_9, hM_8, hM_7, hM_6, hM_5, hM_4, hM_3, hM_2, hM_1]), Or.inr (by simp [up, Int.toNat, hM_58, hM_57, hM_56, hM_55, hM_54, hM_53, hM_52, hM_51, hM_50, hM_49, hM_48, hM_47, hM_46, hM_45, hM_44, hM_43, hM_42, hM_41, hM_40, hM_39, hM_38, hM_37, hM_36, hM_35, hM_34, hM_33, hM_32, hM_31, hM_30, hM_29, hM_28, hM_27, hM_26, hM_25, hM_24, hM_23, hM_22, hM_21, hM_20, hM_19, hM_18, hM_17, hM_16, hM_15, hM_14, hM_13, hM_12, hM_11, hM_10, hM_9, hM_8, hM_7, hM_6, hM_5, hM_4, hM_3, hM_2, hM_1]), Or.inr (by simp [up, Int.toNat, hM_58, hM_57, hM_56, hM_55, hM_54, hM_53, hM_52, hM_51, hM_50, hM_49, hM_48, hM_47, hM_46, hM_45, hM_44, hM_43, hM_42, hM_41, hM_40, hM_39, hM_38, hM_37, hM_36, hM_35, hM_34, hM_33, hM_32, hM_31, hM_30, hM_29, hM_28, hM_27, hM_26, hM_25, hM_24, hM_23, hM_22, hM_21, hM_20, hM_19, hM_18, hM_17, hM_16, hM_15, hM_14, hM_13, hM_12, hM_11, hM_10, hM_9, hM_8, hM_7, hM_6, hM_5, hM_4, hM_3, hM_2, hM_1]), Or.inr (by simp [up, Int.toNat, hM_58, hM_57, hM_56, hM_55, hM_54, hM_53, hM_52, hM_51, hM_50, hM_49, hM_48, hM_47, hM_46, hM_45, hM_44, hM_43, hM_42, hM_41, hM_40, hM_39, hM_38, hM_37, hM_36, hM_35, hM_34, hM_33, hM_32, hM_31, hM_30, hM_29, hM_28, hM_27, hM_26, hM_25, hM_24, hM_23, hM_22, hM_21, hM_20, hM_19, hM_18, hM_17, hM_16, hM_15, hM_14, hM_13, hM_12, hM_11, hM_10, hM_9, hM_8, hM_7, hM_6, hM_5, hM_4, hM_3, hM_2, hM_1]), trivial⟩
  · exact ⟨Or.inr (by simp [up, Int.toNat, hM_58, hM_57, hM_56, hM_55, hM_54, hM_53, hM_52, hM_51, hM_50, hM_49, hM_48, hM_47, hM_46, hM_45, hM_44, hM_43, hM_42, hM_41, hM_40, hM_39, hM_38, hM_37, hM_36, hM_35, hM_34, hM_33, hM_32, hM_31, hM_30, hM_29, hM_28, hM_27, hM_26, hM_25, hM_24, hM_23, hM_22, hM_21, hM_20, hM_19, hM_18, hM_17, hM_16, hM_15, hM_14, hM_13, hM_12, hM_11, hM_10, hM_9, hM_8, hM_7, hM_6, hM_5, hM_4, hM_3, hM_2, hM_1]), Or.inr (by simp [up, Int.toNat, hM_58, hM_57, hM_56, hM_55, hM_54, hM_53, hM_52, hM_51, hM_50, hM_49, hM_48, hM_47, hM_46, hM_45, hM_44, hM_43, hM_42, hM_41, hM_40, hM_39, hM_38, hM_37, hM_36, hM_35, hM_34, hM_33, hM_32, hM_31, hM_30, hM_29, hM_28, hM_27, hM_26, hM_25, hM_24, hM_23, hM_22, hM_21, hM_20, hM_19, hM_18, hM_17, hM_16, hM_15, hM_14, hM_13, hM_12, hM_11, hM_10, hM_9, hM_8, hM_7, hM_6, hM_5, hM_4, hM_3, hM_2, hM_1]), Or.inl rfl, Or.inl rfl, Or.inl rfl, Or.inl rfl, Or.inl rfl, Or.inl rfl, Or.inl rfl, Or.inl rfl, Or.inl rfl, Or.inr (by simp [up, Int.toNat, hM_58, hM_57, hM_56, hM_55, hM_54, hM_53, hM_52, hM_51, hM_50, hM_49, hM_48, hM_47, hM_46, hM_45, hM_44, hM_43, hM_42, hM_41, hM_40, hM_39, hM_38, hM_37, hM_36, hM_35, hM_34, hM_33, hM_32, hM_31, hM_30, hM_29, hM_28, hM_27, hM_26, hM_25, hM_24, hM_23, hM_22, hM_21, hM_20, hM_19, hM_18, hM_17, hM_16, hM_15, hM_14, hM_13, hM_12, hM_11, hM_10, hM_9, hM_8, hM_7, hM_6, hM_5, hM_4, hM_3, hM_2, hM_1]), Or.inr (by simp [up, Int.toNat, hM_58, hM_57, hM_56, hM_55, hM_54, hM_53, hM_52, hM_51, hM_50, hM_49, hM_48, hM_47, hM_46, hM_45, hM_44, hM_43, hM_42, hM_41, hM_40, hM_39, hM_38, hM_37, hM_36, hM_35, hM_34, hM_33, hM_32, hM_31, hM_30, hM_29, hM_28, hM_27, hM_26, hM_25, hM_24, hM_23, hM_22, hM_21, hM_20, hM_19, hM_18, hM_17, hM_16, hM_15, hM_14, hM_13, hM_12, hM_11, hM_10, hM_9, hM_8, hM_7, hM_6, hM_5, hM_4, hM_3, hM_2, hM_1]), Or.inr (by simp [up, Int.toNat, hM_58, hM_57, hM_56, hM_55, hM_54, hM_53, hM_52, hM_51, hM_50, hM_49, hM_48, hM_47, hM_46, hM_45, hM_44, hM_43, hM_42, hM_41, hM_40, hM_39, hM_38, hM_37, hM_36, hM_35, hM_34, hM_33, hM_32, hM_31, hM_30, hM_29, hM_28, hM_27, hM_26, hM_25, hM_24, hM_23, hM_22, hM_21, hM_20, hM_19, hM_18, hM_17, hM_16, hM_15, hM_14, hM_13, hM_12, hM_11, hM_10, hM_9, hM_8, hM_7, hM_6, hM_5, hM_4, hM_3, hM_2, hM_1]), Or.inr (by simp [up, Int.toNat, hM_58, hM_57, hM_56, hM_55, hM_54, hM_53, hM_52, hM_51, hM_50, hM_49, hM_48, hM_47, hM_46, hM_45, hM_44, hM_43, hM_42, hM_41, hM_40, hM_39, hM_38, hM_37, hM_36, hM_35, hM_34, hM_33, hM_32, hM_31, hM_30, hM_29, hM_28, hM_27, hM_26, hM_25, hM_24, hM_23, hM_22, hM_21, hM_20, hM_19, hM_18, hM_17, hM_16, hM_15, hM_14, hM_13, hM_12, hM_11, hM_10, hM_9, hM_8, hM_7, hM_6, hM_5, hM_4, hM_3, hM_2, hM_1]), Or.inr (by simp [up, Int.toNat, hM_58, hM_57, hM_56, hM_55, hM_54, hM_53, hM_52, hM_51, hM_50, hM_49, hM_48, hM_47, hM_46, hM_45, hM_44, hM_43, hM_42, hM_41, hM_40, hM_39, hM_38, hM_37, hM_36, hM_35, hM_34, hM_33, hM_32, hM_31, hM_30, hM_29, hM_28, hM_27, hM_26, hM_25, hM_24, hM_23, hM_22, hM_21, hM_20, hM_19, hM_18, hM_17, hM_16, hM_15, hM_14, hM_13, hM_12, hM_11, hM_10, hM_9, hM_8, hM_7, hM_6, hM_5, hM_4, hM_3, hM_2, hM_1]), Or.inr (by simp [up, Int.toNat, hM_58, hM_57, hM_56, hM_55, hM_54, hM_53, hM_52, hM_51, hM_50, hM_49, hM_48, hM_47, hM_46, hM_45, hM_44, hM_43, hM_42, hM_41, hM_40, hM_39, hM_38, hM_37, hM_36, hM_35, hM_34, hM_33, hM_32, hM_31, hM_30, hM_29, hM_28, hM_27, hM_26, hM_25, hM_24, hM_23, hM_22, hM_21, hM_20, hM_19, hM_18, hM_17, hM_16, hM_15, hM_14, hM_13, hM_12, hM_11, hM_10, hM_9, hM_8, hM_7, hM_6, hM_5, hM_4, hM_3, hM_2, hM_1]), Or.inr (by simp [up, Int.toNat, hM_58, hM_57, hM_56, hM_55, hM_54, hM_53, hM_52, hM_51, hM_50, hM_49, hM_48, hM_47, hM_46, hM_45, hM_44, hM_43, hM_42, hM_41, hM_40, hM_39, hM_38, hM_37, hM_36, hM_35, hM_34, hM_33, hM_32, hM_31, hM_30, hM_29, hM_28, hM_27, hM_26, hM_25, hM_24, hM_23, hM_22, hM_21, hM_20, hM_19, hM_18, hM_17, hM_16, hM_15, hM_14, hM_13, hM_12, hM_11, hM_10, hM_9, hM_8, hM_7, hM_6, hM_5, hM_4, hM_3, hM_2, hM_1]), Or.inr (by simp [up, Int.toNat, hM_58, hM_57, hM_56, hM_55, hM_54, hM_53, hM_52, hM_51, hM_50, hM_49, hM_48, hM_47, hM_46, hM_45, hM_44, hM_43, hM_42, hM_41, hM_40, hM_39, hM_38, hM_37, hM_36, hM_35, hM_34, hM_33, hM_32, hM_31, hM_30, hM_29, hM_28, hM_27, hM_26, hM_25, hM_24, hM_23, hM_22, hM_21, hM_20, hM_19, hM_18, hM_17, hM_16, hM_15, hM_14, hM_13, hM_12, hM_11, hM_10, hM_9, hM_8, hM_7, hM_6, hM_5, hM_4, hM_3, hM_2, hM_1]), Or.inr (by simp [up, Int.toNat, hM_58, hM_57, hM_56, hM_55, hM_54, hM_53, hM_52, hM_51, hM_50, hM_49, hM_48, hM_47, hM_46, hM_45, hM_44, hM_43, hM_42, hM_41, hM_40, hM_39, hM_38, hM_37, hM_36, hM_35, hM_34, hM_33, hM_32, hM_31, hM_30, hM_29, hM_28, hM_27, hM_26, hM_25, hM_24, hM_23, hM_22, hM_21, hM_20, hM_19, hM_18, hM_17, hM_16, hM_15, hM_14, hM_13, hM_12, hM_11, hM_10, hM_9, hM_8, hM_7, hM_6, hM_5, hM_4, hM_3, hM_2, hM_1]), Or.inr (by simp [up, Int.toNat, hM_58, hM_57, hM_56, hM_55, hM_54, hM_53, hM_52, hM_51, hM_50, hM_49, hM_48, hM_47, hM_46, hM_45, hM_44, hM_43, hM_42, hM_41, hM_40, hM_39, hM_38, hM_37, hM_36, hM_35, hM_34, hM_33, hM_32, hM_31, hM_30, hM_29, hM_28, hM_27, hM_26, hM_25, hM_24, hM_23, hM_22, hM_21, hM_20, hM_19, hM_18, hM_17, hM_16, hM_15, hM_14, hM_13, hM_12, hM_11, hM_10, hM_9, hM_8, hM_7, hM_6, hM_5, hM_4, hM_3, hM_2, hM_1]), Or.inr (by simp [up, Int.toNat, hM_58, hM_57, hM_56, hM_55, hM_54, hM_53, hM_52, hM_51, hM_50, hM_49, hM_48, hM_47, hM_46, hM_45, hM_44, hM_43, hM_42, hM_41, hM_40, hM_39, hM_38, hM_37, hM_36, hM_35, hM_34, hM_33, hM_32, hM_31, hM_30, hM_29, hM_28, hM_27, hM_26, hM_25, hM_24, hM_23, hM_22, hM_21, hM_20, hM_19, hM_18, hM_17, hM_16, hM_15, hM_14, hM_13, hM_12, hM_11, hM_10, hM_9, hM_8, hM_7, hM_6, hM_5, hM_4, hM_3, hM_2, hM_1]), Or.inr (by simp [up, Int.toNat, hM_58, hM_57, hM_56, hM_55, hM_54, hM_53, hM_52, hM_51, hM_50, hM_49, hM_48, hM_47, hM_46, hM_45, hM_44, hM_43, hM_42, hM_41, hM_40, hM_39, hM_38, hM_37, hM_36, hM_35, hM_34, hM_33, hM_32, hM_31, hM_30, hM_29, hM_28, hM_27, hM_26, hM_25, hM_24, hM_23, hM_22, hM_21, hM_20, hM_19, hM_18, hM_17, hM_16, hM_15, hM_14, hM_13, hM_12, hM_11, hM_10, hM_9, hM_8, hM_7, hM_6, hM_5, hM_4, hM_3, hM_2, hM_1]), Or.inr (by simp [up, Int.toNat, hM_58, hM_57, hM_56, hM_55, hM_54, hM_53, hM_52, hM_51, hM_50, hM_49, hM_48, hM_47, hM_46, hM_45, hM_44, hM_43, hM_42, hM_41, hM_40, hM_39, hM_38, hM_37, hM_36, hM_35, hM_34, hM_33, hM_32, hM_31, hM_30, hM_29, hM_28, hM_27, hM_26, hM_25, hM_24, hM_23, hM_22, hM_21, hM_20, hM_19, hM_18, hM_17, hM_16, hM_15, hM_14, hM_13, hM_12, hM_11, hM_10, hM_9, hM_8, hM_7, hM_6, hM_5, hM_4, hM_3, hM_2, hM_1]), Or.inr (by simp [up, Int.toNat, hM_58, hM_57, hM_56, hM_55, hM_54, hM_53, hM_52, hM_51, hM_50, hM_49, hM_48, hM_47, hM_46, hM_45, hM_44, hM_43, hM_42, hM_41, hM_40, hM_39, hM_38, hM_37, hM_36, hM_35, hM_34, hM_33, hM_32, hM_31, hM_30, hM_29, hM_28, hM_27, hM_26, hM_25, hM_24, hM_23, hM_22, hM_21, hM_20, hM_19, hM_18, hM_17, hM_16, hM_15, hM_14, hM_13, hM_12, hM_11, hM_10, hM_9, hM_8, hM_7, hM_6, hM_5, hM_4, hM_3, hM_2, hM_1]), Or.inr (by simp [up, Int.toNat, hM_58, hM_57, hM_56, hM_55, hM_54, hM_53, hM_52, hM_51, hM_50, hM_49, hM_48, hM_47, hM_46, hM_45, hM_44, hM_43, hM_42, hM_41, hM_40, hM_39, hM_38, hM_37, hM_36, hM_35, hM_34, hM_33, hM_32, hM_31, hM_30, hM_29, hM_28, hM_27, hM_26, hM_25, hM_24, hM_23, hM_22, hM_21, hM_20, hM_19, hM_18, hM_17, hM_16, hM_15, hM_14, hM_13, hM_12, hM_11, hM_10, hM_9, hM_8, hM_7, hM_6, hM_5, hM_4, hM_3, hM_2, hM_1]), Or.inr (by simp [up, Int.toNat, hM_58, hM_57, hM_56, hM_55, hM_54, hM_53, hM_52, hM_51, hM_50, hM_49, hM_48, hM_47, hM_46, hM_45, hM_44, hM_43, hM_42, hM_41, hM_40, hM_39, hM_38, hM_37, hM_36, hM_35, hM_34, hM_33, hM_32, hM_31, hM_30, hM_29, hM_28, hM_27, hM_26, hM_25, hM_24, hM_23, hM_22, hM_21, hM_20, hM_19, hM_18, hM_17, hM_16, hM_15, hM_14, hM_13, hM_12, hM_11, hM_10, hM_9, hM_8, hM_7, hM_6, hM_5, hM_4, hM_3, hM_2, hM_1]), Or.inr (by simp [up, Int.toNat, hM_58, hM_57, hM_56, hM_55, hM_54, hM_53, hM_52, hM_51, hM_50, hM_49, hM_48, hM_47, hM_46, hM_45, hM_44, hM_43, hM_42, hM_41, hM_40, hM_39, hM_38, hM_37, hM_36, hM_35, hM_34, hM_33, hM_32, hM_31, hM_30, hM_29, hM_28, hM_27, hM_26, hM_25, hM_24, hM_23, hM_22, hM_21, hM_20, hM_19, hM_18, hM_17, hM_16, hM_15, hM_14, hM_13, hM_12, hM_11, hM_10, hM_9, hM_8, hM_7, hM_6, hM_5, hM_4, hM_3, hM_2, hM_1]), Or.inr (by simp [up, Int.toNat, hM_58, hM_57, hM_56, hM_55, hM_54, hM_53, hM_52, hM_51, hM_50, hM_49, hM_48, hM_47, hM_46, hM_45, hM_44, hM_43, hM_42, hM_41, hM_40, hM_39, hM_38, hM_37, hM_36, hM_35, hM_34, hM_33, hM_32, hM_31, hM_30, hM_29, hM_28, hM_27, hM_26, hM_25, hM_24, hM_23, hM_22, hM_21, hM_20, hM_19, hM_18, hM_17, hM_16, hM_15, hM_14, hM_13, hM_12, hM_11, hM_10, hM_9, hM_8, hM_7, hM_6, hM_5, hM_4, hM_3, hM_2, hM_1]), Or.inr (by simp [up, Int.toNat, hM_58, hM_57, hM_56, hM_55, hM_54, hM_53, hM_52, hM_51, hM_50, hM_49, hM_48, hM_47, hM_46, hM_45, hM_44, hM_43, hM_42, hM_41, hM_40, hM_39, hM_38, hM_37, hM_36, hM_35, hM_34, hM_33, hM_32, hM_31, hM_30, hM_29, hM_28, hM_27, hM_26, hM_25, hM_24, hM_23, hM_22, hM_21, hM_20, hM_19, hM_18, hM_17, hM_16, hM_15, hM_14, hM_13, hM_12, hM_11, hM_10, hM_9, hM_8, hM_7, hM_6, hM_5, hM_4, hM_3, hM_2, hM_1]), Or.inr (by simp [up, Int.toNat, hM_58, hM_57, hM_56, hM_55, hM_54, hM_53, hM_52, hM_51, hM_50, hM_49, hM_48, hM_47, hM_46, hM_45, hM_44, hM_43, hM_42, hM_41, hM_40, hM_39, hM_38, hM_37, hM_36, hM_35, hM_34, hM_33, hM_32, hM_31, hM_30, hM_29, hM_28, hM_27, hM_26, hM_25, hM_24, hM_23, hM_22, hM_21, hM_20, hM_19, hM_18, hM_17, hM_16, hM_15, hM_14, hM_13, hM_12, hM_11, hM_10, hM_9, hM_8, hM_7, hM_6, hM_5, hM_4, hM_3, hM_2, hM_1]), Or.inr (by simp [up, Int.toNat, hM_58, hM_57, hM_56, hM_55, hM_54, hM_53, hM_52, hM_51, hM_50, hM_49, hM_48, hM_47, hM_46, hM_45, hM_44, hM_43, hM_42, hM_41, hM_40, hM_39, hM_38, hM_37, hM_36, hM_35, hM_34, hM_33, hM_32, hM_31, hM_30, hM_29, hM_28, hM_27, hM_26, hM_25, hM_24, hM_23, hM_22, hM_21, hM_20, hM_19, hM_18, hM_17, hM_16, hM_15, hM_14, hM_13, hM_12, hM_11, hM_10, hM_9, hM_8, hM_7, hM_6, hM_5, hM_4, hM_3, hM_2, hM_1]), Or.inr (by simp [up, Int.toNat, hM_58, hM_57, hM_56, hM_55, hM_54, hM_53, hM_52, hM_51, hM_50, hM_49, hM_48, hM_47, hM_46, hM_45, hM_44, hM_43, hM_42, hM_41, hM_40, hM_39, hM_38, hM_37, hM_36, hM_35, hM_34, hM_33, hM_32, hM_31, hM_30, hM_29, hM_28, hM_27, hM_26, hM_25, hM_24, hM_23, hM_22, hM_21, hM_20, hM_19, hM_18, hM_17, hM_16, hM_15, hM_14, hM_13, hM_12, hM_11, hM_10, hM_9, hM_8, hM_7, hM_6, hM_5, hM_4, hM_3, hM_2, hM_1]), Or.inr (by simp [up, Int.toNat, hM_58, hM_57, hM_56, hM_55, hM_54, hM_53, hM_52, hM_51, hM_50, hM_49, hM_48, hM_47, hM_46, hM_45, hM_44, hM_43, hM_42, hM_41, hM_40, hM_39, hM_38, hM_37, hM_36, hM_35, hM_34, hM_33, hM_32, hM_31, hM_30, hM_29, hM_28, hM_27, hM_26, hM_25, hM_24, hM_23, hM_22, hM_21, hM_20, hM_19, hM_18, hM_17, hM_16, hM_15, hM_14, hM_13, hM_12, hM_11, hM_10, hM_9, hM_8, hM_7, hM_6, hM_5, hM_4, hM_3, hM_2, hM_1]), Or.inr (by simp [up, Int.toNat, hM_58, hM_57, hM_56, hM_55, hM_54, hM_53, hM_52, hM_51, hM_50, hM_49, hM_48, hM_47, hM_46, hM_45, hM_44, hM_43, hM_42, hM_41, hM_40, hM_39, hM_38, hM_37, hM_36, hM_35, hM_34, hM_33, hM_32, hM_31, hM_30, hM_29, hM_28, hM_27, hM_26, hM_25, hM_24, hM_23, hM_22, hM_21, hM_20, hM_19, hM_18, hM_17, hM_16, hM_15, hM_14, hM_13, hM_12, hM_11, hM_10, hM_9, hM_8, hM_7, hM_6, hM_5, hM_4, hM_3, hM_2, hM_1]), Or.inr (by simp [up, Int.toNat, hM_58, hM_57, hM_56, hM_55, hM_54, hM_53, hM_52, hM_51, hM_50, hM_49, hM_48, hM_47, hM_46, hM_45, hM_44, hM_43, hM_42, hM_41, hM_40, hM_39, hM_38, hM_37, hM_36, hM_35, hM_34, hM_33, hM_32, hM_31, hM_30, hM_29, hM_28, hM_27, hM_26, hM_25, hM_24, hM_23, hM_22, hM_21, hM_20, hM_19, hM_18, hM_17, hM_16, hM_15, hM_14, hM_13, hM_12, hM_11, hM_10, hM_9, hM_8, hM_7, hM_6, hM_5, hM_4, hM_3, hM_2, hM_1]), Or.inr (by simp [up, Int.toNat, hM_58, hM_57, hM_56, hM_55, hM_54, hM_53, hM_52, hM_51, hM_50, hM_49, hM_48, hM_47, hM_46, hM_45, hM_44, hM_43, hM_42, hM_41, hM_40, hM_39, hM_38, hM_37, hM_36, hM_35, hM_34, hM_33, hM_32, hM_31, hM_30, hM_29, hM_28, hM_27, hM_26, hM_25, hM_24, hM_23, hM_22, hM_21, hM_20, hM_19, hM_18, hM_17, hM_16, hM_15, hM_14, hM_13, hM_12, hM_11, hM_10, hM_9, hM_8, hM_7, hM_6, hM_5, hM_4, hM_3, hM_2, hM_1]), Or.inr (by simp [up, Int.toNat, hM_58, hM_57, hM_56, hM_55, hM_54, hM_53, hM_52, hM_51, hM_50, hM_49, hM_48, hM_47, hM_46, hM_45, hM_44, hM_43, hM_42, hM_41, hM_40, hM_39, hM_38, hM_37, hM_36, hM_35, hM_34, hM_33, hM_32, hM_31, hM_30, hM_29, hM_28, hM_27, hM_26, hM_25, hM_24, hM_23, hM_22, hM_21, hM_20, hM_19, hM_18, hM_17, hM_16, hM_15, hM_14, hM_13, hM_12, hM_11, hM_10, hM_9, hM_8, hM_7, hM_6, hM_5, hM_4, hM_3, hM_2, hM_1]), Or.inl rfl, Or.inl rfl, Or.inl rfl, Or.inl rfl, Or.inl rfl, Or.inl rfl, Or.inl rfl, Or.inl rfl, Or.inr (by simp [up, Int.toNat, hM_58, hM_57, hM_56, hM_55, hM_54, hM_53, hM_52, hM_51, hM_50, hM_49, hM_48, hM_47, hM_46, hM_45, hM_44, hM_43, hM_42, hM_41, hM_40, hM_39, hM_38, hM_37, hM_36, hM_35, hM_34, hM_33, hM_32, hM_31, hM_30, hM_29, hM_28, hM_27, hM_26, hM_25, hM_24, hM_23, hM_22, hM_21, hM_20, hM_19, hM_18, hM_17, hM_16, hM_15, hM_14, hM_13, hM_12, hM_11, hM_10, hM_9, hM_8, hM_7, hM_6, hM_5, hM_4, hM_3, hM_2, hM_1]), Or.inr (by simp [up, Int.toNat, hM_58, hM_57, hM_56, hM_55, hM_54, hM_53, hM_52, hM_51, hM_50, hM_49, hM_48, hM_47, hM_46, hM_45, hM_44, hM_43, hM_42, hM_41, hM_40, hM_39, hM_38, hM_37, hM_36, hM_35, hM_34, hM_33, hM_32, hM_31, hM_30, hM_29, hM_28, hM_27, hM_26, hM_25, hM_24, hM_23, hM_22, hM_21, hM_20, hM_19, hM_18, hM_17, hM_16, hM_15, hM_14, hM_13, hM_12, hM_11, hM_10, hM_9, hM_8, hM_7, hM_6, hM_5, hM_4, hM_3, hM_2, hM_1]), Or.inr (by simp [up, Int.toNat, hM_58, hM_57, hM_56, hM_55, hM_54, hM_53, hM_52, hM_51, hM_50, hM_49, hM_48, hM_47, hM_46, hM_45, hM_44, hM_43, hM_42, hM_41, hM_40, hM_39, hM_38, hM_37, hM_36, hM_35, hM_34, hM_33, hM_32, hM_31, hM_30, hM_29, hM_28, hM_27, hM_26, hM_25, hM_24, hM_23, hM_22, hM_21, hM_20, hM_19, hM_18, hM_17, hM_16, hM_15, hM_14, hM_13, hM_12, hM_11, hM_10, hM_9, hM_8, hM_7, hM_6, hM_5, hM_4, hM_3, hM_2, hM_1]), Or.inr (by simp [up, Int.toNat, hM_58, hM_57, hM_56, hM_55, hM_54, hM_53, hM_52, hM_51, hM_50, hM_49, hM_48, hM_47, hM_46, hM_45, hM_44, hM_43, hM_42, hM_41, hM_40, hM_39, hM_38, hM_37, hM_36, hM_35, hM_34, hM_33, hM_32, hM_31, hM_30, hM_29, hM_28, hM_27, hM_26, hM_25, hM_24, hM_23, hM_22, hM_21, hM_20, hM_19, hM_18, hM_17, hM_16, hM_15, hM_14, hM_13, hM_12, hM_11, hM_10, hM_9, hM_8, hM_7, hM_6, hM_5, hM_4, hM_3, hM_2, hM_1]), Or.inr (by simp [up, Int.toNat, hM_58, hM_57, hM_56, hM_55, hM_54, hM_53, hM_52, hM_51, hM_50, hM_49, hM_48, hM_47, hM_46, hM_45, hM_44, hM_43, hM_42, hM_41, hM_40, hM_39, hM_38, hM_37, hM_36, hM_35, hM_34, hM_33, hM_32, hM_31, hM_30, hM_29, hM_28, hM_27, hM_26, hM_25, hM_24, hM_23, hM_22, hM_21, hM_20, hM_19, hM_18, hM_17, hM_16, hM_15, hM_14, hM_13, hM_12, hM_11, hM_10, hM_9, hM_8, hM_7, hM_6, hM_5, hM_4, hM_3, hM_2, hM_1]), Or.inr (by simp [up, Int.toNat, hM_58, hM_57, hM_56, hM_55, hM_54, hM_53, hM_52, hM_51, hM_50, hM_49, hM_48, hM_47, hM_46, hM_45, hM_44, hM_43, hM_42, hM_41, hM_40, hM_39, hM_38, hM_37, hM_36, hM_35, hM_34, hM_33, hM_32, hM_31, hM_30, hM_29, hM_28, hM_27, hM_26, hM_25, hM_24, hM_23, hM_22, hM_21, hM_20, hM_19, hM_18, hM_17, hM_16, hM_15, hM_14, hM_13, hM_12, hM_11, hM_10, hM_9, hM_8, hM_7, hM_6, hM_5, hM_4, hM_3, hM_2, hM_1]), Or.inr (by simp [up, Int.toNat, hM_58, hM_57, hM_56, hM_55, hM_54, hM_53, hM_52, hM_51, hM_50, hM_49, hM_48, hM_47, hM_46, hM_45, hM_44, hM_43, hM_42, hM_41, hM_40, hM_39, hM_38, hM_37, hM_36, hM_35, hM_34, hM_33, hM_32, hM_31, hM_30, hM_29, hM_28, hM_27, hM_26, hM_25, hM_24, hM_23, hM_22, hM_21, hM_20, hM_19, hM_18, hM_17, hM_16, hM_15, hM_14, hM_13, hM_12, hM_11, hM_10, hM_9, hM_8, hM_7, hM_6, hM_5, hM_4, hM_3, hM_2, hM_1]), Or.inr (by simp [up, Int.toNat, hM_58, hM_57, hM_56, hM_55, hM_54, hM_53, hM_52, hM_51, hM_50, hM_49, hM_48, hM_47, hM_46, hM_45, hM_44, hM_43, hM_42, hM_41, hM_40, hM_39, hM_38, hM_37, hM_36, hM_35, hM_34, hM_33, hM_32, hM_31, hM_30, hM_29, hM_28, hM_27, hM_26, hM_25, hM_24, hM_23, hM_22, hM_21, hM_20, hM_19, hM_18, hM_17, hM_16, hM_15, hM_14, hM_13, hM_12, hM_11, hM_10, hM_9, hM_8, hM_7, hM_6, hM_5, hM_4, hM_3, hM_2, hM_1]), Or.inr (by simp [up, Int.toNat, hM_58, hM_57, hM_56, hM_55, hM_54, hM_53, hM_52, hM_51, hM_50, hM_49, hM_48, hM_47, hM_46, hM_45, hM_44, hM_43, hM_42, hM_41, hM_40, hM_39, hM_38, hM_37, hM_36, hM_35, hM_34, hM_33, hM_32, hM_31, hM_30, hM_29, hM_28, hM_27, hM_26, hM_25, hM_24, hM_23, hM_22, hM_21, hM_20, hM_19, hM_18, hM_17, hM_16, hM_15, hM_14, hM_13, hM_12, hM_11, hM_10, hM_9, hM_8, hM_7, hM_6, hM_5, hM_4, hM_3, hM_2, hM_1]), Or.inr (by simp [up, Int.toNat, hM_58, hM_57, hM_56, hM_55, hM_54, hM_53, hM_52, hM_51, hM_50, hM_49, hM_48, hM_47, hM_46, hM_45, hM_44, hM_43, hM_42, hM_41, hM_40, hM_39, hM_38, hM_37, hM_36, hM_35, hM_34, hM_33, hM_32, hM_31, hM_30, hM_29, hM_28, hM_27, hM_26, hM_25, hM_24, hM_23, hM_22, hM_21, hM_20, hM_19, hM_18, hM_17, hM_16, hM_15, hM_14, hM_13, hM_12, hM_11, hM_10, hM_9, hM_8, hM_7, hM_6, hM_5, hM_4, hM_3, hM_2, hM_1]), Or.inr (by simp [up, Int.toNat, hM_58, hM_57, hM_56, hM_55, hM_54, hM_53, hM_52, hM_51, hM_50, hM_49, hM_48, hM_47, hM_46, hM_45, hM_44, hM_43, hM_42, hM_41, hM_40, hM_39, hM_38, hM_37, hM_36, hM_35, hM_34, hM_33, hM_32, hM_31, hM_30, hM_29, hM_28, hM_27, hM_26, hM_25, hM_24, hM_23, hM_22, hM_21, hM_20, hM_19, hM_18, hM_17, hM_16, hM_15, hM_14, hM_13, hM_12, hM_11, hM_10, hM_9, hM_8, hM_7, hM_6, hM_5, hM_4, hM_3, hM_2, hM_1]), Or.inl rfl, Or.inl rfl, Or.inr (by simp [up, Int.toNat, hM_58, hM_57, hM_56, hM_55, hM_54, hM_53, hM_52, hM_51, hM_50, hM_49, hM_48, hM_47, hM_46, hM_45, hM_44, hM_43, hM_42, hM_41, hM_40, hM_39, hM_38, hM_37, hM_36, hM_35, hM_34, hM_33, hM_32, hM_31, hM_30, hM_29, hM_28, hM_27, hM_26, hM_25, hM_24, hM_23, hM_22, hM_21, hM_20, hM_19, hM_18, hM_17, hM_16, hM_15, hM_14, hM_13, hM_12, hM_11, hM_10, hM_9, hM_8, hM_7, hM_6, hM_5, hM_4, hM_3, hM_2, hM_1]), Or.inl rfl, Or.inr (by simp [up, Int.toNat, hM_58, hM_57, hM_56, hM_55, hM_54, hM_53, hM_52, hM_51, hM_50, hM_49, hM_48, hM_47, hM_46, hM_45, hM_44, hM_43, hM_42, hM_41, hM_40, hM_39, hM_38, hM_37, hM_36, hM_35, hM_34, hM_33, hM_32, hM_31, hM_30, hM_29, hM_28, hM_27, hM_26, hM_25, hM_24, hM_23, hM_22, hM_21, hM_20, hM_19, hM_18, hM_17, hM_16, hM_15, hM_14, hM_13, hM_12, hM_11, hM_10, hM_9, hM_8, hM_7, hM_6, hM_5, hM_4, hM_3, hM_2, hM_1]), Or.inr (by simp [up, Int.toNat, hM_58, hM_57, hM_56, hM_55, hM_54, hM_53, hM_52, hM_51, hM_50, hM_49, hM_48, hM_47, hM_46, hM_45, hM_44, hM_43, hM_42, hM_41, hM_40, hM_39, hM_38, hM_37, hM_36, hM_35, hM_34, hM_33, hM_32, hM_31, hM_30, hM_29, hM_28, hM_27, hM_26, hM_25, hM_24, hM_23, hM_22, hM_21, hM_20, hM_19, hM_18, hM_17, hM_16, hM_15, hM_14, hM_13, hM_12, hM_11, hM_10, hM_9, hM_8, hM_7, hM_6, hM_5, hM_4, hM_3, hM_2, hM_1]), Or.inr (by simp [up, Int.toNat, hM_58, hM_57, hM_56, hM_55, hM_54, hM_53, hM_52, hM_51, hM_50, hM_49, hM_48, hM_47, hM_46, hM_45, hM_44, hM_43, hM_42, hM_41, hM_40, hM_39, hM_38, hM_37, hM_36, hM_35, hM_34, hM_33, hM_32, hM_31, hM_30, hM_29, hM_28, hM_27, hM_26, hM_25, hM_24, hM_23, hM_22, hM_21, hM_20, hM_19, hM_18, hM_17, hM_16, hM_15, hM_14, hM_13, hM_12, hM_11, hM_10, hM_9, hM_8, hM_7, hM_6, hM_5, hM_4, hM_3, hM_2, hM_1]), Or.inr (by simp [up, Int.toNat, hM_58, hM_57, hM_56, hM_55, hM_54, hM_53, hM_52, hM_51, hM_50, hM_49, hM_48, hM_47, hM_46, hM_45, hM_44, hM_43, hM_42, hM_41, hM_40, hM_39, hM_38, hM_37, hM_36, hM_35, hM_34, hM_33, hM_32, hM_31, hM_30, hM_29, hM_28, hM_27, hM_26, hM_25, hM_24, hM_23, hM_22, hM_21, hM_20, hM_19, hM_18, hM_17, hM_16, hM_15, hM_14, hM_13, hM_12, hM_11, hM_10, hM_9, hM_8, hM_7, hM_6, hM_5, hM_4, hM_3, hM_2, hM_1]), Or.inr (by simp [up, Int.toNat, hM_58, hM_57, hM_56, hM_55, hM_54, hM_53, hM_52, hM_51, hM_50, hM_49, hM_48, hM_47, hM_46, hM_45, hM_44, hM_43, hM_42, hM_41, hM_40, hM_39, hM_38, hM_37, hM_36, hM_35, hM_34, hM_33, hM_32, hM_31, hM_30, hM_29, hM_28, hM_27, hM_26, hM_25, hM_24, hM_23, hM_22, hM_21, hM_20, hM_19, hM_18, hM_17, hM_16, hM_15, hM_14, hM_13, hM_12, hM_11, hM_10, hM_9, hM_8, hM_7, hM_6, hM_5, hM_4, hM_3, hM_2, hM_1]), Or.inr (by simp [up, Int.toNat, hM_58, hM_57, hM_56, hM_55, hM_54, hM_53, hM_52, hM_51, hM_50, hM_49, hM_48, hM_47, hM_46, hM_45, hM_44, hM_43, hM_42, hM_41, hM_40, hM_39, hM_38, hM_37, hM_36, hM_35, hM_34, hM_33, hM_32, hM_31, hM_30, hM_29, hM_28, hM_27, hM_26, hM_25, hM_24, hM_23, hM_22, hM_21, hM_20, hM_19, hM_18, hM_17, hM_16, hM_15, hM_14, hM_13, hM_12, hM_11, hM_10, hM_9, hM_8, hM_7, hM_6, hM_5, hM_4, hM_3, hM_2, hM_1]), Or.inr (by simp [up, Int.toNat, hM_58, hM_57, hM_56, hM_55, hM_54, hM_53, hM_52, hM_51, hM_50, hM_49, hM_48, hM_47, hM_46, hM_45, hM_44, hM_43, hM_42, hM_41, hM_40, hM_39, hM_38, hM_37, hM_36, hM_35, hM_34, hM_33, hM_32, hM_31, hM_30, hM_29, hM_28, hM_27, hM_26, hM_25, hM_24, hM_23, hM_22, hM_21, hM_20, hM_19, hM_18, hM_17, hM_16, hM_15, hM_14, hM_13, hM_12, hM_11, hM_10, hM_9, hM_8, hM_7, hM_6, hM_5, hM_4, hM_3, hM_2, hM_1]), Or.inr (by simp [up, Int.toNat, hM_58, hM_57, hM_56, hM_55, hM_54, hM_53, hM_52, hM_51, hM_50, hM_49, hM_48, hM_47, hM_46, hM_45, hM_44, hM_43, hM_42, hM_41, hM_40, hM_39, hM_38, hM_37, hM_36, hM_35, hM_34, hM_33, hM_32, hM_31, hM_30, hM_29, hM_28, hM_27, hM_26, hM_25, hM_24, hM_23, hM_22, hM_21, hM_20, hM_19, hM_18, hM_17, hM_16, hM_15, hM_14, hM_13, hM_12, hM_11, hM_10, hM_9, hM_8, hM_7, hM_6, hM_5, hM_4, hM_3, hM_2, hM_1]), Or.inr (by simp [up, Int.toNat, hM_58, hM_57, hM_56, hM_55, hM_54, hM_53, hM_52, hM_51, hM_50, hM_49, hM_48, hM_47, hM_46, hM_45, hM_44, hM_43, hM_42, hM_41, hM_40, hM_39, hM_38, hM_37, hM_36, hM_35, hM_34, hM_33, hM_32, hM_31, hM_30, hM_29, hM_28, hM_27, hM_26, hM_25, hM_24, hM_23, hM_22, hM_21, hM_20, hM_19, hM_18, hM_17, hM_16, hM_15, hM_14, hM_13, hM_12, hM_11, hM_10, hM_9, hM_8, hM_7, hM_6, hM_5, hM_4, hM_3, hM_2, hM_1]), Or.inl rfl, Or.inr (by simp [up, Int.toNat, hM_58, hM_57, hM_56, hM_55, hM_54, hM_53, hM_52, hM_51, hM_50, hM_49, hM_48, hM_47, hM_46, hM_45, hM_44, hM_43, hM_42, hM_41, hM_40, hM_39, hM_38, hM_37, hM_36, hM_35, hM_34, hM_33, hM_32, hM_31, hM_30, hM_29, hM_28, hM_27, hM_26, hM_25, hM_24, hM_23, hM_22, hM_21, hM_20, hM_19, hM_18, hM_17, hM_16, hM_15, hM_14, hM_13, hM_12, hM_11, hM_10, hM_9, hM_8, hM_7, hM_6, hM_5, hM_4, hM_3, hM_2, hM_1]), Or.inr (by simp [up, Int.toNat, hM_58, hM_57, hM_56, hM_55, hM_54, hM_53, hM_52, hM_51, hM_50, hM_49, hM_48, hM_47, hM_46, hM_45, hM_44, hM_43, hM_42, hM_41, hM_40, hM_39, hM_38, hM_37, hM_36, hM_35, hM_34, hM_33, hM_32, hM_31, hM_30, hM_29, hM_28, hM_27, hM_26, hM_25, hM_24, hM_23, hM_22, hM_21, hM_20, hM_19, hM_18, hM_17, hM_16, hM_15, hM_14, hM_13, hM_12, hM_11, hM_10, hM_9, hM_8, hM_7, hM_6, hM_5, hM_4, hM_3, hM_2, hM_1]), Or.inr (by simp [up, Int.toNat, hM_58, hM_57, hM_56, hM_55, hM_54, hM_53, hM_52, hM_51, hM_50, hM_49, hM_48, hM_47, hM_46, hM_45, hM_44, hM_43, hM_42, hM_41, hM_40, hM_39, hM_38, hM_37, hM_36, hM_35, hM_34, hM_33, hM_32, hM_31, hM_30, hM_29, hM_28, hM_27, hM_26, hM_25, hM_24, hM_23, hM_22, hM_21, hM_20, hM_19, hM_18, hM_17, hM_16, hM_15, hM_14, hM_13, hM_12, hM_11, hM_10, hM_9, hM_8, hM_7, hM_6, hM_5, hM_4, hM_3, hM_2, hM_1]), Or.inr (by simp [up, Int.toNat, hM_58, hM_57, hM_56, hM_55, hM_54, hM_53, hM_52, hM_51, hM_50, hM_49, hM_48, hM_47, hM_46, hM_45, hM_44, hM_43, hM_42, hM_41, hM_40, hM_39, hM_38, hM_37, hM_36, hM_35, hM_34, hM_33, hM_32, hM_31, hM_30, hM_29, hM_28, hM_27, hM_26, hM_25, hM_24, hM_23, hM_22, hM_21, hM_20, hM_19, hM_18, hM_17, hM_16, hM_15, hM_14, hM_13, hM_12, hM_11, hM_10, hM_9, hM_8, hM_7, hM_6, hM_5, hM_4, hM_3, hM_2, hM_1]), Or.inr (by simp [up, Int.toNat, hM_58, hM_57, hM_56, hM_55, hM_54, hM_53, hM_52, hM_51, hM_50, hM_49, hM_48, hM_47, hM_46, hM_45, hM_44, hM_43, hM_42, hM_41, hM_40, hM_39, hM_38, hM_37, hM_36, hM_35, hM_34, hM_33, hM_32, hM_31, hM_30, hM_29, hM_28, hM_27, hM_26, hM_25, hM_24, hM_23, hM_22, hM_21, hM_20, hM_19, hM_18, hM_17, hM_16, hM_15, hM_14, hM_13, hM_12, hM_11, hM_10, hM_9, hM_8, hM_7, hM_6, hM_5, hM_4, hM_3, hM_2, hM_1]), Or.inr (by simp [up, Int.toNat, hM_58, hM_57, hM_56, hM_55, hM_54, hM_53, hM_52, hM_51, hM_50, hM_49, hM_48, hM_47, hM_46, hM_45, hM_44, hM_43, hM_42, hM_41, hM_40, hM_39, hM_38, hM_37, hM_36, hM_35, hM_34, hM_33, hM_32, hM_31, hM_30, hM_29, hM_28, hM_27, hM_26, hM_25, hM_24, hM_23, hM_22, hM_21, hM_20, hM_19, hM_18, hM_17, hM_16, hM_15, hM_14, hM_13, hM_12, hM_11, hM_10, hM_9, hM_8, hM_7, hM_6, hM_5, hM_4, hM_3, hM_2, hM_1]), Or.inr (by simp [up, Int.toNat, hM_58, hM_57, hM_56, hM_55, hM_54, hM_53, hM_52, hM_51, hM_50, hM_49, hM_48, hM_47, hM_46, hM_45, hM_44, hM_43, hM_42, hM_41, hM_40, hM_39, hM_38, hM_37, hM_36, hM_35, hM_34, hM_33, hM_32, hM_31, hM_30, hM_29, hM_28, hM_27, hM_26, hM_25, hM_24, hM_23, hM_22, hM_21, hM_20, hM_19, hM_18, hM_17, hM_16, hM_15, hM_14, hM_13, hM_12, hM_11, hM_10, hM_9, hM_8, hM_7, hM_6, hM_5, hM_4, hM_3, hM_2, hM_1]), trivial⟩
  refine R_aload_n (pc := 465) 0 (dc k_M_init 233 rfl) rfl rfl ?_
  refine R_cVV (pc := 466)  (As := []) (S := []) ck_M_188 (dc k_M_init 234 rfl) ⟨rfl, ⟨_, rfl, rfl⟩, (lb rfl), (lb rfl)⟩ (lb rfl) (lb rfl) (lb rfl) rfl (ct_M_clearBank hE_m_81_138_1_80 (lb rfl) (Z_bind hz)) (fun M_59 hz => ?_)
  refine R_aload_n (pc := 469) 0 (dc k_M_init 235 rfl) rfl rfl ?_
  refine R_cVV (pc := 470)  (As := []) (S := []) ck_M_191 (dc k_M_init 236 rfl) ⟨rfl, ⟨_, rfl, rfl⟩, (lb rfl), (lb rfl)⟩ (lb rfl) (lb rfl) (lb rfl) rfl (ct_M_layWorlds hE_m_81_138_1_80 (lb rfl) (Z_bind hz)) (fun M_60 hz => ?_)
  refine R_iconst (pc := 473) (a := 0) (dc k_M_init 237 rfl) ?_
  refine R_istore_n (pc := 474) (L' := [(1, vI 0), (0, vR 81)]) (dc k_M_init 238 rfl) rfl (lb rfl) rfl ?_
  obtain ⟨K_63, hK_64, hz⟩ := Z_cut hz
  have hX_65 : ∀ (M_69 : Mem), K_63 M_69 → Rr y_M_init (6, 139, 81, 138, (eI [(81, 138), (1, 80)])) (qV K) 493 [] [] (eI [(81, 138), (1, 80)]) 138 M_69 := by
    intro M_69 hk
    have hz := hK_64 _ hk
    exact R_vret (pc := 493) (dc k_M_init 249 rfl) rfl rfl rfl ⟨rfl, (Z_some hz)⟩
  refine R_sub [1, 0] rfl ?_
  refine it_R (C := fun aZ : Int × Mem => Rr y_M_init (6, 139, 81, 138, (eI [(81, 138), (1, 80)])) (qV K) 475 [(0, vR 81), (1, vI aZ.1)] [] (eI [(81, 138), (1, 80)]) 138 aZ.2) (fun aZ K_66 hC_67 hB_68 hz => ?_) FUEL (0, M_60) hz
  obtain ⟨l1_61, M_62⟩ := aZ
  rw [M_init81_b475] at hz
  show Rr y_M_init (6, 139, 81, 138, (eI [(81, 138), (1, 80)])) (qV K) 475 [(0, vR 81), (1, vI l1_61)] [] (eI [(81, 138), (1, 80)]) 138 M_62
  refine R_iload_n (pc := 475) 1 (dc k_M_init 239 rfl) rfl rfl ?_
  refine R_iconst (pc := 476) (a := 3) (dc k_M_init 240 rfl) ?_
  refine R_icmp_ge (pc := 477) 493 (dc k_M_init 241 rfl) rfl (fun hc => ?_) (fun hc => ?_)
  · have hz := Z_neg (show ¬ (n32 l1_61 < 3) from (Int.not_lt.mpr hc)) hz
    refine R_sub [] rfl ?_
    exact hX_65 _ (hB_68 _ (Z_some hz))
  · have hz := Z_pos (show n32 l1_61 < 3 from (Int.not_le.mp hc)) hz
    refine R_aload_n (pc := 480) 0 (dc k_M_init 242 rfl) rfl rfl ?_
    refine R_getS (pc := 481) (ci := 10) (k := 71) 132 (dc k_M_init 243 rfl) fl_M_167 rfl (lb rfl) (lb rfl) rfl rfl (by decide) rfl ?_
    refine R_iload_n (pc := 484) 1 (dc k_M_init 244 rfl) rfl rfl ?_
    refine R_iconst (pc := 485) (a := (-1)) (dc k_M_init 245 rfl) ?_
    obtain ⟨⟨hg_70, hg_71⟩, hz⟩ := Z_chk hz
    obtain ⟨M_72, hM_72, hz⟩ := Z_lt hz
    refine R_iastE (pc := 486) (dc k_M_init 246 rfl) rfl (lb rfl) (lb rfl) hg_70 hg_71 hM_72 ?_
    obtain ⟨l1_73, hl1_73, hz⟩ := Z_lt hz
    refine R_iincE (pc := 487) (L' := [(1, vI l1_73), (0, vR 81)]) 1 (dc k_M_init 247 rfl) rfl (lb rfl) hl1_73 rfl ?_
    refine R_goto (pc := 490) 475 (dc k_M_init 248 rfl) rfl ?_
    refine R_sub [1, 0] rfl ?_
    exact hC_67 _ (Z_some hz)

set_option maxRecDepth 20000 in
set_option maxHeartbeats 8000000 in
theorem cr_L_law {Ls : Nat} {xs : Nat → Int32} (hLs : Ls ≤ 30000) {M : Mem} {K : Int × Mem → Prop} (hz : Z (L_law Ls xs M) K) : Rr (y_L_law Ls xs) (61, 1373, 0, 138, (eI [(81, 138), (1, 80)])) (qM K) 0 [(0, vR 996)] [] (eI []) 0 M := by
  rw [L_law] at hz
  refine R_new (pc := 0) (n := 0) (ci := 0) (dc k_L_law_0 0 rfl) rfl wk_L_7 wn_X wz_X rfl rfl (lb rfl) (lb rfl) rfl rfl ?_
  refine R_dup (pc := 3) (dc k_L_law_0 1 rfl) rfl ?_
  refine R_callA (pc := 4) (n := 1) (n' := 80) (E' := (eI [(1, 80)])) (As := []) (S := [vR 1]) ck_L_9 (dc k_L_law_0 2 rfl) (lb rfl) (lb rfl) (lb rfl) (lb rfl) (lb rfl) rfl rfl (ct_X_init1 (Z_and (fr_X_init1 (M := M)) (Z_bind hz))) rfl (fun M_1 hz => ?_)
  obtain ⟨hfM_1, hz⟩ := hz
  refine R_astore_n (pc := 7) (L' := [(1, vR 1), (0, vR 996)]) (dc k_L_law_0 3 rfl) rfl (lb rfl) rfl ?_
  refine R_new (pc := 8) (n := 80) (ci := 10) (dc k_L_law_0 4 rfl) rfl wk_L_10 wn_M wz_M rfl rfl (lb rfl) (lb rfl) rfl rfl ?_
  refine R_dup (pc := 11) (dc k_L_law_0 5 rfl) rfl ?_
  refine R_callA (pc := 12) (n := 81) (n' := 138) (E' := (eI [(81, 138), (1, 80)])) (As := []) (S := [vR 81]) ck_L_12 (dc k_L_law_0 6 rfl) (lb rfl) (lb rfl) (lb rfl) (lb rfl) (lb rfl) rfl rfl (ct_M_init81 (Z_and (fr_M_init81 (M := M_1)) (Z_bind hz))) rfl (fun M_2 hz => ?_)
  obtain ⟨hfM_2, hz⟩ := hz
  refine R_astore_n (pc := 15) (L' := [(2, vR 81), (1, vR 1), (0, vR 996)]) (dc k_L_law_0 7 rfl) rfl (lb rfl) rfl ?_
  refine R_iconst (pc := 16) (a := 0) (dc k_L_law_0 8 rfl) ?_
  refine R_istore_n (pc := 17) (L' := [(3, vI 0), (2, vR 81), (1, vR 1), (0, vR 996)]) (dc k_L_law_0 9 rfl) rfl (lb rfl) rfl ?_
  obtain ⟨K_5, hK_6, hz⟩ := Z_cut hz
  have hX_7 : ∀ (M_11 : Mem), K_5 (.inl M_11) → Rr (y_L_law Ls xs) (61, 1373, 0, 138, (eI [(81, 138), (1, 80)])) (qM K) 1246 [] [] (eI [(81, 138), (1, 80)]) 138 M_11 := by
    intro M_11 hk
    have hz := hK_6 _ hk
    refine R_iconst (pc := 1246) (a := 1) (dc k_L_law_22 8 rfl) ?_
    exact R_zret (pc := 1247) (dc k_L_law_22 9 rfl) rfl (Or.inr rfl) rfl rfl ⟨_, rfl, (Z_some hz)⟩
  refine R_sub [3, 2, 1, 0] rfl ?_
  refine it_R (C := fun aZ : Int × Mem => Rr (y_L_law Ls xs) (61, 1373, 0, 138, (eI [(81, 138), (1, 80)])) (qM K) 18 [(0, vR 996), (1, vR 1), (2, vR 81), (3, vI aZ.1)] [] (eI [(81, 138), (1, 80)]) 138 aZ.2) (fun aZ K_8 hC_9 hB_10 hz => ?_) FUEL (0, M_2) hz
  obtain ⟨l3_3, M_4⟩ := aZ
  rw [L_law_b18] at hz
  show Rr (y_L_law Ls xs) (61, 1373, 0, 138, (eI [(81, 138), (1, 80)])) (qM K) 18 [(0, vR 996), (1, vR 1), (2, vR 81), (3, vI l3_3)] [] (eI [(81, 138), (1, 80)]) 138 M_4
  refine R_iload_n (pc := 18) 3 (dc k_L_law_0 10 rfl) rfl rfl ?_
  refine R_aload_n (pc := 19) 0 (dc k_L_law_0 11 rfl) rfl rfl ?_
  refine R_slen (pc := 20) rfl (dc k_L_law_0 12 rfl) ?_
  refine R_bipush (pc := 21) (a := 6) (dc k_L_law_0 13 rfl) (by decide) ?_
  refine R_isub (pc := 23) (dc k_L_law_0 14 rfl) ?_
  refine R_icmp_gt (pc := 24) 1246 (dc k_L_law_0 15 rfl) rfl (fun hc => ?_) (fun hc => ?_)
  · have hz := Z_neg (show ¬ (n32 l3_3 ≤ n32 ((Ls : Int) - 6)) from (Int.not_le.mpr hc)) hz
    refine R_sub [] rfl ?_
    exact hX_7 _ (hB_10 _ (Z_some hz))
  · have hz := Z_pos (show n32 l3_3 ≤ n32 ((Ls : Int) - 6) from (Int.not_lt.mp hc)) hz
    refine R_aload_n (pc := 27) 0 (dc k_L_law_0 16 rfl) rfl rfl ?_
    refine R_iload_n (pc := 28) 3 (dc k_L_law_0 17 rfl) rfl rfl ?_
    obtain ⟨⟨hg_12, hg_13⟩, hz⟩ := Z_chk hz
    refine R_sld (pc := 29) rfl (dc k_L_law_0 18 rfl) hg_12 hg_13 hLs ?_
    refine R_bipush (pc := 30) (a := 31) (dc k_L_law_0 19 rfl) (by decide) ?_
    refine R_iand (pc := 32) (dc k_L_law_0 20 rfl) ?_
    obtain ⟨j_15, hj_16, hz⟩ := Z_jn hz
    have hJ_17 : ∀ (M_14 : Mem), Z (j_15 M_14) K_8 → Rr (y_L_law Ls xs) (61, 1373, 0, 138, (eI [(81, 138), (1, 80)])) (qM K) 1240 [(0, vR 996), (1, vR 1), (2, vR 81), (3, vI l3_3)] [] (eI [(81, 138), (1, 80)]) 138 M_14 := by
      intro M_14 hk
      have hz := hj_16 _ hk
      obtain ⟨l3_355, hl3_355, hz⟩ := Z_lt hz
      refine R_iincE (pc := 1240) (L' := [(3, vI l3_355), (0, vR 996), (1, vR 1), (2, vR 81)]) 3 (dc k_L_law_22 6 rfl) rfl (lb rfl) hl3_355 rfl ?_
      refine R_goto (pc := 1243) 18 (dc k_L_law_22 7 rfl) rfl ?_
      refine R_sub [1, 2, 3, 0] rfl ?_
      exact hC_9 _ (Z_some hz)
    by_cases hs_33 : n32 (iand (Int32.toInt (xs (Int.toNat l3_3))) 31) = 0
    · have hz := Z_pos hs_33 hz
      refine R_tabIn (pc := 33) 160 (dc k_L_law_0 21 rfl) hs_33 (by decide) (by decide) rfl rfl ?_
      refine R_aload_n (pc := 160) 1 (dc k_L_law_0 22 rfl) rfl rfl ?_
      refine R_aload_n (pc := 161) 0 (dc k_L_law_0 23 rfl) rfl rfl ?_
      refine R_iload_n (pc := 162) 3 (dc k_L_law_0 24 rfl) rfl rfl ?_
      refine R_iconst (pc := 163) (a := 1) (dc k_L_law_0 25 rfl) ?_
      refine R_iadd (pc := 164) (dc k_L_law_0 26 rfl) ?_
      obtain ⟨⟨hg_18, hg_19⟩, hz⟩ := Z_chk hz
      refine R_sld (pc := 165) rfl (dc k_L_law_0 27 rfl) hg_18 hg_19 hLs ?_
      refine R_aload_n (pc := 166) 0 (dc k_L_law_0 28 rfl) rfl rfl ?_
      refine R_iload_n (pc := 167) 3 (dc k_L_law_0 29 rfl) rfl rfl ?_
      refine R_iconst (pc := 168) (a := 2) (dc k_L_law_0 30 rfl) ?_
      refine R_iadd (pc := 169) (dc k_L_law_0 31 rfl) ?_
      obtain ⟨⟨hg_20, hg_21⟩, hz⟩ := Z_chk hz
      refine R_sld (pc := 170) rfl (dc k_L_law_0 32 rfl) hg_20 hg_21 hLs ?_
      refine R_aload_n (pc := 171) 0 (dc k_L_law_0 33 rfl) rfl rfl ?_
      refine R_iload_n (pc := 172) 3 (dc k_L_law_0 34 rfl) rfl rfl ?_
      refine R_iconst (pc := 173) (a := 3) (dc k_L_law_0 35 rfl) ?_
      refine R_iadd (pc := 174) (dc k_L_law_0 36 rfl) ?_
      obtain ⟨⟨hg_22, hg_23⟩, hz⟩ := Z_chk hz
      refine R_sld (pc := 175) rfl (dc k_L_law_0 37 rfl) hg_22 hg_23 hLs ?_
      refine R_aload_n (pc := 176) 0 (dc k_L_law_0 38 rfl) rfl rfl ?_
      refine R_iload_n (pc := 177) 3 (dc k_L_law_0 39 rfl) rfl rfl ?_
      refine R_iconst (pc := 178) (a := 4) (dc k_L_law_1 0 rfl) ?_
      refine R_iadd (pc := 179) (dc k_L_law_1 1 rfl) ?_
      obtain ⟨⟨hg_24, hg_25⟩, hz⟩ := Z_chk hz
      refine R_sld (pc := 180) rfl (dc k_L_law_1 2 rfl) hg_24 hg_25 hLs ?_
      refine R_aload_n (pc := 181) 0 (dc k_L_law_1 3 rfl) rfl rfl ?_
      refine R_iload_n (pc := 182) 3 (dc k_L_law_1 4 rfl) rfl rfl ?_
      refine R_iconst (pc := 183) (a := 5) (dc k_L_law_1 5 rfl) ?_
      refine R_iadd (pc := 184) (dc k_L_law_1 6 rfl) ?_
      obtain ⟨⟨hg_26, hg_27⟩, hz⟩ := Z_chk hz
      refine R_sld (pc := 185) rfl (dc k_L_law_1 7 rfl) hg_26 hg_27 hLs ?_
      refine R_cVM (pc := 186)  (As := [vI (Int32.toInt (xs (Int.toNat (l3_3 + 1)))), vI (Int32.toInt (xs (Int.toNat (l3_3 + 2)))), vI (Int32.toInt (xs (Int.toNat (l3_3 + 3)))), vI (Int32.toInt (xs (Int.toNat (l3_3 + 4)))), vI (Int32.toInt (xs (Int.toNat (l3_3 + 5))))]) (S := []) ck_L_13 (dc k_L_law_1 8 rfl) ⟨rfl, ⟨_, rfl, rfl⟩, (lb rfl), (lb rfl)⟩ (lb rfl) (lb rfl) (lb rfl) rfl (ct_X_feed hE_c_81_138_1_80 (lb rfl) (Z_bind hz)) (fun r_28 M_29 hz => ?_)
      refine R_aload_n (pc := 189) 2 (dc k_L_law_1 9 rfl) rfl rfl ?_
      refine R_aload_n (pc := 190) 0 (dc k_L_law_1 10 rfl) rfl rfl ?_
      refine R_iload_n (pc := 191) 3 (dc k_L_law_1 11 rfl) rfl rfl ?_
      refine R_iconst (pc := 192) (a := 1) (dc k_L_law_1 12 rfl) ?_
      refine R_iadd (pc := 193) (dc k_L_law_1 13 rfl) ?_
      refine R_sld (pc := 194) rfl (dc k_L_law_1 14 rfl) hg_18 hg_19 hLs ?_
      refine R_aload_n (pc := 195) 0 (dc k_L_law_1 15 rfl) rfl rfl ?_
      refine R_iload_n (pc := 196) 3 (dc k_L_law_1 16 rfl) rfl rfl ?_
      refine R_iconst (pc := 197) (a := 2) (dc k_L_law_1 17 rfl) ?_
      refine R_iadd (pc := 198) (dc k_L_law_1 18 rfl) ?_
      refine R_sld (pc := 199) rfl (dc k_L_law_1 19 rfl) hg_20 hg_21 hLs ?_
      refine R_aload_n (pc := 200) 0 (dc k_L_law_1 20 rfl) rfl rfl ?_
      refine R_iload_n (pc := 201) 3 (dc k_L_law_1 21 rfl) rfl rfl ?_
      refine R_iconst (pc := 202) (a := 3) (dc k_L_law_1 22 rfl) ?_
      refine R_iadd (pc := 203) (dc k_L_law_1 23 rfl) ?_
      refine R_sld (pc := 204) rfl (dc k_L_law_1 24 rfl) hg_22 hg_23 hLs ?_
      refine R_aload_n (pc := 205) 0 (dc k_L_law_1 25 rfl) rfl rfl ?_
      refine R_iload_n (pc := 206) 3 (dc k_L_law_1 26 rfl) rfl rfl ?_
      refine R_iconst (pc := 207) (a := 4) (dc k_L_law_1 27 rfl) ?_
      refine R_iadd (pc := 208) (dc k_L_law_1 28 rfl) ?_
      refine R_sld (pc := 209) rfl (dc k_L_law_1 29 rfl) hg_24 hg_25 hLs ?_
      refine R_aload_n (pc := 210) 0 (dc k_L_law_1 30 rfl) rfl rfl ?_
      refine R_iload_n (pc := 211) 3 (dc k_L_law_1 31 rfl) rfl rfl ?_
      refine R_iconst (pc := 212) (a := 5) (dc k_L_law_1 32 rfl) ?_
      refine R_iadd (pc := 213) (dc k_L_law_1 33 rfl) ?_
      refine R_sld (pc := 214) rfl (dc k_L_law_1 34 rfl) hg_26 hg_27 hLs ?_
      refine R_cVM (pc := 215)  (As := [vI (Int32.toInt (xs (Int.toNat (l3_3 + 1)))), vI (Int32.toInt (xs (Int.toNat (l3_3 + 2)))), vI (Int32.toInt (xs (Int.toNat (l3_3 + 3)))), vI (Int32.toInt (xs (Int.toNat (l3_3 + 4)))), vI (Int32.toInt (xs (Int.toNat (l3_3 + 5))))]) (S := [vI r_28]) ck_L_17 (dc k_L_law_1 35 rfl) ⟨rfl, ⟨_, rfl, rfl⟩, (lb rfl), (lb rfl)⟩ (lb rfl) (lb rfl) (lb rfl) rfl (ct_M_feed hE_m_81_138_1_80 (lb rfl) (Z_bind hz)) (fun r_30 M_31 hz => ?_)
      refine R_icmp_eq (pc := 218) 1240 (dc k_L_law_1 36 rfl) rfl (fun hc => ?_) (fun hc => ?_)
      · have hz := Z_neg (show ¬ (¬ n32 r_28 = n32 r_30) from (fun z => z hc)) hz
        exact hJ_17 _ hz
      · have hz := Z_pos (show ¬ n32 r_28 = n32 r_30 from hc) hz
        refine R_iconst (pc := 221) (a := 0) (dc k_L_law_1 37 rfl) ?_
        exact R_zret (pc := 222) (dc k_L_law_1 38 rfl) rfl (Or.inl rfl) rfl rfl ⟨_, rfl, (Z_some (hK_6 _ (hB_10 _ (Z_some hz))))⟩
    · have hz := Z_neg hs_33 hz
      by_cases hs_41 : n32 (iand (Int32.toInt (xs (Int.toNat l3_3))) 31) = 1
      · have hz := Z_pos hs_41 hz
        refine R_tabIn (pc := 33) 223 (dc k_L_law_0 21 rfl) hs_41 (by decide) (by decide) rfl rfl ?_
        refine R_aload_n (pc := 223) 1 (dc k_L_law_1 39 rfl) rfl rfl ?_
        refine R_aload_n (pc := 224) 0 (dc k_L_law_2 0 rfl) rfl rfl ?_
        refine R_iload_n (pc := 225) 3 (dc k_L_law_2 1 rfl) rfl rfl ?_
        refine R_iconst (pc := 226) (a := 1) (dc k_L_law_2 2 rfl) ?_
        refine R_iadd (pc := 227) (dc k_L_law_2 3 rfl) ?_
        obtain ⟨⟨hg_34, hg_35⟩, hz⟩ := Z_chk hz
        refine R_sld (pc := 228) rfl (dc k_L_law_2 4 rfl) hg_34 hg_35 hLs ?_
        refine R_cVM (pc := 229)  (As := [vI (Int32.toInt (xs (Int.toNat (l3_3 + 1))))]) (S := []) ck_L_18 (dc k_L_law_2 5 rfl) ⟨rfl, ⟨_, rfl, rfl⟩, (lb rfl), (lb rfl)⟩ (lb rfl) (lb rfl) (lb rfl) rfl (ct_X_end hE_c_81_138_1_80 (lb rfl) (Z_bind hz)) (fun r_36 M_37 hz => ?_)
        refine R_aload_n (pc := 232) 2 (dc k_L_law_2 6 rfl) rfl rfl ?_
        refine R_aload_n (pc := 233) 0 (dc k_L_law_2 7 rfl) rfl rfl ?_
        refine R_iload_n (pc := 234) 3 (dc k_L_law_2 8 rfl) rfl rfl ?_
        refine R_iconst (pc := 235) (a := 1) (dc k_L_law_2 9 rfl) ?_
        refine R_iadd (pc := 236) (dc k_L_law_2 10 rfl) ?_
        refine R_sld (pc := 237) rfl (dc k_L_law_2 11 rfl) hg_34 hg_35 hLs ?_
        refine R_cVM (pc := 238)  (As := [vI (Int32.toInt (xs (Int.toNat (l3_3 + 1))))]) (S := [vI r_36]) ck_L_22 (dc k_L_law_2 12 rfl) ⟨rfl, ⟨_, rfl, rfl⟩, (lb rfl), (lb rfl)⟩ (lb rfl) (lb rfl) (lb rfl) rfl (ct_M_end hE_m_81_138_1_80 (lb rfl) (Z_bind hz)) (fun r_38 M_39 hz => ?_)
        refine R_icmp_eq (pc := 241) 1240 (dc k_L_law_2 13 rfl) rfl (fun hc => ?_) (fun hc => ?_)
        · have hz := Z_neg (show ¬ (¬ n32 r_36 = n32 r_38) from (fun z => z hc)) hz
          exact hJ_17 _ hz
        · have hz := Z_pos (show ¬ n32 r_36 = n32 r_38 from hc) hz
          refine R_iconst (pc := 244) (a := 0) (dc k_L_law_2 14 rfl) ?_
          exact R_zret (pc := 245) (dc k_L_law_2 15 rfl) rfl (Or.inl rfl) rfl rfl ⟨_, rfl, (Z_some (hK_6 _ (hB_10 _ (Z_some hz))))⟩
      · have hz := Z_neg hs_41 hz
        by_cases hs_47 : n32 (iand (Int32.toInt (xs (Int.toNat l3_3))) 31) = 2
        · have hz := Z_pos hs_47 hz
          refine R_tabIn (pc := 33) 246 (dc k_L_law_0 21 rfl) hs_47 (by decide) (by decide) rfl rfl ?_
          refine R_aload_n (pc := 246) 1 (dc k_L_law_2 16 rfl) rfl rfl ?_
          refine R_cVM (pc := 247)  (As := []) (S := []) ck_L_23 (dc k_L_law_2 17 rfl) ⟨rfl, ⟨_, rfl, rfl⟩, (lb rfl), (lb rfl)⟩ (lb rfl) (lb rfl) (lb rfl) rfl (ct_X_town hE_c_81_138_1_80 (lb rfl) (Z_bind hz)) (fun r_42 M_43 hz => ?_)
          refine R_aload_n (pc := 250) 2 (dc k_L_law_2 18 rfl) rfl rfl ?_
          refine R_cVM (pc := 251)  (As := []) (S := [vI r_42]) ck_L_27 (dc k_L_law_2 19 rfl) ⟨rfl, ⟨_, rfl, rfl⟩, (lb rfl), (lb rfl)⟩ (lb rfl) (lb rfl) (lb rfl) rfl (ct_M_town hE_m_81_138_1_80 (lb rfl) (Z_bind hz)) (fun r_44 M_45 hz => ?_)
          refine R_icmp_eq (pc := 254) 1240 (dc k_L_law_2 20 rfl) rfl (fun hc => ?_) (fun hc => ?_)
          · have hz := Z_neg (show ¬ (¬ n32 r_42 = n32 r_44) from (fun z => z hc)) hz
            exact hJ_17 _ hz
          · have hz := Z_pos (show ¬ n32 r_42 = n32 r_44 from hc) hz
            refine R_iconst (pc := 257) (a := 0) (dc k_L_law_2 21 rfl) ?_
            exact R_zret (pc := 258) (dc k_L_law_2 22 rfl) rfl (Or.inl rfl) rfl rfl ⟨_, rfl, (Z_some (hK_6 _ (hB_10 _ (Z_some hz))))⟩
        · have hz := Z_neg hs_47 hz
          by_cases hs_53 : n32 (iand (Int32.toInt (xs (Int.toNat l3_3))) 31) = 3
          · have hz := Z_pos hs_53 hz
            refine R_tabIn (pc := 33) 259 (dc k_L_law_0 21 rfl) hs_53 (by decide) (by decide) rfl rfl ?_
            refine R_aload_n (pc := 259) 1 (dc k_L_law_2 23 rfl) rfl rfl ?_
            refine R_aload_n (pc := 260) 0 (dc k_L_law_2 24 rfl) rfl rfl ?_
            refine R_iload_n (pc := 261) 3 (dc k_L_law_2 25 rfl) rfl rfl ?_
            refine R_iconst (pc := 262) (a := 1) (dc k_L_law_2 26 rfl) ?_
            refine R_iadd (pc := 263) (dc k_L_law_2 27 rfl) ?_
            obtain ⟨⟨hg_48, hg_49⟩, hz⟩ := Z_chk hz
            refine R_sld (pc := 264) rfl (dc k_L_law_2 28 rfl) hg_48 hg_49 hLs ?_
            refine R_cVP (pc := 265)  (As := [vI (Int32.toInt (xs (Int.toNat (l3_3 + 1))))]) (S := []) ck_L_28 (dc k_L_law_2 29 rfl) ⟨rfl, ⟨_, rfl, rfl⟩, (lb rfl), (lb rfl)⟩ (lb rfl) (lb rfl) (lb rfl) rfl (ct_X_fault hE_c_81_138_1_80 (lb rfl) (Z_bind hz)) (fun r_50 hz => ?_)
            refine R_aload_n (pc := 268) 2 (dc k_L_law_2 30 rfl) rfl rfl ?_
            refine R_aload_n (pc := 269) 0 (dc k_L_law_2 31 rfl) rfl rfl ?_
            refine R_iload_n (pc := 270) 3 (dc k_L_law_2 32 rfl) rfl rfl ?_
            refine R_iconst (pc := 271) (a := 1) (dc k_L_law_2 33 rfl) ?_
            refine R_iadd (pc := 272) (dc k_L_law_2 34 rfl) ?_
            refine R_sld (pc := 273) rfl (dc k_L_law_2 35 rfl) hg_48 hg_49 hLs ?_
            refine R_cVP (pc := 274)  (As := [vI (Int32.toInt (xs (Int.toNat (l3_3 + 1))))]) (S := [vI r_50]) ck_L_31 (dc k_L_law_2 36 rfl) ⟨rfl, ⟨_, rfl, rfl⟩, (lb rfl), (lb rfl)⟩ (lb rfl) (lb rfl) (lb rfl) rfl (ct_M_fault hE_m_81_138_1_80 (lb rfl) (Z_bind hz)) (fun r_51 hz => ?_)
            refine R_icmp_eq (pc := 277) 1240 (dc k_L_law_2 37 rfl) rfl (fun hc => ?_) (fun hc => ?_)
            · have hz := Z_neg (show ¬ (¬ n32 r_50 = n32 r_51) from (fun z => z hc)) hz
              exact hJ_17 _ hz
            · have hz := Z_pos (show ¬ n32 r_50 = n32 r_51 from hc) hz
              refine R_iconst (pc := 280) (a := 0) (dc k_L_law_2 38 rfl) ?_
              exact R_zret (pc := 281) (dc k_L_law_2 39 rfl) rfl (Or.inl rfl) rfl rfl ⟨_, rfl, (Z_some (hK_6 _ (hB_10 _ (Z_some hz))))⟩
          · have hz := Z_neg hs_53 hz
            by_cases hs_61 : n32 (iand (Int32.toInt (xs (Int.toNat l3_3))) 31) = 4
            · have hz := Z_pos hs_61 hz
              refine R_tabIn (pc := 33) 282 (dc k_L_law_0 21 rfl) hs_61 (by decide) (by decide) rfl rfl ?_
              refine R_aload_n (pc := 282) 1 (dc k_L_law_3 0 rfl) rfl rfl ?_
              refine R_aload_n (pc := 283) 0 (dc k_L_law_3 1 rfl) rfl rfl ?_
              refine R_iload_n (pc := 284) 3 (dc k_L_law_3 2 rfl) rfl rfl ?_
              refine R_iconst (pc := 285) (a := 1) (dc k_L_law_3 3 rfl) ?_
              refine R_iadd (pc := 286) (dc k_L_law_3 4 rfl) ?_
              obtain ⟨⟨hg_54, hg_55⟩, hz⟩ := Z_chk hz
              refine R_sld (pc := 287) rfl (dc k_L_law_3 5 rfl) hg_54 hg_55 hLs ?_
              refine R_aload_n (pc := 288) 0 (dc k_L_law_3 6 rfl) rfl rfl ?_
              refine R_iload_n (pc := 289) 3 (dc k_L_law_3 7 rfl) rfl rfl ?_
              refine R_iconst (pc := 290) (a := 2) (dc k_L_law_3 8 rfl) ?_
              refine R_iadd (pc := 291) (dc k_L_law_3 9 rfl) ?_
              obtain ⟨⟨hg_56, hg_57⟩, hz⟩ := Z_chk hz
              refine R_sld (pc := 292) rfl (dc k_L_law_3 10 rfl) hg_56 hg_57 hLs ?_
              refine R_cVP (pc := 293)  (As := [vI (Int32.toInt (xs (Int.toNat (l3_3 + 1)))), vI (Int32.toInt (xs (Int.toNat (l3_3 + 2))))]) (S := []) ck_L_32 (dc k_L_law_3 11 rfl) ⟨rfl, ⟨_, rfl, rfl⟩, (lb rfl), (lb rfl)⟩ (lb rfl) (lb rfl) (lb rfl) rfl (ct_X_is hE_c_81_138_1_80 (lb rfl) (Z_bind hz)) (fun r_58 hz => ?_)
              refine R_aload_n (pc := 296) 2 (dc k_L_law_3 12 rfl) rfl rfl ?_
              refine R_aload_n (pc := 297) 0 (dc k_L_law_3 13 rfl) rfl rfl ?_
              refine R_iload_n (pc := 298) 3 (dc k_L_law_3 14 rfl) rfl rfl ?_
              refine R_iconst (pc := 299) (a := 1) (dc k_L_law_3 15 rfl) ?_
              refine R_iadd (pc := 300) (dc k_L_law_3 16 rfl) ?_
              refine R_sld (pc := 301) rfl (dc k_L_law_3 17 rfl) hg_54 hg_55 hLs ?_
              refine R_aload_n (pc := 302) 0 (dc k_L_law_3 18 rfl) rfl rfl ?_
              refine R_iload_n (pc := 303) 3 (dc k_L_law_3 19 rfl) rfl rfl ?_
              refine R_iconst (pc := 304) (a := 2) (dc k_L_law_3 20 rfl) ?_
              refine R_iadd (pc := 305) (dc k_L_law_3 21 rfl) ?_
              refine R_sld (pc := 306) rfl (dc k_L_law_3 22 rfl) hg_56 hg_57 hLs ?_
              refine R_cVP (pc := 307)  (As := [vI (Int32.toInt (xs (Int.toNat (l3_3 + 1)))), vI (Int32.toInt (xs (Int.toNat (l3_3 + 2))))]) (S := [vI r_58]) ck_L_36 (dc k_L_law_3 23 rfl) ⟨rfl, ⟨_, rfl, rfl⟩, (lb rfl), (lb rfl)⟩ (lb rfl) (lb rfl) (lb rfl) rfl (ct_M_is hE_m_81_138_1_80 (lb rfl) (Z_bind hz)) (fun r_59 hz => ?_)
              refine R_icmp_eq (pc := 310) 1240 (dc k_L_law_3 24 rfl) rfl (fun hc => ?_) (fun hc => ?_)
              · have hz := Z_neg (show ¬ (¬ n32 r_58 = n32 r_59) from (fun z => z hc)) hz
                exact hJ_17 _ hz
              · have hz := Z_pos (show ¬ n32 r_58 = n32 r_59 from hc) hz
                refine R_iconst (pc := 313) (a := 0) (dc k_L_law_3 25 rfl) ?_
                exact R_zret (pc := 314) (dc k_L_law_3 26 rfl) rfl (Or.inl rfl) rfl rfl ⟨_, rfl, (Z_some (hK_6 _ (hB_10 _ (Z_some hz))))⟩
            · have hz := Z_neg hs_61 hz
              by_cases hs_71 : n32 (iand (Int32.toInt (xs (Int.toNat l3_3))) 31) = 5
              · have hz := Z_pos hs_71 hz
                refine R_tabIn (pc := 33) 315 (dc k_L_law_0 21 rfl) hs_71 (by decide) (by decide) rfl rfl ?_
                refine R_aload_n (pc := 315) 1 (dc k_L_law_3 27 rfl) rfl rfl ?_
                refine R_aload_n (pc := 316) 0 (dc k_L_law_3 28 rfl) rfl rfl ?_
                refine R_iload_n (pc := 317) 3 (dc k_L_law_3 29 rfl) rfl rfl ?_
                refine R_iconst (pc := 318) (a := 1) (dc k_L_law_3 30 rfl) ?_
                refine R_iadd (pc := 319) (dc k_L_law_3 31 rfl) ?_
                obtain ⟨⟨hg_62, hg_63⟩, hz⟩ := Z_chk hz
                refine R_sld (pc := 320) rfl (dc k_L_law_3 32 rfl) hg_62 hg_63 hLs ?_
                refine R_aload_n (pc := 321) 0 (dc k_L_law_3 33 rfl) rfl rfl ?_
                refine R_iload_n (pc := 322) 3 (dc k_L_law_3 34 rfl) rfl rfl ?_
                refine R_iconst (pc := 323) (a := 2) (dc k_L_law_3 35 rfl) ?_
                refine R_iadd (pc := 324) (dc k_L_law_3 36 rfl) ?_
                obtain ⟨⟨hg_64, hg_65⟩, hz⟩ := Z_chk hz
                refine R_sld (pc := 325) rfl (dc k_L_law_3 37 rfl) hg_64 hg_65 hLs ?_
                refine R_aload_n (pc := 326) 0 (dc k_L_law_3 38 rfl) rfl rfl ?_
                refine R_iload_n (pc := 327) 3 (dc k_L_law_3 39 rfl) rfl rfl ?_
                refine R_iconst (pc := 328) (a := 3) (dc k_L_law_4 0 rfl) ?_
                refine R_iadd (pc := 329) (dc k_L_law_4 1 rfl) ?_
                obtain ⟨⟨hg_66, hg_67⟩, hz⟩ := Z_chk hz
                refine R_sld (pc := 330) rfl (dc k_L_law_4 2 rfl) hg_66 hg_67 hLs ?_
                refine R_cVP (pc := 331)  (As := [vI (Int32.toInt (xs (Int.toNat (l3_3 + 1)))), vI (Int32.toInt (xs (Int.toNat (l3_3 + 2)))), vI (Int32.toInt (xs (Int.toNat (l3_3 + 3))))]) (S := []) ck_L_37 (dc k_L_law_4 3 rfl) ⟨rfl, ⟨_, rfl, rfl⟩, (lb rfl), (lb rfl)⟩ (lb rfl) (lb rfl) (lb rfl) rfl (ct_X_answers hE_c_81_138_1_80 (lb rfl) (Z_bind hz)) (fun r_68 hz => ?_)
                refine R_aload_n (pc := 334) 2 (dc k_L_law_4 4 rfl) rfl rfl ?_
                refine R_aload_n (pc := 335) 0 (dc k_L_law_4 5 rfl) rfl rfl ?_
                refine R_iload_n (pc := 336) 3 (dc k_L_law_4 6 rfl) rfl rfl ?_
                refine R_iconst (pc := 337) (a := 1) (dc k_L_law_4 7 rfl) ?_
                refine R_iadd (pc := 338) (dc k_L_law_4 8 rfl) ?_
                refine R_sld (pc := 339) rfl (dc k_L_law_4 9 rfl) hg_62 hg_63 hLs ?_
                refine R_aload_n (pc := 340) 0 (dc k_L_law_4 10 rfl) rfl rfl ?_
                refine R_iload_n (pc := 341) 3 (dc k_L_law_4 11 rfl) rfl rfl ?_
                refine R_iconst (pc := 342) (a := 2) (dc k_L_law_4 12 rfl) ?_
                refine R_iadd (pc := 343) (dc k_L_law_4 13 rfl) ?_
                refine R_sld (pc := 344) rfl (dc k_L_law_4 14 rfl) hg_64 hg_65 hLs ?_
                refine R_aload_n (pc := 345) 0 (dc k_L_law_4 15 rfl) rfl rfl ?_
                refine R_iload_n (pc := 346) 3 (dc k_L_law_4 16 rfl) rfl rfl ?_
                refine R_iconst (pc := 347) (a := 3) (dc k_L_law_4 17 rfl) ?_
                refine R_iadd (pc := 348) (dc k_L_law_4 18 rfl) ?_
                refine R_sld (pc := 349) rfl (dc k_L_law_4 19 rfl) hg_66 hg_67 hLs ?_
                refine R_cVP (pc := 350)  (As := [vI (Int32.toInt (xs (Int.toNat (l3_3 + 1)))), vI (Int32.toInt (xs (Int.toNat (l3_3 + 2)))), vI (Int32.toInt (xs (Int.toNat (l3_3 + 3))))]) (S := [vI r_68]) ck_L_41 (dc k_L_law_4 20 rfl) ⟨rfl, ⟨_, rfl, rfl⟩, (lb rfl), (lb rfl)⟩ (lb rfl) (lb rfl) (lb rfl) rfl (ct_M_answers hE_m_81_138_1_80 (lb rfl) (Z_bind hz)) (fun r_69 hz => ?_)
                refine R_icmp_eq (pc := 353) 1240 (dc k_L_law_4 21 rfl) rfl (fun hc => ?_) (fun hc => ?_)
                · have hz := Z_neg (show ¬ (¬ n32 r_68 = n32 r_69) from (fun z => z hc)) hz
                  exact hJ_17 _ hz
                · have hz := Z_pos (show ¬ n32 r_68 = n32 r_69 from hc) hz
                  refine R_iconst (pc := 356) (a := 0) (dc k_L_law_4 22 rfl) ?_
                  exact R_zret (pc := 357) (dc k_L_law_4 23 rfl) rfl (Or.inl rfl) rfl rfl ⟨_, rfl, (Z_some (hK_6 _ (hB_10 _ (Z_some hz))))⟩
              · have hz := Z_neg hs_71 hz
                by_cases hs_102 : n32 (iand (Int32.toInt (xs (Int.toNat l3_3))) 31) = 6
                · have hz := Z_pos hs_102 hz
                  refine R_tabIn (pc := 33) 358 (dc k_L_law_0 21 rfl) hs_102 (by decide) (by decide) rfl rfl ?_
                  refine R_aload_n (pc := 358) 1 (dc k_L_law_4 24 rfl) rfl rfl ?_
                  refine R_aload_n (pc := 359) 0 (dc k_L_law_4 25 rfl) rfl rfl ?_
                  refine R_iload_n (pc := 360) 3 (dc k_L_law_4 26 rfl) rfl rfl ?_
                  refine R_iconst (pc := 361) (a := 1) (dc k_L_law_4 27 rfl) ?_
                  refine R_iadd (pc := 362) (dc k_L_law_4 28 rfl) ?_
                  obtain ⟨⟨hg_72, hg_73⟩, hz⟩ := Z_chk hz
                  refine R_sld (pc := 363) rfl (dc k_L_law_4 29 rfl) hg_72 hg_73 hLs ?_
                  refine R_aload_n (pc := 364) 0 (dc k_L_law_4 30 rfl) rfl rfl ?_
                  refine R_iload_n (pc := 365) 3 (dc k_L_law_4 31 rfl) rfl rfl ?_
                  refine R_iconst (pc := 366) (a := 2) (dc k_L_law_4 32 rfl) ?_
                  refine R_iadd (pc := 367) (dc k_L_law_4 33 rfl) ?_
                  obtain ⟨⟨hg_74, hg_75⟩, hz⟩ := Z_chk hz
                  refine R_sld (pc := 368) rfl (dc k_L_law_4 34 rfl) hg_74 hg_75 hLs ?_
                  obtain ⟨K_77, hK_78, hz⟩ := Z_cut hz
                  have hJ_79 : ∀ (v_76 : Int), K_77 v_76 → Rr (y_L_law Ls xs) (61, 1373, 0, 138, (eI [(81, 138), (1, 80)])) (qM K) 377 [(0, vR 996), (1, vR 1), (2, vR 81), (3, vI l3_3)] [vI v_76, vI (Int32.toInt (xs (Int.toNat (l3_3 + 1)))), vR 1] (eI [(81, 138), (1, 80)]) 138 M_4 := by
                    intro v_76 hk
                    have hz := hK_78 _ hk
                    refine R_aload_n (pc := 377) 0 (dc k_L_law_4 39 rfl) rfl rfl ?_
                    refine R_iload_n (pc := 378) 3 (dc k_L_law_5 0 rfl) rfl rfl ?_
                    refine R_iconst (pc := 379) (a := 3) (dc k_L_law_5 1 rfl) ?_
                    refine R_iadd (pc := 380) (dc k_L_law_5 2 rfl) ?_
                    obtain ⟨⟨hg_81, hg_82⟩, hz⟩ := Z_chk hz
                    refine R_sld (pc := 381) rfl (dc k_L_law_5 3 rfl) hg_81 hg_82 hLs ?_
                    obtain ⟨K_84, hK_85, hz⟩ := Z_cut hz
                    have hJ_86 : ∀ (v_83 : Int), K_84 v_83 → Rr (y_L_law Ls xs) (61, 1373, 0, 138, (eI [(81, 138), (1, 80)])) (qM K) 390 [(0, vR 996), (1, vR 1), (2, vR 81), (3, vI l3_3)] [vI v_83, vI v_76, vI (Int32.toInt (xs (Int.toNat (l3_3 + 1)))), vR 1] (eI [(81, 138), (1, 80)]) 138 M_4 := by
                      intro v_83 hk
                      have hz := hK_85 _ hk
                      refine R_cVP (pc := 390)  (As := [vI (Int32.toInt (xs (Int.toNat (l3_3 + 1)))), vI v_76, vI v_83]) (S := []) ck_L_42 (dc k_L_law_5 8 rfl) ⟨rfl, ⟨_, rfl, rfl⟩, (lb rfl), (lb rfl)⟩ (lb rfl) (lb rfl) (lb rfl) rfl (ct_X_lies hE_c_81_138_1_80 (lb rfl) (Z_bind hz)) (fun r_88 hz => ?_)
                      refine R_aload_n (pc := 393) 2 (dc k_L_law_5 9 rfl) rfl rfl ?_
                      refine R_aload_n (pc := 394) 0 (dc k_L_law_5 10 rfl) rfl rfl ?_
                      refine R_iload_n (pc := 395) 3 (dc k_L_law_5 11 rfl) rfl rfl ?_
                      refine R_iconst (pc := 396) (a := 1) (dc k_L_law_5 12 rfl) ?_
                      refine R_iadd (pc := 397) (dc k_L_law_5 13 rfl) ?_
                      refine R_sld (pc := 398) rfl (dc k_L_law_5 14 rfl) hg_72 hg_73 hLs ?_
                      refine R_aload_n (pc := 399) 0 (dc k_L_law_5 15 rfl) rfl rfl ?_
                      refine R_iload_n (pc := 400) 3 (dc k_L_law_5 16 rfl) rfl rfl ?_
                      refine R_iconst (pc := 401) (a := 2) (dc k_L_law_5 17 rfl) ?_
                      refine R_iadd (pc := 402) (dc k_L_law_5 18 rfl) ?_
                      refine R_sld (pc := 403) rfl (dc k_L_law_5 19 rfl) hg_74 hg_75 hLs ?_
                      obtain ⟨K_90, hK_91, hz⟩ := Z_cut hz
                      have hJ_92 : ∀ (v_89 : Int), K_90 v_89 → Rr (y_L_law Ls xs) (61, 1373, 0, 138, (eI [(81, 138), (1, 80)])) (qM K) 412 [(0, vR 996), (1, vR 1), (2, vR 81), (3, vI l3_3)] [vI v_89, vI (Int32.toInt (xs (Int.toNat (l3_3 + 1)))), vR 81, vI r_88] (eI [(81, 138), (1, 80)]) 138 M_4 := by
                        intro v_89 hk
                        have hz := hK_91 _ hk
                        refine R_aload_n (pc := 412) 0 (dc k_L_law_5 24 rfl) rfl rfl ?_
                        refine R_iload_n (pc := 413) 3 (dc k_L_law_5 25 rfl) rfl rfl ?_
                        refine R_iconst (pc := 414) (a := 3) (dc k_L_law_5 26 rfl) ?_
                        refine R_iadd (pc := 415) (dc k_L_law_5 27 rfl) ?_
                        refine R_sld (pc := 416) rfl (dc k_L_law_5 28 rfl) hg_81 hg_82 hLs ?_
                        obtain ⟨K_95, hK_96, hz⟩ := Z_cut hz
                        have hJ_97 : ∀ (v_94 : Int), K_95 v_94 → Rr (y_L_law Ls xs) (61, 1373, 0, 138, (eI [(81, 138), (1, 80)])) (qM K) 425 [(0, vR 996), (1, vR 1), (2, vR 81), (3, vI l3_3)] [vI v_94, vI v_89, vI (Int32.toInt (xs (Int.toNat (l3_3 + 1)))), vR 81, vI r_88] (eI [(81, 138), (1, 80)]) 138 M_4 := by
                          intro v_94 hk
                          have hz := hK_96 _ hk
                          refine R_cVM (pc := 425)  (As := [vI (Int32.toInt (xs (Int.toNat (l3_3 + 1)))), vI v_89, vI v_94]) (S := [vI r_88]) ck_L_46 (dc k_L_law_5 33 rfl) ⟨rfl, ⟨_, rfl, rfl⟩, (lb rfl), (lb rfl)⟩ (lb rfl) (lb rfl) (lb rfl) rfl (ct_M_lies hE_m_81_138_1_80 (lb rfl) (Z_bind hz)) (fun r_99 M_100 hz => ?_)
                          refine R_icmp_eq (pc := 428) 1240 (dc k_L_law_5 34 rfl) rfl (fun hc => ?_) (fun hc => ?_)
                          · have hz := Z_neg (show ¬ (¬ n32 r_88 = n32 r_99) from (fun z => z hc)) hz
                            exact hJ_17 _ hz
                          · have hz := Z_pos (show ¬ n32 r_88 = n32 r_99 from hc) hz
                            refine R_iconst (pc := 431) (a := 0) (dc k_L_law_5 35 rfl) ?_
                            exact R_zret (pc := 432) (dc k_L_law_5 36 rfl) rfl (Or.inl rfl) rfl rfl ⟨_, rfl, (Z_some (hK_6 _ (hB_10 _ (Z_some hz))))⟩
                        refine R_if_eq (pc := 417) 424 (dc k_L_law_5 29 rfl) rfl (fun hc => ?_) (fun hc => ?_)
                        · have hz := Z_neg (show ¬ (¬ n32 (Int32.toInt (xs (Int.toNat (l3_3 + 3)))) = 0) from (fun z => z hc)) hz
                          refine R_iconst (pc := 424) (a := 0) (dc k_L_law_5 32 rfl) ?_
                          exact hJ_97 _ (Z_some hz)
                        · have hz := Z_pos (show ¬ n32 (Int32.toInt (xs (Int.toNat (l3_3 + 3)))) = 0 from hc) hz
                          refine R_iconst (pc := 420) (a := 1) (dc k_L_law_5 30 rfl) ?_
                          refine R_goto (pc := 421) 425 (dc k_L_law_5 31 rfl) rfl ?_
                          exact hJ_97 _ (Z_some hz)
                      refine R_if_eq (pc := 404) 411 (dc k_L_law_5 20 rfl) rfl (fun hc => ?_) (fun hc => ?_)
                      · have hz := Z_neg (show ¬ (¬ n32 (Int32.toInt (xs (Int.toNat (l3_3 + 2)))) = 0) from (fun z => z hc)) hz
                        refine R_iconst (pc := 411) (a := 0) (dc k_L_law_5 23 rfl) ?_
                        exact hJ_92 _ (Z_some hz)
                      · have hz := Z_pos (show ¬ n32 (Int32.toInt (xs (Int.toNat (l3_3 + 2)))) = 0 from hc) hz
                        refine R_iconst (pc := 407) (a := 1) (dc k_L_law_5 21 rfl) ?_
                        refine R_goto (pc := 408) 412 (dc k_L_law_5 22 rfl) rfl ?_
                        exact hJ_92 _ (Z_some hz)
                    refine R_if_eq (pc := 382) 389 (dc k_L_law_5 4 rfl) rfl (fun hc => ?_) (fun hc => ?_)
                    · have hz := Z_neg (show ¬ (¬ n32 (Int32.toInt (xs (Int.toNat (l3_3 + 3)))) = 0) from (fun z => z hc)) hz
                      refine R_iconst (pc := 389) (a := 0) (dc k_L_law_5 7 rfl) ?_
                      exact hJ_86 _ (Z_some hz)
                    · have hz := Z_pos (show ¬ n32 (Int32.toInt (xs (Int.toNat (l3_3 + 3)))) = 0 from hc) hz
                      refine R_iconst (pc := 385) (a := 1) (dc k_L_law_5 5 rfl) ?_
                      refine R_goto (pc := 386) 390 (dc k_L_law_5 6 rfl) rfl ?_
                      exact hJ_86 _ (Z_some hz)
                  refine R_if_eq (pc := 369) 376 (dc k_L_law_4 35 rfl) rfl (fun hc => ?_) (fun hc => ?_)
                  · have hz := Z_neg (show ¬ (¬ n32 (Int32.toInt (xs (Int.toNat (l3_3 + 2)))) = 0) from (fun z => z hc)) hz
                    refine R_iconst (pc := 376) (a := 0) (dc k_L_law_4 38 rfl) ?_
                    exact hJ_79 _ (Z_some hz)
                  · have hz := Z_pos (show ¬ n32 (Int32.toInt (xs (Int.toNat (l3_3 + 2)))) = 0 from hc) hz
                    refine R_iconst (pc := 372) (a := 1) (dc k_L_law_4 36 rfl) ?_
                    refine R_goto (pc := 373) 377 (dc k_L_law_4 37 rfl) rfl ?_
                    exact hJ_79 _ (Z_some hz)
                · have hz := Z_neg hs_102 hz
                  by_cases hs_138 : n32 (iand (Int32.toInt (xs (Int.toNat l3_3))) 31) = 7
                  · have hz := Z_pos hs_138 hz
                    refine R_tabIn (pc := 33) 433 (dc k_L_law_0 21 rfl) hs_138 (by decide) (by decide) rfl rfl ?_
                    refine R_aload_n (pc := 433) 1 (dc k_L_law_5 37 rfl) rfl rfl ?_
                    refine R_aload_n (pc := 434) 0 (dc k_L_law_5 38 rfl) rfl rfl ?_
                    refine R_iload_n (pc := 435) 3 (dc k_L_law_5 39 rfl) rfl rfl ?_
                    refine R_iconst (pc := 436) (a := 1) (dc k_L_law_6 0 rfl) ?_
                    refine R_iadd (pc := 437) (dc k_L_law_6 1 rfl) ?_
                    obtain ⟨⟨hg_103, hg_104⟩, hz⟩ := Z_chk hz
                    refine R_sld (pc := 438) rfl (dc k_L_law_6 2 rfl) hg_103 hg_104 hLs ?_
                    refine R_aload_n (pc := 439) 0 (dc k_L_law_6 3 rfl) rfl rfl ?_
                    refine R_iload_n (pc := 440) 3 (dc k_L_law_6 4 rfl) rfl rfl ?_
                    refine R_iconst (pc := 441) (a := 2) (dc k_L_law_6 5 rfl) ?_
                    refine R_iadd (pc := 442) (dc k_L_law_6 6 rfl) ?_
                    obtain ⟨⟨hg_105, hg_106⟩, hz⟩ := Z_chk hz
                    refine R_sld (pc := 443) rfl (dc k_L_law_6 7 rfl) hg_105 hg_106 hLs ?_
                    refine R_aload_n (pc := 444) 0 (dc k_L_law_6 8 rfl) rfl rfl ?_
                    refine R_iload_n (pc := 445) 3 (dc k_L_law_6 9 rfl) rfl rfl ?_
                    refine R_iconst (pc := 446) (a := 3) (dc k_L_law_6 10 rfl) ?_
                    refine R_iadd (pc := 447) (dc k_L_law_6 11 rfl) ?_
                    obtain ⟨⟨hg_107, hg_108⟩, hz⟩ := Z_chk hz
                    refine R_sld (pc := 448) rfl (dc k_L_law_6 12 rfl) hg_107 hg_108 hLs ?_
                    obtain ⟨K_110, hK_111, hz⟩ := Z_cut hz
                    have hJ_112 : ∀ (v_109 : Int), K_110 v_109 → Rr (y_L_law Ls xs) (61, 1373, 0, 138, (eI [(81, 138), (1, 80)])) (qM K) 457 [(0, vR 996), (1, vR 1), (2, vR 81), (3, vI l3_3)] [vI v_109, vI (Int32.toInt (xs (Int.toNat (l3_3 + 2)))), vI (Int32.toInt (xs (Int.toNat (l3_3 + 1)))), vR 1] (eI [(81, 138), (1, 80)]) 138 M_4 := by
                      intro v_109 hk
                      have hz := hK_111 _ hk
                      refine R_aload_n (pc := 457) 0 (dc k_L_law_6 17 rfl) rfl rfl ?_
                      refine R_iload_n (pc := 458) 3 (dc k_L_law_6 18 rfl) rfl rfl ?_
                      refine R_iconst (pc := 459) (a := 4) (dc k_L_law_6 19 rfl) ?_
                      refine R_iadd (pc := 460) (dc k_L_law_6 20 rfl) ?_
                      obtain ⟨⟨hg_114, hg_115⟩, hz⟩ := Z_chk hz
                      refine R_sld (pc := 461) rfl (dc k_L_law_6 21 rfl) hg_114 hg_115 hLs ?_
                      obtain ⟨K_117, hK_118, hz⟩ := Z_cut hz
                      have hJ_119 : ∀ (v_116 : Int), K_117 v_116 → Rr (y_L_law Ls xs) (61, 1373, 0, 138, (eI [(81, 138), (1, 80)])) (qM K) 470 [(0, vR 996), (1, vR 1), (2, vR 81), (3, vI l3_3)] [vI v_116, vI v_109, vI (Int32.toInt (xs (Int.toNat (l3_3 + 2)))), vI (Int32.toInt (xs (Int.toNat (l3_3 + 1)))), vR 1] (eI [(81, 138), (1, 80)]) 138 M_4 := by
                        intro v_116 hk
                        have hz := hK_118 _ hk
                        refine R_aload_n (pc := 470) 0 (dc k_L_law_6 26 rfl) rfl rfl ?_
                        refine R_iload_n (pc := 471) 3 (dc k_L_law_6 27 rfl) rfl rfl ?_
                        refine R_iconst (pc := 472) (a := 5) (dc k_L_law_6 28 rfl) ?_
                        refine R_iadd (pc := 473) (dc k_L_law_6 29 rfl) ?_
                        obtain ⟨⟨hg_121, hg_122⟩, hz⟩ := Z_chk hz
                        refine R_sld (pc := 474) rfl (dc k_L_law_6 30 rfl) hg_121 hg_122 hLs ?_
                        refine R_cVM (pc := 475)  (As := [vI (Int32.toInt (xs (Int.toNat (l3_3 + 1)))), vI (Int32.toInt (xs (Int.toNat (l3_3 + 2)))), vI v_109, vI v_116, vI (Int32.toInt (xs (Int.toNat (l3_3 + 5))))]) (S := []) ck_L_47 (dc k_L_law_6 31 rfl) ⟨rfl, ⟨_, rfl, rfl⟩, (lb rfl), (lb rfl)⟩ (lb rfl) (lb rfl) (lb rfl) rfl (ct_X_may hE_c_81_138_1_80 (lb rfl) (Z_bind hz)) (fun r_123 M_124 hz => ?_)
                        refine R_aload_n (pc := 478) 2 (dc k_L_law_6 32 rfl) rfl rfl ?_
                        refine R_aload_n (pc := 479) 0 (dc k_L_law_6 33 rfl) rfl rfl ?_
                        refine R_iload_n (pc := 480) 3 (dc k_L_law_6 34 rfl) rfl rfl ?_
                        refine R_iconst (pc := 481) (a := 1) (dc k_L_law_6 35 rfl) ?_
                        refine R_iadd (pc := 482) (dc k_L_law_6 36 rfl) ?_
                        refine R_sld (pc := 483) rfl (dc k_L_law_6 37 rfl) hg_103 hg_104 hLs ?_
                        refine R_aload_n (pc := 484) 0 (dc k_L_law_6 38 rfl) rfl rfl ?_
                        refine R_iload_n (pc := 485) 3 (dc k_L_law_6 39 rfl) rfl rfl ?_
                        refine R_iconst (pc := 486) (a := 2) (dc k_L_law_7 0 rfl) ?_
                        refine R_iadd (pc := 487) (dc k_L_law_7 1 rfl) ?_
                        refine R_sld (pc := 488) rfl (dc k_L_law_7 2 rfl) hg_105 hg_106 hLs ?_
                        refine R_aload_n (pc := 489) 0 (dc k_L_law_7 3 rfl) rfl rfl ?_
                        refine R_iload_n (pc := 490) 3 (dc k_L_law_7 4 rfl) rfl rfl ?_
                        refine R_iconst (pc := 491) (a := 3) (dc k_L_law_7 5 rfl) ?_
                        refine R_iadd (pc := 492) (dc k_L_law_7 6 rfl) ?_
                        refine R_sld (pc := 493) rfl (dc k_L_law_7 7 rfl) hg_107 hg_108 hLs ?_
                        obtain ⟨K_126, hK_127, hz⟩ := Z_cut hz
                        have hJ_128 : ∀ (v_125 : Int), K_126 v_125 → Rr (y_L_law Ls xs) (61, 1373, 0, 138, (eI [(81, 138), (1, 80)])) (qM K) 502 [(0, vR 996), (1, vR 1), (2, vR 81), (3, vI l3_3)] [vI v_125, vI (Int32.toInt (xs (Int.toNat (l3_3 + 2)))), vI (Int32.toInt (xs (Int.toNat (l3_3 + 1)))), vR 81, vI r_123] (eI [(81, 138), (1, 80)]) 138 M_124 := by
                          intro v_125 hk
                          have hz := hK_127 _ hk
                          refine R_aload_n (pc := 502) 0 (dc k_L_law_7 12 rfl) rfl rfl ?_
                          refine R_iload_n (pc := 503) 3 (dc k_L_law_7 13 rfl) rfl rfl ?_
                          refine R_iconst (pc := 504) (a := 4) (dc k_L_law_7 14 rfl) ?_
                          refine R_iadd (pc := 505) (dc k_L_law_7 15 rfl) ?_
                          refine R_sld (pc := 506) rfl (dc k_L_law_7 16 rfl) hg_114 hg_115 hLs ?_
                          obtain ⟨K_131, hK_132, hz⟩ := Z_cut hz
                          have hJ_133 : ∀ (v_130 : Int), K_131 v_130 → Rr (y_L_law Ls xs) (61, 1373, 0, 138, (eI [(81, 138), (1, 80)])) (qM K) 515 [(0, vR 996), (1, vR 1), (2, vR 81), (3, vI l3_3)] [vI v_130, vI v_125, vI (Int32.toInt (xs (Int.toNat (l3_3 + 2)))), vI (Int32.toInt (xs (Int.toNat (l3_3 + 1)))), vR 81, vI r_123] (eI [(81, 138), (1, 80)]) 138 M_124 := by
                            intro v_130 hk
                            have hz := hK_132 _ hk
                            refine R_aload_n (pc := 515) 0 (dc k_L_law_7 21 rfl) rfl rfl ?_
                            refine R_iload_n (pc := 516) 3 (dc k_L_law_7 22 rfl) rfl rfl ?_
                            refine R_iconst (pc := 517) (a := 5) (dc k_L_law_7 23 rfl) ?_
                            refine R_iadd (pc := 518) (dc k_L_law_7 24 rfl) ?_
                            refine R_sld (pc := 519) rfl (dc k_L_law_7 25 rfl) hg_121 hg_122 hLs ?_
                            refine R_cVM (pc := 520)  (As := [vI (Int32.toInt (xs (Int.toNat (l3_3 + 1)))), vI (Int32.toInt (xs (Int.toNat (l3_3 + 2)))), vI v_125, vI v_130, vI (Int32.toInt (xs (Int.toNat (l3_3 + 5))))]) (S := [vI r_123]) ck_L_51 (dc k_L_law_7 26 rfl) ⟨rfl, ⟨_, rfl, rfl⟩, (lb rfl), (lb rfl)⟩ (lb rfl) (lb rfl) (lb rfl) rfl (ct_M_may hE_m_81_138_1_80 (lb rfl) (Z_bind hz)) (fun r_135 M_136 hz => ?_)
                            refine R_icmp_eq (pc := 523) 1240 (dc k_L_law_7 27 rfl) rfl (fun hc => ?_) (fun hc => ?_)
                            · have hz := Z_neg (show ¬ (¬ n32 r_123 = n32 r_135) from (fun z => z hc)) hz
                              exact hJ_17 _ hz
                            · have hz := Z_pos (show ¬ n32 r_123 = n32 r_135 from hc) hz
                              refine R_iconst (pc := 526) (a := 0) (dc k_L_law_7 28 rfl) ?_
                              exact R_zret (pc := 527) (dc k_L_law_7 29 rfl) rfl (Or.inl rfl) rfl rfl ⟨_, rfl, (Z_some (hK_6 _ (hB_10 _ (Z_some hz))))⟩
                          refine R_if_eq (pc := 507) 514 (dc k_L_law_7 17 rfl) rfl (fun hc => ?_) (fun hc => ?_)
                          · have hz := Z_neg (show ¬ (¬ n32 (Int32.toInt (xs (Int.toNat (l3_3 + 4)))) = 0) from (fun z => z hc)) hz
                            refine R_iconst (pc := 514) (a := 0) (dc k_L_law_7 20 rfl) ?_
                            exact hJ_133 _ (Z_some hz)
                          · have hz := Z_pos (show ¬ n32 (Int32.toInt (xs (Int.toNat (l3_3 + 4)))) = 0 from hc) hz
                            refine R_iconst (pc := 510) (a := 1) (dc k_L_law_7 18 rfl) ?_
                            refine R_goto (pc := 511) 515 (dc k_L_law_7 19 rfl) rfl ?_
                            exact hJ_133 _ (Z_some hz)
                        refine R_if_eq (pc := 494) 501 (dc k_L_law_7 8 rfl) rfl (fun hc => ?_) (fun hc => ?_)
                        · have hz := Z_neg (show ¬ (¬ n32 (Int32.toInt (xs (Int.toNat (l3_3 + 3)))) = 0) from (fun z => z hc)) hz
                          refine R_iconst (pc := 501) (a := 0) (dc k_L_law_7 11 rfl) ?_
                          exact hJ_128 _ (Z_some hz)
                        · have hz := Z_pos (show ¬ n32 (Int32.toInt (xs (Int.toNat (l3_3 + 3)))) = 0 from hc) hz
                          refine R_iconst (pc := 497) (a := 1) (dc k_L_law_7 9 rfl) ?_
                          refine R_goto (pc := 498) 502 (dc k_L_law_7 10 rfl) rfl ?_
                          exact hJ_128 _ (Z_some hz)
                      refine R_if_eq (pc := 462) 469 (dc k_L_law_6 22 rfl) rfl (fun hc => ?_) (fun hc => ?_)
                      · have hz := Z_neg (show ¬ (¬ n32 (Int32.toInt (xs (Int.toNat (l3_3 + 4)))) = 0) from (fun z => z hc)) hz
                        refine R_iconst (pc := 469) (a := 0) (dc k_L_law_6 25 rfl) ?_
                        exact hJ_119 _ (Z_some hz)
                      · have hz := Z_pos (show ¬ n32 (Int32.toInt (xs (Int.toNat (l3_3 + 4)))) = 0 from hc) hz
                        refine R_iconst (pc := 465) (a := 1) (dc k_L_law_6 23 rfl) ?_
                        refine R_goto (pc := 466) 470 (dc k_L_law_6 24 rfl) rfl ?_
                        exact hJ_119 _ (Z_some hz)
                    refine R_if_eq (pc := 449) 456 (dc k_L_law_6 13 rfl) rfl (fun hc => ?_) (fun hc => ?_)
                    · have hz := Z_neg (show ¬ (¬ n32 (Int32.toInt (xs (Int.toNat (l3_3 + 3)))) = 0) from (fun z => z hc)) hz
                      refine R_iconst (pc := 456) (a := 0) (dc k_L_law_6 16 rfl) ?_
                      exact hJ_112 _ (Z_some hz)
                    · have hz := Z_pos (show ¬ n32 (Int32.toInt (xs (Int.toNat (l3_3 + 3)))) = 0 from hc) hz
                      refine R_iconst (pc := 452) (a := 1) (dc k_L_law_6 14 rfl) ?_
                      refine R_goto (pc := 453) 457 (dc k_L_law_6 15 rfl) rfl ?_
                      exact hJ_112 _ (Z_some hz)
                  · have hz := Z_neg hs_138 hz
                    by_cases hs_172 : n32 (iand (Int32.toInt (xs (Int.toNat l3_3))) 31) = 8
                    · have hz := Z_pos hs_172 hz
                      refine R_tabIn (pc := 33) 528 (dc k_L_law_0 21 rfl) hs_172 (by decide) (by decide) rfl rfl ?_
                      refine R_aload_n (pc := 528) 1 (dc k_L_law_7 30 rfl) rfl rfl ?_
                      refine R_aload_n (pc := 529) 0 (dc k_L_law_7 31 rfl) rfl rfl ?_
                      refine R_iload_n (pc := 530) 3 (dc k_L_law_7 32 rfl) rfl rfl ?_
                      refine R_iconst (pc := 531) (a := 1) (dc k_L_law_7 33 rfl) ?_
                      refine R_iadd (pc := 532) (dc k_L_law_7 34 rfl) ?_
                      obtain ⟨⟨hg_139, hg_140⟩, hz⟩ := Z_chk hz
                      refine R_sld (pc := 533) rfl (dc k_L_law_7 35 rfl) hg_139 hg_140 hLs ?_
                      refine R_aload_n (pc := 534) 0 (dc k_L_law_7 36 rfl) rfl rfl ?_
                      refine R_iload_n (pc := 535) 3 (dc k_L_law_7 37 rfl) rfl rfl ?_
                      refine R_iconst (pc := 536) (a := 2) (dc k_L_law_7 38 rfl) ?_
                      refine R_iadd (pc := 537) (dc k_L_law_7 39 rfl) ?_
                      obtain ⟨⟨hg_141, hg_142⟩, hz⟩ := Z_chk hz
                      refine R_sld (pc := 538) rfl (dc k_L_law_8 0 rfl) hg_141 hg_142 hLs ?_
                      refine R_aload_n (pc := 539) 0 (dc k_L_law_8 1 rfl) rfl rfl ?_
                      refine R_iload_n (pc := 540) 3 (dc k_L_law_8 2 rfl) rfl rfl ?_
                      refine R_iconst (pc := 541) (a := 3) (dc k_L_law_8 3 rfl) ?_
                      refine R_iadd (pc := 542) (dc k_L_law_8 4 rfl) ?_
                      obtain ⟨⟨hg_143, hg_144⟩, hz⟩ := Z_chk hz
                      refine R_sld (pc := 543) rfl (dc k_L_law_8 5 rfl) hg_143 hg_144 hLs ?_
                      obtain ⟨K_146, hK_147, hz⟩ := Z_cut hz
                      have hJ_148 : ∀ (v_145 : Int), K_146 v_145 → Rr (y_L_law Ls xs) (61, 1373, 0, 138, (eI [(81, 138), (1, 80)])) (qM K) 552 [(0, vR 996), (1, vR 1), (2, vR 81), (3, vI l3_3)] [vI v_145, vI (Int32.toInt (xs (Int.toNat (l3_3 + 2)))), vI (Int32.toInt (xs (Int.toNat (l3_3 + 1)))), vR 1] (eI [(81, 138), (1, 80)]) 138 M_4 := by
                        intro v_145 hk
                        have hz := hK_147 _ hk
                        refine R_aload_n (pc := 552) 0 (dc k_L_law_8 10 rfl) rfl rfl ?_
                        refine R_iload_n (pc := 553) 3 (dc k_L_law_8 11 rfl) rfl rfl ?_
                        refine R_iconst (pc := 554) (a := 4) (dc k_L_law_8 12 rfl) ?_
                        refine R_iadd (pc := 555) (dc k_L_law_8 13 rfl) ?_
                        obtain ⟨⟨hg_150, hg_151⟩, hz⟩ := Z_chk hz
                        refine R_sld (pc := 556) rfl (dc k_L_law_8 14 rfl) hg_150 hg_151 hLs ?_
                        obtain ⟨K_153, hK_154, hz⟩ := Z_cut hz
                        have hJ_155 : ∀ (v_152 : Int), K_153 v_152 → Rr (y_L_law Ls xs) (61, 1373, 0, 138, (eI [(81, 138), (1, 80)])) (qM K) 565 [(0, vR 996), (1, vR 1), (2, vR 81), (3, vI l3_3)] [vI v_152, vI v_145, vI (Int32.toInt (xs (Int.toNat (l3_3 + 2)))), vI (Int32.toInt (xs (Int.toNat (l3_3 + 1)))), vR 1] (eI [(81, 138), (1, 80)]) 138 M_4 := by
                          intro v_152 hk
                          have hz := hK_154 _ hk
                          refine R_cVM (pc := 565)  (As := [vI (Int32.toInt (xs (Int.toNat (l3_3 + 1)))), vI (Int32.toInt (xs (Int.toNat (l3_3 + 2)))), vI v_145, vI v_152]) (S := []) ck_L_52 (dc k_L_law_8 19 rfl) ⟨rfl, ⟨_, rfl, rfl⟩, (lb rfl), (lb rfl)⟩ (lb rfl) (lb rfl) (lb rfl) rfl (ct_X_say hE_c_81_138_1_80 (lb rfl) (Z_bind hz)) (fun r_157 M_158 hz => ?_)
                          refine R_aload_n (pc := 568) 2 (dc k_L_law_8 20 rfl) rfl rfl ?_
                          refine R_aload_n (pc := 569) 0 (dc k_L_law_8 21 rfl) rfl rfl ?_
                          refine R_iload_n (pc := 570) 3 (dc k_L_law_8 22 rfl) rfl rfl ?_
                          refine R_iconst (pc := 571) (a := 1) (dc k_L_law_8 23 rfl) ?_
                          refine R_iadd (pc := 572) (dc k_L_law_8 24 rfl) ?_
                          refine R_sld (pc := 573) rfl (dc k_L_law_8 25 rfl) hg_139 hg_140 hLs ?_
                          refine R_aload_n (pc := 574) 0 (dc k_L_law_8 26 rfl) rfl rfl ?_
                          refine R_iload_n (pc := 575) 3 (dc k_L_law_8 27 rfl) rfl rfl ?_
                          refine R_iconst (pc := 576) (a := 2) (dc k_L_law_8 28 rfl) ?_
                          refine R_iadd (pc := 577) (dc k_L_law_8 29 rfl) ?_
                          refine R_sld (pc := 578) rfl (dc k_L_law_8 30 rfl) hg_141 hg_142 hLs ?_
                          refine R_aload_n (pc := 579) 0 (dc k_L_law_8 31 rfl) rfl rfl ?_
                          refine R_iload_n (pc := 580) 3 (dc k_L_law_8 32 rfl) rfl rfl ?_
                          refine R_iconst (pc := 581) (a := 3) (dc k_L_law_8 33 rfl) ?_
                          refine R_iadd (pc := 582) (dc k_L_law_8 34 rfl) ?_
                          refine R_sld (pc := 583) rfl (dc k_L_law_8 35 rfl) hg_143 hg_144 hLs ?_
                          obtain ⟨K_160, hK_161, hz⟩ := Z_cut hz
                          have hJ_162 : ∀ (v_159 : Int), K_160 v_159 → Rr (y_L_law Ls xs) (61, 1373, 0, 138, (eI [(81, 138), (1, 80)])) (qM K) 592 [(0, vR 996), (1, vR 1), (2, vR 81), (3, vI l3_3)] [vI v_159, vI (Int32.toInt (xs (Int.toNat (l3_3 + 2)))), vI (Int32.toInt (xs (Int.toNat (l3_3 + 1)))), vR 81, vI r_157] (eI [(81, 138), (1, 80)]) 138 M_158 := by
                            intro v_159 hk
                            have hz := hK_161 _ hk
                            refine R_aload_n (pc := 592) 0 (dc k_L_law_9 0 rfl) rfl rfl ?_
                            refine R_iload_n (pc := 593) 3 (dc k_L_law_9 1 rfl) rfl rfl ?_
                            refine R_iconst (pc := 594) (a := 4) (dc k_L_law_9 2 rfl) ?_
                            refine R_iadd (pc := 595) (dc k_L_law_9 3 rfl) ?_
                            refine R_sld (pc := 596) rfl (dc k_L_law_9 4 rfl) hg_150 hg_151 hLs ?_
                            obtain ⟨K_165, hK_166, hz⟩ := Z_cut hz
                            have hJ_167 : ∀ (v_164 : Int), K_165 v_164 → Rr (y_L_law Ls xs) (61, 1373, 0, 138, (eI [(81, 138), (1, 80)])) (qM K) 605 [(0, vR 996), (1, vR 1), (2, vR 81), (3, vI l3_3)] [vI v_164, vI v_159, vI (Int32.toInt (xs (Int.toNat (l3_3 + 2)))), vI (Int32.toInt (xs (Int.toNat (l3_3 + 1)))), vR 81, vI r_157] (eI [(81, 138), (1, 80)]) 138 M_158 := by
                              intro v_164 hk
                              have hz := hK_166 _ hk
                              refine R_cVM (pc := 605)  (As := [vI (Int32.toInt (xs (Int.toNat (l3_3 + 1)))), vI (Int32.toInt (xs (Int.toNat (l3_3 + 2)))), vI v_159, vI v_164]) (S := [vI r_157]) ck_L_56 (dc k_L_law_9 9 rfl) ⟨rfl, ⟨_, rfl, rfl⟩, (lb rfl), (lb rfl)⟩ (lb rfl) (lb rfl) (lb rfl) rfl (ct_M_say hE_m_81_138_1_80 (lb rfl) (Z_bind hz)) (fun r_169 M_170 hz => ?_)
                              refine R_icmp_eq (pc := 608) 1240 (dc k_L_law_9 10 rfl) rfl (fun hc => ?_) (fun hc => ?_)
                              · have hz := Z_neg (show ¬ (¬ n32 r_157 = n32 r_169) from (fun z => z hc)) hz
                                exact hJ_17 _ hz
                              · have hz := Z_pos (show ¬ n32 r_157 = n32 r_169 from hc) hz
                                refine R_iconst (pc := 611) (a := 0) (dc k_L_law_9 11 rfl) ?_
                                exact R_zret (pc := 612) (dc k_L_law_9 12 rfl) rfl (Or.inl rfl) rfl rfl ⟨_, rfl, (Z_some (hK_6 _ (hB_10 _ (Z_some hz))))⟩
                            refine R_if_eq (pc := 597) 604 (dc k_L_law_9 5 rfl) rfl (fun hc => ?_) (fun hc => ?_)
                            · have hz := Z_neg (show ¬ (¬ n32 (Int32.toInt (xs (Int.toNat (l3_3 + 4)))) = 0) from (fun z => z hc)) hz
                              refine R_iconst (pc := 604) (a := 0) (dc k_L_law_9 8 rfl) ?_
                              exact hJ_167 _ (Z_some hz)
                            · have hz := Z_pos (show ¬ n32 (Int32.toInt (xs (Int.toNat (l3_3 + 4)))) = 0 from hc) hz
                              refine R_iconst (pc := 600) (a := 1) (dc k_L_law_9 6 rfl) ?_
                              refine R_goto (pc := 601) 605 (dc k_L_law_9 7 rfl) rfl ?_
                              exact hJ_167 _ (Z_some hz)
                          refine R_if_eq (pc := 584) 591 (dc k_L_law_8 36 rfl) rfl (fun hc => ?_) (fun hc => ?_)
                          · have hz := Z_neg (show ¬ (¬ n32 (Int32.toInt (xs (Int.toNat (l3_3 + 3)))) = 0) from (fun z => z hc)) hz
                            refine R_iconst (pc := 591) (a := 0) (dc k_L_law_8 39 rfl) ?_
                            exact hJ_162 _ (Z_some hz)
                          · have hz := Z_pos (show ¬ n32 (Int32.toInt (xs (Int.toNat (l3_3 + 3)))) = 0 from hc) hz
                            refine R_iconst (pc := 587) (a := 1) (dc k_L_law_8 37 rfl) ?_
                            refine R_goto (pc := 588) 592 (dc k_L_law_8 38 rfl) rfl ?_
                            exact hJ_162 _ (Z_some hz)
                        refine R_if_eq (pc := 557) 564 (dc k_L_law_8 15 rfl) rfl (fun hc => ?_) (fun hc => ?_)
                        · have hz := Z_neg (show ¬ (¬ n32 (Int32.toInt (xs (Int.toNat (l3_3 + 4)))) = 0) from (fun z => z hc)) hz
                          refine R_iconst (pc := 564) (a := 0) (dc k_L_law_8 18 rfl) ?_
                          exact hJ_155 _ (Z_some hz)
                        · have hz := Z_pos (show ¬ n32 (Int32.toInt (xs (Int.toNat (l3_3 + 4)))) = 0 from hc) hz
                          refine R_iconst (pc := 560) (a := 1) (dc k_L_law_8 16 rfl) ?_
                          refine R_goto (pc := 561) 565 (dc k_L_law_8 17 rfl) rfl ?_
                          exact hJ_155 _ (Z_some hz)
                      refine R_if_eq (pc := 544) 551 (dc k_L_law_8 6 rfl) rfl (fun hc => ?_) (fun hc => ?_)
                      · have hz := Z_neg (show ¬ (¬ n32 (Int32.toInt (xs (Int.toNat (l3_3 + 3)))) = 0) from (fun z => z hc)) hz
                        refine R_iconst (pc := 551) (a := 0) (dc k_L_law_8 9 rfl) ?_
                        exact hJ_148 _ (Z_some hz)
                      · have hz := Z_pos (show ¬ n32 (Int32.toInt (xs (Int.toNat (l3_3 + 3)))) = 0 from hc) hz
                        refine R_iconst (pc := 547) (a := 1) (dc k_L_law_8 7 rfl) ?_
                        refine R_goto (pc := 548) 552 (dc k_L_law_8 8 rfl) rfl ?_
                        exact hJ_148 _ (Z_some hz)
                    · have hz := Z_neg hs_172 hz
                      by_cases hs_180 : n32 (iand (Int32.toInt (xs (Int.toNat l3_3))) 31) = 9
                      · have hz := Z_pos hs_180 hz
                        refine R_tabIn (pc := 33) 613 (dc k_L_law_0 21 rfl) hs_180 (by decide) (by decide) rfl rfl ?_
                        refine R_aload_n (pc := 613) 1 (dc k_L_law_9 13 rfl) rfl rfl ?_
                        refine R_aload_n (pc := 614) 0 (dc k_L_law_9 14 rfl) rfl rfl ?_
                        refine R_iload_n (pc := 615) 3 (dc k_L_law_9 15 rfl) rfl rfl ?_
                        refine R_iconst (pc := 616) (a := 1) (dc k_L_law_9 16 rfl) ?_
                        refine R_iadd (pc := 617) (dc k_L_law_9 17 rfl) ?_
                        obtain ⟨⟨hg_173, hg_174⟩, hz⟩ := Z_chk hz
                        refine R_sld (pc := 618) rfl (dc k_L_law_9 18 rfl) hg_173 hg_174 hLs ?_
                        refine R_cVM (pc := 619)  (As := [vI (Int32.toInt (xs (Int.toNat (l3_3 + 1))))]) (S := []) ck_L_57 (dc k_L_law_9 19 rfl) ⟨rfl, ⟨_, rfl, rfl⟩, (lb rfl), (lb rfl)⟩ (lb rfl) (lb rfl) (lb rfl) rfl (ct_X_untell hE_c_81_138_1_80 (lb rfl) (Z_bind hz)) (fun r_175 M_176 hz => ?_)
                        refine R_aload_n (pc := 622) 2 (dc k_L_law_9 20 rfl) rfl rfl ?_
                        refine R_aload_n (pc := 623) 0 (dc k_L_law_9 21 rfl) rfl rfl ?_
                        refine R_iload_n (pc := 624) 3 (dc k_L_law_9 22 rfl) rfl rfl ?_
                        refine R_iconst (pc := 625) (a := 1) (dc k_L_law_9 23 rfl) ?_
                        refine R_iadd (pc := 626) (dc k_L_law_9 24 rfl) ?_
                        refine R_sld (pc := 627) rfl (dc k_L_law_9 25 rfl) hg_173 hg_174 hLs ?_
                        refine R_cVM (pc := 628)  (As := [vI (Int32.toInt (xs (Int.toNat (l3_3 + 1))))]) (S := [vI r_175]) ck_L_61 (dc k_L_law_9 26 rfl) ⟨rfl, ⟨_, rfl, rfl⟩, (lb rfl), (lb rfl)⟩ (lb rfl) (lb rfl) (lb rfl) rfl (ct_M_untell hE_m_81_138_1_80 (lb rfl) (Z_bind hz)) (fun r_177 M_178 hz => ?_)
                        refine R_icmp_eq (pc := 631) 1240 (dc k_L_law_9 27 rfl) rfl (fun hc => ?_) (fun hc => ?_)
                        · have hz := Z_neg (show ¬ (¬ n32 r_175 = n32 r_177) from (fun z => z hc)) hz
                          exact hJ_17 _ hz
                        · have hz := Z_pos (show ¬ n32 r_175 = n32 r_177 from hc) hz
                          refine R_iconst (pc := 634) (a := 0) (dc k_L_law_9 28 rfl) ?_
                          exact R_zret (pc := 635) (dc k_L_law_9 29 rfl) rfl (Or.inl rfl) rfl rfl ⟨_, rfl, (Z_some (hK_6 _ (hB_10 _ (Z_some hz))))⟩
                      · have hz := Z_neg hs_180 hz
                        by_cases hs_188 : n32 (iand (Int32.toInt (xs (Int.toNat l3_3))) 31) = 10
                        · have hz := Z_pos hs_188 hz
                          refine R_tabIn (pc := 33) 636 (dc k_L_law_0 21 rfl) hs_188 (by decide) (by decide) rfl rfl ?_
                          refine R_aload_n (pc := 636) 1 (dc k_L_law_9 30 rfl) rfl rfl ?_
                          refine R_aload_n (pc := 637) 0 (dc k_L_law_9 31 rfl) rfl rfl ?_
                          refine R_iload_n (pc := 638) 3 (dc k_L_law_9 32 rfl) rfl rfl ?_
                          refine R_iconst (pc := 639) (a := 1) (dc k_L_law_9 33 rfl) ?_
                          refine R_iadd (pc := 640) (dc k_L_law_9 34 rfl) ?_
                          obtain ⟨⟨hg_181, hg_182⟩, hz⟩ := Z_chk hz
                          refine R_sld (pc := 641) rfl (dc k_L_law_9 35 rfl) hg_181 hg_182 hLs ?_
                          refine R_cVM (pc := 642)  (As := [vI (Int32.toInt (xs (Int.toNat (l3_3 + 1))))]) (S := []) ck_L_62 (dc k_L_law_9 36 rfl) ⟨rfl, ⟨_, rfl, rfl⟩, (lb rfl), (lb rfl)⟩ (lb rfl) (lb rfl) (lb rfl) rfl (ct_X_later hE_c_81_138_1_80 (lb rfl) (Z_bind hz)) (fun r_183 M_184 hz => ?_)
                          refine R_aload_n (pc := 645) 2 (dc k_L_law_9 37 rfl) rfl rfl ?_
                          refine R_aload_n (pc := 646) 0 (dc k_L_law_9 38 rfl) rfl rfl ?_
                          refine R_iload_n (pc := 647) 3 (dc k_L_law_9 39 rfl) rfl rfl ?_
                          refine R_iconst (pc := 648) (a := 1) (dc k_L_law_10 0 rfl) ?_
                          refine R_iadd (pc := 649) (dc k_L_law_10 1 rfl) ?_
                          refine R_sld (pc := 650) rfl (dc k_L_law_10 2 rfl) hg_181 hg_182 hLs ?_
                          refine R_cVM (pc := 651)  (As := [vI (Int32.toInt (xs (Int.toNat (l3_3 + 1))))]) (S := [vI r_183]) ck_L_65 (dc k_L_law_10 3 rfl) ⟨rfl, ⟨_, rfl, rfl⟩, (lb rfl), (lb rfl)⟩ (lb rfl) (lb rfl) (lb rfl) rfl (ct_M_later hE_m_81_138_1_80 (lb rfl) (Z_bind hz)) (fun r_185 M_186 hz => ?_)
                          refine R_icmp_eq (pc := 654) 1240 (dc k_L_law_10 4 rfl) rfl (fun hc => ?_) (fun hc => ?_)
                          · have hz := Z_neg (show ¬ (¬ n32 r_183 = n32 r_185) from (fun z => z hc)) hz
                            exact hJ_17 _ hz
                          · have hz := Z_pos (show ¬ n32 r_183 = n32 r_185 from hc) hz
                            refine R_iconst (pc := 657) (a := 0) (dc k_L_law_10 5 rfl) ?_
                            exact R_zret (pc := 658) (dc k_L_law_10 6 rfl) rfl (Or.inl rfl) rfl rfl ⟨_, rfl, (Z_some (hK_6 _ (hB_10 _ (Z_some hz))))⟩
                        · have hz := Z_neg hs_188 hz
                          by_cases hs_196 : n32 (iand (Int32.toInt (xs (Int.toNat l3_3))) 31) = 11
                          · have hz := Z_pos hs_196 hz
                            refine R_tabIn (pc := 33) 659 (dc k_L_law_0 21 rfl) hs_196 (by decide) (by decide) rfl rfl ?_
                            refine R_aload_n (pc := 659) 1 (dc k_L_law_10 7 rfl) rfl rfl ?_
                            refine R_aload_n (pc := 660) 0 (dc k_L_law_10 8 rfl) rfl rfl ?_
                            refine R_iload_n (pc := 661) 3 (dc k_L_law_10 9 rfl) rfl rfl ?_
                            refine R_iconst (pc := 662) (a := 1) (dc k_L_law_10 10 rfl) ?_
                            refine R_iadd (pc := 663) (dc k_L_law_10 11 rfl) ?_
                            obtain ⟨⟨hg_189, hg_190⟩, hz⟩ := Z_chk hz
                            refine R_sld (pc := 664) rfl (dc k_L_law_10 12 rfl) hg_189 hg_190 hLs ?_
                            refine R_cVM (pc := 665)  (As := [vI (Int32.toInt (xs (Int.toNat (l3_3 + 1))))]) (S := []) ck_L_66 (dc k_L_law_10 13 rfl) ⟨rfl, ⟨_, rfl, rfl⟩, (lb rfl), (lb rfl)⟩ (lb rfl) (lb rfl) (lb rfl) rfl (ct_X_left hE_c_81_138_1_80 (lb rfl) (Z_bind hz)) (fun r_191 M_192 hz => ?_)
                            refine R_aload_n (pc := 668) 2 (dc k_L_law_10 14 rfl) rfl rfl ?_
                            refine R_aload_n (pc := 669) 0 (dc k_L_law_10 15 rfl) rfl rfl ?_
                            refine R_iload_n (pc := 670) 3 (dc k_L_law_10 16 rfl) rfl rfl ?_
                            refine R_iconst (pc := 671) (a := 1) (dc k_L_law_10 17 rfl) ?_
                            refine R_iadd (pc := 672) (dc k_L_law_10 18 rfl) ?_
                            refine R_sld (pc := 673) rfl (dc k_L_law_10 19 rfl) hg_189 hg_190 hLs ?_
                            refine R_cVM (pc := 674)  (As := [vI (Int32.toInt (xs (Int.toNat (l3_3 + 1))))]) (S := [vI r_191]) ck_L_69 (dc k_L_law_10 20 rfl) ⟨rfl, ⟨_, rfl, rfl⟩, (lb rfl), (lb rfl)⟩ (lb rfl) (lb rfl) (lb rfl) rfl (ct_M_left hE_m_81_138_1_80 (lb rfl) (Z_bind hz)) (fun r_193 M_194 hz => ?_)
                            refine R_icmp_eq (pc := 677) 1240 (dc k_L_law_10 21 rfl) rfl (fun hc => ?_) (fun hc => ?_)
                            · have hz := Z_neg (show ¬ (¬ n32 r_191 = n32 r_193) from (fun z => z hc)) hz
                              exact hJ_17 _ hz
                            · have hz := Z_pos (show ¬ n32 r_191 = n32 r_193 from hc) hz
                              refine R_iconst (pc := 680) (a := 0) (dc k_L_law_10 22 rfl) ?_
                              exact R_zret (pc := 681) (dc k_L_law_10 23 rfl) rfl (Or.inl rfl) rfl rfl ⟨_, rfl, (Z_some (hK_6 _ (hB_10 _ (Z_some hz))))⟩
                          · have hz := Z_neg hs_196 hz
                            by_cases hs_206 : n32 (iand (Int32.toInt (xs (Int.toNat l3_3))) 31) = 12
                            · have hz := Z_pos hs_206 hz
                              refine R_tabIn (pc := 33) 682 (dc k_L_law_0 21 rfl) hs_206 (by decide) (by decide) rfl rfl ?_
                              refine R_aload_n (pc := 682) 1 (dc k_L_law_10 24 rfl) rfl rfl ?_
                              refine R_aload_n (pc := 683) 0 (dc k_L_law_10 25 rfl) rfl rfl ?_
                              refine R_iload_n (pc := 684) 3 (dc k_L_law_10 26 rfl) rfl rfl ?_
                              refine R_iconst (pc := 685) (a := 1) (dc k_L_law_10 27 rfl) ?_
                              refine R_iadd (pc := 686) (dc k_L_law_10 28 rfl) ?_
                              obtain ⟨⟨hg_197, hg_198⟩, hz⟩ := Z_chk hz
                              refine R_sld (pc := 687) rfl (dc k_L_law_10 29 rfl) hg_197 hg_198 hLs ?_
                              refine R_aload_n (pc := 688) 0 (dc k_L_law_10 30 rfl) rfl rfl ?_
                              refine R_iload_n (pc := 689) 3 (dc k_L_law_10 31 rfl) rfl rfl ?_
                              refine R_iconst (pc := 690) (a := 2) (dc k_L_law_10 32 rfl) ?_
                              refine R_iadd (pc := 691) (dc k_L_law_10 33 rfl) ?_
                              obtain ⟨⟨hg_199, hg_200⟩, hz⟩ := Z_chk hz
                              refine R_sld (pc := 692) rfl (dc k_L_law_10 34 rfl) hg_199 hg_200 hLs ?_
                              refine R_cVM (pc := 693)  (As := [vI (Int32.toInt (xs (Int.toNat (l3_3 + 1)))), vI (Int32.toInt (xs (Int.toNat (l3_3 + 2))))]) (S := []) ck_L_70 (dc k_L_law_10 35 rfl) ⟨rfl, ⟨_, rfl, rfl⟩, (lb rfl), (lb rfl)⟩ (lb rfl) (lb rfl) (lb rfl) rfl (ct_X_world hE_c_81_138_1_80 (lb rfl) (Z_bind hz)) (fun r_201 M_202 hz => ?_)
                              refine R_aload_n (pc := 696) 2 (dc k_L_law_10 36 rfl) rfl rfl ?_
                              refine R_aload_n (pc := 697) 0 (dc k_L_law_10 37 rfl) rfl rfl ?_
                              refine R_iload_n (pc := 698) 3 (dc k_L_law_10 38 rfl) rfl rfl ?_
                              refine R_iconst (pc := 699) (a := 1) (dc k_L_law_10 39 rfl) ?_
                              refine R_iadd (pc := 700) (dc k_L_law_11 0 rfl) ?_
                              refine R_sld (pc := 701) rfl (dc k_L_law_11 1 rfl) hg_197 hg_198 hLs ?_
                              refine R_aload_n (pc := 702) 0 (dc k_L_law_11 2 rfl) rfl rfl ?_
                              refine R_iload_n (pc := 703) 3 (dc k_L_law_11 3 rfl) rfl rfl ?_
                              refine R_iconst (pc := 704) (a := 2) (dc k_L_law_11 4 rfl) ?_
                              refine R_iadd (pc := 705) (dc k_L_law_11 5 rfl) ?_
                              refine R_sld (pc := 706) rfl (dc k_L_law_11 6 rfl) hg_199 hg_200 hLs ?_
                              refine R_cVM (pc := 707)  (As := [vI (Int32.toInt (xs (Int.toNat (l3_3 + 1)))), vI (Int32.toInt (xs (Int.toNat (l3_3 + 2))))]) (S := [vI r_201]) ck_L_73 (dc k_L_law_11 7 rfl) ⟨rfl, ⟨_, rfl, rfl⟩, (lb rfl), (lb rfl)⟩ (lb rfl) (lb rfl) (lb rfl) rfl (ct_M_world hE_m_81_138_1_80 (lb rfl) (Z_bind hz)) (fun r_203 M_204 hz => ?_)
                              refine R_icmp_eq (pc := 710) 1240 (dc k_L_law_11 8 rfl) rfl (fun hc => ?_) (fun hc => ?_)
                              · have hz := Z_neg (show ¬ (¬ n32 r_201 = n32 r_203) from (fun z => z hc)) hz
                                exact hJ_17 _ hz
                              · have hz := Z_pos (show ¬ n32 r_201 = n32 r_203 from hc) hz
                                refine R_iconst (pc := 713) (a := 0) (dc k_L_law_11 9 rfl) ?_
                                exact R_zret (pc := 714) (dc k_L_law_11 10 rfl) rfl (Or.inl rfl) rfl rfl ⟨_, rfl, (Z_some (hK_6 _ (hB_10 _ (Z_some hz))))⟩
                            · have hz := Z_neg hs_206 hz
                              by_cases hs_216 : n32 (iand (Int32.toInt (xs (Int.toNat l3_3))) 31) = 13
                              · have hz := Z_pos hs_216 hz
                                refine R_tabIn (pc := 33) 715 (dc k_L_law_0 21 rfl) hs_216 (by decide) (by decide) rfl rfl ?_
                                refine R_aload_n (pc := 715) 1 (dc k_L_law_11 11 rfl) rfl rfl ?_
                                refine R_aload_n (pc := 716) 0 (dc k_L_law_11 12 rfl) rfl rfl ?_
                                refine R_iload_n (pc := 717) 3 (dc k_L_law_11 13 rfl) rfl rfl ?_
                                refine R_iconst (pc := 718) (a := 1) (dc k_L_law_11 14 rfl) ?_
                                refine R_iadd (pc := 719) (dc k_L_law_11 15 rfl) ?_
                                obtain ⟨⟨hg_207, hg_208⟩, hz⟩ := Z_chk hz
                                refine R_sld (pc := 720) rfl (dc k_L_law_11 16 rfl) hg_207 hg_208 hLs ?_
                                refine R_aload_n (pc := 721) 0 (dc k_L_law_11 17 rfl) rfl rfl ?_
                                refine R_iload_n (pc := 722) 3 (dc k_L_law_11 18 rfl) rfl rfl ?_
                                refine R_iconst (pc := 723) (a := 2) (dc k_L_law_11 19 rfl) ?_
                                refine R_iadd (pc := 724) (dc k_L_law_11 20 rfl) ?_
                                obtain ⟨⟨hg_209, hg_210⟩, hz⟩ := Z_chk hz
                                refine R_sld (pc := 725) rfl (dc k_L_law_11 21 rfl) hg_209 hg_210 hLs ?_
                                refine R_cVM (pc := 726)  (As := [vI (Int32.toInt (xs (Int.toNat (l3_3 + 1)))), vI (Int32.toInt (xs (Int.toNat (l3_3 + 2))))]) (S := []) ck_L_74 (dc k_L_law_11 22 rfl) ⟨rfl, ⟨_, rfl, rfl⟩, (lb rfl), (lb rfl)⟩ (lb rfl) (lb rfl) (lb rfl) rfl (ct_X_sure hE_c_81_138_1_80 (lb rfl) (Z_bind hz)) (fun r_211 M_212 hz => ?_)
                                refine R_aload_n (pc := 729) 2 (dc k_L_law_11 23 rfl) rfl rfl ?_
                                refine R_aload_n (pc := 730) 0 (dc k_L_law_11 24 rfl) rfl rfl ?_
                                refine R_iload_n (pc := 731) 3 (dc k_L_law_11 25 rfl) rfl rfl ?_
                                refine R_iconst (pc := 732) (a := 1) (dc k_L_law_11 26 rfl) ?_
                                refine R_iadd (pc := 733) (dc k_L_law_11 27 rfl) ?_
                                refine R_sld (pc := 734) rfl (dc k_L_law_11 28 rfl) hg_207 hg_208 hLs ?_
                                refine R_aload_n (pc := 735) 0 (dc k_L_law_11 29 rfl) rfl rfl ?_
                                refine R_iload_n (pc := 736) 3 (dc k_L_law_11 30 rfl) rfl rfl ?_
                                refine R_iconst (pc := 737) (a := 2) (dc k_L_law_11 31 rfl) ?_
                                refine R_iadd (pc := 738) (dc k_L_law_11 32 rfl) ?_
                                refine R_sld (pc := 739) rfl (dc k_L_law_11 33 rfl) hg_209 hg_210 hLs ?_
                                refine R_cVM (pc := 740)  (As := [vI (Int32.toInt (xs (Int.toNat (l3_3 + 1)))), vI (Int32.toInt (xs (Int.toNat (l3_3 + 2))))]) (S := [vI r_211]) ck_L_77 (dc k_L_law_11 34 rfl) ⟨rfl, ⟨_, rfl, rfl⟩, (lb rfl), (lb rfl)⟩ (lb rfl) (lb rfl) (lb rfl) rfl (ct_M_sure hE_m_81_138_1_80 (lb rfl) (Z_bind hz)) (fun r_213 M_214 hz => ?_)
                                refine R_icmp_eq (pc := 743) 1240 (dc k_L_law_11 35 rfl) rfl (fun hc => ?_) (fun hc => ?_)
                                · have hz := Z_neg (show ¬ (¬ n32 r_211 = n32 r_213) from (fun z => z hc)) hz
                                  exact hJ_17 _ hz
                                · have hz := Z_pos (show ¬ n32 r_211 = n32 r_213 from hc) hz
                                  refine R_iconst (pc := 746) (a := 0) (dc k_L_law_11 36 rfl) ?_
                                  exact R_zret (pc := 747) (dc k_L_law_11 37 rfl) rfl (Or.inl rfl) rfl rfl ⟨_, rfl, (Z_some (hK_6 _ (hB_10 _ (Z_some hz))))⟩
                              · have hz := Z_neg hs_216 hz
                                by_cases hs_226 : n32 (iand (Int32.toInt (xs (Int.toNat l3_3))) 31) = 14
                                · have hz := Z_pos hs_226 hz
                                  refine R_tabIn (pc := 33) 748 (dc k_L_law_0 21 rfl) hs_226 (by decide) (by decide) rfl rfl ?_
                                  refine R_aload_n (pc := 748) 1 (dc k_L_law_11 38 rfl) rfl rfl ?_
                                  refine R_aload_n (pc := 749) 0 (dc k_L_law_11 39 rfl) rfl rfl ?_
                                  refine R_iload_n (pc := 750) 3 (dc k_L_law_12 0 rfl) rfl rfl ?_
                                  refine R_iconst (pc := 751) (a := 1) (dc k_L_law_12 1 rfl) ?_
                                  refine R_iadd (pc := 752) (dc k_L_law_12 2 rfl) ?_
                                  obtain ⟨⟨hg_217, hg_218⟩, hz⟩ := Z_chk hz
                                  refine R_sld (pc := 753) rfl (dc k_L_law_12 3 rfl) hg_217 hg_218 hLs ?_
                                  refine R_aload_n (pc := 754) 0 (dc k_L_law_12 4 rfl) rfl rfl ?_
                                  refine R_iload_n (pc := 755) 3 (dc k_L_law_12 5 rfl) rfl rfl ?_
                                  refine R_iconst (pc := 756) (a := 2) (dc k_L_law_12 6 rfl) ?_
                                  refine R_iadd (pc := 757) (dc k_L_law_12 7 rfl) ?_
                                  obtain ⟨⟨hg_219, hg_220⟩, hz⟩ := Z_chk hz
                                  refine R_sld (pc := 758) rfl (dc k_L_law_12 8 rfl) hg_219 hg_220 hLs ?_
                                  refine R_cVM (pc := 759)  (As := [vI (Int32.toInt (xs (Int.toNat (l3_3 + 1)))), vI (Int32.toInt (xs (Int.toNat (l3_3 + 2))))]) (S := []) ck_L_78 (dc k_L_law_12 9 rfl) ⟨rfl, ⟨_, rfl, rfl⟩, (lb rfl), (lb rfl)⟩ (lb rfl) (lb rfl) (lb rfl) rfl (ct_X_proof hE_c_81_138_1_80 (lb rfl) (Z_bind hz)) (fun r_221 M_222 hz => ?_)
                                  refine R_aload_n (pc := 762) 2 (dc k_L_law_12 10 rfl) rfl rfl ?_
                                  refine R_aload_n (pc := 763) 0 (dc k_L_law_12 11 rfl) rfl rfl ?_
                                  refine R_iload_n (pc := 764) 3 (dc k_L_law_12 12 rfl) rfl rfl ?_
                                  refine R_iconst (pc := 765) (a := 1) (dc k_L_law_12 13 rfl) ?_
                                  refine R_iadd (pc := 766) (dc k_L_law_12 14 rfl) ?_
                                  refine R_sld (pc := 767) rfl (dc k_L_law_12 15 rfl) hg_217 hg_218 hLs ?_
                                  refine R_aload_n (pc := 768) 0 (dc k_L_law_12 16 rfl) rfl rfl ?_
                                  refine R_iload_n (pc := 769) 3 (dc k_L_law_12 17 rfl) rfl rfl ?_
                                  refine R_iconst (pc := 770) (a := 2) (dc k_L_law_12 18 rfl) ?_
                                  refine R_iadd (pc := 771) (dc k_L_law_12 19 rfl) ?_
                                  refine R_sld (pc := 772) rfl (dc k_L_law_12 20 rfl) hg_219 hg_220 hLs ?_
                                  refine R_cVM (pc := 773)  (As := [vI (Int32.toInt (xs (Int.toNat (l3_3 + 1)))), vI (Int32.toInt (xs (Int.toNat (l3_3 + 2))))]) (S := [vI r_221]) ck_L_81 (dc k_L_law_12 21 rfl) ⟨rfl, ⟨_, rfl, rfl⟩, (lb rfl), (lb rfl)⟩ (lb rfl) (lb rfl) (lb rfl) rfl (ct_M_proof hE_m_81_138_1_80 (lb rfl) (Z_bind hz)) (fun r_223 M_224 hz => ?_)
                                  refine R_icmp_eq (pc := 776) 1240 (dc k_L_law_12 22 rfl) rfl (fun hc => ?_) (fun hc => ?_)
                                  · have hz := Z_neg (show ¬ (¬ n32 r_221 = n32 r_223) from (fun z => z hc)) hz
                                    exact hJ_17 _ hz
                                  · have hz := Z_pos (show ¬ n32 r_221 = n32 r_223 from hc) hz
                                    refine R_iconst (pc := 779) (a := 0) (dc k_L_law_12 23 rfl) ?_
                                    exact R_zret (pc := 780) (dc k_L_law_12 24 rfl) rfl (Or.inl rfl) rfl rfl ⟨_, rfl, (Z_some (hK_6 _ (hB_10 _ (Z_some hz))))⟩
                                · have hz := Z_neg hs_226 hz
                                  by_cases hs_236 : n32 (iand (Int32.toInt (xs (Int.toNat l3_3))) 31) = 15
                                  · have hz := Z_pos hs_236 hz
                                    refine R_tabIn (pc := 33) 781 (dc k_L_law_0 21 rfl) hs_236 (by decide) (by decide) rfl rfl ?_
                                    refine R_aload_n (pc := 781) 1 (dc k_L_law_12 25 rfl) rfl rfl ?_
                                    refine R_aload_n (pc := 782) 0 (dc k_L_law_12 26 rfl) rfl rfl ?_
                                    refine R_iload_n (pc := 783) 3 (dc k_L_law_12 27 rfl) rfl rfl ?_
                                    refine R_iconst (pc := 784) (a := 1) (dc k_L_law_12 28 rfl) ?_
                                    refine R_iadd (pc := 785) (dc k_L_law_12 29 rfl) ?_
                                    obtain ⟨⟨hg_227, hg_228⟩, hz⟩ := Z_chk hz
                                    refine R_sld (pc := 786) rfl (dc k_L_law_12 30 rfl) hg_227 hg_228 hLs ?_
                                    refine R_aload_n (pc := 787) 0 (dc k_L_law_12 31 rfl) rfl rfl ?_
                                    refine R_iload_n (pc := 788) 3 (dc k_L_law_12 32 rfl) rfl rfl ?_
                                    refine R_iconst (pc := 789) (a := 2) (dc k_L_law_12 33 rfl) ?_
                                    refine R_iadd (pc := 790) (dc k_L_law_12 34 rfl) ?_
                                    obtain ⟨⟨hg_229, hg_230⟩, hz⟩ := Z_chk hz
                                    refine R_sld (pc := 791) rfl (dc k_L_law_12 35 rfl) hg_229 hg_230 hLs ?_
                                    refine R_cVM (pc := 792)  (As := [vI (Int32.toInt (xs (Int.toNat (l3_3 + 1)))), vI (Int32.toInt (xs (Int.toNat (l3_3 + 2))))]) (S := []) ck_L_82 (dc k_L_law_12 36 rfl) ⟨rfl, ⟨_, rfl, rfl⟩, (lb rfl), (lb rfl)⟩ (lb rfl) (lb rfl) (lb rfl) rfl (ct_X_judge hE_c_81_138_1_80 (lb rfl) (Z_bind hz)) (fun r_231 M_232 hz => ?_)
                                    refine R_aload_n (pc := 795) 2 (dc k_L_law_12 37 rfl) rfl rfl ?_
                                    refine R_aload_n (pc := 796) 0 (dc k_L_law_12 38 rfl) rfl rfl ?_
                                    refine R_iload_n (pc := 797) 3 (dc k_L_law_12 39 rfl) rfl rfl ?_
                                    refine R_iconst (pc := 798) (a := 1) (dc k_L_law_13 0 rfl) ?_
                                    refine R_iadd (pc := 799) (dc k_L_law_13 1 rfl) ?_
                                    refine R_sld (pc := 800) rfl (dc k_L_law_13 2 rfl) hg_227 hg_228 hLs ?_
                                    refine R_aload_n (pc := 801) 0 (dc k_L_law_13 3 rfl) rfl rfl ?_
                                    refine R_iload_n (pc := 802) 3 (dc k_L_law_13 4 rfl) rfl rfl ?_
                                    refine R_iconst (pc := 803) (a := 2) (dc k_L_law_13 5 rfl) ?_
                                    refine R_iadd (pc := 804) (dc k_L_law_13 6 rfl) ?_
                                    refine R_sld (pc := 805) rfl (dc k_L_law_13 7 rfl) hg_229 hg_230 hLs ?_
                                    refine R_cVM (pc := 806)  (As := [vI (Int32.toInt (xs (Int.toNat (l3_3 + 1)))), vI (Int32.toInt (xs (Int.toNat (l3_3 + 2))))]) (S := [vI r_231]) ck_L_85 (dc k_L_law_13 8 rfl) ⟨rfl, ⟨_, rfl, rfl⟩, (lb rfl), (lb rfl)⟩ (lb rfl) (lb rfl) (lb rfl) rfl (ct_M_judge hE_m_81_138_1_80 (lb rfl) (Z_bind hz)) (fun r_233 M_234 hz => ?_)
                                    refine R_icmp_eq (pc := 809) 1240 (dc k_L_law_13 9 rfl) rfl (fun hc => ?_) (fun hc => ?_)
                                    · have hz := Z_neg (show ¬ (¬ n32 r_231 = n32 r_233) from (fun z => z hc)) hz
                                      exact hJ_17 _ hz
                                    · have hz := Z_pos (show ¬ n32 r_231 = n32 r_233 from hc) hz
                                      refine R_iconst (pc := 812) (a := 0) (dc k_L_law_13 10 rfl) ?_
                                      exact R_zret (pc := 813) (dc k_L_law_13 11 rfl) rfl (Or.inl rfl) rfl rfl ⟨_, rfl, (Z_some (hK_6 _ (hB_10 _ (Z_some hz))))⟩
                                  · have hz := Z_neg hs_236 hz
                                    by_cases hs_246 : n32 (iand (Int32.toInt (xs (Int.toNat l3_3))) 31) = 16
                                    · have hz := Z_pos hs_246 hz
                                      refine R_tabIn (pc := 33) 814 (dc k_L_law_0 21 rfl) hs_246 (by decide) (by decide) rfl rfl ?_
                                      refine R_aload_n (pc := 814) 1 (dc k_L_law_13 12 rfl) rfl rfl ?_
                                      refine R_aload_n (pc := 815) 0 (dc k_L_law_13 13 rfl) rfl rfl ?_
                                      refine R_iload_n (pc := 816) 3 (dc k_L_law_13 14 rfl) rfl rfl ?_
                                      refine R_iconst (pc := 817) (a := 1) (dc k_L_law_13 15 rfl) ?_
                                      refine R_iadd (pc := 818) (dc k_L_law_13 16 rfl) ?_
                                      obtain ⟨⟨hg_237, hg_238⟩, hz⟩ := Z_chk hz
                                      refine R_sld (pc := 819) rfl (dc k_L_law_13 17 rfl) hg_237 hg_238 hLs ?_
                                      refine R_aload_n (pc := 820) 0 (dc k_L_law_13 18 rfl) rfl rfl ?_
                                      refine R_iload_n (pc := 821) 3 (dc k_L_law_13 19 rfl) rfl rfl ?_
                                      refine R_iconst (pc := 822) (a := 2) (dc k_L_law_13 20 rfl) ?_
                                      refine R_iadd (pc := 823) (dc k_L_law_13 21 rfl) ?_
                                      obtain ⟨⟨hg_239, hg_240⟩, hz⟩ := Z_chk hz
                                      refine R_sld (pc := 824) rfl (dc k_L_law_13 22 rfl) hg_239 hg_240 hLs ?_
                                      refine R_cVM (pc := 825)  (As := [vI (Int32.toInt (xs (Int.toNat (l3_3 + 1)))), vI (Int32.toInt (xs (Int.toNat (l3_3 + 2))))]) (S := []) ck_L_86 (dc k_L_law_13 23 rfl) ⟨rfl, ⟨_, rfl, rfl⟩, (lb rfl), (lb rfl)⟩ (lb rfl) (lb rfl) (lb rfl) rfl (ct_X_next hE_c_81_138_1_80 (lb rfl) (Z_bind hz)) (fun r_241 M_242 hz => ?_)
                                      refine R_aload_n (pc := 828) 2 (dc k_L_law_13 24 rfl) rfl rfl ?_
                                      refine R_aload_n (pc := 829) 0 (dc k_L_law_13 25 rfl) rfl rfl ?_
                                      refine R_iload_n (pc := 830) 3 (dc k_L_law_13 26 rfl) rfl rfl ?_
                                      refine R_iconst (pc := 831) (a := 1) (dc k_L_law_13 27 rfl) ?_
                                      refine R_iadd (pc := 832) (dc k_L_law_13 28 rfl) ?_
                                      refine R_sld (pc := 833) rfl (dc k_L_law_13 29 rfl) hg_237 hg_238 hLs ?_
                                      refine R_aload_n (pc := 834) 0 (dc k_L_law_13 30 rfl) rfl rfl ?_
                                      refine R_iload_n (pc := 835) 3 (dc k_L_law_13 31 rfl) rfl rfl ?_
                                      refine R_iconst (pc := 836) (a := 2) (dc k_L_law_13 32 rfl) ?_
                                      refine R_iadd (pc := 837) (dc k_L_law_13 33 rfl) ?_
                                      refine R_sld (pc := 838) rfl (dc k_L_law_13 34 rfl) hg_239 hg_240 hLs ?_
                                      refine R_cVM (pc := 839)  (As := [vI (Int32.toInt (xs (Int.toNat (l3_3 + 1)))), vI (Int32.toInt (xs (Int.toNat (l3_3 + 2))))]) (S := [vI r_241]) ck_L_89 (dc k_L_law_13 35 rfl) ⟨rfl, ⟨_, rfl, rfl⟩, (lb rfl), (lb rfl)⟩ (lb rfl) (lb rfl) (lb rfl) rfl (ct_M_next hE_m_81_138_1_80 (lb rfl) (Z_bind hz)) (fun r_243 M_244 hz => ?_)
                                      refine R_icmp_eq (pc := 842) 1240 (dc k_L_law_13 36 rfl) rfl (fun hc => ?_) (fun hc => ?_)
                                      · have hz := Z_neg (show ¬ (¬ n32 r_241 = n32 r_243) from (fun z => z hc)) hz
                                        exact hJ_17 _ hz
                                      · have hz := Z_pos (show ¬ n32 r_241 = n32 r_243 from hc) hz
                                        refine R_iconst (pc := 845) (a := 0) (dc k_L_law_13 37 rfl) ?_
                                        exact R_zret (pc := 846) (dc k_L_law_13 38 rfl) rfl (Or.inl rfl) rfl rfl ⟨_, rfl, (Z_some (hK_6 _ (hB_10 _ (Z_some hz))))⟩
                                    · have hz := Z_neg hs_246 hz
                                      by_cases hs_256 : n32 (iand (Int32.toInt (xs (Int.toNat l3_3))) 31) = 17
                                      · have hz := Z_pos hs_256 hz
                                        refine R_tabIn (pc := 33) 847 (dc k_L_law_0 21 rfl) hs_256 (by decide) (by decide) rfl rfl ?_
                                        refine R_aload_n (pc := 847) 1 (dc k_L_law_13 39 rfl) rfl rfl ?_
                                        refine R_aload_n (pc := 848) 0 (dc k_L_law_14 0 rfl) rfl rfl ?_
                                        refine R_iload_n (pc := 849) 3 (dc k_L_law_14 1 rfl) rfl rfl ?_
                                        refine R_iconst (pc := 850) (a := 1) (dc k_L_law_14 2 rfl) ?_
                                        refine R_iadd (pc := 851) (dc k_L_law_14 3 rfl) ?_
                                        obtain ⟨⟨hg_247, hg_248⟩, hz⟩ := Z_chk hz
                                        refine R_sld (pc := 852) rfl (dc k_L_law_14 4 rfl) hg_247 hg_248 hLs ?_
                                        refine R_aload_n (pc := 853) 0 (dc k_L_law_14 5 rfl) rfl rfl ?_
                                        refine R_iload_n (pc := 854) 3 (dc k_L_law_14 6 rfl) rfl rfl ?_
                                        refine R_iconst (pc := 855) (a := 2) (dc k_L_law_14 7 rfl) ?_
                                        refine R_iadd (pc := 856) (dc k_L_law_14 8 rfl) ?_
                                        obtain ⟨⟨hg_249, hg_250⟩, hz⟩ := Z_chk hz
                                        refine R_sld (pc := 857) rfl (dc k_L_law_14 9 rfl) hg_249 hg_250 hLs ?_
                                        refine R_cVM (pc := 858)  (As := [vI (Int32.toInt (xs (Int.toNat (l3_3 + 1)))), vI (Int32.toInt (xs (Int.toNat (l3_3 + 2))))]) (S := []) ck_L_90 (dc k_L_law_14 10 rfl) ⟨rfl, ⟨_, rfl, rfl⟩, (lb rfl), (lb rfl)⟩ (lb rfl) (lb rfl) (lb rfl) rfl (ct_X_askings hE_c_81_138_1_80 (lb rfl) (Z_bind hz)) (fun r_251 M_252 hz => ?_)
                                        refine R_aload_n (pc := 861) 2 (dc k_L_law_14 11 rfl) rfl rfl ?_
                                        refine R_aload_n (pc := 862) 0 (dc k_L_law_14 12 rfl) rfl rfl ?_
                                        refine R_iload_n (pc := 863) 3 (dc k_L_law_14 13 rfl) rfl rfl ?_
                                        refine R_iconst (pc := 864) (a := 1) (dc k_L_law_14 14 rfl) ?_
                                        refine R_iadd (pc := 865) (dc k_L_law_14 15 rfl) ?_
                                        refine R_sld (pc := 866) rfl (dc k_L_law_14 16 rfl) hg_247 hg_248 hLs ?_
                                        refine R_aload_n (pc := 867) 0 (dc k_L_law_14 17 rfl) rfl rfl ?_
                                        refine R_iload_n (pc := 868) 3 (dc k_L_law_14 18 rfl) rfl rfl ?_
                                        refine R_iconst (pc := 869) (a := 2) (dc k_L_law_14 19 rfl) ?_
                                        refine R_iadd (pc := 870) (dc k_L_law_14 20 rfl) ?_
                                        refine R_sld (pc := 871) rfl (dc k_L_law_14 21 rfl) hg_249 hg_250 hLs ?_
                                        refine R_cVM (pc := 872)  (As := [vI (Int32.toInt (xs (Int.toNat (l3_3 + 1)))), vI (Int32.toInt (xs (Int.toNat (l3_3 + 2))))]) (S := [vI r_251]) ck_L_93 (dc k_L_law_14 22 rfl) ⟨rfl, ⟨_, rfl, rfl⟩, (lb rfl), (lb rfl)⟩ (lb rfl) (lb rfl) (lb rfl) rfl (ct_M_askings hE_m_81_138_1_80 (lb rfl) (Z_bind hz)) (fun r_253 M_254 hz => ?_)
                                        refine R_icmp_eq (pc := 875) 1240 (dc k_L_law_14 23 rfl) rfl (fun hc => ?_) (fun hc => ?_)
                                        · have hz := Z_neg (show ¬ (¬ n32 r_251 = n32 r_253) from (fun z => z hc)) hz
                                          exact hJ_17 _ hz
                                        · have hz := Z_pos (show ¬ n32 r_251 = n32 r_253 from hc) hz
                                          refine R_iconst (pc := 878) (a := 0) (dc k_L_law_14 24 rfl) ?_
                                          exact R_zret (pc := 879) (dc k_L_law_14 25 rfl) rfl (Or.inl rfl) rfl rfl ⟨_, rfl, (Z_some (hK_6 _ (hB_10 _ (Z_some hz))))⟩
                                      · have hz := Z_neg hs_256 hz
                                        by_cases hs_268 : n32 (iand (Int32.toInt (xs (Int.toNat l3_3))) 31) = 18
                                        · have hz := Z_pos hs_268 hz
                                          refine R_tabIn (pc := 33) 880 (dc k_L_law_0 21 rfl) hs_268 (by decide) (by decide) rfl rfl ?_
                                          refine R_aload_n (pc := 880) 1 (dc k_L_law_14 26 rfl) rfl rfl ?_
                                          refine R_aload_n (pc := 881) 0 (dc k_L_law_14 27 rfl) rfl rfl ?_
                                          refine R_iload_n (pc := 882) 3 (dc k_L_law_14 28 rfl) rfl rfl ?_
                                          refine R_iconst (pc := 883) (a := 1) (dc k_L_law_14 29 rfl) ?_
                                          refine R_iadd (pc := 884) (dc k_L_law_14 30 rfl) ?_
                                          obtain ⟨⟨hg_257, hg_258⟩, hz⟩ := Z_chk hz
                                          refine R_sld (pc := 885) rfl (dc k_L_law_14 31 rfl) hg_257 hg_258 hLs ?_
                                          refine R_aload_n (pc := 886) 0 (dc k_L_law_14 32 rfl) rfl rfl ?_
                                          refine R_iload_n (pc := 887) 3 (dc k_L_law_14 33 rfl) rfl rfl ?_
                                          refine R_iconst (pc := 888) (a := 2) (dc k_L_law_14 34 rfl) ?_
                                          refine R_iadd (pc := 889) (dc k_L_law_14 35 rfl) ?_
                                          obtain ⟨⟨hg_259, hg_260⟩, hz⟩ := Z_chk hz
                                          refine R_sld (pc := 890) rfl (dc k_L_law_14 36 rfl) hg_259 hg_260 hLs ?_
                                          refine R_aload_n (pc := 891) 0 (dc k_L_law_14 37 rfl) rfl rfl ?_
                                          refine R_iload_n (pc := 892) 3 (dc k_L_law_14 38 rfl) rfl rfl ?_
                                          refine R_iconst (pc := 893) (a := 3) (dc k_L_law_14 39 rfl) ?_
                                          refine R_iadd (pc := 894) (dc k_L_law_15 0 rfl) ?_
                                          obtain ⟨⟨hg_261, hg_262⟩, hz⟩ := Z_chk hz
                                          refine R_sld (pc := 895) rfl (dc k_L_law_15 1 rfl) hg_261 hg_262 hLs ?_
                                          refine R_aload_n (pc := 896) 0 (dc k_L_law_15 2 rfl) rfl rfl ?_
                                          refine R_iload_n (pc := 897) 3 (dc k_L_law_15 3 rfl) rfl rfl ?_
                                          refine R_iconst (pc := 898) (a := 4) (dc k_L_law_15 4 rfl) ?_
                                          refine R_iadd (pc := 899) (dc k_L_law_15 5 rfl) ?_
                                          obtain ⟨⟨hg_263, hg_264⟩, hz⟩ := Z_chk hz
                                          refine R_sld (pc := 900) rfl (dc k_L_law_15 6 rfl) hg_263 hg_264 hLs ?_
                                          refine R_cVP (pc := 901)  (As := [vI (Int32.toInt (xs (Int.toNat (l3_3 + 1)))), vI (Int32.toInt (xs (Int.toNat (l3_3 + 2)))), vI (Int32.toInt (xs (Int.toNat (l3_3 + 3)))), vI (Int32.toInt (xs (Int.toNat (l3_3 + 4))))]) (S := []) ck_L_94 (dc k_L_law_15 7 rfl) ⟨rfl, ⟨_, rfl, rfl⟩, (lb rfl), (lb rfl)⟩ (lb rfl) (lb rfl) (lb rfl) rfl (ct_X_lasts hE_c_81_138_1_80 (lb rfl) (Z_bind hz)) (fun r_265 hz => ?_)
                                          refine R_aload_n (pc := 904) 2 (dc k_L_law_15 8 rfl) rfl rfl ?_
                                          refine R_aload_n (pc := 905) 0 (dc k_L_law_15 9 rfl) rfl rfl ?_
                                          refine R_iload_n (pc := 906) 3 (dc k_L_law_15 10 rfl) rfl rfl ?_
                                          refine R_iconst (pc := 907) (a := 1) (dc k_L_law_15 11 rfl) ?_
                                          refine R_iadd (pc := 908) (dc k_L_law_15 12 rfl) ?_
                                          refine R_sld (pc := 909) rfl (dc k_L_law_15 13 rfl) hg_257 hg_258 hLs ?_
                                          refine R_aload_n (pc := 910) 0 (dc k_L_law_15 14 rfl) rfl rfl ?_
                                          refine R_iload_n (pc := 911) 3 (dc k_L_law_15 15 rfl) rfl rfl ?_
                                          refine R_iconst (pc := 912) (a := 2) (dc k_L_law_15 16 rfl) ?_
                                          refine R_iadd (pc := 913) (dc k_L_law_15 17 rfl) ?_
                                          refine R_sld (pc := 914) rfl (dc k_L_law_15 18 rfl) hg_259 hg_260 hLs ?_
                                          refine R_aload_n (pc := 915) 0 (dc k_L_law_15 19 rfl) rfl rfl ?_
                                          refine R_iload_n (pc := 916) 3 (dc k_L_law_15 20 rfl) rfl rfl ?_
                                          refine R_iconst (pc := 917) (a := 3) (dc k_L_law_15 21 rfl) ?_
                                          refine R_iadd (pc := 918) (dc k_L_law_15 22 rfl) ?_
                                          refine R_sld (pc := 919) rfl (dc k_L_law_15 23 rfl) hg_261 hg_262 hLs ?_
                                          refine R_aload_n (pc := 920) 0 (dc k_L_law_15 24 rfl) rfl rfl ?_
                                          refine R_iload_n (pc := 921) 3 (dc k_L_law_15 25 rfl) rfl rfl ?_
                                          refine R_iconst (pc := 922) (a := 4) (dc k_L_law_15 26 rfl) ?_
                                          refine R_iadd (pc := 923) (dc k_L_law_15 27 rfl) ?_
                                          refine R_sld (pc := 924) rfl (dc k_L_law_15 28 rfl) hg_263 hg_264 hLs ?_
                                          refine R_cVP (pc := 925)  (As := [vI (Int32.toInt (xs (Int.toNat (l3_3 + 1)))), vI (Int32.toInt (xs (Int.toNat (l3_3 + 2)))), vI (Int32.toInt (xs (Int.toNat (l3_3 + 3)))), vI (Int32.toInt (xs (Int.toNat (l3_3 + 4))))]) (S := [vI r_265]) ck_L_98 (dc k_L_law_15 29 rfl) ⟨rfl, ⟨_, rfl, rfl⟩, (lb rfl), (lb rfl)⟩ (lb rfl) (lb rfl) (lb rfl) rfl (ct_M_lasts hE_m_81_138_1_80 (lb rfl) (Z_bind hz)) (fun r_266 hz => ?_)
                                          refine R_icmp_eq (pc := 928) 1240 (dc k_L_law_15 30 rfl) rfl (fun hc => ?_) (fun hc => ?_)
                                          · have hz := Z_neg (show ¬ (¬ n32 r_265 = n32 r_266) from (fun z => z hc)) hz
                                            exact hJ_17 _ hz
                                          · have hz := Z_pos (show ¬ n32 r_265 = n32 r_266 from hc) hz
                                            refine R_iconst (pc := 931) (a := 0) (dc k_L_law_15 31 rfl) ?_
                                            exact R_zret (pc := 932) (dc k_L_law_15 32 rfl) rfl (Or.inl rfl) rfl rfl ⟨_, rfl, (Z_some (hK_6 _ (hB_10 _ (Z_some hz))))⟩
                                        · have hz := Z_neg hs_268 hz
                                          by_cases hs_278 : n32 (iand (Int32.toInt (xs (Int.toNat l3_3))) 31) = 19
                                          · have hz := Z_pos hs_278 hz
                                            refine R_tabIn (pc := 33) 933 (dc k_L_law_0 21 rfl) hs_278 (by decide) (by decide) rfl rfl ?_
                                            refine R_aload_n (pc := 933) 1 (dc k_L_law_15 33 rfl) rfl rfl ?_
                                            refine R_aload_n (pc := 934) 0 (dc k_L_law_15 34 rfl) rfl rfl ?_
                                            refine R_iload_n (pc := 935) 3 (dc k_L_law_15 35 rfl) rfl rfl ?_
                                            refine R_iconst (pc := 936) (a := 1) (dc k_L_law_15 36 rfl) ?_
                                            refine R_iadd (pc := 937) (dc k_L_law_15 37 rfl) ?_
                                            obtain ⟨⟨hg_269, hg_270⟩, hz⟩ := Z_chk hz
                                            refine R_sld (pc := 938) rfl (dc k_L_law_15 38 rfl) hg_269 hg_270 hLs ?_
                                            refine R_aload_n (pc := 939) 0 (dc k_L_law_15 39 rfl) rfl rfl ?_
                                            refine R_iload_n (pc := 940) 3 (dc k_L_law_16 0 rfl) rfl rfl ?_
                                            refine R_iconst (pc := 941) (a := 2) (dc k_L_law_16 1 rfl) ?_
                                            refine R_iadd (pc := 942) (dc k_L_law_16 2 rfl) ?_
                                            obtain ⟨⟨hg_271, hg_272⟩, hz⟩ := Z_chk hz
                                            refine R_sld (pc := 943) rfl (dc k_L_law_16 3 rfl) hg_271 hg_272 hLs ?_
                                            refine R_aload_n (pc := 944) 0 (dc k_L_law_16 4 rfl) rfl rfl ?_
                                            refine R_iload_n (pc := 945) 3 (dc k_L_law_16 5 rfl) rfl rfl ?_
                                            refine R_iconst (pc := 946) (a := 3) (dc k_L_law_16 6 rfl) ?_
                                            refine R_iadd (pc := 947) (dc k_L_law_16 7 rfl) ?_
                                            obtain ⟨⟨hg_273, hg_274⟩, hz⟩ := Z_chk hz
                                            refine R_sld (pc := 948) rfl (dc k_L_law_16 8 rfl) hg_273 hg_274 hLs ?_
                                            refine R_cVP (pc := 949)  (As := [vI (Int32.toInt (xs (Int.toNat (l3_3 + 1)))), vI (Int32.toInt (xs (Int.toNat (l3_3 + 2)))), vI (Int32.toInt (xs (Int.toNat (l3_3 + 3))))]) (S := []) ck_L_99 (dc k_L_law_16 9 rfl) ⟨rfl, ⟨_, rfl, rfl⟩, (lb rfl), (lb rfl)⟩ (lb rfl) (lb rfl) (lb rfl) rfl (ct_X_with hE_c_81_138_1_80 (lb rfl) (Z_bind hz)) (fun r_275 hz => ?_)
                                            refine R_aload_n (pc := 952) 2 (dc k_L_law_16 10 rfl) rfl rfl ?_
                                            refine R_aload_n (pc := 953) 0 (dc k_L_law_16 11 rfl) rfl rfl ?_
                                            refine R_iload_n (pc := 954) 3 (dc k_L_law_16 12 rfl) rfl rfl ?_
                                            refine R_iconst (pc := 955) (a := 1) (dc k_L_law_16 13 rfl) ?_
                                            refine R_iadd (pc := 956) (dc k_L_law_16 14 rfl) ?_
                                            refine R_sld (pc := 957) rfl (dc k_L_law_16 15 rfl) hg_269 hg_270 hLs ?_
                                            refine R_aload_n (pc := 958) 0 (dc k_L_law_16 16 rfl) rfl rfl ?_
                                            refine R_iload_n (pc := 959) 3 (dc k_L_law_16 17 rfl) rfl rfl ?_
                                            refine R_iconst (pc := 960) (a := 2) (dc k_L_law_16 18 rfl) ?_
                                            refine R_iadd (pc := 961) (dc k_L_law_16 19 rfl) ?_
                                            refine R_sld (pc := 962) rfl (dc k_L_law_16 20 rfl) hg_271 hg_272 hLs ?_
                                            refine R_aload_n (pc := 963) 0 (dc k_L_law_16 21 rfl) rfl rfl ?_
                                            refine R_iload_n (pc := 964) 3 (dc k_L_law_16 22 rfl) rfl rfl ?_
                                            refine R_iconst (pc := 965) (a := 3) (dc k_L_law_16 23 rfl) ?_
                                            refine R_iadd (pc := 966) (dc k_L_law_16 24 rfl) ?_
                                            refine R_sld (pc := 967) rfl (dc k_L_law_16 25 rfl) hg_273 hg_274 hLs ?_
                                            refine R_cVP (pc := 968)  (As := [vI (Int32.toInt (xs (Int.toNat (l3_3 + 1)))), vI (Int32.toInt (xs (Int.toNat (l3_3 + 2)))), vI (Int32.toInt (xs (Int.toNat (l3_3 + 3))))]) (S := [vI r_275]) ck_L_102 (dc k_L_law_16 26 rfl) ⟨rfl, ⟨_, rfl, rfl⟩, (lb rfl), (lb rfl)⟩ (lb rfl) (lb rfl) (lb rfl) rfl (ct_M_with hE_m_81_138_1_80 (lb rfl) (Z_bind hz)) (fun r_276 hz => ?_)
                                            refine R_icmp_eq (pc := 971) 1240 (dc k_L_law_16 27 rfl) rfl (fun hc => ?_) (fun hc => ?_)
                                            · have hz := Z_neg (show ¬ (¬ n32 r_275 = n32 r_276) from (fun z => z hc)) hz
                                              exact hJ_17 _ hz
                                            · have hz := Z_pos (show ¬ n32 r_275 = n32 r_276 from hc) hz
                                              refine R_iconst (pc := 974) (a := 0) (dc k_L_law_16 28 rfl) ?_
                                              exact R_zret (pc := 975) (dc k_L_law_16 29 rfl) rfl (Or.inl rfl) rfl rfl ⟨_, rfl, (Z_some (hK_6 _ (hB_10 _ (Z_some hz))))⟩
                                          · have hz := Z_neg hs_278 hz
                                            by_cases hs_287 : n32 (iand (Int32.toInt (xs (Int.toNat l3_3))) 31) = 20
                                            · have hz := Z_pos hs_287 hz
                                              refine R_tabIn (pc := 33) 976 (dc k_L_law_0 21 rfl) hs_287 (by decide) (by decide) rfl rfl ?_
                                              refine R_aload_n (pc := 976) 1 (dc k_L_law_16 30 rfl) rfl rfl ?_
                                              refine R_aload_n (pc := 977) 0 (dc k_L_law_16 31 rfl) rfl rfl ?_
                                              refine R_iload_n (pc := 978) 3 (dc k_L_law_16 32 rfl) rfl rfl ?_
                                              refine R_iconst (pc := 979) (a := 1) (dc k_L_law_16 33 rfl) ?_
                                              refine R_iadd (pc := 980) (dc k_L_law_16 34 rfl) ?_
                                              obtain ⟨⟨hg_279, hg_280⟩, hz⟩ := Z_chk hz
                                              refine R_sld (pc := 981) rfl (dc k_L_law_16 35 rfl) hg_279 hg_280 hLs ?_
                                              refine R_aload_n (pc := 982) 0 (dc k_L_law_16 36 rfl) rfl rfl ?_
                                              refine R_iload_n (pc := 983) 3 (dc k_L_law_16 37 rfl) rfl rfl ?_
                                              refine R_iconst (pc := 984) (a := 2) (dc k_L_law_16 38 rfl) ?_
                                              refine R_iadd (pc := 985) (dc k_L_law_16 39 rfl) ?_
                                              obtain ⟨⟨hg_281, hg_282⟩, hz⟩ := Z_chk hz
                                              refine R_sld (pc := 986) rfl (dc k_L_law_17 0 rfl) hg_281 hg_282 hLs ?_
                                              refine R_cVM (pc := 987)  (As := [vI (Int32.toInt (xs (Int.toNat (l3_3 + 1)))), vI (Int32.toInt (xs (Int.toNat (l3_3 + 2))))]) (S := []) ck_L_103 (dc k_L_law_17 1 rfl) ⟨rfl, ⟨_, rfl, rfl⟩, (lb rfl), (lb rfl)⟩ (lb rfl) (lb rfl) (lb rfl) rfl (ct_X_rest hE_c_81_138_1_80 (lb rfl) (Z_bind hz)) (fun r_283 M_284 hz => ?_)
                                              refine R_aload_n (pc := 990) 2 (dc k_L_law_17 2 rfl) rfl rfl ?_
                                              refine R_aload_n (pc := 991) 0 (dc k_L_law_17 3 rfl) rfl rfl ?_
                                              refine R_iload_n (pc := 992) 3 (dc k_L_law_17 4 rfl) rfl rfl ?_
                                              refine R_iconst (pc := 993) (a := 1) (dc k_L_law_17 5 rfl) ?_
                                              refine R_iadd (pc := 994) (dc k_L_law_17 6 rfl) ?_
                                              refine R_sld (pc := 995) rfl (dc k_L_law_17 7 rfl) hg_279 hg_280 hLs ?_
                                              refine R_aload_n (pc := 996) 0 (dc k_L_law_17 8 rfl) rfl rfl ?_
                                              refine R_iload_n (pc := 997) 3 (dc k_L_law_17 9 rfl) rfl rfl ?_
                                              refine R_iconst (pc := 998) (a := 2) (dc k_L_law_17 10 rfl) ?_
                                              refine R_iadd (pc := 999) (dc k_L_law_17 11 rfl) ?_
                                              refine R_sld (pc := 1000) rfl (dc k_L_law_17 12 rfl) hg_281 hg_282 hLs ?_
                                              refine R_cVP (pc := 1001)  (As := [vI (Int32.toInt (xs (Int.toNat (l3_3 + 1)))), vI (Int32.toInt (xs (Int.toNat (l3_3 + 2))))]) (S := [vI r_283]) ck_L_106 (dc k_L_law_17 13 rfl) ⟨rfl, ⟨_, rfl, rfl⟩, (lb rfl), (lb rfl)⟩ (lb rfl) (lb rfl) (lb rfl) rfl (ct_M_rest hE_m_81_138_1_80 (lb rfl) (Z_bind hz)) (fun r_285 hz => ?_)
                                              refine R_icmp_eq (pc := 1004) 1240 (dc k_L_law_17 14 rfl) rfl (fun hc => ?_) (fun hc => ?_)
                                              · have hz := Z_neg (show ¬ (¬ n32 r_283 = n32 r_285) from (fun z => z hc)) hz
                                                exact hJ_17 _ hz
                                              · have hz := Z_pos (show ¬ n32 r_283 = n32 r_285 from hc) hz
                                                refine R_iconst (pc := 1007) (a := 0) (dc k_L_law_17 15 rfl) ?_
                                                exact R_zret (pc := 1008) (dc k_L_law_17 16 rfl) rfl (Or.inl rfl) rfl rfl ⟨_, rfl, (Z_some (hK_6 _ (hB_10 _ (Z_some hz))))⟩
                                            · have hz := Z_neg hs_287 hz
                                              by_cases hs_303 : n32 (iand (Int32.toInt (xs (Int.toNat l3_3))) 31) = 21
                                              · have hz := Z_pos hs_303 hz
                                                refine R_tabIn (pc := 33) 1009 (dc k_L_law_0 21 rfl) hs_303 (by decide) (by decide) rfl rfl ?_
                                                refine R_aload_n (pc := 1009) 1 (dc k_L_law_17 17 rfl) rfl rfl ?_
                                                refine R_aload_n (pc := 1010) 0 (dc k_L_law_17 18 rfl) rfl rfl ?_
                                                refine R_iload_n (pc := 1011) 3 (dc k_L_law_17 19 rfl) rfl rfl ?_
                                                refine R_iconst (pc := 1012) (a := 1) (dc k_L_law_17 20 rfl) ?_
                                                refine R_iadd (pc := 1013) (dc k_L_law_17 21 rfl) ?_
                                                obtain ⟨⟨hg_288, hg_289⟩, hz⟩ := Z_chk hz
                                                refine R_sld (pc := 1014) rfl (dc k_L_law_17 22 rfl) hg_288 hg_289 hLs ?_
                                                refine R_aload_n (pc := 1015) 0 (dc k_L_law_17 23 rfl) rfl rfl ?_
                                                refine R_iload_n (pc := 1016) 3 (dc k_L_law_17 24 rfl) rfl rfl ?_
                                                refine R_iconst (pc := 1017) (a := 2) (dc k_L_law_17 25 rfl) ?_
                                                refine R_iadd (pc := 1018) (dc k_L_law_17 26 rfl) ?_
                                                obtain ⟨⟨hg_290, hg_291⟩, hz⟩ := Z_chk hz
                                                refine R_sld (pc := 1019) rfl (dc k_L_law_17 27 rfl) hg_290 hg_291 hLs ?_
                                                refine R_aload_n (pc := 1020) 0 (dc k_L_law_17 28 rfl) rfl rfl ?_
                                                refine R_iload_n (pc := 1021) 3 (dc k_L_law_17 29 rfl) rfl rfl ?_
                                                refine R_iconst (pc := 1022) (a := 3) (dc k_L_law_17 30 rfl) ?_
                                                refine R_iadd (pc := 1023) (dc k_L_law_17 31 rfl) ?_
                                                obtain ⟨⟨hg_292, hg_293⟩, hz⟩ := Z_chk hz
                                                refine R_sld (pc := 1024) rfl (dc k_L_law_17 32 rfl) hg_292 hg_293 hLs ?_
                                                refine R_aload_n (pc := 1025) 0 (dc k_L_law_17 33 rfl) rfl rfl ?_
                                                refine R_iload_n (pc := 1026) 3 (dc k_L_law_17 34 rfl) rfl rfl ?_
                                                refine R_iconst (pc := 1027) (a := 4) (dc k_L_law_17 35 rfl) ?_
                                                refine R_iadd (pc := 1028) (dc k_L_law_17 36 rfl) ?_
                                                obtain ⟨⟨hg_294, hg_295⟩, hz⟩ := Z_chk hz
                                                refine R_sld (pc := 1029) rfl (dc k_L_law_17 37 rfl) hg_294 hg_295 hLs ?_
                                                refine R_aload_n (pc := 1030) 0 (dc k_L_law_17 38 rfl) rfl rfl ?_
                                                refine R_iload_n (pc := 1031) 3 (dc k_L_law_17 39 rfl) rfl rfl ?_
                                                refine R_iconst (pc := 1032) (a := 5) (dc k_L_law_18 0 rfl) ?_
                                                refine R_iadd (pc := 1033) (dc k_L_law_18 1 rfl) ?_
                                                obtain ⟨⟨hg_296, hg_297⟩, hz⟩ := Z_chk hz
                                                refine R_sld (pc := 1034) rfl (dc k_L_law_18 2 rfl) hg_296 hg_297 hLs ?_
                                                refine R_cVM (pc := 1035)  (As := [vI (Int32.toInt (xs (Int.toNat (l3_3 + 1)))), vI (Int32.toInt (xs (Int.toNat (l3_3 + 2)))), vI (Int32.toInt (xs (Int.toNat (l3_3 + 3)))), vI (Int32.toInt (xs (Int.toNat (l3_3 + 4)))), vI (Int32.toInt (xs (Int.toNat (l3_3 + 5))))]) (S := []) ck_L_107 (dc k_L_law_18 3 rfl) ⟨rfl, ⟨_, rfl, rfl⟩, (lb rfl), (lb rfl)⟩ (lb rfl) (lb rfl) (lb rfl) rfl (ct_X_truth hE_c_81_138_1_80 (lb rfl) (Z_bind hz)) (fun r_298 M_299 hz => ?_)
                                                refine R_aload_n (pc := 1038) 2 (dc k_L_law_18 4 rfl) rfl rfl ?_
                                                refine R_aload_n (pc := 1039) 0 (dc k_L_law_18 5 rfl) rfl rfl ?_
                                                refine R_iload_n (pc := 1040) 3 (dc k_L_law_18 6 rfl) rfl rfl ?_
                                                refine R_iconst (pc := 1041) (a := 1) (dc k_L_law_18 7 rfl) ?_
                                                refine R_iadd (pc := 1042) (dc k_L_law_18 8 rfl) ?_
                                                refine R_sld (pc := 1043) rfl (dc k_L_law_18 9 rfl) hg_288 hg_289 hLs ?_
                                                refine R_aload_n (pc := 1044) 0 (dc k_L_law_18 10 rfl) rfl rfl ?_
                                                refine R_iload_n (pc := 1045) 3 (dc k_L_law_18 11 rfl) rfl rfl ?_
                                                refine R_iconst (pc := 1046) (a := 2) (dc k_L_law_18 12 rfl) ?_
                                                refine R_iadd (pc := 1047) (dc k_L_law_18 13 rfl) ?_
                                                refine R_sld (pc := 1048) rfl (dc k_L_law_18 14 rfl) hg_290 hg_291 hLs ?_
                                                refine R_aload_n (pc := 1049) 0 (dc k_L_law_18 15 rfl) rfl rfl ?_
                                                refine R_iload_n (pc := 1050) 3 (dc k_L_law_18 16 rfl) rfl rfl ?_
                                                refine R_iconst (pc := 1051) (a := 3) (dc k_L_law_18 17 rfl) ?_
                                                refine R_iadd (pc := 1052) (dc k_L_law_18 18 rfl) ?_
                                                refine R_sld (pc := 1053) rfl (dc k_L_law_18 19 rfl) hg_292 hg_293 hLs ?_
                                                refine R_aload_n (pc := 1054) 0 (dc k_L_law_18 20 rfl) rfl rfl ?_
                                                refine R_iload_n (pc := 1055) 3 (dc k_L_law_18 21 rfl) rfl rfl ?_
                                                refine R_iconst (pc := 1056) (a := 4) (dc k_L_law_18 22 rfl) ?_
                                                refine R_iadd (pc := 1057) (dc k_L_law_18 23 rfl) ?_
                                                refine R_sld (pc := 1058) rfl (dc k_L_law_18 24 rfl) hg_294 hg_295 hLs ?_
                                                refine R_aload_n (pc := 1059) 0 (dc k_L_law_18 25 rfl) rfl rfl ?_
                                                refine R_iload_n (pc := 1060) 3 (dc k_L_law_18 26 rfl) rfl rfl ?_
                                                refine R_iconst (pc := 1061) (a := 5) (dc k_L_law_18 27 rfl) ?_
                                                refine R_iadd (pc := 1062) (dc k_L_law_18 28 rfl) ?_
                                                refine R_sld (pc := 1063) rfl (dc k_L_law_18 29 rfl) hg_296 hg_297 hLs ?_
                                                refine R_cVM (pc := 1064)  (As := [vI (Int32.toInt (xs (Int.toNat (l3_3 + 1)))), vI (Int32.toInt (xs (Int.toNat (l3_3 + 2)))), vI (Int32.toInt (xs (Int.toNat (l3_3 + 3)))), vI (Int32.toInt (xs (Int.toNat (l3_3 + 4)))), vI (Int32.toInt (xs (Int.toNat (l3_3 + 5))))]) (S := [vI r_298]) ck_L_110 (dc k_L_law_18 30 rfl) ⟨rfl, ⟨_, rfl, rfl⟩, (lb rfl), (lb rfl)⟩ (lb rfl) (lb rfl) (lb rfl) rfl (ct_M_truth hE_m_81_138_1_80 (lb rfl) (Z_bind hz)) (fun r_300 M_301 hz => ?_)
                                                refine R_icmp_eq (pc := 1067) 1240 (dc k_L_law_18 31 rfl) rfl (fun hc => ?_) (fun hc => ?_)
                                                · have hz := Z_neg (show ¬ (¬ n32 r_298 = n32 r_300) from (fun z => z hc)) hz
                                                  exact hJ_17 _ hz
                                                · have hz := Z_pos (show ¬ n32 r_298 = n32 r_300 from hc) hz
                                                  refine R_iconst (pc := 1070) (a := 0) (dc k_L_law_18 32 rfl) ?_
                                                  exact R_zret (pc := 1071) (dc k_L_law_18 33 rfl) rfl (Or.inl rfl) rfl rfl ⟨_, rfl, (Z_some (hK_6 _ (hB_10 _ (Z_some hz))))⟩
                                              · have hz := Z_neg hs_303 hz
                                                by_cases hs_313 : n32 (iand (Int32.toInt (xs (Int.toNat l3_3))) 31) = 22
                                                · have hz := Z_pos hs_313 hz
                                                  refine R_tabIn (pc := 33) 1072 (dc k_L_law_0 21 rfl) hs_313 (by decide) (by decide) rfl rfl ?_
                                                  refine R_aload_n (pc := 1072) 1 (dc k_L_law_18 34 rfl) rfl rfl ?_
                                                  refine R_aload_n (pc := 1073) 0 (dc k_L_law_18 35 rfl) rfl rfl ?_
                                                  refine R_iload_n (pc := 1074) 3 (dc k_L_law_18 36 rfl) rfl rfl ?_
                                                  refine R_iconst (pc := 1075) (a := 1) (dc k_L_law_18 37 rfl) ?_
                                                  refine R_iadd (pc := 1076) (dc k_L_law_18 38 rfl) ?_
                                                  obtain ⟨⟨hg_304, hg_305⟩, hz⟩ := Z_chk hz
                                                  refine R_sld (pc := 1077) rfl (dc k_L_law_18 39 rfl) hg_304 hg_305 hLs ?_
                                                  refine R_aload_n (pc := 1078) 0 (dc k_L_law_19 0 rfl) rfl rfl ?_
                                                  refine R_iload_n (pc := 1079) 3 (dc k_L_law_19 1 rfl) rfl rfl ?_
                                                  refine R_iconst (pc := 1080) (a := 2) (dc k_L_law_19 2 rfl) ?_
                                                  refine R_iadd (pc := 1081) (dc k_L_law_19 3 rfl) ?_
                                                  obtain ⟨⟨hg_306, hg_307⟩, hz⟩ := Z_chk hz
                                                  refine R_sld (pc := 1082) rfl (dc k_L_law_19 4 rfl) hg_306 hg_307 hLs ?_
                                                  refine R_cVM (pc := 1083)  (As := [vI (Int32.toInt (xs (Int.toNat (l3_3 + 1)))), vI (Int32.toInt (xs (Int.toNat (l3_3 + 2))))]) (S := []) ck_L_111 (dc k_L_law_19 5 rfl) ⟨rfl, ⟨_, rfl, rfl⟩, (lb rfl), (lb rfl)⟩ (lb rfl) (lb rfl) (lb rfl) rfl (ct_X_leagues hE_c_81_138_1_80 (lb rfl) (Z_bind hz)) (fun r_308 M_309 hz => ?_)
                                                  refine R_aload_n (pc := 1086) 2 (dc k_L_law_19 6 rfl) rfl rfl ?_
                                                  refine R_aload_n (pc := 1087) 0 (dc k_L_law_19 7 rfl) rfl rfl ?_
                                                  refine R_iload_n (pc := 1088) 3 (dc k_L_law_19 8 rfl) rfl rfl ?_
                                                  refine R_iconst (pc := 1089) (a := 1) (dc k_L_law_19 9 rfl) ?_
                                                  refine R_iadd (pc := 1090) (dc k_L_law_19 10 rfl) ?_
                                                  refine R_sld (pc := 1091) rfl (dc k_L_law_19 11 rfl) hg_304 hg_305 hLs ?_
                                                  refine R_aload_n (pc := 1092) 0 (dc k_L_law_19 12 rfl) rfl rfl ?_
                                                  refine R_iload_n (pc := 1093) 3 (dc k_L_law_19 13 rfl) rfl rfl ?_
                                                  refine R_iconst (pc := 1094) (a := 2) (dc k_L_law_19 14 rfl) ?_
                                                  refine R_iadd (pc := 1095) (dc k_L_law_19 15 rfl) ?_
                                                  refine R_sld (pc := 1096) rfl (dc k_L_law_19 16 rfl) hg_306 hg_307 hLs ?_
                                                  refine R_cVM (pc := 1097)  (As := [vI (Int32.toInt (xs (Int.toNat (l3_3 + 1)))), vI (Int32.toInt (xs (Int.toNat (l3_3 + 2))))]) (S := [vI r_308]) ck_L_114 (dc k_L_law_19 17 rfl) ⟨rfl, ⟨_, rfl, rfl⟩, (lb rfl), (lb rfl)⟩ (lb rfl) (lb rfl) (lb rfl) rfl (ct_M_leagues hE_m_81_138_1_80 (lb rfl) (Z_bind hz)) (fun r_310 M_311 hz => ?_)
                                                  refine R_icmp_eq (pc := 1100) 1240 (dc k_L_law_19 18 rfl) rfl (fun hc => ?_) (fun hc => ?_)
                                                  · have hz := Z_neg (show ¬ (¬ n32 r_308 = n32 r_310) from (fun z => z hc)) hz
                                                    exact hJ_17 _ hz
                                                  · have hz := Z_pos (show ¬ n32 r_308 = n32 r_310 from hc) hz
                                                    refine R_iconst (pc := 1103) (a := 0) (dc k_L_law_19 19 rfl) ?_
                                                    exact R_zret (pc := 1104) (dc k_L_law_19 20 rfl) rfl (Or.inl rfl) rfl rfl ⟨_, rfl, (Z_some (hK_6 _ (hB_10 _ (Z_some hz))))⟩
                                                · have hz := Z_neg hs_313 hz
                                                  by_cases hs_321 : n32 (iand (Int32.toInt (xs (Int.toNat l3_3))) 31) = 23
                                                  · have hz := Z_pos hs_321 hz
                                                    refine R_tabIn (pc := 33) 1105 (dc k_L_law_0 21 rfl) hs_321 (by decide) (by decide) rfl rfl ?_
                                                    refine R_aload_n (pc := 1105) 1 (dc k_L_law_19 21 rfl) rfl rfl ?_
                                                    refine R_aload_n (pc := 1106) 0 (dc k_L_law_19 22 rfl) rfl rfl ?_
                                                    refine R_iload_n (pc := 1107) 3 (dc k_L_law_19 23 rfl) rfl rfl ?_
                                                    refine R_iconst (pc := 1108) (a := 1) (dc k_L_law_19 24 rfl) ?_
                                                    refine R_iadd (pc := 1109) (dc k_L_law_19 25 rfl) ?_
                                                    obtain ⟨⟨hg_314, hg_315⟩, hz⟩ := Z_chk hz
                                                    refine R_sld (pc := 1110) rfl (dc k_L_law_19 26 rfl) hg_314 hg_315 hLs ?_
                                                    refine R_cVM (pc := 1111)  (As := [vI (Int32.toInt (xs (Int.toNat (l3_3 + 1))))]) (S := []) ck_L_115 (dc k_L_law_19 27 rfl) ⟨rfl, ⟨_, rfl, rfl⟩, (lb rfl), (lb rfl)⟩ (lb rfl) (lb rfl) (lb rfl) rfl (ct_X_plain hE_c_81_138_1_80 (lb rfl) (Z_bind hz)) (fun r_316 M_317 hz => ?_)
                                                    refine R_aload_n (pc := 1114) 2 (dc k_L_law_19 28 rfl) rfl rfl ?_
                                                    refine R_aload_n (pc := 1115) 0 (dc k_L_law_19 29 rfl) rfl rfl ?_
                                                    refine R_iload_n (pc := 1116) 3 (dc k_L_law_19 30 rfl) rfl rfl ?_
                                                    refine R_iconst (pc := 1117) (a := 1) (dc k_L_law_19 31 rfl) ?_
                                                    refine R_iadd (pc := 1118) (dc k_L_law_19 32 rfl) ?_
                                                    refine R_sld (pc := 1119) rfl (dc k_L_law_19 33 rfl) hg_314 hg_315 hLs ?_
                                                    refine R_cVM (pc := 1120)  (As := [vI (Int32.toInt (xs (Int.toNat (l3_3 + 1))))]) (S := [vI r_316]) ck_L_118 (dc k_L_law_19 34 rfl) ⟨rfl, ⟨_, rfl, rfl⟩, (lb rfl), (lb rfl)⟩ (lb rfl) (lb rfl) (lb rfl) rfl (ct_M_plain hE_m_81_138_1_80 (lb rfl) (Z_bind hz)) (fun r_318 M_319 hz => ?_)
                                                    refine R_icmp_eq (pc := 1123) 1240 (dc k_L_law_19 35 rfl) rfl (fun hc => ?_) (fun hc => ?_)
                                                    · have hz := Z_neg (show ¬ (¬ n32 r_316 = n32 r_318) from (fun z => z hc)) hz
                                                      exact hJ_17 _ hz
                                                    · have hz := Z_pos (show ¬ n32 r_316 = n32 r_318 from hc) hz
                                                      refine R_iconst (pc := 1126) (a := 0) (dc k_L_law_19 36 rfl) ?_
                                                      exact R_zret (pc := 1127) (dc k_L_law_19 37 rfl) rfl (Or.inl rfl) rfl rfl ⟨_, rfl, (Z_some (hK_6 _ (hB_10 _ (Z_some hz))))⟩
                                                  · have hz := Z_neg hs_321 hz
                                                    by_cases hs_332 : n32 (iand (Int32.toInt (xs (Int.toNat l3_3))) 31) = 24
                                                    · have hz := Z_pos hs_332 hz
                                                      refine R_tabIn (pc := 33) 1128 (dc k_L_law_0 21 rfl) hs_332 (by decide) (by decide) rfl rfl ?_
                                                      refine R_aload_n (pc := 1128) 1 (dc k_L_law_19 38 rfl) rfl rfl ?_
                                                      refine R_aload_n (pc := 1129) 0 (dc k_L_law_19 39 rfl) rfl rfl ?_
                                                      refine R_iload_n (pc := 1130) 3 (dc k_L_law_20 0 rfl) rfl rfl ?_
                                                      refine R_iconst (pc := 1131) (a := 1) (dc k_L_law_20 1 rfl) ?_
                                                      refine R_iadd (pc := 1132) (dc k_L_law_20 2 rfl) ?_
                                                      obtain ⟨⟨hg_322, hg_323⟩, hz⟩ := Z_chk hz
                                                      refine R_sld (pc := 1133) rfl (dc k_L_law_20 3 rfl) hg_322 hg_323 hLs ?_
                                                      refine R_aload_n (pc := 1134) 0 (dc k_L_law_20 4 rfl) rfl rfl ?_
                                                      refine R_iload_n (pc := 1135) 3 (dc k_L_law_20 5 rfl) rfl rfl ?_
                                                      refine R_iconst (pc := 1136) (a := 2) (dc k_L_law_20 6 rfl) ?_
                                                      refine R_iadd (pc := 1137) (dc k_L_law_20 7 rfl) ?_
                                                      obtain ⟨⟨hg_324, hg_325⟩, hz⟩ := Z_chk hz
                                                      refine R_sld (pc := 1138) rfl (dc k_L_law_20 8 rfl) hg_324 hg_325 hLs ?_
                                                      refine R_aload_n (pc := 1139) 0 (dc k_L_law_20 9 rfl) rfl rfl ?_
                                                      refine R_iload_n (pc := 1140) 3 (dc k_L_law_20 10 rfl) rfl rfl ?_
                                                      refine R_iconst (pc := 1141) (a := 3) (dc k_L_law_20 11 rfl) ?_
                                                      refine R_iadd (pc := 1142) (dc k_L_law_20 12 rfl) ?_
                                                      obtain ⟨⟨hg_326, hg_327⟩, hz⟩ := Z_chk hz
                                                      refine R_sld (pc := 1143) rfl (dc k_L_law_20 13 rfl) hg_326 hg_327 hLs ?_
                                                      refine R_cVM (pc := 1144)  (As := [vI (Int32.toInt (xs (Int.toNat (l3_3 + 1)))), vI (Int32.toInt (xs (Int.toNat (l3_3 + 2)))), vI (Int32.toInt (xs (Int.toNat (l3_3 + 3))))]) (S := []) ck_L_119 (dc k_L_law_20 14 rfl) ⟨rfl, ⟨_, rfl, rfl⟩, (lb rfl), (lb rfl)⟩ (lb rfl) (lb rfl) (lb rfl) rfl (ct_X_vote hE_c_81_138_1_80 (lb rfl) (Z_bind hz)) (fun r_328 M_329 hz => ?_)
                                                      refine R_aload_n (pc := 1147) 2 (dc k_L_law_20 15 rfl) rfl rfl ?_
                                                      refine R_aload_n (pc := 1148) 0 (dc k_L_law_20 16 rfl) rfl rfl ?_
                                                      refine R_iload_n (pc := 1149) 3 (dc k_L_law_20 17 rfl) rfl rfl ?_
                                                      refine R_iconst (pc := 1150) (a := 1) (dc k_L_law_20 18 rfl) ?_
                                                      refine R_iadd (pc := 1151) (dc k_L_law_20 19 rfl) ?_
                                                      refine R_sld (pc := 1152) rfl (dc k_L_law_20 20 rfl) hg_322 hg_323 hLs ?_
                                                      refine R_aload_n (pc := 1153) 0 (dc k_L_law_20 21 rfl) rfl rfl ?_
                                                      refine R_iload_n (pc := 1154) 3 (dc k_L_law_20 22 rfl) rfl rfl ?_
                                                      refine R_iconst (pc := 1155) (a := 2) (dc k_L_law_20 23 rfl) ?_
                                                      refine R_iadd (pc := 1156) (dc k_L_law_20 24 rfl) ?_
                                                      refine R_sld (pc := 1157) rfl (dc k_L_law_20 25 rfl) hg_324 hg_325 hLs ?_
                                                      refine R_aload_n (pc := 1158) 0 (dc k_L_law_20 26 rfl) rfl rfl ?_
                                                      refine R_iload_n (pc := 1159) 3 (dc k_L_law_20 27 rfl) rfl rfl ?_
                                                      refine R_iconst (pc := 1160) (a := 3) (dc k_L_law_20 28 rfl) ?_
                                                      refine R_iadd (pc := 1161) (dc k_L_law_20 29 rfl) ?_
                                                      refine R_sld (pc := 1162) rfl (dc k_L_law_20 30 rfl) hg_326 hg_327 hLs ?_
                                                      refine R_cVP (pc := 1163)  (As := [vI (Int32.toInt (xs (Int.toNat (l3_3 + 1)))), vI (Int32.toInt (xs (Int.toNat (l3_3 + 2)))), vI (Int32.toInt (xs (Int.toNat (l3_3 + 3))))]) (S := [vI r_328]) ck_L_122 (dc k_L_law_20 31 rfl) ⟨rfl, ⟨_, rfl, rfl⟩, (lb rfl), (lb rfl)⟩ (lb rfl) (lb rfl) (lb rfl) rfl (ct_M_vote hE_m_81_138_1_80 (lb rfl) (Z_bind hz)) (fun r_330 hz => ?_)
                                                      refine R_icmp_eq (pc := 1166) 1240 (dc k_L_law_20 32 rfl) rfl (fun hc => ?_) (fun hc => ?_)
                                                      · have hz := Z_neg (show ¬ (¬ n32 r_328 = n32 r_330) from (fun z => z hc)) hz
                                                        exact hJ_17 _ hz
                                                      · have hz := Z_pos (show ¬ n32 r_328 = n32 r_330 from hc) hz
                                                        refine R_iconst (pc := 1169) (a := 0) (dc k_L_law_20 33 rfl) ?_
                                                        exact R_zret (pc := 1170) (dc k_L_law_20 34 rfl) rfl (Or.inl rfl) rfl rfl ⟨_, rfl, (Z_some (hK_6 _ (hB_10 _ (Z_some hz))))⟩
                                                    · have hz := Z_neg hs_332 hz
                                                      by_cases hs_340 : n32 (iand (Int32.toInt (xs (Int.toNat l3_3))) 31) = 25
                                                      · have hz := Z_pos hs_340 hz
                                                        refine R_tabIn (pc := 33) 1171 (dc k_L_law_0 21 rfl) hs_340 (by decide) (by decide) rfl rfl ?_
                                                        refine R_aload_n (pc := 1171) 1 (dc k_L_law_20 35 rfl) rfl rfl ?_
                                                        refine R_aload_n (pc := 1172) 0 (dc k_L_law_20 36 rfl) rfl rfl ?_
                                                        refine R_iload_n (pc := 1173) 3 (dc k_L_law_20 37 rfl) rfl rfl ?_
                                                        refine R_iconst (pc := 1174) (a := 1) (dc k_L_law_20 38 rfl) ?_
                                                        refine R_iadd (pc := 1175) (dc k_L_law_20 39 rfl) ?_
                                                        obtain ⟨⟨hg_333, hg_334⟩, hz⟩ := Z_chk hz
                                                        refine R_sld (pc := 1176) rfl (dc k_L_law_21 0 rfl) hg_333 hg_334 hLs ?_
                                                        refine R_cVM (pc := 1177)  (As := [vI (Int32.toInt (xs (Int.toNat (l3_3 + 1))))]) (S := []) ck_L_123 (dc k_L_law_21 1 rfl) ⟨rfl, ⟨_, rfl, rfl⟩, (lb rfl), (lb rfl)⟩ (lb rfl) (lb rfl) (lb rfl) rfl (ct_X_image hE_c_81_138_1_80 (lb rfl) (Z_bind hz)) (fun r_335 M_336 hz => ?_)
                                                        refine R_aload_n (pc := 1180) 2 (dc k_L_law_21 2 rfl) rfl rfl ?_
                                                        refine R_aload_n (pc := 1181) 0 (dc k_L_law_21 3 rfl) rfl rfl ?_
                                                        refine R_iload_n (pc := 1182) 3 (dc k_L_law_21 4 rfl) rfl rfl ?_
                                                        refine R_iconst (pc := 1183) (a := 1) (dc k_L_law_21 5 rfl) ?_
                                                        refine R_iadd (pc := 1184) (dc k_L_law_21 6 rfl) ?_
                                                        refine R_sld (pc := 1185) rfl (dc k_L_law_21 7 rfl) hg_333 hg_334 hLs ?_
                                                        refine R_cVM (pc := 1186)  (As := [vI (Int32.toInt (xs (Int.toNat (l3_3 + 1))))]) (S := [vI r_335]) ck_L_126 (dc k_L_law_21 8 rfl) ⟨rfl, ⟨_, rfl, rfl⟩, (lb rfl), (lb rfl)⟩ (lb rfl) (lb rfl) (lb rfl) rfl (ct_M_image hE_m_81_138_1_80 (lb rfl) (Z_bind hz)) (fun r_337 M_338 hz => ?_)
                                                        refine R_icmp_eq (pc := 1189) 1240 (dc k_L_law_21 9 rfl) rfl (fun hc => ?_) (fun hc => ?_)
                                                        · have hz := Z_neg (show ¬ (¬ n32 r_335 = n32 r_337) from (fun z => z hc)) hz
                                                          exact hJ_17 _ hz
                                                        · have hz := Z_pos (show ¬ n32 r_335 = n32 r_337 from hc) hz
                                                          refine R_iconst (pc := 1192) (a := 0) (dc k_L_law_21 10 rfl) ?_
                                                          exact R_zret (pc := 1193) (dc k_L_law_21 11 rfl) rfl (Or.inl rfl) rfl rfl ⟨_, rfl, (Z_some (hK_6 _ (hB_10 _ (Z_some hz))))⟩
                                                      · have hz := Z_neg hs_340 hz
                                                        by_cases hs_348 : n32 (iand (Int32.toInt (xs (Int.toNat l3_3))) 31) = 26
                                                        · have hz := Z_pos hs_348 hz
                                                          refine R_tabIn (pc := 33) 1194 (dc k_L_law_0 21 rfl) hs_348 (by decide) (by decide) rfl rfl ?_
                                                          refine R_aload_n (pc := 1194) 1 (dc k_L_law_21 12 rfl) rfl rfl ?_
                                                          refine R_aload_n (pc := 1195) 0 (dc k_L_law_21 13 rfl) rfl rfl ?_
                                                          refine R_iload_n (pc := 1196) 3 (dc k_L_law_21 14 rfl) rfl rfl ?_
                                                          refine R_iconst (pc := 1197) (a := 1) (dc k_L_law_21 15 rfl) ?_
                                                          refine R_iadd (pc := 1198) (dc k_L_law_21 16 rfl) ?_
                                                          obtain ⟨⟨hg_341, hg_342⟩, hz⟩ := Z_chk hz
                                                          refine R_sld (pc := 1199) rfl (dc k_L_law_21 17 rfl) hg_341 hg_342 hLs ?_
                                                          refine R_cVM (pc := 1200)  (As := [vI (Int32.toInt (xs (Int.toNat (l3_3 + 1))))]) (S := []) ck_L_127 (dc k_L_law_21 18 rfl) ⟨rfl, ⟨_, rfl, rfl⟩, (lb rfl), (lb rfl)⟩ (lb rfl) (lb rfl) (lb rfl) rfl (ct_X_back hE_c_81_138_1_80 (lb rfl) (Z_bind hz)) (fun r_343 M_344 hz => ?_)
                                                          refine R_aload_n (pc := 1203) 2 (dc k_L_law_21 19 rfl) rfl rfl ?_
                                                          refine R_aload_n (pc := 1204) 0 (dc k_L_law_21 20 rfl) rfl rfl ?_
                                                          refine R_iload_n (pc := 1205) 3 (dc k_L_law_21 21 rfl) rfl rfl ?_
                                                          refine R_iconst (pc := 1206) (a := 1) (dc k_L_law_21 22 rfl) ?_
                                                          refine R_iadd (pc := 1207) (dc k_L_law_21 23 rfl) ?_
                                                          refine R_sld (pc := 1208) rfl (dc k_L_law_21 24 rfl) hg_341 hg_342 hLs ?_
                                                          refine R_cVM (pc := 1209)  (As := [vI (Int32.toInt (xs (Int.toNat (l3_3 + 1))))]) (S := [vI r_343]) ck_L_130 (dc k_L_law_21 25 rfl) ⟨rfl, ⟨_, rfl, rfl⟩, (lb rfl), (lb rfl)⟩ (lb rfl) (lb rfl) (lb rfl) rfl (ct_M_back hE_m_81_138_1_80 (lb rfl) (Z_bind hz)) (fun r_345 M_346 hz => ?_)
                                                          refine R_icmp_eq (pc := 1212) 1240 (dc k_L_law_21 26 rfl) rfl (fun hc => ?_) (fun hc => ?_)
                                                          · have hz := Z_neg (show ¬ (¬ n32 r_343 = n32 r_345) from (fun z => z hc)) hz
                                                            exact hJ_17 _ hz
                                                          · have hz := Z_pos (show ¬ n32 r_343 = n32 r_345 from hc) hz
                                                            refine R_iconst (pc := 1215) (a := 0) (dc k_L_law_21 27 rfl) ?_
                                                            exact R_zret (pc := 1216) (dc k_L_law_21 28 rfl) rfl (Or.inl rfl) rfl rfl ⟨_, rfl, (Z_some (hK_6 _ (hB_10 _ (Z_some hz))))⟩
                                                        · have hz := Z_neg hs_348 hz
                                                          by_cases hs_354 : n32 (iand (Int32.toInt (xs (Int.toNat l3_3))) 31) = 27
                                                          · have hz := Z_pos hs_354 hz
                                                            refine R_tabIn (pc := 33) 1217 (dc k_L_law_0 21 rfl) hs_354 (by decide) (by decide) rfl rfl ?_
                                                            refine R_aload_n (pc := 1217) 1 (dc k_L_law_21 29 rfl) rfl rfl ?_
                                                            refine R_aload_n (pc := 1218) 0 (dc k_L_law_21 30 rfl) rfl rfl ?_
                                                            refine R_iload_n (pc := 1219) 3 (dc k_L_law_21 31 rfl) rfl rfl ?_
                                                            refine R_iconst (pc := 1220) (a := 1) (dc k_L_law_21 32 rfl) ?_
                                                            refine R_iadd (pc := 1221) (dc k_L_law_21 33 rfl) ?_
                                                            obtain ⟨⟨hg_349, hg_350⟩, hz⟩ := Z_chk hz
                                                            refine R_sld (pc := 1222) rfl (dc k_L_law_21 34 rfl) hg_349 hg_350 hLs ?_
                                                            refine R_cVP (pc := 1223)  (As := [vI (Int32.toInt (xs (Int.toNat (l3_3 + 1))))]) (S := []) ck_L_131 (dc k_L_law_21 35 rfl) ⟨rfl, ⟨_, rfl, rfl⟩, (lb rfl), (lb rfl)⟩ (lb rfl) (lb rfl) (lb rfl) rfl (ct_X_about hE_c_81_138_1_80 (lb rfl) (Z_bind hz)) (fun r_351 hz => ?_)
                                                            refine R_aload_n (pc := 1226) 2 (dc k_L_law_21 36 rfl) rfl rfl ?_
                                                            refine R_aload_n (pc := 1227) 0 (dc k_L_law_21 37 rfl) rfl rfl ?_
                                                            refine R_iload_n (pc := 1228) 3 (dc k_L_law_21 38 rfl) rfl rfl ?_
                                                            refine R_iconst (pc := 1229) (a := 1) (dc k_L_law_21 39 rfl) ?_
                                                            refine R_iadd (pc := 1230) (dc k_L_law_22 0 rfl) ?_
                                                            refine R_sld (pc := 1231) rfl (dc k_L_law_22 1 rfl) hg_349 hg_350 hLs ?_
                                                            refine R_cVP (pc := 1232)  (As := [vI (Int32.toInt (xs (Int.toNat (l3_3 + 1))))]) (S := [vI r_351]) ck_L_134 (dc k_L_law_22 2 rfl) ⟨rfl, ⟨_, rfl, rfl⟩, (lb rfl), (lb rfl)⟩ (lb rfl) (lb rfl) (lb rfl) rfl (ct_M_about hE_m_81_138_1_80 (lb rfl) (Z_bind hz)) (fun r_352 hz => ?_)
                                                            refine R_icmp_eq (pc := 1235) 1240 (dc k_L_law_22 3 rfl) rfl (fun hc => ?_) (fun hc => ?_)
                                                            · have hz := Z_neg (show ¬ (¬ n32 r_351 = n32 r_352) from (fun z => z hc)) hz
                                                              exact hJ_17 _ hz
                                                            · have hz := Z_pos (show ¬ n32 r_351 = n32 r_352 from hc) hz
                                                              refine R_iconst (pc := 1238) (a := 0) (dc k_L_law_22 4 rfl) ?_
                                                              exact R_zret (pc := 1239) (dc k_L_law_22 5 rfl) rfl (Or.inl rfl) rfl rfl ⟨_, rfl, (Z_some (hK_6 _ (hB_10 _ (Z_some hz))))⟩
                                                          · have hz := Z_neg hs_354 hz
                                                            have hr : n32 (iand (Int32.toInt (xs (Int.toNat l3_3))) 31) < 0 ∨ 27 < n32 (iand (Int32.toInt (xs (Int.toNat l3_3))) 31) := by omega
                                                            refine R_tabOut (pc := 33) 1240 (dc k_L_law_0 21 rfl) hr rfl ?_
                                                            exact hJ_17 _ hz
