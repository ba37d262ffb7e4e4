/-! ===== leagues: the fewest pairs, the class's recursion ===== -/
theorem andn_eq {s u : Nat} (hs : s < 256) (hu : u < 256) : iand (s : Int) (ixor' (u : Int) (-1)) = ((s &&& (255 ^^^ u) : Nat) : Int) := by
  have h : (Int32.ofInt (s : Int) &&& (Int32.ofInt (u : Int) ^^^ Int32.ofInt (-1))).toBitVec.toNat = s &&& (255 ^^^ u) := by
    apply Nat.eq_of_testBit_eq
    intro i
    rw [Int32.toBitVec_and, Int32.toBitVec_xor, Int32.toBitVec_ofInt, Int32.toBitVec_ofInt, Int32.toBitVec_ofInt, BitVec.toNat_and, BitVec.toNat_xor, bv_nat (by omega), bv_nat (by omega), Nat.testBit_and, Nat.testBit_and, Nat.testBit_xor, Nat.testBit_xor]
    by_cases q : i < 8
    · have h1 : (BitVec.ofInt 32 (-1)).toNat.testBit i = true := by
        have : ∀ j, j < 8 → (BitVec.ofInt 32 (-1)).toNat.testBit j = true := by decide
        exact this i q
      have h2 : (255 : Nat).testBit i = true := by
        have : ∀ j, j < 8 → (255 : Nat).testBit j = true := by decide
        exact this i q
      rw [h1, h2, Bool.xor_comm]
    · rw [testBit_lt8 (n := 8) (by omega) (by omega)]
      rfl
  unfold iand ixor'
  show (Int32.ofInt (s : Int) &&& Int32.ofInt ((Int32.ofInt (u : Int) ^^^ Int32.ofInt (-1)).toInt)).toBitVec.toInt = _
  rw [Int32.ofInt_toInt, toInt_small, h]
  rw [h]
  exact Nat.lt_of_le_of_lt Nat.and_le_left (by omega)
theorem andn_tb {s u i : Nat} (hi : i < 8) : (s &&& (255 ^^^ u)).testBit i = (s.testBit i && !u.testBit i) := by
  have h2 : (255 : Nat).testBit i = true := by
    have : ∀ j, j < 8 → (255 : Nat).testBit j = true := by decide
    exact this i hi
  rw [Nat.testBit_and, Nat.testBit_xor, h2, Bool.true_xor]
theorem andn_lt {s u : Nat} (hs : s < 256) : s &&& (255 ^^^ u) < 256 := Nat.lt_of_le_of_lt Nat.and_le_left hs
theorem imin_of {a b : Int} (h1 : n32 a = a) (h2 : n32 b = b) : imin a b = if b < a then b else a := by unfold imin; rw [h1, h2]
def LX (t N m : Nat) (k : Int) (C R : Mem) : Prop := isT t ∧ N ≤ 8 ∧ m ≤ 40 ∧ nS R = m ∧ C 78 0 = (t : Int) ∧ C 78 1 = 42 ∧ C 78 2 = 71 ∧ C 71 3 = ((cnt (ct R k) m : Nat) : Int) ∧ (∀ j, j < cnt (ct R k) m → C 72 j = ((clG (ct R k) m j : Nat) : Int)) ∧ (∀ n, n < m → C 43 n = (sP R n : Int) ∧ sP R n < 256) ∧ C t 1 = (N : Int) ∧ (∀ n, n < 64 → qb (C 78 4) n = wB R k n) ∧ ∀ a c n, a < c → c < N → n < 64 → qb (C 79 (8 * a + c)) n = (wB R k n && ((sP R n).testBit a && (sP R n).testBit c))
def GM (N : Nat) (R : Mem) (used : Nat) (op : Int) (m : Nat → Int) : Prop := MT N m ∧ (∀ p, p < N → used.testBit p = true → m p = -1) ∧ ∀ n, n < 64 → qb op n = true → cvM m N (sP R n) = true
theorem MT_mate {N p : Nat} {m : Nat → Int} (h : MT N m) (hp : p < N) (hlt : (p : Int) < m p) : ∃ q, q < N ∧ p < q ∧ m p = (q : Int) ∧ m q = (p : Int) := by
  rcases h p hp with z | ⟨q, q1, q2, q3, q4⟩
  · omega
  · exact ⟨q, q1, by omega, q3, q4⟩
section LF
variable {t N m : Nat} {k : Int} {C R : Mem}
theorem tightest_eq (h : LX t N m k C R) {op : Int} {used : Nat} (hu : used < 256) (hsub : ∀ n, n < 64 → qb op n = true → wB R k n = true) {n0 : Nat} (hn0 : n0 < 64) (hq0 : qb op n0 = true) : Z (C_tightest op (used : Int) C) (fun v => ∃ n, n < 64 ∧ qb op n = true ∧ sP R n < 256 ∧ v = ((sP R n &&& (255 ^^^ used) : Nat) : Int)) := by
  obtain ⟨ht, hN, hm, eS, k0, k1, k2, k3, k4, k5, k6, k7, k8⟩ := h
  have hcm := cnt_le (ct R k) m
  unfold C_tightest
  rw [Z_bind_iff]
  refine it_Z (fun i st => st.2 = (i : Int) ∧ ((st.1 = -1 ∧ ∀ j, j < i → qb op (clG (ct R k) m j) = false) ∨ ∃ n, n < 64 ∧ qb op n = true ∧ sP R n < 256 ∧ st.1 = ((sP R n &&& (255 ^^^ used) : Nat) : Int))) (cnt (ct R k) m) (by unfold FUEL; omega) ⟨rfl, Or.inl ⟨rfl, fun j hj => by omega⟩⟩ ?_ ?_
  · rintro i ⟨v, l⟩ hi ⟨el, hI⟩
    dsimp only at el hI
    subst el
    obtain ⟨c1, c2, c3⟩ := clG_mem hi
    generalize hn : clG (ct R k) m i = n at *
    unfold C_tightest_b6
    dsimp only
    rw [k2, chk_pos (show (71 : Int) = ((71 : Nat) : Int) from rfl), k3, n32_nat (by omega), n32_nat (by omega), if_pos (by omega), chk_pos (by omega), lt1_eq, tn_nat, k4 i hi, hn]
    cases hq : qb op n with
    | false =>
      rw [if_neg (show ¬ ¬ n64 (jand (jushr op (n : Int)) 1) = n64 0 from fun h => h ((bit_test op (by omega)).mpr hq)), bind_some', lt1_eq]
      refine Z_of (Or.inl ⟨_, rfl, rfl, ?_⟩)
      dsimp only
      rcases hI with ⟨h1, h2⟩ | h1
      · refine Or.inl ⟨h1, fun j hj => ?_⟩
        by_cases e : j = i
        · subst e; rw [hn]; exact hq
        · exact h2 j (by omega)
      · exact Or.inr h1
    | true =>
      rw [if_pos (show ¬ n64 (jand (jushr op (n : Int)) 1) = n64 0 from fun h => by have := (bit_test op (by omega)).mp h; rw [hq] at this; cases this), k1, chk_pos (show (42 : Int) = ((42 : Nat) : Int) from rfl), chk_pos (by omega), lt1_eq, tn_nat, (k5 n c1).1, andn_eq (k5 n c1).2 hu]
      have good : ∃ n', n' < 64 ∧ qb op n' = true ∧ sP R n' < 256 ∧ (((sP R n &&& (255 ^^^ used) : Nat) : Int)) = ((sP R n' &&& (255 ^^^ used) : Nat) : Int) := ⟨n, by omega, hq, (k5 n c1).2, rfl⟩
      have hlt := andn_lt (u := used) (k5 n c1).2
      rcases hI with ⟨h1, h2⟩ | h1
      · rw [h1, if_neg (show ¬ ¬ n32 (-1) = -1 by decide), bind_some', if_pos rfl, bind_some', lt1_eq]
        exact Z_of (Or.inl ⟨_, rfl, rfl, Or.inr good⟩)
      · obtain ⟨n', p1, p2, p3, p4⟩ := h1
        have hlt' := andn_lt (u := used) p3
        rw [p4, if_pos (show ¬ n32 ((sP R n' &&& (255 ^^^ used) : Nat) : Int) = -1 by rw [n32_nat (by omega)]; omega), JI_bit (by omega), bind_some', JI_bit (by omega), bind_some', bind_ite, bind_some', bind_some']
        by_cases q : (n32 ((cnt (sP R n &&& (255 ^^^ used)).testBit 31 : Nat) : Int) < n32 ((cnt (sP R n' &&& (255 ^^^ used)).testBit 31 : Nat) : Int))
        · rw [if_pos q, if_pos rfl, bind_some', lt1_eq]
          exact Z_of (Or.inl ⟨_, rfl, rfl, Or.inr good⟩)
        · rw [if_neg q, if_neg (by decide), bind_some', lt1_eq]
          exact Z_of (Or.inl ⟨_, rfl, rfl, Or.inr ⟨n', p1, p2, p3, rfl⟩⟩)
  · rintro ⟨v, l⟩ ⟨el, hI⟩
    dsimp only at el hI
    subst el
    unfold C_tightest_b6
    dsimp only
    rw [k2, chk_pos (show (71 : Int) = ((71 : Nat) : Int) from rfl), k3, if_neg (by omega)]
    refine Z_of ⟨_, rfl, Z_of ?_⟩
    rcases hI with ⟨h1, h2⟩ | h1
    · exfalso
      have hw := hsub n0 hn0 hq0
      unfold wB at hw
      simp only [Bool.and_eq_true, decide_eq_true_eq] at hw
      have e := clG_get (p := ct R k) hw.2.1 (m := m) (by omega)
      have h9 : cnt (ct R k) n0 < cnt (ct R k) m := cnt_lt (by omega) hw.2.1
      have := h2 _ h9
      rw [e, hq0] at this
      cases this
    · exact h1
def fQ (N : Nat) (R : Mem) (used : Nat) (op : Int) (most : Int) (V a c : Nat) (best : Int) : Prop := (1 ≤ best ∧ best ≤ 8) ∧ (∀ a' c', a' < c' → c' < N → (a' < a ∨ (a' = a ∧ c' < c)) → V.testBit a' = true → V.testBit c' = true → ∀ m, GM N R used op m → m a' = (c' : Int) → (npM m N : Int) ≤ most → best ≤ (npM m N : Int)) ∧ (best ≤ most → ∃ m, GM N R used op m ∧ (npM m N : Int) = best)
def fS (N : Nat) (R : Mem) (used : Nat) (op : Int) (most : Int) (v : Int) : Prop := (0 ≤ v ∧ v ≤ 8) ∧ (∀ m, GM N R used op m → (npM m N : Int) ≤ most → v ≤ (npM m N : Int)) ∧ (v ≤ most → ∃ m, GM N R used op m ∧ (npM m N : Int) = v)
theorem fQ_eq {used : Nat} {op most : Int} {V a c a2 c2 : Nat} {best : Int} (h : fQ N R used op most V a c best) (e : ∀ a' c', a' < c' → c' < N → (a' < a2 ∨ (a' = a2 ∧ c' < c2)) → (a' < a ∨ (a' = a ∧ c' < c))) : fQ N R used op most V a2 c2 best := by
  refine ⟨h.1, fun a' c' h1 h2 h3 => h.2.1 a' c' h1 h2 (e a' c' h1 h2 h3), h.2.2⟩
theorem used_lt {used a c : Nat} (hu : used < 256) (ha : a < 8) (hc : c < 8) : used ||| 2 ^ a ||| 2 ^ c < 256 := by
  have h1 : 2 ^ a < 2 ^ 8 := Nat.pow_lt_pow_right (by omega) ha
  have h2 : 2 ^ c < 2 ^ 8 := Nat.pow_lt_pow_right (by omega) hc
  exact Nat.or_lt_two_pow (n := 8) (Nat.or_lt_two_pow (n := 8) hu h1) h2
theorem used_or {used a c : Nat} (hu : used < 256) (ha : a < 8) (hc : c < 8) : ior' (ior' (used : Int) (ishl 1 (a : Int))) (ishl 1 (c : Int)) = ((used ||| 2 ^ a ||| 2 ^ c : Nat) : Int) := by
  have h1 : 2 ^ a < 2 ^ 8 := Nat.pow_lt_pow_right (by omega) ha
  have h2 : 2 ^ c < 2 ^ 8 := Nat.pow_lt_pow_right (by omega) hc
  have h3 : used ||| 2 ^ a < 2 ^ 8 := Nat.or_lt_two_pow (n := 8) hu h1
  rw [ishl_1 (by omega), ishl_1 (by omega), ior_nat (by omega) (by omega), ior_nat (by omega) (by omega)]
theorem used_tb {used a c p : Nat} : (used ||| 2 ^ a ||| 2 ^ c).testBit p = true ↔ (used.testBit p = true ∨ p = a ∨ p = c) := by
  rw [Nat.testBit_or, Nat.testBit_or, Nat.testBit_two_pow, Nat.testBit_two_pow]
  simp only [Bool.or_eq_true, decide_eq_true_eq]
  constructor
  · rintro ((h | h) | h)
    · exact Or.inl h
    · exact Or.inr (Or.inl h.symm)
    · exact Or.inr (Or.inr h.symm)
  · rintro (h | h | h)
    · exact Or.inl (Or.inl h)
    · exact Or.inl (Or.inr h.symm)
    · exact Or.inr h.symm
/-- the step at one pair -/
theorem fQ_step (h : LX t N m k C R) {used : Nat} {op most : Int} {V a c : Nat} {best : Int} (hac : a < c) (hc : c < N) (hsub : ∀ n, n < 64 → qb op n = true → wB R k n = true) (hV2 : ∀ i, V.testBit i = true → used.testBit i = false) (hVa : V.testBit a = true) (hVc : V.testBit c = true) (hQ : fQ N R used op most V a c best) {r g : Int} (hg : g = (if best - 1 < most then best - 1 else most) - 1) (hr : 0 ≤ g → fS N R (used ||| 2 ^ a ||| 2 ^ c) (jand op (jxor (C 79 (8 * a + c)) (-1))) g r) (hmost : most ≤ 4) : fQ N R used op most V a (c + 1) (if 0 ≤ g then (if 1 + r < best then 1 + r else best) else best) := by
  obtain ⟨ht, hN, hm, eS, k0, k1, k2, k3, k4, k5, k6, k7, k8⟩ := h
  obtain ⟨⟨b1, b2⟩, b3, b4⟩ := hQ
  have hg' : g + 1 ≤ most ∧ g + 1 ≤ best - 1 ∧ (g + 1 = most ∨ g + 1 = best - 1) := by
    rw [hg]
    split <;> omega
  clear hg
  have hl : ∀ n, n < 64 → (qb (jand op (jxor (C 79 (8 * a + c)) (-1))) n = true ↔ (qb op n = true ∧ ¬ (wB R k n = true ∧ (sP R n).testBit a = true ∧ (sP R n).testBit c = true))) := by
    intro n hn
    rw [qb_and, qb_not _ hn, k8 a c n hac hc hn]
    cases qb op n <;> cases wB R k n <;> cases (sP R n).testBit a <;> cases (sP R n).testBit c <;> simp
  -- taking the pair away
  have down : ∀ m', GM N R used op m' → m' a = (c : Int) → GM N R (used ||| 2 ^ a ||| 2 ^ c) (jand op (jxor (C 79 (8 * a + c)) (-1))) (mRm m' a c) ∧ npM (mRm m' a c) N + 1 = npM m' N := by
    rintro m' ⟨g1, g2, g3⟩ hm'
    have hca : m' c = (a : Int) := by
      obtain ⟨q, q1, q2, q3, q4⟩ := MT_mate g1 (p := a) (by omega) (by omega)
      have : q = c := by omega
      subst this; exact q4
    refine ⟨⟨mRm_MT g1 (by omega) hc hm', ?_, ?_⟩, mRm_np (by omega) hac hm' hca⟩
    · intro p hp hpu
      unfold mRm
      rcases used_tb.mp hpu with z | z
      · split
        · rfl
        · exact g2 p hp z
      · rw [if_pos z]
    · intro n hn hq
      obtain ⟨z1, z2⟩ := (hl n hn).mp hq
      exact mRm_cv hac hm' hca (g3 n hn z1) (fun z => z2 ⟨hsub n hn z1, z⟩)
  have up' : ∀ m', GM N R (used ||| 2 ^ a ||| 2 ^ c) (jand op (jxor (C 79 (8 * a + c)) (-1))) m' → GM N R used op (mAd m' a c) ∧ npM (mAd m' a c) N = npM m' N + 1 := by
    rintro m' ⟨g1, g2, g3⟩
    have ha1 := g2 a (by omega) (used_tb.mpr (Or.inr (Or.inl rfl)))
    have hc1 := g2 c hc (used_tb.mpr (Or.inr (Or.inr rfl)))
    refine ⟨⟨mAd_MT g1 (by omega) hc (by omega) ha1 hc1, ?_, ?_⟩, mAd_np (by omega) hac ha1 hc1⟩
    · intro p hp hpu
      have e1 : p ≠ a := by rintro rfl; rw [hV2 p hVa] at hpu; cases hpu
      have e2 : p ≠ c := by rintro rfl; rw [hV2 p hVc] at hpu; cases hpu
      unfold mAd
      rw [if_neg e1, if_neg e2]
      exact g2 p hp (used_tb.mpr (Or.inl hpu))
    · intro n hn hq
      by_cases z : (sP R n).testBit a = true ∧ (sP R n).testBit c = true
      · exact mAd_cv2 (by omega) hac z
      · exact mAd_cv hac ha1 hc1 (g3 n hn ((hl n hn).mpr ⟨hq, fun y => z y.2⟩))
  by_cases q : 0 ≤ g
  · rw [if_pos q]
    obtain ⟨⟨r1, r2⟩, r3, r4⟩ := hr q
    have le : (if 1 + r < best then 1 + r else best) ≤ best ∧ (if 1 + r < best then 1 + r else best) ≤ 1 + r ∧ ((if 1 + r < best then 1 + r else best) = best ∨ ((if 1 + r < best then 1 + r else best) = 1 + r ∧ 1 + r < best)) := by
      split <;> omega
    generalize (if 1 + r < best then 1 + r else best) = nb at *
    refine ⟨by omega, ?_, ?_⟩
    · intro a' c' h1 h2 h3 v1 v2 m' hm' hma hnp
      by_cases e : a' = a ∧ c' = c
      · obtain ⟨rfl, rfl⟩ := e
        by_cases z : best ≤ (npM m' N : Int)
        · omega
        · obtain ⟨y1, y2⟩ := down m' hm' hma
          have := r3 _ y1 (by omega)
          omega
      · have := b3 a' c' h1 h2 (by omega) v1 v2 m' hm' hma hnp
        omega
    · intro hb
      rcases le.2.2 with e | ⟨e, e2⟩
      · rw [e]; exact b4 (by omega)
      · obtain ⟨m', y1, y2⟩ := r4 (by omega)
        obtain ⟨y3, y4⟩ := up' m' y1
        exact ⟨_, y3, by omega⟩
  · rw [if_neg q]
    refine ⟨⟨b1, b2⟩, ?_, b4⟩
    intro a' c' h1 h2 h3 v1 v2 m' hm' hma hnp
    by_cases e : a' = a ∧ c' = c
    · obtain ⟨rfl, rfl⟩ := e
      obtain ⟨y1, y2⟩ := down m' hm' hma
      omega
    · exact b3 a' c' h1 h2 (by omega) v1 v2 m' hm' hma hnp
end LF
