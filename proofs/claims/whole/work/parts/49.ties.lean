/-! ===== sets of ties in which no person is twice ===== -/
def prM (R : Mem) (b i : Nat) : Nat := 2 ^ tOne R b i ||| 2 ^ tTwo R b i
/-- who is met in the first n ties of a set -/
def umB (R : Mem) (b set : Nat) : Nat → Nat
  | 0 => 0
  | n + 1 => if set.testBit n then umB R b set n ||| prM R b n else umB R b set n
def apB (R : Mem) (b set : Nat) : Bool := allB (fun n => !set.testBit n || decide (umB R b set n &&& prM R b n = 0)) (nT R b)
def sumG (g : Nat → Int) (set : Nat) : Nat → Int
  | 0 => 0
  | n + 1 => sumG g set n + (if set.testBit n then g n else 0)
theorem umB_congr {R : Mem} {b s s' : Nat} : ∀ {n : Nat}, (∀ i, i < n → s.testBit i = s'.testBit i) → umB R b s n = umB R b s' n
  | 0, _ => rfl
  | n + 1, h => by
    show (if s.testBit n then umB R b s n ||| prM R b n else umB R b s n) = (if s'.testBit n then umB R b s' n ||| prM R b n else umB R b s' n)
    rw [umB_congr (fun i hi => h i (by omega)), h n (by omega)]
theorem sumG_congr {g : Nat → Int} {s s' : Nat} : ∀ {n : Nat}, (∀ i, i < n → s.testBit i = s'.testBit i) → sumG g s n = sumG g s' n
  | 0, _ => rfl
  | n + 1, h => by
    show sumG g s n + (if s.testBit n then g n else 0) = sumG g s' n + (if s'.testBit n then g n else 0)
    rw [sumG_congr (fun i hi => h i (by omega)), h n (by omega)]
theorem umB_stop {R : Mem} {b s m : Nat} : ∀ {n : Nat}, m ≤ n → (∀ i, m ≤ i → i < n → s.testBit i = false) → umB R b s n = umB R b s m
  | 0, hm, _ => by rw [show m = 0 from by omega]
  | n + 1, hm, h => by
    by_cases e : m = n + 1
    · rw [e]
    · show (if s.testBit n then umB R b s n ||| prM R b n else umB R b s n) = _
      rw [h n (by omega) (by omega), if_neg (by decide)]
      exact umB_stop (by omega) (fun i h1 h2 => h i h1 (by omega))
theorem sumG_stop {g : Nat → Int} {s m : Nat} : ∀ {n : Nat}, m ≤ n → (∀ i, m ≤ i → i < n → s.testBit i = false) → sumG g s n = sumG g s m
  | 0, hm, _ => by rw [show m = 0 from by omega]
  | n + 1, hm, h => by
    by_cases e : m = n + 1
    · rw [e]
    · show sumG g s n + (if s.testBit n then g n else 0) = _
      rw [h n (by omega) (by omega), if_neg (by decide), sumG_stop (by omega) (fun i h1 h2 => h i h1 (by omega))]
      omega
theorem mod_tb {T n i : Nat} (h : i < n) : (T % 2 ^ n).testBit i = T.testBit i := by rw [Nat.testBit_mod_two_pow, decide_eq_true h, Bool.true_and]
theorem add_tb {s j i : Nat} (h : s < 2 ^ j) : (s + 2 ^ j).testBit i = (s.testBit i || decide (i = j)) := by
  have e := Nat.testBit_two_pow_mul_add 1 h i
  rw [Nat.mul_one, Nat.add_comm] at e
  rw [e]
  by_cases q : i < j
  · rw [if_pos q, decide_eq_false (by omega), Bool.or_false]
  · rw [if_neg q, testBit_lt8 h (by omega), Bool.false_or]
    by_cases q2 : i = j
    · subst q2; simp
    · rw [decide_eq_false q2]
      exact testBit_lt8 (n := 1) (by decide) (by omega)
theorem or_add {s j : Nat} (h : s < 2 ^ j) : s ||| 2 ^ j = s + 2 ^ j := by
  apply Nat.eq_of_testBit_eq
  intro i
  rw [add_tb h, Nat.testBit_or, Nat.testBit_two_pow]
  congr 1
  exact decide_eq_decide.mpr eq_comm
theorem mod_succ {T j s : Nat} (h : T % 2 ^ j = s) : T % 2 ^ (j + 1) = if T.testBit j then s + 2 ^ j else s := by
  subst h
  have hlt := Nat.mod_lt T (Nat.two_pow_pos j)
  apply Nat.eq_of_testBit_eq
  intro i
  cases hb : T.testBit j with
  | true =>
    rw [if_pos rfl, add_tb hlt, Nat.testBit_mod_two_pow, Nat.testBit_mod_two_pow]
    by_cases q : i < j
    · rw [decide_eq_true q, decide_eq_true (show i < j + 1 by omega), decide_eq_false (show ¬ i = j by omega), Bool.or_false]
    · by_cases q2 : i = j
      · subst q2
        rw [hb]; simp
      · rw [decide_eq_false q, decide_eq_false (show ¬ i < j + 1 by omega), decide_eq_false q2]; simp
  | false =>
    rw [if_neg (by decide), Nat.testBit_mod_two_pow, Nat.testBit_mod_two_pow]
    by_cases q : i < j
    · rw [decide_eq_true q, decide_eq_true (show i < j + 1 by omega)]
    · by_cases q2 : i = j
      · subst q2
        rw [hb]; simp
      · rw [decide_eq_false q, decide_eq_false (show ¬ i < j + 1 by omega)]
theorem sumG_add {g : Nat → Int} {s j : Nat} (h : s < 2 ^ j) : sumG g (s + 2 ^ j) (j + 1) = sumG g s j + g j := by
  show sumG g (s + 2 ^ j) j + (if (s + 2 ^ j).testBit j then g j else 0) = _
  rw [add_tb h, decide_eq_true rfl, Bool.or_true, if_pos rfl, sumG_congr (s' := s) (fun i hi => by rw [add_tb h, decide_eq_false (by omega), Bool.or_false])]
theorem umB_add {R : Mem} {b s j : Nat} (h : s < 2 ^ j) : umB R b (s + 2 ^ j) (j + 1) = umB R b s j ||| prM R b j := by
  show (if (s + 2 ^ j).testBit j then umB R b (s + 2 ^ j) j ||| prM R b j else umB R b (s + 2 ^ j) j) = _
  rw [add_tb h, decide_eq_true rfl, Bool.or_true, if_pos rfl, umB_congr (s' := s) (fun i hi => by rw [add_tb h, decide_eq_false (by omega), Bool.or_false])]
/-- the least tie from j on -/
theorem least_bit {T j : Nat} {n : Nat} (hT : T < 2 ^ n) (h : T ≠ T % 2 ^ j) : ∃ m, j ≤ m ∧ m < n ∧ T % 2 ^ (m + 1) = T % 2 ^ j + 2 ^ m := by
  have hex : ∃ m, j ≤ m ∧ T.testBit m = true := by
    cases hh : anyB (fun i => decide (j ≤ i) && T.testBit i) n with
    | true =>
      obtain ⟨i, -, h2⟩ := anyB_iff.mp hh
      simp only [Bool.and_eq_true, decide_eq_true_eq] at h2
      exact ⟨i, h2⟩
    | false =>
      exfalso
      apply h
      apply Nat.eq_of_testBit_eq
      intro i
      rw [Nat.testBit_mod_two_pow]
      by_cases q : i < j
      · rw [decide_eq_true q, Bool.true_and]
      · rw [decide_eq_false q, Bool.false_and]
        by_cases q2 : i < n
        · have := anyB_no.mp hh i q2
          rw [decide_eq_true (by omega), Bool.true_and] at this
          exact this
        · exact testBit_lt8 hT (by omega)
  obtain ⟨m, ⟨m1, m2⟩, m3⟩ := pk_least _ hex
  have hlow : ∀ d, j + d ≤ m → T % 2 ^ (j + d) = T % 2 ^ j := by
    intro d
    induction d with
    | zero => intro _; rfl
    | succ d ih =>
      intro hd
      have e := mod_succ (j := j + d) (ih (by omega))
      have : T.testBit (j + d) = false := by
        cases hb : T.testBit (j + d) with
        | false => rfl
        | true => exact absurd ⟨by omega, hb⟩ (m3 (j + d) (by omega))
      rw [this, if_neg (by decide)] at e
      exact e
  refine ⟨m, m1, ?_, ?_⟩
  · rcases Nat.lt_or_ge m n with z | z
    · exact z
    · rw [testBit_lt8 hT z] at m2; cases m2
  · have e := hlow (m - j) (by omega)
    rw [show j + (m - j) = m from by omega] at e
    rw [mod_succ e, m2, if_pos rfl]
theorem mod_mod {T j m s : Nat} (hjm : j ≤ m) (hs : s < 2 ^ j) (h : T % 2 ^ (m + 1) = s + 2 ^ m) : T % 2 ^ j = s := by
  have h1 : T % 2 ^ (m + 1) % 2 ^ j = T % 2 ^ j := Nat.mod_mod_of_dvd _ (Nat.pow_dvd_pow 2 (by omega))
  rw [← h1, h]
  obtain ⟨d, rfl⟩ := Nat.exists_eq_add_of_le hjm
  rw [Nat.pow_add, Nat.add_mul_mod_self_left, Nat.mod_eq_of_lt hs]
section TIES
variable {t b : Nat} {C R : Mem}
theorem prM_lt (hT : TieR t b C R) (hP : nP R b ≤ 8) {i : Nat} (hi : i < nT R b) : prM R b i < 256 := by
  obtain ⟨-, ⟨-, k4⟩, ⟨-, k6⟩, -⟩ := hT.1 i hi
  exact pair_lt (by omega) (by omega)
theorem umB_lt (hT : TieR t b C R) (hP : nP R b ≤ 8) (s : Nat) : ∀ n, n ≤ nT R b → umB R b s n < 256
  | 0, _ => by show 0 < 256; decide
  | n + 1, h => by
    have ih := umB_lt hT hP s n (by omega)
    have h2 := prM_lt hT hP (show n < nT R b by omega)
    show (if s.testBit n then umB R b s n ||| prM R b n else umB R b s n) < 256
    split
    · exact Nat.or_lt_two_pow (n := 8) ih h2
    · exact ih
theorem M_pair_eq (hT : TieR t b C R) (hP : nP R b ≤ 8) {i : Nat} (hi : i < nT R b) : ior' (ishl 1 (R 98 (12 * b + i))) (ishl 1 (R 99 (12 * b + i))) = (prM R b i : Int) := by
  obtain ⟨-, ⟨k3, k4⟩, ⟨k5, k6⟩, -⟩ := hT.1 i hi
  rw [show R 98 (12 * b + i) = (tOne R b i : Int) from by unfold tOne; omega, show R 99 (12 * b + i) = (tTwo R b i : Int) from by unfold tTwo; omega, ior_pair (by omega) (by omega)]
  rfl
theorem T_pairOf_eq (hT : TieR t b C R) (hP : nP R b ≤ 8) (hTn : nT R b ≤ 12) {i : Nat} (hi : i < nT R b) : T_pairOf t (i : Int) C = some (prM R b i : Int) := by
  obtain ⟨⟨k1, k2, -⟩, -⟩ := hT.1 i hi
  unfold T_pairOf
  rw [chk_pos (by omega), tn_nat, k1, k2, M_pair_eq hT hP hi]
theorem M_areApart_eq (hb : b < 2) (h38 : R 81 38 = (b : Int)) (h : NumR t b C R) (hT : TieR t b C R) {s : Nat} (hs : s < 2147483648) : M_areApart (s : Int) R = some (b1 (apB R b s)) := by
  have hTn := num_T h
  have hP := num_P h
  have S := it_seekS (body := M_areApart_b4 (s : Int) R) (fun n => ((umB R b s n : Int), (n : Int))) (p := fun n => s.testBit n && !decide (umB R b s n &&& prM R b n = 0)) (v := fun _ => 0) (nT R b) (by unfold FUEL; omega) ?_ ?_ ?_
  · unfold M_areApart apB
    have e : allB (fun n => !s.testBit n || decide (umB R b s n &&& prM R b n = 0)) (nT R b) = !anyB (fun n => s.testBit n && !decide (umB R b s n &&& prM R b n = 0)) (nT R b) := by
      unfold allB
      rw [anyB_congr (fun i _ => by rw [Bool.not_or, Bool.not_not])]
    rw [e]
    have S0 : ((umB R b s 0 : Nat) : Int) = 0 := rfl
    cases ha : anyB (fun n => s.testBit n && !decide (umB R b s n &&& prM R b n = 0)) (nT R b) with
    | false =>
      have := S.1 ha
      rw [show it (M_areApart_b4 (s : Int) R) FUEL (0, 0) = _ from this]
      rfl
    | true =>
      obtain ⟨i, -, -, -, q⟩ := S.2 ha
      rw [show it (M_areApart_b4 (s : Int) R) FUEL (0, 0) = _ from q]
      rfl
  · intro i hi _ hp
    rw [Bool.and_eq_true] at hp
    have u1 := umB_lt hT hP.2.2 s i (by omega)
    have u2 := prM_lt hT hP.2.2 hi
    unfold M_areApart_b4
    dsimp only
    rw [h38, chk_pos (by omega), tn_nat, hTn.1, n32_nat (by omega), n32_nat (by omega), if_pos (by omega), jn_eq, hb_eq hs (by omega), hp.1, if_pos rfl, if_neg (by decide), chk_pos (by omega), tn_12, lt1_eq, M_pair_eq hT hP.2.2 hi, iand_nat (by omega) (by omega)]
    have h2 : ¬ (umB R b s i &&& prM R b i = 0) := by simpa using hp.2
    have h3 : umB R b s i &&& prM R b i < 256 := Nat.lt_of_le_of_lt Nat.and_le_left u1
    rw [n32_nat (by omega), if_pos (by omega)]
  · intro i hi _ hp
    have u1 := umB_lt hT hP.2.2 s i (by omega)
    have u2 := prM_lt hT hP.2.2 hi
    have en : umB R b s (i + 1) = if s.testBit i then umB R b s i ||| prM R b i else umB R b s i := rfl
    unfold M_areApart_b4
    dsimp only
    rw [h38, chk_pos (by omega), tn_nat, hTn.1, n32_nat (by omega), n32_nat (by omega), if_pos (by omega), jn_eq, hb_eq hs (by omega), en]
    cases hb2 : s.testBit i with
    | false => rfl
    | true =>
      rw [hb2, Bool.true_and] at hp
      have h2 : umB R b s i &&& prM R b i = 0 := by simpa using hp
      rw [if_pos rfl, if_neg (by decide), chk_pos (by omega), tn_12, lt1_eq, M_pair_eq hT hP.2.2 hi, iand_nat (by omega) (by omega), h2, if_neg (by decide), ior_nat (by omega) (by omega), if_pos rfl]
      rfl
  · intro _
    unfold M_areApart_b4
    dsimp only
    rw [h38, chk_pos (by omega), tn_nat, hTn.1, if_neg (by omega)]
end TIES
