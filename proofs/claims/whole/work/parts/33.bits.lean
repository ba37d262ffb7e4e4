/-! ===== shifts of ints, bits of longs ===== -/
theorem ishl_1 {k : Nat} (h : k < 31) : ishl 1 (k : Int) = ((2 ^ k : Nat) : Int) := by
  have : ∀ k : Nat, k < 31 → ishl 1 (k : Int) = ((2 ^ k : Nat) : Int) := by decide +kernel
  exact this k h
theorem shr31 {k : Nat} (h : k < 32) : ((Int32.ofInt (k : Int) &&& 31).toBitVec.smod 32).toNat = k := by
  have : ∀ k : Nat, k < 32 → ((Int32.ofInt (k : Int) &&& 31).toBitVec.smod 32).toNat = k := by decide +kernel
  exact this k h
theorem ishr_nat {a k : Nat} (ha : a < 2147483648) (hk : k < 32) : ishr (a : Int) (k : Int) = ((a >>> k : Nat) : Int) := by
  unfold ishr
  rw [pk_shr _ _ k (shr31 hk)]
  have e : (Int32.ofInt (a : Int)).toInt = (a : Int) := n32_nat ha
  rw [e]
  rfl
theorem tb_shr (a k : Nat) : (a >>> k) &&& 1 = if a.testBit k then 1 else 0 := by
  rw [Nat.testBit, Nat.and_comm]
  have h : 1 &&& (a >>> k) = 0 ∨ 1 &&& (a >>> k) = 1 := by
    rw [Nat.and_comm, Nat.and_one_is_mod]; omega
  rcases h with h | h <;> rw [h] <;> rfl
theorem hb_eq {a k : Nat} (ha : a < 2147483648) (hk : k < 32) : iand (ishr (a : Int) (k : Int)) 1 = if a.testBit k then 1 else 0 := by
  rw [ishr_nat ha hk]
  have e := iand_nat (a := a >>> k) (b := 1) (Nat.lt_of_le_of_lt (Nat.shiftRight_le _ _) ha) (by omega)
  rw [show ((1 : Nat) : Int) = 1 from rfl] at e
  rw [e, tb_shr]
  split <;> rfl
theorem X_hasBit_eq {a k : Nat} (ha : a < 2147483648) (hk : k < 32) (M : Mem) : X_hasBit (a : Int) (k : Int) M = some (if a.testBit k then 1 else 0) := by
  unfold X_hasBit
  rw [hb_eq ha hk]
  cases a.testBit k <;> rfl
def qb (x : Int) (i : Nat) : Bool := (BitVec.ofInt 64 x).getLsbD i
theorem bvj (y : Int64) : BitVec.ofInt 64 y.toInt = y.toBitVec := BitVec.ofInt_toInt
theorem qb_and (a b : Int) (i : Nat) : qb (jand a b) i = (qb a i && qb b i) := by
  unfold qb jand
  rw [bvj, Int64.toBitVec_and, BitVec.getLsbD_and, Int64.toBitVec_ofInt, Int64.toBitVec_ofInt]
theorem qb_or (a b : Int) (i : Nat) : qb (jor a b) i = (qb a i || qb b i) := by
  unfold qb jor
  rw [bvj, Int64.toBitVec_or, BitVec.getLsbD_or, Int64.toBitVec_ofInt, Int64.toBitVec_ofInt]
theorem qb_xor (a b : Int) (i : Nat) : qb (jxor a b) i = (qb a i ^^ qb b i) := by
  unfold qb jxor
  rw [bvj, Int64.toBitVec_xor, BitVec.getLsbD_xor, Int64.toBitVec_ofInt, Int64.toBitVec_ofInt]
theorem qb_m1 (i : Nat) : qb (-1) i = decide (i < 64) := by
  unfold qb
  rw [show BitVec.ofInt 64 (-1) = BitVec.allOnes 64 from by decide +kernel, BitVec.getLsbD_allOnes]
theorem qb_0 (i : Nat) : qb 0 i = false := by
  unfold qb
  rw [show BitVec.ofInt 64 0 = 0#64 from by decide +kernel, BitVec.getLsbD_zero]
theorem qb_not (a : Int) {i : Nat} (h : i < 64) : qb (jxor a (-1)) i = !qb a i := by
  rw [qb_xor, qb_m1, decide_eq_true h, Bool.xor_true]
theorem qb_big (a : Int) {i : Nat} (h : 64 ≤ i) : qb a i = false := by
  unfold qb
  exact BitVec.getLsbD_of_ge _ _ h
theorem su63 {k : Nat} (h : k < 64) : (((Int32.ofInt (k : Int)).toInt64.toUInt64 &&& Int64.toUInt64 63).toBitVec % 64).toNat = k := by
  have : ∀ k : Nat, k < 64 → (((Int32.ofInt (k : Int)).toInt64.toUInt64 &&& Int64.toUInt64 63).toBitVec % 64).toNat = k := by decide +kernel
  exact this k h
theorem sj63 {k : Nat} (h : k < 64) : (((Int32.ofInt (k : Int)).toInt64 &&& 63).toBitVec.smod 64).toNat = k := by
  have : ∀ k : Nat, k < 64 → (((Int32.ofInt (k : Int)).toInt64 &&& 63).toBitVec.smod 64).toNat = k := by decide +kernel
  exact this k h
theorem bv_ushr (a : Int) {k : Nat} (h : k < 64) : BitVec.ofInt 64 (jushr a (k : Int)) = BitVec.ofInt 64 a >>> k := by
  unfold jushr
  rw [bvj]
  have e : ((Int64.ofInt a).toUInt64 >>> ((Int32.ofInt (k : Int)).toInt64.toUInt64 &&& Int64.toUInt64 63)).toInt64.toBitVec = (Int64.ofInt a).toBitVec >>> (((Int32.ofInt (k : Int)).toInt64.toUInt64 &&& Int64.toUInt64 63).toBitVec % 64) := rfl
  rw [e, BitVec.ushiftRight_eq', su63 h, Int64.toBitVec_ofInt]
theorem bv_shl (a : Int) {k : Nat} (h : k < 64) : BitVec.ofInt 64 (jshl a (k : Int)) = BitVec.ofInt 64 a <<< k := by
  unfold jshl
  rw [bvj, Int64.toBitVec_shiftLeft, BitVec.shiftLeft_eq', sj63 h, Int64.toBitVec_ofInt]
theorem qb_ushr (a : Int) {k : Nat} (h : k < 64) (i : Nat) : qb (jushr a (k : Int)) i = qb a (k + i) := by
  unfold qb
  rw [bv_ushr a h, BitVec.getLsbD_ushiftRight]
theorem qb_shl (a : Int) {k : Nat} (h : k < 64) (i : Nat) : qb (jshl a (k : Int)) i = (decide (i < 64) && (!decide (i < k) && qb a (i - k))) := by
  unfold qb
  rw [bv_shl a h, BitVec.getLsbD_shiftLeft, Bool.and_assoc]
theorem n64_bv {a b : Int} : n64 a = n64 b ↔ BitVec.ofInt 64 a = BitVec.ofInt 64 b := by
  unfold n64
  rw [Int64.toInt_inj, ← Int64.toBitVec_inj, Int64.toBitVec_ofInt, Int64.toBitVec_ofInt]
theorem n64_lb {a b : Int} : n64 a = n64 b ↔ ∀ i, i < 64 → qb a i = qb b i := by
  rw [n64_bv]
  constructor
  · intro h i _
    unfold qb
    rw [h]
  · intro h
    exact BitVec.eq_of_getLsbD_eq (fun i hi => h i hi)
theorem n64_z {a : Int} : n64 a = n64 0 ↔ ∀ i, i < 64 → qb a i = false := by
  rw [n64_lb]
  simp only [qb_0]
theorem qb_one (i : Nat) : qb 1 i = decide (i = 0) := by
  unfold qb
  rw [show BitVec.ofInt 64 1 = 1#64 from by decide +kernel, BitVec.getLsbD_one]
  simp
theorem bit_test (x : Int) {k : Nat} (h : k < 64) : (n64 (jand (jushr x (k : Int)) 1) = n64 0) ↔ qb x k = false := by
  rw [n64_z]
  constructor
  · intro hh
    have h0 := hh 0 (by omega)
    rw [qb_and, qb_ushr x h, qb_one] at h0
    simpa using h0
  · intro hh i hi
    rw [qb_and, qb_ushr x h, qb_one]
    by_cases e : i = 0
    · subst e; simpa using hh
    · simp [e]
theorem qb_bit {k : Nat} (h : k < 64) (i : Nat) : qb (jshl 1 (k : Int)) i = decide (i = k) := by
  rw [qb_shl 1 h, qb_one]
  by_cases e : i = k
  · subst e; simp [h]
  · by_cases e2 : i < k
    · simp [e, e2]
    · have : ¬ (i - k = 0) := by omega
      simp [e, this]
/-! counting -/
def cnt (p : Nat → Bool) : Nat → Nat
  | 0 => 0
  | n + 1 => cnt p n + (if p n then 1 else 0)
theorem cnt_congr {p q : Nat → Bool} : ∀ {n : Nat}, (∀ i, i < n → p i = q i) → cnt p n = cnt q n
  | 0, _ => rfl
  | n + 1, h => by
    show cnt p n + _ = cnt q n + _
    rw [cnt_congr (fun i hi => h i (by omega)), h n (by omega)]
theorem cnt_le (p : Nat → Bool) : ∀ n, cnt p n ≤ n
  | 0 => Nat.le_refl _
  | n + 1 => by
    have := cnt_le p n
    show cnt p n + _ ≤ n + 1
    split <;> omega
theorem cnt_add (p : Nat → Bool) (m : Nat) : ∀ n, cnt p (m + n) = cnt p m + cnt (fun i => p (m + i)) n
  | 0 => rfl
  | n + 1 => by
    show cnt p (m + n) + (if p (m + n) then 1 else 0) = cnt p m + (cnt (fun i => p (m + i)) n + (if p (m + n) then 1 else 0))
    rw [cnt_add p m n]
    omega
theorem cnt_none {p : Nat → Bool} {n : Nat} (h : ∀ i, i < n → p i = false) : cnt p n = 0 := by
  rw [cnt_congr (q := fun _ => false) h]
  have : ∀ n, cnt (fun _ => false) n = 0 := fun n => by
    induction n with
    | zero => rfl
    | succ n ih => show cnt _ n + _ = 0; rw [ih]; rfl
  exact this n
theorem cnt_zero {p : Nat → Bool} : ∀ {n : Nat}, cnt p n = 0 → ∀ i, i < n → p i = false
  | 0, _, i, hi => by omega
  | n + 1, h, i, hi => by
    have h' : cnt p n + (if p n then 1 else 0) = 0 := h
    by_cases e : i = n
    · subst e
      cases hp : p i with
      | false => rfl
      | true => rw [hp] at h'; simp at h'
    · exact cnt_zero (n := n) (by omega) i (by omega)
theorem cnt_mono {p q : Nat → Bool} : ∀ {n : Nat}, (∀ i, i < n → p i = true → q i = true) → cnt p n ≤ cnt q n
  | 0, _ => Nat.le_refl _
  | n + 1, h => by
    have h1 := cnt_mono (n := n) (fun i hi => h i (by omega))
    have h2 := h n (by omega)
    show cnt p n + _ ≤ cnt q n + _
    cases hp : p n with
    | false => simp; omega
    | true => rw [h2 hp]; simp; omega
theorem cnt_eq_all {p q : Nat → Bool} : ∀ {n : Nat}, (∀ i, i < n → p i = true → q i = true) → cnt p n = cnt q n → ∀ i, i < n → p i = q i
  | 0, _, _, i, hi => by omega
  | n + 1, h, he, i, hi => by
    have h1 := cnt_mono (n := n) (p := p) (q := q) (fun i hi => h i (by omega))
    have h2 := h n (by omega)
    have he' : cnt p n + (if p n then 1 else 0) = cnt q n + (if q n then 1 else 0) := he
    have e3 : p n = q n := by
      cases hp : p n with
      | true => rw [h2 hp]
      | false =>
        cases hq : q n with
        | false => rfl
        | true => rw [hp, hq] at he'; simp at he'; omega
    by_cases e : i = n
    · subst e; exact e3
    · refine cnt_eq_all (n := n) (fun i hi => h i (by omega)) ?_ i (by omega)
      rw [e3] at he'
      omega
theorem cnt_cut {p : Nat → Bool} {m n : Nat} (hmn : m ≤ n) (h : ∀ i, m ≤ i → i < n → p i = false) : cnt p n = cnt p m := by
  obtain ⟨d, rfl⟩ := Nat.exists_eq_add_of_le hmn
  rw [cnt_add, cnt_none (fun i hi => h (m + i) (by omega) (by omega))]
  rfl
