/-! ===== Long.bitCount, Integer.bitCount count bits ===== -/
def rep (v : Nat) : Nat → Nat
  | 0 => 0
  | n + 1 => 256 * rep v n + v
def swA (n x : Nat) : Nat := x - ((x >>> 1) &&& rep 85 n)
def swB (n x : Nat) : Nat := (swA n x &&& rep 51 n) + ((swA n x >>> 2) &&& rep 51 n)
def swC (n x : Nat) : Nat := (swB n x + (swB n x >>> 4)) &&& rep 15 n
theorem byte_and (hi lo R v s : Nat) (hl : lo < 256) (hv : v < 2 ^ (8 - s)) (hs : s ≤ 8) : ((256 * hi + lo) >>> s) &&& (256 * R + v) = 256 * ((hi >>> s) &&& R) + ((lo >>> s) &&& v) := by
  have hv2 : v < 2 ^ 8 := Nat.lt_of_lt_of_le hv (Nat.pow_le_pow_right (by omega) (by omega))
  have h1 : (lo >>> s) &&& v < 2 ^ 8 := Nat.lt_of_le_of_lt Nat.and_le_right hv2
  apply Nat.eq_of_testBit_eq
  intro j
  rw [Nat.testBit_and, Nat.testBit_shiftRight, show (256 : Nat) = 2 ^ 8 from rfl, Nat.testBit_two_pow_mul_add _ hl, Nat.testBit_two_pow_mul_add _ hv2, Nat.testBit_two_pow_mul_add _ h1]
  by_cases hj : j < 8
  · rw [if_pos hj, if_pos hj, Nat.testBit_and, Nat.testBit_shiftRight]
    by_cases h2 : s + j < 8
    · rw [if_pos h2]
    · have : v.testBit j = false := Nat.testBit_lt_two_pow (Nat.lt_of_lt_of_le hv (Nat.pow_le_pow_right (by omega) (by omega)))
      rw [this, Bool.and_false, Bool.and_false]
  · rw [if_neg hj, if_neg hj, if_neg (by omega), Nat.testBit_and, Nat.testBit_shiftRight, show s + j - 8 = s + (j - 8) from by omega]
theorem sh1_le (x m : Nat) : (x >>> 1) &&& m ≤ x := Nat.le_trans Nat.and_le_left (Nat.shiftRight_le _ _)
theorem swA_s (n hi lo : Nat) (hl : lo < 256) : swA (n + 1) (256 * hi + lo) = 256 * swA n hi + swA 1 lo := by
  unfold swA
  rw [show rep 85 (n + 1) = 256 * rep 85 n + 85 from rfl, show rep 85 1 = 85 from rfl, byte_and hi lo _ 85 1 hl (by decide) (by decide)]
  have := sh1_le hi (rep 85 n)
  have := sh1_le lo 85
  omega
theorem swA1 {lo : Nat} (hl : lo < 256) : swA 1 lo < 256 := Nat.lt_of_le_of_lt (Nat.sub_le _ _) hl
theorem swB_s (n hi lo : Nat) (hl : lo < 256) : swB (n + 1) (256 * hi + lo) = 256 * swB n hi + swB 1 lo := by
  unfold swB
  rw [swA_s n hi lo hl]
  have e0 := byte_and (swA n hi) (swA 1 lo) (rep 51 n) 51 0 (swA1 hl) (by decide) (by decide)
  have e2 := byte_and (swA n hi) (swA 1 lo) (rep 51 n) 51 2 (swA1 hl) (by decide) (by decide)
  rw [Nat.shiftRight_zero, Nat.shiftRight_zero, Nat.shiftRight_zero] at e0
  rw [show rep 51 (n + 1) = 256 * rep 51 n + 51 from rfl, show rep 51 1 = 51 from rfl, e0, e2]
  omega
theorem sw_byte : ∀ lo, lo < 256 → swB 1 lo < 70 ∧ swB 1 lo % 16 ≤ 4 ∧ swC 1 lo = cnt lo.testBit 8 := by decide +kernel
theorem swB_lo {n x : Nat} (h : x < 256 ^ n) : swB n x % 16 ≤ 4 := by
  cases n with
  | zero => simp [swB, rep]
  | succ n =>
    have e : x = 256 * (x / 256) + x % 256 := by omega
    rw [e, swB_s n _ _ (by omega)]
    have := (sw_byte (x % 256) (by omega)).2.1
    omega
theorem swC_s (n hi lo : Nat) (hl : lo < 256) (hh : hi < 256 ^ n) : swC (n + 1) (256 * hi + lo) = 256 * swC n hi + swC 1 lo := by
  unfold swC
  rw [swB_s n hi lo hl]
  have h1 := sw_byte lo hl
  have h2 := swB_lo hh
  generalize swB n hi = B at *
  have hb := h1.1
  have hb2 := h1.2.1
  generalize swB 1 lo = b at *
  have e : 256 * B + b + (256 * B + b) >>> 4 = 256 * (B + B >>> 4) + (16 * (B % 16) + b + b >>> 4) := by
    simp only [Nat.shiftRight_eq_div_pow]
    omega
  have hlt : 16 * (B % 16) + b + b >>> 4 < 256 := by
    simp only [Nat.shiftRight_eq_div_pow]
    omega
  have e0 := byte_and (B + B >>> 4) (16 * (B % 16) + b + b >>> 4) (rep 15 n) 15 0 hlt (by decide) (by decide)
  rw [Nat.shiftRight_zero, Nat.shiftRight_zero, Nat.shiftRight_zero] at e0
  rw [e, show rep 15 (n + 1) = 256 * rep 15 n + 15 from rfl, show rep 15 1 = 15 from rfl, e0]
  congr 1
  have k15 : ∀ x : Nat, x &&& 15 = x % 16 := fun x => Nat.and_two_pow_sub_one_eq_mod x 4
  rw [k15, k15]
  omega
theorem swC_cnt : ∀ (n x : Nat), x < 256 ^ n → ∃ p : Nat → Nat, (∀ j, p j = cnt (fun i => x.testBit (8 * j + i)) 8) ∧ swC n x = (List.range n).foldr (fun j a => p j + 256 * a) 0
  | 0, x, h => ⟨_, fun j => rfl, by simp [swC, rep]⟩
  | n + 1, x, h => by
    have h' : x / 256 < 256 ^ n := by
      rw [Nat.div_lt_iff_lt_mul (by omega)]
      rw [Nat.pow_succ] at h
      exact h
    obtain ⟨p, hp, hs⟩ := swC_cnt n (x / 256) h'
    refine ⟨fun j => cnt (fun i => x.testBit (8 * j + i)) 8, fun j => rfl, ?_⟩
    have e : x = 256 * (x / 256) + x % 256 := by omega
    have hq : ∀ j, p j = cnt (fun i => x.testBit (8 * (j + 1) + i)) 8 := fun j => by
      rw [hp j]
      refine cnt_congr (fun i _ => ?_)
      rw [show (256 : Nat) = 2 ^ 8 from rfl, Nat.testBit_div_two_pow, show 8 * j + i + 8 = 8 * (j + 1) + i from by omega]
    have e0 : swC 1 (x % 256) = cnt (fun i => x.testBit (8 * 0 + i)) 8 := by
      rw [(sw_byte (x % 256) (by omega)).2.2]
      refine cnt_congr (fun i hi => ?_)
      rw [show (256 : Nat) = 2 ^ 8 from rfl, Nat.testBit_mod_two_pow, decide_eq_true hi, Bool.true_and, Nat.mul_zero, Nat.zero_add]
    rw [List.range_succ_eq_map, List.foldr_cons, List.foldr_map]
    conv => lhs; rw [e]
    rw [swC_s n _ _ (by omega) h', hs, e0, Nat.add_comm]
    have e3 : ∀ l : List Nat, l.foldr (fun j a => p j + 256 * a) 0 = l.foldr (fun j a => cnt (fun i => x.testBit (8 * (j + 1) + i)) 8 + 256 * a) 0 := fun l => by
      induction l with
      | nil => rfl
      | cons a l ih => rw [List.foldr_cons, List.foldr_cons, ih, hq]
    rw [e3]
theorem swar_num {p0 p1 p2 p3 p4 p5 p6 p7 c c1 c2 c3 c4 c5 c6 c7 : Nat} (h0 : p0 ≤ 8) (h1 : p1 ≤ 8) (h2 : p2 ≤ 8) (h3 : p3 ≤ 8) (h4 : p4 ≤ 8) (h5 : p5 ≤ 8) (h6 : p6 ≤ 8) (h7 : p7 ≤ 8) (e0 : c = p0 + 256 * c1) (e1 : c1 = p1 + 256 * c2) (e2 : c2 = p2 + 256 * c3) (e3 : c3 = p3 + 256 * c4) (e4 : c4 = p4 + 256 * c5) (e5 : c5 = p5 + 256 * c6) (e6 : c6 = p6 + 256 * c7) (e7 : c7 = p7) : (c + c / 256 + (c + c / 256) / 65536 + (c + c / 256 + (c + c / 256) / 65536) / 4294967296) % 128 = p0 + p1 + p2 + p3 + p4 + p5 + p6 + p7 ∧ c < 2 ^ 60 := by
  have hd : c / 256 = c1 := by clear e1 e2 e3 e4 e5 e6 e7; omega
  rw [hd]
  have f1 : c + c1 = (p0 + p1) + 256 * (p1 + p2) + 65536 * (c2 + c3) := by clear e3 e4 e5 e6 e7; omega
  have he : (c + c1) / 65536 = c2 + c3 := by rw [f1]; clear e0 e1 e2 e3 e4 e5 e6 e7 f1 hd; omega
  rw [he]
  have g1 : c = p0 + 256 * p1 + 65536 * p2 + 16777216 * p3 + 4294967296 * c4 := by clear e4 e5 e6 e7 f1 he hd; omega
  have g2 : c1 = p1 + 256 * p2 + 65536 * p3 + 16777216 * p4 + 4294967296 * c5 := by clear e0 e5 e6 e7 f1 he hd g1; omega
  have g3 : c2 = p2 + 256 * p3 + 65536 * p4 + 16777216 * p5 + 4294967296 * c6 := by clear e0 e1 e6 e7 f1 he hd g1 g2; omega
  have g4 : c3 = p3 + 256 * p4 + 65536 * p5 + 16777216 * p6 + 4294967296 * c7 := by clear e0 e1 e2 e7 f1 he hd g1 g2 g3; omega
  have f2 : c + c1 + (c2 + c3) = (p0 + p1 + p2 + p3) + 256 * (p1 + p2 + p3 + p4) + 65536 * (p2 + p3 + p4 + p5) + 16777216 * (p3 + p4 + p5 + p6) + 4294967296 * (c4 + c5 + (c6 + c7)) := by clear e0 e1 e2 e3 e4 e5 e6 e7 f1 he hd; omega
  have hf : (c + c1 + (c2 + c3)) / 4294967296 = c4 + c5 + (c6 + c7) := by rw [f2]; clear e0 e1 e2 e3 e4 e5 e6 e7 f1 he hd g1 g2 g3 g4 f2; omega
  rw [hf]
  have f3 : c + c1 + (c2 + c3) + (c4 + c5 + (c6 + c7)) = (p0 + p1 + p2 + p3 + p4 + p5 + p6 + p7) + 128 * (2 * (c1 + c2 + c3 + c4 + c5 + c6 + c7)) := by clear f1 he hd g1 g2 g3 g4 f2 hf; omega
  constructor
  · rw [f3]; clear e0 e1 e2 e3 e4 e5 e6 e7 f1 he hd g1 g2 g3 g4 f2 hf f3; omega
  · have k1 : c4 ≤ 8 + 256 * (8 + 256 * (8 + 256 * 8)) := by clear e0 e1 e2 e3 f1 he hd g1 g2 g3 g4 f2 hf f3; omega
    clear e0 e1 e2 e3 e4 e5 e6 e7 f1 he hd g2 g3 g4 f2 hf f3; omega
theorem swar {x : Nat} (h : x < 2 ^ 64) : (swC 8 x + swC 8 x / 256 + (swC 8 x + swC 8 x / 256) / 65536 + (swC 8 x + swC 8 x / 256 + (swC 8 x + swC 8 x / 256) / 65536) / 4294967296) % 128 = cnt x.testBit 64 ∧ swC 8 x < 2 ^ 60 := by
  obtain ⟨p, hp, hs⟩ := swC_cnt 8 x h
  have hle : ∀ j, p j ≤ 8 := fun j => by rw [hp]; exact cnt_le _ _
  have c1 : cnt x.testBit 64 = p 0 + p 1 + p 2 + p 3 + p 4 + p 5 + p 6 + p 7 := by
    rw [show (64 : Nat) = 8 + (8 + (8 + (8 + (8 + (8 + (8 + 8)))))) from rfl]
    rw [cnt_add, cnt_add, cnt_add, cnt_add, cnt_add, cnt_add, cnt_add]
    rw [hp, hp, hp, hp, hp, hp, hp, hp]
    simp only [Nat.mul_zero, Nat.zero_add, Nat.reduceMul, ← Nat.add_assoc, Nat.reduceAdd]
  have hs' : swC 8 x = p 0 + 256 * (p 1 + 256 * (p 2 + 256 * (p 3 + 256 * (p 4 + 256 * (p 5 + 256 * (p 6 + 256 * (p 7 + 256 * 0))))))) := hs
  rw [c1]
  exact swar_num (hle 0) (hle 1) (hle 2) (hle 3) (hle 4) (hle 5) (hle 6) (hle 7) hs' rfl rfl rfl rfl rfl rfl (by rfl)
/-- a long as a number of 64 bits -/
def uj (x : Int) : Nat := (BitVec.ofInt 64 x).toNat
theorem uj_lt (x : Int) : uj x < 2 ^ 64 := (BitVec.ofInt 64 x).isLt
theorem qb_uj (x : Int) (i : Nat) : qb x i = (uj x).testBit i := rfl
theorem uj_and (a b : Int) : uj (jand a b) = uj a &&& uj b := by
  unfold uj jand
  rw [bvj, Int64.toBitVec_and, BitVec.toNat_and, Int64.toBitVec_ofInt, Int64.toBitVec_ofInt]
theorem uj_ushr (a : Int) {k : Nat} (h : k < 64) : uj (jushr a (k : Int)) = uj a >>> k := by
  unfold uj
  rw [bv_ushr a h, BitVec.toNat_ushiftRight]
theorem uj_add {a b : Int} (h : uj a + uj b < 2 ^ 64) : uj (a + b) = uj a + uj b := by
  unfold uj at h ⊢
  rw [BitVec.ofInt_add, BitVec.toNat_add, Nat.mod_eq_of_lt h]
theorem uj_sub {a b : Int} (h : uj b ≤ uj a) : uj (a - b) = uj a - uj b := by
  have e : a = (a - b) + b := by omega
  have h2 : BitVec.ofInt 64 a = BitVec.ofInt 64 (a - b) + BitVec.ofInt 64 b := by
    rw [← BitVec.ofInt_add, Int.sub_add_cancel]
  unfold uj at h ⊢
  rw [BitVec.eq_sub_iff_add_eq.mpr h2.symm, BitVec.toNat_sub_of_le h]
theorem uj_lit {k : Nat} (h : k < 2 ^ 63) : uj (k : Int) = k := by
  unfold uj
  rw [BitVec.ofInt_natCast, BitVec.toNat_ofNat, Nat.mod_eq_of_lt (by omega)]
theorem rep85 : rep 85 8 = 6148914691236517205 := by decide +kernel
theorem rep51 : rep 51 8 = 3689348814741910323 := by decide +kernel
theorem rep15 : rep 15 8 = 1085102592571150095 := by decide +kernel
theorem l2i_127 (x : Int) : iand (l2i x) 127 = ((uj x % 128 : Nat) : Int) := by
  have e : (Int32.ofInt (l2i x) &&& Int32.ofInt 127).toBitVec.toNat = uj x % 128 := by
    unfold l2i
    rw [Int32.ofInt_toInt, Int32.toBitVec_and, BitVec.toNat_and, Int64.toBitVec_toInt32]
    rw [show (Int32.ofInt 127).toBitVec.toNat = 2 ^ 7 - 1 from by decide +kernel, Nat.and_two_pow_sub_one_eq_mod, BitVec.signExtend_eq_setWidth_of_le _ (by decide), BitVec.toNat_setWidth]
    rw [Int64.toBitVec_ofInt]
    unfold uj
    omega
  unfold iand
  show (Int32.ofInt (l2i x) &&& Int32.ofInt 127).toBitVec.toInt = _
  rw [toInt_small, e]
  rw [e]
  omega
theorem JL_bit (a : Int) (M : Mem) : JL_bitCount a M = some ((cnt (qb a) 64 : Nat) : Int) := by
  unfold JL_bitCount lt1
  dsimp only
  have m1 : uj 6148914691236517205 = rep 85 8 := by rw [rep85]; exact uj_lit (k := 6148914691236517205) (by decide)
  have m2 : uj 3689348814741910323 = rep 51 8 := by rw [rep51]; exact uj_lit (k := 3689348814741910323) (by decide)
  have m4 : uj 1085102592571150095 = rep 15 8 := by rw [rep15]; exact uj_lit (k := 1085102592571150095) (by decide)
  have s1 := fun x : Int => uj_ushr x (k := 1) (by decide)
  have s2 := fun x : Int => uj_ushr x (k := 2) (by decide)
  have s4 := fun x : Int => uj_ushr x (k := 4) (by decide)
  have s8 := fun x : Int => (uj_ushr x (k := 8) (by decide)).trans (Nat.shiftRight_eq_div_pow _ _)
  have s16 := fun x : Int => (uj_ushr x (k := 16) (by decide)).trans (Nat.shiftRight_eq_div_pow _ _)
  have s32 := fun x : Int => (uj_ushr x (k := 32) (by decide)).trans (Nat.shiftRight_eq_div_pow _ _)
  have hx := uj_lt a
  have eA : uj (a - jand (jushr a 1) 6148914691236517205) = swA 8 (uj a) := by
    have e : uj (jand (jushr a 1) 6148914691236517205) = (uj a >>> 1) &&& rep 85 8 := by
      rw [uj_and, m1]; congr 1; exact s1 a
    rw [uj_sub (by rw [e]; exact sh1_le _ _), e]
    rfl
  generalize a - jand (jushr a 1) 6148914691236517205 = x1 at eA ⊢
  have eB : uj (jand x1 3689348814741910323 + jand (jushr x1 2) 3689348814741910323) = swB 8 (uj a) := by
    have e1 : uj (jand x1 3689348814741910323) = swA 8 (uj a) &&& rep 51 8 := by rw [uj_and, m2, eA]
    have e2 : uj (jand (jushr x1 2) 3689348814741910323) = (swA 8 (uj a) >>> 2) &&& rep 51 8 := by
      rw [uj_and, m2, ← eA]; congr 1; exact s2 x1
    rw [uj_add, e1, e2]
    · rfl
    · rw [e1, e2]
      have := Nat.and_le_right (n := swA 8 (uj a)) (m := rep 51 8)
      have := Nat.and_le_right (n := swA 8 (uj a) >>> 2) (m := rep 51 8)
      have := rep51
      omega
  have hB : swB 8 (uj a) ≤ 2 * rep 51 8 := by
    unfold swB
    have := Nat.and_le_right (n := swA 8 (uj a)) (m := rep 51 8)
    have := Nat.and_le_right (n := swA 8 (uj a) >>> 2) (m := rep 51 8)
    omega
  generalize jand x1 3689348814741910323 + jand (jushr x1 2) 3689348814741910323 = x2 at eB ⊢
  have eC : uj (jand (x2 + jushr x2 4) 1085102592571150095) = swC 8 (uj a) := by
    have e1 : uj (jushr x2 4) = swB 8 (uj a) >>> 4 := by rw [← eB]; exact s4 x2
    rw [uj_and, m4, uj_add, e1, eB]
    · rfl
    · rw [e1, eB, Nat.shiftRight_eq_div_pow]
      have := rep51
      omega
  obtain ⟨hf, hc⟩ := swar hx
  generalize jand (x2 + jushr x2 4) 1085102592571150095 = x3 at eC ⊢
  generalize swC 8 (uj a) = c at *
  have eD : uj (x3 + jushr x3 8) = c + c / 256 := by
    have e1 : uj (jushr x3 8) = c / 256 := by rw [← eC]; exact s8 x3
    rw [uj_add (by rw [e1, eC]; omega), e1, eC]
  generalize x3 + jushr x3 8 = x4 at eD ⊢
  have hd : c + c / 256 < 2 ^ 61 := by omega
  generalize c + c / 256 = d at *
  have eE : uj (x4 + jushr x4 16) = d + d / 65536 := by
    have e1 : uj (jushr x4 16) = d / 65536 := by rw [← eD]; exact s16 x4
    rw [uj_add (by rw [e1, eD]; omega), e1, eD]
  generalize x4 + jushr x4 16 = x5 at eE ⊢
  have he : d + d / 65536 < 2 ^ 62 := by omega
  generalize d + d / 65536 = e at *
  have eF : uj (x5 + jushr x5 32) = e + e / 4294967296 := by
    have e1 : uj (jushr x5 32) = e / 4294967296 := by rw [← eE]; exact s32 x5
    rw [uj_add (by rw [e1, eE]; omega), e1, eE]
  rw [l2i_127, eF, hf]
  rfl
theorem JI_bit {n : Nat} (h : n < 1024) (M : Mem) : JI_bitCount (n : Int) M = some ((cnt n.testBit 31 : Nat) : Int) := by
  have : ∀ n : Nat, n < 1024 → JI_bitCount (n : Int) (fun _ _ => 0) = some ((cnt n.testBit 31 : Nat) : Int) := by decide +kernel
  exact this n h
