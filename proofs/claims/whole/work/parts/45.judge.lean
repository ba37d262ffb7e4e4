/-! ===== operations: judge truth ===== -/
theorem op_judge {C R : Mem} (h : Inv C R) {w k : Int} (hw : n32 w = w) (hk : n32 k = k) : ∃ v C' R', X_judge w k C = some (v, C') ∧ M_judge w k R = some (v, R') ∧ Inv C' R' := by
  have h0 := h
  obtain ⟨t, b, ht, h12, h13, hb, h38, -, -, -, -, hT, hS, -⟩ := h
  have hF := num_F hT.1
  have h6 := two_pow8 hF.2.2
  have h3 := pow_wd hF.2.2
  unfold X_judge M_judge
  rw [h12, chk_pos (isTI_of rfl ht), lt1_eq, tn_nat]
  rcases T_hasWorld_eq ht hT.1 hT.2.2.2.2.2.1 hw with ⟨q, e⟩ | ⟨q, e⟩
  · rcases M_isWorld_eq hb h38 hT.1 hT.2.2.2.2.2.1 hw with ⟨q2, e2⟩ | ⟨q2, e2⟩
    · rw [e, e2, bind_some', bind_some', if_neg nz1, if_neg nz1]
      obtain ⟨C', e1, hK, hC⟩ := look_eq ht hT hS hk
      rw [e1, bind_some']
      obtain ⟨w, rfl⟩ : ∃ y : Nat, w = (y : Int) := ⟨w.toNat, by have := q.1; omega⟩
      obtain ⟨-, w2, w3⟩ := q
      change isB R w = true at w3
      obtain ⟨m, m1, m2, m3, m4⟩ := hS
      have eS : nS R = m := by unfold nS; rw [m3]; rfl
      obtain ⟨-, -, k3, kj, -, -⟩ := hK
      rw [eS] at k3 kj
      have hcm := cnt_le (ct R k) m
      have hI1 : Inv C' R := Inv_q hC (fun _ _ _ => rfl) h0
      have hbody : ∀ j : Nat, j < cnt (ct R k) m → X_judge_b32 (w : Int) C' (j : Int) = if (!sB R b (clG (ct R k) m j) w) = true then some (.inr (.inr (((clG (ct R k) m j : Nat) : Int), C'))) else some (.inl ((j : Int) + 1)) := by
        intro j hj
        obtain ⟨c1, c2, c3⟩ := clG_mem hj
        obtain ⟨-, -, -, -, -, -, k7⟩ := m4 _ c1
        have e7 := k7 w (by omega)
        rw [Nat.zero_add] at e7
        unfold X_judge_b32
        dsimp only
        have e5 := X_has_eq (c := 48) (o := 4 * clG (ct R k) m j) (w := w) C' aJ48 (by omega) (by omega)
        rw [k3, n32_nat (by omega), n32_nat (by omega), if_pos (by omega), chk_pos (by omega), lt1_eq, tn_nat, kj j hj, show ((clG (ct R k) m j : Nat) : Int) * 4 = ((4 * clG (ct R k) m j : Nat) : Int) from by omega, e5, bind_some', sb_eq (hC _ _ (by omega)), show sb C 48 (4 * clG (ct R k) m j) w = sb C (42 + 6) (4 * clG (ct R k) m j) w from rfl, e7, w3, Bool.true_and]
        show _ = if (!canS R b (R 116 (clG (ct R k) m j)) (R 117 (clG (ct R k) m j)) (R 120 (clG (ct R k) m j)) (R 121 (clG (ct R k) m j)) w) = true then _ else _
        cases canS R b (R 116 (clG (ct R k) m j)) (R 117 (clG (ct R k) m j)) (R 120 (clG (ct R k) m j)) (R 121 (clG (ct R k) m j)) w <;> rfl
      have F := it_find (body := X_judge_b32 (w : Int) C') (p := fun j => !sB R b (clG (ct R k) m j) w) (v := fun j => (((clG (ct R k) m j : Nat) : Int), C')) (cnt (ct R k) m) (by unfold FUEL; omega) (fun i hi hp => by rw [hbody i hi, if_pos hp]) (fun i hi hp => by rw [hbody i hi, if_neg (by rw [hp]; decide)]) (by unfold X_judge_b32; dsimp only; rw [k3, if_neg (by omega)])
      have G : Z (it (M_judge_b13 (w : Int) k) FUEL (0, R)) (fun r => (∃ M', r = .inl M' ∧ (∀ n, n < m → ct R k n = true → sB R b n w = true) ∧ ∀ c j, c ≠ 115 → M' c j = R c j) ∨ ∃ (n : Nat) (M' : Mem), r = .inr ((n : Int), M') ∧ n < m ∧ ct R k n = true ∧ sB R b n w = false ∧ (∀ l, l < n → ct R k l = true → sB R b l w = true) ∧ ∀ c j, c ≠ 115 → M' c j = R c j) := by
        refine it_Z (fun n st => st.1 = (n : Int) ∧ (∀ l, l < n → ct R k l = true → sB R b l w = true) ∧ ∀ c j, c ≠ 115 → st.2 c j = R c j) m (by unfold FUEL; omega) ⟨rfl, fun l hl => by omega, fun _ _ _ => rfl⟩ ?_ ?_
        · rintro n ⟨l, M⟩ hn ⟨el, g, ef⟩
          dsimp only at el g ef
          subst el
          have hSR : SameR R M := SameR_of (fun c j q1 q2 q3 => ef c j (by omega))
          unfold M_judge_b13
          dsimp only
          rw [ef 81 _ (by omega), m3, n32_nat (by omega), n32_nat (by omega), if_pos (by omega), M_counts_eq m4 (fun j => ef _ _ (by omega)) (fun j => ef _ _ (by omega)) hn m1 hk, bind_some', jn_eq]
          have step : ∀ M2 : Mem, (ct R k n = true → sB R b n w = true) → (∀ c j, c ≠ 115 → M2 c j = R c j) → Z (lt1 ((n : Int) + 1) fun l3_20 => some (Sum.inl (l3_20, M2))) (fun r => (∃ a' : Int × Mem, r = (Sum.inl a' : (Int × Mem) ⊕ (Mem ⊕ (Int × Mem))) ∧ a'.1 = ((n + 1 : Nat) : Int) ∧ (∀ l, l < n + 1 → ct R k l = true → sB R b l w = true) ∧ ∀ c j, c ≠ 115 → a'.2 c j = R c j) ∨ ∃ b_1, r = Sum.inr b_1 ∧ ((∃ M', b_1 = .inl M' ∧ (∀ n, n < m → ct R k n = true → sB R b n w = true) ∧ ∀ c j, c ≠ 115 → M' c j = R c j) ∨ ∃ (n : Nat) (M' : Mem), b_1 = .inr ((n : Int), M') ∧ n < m ∧ ct R k n = true ∧ sB R b n w = false ∧ (∀ l, l < n → ct R k l = true → sB R b l w = true) ∧ ∀ c j, c ≠ 115 → M' c j = R c j)) := by
            intro M2 h1 h2
            refine Z_of (Or.inl ⟨_, rfl, rfl, fun l hl hc => ?_, h2⟩)
            by_cases e : l = n
            · subst e; exact h1 hc
            · exact g l (by omega) hc
          cases hc : ct R k n with
          | false =>
            rw [if_neg (by decide)]
            exact step M (fun z => by rw [hc] at z; cases z) ef
          | true =>
            rw [if_pos (by decide)]
            have hT1 : Town t b C M := Town_keep hSR (fun _ _ _ _ => rfl) hT
            have m4' : SayR 42 116 117 118 119 120 121 0 m t b C M := SayR_keep hSR (fun _ _ _ _ => rfl) (fun j => ef _ _ (by omega)) (fun j => ef _ _ (by omega)) (fun j => ef _ _ (by omega)) (fun j => ef _ _ (by omega)) (fun j => ef _ _ (by omega)) (fun j => ef _ _ (by omega)) m4
            obtain ⟨M2, e2, f2⟩ := M_canBe_eq hb ((ef _ _ (by omega)).trans h38) hT1 m1 m4' (n := n) (w := w) hn (by rw [keep_nF hSR]; omega) (by rw [keep_isB hSR]; exact w3)
            have es : sB M b n w = sB R b n w := by
              unfold sB
              rw [keep_canS hSR, ef 116 _ (by omega), ef 117 _ (by omega), ef 120 _ (by omega), ef 121 _ (by omega)]
            rw [e2, bind_some', es]
            dsimp only
            have f3 : ∀ c j, c ≠ 115 → M2 c j = R c j := fun c j q => (f2 c j q).trans (ef c j q)
            cases hs : sB R b n w with
            | false =>
              rw [if_pos (by decide)]
              exact Z_of (Or.inr ⟨_, rfl, Or.inr ⟨n, M2, rfl, hn, hc, hs, g, f3⟩⟩)
            | true =>
              rw [if_neg (by decide)]
              exact step M2 (fun _ => hs) f3
        · rintro ⟨l, M⟩ ⟨el, g, ef⟩
          dsimp only at el g ef
          subst el
          unfold M_judge_b13
          dsimp only
          rw [ef 81 _ (by omega), m3, if_neg (by omega)]
          exact Z_of ⟨_, rfl, Or.inl ⟨_, rfl, g, ef⟩⟩
      obtain ⟨r, er, hr⟩ := G
      rw [er, bind_some']
      rcases hr with ⟨M', rfl, g, ef⟩ | ⟨n, M', rfl, n1, n2, n3, n4, ef⟩
      · have ha : anyB (fun j => !sB R b (clG (ct R k) m j) w) (cnt (ct R k) m) = false := by
          rw [anyB_no]
          intro j hj
          obtain ⟨c1, c2, c3⟩ := clG_mem hj
          rw [g _ c1 c2]; rfl
        rw [F.1 ha]
        exact ⟨_, _, _, rfl, rfl, Inv_115 hI1 ef⟩
      · have hj0 : cnt (ct R k) n < cnt (ct R k) m := cnt_lt n1 n2
        have ha : anyB (fun j => !sB R b (clG (ct R k) m j) w) (cnt (ct R k) m) = true := by
          rw [anyB_iff]
          refine ⟨_, hj0, ?_⟩
          rw [clG_get n2 n1, n3]; rfl
        obtain ⟨j, j1, j2, j3, j4⟩ := F.2 ha
        rw [j4]
        obtain ⟨c1, c2, c3⟩ := clG_mem j1
        have j2 : sB R b (clG (ct R k) m j) w = false := by simpa using j2
        have en : clG (ct R k) m j = n := by
          rcases Nat.lt_trichotomy (clG (ct R k) m j) n with z | z | z
          · rw [n4 _ z c2] at j2; cases j2
          · exact z
          · have hlt : cnt (ct R k) n < j := by rw [← c3]; exact cnt_lt z n2
            have := j3 _ hlt
            rw [clG_get n2 n1, n3] at this
            cases this
        refine ⟨_, _, _, rfl, ?_, Inv_115 hI1 ef⟩
        rw [en]
    · exact absurd q q2
  · rcases M_isWorld_eq hb h38 hT.1 hT.2.2.2.2.2.1 hw with ⟨q2, e2⟩ | ⟨q2, e2⟩
    · exact absurd q2 q
    · rw [e, e2, bind_some', bind_some', if_pos (show n32 0 = 0 by decide), if_pos (show n32 0 = 0 by decide)]
      exact ⟨_, _, _, rfl, rfl, h0⟩
/-! the greatest common divisor -/
theorem ofI_nI (n : Nat) : Int32.ofInt (n : Int) = nI n := by
  unfold nI
  apply Int32.toBitVec_inj.mp
  rw [Int32.toBitVec_ofInt, BitVec.ofInt_natCast]
  rfl
theorem irem_nat {a d : Nat} (ha : a < 2147483648) (h0 : 0 < d) (hd : d < 2147483648) : irem' (a : Int) (d : Int) = ((a % d : Nat) : Int) := by
  unfold irem'
  rw [ofI_nI, ofI_nI, pk_rem (by omega) h0 (by omega), nI_toInt (Nat.lt_of_lt_of_le (Nat.mod_lt _ h0) (by omega))]
theorem M_common_eq {a d : Nat} (ha : a < 10000) (hd : d < 10000) (M : Mem) : M_common (a : Int) (d : Int) M = some ((Nat.gcd a d : Nat) : Int) := by
  have L : Z (it M_common_b4 FUEL ((a : Int), (d : Int))) (fun r => r = ((Nat.gcd a d : Nat) : Int)) := by
    refine it_Z (fun i st => ∃ p q : Nat, st = ((p : Int), (q : Int)) ∧ p < 10000 ∧ q + i ≤ 9999 ∧ Nat.gcd p q = Nat.gcd a d) 9999 (by unfold FUEL; omega) ⟨a, d, rfl, ha, by omega, rfl⟩ ?_ ?_
    · rintro i st hi ⟨p, q, rfl, hp, hq, hg⟩
      unfold M_common_b4
      dsimp only
      rw [n32_nat (by omega)]
      by_cases e : q = 0
      · subst e
        rw [if_neg (by omega)]
        refine Z_of (Or.inr ⟨_, rfl, ?_⟩)
        rw [← hg, Nat.gcd_zero_right]
      · rw [if_pos (by omega), chk_pos (by omega), lt1_eq, irem_nat (by omega) (by omega) (by omega)]
        have hm := Nat.mod_lt p (show 0 < q by omega)
        refine Z_of (Or.inl ⟨_, rfl, q, p % q, rfl, by omega, by omega, ?_⟩)
        rw [← hg, Nat.gcd_comm p q, Nat.gcd_rec q p, Nat.gcd_comm]
    · rintro st ⟨p, q, rfl, hp, hq, hg⟩
      have : q = 0 := by omega
      subst this
      unfold M_common_b4
      dsimp only
      rw [if_neg (by decide)]
      refine Z_of ⟨_, rfl, ?_⟩
      rw [← hg, Nat.gcd_zero_right]
  obtain ⟨r, e, rfl⟩ := L
  unfold M_common
  rw [e]; rfl
theorem X_common_eq {a d : Nat} (ha : a < 10000) (hd : d ≤ a) (h0 : 0 < a) (M : Mem) : X_commonDivisor (a : Int) (d : Int) M = some ((Nat.gcd a d : Nat) : Int) := by
  have L : Z (it X_commonDivisor_b7 FUEL ((a : Int), (d : Int), 0)) (fun r => r = ((Nat.gcd a d : Nat) : Int)) := by
    refine it_Z (fun i st => ∃ p q : Nat, st = ((p : Int), (q : Int), (i : Int)) ∧ p < 10000 ∧ q ≤ p ∧ 0 < p ∧ p * q * 2 ^ i < 2 ^ 30 ∧ Nat.gcd p q = Nat.gcd a d) 64 (by unfold FUEL; omega) ⟨a, d, rfl, ha, hd, h0, ?_, rfl⟩ ?_ ?_
    · have : a * d ≤ 10000 * 10000 := Nat.mul_le_mul (by omega) (by omega)
      omega
    · rintro i st hi ⟨p, q, rfl, hp, hq, hp0, hb, hg⟩
      unfold X_commonDivisor_b7
      dsimp only
      rw [n32_nat (a := i) (by omega), n32_nat (by omega)]
      by_cases e : q = 0
      · subst e
        rw [if_neg (fun z => z.2 rfl)]
        refine Z_of (Or.inr ⟨_, rfl, ?_⟩)
        rw [← hg, Nat.gcd_zero_right]
      · rw [if_pos ⟨by omega, by omega⟩, chk_pos (by omega), lt1_eq, lt1_eq, irem_nat (by omega) (by omega) (by omega)]
        have hm := Nat.mod_lt p (show 0 < q by omega)
        refine Z_of (Or.inl ⟨_, rfl, q, p % q, rfl, by omega, by omega, by omega, ?_, ?_⟩)
        · have hd2 : 2 * (p % q) ≤ p := by
            have h1 := Nat.div_add_mod p q
            have h2 : 1 ≤ p / q := Nat.div_pos hq (by omega)
            have h3 : q * 1 ≤ q * (p / q) := Nat.mul_le_mul_left q h2
            omega
          have e1 : q * (p % q) * 2 ^ (i + 1) = q * (2 * (p % q)) * 2 ^ i := by
            rw [Nat.pow_succ, Nat.mul_left_comm q 2, Nat.mul_assoc 2, Nat.mul_comm 2, Nat.mul_assoc, Nat.mul_assoc, Nat.mul_assoc, Nat.mul_comm (2 ^ i) 2]
          rw [e1]
          refine Nat.lt_of_le_of_lt (Nat.mul_le_mul_right _ ?_) hb
          rw [Nat.mul_comm p q]
          exact Nat.mul_le_mul_left q hd2
        · rw [← hg, Nat.gcd_comm p q, Nat.gcd_rec q p, Nat.gcd_comm]
    · rintro st ⟨p, q, rfl, hp, hq, hp0, hb, hg⟩
      have : q = 0 := by
        rcases Nat.eq_zero_or_pos q with z | z
        · exact z
        · exfalso
          have h1 : 1 * 1 ≤ p * q := Nat.mul_le_mul hp0 z
          have h2 : 1 * 2 ^ 64 ≤ p * q * 2 ^ 64 := Nat.mul_le_mul_right _ (by omega)
          omega
      subst this
      unfold X_commonDivisor_b7
      dsimp only
      rw [if_neg (fun z => absurd z.1 (by decide))]
      refine Z_of ⟨_, rfl, ?_⟩
      rw [← hg, Nat.gcd_zero_right]
  obtain ⟨r, e, rfl⟩ := L
  have hg : 0 < Nat.gcd a d := Nat.gcd_pos_of_pos_left d h0
  have hg2 : Nat.gcd a d ≤ a := Nat.gcd_le_left d h0
  unfold X_commonDivisor
  rw [e, bind_some', n32_nat (by omega), if_neg (by omega)]
theorem op_truth {C R : Mem} (h : Inv C R) {r c d p k : Int} (hr : n32 r = r) (hc : n32 c = c) (hd : n32 d = d) (hp : n32 p = p) (hk : n32 k = k) : ∃ v C' R', X_truth r c d p k C = some (v, C') ∧ M_truth r c d p k R = some (v, R') ∧ Inv C' R' := by
  have h0 := h
  obtain ⟨t, b, ht, h12, h13, hb, h38, -, -, -, -, hT, hS, -⟩ := h
  have hF := num_F hT.1
  have h6 := two_pow8 hF.2.2
  unfold X_truth M_truth
  rw [hc, hd, hp, M_isRow_eq hb h38 hT.1 hr, bind_some', M_isIn_eq c 0 10 R hc rfl rfl, bind_some', M_isIn_eq d 0 10 R hd rfl rfl, bind_some', M_isIn_eq p 0 1 R hp rfl rfl, bind_some', h12, chk_pos (isTI_of rfl ht), lt1_eq, tn_nat, T_hasRow_eq hT.1 hr, bind_some', chk_pos (isTI_of rfl ht), lt1_eq]
  by_cases q : (0 ≤ r ∧ r < (nR R b : Int)) ∧ (0 ≤ c ∧ c ≤ 10) ∧ (0 ≤ d ∧ d ≤ 10) ∧ (0 ≤ p ∧ p ≤ 1)
  · obtain ⟨q1, q2, q3, q4⟩ := q
    rw [if_pos q1, if_pos q2, if_pos q3, if_pos q4, if_pos nz1, if_pos nz1, if_pos nz1, if_neg nz1, bind_some', if_neg (show ¬ (false = true) by decide), if_pos (show 0 ≤ c ∧ c ≤ 10 ∧ 0 ≤ d ∧ d ≤ 10 by omega), bind_some', if_pos nz1, if_pos q4.1, if_pos q4.2, bind_some', if_neg (show ¬ (false = true) by decide)]
    obtain ⟨C', R', e1, e2, hI, hK, hL, hT1, hC, hSR, h38', hI1⟩ := looked h0 ht h12 hb h38 hT hS hk
    obtain ⟨r, rfl⟩ : ∃ y : Nat, r = (y : Int) := ⟨r.toNat, by omega⟩
    obtain ⟨c, rfl⟩ : ∃ y : Nat, c = (y : Int) := ⟨c.toNat, by omega⟩
    obtain ⟨d, rfl⟩ : ∃ y : Nat, d = (y : Int) := ⟨d.toNat, by omega⟩
    rw [e1, e2, bind_some', bind_some', W_sizeOf_eq ht hT1 hK (by omega), M_soMany_eq hb h38 hT hL (by omega)]
    simp only [lt1_eq, bind_some']
    rw [hK.2.2.2.2.2, hL.2.1]
    have c1 := cnt_le (lfB R b k) (2 ^ nF R b)
    have c3 : cnt (fun w => lfB R b k w && rowI R r w) (2 ^ nF R b) ≤ cnt (lfB R b k) (2 ^ nF R b) := cnt_mono (fun i _ z => by rw [Bool.and_eq_true] at z; exact z.1)
    generalize cnt (lfB R b k) (2 ^ nF R b) = x at *
    generalize cnt (fun w => lfB R b k w && rowI R r w) (2 ^ nF R b) = y at *
    have ey : (y : Int) * (c : Int) = ((c * y : Nat) : Int) := by rw [Nat.mul_comm]; push_cast; rfl
    have ey2 : (c : Int) * (y : Int) = ((c * y : Nat) : Int) := by push_cast; rfl
    have ex : ((x : Int) - (y : Int)) * (d : Int) = ((d * (x - y) : Nat) : Int) := by rw [Nat.mul_comm]; push_cast [c3]; rfl
    have ex2 : (d : Int) * ((x : Int) - (y : Int)) = ((d * (x - y) : Nat) : Int) := by push_cast [c3]; rfl
    rw [ey, ex, ey2, ex2, ← Int.natCast_add]
    have b1 : c * y ≤ 10 * 256 := Nat.mul_le_mul (by omega) (by omega)
    have b2 : d * (x - y) ≤ 10 * 256 := Nat.mul_le_mul (by omega) (by omega)
    generalize hU : c * y = U at *
    generalize hV : d * (x - y) = V at *
    rw [n32_nat (a := U + V) (by omega)]
    by_cases z : U + V = 0
    · have hz : ((U + V : Nat) : Int) = 0 := by omega
      simp only [if_pos hz]
      exact ⟨_, _, _, rfl, rfl, hI⟩
    · have hz : ¬ ((U + V : Nat) : Int) = 0 := by omega
      simp only [if_neg hz]
      rw [X_common_eq (by omega) (by omega) (by omega), M_common_eq (by omega) (by omega), Nat.gcd_comm U (U + V)]
      have hg : 0 < Nat.gcd (U + V) U := Nat.gcd_pos_of_pos_left U (by omega)
      have hg2 : Nat.gcd (U + V) U ≤ U + V := Nat.gcd_le_left U (by omega)
      rw [bind_some', bind_some']
      have hn : ¬ n32 ((Nat.gcd (U + V) U : Nat) : Int) = 0 := by rw [n32_nat (by omega)]; omega
      by_cases z2 : p = 0
      · simp only [if_pos z2, bind_some']
        rw [chk_pos hn, chk_pos hn]
        exact ⟨_, _, _, rfl, rfl, hI⟩
      · simp only [if_neg z2, bind_some']
        rw [chk_pos hn, chk_pos hn]
        exact ⟨_, _, _, rfl, rfl, hI⟩
  · have eM : ∀ (A B : Option (Int × Mem)), A = some ((-1), C) → B = some ((-1), R) → ∃ v C' R', A = some (v, C') ∧ B = some (v, R') ∧ Inv C' R' := fun A B h1 h2 => ⟨_, _, _, h1, h2, h0⟩
    apply eM
    · by_cases q2 : 0 ≤ c ∧ c ≤ 10 ∧ 0 ≤ d ∧ d ≤ 10
      · rw [if_pos q2, bind_some', if_pos nz1]
        by_cases q4 : 0 ≤ p
        · rw [if_pos q4]
          by_cases q5 : p ≤ 1
          · rw [if_pos q5, if_neg (fun q1 => q ⟨q1, ⟨q2.1, q2.2.1⟩, q2.2.2, q4, q5⟩)]; rfl
          · rw [if_neg q5]; rfl
        · rw [if_neg q4]; rfl
      · rw [if_neg q2]; rfl
    · by_cases q1 : 0 ≤ r ∧ r < (nR R b : Int)
      · rw [if_pos q1, if_pos nz1]
        by_cases q2 : 0 ≤ c ∧ c ≤ 10
        · rw [if_pos q2, if_pos nz1]
          by_cases q3 : 0 ≤ d ∧ d ≤ 10
          · rw [if_pos q3, if_pos nz1, if_neg (fun q4 => q ⟨q1, q2, q3, q4⟩)]; rfl
          · rw [if_neg q3]; rfl
        · rw [if_neg q2]; rfl
      · rw [if_neg q1]; rfl
