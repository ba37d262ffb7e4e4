/-! ===== operation: proof ===== -/
theorem anyB_split (q : Nat → Bool) : ∀ n, anyB (fun j => anyB (fun i => q (64 * j + i)) 64) n = anyB q (64 * n)
  | 0 => rfl
  | n + 1 => by
    show (anyB _ n || anyB (fun i => q (64 * n + i)) 64) = _
    rw [anyB_split q n]
    apply bool_iff
    rw [Bool.or_eq_true, anyB_iff, anyB_iff, anyB_iff]
    constructor
    · rintro (⟨i, h1, h2⟩ | ⟨i, h1, h2⟩)
      · exact ⟨i, by omega, h2⟩
      · exact ⟨64 * n + i, by omega, h2⟩
    · rintro ⟨i, h1, h2⟩
      by_cases e : i < 64 * n
      · exact Or.inl ⟨i, e, h2⟩
      · exact Or.inr ⟨i - 64 * n, by omega, by rw [show 64 * n + (i - 64 * n) = i from by omega]; exact h2⟩
theorem anyB_cut {p : Nat → Bool} {m n : Nat} (hmn : m ≤ n) (h : ∀ i, m ≤ i → i < n → p i = false) : anyB p n = anyB p m := by
  apply bool_iff
  rw [anyB_iff, anyB_iff]
  constructor
  · rintro ⟨i, h1, h2⟩
    by_cases e : i < m
    · exact ⟨i, e, h2⟩
    · rw [h i (by omega) h1] at h2; cases h2
  · rintro ⟨i, h1, h2⟩
    exact ⟨i, by omega, h2⟩
/-- a world that speaks against the row, and which none of the set shuts out -/
def agB (R : Mem) (b : Nat) (k : Int) (r set w : Nat) : Bool := (isB R w && !rowI R r w) && allB (fun i => !set.testBit i || sB R b (clG (ct R k) (nS R) i) w) (cnt (ct R k) (nS R))
def pvB (R : Mem) (b : Nat) (k : Int) (r set : Nat) : Bool := !anyB (agB R b k r set) (2 ^ nF R b)
/-- the best of the first n sets -/
def bst (p : Nat → Bool) : Nat → Int
  | 0 => -1
  | n + 1 => if (bst p n < 0 ∨ popc n < popc (bst p n).toNat) ∧ p n = true then (n : Int) else bst p n
theorem bst_rng (p : Nat → Bool) : ∀ n, -1 ≤ bst p n ∧ bst p n < (n : Int)
  | 0 => by unfold bst; omega
  | n + 1 => by
    have := bst_rng p n
    unfold bst
    split <;> omega
section PROOF
variable {t b : Nat} {C R : Mem}
theorem W_proves_eq (ht : isT t) (hT : Town t b C R) (hS : Says t b C R) {k : Int} (hk : KnR t b k C R) (hc10 : cnt (ct R k) (nS R) ≤ 10) {set r : Nat} (hset : set < 1024) (hr : r < nR R b) : W_proves (set : Int) (r : Int) C = some (b1 (pvB R b k r set)) := by
  obtain ⟨m, m1, m2, m3, m4⟩ := hS
  have eS : nS R = m := by unfold nS; rw [m3]; rfl
  obtain ⟨k0, k1, k3, kj, -, -⟩ := hk
  obtain ⟨h, hW, -, -, -, hB, hRo, -, -⟩ := hT
  have hF := num_F h
  have hR := num_R h
  have h3 := pow_wd hF.2.2
  have eW : C t 6 = (nwd (nF R b) : Int) := hW
  -- the inner loop
  have inner : ∀ (j : Nat) (x : Int), j < nwd (nF R b) → (∀ i, i < 64 → qb x i = true → isB R (64 * j + i) = true) → Z (it (W_proves_b45 (set : Int) C (j : Int)) FUEL (x, 0)) (fun y => ∀ i, i < 64 → qb y i = (qb x i && allB (fun n => !set.testBit n || sB R b (clG (ct R k) (nS R) n) (64 * j + i)) (cnt (ct R k) (nS R)))) := by
    intro j x hj hx
    refine it_Z (fun n st => st.2 = (n : Int) ∧ ∀ i, i < 64 → qb st.1 i = (qb x i && allB (fun n => !set.testBit n || sB R b (clG (ct R k) (nS R) n) (64 * j + i)) n)) (cnt (ct R k) (nS R)) (by unfold FUEL; omega) ⟨rfl, fun i hi => by unfold allB anyB; simp⟩ ?_ ?_
    · rintro n ⟨y, l⟩ hn ⟨el, hy⟩
      dsimp only at el hy
      subst el
      obtain ⟨c1, c2, c3⟩ := clG_mem hn
      unfold W_proves_b45
      dsimp only
      rw [k3, n32_nat (by omega), n32_nat (by omega), if_pos (by omega), X_hasBit_eq (by omega) (by omega), bind_some']
      cases hb : set.testBit n with
      | false =>
        rw [if_neg (show ¬ (false = true) by decide), if_neg nz0, bind_some', lt1_eq]
        refine Z_of (Or.inl ⟨_, rfl, rfl, fun i hi => ?_⟩)
        dsimp only
        rw [hy i hi, allB_succ, hb]
        simp
      | true =>
        rw [if_pos rfl, if_pos nz1, k1, chk_pos (show (42 : Int) = ((42 : Nat) : Int) from rfl), chk_pos (by omega), tn_nat, kj n hn]
        rw [eS] at c1
        rw [chk_pos (by rw [eS]; omega), tn_4, lt1_eq, bind_some', lt1_eq]
        refine Z_of (Or.inl ⟨_, rfl, rfl, fun i hi => ?_⟩)
        dsimp only
        rw [qb_and, hy i hi, allB_succ, hb]
        obtain ⟨-, -, -, -, -, -, k7⟩ := m4 _ c1
        have e7 := k7 (64 * j + i) (by omega)
        rw [Nat.zero_add] at e7
        unfold sb at e7
        rw [show (64 * j + i) / 64 = j from by omega, show (64 * j + i) % 64 = i from by omega] at e7
        rw [eS, show C 48 (4 * clG (ct R k) m n + j) = C (42 + 6) (4 * clG (ct R k) m n + j) from rfl, e7]
        have hxi := hx i hi
        show _ = (qb x i && (allB (fun n => !set.testBit n || sB R b (clG (ct R k) m n) (64 * j + i)) n && (!true || canS R b _ _ _ _ _)))
        cases hq : qb x i with
        | false => rfl
        | true => rw [hxi hq]; simp
    · rintro ⟨y, l⟩ ⟨el, hy⟩
      dsimp only at el hy
      subst el
      unfold W_proves_b45
      dsimp only
      rw [k3, if_neg (by omega)]
      exact Z_of ⟨_, rfl, hy⟩
  have hbody : ∀ j : Nat, j < nwd (nF R b) → W_proves_b2 (set : Int) (r : Int) C (j : Int) = if anyB (fun i => agB R b k r set (64 * j + i)) 64 = true then some (.inr (.inr 0)) else some (.inl ((j : Int) + 1)) := by
    intro j hj
    unfold W_proves_b2
    dsimp only
    rw [k0, chk_pos (isTI_of rfl ht), lt1_eq, tn_nat, eW, n32_nat (by omega), n32_nat (by omega), if_pos (by omega), chk_pos (by omega), chk_pos (by omega), tn_nat, tn_4, lt1_eq]
    have hxq : ∀ i, i < 64 → qb (jand (C (t + 8) j) (jxor (C (t + 9) (4 * r + j)) (-1))) i = (isB R (64 * j + i) && !rowI R r (64 * j + i)) := by
      intro i hi
      have e1 := hB.2.2 (64 * j + i) (by omega)
      unfold sb at e1
      rw [show (64 * j + i) / 64 = j from by omega, show (64 * j + i) % 64 = i from by omega, Nat.zero_add] at e1
      rw [qb_and, e1, qb_not _ hi]
      cases hb : isB R (64 * j + i) with
      | false => rfl
      | true =>
        have hlt : 64 * j + i < 2 ^ nF R b := by
          rcases Nat.lt_or_ge (64 * j + i) (2 ^ nF R b) with z | z
          · exact z
          · unfold isB at hb
            rw [hB.2.1 _ z (by omega)] at hb
            cases hb
        have e2 := (hRo r (64 * j + i) hr hlt hb).2
        unfold sb at e2
        rw [show (64 * j + i) / 64 = j from by omega, show (64 * j + i) % 64 = i from by omega] at e2
        rw [e2]
    obtain ⟨y, ey, hy⟩ := inner j _ hj (fun i hi hq => by rw [hxq i hi, Bool.and_eq_true] at hq; exact hq.1)
    rw [ey, bind_some']
    have hz := n64_z (a := y)
    cases ha : anyB (fun i => agB R b k r set (64 * j + i)) 64 with
    | false =>
      rw [if_neg (show ¬ (false = true) by decide), if_neg (not_not_intro (hz.mpr fun i hi => ?_)), lt1_eq]
      rw [hy i hi, hxq i hi]
      exact anyB_no.mp ha i hi
    | true =>
      obtain ⟨i, hi, hq⟩ := anyB_iff.mp ha
      rw [if_pos rfl, if_pos (fun e => ?_)]
      have := hz.mp e i hi
      rw [hy i hi, hxq i hi] at this
      unfold agB at hq
      rw [this] at hq
      cases hq
  have F := it_find (body := W_proves_b2 (set : Int) (r : Int) C) (p := fun j => anyB (fun i => agB R b k r set (64 * j + i)) 64) (v := fun _ => 0) (nwd (nF R b)) (by unfold FUEL; omega) (fun i hi hp => by rw [hbody i hi, if_pos hp]) (fun i hi hp => by rw [hbody i hi, if_neg (by rw [hp]; decide)]) (by unfold W_proves_b2; dsimp only; rw [k0, chk_pos (isTI_of rfl ht), lt1_eq, tn_nat, eW, if_neg (by omega)])
  have e : anyB (fun j => anyB (fun i => agB R b k r set (64 * j + i)) 64) (nwd (nF R b)) = anyB (agB R b k r set) (2 ^ nF R b) := by
    rw [anyB_split, anyB_cut h3.1 (fun i q1 q2 => ?_)]
    unfold agB isB
    rw [hB.2.1 i q1 (by omega)]
    rfl
  rw [e] at F
  unfold W_proves pvB
  cases ha : anyB (agB R b k r set) (2 ^ nF R b) with
  | false => rw [F.1 ha]; rfl
  | true =>
    obtain ⟨i, -, -, -, q⟩ := F.2 ha
    rw [q]; rfl
theorem W_fewest_eq (ht : isT t) (hT : Town t b C R) (hS : Says t b C R) {k : Int} (hk : KnR t b k C R) (hc10 : cnt (ct R k) (nS R) ≤ 10) {r : Nat} (hr : r < nR R b) : W_fewestProving (r : Int) C = some (bst (pvB R b k r) (2 ^ cnt (ct R k) (nS R))) := by
  have hp := Nat.pow_le_pow_right (n := 2) (by omega) hc10
  have k3 := hk.2.2.1
  have L := it_for (body := W_fewestProving_b8 (r : Int) C) (a := (-1, 11, 0)) (b := bst (pvB R b k r) (2 ^ cnt (ct R k) (nS R))) (fun n => (bst (pvB R b k r) n, if bst (pvB R b k r) n < 0 then 11 else ((popc (bst (pvB R b k r) n).toNat : Nat) : Int), (n : Int))) (2 ^ cnt (ct R k) (nS R)) (by unfold FUEL; omega) rfl ?_ ?_
  · unfold W_fewestProving
    rw [L]; rfl
  · intro n hn
    have hrng := bst_rng (pvB R b k r) n
    unfold W_fewestProving_b8
    dsimp only
    have hpn : popc n ≤ 10 := by
      unfold popc
      rw [cnt_cut (m := 10) (n := 31) (by omega) (fun i h1 h2 => testBit_lt8 (n := 10) (by omega) h1)]
      exact cnt_le _ _
    have hpl := popc_le (bst (pvB R b k r) n).toNat
    rw [k3, ishl_1 (by omega), n32_nat (a := n) (by omega), n32_nat (by omega), if_pos (by omega), JI_bit (by omega), bind_some', W_proves_eq ht hT hS hk hc10 (by omega) hr]
    have hnx : bst (pvB R b k r) (n + 1) = if (bst (pvB R b k r) n < 0 ∨ popc n < popc (bst (pvB R b k r) n).toNat) ∧ pvB R b k r n = true then (n : Int) else bst (pvB R b k r) n := rfl
    rw [show cnt n.testBit 31 = popc n from rfl]
    rw [n32_nat (by omega), n32_of (a := if bst (pvB R b k r) n < 0 then 11 else _) (by split <;> omega) (by split <;> omega)]
    by_cases q : bst (pvB R b k r) n < 0 ∨ popc n < popc (bst (pvB R b k r) n).toNat
    · rw [if_pos (by split <;> omega), bind_some']
      cases hv : pvB R b k r n with
      | false =>
        have e0 : bst (pvB R b k r) (n + 1) = bst (pvB R b k r) n := by rw [hnx, hv]; exact if_neg (fun z => absurd z.2 (by decide))
        rw [e0]
        rfl
      | true =>
        have e0 : bst (pvB R b k r) (n + 1) = (n : Int) := by rw [hnx, hv]; exact if_pos ⟨q, rfl⟩
        rw [e0, if_neg (show ¬ ((n : Int) < 0) by omega)]
        rfl
    · have e0 : bst (pvB R b k r) (n + 1) = bst (pvB R b k r) n := by rw [hnx]; exact if_neg (fun z => q z.1)
      rw [if_neg (by split <;> omega), e0]
      rfl
  · unfold W_fewestProving_b8
    dsimp only
    rw [k3, ishl_1 (by omega), if_neg (by omega)]
/-! the reference -/
theorem M_sure_eq (hb : b < 2) (h38 : R 81 38 = (b : Int)) (hT : Town t b C R) {k : Int} {R' : Mem} (e2 : M_findLeft k R = some R') (hL : LfR b k R R') {r : Nat} (hr : r < nR R b) (hr2 : n32 (r : Int) = (r : Int)) : M_sure (r : Int) k R = some ((if cnt (lfB R b k) (2 ^ nF R b) = 0 then -1 else if cnt (fun w => lfB R b k w && rowI R r w) (2 ^ nF R b) = cnt (lfB R b k) (2 ^ nF R b) then 1 else if cnt (fun w => lfB R b k w && rowI R r w) (2 ^ nF R b) = 0 then 0 else -2), R') := by
  have hF := num_F hT.1
  have h6 := two_pow8 hF.2.2
  unfold M_sure
  rw [M_isRow_eq hb h38 hT.1 hr2, bind_some', if_pos (show 0 ≤ (r : Int) ∧ (r : Int) < (nR R b : Int) by omega), if_neg nz1, e2, bind_some', M_soMany_eq hb h38 hT hL hr, bind_some', hL.2.1]
  have c1 := cnt_le (lfB R b k) (2 ^ nF R b)
  have c2 := cnt_le (fun w => lfB R b k w && rowI R r w) (2 ^ nF R b)
  rw [n32_nat (by omega), n32_nat (by omega)]
  generalize cnt (lfB R b k) (2 ^ nF R b) = x at *
  generalize cnt (fun w => lfB R b k w && rowI R r w) (2 ^ nF R b) = y at *
  by_cases q1 : x = 0
  · rw [if_pos (show (x : Int) = 0 by omega), if_pos q1]
  · rw [if_neg (show ¬ (x : Int) = 0 by omega), if_neg q1]
    by_cases q2 : y = x
    · rw [if_pos (show (y : Int) = (x : Int) by omega), if_pos q2]
    · rw [if_neg (show ¬ (y : Int) = (x : Int) by omega), if_neg q2]
      by_cases q3 : y = 0
      · rw [if_pos (show (y : Int) = 0 by omega), if_pos q3]
      · rw [if_neg (show ¬ (y : Int) = 0 by omega), if_neg q3]
/-- the numbers of those that count -/
theorem M_counting {m : Nat} (hm : m ≤ 40) (h57 : R 81 57 = (m : Int)) (hS : SayR 42 116 117 118 119 120 121 0 m t b C R) {k : Int} (hk : n32 k = k) : Z (it (M_proof_b17 k) FUEL (0, 0, R)) (fun r => r.1 = ((cnt (ct R k) m : Nat) : Int) ∧ (∀ j, j < cnt (ct R k) m → r.2 123 j = ((clG (ct R k) m j : Nat) : Int)) ∧ ∀ c j, c ≠ 123 → r.2 c j = R c j) := by
  refine it_Z (fun n st => st.2.1 = (n : Int) ∧ st.1 = ((cnt (ct R k) n : Nat) : Int) ∧ (∀ j, j < cnt (ct R k) n → st.2.2 123 j = ((clG (ct R k) n j : Nat) : Int)) ∧ ∀ c j, c ≠ 123 → st.2.2 c j = R c j) m (by unfold FUEL; omega) ⟨rfl, rfl, fun j hj => by have : cnt (ct R k) 0 = 0 := rfl; omega, fun _ _ _ => rfl⟩ ?_ ?_
  · rintro n ⟨x, l, M⟩ hn ⟨el, ex, g, ef⟩
    dsimp only at el ex g ef
    subst el ex
    have hcn := cnt_le (ct R k) n
    unfold M_proof_b17
    dsimp only
    rw [ef 81 _ (by omega), h57, n32_nat (by omega), n32_nat (by omega), if_pos (by omega), M_counts_eq hS (fun j => ef _ _ (by omega)) (fun j => ef _ _ (by omega)) hn hm hk, bind_some']
    cases hc : ct R k n with
    | false =>
      have ec : cnt (ct R k) (n + 1) = cnt (ct R k) n := by show _ + (if ct R k n then 1 else 0) = _; rw [hc]; rfl
      rw [if_pos (by decide), bind_some']
      refine Z_of (Or.inl ⟨_, rfl, rfl, by dsimp only; rw [ec], fun j hj => ?_, ef⟩)
      rw [ec] at hj
      rw [clG_s hj]
      exact g j hj
    | true =>
      have ec : cnt (ct R k) (n + 1) = cnt (ct R k) n + 1 := by show _ + (if ct R k n then 1 else 0) = _; rw [hc]; rfl
      rw [if_neg (by decide), chk_pos (by omega), lt1_eq, lt1_eq, bind_some', tn_nat]
      refine Z_of (Or.inl ⟨_, rfl, rfl, by dsimp only; rw [ec]; rfl, fun j hj => ?_, fun c j q => ?_⟩)
      · dsimp only
        by_cases q : j = cnt (ct R k) n
        · subst q; rw [up_eq, clG_n hc]
        · rw [up_k q, clG_s (by omega)]
          exact g j (by omega)
      · dsimp only
        rw [up_c q]
        exact ef c j q
  · rintro ⟨x, l, M⟩ ⟨el, ex, g, ef⟩
    dsimp only at el ex g ef
    subst el ex
    unfold M_proof_b17
    dsimp only
    rw [ef 81 _ (by omega), h57, if_neg (by omega)]
    exact Z_of ⟨_, rfl, rfl, g, ef⟩
/-- what each of them could be said in -/
theorem M_could (hb : b < 2) (h38 : R 81 38 = (b : Int)) (hT : Town t b C R) {m : Nat} (hm : m ≤ 40) (hS : SayR 42 116 117 118 119 120 121 0 m t b C R) {k : Int} (hc10 : cnt (ct R k) m ≤ 10) (h123 : ∀ j, j < cnt (ct R k) m → R 123 j = ((clG (ct R k) m j : Nat) : Int)) : Z (it (M_proof_b68 ((cnt (ct R k) m : Nat) : Int)) FUEL (0, R)) (fun M => (∀ j w, j < cnt (ct R k) m → w < 2 ^ nF R b → M 124 (256 * j + w) = b1 (isB R w && sB R b (clG (ct R k) m j) w)) ∧ ∀ c j, c ≠ 124 → c ≠ 115 → M c j = R c j) := by
  have hF := num_F hT.1
  have h6 := two_pow8 hF.2.2
  refine it_Z (fun n st => st.1 = (n : Int) ∧ (∀ j w, j < n → w < 2 ^ nF R b → st.2 124 (256 * j + w) = b1 (isB R w && sB R b (clG (ct R k) m j) w)) ∧ ∀ c j, c ≠ 124 → c ≠ 115 → st.2 c j = R c j) (cnt (ct R k) m) (by unfold FUEL; omega) ⟨rfl, fun j w hj => by omega, fun _ _ _ _ => rfl⟩ ?_ ?_
  · rintro n ⟨l, M⟩ hn ⟨el, g, ef⟩
    dsimp only at el g ef
    subst el
    unfold M_proof_b68
    dsimp only
    rw [n32_nat (by omega), n32_nat (by omega), if_pos (by omega), Z_bind_iff]
    have J : Z (it (M_proof_b77 (n : Int)) FUEL (0, M)) (fun M2 => (∀ j w, j < n + 1 → w < 2 ^ nF R b → M2 124 (256 * j + w) = b1 (isB R w && sB R b (clG (ct R k) m j) w)) ∧ ∀ c j, c ≠ 124 → c ≠ 115 → M2 c j = R c j) := by
      refine it_Z (fun v st => st.1 = (v : Int) ∧ (∀ j w, w < 2 ^ nF R b → (j < n ∨ (j = n ∧ w < v)) → st.2 124 (256 * j + w) = b1 (isB R w && sB R b (clG (ct R k) m j) w)) ∧ ∀ c j, c ≠ 124 → c ≠ 115 → st.2 c j = R c j) (2 ^ nF R b) (by unfold FUEL; omega) ⟨rfl, fun j w hw hj => g j w (by omega) hw, ef⟩ ?_ ?_
      · rintro v ⟨l, M2⟩ hv ⟨el, g2, ef2⟩
        dsimp only at el g2 ef2
        subst el
        have hSR : SameR R M2 := SameR_of (fun c j q1 q2 q3 => ef2 c j (by omega) (by omega))
        have h38M : M2 81 38 = (b : Int) := (ef2 _ _ (by omega) (by omega)).trans h38
        have hTM : Town t b C M2 := Town_keep hSR (fun _ _ _ _ => rfl) hT
        have hSM : SayR 42 116 117 118 119 120 121 0 m t b C M2 := SayR_keep hSR (fun _ _ _ _ => rfl) (fun j => ef2 _ _ (by omega) (by omega)) (fun j => ef2 _ _ (by omega) (by omega)) (fun j => ef2 _ _ (by omega) (by omega)) (fun j => ef2 _ _ (by omega) (by omega)) (fun j => ef2 _ _ (by omega) (by omega)) (fun j => ef2 _ _ (by omega) (by omega)) hS
        have es : ∀ n, sB M2 b n v = sB R b n v := by
          intro n
          unfold sB
          rw [keep_canS hSR, ef2 116 _ (by omega) (by omega), ef2 117 _ (by omega) (by omega), ef2 120 _ (by omega) (by omega), ef2 121 _ (by omega) (by omega)]
        unfold M_proof_b77
        dsimp only
        rw [M_worldMany_eq hb h38M hTM.1, bind_some', keep_nF hSR, n32_nat (by omega), n32_nat (by omega), if_pos (by omega)]
        unfold M_spot
        rw [bind_some', chk_pos (by omega), jn_eq, tn_nat, ef2 111 _ (by omega) (by omega)]
        have fin : ∀ (x : Bool) (M3 : Mem), x = (isB R v && sB R b (clG (ct R k) m n) v) → (∀ c j, c ≠ 115 → M3 c j = M2 c j) → Z ((some (b1 x, M3)).bind fun r => match r with | (v_49, M_50) => chk (0 ≤ 256 * (n : Int) + (v : Int) ∧ 256 * (n : Int) + (v : Int) < 2560) (chk (v_49 = 0 ∨ v_49 = 1) (lt1 (up M_50 124 (Int.toNat (256 * (n : Int) + (v : Int))) v_49) fun M_67 => lt1 ((v : Int) + 1) fun l5_68 => some (Sum.inl (l5_68, M_67))))) (fun r => (∃ a' : Int × Mem, r = (Sum.inl a' : (Int × Mem) ⊕ Mem) ∧ a'.1 = ((v + 1 : Nat) : Int) ∧ (∀ j w, w < 2 ^ nF R b → (j < n ∨ (j = n ∧ w < v + 1)) → a'.2 124 (256 * j + w) = b1 (isB R w && sB R b (clG (ct R k) m j) w)) ∧ ∀ c j, c ≠ 124 → c ≠ 115 → a'.2 c j = R c j) ∨ ∃ b_1, r = Sum.inr b_1 ∧ (∀ j w, j < n + 1 → w < 2 ^ nF R b → b_1 124 (256 * j + w) = b1 (isB R w && sB R b (clG (ct R k) m j) w)) ∧ ∀ c j, c ≠ 124 → c ≠ 115 → b_1 c j = R c j) := by
          intro x M3 hx hM3
          rw [bind_some']
          dsimp only
          rw [chk_pos (by omega), chk_pos (b1_01 _), lt1_eq, lt1_eq, tn_256]
          refine Z_of (Or.inl ⟨_, rfl, rfl, fun j w hw hj => ?_, fun c j q1 q2 => ?_⟩)
          · dsimp only
            by_cases e : 256 * j + w = 256 * n + v
            · have e1 : j = n := by omega
              have e2 : w = v := by omega
              subst e1 e2
              rw [up_eq, hx]
            · rw [up_k e, hM3 124 _ (by omega)]
              exact g2 j w hw (by omega)
          · dsimp only
            rw [up_c q1, hM3 _ _ q2]
            exact ef2 c j q1 q2
        have hB01 := hT.2.2.2.2.2.1.1 v (by omega)
        rcases hB01 with e | e
        · rw [e, if_neg (by decide)]
          refine fin false M2 ?_ (fun _ _ _ => rfl)
          unfold isB
          rw [e]; rfl
        · rw [e, if_pos (by decide), chk_pos (by omega), tn_nat, ef2 123 _ (by omega) (by omega), h123 n hn]
          have hwb : isB R v = true := by unfold isB; rw [e]; rfl
          obtain ⟨c1, -, -⟩ := clG_mem hn
          obtain ⟨M3, e3, f3⟩ := M_canBe_eq hb h38M hTM hm hSM (n := clG (ct R k) m n) (w := v) c1 (by rw [keep_nF hSR]; exact hv) (by rw [keep_isB hSR]; exact hwb)
          rw [e3, bind_some', es]
          dsimp only
          cases hs : sB R b (clG (ct R k) m n) v with
          | false =>
            rw [if_neg (by decide)]
            exact fin false M3 (by rw [hwb, hs]; rfl) f3
          | true =>
            rw [if_pos (by decide)]
            exact fin true M3 (by rw [hwb, hs]; rfl) f3
      · rintro ⟨l, M2⟩ ⟨el, g2, ef2⟩
        dsimp only at el g2 ef2
        subst el
        have hSR : SameR R M2 := SameR_of (fun c j q1 q2 q3 => ef2 c j (by omega) (by omega))
        have hTM : Town t b C M2 := Town_keep hSR (fun _ _ _ _ => rfl) hT
        unfold M_proof_b77
        dsimp only
        rw [M_worldMany_eq hb ((ef2 _ _ (by omega) (by omega)).trans h38) hTM.1, bind_some', keep_nF hSR, if_neg (by omega)]
        exact Z_of ⟨_, rfl, fun j w hj hw => g2 j w hw (by omega), ef2⟩
    refine Z_mono J ?_
    rintro M2 ⟨g2, f2⟩
    exact Z_of (Or.inl ⟨_, rfl, rfl, g2, f2⟩)
  · rintro ⟨l, M⟩ ⟨el, g, ef⟩
    dsimp only at el g ef
    subst el
    unfold M_proof_b68
    dsimp only
    rw [if_neg (by omega)]
    exact Z_of ⟨_, rfl, g, ef⟩
theorem M_isProved_eq (hb : b < 2) (h38 : R 81 38 = (b : Int)) (hT : Town t b C R) {m : Nat} (eS : nS R = m) {k : Int} (hc10 : cnt (ct R k) m ≤ 10) {M : Mem} (hM : ∀ c j, (84 ≤ c ∧ c ≤ 114 ∧ c ≠ 113) ∨ (c = 81 ∧ j = 38) → M c j = R c j) (h124 : ∀ j w, j < cnt (ct R k) m → w < 2 ^ nF R b → M 124 (256 * j + w) = b1 (isB R w && sB R b (clG (ct R k) m j) w)) {set r : Nat} (hset : set < 1024) (hr : r < nR R b) : M_isProved (r : Int) (set : Int) ((cnt (ct R k) m : Nat) : Int) M = some (b1 (pvB R b k r set)) := by
  have hSR : SameR R M := SameR_of (fun c j q1 q2 q3 => hM c j (by omega))
  have hN : NumR t b C M := (Town_keep hSR (fun _ _ _ _ => rfl) hT).1
  have h38M : M 81 38 = (b : Int) := (hM _ _ (by omega)).trans h38
  obtain ⟨h, hW, -, -, -, hB, hRo, -, -⟩ := hT
  have hF := num_F h
  have hR := num_R h
  have h6 := two_pow8 hF.2.2
  have inner : ∀ (w : Nat) (x : Bool), w < 2 ^ nF R b → (x = true → isB R w = true) → Z (it (M_isProved_b46 (set : Int) ((cnt (ct R k) m : Nat) : Int) M (w : Int)) FUEL (b1 x, 0)) (fun y => y = b1 (x && allB (fun i => !set.testBit i || sB R b (clG (ct R k) m i) w) (cnt (ct R k) m))) := by
    intro w x hw hx
    refine it_Z (fun n st => st.2 = (n : Int) ∧ st.1 = b1 (x && allB (fun i => !set.testBit i || sB R b (clG (ct R k) m i) w) n)) (cnt (ct R k) m) (by unfold FUEL; omega) ⟨rfl, by unfold allB anyB; simp⟩ ?_ ?_
    · rintro n ⟨y, l⟩ hn ⟨el, ey⟩
      dsimp only at el ey
      subst el ey
      unfold M_isProved_b46
      dsimp only
      rw [n32_nat (by omega), n32_nat (by omega), b1_n]
      cases hq : (x && allB (fun i => !set.testBit i || sB R b (clG (ct R k) m i) w) n) with
      | false =>
        rw [if_neg (fun z => z.2 rfl)]
        refine Z_of (Or.inr ⟨_, rfl, ?_⟩)
        cases hx2 : x with
        | false => rfl
        | true =>
          rw [hx2, Bool.true_and] at hq
          have : ∃ j, j < n ∧ (!set.testBit j || sB R b (clG (ct R k) m j) w) = false := by
            cases hqq : anyB (fun j => !(!set.testBit j || sB R b (clG (ct R k) m j) w)) n with
            | true =>
              obtain ⟨j, j1, j2⟩ := anyB_iff.mp hqq
              exact ⟨j, j1, by simpa using j2⟩
            | false =>
              unfold allB at hq
              rw [hqq] at hq
              cases hq
          obtain ⟨j, j1, j2⟩ := this
          rw [allB_false (p := fun i => !set.testBit i || sB R b (clG (ct R k) m i) w) (i := j) (by omega) j2]
          rfl
      | true =>
        rw [if_pos ⟨by omega, by decide⟩, hb_eq (by omega) (by omega)]
        rw [Bool.and_eq_true] at hq
        cases hb : set.testBit n with
        | false =>
          rw [if_neg (show ¬ (false = true) by decide), if_neg nz0, bind_some', if_pos rfl, bind_some']
          refine Z_of (Or.inl ⟨_, rfl, rfl, ?_⟩)
          dsimp only
          rw [allB_succ, hq.1, hq.2, hb]
          rfl
        | true =>
          rw [if_pos rfl, if_pos nz1]
          unfold M_spot
          rw [bind_some', chk_pos (by omega), tn_256, h124 n w hn hw, hx hq.1, Bool.true_and]
          cases hs : sB R b (clG (ct R k) m n) w with
          | false =>
            refine Z_of (Or.inl ⟨_, rfl, rfl, ?_⟩)
            dsimp only
            rw [allB_succ, hq.1, hq.2, hb, hs]
            rfl
          | true =>
            refine Z_of (Or.inl ⟨_, rfl, rfl, ?_⟩)
            dsimp only
            rw [allB_succ, hq.1, hq.2, hb, hs]
            rfl
    · rintro ⟨y, l⟩ ⟨el, ey⟩
      dsimp only at el ey
      subst el ey
      unfold M_isProved_b46
      dsimp only
      rw [if_neg (fun z => by omega)]
      exact Z_of ⟨_, rfl, rfl⟩
  have hbody : ∀ w : Nat, w < 2 ^ nF R b → M_isProved_b3 (r : Int) (set : Int) ((cnt (ct R k) m : Nat) : Int) M (w : Int) = if agB R b k r set w = true then some (.inr (.inr 0)) else some (.inl ((w : Int) + 1)) := by
    intro w hw
    have hv : ((if ¬ n32 (R 111 w) = 0 then (M_spot (r : Int) (w : Int) M).bind fun r_20 => chk (0 ≤ r_20 ∧ r_20 < 3072) (if n32 (M 112 (Int.toNat r_20)) = 0 then some true else some false) else some false).bind fun c_19 => if c_19 = true then some (1 : Int) else some 0) = some (b1 (isB R w && !rowI R r w)) := by
      unfold isB rowI M_spot
      rcases hB.1 w (by omega) with e | e
      · rw [e]; rfl
      · have k8 := (hRo r w hr hw (by unfold isB; rw [e]; rfl)).1
        rw [e, if_pos (by decide), bind_some', chk_pos (by omega), tn_256, hM 112 _ (by omega)]
        rcases k8 with e | e <;> rw [e] <;> rfl
    unfold M_isProved_b3
    dsimp only
    rw [M_worldMany_eq hb h38M hN, bind_some', keep_nF hSR, n32_nat (by omega), n32_nat (by omega), if_pos (by omega), chk_pos (by omega), tn_nat, hM 111 _ (by omega), hv, bind_some']
    obtain ⟨y, e1, e2⟩ := inner w (isB R w && !rowI R r w) hw (fun z => by rw [Bool.and_eq_true] at z; exact z.1)
    rw [e1, bind_some', e2]
    unfold agB
    rw [eS]
    cases ((isB R w && !rowI R r w) && allB (fun i => !set.testBit i || sB R b (clG (ct R k) m i) w) (cnt (ct R k) m)) <;> rfl
  have F := it_find (body := M_isProved_b3 (r : Int) (set : Int) ((cnt (ct R k) m : Nat) : Int) M) (p := agB R b k r set) (v := fun _ => 0) (2 ^ nF R b) (by unfold FUEL; omega) (fun i hi hp => by rw [hbody i hi, if_pos hp]) (fun i hi hp => by rw [hbody i hi, if_neg (by rw [hp]; decide)]) (by unfold M_isProved_b3; dsimp only; rw [M_worldMany_eq hb h38M hN, bind_some', keep_nF hSR, if_neg (by omega)])
  unfold M_isProved pvB
  cases ha : anyB (agB R b k r set) (2 ^ nF R b) with
  | false => rw [F.1 ha]; rfl
  | true =>
    obtain ⟨i, -, -, -, q⟩ := F.2 ha
    rw [q]; rfl
theorem M_best_eq (hb : b < 2) (h38 : R 81 38 = (b : Int)) (hT : Town t b C R) {m : Nat} (eS : nS R = m) {k : Int} (hc10 : cnt (ct R k) m ≤ 10) {M : Mem} (hM : ∀ c j, (84 ≤ c ∧ c ≤ 114 ∧ c ≠ 113) ∨ (c = 81 ∧ j = 38) → M c j = R c j) (h124 : ∀ j w, j < cnt (ct R k) m → w < 2 ^ nF R b → M 124 (256 * j + w) = b1 (isB R w && sB R b (clG (ct R k) m j) w)) {r : Nat} (hr : r < nR R b) : it (M_proof_b147 (r : Int) ((cnt (ct R k) m : Nat) : Int) M) FUEL ((-1), 0) = some (bst (pvB R b k r) (2 ^ cnt (ct R k) m)) := by
  have hp := Nat.pow_le_pow_right (n := 2) (by omega) hc10
  refine it_for (fun n => (bst (pvB R b k r) n, (n : Int))) (2 ^ cnt (ct R k) m) (by unfold FUEL; omega) rfl ?_ ?_
  · intro n hn
    have hrng := bst_rng (pvB R b k r) n
    have hnx : bst (pvB R b k r) (n + 1) = if (bst (pvB R b k r) n < 0 ∨ popc n < popc (bst (pvB R b k r) n).toNat) ∧ pvB R b k r n = true then (n : Int) else bst (pvB R b k r) n := rfl
    have hpv := M_isProved_eq hb h38 hT eS hc10 hM h124 (set := n) (r := r) (by omega) hr
    unfold M_proof_b147
    dsimp only
    rw [ishl_1 (by omega), n32_nat (a := n) (by omega), n32_nat (by omega), if_pos (by omega), hpv, n32_of (a := bst (pvB R b k r) n) (by omega) (by omega), popc_eq_s (by omega)]
    by_cases q0 : 0 ≤ bst (pvB R b k r) n
    · rw [if_pos q0, bind_some']
      have e1 := popc_eq_s (s := (bst (pvB R b k r) n).toNat) (by omega) M
      rw [Int.toNat_of_nonneg q0] at e1
      have p1 := popc_le n
      have p2 := popc_le (bst (pvB R b k r) n).toNat
      rw [e1, bind_some', n32_nat (by omega), n32_nat (by omega)]
      by_cases q : popc n < popc (bst (pvB R b k r) n).toNat
      · rw [if_pos (by omega), bind_some']
        cases hv : pvB R b k r n with
        | false =>
          have e0 : bst (pvB R b k r) (n + 1) = bst (pvB R b k r) n := by rw [hnx, hv]; exact if_neg (fun z => absurd z.2 (by decide))
          rw [e0]; rfl
        | true =>
          have e0 : bst (pvB R b k r) (n + 1) = (n : Int) := by rw [hnx, hv]; exact if_pos ⟨Or.inr q, rfl⟩
          rw [e0]; rfl
      · have e0 : bst (pvB R b k r) (n + 1) = bst (pvB R b k r) n := by rw [hnx]; exact if_neg (fun z => by rcases z.1 with z | z; omega; exact q z)
        rw [if_neg (by omega), e0]; rfl
    · rw [if_neg q0, bind_some']
      cases hv : pvB R b k r n with
      | false =>
        have e0 : bst (pvB R b k r) (n + 1) = bst (pvB R b k r) n := by rw [hnx, hv]; exact if_neg (fun z => absurd z.2 (by decide))
        rw [e0]; rfl
      | true =>
        have e0 : bst (pvB R b k r) (n + 1) = (n : Int) := by rw [hnx, hv]; exact if_pos ⟨Or.inl (by omega), rfl⟩
        rw [e0]; rfl
  · unfold M_proof_b147
    dsimp only
    rw [ishl_1 (by omega), if_neg (by omega)]
end PROOF
theorem op_proof {C R : Mem} (h : Inv C R) {r k : Int} (hr : n32 r = r) (hk : n32 k = k) : ∃ v C' R', X_proof r k C = some (v, C') ∧ M_proof r k R = some (v, R') ∧ Inv C' R' := by
  have h0 := h
  obtain ⟨t, b, ht, h12, h13, hb, h38, -, -, -, -, hT, hS, -⟩ := h
  obtain ⟨C', R', e1, e2, hI, hK, hL, hT1, hC, hSR, h38', hI1⟩ := looked h0 ht h12 hb h38 hT hS hk
  have hF := num_F hT.1
  have h6 := two_pow8 hF.2.2
  have hS1 : Says t b C' R := Says_keep (SameR_of (fun _ _ _ _ _ => rfl)) (fun c k q1 q2 => hC c k (by omega)) rfl (fun _ _ _ _ => rfl) hS
  unfold X_proof M_proof
  rw [h12, chk_pos (isTI_of rfl ht), lt1_eq, tn_nat, e1, bind_some', hC _ _ (by omega), h12, chk_pos (isTI_of rfl ht), lt1_eq, tn_nat, T_hasRow_eq hT1.1 hr, bind_some', hK.2.2.2.2.2, hK.2.2.1]
  by_cases q : 0 ≤ r ∧ r < (nR R b : Int)
  · rw [if_pos q, if_pos nz1]
    obtain ⟨r, rfl⟩ : ∃ y : Nat, r = (y : Int) := ⟨r.toNat, by omega⟩
    rw [M_sure_eq hb h38 hT e2 hL (by omega) hr, bind_some', W_sizeOf_eq ht hT1 hK (by omega), bind_some']
    dsimp only
    have c1 := cnt_le (lfB R b k) (2 ^ nF R b)
    have c2 := cnt_le (fun w => lfB R b k w && rowI R r w) (2 ^ nF R b)
    rw [n32_nat (by omega), n32_nat (by omega)]
    generalize cnt (lfB R b k) (2 ^ nF R b) = x at *
    generalize cnt (fun w => lfB R b k w && rowI R r w) (2 ^ nF R b) = y at *
    by_cases q1 : x = 0
    · rw [if_neg (show ¬ ¬ (x : Int) = 0 by omega), bind_some', if_pos rfl, if_pos q1, if_pos (by decide)]
      exact ⟨_, _, _, rfl, rfl, hI⟩
    · rw [if_pos (show ¬ (x : Int) = 0 by omega), if_neg q1]
      by_cases q2 : y = x
      · rw [if_neg (show ¬ ¬ (y : Int) = (x : Int) by omega), bind_some', if_neg (show ¬ (false = true) by decide), if_pos q2, if_neg (show ¬ ¬ n32 1 = 1 by decide)]
        obtain ⟨m, m1, m2, m3, m4⟩ := hS
        have eS : nS R = m := by unfold nS; rw [m3]; rfl
        have hcm := cnt_le (ct R k) m
        have hLf := hL.2.2
        have m4' : SayR 42 116 117 118 119 120 121 0 m t b C R' := SayR_keep hSR (fun _ _ _ _ => rfl) (fun j => hLf _ _ (by omega)) (fun j => hLf _ _ (by omega)) (fun j => hLf _ _ (by omega)) (fun j => hLf _ _ (by omega)) (fun j => hLf _ _ (by omega)) (fun j => hLf _ _ (by omega)) m4
        have hT' : Town t b C R' := Town_keep hSR (fun _ _ _ _ => rfl) hT
        have ect : ct R' k = ct R k := by funext n; unfold ct; rw [hLf _ _ (by omega), hLf _ _ (by omega)]
        obtain ⟨⟨x1, R2⟩, e3, g1, g2, g3⟩ := M_counting m1 ((hLf _ _ (by omega)).trans m3) m4' hk
        dsimp only at g1 g2 g3
        rw [e3, bind_some']
        dsimp only
        rw [g1, ect, eS, n32_nat (by omega)]
        have hR2 : ∀ c j, c ≠ 115 → c ≠ 122 → c ≠ 123 → ¬ (c = 81 ∧ j = 60) → R2 c j = R c j := fun c j z1 z2 z3 z4 => (g3 c j z3).trans (hLf c j (by omega))
        by_cases q3 : cnt (ct R k) m ≤ 10
        · rw [if_neg (by omega), if_neg (by omega)]
          have hSR2 : SameR R R2 := SameR_of (fun c j z1 z2 z3 => hR2 c j (by omega) (by omega) (by omega) (by omega))
          have hT2 : Town t b C R2 := Town_keep hSR2 (fun _ _ _ _ => rfl) hT
          have m42 : SayR 42 116 117 118 119 120 121 0 m t b C R2 := SayR_keep hSR2 (fun _ _ _ _ => rfl) (fun j => hR2 _ _ (by omega) (by omega) (by omega) (by omega)) (fun j => hR2 _ _ (by omega) (by omega) (by omega) (by omega)) (fun j => hR2 _ _ (by omega) (by omega) (by omega) (by omega)) (fun j => hR2 _ _ (by omega) (by omega) (by omega) (by omega)) (fun j => hR2 _ _ (by omega) (by omega) (by omega) (by omega)) (fun j => hR2 _ _ (by omega) (by omega) (by omega) (by omega)) m4
          have ect2 : ct R2 k = ct R k := by funext n; unfold ct; rw [hR2 _ _ (by omega) (by omega) (by omega) (by omega), hR2 _ _ (by omega) (by omega) (by omega) (by omega)]
          have es2 : ∀ n w, sB R2 b n w = sB R b n w := fun n w => by
            unfold sB
            rw [keep_canS hSR2, hR2 116 _ (by omega) (by omega) (by omega) (by omega), hR2 117 _ (by omega) (by omega) (by omega) (by omega), hR2 120 _ (by omega) (by omega) (by omega) (by omega), hR2 121 _ (by omega) (by omega) (by omega) (by omega)]
          obtain ⟨R3, e4, g4, g5⟩ := M_could hb ((hR2 _ _ (by omega) (by omega) (by omega) (by omega)).trans h38) hT2 m1 m42 (k := k) (by rw [ect2]; exact q3) (by rw [ect2]; rw [ect] at g2; exact g2)
          rw [ect2] at e4 g4
          rw [e4, bind_some']
          have hR3 : ∀ c j, c ≠ 115 → c ≠ 122 → c ≠ 123 → c ≠ 124 → ¬ (c = 81 ∧ j = 60) → R3 c j = R c j := fun c j z1 z2 z3 z4 z5 => (g5 c j z4 z1).trans (hR2 c j z1 z2 z3 z5)
          have e5 := M_best_eq hb h38 hT eS q3 (M := R3) (fun c j hc => hR3 c j (by omega) (by omega) (by omega) (by omega) (by omega)) (fun j w hj hw => by rw [g4 j w hj (by rw [keep_nF hSR2]; exact hw), keep_isB hSR2, es2]) (r := r) (by omega)
          have e6 := W_fewest_eq ht hT1 hS1 hK (by rw [eS]; exact q3) (r := r) (by omega)
          rw [eS] at e6
          rw [e5, bind_some', e6, bind_some']
          refine ⟨_, _, _, rfl, rfl, Inv_q hC (fun c j hp => hR3 c j ?_ ?_ ?_ ?_ ?_) h0⟩
          · rintro rfl; simp [prR] at hp
          · rintro rfl; simp [prR] at hp
          · rintro rfl; simp [prR] at hp
          · rintro rfl; simp [prR] at hp
          · rintro ⟨rfl, rfl⟩; simp [prR] at hp
        · rw [if_pos (by omega), if_pos (by omega)]
          refine ⟨_, _, _, rfl, rfl, Inv_q hC (fun c j hp => hR2 c j ?_ ?_ ?_ ?_) h0⟩
          · rintro rfl; simp [prR] at hp
          · rintro rfl; simp [prR] at hp
          · rintro rfl; simp [prR] at hp
          · rintro ⟨rfl, rfl⟩; simp [prR] at hp
      · rw [if_pos (show ¬ (y : Int) = (x : Int) by omega), bind_some', if_pos rfl, if_neg q2, if_pos (by split <;> decide)]
        exact ⟨_, _, _, rfl, rfl, hI⟩
  · rw [if_neg q, if_neg nz0, bind_some', if_pos rfl]
    unfold M_sure
    rw [M_isRow_eq hb h38 hT.1 hr, bind_some', if_neg q, if_pos (show n32 0 = 0 by decide), bind_some']
    exact ⟨_, _, _, rfl, rfl, hI1⟩
