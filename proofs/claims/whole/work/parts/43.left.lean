/-! ===== left world sure judge truth ===== -/
theorem anyB_first {p : Nat → Bool} {n : Nat} (h : anyB p n = true) : ∃ i, i < n ∧ p i = true ∧ ∀ j, j < i → p j = false := by
  obtain ⟨i, ⟨h1, h2⟩, h3⟩ := pk_least (fun i => i < n ∧ p i = true) (anyB_iff.mp h)
  refine ⟨i, h1, h2, fun j hj => ?_⟩
  have := h3 j hj
  cases hp : p j with
  | false => rfl
  | true => exact absurd ⟨by omega, hp⟩ this
theorem it_seekS {α β : Type} {body : α → Option (α ⊕ (Unit ⊕ β))} (S : Nat → α) {p : Nat → Bool} {v : Nat → β} (n : Nat) (hn : n < FUEL) (h1 : ∀ i, i < n → (∀ j, j < i → p j = false) → p i = true → body (S i) = some (.inr (.inr (v i)))) (h2 : ∀ i, i < n → (∀ j, j < i → p j = false) → p i = false → body (S i) = some (.inl (S (i + 1)))) (h3 : (∀ j, j < n → p j = false) → body (S n) = some (.inr (.inl ()))) : (anyB p n = false → it body FUEL (S 0) = some (.inl ())) ∧ (anyB p n = true → ∃ i, i < n ∧ p i = true ∧ (∀ j, j < i → p j = false) ∧ it body FUEL (S 0) = some (.inr (v i))) := by
  constructor
  · intro h
    have h := anyB_no.mp h
    exact it_for S n hn rfl (fun i hi => h2 i hi (fun j hj => h j (by omega)) (h i hi)) (h3 h)
  · intro h
    obtain ⟨i, hi, hp, hj⟩ := anyB_first h
    exact ⟨i, hi, hp, hj, it_for S i (by omega) rfl (fun j hj' => h2 j (by omega) (fun l hl => hj l (by omega)) (hj j hj')) (h1 i hi hj hp)⟩
theorem allB_false {p : Nat → Bool} {i n : Nat} (h : i < n) (hp : p i = false) : allB p n = false := by
  cases q : allB p n with
  | false => rfl
  | true => rw [allB_iff.mp q i h] at hp; cases hp
section LEFT
variable {t b : Nat} {C R : Mem}
theorem M_canBe_eq (hb : b < 2) (h38 : R 81 38 = (b : Int)) (hT : Town t b C R) {m : Nat} (hm : m ≤ 40) (hS : SayR 42 116 117 118 119 120 121 0 m t b C R) {n w : Nat} (hn : n < m) (hw : w < 2 ^ nF R b) (hwb : isB R w = true) : ∃ R', M_canBe (n : Int) (w : Int) R = some (b1 (sB R b n w), R') ∧ ∀ c k, c ≠ 115 → R' c k = R c k := by
  obtain ⟨⟨-, s1, s2⟩, ⟨-, r1, r2⟩, ⟨-, y1⟩, -, -, a1, -⟩ := hS n hn
  rw [Nat.zero_add] at s1 s2 r1 r2 y1 a1
  have hR := num_R hT.1
  obtain ⟨R', e, hf⟩ := M_canSay_eq hb h38 hT (s := (R 116 n).toNat) (r := (R 117 n).toNat) (w := w) (by omega) (by omega) hw hwb a1 y1
  rw [Int.toNat_of_nonneg (by omega), Int.toNat_of_nonneg (by omega)] at e
  refine ⟨R', ?_, hf⟩
  unfold M_canBe
  rw [chk_pos (by omega), tn_nat, e, bind_some']
  dsimp only
  rw [chk_pos (b1_01 _)]
  rfl
theorem M_counts_eq {m : Nat} (hS : SayR 42 116 117 118 119 120 121 0 m t b C R) {M : Mem} (h118 : ∀ k, M 118 k = R 118 k) (h119 : ∀ k, M 119 k = R 119 k) {n : Nat} (hn : n < m) (hm : m ≤ 40) {k : Int} (hk : n32 k = k) : M_counts (n : Int) k M = some (b1 (ct R k n)) := by
  obtain ⟨-, -, -, ⟨k1, k2, k3⟩, ⟨k4, k5, k6⟩, -, -⟩ := hS n hn
  rw [Nat.zero_add] at k1 k2 k3 k4 k5 k6
  unfold M_counts
  rw [chk_pos (by omega), jn_eq, tn_nat, h118, h119, hk, n32_of (by omega) (by omega), n32_of (by omega) (by omega)]
  unfold ct
  by_cases q2 : R 118 n ≤ k
  · rw [if_pos q2, decide_eq_true q2]
    by_cases q : 0 ≤ R 119 n
    · rw [if_pos q, decide_eq_true q]
      by_cases q3 : k < R 119 n
      · rw [if_pos q3, decide_eq_false (show ¬ R 119 n ≤ k by omega)]; rfl
      · rw [if_neg q3, decide_eq_true (show R 119 n ≤ k by omega)]; rfl
    · rw [if_neg q, decide_eq_false q]; rfl
  · rw [if_neg q2, decide_eq_false q2]; rfl
theorem left_eq (hb : b < 2) (h38 : R 81 38 = (b : Int)) (hT : Town t b C R) (hS : Says t b C R) {k : Int} (hk : n32 k = k) : Z (M_findLeft k R) (fun R' => (∀ w, w < 2 ^ nF R b → R' 122 w = b1 (lfB R b k w)) ∧ R' 81 60 = ((cnt (lfB R b k) (2 ^ nF R b) : Nat) : Int) ∧ ∀ c j, ¬ (c = 115 ∨ c = 122 ∨ (c = 81 ∧ j = 60)) → R' c j = R c j) := by
  obtain ⟨m, m1, m2, m3, m4⟩ := hS
  have hT' := hT
  obtain ⟨h, hW, -, hTi, -, hB, -, hA, hLw⟩ := hT
  have hF := num_F h
  have h6 := two_pow8 hF.2.2
  have eS : nS R = m := by unfold nS; rw [m3]; rfl
  unfold M_findLeft
  rw [lt1_eq, Z_bind_iff]
  refine it_Z (fun i st => st.1 = (i : Int) ∧ (∀ w, w < i → st.2 122 w = b1 (lfB R b k w)) ∧ st.2 81 60 = ((cnt (lfB R b k) i : Nat) : Int) ∧ ∀ c j, ¬ (c = 115 ∨ c = 122 ∨ (c = 81 ∧ j = 60)) → st.2 c j = R c j) (2 ^ nF R b) (by unfold FUEL; omega) ⟨rfl, fun w hw => by omega, rfl, fun c j hc => by show up R 81 60 0 c j = _; rw [up_at, if_neg (by omega)]⟩ ?_ ?_
  · rintro i ⟨l, M⟩ hi ⟨e, g1, g2, gf⟩
    dsimp only at e g1 g2 gf
    subst e
    have hSR : SameR R M := SameR_of (fun c j q1 q2 q3 => gf c j (by omega))
    have h38M : M 81 38 = (b : Int) := (gf _ _ (by omega)).trans h38
    have hTM : Town t b C M := Town_keep hSR (fun _ _ _ _ => rfl) hT'
    unfold M_findLeft_b7
    dsimp only
    rw [M_worldMany_eq hb h38M hTM.1, bind_some', keep_nF hSR, n32_nat (by omega), n32_nat (by omega), if_pos (by omega), chk_pos (by omega), lt1_eq, tn_nat, gf 111 _ (by omega), Z_bind_iff]
    have hwb01 := hB.1 i (by omega)
    have hJ : Z (it (M_findLeft_b25 k (i : Int)) FUEL (R 111 i, 0, M)) (fun r => r.1 = b1 (lfB R b k i) ∧ ∀ c j, c ≠ 115 → r.2 c j = M c j) := by
      refine it_Z (fun n st => st.2.1 = (n : Int) ∧ st.1 = b1 (isB R i && allB (fun n => !ct R k n || sB R b n i) n) ∧ ∀ c j, c ≠ 115 → st.2.2 c j = M c j) m (by unfold FUEL; omega) ⟨rfl, ?_, fun _ _ _ => rfl⟩ ?_ ?_
      · unfold isB
        rcases hwb01 with e | e <;> rw [e] <;> rfl
      · rintro n ⟨l3, l4, M1⟩ hn ⟨e4, e3, ef⟩
        dsimp only at e4 e3 ef
        subst e4 e3
        unfold M_findLeft_b25
        dsimp only
        rw [ef 81 _ (by omega), gf 81 57 (by omega), m3, n32_nat (by omega), n32_nat (by omega), b1_n]
        cases hb0 : (isB R i && allB (fun n => !ct R k n || sB R b n i) n) with
        | false =>
          rw [if_neg (fun z => z.2 rfl)]
          refine Z_of (Or.inr ⟨_, rfl, ?_, ef⟩)
          dsimp only
          unfold lfB
          rw [eS]
          cases hi2 : isB R i with
          | false => rfl
          | true =>
            rw [hi2, Bool.true_and] at hb0
            have : ∃ j, j < n ∧ (!ct R k j || sB R b j i) = false := by
              cases hq : anyB (fun j => !(!ct R k j || sB R b j i)) n with
              | true =>
                obtain ⟨j, j1, j2⟩ := anyB_iff.mp hq
                exact ⟨j, j1, by simpa using j2⟩
              | false =>
                unfold allB at hb0
                rw [hq] at hb0
                cases hb0
            obtain ⟨j, j1, j2⟩ := this
            rw [allB_false (p := fun n => !ct R k n || sB R b n i) (i := j) (n := m) (by omega) j2]
            rfl
        | true =>
          rw [if_pos ⟨by omega, by decide⟩]
          rw [Bool.and_eq_true] at hb0
          have hSR1 : SameR R M1 := SameR_of (fun c j q1 q2 q3 => (ef c j (by omega)).trans (gf c j (by omega)))
          rw [M_counts_eq m4 (fun j => (ef _ _ (by omega)).trans (gf _ _ (by omega))) (fun j => (ef _ _ (by omega)).trans (gf _ _ (by omega))) hn m1 hk, bind_some', jn_eq]
          have fin : ∀ (x : Bool) (M2 : Mem), (!ct R k n || sB R b n i) = x → (∀ c j, c ≠ 115 → M2 c j = M c j) → Z ((some (b1 x, M2)).bind fun r => match r with | (v_27, M_28) => lt1 ((n : Int) + 1) fun l4_40 => some (Sum.inl (v_27, l4_40, M_28))) (fun r => (∃ a', r = Sum.inl a' ∧ a'.2.1 = ((n + 1 : Nat) : Int) ∧ a'.1 = b1 (isB R i && allB (fun n => !ct R k n || sB R b n i) (n + 1)) ∧ ∀ c j, c ≠ 115 → a'.2.2 c j = M c j) ∨ ∃ b_1 : Int × Mem, r = Sum.inr b_1 ∧ b_1.1 = b1 (lfB R b k i) ∧ ∀ c j, c ≠ 115 → b_1.2 c j = M c j) := by
            intro x M2 hx hM2
            refine Z_of (Or.inl ⟨_, rfl, rfl, ?_, hM2⟩)
            dsimp only
            rw [allB_succ, hb0.1, hb0.2, hx]
            rfl
          cases hc : ct R k n with
          | false =>
            rw [if_neg (by decide)]
            exact fin true M1 (by rw [hc]; rfl) ef
          | true =>
            rw [if_pos (by decide)]
            have hT1 : Town t b C M1 := Town_keep hSR1 (fun _ _ _ _ => rfl) hT'
            have m4' : SayR 42 116 117 118 119 120 121 0 m t b C M1 := SayR_keep hSR1 (fun _ _ _ _ => rfl) (fun j => (ef _ _ (by omega)).trans (gf _ _ (by omega))) (fun j => (ef _ _ (by omega)).trans (gf _ _ (by omega))) (fun j => (ef _ _ (by omega)).trans (gf _ _ (by omega))) (fun j => (ef _ _ (by omega)).trans (gf _ _ (by omega))) (fun j => (ef _ _ (by omega)).trans (gf _ _ (by omega))) (fun j => (ef _ _ (by omega)).trans (gf _ _ (by omega))) m4
            obtain ⟨M2, e2, f2⟩ := M_canBe_eq hb ((ef _ _ (by omega)).trans h38M) hT1 m1 m4' (n := n) (w := i) hn (by rw [keep_nF hSR1]; exact hi) (by rw [keep_isB hSR1]; exact hb0.1)
            have es : sB M1 b n i = sB R b n i := by
              unfold sB
              rw [keep_canS hSR1, ef 116 _ (by omega), ef 117 _ (by omega), ef 120 _ (by omega), ef 121 _ (by omega), gf 116 _ (by omega), gf 117 _ (by omega), gf 120 _ (by omega), gf 121 _ (by omega)]
            rw [e2, bind_some', es]
            dsimp only
            have f3 : ∀ c j, c ≠ 115 → M2 c j = M c j := fun c j q => (f2 c j q).trans (ef c j q)
            cases hs : sB R b n i with
            | false =>
              rw [if_neg (by decide)]
              exact fin false M2 (by rw [hc, hs]; rfl) f3
            | true =>
              rw [if_pos (by decide)]
              exact fin true M2 (by rw [hc, hs]; rfl) f3
      · rintro ⟨l3, l4, M1⟩ ⟨e4, e3, ef⟩
        dsimp only at e4 e3 ef
        subst e4 e3
        unfold M_findLeft_b25
        dsimp only
        rw [ef 81 _ (by omega), gf 81 57 (by omega), m3, if_neg (by omega)]
        refine Z_of ⟨_, rfl, ?_, ef⟩
        dsimp only
        unfold lfB
        rw [eS]
    refine Z_mono hJ ?_
    rintro ⟨x, M1⟩ ⟨e1, ef⟩
    dsimp only at e1 ef
    subst e1
    dsimp only
    rw [chk_pos (b1_01 _), lt1_eq]
    have hv : (if ¬ n32 (b1 (lfB R b k i)) = 0 then some (1 : Int) else some 0) = some (b1 (lfB R b k i)) := by cases lfB R b k i <;> rfl
    rw [hv, bind_some', lt1_eq, lt1_eq, up_c (by omega), ef 81 _ (by omega), g2]
    refine Z_of (Or.inl ⟨_, rfl, rfl, fun w hw => ?_, ?_, fun c j hc => ?_⟩)
    · dsimp only
      rw [up_c (by omega)]
      by_cases q : w = i
      · subst q; exact up_eq
      · rw [up_k q, ef 122 _ (by omega)]
        exact g1 w (by omega)
    · dsimp only
      rw [up_eq]
      show _ = ((cnt (lfB R b k) i + (if lfB R b k i = true then 1 else 0) : Nat) : Int)
      cases lfB R b k i <;> rfl
    · dsimp only
      rw [up_at, if_neg (by omega), up_c (by omega), ef _ _ (by omega)]
      exact gf c j hc
  · rintro ⟨l, M⟩ ⟨e, g1, g2, gf⟩
    dsimp only at e g1 g2 gf
    subst e
    have hSR : SameR R M := SameR_of (fun c j q1 q2 q3 => gf c j (by omega))
    have hTM : Town t b C M := Town_keep hSR (fun _ _ _ _ => rfl) hT'
    unfold M_findLeft_b7
    dsimp only
    rw [M_worldMany_eq hb ((gf _ _ (by omega)).trans h38) hTM.1, bind_some', keep_nF hSR, if_neg (by omega)]
    exact Z_of ⟨_, rfl, Z_of ⟨g1, g2, gf⟩⟩
end LEFT
