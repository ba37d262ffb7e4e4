/-! ===== who may lie, what can be said ===== -/
theorem popc_eq_s {s : Nat} (h : s < 2147483648) (M : Mem) : M_bitsOf (s : Int) M = some ((popc s : Nat) : Int) := by
  have L := it_for (body := M_bitsOf_b4 (s : Int)) (a := (0, 0)) (b := ((popc s : Nat) : Int)) (fun i => (((cnt s.testBit i : Nat) : Int), (i : Int))) 31 (by unfold FUEL; omega) rfl ?_ ?_
  · unfold M_bitsOf
    rw [L]; rfl
  · intro i hi
    unfold M_bitsOf_b4
    dsimp only
    rw [n32_nat (by omega), if_pos (by omega), hb_eq h (by omega), lt1_eq, lt1_eq]
    show _ = some (Sum.inl (((cnt s.testBit i + (if s.testBit i = true then 1 else 0) : Nat) : Int), _))
    cases s.testBit i <;> rfl
  · unfold M_bitsOf_b4
    dsimp only
    rw [if_neg (by decide)]
    rfl
theorem popc_le (s : Nat) : popc s ≤ 31 := cnt_le _ _
theorem popc_8 {s : Nat} (h : s < 256) : popc s ≤ 8 := by
  unfold popc
  rw [cnt_cut (m := 8) (n := 31) (by omega) (fun i h1 h2 => testBit_lt8 (n := 8) h h1)]
  exact cnt_le _ _
theorem popc_pos {s : Nat} (h : s < 256) (h0 : 0 < s) : 1 ≤ popc s := by
  rcases Nat.eq_zero_or_pos (popc s) with e | e
  · exfalso
    have hz := cnt_zero e
    have : s = 0 := by
      apply Nat.eq_of_testBit_eq
      intro i
      rw [Nat.zero_testBit]
      by_cases hi : i < 31
      · exact hz i hi
      · exact testBit_lt8 (n := 8) h (by omega)
    omega
  · exact e
theorem b1_n (x : Bool) : n32 (b1 x) = b1 x := by cases x <;> decide
theorem b1_z (x : Bool) : (n32 (b1 x) = 0) ↔ x = false := by cases x <;> decide
theorem b1_01 (x : Bool) : b1 x = 0 ∨ b1 x = 1 := by cases x <;> decide
theorem b1_if {p : Prop} [Decidable p] : (if p then (1 : Int) else 0) = b1 (decide p) := by
  unfold b1
  by_cases h : p
  · rw [if_pos h, if_pos (decide_eq_true h)]
  · rw [if_neg h, if_neg (by simpa using h)]
theorem it_seek {β : Type} {body : Int → Option (Int ⊕ (Unit ⊕ β))} {p : Nat → Bool} {v : Nat → β} (lo n : Nat) (h1 : ∀ i : Nat, lo ≤ i → i < n → p i = true → body (i : Int) = some (.inr (.inr (v i)))) (h2 : ∀ i : Nat, lo ≤ i → i < n → p i = false → body (i : Int) = some (.inl ((i : Int) + 1))) (h3 : body (n : Int) = some (.inr (.inl ()))) : ∀ (d k f : Nat), lo ≤ k → k + d = n → d < f → (anyB (fun i => p (k + i)) d = false → it body f (k : Int) = some (.inl ())) ∧ (anyB (fun i => p (k + i)) d = true → ∃ i, k ≤ i ∧ i < n ∧ p i = true ∧ (∀ j, k ≤ j → j < i → p j = false) ∧ it body f (k : Int) = some (.inr (v i)))
  | 0, k, f, hl, hk, hf => by
    obtain ⟨f, rfl⟩ : ∃ g, f = g + 1 := ⟨f - 1, by omega⟩
    refine ⟨fun _ => ?_, fun h => by simp [anyB] at h⟩
    have : k = n := by omega
    subst this
    exact it_last h3
  | d + 1, k, f, hl, hk, hf => by
    obtain ⟨f, rfl⟩ : ∃ g, f = g + 1 := ⟨f - 1, by omega⟩
    have ih := it_seek lo n h1 h2 h3 d (k + 1) f (by omega) (by omega) (by omega)
    rw [show ((k + 1 : Nat) : Int) = (k : Int) + 1 from rfl] at ih
    cases hp : p k with
    | true =>
      refine ⟨fun h => ?_, fun _ => ⟨k, by omega, by omega, hp, fun j h1 h2 => by omega, it_last (h1 k hl (by omega) hp)⟩⟩
      have := anyB_no.mp h 0 (by omega)
      rw [Nat.add_zero, hp] at this
      cases this
    | false =>
      rw [it_step (h2 k hl (by omega) hp)]
      constructor
      · intro h
        refine ih.1 (anyB_no.mpr fun i hi => ?_)
        have := anyB_no.mp h (i + 1) (by omega)
        rw [← this]
        congr 1
        omega
      · intro h
        obtain ⟨i, hi, hpi⟩ := anyB_iff.mp h
        have hi0 : i ≠ 0 := by
          intro e
          subst e
          rw [Nat.add_zero, hp] at hpi
          cases hpi
        obtain ⟨i2, q1, q2, q3, q4, q5⟩ := ih.2 (anyB_iff.mpr ⟨i - 1, by omega, by rw [← hpi]; congr 1; omega⟩)
        refine ⟨i2, by omega, q2, q3, fun j j1 j2 => ?_, q5⟩
        by_cases e : j = k
        · subst e; exact hp
        · exact q4 j (by omega) j2
/-- a search from the first one on -/
theorem it_find {β : Type} {body : Int → Option (Int ⊕ (Unit ⊕ β))} {p : Nat → Bool} {v : Nat → β} (n : Nat) (hn : n < FUEL) (h1 : ∀ i : Nat, i < n → p i = true → body (i : Int) = some (.inr (.inr (v i)))) (h2 : ∀ i : Nat, i < n → p i = false → body (i : Int) = some (.inl ((i : Int) + 1))) (h3 : body (n : Int) = some (.inr (.inl ()))) : (anyB p n = false → it body FUEL 0 = some (.inl ())) ∧ (anyB p n = true → ∃ i, i < n ∧ p i = true ∧ (∀ j, j < i → p j = false) ∧ it body FUEL 0 = some (.inr (v i))) := by
  have h := it_seek 0 n (fun i _ => h1 i) (fun i _ => h2 i) h3 n 0 FUEL (by omega) (by omega) hn
  simp only [Nat.zero_add] at h
  refine ⟨h.1, fun e => ?_⟩
  obtain ⟨i, q1, q2, q3, q4, q5⟩ := h.2 e
  exact ⟨i, q2, q3, fun j hj => q4 j (by omega) hj, q5⟩
section LAW
variable {t b : Nat} {C R : Mem}
theorem and_tb (s i j : Nat) : ((s >>> i) &&& (s >>> j)) &&& 1 = if s.testBit i && s.testBit j then 1 else 0 := by
  have h := tb_shr ((s >>> i) &&& (s >>> j)) 0
  rw [Nat.shiftRight_zero] at h
  rw [h, Nat.testBit_and, Nat.testBit_shiftRight, Nat.testBit_shiftRight, Nat.add_zero, Nat.add_zero]
theorem M_tiedIn_eq (hb : b < 2) (h38 : R 81 38 = (b : Int)) (h : NumR t b C R) (hT : TieR t b C R) {s : Nat} (hs : s < 256) : M_tiedIn (s : Int) R = some (b1 (tiedI R b s)) := by
  have h1 := num_T h
  have h2 := num_P h
  have S := it_seek (body := M_tiedIn_b8 (s : Int) R) (p := fun i => s.testBit (tOne R b (i - 12 * b)) && s.testBit (tTwo R b (i - 12 * b))) (v := fun _ => 1) (12 * b) (12 * b + nT R b) ?_ ?_ ?_ (nT R b) (12 * b) FUEL (Nat.le_refl _) rfl (by unfold FUEL; omega)
  · unfold M_tiedIn
    rw [h38, lt1_eq, show 12 * (b : Int) = ((12 * b : Nat) : Int) from by omega]
    have e : anyB (fun i => s.testBit (tOne R b (12 * b + i - 12 * b)) && s.testBit (tTwo R b (12 * b + i - 12 * b))) (nT R b) = tiedI R b s := by
      unfold tiedI
      refine anyB_congr (fun i hi => ?_)
      rw [show 12 * b + i - 12 * b = i from by omega]
    rw [e] at S
    cases ht : tiedI R b s with
    | false => rw [S.1 ht]; rfl
    | true =>
      obtain ⟨i, -, -, -, -, q⟩ := S.2 ht
      rw [q]; rfl
  · intro i hb2 hi hp
    obtain ⟨j, rfl⟩ := Nat.exists_eq_add_of_le hb2
    obtain ⟨-, ⟨k1, k2⟩, ⟨k3, k4⟩, -⟩ := hT.1 j (by omega)
    unfold M_tiedIn_b8
    rw [h38, chk_pos (by omega), tn_nat, h1.1, n32_nat (by omega), n32_of (by omega) (by omega), if_pos (by omega), chk_pos (by omega), tn_nat]
    rw [show 12 * b + j - 12 * b = j from by omega] at hp
    rw [show R 98 (12 * b + j) = (tOne R b j : Int) from by unfold tOne; omega, show R 99 (12 * b + j) = (tTwo R b j : Int) from by unfold tTwo; omega, ishr_nat (by omega) (by omega), ishr_nat (by omega) (by omega), iand_nat (Nat.lt_of_le_of_lt (Nat.shiftRight_le _ _) (by omega)) (Nat.lt_of_le_of_lt (Nat.shiftRight_le _ _) (by omega))]
    have e := iand_nat (a := (s >>> tOne R b j) &&& (s >>> tTwo R b j)) (b := 1) (Nat.lt_of_le_of_lt Nat.and_le_left (Nat.lt_of_le_of_lt (Nat.shiftRight_le _ _) (by omega))) (by omega)
    rw [show ((1 : Nat) : Int) = 1 from rfl, and_tb, hp] at e
    rw [e]
    rfl
  · intro i hb2 hi hp
    obtain ⟨j, rfl⟩ := Nat.exists_eq_add_of_le hb2
    obtain ⟨-, ⟨k1, k2⟩, ⟨k3, k4⟩, -⟩ := hT.1 j (by omega)
    unfold M_tiedIn_b8
    rw [h38, chk_pos (by omega), tn_nat, h1.1, n32_nat (by omega), n32_of (by omega) (by omega), if_pos (by omega), chk_pos (by omega), tn_nat]
    rw [show 12 * b + j - 12 * b = j from by omega] at hp
    rw [show R 98 (12 * b + j) = (tOne R b j : Int) from by unfold tOne; omega, show R 99 (12 * b + j) = (tTwo R b j : Int) from by unfold tTwo; omega, ishr_nat (by omega) (by omega), ishr_nat (by omega) (by omega), iand_nat (Nat.lt_of_le_of_lt (Nat.shiftRight_le _ _) (by omega)) (Nat.lt_of_le_of_lt (Nat.shiftRight_le _ _) (by omega))]
    have e := iand_nat (a := (s >>> tOne R b j) &&& (s >>> tTwo R b j)) (b := 1) (Nat.lt_of_le_of_lt Nat.and_le_left (Nat.lt_of_le_of_lt (Nat.shiftRight_le _ _) (by omega))) (by omega)
    rw [show ((1 : Nat) : Int) = 1 from rfl, and_tb, hp] at e
    rw [e]
    rfl
  · unfold M_tiedIn_b8
    rw [h38, chk_pos (by omega), tn_nat, h1.1, n32_nat (by omega), n32_of (by omega) (by omega), if_neg (by omega)]
/-! the law's pile -/
def rdS (f : Nat → Int) : Nat → List Int
  | 0 => []
  | n + 1 => f n :: rdS f n
theorem rdS_congr {f g : Nat → Int} : ∀ {n : Nat}, (∀ i, i < n → f i = g i) → rdS f n = rdS g n
  | 0, _ => rfl
  | n + 1, h => by
    show f n :: rdS f n = g n :: rdS g n
    rw [h n (by omega), rdS_congr (fun i hi => h i (by omega))]
theorem lH_pre {f : Nat → Int} {lo : Nat} : ∀ (d k : Nat) {x : Nat}, lH f lo (k + d) = some x → ∃ h, lH f lo k = some h
  | 0, _, x, h => ⟨x, h⟩
  | d + 1, k, x, h => by
    have h : (lH f lo (k + d)).bind _ = some x := h
    obtain ⟨y, hy, -⟩ := Option.bind_eq_some_iff.mp h
    exact lH_pre d k hy
theorem lH_le {f : Nat → Int} {lo : Nat} : ∀ (k : Nat) {x : Nat}, lH f lo k = some x → x ≤ 25
  | 0, x, h => by
    have : 0 = x := Option.some.inj h
    omega
  | k + 1, x, h => by
    have h : (lH f lo k).bind _ = some x := h
    obtain ⟨y, hy, hz⟩ := Option.bind_eq_some_iff.mp h
    have := lH_le k hy
    split at hz
    · split at hz
      · have := Option.some.inj hz; omega
      · cases hz
    · split at hz
      · have := Option.some.inj hz; omega
      · cases hz
theorem M_two_eq (c x y : Int) (hc : n32 c = c) (M : Mem) : M_two c x y M = some (lTwo c x y) := by
  unfold M_two lTwo
  rw [hc]
  repeat' first
    | rfl
    | split
theorem M_mayLie_run (hb : b < 2) (h38 : R 81 38 = (b : Int)) (h : NumR t b C R) (hT : TieR t b C R) (hL : LawOK R b) (h91 : R 91 b = 1) {s : Nat} (hs : s < 256) {ap su : Int} (hap : ap = 0 ∨ ap = 1) (hsu : su = 0 ∨ su = 1) : Z (it (M_mayLie_b50 (s : Int) ap su (17 * (b : Int) + 16)) FUEL (0, R 104 (17 * b + 16), R)) (fun M' => rdS (M' 115) 1 = lRun (R 106) (R 107) (lawLo R b) (popc s) ap (b1 (tiedI R b s)) (1 - su) (lawLen R b) ∧ ∀ c k, c ≠ 115 → M' c k = R c k) := by
  obtain ⟨-, hl⟩ := hL
  obtain ⟨l1, l2, l3, l4, l5⟩ := hl h91
  have elo : R 104 (17 * b + 16) = (lawLo R b : Int) := by unfold lawLo; omega
  have ehi : R 105 (17 * b + 16) = ((lawLo R b + lawLen R b : Nat) : Int) := by unfold lawLen lawLo; omega
  have hu : Int.toNat (17 * (b : Int) + 16) = 17 * b + 16 := by omega
  rw [elo]
  refine it_Z (fun k st => st.2.1 = ((lawLo R b + k : Nat) : Int) ∧ ∃ n, lH (R 106) (lawLo R b) k = some n ∧ st.1 = (n : Int) ∧ rdS (st.2.2 115) n = lRun (R 106) (R 107) (lawLo R b) (popc s) ap (b1 (tiedI R b s)) (1 - su) k ∧ ∀ c k, c ≠ 115 → st.2.2 c k = R c k) (lawLen R b) (by unfold FUEL; omega) ⟨rfl, 0, rfl, rfl, rfl, fun _ _ _ => rfl⟩ ?_ ?_
  · rintro k ⟨j5, j6, M'⟩ hk ⟨e6, n, en, e5, es, ef⟩
    dsimp only at e6 e5 es ef
    subst e6 e5
    have hn := lH_le k en
    obtain ⟨n2, en2⟩ := lH_pre (lawLen R b - (k + 1)) (k + 1) (x := 1) (by rw [show k + 1 + (lawLen R b - (k + 1)) = lawLen R b from by omega]; exact l4)
    have en3 : (lH (R 106) (lawLo R b) k).bind _ = some n2 := en2
    rw [en, bind_some'] at en3
    have h106 : n32 (R 106 (lawLo R b + k)) = R 106 (lawLo R b + k) := by have := l5 k hk; exact n32_of (by omega) (by omega)
    unfold M_mayLie_b50
    dsimp only
    rw [hu, ef 105 _ (by omega), ehi, n32_nat (by omega), n32_nat (by omega), if_pos (by omega), chk_pos (by omega), tn_nat, ef 106 _ (by omega), M_isIn_eq _ _ _ _ h106 rfl rfl, bind_some']
    have hstep : lRun (R 106) (R 107) (lawLo R b) (popc s) ap (b1 (tiedI R b s)) (1 - su) (k + 1) = lStep (R 106 (lawLo R b + k)) (R 107 (lawLo R b + k)) (popc s) ap (b1 (tiedI R b s)) (1 - su) (rdS (M' 115) n) := by rw [es]; rfl
    by_cases hp : 11 ≤ R 106 (lawLo R b + k) ∧ R 106 (lawLo R b + k) ≤ 15
    · have hp2 : lPush (R 106 (lawLo R b + k)) = true := decide_eq_true hp
      rw [if_pos hp2] at en3
      rw [if_pos hp, if_pos nz1]
      have hn25 : n < 25 := by
        by_cases q : n < 25
        · exact q
        · rw [if_neg q] at en3; cases en3
      rw [if_pos hn25] at en3
      have hpart : M_partOf ((lawLo R b + k : Nat) : Int) (s : Int) ap su M' = some (lVal (R 106 (lawLo R b + k)) (R 107 (lawLo R b + k)) (popc s) ap (b1 (tiedI R b s)) (1 - su)) := by
        unfold M_partOf lVal
        have hN' : NumR t b C M' := by
          obtain ⟨q1, q2, q3, q4, q5, q6⟩ := h
          unfold NumR
          rw [ef 84 _ (by omega), ef 85 _ (by omega), ef 86 _ (by omega), ef 88 _ (by omega), ef 89 _ (by omega), ef 90 _ (by omega)]
          exact ⟨q1, q2, q3, q4, q5, q6⟩
        have f98 : M' 98 = R 98 := by funext z; exact ef 98 z (by omega)
        have f99 : M' 99 = R 99 := by funext z; exact ef 99 z (by omega)
        have f88 : M' 88 = R 88 := by funext z; exact ef 88 z (by omega)
        have f85 : M' 85 = R 85 := by funext z; exact ef 85 z (by omega)
        have f100 : M' 100 = R 100 := by funext z; exact ef 100 z (by omega)
        have hT' : TieR t b C M' := by
          unfold TieR tOne tTwo nT nP
          rw [f98, f99, f88, f85, f100]
          exact hT
        have hti : tiedI M' b s = tiedI R b s := by
          unfold tiedI tOne tTwo nT
          rw [f98, f99, f88]
        rw [chk_pos (by omega), tn_nat, ef 106 _ (by omega), ef 107 _ (by omega), h106, popc_eq_s (by omega), M_tiedIn_eq hb (by rw [ef 81 _ (by omega)]; exact h38) hN' hT' hs, hti]
        by_cases c1 : R 106 (lawLo R b + k) = 11
        · rw [if_pos c1, if_pos c1]
        · rw [if_neg c1, if_neg c1]
          by_cases c2 : R 106 (lawLo R b + k) = 12
          · rw [if_pos c2, if_pos c2]; rfl
          · rw [if_neg c2, if_neg c2]
            by_cases c3 : R 106 (lawLo R b + k) = 13
            · rw [if_pos c3, if_pos c3]
              rcases hap with e | e <;> rw [e] <;> rfl
            · rw [if_neg c3, if_neg c3]
              by_cases c4 : R 106 (lawLo R b + k) = 14
              · rw [if_pos c4, if_pos c4]; rfl
              · rw [if_neg c4, if_neg c4]
                rcases hsu with e | e <;> rw [e] <;> rfl
      rw [hpart, bind_some', chk_pos (by omega), lt1_eq, lt1_eq, bind_some', lt1_eq, tn_nat]
      refine Z_of (Or.inl ⟨_, rfl, by dsimp only; omega, n + 1, ?_, by dsimp only; omega, ?_, ?_⟩)
      · show (lH (R 106) (lawLo R b) k).bind _ = _
        rw [en, bind_some', if_pos hp2, if_pos hn25]
      · rw [hstep]
        unfold lStep
        rw [if_pos hp2]
        show up M' 115 n _ 115 n :: rdS (up M' 115 n _ 115) n = _
        rw [up_eq, rdS_congr (fun i hi => up_k (by omega))]
      · intro c k hc
        show up M' 115 n _ c k = _
        rw [up_c hc]
        exact ef c k hc
    · have hp2 : ¬ lPush (R 106 (lawLo R b + k)) = true := by unfold lPush; simpa using hp
      rw [if_neg hp2] at en3
      rw [if_neg hp, if_neg nz0]
      have hn2 : 2 ≤ n := by
        by_cases q : 2 ≤ n
        · exact q
        · rw [if_neg q] at en3; cases en3
      rw [if_pos hn2] at en3
      obtain ⟨m, rfl⟩ : ∃ m, n = m + 2 := ⟨n - 2, by omega⟩
      rw [lt1_eq, chk_pos (by omega), chk_pos (by omega), show Int.toNat (((m + 2 : Nat) : Int) + -1 - 1) = m from by omega, show Int.toNat (((m + 2 : Nat) : Int) + -1) = m + 1 from by omega, M_two_eq _ _ _ h106, bind_some', lt1_eq, bind_some', lt1_eq]
      refine Z_of (Or.inl ⟨_, rfl, by dsimp only; omega, m + 1, ?_, by dsimp only; omega, ?_, ?_⟩)
      · show (lH (R 106) (lawLo R b) k).bind _ = _
        rw [en, bind_some', if_neg hp2, if_pos hn2]
        rfl
      · rw [hstep]
        unfold lStep
        rw [if_neg hp2]
        show up M' 115 m _ 115 m :: rdS (up M' 115 m _ 115) m = _
        rw [up_eq, rdS_congr (fun i hi => up_k (by omega))]
        rfl
      · intro c k hc
        show up M' 115 m _ c k = _
        rw [up_c hc]
        exact ef c k hc
  · rintro ⟨j5, j6, M'⟩ ⟨e6, n, en, e5, es, ef⟩
    dsimp only at e6 e5 es ef
    subst e6 e5
    have : n = 1 := by rw [en] at l4; exact Option.some.inj l4
    subst this
    unfold M_mayLie_b50
    dsimp only
    rw [hu, ef 105 _ (by omega), ehi, n32_nat (by omega), if_neg (by omega)]
    exact Z_of ⟨_, rfl, es, ef⟩
theorem M_mayLie_eq (hb : b < 2) (h38 : R 81 38 = (b : Int)) (h : NumR t b C R) (hT : TieR t b C R) (hL : LawOK R b) {s : Nat} (hs : s < 256) {ap su : Int} (hap : ap = 0 ∨ ap = 1) (hsu : su = 0 ∨ su = 1) : ∃ R', M_mayLie (s : Int) ap su R = some (b1 (lawB R b (popc s) ap (b1 (tiedI R b s)) (1 - su)), R') := by
  unfold M_mayLie lawB
  rw [h38, chk_pos (by omega), tn_nat]
  rcases hL.1 with e | e
  · rw [e, if_pos (by decide), if_pos rfl, popc_eq_s (by omega), bind_some', n32_nat (by have := popc_le s; omega)]
    by_cases q : 1 < (popc s : Int)
    · rw [if_pos q, decide_eq_true q]
      exact ⟨_, rfl⟩
    · rw [if_neg q, decide_eq_false q]
      exact ⟨_, rfl⟩
  · obtain ⟨M', e1, e2, e3⟩ := M_mayLie_run hb h38 h hT hL e hs hap hsu
    rw [e, if_neg nz1, if_neg (by decide), lt1_eq, chk_pos (by omega), lt1_eq, show Int.toNat (17 * (b : Int) + 16) = 17 * b + 16 from by omega, e1, bind_some', ← e2]
    show ∃ R', (if ¬ n32 (M' 115 0) = 0 then _ else _) = some (b1 (!decide (n32 (M' 115 0) = 0)), R')
    by_cases q : n32 (M' 115 0) = 0
    · rw [if_neg (not_not_intro q), decide_eq_true q]
      exact ⟨_, rfl⟩
    · rw [if_pos q, decide_eq_false q]
      exact ⟨_, rfl⟩
/-! the class's law, a bit for each way -/
theorem ior_b1 (x y : Bool) : ior' (b1 x) (b1 y) = b1 (x || y) := by cases x <;> cases y <;> decide
theorem T_way_all : ((List.range 9).all fun v => (List.range 2).all fun ap => (List.range 2).all fun ti => (List.range 2).all fun th => v == 0 || decide (T_way (v : Int) (ap : Int) (ti : Int) (th : Int) (fun _ _ => 0) = some ((8 * (v - 1) + 4 * ap + 2 * ti + th : Nat) : Int))) = true := by decide +kernel
theorem T_way_eq {v ap ti th : Nat} (h1 : v < 9) (h2 : ap < 2) (h3 : ti < 2) (h4 : th < 2) (h5 : 1 ≤ v) (M : Mem) : T_way (v : Int) (ap : Int) (ti : Int) (th : Int) M = some ((8 * (v - 1) + 4 * ap + 2 * ti + th : Nat) : Int) := by
  have h := List.all_eq_true.mp T_way_all v (List.mem_range.mpr h1)
  have h := List.all_eq_true.mp h ap (List.mem_range.mpr h2)
  have h := List.all_eq_true.mp h ti (List.mem_range.mpr h3)
  have h := List.all_eq_true.mp h th (List.mem_range.mpr h4)
  rw [Bool.or_eq_true] at h
  rcases h with h | h
  · have : v = 0 := by simpa using h
    omega
  · exact of_decide_eq_true h
theorem tied_eq (h : NumR t b C R) (hT : TieR t b C R) {s : Nat} (hs : s < 2 ^ nP R b) : anyB (fun p => s.testBit p && !decide (s &&& (C (t + 3) p).toNat = 0)) (nP R b) = tiedI R b s := by
  obtain ⟨h1, -, h3⟩ := hT
  apply bool_iff
  unfold tiedI
  rw [anyB_iff, anyB_iff]
  constructor
  · rintro ⟨p, hp, h⟩
    rw [Bool.and_eq_true] at h
    obtain ⟨q1, q2⟩ := h
    have q2 : ¬ (s &&& (C (t + 3) p).toNat = 0) := by simpa using q2
    obtain ⟨q, hq⟩ : ∃ q, (s &&& (C (t + 3) p).toNat).testBit q = true := by
      cases hh : anyB (fun q => (s &&& (C (t + 3) p).toNat).testBit q) 8 with
      | true =>
        obtain ⟨q, -, hq⟩ := anyB_iff.mp hh
        exact ⟨q, hq⟩
      | false =>
        exfalso
        apply q2
        apply Nat.eq_of_testBit_eq
        intro i
        rw [Nat.zero_testBit]
        by_cases hi : i < 8
        · exact anyB_no.mp hh i hi
        · rw [Nat.testBit_and, testBit_lt8 hs (by have := (num_P h).2.2; omega), Bool.false_and]
    rw [Nat.testBit_and, Bool.and_eq_true, (h3 p hp).2 q, anyB_iff] at hq
    obtain ⟨q3, i, hi, q4⟩ := hq
    refine ⟨i, hi, ?_⟩
    simp only [Bool.or_eq_true, Bool.and_eq_true, decide_eq_true_eq] at q4 ⊢
    rcases q4 with ⟨e1, e2⟩ | ⟨e1, e2⟩
    · rw [e1, e2]; exact ⟨q1, q3⟩
    · rw [e1, e2]; exact ⟨q3, q1⟩
  · rintro ⟨i, hi, q⟩
    rw [Bool.and_eq_true] at q
    obtain ⟨-, ⟨-, k1⟩, ⟨-, k2⟩, -⟩ := h1 i hi
    refine ⟨tOne R b i, k1, ?_⟩
    rw [Bool.and_eq_true]
    refine ⟨q.1, ?_⟩
    rw [Bool.not_eq_true', decide_eq_false_iff_not]
    intro e
    have e2 : (s &&& (C (t + 3) (tOne R b i)).toNat).testBit (tTwo R b i) = (0 : Nat).testBit (tTwo R b i) := by rw [e]
    rw [Nat.testBit_and, q.2, Nat.zero_testBit, (h3 _ k1).2 _, Bool.true_and] at e2
    have := anyB_no.mp e2 i hi
    simp at this
theorem T_mayLie_eq (h : NumR t b C R) (hT : TieR t b C R) (hL : LawR t b C R) {s : Nat} (hs : s < 2 ^ nP R b) (h0 : 0 < s) {ap su : Int} (hap : ap = 0 ∨ ap = 1) (hsu : su = 0 ∨ su = 1) : T_mayLie t (s : Int) ap su C = some (b1 (lawB R b (popc s) ap (b1 (tiedI R b s)) (1 - su))) := by
  have h1 := num_P h
  have h2 := two_pow8 h1.2.2
  have hs8 : s < 256 := by omega
  have L := it_for (body := T_mayLie_b6 t (s : Int) C) (a := (0, 0)) (b := b1 (tiedI R b s)) (fun i => (b1 (anyB (fun p => s.testBit p && !decide (s &&& (C (t + 3) p).toNat = 0)) i), (i : Int))) (nP R b) (by unfold FUEL; omega) rfl ?_ ?_
  · unfold T_mayLie
    rw [L, bind_some', JI_bit (by omega), bind_some']
    have hth : (if n32 su = 0 then some (1 : Int) else some 0) = some (1 - su) := by rcases hsu with e | e <;> rw [e] <;> rfl
    rw [hth, bind_some']
    obtain ⟨a, ha, rfl⟩ : ∃ a : Nat, a < 2 ∧ ap = (a : Int) := ⟨ap.toNat, by omega, by omega⟩
    obtain ⟨th, hth2, e⟩ : ∃ a : Nat, a < 2 ∧ 1 - su = (a : Int) := ⟨(1 - su).toNat, by omega, by omega⟩
    obtain ⟨ti, hti, e2⟩ : ∃ a : Nat, a < 2 ∧ b1 (tiedI R b s) = (a : Int) := by
      cases tiedI R b s
      · exact ⟨0, by omega, rfl⟩
      · exact ⟨1, by omega, rfl⟩
    have hv := popc_8 hs8
    have hv1 := popc_pos hs8 h0
    rw [e, e2]
    have hw := T_way_eq (v := popc s) (by omega) ha hti hth2 hv1 C
    have hpp : popc s ≤ nP R b := by
      unfold popc
      rw [cnt_cut (m := nP R b) (n := 31) (by omega) (fun i h1 h2 => testBit_lt8 hs h1)]
      exact cnt_le _ _
    rw [show T_way ((cnt s.testBit 31 : Nat) : Int) (a : Int) (ti : Int) (th : Int) C = some ((8 * (popc s - 1) + 4 * a + 2 * ti + th : Nat) : Int) from hw, bind_some']
    have hq := hL.2 (popc s - 1) a ti th (by omega) ha hti hth2
    rw [show ((popc s - 1 : Nat) : Int) + 1 = (popc s : Int) from by omega] at hq
    rw [← hq]
    have hb := bit_test (C t 7) (k := 8 * (popc s - 1) + 4 * a + 2 * ti + th) (by omega)
    by_cases q : qb (C t 7) (8 * (popc s - 1) + 4 * a + 2 * ti + th) = true
    · rw [if_pos (fun e => by rw [hb.mp e] at q; cases q), q]; rfl
    · rw [if_neg (not_not_intro (hb.mpr (by simpa using q)))]
      have : qb (C t 7) (8 * (popc s - 1) + 4 * a + 2 * ti + th) = false := by simpa using q
      rw [this]; rfl
  · intro i hi
    have k := hT.2.2 i hi
    unfold T_mayLie_b6
    dsimp only
    rw [h1.2.1, n32_nat (by omega), n32_nat (by omega), if_pos (by omega), X_hasBit_eq (by omega) (by omega), bind_some', tn_nat]
    rw [show C (t + 3) i = ((C (t + 3) i).toNat : Int) from by omega, iand_nat (by omega) (by omega)]
    show _ = some (Sum.inl (b1 (anyB _ i || (s.testBit i && !decide (s &&& (C (t + 3) i).toNat = 0))), _))
    rw [← ior_b1]
    have hlt : s &&& (C (t + 3) i).toNat < 2147483648 := Nat.lt_of_le_of_lt Nat.and_le_left (by omega)
    cases s.testBit i with
    | false => rfl
    | true =>
      rw [if_pos rfl, if_pos nz1, chk_pos (by omega), n32_nat hlt]
      by_cases q : s &&& (C (t + 3) i).toNat = 0
      · rw [q]; rfl
      · rw [if_pos (by omega), decide_eq_false q]; rfl
  · unfold T_mayLie_b6
    dsimp only
    rw [h1.2.1, if_neg (by omega), tied_eq h hT hs]
end LAW
