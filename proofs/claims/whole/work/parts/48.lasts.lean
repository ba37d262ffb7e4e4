/-! ===== operations: lasts with ===== -/
/-- how many others do not hold that it is not so -/
def flN (R : Mem) (b a c r w : Nat) : Nat := cnt (fun p => !decide (p = a) && !decide (p = c) && !decide (ansV R p r w = 0)) (nP R b)
def mtB (R : Mem) (b p q i : Nat) : Bool := (decide (tOne R b i = p) && decide (tTwo R b i = q)) || (decide (tOne R b i = q) && decide (tTwo R b i = p))
/-- the first of n for which p holds -/
def fsti (p : Nat → Bool) : Nat → Nat
  | 0 => 0
  | n + 1 => if anyB p n = true then fsti p n else n
theorem fsti_spec {p : Nat → Bool} : ∀ {n : Nat}, anyB p n = true → fsti p n < n ∧ p (fsti p n) = true ∧ ∀ j, j < fsti p n → p j = false
  | 0, h => by simp [anyB] at h
  | n + 1, h => by
    unfold fsti
    by_cases q : anyB p n = true
    · rw [if_pos q]
      obtain ⟨h1, h2, h3⟩ := fsti_spec q
      exact ⟨by omega, h2, h3⟩
    · rw [if_neg q]
      have q' : anyB p n = false := by simpa using q
      have h' : (anyB p n || p n) = true := h
      rw [q', Bool.false_or] at h'
      exact ⟨by omega, h', fun j hj => anyB_no.mp q' j hj⟩
theorem pair_tb (a c i : Nat) : (2 ^ a ||| 2 ^ c).testBit i = (decide (i = a) || decide (i = c)) := by
  rw [Nat.testBit_or, Nat.testBit_two_pow, Nat.testBit_two_pow]
  congr 1
  · exact decide_eq_decide.mpr eq_comm
  · exact decide_eq_decide.mpr eq_comm
theorem pair_eq {a c p q : Nat} (hac : a ≠ c) : (2 ^ a ||| 2 ^ c = 2 ^ p ||| 2 ^ q) ↔ ((a = p ∧ c = q) ∨ (a = q ∧ c = p)) := by
  constructor
  · intro h
    have h1 : (decide (a = a) || decide (a = c)) = (decide (a = p) || decide (a = q)) := by rw [← pair_tb a c a, ← pair_tb p q a, h]
    have h2 : (decide (c = a) || decide (c = c)) = (decide (c = p) || decide (c = q)) := by rw [← pair_tb a c c, ← pair_tb p q c, h]
    have h3 : (decide (p = a) || decide (p = c)) = (decide (p = p) || decide (p = q)) := by rw [← pair_tb a c p, ← pair_tb p q p, h]
    have h4 : (decide (q = a) || decide (q = c)) = (decide (q = p) || decide (q = q)) := by rw [← pair_tb a c q, ← pair_tb p q q, h]
    simp only [decide_true, Bool.true_or, Bool.or_true] at h1 h2 h3 h4
    have h1 := h1.symm
    have h2 := h2.symm
    simp only [Bool.or_eq_true, decide_eq_true_eq] at h1 h2 h3 h4
    omega
  · rintro (⟨rfl, rfl⟩ | ⟨rfl, rfl⟩)
    · rfl
    · exact Nat.or_comm _ _
theorem pair_lt {a c : Nat} (ha : a < 8) (hc : c < 8) : 2 ^ a ||| 2 ^ c < 256 := Nat.or_lt_two_pow (n := 8) (Nat.pow_lt_pow_right (by omega) ha) (Nat.pow_lt_pow_right (by omega) hc)
theorem ior_pair {a c : Nat} (ha : a < 8) (hc : c < 8) : ior' (ishl 1 (a : Int)) (ishl 1 (c : Int)) = ((2 ^ a ||| 2 ^ c : Nat) : Int) := by
  have h1 : 2 ^ a < 2 ^ 8 := Nat.pow_lt_pow_right (by omega) ha
  have h2 : 2 ^ c < 2 ^ 8 := Nat.pow_lt_pow_right (by omega) hc
  rw [ishl_1 (by omega), ishl_1 (by omega), ior_nat (by omega) (by omega)]
section LASTS
variable {t b : Nat} {C R : Mem}
/-- a row that is not so in a world of base -/
def lieOK (R : Mem) (b r w : Nat) : Prop := r < nR R b ∧ w < 2 ^ nF R b ∧ isB R w = true ∧ rowI R r w = false
theorem M_isLie_eq (hb : b < 2) (h38 : R 81 38 = (b : Int)) (hT : Town t b C R) {r w : Int} (hr : n32 r = r) (hw : n32 w = w) : (∃ r' w' : Nat, r = (r' : Int) ∧ w = (w' : Int) ∧ lieOK R b r' w' ∧ M_isLie r w R = some 1) ∨ ((¬ ∃ r' w' : Nat, r = (r' : Int) ∧ w = (w' : Int) ∧ lieOK R b r' w') ∧ M_isLie r w R = some 0) := by
  have hF := num_F hT.1
  have h6 := two_pow8 hF.2.2
  have hR := num_R hT.1
  unfold M_isLie
  rw [M_isRow_eq hb h38 hT.1 hr, bind_some']
  by_cases q : 0 ≤ r ∧ r < (nR R b : Int)
  · rw [if_pos q, if_pos nz1]
    rcases M_isWorld_eq hb h38 hT.1 hT.2.2.2.2.2.1 hw with ⟨k2, e2⟩ | ⟨k2, e2⟩
    · obtain ⟨k5, k6, k7⟩ := k2
      obtain ⟨r, rfl⟩ : ∃ q : Nat, r = (q : Int) := ⟨r.toNat, by omega⟩
      obtain ⟨w, rfl⟩ : ∃ q : Nat, w = (q : Int) := ⟨w.toNat, by omega⟩
      change isB R w = true at k7
      rw [e2, bind_some', if_pos nz1]
      unfold M_spot
      rw [bind_some', chk_pos (by omega), tn_256]
      obtain ⟨k8, -⟩ := hT.2.2.2.2.2.2.1 r w (by omega) (by omega) k7
      rcases k8 with e | e
      · refine Or.inl ⟨r, w, rfl, rfl, ⟨by omega, by omega, k7, by unfold rowI; rw [e]; rfl⟩, ?_⟩
        rw [e]; rfl
      · refine Or.inr ⟨?_, by rw [e]; rfl⟩
        rintro ⟨r', w', e1, e2, -, -, -, e3⟩
        have : r' = r := by omega
        have : w' = w := by omega
        subst_vars
        unfold rowI at e3
        rw [e] at e3
        cases e3
    · rw [e2]
      refine Or.inr ⟨?_, rfl⟩
      rintro ⟨r', w', rfl, rfl, -, h2, h3, -⟩
      exact k2 ⟨by omega, by omega, h3⟩
  · rw [if_neg q]
    refine Or.inr ⟨?_, rfl⟩
    rintro ⟨r', w', rfl, rfl, h1, -⟩
    exact q ⟨by omega, by omega⟩
/-- the same in the class: one that can't be, or that is so -/
theorem T_lie_eq (ht : isT t) (hT : Town t b C R) {r w : Int} (hr : n32 r = r) (hw : n32 w = w) : (∃ r' w' : Nat, r = (r' : Int) ∧ w = (w' : Int) ∧ lieOK R b r' w' ∧ T_canBe t r w C = some 1 ∧ T_isSo t r w C = some 0) ∨ ((¬ ∃ r' w' : Nat, r = (r' : Int) ∧ w = (w' : Int) ∧ lieOK R b r' w') ∧ (T_canBe t r w C = some 0 ∨ (T_canBe t r w C = some 1 ∧ T_isSo t r w C = some 1))) := by
  rcases T_canBe_eq ht hT.1 hT.2.2.2.2.2.1 hr hw with ⟨⟨k1, k5, k6, k7⟩, e⟩ | ⟨k, e⟩
  · obtain ⟨r, rfl⟩ : ∃ q : Nat, r = (q : Int) := ⟨r.toNat, by omega⟩
    obtain ⟨w, rfl⟩ : ∃ q : Nat, w = (q : Int) := ⟨w.toNat, by omega⟩
    change isB R w = true at k7
    have es := T_isSo_eq ht hT.1 hT.2.2.2.2.2.2.1 (r := r) (w := w) (by omega) (by omega) k7
    cases hi : rowI R r w with
    | false =>
      refine Or.inl ⟨r, w, rfl, rfl, ⟨by omega, by omega, k7, hi⟩, e, ?_⟩
      rw [es, hi]; rfl
    | true =>
      refine Or.inr ⟨?_, Or.inr ⟨e, by rw [es, hi]; rfl⟩⟩
      rintro ⟨r', w', e1, e2, -, -, -, e3⟩
      have : r' = r := by omega
      have : w' = w := by omega
      subst_vars
      rw [hi] at e3
      cases e3
  · refine Or.inr ⟨?_, Or.inl e⟩
    rintro ⟨r', w', rfl, rfl, h1, h2, h3, -⟩
    exact k ⟨⟨by omega, by omega⟩, by omega, by omega, h3⟩
theorem T_fooled_eq (ht : isT t) (hT : Town t b C R) {a c r w : Nat} (ha : a < 8) (hc : c < 8) (hl : lieOK R b r w) : T_fooled t (ior' (ishl 1 (a : Int)) (ishl 1 (c : Int))) (r : Int) (w : Int) C = some ((flN R b a c r w : Nat) : Int) := by
  obtain ⟨l1, l2, l3, l4⟩ := hl
  have hP := num_P hT.1
  have hpl := pair_lt ha hc
  rw [ior_pair ha hc]
  have L := it_for (body := T_fooled_b6 t ((2 ^ a ||| 2 ^ c : Nat) : Int) (r : Int) (w : Int) C) (a := (0, 0)) (b := ((flN R b a c r w : Nat) : Int)) (fun i => (((cnt (fun p => !decide (p = a) && !decide (p = c) && !decide (ansV R p r w = 0)) i : Nat) : Int), (i : Int))) (nP R b) (by unfold FUEL; omega) rfl ?_ ?_
  · unfold T_fooled
    rw [L]; rfl
  · intro i hi
    unfold T_fooled_b6
    dsimp only
    have hA := (hT.2.2.2.2.2.2.2.1 i r w hi l1 (by have := (pow_wd (num_F hT.1).2.2).1; omega)).1 l3
    have ec : ∀ q : Nat → Bool, cnt q (i + 1) = cnt q i + (if q i = true then 1 else 0) := fun q => rfl
    rw [hP.2.1, n32_nat (by omega), n32_nat (by omega), if_pos (by omega), X_hasBit_eq (by omega) (by omega), bind_some', pair_tb, T_answer_eq ht hT.1 hT.2.2.2.2.2.2.2.1 hi l1 l2 l3, ec]
    cases h1 : decide (i = a) with
    | true => rfl
    | false =>
      cases h2 : decide (i = c) with
      | true => rfl
      | false =>
        rcases hA with e | e | e <;> rw [e] <;> rfl
  · unfold T_fooled_b6
    dsimp only
    rw [hP.2.1, if_neg (by omega)]
    rfl
theorem M_lastsOf_eq (hb : b < 2) (h38 : R 81 38 = (b : Int)) (hT : Town t b C R) {a c r w : Nat} (ha : a < 8) (hc : c < 8) (hl : lieOK R b r w) : M_lastsOf (a : Int) (c : Int) (r : Int) (w : Int) R = some ((flN R b a c r w : Nat) : Int) := by
  obtain ⟨l1, l2, l3, l4⟩ := hl
  have hP := num_P hT.1
  have hR := num_R hT.1
  have hF := num_F hT.1
  have h6 := two_pow8 hF.2.2
  have L := it_for (body := M_lastsOf_b6 (a : Int) (c : Int) (r : Int) (w : Int) R) (a := (0, 0)) (b := ((flN R b a c r w : Nat) : Int)) (fun i => (((cnt (fun p => !decide (p = a) && !decide (p = c) && !decide (ansV R p r w = 0)) i : Nat) : Int), (i : Int))) (nP R b) (by unfold FUEL; omega) rfl ?_ ?_
  · unfold M_lastsOf
    rw [L]; rfl
  · intro i hi
    unfold M_lastsOf_b6
    dsimp only
    have hA := (hT.2.2.2.2.2.2.2.1 i r w hi l1 (by have := (pow_wd (num_F hT.1).2.2).1; omega)).1 l3
    have ec : ∀ q : Nat → Bool, cnt q (i + 1) = cnt q i + (if q i = true then 1 else 0) := fun q => rfl
    rw [M_personMany_eq hb h38 hT.1, bind_some', n32_nat (a := i) (by omega), n32_nat (a := nP R b) (by omega), if_pos (by omega), n32_nat (a := a) (by omega), n32_nat (a := c) (by omega), M_answerAt_eq (by omega) (by omega) (by omega), ec]
    by_cases h1 : i = a
    · rw [if_neg (by omega), decide_eq_true h1]; rfl
    · rw [if_pos (by omega), decide_eq_false h1]
      by_cases h2 : i = c
      · rw [if_neg (by omega), decide_eq_true h2]; rfl
      · rw [if_pos (by omega), decide_eq_false h2]
        rcases hA with e | e | e <;> rw [e] <;> rfl
  · unfold M_lastsOf_b6
    dsimp only
    rw [M_personMany_eq hb h38 hT.1, bind_some', if_neg (by omega)]
    rfl
end LASTS
theorem op_lasts {C R : Mem} (h : Inv C R) {a c r w : Int} (ha : n32 a = a) (hc : n32 c = c) (hr : n32 r = r) (hw : n32 w = w) : ∃ v, X_lasts a c r w C = some v ∧ M_lasts a c r w R = some v := by
  obtain ⟨t, b, ht, h12, -, hb, h38, -, -, -, -, hT, -, -⟩ := h
  have hP := num_P hT.1
  unfold X_lasts M_lasts
  rw [h12, chk_pos (isTI_of rfl ht), lt1_eq, tn_nat, M_isPerson_eq hb h38 hT.1 ha, bind_some', M_isPerson_eq hb h38 hT.1 hc, T_hasPerson_eq hT.1 ha, bind_some', T_hasPerson_eq hT.1 hc, ha, hc]
  by_cases q1 : 0 ≤ a ∧ a < (nP R b : Int)
  · rw [if_pos q1, if_pos nz1, if_pos nz1, bind_some', bind_some']
    by_cases q2 : 0 ≤ c ∧ c < (nP R b : Int)
    · rw [if_pos q2, if_pos nz1, if_pos nz1]
      by_cases q3 : a = c
      · rw [if_neg (not_not_intro q3), if_neg (not_not_intro q3)]
        exact ⟨_, rfl, rfl⟩
      · rw [if_pos q3, if_pos q3, bind_some', if_pos rfl, bind_some', if_pos nz1]
        rcases T_lie_eq ht hT hr hw with ⟨r', w', rfl, rfl, hl, e1, e2⟩ | ⟨hn, hh⟩
        · rcases M_isLie_eq hb h38 hT hr hw with ⟨r2, w2, -, -, -, e3⟩ | ⟨hn, -⟩
          · obtain ⟨a, rfl⟩ : ∃ q : Nat, a = (q : Int) := ⟨a.toNat, by omega⟩
            obtain ⟨c, rfl⟩ : ∃ q : Nat, c = (q : Int) := ⟨c.toNat, by omega⟩
            rw [e1, e2, e3, bind_some', if_pos nz1, bind_some', if_neg nz0, bind_some', if_neg (show ¬ (false = true) by decide), bind_some', if_pos nz1, bind_some', if_pos rfl, T_fooled_eq ht hT (by omega) (by omega) hl, M_lastsOf_eq hb h38 hT (by omega) (by omega) hl]
            exact ⟨_, rfl, rfl⟩
          · exact absurd ⟨r', w', rfl, rfl, hl⟩ hn
        · rcases M_isLie_eq hb h38 hT hr hw with ⟨r2, w2, e4, e5, e6, e3⟩ | ⟨-, e3⟩
          · exact absurd ⟨r2, w2, e4, e5, e6⟩ hn
          · rw [e3]
            rcases hh with e | ⟨e, e'⟩
            · rw [e]; exact ⟨_, rfl, rfl⟩
            · rw [e, bind_some', if_pos nz1, e']; exact ⟨_, rfl, rfl⟩
    · rw [if_neg q2]; exact ⟨_, rfl, rfl⟩
  · rw [if_neg q1]; exact ⟨_, rfl, rfl⟩
section WITH
variable {t b : Nat} {C R : Mem}
def wval (R : Mem) (b p q r w : Nat) : Int := (flN R b p q r w : Int) * 10 - R 100 (12 * b + fsti (mtB R b p q) (nT R b))
def wst (R : Mem) (b p r w : Nat) : Nat → Int × Int
  | 0 => (-1, 0)
  | q + 1 => if anyB (mtB R b p q) (nT R b) = true ∧ ((wst R b p r w q).1 = -1 ∨ (wst R b p r w q).2 < wval R b p q r w) then ((q : Int), wval R b p q r w) else wst R b p r w q
theorem flN_le (a c r w : Nat) : flN R b a c r w ≤ nP R b := cnt_le _ _
theorem wval_rng (hT : TieR t b C R) (hP : nP R b ≤ 8) {p q r w : Nat} (h : anyB (mtB R b p q) (nT R b) = true) : -200 ≤ wval R b p q r w ∧ wval R b p q r w ≤ 200 := by
  obtain ⟨h1, -, -⟩ := fsti_spec h
  obtain ⟨-, -, -, -, h2, h3⟩ := hT.1 _ h1
  have := flN_le (R := R) (b := b) p q r w
  unfold wval
  omega
theorem wst_rng (hT : TieR t b C R) (hP : nP R b ≤ 8) (p r w : Nat) : ∀ q, (-1 ≤ (wst R b p r w q).1 ∧ (wst R b p r w q).1 < (q : Int)) ∧ -200 ≤ (wst R b p r w q).2 ∧ (wst R b p r w q).2 ≤ 200
  | 0 => by unfold wst; dsimp only; omega
  | q + 1 => by
    have ih := wst_rng hT hP p r w q
    unfold wst
    split
    · rename_i h
      have := wval_rng (r := r) (w := w) hT hP h.1
      dsimp only
      omega
    · omega
theorem T_tieOf_eq (hT : Town t b C R) {p q : Nat} (hp : p < nP R b) (hq : q < nP R b) (h : anyB (mtB R b p q) (nT R b) = true) : T_tieOf t (p : Int) (q : Int) C = some ((fsti (mtB R b p q) (nT R b) : Nat) : Int) := by
  have hP := num_P hT.1
  have hTn := num_T hT.1
  have hTi := hT.2.2.2.1
  have hbody : ∀ i : Nat, i < nT R b → T_tieOf_b11 t C ((2 ^ p ||| 2 ^ q : Nat) : Int) (i : Int) = if mtB R b p q i = true then some (.inr (.inr (i : Int))) else some (.inl ((i : Int) + 1)) := by
    intro i hi
    obtain ⟨⟨k1, k2, -⟩, ⟨k3, k4⟩, ⟨k5, k6⟩, k7, -⟩ := hTi.1 i hi
    have l1 := pair_lt (a := tOne R b i) (c := tTwo R b i) (by omega) (by omega)
    have l2 := pair_lt (a := p) (c := q) (by omega) (by omega)
    unfold T_tieOf_b11 T_pairOf
    dsimp only
    rw [hTn.2.1, n32_nat (by omega), n32_nat (by omega), if_pos (by omega), chk_pos (by omega), bind_some', tn_nat, k1, k2, show R 98 (12 * b + i) = (tOne R b i : Int) from by unfold tOne; omega, show R 99 (12 * b + i) = (tTwo R b i : Int) from by unfold tTwo; omega, ior_pair (by omega) (by omega), n32_nat (by omega), n32_nat (by omega)]
    have e := pair_eq (p := p) (q := q) k7
    unfold mtB
    by_cases z : (tOne R b i = p ∧ tTwo R b i = q) ∨ (tOne R b i = q ∧ tTwo R b i = p)
    · rw [if_pos (by rw [e.mpr z]), if_pos (by simpa using z)]
    · rw [if_neg (fun y => z (e.mp (Int.ofNat_inj.mp y))), if_neg (by simpa using z)]
      rfl
  have F := it_find (body := T_tieOf_b11 t C ((2 ^ p ||| 2 ^ q : Nat) : Int)) (p := mtB R b p q) (v := fun i => (i : Int)) (nT R b) (by unfold FUEL; omega) (fun i hi hp => by rw [hbody i hi, if_pos hp]) (fun i hi hp => by rw [hbody i hi, if_neg (by rw [hp]; decide)]) (by unfold T_tieOf_b11; dsimp only; rw [hTn.2.1, if_neg (by omega)])
  obtain ⟨i, i1, i2, i3, i4⟩ := F.2 h
  obtain ⟨f1, f2, f3⟩ := fsti_spec h
  have e : i = fsti (mtB R b p q) (nT R b) := by
    rcases Nat.lt_trichotomy i (fsti (mtB R b p q) (nT R b)) with z | z | z
    · rw [f3 i z] at i2; cases i2
    · exact z
    · rw [i3 _ z] at f2; cases f2
  unfold T_tieOf
  rw [lt1_eq, ior_pair (by omega) (by omega), i4, e]
  rfl
theorem T_best_eq (ht : isT t) (hT : Town t b C R) {p r w : Nat} (hp : p < nP R b) (hl : lieOK R b r w) : T_bestPartner t (p : Int) (r : Int) (w : Int) C = some (wst R b p r w (nP R b)).1 := by
  have hP := num_P hT.1
  have hTn := num_T hT.1
  have hTi := hT.2.2.2.1
  have L := it_for (body := T_bestPartner_b9 t (p : Int) (r : Int) (w : Int) C) (a := (-1, 0, 0)) (b := (wst R b p r w (nP R b)).1) (fun q => ((wst R b p r w q).1, (wst R b p r w q).2, (q : Int))) (nP R b) (by unfold FUEL; omega) rfl ?_ ?_
  · unfold T_bestPartner
    rw [L]; rfl
  · intro q hq
    have g := wst_rng hTi hP.2.2 p r w q
    obtain ⟨t1, t2⟩ := hTi.2.2 p hp
    have hnx : wst R b p r w (q + 1) = if anyB (mtB R b p q) (nT R b) = true ∧ ((wst R b p r w q).1 = -1 ∨ (wst R b p r w q).2 < wval R b p q r w) then ((q : Int), wval R b p q r w) else wst R b p r w q := rfl
    unfold T_bestPartner_b9
    dsimp only
    rw [hP.2.1, n32_nat (a := q) (by omega), n32_nat (a := nP R b) (by omega), if_pos (by omega), chk_pos (by omega), tn_nat, show C (t + 3) p = ((C (t + 3) p).toNat : Int) from by omega, X_hasBit_eq (by omega) (by omega), bind_some', t2 q]
    have e9 : anyB (fun i => (decide (tOne R b i = p) && decide (tTwo R b i = q)) || (decide (tOne R b i = q) && decide (tTwo R b i = p))) (nT R b) = anyB (mtB R b p q) (nT R b) := rfl
    rw [e9]
    cases ha : anyB (mtB R b p q) (nT R b) with
    | false =>
      have e0 : wst R b p r w (q + 1) = wst R b p r w q := by rw [hnx, ha]; exact if_neg (fun z => absurd z.1 (by decide))
      rw [e0]
      rfl
    | true =>
      have wv := wval_rng (r := r) (w := w) hTi hP.2.2 ha
      obtain ⟨f1, f2, f3⟩ := fsti_spec ha
      obtain ⟨⟨-, -, k3⟩, -⟩ := hTi.1 _ f1
      rw [if_pos rfl, if_pos nz1, T_fooled_eq ht hT (by omega) (by omega) hl, bind_some', T_tieOf_eq hT hp hq ha, bind_some', chk_pos (by omega), lt1_eq, tn_nat, k3]
      have ev : (flN R b p q r w : Int) * 10 - R 100 (12 * b + fsti (mtB R b p q) (nT R b)) = wval R b p q r w := rfl
      rw [ev, n32_of (a := (wst R b p r w q).1) (by omega) (by omega), n32_of (a := (wst R b p r w q).2) (by omega) (by omega), n32_of (a := wval R b p q r w) (by omega) (by omega)]
      by_cases z : (wst R b p r w q).1 = -1 ∨ (wst R b p r w q).2 < wval R b p q r w
      · have e0 : wst R b p r w (q + 1) = ((q : Int), wval R b p q r w) := by rw [hnx, ha]; exact if_pos ⟨rfl, z⟩
        rw [if_pos z, e0]
        rfl
      · have e0 : wst R b p r w (q + 1) = wst R b p r w q := by rw [hnx, ha]; exact if_neg (fun y => z y.2)
        rw [if_neg z, e0]
        rfl
  · unfold T_bestPartner_b9
    dsimp only
    rw [hP.2.1, if_neg (by omega)]
theorem M_with_eq (hb : b < 2) (h38 : R 81 38 = (b : Int)) (hT : Town t b C R) {p r w : Nat} (hp : p < nP R b) (hl : lieOK R b r w) : it (M_with_b28 (p : Int) (r : Int) (w : Int) R) FUEL ((-1), 0, 0) = some (wst R b p r w (nP R b)).1 := by
  have hP := num_P hT.1
  have hTn := num_T hT.1
  have hTi := hT.2.2.2.1
  refine it_for (fun q => ((wst R b p r w q).1, (wst R b p r w q).2, (q : Int))) (nP R b) (by unfold FUEL; omega) rfl ?_ ?_
  · intro q hq
    have g := wst_rng hTi hP.2.2 p r w q
    have hnx : wst R b p r w (q + 1) = if anyB (mtB R b p q) (nT R b) = true ∧ ((wst R b p r w q).1 = -1 ∨ (wst R b p r w q).2 < wval R b p q r w) then ((q : Int), wval R b p q r w) else wst R b p r w q := rfl
    have uniq : ∀ i j, i < nT R b → j < nT R b → mtB R b p q i = true → mtB R b p q j = true → i = j := by
      intro i j hi hj h1 h2
      have h1 : (tOne R b i = p ∧ tTwo R b i = q) ∨ (tOne R b i = q ∧ tTwo R b i = p) := by unfold mtB at h1; simpa using h1
      have h2 : (tOne R b j = p ∧ tTwo R b j = q) ∨ (tOne R b j = q ∧ tTwo R b j = p) := by unfold mtB at h2; simpa using h2
      rcases Nat.lt_trichotomy i j with z | z | z
      · obtain ⟨d1, d2⟩ := hTi.2.1 i j z hj
        exfalso
        omega
      · exact z
      · obtain ⟨d1, d2⟩ := hTi.2.1 j i z hi
        exfalso
        omega
    have J : it (M_with_b46 (p : Int) (r : Int) (w : Int) R (q : Int)) FUEL ((wst R b p r w q).1, (wst R b p r w q).2, ((12 * b : Nat) : Int)) = some ((wst R b p r w (q + 1)).1, (wst R b p r w (q + 1)).2) := by
      refine it_for (fun i => ((if anyB (mtB R b p q) i = true then wst R b p r w (q + 1) else wst R b p r w q).1, (if anyB (mtB R b p q) i = true then wst R b p r w (q + 1) else wst R b p r w q).2, ((12 * b + i : Nat) : Int))) (nT R b) (by unfold FUEL; omega) rfl ?_ ?_
      · intro i hi
        obtain ⟨-, ⟨k3, k4⟩, ⟨k5, k6⟩, k7, k8, k9⟩ := hTi.1 i hi
        unfold M_with_b46
        dsimp only
        rw [h38, chk_pos (by omega), tn_nat, hTn.1, n32_nat (by omega), n32_of (by omega) (by omega), if_pos (by omega), chk_pos (by omega), tn_nat, jn_eq, show R 98 (12 * b + i) = (tOne R b i : Int) from by unfold tOne; omega, show R 99 (12 * b + i) = (tTwo R b i : Int) from by unfold tTwo; omega, n32_nat (a := tOne R b i) (by omega), n32_nat (a := tTwo R b i) (by omega), n32_nat (a := p) (by omega), n32_nat (a := q) (by omega)]
        have ea : anyB (mtB R b p q) (i + 1) = (anyB (mtB R b p q) i || mtB R b p q i) := rfl
        by_cases z : (tOne R b i = p ∧ tTwo R b i = q) ∨ (tOne R b i = q ∧ tTwo R b i = p)
        · have hm : mtB R b p q i = true := by unfold mtB; simpa using z
          have hno : anyB (mtB R b p q) i = false := by
            rw [anyB_no]
            intro j hj
            cases hmj : mtB R b p q j with
            | false => rfl
            | true => have := uniq j i (by omega) hi hmj hm; omega
          have hany : anyB (mtB R b p q) (nT R b) = true := anyB_iff.mpr ⟨i, hi, hm⟩
          obtain ⟨f1, f2, f3⟩ := fsti_spec hany
          have ei : fsti (mtB R b p q) (nT R b) = i := uniq _ _ f1 hi f2 hm
          have wv := wval_rng (r := r) (w := w) hTi hP.2.2 hany
          rw [ea, hno, hm, Bool.false_or, if_neg (show ¬ (false = true) by decide), if_pos rfl]
          have hgo : ∀ (X Y : Option (Int × Int)), ((if ((tOne R b i : Nat) : Int) = (p : Int) then (if ¬ ((tTwo R b i : Nat) : Int) = (q : Int) then some true else some false) else some true).bind fun c_47 => if c_47 = true then (if ((tOne R b i : Nat) : Int) = (q : Int) then (if ¬ ((tTwo R b i : Nat) : Int) = (p : Int) then X else Y) else X) else Y) = Y := by
            intro X Y
            by_cases z1 : tOne R b i = p ∧ tTwo R b i = q
            · rw [if_pos (by omega), if_neg (by omega)]; rfl
            · have z2 : tOne R b i = q ∧ tTwo R b i = p := by omega
              have : ((if ((tOne R b i : Nat) : Int) = (p : Int) then (if ¬ ((tTwo R b i : Nat) : Int) = (q : Int) then some true else some false) else some true)) = some true := by
                by_cases z3 : tOne R b i = p
                · rw [if_pos (by omega), if_pos (by omega)]
                · rw [if_neg (by omega)]
              rw [this, bind_some', if_pos rfl, if_pos (by omega), if_neg (by omega)]
          rw [hgo, M_lastsOf_eq hb h38 hT (by omega) (by omega) hl, bind_some', lt1_eq]
          have ev : 10 * ((flN R b p q r w : Nat) : Int) - R 100 (12 * b + i) = wval R b p q r w := by unfold wval; rw [ei]; omega
          rw [ev, n32_of (a := (wst R b p r w q).1) (by omega) (by omega), n32_of (a := (wst R b p r w q).2) (by omega) (by omega), n32_of (a := wval R b p q r w) (by omega) (by omega), hnx]
          by_cases z3 : (wst R b p r w q).1 = -1 ∨ (wst R b p r w q).2 < wval R b p q r w
          · rw [if_neg (fun y => by omega), if_pos ⟨hany, z3⟩]
            rfl
          · rw [if_pos ⟨by omega, by omega⟩, if_neg (fun y => z3 y.2)]
            rfl
        · have hm : mtB R b p q i = false := by
            cases hh : mtB R b p q i with
            | false => rfl
            | true => exact absurd (by unfold mtB at hh; simpa using hh) z
          rw [ea, hm, Bool.or_false]
          have hgo : ∀ (X Y : Option (Int × Int)), ((if ((tOne R b i : Nat) : Int) = (p : Int) then (if ¬ ((tTwo R b i : Nat) : Int) = (q : Int) then some true else some false) else some true).bind fun c_47 => if c_47 = true then (if ((tOne R b i : Nat) : Int) = (q : Int) then (if ¬ ((tTwo R b i : Nat) : Int) = (p : Int) then X else Y) else X) else Y) = X := by
            intro X Y
            have h1 : ((if ((tOne R b i : Nat) : Int) = (p : Int) then (if ¬ ((tTwo R b i : Nat) : Int) = (q : Int) then some true else some false) else some true)) = some true := by
              by_cases z3 : tOne R b i = p
              · rw [if_pos (by omega), if_pos (by omega)]
              · rw [if_neg (by omega)]
            rw [h1, bind_some', if_pos rfl]
            by_cases z3 : tOne R b i = q
            · rw [if_pos (by omega), if_pos (by omega)]
            · rw [if_neg (by omega)]
          rw [hgo, bind_some']
          rfl
      · unfold M_with_b46
        dsimp only
        rw [h38, chk_pos (by omega), tn_nat, hTn.1, n32_nat (by omega), n32_of (by omega) (by omega), if_neg (by omega)]
        cases ha : anyB (mtB R b p q) (nT R b) with
        | true => rfl
        | false =>
          have e0 : wst R b p r w (q + 1) = wst R b p r w q := by rw [hnx, ha]; exact if_neg (fun z => absurd z.1 (by decide))
          rw [e0]
          rfl
    unfold M_with_b28
    dsimp only
    rw [M_personMany_eq hb h38 hT.1, bind_some', n32_nat (a := q) (by omega), n32_nat (a := nP R b) (by omega), if_pos (by omega), lt1_eq, h38, show 12 * (b : Int) = ((12 * b : Nat) : Int) from by omega, J, bind_some']
    rfl
  · unfold M_with_b28
    dsimp only
    rw [M_personMany_eq hb h38 hT.1, bind_some', if_neg (by omega)]
end WITH
theorem op_with {C R : Mem} (h : Inv C R) {p r w : Int} (hp : n32 p = p) (hr : n32 r = r) (hw : n32 w = w) : ∃ v, X_with p r w C = some v ∧ M_with p r w R = some v := by
  obtain ⟨t, b, ht, h12, -, hb, h38, -, -, -, -, hT, -, -⟩ := h
  have hP := num_P hT.1
  unfold X_with M_with
  rw [h12, chk_pos (isTI_of rfl ht), lt1_eq, tn_nat, M_isPerson_eq hb h38 hT.1 hp, bind_some', T_hasPerson_eq hT.1 hp, bind_some']
  by_cases q1 : 0 ≤ p ∧ p < (nP R b : Int)
  · rw [if_pos q1, if_pos nz1, if_pos nz1]
    obtain ⟨p, rfl⟩ : ∃ q : Nat, p = (q : Int) := ⟨p.toNat, by omega⟩
    rcases T_lie_eq ht hT hr hw with ⟨r', w', rfl, rfl, hl, e1, e2⟩ | ⟨hn, hh⟩
    · rcases M_isLie_eq hb h38 hT hr hw with ⟨r2, w2, -, -, -, e3⟩ | ⟨hn, -⟩
      · rw [e1, e2, e3, bind_some', if_pos nz1, bind_some', if_neg nz0, bind_some', if_neg (show ¬ (false = true) by decide), bind_some', if_neg nz1, bind_some', if_neg (show ¬ (false = true) by decide), T_best_eq ht hT (by omega) hl, M_with_eq hb h38 hT (by omega) hl]
        exact ⟨_, rfl, rfl⟩
      · exact absurd ⟨r', w', rfl, rfl, hl⟩ hn
    · rcases M_isLie_eq hb h38 hT hr hw with ⟨r2, w2, e4, e5, e6, e3⟩ | ⟨-, e3⟩
      · exact absurd ⟨r2, w2, e4, e5, e6⟩ hn
      · rw [e3]
        rcases hh with e | ⟨e, e'⟩
        · rw [e]; exact ⟨_, rfl, rfl⟩
        · rw [e, bind_some', if_pos nz1, e']; exact ⟨_, rfl, rfl⟩
  · rw [if_neg q1]; exact ⟨_, rfl, rfl⟩
