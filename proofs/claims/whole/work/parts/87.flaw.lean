/-! ===== the law, a bit for each way: the class fills them ===== -/
def sgL (c : Nat) : Nat := if c = 11 then 22 else if c = 12 then 18 else if c = 13 then 19 else if c = 14 then 20 else if c = 15 then 17 else if c = 7 then 13 else c
def okL (c : Nat) : Prop := c = 11 ∨ c = 12 ∨ c = 13 ∨ c = 14 ∨ c = 15 ∨ c = 7 ∨ c = 43 ∨ c = 45 ∨ c = 60 ∨ c = 62 ∨ c = 61
def SgL (lo lc len : Nat) (C R : Mem) : Prop := ∀ i, i < len → ∃ c o : Nat, R 106 (lo + i) = (c : Int) ∧ (c = 11 → R 107 (lo + i) = (o : Int)) ∧ C 29 (lc + i) = ((256 * o + sgL c : Nat) : Int) ∧ o < 10000 ∧ okL c
theorem way_dec : ∀ y : Nat, y < 64 → ishr (y : Int) 3 = ((y / 8 : Nat) : Int) ∧ iand (ishr (y : Int) 2) 1 = ((y / 4 % 2 : Nat) : Int) ∧ iand (ishr (y : Int) 1) 1 = ((y / 2 % 2 : Nat) : Int) ∧ iand (y : Int) 1 = ((y % 2 : Nat) : Int) := by decide +kernel
theorem shl3 : ∀ p : Nat, p < 9 → ishl (p : Int) 3 = ((8 * p : Nat) : Int) := by decide +kernel
theorem joined_eq {c : Nat} (hc : c = 7 ∨ c = 43 ∨ c = 45 ∨ c = 60 ∨ c = 62 ∨ c = 61) (x y : Int) (M : Mem) : S_joined ((sgL c : Nat) : Int) x y M = some (lTwo (c : Int) x y) := by
  have e : ∀ (p : Prop) [Decidable p], (if p then some (1 : Int) else some 0) = some (if p then 1 else 0) := by
    intro p _
    split <;> rfl
  rcases hc with rfl | rfl | rfl | rfl | rfl | rfl
  · exact e _
  · rfl
  · rfl
  · exact e _
  · exact e _
  · exact e _
section FLAW
variable {t b : Nat} {C R : Mem}
theorem value_eq {lo lc len y : Nat} (hy : y < 64) (hlen : lc + len ≤ 720) (hs : SgL lo lc len C R) (hh : lH (R 106) lo len = some 1) : Z (S_value (lc : Int) ((lc + len : Nat) : Int) (y : Int) C) (fun q => q.1 = (lRun (R 106) (R 107) lo (((y / 8 : Nat) : Int) + 1) ((y / 4 % 2 : Nat) : Int) ((y / 2 % 2 : Nat) : Int) ((y % 2 : Nat) : Int) len).headD 0 ∧ ∀ a k, a ≠ 31 → q.2 a k = C a k) := by
  obtain ⟨w1, w2, w3, w4⟩ := way_dec y hy
  generalize hv : (((y / 8 : Nat) : Int) + 1) = vv
  generalize hap : ((y / 4 % 2 : Nat) : Int) = ap
  generalize hti : ((y / 2 % 2 : Nat) : Int) = ti
  generalize hth : ((y % 2 : Nat) : Int) = th
  unfold S_value
  rw [Z_bind_iff]
  refine Z_mono (it_Z (J := fun q => q.1 = 1 ∧ rdS (q.2 31) 1 = lRun (R 106) (R 107) lo vv ap ti th len ∧ ∀ a k, a ≠ 31 → q.2 a k = C a k) (fun k st => st.2.1 = ((lc + k : Nat) : Int) ∧ ∃ n : Nat, lH (R 106) lo k = some n ∧ st.1 = (n : Int) ∧ rdS (st.2.2 31) n = lRun (R 106) (R 107) lo vv ap ti th k ∧ ∀ a k, a ≠ 31 → st.2.2 a k = C a k) len (by unfold FUEL; omega) ⟨rfl, 0, rfl, rfl, rfl, fun _ _ _ => rfl⟩ ?_ ?_) ?_
  · rintro k ⟨l4, l5, M⟩ hk ⟨e5, n, en, e4, es, ef⟩
    dsimp only at e5 e4 es ef
    subst e5 e4
    obtain ⟨c, o, hc, ho, h29, ho2, hok⟩ := hs k hk
    have hn := lH_le k en
    obtain ⟨n2, en2⟩ := lH_pre (len - (k + 1)) (k + 1) (x := 1) (by rw [show k + 1 + (len - (k + 1)) = len from by omega]; exact hh)
    have en3 : (lH (R 106) lo k).bind _ = some n2 := en2
    rw [en, bind_some'] at en3
    have hsl : sgL c < 256 := by
      rcases hok with rfl | rfl | rfl | rfl | rfl | rfl | rfl | rfl | rfl | rfl | rfl <;> decide
    obtain ⟨d1, d2⟩ := step_dec (o := o) (s := sgL c) ho2 hsl
    have hstep : lRun (R 106) (R 107) lo vv ap ti th (k + 1) = lStep (c : Int) (o : Int) vv ap ti th (rdS (M 31) n) := by
      rw [es]
      show lStep (R 106 (lo + k)) (R 107 (lo + k)) vv ap ti th _ = _
      rw [hc]
      by_cases e11 : c = 11
      · rw [ho e11]
      · have e9 : ∀ x, lVal (c : Int) x vv ap ti th = lVal (c : Int) (o : Int) vv ap ti th := fun x => by
          have e10 : ¬ (c : Int) = 11 := by omega
          unfold lVal
          simp only [if_neg e10]
        unfold lStep
        rw [e9]
    unfold S_value_b6
    dsimp only
    rw [n32_nat (by omega), n32_nat (by omega), if_pos (by omega), chk_pos (by omega), lt1_eq, tn_nat, ef 29 _ (by decide), h29, d1, d2, n32_nat (a := sgL c) (by omega)]
    rw [hc] at en3
    by_cases hp : c = 11 ∨ c = 12 ∨ c = 13 ∨ c = 14 ∨ c = 15
    · have hp2 : lPush (c : Int) = true := decide_eq_true (by omega)
      rw [if_pos hp2] at en3
      have hn25 : n < 25 := by
        by_cases q : n < 25
        · exact q
        · rw [if_neg q] at en3; cases en3
      rw [if_pos hn25] at en3
      have hv' : (if ((sgL c : Nat) : Int) = 22 then some ((o : Nat) : Int) else (S_ofWay ((sgL c : Nat) : Int) (y : Int) M).bind fun r_24 => some r_24) = some (lVal (c : Int) (o : Int) vv ap ti th) := by
        unfold S_ofWay
        rw [w1, w2, w3, w4, hap, hti, hth]
        rcases hp with rfl | rfl | rfl | rfl | rfl
        · rfl
        · show some (((y / 8 : Nat) : Int) + 1) = some vv
          rw [hv]
        · rfl
        · rfl
        · rfl
      have hss : ((sgL c : Nat) : Int) = 22 ∨ ((sgL c : Nat) : Int) = 18 ∨ ((sgL c : Nat) : Int) = 19 ∨ ((sgL c : Nat) : Int) = 20 ∨ ((sgL c : Nat) : Int) = 17 := by
        rcases hp with rfl | rfl | rfl | rfl | rfl <;> decide
      rw [if_pos hss, n32_nat (by omega), if_pos (by omega), hv', bind_some', chk_pos (by omega), lt1_eq, lt1_eq, bind_some']
      dsimp only
      rw [lt1_eq, tn_nat]
      refine Z_of (Or.inl ⟨_, rfl, by dsimp only; omega, n + 1, ?_, by dsimp only; omega, ?_, ?_⟩)
      · show (lH (R 106) lo k).bind _ = _
        rw [en, bind_some', hc, if_pos hp2, if_pos hn25]
      · rw [hstep]
        unfold lStep
        rw [if_pos hp2]
        show up M 31 n _ 31 n :: rdS (up M 31 n _ 31) n = _
        rw [up_eq, rdS_congr (fun i hi => up_k (by omega))]
      · intro a j ha
        show up M 31 n _ a j = _
        rw [up_c ha]
        exact ef a j ha
    · have hp2 : ¬ lPush (c : Int) = true := by
        unfold lPush
        rw [decide_eq_true_eq]
        unfold okL at hok
        omega
      rw [if_neg hp2] at en3
      have hn2 : 2 ≤ n := by
        by_cases q : 2 ≤ n
        · exact q
        · rw [if_neg q] at en3; cases en3
      rw [if_pos hn2] at en3
      obtain ⟨m, rfl⟩ : ∃ m, n = m + 2 := ⟨n - 2, by omega⟩
      have hc6 : c = 7 ∨ c = 43 ∨ c = 45 ∨ c = 60 ∨ c = 62 ∨ c = 61 := by unfold okL at hok; omega
      have hss : ¬ (((sgL c : Nat) : Int) = 22 ∨ ((sgL c : Nat) : Int) = 18 ∨ ((sgL c : Nat) : Int) = 19 ∨ ((sgL c : Nat) : Int) = 20 ∨ ((sgL c : Nat) : Int) = 17) := by
        rcases hc6 with rfl | rfl | rfl | rfl | rfl | rfl <;> decide
      rw [if_neg hss, n32_nat (by omega), if_pos (by omega), lt1_eq, chk_pos (by omega), chk_pos (by omega), show Int.toNat (((m + 2 : Nat) : Int) + -1 - 1) = m from by omega, show Int.toNat (((m + 2 : Nat) : Int) + -1) = m + 1 from by omega, joined_eq hc6, bind_some', lt1_eq, bind_some']
      dsimp only
      rw [lt1_eq]
      refine Z_of (Or.inl ⟨_, rfl, by dsimp only; omega, m + 1, ?_, by dsimp only; omega, ?_, ?_⟩)
      · show (lH (R 106) lo k).bind _ = _
        rw [en, bind_some', hc, if_neg hp2, if_pos hn2]
        rfl
      · rw [hstep]
        unfold lStep
        rw [if_neg hp2]
        show up M 31 m _ 31 m :: rdS (up M 31 m _ 31) m = _
        rw [up_eq, rdS_congr (fun i hi => up_k (by omega))]
        rfl
      · intro a j ha
        show up M 31 m _ a j = _
        rw [up_c ha]
        exact ef a j ha
  · rintro ⟨l4, l5, M⟩ ⟨e5, n, en, e4, es, ef⟩
    dsimp only at e5 e4 es ef
    subst e5 e4
    have : n = 1 := by rw [en] at hh; exact Option.some.inj hh
    subst this
    unfold S_value_b6
    dsimp only
    rw [if_neg (by omega)]
    exact Z_of ⟨_, rfl, rfl, es, ef⟩
  · rintro ⟨x, M⟩ ⟨h1, h2, h3⟩
    dsimp only at h1 h2 h3
    subst h1
    dsimp only
    rw [if_pos (by decide)]
    refine Z_of ⟨?_, h3⟩
    rw [← h2]
    rfl
def lawY (R : Mem) (b y : Nat) : Bool := lawB R b (((y / 8 : Nat) : Int) + 1) ((y / 4 % 2 : Nat) : Int) ((y / 2 % 2 : Nat) : Int) ((y % 2 : Nat) : Int)
/-- where the law's steps lie -/
def LwP (b : Nat) (C R : Mem) : Prop := C 27 13 = R 91 b ∧ (R 91 b = 0 ∨ R 91 b = 1) ∧ (R 91 b = 1 → ∃ lc len : Nat, C 27 11 = (lc : Int) ∧ C 27 12 = ((lc + len : Nat) : Int) ∧ R 104 (17 * b + 16) = ((900 * b + lc : Nat) : Int) ∧ R 105 (17 * b + 16) = ((900 * b + lc + len : Nat) : Int) ∧ lc + len ≤ 720 ∧ lH (R 106) (900 * b + lc) len = some 1 ∧ SgL (900 * b + lc) lc len C R)
theorem fillLaw_eq (ht : isT t) (hb : b < 2) (h27 : C 27 16 = (t : Int)) (hP : C t 1 = (nP R b : Int)) (hP8 : nP R b ≤ 8) (hL : LwP b C R) : Z (N_fillLaw C) (fun C' => (∀ a k, a ≠ 31 → ¬ (a = t ∧ k = 7) → C' a k = C a k) ∧ ∀ y, y < 8 * nP R b → qb (C' t 7) y = lawY R b y) := by
  have ht2 : t ≤ 15 := by unfold isT at ht; omega
  unfold N_fillLaw
  rw [h27, chk_pos (isTI_of rfl ht), lt1_eq, tn_nat, lt1_eq, Z_bind_iff]
  refine Z_mono (it_Z (J := fun C' => (∀ a k, a ≠ 31 → ¬ (a = t ∧ k = 7) → C' a k = C a k) ∧ ∀ y, y < 8 * nP R b → qb (C' t 7) y = lawY R b y) (fun i st => st.1 = (i : Int) ∧ (∀ a k, a ≠ 31 → ¬ (a = t ∧ k = 7) → st.2 a k = C a k) ∧ ∀ y, y < 64 → qb (st.2 t 7) y = (decide (y < i) && lawY R b y)) (8 * nP R b) (by unfold FUEL; omega) ⟨rfl, fun a k _ h2 => by show up C t 7 0 a k = _; rw [up_at, if_neg h2], fun y _ => by show qb (up C t 7 0 t 7) y = _; rw [up_eq, qb_0, decide_eq_false (by omega)]; rfl⟩ ?_ ?_) (fun M' h => Z_of h)
  · rintro i ⟨l1, M⟩ hi ⟨el, f, g⟩
    dsimp only at el f g
    subst el
    unfold N_fillLaw_b10
    dsimp only
    rw [f 27 16 (by decide) (by omega), h27, chk_pos (isTI_of rfl ht), lt1_eq, tn_nat, f t 1 (by omega) (by omega), hP, shl3 _ (by omega), n32_nat (by omega), n32_nat (by omega), if_pos (by omega), f 27 13 (by decide) (by omega), f 27 11 (by decide) (by omega), f 27 12 (by decide) (by omega), hL.1]
    have hv : Z (if ¬ n32 (R 91 b) = 0 then (S_value (C 27 11) (C 27 12) (i : Int) M).bind fun x => match x with | (r_22, M_23) => if ¬ n32 r_22 = 0 then some ((1 : Int), M_23) else some ((0 : Int), M_23) else if 0 < n32 (ishr (i : Int) 3) then some ((1 : Int), M) else some ((0 : Int), M)) (fun q => q.1 = b1 (lawY R b i) ∧ ∀ a k, a ≠ 31 → q.2 a k = M a k) := by
      rcases hL.2.1 with e | e
      · rw [e, if_neg nz0, (way_dec i (by omega)).1, n32_nat (by omega)]
        unfold lawY lawB
        rw [if_pos e]
        by_cases q : 0 < i / 8
        · rw [if_pos (by omega), decide_eq_true (by omega)]
          exact Z_of ⟨rfl, fun _ _ _ => rfl⟩
        · rw [if_neg (by omega), decide_eq_false (by omega)]
          exact Z_of ⟨rfl, fun _ _ _ => rfl⟩
      · obtain ⟨lc, len, k1, k2, k3, k4, k5, k6, k7⟩ := hL.2.2 e
        have hs : SgL (900 * b + lc) lc len M R := fun j hj => by
          obtain ⟨c, o, z1, z2, z3, z4, z5⟩ := k7 j hj
          exact ⟨c, o, z1, z2, by rw [f 29 _ (by decide) (by omega)]; exact z3, z4, z5⟩
        rw [e, if_pos nz1, k1, k2, Z_bind_iff]
        refine Z_mono (value_eq (y := i) (by omega) k5 hs k6) ?_
        rintro ⟨x, M2⟩ ⟨h1, h2⟩
        dsimp only at h1 h2
        dsimp only
        have elo : lawLo R b = 900 * b + lc := by unfold lawLo; rw [k3]; rfl
        have ele : lawLen R b = len := by unfold lawLen; rw [k4, elo]; omega
        unfold lawY lawB
        rw [if_neg (show ¬ R 91 b = 0 by omega), elo, ele, ← h1]
        by_cases q : n32 x = 0
        · rw [if_neg (not_not_intro q), decide_eq_true q]
          exact Z_of ⟨rfl, h2⟩
        · rw [if_pos q, decide_eq_false q]
          exact Z_of ⟨rfl, h2⟩
    rw [Z_bind_iff]
    refine Z_mono hv ?_
    rintro ⟨x, M2⟩ ⟨h1, h2⟩
    dsimp only at h1 h2
    subst h1
    dsimp only
    have f2 : ∀ a k, a ≠ 31 → ¬ (a = t ∧ k = 7) → M2 a k = C a k := fun a k z1 z2 => (h2 a k z1).trans (f a k z1 z2)
    cases hb : lawY R b i with
    | false =>
      rw [show b1 false = 0 from rfl, if_neg nz0, bind_some', lt1_eq]
      refine Z_of (Or.inl ⟨_, rfl, rfl, f2, fun y hy => ?_⟩)
      dsimp only
      rw [h2 t 7 (by omega), g y hy]
      by_cases q : y = i
      · subst q; rw [hb]; simp
      · rw [decide_eq_decide.mpr (show y < i ↔ y < i + 1 by omega)]
    | true =>
      have e27 : M2 27 16 = (t : Int) := (f2 27 16 (by decide) (by omega)).trans h27
      simp only [e27]
      rw [show b1 true = 1 from rfl, if_pos nz1, chk_pos (isTI_of rfl ht), lt1_eq, tn_nat, lt1_eq, bind_some', lt1_eq]
      refine Z_of (Or.inl ⟨_, rfl, rfl, fun a k z1 z2 => ?_, fun y hy => ?_⟩)
      · dsimp only
        rw [up_at, if_neg z2]
        exact f2 a k z1 z2
      · dsimp only
        rw [up_eq, qb_or, qb_bit (by omega), h2 t 7 (by omega), g y hy]
        by_cases q : y = i
        · subst q; rw [hb, decide_eq_true (show y < y + 1 by omega)]; simp
        · rw [decide_eq_false q, Bool.or_false, decide_eq_decide.mpr (show y < i ↔ y < i + 1 by omega)]
  · rintro ⟨l1, M⟩ ⟨el, f, g⟩
    dsimp only at el f g
    subst el
    unfold N_fillLaw_b10
    dsimp only
    rw [f 27 16 (by decide) (by omega), h27, chk_pos (isTI_of rfl ht), lt1_eq, tn_nat, f t 1 (by omega) (by omega), hP, shl3 _ (by omega), if_neg (by omega)]
    refine Z_of ⟨_, rfl, f, fun y hy => ?_⟩
    rw [g y (by omega), decide_eq_true hy]
    rfl
end FLAW
