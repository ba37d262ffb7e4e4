/-! ===== askings: the class's answer ===== -/
section ASK5
variable {t b : Nat} {C R : Mem}
def tOr (R : Mem) (b r : Nat) (S : Nat → Bool) : Bool := tolB R r (64 * nwd (nF R b)) S || onB R b r (64 * nwd (nF R b)) S
theorem each_eq {r : Nat} {S : Nat → Bool} {Sx : Nat → Nat → Bool} (h : AX t b r C R) (hS : SSt b 0 S C R) (hx : ∀ i, i < 3 → SSt b (4 + 4 * i) (Sx i) C R) (hno : onB R b r (64 * nwd (nF R b)) S = false) : A_eachIsTold C = some (b1 (allB (fun i => tOr R b r (Sx i)) 3)) := by
  have body : ∀ i, i < 3 → A_eachIsTold_b2 C ((4 + 4 * i : Nat) : Int) = some (if tOr R b r (Sx i) = true then .inl ((4 + 4 * (i + 1) : Nat) : Int) else .inr (.inr 0)) := by
    intro i hi
    unfold A_eachIsTold_b2
    dsimp only
    rw [n32_nat (by omega), if_pos (by omega), told_eq h (by omega) (hx i hi), bind_some', jn_eq]
    unfold tOr
    cases hT : tolB R r (64 * nwd (nF R b)) (Sx i) with
    | true =>
      rw [show b1 true = 1 from rfl, if_neg (by decide), lt1_eq, Bool.true_or, if_pos rfl]
      show (some (Sum.inl (((4 + 4 * i : Nat) : Int) + 4)) : Option (Int ⊕ (Unit ⊕ Int))) = _
      rw [show ((4 + 4 * i : Nat) : Int) + 4 = ((4 + 4 * (i + 1) : Nat) : Int) by omega]
    | false =>
      obtain ⟨wh, e1, e2⟩ := whole_eq (o := 4 + 4 * i) h (by omega)
      rw [show b1 false = 0 from rfl, if_pos (by decide), e1, bind_some', Bool.false_or]
      cases wh with
      | true =>
        have hc : onB R b r (64 * nwd (nF R b)) (Sx i) = onB R b r (64 * nwd (nF R b)) S := onB_congr (fun w hw => by
          rw [← (hx i hi w hw).1, ← (hS w hw).1]
          exact e2 rfl w hw)
        rw [show b1 true = 1 from rfl, if_neg (by decide), bind_some', if_pos rfl, hc, hno, if_neg (by decide)]
      | false =>
        rw [show b1 false = 0 from rfl, if_pos (by decide), one_eq h (by omega) (hx i hi), bind_some']
        cases onB R b r (64 * nwd (nF R b)) (Sx i) with
        | true =>
          rw [show b1 true = 1 from rfl, if_neg (by decide), bind_some', if_neg (by decide), lt1_eq, if_pos rfl]
          show (some (Sum.inl (((4 + 4 * i : Nat) : Int) + 4)) : Option (Int ⊕ (Unit ⊕ Int))) = _
          rw [show ((4 + 4 * i : Nat) : Int) + 4 = ((4 + 4 * (i + 1) : Nat) : Int) by omega]
        | false =>
          rw [show b1 false = 0 from rfl, if_pos (by decide), bind_some', if_pos rfl, if_neg (by decide)]
  have F := it_seekS (body := A_eachIsTold_b2 C) (fun i => ((4 + 4 * i : Nat) : Int)) (p := fun i => !tOr R b r (Sx i)) (v := fun _ => (0 : Int)) 3 (by unfold FUEL; omega) ?_ ?_ ?_
  · unfold A_eachIsTold allB
    rw [show ((4 + 4 * 0 : Nat) : Int) = 4 from rfl] at F
    cases hA : anyB (fun i => !tOr R b r (Sx i)) 3 with
    | false =>
      rw [F.1 hA, bind_some']
      rfl
    | true =>
      obtain ⟨i, -, -, -, e2⟩ := F.2 hA
      rw [e2, bind_some']
      rfl
  · intro i hi _ hy
    rw [body i hi, if_neg (by simpa using hy)]
  · intro i hi _ hy
    rw [body i hi, if_pos (by simpa using hy)]
  · intro _
    unfold A_eachIsTold_b2
    dsimp only
    rw [if_neg (by decide)]
theorem AX_keep {r : Nat} {M : Mem} (h : AX t b r C R) (hM : ∀ c j, c ≠ 75 → M c j = C c j) : AX t b r M R := by
  obtain ⟨ht, hT, hr, h0, h4⟩ := h
  exact ⟨ht, Town_tw (fun c j q1 q2 => hM c j (by unfold isT at ht; omega)) hT, hr, (hM _ _ (by decide)).trans h0, (hM _ _ (by decide)).trans h4⟩
def twQ (R : Mem) (b r : Nat) (S : Nat → Bool) (p q : Nat) : Bool := allB (fun a => tolB R r (64 * nwd (nF R b)) (aks R S p q a) || onB R b r (64 * nwd (nF R b)) (aks R S p q a)) 3
theorem two_eq {r : Nat} {S : Nat → Bool} (h : AX t b r C R) (hS : SSt b 0 S C R) (hno : onB R b r (64 * nwd (nF R b)) S = false) : Z (A_twoAreEnough C) (fun x => x.1 = b1 (twB R b r (64 * nwd (nF R b)) S) ∧ ∀ c j, c ≠ 75 → x.2 c j = C c j) := by
  have h' := h
  obtain ⟨ht, hT, hr, h0, h4⟩ := h
  have ht2 : t ≤ 15 := by unfold isT at ht; omega
  have hR := num_R hT.1
  have hP := num_P hT.1
  have one : ∀ p q (M : Mem), p < nP R b → q < nR R b → SSt b 0 S M R → (∀ c j, c ≠ 75 → M c j = C c j) → ∃ M', A_split ((4 * (12 * p + q) : Nat) : Int) M = some M' ∧ A_eachIsTold M' = some (b1 (twQ R b r S p q)) ∧ SSt b 0 S M' R ∧ ∀ c j, c ≠ 75 → M' c j = C c j := by
    intro p q M hp hq hSM hM
    have hAX := AX_keep h' hM
    obtain ⟨M', e, s1, s2, s3, s4, s5⟩ := split_eq hAX hSM hp hq
    have hAX' := AX_keep hAX s5
    refine ⟨M', e, ?_, s4, fun c j hc => (s5 c j hc).trans (hM c j hc)⟩
    rw [each_eq (Sx := fun i => if i = 0 then aks R S p q 1 else if i = 1 then aks R S p q 0 else aks R S p q 2) hAX' s4 ?_ hno]
    · congr 2
      unfold twQ tOr
      simp only [allB_succ]
      show (((true && _) && _) && _) = (((true && _) && _) && _)
      simp only [Bool.true_and, if_true, show ¬ (1 = 0) by decide, if_false, show ¬ (2 = 0) by decide, show ¬ (2 = 1) by decide]
      rw [Bool.and_comm (tolB R r (64 * nwd (nF R b)) (aks R S p q 1) || onB R b r (64 * nwd (nF R b)) (aks R S p q 1))]
    · intro i hi
      rcases (show i = 0 ∨ i = 1 ∨ i = 2 by omega) with rfl | rfl | rfl
      · exact s1
      · exact s2
      · exact s3
  have inner : ∀ p (M : Mem), p < nP R b → SSt b 0 S M R → (∀ c j, c ≠ 75 → M c j = C c j) → Z (it (A_twoAreEnough_b15 (p : Int)) FUEL (0, M)) (fun x => (∃ M', x = .inl M' ∧ anyB (twQ R b r S p) (nR R b) = false ∧ SSt b 0 S M' R ∧ ∀ c j, c ≠ 75 → M' c j = C c j) ∨ (∃ M', x = .inr (1, M') ∧ anyB (twQ R b r S p) (nR R b) = true ∧ ∀ c j, c ≠ 75 → M' c j = C c j)) := by
    intro p M hp hSM hM
    refine it_Z (fun q st => st.1 = (q : Int) ∧ anyB (twQ R b r S p) q = false ∧ SSt b 0 S st.2 R ∧ ∀ c j, c ≠ 75 → st.2 c j = C c j) (nR R b) (by unfold FUEL; omega) ⟨rfl, rfl, hSM, hM⟩ ?_ ?_
    · rintro q ⟨l, M1⟩ hq ⟨el, h1, h2, h3⟩
      dsimp only at el h2 h3
      subst el
      obtain ⟨M2, e1, e2, e3, e4⟩ := one p q M1 hp hq h2 h3
      unfold A_twoAreEnough_b15
      dsimp only
      rw [h3 _ _ (by decide), h0, chk_pos (isTI_of rfl ht), lt1_eq, tn_nat, h3 t 2 (by omega), hR.2.1, n32_nat (by omega), n32_nat (by omega), if_pos (by omega), place_eq, bind_some', e1, bind_some', e2, bind_some']
      cases hy : twQ R b r S p q with
      | true =>
        rw [show b1 true = 1 from rfl, if_pos nz1]
        exact Z_of (Or.inr ⟨_, rfl, Or.inr ⟨M2, rfl, anyB_iff.mpr ⟨q, hq, hy⟩, e4⟩⟩)
      | false =>
        rw [show b1 false = 0 from rfl, if_neg nz0, lt1_eq]
        refine Z_of (Or.inl ⟨_, rfl, rfl, ?_, e3, e4⟩)
        show (anyB (twQ R b r S p) q || twQ R b r S p q) = false
        rw [h1, hy]; rfl
    · rintro ⟨l, M1⟩ ⟨el, h1, h2, h3⟩
      dsimp only at el h2 h3
      subst el
      unfold A_twoAreEnough_b15
      dsimp only
      rw [h3 _ _ (by decide), h0, chk_pos (isTI_of rfl ht), lt1_eq, tn_nat, h3 t 2 (by omega), hR.2.1, if_neg (by omega)]
      exact Z_of ⟨_, rfl, Or.inl ⟨M1, rfl, h1, h2, h3⟩⟩
  have etw : twB R b r (64 * nwd (nF R b)) S = anyB (fun p => anyB (twQ R b r S p) (nR R b)) (nP R b) := rfl
  rw [etw]
  unfold A_twoAreEnough
  rw [Z_bind_iff]
  refine it_Z (fun p st => st.1 = (p : Int) ∧ anyB (fun p => anyB (twQ R b r S p) (nR R b)) p = false ∧ SSt b 0 S st.2 R ∧ ∀ c j, c ≠ 75 → st.2 c j = C c j) (nP R b) (by unfold FUEL; omega) ⟨rfl, rfl, hS, fun _ _ _ => rfl⟩ ?_ ?_
  · rintro p ⟨l, M1⟩ hp ⟨el, h1, h2, h3⟩
    dsimp only at el h2 h3
    subst el
    unfold A_twoAreEnough_b2
    dsimp only
    rw [h3 _ _ (by decide), h0, chk_pos (isTI_of rfl ht), lt1_eq, tn_nat, h3 t 1 (by omega), hP.2.1, n32_nat (by omega), n32_nat (by omega), if_pos (by omega), Z_bind_iff]
    refine Z_mono (inner p M1 hp h2 h3) ?_
    rintro x (⟨M2, rfl, y1, y2, y3⟩ | ⟨M2, rfl, y1, y3⟩)
    · dsimp only
      rw [lt1_eq]
      refine Z_of (Or.inl ⟨_, rfl, rfl, ?_, y2, y3⟩)
      show (anyB (fun p => anyB (twQ R b r S p) (nR R b)) p || anyB (twQ R b r S p) (nR R b)) = false
      rw [h1, y1]; rfl
    · refine Z_of (Or.inr ⟨_, rfl, Z_of ⟨?_, y3⟩⟩)
      rw [anyB_iff.mpr ⟨p, hp, y1⟩]
      rfl
  · rintro ⟨l, M1⟩ ⟨el, h1, h2, h3⟩
    dsimp only at el h2 h3
    subst el
    unfold A_twoAreEnough_b2
    dsimp only
    rw [h3 _ _ (by decide), h0, chk_pos (isTI_of rfl ht), lt1_eq, tn_nat, h3 t 1 (by omega), hP.2.1, if_neg (by omega)]
    refine Z_of ⟨_, rfl, Z_of ⟨?_, h3⟩⟩
    rw [h1]
    rfl
end ASK5
