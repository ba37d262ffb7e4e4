/-! ===== askings: one question, the class ===== -/
section ASK3
variable {t b : Nat} {C R : Mem}
def AX (t b r : Nat) (C R : Mem) : Prop := isT t ∧ Town t b C R ∧ r < nR R b ∧ C 74 0 = (t : Int) ∧ C 74 4 = ((4 * r : Nat) : Int)
def SSt (b o : Nat) (S : Nat → Bool) (C R : Mem) : Prop := ∀ w, w < 64 * nwd (nF R b) → sb C 75 o w = S w ∧ (S w = true → isB R w = true)
theorem isB_lt (hT : Town t b C R) {w : Nat} (hw : w < 256) (h : isB R w = true) : w < 2 ^ nF R b := by
  refine Classical.byContradiction (fun z => ?_)
  have := hT.2.2.2.2.2.1.2.1 w (by omega) hw
  unfold isB at h
  rw [this] at h
  cases h
theorem told_eq {r o : Nat} {S : Nat → Bool} (h : AX t b r C R) (ho : o + 4 ≤ 16) (hS : SSt b o S C R) : A_isTold (o : Int) C = some (b1 (tolB R r (64 * nwd (nF R b)) S)) := by
  obtain ⟨ht, hT, hr, h0, h4⟩ := h
  have hF := num_F hT.1
  have hR := num_R hT.1
  have hwd := pow_wd hF.2.2
  refine A_isTold_eq ht h0 h4 hT.2.1 (by omega) (by omega) (by omega) (fun w hw => (hS w hw).1) (fun w hw hs => ?_)
  have hB := (hS w hw).2 hs
  exact (hT.2.2.2.2.2.2.1 r w hr (isB_lt hT (by omega) hB) hB).2
theorem tells_eq {r o p q : Nat} {S : Nat → Bool} (h : AX t b r C R) (ho : o + 4 ≤ 16) (hS : SSt b o S C R) (hp : p < nP R b) (hq : q < nR R b) : A_tells (o : Int) ((4 * (12 * p + q) : Nat) : Int) C = some (b1 (allB (fun a => tolB R r (64 * nwd (nF R b)) (aks R S p q a)) 3)) := by
  obtain ⟨ht, hT, hr, h0, h4⟩ := h
  have hF := num_F hT.1
  have hR := num_R hT.1
  have hP := num_P hT.1
  have hwd := pow_wd hF.2.2
  refine A_tells_eq ht h0 h4 hT.2.1 (by omega) (by omega) (by omega) (by omega) (fun w hw => (hS w hw).1) (fun w hw hs => ?_) (fun w hw hs => ?_) (fun w hw hs => ?_) (fun w hw hs => ?_)
  · have hB := (hS w hw).2 hs
    exact (hT.2.2.2.2.2.2.1 r w hr (isB_lt hT (by omega) hB) hB).2
  · have hB := (hS w hw).2 hs
    have := (hT.2.2.2.2.2.2.2.1 p q w hp hq hw).2.1
    rw [this, hB, Bool.true_and]
  · have hB := (hS w hw).2 hs
    have := (hT.2.2.2.2.2.2.2.1 p q w hp hq hw).2.2
    rw [this, hB, Bool.true_and]
  · have hB := (hS w hw).2 hs
    have := (hT.2.2.2.2.2.2.2.1 p q w hp hq hw).1 hB
    omega
theorem place_eq (p q : Nat) (M : Mem) : T_place (p : Int) (q : Int) M = some ((4 * (12 * p + q) : Nat) : Int) := by
  unfold T_place
  congr 1
  omega
theorem one_eq {r o : Nat} {S : Nat → Bool} (h : AX t b r C R) (ho : o + 4 ≤ 16) (hS : SSt b o S C R) : A_oneIsEnough (o : Int) C = some (b1 (onB R b r (64 * nwd (nF R b)) S)) := by
  have h' := h
  obtain ⟨ht, hT, hr, h0, h4⟩ := h
  have hR := num_R hT.1
  have hP := num_P hT.1
  have inner : ∀ p, p < nP R b → ((anyB (fun q => allB (fun a => tolB R r (64 * nwd (nF R b)) (aks R S p q a)) 3) (nR R b) = false → it (A_oneIsEnough_b15 (o : Int) C (p : Int) t) FUEL 0 = some (.inl ())) ∧ (anyB (fun q => allB (fun a => tolB R r (64 * nwd (nF R b)) (aks R S p q a)) 3) (nR R b) = true → it (A_oneIsEnough_b15 (o : Int) C (p : Int) t) FUEL 0 = some (.inr 1))) := by
    intro p hp
    have F := it_find (body := A_oneIsEnough_b15 (o : Int) C (p : Int) t) (p := fun q => allB (fun a => tolB R r (64 * nwd (nF R b)) (aks R S p q a)) 3) (v := fun _ => (1 : Int)) (nR R b) (by unfold FUEL; omega) ?_ ?_ ?_
    · refine ⟨F.1, fun e => ?_⟩
      obtain ⟨i, -, -, -, e2⟩ := F.2 e
      exact e2
    · intro q hq hy
      unfold A_oneIsEnough_b15
      dsimp only
      rw [hR.2.1, n32_nat (by omega), n32_nat (by omega), if_pos (by omega), place_eq, bind_some', tells_eq h' ho hS hp hq, bind_some', hy]
      rfl
    · intro q hq hy
      unfold A_oneIsEnough_b15
      dsimp only
      rw [hR.2.1, n32_nat (by omega), n32_nat (by omega), if_pos (by omega), place_eq, bind_some', tells_eq h' ho hS hp hq, bind_some', hy]
      rfl
    · unfold A_oneIsEnough_b15
      dsimp only
      rw [hR.2.1, if_neg (by omega)]
  have G := it_find (body := A_oneIsEnough_b2 (o : Int) C) (p := fun p => anyB (fun q => allB (fun a => tolB R r (64 * nwd (nF R b)) (aks R S p q a)) 3) (nR R b)) (v := fun _ => (1 : Int)) (nP R b) (by unfold FUEL; omega) ?_ ?_ ?_
  · unfold A_oneIsEnough onB
    cases hA : anyB (fun p => anyB (fun q => allB (fun a => tolB R r (64 * nwd (nF R b)) (aks R S p q a)) 3) (nR R b)) (nP R b) with
    | false =>
      rw [G.1 hA, bind_some']
      rfl
    | true =>
      obtain ⟨i, -, -, -, e2⟩ := G.2 hA
      rw [e2, bind_some']
      rfl
  · intro p hp hy
    unfold A_oneIsEnough_b2
    dsimp only
    rw [h0, chk_pos (isTI_of rfl ht), lt1_eq, tn_nat, hP.2.1, n32_nat (by omega), n32_nat (by omega), if_pos (by omega), (inner p hp).2 hy, bind_some']
  · intro p hp hy
    unfold A_oneIsEnough_b2
    dsimp only
    rw [h0, chk_pos (isTI_of rfl ht), lt1_eq, tn_nat, hP.2.1, n32_nat (by omega), n32_nat (by omega), if_pos (by omega), (inner p hp).1 hy, bind_some']
    rfl
  · unfold A_oneIsEnough_b2
    dsimp only
    rw [h0, chk_pos (isTI_of rfl ht), lt1_eq, tn_nat, hP.2.1, if_neg (by omega)]
end ASK3
