/-! ===== askings: the class's count ===== -/
section ASK6
variable {t b : Nat} {C R : Mem}
def askV (R : Mem) (b r : Nat) (S : Nat → Bool) : Int := if tolB R r (64 * nwd (nF R b)) S = true then 0 else if onB R b r (64 * nwd (nF R b)) S = true then 1 else if twB R b r (64 * nwd (nF R b)) S = true then 2 else -1
theorem count_eq (ht : isT t) (hT : Town t b C R) {r : Nat} (hr : r < nR R b) {S : Nat → Bool} (hS : ∀ w, w < 64 * nwd (nF R b) → sb C 73 0 w = S w ∧ (S w = true → isB R w = true)) : Z (A_countAskings t (r : Int) C) (fun x => x.1 = askV R b r S ∧ ∀ c j, c ≠ 74 → c ≠ 75 → x.2 c j = C c j) := by
  have ht2 : t ≤ 15 := by unfold isT at ht; omega
  have hF := num_F hT.1
  have hwd := pow_wd hF.2.2
  have hW : C t 6 = (nwd (nF R b) : Int) := hT.2.1
  unfold A_countAskings
  rw [lt1_eq, lt1_eq]
  generalize hM : up (up C 74 0 ((t : Nat) : Int)) 74 4 ((r : Int) * 4) = M2
  have m0 : M2 74 0 = (t : Int) := by rw [← hM, up_k (by decide), up_eq]
  have m4 : M2 74 4 = ((4 * r : Nat) : Int) := by rw [← hM, up_eq]; omega
  have mf : ∀ c j, c ≠ 74 → M2 c j = C c j := fun c j h => by rw [← hM, up_c h, up_c h]
  clear hM
  rw [m0, chk_pos (isTI_of rfl ht), lt1_eq, tn_nat, mf t 6 (by omega), hW, chk_pos (by omega), lt1_eq, tn_nat, cpy_wup]
  generalize hM3 : wup M2 75 (Int.toNat 0) (nwd (nF R b)) (fun i => M2 73 (Int.toNat 0 + i)) = M3
  have n75 : ∀ i, i < nwd (nF R b) → M3 75 i = C 73 i := by
    intro i hi
    rw [← hM3]
    have e := wup_in (M := M2) (c := 75) (o := Int.toNat 0) (f := fun i => M2 73 (Int.toNat 0 + i)) hi
    rw [show Int.toNat 0 + i = i by omega] at e
    rw [e, mf 73 _ (by decide)]
  have nf : ∀ c j, c ≠ 75 → M3 c j = M2 c j := fun c j h => by rw [← hM3, wup_c h]
  clear hM3
  have hAX : AX t b r M3 R := ⟨ht, Town_tw (fun c j q1 q2 => (nf c j (by omega)).trans (mf c j (by omega))) hT, hr, (nf _ _ (by decide)).trans m0, (nf _ _ (by decide)).trans m4⟩
  have hSS : SSt b 0 S M3 R := fun w hw => ⟨by
    rw [← (hS w hw).1]
    unfold sb
    rw [Nat.zero_add, n75 _ (by omega)], (hS w hw).2⟩
  have hfr : ∀ c j, c ≠ 74 → c ≠ 75 → M3 c j = C c j := fun c j z1 z2 => (nf c j z2).trans (mf c j z1)
  have e1 := told_eq (o := 0) hAX (by omega) hSS
  have e2 := one_eq (o := 0) hAX (by omega) hSS
  rw [show ((0 : Nat) : Int) = 0 from rfl] at e1 e2
  unfold askV
  rw [e1, bind_some']
  cases tolB R r (64 * nwd (nF R b)) S with
  | true =>
    rw [show b1 true = 1 from rfl, if_pos nz1, if_pos rfl]
    exact Z_of ⟨rfl, hfr⟩
  | false =>
    rw [show b1 false = 0 from rfl, if_neg nz0, if_neg (by decide), e2, bind_some']
    cases hno : onB R b r (64 * nwd (nF R b)) S with
    | true =>
      rw [show b1 true = 1 from rfl, if_pos nz1, if_pos rfl]
      exact Z_of ⟨rfl, hfr⟩
    | false =>
      rw [show b1 false = 0 from rfl, if_neg nz0, if_neg (by decide), Z_bind_iff]
      refine Z_mono (two_eq hAX hSS hno) ?_
      rintro ⟨x, M4⟩ ⟨h1, h2⟩
      dsimp only at h1 h2
      dsimp only
      have hfr4 : ∀ c j, c ≠ 74 → c ≠ 75 → M4 c j = C c j := fun c j z1 z2 => (h2 c j z2).trans (hfr c j z1 z2)
      rw [h1]
      cases twB R b r (64 * nwd (nF R b)) S with
      | true =>
        rw [show b1 true = 1 from rfl, if_pos nz1, if_pos rfl]
        exact Z_of ⟨rfl, hfr4⟩
      | false =>
        rw [show b1 false = 0 from rfl, if_neg nz0, if_neg (by decide)]
        exact Z_of ⟨rfl, hfr4⟩
end ASK6
