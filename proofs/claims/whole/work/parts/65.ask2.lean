/-! ===== askings: what one question tells, the class ===== -/
def mk3 (x y z : Bool) : Int := (if x then 1 else 0) + (if y then 2 else 0) + (if z then 4 else 0)
theorem mk3_or (x y z x' y' z' : Bool) : ior' (mk3 x y z) (mk3 x' y' z') = mk3 (x || x') (y || y') (z || z') := by
  cases x <;> cases y <;> cases z <;> cases x' <;> cases y' <;> cases z' <;> decide
theorem mk3_and (x y z x' y' z' : Bool) : (n32 (iand (mk3 x y z) (mk3 x' y' z')) = 0) ↔ ((x && x') || (y && y') || (z && z')) = false := by
  cases x <;> cases y <;> cases z <;> cases x' <;> cases y' <;> cases z' <;> decide
theorem mk3_bits (x y z : Bool) : ior' (ior' (if x then 1 else 0) (if y then 2 else 0)) (if z then 4 else 0) = mk3 x y z := by
  cases x <;> cases y <;> cases z <;> decide
theorem word_any2 (x : Int) (v : Int) : (if ¬ n64 x = n64 0 then some v else some (0 : Int)) = some (if anyB (fun j => qb x j) 64 then v else 0) := by
  cases h : anyB (fun j => qb x j) 64 with
  | false =>
    rw [if_neg (fun z => z (n64_z.mpr (fun i hi => anyB_no.mp h i hi)))]
    rfl
  | true =>
    obtain ⟨i, hi, hq⟩ := anyB_iff.mp h
    rw [if_pos (fun z => by have := n64_z.mp z i hi; rw [hq] at this; cases this)]
    rfl
theorem answersIn_eq (s y n : Int) (M : Mem) : A_answersIn s y n M = some (mk3 (anyB (fun j => qb (jand s y) j) 64) (anyB (fun j => qb (jand s n) j) 64) (anyB (fun j => qb (jand s (jxor (jor y n) (-1))) j) 64)) := by
  unfold A_answersIn
  rw [word_any2, bind_some', word_any2, bind_some', word_any2, bind_some', mk3_bits]
def aR (R : Mem) (r p q : Nat) (S : Nat → Bool) (a i : Nat) : Bool := anyB (fun w => aks R S p q a w && rowI R r w) (64 * i)
def aN (R : Mem) (r p q : Nat) (S : Nat → Bool) (a i : Nat) : Bool := anyB (fun w => aks R S p q a w && !rowI R r w) (64 * i)
theorem aR_mono {R : Mem} {r p q : Nat} {S : Nat → Bool} {a i j : Nat} (h : aR R r p q S a i = true) (hij : i ≤ j) : aR R r p q S a j = true := by
  unfold aR at h ⊢
  obtain ⟨w, h1, h2⟩ := anyB_iff.mp h
  exact anyB_iff.mpr ⟨w, by omega, h2⟩
theorem aN_mono {R : Mem} {r p q : Nat} {S : Nat → Bool} {a i j : Nat} (h : aN R r p q S a i = true) (hij : i ≤ j) : aN R r p q S a j = true := by
  unfold aN at h ⊢
  obtain ⟨w, h1, h2⟩ := anyB_iff.mp h
  exact anyB_iff.mpr ⟨w, by omega, h2⟩
def cmB (R : Mem) (r p q : Nat) (S : Nat → Bool) (i : Nat) : Bool := (aR R r p q S 1 i && aN R r p q S 1 i) || (aR R r p q S 0 i && aN R r p q S 0 i) || (aR R r p q S 2 i && aN R r p q S 2 i)
theorem cmB_mono {R : Mem} {r p q : Nat} {S : Nat → Bool} {i j : Nat} (h : cmB R r p q S i = true) (hij : i ≤ j) : cmB R r p q S j = true := by
  unfold cmB at h ⊢
  simp only [Bool.or_eq_true, Bool.and_eq_true] at h ⊢
  rcases h with (⟨h1, h2⟩ | ⟨h1, h2⟩) | ⟨h1, h2⟩
  · exact Or.inl (Or.inl ⟨aR_mono h1 hij, aN_mono h2 hij⟩)
  · exact Or.inl (Or.inr ⟨aR_mono h1 hij, aN_mono h2 hij⟩)
  · exact Or.inr ⟨aR_mono h1 hij, aN_mono h2 hij⟩
theorem cmB_tol {R : Mem} {r p q W : Nat} {S : Nat → Bool} : allB (fun a => tolB R r (64 * W) (aks R S p q a)) 3 = !cmB R r p q S W := by
  unfold cmB aR aN tolB
  show (allB (fun a => _) 3) = _
  rw [allB_succ, allB_succ, allB_succ]
  show (((true && _) && _) && _) = _
  cases anyB (fun w => aks R S p q 0 w && rowI R r w) (64 * W) <;> cases anyB (fun w => aks R S p q 0 w && !rowI R r w) (64 * W) <;> cases anyB (fun w => aks R S p q 1 w && rowI R r w) (64 * W) <;> cases anyB (fun w => aks R S p q 1 w && !rowI R r w) (64 * W) <;> cases anyB (fun w => aks R S p q 2 w && rowI R r w) (64 * W) <;> cases anyB (fun w => aks R S p q 2 w && !rowI R r w) (64 * W) <;> rfl
section ASK2
variable {t b : Nat} {C R : Mem}
theorem A_tells_eq (ht : isT t) {r o W pl p q : Nat} {S : Nat → Bool} (h0 : C 74 0 = (t : Int)) (h4 : C 74 4 = ((4 * r : Nat) : Int)) (hW : C t 6 = (W : Int)) (hW4 : W ≤ 4) (hr : r < 12) (ho : o + W ≤ 16) (hpl : pl + W ≤ 384) (hS : ∀ w, w < 64 * W → sb C 75 o w = S w) (hrow : ∀ w, w < 64 * W → S w = true → sb C (t + 9) (4 * r) w = rowI R r w) (hy : ∀ w, w < 64 * W → S w = true → sb C (t + 10) pl w = decide (ansV R p q w = 1)) (hn : ∀ w, w < 64 * W → S w = true → sb C (t + 11) pl w = decide (ansV R p q w = 0)) (ha : ∀ w, w < 64 * W → S w = true → ansV R p q w = 0 ∨ ansV R p q w = 1 ∨ ansV R p q w = 2) : A_tells (o : Int) (pl : Int) C = some (b1 (allB (fun a => tolB R r (64 * W) (aks R S p q a)) 3)) := by
  have L : Z (it (A_tells_b8 (o : Int) (pl : Int) C) FUEL (0, 0, 0)) (fun x => (x = .inl () ∧ cmB R r p q S W = false) ∨ (x = .inr 0 ∧ cmB R r p q S W = true)) := by
    refine it_Z (fun i st => st.1 = mk3 (aR R r p q S 1 i) (aR R r p q S 0 i) (aR R r p q S 2 i) ∧ st.2.1 = mk3 (aN R r p q S 1 i) (aN R r p q S 0 i) (aN R r p q S 2 i) ∧ st.2.2 = (i : Int) ∧ cmB R r p q S i = false) W (by unfold FUEL; omega) ⟨rfl, rfl, rfl, rfl⟩ ?_ ?_
    · rintro i ⟨x, y, l⟩ hi ⟨e1, e2, el, hc⟩
      dsimp only at e1 e2 el
      subst e1 e2 el
      unfold A_tells_b8
      dsimp only
      rw [h0, chk_pos (isTI_of rfl ht), lt1_eq, tn_nat, hW, n32_nat (by omega), n32_nat (by omega), if_pos (by omega), chk_pos (by omega), lt1_eq, chk_pos (by omega), lt1_eq, lt1_eq, h4, chk_pos (by omega), tn_add, tn_add, tn_add, answersIn_eq, bind_some', lt1_eq, mk3_or, answersIn_eq, bind_some', lt1_eq, mk3_or]
      have b0 : ∀ (c o' j : Nat), j < 64 → qb (C c (o' + i)) j = sb C c o' (64 * i + j) := by
        intro c o' j hj
        unfold sb
        rw [show (64 * i + j) / 64 = i by omega, show (64 * i + j) % 64 = j by omega]
      have stepR : ∀ a (wd : Int), (∀ j, j < 64 → qb wd j = (aks R S p q a (64 * i + j) && rowI R r (64 * i + j))) → (aR R r p q S a i || anyB (fun j => qb wd j) 64) = aR R r p q S a (i + 1) := by
        intro a wd h
        unfold aR
        rw [show 64 * (i + 1) = 64 * i + 64 by omega, anyB_add]
        congr 1
        exact anyB_congr h
      have stepN : ∀ a (wd : Int), (∀ j, j < 64 → qb wd j = (aks R S p q a (64 * i + j) && !rowI R r (64 * i + j))) → (aN R r p q S a i || anyB (fun j => qb wd j) 64) = aN R r p q S a (i + 1) := by
        intro a wd h
        unfold aN
        rw [show 64 * (i + 1) = 64 * i + 64 by omega, anyB_add]
        congr 1
        exact anyB_congr h
      rw [stepR 1, stepR 0, stepR 2, stepN 1, stepN 0, stepN 2]
      · by_cases z : n32 (iand (mk3 (aR R r p q S 1 (i + 1)) (aR R r p q S 0 (i + 1)) (aR R r p q S 2 (i + 1))) (mk3 (aN R r p q S 1 (i + 1)) (aN R r p q S 0 (i + 1)) (aN R r p q S 2 (i + 1)))) = 0
        · rw [if_neg (fun h => h z), lt1_eq]
          exact Z_of (Or.inl ⟨_, rfl, rfl, rfl, rfl, (mk3_and _ _ _ _ _ _).mp z⟩)
        · rw [if_pos z]
          refine Z_of (Or.inr ⟨_, rfl, Or.inr ⟨rfl, ?_⟩⟩)
          refine cmB_mono (i := i + 1) ?_ (by omega)
          cases h : cmB R r p q S (i + 1) with
          | true => rfl
          | false => exact absurd ((mk3_and _ _ _ _ _ _).mpr h) z
      all_goals
        intro j hj
        simp only [qb_and, qb_not _ hj, qb_or, b0 _ _ j hj, hS (64 * i + j) (by omega)]
        unfold aks
        cases hs : S (64 * i + j) with
        | false => rfl
        | true =>
          have r1 := hrow (64 * i + j) (by omega) hs
          have r2 := hy (64 * i + j) (by omega) hs
          have r3 := hn (64 * i + j) (by omega) hs
          simp only [r1, r2, r3]
          rcases ha (64 * i + j) (by omega) hs with e | e | e <;> simp only [e] <;> cases rowI R r (64 * i + j) <;> decide
    · rintro ⟨x, y, l⟩ ⟨e1, e2, el, hc⟩
      dsimp only at e1 e2 el
      subst e1 e2 el
      unfold A_tells_b8
      dsimp only
      rw [h0, chk_pos (isTI_of rfl ht), lt1_eq, tn_nat, hW, if_neg (by omega)]
      exact Z_of ⟨_, rfl, Or.inl ⟨rfl, hc⟩⟩
  rw [cmB_tol]
  obtain ⟨x, e, h⟩ := L
  unfold A_tells
  rw [e, bind_some']
  rcases h with ⟨rfl, h⟩ | ⟨rfl, h⟩
  · rw [h]; rfl
  · rw [h]; rfl
end ASK2
