/-! ===== askings: two questions, the class ===== -/
theorem tolB_congr {R : Mem} {r W : Nat} {S S' : Nat → Bool} (h : ∀ w, w < W → S w = S' w) : tolB R r W S = tolB R r W S' := by
  unfold tolB
  rw [anyB_congr (q := fun w => S' w && rowI R r w) (fun w hw => by rw [h w hw]), anyB_congr (p := fun w => S w && !rowI R r w) (q := fun w => S' w && !rowI R r w) (fun w hw => by rw [h w hw])]
theorem onB_congr {R : Mem} {b r W : Nat} {S S' : Nat → Bool} (h : ∀ w, w < W → S w = S' w) : onB R b r W S = onB R b r W S' := by
  unfold onB
  refine anyB_congr (fun p _ => anyB_congr (fun q _ => allB_congr (fun a _ => tolB_congr (fun w hw => ?_))))
  unfold aks
  rw [h w hw]
section ASK4
variable {t b : Nat} {C R : Mem}
theorem split_eq {r p q : Nat} {S : Nat → Bool} (h : AX t b r C R) (hS : SSt b 0 S C R) (hp : p < nP R b) (hq : q < nR R b) : Z (A_split ((4 * (12 * p + q) : Nat) : Int) C) (fun C' => SSt b 4 (aks R S p q 1) C' R ∧ SSt b 8 (aks R S p q 0) C' R ∧ SSt b 12 (aks R S p q 2) C' R ∧ SSt b 0 S C' R ∧ ∀ c j, c ≠ 75 → C' c j = C c j) := by
  obtain ⟨ht, hT, hr, h0, h4⟩ := h
  have ht2 : t ≤ 15 := by unfold isT at ht; omega
  have hF := num_F hT.1
  have hR := num_R hT.1
  have hP := num_P hT.1
  have hwd := pow_wd hF.2.2
  have hW : C t 6 = (nwd (nF R b) : Int) := hT.2.1
  have hA := fun w hw => hT.2.2.2.2.2.2.2.1 p q w hp hq hw
  unfold A_split
  rw [Z_bind_iff]
  refine it_Z (fun i st => st.1 = (i : Int) ∧ (∀ w, w < 64 * i → sb st.2 75 4 w = aks R S p q 1 w ∧ sb st.2 75 8 w = aks R S p q 0 w ∧ sb st.2 75 12 w = aks R S p q 2 w) ∧ (∀ j, j < 4 → st.2 75 j = C 75 j) ∧ ∀ c j, c ≠ 75 → st.2 c j = C c j) (nwd (nF R b)) (by unfold FUEL; omega) ⟨rfl, fun w hw => by omega, fun _ _ => rfl, fun _ _ _ => rfl⟩ ?_ ?_
  · rintro i ⟨l, M⟩ hi ⟨el, h1, h2, h3⟩
    dsimp only at el h1 h2 h3
    subst el
    unfold A_split_b2
    dsimp only
    rw [h3 _ _ (by decide), h0, chk_pos (isTI_of rfl ht), lt1_eq, tn_nat, h3 t 6 (by omega), hW, n32_nat (by omega), n32_nat (by omega), if_pos (by omega), chk_pos (by omega), chk_pos (by omega), lt1_eq, lt1_eq, chk_pos (by omega), lt1_eq, chk_pos (by omega), lt1_eq, chk_pos (by omega), lt1_eq, lt1_eq, tn_nat, tn_add, show Int.toNat (4 + (i : Int)) = 4 + i by omega, show Int.toNat (8 + (i : Int)) = 8 + i by omega, show Int.toNat (12 + (i : Int)) = 12 + i by omega, h3 (t + 10) _ (by omega), h3 (t + 11) _ (by omega), h2 i (by omega)]
    rw [up_k (show i ≠ 8 + i by omega), up_k (show i ≠ 4 + i by omega), h2 i (by omega)]
    refine Z_of (Or.inl ⟨_, rfl, rfl, fun w hw => ?_, fun j hj => ?_, fun c j hc => ?_⟩)
    · dsimp only
      by_cases y : w < 64 * i
      · obtain ⟨z1, z2, z3⟩ := h1 w y
        refine ⟨?_, ?_, ?_⟩
        · rw [← z1]; refine sb_eq ?_
          rw [up_k (by omega), up_k (by omega), up_k (by omega)]
        · rw [← z2]; refine sb_eq ?_
          rw [up_k (by omega), up_k (by omega), up_k (by omega)]
        · rw [← z3]; refine sb_eq ?_
          rw [up_k (by omega), up_k (by omega), up_k (by omega)]
      · have e1 : w / 64 = i := by omega
        have hj : w % 64 < 64 := by omega
        obtain ⟨s1, s2⟩ := hS w (by omega)
        obtain ⟨a1, a2, a3⟩ := hA w (by omega)
        unfold sb at s1 a2 a3
        rw [e1] at s1 a2 a3
        rw [Nat.zero_add] at s1
        unfold sb
        rw [e1]
        refine ⟨?_, ?_, ?_⟩
        · rw [up_k (by omega), up_k (by omega), up_eq, qb_and, s1, a2]
          unfold aks
          cases hs : S w with
          | false => rfl
          | true => rw [s2 hs]; rfl
        · rw [up_k (by omega), up_eq, qb_and, s1, a3]
          unfold aks
          cases hs : S w with
          | false => rfl
          | true => rw [s2 hs]; rfl
        · rw [up_eq, qb_and, qb_not _ hj, qb_or, qb_and, qb_and, s1, a2, a3]
          unfold aks
          cases hs : S w with
          | false => rfl
          | true =>
            rw [s2 hs]
            rcases a1 (s2 hs) with e | e | e <;> rw [e] <;> rfl
    · dsimp only
      rw [up_k (by omega), up_k (by omega), up_k (by omega)]
      exact h2 j hj
    · dsimp only
      rw [up_c hc, up_c hc, up_c hc]
      exact h3 c j hc
  · rintro ⟨l, M⟩ ⟨el, h1, h2, h3⟩
    dsimp only at el h1 h2 h3
    subst el
    unfold A_split_b2
    dsimp only
    rw [h3 _ _ (by decide), h0, chk_pos (isTI_of rfl ht), lt1_eq, tn_nat, h3 t 6 (by omega), hW, if_neg (by omega)]
    have sub : ∀ a w, w < 64 * nwd (nF R b) → aks R S p q a w = true → isB R w = true := by
      intro a w hw hs
      unfold aks at hs
      rw [Bool.and_eq_true] at hs
      exact (hS w hw).2 hs.1
    refine Z_of ⟨_, rfl, Z_of ⟨fun w hw => ⟨(h1 w hw).1, sub 1 w hw⟩, fun w hw => ⟨(h1 w hw).2.1, sub 0 w hw⟩, fun w hw => ⟨(h1 w hw).2.2, sub 2 w hw⟩, fun w hw => ⟨?_, (hS w hw).2⟩, h3⟩⟩
    rw [← (hS w hw).1]
    exact sb_eq (h2 _ (by omega))
theorem whole_eq {r o : Nat} (h : AX t b r C R) (ho : o + 4 ≤ 16) : ∃ wh, A_isWhole (o : Int) C = some (b1 wh) ∧ (wh = true → ∀ w, w < 64 * nwd (nF R b) → sb C 75 o w = sb C 75 0 w) := by
  obtain ⟨ht, hT, hr, h0, h4⟩ := h
  have hF := num_F hT.1
  have hwd := pow_wd hF.2.2
  have hW : C t 6 = (nwd (nF R b) : Int) := hT.2.1
  have L : Z (it (A_isWhole_b2 (o : Int) C) FUEL 0) (fun x => (x = .inl () ∧ ∀ w, w < 64 * nwd (nF R b) → sb C 75 o w = sb C 75 0 w) ∨ x = .inr 0) := by
    refine it_Z (fun i l => l = (i : Int) ∧ ∀ w, w < 64 * i → sb C 75 o w = sb C 75 0 w) (nwd (nF R b)) (by unfold FUEL; omega) ⟨rfl, fun w hw => by omega⟩ ?_ ?_
    · rintro i l hi ⟨rfl, h1⟩
      unfold A_isWhole_b2
      dsimp only
      rw [h0, chk_pos (isTI_of rfl ht), lt1_eq, tn_nat, hW, n32_nat (by omega), n32_nat (by omega), if_pos (by omega), chk_pos (by omega), chk_pos (by omega), tn_add, tn_nat]
      by_cases y : n64 (C 75 (o + i)) = n64 (C 75 i)
      · rw [if_neg (fun z => z y), lt1_eq]
        refine Z_of (Or.inl ⟨_, rfl, rfl, fun w hw => ?_⟩)
        by_cases y2 : w < 64 * i
        · exact h1 w y2
        · unfold sb
          rw [show w / 64 = i by omega, Nat.zero_add]
          exact n64_lb.mp y _ (by omega)
      · rw [if_pos y]
        exact Z_of (Or.inr ⟨_, rfl, Or.inr rfl⟩)
    · rintro l ⟨rfl, h1⟩
      unfold A_isWhole_b2
      dsimp only
      rw [h0, chk_pos (isTI_of rfl ht), lt1_eq, tn_nat, hW, if_neg (by omega)]
      exact Z_of ⟨_, rfl, Or.inl ⟨rfl, h1⟩⟩
  obtain ⟨x, e, h⟩ := L
  unfold A_isWhole
  rw [e, bind_some']
  rcases h with ⟨rfl, h⟩ | rfl
  · exact ⟨true, rfl, fun _ => h⟩
  · exact ⟨false, rfl, fun z => by cases z⟩
end ASK4
