/-! ===== operation: town, both ways ===== -/
section OPT
variable {t b n m : Nat} {C C' R R' : Mem}
theorem inv_bad (ht : isT t) (h12 : C 1 2 = (t : Int)) (h13 : C 1 3 = ((18 - t : Nat) : Int)) (hb : b < 2) (h38 : R 81 38 = (b : Int)) (hTm : TimeR C R) (hK : KeptR C) (hTown : Town t b C R) (m1 : m ≤ 40) (m2 : C 42 0 = (m : Int)) (m3 : R 81 57 = (m : Int)) (m4 : SayR 42 116 117 118 119 120 121 0 m t b C R) (hBox : BoxR t b C R) (hc : ∀ c k, PC (18 - t) c → ¬ (c = 1 ∧ k = 1) → C' c k = C c k) (hc11 : C' 1 1 = 0) (hr : ∀ c k, PBx (1 - b) c k → R' c k = R c k) (r38 : R' 81 38 = R 81 38) (r2 : R' 81 2 = 0) (r57 : R' 81 57 = R 81 57) (r58 : R' 81 58 = R 81 58) (hF : FaultR C' R') : Inv C' R' := by
  have ht2 : t = 3 ∨ t = 15 := ht
  have hbd : (1 - b) + b = 1 := by omega
  have hN := hTown.1
  have hT : nT R b ≤ 12 := by have := hN.2.2.2.1; unfold nT; omega
  have hL : LawOK R b := hTown.2.2.2.2.2.2.2.2.1
  have sy : ∀ {s cs cr ct cu ca cy o m : Nat}, 41 ≤ s → (111 ≤ cs ∧ 111 ≤ cr ∧ 111 ≤ ct ∧ 111 ≤ cu ∧ 111 ≤ ca ∧ 111 ≤ cy) → SayR s cs cr ct cu ca cy o m t b C R → SayR s cs cr ct cu ca cy o m t b C' R' := fun hs hcs hi => SayR_sb hbd hr hT hL (fun c k z1 z2 => hc c k (by unfold PC; omega) (by omega)) hcs hi
  refine ⟨t, b, ht, ?_, ?_, hb, r38.trans h38, ⟨0, hc11, r2, by omega, fun i hi => by omega⟩, ?_, hF, fun i hi => ?_, Town_sb hbd hr (fun c k z1 z2 => hc c k (by unfold PC; omega) (by omega)) hTown, ⟨m, m1, ?_, r57.trans m3, sy (by omega) (by omega) m4⟩, fun x hx => ?_⟩
  · rw [hc _ _ (by unfold PC; omega) (by omega)]; exact h12
  · rw [hc _ _ (by unfold PC; omega) (by omega)]; exact h13
  · unfold TimeR
    rw [hc _ _ (by unfold PC; omega) (by omega), r58]
    exact hTm
  · rw [hc _ _ (by unfold PC; omega) (by omega)]; exact hK i hi
  · rw [hc _ _ (by unfold PC; omega) (by omega)]; exact m2
  · rw [hc _ _ (by unfold PC; omega) (by omega), hr 132 _ (by unfold PBx PB; omega)]
    rcases hBox x hx with ⟨h1, h2⟩ | ⟨h1, m', h2, h3, h4, h5⟩
    · exact Or.inl ⟨h1, h2⟩
    · refine Or.inr ⟨h1, m', h2, ?_, h4, sy (by omega) (by omega) h5⟩
      rw [hc _ _ (by unfold PC; omega) (by omega)]
      exact h3
theorem inv_good (ht : isT t) (hb : b < 2) (hK : KeptR C) (hTown : Town t b C R) (h38 : R 81 38 = (b : Int)) (h11 : C 1 1 = 0) (r2 : R 81 2 = 0) (hTm : TimeR C R) (hF : FaultR C R) (r57 : R 81 57 = 0) (r132 : ∀ x, x < 3 → R 132 x = -1) : Inv (up (up (up (up (up (up C 1 2 (t : Int)) 1 3 ((18 - t : Nat) : Int)) 42 0 0) 50 1 0) 57 1 0) 64 1 0) R := by
  have ht2 : t = 3 ∨ t = 15 := ht
  generalize hC9 : up (up (up (up (up (up C 1 2 (t : Int)) 1 3 ((18 - t : Nat) : Int)) 42 0 0) 50 1 0) 57 1 0) 64 1 0 = C9
  have f : ∀ c k, ¬ (c = 1 ∧ (k = 2 ∨ k = 3)) → c ≠ 42 → c ≠ 50 → c ≠ 57 → c ≠ 64 → C9 c k = C c k := fun c k z1 z2 z3 z4 z5 => by
    rw [← hC9, up_c z5, up_c z4, up_c z3, up_c z2, up_at, if_neg (by omega), up_at, if_neg (by omega)]
  refine ⟨t, b, ht, ?_, ?_, hb, h38, ⟨0, ?_, r2, by omega, fun i hi => by omega⟩, ?_, ?_, fun i hi => ?_, Town_keep ⟨fun _ => rfl, fun _ => rfl, fun _ => rfl, fun _ => rfl, fun _ => rfl, fun _ => rfl, fun _ => rfl, fun _ => rfl, fun _ => rfl, fun _ => rfl, fun _ => rfl, fun _ => rfl, fun _ => rfl, fun _ => rfl, fun _ => rfl, fun _ => rfl, rfl, rfl, fun _ => rfl, fun _ => rfl, fun _ => rfl⟩ (fun c k z1 z2 => f c k (by omega) (by omega) (by omega) (by omega) (by omega)) hTown, ⟨0, by omega, ?_, r57, fun i hi => by omega⟩, fun x hx => Or.inl ⟨?_, r132 x hx⟩⟩
  · rw [← hC9, up_c (by decide), up_c (by decide), up_c (by decide), up_c (by decide), up_k (by decide), up_eq]
  · rw [← hC9, up_c (by decide), up_c (by decide), up_c (by decide), up_c (by decide), up_eq]
  · rw [f _ _ (by omega) (by omega) (by omega) (by omega) (by omega)]; exact h11
  · unfold TimeR
    rw [f _ _ (by omega) (by omega) (by omega) (by omega) (by omega)]
    exact hTm
  · unfold FaultR
    rw [f _ _ (by omega) (by omega) (by omega) (by omega) (by omega), f _ _ (by omega) (by omega) (by omega) (by omega) (by omega)]
    exact hF
  · rw [f _ _ (by omega) (by omega) (by omega) (by omega) (by omega)]; exact hK i hi
  · rw [← hC9, up_c (by decide), up_c (by decide), up_c (by decide), up_eq]; rfl
  · obtain rfl | rfl | rfl : x = 0 ∨ x = 1 ∨ x = 2 := by omega
    · show C9 50 1 = 0
      rw [← hC9, up_c (by decide), up_c (by decide), up_eq]
    · show C9 57 1 = 0
      rw [← hC9, up_c (by decide), up_eq]
    · show C9 64 1 = 0
      rw [← hC9, up_eq]
/-- what the class does behind its reading of a text -/
theorem X_town_eq {x : Int} {C1 C2 : Mem} (ht : isT t) (h11 : C 1 1 = x) (h13 : C 1 3 = ((18 - t : Nat) : Int)) (hC2 : up C 1 1 0 = C2) (e : N_readInto (18 - t) x C2 = some C1) : X_town C = if ¬ n32 (C1 40 8) = 0 then some ((-1), C1) else (N_settle C1).bind fun M_7 =>
    chk (isTI (M_7 1 2)) <|
    lt1 (M_7 1 2).toNat fun t_9 =>
    chk (isTI (M_7 1 3)) <|
    lt1 (M_7 1 3).toNat fun t_12 =>
    lt1 (up M_7 1 2 ((t_12 : Nat) : Int)) fun M_14 =>
    lt1 (up M_14 1 3 ((t_9 : Nat) : Int)) fun M_15 =>
    lt1 (up M_15 42 0 0) fun M_16 =>
    (it (X_town_b72) FUEL (0, M_16)).bind fun M_25 =>
    chk (isTI (M_25 1 2)) <|
    lt1 (M_25 1 2).toNat fun t_33 =>
    (T_size t_33 M_25).bind fun r_35 =>
    some (r_35, M_25) := by
  have ht2 : t = 3 ∨ t = 15 := ht
  have ht' : isT (18 - t) := by unfold isT; omega
  have c13 : C2 1 3 = ((18 - t : Nat) : Int) := by rw [← hC2, up_k (by decide)]; exact h13
  unfold X_town
  rw [lt1_eq, lt1_eq, hC2, c13, chk_pos (isTI_of rfl ht'), lt1_eq, tn_nat, h11, e, bind_some']
end OPT
