/-! ===== operation: town ===== -/
theorem boxes_0 {M : Mem} : it X_town_b72 FUEL (0, M) = some (up (up (up M 50 1 0) 57 1 0) 64 1 0) := by
  have st : ∀ (i : Nat) (M : Mem), i < 3 → X_town_b72 ((i : Int), M) = some (.inl (((i + 1 : Nat) : Int), up M (50 + 7 * i) 1 0)) := by
    intro i M hi
    unfold X_town_b72
    dsimp only
    rw [n32_nat (by omega), if_pos (by omega), chk_pos (by omega), lt1_eq, lt1_eq, lt1_eq, tn_nat]
    rfl
  have en : ∀ M : Mem, X_town_b72 (((3 : Nat) : Int), M) = some (.inr M) := by
    intro M
    unfold X_town_b72
    dsimp only
    rw [n32_nat (by omega), if_neg (by omega)]
  have s0 : it X_town_b72 (9999996 + 1 + 1 + 1 + 1) (((0 : Nat) : Int), M) = it X_town_b72 (9999996 + 1 + 1 + 1) (((1 : Nat) : Int), up M 50 1 0) := it_step (st 0 M (by omega))
  have s1 : it X_town_b72 (9999996 + 1 + 1 + 1) (((1 : Nat) : Int), up M 50 1 0) = it X_town_b72 (9999996 + 1 + 1) (((2 : Nat) : Int), up (up M 50 1 0) 57 1 0) := it_step (st 1 _ (by omega))
  have s2 : it X_town_b72 (9999996 + 1 + 1) (((2 : Nat) : Int), up (up M 50 1 0) 57 1 0) = it X_town_b72 (9999996 + 1) (((3 : Nat) : Int), up (up (up M 50 1 0) 57 1 0) 64 1 0) := it_step (st 2 _ (by omega))
  have s3 := it_last (f := 9999996) (en (up (up (up M 50 1 0) 57 1 0) 64 1 0))
  exact s0.trans (s1.trans (s2.trans s3))
theorem clear_132 {M : Mem} : it M_town_b119 FUEL (0, M) = some (wup M 132 0 3 (fun _ => -1)) := by
  refine it_for (fun i => ((i : Int), wup M 132 0 i (fun _ => -1))) 3 (by unfold FUEL; omega) (by rw [wup_0]; rfl) ?_ ?_
  · intro i hi
    have e := wup_s (M := M) (c := 132) (o := 0) (i := i) (f := fun _ => -1) (v := -1) rfl
    rw [Nat.zero_add] at e
    unfold M_town_b119
    dsimp only
    rw [n32_nat (by omega), if_pos (by omega), chk_pos (by omega), lt1_eq, lt1_eq, tn_nat, e]
    rfl
  · unfold M_town_b119
    dsimp only
    rw [n32_nat (by omega), if_neg (by omega)]
section TOWN
variable {t b n s : Nat} {C R R1 : Mem}
/-- what a good reading says, seen in a reference that differs in cells 81 and 132 alone -/
theorem PI_settle (hI : PI t b s C R) (f : ∀ c k, c ≠ 81 → c ≠ 132 → R1 c k = R c k) (h38 : R1 81 38 = (b : Int)) : ∃ C' R', N_settle C = some C' ∧ M_layWorlds R1 = some R' ∧ Town t b C' R' ∧ FC t C C' ∧ FR R1 R' := by
  obtain ⟨⟨ht, hb, h27, h39⟩, hN, hNm, hCo, hTi, hWi, hKn, hCn, hRo, hAl, hLw⟩ := hI
  have bP := num_P hN
  have bR := num_R hN
  have hT12 : nT R b ≤ 12 := by have := hN.2.2.2.1; unfold nT; omega
  have hW12 : nW R b ≤ 12 := by have := hN.2.2.2.2.1; unfold nW; omega
  have g : ∀ c, c ≠ 81 → c ≠ 132 → ∀ k, R1 c k = R c k := fun c h1 h2 k => f c k h1 h2
  have hN1 : NumR t b C R1 := by
    unfold NumR
    rw [g 84 (by decide) (by decide), g 85 (by decide) (by decide), g 86 (by decide) (by decide), g 88 (by decide) (by decide), g 89 (by decide) (by decide), g 90 (by decide) (by decide)]
    exact hN
  have eF : nF R1 b = nF R b := by unfold nF; rw [g 84 (by decide) (by decide)]
  have eP : nP R1 b = nP R b := by unfold nP; rw [g 85 (by decide) (by decide)]
  have eR : nR R1 b = nR R b := by unfold nR; rw [g 86 (by decide) (by decide)]
  have eT : nT R1 b = nT R b := by unfold nT; rw [g 88 (by decide) (by decide)]
  have eW : nW R1 b = nW R b := by unfold nW; rw [g 89 (by decide) (by decide)]
  have k98 := g 98 (by decide) (by decide)
  have k99 := g 99 (by decide) (by decide)
  have k100 := g 100 (by decide) (by decide)
  have k101 := g 101 (by decide) (by decide)
  have k102 := g 102 (by decide) (by decide)
  have k103 := g 103 (by decide) (by decide)
  have k104 := g 104 (by decide) (by decide)
  have k105 := g 105 (by decide) (by decide)
  have k106 := g 106 (by decide) (by decide)
  have k107 := g 107 (by decide) (by decide)
  have k92 := g 92 (by decide) (by decide)
  refine settle_eq ht hb hN1 (CostR_keep hCo eP (fun k hk => rfl) (fun k hk => g 96 (by decide) (by decide) _)) (PI_tie (TieQ_keep hTi hb hT12 eT (by omega) (fun a k _ => rfl) (fun k hk => ⟨k98 _, k99 _, k100 _⟩)) (by omega)) (PI_wish (WishQ_keep hWi hb hW12 eW (fun k => rfl) (fun k hk => ⟨k101 _, k102 _, k103 _⟩)) (by omega) (by omega)) h38 h27 (KnoP_keep hKn eP (fun k hk => rfl) (fun k hk => g 97 (by decide) (by decide) _)) (PI_rows (RowsQ_keep hRo (Nat.le_refl _) hb bR.2.2 eR (by omega) (by omega) (fun k hk => ⟨rfl, rfl, rfl⟩) (fun k hk => rfl) (fun k hk => ⟨k104 _, k105 _, k92 _⟩) (fun k hk => ⟨k106 _, k107 _⟩)) hCn.1) (PI_alw (AlwQ_keep hAl (Nat.le_refl _) hb (by omega) (by omega) (by omega) rfl (g 87 (by decide) (by decide) _) (fun k hk => rfl) (fun k hk => ⟨rfl, rfl⟩) (fun k hk => rfl) (fun k _ _ => ⟨k104 _, k105 _⟩) (fun k hk => ⟨k106 _, k107 _⟩)) hCn.1) (PI_lw (LwQ_keep hLw (Nat.le_refl _) ⟨rfl, rfl, rfl⟩ (g 91 (by decide) (by decide) _) (fun k hk => rfl) ⟨k104 _, k105 _⟩ (fun k hk => ⟨k106 _, k107 _⟩)) hCn.1)
end TOWN
