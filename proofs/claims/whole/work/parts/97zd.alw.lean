/-! ===== always' line ===== -/
section ALWL
variable {n t b s : Nat} {C R C' R' : Mem}
theorem PM_step {s' : Nat} (h : PI t b s C R) (hs : s ≤ s') (hu : C' t 5 = R' 90 b ∧ 0 ≤ R' 90 b ∧ R' 90 b ≤ 80) (hCn : CntP b s' C' R') (fc : ∀ a k, ¬ (a = 40) → ¬ (a = 28 ∧ k = 1) → ¬ (a = 29 ∧ s ≤ k) → ¬ (a = 27 ∧ (k = 10 ∨ k = 14 ∨ k = 15)) → ¬ (a = t ∧ k = 5) → ¬ (a = 38 ∨ a = 39) → C' a k = C a k) (fr : ∀ a k, ¬ (a = 81 ∧ ((4 ≤ k ∧ k ≤ 10) ∨ (40 ≤ k ∧ k ≤ 45))) → ¬ ((a = 106 ∨ a = 107) ∧ 900 * b + s ≤ k) → ¬ (a = 90 ∧ k = b) → ¬ (a = 108 ∨ a = 109 ∨ a = 110) → ¬ ((a = 104 ∨ a = 105) ∧ 17 * b + 12 ≤ k ∧ k < 17 * b + 16) → ¬ (a = 87 ∧ k = b) → R' a k = R a k) : HdP t b C' R' ∧ NumR t b C' R' ∧ NmP b C' R' ∧ CostR t b C' R' ∧ TieQ t b C' R' ∧ WishQ t b C' R' ∧ KnoP t b C' R' ∧ CntP b s' C' R' ∧ RowsQ t b s' C' R' ∧ LwQ b s' C' R' := by
  obtain ⟨⟨ht, hb, h27, h39⟩, hN, ⟨n1, n2, n3⟩, hCo, hTi, hWi, hKn, hCn0, hRo, hAl, hLw⟩ := h
  have ht2 : t = 3 ∨ t = 15 := ht
  have hF := num_F hN
  have hR := num_R hN
  have hTn := num_T hN
  have hWn := num_W hN
  have cS : ∀ a k, ¬ (a = 40) → ¬ (a = 28 ∧ k = 1) → ¬ (a = 29 ∧ s ≤ k) → ¬ (a = 27 ∧ (k = 10 ∨ k = 14 ∨ k = 15)) → ¬ (a = t ∧ k = 5) → ¬ (a = 38 ∨ a = 39) → C' a k = C a k := fc
  have rS : ∀ a k, ¬ (a = 81 ∧ ((4 ≤ k ∧ k ≤ 10) ∨ (40 ≤ k ∧ k ≤ 45))) → ¬ ((a = 106 ∨ a = 107) ∧ 900 * b + s ≤ k) → a ≠ 90 → ¬ (a = 108 ∨ a = 109 ∨ a = 110) → ¬ ((a = 104 ∨ a = 105) ∧ 17 * b + 12 ≤ k ∧ k < 17 * b + 16) → a ≠ 87 → R' a k = R a k := fun a k z1 z2 z3 z4 z5 z6 => fr a k z1 z2 (fun z => z3 z.1) z4 z5 (fun z => z6 z.1)
  have rr : ∀ a k, 82 ≤ a → a < 104 → a ≠ 90 → a ≠ 87 → R' a k = R a k := fun a k z1 z2 z3 z4 => rS a k (by omega) (by omega) z3 (by omega) (by omega) z4
  have cc : ∀ a k, a ≠ 40 → a ≠ 28 → a ≠ 29 → a ≠ 27 → ¬ (a = t ∨ a = 38 ∨ a = 39) → C' a k = C a k := fun a k z1 z2 z3 z4 z5 => cS a k z1 (by omega) (by omega) (by omega) (by omega) (by omega)
  have ct : ∀ k, k ≠ 5 → C' t k = C t k := fun k z => cS t k (by omega) (by omega) (by omega) (by omega) (by omega) (by omega)
  have eF : nF R' b = nF R b := by unfold nF; rw [rr 84 _ (by omega) (by omega) (by omega) (by omega)]
  have eP : nP R' b = nP R b := by unfold nP; rw [rr 85 _ (by omega) (by omega) (by omega) (by omega)]
  have eR : nR R' b = nR R b := by unfold nR; rw [rr 86 _ (by omega) (by omega) (by omega) (by omega)]
  have eTn : nT R' b = nT R b := by unfold nT; rw [rr 88 _ (by omega) (by omega) (by omega) (by omega)]
  have eWn : nW R' b = nW R b := by unfold nW; rw [rr 89 _ (by omega) (by omega) (by omega) (by omega)]
  refine ⟨⟨ht, hb, (cS _ _ (by omega) (by omega) (by omega) (by omega) (by omega) (by omega)).trans h27, (rS _ _ (by omega) (by omega) (by omega) (by omega) (by omega) (by omega)).trans h39⟩, ?_, ⟨?_, ?_, ?_⟩, ?_, ?_, ?_, ?_, hCn, ?_, ?_⟩
  · obtain ⟨y1, y2, y3, y4, y5, y6⟩ := hN
    unfold NumR
    rw [ct 0 (by omega), ct 1 (by omega), ct 2 (by omega), ct 3 (by omega), ct 4 (by omega), rr 84 _ (by omega) (by omega) (by omega) (by omega), rr 85 _ (by omega) (by omega) (by omega) (by omega), rr 86 _ (by omega) (by omega) (by omega) (by omega), rr 88 _ (by omega) (by omega) (by omega) (by omega), rr 89 _ (by omega) (by omega) (by omega) (by omega)]
    exact ⟨y1, y2, y3, y4, y5, hu⟩
  · rw [eF]
    exact NmQ_keep n1 (fun i hi => cc _ _ (by omega) (by omega) (by omega) (by omega) (by omega)) (fun i hi => rr _ _ (by omega) (by omega) (by omega) (by omega))
  · rw [eP]
    exact NmQ_keep n2 (fun i hi => cc _ _ (by omega) (by omega) (by omega) (by omega) (by omega)) (fun i hi => rr _ _ (by omega) (by omega) (by omega) (by omega))
  · rw [eR]
    exact NmQ_keep n3 (fun i hi => cc _ _ (by omega) (by omega) (by omega) (by omega) (by omega)) (fun i hi => rr _ _ (by omega) (by omega) (by omega) (by omega))
  · exact CostR_keep hCo eP (fun k hk => cc _ _ (by omega) (by omega) (by omega) (by omega) (by omega)) (fun k hk => rr _ _ (by omega) (by omega) (by omega) (by omega))
  · exact TieQ_keep hTi hb hTn.2.2 eTn (by omega) (fun a k z => cc _ _ (by omega) (by omega) (by omega) (by omega) (by omega)) (fun k hk => ⟨rr _ _ (by omega) (by omega) (by omega) (by omega), rr _ _ (by omega) (by omega) (by omega) (by omega), rr _ _ (by omega) (by omega) (by omega) (by omega)⟩)
  · exact WishQ_keep hWi hb hWn.2.2 eWn (fun k => cc _ _ (by omega) (by omega) (by omega) (by omega) (by omega)) (fun k hk => ⟨rr _ _ (by omega) (by omega) (by omega) (by omega), rr _ _ (by omega) (by omega) (by omega) (by omega), rr _ _ (by omega) (by omega) (by omega) (by omega)⟩)
  · exact KnoP_keep hKn eP (fun k hk => cc _ _ (by omega) (by omega) (by omega) (by omega) (by omega)) (fun k hk => rr _ _ (by omega) (by omega) (by omega) (by omega))
  · exact RowsQ_keep hRo hs hb hR.2.2 eR (by omega) (by omega) (fun k hk => ⟨cc _ _ (by omega) (by omega) (by omega) (by omega) (by omega), cc _ _ (by omega) (by omega) (by omega) (by omega) (by omega), cc _ _ (by omega) (by omega) (by omega) (by omega) (by omega)⟩) (fun k hk => cS _ _ (by omega) (by omega) (by omega) (by omega) (by omega) (by omega)) (fun k hk => ⟨rS _ _ (by omega) (by omega) (by omega) (by omega) (by omega) (by omega), rS _ _ (by omega) (by omega) (by omega) (by omega) (by omega) (by omega), rr _ _ (by omega) (by omega) (by omega) (by omega)⟩) (fun k hk => ⟨rS _ _ (by omega) (by omega) (by omega) (by omega) (by omega) (by omega), rS _ _ (by omega) (by omega) (by omega) (by omega) (by omega) (by omega)⟩)
  · exact LwQ_keep hLw hs ⟨cS _ _ (by omega) (by omega) (by omega) (by omega) (by omega) (by omega), cS _ _ (by omega) (by omega) (by omega) (by omega) (by omega) (by omega), cS _ _ (by omega) (by omega) (by omega) (by omega) (by omega) (by omega)⟩ (rr _ _ (by omega) (by omega) (by omega) (by omega)) (fun k hk => cS _ _ (by omega) (by omega) (by omega) (by omega) (by omega) (by omega)) ⟨rS _ _ (by omega) (by omega) (by omega) (by omega) (by omega) (by omega), rS _ _ (by omega) (by omega) (by omega) (by omega) (by omega) (by omega)⟩ (fun k hk => ⟨rS _ _ (by omega) (by omega) (by omega) (by omega) (by omega) (by omega), rS _ _ (by omega) (by omega) (by omega) (by omega) (by omega) (by omega)⟩)
end ALWL
