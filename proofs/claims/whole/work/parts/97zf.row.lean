/-! ===== a row's line: what stays ===== -/
section ROWL
variable {n t b s : Nat} {C R C' R' : Mem}
theorem PR_step {s' nr : Nat} (h : PI t b s C R) (hnr : nr = nR R b) (hlt : nr < 12) (hs : s ≤ s') (hu : C' t 5 = R' 90 b ∧ 0 ≤ R' 90 b ∧ R' 90 b ≤ 80) (hCn : CntP b s' C' R') (h2 : C' t 2 = ((nr + 1 : Nat) : Int)) (h86 : R' 86 b = ((nr + 1 : Nat) : Int)) (hnm : ∃ m : Nat, m < 2 ^ 40 ∧ C' 34 nr = (m : Int) ∧ R' 95 (12 * b + nr) = ((w256 m : Nat) : Int)) (hrow : ∃ lc len : Nat, C' 35 nr = (lc : Int) ∧ C' 36 nr = ((lc + len : Nat) : Int) ∧ R' 104 (17 * b + nr) = ((900 * b + lc : Nat) : Int) ∧ R' 105 (17 * b + nr) = ((900 * b + lc + len : Nat) : Int) ∧ lc + len ≤ s' ∧ (C' 37 nr = 0 ∨ C' 37 nr = 1) ∧ R' 92 (12 * b + nr) = C' 37 nr ∧ hR (R' 106) (900 * b + lc) len 0 = some 1 ∧ SegE t b (C' 37 nr = 1) nr lc len C' R') (fc : ∀ a k, ¬ (a = 40) → ¬ (a = 28 ∧ k = 1) → ¬ (a = 29 ∧ s ≤ k) → ¬ (a = 27 ∧ (k = 14 ∨ k = 15)) → ¬ (a = t ∧ (k = 2 ∨ k = 5)) → ¬ ((34 ≤ a ∧ a ≤ 37) ∧ k = nr) → C' a k = C a k) (fr : ∀ a k, ¬ (a = 81 ∧ ((4 ≤ k ∧ k ≤ 10) ∨ (40 ≤ k ∧ k ≤ 45))) → ¬ ((a = 106 ∨ a = 107) ∧ 900 * b + s ≤ k) → ¬ ((a = 90 ∨ a = 86) ∧ k = b) → ¬ (a = 108 ∨ a = 109 ∨ a = 110) → ¬ ((a = 104 ∨ a = 105) ∧ k = 17 * b + nr) → ¬ ((a = 92 ∨ a = 95) ∧ k = 12 * b + nr) → R' a k = R a k) : PI t b s' C' R' := by
  obtain ⟨⟨ht, hb, h27, h39⟩, hN, ⟨n1, n2, n3⟩, hCo, hTi, hWi, hKn, hCn0, hRo, hAl, hLw⟩ := h
  have ht2 : t = 3 ∨ t = 15 := ht
  have hF := num_F hN
  have hR := num_R hN
  have hTn := num_T hN
  have hWn := num_W hN
  have rr : ∀ a k, 82 ≤ a → a < 104 → a ≠ 90 → a ≠ 86 → a ≠ 92 → a ≠ 95 → R' a k = R a k := fun a k z1 z2 z3 z4 z5 z6 => fr a k (by omega) (by omega) (by omega) (by omega) (by omega) (by omega)
  have cc : ∀ a k, a ≠ 40 → a ≠ 28 → a ≠ 29 → a ≠ 27 → a ≠ t → ¬ (34 ≤ a ∧ a ≤ 37) → C' a k = C a k := fun a k z1 z2 z3 z4 z5 z6 => fc a k z1 (by omega) (by omega) (by omega) (by omega) (by omega)
  have ct : ∀ k, k ≠ 5 → k ≠ 2 → C' t k = C t k := fun k z z2 => fc t k (by omega) (by omega) (by omega) (by omega) (by omega) (by omega)
  have eF : nF R' b = nF R b := by unfold nF; rw [rr 84 _ (by omega) (by omega) (by omega) (by omega) (by omega) (by omega)]
  have eP : nP R' b = nP R b := by unfold nP; rw [rr 85 _ (by omega) (by omega) (by omega) (by omega) (by omega) (by omega)]
  have eR : nR R' b = nr + 1 := by unfold nR; rw [h86]; rfl
  have eTn : nT R' b = nT R b := by unfold nT; rw [rr 88 _ (by omega) (by omega) (by omega) (by omega) (by omega) (by omega)]
  have eWn : nW R' b = nW R b := by unfold nW; rw [rr 89 _ (by omega) (by omega) (by omega) (by omega) (by omega) (by omega)]
  refine ⟨⟨ht, hb, (fc _ _ (by omega) (by omega) (by omega) (by omega) (by omega) (by omega)).trans h27, (fr _ _ (by omega) (by omega) (by omega) (by omega) (by omega) (by omega)).trans h39⟩, ?_, ⟨?_, ?_, ?_⟩, ?_, ?_, ?_, ?_, hCn, ?_, ?_, ?_⟩
  · obtain ⟨y1, y2, y3, y4, y5, y6⟩ := hN
    unfold NumR
    rw [ct 0 (by omega) (by omega), ct 1 (by omega) (by omega), h2, h86, ct 3 (by omega) (by omega), ct 4 (by omega) (by omega), rr 84 _ (by omega) (by omega) (by omega) (by omega) (by omega) (by omega), rr 85 _ (by omega) (by omega) (by omega) (by omega) (by omega) (by omega), rr 88 _ (by omega) (by omega) (by omega) (by omega) (by omega) (by omega), rr 89 _ (by omega) (by omega) (by omega) (by omega) (by omega) (by omega)]
    exact ⟨y1, y2, ⟨rfl, by omega, by omega⟩, y4, y5, hu⟩
  · rw [eF]
    exact NmQ_keep n1 (fun i hi => cc _ _ (by omega) (by omega) (by omega) (by omega) (by omega) (by omega)) (fun i hi => rr _ _ (by omega) (by omega) (by omega) (by omega) (by omega) (by omega))
  · rw [eP]
    exact NmQ_keep n2 (fun i hi => cc _ _ (by omega) (by omega) (by omega) (by omega) (by omega) (by omega)) (fun i hi => rr _ _ (by omega) (by omega) (by omega) (by omega) (by omega) (by omega))
  · rw [eR]
    rw [← hnr] at n3
    exact NmQ_add n3 (fun i hi => fc _ _ (by omega) (by omega) (by omega) (by omega) (by omega) (by omega)) (fun i hi => fr _ _ (by omega) (by omega) (by omega) (by omega) (by omega) (by omega)) hnm
  · exact CostR_keep hCo eP (fun k hk => cc _ _ (by omega) (by omega) (by omega) (by omega) (by omega) (by omega)) (fun k hk => rr _ _ (by omega) (by omega) (by omega) (by omega) (by omega) (by omega))
  · exact TieQ_keep hTi hb hTn.2.2 eTn (by omega) (fun a k z => cc _ _ (by omega) (by omega) (by omega) (by omega) (by omega) (by omega)) (fun k hk => ⟨rr _ _ (by omega) (by omega) (by omega) (by omega) (by omega) (by omega), rr _ _ (by omega) (by omega) (by omega) (by omega) (by omega) (by omega), rr _ _ (by omega) (by omega) (by omega) (by omega) (by omega) (by omega)⟩)
  · exact WishQ_keep hWi hb hWn.2.2 eWn (fun k => cc _ _ (by omega) (by omega) (by omega) (by omega) (by omega) (by omega)) (fun k hk => ⟨rr _ _ (by omega) (by omega) (by omega) (by omega) (by omega) (by omega), rr _ _ (by omega) (by omega) (by omega) (by omega) (by omega) (by omega), rr _ _ (by omega) (by omega) (by omega) (by omega) (by omega) (by omega)⟩)
  · exact KnoP_keep hKn eP (fun k hk => cc _ _ (by omega) (by omega) (by omega) (by omega) (by omega) (by omega)) (fun k hk => rr _ _ (by omega) (by omega) (by omega) (by omega) (by omega) (by omega))
  · intro r hr
    rw [eR] at hr
    by_cases e : r = nr
    · subst e
      exact hrow
    · obtain ⟨lc, len, s1, s2, s3, s4, s5, s6, s7, s8, s9⟩ := hRo r (by omega)
      have k3 : C' 37 r = C 37 r := fc 37 r (by omega) (by omega) (by omega) (by omega) (by omega) (by omega)
      refine ⟨lc, len, (fc 35 r (by omega) (by omega) (by omega) (by omega) (by omega) (by omega)).trans s1, (fc 36 r (by omega) (by omega) (by omega) (by omega) (by omega) (by omega)).trans s2, (fr _ _ (by omega) (by omega) (by omega) (by omega) (by omega) (by omega)).trans s3, (fr _ _ (by omega) (by omega) (by omega) (by omega) (by omega) (by omega)).trans s4, by clear s6; omega, by rw [k3]; exact s6, by rw [k3, fr 92 _ (by clear s6; omega) (by clear s6; omega) (by clear s6; omega) (by clear s6; omega) (by clear s6; omega) (by clear s6; omega)]; exact s7, ?_, ?_⟩
      · rw [hR_congr (fun i hi => fr 106 _ (by omega) (by omega) (by omega) (by omega) (by omega) (by omega))]
        exact s8
      · rw [k3]
        exact SegE_keep s9 (Nat.le_refl _) s5 (fun k hk => fc _ _ (by omega) (by omega) (by omega) (by omega) (by omega) (by omega)) (fun k hk => ⟨fr _ _ (by omega) (by omega) (by omega) (by omega) (by omega) (by omega), fr _ _ (by omega) (by omega) (by omega) (by omega) (by omega) (by omega)⟩) (by omega) (by omega) (fun o ho => fc _ _ (by omega) (by omega) (by omega) (by omega) (by omega) (by omega))
  · exact AlwQ_keep hAl hs hb (by omega) (by omega) (by omega) (fc _ _ (by omega) (by omega) (by omega) (by omega) (by omega) (by omega)) (rr _ _ (by omega) (by omega) (by omega) (by omega) (by omega) (by omega)) (fun k hk => fc _ _ (by omega) (by omega) (by omega) (by omega) (by omega) (by omega)) (fun k hk => ⟨cc _ _ (by omega) (by omega) (by omega) (by omega) (by omega) (by omega), cc _ _ (by omega) (by omega) (by omega) (by omega) (by omega) (by omega)⟩) (fun k hk => fc _ _ (by omega) (by omega) (by omega) (by omega) (by omega) (by omega)) (fun k hk hk2 => ⟨fr _ _ (by omega) (by omega) (by omega) (by omega) (by omega) (by omega), fr _ _ (by omega) (by omega) (by omega) (by omega) (by omega) (by omega)⟩) (fun k hk => ⟨fr _ _ (by omega) (by omega) (by omega) (by omega) (by omega) (by omega), fr _ _ (by omega) (by omega) (by omega) (by omega) (by omega) (by omega)⟩)
  · exact LwQ_keep hLw hs ⟨fc _ _ (by omega) (by omega) (by omega) (by omega) (by omega) (by omega), fc _ _ (by omega) (by omega) (by omega) (by omega) (by omega) (by omega), fc _ _ (by omega) (by omega) (by omega) (by omega) (by omega) (by omega)⟩ (rr _ _ (by omega) (by omega) (by omega) (by omega) (by omega) (by omega)) (fun k hk => fc _ _ (by omega) (by omega) (by omega) (by omega) (by omega) (by omega)) ⟨fr _ _ (by omega) (by omega) (by omega) (by omega) (by omega) (by omega), fr _ _ (by omega) (by omega) (by omega) (by omega) (by omega) (by omega)⟩ (fun k hk => ⟨fr _ _ (by omega) (by omega) (by omega) (by omega) (by omega) (by omega), fr _ _ (by omega) (by omega) (by omega) (by omega) (by omega) (by omega)⟩)
end ROWL
