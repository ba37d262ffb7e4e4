/-! ===== the law's line ===== -/
section LAWL
variable {n t b s : Nat} {C R C' R' : Mem}
/-- all between the lines but the law -/
def PJ (t b s : Nat) (C R : Mem) : Prop := HdP t b C R ∧ NumR t b C R ∧ NmP b C R ∧ CostR t b C R ∧ TieQ t b C R ∧ WishQ t b C R ∧ KnoP t b C R ∧ CntP b s C R ∧ RowsQ t b s C R ∧ AlwQ t b s C R
theorem PJ_step {s' : Nat} (h : PJ t b s C R) (hs : s ≤ s') (hu : C' t 5 = R' 90 b ∧ 0 ≤ R' 90 b ∧ R' 90 b ≤ 80) (hCn : CntP b s' C' R') (fc : ∀ a k, ¬ (a = 40) → ¬ (a = 28 ∧ k = 1) → ¬ (a = 29 ∧ s ≤ k) → ¬ (a = 27 ∧ 11 ≤ k ∧ k ≤ 15) → ¬ (a = t ∧ k = 5) → C' a k = C a k) (fr : ∀ a k, ¬ (a = 81 ∧ ((4 ≤ k ∧ k ≤ 10) ∨ (40 ≤ k ∧ k ≤ 45))) → ¬ ((a = 106 ∨ a = 107) ∧ 900 * b + s ≤ k) → ¬ (a = 90 ∧ k = b) → ¬ (a = 108 ∨ a = 109 ∨ a = 110) → ¬ ((a = 104 ∨ a = 105) ∧ k = 17 * b + 16) → ¬ (a = 91 ∧ k = b) → R' a k = R a k) : PJ t b s' C' R' := by
  obtain ⟨⟨ht, hb, h27, h39⟩, hN, ⟨n1, n2, n3⟩, hCo, hTi, hWi, hKn, hCn0, hRo, hAl⟩ := h
  have ht2 : t = 3 ∨ t = 15 := ht
  have hF := num_F hN
  have hR := num_R hN
  have hTn := num_T hN
  have hWn := num_W hN
  have cS : ∀ a k, ¬ (a = 40) → ¬ (a = 28 ∧ k = 1) → ¬ (a = 29 ∧ s ≤ k) → ¬ (a = 27 ∧ 11 ≤ k ∧ k ≤ 15) → ¬ (a = t ∧ k = 5) → C' a k = C a k := fc
  have rS : ∀ a k, ¬ (a = 81 ∧ ((4 ≤ k ∧ k ≤ 10) ∨ (40 ≤ k ∧ k ≤ 45))) → ¬ ((a = 106 ∨ a = 107) ∧ 900 * b + s ≤ k) → a ≠ 90 → ¬ (a = 108 ∨ a = 109 ∨ a = 110) → ¬ ((a = 104 ∨ a = 105) ∧ k = 17 * b + 16) → a ≠ 91 → R' a k = R a k := fun a k z1 z2 z3 z4 z5 z6 => fr a k z1 z2 (fun z => z3 z.1) z4 z5 (fun z => z6 z.1)
  have rr : ∀ a k, 82 ≤ a → a < 104 → a ≠ 90 → a ≠ 91 → R' a k = R a k := fun a k z1 z2 z3 z4 => rS a k (by omega) (by omega) z3 (by omega) (by omega) z4
  have cc : ∀ a k, a ≠ 40 → a ≠ 28 → a ≠ 29 → a ≠ 27 → a ≠ t → C' a k = C a k := fun a k z1 z2 z3 z4 z5 => cS a k z1 (by omega) (by omega) (by omega) (by omega)
  have ct : ∀ k, k ≠ 5 → C' t k = C t k := fun k z => cS t k (by omega) (by omega) (by omega) (by omega) (by omega)
  have eF : nF R' b = nF R b := by unfold nF; rw [rr 84 _ (by omega) (by omega) (by omega) (by omega)]
  have eP : nP R' b = nP R b := by unfold nP; rw [rr 85 _ (by omega) (by omega) (by omega) (by omega)]
  have eR : nR R' b = nR R b := by unfold nR; rw [rr 86 _ (by omega) (by omega) (by omega) (by omega)]
  have eTn : nT R' b = nT R b := by unfold nT; rw [rr 88 _ (by omega) (by omega) (by omega) (by omega)]
  have eWn : nW R' b = nW R b := by unfold nW; rw [rr 89 _ (by omega) (by omega) (by omega) (by omega)]
  refine ⟨⟨ht, hb, (cS _ _ (by omega) (by omega) (by omega) (by omega) (by omega)).trans h27, (rS _ _ (by omega) (by omega) (by omega) (by omega) (by omega) (by omega)).trans h39⟩, ?_, ⟨?_, ?_, ?_⟩, ?_, ?_, ?_, ?_, hCn, ?_, ?_⟩
  · obtain ⟨y1, y2, y3, y4, y5, y6⟩ := hN
    unfold NumR
    rw [ct 0 (by omega), ct 1 (by omega), ct 2 (by omega), ct 3 (by omega), ct 4 (by omega), rr 84 _ (by omega) (by omega) (by omega) (by omega), rr 85 _ (by omega) (by omega) (by omega) (by omega), rr 86 _ (by omega) (by omega) (by omega) (by omega), rr 88 _ (by omega) (by omega) (by omega) (by omega), rr 89 _ (by omega) (by omega) (by omega) (by omega)]
    exact ⟨y1, y2, y3, y4, y5, hu⟩
  · rw [eF]
    exact NmQ_keep n1 (fun i hi => cc _ _ (by omega) (by omega) (by omega) (by omega) (by omega)) (fun i hi => rr _ _ (by omega) (by omega) (by omega) (by omega))
  · rw [eP]
    exact NmQ_keep n2 (fun i hi => cc _ _ (by omega) (by omega) (by omega) (by omega) (by omega)) (fun i hi => rr _ _ (by omega) (by omega) (by omega) (by omega))
  · rw [eR]
    exact NmQ_keep n3 (fun i hi => cc _ _ (by omega) (by omega) (by omega) (by omega) (by omega)) (fun i hi => rr _ _ (by omega) (by omega) (by omega) (by omega))
  · exact CostR_keep hCo eP (fun k hk => cc _ _ (by omega) (by omega) (by omega) (by omega) (by omega)) (fun k hk => rr _ _ (by omega) (by omega) (by omega) (by omega))
  · exact TieQ_keep hTi hb hTn.2.2 eTn (by omega) (fun a k z => cc _ _ (by omega) (by omega) (by omega) (by omega) (by omega)) (fun k hk => ⟨rr _ _ (by omega) (by omega) (by omega) (by omega), rr _ _ (by omega) (by omega) (by omega) (by omega), rr _ _ (by omega) (by omega) (by omega) (by omega)⟩)
  · exact WishQ_keep hWi hb hWn.2.2 eWn (fun k => cc _ _ (by omega) (by omega) (by omega) (by omega) (by omega)) (fun k hk => ⟨rr _ _ (by omega) (by omega) (by omega) (by omega), rr _ _ (by omega) (by omega) (by omega) (by omega), rr _ _ (by omega) (by omega) (by omega) (by omega)⟩)
  · exact KnoP_keep hKn eP (fun k hk => cc _ _ (by omega) (by omega) (by omega) (by omega) (by omega)) (fun k hk => rr _ _ (by omega) (by omega) (by omega) (by omega))
  · exact RowsQ_keep hRo hs hb hR.2.2 eR (by omega) (by omega) (fun k hk => ⟨cc _ _ (by omega) (by omega) (by omega) (by omega) (by omega), cc _ _ (by omega) (by omega) (by omega) (by omega) (by omega), cc _ _ (by omega) (by omega) (by omega) (by omega) (by omega)⟩) (fun k hk => cS _ _ (by omega) (by omega) (by omega) (by omega) (by omega)) (fun k hk => ⟨rS _ _ (by omega) (by omega) (by omega) (by omega) (by omega) (by omega), rS _ _ (by omega) (by omega) (by omega) (by omega) (by omega) (by omega), rr _ _ (by omega) (by omega) (by omega) (by omega)⟩) (fun k hk => ⟨rS _ _ (by omega) (by omega) (by omega) (by omega) (by omega) (by omega), rS _ _ (by omega) (by omega) (by omega) (by omega) (by omega) (by omega)⟩)
  · exact AlwQ_keep hAl hs hb (by omega) (by omega) (by omega) (cS _ _ (by omega) (by omega) (by omega) (by omega) (by omega)) (rr _ _ (by omega) (by omega) (by omega) (by omega)) (fun k hk => cc _ _ (by omega) (by omega) (by omega) (by omega) (by omega)) (fun k hk => ⟨cc _ _ (by omega) (by omega) (by omega) (by omega) (by omega), cc _ _ (by omega) (by omega) (by omega) (by omega) (by omega)⟩) (fun k hk => cS _ _ (by omega) (by omega) (by omega) (by omega) (by omega)) (fun k hk hk2 => ⟨rS _ _ (by omega) (by omega) (by omega) (by omega) (by omega) (by omega), rS _ _ (by omega) (by omega) (by omega) (by omega) (by omega) (by omega)⟩) (fun k hk => ⟨rS _ _ (by omega) (by omega) (by omega) (by omega) (by omega) (by omega), rS _ _ (by omega) (by omega) (by omega) (by omega) (by omega) (by omega)⟩)
/-- the height of a law's steps -/
theorem hR_lH {f : Nat → Int} {lo : Nat} : ∀ (k : Nat) {x : Nat}, (∀ i, i < k → ∃ c : Nat, f (lo + i) = (c : Int) ∧ okL c) → hR f lo k 0 = some x → lH f lo k = some x
  | 0, _, _, h => h
  | k + 1, x, hk, h => by
    have h' : (hR f lo k 0).bind (hS (f (lo + k))) = some x := h
    show (lH f lo k).bind _ = some x
    cases e : hR f lo k 0 with
    | none => rw [e] at h'; cases h'
    | some y =>
      rw [e, bind_some'] at h'
      rw [hR_lH k (fun i hi => hk i (by omega)) e, bind_some']
      obtain ⟨c, c1, c2⟩ := hk k (by omega)
      rw [c1] at h' ⊢
      unfold hS at h'
      unfold okL at c2
      unfold lPush
      by_cases q : 11 ≤ c ∧ c ≤ 15
      · rw [if_pos (by omega)] at h'
        rw [if_pos (decide_eq_true (by omega))]
        exact h'
      · rw [if_neg (by omega), if_neg (by omega)] at h'
        rw [if_neg (show ¬ decide (11 ≤ (c : Int) ∧ (c : Int) ≤ 15) = true by rw [decide_eq_true_eq]; omega)]
        exact h'
/-- a line's end where both have failed -/
theorem end_fail {md : Nat} {f q : Int} {C0 : Mem} (hB : TB n C0 R) (hD : DmC (DM md) C f q) (hf : FBr R f q) : ∃ r C' R', M_stands 59 R = some r ∧ K_expect 59 C = some C' ∧ M_must r R = some R' ∧ FB C' R' := by
  obtain ⟨⟨z, z1, z2⟩, hf⟩ := hf
  obtain ⟨r, hr, -⟩ := stands_any hB on_self z1 z2 59
  have hc : ∃ C', K_expect 59 C = some C' ∧ (C' 40 4 = 24 ∧ C' 40 8 = f ∧ C' 40 9 = q) := by
    obtain ⟨-, ⟨c1, c2, c3⟩ | ⟨rfl, ⟨kd, k1, k2⟩, k3⟩⟩ := hD
    · exact ⟨C, bk_expect c1 (w := 59) (by decide) (by decide), c1, c2, c3⟩
    · have hr2 := DM_rng k1
      have h41 : kd ≠ 59 ∧ kd ≠ 24 := by
        unfold DM at k1
        omega
      obtain ⟨q1, q2, q3⟩ := failC_at (C := C) (f := 2)
      refine ⟨failC C 2, ?_, q1, q2, q3.trans k3⟩
      unfold K_expect
      rw [k2, n32_nat (by omega), if_neg (show ¬ ((kd : Int) = n32 59) from fun z => by have : n32 59 = 59 := rfl; omega)]
      unfold K_fail failC
      rw [k2, n32_nat (by omega), if_pos (by omega), lt1_eq, lt1_eq, lt1_eq, up_k (by decide), up_k (by decide)]
      rfl
  obtain ⟨C', w1, w2⟩ := hc
  rcases hf with hf | ⟨rfl, hbad⟩
  · exact ⟨r, C', R, hr, w1, fl_must hf r, f, q, w2, ⟨z, z1, z2⟩, Or.inl hf⟩
  · refine ⟨0, C', up (up R 81 4 1) 81 5 q, stands_bad hbad 59, w1, ?_, 1, q, w2, ⟨z, z1, by rw [up45_6]; exact z2⟩, Or.inl (up45_flt (by decide) (by decide))⟩
    unfold M_must
    rw [gd_good hbad.1, bind_some', if_neg nz1, if_neg nz0, bad_misp hbad]
    rfl
end LAWL
