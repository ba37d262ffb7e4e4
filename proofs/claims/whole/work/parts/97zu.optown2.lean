/-! ===== operation: town, whole ===== -/
theorem size_tail {C R : Mem} (h : Inv C R) : ∃ v, (chk (isTI (C 1 2)) <| lt1 (C 1 2).toNat fun t => (T_size t C).bind fun r => some (r, C)) = some (v, C) ∧ M_baseMany R = some v := by
  obtain ⟨t, b, ht, h12, -, hb, h38, -, -, -, -, ⟨hN, hW, -, -, -, hB, -⟩, -⟩ := h
  refine ⟨_, ?_, M_baseMany_eq hb h38 hN hB⟩
  rw [h12, chk_pos (isTI_of rfl ht), lt1_eq, tn_nat, T_size_eq ht hN hW hB, bind_some']
theorem op_town {C R : Mem} (h : Inv C R) (h15 : C 27 15 = 0 ∨ C 27 15 = 1) : ∃ v C' R', X_town C = some (v, C') ∧ M_town R = some (v, R') ∧ Inv C' R' ∧ (C' 27 15 = 0 ∨ C' 27 15 = 1) := by
  obtain ⟨t, b, ht, h12, h13, hb, h38, ⟨n, a1, a2, a3, a4⟩, hTm, hFt, hK, hTown, ⟨m, m1, m2, m3, m4⟩, hBox⟩ := h
  have ht2 : t = 3 ∨ t = 15 := ht
  have ht' : isT (18 - t) := by unfold isT; omega
  generalize hC2 : up C 1 1 0 = C2
  have c2 : ∀ c k, ¬ (c = 1 ∧ k = 1) → C2 c k = C c k := fun c k z => by rw [← hC2, up_at, if_neg z]
  have c11 : C2 1 1 = 0 := by rw [← hC2, up_eq]
  obtain ⟨C', R5, R1, R', e1, e2, hEnd, hJ, ⟨s1, s2, s3⟩, ⟨z84, z85, z86, z87, z88, z89, z90, z91⟩, fR5, e3, e4⟩ := town_parse (t := 18 - t) (b := 1 - b) (n := n) (C := C2) (R := R) ht' (by omega) a3 (fun i hi => by rw [c2 _ _ (by omega)]; exact a4 i hi) a2 (by rw [h38]; omega) (fun i hi => by rw [c2 _ _ (by omega)]; exact hK i hi) (by rw [c2 _ _ (by omega)]; exact h15)
  obtain ⟨j1, j2, j3⟩ := hJ
  have q1 := q_goOn e3
  have hBE : BE (1 - b) R1 R1 := by
    refine BA_BE ⟨⟨by rw [q1 _ _ (by omega)]; exact s2, fun _ _ _ => rfl⟩, ?_, ?_⟩
    · unfold CT
      rw [q1 85 _ (by omega), q1 86 _ (by omega), q1 87 _ (by omega), q1 88 _ (by omega), q1 89 _ (by omega), z85, z86, z87, z88, z89]
      decide
    · unfold SU
      rw [q1 90 _ (by omega), q1 81 40 (by omega), z90, s3]
      omega
  obtain ⟨⟨g39, fR⟩, -⟩ := town_keep (by omega) hBE e4
  have fX : ∀ c k, PBx (1 - b) c k → R' c k = R c k := by
    intro c k hp
    obtain ⟨hp, h81⟩ := hp
    rw [fR c k hp, q1 _ _ (by omega)]
    unfold PB at hp
    exact fR5 c k (by omega) (by omega) (by omega)
  have f81 : ∀ k, ¬ (4 ≤ k ∧ k ≤ 10) → ¬ (40 ≤ k ∧ k ≤ 45) → R' 81 k = R5 81 k := fun k z1 z2 => by
    rw [fR 81 k (by unfold PB; omega), q1 _ _ (by omega)]
  have g81 : ∀ k, k = 38 ∨ k = 57 ∨ k = 58 → R' 81 k = R 81 k := fun k z => by
    rw [f81 k (by omega) (by omega)]
    exact fR5 _ _ (by omega) (by omega) (by omega)
  have r2 : R' 81 2 = 0 := (f81 2 (by omega) (by omega)).trans s1
  have hc : ∀ c k, PC (18 - t) c → ¬ (c = 1 ∧ k = 1) → C' c k = C c k := fun c k z1 z2 => (j3 c k z1).trans (c2 c k z2)
  have hc11 : C' 1 1 = 0 := (j3 1 1 (by unfold PC; omega)).trans c11
  rw [X_town_eq ht a1 h13 hC2 e1, e2]
  rcases hEnd with ⟨s, p, hI, hTB, g⟩ | ⟨f, p, k4, k8, k9, hf⟩
  · obtain ⟨-, ⟨y4, y5, y8, y9⟩, -⟩ := g
    rw [y8, if_neg (by decide)]
    unfold townEnd
    rw [gd_good y4, bind_some', if_neg (by decide), lt1_eq, lt1_eq, clear_132, bind_some']
    generalize hM : wup (up (up R' 81 38 (R' 81 39)) 81 57 0) 132 0 3 (fun _ => -1) = M54
    have fM : ∀ c k, c ≠ 81 → c ≠ 132 → M54 c k = R' c k := fun c k z1 z2 => by rw [← hM, wup_c z2, up_c z1, up_c z1]
    have f38 : M54 81 38 = ((1 - b : Nat) : Int) := by rw [← hM, wup_c (by decide), up_k (by decide), up_eq]; exact g39
    have f57 : M54 81 57 = 0 := by rw [← hM, wup_c (by decide), up_eq]
    have f132 : ∀ x, x < 3 → M54 132 x = -1 := fun x hx => by rw [← hM, wup_at, if_pos ⟨rfl, by omega, by omega⟩]
    have fM81 : ∀ k, k ≠ 38 → k ≠ 57 → M54 81 k = R' 81 k := fun k z1 z2 => by rw [← hM, wup_c (by decide), up_k z2, up_k z1]
    obtain ⟨C7, R8, es, el, hT7, fC, fRR⟩ := PI_settle hI fM f38
    have f7 : ∀ c k, c = 1 ∨ c = 27 ∨ 40 ≤ c → C7 c k = C' c k := fun c k z => fC c k (by omega) (by omega) (by omega) (by omega) (by omega) (by omega) (by omega)
    have f8 : ∀ k, R8 81 k = M54 81 k := fun k => fRR 81 k (by decide) (by decide) (by decide) (by decide)
    have i12 : C7 1 2 = (t : Int) := by rw [f7 _ _ (by omega), hc _ _ (by unfold PC; omega) (by omega)]; exact h12
    have i13 : C7 1 3 = ((18 - t : Nat) : Int) := by rw [f7 _ _ (by omega), hc _ _ (by unfold PC; omega) (by omega)]; exact h13
    have inv := inv_good (t := 18 - t) (b := 1 - b) (C := C7) (R := R8) ht' (by omega) (fun i hi => by rw [f7 _ _ (by omega), hc _ _ (by unfold PC; omega) (by omega)]; exact hK i hi) hT7 ((f8 _).trans f38) (by rw [f7 _ _ (by omega)]; exact hc11) (by rw [f8, fM81 _ (by decide) (by decide)]; exact r2) (by
      unfold TimeR
      rw [f7 _ _ (by omega), hc _ _ (by unfold PC; omega) (by omega), f8, fM81 _ (by decide) (by decide), g81 58 (by omega)]
      exact hTm) (by
      unfold FaultR
      rw [f7 _ _ (by omega), f7 _ _ (by omega), f8, f8, fM81 _ (by decide) (by decide), fM81 _ (by decide) (by decide), y4, y5, y8, y9]
      exact ⟨rfl, rfl⟩) ((f8 _).trans f57) (fun x hx => by rw [fRR 132 x (by decide) (by decide) (by decide) (by decide)]; exact f132 x hx)
    rw [show 18 - (18 - t) = t by omega] at inv
    obtain ⟨v, ev, eb⟩ := size_tail inv
    rw [es, bind_some', i12, chk_pos (isTI_of rfl ht), lt1_eq, tn_nat, i13, chk_pos (isTI_of rfl ht'), lt1_eq, tn_nat, lt1_eq, lt1_eq, lt1_eq, boxes_0, bind_some', ev, el, bind_some', eb, bind_some']
    refine ⟨_, _, _, rfl, rfl, inv, ?_⟩
    rw [up_c (by decide), up_c (by decide), up_c (by decide), up_c (by decide), up_c (by decide), up_c (by decide), f7 _ _ (by omega)]
    exact j2
  · have hf0 := hf
    obtain ⟨w1, w2, w3, w4⟩ := hf
    rw [k8, n32_of (by omega) (by omega), if_pos (by omega)]
    unfold townEnd
    rw [fl_good hf0, bind_some', if_pos (by decide)]
    refine ⟨_, _, _, rfl, rfl, inv_bad ht h12 h13 hb h38 hTm hK hTown m1 m2 m3 m4 hBox hc hc11 fX (g81 38 (by omega)) r2 (g81 57 (by omega)) (g81 58 (by omega)) ⟨k8.trans w1.symm, k9.trans w2.symm⟩, j2⟩
