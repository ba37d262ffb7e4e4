/-! ===== a new object: all that holds between calls, holds ===== -/
theorem pass_0 {C : Mem} (h2 : C 40 2 = 0) (h3 : C 40 3 = 0) (h4 : C 40 4 = 23) : K_pass C = some (up (up C 40 5 0) 40 4 23) := by
  have e : it K_pass_b10 FUEL C = some C := by
    show it K_pass_b10 (9999999 + 1) C = _
    refine it_last ?_
    unfold K_pass_b10
    dsimp only
    rw [h3, h2, if_neg (by decide), bind_some', if_neg (by decide)]
  unfold K_pass
  rw [h4, if_neg (by decide), e, bind_some', h3, lt1_eq, up_k (by decide), up_k (by decide), h2, h3, if_pos (by decide), lt1_eq]
theorem wrap_132 {M : Mem} : it M_init81_b475 FUEL (0, M) = some (wup M 132 0 3 (fun _ => -1)) := by
  refine it_for (fun i => ((i : Int), wup M 132 0 i (fun _ => -1))) 3 (by unfold FUEL; omega) (by rw [wup_0]; rfl) ?_ ?_
  · intro i hi
    have e := wup_s (M := M) (c := 132) (o := 0) (i := i) (f := fun _ => -1) (v := -1) rfl
    rw [Nat.zero_add] at e
    unfold M_init81_b475
    dsimp only
    rw [n32_nat (by omega), if_pos (by omega), chk_pos (by omega), lt1_eq, lt1_eq, tn_nat, e]
    rfl
  · unfold M_init81_b475
    dsimp only
    rw [n32_nat (by omega), if_neg (by omega)]
/-- the class's empty town is read -/
theorem init_read {M : Mem} : ∃ C6, N_readInto 3 0 M = some C6 ∧ (C6 40 8 = 0 ∧ C6 40 9 = -1) ∧ (∀ c k, c ≠ 40 → c ≠ 28 → c ≠ 3 → c ≠ 6 → c ≠ 10 → ¬ (c = 27 ∧ (k = 10 ∨ k = 13 ∨ k = 16)) → C6 c k = M c k) ∧ ∀ R : Mem, R 81 39 = 0 → R 81 40 = 0 → R 84 0 = 0 → R 85 0 = 0 → R 86 0 = 0 → R 87 0 = 0 → R 88 0 = 0 → R 89 0 = 0 → R 90 0 = 0 → R 91 0 = 0 → PI 3 0 0 C6 R := by
  obtain ⟨C5, e1, ⟨d1, d2, d3, d4, d5⟩, ⟨d6, d7, d8, d9⟩, d10, d11, d12, dF⟩ := begin_C (t := 3) (n := 0) (C := M) (Or.inl rfl)
  have ep := pass_0 d1 d2 d3
  generalize hC6 : up (up C5 40 5 0) 40 4 23 = C6 at ep
  have f6 : ∀ c k, ¬ (c = 40 ∧ (k = 4 ∨ k = 5)) → C6 c k = C5 c k := fun c k z => by rw [← hC6, up_at, if_neg (by omega), up_at, if_neg (by omega)]
  have h4 : C6 40 4 = 23 := by rw [← hC6, up_eq]
  have el : it N_readInto_b40 FUEL (0, C6) = some C6 := by
    show it N_readInto_b40 (9999999 + 1) (0, C6) = _
    refine it_last (into_end ?_)
    unfold K_goesOn
    rw [h4, if_neg (by decide)]
  refine ⟨C6, ?_, ⟨?_, ?_⟩, fun c k z1 z2 z3 z4 z5 z6 => ?_, fun R r39 r40 r84 r85 r86 r87 r88 r89 r90 r91 => ?_⟩
  · have e1' : N_readInto 3 0 M = _ := e1
    rw [e1', ep, bind_some', el]
  · rw [f6 _ _ (by omega)]; exact d4
  · rw [f6 _ _ (by omega)]; exact d5
  · rw [f6 _ _ (by omega)]
    exact dF c k z1 z2 z3 z4 z5 z6
  · refine PI_start (Or.inl rfl) (by omega) ?_ ?_ ?_ ?_ (fun k hk => ?_) (fun k hk => ?_) (fun k hk => ?_) r39 r40 r84 r85 r86 r87 r88 r89 r90 r91
    · rw [f6 _ _ (by omega)]; exact d6
    · rw [f6 _ _ (by omega)]; exact d7
    · rw [f6 _ _ (by omega)]; exact d8
    · rw [f6 _ _ (by omega)]; exact d9
    · rw [f6 _ _ (by omega)]; exact d10 k hk
    · rw [f6 _ _ (by omega)]; exact d11 k hk
    · rw [f6 _ _ (by omega)]; exact d12 k hk
theorem init_inv : ∃ C7 M, X_init1 (fun _ _ => 0) = some C7 ∧ M_init81 C7 = some M ∧ Inv M M ∧ (M 27 15 = 0 ∨ M 27 15 = 1) := by
  obtain ⟨M1, eX, m12, m13, mK, mU⟩ := init_pre (M := fun _ _ => 0)
  obtain ⟨C6, e6, ⟨g8, g9⟩, f6, hPI⟩ := init_read (M := M1)
  obtain ⟨C7, -, es, -, -, fC, -⟩ := PI_settle (R1 := fun _ _ => 0) (hPI (fun _ _ => 0) rfl rfl rfl rfl rfl rfl rfl rfl rfl rfl) (fun _ _ _ _ => rfl) rfl
  rw [e6, bind_some', es, bind_some'] at eX
  have f7 : ∀ c k, c = 1 ∨ c = 2 ∨ c = 27 ∨ 40 ≤ c → C7 c k = C6 c k := fun c k z => fC c k (by omega) (by omega) (by omega) (by omega) (by omega) (by omega) (by omega)
  have f71 : ∀ c k, c = 1 ∨ c = 2 ∨ (c = 27 ∧ k = 15) ∨ 41 ≤ c → C7 c k = M1 c k := fun c k z => by
    rw [f7 c k (by omega)]
    exact f6 c k (by omega) (by omega) (by omega) (by omega) (by omega) (by omega)
  have z7 : ∀ c k, Ui c k → ¬ (c = 1 ∧ (k = 2 ∨ k = 3)) → C7 c k = 0 := fun c k h hn => by
    rw [f71 c k (by unfold Ui at h; omega)]
    exact mU c k h hn
  obtain ⟨M58, eM, hP, h5⟩ := init_R1 (M := C7)
  have w : ∀ c k, Wi c k → 81 ≤ c → M58 c k = 0 := fun c k h h81 => by
    rw [hP c k h]
    exact z7 c k (Or.inl h81) (by omega)
  have h39 : M58 81 39 = ((0 : Nat) : Int) := w 81 39 (by unfold Wi; omega) (by omega)
  rw [clearBank_eq (by omega) h39, bind_some'] at eM
  generalize hR : up (up (up (up (up (up (up (up (up M58 84 0 0) 85 0 0) 86 0 0) 87 0 0) 88 0 0) 89 0 0) 90 0 0) 91 0 0) 81 40 (900 * ((0 : Nat) : Int)) = R59 at eM
  have r40 : R59 81 40 = 0 := by rw [← hR, up_eq]; rfl
  have rf : ∀ c k, ¬ (c = 81 ∧ k = 40) → ¬ (84 ≤ c ∧ c ≤ 91 ∧ k = 0) → R59 c k = M58 c k := fun c k z1 z2 => by
    rw [← hR, up_at, if_neg z1, up_at, if_neg (by omega), up_at, if_neg (by omega), up_at, if_neg (by omega), up_at, if_neg (by omega), up_at, if_neg (by omega), up_at, if_neg (by omega), up_at, if_neg (by omega), up_at, if_neg (by omega)]
  have rz : ∀ c, 84 ≤ c → c ≤ 91 → R59 c 0 = 0 := by
    intro c z1 z2
    have hc : c = 84 ∨ c = 85 ∨ c = 86 ∨ c = 87 ∨ c = 88 ∨ c = 89 ∨ c = 90 ∨ c = 91 := by omega
    rcases hc with rfl | rfl | rfl | rfl | rfl | rfl | rfl | rfl <;> rw [← hR] <;> (repeat first | rw [up_at, if_pos (by omega)] | rw [up_at, if_neg (by omega)])
  have r81 : ∀ k, k = 2 ∨ k = 3 ∨ k = 4 ∨ k = 38 ∨ k = 39 ∨ k = 57 ∨ k = 58 → R59 81 k = 0 := fun k hk => by
    rw [rf 81 k (by omega) (by omega)]
    exact w 81 k (by unfold Wi; omega) (by omega)
  obtain ⟨C7', R60, es', el, hT, fC', fRR⟩ := PI_settle (R1 := R59) (hPI R59 (r81 39 (by omega)) r40 (rz 84 (by omega) (by omega)) (rz 85 (by omega) (by omega)) (rz 86 (by omega) (by omega)) (rz 87 (by omega) (by omega)) (rz 88 (by omega) (by omega)) (rz 89 (by omega) (by omega)) (rz 90 (by omega) (by omega)) (rz 91 (by omega) (by omega))) (fun _ _ _ _ => rfl) (r81 38 (by omega))
  obtain rfl : C7 = C7' := by rw [es] at es'; exact Option.some.inj es'
  rw [el, bind_some', wrap_132, bind_some'] at eM
  generalize hM : wup R60 132 0 3 (fun _ => -1) = M at eM
  have fM : ∀ c k, c ≠ 132 → M c k = R60 c k := fun c k z => by rw [← hM, wup_c z]
  have f132 : ∀ x, x < 3 → M 132 x = -1 := fun x hx => by rw [← hM, wup_at, if_pos ⟨rfl, by omega, by omega⟩]
  have fR : ∀ k, M 81 k = R59 81 k := fun k => by rw [fM _ _ (by decide)]; exact fRR 81 k (by decide) (by decide) (by decide) (by decide)
  have fL : ∀ c k, c ≤ 80 → M c k = C7 c k := fun c k z => by
    rw [fM _ _ (by omega), fRR c k (by omega) (by omega) (by omega) (by omega), rf c k (by omega) (by omega), hP c k (Or.inl (by omega))]
  have fz : ∀ c k, c ≤ 80 → Ui c k → ¬ (c = 1 ∧ (k = 2 ∨ k = 3)) → M c k = 0 := fun c k z h hn => by
    rw [fL c k z]
    exact z7 c k h hn
  refine ⟨C7, M, eX, eM, ⟨3, 0, Or.inl rfl, ?_, ?_, by omega, ?_, ⟨0, ?_, ?_, by omega, fun i hi => by omega⟩, ?_, ?_, fun i hi => ?_, Town_keep ⟨fun k => fM _ k (by decide), fun k => fM _ k (by decide), fun k => fM _ k (by decide), fun k => fM _ k (by decide), fun k => fM _ k (by decide), fun k => fM _ k (by decide), fun k => fM _ k (by decide), fun k => fM _ k (by decide), fun k => fM _ k (by decide), fun k => fM _ k (by decide), fun k => fM _ k (by decide), fun k => fM _ k (by decide), fun k => fM _ k (by decide), fun k => fM _ k (by decide), fun k => fM _ k (by decide), fun k => fM _ k (by decide), funext fun k => fM _ k (by decide), funext fun k => fM _ k (by decide), fun k => fM _ k (by decide), fun k => fM _ k (by decide), fun k => fM _ k (by decide)⟩ (fun c k z1 z2 => fL c k (by omega)) hT, ⟨0, by omega, ?_, ?_, fun i hi => by omega⟩, fun x hx => Or.inl ⟨?_, f132 x hx⟩⟩, Or.inl ?_⟩
  · rw [fL _ _ (by omega), f71 _ _ (by omega)]; exact m12
  · rw [fL _ _ (by omega), f71 _ _ (by omega)]; exact m13
  · rw [fR]; exact r81 38 (by omega)
  · exact fz 1 1 (by omega) (by unfold Ui; omega) (by omega)
  · rw [fR]; exact r81 2 (by omega)
  · unfold TimeR
    rw [fR, r81 58 (by omega), fz 1 12 (by omega) (by unfold Ui; omega) (by omega)]
    decide
  · unfold FaultR
    rw [fR, fR, r81 4 (by omega), fL 40 8 (by omega), fL 40 9 (by omega), f7 40 8 (by omega), f7 40 9 (by omega), g8, g9, rf 81 5 (by omega) (by omega), h5]
    exact ⟨rfl, rfl⟩
  · rw [fL _ _ (by omega), f71 _ _ (by omega)]; exact mK i hi
  · exact fz 42 0 (by omega) (by unfold Ui; omega) (by omega)
  · rw [fR]; exact r81 57 (by omega)
  · obtain rfl | rfl | rfl : x = 0 ∨ x = 1 ∨ x = 2 := by omega
    · exact fz 50 1 (by omega) (by unfold Ui; omega) (by omega)
    · exact fz 57 1 (by omega) (by unfold Ui; omega) (by omega)
    · exact fz 64 1 (by omega) (by unfold Ui; omega) (by omega)
  · exact fz 27 15 (by omega) (by unfold Ui; omega) (by omega)
