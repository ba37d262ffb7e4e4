/-! ===== a text is read ===== -/
theorem PI_start {t b : Nat} {C R : Mem} (ht : isT t) (hb : b < 2) (c1 : C 27 16 = (t : Int)) (c2 : C 27 10 = 0) (c3 : C 27 13 = 0) (c4 : C 28 1 = 0) (c5 : ∀ k, k < 6 → C t k = 0) (c6 : ∀ k, k < 8 → C (t + 3) k = 0) (c7 : ∀ k, k < 96 → C (t + 7) k = -1) (r1 : R 81 39 = (b : Int)) (r2 : R 81 40 = ((900 * b : Nat) : Int)) (r84 : R 84 b = 0) (r85 : R 85 b = 0) (r86 : R 86 b = 0) (r87 : R 87 b = 0) (r88 : R 88 b = 0) (r89 : R 89 b = 0) (r90 : R 90 b = 0) (r91 : R 91 b = 0) : PI t b 0 C R := by
  have eF : nF R b = 0 := by unfold nF; rw [r84]; rfl
  have eP : nP R b = 0 := by unfold nP; rw [r85]; rfl
  have eR : nR R b = 0 := by unfold nR; rw [r86]; rfl
  have eT : nT R b = 0 := by unfold nT; rw [r88]; rfl
  have eW : nW R b = 0 := by unfold nW; rw [r89]; rfl
  refine ⟨⟨ht, hb, c1, r1⟩, ?_, ⟨?_, ?_, ?_⟩, ?_, ?_, ?_, ?_, ?_, ?_, ?_, ?_⟩
  · unfold NumR
    rw [c5 0 (by omega), c5 1 (by omega), c5 2 (by omega), c5 3 (by omega), c5 4 (by omega), c5 5 (by omega), r84, r85, r86, r88, r89, r90]
    decide
  · rw [eF]; intro i hi; omega
  · rw [eP]; intro i hi; omega
  · rw [eR]; intro i hi; omega
  · intro p hp; rw [eP] at hp; omega
  · unfold TieQ
    rw [eT]
    refine ⟨fun i hi => by omega, fun i j _ hj => by omega, fun p hp => ⟨by rw [c6 p hp]; omega, fun q => ?_⟩⟩
    rw [c6 p hp, show (0 : Int).toNat = 0 from rfl, Nat.zero_testBit]
    rfl
  · unfold WishQ
    rw [eW]
    exact ⟨fun k hk => by omega, fun p r hp hr => ⟨fun k hk => by omega, fun _ => c7 _ (by omega)⟩⟩
  · intro p hp; rw [eP] at hp; omega
  · exact ⟨by omega, c4, r2, by rw [r90]; decide⟩
  · intro r hr; rw [eR] at hr; omega
  · exact ⟨0, by omega, c2, r87, fun a ha => by omega⟩
  · exact ⟨c3.trans r91.symm, Or.inl r91, fun e => by rw [r91] at e; exact absurd e (by decide)⟩
theorem town_parse {t b n : Nat} {C R : Mem} (ht : isT t) (hb : b < 2) (hn : n ≤ 1600) (htape : ∀ i, i < n → C 2 i = R 82 i ∧ -128 ≤ C 2 i ∧ C 2 i < 128) (h2 : R 81 2 = (n : Int)) (h38 : R 81 38 = ((1 - b : Nat) : Int)) (hK : KeptR C) (h15 : C 27 15 = 0 ∨ C 27 15 = 1) : ∃ C' R5 R1 R', N_readInto t (n : Int) C = some C' ∧ M_town R = townEnd R' ∧ TEnd n t b C' R' ∧ JC t C C' ∧ (R5 81 2 = 0 ∧ R5 81 39 = (b : Int) ∧ R5 81 40 = ((900 * b : Nat) : Int)) ∧ (R5 84 b = 0 ∧ R5 85 b = 0 ∧ R5 86 b = 0 ∧ R5 87 b = 0 ∧ R5 88 b = 0 ∧ R5 89 b = 0 ∧ R5 90 b = 0 ∧ R5 91 b = 0) ∧ (∀ c k, c ≠ 83 → ¬ (c = 81 ∧ (k = 2 ∨ k = 3 ∨ k = 4 ∨ k = 5 ∨ k = 7 ∨ k = 39 ∨ k = 40)) → ¬ (84 ≤ c ∧ c ≤ 91 ∧ k = b) → R5 c k = R c k) ∧ M_goOn R5 = some R1 ∧ it M_town_b74 FUEL R1 = some R' := by
  have ht2 : t = 3 ∨ t = 15 := ht
  obtain ⟨C5, e1, ⟨d1, d2, d3, d4, d5⟩, ⟨d6, d7, d8, d9⟩, d10, d11, d12, dF⟩ := begin_C (n := n) (C := C) ht
  obtain ⟨R5, e2, ⟨s1, s2, s3, s4, s5, s6, s7⟩, s8, s9, sF⟩ := begin_R hb hn h2 h38 (fun i hi => by have := htape i hi; omega)
  have f2 : ∀ i, C5 2 i = C 2 i := fun i => dF _ _ (by omega) (by omega) (by omega) (by omega) (by omega) (by omega)
  have f41 : KeptR C5 := fun i hi => by rw [dF _ _ (by omega) (by omega) (by omega) (by omega) (by omega) (by omega)]; exact hK i hi
  obtain ⟨C1, R1, p, k1, k2, k3, k4, k5, k6, k7, k8, k9, k10⟩ := lex (n := n) (C := C5) (R := R5) (a := 0) ⟨hn, d1, fun i hi => by rw [f2]; exact (htape i hi).2⟩ ⟨s3, fun i hi => by rw [s8 i hi, f2]; exact (htape i hi).1.symm⟩ f41 (by omega) d2 s5 (by rw [d3]; decide)
  have hB : TB n C1 R1 := ⟨hn, fun i hi => by rw [k3 _ _ (by decide), f2]; exact (htape i hi).2, by rw [k5 _ _ (by omega)]; exact s3, fun i hi => by rw [k5 _ _ (by omega), k3 _ _ (by decide), f2, s8 i hi]; exact (htape i hi).1.symm, fun i hi => by rw [k3 _ _ (by decide)]; exact f41 i hi⟩
  have hR1 : ∀ c k, c ≠ 81 → R1 c k = R5 c k := fun c k z => k5 c k (by omega)
  have hI : PI t b 0 C1 R1 := by
    obtain ⟨u1, u2, u3, u4, u5, u6, u7, u8⟩ := s9
    refine PI_start ht hb ?_ ?_ ?_ ?_ (fun k hk => ?_) (fun k hk => ?_) (fun k hk => ?_) ?_ ?_ ?_ ?_ ?_ ?_ ?_ ?_ ?_ ?_
    · rw [k3 _ _ (by decide)]; exact d6
    · rw [k3 _ _ (by decide)]; exact d7
    · rw [k3 _ _ (by decide)]; exact d8
    · rw [k3 _ _ (by decide)]; exact d9
    · rw [k3 _ _ (by omega)]; exact d10 k hk
    · rw [k3 _ _ (by omega)]; exact d11 k hk
    · rw [k3 _ _ (by omega)]; exact d12 k hk
    · rw [k5 _ _ (by omega)]; exact s6
    · rw [k5 _ _ (by omega)]; exact s7
    · rw [hR1 _ _ (by decide)]; exact u1
    · rw [hR1 _ _ (by decide)]; exact u2
    · rw [hR1 _ _ (by decide)]; exact u3
    · rw [hR1 _ _ (by decide)]; exact u4
    · rw [hR1 _ _ (by decide)]; exact u5
    · rw [hR1 _ _ (by decide)]; exact u6
    · rw [hR1 _ _ (by decide)]; exact u7
    · rw [hR1 _ _ (by decide)]; exact u8
  have h15' : C1 27 15 = 0 ∨ C1 27 15 = 1 := by
    rw [k3 _ _ (by decide), dF _ _ (by omega) (by omega) (by omega) (by omega) (by omega) (by omega)]
    exact h15
  have hJ1 : JC t C C1 := by
    refine ⟨hI.1.2.2.1, h15', fun c k hc => ?_⟩
    unfold PC at hc
    clear k10
    rw [k3 _ _ (by omega)]
    exact dF _ _ (by omega) (by omega) (by omega) (by omega) (by omega) (by omega)
  have hend : ∃ C' R', it N_readInto_b40 FUEL (0, C1) = some C' ∧ it M_town_b74 FUEL R1 = some R' ∧ TEnd n t b C' R' := by
    rcases k10 with ⟨kd', e', z1, z2, z3, z4, z5, z6, z7, z8⟩ | ⟨z1, z2, z3, z4⟩
    · have g : Gd n kd' p C1 R1 := ⟨k4, ⟨by rw [k5 _ _ (by omega)]; exact s1, by rw [k5 _ _ (by omega)]; exact s2, z6.trans d4, z7.trans d5⟩, k8, k9, ⟨e', z1, z2, z3, z4, z5⟩, z8⟩
      exact town_loop (n := n) (t := t) (b := b) n C1 R1 kd' p 0 0 (by omega) (by omega) (by omega) hB hI g h15' FUEL (by unfold FUEL; omega)
    · have hfb : FB C1 R1 := ⟨1, (p : Int), ⟨z1, z2, z3⟩, ⟨p, by omega, k9⟩, Or.inr ⟨rfl, by rw [k5 _ _ (by omega)]; exact s1, z4, k9⟩⟩
      have hh := town_fb (n := n) (t := t) (b := b) (l := 0) hfb 9999998
      unfold FUEL
      exact hh
  obtain ⟨C', R', i1, i2, i3⟩ := hend
  refine ⟨C', R5, R1, R', ?_, ?_, i3, keepC_it ht hJ1 i1, ⟨s4, s6, s7⟩, s9, sF, k2, i2⟩
  · rw [e1, k1, bind_some', i1]
  · rw [e2, k2, bind_some', i2, bind_some']
