/-! ===== the loops over rows ===== -/
theorem b1_dec (x : Bool) : decide (b1 x = 1) = x := by cases x <;> rfl
section ROWSGO
variable {t b F : Nat} {C R : Mem}
def BaseD (t F : Nat) (C R : Mem) : Prop := (∀ w, w < 2 ^ F → R 111 w = b1 (isB R w)) ∧ (∀ w, 2 ^ F ≤ w → w < 256 → R 111 w = 0) ∧ ∀ w, w < 64 * nwd F → sb C (t + 8) 0 w = (decide (w < 2 ^ F) && isB R w)
theorem fill112 {R' : Mem} {i : Nat} (hwr : WmR b F R') (hi : i < 12) {x : Nat → Bool} (hx : QR F R' 0 x) : Z (it (M_layRows_b46 (i : Int)) FUEL (0, R')) (fun M' => onlyW 112 (256 * i) (2 ^ F) R' M' ∧ ∀ w, w < 2 ^ F → M' 112 (256 * i + w) = b1 (x w)) := by
  have h8 := two_pow8 hwr.2.2.2
  refine fill_loop (x := fun w => b1 (x w)) (by omega) ?_ ?_
  · intro j hj M' f
    unfold M_layRows_b46
    dsimp only
    rw [Wm_eq (Wm_o (by omega) hwr f), bind_some', n32_nat (by omega), n32_nat (by omega), if_pos (by omega)]
    have e := hx j hj
    rw [show 256 * 0 + j = j by omega] at e
    unfold M_spot
    rw [bind_some', chk_pos (by omega), chk_pos (by omega), tn_nat, onlyW_c f (by decide), e, chk_pos (b1_01 _), lt1_eq, lt1_eq, tn_256]
  · intro M' f
    unfold M_layRows_b46
    dsimp only
    rw [Wm_eq (Wm_o (by omega) hwr f), bind_some', if_neg (by omega)]
theorem rows_go (h : StP t b F C R) (hRows : RowsP t b C R) {ph : Nat} (hph : ph < 2) {W : Nat → Prop} (hW : ∀ w, W w → w < 2 ^ F) {C1 R1 : Mem} (hC : FC t C C1) (h6 : C1 t 6 = (nwd F : Int)) (hfr : FR R R1) {D : Nat → Prop} (hD0 : ∀ r, r < nR R b → D r → RowD t F W r C1 R1) (hDD : ph = 1 → ∀ o, o < nR R b → C 37 o = 0 → D o) (hM : ph = 1 → BaseD t F C1 R1 ∧ ∀ w, w < 2 ^ F → (W w ↔ isB R1 w = true)) : ∃ C2 R2, N_fillRows (ph : Int) C1 = some C2 ∧ M_layRows (ph : Int) R1 = some R2 ∧ (∀ a k, a ≠ 30 → a ≠ t + 9 → C2 a k = C1 a k) ∧ (∀ c k, c ≠ 112 → c ≠ 113 → R2 c k = R1 c k) ∧ ∀ r, r < nR R b → (D r ∨ C 37 r = (ph : Int)) → RowD t F W r C2 R2 := by
  have hst := h
  obtain ⟨ht, hb, hN, hFe, h38, h27, hK⟩ := h
  have ht2 : t ≤ 15 := by unfold isT at ht; omega
  have hnR := num_R hN
  have hF8 : F ≤ 8 := by rw [hFe]; exact (num_F hN).2.2
  have h8 := two_pow8 hF8
  have hw4 := pow_wd hF8
  have key := two_for (b1 := N_fillRows_b2 (ph : Int)) (b2 := M_layRows_b2 (ph : Int)) (a := (0, C1)) (c := (0, R1)) (fun i st su => st.1 = (i : Int) ∧ su.1 = (i : Int) ∧ (∀ a k, a ≠ 30 → a ≠ t + 9 → st.2 a k = C1 a k) ∧ (∀ c k, c ≠ 112 → c ≠ 113 → su.2 c k = R1 c k) ∧ ∀ r, r < nR R b → (D r ∨ (r < i ∧ C 37 r = (ph : Int))) → RowD t F W r st.2 su.2) (K := fun C2 R2 => (∀ a k, a ≠ 30 → a ≠ t + 9 → C2 a k = C1 a k) ∧ (∀ c k, c ≠ 112 → c ≠ 113 → R2 c k = R1 c k) ∧ ∀ r, r < nR R b → (D r ∨ C 37 r = (ph : Int)) → RowD t F W r C2 R2) (nR R b) (by unfold FUEL; omega) ⟨rfl, rfl, fun _ _ _ _ => rfl, fun _ _ _ _ => rfl, fun r hr q => hD0 r hr (by rcases q with q | q; exact q; omega)⟩ ?_ ?_
  · obtain ⟨C2, R2, e1, e2, k1, k2, k3⟩ := key
    refine ⟨C2, R2, ?_, ?_, k1, k2, k3⟩
    · unfold N_fillRows; rw [e1]; rfl
    · unfold M_layRows; rw [e2]; rfl
  · rintro i ⟨l, C'⟩ ⟨l', R'⟩ hi ⟨el, el', f1, f2, hJ⟩
    dsimp only at el el' f1 f2 hJ
    subst el el'
    obtain ⟨lc, len, s1, s2, s3, s4, s5, s6, s7, s8, s9⟩ := hRows i hi
    have g1 : FC t C C' := fun a k z1 z2 z3 z4 z5 z6 z7 => (f1 a k z1 z4).trans (hC a k z1 z2 z3 z4 z5 z6 z7)
    have g2 : FR R R' := fun c k z1 z2 z3 z4 => (f2 c k z2 z3).trans (hfr c k z1 z2 z3 z4)
    have g6 : C' t 6 = (nwd F : Int) := (f1 _ _ (by omega) (by omega)).trans h6
    have hwr := StP_R hst g2
    have cS : ∀ a k, 27 ≤ a → a ≠ 30 → a ≠ 31 → C' a k = C a k := fun a k z1 z2 z3 => g1 a k z2 z3 (by omega) (by omega) (by omega) (by omega) (by omega)
    have rS : ∀ c k, c < 111 → R' c k = R c k := fun c k z => g2 c k (by omega) (by omega) (by omega) (by omega)
    have e27 : C' 27 16 = (t : Int) := (cS _ _ (by omega) (by omega) (by omega)).trans h27
    have e2 : C' t 2 = (nR R b : Int) := (g1 t 2 (by omega) (by omega) (by omega) (by omega) (by omega) (by omega) (by omega)).trans hnR.2.1
    have eM : M_rowMany R' = some (nR R b : Int) := by
      unfold M_rowMany
      rw [rS 81 _ (by omega), h38, chk_pos (by omega), tn_nat, rS 86 _ (by omega), hnR.1]
    have n37 : n32 (C 37 i) = C 37 i := by rcases s6 with e | e <;> rw [e] <;> rfl
    unfold N_fillRows_b2 M_layRows_b2
    dsimp only
    rw [e27, chk_pos (isTI_of rfl ht), lt1_eq, tn_nat, e2, n32_nat (by omega), n32_nat (by omega), if_pos (show ((i : Nat) : Int) < (nR R b : Int) by omega), chk_pos (by omega), tn_nat, cS 37 _ (by omega) (by omega) (by omega), eM, bind_some', n32_nat (a := nR R b) (by omega), if_pos (show ((i : Nat) : Int) < (nR R b : Int) by omega), rS 81 _ (by omega), h38, show 12 * (b : Int) + (i : Int) = ((12 * b + i : Nat) : Int) by omega, chk_pos (by omega), tn_nat, rS 92 _ (by omega), s7, n37, n32_nat (a := ph) (by omega)]
    by_cases hq : C 37 i = (ph : Int)
    · rw [if_pos hq, if_neg (not_not_intro hq), cS 35 _ (by omega) (by omega) (by omega), s1, cS 36 _ (by omega) (by omega) (by omega), s2]
      obtain ⟨x, ⟨C3, p1, p2, p3⟩, hu⟩ := row_set hst g1 g6 g2 (Nat.le_of_lt hi) s5 s9 s8 (W := W) hW (fun o ho hfl => by
        refine hJ o (by omega) ?_
        have hph2 : ph = 0 ∨ ph = 1 := by omega
        rcases hph2 with rfl | rfl
        · exact Or.inr ⟨ho, hfl (by omega)⟩
        · obtain ⟨-, -, -, -, -, -, -, y6, -⟩ := hRows o (by omega)
          rcases y6 with y | y
          · exact Or.inl (hDD rfl o (by omega) y)
          · exact Or.inr ⟨ho, y⟩) (fun hfl => by
        have : ph = 1 := by omega
        obtain ⟨⟨m1, m2, m3⟩, m4⟩ := hM this
        have eI : ∀ w, isB R' w = isB R1 w := fun w => by unfold isB; rw [f2 _ _ (by decide) (by decide)]
        refine ⟨fun w hw => by rw [f2 _ _ (by decide) (by decide), eI]; exact m1 w hw, fun w hw => by rw [eI, ← m3 w hw]; exact sb_eq (f1 _ _ (by omega) (by omega)), fun w hw => by rw [eI]; exact m4 w hw⟩)
      obtain ⟨R3, p4, p5, p6⟩ := hu (17 * b + i) (by omega) s3 s4
      obtain ⟨R4, p7, p8, p9⟩ := fill112 (i := i) (b := b) (R' := R3) ⟨hwr.1, by rw [p5 _ _ (by decide)]; exact hwr.2.1, by rw [p5 _ _ (by decide)]; exact hwr.2.2.1, hwr.2.2.2⟩ (by omega) p6
      have e27' : C3 27 16 = (t : Int) := (p2 _ _ (by decide)).trans e27
      have e6' : C3 t 6 = (nwd F : Int) := (p2 _ _ (by omega)).trans g6
      rw [p1, bind_some', e27', chk_pos (isTI_of rfl ht), lt1_eq, tn_nat, e6', chk_pos (by omega), lt1_eq, cpy_wup, bind_some', lt1_eq, show 17 * (b : Int) + (i : Int) = ((17 * b + i : Nat) : Int) by omega, p4, bind_some', p7, bind_some', bind_some', lt1_eq]
      have hrI : ∀ w, w < 2 ^ F → rowI R4 i w = x w := fun w hw => by
        unfold rowI
        rw [p9 w hw, b1_dec]
      refine ⟨_, _, rfl, rfl, rfl, rfl, fun a k z1 z2 => ?_, fun c k z1 z2 => ?_, fun r hr hq2 => ?_⟩
      · dsimp only
        rw [wup_c z2, p2 a k z1]
        exact f1 a k z1 z2
      · dsimp only
        rw [onlyW_c p8 z1, p5 c k z2]
        exact f2 c k z1 z2
      · dsimp only at hq2 ⊢
        by_cases hri : r = i
        · subst hri
          refine ⟨fun w hw => by rw [p9 w hw, hrI w hw], fun w hw => ?_⟩
          have hlt := hW w hw
          rw [hrI w hlt, show Int.toNat ((r : Int) * 4) = 4 * r by omega, sb_wup (by rw [tn_nat]; omega), ← p3 w hw]
          unfold sb
          rw [show Int.toNat 0 + w / 64 = 4 * 0 + w / 64 by omega]
        · obtain ⟨d1, d2⟩ := hJ r hr (by rcases hq2 with z | ⟨z1, z2⟩; exact Or.inl z; exact Or.inr ⟨by omega, z2⟩)
          have e112 : ∀ w, w < 2 ^ F → R4 112 (256 * r + w) = R' 112 (256 * r + w) := fun w hw => by rw [p8 112 _ (by omega), p5 _ _ (by decide)]
          have eI : ∀ w, w < 2 ^ F → rowI R4 r w = rowI R' r w := fun w hw => by unfold rowI; rw [e112 w hw]
          refine ⟨fun w hw => by rw [e112 w hw, eI w hw]; exact d1 w hw, fun w hw => ?_⟩
          have hlt := hW w hw
          rw [eI w hlt, ← d2 w hw, sb_wup_o (by rw [show Int.toNat ((i : Int) * 4) = 4 * i by omega, tn_nat]; omega)]
          exact sb_eq (p2 _ _ (by omega))
    · rw [if_neg hq, if_pos hq, bind_some', lt1_eq, bind_some', lt1_eq]
      refine ⟨_, _, rfl, rfl, rfl, rfl, f1, f2, fun r hr hq2 => ?_⟩
      dsimp only at hq2 ⊢
      refine hJ r hr ?_
      rcases hq2 with z | ⟨z1, z2⟩
      · exact Or.inl z
      · refine Or.inr ⟨?_, z2⟩
        by_cases e : r = i
        · subst e; exact absurd z2 hq
        · omega
  · rintro ⟨l, C'⟩ ⟨l', R'⟩ ⟨el, el', f1, f2, hJ⟩
    dsimp only at el el' f1 f2 hJ
    subst el el'
    have g1 : FC t C C' := fun a k z1 z2 z3 z4 z5 z6 z7 => (f1 a k z1 z4).trans (hC a k z1 z2 z3 z4 z5 z6 z7)
    have g2 : FR R R' := fun c k z1 z2 z3 z4 => (f2 c k z2 z3).trans (hfr c k z1 z2 z3 z4)
    have rS : ∀ c k, c < 111 → R' c k = R c k := fun c k z => g2 c k (by omega) (by omega) (by omega) (by omega)
    have e27 : C' 27 16 = (t : Int) := (g1 _ _ (by omega) (by omega) (by omega) (by omega) (by omega) (by omega) (by omega)).trans h27
    have e2 : C' t 2 = (nR R b : Int) := (g1 t 2 (by omega) (by omega) (by omega) (by omega) (by omega) (by omega) (by omega)).trans hnR.2.1
    have eM : M_rowMany R' = some (nR R b : Int) := by
      unfold M_rowMany
      rw [rS 81 _ (by omega), h38, chk_pos (by omega), tn_nat, rS 86 _ (by omega), hnR.1]
    unfold N_fillRows_b2 M_layRows_b2
    dsimp only
    rw [e27, chk_pos (isTI_of rfl ht), lt1_eq, tn_nat, e2, if_neg (by omega), eM, bind_some', if_neg (by omega)]
    exact ⟨_, _, rfl, rfl, f1, f2, fun r hr q => hJ r hr (by rcases q with q | q; exact Or.inl q; exact Or.inr ⟨hr, q⟩)⟩
end ROWSGO
