/-! ===== the base ===== -/
section BASE
variable {t b F : Nat} {C R : Mem}
theorem base_C {C1 : Mem} (hw : WmC t F C1) (h27 : C1 27 16 = (t : Int)) : Z (it N_settle_b46 FUEL (0, C1)) (fun C2 => onlyW (t + 8) 0 (nwd F) C1 C2 ∧ ∀ w, w < 64 * nwd F → sb C2 (t + 8) 0 w = decide (w < 2 ^ F)) := by
  have ht := hw.1
  have ht2 : t ≤ 15 := by unfold isT at ht; omega
  have hw4 := pow_wd hw.2.2.2
  obtain ⟨z, hz1, hz2⟩ := all_eq hw
  refine Z_mono (fill_loop (c := t + 8) (base := 0) (N := nwd F) (x := fun _ => z) (by omega) ?_ ?_) ?_
  · intro i hi M' f
    have e1 : T_allOfWord t M' = some z := by
      rw [← hz1]
      unfold T_allOfWord
      rw [onlyW_c f (by omega)]
    unfold N_settle_b46
    dsimp only
    rw [onlyW_c f (by omega), h27, chk_pos (isTI_of rfl ht), lt1_eq, tn_nat, onlyW_c f (by omega), hw.2.2.1, n32_nat (by omega), n32_nat (by omega), if_pos (by omega), e1, bind_some', chk_pos (by omega), lt1_eq, lt1_eq, tn_nat, Nat.zero_add]
  · intro M' f
    unfold N_settle_b46
    dsimp only
    rw [onlyW_c f (by omega), h27, chk_pos (isTI_of rfl ht), lt1_eq, tn_nat, onlyW_c f (by omega), hw.2.2.1, if_neg (by omega)]
  · rintro M' ⟨f, g⟩
    refine ⟨f, fun w hw2 => ?_⟩
    unfold sb
    rw [g _ (by omega)]
    exact hz2 w hw2
theorem base_R {R1 : Mem} (hw : WmR b F R1) : Z (it M_layWorlds_b2 FUEL (0, R1)) (fun R2 => onlyW 111 0 256 R1 R2 ∧ ∀ w, w < 256 → R2 111 w = b1 (decide (w < 2 ^ F))) := by
  have h8 := two_pow8 hw.2.2.2
  refine Z_mono (fill_loop (c := 111) (base := 0) (N := 256) (x := fun w => b1 (decide (w < 2 ^ F))) (by omega) ?_ ?_) ?_
  · intro i hi M' f
    unfold M_layWorlds_b2
    dsimp only
    rw [n32_nat (by omega), if_pos (by omega), Wm_eq (Wm_o (by omega) hw f), bind_some', n32_nat (by omega)]
    have e : (if ((i : Nat) : Int) < ((2 ^ F : Nat) : Int) then some (1 : Int) else some 0) = some (b1 (decide (i < 2 ^ F))) := by
      by_cases q : i < 2 ^ F
      · rw [if_pos (by omega), decide_eq_true q]; rfl
      · rw [if_neg (by omega), decide_eq_false q]; rfl
    rw [e, bind_some', chk_pos (by omega), chk_pos (b1_01 _), lt1_eq, lt1_eq, tn_nat, Nat.zero_add]
  · intro M' f
    unfold M_layWorlds_b2
    dsimp only
    rw [if_neg (by decide)]
  · rintro M' ⟨f, g⟩
    refine ⟨f, fun w hw2 => ?_⟩
    have := g w hw2
    rw [Nat.zero_add] at this
    exact this
theorem fill111 {R3 : Mem} (hwr : WmR b F R3) {x y : Nat → Bool} (hx : QR F R3 0 x) (hy : ∀ w, w < 2 ^ F → R3 111 w = b1 (y w)) : Z (it M_layWorlds_b72 FUEL (0, R3)) (fun M' => onlyW 111 0 (2 ^ F) R3 M' ∧ ∀ w, w < 2 ^ F → M' 111 w = b1 (y w && x w)) := by
  have h8 := two_pow8 hwr.2.2.2
  refine Z_mono (fill_loop (c := 111) (base := 0) (N := 2 ^ F) (x := fun w => b1 (y w && x w)) (by omega) ?_ ?_) ?_
  · intro i hi M' f
    unfold M_layWorlds_b72
    dsimp only
    have e := hx i hi
    rw [show 256 * 0 + i = i by omega] at e
    rw [Wm_eq (Wm_o (by omega) hwr f), bind_some', n32_nat (by omega), n32_nat (by omega), if_pos (by omega), chk_pos (by omega), tn_nat, f 111 _ (by omega), hy i hi, onlyW_c f (by decide), e]
    have e2 : ((if ¬ n32 (b1 (y i)) = 0 then chk (0 ≤ ((i : Nat) : Int) ∧ ((i : Nat) : Int) < 20480) (if ¬ n32 (b1 (x i)) = 0 then some true else some false) else some false).bind fun c_55 => if c_55 = true then some (1 : Int) else some 0) = some (b1 (y i && x i)) := by
      rw [chk_pos (by omega)]
      cases y i <;> cases x i <;> rfl
    rw [e2, bind_some', chk_pos (b1_01 _), lt1_eq, lt1_eq, Nat.zero_add]
  · intro M' f
    unfold M_layWorlds_b72
    dsimp only
    rw [Wm_eq (Wm_o (by omega) hwr f), bind_some', if_neg (by omega)]
  · rintro M' ⟨f, g⟩
    refine ⟨f, fun w hw2 => ?_⟩
    have := g w hw2
    rw [Nat.zero_add] at this
    exact this
theorem always_go (h : StP t b F C R) (hAlw : AlwP t b C R) {C1 R1 : Mem} (hC : FC t C C1) (h6 : C1 t 6 = (nwd F : Int)) (hfr : FR R R1) (hD : ∀ r, r < nR R b → C 37 r = 0 → RowD t F (fun w => w < 2 ^ F) r C1 R1) (hB : BaseD t F C1 R1) : ∃ C2 R2, it N_settle_b81 FUEL (0, C1) = some C2 ∧ it M_layWorlds_b41 FUEL (0, R1) = some R2 ∧ (∀ a k, a ≠ 30 → a ≠ t + 8 → C2 a k = C1 a k) ∧ (∀ c k, c ≠ 111 → c ≠ 113 → R2 c k = R1 c k) ∧ BaseD t F C2 R2 := by
  have hst := h
  obtain ⟨ht, hb, hN, hFe, h38, h27, hK⟩ := h
  obtain ⟨na, hna, a1, a2, hal⟩ := hAlw
  have ht2 : t ≤ 15 := by unfold isT at ht; omega
  have hF8 : F ≤ 8 := by rw [hFe]; exact (num_F hN).2.2
  have h8 := two_pow8 hF8
  have hw4 := pow_wd hF8
  refine two_for (b1 := N_settle_b81) (b2 := M_layWorlds_b41) (a := (0, C1)) (c := (0, R1)) (fun i st su => st.1 = (i : Int) ∧ su.1 = (i : Int) ∧ (∀ a k, a ≠ 30 → a ≠ t + 8 → st.2 a k = C1 a k) ∧ (∀ c k, c ≠ 111 → c ≠ 113 → su.2 c k = R1 c k) ∧ BaseD t F st.2 su.2) (K := fun C2 R2 => (∀ a k, a ≠ 30 → a ≠ t + 8 → C2 a k = C1 a k) ∧ (∀ c k, c ≠ 111 → c ≠ 113 → R2 c k = R1 c k) ∧ BaseD t F C2 R2) na (by unfold FUEL; omega) ⟨rfl, rfl, fun _ _ _ _ => rfl, fun _ _ _ _ => rfl, hB⟩ ?_ ?_
  · rintro i ⟨l, C'⟩ ⟨l', R'⟩ hi ⟨el, el', f1, f2, hJ⟩
    dsimp only at el el' f1 f2 hJ
    subst el el'
    obtain ⟨lc, len, s1, s2, s3, s4, s5, s8, s9⟩ := hal i hi
    have g1 : FC t C C' := fun a k z1 z2 z3 z4 z5 z6 z7 => (f1 a k z1 z3).trans (hC a k z1 z2 z3 z4 z5 z6 z7)
    have g2 : FR R R' := fun c k z1 z2 z3 z4 => (f2 c k z1 z3).trans (hfr c k z1 z2 z3 z4)
    have g6 : C' t 6 = (nwd F : Int) := (f1 _ _ (by omega) (by omega)).trans h6
    have hwr := StP_R hst g2
    have hwc := StP_C hst g1 g6
    have cS : ∀ a k, 27 ≤ a → a ≠ 30 → a ≠ 31 → C' a k = C a k := fun a k z1 z2 z3 => g1 a k z2 z3 (by omega) (by omega) (by omega) (by omega) (by omega)
    have rS : ∀ c k, c < 111 → R' c k = R c k := fun c k z => g2 c k (by omega) (by omega) (by omega) (by omega)
    have e27 : C' 27 16 = (t : Int) := (cS _ _ (by omega) (by omega) (by omega)).trans h27
    obtain ⟨b1', b2', b3'⟩ := hJ
    obtain ⟨x, ⟨C3, p1, p2, p3⟩, hu⟩ := row_set hst g1 g6 g2 (Nat.le_refl _) s5 s9 s8 (W := fun w => w < 2 ^ F) (fun w hw => hw) (fun o ho hfl => by
      obtain ⟨d1, d2⟩ := hD o ho (hfl id)
      have eI : ∀ w, rowI R' o w = rowI R1 o w := fun w => by unfold rowI; rw [f2 _ _ (by decide) (by decide)]
      exact ⟨fun w hw => by rw [f2 _ _ (by decide) (by decide), eI]; exact d1 w hw, fun w hw => by rw [eI, ← d2 w hw]; exact sb_eq (f1 _ _ (by omega) (by omega))⟩) (fun hfl => hfl.elim)
    obtain ⟨R3, p4, p5, p6⟩ := hu (17 * b + 12 + i) (by omega) s3 s4
    have hwr3 : WmR b F R3 := ⟨hwr.1, by rw [p5 _ _ (by decide)]; exact hwr.2.1, by rw [p5 _ _ (by decide)]; exact hwr.2.2.1, hwr.2.2.2⟩
    obtain ⟨R4, p7, p8, p9⟩ := fill111 hwr3 p6 (y := isB R') (fun w hw => by rw [p5 _ _ (by decide)]; exact b1' w hw)
    have e27' : C3 27 16 = (t : Int) := (p2 _ _ (by decide)).trans e27
    have e6' : C3 t 6 = (nwd F : Int) := (p2 _ _ (by omega)).trans g6
    have hkb := T_keepBase_eq (M := C3) (c := 30) (o := 0) (L := 100) ht (by omega) (by omega) e6' hF8 aJ30 (by omega) (by omega)
    rw [show ((0 : Nat) : Int) = 0 from rfl] at hkb
    obtain ⟨C4, p10, p11, p12⟩ := hkb
    have e27'' : C4 27 16 = (t : Int) := (onlyW_c p11 (by decide)).trans e27'
    have e6'' : C4 t 6 = (nwd F : Int) := (onlyW_c p11 (by omega)).trans e6'
    unfold N_settle_b81 M_layWorlds_b41
    dsimp only
    rw [cS 27 10 (by omega) (by omega) (by omega), a1, n32_nat (by omega), n32_nat (by omega), if_pos (show ((i : Nat) : Int) < (na : Int) by omega), e27, chk_pos (isTI_of rfl ht), lt1_eq, chk_pos (show (0 : Int) ≤ (i : Int) ∧ (i : Int) < 4 by omega), tn_nat, tn_nat, cS 38 _ (by omega) (by omega) (by omega), s1, cS 39 _ (by omega) (by omega) (by omega), s2, p1, bind_some', e27', chk_pos (isTI_of rfl ht), lt1_eq, tn_nat, p10, bind_some', e27'', chk_pos (isTI_of rfl ht), lt1_eq, tn_nat, e6'', chk_pos (by omega), lt1_eq, lt1_eq, cpy_wup, rS 81 38 (by omega), h38, chk_pos (by omega), tn_nat, tn_nat, rS 87 _ (by omega), a2, n32_nat (a := na) (by omega), if_pos (show ((i : Nat) : Int) < (na : Int) by omega), show 17 * (b : Int) + 12 + (i : Int) = ((17 * b + 12 + i : Nat) : Int) by omega, p4, bind_some', p7, bind_some', lt1_eq]
    have eI : ∀ w, w < 2 ^ F → isB R4 w = (isB R' w && x w) := fun w hw => by
      unfold isB at p9 ⊢
      rw [p9 w hw, b1_dec]
    refine ⟨_, _, rfl, rfl, rfl, rfl, fun a k z1 z2 => ?_, fun c k z1 z2 => ?_, fun w hw => ?_, fun w h1 h2 => ?_, fun w hw => ?_⟩
    · dsimp only
      rw [wup_c z2, onlyW_c p11 z1, p2 a k z1]
      exact f1 a k z1 z2
    · dsimp only
      rw [onlyW_c p8 z1, p5 c k z2]
      exact f2 c k z1 z2
    · dsimp only
      rw [eI w hw]
      exact p9 w hw
    · dsimp only
      rw [p8 111 _ (by omega), p5 _ _ (by decide)]
      exact b2' w h1 h2
    · dsimp only
      have e0 : sb (wup C4 (t + 8) (Int.toNat 0) (nwd F) (fun i => C4 30 (Int.toNat 0 + i))) (t + 8) 0 w = sb C4 30 0 w := by
        have := sb_wup (M := C4) (c := t + 8) (o := 0) (n := nwd F) (f := fun i => C4 30 (Int.toNat 0 + i)) hw
        exact this
      rw [e0, p12 w hw, show sb C3 (t + 8) 0 w = sb C' (t + 8) 0 w from sb_eq (p2 _ _ (by omega)), b3' w hw]
      by_cases q : w < 2 ^ F
      · rw [decide_eq_true q, eI w q, Bool.true_and, Bool.true_and, Bool.and_comm]
        congr 1
        exact p3 w q
      · rw [decide_eq_false q, Bool.false_and, Bool.false_and, Bool.and_false]
  · rintro ⟨l, C'⟩ ⟨l', R'⟩ ⟨el, el', f1, f2, hJ⟩
    dsimp only at el el' f1 f2 hJ
    subst el el'
    have g1 : FC t C C' := fun a k z1 z2 z3 z4 z5 z6 z7 => (f1 a k z1 z3).trans (hC a k z1 z2 z3 z4 z5 z6 z7)
    have g2 : FR R R' := fun c k z1 z2 z3 z4 => (f2 c k z1 z3).trans (hfr c k z1 z2 z3 z4)
    have rS : ∀ c k, c < 111 → R' c k = R c k := fun c k z => g2 c k (by omega) (by omega) (by omega) (by omega)
    unfold N_settle_b81 M_layWorlds_b41
    dsimp only
    rw [g1 27 10 (by omega) (by omega) (by omega) (by omega) (by omega) (by omega) (by omega), a1, if_neg (by omega), rS 81 38 (by omega), h38, chk_pos (by omega), tn_nat, rS 87 _ (by omega), a2, if_neg (by omega)]
    exact ⟨_, _, rfl, rfl, f1, f2, hJ⟩
end BASE
