/-! ===== what each answers ===== -/
def allS (R : Mem) (F kn r w : Nat) (n : Nat) : Bool := allB (fun v => !(isB R v && eqv kn v w) || rowI R r v) n
def somS (R : Mem) (F kn r w : Nat) (n : Nat) : Bool := anyB (fun v => isB R v && eqv kn v w && rowI R r v) n
def ansS (R : Mem) (F kn r w : Nat) : Int := if allS R F kn r w (2 ^ F) then 1 else if somS R F kn r w (2 ^ F) then 2 else 0
section ANSW
variable {t b F : Nat} {C R : Mem}
theorem answerOf_eq {M : Mem} (hw : WmR b F M) (hB : ∀ w, w < 2 ^ F → M 111 w = b1 (isB M w)) {p r w kn : Nat} (hp : p < 8) (hr : r < 12) (hwl : w < 2 ^ F) (hkn : kn < 256) (h97 : M 97 (8 * b + p) = (kn : Int)) (hrow : ∀ v, v < 2 ^ F → M 112 (256 * r + v) = b1 (rowI M r v)) : M_answerOf (p : Int) (r : Int) (w : Int) M = some (ansS M F kn r w) := by
  have h8 := two_pow8 hw.2.2.2
  have hb := hw.1
  have L := it_for (body := M_answerOf_b25 (r : Int) (w : Int) M (kn : Int)) (a := (0, 1, 0)) (b := (b1 (somS M F kn r w (2 ^ F)), b1 (allS M F kn r w (2 ^ F)))) (fun i => (b1 (somS M F kn r w i), b1 (allS M F kn r w i), (i : Int))) (2 ^ F) (by unfold FUEL; omega) rfl ?_ ?_
  · unfold M_answerOf
    rw [hw.2.1, chk_pos (by omega), lt1_eq, tn_8, h97, L, bind_some']
    dsimp only
    unfold ansS
    cases allS M F kn r w (2 ^ F) <;> cases somS M F kn r w (2 ^ F) <;> rfl
  · intro i hi
    unfold M_answerOf_b25
    dsimp only
    rw [Wm_eq hw, bind_some', n32_nat (by omega), n32_nat (by omega), if_pos (by omega), chk_pos (by omega), tn_nat, hB i hi]
    have es : somS M F kn r w (i + 1) = (somS M F kn r w i || (isB M i && eqv kn i w && rowI M r i)) := rfl
    have ea : allS M F kn r w (i + 1) = (allS M F kn r w i && (!(isB M i && eqv kn i w) || rowI M r i)) := allB_succ _ _
    rw [es, ea]
    unfold M_spot
    cases hbi : isB M i with
    | false =>
      rw [show b1 false = 0 from rfl, if_neg nz0, bind_some', lt1_eq]
      simp
    | true =>
      rw [show b1 true = 1 from rfl, if_pos nz1]
      cases he : eqv kn i w with
      | false =>
        rw [if_pos (fun z => by rw [(xand_eqv (by omega) (by omega) hkn).mp z] at he; cases he), bind_some', lt1_eq]
        simp
      | true =>
        rw [if_neg (not_not_intro ((xand_eqv (by omega) (by omega) hkn).mpr he)), bind_some', chk_pos (by omega), tn_256, hrow i hi]
        cases somS M F kn r w i <;> cases allS M F kn r w i <;> cases rowI M r i <;> rfl
  · unfold M_answerOf_b25
    dsimp only
    rw [Wm_eq hw, bind_some', if_neg (by omega)]
theorem ansS_congr {M M' : Mem} {kn r w : Nat} (h1 : ∀ v, isB M' v = isB M v) (h2 : ∀ v, rowI M' r v = rowI M r v) : ansS M' F kn r w = ansS M F kn r w := by
  unfold ansS allS somS
  simp only [h1, h2]
def WmA (b F m n : Nat) (R : Mem) : Prop := WmR b F R ∧ (R 85 b = (m : Int) ∧ m ≤ 8) ∧ (R 86 b = (n : Int) ∧ n ≤ 12) ∧ (∀ w, w < 2 ^ F → R 111 w = b1 (isB R w)) ∧ (∀ r, r < n → ∀ v, v < 2 ^ F → R 112 (256 * r + v) = b1 (rowI R r v)) ∧ ∀ p, p < m → R 97 (8 * b + p) = (knR b R p : Int) ∧ knR b R p < 256
theorem WmA_keep {m n : Nat} {R1 : Mem} (h : WmA b F m n R) (hc : ∀ c k, c ≠ 114 → R1 c k = R c k) : WmA b F m n R1 ∧ (∀ v, isB R1 v = isB R v) ∧ (∀ r v, rowI R1 r v = rowI R r v) ∧ ∀ p, knR b R1 p = knR b R p := by
  obtain ⟨⟨h1, h2, h3, h4⟩, ⟨h5, h6⟩, ⟨h7, h8⟩, h9, h10, h11⟩ := h
  have e1 : ∀ v, isB R1 v = isB R v := fun v => by unfold isB; rw [hc _ _ (by decide)]
  have e2 : ∀ r v, rowI R1 r v = rowI R r v := fun r v => by unfold rowI; rw [hc _ _ (by decide)]
  have e3 : ∀ p, knR b R1 p = knR b R p := fun p => by unfold knR; rw [hc _ _ (by decide)]
  exact ⟨⟨⟨h1, by rw [hc _ _ (by decide)]; exact h2, by rw [hc _ _ (by decide)]; exact h3, h4⟩, ⟨by rw [hc _ _ (by decide)]; exact h5, h6⟩, ⟨by rw [hc _ _ (by decide)]; exact h7, h8⟩, fun w hw => by rw [hc _ _ (by decide), e1]; exact h9 w hw, fun r hr v hv => by rw [hc _ _ (by decide), e2]; exact h10 r hr v hv, fun p hp => by rw [hc _ _ (by decide), e3]; exact h11 p hp⟩, e1, e2, e3⟩
/-- the answers in the worlds of base, of the persons and rows that D names -/
def AnsD (b F : Nat) (R0 R1 : Mem) (p r n : Nat) : Prop := ∀ w, w < n → isB R0 w = true → R1 114 (256 * (12 * p + r) + w) = ansS R0 F (knR b R0 p) r w
theorem ansR_w {m n : Nat} (h : WmA b F m n R) {R1 : Mem} (hc : ∀ c k, c ≠ 114 → R1 c k = R c k) {p r : Nat} (hp : p < m) (hr : r < n) : Z (it (M_layWorlds_b148 (p : Int) (r : Int)) FUEL (0, R1)) (fun R2 => onlyW 114 (256 * (12 * p + r)) 256 R1 R2 ∧ AnsD b F R R2 p r (2 ^ F)) := by
  have h8 := two_pow8 h.1.2.2.2
  have hm := h.2.1.2
  have hn := h.2.2.1.2
  refine it_Z (fun i st => st.1 = (i : Int) ∧ onlyW 114 (256 * (12 * p + r)) 256 R1 st.2 ∧ AnsD b F R st.2 p r i) (2 ^ F) (by unfold FUEL; omega) ⟨rfl, onlyW_rfl, fun w hw => by omega⟩ ?_ ?_
  · rintro i ⟨l, M⟩ hi ⟨el, f, g⟩
    dsimp only at el f g
    subst el
    have hcM : ∀ c k, c ≠ 114 → M c k = R c k := fun c k z => (onlyW_c f z).trans (hc c k z)
    obtain ⟨⟨k1, -, -, k4, k5, k6⟩, e1, e2, e3⟩ := WmA_keep h hcM
    unfold M_layWorlds_b148
    dsimp only
    rw [Wm_eq k1, bind_some', n32_nat (by omega), n32_nat (by omega), if_pos (by omega), chk_pos (by omega), tn_nat, k4 i hi, e1]
    cases hb : isB R i with
    | false =>
      rw [show b1 false = 0 from rfl, if_neg nz0, bind_some', lt1_eq]
      refine Z_of (Or.inl ⟨_, rfl, rfl, f, fun w hw hbw => ?_⟩)
      dsimp only
      by_cases q : w = i
      · subst q; rw [hb] at hbw; cases hbw
      · exact g w (by omega) hbw
    | true =>
      rw [show b1 true = 1 from rfl, if_pos nz1, answerOf_eq k1 k4 (by omega) (by omega) hi (k6 p hp).2 (k6 p hp).1 (k5 r hr), bind_some', chk_pos (by omega), lt1_eq, bind_some', lt1_eq, show Int.toNat (256 * (12 * (p : Int) + (r : Int)) + (i : Int)) = 256 * (12 * p + r) + i by omega, e3, ansS_congr e1 (e2 r)]
      refine Z_of (Or.inl ⟨_, rfl, rfl, fun a k z => ?_, fun w hw hbw => ?_⟩)
      · dsimp only
        rw [up_at, if_neg (by omega)]
        exact f a k z
      · dsimp only
        by_cases q : w = i
        · subst q; rw [up_eq]
        · rw [up_k (by omega)]
          exact g w (by omega) hbw
  · rintro ⟨l, M⟩ ⟨el, f, g⟩
    dsimp only at el f g
    subst el
    have hcM : ∀ c k, c ≠ 114 → M c k = R c k := fun c k z => (onlyW_c f z).trans (hc c k z)
    obtain ⟨⟨k1, -, -, k4, k5, k6⟩, e1, e2, e3⟩ := WmA_keep h hcM
    unfold M_layWorlds_b148
    dsimp only
    rw [Wm_eq k1, bind_some', if_neg (by omega)]
    exact Z_of ⟨_, rfl, f, g⟩
theorem ansR_r {m n : Nat} (h : WmA b F m n R) {R1 : Mem} (hc : ∀ c k, c ≠ 114 → R1 c k = R c k) {p : Nat} (hp : p < m) : Z (it (M_layWorlds_b138 (p : Int)) FUEL (0, R1)) (fun R2 => onlyW 114 (256 * (12 * p)) (256 * n) R1 R2 ∧ ∀ r, r < n → AnsD b F R R2 p r (2 ^ F)) := by
  have h8 := two_pow8 h.1.2.2.2
  have hm := h.2.1.2
  have hn := h.2.2.1.2
  refine it_Z (fun i st => st.1 = (i : Int) ∧ onlyW 114 (256 * (12 * p)) (256 * n) R1 st.2 ∧ ∀ r, r < i → AnsD b F R st.2 p r (2 ^ F)) n (by unfold FUEL; omega) ⟨rfl, onlyW_rfl, fun w hw => by omega⟩ ?_ ?_
  · rintro i ⟨l, M⟩ hi ⟨el, f, g⟩
    dsimp only at el f g
    subst el
    have hcM : ∀ c k, c ≠ 114 → M c k = R c k := fun c k z => (onlyW_c f z).trans (hc c k z)
    obtain ⟨⟨k1, -, k3, -⟩, -⟩ := WmA_keep h hcM
    have eM : M_rowMany M = some (n : Int) := by
      unfold M_rowMany
      rw [k1.2.1, chk_pos (by have := k1.1; omega), tn_nat, k3.1]
    unfold M_layWorlds_b138
    dsimp only
    rw [eM, bind_some', n32_nat (by omega), n32_nat (by omega), if_pos (by omega), Z_bind_iff]
    refine Z_mono (ansR_w h hcM hp hi) ?_
    rintro M2 ⟨f2, g2⟩
    rw [lt1_eq]
    refine Z_of (Or.inl ⟨_, rfl, rfl, fun a k z => ?_, fun r hr w hw hbw => ?_⟩)
    · dsimp only
      rw [f2 a k (by omega)]
      exact f a k z
    · dsimp only
      by_cases q : r = i
      · subst q; exact g2 w hw hbw
      · rw [f2 114 _ (by omega)]
        exact g r (by omega) w hw hbw
  · rintro ⟨l, M⟩ ⟨el, f, g⟩
    dsimp only at el f g
    subst el
    have hcM : ∀ c k, c ≠ 114 → M c k = R c k := fun c k z => (onlyW_c f z).trans (hc c k z)
    obtain ⟨⟨k1, -, k3, -⟩, -⟩ := WmA_keep h hcM
    have eM : M_rowMany M = some (n : Int) := by
      unfold M_rowMany
      rw [k1.2.1, chk_pos (by have := k1.1; omega), tn_nat, k3.1]
    unfold M_layWorlds_b138
    dsimp only
    rw [eM, bind_some', if_neg (by omega)]
    exact Z_of ⟨_, rfl, f, g⟩
theorem ansR_p {m n : Nat} (h : WmA b F m n R) : Z (it M_layWorlds_b128 FUEL (0, R)) (fun R2 => (∀ c k, c ≠ 114 → R2 c k = R c k) ∧ ∀ p r, p < m → r < n → AnsD b F R R2 p r (2 ^ F)) := by
  have h8 := two_pow8 h.1.2.2.2
  have hm := h.2.1.2
  have hn := h.2.2.1.2
  refine it_Z (fun i st => st.1 = (i : Int) ∧ (∀ c k, c ≠ 114 → st.2 c k = R c k) ∧ ∀ p r, p < i → r < n → AnsD b F R st.2 p r (2 ^ F)) m (by unfold FUEL; omega) ⟨rfl, fun _ _ _ => rfl, fun p r hp => by omega⟩ ?_ ?_
  · rintro i ⟨l, M⟩ hi ⟨el, f, g⟩
    dsimp only at el f g
    subst el
    obtain ⟨⟨k1, k2, -⟩, -⟩ := WmA_keep h f
    have eM : M_personMany M = some (m : Int) := by
      unfold M_personMany
      rw [k1.2.1, chk_pos (by have := k1.1; omega), tn_nat, k2.1]
    unfold M_layWorlds_b128
    dsimp only
    rw [eM, bind_some', n32_nat (by omega), n32_nat (by omega), if_pos (by omega), Z_bind_iff]
    refine Z_mono (ansR_r h f hi) ?_
    rintro M2 ⟨f2, g2⟩
    rw [lt1_eq]
    refine Z_of (Or.inl ⟨_, rfl, rfl, fun c k z => (onlyW_c f2 z).trans (f c k z), fun p r hp hr w hw hbw => ?_⟩)
    dsimp only
    by_cases q : p = i
    · subst q; exact g2 r hr w hw hbw
    · rw [f2 114 _ (by omega)]
      exact g p r (by omega) hr w hw hbw
  · rintro ⟨l, M⟩ ⟨el, f, g⟩
    dsimp only at el f g
    subst el
    obtain ⟨⟨k1, k2, -⟩, -⟩ := WmA_keep h f
    have eM : M_personMany M = some (m : Int) := by
      unfold M_personMany
      rw [k1.2.1, chk_pos (by have := k1.1; omega), tn_nat, k2.1]
    unfold M_layWorlds_b128
    dsimp only
    rw [eM, bind_some', if_neg (by omega)]
    exact Z_of ⟨_, rfl, f, g⟩
end ANSW
