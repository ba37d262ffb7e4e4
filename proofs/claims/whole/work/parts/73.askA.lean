/-! ===== askings: one question at a level, the reference ===== -/
def RH (R : Mem) (p q r : Nat) (L : Nat → Bool) (M : Mem) : Prop := (∀ a, a < 3 → ∀ w, w < 256 → sb M 127 (12 * (12 * p + q) + 4 * a) w = (L w && decide (ansV R p q w = (a : Int)))) ∧ ∀ w, w < 256 → L w = true → sb M 128 0 w = rowI R r w
theorem byOne_in {R M : Mem} {lv p q r : Nat} {S L : Nat → Bool} (hlv : lv < 3) (hp : p < 8) (hq : q < 12) (hH : RH R p q r L M) (hSL : ∀ w, w < 256 → S w = true → L w = true) (hS : ∀ w, w < 256 → sb M 126 (4 * lv) w = S w) : Z (it (M_byOne_b40 (lv : Int) ((12 * p + q : Nat) : Int)) FUEL (1, 0, M)) (fun x => x.1 = b1 (allB (fun a => tolB R r 256 (aks R S p q a)) 3) ∧ (∀ c j, c ≠ 126 → x.2 c j = M c j) ∧ ∀ j, j < 4 * lv + 4 → x.2 126 j = M 126 j) := by
  refine it_Z (fun i st => st.1 = b1 (allB (fun a => tolB R r 256 (aks R S p q a)) i) ∧ st.2.1 = (i : Int) ∧ (∀ c j, c ≠ 126 → st.2.2 c j = M c j) ∧ ∀ j, j < 4 * lv + 4 → st.2.2 126 j = M 126 j) 3 (by unfold FUEL; omega) ⟨rfl, rfl, fun _ _ _ => rfl, fun _ _ => rfl⟩ ?_ ?_
  · rintro a ⟨x, l, M1⟩ ha ⟨e1, el, h1, h2⟩
    dsimp only at e1 el h1 h2
    subst e1 el
    unfold M_byOne_b40
    dsimp only
    cases hA : allB (fun a => tolB R r 256 (aks R S p q a)) a with
    | false =>
      rw [show b1 false = 0 from rfl, if_neg (fun z => nz0 z.2)]
      refine Z_of (Or.inr ⟨_, rfl, ?_, h1, h2⟩)
      cases h : allB (fun a => tolB R r 256 (aks R S p q a)) 3 with
      | false => rfl
      | true =>
        rw [allB_iff.mpr (fun i hi => allB_iff.mp h i (by omega))] at hA
        cases hA
    | true =>
      have hS1 : ∀ w, w < 256 → sb M1 126 (4 * lv) w = S w := fun w hw => by rw [← hS w hw]; exact sb_eq (h2 _ (by omega))
      have hH1 : ∀ w, w < 256 → sb M1 127 (12 * (12 * p + q) + 4 * a) w = (L w && decide (ansV R p q w = (a : Int))) := fun w hw => by rw [← hH.1 a ha w hw]; exact sb_eq (h1 _ _ (by decide))
      have hT := take_sb (q := 12 * p + q) (a := a) hS1 hH1
      rw [show b1 true = 1 from rfl, n32_nat (by omega), if_pos ⟨by omega, nz1⟩, M_take_eq hlv (by omega) ha, bind_some']
      generalize hM2 : wup M1 126 (4 * lv + 4) 4 (fun i => jand (M1 126 (4 * lv + i)) (M1 127 (12 * (12 * p + q) + 4 * a + i))) = M2 at hT
      have f1 : ∀ c j, c ≠ 126 → M2 c j = M c j := fun c j hc => by rw [← hM2, wup_c hc]; exact h1 c j hc
      have f2 : ∀ j, j < 4 * lv + 4 → M2 126 j = M 126 j := fun j hj => by rw [← hM2, wup_out (Or.inl hj)]; exact h2 j hj
      have hO := M_isOne_eq (R := R) (r := r) (lv := lv + 1) (M := M2) (S := aks R S p q a) (by omega) (fun w hw => by
        rw [hT w hw]
        unfold aks
        cases hs : S w with
        | false => rfl
        | true => rw [hSL w hw hs]; rfl) (fun w hw hs => by
        unfold aks at hs
        rw [Bool.and_eq_true] at hs
        rw [← hH.2 w hw (hSL w hw hs.1)]
        exact sb_eq (f1 _ _ (by decide)))
      rw [show (lv : Int) + 1 = ((lv + 1 : Nat) : Int) by omega, hO, bind_some', lt1_eq]
      refine Z_of (Or.inl ⟨_, rfl, ?_, rfl, f1, f2⟩)
      dsimp only
      rw [allB_succ, hA, Bool.true_and]
  · rintro ⟨x, l, M1⟩ ⟨e1, el, h1, h2⟩
    dsimp only at e1 el h1 h2
    unfold M_byOne_b40
    dsimp only
    rw [el, if_neg (fun z => absurd z.1 (by decide))]
    exact Z_of ⟨_, rfl, e1, h1, h2⟩
